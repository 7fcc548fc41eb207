/-! the text of every method over the small memory (written by gen.py) -/
def BJ0_coder_7d493_14 (s0 : Int) (μ : Mem) : Rz := RTB s0 μ
def BJ0_coder_7d493_0 (x0 : Int) (μ : Mem) : Rz := if (1 : Int) = 0 then (BJ0_coder_7d493_14 1 μ) else (GF 9 1 x0 μ fun t101 => BJ0_coder_7d493_14 t101 μ)
def FJ0_coder_7d493 (a0 : Int) (μ : Mem) : Rz := BJ0_coder_7d493_0 a0 μ
def BJ0_length_8abf5_0 (x0 : Int) (μ : Mem) : Rz := GF 9 0 x0 μ fun t101 => LN 0 t101 μ fun t102 => KD 9 x0 μ (CL (FJ0_coder_7d493 x0 μ) fun t103 u104 => RT (bShr t102 t103) u104)
def FJ0_length_8abf5 (a0 : Int) (μ : Mem) : Rz := BJ0_length_8abf5_0 a0 μ
def BJ9_max_7cf53_10 (s0 : Int) (μ : Mem) : Rz := RT s0 μ
def BJ9_max_7cf53_0 (x0 x1 : Int) (μ : Mem) : Rz := if x0 < x1 then (BJ9_max_7cf53_10 x1 μ) else (BJ9_max_7cf53_10 x0 μ)
def FJ9_max_7cf53 (a0 a1 : Int) (μ : Mem) : Rz := BJ9_max_7cf53_0 a0 a1 μ
def BJ8_newLength_cabcc_21 (x0 x1 : Int) (μ : Mem) : Rz := none
def BJ8_newLength_cabcc_0 (x0 x1 x2 : Int) (μ : Mem) : Rz := CL (FJ9_max_7cf53 x1 x2 μ) fun t101 u102 => LT (w32 (x0 + t101)) fun x103 => if x103 ≤ 0 then (BJ8_newLength_cabcc_21 x0 x1 u102) else (if 2147483639 < x103 then (BJ8_newLength_cabcc_21 x0 x1 u102) else (RT x103 u102))
def FJ8_newLength_cabcc (a0 a1 a2 : Int) (μ : Mem) : Rz := BJ8_newLength_cabcc_0 a0 a1 a2 μ
def BJ5_newCapacity_0f7a4_0 (x0 x1 : Int) (μ : Mem) : Rz := GF 10 0 x0 μ fun t101 => LN 0 t101 μ fun t102 => GF 10 1 x0 μ fun t103 => LT (bShl x1 t103) fun x104 => LT (w32 (x104 - t102)) fun x105 => GF 10 1 x0 μ fun t106 => CL (FJ8_newLength_cabcc t102 x105 (w32 (t102 + (bShl 2 t106))) μ) fun t107 u108 => if ¬ t107 = 2147483647 then (GF 10 1 x0 u108 fun t109 => RT (bShr t107 t109) u108) else none
def FJ5_newCapacity_0f7a4 (a0 a1 : Int) (μ : Mem) : Rz := BJ5_newCapacity_0f7a4_0 a0 a1 μ
def BJ9_min_7cf53_10 (s0 : Int) (μ : Mem) : Rz := RT s0 μ
def BJ9_min_7cf53_0 (x0 x1 : Int) (μ : Mem) : Rz := if x1 < x0 then (BJ9_min_7cf53_10 x1 μ) else (BJ9_min_7cf53_10 x0 μ)
def FJ9_min_7cf53 (a0 a1 : Int) (μ : Mem) : Rz := BJ9_min_7cf53_0 a0 a1 μ
def BJ7_copyOf_9075b_0 (x0 x1 : Int) (μ : Mem) : Rz := LN 0 x0 μ fun t101 => if ¬ x1 = t101 then (NAn 0 x1 μ fun t102 u103 => LN 0 x0 u103 fun t104 => CL (FJ9_min_7cf53 t104 x1 u103) fun t105 u106 => ACK x0 0 t102 0 t105 u106 fun u107 => RT t102 u107) else (CLN x0 μ fun t108 u109 => KD 19 t108 u109 (RT t108 u109))
def FJ7_copyOf_9075b (a0 a1 : Int) (μ : Mem) : Rz := BJ7_copyOf_9075b_0 a0 a1 μ
def BJ5_ensureCapacityInternal_d00df_38 (μ : Mem) : Rz := RT 0 μ
def BJ5_ensureCapacityInternal_d00df_0 (x0 x1 : Int) (μ : Mem) : Rz := GF 10 0 x0 μ fun t101 => LN 0 t101 μ fun t102 => GF 10 1 x0 μ fun t103 => LT (bShr t102 t103) fun x104 => if w32 (x1 - x104) ≤ 0 then (BJ5_ensureCapacityInternal_d00df_38 μ) else (GF 10 0 x0 μ fun t105 => KD 10 x0 μ (CL (FJ5_newCapacity_0f7a4 x0 x1 μ) fun t106 u107 => GF 10 1 x0 u107 fun t108 => CL (FJ7_copyOf_9075b t105 (bShl t106 t108) u107) fun t109 u110 => PF 10 0 x0 t109 u110 fun u111 => BJ5_ensureCapacityInternal_d00df_38 u111))
def FJ5_ensureCapacityInternal_d00df (a0 a1 : Int) (μ : Mem) : Rz := BJ5_ensureCapacityInternal_d00df_0 a0 a1 μ
def BJ0_getBytes_840e7_43 (μ : Mem) : Rz := RT 0 μ
def BJ0_getBytes_840e7_0 (x0 x1 x2 x3 : Int) (μ : Mem) : Rz := KD 9 x0 μ (CL (FJ0_coder_7d493 x0 μ) fun t101 u102 => if ¬ t101 = x3 then (GF 9 0 x0 u102 fun t103 => GF 9 0 x0 u102 fun t104 => LN 0 t104 u102 fun t105 => none) else (GF 9 0 x0 u102 fun t106 => GF 9 0 x0 u102 fun t107 => LN 0 t107 u102 fun t108 => ACK t106 0 x1 (bShl x2 x3) t108 u102 fun u109 => BJ0_getBytes_840e7_43 u109))
def FJ0_getBytes_840e7 (a0 a1 a2 a3 : Int) (μ : Mem) : Rz := BJ0_getBytes_840e7_0 a0 a1 a2 a3 μ
def BJ5_inflateIfNeededFor_a7421_21 (μ : Mem) : Rz := RT 0 μ
def BJ5_inflateIfNeededFor_a7421_0 (x0 x1 : Int) (μ : Mem) : Rz := if (1 : Int) = 0 then (BJ5_inflateIfNeededFor_a7421_21 μ) else (GF 10 1 x0 μ fun t101 => KD 9 x1 μ (CL (FJ0_coder_7d493 x1 μ) fun t102 u103 => if t101 = t102 then (BJ5_inflateIfNeededFor_a7421_21 u103) else none))
def FJ5_inflateIfNeededFor_a7421 (a0 a1 : Int) (μ : Mem) : Rz := BJ5_inflateIfNeededFor_a7421_0 a0 a1 μ
def BJ5_putStringAt_47b60_0 (x0 x1 x2 : Int) (μ : Mem) : Rz := KD 10 x0 μ (CL (FJ5_inflateIfNeededFor_a7421 x0 x2 μ) fun _ u102 => GF 10 0 x0 u102 fun t103 => GF 10 1 x0 u102 fun t104 => KD 9 x2 u102 (CL (FJ0_getBytes_840e7 x2 t103 x1 t104 u102) fun _ u106 => RT 0 u106))
def FJ5_putStringAt_47b60 (a0 a1 a2 : Int) (μ : Mem) : Rz := BJ5_putStringAt_47b60_0 a0 a1 a2 μ
def BJ5_append_cf1ce_0 (x0 x1 : Int) (μ : Mem) : Rz := if ¬ x1 = 0 then (KD 9 x1 μ (CL (FJ0_length_8abf5 x1 μ) fun t101 u102 => GF 10 3 x0 u102 fun t103 => KD 10 x0 u102 (CL (FJ5_ensureCapacityInternal_d00df x0 (w32 (t103 + t101)) u102) fun _ u105 => GF 10 3 x0 u105 fun t106 => KD 10 x0 u105 (CL (FJ5_putStringAt_47b60 x0 t106 x1 u105) fun _ u108 => GF 10 3 x0 u108 fun t109 => PF 10 3 x0 (w32 (t109 + t101)) u108 fun u110 => RT x0 u110)))) else none
def FJ5_append_cf1ce (a0 a1 : Int) (μ : Mem) : Rz := BJ5_append_cf1ce_0 a0 a1 μ
def BJ4_append_15ec4_0 (x0 x1 : Int) (μ : Mem) : Rz := KD 10 x0 μ (CL (FJ5_append_cf1ce x0 x1 μ) fun t101 u102 => RT x0 u102)
def FJ4_append_15ec4 (a0 a1 : Int) (μ : Mem) : Rz := BJ4_append_15ec4_0 a0 a1 μ
def BJ5_isLatin1_aae02_18 (s0 : Int) (μ : Mem) : Rz := RTZ s0 μ
def BJ5_isLatin1_aae02_17 (μ : Mem) : Rz := BJ5_isLatin1_aae02_18 0 μ
def BJ5_isLatin1_aae02_0 (x0 : Int) (μ : Mem) : Rz := if (1 : Int) = 0 then (BJ5_isLatin1_aae02_17 μ) else (GF 10 1 x0 μ fun t101 => if ¬ t101 = 0 then (BJ5_isLatin1_aae02_17 μ) else (BJ5_isLatin1_aae02_18 1 μ))
def FJ5_isLatin1_aae02 (a0 : Int) (μ : Mem) : Rz := BJ5_isLatin1_aae02_0 a0 μ
def BJ6_getChars_ba4f3_118 (x5 : Int) (μ : Mem) : Rz := RT x5 μ
def BJ6_getChars_ba4f3_104 (x2 x5 x6 : Int) (μ : Mem) : Rz := if x6 = 0 then (BJ6_getChars_ba4f3_118 x5 μ) else (ASB x2 (w32 (x5 + (-1))) 45 μ fun u101 => BJ6_getChars_ba4f3_118 (w32 (x5 + (-1))) u101)
def BJ6_getChars_ba4f3_22 (k22 : Int → Int → Int → Int → Mem → Rz) (x0 x2 x5 x6 : Int) (μ : Mem) : Rz := if (-100) < x0 then (AL 0 (-20) (w32 (-x0)) μ fun t101 => ASB x2 (w32 (x5 + (-1))) t101 μ fun u102 => if (-9) ≤ x0 then (BJ6_getChars_ba4f3_104 x2 (w32 (x5 + (-1))) x6 u102) else none) else (DV x0 100 fun t103 => LT (w32 ((w32 (t103 * 100)) - x0)) fun x104 => AL 0 (-20) x104 μ fun t105 => ASB x2 (w32 (x5 + (-1))) t105 μ fun u106 => none)
def LJ6_getChars_ba4f3_22 : Nat → Int → Int → Int → Int → Mem → Rz
  | 0, _, _, _, _, _ => none
  | n + 1, x0, x2, x5, x6, μ => BJ6_getChars_ba4f3_22 (fun y0 y2 y5 y6 ν => LJ6_getChars_ba4f3_22 n y0 y2 y5 y6 ν) x0 x2 x5 x6 μ
def BJ6_getChars_ba4f3_12 (x0 x2 x5 s0 : Int) (μ : Mem) : Rz := if ¬ s0 = 0 then (LJ6_getChars_ba4f3_22 FU x0 x2 x5 s0 μ) else (LT (w32 (-x0)) fun x101 => LJ6_getChars_ba4f3_22 FU x101 x2 x5 s0 μ)
def BJ6_getChars_ba4f3_0 (x0 x1 x2 : Int) (μ : Mem) : Rz := if 0 ≤ x0 then (BJ6_getChars_ba4f3_12 x0 x2 x1 0 μ) else (BJ6_getChars_ba4f3_12 x0 x2 x1 1 μ)
def FJ6_getChars_ba4f3 (a0 a1 a2 : Int) (μ : Mem) : Rz := BJ6_getChars_ba4f3_0 a0 a1 a2 μ
def BJ6_stringSize_0f7a4_16 (k16 : Int → Int → Int → Int → Mem → Rz) (x0 x1 x2 x3 : Int) (μ : Mem) : Rz := if 10 ≤ x3 then (RT (w32 (10 + x1)) μ) else (if x0 ≤ x2 then (LT (w32 (10 * x2)) fun x101 => k16 x0 x1 x101 (w32 (x3 + 1)) μ) else (RT (w32 (x3 + x1)) μ))
def LJ6_stringSize_0f7a4_16 : Nat → Int → Int → Int → Int → Mem → Rz
  | 0, _, _, _, _, _ => none
  | n + 1, x0, x1, x2, x3, μ => BJ6_stringSize_0f7a4_16 (fun y0 y1 y2 y3 ν => LJ6_stringSize_0f7a4_16 n y0 y1 y2 y3 ν) x0 x1 x2 x3 μ
def BJ6_stringSize_0f7a4_11 (x0 x1 : Int) (μ : Mem) : Rz := LJ6_stringSize_0f7a4_16 FU x0 x1 (-10) 1 μ
def BJ6_stringSize_0f7a4_0 (x0 : Int) (μ : Mem) : Rz := if x0 < 0 then (BJ6_stringSize_0f7a4_11 x0 1 μ) else (LT (w32 (-x0)) fun x101 => BJ6_stringSize_0f7a4_11 x101 0 μ)
def FJ6_stringSize_0f7a4 (a0 : Int) (μ : Mem) : Rz := BJ6_stringSize_0f7a4_0 a0 μ
def BJ5_append_c97b9_48 (x0 x3 : Int) (μ : Mem) : Rz := PF 10 3 x0 x3 μ fun u101 => RT x0 u101
def BJ5_append_c97b9_0 (x0 x1 : Int) (μ : Mem) : Rz := GF 10 3 x0 μ fun t101 => CL (FJ6_stringSize_0f7a4 x1 μ) fun t102 u103 => LT (w32 (t101 + t102)) fun x104 => KD 10 x0 u103 (CL (FJ5_ensureCapacityInternal_d00df x0 x104 u103) fun _ u106 => KD 10 x0 u106 (CL (FJ5_isLatin1_aae02 x0 u106) fun t107 u108 => if t107 = 0 then (GF 10 0 x0 u108 fun t109 => none) else (GF 10 0 x0 u108 fun t110 => CL (FJ6_getChars_ba4f3 x1 x104 t110 u108) fun t111 u112 => BJ5_append_c97b9_48 x0 x104 u112)))
def FJ5_append_c97b9 (a0 a1 : Int) (μ : Mem) : Rz := BJ5_append_c97b9_0 a0 a1 μ
def BJ4_append_bf812_0 (x0 x1 : Int) (μ : Mem) : Rz := KD 10 x0 μ (CL (FJ5_append_c97b9 x0 x1 μ) fun t101 u102 => RT x0 u102)
def FJ4_append_bf812 (a0 a1 : Int) (μ : Mem) : Rz := BJ4_append_bf812_0 a0 a1 μ
def BJ1_canEncode_fc78d_12 (s0 : Int) (μ : Mem) : Rz := RTZ s0 μ
def BJ1_canEncode_fc78d_0 (x0 : Int) (μ : Mem) : Rz := if 255 < x0 then (BJ1_canEncode_fc78d_12 0 μ) else (BJ1_canEncode_fc78d_12 1 μ)
def FJ1_canEncode_fc78d (a0 : Int) (μ : Mem) : Rz := BJ1_canEncode_fc78d_0 a0 μ
def BJ5_append_3fe6f_75 (x0 : Int) (μ : Mem) : Rz := RT x0 μ
def BJ5_append_3fe6f_56 (x0 x1 : Int) (μ : Mem) : Rz := GF 10 0 x0 μ fun t101 => GF 10 3 x0 μ fun t102 => PF 10 3 x0 (w32 (t102 + 1)) μ fun u103 => none
def BJ5_append_3fe6f_45 (x0 x1 : Int) (μ : Mem) : Rz := KD 10 x0 μ (CL (FJ5_isLatin1_aae02 x0 μ) fun t101 u102 => if t101 = 0 then (BJ5_append_3fe6f_56 x0 x1 u102) else none)
def BJ5_append_3fe6f_0 (x0 x1 : Int) (μ : Mem) : Rz := GF 10 3 x0 μ fun t101 => KD 10 x0 μ (CL (FJ5_ensureCapacityInternal_d00df x0 (w32 (t101 + 1)) μ) fun _ u103 => KD 10 x0 u103 (CL (FJ5_isLatin1_aae02 x0 u103) fun t104 u105 => if t104 = 0 then (BJ5_append_3fe6f_45 x0 x1 u105) else (CL (FJ1_canEncode_fc78d x1 u105) fun t106 u107 => if t106 = 0 then (BJ5_append_3fe6f_45 x0 x1 u107) else (GF 10 0 x0 u107 fun t108 => GF 10 3 x0 u107 fun t109 => PF 10 3 x0 (w32 (t109 + 1)) u107 fun u110 => ASB t108 t109 (w8 x1) u110 fun u111 => BJ5_append_3fe6f_75 x0 u111))))
def FJ5_append_3fe6f (a0 a1 : Int) (μ : Mem) : Rz := BJ5_append_3fe6f_0 a0 a1 μ
def BJ4_append_cf468_0 (x0 x1 : Int) (μ : Mem) : Rz := KD 10 x0 μ (CL (FJ5_append_3fe6f x0 x1 μ) fun t101 u102 => RT x0 u102)
def FJ4_append_cf468 (a0 a1 : Int) (μ : Mem) : Rz := BJ4_append_cf468_0 a0 a1 μ
def BJ4_append_cf1ce_0 (x0 x1 : Int) (μ : Mem) : Rz := KD 10 x0 μ (CL (FJ4_append_15ec4 x0 x1 μ) fun t101 u102 => RT t101 u102)
def FJ4_append_cf1ce (a0 a1 : Int) (μ : Mem) : Rz := BJ4_append_cf1ce_0 a0 a1 μ
def BJ5_init_a7421_53 (x0 x1 s0 s1 : Int) (μ : Mem) : Rz := PF 10 0 s1 s0 μ fun u101 => KD 10 x0 u101 (CL (FJ4_append_cf1ce x0 x1 u101) fun t102 u103 => RT 0 u103)
def BJ5_init_a7421_24 (x0 x1 s0 : Int) (μ : Mem) : Rz := KD 9 x1 μ (CL (FJ0_coder_7d493 x1 μ) fun t101 u102 => PB 10 1 x0 t101 u102 fun u103 => if ¬ t101 = 0 then none else (NAn 0 s0 u103 fun t104 u105 => BJ5_init_a7421_53 x0 x1 t104 x0 u105))
def BJ5_init_a7421_0 (x0 x1 : Int) (μ : Mem) : Rz := if x0 < -21 then (KD 9 x1 μ (CL (FJ0_length_8abf5 x1 μ) fun t101 u102 => if 2147483631 ≤ t101 then (BJ5_init_a7421_24 x0 x1 2147483647 u102) else (BJ5_init_a7421_24 x0 x1 (w32 (t101 + 16)) u102))) else none
def FJ5_init_a7421 (a0 a1 : Int) (μ : Mem) : Rz := BJ5_init_a7421_0 a0 a1 μ
def BJ4_init_a7421_0 (x0 x1 : Int) (μ : Mem) : Rz := KD 10 x0 μ (CL (FJ5_init_a7421 x0 x1 μ) fun _ u102 => RT 0 u102)
def FJ4_init_a7421 (a0 a1 : Int) (μ : Mem) : Rz := BJ4_init_a7421_0 a0 a1 μ
def BJ5_init_d00df_38 (μ : Mem) : Rz := RT 0 μ
def BJ5_init_d00df_0 (x0 x1 : Int) (μ : Mem) : Rz := if x0 < -21 then (if (1 : Int) = 0 then none else (NAn 0 x1 μ fun t101 u102 => PF 10 0 x0 t101 u102 fun u103 => PB 10 1 x0 0 u103 fun u104 => BJ5_init_d00df_38 u104)) else none
def FJ5_init_d00df (a0 a1 : Int) (μ : Mem) : Rz := BJ5_init_d00df_0 a0 a1 μ
def BJ4_init_da8c8_0 (x0 : Int) (μ : Mem) : Rz := KD 10 x0 μ (CL (FJ5_init_d00df x0 16 μ) fun _ u102 => RT 0 u102)
def FJ4_init_da8c8 (a0 : Int) (μ : Mem) : Rz := BJ4_init_da8c8_0 a0 μ
def BJ5_length_8abf5_0 (x0 : Int) (μ : Mem) : Rz := GF 10 3 x0 μ fun t101 => RT t101 μ
def FJ5_length_8abf5 (a0 : Int) (μ : Mem) : Rz := BJ5_length_8abf5_0 a0 μ
def BJ4_length_8abf5_0 (x0 : Int) (μ : Mem) : Rz := KD 10 x0 μ (CL (FJ5_length_8abf5 x0 μ) fun t101 u102 => RT t101 u102)
def FJ4_length_8abf5 (a0 : Int) (μ : Mem) : Rz := BJ4_length_8abf5_0 a0 μ
def BJ5_getValue_6d5f1_0 (x0 : Int) (μ : Mem) : Rz := GF 10 0 x0 μ fun t101 => RT t101 μ
def FJ5_getValue_6d5f1 (a0 : Int) (μ : Mem) : Rz := BJ5_getValue_6d5f1_0 a0 μ
def BJ7_checkLength_df160_0 (x0 x1 : Int) (μ : Mem) : Rz := if x0 ≤ x1 then (RT 0 μ) else none
def FJ7_checkLength_df160 (a0 a1 : Int) (μ : Mem) : Rz := BJ7_checkLength_df160_0 a0 a1 μ
def BJ7_copyOfRangeByte_39247_0 (x0 x1 x2 : Int) (μ : Mem) : Rz := CL (FJ7_checkLength_df160 x1 x2 μ) fun _ u102 => LT (w32 (x2 - x1)) fun x103 => NAn 0 x103 u102 fun t104 u105 => LN 0 x0 u105 fun t106 => CL (FJ9_min_7cf53 (w32 (t106 - x1)) x103 u105) fun t107 u108 => ACK x0 x1 t104 0 t107 u108 fun u109 => RT t104 u109
def FJ7_copyOfRangeByte_39247 (a0 a1 a2 : Int) (μ : Mem) : Rz := BJ7_copyOfRangeByte_39247_0 a0 a1 a2 μ
def BJ7_copyOfRange_39247_10 (x0 x1 x2 : Int) (μ : Mem) : Rz := CL (FJ7_copyOfRangeByte_39247 x0 x1 x2 μ) fun t101 u102 => RT t101 u102
def BJ7_copyOfRange_39247_0 (x0 x1 x2 : Int) (μ : Mem) : Rz := if ¬ x1 = 0 then (BJ7_copyOfRange_39247_10 x0 x1 x2 μ) else (LN 0 x0 μ fun t101 => if x2 = t101 then (CLN x0 μ fun t102 u103 => KD 19 t102 u103 (RT t102 u103)) else (BJ7_copyOfRange_39247_10 x0 x1 x2 μ))
def FJ7_copyOfRange_39247 (a0 a1 a2 : Int) (μ : Mem) : Rz := BJ7_copyOfRange_39247_0 a0 a1 a2 μ
def BJ0_init_db425_97 (μ : Mem) : Rz := RT 0 μ
def BJ0_init_db425_79 (x0 x3 x4 : Int) (μ : Mem) : Rz := PB 9 1 x0 1 μ fun u101 => CL (FJ7_copyOfRange_39247 x3 0 (bShl x4 1) u101) fun t102 u103 => PF 9 0 x0 t102 u103 fun u104 => BJ0_init_db425_97 u104
def BJ0_init_db425_0 (x0 x1 : Int) (μ : Mem) : Rz := if x0 < -21 then (KD 10 x1 μ (CL (FJ5_getValue_6d5f1 x1 μ) fun t101 u102 => KD 10 x1 u102 (CL (FJ4_length_8abf5 x1 u102) fun t103 u104 => KD 10 x1 u104 (CL (FJ5_isLatin1_aae02 x1 u104) fun t105 u106 => if t105 = 0 then (if (1 : Int) = 0 then (BJ0_init_db425_79 x0 t101 t103 u106) else (GF 10 2 x1 u106 fun t107 => if t107 = 0 then (BJ0_init_db425_79 x0 t101 t103 u106) else none)) else (PB 9 1 x0 0 u106 fun u108 => CL (FJ7_copyOfRange_39247 t101 0 t103 u108) fun t109 u110 => PF 9 0 x0 t109 u110 fun u111 => BJ0_init_db425_97 u111))))) else none
def FJ0_init_db425 (a0 a1 a2 : Int) (μ : Mem) : Rz := BJ0_init_db425_0 a0 a1 μ
def BJ0_init_81219_0 (x0 x1 : Int) (μ : Mem) : Rz := NU μ (KD 9 x0 μ (CL (FJ0_init_db425 x0 x1 0 μ) fun _ u102 => RT 0 u102))
def FJ0_init_81219 (a0 a1 : Int) (μ : Mem) : Rz := BJ0_init_81219_0 a0 a1 μ
def BJ4_toString_0e30d_0 (x0 : Int) (μ : Mem) : Rz := NWn 9 4 μ fun t101 u102 => KD 9 t101 u102 (CL (FJ0_init_81219 t101 x0 u102) fun _ u104 => RT t101 u104)
def FJ4_toString_0e30d (a0 : Int) (μ : Mem) : Rz := BJ4_toString_0e30d_0 a0 μ
def BJ7_copyOf_6403c_24 (x0 x1 s0 : Int) (μ : Mem) : Rz := LN 2 x0 μ fun t101 => CL (FJ9_min_7cf53 t101 x1 μ) fun t102 u103 => ACQ x0 0 s0 0 t102 u103 fun u104 => RT s0 u104
def BJ7_copyOf_6403c_0 (x0 x1 x2 : Int) (μ : Mem) : Rz := if x2 = 27 then (NAn 2 x1 μ fun t101 u102 => BJ7_copyOf_6403c_24 x0 x1 t101 u102) else none
def FJ7_copyOf_6403c (a0 a1 a2 : Int) (μ : Mem) : Rz := BJ7_copyOf_6403c_0 a0 a1 a2 μ
def BJ7_copyOf_1904c_0 (x0 x1 : Int) (μ : Mem) : Rz := KD 21 x0 μ (CL (FJ7_copyOf_6403c x0 x1 27 μ) fun t101 u102 => RT t101 u102)
def FJ7_copyOf_1904c (a0 a1 : Int) (μ : Mem) : Rz := BJ7_copyOf_1904c_0 a0 a1 μ
def BJx4a65c_grow_92f84_20 (x0 x1 x2 : Int) (μ : Mem) : Rz := CL (FJ8_newLength_cabcc x2 (w32 (x1 - x2)) (bShr x2 1) μ) fun t101 u102 => GF 11 1 x0 u102 fun t103 => CL (FJ7_copyOf_1904c t103 t101 u102) fun t104 u105 => PF 11 1 x0 t104 u105 fun u106 => RT t104 u106
def BJx4a65c_grow_92f84_0 (x0 x1 : Int) (μ : Mem) : Rz := GF 11 1 x0 μ fun t101 => LN 2 t101 μ fun t102 => if 0 < t102 then (BJx4a65c_grow_92f84_20 x0 x1 t102 μ) else (GF 11 1 x0 μ fun t103 => AQ t103 (-1) (CL (FJ9_max_7cf53 10 x1 μ) fun t104 u105 => NAn 2 t104 u105 fun t106 u107 => PF 11 1 x0 t106 u107 fun u108 => RT t106 u108) (BJx4a65c_grow_92f84_20 x0 x1 t102 μ))
def FJx4a65c_grow_92f84 (a0 a1 : Int) (μ : Mem) : Rz := BJx4a65c_grow_92f84_0 a0 a1 μ
def BJx4a65c_grow_d5877_0 (x0 : Int) (μ : Mem) : Rz := GF 11 2 x0 μ fun t101 => KD 11 x0 μ (CL (FJx4a65c_grow_92f84 x0 (w32 (t101 + 1)) μ) fun t102 u103 => RT t102 u103)
def FJx4a65c_grow_d5877 (a0 : Int) (μ : Mem) : Rz := BJx4a65c_grow_d5877_0 a0 μ
def BJx4a65c_add_72be8_11 (x0 x1 x2 x3 : Int) (μ : Mem) : Rz := ASO x2 x3 x1 μ fun u101 => PF 11 2 x0 (w32 (x3 + 1)) u101 fun u102 => RT 0 u102
def BJx4a65c_add_72be8_0 (x0 x1 x2 x3 : Int) (μ : Mem) : Rz := LN 2 x2 μ fun t101 => if ¬ x3 = t101 then (BJx4a65c_add_72be8_11 x0 x1 x2 x3 μ) else (KD 11 x0 μ (CL (FJx4a65c_grow_d5877 x0 μ) fun t102 u103 => BJx4a65c_add_72be8_11 x0 x1 t102 x3 u103))
def FJx4a65c_add_72be8 (a0 a1 a2 a3 : Int) (μ : Mem) : Rz := BJx4a65c_add_72be8_0 a0 a1 a2 a3 μ
def BJx4a65c_add_9ea2d_0 (x0 x1 : Int) (μ : Mem) : Rz := GF 11 0 x0 μ fun t101 => PF 11 0 x0 (w32 (t101 + 1)) μ fun u102 => GF 11 1 x0 u102 fun t103 => GF 11 2 x0 u102 fun t104 => KD 11 x0 u102 (CL (FJx4a65c_add_72be8 x0 x1 t103 t104 u102) fun _ u106 => RTZ 1 u106)
def FJx4a65c_add_9ea2d (a0 a1 : Int) (μ : Mem) : Rz := BJx4a65c_add_9ea2d_0 a0 a1 μ
def BJx4a65c_elementData_915e3_0 (x0 x1 : Int) (μ : Mem) : Rz := GF 11 1 x0 μ fun t101 => AL 2 t101 x1 μ fun t102 => RT t102 μ
def FJx4a65c_elementData_915e3 (a0 a1 : Int) (μ : Mem) : Rz := BJx4a65c_elementData_915e3_0 a0 a1 μ
def BJx4a65c_get_915e3_0 (x0 x1 : Int) (μ : Mem) : Rz := GF 11 2 x0 μ fun t101 => CHK x1 t101 (NU μ (KD 11 x0 μ (CL (FJx4a65c_elementData_915e3 x0 x1 μ) fun t102 u103 => RT t102 u103)))
def FJx4a65c_get_915e3 (a0 a1 : Int) (μ : Mem) : Rz := BJx4a65c_get_915e3_0 a0 a1 μ
def BJxa1e45_init_da8c8_0 (x0 : Int) (μ : Mem) : Rz := if x0 < -21 then (RT 0 μ) else none
def FJxa1e45_init_da8c8 (a0 : Int) (μ : Mem) : Rz := BJxa1e45_init_da8c8_0 a0 μ
def BJxc12de_init_da8c8_0 (x0 : Int) (μ : Mem) : Rz := KD 11 x0 μ (CL (FJxa1e45_init_da8c8 x0 μ) fun _ u102 => PF 11 0 x0 0 u102 fun u103 => RT 0 u103)
def FJxc12de_init_da8c8 (a0 : Int) (μ : Mem) : Rz := BJxc12de_init_da8c8_0 a0 μ
def BJx4a65c_init_da8c8_0 (x0 : Int) (μ : Mem) : Rz := KD 11 x0 μ (CL (FJxc12de_init_da8c8 x0 μ) fun _ u102 => PF 11 1 x0 (-1) u102 fun u103 => RT 0 u103)
def FJx4a65c_init_da8c8 (a0 : Int) (μ : Mem) : Rz := BJx4a65c_init_da8c8_0 a0 μ
def BJx4a65c_set_bcc79_0 (x0 x1 x2 : Int) (μ : Mem) : Rz := GF 11 2 x0 μ fun t101 => CHK x1 t101 (NU μ (KD 11 x0 μ (CL (FJx4a65c_elementData_915e3 x0 x1 μ) fun t102 u103 => GF 11 1 x0 u103 fun t104 => ASO t104 x1 x2 u103 fun u105 => RT t102 u105)))
def FJx4a65c_set_bcc79 (a0 a1 a2 : Int) (μ : Mem) : Rz := BJx4a65c_set_bcc79_0 a0 a1 a2 μ
def BJ6_bitCount_0f7a4_0 (x0 : Int) (μ : Mem) : Rz := LT (w32 (x0 - (bAnd (bUsh x0 1) 1431655765))) fun x101 => LT (w32 ((bAnd x101 858993459) + (bAnd (bUsh x101 2) 858993459))) fun x102 => LT (bAnd (w32 (x102 + (bUsh x102 4))) 252645135) fun x103 => LT (w32 (x103 + (bUsh x103 8))) fun x104 => LT (w32 (x104 + (bUsh x104 16))) fun x105 => RT (bAnd x105 63) μ
def FJ6_bitCount_0f7a4 (a0 : Int) (μ : Mem) : Rz := BJ6_bitCount_0f7a4_0 a0 μ
def BJx4a65c_size_8abf5_0 (x0 : Int) (μ : Mem) : Rz := GF 11 2 x0 μ fun t101 => RT t101 μ
def FJx4a65c_size_8abf5 (a0 : Int) (μ : Mem) : Rz := BJx4a65c_size_8abf5_0 a0 μ
def BJ7_fill_53178_5 (k5 : Int → Int → Int → Int → Mem → Rz) (x0 x1 x2 x3 : Int) (μ : Mem) : Rz := if x3 ≤ x2 then (RT 0 μ) else (AS 1 x0 x2 x1 μ fun u101 => k5 x0 x1 (w32 (x2 + 1)) x3 u101)
def LJ7_fill_53178_5 : Nat → Int → Int → Int → Int → Mem → Rz
  | 0, _, _, _, _, _ => none
  | n + 1, x0, x1, x2, x3, μ => BJ7_fill_53178_5 (fun y0 y1 y2 y3 ν => LJ7_fill_53178_5 n y0 y1 y2 y3 ν) x0 x1 x2 x3 μ
def BJ7_fill_53178_0 (x0 x1 : Int) (μ : Mem) : Rz := LN 1 x0 μ fun t101 => LJ7_fill_53178_5 FU x0 x1 0 t101 μ
def FJ7_fill_53178 (a0 a1 : Int) (μ : Mem) : Rz := BJ7_fill_53178_0 a0 a1 μ
def BJ9_abs_0f7a4_10 (s0 : Int) (μ : Mem) : Rz := RT s0 μ
def BJ9_abs_0f7a4_0 (x0 : Int) (μ : Mem) : Rz := if 0 ≤ x0 then (BJ9_abs_0f7a4_10 x0 μ) else (BJ9_abs_0f7a4_10 (w32 (-x0)) μ)
def FJ9_abs_0f7a4 (a0 : Int) (μ : Mem) : Rz := BJ9_abs_0f7a4_0 a0 μ
def BJ9_floorMod_7cf53_18 (x2 : Int) (μ : Mem) : Rz := RT x2 μ
def BJ9_floorMod_7cf53_0 (x0 x1 : Int) (μ : Mem) : Rz := RM x0 x1 fun t101 => if 0 ≤ bXor x0 x1 then (BJ9_floorMod_7cf53_18 t101 μ) else (if t101 = 0 then (BJ9_floorMod_7cf53_18 t101 μ) else (RT (w32 (t101 + x1)) μ))
def FJ9_floorMod_7cf53 (a0 a1 : Int) (μ : Mem) : Rz := BJ9_floorMod_7cf53_0 a0 a1 μ
def BJ9_max_f86c9_11 (s0 : Int) (μ : Mem) : Rz := RT s0 μ
def BJ9_max_f86c9_0 (x0 x2 : Int) (μ : Mem) : Rz := if cLong x0 x2 < 0 then (BJ9_max_f86c9_11 x2 μ) else (BJ9_max_f86c9_11 x0 μ)
def FJ9_max_f86c9 (a0 a2 : Int) (μ : Mem) : Rz := BJ9_max_f86c9_0 a0 a2 μ
def BJ9_min_f86c9_11 (s0 : Int) (μ : Mem) : Rz := RT s0 μ
def BJ9_min_f86c9_0 (x0 x2 : Int) (μ : Mem) : Rz := if 0 < cLong x0 x2 then (BJ9_min_f86c9_11 x2 μ) else (BJ9_min_f86c9_11 x0 μ)
def FJ9_min_f86c9 (a0 a2 : Int) (μ : Mem) : Rz := BJ9_min_f86c9_0 a0 a2 μ
def BX8_rank_58 (k2 : Int → Int → Int → Int → Mem → Rz) (x0 x1 x2 x3 : Int) (μ : Mem) : Rz := k2 x0 x1 x2 (w32 (x3 + 1)) μ
def BX8_rank_2 (k2 : Int → Int → Int → Int → Mem → Rz) (x0 x1 x2 x3 : Int) (μ : Mem) : Rz := GF 8 6 x0 μ fun t101 => KD 11 t101 μ (CL (FJx4a65c_get_915e3 t101 x3 μ) fun t102 u103 => KD 7 t102 u103 (GF 7 0 t102 u103 fun t104 => GF 8 4 x0 u103 fun t105 => GF 8 2 x0 u103 fun t106 => RM (w32 (x1 + t105)) t106 fun t107 => if ¬ t104 = t107 then (BX8_rank_58 k2 x0 x1 x2 x3 u103) else (GF 8 6 x0 u103 fun t108 => KD 11 t108 u103 (CL (FJx4a65c_get_915e3 t108 x3 u103) fun t109 u110 => KD 7 t109 u110 (GF 7 1 t109 u110 fun t111 => GF 8 5 x0 u110 fun t112 => GF 8 2 x0 u110 fun t113 => RM (w32 (x2 + t112)) t113 fun t114 => if t111 = t114 then (RT x3 u110) else (BX8_rank_58 k2 x0 x1 x2 x3 u110))))))
def LX8_rank_2 : Nat → Int → Int → Int → Int → Mem → Rz
  | 0, _, _, _, _, _ => none
  | n + 1, x0, x1, x2, x3, μ => BX8_rank_2 (fun y0 y1 y2 y3 ν => LX8_rank_2 n y0 y1 y2 y3 ν) x0 x1 x2 x3 μ
def BX8_rank_0 (x0 x1 x2 : Int) (μ : Mem) : Rz := LX8_rank_2 FU x0 x1 x2 0 μ
def FX8_rank (a0 a1 a2 : Int) (μ : Mem) : Rz := BX8_rank_0 a0 a1 a2 μ
def BJ0_isLatin1_aae02_18 (s0 : Int) (μ : Mem) : Rz := RTZ s0 μ
def BJ0_isLatin1_aae02_17 (μ : Mem) : Rz := BJ0_isLatin1_aae02_18 0 μ
def BJ0_isLatin1_aae02_0 (x0 : Int) (μ : Mem) : Rz := if (1 : Int) = 0 then (BJ0_isLatin1_aae02_17 μ) else (GF 9 1 x0 μ fun t101 => if ¬ t101 = 0 then (BJ0_isLatin1_aae02_17 μ) else (BJ0_isLatin1_aae02_18 1 μ))
def FJ0_isLatin1_aae02 (a0 : Int) (μ : Mem) : Rz := BJ0_isLatin1_aae02_0 a0 μ
def BJ1_charAt_3b067_0 (x0 x1 : Int) (μ : Mem) : Rz := LN 0 x0 μ fun t101 => CHK x1 t101 (AL 0 x0 x1 μ fun t102 => RTC (bC (bAnd t102 255)) μ)
def FJ1_charAt_3b067 (a0 a1 : Int) (μ : Mem) : Rz := BJ1_charAt_3b067_0 a0 a1 μ
def BJ0_charAt_5068e_0 (x0 x1 : Int) (μ : Mem) : Rz := KD 9 x0 μ (CL (FJ0_isLatin1_aae02 x0 μ) fun t101 u102 => if t101 = 0 then (GF 9 0 x0 u102 fun t103 => none) else (GF 9 0 x0 u102 fun t104 => CL (FJ1_charAt_3b067 t104 x1 u102) fun t105 u106 => RTC t105 u106))
def FJ0_charAt_5068e (a0 a1 : Int) (μ : Mem) : Rz := BJ0_charAt_5068e_0 a0 a1 μ
def BJ7_copyOf_59c91_0 (x0 x1 : Int) (μ : Mem) : Rz := LN 1 x0 μ fun t101 => if ¬ x1 = t101 then (NA 1 x1 μ fun t102 u103 => LN 1 x0 u103 fun t104 => CL (FJ9_min_7cf53 t104 x1 u103) fun t105 u106 => ACP x0 0 t102 0 t105 u106 fun u107 => RT t102 u107) else none
def FJ7_copyOf_59c91 (a0 a1 : Int) (μ : Mem) : Rz := BJ7_copyOf_59c91_0 a0 a1 μ
def BX7_init_0 (x0 x1 x2 x3 : Int) (μ : Mem) : Rz := if x0 < -21 then (PF 7 0 x0 x1 μ fun u101 => PF 7 1 x0 x2 u101 fun u102 => PF 7 2 x0 x3 u102 fun u103 => RT 0 u103) else none
def FX7_init (a0 a1 a2 a3 : Int) (μ : Mem) : Rz := BX7_init_0 a0 a1 a2 a3 μ
def BJx4a65c_rangeCheckForAdd_d00df_12 (x0 x1 : Int) (μ : Mem) : Rz := none
def BJx4a65c_rangeCheckForAdd_d00df_0 (x0 x1 : Int) (μ : Mem) : Rz := GF 11 2 x0 μ fun t101 => if t101 < x1 then (BJx4a65c_rangeCheckForAdd_d00df_12 x0 x1 μ) else (if 0 ≤ x1 then (RT 0 μ) else (BJx4a65c_rangeCheckForAdd_d00df_12 x0 x1 μ))
def FJx4a65c_rangeCheckForAdd_d00df (a0 a1 : Int) (μ : Mem) : Rz := BJx4a65c_rangeCheckForAdd_d00df_0 a0 a1 μ
def BJx4a65c_add_7a177_38 (x0 x1 x2 x3 x4 : Int) (μ : Mem) : Rz := ACQ x4 x1 x4 (w32 (x1 + 1)) (w32 (x3 - x1)) μ fun u101 => ASO x4 x1 x2 u101 fun u102 => PF 11 2 x0 (w32 (x3 + 1)) u102 fun u103 => RT 0 u103
def BJx4a65c_add_7a177_0 (x0 x1 x2 : Int) (μ : Mem) : Rz := KD 11 x0 μ (CL (FJx4a65c_rangeCheckForAdd_d00df x0 x1 μ) fun _ u102 => GF 11 0 x0 u102 fun t103 => PF 11 0 x0 (w32 (t103 + 1)) u102 fun u104 => GF 11 2 x0 u104 fun t105 => GF 11 1 x0 u104 fun t106 => LN 2 t106 u104 fun t107 => if ¬ t105 = t107 then (BJx4a65c_add_7a177_38 x0 x1 x2 t105 t106 u104) else (KD 11 x0 u104 (CL (FJx4a65c_grow_d5877 x0 u104) fun t108 u109 => BJx4a65c_add_7a177_38 x0 x1 x2 t105 t108 u109)))
def FJx4a65c_add_7a177 (a0 a1 a2 : Int) (μ : Mem) : Rz := BJx4a65c_add_7a177_0 a0 a1 a2 μ
def BX7_isAhead_76 (s0 : Int) (μ : Mem) : Rz := RTZ s0 μ
def BX7_isAhead_0 (x0 x1 : Int) (μ : Mem) : Rz := GF 7 2 x0 μ fun t101 => GF 7 2 x1 μ fun t102 => if t101 = t102 then (GF 7 1 x0 μ fun t103 => GF 7 1 x1 μ fun t104 => if t103 = t104 then (GF 7 0 x0 μ fun t105 => GF 7 0 x1 μ fun t106 => if t106 ≤ t105 then (BX7_isAhead_76 0 μ) else (BX7_isAhead_76 1 μ)) else (GF 7 1 x0 μ fun t107 => GF 7 1 x1 μ fun t108 => if t108 ≤ t107 then (BX7_isAhead_76 0 μ) else (BX7_isAhead_76 1 μ))) else (GF 7 2 x0 μ fun t109 => GF 7 2 x1 μ fun t110 => if t110 ≤ t109 then (BX7_isAhead_76 0 μ) else (BX7_isAhead_76 1 μ))
def FX7_isAhead (a0 a1 : Int) (μ : Mem) : Rz := BX7_isAhead_0 a0 a1 μ
def BX8_comes_38 (x0 x1 x2 : Int) (μ : Mem) : Rz := GF 8 6 x0 μ fun t101 => KD 11 t101 μ (CL (FJx4a65c_add_7a177 t101 x2 x1 μ) fun _ u103 => RT 0 u103)
def BX8_comes_8 (k8 : Int → Int → Int → Mem → Rz) (x0 x1 x2 : Int) (μ : Mem) : Rz := if x2 ≤ 0 then (BX8_comes_38 x0 x1 x2 μ) else (GF 8 6 x0 μ fun t101 => KD 11 t101 μ (CL (FJx4a65c_get_915e3 t101 (w32 (x2 - 1)) μ) fun t102 u103 => KD 7 t102 u103 (KD 7 x1 u103 (CL (FX7_isAhead x1 t102 u103) fun t104 u105 => if t104 = 0 then (BX8_comes_38 x0 x1 x2 u105) else (k8 x0 x1 (w32 (x2 + (-1))) u105)))))
def LX8_comes_8 : Nat → Int → Int → Int → Mem → Rz
  | 0, _, _, _, _ => none
  | n + 1, x0, x1, x2, μ => BX8_comes_8 (fun y0 y1 y2 ν => LX8_comes_8 n y0 y1 y2 ν) x0 x1 x2 μ
def BX8_comes_0 (x0 x1 : Int) (μ : Mem) : Rz := GF 8 6 x0 μ fun t101 => KD 11 t101 μ (CL (FJx4a65c_size_8abf5 t101 μ) fun t102 u103 => LX8_comes_8 FU x0 x1 t102 u103)
def FX8_comes (a0 a1 : Int) (μ : Mem) : Rz := BX8_comes_0 a0 a1 μ
def BX8_measure_121 (s0 : Int) (μ : Mem) : Rz := RT s0 μ
def BX8_measure_0 (x0 x1 x2 : Int) (μ : Mem) : Rz := GF 8 0 x0 μ fun t101 => GF 8 1 x0 μ fun t102 => GF 8 2 x0 μ fun t103 => CL (FJ9_floorMod_7cf53 (w32 ((w32 (t101 * x1)) + (w32 (t102 * x2)))) t103 μ) fun t104 u105 => GF 8 2 x0 u105 fun t106 => CL (FJ9_abs_0f7a4 (w32 ((w32 (2 * t104)) - t106)) u105) fun t107 u108 => GF 8 0 x0 u108 fun t109 => GF 8 1 x0 u108 fun t110 => GF 8 2 x0 u108 fun t111 => CL (FJ9_floorMod_7cf53 (w32 ((w32 (t109 * x2)) - (w32 (t110 * x1)))) t111 u108) fun t112 u113 => GF 8 2 x0 u113 fun t114 => CL (FJ9_abs_0f7a4 (w32 ((w32 (2 * t112)) - t114)) u113) fun t115 u116 => GF 8 3 x0 u116 fun t117 => SW t117 0 [RT (w32 ((w32 (t107 * t107)) + (w32 (t115 * t115)))) u116, RT t107 u116, RT (w32 (t107 + t115)) u116] (if t107 ≤ t115 then (BX8_measure_121 t115 u116) else (BX8_measure_121 t107 u116))
def FX8_measure (a0 a1 a2 : Int) (μ : Mem) : Rz := BX8_measure_0 a0 a1 a2 μ
def BX8_init_56 (k44 : Int → Int → Mem → Rz) (k56 : Int → Int → Int → Mem → Rz) (x0 x4 x5 : Int) (μ : Mem) : Rz := GF 8 2 x0 μ fun t101 => if t101 ≤ x5 then (k44 x0 (w32 (x4 + 1)) μ) else (NWn 7 3 μ fun t102 u103 => KD 8 x0 u103 (CL (FX8_measure x0 x4 x5 u103) fun t104 u105 => KD 7 t102 u105 (CL (FX7_init t102 x4 x5 t104 u105) fun _ u107 => KD 8 x0 u107 (CL (FX8_comes x0 t102 u107) fun _ u109 => k56 x0 x4 (w32 (x5 + 1)) u109))))
def LX8_init_56 (k44 : Int → Int → Mem → Rz) : Nat → Int → Int → Int → Mem → Rz
  | 0, _, _, _, _ => none
  | n + 1, x0, x4, x5, μ => BX8_init_56 k44 (fun y0 y4 y5 ν => LX8_init_56 k44 n y0 y4 y5 ν) x0 x4 x5 μ
def BX8_init_44 (k44 : Int → Int → Mem → Rz) (x0 x4 : Int) (μ : Mem) : Rz := GF 8 2 x0 μ fun t101 => if t101 ≤ x4 then (RT 0 μ) else (LX8_init_56 k44 FU x0 x4 0 μ)
def LX8_init_44 : Nat → Int → Int → Mem → Rz
  | 0, _, _, _ => none
  | n + 1, x0, x4, μ => BX8_init_44 (fun y0 y4 ν => LX8_init_44 n y0 y4 ν) x0 x4 μ
def BX8_init_0 (x0 x1 x2 x3 : Int) (μ : Mem) : Rz := if x0 < -21 then (NWn 11 3 μ fun t101 u102 => KD 11 t101 u102 (CL (FJx4a65c_init_da8c8 t101 u102) fun _ u104 => PF 8 6 x0 t101 u104 fun u105 => PF 8 0 x0 x1 u105 fun u106 => PF 8 1 x0 x2 u106 fun u107 => PF 8 3 x0 x3 u107 fun u108 => PF 8 2 x0 (w32 ((w32 (x1 * x1)) + (w32 (x2 * x2)))) u108 fun u109 => LX8_init_44 FU x0 0 u109)) else none
def FX8_init (a0 a1 a2 a3 : Int) (μ : Mem) : Rz := BX8_init_0 a0 a1 a2 a3 μ
def BX2_hasDot_19 (s0 : Int) (μ : Mem) : Rz := RTZ s0 μ
def BX2_hasDot_0 (x0 x1 x2 : Int) (μ : Mem) : Rz := GF 2 1 x0 μ fun t101 => AL 1 t101 x2 μ fun t102 => if ¬ bAnd (bShr t102 x1) 1 = 1 then (BX2_hasDot_19 0 μ) else (BX2_hasDot_19 1 μ)
def FX2_hasDot (a0 a1 a2 : Int) (μ : Mem) : Rz := BX2_hasDot_0 a0 a1 a2 μ
def BX5_indexOfCell_0 (x0 x1 x2 : Int) (μ : Mem) : Rz := GF 5 0 x0 μ fun t101 => RT (w32 ((w32 (x2 * t101)) + x1)) μ
def FX5_indexOfCell (a0 a1 a2 : Int) (μ : Mem) : Rz := BX5_indexOfCell_0 a0 a1 a2 μ
def BX2_isDotAt_46 (s0 : Int) (μ : Mem) : Rz := RTZ s0 μ
def BX2_isDotAt_45 (μ : Mem) : Rz := BX2_isDotAt_46 0 μ
def BX2_isDotAt_0 (x0 x1 x2 x3 x4 : Int) (μ : Mem) : Rz := if x3 < 0 then (BX2_isDotAt_45 μ) else (GF 5 0 x1 μ fun t101 => if t101 ≤ x3 then (BX2_isDotAt_45 μ) else (if x4 < 0 then (BX2_isDotAt_45 μ) else (GF 5 1 x1 μ fun t102 => if t102 ≤ x4 then (BX2_isDotAt_45 μ) else (KD 5 x1 μ (CL (FX5_indexOfCell x1 x3 x4 μ) fun t103 u104 => KD 2 x0 u104 (CL (FX2_hasDot x0 x2 t103 u104) fun t105 u106 => if t105 = 0 then (BX2_isDotAt_45 u106) else (BX2_isDotAt_46 1 u106)))))))
def FX2_isDotAt (a0 a1 a2 a3 a4 : Int) (μ : Mem) : Rz := BX2_isDotAt_0 a0 a1 a2 a3 a4 μ
def BX2_isSpot_73 (s0 : Int) (μ : Mem) : Rz := RTZ s0 μ
def BX2_isSpot_72 (μ : Mem) : Rz := BX2_isSpot_73 0 μ
def BX2_isSpot_0 (x0 x1 x2 x3 x4 : Int) (μ : Mem) : Rz := KD 2 x0 μ (CL (FX2_isDotAt x0 x1 x2 x3 x4 μ) fun t101 u102 => if t101 = 0 then (BX2_isSpot_72 u102) else (KD 2 x0 u102 (CL (FX2_isDotAt x0 x1 x2 x3 (w32 (x4 - 1)) u102) fun t103 u104 => if ¬ t103 = 0 then (BX2_isSpot_72 u104) else (KD 2 x0 u104 (CL (FX2_isDotAt x0 x1 x2 x3 (w32 (x4 + 1)) u104) fun t105 u106 => if ¬ t105 = 0 then (BX2_isSpot_72 u106) else (KD 2 x0 u106 (CL (FX2_isDotAt x0 x1 x2 (w32 (x3 - 1)) x4 u106) fun t107 u108 => if ¬ t107 = 0 then (BX2_isSpot_72 u108) else (KD 2 x0 u108 (CL (FX2_isDotAt x0 x1 x2 (w32 (x3 + 1)) x4 u108) fun t109 u110 => if ¬ t109 = 0 then (BX2_isSpot_72 u110) else (BX2_isSpot_73 1 u110))))))))))
def FX2_isSpot (a0 a1 a2 a3 a4 : Int) (μ : Mem) : Rz := BX2_isSpot_0 a0 a1 a2 a3 a4 μ
def BX3_rankOf_35 (s0 : Int) (μ : Mem) : Rz := RT s0 μ
def BX3_rankOf_0 (x0 x1 x2 : Int) (μ : Mem) : Rz := GF 3 2 x0 μ fun t101 => if 1 ≤ t101 then (GF 3 4 x0 μ fun t102 => GF 3 2 x0 μ fun t103 => RM x2 t103 fun t104 => GF 3 2 x0 μ fun t105 => GF 3 2 x0 μ fun t106 => RM x1 t106 fun t107 => AL 1 t102 (w32 ((w32 (t104 * t105)) + t107)) μ fun t108 => BX3_rankOf_35 t108 μ) else (BX3_rankOf_35 0 μ)
def FX3_rankOf (a0 a1 a2 : Int) (μ : Mem) : Rz := BX3_rankOf_0 a0 a1 a2 μ
def BX2_rankAt_0 (x0 x1 x2 x3 x4 : Int) (μ : Mem) : Rz := GF 2 3 x0 μ fun t101 => AL 6 t101 x2 μ fun t102 => GF 5 4 x1 μ fun t103 => AL 5 t103 x2 μ fun t104 => GF 1 4 t104 μ fun t105 => GF 5 4 x1 μ fun t106 => AL 5 t106 x2 μ fun t107 => GF 1 5 t107 μ fun t108 => KD 3 t102 μ (CL (FX3_rankOf t102 (w32 (x3 + t105)) (w32 (x4 + t108)) μ) fun t109 u110 => RT t109 u110)
def FX2_rankAt (a0 a1 a2 a3 a4 : Int) (μ : Mem) : Rz := BX2_rankAt_0 a0 a1 a2 a3 a4 μ
def BX1_p_0 (x0 : Int) (μ : Mem) : Rz := GF 1 1 x0 μ fun t101 => GF 1 1 x0 μ fun t102 => GF 1 2 x0 μ fun t103 => GF 1 2 x0 μ fun t104 => RT (w32 ((w32 (t101 * t102)) + (w32 (t103 * t104)))) μ
def FX1_p (a0 : Int) (μ : Mem) : Rz := BX1_p_0 a0 μ
def BX2_isDark_51 (s0 : Int) (μ : Mem) : Rz := RTZ s0 μ
def BX2_isDark_0 (x0 x1 x2 x3 x4 : Int) (μ : Mem) : Rz := GF 5 4 x1 μ fun t101 => AL 5 t101 x2 μ fun t102 => KD 1 t102 μ (CL (FX1_p t102 μ) fun t103 u104 => KD 2 x0 u104 (CL (FX2_rankAt x0 x1 x2 x3 x4 u104) fun t105 u106 => GF 2 0 x0 u106 fun t107 => AL 7 t107 x2 u106 fun t108 => KD 5 x1 u106 (CL (FX5_indexOfCell x1 x3 x4 u106) fun t109 u110 => AL 1 t108 t109 u110 fun t111 => if w32 ((w32 (t111 * t103)) * t103) ≤ w32 (t105 * 100) then (BX2_isDark_51 0 u110) else (BX2_isDark_51 1 u110))))
def FX2_isDark (a0 a1 a2 a3 a4 : Int) (μ : Mem) : Rz := BX2_isDark_0 a0 a1 a2 a3 a4 μ
def BX6_remainder_14 (s0 : Int) (μ : Mem) : Rz := RT s0 μ
def BX6_remainder_0 (x0 x1 : Int) (μ : Mem) : Rz := if 1 ≤ x1 then (CL (FJ9_floorMod_7cf53 x0 x1 μ) fun t101 u102 => BX6_remainder_14 t101 u102) else (BX6_remainder_14 0 μ)
def FX6_remainder (a0 a1 : Int) (μ : Mem) : Rz := BX6_remainder_0 a0 a1 μ
def BX3_measureAt_0 (x0 x1 x2 : Int) (μ : Mem) : Rz := GF 3 0 x0 μ fun t101 => GF 3 1 x0 μ fun t102 => GF 3 2 x0 μ fun t103 => CL (FX6_remainder (w32 ((w32 (t101 * x1)) + (w32 (t102 * x2)))) t103 μ) fun t104 u105 => GF 3 2 x0 u105 fun t106 => LT (w32 ((w32 (2 * t104)) - t106)) fun x107 => GF 3 0 x0 u105 fun t108 => GF 3 1 x0 u105 fun t109 => GF 3 2 x0 u105 fun t110 => CL (FX6_remainder (w32 ((w32 (t108 * x2)) - (w32 (t109 * x1)))) t110 u105) fun t111 u112 => GF 3 2 x0 u112 fun t113 => LT (w32 ((w32 (2 * t111)) - t113)) fun x114 => GF 3 3 x0 u112 fun t115 => SW t115 0 [RT (w32 ((w32 (x107 * x107)) + (w32 (x114 * x114)))) u112, CL (FJ9_abs_0f7a4 x107 u112) fun t122 u123 => RT t122 u123, CL (FJ9_abs_0f7a4 x107 u112) fun t124 u125 => CL (FJ9_abs_0f7a4 x114 u125) fun t126 u127 => RT (w32 (t124 + t126)) u127] (CL (FJ9_abs_0f7a4 x107 u112) fun t116 u117 => CL (FJ9_abs_0f7a4 x114 u117) fun t118 u119 => CL (FJ9_max_7cf53 t116 t118 u119) fun t120 u121 => RT t120 u121)
def FX3_measureAt (a0 a1 a2 : Int) (μ : Mem) : Rz := BX3_measureAt_0 a0 a1 a2 μ
def BX3_fit_158 (k147 : Int → Int → Int → Mem → Rz) (k158 : Int → Int → Int → Int → Mem → Rz) (x0 x2 x3 x4 : Int) (μ : Mem) : Rz := GF 3 2 x0 μ fun t101 => if t101 ≤ x4 then (k147 x0 x2 (w32 (x3 + 1)) μ) else (KD 3 x0 μ (CL (FX3_measureAt x0 x4 x3 μ) fun t102 u103 => GF 3 4 x0 u103 fun t104 => GF 3 2 x0 u103 fun t105 => AL 1 x2 t102 u103 fun t106 => AS 1 t104 (w32 ((w32 (x3 * t105)) + x4)) t106 u103 fun u107 => AL 1 x2 t102 u107 fun t108 => AS 1 x2 t102 (w32 (t108 + 1)) u107 fun u109 => k158 x0 x2 x3 (w32 (x4 + 1)) u109))
def LX3_fit_158 (k147 : Int → Int → Int → Mem → Rz) : Nat → Int → Int → Int → Int → Mem → Rz
  | 0, _, _, _, _, _ => none
  | n + 1, x0, x2, x3, x4, μ => BX3_fit_158 k147 (fun y0 y2 y3 y4 ν => LX3_fit_158 k147 n y0 y2 y3 y4 ν) x0 x2 x3 x4 μ
def BX3_fit_147 (k147 : Int → Int → Int → Mem → Rz) (x0 x2 x3 : Int) (μ : Mem) : Rz := GF 3 2 x0 μ fun t101 => if t101 ≤ x3 then (RT 0 μ) else (LX3_fit_158 k147 FU x0 x2 x3 0 μ)
def LX3_fit_147 : Nat → Int → Int → Int → Mem → Rz
  | 0, _, _, _, _ => none
  | n + 1, x0, x2, x3, μ => BX3_fit_147 (fun y0 y2 y3 ν => LX3_fit_147 n y0 y2 y3 ν) x0 x2 x3 μ
def BX3_fit_122 (k122 : Int → Int → Int → Mem → Rz) (x0 x2 x3 : Int) (μ : Mem) : Rz := LN 1 x2 μ fun t101 => if t101 ≤ x3 then (LX3_fit_147 FU x0 x2 0 μ) else (AL 1 x2 x3 μ fun t102 => AL 1 x2 (w32 (x3 - 1)) μ fun t103 => AS 1 x2 x3 (w32 (t102 + t103)) μ fun u104 => k122 x0 x2 (w32 (x3 + 1)) u104)
def LX3_fit_122 : Nat → Int → Int → Int → Mem → Rz
  | 0, _, _, _, _ => none
  | n + 1, x0, x2, x3, μ => BX3_fit_122 (fun y0 y2 y3 ν => LX3_fit_122 n y0 y2 y3 ν) x0 x2 x3 μ
def BX3_fit_84 (k73 : Int → Int → Int → Mem → Rz) (k84 : Int → Int → Int → Int → Mem → Rz) (x0 x2 x3 x4 : Int) (μ : Mem) : Rz := GF 3 2 x0 μ fun t101 => if t101 ≤ x4 then (k73 x0 x2 (w32 (x3 + 1)) μ) else (KD 3 x0 μ (CL (FX3_measureAt x0 x4 x3 μ) fun t102 u103 => AL 1 x2 (w32 (t102 + 1)) u103 fun t104 => AS 1 x2 (w32 (t102 + 1)) (w32 (t104 + 1)) u103 fun u105 => k84 x0 x2 x3 (w32 (x4 + 1)) u105))
def LX3_fit_84 (k73 : Int → Int → Int → Mem → Rz) : Nat → Int → Int → Int → Int → Mem → Rz
  | 0, _, _, _, _, _ => none
  | n + 1, x0, x2, x3, x4, μ => BX3_fit_84 k73 (fun y0 y2 y3 y4 ν => LX3_fit_84 k73 n y0 y2 y3 y4 ν) x0 x2 x3 x4 μ
def BX3_fit_73 (k73 : Int → Int → Int → Mem → Rz) (x0 x2 x3 : Int) (μ : Mem) : Rz := GF 3 2 x0 μ fun t101 => if t101 ≤ x3 then (LX3_fit_122 FU x0 x2 1 μ) else (LX3_fit_84 k73 FU x0 x2 x3 0 μ)
def LX3_fit_73 : Nat → Int → Int → Int → Mem → Rz
  | 0, _, _, _, _ => none
  | n + 1, x0, x2, x3, μ => BX3_fit_73 (fun y0 y2 y3 ν => LX3_fit_73 n y0 y2 y3 ν) x0 x2 x3 μ
def BX3_fit_34 (x0 x1 x2 : Int) (μ : Mem) : Rz := GF 1 1 x1 μ fun t101 => PF 3 0 x0 t101 μ fun u102 => GF 1 2 x1 u102 fun t103 => PF 3 1 x0 t103 u102 fun u104 => KD 1 x1 u104 (CL (FX1_p x1 u104) fun t105 u106 => PF 3 2 x0 t105 u106 fun u107 => GF 1 3 x1 u107 fun t108 => PF 3 3 x0 t108 u107 fun u109 => CL (FJ7_fill_53178 x2 0 u109) fun _ u111 => LX3_fit_73 FU x0 x2 0 u111)
def BX3_fit_0 (x0 x1 x2 : Int) (μ : Mem) : Rz := GF 3 0 x0 μ fun t101 => GF 1 1 x1 μ fun t102 => if ¬ t101 = t102 then (BX3_fit_34 x0 x1 x2 μ) else (GF 3 1 x0 μ fun t103 => GF 1 2 x1 μ fun t104 => if ¬ t103 = t104 then (BX3_fit_34 x0 x1 x2 μ) else (GF 3 3 x0 μ fun t105 => GF 1 3 x1 μ fun t106 => if ¬ t105 = t106 then (BX3_fit_34 x0 x1 x2 μ) else (RT 0 μ)))
def FX3_fit (a0 a1 a2 : Int) (μ : Mem) : Rz := BX3_fit_0 a0 a1 a2 μ
def BX5_isCleaned_19 (s0 : Int) (μ : Mem) : Rz := RTZ s0 μ
def BX5_isCleaned_0 (x0 x1 x2 : Int) (μ : Mem) : Rz := GF 5 6 x0 μ fun t101 => AL 1 t101 x2 μ fun t102 => if ¬ bAnd (bShr t102 x1) 1 = 1 then (BX5_isCleaned_19 0 μ) else (BX5_isCleaned_19 1 μ)
def FX5_isCleaned (a0 a1 a2 : Int) (μ : Mem) : Rz := BX5_isCleaned_0 a0 a1 a2 μ
def BX2_putDots_123 (k24 : Int → Int → Int → Int → Int → Mem → Rz) (k36 : Int → Int → Int → Int → Int → Int → Mem → Rz) (x0 x1 x2 x3 x4 x5 : Int) (μ : Mem) : Rz := k36 x0 x1 x2 x3 x4 (w32 (x5 + 1)) μ
def BX2_putDots_77 (k24 : Int → Int → Int → Int → Int → Mem → Rz) (k36 : Int → Int → Int → Int → Int → Int → Mem → Rz) (x0 x1 x2 x3 x4 x5 x6 s0 : Int) (μ : Mem) : Rz := if s0 = 0 then (BX2_putDots_123 k24 k36 x0 x1 x2 x3 x4 x5 μ) else (KD 5 x1 μ (CL (FX5_isCleaned x1 x2 x6 μ) fun t101 u102 => if ¬ t101 = 0 then (BX2_putDots_123 k24 k36 x0 x1 x2 x3 x4 x5 u102) else (KD 2 x0 u102 (CL (FX2_isDark x0 x1 x2 x5 x4 u102) fun t103 u104 => if t103 = 0 then (BX2_putDots_123 k24 k36 x0 x1 x2 x3 x4 x5 u104) else (GF 2 1 x0 u104 fun t105 => AL 1 t105 x6 u104 fun t106 => AS 1 t105 x6 (bOr t106 (bShl 1 x2)) u104 fun u107 => BX2_putDots_123 k24 k36 x0 x1 x2 (w32 (x3 + 1)) x4 x5 u107)))))
def BX2_putDots_36 (k24 : Int → Int → Int → Int → Int → Mem → Rz) (k36 : Int → Int → Int → Int → Int → Int → Mem → Rz) (x0 x1 x2 x3 x4 x5 : Int) (μ : Mem) : Rz := GF 5 0 x1 μ fun t101 => if t101 ≤ x5 then (k24 x0 x1 x2 x3 (w32 (x4 + 1)) μ) else (KD 5 x1 μ (CL (FX5_indexOfCell x1 x5 x4 μ) fun t102 u103 => GF 2 1 x0 u103 fun t104 => AL 1 t104 t102 u103 fun t105 => CL (FJ6_bitCount_0f7a4 t105 u103) fun t106 u107 => GF 5 2 x1 u107 fun t108 => if t108 ≤ t106 then (BX2_putDots_77 k24 k36 x0 x1 x2 x3 x4 x5 t102 0 u107) else (BX2_putDots_77 k24 k36 x0 x1 x2 x3 x4 x5 t102 1 u107)))
def LX2_putDots_36 (k24 : Int → Int → Int → Int → Int → Mem → Rz) : Nat → Int → Int → Int → Int → Int → Int → Mem → Rz
  | 0, _, _, _, _, _, _, _ => none
  | n + 1, x0, x1, x2, x3, x4, x5, μ => BX2_putDots_36 k24 (fun y0 y1 y2 y3 y4 y5 ν => LX2_putDots_36 k24 n y0 y1 y2 y3 y4 y5 ν) x0 x1 x2 x3 x4 x5 μ
def BX2_putDots_24 (k24 : Int → Int → Int → Int → Int → Mem → Rz) (x0 x1 x2 x3 x4 : Int) (μ : Mem) : Rz := GF 5 1 x1 μ fun t101 => if t101 ≤ x4 then (GF 2 2 x0 μ fun t102 => AS 1 t102 x2 x3 μ fun u103 => RT 0 u103) else (LX2_putDots_36 k24 FU x0 x1 x2 x3 x4 0 μ)
def LX2_putDots_24 : Nat → Int → Int → Int → Int → Int → Mem → Rz
  | 0, _, _, _, _, _, _ => none
  | n + 1, x0, x1, x2, x3, x4, μ => BX2_putDots_24 (fun y0 y1 y2 y3 y4 ν => LX2_putDots_24 n y0 y1 y2 y3 y4 ν) x0 x1 x2 x3 x4 μ
def BX2_putDots_0 (x0 x1 x2 : Int) (μ : Mem) : Rz := GF 2 3 x0 μ fun t101 => AL 6 t101 x2 μ fun t102 => GF 5 4 x1 μ fun t103 => AL 5 t103 x2 μ fun t104 => GF 2 4 x0 μ fun t105 => KD 3 t102 μ (CL (FX3_fit t102 t104 t105 μ) fun _ u107 => LX2_putDots_24 FU x0 x1 x2 0 0 u107)
def FX2_putDots (a0 a1 a2 : Int) (μ : Mem) : Rz := BX2_putDots_0 a0 a1 a2 μ
def BX0_operand_0 (x0 x1 x2 x3 x4 : Int) (μ : Mem) : Rz := SW x0 (-4) [RT x4 μ, RT x3 μ, RT x2 μ, RT x1 μ] (RT x0 μ)
def FX0_operand (a0 a1 a2 a3 a4 : Int) (μ : Mem) : Rz := BX0_operand_0 a0 a1 a2 a3 a4 μ
def BX6_limited_0 (x0 x2 x3 : Int) (μ : Mem) : Rz := CL (FJ9_min_f86c9 x3 x0 μ) fun t101 u102 => CL (FJ9_max_f86c9 x2 t101 u102) fun t103 u104 => RT (w32 t103) u104
def FX6_limited (a0 a2 a3 : Int) (μ : Mem) : Rz := BX6_limited_0 a0 a2 a3 μ
def BX0_result_81 (s0 : Int) (μ : Mem) : Rz := RT s0 μ
def BX0_result_0 (x0 x1 x3 : Int) (μ : Mem) : Rz := SW x0 (-7) [CL (FX6_limited (w64 (x1 * x3)) (-1000000) 1000000 μ) fun t104 u105 => RT t104 u105, CL (FX6_limited (w64 (x1 - x3)) (-1000000) 1000000 μ) fun t106 u107 => RT t106 u107, CL (FX6_limited (w64 (x1 + x3)) (-1000000) 1000000 μ) fun t108 u109 => RT t108 u109] (if ¬ cLong x3 0 = 0 then (LD x1 x3 fun t101 => CL (FX6_limited t101 (-1000000) 1000000 μ) fun t102 u103 => BX0_result_81 t102 u103) else (BX0_result_81 0 μ))
def FX0_result (a0 a1 a3 : Int) (μ : Mem) : Rz := BX0_result_0 a0 a1 a3 μ
def BX0_toneAt_131 (s0 : Int) (μ : Mem) : Rz := RT s0 μ
def BX0_toneAt_105 (k17 : Int → Int → Int → Int → Int → Int → Int → Int → Int → Mem → Rz) (x1 x2 x3 x4 x5 x6 x7 x8 x9 : Int) (μ : Mem) : Rz := k17 x1 x2 x3 x4 x5 x6 x7 x8 (w32 (x9 + 1)) μ
def BX0_toneAt_17 (k17 : Int → Int → Int → Int → Int → Int → Int → Int → Int → Mem → Rz) (x1 x2 x3 x4 x5 x6 x7 x8 x9 : Int) (μ : Mem) : Rz := if x8 ≤ x9 then (if 1 ≤ x6 then (AL 1 x1 0 μ fun t101 => CL (FX6_limited t101 0 100 μ) fun t102 u103 => BX0_toneAt_131 t102 u103) else (BX0_toneAt_131 0 μ)) else (AL 1 x7 x9 μ fun t104 => if t104 ≤ (-5) then (if x6 < 2 then (BX0_toneAt_105 k17 x1 x2 x3 x4 x5 x6 x7 x8 x9 μ) else (LN 1 x1 μ fun t105 => if t105 < x6 then (BX0_toneAt_105 k17 x1 x2 x3 x4 x5 x6 x7 x8 x9 μ) else (AL 1 x1 (w32 ((w32 (x6 + (-1))) - 1)) μ fun t106 => AL 1 x1 (w32 (x6 + (-1))) μ fun t107 => CL (FX0_result t104 t106 t107 μ) fun t108 u109 => AS 1 x1 (w32 ((w32 (x6 + (-1))) - 1)) t108 u109 fun u110 => BX0_toneAt_105 k17 x1 x2 x3 x4 x5 (w32 (x6 + (-1))) x7 x8 x9 u110))) else (LN 1 x1 μ fun t111 => if t111 ≤ x6 then (BX0_toneAt_105 k17 x1 x2 x3 x4 x5 x6 x7 x8 x9 μ) else (CL (FX0_operand t104 x2 x3 x4 x5 μ) fun t112 u113 => AS 1 x1 x6 t112 u113 fun u114 => BX0_toneAt_105 k17 x1 x2 x3 x4 x5 (w32 (x6 + 1)) x7 x8 x9 u114)))
def LX0_toneAt_17 : Nat → Int → Int → Int → Int → Int → Int → Int → Int → Int → Mem → Rz
  | 0, _, _, _, _, _, _, _, _, _, _ => none
  | n + 1, x1, x2, x3, x4, x5, x6, x7, x8, x9, μ => BX0_toneAt_17 (fun y1 y2 y3 y4 y5 y6 y7 y8 y9 ν => LX0_toneAt_17 n y1 y2 y3 y4 y5 y6 y7 y8 y9 ν) x1 x2 x3 x4 x5 x6 x7 x8 x9 μ
def BX0_toneAt_0 (x0 x1 x2 x3 x4 x5 : Int) (μ : Mem) : Rz := GF 0 0 x0 μ fun t101 => LN 1 t101 μ fun t102 => LX0_toneAt_17 FU x1 x2 x3 x4 x5 0 t101 t102 0 μ
def FX0_toneAt (a0 a1 a2 a3 a4 a5 : Int) (μ : Mem) : Rz := BX0_toneAt_0 a0 a1 a2 a3 a4 a5 μ
def BX2_takeTones_89 (k21 : Int → Int → Int → Int → Int → Int → Mem → Rz) (k33 : Int → Int → Int → Int → Int → Int → Int → Mem → Rz) (x0 x1 x2 x3 x4 x5 x6 s0 s1 s2 : Int) (μ : Mem) : Rz := AS 1 s2 s1 s0 μ fun u101 => k33 x0 x1 x2 x3 x4 x5 (w32 (x6 + 1)) u101
def BX2_takeTones_33 (k21 : Int → Int → Int → Int → Int → Int → Mem → Rz) (k33 : Int → Int → Int → Int → Int → Int → Int → Mem → Rz) (x0 x1 x2 x3 x4 x5 x6 : Int) (μ : Mem) : Rz := GF 5 0 x1 μ fun t101 => if t101 ≤ x6 then (k21 x0 x1 x2 x3 x4 (w32 (x5 + 1)) μ) else (KD 5 x1 μ (CL (FX5_indexOfCell x1 x6 x5 μ) fun t102 u103 => GF 5 5 x1 u103 fun t104 => AL 1 t104 t102 u103 fun t105 => if ¬ x3 = 0 then (GF 2 5 x0 u103 fun t106 => KD 0 x3 u103 (CL (FX0_toneAt x3 t106 t105 x6 x5 x2 u103) fun t107 u108 => BX2_takeTones_89 k21 k33 x0 x1 x2 x3 x4 x5 x6 t107 t102 x4 u108)) else (BX2_takeTones_89 k21 k33 x0 x1 x2 x3 x4 x5 x6 t105 t102 x4 u103)))
def LX2_takeTones_33 (k21 : Int → Int → Int → Int → Int → Int → Mem → Rz) : Nat → Int → Int → Int → Int → Int → Int → Int → Mem → Rz
  | 0, _, _, _, _, _, _, _, _ => none
  | n + 1, x0, x1, x2, x3, x4, x5, x6, μ => BX2_takeTones_33 k21 (fun y0 y1 y2 y3 y4 y5 y6 ν => LX2_takeTones_33 k21 n y0 y1 y2 y3 y4 y5 y6 ν) x0 x1 x2 x3 x4 x5 x6 μ
def BX2_takeTones_21 (k21 : Int → Int → Int → Int → Int → Int → Mem → Rz) (x0 x1 x2 x3 x4 x5 : Int) (μ : Mem) : Rz := GF 5 1 x1 μ fun t101 => if t101 ≤ x5 then (RT 0 μ) else (LX2_takeTones_33 k21 FU x0 x1 x2 x3 x4 x5 0 μ)
def LX2_takeTones_21 : Nat → Int → Int → Int → Int → Int → Int → Mem → Rz
  | 0, _, _, _, _, _, _, _ => none
  | n + 1, x0, x1, x2, x3, x4, x5, μ => BX2_takeTones_21 (fun y0 y1 y2 y3 y4 y5 ν => LX2_takeTones_21 n y0 y1 y2 y3 y4 y5 ν) x0 x1 x2 x3 x4 x5 μ
def BX2_takeTones_0 (x0 x1 x2 : Int) (μ : Mem) : Rz := GF 5 4 x1 μ fun t101 => AL 5 t101 x2 μ fun t102 => GF 1 7 t102 μ fun t103 => GF 2 0 x0 μ fun t104 => AL 7 t104 x2 μ fun t105 => LX2_takeTones_21 FU x0 x1 x2 t103 t105 0 μ
def FX2_takeTones (a0 a1 a2 : Int) (μ : Mem) : Rz := BX2_takeTones_0 a0 a1 a2 μ
def BX2_update_76 (μ : Mem) : Rz := RT 0 μ
def BX2_update_51 (k51 : Int → Int → Int → Mem → Rz) (x0 x1 x2 : Int) (μ : Mem) : Rz := GF 5 3 x1 μ fun t101 => if t101 ≤ x2 then (PZ 2 7 x0 1 μ fun u102 => BX2_update_76 u102) else (KD 2 x0 μ (CL (FX2_putDots x0 x1 x2 μ) fun _ u104 => k51 x0 x1 (w32 (x2 + 1)) u104))
def LX2_update_51 : Nat → Int → Int → Int → Mem → Rz
  | 0, _, _, _, _ => none
  | n + 1, x0, x1, x2, μ => BX2_update_51 (fun y0 y1 y2 ν => LX2_update_51 n y0 y1 y2 ν) x0 x1 x2 μ
def BX2_update_34 (x0 x1 : Int) (μ : Mem) : Rz := GF 2 7 x0 μ fun t101 => if ¬ t101 = 0 then (BX2_update_76 μ) else (GF 2 1 x0 μ fun t102 => CL (FJ7_fill_53178 t102 0 μ) fun _ u104 => LX2_update_51 FU x0 x1 0 u104)
def BX2_update_9 (k9 : Int → Int → Int → Mem → Rz) (x0 x1 x2 : Int) (μ : Mem) : Rz := GF 5 3 x1 μ fun t101 => if t101 ≤ x2 then (PZ 2 6 x0 1 μ fun u102 => BX2_update_34 x0 x1 u102) else (KD 2 x0 μ (CL (FX2_takeTones x0 x1 x2 μ) fun _ u104 => k9 x0 x1 (w32 (x2 + 1)) u104))
def LX2_update_9 : Nat → Int → Int → Int → Mem → Rz
  | 0, _, _, _, _ => none
  | n + 1, x0, x1, x2, μ => BX2_update_9 (fun y0 y1 y2 ν => LX2_update_9 n y0 y1 y2 ν) x0 x1 x2 μ
def BX2_update_0 (x0 x1 : Int) (μ : Mem) : Rz := GF 2 6 x0 μ fun t101 => if ¬ t101 = 0 then (BX2_update_34 x0 x1 μ) else (LX2_update_9 FU x0 x1 0 μ)
def FX2_update (a0 a1 : Int) (μ : Mem) : Rz := BX2_update_0 a0 a1 μ
def BX6_requireCell_30 (μ : Mem) : Rz := TH 1 μ
def BX6_requireCell_0 (x0 x1 x2 : Int) (μ : Mem) : Rz := if x1 < 0 then (BX6_requireCell_30 μ) else (GF 6 6 x0 μ fun t101 => GF 5 0 t101 μ fun t102 => if t102 ≤ x1 then (BX6_requireCell_30 μ) else (if x2 < 0 then (BX6_requireCell_30 μ) else (GF 6 6 x0 μ fun t103 => GF 5 1 t103 μ fun t104 => if x2 < t104 then (RT 0 μ) else (BX6_requireCell_30 μ))))
def FX6_requireCell (a0 a1 a2 : Int) (μ : Mem) : Rz := BX6_requireCell_0 a0 a1 a2 μ
def BX6_requirePlate_15 (μ : Mem) : Rz := TH 1 μ
def BX6_requirePlate_0 (x0 x1 : Int) (μ : Mem) : Rz := if x1 < 0 then (BX6_requirePlate_15 μ) else (GF 6 6 x0 μ fun t101 => GF 5 3 t101 μ fun t102 => if x1 < t102 then (RT 0 μ) else (BX6_requirePlate_15 μ))
def FX6_requirePlate (a0 a1 : Int) (μ : Mem) : Rz := BX6_requirePlate_0 a0 a1 μ
def BX6_cell_22 (μ : Mem) : Rz := TH 2 μ
def BX6_cell_134 (s0 : Int) (μ : Mem) : Rz := RT s0 μ
def BX6_cell_157 (s0 : Int) (μ : Mem) : Rz := RT s0 μ
def BX6_cell_176 (s0 : Int) (μ : Mem) : Rz := RT s0 μ
def BX6_cell_0 (x0 x1 x2 x3 x4 : Int) (μ : Mem) : Rz := KD 6 x0 μ (CL (FX6_requirePlate x0 x1 μ) fun _ u102 => KD 6 x0 u102 (CL (FX6_requireCell x0 x2 x3 u102) fun _ u104 => if x4 < 0 then (BX6_cell_22 u104) else (if x4 ≤ 4 then (GF 6 7 x0 u104 fun t105 => GF 6 6 x0 u104 fun t106 => KD 2 t105 u104 (CL (FX2_update t105 t106 u104) fun _ u108 => GF 6 6 x0 u108 fun t109 => KD 5 t109 u108 (CL (FX5_indexOfCell t109 x2 x3 u108) fun t110 u111 => SW x4 0 [GF 6 7 x0 u111 fun t115 => GF 6 6 x0 u111 fun t116 => KD 2 t115 u111 (CL (FX2_rankAt t115 t116 x1 x2 x3 u111) fun t117 u118 => RT t117 u118), GF 6 7 x0 u111 fun t119 => GF 2 0 t119 u111 fun t120 => AL 7 t120 x1 u111 fun t121 => AL 1 t121 t110 u111 fun t122 => RT t122 u111, GF 6 7 x0 u111 fun t123 => KD 2 t123 u111 (CL (FX2_hasDot t123 x1 t110 u111) fun t124 u125 => if t124 = 0 then (BX6_cell_134 0 u125) else (BX6_cell_134 1 u125)), GF 6 7 x0 u111 fun t126 => GF 6 6 x0 u111 fun t127 => KD 2 t126 u111 (CL (FX2_isSpot t126 t127 x1 x2 x3 u111) fun t128 u129 => if t128 = 0 then (BX6_cell_157 0 u129) else (BX6_cell_157 1 u129))] (GF 6 6 x0 u111 fun t112 => KD 5 t112 u111 (CL (FX5_isCleaned t112 x1 t110 u111) fun t113 u114 => if t113 = 0 then (BX6_cell_176 0 u114) else (BX6_cell_176 1 u114)))))) else (BX6_cell_22 u104))))
def FX6_cell (a0 a1 a2 a3 a4 : Int) (μ : Mem) : Rz := BX6_cell_0 a0 a1 a2 a3 a4 μ
def BX6_inks_0 (x0 x1 x2 : Int) (μ : Mem) : Rz := KD 6 x0 μ (CL (FX6_requireCell x0 x1 x2 μ) fun _ u102 => GF 6 7 x0 u102 fun t103 => GF 6 6 x0 u102 fun t104 => KD 2 t103 u102 (CL (FX2_update t103 t104 u102) fun _ u106 => GF 6 7 x0 u106 fun t107 => GF 2 1 t107 u106 fun t108 => GF 6 6 x0 u106 fun t109 => KD 5 t109 u106 (CL (FX5_indexOfCell t109 x1 x2 u106) fun t110 u111 => AL 1 t108 t110 u111 fun t112 => RT t112 u111)))
def FX6_inks (a0 a1 a2 : Int) (μ : Mem) : Rz := BX6_inks_0 a0 a1 a2 μ
def BX5_cells_0 (x0 : Int) (μ : Mem) : Rz := GF 5 0 x0 μ fun t101 => GF 5 1 x0 μ fun t102 => RT (w32 (t101 * t102)) μ
def FX5_cells (a0 : Int) (μ : Mem) : Rz := BX5_cells_0 a0 μ
def BX2_cellsHaving_34 (k5 : Int → Int → Int → Int → Int → Mem → Rz) (x0 x1 x2 x4 s0 s1 : Int) (μ : Mem) : Rz := LT (w32 (s1 + s0)) fun x101 => k5 x0 x1 x2 x101 (w32 (x4 + 1)) μ
def BX2_cellsHaving_5 (k5 : Int → Int → Int → Int → Int → Mem → Rz) (x0 x1 x2 x3 x4 : Int) (μ : Mem) : Rz := KD 5 x1 μ (CL (FX5_cells x1 μ) fun t101 u102 => if t101 ≤ x4 then (RT x3 u102) else (GF 2 1 x0 u102 fun t103 => AL 1 t103 x4 u102 fun t104 => CL (FJ6_bitCount_0f7a4 t104 u102) fun t105 u106 => if ¬ t105 = x2 then (BX2_cellsHaving_34 k5 x0 x1 x2 x4 0 x3 u106) else (BX2_cellsHaving_34 k5 x0 x1 x2 x4 1 x3 u106)))
def LX2_cellsHaving_5 : Nat → Int → Int → Int → Int → Int → Mem → Rz
  | 0, _, _, _, _, _, _ => none
  | n + 1, x0, x1, x2, x3, x4, μ => BX2_cellsHaving_5 (fun y0 y1 y2 y3 y4 ν => LX2_cellsHaving_5 n y0 y1 y2 y3 y4 ν) x0 x1 x2 x3 x4 μ
def BX2_cellsHaving_0 (x0 x1 x2 : Int) (μ : Mem) : Rz := LX2_cellsHaving_5 FU x0 x1 x2 0 0 μ
def FX2_cellsHaving (a0 a1 a2 : Int) (μ : Mem) : Rz := BX2_cellsHaving_0 a0 a1 a2 μ
def BX2_dotsOfAll_4 (k4 : Int → Int → Int → Int → Mem → Rz) (x0 x1 x2 x3 : Int) (μ : Mem) : Rz := GF 5 3 x1 μ fun t101 => if t101 ≤ x3 then (RT x2 μ) else (GF 2 2 x0 μ fun t102 => AL 1 t102 x3 μ fun t103 => LT (w32 (x2 + t103)) fun x104 => k4 x0 x1 x104 (w32 (x3 + 1)) μ)
def LX2_dotsOfAll_4 : Nat → Int → Int → Int → Int → Mem → Rz
  | 0, _, _, _, _, _ => none
  | n + 1, x0, x1, x2, x3, μ => BX2_dotsOfAll_4 (fun y0 y1 y2 y3 ν => LX2_dotsOfAll_4 n y0 y1 y2 y3 ν) x0 x1 x2 x3 μ
def BX2_dotsOfAll_0 (x0 x1 : Int) (μ : Mem) : Rz := LX2_dotsOfAll_4 FU x0 x1 0 0 μ
def FX2_dotsOfAll (a0 a1 : Int) (μ : Mem) : Rz := BX2_dotsOfAll_0 a0 a1 μ
def BX5_cleanedOfAll_4 (k4 : Int → Int → Int → Mem → Rz) (x0 x1 x2 : Int) (μ : Mem) : Rz := KD 5 x0 μ (CL (FX5_cells x0 μ) fun t101 u102 => if t101 ≤ x2 then (RT x1 u102) else (GF 5 6 x0 u102 fun t103 => AL 1 t103 x2 u102 fun t104 => CL (FJ6_bitCount_0f7a4 t104 u102) fun t105 u106 => LT (w32 (x1 + t105)) fun x107 => k4 x0 x107 (w32 (x2 + 1)) u106))
def LX5_cleanedOfAll_4 : Nat → Int → Int → Int → Mem → Rz
  | 0, _, _, _, _ => none
  | n + 1, x0, x1, x2, μ => BX5_cleanedOfAll_4 (fun y0 y1 y2 ν => LX5_cleanedOfAll_4 n y0 y1 y2 ν) x0 x1 x2 μ
def BX5_cleanedOfAll_0 (x0 : Int) (μ : Mem) : Rz := LX5_cleanedOfAll_4 FU x0 0 0 μ
def FX5_cleanedOfAll (a0 : Int) (μ : Mem) : Rz := BX5_cleanedOfAll_0 a0 μ
def BX6_sumOfTones_27 (x2 : Int) (μ : Mem) : Rz := RT x2 μ
def BX6_sumOfTones_4 (k4 : Int → Int → Int → Int → Mem → Rz) (x0 x1 x2 x3 : Int) (μ : Mem) : Rz := if x1 ≤ x3 then (BX6_sumOfTones_27 x2 μ) else (LN 1 x0 μ fun t101 => if t101 ≤ x3 then (BX6_sumOfTones_27 x2 μ) else (AL 1 x0 x3 μ fun t102 => LT (w32 (x2 + t102)) fun x103 => k4 x0 x1 x103 (w32 (x3 + 1)) μ))
def LX6_sumOfTones_4 : Nat → Int → Int → Int → Int → Mem → Rz
  | 0, _, _, _, _, _ => none
  | n + 1, x0, x1, x2, x3, μ => BX6_sumOfTones_4 (fun y0 y1 y2 y3 ν => LX6_sumOfTones_4 n y0 y1 y2 y3 ν) x0 x1 x2 x3 μ
def BX6_sumOfTones_0 (x0 x1 : Int) (μ : Mem) : Rz := LX6_sumOfTones_4 FU x0 x1 0 0 μ
def FX6_sumOfTones (a0 a1 : Int) (μ : Mem) : Rz := BX6_sumOfTones_0 a0 a1 μ
def BX6_state_10 (μ : Mem) : Rz := TH 2 μ
def BX6_state_169 (s0 : Int) (μ : Mem) : Rz := RT s0 μ
def BX6_state_0 (x0 x1 : Int) (μ : Mem) : Rz := if x1 < 0 then (BX6_state_10 μ) else (if x1 ≤ 8 then (GF 6 7 x0 μ fun t101 => GF 6 6 x0 μ fun t102 => KD 2 t101 μ (CL (FX2_update t101 t102 μ) fun _ u104 => SW x1 0 [GF 6 6 x0 u104 fun t108 => GF 5 0 t108 u104 fun t109 => RT t109 u104, GF 6 6 x0 u104 fun t110 => GF 5 1 t110 u104 fun t111 => RT t111 u104, GF 6 6 x0 u104 fun t112 => GF 5 3 t112 u104 fun t113 => RT t113 u104, GF 6 6 x0 u104 fun t114 => GF 5 2 t114 u104 fun t115 => RT t115 u104, GF 6 7 x0 u104 fun t116 => GF 6 6 x0 u104 fun t117 => KD 2 t116 u104 (CL (FX2_dotsOfAll t116 t117 u104) fun t118 u119 => RT t118 u119), GF 6 7 x0 u104 fun t120 => GF 6 6 x0 u104 fun t121 => KD 2 t120 u104 (CL (FX2_cellsHaving t120 t121 0 u104) fun t122 u123 => RT t122 u123), GF 6 6 x0 u104 fun t124 => GF 5 3 t124 u104 fun t125 => if ¬ t125 = 0 then (GF 6 7 x0 u104 fun t126 => GF 6 6 x0 u104 fun t127 => GF 6 6 x0 u104 fun t128 => GF 5 3 t128 u104 fun t129 => KD 2 t126 u104 (CL (FX2_cellsHaving t126 t127 t129 u104) fun t130 u131 => BX6_state_169 t130 u131)) else (BX6_state_169 0 u104), GF 6 6 x0 u104 fun t132 => GF 5 5 t132 u104 fun t133 => GF 6 6 x0 u104 fun t134 => KD 5 t134 u104 (CL (FX5_cells t134 u104) fun t135 u136 => CL (FX6_sumOfTones t133 t135 u136) fun t137 u138 => RT t137 u138)] (GF 6 6 x0 u104 fun t105 => KD 5 t105 u104 (CL (FX5_cleanedOfAll t105 u104) fun t106 u107 => RT t106 u107)))) else (BX6_state_10 μ))
def FX6_state (a0 a1 : Int) (μ : Mem) : Rz := BX6_state_0 a0 a1 μ
def BX6_tone_0 (x0 x1 x2 : Int) (μ : Mem) : Rz := KD 6 x0 μ (CL (FX6_requireCell x0 x1 x2 μ) fun _ u102 => GF 6 6 x0 u102 fun t103 => GF 5 5 t103 u102 fun t104 => GF 6 6 x0 u102 fun t105 => KD 5 t105 u102 (CL (FX5_indexOfCell t105 x1 x2 u102) fun t106 u107 => AL 1 t104 t106 u107 fun t108 => RT t108 u107))
def FX6_tone (a0 a1 a2 : Int) (μ : Mem) : Rz := BX6_tone_0 a0 a1 a2 μ
def BX6_why_85 (s0 : Int) (μ : Mem) : Rz := RT s0 μ
def BX6_why_0 (x0 x1 x2 x3 : Int) (μ : Mem) : Rz := KD 6 x0 μ (CL (FX6_requirePlate x0 x1 μ) fun _ u102 => KD 6 x0 u102 (CL (FX6_requireCell x0 x2 x3 u102) fun _ u104 => GF 6 7 x0 u104 fun t105 => GF 6 6 x0 u104 fun t106 => KD 2 t105 u104 (CL (FX2_update t105 t106 u104) fun _ u108 => GF 6 6 x0 u108 fun t109 => KD 5 t109 u108 (CL (FX5_indexOfCell t109 x2 x3 u108) fun t110 u111 => GF 6 7 x0 u111 fun t112 => KD 2 t112 u111 (CL (FX2_hasDot t112 x1 t110 u111) fun t113 u114 => if t113 = 0 then (GF 6 6 x0 u114 fun t115 => KD 5 t115 u114 (CL (FX5_isCleaned t115 x1 t110 u114) fun t116 u117 => if t116 = 0 then (GF 6 7 x0 u117 fun t118 => GF 6 6 x0 u117 fun t119 => KD 2 t118 u117 (CL (FX2_isDark t118 t119 x1 x2 x3 u117) fun t120 u121 => if t120 = 0 then (BX6_why_85 2 u121) else (BX6_why_85 3 u121))) else (RT 1 u117))) else (RT 0 u114))))))
def FX6_why (a0 a1 a2 a3 : Int) (μ : Mem) : Rz := BX6_why_0 a0 a1 a2 a3 μ
def BX6_appendWord_46 (μ : Mem) : Rz := RT 0 μ
def BX6_appendWord_3 (k3 : Int → Int → Int → Mem → Rz) (x0 x1 x2 : Int) (μ : Mem) : Rz := if x2 < 0 then (BX6_appendWord_46 μ) else (GF 6 1 x0 μ fun t101 => if 600 ≤ t101 then (BX6_appendWord_46 μ) else (GF 6 0 x0 μ fun t102 => GF 6 1 x0 μ fun t103 => ASB t102 t103 (w8 (bUsh x1 x2)) μ fun u104 => GF 6 1 x0 u104 fun t105 => PF 6 1 x0 (w32 (t105 + 1)) u104 fun u106 => k3 x0 x1 (w32 (x2 + (-8))) u106))
def LX6_appendWord_3 : Nat → Int → Int → Int → Mem → Rz
  | 0, _, _, _, _ => none
  | n + 1, x0, x1, x2, μ => BX6_appendWord_3 (fun y0 y1 y2 ν => LX6_appendWord_3 n y0 y1 y2 ν) x0 x1 x2 μ
def BX6_appendWord_0 (x0 x1 : Int) (μ : Mem) : Rz := LX6_appendWord_3 FU x0 x1 24 μ
def FX6_appendWord (a0 a1 : Int) (μ : Mem) : Rz := BX6_appendWord_0 a0 a1 μ
def BX6_append_0 (x0 x1 x2 x3 x4 x5 : Int) (μ : Mem) : Rz := GF 6 1 x0 μ fun t101 => if t101 ≤ 580 then (KD 6 x0 μ (CL (FX6_appendWord x0 x1 μ) fun _ u103 => KD 6 x0 u103 (CL (FX6_appendWord x0 x2 u103) fun _ u105 => KD 6 x0 u105 (CL (FX6_appendWord x0 x3 u105) fun _ u107 => KD 6 x0 u107 (CL (FX6_appendWord x0 x4 u107) fun _ u109 => KD 6 x0 u109 (CL (FX6_appendWord x0 x5 u109) fun _ u111 => GF 6 1 x0 u111 fun t112 => RT t112 u111)))))) else (RT (-1) μ)
def FX6_append (a0 a1 a2 a3 a4 a5 : Int) (μ : Mem) : Rz := BX6_append_0 a0 a1 a2 a3 a4 a5 μ
def BX2_forgetTones_0 (x0 : Int) (μ : Mem) : Rz := PZ 2 6 x0 0 μ fun u101 => PZ 2 7 x0 0 u101 fun u102 => RT 0 u102
def FX2_forgetTones (a0 : Int) (μ : Mem) : Rz := BX2_forgetTones_0 a0 μ
def BX4_takeRun_26 (μ : Mem) : Rz := RT 0 μ
def BX4_takeRun_82 (μ : Mem) : Rz := RT 0 μ
def BX4_takeRun_32 (k32 : Int → Int → Int → Mem → Rz) (x0 x1 x2 : Int) (μ : Mem) : Rz := GF 4 9 x0 μ fun t101 => GF 4 3 x0 μ fun t102 => if t102 ≤ t101 then (BX4_takeRun_82 μ) else (GF 4 2 x0 μ fun t103 => GF 4 9 x0 μ fun t104 => AL 0 t103 t104 μ fun t105 => if t105 < x1 then (BX4_takeRun_82 μ) else (GF 4 2 x0 μ fun t106 => GF 4 9 x0 μ fun t107 => AL 0 t106 t107 μ fun t108 => if x2 < t108 then (BX4_takeRun_82 μ) else (GF 4 9 x0 μ fun t109 => PF 4 9 x0 (w32 (t109 + 1)) μ fun u110 => k32 x0 x1 x2 u110)))
def LX4_takeRun_32 : Nat → Int → Int → Int → Mem → Rz
  | 0, _, _, _, _ => none
  | n + 1, x0, x1, x2, μ => BX4_takeRun_32 (fun y0 y1 y2 ν => LX4_takeRun_32 n y0 y1 y2 ν) x0 x1 x2 μ
def BX4_takeRun_0 (x0 x1 x2 x3 : Int) (μ : Mem) : Rz := GF 4 2 x0 μ fun t101 => GF 4 8 x0 μ fun t102 => AL 0 t101 t102 μ fun t103 => if t103 < x1 then (BX4_takeRun_26 μ) else (GF 4 2 x0 μ fun t104 => GF 4 8 x0 μ fun t105 => AL 0 t104 t105 μ fun t106 => if t106 ≤ x2 then (PF 4 7 x0 x3 μ fun u107 => LX4_takeRun_32 FU x0 x1 x2 u107) else (BX4_takeRun_26 μ))
def FX4_takeRun (a0 a1 a2 a3 : Int) (μ : Mem) : Rz := BX4_takeRun_0 a0 a1 a2 a3 μ
def BX4_advance_46 (x0 : Int) (μ : Mem) : Rz := GF 4 8 x0 μ fun t101 => GF 4 3 x0 μ fun t102 => if t101 < t102 then (PF 4 7 x0 3 μ fun u103 => GF 4 8 x0 u103 fun t104 => PF 4 9 x0 (w32 (t104 + 1)) u103 fun u105 => KD 4 x0 u105 (CL (FX4_takeRun x0 97 122 2 u105) fun _ u107 => KD 4 x0 u107 (CL (FX4_takeRun x0 48 57 1 u107) fun _ u109 => RT 0 u109))) else (PF 4 7 x0 0 μ fun u110 => GF 4 8 x0 u110 fun t111 => PF 4 9 x0 t111 u110 fun u112 => RT 0 u112)
def BX4_advance_8 (k8 : Int → Mem → Rz) (x0 : Int) (μ : Mem) : Rz := GF 4 8 x0 μ fun t101 => GF 4 3 x0 μ fun t102 => if t102 ≤ t101 then (BX4_advance_46 x0 μ) else (GF 4 2 x0 μ fun t103 => GF 4 8 x0 μ fun t104 => AL 0 t103 t104 μ fun t105 => if ¬ t105 = 32 then (BX4_advance_46 x0 μ) else (GF 4 8 x0 μ fun t106 => PF 4 8 x0 (w32 (t106 + 1)) μ fun u107 => k8 x0 u107))
def LX4_advance_8 : Nat → Int → Mem → Rz
  | 0, _, _ => none
  | n + 1, x0, μ => BX4_advance_8 (fun y0 ν => LX4_advance_8 n y0 ν) x0 μ
def BX4_advance_0 (x0 : Int) (μ : Mem) : Rz := GF 4 9 x0 μ fun t101 => PF 4 8 x0 t101 μ fun u102 => LX4_advance_8 FU x0 u102
def FX4_advance (a0 : Int) (μ : Mem) : Rz := BX4_advance_0 a0 μ
def BX4_fail_0 (x0 x1 : Int) (μ : Mem) : Rz := PF 4 0 x0 x1 μ fun u101 => GF 4 8 x0 u101 fun t102 => PF 4 1 x0 t102 u101 fun u103 => RTZ 0 u103
def FX4_fail (a0 a1 : Int) (μ : Mem) : Rz := BX4_fail_0 a0 a1 μ
def BX4_isWord_24 (μ : Mem) : Rz := RTZ 0 μ
def BX4_isWord_28 (k28 : Int → Int → Int → Mem → Rz) (x0 x1 x2 : Int) (μ : Mem) : Rz := STL x1 fun t101 => if t101 ≤ x2 then (RTZ 1 μ) else (GF 4 2 x0 μ fun t102 => GF 4 8 x0 μ fun t103 => AL 0 t102 (w32 (t103 + x2)) μ fun t104 => STC x1 x2 fun t105 => if t104 = t105 then (k28 x0 x1 (w32 (x2 + 1)) μ) else (RTZ 0 μ))
def LX4_isWord_28 : Nat → Int → Int → Int → Mem → Rz
  | 0, _, _, _, _ => none
  | n + 1, x0, x1, x2, μ => BX4_isWord_28 (fun y0 y1 y2 ν => LX4_isWord_28 n y0 y1 y2 ν) x0 x1 x2 μ
def BX4_isWord_0 (x0 x1 : Int) (μ : Mem) : Rz := GF 4 7 x0 μ fun t101 => if ¬ t101 = 2 then (BX4_isWord_24 μ) else (GF 4 9 x0 μ fun t102 => GF 4 8 x0 μ fun t103 => STL x1 fun t104 => if w32 (t102 - t103) = t104 then (LX4_isWord_28 FU x0 x1 0 μ) else (BX4_isWord_24 μ))
def FX4_isWord (a0 a1 : Int) (μ : Mem) : Rz := BX4_isWord_0 a0 a1 μ
def BX4_takeNumber_69 (x0 : Int) (μ : Mem) : Rz := KD 4 x0 μ (CL (FX4_fail x0 (-3) μ) fun t101 u102 => RTZ t101 u102)
def BX4_takeNumber_23 (k23 : Int → Int → Int → Int → Int → Mem → Rz) (x0 x1 x2 x3 x4 : Int) (μ : Mem) : Rz := GF 4 9 x0 μ fun t101 => if t101 ≤ x4 then (if x3 < x1 then (BX4_takeNumber_69 x0 μ) else (if x3 ≤ x2 then (PF 4 10 x0 x3 μ fun u102 => KD 4 x0 u102 (CL (FX4_advance x0 u102) fun _ u104 => RTZ 1 u104)) else (BX4_takeNumber_69 x0 μ))) else (GF 4 2 x0 μ fun t105 => AL 0 t105 x4 μ fun t106 => CL (FJ9_min_7cf53 (w32 ((w32 ((w32 (x3 * 10)) + t106)) - 48)) 1000000 μ) fun t107 u108 => k23 x0 x1 x2 t107 (w32 (x4 + 1)) u108)
def LX4_takeNumber_23 : Nat → Int → Int → Int → Int → Int → Mem → Rz
  | 0, _, _, _, _, _, _ => none
  | n + 1, x0, x1, x2, x3, x4, μ => BX4_takeNumber_23 (fun y0 y1 y2 y3 y4 ν => LX4_takeNumber_23 n y0 y1 y2 y3 y4 ν) x0 x1 x2 x3 x4 μ
def BX4_takeNumber_0 (x0 x1 x2 : Int) (μ : Mem) : Rz := GF 4 7 x0 μ fun t101 => if t101 = 1 then (GF 4 8 x0 μ fun t102 => LX4_takeNumber_23 FU x0 x1 x2 0 t102 μ) else (KD 4 x0 μ (CL (FX4_fail x0 (-2) μ) fun t103 u104 => RTZ t103 u104))
def FX4_takeNumber (a0 a1 a2 : Int) (μ : Mem) : Rz := BX4_takeNumber_0 a0 a1 a2 μ
def BX4_isSign_26 (s0 : Int) (μ : Mem) : Rz := RTZ s0 μ
def BX4_isSign_25 (μ : Mem) : Rz := BX4_isSign_26 0 μ
def BX4_isSign_0 (x0 x1 : Int) (μ : Mem) : Rz := GF 4 7 x0 μ fun t101 => if ¬ t101 = 3 then (BX4_isSign_25 μ) else (GF 4 2 x0 μ fun t102 => GF 4 8 x0 μ fun t103 => AL 0 t102 t103 μ fun t104 => if ¬ t104 = x1 then (BX4_isSign_25 μ) else (BX4_isSign_26 1 μ))
def FX4_isSign (a0 a1 : Int) (μ : Mem) : Rz := BX4_isSign_0 a0 a1 μ
def BX4_takeSign_0 (x0 x1 : Int) (μ : Mem) : Rz := KD 4 x0 μ (CL (FX4_isSign x0 x1 μ) fun t101 u102 => if ¬ t101 = 0 then (KD 4 x0 u102 (CL (FX4_advance x0 u102) fun _ u104 => RTZ 1 u104)) else (KD 4 x0 u102 (CL (FX4_fail x0 (-2) u102) fun t105 u106 => RTZ t105 u106)))
def FX4_takeSign (a0 a1 : Int) (μ : Mem) : Rz := BX4_takeSign_0 a0 a1 μ
def BX5_empty_0 (x0 x1 x2 : Int) (μ : Mem) : Rz := PF 5 0 x0 x1 μ fun u101 => PF 5 1 x0 x2 u101 fun u102 => PF 5 2 x0 4 u102 fun u103 => PF 5 3 x0 0 u103 fun u104 => GF 5 5 x0 u104 fun t105 => CL (FJ7_fill_53178 t105 0 u104) fun _ u107 => GF 5 6 x0 u107 fun t108 => CL (FJ7_fill_53178 t108 0 u107) fun _ u110 => RT 0 u110
def FX5_empty (a0 a1 a2 : Int) (μ : Mem) : Rz := BX5_empty_0 a0 a1 a2 μ
def BX4_readPicture_0 (x0 : Int) (μ : Mem) : Rz := KD 4 x0 μ (CL (FX4_isWord x0 0 μ) fun t101 u102 => if ¬ t101 = 0 then (KD 4 x0 u102 (CL (FX4_advance x0 u102) fun _ u104 => KD 4 x0 u104 (CL (FX4_takeNumber x0 1 16 u104) fun t105 u106 => if ¬ t105 = 0 then (GF 4 10 x0 u106 fun t107 => KD 4 x0 u106 (CL (FX4_takeNumber x0 1 12 u106) fun t108 u109 => if ¬ t108 = 0 then (GF 4 4 x0 u109 fun t110 => GF 4 10 x0 u109 fun t111 => KD 5 t110 u109 (CL (FX5_empty t110 t107 t111 u109) fun _ u113 => KD 4 x0 u113 (CL (FX4_takeSign x0 59 u113) fun t114 u115 => RTZ t114 u115))) else (RTZ 0 u109))) else (RTZ 0 u106)))) else (KD 4 x0 u102 (CL (FX4_fail x0 (-2) u102) fun t116 u117 => RTZ t116 u117)))
def FX4_readPicture (a0 : Int) (μ : Mem) : Rz := BX4_readPicture_0 a0 μ
def BX4_isName_43 (s0 : Int) (μ : Mem) : Rz := RTZ s0 μ
def BX4_isName_38 (μ : Mem) : Rz := BX4_isName_43 1 μ
def BX4_isName_0 (x0 : Int) (μ : Mem) : Rz := GF 4 7 x0 μ fun t101 => if t101 = 2 then (GF 4 9 x0 μ fun t102 => GF 4 8 x0 μ fun t103 => if w32 (t102 - t103) ≤ 6 then (BX4_isName_38 μ) else (KD 4 x0 μ (CL (FX4_fail x0 (-3) μ) fun t104 u105 => if t104 = 0 then (BX4_isName_43 0 u105) else (BX4_isName_38 u105)))) else (KD 4 x0 μ (CL (FX4_fail x0 (-2) μ) fun t106 u107 => RTZ t106 u107))
def FX4_isName (a0 : Int) (μ : Mem) : Rz := BX4_isName_0 a0 μ
def BX5_indexOfName_2 (k2 : Int → Int → Int → Mem → Rz) (x0 x1 x3 : Int) (μ : Mem) : Rz := GF 5 3 x0 μ fun t101 => if t101 ≤ x3 then (RT (-1) μ) else (GF 5 4 x0 μ fun t102 => AL 5 t102 x3 μ fun t103 => GF 1 0 t103 μ fun t104 => if ¬ cLong t104 x1 = 0 then (k2 x0 x1 (w32 (x3 + 1)) μ) else (RT x3 μ))
def LX5_indexOfName_2 : Nat → Int → Int → Int → Mem → Rz
  | 0, _, _, _, _ => none
  | n + 1, x0, x1, x3, μ => BX5_indexOfName_2 (fun y0 y1 y3 ν => LX5_indexOfName_2 n y0 y1 y3 ν) x0 x1 x3 μ
def BX5_indexOfName_0 (x0 x1 : Int) (μ : Mem) : Rz := LX5_indexOfName_2 FU x0 x1 0 μ
def FX5_indexOfName (a0 a1 : Int) (μ : Mem) : Rz := BX5_indexOfName_0 a0 a1 μ
def BX6_packedName_40 (x3 : Int) (μ : Mem) : Rz := RT x3 μ
def BX6_packedName_5 (k5 : Int → Int → Int → Int → Mem → Rz) (x0 x2 x3 x5 : Int) (μ : Mem) : Rz := if x2 ≤ x5 then (BX6_packedName_40 x3 μ) else (LN 0 x0 μ fun t101 => if t101 ≤ x5 then (BX6_packedName_40 x3 μ) else (AL 0 x0 x5 μ fun t102 => LT (w64 ((w64 (x3 * 256)) + (bAnd t102 255))) fun x103 => k5 x0 x2 x103 (w32 (x5 + 1)) μ))
def LX6_packedName_5 : Nat → Int → Int → Int → Int → Mem → Rz
  | 0, _, _, _, _, _ => none
  | n + 1, x0, x2, x3, x5, μ => BX6_packedName_5 (fun y0 y2 y3 y5 ν => LX6_packedName_5 n y0 y2 y3 y5 ν) x0 x2 x3 x5 μ
def BX6_packedName_0 (x0 x1 x2 : Int) (μ : Mem) : Rz := LX6_packedName_5 FU x0 x2 1 x1 μ
def FX6_packedName (a0 a1 a2 : Int) (μ : Mem) : Rz := BX6_packedName_0 a0 a1 a2 μ
def BX4_readInk_0 (x0 : Int) (μ : Mem) : Rz := KD 4 x0 μ (CL (FX4_advance x0 μ) fun _ u102 => KD 4 x0 u102 (CL (FX4_isName x0 u102) fun t103 u104 => if ¬ t103 = 0 then (GF 4 4 x0 u104 fun t105 => GF 4 2 x0 u104 fun t106 => GF 4 8 x0 u104 fun t107 => GF 4 9 x0 u104 fun t108 => CL (FX6_packedName t106 t107 t108 u104) fun t109 u110 => KD 5 t105 u110 (CL (FX5_indexOfName t105 t109 u110) fun t111 u112 => if 0 ≤ t111 then (KD 4 x0 u112 (CL (FX4_advance x0 u112) fun _ u114 => KD 4 x0 u114 (CL (FX4_takeNumber x0 0 99999 u114) fun t115 u116 => if ¬ t115 = 0 then (GF 4 4 x0 u116 fun t117 => GF 5 4 t117 u116 fun t118 => AL 5 t118 t111 u116 fun t119 => GF 4 10 x0 u116 fun t120 => PF 1 6 t119 t120 u116 fun u121 => RTZ 1 u121) else (RTZ 0 u116)))) else (KD 4 x0 u112 (CL (FX4_fail x0 (-4) u112) fun t122 u123 => RTZ t122 u123)))) else (RTZ 0 u104)))
def FX4_readInk (a0 : Int) (μ : Mem) : Rz := BX4_readInk_0 a0 μ
def BX4_readLimit_0 (x0 : Int) (μ : Mem) : Rz := GF 4 6 x0 μ fun t101 => if t101 = 0 then (PZ 4 6 x0 1 μ fun u102 => KD 4 x0 u102 (CL (FX4_advance x0 u102) fun _ u104 => KD 4 x0 u104 (CL (FX4_takeNumber x0 1 4 u104) fun t105 u106 => if ¬ t105 = 0 then (GF 4 4 x0 u106 fun t107 => GF 4 10 x0 u106 fun t108 => PF 5 2 t107 t108 u106 fun u109 => RTZ 1 u109) else (RTZ 0 u106)))) else (KD 4 x0 μ (CL (FX4_fail x0 (-2) μ) fun t110 u111 => RTZ t110 u111))
def FX4_readLimit (a0 : Int) (μ : Mem) : Rz := BX4_readLimit_0 a0 μ
def BX0_init_0 (x0 x1 : Int) (μ : Mem) : Rz := if 0 < x0 then (PF 0 0 x0 x1 μ fun u101 => RT 0 u101) else none
def FX0_init (a0 a1 : Int) (μ : Mem) : Rz := BX0_init_0 a0 a1 μ
def BX4_addItem_32 (μ : Mem) : Rz := RT 0 μ
def BX4_addItem_0 (x0 x1 : Int) (μ : Mem) : Rz := GF 4 12 x0 μ fun t101 => GF 4 11 x0 μ fun t102 => LN 1 t102 μ fun t103 => if t103 ≤ t101 then (BX4_addItem_32 μ) else (GF 4 11 x0 μ fun t104 => GF 4 12 x0 μ fun t105 => AS 1 t104 t105 x1 μ fun u106 => GF 4 12 x0 u106 fun t107 => PF 4 12 x0 (w32 (t107 + 1)) u106 fun u108 => BX4_addItem_32 u108)
def FX4_addItem (a0 a1 : Int) (μ : Mem) : Rz := BX4_addItem_0 a0 a1 μ
def BX4_variableHere_50 (s0 : Int) (μ : Mem) : Rz := RT s0 μ
def BX4_variableHere_0 (x0 : Int) (μ : Mem) : Rz := KD 4 x0 μ (CL (FX4_isWord x0 6 μ) fun t101 u102 => if t101 = 0 then (KD 4 x0 u102 (CL (FX4_isWord x0 7 u102) fun t103 u104 => if t103 = 0 then (KD 4 x0 u104 (CL (FX4_isWord x0 8 u104) fun t105 u106 => if t105 = 0 then (KD 4 x0 u106 (CL (FX4_isWord x0 2 u106) fun t107 u108 => if t107 = 0 then (BX4_variableHere_50 0 u108) else (BX4_variableHere_50 (-4) u108))) else (RT (-3) u106))) else (RT (-2) u104))) else (RT (-1) u102))
def FX4_variableHere (a0 : Int) (μ : Mem) : Rz := BX4_variableHere_0 a0 μ
def BX4_readFactor_49 (rc : Int → Int → Mem → Rz) (s0 : Int) (μ : Mem) : Rz := RTZ s0 μ
def BX4_readFactor_48 (rc : Int → Int → Mem → Rz) (μ : Mem) : Rz := BX4_readFactor_49 rc 0 μ
def BX4_readFactor_0 (rc : Int → Int → Mem → Rz) (x0 x1 : Int) (μ : Mem) : Rz := KD 4 x0 μ (CL (FX4_isSign x0 40 μ) fun t101 u102 => if t101 = 0 then (GF 4 7 x0 u102 fun t103 => if ¬ t103 = 1 then (KD 4 x0 u102 (CL (FX4_variableHere x0 u102) fun t104 u105 => if ¬ t104 = 0 then (KD 4 x0 u105 (CL (FX4_addItem x0 t104 u105) fun _ u107 => KD 4 x0 u107 (CL (FX4_advance x0 u107) fun _ u109 => RTZ 1 u109))) else (KD 4 x0 u105 (CL (FX4_fail x0 (-2) u105) fun t110 u111 => RTZ t110 u111)))) else (KD 4 x0 u102 (CL (FX4_takeNumber x0 0 9999 u102) fun t112 u113 => if ¬ t112 = 0 then (GF 4 10 x0 u113 fun t114 => KD 4 x0 u113 (CL (FX4_addItem x0 t114 u113) fun _ u116 => RTZ 1 u116)) else (RTZ 0 u113)))) else (if x1 < 4 then (KD 4 x0 u102 (CL (FX4_advance x0 u102) fun _ u118 => KD 4 x0 u118 (CL (rc x0 (w32 (x1 + 1)) u118) fun t119 u120 => if t119 = 0 then (BX4_readFactor_48 rc u120) else (KD 4 x0 u120 (CL (FX4_takeSign x0 41 u120) fun t121 u122 => if t121 = 0 then (BX4_readFactor_48 rc u122) else (BX4_readFactor_49 rc 1 u122)))))) else (KD 4 x0 u102 (CL (FX4_fail x0 (-6) u102) fun t123 u124 => RTZ t123 u124))))
def FX4_readFactor (rc : Int → Int → Mem → Rz) (a0 a1 : Int) (μ : Mem) : Rz := BX4_readFactor_0 rc a0 a1 μ
def BX4_readTerm_80 (rc : Int → Int → Mem → Rz) (μ : Mem) : Rz := RTZ 1 μ
def BX4_readTerm_54 (rc : Int → Int → Mem → Rz) (k12 : Int → Int → Int → Mem → Rz) (x0 x1 x2 s0 : Int) (μ : Mem) : Rz := KD 4 x0 μ (CL (FX4_advance x0 μ) fun _ u102 => KD 4 x0 u102 (CL (FX4_readFactor rc x0 x1 u102) fun t103 u104 => if ¬ t103 = 0 then (KD 4 x0 u104 (CL (FX4_addItem x0 s0 u104) fun _ u106 => k12 x0 x1 (w32 (x2 + 1)) u106)) else (RTZ 0 u104)))
def BX4_readTerm_38 (rc : Int → Int → Mem → Rz) (k12 : Int → Int → Int → Mem → Rz) (x0 x1 x2 : Int) (μ : Mem) : Rz := KD 4 x0 μ (CL (FX4_isSign x0 42 μ) fun t101 u102 => if t101 = 0 then (BX4_readTerm_54 rc k12 x0 x1 x2 (-8) u102) else (BX4_readTerm_54 rc k12 x0 x1 x2 (-7) u102))
def BX4_readTerm_12 (rc : Int → Int → Mem → Rz) (k12 : Int → Int → Int → Mem → Rz) (x0 x1 x2 : Int) (μ : Mem) : Rz := GF 4 3 x0 μ fun t101 => if t101 ≤ x2 then (BX4_readTerm_80 rc μ) else (KD 4 x0 μ (CL (FX4_isSign x0 42 μ) fun t102 u103 => if ¬ t102 = 0 then (BX4_readTerm_38 rc k12 x0 x1 x2 u103) else (KD 4 x0 u103 (CL (FX4_isSign x0 47 u103) fun t104 u105 => if t104 = 0 then (BX4_readTerm_80 rc u105) else (BX4_readTerm_38 rc k12 x0 x1 x2 u105)))))
def LX4_readTerm_12 (rc : Int → Int → Mem → Rz) : Nat → Int → Int → Int → Mem → Rz
  | 0, _, _, _, _ => none
  | n + 1, x0, x1, x2, μ => BX4_readTerm_12 rc (fun y0 y1 y2 ν => LX4_readTerm_12 rc n y0 y1 y2 ν) x0 x1 x2 μ
def BX4_readTerm_0 (rc : Int → Int → Mem → Rz) (x0 x1 : Int) (μ : Mem) : Rz := KD 4 x0 μ (CL (FX4_readFactor rc x0 x1 μ) fun t101 u102 => if ¬ t101 = 0 then (LX4_readTerm_12 rc FU x0 x1 0 u102) else (RTZ 0 u102))
def FX4_readTerm (rc : Int → Int → Mem → Rz) (a0 a1 : Int) (μ : Mem) : Rz := BX4_readTerm_0 rc a0 a1 μ
def BX4_readSum_80 (rc : Int → Int → Mem → Rz) (μ : Mem) : Rz := RTZ 1 μ
def BX4_readSum_54 (rc : Int → Int → Mem → Rz) (k12 : Int → Int → Int → Mem → Rz) (x0 x1 x2 s0 : Int) (μ : Mem) : Rz := KD 4 x0 μ (CL (FX4_advance x0 μ) fun _ u102 => KD 4 x0 u102 (CL (FX4_readTerm rc x0 x1 u102) fun t103 u104 => if ¬ t103 = 0 then (KD 4 x0 u104 (CL (FX4_addItem x0 s0 u104) fun _ u106 => k12 x0 x1 (w32 (x2 + 1)) u106)) else (RTZ 0 u104)))
def BX4_readSum_38 (rc : Int → Int → Mem → Rz) (k12 : Int → Int → Int → Mem → Rz) (x0 x1 x2 : Int) (μ : Mem) : Rz := KD 4 x0 μ (CL (FX4_isSign x0 43 μ) fun t101 u102 => if t101 = 0 then (BX4_readSum_54 rc k12 x0 x1 x2 (-6) u102) else (BX4_readSum_54 rc k12 x0 x1 x2 (-5) u102))
def BX4_readSum_12 (rc : Int → Int → Mem → Rz) (k12 : Int → Int → Int → Mem → Rz) (x0 x1 x2 : Int) (μ : Mem) : Rz := GF 4 3 x0 μ fun t101 => if t101 ≤ x2 then (BX4_readSum_80 rc μ) else (KD 4 x0 μ (CL (FX4_isSign x0 43 μ) fun t102 u103 => if ¬ t102 = 0 then (BX4_readSum_38 rc k12 x0 x1 x2 u103) else (KD 4 x0 u103 (CL (FX4_isSign x0 45 u103) fun t104 u105 => if t104 = 0 then (BX4_readSum_80 rc u105) else (BX4_readSum_38 rc k12 x0 x1 x2 u105)))))
def LX4_readSum_12 (rc : Int → Int → Mem → Rz) : Nat → Int → Int → Int → Mem → Rz
  | 0, _, _, _, _ => none
  | n + 1, x0, x1, x2, μ => BX4_readSum_12 rc (fun y0 y1 y2 ν => LX4_readSum_12 rc n y0 y1 y2 ν) x0 x1 x2 μ
def BX4_readSum_0 (rc : Int → Int → Mem → Rz) (x0 x1 : Int) (μ : Mem) : Rz := KD 4 x0 μ (CL (FX4_readTerm rc x0 x1 μ) fun t101 u102 => if ¬ t101 = 0 then (LX4_readSum_12 rc FU x0 x1 0 u102) else (RTZ 0 u102))
def FX4_readSum (rc : Int → Int → Mem → Rz) (a0 a1 : Int) (μ : Mem) : Rz := BX4_readSum_0 rc a0 a1 μ
def RX4_readSum : Nat → Int → Int → Mem → Rz
  | 0, _, _, _ => none
  | n + 1, a0, a1, μ => FX4_readSum (fun b0 b1 ν => RX4_readSum n b0 b1 ν) a0 a1 μ
def TX4_readSum (a0 a1 : Int) (μ : Mem) : Rz := RX4_readSum 7 a0 a1 μ
def BX4_shapeHere_47 (s0 : Int) (μ : Mem) : Rz := RT s0 μ
def BX4_shapeHere_0 (x0 : Int) (μ : Mem) : Rz := KD 4 x0 μ (CL (FX4_isWord x0 9 μ) fun t101 u102 => if t101 = 0 then (KD 4 x0 u102 (CL (FX4_isWord x0 10 u102) fun t103 u104 => if t103 = 0 then (KD 4 x0 u104 (CL (FX4_isWord x0 11 u104) fun t105 u106 => if t105 = 0 then (KD 4 x0 u106 (CL (FX4_isWord x0 12 u106) fun t107 u108 => if t107 = 0 then (BX4_shapeHere_47 (-1) u108) else (BX4_shapeHere_47 3 u108))) else (RT 2 u106))) else (RT 1 u104))) else (RT 0 u102))
def FX4_shapeHere (a0 : Int) (μ : Mem) : Rz := BX4_shapeHere_0 a0 μ
def BX5_addPlate_0 (x0 x1 x3 x4 x5 x6 : Int) (μ : Mem) : Rz := GF 5 3 x0 μ fun t101 => if t101 < 4 then (GF 5 4 x0 μ fun t102 => GF 5 3 x0 μ fun t103 => AL 5 t102 t103 μ fun t104 => PF 1 0 t104 x1 μ fun u105 => PF 1 1 t104 x3 u105 fun u106 => PF 1 2 t104 x4 u106 fun u107 => PF 1 3 t104 x5 u107 fun u108 => PF 1 4 t104 0 u108 fun u109 => PF 1 5 t104 0 u109 fun u110 => PF 1 6 t104 1000 u110 fun u111 => PF 1 7 t104 x6 u111 fun u112 => GF 5 3 x0 u112 fun t113 => PF 5 3 x0 (w32 (t113 + 1)) u112 fun u114 => RT 0 u114) else (RT 0 μ)
def FX5_addPlate (a0 a1 a3 a4 a5 a6 : Int) (μ : Mem) : Rz := BX5_addPlate_0 a0 a1 a3 a4 a5 a6 μ
def BX4_readPlate_183 (x0 x1 x3 x4 x5 x6 : Int) (μ : Mem) : Rz := GF 4 4 x0 μ fun t101 => KD 5 t101 μ (CL (FX5_addPlate t101 x1 x3 x4 x5 x6 μ) fun _ u103 => RTZ 1 u103)
def BX4_readPlate_95 (x0 x1 x3 s0 s1 : Int) (μ : Mem) : Rz := KD 4 s1 μ (CL (FX4_takeNumber s1 s0 3 μ) fun t101 u102 => if ¬ t101 = 0 then (GF 4 10 x0 u102 fun t103 => KD 4 x0 u102 (CL (FX4_shapeHere x0 u102) fun t104 u105 => if 0 ≤ t104 then (KD 4 x0 u105 (CL (FX4_advance x0 u105) fun _ u107 => NU u107 (KD 4 x0 u107 (CL (FX4_isWord x0 5 u107) fun t108 u109 => if t108 = 0 then (BX4_readPlate_183 x0 x1 x3 t103 t104 0 u109) else (KD 4 x0 u109 (CL (FX4_advance x0 u109) fun _ u111 => PF 4 12 x0 0 u111 fun u112 => KD 4 x0 u112 (CL (TX4_readSum x0 0 u112) fun t113 u114 => if ¬ t113 = 0 then (NW 0 1 u114 fun t115 u116 => GF 4 11 x0 u116 fun t117 => GF 4 12 x0 u116 fun t118 => CL (FJ7_copyOf_59c91 t117 t118 u116) fun t119 u120 => KD 0 t115 u120 (CL (FX0_init t115 t119 u120) fun _ u122 => BX4_readPlate_183 x0 x1 x3 t103 t104 t115 u122)) else (RTZ 0 u114)))))))) else (KD 4 x0 u105 (CL (FX4_fail x0 (-2) u105) fun t123 u124 => RTZ t123 u124)))) else (RTZ 0 u102))
def BX4_readPlate_0 (x0 : Int) (μ : Mem) : Rz := GF 4 4 x0 μ fun t101 => GF 5 3 t101 μ fun t102 => if t102 < 4 then (KD 4 x0 μ (CL (FX4_advance x0 μ) fun _ u104 => KD 4 x0 u104 (CL (FX4_isName x0 u104) fun t105 u106 => if ¬ t105 = 0 then (GF 4 2 x0 u106 fun t107 => GF 4 8 x0 u106 fun t108 => GF 4 9 x0 u106 fun t109 => CL (FX6_packedName t107 t108 t109 u106) fun t110 u111 => GF 4 4 x0 u111 fun t112 => KD 5 t112 u111 (CL (FX5_indexOfName t112 t110 u111) fun t113 u114 => if t113 < 0 then (KD 4 x0 u114 (CL (FX4_advance x0 u114) fun _ u116 => KD 4 x0 u116 (CL (FX4_takeNumber x0 0 3 u116) fun t117 u118 => if ¬ t117 = 0 then (GF 4 10 x0 u118 fun t119 => if ¬ t119 = 0 then (BX4_readPlate_95 x0 t110 t119 0 x0 u118) else (BX4_readPlate_95 x0 t110 t119 1 x0 u118)) else (RTZ 0 u118)))) else (KD 4 x0 u114 (CL (FX4_fail x0 (-4) u114) fun t120 u121 => RTZ t120 u121)))) else (RTZ 0 u106)))) else (KD 4 x0 μ (CL (FX4_fail x0 (-5) μ) fun t122 u123 => RTZ t122 u123))
def FX4_readPlate (a0 : Int) (μ : Mem) : Rz := BX4_readPlate_0 a0 μ
def BX4_readTones_79 (k25 : Int → Int → Mem → Rz) (k79 : Int → Int → Int → Mem → Rz) (x0 x1 x2 : Int) (μ : Mem) : Rz := GF 4 4 x0 μ fun t101 => GF 5 0 t101 μ fun t102 => if t102 ≤ x2 then (KD 4 x0 μ (CL (FX4_advance x0 μ) fun _ u104 => k25 x0 (w32 (x1 + 1)) u104)) else (GF 4 4 x0 μ fun t105 => GF 5 5 t105 μ fun t106 => GF 4 4 x0 μ fun t107 => KD 5 t107 μ (CL (FX5_indexOfCell t107 x2 x1 μ) fun t108 u109 => GF 4 2 x0 u109 fun t110 => GF 4 8 x0 u109 fun t111 => AL 0 t110 (w32 (t111 + x2)) u109 fun t112 => AS 1 t106 t108 (w32 ((w32 (t112 - 48)) * 11)) u109 fun u113 => k79 x0 x1 (w32 (x2 + 1)) u113))
def LX4_readTones_79 (k25 : Int → Int → Mem → Rz) : Nat → Int → Int → Int → Mem → Rz
  | 0, _, _, _, _ => none
  | n + 1, x0, x1, x2, μ => BX4_readTones_79 k25 (fun y0 y1 y2 ν => LX4_readTones_79 k25 n y0 y1 y2 ν) x0 x1 x2 μ
def BX4_readTones_25 (k25 : Int → Int → Mem → Rz) (x0 x1 : Int) (μ : Mem) : Rz := GF 4 4 x0 μ fun t101 => GF 5 1 t101 μ fun t102 => if t102 ≤ x1 then (RTZ 1 μ) else (GF 4 7 x0 μ fun t103 => if t103 = 1 then (GF 4 9 x0 μ fun t104 => GF 4 8 x0 μ fun t105 => GF 4 4 x0 μ fun t106 => GF 5 0 t106 μ fun t107 => if w32 (t104 - t105) = t107 then (LX4_readTones_79 k25 FU x0 x1 0 μ) else (KD 4 x0 μ (CL (FX4_fail x0 (-3) μ) fun t108 u109 => RTZ t108 u109))) else (KD 4 x0 μ (CL (FX4_fail x0 (-2) μ) fun t110 u111 => RTZ t110 u111)))
def LX4_readTones_25 : Nat → Int → Int → Mem → Rz
  | 0, _, _, _ => none
  | n + 1, x0, x1, μ => BX4_readTones_25 (fun y0 y1 ν => LX4_readTones_25 n y0 y1 ν) x0 x1 μ
def BX4_readTones_0 (x0 : Int) (μ : Mem) : Rz := GF 4 5 x0 μ fun t101 => if t101 = 0 then (PZ 4 5 x0 1 μ fun u102 => KD 4 x0 u102 (CL (FX4_advance x0 u102) fun _ u104 => LX4_readTones_25 FU x0 0 u104)) else (KD 4 x0 μ (CL (FX4_fail x0 (-2) μ) fun t105 u106 => RTZ t105 u106))
def FX4_readTones (a0 : Int) (μ : Mem) : Rz := BX4_readTones_0 a0 μ
def BX4_readStatement_0 (x0 : Int) (μ : Mem) : Rz := KD 4 x0 μ (CL (FX4_isWord x0 1 μ) fun t101 u102 => if t101 = 0 then (KD 4 x0 u102 (CL (FX4_isWord x0 2 u102) fun t103 u104 => if t103 = 0 then (KD 4 x0 u104 (CL (FX4_isWord x0 3 u104) fun t105 u106 => if t105 = 0 then (KD 4 x0 u106 (CL (FX4_isWord x0 4 u106) fun t107 u108 => if t107 = 0 then (KD 4 x0 u108 (CL (FX4_fail x0 (-2) u108) fun t109 u110 => RTZ t109 u110)) else (KD 4 x0 u108 (CL (FX4_readLimit x0 u108) fun t111 u112 => RTZ t111 u112)))) else (KD 4 x0 u106 (CL (FX4_readInk x0 u106) fun t113 u114 => RTZ t113 u114)))) else (KD 4 x0 u104 (CL (FX4_readPlate x0 u104) fun t115 u116 => RTZ t115 u116)))) else (KD 4 x0 u102 (CL (FX4_readTones x0 u102) fun t117 u118 => RTZ t117 u118)))
def FX4_readStatement (a0 : Int) (μ : Mem) : Rz := BX4_readStatement_0 a0 μ
def BX4_read_101 (μ : Mem) : Rz := RTZ 1 μ
def BX4_read_93 (μ : Mem) : Rz := RTZ 0 μ
def BX4_read_61 (k61 : Int → Int → Mem → Rz) (x0 x4 : Int) (μ : Mem) : Rz := GF 4 3 x0 μ fun t101 => if t101 ≤ x4 then (BX4_read_101 μ) else (GF 4 7 x0 μ fun t102 => if t102 = 0 then (BX4_read_101 μ) else (KD 4 x0 μ (CL (FX4_readStatement x0 μ) fun t103 u104 => if t103 = 0 then (BX4_read_93 u104) else (KD 4 x0 u104 (CL (FX4_takeSign x0 59 u104) fun t105 u106 => if ¬ t105 = 0 then (k61 x0 (w32 (x4 + 1)) u106) else (BX4_read_93 u106))))))
def LX4_read_61 : Nat → Int → Int → Mem → Rz
  | 0, _, _, _ => none
  | n + 1, x0, x4, μ => BX4_read_61 (fun y0 y4 ν => LX4_read_61 n y0 y4 ν) x0 x4 μ
def BX4_read_0 (x0 x1 x2 x3 : Int) (μ : Mem) : Rz := PF 4 2 x0 x1 μ fun u101 => LN 0 x1 u101 fun t102 => CL (FJ9_min_7cf53 x2 t102 u101) fun t103 u104 => PF 4 3 x0 t103 u104 fun u105 => PF 4 4 x0 x3 u105 fun u106 => PF 4 0 x0 0 u106 fun u107 => PF 4 1 x0 (-1) u107 fun u108 => PZ 4 5 x0 0 u108 fun u109 => PZ 4 6 x0 0 u109 fun u110 => PF 4 9 x0 0 u110 fun u111 => KD 4 x0 u111 (CL (FX4_advance x0 u111) fun _ u113 => KD 4 x0 u113 (CL (FX4_readPicture x0 u113) fun t114 u115 => if ¬ t114 = 0 then (LX4_read_61 FU x0 0 u115) else (RTZ 0 u115)))
def FX4_read (a0 a1 a2 a3 : Int) (μ : Mem) : Rz := BX4_read_0 a0 a1 a2 a3 μ
def BX6_draftSheet_0 (x0 : Int) (μ : Mem) : Rz := GF 6 3 x0 μ fun t101 => GF 6 4 x0 μ fun t102 => RM (w32 (t102 + 1)) 10 fun t103 => AL 4 t101 t103 μ fun t104 => RT t104 μ
def FX6_draftSheet (a0 : Int) (μ : Mem) : Rz := BX6_draftSheet_0 a0 μ
def BX6_requireBuffered_12 (μ : Mem) : Rz := TH 2 μ
def BX6_requireBuffered_0 (x0 x1 : Int) (μ : Mem) : Rz := if x1 < 0 then (BX6_requireBuffered_12 μ) else (GF 6 1 x0 μ fun t101 => if x1 ≤ t101 then (RT 0 μ) else (BX6_requireBuffered_12 μ))
def FX6_requireBuffered (a0 a1 : Int) (μ : Mem) : Rz := BX6_requireBuffered_0 a0 a1 μ
def BX2_forgetDots_0 (x0 : Int) (μ : Mem) : Rz := PZ 2 7 x0 0 μ fun u101 => RT 0 u101
def FX2_forgetDots (a0 : Int) (μ : Mem) : Rz := BX2_forgetDots_0 a0 μ
def BX6_useDraft_0 (x0 : Int) (μ : Mem) : Rz := GF 6 4 x0 μ fun t101 => RM (w32 (t101 + 1)) 10 fun t102 => PF 6 4 x0 t102 μ fun u103 => GF 6 3 x0 u103 fun t104 => GF 6 4 x0 u103 fun t105 => AL 4 t104 t105 u103 fun t106 => PF 6 6 x0 t106 u103 fun u107 => GF 6 5 x0 u107 fun t108 => CL (FJ9_min_7cf53 (w32 (t108 + 1)) 8 u107) fun t109 u110 => PF 6 5 x0 t109 u110 fun u111 => GF 6 7 x0 u111 fun t112 => KD 2 t112 u111 (CL (FX2_forgetDots t112 u111) fun _ u114 => RT 0 u114)
def FX6_useDraft (a0 : Int) (μ : Mem) : Rz := BX6_useDraft_0 a0 μ
def BX6_load_0 (x0 x1 : Int) (μ : Mem) : Rz := KD 6 x0 μ (CL (FX6_requireBuffered x0 x1 μ) fun _ u102 => PF 6 1 x0 0 u102 fun u103 => GF 6 8 x0 u103 fun t104 => GF 6 0 x0 u103 fun t105 => KD 6 x0 u103 (CL (FX6_draftSheet x0 u103) fun t106 u107 => KD 4 t104 u107 (CL (FX4_read t104 t105 x1 t106 u107) fun t108 u109 => GF 6 8 x0 u109 fun t110 => GF 4 1 t110 u109 fun t111 => PF 6 2 x0 t111 u109 fun u112 => if ¬ t108 = 0 then (KD 6 x0 u112 (CL (FX6_useDraft x0 u112) fun _ u114 => GF 6 7 x0 u114 fun t115 => KD 2 t115 u114 (CL (FX2_forgetTones t115 u114) fun _ u117 => GF 6 6 x0 u117 fun t118 => GF 5 3 t118 u117 fun t119 => RT t119 u117))) else (GF 6 8 x0 u112 fun t120 => GF 4 0 t120 u112 fun t121 => RT t121 u112))))
def FX6_load (a0 a1 : Int) (μ : Mem) : Rz := BX6_load_0 a0 a1 μ
def BX3_init_0 (x0 : Int) (μ : Mem) : Rz := if 0 < x0 then (PF 3 0 x0 0 μ fun u101 => PF 3 1 x0 0 u101 fun u102 => PF 3 2 x0 0 u102 fun u103 => PF 3 3 x0 (-1) u103 fun u104 => NA 1 324 u104 fun t105 u106 => PF 3 4 x0 t105 u106 fun u107 => RT 0 u107) else none
def FX3_init (a0 : Int) (μ : Mem) : Rz := BX3_init_0 a0 μ
def BX2_init_69 (k69 : Int → Int → Mem → Rz) (x0 x1 : Int) (μ : Mem) : Rz := if 4 ≤ x1 then (RT 0 μ) else (GF 2 3 x0 μ fun t101 => NW 3 5 μ fun t102 u103 => KD 3 t102 u103 (CL (FX3_init t102 u103) fun _ u105 => ASR 6 3 t101 x1 t102 u105 fun u106 => k69 x0 (w32 (x1 + 1)) u106))
def LX2_init_69 : Nat → Int → Int → Mem → Rz
  | 0, _, _, _ => none
  | n + 1, x0, x1, μ => BX2_init_69 (fun y0 y1 ν => LX2_init_69 n y0 y1 ν) x0 x1 μ
def BX2_init_0 (x0 : Int) (μ : Mem) : Rz := if 0 < x0 then (NM 4 192 μ fun t101 u102 => PF 2 0 x0 t101 u102 fun u103 => NA 1 192 u103 fun t104 u105 => PF 2 1 x0 t104 u105 fun u106 => NA 1 4 u106 fun t107 u108 => PF 2 2 x0 t107 u108 fun u109 => NA 6 4 u109 fun t110 u111 => PF 2 3 x0 t110 u111 fun u112 => NA 1 650 u112 fun t113 u114 => PF 2 4 x0 t113 u114 fun u115 => NA 1 11 u115 fun t116 u117 => PF 2 5 x0 t116 u117 fun u118 => PZ 2 6 x0 0 u118 fun u119 => PZ 2 7 x0 0 u119 fun u120 => LX2_init_69 FU x0 0 u120) else none
def FX2_init (a0 : Int) (μ : Mem) : Rz := BX2_init_0 a0 μ
def BX4_init_0 (x0 : Int) (μ : Mem) : Rz := if 0 < x0 then (NA 1 600 μ fun t101 u102 => PF 4 11 x0 t101 u102 fun u103 => RT 0 u103) else none
def FX4_init (a0 : Int) (μ : Mem) : Rz := BX4_init_0 a0 μ
def BX1_init_0 (x0 : Int) (μ : Mem) : Rz := if 0 < x0 then (PF 1 1 x0 1 μ fun u101 => RT 0 u101) else none
def FX1_init (a0 : Int) (μ : Mem) : Rz := BX1_init_0 a0 μ
def BX5_init_54 (k54 : Int → Int → Mem → Rz) (x0 x1 : Int) (μ : Mem) : Rz := if 4 ≤ x1 then (RT 0 μ) else (GF 5 4 x0 μ fun t101 => NW 1 8 μ fun t102 u103 => KD 1 t102 u103 (CL (FX1_init t102 u103) fun _ u105 => ASR 5 1 t101 x1 t102 u105 fun u106 => k54 x0 (w32 (x1 + 1)) u106))
def LX5_init_54 : Nat → Int → Int → Mem → Rz
  | 0, _, _, _ => none
  | n + 1, x0, x1, μ => BX5_init_54 (fun y0 y1 ν => LX5_init_54 n y0 y1 ν) x0 x1 μ
def BX5_init_0 (x0 : Int) (μ : Mem) : Rz := if 0 < x0 then (PF 5 0 x0 8 μ fun u101 => PF 5 1 x0 8 u101 fun u102 => PF 5 2 x0 4 u102 fun u103 => PF 5 3 x0 0 u103 fun u104 => NA 5 4 u104 fun t105 u106 => PF 5 4 x0 t105 u106 fun u107 => NA 1 192 u107 fun t108 u109 => PF 5 5 x0 t108 u109 fun u110 => NA 1 192 u110 fun t111 u112 => PF 5 6 x0 t111 u112 fun u113 => LX5_init_54 FU x0 0 u113) else none
def FX5_init (a0 : Int) (μ : Mem) : Rz := BX5_init_0 a0 μ
def BX6_init_66 (k66 : Int → Int → Mem → Rz) (x0 x1 : Int) (μ : Mem) : Rz := if 10 ≤ x1 then (GF 6 3 x0 μ fun t101 => GF 6 4 x0 μ fun t102 => AL 4 t101 t102 μ fun t103 => PF 6 6 x0 t103 μ fun u104 => RT 0 u104) else (GF 6 3 x0 μ fun t105 => NW 5 7 μ fun t106 u107 => KD 5 t106 u107 (CL (FX5_init t106 u107) fun _ u109 => ASR 4 5 t105 x1 t106 u109 fun u110 => k66 x0 (w32 (x1 + 1)) u110))
def LX6_init_66 : Nat → Int → Int → Mem → Rz
  | 0, _, _, _ => none
  | n + 1, x0, x1, μ => BX6_init_66 (fun y0 y1 ν => LX6_init_66 n y0 y1 ν) x0 x1 μ
def BX6_init_0 (x0 : Int) (μ : Mem) : Rz := if 0 < x0 then (NA 0 600 μ fun t101 u102 => PF 6 0 x0 t101 u102 fun u103 => PF 6 1 x0 0 u103 fun u104 => PF 6 2 x0 (-1) u104 fun u105 => NA 4 10 u105 fun t106 u107 => PF 6 3 x0 t106 u107 fun u108 => PF 6 4 x0 0 u108 fun u109 => PF 6 5 x0 0 u109 fun u110 => NW 2 8 u110 fun t111 u112 => KD 2 t111 u112 (CL (FX2_init t111 u112) fun _ u114 => PF 6 7 x0 t111 u114 fun u115 => NW 4 13 u115 fun t116 u117 => KD 4 t116 u117 (CL (FX4_init t116 u117) fun _ u119 => PF 6 8 x0 t116 u119 fun u120 => LX6_init_66 FU x0 0 u120))) else none
def FX6_init (a0 : Int) (μ : Mem) : Rz := BX6_init_0 a0 μ
def BX1_become_0 (x0 x1 : Int) (μ : Mem) : Rz := GF 1 0 x1 μ fun t101 => PF 1 0 x0 t101 μ fun u102 => GF 1 1 x1 u102 fun t103 => PF 1 1 x0 t103 u102 fun u104 => GF 1 2 x1 u104 fun t105 => PF 1 2 x0 t105 u104 fun u106 => GF 1 3 x1 u106 fun t107 => PF 1 3 x0 t107 u106 fun u108 => GF 1 4 x1 u108 fun t109 => PF 1 4 x0 t109 u108 fun u110 => GF 1 5 x1 u110 fun t111 => PF 1 5 x0 t111 u110 fun u112 => GF 1 6 x1 u112 fun t113 => PF 1 6 x0 t113 u112 fun u114 => GF 1 7 x1 u114 fun t115 => PF 1 7 x0 t115 u114 fun u116 => RT 0 u116
def FX1_become (a0 a1 : Int) (μ : Mem) : Rz := BX1_become_0 a0 a1 μ
def BX5_become_34 (k34 : Int → Int → Int → Mem → Rz) (x0 x1 x2 : Int) (μ : Mem) : Rz := GF 5 3 x0 μ fun t101 => if t101 ≤ x2 then (GF 5 5 x1 μ fun t102 => GF 5 5 x0 μ fun t103 => ACP t102 0 t103 0 192 μ fun u104 => GF 5 6 x1 u104 fun t105 => GF 5 6 x0 u104 fun t106 => ACP t105 0 t106 0 192 u104 fun u107 => RT 0 u107) else (GF 5 4 x0 μ fun t108 => AL 5 t108 x2 μ fun t109 => GF 5 4 x1 μ fun t110 => AL 5 t110 x2 μ fun t111 => KD 1 t109 μ (CL (FX1_become t109 t111 μ) fun _ u113 => k34 x0 x1 (w32 (x2 + 1)) u113))
def LX5_become_34 : Nat → Int → Int → Int → Mem → Rz
  | 0, _, _, _, _ => none
  | n + 1, x0, x1, x2, μ => BX5_become_34 (fun y0 y1 y2 ν => LX5_become_34 n y0 y1 y2 ν) x0 x1 x2 μ
def BX5_become_0 (x0 x1 : Int) (μ : Mem) : Rz := GF 5 0 x1 μ fun t101 => PF 5 0 x0 t101 μ fun u102 => GF 5 1 x1 u102 fun t103 => PF 5 1 x0 t103 u102 fun u104 => GF 5 2 x1 u104 fun t105 => PF 5 2 x0 t105 u104 fun u106 => GF 5 3 x1 u106 fun t107 => PF 5 3 x0 t107 u106 fun u108 => LX5_become_34 FU x0 x1 0 u108
def FX5_become (a0 a1 : Int) (μ : Mem) : Rz := BX5_become_0 a0 a1 μ
def BX6_startChange_0 (x0 : Int) (μ : Mem) : Rz := KD 6 x0 μ (CL (FX6_draftSheet x0 μ) fun t101 u102 => GF 6 6 x0 u102 fun t103 => KD 5 t101 u102 (CL (FX5_become t101 t103 u102) fun _ u105 => KD 6 x0 u105 (CL (FX6_useDraft x0 u105) fun _ u107 => RT 0 u107)))
def FX6_startChange (a0 : Int) (μ : Mem) : Rz := BX6_startChange_0 a0 μ
def BX6_limit_10 (μ : Mem) : Rz := TH 2 μ
def BX6_limit_0 (x0 x1 : Int) (μ : Mem) : Rz := if x1 < 1 then (BX6_limit_10 μ) else (if x1 ≤ 4 then (KD 6 x0 μ (CL (FX6_startChange x0 μ) fun _ u102 => GF 6 6 x0 u102 fun t103 => GF 5 2 t103 u102 fun t104 => GF 6 6 x0 u102 fun t105 => PF 5 2 t105 x1 u102 fun u106 => RT t104 u106)) else (BX6_limit_10 μ))
def FX6_limit (a0 a1 : Int) (μ : Mem) : Rz := BX6_limit_0 a0 a1 μ
def BX6_paint_44 (μ : Mem) : Rz := TH 2 μ
def BX6_paint_66 (μ : Mem) : Rz := TH 2 μ
def BX6_paint_95 (k83 : Int → Int → Int → Int → Int → Int → Int → Mem → Rz) (k95 : Int → Int → Int → Int → Int → Int → Int → Int → Mem → Rz) (x0 x1 x2 x3 x4 x5 x6 x7 : Int) (μ : Mem) : Rz := if w32 (x1 + x3) ≤ x7 then (k83 x0 x1 x2 x3 x4 x5 (w32 (x6 + 1)) μ) else (GF 6 6 x0 μ fun t101 => GF 5 5 t101 μ fun t102 => GF 6 6 x0 μ fun t103 => KD 5 t103 μ (CL (FX5_indexOfCell t103 x7 x6 μ) fun t104 u105 => AS 1 t102 t104 x5 u105 fun u106 => k95 x0 x1 x2 x3 x4 x5 x6 (w32 (x7 + 1)) u106))
def LX6_paint_95 (k83 : Int → Int → Int → Int → Int → Int → Int → Mem → Rz) : Nat → Int → Int → Int → Int → Int → Int → Int → Int → Mem → Rz
  | 0, _, _, _, _, _, _, _, _, _ => none
  | n + 1, x0, x1, x2, x3, x4, x5, x6, x7, μ => BX6_paint_95 k83 (fun y0 y1 y2 y3 y4 y5 y6 y7 ν => LX6_paint_95 k83 n y0 y1 y2 y3 y4 y5 y6 y7 ν) x0 x1 x2 x3 x4 x5 x6 x7 μ
def BX6_paint_83 (k83 : Int → Int → Int → Int → Int → Int → Int → Mem → Rz) (x0 x1 x2 x3 x4 x5 x6 : Int) (μ : Mem) : Rz := if w32 (x2 + x4) ≤ x6 then (GF 6 7 x0 μ fun t101 => KD 2 t101 μ (CL (FX2_forgetTones t101 μ) fun _ u103 => GF 6 7 x0 u103 fun t104 => GF 6 6 x0 u103 fun t105 => KD 2 t104 u103 (CL (FX2_update t104 t105 u103) fun _ u107 => GF 6 7 x0 u107 fun t108 => GF 6 6 x0 u107 fun t109 => KD 2 t108 u107 (CL (FX2_dotsOfAll t108 t109 u107) fun t110 u111 => RT t110 u111)))) else (LX6_paint_95 k83 FU x0 x1 x2 x3 x4 x5 x6 x1 μ)
def LX6_paint_83 : Nat → Int → Int → Int → Int → Int → Int → Int → Mem → Rz
  | 0, _, _, _, _, _, _, _, _ => none
  | n + 1, x0, x1, x2, x3, x4, x5, x6, μ => BX6_paint_83 (fun y0 y1 y2 y3 y4 y5 y6 ν => LX6_paint_83 n y0 y1 y2 y3 y4 y5 y6 ν) x0 x1 x2 x3 x4 x5 x6 μ
def BX6_paint_0 (x0 x1 x2 x3 x4 x5 : Int) (μ : Mem) : Rz := KD 6 x0 μ (CL (FX6_requireCell x0 x1 x2 μ) fun _ u102 => if x3 < 1 then (BX6_paint_44 u102) else (if x4 < 1 then (BX6_paint_44 u102) else (GF 6 6 x0 u102 fun t103 => GF 5 0 t103 u102 fun t104 => if w32 (t104 - x1) < x3 then (BX6_paint_44 u102) else (GF 6 6 x0 u102 fun t105 => GF 5 1 t105 u102 fun t106 => if x4 ≤ w32 (t106 - x2) then (if x5 < 0 then (BX6_paint_66 u102) else (if x5 ≤ 100 then (KD 6 x0 u102 (CL (FX6_startChange x0 u102) fun _ u108 => LX6_paint_83 FU x0 x1 x2 x3 x4 x5 x2 u108)) else (BX6_paint_66 u102))) else (BX6_paint_44 u102)))))
def FX6_paint (a0 a1 a2 a3 a4 a5 : Int) (μ : Mem) : Rz := BX6_paint_0 a0 a1 a2 a3 a4 a5 μ
def BX6_shape_14 (μ : Mem) : Rz := TH 2 μ
def BX6_shape_0 (x0 x1 x2 : Int) (μ : Mem) : Rz := KD 6 x0 μ (CL (FX6_requirePlate x0 x1 μ) fun _ u102 => if x2 < 0 then (BX6_shape_14 u102) else (if x2 ≤ 3 then (KD 6 x0 u102 (CL (FX6_startChange x0 u102) fun _ u104 => GF 6 6 x0 u104 fun t105 => GF 5 4 t105 u104 fun t106 => AL 5 t106 x1 u104 fun t107 => GF 1 3 t107 u104 fun t108 => GF 6 6 x0 u104 fun t109 => GF 5 4 t109 u104 fun t110 => AL 5 t110 x1 u104 fun t111 => PF 1 3 t111 x2 u104 fun u112 => RT t108 u112)) else (BX6_shape_14 u102)))
def FX6_shape (a0 a1 a2 : Int) (μ : Mem) : Rz := BX6_shape_0 a0 a1 a2 μ
def BX6_shift_25 (μ : Mem) : Rz := TH 2 μ
def BX6_shift_0 (x0 x1 x2 x3 : Int) (μ : Mem) : Rz := KD 6 x0 μ (CL (FX6_requirePlate x0 x1 μ) fun _ u102 => if x2 < 0 then (BX6_shift_25 u102) else (if 17 < x2 then (BX6_shift_25 u102) else (if x3 < 0 then (BX6_shift_25 u102) else (if x3 ≤ 17 then (KD 6 x0 u102 (CL (FX6_startChange x0 u102) fun _ u104 => GF 6 6 x0 u104 fun t105 => GF 5 4 t105 u104 fun t106 => AL 5 t106 x1 u104 fun t107 => PF 1 4 t107 x2 u104 fun u108 => GF 6 6 x0 u108 fun t109 => GF 5 4 t109 u108 fun t110 => AL 5 t110 x1 u108 fun t111 => PF 1 5 t111 x3 u108 fun u112 => GF 6 7 x0 u112 fun t113 => GF 6 6 x0 u112 fun t114 => KD 2 t113 u112 (CL (FX2_update t113 t114 u112) fun _ u116 => GF 6 7 x0 u116 fun t117 => GF 6 6 x0 u116 fun t118 => KD 2 t117 u116 (CL (FX2_dotsOfAll t117 t118 u116) fun t119 u120 => RT t119 u120)))) else (BX6_shift_25 u102)))))
def FX6_shift (a0 a1 a2 a3 : Int) (μ : Mem) : Rz := BX6_shift_0 a0 a1 a2 a3 μ
def BX6_undo_0 (x0 : Int) (μ : Mem) : Rz := GF 6 5 x0 μ fun t101 => if 1 ≤ t101 then (GF 6 5 x0 μ fun t102 => PF 6 5 x0 (w32 (t102 - 1)) μ fun u103 => GF 6 4 x0 u103 fun t104 => RM (w32 ((w32 (t104 + 10)) - 1)) 10 fun t105 => PF 6 4 x0 t105 u103 fun u106 => GF 6 3 x0 u106 fun t107 => GF 6 4 x0 u106 fun t108 => AL 4 t107 t108 u106 fun t109 => PF 6 6 x0 t109 u106 fun u110 => GF 6 7 x0 u110 fun t111 => KD 2 t111 u110 (CL (FX2_forgetTones t111 u110) fun _ u113 => GF 6 5 x0 u113 fun t114 => RT t114 u113)) else (RT (-1) μ)
def FX6_undo (a0 : Int) (μ : Mem) : Rz := BX6_undo_0 a0 μ
def BL_bound_0 (x0 x1 : Int) (μ : Mem) : Rz := RM (bAnd x0 2147483647) x1 fun t101 => RT t101 μ
def FL_bound (a0 a1 : Int) (μ : Mem) : Rz := BL_bound_0 a0 a1 μ
def BL_cell_13 (s0 : Int) (μ : Mem) : Rz := RT s0 μ
def BL_cell_0 (x0 x1 : Int) (μ : Mem) : Rz := LN 1 x0 μ fun t101 => if t101 ≤ x1 then (BL_cell_13 0 μ) else (AL 1 x0 x1 μ fun t102 => BL_cell_13 t102 μ)
def FL_cell (a0 a1 : Int) (μ : Mem) : Rz := BL_cell_0 a0 a1 μ
def BL_isPrinted_308 (s0 : Int) (μ : Mem) : Rz := RTZ s0 μ
def BL_isPrinted_269 (μ : Mem) : Rz := RTZ 0 μ
def BL_isPrinted_230 (μ : Mem) : Rz := RTZ 0 μ
def BL_isPrinted_227 (k6 : Int → Int → Int → Int → Int → Int → Mem → Rz) (k16 : Int → Int → Int → Int → Int → Int → Int → Mem → Rz) (k32 : Int → Int → Int → Int → Int → Int → Int → Int → Int → Mem → Rz) (x0 x1 x2 x3 x4 x5 x6 x7 x8 s0 s1 : Int) (μ : Mem) : Rz := if s1 = s0 then (k32 x0 x1 x2 x3 x4 x5 x6 x7 (w32 (x8 + 1)) μ) else (BL_isPrinted_230 μ)
def BL_isPrinted_193 (k6 : Int → Int → Int → Int → Int → Int → Mem → Rz) (k16 : Int → Int → Int → Int → Int → Int → Int → Mem → Rz) (k32 : Int → Int → Int → Int → Int → Int → Int → Int → Int → Mem → Rz) (x0 x1 x2 x3 x4 x5 x6 x7 x8 x11 x12 s0 : Int) (μ : Mem) : Rz := if ¬ s0 = x12 then (BL_isPrinted_230 μ) else (KD 6 x0 μ (CL (FX6_why x0 x8 x6 x5 μ) fun t101 u102 => if x12 = 0 then (if x11 = 0 then (BL_isPrinted_227 k6 k16 k32 x0 x1 x2 x3 x4 x5 x6 x7 x8 2 t101 u102) else (BL_isPrinted_227 k6 k16 k32 x0 x1 x2 x3 x4 x5 x6 x7 x8 3 t101 u102)) else (BL_isPrinted_227 k6 k16 k32 x0 x1 x2 x3 x4 x5 x6 x7 x8 0 t101 u102)))
def BL_isPrinted_133 (k6 : Int → Int → Int → Int → Int → Int → Mem → Rz) (k16 : Int → Int → Int → Int → Int → Int → Int → Mem → Rz) (k32 : Int → Int → Int → Int → Int → Int → Int → Int → Int → Mem → Rz) (x0 x1 x2 x3 x4 x5 x6 x8 x10 x11 x12 s0 s1 : Int) (μ : Mem) : Rz := LT (bOr s1 s0) fun x101 => KD 6 x0 μ (CL (FX6_cell x0 x8 x6 x5 0 μ) fun t102 u103 => if ¬ t102 = x10 then (BL_isPrinted_230 u103) else (KD 6 x0 u103 (CL (FX6_cell x0 x8 x6 x5 1 u103) fun t104 u105 => AL 7 x2 x5 u105 fun t106 => AL 1 t106 x6 u105 fun t107 => if ¬ t104 = t107 then (BL_isPrinted_230 u105) else (KD 6 x0 u105 (CL (FX6_cell x0 x8 x6 x5 2 u105) fun t108 u109 => if ¬ t108 = 1 then (BL_isPrinted_193 k6 k16 k32 x0 x1 x2 x3 x4 x5 x6 x101 x8 x11 x12 0 u109) else (BL_isPrinted_193 k6 k16 k32 x0 x1 x2 x3 x4 x5 x6 x101 x8 x11 x12 1 u109))))))
def BL_isPrinted_116 (k6 : Int → Int → Int → Int → Int → Int → Mem → Rz) (k16 : Int → Int → Int → Int → Int → Int → Int → Mem → Rz) (k32 : Int → Int → Int → Int → Int → Int → Int → Int → Int → Mem → Rz) (x0 x1 x2 x3 x4 x5 x6 x7 x8 x10 x11 s0 : Int) (μ : Mem) : Rz := if s0 = 0 then (BL_isPrinted_133 k6 k16 k32 x0 x1 x2 x3 x4 x5 x6 x8 x10 x11 s0 0 x7 μ) else (BL_isPrinted_133 k6 k16 k32 x0 x1 x2 x3 x4 x5 x6 x8 x10 x11 s0 (bShl 1 x8) x7 μ)
def BL_isPrinted_115 (k6 : Int → Int → Int → Int → Int → Int → Mem → Rz) (k16 : Int → Int → Int → Int → Int → Int → Int → Mem → Rz) (k32 : Int → Int → Int → Int → Int → Int → Int → Int → Int → Mem → Rz) (x0 x1 x2 x3 x4 x5 x6 x7 x8 x10 x11 : Int) (μ : Mem) : Rz := BL_isPrinted_116 k6 k16 k32 x0 x1 x2 x3 x4 x5 x6 x7 x8 x10 x11 0 μ
def BL_isPrinted_95 (k6 : Int → Int → Int → Int → Int → Int → Mem → Rz) (k16 : Int → Int → Int → Int → Int → Int → Int → Mem → Rz) (k32 : Int → Int → Int → Int → Int → Int → Int → Int → Int → Mem → Rz) (x0 x1 x2 x3 x4 x5 x6 x7 x8 x10 s0 : Int) (μ : Mem) : Rz := if s0 = 0 then (BL_isPrinted_115 k6 k16 k32 x0 x1 x2 x3 x4 x5 x6 x7 x8 x10 s0 μ) else (CL (FJ6_bitCount_0f7a4 x7 μ) fun t101 u102 => if x3 ≤ t101 then (BL_isPrinted_115 k6 k16 k32 x0 x1 x2 x3 x4 x5 x6 x7 x8 x10 s0 u102) else (BL_isPrinted_116 k6 k16 k32 x0 x1 x2 x3 x4 x5 x6 x7 x8 x10 s0 1 u102))
def BL_isPrinted_32 (k6 : Int → Int → Int → Int → Int → Int → Mem → Rz) (k16 : Int → Int → Int → Int → Int → Int → Int → Mem → Rz) (k32 : Int → Int → Int → Int → Int → Int → Int → Int → Int → Mem → Rz) (x0 x1 x2 x3 x4 x5 x6 x7 x8 : Int) (μ : Mem) : Rz := KD 11 x1 μ (CL (FJx4a65c_size_8abf5 x1 μ) fun t101 u102 => if t101 ≤ x8 then (KD 6 x0 u102 (CL (FX6_inks x0 x6 x5 u102) fun t103 u104 => if ¬ t103 = x7 then (BL_isPrinted_269 u104) else (KD 6 x0 u104 (CL (FX6_tone x0 x6 x5 u104) fun t105 u106 => AL 7 x2 x5 u106 fun t107 => AL 1 t107 x6 u106 fun t108 => if t105 = t108 then (CL (FJ6_bitCount_0f7a4 x7 u106) fun t109 u110 => LT (w32 (x4 + t109)) fun x111 => k16 x0 x1 x2 x3 x111 x5 (w32 (x6 + 1)) u110) else (BL_isPrinted_269 u106))))) else (KD 11 x1 u102 (CL (FJx4a65c_get_915e3 x1 x8 u102) fun t112 u113 => KD 8 t112 u113 (KD 8 t112 u113 (CL (FX8_rank t112 x6 x5 u113) fun t114 u115 => AL 7 x2 x5 u115 fun t116 => AL 1 t116 x6 u115 fun t117 => GF 8 2 t112 u115 fun t118 => GF 8 2 t112 u115 fun t119 => if w32 ((w32 (t117 * t118)) * t119) ≤ w32 (t114 * 100) then (BL_isPrinted_95 k6 k16 k32 x0 x1 x2 x3 x4 x5 x6 x7 x8 t114 0 u115) else (BL_isPrinted_95 k6 k16 k32 x0 x1 x2 x3 x4 x5 x6 x7 x8 t114 1 u115))))))
def LL_isPrinted_32 (k6 : Int → Int → Int → Int → Int → Int → Mem → Rz) (k16 : Int → Int → Int → Int → Int → Int → Int → Mem → Rz) : Nat → Int → Int → Int → Int → Int → Int → Int → Int → Int → Mem → Rz
  | 0, _, _, _, _, _, _, _, _, _, _ => none
  | n + 1, x0, x1, x2, x3, x4, x5, x6, x7, x8, μ => BL_isPrinted_32 k6 k16 (fun y0 y1 y2 y3 y4 y5 y6 y7 y8 ν => LL_isPrinted_32 k6 k16 n y0 y1 y2 y3 y4 y5 y6 y7 y8 ν) x0 x1 x2 x3 x4 x5 x6 x7 x8 μ
def BL_isPrinted_16 (k6 : Int → Int → Int → Int → Int → Int → Mem → Rz) (k16 : Int → Int → Int → Int → Int → Int → Int → Mem → Rz) (x0 x1 x2 x3 x4 x5 x6 : Int) (μ : Mem) : Rz := AL 7 x2 x5 μ fun t101 => LN 1 t101 μ fun t102 => if t102 ≤ x6 then (k6 x0 x1 x2 x3 x4 (w32 (x5 + 1)) μ) else (LL_isPrinted_32 k6 k16 FU x0 x1 x2 x3 x4 x5 x6 0 0 μ)
def LL_isPrinted_16 (k6 : Int → Int → Int → Int → Int → Int → Mem → Rz) : Nat → Int → Int → Int → Int → Int → Int → Int → Mem → Rz
  | 0, _, _, _, _, _, _, _, _ => none
  | n + 1, x0, x1, x2, x3, x4, x5, x6, μ => BL_isPrinted_16 k6 (fun y0 y1 y2 y3 y4 y5 y6 ν => LL_isPrinted_16 k6 n y0 y1 y2 y3 y4 y5 y6 ν) x0 x1 x2 x3 x4 x5 x6 μ
def BL_isPrinted_6 (k6 : Int → Int → Int → Int → Int → Int → Mem → Rz) (x0 x1 x2 x3 x4 x5 : Int) (μ : Mem) : Rz := LN 7 x2 μ fun t101 => if t101 ≤ x5 then (KD 6 x0 μ (CL (FX6_state x0 4 μ) fun t102 u103 => if ¬ t102 = x4 then (BL_isPrinted_308 0 u103) else (BL_isPrinted_308 1 u103))) else (LL_isPrinted_16 k6 FU x0 x1 x2 x3 x4 x5 0 μ)
def LL_isPrinted_6 : Nat → Int → Int → Int → Int → Int → Int → Mem → Rz
  | 0, _, _, _, _, _, _, _ => none
  | n + 1, x0, x1, x2, x3, x4, x5, μ => BL_isPrinted_6 (fun y0 y1 y2 y3 y4 y5 ν => LL_isPrinted_6 n y0 y1 y2 y3 y4 y5 ν) x0 x1 x2 x3 x4 x5 μ
def BL_isPrinted_0 (x0 x1 x2 x3 : Int) (μ : Mem) : Rz := LL_isPrinted_6 FU x0 x1 x2 x3 0 0 μ
def FL_isPrinted (a0 a1 a2 a3 : Int) (μ : Mem) : Rz := BL_isPrinted_0 a0 a1 a2 a3 μ
def BL_feeds_67 (k4 : Int → Int → Int → Int → Mem → Rz) (k20 : Int → Int → Int → Int → Int → Mem → Rz) (x0 x1 x3 x4 x5 s0 s1 s2 s3 : Int) (μ : Mem) : Rz := AS 1 s3 s2 (bOr s1 s0) μ fun u101 => k20 x0 x1 x3 x4 (w32 (x5 + 1)) u101
def BL_feeds_20 (k4 : Int → Int → Int → Int → Mem → Rz) (k20 : Int → Int → Int → Int → Int → Mem → Rz) (x0 x1 x3 x4 x5 : Int) (μ : Mem) : Rz := if 20 ≤ x5 then (AL 1 x4 0 μ fun t101 => AL 1 x4 1 μ fun t102 => AL 1 x4 2 μ fun t103 => AL 1 x4 3 μ fun t104 => AL 1 x4 4 μ fun t105 => KD 6 x0 μ (CL (FX6_append x0 t101 t102 t103 t104 t105 μ) fun t106 u107 => k4 x0 x1 t106 (w32 (x3 + 20)) u107)) else (DV x5 4 fun t108 => DV x5 4 fun t109 => AL 1 x4 t109 μ fun t110 => KD 9 x1 μ (CL (FJ0_length_8abf5 x1 μ) fun t111 u112 => if t111 ≤ w32 (x3 + x5) then (BL_feeds_67 k4 k20 x0 x1 x3 x4 x5 32 (bShl t110 8) t108 x4 u112) else (KD 9 x1 u112 (CL (FJ0_charAt_5068e x1 (w32 (x3 + x5)) u112) fun t113 u114 => BL_feeds_67 k4 k20 x0 x1 x3 x4 x5 t113 (bShl t110 8) t108 x4 u114))))
def LL_feeds_20 (k4 : Int → Int → Int → Int → Mem → Rz) : Nat → Int → Int → Int → Int → Int → Mem → Rz
  | 0, _, _, _, _, _, _ => none
  | n + 1, x0, x1, x3, x4, x5, μ => BL_feeds_20 k4 (fun y0 y1 y3 y4 y5 ν => LL_feeds_20 k4 n y0 y1 y3 y4 y5 ν) x0 x1 x3 x4 x5 μ
def BL_feeds_4 (k4 : Int → Int → Int → Int → Mem → Rz) (x0 x1 x2 x3 : Int) (μ : Mem) : Rz := KD 9 x1 μ (CL (FJ0_length_8abf5 x1 μ) fun t101 u102 => if t101 ≤ x3 then (RT x2 u102) else (NAn 1 5 u102 fun t103 u104 => LL_feeds_20 k4 FU x0 x1 x3 t103 0 u104))
def LL_feeds_4 : Nat → Int → Int → Int → Int → Mem → Rz
  | 0, _, _, _, _, _ => none
  | n + 1, x0, x1, x2, x3, μ => BL_feeds_4 (fun y0 y1 y2 y3 ν => LL_feeds_4 n y0 y1 y2 y3 ν) x0 x1 x2 x3 μ
def BL_feeds_0 (x0 x1 : Int) (μ : Mem) : Rz := LL_feeds_4 FU x0 x1 0 0 μ
def FL_feeds (a0 a1 : Int) (μ : Mem) : Rz := BL_feeds_0 a0 a1 μ
def BL_read_21 (s0 : Int) (μ : Mem) : Rz := RT s0 μ
def BL_read_0 (x0 x1 : Int) (μ : Mem) : Rz := CL (FL_feeds x0 x1 μ) fun t101 u102 => if 0 ≤ t101 then (KD 9 x1 u102 (CL (FJ0_length_8abf5 x1 u102) fun t103 u104 => KD 6 x0 u104 (CL (FX6_load x0 t103 u104) fun t105 u106 => BL_read_21 t105 u106))) else (BL_read_21 (-99) u102)
def FL_read (a0 a1 : Int) (μ : Mem) : Rz := BL_read_0 a0 a1 μ
def BL_shapeOf_31 (s0 : Int) (μ : Mem) : Rz := RT s0 μ
def BL_shapeOf_0 (x0 : Int) (μ : Mem) : Rz := if ¬ x0 = 0 then (if ¬ x0 = 1 then (if ¬ x0 = 2 then (BL_shapeOf_31 (-8) μ) else (BL_shapeOf_31 (-6) μ)) else (BL_shapeOf_31 (-4) μ)) else (BL_shapeOf_31 (-2) μ)
def FL_shapeOf (a0 : Int) (μ : Mem) : Rz := BL_shapeOf_0 a0 μ
def BL_toneOf_0 (x0 x1 x2 : Int) (μ : Mem) : Rz := RM (w32 (x1 + (w32 (3 * x2)))) 17 fun t101 => CL (FL_bound (w32 ((w32 ((bShr x0 t101) + (w32 (7 * x1)))) + (w32 (5 * x2)))) 10 μ) fun t102 u103 => RT t102 u103
def FL_toneOf (a0 a1 a2 : Int) (μ : Mem) : Rz := BL_toneOf_0 a0 a1 a2 μ
def BL_law_376 (μ : Mem) : Rz := RTL 0 μ
def BL_law_476 (μ : Mem) : Rz := RTL 0 μ
def BL_law_566 (μ : Mem) : Rz := RTL 0 μ
def BL_law_715 (s0 : Int) (μ : Mem) : Rz := RTL s0 μ
def BL_law_714 (μ : Mem) : Rz := BL_law_715 0 μ
def BL_law_212 (k212 : Int → Int → Int → Int → Int → Int → Int → Int → Int → Mem → Rz) (x0 x1 x2 x3 x4 x5 x6 x7 x8 : Int) (μ : Mem) : Rz := if x3 ≤ x8 then (NW 6 9 μ fun t101 u102 => KD 6 t101 u102 (CLZ (FX6_init t101 u102) fun _ u104 => KD 10 x5 u104 (CLZ (FJ4_toString_0e30d x5 u104) fun t105 u106 => CLZ (FL_read t101 t105 u106) fun t107 u108 => if ¬ t107 = x3 then (BL_law_376 u108) else (CLZ (FL_isPrinted t101 x7 x6 x4 u108) fun t109 u110 => if ¬ t109 = 0 then (CLZ (FL_cell x0 5 u110) fun t111 u112 => CLZ (FL_bound t111 x3 u112) fun t113 u114 => KD 11 x7 u114 (CLZ (FJx4a65c_get_915e3 x7 t113 u114) fun t115 u116 => KD 8 t115 u116 (CLZ (FL_cell x0 5 u116) fun t117 u118 => CLZ (FL_bound (bShr t117 3) 18 u118) fun t119 u120 => PF 8 4 t115 t119 u120 fun u121 => CLZ (FL_cell x0 5 u121) fun t122 u123 => CLZ (FL_bound (bShr t122 8) 18 u123) fun t124 u125 => PF 8 5 t115 t124 u125 fun u126 => GF 8 4 t115 u126 fun t127 => GF 8 5 t115 u126 fun t128 => KD 6 t101 u126 (CLZ (FX6_shift t101 t113 t127 t128 u126) fun t129 u130 => KD 6 t101 u130 (CLZ (FX6_state t101 4 u130) fun t131 u132 => if ¬ t129 = t131 then (BL_law_476 u132) else (CLZ (FL_isPrinted t101 x7 x6 x4 u132) fun t133 u134 => if ¬ t133 = 0 then (CLZ (FL_cell x0 6 u134) fun t135 u136 => CLZ (FL_bound t135 x1 u136) fun t137 u138 => CLZ (FL_cell x0 6 u138) fun t139 u140 => CLZ (FL_bound (bShr t139 4) x2 u140) fun t141 u142 => CLZ (FL_cell x0 6 u142) fun t143 u144 => CLZ (FL_bound (bShr t143 8) 101 u144) fun t145 u146 => AL 7 x6 t141 u146 fun t147 => AS 1 t147 t137 t145 u146 fun u148 => KD 6 t101 u148 (CLZ (FX6_paint t101 t137 t141 1 1 t145 u148) fun t149 u150 => KD 6 t101 u150 (CLZ (FX6_state t101 4 u150) fun t151 u152 => if ¬ t149 = t151 then (BL_law_566 u152) else (CLZ (FL_isPrinted t101 x7 x6 x4 u152) fun t153 u154 => if ¬ t153 = 0 then (CLZ (FL_cell x0 7 u154) fun t155 u156 => CLZ (FL_bound t155 4 u156) fun t157 u158 => KD 6 t101 u158 (CLZ (FX6_shape t101 t113 t157 u158) fun t159 u160 => GF 8 3 t115 u160 fun t161 => if t159 = t161 then (NWn 8 7 u160 fun t162 u163 => GF 8 0 t115 u163 fun t164 => GF 8 1 t115 u163 fun t165 => KD 8 t162 u163 (CLZ (FX8_init t162 t164 t165 t157 u163) fun _ u167 => GF 8 4 t115 u167 fun t168 => PF 8 4 t162 t168 u167 fun u169 => GF 8 5 t115 u169 fun t170 => PF 8 5 t162 t170 u169 fun u171 => KD 11 x7 u171 (CLZ (FJx4a65c_set_bcc79 x7 t113 t162 u171) fun t172 u173 => CLZ (FL_isPrinted t101 x7 x6 x4 u173) fun t174 u175 => if t174 = 0 then (BL_law_714 u175) else (KD 6 t101 u175 (CLZ (FX6_limit t101 4 u175) fun t176 u177 => if ¬ t176 = x4 then (BL_law_714 u177) else (CLZ (FL_isPrinted t101 x7 x6 4 u177) fun t178 u179 => if t178 = 0 then (BL_law_714 u179) else (KD 6 t101 u179 (CLZ (FX6_undo t101 u179) fun t180 u181 => if t180 < 0 then (BL_law_714 u181) else (CLZ (FL_isPrinted t101 x7 x6 x4 u181) fun t182 u183 => if t182 = 0 then (BL_law_714 u183) else (BL_law_715 1 u183)))))))))) else (RTL 0 u160))) else (BL_law_566 u154))))) else (BL_law_476 u134))))))) else (BL_law_376 u110))))) else (CLZ (FL_cell x0 (w32 (2 + x8)) μ) fun t184 u185 => CLZ (FL_bound t184 15 u185) fun t186 u187 => LT (w32 (1 + t186)) fun x188 => CLZ (FL_cell x0 (w32 (2 + x8)) u187) fun t189 u190 => CLZ (FL_bound (bShr t189 5) 4 u190) fun t191 u192 => NWn 8 7 u192 fun t193 u194 => DV x188 4 fun t195 => RM x188 4 fun t196 => KD 8 t193 u194 (CLZ (FX8_init t193 t195 t196 t191 u194) fun _ u198 => KD 11 x7 u198 (CLZ (FJx4a65c_add_9ea2d x7 t193 u198) fun t199 u200 => KD 10 x5 u200 (CLZ (FJ4_append_15ec4 x5 (-18) u200) fun t201 u202 => KD 10 t201 u202 (CLZ (FJ4_append_cf468 t201 (bC (w32 (97 + x8))) u202) fun t203 u204 => KD 10 t203 u204 (CLZ (FJ4_append_cf468 t203 32 u204) fun t205 u206 => DV x188 4 fun t207 => KD 10 t205 u206 (CLZ (FJ4_append_bf812 t205 t207 u206) fun t208 u209 => KD 10 t208 u209 (CLZ (FJ4_append_cf468 t208 32 u209) fun t210 u211 => RM x188 4 fun t212 => KD 10 t210 u211 (CLZ (FJ4_append_bf812 t210 t212 u211) fun t213 u214 => KD 10 t213 u214 (CLZ (FJ4_append_cf468 t213 32 u214) fun t215 u216 => CLZ (FL_shapeOf t191 u216) fun t217 u218 => KD 10 t215 u218 (CLZ (FJ4_append_15ec4 t215 t217 u218) fun t219 u220 => KD 10 t219 u220 (CLZ (FJ4_append_cf468 t219 59 u220) fun t221 u222 => k212 x0 x1 x2 x3 x4 x5 x6 x7 (w32 (x8 + 1)) u222))))))))))))
def LL_law_212 : Nat → Int → Int → Int → Int → Int → Int → Int → Int → Int → Mem → Rz
  | 0, _, _, _, _, _, _, _, _, _, _ => none
  | n + 1, x0, x1, x2, x3, x4, x5, x6, x7, x8, μ => BL_law_212 (fun y0 y1 y2 y3 y4 y5 y6 y7 y8 ν => LL_law_212 n y0 y1 y2 y3 y4 y5 y6 y7 y8 ν) x0 x1 x2 x3 x4 x5 x6 x7 x8 μ
def BL_law_139 (k122 : Int → Int → Int → Int → Int → Int → Int → Int → Mem → Rz) (k139 : Int → Int → Int → Int → Int → Int → Int → Int → Int → Mem → Rz) (x0 x1 x2 x3 x4 x5 x6 x7 x8 : Int) (μ : Mem) : Rz := if x1 ≤ x8 then (k122 x0 x1 x2 x3 x4 x5 x6 (w32 (x7 + 1)) μ) else (CLZ (FL_cell x0 1 μ) fun t101 u102 => CLZ (FL_toneOf t101 x8 x7 u102) fun t103 u104 => AL 7 x6 x7 u104 fun t105 => AS 1 t105 x8 (w32 (11 * t103)) u104 fun u106 => KD 10 x5 u106 (CLZ (FJ4_append_bf812 x5 t103 u106) fun t107 u108 => k139 x0 x1 x2 x3 x4 x5 x6 x7 (w32 (x8 + 1)) u108))
def LL_law_139 (k122 : Int → Int → Int → Int → Int → Int → Int → Int → Mem → Rz) : Nat → Int → Int → Int → Int → Int → Int → Int → Int → Int → Mem → Rz
  | 0, _, _, _, _, _, _, _, _, _, _ => none
  | n + 1, x0, x1, x2, x3, x4, x5, x6, x7, x8, μ => BL_law_139 k122 (fun y0 y1 y2 y3 y4 y5 y6 y7 y8 ν => LL_law_139 k122 n y0 y1 y2 y3 y4 y5 y6 y7 y8 ν) x0 x1 x2 x3 x4 x5 x6 x7 x8 μ
def BL_law_122 (k122 : Int → Int → Int → Int → Int → Int → Int → Int → Mem → Rz) (x0 x1 x2 x3 x4 x5 x6 x7 : Int) (μ : Mem) : Rz := if x2 ≤ x7 then (KD 10 x5 μ (CLZ (FJ4_append_cf468 x5 59 μ) fun t101 u102 => NWn 11 3 u102 fun t103 u104 => KD 11 t103 u104 (CLZ (FJx4a65c_init_da8c8 t103 u104) fun _ u106 => LL_law_212 FU x0 x1 x2 x3 x4 x5 x6 t103 0 u106))) else (KD 10 x5 μ (CLZ (FJ4_append_cf468 x5 32 μ) fun t107 u108 => LL_law_139 k122 FU x0 x1 x2 x3 x4 x5 x6 x7 0 u108))
def LL_law_122 : Nat → Int → Int → Int → Int → Int → Int → Int → Int → Mem → Rz
  | 0, _, _, _, _, _, _, _, _, _ => none
  | n + 1, x0, x1, x2, x3, x4, x5, x6, x7, μ => BL_law_122 (fun y0 y1 y2 y3 y4 y5 y6 y7 ν => LL_law_122 n y0 y1 y2 y3 y4 y5 y6 y7 ν) x0 x1 x2 x3 x4 x5 x6 x7 μ
def BL_law_0 (x0 : Int) (μ : Mem) : Rz := CLZ (FL_cell x0 0 μ) fun t101 u102 => CLZ (FL_bound t101 8 u102) fun t103 u104 => LT (w32 (1 + t103)) fun x105 => CLZ (FL_cell x0 0 u104) fun t106 u107 => CLZ (FL_bound (bShr t106 4) 6 u107) fun t108 u109 => LT (w32 (1 + t108)) fun x110 => CLZ (FL_cell x0 0 u109) fun t111 u112 => CLZ (FL_bound (bShr t111 8) 3 u112) fun t113 u114 => LT (w32 (1 + t113)) fun x115 => CLZ (FL_cell x0 0 u114) fun t116 u117 => CLZ (FL_bound (bShr t116 12) 4 u117) fun t118 u119 => LT (w32 (1 + t118)) fun x120 => NWn 10 4 u119 fun t121 u122 => NWn 10 4 u122 fun t123 u124 => KD 10 t123 u124 (CLZ (FJ4_init_da8c8 t123 u124) fun _ u126 => KD 10 t123 u126 (CLZ (FJ4_append_15ec4 t123 (-10) u126) fun t127 u128 => KD 10 t127 u128 (CLZ (FJ4_append_bf812 t127 x105 u128) fun t129 u130 => KD 10 t129 u130 (CLZ (FJ4_append_15ec4 t129 (-12) u130) fun t131 u132 => KD 10 t131 u132 (CLZ (FJ4_append_bf812 t131 x110 u132) fun t133 u134 => KD 10 t133 u134 (CLZ (FJ4_append_15ec4 t133 (-14) u134) fun t135 u136 => KD 10 t135 u136 (CLZ (FJ4_append_bf812 t135 x120 u136) fun t137 u138 => KD 10 t137 u138 (CLZ (FJ4_append_15ec4 t137 (-16) u138) fun t139 u140 => KD 10 t139 u140 (CLZ (FJ4_toString_0e30d t139 u140) fun t141 u142 => KD 10 t121 u142 (CLZ (FJ4_init_a7421 t121 t141 u142) fun _ u144 => NMn x110 x105 u144 fun t145 u146 => LL_law_122 FU x0 x105 x110 x115 x120 t121 t145 0 u146))))))))))
def FL_law (a0 : Int) (μ : Mem) : Rz := BL_law_0 a0 μ
