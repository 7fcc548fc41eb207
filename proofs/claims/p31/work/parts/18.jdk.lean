/-! the methods of the library and of the law's own classes over the small memory (written by gen.py) -/
section WALKS
variable {Γ : Gam}
abbrev KJ0_coder_7d493 : Kap := (RJ0, cJ0_coder_7d493, 1, 4, 0, (some .byte), false, [])
theorem VBJ0_coder_7d493_14 {Γ : Gam} (s0 : Int) (μ : Mem) : V Γ KJ0_coder_7d493 14 [] [(0, s0)] μ (BJ0_coder_7d493_14 s0 μ) := by
  unfold BJ0_coder_7d493_14
  exact V_breturn (κ := KJ0_coder_7d493) (pc := 14) rfl rfl dJ0_coder_7d493_14
theorem VBJ0_coder_7d493_0 {Γ : Gam} (x0 : Int) (μ : Mem) : V Γ KJ0_coder_7d493 0 [(0, (2, x0))] [] μ (BJ0_coder_7d493_0 x0 μ) := by
  unfold BJ0_coder_7d493_0
  refine V_getCompact (κ := KJ0_coder_7d493) (pc := 0) wd_724 dJ0_coder_7d493_0 ?_
  refine V_if_eq (κ := KJ0_coder_7d493) (pc := 3) (tgt := 13) dJ0_coder_7d493_3 rfl ?_ ?_
  · refine V_iconst (κ := KJ0_coder_7d493) (pc := 13) dJ0_coder_7d493_13 ⟨by decide, by decide⟩ ?_
    refine V_sub (lv' := []) [] rfl ?_
    exact VBJ0_coder_7d493_14 _ _
  refine V_aload_n (κ := KJ0_coder_7d493) (pc := 6) dJ0_coder_7d493_6 0 rfl rfl ?_
  refine V_getf 9 (κ := KJ0_coder_7d493) (pc := 7) rfl (by decide) rfl inJ0 1 (by decide) wd_1184 rfl (t := 0) rfl dJ0_coder_7d493_7 fun t101 => ?_
  refine V_goto (κ := KJ0_coder_7d493) (pc := 10) (tgt := 14) dJ0_coder_7d493_10 rfl ?_
  refine V_sub (lv' := []) [] rfl ?_
  exact VBJ0_coder_7d493_14 _ _
theorem con_J0_coder_7d493 (a0 : Int) (μ : Mem) : Con (4) yJ0_coder_7d493 (.code yJ0_coder_7d493 cJ0_coder_7d493 1 (some .byte)) 0 [(2, a0)] μ (FJ0_coder_7d493 a0 μ) := Con_intro KJ0_coder_7d493 (plainFor_of_name (by decide)) rfl (fun h => by cases h) (by decide) rfl (Nat.le_of_ble_eq_true rfl) (fun Γ => VBJ0_coder_7d493_0 _ _)
abbrev KJ0_length_8abf5 : Kap := (RJ0, cJ0_length_8abf5, 1, 5, 0, (some .int), false, [])
theorem VBJ0_length_8abf5_0 {Γ : Gam} (x0 : Int) (μ : Mem) : V Γ KJ0_length_8abf5 0 [(0, (2, x0))] [] μ (BJ0_length_8abf5_0 x0 μ) := by
  unfold BJ0_length_8abf5_0
  refine V_aload_n (κ := KJ0_length_8abf5) (pc := 0) dJ0_length_8abf5_0 0 rfl rfl ?_
  refine V_getf 9 (κ := KJ0_length_8abf5) (pc := 1) rfl (by decide) rfl inJ0 0 (by decide) wd_1183 rfl (t := 2) rfl dJ0_length_8abf5_1 fun t101 => ?_
  refine V_alen 0 (by decide) (κ := KJ0_length_8abf5) (pc := 4) dJ0_length_8abf5_4 fun t102 => ?_
  refine V_aload_n (κ := KJ0_length_8abf5) (pc := 5) dJ0_length_8abf5_5 0 rfl rfl ?_
  refine V_callV (ci := 9) (T := TJ0) (N := 4) rfl (by decide) (κ := KJ0_length_8abf5) (pc := 6) (con_J0_coder_7d493 _ _) mth_J0_coder_7d493 rfl ⟨wd_721, wd_722⟩ wd_720 (st0 := [(0, t102)]) rfl rfl (by decide) (Nat.le_of_ble_eq_true rfl) dJ0_length_8abf5_6 (fun _ _ _ h => VX_out rfl (by decide) h) fun t103 u104 => ?_
  refine V_ishr (κ := KJ0_length_8abf5) (pc := 9) dJ0_length_8abf5_9 ?_
  exact V_ireturn (κ := KJ0_length_8abf5) (pc := 10) rfl rfl dJ0_length_8abf5_10
theorem con_J0_length_8abf5 (a0 : Int) (μ : Mem) : Con (5) yJ0_length_8abf5 (.code yJ0_length_8abf5 cJ0_length_8abf5 1 (some .int)) 0 [(2, a0)] μ (FJ0_length_8abf5 a0 μ) := Con_intro KJ0_length_8abf5 (plainFor_of_name (by decide)) rfl (fun h => by cases h) (by decide) rfl (Nat.le_of_ble_eq_true rfl) (fun Γ => VBJ0_length_8abf5_0 _ _)
abbrev KJ9_max_7cf53 : Kap := (RJ9, cJ9_max_7cf53, 2, 4, 0, (some .int), false, [])
theorem VBJ9_max_7cf53_10 {Γ : Gam} (s0 : Int) (μ : Mem) : V Γ KJ9_max_7cf53 10 [] [(0, s0)] μ (BJ9_max_7cf53_10 s0 μ) := by
  unfold BJ9_max_7cf53_10
  exact V_ireturn (κ := KJ9_max_7cf53) (pc := 10) rfl rfl dJ9_max_7cf53_10
theorem VBJ9_max_7cf53_0 {Γ : Gam} (x0 x1 : Int) (μ : Mem) : V Γ KJ9_max_7cf53 0 [(0, (0, x0)), (1, (0, x1))] [] μ (BJ9_max_7cf53_0 x0 x1 μ) := by
  unfold BJ9_max_7cf53_0
  refine V_iload_n (κ := KJ9_max_7cf53) (pc := 0) dJ9_max_7cf53_0 0 rfl ?_
  refine V_iload_n (κ := KJ9_max_7cf53) (pc := 1) dJ9_max_7cf53_1 1 rfl ?_
  refine V_icmp_lt (κ := KJ9_max_7cf53) (pc := 2) (tgt := 9) dJ9_max_7cf53_2 rfl ?_ ?_
  · refine V_iload_n (κ := KJ9_max_7cf53) (pc := 9) dJ9_max_7cf53_9 1 rfl ?_
    refine V_sub (lv' := []) [] rfl ?_
    exact VBJ9_max_7cf53_10 _ _
  refine V_iload_n (κ := KJ9_max_7cf53) (pc := 5) dJ9_max_7cf53_5 0 rfl ?_
  refine V_goto (κ := KJ9_max_7cf53) (pc := 6) (tgt := 10) dJ9_max_7cf53_6 rfl ?_
  refine V_sub (lv' := []) [] rfl ?_
  exact VBJ9_max_7cf53_10 _ _
theorem con_J9_max_7cf53 (a0 a1 : Int) (μ : Mem) : Con (4) yJ9_max_7cf53 (.code yJ9_max_7cf53 cJ9_max_7cf53 2 (some .int)) 0 [(0, a0), (0, a1)] μ (FJ9_max_7cf53 a0 a1 μ) := Con_intro KJ9_max_7cf53 (Jvm.Free.JP.mathPlain rfl (by decide +kernel)) rfl (fun h => by cases h) (by decide) rfl (Nat.le_of_ble_eq_true rfl) (fun Γ => VBJ9_max_7cf53_0 _ _ _)
abbrev KJ8_newLength_cabcc : Kap := (RJ8, cJ8_newLength_cabcc, 4, 5, 0, (some .int), false, [])
theorem VBJ8_newLength_cabcc_21 {Γ : Gam} (x0 x1 : Int) (μ : Mem) : V Γ KJ8_newLength_cabcc 21 [(0, (0, x0)), (1, (0, x1))] [] μ (BJ8_newLength_cabcc_21 x0 x1 μ) := by
  unfold BJ8_newLength_cabcc_21
  refine V_iload_n (κ := KJ8_newLength_cabcc) (pc := 21) dJ8_newLength_cabcc_21 0 rfl ?_
  refine V_iload_n (κ := KJ8_newLength_cabcc) (pc := 22) dJ8_newLength_cabcc_22 1 rfl ?_
  exact V_none
theorem VBJ8_newLength_cabcc_0 {Γ : Gam} (x0 x1 x2 : Int) (μ : Mem) : V Γ KJ8_newLength_cabcc 0 [(0, (0, x0)), (1, (0, x1)), (2, (0, x2))] [] μ (BJ8_newLength_cabcc_0 x0 x1 x2 μ) := by
  unfold BJ8_newLength_cabcc_0
  refine V_iload_n (κ := KJ8_newLength_cabcc) (pc := 0) dJ8_newLength_cabcc_0 0 rfl ?_
  refine V_iload_n (κ := KJ8_newLength_cabcc) (pc := 1) dJ8_newLength_cabcc_1 1 rfl ?_
  refine V_iload_n (κ := KJ8_newLength_cabcc) (pc := 2) dJ8_newLength_cabcc_2 2 rfl ?_
  refine V_callS (κ := KJ8_newLength_cabcc) (pc := 3) (con_J9_max_7cf53 _ _ _) mth_J9_max_7cf53 wd_405 wd_638 (st0 := [(0, x0)]) rfl rfl (by decide) (Nat.le_of_ble_eq_true rfl) dJ8_newLength_cabcc_3 (fun _ _ _ h => VX_out rfl (by decide) h) fun t101 u102 => ?_
  refine V_iadd (κ := KJ8_newLength_cabcc) (pc := 6) dJ8_newLength_cabcc_6 ?_
  refine V_LT fun x103 => ?_
  refine V_istore_n (κ := KJ8_newLength_cabcc) (pc := 7) (lv' := [(3, (0, x103)), (0, (0, x0)), (1, (0, x1)), (2, (0, x2))]) dJ8_newLength_cabcc_7 (by decide) rfl ?_
  refine V_iconst (κ := KJ8_newLength_cabcc) (pc := 8) dJ8_newLength_cabcc_8 ⟨by decide, by decide⟩ ?_
  refine V_iload_n (κ := KJ8_newLength_cabcc) (pc := 9) dJ8_newLength_cabcc_9 0 rfl ?_
  refine V_icmp_ge (κ := KJ8_newLength_cabcc) (pc := 10) (tgt := 21) dJ8_newLength_cabcc_10 rfl ?_ ?_
  · refine V_sub (lv' := [(0, (0, x0)), (1, (0, x1))]) [1, 2] rfl ?_
    exact VBJ8_newLength_cabcc_21 _ _ _
  refine V_iload_n (κ := KJ8_newLength_cabcc) (pc := 13) dJ8_newLength_cabcc_13 0 rfl ?_
  refine V_ldc (κ := KJ8_newLength_cabcc) (pc := 14) (z := 2147483639) dJ8_newLength_cabcc_14 wd_639 ⟨by decide, by decide⟩ (by decide) ?_
  refine V_icmp_gt (κ := KJ8_newLength_cabcc) (pc := 16) (tgt := 21) dJ8_newLength_cabcc_16 rfl ?_ ?_
  · refine V_sub (lv' := [(0, (0, x0)), (1, (0, x1))]) [1, 2] rfl ?_
    exact VBJ8_newLength_cabcc_21 _ _ _
  refine V_iload_n (κ := KJ8_newLength_cabcc) (pc := 19) dJ8_newLength_cabcc_19 0 rfl ?_
  exact V_ireturn (κ := KJ8_newLength_cabcc) (pc := 20) rfl rfl dJ8_newLength_cabcc_20
theorem con_J8_newLength_cabcc (a0 a1 a2 : Int) (μ : Mem) : Con (5) yJ8_newLength_cabcc (.code yJ8_newLength_cabcc cJ8_newLength_cabcc 4 (some .int)) 0 [(0, a0), (0, a1), (0, a2)] μ (FJ8_newLength_cabcc a0 a1 a2 μ) := Con_intro KJ8_newLength_cabcc (plainFor_of_name (by decide)) rfl (fun h => by cases h) (by decide) rfl (Nat.le_of_ble_eq_true rfl) (fun Γ => VBJ8_newLength_cabcc_0 _ _ _ _)
abbrev KJ5_newCapacity_0f7a4 : Kap := (RJ5, cJ5_newCapacity_0f7a4, 6, 6, 0, (some .int), false, [])
theorem VBJ5_newCapacity_0f7a4_0 {Γ : Gam} (x0 x1 : Int) (μ : Mem) : V Γ KJ5_newCapacity_0f7a4 0 [(0, (2, x0)), (1, (0, x1))] [] μ (BJ5_newCapacity_0f7a4_0 x0 x1 μ) := by
  unfold BJ5_newCapacity_0f7a4_0
  refine V_aload_n (κ := KJ5_newCapacity_0f7a4) (pc := 0) dJ5_newCapacity_0f7a4_0 0 rfl rfl ?_
  refine V_getf 10 (κ := KJ5_newCapacity_0f7a4) (pc := 1) rfl (by decide) rfl inJ4 0 (by decide) wd_989 rfl (t := 2) rfl dJ5_newCapacity_0f7a4_1 fun t101 => ?_
  refine V_alen 0 (by decide) (κ := KJ5_newCapacity_0f7a4) (pc := 4) dJ5_newCapacity_0f7a4_4 fun t102 => ?_
  refine V_istore_n (κ := KJ5_newCapacity_0f7a4) (pc := 5) (lv' := [(2, (0, t102)), (0, (2, x0)), (1, (0, x1))]) dJ5_newCapacity_0f7a4_5 (by decide) rfl ?_
  refine V_iload_n (κ := KJ5_newCapacity_0f7a4) (pc := 6) dJ5_newCapacity_0f7a4_6 2 rfl ?_
  refine V_aload_n (κ := KJ5_newCapacity_0f7a4) (pc := 7) dJ5_newCapacity_0f7a4_7 1 rfl rfl ?_
  refine V_getf 10 (κ := KJ5_newCapacity_0f7a4) (pc := 8) rfl (by decide) rfl inJ4 1 (by decide) wd_990 rfl (t := 0) rfl dJ5_newCapacity_0f7a4_8 fun t103 => ?_
  refine V_ishl (κ := KJ5_newCapacity_0f7a4) (pc := 11) dJ5_newCapacity_0f7a4_11 ?_
  refine V_LT fun x104 => ?_
  refine V_istore_n (κ := KJ5_newCapacity_0f7a4) (pc := 12) (lv' := [(3, (0, x104)), (2, (0, t102)), (0, (2, x0)), (1, (0, x1))]) dJ5_newCapacity_0f7a4_12 (by decide) rfl ?_
  refine V_iload_n (κ := KJ5_newCapacity_0f7a4) (pc := 13) dJ5_newCapacity_0f7a4_13 0 rfl ?_
  refine V_iload_n (κ := KJ5_newCapacity_0f7a4) (pc := 14) dJ5_newCapacity_0f7a4_14 1 rfl ?_
  refine V_isub (κ := KJ5_newCapacity_0f7a4) (pc := 15) dJ5_newCapacity_0f7a4_15 ?_
  refine V_LT fun x105 => ?_
  refine V_istore (κ := KJ5_newCapacity_0f7a4) (pc := 16) (lv' := [(4, (0, x105)), (3, (0, x104)), (2, (0, t102)), (0, (2, x0)), (1, (0, x1))]) dJ5_newCapacity_0f7a4_16 (by decide) rfl ?_
  refine V_iload_n (κ := KJ5_newCapacity_0f7a4) (pc := 18) dJ5_newCapacity_0f7a4_18 2 rfl ?_
  refine V_iload (κ := KJ5_newCapacity_0f7a4) (pc := 19) dJ5_newCapacity_0f7a4_19 0 rfl ?_
  refine V_iload_n (κ := KJ5_newCapacity_0f7a4) (pc := 21) dJ5_newCapacity_0f7a4_21 2 rfl ?_
  refine V_iconst (κ := KJ5_newCapacity_0f7a4) (pc := 22) dJ5_newCapacity_0f7a4_22 ⟨by decide, by decide⟩ ?_
  refine V_aload_n (κ := KJ5_newCapacity_0f7a4) (pc := 23) dJ5_newCapacity_0f7a4_23 3 rfl rfl ?_
  refine V_getf 10 (κ := KJ5_newCapacity_0f7a4) (pc := 24) rfl (by decide) rfl inJ4 1 (by decide) wd_990 rfl (t := 0) rfl dJ5_newCapacity_0f7a4_24 fun t106 => ?_
  refine V_ishl (κ := KJ5_newCapacity_0f7a4) (pc := 27) dJ5_newCapacity_0f7a4_27 ?_
  refine V_iadd (κ := KJ5_newCapacity_0f7a4) (pc := 28) dJ5_newCapacity_0f7a4_28 ?_
  refine V_callS (κ := KJ5_newCapacity_0f7a4) (pc := 29) (con_J8_newLength_cabcc _ _ _ _) mth_J8_newLength_cabcc wd_636 wd_1036 (st0 := []) rfl rfl (by decide) (Nat.le_of_ble_eq_true rfl) dJ5_newCapacity_0f7a4_29 (fun _ _ _ h => VX_out rfl (by decide) h) fun t107 u108 => ?_
  refine V_istore (κ := KJ5_newCapacity_0f7a4) (pc := 32) (lv' := [(5, (0, t107)), (4, (0, x105)), (3, (0, x104)), (2, (0, t102)), (0, (2, x0)), (1, (0, x1))]) dJ5_newCapacity_0f7a4_32 (by decide) rfl ?_
  refine V_iload (κ := KJ5_newCapacity_0f7a4) (pc := 34) dJ5_newCapacity_0f7a4_34 0 rfl ?_
  refine V_ldc (κ := KJ5_newCapacity_0f7a4) (pc := 36) (z := 2147483647) dJ5_newCapacity_0f7a4_36 wd_1010 ⟨by decide, by decide⟩ (by decide) ?_
  refine V_icmp_ne (κ := KJ5_newCapacity_0f7a4) (pc := 38) (tgt := 51) dJ5_newCapacity_0f7a4_38 rfl ?_ ?_
  · refine V_iload (κ := KJ5_newCapacity_0f7a4) (pc := 51) dJ5_newCapacity_0f7a4_51 0 rfl ?_
    refine V_aload_n (κ := KJ5_newCapacity_0f7a4) (pc := 53) dJ5_newCapacity_0f7a4_53 4 rfl rfl ?_
    refine V_getf 10 (κ := KJ5_newCapacity_0f7a4) (pc := 54) rfl (by decide) rfl inJ4 1 (by decide) wd_990 rfl (t := 0) rfl dJ5_newCapacity_0f7a4_54 fun t109 => ?_
    refine V_ishr (κ := KJ5_newCapacity_0f7a4) (pc := 57) dJ5_newCapacity_0f7a4_57 ?_
    exact V_ireturn (κ := KJ5_newCapacity_0f7a4) (pc := 58) rfl rfl dJ5_newCapacity_0f7a4_58
  exact V_none
theorem con_J5_newCapacity_0f7a4 (a0 a1 : Int) (μ : Mem) : Con (6) yJ5_newCapacity_0f7a4 (.code yJ5_newCapacity_0f7a4 cJ5_newCapacity_0f7a4 6 (some .int)) 0 [(2, a0), (0, a1)] μ (FJ5_newCapacity_0f7a4 a0 a1 μ) := Con_intro KJ5_newCapacity_0f7a4 (plainFor_of_name (by decide)) rfl (fun h => by cases h) (by decide) rfl (Nat.le_of_ble_eq_true rfl) (fun Γ => VBJ5_newCapacity_0f7a4_0 _ _ _)
abbrev KJ9_min_7cf53 : Kap := (RJ9, cJ9_min_7cf53, 2, 4, 0, (some .int), false, [])
theorem VBJ9_min_7cf53_10 {Γ : Gam} (s0 : Int) (μ : Mem) : V Γ KJ9_min_7cf53 10 [] [(0, s0)] μ (BJ9_min_7cf53_10 s0 μ) := by
  unfold BJ9_min_7cf53_10
  exact V_ireturn (κ := KJ9_min_7cf53) (pc := 10) rfl rfl dJ9_min_7cf53_10
theorem VBJ9_min_7cf53_0 {Γ : Gam} (x0 x1 : Int) (μ : Mem) : V Γ KJ9_min_7cf53 0 [(0, (0, x0)), (1, (0, x1))] [] μ (BJ9_min_7cf53_0 x0 x1 μ) := by
  unfold BJ9_min_7cf53_0
  refine V_iload_n (κ := KJ9_min_7cf53) (pc := 0) dJ9_min_7cf53_0 0 rfl ?_
  refine V_iload_n (κ := KJ9_min_7cf53) (pc := 1) dJ9_min_7cf53_1 1 rfl ?_
  refine V_icmp_gt (κ := KJ9_min_7cf53) (pc := 2) (tgt := 9) dJ9_min_7cf53_2 rfl ?_ ?_
  · refine V_iload_n (κ := KJ9_min_7cf53) (pc := 9) dJ9_min_7cf53_9 1 rfl ?_
    refine V_sub (lv' := []) [] rfl ?_
    exact VBJ9_min_7cf53_10 _ _
  refine V_iload_n (κ := KJ9_min_7cf53) (pc := 5) dJ9_min_7cf53_5 0 rfl ?_
  refine V_goto (κ := KJ9_min_7cf53) (pc := 6) (tgt := 10) dJ9_min_7cf53_6 rfl ?_
  refine V_sub (lv' := []) [] rfl ?_
  exact VBJ9_min_7cf53_10 _ _
theorem con_J9_min_7cf53 (a0 a1 : Int) (μ : Mem) : Con (4) yJ9_min_7cf53 (.code yJ9_min_7cf53 cJ9_min_7cf53 2 (some .int)) 0 [(0, a0), (0, a1)] μ (FJ9_min_7cf53 a0 a1 μ) := Con_intro KJ9_min_7cf53 (Jvm.Free.JP.mathPlain rfl (by decide +kernel)) rfl (fun h => by cases h) (by decide) rfl (Nat.le_of_ble_eq_true rfl) (fun Γ => VBJ9_min_7cf53_0 _ _ _)
abbrev KJ7_copyOf_9075b : Kap := (RJ7, cJ7_copyOf_9075b, 3, 5, 2, (some (.array .byte)), false, [])
theorem VBJ7_copyOf_9075b_0 {Γ : Gam} (x0 x1 : Int) (μ : Mem) : V Γ KJ7_copyOf_9075b 0 [(0, (2, x0)), (1, (0, x1))] [] μ (BJ7_copyOf_9075b_0 x0 x1 μ) := by
  unfold BJ7_copyOf_9075b_0
  refine V_iload_n (κ := KJ7_copyOf_9075b) (pc := 0) dJ7_copyOf_9075b_0 1 rfl ?_
  refine V_aload_n (κ := KJ7_copyOf_9075b) (pc := 1) dJ7_copyOf_9075b_1 0 rfl rfl ?_
  refine V_alen 0 (by decide) (κ := KJ7_copyOf_9075b) (pc := 2) dJ7_copyOf_9075b_2 fun t101 => ?_
  refine V_icmp_ne (κ := KJ7_copyOf_9075b) (pc := 3) (tgt := 14) dJ7_copyOf_9075b_3 rfl ?_ ?_
  · refine V_iload_n (κ := KJ7_copyOf_9075b) (pc := 14) dJ7_copyOf_9075b_14 1 rfl ?_
    refine V_newarrayN 0 (by decide) (κ := KJ7_copyOf_9075b) (pc := 15) rfl wd_72 dJ7_copyOf_9075b_15 fun t102 u103 => ?_
    refine V_astore_n (κ := KJ7_copyOf_9075b) (pc := 17) (lv' := [(2, (2, t102)), (0, (2, x0)), (1, (0, x1))]) dJ7_copyOf_9075b_17 rfl (by decide) rfl ?_
    refine V_aload_n (κ := KJ7_copyOf_9075b) (pc := 18) dJ7_copyOf_9075b_18 1 rfl rfl ?_
    refine V_iconst (κ := KJ7_copyOf_9075b) (pc := 19) dJ7_copyOf_9075b_19 ⟨by decide, by decide⟩ ?_
    refine V_aload_n (κ := KJ7_copyOf_9075b) (pc := 20) dJ7_copyOf_9075b_20 0 rfl rfl ?_
    refine V_iconst (κ := KJ7_copyOf_9075b) (pc := 21) dJ7_copyOf_9075b_21 ⟨by decide, by decide⟩ ?_
    refine V_aload_n (κ := KJ7_copyOf_9075b) (pc := 22) dJ7_copyOf_9075b_22 1 rfl rfl ?_
    refine V_alen 0 (by decide) (κ := KJ7_copyOf_9075b) (pc := 23) dJ7_copyOf_9075b_23 fun t104 => ?_
    refine V_iload_n (κ := KJ7_copyOf_9075b) (pc := 24) dJ7_copyOf_9075b_24 2 rfl ?_
    refine V_callS (κ := KJ7_copyOf_9075b) (pc := 25) (con_J9_min_7cf53 _ _ _) mth_J9_min_7cf53 wd_502 wd_670 (st0 := [(0, 0), (2, t102), (0, 0), (2, x0)]) rfl rfl (by decide) (Nat.le_of_ble_eq_true rfl) dJ7_copyOf_9075b_25 (fun _ _ _ h => VX_out rfl (by decide) h) fun t105 u106 => ?_
    refine V_acopyB (κ := KJ7_copyOf_9075b) (pc := 28) (by decide) wd_671 wd_496 wd_495 wd_8 (by first | decide | (simp [nativeFrameWords, catA]; done) | exact Nat.le_of_ble_eq_true rfl) dJ7_copyOf_9075b_28 fun u107 => ?_
    refine V_aload_n (κ := KJ7_copyOf_9075b) (pc := 31) dJ7_copyOf_9075b_31 0 rfl rfl ?_
    exact V_areturn (κ := KJ7_copyOf_9075b) (pc := 32) rfl rfl (by first | exact Or.inl ⟨_, rfl⟩ | exact Or.inr ⟨_, rfl⟩) dJ7_copyOf_9075b_32
  refine V_aload_n (κ := KJ7_copyOf_9075b) (pc := 6) dJ7_copyOf_9075b_6 0 rfl rfl ?_
  refine V_clone (κ := KJ7_copyOf_9075b) (pc := 7) (by decide) wd_1040 wd_1041 wd_891 wd_892 wd_1042 (Nat.le_of_ble_eq_true rfl) dJ7_copyOf_9075b_7 fun t108 u109 => ?_
  refine V_ccB (κ := KJ7_copyOf_9075b) (pc := 10) wd_1044 dJ7_copyOf_9075b_10 ?_
  exact V_areturn (κ := KJ7_copyOf_9075b) (pc := 13) rfl rfl (by first | exact Or.inl ⟨_, rfl⟩ | exact Or.inr ⟨_, rfl⟩) dJ7_copyOf_9075b_13
theorem con_J7_copyOf_9075b (a0 a1 : Int) (μ : Mem) : Con (5) yJ7_copyOf_9075b (.code yJ7_copyOf_9075b cJ7_copyOf_9075b 3 (some (.array .byte))) 2 [(2, a0), (0, a1)] μ (FJ7_copyOf_9075b a0 a1 μ) := Con_intro KJ7_copyOf_9075b (plainFor_of_name (by decide)) rfl (fun h => by cases h) (by decide) rfl (Nat.le_of_ble_eq_true rfl) (fun Γ => VBJ7_copyOf_9075b_0 _ _ _)
abbrev KJ5_ensureCapacityInternal_d00df : Kap := (RJ5, cJ5_ensureCapacityInternal_d00df, 3, 7, 9, none, false, [])
theorem VBJ5_ensureCapacityInternal_d00df_38 {Γ : Gam} (μ : Mem) : V Γ KJ5_ensureCapacityInternal_d00df 38 [] [] μ (BJ5_ensureCapacityInternal_d00df_38 μ) := by
  unfold BJ5_ensureCapacityInternal_d00df_38
  exact V_vreturn (κ := KJ5_ensureCapacityInternal_d00df) (pc := 38) rfl rfl dJ5_ensureCapacityInternal_d00df_38
theorem VBJ5_ensureCapacityInternal_d00df_0 {Γ : Gam} (x0 x1 : Int) (μ : Mem) : V Γ KJ5_ensureCapacityInternal_d00df 0 [(0, (2, x0)), (1, (0, x1))] [] μ (BJ5_ensureCapacityInternal_d00df_0 x0 x1 μ) := by
  unfold BJ5_ensureCapacityInternal_d00df_0
  refine V_aload_n (κ := KJ5_ensureCapacityInternal_d00df) (pc := 0) dJ5_ensureCapacityInternal_d00df_0 0 rfl rfl ?_
  refine V_getf 10 (κ := KJ5_ensureCapacityInternal_d00df) (pc := 1) rfl (by decide) rfl inJ4 0 (by decide) wd_989 rfl (t := 2) rfl dJ5_ensureCapacityInternal_d00df_1 fun t101 => ?_
  refine V_alen 0 (by decide) (κ := KJ5_ensureCapacityInternal_d00df) (pc := 4) dJ5_ensureCapacityInternal_d00df_4 fun t102 => ?_
  refine V_aload_n (κ := KJ5_ensureCapacityInternal_d00df) (pc := 5) dJ5_ensureCapacityInternal_d00df_5 0 rfl rfl ?_
  refine V_getf 10 (κ := KJ5_ensureCapacityInternal_d00df) (pc := 6) rfl (by decide) rfl inJ4 1 (by decide) wd_990 rfl (t := 0) rfl dJ5_ensureCapacityInternal_d00df_6 fun t103 => ?_
  refine V_ishr (κ := KJ5_ensureCapacityInternal_d00df) (pc := 9) dJ5_ensureCapacityInternal_d00df_9 ?_
  refine V_LT fun x104 => ?_
  refine V_istore_n (κ := KJ5_ensureCapacityInternal_d00df) (pc := 10) (lv' := [(2, (0, x104)), (0, (2, x0)), (1, (0, x1))]) dJ5_ensureCapacityInternal_d00df_10 (by decide) rfl ?_
  refine V_iload_n (κ := KJ5_ensureCapacityInternal_d00df) (pc := 11) dJ5_ensureCapacityInternal_d00df_11 2 rfl ?_
  refine V_iload_n (κ := KJ5_ensureCapacityInternal_d00df) (pc := 12) dJ5_ensureCapacityInternal_d00df_12 0 rfl ?_
  refine V_isub (κ := KJ5_ensureCapacityInternal_d00df) (pc := 13) dJ5_ensureCapacityInternal_d00df_13 ?_
  refine V_if_le (κ := KJ5_ensureCapacityInternal_d00df) (pc := 14) (tgt := 38) dJ5_ensureCapacityInternal_d00df_14 rfl ?_ ?_
  · refine V_sub (lv' := []) [] rfl ?_
    exact VBJ5_ensureCapacityInternal_d00df_38 _
  refine V_aload_n (κ := KJ5_ensureCapacityInternal_d00df) (pc := 17) dJ5_ensureCapacityInternal_d00df_17 1 rfl rfl ?_
  refine V_aload_n (κ := KJ5_ensureCapacityInternal_d00df) (pc := 18) dJ5_ensureCapacityInternal_d00df_18 1 rfl rfl ?_
  refine V_getf 10 (κ := KJ5_ensureCapacityInternal_d00df) (pc := 19) rfl (by decide) rfl inJ4 0 (by decide) wd_989 rfl (t := 2) rfl dJ5_ensureCapacityInternal_d00df_19 fun t105 => ?_
  refine V_aload_n (κ := KJ5_ensureCapacityInternal_d00df) (pc := 22) dJ5_ensureCapacityInternal_d00df_22 1 rfl rfl ?_
  refine V_iload_n (κ := KJ5_ensureCapacityInternal_d00df) (pc := 23) dJ5_ensureCapacityInternal_d00df_23 2 rfl ?_
  refine V_callU (ci := 10) (T := TJ4) (N := 4) rfl (by decide) (κ := KJ5_ensureCapacityInternal_d00df) (pc := 24) (con_J5_newCapacity_0f7a4 _ _ _) mth_J5_newCapacity_0f7a4 ⟨wd_1034, ws_1⟩ wd_1217 wd_1032 (st0 := [(2, t105), (2, x0)]) rfl rfl (by decide) (Nat.le_of_ble_eq_true rfl) dJ5_ensureCapacityInternal_d00df_24 (fun _ _ _ h => VX_out rfl (by decide) h) fun t106 u107 => ?_
  refine V_aload_n (κ := KJ5_ensureCapacityInternal_d00df) (pc := 27) dJ5_ensureCapacityInternal_d00df_27 1 rfl rfl ?_
  refine V_getf 10 (κ := KJ5_ensureCapacityInternal_d00df) (pc := 28) rfl (by decide) rfl inJ4 1 (by decide) wd_990 rfl (t := 0) rfl dJ5_ensureCapacityInternal_d00df_28 fun t108 => ?_
  refine V_ishl (κ := KJ5_ensureCapacityInternal_d00df) (pc := 31) dJ5_ensureCapacityInternal_d00df_31 ?_
  refine V_callS (κ := KJ5_ensureCapacityInternal_d00df) (pc := 32) (con_J7_copyOf_9075b _ _ _) mth_J7_copyOf_9075b wd_1038 wd_1037 (st0 := [(2, x0)]) rfl rfl (by decide) (Nat.le_of_ble_eq_true rfl) dJ5_ensureCapacityInternal_d00df_32 (fun _ _ _ h => VX_out rfl (by decide) h) fun t109 u110 => ?_
  refine V_putf 10 (κ := KJ5_ensureCapacityInternal_d00df) (pc := 35) rfl (by decide) rfl inJ4 tyJ4 tyJ4_ok nmJ4 0 (by decide) wd_989 rfl rfl (t := 2) rfl rfl dJ5_ensureCapacityInternal_d00df_35 fun u111 => ?_
  refine V_sub (lv' := []) [] rfl ?_
  exact VBJ5_ensureCapacityInternal_d00df_38 _
theorem con_J5_ensureCapacityInternal_d00df (a0 a1 : Int) (μ : Mem) : Con (7) yJ5_ensureCapacityInternal_d00df (.code yJ5_ensureCapacityInternal_d00df cJ5_ensureCapacityInternal_d00df 3 none) 9 [(2, a0), (0, a1)] μ (FJ5_ensureCapacityInternal_d00df a0 a1 μ) := Con_intro KJ5_ensureCapacityInternal_d00df (plainFor_of_name (by decide)) rfl (fun h => by cases h) (by decide) rfl (Nat.le_of_ble_eq_true rfl) (fun Γ => VBJ5_ensureCapacityInternal_d00df_0 _ _ _)
abbrev KJ0_getBytes_840e7 : Kap := (RJ0, cJ0_getBytes_840e7, 4, 5, 9, none, false, [])
theorem VBJ0_getBytes_840e7_43 {Γ : Gam} (μ : Mem) : V Γ KJ0_getBytes_840e7 43 [] [] μ (BJ0_getBytes_840e7_43 μ) := by
  unfold BJ0_getBytes_840e7_43
  exact V_vreturn (κ := KJ0_getBytes_840e7) (pc := 43) rfl rfl dJ0_getBytes_840e7_43
theorem VBJ0_getBytes_840e7_0 {Γ : Gam} (x0 x1 x2 x3 : Int) (μ : Mem) : V Γ KJ0_getBytes_840e7 0 [(0, (2, x0)), (1, (2, x1)), (2, (0, x2)), (3, (0, x3))] [] μ (BJ0_getBytes_840e7_0 x0 x1 x2 x3 μ) := by
  unfold BJ0_getBytes_840e7_0
  refine V_aload_n (κ := KJ0_getBytes_840e7) (pc := 0) dJ0_getBytes_840e7_0 0 rfl rfl ?_
  refine V_callV (ci := 9) (T := TJ0) (N := 4) rfl (by decide) (κ := KJ0_getBytes_840e7) (pc := 1) (con_J0_coder_7d493 _ _) mth_J0_coder_7d493 rfl ⟨wd_721, wd_722⟩ wd_720 (st0 := []) rfl rfl (by decide) (Nat.le_of_ble_eq_true rfl) dJ0_getBytes_840e7_1 (fun _ _ _ h => VX_out rfl (by decide) h) fun t101 u102 => ?_
  refine V_iload_n (κ := KJ0_getBytes_840e7) (pc := 4) dJ0_getBytes_840e7_4 3 rfl ?_
  refine V_icmp_ne (κ := KJ0_getBytes_840e7) (pc := 5) (tgt := 28) dJ0_getBytes_840e7_5 rfl ?_ ?_
  · refine V_aload_n (κ := KJ0_getBytes_840e7) (pc := 28) dJ0_getBytes_840e7_28 0 rfl rfl ?_
    refine V_getf 9 (κ := KJ0_getBytes_840e7) (pc := 29) rfl (by decide) rfl inJ0 0 (by decide) wd_1183 rfl (t := 2) rfl dJ0_getBytes_840e7_29 fun t103 => ?_
    refine V_iconst (κ := KJ0_getBytes_840e7) (pc := 32) dJ0_getBytes_840e7_32 ⟨by decide, by decide⟩ ?_
    refine V_aload_n (κ := KJ0_getBytes_840e7) (pc := 33) dJ0_getBytes_840e7_33 1 rfl rfl ?_
    refine V_iload_n (κ := KJ0_getBytes_840e7) (pc := 34) dJ0_getBytes_840e7_34 2 rfl ?_
    refine V_aload_n (κ := KJ0_getBytes_840e7) (pc := 35) dJ0_getBytes_840e7_35 0 rfl rfl ?_
    refine V_getf 9 (κ := KJ0_getBytes_840e7) (pc := 36) rfl (by decide) rfl inJ0 0 (by decide) wd_1183 rfl (t := 2) rfl dJ0_getBytes_840e7_36 fun t104 => ?_
    refine V_alen 0 (by decide) (κ := KJ0_getBytes_840e7) (pc := 39) dJ0_getBytes_840e7_39 fun t105 => ?_
    exact V_none
  refine V_aload_n (κ := KJ0_getBytes_840e7) (pc := 8) dJ0_getBytes_840e7_8 0 rfl rfl ?_
  refine V_getf 9 (κ := KJ0_getBytes_840e7) (pc := 9) rfl (by decide) rfl inJ0 0 (by decide) wd_1183 rfl (t := 2) rfl dJ0_getBytes_840e7_9 fun t106 => ?_
  refine V_iconst (κ := KJ0_getBytes_840e7) (pc := 12) dJ0_getBytes_840e7_12 ⟨by decide, by decide⟩ ?_
  refine V_aload_n (κ := KJ0_getBytes_840e7) (pc := 13) dJ0_getBytes_840e7_13 1 rfl rfl ?_
  refine V_iload_n (κ := KJ0_getBytes_840e7) (pc := 14) dJ0_getBytes_840e7_14 2 rfl ?_
  refine V_iload_n (κ := KJ0_getBytes_840e7) (pc := 15) dJ0_getBytes_840e7_15 3 rfl ?_
  refine V_ishl (κ := KJ0_getBytes_840e7) (pc := 16) dJ0_getBytes_840e7_16 ?_
  refine V_aload_n (κ := KJ0_getBytes_840e7) (pc := 17) dJ0_getBytes_840e7_17 0 rfl rfl ?_
  refine V_getf 9 (κ := KJ0_getBytes_840e7) (pc := 18) rfl (by decide) rfl inJ0 0 (by decide) wd_1183 rfl (t := 2) rfl dJ0_getBytes_840e7_18 fun t107 => ?_
  refine V_alen 0 (by decide) (κ := KJ0_getBytes_840e7) (pc := 21) dJ0_getBytes_840e7_21 fun t108 => ?_
  refine V_acopyB (κ := KJ0_getBytes_840e7) (pc := 22) (by decide) wd_1096 wd_496 wd_495 wd_8 (by first | decide | (simp [nativeFrameWords, catA]; done) | exact Nat.le_of_ble_eq_true rfl) dJ0_getBytes_840e7_22 fun u109 => ?_
  refine V_goto (κ := KJ0_getBytes_840e7) (pc := 25) (tgt := 43) dJ0_getBytes_840e7_25 rfl ?_
  refine V_sub (lv' := []) [] rfl ?_
  exact VBJ0_getBytes_840e7_43 _
theorem con_J0_getBytes_840e7 (a0 a1 a2 a3 : Int) (μ : Mem) : Con (5) yJ0_getBytes_840e7 (.code yJ0_getBytes_840e7 cJ0_getBytes_840e7 4 none) 9 [(2, a0), (2, a1), (0, a2), (0, a3)] μ (FJ0_getBytes_840e7 a0 a1 a2 a3 μ) := Con_intro KJ0_getBytes_840e7 (plainFor_of_name (by decide)) rfl (fun h => by cases h) (by decide) rfl (Nat.le_of_ble_eq_true rfl) (fun Γ => VBJ0_getBytes_840e7_0 _ _ _ _ _)
abbrev KJ5_inflateIfNeededFor_a7421 : Kap := (RJ5, cJ5_inflateIfNeededFor_a7421, 2, 5, 9, none, false, [])
theorem VBJ5_inflateIfNeededFor_a7421_21 {Γ : Gam} (μ : Mem) : V Γ KJ5_inflateIfNeededFor_a7421 21 [] [] μ (BJ5_inflateIfNeededFor_a7421_21 μ) := by
  unfold BJ5_inflateIfNeededFor_a7421_21
  exact V_vreturn (κ := KJ5_inflateIfNeededFor_a7421) (pc := 21) rfl rfl dJ5_inflateIfNeededFor_a7421_21
theorem VBJ5_inflateIfNeededFor_a7421_0 {Γ : Gam} (x0 x1 : Int) (μ : Mem) : V Γ KJ5_inflateIfNeededFor_a7421 0 [(0, (2, x0)), (1, (2, x1))] [] μ (BJ5_inflateIfNeededFor_a7421_0 x0 x1 μ) := by
  unfold BJ5_inflateIfNeededFor_a7421_0
  refine V_getCompact (κ := KJ5_inflateIfNeededFor_a7421) (pc := 0) wd_981 dJ5_inflateIfNeededFor_a7421_0 ?_
  refine V_if_eq (κ := KJ5_inflateIfNeededFor_a7421) (pc := 3) (tgt := 21) dJ5_inflateIfNeededFor_a7421_3 rfl ?_ ?_
  · refine V_sub (lv' := []) [] rfl ?_
    exact VBJ5_inflateIfNeededFor_a7421_21 _
  refine V_aload_n (κ := KJ5_inflateIfNeededFor_a7421) (pc := 6) dJ5_inflateIfNeededFor_a7421_6 0 rfl rfl ?_
  refine V_getf 10 (κ := KJ5_inflateIfNeededFor_a7421) (pc := 7) rfl (by decide) rfl inJ4 1 (by decide) wd_990 rfl (t := 0) rfl dJ5_inflateIfNeededFor_a7421_7 fun t101 => ?_
  refine V_aload_n (κ := KJ5_inflateIfNeededFor_a7421) (pc := 10) dJ5_inflateIfNeededFor_a7421_10 1 rfl rfl ?_
  refine V_callV (ci := 9) (T := TJ0) (N := 4) rfl (by decide) (κ := KJ5_inflateIfNeededFor_a7421) (pc := 11) (con_J0_coder_7d493 _ _) mth_J0_coder_7d493 rfl ⟨wd_721, wd_722⟩ wd_1011 (st0 := [(0, t101)]) rfl rfl (by decide) (Nat.le_of_ble_eq_true rfl) dJ5_inflateIfNeededFor_a7421_11 (fun _ _ _ h => VX_out rfl (by decide) h) fun t102 u103 => ?_
  refine V_icmp_eq (κ := KJ5_inflateIfNeededFor_a7421) (pc := 14) (tgt := 21) dJ5_inflateIfNeededFor_a7421_14 rfl ?_ ?_
  · refine V_sub (lv' := []) [] rfl ?_
    exact VBJ5_inflateIfNeededFor_a7421_21 _
  refine V_aload_n (κ := KJ5_inflateIfNeededFor_a7421) (pc := 17) dJ5_inflateIfNeededFor_a7421_17 0 rfl rfl ?_
  exact V_none
theorem con_J5_inflateIfNeededFor_a7421 (a0 a1 : Int) (μ : Mem) : Con (5) yJ5_inflateIfNeededFor_a7421 (.code yJ5_inflateIfNeededFor_a7421 cJ5_inflateIfNeededFor_a7421 2 none) 9 [(2, a0), (2, a1)] μ (FJ5_inflateIfNeededFor_a7421 a0 a1 μ) := Con_intro KJ5_inflateIfNeededFor_a7421 (plainFor_of_name (by decide)) rfl (fun h => by cases h) (by decide) rfl (Nat.le_of_ble_eq_true rfl) (fun Γ => VBJ5_inflateIfNeededFor_a7421_0 _ _ _)
abbrev KJ5_putStringAt_47b60 : Kap := (RJ5, cJ5_putStringAt_47b60, 3, 6, 9, none, false, [])
theorem VBJ5_putStringAt_47b60_0 {Γ : Gam} (x0 x1 x2 : Int) (μ : Mem) : V Γ KJ5_putStringAt_47b60 0 [(0, (2, x0)), (1, (0, x1)), (2, (2, x2))] [] μ (BJ5_putStringAt_47b60_0 x0 x1 x2 μ) := by
  unfold BJ5_putStringAt_47b60_0
  refine V_aload_n (κ := KJ5_putStringAt_47b60) (pc := 0) dJ5_putStringAt_47b60_0 0 rfl rfl ?_
  refine V_aload_n (κ := KJ5_putStringAt_47b60) (pc := 1) dJ5_putStringAt_47b60_1 2 rfl rfl ?_
  refine V_callU (ci := 10) (T := TJ4) (N := 4) rfl (by decide) (κ := KJ5_putStringAt_47b60) (pc := 2) (con_J5_inflateIfNeededFor_a7421 _ _ _) mth_J5_inflateIfNeededFor_a7421 ⟨wd_1071, ws_3⟩ wd_1219 wd_1069 (st0 := []) rfl rfl (by decide) (Nat.le_of_ble_eq_true rfl) dJ5_putStringAt_47b60_2 (fun _ _ _ h => VX_out rfl (by decide) h) fun _ u102 => ?_
  refine V_aload_n (κ := KJ5_putStringAt_47b60) (pc := 5) dJ5_putStringAt_47b60_5 2 rfl rfl ?_
  refine V_aload_n (κ := KJ5_putStringAt_47b60) (pc := 6) dJ5_putStringAt_47b60_6 0 rfl rfl ?_
  refine V_getf 10 (κ := KJ5_putStringAt_47b60) (pc := 7) rfl (by decide) rfl inJ4 0 (by decide) wd_989 rfl (t := 2) rfl dJ5_putStringAt_47b60_7 fun t103 => ?_
  refine V_iload_n (κ := KJ5_putStringAt_47b60) (pc := 10) dJ5_putStringAt_47b60_10 1 rfl ?_
  refine V_aload_n (κ := KJ5_putStringAt_47b60) (pc := 11) dJ5_putStringAt_47b60_11 0 rfl rfl ?_
  refine V_getf 10 (κ := KJ5_putStringAt_47b60) (pc := 12) rfl (by decide) rfl inJ4 1 (by decide) wd_990 rfl (t := 0) rfl dJ5_putStringAt_47b60_12 fun t104 => ?_
  refine V_callV (ci := 9) (T := TJ0) (N := 4) rfl (by decide) (κ := KJ5_putStringAt_47b60) (pc := 15) (con_J0_getBytes_840e7 _ _ _ _ _) mth_J0_getBytes_840e7 rfl ⟨wd_1093, wd_1094⟩ wd_1092 (st0 := []) rfl rfl (by decide) (Nat.le_of_ble_eq_true rfl) dJ5_putStringAt_47b60_15 (fun _ _ _ h => VX_out rfl (by decide) h) fun _ u106 => ?_
  exact V_vreturn (κ := KJ5_putStringAt_47b60) (pc := 18) rfl rfl dJ5_putStringAt_47b60_18
theorem con_J5_putStringAt_47b60 (a0 a1 a2 : Int) (μ : Mem) : Con (6) yJ5_putStringAt_47b60 (.code yJ5_putStringAt_47b60 cJ5_putStringAt_47b60 3 none) 9 [(2, a0), (0, a1), (2, a2)] μ (FJ5_putStringAt_47b60 a0 a1 a2 μ) := Con_intro KJ5_putStringAt_47b60 (plainFor_of_name (by decide)) rfl (fun h => by cases h) (by decide) rfl (Nat.le_of_ble_eq_true rfl) (fun Γ => VBJ5_putStringAt_47b60_0 _ _ _ _)
abbrev KJ5_append_cf1ce : Kap := (RJ5, cJ5_append_cf1ce, 3, 8, 2, (some (.object "java/lang/AbstractStringBuilder")), false, [])
theorem VBJ5_append_cf1ce_0 {Γ : Gam} (x0 x1 : Int) (μ : Mem) : V Γ KJ5_append_cf1ce 0 [(0, (2, x0)), (1, (2, x1))] [] μ (BJ5_append_cf1ce_0 x0 x1 μ) := by
  unfold BJ5_append_cf1ce_0
  refine V_aload_n (κ := KJ5_append_cf1ce) (pc := 0) dJ5_append_cf1ce_0 1 rfl rfl ?_
  refine V_ifnonnull (κ := KJ5_append_cf1ce) (pc := 1) (tgt := 9) dJ5_append_cf1ce_1 rfl ?_ ?_
  · refine V_aload_n (κ := KJ5_append_cf1ce) (pc := 9) dJ5_append_cf1ce_9 1 rfl rfl ?_
    refine V_callV (ci := 9) (T := TJ0) (N := 4) rfl (by decide) (κ := KJ5_append_cf1ce) (pc := 10) (con_J0_length_8abf5 _ _) mth_J0_length_8abf5 rfl ⟨wd_717, wd_718⟩ wd_1008 (st0 := []) rfl rfl (by decide) (Nat.le_of_ble_eq_true rfl) dJ5_append_cf1ce_10 (fun _ _ _ h => VX_out rfl (by decide) h) fun t101 u102 => ?_
    refine V_istore_n (κ := KJ5_append_cf1ce) (pc := 13) (lv' := [(2, (0, t101)), (0, (2, x0)), (1, (2, x1))]) dJ5_append_cf1ce_13 (by decide) rfl ?_
    refine V_aload_n (κ := KJ5_append_cf1ce) (pc := 14) dJ5_append_cf1ce_14 1 rfl rfl ?_
    refine V_aload_n (κ := KJ5_append_cf1ce) (pc := 15) dJ5_append_cf1ce_15 1 rfl rfl ?_
    refine V_getf 10 (κ := KJ5_append_cf1ce) (pc := 16) rfl (by decide) rfl inJ4 3 (by decide) wd_992 rfl (t := 0) rfl dJ5_append_cf1ce_16 fun t103 => ?_
    refine V_iload_n (κ := KJ5_append_cf1ce) (pc := 19) dJ5_append_cf1ce_19 0 rfl ?_
    refine V_iadd (κ := KJ5_append_cf1ce) (pc := 20) dJ5_append_cf1ce_20 ?_
    refine V_callU (ci := 10) (T := TJ4) (N := 4) rfl (by decide) (κ := KJ5_append_cf1ce) (pc := 21) (con_J5_ensureCapacityInternal_d00df _ _ _) mth_J5_ensureCapacityInternal_d00df ⟨wd_1030, ws_0⟩ wd_1216 wd_1028 (st0 := []) rfl rfl (by decide) (Nat.le_of_ble_eq_true rfl) dJ5_append_cf1ce_21 (fun _ _ _ h => VX_out rfl (by decide) h) fun _ u105 => ?_
    refine V_aload_n (κ := KJ5_append_cf1ce) (pc := 24) dJ5_append_cf1ce_24 1 rfl rfl ?_
    refine V_aload_n (κ := KJ5_append_cf1ce) (pc := 25) dJ5_append_cf1ce_25 1 rfl rfl ?_
    refine V_getf 10 (κ := KJ5_append_cf1ce) (pc := 26) rfl (by decide) rfl inJ4 3 (by decide) wd_992 rfl (t := 0) rfl dJ5_append_cf1ce_26 fun t106 => ?_
    refine V_aload_n (κ := KJ5_append_cf1ce) (pc := 29) dJ5_append_cf1ce_29 2 rfl rfl ?_
    refine V_callU (ci := 10) (T := TJ4) (N := 4) rfl (by decide) (κ := KJ5_append_cf1ce) (pc := 30) (con_J5_putStringAt_47b60 _ _ _ _) mth_J5_putStringAt_47b60 ⟨wd_1067, ws_2⟩ wd_1218 wd_1065 (st0 := []) rfl rfl (by decide) (Nat.le_of_ble_eq_true rfl) dJ5_append_cf1ce_30 (fun _ _ _ h => VX_out rfl (by decide) h) fun _ u108 => ?_
    refine V_aload_n (κ := KJ5_append_cf1ce) (pc := 33) dJ5_append_cf1ce_33 1 rfl rfl ?_
    refine V_dup (κ := KJ5_append_cf1ce) (pc := 34) rfl dJ5_append_cf1ce_34 ?_
    refine V_getf 10 (κ := KJ5_append_cf1ce) (pc := 35) rfl (by decide) rfl inJ4 3 (by decide) wd_992 rfl (t := 0) rfl dJ5_append_cf1ce_35 fun t109 => ?_
    refine V_iload_n (κ := KJ5_append_cf1ce) (pc := 38) dJ5_append_cf1ce_38 0 rfl ?_
    refine V_iadd (κ := KJ5_append_cf1ce) (pc := 39) dJ5_append_cf1ce_39 ?_
    refine V_putf 10 (κ := KJ5_append_cf1ce) (pc := 40) rfl (by decide) rfl inJ4 tyJ4 tyJ4_ok nmJ4 3 (by decide) wd_992 rfl rfl (t := 0) rfl rfl dJ5_append_cf1ce_40 fun u110 => ?_
    refine V_aload_n (κ := KJ5_append_cf1ce) (pc := 43) dJ5_append_cf1ce_43 1 rfl rfl ?_
    exact V_areturn (κ := KJ5_append_cf1ce) (pc := 44) rfl rfl (by first | exact Or.inl ⟨_, rfl⟩ | exact Or.inr ⟨_, rfl⟩) dJ5_append_cf1ce_44
  refine V_aload_n (κ := KJ5_append_cf1ce) (pc := 4) dJ5_append_cf1ce_4 0 rfl rfl ?_
  exact V_none
theorem con_J5_append_cf1ce (a0 a1 : Int) (μ : Mem) : Con (8) yJ5_append_cf1ce (.code yJ5_append_cf1ce cJ5_append_cf1ce 3 (some (.object "java/lang/AbstractStringBuilder"))) 2 [(2, a0), (2, a1)] μ (FJ5_append_cf1ce a0 a1 μ) := Con_intro KJ5_append_cf1ce (plainFor_of_name (by decide)) rfl (fun h => by cases h) (by decide) rfl (Nat.le_of_ble_eq_true rfl) (fun Γ => VBJ5_append_cf1ce_0 _ _ _)
abbrev KJ4_append_15ec4 : Kap := (RJ4, cJ4_append_15ec4, 2, 9, 2, (some (.object "java/lang/StringBuilder")), false, [])
theorem VBJ4_append_15ec4_0 {Γ : Gam} (x0 x1 : Int) (μ : Mem) : V Γ KJ4_append_15ec4 0 [(0, (2, x0)), (1, (2, x1))] [] μ (BJ4_append_15ec4_0 x0 x1 μ) := by
  unfold BJ4_append_15ec4_0
  refine V_aload_n (κ := KJ4_append_15ec4) (pc := 0) dJ4_append_15ec4_0 0 rfl rfl ?_
  refine V_aload_n (κ := KJ4_append_15ec4) (pc := 1) dJ4_append_15ec4_1 1 rfl rfl ?_
  refine V_callP (ci := 10) (T := TJ4) (N := 4) rfl (by decide) (κ := KJ4_append_15ec4) (pc := 2) (con_J5_append_cf1ce _ _ _) mth_J5_append_cf1ce wd_1013 wd_1014 wd_1001 (by decide) wd_1022 (st0 := []) rfl rfl (by decide) (Nat.le_of_ble_eq_true rfl) dJ4_append_15ec4_2 (fun _ _ _ h => VX_out rfl (by decide) h) fun t101 u102 => ?_
  refine V_pop (κ := KJ4_append_15ec4) (pc := 5) rfl dJ4_append_15ec4_5 ?_
  refine V_aload_n (κ := KJ4_append_15ec4) (pc := 6) dJ4_append_15ec4_6 0 rfl rfl ?_
  exact V_areturn (κ := KJ4_append_15ec4) (pc := 7) rfl rfl (by first | exact Or.inl ⟨_, rfl⟩ | exact Or.inr ⟨_, rfl⟩) dJ4_append_15ec4_7
theorem con_J4_append_15ec4 (a0 a1 : Int) (μ : Mem) : Con (9) yJ4_append_15ec4 (.code yJ4_append_15ec4 cJ4_append_15ec4 2 (some (.object "java/lang/StringBuilder"))) 2 [(2, a0), (2, a1)] μ (FJ4_append_15ec4 a0 a1 μ) := Con_intro KJ4_append_15ec4 (plainFor_of_name (by decide)) rfl (fun h => by cases h) (by decide) rfl (Nat.le_of_ble_eq_true rfl) (fun Γ => VBJ4_append_15ec4_0 _ _ _)
abbrev KJ5_isLatin1_aae02 : Kap := (RJ5, cJ5_isLatin1_aae02, 1, 4, 0, (some .boolean), false, [])
theorem VBJ5_isLatin1_aae02_18 {Γ : Gam} (s0 : Int) (μ : Mem) : V Γ KJ5_isLatin1_aae02 18 [] [(0, s0)] μ (BJ5_isLatin1_aae02_18 s0 μ) := by
  unfold BJ5_isLatin1_aae02_18
  exact V_zreturn (κ := KJ5_isLatin1_aae02) (pc := 18) rfl rfl dJ5_isLatin1_aae02_18
theorem VBJ5_isLatin1_aae02_17 {Γ : Gam} (μ : Mem) : V Γ KJ5_isLatin1_aae02 17 [] [] μ (BJ5_isLatin1_aae02_17 μ) := by
  unfold BJ5_isLatin1_aae02_17
  refine V_iconst (κ := KJ5_isLatin1_aae02) (pc := 17) dJ5_isLatin1_aae02_17 ⟨by decide, by decide⟩ ?_
  exact VBJ5_isLatin1_aae02_18 _ _
theorem VBJ5_isLatin1_aae02_0 {Γ : Gam} (x0 : Int) (μ : Mem) : V Γ KJ5_isLatin1_aae02 0 [(0, (2, x0))] [] μ (BJ5_isLatin1_aae02_0 x0 μ) := by
  unfold BJ5_isLatin1_aae02_0
  refine V_getCompact (κ := KJ5_isLatin1_aae02) (pc := 0) wd_981 dJ5_isLatin1_aae02_0 ?_
  refine V_if_eq (κ := KJ5_isLatin1_aae02) (pc := 3) (tgt := 17) dJ5_isLatin1_aae02_3 rfl ?_ ?_
  · refine V_sub (lv' := []) [] rfl ?_
    exact VBJ5_isLatin1_aae02_17 _
  refine V_aload_n (κ := KJ5_isLatin1_aae02) (pc := 6) dJ5_isLatin1_aae02_6 0 rfl rfl ?_
  refine V_getf 10 (κ := KJ5_isLatin1_aae02) (pc := 7) rfl (by decide) rfl inJ4 1 (by decide) wd_990 rfl (t := 0) rfl dJ5_isLatin1_aae02_7 fun t101 => ?_
  refine V_if_ne (κ := KJ5_isLatin1_aae02) (pc := 10) (tgt := 17) dJ5_isLatin1_aae02_10 rfl ?_ ?_
  · refine V_sub (lv' := []) [] rfl ?_
    exact VBJ5_isLatin1_aae02_17 _
  refine V_iconst (κ := KJ5_isLatin1_aae02) (pc := 13) dJ5_isLatin1_aae02_13 ⟨by decide, by decide⟩ ?_
  refine V_goto (κ := KJ5_isLatin1_aae02) (pc := 14) (tgt := 18) dJ5_isLatin1_aae02_14 rfl ?_
  refine V_sub (lv' := []) [] rfl ?_
  exact VBJ5_isLatin1_aae02_18 _ _
theorem con_J5_isLatin1_aae02 (a0 : Int) (μ : Mem) : Con (4) yJ5_isLatin1_aae02 (.code yJ5_isLatin1_aae02 cJ5_isLatin1_aae02 1 (some .boolean)) 0 [(2, a0)] μ (FJ5_isLatin1_aae02 a0 μ) := Con_intro KJ5_isLatin1_aae02 (plainFor_of_name (by decide)) rfl (fun h => by cases h) (by decide) rfl (Nat.le_of_ble_eq_true rfl) (fun Γ => VBJ5_isLatin1_aae02_0 _ _)
abbrev KJ6_getChars_ba4f3 : Kap := (RJ6, cJ6_getChars_ba4f3, 7, 4, 0, (some .int), false, [])
theorem VBJ6_getChars_ba4f3_118 {Γ : Gam} (x5 : Int) (μ : Mem) : V Γ KJ6_getChars_ba4f3 118 [(5, (0, x5))] [] μ (BJ6_getChars_ba4f3_118 x5 μ) := by
  unfold BJ6_getChars_ba4f3_118
  refine V_iload (κ := KJ6_getChars_ba4f3) (pc := 118) dJ6_getChars_ba4f3_118 0 rfl ?_
  exact V_ireturn (κ := KJ6_getChars_ba4f3) (pc := 120) rfl rfl dJ6_getChars_ba4f3_120
theorem VBJ6_getChars_ba4f3_104 {Γ : Gam} (x2 x5 x6 : Int) (μ : Mem) : V Γ KJ6_getChars_ba4f3 104 [(2, (2, x2)), (5, (0, x5)), (6, (0, x6))] [] μ (BJ6_getChars_ba4f3_104 x2 x5 x6 μ) := by
  unfold BJ6_getChars_ba4f3_104
  refine V_iload (κ := KJ6_getChars_ba4f3) (pc := 104) dJ6_getChars_ba4f3_104 2 rfl ?_
  refine V_if_eq (κ := KJ6_getChars_ba4f3) (pc := 106) (tgt := 118) dJ6_getChars_ba4f3_106 rfl ?_ ?_
  · refine V_sub (lv' := [(5, (0, x5))]) [1] rfl ?_
    exact VBJ6_getChars_ba4f3_118 _ _
  refine V_aload_n (κ := KJ6_getChars_ba4f3) (pc := 109) dJ6_getChars_ba4f3_109 0 rfl rfl ?_
  refine V_iinc (κ := KJ6_getChars_ba4f3) (pc := 110) (lv' := [(5, (0, w32 (x5 + (-1)))), (2, (2, x2)), (6, (0, x6))]) dJ6_getChars_ba4f3_110 1 rfl (by decide) rfl ?_
  refine V_iload (κ := KJ6_getChars_ba4f3) (pc := 113) dJ6_getChars_ba4f3_113 0 rfl ?_
  refine V_bipush (κ := KJ6_getChars_ba4f3) (pc := 115) dJ6_getChars_ba4f3_115 ⟨by decide, by decide⟩ (by decide) ?_
  refine V_bastore (κ := KJ6_getChars_ba4f3) (pc := 117) dJ6_getChars_ba4f3_117 fun u101 => ?_
  refine V_sub (lv' := [(5, (0, w32 (x5 + (-1))))]) [0] rfl ?_
  exact VBJ6_getChars_ba4f3_118 _ _
theorem VBJ6_getChars_ba4f3_22 {Γ : Gam} {k22 : Int → Int → Int → Int → Mem → Rz} (hk22 : ∀ (y0 y2 y5 y6 : Int) (ν : Mem), V Γ KJ6_getChars_ba4f3 22 [(0, (0, y0)), (2, (2, y2)), (5, (0, y5)), (6, (0, y6))] [] ν (k22 y0 y2 y5 y6 ν)) (x0 x2 x5 x6 : Int) (μ : Mem) : V Γ KJ6_getChars_ba4f3 22 [(0, (0, x0)), (2, (2, x2)), (5, (0, x5)), (6, (0, x6))] [] μ (BJ6_getChars_ba4f3_22 k22 x0 x2 x5 x6 μ) := by
  unfold BJ6_getChars_ba4f3_22
  refine V_iload_n (κ := KJ6_getChars_ba4f3) (pc := 22) dJ6_getChars_ba4f3_22 0 rfl ?_
  refine V_bipush (κ := KJ6_getChars_ba4f3) (pc := 23) dJ6_getChars_ba4f3_23 ⟨by decide, by decide⟩ (by decide) ?_
  refine V_icmp_gt (κ := KJ6_getChars_ba4f3) (pc := 25) (tgt := 72) dJ6_getChars_ba4f3_25 rfl ?_ ?_
  · refine V_aload_n (κ := KJ6_getChars_ba4f3) (pc := 72) dJ6_getChars_ba4f3_72 1 rfl rfl ?_
    refine V_iinc (κ := KJ6_getChars_ba4f3) (pc := 73) (lv' := [(5, (0, w32 (x5 + (-1)))), (0, (0, x0)), (2, (2, x2)), (6, (0, x6))]) dJ6_getChars_ba4f3_73 2 rfl (by decide) rfl ?_
    refine V_iload (κ := KJ6_getChars_ba4f3) (pc := 76) dJ6_getChars_ba4f3_76 0 rfl ?_
    refine V_getDigits (κ := KJ6_getChars_ba4f3) (pc := 78) wd_1125 dJ6_getChars_ba4f3_78 ?_
    refine V_iload_n (κ := KJ6_getChars_ba4f3) (pc := 81) dJ6_getChars_ba4f3_81 1 rfl ?_
    refine V_ineg (κ := KJ6_getChars_ba4f3) (pc := 82) dJ6_getChars_ba4f3_82 ?_
    refine V_baload (κ := KJ6_getChars_ba4f3) (pc := 83) dJ6_getChars_ba4f3_83 fun t101 => ?_
    refine V_bastore (κ := KJ6_getChars_ba4f3) (pc := 84) dJ6_getChars_ba4f3_84 fun u102 => ?_
    refine V_iload_n (κ := KJ6_getChars_ba4f3) (pc := 85) dJ6_getChars_ba4f3_85 1 rfl ?_
    refine V_bipush (κ := KJ6_getChars_ba4f3) (pc := 86) dJ6_getChars_ba4f3_86 ⟨by decide, by decide⟩ (by decide) ?_
    refine V_icmp_ge (κ := KJ6_getChars_ba4f3) (pc := 88) (tgt := 104) dJ6_getChars_ba4f3_88 rfl ?_ ?_
    · refine V_sub (lv' := [(2, (2, x2)), (5, (0, w32 (x5 + (-1)))), (6, (0, x6))]) [2, 0, 3] rfl ?_
      exact VBJ6_getChars_ba4f3_104 _ _ _ _
    refine V_aload_n (κ := KJ6_getChars_ba4f3) (pc := 91) dJ6_getChars_ba4f3_91 2 rfl rfl ?_
    refine V_iinc (κ := KJ6_getChars_ba4f3) (pc := 92) (lv' := [(5, (0, w32 (w32 (x5 + (-1)) + (-1)))), (0, (0, x0)), (2, (2, x2)), (6, (0, x6))]) dJ6_getChars_ba4f3_92 0 rfl (by decide) rfl ?_
    refine V_iload (κ := KJ6_getChars_ba4f3) (pc := 95) dJ6_getChars_ba4f3_95 0 rfl ?_
    exact V_none
  refine V_iload_n (κ := KJ6_getChars_ba4f3) (pc := 28) dJ6_getChars_ba4f3_28 0 rfl ?_
  refine V_bipush (κ := KJ6_getChars_ba4f3) (pc := 29) dJ6_getChars_ba4f3_29 ⟨by decide, by decide⟩ (by decide) ?_
  refine V_idiv (κ := KJ6_getChars_ba4f3) (pc := 31) dJ6_getChars_ba4f3_31 fun t103 => ?_
  refine V_istore_n (κ := KJ6_getChars_ba4f3) (pc := 32) (lv' := [(3, (0, t103)), (0, (0, x0)), (2, (2, x2)), (5, (0, x5)), (6, (0, x6))]) dJ6_getChars_ba4f3_32 (by decide) rfl ?_
  refine V_iload_n (κ := KJ6_getChars_ba4f3) (pc := 33) dJ6_getChars_ba4f3_33 0 rfl ?_
  refine V_bipush (κ := KJ6_getChars_ba4f3) (pc := 34) dJ6_getChars_ba4f3_34 ⟨by decide, by decide⟩ (by decide) ?_
  refine V_imul (κ := KJ6_getChars_ba4f3) (pc := 36) dJ6_getChars_ba4f3_36 ?_
  refine V_iload_n (κ := KJ6_getChars_ba4f3) (pc := 37) dJ6_getChars_ba4f3_37 1 rfl ?_
  refine V_isub (κ := KJ6_getChars_ba4f3) (pc := 38) dJ6_getChars_ba4f3_38 ?_
  refine V_LT fun x104 => ?_
  refine V_istore (κ := KJ6_getChars_ba4f3) (pc := 39) (lv' := [(4, (0, x104)), (3, (0, t103)), (0, (0, x0)), (2, (2, x2)), (5, (0, x5)), (6, (0, x6))]) dJ6_getChars_ba4f3_39 (by decide) rfl ?_
  refine V_iload_n (κ := KJ6_getChars_ba4f3) (pc := 41) dJ6_getChars_ba4f3_41 1 rfl ?_
  refine V_istore_n (κ := KJ6_getChars_ba4f3) (pc := 42) (lv' := [(0, (0, t103)), (4, (0, x104)), (3, (0, t103)), (2, (2, x2)), (5, (0, x5)), (6, (0, x6))]) dJ6_getChars_ba4f3_42 (by decide) rfl ?_
  refine V_aload_n (κ := KJ6_getChars_ba4f3) (pc := 43) dJ6_getChars_ba4f3_43 3 rfl rfl ?_
  refine V_iinc (κ := KJ6_getChars_ba4f3) (pc := 44) (lv' := [(5, (0, w32 (x5 + (-1)))), (0, (0, t103)), (4, (0, x104)), (3, (0, t103)), (2, (2, x2)), (6, (0, x6))]) dJ6_getChars_ba4f3_44 4 rfl (by decide) rfl ?_
  refine V_iload (κ := KJ6_getChars_ba4f3) (pc := 47) dJ6_getChars_ba4f3_47 0 rfl ?_
  refine V_getDigits (κ := KJ6_getChars_ba4f3) (pc := 49) wd_1125 dJ6_getChars_ba4f3_49 ?_
  refine V_iload (κ := KJ6_getChars_ba4f3) (pc := 52) dJ6_getChars_ba4f3_52 2 rfl ?_
  refine V_baload (κ := KJ6_getChars_ba4f3) (pc := 54) dJ6_getChars_ba4f3_54 fun t105 => ?_
  refine V_bastore (κ := KJ6_getChars_ba4f3) (pc := 55) dJ6_getChars_ba4f3_55 fun u106 => ?_
  refine V_aload_n (κ := KJ6_getChars_ba4f3) (pc := 56) dJ6_getChars_ba4f3_56 4 rfl rfl ?_
  refine V_iinc (κ := KJ6_getChars_ba4f3) (pc := 57) (lv' := [(5, (0, w32 (w32 (x5 + (-1)) + (-1)))), (0, (0, t103)), (4, (0, x104)), (3, (0, t103)), (2, (2, x2)), (6, (0, x6))]) dJ6_getChars_ba4f3_57 0 rfl (by decide) rfl ?_
  refine V_iload (κ := KJ6_getChars_ba4f3) (pc := 60) dJ6_getChars_ba4f3_60 0 rfl ?_
  exact V_none
theorem VLJ6_getChars_ba4f3_22 {Γ : Gam} : ∀ (n : Nat) (x0 x2 x5 x6 : Int) (μ : Mem), V Γ KJ6_getChars_ba4f3 22 [(0, (0, x0)), (2, (2, x2)), (5, (0, x5)), (6, (0, x6))] [] μ (LJ6_getChars_ba4f3_22 n x0 x2 x5 x6 μ)
  | 0, _, _, _, _, _ => V_none
  | n + 1, x0, x2, x5, x6, μ => VBJ6_getChars_ba4f3_22 (fun y0 y2 y5 y6 ν => VLJ6_getChars_ba4f3_22 n y0 y2 y5 y6 ν) x0 x2 x5 x6 μ
theorem VBJ6_getChars_ba4f3_12 {Γ : Gam} (x0 x2 x5 s0 : Int) (μ : Mem) : V Γ KJ6_getChars_ba4f3 12 [(0, (0, x0)), (2, (2, x2)), (5, (0, x5))] [(0, s0)] μ (BJ6_getChars_ba4f3_12 x0 x2 x5 s0 μ) := by
  unfold BJ6_getChars_ba4f3_12
  refine V_istore (κ := KJ6_getChars_ba4f3) (pc := 12) (lv' := [(6, (0, s0)), (0, (0, x0)), (2, (2, x2)), (5, (0, x5))]) dJ6_getChars_ba4f3_12 (by decide) rfl ?_
  refine V_iload (κ := KJ6_getChars_ba4f3) (pc := 14) dJ6_getChars_ba4f3_14 0 rfl ?_
  refine V_if_ne (κ := KJ6_getChars_ba4f3) (pc := 16) (tgt := 22) dJ6_getChars_ba4f3_16 rfl ?_ ?_
  · refine V_sub (lv' := [(0, (0, x0)), (2, (2, x2)), (5, (0, x5)), (6, (0, s0))]) [1, 2, 3, 0] rfl ?_
    exact VLJ6_getChars_ba4f3_22 FU _ _ _ _ _
  refine V_iload_n (κ := KJ6_getChars_ba4f3) (pc := 19) dJ6_getChars_ba4f3_19 1 rfl ?_
  refine V_ineg (κ := KJ6_getChars_ba4f3) (pc := 20) dJ6_getChars_ba4f3_20 ?_
  refine V_LT fun x101 => ?_
  refine V_istore_n (κ := KJ6_getChars_ba4f3) (pc := 21) (lv' := [(0, (0, x101)), (6, (0, s0)), (2, (2, x2)), (5, (0, x5))]) dJ6_getChars_ba4f3_21 (by decide) rfl ?_
  refine V_sub (lv' := [(0, (0, x101)), (2, (2, x2)), (5, (0, x5)), (6, (0, s0))]) [0, 2, 3, 1] rfl ?_
  exact VLJ6_getChars_ba4f3_22 FU _ _ _ _ _
theorem VBJ6_getChars_ba4f3_0 {Γ : Gam} (x0 x1 x2 : Int) (μ : Mem) : V Γ KJ6_getChars_ba4f3 0 [(0, (0, x0)), (1, (0, x1)), (2, (2, x2))] [] μ (BJ6_getChars_ba4f3_0 x0 x1 x2 μ) := by
  unfold BJ6_getChars_ba4f3_0
  refine V_iload_n (κ := KJ6_getChars_ba4f3) (pc := 0) dJ6_getChars_ba4f3_0 1 rfl ?_
  refine V_istore (κ := KJ6_getChars_ba4f3) (pc := 1) (lv' := [(5, (0, x1)), (0, (0, x0)), (1, (0, x1)), (2, (2, x2))]) dJ6_getChars_ba4f3_1 (by decide) rfl ?_
  refine V_iload_n (κ := KJ6_getChars_ba4f3) (pc := 3) dJ6_getChars_ba4f3_3 1 rfl ?_
  refine V_if_ge (κ := KJ6_getChars_ba4f3) (pc := 4) (tgt := 11) dJ6_getChars_ba4f3_4 rfl ?_ ?_
  · refine V_iconst (κ := KJ6_getChars_ba4f3) (pc := 11) dJ6_getChars_ba4f3_11 ⟨by decide, by decide⟩ ?_
    refine V_sub (lv' := [(0, (0, x0)), (2, (2, x2)), (5, (0, x1))]) [1, 3, 0] rfl ?_
    exact VBJ6_getChars_ba4f3_12 _ _ _ _ _
  refine V_iconst (κ := KJ6_getChars_ba4f3) (pc := 7) dJ6_getChars_ba4f3_7 ⟨by decide, by decide⟩ ?_
  refine V_goto (κ := KJ6_getChars_ba4f3) (pc := 8) (tgt := 12) dJ6_getChars_ba4f3_8 rfl ?_
  refine V_sub (lv' := [(0, (0, x0)), (2, (2, x2)), (5, (0, x1))]) [1, 3, 0] rfl ?_
  exact VBJ6_getChars_ba4f3_12 _ _ _ _ _
theorem con_J6_getChars_ba4f3 (a0 a1 a2 : Int) (μ : Mem) : Con (4) yJ6_getChars_ba4f3 (.code yJ6_getChars_ba4f3 cJ6_getChars_ba4f3 7 (some .int)) 0 [(0, a0), (0, a1), (2, a2)] μ (FJ6_getChars_ba4f3 a0 a1 a2 μ) := Con_intro KJ6_getChars_ba4f3 (plainFor_of_name (by decide)) rfl (fun h => by cases h) (by decide) rfl (Nat.le_of_ble_eq_true rfl) (fun Γ => VBJ6_getChars_ba4f3_0 _ _ _ _)
abbrev KJ6_stringSize_0f7a4 : Kap := (RJ6, cJ6_stringSize_0f7a4, 4, 4, 0, (some .int), false, [])
theorem VBJ6_stringSize_0f7a4_16 {Γ : Gam} {k16 : Int → Int → Int → Int → Mem → Rz} (hk16 : ∀ (y0 y1 y2 y3 : Int) (ν : Mem), V Γ KJ6_stringSize_0f7a4 16 [(0, (0, y0)), (1, (0, y1)), (2, (0, y2)), (3, (0, y3))] [] ν (k16 y0 y1 y2 y3 ν)) (x0 x1 x2 x3 : Int) (μ : Mem) : V Γ KJ6_stringSize_0f7a4 16 [(0, (0, x0)), (1, (0, x1)), (2, (0, x2)), (3, (0, x3))] [] μ (BJ6_stringSize_0f7a4_16 k16 x0 x1 x2 x3 μ) := by
  unfold BJ6_stringSize_0f7a4_16
  refine V_iload_n (κ := KJ6_stringSize_0f7a4) (pc := 16) dJ6_stringSize_0f7a4_16 3 rfl ?_
  refine V_bipush (κ := KJ6_stringSize_0f7a4) (pc := 17) dJ6_stringSize_0f7a4_17 ⟨by decide, by decide⟩ (by decide) ?_
  refine V_icmp_ge (κ := KJ6_stringSize_0f7a4) (pc := 19) (tgt := 42) dJ6_stringSize_0f7a4_19 rfl ?_ ?_
  · refine V_bipush (κ := KJ6_stringSize_0f7a4) (pc := 42) dJ6_stringSize_0f7a4_42 ⟨by decide, by decide⟩ (by decide) ?_
    refine V_iload_n (κ := KJ6_stringSize_0f7a4) (pc := 44) dJ6_stringSize_0f7a4_44 1 rfl ?_
    refine V_iadd (κ := KJ6_stringSize_0f7a4) (pc := 45) dJ6_stringSize_0f7a4_45 ?_
    exact V_ireturn (κ := KJ6_stringSize_0f7a4) (pc := 46) rfl rfl dJ6_stringSize_0f7a4_46
  refine V_iload_n (κ := KJ6_stringSize_0f7a4) (pc := 22) dJ6_stringSize_0f7a4_22 0 rfl ?_
  refine V_iload_n (κ := KJ6_stringSize_0f7a4) (pc := 23) dJ6_stringSize_0f7a4_23 2 rfl ?_
  refine V_icmp_le (κ := KJ6_stringSize_0f7a4) (pc := 24) (tgt := 31) dJ6_stringSize_0f7a4_24 rfl ?_ ?_
  · refine V_bipush (κ := KJ6_stringSize_0f7a4) (pc := 31) dJ6_stringSize_0f7a4_31 ⟨by decide, by decide⟩ (by decide) ?_
    refine V_iload_n (κ := KJ6_stringSize_0f7a4) (pc := 33) dJ6_stringSize_0f7a4_33 2 rfl ?_
    refine V_imul (κ := KJ6_stringSize_0f7a4) (pc := 34) dJ6_stringSize_0f7a4_34 ?_
    refine V_LT fun x101 => ?_
    refine V_istore_n (κ := KJ6_stringSize_0f7a4) (pc := 35) (lv' := [(2, (0, x101)), (0, (0, x0)), (1, (0, x1)), (3, (0, x3))]) dJ6_stringSize_0f7a4_35 (by decide) rfl ?_
    refine V_iinc (κ := KJ6_stringSize_0f7a4) (pc := 36) (lv' := [(3, (0, w32 (x3 + 1))), (2, (0, x101)), (0, (0, x0)), (1, (0, x1))]) dJ6_stringSize_0f7a4_36 3 rfl (by decide) rfl ?_
    refine V_goto (κ := KJ6_stringSize_0f7a4) (pc := 39) (tgt := 16) dJ6_stringSize_0f7a4_39 rfl ?_
    refine V_sub (lv' := [(0, (0, x0)), (1, (0, x1)), (2, (0, x101)), (3, (0, w32 (x3 + 1)))]) [2, 3, 1, 0] rfl ?_
    exact hk16 _ _ _ _ _
  refine V_iload_n (κ := KJ6_stringSize_0f7a4) (pc := 27) dJ6_stringSize_0f7a4_27 3 rfl ?_
  refine V_iload_n (κ := KJ6_stringSize_0f7a4) (pc := 28) dJ6_stringSize_0f7a4_28 1 rfl ?_
  refine V_iadd (κ := KJ6_stringSize_0f7a4) (pc := 29) dJ6_stringSize_0f7a4_29 ?_
  exact V_ireturn (κ := KJ6_stringSize_0f7a4) (pc := 30) rfl rfl dJ6_stringSize_0f7a4_30
theorem VLJ6_stringSize_0f7a4_16 {Γ : Gam} : ∀ (n : Nat) (x0 x1 x2 x3 : Int) (μ : Mem), V Γ KJ6_stringSize_0f7a4 16 [(0, (0, x0)), (1, (0, x1)), (2, (0, x2)), (3, (0, x3))] [] μ (LJ6_stringSize_0f7a4_16 n x0 x1 x2 x3 μ)
  | 0, _, _, _, _, _ => V_none
  | n + 1, x0, x1, x2, x3, μ => VBJ6_stringSize_0f7a4_16 (fun y0 y1 y2 y3 ν => VLJ6_stringSize_0f7a4_16 n y0 y1 y2 y3 ν) x0 x1 x2 x3 μ
theorem VBJ6_stringSize_0f7a4_11 {Γ : Gam} (x0 x1 : Int) (μ : Mem) : V Γ KJ6_stringSize_0f7a4 11 [(0, (0, x0)), (1, (0, x1))] [] μ (BJ6_stringSize_0f7a4_11 x0 x1 μ) := by
  unfold BJ6_stringSize_0f7a4_11
  refine V_bipush (κ := KJ6_stringSize_0f7a4) (pc := 11) dJ6_stringSize_0f7a4_11 ⟨by decide, by decide⟩ (by decide) ?_
  refine V_istore_n (κ := KJ6_stringSize_0f7a4) (pc := 13) (lv' := [(2, (0, (-10))), (0, (0, x0)), (1, (0, x1))]) dJ6_stringSize_0f7a4_13 (by decide) rfl ?_
  refine V_iconst (κ := KJ6_stringSize_0f7a4) (pc := 14) dJ6_stringSize_0f7a4_14 ⟨by decide, by decide⟩ ?_
  refine V_istore_n (κ := KJ6_stringSize_0f7a4) (pc := 15) (lv' := [(3, (0, 1)), (2, (0, (-10))), (0, (0, x0)), (1, (0, x1))]) dJ6_stringSize_0f7a4_15 (by decide) rfl ?_
  refine V_sub (lv' := [(0, (0, x0)), (1, (0, x1)), (2, (0, (-10))), (3, (0, 1))]) [2, 3, 1, 0] rfl ?_
  exact VLJ6_stringSize_0f7a4_16 FU _ _ _ _ _
theorem VBJ6_stringSize_0f7a4_0 {Γ : Gam} (x0 : Int) (μ : Mem) : V Γ KJ6_stringSize_0f7a4 0 [(0, (0, x0))] [] μ (BJ6_stringSize_0f7a4_0 x0 μ) := by
  unfold BJ6_stringSize_0f7a4_0
  refine V_iconst (κ := KJ6_stringSize_0f7a4) (pc := 0) dJ6_stringSize_0f7a4_0 ⟨by decide, by decide⟩ ?_
  refine V_istore_n (κ := KJ6_stringSize_0f7a4) (pc := 1) (lv' := [(1, (0, 1)), (0, (0, x0))]) dJ6_stringSize_0f7a4_1 (by decide) rfl ?_
  refine V_iload_n (κ := KJ6_stringSize_0f7a4) (pc := 2) dJ6_stringSize_0f7a4_2 1 rfl ?_
  refine V_if_lt (κ := KJ6_stringSize_0f7a4) (pc := 3) (tgt := 11) dJ6_stringSize_0f7a4_3 rfl ?_ ?_
  · refine V_sub (lv' := [(0, (0, x0)), (1, (0, 1))]) [1, 0] rfl ?_
    exact VBJ6_stringSize_0f7a4_11 _ _ _
  refine V_iconst (κ := KJ6_stringSize_0f7a4) (pc := 6) dJ6_stringSize_0f7a4_6 ⟨by decide, by decide⟩ ?_
  refine V_istore_n (κ := KJ6_stringSize_0f7a4) (pc := 7) (lv' := [(1, (0, 0)), (0, (0, x0))]) dJ6_stringSize_0f7a4_7 (by decide) rfl ?_
  refine V_iload_n (κ := KJ6_stringSize_0f7a4) (pc := 8) dJ6_stringSize_0f7a4_8 1 rfl ?_
  refine V_ineg (κ := KJ6_stringSize_0f7a4) (pc := 9) dJ6_stringSize_0f7a4_9 ?_
  refine V_LT fun x101 => ?_
  refine V_istore_n (κ := KJ6_stringSize_0f7a4) (pc := 10) (lv' := [(0, (0, x101)), (1, (0, 0))]) dJ6_stringSize_0f7a4_10 (by decide) rfl ?_
  exact VBJ6_stringSize_0f7a4_11 _ _ _
theorem con_J6_stringSize_0f7a4 (a0 : Int) (μ : Mem) : Con (4) yJ6_stringSize_0f7a4 (.code yJ6_stringSize_0f7a4 cJ6_stringSize_0f7a4 4 (some .int)) 0 [(0, a0)] μ (FJ6_stringSize_0f7a4 a0 μ) := Con_intro KJ6_stringSize_0f7a4 (plainFor_of_name (by decide)) rfl (fun h => by cases h) (by decide) rfl (Nat.le_of_ble_eq_true rfl) (fun Γ => VBJ6_stringSize_0f7a4_0 _ _)
abbrev KJ5_append_c97b9 : Kap := (RJ5, cJ5_append_c97b9, 4, 8, 2, (some (.object "java/lang/AbstractStringBuilder")), false, [])
theorem VBJ5_append_c97b9_48 {Γ : Gam} (x0 x3 : Int) (μ : Mem) : V Γ KJ5_append_c97b9 48 [(0, (2, x0)), (3, (0, x3))] [] μ (BJ5_append_c97b9_48 x0 x3 μ) := by
  unfold BJ5_append_c97b9_48
  refine V_aload_n (κ := KJ5_append_c97b9) (pc := 48) dJ5_append_c97b9_48 0 rfl rfl ?_
  refine V_iload_n (κ := KJ5_append_c97b9) (pc := 49) dJ5_append_c97b9_49 1 rfl ?_
  refine V_putf 10 (κ := KJ5_append_c97b9) (pc := 50) rfl (by decide) rfl inJ4 tyJ4 tyJ4_ok nmJ4 3 (by decide) wd_992 rfl rfl (t := 0) rfl rfl dJ5_append_c97b9_50 fun u101 => ?_
  refine V_aload_n (κ := KJ5_append_c97b9) (pc := 53) dJ5_append_c97b9_53 0 rfl rfl ?_
  exact V_areturn (κ := KJ5_append_c97b9) (pc := 54) rfl rfl (by first | exact Or.inl ⟨_, rfl⟩ | exact Or.inr ⟨_, rfl⟩) dJ5_append_c97b9_54
theorem VBJ5_append_c97b9_0 {Γ : Gam} (x0 x1 : Int) (μ : Mem) : V Γ KJ5_append_c97b9 0 [(0, (2, x0)), (1, (0, x1))] [] μ (BJ5_append_c97b9_0 x0 x1 μ) := by
  unfold BJ5_append_c97b9_0
  refine V_aload_n (κ := KJ5_append_c97b9) (pc := 0) dJ5_append_c97b9_0 0 rfl rfl ?_
  refine V_getf 10 (κ := KJ5_append_c97b9) (pc := 1) rfl (by decide) rfl inJ4 3 (by decide) wd_992 rfl (t := 0) rfl dJ5_append_c97b9_1 fun t101 => ?_
  refine V_istore_n (κ := KJ5_append_c97b9) (pc := 4) (lv' := [(2, (0, t101)), (0, (2, x0)), (1, (0, x1))]) dJ5_append_c97b9_4 (by decide) rfl ?_
  refine V_iload_n (κ := KJ5_append_c97b9) (pc := 5) dJ5_append_c97b9_5 0 rfl ?_
  refine V_iload_n (κ := KJ5_append_c97b9) (pc := 6) dJ5_append_c97b9_6 2 rfl ?_
  refine V_callS (κ := KJ5_append_c97b9) (pc := 7) (con_J6_stringSize_0f7a4 _ _) mth_J6_stringSize_0f7a4 wd_1120 wd_1119 (st0 := [(0, t101)]) rfl rfl (by decide) (Nat.le_of_ble_eq_true rfl) dJ5_append_c97b9_7 (fun _ _ _ h => VX_out rfl (by decide) h) fun t102 u103 => ?_
  refine V_iadd (κ := KJ5_append_c97b9) (pc := 10) dJ5_append_c97b9_10 ?_
  refine V_LT fun x104 => ?_
  refine V_istore_n (κ := KJ5_append_c97b9) (pc := 11) (lv' := [(3, (0, x104)), (2, (0, t101)), (0, (2, x0)), (1, (0, x1))]) dJ5_append_c97b9_11 (by decide) rfl ?_
  refine V_aload_n (κ := KJ5_append_c97b9) (pc := 12) dJ5_append_c97b9_12 2 rfl rfl ?_
  refine V_iload_n (κ := KJ5_append_c97b9) (pc := 13) dJ5_append_c97b9_13 0 rfl ?_
  refine V_callU (ci := 10) (T := TJ4) (N := 4) rfl (by decide) (κ := KJ5_append_c97b9) (pc := 14) (con_J5_ensureCapacityInternal_d00df _ _ _) mth_J5_ensureCapacityInternal_d00df ⟨wd_1030, ws_0⟩ wd_1216 wd_1028 (st0 := []) rfl rfl (by decide) (Nat.le_of_ble_eq_true rfl) dJ5_append_c97b9_14 (fun _ _ _ h => VX_out rfl (by decide) h) fun _ u106 => ?_
  refine V_aload_n (κ := KJ5_append_c97b9) (pc := 17) dJ5_append_c97b9_17 2 rfl rfl ?_
  refine V_callU (ci := 10) (T := TJ4) (N := 4) rfl (by decide) (κ := KJ5_append_c97b9) (pc := 18) (con_J5_isLatin1_aae02 _ _) mth_J5_isLatin1_aae02 ⟨wd_1046, wd_1048⟩ wd_1047 wd_1045 (st0 := []) rfl rfl (by decide) (Nat.le_of_ble_eq_true rfl) dJ5_append_c97b9_18 (fun _ _ _ h => VX_out rfl (by decide) h) fun t107 u108 => ?_
  refine V_if_eq (κ := KJ5_append_c97b9) (pc := 21) (tgt := 37) dJ5_append_c97b9_21 rfl ?_ ?_
  · refine V_iload_n (κ := KJ5_append_c97b9) (pc := 37) dJ5_append_c97b9_37 3 rfl ?_
    refine V_iload_n (κ := KJ5_append_c97b9) (pc := 38) dJ5_append_c97b9_38 1 rfl ?_
    refine V_iload_n (κ := KJ5_append_c97b9) (pc := 39) dJ5_append_c97b9_39 0 rfl ?_
    refine V_aload_n (κ := KJ5_append_c97b9) (pc := 40) dJ5_append_c97b9_40 2 rfl rfl ?_
    refine V_getf 10 (κ := KJ5_append_c97b9) (pc := 41) rfl (by decide) rfl inJ4 0 (by decide) wd_989 rfl (t := 2) rfl dJ5_append_c97b9_41 fun t109 => ?_
    exact V_none
  refine V_iload_n (κ := KJ5_append_c97b9) (pc := 24) dJ5_append_c97b9_24 3 rfl ?_
  refine V_iload_n (κ := KJ5_append_c97b9) (pc := 25) dJ5_append_c97b9_25 0 rfl ?_
  refine V_aload_n (κ := KJ5_append_c97b9) (pc := 26) dJ5_append_c97b9_26 2 rfl rfl ?_
  refine V_getf 10 (κ := KJ5_append_c97b9) (pc := 27) rfl (by decide) rfl inJ4 0 (by decide) wd_989 rfl (t := 2) rfl dJ5_append_c97b9_27 fun t110 => ?_
  refine V_callS (κ := KJ5_append_c97b9) (pc := 30) (con_J6_getChars_ba4f3 _ _ _ _) mth_J6_getChars_ba4f3 wd_1123 wd_1122 (st0 := []) rfl rfl (by decide) (Nat.le_of_ble_eq_true rfl) dJ5_append_c97b9_30 (fun _ _ _ h => VX_out rfl (by decide) h) fun t111 u112 => ?_
  refine V_pop (κ := KJ5_append_c97b9) (pc := 33) rfl dJ5_append_c97b9_33 ?_
  refine V_goto (κ := KJ5_append_c97b9) (pc := 34) (tgt := 48) dJ5_append_c97b9_34 rfl ?_
  refine V_sub (lv' := [(0, (2, x0)), (3, (0, x104))]) [2, 0] rfl ?_
  exact VBJ5_append_c97b9_48 _ _ _
theorem con_J5_append_c97b9 (a0 a1 : Int) (μ : Mem) : Con (8) yJ5_append_c97b9 (.code yJ5_append_c97b9 cJ5_append_c97b9 4 (some (.object "java/lang/AbstractStringBuilder"))) 2 [(2, a0), (0, a1)] μ (FJ5_append_c97b9 a0 a1 μ) := Con_intro KJ5_append_c97b9 (plainFor_of_name (by decide)) rfl (fun h => by cases h) (by decide) rfl (Nat.le_of_ble_eq_true rfl) (fun Γ => VBJ5_append_c97b9_0 _ _ _)
abbrev KJ4_append_bf812 : Kap := (RJ4, cJ4_append_bf812, 2, 9, 2, (some (.object "java/lang/StringBuilder")), false, [])
theorem VBJ4_append_bf812_0 {Γ : Gam} (x0 x1 : Int) (μ : Mem) : V Γ KJ4_append_bf812 0 [(0, (2, x0)), (1, (0, x1))] [] μ (BJ4_append_bf812_0 x0 x1 μ) := by
  unfold BJ4_append_bf812_0
  refine V_aload_n (κ := KJ4_append_bf812) (pc := 0) dJ4_append_bf812_0 0 rfl rfl ?_
  refine V_iload_n (κ := KJ4_append_bf812) (pc := 1) dJ4_append_bf812_1 1 rfl ?_
  refine V_callP (ci := 10) (T := TJ4) (N := 4) rfl (by decide) (κ := KJ4_append_bf812) (pc := 2) (con_J5_append_c97b9 _ _ _) mth_J5_append_c97b9 wd_1117 wd_1222 wd_1001 (by decide) wd_1116 (st0 := []) rfl rfl (by decide) (Nat.le_of_ble_eq_true rfl) dJ4_append_bf812_2 (fun _ _ _ h => VX_out rfl (by decide) h) fun t101 u102 => ?_
  refine V_pop (κ := KJ4_append_bf812) (pc := 5) rfl dJ4_append_bf812_5 ?_
  refine V_aload_n (κ := KJ4_append_bf812) (pc := 6) dJ4_append_bf812_6 0 rfl rfl ?_
  exact V_areturn (κ := KJ4_append_bf812) (pc := 7) rfl rfl (by first | exact Or.inl ⟨_, rfl⟩ | exact Or.inr ⟨_, rfl⟩) dJ4_append_bf812_7
theorem con_J4_append_bf812 (a0 a1 : Int) (μ : Mem) : Con (9) yJ4_append_bf812 (.code yJ4_append_bf812 cJ4_append_bf812 2 (some (.object "java/lang/StringBuilder"))) 2 [(2, a0), (0, a1)] μ (FJ4_append_bf812 a0 a1 μ) := Con_intro KJ4_append_bf812 (plainFor_of_name (by decide)) rfl (fun h => by cases h) (by decide) rfl (Nat.le_of_ble_eq_true rfl) (fun Γ => VBJ4_append_bf812_0 _ _ _)
abbrev KJ1_canEncode_fc78d : Kap := (RJ1, cJ1_canEncode_fc78d, 1, 4, 0, (some .boolean), false, [])
theorem VBJ1_canEncode_fc78d_12 {Γ : Gam} (s0 : Int) (μ : Mem) : V Γ KJ1_canEncode_fc78d 12 [] [(0, s0)] μ (BJ1_canEncode_fc78d_12 s0 μ) := by
  unfold BJ1_canEncode_fc78d_12
  exact V_zreturn (κ := KJ1_canEncode_fc78d) (pc := 12) rfl rfl dJ1_canEncode_fc78d_12
theorem VBJ1_canEncode_fc78d_0 {Γ : Gam} (x0 : Int) (μ : Mem) : V Γ KJ1_canEncode_fc78d 0 [(0, (0, x0))] [] μ (BJ1_canEncode_fc78d_0 x0 μ) := by
  unfold BJ1_canEncode_fc78d_0
  refine V_iload_n (κ := KJ1_canEncode_fc78d) (pc := 0) dJ1_canEncode_fc78d_0 0 rfl ?_
  refine V_sipush (κ := KJ1_canEncode_fc78d) (pc := 1) dJ1_canEncode_fc78d_1 ⟨by decide, by decide⟩ (by decide) ?_
  refine V_icmp_gt (κ := KJ1_canEncode_fc78d) (pc := 4) (tgt := 11) dJ1_canEncode_fc78d_4 rfl ?_ ?_
  · refine V_iconst (κ := KJ1_canEncode_fc78d) (pc := 11) dJ1_canEncode_fc78d_11 ⟨by decide, by decide⟩ ?_
    refine V_sub (lv' := []) [] rfl ?_
    exact VBJ1_canEncode_fc78d_12 _ _
  refine V_iconst (κ := KJ1_canEncode_fc78d) (pc := 7) dJ1_canEncode_fc78d_7 ⟨by decide, by decide⟩ ?_
  refine V_goto (κ := KJ1_canEncode_fc78d) (pc := 8) (tgt := 12) dJ1_canEncode_fc78d_8 rfl ?_
  refine V_sub (lv' := []) [] rfl ?_
  exact VBJ1_canEncode_fc78d_12 _ _
theorem con_J1_canEncode_fc78d (a0 : Int) (μ : Mem) : Con (4) yJ1_canEncode_fc78d (.code yJ1_canEncode_fc78d cJ1_canEncode_fc78d 1 (some .boolean)) 0 [(0, a0)] μ (FJ1_canEncode_fc78d a0 μ) := Con_intro KJ1_canEncode_fc78d (plainFor_of_name (by decide)) rfl (fun h => by cases h) (by decide) rfl (Nat.le_of_ble_eq_true rfl) (fun Γ => VBJ1_canEncode_fc78d_0 _ _)
abbrev KJ5_append_3fe6f : Kap := (RJ5, cJ5_append_3fe6f, 2, 8, 2, (some (.object "java/lang/AbstractStringBuilder")), false, [])
theorem VBJ5_append_3fe6f_75 {Γ : Gam} (x0 : Int) (μ : Mem) : V Γ KJ5_append_3fe6f 75 [(0, (2, x0))] [] μ (BJ5_append_3fe6f_75 x0 μ) := by
  unfold BJ5_append_3fe6f_75
  refine V_aload_n (κ := KJ5_append_3fe6f) (pc := 75) dJ5_append_3fe6f_75 0 rfl rfl ?_
  exact V_areturn (κ := KJ5_append_3fe6f) (pc := 76) rfl rfl (by first | exact Or.inl ⟨_, rfl⟩ | exact Or.inr ⟨_, rfl⟩) dJ5_append_3fe6f_76
theorem VBJ5_append_3fe6f_56 {Γ : Gam} (x0 x1 : Int) (μ : Mem) : V Γ KJ5_append_3fe6f 56 [(0, (2, x0)), (1, (0, x1))] [] μ (BJ5_append_3fe6f_56 x0 x1 μ) := by
  unfold BJ5_append_3fe6f_56
  refine V_aload_n (κ := KJ5_append_3fe6f) (pc := 56) dJ5_append_3fe6f_56 0 rfl rfl ?_
  refine V_getf 10 (κ := KJ5_append_3fe6f) (pc := 57) rfl (by decide) rfl inJ4 0 (by decide) wd_989 rfl (t := 2) rfl dJ5_append_3fe6f_57 fun t101 => ?_
  refine V_aload_n (κ := KJ5_append_3fe6f) (pc := 60) dJ5_append_3fe6f_60 0 rfl rfl ?_
  refine V_dup (κ := KJ5_append_3fe6f) (pc := 61) rfl dJ5_append_3fe6f_61 ?_
  refine V_getf 10 (κ := KJ5_append_3fe6f) (pc := 62) rfl (by decide) rfl inJ4 3 (by decide) wd_992 rfl (t := 0) rfl dJ5_append_3fe6f_62 fun t102 => ?_
  refine V_dup_x1 (κ := KJ5_append_3fe6f) (pc := 65) rfl rfl dJ5_append_3fe6f_65 ?_
  refine V_iconst (κ := KJ5_append_3fe6f) (pc := 66) dJ5_append_3fe6f_66 ⟨by decide, by decide⟩ ?_
  refine V_iadd (κ := KJ5_append_3fe6f) (pc := 67) dJ5_append_3fe6f_67 ?_
  refine V_putf 10 (κ := KJ5_append_3fe6f) (pc := 68) rfl (by decide) rfl inJ4 tyJ4 tyJ4_ok nmJ4 3 (by decide) wd_992 rfl rfl (t := 0) rfl rfl dJ5_append_3fe6f_68 fun u103 => ?_
  refine V_iload_n (κ := KJ5_append_3fe6f) (pc := 71) dJ5_append_3fe6f_71 1 rfl ?_
  exact V_none
theorem VBJ5_append_3fe6f_45 {Γ : Gam} (x0 x1 : Int) (μ : Mem) : V Γ KJ5_append_3fe6f 45 [(0, (2, x0)), (1, (0, x1))] [] μ (BJ5_append_3fe6f_45 x0 x1 μ) := by
  unfold BJ5_append_3fe6f_45
  refine V_aload_n (κ := KJ5_append_3fe6f) (pc := 45) dJ5_append_3fe6f_45 0 rfl rfl ?_
  refine V_callU (ci := 10) (T := TJ4) (N := 4) rfl (by decide) (κ := KJ5_append_3fe6f) (pc := 46) (con_J5_isLatin1_aae02 _ _) mth_J5_isLatin1_aae02 ⟨wd_1046, wd_1048⟩ wd_1047 wd_1045 (st0 := []) rfl rfl (by decide) (Nat.le_of_ble_eq_true rfl) dJ5_append_3fe6f_46 (fun _ _ _ h => VX_out rfl (by decide) h) fun t101 u102 => ?_
  refine V_if_eq (κ := KJ5_append_3fe6f) (pc := 49) (tgt := 56) dJ5_append_3fe6f_49 rfl ?_ ?_
  · exact VBJ5_append_3fe6f_56 _ _ _
  refine V_aload_n (κ := KJ5_append_3fe6f) (pc := 52) dJ5_append_3fe6f_52 0 rfl rfl ?_
  exact V_none
theorem VBJ5_append_3fe6f_0 {Γ : Gam} (x0 x1 : Int) (μ : Mem) : V Γ KJ5_append_3fe6f 0 [(0, (2, x0)), (1, (0, x1))] [] μ (BJ5_append_3fe6f_0 x0 x1 μ) := by
  unfold BJ5_append_3fe6f_0
  refine V_aload_n (κ := KJ5_append_3fe6f) (pc := 0) dJ5_append_3fe6f_0 0 rfl rfl ?_
  refine V_aload_n (κ := KJ5_append_3fe6f) (pc := 1) dJ5_append_3fe6f_1 0 rfl rfl ?_
  refine V_getf 10 (κ := KJ5_append_3fe6f) (pc := 2) rfl (by decide) rfl inJ4 3 (by decide) wd_992 rfl (t := 0) rfl dJ5_append_3fe6f_2 fun t101 => ?_
  refine V_iconst (κ := KJ5_append_3fe6f) (pc := 5) dJ5_append_3fe6f_5 ⟨by decide, by decide⟩ ?_
  refine V_iadd (κ := KJ5_append_3fe6f) (pc := 6) dJ5_append_3fe6f_6 ?_
  refine V_callU (ci := 10) (T := TJ4) (N := 4) rfl (by decide) (κ := KJ5_append_3fe6f) (pc := 7) (con_J5_ensureCapacityInternal_d00df _ _ _) mth_J5_ensureCapacityInternal_d00df ⟨wd_1030, ws_0⟩ wd_1216 wd_1028 (st0 := []) rfl rfl (by decide) (Nat.le_of_ble_eq_true rfl) dJ5_append_3fe6f_7 (fun _ _ _ h => VX_out rfl (by decide) h) fun _ u103 => ?_
  refine V_aload_n (κ := KJ5_append_3fe6f) (pc := 10) dJ5_append_3fe6f_10 0 rfl rfl ?_
  refine V_callU (ci := 10) (T := TJ4) (N := 4) rfl (by decide) (κ := KJ5_append_3fe6f) (pc := 11) (con_J5_isLatin1_aae02 _ _) mth_J5_isLatin1_aae02 ⟨wd_1046, wd_1048⟩ wd_1047 wd_1045 (st0 := []) rfl rfl (by decide) (Nat.le_of_ble_eq_true rfl) dJ5_append_3fe6f_11 (fun _ _ _ h => VX_out rfl (by decide) h) fun t104 u105 => ?_
  refine V_if_eq (κ := KJ5_append_3fe6f) (pc := 14) (tgt := 45) dJ5_append_3fe6f_14 rfl ?_ ?_
  · exact VBJ5_append_3fe6f_45 _ _ _
  refine V_iload_n (κ := KJ5_append_3fe6f) (pc := 17) dJ5_append_3fe6f_17 1 rfl ?_
  refine V_callS (κ := KJ5_append_3fe6f) (pc := 18) (con_J1_canEncode_fc78d _ _) mth_J1_canEncode_fc78d wd_1107 wd_1106 (st0 := []) rfl rfl (by decide) (Nat.le_of_ble_eq_true rfl) dJ5_append_3fe6f_18 (fun _ _ _ h => VX_out rfl (by decide) h) fun t106 u107 => ?_
  refine V_if_eq (κ := KJ5_append_3fe6f) (pc := 21) (tgt := 45) dJ5_append_3fe6f_21 rfl ?_ ?_
  · exact VBJ5_append_3fe6f_45 _ _ _
  refine V_aload_n (κ := KJ5_append_3fe6f) (pc := 24) dJ5_append_3fe6f_24 0 rfl rfl ?_
  refine V_getf 10 (κ := KJ5_append_3fe6f) (pc := 25) rfl (by decide) rfl inJ4 0 (by decide) wd_989 rfl (t := 2) rfl dJ5_append_3fe6f_25 fun t108 => ?_
  refine V_aload_n (κ := KJ5_append_3fe6f) (pc := 28) dJ5_append_3fe6f_28 0 rfl rfl ?_
  refine V_dup (κ := KJ5_append_3fe6f) (pc := 29) rfl dJ5_append_3fe6f_29 ?_
  refine V_getf 10 (κ := KJ5_append_3fe6f) (pc := 30) rfl (by decide) rfl inJ4 3 (by decide) wd_992 rfl (t := 0) rfl dJ5_append_3fe6f_30 fun t109 => ?_
  refine V_dup_x1 (κ := KJ5_append_3fe6f) (pc := 33) rfl rfl dJ5_append_3fe6f_33 ?_
  refine V_iconst (κ := KJ5_append_3fe6f) (pc := 34) dJ5_append_3fe6f_34 ⟨by decide, by decide⟩ ?_
  refine V_iadd (κ := KJ5_append_3fe6f) (pc := 35) dJ5_append_3fe6f_35 ?_
  refine V_putf 10 (κ := KJ5_append_3fe6f) (pc := 36) rfl (by decide) rfl inJ4 tyJ4 tyJ4_ok nmJ4 3 (by decide) wd_992 rfl rfl (t := 0) rfl rfl dJ5_append_3fe6f_36 fun u110 => ?_
  refine V_iload_n (κ := KJ5_append_3fe6f) (pc := 39) dJ5_append_3fe6f_39 1 rfl ?_
  refine V_i2b (κ := KJ5_append_3fe6f) (pc := 40) dJ5_append_3fe6f_40 ?_
  refine V_bastore (κ := KJ5_append_3fe6f) (pc := 41) dJ5_append_3fe6f_41 fun u111 => ?_
  refine V_goto (κ := KJ5_append_3fe6f) (pc := 42) (tgt := 75) dJ5_append_3fe6f_42 rfl ?_
  refine V_sub (lv' := [(0, (2, x0))]) [0] rfl ?_
  exact VBJ5_append_3fe6f_75 _ _
theorem con_J5_append_3fe6f (a0 a1 : Int) (μ : Mem) : Con (8) yJ5_append_3fe6f (.code yJ5_append_3fe6f cJ5_append_3fe6f 2 (some (.object "java/lang/AbstractStringBuilder"))) 2 [(2, a0), (0, a1)] μ (FJ5_append_3fe6f a0 a1 μ) := Con_intro KJ5_append_3fe6f (plainFor_of_name (by decide)) rfl (fun h => by cases h) (by decide) rfl (Nat.le_of_ble_eq_true rfl) (fun Γ => VBJ5_append_3fe6f_0 _ _ _)
abbrev KJ4_append_cf468 : Kap := (RJ4, cJ4_append_cf468, 2, 9, 2, (some (.object "java/lang/StringBuilder")), false, [])
theorem VBJ4_append_cf468_0 {Γ : Gam} (x0 x1 : Int) (μ : Mem) : V Γ KJ4_append_cf468 0 [(0, (2, x0)), (1, (0, x1))] [] μ (BJ4_append_cf468_0 x0 x1 μ) := by
  unfold BJ4_append_cf468_0
  refine V_aload_n (κ := KJ4_append_cf468) (pc := 0) dJ4_append_cf468_0 0 rfl rfl ?_
  refine V_iload_n (κ := KJ4_append_cf468) (pc := 1) dJ4_append_cf468_1 1 rfl ?_
  refine V_callP (ci := 10) (T := TJ4) (N := 4) rfl (by decide) (κ := KJ4_append_cf468) (pc := 2) (con_J5_append_3fe6f _ _ _) mth_J5_append_3fe6f wd_1104 wd_1221 wd_1001 (by decide) wd_1103 (st0 := []) rfl rfl (by decide) (Nat.le_of_ble_eq_true rfl) dJ4_append_cf468_2 (fun _ _ _ h => VX_out rfl (by decide) h) fun t101 u102 => ?_
  refine V_pop (κ := KJ4_append_cf468) (pc := 5) rfl dJ4_append_cf468_5 ?_
  refine V_aload_n (κ := KJ4_append_cf468) (pc := 6) dJ4_append_cf468_6 0 rfl rfl ?_
  exact V_areturn (κ := KJ4_append_cf468) (pc := 7) rfl rfl (by first | exact Or.inl ⟨_, rfl⟩ | exact Or.inr ⟨_, rfl⟩) dJ4_append_cf468_7
theorem con_J4_append_cf468 (a0 a1 : Int) (μ : Mem) : Con (9) yJ4_append_cf468 (.code yJ4_append_cf468 cJ4_append_cf468 2 (some (.object "java/lang/StringBuilder"))) 2 [(2, a0), (0, a1)] μ (FJ4_append_cf468 a0 a1 μ) := Con_intro KJ4_append_cf468 (plainFor_of_name (by decide)) rfl (fun h => by cases h) (by decide) rfl (Nat.le_of_ble_eq_true rfl) (fun Γ => VBJ4_append_cf468_0 _ _ _)
abbrev KJ4_append_cf1ce : Kap := (RJ4, cJ4_append_cf1ce, 2, 10, 2, (some (.object "java/lang/AbstractStringBuilder")), false, [])
theorem VBJ4_append_cf1ce_0 {Γ : Gam} (x0 x1 : Int) (μ : Mem) : V Γ KJ4_append_cf1ce 0 [(0, (2, x0)), (1, (2, x1))] [] μ (BJ4_append_cf1ce_0 x0 x1 μ) := by
  unfold BJ4_append_cf1ce_0
  refine V_aload_n (κ := KJ4_append_cf1ce) (pc := 0) dJ4_append_cf1ce_0 0 rfl rfl ?_
  refine V_aload_n (κ := KJ4_append_cf1ce) (pc := 1) dJ4_append_cf1ce_1 1 rfl rfl ?_
  refine V_callV (ci := 10) (T := TJ4) (N := 4) rfl (by decide) (κ := KJ4_append_cf1ce) (pc := 2) (con_J4_append_15ec4 _ _ _) mth_J4_append_15ec4 rfl ⟨wd_1019, wd_1020⟩ wd_1018 (st0 := []) rfl rfl (by decide) (Nat.le_of_ble_eq_true rfl) dJ4_append_cf1ce_2 (fun _ _ _ h => VX_out rfl (by decide) h) fun t101 u102 => ?_
  exact V_areturn (κ := KJ4_append_cf1ce) (pc := 5) rfl rfl (by first | exact Or.inl ⟨_, rfl⟩ | exact Or.inr ⟨_, rfl⟩) dJ4_append_cf1ce_5
theorem con_J4_append_cf1ce (a0 a1 : Int) (μ : Mem) : Con (10) yJ4_append_cf1ce (.code yJ4_append_cf1ce cJ4_append_cf1ce 2 (some (.object "java/lang/AbstractStringBuilder"))) 2 [(2, a0), (2, a1)] μ (FJ4_append_cf1ce a0 a1 μ) := Con_intro KJ4_append_cf1ce (plainFor_of_name (by decide)) rfl (fun h => by cases h) (by decide) rfl (Nat.le_of_ble_eq_true rfl) (fun Γ => VBJ4_append_cf1ce_0 _ _ _)
abbrev KJ5_init_a7421 : Kap := (RJ5, cJ5_init_a7421, 5, 11, 9, none, true, [])
theorem VBJ5_init_a7421_53 {Γ : Gam} (x0 x1 s0 s1 : Int) (μ : Mem) : V Γ KJ5_init_a7421 53 [(0, (2, x0)), (1, (2, x1))] [(2, s0), (2, s1)] μ (BJ5_init_a7421_53 x0 x1 s0 s1 μ) := by
  unfold BJ5_init_a7421_53
  refine V_putf 10 (κ := KJ5_init_a7421) (pc := 53) rfl (by decide) rfl inJ4 tyJ4 tyJ4_ok nmJ4 0 (by decide) wd_989 rfl rfl (t := 2) rfl rfl dJ5_init_a7421_53 fun u101 => ?_
  refine V_aload_n (κ := KJ5_init_a7421) (pc := 56) dJ5_init_a7421_56 0 rfl rfl ?_
  refine V_aload_n (κ := KJ5_init_a7421) (pc := 57) dJ5_init_a7421_57 1 rfl rfl ?_
  refine V_callO (ci := 10) (T := TJ4) (N := 4) rfl (by decide) (κ := KJ5_init_a7421) (pc := 58) (con_J4_append_cf1ce _ _ _) mth_J4_append_cf1ce ⟨wd_1016, wd_1015⟩ wd_1014 wd_1013 wd_1023 (by decide +kernel) wd_1012 (st0 := []) rfl rfl (by decide) (Nat.le_of_ble_eq_true rfl) dJ5_init_a7421_58 (fun _ _ _ h => VX_out rfl (by decide) h) fun t102 u103 => ?_
  refine V_pop (κ := KJ5_init_a7421) (pc := 61) rfl dJ5_init_a7421_61 ?_
  exact V_vreturn (κ := KJ5_init_a7421) (pc := 62) rfl rfl dJ5_init_a7421_62
theorem VBJ5_init_a7421_24 {Γ : Gam} (x0 x1 s0 : Int) (μ : Mem) : V Γ KJ5_init_a7421 24 [(0, (2, x0)), (1, (2, x1))] [(0, s0)] μ (BJ5_init_a7421_24 x0 x1 s0 μ) := by
  unfold BJ5_init_a7421_24
  refine V_istore_n (κ := KJ5_init_a7421) (pc := 24) (lv' := [(3, (0, s0)), (0, (2, x0)), (1, (2, x1))]) dJ5_init_a7421_24 (by decide) rfl ?_
  refine V_aload_n (κ := KJ5_init_a7421) (pc := 25) dJ5_init_a7421_25 2 rfl rfl ?_
  refine V_callV (ci := 9) (T := TJ0) (N := 4) rfl (by decide) (κ := KJ5_init_a7421) (pc := 26) (con_J0_coder_7d493 _ _) mth_J0_coder_7d493 rfl ⟨wd_721, wd_722⟩ wd_1011 (st0 := []) rfl rfl (by decide) (Nat.le_of_ble_eq_true rfl) dJ5_init_a7421_26 (fun _ _ _ h => VX_out rfl (by decide) h) fun t101 u102 => ?_
  refine V_istore (κ := KJ5_init_a7421) (pc := 29) (lv' := [(4, (0, t101)), (3, (0, s0)), (0, (2, x0)), (1, (2, x1))]) dJ5_init_a7421_29 (by decide) rfl ?_
  refine V_aload_n (κ := KJ5_init_a7421) (pc := 31) dJ5_init_a7421_31 2 rfl rfl ?_
  refine V_iload (κ := KJ5_init_a7421) (pc := 32) dJ5_init_a7421_32 0 rfl ?_
  refine V_putb 10 (κ := KJ5_init_a7421) (pc := 34) rfl (by decide) rfl inJ4 tyJ4 tyJ4_ok nmJ4 1 (by decide) wd_990 rfl rfl rfl rfl dJ5_init_a7421_34 fun u103 => ?_
  refine V_aload_n (κ := KJ5_init_a7421) (pc := 37) dJ5_init_a7421_37 2 rfl rfl ?_
  refine V_iload (κ := KJ5_init_a7421) (pc := 38) dJ5_init_a7421_38 0 rfl ?_
  refine V_if_ne (κ := KJ5_init_a7421) (pc := 40) (tgt := 49) dJ5_init_a7421_40 rfl ?_ ?_
  · refine V_iload_n (κ := KJ5_init_a7421) (pc := 49) dJ5_init_a7421_49 1 rfl ?_
    exact V_none
  refine V_iload_n (κ := KJ5_init_a7421) (pc := 43) dJ5_init_a7421_43 1 rfl ?_
  refine V_newarrayN 0 (by decide) (κ := KJ5_init_a7421) (pc := 44) rfl wd_72 dJ5_init_a7421_44 fun t104 u105 => ?_
  refine V_goto (κ := KJ5_init_a7421) (pc := 46) (tgt := 53) dJ5_init_a7421_46 rfl ?_
  refine V_sub (lv' := [(0, (2, x0)), (1, (2, x1))]) [2, 3] rfl ?_
  exact VBJ5_init_a7421_53 _ _ _ _ _
theorem VBJ5_init_a7421_0 {Γ : Gam} (x0 x1 : Int) (μ : Mem) : V Γ KJ5_init_a7421 0 [(0, (2, x0)), (1, (2, x1))] [] μ (BJ5_init_a7421_0 x0 x1 μ) := by
  unfold BJ5_init_a7421_0
  refine V_aload_n (κ := KJ5_init_a7421) (pc := 0) dJ5_init_a7421_0 0 rfl rfl ?_
  refine V_objInitN (κ := KJ5_init_a7421) (pc := 1) (by decide) wd_980 wd_37 wd_38 (Nat.le_of_ble_eq_true rfl) dJ5_init_a7421_1 (ci := 0) ?_
  refine V_aload_n (κ := KJ5_init_a7421) (pc := 4) dJ5_init_a7421_4 1 rfl rfl ?_
  refine V_callV (ci := 9) (T := TJ0) (N := 4) rfl (by decide) (κ := KJ5_init_a7421) (pc := 5) (con_J0_length_8abf5 _ _) mth_J0_length_8abf5 rfl ⟨wd_717, wd_718⟩ wd_1008 (st0 := []) rfl rfl (by decide) (Nat.le_of_ble_eq_true rfl) dJ5_init_a7421_5 (fun _ _ _ h => VX_out rfl (by decide) h) fun t101 u102 => ?_
  refine V_istore_n (κ := KJ5_init_a7421) (pc := 8) (lv' := [(2, (0, t101)), (0, (2, x0)), (1, (2, x1))]) dJ5_init_a7421_8 (by decide) rfl ?_
  refine V_iload_n (κ := KJ5_init_a7421) (pc := 9) dJ5_init_a7421_9 0 rfl ?_
  refine V_ldc (κ := KJ5_init_a7421) (pc := 10) (z := 2147483631) dJ5_init_a7421_10 wd_1009 ⟨by decide, by decide⟩ (by decide) ?_
  refine V_icmp_ge (κ := KJ5_init_a7421) (pc := 12) (tgt := 22) dJ5_init_a7421_12 rfl ?_ ?_
  · refine V_ldc (κ := KJ5_init_a7421) (pc := 22) (z := 2147483647) dJ5_init_a7421_22 wd_1010 ⟨by decide, by decide⟩ (by decide) ?_
    refine V_sub (lv' := [(0, (2, x0)), (1, (2, x1))]) [1, 2] rfl ?_
    exact VBJ5_init_a7421_24 _ _ _ _
  refine V_iload_n (κ := KJ5_init_a7421) (pc := 15) dJ5_init_a7421_15 0 rfl ?_
  refine V_bipush (κ := KJ5_init_a7421) (pc := 16) dJ5_init_a7421_16 ⟨by decide, by decide⟩ (by decide) ?_
  refine V_iadd (κ := KJ5_init_a7421) (pc := 18) dJ5_init_a7421_18 ?_
  refine V_goto (κ := KJ5_init_a7421) (pc := 19) (tgt := 24) dJ5_init_a7421_19 rfl ?_
  refine V_sub (lv' := [(0, (2, x0)), (1, (2, x1))]) [1, 2] rfl ?_
  exact VBJ5_init_a7421_24 _ _ _ _
theorem con_J5_init_a7421 (a0 a1 : Int) (μ : Mem) : Con (11) yJ5_init_a7421 (.code yJ5_init_a7421 cJ5_init_a7421 5 none) 9 [(2, a0), (2, a1)] μ (FJ5_init_a7421 a0 a1 μ) := Con_intro KJ5_init_a7421 (plainFor_of_name (by decide)) rfl (fun h => rfl) (by decide) rfl (Nat.le_of_ble_eq_true rfl) (fun Γ => VBJ5_init_a7421_0 _ _ _)
abbrev KJ4_init_a7421 : Kap := (RJ4, cJ4_init_a7421, 2, 12, 9, none, true, [])
theorem VBJ4_init_a7421_0 {Γ : Gam} (x0 x1 : Int) (μ : Mem) : V Γ KJ4_init_a7421 0 [(0, (2, x0)), (1, (2, x1))] [] μ (BJ4_init_a7421_0 x0 x1 μ) := by
  unfold BJ4_init_a7421_0
  refine V_aload_n (κ := KJ4_init_a7421) (pc := 0) dJ4_init_a7421_0 0 rfl rfl ?_
  refine V_aload_n (κ := KJ4_init_a7421) (pc := 1) dJ4_init_a7421_1 1 rfl rfl ?_
  refine V_callI (ci := 10) (by decide) (κ := KJ4_init_a7421) (pc := 2) (con_J5_init_a7421 _ _ _) mth_J5_init_a7421 rfl wd_1006 wd_1005 (st0 := []) rfl rfl (by decide) (Nat.le_of_ble_eq_true rfl) dJ4_init_a7421_2 (fun _ _ _ h => VX_out rfl (by decide) h) fun _ u102 => ?_
  exact V_vreturn (κ := KJ4_init_a7421) (pc := 5) rfl rfl dJ4_init_a7421_5
theorem con_J4_init_a7421 (a0 a1 : Int) (μ : Mem) : Con (12) yJ4_init_a7421 (.code yJ4_init_a7421 cJ4_init_a7421 2 none) 9 [(2, a0), (2, a1)] μ (FJ4_init_a7421 a0 a1 μ) := Con_intro KJ4_init_a7421 (plainFor_of_name (by decide)) rfl (fun h => rfl) (by decide) rfl (Nat.le_of_ble_eq_true rfl) (fun Γ => VBJ4_init_a7421_0 _ _ _)
abbrev KJ5_init_d00df : Kap := (RJ5, cJ5_init_d00df, 2, 4, 9, none, true, [])
theorem VBJ5_init_d00df_38 {Γ : Gam} (μ : Mem) : V Γ KJ5_init_d00df 38 [] [] μ (BJ5_init_d00df_38 μ) := by
  unfold BJ5_init_d00df_38
  exact V_vreturn (κ := KJ5_init_d00df) (pc := 38) rfl rfl dJ5_init_d00df_38
theorem VBJ5_init_d00df_0 {Γ : Gam} (x0 x1 : Int) (μ : Mem) : V Γ KJ5_init_d00df 0 [(0, (2, x0)), (1, (0, x1))] [] μ (BJ5_init_d00df_0 x0 x1 μ) := by
  unfold BJ5_init_d00df_0
  refine V_aload_n (κ := KJ5_init_d00df) (pc := 0) dJ5_init_d00df_0 0 rfl rfl ?_
  refine V_objInitN (κ := KJ5_init_d00df) (pc := 1) (by decide) wd_980 wd_37 wd_38 (Nat.le_of_ble_eq_true rfl) dJ5_init_d00df_1 (ci := 0) ?_
  refine V_getCompact (κ := KJ5_init_d00df) (pc := 4) wd_981 dJ5_init_d00df_4 ?_
  refine V_if_eq (κ := KJ5_init_d00df) (pc := 7) (tgt := 25) dJ5_init_d00df_7 rfl ?_ ?_
  · refine V_aload_n (κ := KJ5_init_d00df) (pc := 25) dJ5_init_d00df_25 0 rfl rfl ?_
    refine V_iload_n (κ := KJ5_init_d00df) (pc := 26) dJ5_init_d00df_26 1 rfl ?_
    exact V_none
  refine V_aload_n (κ := KJ5_init_d00df) (pc := 10) dJ5_init_d00df_10 0 rfl rfl ?_
  refine V_iload_n (κ := KJ5_init_d00df) (pc := 11) dJ5_init_d00df_11 1 rfl ?_
  refine V_newarrayN 0 (by decide) (κ := KJ5_init_d00df) (pc := 12) rfl wd_72 dJ5_init_d00df_12 fun t101 u102 => ?_
  refine V_putf 10 (κ := KJ5_init_d00df) (pc := 14) rfl (by decide) rfl inJ4 tyJ4 tyJ4_ok nmJ4 0 (by decide) wd_989 rfl rfl (t := 2) rfl rfl dJ5_init_d00df_14 fun u103 => ?_
  refine V_aload_n (κ := KJ5_init_d00df) (pc := 17) dJ5_init_d00df_17 0 rfl rfl ?_
  refine V_iconst (κ := KJ5_init_d00df) (pc := 18) dJ5_init_d00df_18 ⟨by decide, by decide⟩ ?_
  refine V_putb 10 (κ := KJ5_init_d00df) (pc := 19) rfl (by decide) rfl inJ4 tyJ4 tyJ4_ok nmJ4 1 (by decide) wd_990 rfl rfl rfl rfl dJ5_init_d00df_19 fun u104 => ?_
  refine V_goto (κ := KJ5_init_d00df) (pc := 22) (tgt := 38) dJ5_init_d00df_22 rfl ?_
  refine V_sub (lv' := []) [] rfl ?_
  exact VBJ5_init_d00df_38 _
theorem con_J5_init_d00df (a0 a1 : Int) (μ : Mem) : Con (4) yJ5_init_d00df (.code yJ5_init_d00df cJ5_init_d00df 2 none) 9 [(2, a0), (0, a1)] μ (FJ5_init_d00df a0 a1 μ) := Con_intro KJ5_init_d00df (plainFor_of_name (by decide)) rfl (fun h => rfl) (by decide) rfl (Nat.le_of_ble_eq_true rfl) (fun Γ => VBJ5_init_d00df_0 _ _ _)
abbrev KJ4_init_da8c8 : Kap := (RJ4, cJ4_init_da8c8, 1, 5, 9, none, true, [])
theorem VBJ4_init_da8c8_0 {Γ : Gam} (x0 : Int) (μ : Mem) : V Γ KJ4_init_da8c8 0 [(0, (2, x0))] [] μ (BJ4_init_da8c8_0 x0 μ) := by
  unfold BJ4_init_da8c8_0
  refine V_aload_n (κ := KJ4_init_da8c8) (pc := 0) dJ4_init_da8c8_0 0 rfl rfl ?_
  refine V_bipush (κ := KJ4_init_da8c8) (pc := 1) dJ4_init_da8c8_1 ⟨by decide, by decide⟩ (by decide) ?_
  refine V_callI (ci := 10) (by decide) (κ := KJ4_init_da8c8) (pc := 3) (con_J5_init_d00df _ _ _) mth_J5_init_d00df rfl wd_978 wd_977 (st0 := []) rfl rfl (by decide) (Nat.le_of_ble_eq_true rfl) dJ4_init_da8c8_3 (fun _ _ _ h => VX_out rfl (by decide) h) fun _ u102 => ?_
  exact V_vreturn (κ := KJ4_init_da8c8) (pc := 6) rfl rfl dJ4_init_da8c8_6
theorem con_J4_init_da8c8 (a0 : Int) (μ : Mem) : Con (5) yJ4_init_da8c8 (.code yJ4_init_da8c8 cJ4_init_da8c8 1 none) 9 [(2, a0)] μ (FJ4_init_da8c8 a0 μ) := Con_intro KJ4_init_da8c8 (plainFor_of_name (by decide)) rfl (fun h => rfl) (by decide) rfl (Nat.le_of_ble_eq_true rfl) (fun Γ => VBJ4_init_da8c8_0 _ _)
abbrev KJ5_length_8abf5 : Kap := (RJ5, cJ5_length_8abf5, 1, 4, 0, (some .int), false, [])
theorem VBJ5_length_8abf5_0 {Γ : Gam} (x0 : Int) (μ : Mem) : V Γ KJ5_length_8abf5 0 [(0, (2, x0))] [] μ (BJ5_length_8abf5_0 x0 μ) := by
  unfold BJ5_length_8abf5_0
  refine V_aload_n (κ := KJ5_length_8abf5) (pc := 0) dJ5_length_8abf5_0 0 rfl rfl ?_
  refine V_getf 10 (κ := KJ5_length_8abf5) (pc := 1) rfl (by decide) rfl inJ4 3 (by decide) wd_992 rfl (t := 0) rfl dJ5_length_8abf5_1 fun t101 => ?_
  exact V_ireturn (κ := KJ5_length_8abf5) (pc := 4) rfl rfl dJ5_length_8abf5_4
theorem con_J5_length_8abf5 (a0 : Int) (μ : Mem) : Con (4) yJ5_length_8abf5 (.code yJ5_length_8abf5 cJ5_length_8abf5 1 (some .int)) 0 [(2, a0)] μ (FJ5_length_8abf5 a0 μ) := Con_intro KJ5_length_8abf5 (plainFor_of_name (by decide)) rfl (fun h => by cases h) (by decide) rfl (Nat.le_of_ble_eq_true rfl) (fun Γ => VBJ5_length_8abf5_0 _ _)
abbrev KJ4_length_8abf5 : Kap := (RJ4, cJ4_length_8abf5, 1, 5, 0, (some .int), false, [])
theorem VBJ4_length_8abf5_0 {Γ : Gam} (x0 : Int) (μ : Mem) : V Γ KJ4_length_8abf5 0 [(0, (2, x0))] [] μ (BJ4_length_8abf5_0 x0 μ) := by
  unfold BJ4_length_8abf5_0
  refine V_aload_n (κ := KJ4_length_8abf5) (pc := 0) dJ4_length_8abf5_0 0 rfl rfl ?_
  refine V_callP (ci := 10) (T := TJ4) (N := 4) rfl (by decide) (κ := KJ4_length_8abf5) (pc := 1) (con_J5_length_8abf5 _ _) mth_J5_length_8abf5 wd_1156 wd_1157 wd_1001 (by decide) wd_1161 (st0 := []) rfl rfl (by decide) (Nat.le_of_ble_eq_true rfl) dJ4_length_8abf5_1 (fun _ _ _ h => VX_out rfl (by decide) h) fun t101 u102 => ?_
  exact V_ireturn (κ := KJ4_length_8abf5) (pc := 4) rfl rfl dJ4_length_8abf5_4
theorem con_J4_length_8abf5 (a0 : Int) (μ : Mem) : Con (5) yJ4_length_8abf5 (.code yJ4_length_8abf5 cJ4_length_8abf5 1 (some .int)) 0 [(2, a0)] μ (FJ4_length_8abf5 a0 μ) := Con_intro KJ4_length_8abf5 (plainFor_of_name (by decide)) rfl (fun h => by cases h) (by decide) rfl (Nat.le_of_ble_eq_true rfl) (fun Γ => VBJ4_length_8abf5_0 _ _)
abbrev KJ5_getValue_6d5f1 : Kap := (RJ5, cJ5_getValue_6d5f1, 1, 4, 2, (some (.array .byte)), false, [])
theorem VBJ5_getValue_6d5f1_0 {Γ : Gam} (x0 : Int) (μ : Mem) : V Γ KJ5_getValue_6d5f1 0 [(0, (2, x0))] [] μ (BJ5_getValue_6d5f1_0 x0 μ) := by
  unfold BJ5_getValue_6d5f1_0
  refine V_aload_n (κ := KJ5_getValue_6d5f1) (pc := 0) dJ5_getValue_6d5f1_0 0 rfl rfl ?_
  refine V_getf 10 (κ := KJ5_getValue_6d5f1) (pc := 1) rfl (by decide) rfl inJ4 0 (by decide) wd_989 rfl (t := 2) rfl dJ5_getValue_6d5f1_1 fun t101 => ?_
  exact V_areturn (κ := KJ5_getValue_6d5f1) (pc := 4) rfl rfl (by first | exact Or.inl ⟨_, rfl⟩ | exact Or.inr ⟨_, rfl⟩) dJ5_getValue_6d5f1_4
theorem con_J5_getValue_6d5f1 (a0 : Int) (μ : Mem) : Con (4) yJ5_getValue_6d5f1 (.code yJ5_getValue_6d5f1 cJ5_getValue_6d5f1 1 (some (.array .byte))) 2 [(2, a0)] μ (FJ5_getValue_6d5f1 a0 μ) := Con_intro KJ5_getValue_6d5f1 (plainFor_of_name (by decide)) rfl (fun h => by cases h) (by decide) rfl (Nat.le_of_ble_eq_true rfl) (fun Γ => VBJ5_getValue_6d5f1_0 _ _)
abbrev KJ7_checkLength_df160 : Kap := (RJ7, cJ7_checkLength_df160, 2, 6, 9, none, false, [])
theorem VBJ7_checkLength_df160_0 {Γ : Gam} (x0 x1 : Int) (μ : Mem) : V Γ KJ7_checkLength_df160 0 [(0, (0, x0)), (1, (0, x1))] [] μ (BJ7_checkLength_df160_0 x0 x1 μ) := by
  unfold BJ7_checkLength_df160_0
  refine V_iload_n (κ := KJ7_checkLength_df160) (pc := 0) dJ7_checkLength_df160_0 1 rfl ?_
  refine V_iload_n (κ := KJ7_checkLength_df160) (pc := 1) dJ7_checkLength_df160_1 0 rfl ?_
  refine V_icmp_ge (κ := KJ7_checkLength_df160) (pc := 2) (tgt := 37) dJ7_checkLength_df160_2 rfl ?_ ?_
  · exact V_vreturn (κ := KJ7_checkLength_df160) (pc := 37) rfl rfl dJ7_checkLength_df160_37
  exact V_none
theorem con_J7_checkLength_df160 (a0 a1 : Int) (μ : Mem) : Con (6) yJ7_checkLength_df160 (.code yJ7_checkLength_df160 cJ7_checkLength_df160 2 none) 9 [(0, a0), (0, a1)] μ (FJ7_checkLength_df160 a0 a1 μ) := Con_intro KJ7_checkLength_df160 (plainFor_of_name (by decide)) rfl (fun h => by cases h) (by decide) rfl (Nat.le_of_ble_eq_true rfl) (fun Γ => VBJ7_checkLength_df160_0 _ _ _)
abbrev KJ7_copyOfRangeByte_39247 : Kap := (RJ7, cJ7_copyOfRangeByte_39247, 5, 7, 2, (some (.array .byte)), false, [])
theorem VBJ7_copyOfRangeByte_39247_0 {Γ : Gam} (x0 x1 x2 : Int) (μ : Mem) : V Γ KJ7_copyOfRangeByte_39247 0 [(0, (2, x0)), (1, (0, x1)), (2, (0, x2))] [] μ (BJ7_copyOfRangeByte_39247_0 x0 x1 x2 μ) := by
  unfold BJ7_copyOfRangeByte_39247_0
  refine V_iload_n (κ := KJ7_copyOfRangeByte_39247) (pc := 0) dJ7_copyOfRangeByte_39247_0 1 rfl ?_
  refine V_iload_n (κ := KJ7_copyOfRangeByte_39247) (pc := 1) dJ7_copyOfRangeByte_39247_1 2 rfl ?_
  refine V_callS (κ := KJ7_copyOfRangeByte_39247) (pc := 2) (con_J7_checkLength_df160 _ _ _) mth_J7_checkLength_df160 wd_1171 wd_1170 (st0 := []) rfl rfl (by decide) (Nat.le_of_ble_eq_true rfl) dJ7_copyOfRangeByte_39247_2 (fun _ _ _ h => VX_out rfl (by decide) h) fun _ u102 => ?_
  refine V_iload_n (κ := KJ7_copyOfRangeByte_39247) (pc := 5) dJ7_copyOfRangeByte_39247_5 2 rfl ?_
  refine V_iload_n (κ := KJ7_copyOfRangeByte_39247) (pc := 6) dJ7_copyOfRangeByte_39247_6 1 rfl ?_
  refine V_isub (κ := KJ7_copyOfRangeByte_39247) (pc := 7) dJ7_copyOfRangeByte_39247_7 ?_
  refine V_LT fun x103 => ?_
  refine V_istore_n (κ := KJ7_copyOfRangeByte_39247) (pc := 8) (lv' := [(3, (0, x103)), (0, (2, x0)), (1, (0, x1)), (2, (0, x2))]) dJ7_copyOfRangeByte_39247_8 (by decide) rfl ?_
  refine V_iload_n (κ := KJ7_copyOfRangeByte_39247) (pc := 9) dJ7_copyOfRangeByte_39247_9 0 rfl ?_
  refine V_newarrayN 0 (by decide) (κ := KJ7_copyOfRangeByte_39247) (pc := 10) rfl wd_72 dJ7_copyOfRangeByte_39247_10 fun t104 u105 => ?_
  refine V_astore (κ := KJ7_copyOfRangeByte_39247) (pc := 12) (lv' := [(4, (2, t104)), (3, (0, x103)), (0, (2, x0)), (1, (0, x1)), (2, (0, x2))]) dJ7_copyOfRangeByte_39247_12 rfl (by decide) rfl ?_
  refine V_aload_n (κ := KJ7_copyOfRangeByte_39247) (pc := 14) dJ7_copyOfRangeByte_39247_14 2 rfl rfl ?_
  refine V_iload_n (κ := KJ7_copyOfRangeByte_39247) (pc := 15) dJ7_copyOfRangeByte_39247_15 3 rfl ?_
  refine V_aload (κ := KJ7_copyOfRangeByte_39247) (pc := 16) dJ7_copyOfRangeByte_39247_16 0 rfl rfl ?_
  refine V_iconst (κ := KJ7_copyOfRangeByte_39247) (pc := 18) dJ7_copyOfRangeByte_39247_18 ⟨by decide, by decide⟩ ?_
  refine V_aload_n (κ := KJ7_copyOfRangeByte_39247) (pc := 19) dJ7_copyOfRangeByte_39247_19 2 rfl rfl ?_
  refine V_alen 0 (by decide) (κ := KJ7_copyOfRangeByte_39247) (pc := 20) dJ7_copyOfRangeByte_39247_20 fun t106 => ?_
  refine V_iload_n (κ := KJ7_copyOfRangeByte_39247) (pc := 21) dJ7_copyOfRangeByte_39247_21 3 rfl ?_
  refine V_isub (κ := KJ7_copyOfRangeByte_39247) (pc := 22) dJ7_copyOfRangeByte_39247_22 ?_
  refine V_iload_n (κ := KJ7_copyOfRangeByte_39247) (pc := 23) dJ7_copyOfRangeByte_39247_23 1 rfl ?_
  refine V_callS (κ := KJ7_copyOfRangeByte_39247) (pc := 24) (con_J9_min_7cf53 _ _ _) mth_J9_min_7cf53 wd_502 wd_670 (st0 := [(0, 0), (2, t104), (0, x1), (2, x0)]) rfl rfl (by decide) (Nat.le_of_ble_eq_true rfl) dJ7_copyOfRangeByte_39247_24 (fun _ _ _ h => VX_out rfl (by decide) h) fun t107 u108 => ?_
  refine V_acopyB (κ := KJ7_copyOfRangeByte_39247) (pc := 27) (by decide) wd_671 wd_496 wd_495 wd_8 (by first | decide | (simp [nativeFrameWords, catA]; done) | exact Nat.le_of_ble_eq_true rfl) dJ7_copyOfRangeByte_39247_27 fun u109 => ?_
  refine V_aload (κ := KJ7_copyOfRangeByte_39247) (pc := 30) dJ7_copyOfRangeByte_39247_30 0 rfl rfl ?_
  exact V_areturn (κ := KJ7_copyOfRangeByte_39247) (pc := 32) rfl rfl (by first | exact Or.inl ⟨_, rfl⟩ | exact Or.inr ⟨_, rfl⟩) dJ7_copyOfRangeByte_39247_32
theorem con_J7_copyOfRangeByte_39247 (a0 a1 a2 : Int) (μ : Mem) : Con (7) yJ7_copyOfRangeByte_39247 (.code yJ7_copyOfRangeByte_39247 cJ7_copyOfRangeByte_39247 5 (some (.array .byte))) 2 [(2, a0), (0, a1), (0, a2)] μ (FJ7_copyOfRangeByte_39247 a0 a1 a2 μ) := Con_intro KJ7_copyOfRangeByte_39247 (plainFor_of_name (by decide)) rfl (fun h => by cases h) (by decide) rfl (Nat.le_of_ble_eq_true rfl) (fun Γ => VBJ7_copyOfRangeByte_39247_0 _ _ _ _)
abbrev KJ7_copyOfRange_39247 : Kap := (RJ7, cJ7_copyOfRange_39247, 3, 8, 2, (some (.array .byte)), false, [])
theorem VBJ7_copyOfRange_39247_10 {Γ : Gam} (x0 x1 x2 : Int) (μ : Mem) : V Γ KJ7_copyOfRange_39247 10 [(0, (2, x0)), (1, (0, x1)), (2, (0, x2))] [] μ (BJ7_copyOfRange_39247_10 x0 x1 x2 μ) := by
  unfold BJ7_copyOfRange_39247_10
  refine V_aload_n (κ := KJ7_copyOfRange_39247) (pc := 10) dJ7_copyOfRange_39247_10 0 rfl rfl ?_
  refine V_iload_n (κ := KJ7_copyOfRange_39247) (pc := 11) dJ7_copyOfRange_39247_11 1 rfl ?_
  refine V_iload_n (κ := KJ7_copyOfRange_39247) (pc := 12) dJ7_copyOfRange_39247_12 2 rfl ?_
  refine V_callS (κ := KJ7_copyOfRange_39247) (pc := 13) (con_J7_copyOfRangeByte_39247 _ _ _ _) mth_J7_copyOfRangeByte_39247 wd_1168 wd_1167 (st0 := []) rfl rfl (by decide) (Nat.le_of_ble_eq_true rfl) dJ7_copyOfRange_39247_13 (fun _ _ _ h => VX_out rfl (by decide) h) fun t101 u102 => ?_
  exact V_areturn (κ := KJ7_copyOfRange_39247) (pc := 16) rfl rfl (by first | exact Or.inl ⟨_, rfl⟩ | exact Or.inr ⟨_, rfl⟩) dJ7_copyOfRange_39247_16
theorem VBJ7_copyOfRange_39247_0 {Γ : Gam} (x0 x1 x2 : Int) (μ : Mem) : V Γ KJ7_copyOfRange_39247 0 [(0, (2, x0)), (1, (0, x1)), (2, (0, x2))] [] μ (BJ7_copyOfRange_39247_0 x0 x1 x2 μ) := by
  unfold BJ7_copyOfRange_39247_0
  refine V_iload_n (κ := KJ7_copyOfRange_39247) (pc := 0) dJ7_copyOfRange_39247_0 1 rfl ?_
  refine V_if_ne (κ := KJ7_copyOfRange_39247) (pc := 1) (tgt := 10) dJ7_copyOfRange_39247_1 rfl ?_ ?_
  · exact VBJ7_copyOfRange_39247_10 _ _ _ _
  refine V_iload_n (κ := KJ7_copyOfRange_39247) (pc := 4) dJ7_copyOfRange_39247_4 2 rfl ?_
  refine V_aload_n (κ := KJ7_copyOfRange_39247) (pc := 5) dJ7_copyOfRange_39247_5 0 rfl rfl ?_
  refine V_alen 0 (by decide) (κ := KJ7_copyOfRange_39247) (pc := 6) dJ7_copyOfRange_39247_6 fun t101 => ?_
  refine V_icmp_eq (κ := KJ7_copyOfRange_39247) (pc := 7) (tgt := 17) dJ7_copyOfRange_39247_7 rfl ?_ ?_
  · refine V_aload_n (κ := KJ7_copyOfRange_39247) (pc := 17) dJ7_copyOfRange_39247_17 0 rfl rfl ?_
    refine V_clone (κ := KJ7_copyOfRange_39247) (pc := 18) (by decide) wd_1040 wd_1041 wd_891 wd_892 wd_1042 (Nat.le_of_ble_eq_true rfl) dJ7_copyOfRange_39247_18 fun t102 u103 => ?_
    refine V_ccB (κ := KJ7_copyOfRange_39247) (pc := 21) wd_1044 dJ7_copyOfRange_39247_21 ?_
    exact V_areturn (κ := KJ7_copyOfRange_39247) (pc := 24) rfl rfl (by first | exact Or.inl ⟨_, rfl⟩ | exact Or.inr ⟨_, rfl⟩) dJ7_copyOfRange_39247_24
  exact VBJ7_copyOfRange_39247_10 _ _ _ _
theorem con_J7_copyOfRange_39247 (a0 a1 a2 : Int) (μ : Mem) : Con (8) yJ7_copyOfRange_39247 (.code yJ7_copyOfRange_39247 cJ7_copyOfRange_39247 3 (some (.array .byte))) 2 [(2, a0), (0, a1), (0, a2)] μ (FJ7_copyOfRange_39247 a0 a1 a2 μ) := Con_intro KJ7_copyOfRange_39247 (plainFor_of_name (by decide)) rfl (fun h => by cases h) (by decide) rfl (Nat.le_of_ble_eq_true rfl) (fun Γ => VBJ7_copyOfRange_39247_0 _ _ _ _)
abbrev KJ0_init_db425 : Kap := (RJ0, cJ0_init_db425, 5, 9, 9, none, true, [])
theorem VBJ0_init_db425_97 {Γ : Gam} (μ : Mem) : V Γ KJ0_init_db425 97 [] [] μ (BJ0_init_db425_97 μ) := by
  unfold BJ0_init_db425_97
  exact V_vreturn (κ := KJ0_init_db425) (pc := 97) rfl rfl dJ0_init_db425_97
theorem VBJ0_init_db425_79 {Γ : Gam} (x0 x3 x4 : Int) (μ : Mem) : V Γ KJ0_init_db425 79 [(0, (2, x0)), (3, (2, x3)), (4, (0, x4))] [] μ (BJ0_init_db425_79 x0 x3 x4 μ) := by
  unfold BJ0_init_db425_79
  refine V_aload_n (κ := KJ0_init_db425) (pc := 79) dJ0_init_db425_79 0 rfl rfl ?_
  refine V_iconst (κ := KJ0_init_db425) (pc := 80) dJ0_init_db425_80 ⟨by decide, by decide⟩ ?_
  refine V_putbF rfl 9 (κ := KJ0_init_db425) (pc := 81) rfl (by decide) rfl inJ0 tyJ0 tyJ0_ok nmJ0 1 (by decide) wd_1184 rfl rfl rfl rfl rfl dJ0_init_db425_81 fun u101 => ?_
  refine V_aload_n (κ := KJ0_init_db425) (pc := 84) dJ0_init_db425_84 0 rfl rfl ?_
  refine V_aload_n (κ := KJ0_init_db425) (pc := 85) dJ0_init_db425_85 1 rfl rfl ?_
  refine V_iconst (κ := KJ0_init_db425) (pc := 86) dJ0_init_db425_86 ⟨by decide, by decide⟩ ?_
  refine V_iload (κ := KJ0_init_db425) (pc := 87) dJ0_init_db425_87 2 rfl ?_
  refine V_iconst (κ := KJ0_init_db425) (pc := 89) dJ0_init_db425_89 ⟨by decide, by decide⟩ ?_
  refine V_ishl (κ := KJ0_init_db425) (pc := 90) dJ0_init_db425_90 ?_
  refine V_callS (κ := KJ0_init_db425) (pc := 91) (con_J7_copyOfRange_39247 _ _ _ _) mth_J7_copyOfRange_39247 wd_1165 wd_1164 (st0 := [(2, x0)]) rfl rfl (by decide) (Nat.le_of_ble_eq_true rfl) dJ0_init_db425_91 (fun _ _ _ h => VX_out rfl (by decide) h) fun t102 u103 => ?_
  refine V_putfF rfl 9 (κ := KJ0_init_db425) (pc := 94) rfl (by decide) rfl inJ0 tyJ0 tyJ0_ok nmJ0 0 (by decide) wd_1183 rfl rfl rfl (t := 2) rfl rfl dJ0_init_db425_94 fun u104 => ?_
  refine V_sub (lv' := []) [] rfl ?_
  exact VBJ0_init_db425_97 _
theorem VBJ0_init_db425_0 {Γ : Gam} (x0 x1 : Int) (μ : Mem) : V Γ KJ0_init_db425 0 [(0, (2, x0)), (1, (2, x1))] [] μ (BJ0_init_db425_0 x0 x1 μ) := by
  unfold BJ0_init_db425_0
  refine V_aload_n (κ := KJ0_init_db425) (pc := 0) dJ0_init_db425_0 0 rfl rfl ?_
  refine V_objInitN (κ := KJ0_init_db425) (pc := 1) (by decide) wd_1149 wd_37 wd_38 (Nat.le_of_ble_eq_true rfl) dJ0_init_db425_1 (ci := 0) ?_
  refine V_aload_n (κ := KJ0_init_db425) (pc := 4) dJ0_init_db425_4 1 rfl rfl ?_
  refine V_callU (ci := 10) (T := TJ4) (N := 4) rfl (by decide) (κ := KJ0_init_db425) (pc := 5) (con_J5_getValue_6d5f1 _ _) mth_J5_getValue_6d5f1 ⟨wd_1151, wd_1153⟩ wd_1152 wd_1150 (st0 := []) rfl rfl (by decide) (Nat.le_of_ble_eq_true rfl) dJ0_init_db425_5 (fun _ _ _ h => VX_out rfl (by decide) h) fun t101 u102 => ?_
  refine V_astore_n (κ := KJ0_init_db425) (pc := 8) (lv' := [(3, (2, t101)), (0, (2, x0)), (1, (2, x1))]) dJ0_init_db425_8 rfl (by decide) rfl ?_
  refine V_aload_n (κ := KJ0_init_db425) (pc := 9) dJ0_init_db425_9 2 rfl rfl ?_
  refine V_callO (ci := 10) (T := TJ4) (N := 4) rfl (by decide) (κ := KJ0_init_db425) (pc := 10) (con_J4_length_8abf5 _ _) mth_J4_length_8abf5 ⟨wd_1159, wd_1158⟩ wd_1157 wd_1156 wd_1162 (by decide +kernel) wd_1155 (st0 := []) rfl rfl (by decide) (Nat.le_of_ble_eq_true rfl) dJ0_init_db425_10 (fun _ _ _ h => VX_out rfl (by decide) h) fun t103 u104 => ?_
  refine V_istore (κ := KJ0_init_db425) (pc := 13) (lv' := [(4, (0, t103)), (3, (2, t101)), (0, (2, x0)), (1, (2, x1))]) dJ0_init_db425_13 (by decide) rfl ?_
  refine V_aload_n (κ := KJ0_init_db425) (pc := 15) dJ0_init_db425_15 3 rfl rfl ?_
  refine V_callU (ci := 10) (T := TJ4) (N := 4) rfl (by decide) (κ := KJ0_init_db425) (pc := 16) (con_J5_isLatin1_aae02 _ _) mth_J5_isLatin1_aae02 ⟨wd_1046, wd_1048⟩ wd_1047 wd_1163 (st0 := []) rfl rfl (by decide) (Nat.le_of_ble_eq_true rfl) dJ0_init_db425_16 (fun _ _ _ h => VX_out rfl (by decide) h) fun t105 u106 => ?_
  refine V_if_eq (κ := KJ0_init_db425) (pc := 19) (tgt := 41) dJ0_init_db425_19 rfl ?_ ?_
  · refine V_getCompact (κ := KJ0_init_db425) (pc := 41) wd_724 dJ0_init_db425_41 ?_
    refine V_if_eq (κ := KJ0_init_db425) (pc := 44) (tgt := 79) dJ0_init_db425_44 rfl ?_ ?_
    · refine V_sub (lv' := [(0, (2, x0)), (3, (2, t101)), (4, (0, t103))]) [2, 1, 0] rfl ?_
      exact VBJ0_init_db425_79 _ _ _ _
    refine V_aload_n (κ := KJ0_init_db425) (pc := 47) dJ0_init_db425_47 3 rfl rfl ?_
    refine V_getf 10 (κ := KJ0_init_db425) (pc := 48) rfl (by decide) rfl inJ4 2 (by decide) wd_991 rfl (t := 0) rfl dJ0_init_db425_48 fun t107 => ?_
    refine V_if_eq (κ := KJ0_init_db425) (pc := 51) (tgt := 79) dJ0_init_db425_51 rfl ?_ ?_
    · refine V_sub (lv' := [(0, (2, x0)), (3, (2, t101)), (4, (0, t103))]) [2, 1, 0] rfl ?_
      exact VBJ0_init_db425_79 _ _ _ _
    refine V_aload_n (κ := KJ0_init_db425) (pc := 54) dJ0_init_db425_54 2 rfl rfl ?_
    refine V_aload_n (κ := KJ0_init_db425) (pc := 55) dJ0_init_db425_55 1 rfl rfl ?_
    refine V_iconst (κ := KJ0_init_db425) (pc := 56) dJ0_init_db425_56 ⟨by decide, by decide⟩ ?_
    refine V_iload (κ := KJ0_init_db425) (pc := 57) dJ0_init_db425_57 0 rfl ?_
    exact V_none
  refine V_aload_n (κ := KJ0_init_db425) (pc := 22) dJ0_init_db425_22 2 rfl rfl ?_
  refine V_iconst (κ := KJ0_init_db425) (pc := 23) dJ0_init_db425_23 ⟨by decide, by decide⟩ ?_
  refine V_putbF rfl 9 (κ := KJ0_init_db425) (pc := 24) rfl (by decide) rfl inJ0 tyJ0 tyJ0_ok nmJ0 1 (by decide) wd_1184 rfl rfl rfl rfl rfl dJ0_init_db425_24 fun u108 => ?_
  refine V_aload_n (κ := KJ0_init_db425) (pc := 27) dJ0_init_db425_27 2 rfl rfl ?_
  refine V_aload_n (κ := KJ0_init_db425) (pc := 28) dJ0_init_db425_28 1 rfl rfl ?_
  refine V_iconst (κ := KJ0_init_db425) (pc := 29) dJ0_init_db425_29 ⟨by decide, by decide⟩ ?_
  refine V_iload (κ := KJ0_init_db425) (pc := 30) dJ0_init_db425_30 0 rfl ?_
  refine V_callS (κ := KJ0_init_db425) (pc := 32) (con_J7_copyOfRange_39247 _ _ _ _) mth_J7_copyOfRange_39247 wd_1165 wd_1164 (st0 := [(2, x0)]) rfl rfl (by decide) (Nat.le_of_ble_eq_true rfl) dJ0_init_db425_32 (fun _ _ _ h => VX_out rfl (by decide) h) fun t109 u110 => ?_
  refine V_putfF rfl 9 (κ := KJ0_init_db425) (pc := 35) rfl (by decide) rfl inJ0 tyJ0 tyJ0_ok nmJ0 0 (by decide) wd_1183 rfl rfl rfl (t := 2) rfl rfl dJ0_init_db425_35 fun u111 => ?_
  refine V_goto (κ := KJ0_init_db425) (pc := 38) (tgt := 97) dJ0_init_db425_38 rfl ?_
  refine V_sub (lv' := []) [] rfl ?_
  exact VBJ0_init_db425_97 _
theorem con_J0_init_db425 (a0 a1 a2 : Int) (μ : Mem) : Con (9) yJ0_init_db425 (.code yJ0_init_db425 cJ0_init_db425 5 none) 9 [(2, a0), (2, a1), (2, a2)] μ (FJ0_init_db425 a0 a1 a2 μ) := Con_intro KJ0_init_db425 (plainFor_of_name (by decide)) rfl (fun h => rfl) (by decide) rfl (Nat.le_of_ble_eq_true rfl) (fun Γ => V_sub (lv' := [(0, (2, a0)), (1, (2, a1))]) [0, 1] rfl (VBJ0_init_db425_0 _ _ _))
abbrev KJ0_init_81219 : Kap := (RJ0, cJ0_init_81219, 2, 10, 9, none, true, [])
theorem VBJ0_init_81219_0 {Γ : Gam} (x0 x1 : Int) (μ : Mem) : V Γ KJ0_init_81219 0 [(0, (2, x0)), (1, (2, x1))] [] μ (BJ0_init_81219_0 x0 x1 μ) := by
  unfold BJ0_init_81219_0
  refine V_aload_n (κ := KJ0_init_81219) (pc := 0) dJ0_init_81219_0 0 rfl rfl ?_
  refine V_aload_n (κ := KJ0_init_81219) (pc := 1) dJ0_init_81219_1 1 rfl rfl ?_
  refine V_NU fun h0 => ?_
  refine V_null (κ := KJ0_init_81219) (pc := 2) dJ0_init_81219_2 h0 ?_
  refine V_callI (ci := 9) (by decide) (κ := KJ0_init_81219) (pc := 3) (con_J0_init_db425 _ _ _ _) mth_J0_init_db425 rfl wd_1147 wd_1146 (st0 := []) rfl rfl (by decide) (Nat.le_of_ble_eq_true rfl) dJ0_init_81219_3 (fun _ _ _ h => VX_out rfl (by decide) h) fun _ u102 => ?_
  exact V_vreturn (κ := KJ0_init_81219) (pc := 6) rfl rfl dJ0_init_81219_6
theorem con_J0_init_81219 (a0 a1 : Int) (μ : Mem) : Con (10) yJ0_init_81219 (.code yJ0_init_81219 cJ0_init_81219 2 none) 9 [(2, a0), (2, a1)] μ (FJ0_init_81219 a0 a1 μ) := Con_intro KJ0_init_81219 (plainFor_of_name (by decide)) rfl (fun h => rfl) (by decide) rfl (Nat.le_of_ble_eq_true rfl) (fun Γ => VBJ0_init_81219_0 _ _ _)
abbrev KJ4_toString_0e30d : Kap := (RJ4, cJ4_toString_0e30d, 1, 11, 2, (some (.object "java/lang/String")), false, [])
theorem VBJ4_toString_0e30d_0 {Γ : Gam} (x0 : Int) (μ : Mem) : V Γ KJ4_toString_0e30d 0 [(0, (2, x0))] [] μ (BJ4_toString_0e30d_0 x0 μ) := by
  unfold BJ4_toString_0e30d_0
  refine V_newN 9 (κ := KJ4_toString_0e30d) (pc := 0) rfl (by decide) rfl rfl inJ0 tyJ0 tyJ0_ok (by decide) wd_1141 wd_1142 wd_3 dJ4_toString_0e30d_0 fun t101 u102 => ?_
  refine V_dup (κ := KJ4_toString_0e30d) (pc := 3) rfl dJ4_toString_0e30d_3 ?_
  refine V_aload_n (κ := KJ4_toString_0e30d) (pc := 4) dJ4_toString_0e30d_4 0 rfl rfl ?_
  refine V_callI (ci := 9) (by decide) (κ := KJ4_toString_0e30d) (pc := 5) (con_J0_init_81219 _ _ _) mth_J0_init_81219 rfl wd_1144 wd_1143 (st0 := [(2, t101)]) rfl rfl (by decide) (Nat.le_of_ble_eq_true rfl) dJ4_toString_0e30d_5 (fun _ _ _ h => VX_out rfl (by decide) h) fun _ u104 => ?_
  exact V_areturn (κ := KJ4_toString_0e30d) (pc := 8) rfl rfl (by first | exact Or.inl ⟨_, rfl⟩ | exact Or.inr ⟨_, rfl⟩) dJ4_toString_0e30d_8
theorem con_J4_toString_0e30d (a0 : Int) (μ : Mem) : Con (11) yJ4_toString_0e30d (.code yJ4_toString_0e30d cJ4_toString_0e30d 1 (some (.object "java/lang/String"))) 2 [(2, a0)] μ (FJ4_toString_0e30d a0 μ) := Con_intro KJ4_toString_0e30d (plainFor_of_name (by decide)) rfl (fun h => by cases h) (by decide) rfl (Nat.le_of_ble_eq_true rfl) (fun Γ => VBJ4_toString_0e30d_0 _ _)
abbrev KJ7_copyOf_6403c : Kap := (RJ7, cJ7_copyOf_6403c, 4, 5, 2, (some (.array (.object "java/lang/Object"))), false, [])
theorem VBJ7_copyOf_6403c_24 {Γ : Gam} (x0 x1 s0 : Int) (μ : Mem) : V Γ KJ7_copyOf_6403c 24 [(0, (2, x0)), (1, (0, x1))] [(2, s0)] μ (BJ7_copyOf_6403c_24 x0 x1 s0 μ) := by
  unfold BJ7_copyOf_6403c_24
  refine V_astore_n (κ := KJ7_copyOf_6403c) (pc := 24) (lv' := [(3, (2, s0)), (0, (2, x0)), (1, (0, x1))]) dJ7_copyOf_6403c_24 rfl (by decide) rfl ?_
  refine V_aload_n (κ := KJ7_copyOf_6403c) (pc := 25) dJ7_copyOf_6403c_25 1 rfl rfl ?_
  refine V_iconst (κ := KJ7_copyOf_6403c) (pc := 26) dJ7_copyOf_6403c_26 ⟨by decide, by decide⟩ ?_
  refine V_aload_n (κ := KJ7_copyOf_6403c) (pc := 27) dJ7_copyOf_6403c_27 0 rfl rfl ?_
  refine V_iconst (κ := KJ7_copyOf_6403c) (pc := 28) dJ7_copyOf_6403c_28 ⟨by decide, by decide⟩ ?_
  refine V_aload_n (κ := KJ7_copyOf_6403c) (pc := 29) dJ7_copyOf_6403c_29 1 rfl rfl ?_
  refine V_alen 2 (by decide) (κ := KJ7_copyOf_6403c) (pc := 30) dJ7_copyOf_6403c_30 fun t101 => ?_
  refine V_iload_n (κ := KJ7_copyOf_6403c) (pc := 31) dJ7_copyOf_6403c_31 2 rfl ?_
  refine V_callS (κ := KJ7_copyOf_6403c) (pc := 32) (con_J9_min_7cf53 _ _ _) mth_J9_min_7cf53 wd_502 wd_670 (st0 := [(0, 0), (2, s0), (0, 0), (2, x0)]) rfl rfl (by decide) (Nat.le_of_ble_eq_true rfl) dJ7_copyOf_6403c_32 (fun _ _ _ h => VX_out rfl (by decide) h) fun t102 u103 => ?_
  refine V_acopyQ (κ := KJ7_copyOf_6403c) (pc := 35) (by decide) wd_671 wd_496 wd_495 wd_8 (by first | decide | (simp [nativeFrameWords, catA]; done) | exact Nat.le_of_ble_eq_true rfl) dJ7_copyOf_6403c_35 fun u104 => ?_
  refine V_aload_n (κ := KJ7_copyOf_6403c) (pc := 38) dJ7_copyOf_6403c_38 0 rfl rfl ?_
  exact V_areturn (κ := KJ7_copyOf_6403c) (pc := 39) rfl rfl (by first | exact Or.inl ⟨_, rfl⟩ | exact Or.inr ⟨_, rfl⟩) dJ7_copyOf_6403c_39
theorem VBJ7_copyOf_6403c_0 {Γ : Gam} (x0 x1 x2 : Int) (μ : Mem) : V Γ KJ7_copyOf_6403c 0 [(0, (2, x0)), (1, (0, x1)), (2, (5, x2))] [] μ (BJ7_copyOf_6403c_0 x0 x1 x2 μ) := by
  unfold BJ7_copyOf_6403c_0
  refine V_aload_n (κ := KJ7_copyOf_6403c) (pc := 0) dJ7_copyOf_6403c_0 2 rfl rfl ?_
  refine V_ldcM (κ := KJ7_copyOf_6403c) (pc := 1) wd_667 dJ7_copyOf_6403c_1 ?_
  refine V_acmpM (κ := KJ7_copyOf_6403c) (pc := 3) rfl dJ7_copyOf_6403c_3 (tgt := 13) rfl ?_
  refine V_iload_n (κ := KJ7_copyOf_6403c) (pc := 6) dJ7_copyOf_6403c_6 1 rfl ?_
  refine V_anewarrayN 2 (by decide) (κ := KJ7_copyOf_6403c) (pc := 7) rfl rfl wd_669 (fun G s h => h.2.2.2.2.2.2.2.2.2.2.2.2.2.2.1) dJ7_copyOf_6403c_7 fun t101 u102 => ?_
  refine V_goto (κ := KJ7_copyOf_6403c) (pc := 10) (tgt := 24) dJ7_copyOf_6403c_10 rfl ?_
  refine V_sub (lv' := [(0, (2, x0)), (1, (0, x1))]) [0, 1] rfl ?_
  exact VBJ7_copyOf_6403c_24 _ _ _ _
theorem con_J7_copyOf_6403c (a0 a1 a2 : Int) (μ : Mem) : Con (5) yJ7_copyOf_6403c (.code yJ7_copyOf_6403c cJ7_copyOf_6403c 4 (some (.array (.object "java/lang/Object")))) 2 [(2, a0), (0, a1), (5, a2)] μ (FJ7_copyOf_6403c a0 a1 a2 μ) := Con_intro KJ7_copyOf_6403c (plainFor_of_name (by decide)) rfl (fun h => by cases h) (by decide) rfl (Nat.le_of_ble_eq_true rfl) (fun Γ => VBJ7_copyOf_6403c_0 _ _ _ _)
abbrev KJ7_copyOf_1904c : Kap := (RJ7, cJ7_copyOf_1904c, 2, 6, 2, (some (.array (.object "java/lang/Object"))), false, [])
theorem VBJ7_copyOf_1904c_0 {Γ : Gam} (x0 x1 : Int) (μ : Mem) : V Γ KJ7_copyOf_1904c 0 [(0, (2, x0)), (1, (0, x1))] [] μ (BJ7_copyOf_1904c_0 x0 x1 μ) := by
  unfold BJ7_copyOf_1904c_0
  refine V_aload_n (κ := KJ7_copyOf_1904c) (pc := 0) dJ7_copyOf_1904c_0 0 rfl rfl ?_
  refine V_iload_n (κ := KJ7_copyOf_1904c) (pc := 1) dJ7_copyOf_1904c_1 1 rfl ?_
  refine V_aload_n (κ := KJ7_copyOf_1904c) (pc := 2) dJ7_copyOf_1904c_2 0 rfl rfl ?_
  refine V_getC (κ := KJ7_copyOf_1904c) (pc := 3) (by decide) wd_646 wd_1239 wd_647 wd_663 (Nat.le_of_ble_eq_true rfl) dJ7_copyOf_1904c_3 ?_
  refine V_callS (κ := KJ7_copyOf_1904c) (pc := 6) (con_J7_copyOf_6403c _ _ _ _) mth_J7_copyOf_6403c wd_665 wd_664 (st0 := []) rfl rfl (by decide) (Nat.le_of_ble_eq_true rfl) dJ7_copyOf_1904c_6 (fun _ _ _ h => VX_out rfl (by decide) h) fun t101 u102 => ?_
  exact V_areturn (κ := KJ7_copyOf_1904c) (pc := 9) rfl rfl (by first | exact Or.inl ⟨_, rfl⟩ | exact Or.inr ⟨_, rfl⟩) dJ7_copyOf_1904c_9
theorem con_J7_copyOf_1904c (a0 a1 : Int) (μ : Mem) : Con (6) yJ7_copyOf_1904c (.code yJ7_copyOf_1904c cJ7_copyOf_1904c 2 (some (.array (.object "java/lang/Object")))) 2 [(2, a0), (0, a1)] μ (FJ7_copyOf_1904c a0 a1 μ) := Con_intro KJ7_copyOf_1904c (plainFor_of_name (by decide)) rfl (fun h => by cases h) (by decide) rfl (Nat.le_of_ble_eq_true rfl) (fun Γ => VBJ7_copyOf_1904c_0 _ _ _)
abbrev KJx4a65c_grow_92f84 : Kap := (RJx4a65c, cJx4a65c_grow_92f84, 4, 7, 2, (some (.array (.object "java/lang/Object"))), false, [])
theorem VBJx4a65c_grow_92f84_20 {Γ : Gam} (x0 x1 x2 : Int) (μ : Mem) : V Γ KJx4a65c_grow_92f84 20 [(0, (2, x0)), (1, (0, x1)), (2, (0, x2))] [] μ (BJx4a65c_grow_92f84_20 x0 x1 x2 μ) := by
  unfold BJx4a65c_grow_92f84_20
  refine V_iload_n (κ := KJx4a65c_grow_92f84) (pc := 20) dJx4a65c_grow_92f84_20 2 rfl ?_
  refine V_iload_n (κ := KJx4a65c_grow_92f84) (pc := 21) dJx4a65c_grow_92f84_21 1 rfl ?_
  refine V_iload_n (κ := KJx4a65c_grow_92f84) (pc := 22) dJx4a65c_grow_92f84_22 2 rfl ?_
  refine V_isub (κ := KJx4a65c_grow_92f84) (pc := 23) dJx4a65c_grow_92f84_23 ?_
  refine V_iload_n (κ := KJx4a65c_grow_92f84) (pc := 24) dJx4a65c_grow_92f84_24 2 rfl ?_
  refine V_iconst (κ := KJx4a65c_grow_92f84) (pc := 25) dJx4a65c_grow_92f84_25 ⟨by decide, by decide⟩ ?_
  refine V_ishr (κ := KJx4a65c_grow_92f84) (pc := 26) dJx4a65c_grow_92f84_26 ?_
  refine V_callS (κ := KJx4a65c_grow_92f84) (pc := 27) (con_J8_newLength_cabcc _ _ _ _) mth_J8_newLength_cabcc wd_636 wd_635 (st0 := []) rfl rfl (by decide) (Nat.le_of_ble_eq_true rfl) dJx4a65c_grow_92f84_27 (fun _ _ _ h => VX_out rfl (by decide) h) fun t101 u102 => ?_
  refine V_istore_n (κ := KJx4a65c_grow_92f84) (pc := 30) (lv' := [(3, (0, t101)), (0, (2, x0)), (1, (0, x1)), (2, (0, x2))]) dJx4a65c_grow_92f84_30 (by decide) rfl ?_
  refine V_aload_n (κ := KJx4a65c_grow_92f84) (pc := 31) dJx4a65c_grow_92f84_31 1 rfl rfl ?_
  refine V_aload_n (κ := KJx4a65c_grow_92f84) (pc := 32) dJx4a65c_grow_92f84_32 1 rfl rfl ?_
  refine V_getf 11 (κ := KJx4a65c_grow_92f84) (pc := 33) rfl (by decide) rfl inJx4a65c 1 (by decide) wd_557 rfl (t := 2) rfl dJx4a65c_grow_92f84_33 fun t103 => ?_
  refine V_iload_n (κ := KJx4a65c_grow_92f84) (pc := 36) dJx4a65c_grow_92f84_36 0 rfl ?_
  refine V_callS (κ := KJx4a65c_grow_92f84) (pc := 37) (con_J7_copyOf_1904c _ _ _) mth_J7_copyOf_1904c wd_644 wd_643 (st0 := [(2, x0)]) rfl rfl (by decide) (Nat.le_of_ble_eq_true rfl) dJx4a65c_grow_92f84_37 (fun _ _ _ h => VX_out rfl (by decide) h) fun t104 u105 => ?_
  refine V_dup_x1 (κ := KJx4a65c_grow_92f84) (pc := 40) rfl rfl dJx4a65c_grow_92f84_40 ?_
  refine V_putf 11 (κ := KJx4a65c_grow_92f84) (pc := 41) rfl (by decide) rfl inJx4a65c tyJx4a65c tyJx4a65c_ok nmJx4a65c 1 (by decide) wd_557 rfl rfl (t := 2) rfl rfl dJx4a65c_grow_92f84_41 fun u106 => ?_
  exact V_areturn (κ := KJx4a65c_grow_92f84) (pc := 44) rfl rfl (by first | exact Or.inl ⟨_, rfl⟩ | exact Or.inr ⟨_, rfl⟩) dJx4a65c_grow_92f84_44
theorem VBJx4a65c_grow_92f84_0 {Γ : Gam} (x0 x1 : Int) (μ : Mem) : V Γ KJx4a65c_grow_92f84 0 [(0, (2, x0)), (1, (0, x1))] [] μ (BJx4a65c_grow_92f84_0 x0 x1 μ) := by
  unfold BJx4a65c_grow_92f84_0
  refine V_aload_n (κ := KJx4a65c_grow_92f84) (pc := 0) dJx4a65c_grow_92f84_0 0 rfl rfl ?_
  refine V_getf 11 (κ := KJx4a65c_grow_92f84) (pc := 1) rfl (by decide) rfl inJx4a65c 1 (by decide) wd_557 rfl (t := 2) rfl dJx4a65c_grow_92f84_1 fun t101 => ?_
  refine V_alen 2 (by decide) (κ := KJx4a65c_grow_92f84) (pc := 4) dJx4a65c_grow_92f84_4 fun t102 => ?_
  refine V_istore_n (κ := KJx4a65c_grow_92f84) (pc := 5) (lv' := [(2, (0, t102)), (0, (2, x0)), (1, (0, x1))]) dJx4a65c_grow_92f84_5 (by decide) rfl ?_
  refine V_iload_n (κ := KJx4a65c_grow_92f84) (pc := 6) dJx4a65c_grow_92f84_6 0 rfl ?_
  refine V_if_gt (κ := KJx4a65c_grow_92f84) (pc := 7) (tgt := 20) dJx4a65c_grow_92f84_7 rfl ?_ ?_
  · refine V_sub (lv' := [(0, (2, x0)), (1, (0, x1)), (2, (0, t102))]) [1, 2, 0] rfl ?_
    exact VBJx4a65c_grow_92f84_20 _ _ _ _
  refine V_aload_n (κ := KJx4a65c_grow_92f84) (pc := 10) dJx4a65c_grow_92f84_10 1 rfl rfl ?_
  refine V_getf 11 (κ := KJx4a65c_grow_92f84) (pc := 11) rfl (by decide) rfl inJx4a65c 1 (by decide) wd_557 rfl (t := 2) rfl dJx4a65c_grow_92f84_11 fun t103 => ?_
  refine V_getEmpty (κ := KJx4a65c_grow_92f84) (pc := 14) wd_555 dJx4a65c_grow_92f84_14 ?_
  refine V_acmpQ (κ := KJx4a65c_grow_92f84) (pc := 17) dJx4a65c_grow_92f84_17 (tgt := 45) rfl ?_ ?_
  · refine V_aload_n (κ := KJx4a65c_grow_92f84) (pc := 45) dJx4a65c_grow_92f84_45 1 rfl rfl ?_
    refine V_bipush (κ := KJx4a65c_grow_92f84) (pc := 46) dJx4a65c_grow_92f84_46 ⟨by decide, by decide⟩ (by decide) ?_
    refine V_iload_n (κ := KJx4a65c_grow_92f84) (pc := 48) dJx4a65c_grow_92f84_48 2 rfl ?_
    refine V_callS (κ := KJx4a65c_grow_92f84) (pc := 49) (con_J9_max_7cf53 _ _ _) mth_J9_max_7cf53 wd_405 wd_672 (st0 := [(2, x0)]) rfl rfl (by decide) (Nat.le_of_ble_eq_true rfl) dJx4a65c_grow_92f84_49 (fun _ _ _ h => VX_out rfl (by decide) h) fun t104 u105 => ?_
    refine V_anewarrayN 2 (by decide) (κ := KJx4a65c_grow_92f84) (pc := 52) rfl rfl wd_673 (fun G s h => h.2.2.2.2.2.2.2.2.2.2.2.2.2.2.1) dJx4a65c_grow_92f84_52 fun t106 u107 => ?_
    refine V_dup_x1 (κ := KJx4a65c_grow_92f84) (pc := 55) rfl rfl dJx4a65c_grow_92f84_55 ?_
    refine V_putf 11 (κ := KJx4a65c_grow_92f84) (pc := 56) rfl (by decide) rfl inJx4a65c tyJx4a65c tyJx4a65c_ok nmJx4a65c 1 (by decide) wd_557 rfl rfl (t := 2) rfl rfl dJx4a65c_grow_92f84_56 fun u108 => ?_
    exact V_areturn (κ := KJx4a65c_grow_92f84) (pc := 59) rfl rfl (by first | exact Or.inl ⟨_, rfl⟩ | exact Or.inr ⟨_, rfl⟩) dJx4a65c_grow_92f84_59
  refine V_sub (lv' := [(0, (2, x0)), (1, (0, x1)), (2, (0, t102))]) [1, 2, 0] rfl ?_
  exact VBJx4a65c_grow_92f84_20 _ _ _ _
theorem con_Jx4a65c_grow_92f84 (a0 a1 : Int) (μ : Mem) : Con (7) yJx4a65c_grow_92f84 (.code yJx4a65c_grow_92f84 cJx4a65c_grow_92f84 4 (some (.array (.object "java/lang/Object")))) 2 [(2, a0), (0, a1)] μ (FJx4a65c_grow_92f84 a0 a1 μ) := Con_intro KJx4a65c_grow_92f84 (plainFor_of_name (by decide)) rfl (fun h => by cases h) (by decide) rfl (Nat.le_of_ble_eq_true rfl) (fun Γ => VBJx4a65c_grow_92f84_0 _ _ _)
abbrev KJx4a65c_grow_d5877 : Kap := (RJx4a65c, cJx4a65c_grow_d5877, 1, 8, 2, (some (.array (.object "java/lang/Object"))), false, [])
theorem VBJx4a65c_grow_d5877_0 {Γ : Gam} (x0 : Int) (μ : Mem) : V Γ KJx4a65c_grow_d5877 0 [(0, (2, x0))] [] μ (BJx4a65c_grow_d5877_0 x0 μ) := by
  unfold BJx4a65c_grow_d5877_0
  refine V_aload_n (κ := KJx4a65c_grow_d5877) (pc := 0) dJx4a65c_grow_d5877_0 0 rfl rfl ?_
  refine V_aload_n (κ := KJx4a65c_grow_d5877) (pc := 1) dJx4a65c_grow_d5877_1 0 rfl rfl ?_
  refine V_getf 11 (κ := KJx4a65c_grow_d5877) (pc := 2) rfl (by decide) rfl inJx4a65c 2 (by decide) wd_558 rfl (t := 0) rfl dJx4a65c_grow_d5877_2 fun t101 => ?_
  refine V_iconst (κ := KJx4a65c_grow_d5877) (pc := 5) dJx4a65c_grow_d5877_5 ⟨by decide, by decide⟩ ?_
  refine V_iadd (κ := KJx4a65c_grow_d5877) (pc := 6) dJx4a65c_grow_d5877_6 ?_
  refine V_callV (ci := 11) (T := TJx4a65c) (N := 3) rfl (by decide) (κ := KJx4a65c_grow_d5877) (pc := 7) (con_Jx4a65c_grow_92f84 _ _ _) mth_Jx4a65c_grow_92f84 rfl ⟨wd_633, wp_13⟩ wd_631 (st0 := []) rfl rfl (by decide) (Nat.le_of_ble_eq_true rfl) dJx4a65c_grow_d5877_7 (fun _ _ _ h => VX_out rfl (by decide) h) fun t102 u103 => ?_
  exact V_areturn (κ := KJx4a65c_grow_d5877) (pc := 10) rfl rfl (by first | exact Or.inl ⟨_, rfl⟩ | exact Or.inr ⟨_, rfl⟩) dJx4a65c_grow_d5877_10
theorem con_Jx4a65c_grow_d5877 (a0 : Int) (μ : Mem) : Con (8) yJx4a65c_grow_d5877 (.code yJx4a65c_grow_d5877 cJx4a65c_grow_d5877 1 (some (.array (.object "java/lang/Object")))) 2 [(2, a0)] μ (FJx4a65c_grow_d5877 a0 μ) := Con_intro KJx4a65c_grow_d5877 (plainFor_of_name (by decide)) rfl (fun h => by cases h) (by decide) rfl (Nat.le_of_ble_eq_true rfl) (fun Γ => VBJx4a65c_grow_d5877_0 _ _)
abbrev KJx4a65c_add_72be8 : Kap := (RJx4a65c, cJx4a65c_add_72be8, 4, 9, 9, none, false, [])
theorem VBJx4a65c_add_72be8_11 {Γ : Gam} (x0 x1 x2 x3 : Int) (μ : Mem) : V Γ KJx4a65c_add_72be8 11 [(0, (2, x0)), (1, (2, x1)), (2, (2, x2)), (3, (0, x3))] [] μ (BJx4a65c_add_72be8_11 x0 x1 x2 x3 μ) := by
  unfold BJx4a65c_add_72be8_11
  refine V_aload_n (κ := KJx4a65c_add_72be8) (pc := 11) dJx4a65c_add_72be8_11 2 rfl rfl ?_
  refine V_iload_n (κ := KJx4a65c_add_72be8) (pc := 12) dJx4a65c_add_72be8_12 3 rfl ?_
  refine V_aload_n (κ := KJx4a65c_add_72be8) (pc := 13) dJx4a65c_add_72be8_13 1 rfl rfl ?_
  refine V_aastoreO (κ := KJx4a65c_add_72be8) (pc := 14) dJx4a65c_add_72be8_14 fun u101 => ?_
  refine V_aload_n (κ := KJx4a65c_add_72be8) (pc := 15) dJx4a65c_add_72be8_15 0 rfl rfl ?_
  refine V_iload_n (κ := KJx4a65c_add_72be8) (pc := 16) dJx4a65c_add_72be8_16 3 rfl ?_
  refine V_iconst (κ := KJx4a65c_add_72be8) (pc := 17) dJx4a65c_add_72be8_17 ⟨by decide, by decide⟩ ?_
  refine V_iadd (κ := KJx4a65c_add_72be8) (pc := 18) dJx4a65c_add_72be8_18 ?_
  refine V_putf 11 (κ := KJx4a65c_add_72be8) (pc := 19) rfl (by decide) rfl inJx4a65c tyJx4a65c tyJx4a65c_ok nmJx4a65c 2 (by decide) wd_558 rfl rfl (t := 0) rfl rfl dJx4a65c_add_72be8_19 fun u102 => ?_
  exact V_vreturn (κ := KJx4a65c_add_72be8) (pc := 22) rfl rfl dJx4a65c_add_72be8_22
theorem VBJx4a65c_add_72be8_0 {Γ : Gam} (x0 x1 x2 x3 : Int) (μ : Mem) : V Γ KJx4a65c_add_72be8 0 [(0, (2, x0)), (1, (2, x1)), (2, (2, x2)), (3, (0, x3))] [] μ (BJx4a65c_add_72be8_0 x0 x1 x2 x3 μ) := by
  unfold BJx4a65c_add_72be8_0
  refine V_iload_n (κ := KJx4a65c_add_72be8) (pc := 0) dJx4a65c_add_72be8_0 3 rfl ?_
  refine V_aload_n (κ := KJx4a65c_add_72be8) (pc := 1) dJx4a65c_add_72be8_1 2 rfl rfl ?_
  refine V_alen 2 (by decide) (κ := KJx4a65c_add_72be8) (pc := 2) dJx4a65c_add_72be8_2 fun t101 => ?_
  refine V_icmp_ne (κ := KJx4a65c_add_72be8) (pc := 3) (tgt := 11) dJx4a65c_add_72be8_3 rfl ?_ ?_
  · exact VBJx4a65c_add_72be8_11 _ _ _ _ _
  refine V_aload_n (κ := KJx4a65c_add_72be8) (pc := 6) dJx4a65c_add_72be8_6 0 rfl rfl ?_
  refine V_callV (ci := 11) (T := TJx4a65c) (N := 3) rfl (by decide) (κ := KJx4a65c_add_72be8) (pc := 7) (con_Jx4a65c_grow_d5877 _ _) mth_Jx4a65c_grow_d5877 rfl ⟨wd_629, wp_12⟩ wd_627 (st0 := []) rfl rfl (by decide) (Nat.le_of_ble_eq_true rfl) dJx4a65c_add_72be8_7 (fun _ _ _ h => VX_out rfl (by decide) h) fun t102 u103 => ?_
  refine V_astore_n (κ := KJx4a65c_add_72be8) (pc := 10) (lv' := [(2, (2, t102)), (0, (2, x0)), (1, (2, x1)), (3, (0, x3))]) dJx4a65c_add_72be8_10 rfl (by decide) rfl ?_
  refine V_sub (lv' := [(0, (2, x0)), (1, (2, x1)), (2, (2, t102)), (3, (0, x3))]) [1, 2, 0, 3] rfl ?_
  exact VBJx4a65c_add_72be8_11 _ _ _ _ _
theorem con_Jx4a65c_add_72be8 (a0 a1 a2 a3 : Int) (μ : Mem) : Con (9) yJx4a65c_add_72be8 (.code yJx4a65c_add_72be8 cJx4a65c_add_72be8 4 none) 9 [(2, a0), (2, a1), (2, a2), (0, a3)] μ (FJx4a65c_add_72be8 a0 a1 a2 a3 μ) := Con_intro KJx4a65c_add_72be8 (plainFor_of_name (by decide)) rfl (fun h => by cases h) (by decide) rfl (Nat.le_of_ble_eq_true rfl) (fun Γ => VBJx4a65c_add_72be8_0 _ _ _ _ _)
abbrev KJx4a65c_add_9ea2d : Kap := (RJx4a65c, cJx4a65c_add_9ea2d, 2, 10, 0, (some .boolean), false, [])
theorem VBJx4a65c_add_9ea2d_0 {Γ : Gam} (x0 x1 : Int) (μ : Mem) : V Γ KJx4a65c_add_9ea2d 0 [(0, (2, x0)), (1, (2, x1))] [] μ (BJx4a65c_add_9ea2d_0 x0 x1 μ) := by
  unfold BJx4a65c_add_9ea2d_0
  refine V_aload_n (κ := KJx4a65c_add_9ea2d) (pc := 0) dJx4a65c_add_9ea2d_0 0 rfl rfl ?_
  refine V_dup (κ := KJx4a65c_add_9ea2d) (pc := 1) rfl dJx4a65c_add_9ea2d_1 ?_
  refine V_getfS 11 (κ := KJx4a65c_add_9ea2d) (pc := 2) rfl (by decide) rfl inJx4a65c 0 (by decide) wd_560 wd_561 (t := 0) rfl dJx4a65c_add_9ea2d_2 fun t101 => ?_
  refine V_iconst (κ := KJx4a65c_add_9ea2d) (pc := 5) dJx4a65c_add_9ea2d_5 ⟨by decide, by decide⟩ ?_
  refine V_iadd (κ := KJx4a65c_add_9ea2d) (pc := 6) dJx4a65c_add_9ea2d_6 ?_
  refine V_putfS 11 (κ := KJx4a65c_add_9ea2d) (pc := 7) rfl (by decide) rfl inJx4a65c tyJx4a65c tyJx4a65c_ok nmJx4a65c 0 (by decide) wd_560 wd_561 rfl (t := 0) rfl rfl dJx4a65c_add_9ea2d_7 fun u102 => ?_
  refine V_aload_n (κ := KJx4a65c_add_9ea2d) (pc := 10) dJx4a65c_add_9ea2d_10 0 rfl rfl ?_
  refine V_aload_n (κ := KJx4a65c_add_9ea2d) (pc := 11) dJx4a65c_add_9ea2d_11 1 rfl rfl ?_
  refine V_aload_n (κ := KJx4a65c_add_9ea2d) (pc := 12) dJx4a65c_add_9ea2d_12 0 rfl rfl ?_
  refine V_getf 11 (κ := KJx4a65c_add_9ea2d) (pc := 13) rfl (by decide) rfl inJx4a65c 1 (by decide) wd_557 rfl (t := 2) rfl dJx4a65c_add_9ea2d_13 fun t103 => ?_
  refine V_aload_n (κ := KJx4a65c_add_9ea2d) (pc := 16) dJx4a65c_add_9ea2d_16 0 rfl rfl ?_
  refine V_getf 11 (κ := KJx4a65c_add_9ea2d) (pc := 17) rfl (by decide) rfl inJx4a65c 2 (by decide) wd_558 rfl (t := 0) rfl dJx4a65c_add_9ea2d_17 fun t104 => ?_
  refine V_callV (ci := 11) (T := TJx4a65c) (N := 3) rfl (by decide) (κ := KJx4a65c_add_9ea2d) (pc := 20) (con_Jx4a65c_add_72be8 _ _ _ _ _) mth_Jx4a65c_add_72be8 rfl ⟨wd_1206, wp_37⟩ wd_1204 (st0 := []) rfl rfl (by decide) (Nat.le_of_ble_eq_true rfl) dJx4a65c_add_9ea2d_20 (fun _ _ _ h => VX_out rfl (by decide) h) fun _ u106 => ?_
  refine V_iconst (κ := KJx4a65c_add_9ea2d) (pc := 23) dJx4a65c_add_9ea2d_23 ⟨by decide, by decide⟩ ?_
  exact V_zreturn (κ := KJx4a65c_add_9ea2d) (pc := 24) rfl rfl dJx4a65c_add_9ea2d_24
theorem con_Jx4a65c_add_9ea2d (a0 a1 : Int) (μ : Mem) : Con (10) yJx4a65c_add_9ea2d (.code yJx4a65c_add_9ea2d cJx4a65c_add_9ea2d 2 (some .boolean)) 0 [(2, a0), (2, a1)] μ (FJx4a65c_add_9ea2d a0 a1 μ) := Con_intro KJx4a65c_add_9ea2d (plainFor_of_name (by decide)) rfl (fun h => by cases h) (by decide) rfl (Nat.le_of_ble_eq_true rfl) (fun Γ => VBJx4a65c_add_9ea2d_0 _ _ _)
abbrev KJx4a65c_elementData_915e3 : Kap := (RJx4a65c, cJx4a65c_elementData_915e3, 2, 4, 2, (some (.object "java/lang/Object")), false, [])
theorem VBJx4a65c_elementData_915e3_0 {Γ : Gam} (x0 x1 : Int) (μ : Mem) : V Γ KJx4a65c_elementData_915e3 0 [(0, (2, x0)), (1, (0, x1))] [] μ (BJx4a65c_elementData_915e3_0 x0 x1 μ) := by
  unfold BJx4a65c_elementData_915e3_0
  refine V_aload_n (κ := KJx4a65c_elementData_915e3) (pc := 0) dJx4a65c_elementData_915e3_0 0 rfl rfl ?_
  refine V_getf 11 (κ := KJx4a65c_elementData_915e3) (pc := 1) rfl (by decide) rfl inJx4a65c 1 (by decide) wd_557 rfl (t := 2) rfl dJx4a65c_elementData_915e3_1 fun t101 => ?_
  refine V_iload_n (κ := KJx4a65c_elementData_915e3) (pc := 4) dJx4a65c_elementData_915e3_4 1 rfl ?_
  refine V_aaload 2 (by decide) rfl rfl (κ := KJx4a65c_elementData_915e3) (pc := 5) dJx4a65c_elementData_915e3_5 fun t102 => ?_
  exact V_areturn (κ := KJx4a65c_elementData_915e3) (pc := 6) rfl rfl (by first | exact Or.inl ⟨_, rfl⟩ | exact Or.inr ⟨_, rfl⟩) dJx4a65c_elementData_915e3_6
theorem con_Jx4a65c_elementData_915e3 (a0 a1 : Int) (μ : Mem) : Con (4) yJx4a65c_elementData_915e3 (.code yJx4a65c_elementData_915e3 cJx4a65c_elementData_915e3 2 (some (.object "java/lang/Object"))) 2 [(2, a0), (0, a1)] μ (FJx4a65c_elementData_915e3 a0 a1 μ) := Con_intro KJx4a65c_elementData_915e3 (plainFor_of_name (by decide)) rfl (fun h => by cases h) (by decide) rfl (Nat.le_of_ble_eq_true rfl) (fun Γ => VBJx4a65c_elementData_915e3_0 _ _ _)
abbrev KJx4a65c_get_915e3 : Kap := (RJx4a65c, cJx4a65c_get_915e3, 2, 5, 2, (some (.object "java/lang/Object")), false, [])
theorem VBJx4a65c_get_915e3_0 {Γ : Gam} (x0 x1 : Int) (μ : Mem) : V Γ KJx4a65c_get_915e3 0 [(0, (2, x0)), (1, (0, x1))] [] μ (BJx4a65c_get_915e3_0 x0 x1 μ) := by
  unfold BJx4a65c_get_915e3_0
  refine V_iload_n (κ := KJx4a65c_get_915e3) (pc := 0) dJx4a65c_get_915e3_0 1 rfl ?_
  refine V_aload_n (κ := KJx4a65c_get_915e3) (pc := 1) dJx4a65c_get_915e3_1 0 rfl rfl ?_
  refine V_getf 11 (κ := KJx4a65c_get_915e3) (pc := 2) rfl (by decide) rfl inJx4a65c 2 (by decide) wd_558 rfl (t := 0) rfl dJx4a65c_get_915e3_2 fun t101 => ?_
  refine V_chk15 (κ := KJx4a65c_get_915e3) (pc := 5) wd_605 (by decide) rfl (by decide) (Nat.le_of_ble_eq_true rfl) dJx4a65c_get_915e3_5 ?_
  refine V_pop (κ := KJx4a65c_get_915e3) (pc := 8) rfl dJx4a65c_get_915e3_8 ?_
  refine V_aload_n (κ := KJx4a65c_get_915e3) (pc := 9) dJx4a65c_get_915e3_9 0 rfl rfl ?_
  refine V_iload_n (κ := KJx4a65c_get_915e3) (pc := 10) dJx4a65c_get_915e3_10 1 rfl ?_
  refine V_callV (ci := 11) (T := TJx4a65c) (N := 3) rfl (by decide) (κ := KJx4a65c_get_915e3) (pc := 11) (con_Jx4a65c_elementData_915e3 _ _ _) mth_Jx4a65c_elementData_915e3 rfl ⟨wd_612, wd_613⟩ wd_611 (st0 := []) rfl rfl (by decide) (Nat.le_of_ble_eq_true rfl) dJx4a65c_get_915e3_11 (fun _ _ _ h => VX_out rfl (by decide) h) fun t102 u103 => ?_
  exact V_areturn (κ := KJx4a65c_get_915e3) (pc := 14) rfl rfl (by first | exact Or.inl ⟨_, rfl⟩ | exact Or.inr ⟨_, rfl⟩) dJx4a65c_get_915e3_14
theorem con_Jx4a65c_get_915e3 (a0 a1 : Int) (μ : Mem) : Con (5) yJx4a65c_get_915e3 (.code yJx4a65c_get_915e3 cJx4a65c_get_915e3 2 (some (.object "java/lang/Object"))) 2 [(2, a0), (0, a1)] μ (FJx4a65c_get_915e3 a0 a1 μ) := Con_intro KJx4a65c_get_915e3 (plainFor_of_name (by decide)) rfl (fun h => by cases h) (by decide) rfl (Nat.le_of_ble_eq_true rfl) (fun Γ => VBJx4a65c_get_915e3_0 _ _ _)
abbrev KJxa1e45_init_da8c8 : Kap := (RJxa1e45, cJxa1e45_init_da8c8, 1, 4, 9, none, true, [])
theorem VBJxa1e45_init_da8c8_0 {Γ : Gam} (x0 : Int) (μ : Mem) : V Γ KJxa1e45_init_da8c8 0 [(0, (2, x0))] [] μ (BJxa1e45_init_da8c8_0 x0 μ) := by
  unfold BJxa1e45_init_da8c8_0
  refine V_aload_n (κ := KJxa1e45_init_da8c8) (pc := 0) dJxa1e45_init_da8c8_0 0 rfl rfl ?_
  refine V_objInitN (κ := KJxa1e45_init_da8c8) (pc := 1) (by decide) wd_554 wd_37 wd_38 (Nat.le_of_ble_eq_true rfl) dJxa1e45_init_da8c8_1 (ci := 0) ?_
  exact V_vreturn (κ := KJxa1e45_init_da8c8) (pc := 4) rfl rfl dJxa1e45_init_da8c8_4
theorem con_Jxa1e45_init_da8c8 (a0 : Int) (μ : Mem) : Con (4) yJxa1e45_init_da8c8 (.code yJxa1e45_init_da8c8 cJxa1e45_init_da8c8 1 none) 9 [(2, a0)] μ (FJxa1e45_init_da8c8 a0 μ) := Con_intro KJxa1e45_init_da8c8 (plainFor_of_name (by decide)) rfl (fun h => rfl) (by decide) rfl (Nat.le_of_ble_eq_true rfl) (fun Γ => VBJxa1e45_init_da8c8_0 _ _)
abbrev KJxc12de_init_da8c8 : Kap := (RJxc12de, cJxc12de_init_da8c8, 1, 5, 9, none, true, [])
theorem VBJxc12de_init_da8c8_0 {Γ : Gam} (x0 : Int) (μ : Mem) : V Γ KJxc12de_init_da8c8 0 [(0, (2, x0))] [] μ (BJxc12de_init_da8c8_0 x0 μ) := by
  unfold BJxc12de_init_da8c8_0
  refine V_aload_n (κ := KJxc12de_init_da8c8) (pc := 0) dJxc12de_init_da8c8_0 0 rfl rfl ?_
  refine V_callI (ci := 11) (by decide) (κ := KJxc12de_init_da8c8) (pc := 1) (con_Jxa1e45_init_da8c8 _ _) mth_Jxa1e45_init_da8c8 rfl wd_552 wd_551 (st0 := []) rfl rfl (by decide) (Nat.le_of_ble_eq_true rfl) dJxc12de_init_da8c8_1 (fun _ _ _ h => VX_out rfl (by decide) h) fun _ u102 => ?_
  refine V_aload_n (κ := KJxc12de_init_da8c8) (pc := 4) dJxc12de_init_da8c8_4 0 rfl rfl ?_
  refine V_iconst (κ := KJxc12de_init_da8c8) (pc := 5) dJxc12de_init_da8c8_5 ⟨by decide, by decide⟩ ?_
  refine V_putf 11 (κ := KJxc12de_init_da8c8) (pc := 6) rfl (by decide) rfl inJx4a65c tyJx4a65c tyJx4a65c_ok nmJx4a65c 0 (by decide) wd_559 rfl rfl (t := 0) rfl rfl dJxc12de_init_da8c8_6 fun u103 => ?_
  exact V_vreturn (κ := KJxc12de_init_da8c8) (pc := 9) rfl rfl dJxc12de_init_da8c8_9
theorem con_Jxc12de_init_da8c8 (a0 : Int) (μ : Mem) : Con (5) yJxc12de_init_da8c8 (.code yJxc12de_init_da8c8 cJxc12de_init_da8c8 1 none) 9 [(2, a0)] μ (FJxc12de_init_da8c8 a0 μ) := Con_intro KJxc12de_init_da8c8 (plainFor_of_name (by decide)) rfl (fun h => rfl) (by decide) rfl (Nat.le_of_ble_eq_true rfl) (fun Γ => VBJxc12de_init_da8c8_0 _ _)
abbrev KJx4a65c_init_da8c8 : Kap := (RJx4a65c, cJx4a65c_init_da8c8, 1, 6, 9, none, true, [])
theorem VBJx4a65c_init_da8c8_0 {Γ : Gam} (x0 : Int) (μ : Mem) : V Γ KJx4a65c_init_da8c8 0 [(0, (2, x0))] [] μ (BJx4a65c_init_da8c8_0 x0 μ) := by
  unfold BJx4a65c_init_da8c8_0
  refine V_aload_n (κ := KJx4a65c_init_da8c8) (pc := 0) dJx4a65c_init_da8c8_0 0 rfl rfl ?_
  refine V_callI (ci := 11) (by decide) (κ := KJx4a65c_init_da8c8) (pc := 1) (con_Jxc12de_init_da8c8 _ _) mth_Jxc12de_init_da8c8 rfl wd_549 wd_548 (st0 := []) rfl rfl (by decide) (Nat.le_of_ble_eq_true rfl) dJx4a65c_init_da8c8_1 (fun _ _ _ h => VX_out rfl (by decide) h) fun _ u102 => ?_
  refine V_aload_n (κ := KJx4a65c_init_da8c8) (pc := 4) dJx4a65c_init_da8c8_4 0 rfl rfl ?_
  refine V_getEmpty (κ := KJx4a65c_init_da8c8) (pc := 5) wd_555 dJx4a65c_init_da8c8_5 ?_
  refine V_putf 11 (κ := KJx4a65c_init_da8c8) (pc := 8) rfl (by decide) rfl inJx4a65c tyJx4a65c tyJx4a65c_ok nmJx4a65c 1 (by decide) wd_557 rfl rfl (t := 2) rfl rfl dJx4a65c_init_da8c8_8 fun u103 => ?_
  exact V_vreturn (κ := KJx4a65c_init_da8c8) (pc := 11) rfl rfl dJx4a65c_init_da8c8_11
theorem con_Jx4a65c_init_da8c8 (a0 : Int) (μ : Mem) : Con (6) yJx4a65c_init_da8c8 (.code yJx4a65c_init_da8c8 cJx4a65c_init_da8c8 1 none) 9 [(2, a0)] μ (FJx4a65c_init_da8c8 a0 μ) := Con_intro KJx4a65c_init_da8c8 (plainFor_of_name (by decide)) rfl (fun h => rfl) (by decide) rfl (Nat.le_of_ble_eq_true rfl) (fun Γ => VBJx4a65c_init_da8c8_0 _ _)
abbrev KJx4a65c_set_bcc79 : Kap := (RJx4a65c, cJx4a65c_set_bcc79, 4, 5, 2, (some (.object "java/lang/Object")), false, [])
theorem VBJx4a65c_set_bcc79_0 {Γ : Gam} (x0 x1 x2 : Int) (μ : Mem) : V Γ KJx4a65c_set_bcc79 0 [(0, (2, x0)), (1, (0, x1)), (2, (2, x2))] [] μ (BJx4a65c_set_bcc79_0 x0 x1 x2 μ) := by
  unfold BJx4a65c_set_bcc79_0
  refine V_iload_n (κ := KJx4a65c_set_bcc79) (pc := 0) dJx4a65c_set_bcc79_0 1 rfl ?_
  refine V_aload_n (κ := KJx4a65c_set_bcc79) (pc := 1) dJx4a65c_set_bcc79_1 0 rfl rfl ?_
  refine V_getf 11 (κ := KJx4a65c_set_bcc79) (pc := 2) rfl (by decide) rfl inJx4a65c 2 (by decide) wd_558 rfl (t := 0) rfl dJx4a65c_set_bcc79_2 fun t101 => ?_
  refine V_chk15 (κ := KJx4a65c_set_bcc79) (pc := 5) wd_605 (by decide) rfl (by decide) (Nat.le_of_ble_eq_true rfl) dJx4a65c_set_bcc79_5 ?_
  refine V_pop (κ := KJx4a65c_set_bcc79) (pc := 8) rfl dJx4a65c_set_bcc79_8 ?_
  refine V_aload_n (κ := KJx4a65c_set_bcc79) (pc := 9) dJx4a65c_set_bcc79_9 0 rfl rfl ?_
  refine V_iload_n (κ := KJx4a65c_set_bcc79) (pc := 10) dJx4a65c_set_bcc79_10 1 rfl ?_
  refine V_callV (ci := 11) (T := TJx4a65c) (N := 3) rfl (by decide) (κ := KJx4a65c_set_bcc79) (pc := 11) (con_Jx4a65c_elementData_915e3 _ _ _) mth_Jx4a65c_elementData_915e3 rfl ⟨wd_612, wd_613⟩ wd_611 (st0 := []) rfl rfl (by decide) (Nat.le_of_ble_eq_true rfl) dJx4a65c_set_bcc79_11 (fun _ _ _ h => VX_out rfl (by decide) h) fun t102 u103 => ?_
  refine V_astore_n (κ := KJx4a65c_set_bcc79) (pc := 14) (lv' := [(3, (2, t102)), (0, (2, x0)), (1, (0, x1)), (2, (2, x2))]) dJx4a65c_set_bcc79_14 rfl (by decide) rfl ?_
  refine V_aload_n (κ := KJx4a65c_set_bcc79) (pc := 15) dJx4a65c_set_bcc79_15 1 rfl rfl ?_
  refine V_getf 11 (κ := KJx4a65c_set_bcc79) (pc := 16) rfl (by decide) rfl inJx4a65c 1 (by decide) wd_557 rfl (t := 2) rfl dJx4a65c_set_bcc79_16 fun t104 => ?_
  refine V_iload_n (κ := KJx4a65c_set_bcc79) (pc := 19) dJx4a65c_set_bcc79_19 2 rfl ?_
  refine V_aload_n (κ := KJx4a65c_set_bcc79) (pc := 20) dJx4a65c_set_bcc79_20 3 rfl rfl ?_
  refine V_aastoreO (κ := KJx4a65c_set_bcc79) (pc := 21) dJx4a65c_set_bcc79_21 fun u105 => ?_
  refine V_aload_n (κ := KJx4a65c_set_bcc79) (pc := 22) dJx4a65c_set_bcc79_22 0 rfl rfl ?_
  exact V_areturn (κ := KJx4a65c_set_bcc79) (pc := 23) rfl rfl (by first | exact Or.inl ⟨_, rfl⟩ | exact Or.inr ⟨_, rfl⟩) dJx4a65c_set_bcc79_23
theorem con_Jx4a65c_set_bcc79 (a0 a1 a2 : Int) (μ : Mem) : Con (5) yJx4a65c_set_bcc79 (.code yJx4a65c_set_bcc79 cJx4a65c_set_bcc79 4 (some (.object "java/lang/Object"))) 2 [(2, a0), (0, a1), (2, a2)] μ (FJx4a65c_set_bcc79 a0 a1 a2 μ) := Con_intro KJx4a65c_set_bcc79 (plainFor_of_name (by decide)) rfl (fun h => by cases h) (by decide) rfl (Nat.le_of_ble_eq_true rfl) (fun Γ => VBJx4a65c_set_bcc79_0 _ _ _ _)
abbrev KJ6_bitCount_0f7a4 : Kap := (RJ6, cJ6_bitCount_0f7a4, 1, 4, 0, (some .int), false, [])
theorem VBJ6_bitCount_0f7a4_0 {Γ : Gam} (x0 : Int) (μ : Mem) : V Γ KJ6_bitCount_0f7a4 0 [(0, (0, x0))] [] μ (BJ6_bitCount_0f7a4_0 x0 μ) := by
  unfold BJ6_bitCount_0f7a4_0
  refine V_iload_n (κ := KJ6_bitCount_0f7a4) (pc := 0) dJ6_bitCount_0f7a4_0 0 rfl ?_
  refine V_iload_n (κ := KJ6_bitCount_0f7a4) (pc := 1) dJ6_bitCount_0f7a4_1 0 rfl ?_
  refine V_iconst (κ := KJ6_bitCount_0f7a4) (pc := 2) dJ6_bitCount_0f7a4_2 ⟨by decide, by decide⟩ ?_
  refine V_iushr (κ := KJ6_bitCount_0f7a4) (pc := 3) dJ6_bitCount_0f7a4_3 ?_
  refine V_ldcw (κ := KJ6_bitCount_0f7a4) (pc := 4) (z := 1431655765) dJ6_bitCount_0f7a4_4 wd_410 ⟨by decide, by decide⟩ (by decide) ?_
  refine V_iand (κ := KJ6_bitCount_0f7a4) (pc := 7) dJ6_bitCount_0f7a4_7 ?_
  refine V_isub (κ := KJ6_bitCount_0f7a4) (pc := 8) dJ6_bitCount_0f7a4_8 ?_
  refine V_LT fun x101 => ?_
  refine V_istore_n (κ := KJ6_bitCount_0f7a4) (pc := 9) (lv' := [(0, (0, x101))]) dJ6_bitCount_0f7a4_9 (by decide) rfl ?_
  refine V_iload_n (κ := KJ6_bitCount_0f7a4) (pc := 10) dJ6_bitCount_0f7a4_10 0 rfl ?_
  refine V_ldcw (κ := KJ6_bitCount_0f7a4) (pc := 11) (z := 858993459) dJ6_bitCount_0f7a4_11 wd_411 ⟨by decide, by decide⟩ (by decide) ?_
  refine V_iand (κ := KJ6_bitCount_0f7a4) (pc := 14) dJ6_bitCount_0f7a4_14 ?_
  refine V_iload_n (κ := KJ6_bitCount_0f7a4) (pc := 15) dJ6_bitCount_0f7a4_15 0 rfl ?_
  refine V_iconst (κ := KJ6_bitCount_0f7a4) (pc := 16) dJ6_bitCount_0f7a4_16 ⟨by decide, by decide⟩ ?_
  refine V_iushr (κ := KJ6_bitCount_0f7a4) (pc := 17) dJ6_bitCount_0f7a4_17 ?_
  refine V_ldcw (κ := KJ6_bitCount_0f7a4) (pc := 18) (z := 858993459) dJ6_bitCount_0f7a4_18 wd_411 ⟨by decide, by decide⟩ (by decide) ?_
  refine V_iand (κ := KJ6_bitCount_0f7a4) (pc := 21) dJ6_bitCount_0f7a4_21 ?_
  refine V_iadd (κ := KJ6_bitCount_0f7a4) (pc := 22) dJ6_bitCount_0f7a4_22 ?_
  refine V_LT fun x102 => ?_
  refine V_istore_n (κ := KJ6_bitCount_0f7a4) (pc := 23) (lv' := [(0, (0, x102))]) dJ6_bitCount_0f7a4_23 (by decide) rfl ?_
  refine V_iload_n (κ := KJ6_bitCount_0f7a4) (pc := 24) dJ6_bitCount_0f7a4_24 0 rfl ?_
  refine V_iload_n (κ := KJ6_bitCount_0f7a4) (pc := 25) dJ6_bitCount_0f7a4_25 0 rfl ?_
  refine V_iconst (κ := KJ6_bitCount_0f7a4) (pc := 26) dJ6_bitCount_0f7a4_26 ⟨by decide, by decide⟩ ?_
  refine V_iushr (κ := KJ6_bitCount_0f7a4) (pc := 27) dJ6_bitCount_0f7a4_27 ?_
  refine V_iadd (κ := KJ6_bitCount_0f7a4) (pc := 28) dJ6_bitCount_0f7a4_28 ?_
  refine V_ldcw (κ := KJ6_bitCount_0f7a4) (pc := 29) (z := 252645135) dJ6_bitCount_0f7a4_29 wd_412 ⟨by decide, by decide⟩ (by decide) ?_
  refine V_iand (κ := KJ6_bitCount_0f7a4) (pc := 32) dJ6_bitCount_0f7a4_32 ?_
  refine V_LT fun x103 => ?_
  refine V_istore_n (κ := KJ6_bitCount_0f7a4) (pc := 33) (lv' := [(0, (0, x103))]) dJ6_bitCount_0f7a4_33 (by decide) rfl ?_
  refine V_iload_n (κ := KJ6_bitCount_0f7a4) (pc := 34) dJ6_bitCount_0f7a4_34 0 rfl ?_
  refine V_iload_n (κ := KJ6_bitCount_0f7a4) (pc := 35) dJ6_bitCount_0f7a4_35 0 rfl ?_
  refine V_bipush (κ := KJ6_bitCount_0f7a4) (pc := 36) dJ6_bitCount_0f7a4_36 ⟨by decide, by decide⟩ (by decide) ?_
  refine V_iushr (κ := KJ6_bitCount_0f7a4) (pc := 38) dJ6_bitCount_0f7a4_38 ?_
  refine V_iadd (κ := KJ6_bitCount_0f7a4) (pc := 39) dJ6_bitCount_0f7a4_39 ?_
  refine V_LT fun x104 => ?_
  refine V_istore_n (κ := KJ6_bitCount_0f7a4) (pc := 40) (lv' := [(0, (0, x104))]) dJ6_bitCount_0f7a4_40 (by decide) rfl ?_
  refine V_iload_n (κ := KJ6_bitCount_0f7a4) (pc := 41) dJ6_bitCount_0f7a4_41 0 rfl ?_
  refine V_iload_n (κ := KJ6_bitCount_0f7a4) (pc := 42) dJ6_bitCount_0f7a4_42 0 rfl ?_
  refine V_bipush (κ := KJ6_bitCount_0f7a4) (pc := 43) dJ6_bitCount_0f7a4_43 ⟨by decide, by decide⟩ (by decide) ?_
  refine V_iushr (κ := KJ6_bitCount_0f7a4) (pc := 45) dJ6_bitCount_0f7a4_45 ?_
  refine V_iadd (κ := KJ6_bitCount_0f7a4) (pc := 46) dJ6_bitCount_0f7a4_46 ?_
  refine V_LT fun x105 => ?_
  refine V_istore_n (κ := KJ6_bitCount_0f7a4) (pc := 47) (lv' := [(0, (0, x105))]) dJ6_bitCount_0f7a4_47 (by decide) rfl ?_
  refine V_iload_n (κ := KJ6_bitCount_0f7a4) (pc := 48) dJ6_bitCount_0f7a4_48 0 rfl ?_
  refine V_bipush (κ := KJ6_bitCount_0f7a4) (pc := 49) dJ6_bitCount_0f7a4_49 ⟨by decide, by decide⟩ (by decide) ?_
  refine V_iand (κ := KJ6_bitCount_0f7a4) (pc := 51) dJ6_bitCount_0f7a4_51 ?_
  exact V_ireturn (κ := KJ6_bitCount_0f7a4) (pc := 52) rfl rfl dJ6_bitCount_0f7a4_52
theorem con_J6_bitCount_0f7a4 (a0 : Int) (μ : Mem) : Con (4) yJ6_bitCount_0f7a4 (.code yJ6_bitCount_0f7a4 cJ6_bitCount_0f7a4 1 (some .int)) 0 [(0, a0)] μ (FJ6_bitCount_0f7a4 a0 μ) := Con_intro KJ6_bitCount_0f7a4 (plainFor_of_name (by decide)) rfl (fun h => by cases h) (by decide) rfl (Nat.le_of_ble_eq_true rfl) (fun Γ => VBJ6_bitCount_0f7a4_0 _ _)
abbrev KJx4a65c_size_8abf5 : Kap := (RJx4a65c, cJx4a65c_size_8abf5, 1, 4, 0, (some .int), false, [])
theorem VBJx4a65c_size_8abf5_0 {Γ : Gam} (x0 : Int) (μ : Mem) : V Γ KJx4a65c_size_8abf5 0 [(0, (2, x0))] [] μ (BJx4a65c_size_8abf5_0 x0 μ) := by
  unfold BJx4a65c_size_8abf5_0
  refine V_aload_n (κ := KJx4a65c_size_8abf5) (pc := 0) dJx4a65c_size_8abf5_0 0 rfl rfl ?_
  refine V_getf 11 (κ := KJx4a65c_size_8abf5) (pc := 1) rfl (by decide) rfl inJx4a65c 2 (by decide) wd_558 rfl (t := 0) rfl dJx4a65c_size_8abf5_1 fun t101 => ?_
  exact V_ireturn (κ := KJx4a65c_size_8abf5) (pc := 4) rfl rfl dJx4a65c_size_8abf5_4
theorem con_Jx4a65c_size_8abf5 (a0 : Int) (μ : Mem) : Con (4) yJx4a65c_size_8abf5 (.code yJx4a65c_size_8abf5 cJx4a65c_size_8abf5 1 (some .int)) 0 [(2, a0)] μ (FJx4a65c_size_8abf5 a0 μ) := Con_intro KJx4a65c_size_8abf5 (plainFor_of_name (by decide)) rfl (fun h => by cases h) (by decide) rfl (Nat.le_of_ble_eq_true rfl) (fun Γ => VBJx4a65c_size_8abf5_0 _ _)
abbrev KJ7_fill_53178 : Kap := (RJ7, cJ7_fill_53178, 4, 1, 9, none, false, [])
theorem VBJ7_fill_53178_5 {Γ : Gam} {k5 : Int → Int → Int → Int → Mem → Rz} (hk5 : ∀ (y0 y1 y2 y3 : Int) (ν : Mem), V Γ KJ7_fill_53178 5 [(0, (2, y0)), (1, (0, y1)), (2, (0, y2)), (3, (0, y3))] [] ν (k5 y0 y1 y2 y3 ν)) (x0 x1 x2 x3 : Int) (μ : Mem) : V Γ KJ7_fill_53178 5 [(0, (2, x0)), (1, (0, x1)), (2, (0, x2)), (3, (0, x3))] [] μ (BJ7_fill_53178_5 k5 x0 x1 x2 x3 μ) := by
  unfold BJ7_fill_53178_5
  refine V_iload_n (κ := KJ7_fill_53178) (pc := 5) dJ7_fill_53178_5 2 rfl ?_
  refine V_iload_n (κ := KJ7_fill_53178) (pc := 6) dJ7_fill_53178_6 3 rfl ?_
  refine V_icmp_ge (κ := KJ7_fill_53178) (pc := 7) (tgt := 20) dJ7_fill_53178_7 rfl ?_ ?_
  · exact V_vreturn (κ := KJ7_fill_53178) (pc := 20) rfl rfl dJ7_fill_53178_20
  refine V_aload_n (κ := KJ7_fill_53178) (pc := 10) dJ7_fill_53178_10 0 rfl rfl ?_
  refine V_iload_n (κ := KJ7_fill_53178) (pc := 11) dJ7_fill_53178_11 2 rfl ?_
  refine V_iload_n (κ := KJ7_fill_53178) (pc := 12) dJ7_fill_53178_12 1 rfl ?_
  refine V_iastore (κ := KJ7_fill_53178) (pc := 13) dJ7_fill_53178_13 fun u101 => ?_
  refine V_iinc (κ := KJ7_fill_53178) (pc := 14) (lv' := [(2, (0, w32 (x2 + 1))), (0, (2, x0)), (1, (0, x1)), (3, (0, x3))]) dJ7_fill_53178_14 2 rfl (by decide) rfl ?_
  refine V_goto (κ := KJ7_fill_53178) (pc := 17) (tgt := 5) dJ7_fill_53178_17 rfl ?_
  refine V_sub (lv' := [(0, (2, x0)), (1, (0, x1)), (2, (0, w32 (x2 + 1))), (3, (0, x3))]) [1, 2, 0, 3] rfl ?_
  exact hk5 _ _ _ _ _
theorem VLJ7_fill_53178_5 {Γ : Gam} : ∀ (n : Nat) (x0 x1 x2 x3 : Int) (μ : Mem), V Γ KJ7_fill_53178 5 [(0, (2, x0)), (1, (0, x1)), (2, (0, x2)), (3, (0, x3))] [] μ (LJ7_fill_53178_5 n x0 x1 x2 x3 μ)
  | 0, _, _, _, _, _ => V_none
  | n + 1, x0, x1, x2, x3, μ => VBJ7_fill_53178_5 (fun y0 y1 y2 y3 ν => VLJ7_fill_53178_5 n y0 y1 y2 y3 ν) x0 x1 x2 x3 μ
theorem VBJ7_fill_53178_0 {Γ : Gam} (x0 x1 : Int) (μ : Mem) : V Γ KJ7_fill_53178 0 [(0, (2, x0)), (1, (0, x1))] [] μ (BJ7_fill_53178_0 x0 x1 μ) := by
  unfold BJ7_fill_53178_0
  refine V_iconst (κ := KJ7_fill_53178) (pc := 0) dJ7_fill_53178_0 ⟨by decide, by decide⟩ ?_
  refine V_istore_n (κ := KJ7_fill_53178) (pc := 1) (lv' := [(2, (0, 0)), (0, (2, x0)), (1, (0, x1))]) dJ7_fill_53178_1 (by decide) rfl ?_
  refine V_aload_n (κ := KJ7_fill_53178) (pc := 2) dJ7_fill_53178_2 1 rfl rfl ?_
  refine V_alen 1 (by decide) (κ := KJ7_fill_53178) (pc := 3) dJ7_fill_53178_3 fun t101 => ?_
  refine V_istore_n (κ := KJ7_fill_53178) (pc := 4) (lv' := [(3, (0, t101)), (2, (0, 0)), (0, (2, x0)), (1, (0, x1))]) dJ7_fill_53178_4 (by decide) rfl ?_
  refine V_sub (lv' := [(0, (2, x0)), (1, (0, x1)), (2, (0, 0)), (3, (0, t101))]) [2, 3, 1, 0] rfl ?_
  exact VLJ7_fill_53178_5 FU _ _ _ _ _
theorem con_J7_fill_53178 (a0 a1 : Int) (μ : Mem) : Con (1) yJ7_fill_53178 (.code yJ7_fill_53178 cJ7_fill_53178 4 none) 9 [(2, a0), (0, a1)] μ (FJ7_fill_53178 a0 a1 μ) := Con_intro KJ7_fill_53178 (plainFor_of_name (by decide)) rfl (fun h => by cases h) (by decide) rfl (Nat.le_of_ble_eq_true rfl) (fun Γ => VBJ7_fill_53178_0 _ _ _)
abbrev KJ9_abs_0f7a4 : Kap := (RJ9, cJ9_abs_0f7a4, 1, 4, 0, (some .int), false, [])
theorem VBJ9_abs_0f7a4_10 {Γ : Gam} (s0 : Int) (μ : Mem) : V Γ KJ9_abs_0f7a4 10 [] [(0, s0)] μ (BJ9_abs_0f7a4_10 s0 μ) := by
  unfold BJ9_abs_0f7a4_10
  exact V_ireturn (κ := KJ9_abs_0f7a4) (pc := 10) rfl rfl dJ9_abs_0f7a4_10
theorem VBJ9_abs_0f7a4_0 {Γ : Gam} (x0 : Int) (μ : Mem) : V Γ KJ9_abs_0f7a4 0 [(0, (0, x0))] [] μ (BJ9_abs_0f7a4_0 x0 μ) := by
  unfold BJ9_abs_0f7a4_0
  refine V_iload_n (κ := KJ9_abs_0f7a4) (pc := 0) dJ9_abs_0f7a4_0 0 rfl ?_
  refine V_if_ge (κ := KJ9_abs_0f7a4) (pc := 1) (tgt := 9) dJ9_abs_0f7a4_1 rfl ?_ ?_
  · refine V_iload_n (κ := KJ9_abs_0f7a4) (pc := 9) dJ9_abs_0f7a4_9 0 rfl ?_
    refine V_sub (lv' := []) [] rfl ?_
    exact VBJ9_abs_0f7a4_10 _ _
  refine V_iload_n (κ := KJ9_abs_0f7a4) (pc := 4) dJ9_abs_0f7a4_4 0 rfl ?_
  refine V_ineg (κ := KJ9_abs_0f7a4) (pc := 5) dJ9_abs_0f7a4_5 ?_
  refine V_goto (κ := KJ9_abs_0f7a4) (pc := 6) (tgt := 10) dJ9_abs_0f7a4_6 rfl ?_
  refine V_sub (lv' := []) [] rfl ?_
  exact VBJ9_abs_0f7a4_10 _ _
theorem con_J9_abs_0f7a4 (a0 : Int) (μ : Mem) : Con (4) yJ9_abs_0f7a4 (.code yJ9_abs_0f7a4 cJ9_abs_0f7a4 1 (some .int)) 0 [(0, a0)] μ (FJ9_abs_0f7a4 a0 μ) := Con_intro KJ9_abs_0f7a4 (Jvm.Free.JP.mathPlain rfl (by decide +kernel)) rfl (fun h => by cases h) (by decide) rfl (Nat.le_of_ble_eq_true rfl) (fun Γ => VBJ9_abs_0f7a4_0 _ _)
abbrev KJ9_floorMod_7cf53 : Kap := (RJ9, cJ9_floorMod_7cf53, 3, 4, 0, (some .int), false, [])
theorem VBJ9_floorMod_7cf53_18 {Γ : Gam} (x2 : Int) (μ : Mem) : V Γ KJ9_floorMod_7cf53 18 [(2, (0, x2))] [] μ (BJ9_floorMod_7cf53_18 x2 μ) := by
  unfold BJ9_floorMod_7cf53_18
  refine V_iload_n (κ := KJ9_floorMod_7cf53) (pc := 18) dJ9_floorMod_7cf53_18 0 rfl ?_
  exact V_ireturn (κ := KJ9_floorMod_7cf53) (pc := 19) rfl rfl dJ9_floorMod_7cf53_19
theorem VBJ9_floorMod_7cf53_0 {Γ : Gam} (x0 x1 : Int) (μ : Mem) : V Γ KJ9_floorMod_7cf53 0 [(0, (0, x0)), (1, (0, x1))] [] μ (BJ9_floorMod_7cf53_0 x0 x1 μ) := by
  unfold BJ9_floorMod_7cf53_0
  refine V_iload_n (κ := KJ9_floorMod_7cf53) (pc := 0) dJ9_floorMod_7cf53_0 0 rfl ?_
  refine V_iload_n (κ := KJ9_floorMod_7cf53) (pc := 1) dJ9_floorMod_7cf53_1 1 rfl ?_
  refine V_irem (κ := KJ9_floorMod_7cf53) (pc := 2) dJ9_floorMod_7cf53_2 fun t101 => ?_
  refine V_istore_n (κ := KJ9_floorMod_7cf53) (pc := 3) (lv' := [(2, (0, t101)), (0, (0, x0)), (1, (0, x1))]) dJ9_floorMod_7cf53_3 (by decide) rfl ?_
  refine V_iload_n (κ := KJ9_floorMod_7cf53) (pc := 4) dJ9_floorMod_7cf53_4 1 rfl ?_
  refine V_iload_n (κ := KJ9_floorMod_7cf53) (pc := 5) dJ9_floorMod_7cf53_5 2 rfl ?_
  refine V_ixor (κ := KJ9_floorMod_7cf53) (pc := 6) dJ9_floorMod_7cf53_6 ?_
  refine V_if_ge (κ := KJ9_floorMod_7cf53) (pc := 7) (tgt := 18) dJ9_floorMod_7cf53_7 rfl ?_ ?_
  · refine V_sub (lv' := [(2, (0, t101))]) [0] rfl ?_
    exact VBJ9_floorMod_7cf53_18 _ _
  refine V_iload_n (κ := KJ9_floorMod_7cf53) (pc := 10) dJ9_floorMod_7cf53_10 0 rfl ?_
  refine V_if_eq (κ := KJ9_floorMod_7cf53) (pc := 11) (tgt := 18) dJ9_floorMod_7cf53_11 rfl ?_ ?_
  · refine V_sub (lv' := [(2, (0, t101))]) [0] rfl ?_
    exact VBJ9_floorMod_7cf53_18 _ _
  refine V_iload_n (κ := KJ9_floorMod_7cf53) (pc := 14) dJ9_floorMod_7cf53_14 0 rfl ?_
  refine V_iload_n (κ := KJ9_floorMod_7cf53) (pc := 15) dJ9_floorMod_7cf53_15 2 rfl ?_
  refine V_iadd (κ := KJ9_floorMod_7cf53) (pc := 16) dJ9_floorMod_7cf53_16 ?_
  exact V_ireturn (κ := KJ9_floorMod_7cf53) (pc := 17) rfl rfl dJ9_floorMod_7cf53_17
theorem con_J9_floorMod_7cf53 (a0 a1 : Int) (μ : Mem) : Con (4) yJ9_floorMod_7cf53 (.code yJ9_floorMod_7cf53 cJ9_floorMod_7cf53 3 (some .int)) 0 [(0, a0), (0, a1)] μ (FJ9_floorMod_7cf53 a0 a1 μ) := Con_intro KJ9_floorMod_7cf53 (Jvm.Free.JP.mathPlain rfl (by decide +kernel)) rfl (fun h => by cases h) (by decide) rfl (Nat.le_of_ble_eq_true rfl) (fun Γ => VBJ9_floorMod_7cf53_0 _ _ _)
abbrev KJ9_max_f86c9 : Kap := (RJ9, cJ9_max_f86c9, 4, 4, 1, (some .long), false, [])
theorem VBJ9_max_f86c9_11 {Γ : Gam} (s0 : Int) (μ : Mem) : V Γ KJ9_max_f86c9 11 [] [(1, s0)] μ (BJ9_max_f86c9_11 s0 μ) := by
  unfold BJ9_max_f86c9_11
  exact V_lreturn (κ := KJ9_max_f86c9) (pc := 11) rfl rfl dJ9_max_f86c9_11
theorem VBJ9_max_f86c9_0 {Γ : Gam} (x0 x2 : Int) (μ : Mem) : V Γ KJ9_max_f86c9 0 [(0, (1, x0)), (2, (1, x2))] [] μ (BJ9_max_f86c9_0 x0 x2 μ) := by
  unfold BJ9_max_f86c9_0
  refine V_lload_n (κ := KJ9_max_f86c9) (pc := 0) dJ9_max_f86c9_0 0 rfl ?_
  refine V_lload_n (κ := KJ9_max_f86c9) (pc := 1) dJ9_max_f86c9_1 1 rfl ?_
  refine V_lcmp (κ := KJ9_max_f86c9) (pc := 2) dJ9_max_f86c9_2 ?_
  refine V_if_lt (κ := KJ9_max_f86c9) (pc := 3) (tgt := 10) dJ9_max_f86c9_3 rfl ?_ ?_
  · refine V_lload_n (κ := KJ9_max_f86c9) (pc := 10) dJ9_max_f86c9_10 1 rfl ?_
    refine V_sub (lv' := []) [] rfl ?_
    exact VBJ9_max_f86c9_11 _ _
  refine V_lload_n (κ := KJ9_max_f86c9) (pc := 6) dJ9_max_f86c9_6 0 rfl ?_
  refine V_goto (κ := KJ9_max_f86c9) (pc := 7) (tgt := 11) dJ9_max_f86c9_7 rfl ?_
  refine V_sub (lv' := []) [] rfl ?_
  exact VBJ9_max_f86c9_11 _ _
theorem con_J9_max_f86c9 (a0 a2 : Int) (μ : Mem) : Con (4) yJ9_max_f86c9 (.code yJ9_max_f86c9 cJ9_max_f86c9 4 (some .long)) 1 [(1, a0), (1, a2)] μ (FJ9_max_f86c9 a0 a2 μ) := Con_intro KJ9_max_f86c9 (Jvm.Free.JP.mathPlain rfl (by decide +kernel)) rfl (fun h => by cases h) (by decide) rfl (Nat.le_of_ble_eq_true rfl) (fun Γ => VBJ9_max_f86c9_0 _ _ _)
abbrev KJ9_min_f86c9 : Kap := (RJ9, cJ9_min_f86c9, 4, 4, 1, (some .long), false, [])
theorem VBJ9_min_f86c9_11 {Γ : Gam} (s0 : Int) (μ : Mem) : V Γ KJ9_min_f86c9 11 [] [(1, s0)] μ (BJ9_min_f86c9_11 s0 μ) := by
  unfold BJ9_min_f86c9_11
  exact V_lreturn (κ := KJ9_min_f86c9) (pc := 11) rfl rfl dJ9_min_f86c9_11
theorem VBJ9_min_f86c9_0 {Γ : Gam} (x0 x2 : Int) (μ : Mem) : V Γ KJ9_min_f86c9 0 [(0, (1, x0)), (2, (1, x2))] [] μ (BJ9_min_f86c9_0 x0 x2 μ) := by
  unfold BJ9_min_f86c9_0
  refine V_lload_n (κ := KJ9_min_f86c9) (pc := 0) dJ9_min_f86c9_0 0 rfl ?_
  refine V_lload_n (κ := KJ9_min_f86c9) (pc := 1) dJ9_min_f86c9_1 1 rfl ?_
  refine V_lcmp (κ := KJ9_min_f86c9) (pc := 2) dJ9_min_f86c9_2 ?_
  refine V_if_gt (κ := KJ9_min_f86c9) (pc := 3) (tgt := 10) dJ9_min_f86c9_3 rfl ?_ ?_
  · refine V_lload_n (κ := KJ9_min_f86c9) (pc := 10) dJ9_min_f86c9_10 1 rfl ?_
    refine V_sub (lv' := []) [] rfl ?_
    exact VBJ9_min_f86c9_11 _ _
  refine V_lload_n (κ := KJ9_min_f86c9) (pc := 6) dJ9_min_f86c9_6 0 rfl ?_
  refine V_goto (κ := KJ9_min_f86c9) (pc := 7) (tgt := 11) dJ9_min_f86c9_7 rfl ?_
  refine V_sub (lv' := []) [] rfl ?_
  exact VBJ9_min_f86c9_11 _ _
theorem con_J9_min_f86c9 (a0 a2 : Int) (μ : Mem) : Con (4) yJ9_min_f86c9 (.code yJ9_min_f86c9 cJ9_min_f86c9 4 (some .long)) 1 [(1, a0), (1, a2)] μ (FJ9_min_f86c9 a0 a2 μ) := Con_intro KJ9_min_f86c9 (Jvm.Free.JP.mathPlain rfl (by decide +kernel)) rfl (fun h => by cases h) (by decide) rfl (Nat.le_of_ble_eq_true rfl) (fun Γ => VBJ9_min_f86c9_0 _ _ _)
abbrev KX8_rank : Kap := (RX8, cX8_rank, 4, 6, 0, (some .int), false, [])
theorem VBX8_rank_58 {Γ : Gam} {k2 : Int → Int → Int → Int → Mem → Rz} (hk2 : ∀ (y0 y1 y2 y3 : Int) (ν : Mem), V Γ KX8_rank 2 [(0, (2, y0)), (1, (0, y1)), (2, (0, y2)), (3, (0, y3))] [] ν (k2 y0 y1 y2 y3 ν)) (x0 x1 x2 x3 : Int) (μ : Mem) : V Γ KX8_rank 58 [(0, (2, x0)), (1, (0, x1)), (2, (0, x2)), (3, (0, x3))] [] μ (BX8_rank_58 k2 x0 x1 x2 x3 μ) := by
  unfold BX8_rank_58
  refine V_iinc (κ := KX8_rank) (pc := 58) (lv' := [(3, (0, w32 (x3 + 1))), (0, (2, x0)), (1, (0, x1)), (2, (0, x2))]) dX8_rank_58 3 rfl (by decide) rfl ?_
  refine V_goto (κ := KX8_rank) (pc := 61) (tgt := 2) dX8_rank_61 rfl ?_
  refine V_sub (lv' := [(0, (2, x0)), (1, (0, x1)), (2, (0, x2)), (3, (0, w32 (x3 + 1)))]) [1, 2, 3, 0] rfl ?_
  exact hk2 _ _ _ _ _
theorem VBX8_rank_2 {Γ : Gam} {k2 : Int → Int → Int → Int → Mem → Rz} (hk2 : ∀ (y0 y1 y2 y3 : Int) (ν : Mem), V Γ KX8_rank 2 [(0, (2, y0)), (1, (0, y1)), (2, (0, y2)), (3, (0, y3))] [] ν (k2 y0 y1 y2 y3 ν)) (x0 x1 x2 x3 : Int) (μ : Mem) : V Γ KX8_rank 2 [(0, (2, x0)), (1, (0, x1)), (2, (0, x2)), (3, (0, x3))] [] μ (BX8_rank_2 k2 x0 x1 x2 x3 μ) := by
  unfold BX8_rank_2
  refine V_aload_n (κ := KX8_rank) (pc := 2) dX8_rank_2 0 rfl rfl ?_
  refine V_getf 8 (κ := KX8_rank) (pc := 3) rfl (by decide) rfl inX8 6 (by decide) wd_687 rfl (t := 2) rfl dX8_rank_3 fun t101 => ?_
  refine V_iload_n (κ := KX8_rank) (pc := 6) dX8_rank_6 3 rfl ?_
  refine V_callV (ci := 11) (T := TJx4a65c) (N := 3) rfl (by decide) (κ := KX8_rank) (pc := 7) (con_Jx4a65c_get_915e3 _ _ _) mth_Jx4a65c_get_915e3 rfl ⟨wd_602, wd_603⟩ wd_601 (st0 := []) rfl rfl (by decide) (Nat.le_of_ble_eq_true rfl) dX8_rank_7 (fun _ _ _ h => VX_out rfl (by decide) h) fun t102 u103 => ?_
  refine V_ccO 7 (by decide) (T := TX7) (N := 3) rfl (κ := KX8_rank) (pc := 10) wd_569 dX8_rank_10 ?_
  refine V_getfN 7 (κ := KX8_rank) (pc := 13) rfl (by decide) rfl inX7 0 (by decide) (host := "TonePlatesLaw") (show _ ∈ lw_fnest by decide) rfl (t := 0) rfl dX8_rank_13 fun t104 => ?_
  refine V_iload_n (κ := KX8_rank) (pc := 16) dX8_rank_16 1 rfl ?_
  refine V_aload_n (κ := KX8_rank) (pc := 17) dX8_rank_17 0 rfl rfl ?_
  refine V_getf 8 (κ := KX8_rank) (pc := 18) rfl (by decide) rfl inX8 4 (by decide) wd_683 rfl (t := 0) rfl dX8_rank_18 fun t105 => ?_
  refine V_iadd (κ := KX8_rank) (pc := 21) dX8_rank_21 ?_
  refine V_aload_n (κ := KX8_rank) (pc := 22) dX8_rank_22 0 rfl rfl ?_
  refine V_getf 8 (κ := KX8_rank) (pc := 23) rfl (by decide) rfl inX8 2 (by decide) wd_679 rfl (t := 0) rfl dX8_rank_23 fun t106 => ?_
  refine V_irem (κ := KX8_rank) (pc := 26) dX8_rank_26 fun t107 => ?_
  refine V_icmp_ne (κ := KX8_rank) (pc := 27) (tgt := 58) dX8_rank_27 rfl ?_ ?_
  · exact VBX8_rank_58 hk2 _ _ _ _ _
  refine V_aload_n (κ := KX8_rank) (pc := 30) dX8_rank_30 0 rfl rfl ?_
  refine V_getf 8 (κ := KX8_rank) (pc := 31) rfl (by decide) rfl inX8 6 (by decide) wd_687 rfl (t := 2) rfl dX8_rank_31 fun t108 => ?_
  refine V_iload_n (κ := KX8_rank) (pc := 34) dX8_rank_34 3 rfl ?_
  refine V_callV (ci := 11) (T := TJx4a65c) (N := 3) rfl (by decide) (κ := KX8_rank) (pc := 35) (con_Jx4a65c_get_915e3 _ _ _) mth_Jx4a65c_get_915e3 rfl ⟨wd_602, wd_603⟩ wd_601 (st0 := []) rfl rfl (by decide) (Nat.le_of_ble_eq_true rfl) dX8_rank_35 (fun _ _ _ h => VX_out rfl (by decide) h) fun t109 u110 => ?_
  refine V_ccO 7 (by decide) (T := TX7) (N := 3) rfl (κ := KX8_rank) (pc := 38) wd_569 dX8_rank_38 ?_
  refine V_getfN 7 (κ := KX8_rank) (pc := 41) rfl (by decide) rfl inX7 1 (by decide) (host := "TonePlatesLaw") (show _ ∈ lw_fnest by decide) rfl (t := 0) rfl dX8_rank_41 fun t111 => ?_
  refine V_iload_n (κ := KX8_rank) (pc := 44) dX8_rank_44 2 rfl ?_
  refine V_aload_n (κ := KX8_rank) (pc := 45) dX8_rank_45 0 rfl rfl ?_
  refine V_getf 8 (κ := KX8_rank) (pc := 46) rfl (by decide) rfl inX8 5 (by decide) wd_685 rfl (t := 0) rfl dX8_rank_46 fun t112 => ?_
  refine V_iadd (κ := KX8_rank) (pc := 49) dX8_rank_49 ?_
  refine V_aload_n (κ := KX8_rank) (pc := 50) dX8_rank_50 0 rfl rfl ?_
  refine V_getf 8 (κ := KX8_rank) (pc := 51) rfl (by decide) rfl inX8 2 (by decide) wd_679 rfl (t := 0) rfl dX8_rank_51 fun t113 => ?_
  refine V_irem (κ := KX8_rank) (pc := 54) dX8_rank_54 fun t114 => ?_
  refine V_icmp_eq (κ := KX8_rank) (pc := 55) (tgt := 64) dX8_rank_55 rfl ?_ ?_
  · refine V_iload_n (κ := KX8_rank) (pc := 64) dX8_rank_64 3 rfl ?_
    exact V_ireturn (κ := KX8_rank) (pc := 65) rfl rfl dX8_rank_65
  exact VBX8_rank_58 hk2 _ _ _ _ _
theorem VLX8_rank_2 {Γ : Gam} : ∀ (n : Nat) (x0 x1 x2 x3 : Int) (μ : Mem), V Γ KX8_rank 2 [(0, (2, x0)), (1, (0, x1)), (2, (0, x2)), (3, (0, x3))] [] μ (LX8_rank_2 n x0 x1 x2 x3 μ)
  | 0, _, _, _, _, _ => V_none
  | n + 1, x0, x1, x2, x3, μ => VBX8_rank_2 (fun y0 y1 y2 y3 ν => VLX8_rank_2 n y0 y1 y2 y3 ν) x0 x1 x2 x3 μ
theorem VBX8_rank_0 {Γ : Gam} (x0 x1 x2 : Int) (μ : Mem) : V Γ KX8_rank 0 [(0, (2, x0)), (1, (0, x1)), (2, (0, x2))] [] μ (BX8_rank_0 x0 x1 x2 μ) := by
  unfold BX8_rank_0
  refine V_iconst (κ := KX8_rank) (pc := 0) dX8_rank_0 ⟨by decide, by decide⟩ ?_
  refine V_istore_n (κ := KX8_rank) (pc := 1) (lv' := [(3, (0, 0)), (0, (2, x0)), (1, (0, x1)), (2, (0, x2))]) dX8_rank_1 (by decide) rfl ?_
  refine V_sub (lv' := [(0, (2, x0)), (1, (0, x1)), (2, (0, x2)), (3, (0, 0))]) [1, 2, 3, 0] rfl ?_
  exact VLX8_rank_2 FU _ _ _ _ _
theorem con_X8_rank (a0 a1 a2 : Int) (μ : Mem) : Con (6) yX8_rank (.code yX8_rank cX8_rank 4 (some .int)) 0 [(2, a0), (0, a1), (0, a2)] μ (FX8_rank a0 a1 a2 μ) := Con_intro KX8_rank (plainFor_of_name (by decide)) rfl (fun h => by cases h) (by decide) rfl (Nat.le_of_ble_eq_true rfl) (fun Γ => VBX8_rank_0 _ _ _ _)
abbrev KJ0_isLatin1_aae02 : Kap := (RJ0, cJ0_isLatin1_aae02, 1, 4, 0, (some .boolean), false, [])
theorem VBJ0_isLatin1_aae02_18 {Γ : Gam} (s0 : Int) (μ : Mem) : V Γ KJ0_isLatin1_aae02 18 [] [(0, s0)] μ (BJ0_isLatin1_aae02_18 s0 μ) := by
  unfold BJ0_isLatin1_aae02_18
  exact V_zreturn (κ := KJ0_isLatin1_aae02) (pc := 18) rfl rfl dJ0_isLatin1_aae02_18
theorem VBJ0_isLatin1_aae02_17 {Γ : Gam} (μ : Mem) : V Γ KJ0_isLatin1_aae02 17 [] [] μ (BJ0_isLatin1_aae02_17 μ) := by
  unfold BJ0_isLatin1_aae02_17
  refine V_iconst (κ := KJ0_isLatin1_aae02) (pc := 17) dJ0_isLatin1_aae02_17 ⟨by decide, by decide⟩ ?_
  exact VBJ0_isLatin1_aae02_18 _ _
theorem VBJ0_isLatin1_aae02_0 {Γ : Gam} (x0 : Int) (μ : Mem) : V Γ KJ0_isLatin1_aae02 0 [(0, (2, x0))] [] μ (BJ0_isLatin1_aae02_0 x0 μ) := by
  unfold BJ0_isLatin1_aae02_0
  refine V_getCompact (κ := KJ0_isLatin1_aae02) (pc := 0) wd_724 dJ0_isLatin1_aae02_0 ?_
  refine V_if_eq (κ := KJ0_isLatin1_aae02) (pc := 3) (tgt := 17) dJ0_isLatin1_aae02_3 rfl ?_ ?_
  · refine V_sub (lv' := []) [] rfl ?_
    exact VBJ0_isLatin1_aae02_17 _
  refine V_aload_n (κ := KJ0_isLatin1_aae02) (pc := 6) dJ0_isLatin1_aae02_6 0 rfl rfl ?_
  refine V_getf 9 (κ := KJ0_isLatin1_aae02) (pc := 7) rfl (by decide) rfl inJ0 1 (by decide) wd_1184 rfl (t := 0) rfl dJ0_isLatin1_aae02_7 fun t101 => ?_
  refine V_if_ne (κ := KJ0_isLatin1_aae02) (pc := 10) (tgt := 17) dJ0_isLatin1_aae02_10 rfl ?_ ?_
  · refine V_sub (lv' := []) [] rfl ?_
    exact VBJ0_isLatin1_aae02_17 _
  refine V_iconst (κ := KJ0_isLatin1_aae02) (pc := 13) dJ0_isLatin1_aae02_13 ⟨by decide, by decide⟩ ?_
  refine V_goto (κ := KJ0_isLatin1_aae02) (pc := 14) (tgt := 18) dJ0_isLatin1_aae02_14 rfl ?_
  refine V_sub (lv' := []) [] rfl ?_
  exact VBJ0_isLatin1_aae02_18 _ _
theorem con_J0_isLatin1_aae02 (a0 : Int) (μ : Mem) : Con (4) yJ0_isLatin1_aae02 (.code yJ0_isLatin1_aae02 cJ0_isLatin1_aae02 1 (some .boolean)) 0 [(2, a0)] μ (FJ0_isLatin1_aae02 a0 μ) := Con_intro KJ0_isLatin1_aae02 (plainFor_of_name (by decide)) rfl (fun h => by cases h) (by decide) rfl (Nat.le_of_ble_eq_true rfl) (fun Γ => VBJ0_isLatin1_aae02_0 _ _)
abbrev KJ1_charAt_3b067 : Kap := (RJ1, cJ1_charAt_3b067, 2, 4, 0, (some .char), false, [])
theorem VBJ1_charAt_3b067_0 {Γ : Gam} (x0 x1 : Int) (μ : Mem) : V Γ KJ1_charAt_3b067 0 [(0, (2, x0)), (1, (0, x1))] [] μ (BJ1_charAt_3b067_0 x0 x1 μ) := by
  unfold BJ1_charAt_3b067_0
  refine V_iload_n (κ := KJ1_charAt_3b067) (pc := 0) dJ1_charAt_3b067_0 1 rfl ?_
  refine V_aload_n (κ := KJ1_charAt_3b067) (pc := 1) dJ1_charAt_3b067_1 0 rfl rfl ?_
  refine V_alen 0 (by decide) (κ := KJ1_charAt_3b067) (pc := 2) dJ1_charAt_3b067_2 fun t101 => ?_
  refine V_chk0 (κ := KJ1_charAt_3b067) (pc := 3) wd_737 (by decide) rfl (by decide) (Nat.le_of_ble_eq_true rfl) dJ1_charAt_3b067_3 ?_
  refine V_aload_n (κ := KJ1_charAt_3b067) (pc := 6) dJ1_charAt_3b067_6 0 rfl rfl ?_
  refine V_iload_n (κ := KJ1_charAt_3b067) (pc := 7) dJ1_charAt_3b067_7 1 rfl ?_
  refine V_baload (κ := KJ1_charAt_3b067) (pc := 8) dJ1_charAt_3b067_8 fun t102 => ?_
  refine V_sipush (κ := KJ1_charAt_3b067) (pc := 9) dJ1_charAt_3b067_9 ⟨by decide, by decide⟩ (by decide) ?_
  refine V_iand (κ := KJ1_charAt_3b067) (pc := 12) dJ1_charAt_3b067_12 ?_
  refine V_i2c (κ := KJ1_charAt_3b067) (pc := 13) dJ1_charAt_3b067_13 ?_
  exact V_creturn (κ := KJ1_charAt_3b067) (pc := 14) rfl rfl dJ1_charAt_3b067_14
theorem con_J1_charAt_3b067 (a0 a1 : Int) (μ : Mem) : Con (4) yJ1_charAt_3b067 (.code yJ1_charAt_3b067 cJ1_charAt_3b067 2 (some .char)) 0 [(2, a0), (0, a1)] μ (FJ1_charAt_3b067 a0 a1 μ) := Con_intro KJ1_charAt_3b067 (plainFor_of_name (by decide)) rfl (fun h => by cases h) (by decide) rfl (Nat.le_of_ble_eq_true rfl) (fun Γ => VBJ1_charAt_3b067_0 _ _ _)
abbrev KJ0_charAt_5068e : Kap := (RJ0, cJ0_charAt_5068e, 2, 5, 0, (some .char), false, [])
theorem VBJ0_charAt_5068e_0 {Γ : Gam} (x0 x1 : Int) (μ : Mem) : V Γ KJ0_charAt_5068e 0 [(0, (2, x0)), (1, (0, x1))] [] μ (BJ0_charAt_5068e_0 x0 x1 μ) := by
  unfold BJ0_charAt_5068e_0
  refine V_aload_n (κ := KJ0_charAt_5068e) (pc := 0) dJ0_charAt_5068e_0 0 rfl rfl ?_
  refine V_callV (ci := 9) (T := TJ0) (N := 4) rfl (by decide) (κ := KJ0_charAt_5068e) (pc := 1) (con_J0_isLatin1_aae02 _ _) mth_J0_isLatin1_aae02 rfl ⟨wd_731, wd_732⟩ wd_730 (st0 := []) rfl rfl (by decide) (Nat.le_of_ble_eq_true rfl) dJ0_charAt_5068e_1 (fun _ _ _ h => VX_out rfl (by decide) h) fun t101 u102 => ?_
  refine V_if_eq (κ := KJ0_charAt_5068e) (pc := 4) (tgt := 16) dJ0_charAt_5068e_4 rfl ?_ ?_
  · refine V_aload_n (κ := KJ0_charAt_5068e) (pc := 16) dJ0_charAt_5068e_16 0 rfl rfl ?_
    refine V_getf 9 (κ := KJ0_charAt_5068e) (pc := 17) rfl (by decide) rfl inJ0 0 (by decide) wd_1183 rfl (t := 2) rfl dJ0_charAt_5068e_17 fun t103 => ?_
    refine V_iload_n (κ := KJ0_charAt_5068e) (pc := 20) dJ0_charAt_5068e_20 1 rfl ?_
    exact V_none
  refine V_aload_n (κ := KJ0_charAt_5068e) (pc := 7) dJ0_charAt_5068e_7 0 rfl rfl ?_
  refine V_getf 9 (κ := KJ0_charAt_5068e) (pc := 8) rfl (by decide) rfl inJ0 0 (by decide) wd_1183 rfl (t := 2) rfl dJ0_charAt_5068e_8 fun t104 => ?_
  refine V_iload_n (κ := KJ0_charAt_5068e) (pc := 11) dJ0_charAt_5068e_11 1 rfl ?_
  refine V_callS (κ := KJ0_charAt_5068e) (pc := 12) (con_J1_charAt_3b067 _ _ _) mth_J1_charAt_3b067 wd_735 wd_734 (st0 := []) rfl rfl (by decide) (Nat.le_of_ble_eq_true rfl) dJ0_charAt_5068e_12 (fun _ _ _ h => VX_out rfl (by decide) h) fun t105 u106 => ?_
  exact V_creturn (κ := KJ0_charAt_5068e) (pc := 15) rfl rfl dJ0_charAt_5068e_15
theorem con_J0_charAt_5068e (a0 a1 : Int) (μ : Mem) : Con (5) yJ0_charAt_5068e (.code yJ0_charAt_5068e cJ0_charAt_5068e 2 (some .char)) 0 [(2, a0), (0, a1)] μ (FJ0_charAt_5068e a0 a1 μ) := Con_intro KJ0_charAt_5068e (plainFor_of_name (by decide)) rfl (fun h => by cases h) (by decide) rfl (Nat.le_of_ble_eq_true rfl) (fun Γ => VBJ0_charAt_5068e_0 _ _ _)
abbrev KJ7_copyOf_59c91 : Kap := (RJ7, cJ7_copyOf_59c91, 3, 5, 2, (some (.array .int)), false, [])
theorem VBJ7_copyOf_59c91_0 {Γ : Gam} (x0 x1 : Int) (μ : Mem) : V Γ KJ7_copyOf_59c91 0 [(0, (2, x0)), (1, (0, x1))] [] μ (BJ7_copyOf_59c91_0 x0 x1 μ) := by
  unfold BJ7_copyOf_59c91_0
  refine V_iload_n (κ := KJ7_copyOf_59c91) (pc := 0) dJ7_copyOf_59c91_0 1 rfl ?_
  refine V_aload_n (κ := KJ7_copyOf_59c91) (pc := 1) dJ7_copyOf_59c91_1 0 rfl rfl ?_
  refine V_alen 1 (by decide) (κ := KJ7_copyOf_59c91) (pc := 2) dJ7_copyOf_59c91_2 fun t101 => ?_
  refine V_icmp_ne (κ := KJ7_copyOf_59c91) (pc := 3) (tgt := 14) dJ7_copyOf_59c91_3 rfl ?_ ?_
  · refine V_iload_n (κ := KJ7_copyOf_59c91) (pc := 14) dJ7_copyOf_59c91_14 1 rfl ?_
    refine V_newarray 1 (by decide) (κ := KJ7_copyOf_59c91) (pc := 15) rfl wd_73 dJ7_copyOf_59c91_15 fun t102 u103 => ?_
    refine V_astore_n (κ := KJ7_copyOf_59c91) (pc := 17) (lv' := [(2, (2, t102)), (0, (2, x0)), (1, (0, x1))]) dJ7_copyOf_59c91_17 rfl (by decide) rfl ?_
    refine V_aload_n (κ := KJ7_copyOf_59c91) (pc := 18) dJ7_copyOf_59c91_18 1 rfl rfl ?_
    refine V_iconst (κ := KJ7_copyOf_59c91) (pc := 19) dJ7_copyOf_59c91_19 ⟨by decide, by decide⟩ ?_
    refine V_aload_n (κ := KJ7_copyOf_59c91) (pc := 20) dJ7_copyOf_59c91_20 0 rfl rfl ?_
    refine V_iconst (κ := KJ7_copyOf_59c91) (pc := 21) dJ7_copyOf_59c91_21 ⟨by decide, by decide⟩ ?_
    refine V_aload_n (κ := KJ7_copyOf_59c91) (pc := 22) dJ7_copyOf_59c91_22 1 rfl rfl ?_
    refine V_alen 1 (by decide) (κ := KJ7_copyOf_59c91) (pc := 23) dJ7_copyOf_59c91_23 fun t104 => ?_
    refine V_iload_n (κ := KJ7_copyOf_59c91) (pc := 24) dJ7_copyOf_59c91_24 2 rfl ?_
    refine V_callS (κ := KJ7_copyOf_59c91) (pc := 25) (con_J9_min_7cf53 _ _ _) mth_J9_min_7cf53 wd_502 wd_670 (st0 := [(0, 0), (2, t102), (0, 0), (2, x0)]) rfl rfl (by decide) (Nat.le_of_ble_eq_true rfl) dJ7_copyOf_59c91_25 (fun _ _ _ h => VX_out rfl (by decide) h) fun t105 u106 => ?_
    refine V_acopy (κ := KJ7_copyOf_59c91) (pc := 28) (by decide) wd_671 wd_496 wd_495 wd_8 (by first | decide | (simp [nativeFrameWords, catA]; done) | exact Nat.le_of_ble_eq_true rfl) dJ7_copyOf_59c91_28 fun u107 => ?_
    refine V_aload_n (κ := KJ7_copyOf_59c91) (pc := 31) dJ7_copyOf_59c91_31 0 rfl rfl ?_
    exact V_areturn (κ := KJ7_copyOf_59c91) (pc := 32) rfl rfl (by first | exact Or.inl ⟨_, rfl⟩ | exact Or.inr ⟨_, rfl⟩) dJ7_copyOf_59c91_32
  refine V_aload_n (κ := KJ7_copyOf_59c91) (pc := 6) dJ7_copyOf_59c91_6 0 rfl rfl ?_
  exact V_none
theorem con_J7_copyOf_59c91 (a0 a1 : Int) (μ : Mem) : Con (5) yJ7_copyOf_59c91 (.code yJ7_copyOf_59c91 cJ7_copyOf_59c91 3 (some (.array .int))) 2 [(2, a0), (0, a1)] μ (FJ7_copyOf_59c91 a0 a1 μ) := Con_intro KJ7_copyOf_59c91 (plainFor_of_name (by decide)) rfl (fun h => by cases h) (by decide) rfl (Nat.le_of_ble_eq_true rfl) (fun Γ => VBJ7_copyOf_59c91_0 _ _ _)
abbrev KX7_init : Kap := (RX7, cX7_init, 4, 4, 9, none, true, [])
theorem VBX7_init_0 {Γ : Gam} (x0 x1 x2 x3 : Int) (μ : Mem) : V Γ KX7_init 0 [(0, (2, x0)), (1, (0, x1)), (2, (0, x2)), (3, (0, x3))] [] μ (BX7_init_0 x0 x1 x2 x3 μ) := by
  unfold BX7_init_0
  refine V_aload_n (κ := KX7_init) (pc := 0) dX7_init_0 0 rfl rfl ?_
  refine V_objInitN (κ := KX7_init) (pc := 1) (by decide) wd_580 wd_37 wd_38 (Nat.le_of_ble_eq_true rfl) dX7_init_1 (ci := 0) ?_
  refine V_aload_n (κ := KX7_init) (pc := 4) dX7_init_4 0 rfl rfl ?_
  refine V_iload_n (κ := KX7_init) (pc := 5) dX7_init_5 1 rfl ?_
  refine V_putfF rfl 7 (κ := KX7_init) (pc := 6) rfl (by decide) rfl inX7 tyX7 tyX7_ok nmX7 0 (by decide) wd_581 rfl rfl rfl (t := 0) rfl rfl dX7_init_6 fun u101 => ?_
  refine V_aload_n (κ := KX7_init) (pc := 9) dX7_init_9 0 rfl rfl ?_
  refine V_iload_n (κ := KX7_init) (pc := 10) dX7_init_10 2 rfl ?_
  refine V_putfF rfl 7 (κ := KX7_init) (pc := 11) rfl (by decide) rfl inX7 tyX7 tyX7_ok nmX7 1 (by decide) wd_583 rfl rfl rfl (t := 0) rfl rfl dX7_init_11 fun u102 => ?_
  refine V_aload_n (κ := KX7_init) (pc := 14) dX7_init_14 0 rfl rfl ?_
  refine V_iload_n (κ := KX7_init) (pc := 15) dX7_init_15 3 rfl ?_
  refine V_putfF rfl 7 (κ := KX7_init) (pc := 16) rfl (by decide) rfl inX7 tyX7 tyX7_ok nmX7 2 (by decide) wd_585 rfl rfl rfl (t := 0) rfl rfl dX7_init_16 fun u103 => ?_
  exact V_vreturn (κ := KX7_init) (pc := 19) rfl rfl dX7_init_19
theorem con_X7_init (a0 a1 a2 a3 : Int) (μ : Mem) : Con (4) yX7_init (.code yX7_init cX7_init 4 none) 9 [(2, a0), (0, a1), (0, a2), (0, a3)] μ (FX7_init a0 a1 a2 a3 μ) := Con_intro KX7_init (plainFor_of_name (by decide)) rfl (fun h => rfl) (by decide) rfl (Nat.le_of_ble_eq_true rfl) (fun Γ => VBX7_init_0 _ _ _ _ _)
abbrev KJx4a65c_rangeCheckForAdd_d00df : Kap := (RJx4a65c, cJx4a65c_rangeCheckForAdd_d00df, 2, 6, 9, none, false, [])
theorem VBJx4a65c_rangeCheckForAdd_d00df_12 {Γ : Gam} (x0 x1 : Int) (μ : Mem) : V Γ KJx4a65c_rangeCheckForAdd_d00df 12 [(0, (2, x0)), (1, (0, x1))] [] μ (BJx4a65c_rangeCheckForAdd_d00df_12 x0 x1 μ) := by
  unfold BJx4a65c_rangeCheckForAdd_d00df_12
  exact V_none
theorem VBJx4a65c_rangeCheckForAdd_d00df_0 {Γ : Gam} (x0 x1 : Int) (μ : Mem) : V Γ KJx4a65c_rangeCheckForAdd_d00df 0 [(0, (2, x0)), (1, (0, x1))] [] μ (BJx4a65c_rangeCheckForAdd_d00df_0 x0 x1 μ) := by
  unfold BJx4a65c_rangeCheckForAdd_d00df_0
  refine V_iload_n (κ := KJx4a65c_rangeCheckForAdd_d00df) (pc := 0) dJx4a65c_rangeCheckForAdd_d00df_0 1 rfl ?_
  refine V_aload_n (κ := KJx4a65c_rangeCheckForAdd_d00df) (pc := 1) dJx4a65c_rangeCheckForAdd_d00df_1 0 rfl rfl ?_
  refine V_getf 11 (κ := KJx4a65c_rangeCheckForAdd_d00df) (pc := 2) rfl (by decide) rfl inJx4a65c 2 (by decide) wd_558 rfl (t := 0) rfl dJx4a65c_rangeCheckForAdd_d00df_2 fun t101 => ?_
  refine V_icmp_gt (κ := KJx4a65c_rangeCheckForAdd_d00df) (pc := 5) (tgt := 12) dJx4a65c_rangeCheckForAdd_d00df_5 rfl ?_ ?_
  · exact VBJx4a65c_rangeCheckForAdd_d00df_12 _ _ _
  refine V_iload_n (κ := KJx4a65c_rangeCheckForAdd_d00df) (pc := 8) dJx4a65c_rangeCheckForAdd_d00df_8 1 rfl ?_
  refine V_if_ge (κ := KJx4a65c_rangeCheckForAdd_d00df) (pc := 9) (tgt := 25) dJx4a65c_rangeCheckForAdd_d00df_9 rfl ?_ ?_
  · exact V_vreturn (κ := KJx4a65c_rangeCheckForAdd_d00df) (pc := 25) rfl rfl dJx4a65c_rangeCheckForAdd_d00df_25
  exact VBJx4a65c_rangeCheckForAdd_d00df_12 _ _ _
theorem con_Jx4a65c_rangeCheckForAdd_d00df (a0 a1 : Int) (μ : Mem) : Con (6) yJx4a65c_rangeCheckForAdd_d00df (.code yJx4a65c_rangeCheckForAdd_d00df cJx4a65c_rangeCheckForAdd_d00df 2 none) 9 [(2, a0), (0, a1)] μ (FJx4a65c_rangeCheckForAdd_d00df a0 a1 μ) := Con_intro KJx4a65c_rangeCheckForAdd_d00df (plainFor_of_name (by decide)) rfl (fun h => by cases h) (by decide) rfl (Nat.le_of_ble_eq_true rfl) (fun Γ => VBJx4a65c_rangeCheckForAdd_d00df_0 _ _ _)
abbrev KJx4a65c_add_7a177 : Kap := (RJx4a65c, cJx4a65c_add_7a177, 5, 9, 9, none, false, [])
theorem VBJx4a65c_add_7a177_38 {Γ : Gam} (x0 x1 x2 x3 x4 : Int) (μ : Mem) : V Γ KJx4a65c_add_7a177 38 [(0, (2, x0)), (1, (0, x1)), (2, (2, x2)), (3, (0, x3)), (4, (2, x4))] [] μ (BJx4a65c_add_7a177_38 x0 x1 x2 x3 x4 μ) := by
  unfold BJx4a65c_add_7a177_38
  refine V_aload (κ := KJx4a65c_add_7a177) (pc := 38) dJx4a65c_add_7a177_38 4 rfl rfl ?_
  refine V_iload_n (κ := KJx4a65c_add_7a177) (pc := 40) dJx4a65c_add_7a177_40 1 rfl ?_
  refine V_aload (κ := KJx4a65c_add_7a177) (pc := 41) dJx4a65c_add_7a177_41 4 rfl rfl ?_
  refine V_iload_n (κ := KJx4a65c_add_7a177) (pc := 43) dJx4a65c_add_7a177_43 1 rfl ?_
  refine V_iconst (κ := KJx4a65c_add_7a177) (pc := 44) dJx4a65c_add_7a177_44 ⟨by decide, by decide⟩ ?_
  refine V_iadd (κ := KJx4a65c_add_7a177) (pc := 45) dJx4a65c_add_7a177_45 ?_
  refine V_iload_n (κ := KJx4a65c_add_7a177) (pc := 46) dJx4a65c_add_7a177_46 3 rfl ?_
  refine V_iload_n (κ := KJx4a65c_add_7a177) (pc := 47) dJx4a65c_add_7a177_47 1 rfl ?_
  refine V_isub (κ := KJx4a65c_add_7a177) (pc := 48) dJx4a65c_add_7a177_48 ?_
  refine V_acopyQ (κ := KJx4a65c_add_7a177) (pc := 49) (by decide) wd_674 wd_496 wd_495 wd_8 (by first | decide | (simp [nativeFrameWords, catA]; done) | exact Nat.le_of_ble_eq_true rfl) dJx4a65c_add_7a177_49 fun u101 => ?_
  refine V_aload (κ := KJx4a65c_add_7a177) (pc := 52) dJx4a65c_add_7a177_52 4 rfl rfl ?_
  refine V_iload_n (κ := KJx4a65c_add_7a177) (pc := 54) dJx4a65c_add_7a177_54 1 rfl ?_
  refine V_aload_n (κ := KJx4a65c_add_7a177) (pc := 55) dJx4a65c_add_7a177_55 2 rfl rfl ?_
  refine V_aastoreO (κ := KJx4a65c_add_7a177) (pc := 56) dJx4a65c_add_7a177_56 fun u102 => ?_
  refine V_aload_n (κ := KJx4a65c_add_7a177) (pc := 57) dJx4a65c_add_7a177_57 0 rfl rfl ?_
  refine V_iload_n (κ := KJx4a65c_add_7a177) (pc := 58) dJx4a65c_add_7a177_58 3 rfl ?_
  refine V_iconst (κ := KJx4a65c_add_7a177) (pc := 59) dJx4a65c_add_7a177_59 ⟨by decide, by decide⟩ ?_
  refine V_iadd (κ := KJx4a65c_add_7a177) (pc := 60) dJx4a65c_add_7a177_60 ?_
  refine V_putf 11 (κ := KJx4a65c_add_7a177) (pc := 61) rfl (by decide) rfl inJx4a65c tyJx4a65c tyJx4a65c_ok nmJx4a65c 2 (by decide) wd_558 rfl rfl (t := 0) rfl rfl dJx4a65c_add_7a177_61 fun u103 => ?_
  exact V_vreturn (κ := KJx4a65c_add_7a177) (pc := 64) rfl rfl dJx4a65c_add_7a177_64
theorem VBJx4a65c_add_7a177_0 {Γ : Gam} (x0 x1 x2 : Int) (μ : Mem) : V Γ KJx4a65c_add_7a177 0 [(0, (2, x0)), (1, (0, x1)), (2, (2, x2))] [] μ (BJx4a65c_add_7a177_0 x0 x1 x2 μ) := by
  unfold BJx4a65c_add_7a177_0
  refine V_aload_n (κ := KJx4a65c_add_7a177) (pc := 0) dJx4a65c_add_7a177_0 0 rfl rfl ?_
  refine V_iload_n (κ := KJx4a65c_add_7a177) (pc := 1) dJx4a65c_add_7a177_1 1 rfl ?_
  refine V_callV (ci := 11) (T := TJx4a65c) (N := 3) rfl (by decide) (κ := KJx4a65c_add_7a177) (pc := 2) (con_Jx4a65c_rangeCheckForAdd_d00df _ _ _) mth_Jx4a65c_rangeCheckForAdd_d00df rfl ⟨wd_625, wp_11⟩ wd_623 (st0 := []) rfl rfl (by decide) (Nat.le_of_ble_eq_true rfl) dJx4a65c_add_7a177_2 (fun _ _ _ h => VX_out rfl (by decide) h) fun _ u102 => ?_
  refine V_aload_n (κ := KJx4a65c_add_7a177) (pc := 5) dJx4a65c_add_7a177_5 0 rfl rfl ?_
  refine V_dup (κ := KJx4a65c_add_7a177) (pc := 6) rfl dJx4a65c_add_7a177_6 ?_
  refine V_getfS 11 (κ := KJx4a65c_add_7a177) (pc := 7) rfl (by decide) rfl inJx4a65c 0 (by decide) wd_560 wd_561 (t := 0) rfl dJx4a65c_add_7a177_7 fun t103 => ?_
  refine V_iconst (κ := KJx4a65c_add_7a177) (pc := 10) dJx4a65c_add_7a177_10 ⟨by decide, by decide⟩ ?_
  refine V_iadd (κ := KJx4a65c_add_7a177) (pc := 11) dJx4a65c_add_7a177_11 ?_
  refine V_putfS 11 (κ := KJx4a65c_add_7a177) (pc := 12) rfl (by decide) rfl inJx4a65c tyJx4a65c tyJx4a65c_ok nmJx4a65c 0 (by decide) wd_560 wd_561 rfl (t := 0) rfl rfl dJx4a65c_add_7a177_12 fun u104 => ?_
  refine V_aload_n (κ := KJx4a65c_add_7a177) (pc := 15) dJx4a65c_add_7a177_15 0 rfl rfl ?_
  refine V_getf 11 (κ := KJx4a65c_add_7a177) (pc := 16) rfl (by decide) rfl inJx4a65c 2 (by decide) wd_558 rfl (t := 0) rfl dJx4a65c_add_7a177_16 fun t105 => ?_
  refine V_dup (κ := KJx4a65c_add_7a177) (pc := 19) rfl dJx4a65c_add_7a177_19 ?_
  refine V_istore_n (κ := KJx4a65c_add_7a177) (pc := 20) (lv' := [(3, (0, t105)), (0, (2, x0)), (1, (0, x1)), (2, (2, x2))]) dJx4a65c_add_7a177_20 (by decide) rfl ?_
  refine V_aload_n (κ := KJx4a65c_add_7a177) (pc := 21) dJx4a65c_add_7a177_21 1 rfl rfl ?_
  refine V_getf 11 (κ := KJx4a65c_add_7a177) (pc := 22) rfl (by decide) rfl inJx4a65c 1 (by decide) wd_557 rfl (t := 2) rfl dJx4a65c_add_7a177_22 fun t106 => ?_
  refine V_dup (κ := KJx4a65c_add_7a177) (pc := 25) rfl dJx4a65c_add_7a177_25 ?_
  refine V_astore (κ := KJx4a65c_add_7a177) (pc := 26) (lv' := [(4, (2, t106)), (3, (0, t105)), (0, (2, x0)), (1, (0, x1)), (2, (2, x2))]) dJx4a65c_add_7a177_26 rfl (by decide) rfl ?_
  refine V_alen 2 (by decide) (κ := KJx4a65c_add_7a177) (pc := 28) dJx4a65c_add_7a177_28 fun t107 => ?_
  refine V_icmp_ne (κ := KJx4a65c_add_7a177) (pc := 29) (tgt := 38) dJx4a65c_add_7a177_29 rfl ?_ ?_
  · refine V_sub (lv' := [(0, (2, x0)), (1, (0, x1)), (2, (2, x2)), (3, (0, t105)), (4, (2, t106))]) [2, 3, 4, 1, 0] rfl ?_
    exact VBJx4a65c_add_7a177_38 _ _ _ _ _ _
  refine V_aload_n (κ := KJx4a65c_add_7a177) (pc := 32) dJx4a65c_add_7a177_32 2 rfl rfl ?_
  refine V_callV (ci := 11) (T := TJx4a65c) (N := 3) rfl (by decide) (κ := KJx4a65c_add_7a177) (pc := 33) (con_Jx4a65c_grow_d5877 _ _) mth_Jx4a65c_grow_d5877 rfl ⟨wd_629, wp_12⟩ wd_627 (st0 := []) rfl rfl (by decide) (Nat.le_of_ble_eq_true rfl) dJx4a65c_add_7a177_33 (fun _ _ _ h => VX_out rfl (by decide) h) fun t108 u109 => ?_
  refine V_astore (κ := KJx4a65c_add_7a177) (pc := 36) (lv' := [(4, (2, t108)), (3, (0, t105)), (0, (2, x0)), (1, (0, x1)), (2, (2, x2))]) dJx4a65c_add_7a177_36 rfl (by decide) rfl ?_
  refine V_sub (lv' := [(0, (2, x0)), (1, (0, x1)), (2, (2, x2)), (3, (0, t105)), (4, (2, t108))]) [2, 3, 4, 1, 0] rfl ?_
  exact VBJx4a65c_add_7a177_38 _ _ _ _ _ _
theorem con_Jx4a65c_add_7a177 (a0 a1 a2 : Int) (μ : Mem) : Con (9) yJx4a65c_add_7a177 (.code yJx4a65c_add_7a177 cJx4a65c_add_7a177 5 none) 9 [(2, a0), (0, a1), (2, a2)] μ (FJx4a65c_add_7a177 a0 a1 a2 μ) := Con_intro KJx4a65c_add_7a177 (plainFor_of_name (by decide)) rfl (fun h => by cases h) (by decide) rfl (Nat.le_of_ble_eq_true rfl) (fun Γ => VBJx4a65c_add_7a177_0 _ _ _ _)
abbrev KX7_isAhead : Kap := (RX7, cX7_isAhead, 2, 4, 0, (some .boolean), false, [])
theorem VBX7_isAhead_76 {Γ : Gam} (s0 : Int) (μ : Mem) : V Γ KX7_isAhead 76 [] [(0, s0)] μ (BX7_isAhead_76 s0 μ) := by
  unfold BX7_isAhead_76
  exact V_zreturn (κ := KX7_isAhead) (pc := 76) rfl rfl dX7_isAhead_76
theorem VBX7_isAhead_0 {Γ : Gam} (x0 x1 : Int) (μ : Mem) : V Γ KX7_isAhead 0 [(0, (2, x0)), (1, (2, x1))] [] μ (BX7_isAhead_0 x0 x1 μ) := by
  unfold BX7_isAhead_0
  refine V_aload_n (κ := KX7_isAhead) (pc := 0) dX7_isAhead_0 0 rfl rfl ?_
  refine V_getf 7 (κ := KX7_isAhead) (pc := 1) rfl (by decide) rfl inX7 2 (by decide) wd_585 rfl (t := 0) rfl dX7_isAhead_1 fun t101 => ?_
  refine V_aload_n (κ := KX7_isAhead) (pc := 4) dX7_isAhead_4 1 rfl rfl ?_
  refine V_getf 7 (κ := KX7_isAhead) (pc := 5) rfl (by decide) rfl inX7 2 (by decide) wd_585 rfl (t := 0) rfl dX7_isAhead_5 fun t102 => ?_
  refine V_icmp_eq (κ := KX7_isAhead) (pc := 8) (tgt := 30) dX7_isAhead_8 rfl ?_ ?_
  · refine V_aload_n (κ := KX7_isAhead) (pc := 30) dX7_isAhead_30 0 rfl rfl ?_
    refine V_getf 7 (κ := KX7_isAhead) (pc := 31) rfl (by decide) rfl inX7 1 (by decide) wd_583 rfl (t := 0) rfl dX7_isAhead_31 fun t103 => ?_
    refine V_aload_n (κ := KX7_isAhead) (pc := 34) dX7_isAhead_34 1 rfl rfl ?_
    refine V_getf 7 (κ := KX7_isAhead) (pc := 35) rfl (by decide) rfl inX7 1 (by decide) wd_583 rfl (t := 0) rfl dX7_isAhead_35 fun t104 => ?_
    refine V_icmp_eq (κ := KX7_isAhead) (pc := 38) (tgt := 60) dX7_isAhead_38 rfl ?_ ?_
    · refine V_aload_n (κ := KX7_isAhead) (pc := 60) dX7_isAhead_60 0 rfl rfl ?_
      refine V_getf 7 (κ := KX7_isAhead) (pc := 61) rfl (by decide) rfl inX7 0 (by decide) wd_581 rfl (t := 0) rfl dX7_isAhead_61 fun t105 => ?_
      refine V_aload_n (κ := KX7_isAhead) (pc := 64) dX7_isAhead_64 1 rfl rfl ?_
      refine V_getf 7 (κ := KX7_isAhead) (pc := 65) rfl (by decide) rfl inX7 0 (by decide) wd_581 rfl (t := 0) rfl dX7_isAhead_65 fun t106 => ?_
      refine V_icmp_ge (κ := KX7_isAhead) (pc := 68) (tgt := 75) dX7_isAhead_68 rfl ?_ ?_
      · refine V_iconst (κ := KX7_isAhead) (pc := 75) dX7_isAhead_75 ⟨by decide, by decide⟩ ?_
        refine V_sub (lv' := []) [] rfl ?_
        exact VBX7_isAhead_76 _ _
      refine V_iconst (κ := KX7_isAhead) (pc := 71) dX7_isAhead_71 ⟨by decide, by decide⟩ ?_
      refine V_goto (κ := KX7_isAhead) (pc := 72) (tgt := 76) dX7_isAhead_72 rfl ?_
      refine V_sub (lv' := []) [] rfl ?_
      exact VBX7_isAhead_76 _ _
    refine V_aload_n (κ := KX7_isAhead) (pc := 41) dX7_isAhead_41 0 rfl rfl ?_
    refine V_getf 7 (κ := KX7_isAhead) (pc := 42) rfl (by decide) rfl inX7 1 (by decide) wd_583 rfl (t := 0) rfl dX7_isAhead_42 fun t107 => ?_
    refine V_aload_n (κ := KX7_isAhead) (pc := 45) dX7_isAhead_45 1 rfl rfl ?_
    refine V_getf 7 (κ := KX7_isAhead) (pc := 46) rfl (by decide) rfl inX7 1 (by decide) wd_583 rfl (t := 0) rfl dX7_isAhead_46 fun t108 => ?_
    refine V_icmp_ge (κ := KX7_isAhead) (pc := 49) (tgt := 56) dX7_isAhead_49 rfl ?_ ?_
    · refine V_iconst (κ := KX7_isAhead) (pc := 56) dX7_isAhead_56 ⟨by decide, by decide⟩ ?_
      refine V_goto (κ := KX7_isAhead) (pc := 57) (tgt := 76) dX7_isAhead_57 rfl ?_
      refine V_sub (lv' := []) [] rfl ?_
      exact VBX7_isAhead_76 _ _
    refine V_iconst (κ := KX7_isAhead) (pc := 52) dX7_isAhead_52 ⟨by decide, by decide⟩ ?_
    refine V_goto (κ := KX7_isAhead) (pc := 53) (tgt := 76) dX7_isAhead_53 rfl ?_
    refine V_sub (lv' := []) [] rfl ?_
    exact VBX7_isAhead_76 _ _
  refine V_aload_n (κ := KX7_isAhead) (pc := 11) dX7_isAhead_11 0 rfl rfl ?_
  refine V_getf 7 (κ := KX7_isAhead) (pc := 12) rfl (by decide) rfl inX7 2 (by decide) wd_585 rfl (t := 0) rfl dX7_isAhead_12 fun t109 => ?_
  refine V_aload_n (κ := KX7_isAhead) (pc := 15) dX7_isAhead_15 1 rfl rfl ?_
  refine V_getf 7 (κ := KX7_isAhead) (pc := 16) rfl (by decide) rfl inX7 2 (by decide) wd_585 rfl (t := 0) rfl dX7_isAhead_16 fun t110 => ?_
  refine V_icmp_ge (κ := KX7_isAhead) (pc := 19) (tgt := 26) dX7_isAhead_19 rfl ?_ ?_
  · refine V_iconst (κ := KX7_isAhead) (pc := 26) dX7_isAhead_26 ⟨by decide, by decide⟩ ?_
    refine V_goto (κ := KX7_isAhead) (pc := 27) (tgt := 76) dX7_isAhead_27 rfl ?_
    refine V_sub (lv' := []) [] rfl ?_
    exact VBX7_isAhead_76 _ _
  refine V_iconst (κ := KX7_isAhead) (pc := 22) dX7_isAhead_22 ⟨by decide, by decide⟩ ?_
  refine V_goto (κ := KX7_isAhead) (pc := 23) (tgt := 76) dX7_isAhead_23 rfl ?_
  refine V_sub (lv' := []) [] rfl ?_
  exact VBX7_isAhead_76 _ _
theorem con_X7_isAhead (a0 a1 : Int) (μ : Mem) : Con (4) yX7_isAhead (.code yX7_isAhead cX7_isAhead 2 (some .boolean)) 0 [(2, a0), (2, a1)] μ (FX7_isAhead a0 a1 μ) := Con_intro KX7_isAhead (plainFor_of_name (by decide)) rfl (fun h => by cases h) (by decide) rfl (Nat.le_of_ble_eq_true rfl) (fun Γ => VBX7_isAhead_0 _ _ _)
abbrev KX8_comes : Kap := (RX8, cX8_comes, 3, 10, 9, none, false, [])
theorem VBX8_comes_38 {Γ : Gam} (x0 x1 x2 : Int) (μ : Mem) : V Γ KX8_comes 38 [(0, (2, x0)), (1, (2, x1)), (2, (0, x2))] [] μ (BX8_comes_38 x0 x1 x2 μ) := by
  unfold BX8_comes_38
  refine V_aload_n (κ := KX8_comes) (pc := 38) dX8_comes_38 0 rfl rfl ?_
  refine V_getf 8 (κ := KX8_comes) (pc := 39) rfl (by decide) rfl inX8 6 (by decide) wd_687 rfl (t := 2) rfl dX8_comes_39 fun t101 => ?_
  refine V_iload_n (κ := KX8_comes) (pc := 42) dX8_comes_42 2 rfl ?_
  refine V_aload_n (κ := KX8_comes) (pc := 43) dX8_comes_43 1 rfl rfl ?_
  refine V_callV (ci := 11) (T := TJx4a65c) (N := 3) rfl (by decide) (κ := KX8_comes) (pc := 44) (con_Jx4a65c_add_7a177 _ _ _ _) mth_Jx4a65c_add_7a177 rfl ⟨wd_620, wd_621⟩ wd_619 (st0 := []) rfl rfl (by decide) (Nat.le_of_ble_eq_true rfl) dX8_comes_44 (fun _ _ _ h => VX_out rfl (by decide) h) fun _ u103 => ?_
  exact V_vreturn (κ := KX8_comes) (pc := 47) rfl rfl dX8_comes_47
theorem VBX8_comes_8 {Γ : Gam} {k8 : Int → Int → Int → Mem → Rz} (hk8 : ∀ (y0 y1 y2 : Int) (ν : Mem), V Γ KX8_comes 8 [(0, (2, y0)), (1, (2, y1)), (2, (0, y2))] [] ν (k8 y0 y1 y2 ν)) (x0 x1 x2 : Int) (μ : Mem) : V Γ KX8_comes 8 [(0, (2, x0)), (1, (2, x1)), (2, (0, x2))] [] μ (BX8_comes_8 k8 x0 x1 x2 μ) := by
  unfold BX8_comes_8
  refine V_iload_n (κ := KX8_comes) (pc := 8) dX8_comes_8 2 rfl ?_
  refine V_if_le (κ := KX8_comes) (pc := 9) (tgt := 38) dX8_comes_9 rfl ?_ ?_
  · exact VBX8_comes_38 _ _ _ _
  refine V_aload_n (κ := KX8_comes) (pc := 12) dX8_comes_12 1 rfl rfl ?_
  refine V_aload_n (κ := KX8_comes) (pc := 13) dX8_comes_13 0 rfl rfl ?_
  refine V_getf 8 (κ := KX8_comes) (pc := 14) rfl (by decide) rfl inX8 6 (by decide) wd_687 rfl (t := 2) rfl dX8_comes_14 fun t101 => ?_
  refine V_iload_n (κ := KX8_comes) (pc := 17) dX8_comes_17 2 rfl ?_
  refine V_iconst (κ := KX8_comes) (pc := 18) dX8_comes_18 ⟨by decide, by decide⟩ ?_
  refine V_isub (κ := KX8_comes) (pc := 19) dX8_comes_19 ?_
  refine V_callV (ci := 11) (T := TJx4a65c) (N := 3) rfl (by decide) (κ := KX8_comes) (pc := 20) (con_Jx4a65c_get_915e3 _ _ _) mth_Jx4a65c_get_915e3 rfl ⟨wd_602, wd_603⟩ wd_601 (st0 := [(2, x1)]) rfl rfl (by decide) (Nat.le_of_ble_eq_true rfl) dX8_comes_20 (fun _ _ _ h => VX_out rfl (by decide) h) fun t102 u103 => ?_
  refine V_ccO 7 (by decide) (T := TX7) (N := 3) rfl (κ := KX8_comes) (pc := 23) wd_569 dX8_comes_23 ?_
  refine V_callV (ci := 7) (T := TX7) (N := 3) rfl (by decide) (κ := KX8_comes) (pc := 26) (con_X7_isAhead _ _ _) mth_X7_isAhead rfl ⟨wd_616, wd_617⟩ wd_615 (st0 := []) rfl rfl (by decide) (Nat.le_of_ble_eq_true rfl) dX8_comes_26 (fun _ _ _ h => VX_out rfl (by decide) h) fun t104 u105 => ?_
  refine V_if_eq (κ := KX8_comes) (pc := 29) (tgt := 38) dX8_comes_29 rfl ?_ ?_
  · exact VBX8_comes_38 _ _ _ _
  refine V_iinc (κ := KX8_comes) (pc := 32) (lv' := [(2, (0, w32 (x2 + (-1)))), (0, (2, x0)), (1, (2, x1))]) dX8_comes_32 2 rfl (by decide) rfl ?_
  refine V_goto (κ := KX8_comes) (pc := 35) (tgt := 8) dX8_comes_35 rfl ?_
  refine V_sub (lv' := [(0, (2, x0)), (1, (2, x1)), (2, (0, w32 (x2 + (-1))))]) [1, 2, 0] rfl ?_
  exact hk8 _ _ _ _
theorem VLX8_comes_8 {Γ : Gam} : ∀ (n : Nat) (x0 x1 x2 : Int) (μ : Mem), V Γ KX8_comes 8 [(0, (2, x0)), (1, (2, x1)), (2, (0, x2))] [] μ (LX8_comes_8 n x0 x1 x2 μ)
  | 0, _, _, _, _ => V_none
  | n + 1, x0, x1, x2, μ => VBX8_comes_8 (fun y0 y1 y2 ν => VLX8_comes_8 n y0 y1 y2 ν) x0 x1 x2 μ
theorem VBX8_comes_0 {Γ : Gam} (x0 x1 : Int) (μ : Mem) : V Γ KX8_comes 0 [(0, (2, x0)), (1, (2, x1))] [] μ (BX8_comes_0 x0 x1 μ) := by
  unfold BX8_comes_0
  refine V_aload_n (κ := KX8_comes) (pc := 0) dX8_comes_0 0 rfl rfl ?_
  refine V_getf 8 (κ := KX8_comes) (pc := 1) rfl (by decide) rfl inX8 6 (by decide) wd_687 rfl (t := 2) rfl dX8_comes_1 fun t101 => ?_
  refine V_callV (ci := 11) (T := TJx4a65c) (N := 3) rfl (by decide) (κ := KX8_comes) (pc := 4) (con_Jx4a65c_size_8abf5 _ _) mth_Jx4a65c_size_8abf5 rfl ⟨wd_598, wd_599⟩ wd_597 (st0 := []) rfl rfl (by decide) (Nat.le_of_ble_eq_true rfl) dX8_comes_4 (fun _ _ _ h => VX_out rfl (by decide) h) fun t102 u103 => ?_
  refine V_istore_n (κ := KX8_comes) (pc := 7) (lv' := [(2, (0, t102)), (0, (2, x0)), (1, (2, x1))]) dX8_comes_7 (by decide) rfl ?_
  refine V_sub (lv' := [(0, (2, x0)), (1, (2, x1)), (2, (0, t102))]) [1, 2, 0] rfl ?_
  exact VLX8_comes_8 FU _ _ _ _
theorem con_X8_comes (a0 a1 : Int) (μ : Mem) : Con (10) yX8_comes (.code yX8_comes cX8_comes 3 none) 9 [(2, a0), (2, a1)] μ (FX8_comes a0 a1 μ) := Con_intro KX8_comes (plainFor_of_name (by decide)) rfl (fun h => by cases h) (by decide) rfl (Nat.le_of_ble_eq_true rfl) (fun Γ => VBX8_comes_0 _ _ _)
abbrev KX8_measure : Kap := (RX8, cX8_measure, 5, 5, 0, (some .int), false, [])
theorem VBX8_measure_121 {Γ : Gam} (s0 : Int) (μ : Mem) : V Γ KX8_measure 121 [] [(0, s0)] μ (BX8_measure_121 s0 μ) := by
  unfold BX8_measure_121
  exact V_ireturn (κ := KX8_measure) (pc := 121) rfl rfl dX8_measure_121
theorem VBX8_measure_0 {Γ : Gam} (x0 x1 x2 : Int) (μ : Mem) : V Γ KX8_measure 0 [(0, (2, x0)), (1, (0, x1)), (2, (0, x2))] [] μ (BX8_measure_0 x0 x1 x2 μ) := by
  unfold BX8_measure_0
  refine V_iconst (κ := KX8_measure) (pc := 0) dX8_measure_0 ⟨by decide, by decide⟩ ?_
  refine V_aload_n (κ := KX8_measure) (pc := 1) dX8_measure_1 0 rfl rfl ?_
  refine V_getf 8 (κ := KX8_measure) (pc := 2) rfl (by decide) rfl inX8 0 (by decide) wd_675 rfl (t := 0) rfl dX8_measure_2 fun t101 => ?_
  refine V_iload_n (κ := KX8_measure) (pc := 5) dX8_measure_5 1 rfl ?_
  refine V_imul (κ := KX8_measure) (pc := 6) dX8_measure_6 ?_
  refine V_aload_n (κ := KX8_measure) (pc := 7) dX8_measure_7 0 rfl rfl ?_
  refine V_getf 8 (κ := KX8_measure) (pc := 8) rfl (by decide) rfl inX8 1 (by decide) wd_677 rfl (t := 0) rfl dX8_measure_8 fun t102 => ?_
  refine V_iload_n (κ := KX8_measure) (pc := 11) dX8_measure_11 2 rfl ?_
  refine V_imul (κ := KX8_measure) (pc := 12) dX8_measure_12 ?_
  refine V_iadd (κ := KX8_measure) (pc := 13) dX8_measure_13 ?_
  refine V_aload_n (κ := KX8_measure) (pc := 14) dX8_measure_14 0 rfl rfl ?_
  refine V_getf 8 (κ := KX8_measure) (pc := 15) rfl (by decide) rfl inX8 2 (by decide) wd_679 rfl (t := 0) rfl dX8_measure_15 fun t103 => ?_
  refine V_callS (κ := KX8_measure) (pc := 18) (con_J9_floorMod_7cf53 _ _ _) mth_J9_floorMod_7cf53 wd_399 wd_575 (st0 := [(0, 2)]) rfl rfl (by decide) (Nat.le_of_ble_eq_true rfl) dX8_measure_18 (fun _ _ _ h => VX_out rfl (by decide) h) fun t104 u105 => ?_
  refine V_imul (κ := KX8_measure) (pc := 21) dX8_measure_21 ?_
  refine V_aload_n (κ := KX8_measure) (pc := 22) dX8_measure_22 0 rfl rfl ?_
  refine V_getf 8 (κ := KX8_measure) (pc := 23) rfl (by decide) rfl inX8 2 (by decide) wd_679 rfl (t := 0) rfl dX8_measure_23 fun t106 => ?_
  refine V_isub (κ := KX8_measure) (pc := 26) dX8_measure_26 ?_
  refine V_callS (κ := KX8_measure) (pc := 27) (con_J9_abs_0f7a4 _ _) mth_J9_abs_0f7a4 wd_402 wd_576 (st0 := []) rfl rfl (by decide) (Nat.le_of_ble_eq_true rfl) dX8_measure_27 (fun _ _ _ h => VX_out rfl (by decide) h) fun t107 u108 => ?_
  refine V_istore_n (κ := KX8_measure) (pc := 30) (lv' := [(3, (0, t107)), (0, (2, x0)), (1, (0, x1)), (2, (0, x2))]) dX8_measure_30 (by decide) rfl ?_
  refine V_iconst (κ := KX8_measure) (pc := 31) dX8_measure_31 ⟨by decide, by decide⟩ ?_
  refine V_aload_n (κ := KX8_measure) (pc := 32) dX8_measure_32 1 rfl rfl ?_
  refine V_getf 8 (κ := KX8_measure) (pc := 33) rfl (by decide) rfl inX8 0 (by decide) wd_675 rfl (t := 0) rfl dX8_measure_33 fun t109 => ?_
  refine V_iload_n (κ := KX8_measure) (pc := 36) dX8_measure_36 3 rfl ?_
  refine V_imul (κ := KX8_measure) (pc := 37) dX8_measure_37 ?_
  refine V_aload_n (κ := KX8_measure) (pc := 38) dX8_measure_38 1 rfl rfl ?_
  refine V_getf 8 (κ := KX8_measure) (pc := 39) rfl (by decide) rfl inX8 1 (by decide) wd_677 rfl (t := 0) rfl dX8_measure_39 fun t110 => ?_
  refine V_iload_n (κ := KX8_measure) (pc := 42) dX8_measure_42 2 rfl ?_
  refine V_imul (κ := KX8_measure) (pc := 43) dX8_measure_43 ?_
  refine V_isub (κ := KX8_measure) (pc := 44) dX8_measure_44 ?_
  refine V_aload_n (κ := KX8_measure) (pc := 45) dX8_measure_45 1 rfl rfl ?_
  refine V_getf 8 (κ := KX8_measure) (pc := 46) rfl (by decide) rfl inX8 2 (by decide) wd_679 rfl (t := 0) rfl dX8_measure_46 fun t111 => ?_
  refine V_callS (κ := KX8_measure) (pc := 49) (con_J9_floorMod_7cf53 _ _ _) mth_J9_floorMod_7cf53 wd_399 wd_575 (st0 := [(0, 2)]) rfl rfl (by decide) (Nat.le_of_ble_eq_true rfl) dX8_measure_49 (fun _ _ _ h => VX_out rfl (by decide) h) fun t112 u113 => ?_
  refine V_imul (κ := KX8_measure) (pc := 52) dX8_measure_52 ?_
  refine V_aload_n (κ := KX8_measure) (pc := 53) dX8_measure_53 1 rfl rfl ?_
  refine V_getf 8 (κ := KX8_measure) (pc := 54) rfl (by decide) rfl inX8 2 (by decide) wd_679 rfl (t := 0) rfl dX8_measure_54 fun t114 => ?_
  refine V_isub (κ := KX8_measure) (pc := 57) dX8_measure_57 ?_
  refine V_callS (κ := KX8_measure) (pc := 58) (con_J9_abs_0f7a4 _ _) mth_J9_abs_0f7a4 wd_402 wd_576 (st0 := []) rfl rfl (by decide) (Nat.le_of_ble_eq_true rfl) dX8_measure_58 (fun _ _ _ h => VX_out rfl (by decide) h) fun t115 u116 => ?_
  refine V_istore (κ := KX8_measure) (pc := 61) (lv' := [(4, (0, t115)), (3, (0, t107)), (0, (2, x0)), (1, (0, x1)), (2, (0, x2))]) dX8_measure_61 (by decide) rfl ?_
  refine V_aload_n (κ := KX8_measure) (pc := 63) dX8_measure_63 2 rfl rfl ?_
  refine V_getf 8 (κ := KX8_measure) (pc := 64) rfl (by decide) rfl inX8 3 (by decide) wd_681 rfl (t := 0) rfl dX8_measure_64 fun t117 => ?_
  refine V_tsw (κ := KX8_measure) (pc := 67) (os := [25, 35, 37]) (tgt := 109) dX8_measure_67 rfl rfl ?_ ⟨⟨92, rfl, ?_⟩, ⟨102, rfl, ?_⟩, ⟨104, rfl, ?_⟩, trivial⟩
  · refine V_iload_n (κ := KX8_measure) (pc := 109) dX8_measure_109 1 rfl ?_
    refine V_iload (κ := KX8_measure) (pc := 110) dX8_measure_110 0 rfl ?_
    refine V_icmp_le (κ := KX8_measure) (pc := 112) (tgt := 119) dX8_measure_112 rfl ?_ ?_
    · refine V_iload (κ := KX8_measure) (pc := 119) dX8_measure_119 0 rfl ?_
      refine V_sub (lv' := []) [] rfl ?_
      exact VBX8_measure_121 _ _
    refine V_iload_n (κ := KX8_measure) (pc := 115) dX8_measure_115 1 rfl ?_
    refine V_goto (κ := KX8_measure) (pc := 116) (tgt := 121) dX8_measure_116 rfl ?_
    refine V_sub (lv' := []) [] rfl ?_
    exact VBX8_measure_121 _ _
  · refine V_iload_n (κ := KX8_measure) (pc := 92) dX8_measure_92 1 rfl ?_
    refine V_iload_n (κ := KX8_measure) (pc := 93) dX8_measure_93 1 rfl ?_
    refine V_imul (κ := KX8_measure) (pc := 94) dX8_measure_94 ?_
    refine V_iload (κ := KX8_measure) (pc := 95) dX8_measure_95 0 rfl ?_
    refine V_iload (κ := KX8_measure) (pc := 97) dX8_measure_97 0 rfl ?_
    refine V_imul (κ := KX8_measure) (pc := 99) dX8_measure_99 ?_
    refine V_iadd (κ := KX8_measure) (pc := 100) dX8_measure_100 ?_
    exact V_ireturn (κ := KX8_measure) (pc := 101) rfl rfl dX8_measure_101
  · refine V_iload_n (κ := KX8_measure) (pc := 102) dX8_measure_102 1 rfl ?_
    exact V_ireturn (κ := KX8_measure) (pc := 103) rfl rfl dX8_measure_103
  · refine V_iload_n (κ := KX8_measure) (pc := 104) dX8_measure_104 1 rfl ?_
    refine V_iload (κ := KX8_measure) (pc := 105) dX8_measure_105 0 rfl ?_
    refine V_iadd (κ := KX8_measure) (pc := 107) dX8_measure_107 ?_
    exact V_ireturn (κ := KX8_measure) (pc := 108) rfl rfl dX8_measure_108
theorem con_X8_measure (a0 a1 a2 : Int) (μ : Mem) : Con (5) yX8_measure (.code yX8_measure cX8_measure 5 (some .int)) 0 [(2, a0), (0, a1), (0, a2)] μ (FX8_measure a0 a1 a2 μ) := Con_intro KX8_measure (plainFor_of_name (by decide)) rfl (fun h => by cases h) (by decide) rfl (Nat.le_of_ble_eq_true rfl) (fun Γ => VBX8_measure_0 _ _ _ _)
abbrev KX8_init : Kap := (RX8, cX8_init, 6, 11, 9, none, true, [])
theorem VBX8_init_56 {Γ : Gam} {k44 : Int → Int → Mem → Rz} (hk44 : ∀ (y0 y4 : Int) (ν : Mem), V Γ KX8_init 44 [(0, (2, y0)), (4, (0, y4))] [] ν (k44 y0 y4 ν)) {k56 : Int → Int → Int → Mem → Rz} (hk56 : ∀ (y0 y4 y5 : Int) (ν : Mem), V Γ KX8_init 56 [(0, (2, y0)), (4, (0, y4)), (5, (0, y5))] [] ν (k56 y0 y4 y5 ν)) (x0 x4 x5 : Int) (μ : Mem) : V Γ KX8_init 56 [(0, (2, x0)), (4, (0, x4)), (5, (0, x5))] [] μ (BX8_init_56 k44 k56 x0 x4 x5 μ) := by
  unfold BX8_init_56
  refine V_iload (κ := KX8_init) (pc := 56) dX8_init_56 2 rfl ?_
  refine V_aload_n (κ := KX8_init) (pc := 58) dX8_init_58 0 rfl rfl ?_
  refine V_getf 8 (κ := KX8_init) (pc := 59) rfl (by decide) rfl inX8 2 (by decide) wd_679 rfl (t := 0) rfl dX8_init_59 fun t101 => ?_
  refine V_icmp_ge (κ := KX8_init) (pc := 62) (tgt := 94) dX8_init_62 rfl ?_ ?_
  · refine V_iinc (κ := KX8_init) (pc := 94) (lv' := [(4, (0, w32 (x4 + 1))), (0, (2, x0)), (5, (0, x5))]) dX8_init_94 1 rfl (by decide) rfl ?_
    refine V_goto (κ := KX8_init) (pc := 97) (tgt := 44) dX8_init_97 rfl ?_
    refine V_sub (lv' := [(0, (2, x0)), (4, (0, w32 (x4 + 1)))]) [1, 0] rfl ?_
    exact hk44 _ _ _
  refine V_aload_n (κ := KX8_init) (pc := 65) dX8_init_65 0 rfl rfl ?_
  refine V_newN 7 (κ := KX8_init) (pc := 66) rfl (by decide) rfl rfl inX7 tyX7 tyX7_ok (by decide) wd_569 wd_570 wd_17 dX8_init_66 fun t102 u103 => ?_
  refine V_dup (κ := KX8_init) (pc := 69) rfl dX8_init_69 ?_
  refine V_iload (κ := KX8_init) (pc := 70) dX8_init_70 1 rfl ?_
  refine V_iload (κ := KX8_init) (pc := 72) dX8_init_72 2 rfl ?_
  refine V_aload_n (κ := KX8_init) (pc := 74) dX8_init_74 0 rfl rfl ?_
  refine V_iload (κ := KX8_init) (pc := 75) dX8_init_75 1 rfl ?_
  refine V_iload (κ := KX8_init) (pc := 77) dX8_init_77 2 rfl ?_
  refine V_callV (ci := 8) (T := TX8) (N := 7) rfl (by decide) (κ := KX8_init) (pc := 79) (con_X8_measure _ _ _ _) mth_X8_measure rfl ⟨wd_573, wp_9⟩ wd_571 (st0 := [(0, x5), (0, x4), (2, t102), (2, t102), (2, x0)]) rfl rfl (by decide) (Nat.le_of_ble_eq_true rfl) dX8_init_79 (fun _ _ _ h => VX_out rfl (by decide) h) fun t104 u105 => ?_
  refine V_callI (ci := 7) (by decide) (κ := KX8_init) (pc := 82) (con_X7_init _ _ _ _ _) mth_X7_init rfl wd_578 wd_577 (st0 := [(2, t102), (2, x0)]) rfl rfl (by decide) (Nat.le_of_ble_eq_true rfl) dX8_init_82 (fun _ _ _ h => VX_out rfl (by decide) h) fun _ u107 => ?_
  refine V_callV (ci := 8) (T := TX8) (N := 7) rfl (by decide) (κ := KX8_init) (pc := 85) (con_X8_comes _ _ _) mth_X8_comes rfl ⟨wd_595, wp_10⟩ wd_593 (st0 := []) rfl rfl (by decide) (Nat.le_of_ble_eq_true rfl) dX8_init_85 (fun _ _ _ h => VX_out rfl (by decide) h) fun _ u109 => ?_
  refine V_iinc (κ := KX8_init) (pc := 88) (lv' := [(5, (0, w32 (x5 + 1))), (0, (2, x0)), (4, (0, x4))]) dX8_init_88 2 rfl (by decide) rfl ?_
  refine V_goto (κ := KX8_init) (pc := 91) (tgt := 56) dX8_init_91 rfl ?_
  refine V_sub (lv' := [(0, (2, x0)), (4, (0, x4)), (5, (0, w32 (x5 + 1)))]) [1, 2, 0] rfl ?_
  exact hk56 _ _ _ _
theorem VLX8_init_56 {Γ : Gam} {k44 : Int → Int → Mem → Rz} (hk44 : ∀ (y0 y4 : Int) (ν : Mem), V Γ KX8_init 44 [(0, (2, y0)), (4, (0, y4))] [] ν (k44 y0 y4 ν)) : ∀ (n : Nat) (x0 x4 x5 : Int) (μ : Mem), V Γ KX8_init 56 [(0, (2, x0)), (4, (0, x4)), (5, (0, x5))] [] μ (LX8_init_56 k44 n x0 x4 x5 μ)
  | 0, _, _, _, _ => V_none
  | n + 1, x0, x4, x5, μ => VBX8_init_56 hk44 (fun y0 y4 y5 ν => VLX8_init_56 hk44 n y0 y4 y5 ν) x0 x4 x5 μ
theorem VBX8_init_44 {Γ : Gam} {k44 : Int → Int → Mem → Rz} (hk44 : ∀ (y0 y4 : Int) (ν : Mem), V Γ KX8_init 44 [(0, (2, y0)), (4, (0, y4))] [] ν (k44 y0 y4 ν)) (x0 x4 : Int) (μ : Mem) : V Γ KX8_init 44 [(0, (2, x0)), (4, (0, x4))] [] μ (BX8_init_44 k44 x0 x4 μ) := by
  unfold BX8_init_44
  refine V_iload (κ := KX8_init) (pc := 44) dX8_init_44 1 rfl ?_
  refine V_aload_n (κ := KX8_init) (pc := 46) dX8_init_46 0 rfl rfl ?_
  refine V_getf 8 (κ := KX8_init) (pc := 47) rfl (by decide) rfl inX8 2 (by decide) wd_679 rfl (t := 0) rfl dX8_init_47 fun t101 => ?_
  refine V_icmp_ge (κ := KX8_init) (pc := 50) (tgt := 100) dX8_init_50 rfl ?_ ?_
  · exact V_vreturn (κ := KX8_init) (pc := 100) rfl rfl dX8_init_100
  refine V_iconst (κ := KX8_init) (pc := 53) dX8_init_53 ⟨by decide, by decide⟩ ?_
  refine V_istore (κ := KX8_init) (pc := 54) (lv' := [(5, (0, 0)), (0, (2, x0)), (4, (0, x4))]) dX8_init_54 (by decide) rfl ?_
  refine V_sub (lv' := [(0, (2, x0)), (4, (0, x4)), (5, (0, 0))]) [1, 2, 0] rfl ?_
  exact VLX8_init_56 hk44 FU _ _ _ _
theorem VLX8_init_44 {Γ : Gam} : ∀ (n : Nat) (x0 x4 : Int) (μ : Mem), V Γ KX8_init 44 [(0, (2, x0)), (4, (0, x4))] [] μ (LX8_init_44 n x0 x4 μ)
  | 0, _, _, _ => V_none
  | n + 1, x0, x4, μ => VBX8_init_44 (fun y0 y4 ν => VLX8_init_44 n y0 y4 ν) x0 x4 μ
theorem VBX8_init_0 {Γ : Gam} (x0 x1 x2 x3 : Int) (μ : Mem) : V Γ KX8_init 0 [(0, (2, x0)), (1, (0, x1)), (2, (0, x2)), (3, (0, x3))] [] μ (BX8_init_0 x0 x1 x2 x3 μ) := by
  unfold BX8_init_0
  refine V_aload_n (κ := KX8_init) (pc := 0) dX8_init_0 0 rfl rfl ?_
  refine V_objInitN (κ := KX8_init) (pc := 1) (by decide) wd_542 wd_37 wd_38 (Nat.le_of_ble_eq_true rfl) dX8_init_1 (ci := 0) ?_
  refine V_aload_n (κ := KX8_init) (pc := 4) dX8_init_4 0 rfl rfl ?_
  refine V_newN 11 (κ := KX8_init) (pc := 5) rfl (by decide) rfl rfl inJx4a65c tyJx4a65c tyJx4a65c_ok (by decide) wd_543 wd_544 wd_15 dX8_init_5 fun t101 u102 => ?_
  refine V_dup (κ := KX8_init) (pc := 8) rfl dX8_init_8 ?_
  refine V_callI (ci := 11) (by decide) (κ := KX8_init) (pc := 9) (con_Jx4a65c_init_da8c8 _ _) mth_Jx4a65c_init_da8c8 rfl wd_546 wd_545 (st0 := [(2, t101), (2, x0)]) rfl rfl (by decide) (Nat.le_of_ble_eq_true rfl) dX8_init_9 (fun _ _ _ h => VX_out rfl (by decide) h) fun _ u104 => ?_
  refine V_putfF rfl 8 (κ := KX8_init) (pc := 12) rfl (by decide) rfl inX8 tyX8 tyX8_ok nmX8 6 (by decide) wd_687 rfl rfl rfl (t := 2) rfl rfl dX8_init_12 fun u105 => ?_
  refine V_aload_n (κ := KX8_init) (pc := 15) dX8_init_15 0 rfl rfl ?_
  refine V_iload_n (κ := KX8_init) (pc := 16) dX8_init_16 1 rfl ?_
  refine V_putfF rfl 8 (κ := KX8_init) (pc := 17) rfl (by decide) rfl inX8 tyX8 tyX8_ok nmX8 0 (by decide) wd_675 rfl rfl rfl (t := 0) rfl rfl dX8_init_17 fun u106 => ?_
  refine V_aload_n (κ := KX8_init) (pc := 20) dX8_init_20 0 rfl rfl ?_
  refine V_iload_n (κ := KX8_init) (pc := 21) dX8_init_21 2 rfl ?_
  refine V_putfF rfl 8 (κ := KX8_init) (pc := 22) rfl (by decide) rfl inX8 tyX8 tyX8_ok nmX8 1 (by decide) wd_677 rfl rfl rfl (t := 0) rfl rfl dX8_init_22 fun u107 => ?_
  refine V_aload_n (κ := KX8_init) (pc := 25) dX8_init_25 0 rfl rfl ?_
  refine V_iload_n (κ := KX8_init) (pc := 26) dX8_init_26 3 rfl ?_
  refine V_putfF rfl 8 (κ := KX8_init) (pc := 27) rfl (by decide) rfl inX8 tyX8 tyX8_ok nmX8 3 (by decide) wd_681 rfl rfl rfl (t := 0) rfl rfl dX8_init_27 fun u108 => ?_
  refine V_aload_n (κ := KX8_init) (pc := 30) dX8_init_30 0 rfl rfl ?_
  refine V_iload_n (κ := KX8_init) (pc := 31) dX8_init_31 1 rfl ?_
  refine V_iload_n (κ := KX8_init) (pc := 32) dX8_init_32 1 rfl ?_
  refine V_imul (κ := KX8_init) (pc := 33) dX8_init_33 ?_
  refine V_iload_n (κ := KX8_init) (pc := 34) dX8_init_34 2 rfl ?_
  refine V_iload_n (κ := KX8_init) (pc := 35) dX8_init_35 2 rfl ?_
  refine V_imul (κ := KX8_init) (pc := 36) dX8_init_36 ?_
  refine V_iadd (κ := KX8_init) (pc := 37) dX8_init_37 ?_
  refine V_putfF rfl 8 (κ := KX8_init) (pc := 38) rfl (by decide) rfl inX8 tyX8 tyX8_ok nmX8 2 (by decide) wd_679 rfl rfl rfl (t := 0) rfl rfl dX8_init_38 fun u109 => ?_
  refine V_iconst (κ := KX8_init) (pc := 41) dX8_init_41 ⟨by decide, by decide⟩ ?_
  refine V_istore (κ := KX8_init) (pc := 42) (lv' := [(4, (0, 0)), (0, (2, x0)), (1, (0, x1)), (2, (0, x2)), (3, (0, x3))]) dX8_init_42 (by decide) rfl ?_
  refine V_sub (lv' := [(0, (2, x0)), (4, (0, 0))]) [1, 0] rfl ?_
  exact VLX8_init_44 FU _ _ _
theorem con_X8_init (a0 a1 a2 a3 : Int) (μ : Mem) : Con (11) yX8_init (.code yX8_init cX8_init 6 none) 9 [(2, a0), (0, a1), (0, a2), (0, a3)] μ (FX8_init a0 a1 a2 a3 μ) := Con_intro KX8_init (plainFor_of_name (by decide)) rfl (fun h => rfl) (by decide) rfl (Nat.le_of_ble_eq_true rfl) (fun Γ => VBX8_init_0 _ _ _ _ _)
end WALKS
