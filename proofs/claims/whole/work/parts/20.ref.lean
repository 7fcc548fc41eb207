/-! the methods of the reference over the small memory (written by gen.py) -/
abbrev KX7_four : Kap := (RX7, cX7_four, 3, 1, 9, none, false, [])
theorem VBX7_four_3 {Γ : Gam} {k3 : Int → Int → Int → Mem → Rz} (hk3 : ∀ (y0 y1 y2 : Int) (ν : Mem), V Γ KX7_four 3 [(0, (2, y0)), (1, (0, y1)), (2, (0, y2))] [] ν (k3 y0 y1 y2 ν)) (x0 x1 x2 : Int) (μ : Mem) : V Γ KX7_four 3 [(0, (2, x0)), (1, (0, x1)), (2, (0, x2))] [] μ (BX7_four_3 k3 x0 x1 x2 μ) := by
  unfold BX7_four_3
  refine V_iload_n (κ := KX7_four) (pc := 3) dX7_four_3 2 rfl ?_
  refine V_if_lt (κ := KX7_four) (pc := 4) (tgt := 39) dX7_four_4 rfl ?_ ?_
  · exact V_vreturn (κ := KX7_four) (pc := 39) rfl rfl dX7_four_39
  refine V_aload_n (κ := KX7_four) (pc := 7) dX7_four_7 0 rfl rfl ?_
  refine V_getf 7 (κ := KX7_four) (pc := 8) rfl (by decide) rfl inX7 11 (by decide) wd_998 rfl (t := 2) rfl dX7_four_8 fun t101 => ?_
  refine V_aload_n (κ := KX7_four) (pc := 11) dX7_four_11 0 rfl rfl ?_
  refine V_getf 7 (κ := KX7_four) (pc := 12) rfl (by decide) rfl inX7 12 (by decide) wd_999 rfl (t := 0) rfl dX7_four_12 fun t102 => ?_
  refine V_iload_n (κ := KX7_four) (pc := 15) dX7_four_15 1 rfl ?_
  refine V_iload_n (κ := KX7_four) (pc := 16) dX7_four_16 2 rfl ?_
  refine V_ishr (κ := KX7_four) (pc := 17) dX7_four_17 ?_
  refine V_sipush (κ := KX7_four) (pc := 18) dX7_four_18 ⟨by decide, by decide⟩ (by decide) ?_
  refine V_iand (κ := KX7_four) (pc := 21) dX7_four_21 ?_
  refine V_iastore (κ := KX7_four) (pc := 22) dX7_four_22 fun u103 => ?_
  refine V_aload_n (κ := KX7_four) (pc := 23) dX7_four_23 0 rfl rfl ?_
  refine V_dup (κ := KX7_four) (pc := 24) rfl dX7_four_24 ?_
  refine V_getf 7 (κ := KX7_four) (pc := 25) rfl (by decide) rfl inX7 12 (by decide) wd_999 rfl (t := 0) rfl dX7_four_25 fun t104 => ?_
  refine V_iconst (κ := KX7_four) (pc := 28) dX7_four_28 ⟨by decide, by decide⟩ ?_
  refine V_iadd (κ := KX7_four) (pc := 29) dX7_four_29 ?_
  refine V_putf 7 (κ := KX7_four) (pc := 30) rfl (by decide) rfl inX7 tyX7 tyX7_ok nmX7 12 (by decide) wd_999 rfl rfl (t := 0) rfl rfl dX7_four_30 fun u105 => ?_
  refine V_iinc (κ := KX7_four) (pc := 33) (lv' := [(2, (0, w32 (x2 + (-8)))), (0, (2, x0)), (1, (0, x1))]) dX7_four_33 2 rfl (by decide) rfl ?_
  refine V_goto (κ := KX7_four) (pc := 36) (tgt := 3) dX7_four_36 rfl ?_
  refine V_sub (lv' := [(0, (2, x0)), (1, (0, x1)), (2, (0, w32 (x2 + (-8))))]) [1, 2, 0] rfl ?_
  exact hk3 _ _ _ _
theorem VLX7_four_3 {Γ : Gam} : ∀ (n : Nat) (x0 x1 x2 : Int) (μ : Mem), V Γ KX7_four 3 [(0, (2, x0)), (1, (0, x1)), (2, (0, x2))] [] μ (LX7_four_3 n x0 x1 x2 μ)
  | 0, _, _, _, _ => V_none
  | n + 1, x0, x1, x2, μ => VBX7_four_3 (fun y0 y1 y2 ν => VLX7_four_3 n y0 y1 y2 ν) x0 x1 x2 μ
theorem VBX7_four_0 {Γ : Gam} (x0 x1 : Int) (μ : Mem) : V Γ KX7_four 0 [(0, (2, x0)), (1, (0, x1))] [] μ (BX7_four_0 x0 x1 μ) := by
  unfold BX7_four_0
  refine V_bipush (κ := KX7_four) (pc := 0) dX7_four_0 ⟨by decide, by decide⟩ (by decide) ?_
  refine V_istore_n (κ := KX7_four) (pc := 2) (lv' := [(2, (0, 24)), (0, (2, x0)), (1, (0, x1))]) dX7_four_2 (by decide) rfl ?_
  refine V_sub (lv' := [(0, (2, x0)), (1, (0, x1)), (2, (0, 24))]) [1, 2, 0] rfl ?_
  exact VLX7_four_3 FU _ _ _ _
theorem con_X7_four (a0 a1 : Int) (μ : Mem) : Con (1) yX7_four (.code yX7_four cX7_four 3 none) 9 [(2, a0), (0, a1)] μ (FX7_four a0 a1 μ) := Con_intro KX7_four (plainFor_of_name (by decide)) rfl (fun h => by cases h) (by decide) rfl (Nat.le_of_ble_eq_true rfl) (fun Γ => VBX7_four_0 _ _ _)
abbrev KX7_append : Kap := (RX7, cX7_append, 6, 2, 0, (some .int), false, [])
theorem VBX7_append_0 {Γ : Gam} (x0 x1 x2 x3 x4 x5 : Int) (μ : Mem) : V Γ KX7_append 0 [(0, (2, x0)), (1, (0, x1)), (2, (0, x2)), (3, (0, x3)), (4, (0, x4)), (5, (0, x5))] [] μ (BX7_append_0 x0 x1 x2 x3 x4 x5 μ) := by
  unfold BX7_append_0
  refine V_aload_n (κ := KX7_append) (pc := 0) dX7_append_0 0 rfl rfl ?_
  refine V_iconst (κ := KX7_append) (pc := 1) dX7_append_1 ⟨by decide, by decide⟩ ?_
  refine V_putf 7 (κ := KX7_append) (pc := 2) rfl (by decide) rfl inX7 tyX7 tyX7_ok nmX7 0 (by decide) wd_987 rfl rfl (t := 0) rfl rfl dX7_append_2 fun u101 => ?_
  refine V_aload_n (κ := KX7_append) (pc := 5) dX7_append_5 0 rfl rfl ?_
  refine V_getf 7 (κ := KX7_append) (pc := 6) rfl (by decide) rfl inX7 12 (by decide) wd_999 rfl (t := 0) rfl dX7_append_6 fun t102 => ?_
  refine V_bipush (κ := KX7_append) (pc := 9) dX7_append_9 ⟨by decide, by decide⟩ (by decide) ?_
  refine V_iadd (κ := KX7_append) (pc := 11) dX7_append_11 ?_
  refine V_sipush (κ := KX7_append) (pc := 12) dX7_append_12 ⟨by decide, by decide⟩ (by decide) ?_
  refine V_icmp_le (κ := KX7_append) (pc := 15) (tgt := 20) dX7_append_15 rfl ?_ ?_
  · refine V_aload_n (κ := KX7_append) (pc := 20) dX7_append_20 0 rfl rfl ?_
    refine V_iload_n (κ := KX7_append) (pc := 21) dX7_append_21 1 rfl ?_
    refine V_callV (ci := 7) (T := TX7) (N := 24) rfl (by decide) (κ := KX7_append) (pc := 22) (con_X7_four _ _ _) mth_X7_four rfl ⟨wd_1071, wp_34⟩ wd_1069 (st0 := []) rfl rfl (by decide) (Nat.le_of_ble_eq_true rfl) dX7_append_22 (fun _ _ _ h => VX_out rfl (by decide) h) fun _ u104 => ?_
    refine V_aload_n (κ := KX7_append) (pc := 25) dX7_append_25 0 rfl rfl ?_
    refine V_iload_n (κ := KX7_append) (pc := 26) dX7_append_26 2 rfl ?_
    refine V_callV (ci := 7) (T := TX7) (N := 24) rfl (by decide) (κ := KX7_append) (pc := 27) (con_X7_four _ _ _) mth_X7_four rfl ⟨wd_1071, wp_34⟩ wd_1069 (st0 := []) rfl rfl (by decide) (Nat.le_of_ble_eq_true rfl) dX7_append_27 (fun _ _ _ h => VX_out rfl (by decide) h) fun _ u106 => ?_
    refine V_aload_n (κ := KX7_append) (pc := 30) dX7_append_30 0 rfl rfl ?_
    refine V_iload_n (κ := KX7_append) (pc := 31) dX7_append_31 3 rfl ?_
    refine V_callV (ci := 7) (T := TX7) (N := 24) rfl (by decide) (κ := KX7_append) (pc := 32) (con_X7_four _ _ _) mth_X7_four rfl ⟨wd_1071, wp_34⟩ wd_1069 (st0 := []) rfl rfl (by decide) (Nat.le_of_ble_eq_true rfl) dX7_append_32 (fun _ _ _ h => VX_out rfl (by decide) h) fun _ u108 => ?_
    refine V_aload_n (κ := KX7_append) (pc := 35) dX7_append_35 0 rfl rfl ?_
    refine V_iload (κ := KX7_append) (pc := 36) dX7_append_36 4 rfl ?_
    refine V_callV (ci := 7) (T := TX7) (N := 24) rfl (by decide) (κ := KX7_append) (pc := 38) (con_X7_four _ _ _) mth_X7_four rfl ⟨wd_1071, wp_34⟩ wd_1069 (st0 := []) rfl rfl (by decide) (Nat.le_of_ble_eq_true rfl) dX7_append_38 (fun _ _ _ h => VX_out rfl (by decide) h) fun _ u110 => ?_
    refine V_aload_n (κ := KX7_append) (pc := 41) dX7_append_41 0 rfl rfl ?_
    refine V_iload (κ := KX7_append) (pc := 42) dX7_append_42 5 rfl ?_
    refine V_callV (ci := 7) (T := TX7) (N := 24) rfl (by decide) (κ := KX7_append) (pc := 44) (con_X7_four _ _ _) mth_X7_four rfl ⟨wd_1071, wp_34⟩ wd_1069 (st0 := []) rfl rfl (by decide) (Nat.le_of_ble_eq_true rfl) dX7_append_44 (fun _ _ _ h => VX_out rfl (by decide) h) fun _ u112 => ?_
    refine V_aload_n (κ := KX7_append) (pc := 47) dX7_append_47 0 rfl rfl ?_
    refine V_getf 7 (κ := KX7_append) (pc := 48) rfl (by decide) rfl inX7 12 (by decide) wd_999 rfl (t := 0) rfl dX7_append_48 fun t113 => ?_
    exact V_ireturn (κ := KX7_append) (pc := 51) rfl rfl dX7_append_51
  refine V_iconst (κ := KX7_append) (pc := 18) dX7_append_18 ⟨by decide, by decide⟩ ?_
  exact V_ireturn (κ := KX7_append) (pc := 19) rfl rfl dX7_append_19
theorem con_X7_append (a0 a1 a2 a3 a4 a5 : Int) (μ : Mem) : Con (2) yX7_append (.code yX7_append cX7_append 6 (some .int)) 0 [(2, a0), (0, a1), (0, a2), (0, a3), (0, a4), (0, a5)] μ (FX7_append a0 a1 a2 a3 a4 a5 μ) := Con_intro KX7_append (plainFor_of_name (by decide)) rfl (fun h => by cases h) (by decide) rfl (Nat.le_of_ble_eq_true rfl) (fun Γ => VBX7_append_0 _ _ _ _ _ _ _)
abbrev KX7_moireOf : Kap := (RX7, cX7_moireOf, 9, 1, 4, (some .double), false, [])
theorem VBX7_moireOf_78 {Γ : Gam} (s0 : Int) (μ : Mem) : V Γ KX7_moireOf 78 [] [(4, s0)] μ (BX7_moireOf_78 s0 μ) := by
  unfold BX7_moireOf_78
  exact V_dreturn (κ := KX7_moireOf) (pc := 78) rfl rfl dX7_moireOf_78
theorem VBX7_moireOf_0 {Γ : Gam} (x0 x1 x2 x3 : Int) (μ : Mem) : V Γ KX7_moireOf 0 [(0, (0, x0)), (1, (0, x1)), (2, (0, x2)), (3, (0, x3))] [] μ (BX7_moireOf_0 x0 x1 x2 x3 μ) := by
  unfold BX7_moireOf_0
  refine V_iload_n (κ := KX7_moireOf) (pc := 0) dX7_moireOf_0 0 rfl ?_
  refine V_iload_n (κ := KX7_moireOf) (pc := 1) dX7_moireOf_1 0 rfl ?_
  refine V_imul (κ := KX7_moireOf) (pc := 2) dX7_moireOf_2 ?_
  refine V_iload_n (κ := KX7_moireOf) (pc := 3) dX7_moireOf_3 1 rfl ?_
  refine V_iload_n (κ := KX7_moireOf) (pc := 4) dX7_moireOf_4 1 rfl ?_
  refine V_imul (κ := KX7_moireOf) (pc := 5) dX7_moireOf_5 ?_
  refine V_iadd (κ := KX7_moireOf) (pc := 6) dX7_moireOf_6 ?_
  refine V_LT fun x101 => ?_
  refine V_istore (κ := KX7_moireOf) (pc := 7) (lv' := [(4, (0, x101)), (0, (0, x0)), (1, (0, x1)), (2, (0, x2)), (3, (0, x3))]) dX7_moireOf_7 (by decide) rfl ?_
  refine V_iload_n (κ := KX7_moireOf) (pc := 9) dX7_moireOf_9 3 rfl ?_
  refine V_iload_n (κ := KX7_moireOf) (pc := 10) dX7_moireOf_10 3 rfl ?_
  refine V_imul (κ := KX7_moireOf) (pc := 11) dX7_moireOf_11 ?_
  refine V_iload_n (κ := KX7_moireOf) (pc := 12) dX7_moireOf_12 4 rfl ?_
  refine V_iload_n (κ := KX7_moireOf) (pc := 13) dX7_moireOf_13 4 rfl ?_
  refine V_imul (κ := KX7_moireOf) (pc := 14) dX7_moireOf_14 ?_
  refine V_iadd (κ := KX7_moireOf) (pc := 15) dX7_moireOf_15 ?_
  refine V_LT fun x102 => ?_
  refine V_istore (κ := KX7_moireOf) (pc := 16) (lv' := [(5, (0, x102)), (4, (0, x101)), (0, (0, x0)), (1, (0, x1)), (2, (0, x2)), (3, (0, x3))]) dX7_moireOf_16 (by decide) rfl ?_
  refine V_iload_n (κ := KX7_moireOf) (pc := 18) dX7_moireOf_18 2 rfl ?_
  refine V_iload (κ := KX7_moireOf) (pc := 19) dX7_moireOf_19 0 rfl ?_
  refine V_imul (κ := KX7_moireOf) (pc := 21) dX7_moireOf_21 ?_
  refine V_iload_n (κ := KX7_moireOf) (pc := 22) dX7_moireOf_22 4 rfl ?_
  refine V_iload (κ := KX7_moireOf) (pc := 23) dX7_moireOf_23 1 rfl ?_
  refine V_imul (κ := KX7_moireOf) (pc := 25) dX7_moireOf_25 ?_
  refine V_isub (κ := KX7_moireOf) (pc := 26) dX7_moireOf_26 ?_
  refine V_LT fun x103 => ?_
  refine V_istore (κ := KX7_moireOf) (pc := 27) (lv' := [(6, (0, x103)), (5, (0, x102)), (4, (0, x101)), (0, (0, x0)), (1, (0, x1)), (2, (0, x2)), (3, (0, x3))]) dX7_moireOf_27 (by decide) rfl ?_
  refine V_iload_n (κ := KX7_moireOf) (pc := 29) dX7_moireOf_29 4 rfl ?_
  refine V_iload (κ := KX7_moireOf) (pc := 30) dX7_moireOf_30 1 rfl ?_
  refine V_imul (κ := KX7_moireOf) (pc := 32) dX7_moireOf_32 ?_
  refine V_iload_n (κ := KX7_moireOf) (pc := 33) dX7_moireOf_33 6 rfl ?_
  refine V_iload (κ := KX7_moireOf) (pc := 34) dX7_moireOf_34 2 rfl ?_
  refine V_imul (κ := KX7_moireOf) (pc := 36) dX7_moireOf_36 ?_
  refine V_isub (κ := KX7_moireOf) (pc := 37) dX7_moireOf_37 ?_
  refine V_LT fun x104 => ?_
  refine V_istore (κ := KX7_moireOf) (pc := 38) (lv' := [(7, (0, x104)), (6, (0, x103)), (5, (0, x102)), (4, (0, x101)), (0, (0, x0)), (1, (0, x1)), (2, (0, x2)), (3, (0, x3))]) dX7_moireOf_38 (by decide) rfl ?_
  refine V_iload (κ := KX7_moireOf) (pc := 40) dX7_moireOf_40 1 rfl ?_
  refine V_iload (κ := KX7_moireOf) (pc := 42) dX7_moireOf_42 1 rfl ?_
  refine V_imul (κ := KX7_moireOf) (pc := 44) dX7_moireOf_44 ?_
  refine V_iload (κ := KX7_moireOf) (pc := 45) dX7_moireOf_45 0 rfl ?_
  refine V_iload (κ := KX7_moireOf) (pc := 47) dX7_moireOf_47 0 rfl ?_
  refine V_imul (κ := KX7_moireOf) (pc := 49) dX7_moireOf_49 ?_
  refine V_iadd (κ := KX7_moireOf) (pc := 50) dX7_moireOf_50 ?_
  refine V_LT fun x105 => ?_
  refine V_istore (κ := KX7_moireOf) (pc := 51) (lv' := [(8, (0, x105)), (7, (0, x104)), (6, (0, x103)), (5, (0, x102)), (4, (0, x101)), (0, (0, x0)), (1, (0, x1)), (2, (0, x2)), (3, (0, x3))]) dX7_moireOf_51 (by decide) rfl ?_
  refine V_iload (κ := KX7_moireOf) (pc := 53) dX7_moireOf_53 0 rfl ?_
  refine V_if_ne (κ := KX7_moireOf) (pc := 55) (tgt := 62) dX7_moireOf_55 rfl ?_ ?_
  · refine V_iload (κ := KX7_moireOf) (pc := 62) dX7_moireOf_62 4 rfl ?_
    refine V_iload (κ := KX7_moireOf) (pc := 64) dX7_moireOf_64 4 rfl ?_
    refine V_imul (κ := KX7_moireOf) (pc := 66) dX7_moireOf_66 ?_
    refine V_iload (κ := KX7_moireOf) (pc := 67) dX7_moireOf_67 3 rfl ?_
    refine V_imul (κ := KX7_moireOf) (pc := 69) dX7_moireOf_69 ?_
    refine V_iload (κ := KX7_moireOf) (pc := 70) dX7_moireOf_70 3 rfl ?_
    refine V_imul (κ := KX7_moireOf) (pc := 72) dX7_moireOf_72 ?_
    refine V_i2d (κ := KX7_moireOf) (pc := 73) dX7_moireOf_73 ?_
    refine V_iload (κ := KX7_moireOf) (pc := 74) dX7_moireOf_74 0 rfl ?_
    refine V_i2d (κ := KX7_moireOf) (pc := 76) dX7_moireOf_76 ?_
    refine V_ddiv (κ := KX7_moireOf) (pc := 77) dX7_moireOf_77 fun t106 => ?_
    refine V_sub (lv' := []) [] rfl ?_
    exact VBX7_moireOf_78 _ _
  refine V_dconst0 (κ := KX7_moireOf) (pc := 58) dX7_moireOf_58 ?_
  refine V_goto (κ := KX7_moireOf) (pc := 59) (tgt := 78) dX7_moireOf_59 rfl ?_
  refine V_sub (lv' := []) [] rfl ?_
  exact VBX7_moireOf_78 _ _
theorem con_X7_moireOf (a0 a1 a2 a3 : Int) (μ : Mem) : Con (1) yX7_moireOf (.code yX7_moireOf cX7_moireOf 9 (some .double)) 4 [(0, a0), (0, a1), (0, a2), (0, a3)] μ (FX7_moireOf a0 a1 a2 a3 μ) := Con_intro KX7_moireOf (plainFor_of_name (by decide)) rfl (fun h => by cases h) (by decide) rfl (Nat.le_of_ble_eq_true rfl) (fun Γ => VBX7_moireOf_0 _ _ _ _ _)
abbrev KX7_get : Kap := (RX7, cX7_get, 2, 1, 0, (some .int), false, [])
theorem VBX7_get_0 {Γ : Gam} (x0 x1 : Int) (μ : Mem) : V Γ KX7_get 0 [(0, (2, x0)), (1, (0, x1))] [] μ (BX7_get_0 x0 x1 μ) := by
  unfold BX7_get_0
  refine V_aload_n (κ := KX7_get) (pc := 0) dX7_get_0 0 rfl rfl ?_
  refine V_getf 7 (κ := KX7_get) (pc := 1) rfl (by decide) rfl inX7 1 (by decide) wd_988 rfl (t := 2) rfl dX7_get_1 fun t101 => ?_
  refine V_sipush (κ := KX7_get) (pc := 4) dX7_get_4 ⟨by decide, by decide⟩ (by decide) ?_
  refine V_aload_n (κ := KX7_get) (pc := 7) dX7_get_7 0 rfl rfl ?_
  refine V_getf 7 (κ := KX7_get) (pc := 8) rfl (by decide) rfl inX7 3 (by decide) wd_990 rfl (t := 0) rfl dX7_get_8 fun t102 => ?_
  refine V_imul (κ := KX7_get) (pc := 11) dX7_get_11 ?_
  refine V_iload_n (κ := KX7_get) (pc := 12) dX7_get_12 1 rfl ?_
  refine V_iadd (κ := KX7_get) (pc := 13) dX7_get_13 ?_
  refine V_iaload (κ := KX7_get) (pc := 14) dX7_get_14 fun t103 => ?_
  exact V_ireturn (κ := KX7_get) (pc := 15) rfl rfl dX7_get_15
theorem con_X7_get (a0 a1 : Int) (μ : Mem) : Con (1) yX7_get (.code yX7_get cX7_get 2 (some .int)) 0 [(2, a0), (0, a1)] μ (FX7_get a0 a1 μ) := Con_intro KX7_get (plainFor_of_name (by decide)) rfl (fun h => by cases h) (by decide) rfl (Nat.le_of_ble_eq_true rfl) (fun Γ => VBX7_get_0 _ _ _)
abbrev KX7_of : Kap := (RX7, cX7_of, 3, 2, 0, (some .int), false, [])
theorem VBX7_of_0 {Γ : Gam} (x0 x1 x2 : Int) (μ : Mem) : V Γ KX7_of 0 [(0, (2, x0)), (1, (0, x1)), (2, (0, x2))] [] μ (BX7_of_0 x0 x1 x2 μ) := by
  unfold BX7_of_0
  refine V_aload_n (κ := KX7_of) (pc := 0) dX7_of_0 0 rfl rfl ?_
  refine V_sipush (κ := KX7_of) (pc := 1) dX7_of_1 ⟨by decide, by decide⟩ (by decide) ?_
  refine V_sipush (κ := KX7_of) (pc := 4) dX7_of_4 ⟨by decide, by decide⟩ (by decide) ?_
  refine V_iload_n (κ := KX7_of) (pc := 7) dX7_of_7 1 rfl ?_
  refine V_imul (κ := KX7_of) (pc := 8) dX7_of_8 ?_
  refine V_iadd (κ := KX7_of) (pc := 9) dX7_of_9 ?_
  refine V_iload_n (κ := KX7_of) (pc := 10) dX7_of_10 2 rfl ?_
  refine V_iadd (κ := KX7_of) (pc := 11) dX7_of_11 ?_
  refine V_callV (ci := 7) (T := TX7) (N := 24) rfl (by decide) (κ := KX7_of) (pc := 12) (con_X7_get _ _ _) mth_X7_get rfl ⟨wd_1181, wp_53⟩ wd_1179 (st0 := []) rfl rfl (by decide) (Nat.le_of_ble_eq_true rfl) dX7_of_12 (fun _ _ _ h => VX_out rfl (by decide) h) fun t101 u102 => ?_
  exact V_ireturn (κ := KX7_of) (pc := 15) rfl rfl dX7_of_15
theorem con_X7_of (a0 a1 a2 : Int) (μ : Mem) : Con (2) yX7_of (.code yX7_of cX7_of 3 (some .int)) 0 [(2, a0), (0, a1), (0, a2)] μ (FX7_of a0 a1 a2 μ) := Con_intro KX7_of (plainFor_of_name (by decide)) rfl (fun h => by cases h) (by decide) rfl (Nat.le_of_ble_eq_true rfl) (fun Γ => VBX7_of_0 _ _ _ _)
abbrev KX7_plates : Kap := (RX7, cX7_plates, 1, 2, 0, (some .int), false, [])
theorem VBX7_plates_0 {Γ : Gam} (x0 : Int) (μ : Mem) : V Γ KX7_plates 0 [(0, (2, x0))] [] μ (BX7_plates_0 x0 μ) := by
  unfold BX7_plates_0
  refine V_aload_n (κ := KX7_plates) (pc := 0) dX7_plates_0 0 rfl rfl ?_
  refine V_iconst (κ := KX7_plates) (pc := 1) dX7_plates_1 ⟨by decide, by decide⟩ ?_
  refine V_callV (ci := 7) (T := TX7) (N := 24) rfl (by decide) (κ := KX7_plates) (pc := 2) (con_X7_get _ _ _) mth_X7_get rfl ⟨wd_1181, wp_53⟩ wd_1179 (st0 := []) rfl rfl (by decide) (Nat.le_of_ble_eq_true rfl) dX7_plates_2 (fun _ _ _ h => VX_out rfl (by decide) h) fun t101 u102 => ?_
  exact V_ireturn (κ := KX7_plates) (pc := 5) rfl rfl dX7_plates_5
theorem con_X7_plates (a0 : Int) (μ : Mem) : Con (2) yX7_plates (.code yX7_plates cX7_plates 1 (some .int)) 0 [(2, a0)] μ (FX7_plates a0 μ) := Con_intro KX7_plates (plainFor_of_name (by decide)) rfl (fun h => by cases h) (by decide) rfl (Nat.le_of_ble_eq_true rfl) (fun Γ => VBX7_plates_0 _ _)
abbrev KX7_greatestWith : Kap := (RX7, cX7_greatestWith, 7, 3, 4, (some .double), false, [])
theorem VBX7_greatestWith_49 {Γ : Gam} {k6 : Int → Int → Int → Int → Int → Int → Mem → Rz} (hk6 : ∀ (y0 y1 y2 y3 y4 y6 : Int) (ν : Mem), V Γ KX7_greatestWith 6 [(0, (2, y0)), (1, (0, y1)), (2, (0, y2)), (3, (0, y3)), (4, (4, y4)), (6, (0, y6))] [] ν (k6 y0 y1 y2 y3 y4 y6 ν)) (x0 x1 x2 x3 x4 x6 : Int) (μ : Mem) : V Γ KX7_greatestWith 49 [(0, (2, x0)), (1, (0, x1)), (2, (0, x2)), (3, (0, x3)), (4, (4, x4)), (6, (0, x6))] [] μ (BX7_greatestWith_49 k6 x0 x1 x2 x3 x4 x6 μ) := by
  unfold BX7_greatestWith_49
  refine V_iinc (κ := KX7_greatestWith) (pc := 49) (lv' := [(6, (0, w32 (x6 + 1))), (0, (2, x0)), (1, (0, x1)), (2, (0, x2)), (3, (0, x3)), (4, (4, x4))]) dX7_greatestWith_49 5 rfl (by decide) rfl ?_
  refine V_goto (κ := KX7_greatestWith) (pc := 52) (tgt := 6) dX7_greatestWith_52 rfl ?_
  refine V_sub (lv' := [(0, (2, x0)), (1, (0, x1)), (2, (0, x2)), (3, (0, x3)), (4, (4, x4)), (6, (0, w32 (x6 + 1)))]) [1, 2, 3, 4, 5, 0] rfl ?_
  exact hk6 _ _ _ _ _ _ _
theorem VBX7_greatestWith_6 {Γ : Gam} {k6 : Int → Int → Int → Int → Int → Int → Mem → Rz} (hk6 : ∀ (y0 y1 y2 y3 y4 y6 : Int) (ν : Mem), V Γ KX7_greatestWith 6 [(0, (2, y0)), (1, (0, y1)), (2, (0, y2)), (3, (0, y3)), (4, (4, y4)), (6, (0, y6))] [] ν (k6 y0 y1 y2 y3 y4 y6 ν)) (x0 x1 x2 x3 x4 x6 : Int) (μ : Mem) : V Γ KX7_greatestWith 6 [(0, (2, x0)), (1, (0, x1)), (2, (0, x2)), (3, (0, x3)), (4, (4, x4)), (6, (0, x6))] [] μ (BX7_greatestWith_6 k6 x0 x1 x2 x3 x4 x6 μ) := by
  unfold BX7_greatestWith_6
  refine V_iload (κ := KX7_greatestWith) (pc := 6) dX7_greatestWith_6 5 rfl ?_
  refine V_aload_n (κ := KX7_greatestWith) (pc := 8) dX7_greatestWith_8 0 rfl rfl ?_
  refine V_callV (ci := 7) (T := TX7) (N := 24) rfl (by decide) (κ := KX7_greatestWith) (pc := 9) (con_X7_plates _ _) mth_X7_plates rfl ⟨wd_1189, wp_55⟩ wd_1187 (st0 := [(0, x6)]) rfl rfl (by decide) (Nat.le_of_ble_eq_true rfl) dX7_greatestWith_9 (fun _ _ _ h => VX_out rfl (by decide) h) fun t101 u102 => ?_
  refine V_icmp_ge (κ := KX7_greatestWith) (pc := 12) (tgt := 55) dX7_greatestWith_12 rfl ?_ ?_
  · refine V_dload (κ := KX7_greatestWith) (pc := 55) dX7_greatestWith_55 4 rfl ?_
    exact V_dreturn (κ := KX7_greatestWith) (pc := 57) rfl rfl dX7_greatestWith_57
  refine V_iload (κ := KX7_greatestWith) (pc := 15) dX7_greatestWith_15 5 rfl ?_
  refine V_iload_n (κ := KX7_greatestWith) (pc := 17) dX7_greatestWith_17 1 rfl ?_
  refine V_icmp_eq (κ := KX7_greatestWith) (pc := 18) (tgt := 49) dX7_greatestWith_18 rfl ?_ ?_
  · exact VBX7_greatestWith_49 hk6 _ _ _ _ _ _ _
  refine V_dload (κ := KX7_greatestWith) (pc := 21) dX7_greatestWith_21 4 rfl ?_
  refine V_iload_n (κ := KX7_greatestWith) (pc := 23) dX7_greatestWith_23 2 rfl ?_
  refine V_iload_n (κ := KX7_greatestWith) (pc := 24) dX7_greatestWith_24 3 rfl ?_
  refine V_aload_n (κ := KX7_greatestWith) (pc := 25) dX7_greatestWith_25 0 rfl rfl ?_
  refine V_iload (κ := KX7_greatestWith) (pc := 26) dX7_greatestWith_26 5 rfl ?_
  refine V_bipush (κ := KX7_greatestWith) (pc := 28) dX7_greatestWith_28 ⟨by decide, by decide⟩ (by decide) ?_
  refine V_callV (ci := 7) (T := TX7) (N := 24) rfl (by decide) (κ := KX7_greatestWith) (pc := 30) (con_X7_of _ _ _ _) mth_X7_of rfl ⟨wd_1233, wp_65⟩ wd_1231 (st0 := [(0, x3), (0, x2), (4, x4)]) rfl rfl (by decide) (Nat.le_of_ble_eq_true rfl) dX7_greatestWith_30 (fun _ _ _ h => VX_out rfl (by decide) h) fun t103 u104 => ?_
  refine V_aload_n (κ := KX7_greatestWith) (pc := 33) dX7_greatestWith_33 0 rfl rfl ?_
  refine V_iload (κ := KX7_greatestWith) (pc := 34) dX7_greatestWith_34 5 rfl ?_
  refine V_bipush (κ := KX7_greatestWith) (pc := 36) dX7_greatestWith_36 ⟨by decide, by decide⟩ (by decide) ?_
  refine V_callV (ci := 7) (T := TX7) (N := 24) rfl (by decide) (κ := KX7_greatestWith) (pc := 38) (con_X7_of _ _ _ _) mth_X7_of rfl ⟨wd_1233, wp_65⟩ wd_1231 (st0 := [(0, t103), (0, x3), (0, x2), (4, x4)]) rfl rfl (by decide) (Nat.le_of_ble_eq_true rfl) dX7_greatestWith_38 (fun _ _ _ h => VX_out rfl (by decide) h) fun t105 u106 => ?_
  refine V_callS (κ := KX7_greatestWith) (pc := 41) (con_X7_moireOf _ _ _ _ _) mth_X7_moireOf wd_1346 wd_1345 (st0 := [(4, x4)]) rfl rfl (by decide) (Nat.le_of_ble_eq_true rfl) dX7_greatestWith_41 (fun _ _ _ h => VX_out rfl (by decide) h) fun t107 u108 => ?_
  refine V_dmax (κ := KX7_greatestWith) (pc := 44) (by decide) wd_1360 wd_1361 wd_1362 wd_12 (Nat.le_of_ble_eq_true rfl) dX7_greatestWith_44 fun t109 => ?_
  refine V_dstore (κ := KX7_greatestWith) (pc := 47) (lv' := [(4, (4, t109)), (0, (2, x0)), (1, (0, x1)), (2, (0, x2)), (3, (0, x3)), (6, (0, x6))]) dX7_greatestWith_47 (by decide) rfl ?_
  refine V_sub (lv' := [(0, (2, x0)), (1, (0, x1)), (2, (0, x2)), (3, (0, x3)), (4, (4, t109)), (6, (0, x6))]) [1, 2, 3, 4, 0, 5] rfl ?_
  exact VBX7_greatestWith_49 hk6 _ _ _ _ _ _ _
theorem VLX7_greatestWith_6 {Γ : Gam} : ∀ (n : Nat) (x0 x1 x2 x3 x4 x6 : Int) (μ : Mem), V Γ KX7_greatestWith 6 [(0, (2, x0)), (1, (0, x1)), (2, (0, x2)), (3, (0, x3)), (4, (4, x4)), (6, (0, x6))] [] μ (LX7_greatestWith_6 n x0 x1 x2 x3 x4 x6 μ)
  | 0, _, _, _, _, _, _, _ => V_none
  | n + 1, x0, x1, x2, x3, x4, x6, μ => VBX7_greatestWith_6 (fun y0 y1 y2 y3 y4 y6 ν => VLX7_greatestWith_6 n y0 y1 y2 y3 y4 y6 ν) x0 x1 x2 x3 x4 x6 μ
theorem VBX7_greatestWith_0 {Γ : Gam} (x0 x1 x2 x3 : Int) (μ : Mem) : V Γ KX7_greatestWith 0 [(0, (2, x0)), (1, (0, x1)), (2, (0, x2)), (3, (0, x3))] [] μ (BX7_greatestWith_0 x0 x1 x2 x3 μ) := by
  unfold BX7_greatestWith_0
  refine V_dconst0 (κ := KX7_greatestWith) (pc := 0) dX7_greatestWith_0 ?_
  refine V_dstore (κ := KX7_greatestWith) (pc := 1) (lv' := [(4, (4, 0)), (0, (2, x0)), (1, (0, x1)), (2, (0, x2)), (3, (0, x3))]) dX7_greatestWith_1 (by decide) rfl ?_
  refine V_iconst (κ := KX7_greatestWith) (pc := 3) dX7_greatestWith_3 ⟨by decide, by decide⟩ ?_
  refine V_istore (κ := KX7_greatestWith) (pc := 4) (lv' := [(6, (0, 0)), (4, (4, 0)), (0, (2, x0)), (1, (0, x1)), (2, (0, x2)), (3, (0, x3))]) dX7_greatestWith_4 (by decide) rfl ?_
  refine V_sub (lv' := [(0, (2, x0)), (1, (0, x1)), (2, (0, x2)), (3, (0, x3)), (4, (4, 0)), (6, (0, 0))]) [2, 3, 4, 5, 1, 0] rfl ?_
  exact VLX7_greatestWith_6 FU _ _ _ _ _ _ _
theorem con_X7_greatestWith (a0 a1 a2 a3 : Int) (μ : Mem) : Con (3) yX7_greatestWith (.code yX7_greatestWith cX7_greatestWith 7 (some .double)) 4 [(2, a0), (0, a1), (0, a2), (0, a3)] μ (FX7_greatestWith a0 a1 a2 a3 μ) := Con_intro KX7_greatestWith (plainFor_of_name (by decide)) rfl (fun h => by cases h) (by decide) rfl (Nat.le_of_ble_eq_true rfl) (fun Γ => VBX7_greatestWith_0 _ _ _ _ _)
abbrev KX7_isIn : Kap := (RX7, cX7_isIn, 3, 1, 0, (some .boolean), false, [])
theorem VBX7_isIn_15 {Γ : Gam} (s0 : Int) (μ : Mem) : V Γ KX7_isIn 15 [] [(0, s0)] μ (BX7_isIn_15 s0 μ) := by
  unfold BX7_isIn_15
  exact V_zreturn (κ := KX7_isIn) (pc := 15) rfl rfl dX7_isIn_15
theorem VBX7_isIn_14 {Γ : Gam} (μ : Mem) : V Γ KX7_isIn 14 [] [] μ (BX7_isIn_14 μ) := by
  unfold BX7_isIn_14
  refine V_iconst (κ := KX7_isIn) (pc := 14) dX7_isIn_14 ⟨by decide, by decide⟩ ?_
  exact VBX7_isIn_15 _ _
theorem VBX7_isIn_0 {Γ : Gam} (x0 x1 x2 : Int) (μ : Mem) : V Γ KX7_isIn 0 [(0, (0, x0)), (1, (0, x1)), (2, (0, x2))] [] μ (BX7_isIn_0 x0 x1 x2 μ) := by
  unfold BX7_isIn_0
  refine V_iload_n (κ := KX7_isIn) (pc := 0) dX7_isIn_0 0 rfl ?_
  refine V_iload_n (κ := KX7_isIn) (pc := 1) dX7_isIn_1 1 rfl ?_
  refine V_icmp_lt (κ := KX7_isIn) (pc := 2) (tgt := 14) dX7_isIn_2 rfl ?_ ?_
  · refine V_sub (lv' := []) [] rfl ?_
    exact VBX7_isIn_14 _
  refine V_iload_n (κ := KX7_isIn) (pc := 5) dX7_isIn_5 0 rfl ?_
  refine V_iload_n (κ := KX7_isIn) (pc := 6) dX7_isIn_6 2 rfl ?_
  refine V_icmp_gt (κ := KX7_isIn) (pc := 7) (tgt := 14) dX7_isIn_7 rfl ?_ ?_
  · refine V_sub (lv' := []) [] rfl ?_
    exact VBX7_isIn_14 _
  refine V_iconst (κ := KX7_isIn) (pc := 10) dX7_isIn_10 ⟨by decide, by decide⟩ ?_
  refine V_goto (κ := KX7_isIn) (pc := 11) (tgt := 15) dX7_isIn_11 rfl ?_
  refine V_sub (lv' := []) [] rfl ?_
  exact VBX7_isIn_15 _ _
theorem con_X7_isIn (a0 a1 a2 : Int) (μ : Mem) : Con (1) yX7_isIn (.code yX7_isIn cX7_isIn 3 (some .boolean)) 0 [(0, a0), (0, a1), (0, a2)] μ (FX7_isIn a0 a1 a2 μ) := Con_intro KX7_isIn (plainFor_of_name (by decide)) rfl (fun h => by cases h) (by decide) rfl (Nat.le_of_ble_eq_true rfl) (fun Γ => VBX7_isIn_0 _ _ _ _)
abbrev KX7_isPlate : Kap := (RX7, cX7_isPlate, 2, 3, 0, (some .boolean), false, [])
theorem VBX7_isPlate_0 {Γ : Gam} (x0 x1 : Int) (μ : Mem) : V Γ KX7_isPlate 0 [(0, (2, x0)), (1, (0, x1))] [] μ (BX7_isPlate_0 x0 x1 μ) := by
  unfold BX7_isPlate_0
  refine V_iload_n (κ := KX7_isPlate) (pc := 0) dX7_isPlate_0 1 rfl ?_
  refine V_iconst (κ := KX7_isPlate) (pc := 1) dX7_isPlate_1 ⟨by decide, by decide⟩ ?_
  refine V_aload_n (κ := KX7_isPlate) (pc := 2) dX7_isPlate_2 0 rfl rfl ?_
  refine V_callV (ci := 7) (T := TX7) (N := 24) rfl (by decide) (κ := KX7_isPlate) (pc := 3) (con_X7_plates _ _) mth_X7_plates rfl ⟨wd_1189, wp_55⟩ wd_1187 (st0 := [(0, 0), (0, x1)]) rfl rfl (by decide) (Nat.le_of_ble_eq_true rfl) dX7_isPlate_3 (fun _ _ _ h => VX_out rfl (by decide) h) fun t101 u102 => ?_
  refine V_iconst (κ := KX7_isPlate) (pc := 6) dX7_isPlate_6 ⟨by decide, by decide⟩ ?_
  refine V_isub (κ := KX7_isPlate) (pc := 7) dX7_isPlate_7 ?_
  refine V_callS (κ := KX7_isPlate) (pc := 8) (con_X7_isIn _ _ _ _) mth_X7_isIn wd_1082 wd_1081 (st0 := []) rfl rfl (by decide) (Nat.le_of_ble_eq_true rfl) dX7_isPlate_8 (fun _ _ _ h => VX_out rfl (by decide) h) fun t103 u104 => ?_
  exact V_zreturn (κ := KX7_isPlate) (pc := 11) rfl rfl dX7_isPlate_11
theorem con_X7_isPlate (a0 a1 : Int) (μ : Mem) : Con (3) yX7_isPlate (.code yX7_isPlate cX7_isPlate 2 (some .boolean)) 0 [(2, a0), (0, a1)] μ (FX7_isPlate a0 a1 μ) := Con_intro KX7_isPlate (plainFor_of_name (by decide)) rfl (fun h => by cases h) (by decide) rfl (Nat.le_of_ble_eq_true rfl) (fun Γ => VBX7_isPlate_0 _ _ _)
abbrev KX7_right : Kap := (RX7, cX7_right, 3, 1, 0, (some .boolean), false, [])
theorem VBX7_right_28 {Γ : Gam} (s0 : Int) (μ : Mem) : V Γ KX7_right 28 [] [(0, s0)] μ (BX7_right_28 s0 μ) := by
  unfold BX7_right_28
  exact V_zreturn (κ := KX7_right) (pc := 28) rfl rfl dX7_right_28
theorem VBX7_right_16 {Γ : Gam} (x0 : Int) (μ : Mem) : V Γ KX7_right 16 [(0, (2, x0))] [] μ (BX7_right_16 x0 μ) := by
  unfold BX7_right_16
  refine V_aload_n (κ := KX7_right) (pc := 16) dX7_right_16 0 rfl rfl ?_
  refine V_getf 7 (κ := KX7_right) (pc := 17) rfl (by decide) rfl inX7 0 (by decide) wd_987 rfl (t := 0) rfl dX7_right_17 fun t101 => ?_
  refine V_if_ne (κ := KX7_right) (pc := 20) (tgt := 27) dX7_right_20 rfl ?_ ?_
  · refine V_iconst (κ := KX7_right) (pc := 27) dX7_right_27 ⟨by decide, by decide⟩ ?_
    refine V_sub (lv' := []) [] rfl ?_
    exact VBX7_right_28 _ _
  refine V_iconst (κ := KX7_right) (pc := 23) dX7_right_23 ⟨by decide, by decide⟩ ?_
  refine V_goto (κ := KX7_right) (pc := 24) (tgt := 28) dX7_right_24 rfl ?_
  refine V_sub (lv' := []) [] rfl ?_
  exact VBX7_right_28 _ _
theorem VBX7_right_0 {Γ : Gam} (x0 x1 x2 : Int) (μ : Mem) : V Γ KX7_right 0 [(0, (2, x0)), (1, (0, x1)), (2, (0, x2))] [] μ (BX7_right_0 x0 x1 x2 μ) := by
  unfold BX7_right_0
  refine V_aload_n (κ := KX7_right) (pc := 0) dX7_right_0 0 rfl rfl ?_
  refine V_getf 7 (κ := KX7_right) (pc := 1) rfl (by decide) rfl inX7 0 (by decide) wd_987 rfl (t := 0) rfl dX7_right_1 fun t101 => ?_
  refine V_if_ne (κ := KX7_right) (pc := 4) (tgt := 16) dX7_right_4 rfl ?_ ?_
  · refine V_sub (lv' := [(0, (2, x0))]) [0] rfl ?_
    exact VBX7_right_16 _ _
  refine V_iload_n (κ := KX7_right) (pc := 7) dX7_right_7 1 rfl ?_
  refine V_if_ne (κ := KX7_right) (pc := 8) (tgt := 16) dX7_right_8 rfl ?_ ?_
  · refine V_sub (lv' := [(0, (2, x0))]) [0] rfl ?_
    exact VBX7_right_16 _ _
  refine V_aload_n (κ := KX7_right) (pc := 11) dX7_right_11 0 rfl rfl ?_
  refine V_iload_n (κ := KX7_right) (pc := 12) dX7_right_12 2 rfl ?_
  refine V_putf 7 (κ := KX7_right) (pc := 13) rfl (by decide) rfl inX7 tyX7 tyX7_ok nmX7 0 (by decide) wd_987 rfl rfl (t := 0) rfl rfl dX7_right_13 fun u102 => ?_
  refine V_sub (lv' := [(0, (2, x0))]) [0] rfl ?_
  exact VBX7_right_16 _ _
theorem con_X7_right (a0 a1 a2 : Int) (μ : Mem) : Con (1) yX7_right (.code yX7_right cX7_right 3 (some .boolean)) 0 [(2, a0), (0, a1), (0, a2)] μ (FX7_right a0 a1 a2 μ) := Con_intro KX7_right (plainFor_of_name (by decide)) rfl (fun h => by cases h) (by decide) rfl (Nat.le_of_ble_eq_true rfl) (fun Γ => VBX7_right_0 _ _ _ _)
abbrev KX7_bestTurn : Kap := (RX7, cX7_bestTurn, 4, 4, 0, (some .int), false, [])
theorem VBX7_bestTurn_85 {Γ : Gam} {k51 : Int → Int → Int → Int → Mem → Rz} (hk51 : ∀ (y0 y1 y2 y3 : Int) (ν : Mem), V Γ KX7_bestTurn 51 [(0, (2, y0)), (1, (0, y1)), (2, (0, y2)), (3, (0, y3))] [] ν (k51 y0 y1 y2 y3 ν)) (x0 x1 x2 x3 : Int) (μ : Mem) : V Γ KX7_bestTurn 85 [(0, (2, x0)), (1, (0, x1)), (2, (0, x2)), (3, (0, x3))] [] μ (BX7_bestTurn_85 k51 x0 x1 x2 x3 μ) := by
  unfold BX7_bestTurn_85
  refine V_iinc (κ := KX7_bestTurn) (pc := 85) (lv' := [(3, (0, w32 (x3 + 1))), (0, (2, x0)), (1, (0, x1)), (2, (0, x2))]) dX7_bestTurn_85 3 rfl (by decide) rfl ?_
  refine V_goto (κ := KX7_bestTurn) (pc := 88) (tgt := 51) dX7_bestTurn_88 rfl ?_
  refine V_sub (lv' := [(0, (2, x0)), (1, (0, x1)), (2, (0, x2)), (3, (0, w32 (x3 + 1)))]) [1, 2, 3, 0] rfl ?_
  exact hk51 _ _ _ _ _
theorem VBX7_bestTurn_51 {Γ : Gam} {k51 : Int → Int → Int → Int → Mem → Rz} (hk51 : ∀ (y0 y1 y2 y3 : Int) (ν : Mem), V Γ KX7_bestTurn 51 [(0, (2, y0)), (1, (0, y1)), (2, (0, y2)), (3, (0, y3))] [] ν (k51 y0 y1 y2 y3 ν)) (x0 x1 x2 x3 : Int) (μ : Mem) : V Γ KX7_bestTurn 51 [(0, (2, x0)), (1, (0, x1)), (2, (0, x2)), (3, (0, x3))] [] μ (BX7_bestTurn_51 k51 x0 x1 x2 x3 μ) := by
  unfold BX7_bestTurn_51
  refine V_iload_n (κ := KX7_bestTurn) (pc := 51) dX7_bestTurn_51 3 rfl ?_
  refine V_bipush (κ := KX7_bestTurn) (pc := 52) dX7_bestTurn_52 ⟨by decide, by decide⟩ (by decide) ?_
  refine V_icmp_ge (κ := KX7_bestTurn) (pc := 54) (tgt := 91) dX7_bestTurn_54 rfl ?_ ?_
  · refine V_bipush (κ := KX7_bestTurn) (pc := 91) dX7_bestTurn_91 ⟨by decide, by decide⟩ (by decide) ?_
    refine V_iload_n (κ := KX7_bestTurn) (pc := 93) dX7_bestTurn_93 2 rfl ?_
    refine V_iconst (κ := KX7_bestTurn) (pc := 94) dX7_bestTurn_94 ⟨by decide, by decide⟩ ?_
    refine V_idiv (κ := KX7_bestTurn) (pc := 95) dX7_bestTurn_95 fun t101 => ?_
    refine V_imul (κ := KX7_bestTurn) (pc := 96) dX7_bestTurn_96 ?_
    refine V_iload_n (κ := KX7_bestTurn) (pc := 97) dX7_bestTurn_97 2 rfl ?_
    refine V_iconst (κ := KX7_bestTurn) (pc := 98) dX7_bestTurn_98 ⟨by decide, by decide⟩ ?_
    refine V_irem (κ := KX7_bestTurn) (pc := 99) dX7_bestTurn_99 fun t102 => ?_
    refine V_iadd (κ := KX7_bestTurn) (pc := 100) dX7_bestTurn_100 ?_
    exact V_ireturn (κ := KX7_bestTurn) (pc := 101) rfl rfl dX7_bestTurn_101
  refine V_aload_n (κ := KX7_bestTurn) (pc := 57) dX7_bestTurn_57 0 rfl rfl ?_
  refine V_iload_n (κ := KX7_bestTurn) (pc := 58) dX7_bestTurn_58 1 rfl ?_
  refine V_iload_n (κ := KX7_bestTurn) (pc := 59) dX7_bestTurn_59 3 rfl ?_
  refine V_iconst (κ := KX7_bestTurn) (pc := 60) dX7_bestTurn_60 ⟨by decide, by decide⟩ ?_
  refine V_idiv (κ := KX7_bestTurn) (pc := 61) dX7_bestTurn_61 fun t103 => ?_
  refine V_iload_n (κ := KX7_bestTurn) (pc := 62) dX7_bestTurn_62 3 rfl ?_
  refine V_iconst (κ := KX7_bestTurn) (pc := 63) dX7_bestTurn_63 ⟨by decide, by decide⟩ ?_
  refine V_irem (κ := KX7_bestTurn) (pc := 64) dX7_bestTurn_64 fun t104 => ?_
  refine V_callV (ci := 7) (T := TX7) (N := 24) rfl (by decide) (κ := KX7_bestTurn) (pc := 65) (con_X7_greatestWith _ _ _ _ _) mth_X7_greatestWith rfl ⟨wd_1358, wp_82⟩ wd_1356 (st0 := []) rfl rfl (by decide) (Nat.le_of_ble_eq_true rfl) dX7_bestTurn_65 (fun _ _ _ h => VX_out rfl (by decide) h) fun t105 u106 => ?_
  refine V_aload_n (κ := KX7_bestTurn) (pc := 68) dX7_bestTurn_68 0 rfl rfl ?_
  refine V_iload_n (κ := KX7_bestTurn) (pc := 69) dX7_bestTurn_69 1 rfl ?_
  refine V_iload_n (κ := KX7_bestTurn) (pc := 70) dX7_bestTurn_70 2 rfl ?_
  refine V_iconst (κ := KX7_bestTurn) (pc := 71) dX7_bestTurn_71 ⟨by decide, by decide⟩ ?_
  refine V_idiv (κ := KX7_bestTurn) (pc := 72) dX7_bestTurn_72 fun t107 => ?_
  refine V_iload_n (κ := KX7_bestTurn) (pc := 73) dX7_bestTurn_73 2 rfl ?_
  refine V_iconst (κ := KX7_bestTurn) (pc := 74) dX7_bestTurn_74 ⟨by decide, by decide⟩ ?_
  refine V_irem (κ := KX7_bestTurn) (pc := 75) dX7_bestTurn_75 fun t108 => ?_
  refine V_callV (ci := 7) (T := TX7) (N := 24) rfl (by decide) (κ := KX7_bestTurn) (pc := 76) (con_X7_greatestWith _ _ _ _ _) mth_X7_greatestWith rfl ⟨wd_1358, wp_82⟩ wd_1356 (st0 := [(4, t105)]) rfl rfl (by decide) (Nat.le_of_ble_eq_true rfl) dX7_bestTurn_76 (fun _ _ _ h => VX_out rfl (by decide) h) fun t109 u110 => ?_
  refine V_dcmp (κ := KX7_bestTurn) (pc := 79) dX7_bestTurn_79 ?_
  refine V_if_ge (κ := KX7_bestTurn) (pc := 80) (tgt := 85) dX7_bestTurn_80 rfl ?_ ?_
  · exact VBX7_bestTurn_85 hk51 _ _ _ _ _
  refine V_iload_n (κ := KX7_bestTurn) (pc := 83) dX7_bestTurn_83 3 rfl ?_
  refine V_istore_n (κ := KX7_bestTurn) (pc := 84) (lv' := [(2, (0, x3)), (0, (2, x0)), (1, (0, x1)), (3, (0, x3))]) dX7_bestTurn_84 (by decide) rfl ?_
  refine V_sub (lv' := [(0, (2, x0)), (1, (0, x1)), (2, (0, x3)), (3, (0, x3))]) [1, 2, 0, 3] rfl ?_
  exact VBX7_bestTurn_85 hk51 _ _ _ _ _
theorem VLX7_bestTurn_51 {Γ : Gam} : ∀ (n : Nat) (x0 x1 x2 x3 : Int) (μ : Mem), V Γ KX7_bestTurn 51 [(0, (2, x0)), (1, (0, x1)), (2, (0, x2)), (3, (0, x3))] [] μ (LX7_bestTurn_51 n x0 x1 x2 x3 μ)
  | 0, _, _, _, _, _ => V_none
  | n + 1, x0, x1, x2, x3, μ => VBX7_bestTurn_51 (fun y0 y1 y2 y3 ν => VLX7_bestTurn_51 n y0 y1 y2 y3 ν) x0 x1 x2 x3 μ
theorem VBX7_bestTurn_0 {Γ : Gam} (x0 x1 : Int) (μ : Mem) : V Γ KX7_bestTurn 0 [(0, (2, x0)), (1, (0, x1))] [] μ (BX7_bestTurn_0 x0 x1 μ) := by
  unfold BX7_bestTurn_0
  refine V_aload_n (κ := KX7_bestTurn) (pc := 0) dX7_bestTurn_0 0 rfl rfl ?_
  refine V_iconst (κ := KX7_bestTurn) (pc := 1) dX7_bestTurn_1 ⟨by decide, by decide⟩ ?_
  refine V_putf 7 (κ := KX7_bestTurn) (pc := 2) rfl (by decide) rfl inX7 tyX7 tyX7_ok nmX7 0 (by decide) wd_987 rfl rfl (t := 0) rfl rfl dX7_bestTurn_2 fun u101 => ?_
  refine V_aload_n (κ := KX7_bestTurn) (pc := 5) dX7_bestTurn_5 0 rfl rfl ?_
  refine V_aload_n (κ := KX7_bestTurn) (pc := 6) dX7_bestTurn_6 0 rfl rfl ?_
  refine V_iload_n (κ := KX7_bestTurn) (pc := 7) dX7_bestTurn_7 1 rfl ?_
  refine V_callV (ci := 7) (T := TX7) (N := 24) rfl (by decide) (κ := KX7_bestTurn) (pc := 8) (con_X7_isPlate _ _ _) mth_X7_isPlate rfl ⟨wd_1291, wp_75⟩ wd_1289 (st0 := [(2, x0)]) rfl rfl (by decide) (Nat.le_of_ble_eq_true rfl) dX7_bestTurn_8 (fun _ _ _ h => VX_out rfl (by decide) h) fun t102 u103 => ?_
  refine V_iconst (κ := KX7_bestTurn) (pc := 11) dX7_bestTurn_11 ⟨by decide, by decide⟩ ?_
  refine V_callV (ci := 7) (T := TX7) (N := 24) rfl (by decide) (κ := KX7_bestTurn) (pc := 12) (con_X7_right _ _ _ _) mth_X7_right rfl ⟨wd_1086, wp_35⟩ wd_1084 (st0 := []) rfl rfl (by decide) (Nat.le_of_ble_eq_true rfl) dX7_bestTurn_12 (fun _ _ _ h => VX_out rfl (by decide) h) fun t104 u105 => ?_
  refine V_if_ne (κ := KX7_bestTurn) (pc := 15) (tgt := 20) dX7_bestTurn_15 rfl ?_ ?_
  · refine V_aload_n (κ := KX7_bestTurn) (pc := 20) dX7_bestTurn_20 0 rfl rfl ?_
    refine V_callV (ci := 7) (T := TX7) (N := 24) rfl (by decide) (κ := KX7_bestTurn) (pc := 21) (con_X7_plates _ _) mth_X7_plates rfl ⟨wd_1189, wp_55⟩ wd_1187 (st0 := []) rfl rfl (by decide) (Nat.le_of_ble_eq_true rfl) dX7_bestTurn_21 (fun _ _ _ h => VX_out rfl (by decide) h) fun t106 u107 => ?_
    refine V_iconst (κ := KX7_bestTurn) (pc := 24) dX7_bestTurn_24 ⟨by decide, by decide⟩ ?_
    refine V_icmp_ne (κ := KX7_bestTurn) (pc := 25) (tgt := 47) dX7_bestTurn_25 rfl ?_ ?_
    · refine V_iconst (κ := KX7_bestTurn) (pc := 47) dX7_bestTurn_47 ⟨by decide, by decide⟩ ?_
      refine V_istore_n (κ := KX7_bestTurn) (pc := 48) (lv' := [(2, (0, 1)), (0, (2, x0)), (1, (0, x1))]) dX7_bestTurn_48 (by decide) rfl ?_
      refine V_iconst (κ := KX7_bestTurn) (pc := 49) dX7_bestTurn_49 ⟨by decide, by decide⟩ ?_
      refine V_istore_n (κ := KX7_bestTurn) (pc := 50) (lv' := [(3, (0, 2)), (2, (0, 1)), (0, (2, x0)), (1, (0, x1))]) dX7_bestTurn_50 (by decide) rfl ?_
      refine V_sub (lv' := [(0, (2, x0)), (1, (0, x1)), (2, (0, 1)), (3, (0, 2))]) [2, 3, 1, 0] rfl ?_
      exact VLX7_bestTurn_51 FU _ _ _ _ _
    refine V_bipush (κ := KX7_bestTurn) (pc := 28) dX7_bestTurn_28 ⟨by decide, by decide⟩ (by decide) ?_
    refine V_aload_n (κ := KX7_bestTurn) (pc := 30) dX7_bestTurn_30 0 rfl rfl ?_
    refine V_iload_n (κ := KX7_bestTurn) (pc := 31) dX7_bestTurn_31 1 rfl ?_
    refine V_bipush (κ := KX7_bestTurn) (pc := 32) dX7_bestTurn_32 ⟨by decide, by decide⟩ (by decide) ?_
    refine V_callV (ci := 7) (T := TX7) (N := 24) rfl (by decide) (κ := KX7_bestTurn) (pc := 34) (con_X7_of _ _ _ _) mth_X7_of rfl ⟨wd_1233, wp_65⟩ wd_1231 (st0 := [(0, 10)]) rfl rfl (by decide) (Nat.le_of_ble_eq_true rfl) dX7_bestTurn_34 (fun _ _ _ h => VX_out rfl (by decide) h) fun t108 u109 => ?_
    refine V_imul (κ := KX7_bestTurn) (pc := 37) dX7_bestTurn_37 ?_
    refine V_aload_n (κ := KX7_bestTurn) (pc := 38) dX7_bestTurn_38 0 rfl rfl ?_
    refine V_iload_n (κ := KX7_bestTurn) (pc := 39) dX7_bestTurn_39 1 rfl ?_
    refine V_bipush (κ := KX7_bestTurn) (pc := 40) dX7_bestTurn_40 ⟨by decide, by decide⟩ (by decide) ?_
    refine V_callV (ci := 7) (T := TX7) (N := 24) rfl (by decide) (κ := KX7_bestTurn) (pc := 42) (con_X7_of _ _ _ _) mth_X7_of rfl ⟨wd_1233, wp_65⟩ wd_1231 (st0 := [(0, w32 (10 * t108))]) rfl rfl (by decide) (Nat.le_of_ble_eq_true rfl) dX7_bestTurn_42 (fun _ _ _ h => VX_out rfl (by decide) h) fun t110 u111 => ?_
    refine V_iadd (κ := KX7_bestTurn) (pc := 45) dX7_bestTurn_45 ?_
    exact V_ireturn (κ := KX7_bestTurn) (pc := 46) rfl rfl dX7_bestTurn_46
  refine V_iconst (κ := KX7_bestTurn) (pc := 18) dX7_bestTurn_18 ⟨by decide, by decide⟩ ?_
  exact V_ireturn (κ := KX7_bestTurn) (pc := 19) rfl rfl dX7_bestTurn_19
theorem con_X7_bestTurn (a0 a1 : Int) (μ : Mem) : Con (4) yX7_bestTurn (.code yX7_bestTurn cX7_bestTurn 4 (some .int)) 0 [(2, a0), (0, a1)] μ (FX7_bestTurn a0 a1 μ) := Con_intro KX7_bestTurn (plainFor_of_name (by decide)) rfl (fun h => by cases h) (by decide) rfl (Nat.le_of_ble_eq_true rfl) (fun Γ => VBX7_bestTurn_0 _ _ _)
abbrev KX7_high : Kap := (RX7, cX7_high, 1, 2, 0, (some .int), false, [])
theorem VBX7_high_0 {Γ : Gam} (x0 : Int) (μ : Mem) : V Γ KX7_high 0 [(0, (2, x0))] [] μ (BX7_high_0 x0 μ) := by
  unfold BX7_high_0
  refine V_aload_n (κ := KX7_high) (pc := 0) dX7_high_0 0 rfl rfl ?_
  refine V_iconst (κ := KX7_high) (pc := 1) dX7_high_1 ⟨by decide, by decide⟩ ?_
  refine V_callV (ci := 7) (T := TX7) (N := 24) rfl (by decide) (κ := KX7_high) (pc := 2) (con_X7_get _ _ _) mth_X7_get rfl ⟨wd_1181, wp_53⟩ wd_1179 (st0 := []) rfl rfl (by decide) (Nat.le_of_ble_eq_true rfl) dX7_high_2 (fun _ _ _ h => VX_out rfl (by decide) h) fun t101 u102 => ?_
  exact V_ireturn (κ := KX7_high) (pc := 5) rfl rfl dX7_high_5
theorem con_X7_high (a0 : Int) (μ : Mem) : Con (2) yX7_high (.code yX7_high cX7_high 1 (some .int)) 0 [(2, a0)] μ (FX7_high a0 μ) := Con_intro KX7_high (plainFor_of_name (by decide)) rfl (fun h => by cases h) (by decide) rfl (Nat.le_of_ble_eq_true rfl) (fun Γ => VBX7_high_0 _ _)
abbrev KX7_wide : Kap := (RX7, cX7_wide, 1, 2, 0, (some .int), false, [])
theorem VBX7_wide_0 {Γ : Gam} (x0 : Int) (μ : Mem) : V Γ KX7_wide 0 [(0, (2, x0))] [] μ (BX7_wide_0 x0 μ) := by
  unfold BX7_wide_0
  refine V_aload_n (κ := KX7_wide) (pc := 0) dX7_wide_0 0 rfl rfl ?_
  refine V_iconst (κ := KX7_wide) (pc := 1) dX7_wide_1 ⟨by decide, by decide⟩ ?_
  refine V_callV (ci := 7) (T := TX7) (N := 24) rfl (by decide) (κ := KX7_wide) (pc := 2) (con_X7_get _ _ _) mth_X7_get rfl ⟨wd_1181, wp_53⟩ wd_1179 (st0 := []) rfl rfl (by decide) (Nat.le_of_ble_eq_true rfl) dX7_wide_2 (fun _ _ _ h => VX_out rfl (by decide) h) fun t101 u102 => ?_
  exact V_ireturn (κ := KX7_wide) (pc := 5) rfl rfl dX7_wide_5
theorem con_X7_wide (a0 : Int) (μ : Mem) : Con (2) yX7_wide (.code yX7_wide cX7_wide 1 (some .int)) 0 [(2, a0)] μ (FX7_wide a0 μ) := Con_intro KX7_wide (plainFor_of_name (by decide)) rfl (fun h => by cases h) (by decide) rfl (Nat.le_of_ble_eq_true rfl) (fun Γ => VBX7_wide_0 _ _)
abbrev KX7_isCell : Kap := (RX7, cX7_isCell, 3, 3, 0, (some .boolean), false, [])
theorem VBX7_isCell_33 {Γ : Gam} (s0 : Int) (μ : Mem) : V Γ KX7_isCell 33 [] [(0, s0)] μ (BX7_isCell_33 s0 μ) := by
  unfold BX7_isCell_33
  exact V_zreturn (κ := KX7_isCell) (pc := 33) rfl rfl dX7_isCell_33
theorem VBX7_isCell_32 {Γ : Gam} (μ : Mem) : V Γ KX7_isCell 32 [] [] μ (BX7_isCell_32 μ) := by
  unfold BX7_isCell_32
  refine V_iconst (κ := KX7_isCell) (pc := 32) dX7_isCell_32 ⟨by decide, by decide⟩ ?_
  exact VBX7_isCell_33 _ _
theorem VBX7_isCell_0 {Γ : Gam} (x0 x1 x2 : Int) (μ : Mem) : V Γ KX7_isCell 0 [(0, (2, x0)), (1, (0, x1)), (2, (0, x2))] [] μ (BX7_isCell_0 x0 x1 x2 μ) := by
  unfold BX7_isCell_0
  refine V_iload_n (κ := KX7_isCell) (pc := 0) dX7_isCell_0 1 rfl ?_
  refine V_iconst (κ := KX7_isCell) (pc := 1) dX7_isCell_1 ⟨by decide, by decide⟩ ?_
  refine V_aload_n (κ := KX7_isCell) (pc := 2) dX7_isCell_2 0 rfl rfl ?_
  refine V_callV (ci := 7) (T := TX7) (N := 24) rfl (by decide) (κ := KX7_isCell) (pc := 3) (con_X7_wide _ _) mth_X7_wide rfl ⟨wd_1201, wp_57⟩ wd_1199 (st0 := [(0, 0), (0, x1)]) rfl rfl (by decide) (Nat.le_of_ble_eq_true rfl) dX7_isCell_3 (fun _ _ _ h => VX_out rfl (by decide) h) fun t101 u102 => ?_
  refine V_iconst (κ := KX7_isCell) (pc := 6) dX7_isCell_6 ⟨by decide, by decide⟩ ?_
  refine V_isub (κ := KX7_isCell) (pc := 7) dX7_isCell_7 ?_
  refine V_callS (κ := KX7_isCell) (pc := 8) (con_X7_isIn _ _ _ _) mth_X7_isIn wd_1082 wd_1081 (st0 := []) rfl rfl (by decide) (Nat.le_of_ble_eq_true rfl) dX7_isCell_8 (fun _ _ _ h => VX_out rfl (by decide) h) fun t103 u104 => ?_
  refine V_if_eq (κ := KX7_isCell) (pc := 11) (tgt := 32) dX7_isCell_11 rfl ?_ ?_
  · refine V_sub (lv' := []) [] rfl ?_
    exact VBX7_isCell_32 _
  refine V_iload_n (κ := KX7_isCell) (pc := 14) dX7_isCell_14 2 rfl ?_
  refine V_iconst (κ := KX7_isCell) (pc := 15) dX7_isCell_15 ⟨by decide, by decide⟩ ?_
  refine V_aload_n (κ := KX7_isCell) (pc := 16) dX7_isCell_16 0 rfl rfl ?_
  refine V_callV (ci := 7) (T := TX7) (N := 24) rfl (by decide) (κ := KX7_isCell) (pc := 17) (con_X7_high _ _) mth_X7_high rfl ⟨wd_1205, wp_58⟩ wd_1203 (st0 := [(0, 0), (0, x2)]) rfl rfl (by decide) (Nat.le_of_ble_eq_true rfl) dX7_isCell_17 (fun _ _ _ h => VX_out rfl (by decide) h) fun t105 u106 => ?_
  refine V_iconst (κ := KX7_isCell) (pc := 20) dX7_isCell_20 ⟨by decide, by decide⟩ ?_
  refine V_isub (κ := KX7_isCell) (pc := 21) dX7_isCell_21 ?_
  refine V_callS (κ := KX7_isCell) (pc := 22) (con_X7_isIn _ _ _ _) mth_X7_isIn wd_1082 wd_1081 (st0 := []) rfl rfl (by decide) (Nat.le_of_ble_eq_true rfl) dX7_isCell_22 (fun _ _ _ h => VX_out rfl (by decide) h) fun t107 u108 => ?_
  refine V_if_eq (κ := KX7_isCell) (pc := 25) (tgt := 32) dX7_isCell_25 rfl ?_ ?_
  · refine V_sub (lv' := []) [] rfl ?_
    exact VBX7_isCell_32 _
  refine V_iconst (κ := KX7_isCell) (pc := 28) dX7_isCell_28 ⟨by decide, by decide⟩ ?_
  refine V_goto (κ := KX7_isCell) (pc := 29) (tgt := 33) dX7_isCell_29 rfl ?_
  refine V_sub (lv' := []) [] rfl ?_
  exact VBX7_isCell_33 _ _
theorem con_X7_isCell (a0 a1 a2 : Int) (μ : Mem) : Con (3) yX7_isCell (.code yX7_isCell cX7_isCell 3 (some .boolean)) 0 [(2, a0), (0, a1), (0, a2)] μ (FX7_isCell a0 a1 a2 μ) := Con_intro KX7_isCell (plainFor_of_name (by decide)) rfl (fun h => by cases h) (by decide) rfl (Nat.le_of_ble_eq_true rfl) (fun Γ => VBX7_isCell_0 _ _ _ _)
abbrev KX7_hasDot : Kap := (RX7, cX7_hasDot, 4, 4, 0, (some .boolean), false, [])
theorem VBX7_hasDot_33 {Γ : Gam} (s0 : Int) (μ : Mem) : V Γ KX7_hasDot 33 [] [(0, s0)] μ (BX7_hasDot_33 s0 μ) := by
  unfold BX7_hasDot_33
  exact V_zreturn (κ := KX7_hasDot) (pc := 33) rfl rfl dX7_hasDot_33
theorem VBX7_hasDot_32 {Γ : Gam} (μ : Mem) : V Γ KX7_hasDot 32 [] [] μ (BX7_hasDot_32 μ) := by
  unfold BX7_hasDot_32
  refine V_iconst (κ := KX7_hasDot) (pc := 32) dX7_hasDot_32 ⟨by decide, by decide⟩ ?_
  exact VBX7_hasDot_33 _ _
theorem VBX7_hasDot_0 {Γ : Gam} (x0 x1 x2 x3 : Int) (μ : Mem) : V Γ KX7_hasDot 0 [(0, (2, x0)), (1, (0, x1)), (2, (0, x2)), (3, (0, x3))] [] μ (BX7_hasDot_0 x0 x1 x2 x3 μ) := by
  unfold BX7_hasDot_0
  refine V_aload_n (κ := KX7_hasDot) (pc := 0) dX7_hasDot_0 0 rfl rfl ?_
  refine V_iload_n (κ := KX7_hasDot) (pc := 1) dX7_hasDot_1 2 rfl ?_
  refine V_iload_n (κ := KX7_hasDot) (pc := 2) dX7_hasDot_2 3 rfl ?_
  refine V_callV (ci := 7) (T := TX7) (N := 24) rfl (by decide) (κ := KX7_hasDot) (pc := 3) (con_X7_isCell _ _ _ _) mth_X7_isCell rfl ⟨wd_1271, wp_72⟩ wd_1269 (st0 := []) rfl rfl (by decide) (Nat.le_of_ble_eq_true rfl) dX7_hasDot_3 (fun _ _ _ h => VX_out rfl (by decide) h) fun t101 u102 => ?_
  refine V_if_eq (κ := KX7_hasDot) (pc := 6) (tgt := 32) dX7_hasDot_6 rfl ?_ ?_
  · refine V_sub (lv' := []) [] rfl ?_
    exact VBX7_hasDot_32 _
  refine V_aload_n (κ := KX7_hasDot) (pc := 9) dX7_hasDot_9 0 rfl rfl ?_
  refine V_getf 7 (κ := KX7_hasDot) (pc := 10) rfl (by decide) rfl inX7 9 (by decide) wd_996 rfl (t := 2) rfl dX7_hasDot_10 fun t103 => ?_
  refine V_bipush (κ := KX7_hasDot) (pc := 13) dX7_hasDot_13 ⟨by decide, by decide⟩ (by decide) ?_
  refine V_iload_n (κ := KX7_hasDot) (pc := 15) dX7_hasDot_15 3 rfl ?_
  refine V_imul (κ := KX7_hasDot) (pc := 16) dX7_hasDot_16 ?_
  refine V_iload_n (κ := KX7_hasDot) (pc := 17) dX7_hasDot_17 2 rfl ?_
  refine V_iadd (κ := KX7_hasDot) (pc := 18) dX7_hasDot_18 ?_
  refine V_iaload (κ := KX7_hasDot) (pc := 19) dX7_hasDot_19 fun t104 => ?_
  refine V_iload_n (κ := KX7_hasDot) (pc := 20) dX7_hasDot_20 1 rfl ?_
  refine V_ishr (κ := KX7_hasDot) (pc := 21) dX7_hasDot_21 ?_
  refine V_iconst (κ := KX7_hasDot) (pc := 22) dX7_hasDot_22 ⟨by decide, by decide⟩ ?_
  refine V_iand (κ := KX7_hasDot) (pc := 23) dX7_hasDot_23 ?_
  refine V_iconst (κ := KX7_hasDot) (pc := 24) dX7_hasDot_24 ⟨by decide, by decide⟩ ?_
  refine V_icmp_ne (κ := KX7_hasDot) (pc := 25) (tgt := 32) dX7_hasDot_25 rfl ?_ ?_
  · refine V_sub (lv' := []) [] rfl ?_
    exact VBX7_hasDot_32 _
  refine V_iconst (κ := KX7_hasDot) (pc := 28) dX7_hasDot_28 ⟨by decide, by decide⟩ ?_
  refine V_goto (κ := KX7_hasDot) (pc := 29) (tgt := 33) dX7_hasDot_29 rfl ?_
  refine V_sub (lv' := []) [] rfl ?_
  exact VBX7_hasDot_33 _ _
theorem con_X7_hasDot (a0 a1 a2 a3 : Int) (μ : Mem) : Con (4) yX7_hasDot (.code yX7_hasDot cX7_hasDot 4 (some .boolean)) 0 [(2, a0), (0, a1), (0, a2), (0, a3)] μ (FX7_hasDot a0 a1 a2 a3 μ) := Con_intro KX7_hasDot (plainFor_of_name (by decide)) rfl (fun h => by cases h) (by decide) rfl (Nat.le_of_ble_eq_true rfl) (fun Γ => VBX7_hasDot_0 _ _ _ _ _)
abbrev KX7_isCleaned : Kap := (RX7, cX7_isCleaned, 4, 3, 0, (some .boolean), false, [])
theorem VBX7_isCleaned_22 {Γ : Gam} (s0 : Int) (μ : Mem) : V Γ KX7_isCleaned 22 [] [(0, s0)] μ (BX7_isCleaned_22 s0 μ) := by
  unfold BX7_isCleaned_22
  exact V_zreturn (κ := KX7_isCleaned) (pc := 22) rfl rfl dX7_isCleaned_22
theorem VBX7_isCleaned_0 {Γ : Gam} (x0 x1 x2 x3 : Int) (μ : Mem) : V Γ KX7_isCleaned 0 [(0, (2, x0)), (1, (0, x1)), (2, (0, x2)), (3, (0, x3))] [] μ (BX7_isCleaned_0 x0 x1 x2 x3 μ) := by
  unfold BX7_isCleaned_0
  refine V_aload_n (κ := KX7_isCleaned) (pc := 0) dX7_isCleaned_0 0 rfl rfl ?_
  refine V_iload_n (κ := KX7_isCleaned) (pc := 1) dX7_isCleaned_1 1 rfl ?_
  refine V_bipush (κ := KX7_isCleaned) (pc := 2) dX7_isCleaned_2 ⟨by decide, by decide⟩ (by decide) ?_
  refine V_iload_n (κ := KX7_isCleaned) (pc := 4) dX7_isCleaned_4 3 rfl ?_
  refine V_iadd (κ := KX7_isCleaned) (pc := 5) dX7_isCleaned_5 ?_
  refine V_callV (ci := 7) (T := TX7) (N := 24) rfl (by decide) (κ := KX7_isCleaned) (pc := 6) (con_X7_of _ _ _ _) mth_X7_of rfl ⟨wd_1233, wp_65⟩ wd_1231 (st0 := []) rfl rfl (by decide) (Nat.le_of_ble_eq_true rfl) dX7_isCleaned_6 (fun _ _ _ h => VX_out rfl (by decide) h) fun t101 u102 => ?_
  refine V_iload_n (κ := KX7_isCleaned) (pc := 9) dX7_isCleaned_9 2 rfl ?_
  refine V_ishr (κ := KX7_isCleaned) (pc := 10) dX7_isCleaned_10 ?_
  refine V_iconst (κ := KX7_isCleaned) (pc := 11) dX7_isCleaned_11 ⟨by decide, by decide⟩ ?_
  refine V_iand (κ := KX7_isCleaned) (pc := 12) dX7_isCleaned_12 ?_
  refine V_iconst (κ := KX7_isCleaned) (pc := 13) dX7_isCleaned_13 ⟨by decide, by decide⟩ ?_
  refine V_icmp_ne (κ := KX7_isCleaned) (pc := 14) (tgt := 21) dX7_isCleaned_14 rfl ?_ ?_
  · refine V_iconst (κ := KX7_isCleaned) (pc := 21) dX7_isCleaned_21 ⟨by decide, by decide⟩ ?_
    refine V_sub (lv' := []) [] rfl ?_
    exact VBX7_isCleaned_22 _ _
  refine V_iconst (κ := KX7_isCleaned) (pc := 17) dX7_isCleaned_17 ⟨by decide, by decide⟩ ?_
  refine V_goto (κ := KX7_isCleaned) (pc := 18) (tgt := 22) dX7_isCleaned_18 rfl ?_
  refine V_sub (lv' := []) [] rfl ?_
  exact VBX7_isCleaned_22 _ _
theorem con_X7_isCleaned (a0 a1 a2 a3 : Int) (μ : Mem) : Con (3) yX7_isCleaned (.code yX7_isCleaned cX7_isCleaned 4 (some .boolean)) 0 [(2, a0), (0, a1), (0, a2), (0, a3)] μ (FX7_isCleaned a0 a1 a2 a3 μ) := Con_intro KX7_isCleaned (plainFor_of_name (by decide)) rfl (fun h => by cases h) (by decide) rfl (Nat.le_of_ble_eq_true rfl) (fun Γ => VBX7_isCleaned_0 _ _ _ _ _)
abbrev KX7_isSpot : Kap := (RX7, cX7_isSpot, 4, 5, 0, (some .boolean), false, [])
theorem VBX7_isSpot_63 {Γ : Gam} (s0 : Int) (μ : Mem) : V Γ KX7_isSpot 63 [] [(0, s0)] μ (BX7_isSpot_63 s0 μ) := by
  unfold BX7_isSpot_63
  exact V_zreturn (κ := KX7_isSpot) (pc := 63) rfl rfl dX7_isSpot_63
theorem VBX7_isSpot_62 {Γ : Gam} (μ : Mem) : V Γ KX7_isSpot 62 [] [] μ (BX7_isSpot_62 μ) := by
  unfold BX7_isSpot_62
  refine V_iconst (κ := KX7_isSpot) (pc := 62) dX7_isSpot_62 ⟨by decide, by decide⟩ ?_
  exact VBX7_isSpot_63 _ _
theorem VBX7_isSpot_0 {Γ : Gam} (x0 x1 x2 x3 : Int) (μ : Mem) : V Γ KX7_isSpot 0 [(0, (2, x0)), (1, (0, x1)), (2, (0, x2)), (3, (0, x3))] [] μ (BX7_isSpot_0 x0 x1 x2 x3 μ) := by
  unfold BX7_isSpot_0
  refine V_aload_n (κ := KX7_isSpot) (pc := 0) dX7_isSpot_0 0 rfl rfl ?_
  refine V_iload_n (κ := KX7_isSpot) (pc := 1) dX7_isSpot_1 1 rfl ?_
  refine V_iload_n (κ := KX7_isSpot) (pc := 2) dX7_isSpot_2 2 rfl ?_
  refine V_iload_n (κ := KX7_isSpot) (pc := 3) dX7_isSpot_3 3 rfl ?_
  refine V_callV (ci := 7) (T := TX7) (N := 24) rfl (by decide) (κ := KX7_isSpot) (pc := 4) (con_X7_hasDot _ _ _ _ _) mth_X7_hasDot rfl ⟨wd_1267, wp_71⟩ wd_1265 (st0 := []) rfl rfl (by decide) (Nat.le_of_ble_eq_true rfl) dX7_isSpot_4 (fun _ _ _ h => VX_out rfl (by decide) h) fun t101 u102 => ?_
  refine V_if_eq (κ := KX7_isSpot) (pc := 7) (tgt := 62) dX7_isSpot_7 rfl ?_ ?_
  · refine V_sub (lv' := []) [] rfl ?_
    exact VBX7_isSpot_62 _
  refine V_aload_n (κ := KX7_isSpot) (pc := 10) dX7_isSpot_10 0 rfl rfl ?_
  refine V_iload_n (κ := KX7_isSpot) (pc := 11) dX7_isSpot_11 1 rfl ?_
  refine V_iload_n (κ := KX7_isSpot) (pc := 12) dX7_isSpot_12 2 rfl ?_
  refine V_iconst (κ := KX7_isSpot) (pc := 13) dX7_isSpot_13 ⟨by decide, by decide⟩ ?_
  refine V_isub (κ := KX7_isSpot) (pc := 14) dX7_isSpot_14 ?_
  refine V_iload_n (κ := KX7_isSpot) (pc := 15) dX7_isSpot_15 3 rfl ?_
  refine V_callV (ci := 7) (T := TX7) (N := 24) rfl (by decide) (κ := KX7_isSpot) (pc := 16) (con_X7_hasDot _ _ _ _ _) mth_X7_hasDot rfl ⟨wd_1267, wp_71⟩ wd_1265 (st0 := []) rfl rfl (by decide) (Nat.le_of_ble_eq_true rfl) dX7_isSpot_16 (fun _ _ _ h => VX_out rfl (by decide) h) fun t103 u104 => ?_
  refine V_if_ne (κ := KX7_isSpot) (pc := 19) (tgt := 62) dX7_isSpot_19 rfl ?_ ?_
  · refine V_sub (lv' := []) [] rfl ?_
    exact VBX7_isSpot_62 _
  refine V_aload_n (κ := KX7_isSpot) (pc := 22) dX7_isSpot_22 0 rfl rfl ?_
  refine V_iload_n (κ := KX7_isSpot) (pc := 23) dX7_isSpot_23 1 rfl ?_
  refine V_iload_n (κ := KX7_isSpot) (pc := 24) dX7_isSpot_24 2 rfl ?_
  refine V_iconst (κ := KX7_isSpot) (pc := 25) dX7_isSpot_25 ⟨by decide, by decide⟩ ?_
  refine V_iadd (κ := KX7_isSpot) (pc := 26) dX7_isSpot_26 ?_
  refine V_iload_n (κ := KX7_isSpot) (pc := 27) dX7_isSpot_27 3 rfl ?_
  refine V_callV (ci := 7) (T := TX7) (N := 24) rfl (by decide) (κ := KX7_isSpot) (pc := 28) (con_X7_hasDot _ _ _ _ _) mth_X7_hasDot rfl ⟨wd_1267, wp_71⟩ wd_1265 (st0 := []) rfl rfl (by decide) (Nat.le_of_ble_eq_true rfl) dX7_isSpot_28 (fun _ _ _ h => VX_out rfl (by decide) h) fun t105 u106 => ?_
  refine V_if_ne (κ := KX7_isSpot) (pc := 31) (tgt := 62) dX7_isSpot_31 rfl ?_ ?_
  · refine V_sub (lv' := []) [] rfl ?_
    exact VBX7_isSpot_62 _
  refine V_aload_n (κ := KX7_isSpot) (pc := 34) dX7_isSpot_34 0 rfl rfl ?_
  refine V_iload_n (κ := KX7_isSpot) (pc := 35) dX7_isSpot_35 1 rfl ?_
  refine V_iload_n (κ := KX7_isSpot) (pc := 36) dX7_isSpot_36 2 rfl ?_
  refine V_iload_n (κ := KX7_isSpot) (pc := 37) dX7_isSpot_37 3 rfl ?_
  refine V_iconst (κ := KX7_isSpot) (pc := 38) dX7_isSpot_38 ⟨by decide, by decide⟩ ?_
  refine V_isub (κ := KX7_isSpot) (pc := 39) dX7_isSpot_39 ?_
  refine V_callV (ci := 7) (T := TX7) (N := 24) rfl (by decide) (κ := KX7_isSpot) (pc := 40) (con_X7_hasDot _ _ _ _ _) mth_X7_hasDot rfl ⟨wd_1267, wp_71⟩ wd_1265 (st0 := []) rfl rfl (by decide) (Nat.le_of_ble_eq_true rfl) dX7_isSpot_40 (fun _ _ _ h => VX_out rfl (by decide) h) fun t107 u108 => ?_
  refine V_if_ne (κ := KX7_isSpot) (pc := 43) (tgt := 62) dX7_isSpot_43 rfl ?_ ?_
  · refine V_sub (lv' := []) [] rfl ?_
    exact VBX7_isSpot_62 _
  refine V_aload_n (κ := KX7_isSpot) (pc := 46) dX7_isSpot_46 0 rfl rfl ?_
  refine V_iload_n (κ := KX7_isSpot) (pc := 47) dX7_isSpot_47 1 rfl ?_
  refine V_iload_n (κ := KX7_isSpot) (pc := 48) dX7_isSpot_48 2 rfl ?_
  refine V_iload_n (κ := KX7_isSpot) (pc := 49) dX7_isSpot_49 3 rfl ?_
  refine V_iconst (κ := KX7_isSpot) (pc := 50) dX7_isSpot_50 ⟨by decide, by decide⟩ ?_
  refine V_iadd (κ := KX7_isSpot) (pc := 51) dX7_isSpot_51 ?_
  refine V_callV (ci := 7) (T := TX7) (N := 24) rfl (by decide) (κ := KX7_isSpot) (pc := 52) (con_X7_hasDot _ _ _ _ _) mth_X7_hasDot rfl ⟨wd_1267, wp_71⟩ wd_1265 (st0 := []) rfl rfl (by decide) (Nat.le_of_ble_eq_true rfl) dX7_isSpot_52 (fun _ _ _ h => VX_out rfl (by decide) h) fun t109 u110 => ?_
  refine V_if_ne (κ := KX7_isSpot) (pc := 55) (tgt := 62) dX7_isSpot_55 rfl ?_ ?_
  · refine V_sub (lv' := []) [] rfl ?_
    exact VBX7_isSpot_62 _
  refine V_iconst (κ := KX7_isSpot) (pc := 58) dX7_isSpot_58 ⟨by decide, by decide⟩ ?_
  refine V_goto (κ := KX7_isSpot) (pc := 59) (tgt := 63) dX7_isSpot_59 rfl ?_
  refine V_sub (lv' := []) [] rfl ?_
  exact VBX7_isSpot_63 _ _
theorem con_X7_isSpot (a0 a1 a2 a3 : Int) (μ : Mem) : Con (5) yX7_isSpot (.code yX7_isSpot cX7_isSpot 4 (some .boolean)) 0 [(2, a0), (0, a1), (0, a2), (0, a3)] μ (FX7_isSpot a0 a1 a2 a3 μ) := Con_intro KX7_isSpot (plainFor_of_name (by decide)) rfl (fun h => by cases h) (by decide) rfl (Nat.le_of_ble_eq_true rfl) (fun Γ => VBX7_isSpot_0 _ _ _ _ _)
abbrev KX7_bits : Kap := (RX7, cX7_bits, 3, 1, 0, (some .int), false, [])
theorem VBX7_bits_4 {Γ : Gam} {k4 : Int → Int → Mem → Rz} (hk4 : ∀ (y1 y2 : Int) (ν : Mem), V Γ KX7_bits 4 [(1, (0, y1)), (2, (0, y2))] [] ν (k4 y1 y2 ν)) (x1 x2 : Int) (μ : Mem) : V Γ KX7_bits 4 [(1, (0, x1)), (2, (0, x2))] [] μ (BX7_bits_4 k4 x1 x2 μ) := by
  unfold BX7_bits_4
  refine V_iload_n (κ := KX7_bits) (pc := 4) dX7_bits_4 1 rfl ?_
  refine V_if_eq (κ := KX7_bits) (pc := 5) (tgt := 21) dX7_bits_5 rfl ?_ ?_
  · refine V_iload_n (κ := KX7_bits) (pc := 21) dX7_bits_21 0 rfl ?_
    exact V_ireturn (κ := KX7_bits) (pc := 22) rfl rfl dX7_bits_22
  refine V_iload_n (κ := KX7_bits) (pc := 8) dX7_bits_8 0 rfl ?_
  refine V_iload_n (κ := KX7_bits) (pc := 9) dX7_bits_9 1 rfl ?_
  refine V_iconst (κ := KX7_bits) (pc := 10) dX7_bits_10 ⟨by decide, by decide⟩ ?_
  refine V_iand (κ := KX7_bits) (pc := 11) dX7_bits_11 ?_
  refine V_iadd (κ := KX7_bits) (pc := 12) dX7_bits_12 ?_
  refine V_LT fun x101 => ?_
  refine V_istore_n (κ := KX7_bits) (pc := 13) (lv' := [(1, (0, x101)), (2, (0, x2))]) dX7_bits_13 (by decide) rfl ?_
  refine V_iload_n (κ := KX7_bits) (pc := 14) dX7_bits_14 1 rfl ?_
  refine V_iconst (κ := KX7_bits) (pc := 15) dX7_bits_15 ⟨by decide, by decide⟩ ?_
  refine V_iushr (κ := KX7_bits) (pc := 16) dX7_bits_16 ?_
  refine V_LT fun x102 => ?_
  refine V_istore_n (κ := KX7_bits) (pc := 17) (lv' := [(2, (0, x102)), (1, (0, x101))]) dX7_bits_17 (by decide) rfl ?_
  refine V_goto (κ := KX7_bits) (pc := 18) (tgt := 4) dX7_bits_18 rfl ?_
  refine V_sub (lv' := [(1, (0, x101)), (2, (0, x102))]) [1, 0] rfl ?_
  exact hk4 _ _ _
theorem VLX7_bits_4 {Γ : Gam} : ∀ (n : Nat) (x1 x2 : Int) (μ : Mem), V Γ KX7_bits 4 [(1, (0, x1)), (2, (0, x2))] [] μ (LX7_bits_4 n x1 x2 μ)
  | 0, _, _, _ => V_none
  | n + 1, x1, x2, μ => VBX7_bits_4 (fun y1 y2 ν => VLX7_bits_4 n y1 y2 ν) x1 x2 μ
theorem VBX7_bits_0 {Γ : Gam} (x0 : Int) (μ : Mem) : V Γ KX7_bits 0 [(0, (0, x0))] [] μ (BX7_bits_0 x0 μ) := by
  unfold BX7_bits_0
  refine V_iconst (κ := KX7_bits) (pc := 0) dX7_bits_0 ⟨by decide, by decide⟩ ?_
  refine V_istore_n (κ := KX7_bits) (pc := 1) (lv' := [(1, (0, 0)), (0, (0, x0))]) dX7_bits_1 (by decide) rfl ?_
  refine V_iload_n (κ := KX7_bits) (pc := 2) dX7_bits_2 1 rfl ?_
  refine V_istore_n (κ := KX7_bits) (pc := 3) (lv' := [(2, (0, x0)), (1, (0, 0)), (0, (0, x0))]) dX7_bits_3 (by decide) rfl ?_
  refine V_sub (lv' := [(1, (0, 0)), (2, (0, x0))]) [1, 0] rfl ?_
  exact VLX7_bits_4 FU _ _ _
theorem con_X7_bits (a0 : Int) (μ : Mem) : Con (1) yX7_bits (.code yX7_bits cX7_bits 3 (some .int)) 0 [(0, a0)] μ (FX7_bits a0 μ) := Con_intro KX7_bits (plainFor_of_name (by decide)) rfl (fun h => by cases h) (by decide) rfl (Nat.le_of_ble_eq_true rfl) (fun Γ => VBX7_bits_0 _ _)
abbrev KX7_squareOf : Kap := (RX7, cX7_squareOf, 2, 3, 0, (some .int), false, [])
theorem VBX7_squareOf_0 {Γ : Gam} (x0 x1 : Int) (μ : Mem) : V Γ KX7_squareOf 0 [(0, (2, x0)), (1, (0, x1))] [] μ (BX7_squareOf_0 x0 x1 μ) := by
  unfold BX7_squareOf_0
  refine V_aload_n (κ := KX7_squareOf) (pc := 0) dX7_squareOf_0 0 rfl rfl ?_
  refine V_iload_n (κ := KX7_squareOf) (pc := 1) dX7_squareOf_1 1 rfl ?_
  refine V_bipush (κ := KX7_squareOf) (pc := 2) dX7_squareOf_2 ⟨by decide, by decide⟩ (by decide) ?_
  refine V_callV (ci := 7) (T := TX7) (N := 24) rfl (by decide) (κ := KX7_squareOf) (pc := 4) (con_X7_of _ _ _ _) mth_X7_of rfl ⟨wd_1233, wp_65⟩ wd_1231 (st0 := []) rfl rfl (by decide) (Nat.le_of_ble_eq_true rfl) dX7_squareOf_4 (fun _ _ _ h => VX_out rfl (by decide) h) fun t101 u102 => ?_
  refine V_aload_n (κ := KX7_squareOf) (pc := 7) dX7_squareOf_7 0 rfl rfl ?_
  refine V_iload_n (κ := KX7_squareOf) (pc := 8) dX7_squareOf_8 1 rfl ?_
  refine V_bipush (κ := KX7_squareOf) (pc := 9) dX7_squareOf_9 ⟨by decide, by decide⟩ (by decide) ?_
  refine V_callV (ci := 7) (T := TX7) (N := 24) rfl (by decide) (κ := KX7_squareOf) (pc := 11) (con_X7_of _ _ _ _) mth_X7_of rfl ⟨wd_1233, wp_65⟩ wd_1231 (st0 := [(0, t101)]) rfl rfl (by decide) (Nat.le_of_ble_eq_true rfl) dX7_squareOf_11 (fun _ _ _ h => VX_out rfl (by decide) h) fun t103 u104 => ?_
  refine V_imul (κ := KX7_squareOf) (pc := 14) dX7_squareOf_14 ?_
  refine V_aload_n (κ := KX7_squareOf) (pc := 15) dX7_squareOf_15 0 rfl rfl ?_
  refine V_iload_n (κ := KX7_squareOf) (pc := 16) dX7_squareOf_16 1 rfl ?_
  refine V_bipush (κ := KX7_squareOf) (pc := 17) dX7_squareOf_17 ⟨by decide, by decide⟩ (by decide) ?_
  refine V_callV (ci := 7) (T := TX7) (N := 24) rfl (by decide) (κ := KX7_squareOf) (pc := 19) (con_X7_of _ _ _ _) mth_X7_of rfl ⟨wd_1233, wp_65⟩ wd_1231 (st0 := [(0, w32 (t101 * t103))]) rfl rfl (by decide) (Nat.le_of_ble_eq_true rfl) dX7_squareOf_19 (fun _ _ _ h => VX_out rfl (by decide) h) fun t105 u106 => ?_
  refine V_aload_n (κ := KX7_squareOf) (pc := 22) dX7_squareOf_22 0 rfl rfl ?_
  refine V_iload_n (κ := KX7_squareOf) (pc := 23) dX7_squareOf_23 1 rfl ?_
  refine V_bipush (κ := KX7_squareOf) (pc := 24) dX7_squareOf_24 ⟨by decide, by decide⟩ (by decide) ?_
  refine V_callV (ci := 7) (T := TX7) (N := 24) rfl (by decide) (κ := KX7_squareOf) (pc := 26) (con_X7_of _ _ _ _) mth_X7_of rfl ⟨wd_1233, wp_65⟩ wd_1231 (st0 := [(0, t105), (0, w32 (t101 * t103))]) rfl rfl (by decide) (Nat.le_of_ble_eq_true rfl) dX7_squareOf_26 (fun _ _ _ h => VX_out rfl (by decide) h) fun t107 u108 => ?_
  refine V_imul (κ := KX7_squareOf) (pc := 29) dX7_squareOf_29 ?_
  refine V_iadd (κ := KX7_squareOf) (pc := 30) dX7_squareOf_30 ?_
  exact V_ireturn (κ := KX7_squareOf) (pc := 31) rfl rfl dX7_squareOf_31
theorem con_X7_squareOf (a0 a1 : Int) (μ : Mem) : Con (3) yX7_squareOf (.code yX7_squareOf cX7_squareOf 2 (some .int)) 0 [(2, a0), (0, a1)] μ (FX7_squareOf a0 a1 μ) := Con_intro KX7_squareOf (plainFor_of_name (by decide)) rfl (fun h => by cases h) (by decide) rfl (Nat.le_of_ble_eq_true rfl) (fun Γ => VBX7_squareOf_0 _ _ _)
abbrev KX7_isWanted : Kap := (RX7, cX7_isWanted, 4, 4, 0, (some .boolean), false, [])
theorem VBX7_isWanted_45 {Γ : Gam} (s0 : Int) (μ : Mem) : V Γ KX7_isWanted 45 [] [(0, s0)] μ (BX7_isWanted_45 s0 μ) := by
  unfold BX7_isWanted_45
  exact V_zreturn (κ := KX7_isWanted) (pc := 45) rfl rfl dX7_isWanted_45
theorem VBX7_isWanted_0 {Γ : Gam} (x0 x1 x2 : Int) (μ : Mem) : V Γ KX7_isWanted 0 [(0, (2, x0)), (1, (0, x1)), (2, (0, x2))] [] μ (BX7_isWanted_0 x0 x1 x2 μ) := by
  unfold BX7_isWanted_0
  refine V_aload_n (κ := KX7_isWanted) (pc := 0) dX7_isWanted_0 0 rfl rfl ?_
  refine V_iload_n (κ := KX7_isWanted) (pc := 1) dX7_isWanted_1 1 rfl ?_
  refine V_callV (ci := 7) (T := TX7) (N := 24) rfl (by decide) (κ := KX7_isWanted) (pc := 2) (con_X7_squareOf _ _ _) mth_X7_squareOf rfl ⟨wd_1229, wp_64⟩ wd_1227 (st0 := []) rfl rfl (by decide) (Nat.le_of_ble_eq_true rfl) dX7_isWanted_2 (fun _ _ _ h => VX_out rfl (by decide) h) fun t101 u102 => ?_
  refine V_istore_n (κ := KX7_isWanted) (pc := 5) (lv' := [(3, (0, t101)), (0, (2, x0)), (1, (0, x1)), (2, (0, x2))]) dX7_isWanted_5 (by decide) rfl ?_
  refine V_aload_n (κ := KX7_isWanted) (pc := 6) dX7_isWanted_6 1 rfl rfl ?_
  refine V_getf 7 (κ := KX7_isWanted) (pc := 7) rfl (by decide) rfl inX7 7 (by decide) wd_994 rfl (t := 2) rfl dX7_isWanted_7 fun t103 => ?_
  refine V_sipush (κ := KX7_isWanted) (pc := 10) dX7_isWanted_10 ⟨by decide, by decide⟩ (by decide) ?_
  refine V_iload_n (κ := KX7_isWanted) (pc := 13) dX7_isWanted_13 2 rfl ?_
  refine V_imul (κ := KX7_isWanted) (pc := 14) dX7_isWanted_14 ?_
  refine V_iload_n (κ := KX7_isWanted) (pc := 15) dX7_isWanted_15 3 rfl ?_
  refine V_iadd (κ := KX7_isWanted) (pc := 16) dX7_isWanted_16 ?_
  refine V_iaload (κ := KX7_isWanted) (pc := 17) dX7_isWanted_17 fun t104 => ?_
  refine V_bipush (κ := KX7_isWanted) (pc := 18) dX7_isWanted_18 ⟨by decide, by decide⟩ (by decide) ?_
  refine V_imul (κ := KX7_isWanted) (pc := 20) dX7_isWanted_20 ?_
  refine V_aload_n (κ := KX7_isWanted) (pc := 21) dX7_isWanted_21 1 rfl rfl ?_
  refine V_getf 7 (κ := KX7_isWanted) (pc := 22) rfl (by decide) rfl inX7 8 (by decide) wd_995 rfl (t := 2) rfl dX7_isWanted_22 fun t105 => ?_
  refine V_sipush (κ := KX7_isWanted) (pc := 25) dX7_isWanted_25 ⟨by decide, by decide⟩ (by decide) ?_
  refine V_iload_n (κ := KX7_isWanted) (pc := 28) dX7_isWanted_28 2 rfl ?_
  refine V_imul (κ := KX7_isWanted) (pc := 29) dX7_isWanted_29 ?_
  refine V_iload_n (κ := KX7_isWanted) (pc := 30) dX7_isWanted_30 3 rfl ?_
  refine V_iadd (κ := KX7_isWanted) (pc := 31) dX7_isWanted_31 ?_
  refine V_iaload (κ := KX7_isWanted) (pc := 32) dX7_isWanted_32 fun t106 => ?_
  refine V_iload_n (κ := KX7_isWanted) (pc := 33) dX7_isWanted_33 0 rfl ?_
  refine V_imul (κ := KX7_isWanted) (pc := 34) dX7_isWanted_34 ?_
  refine V_iload_n (κ := KX7_isWanted) (pc := 35) dX7_isWanted_35 0 rfl ?_
  refine V_imul (κ := KX7_isWanted) (pc := 36) dX7_isWanted_36 ?_
  refine V_icmp_ge (κ := KX7_isWanted) (pc := 37) (tgt := 44) dX7_isWanted_37 rfl ?_ ?_
  · refine V_iconst (κ := KX7_isWanted) (pc := 44) dX7_isWanted_44 ⟨by decide, by decide⟩ ?_
    refine V_sub (lv' := []) [] rfl ?_
    exact VBX7_isWanted_45 _ _
  refine V_iconst (κ := KX7_isWanted) (pc := 40) dX7_isWanted_40 ⟨by decide, by decide⟩ ?_
  refine V_goto (κ := KX7_isWanted) (pc := 41) (tgt := 45) dX7_isWanted_41 rfl ?_
  refine V_sub (lv' := []) [] rfl ?_
  exact VBX7_isWanted_45 _ _
theorem con_X7_isWanted (a0 a1 a2 : Int) (μ : Mem) : Con (4) yX7_isWanted (.code yX7_isWanted cX7_isWanted 4 (some .boolean)) 0 [(2, a0), (0, a1), (0, a2)] μ (FX7_isWanted a0 a1 a2 μ) := Con_intro KX7_isWanted (plainFor_of_name (by decide)) rfl (fun h => by cases h) (by decide) rfl (Nat.le_of_ble_eq_true rfl) (fun Γ => VBX7_isWanted_0 _ _ _ _)
abbrev KX7_measure : Kap := (RX7, cX7_measure, 10, 2, 0, (some .int), false, [])
theorem VBX7_measure_151 {Γ : Gam} (s0 : Int) (μ : Mem) : V Γ KX7_measure 151 [] [(0, s0)] μ (BX7_measure_151 s0 μ) := by
  unfold BX7_measure_151
  exact V_ireturn (κ := KX7_measure) (pc := 151) rfl rfl dX7_measure_151
theorem VBX7_measure_101 {Γ : Gam} (x0 x8 s0 : Int) (μ : Mem) : V Γ KX7_measure 101 [(0, (0, x0)), (8, (0, x8))] [(0, s0)] μ (BX7_measure_101 x0 x8 s0 μ) := by
  unfold BX7_measure_101
  refine V_istore (κ := KX7_measure) (pc := 101) (lv' := [(9, (0, s0)), (0, (0, x0)), (8, (0, x8))]) dX7_measure_101 (by decide) rfl ?_
  refine V_iload_n (κ := KX7_measure) (pc := 103) dX7_measure_103 1 rfl ?_
  refine V_if_ne (κ := KX7_measure) (pc := 104) (tgt := 121) dX7_measure_104 rfl ?_ ?_
  · refine V_iload_n (κ := KX7_measure) (pc := 121) dX7_measure_121 1 rfl ?_
    refine V_iconst (κ := KX7_measure) (pc := 122) dX7_measure_122 ⟨by decide, by decide⟩ ?_
    refine V_icmp_ne (κ := KX7_measure) (pc := 123) (tgt := 131) dX7_measure_123 rfl ?_ ?_
    · refine V_iload_n (κ := KX7_measure) (pc := 131) dX7_measure_131 1 rfl ?_
      refine V_iconst (κ := KX7_measure) (pc := 132) dX7_measure_132 ⟨by decide, by decide⟩ ?_
      refine V_icmp_ne (κ := KX7_measure) (pc := 133) (tgt := 144) dX7_measure_133 rfl ?_ ?_
      · refine V_iload (κ := KX7_measure) (pc := 144) dX7_measure_144 2 rfl ?_
        refine V_iload (κ := KX7_measure) (pc := 146) dX7_measure_146 0 rfl ?_
        refine V_callS (κ := KX7_measure) (pc := 148) (con_J9_max_7cf53 _ _ _) mth_J9_max_7cf53 wd_360 wd_1238 (st0 := []) rfl rfl (by decide) (Nat.le_of_ble_eq_true rfl) dX7_measure_148 (fun _ _ _ h => VX_out rfl (by decide) h) fun t101 u102 => ?_
        refine V_sub (lv' := []) [] rfl ?_
        exact VBX7_measure_151 _ _
      refine V_iload (κ := KX7_measure) (pc := 136) dX7_measure_136 2 rfl ?_
      refine V_iload (κ := KX7_measure) (pc := 138) dX7_measure_138 0 rfl ?_
      refine V_iadd (κ := KX7_measure) (pc := 140) dX7_measure_140 ?_
      refine V_goto (κ := KX7_measure) (pc := 141) (tgt := 151) dX7_measure_141 rfl ?_
      refine V_sub (lv' := []) [] rfl ?_
      exact VBX7_measure_151 _ _
    refine V_iload (κ := KX7_measure) (pc := 126) dX7_measure_126 2 rfl ?_
    refine V_goto (κ := KX7_measure) (pc := 128) (tgt := 151) dX7_measure_128 rfl ?_
    refine V_sub (lv' := []) [] rfl ?_
    exact VBX7_measure_151 _ _
  refine V_iload (κ := KX7_measure) (pc := 107) dX7_measure_107 2 rfl ?_
  refine V_iload (κ := KX7_measure) (pc := 109) dX7_measure_109 2 rfl ?_
  refine V_imul (κ := KX7_measure) (pc := 111) dX7_measure_111 ?_
  refine V_iload (κ := KX7_measure) (pc := 112) dX7_measure_112 0 rfl ?_
  refine V_iload (κ := KX7_measure) (pc := 114) dX7_measure_114 0 rfl ?_
  refine V_imul (κ := KX7_measure) (pc := 116) dX7_measure_116 ?_
  refine V_iadd (κ := KX7_measure) (pc := 117) dX7_measure_117 ?_
  refine V_goto (κ := KX7_measure) (pc := 118) (tgt := 151) dX7_measure_118 rfl ?_
  refine V_sub (lv' := []) [] rfl ?_
  exact VBX7_measure_151 _ _
theorem VBX7_measure_73 {Γ : Gam} (x0 x5 x7 s0 : Int) (μ : Mem) : V Γ KX7_measure 73 [(0, (0, x0)), (5, (0, x5)), (7, (0, x7))] [(0, s0)] μ (BX7_measure_73 x0 x5 x7 s0 μ) := by
  unfold BX7_measure_73
  refine V_istore (κ := KX7_measure) (pc := 73) (lv' := [(8, (0, s0)), (0, (0, x0)), (5, (0, x5)), (7, (0, x7))]) dX7_measure_73 (by decide) rfl ?_
  refine V_iconst (κ := KX7_measure) (pc := 75) dX7_measure_75 ⟨by decide, by decide⟩ ?_
  refine V_iload (κ := KX7_measure) (pc := 76) dX7_measure_76 3 rfl ?_
  refine V_imul (κ := KX7_measure) (pc := 78) dX7_measure_78 ?_
  refine V_iload (κ := KX7_measure) (pc := 79) dX7_measure_79 2 rfl ?_
  refine V_icmp_ge (κ := KX7_measure) (pc := 81) (tgt := 94) dX7_measure_81 rfl ?_ ?_
  · refine V_iconst (κ := KX7_measure) (pc := 94) dX7_measure_94 ⟨by decide, by decide⟩ ?_
    refine V_iload (κ := KX7_measure) (pc := 95) dX7_measure_95 3 rfl ?_
    refine V_imul (κ := KX7_measure) (pc := 97) dX7_measure_97 ?_
    refine V_iload (κ := KX7_measure) (pc := 98) dX7_measure_98 2 rfl ?_
    refine V_isub (κ := KX7_measure) (pc := 100) dX7_measure_100 ?_
    refine V_sub (lv' := [(0, (0, x0)), (8, (0, s0))]) [1, 0] rfl ?_
    exact VBX7_measure_101 _ _ _ _
  refine V_iload (κ := KX7_measure) (pc := 84) dX7_measure_84 2 rfl ?_
  refine V_iconst (κ := KX7_measure) (pc := 86) dX7_measure_86 ⟨by decide, by decide⟩ ?_
  refine V_iload (κ := KX7_measure) (pc := 87) dX7_measure_87 3 rfl ?_
  refine V_imul (κ := KX7_measure) (pc := 89) dX7_measure_89 ?_
  refine V_isub (κ := KX7_measure) (pc := 90) dX7_measure_90 ?_
  refine V_goto (κ := KX7_measure) (pc := 91) (tgt := 101) dX7_measure_91 rfl ?_
  refine V_sub (lv' := [(0, (0, x0)), (8, (0, s0))]) [1, 0] rfl ?_
  exact VBX7_measure_101 _ _ _ _
theorem VBX7_measure_0 {Γ : Gam} (x0 x1 x2 x3 x4 : Int) (μ : Mem) : V Γ KX7_measure 0 [(0, (0, x0)), (1, (0, x1)), (2, (0, x2)), (3, (0, x3)), (4, (0, x4))] [] μ (BX7_measure_0 x0 x1 x2 x3 x4 μ) := by
  unfold BX7_measure_0
  refine V_iload_n (κ := KX7_measure) (pc := 0) dX7_measure_0 1 rfl ?_
  refine V_iload_n (κ := KX7_measure) (pc := 1) dX7_measure_1 1 rfl ?_
  refine V_imul (κ := KX7_measure) (pc := 2) dX7_measure_2 ?_
  refine V_iload_n (κ := KX7_measure) (pc := 3) dX7_measure_3 2 rfl ?_
  refine V_iload_n (κ := KX7_measure) (pc := 4) dX7_measure_4 2 rfl ?_
  refine V_imul (κ := KX7_measure) (pc := 5) dX7_measure_5 ?_
  refine V_iadd (κ := KX7_measure) (pc := 6) dX7_measure_6 ?_
  refine V_LT fun x101 => ?_
  refine V_istore (κ := KX7_measure) (pc := 7) (lv' := [(5, (0, x101)), (0, (0, x0)), (1, (0, x1)), (2, (0, x2)), (3, (0, x3)), (4, (0, x4))]) dX7_measure_7 (by decide) rfl ?_
  refine V_iload_n (κ := KX7_measure) (pc := 9) dX7_measure_9 2 rfl ?_
  refine V_iload_n (κ := KX7_measure) (pc := 10) dX7_measure_10 4 rfl ?_
  refine V_imul (κ := KX7_measure) (pc := 11) dX7_measure_11 ?_
  refine V_iload_n (κ := KX7_measure) (pc := 12) dX7_measure_12 3 rfl ?_
  refine V_iload (κ := KX7_measure) (pc := 13) dX7_measure_13 5 rfl ?_
  refine V_imul (κ := KX7_measure) (pc := 15) dX7_measure_15 ?_
  refine V_iadd (κ := KX7_measure) (pc := 16) dX7_measure_16 ?_
  refine V_iload (κ := KX7_measure) (pc := 17) dX7_measure_17 0 rfl ?_
  refine V_irem (κ := KX7_measure) (pc := 19) dX7_measure_19 fun t102 => ?_
  refine V_iload (κ := KX7_measure) (pc := 20) dX7_measure_20 0 rfl ?_
  refine V_iadd (κ := KX7_measure) (pc := 22) dX7_measure_22 ?_
  refine V_iload (κ := KX7_measure) (pc := 23) dX7_measure_23 0 rfl ?_
  refine V_irem (κ := KX7_measure) (pc := 25) dX7_measure_25 fun t103 => ?_
  refine V_istore (κ := KX7_measure) (pc := 26) (lv' := [(6, (0, t103)), (5, (0, x101)), (0, (0, x0)), (1, (0, x1)), (2, (0, x2)), (3, (0, x3)), (4, (0, x4))]) dX7_measure_26 (by decide) rfl ?_
  refine V_iload_n (κ := KX7_measure) (pc := 28) dX7_measure_28 3 rfl ?_
  refine V_iload (κ := KX7_measure) (pc := 29) dX7_measure_29 6 rfl ?_
  refine V_imul (κ := KX7_measure) (pc := 31) dX7_measure_31 ?_
  refine V_iload_n (κ := KX7_measure) (pc := 32) dX7_measure_32 4 rfl ?_
  refine V_iload_n (κ := KX7_measure) (pc := 33) dX7_measure_33 5 rfl ?_
  refine V_imul (κ := KX7_measure) (pc := 34) dX7_measure_34 ?_
  refine V_isub (κ := KX7_measure) (pc := 35) dX7_measure_35 ?_
  refine V_iload (κ := KX7_measure) (pc := 36) dX7_measure_36 1 rfl ?_
  refine V_irem (κ := KX7_measure) (pc := 38) dX7_measure_38 fun t104 => ?_
  refine V_iload (κ := KX7_measure) (pc := 39) dX7_measure_39 1 rfl ?_
  refine V_iadd (κ := KX7_measure) (pc := 41) dX7_measure_41 ?_
  refine V_iload (κ := KX7_measure) (pc := 42) dX7_measure_42 1 rfl ?_
  refine V_irem (κ := KX7_measure) (pc := 44) dX7_measure_44 fun t105 => ?_
  refine V_istore (κ := KX7_measure) (pc := 45) (lv' := [(7, (0, t105)), (6, (0, t103)), (5, (0, x101)), (0, (0, x0)), (1, (0, x1)), (2, (0, x2)), (3, (0, x3)), (4, (0, x4))]) dX7_measure_45 (by decide) rfl ?_
  refine V_iconst (κ := KX7_measure) (pc := 47) dX7_measure_47 ⟨by decide, by decide⟩ ?_
  refine V_iload (κ := KX7_measure) (pc := 48) dX7_measure_48 1 rfl ?_
  refine V_imul (κ := KX7_measure) (pc := 50) dX7_measure_50 ?_
  refine V_iload (κ := KX7_measure) (pc := 51) dX7_measure_51 2 rfl ?_
  refine V_icmp_ge (κ := KX7_measure) (pc := 53) (tgt := 66) dX7_measure_53 rfl ?_ ?_
  · refine V_iconst (κ := KX7_measure) (pc := 66) dX7_measure_66 ⟨by decide, by decide⟩ ?_
    refine V_iload (κ := KX7_measure) (pc := 67) dX7_measure_67 1 rfl ?_
    refine V_imul (κ := KX7_measure) (pc := 69) dX7_measure_69 ?_
    refine V_iload (κ := KX7_measure) (pc := 70) dX7_measure_70 2 rfl ?_
    refine V_isub (κ := KX7_measure) (pc := 72) dX7_measure_72 ?_
    refine V_sub (lv' := [(0, (0, x0)), (5, (0, x101)), (7, (0, t105))]) [3, 2, 0] rfl ?_
    exact VBX7_measure_73 _ _ _ _ _
  refine V_iload (κ := KX7_measure) (pc := 56) dX7_measure_56 2 rfl ?_
  refine V_iconst (κ := KX7_measure) (pc := 58) dX7_measure_58 ⟨by decide, by decide⟩ ?_
  refine V_iload (κ := KX7_measure) (pc := 59) dX7_measure_59 1 rfl ?_
  refine V_imul (κ := KX7_measure) (pc := 61) dX7_measure_61 ?_
  refine V_isub (κ := KX7_measure) (pc := 62) dX7_measure_62 ?_
  refine V_goto (κ := KX7_measure) (pc := 63) (tgt := 73) dX7_measure_63 rfl ?_
  refine V_sub (lv' := [(0, (0, x0)), (5, (0, x101)), (7, (0, t105))]) [3, 2, 0] rfl ?_
  exact VBX7_measure_73 _ _ _ _ _
theorem con_X7_measure (a0 a1 a2 a3 a4 : Int) (μ : Mem) : Con (2) yX7_measure (.code yX7_measure cX7_measure 10 (some .int)) 0 [(0, a0), (0, a1), (0, a2), (0, a3), (0, a4)] μ (FX7_measure a0 a1 a2 a3 a4 μ) := Con_intro KX7_measure (plainFor_of_name (by decide)) rfl (fun h => by cases h) (by decide) rfl (Nat.le_of_ble_eq_true rfl) (fun Γ => VBX7_measure_0 _ _ _ _ _ _)
abbrev KX7_laysMeasures : Kap := (RX7, cX7_laysMeasures, 4, 4, 9, none, false, [])
theorem VBX7_laysMeasures_8 {Γ : Gam} {k8 : Int → Int → Int → Int → Mem → Rz} (hk8 : ∀ (y0 y1 y2 y3 : Int) (ν : Mem), V Γ KX7_laysMeasures 8 [(0, (2, y0)), (1, (0, y1)), (2, (0, y2)), (3, (0, y3))] [] ν (k8 y0 y1 y2 y3 ν)) (x0 x1 x2 x3 : Int) (μ : Mem) : V Γ KX7_laysMeasures 8 [(0, (2, x0)), (1, (0, x1)), (2, (0, x2)), (3, (0, x3))] [] μ (BX7_laysMeasures_8 k8 x0 x1 x2 x3 μ) := by
  unfold BX7_laysMeasures_8
  refine V_iload_n (κ := KX7_laysMeasures) (pc := 8) dX7_laysMeasures_8 3 rfl ?_
  refine V_iload_n (κ := KX7_laysMeasures) (pc := 9) dX7_laysMeasures_9 2 rfl ?_
  refine V_iload_n (κ := KX7_laysMeasures) (pc := 10) dX7_laysMeasures_10 2 rfl ?_
  refine V_imul (κ := KX7_laysMeasures) (pc := 11) dX7_laysMeasures_11 ?_
  refine V_icmp_ge (κ := KX7_laysMeasures) (pc := 12) (tgt := 57) dX7_laysMeasures_12 rfl ?_ ?_
  · exact V_vreturn (κ := KX7_laysMeasures) (pc := 57) rfl rfl dX7_laysMeasures_57
  refine V_aload_n (κ := KX7_laysMeasures) (pc := 15) dX7_laysMeasures_15 0 rfl rfl ?_
  refine V_getf 7 (κ := KX7_laysMeasures) (pc := 16) rfl (by decide) rfl inX7 5 (by decide) wd_992 rfl (t := 2) rfl dX7_laysMeasures_16 fun t101 => ?_
  refine V_iload_n (κ := KX7_laysMeasures) (pc := 19) dX7_laysMeasures_19 3 rfl ?_
  refine V_aload_n (κ := KX7_laysMeasures) (pc := 20) dX7_laysMeasures_20 0 rfl rfl ?_
  refine V_iload_n (κ := KX7_laysMeasures) (pc := 21) dX7_laysMeasures_21 1 rfl ?_
  refine V_bipush (κ := KX7_laysMeasures) (pc := 22) dX7_laysMeasures_22 ⟨by decide, by decide⟩ (by decide) ?_
  refine V_callV (ci := 7) (T := TX7) (N := 24) rfl (by decide) (κ := KX7_laysMeasures) (pc := 24) (con_X7_of _ _ _ _) mth_X7_of rfl ⟨wd_1233, wp_65⟩ wd_1231 (st0 := [(0, x3), (2, t101)]) rfl rfl (by decide) (Nat.le_of_ble_eq_true rfl) dX7_laysMeasures_24 (fun _ _ _ h => VX_out rfl (by decide) h) fun t102 u103 => ?_
  refine V_aload_n (κ := KX7_laysMeasures) (pc := 27) dX7_laysMeasures_27 0 rfl rfl ?_
  refine V_iload_n (κ := KX7_laysMeasures) (pc := 28) dX7_laysMeasures_28 1 rfl ?_
  refine V_bipush (κ := KX7_laysMeasures) (pc := 29) dX7_laysMeasures_29 ⟨by decide, by decide⟩ (by decide) ?_
  refine V_callV (ci := 7) (T := TX7) (N := 24) rfl (by decide) (κ := KX7_laysMeasures) (pc := 31) (con_X7_of _ _ _ _) mth_X7_of rfl ⟨wd_1233, wp_65⟩ wd_1231 (st0 := [(0, t102), (0, x3), (2, t101)]) rfl rfl (by decide) (Nat.le_of_ble_eq_true rfl) dX7_laysMeasures_31 (fun _ _ _ h => VX_out rfl (by decide) h) fun t104 u105 => ?_
  refine V_aload_n (κ := KX7_laysMeasures) (pc := 34) dX7_laysMeasures_34 0 rfl rfl ?_
  refine V_iload_n (κ := KX7_laysMeasures) (pc := 35) dX7_laysMeasures_35 1 rfl ?_
  refine V_bipush (κ := KX7_laysMeasures) (pc := 36) dX7_laysMeasures_36 ⟨by decide, by decide⟩ (by decide) ?_
  refine V_callV (ci := 7) (T := TX7) (N := 24) rfl (by decide) (κ := KX7_laysMeasures) (pc := 38) (con_X7_of _ _ _ _) mth_X7_of rfl ⟨wd_1233, wp_65⟩ wd_1231 (st0 := [(0, t104), (0, t102), (0, x3), (2, t101)]) rfl rfl (by decide) (Nat.le_of_ble_eq_true rfl) dX7_laysMeasures_38 (fun _ _ _ h => VX_out rfl (by decide) h) fun t106 u107 => ?_
  refine V_iload_n (κ := KX7_laysMeasures) (pc := 41) dX7_laysMeasures_41 3 rfl ?_
  refine V_iload_n (κ := KX7_laysMeasures) (pc := 42) dX7_laysMeasures_42 2 rfl ?_
  refine V_irem (κ := KX7_laysMeasures) (pc := 43) dX7_laysMeasures_43 fun t108 => ?_
  refine V_iload_n (κ := KX7_laysMeasures) (pc := 44) dX7_laysMeasures_44 3 rfl ?_
  refine V_iload_n (κ := KX7_laysMeasures) (pc := 45) dX7_laysMeasures_45 2 rfl ?_
  refine V_idiv (κ := KX7_laysMeasures) (pc := 46) dX7_laysMeasures_46 fun t109 => ?_
  refine V_callS (κ := KX7_laysMeasures) (pc := 47) (con_X7_measure _ _ _ _ _ _) mth_X7_measure wd_1236 wd_1235 (st0 := [(0, x3), (2, t101)]) rfl rfl (by decide) (Nat.le_of_ble_eq_true rfl) dX7_laysMeasures_47 (fun _ _ _ h => VX_out rfl (by decide) h) fun t110 u111 => ?_
  refine V_iastore (κ := KX7_laysMeasures) (pc := 50) dX7_laysMeasures_50 fun u112 => ?_
  refine V_iinc (κ := KX7_laysMeasures) (pc := 51) (lv' := [(3, (0, w32 (x3 + 1))), (0, (2, x0)), (1, (0, x1)), (2, (0, x2))]) dX7_laysMeasures_51 3 rfl (by decide) rfl ?_
  refine V_goto (κ := KX7_laysMeasures) (pc := 54) (tgt := 8) dX7_laysMeasures_54 rfl ?_
  refine V_sub (lv' := [(0, (2, x0)), (1, (0, x1)), (2, (0, x2)), (3, (0, w32 (x3 + 1)))]) [1, 2, 3, 0] rfl ?_
  exact hk8 _ _ _ _ _
theorem VLX7_laysMeasures_8 {Γ : Gam} : ∀ (n : Nat) (x0 x1 x2 x3 : Int) (μ : Mem), V Γ KX7_laysMeasures 8 [(0, (2, x0)), (1, (0, x1)), (2, (0, x2)), (3, (0, x3))] [] μ (LX7_laysMeasures_8 n x0 x1 x2 x3 μ)
  | 0, _, _, _, _, _ => V_none
  | n + 1, x0, x1, x2, x3, μ => VBX7_laysMeasures_8 (fun y0 y1 y2 y3 ν => VLX7_laysMeasures_8 n y0 y1 y2 y3 ν) x0 x1 x2 x3 μ
theorem VBX7_laysMeasures_0 {Γ : Gam} (x0 x1 : Int) (μ : Mem) : V Γ KX7_laysMeasures 0 [(0, (2, x0)), (1, (0, x1))] [] μ (BX7_laysMeasures_0 x0 x1 μ) := by
  unfold BX7_laysMeasures_0
  refine V_aload_n (κ := KX7_laysMeasures) (pc := 0) dX7_laysMeasures_0 0 rfl rfl ?_
  refine V_iload_n (κ := KX7_laysMeasures) (pc := 1) dX7_laysMeasures_1 1 rfl ?_
  refine V_callV (ci := 7) (T := TX7) (N := 24) rfl (by decide) (κ := KX7_laysMeasures) (pc := 2) (con_X7_squareOf _ _ _) mth_X7_squareOf rfl ⟨wd_1229, wp_64⟩ wd_1227 (st0 := []) rfl rfl (by decide) (Nat.le_of_ble_eq_true rfl) dX7_laysMeasures_2 (fun _ _ _ h => VX_out rfl (by decide) h) fun t101 u102 => ?_
  refine V_istore_n (κ := KX7_laysMeasures) (pc := 5) (lv' := [(2, (0, t101)), (0, (2, x0)), (1, (0, x1))]) dX7_laysMeasures_5 (by decide) rfl ?_
  refine V_iconst (κ := KX7_laysMeasures) (pc := 6) dX7_laysMeasures_6 ⟨by decide, by decide⟩ ?_
  refine V_istore_n (κ := KX7_laysMeasures) (pc := 7) (lv' := [(3, (0, 0)), (2, (0, t101)), (0, (2, x0)), (1, (0, x1))]) dX7_laysMeasures_7 (by decide) rfl ?_
  refine V_sub (lv' := [(0, (2, x0)), (1, (0, x1)), (2, (0, t101)), (3, (0, 0))]) [2, 3, 1, 0] rfl ?_
  exact VLX7_laysMeasures_8 FU _ _ _ _ _
theorem con_X7_laysMeasures (a0 a1 : Int) (μ : Mem) : Con (4) yX7_laysMeasures (.code yX7_laysMeasures cX7_laysMeasures 4 none) 9 [(2, a0), (0, a1)] μ (FX7_laysMeasures a0 a1 μ) := Con_intro KX7_laysMeasures (plainFor_of_name (by decide)) rfl (fun h => by cases h) (by decide) rfl (Nat.le_of_ble_eq_true rfl) (fun Γ => VBX7_laysMeasures_0 _ _ _)
abbrev KX7_rankOf : Kap := (RX7, cX7_rankOf, 5, 1, 0, (some .int), false, [])
theorem VBX7_rankOf_57 {Γ : Gam} {k5 : Int → Int → Int → Int → Int → Mem → Rz} (hk5 : ∀ (y0 y1 y2 y3 y4 : Int) (ν : Mem), V Γ KX7_rankOf 5 [(0, (2, y0)), (1, (0, y1)), (2, (0, y2)), (3, (0, y3)), (4, (0, y4))] [] ν (k5 y0 y1 y2 y3 y4 ν)) (x0 x1 x2 x4 s0 s1 : Int) (μ : Mem) : V Γ KX7_rankOf 57 [(0, (2, x0)), (1, (0, x1)), (2, (0, x2)), (4, (0, x4))] [(0, s0), (0, s1)] μ (BX7_rankOf_57 k5 x0 x1 x2 x4 s0 s1 μ) := by
  unfold BX7_rankOf_57
  refine V_iadd (κ := KX7_rankOf) (pc := 57) dX7_rankOf_57 ?_
  refine V_LT fun x101 => ?_
  refine V_istore_n (κ := KX7_rankOf) (pc := 58) (lv' := [(3, (0, x101)), (0, (2, x0)), (1, (0, x1)), (2, (0, x2)), (4, (0, x4))]) dX7_rankOf_58 (by decide) rfl ?_
  refine V_iinc (κ := KX7_rankOf) (pc := 59) (lv' := [(4, (0, w32 (x4 + 1))), (3, (0, x101)), (0, (2, x0)), (1, (0, x1)), (2, (0, x2))]) dX7_rankOf_59 4 rfl (by decide) rfl ?_
  refine V_goto (κ := KX7_rankOf) (pc := 62) (tgt := 5) dX7_rankOf_62 rfl ?_
  refine V_sub (lv' := [(0, (2, x0)), (1, (0, x1)), (2, (0, x2)), (3, (0, x101)), (4, (0, w32 (x4 + 1)))]) [2, 3, 4, 1, 0] rfl ?_
  exact hk5 _ _ _ _ _ _
theorem VBX7_rankOf_52 {Γ : Gam} {k5 : Int → Int → Int → Int → Int → Mem → Rz} (hk5 : ∀ (y0 y1 y2 y3 y4 : Int) (ν : Mem), V Γ KX7_rankOf 5 [(0, (2, y0)), (1, (0, y1)), (2, (0, y2)), (3, (0, y3)), (4, (0, y4))] [] ν (k5 y0 y1 y2 y3 y4 ν)) (x0 x1 x2 x4 s0 : Int) (μ : Mem) : V Γ KX7_rankOf 52 [(0, (2, x0)), (1, (0, x1)), (2, (0, x2)), (4, (0, x4))] [(0, s0)] μ (BX7_rankOf_52 k5 x0 x1 x2 x4 s0 μ) := by
  unfold BX7_rankOf_52
  refine V_iconst (κ := KX7_rankOf) (pc := 52) dX7_rankOf_52 ⟨by decide, by decide⟩ ?_
  refine V_goto (κ := KX7_rankOf) (pc := 53) (tgt := 57) dX7_rankOf_53 rfl ?_
  exact VBX7_rankOf_57 hk5 _ _ _ _ _ _ _
theorem VBX7_rankOf_56 {Γ : Gam} {k5 : Int → Int → Int → Int → Int → Mem → Rz} (hk5 : ∀ (y0 y1 y2 y3 y4 : Int) (ν : Mem), V Γ KX7_rankOf 5 [(0, (2, y0)), (1, (0, y1)), (2, (0, y2)), (3, (0, y3)), (4, (0, y4))] [] ν (k5 y0 y1 y2 y3 y4 ν)) (x0 x1 x2 x4 s0 : Int) (μ : Mem) : V Γ KX7_rankOf 56 [(0, (2, x0)), (1, (0, x1)), (2, (0, x2)), (4, (0, x4))] [(0, s0)] μ (BX7_rankOf_56 k5 x0 x1 x2 x4 s0 μ) := by
  unfold BX7_rankOf_56
  refine V_iconst (κ := KX7_rankOf) (pc := 56) dX7_rankOf_56 ⟨by decide, by decide⟩ ?_
  exact VBX7_rankOf_57 hk5 _ _ _ _ _ _ _
theorem VBX7_rankOf_5 {Γ : Gam} {k5 : Int → Int → Int → Int → Int → Mem → Rz} (hk5 : ∀ (y0 y1 y2 y3 y4 : Int) (ν : Mem), V Γ KX7_rankOf 5 [(0, (2, y0)), (1, (0, y1)), (2, (0, y2)), (3, (0, y3)), (4, (0, y4))] [] ν (k5 y0 y1 y2 y3 y4 ν)) (x0 x1 x2 x3 x4 : Int) (μ : Mem) : V Γ KX7_rankOf 5 [(0, (2, x0)), (1, (0, x1)), (2, (0, x2)), (3, (0, x3)), (4, (0, x4))] [] μ (BX7_rankOf_5 k5 x0 x1 x2 x3 x4 μ) := by
  unfold BX7_rankOf_5
  refine V_iload (κ := KX7_rankOf) (pc := 5) dX7_rankOf_5 4 rfl ?_
  refine V_iload_n (κ := KX7_rankOf) (pc := 7) dX7_rankOf_7 2 rfl ?_
  refine V_iload_n (κ := KX7_rankOf) (pc := 8) dX7_rankOf_8 2 rfl ?_
  refine V_imul (κ := KX7_rankOf) (pc := 9) dX7_rankOf_9 ?_
  refine V_icmp_ge (κ := KX7_rankOf) (pc := 10) (tgt := 65) dX7_rankOf_10 rfl ?_ ?_
  · refine V_iload_n (κ := KX7_rankOf) (pc := 65) dX7_rankOf_65 3 rfl ?_
    exact V_ireturn (κ := KX7_rankOf) (pc := 66) rfl rfl dX7_rankOf_66
  refine V_iload_n (κ := KX7_rankOf) (pc := 13) dX7_rankOf_13 3 rfl ?_
  refine V_aload_n (κ := KX7_rankOf) (pc := 14) dX7_rankOf_14 0 rfl rfl ?_
  refine V_getf 7 (κ := KX7_rankOf) (pc := 15) rfl (by decide) rfl inX7 5 (by decide) wd_992 rfl (t := 2) rfl dX7_rankOf_15 fun t101 => ?_
  refine V_iload (κ := KX7_rankOf) (pc := 18) dX7_rankOf_18 4 rfl ?_
  refine V_iaload (κ := KX7_rankOf) (pc := 20) dX7_rankOf_20 fun t102 => ?_
  refine V_aload_n (κ := KX7_rankOf) (pc := 21) dX7_rankOf_21 0 rfl rfl ?_
  refine V_getf 7 (κ := KX7_rankOf) (pc := 22) rfl (by decide) rfl inX7 5 (by decide) wd_992 rfl (t := 2) rfl dX7_rankOf_22 fun t103 => ?_
  refine V_iload_n (κ := KX7_rankOf) (pc := 25) dX7_rankOf_25 1 rfl ?_
  refine V_iaload (κ := KX7_rankOf) (pc := 26) dX7_rankOf_26 fun t104 => ?_
  refine V_icmp_lt (κ := KX7_rankOf) (pc := 27) (tgt := 52) dX7_rankOf_27 rfl ?_ ?_
  · refine V_sub (lv' := [(0, (2, x0)), (1, (0, x1)), (2, (0, x2)), (4, (0, x4))]) [0, 1, 2, 4] rfl ?_
    exact VBX7_rankOf_52 hk5 _ _ _ _ _ _
  refine V_aload_n (κ := KX7_rankOf) (pc := 30) dX7_rankOf_30 0 rfl rfl ?_
  refine V_getf 7 (κ := KX7_rankOf) (pc := 31) rfl (by decide) rfl inX7 5 (by decide) wd_992 rfl (t := 2) rfl dX7_rankOf_31 fun t105 => ?_
  refine V_iload (κ := KX7_rankOf) (pc := 34) dX7_rankOf_34 4 rfl ?_
  refine V_iaload (κ := KX7_rankOf) (pc := 36) dX7_rankOf_36 fun t106 => ?_
  refine V_aload_n (κ := KX7_rankOf) (pc := 37) dX7_rankOf_37 0 rfl rfl ?_
  refine V_getf 7 (κ := KX7_rankOf) (pc := 38) rfl (by decide) rfl inX7 5 (by decide) wd_992 rfl (t := 2) rfl dX7_rankOf_38 fun t107 => ?_
  refine V_iload_n (κ := KX7_rankOf) (pc := 41) dX7_rankOf_41 1 rfl ?_
  refine V_iaload (κ := KX7_rankOf) (pc := 42) dX7_rankOf_42 fun t108 => ?_
  refine V_icmp_ne (κ := KX7_rankOf) (pc := 43) (tgt := 56) dX7_rankOf_43 rfl ?_ ?_
  · refine V_sub (lv' := [(0, (2, x0)), (1, (0, x1)), (2, (0, x2)), (4, (0, x4))]) [0, 1, 2, 4] rfl ?_
    exact VBX7_rankOf_56 hk5 _ _ _ _ _ _
  refine V_iload (κ := KX7_rankOf) (pc := 46) dX7_rankOf_46 4 rfl ?_
  refine V_iload_n (κ := KX7_rankOf) (pc := 48) dX7_rankOf_48 1 rfl ?_
  refine V_icmp_ge (κ := KX7_rankOf) (pc := 49) (tgt := 56) dX7_rankOf_49 rfl ?_ ?_
  · refine V_sub (lv' := [(0, (2, x0)), (1, (0, x1)), (2, (0, x2)), (4, (0, x4))]) [0, 1, 2, 4] rfl ?_
    exact VBX7_rankOf_56 hk5 _ _ _ _ _ _
  refine V_sub (lv' := [(0, (2, x0)), (1, (0, x1)), (2, (0, x2)), (4, (0, x4))]) [0, 1, 2, 4] rfl ?_
  exact VBX7_rankOf_52 hk5 _ _ _ _ _ _
theorem VLX7_rankOf_5 {Γ : Gam} : ∀ (n : Nat) (x0 x1 x2 x3 x4 : Int) (μ : Mem), V Γ KX7_rankOf 5 [(0, (2, x0)), (1, (0, x1)), (2, (0, x2)), (3, (0, x3)), (4, (0, x4))] [] μ (LX7_rankOf_5 n x0 x1 x2 x3 x4 μ)
  | 0, _, _, _, _, _, _ => V_none
  | n + 1, x0, x1, x2, x3, x4, μ => VBX7_rankOf_5 (fun y0 y1 y2 y3 y4 ν => VLX7_rankOf_5 n y0 y1 y2 y3 y4 ν) x0 x1 x2 x3 x4 μ
theorem VBX7_rankOf_0 {Γ : Gam} (x0 x1 x2 : Int) (μ : Mem) : V Γ KX7_rankOf 0 [(0, (2, x0)), (1, (0, x1)), (2, (0, x2))] [] μ (BX7_rankOf_0 x0 x1 x2 μ) := by
  unfold BX7_rankOf_0
  refine V_iconst (κ := KX7_rankOf) (pc := 0) dX7_rankOf_0 ⟨by decide, by decide⟩ ?_
  refine V_istore_n (κ := KX7_rankOf) (pc := 1) (lv' := [(3, (0, 0)), (0, (2, x0)), (1, (0, x1)), (2, (0, x2))]) dX7_rankOf_1 (by decide) rfl ?_
  refine V_iconst (κ := KX7_rankOf) (pc := 2) dX7_rankOf_2 ⟨by decide, by decide⟩ ?_
  refine V_istore (κ := KX7_rankOf) (pc := 3) (lv' := [(4, (0, 0)), (3, (0, 0)), (0, (2, x0)), (1, (0, x1)), (2, (0, x2))]) dX7_rankOf_3 (by decide) rfl ?_
  refine V_sub (lv' := [(0, (2, x0)), (1, (0, x1)), (2, (0, x2)), (3, (0, 0)), (4, (0, 0))]) [2, 3, 4, 1, 0] rfl ?_
  exact VLX7_rankOf_5 FU _ _ _ _ _ _
theorem con_X7_rankOf (a0 a1 a2 : Int) (μ : Mem) : Con (1) yX7_rankOf (.code yX7_rankOf cX7_rankOf 5 (some .int)) 0 [(2, a0), (0, a1), (0, a2)] μ (FX7_rankOf a0 a1 a2 μ) := Con_intro KX7_rankOf (plainFor_of_name (by decide)) rfl (fun h => by cases h) (by decide) rfl (Nat.le_of_ble_eq_true rfl) (fun Γ => VBX7_rankOf_0 _ _ _ _)
abbrev KX7_toneAt : Kap := (RX7, cX7_toneAt, 3, 2, 0, (some .int), false, [])
theorem VBX7_toneAt_0 {Γ : Gam} (x0 x1 x2 : Int) (μ : Mem) : V Γ KX7_toneAt 0 [(0, (2, x0)), (1, (0, x1)), (2, (0, x2))] [] μ (BX7_toneAt_0 x0 x1 x2 μ) := by
  unfold BX7_toneAt_0
  refine V_aload_n (κ := KX7_toneAt) (pc := 0) dX7_toneAt_0 0 rfl rfl ?_
  refine V_iconst (κ := KX7_toneAt) (pc := 1) dX7_toneAt_1 ⟨by decide, by decide⟩ ?_
  refine V_bipush (κ := KX7_toneAt) (pc := 2) dX7_toneAt_2 ⟨by decide, by decide⟩ (by decide) ?_
  refine V_iload_n (κ := KX7_toneAt) (pc := 4) dX7_toneAt_4 2 rfl ?_
  refine V_imul (κ := KX7_toneAt) (pc := 5) dX7_toneAt_5 ?_
  refine V_iadd (κ := KX7_toneAt) (pc := 6) dX7_toneAt_6 ?_
  refine V_iload_n (κ := KX7_toneAt) (pc := 7) dX7_toneAt_7 1 rfl ?_
  refine V_iadd (κ := KX7_toneAt) (pc := 8) dX7_toneAt_8 ?_
  refine V_callV (ci := 7) (T := TX7) (N := 24) rfl (by decide) (κ := KX7_toneAt) (pc := 9) (con_X7_get _ _ _) mth_X7_get rfl ⟨wd_1181, wp_53⟩ wd_1179 (st0 := []) rfl rfl (by decide) (Nat.le_of_ble_eq_true rfl) dX7_toneAt_9 (fun _ _ _ h => VX_out rfl (by decide) h) fun t101 u102 => ?_
  exact V_ireturn (κ := KX7_toneAt) (pc := 12) rfl rfl dX7_toneAt_12
theorem con_X7_toneAt (a0 a1 a2 : Int) (μ : Mem) : Con (2) yX7_toneAt (.code yX7_toneAt cX7_toneAt 3 (some .int)) 0 [(2, a0), (0, a1), (0, a2)] μ (FX7_toneAt a0 a1 a2 μ) := Con_intro KX7_toneAt (plainFor_of_name (by decide)) rfl (fun h => by cases h) (by decide) rfl (Nat.le_of_ble_eq_true rfl) (fun Γ => VBX7_toneAt_0 _ _ _ _)
abbrev KX7_toneOn : Kap := (RX7, cX7_toneOn, 15, 3, 0, (some .int), false, [])
theorem VBX7_toneOn_303 {Γ : Gam} (s0 : Int) (μ : Mem) : V Γ KX7_toneOn 303 [] [(0, s0)] μ (BX7_toneOn_303 s0 μ) := by
  unfold BX7_toneOn_303
  exact V_ireturn (κ := KX7_toneOn) (pc := 303) rfl rfl dX7_toneOn_303
theorem VBX7_toneOn_257 {Γ : Gam} {k27 : Int → Int → Int → Int → Int → Int → Int → Mem → Rz} (hk27 : ∀ (y0 y1 y2 y3 y4 y5 y6 : Int) (ν : Mem), V Γ KX7_toneOn 27 [(0, (2, y0)), (1, (0, y1)), (2, (0, y2)), (3, (0, y3)), (4, (0, y4)), (5, (0, y5)), (6, (0, y6))] [] ν (k27 y0 y1 y2 y3 y4 y5 y6 ν)) (x0 x1 x2 x3 x4 x5 x6 : Int) (μ : Mem) : V Γ KX7_toneOn 257 [(0, (2, x0)), (1, (0, x1)), (2, (0, x2)), (3, (0, x3)), (4, (0, x4)), (5, (0, x5)), (6, (0, x6))] [] μ (BX7_toneOn_257 k27 x0 x1 x2 x3 x4 x5 x6 μ) := by
  unfold BX7_toneOn_257
  refine V_iinc (κ := KX7_toneOn) (pc := 257) (lv' := [(6, (0, w32 (x6 + 1))), (0, (2, x0)), (1, (0, x1)), (2, (0, x2)), (3, (0, x3)), (4, (0, x4)), (5, (0, x5))]) dX7_toneOn_257 6 rfl (by decide) rfl ?_
  refine V_goto (κ := KX7_toneOn) (pc := 260) (tgt := 27) dX7_toneOn_260 rfl ?_
  refine V_sub (lv' := [(0, (2, x0)), (1, (0, x1)), (2, (0, x2)), (3, (0, x3)), (4, (0, x4)), (5, (0, x5)), (6, (0, w32 (x6 + 1)))]) [1, 2, 3, 4, 5, 6, 0] rfl ?_
  exact hk27 _ _ _ _ _ _ _ _
theorem VBX7_toneOn_256 {Γ : Gam} {k27 : Int → Int → Int → Int → Int → Int → Int → Mem → Rz} (hk27 : ∀ (y0 y1 y2 y3 y4 y5 y6 : Int) (ν : Mem), V Γ KX7_toneOn 27 [(0, (2, y0)), (1, (0, y1)), (2, (0, y2)), (3, (0, y3)), (4, (0, y4)), (5, (0, y5)), (6, (0, y6))] [] ν (k27 y0 y1 y2 y3 y4 y5 y6 ν)) (x0 x1 x2 x3 x4 x5 x6 s0 s1 s2 : Int) (μ : Mem) : V Γ KX7_toneOn 256 [(0, (2, x0)), (1, (0, x1)), (2, (0, x2)), (3, (0, x3)), (4, (0, x4)), (5, (0, x5)), (6, (0, x6))] [(1, s0), (0, s1), (2, s2)] μ (BX7_toneOn_256 k27 x0 x1 x2 x3 x4 x5 x6 s0 s1 s2 μ) := by
  unfold BX7_toneOn_256
  refine V_lastore (κ := KX7_toneOn) (pc := 256) dX7_toneOn_256 fun u101 => ?_
  exact VBX7_toneOn_257 hk27 _ _ _ _ _ _ _ _
theorem VBX7_toneOn_214 {Γ : Gam} {k27 : Int → Int → Int → Int → Int → Int → Int → Mem → Rz} (hk27 : ∀ (y0 y1 y2 y3 y4 y5 y6 : Int) (ν : Mem), V Γ KX7_toneOn 27 [(0, (2, y0)), (1, (0, y1)), (2, (0, y2)), (3, (0, y3)), (4, (0, y4)), (5, (0, y5)), (6, (0, y6))] [] ν (k27 y0 y1 y2 y3 y4 y5 y6 ν)) (x0 x1 x2 x3 x4 x5 x6 s0 : Int) (μ : Mem) : V Γ KX7_toneOn 214 [(0, (2, x0)), (1, (0, x1)), (2, (0, x2)), (3, (0, x3)), (4, (0, x4)), (5, (0, x5)), (6, (0, x6))] [(1, s0)] μ (BX7_toneOn_214 k27 x0 x1 x2 x3 x4 x5 x6 s0 μ) := by
  unfold BX7_toneOn_214
  refine V_lstore (κ := KX7_toneOn) (pc := 214) (lv' := [(13, (1, s0)), (0, (2, x0)), (1, (0, x1)), (2, (0, x2)), (3, (0, x3)), (4, (0, x4)), (5, (0, x5)), (6, (0, x6))]) dX7_toneOn_214 (by decide) rfl ?_
  refine V_aload_n (κ := KX7_toneOn) (pc := 216) dX7_toneOn_216 1 rfl rfl ?_
  refine V_getf 7 (κ := KX7_toneOn) (pc := 217) rfl (by decide) rfl inX7 6 (by decide) wd_993 rfl (t := 2) rfl dX7_toneOn_217 fun t101 => ?_
  refine V_iload (κ := KX7_toneOn) (pc := 220) dX7_toneOn_220 6 rfl ?_
  refine V_iconst (κ := KX7_toneOn) (pc := 222) dX7_toneOn_222 ⟨by decide, by decide⟩ ?_
  refine V_isub (κ := KX7_toneOn) (pc := 223) dX7_toneOn_223 ?_
  refine V_lload (κ := KX7_toneOn) (pc := 224) dX7_toneOn_224 0 rfl ?_
  refine V_ldc2 (κ := KX7_toneOn) (pc := 226) (z := 1000000) dX7_toneOn_226 wd_1251 ⟨by decide, by decide⟩ (by decide) ?_
  refine V_lcmp (κ := KX7_toneOn) (pc := 229) dX7_toneOn_229 ?_
  refine V_if_le (κ := KX7_toneOn) (pc := 230) (tgt := 239) dX7_toneOn_230 rfl ?_ ?_
  · refine V_lload (κ := KX7_toneOn) (pc := 239) dX7_toneOn_239 0 rfl ?_
    refine V_ldc2 (κ := KX7_toneOn) (pc := 241) (z := (-1000000)) dX7_toneOn_241 wd_1252 ⟨by decide, by decide⟩ (by decide) ?_
    refine V_lcmp (κ := KX7_toneOn) (pc := 244) dX7_toneOn_244 ?_
    refine V_if_ge (κ := KX7_toneOn) (pc := 245) (tgt := 254) dX7_toneOn_245 rfl ?_ ?_
    · refine V_lload (κ := KX7_toneOn) (pc := 254) dX7_toneOn_254 0 rfl ?_
      refine V_sub (lv' := [(0, (2, x0)), (1, (0, x1)), (2, (0, x2)), (3, (0, x3)), (4, (0, x4)), (5, (0, x5)), (6, (0, x6))]) [1, 2, 3, 4, 5, 6, 7] rfl ?_
      exact VBX7_toneOn_256 hk27 _ _ _ _ _ _ _ _ _ _ _
    refine V_ldc2 (κ := KX7_toneOn) (pc := 248) (z := (-1000000)) dX7_toneOn_248 wd_1252 ⟨by decide, by decide⟩ (by decide) ?_
    refine V_goto (κ := KX7_toneOn) (pc := 251) (tgt := 256) dX7_toneOn_251 rfl ?_
    refine V_sub (lv' := [(0, (2, x0)), (1, (0, x1)), (2, (0, x2)), (3, (0, x3)), (4, (0, x4)), (5, (0, x5)), (6, (0, x6))]) [1, 2, 3, 4, 5, 6, 7] rfl ?_
    exact VBX7_toneOn_256 hk27 _ _ _ _ _ _ _ _ _ _ _
  refine V_ldc2 (κ := KX7_toneOn) (pc := 233) (z := 1000000) dX7_toneOn_233 wd_1251 ⟨by decide, by decide⟩ (by decide) ?_
  refine V_goto (κ := KX7_toneOn) (pc := 236) (tgt := 256) dX7_toneOn_236 rfl ?_
  refine V_sub (lv' := [(0, (2, x0)), (1, (0, x1)), (2, (0, x2)), (3, (0, x3)), (4, (0, x4)), (5, (0, x5)), (6, (0, x6))]) [1, 2, 3, 4, 5, 6, 7] rfl ?_
  exact VBX7_toneOn_256 hk27 _ _ _ _ _ _ _ _ _ _ _
theorem VBX7_toneOn_126 {Γ : Gam} {k27 : Int → Int → Int → Int → Int → Int → Int → Mem → Rz} (hk27 : ∀ (y0 y1 y2 y3 y4 y5 y6 : Int) (ν : Mem), V Γ KX7_toneOn 27 [(0, (2, y0)), (1, (0, y1)), (2, (0, y2)), (3, (0, y3)), (4, (0, y4)), (5, (0, y5)), (6, (0, y6))] [] ν (k27 y0 y1 y2 y3 y4 y5 y6 ν)) (x0 x1 x2 x3 x4 x5 x6 s0 s1 s2 : Int) (μ : Mem) : V Γ KX7_toneOn 126 [(0, (2, x0)), (1, (0, x1)), (2, (0, x2)), (3, (0, x3)), (4, (0, x4)), (5, (0, x5)), (6, (0, x6))] [(1, s0), (0, s1), (2, s2)] μ (BX7_toneOn_126 k27 x0 x1 x2 x3 x4 x5 x6 s0 s1 s2 μ) := by
  unfold BX7_toneOn_126
  refine V_lastore (κ := KX7_toneOn) (pc := 126) dX7_toneOn_126 fun u101 => ?_
  refine V_iinc (κ := KX7_toneOn) (pc := 127) (lv' := [(5, (0, w32 (x5 + 1))), (0, (2, x0)), (1, (0, x1)), (2, (0, x2)), (3, (0, x3)), (4, (0, x4)), (6, (0, x6))]) dX7_toneOn_127 5 rfl (by decide) rfl ?_
  refine V_goto (κ := KX7_toneOn) (pc := 130) (tgt := 257) dX7_toneOn_130 rfl ?_
  refine V_sub (lv' := [(0, (2, x0)), (1, (0, x1)), (2, (0, x2)), (3, (0, x3)), (4, (0, x4)), (5, (0, w32 (x5 + 1))), (6, (0, x6))]) [1, 2, 3, 4, 5, 0, 6] rfl ?_
  exact VBX7_toneOn_257 hk27 _ _ _ _ _ _ _ _
theorem VBX7_toneOn_27 {Γ : Gam} {k27 : Int → Int → Int → Int → Int → Int → Int → Mem → Rz} (hk27 : ∀ (y0 y1 y2 y3 y4 y5 y6 : Int) (ν : Mem), V Γ KX7_toneOn 27 [(0, (2, y0)), (1, (0, y1)), (2, (0, y2)), (3, (0, y3)), (4, (0, y4)), (5, (0, y5)), (6, (0, y6))] [] ν (k27 y0 y1 y2 y3 y4 y5 y6 ν)) (x0 x1 x2 x3 x4 x5 x6 : Int) (μ : Mem) : V Γ KX7_toneOn 27 [(0, (2, x0)), (1, (0, x1)), (2, (0, x2)), (3, (0, x3)), (4, (0, x4)), (5, (0, x5)), (6, (0, x6))] [] μ (BX7_toneOn_27 k27 x0 x1 x2 x3 x4 x5 x6 μ) := by
  unfold BX7_toneOn_27
  refine V_iload (κ := KX7_toneOn) (pc := 27) dX7_toneOn_27 6 rfl ?_
  refine V_iload (κ := KX7_toneOn) (pc := 29) dX7_toneOn_29 4 rfl ?_
  refine V_icmp_ge (κ := KX7_toneOn) (pc := 31) (tgt := 263) dX7_toneOn_31 rfl ?_ ?_
  · refine V_aload_n (κ := KX7_toneOn) (pc := 263) dX7_toneOn_263 0 rfl rfl ?_
    refine V_getf 7 (κ := KX7_toneOn) (pc := 264) rfl (by decide) rfl inX7 6 (by decide) wd_993 rfl (t := 2) rfl dX7_toneOn_264 fun t101 => ?_
    refine V_iconst (κ := KX7_toneOn) (pc := 267) dX7_toneOn_267 ⟨by decide, by decide⟩ ?_
    refine V_laload (κ := KX7_toneOn) (pc := 268) dX7_toneOn_268 fun t102 => ?_
    refine V_lconst (κ := KX7_toneOn) (pc := 269) (z := 0) dX7_toneOn_269 ⟨by decide, by decide⟩ (by decide) ?_
    refine V_lcmp (κ := KX7_toneOn) (pc := 270) dX7_toneOn_270 ?_
    refine V_if_ge (κ := KX7_toneOn) (pc := 271) (tgt := 278) dX7_toneOn_271 rfl ?_ ?_
    · refine V_aload_n (κ := KX7_toneOn) (pc := 278) dX7_toneOn_278 0 rfl rfl ?_
      refine V_getf 7 (κ := KX7_toneOn) (pc := 279) rfl (by decide) rfl inX7 6 (by decide) wd_993 rfl (t := 2) rfl dX7_toneOn_279 fun t103 => ?_
      refine V_iconst (κ := KX7_toneOn) (pc := 282) dX7_toneOn_282 ⟨by decide, by decide⟩ ?_
      refine V_laload (κ := KX7_toneOn) (pc := 283) dX7_toneOn_283 fun t104 => ?_
      refine V_ldc2 (κ := KX7_toneOn) (pc := 284) (z := 100) dX7_toneOn_284 wd_1253 ⟨by decide, by decide⟩ (by decide) ?_
      refine V_lcmp (κ := KX7_toneOn) (pc := 287) dX7_toneOn_287 ?_
      refine V_if_le (κ := KX7_toneOn) (pc := 288) (tgt := 296) dX7_toneOn_288 rfl ?_ ?_
      · refine V_aload_n (κ := KX7_toneOn) (pc := 296) dX7_toneOn_296 0 rfl rfl ?_
        refine V_getf 7 (κ := KX7_toneOn) (pc := 297) rfl (by decide) rfl inX7 6 (by decide) wd_993 rfl (t := 2) rfl dX7_toneOn_297 fun t105 => ?_
        refine V_iconst (κ := KX7_toneOn) (pc := 300) dX7_toneOn_300 ⟨by decide, by decide⟩ ?_
        refine V_laload (κ := KX7_toneOn) (pc := 301) dX7_toneOn_301 fun t106 => ?_
        refine V_l2i (κ := KX7_toneOn) (pc := 302) dX7_toneOn_302 ?_
        refine V_sub (lv' := []) [] rfl ?_
        exact VBX7_toneOn_303 _ _
      refine V_bipush (κ := KX7_toneOn) (pc := 291) dX7_toneOn_291 ⟨by decide, by decide⟩ (by decide) ?_
      refine V_goto (κ := KX7_toneOn) (pc := 293) (tgt := 303) dX7_toneOn_293 rfl ?_
      refine V_sub (lv' := []) [] rfl ?_
      exact VBX7_toneOn_303 _ _
    refine V_iconst (κ := KX7_toneOn) (pc := 274) dX7_toneOn_274 ⟨by decide, by decide⟩ ?_
    refine V_goto (κ := KX7_toneOn) (pc := 275) (tgt := 303) dX7_toneOn_275 rfl ?_
    refine V_sub (lv' := []) [] rfl ?_
    exact VBX7_toneOn_303 _ _
  refine V_aload_n (κ := KX7_toneOn) (pc := 34) dX7_toneOn_34 0 rfl rfl ?_
  refine V_iload_n (κ := KX7_toneOn) (pc := 35) dX7_toneOn_35 1 rfl ?_
  refine V_bipush (κ := KX7_toneOn) (pc := 36) dX7_toneOn_36 ⟨by decide, by decide⟩ (by decide) ?_
  refine V_iconst (κ := KX7_toneOn) (pc := 38) dX7_toneOn_38 ⟨by decide, by decide⟩ ?_
  refine V_iload (κ := KX7_toneOn) (pc := 39) dX7_toneOn_39 6 rfl ?_
  refine V_imul (κ := KX7_toneOn) (pc := 41) dX7_toneOn_41 ?_
  refine V_iadd (κ := KX7_toneOn) (pc := 42) dX7_toneOn_42 ?_
  refine V_callV (ci := 7) (T := TX7) (N := 24) rfl (by decide) (κ := KX7_toneOn) (pc := 43) (con_X7_of _ _ _ _) mth_X7_of rfl ⟨wd_1233, wp_65⟩ wd_1231 (st0 := []) rfl rfl (by decide) (Nat.le_of_ble_eq_true rfl) dX7_toneOn_43 (fun _ _ _ h => VX_out rfl (by decide) h) fun t107 u108 => ?_
  refine V_istore (κ := KX7_toneOn) (pc := 46) (lv' := [(7, (0, t107)), (0, (2, x0)), (1, (0, x1)), (2, (0, x2)), (3, (0, x3)), (4, (0, x4)), (5, (0, x5)), (6, (0, x6))]) dX7_toneOn_46 (by decide) rfl ?_
  refine V_aload_n (κ := KX7_toneOn) (pc := 48) dX7_toneOn_48 1 rfl rfl ?_
  refine V_iload_n (κ := KX7_toneOn) (pc := 49) dX7_toneOn_49 2 rfl ?_
  refine V_bipush (κ := KX7_toneOn) (pc := 50) dX7_toneOn_50 ⟨by decide, by decide⟩ (by decide) ?_
  refine V_iconst (κ := KX7_toneOn) (pc := 52) dX7_toneOn_52 ⟨by decide, by decide⟩ ?_
  refine V_iload (κ := KX7_toneOn) (pc := 53) dX7_toneOn_53 7 rfl ?_
  refine V_imul (κ := KX7_toneOn) (pc := 55) dX7_toneOn_55 ?_
  refine V_iadd (κ := KX7_toneOn) (pc := 56) dX7_toneOn_56 ?_
  refine V_iconst (κ := KX7_toneOn) (pc := 57) dX7_toneOn_57 ⟨by decide, by decide⟩ ?_
  refine V_iadd (κ := KX7_toneOn) (pc := 58) dX7_toneOn_58 ?_
  refine V_callV (ci := 7) (T := TX7) (N := 24) rfl (by decide) (κ := KX7_toneOn) (pc := 59) (con_X7_of _ _ _ _) mth_X7_of rfl ⟨wd_1233, wp_65⟩ wd_1231 (st0 := []) rfl rfl (by decide) (Nat.le_of_ble_eq_true rfl) dX7_toneOn_59 (fun _ _ _ h => VX_out rfl (by decide) h) fun t109 u110 => ?_
  refine V_istore (κ := KX7_toneOn) (pc := 62) (lv' := [(8, (0, t109)), (7, (0, t107)), (0, (2, x0)), (1, (0, x1)), (2, (0, x2)), (3, (0, x3)), (4, (0, x4)), (5, (0, x5)), (6, (0, x6))]) dX7_toneOn_62 (by decide) rfl ?_
  refine V_iload (κ := KX7_toneOn) (pc := 64) dX7_toneOn_64 1 rfl ?_
  refine V_iconst (κ := KX7_toneOn) (pc := 66) dX7_toneOn_66 ⟨by decide, by decide⟩ ?_
  refine V_icmp_gt (κ := KX7_toneOn) (pc := 67) (tgt := 133) dX7_toneOn_67 rfl ?_ ?_
  · refine V_iinc (κ := KX7_toneOn) (pc := 133) (lv' := [(5, (0, w32 (x5 + (-1)))), (8, (0, t109)), (7, (0, t107)), (0, (2, x0)), (1, (0, x1)), (2, (0, x2)), (3, (0, x3)), (4, (0, x4)), (6, (0, x6))]) dX7_toneOn_133 7 rfl (by decide) rfl ?_
    refine V_aload_n (κ := KX7_toneOn) (pc := 136) dX7_toneOn_136 3 rfl rfl ?_
    refine V_getf 7 (κ := KX7_toneOn) (pc := 137) rfl (by decide) rfl inX7 6 (by decide) wd_993 rfl (t := 2) rfl dX7_toneOn_137 fun t111 => ?_
    refine V_iload (κ := KX7_toneOn) (pc := 140) dX7_toneOn_140 0 rfl ?_
    refine V_laload (κ := KX7_toneOn) (pc := 142) dX7_toneOn_142 fun t112 => ?_
    refine V_lstore (κ := KX7_toneOn) (pc := 143) (lv' := [(9, (1, t112)), (5, (0, w32 (x5 + (-1)))), (8, (0, t109)), (7, (0, t107)), (0, (2, x0)), (1, (0, x1)), (2, (0, x2)), (3, (0, x3)), (4, (0, x4)), (6, (0, x6))]) dX7_toneOn_143 (by decide) rfl ?_
    refine V_aload_n (κ := KX7_toneOn) (pc := 145) dX7_toneOn_145 4 rfl rfl ?_
    refine V_getf 7 (κ := KX7_toneOn) (pc := 146) rfl (by decide) rfl inX7 6 (by decide) wd_993 rfl (t := 2) rfl dX7_toneOn_146 fun t113 => ?_
    refine V_iload (κ := KX7_toneOn) (pc := 149) dX7_toneOn_149 1 rfl ?_
    refine V_iconst (κ := KX7_toneOn) (pc := 151) dX7_toneOn_151 ⟨by decide, by decide⟩ ?_
    refine V_isub (κ := KX7_toneOn) (pc := 152) dX7_toneOn_152 ?_
    refine V_laload (κ := KX7_toneOn) (pc := 153) dX7_toneOn_153 fun t114 => ?_
    refine V_lstore (κ := KX7_toneOn) (pc := 154) (lv' := [(11, (1, t114)), (9, (1, t112)), (5, (0, w32 (x5 + (-1)))), (8, (0, t109)), (7, (0, t107)), (0, (2, x0)), (1, (0, x1)), (2, (0, x2)), (3, (0, x3)), (4, (0, x4)), (6, (0, x6))]) dX7_toneOn_154 (by decide) rfl ?_
    refine V_iload (κ := KX7_toneOn) (pc := 156) dX7_toneOn_156 4 rfl ?_
    refine V_iconst (κ := KX7_toneOn) (pc := 158) dX7_toneOn_158 ⟨by decide, by decide⟩ ?_
    refine V_icmp_ne (κ := KX7_toneOn) (pc := 159) (tgt := 170) dX7_toneOn_159 rfl ?_ ?_
    · refine V_iload (κ := KX7_toneOn) (pc := 170) dX7_toneOn_170 4 rfl ?_
      refine V_iconst (κ := KX7_toneOn) (pc := 172) dX7_toneOn_172 ⟨by decide, by decide⟩ ?_
      refine V_icmp_ne (κ := KX7_toneOn) (pc := 173) (tgt := 184) dX7_toneOn_173 rfl ?_ ?_
      · refine V_iload (κ := KX7_toneOn) (pc := 184) dX7_toneOn_184 4 rfl ?_
        refine V_iconst (κ := KX7_toneOn) (pc := 186) dX7_toneOn_186 ⟨by decide, by decide⟩ ?_
        refine V_icmp_ne (κ := KX7_toneOn) (pc := 187) (tgt := 198) dX7_toneOn_187 rfl ?_ ?_
        · refine V_lload (κ := KX7_toneOn) (pc := 198) dX7_toneOn_198 1 rfl ?_
          refine V_lconst (κ := KX7_toneOn) (pc := 200) (z := 0) dX7_toneOn_200 ⟨by decide, by decide⟩ (by decide) ?_
          refine V_lcmp (κ := KX7_toneOn) (pc := 201) dX7_toneOn_201 ?_
          refine V_if_ne (κ := KX7_toneOn) (pc := 202) (tgt := 209) dX7_toneOn_202 rfl ?_ ?_
          · refine V_lload (κ := KX7_toneOn) (pc := 209) dX7_toneOn_209 0 rfl ?_
            refine V_lload (κ := KX7_toneOn) (pc := 211) dX7_toneOn_211 1 rfl ?_
            refine V_ldiv (κ := KX7_toneOn) (pc := 213) dX7_toneOn_213 fun t115 => ?_
            refine V_sub (lv' := [(0, (2, x0)), (1, (0, x1)), (2, (0, x2)), (3, (0, x3)), (4, (0, x4)), (5, (0, w32 (x5 + (-1)))), (6, (0, x6))]) [5, 6, 7, 8, 9, 2, 10] rfl ?_
            exact VBX7_toneOn_214 hk27 _ _ _ _ _ _ _ _ _
          refine V_lconst (κ := KX7_toneOn) (pc := 205) (z := 0) dX7_toneOn_205 ⟨by decide, by decide⟩ (by decide) ?_
          refine V_goto (κ := KX7_toneOn) (pc := 206) (tgt := 214) dX7_toneOn_206 rfl ?_
          refine V_sub (lv' := [(0, (2, x0)), (1, (0, x1)), (2, (0, x2)), (3, (0, x3)), (4, (0, x4)), (5, (0, w32 (x5 + (-1)))), (6, (0, x6))]) [5, 6, 7, 8, 9, 2, 10] rfl ?_
          exact VBX7_toneOn_214 hk27 _ _ _ _ _ _ _ _ _
        refine V_lload (κ := KX7_toneOn) (pc := 190) dX7_toneOn_190 0 rfl ?_
        refine V_lload (κ := KX7_toneOn) (pc := 192) dX7_toneOn_192 1 rfl ?_
        refine V_lmul (κ := KX7_toneOn) (pc := 194) dX7_toneOn_194 ?_
        refine V_goto (κ := KX7_toneOn) (pc := 195) (tgt := 214) dX7_toneOn_195 rfl ?_
        refine V_sub (lv' := [(0, (2, x0)), (1, (0, x1)), (2, (0, x2)), (3, (0, x3)), (4, (0, x4)), (5, (0, w32 (x5 + (-1)))), (6, (0, x6))]) [5, 6, 7, 8, 9, 2, 10] rfl ?_
        exact VBX7_toneOn_214 hk27 _ _ _ _ _ _ _ _ _
      refine V_lload (κ := KX7_toneOn) (pc := 176) dX7_toneOn_176 0 rfl ?_
      refine V_lload (κ := KX7_toneOn) (pc := 178) dX7_toneOn_178 1 rfl ?_
      refine V_lsub (κ := KX7_toneOn) (pc := 180) dX7_toneOn_180 ?_
      refine V_goto (κ := KX7_toneOn) (pc := 181) (tgt := 214) dX7_toneOn_181 rfl ?_
      refine V_sub (lv' := [(0, (2, x0)), (1, (0, x1)), (2, (0, x2)), (3, (0, x3)), (4, (0, x4)), (5, (0, w32 (x5 + (-1)))), (6, (0, x6))]) [5, 6, 7, 8, 9, 2, 10] rfl ?_
      exact VBX7_toneOn_214 hk27 _ _ _ _ _ _ _ _ _
    refine V_lload (κ := KX7_toneOn) (pc := 162) dX7_toneOn_162 0 rfl ?_
    refine V_lload (κ := KX7_toneOn) (pc := 164) dX7_toneOn_164 1 rfl ?_
    refine V_ladd (κ := KX7_toneOn) (pc := 166) dX7_toneOn_166 ?_
    refine V_goto (κ := KX7_toneOn) (pc := 167) (tgt := 214) dX7_toneOn_167 rfl ?_
    refine V_sub (lv' := [(0, (2, x0)), (1, (0, x1)), (2, (0, x2)), (3, (0, x3)), (4, (0, x4)), (5, (0, w32 (x5 + (-1)))), (6, (0, x6))]) [5, 6, 7, 8, 9, 2, 10] rfl ?_
    exact VBX7_toneOn_214 hk27 _ _ _ _ _ _ _ _ _
  refine V_aload_n (κ := KX7_toneOn) (pc := 70) dX7_toneOn_70 2 rfl rfl ?_
  refine V_getf 7 (κ := KX7_toneOn) (pc := 71) rfl (by decide) rfl inX7 6 (by decide) wd_993 rfl (t := 2) rfl dX7_toneOn_71 fun t116 => ?_
  refine V_iload (κ := KX7_toneOn) (pc := 74) dX7_toneOn_74 7 rfl ?_
  refine V_iload (κ := KX7_toneOn) (pc := 76) dX7_toneOn_76 1 rfl ?_
  refine V_if_ne (κ := KX7_toneOn) (pc := 78) (tgt := 87) dX7_toneOn_78 rfl ?_ ?_
  · refine V_iload (κ := KX7_toneOn) (pc := 87) dX7_toneOn_87 0 rfl ?_
    refine V_if_ne (κ := KX7_toneOn) (pc := 89) (tgt := 102) dX7_toneOn_89 rfl ?_ ?_
    · refine V_iload (κ := KX7_toneOn) (pc := 102) dX7_toneOn_102 0 rfl ?_
      refine V_iconst (κ := KX7_toneOn) (pc := 104) dX7_toneOn_104 ⟨by decide, by decide⟩ ?_
      refine V_icmp_ne (κ := KX7_toneOn) (pc := 105) (tgt := 113) dX7_toneOn_105 rfl ?_ ?_
      · refine V_iload (κ := KX7_toneOn) (pc := 113) dX7_toneOn_113 0 rfl ?_
        refine V_iconst (κ := KX7_toneOn) (pc := 115) dX7_toneOn_115 ⟨by decide, by decide⟩ ?_
        refine V_icmp_ne (κ := KX7_toneOn) (pc := 116) (tgt := 124) dX7_toneOn_116 rfl ?_ ?_
        · refine V_iload_n (κ := KX7_toneOn) (pc := 124) dX7_toneOn_124 3 rfl ?_
          refine V_i2l (κ := KX7_toneOn) (pc := 125) dX7_toneOn_125 ?_
          refine V_sub (lv' := [(0, (2, x0)), (1, (0, x1)), (2, (0, x2)), (3, (0, x3)), (4, (0, x4)), (5, (0, x5)), (6, (0, x6))]) [2, 3, 4, 5, 6, 7, 8] rfl ?_
          exact VBX7_toneOn_126 hk27 _ _ _ _ _ _ _ _ _ _ _
        refine V_iload_n (κ := KX7_toneOn) (pc := 119) dX7_toneOn_119 5 rfl ?_
        refine V_i2l (κ := KX7_toneOn) (pc := 120) dX7_toneOn_120 ?_
        refine V_goto (κ := KX7_toneOn) (pc := 121) (tgt := 126) dX7_toneOn_121 rfl ?_
        refine V_sub (lv' := [(0, (2, x0)), (1, (0, x1)), (2, (0, x2)), (3, (0, x3)), (4, (0, x4)), (5, (0, x5)), (6, (0, x6))]) [2, 3, 4, 5, 6, 7, 8] rfl ?_
        exact VBX7_toneOn_126 hk27 _ _ _ _ _ _ _ _ _ _ _
      refine V_iload_n (κ := KX7_toneOn) (pc := 108) dX7_toneOn_108 4 rfl ?_
      refine V_i2l (κ := KX7_toneOn) (pc := 109) dX7_toneOn_109 ?_
      refine V_goto (κ := KX7_toneOn) (pc := 110) (tgt := 126) dX7_toneOn_110 rfl ?_
      refine V_sub (lv' := [(0, (2, x0)), (1, (0, x1)), (2, (0, x2)), (3, (0, x3)), (4, (0, x4)), (5, (0, x5)), (6, (0, x6))]) [2, 3, 4, 5, 6, 7, 8] rfl ?_
      exact VBX7_toneOn_126 hk27 _ _ _ _ _ _ _ _ _ _ _
    refine V_aload_n (κ := KX7_toneOn) (pc := 92) dX7_toneOn_92 2 rfl rfl ?_
    refine V_iload_n (κ := KX7_toneOn) (pc := 93) dX7_toneOn_93 4 rfl ?_
    refine V_iload_n (κ := KX7_toneOn) (pc := 94) dX7_toneOn_94 5 rfl ?_
    refine V_callV (ci := 7) (T := TX7) (N := 24) rfl (by decide) (κ := KX7_toneOn) (pc := 95) (con_X7_toneAt _ _ _ _) mth_X7_toneAt rfl ⟨wd_1249, wp_68⟩ wd_1247 (st0 := [(0, x5), (2, t116)]) rfl rfl (by decide) (Nat.le_of_ble_eq_true rfl) dX7_toneOn_95 (fun _ _ _ h => VX_out rfl (by decide) h) fun t117 u118 => ?_
    refine V_i2l (κ := KX7_toneOn) (pc := 98) dX7_toneOn_98 ?_
    refine V_goto (κ := KX7_toneOn) (pc := 99) (tgt := 126) dX7_toneOn_99 rfl ?_
    refine V_sub (lv' := [(0, (2, x0)), (1, (0, x1)), (2, (0, x2)), (3, (0, x3)), (4, (0, x4)), (5, (0, x5)), (6, (0, x6))]) [2, 3, 4, 5, 6, 7, 8] rfl ?_
    exact VBX7_toneOn_126 hk27 _ _ _ _ _ _ _ _ _ _ _
  refine V_iload (κ := KX7_toneOn) (pc := 81) dX7_toneOn_81 0 rfl ?_
  refine V_i2l (κ := KX7_toneOn) (pc := 83) dX7_toneOn_83 ?_
  refine V_goto (κ := KX7_toneOn) (pc := 84) (tgt := 126) dX7_toneOn_84 rfl ?_
  refine V_sub (lv' := [(0, (2, x0)), (1, (0, x1)), (2, (0, x2)), (3, (0, x3)), (4, (0, x4)), (5, (0, x5)), (6, (0, x6))]) [2, 3, 4, 5, 6, 7, 8] rfl ?_
  exact VBX7_toneOn_126 hk27 _ _ _ _ _ _ _ _ _ _ _
theorem VLX7_toneOn_27 {Γ : Gam} : ∀ (n : Nat) (x0 x1 x2 x3 x4 x5 x6 : Int) (μ : Mem), V Γ KX7_toneOn 27 [(0, (2, x0)), (1, (0, x1)), (2, (0, x2)), (3, (0, x3)), (4, (0, x4)), (5, (0, x5)), (6, (0, x6))] [] μ (LX7_toneOn_27 n x0 x1 x2 x3 x4 x5 x6 μ)
  | 0, _, _, _, _, _, _, _, _ => V_none
  | n + 1, x0, x1, x2, x3, x4, x5, x6, μ => VBX7_toneOn_27 (fun y0 y1 y2 y3 y4 y5 y6 ν => VLX7_toneOn_27 n y0 y1 y2 y3 y4 y5 y6 ν) x0 x1 x2 x3 x4 x5 x6 μ
theorem VBX7_toneOn_0 {Γ : Gam} (x0 x1 x2 x3 : Int) (μ : Mem) : V Γ KX7_toneOn 0 [(0, (2, x0)), (1, (0, x1)), (2, (0, x2)), (3, (0, x3))] [] μ (BX7_toneOn_0 x0 x1 x2 x3 μ) := by
  unfold BX7_toneOn_0
  refine V_aload_n (κ := KX7_toneOn) (pc := 0) dX7_toneOn_0 0 rfl rfl ?_
  refine V_iload_n (κ := KX7_toneOn) (pc := 1) dX7_toneOn_1 1 rfl ?_
  refine V_bipush (κ := KX7_toneOn) (pc := 2) dX7_toneOn_2 ⟨by decide, by decide⟩ (by decide) ?_
  refine V_callV (ci := 7) (T := TX7) (N := 24) rfl (by decide) (κ := KX7_toneOn) (pc := 4) (con_X7_of _ _ _ _) mth_X7_of rfl ⟨wd_1233, wp_65⟩ wd_1231 (st0 := []) rfl rfl (by decide) (Nat.le_of_ble_eq_true rfl) dX7_toneOn_4 (fun _ _ _ h => VX_out rfl (by decide) h) fun t101 u102 => ?_
  refine V_istore (κ := KX7_toneOn) (pc := 7) (lv' := [(4, (0, t101)), (0, (2, x0)), (1, (0, x1)), (2, (0, x2)), (3, (0, x3))]) dX7_toneOn_7 (by decide) rfl ?_
  refine V_iload (κ := KX7_toneOn) (pc := 9) dX7_toneOn_9 0 rfl ?_
  refine V_if_ne (κ := KX7_toneOn) (pc := 11) (tgt := 21) dX7_toneOn_11 rfl ?_ ?_
  · refine V_iconst (κ := KX7_toneOn) (pc := 21) dX7_toneOn_21 ⟨by decide, by decide⟩ ?_
    refine V_istore (κ := KX7_toneOn) (pc := 22) (lv' := [(5, (0, 0)), (4, (0, t101)), (0, (2, x0)), (1, (0, x1)), (2, (0, x2)), (3, (0, x3))]) dX7_toneOn_22 (by decide) rfl ?_
    refine V_iconst (κ := KX7_toneOn) (pc := 24) dX7_toneOn_24 ⟨by decide, by decide⟩ ?_
    refine V_istore (κ := KX7_toneOn) (pc := 25) (lv' := [(6, (0, 0)), (5, (0, 0)), (4, (0, t101)), (0, (2, x0)), (1, (0, x1)), (2, (0, x2)), (3, (0, x3))]) dX7_toneOn_25 (by decide) rfl ?_
    refine V_sub (lv' := [(0, (2, x0)), (1, (0, x1)), (2, (0, x2)), (3, (0, x3)), (4, (0, t101)), (5, (0, 0)), (6, (0, 0))]) [3, 4, 5, 6, 2, 1, 0] rfl ?_
    exact VLX7_toneOn_27 FU _ _ _ _ _ _ _ _
  refine V_aload_n (κ := KX7_toneOn) (pc := 14) dX7_toneOn_14 1 rfl rfl ?_
  refine V_iload_n (κ := KX7_toneOn) (pc := 15) dX7_toneOn_15 3 rfl ?_
  refine V_iload_n (κ := KX7_toneOn) (pc := 16) dX7_toneOn_16 4 rfl ?_
  refine V_callV (ci := 7) (T := TX7) (N := 24) rfl (by decide) (κ := KX7_toneOn) (pc := 17) (con_X7_toneAt _ _ _ _) mth_X7_toneAt rfl ⟨wd_1249, wp_68⟩ wd_1247 (st0 := []) rfl rfl (by decide) (Nat.le_of_ble_eq_true rfl) dX7_toneOn_17 (fun _ _ _ h => VX_out rfl (by decide) h) fun t103 u104 => ?_
  exact V_ireturn (κ := KX7_toneOn) (pc := 20) rfl rfl dX7_toneOn_20
theorem con_X7_toneOn (a0 a1 a2 a3 : Int) (μ : Mem) : Con (3) yX7_toneOn (.code yX7_toneOn cX7_toneOn 15 (some .int)) 0 [(2, a0), (0, a1), (0, a2), (0, a3)] μ (FX7_toneOn a0 a1 a2 a3 μ) := Con_intro KX7_toneOn (plainFor_of_name (by decide)) rfl (fun h => by cases h) (by decide) rfl (Nat.le_of_ble_eq_true rfl) (fun Γ => VBX7_toneOn_0 _ _ _ _ _)
abbrev KX7_laysPlate : Kap := (RX7, cX7_laysPlate, 7, 5, 9, none, false, [])
theorem VBX7_laysPlate_173 {Γ : Gam} {k13 : Int → Int → Int → Int → Mem → Rz} (hk13 : ∀ (y0 y1 y2 y3 : Int) (ν : Mem), V Γ KX7_laysPlate 13 [(0, (2, y0)), (1, (0, y1)), (2, (0, y2)), (3, (0, y3))] [] ν (k13 y0 y1 y2 y3 ν)) {k24 : Int → Int → Int → Int → Int → Mem → Rz} (hk24 : ∀ (y0 y1 y2 y3 y4 : Int) (ν : Mem), V Γ KX7_laysPlate 24 [(0, (2, y0)), (1, (0, y1)), (2, (0, y2)), (3, (0, y3)), (4, (0, y4))] [] ν (k24 y0 y1 y2 y3 y4 ν)) (x0 x1 x2 x3 x4 s0 s1 s2 s3 : Int) (μ : Mem) : V Γ KX7_laysPlate 173 [(0, (2, x0)), (1, (0, x1)), (2, (0, x2)), (3, (0, x3)), (4, (0, x4))] [(0, s0), (0, s1), (0, s2), (2, s3)] μ (BX7_laysPlate_173 k13 k24 x0 x1 x2 x3 x4 s0 s1 s2 s3 μ) := by
  unfold BX7_laysPlate_173
  refine V_ior (κ := KX7_laysPlate) (pc := 173) dX7_laysPlate_173 ?_
  refine V_iastore (κ := KX7_laysPlate) (pc := 174) dX7_laysPlate_174 fun u101 => ?_
  refine V_iinc (κ := KX7_laysPlate) (pc := 175) (lv' := [(4, (0, w32 (x4 + 1))), (0, (2, x0)), (1, (0, x1)), (2, (0, x2)), (3, (0, x3))]) dX7_laysPlate_175 4 rfl (by decide) rfl ?_
  refine V_goto (κ := KX7_laysPlate) (pc := 178) (tgt := 24) dX7_laysPlate_178 rfl ?_
  refine V_sub (lv' := [(0, (2, x0)), (1, (0, x1)), (2, (0, x2)), (3, (0, x3)), (4, (0, w32 (x4 + 1)))]) [1, 2, 3, 4, 0] rfl ?_
  exact hk24 _ _ _ _ _ _
theorem VBX7_laysPlate_151 {Γ : Gam} {k13 : Int → Int → Int → Int → Mem → Rz} (hk13 : ∀ (y0 y1 y2 y3 : Int) (ν : Mem), V Γ KX7_laysPlate 13 [(0, (2, y0)), (1, (0, y1)), (2, (0, y2)), (3, (0, y3))] [] ν (k13 y0 y1 y2 y3 ν)) {k24 : Int → Int → Int → Int → Int → Mem → Rz} (hk24 : ∀ (y0 y1 y2 y3 y4 : Int) (ν : Mem), V Γ KX7_laysPlate 24 [(0, (2, y0)), (1, (0, y1)), (2, (0, y2)), (3, (0, y3)), (4, (0, y4))] [] ν (k24 y0 y1 y2 y3 y4 ν)) (x0 x1 x2 x3 x4 x5 s0 : Int) (μ : Mem) : V Γ KX7_laysPlate 151 [(0, (2, x0)), (1, (0, x1)), (2, (0, x2)), (3, (0, x3)), (4, (0, x4)), (5, (0, x5))] [(0, s0)] μ (BX7_laysPlate_151 k13 k24 x0 x1 x2 x3 x4 x5 s0 μ) := by
  unfold BX7_laysPlate_151
  refine V_istore (κ := KX7_laysPlate) (pc := 151) (lv' := [(6, (0, s0)), (0, (2, x0)), (1, (0, x1)), (2, (0, x2)), (3, (0, x3)), (4, (0, x4)), (5, (0, x5))]) dX7_laysPlate_151 (by decide) rfl ?_
  refine V_aload_n (κ := KX7_laysPlate) (pc := 153) dX7_laysPlate_153 1 rfl rfl ?_
  refine V_getf 7 (κ := KX7_laysPlate) (pc := 154) rfl (by decide) rfl inX7 9 (by decide) wd_996 rfl (t := 2) rfl dX7_laysPlate_154 fun t101 => ?_
  refine V_iload (κ := KX7_laysPlate) (pc := 157) dX7_laysPlate_157 6 rfl ?_
  refine V_dup2 (κ := KX7_laysPlate) (pc := 159) rfl rfl dX7_laysPlate_159 ?_
  refine V_iaload (κ := KX7_laysPlate) (pc := 160) dX7_laysPlate_160 fun t102 => ?_
  refine V_iload (κ := KX7_laysPlate) (pc := 161) dX7_laysPlate_161 0 rfl ?_
  refine V_if_eq (κ := KX7_laysPlate) (pc := 163) (tgt := 172) dX7_laysPlate_163 rfl ?_ ?_
  · refine V_iconst (κ := KX7_laysPlate) (pc := 172) dX7_laysPlate_172 ⟨by decide, by decide⟩ ?_
    refine V_sub (lv' := [(0, (2, x0)), (1, (0, x1)), (2, (0, x2)), (3, (0, x3)), (4, (0, x4))]) [1, 2, 3, 4, 5] rfl ?_
    exact VBX7_laysPlate_173 hk13 hk24 _ _ _ _ _ _ _ _ _ _
  refine V_iconst (κ := KX7_laysPlate) (pc := 166) dX7_laysPlate_166 ⟨by decide, by decide⟩ ?_
  refine V_iload_n (κ := KX7_laysPlate) (pc := 167) dX7_laysPlate_167 2 rfl ?_
  refine V_ishl (κ := KX7_laysPlate) (pc := 168) dX7_laysPlate_168 ?_
  refine V_goto (κ := KX7_laysPlate) (pc := 169) (tgt := 173) dX7_laysPlate_169 rfl ?_
  refine V_sub (lv' := [(0, (2, x0)), (1, (0, x1)), (2, (0, x2)), (3, (0, x3)), (4, (0, x4))]) [1, 2, 3, 4, 5] rfl ?_
  exact VBX7_laysPlate_173 hk13 hk24 _ _ _ _ _ _ _ _ _ _
theorem VBX7_laysPlate_150 {Γ : Gam} {k13 : Int → Int → Int → Int → Mem → Rz} (hk13 : ∀ (y0 y1 y2 y3 : Int) (ν : Mem), V Γ KX7_laysPlate 13 [(0, (2, y0)), (1, (0, y1)), (2, (0, y2)), (3, (0, y3))] [] ν (k13 y0 y1 y2 y3 ν)) {k24 : Int → Int → Int → Int → Int → Mem → Rz} (hk24 : ∀ (y0 y1 y2 y3 y4 : Int) (ν : Mem), V Γ KX7_laysPlate 24 [(0, (2, y0)), (1, (0, y1)), (2, (0, y2)), (3, (0, y3)), (4, (0, y4))] [] ν (k24 y0 y1 y2 y3 y4 ν)) (x0 x1 x2 x3 x4 x5 : Int) (μ : Mem) : V Γ KX7_laysPlate 150 [(0, (2, x0)), (1, (0, x1)), (2, (0, x2)), (3, (0, x3)), (4, (0, x4)), (5, (0, x5))] [] μ (BX7_laysPlate_150 k13 k24 x0 x1 x2 x3 x4 x5 μ) := by
  unfold BX7_laysPlate_150
  refine V_iconst (κ := KX7_laysPlate) (pc := 150) dX7_laysPlate_150 ⟨by decide, by decide⟩ ?_
  exact VBX7_laysPlate_151 hk13 hk24 _ _ _ _ _ _ _ _
theorem VBX7_laysPlate_24 {Γ : Gam} {k13 : Int → Int → Int → Int → Mem → Rz} (hk13 : ∀ (y0 y1 y2 y3 : Int) (ν : Mem), V Γ KX7_laysPlate 13 [(0, (2, y0)), (1, (0, y1)), (2, (0, y2)), (3, (0, y3))] [] ν (k13 y0 y1 y2 y3 ν)) {k24 : Int → Int → Int → Int → Int → Mem → Rz} (hk24 : ∀ (y0 y1 y2 y3 y4 : Int) (ν : Mem), V Γ KX7_laysPlate 24 [(0, (2, y0)), (1, (0, y1)), (2, (0, y2)), (3, (0, y3)), (4, (0, y4))] [] ν (k24 y0 y1 y2 y3 y4 ν)) (x0 x1 x2 x3 x4 : Int) (μ : Mem) : V Γ KX7_laysPlate 24 [(0, (2, x0)), (1, (0, x1)), (2, (0, x2)), (3, (0, x3)), (4, (0, x4))] [] μ (BX7_laysPlate_24 k13 k24 x0 x1 x2 x3 x4 μ) := by
  unfold BX7_laysPlate_24
  refine V_iload (κ := KX7_laysPlate) (pc := 24) dX7_laysPlate_24 4 rfl ?_
  refine V_aload_n (κ := KX7_laysPlate) (pc := 26) dX7_laysPlate_26 0 rfl rfl ?_
  refine V_callV (ci := 7) (T := TX7) (N := 24) rfl (by decide) (κ := KX7_laysPlate) (pc := 27) (con_X7_wide _ _) mth_X7_wide rfl ⟨wd_1201, wp_57⟩ wd_1199 (st0 := [(0, x4)]) rfl rfl (by decide) (Nat.le_of_ble_eq_true rfl) dX7_laysPlate_27 (fun _ _ _ h => VX_out rfl (by decide) h) fun t101 u102 => ?_
  refine V_icmp_ge (κ := KX7_laysPlate) (pc := 30) (tgt := 181) dX7_laysPlate_30 rfl ?_ ?_
  · refine V_iinc (κ := KX7_laysPlate) (pc := 181) (lv' := [(3, (0, w32 (x3 + 1))), (0, (2, x0)), (1, (0, x1)), (2, (0, x2)), (4, (0, x4))]) dX7_laysPlate_181 3 rfl (by decide) rfl ?_
    refine V_goto (κ := KX7_laysPlate) (pc := 184) (tgt := 13) dX7_laysPlate_184 rfl ?_
    refine V_sub (lv' := [(0, (2, x0)), (1, (0, x1)), (2, (0, x2)), (3, (0, w32 (x3 + 1)))]) [1, 2, 3, 0] rfl ?_
    exact hk13 _ _ _ _ _
  refine V_bipush (κ := KX7_laysPlate) (pc := 33) dX7_laysPlate_33 ⟨by decide, by decide⟩ (by decide) ?_
  refine V_iload_n (κ := KX7_laysPlate) (pc := 35) dX7_laysPlate_35 3 rfl ?_
  refine V_imul (κ := KX7_laysPlate) (pc := 36) dX7_laysPlate_36 ?_
  refine V_iload (κ := KX7_laysPlate) (pc := 37) dX7_laysPlate_37 4 rfl ?_
  refine V_iadd (κ := KX7_laysPlate) (pc := 39) dX7_laysPlate_39 ?_
  refine V_LT fun x103 => ?_
  refine V_istore (κ := KX7_laysPlate) (pc := 40) (lv' := [(5, (0, x103)), (0, (2, x0)), (1, (0, x1)), (2, (0, x2)), (3, (0, x3)), (4, (0, x4))]) dX7_laysPlate_40 (by decide) rfl ?_
  refine V_aload_n (κ := KX7_laysPlate) (pc := 42) dX7_laysPlate_42 1 rfl rfl ?_
  refine V_getf 7 (κ := KX7_laysPlate) (pc := 43) rfl (by decide) rfl inX7 7 (by decide) wd_994 rfl (t := 2) rfl dX7_laysPlate_43 fun t104 => ?_
  refine V_sipush (κ := KX7_laysPlate) (pc := 46) dX7_laysPlate_46 ⟨by decide, by decide⟩ (by decide) ?_
  refine V_iload_n (κ := KX7_laysPlate) (pc := 49) dX7_laysPlate_49 2 rfl ?_
  refine V_imul (κ := KX7_laysPlate) (pc := 50) dX7_laysPlate_50 ?_
  refine V_iload (κ := KX7_laysPlate) (pc := 51) dX7_laysPlate_51 0 rfl ?_
  refine V_iadd (κ := KX7_laysPlate) (pc := 53) dX7_laysPlate_53 ?_
  refine V_aload_n (κ := KX7_laysPlate) (pc := 54) dX7_laysPlate_54 1 rfl rfl ?_
  refine V_iload_n (κ := KX7_laysPlate) (pc := 55) dX7_laysPlate_55 3 rfl ?_
  refine V_iload_n (κ := KX7_laysPlate) (pc := 56) dX7_laysPlate_56 4 rfl ?_
  refine V_aload_n (κ := KX7_laysPlate) (pc := 57) dX7_laysPlate_57 1 rfl rfl ?_
  refine V_iload_n (κ := KX7_laysPlate) (pc := 58) dX7_laysPlate_58 2 rfl ?_
  refine V_bipush (κ := KX7_laysPlate) (pc := 59) dX7_laysPlate_59 ⟨by decide, by decide⟩ (by decide) ?_
  refine V_callV (ci := 7) (T := TX7) (N := 24) rfl (by decide) (κ := KX7_laysPlate) (pc := 61) (con_X7_of _ _ _ _) mth_X7_of rfl ⟨wd_1233, wp_65⟩ wd_1231 (st0 := [(0, x3), (0, x2), (2, x0), (0, w32 ((w32 (192 * x1)) + x103)), (2, t104)]) rfl rfl (by decide) (Nat.le_of_ble_eq_true rfl) dX7_laysPlate_61 (fun _ _ _ h => VX_out rfl (by decide) h) fun t105 u106 => ?_
  refine V_iadd (κ := KX7_laysPlate) (pc := 64) dX7_laysPlate_64 ?_
  refine V_iload_n (κ := KX7_laysPlate) (pc := 65) dX7_laysPlate_65 3 rfl ?_
  refine V_irem (κ := KX7_laysPlate) (pc := 66) dX7_laysPlate_66 fun t107 => ?_
  refine V_imul (κ := KX7_laysPlate) (pc := 67) dX7_laysPlate_67 ?_
  refine V_iload (κ := KX7_laysPlate) (pc := 68) dX7_laysPlate_68 5 rfl ?_
  refine V_aload_n (κ := KX7_laysPlate) (pc := 70) dX7_laysPlate_70 1 rfl rfl ?_
  refine V_iload_n (κ := KX7_laysPlate) (pc := 71) dX7_laysPlate_71 2 rfl ?_
  refine V_bipush (κ := KX7_laysPlate) (pc := 72) dX7_laysPlate_72 ⟨by decide, by decide⟩ (by decide) ?_
  refine V_callV (ci := 7) (T := TX7) (N := 24) rfl (by decide) (κ := KX7_laysPlate) (pc := 74) (con_X7_of _ _ _ _) mth_X7_of rfl ⟨wd_1233, wp_65⟩ wd_1231 (st0 := [(0, x4), (0, w32 (x2 * t107)), (2, x0), (0, w32 ((w32 (192 * x1)) + x103)), (2, t104)]) rfl rfl (by decide) (Nat.le_of_ble_eq_true rfl) dX7_laysPlate_74 (fun _ _ _ h => VX_out rfl (by decide) h) fun t108 u109 => ?_
  refine V_iadd (κ := KX7_laysPlate) (pc := 77) dX7_laysPlate_77 ?_
  refine V_iload_n (κ := KX7_laysPlate) (pc := 78) dX7_laysPlate_78 3 rfl ?_
  refine V_irem (κ := KX7_laysPlate) (pc := 79) dX7_laysPlate_79 fun t110 => ?_
  refine V_iadd (κ := KX7_laysPlate) (pc := 80) dX7_laysPlate_80 ?_
  refine V_iload_n (κ := KX7_laysPlate) (pc := 81) dX7_laysPlate_81 3 rfl ?_
  refine V_callV (ci := 7) (T := TX7) (N := 24) rfl (by decide) (κ := KX7_laysPlate) (pc := 82) (con_X7_rankOf _ _ _ _) mth_X7_rankOf rfl ⟨wd_1241, wp_66⟩ wd_1239 (st0 := [(0, w32 ((w32 (192 * x1)) + x103)), (2, t104)]) rfl rfl (by decide) (Nat.le_of_ble_eq_true rfl) dX7_laysPlate_82 (fun _ _ _ h => VX_out rfl (by decide) h) fun t111 u112 => ?_
  refine V_iastore (κ := KX7_laysPlate) (pc := 85) dX7_laysPlate_85 fun u113 => ?_
  refine V_aload_n (κ := KX7_laysPlate) (pc := 86) dX7_laysPlate_86 1 rfl rfl ?_
  refine V_getf 7 (κ := KX7_laysPlate) (pc := 87) rfl (by decide) rfl inX7 8 (by decide) wd_995 rfl (t := 2) rfl dX7_laysPlate_87 fun t114 => ?_
  refine V_sipush (κ := KX7_laysPlate) (pc := 90) dX7_laysPlate_90 ⟨by decide, by decide⟩ (by decide) ?_
  refine V_iload_n (κ := KX7_laysPlate) (pc := 93) dX7_laysPlate_93 2 rfl ?_
  refine V_imul (κ := KX7_laysPlate) (pc := 94) dX7_laysPlate_94 ?_
  refine V_iload (κ := KX7_laysPlate) (pc := 95) dX7_laysPlate_95 0 rfl ?_
  refine V_iadd (κ := KX7_laysPlate) (pc := 97) dX7_laysPlate_97 ?_
  refine V_aload_n (κ := KX7_laysPlate) (pc := 98) dX7_laysPlate_98 1 rfl rfl ?_
  refine V_iload_n (κ := KX7_laysPlate) (pc := 99) dX7_laysPlate_99 2 rfl ?_
  refine V_iload (κ := KX7_laysPlate) (pc := 100) dX7_laysPlate_100 5 rfl ?_
  refine V_iload_n (κ := KX7_laysPlate) (pc := 102) dX7_laysPlate_102 4 rfl ?_
  refine V_callV (ci := 7) (T := TX7) (N := 24) rfl (by decide) (κ := KX7_laysPlate) (pc := 103) (con_X7_toneOn _ _ _ _ _) mth_X7_toneOn rfl ⟨wd_1245, wp_67⟩ wd_1243 (st0 := [(0, w32 ((w32 (192 * x1)) + x103)), (2, t114)]) rfl rfl (by decide) (Nat.le_of_ble_eq_true rfl) dX7_laysPlate_103 (fun _ _ _ h => VX_out rfl (by decide) h) fun t115 u116 => ?_
  refine V_iastore (κ := KX7_laysPlate) (pc := 106) dX7_laysPlate_106 fun u117 => ?_
  refine V_aload_n (κ := KX7_laysPlate) (pc := 107) dX7_laysPlate_107 1 rfl rfl ?_
  refine V_iload_n (κ := KX7_laysPlate) (pc := 108) dX7_laysPlate_108 2 rfl ?_
  refine V_iload (κ := KX7_laysPlate) (pc := 109) dX7_laysPlate_109 0 rfl ?_
  refine V_callV (ci := 7) (T := TX7) (N := 24) rfl (by decide) (κ := KX7_laysPlate) (pc := 111) (con_X7_isWanted _ _ _ _) mth_X7_isWanted rfl ⟨wd_1256, wp_69⟩ wd_1254 (st0 := []) rfl rfl (by decide) (Nat.le_of_ble_eq_true rfl) dX7_laysPlate_111 (fun _ _ _ h => VX_out rfl (by decide) h) fun t118 u119 => ?_
  refine V_if_eq (κ := KX7_laysPlate) (pc := 114) (tgt := 150) dX7_laysPlate_114 rfl ?_ ?_
  · refine V_sub (lv' := [(0, (2, x0)), (1, (0, x1)), (2, (0, x2)), (3, (0, x3)), (4, (0, x4)), (5, (0, x103))]) [1, 2, 3, 4, 5, 0] rfl ?_
    exact VBX7_laysPlate_150 hk13 hk24 _ _ _ _ _ _ _
  refine V_aload_n (κ := KX7_laysPlate) (pc := 117) dX7_laysPlate_117 1 rfl rfl ?_
  refine V_iload_n (κ := KX7_laysPlate) (pc := 118) dX7_laysPlate_118 2 rfl ?_
  refine V_iload (κ := KX7_laysPlate) (pc := 119) dX7_laysPlate_119 5 rfl ?_
  refine V_iload_n (κ := KX7_laysPlate) (pc := 121) dX7_laysPlate_121 4 rfl ?_
  refine V_callV (ci := 7) (T := TX7) (N := 24) rfl (by decide) (κ := KX7_laysPlate) (pc := 122) (con_X7_isCleaned _ _ _ _ _) mth_X7_isCleaned rfl ⟨wd_1260, wp_70⟩ wd_1258 (st0 := []) rfl rfl (by decide) (Nat.le_of_ble_eq_true rfl) dX7_laysPlate_122 (fun _ _ _ h => VX_out rfl (by decide) h) fun t120 u121 => ?_
  refine V_if_ne (κ := KX7_laysPlate) (pc := 125) (tgt := 150) dX7_laysPlate_125 rfl ?_ ?_
  · refine V_sub (lv' := [(0, (2, x0)), (1, (0, x1)), (2, (0, x2)), (3, (0, x3)), (4, (0, x4)), (5, (0, x103))]) [1, 2, 3, 4, 5, 0] rfl ?_
    exact VBX7_laysPlate_150 hk13 hk24 _ _ _ _ _ _ _
  refine V_aload_n (κ := KX7_laysPlate) (pc := 128) dX7_laysPlate_128 1 rfl rfl ?_
  refine V_getf 7 (κ := KX7_laysPlate) (pc := 129) rfl (by decide) rfl inX7 9 (by decide) wd_996 rfl (t := 2) rfl dX7_laysPlate_129 fun t122 => ?_
  refine V_iload (κ := KX7_laysPlate) (pc := 132) dX7_laysPlate_132 0 rfl ?_
  refine V_iaload (κ := KX7_laysPlate) (pc := 134) dX7_laysPlate_134 fun t123 => ?_
  refine V_callS (κ := KX7_laysPlate) (pc := 135) (con_X7_bits _ _) mth_X7_bits wd_1263 wd_1262 (st0 := []) rfl rfl (by decide) (Nat.le_of_ble_eq_true rfl) dX7_laysPlate_135 (fun _ _ _ h => VX_out rfl (by decide) h) fun t124 u125 => ?_
  refine V_aload_n (κ := KX7_laysPlate) (pc := 138) dX7_laysPlate_138 1 rfl rfl ?_
  refine V_iconst (κ := KX7_laysPlate) (pc := 139) dX7_laysPlate_139 ⟨by decide, by decide⟩ ?_
  refine V_callV (ci := 7) (T := TX7) (N := 24) rfl (by decide) (κ := KX7_laysPlate) (pc := 140) (con_X7_get _ _ _) mth_X7_get rfl ⟨wd_1181, wp_53⟩ wd_1179 (st0 := [(0, t124)]) rfl rfl (by decide) (Nat.le_of_ble_eq_true rfl) dX7_laysPlate_140 (fun _ _ _ h => VX_out rfl (by decide) h) fun t126 u127 => ?_
  refine V_icmp_ge (κ := KX7_laysPlate) (pc := 143) (tgt := 150) dX7_laysPlate_143 rfl ?_ ?_
  · refine V_sub (lv' := [(0, (2, x0)), (1, (0, x1)), (2, (0, x2)), (3, (0, x3)), (4, (0, x4)), (5, (0, x103))]) [1, 2, 3, 4, 5, 0] rfl ?_
    exact VBX7_laysPlate_150 hk13 hk24 _ _ _ _ _ _ _
  refine V_iconst (κ := KX7_laysPlate) (pc := 146) dX7_laysPlate_146 ⟨by decide, by decide⟩ ?_
  refine V_goto (κ := KX7_laysPlate) (pc := 147) (tgt := 151) dX7_laysPlate_147 rfl ?_
  refine V_sub (lv' := [(0, (2, x0)), (1, (0, x1)), (2, (0, x2)), (3, (0, x3)), (4, (0, x4)), (5, (0, x103))]) [1, 2, 3, 4, 5, 0] rfl ?_
  exact VBX7_laysPlate_151 hk13 hk24 _ _ _ _ _ _ _ _
theorem VLX7_laysPlate_24 {Γ : Gam} {k13 : Int → Int → Int → Int → Mem → Rz} (hk13 : ∀ (y0 y1 y2 y3 : Int) (ν : Mem), V Γ KX7_laysPlate 13 [(0, (2, y0)), (1, (0, y1)), (2, (0, y2)), (3, (0, y3))] [] ν (k13 y0 y1 y2 y3 ν)) : ∀ (n : Nat) (x0 x1 x2 x3 x4 : Int) (μ : Mem), V Γ KX7_laysPlate 24 [(0, (2, x0)), (1, (0, x1)), (2, (0, x2)), (3, (0, x3)), (4, (0, x4))] [] μ (LX7_laysPlate_24 k13 n x0 x1 x2 x3 x4 μ)
  | 0, _, _, _, _, _, _ => V_none
  | n + 1, x0, x1, x2, x3, x4, μ => VBX7_laysPlate_24 hk13 (fun y0 y1 y2 y3 y4 ν => VLX7_laysPlate_24 hk13 n y0 y1 y2 y3 y4 ν) x0 x1 x2 x3 x4 μ
theorem VBX7_laysPlate_13 {Γ : Gam} {k13 : Int → Int → Int → Int → Mem → Rz} (hk13 : ∀ (y0 y1 y2 y3 : Int) (ν : Mem), V Γ KX7_laysPlate 13 [(0, (2, y0)), (1, (0, y1)), (2, (0, y2)), (3, (0, y3))] [] ν (k13 y0 y1 y2 y3 ν)) (x0 x1 x2 x3 : Int) (μ : Mem) : V Γ KX7_laysPlate 13 [(0, (2, x0)), (1, (0, x1)), (2, (0, x2)), (3, (0, x3))] [] μ (BX7_laysPlate_13 k13 x0 x1 x2 x3 μ) := by
  unfold BX7_laysPlate_13
  refine V_iload_n (κ := KX7_laysPlate) (pc := 13) dX7_laysPlate_13 3 rfl ?_
  refine V_aload_n (κ := KX7_laysPlate) (pc := 14) dX7_laysPlate_14 0 rfl rfl ?_
  refine V_callV (ci := 7) (T := TX7) (N := 24) rfl (by decide) (κ := KX7_laysPlate) (pc := 15) (con_X7_high _ _) mth_X7_high rfl ⟨wd_1205, wp_58⟩ wd_1203 (st0 := [(0, x3)]) rfl rfl (by decide) (Nat.le_of_ble_eq_true rfl) dX7_laysPlate_15 (fun _ _ _ h => VX_out rfl (by decide) h) fun t101 u102 => ?_
  refine V_icmp_ge (κ := KX7_laysPlate) (pc := 18) (tgt := 187) dX7_laysPlate_18 rfl ?_ ?_
  · exact V_vreturn (κ := KX7_laysPlate) (pc := 187) rfl rfl dX7_laysPlate_187
  refine V_iconst (κ := KX7_laysPlate) (pc := 21) dX7_laysPlate_21 ⟨by decide, by decide⟩ ?_
  refine V_istore (κ := KX7_laysPlate) (pc := 22) (lv' := [(4, (0, 0)), (0, (2, x0)), (1, (0, x1)), (2, (0, x2)), (3, (0, x3))]) dX7_laysPlate_22 (by decide) rfl ?_
  refine V_sub (lv' := [(0, (2, x0)), (1, (0, x1)), (2, (0, x2)), (3, (0, x3)), (4, (0, 0))]) [1, 2, 3, 4, 0] rfl ?_
  exact VLX7_laysPlate_24 hk13 FU _ _ _ _ _ _
theorem VLX7_laysPlate_13 {Γ : Gam} : ∀ (n : Nat) (x0 x1 x2 x3 : Int) (μ : Mem), V Γ KX7_laysPlate 13 [(0, (2, x0)), (1, (0, x1)), (2, (0, x2)), (3, (0, x3))] [] μ (LX7_laysPlate_13 n x0 x1 x2 x3 μ)
  | 0, _, _, _, _, _ => V_none
  | n + 1, x0, x1, x2, x3, μ => VBX7_laysPlate_13 (fun y0 y1 y2 y3 ν => VLX7_laysPlate_13 n y0 y1 y2 y3 ν) x0 x1 x2 x3 μ
theorem VBX7_laysPlate_0 {Γ : Gam} (x0 x1 : Int) (μ : Mem) : V Γ KX7_laysPlate 0 [(0, (2, x0)), (1, (0, x1))] [] μ (BX7_laysPlate_0 x0 x1 μ) := by
  unfold BX7_laysPlate_0
  refine V_aload_n (κ := KX7_laysPlate) (pc := 0) dX7_laysPlate_0 0 rfl rfl ?_
  refine V_iload_n (κ := KX7_laysPlate) (pc := 1) dX7_laysPlate_1 1 rfl ?_
  refine V_callV (ci := 7) (T := TX7) (N := 24) rfl (by decide) (κ := KX7_laysPlate) (pc := 2) (con_X7_laysMeasures _ _ _) mth_X7_laysMeasures rfl ⟨wd_1225, wp_63⟩ wd_1223 (st0 := []) rfl rfl (by decide) (Nat.le_of_ble_eq_true rfl) dX7_laysPlate_2 (fun _ _ _ h => VX_out rfl (by decide) h) fun _ u102 => ?_
  refine V_aload_n (κ := KX7_laysPlate) (pc := 5) dX7_laysPlate_5 0 rfl rfl ?_
  refine V_iload_n (κ := KX7_laysPlate) (pc := 6) dX7_laysPlate_6 1 rfl ?_
  refine V_callV (ci := 7) (T := TX7) (N := 24) rfl (by decide) (κ := KX7_laysPlate) (pc := 7) (con_X7_squareOf _ _ _) mth_X7_squareOf rfl ⟨wd_1229, wp_64⟩ wd_1227 (st0 := []) rfl rfl (by decide) (Nat.le_of_ble_eq_true rfl) dX7_laysPlate_7 (fun _ _ _ h => VX_out rfl (by decide) h) fun t103 u104 => ?_
  refine V_istore_n (κ := KX7_laysPlate) (pc := 10) (lv' := [(2, (0, t103)), (0, (2, x0)), (1, (0, x1))]) dX7_laysPlate_10 (by decide) rfl ?_
  refine V_iconst (κ := KX7_laysPlate) (pc := 11) dX7_laysPlate_11 ⟨by decide, by decide⟩ ?_
  refine V_istore_n (κ := KX7_laysPlate) (pc := 12) (lv' := [(3, (0, 0)), (2, (0, t103)), (0, (2, x0)), (1, (0, x1))]) dX7_laysPlate_12 (by decide) rfl ?_
  refine V_sub (lv' := [(0, (2, x0)), (1, (0, x1)), (2, (0, t103)), (3, (0, 0))]) [2, 3, 1, 0] rfl ?_
  exact VLX7_laysPlate_13 FU _ _ _ _ _
theorem con_X7_laysPlate (a0 a1 : Int) (μ : Mem) : Con (5) yX7_laysPlate (.code yX7_laysPlate cX7_laysPlate 7 none) 9 [(2, a0), (0, a1)] μ (FX7_laysPlate a0 a1 μ) := Con_intro KX7_laysPlate (plainFor_of_name (by decide)) rfl (fun h => by cases h) (by decide) rfl (Nat.le_of_ble_eq_true rfl) (fun Γ => VBX7_laysPlate_0 _ _ _)
abbrev KX7_lays : Kap := (RX7, cX7_lays, 2, 6, 9, none, false, [])
theorem VBX7_lays_37 {Γ : Gam} {k37 : Int → Int → Mem → Rz} (hk37 : ∀ (y0 y1 : Int) (ν : Mem), V Γ KX7_lays 37 [(0, (2, y0)), (1, (0, y1))] [] ν (k37 y0 y1 ν)) (x0 x1 : Int) (μ : Mem) : V Γ KX7_lays 37 [(0, (2, x0)), (1, (0, x1))] [] μ (BX7_lays_37 k37 x0 x1 μ) := by
  unfold BX7_lays_37
  refine V_iload_n (κ := KX7_lays) (pc := 37) dX7_lays_37 1 rfl ?_
  refine V_aload_n (κ := KX7_lays) (pc := 38) dX7_lays_38 0 rfl rfl ?_
  refine V_callV (ci := 7) (T := TX7) (N := 24) rfl (by decide) (κ := KX7_lays) (pc := 39) (con_X7_plates _ _) mth_X7_plates rfl ⟨wd_1189, wp_55⟩ wd_1187 (st0 := [(0, x1)]) rfl rfl (by decide) (Nat.le_of_ble_eq_true rfl) dX7_lays_39 (fun _ _ _ h => VX_out rfl (by decide) h) fun t101 u102 => ?_
  refine V_icmp_ge (κ := KX7_lays) (pc := 42) (tgt := 56) dX7_lays_42 rfl ?_ ?_
  · exact V_vreturn (κ := KX7_lays) (pc := 56) rfl rfl dX7_lays_56
  refine V_aload_n (κ := KX7_lays) (pc := 45) dX7_lays_45 0 rfl rfl ?_
  refine V_iload_n (κ := KX7_lays) (pc := 46) dX7_lays_46 1 rfl ?_
  refine V_callV (ci := 7) (T := TX7) (N := 24) rfl (by decide) (κ := KX7_lays) (pc := 47) (con_X7_laysPlate _ _ _) mth_X7_laysPlate rfl ⟨wd_1221, wp_62⟩ wd_1219 (st0 := []) rfl rfl (by decide) (Nat.le_of_ble_eq_true rfl) dX7_lays_47 (fun _ _ _ h => VX_out rfl (by decide) h) fun _ u104 => ?_
  refine V_iinc (κ := KX7_lays) (pc := 50) (lv' := [(1, (0, w32 (x1 + 1))), (0, (2, x0))]) dX7_lays_50 1 rfl (by decide) rfl ?_
  refine V_goto (κ := KX7_lays) (pc := 53) (tgt := 37) dX7_lays_53 rfl ?_
  refine V_sub (lv' := [(0, (2, x0)), (1, (0, w32 (x1 + 1)))]) [1, 0] rfl ?_
  exact hk37 _ _ _
theorem VLX7_lays_37 {Γ : Gam} : ∀ (n : Nat) (x0 x1 : Int) (μ : Mem), V Γ KX7_lays 37 [(0, (2, x0)), (1, (0, x1))] [] μ (LX7_lays_37 n x0 x1 μ)
  | 0, _, _, _ => V_none
  | n + 1, x0, x1, μ => VBX7_lays_37 (fun y0 y1 ν => VLX7_lays_37 n y0 y1 ν) x0 x1 μ
theorem VBX7_lays_15 {Γ : Gam} {k15 : Int → Int → Mem → Rz} (hk15 : ∀ (y0 y1 : Int) (ν : Mem), V Γ KX7_lays 15 [(0, (2, y0)), (1, (0, y1))] [] ν (k15 y0 y1 ν)) (x0 x1 : Int) (μ : Mem) : V Γ KX7_lays 15 [(0, (2, x0)), (1, (0, x1))] [] μ (BX7_lays_15 k15 x0 x1 μ) := by
  unfold BX7_lays_15
  refine V_iload_n (κ := KX7_lays) (pc := 15) dX7_lays_15 1 rfl ?_
  refine V_sipush (κ := KX7_lays) (pc := 16) dX7_lays_16 ⟨by decide, by decide⟩ (by decide) ?_
  refine V_icmp_ge (κ := KX7_lays) (pc := 19) (tgt := 35) dX7_lays_19 rfl ?_ ?_
  · refine V_iconst (κ := KX7_lays) (pc := 35) dX7_lays_35 ⟨by decide, by decide⟩ ?_
    refine V_istore_n (κ := KX7_lays) (pc := 36) (lv' := [(1, (0, 0)), (0, (2, x0))]) dX7_lays_36 (by decide) rfl ?_
    refine V_sub (lv' := [(0, (2, x0)), (1, (0, 0))]) [1, 0] rfl ?_
    exact VLX7_lays_37 FU _ _ _
  refine V_aload_n (κ := KX7_lays) (pc := 22) dX7_lays_22 0 rfl rfl ?_
  refine V_getf 7 (κ := KX7_lays) (pc := 23) rfl (by decide) rfl inX7 9 (by decide) wd_996 rfl (t := 2) rfl dX7_lays_23 fun t101 => ?_
  refine V_iload_n (κ := KX7_lays) (pc := 26) dX7_lays_26 1 rfl ?_
  refine V_iconst (κ := KX7_lays) (pc := 27) dX7_lays_27 ⟨by decide, by decide⟩ ?_
  refine V_iastore (κ := KX7_lays) (pc := 28) dX7_lays_28 fun u102 => ?_
  refine V_iinc (κ := KX7_lays) (pc := 29) (lv' := [(1, (0, w32 (x1 + 1))), (0, (2, x0))]) dX7_lays_29 1 rfl (by decide) rfl ?_
  refine V_goto (κ := KX7_lays) (pc := 32) (tgt := 15) dX7_lays_32 rfl ?_
  refine V_sub (lv' := [(0, (2, x0)), (1, (0, w32 (x1 + 1)))]) [1, 0] rfl ?_
  exact hk15 _ _ _
theorem VLX7_lays_15 {Γ : Gam} : ∀ (n : Nat) (x0 x1 : Int) (μ : Mem), V Γ KX7_lays 15 [(0, (2, x0)), (1, (0, x1))] [] μ (LX7_lays_15 n x0 x1 μ)
  | 0, _, _, _ => V_none
  | n + 1, x0, x1, μ => VBX7_lays_15 (fun y0 y1 ν => VLX7_lays_15 n y0 y1 ν) x0 x1 μ
theorem VBX7_lays_0 {Γ : Gam} (x0 : Int) (μ : Mem) : V Γ KX7_lays 0 [(0, (2, x0))] [] μ (BX7_lays_0 x0 μ) := by
  unfold BX7_lays_0
  refine V_aload_n (κ := KX7_lays) (pc := 0) dX7_lays_0 0 rfl rfl ?_
  refine V_getf 7 (κ := KX7_lays) (pc := 1) rfl (by decide) rfl inX7 10 (by decide) wd_997 rfl (t := 0) rfl dX7_lays_1 fun t101 => ?_
  refine V_if_eq (κ := KX7_lays) (pc := 4) (tgt := 8) dX7_lays_4 rfl ?_ ?_
  · refine V_aload_n (κ := KX7_lays) (pc := 8) dX7_lays_8 0 rfl rfl ?_
    refine V_iconst (κ := KX7_lays) (pc := 9) dX7_lays_9 ⟨by decide, by decide⟩ ?_
    refine V_putz 7 (κ := KX7_lays) (pc := 10) rfl (by decide) rfl inX7 tyX7 tyX7_ok nmX7 10 (by decide) wd_997 rfl rfl rfl rfl dX7_lays_10 fun u102 => ?_
    refine V_iconst (κ := KX7_lays) (pc := 13) dX7_lays_13 ⟨by decide, by decide⟩ ?_
    refine V_istore_n (κ := KX7_lays) (pc := 14) (lv' := [(1, (0, 0)), (0, (2, x0))]) dX7_lays_14 (by decide) rfl ?_
    refine V_sub (lv' := [(0, (2, x0)), (1, (0, 0))]) [1, 0] rfl ?_
    exact VLX7_lays_15 FU _ _ _
  exact V_vreturn (κ := KX7_lays) (pc := 7) rfl rfl dX7_lays_7
theorem con_X7_lays (a0 : Int) (μ : Mem) : Con (6) yX7_lays (.code yX7_lays cX7_lays 2 none) 9 [(2, a0)] μ (FX7_lays a0 μ) := Con_intro KX7_lays (plainFor_of_name (by decide)) rfl (fun h => by cases h) (by decide) rfl (Nat.le_of_ble_eq_true rfl) (fun Γ => VBX7_lays_0 _ _)
abbrev KX7_cell : Kap := (RX7, cX7_cell, 6, 7, 0, (some .int), false, [])
theorem VBX7_cell_50 {Γ : Gam} (μ : Mem) : V Γ KX7_cell 50 [] [] μ (BX7_cell_50 μ) := by
  unfold BX7_cell_50
  refine V_iconst (κ := KX7_cell) (pc := 50) dX7_cell_50 ⟨by decide, by decide⟩ ?_
  exact V_ireturn (κ := KX7_cell) (pc := 51) rfl rfl dX7_cell_51
theorem VBX7_cell_135 {Γ : Gam} (s0 : Int) (μ : Mem) : V Γ KX7_cell 135 [] [(0, s0)] μ (BX7_cell_135 s0 μ) := by
  unfold BX7_cell_135
  exact V_ireturn (κ := KX7_cell) (pc := 135) rfl rfl dX7_cell_135
theorem VBX7_cell_151 {Γ : Gam} (s0 : Int) (μ : Mem) : V Γ KX7_cell 151 [] [(0, s0)] μ (BX7_cell_151 s0 μ) := by
  unfold BX7_cell_151
  exact V_ireturn (κ := KX7_cell) (pc := 151) rfl rfl dX7_cell_151
theorem VBX7_cell_167 {Γ : Gam} (s0 : Int) (μ : Mem) : V Γ KX7_cell 167 [] [(0, s0)] μ (BX7_cell_167 s0 μ) := by
  unfold BX7_cell_167
  exact V_ireturn (κ := KX7_cell) (pc := 167) rfl rfl dX7_cell_167
theorem VBX7_cell_28 {Γ : Gam} (x0 x1 x2 x3 x4 s0 s1 : Int) (μ : Mem) : V Γ KX7_cell 28 [(0, (2, x0)), (1, (0, x1)), (2, (0, x2)), (3, (0, x3)), (4, (0, x4))] [(0, s0), (2, s1)] μ (BX7_cell_28 x0 x1 x2 x3 x4 s0 s1 μ) := by
  unfold BX7_cell_28
  refine V_iconst (κ := KX7_cell) (pc := 28) dX7_cell_28 ⟨by decide, by decide⟩ ?_
  refine V_callV (ci := 7) (T := TX7) (N := 24) rfl (by decide) (κ := KX7_cell) (pc := 29) (con_X7_right _ _ _ _) mth_X7_right rfl ⟨wd_1086, wp_35⟩ wd_1084 (st0 := []) rfl rfl (by decide) (Nat.le_of_ble_eq_true rfl) dX7_cell_29 (fun _ _ _ h => VX_out rfl (by decide) h) fun t101 u102 => ?_
  refine V_if_eq (κ := KX7_cell) (pc := 32) (tgt := 50) dX7_cell_32 rfl ?_ ?_
  · refine V_sub (lv' := []) [] rfl ?_
    exact VBX7_cell_50 _
  refine V_aload_n (κ := KX7_cell) (pc := 35) dX7_cell_35 0 rfl rfl ?_
  refine V_iload (κ := KX7_cell) (pc := 36) dX7_cell_36 4 rfl ?_
  refine V_iconst (κ := KX7_cell) (pc := 38) dX7_cell_38 ⟨by decide, by decide⟩ ?_
  refine V_iconst (κ := KX7_cell) (pc := 39) dX7_cell_39 ⟨by decide, by decide⟩ ?_
  refine V_callS (κ := KX7_cell) (pc := 40) (con_X7_isIn _ _ _ _) mth_X7_isIn wd_1082 wd_1081 (st0 := [(2, x0)]) rfl rfl (by decide) (Nat.le_of_ble_eq_true rfl) dX7_cell_40 (fun _ _ _ h => VX_out rfl (by decide) h) fun t103 u104 => ?_
  refine V_iconst (κ := KX7_cell) (pc := 43) dX7_cell_43 ⟨by decide, by decide⟩ ?_
  refine V_callV (ci := 7) (T := TX7) (N := 24) rfl (by decide) (κ := KX7_cell) (pc := 44) (con_X7_right _ _ _ _) mth_X7_right rfl ⟨wd_1086, wp_35⟩ wd_1084 (st0 := []) rfl rfl (by decide) (Nat.le_of_ble_eq_true rfl) dX7_cell_44 (fun _ _ _ h => VX_out rfl (by decide) h) fun t105 u106 => ?_
  refine V_if_ne (κ := KX7_cell) (pc := 47) (tgt := 52) dX7_cell_47 rfl ?_ ?_
  · refine V_aload_n (κ := KX7_cell) (pc := 52) dX7_cell_52 0 rfl rfl ?_
    refine V_callV (ci := 7) (T := TX7) (N := 24) rfl (by decide) (κ := KX7_cell) (pc := 53) (con_X7_lays _ _) mth_X7_lays rfl ⟨wd_1217, wp_61⟩ wd_1215 (st0 := []) rfl rfl (by decide) (Nat.le_of_ble_eq_true rfl) dX7_cell_53 (fun _ _ _ h => VX_out rfl (by decide) h) fun _ u108 => ?_
    refine V_sipush (κ := KX7_cell) (pc := 56) dX7_cell_56 ⟨by decide, by decide⟩ (by decide) ?_
    refine V_iload_n (κ := KX7_cell) (pc := 59) dX7_cell_59 1 rfl ?_
    refine V_imul (κ := KX7_cell) (pc := 60) dX7_cell_60 ?_
    refine V_bipush (κ := KX7_cell) (pc := 61) dX7_cell_61 ⟨by decide, by decide⟩ (by decide) ?_
    refine V_iload_n (κ := KX7_cell) (pc := 63) dX7_cell_63 3 rfl ?_
    refine V_imul (κ := KX7_cell) (pc := 64) dX7_cell_64 ?_
    refine V_iadd (κ := KX7_cell) (pc := 65) dX7_cell_65 ?_
    refine V_iload_n (κ := KX7_cell) (pc := 66) dX7_cell_66 2 rfl ?_
    refine V_iadd (κ := KX7_cell) (pc := 67) dX7_cell_67 ?_
    refine V_LT fun x109 => ?_
    refine V_istore (κ := KX7_cell) (pc := 68) (lv' := [(5, (0, x109)), (0, (2, x0)), (1, (0, x1)), (2, (0, x2)), (3, (0, x3)), (4, (0, x4))]) dX7_cell_68 (by decide) rfl ?_
    refine V_iload (κ := KX7_cell) (pc := 70) dX7_cell_70 5 rfl ?_
    refine V_tsw (κ := KX7_cell) (pc := 72) (os := [32, 40, 48, 64]) (tgt := 152) dX7_cell_72 rfl rfl ?_ ⟨⟨104, rfl, ?_⟩, ⟨112, rfl, ?_⟩, ⟨120, rfl, ?_⟩, ⟨136, rfl, ?_⟩, trivial⟩
    · refine V_aload_n (κ := KX7_cell) (pc := 152) dX7_cell_152 1 rfl rfl ?_
      refine V_iload_n (κ := KX7_cell) (pc := 153) dX7_cell_153 2 rfl ?_
      refine V_iload_n (κ := KX7_cell) (pc := 154) dX7_cell_154 3 rfl ?_
      refine V_iload_n (κ := KX7_cell) (pc := 155) dX7_cell_155 4 rfl ?_
      refine V_callV (ci := 7) (T := TX7) (N := 24) rfl (by decide) (κ := KX7_cell) (pc := 156) (con_X7_isCleaned _ _ _ _ _) mth_X7_isCleaned rfl ⟨wd_1260, wp_70⟩ wd_1258 (st0 := []) rfl rfl (by decide) (Nat.le_of_ble_eq_true rfl) dX7_cell_156 (fun _ _ _ h => VX_out rfl (by decide) h) fun t110 u111 => ?_
      refine V_if_eq (κ := KX7_cell) (pc := 159) (tgt := 166) dX7_cell_159 rfl ?_ ?_
      · refine V_iconst (κ := KX7_cell) (pc := 166) dX7_cell_166 ⟨by decide, by decide⟩ ?_
        refine V_sub (lv' := []) [] rfl ?_
        exact VBX7_cell_167 _ _
      refine V_iconst (κ := KX7_cell) (pc := 162) dX7_cell_162 ⟨by decide, by decide⟩ ?_
      refine V_goto (κ := KX7_cell) (pc := 163) (tgt := 167) dX7_cell_163 rfl ?_
      refine V_sub (lv' := []) [] rfl ?_
      exact VBX7_cell_167 _ _
    · refine V_aload_n (κ := KX7_cell) (pc := 104) dX7_cell_104 1 rfl rfl ?_
      refine V_getf 7 (κ := KX7_cell) (pc := 105) rfl (by decide) rfl inX7 7 (by decide) wd_994 rfl (t := 2) rfl dX7_cell_105 fun t112 => ?_
      refine V_iload (κ := KX7_cell) (pc := 108) dX7_cell_108 0 rfl ?_
      refine V_iaload (κ := KX7_cell) (pc := 110) dX7_cell_110 fun t113 => ?_
      exact V_ireturn (κ := KX7_cell) (pc := 111) rfl rfl dX7_cell_111
    · refine V_aload_n (κ := KX7_cell) (pc := 112) dX7_cell_112 1 rfl rfl ?_
      refine V_getf 7 (κ := KX7_cell) (pc := 113) rfl (by decide) rfl inX7 8 (by decide) wd_995 rfl (t := 2) rfl dX7_cell_113 fun t114 => ?_
      refine V_iload (κ := KX7_cell) (pc := 116) dX7_cell_116 0 rfl ?_
      refine V_iaload (κ := KX7_cell) (pc := 118) dX7_cell_118 fun t115 => ?_
      exact V_ireturn (κ := KX7_cell) (pc := 119) rfl rfl dX7_cell_119
    · refine V_aload_n (κ := KX7_cell) (pc := 120) dX7_cell_120 1 rfl rfl ?_
      refine V_iload_n (κ := KX7_cell) (pc := 121) dX7_cell_121 2 rfl ?_
      refine V_iload_n (κ := KX7_cell) (pc := 122) dX7_cell_122 3 rfl ?_
      refine V_iload_n (κ := KX7_cell) (pc := 123) dX7_cell_123 4 rfl ?_
      refine V_callV (ci := 7) (T := TX7) (N := 24) rfl (by decide) (κ := KX7_cell) (pc := 124) (con_X7_hasDot _ _ _ _ _) mth_X7_hasDot rfl ⟨wd_1267, wp_71⟩ wd_1265 (st0 := []) rfl rfl (by decide) (Nat.le_of_ble_eq_true rfl) dX7_cell_124 (fun _ _ _ h => VX_out rfl (by decide) h) fun t116 u117 => ?_
      refine V_if_eq (κ := KX7_cell) (pc := 127) (tgt := 134) dX7_cell_127 rfl ?_ ?_
      · refine V_iconst (κ := KX7_cell) (pc := 134) dX7_cell_134 ⟨by decide, by decide⟩ ?_
        refine V_sub (lv' := []) [] rfl ?_
        exact VBX7_cell_135 _ _
      refine V_iconst (κ := KX7_cell) (pc := 130) dX7_cell_130 ⟨by decide, by decide⟩ ?_
      refine V_goto (κ := KX7_cell) (pc := 131) (tgt := 135) dX7_cell_131 rfl ?_
      refine V_sub (lv' := []) [] rfl ?_
      exact VBX7_cell_135 _ _
    · refine V_aload_n (κ := KX7_cell) (pc := 136) dX7_cell_136 1 rfl rfl ?_
      refine V_iload_n (κ := KX7_cell) (pc := 137) dX7_cell_137 2 rfl ?_
      refine V_iload_n (κ := KX7_cell) (pc := 138) dX7_cell_138 3 rfl ?_
      refine V_iload_n (κ := KX7_cell) (pc := 139) dX7_cell_139 4 rfl ?_
      refine V_callV (ci := 7) (T := TX7) (N := 24) rfl (by decide) (κ := KX7_cell) (pc := 140) (con_X7_isSpot _ _ _ _ _) mth_X7_isSpot rfl ⟨wd_1303, wp_78⟩ wd_1301 (st0 := []) rfl rfl (by decide) (Nat.le_of_ble_eq_true rfl) dX7_cell_140 (fun _ _ _ h => VX_out rfl (by decide) h) fun t118 u119 => ?_
      refine V_if_eq (κ := KX7_cell) (pc := 143) (tgt := 150) dX7_cell_143 rfl ?_ ?_
      · refine V_iconst (κ := KX7_cell) (pc := 150) dX7_cell_150 ⟨by decide, by decide⟩ ?_
        refine V_sub (lv' := []) [] rfl ?_
        exact VBX7_cell_151 _ _
      refine V_iconst (κ := KX7_cell) (pc := 146) dX7_cell_146 ⟨by decide, by decide⟩ ?_
      refine V_goto (κ := KX7_cell) (pc := 147) (tgt := 151) dX7_cell_147 rfl ?_
      refine V_sub (lv' := []) [] rfl ?_
      exact VBX7_cell_151 _ _
  refine V_sub (lv' := []) [] rfl ?_
  exact VBX7_cell_50 _
theorem VBX7_cell_27 {Γ : Gam} (x0 x1 x2 x3 x4 s0 : Int) (μ : Mem) : V Γ KX7_cell 27 [(0, (2, x0)), (1, (0, x1)), (2, (0, x2)), (3, (0, x3)), (4, (0, x4))] [(2, s0)] μ (BX7_cell_27 x0 x1 x2 x3 x4 s0 μ) := by
  unfold BX7_cell_27
  refine V_iconst (κ := KX7_cell) (pc := 27) dX7_cell_27 ⟨by decide, by decide⟩ ?_
  exact VBX7_cell_28 _ _ _ _ _ _ _ _
theorem VBX7_cell_0 {Γ : Gam} (x0 x1 x2 x3 x4 : Int) (μ : Mem) : V Γ KX7_cell 0 [(0, (2, x0)), (1, (0, x1)), (2, (0, x2)), (3, (0, x3)), (4, (0, x4))] [] μ (BX7_cell_0 x0 x1 x2 x3 x4 μ) := by
  unfold BX7_cell_0
  refine V_aload_n (κ := KX7_cell) (pc := 0) dX7_cell_0 0 rfl rfl ?_
  refine V_iconst (κ := KX7_cell) (pc := 1) dX7_cell_1 ⟨by decide, by decide⟩ ?_
  refine V_putf 7 (κ := KX7_cell) (pc := 2) rfl (by decide) rfl inX7 tyX7 tyX7_ok nmX7 0 (by decide) wd_987 rfl rfl (t := 0) rfl rfl dX7_cell_2 fun u101 => ?_
  refine V_aload_n (κ := KX7_cell) (pc := 5) dX7_cell_5 0 rfl rfl ?_
  refine V_aload_n (κ := KX7_cell) (pc := 6) dX7_cell_6 0 rfl rfl ?_
  refine V_iload_n (κ := KX7_cell) (pc := 7) dX7_cell_7 1 rfl ?_
  refine V_callV (ci := 7) (T := TX7) (N := 24) rfl (by decide) (κ := KX7_cell) (pc := 8) (con_X7_isPlate _ _ _) mth_X7_isPlate rfl ⟨wd_1291, wp_75⟩ wd_1289 (st0 := [(2, x0)]) rfl rfl (by decide) (Nat.le_of_ble_eq_true rfl) dX7_cell_8 (fun _ _ _ h => VX_out rfl (by decide) h) fun t102 u103 => ?_
  refine V_if_eq (κ := KX7_cell) (pc := 11) (tgt := 27) dX7_cell_11 rfl ?_ ?_
  · exact VBX7_cell_27 _ _ _ _ _ _ _
  refine V_aload_n (κ := KX7_cell) (pc := 14) dX7_cell_14 0 rfl rfl ?_
  refine V_iload_n (κ := KX7_cell) (pc := 15) dX7_cell_15 2 rfl ?_
  refine V_iload_n (κ := KX7_cell) (pc := 16) dX7_cell_16 3 rfl ?_
  refine V_callV (ci := 7) (T := TX7) (N := 24) rfl (by decide) (κ := KX7_cell) (pc := 17) (con_X7_isCell _ _ _ _) mth_X7_isCell rfl ⟨wd_1271, wp_72⟩ wd_1269 (st0 := [(2, x0)]) rfl rfl (by decide) (Nat.le_of_ble_eq_true rfl) dX7_cell_17 (fun _ _ _ h => VX_out rfl (by decide) h) fun t104 u105 => ?_
  refine V_if_eq (κ := KX7_cell) (pc := 20) (tgt := 27) dX7_cell_20 rfl ?_ ?_
  · exact VBX7_cell_27 _ _ _ _ _ _ _
  refine V_iconst (κ := KX7_cell) (pc := 23) dX7_cell_23 ⟨by decide, by decide⟩ ?_
  refine V_goto (κ := KX7_cell) (pc := 24) (tgt := 28) dX7_cell_24 rfl ?_
  exact VBX7_cell_28 _ _ _ _ _ _ _ _
theorem con_X7_cell (a0 a1 a2 a3 a4 : Int) (μ : Mem) : Con (7) yX7_cell (.code yX7_cell cX7_cell 6 (some .int)) 0 [(2, a0), (0, a1), (0, a2), (0, a3), (0, a4)] μ (FX7_cell a0 a1 a2 a3 a4 μ) := Con_intro KX7_cell (plainFor_of_name (by decide)) rfl (fun h => by cases h) (by decide) rfl (Nat.le_of_ble_eq_true rfl) (fun Γ => VBX7_cell_0 _ _ _ _ _ _)
abbrev KX7_cellsOf : Kap := (RX7, cX7_cellsOf, 5, 7, 0, (some .int), false, [])
theorem VBX7_cellsOf_53 {Γ : Gam} {k8 : Int → Int → Int → Int → Mem → Rz} (hk8 : ∀ (y0 y1 y2 y3 : Int) (ν : Mem), V Γ KX7_cellsOf 8 [(0, (2, y0)), (1, (0, y1)), (2, (0, y2)), (3, (0, y3))] [] ν (k8 y0 y1 y2 y3 ν)) {k19 : Int → Int → Int → Int → Int → Mem → Rz} (hk19 : ∀ (y0 y1 y2 y3 y4 : Int) (ν : Mem), V Γ KX7_cellsOf 19 [(0, (2, y0)), (1, (0, y1)), (2, (0, y2)), (3, (0, y3)), (4, (0, y4))] [] ν (k19 y0 y1 y2 y3 y4 ν)) (x0 x1 x3 x4 s0 s1 : Int) (μ : Mem) : V Γ KX7_cellsOf 53 [(0, (2, x0)), (1, (0, x1)), (3, (0, x3)), (4, (0, x4))] [(0, s0), (0, s1)] μ (BX7_cellsOf_53 k8 k19 x0 x1 x3 x4 s0 s1 μ) := by
  unfold BX7_cellsOf_53
  refine V_iadd (κ := KX7_cellsOf) (pc := 53) dX7_cellsOf_53 ?_
  refine V_LT fun x101 => ?_
  refine V_istore_n (κ := KX7_cellsOf) (pc := 54) (lv' := [(2, (0, x101)), (0, (2, x0)), (1, (0, x1)), (3, (0, x3)), (4, (0, x4))]) dX7_cellsOf_54 (by decide) rfl ?_
  refine V_iinc (κ := KX7_cellsOf) (pc := 55) (lv' := [(4, (0, w32 (x4 + 1))), (2, (0, x101)), (0, (2, x0)), (1, (0, x1)), (3, (0, x3))]) dX7_cellsOf_55 4 rfl (by decide) rfl ?_
  refine V_goto (κ := KX7_cellsOf) (pc := 58) (tgt := 19) dX7_cellsOf_58 rfl ?_
  refine V_sub (lv' := [(0, (2, x0)), (1, (0, x1)), (2, (0, x101)), (3, (0, x3)), (4, (0, w32 (x4 + 1)))]) [2, 3, 1, 4, 0] rfl ?_
  exact hk19 _ _ _ _ _ _
theorem VBX7_cellsOf_19 {Γ : Gam} {k8 : Int → Int → Int → Int → Mem → Rz} (hk8 : ∀ (y0 y1 y2 y3 : Int) (ν : Mem), V Γ KX7_cellsOf 8 [(0, (2, y0)), (1, (0, y1)), (2, (0, y2)), (3, (0, y3))] [] ν (k8 y0 y1 y2 y3 ν)) {k19 : Int → Int → Int → Int → Int → Mem → Rz} (hk19 : ∀ (y0 y1 y2 y3 y4 : Int) (ν : Mem), V Γ KX7_cellsOf 19 [(0, (2, y0)), (1, (0, y1)), (2, (0, y2)), (3, (0, y3)), (4, (0, y4))] [] ν (k19 y0 y1 y2 y3 y4 ν)) (x0 x1 x2 x3 x4 : Int) (μ : Mem) : V Γ KX7_cellsOf 19 [(0, (2, x0)), (1, (0, x1)), (2, (0, x2)), (3, (0, x3)), (4, (0, x4))] [] μ (BX7_cellsOf_19 k8 k19 x0 x1 x2 x3 x4 μ) := by
  unfold BX7_cellsOf_19
  refine V_iload (κ := KX7_cellsOf) (pc := 19) dX7_cellsOf_19 4 rfl ?_
  refine V_aload_n (κ := KX7_cellsOf) (pc := 21) dX7_cellsOf_21 0 rfl rfl ?_
  refine V_callV (ci := 7) (T := TX7) (N := 24) rfl (by decide) (κ := KX7_cellsOf) (pc := 22) (con_X7_wide _ _) mth_X7_wide rfl ⟨wd_1201, wp_57⟩ wd_1199 (st0 := [(0, x4)]) rfl rfl (by decide) (Nat.le_of_ble_eq_true rfl) dX7_cellsOf_22 (fun _ _ _ h => VX_out rfl (by decide) h) fun t101 u102 => ?_
  refine V_icmp_ge (κ := KX7_cellsOf) (pc := 25) (tgt := 61) dX7_cellsOf_25 rfl ?_ ?_
  · refine V_iinc (κ := KX7_cellsOf) (pc := 61) (lv' := [(3, (0, w32 (x3 + 1))), (0, (2, x0)), (1, (0, x1)), (2, (0, x2)), (4, (0, x4))]) dX7_cellsOf_61 3 rfl (by decide) rfl ?_
    refine V_goto (κ := KX7_cellsOf) (pc := 64) (tgt := 8) dX7_cellsOf_64 rfl ?_
    refine V_sub (lv' := [(0, (2, x0)), (1, (0, x1)), (2, (0, x2)), (3, (0, w32 (x3 + 1)))]) [1, 2, 3, 0] rfl ?_
    exact hk8 _ _ _ _ _
  refine V_iload_n (κ := KX7_cellsOf) (pc := 28) dX7_cellsOf_28 2 rfl ?_
  refine V_aload_n (κ := KX7_cellsOf) (pc := 29) dX7_cellsOf_29 0 rfl rfl ?_
  refine V_getf 7 (κ := KX7_cellsOf) (pc := 30) rfl (by decide) rfl inX7 9 (by decide) wd_996 rfl (t := 2) rfl dX7_cellsOf_30 fun t103 => ?_
  refine V_bipush (κ := KX7_cellsOf) (pc := 33) dX7_cellsOf_33 ⟨by decide, by decide⟩ (by decide) ?_
  refine V_iload_n (κ := KX7_cellsOf) (pc := 35) dX7_cellsOf_35 3 rfl ?_
  refine V_imul (κ := KX7_cellsOf) (pc := 36) dX7_cellsOf_36 ?_
  refine V_iload (κ := KX7_cellsOf) (pc := 37) dX7_cellsOf_37 4 rfl ?_
  refine V_iadd (κ := KX7_cellsOf) (pc := 39) dX7_cellsOf_39 ?_
  refine V_iaload (κ := KX7_cellsOf) (pc := 40) dX7_cellsOf_40 fun t104 => ?_
  refine V_callS (κ := KX7_cellsOf) (pc := 41) (con_X7_bits _ _) mth_X7_bits wd_1263 wd_1262 (st0 := [(0, x2)]) rfl rfl (by decide) (Nat.le_of_ble_eq_true rfl) dX7_cellsOf_41 (fun _ _ _ h => VX_out rfl (by decide) h) fun t105 u106 => ?_
  refine V_iload_n (κ := KX7_cellsOf) (pc := 44) dX7_cellsOf_44 1 rfl ?_
  refine V_icmp_ne (κ := KX7_cellsOf) (pc := 45) (tgt := 52) dX7_cellsOf_45 rfl ?_ ?_
  · refine V_iconst (κ := KX7_cellsOf) (pc := 52) dX7_cellsOf_52 ⟨by decide, by decide⟩ ?_
    refine V_sub (lv' := [(0, (2, x0)), (1, (0, x1)), (3, (0, x3)), (4, (0, x4))]) [0, 1, 3, 4] rfl ?_
    exact VBX7_cellsOf_53 hk8 hk19 _ _ _ _ _ _ _
  refine V_iconst (κ := KX7_cellsOf) (pc := 48) dX7_cellsOf_48 ⟨by decide, by decide⟩ ?_
  refine V_goto (κ := KX7_cellsOf) (pc := 49) (tgt := 53) dX7_cellsOf_49 rfl ?_
  refine V_sub (lv' := [(0, (2, x0)), (1, (0, x1)), (3, (0, x3)), (4, (0, x4))]) [0, 1, 3, 4] rfl ?_
  exact VBX7_cellsOf_53 hk8 hk19 _ _ _ _ _ _ _
theorem VLX7_cellsOf_19 {Γ : Gam} {k8 : Int → Int → Int → Int → Mem → Rz} (hk8 : ∀ (y0 y1 y2 y3 : Int) (ν : Mem), V Γ KX7_cellsOf 8 [(0, (2, y0)), (1, (0, y1)), (2, (0, y2)), (3, (0, y3))] [] ν (k8 y0 y1 y2 y3 ν)) : ∀ (n : Nat) (x0 x1 x2 x3 x4 : Int) (μ : Mem), V Γ KX7_cellsOf 19 [(0, (2, x0)), (1, (0, x1)), (2, (0, x2)), (3, (0, x3)), (4, (0, x4))] [] μ (LX7_cellsOf_19 k8 n x0 x1 x2 x3 x4 μ)
  | 0, _, _, _, _, _, _ => V_none
  | n + 1, x0, x1, x2, x3, x4, μ => VBX7_cellsOf_19 hk8 (fun y0 y1 y2 y3 y4 ν => VLX7_cellsOf_19 hk8 n y0 y1 y2 y3 y4 ν) x0 x1 x2 x3 x4 μ
theorem VBX7_cellsOf_8 {Γ : Gam} {k8 : Int → Int → Int → Int → Mem → Rz} (hk8 : ∀ (y0 y1 y2 y3 : Int) (ν : Mem), V Γ KX7_cellsOf 8 [(0, (2, y0)), (1, (0, y1)), (2, (0, y2)), (3, (0, y3))] [] ν (k8 y0 y1 y2 y3 ν)) (x0 x1 x2 x3 : Int) (μ : Mem) : V Γ KX7_cellsOf 8 [(0, (2, x0)), (1, (0, x1)), (2, (0, x2)), (3, (0, x3))] [] μ (BX7_cellsOf_8 k8 x0 x1 x2 x3 μ) := by
  unfold BX7_cellsOf_8
  refine V_iload_n (κ := KX7_cellsOf) (pc := 8) dX7_cellsOf_8 3 rfl ?_
  refine V_aload_n (κ := KX7_cellsOf) (pc := 9) dX7_cellsOf_9 0 rfl rfl ?_
  refine V_callV (ci := 7) (T := TX7) (N := 24) rfl (by decide) (κ := KX7_cellsOf) (pc := 10) (con_X7_high _ _) mth_X7_high rfl ⟨wd_1205, wp_58⟩ wd_1203 (st0 := [(0, x3)]) rfl rfl (by decide) (Nat.le_of_ble_eq_true rfl) dX7_cellsOf_10 (fun _ _ _ h => VX_out rfl (by decide) h) fun t101 u102 => ?_
  refine V_icmp_ge (κ := KX7_cellsOf) (pc := 13) (tgt := 67) dX7_cellsOf_13 rfl ?_ ?_
  · refine V_iload_n (κ := KX7_cellsOf) (pc := 67) dX7_cellsOf_67 2 rfl ?_
    exact V_ireturn (κ := KX7_cellsOf) (pc := 68) rfl rfl dX7_cellsOf_68
  refine V_iconst (κ := KX7_cellsOf) (pc := 16) dX7_cellsOf_16 ⟨by decide, by decide⟩ ?_
  refine V_istore (κ := KX7_cellsOf) (pc := 17) (lv' := [(4, (0, 0)), (0, (2, x0)), (1, (0, x1)), (2, (0, x2)), (3, (0, x3))]) dX7_cellsOf_17 (by decide) rfl ?_
  refine V_sub (lv' := [(0, (2, x0)), (1, (0, x1)), (2, (0, x2)), (3, (0, x3)), (4, (0, 0))]) [1, 2, 3, 4, 0] rfl ?_
  exact VLX7_cellsOf_19 hk8 FU _ _ _ _ _ _
theorem VLX7_cellsOf_8 {Γ : Gam} : ∀ (n : Nat) (x0 x1 x2 x3 : Int) (μ : Mem), V Γ KX7_cellsOf 8 [(0, (2, x0)), (1, (0, x1)), (2, (0, x2)), (3, (0, x3))] [] μ (LX7_cellsOf_8 n x0 x1 x2 x3 μ)
  | 0, _, _, _, _, _ => V_none
  | n + 1, x0, x1, x2, x3, μ => VBX7_cellsOf_8 (fun y0 y1 y2 y3 ν => VLX7_cellsOf_8 n y0 y1 y2 y3 ν) x0 x1 x2 x3 μ
theorem VBX7_cellsOf_0 {Γ : Gam} (x0 x1 : Int) (μ : Mem) : V Γ KX7_cellsOf 0 [(0, (2, x0)), (1, (0, x1))] [] μ (BX7_cellsOf_0 x0 x1 μ) := by
  unfold BX7_cellsOf_0
  refine V_aload_n (κ := KX7_cellsOf) (pc := 0) dX7_cellsOf_0 0 rfl rfl ?_
  refine V_callV (ci := 7) (T := TX7) (N := 24) rfl (by decide) (κ := KX7_cellsOf) (pc := 1) (con_X7_lays _ _) mth_X7_lays rfl ⟨wd_1217, wp_61⟩ wd_1215 (st0 := []) rfl rfl (by decide) (Nat.le_of_ble_eq_true rfl) dX7_cellsOf_1 (fun _ _ _ h => VX_out rfl (by decide) h) fun _ u102 => ?_
  refine V_iconst (κ := KX7_cellsOf) (pc := 4) dX7_cellsOf_4 ⟨by decide, by decide⟩ ?_
  refine V_istore_n (κ := KX7_cellsOf) (pc := 5) (lv' := [(2, (0, 0)), (0, (2, x0)), (1, (0, x1))]) dX7_cellsOf_5 (by decide) rfl ?_
  refine V_iconst (κ := KX7_cellsOf) (pc := 6) dX7_cellsOf_6 ⟨by decide, by decide⟩ ?_
  refine V_istore_n (κ := KX7_cellsOf) (pc := 7) (lv' := [(3, (0, 0)), (2, (0, 0)), (0, (2, x0)), (1, (0, x1))]) dX7_cellsOf_7 (by decide) rfl ?_
  refine V_sub (lv' := [(0, (2, x0)), (1, (0, x1)), (2, (0, 0)), (3, (0, 0))]) [2, 3, 1, 0] rfl ?_
  exact VLX7_cellsOf_8 FU _ _ _ _ _
theorem con_X7_cellsOf (a0 a1 : Int) (μ : Mem) : Con (7) yX7_cellsOf (.code yX7_cellsOf cX7_cellsOf 5 (some .int)) 0 [(2, a0), (0, a1)] μ (FX7_cellsOf a0 a1 μ) := Con_intro KX7_cellsOf (plainFor_of_name (by decide)) rfl (fun h => by cases h) (by decide) rfl (Nat.le_of_ble_eq_true rfl) (fun Γ => VBX7_cellsOf_0 _ _ _)
abbrev KX7_cellsWith : Kap := (RX7, cX7_cellsWith, 2, 8, 0, (some .int), false, [])
theorem VBX7_cellsWith_28 {Γ : Gam} (s0 : Int) (μ : Mem) : V Γ KX7_cellsWith 28 [] [(0, s0)] μ (BX7_cellsWith_28 s0 μ) := by
  unfold BX7_cellsWith_28
  exact V_ireturn (κ := KX7_cellsWith) (pc := 28) rfl rfl dX7_cellsWith_28
theorem VBX7_cellsWith_0 {Γ : Gam} (x0 x1 : Int) (μ : Mem) : V Γ KX7_cellsWith 0 [(0, (2, x0)), (1, (0, x1))] [] μ (BX7_cellsWith_0 x0 x1 μ) := by
  unfold BX7_cellsWith_0
  refine V_aload_n (κ := KX7_cellsWith) (pc := 0) dX7_cellsWith_0 0 rfl rfl ?_
  refine V_iconst (κ := KX7_cellsWith) (pc := 1) dX7_cellsWith_1 ⟨by decide, by decide⟩ ?_
  refine V_putf 7 (κ := KX7_cellsWith) (pc := 2) rfl (by decide) rfl inX7 tyX7 tyX7_ok nmX7 0 (by decide) wd_987 rfl rfl (t := 0) rfl rfl dX7_cellsWith_2 fun u101 => ?_
  refine V_aload_n (κ := KX7_cellsWith) (pc := 5) dX7_cellsWith_5 0 rfl rfl ?_
  refine V_iload_n (κ := KX7_cellsWith) (pc := 6) dX7_cellsWith_6 1 rfl ?_
  refine V_iconst (κ := KX7_cellsWith) (pc := 7) dX7_cellsWith_7 ⟨by decide, by decide⟩ ?_
  refine V_iconst (κ := KX7_cellsWith) (pc := 8) dX7_cellsWith_8 ⟨by decide, by decide⟩ ?_
  refine V_callS (κ := KX7_cellsWith) (pc := 9) (con_X7_isIn _ _ _ _) mth_X7_isIn wd_1082 wd_1081 (st0 := [(2, x0)]) rfl rfl (by decide) (Nat.le_of_ble_eq_true rfl) dX7_cellsWith_9 (fun _ _ _ h => VX_out rfl (by decide) h) fun t102 u103 => ?_
  refine V_iconst (κ := KX7_cellsWith) (pc := 12) dX7_cellsWith_12 ⟨by decide, by decide⟩ ?_
  refine V_callV (ci := 7) (T := TX7) (N := 24) rfl (by decide) (κ := KX7_cellsWith) (pc := 13) (con_X7_right _ _ _ _) mth_X7_right rfl ⟨wd_1086, wp_35⟩ wd_1084 (st0 := []) rfl rfl (by decide) (Nat.le_of_ble_eq_true rfl) dX7_cellsWith_13 (fun _ _ _ h => VX_out rfl (by decide) h) fun t104 u105 => ?_
  refine V_if_eq (κ := KX7_cellsWith) (pc := 16) (tgt := 27) dX7_cellsWith_16 rfl ?_ ?_
  · refine V_iconst (κ := KX7_cellsWith) (pc := 27) dX7_cellsWith_27 ⟨by decide, by decide⟩ ?_
    refine V_sub (lv' := []) [] rfl ?_
    exact VBX7_cellsWith_28 _ _
  refine V_aload_n (κ := KX7_cellsWith) (pc := 19) dX7_cellsWith_19 0 rfl rfl ?_
  refine V_iload_n (κ := KX7_cellsWith) (pc := 20) dX7_cellsWith_20 1 rfl ?_
  refine V_callV (ci := 7) (T := TX7) (N := 24) rfl (by decide) (κ := KX7_cellsWith) (pc := 21) (con_X7_cellsOf _ _ _) mth_X7_cellsOf rfl ⟨wd_1275, wp_73⟩ wd_1273 (st0 := []) rfl rfl (by decide) (Nat.le_of_ble_eq_true rfl) dX7_cellsWith_21 (fun _ _ _ h => VX_out rfl (by decide) h) fun t106 u107 => ?_
  refine V_goto (κ := KX7_cellsWith) (pc := 24) (tgt := 28) dX7_cellsWith_24 rfl ?_
  refine V_sub (lv' := []) [] rfl ?_
  exact VBX7_cellsWith_28 _ _
theorem con_X7_cellsWith (a0 a1 : Int) (μ : Mem) : Con (8) yX7_cellsWith (.code yX7_cellsWith cX7_cellsWith 2 (some .int)) 0 [(2, a0), (0, a1)] μ (FX7_cellsWith a0 a1 μ) := Con_intro KX7_cellsWith (plainFor_of_name (by decide)) rfl (fun h => by cases h) (by decide) rfl (Nat.le_of_ble_eq_true rfl) (fun Γ => VBX7_cellsWith_0 _ _ _)
abbrev KX7_joins : Kap := (RX7, cX7_joins, 4, 1, 1, (some .long), false, [])
theorem VBX7_joins_0 {Γ : Gam} (x0 x2 : Int) (μ : Mem) : V Γ KX7_joins 0 [(0, (1, x0)), (2, (1, x2))] [] μ (BX7_joins_0 x0 x2 μ) := by
  unfold BX7_joins_0
  refine V_ldc2 (κ := KX7_joins) (pc := 0) (z := 31) dX7_joins_0 wd_1432 ⟨by decide, by decide⟩ (by decide) ?_
  refine V_lload_n (κ := KX7_joins) (pc := 3) dX7_joins_3 0 rfl ?_
  refine V_lmul (κ := KX7_joins) (pc := 4) dX7_joins_4 ?_
  refine V_lload_n (κ := KX7_joins) (pc := 5) dX7_joins_5 1 rfl ?_
  refine V_ladd (κ := KX7_joins) (pc := 6) dX7_joins_6 ?_
  exact V_lreturn (κ := KX7_joins) (pc := 7) rfl rfl dX7_joins_7
theorem con_X7_joins (a0 a2 : Int) (μ : Mem) : Con (1) yX7_joins (.code yX7_joins cX7_joins 4 (some .long)) 1 [(1, a0), (1, a2)] μ (FX7_joins a0 a2 μ) := Con_intro KX7_joins (plainFor_of_name (by decide)) rfl (fun h => by cases h) (by decide) rfl (Nat.le_of_ble_eq_true rfl) (fun Γ => VBX7_joins_0 _ _ _)
abbrev KX7_dots : Kap := (RX7, cX7_dots, 5, 7, 0, (some .int), false, [])
theorem VBX7_dots_45 {Γ : Gam} {k8 : Int → Int → Int → Int → Mem → Rz} (hk8 : ∀ (y0 y1 y2 y3 : Int) (ν : Mem), V Γ KX7_dots 8 [(0, (2, y0)), (1, (0, y1)), (2, (0, y2)), (3, (0, y3))] [] ν (k8 y0 y1 y2 y3 ν)) {k19 : Int → Int → Int → Int → Int → Mem → Rz} (hk19 : ∀ (y0 y1 y2 y3 y4 : Int) (ν : Mem), V Γ KX7_dots 19 [(0, (2, y0)), (1, (0, y1)), (2, (0, y2)), (3, (0, y3)), (4, (0, y4))] [] ν (k19 y0 y1 y2 y3 y4 ν)) (x0 x1 x3 x4 s0 s1 : Int) (μ : Mem) : V Γ KX7_dots 45 [(0, (2, x0)), (1, (0, x1)), (3, (0, x3)), (4, (0, x4))] [(0, s0), (0, s1)] μ (BX7_dots_45 k8 k19 x0 x1 x3 x4 s0 s1 μ) := by
  unfold BX7_dots_45
  refine V_iadd (κ := KX7_dots) (pc := 45) dX7_dots_45 ?_
  refine V_LT fun x101 => ?_
  refine V_istore_n (κ := KX7_dots) (pc := 46) (lv' := [(2, (0, x101)), (0, (2, x0)), (1, (0, x1)), (3, (0, x3)), (4, (0, x4))]) dX7_dots_46 (by decide) rfl ?_
  refine V_iinc (κ := KX7_dots) (pc := 47) (lv' := [(4, (0, w32 (x4 + 1))), (2, (0, x101)), (0, (2, x0)), (1, (0, x1)), (3, (0, x3))]) dX7_dots_47 4 rfl (by decide) rfl ?_
  refine V_goto (κ := KX7_dots) (pc := 50) (tgt := 19) dX7_dots_50 rfl ?_
  refine V_sub (lv' := [(0, (2, x0)), (1, (0, x1)), (2, (0, x101)), (3, (0, x3)), (4, (0, w32 (x4 + 1)))]) [2, 3, 1, 4, 0] rfl ?_
  exact hk19 _ _ _ _ _ _
theorem VBX7_dots_19 {Γ : Gam} {k8 : Int → Int → Int → Int → Mem → Rz} (hk8 : ∀ (y0 y1 y2 y3 : Int) (ν : Mem), V Γ KX7_dots 8 [(0, (2, y0)), (1, (0, y1)), (2, (0, y2)), (3, (0, y3))] [] ν (k8 y0 y1 y2 y3 ν)) {k19 : Int → Int → Int → Int → Int → Mem → Rz} (hk19 : ∀ (y0 y1 y2 y3 y4 : Int) (ν : Mem), V Γ KX7_dots 19 [(0, (2, y0)), (1, (0, y1)), (2, (0, y2)), (3, (0, y3)), (4, (0, y4))] [] ν (k19 y0 y1 y2 y3 y4 ν)) (x0 x1 x2 x3 x4 : Int) (μ : Mem) : V Γ KX7_dots 19 [(0, (2, x0)), (1, (0, x1)), (2, (0, x2)), (3, (0, x3)), (4, (0, x4))] [] μ (BX7_dots_19 k8 k19 x0 x1 x2 x3 x4 μ) := by
  unfold BX7_dots_19
  refine V_iload (κ := KX7_dots) (pc := 19) dX7_dots_19 4 rfl ?_
  refine V_aload_n (κ := KX7_dots) (pc := 21) dX7_dots_21 0 rfl rfl ?_
  refine V_callV (ci := 7) (T := TX7) (N := 24) rfl (by decide) (κ := KX7_dots) (pc := 22) (con_X7_wide _ _) mth_X7_wide rfl ⟨wd_1201, wp_57⟩ wd_1199 (st0 := [(0, x4)]) rfl rfl (by decide) (Nat.le_of_ble_eq_true rfl) dX7_dots_22 (fun _ _ _ h => VX_out rfl (by decide) h) fun t101 u102 => ?_
  refine V_icmp_ge (κ := KX7_dots) (pc := 25) (tgt := 53) dX7_dots_25 rfl ?_ ?_
  · refine V_iinc (κ := KX7_dots) (pc := 53) (lv' := [(3, (0, w32 (x3 + 1))), (0, (2, x0)), (1, (0, x1)), (2, (0, x2)), (4, (0, x4))]) dX7_dots_53 3 rfl (by decide) rfl ?_
    refine V_goto (κ := KX7_dots) (pc := 56) (tgt := 8) dX7_dots_56 rfl ?_
    refine V_sub (lv' := [(0, (2, x0)), (1, (0, x1)), (2, (0, x2)), (3, (0, w32 (x3 + 1)))]) [1, 2, 3, 0] rfl ?_
    exact hk8 _ _ _ _ _
  refine V_iload_n (κ := KX7_dots) (pc := 28) dX7_dots_28 2 rfl ?_
  refine V_aload_n (κ := KX7_dots) (pc := 29) dX7_dots_29 0 rfl rfl ?_
  refine V_iload_n (κ := KX7_dots) (pc := 30) dX7_dots_30 1 rfl ?_
  refine V_iload (κ := KX7_dots) (pc := 31) dX7_dots_31 4 rfl ?_
  refine V_iload_n (κ := KX7_dots) (pc := 33) dX7_dots_33 3 rfl ?_
  refine V_callV (ci := 7) (T := TX7) (N := 24) rfl (by decide) (κ := KX7_dots) (pc := 34) (con_X7_hasDot _ _ _ _ _) mth_X7_hasDot rfl ⟨wd_1267, wp_71⟩ wd_1265 (st0 := [(0, x2)]) rfl rfl (by decide) (Nat.le_of_ble_eq_true rfl) dX7_dots_34 (fun _ _ _ h => VX_out rfl (by decide) h) fun t103 u104 => ?_
  refine V_if_eq (κ := KX7_dots) (pc := 37) (tgt := 44) dX7_dots_37 rfl ?_ ?_
  · refine V_iconst (κ := KX7_dots) (pc := 44) dX7_dots_44 ⟨by decide, by decide⟩ ?_
    refine V_sub (lv' := [(0, (2, x0)), (1, (0, x1)), (3, (0, x3)), (4, (0, x4))]) [0, 1, 3, 4] rfl ?_
    exact VBX7_dots_45 hk8 hk19 _ _ _ _ _ _ _
  refine V_iconst (κ := KX7_dots) (pc := 40) dX7_dots_40 ⟨by decide, by decide⟩ ?_
  refine V_goto (κ := KX7_dots) (pc := 41) (tgt := 45) dX7_dots_41 rfl ?_
  refine V_sub (lv' := [(0, (2, x0)), (1, (0, x1)), (3, (0, x3)), (4, (0, x4))]) [0, 1, 3, 4] rfl ?_
  exact VBX7_dots_45 hk8 hk19 _ _ _ _ _ _ _
theorem VLX7_dots_19 {Γ : Gam} {k8 : Int → Int → Int → Int → Mem → Rz} (hk8 : ∀ (y0 y1 y2 y3 : Int) (ν : Mem), V Γ KX7_dots 8 [(0, (2, y0)), (1, (0, y1)), (2, (0, y2)), (3, (0, y3))] [] ν (k8 y0 y1 y2 y3 ν)) : ∀ (n : Nat) (x0 x1 x2 x3 x4 : Int) (μ : Mem), V Γ KX7_dots 19 [(0, (2, x0)), (1, (0, x1)), (2, (0, x2)), (3, (0, x3)), (4, (0, x4))] [] μ (LX7_dots_19 k8 n x0 x1 x2 x3 x4 μ)
  | 0, _, _, _, _, _, _ => V_none
  | n + 1, x0, x1, x2, x3, x4, μ => VBX7_dots_19 hk8 (fun y0 y1 y2 y3 y4 ν => VLX7_dots_19 hk8 n y0 y1 y2 y3 y4 ν) x0 x1 x2 x3 x4 μ
theorem VBX7_dots_8 {Γ : Gam} {k8 : Int → Int → Int → Int → Mem → Rz} (hk8 : ∀ (y0 y1 y2 y3 : Int) (ν : Mem), V Γ KX7_dots 8 [(0, (2, y0)), (1, (0, y1)), (2, (0, y2)), (3, (0, y3))] [] ν (k8 y0 y1 y2 y3 ν)) (x0 x1 x2 x3 : Int) (μ : Mem) : V Γ KX7_dots 8 [(0, (2, x0)), (1, (0, x1)), (2, (0, x2)), (3, (0, x3))] [] μ (BX7_dots_8 k8 x0 x1 x2 x3 μ) := by
  unfold BX7_dots_8
  refine V_iload_n (κ := KX7_dots) (pc := 8) dX7_dots_8 3 rfl ?_
  refine V_aload_n (κ := KX7_dots) (pc := 9) dX7_dots_9 0 rfl rfl ?_
  refine V_callV (ci := 7) (T := TX7) (N := 24) rfl (by decide) (κ := KX7_dots) (pc := 10) (con_X7_high _ _) mth_X7_high rfl ⟨wd_1205, wp_58⟩ wd_1203 (st0 := [(0, x3)]) rfl rfl (by decide) (Nat.le_of_ble_eq_true rfl) dX7_dots_10 (fun _ _ _ h => VX_out rfl (by decide) h) fun t101 u102 => ?_
  refine V_icmp_ge (κ := KX7_dots) (pc := 13) (tgt := 59) dX7_dots_13 rfl ?_ ?_
  · refine V_iload_n (κ := KX7_dots) (pc := 59) dX7_dots_59 2 rfl ?_
    exact V_ireturn (κ := KX7_dots) (pc := 60) rfl rfl dX7_dots_60
  refine V_iconst (κ := KX7_dots) (pc := 16) dX7_dots_16 ⟨by decide, by decide⟩ ?_
  refine V_istore (κ := KX7_dots) (pc := 17) (lv' := [(4, (0, 0)), (0, (2, x0)), (1, (0, x1)), (2, (0, x2)), (3, (0, x3))]) dX7_dots_17 (by decide) rfl ?_
  refine V_sub (lv' := [(0, (2, x0)), (1, (0, x1)), (2, (0, x2)), (3, (0, x3)), (4, (0, 0))]) [1, 2, 3, 4, 0] rfl ?_
  exact VLX7_dots_19 hk8 FU _ _ _ _ _ _
theorem VLX7_dots_8 {Γ : Gam} : ∀ (n : Nat) (x0 x1 x2 x3 : Int) (μ : Mem), V Γ KX7_dots 8 [(0, (2, x0)), (1, (0, x1)), (2, (0, x2)), (3, (0, x3))] [] μ (LX7_dots_8 n x0 x1 x2 x3 μ)
  | 0, _, _, _, _, _ => V_none
  | n + 1, x0, x1, x2, x3, μ => VBX7_dots_8 (fun y0 y1 y2 y3 ν => VLX7_dots_8 n y0 y1 y2 y3 ν) x0 x1 x2 x3 μ
theorem VBX7_dots_0 {Γ : Gam} (x0 x1 : Int) (μ : Mem) : V Γ KX7_dots 0 [(0, (2, x0)), (1, (0, x1))] [] μ (BX7_dots_0 x0 x1 μ) := by
  unfold BX7_dots_0
  refine V_aload_n (κ := KX7_dots) (pc := 0) dX7_dots_0 0 rfl rfl ?_
  refine V_callV (ci := 7) (T := TX7) (N := 24) rfl (by decide) (κ := KX7_dots) (pc := 1) (con_X7_lays _ _) mth_X7_lays rfl ⟨wd_1217, wp_61⟩ wd_1215 (st0 := []) rfl rfl (by decide) (Nat.le_of_ble_eq_true rfl) dX7_dots_1 (fun _ _ _ h => VX_out rfl (by decide) h) fun _ u102 => ?_
  refine V_iconst (κ := KX7_dots) (pc := 4) dX7_dots_4 ⟨by decide, by decide⟩ ?_
  refine V_istore_n (κ := KX7_dots) (pc := 5) (lv' := [(2, (0, 0)), (0, (2, x0)), (1, (0, x1))]) dX7_dots_5 (by decide) rfl ?_
  refine V_iconst (κ := KX7_dots) (pc := 6) dX7_dots_6 ⟨by decide, by decide⟩ ?_
  refine V_istore_n (κ := KX7_dots) (pc := 7) (lv' := [(3, (0, 0)), (2, (0, 0)), (0, (2, x0)), (1, (0, x1))]) dX7_dots_7 (by decide) rfl ?_
  refine V_sub (lv' := [(0, (2, x0)), (1, (0, x1)), (2, (0, 0)), (3, (0, 0))]) [2, 3, 1, 0] rfl ?_
  exact VLX7_dots_8 FU _ _ _ _ _
theorem con_X7_dots (a0 a1 : Int) (μ : Mem) : Con (7) yX7_dots (.code yX7_dots cX7_dots 5 (some .int)) 0 [(2, a0), (0, a1)] μ (FX7_dots a0 a1 μ) := Con_intro KX7_dots (plainFor_of_name (by decide)) rfl (fun h => by cases h) (by decide) rfl (Nat.le_of_ble_eq_true rfl) (fun Γ => VBX7_dots_0 _ _ _)
abbrev KX7_allDots : Kap := (RX7, cX7_allDots, 3, 8, 0, (some .int), false, [])
theorem VBX7_allDots_4 {Γ : Gam} {k4 : Int → Int → Int → Mem → Rz} (hk4 : ∀ (y0 y1 y2 : Int) (ν : Mem), V Γ KX7_allDots 4 [(0, (2, y0)), (1, (0, y1)), (2, (0, y2))] [] ν (k4 y0 y1 y2 ν)) (x0 x1 x2 : Int) (μ : Mem) : V Γ KX7_allDots 4 [(0, (2, x0)), (1, (0, x1)), (2, (0, x2))] [] μ (BX7_allDots_4 k4 x0 x1 x2 μ) := by
  unfold BX7_allDots_4
  refine V_iload_n (κ := KX7_allDots) (pc := 4) dX7_allDots_4 2 rfl ?_
  refine V_aload_n (κ := KX7_allDots) (pc := 5) dX7_allDots_5 0 rfl rfl ?_
  refine V_callV (ci := 7) (T := TX7) (N := 24) rfl (by decide) (κ := KX7_allDots) (pc := 6) (con_X7_plates _ _) mth_X7_plates rfl ⟨wd_1189, wp_55⟩ wd_1187 (st0 := [(0, x2)]) rfl rfl (by decide) (Nat.le_of_ble_eq_true rfl) dX7_allDots_6 (fun _ _ _ h => VX_out rfl (by decide) h) fun t101 u102 => ?_
  refine V_icmp_ge (κ := KX7_allDots) (pc := 9) (tgt := 26) dX7_allDots_9 rfl ?_ ?_
  · refine V_iload_n (κ := KX7_allDots) (pc := 26) dX7_allDots_26 1 rfl ?_
    exact V_ireturn (κ := KX7_allDots) (pc := 27) rfl rfl dX7_allDots_27
  refine V_iload_n (κ := KX7_allDots) (pc := 12) dX7_allDots_12 1 rfl ?_
  refine V_aload_n (κ := KX7_allDots) (pc := 13) dX7_allDots_13 0 rfl rfl ?_
  refine V_iload_n (κ := KX7_allDots) (pc := 14) dX7_allDots_14 2 rfl ?_
  refine V_callV (ci := 7) (T := TX7) (N := 24) rfl (by decide) (κ := KX7_allDots) (pc := 15) (con_X7_dots _ _ _) mth_X7_dots rfl ⟨wd_1213, wp_60⟩ wd_1211 (st0 := [(0, x1)]) rfl rfl (by decide) (Nat.le_of_ble_eq_true rfl) dX7_allDots_15 (fun _ _ _ h => VX_out rfl (by decide) h) fun t103 u104 => ?_
  refine V_iadd (κ := KX7_allDots) (pc := 18) dX7_allDots_18 ?_
  refine V_LT fun x105 => ?_
  refine V_istore_n (κ := KX7_allDots) (pc := 19) (lv' := [(1, (0, x105)), (0, (2, x0)), (2, (0, x2))]) dX7_allDots_19 (by decide) rfl ?_
  refine V_iinc (κ := KX7_allDots) (pc := 20) (lv' := [(2, (0, w32 (x2 + 1))), (1, (0, x105)), (0, (2, x0))]) dX7_allDots_20 2 rfl (by decide) rfl ?_
  refine V_goto (κ := KX7_allDots) (pc := 23) (tgt := 4) dX7_allDots_23 rfl ?_
  refine V_sub (lv' := [(0, (2, x0)), (1, (0, x105)), (2, (0, w32 (x2 + 1)))]) [2, 1, 0] rfl ?_
  exact hk4 _ _ _ _
theorem VLX7_allDots_4 {Γ : Gam} : ∀ (n : Nat) (x0 x1 x2 : Int) (μ : Mem), V Γ KX7_allDots 4 [(0, (2, x0)), (1, (0, x1)), (2, (0, x2))] [] μ (LX7_allDots_4 n x0 x1 x2 μ)
  | 0, _, _, _, _ => V_none
  | n + 1, x0, x1, x2, μ => VBX7_allDots_4 (fun y0 y1 y2 ν => VLX7_allDots_4 n y0 y1 y2 ν) x0 x1 x2 μ
theorem VBX7_allDots_0 {Γ : Gam} (x0 : Int) (μ : Mem) : V Γ KX7_allDots 0 [(0, (2, x0))] [] μ (BX7_allDots_0 x0 μ) := by
  unfold BX7_allDots_0
  refine V_iconst (κ := KX7_allDots) (pc := 0) dX7_allDots_0 ⟨by decide, by decide⟩ ?_
  refine V_istore_n (κ := KX7_allDots) (pc := 1) (lv' := [(1, (0, 0)), (0, (2, x0))]) dX7_allDots_1 (by decide) rfl ?_
  refine V_iconst (κ := KX7_allDots) (pc := 2) dX7_allDots_2 ⟨by decide, by decide⟩ ?_
  refine V_istore_n (κ := KX7_allDots) (pc := 3) (lv' := [(2, (0, 0)), (1, (0, 0)), (0, (2, x0))]) dX7_allDots_3 (by decide) rfl ?_
  refine V_sub (lv' := [(0, (2, x0)), (1, (0, 0)), (2, (0, 0))]) [2, 1, 0] rfl ?_
  exact VLX7_allDots_4 FU _ _ _ _
theorem con_X7_allDots (a0 : Int) (μ : Mem) : Con (8) yX7_allDots (.code yX7_allDots cX7_allDots 3 (some .int)) 0 [(2, a0)] μ (FX7_allDots a0 μ) := Con_intro KX7_allDots (plainFor_of_name (by decide)) rfl (fun h => by cases h) (by decide) rfl (Nat.le_of_ble_eq_true rfl) (fun Γ => VBX7_allDots_0 _ _)
abbrev KX7_cleaned : Kap := (RX7, cX7_cleaned, 4, 3, 0, (some .int), false, [])
theorem VBX7_cleaned_4 {Γ : Gam} {k4 : Int → Int → Int → Int → Mem → Rz} (hk4 : ∀ (y0 y1 y2 y3 : Int) (ν : Mem), V Γ KX7_cleaned 4 [(0, (2, y0)), (1, (0, y1)), (2, (0, y2)), (3, (0, y3))] [] ν (k4 y0 y1 y2 y3 ν)) (x0 x1 x2 x3 : Int) (μ : Mem) : V Γ KX7_cleaned 4 [(0, (2, x0)), (1, (0, x1)), (2, (0, x2)), (3, (0, x3))] [] μ (BX7_cleaned_4 k4 x0 x1 x2 x3 μ) := by
  unfold BX7_cleaned_4
  refine V_iload_n (κ := KX7_cleaned) (pc := 4) dX7_cleaned_4 3 rfl ?_
  refine V_aload_n (κ := KX7_cleaned) (pc := 5) dX7_cleaned_5 0 rfl rfl ?_
  refine V_callV (ci := 7) (T := TX7) (N := 24) rfl (by decide) (κ := KX7_cleaned) (pc := 6) (con_X7_high _ _) mth_X7_high rfl ⟨wd_1205, wp_58⟩ wd_1203 (st0 := [(0, x3)]) rfl rfl (by decide) (Nat.le_of_ble_eq_true rfl) dX7_cleaned_6 (fun _ _ _ h => VX_out rfl (by decide) h) fun t101 u102 => ?_
  refine V_icmp_ge (κ := KX7_cleaned) (pc := 9) (tgt := 33) dX7_cleaned_9 rfl ?_ ?_
  · refine V_iload_n (κ := KX7_cleaned) (pc := 33) dX7_cleaned_33 2 rfl ?_
    exact V_ireturn (κ := KX7_cleaned) (pc := 34) rfl rfl dX7_cleaned_34
  refine V_iload_n (κ := KX7_cleaned) (pc := 12) dX7_cleaned_12 2 rfl ?_
  refine V_aload_n (κ := KX7_cleaned) (pc := 13) dX7_cleaned_13 0 rfl rfl ?_
  refine V_iload_n (κ := KX7_cleaned) (pc := 14) dX7_cleaned_14 1 rfl ?_
  refine V_bipush (κ := KX7_cleaned) (pc := 15) dX7_cleaned_15 ⟨by decide, by decide⟩ (by decide) ?_
  refine V_iload_n (κ := KX7_cleaned) (pc := 17) dX7_cleaned_17 3 rfl ?_
  refine V_iadd (κ := KX7_cleaned) (pc := 18) dX7_cleaned_18 ?_
  refine V_callV (ci := 7) (T := TX7) (N := 24) rfl (by decide) (κ := KX7_cleaned) (pc := 19) (con_X7_of _ _ _ _) mth_X7_of rfl ⟨wd_1233, wp_65⟩ wd_1231 (st0 := [(0, x2)]) rfl rfl (by decide) (Nat.le_of_ble_eq_true rfl) dX7_cleaned_19 (fun _ _ _ h => VX_out rfl (by decide) h) fun t103 u104 => ?_
  refine V_callS (κ := KX7_cleaned) (pc := 22) (con_X7_bits _ _) mth_X7_bits wd_1263 wd_1262 (st0 := [(0, x2)]) rfl rfl (by decide) (Nat.le_of_ble_eq_true rfl) dX7_cleaned_22 (fun _ _ _ h => VX_out rfl (by decide) h) fun t105 u106 => ?_
  refine V_iadd (κ := KX7_cleaned) (pc := 25) dX7_cleaned_25 ?_
  refine V_LT fun x107 => ?_
  refine V_istore_n (κ := KX7_cleaned) (pc := 26) (lv' := [(2, (0, x107)), (0, (2, x0)), (1, (0, x1)), (3, (0, x3))]) dX7_cleaned_26 (by decide) rfl ?_
  refine V_iinc (κ := KX7_cleaned) (pc := 27) (lv' := [(3, (0, w32 (x3 + 1))), (2, (0, x107)), (0, (2, x0)), (1, (0, x1))]) dX7_cleaned_27 3 rfl (by decide) rfl ?_
  refine V_goto (κ := KX7_cleaned) (pc := 30) (tgt := 4) dX7_cleaned_30 rfl ?_
  refine V_sub (lv' := [(0, (2, x0)), (1, (0, x1)), (2, (0, x107)), (3, (0, w32 (x3 + 1)))]) [2, 3, 1, 0] rfl ?_
  exact hk4 _ _ _ _ _
theorem VLX7_cleaned_4 {Γ : Gam} : ∀ (n : Nat) (x0 x1 x2 x3 : Int) (μ : Mem), V Γ KX7_cleaned 4 [(0, (2, x0)), (1, (0, x1)), (2, (0, x2)), (3, (0, x3))] [] μ (LX7_cleaned_4 n x0 x1 x2 x3 μ)
  | 0, _, _, _, _, _ => V_none
  | n + 1, x0, x1, x2, x3, μ => VBX7_cleaned_4 (fun y0 y1 y2 y3 ν => VLX7_cleaned_4 n y0 y1 y2 y3 ν) x0 x1 x2 x3 μ
theorem VBX7_cleaned_0 {Γ : Gam} (x0 x1 : Int) (μ : Mem) : V Γ KX7_cleaned 0 [(0, (2, x0)), (1, (0, x1))] [] μ (BX7_cleaned_0 x0 x1 μ) := by
  unfold BX7_cleaned_0
  refine V_iconst (κ := KX7_cleaned) (pc := 0) dX7_cleaned_0 ⟨by decide, by decide⟩ ?_
  refine V_istore_n (κ := KX7_cleaned) (pc := 1) (lv' := [(2, (0, 0)), (0, (2, x0)), (1, (0, x1))]) dX7_cleaned_1 (by decide) rfl ?_
  refine V_iconst (κ := KX7_cleaned) (pc := 2) dX7_cleaned_2 ⟨by decide, by decide⟩ ?_
  refine V_istore_n (κ := KX7_cleaned) (pc := 3) (lv' := [(3, (0, 0)), (2, (0, 0)), (0, (2, x0)), (1, (0, x1))]) dX7_cleaned_3 (by decide) rfl ?_
  refine V_sub (lv' := [(0, (2, x0)), (1, (0, x1)), (2, (0, 0)), (3, (0, 0))]) [2, 3, 1, 0] rfl ?_
  exact VLX7_cleaned_4 FU _ _ _ _ _
theorem con_X7_cleaned (a0 a1 : Int) (μ : Mem) : Con (3) yX7_cleaned (.code yX7_cleaned cX7_cleaned 4 (some .int)) 0 [(2, a0), (0, a1)] μ (FX7_cleaned a0 a1 μ) := Con_intro KX7_cleaned (plainFor_of_name (by decide)) rfl (fun h => by cases h) (by decide) rfl (Nat.le_of_ble_eq_true rfl) (fun Γ => VBX7_cleaned_0 _ _ _)
abbrev KX7_toldOf : Kap := (RX7, cX7_toldOf, 5, 9, 0, (some .int), false, [])
theorem VBX7_toldOf_99 {Γ : Gam} (s0 : Int) (μ : Mem) : V Γ KX7_toldOf 99 [] [(0, s0)] μ (BX7_toldOf_99 s0 μ) := by
  unfold BX7_toldOf_99
  exact V_ireturn (κ := KX7_toldOf) (pc := 99) rfl rfl dX7_toldOf_99
theorem VBX7_toldOf_115 {Γ : Gam} {k104 : Int → Int → Int → Mem → Rz} (hk104 : ∀ (y0 y2 y3 : Int) (ν : Mem), V Γ KX7_toldOf 104 [(0, (2, y0)), (2, (0, y2)), (3, (0, y3))] [] ν (k104 y0 y2 y3 ν)) {k115 : Int → Int → Int → Int → Mem → Rz} (hk115 : ∀ (y0 y2 y3 y4 : Int) (ν : Mem), V Γ KX7_toldOf 115 [(0, (2, y0)), (2, (0, y2)), (3, (0, y3)), (4, (0, y4))] [] ν (k115 y0 y2 y3 y4 ν)) (x0 x2 x3 x4 : Int) (μ : Mem) : V Γ KX7_toldOf 115 [(0, (2, x0)), (2, (0, x2)), (3, (0, x3)), (4, (0, x4))] [] μ (BX7_toldOf_115 k104 k115 x0 x2 x3 x4 μ) := by
  unfold BX7_toldOf_115
  refine V_iload (κ := KX7_toldOf) (pc := 115) dX7_toldOf_115 3 rfl ?_
  refine V_aload_n (κ := KX7_toldOf) (pc := 117) dX7_toldOf_117 0 rfl rfl ?_
  refine V_callV (ci := 7) (T := TX7) (N := 24) rfl (by decide) (κ := KX7_toldOf) (pc := 118) (con_X7_wide _ _) mth_X7_wide rfl ⟨wd_1201, wp_57⟩ wd_1199 (st0 := [(0, x4)]) rfl rfl (by decide) (Nat.le_of_ble_eq_true rfl) dX7_toldOf_118 (fun _ _ _ h => VX_out rfl (by decide) h) fun t101 u102 => ?_
  refine V_icmp_ge (κ := KX7_toldOf) (pc := 121) (tgt := 140) dX7_toldOf_121 rfl ?_ ?_
  · refine V_iinc (κ := KX7_toldOf) (pc := 140) (lv' := [(3, (0, w32 (x3 + 1))), (0, (2, x0)), (2, (0, x2)), (4, (0, x4))]) dX7_toldOf_140 2 rfl (by decide) rfl ?_
    refine V_goto (κ := KX7_toldOf) (pc := 143) (tgt := 104) dX7_toldOf_143 rfl ?_
    refine V_sub (lv' := [(0, (2, x0)), (2, (0, x2)), (3, (0, w32 (x3 + 1)))]) [1, 2, 0] rfl ?_
    exact hk104 _ _ _ _
  refine V_iload_n (κ := KX7_toldOf) (pc := 124) dX7_toldOf_124 1 rfl ?_
  refine V_aload_n (κ := KX7_toldOf) (pc := 125) dX7_toldOf_125 0 rfl rfl ?_
  refine V_iload (κ := KX7_toldOf) (pc := 126) dX7_toldOf_126 3 rfl ?_
  refine V_iload_n (κ := KX7_toldOf) (pc := 128) dX7_toldOf_128 2 rfl ?_
  refine V_callV (ci := 7) (T := TX7) (N := 24) rfl (by decide) (κ := KX7_toldOf) (pc := 129) (con_X7_toneAt _ _ _ _) mth_X7_toneAt rfl ⟨wd_1249, wp_68⟩ wd_1247 (st0 := [(0, x2)]) rfl rfl (by decide) (Nat.le_of_ble_eq_true rfl) dX7_toldOf_129 (fun _ _ _ h => VX_out rfl (by decide) h) fun t103 u104 => ?_
  refine V_iadd (κ := KX7_toldOf) (pc := 132) dX7_toldOf_132 ?_
  refine V_LT fun x105 => ?_
  refine V_istore_n (κ := KX7_toldOf) (pc := 133) (lv' := [(2, (0, x105)), (0, (2, x0)), (3, (0, x3)), (4, (0, x4))]) dX7_toldOf_133 (by decide) rfl ?_
  refine V_iinc (κ := KX7_toldOf) (pc := 134) (lv' := [(4, (0, w32 (x4 + 1))), (2, (0, x105)), (0, (2, x0)), (3, (0, x3))]) dX7_toldOf_134 3 rfl (by decide) rfl ?_
  refine V_goto (κ := KX7_toldOf) (pc := 137) (tgt := 115) dX7_toldOf_137 rfl ?_
  refine V_sub (lv' := [(0, (2, x0)), (2, (0, x105)), (3, (0, x3)), (4, (0, w32 (x4 + 1)))]) [2, 1, 3, 0] rfl ?_
  exact hk115 _ _ _ _ _
theorem VLX7_toldOf_115 {Γ : Gam} {k104 : Int → Int → Int → Mem → Rz} (hk104 : ∀ (y0 y2 y3 : Int) (ν : Mem), V Γ KX7_toldOf 104 [(0, (2, y0)), (2, (0, y2)), (3, (0, y3))] [] ν (k104 y0 y2 y3 ν)) : ∀ (n : Nat) (x0 x2 x3 x4 : Int) (μ : Mem), V Γ KX7_toldOf 115 [(0, (2, x0)), (2, (0, x2)), (3, (0, x3)), (4, (0, x4))] [] μ (LX7_toldOf_115 k104 n x0 x2 x3 x4 μ)
  | 0, _, _, _, _, _ => V_none
  | n + 1, x0, x2, x3, x4, μ => VBX7_toldOf_115 hk104 (fun y0 y2 y3 y4 ν => VLX7_toldOf_115 hk104 n y0 y2 y3 y4 ν) x0 x2 x3 x4 μ
theorem VBX7_toldOf_104 {Γ : Gam} {k104 : Int → Int → Int → Mem → Rz} (hk104 : ∀ (y0 y2 y3 : Int) (ν : Mem), V Γ KX7_toldOf 104 [(0, (2, y0)), (2, (0, y2)), (3, (0, y3))] [] ν (k104 y0 y2 y3 ν)) (x0 x2 x3 : Int) (μ : Mem) : V Γ KX7_toldOf 104 [(0, (2, x0)), (2, (0, x2)), (3, (0, x3))] [] μ (BX7_toldOf_104 k104 x0 x2 x3 μ) := by
  unfold BX7_toldOf_104
  refine V_iload_n (κ := KX7_toldOf) (pc := 104) dX7_toldOf_104 2 rfl ?_
  refine V_aload_n (κ := KX7_toldOf) (pc := 105) dX7_toldOf_105 0 rfl rfl ?_
  refine V_callV (ci := 7) (T := TX7) (N := 24) rfl (by decide) (κ := KX7_toldOf) (pc := 106) (con_X7_high _ _) mth_X7_high rfl ⟨wd_1205, wp_58⟩ wd_1203 (st0 := [(0, x3)]) rfl rfl (by decide) (Nat.le_of_ble_eq_true rfl) dX7_toldOf_106 (fun _ _ _ h => VX_out rfl (by decide) h) fun t101 u102 => ?_
  refine V_icmp_ge (κ := KX7_toldOf) (pc := 109) (tgt := 146) dX7_toldOf_109 rfl ?_ ?_
  · refine V_iload_n (κ := KX7_toldOf) (pc := 146) dX7_toldOf_146 1 rfl ?_
    exact V_ireturn (κ := KX7_toldOf) (pc := 147) rfl rfl dX7_toldOf_147
  refine V_iconst (κ := KX7_toldOf) (pc := 112) dX7_toldOf_112 ⟨by decide, by decide⟩ ?_
  refine V_istore (κ := KX7_toldOf) (pc := 113) (lv' := [(4, (0, 0)), (0, (2, x0)), (2, (0, x2)), (3, (0, x3))]) dX7_toldOf_113 (by decide) rfl ?_
  refine V_sub (lv' := [(0, (2, x0)), (2, (0, x2)), (3, (0, x3)), (4, (0, 0))]) [1, 2, 3, 0] rfl ?_
  exact VLX7_toldOf_115 hk104 FU _ _ _ _ _
theorem VLX7_toldOf_104 {Γ : Gam} : ∀ (n : Nat) (x0 x2 x3 : Int) (μ : Mem), V Γ KX7_toldOf 104 [(0, (2, x0)), (2, (0, x2)), (3, (0, x3))] [] μ (LX7_toldOf_104 n x0 x2 x3 μ)
  | 0, _, _, _, _ => V_none
  | n + 1, x0, x2, x3, μ => VBX7_toldOf_104 (fun y0 y2 y3 ν => VLX7_toldOf_104 n y0 y2 y3 ν) x0 x2 x3 μ
theorem VBX7_toldOf_152 {Γ : Gam} {k152 : Int → Int → Int → Mem → Rz} (hk152 : ∀ (y0 y2 y3 : Int) (ν : Mem), V Γ KX7_toldOf 152 [(0, (2, y0)), (2, (0, y2)), (3, (0, y3))] [] ν (k152 y0 y2 y3 ν)) (x0 x2 x3 : Int) (μ : Mem) : V Γ KX7_toldOf 152 [(0, (2, x0)), (2, (0, x2)), (3, (0, x3))] [] μ (BX7_toldOf_152 k152 x0 x2 x3 μ) := by
  unfold BX7_toldOf_152
  refine V_iload_n (κ := KX7_toldOf) (pc := 152) dX7_toldOf_152 2 rfl ?_
  refine V_aload_n (κ := KX7_toldOf) (pc := 153) dX7_toldOf_153 0 rfl rfl ?_
  refine V_callV (ci := 7) (T := TX7) (N := 24) rfl (by decide) (κ := KX7_toldOf) (pc := 154) (con_X7_plates _ _) mth_X7_plates rfl ⟨wd_1189, wp_55⟩ wd_1187 (st0 := [(0, x3)]) rfl rfl (by decide) (Nat.le_of_ble_eq_true rfl) dX7_toldOf_154 (fun _ _ _ h => VX_out rfl (by decide) h) fun t101 u102 => ?_
  refine V_icmp_ge (κ := KX7_toldOf) (pc := 157) (tgt := 174) dX7_toldOf_157 rfl ?_ ?_
  · refine V_iload_n (κ := KX7_toldOf) (pc := 174) dX7_toldOf_174 1 rfl ?_
    exact V_ireturn (κ := KX7_toldOf) (pc := 175) rfl rfl dX7_toldOf_175
  refine V_iload_n (κ := KX7_toldOf) (pc := 160) dX7_toldOf_160 1 rfl ?_
  refine V_aload_n (κ := KX7_toldOf) (pc := 161) dX7_toldOf_161 0 rfl rfl ?_
  refine V_iload_n (κ := KX7_toldOf) (pc := 162) dX7_toldOf_162 2 rfl ?_
  refine V_callV (ci := 7) (T := TX7) (N := 24) rfl (by decide) (κ := KX7_toldOf) (pc := 163) (con_X7_cleaned _ _ _) mth_X7_cleaned rfl ⟨wd_1279, wp_74⟩ wd_1277 (st0 := [(0, x2)]) rfl rfl (by decide) (Nat.le_of_ble_eq_true rfl) dX7_toldOf_163 (fun _ _ _ h => VX_out rfl (by decide) h) fun t103 u104 => ?_
  refine V_iadd (κ := KX7_toldOf) (pc := 166) dX7_toldOf_166 ?_
  refine V_LT fun x105 => ?_
  refine V_istore_n (κ := KX7_toldOf) (pc := 167) (lv' := [(2, (0, x105)), (0, (2, x0)), (3, (0, x3))]) dX7_toldOf_167 (by decide) rfl ?_
  refine V_iinc (κ := KX7_toldOf) (pc := 168) (lv' := [(3, (0, w32 (x3 + 1))), (2, (0, x105)), (0, (2, x0))]) dX7_toldOf_168 2 rfl (by decide) rfl ?_
  refine V_goto (κ := KX7_toldOf) (pc := 171) (tgt := 152) dX7_toldOf_171 rfl ?_
  refine V_sub (lv' := [(0, (2, x0)), (2, (0, x105)), (3, (0, w32 (x3 + 1)))]) [2, 1, 0] rfl ?_
  exact hk152 _ _ _ _
theorem VLX7_toldOf_152 {Γ : Gam} : ∀ (n : Nat) (x0 x2 x3 : Int) (μ : Mem), V Γ KX7_toldOf 152 [(0, (2, x0)), (2, (0, x2)), (3, (0, x3))] [] μ (LX7_toldOf_152 n x0 x2 x3 μ)
  | 0, _, _, _, _ => V_none
  | n + 1, x0, x2, x3, μ => VBX7_toldOf_152 (fun y0 y2 y3 ν => VLX7_toldOf_152 n y0 y2 y3 ν) x0 x2 x3 μ
theorem VBX7_toldOf_0 {Γ : Gam} (x0 x1 : Int) (μ : Mem) : V Γ KX7_toldOf 0 [(0, (2, x0)), (1, (0, x1))] [] μ (BX7_toldOf_0 x0 x1 μ) := by
  unfold BX7_toldOf_0
  refine V_iload_n (κ := KX7_toldOf) (pc := 0) dX7_toldOf_0 1 rfl ?_
  refine V_tsw (κ := KX7_toldOf) (pc := 1) (os := [47, 52, 57, 62, 68, 73, 79, 99]) (tgt := 148) dX7_toldOf_1 rfl rfl ?_ ⟨⟨48, rfl, ?_⟩, ⟨53, rfl, ?_⟩, ⟨58, rfl, ?_⟩, ⟨63, rfl, ?_⟩, ⟨69, rfl, ?_⟩, ⟨74, rfl, ?_⟩, ⟨80, rfl, ?_⟩, ⟨100, rfl, ?_⟩, trivial⟩
  · refine V_iconst (κ := KX7_toldOf) (pc := 148) dX7_toldOf_148 ⟨by decide, by decide⟩ ?_
    refine V_istore_n (κ := KX7_toldOf) (pc := 149) (lv' := [(2, (0, 0)), (0, (2, x0)), (1, (0, x1))]) dX7_toldOf_149 (by decide) rfl ?_
    refine V_iconst (κ := KX7_toldOf) (pc := 150) dX7_toldOf_150 ⟨by decide, by decide⟩ ?_
    refine V_istore_n (κ := KX7_toldOf) (pc := 151) (lv' := [(3, (0, 0)), (2, (0, 0)), (0, (2, x0)), (1, (0, x1))]) dX7_toldOf_151 (by decide) rfl ?_
    refine V_sub (lv' := [(0, (2, x0)), (2, (0, 0)), (3, (0, 0))]) [2, 1, 0] rfl ?_
    exact VLX7_toldOf_152 FU _ _ _ _
  · refine V_aload_n (κ := KX7_toldOf) (pc := 48) dX7_toldOf_48 0 rfl rfl ?_
    refine V_callV (ci := 7) (T := TX7) (N := 24) rfl (by decide) (κ := KX7_toldOf) (pc := 49) (con_X7_wide _ _) mth_X7_wide rfl ⟨wd_1201, wp_57⟩ wd_1199 (st0 := []) rfl rfl (by decide) (Nat.le_of_ble_eq_true rfl) dX7_toldOf_49 (fun _ _ _ h => VX_out rfl (by decide) h) fun t101 u102 => ?_
    exact V_ireturn (κ := KX7_toldOf) (pc := 52) rfl rfl dX7_toldOf_52
  · refine V_aload_n (κ := KX7_toldOf) (pc := 53) dX7_toldOf_53 0 rfl rfl ?_
    refine V_callV (ci := 7) (T := TX7) (N := 24) rfl (by decide) (κ := KX7_toldOf) (pc := 54) (con_X7_high _ _) mth_X7_high rfl ⟨wd_1205, wp_58⟩ wd_1203 (st0 := []) rfl rfl (by decide) (Nat.le_of_ble_eq_true rfl) dX7_toldOf_54 (fun _ _ _ h => VX_out rfl (by decide) h) fun t103 u104 => ?_
    exact V_ireturn (κ := KX7_toldOf) (pc := 57) rfl rfl dX7_toldOf_57
  · refine V_aload_n (κ := KX7_toldOf) (pc := 58) dX7_toldOf_58 0 rfl rfl ?_
    refine V_callV (ci := 7) (T := TX7) (N := 24) rfl (by decide) (κ := KX7_toldOf) (pc := 59) (con_X7_plates _ _) mth_X7_plates rfl ⟨wd_1189, wp_55⟩ wd_1187 (st0 := []) rfl rfl (by decide) (Nat.le_of_ble_eq_true rfl) dX7_toldOf_59 (fun _ _ _ h => VX_out rfl (by decide) h) fun t105 u106 => ?_
    exact V_ireturn (κ := KX7_toldOf) (pc := 62) rfl rfl dX7_toldOf_62
  · refine V_aload_n (κ := KX7_toldOf) (pc := 63) dX7_toldOf_63 0 rfl rfl ?_
    refine V_iconst (κ := KX7_toldOf) (pc := 64) dX7_toldOf_64 ⟨by decide, by decide⟩ ?_
    refine V_callV (ci := 7) (T := TX7) (N := 24) rfl (by decide) (κ := KX7_toldOf) (pc := 65) (con_X7_get _ _ _) mth_X7_get rfl ⟨wd_1181, wp_53⟩ wd_1179 (st0 := []) rfl rfl (by decide) (Nat.le_of_ble_eq_true rfl) dX7_toldOf_65 (fun _ _ _ h => VX_out rfl (by decide) h) fun t107 u108 => ?_
    exact V_ireturn (κ := KX7_toldOf) (pc := 68) rfl rfl dX7_toldOf_68
  · refine V_aload_n (κ := KX7_toldOf) (pc := 69) dX7_toldOf_69 0 rfl rfl ?_
    refine V_callV (ci := 7) (T := TX7) (N := 24) rfl (by decide) (κ := KX7_toldOf) (pc := 70) (con_X7_allDots _ _) mth_X7_allDots rfl ⟨wd_1209, wp_59⟩ wd_1207 (st0 := []) rfl rfl (by decide) (Nat.le_of_ble_eq_true rfl) dX7_toldOf_70 (fun _ _ _ h => VX_out rfl (by decide) h) fun t109 u110 => ?_
    exact V_ireturn (κ := KX7_toldOf) (pc := 73) rfl rfl dX7_toldOf_73
  · refine V_aload_n (κ := KX7_toldOf) (pc := 74) dX7_toldOf_74 0 rfl rfl ?_
    refine V_iconst (κ := KX7_toldOf) (pc := 75) dX7_toldOf_75 ⟨by decide, by decide⟩ ?_
    refine V_callV (ci := 7) (T := TX7) (N := 24) rfl (by decide) (κ := KX7_toldOf) (pc := 76) (con_X7_cellsOf _ _ _) mth_X7_cellsOf rfl ⟨wd_1275, wp_73⟩ wd_1273 (st0 := []) rfl rfl (by decide) (Nat.le_of_ble_eq_true rfl) dX7_toldOf_76 (fun _ _ _ h => VX_out rfl (by decide) h) fun t111 u112 => ?_
    exact V_ireturn (κ := KX7_toldOf) (pc := 79) rfl rfl dX7_toldOf_79
  · refine V_aload_n (κ := KX7_toldOf) (pc := 80) dX7_toldOf_80 0 rfl rfl ?_
    refine V_callV (ci := 7) (T := TX7) (N := 24) rfl (by decide) (κ := KX7_toldOf) (pc := 81) (con_X7_plates _ _) mth_X7_plates rfl ⟨wd_1189, wp_55⟩ wd_1187 (st0 := []) rfl rfl (by decide) (Nat.le_of_ble_eq_true rfl) dX7_toldOf_81 (fun _ _ _ h => VX_out rfl (by decide) h) fun t113 u114 => ?_
    refine V_if_ne (κ := KX7_toldOf) (pc := 84) (tgt := 91) dX7_toldOf_84 rfl ?_ ?_
    · refine V_aload_n (κ := KX7_toldOf) (pc := 91) dX7_toldOf_91 0 rfl rfl ?_
      refine V_aload_n (κ := KX7_toldOf) (pc := 92) dX7_toldOf_92 0 rfl rfl ?_
      refine V_callV (ci := 7) (T := TX7) (N := 24) rfl (by decide) (κ := KX7_toldOf) (pc := 93) (con_X7_plates _ _) mth_X7_plates rfl ⟨wd_1189, wp_55⟩ wd_1187 (st0 := [(2, x0)]) rfl rfl (by decide) (Nat.le_of_ble_eq_true rfl) dX7_toldOf_93 (fun _ _ _ h => VX_out rfl (by decide) h) fun t115 u116 => ?_
      refine V_callV (ci := 7) (T := TX7) (N := 24) rfl (by decide) (κ := KX7_toldOf) (pc := 96) (con_X7_cellsOf _ _ _) mth_X7_cellsOf rfl ⟨wd_1275, wp_73⟩ wd_1273 (st0 := []) rfl rfl (by decide) (Nat.le_of_ble_eq_true rfl) dX7_toldOf_96 (fun _ _ _ h => VX_out rfl (by decide) h) fun t117 u118 => ?_
      refine V_sub (lv' := []) [] rfl ?_
      exact VBX7_toldOf_99 _ _
    refine V_iconst (κ := KX7_toldOf) (pc := 87) dX7_toldOf_87 ⟨by decide, by decide⟩ ?_
    refine V_goto (κ := KX7_toldOf) (pc := 88) (tgt := 99) dX7_toldOf_88 rfl ?_
    refine V_sub (lv' := []) [] rfl ?_
    exact VBX7_toldOf_99 _ _
  · refine V_iconst (κ := KX7_toldOf) (pc := 100) dX7_toldOf_100 ⟨by decide, by decide⟩ ?_
    refine V_istore_n (κ := KX7_toldOf) (pc := 101) (lv' := [(2, (0, 0)), (0, (2, x0)), (1, (0, x1))]) dX7_toldOf_101 (by decide) rfl ?_
    refine V_iconst (κ := KX7_toldOf) (pc := 102) dX7_toldOf_102 ⟨by decide, by decide⟩ ?_
    refine V_istore_n (κ := KX7_toldOf) (pc := 103) (lv' := [(3, (0, 0)), (2, (0, 0)), (0, (2, x0)), (1, (0, x1))]) dX7_toldOf_103 (by decide) rfl ?_
    refine V_sub (lv' := [(0, (2, x0)), (2, (0, 0)), (3, (0, 0))]) [2, 1, 0] rfl ?_
    exact VLX7_toldOf_104 FU _ _ _ _
theorem con_X7_toldOf (a0 a1 : Int) (μ : Mem) : Con (9) yX7_toldOf (.code yX7_toldOf cX7_toldOf 5 (some .int)) 0 [(2, a0), (0, a1)] μ (FX7_toldOf a0 a1 μ) := Con_intro KX7_toldOf (plainFor_of_name (by decide)) rfl (fun h => by cases h) (by decide) rfl (Nat.le_of_ble_eq_true rfl) (fun Γ => VBX7_toldOf_0 _ _ _)
abbrev KX7_blocks : Kap := (RX7, cX7_blocks, 2, 4, 0, (some .int), false, [])
theorem VBX7_blocks_0 {Γ : Gam} (x0 x1 : Int) (μ : Mem) : V Γ KX7_blocks 0 [(0, (2, x0)), (1, (0, x1))] [] μ (BX7_blocks_0 x0 x1 μ) := by
  unfold BX7_blocks_0
  refine V_aload_n (κ := KX7_blocks) (pc := 0) dX7_blocks_0 0 rfl rfl ?_
  refine V_callV (ci := 7) (T := TX7) (N := 24) rfl (by decide) (κ := KX7_blocks) (pc := 1) (con_X7_wide _ _) mth_X7_wide rfl ⟨wd_1201, wp_57⟩ wd_1199 (st0 := []) rfl rfl (by decide) (Nat.le_of_ble_eq_true rfl) dX7_blocks_1 (fun _ _ _ h => VX_out rfl (by decide) h) fun t101 u102 => ?_
  refine V_aload_n (κ := KX7_blocks) (pc := 4) dX7_blocks_4 0 rfl rfl ?_
  refine V_iload_n (κ := KX7_blocks) (pc := 5) dX7_blocks_5 1 rfl ?_
  refine V_callV (ci := 7) (T := TX7) (N := 24) rfl (by decide) (κ := KX7_blocks) (pc := 6) (con_X7_squareOf _ _ _) mth_X7_squareOf rfl ⟨wd_1229, wp_64⟩ wd_1227 (st0 := [(0, t101)]) rfl rfl (by decide) (Nat.le_of_ble_eq_true rfl) dX7_blocks_6 (fun _ _ _ h => VX_out rfl (by decide) h) fun t103 u104 => ?_
  refine V_idiv (κ := KX7_blocks) (pc := 9) dX7_blocks_9 fun t105 => ?_
  refine V_aload_n (κ := KX7_blocks) (pc := 10) dX7_blocks_10 0 rfl rfl ?_
  refine V_callV (ci := 7) (T := TX7) (N := 24) rfl (by decide) (κ := KX7_blocks) (pc := 11) (con_X7_high _ _) mth_X7_high rfl ⟨wd_1205, wp_58⟩ wd_1203 (st0 := [(0, t105)]) rfl rfl (by decide) (Nat.le_of_ble_eq_true rfl) dX7_blocks_11 (fun _ _ _ h => VX_out rfl (by decide) h) fun t106 u107 => ?_
  refine V_aload_n (κ := KX7_blocks) (pc := 14) dX7_blocks_14 0 rfl rfl ?_
  refine V_iload_n (κ := KX7_blocks) (pc := 15) dX7_blocks_15 1 rfl ?_
  refine V_callV (ci := 7) (T := TX7) (N := 24) rfl (by decide) (κ := KX7_blocks) (pc := 16) (con_X7_squareOf _ _ _) mth_X7_squareOf rfl ⟨wd_1229, wp_64⟩ wd_1227 (st0 := [(0, t106), (0, t105)]) rfl rfl (by decide) (Nat.le_of_ble_eq_true rfl) dX7_blocks_16 (fun _ _ _ h => VX_out rfl (by decide) h) fun t108 u109 => ?_
  refine V_idiv (κ := KX7_blocks) (pc := 19) dX7_blocks_19 fun t110 => ?_
  refine V_imul (κ := KX7_blocks) (pc := 20) dX7_blocks_20 ?_
  exact V_ireturn (κ := KX7_blocks) (pc := 21) rfl rfl dX7_blocks_21
theorem con_X7_blocks (a0 a1 : Int) (μ : Mem) : Con (4) yX7_blocks (.code yX7_blocks cX7_blocks 2 (some .int)) 0 [(2, a0), (0, a1)] μ (FX7_blocks a0 a1 μ) := Con_intro KX7_blocks (plainFor_of_name (by decide)) rfl (fun h => by cases h) (by decide) rfl (Nat.le_of_ble_eq_true rfl) (fun Γ => VBX7_blocks_0 _ _ _)
abbrev KX7_spots : Kap := (RX7, cX7_spots, 5, 7, 0, (some .int), false, [])
theorem VBX7_spots_45 {Γ : Gam} {k8 : Int → Int → Int → Int → Mem → Rz} (hk8 : ∀ (y0 y1 y2 y3 : Int) (ν : Mem), V Γ KX7_spots 8 [(0, (2, y0)), (1, (0, y1)), (2, (0, y2)), (3, (0, y3))] [] ν (k8 y0 y1 y2 y3 ν)) {k19 : Int → Int → Int → Int → Int → Mem → Rz} (hk19 : ∀ (y0 y1 y2 y3 y4 : Int) (ν : Mem), V Γ KX7_spots 19 [(0, (2, y0)), (1, (0, y1)), (2, (0, y2)), (3, (0, y3)), (4, (0, y4))] [] ν (k19 y0 y1 y2 y3 y4 ν)) (x0 x1 x3 x4 s0 s1 : Int) (μ : Mem) : V Γ KX7_spots 45 [(0, (2, x0)), (1, (0, x1)), (3, (0, x3)), (4, (0, x4))] [(0, s0), (0, s1)] μ (BX7_spots_45 k8 k19 x0 x1 x3 x4 s0 s1 μ) := by
  unfold BX7_spots_45
  refine V_iadd (κ := KX7_spots) (pc := 45) dX7_spots_45 ?_
  refine V_LT fun x101 => ?_
  refine V_istore_n (κ := KX7_spots) (pc := 46) (lv' := [(2, (0, x101)), (0, (2, x0)), (1, (0, x1)), (3, (0, x3)), (4, (0, x4))]) dX7_spots_46 (by decide) rfl ?_
  refine V_iinc (κ := KX7_spots) (pc := 47) (lv' := [(4, (0, w32 (x4 + 1))), (2, (0, x101)), (0, (2, x0)), (1, (0, x1)), (3, (0, x3))]) dX7_spots_47 4 rfl (by decide) rfl ?_
  refine V_goto (κ := KX7_spots) (pc := 50) (tgt := 19) dX7_spots_50 rfl ?_
  refine V_sub (lv' := [(0, (2, x0)), (1, (0, x1)), (2, (0, x101)), (3, (0, x3)), (4, (0, w32 (x4 + 1)))]) [2, 3, 1, 4, 0] rfl ?_
  exact hk19 _ _ _ _ _ _
theorem VBX7_spots_19 {Γ : Gam} {k8 : Int → Int → Int → Int → Mem → Rz} (hk8 : ∀ (y0 y1 y2 y3 : Int) (ν : Mem), V Γ KX7_spots 8 [(0, (2, y0)), (1, (0, y1)), (2, (0, y2)), (3, (0, y3))] [] ν (k8 y0 y1 y2 y3 ν)) {k19 : Int → Int → Int → Int → Int → Mem → Rz} (hk19 : ∀ (y0 y1 y2 y3 y4 : Int) (ν : Mem), V Γ KX7_spots 19 [(0, (2, y0)), (1, (0, y1)), (2, (0, y2)), (3, (0, y3)), (4, (0, y4))] [] ν (k19 y0 y1 y2 y3 y4 ν)) (x0 x1 x2 x3 x4 : Int) (μ : Mem) : V Γ KX7_spots 19 [(0, (2, x0)), (1, (0, x1)), (2, (0, x2)), (3, (0, x3)), (4, (0, x4))] [] μ (BX7_spots_19 k8 k19 x0 x1 x2 x3 x4 μ) := by
  unfold BX7_spots_19
  refine V_iload (κ := KX7_spots) (pc := 19) dX7_spots_19 4 rfl ?_
  refine V_aload_n (κ := KX7_spots) (pc := 21) dX7_spots_21 0 rfl rfl ?_
  refine V_callV (ci := 7) (T := TX7) (N := 24) rfl (by decide) (κ := KX7_spots) (pc := 22) (con_X7_wide _ _) mth_X7_wide rfl ⟨wd_1201, wp_57⟩ wd_1199 (st0 := [(0, x4)]) rfl rfl (by decide) (Nat.le_of_ble_eq_true rfl) dX7_spots_22 (fun _ _ _ h => VX_out rfl (by decide) h) fun t101 u102 => ?_
  refine V_icmp_ge (κ := KX7_spots) (pc := 25) (tgt := 53) dX7_spots_25 rfl ?_ ?_
  · refine V_iinc (κ := KX7_spots) (pc := 53) (lv' := [(3, (0, w32 (x3 + 1))), (0, (2, x0)), (1, (0, x1)), (2, (0, x2)), (4, (0, x4))]) dX7_spots_53 3 rfl (by decide) rfl ?_
    refine V_goto (κ := KX7_spots) (pc := 56) (tgt := 8) dX7_spots_56 rfl ?_
    refine V_sub (lv' := [(0, (2, x0)), (1, (0, x1)), (2, (0, x2)), (3, (0, w32 (x3 + 1)))]) [1, 2, 3, 0] rfl ?_
    exact hk8 _ _ _ _ _
  refine V_iload_n (κ := KX7_spots) (pc := 28) dX7_spots_28 2 rfl ?_
  refine V_aload_n (κ := KX7_spots) (pc := 29) dX7_spots_29 0 rfl rfl ?_
  refine V_iload_n (κ := KX7_spots) (pc := 30) dX7_spots_30 1 rfl ?_
  refine V_iload (κ := KX7_spots) (pc := 31) dX7_spots_31 4 rfl ?_
  refine V_iload_n (κ := KX7_spots) (pc := 33) dX7_spots_33 3 rfl ?_
  refine V_callV (ci := 7) (T := TX7) (N := 24) rfl (by decide) (κ := KX7_spots) (pc := 34) (con_X7_isSpot _ _ _ _ _) mth_X7_isSpot rfl ⟨wd_1303, wp_78⟩ wd_1301 (st0 := [(0, x2)]) rfl rfl (by decide) (Nat.le_of_ble_eq_true rfl) dX7_spots_34 (fun _ _ _ h => VX_out rfl (by decide) h) fun t103 u104 => ?_
  refine V_if_eq (κ := KX7_spots) (pc := 37) (tgt := 44) dX7_spots_37 rfl ?_ ?_
  · refine V_iconst (κ := KX7_spots) (pc := 44) dX7_spots_44 ⟨by decide, by decide⟩ ?_
    refine V_sub (lv' := [(0, (2, x0)), (1, (0, x1)), (3, (0, x3)), (4, (0, x4))]) [0, 1, 3, 4] rfl ?_
    exact VBX7_spots_45 hk8 hk19 _ _ _ _ _ _ _
  refine V_iconst (κ := KX7_spots) (pc := 40) dX7_spots_40 ⟨by decide, by decide⟩ ?_
  refine V_goto (κ := KX7_spots) (pc := 41) (tgt := 45) dX7_spots_41 rfl ?_
  refine V_sub (lv' := [(0, (2, x0)), (1, (0, x1)), (3, (0, x3)), (4, (0, x4))]) [0, 1, 3, 4] rfl ?_
  exact VBX7_spots_45 hk8 hk19 _ _ _ _ _ _ _
theorem VLX7_spots_19 {Γ : Gam} {k8 : Int → Int → Int → Int → Mem → Rz} (hk8 : ∀ (y0 y1 y2 y3 : Int) (ν : Mem), V Γ KX7_spots 8 [(0, (2, y0)), (1, (0, y1)), (2, (0, y2)), (3, (0, y3))] [] ν (k8 y0 y1 y2 y3 ν)) : ∀ (n : Nat) (x0 x1 x2 x3 x4 : Int) (μ : Mem), V Γ KX7_spots 19 [(0, (2, x0)), (1, (0, x1)), (2, (0, x2)), (3, (0, x3)), (4, (0, x4))] [] μ (LX7_spots_19 k8 n x0 x1 x2 x3 x4 μ)
  | 0, _, _, _, _, _, _ => V_none
  | n + 1, x0, x1, x2, x3, x4, μ => VBX7_spots_19 hk8 (fun y0 y1 y2 y3 y4 ν => VLX7_spots_19 hk8 n y0 y1 y2 y3 y4 ν) x0 x1 x2 x3 x4 μ
theorem VBX7_spots_8 {Γ : Gam} {k8 : Int → Int → Int → Int → Mem → Rz} (hk8 : ∀ (y0 y1 y2 y3 : Int) (ν : Mem), V Γ KX7_spots 8 [(0, (2, y0)), (1, (0, y1)), (2, (0, y2)), (3, (0, y3))] [] ν (k8 y0 y1 y2 y3 ν)) (x0 x1 x2 x3 : Int) (μ : Mem) : V Γ KX7_spots 8 [(0, (2, x0)), (1, (0, x1)), (2, (0, x2)), (3, (0, x3))] [] μ (BX7_spots_8 k8 x0 x1 x2 x3 μ) := by
  unfold BX7_spots_8
  refine V_iload_n (κ := KX7_spots) (pc := 8) dX7_spots_8 3 rfl ?_
  refine V_aload_n (κ := KX7_spots) (pc := 9) dX7_spots_9 0 rfl rfl ?_
  refine V_callV (ci := 7) (T := TX7) (N := 24) rfl (by decide) (κ := KX7_spots) (pc := 10) (con_X7_high _ _) mth_X7_high rfl ⟨wd_1205, wp_58⟩ wd_1203 (st0 := [(0, x3)]) rfl rfl (by decide) (Nat.le_of_ble_eq_true rfl) dX7_spots_10 (fun _ _ _ h => VX_out rfl (by decide) h) fun t101 u102 => ?_
  refine V_icmp_ge (κ := KX7_spots) (pc := 13) (tgt := 59) dX7_spots_13 rfl ?_ ?_
  · refine V_iload_n (κ := KX7_spots) (pc := 59) dX7_spots_59 2 rfl ?_
    exact V_ireturn (κ := KX7_spots) (pc := 60) rfl rfl dX7_spots_60
  refine V_iconst (κ := KX7_spots) (pc := 16) dX7_spots_16 ⟨by decide, by decide⟩ ?_
  refine V_istore (κ := KX7_spots) (pc := 17) (lv' := [(4, (0, 0)), (0, (2, x0)), (1, (0, x1)), (2, (0, x2)), (3, (0, x3))]) dX7_spots_17 (by decide) rfl ?_
  refine V_sub (lv' := [(0, (2, x0)), (1, (0, x1)), (2, (0, x2)), (3, (0, x3)), (4, (0, 0))]) [1, 2, 3, 4, 0] rfl ?_
  exact VLX7_spots_19 hk8 FU _ _ _ _ _ _
theorem VLX7_spots_8 {Γ : Gam} : ∀ (n : Nat) (x0 x1 x2 x3 : Int) (μ : Mem), V Γ KX7_spots 8 [(0, (2, x0)), (1, (0, x1)), (2, (0, x2)), (3, (0, x3))] [] μ (LX7_spots_8 n x0 x1 x2 x3 μ)
  | 0, _, _, _, _, _ => V_none
  | n + 1, x0, x1, x2, x3, μ => VBX7_spots_8 (fun y0 y1 y2 y3 ν => VLX7_spots_8 n y0 y1 y2 y3 ν) x0 x1 x2 x3 μ
theorem VBX7_spots_0 {Γ : Gam} (x0 x1 : Int) (μ : Mem) : V Γ KX7_spots 0 [(0, (2, x0)), (1, (0, x1))] [] μ (BX7_spots_0 x0 x1 μ) := by
  unfold BX7_spots_0
  refine V_aload_n (κ := KX7_spots) (pc := 0) dX7_spots_0 0 rfl rfl ?_
  refine V_callV (ci := 7) (T := TX7) (N := 24) rfl (by decide) (κ := KX7_spots) (pc := 1) (con_X7_lays _ _) mth_X7_lays rfl ⟨wd_1217, wp_61⟩ wd_1215 (st0 := []) rfl rfl (by decide) (Nat.le_of_ble_eq_true rfl) dX7_spots_1 (fun _ _ _ h => VX_out rfl (by decide) h) fun _ u102 => ?_
  refine V_iconst (κ := KX7_spots) (pc := 4) dX7_spots_4 ⟨by decide, by decide⟩ ?_
  refine V_istore_n (κ := KX7_spots) (pc := 5) (lv' := [(2, (0, 0)), (0, (2, x0)), (1, (0, x1))]) dX7_spots_5 (by decide) rfl ?_
  refine V_iconst (κ := KX7_spots) (pc := 6) dX7_spots_6 ⟨by decide, by decide⟩ ?_
  refine V_istore_n (κ := KX7_spots) (pc := 7) (lv' := [(3, (0, 0)), (2, (0, 0)), (0, (2, x0)), (1, (0, x1))]) dX7_spots_7 (by decide) rfl ?_
  refine V_sub (lv' := [(0, (2, x0)), (1, (0, x1)), (2, (0, 0)), (3, (0, 0))]) [2, 3, 1, 0] rfl ?_
  exact VLX7_spots_8 FU _ _ _ _ _
theorem con_X7_spots (a0 a1 : Int) (μ : Mem) : Con (7) yX7_spots (.code yX7_spots cX7_spots 5 (some .int)) 0 [(2, a0), (0, a1)] μ (FX7_spots a0 a1 μ) := Con_intro KX7_spots (plainFor_of_name (by decide)) rfl (fun h => by cases h) (by decide) rfl (Nat.le_of_ble_eq_true rfl) (fun Γ => VBX7_spots_0 _ _ _)
abbrev KX7_sumOn : Kap := (RX7, cX7_sumOn, 5, 7, 0, (some .int), false, [])
theorem VBX7_sumOn_19 {Γ : Gam} {k8 : Int → Int → Int → Int → Mem → Rz} (hk8 : ∀ (y0 y1 y2 y3 : Int) (ν : Mem), V Γ KX7_sumOn 8 [(0, (2, y0)), (1, (0, y1)), (2, (0, y2)), (3, (0, y3))] [] ν (k8 y0 y1 y2 y3 ν)) {k19 : Int → Int → Int → Int → Int → Mem → Rz} (hk19 : ∀ (y0 y1 y2 y3 y4 : Int) (ν : Mem), V Γ KX7_sumOn 19 [(0, (2, y0)), (1, (0, y1)), (2, (0, y2)), (3, (0, y3)), (4, (0, y4))] [] ν (k19 y0 y1 y2 y3 y4 ν)) (x0 x1 x2 x3 x4 : Int) (μ : Mem) : V Γ KX7_sumOn 19 [(0, (2, x0)), (1, (0, x1)), (2, (0, x2)), (3, (0, x3)), (4, (0, x4))] [] μ (BX7_sumOn_19 k8 k19 x0 x1 x2 x3 x4 μ) := by
  unfold BX7_sumOn_19
  refine V_iload (κ := KX7_sumOn) (pc := 19) dX7_sumOn_19 4 rfl ?_
  refine V_aload_n (κ := KX7_sumOn) (pc := 21) dX7_sumOn_21 0 rfl rfl ?_
  refine V_callV (ci := 7) (T := TX7) (N := 24) rfl (by decide) (κ := KX7_sumOn) (pc := 22) (con_X7_wide _ _) mth_X7_wide rfl ⟨wd_1201, wp_57⟩ wd_1199 (st0 := [(0, x4)]) rfl rfl (by decide) (Nat.le_of_ble_eq_true rfl) dX7_sumOn_22 (fun _ _ _ h => VX_out rfl (by decide) h) fun t101 u102 => ?_
  refine V_icmp_ge (κ := KX7_sumOn) (pc := 25) (tgt := 55) dX7_sumOn_25 rfl ?_ ?_
  · refine V_iinc (κ := KX7_sumOn) (pc := 55) (lv' := [(3, (0, w32 (x3 + 1))), (0, (2, x0)), (1, (0, x1)), (2, (0, x2)), (4, (0, x4))]) dX7_sumOn_55 3 rfl (by decide) rfl ?_
    refine V_goto (κ := KX7_sumOn) (pc := 58) (tgt := 8) dX7_sumOn_58 rfl ?_
    refine V_sub (lv' := [(0, (2, x0)), (1, (0, x1)), (2, (0, x2)), (3, (0, w32 (x3 + 1)))]) [1, 2, 3, 0] rfl ?_
    exact hk8 _ _ _ _ _
  refine V_iload_n (κ := KX7_sumOn) (pc := 28) dX7_sumOn_28 2 rfl ?_
  refine V_aload_n (κ := KX7_sumOn) (pc := 29) dX7_sumOn_29 0 rfl rfl ?_
  refine V_getf 7 (κ := KX7_sumOn) (pc := 30) rfl (by decide) rfl inX7 8 (by decide) wd_995 rfl (t := 2) rfl dX7_sumOn_30 fun t103 => ?_
  refine V_sipush (κ := KX7_sumOn) (pc := 33) dX7_sumOn_33 ⟨by decide, by decide⟩ (by decide) ?_
  refine V_iload_n (κ := KX7_sumOn) (pc := 36) dX7_sumOn_36 1 rfl ?_
  refine V_imul (κ := KX7_sumOn) (pc := 37) dX7_sumOn_37 ?_
  refine V_bipush (κ := KX7_sumOn) (pc := 38) dX7_sumOn_38 ⟨by decide, by decide⟩ (by decide) ?_
  refine V_iload_n (κ := KX7_sumOn) (pc := 40) dX7_sumOn_40 3 rfl ?_
  refine V_imul (κ := KX7_sumOn) (pc := 41) dX7_sumOn_41 ?_
  refine V_iadd (κ := KX7_sumOn) (pc := 42) dX7_sumOn_42 ?_
  refine V_iload (κ := KX7_sumOn) (pc := 43) dX7_sumOn_43 4 rfl ?_
  refine V_iadd (κ := KX7_sumOn) (pc := 45) dX7_sumOn_45 ?_
  refine V_iaload (κ := KX7_sumOn) (pc := 46) dX7_sumOn_46 fun t104 => ?_
  refine V_iadd (κ := KX7_sumOn) (pc := 47) dX7_sumOn_47 ?_
  refine V_LT fun x105 => ?_
  refine V_istore_n (κ := KX7_sumOn) (pc := 48) (lv' := [(2, (0, x105)), (0, (2, x0)), (1, (0, x1)), (3, (0, x3)), (4, (0, x4))]) dX7_sumOn_48 (by decide) rfl ?_
  refine V_iinc (κ := KX7_sumOn) (pc := 49) (lv' := [(4, (0, w32 (x4 + 1))), (2, (0, x105)), (0, (2, x0)), (1, (0, x1)), (3, (0, x3))]) dX7_sumOn_49 4 rfl (by decide) rfl ?_
  refine V_goto (κ := KX7_sumOn) (pc := 52) (tgt := 19) dX7_sumOn_52 rfl ?_
  refine V_sub (lv' := [(0, (2, x0)), (1, (0, x1)), (2, (0, x105)), (3, (0, x3)), (4, (0, w32 (x4 + 1)))]) [2, 3, 1, 4, 0] rfl ?_
  exact hk19 _ _ _ _ _ _
theorem VLX7_sumOn_19 {Γ : Gam} {k8 : Int → Int → Int → Int → Mem → Rz} (hk8 : ∀ (y0 y1 y2 y3 : Int) (ν : Mem), V Γ KX7_sumOn 8 [(0, (2, y0)), (1, (0, y1)), (2, (0, y2)), (3, (0, y3))] [] ν (k8 y0 y1 y2 y3 ν)) : ∀ (n : Nat) (x0 x1 x2 x3 x4 : Int) (μ : Mem), V Γ KX7_sumOn 19 [(0, (2, x0)), (1, (0, x1)), (2, (0, x2)), (3, (0, x3)), (4, (0, x4))] [] μ (LX7_sumOn_19 k8 n x0 x1 x2 x3 x4 μ)
  | 0, _, _, _, _, _, _ => V_none
  | n + 1, x0, x1, x2, x3, x4, μ => VBX7_sumOn_19 hk8 (fun y0 y1 y2 y3 y4 ν => VLX7_sumOn_19 hk8 n y0 y1 y2 y3 y4 ν) x0 x1 x2 x3 x4 μ
theorem VBX7_sumOn_8 {Γ : Gam} {k8 : Int → Int → Int → Int → Mem → Rz} (hk8 : ∀ (y0 y1 y2 y3 : Int) (ν : Mem), V Γ KX7_sumOn 8 [(0, (2, y0)), (1, (0, y1)), (2, (0, y2)), (3, (0, y3))] [] ν (k8 y0 y1 y2 y3 ν)) (x0 x1 x2 x3 : Int) (μ : Mem) : V Γ KX7_sumOn 8 [(0, (2, x0)), (1, (0, x1)), (2, (0, x2)), (3, (0, x3))] [] μ (BX7_sumOn_8 k8 x0 x1 x2 x3 μ) := by
  unfold BX7_sumOn_8
  refine V_iload_n (κ := KX7_sumOn) (pc := 8) dX7_sumOn_8 3 rfl ?_
  refine V_aload_n (κ := KX7_sumOn) (pc := 9) dX7_sumOn_9 0 rfl rfl ?_
  refine V_callV (ci := 7) (T := TX7) (N := 24) rfl (by decide) (κ := KX7_sumOn) (pc := 10) (con_X7_high _ _) mth_X7_high rfl ⟨wd_1205, wp_58⟩ wd_1203 (st0 := [(0, x3)]) rfl rfl (by decide) (Nat.le_of_ble_eq_true rfl) dX7_sumOn_10 (fun _ _ _ h => VX_out rfl (by decide) h) fun t101 u102 => ?_
  refine V_icmp_ge (κ := KX7_sumOn) (pc := 13) (tgt := 61) dX7_sumOn_13 rfl ?_ ?_
  · refine V_iload_n (κ := KX7_sumOn) (pc := 61) dX7_sumOn_61 2 rfl ?_
    exact V_ireturn (κ := KX7_sumOn) (pc := 62) rfl rfl dX7_sumOn_62
  refine V_iconst (κ := KX7_sumOn) (pc := 16) dX7_sumOn_16 ⟨by decide, by decide⟩ ?_
  refine V_istore (κ := KX7_sumOn) (pc := 17) (lv' := [(4, (0, 0)), (0, (2, x0)), (1, (0, x1)), (2, (0, x2)), (3, (0, x3))]) dX7_sumOn_17 (by decide) rfl ?_
  refine V_sub (lv' := [(0, (2, x0)), (1, (0, x1)), (2, (0, x2)), (3, (0, x3)), (4, (0, 0))]) [1, 2, 3, 4, 0] rfl ?_
  exact VLX7_sumOn_19 hk8 FU _ _ _ _ _ _
theorem VLX7_sumOn_8 {Γ : Gam} : ∀ (n : Nat) (x0 x1 x2 x3 : Int) (μ : Mem), V Γ KX7_sumOn 8 [(0, (2, x0)), (1, (0, x1)), (2, (0, x2)), (3, (0, x3))] [] μ (LX7_sumOn_8 n x0 x1 x2 x3 μ)
  | 0, _, _, _, _, _ => V_none
  | n + 1, x0, x1, x2, x3, μ => VBX7_sumOn_8 (fun y0 y1 y2 y3 ν => VLX7_sumOn_8 n y0 y1 y2 y3 ν) x0 x1 x2 x3 μ
theorem VBX7_sumOn_0 {Γ : Gam} (x0 x1 : Int) (μ : Mem) : V Γ KX7_sumOn 0 [(0, (2, x0)), (1, (0, x1))] [] μ (BX7_sumOn_0 x0 x1 μ) := by
  unfold BX7_sumOn_0
  refine V_aload_n (κ := KX7_sumOn) (pc := 0) dX7_sumOn_0 0 rfl rfl ?_
  refine V_callV (ci := 7) (T := TX7) (N := 24) rfl (by decide) (κ := KX7_sumOn) (pc := 1) (con_X7_lays _ _) mth_X7_lays rfl ⟨wd_1217, wp_61⟩ wd_1215 (st0 := []) rfl rfl (by decide) (Nat.le_of_ble_eq_true rfl) dX7_sumOn_1 (fun _ _ _ h => VX_out rfl (by decide) h) fun _ u102 => ?_
  refine V_iconst (κ := KX7_sumOn) (pc := 4) dX7_sumOn_4 ⟨by decide, by decide⟩ ?_
  refine V_istore_n (κ := KX7_sumOn) (pc := 5) (lv' := [(2, (0, 0)), (0, (2, x0)), (1, (0, x1))]) dX7_sumOn_5 (by decide) rfl ?_
  refine V_iconst (κ := KX7_sumOn) (pc := 6) dX7_sumOn_6 ⟨by decide, by decide⟩ ?_
  refine V_istore_n (κ := KX7_sumOn) (pc := 7) (lv' := [(3, (0, 0)), (2, (0, 0)), (0, (2, x0)), (1, (0, x1))]) dX7_sumOn_7 (by decide) rfl ?_
  refine V_sub (lv' := [(0, (2, x0)), (1, (0, x1)), (2, (0, 0)), (3, (0, 0))]) [2, 3, 1, 0] rfl ?_
  exact VLX7_sumOn_8 FU _ _ _ _ _
theorem con_X7_sumOn (a0 a1 : Int) (μ : Mem) : Con (7) yX7_sumOn (.code yX7_sumOn cX7_sumOn 5 (some .int)) 0 [(2, a0), (0, a1)] μ (FX7_sumOn a0 a1 μ) := Con_intro KX7_sumOn (plainFor_of_name (by decide)) rfl (fun h => by cases h) (by decide) rfl (Nat.le_of_ble_eq_true rfl) (fun Γ => VBX7_sumOn_0 _ _ _)
abbrev KX7_toldOfPlate : Kap := (RX7, cX7_toldOfPlate, 3, 8, 0, (some .int), false, [])
theorem VBX7_toldOfPlate_0 {Γ : Gam} (x0 x1 x2 : Int) (μ : Mem) : V Γ KX7_toldOfPlate 0 [(0, (2, x0)), (1, (0, x1)), (2, (0, x2))] [] μ (BX7_toldOfPlate_0 x0 x1 x2 μ) := by
  unfold BX7_toldOfPlate_0
  refine V_iload_n (κ := KX7_toldOfPlate) (pc := 0) dX7_toldOfPlate_0 2 rfl ?_
  refine V_tsw (κ := KX7_toldOfPlate) (pc := 1) (os := [55, 63, 71, 77, 85, 93, 101, 109, 115, 121]) (tgt := 128) dX7_toldOfPlate_1 rfl rfl ?_ ⟨⟨56, rfl, ?_⟩, ⟨64, rfl, ?_⟩, ⟨72, rfl, ?_⟩, ⟨78, rfl, ?_⟩, ⟨86, rfl, ?_⟩, ⟨94, rfl, ?_⟩, ⟨102, rfl, ?_⟩, ⟨110, rfl, ?_⟩, ⟨116, rfl, ?_⟩, ⟨122, rfl, ?_⟩, trivial⟩
  · refine V_aload_n (κ := KX7_toldOfPlate) (pc := 128) dX7_toldOfPlate_128 0 rfl rfl ?_
    refine V_iload_n (κ := KX7_toldOfPlate) (pc := 129) dX7_toldOfPlate_129 1 rfl ?_
    refine V_callV (ci := 7) (T := TX7) (N := 24) rfl (by decide) (κ := KX7_toldOfPlate) (pc := 130) (con_X7_sumOn _ _ _) mth_X7_sumOn rfl ⟨wd_1311, wp_80⟩ wd_1309 (st0 := []) rfl rfl (by decide) (Nat.le_of_ble_eq_true rfl) dX7_toldOfPlate_130 (fun _ _ _ h => VX_out rfl (by decide) h) fun t101 u102 => ?_
    exact V_ireturn (κ := KX7_toldOfPlate) (pc := 133) rfl rfl dX7_toldOfPlate_133
  · refine V_aload_n (κ := KX7_toldOfPlate) (pc := 56) dX7_toldOfPlate_56 0 rfl rfl ?_
    refine V_iload_n (κ := KX7_toldOfPlate) (pc := 57) dX7_toldOfPlate_57 1 rfl ?_
    refine V_bipush (κ := KX7_toldOfPlate) (pc := 58) dX7_toldOfPlate_58 ⟨by decide, by decide⟩ (by decide) ?_
    refine V_callV (ci := 7) (T := TX7) (N := 24) rfl (by decide) (κ := KX7_toldOfPlate) (pc := 60) (con_X7_of _ _ _ _) mth_X7_of rfl ⟨wd_1233, wp_65⟩ wd_1231 (st0 := []) rfl rfl (by decide) (Nat.le_of_ble_eq_true rfl) dX7_toldOfPlate_60 (fun _ _ _ h => VX_out rfl (by decide) h) fun t103 u104 => ?_
    exact V_ireturn (κ := KX7_toldOfPlate) (pc := 63) rfl rfl dX7_toldOfPlate_63
  · refine V_aload_n (κ := KX7_toldOfPlate) (pc := 64) dX7_toldOfPlate_64 0 rfl rfl ?_
    refine V_iload_n (κ := KX7_toldOfPlate) (pc := 65) dX7_toldOfPlate_65 1 rfl ?_
    refine V_bipush (κ := KX7_toldOfPlate) (pc := 66) dX7_toldOfPlate_66 ⟨by decide, by decide⟩ (by decide) ?_
    refine V_callV (ci := 7) (T := TX7) (N := 24) rfl (by decide) (κ := KX7_toldOfPlate) (pc := 68) (con_X7_of _ _ _ _) mth_X7_of rfl ⟨wd_1233, wp_65⟩ wd_1231 (st0 := []) rfl rfl (by decide) (Nat.le_of_ble_eq_true rfl) dX7_toldOfPlate_68 (fun _ _ _ h => VX_out rfl (by decide) h) fun t105 u106 => ?_
    exact V_ireturn (κ := KX7_toldOfPlate) (pc := 71) rfl rfl dX7_toldOfPlate_71
  · refine V_aload_n (κ := KX7_toldOfPlate) (pc := 72) dX7_toldOfPlate_72 0 rfl rfl ?_
    refine V_iload_n (κ := KX7_toldOfPlate) (pc := 73) dX7_toldOfPlate_73 1 rfl ?_
    refine V_callV (ci := 7) (T := TX7) (N := 24) rfl (by decide) (κ := KX7_toldOfPlate) (pc := 74) (con_X7_squareOf _ _ _) mth_X7_squareOf rfl ⟨wd_1229, wp_64⟩ wd_1227 (st0 := []) rfl rfl (by decide) (Nat.le_of_ble_eq_true rfl) dX7_toldOfPlate_74 (fun _ _ _ h => VX_out rfl (by decide) h) fun t107 u108 => ?_
    exact V_ireturn (κ := KX7_toldOfPlate) (pc := 77) rfl rfl dX7_toldOfPlate_77
  · refine V_aload_n (κ := KX7_toldOfPlate) (pc := 78) dX7_toldOfPlate_78 0 rfl rfl ?_
    refine V_iload_n (κ := KX7_toldOfPlate) (pc := 79) dX7_toldOfPlate_79 1 rfl ?_
    refine V_bipush (κ := KX7_toldOfPlate) (pc := 80) dX7_toldOfPlate_80 ⟨by decide, by decide⟩ (by decide) ?_
    refine V_callV (ci := 7) (T := TX7) (N := 24) rfl (by decide) (κ := KX7_toldOfPlate) (pc := 82) (con_X7_of _ _ _ _) mth_X7_of rfl ⟨wd_1233, wp_65⟩ wd_1231 (st0 := []) rfl rfl (by decide) (Nat.le_of_ble_eq_true rfl) dX7_toldOfPlate_82 (fun _ _ _ h => VX_out rfl (by decide) h) fun t109 u110 => ?_
    exact V_ireturn (κ := KX7_toldOfPlate) (pc := 85) rfl rfl dX7_toldOfPlate_85
  · refine V_aload_n (κ := KX7_toldOfPlate) (pc := 86) dX7_toldOfPlate_86 0 rfl rfl ?_
    refine V_iload_n (κ := KX7_toldOfPlate) (pc := 87) dX7_toldOfPlate_87 1 rfl ?_
    refine V_bipush (κ := KX7_toldOfPlate) (pc := 88) dX7_toldOfPlate_88 ⟨by decide, by decide⟩ (by decide) ?_
    refine V_callV (ci := 7) (T := TX7) (N := 24) rfl (by decide) (κ := KX7_toldOfPlate) (pc := 90) (con_X7_of _ _ _ _) mth_X7_of rfl ⟨wd_1233, wp_65⟩ wd_1231 (st0 := []) rfl rfl (by decide) (Nat.le_of_ble_eq_true rfl) dX7_toldOfPlate_90 (fun _ _ _ h => VX_out rfl (by decide) h) fun t111 u112 => ?_
    exact V_ireturn (κ := KX7_toldOfPlate) (pc := 93) rfl rfl dX7_toldOfPlate_93
  · refine V_aload_n (κ := KX7_toldOfPlate) (pc := 94) dX7_toldOfPlate_94 0 rfl rfl ?_
    refine V_iload_n (κ := KX7_toldOfPlate) (pc := 95) dX7_toldOfPlate_95 1 rfl ?_
    refine V_bipush (κ := KX7_toldOfPlate) (pc := 96) dX7_toldOfPlate_96 ⟨by decide, by decide⟩ (by decide) ?_
    refine V_callV (ci := 7) (T := TX7) (N := 24) rfl (by decide) (κ := KX7_toldOfPlate) (pc := 98) (con_X7_of _ _ _ _) mth_X7_of rfl ⟨wd_1233, wp_65⟩ wd_1231 (st0 := []) rfl rfl (by decide) (Nat.le_of_ble_eq_true rfl) dX7_toldOfPlate_98 (fun _ _ _ h => VX_out rfl (by decide) h) fun t113 u114 => ?_
    exact V_ireturn (κ := KX7_toldOfPlate) (pc := 101) rfl rfl dX7_toldOfPlate_101
  · refine V_aload_n (κ := KX7_toldOfPlate) (pc := 102) dX7_toldOfPlate_102 0 rfl rfl ?_
    refine V_iload_n (κ := KX7_toldOfPlate) (pc := 103) dX7_toldOfPlate_103 1 rfl ?_
    refine V_bipush (κ := KX7_toldOfPlate) (pc := 104) dX7_toldOfPlate_104 ⟨by decide, by decide⟩ (by decide) ?_
    refine V_callV (ci := 7) (T := TX7) (N := 24) rfl (by decide) (κ := KX7_toldOfPlate) (pc := 106) (con_X7_of _ _ _ _) mth_X7_of rfl ⟨wd_1233, wp_65⟩ wd_1231 (st0 := []) rfl rfl (by decide) (Nat.le_of_ble_eq_true rfl) dX7_toldOfPlate_106 (fun _ _ _ h => VX_out rfl (by decide) h) fun t115 u116 => ?_
    exact V_ireturn (κ := KX7_toldOfPlate) (pc := 109) rfl rfl dX7_toldOfPlate_109
  · refine V_aload_n (κ := KX7_toldOfPlate) (pc := 110) dX7_toldOfPlate_110 0 rfl rfl ?_
    refine V_iload_n (κ := KX7_toldOfPlate) (pc := 111) dX7_toldOfPlate_111 1 rfl ?_
    refine V_callV (ci := 7) (T := TX7) (N := 24) rfl (by decide) (κ := KX7_toldOfPlate) (pc := 112) (con_X7_dots _ _ _) mth_X7_dots rfl ⟨wd_1213, wp_60⟩ wd_1211 (st0 := []) rfl rfl (by decide) (Nat.le_of_ble_eq_true rfl) dX7_toldOfPlate_112 (fun _ _ _ h => VX_out rfl (by decide) h) fun t117 u118 => ?_
    exact V_ireturn (κ := KX7_toldOfPlate) (pc := 115) rfl rfl dX7_toldOfPlate_115
  · refine V_aload_n (κ := KX7_toldOfPlate) (pc := 116) dX7_toldOfPlate_116 0 rfl rfl ?_
    refine V_iload_n (κ := KX7_toldOfPlate) (pc := 117) dX7_toldOfPlate_117 1 rfl ?_
    refine V_callV (ci := 7) (T := TX7) (N := 24) rfl (by decide) (κ := KX7_toldOfPlate) (pc := 118) (con_X7_spots _ _ _) mth_X7_spots rfl ⟨wd_1299, wp_77⟩ wd_1297 (st0 := []) rfl rfl (by decide) (Nat.le_of_ble_eq_true rfl) dX7_toldOfPlate_118 (fun _ _ _ h => VX_out rfl (by decide) h) fun t119 u120 => ?_
    exact V_ireturn (κ := KX7_toldOfPlate) (pc := 121) rfl rfl dX7_toldOfPlate_121
  · refine V_aload_n (κ := KX7_toldOfPlate) (pc := 122) dX7_toldOfPlate_122 0 rfl rfl ?_
    refine V_iload_n (κ := KX7_toldOfPlate) (pc := 123) dX7_toldOfPlate_123 1 rfl ?_
    refine V_callV (ci := 7) (T := TX7) (N := 24) rfl (by decide) (κ := KX7_toldOfPlate) (pc := 124) (con_X7_blocks _ _ _) mth_X7_blocks rfl ⟨wd_1307, wp_79⟩ wd_1305 (st0 := []) rfl rfl (by decide) (Nat.le_of_ble_eq_true rfl) dX7_toldOfPlate_124 (fun _ _ _ h => VX_out rfl (by decide) h) fun t121 u122 => ?_
    exact V_ireturn (κ := KX7_toldOfPlate) (pc := 127) rfl rfl dX7_toldOfPlate_127
theorem con_X7_toldOfPlate (a0 a1 a2 : Int) (μ : Mem) : Con (8) yX7_toldOfPlate (.code yX7_toldOfPlate cX7_toldOfPlate 3 (some .int)) 0 [(2, a0), (0, a1), (0, a2)] μ (FX7_toldOfPlate a0 a1 a2 μ) := Con_intro KX7_toldOfPlate (plainFor_of_name (by decide)) rfl (fun h => by cases h) (by decide) rfl (Nat.le_of_ble_eq_true rfl) (fun Γ => VBX7_toldOfPlate_0 _ _ _ _)
abbrev KX7_checksum : Kap := (RX7, cX7_checksum, 5, 10, 1, (some .long), false, [])
theorem VBX7_checksum_94 {Γ : Gam} {k83 : Int → Int → Int → Mem → Rz} (hk83 : ∀ (y0 y1 y3 : Int) (ν : Mem), V Γ KX7_checksum 83 [(0, (2, y0)), (1, (1, y1)), (3, (0, y3))] [] ν (k83 y0 y1 y3 ν)) {k94 : Int → Int → Int → Int → Mem → Rz} (hk94 : ∀ (y0 y1 y3 y4 : Int) (ν : Mem), V Γ KX7_checksum 94 [(0, (2, y0)), (1, (1, y1)), (3, (0, y3)), (4, (0, y4))] [] ν (k94 y0 y1 y3 y4 ν)) (x0 x1 x3 x4 : Int) (μ : Mem) : V Γ KX7_checksum 94 [(0, (2, x0)), (1, (1, x1)), (3, (0, x3)), (4, (0, x4))] [] μ (BX7_checksum_94 k83 k94 x0 x1 x3 x4 μ) := by
  unfold BX7_checksum_94
  refine V_iload (κ := KX7_checksum) (pc := 94) dX7_checksum_94 3 rfl ?_
  refine V_aload_n (κ := KX7_checksum) (pc := 96) dX7_checksum_96 0 rfl rfl ?_
  refine V_callV (ci := 7) (T := TX7) (N := 24) rfl (by decide) (κ := KX7_checksum) (pc := 97) (con_X7_wide _ _) mth_X7_wide rfl ⟨wd_1201, wp_57⟩ wd_1199 (st0 := [(0, x4)]) rfl rfl (by decide) (Nat.le_of_ble_eq_true rfl) dX7_checksum_97 (fun _ _ _ h => VX_out rfl (by decide) h) fun t101 u102 => ?_
  refine V_icmp_ge (κ := KX7_checksum) (pc := 100) (tgt := 138) dX7_checksum_100 rfl ?_ ?_
  · refine V_iinc (κ := KX7_checksum) (pc := 138) (lv' := [(3, (0, w32 (x3 + 1))), (0, (2, x0)), (1, (1, x1)), (4, (0, x4))]) dX7_checksum_138 2 rfl (by decide) rfl ?_
    refine V_goto (κ := KX7_checksum) (pc := 141) (tgt := 83) dX7_checksum_141 rfl ?_
    refine V_sub (lv' := [(0, (2, x0)), (1, (1, x1)), (3, (0, w32 (x3 + 1)))]) [1, 2, 0] rfl ?_
    exact hk83 _ _ _ _
  refine V_lload_n (κ := KX7_checksum) (pc := 103) dX7_checksum_103 1 rfl ?_
  refine V_aload_n (κ := KX7_checksum) (pc := 104) dX7_checksum_104 0 rfl rfl ?_
  refine V_iload (κ := KX7_checksum) (pc := 105) dX7_checksum_105 3 rfl ?_
  refine V_iload_n (κ := KX7_checksum) (pc := 107) dX7_checksum_107 2 rfl ?_
  refine V_callV (ci := 7) (T := TX7) (N := 24) rfl (by decide) (κ := KX7_checksum) (pc := 108) (con_X7_toneAt _ _ _ _) mth_X7_toneAt rfl ⟨wd_1249, wp_68⟩ wd_1247 (st0 := [(1, x1)]) rfl rfl (by decide) (Nat.le_of_ble_eq_true rfl) dX7_checksum_108 (fun _ _ _ h => VX_out rfl (by decide) h) fun t103 u104 => ?_
  refine V_i2l (κ := KX7_checksum) (pc := 111) dX7_checksum_111 ?_
  refine V_callS (κ := KX7_checksum) (pc := 112) (con_X7_joins _ _ _) mth_X7_joins wd_1430 wd_1429 (st0 := []) rfl rfl (by decide) (Nat.le_of_ble_eq_true rfl) dX7_checksum_112 (fun _ _ _ h => VX_out rfl (by decide) h) fun t105 u106 => ?_
  refine V_aload_n (κ := KX7_checksum) (pc := 115) dX7_checksum_115 0 rfl rfl ?_
  refine V_getf 7 (κ := KX7_checksum) (pc := 116) rfl (by decide) rfl inX7 9 (by decide) wd_996 rfl (t := 2) rfl dX7_checksum_116 fun t107 => ?_
  refine V_bipush (κ := KX7_checksum) (pc := 119) dX7_checksum_119 ⟨by decide, by decide⟩ (by decide) ?_
  refine V_iload_n (κ := KX7_checksum) (pc := 121) dX7_checksum_121 2 rfl ?_
  refine V_imul (κ := KX7_checksum) (pc := 122) dX7_checksum_122 ?_
  refine V_iload (κ := KX7_checksum) (pc := 123) dX7_checksum_123 3 rfl ?_
  refine V_iadd (κ := KX7_checksum) (pc := 125) dX7_checksum_125 ?_
  refine V_iaload (κ := KX7_checksum) (pc := 126) dX7_checksum_126 fun t108 => ?_
  refine V_i2l (κ := KX7_checksum) (pc := 127) dX7_checksum_127 ?_
  refine V_callS (κ := KX7_checksum) (pc := 128) (con_X7_joins _ _ _) mth_X7_joins wd_1430 wd_1429 (st0 := []) rfl rfl (by decide) (Nat.le_of_ble_eq_true rfl) dX7_checksum_128 (fun _ _ _ h => VX_out rfl (by decide) h) fun t109 u110 => ?_
  refine V_lstore_n (κ := KX7_checksum) (pc := 131) (lv' := [(1, (1, t109)), (0, (2, x0)), (3, (0, x3)), (4, (0, x4))]) dX7_checksum_131 (by decide) rfl ?_
  refine V_iinc (κ := KX7_checksum) (pc := 132) (lv' := [(4, (0, w32 (x4 + 1))), (1, (1, t109)), (0, (2, x0)), (3, (0, x3))]) dX7_checksum_132 3 rfl (by decide) rfl ?_
  refine V_goto (κ := KX7_checksum) (pc := 135) (tgt := 94) dX7_checksum_135 rfl ?_
  refine V_sub (lv' := [(0, (2, x0)), (1, (1, t109)), (3, (0, x3)), (4, (0, w32 (x4 + 1)))]) [2, 1, 3, 0] rfl ?_
  exact hk94 _ _ _ _ _
theorem VLX7_checksum_94 {Γ : Gam} {k83 : Int → Int → Int → Mem → Rz} (hk83 : ∀ (y0 y1 y3 : Int) (ν : Mem), V Γ KX7_checksum 83 [(0, (2, y0)), (1, (1, y1)), (3, (0, y3))] [] ν (k83 y0 y1 y3 ν)) : ∀ (n : Nat) (x0 x1 x3 x4 : Int) (μ : Mem), V Γ KX7_checksum 94 [(0, (2, x0)), (1, (1, x1)), (3, (0, x3)), (4, (0, x4))] [] μ (LX7_checksum_94 k83 n x0 x1 x3 x4 μ)
  | 0, _, _, _, _, _ => V_none
  | n + 1, x0, x1, x3, x4, μ => VBX7_checksum_94 hk83 (fun y0 y1 y3 y4 ν => VLX7_checksum_94 hk83 n y0 y1 y3 y4 ν) x0 x1 x3 x4 μ
theorem VBX7_checksum_83 {Γ : Gam} {k83 : Int → Int → Int → Mem → Rz} (hk83 : ∀ (y0 y1 y3 : Int) (ν : Mem), V Γ KX7_checksum 83 [(0, (2, y0)), (1, (1, y1)), (3, (0, y3))] [] ν (k83 y0 y1 y3 ν)) (x0 x1 x3 : Int) (μ : Mem) : V Γ KX7_checksum 83 [(0, (2, x0)), (1, (1, x1)), (3, (0, x3))] [] μ (BX7_checksum_83 k83 x0 x1 x3 μ) := by
  unfold BX7_checksum_83
  refine V_iload_n (κ := KX7_checksum) (pc := 83) dX7_checksum_83 2 rfl ?_
  refine V_aload_n (κ := KX7_checksum) (pc := 84) dX7_checksum_84 0 rfl rfl ?_
  refine V_callV (ci := 7) (T := TX7) (N := 24) rfl (by decide) (κ := KX7_checksum) (pc := 85) (con_X7_high _ _) mth_X7_high rfl ⟨wd_1205, wp_58⟩ wd_1203 (st0 := [(0, x3)]) rfl rfl (by decide) (Nat.le_of_ble_eq_true rfl) dX7_checksum_85 (fun _ _ _ h => VX_out rfl (by decide) h) fun t101 u102 => ?_
  refine V_icmp_ge (κ := KX7_checksum) (pc := 88) (tgt := 144) dX7_checksum_88 rfl ?_ ?_
  · refine V_lload_n (κ := KX7_checksum) (pc := 144) dX7_checksum_144 1 rfl ?_
    exact V_lreturn (κ := KX7_checksum) (pc := 145) rfl rfl dX7_checksum_145
  refine V_iconst (κ := KX7_checksum) (pc := 91) dX7_checksum_91 ⟨by decide, by decide⟩ ?_
  refine V_istore (κ := KX7_checksum) (pc := 92) (lv' := [(4, (0, 0)), (0, (2, x0)), (1, (1, x1)), (3, (0, x3))]) dX7_checksum_92 (by decide) rfl ?_
  refine V_sub (lv' := [(0, (2, x0)), (1, (1, x1)), (3, (0, x3)), (4, (0, 0))]) [1, 2, 3, 0] rfl ?_
  exact VLX7_checksum_94 hk83 FU _ _ _ _ _
theorem VLX7_checksum_83 {Γ : Gam} : ∀ (n : Nat) (x0 x1 x3 : Int) (μ : Mem), V Γ KX7_checksum 83 [(0, (2, x0)), (1, (1, x1)), (3, (0, x3))] [] μ (LX7_checksum_83 n x0 x1 x3 μ)
  | 0, _, _, _, _ => V_none
  | n + 1, x0, x1, x3, μ => VBX7_checksum_83 (fun y0 y1 y3 ν => VLX7_checksum_83 n y0 y1 y3 ν) x0 x1 x3 μ
theorem VBX7_checksum_49 {Γ : Gam} {k38 : Int → Int → Int → Mem → Rz} (hk38 : ∀ (y0 y1 y3 : Int) (ν : Mem), V Γ KX7_checksum 38 [(0, (2, y0)), (1, (1, y1)), (3, (0, y3))] [] ν (k38 y0 y1 y3 ν)) {k49 : Int → Int → Int → Int → Mem → Rz} (hk49 : ∀ (y0 y1 y3 y4 : Int) (ν : Mem), V Γ KX7_checksum 49 [(0, (2, y0)), (1, (1, y1)), (3, (0, y3)), (4, (0, y4))] [] ν (k49 y0 y1 y3 y4 ν)) (x0 x1 x3 x4 : Int) (μ : Mem) : V Γ KX7_checksum 49 [(0, (2, x0)), (1, (1, x1)), (3, (0, x3)), (4, (0, x4))] [] μ (BX7_checksum_49 k38 k49 x0 x1 x3 x4 μ) := by
  unfold BX7_checksum_49
  refine V_iload (κ := KX7_checksum) (pc := 49) dX7_checksum_49 3 rfl ?_
  refine V_bipush (κ := KX7_checksum) (pc := 51) dX7_checksum_51 ⟨by decide, by decide⟩ (by decide) ?_
  refine V_icmp_ge (κ := KX7_checksum) (pc := 53) (tgt := 75) dX7_checksum_53 rfl ?_ ?_
  · refine V_iinc (κ := KX7_checksum) (pc := 75) (lv' := [(3, (0, w32 (x3 + 1))), (0, (2, x0)), (1, (1, x1)), (4, (0, x4))]) dX7_checksum_75 2 rfl (by decide) rfl ?_
    refine V_goto (κ := KX7_checksum) (pc := 78) (tgt := 38) dX7_checksum_78 rfl ?_
    refine V_sub (lv' := [(0, (2, x0)), (1, (1, x1)), (3, (0, w32 (x3 + 1)))]) [1, 2, 0] rfl ?_
    exact hk38 _ _ _ _
  refine V_lload_n (κ := KX7_checksum) (pc := 56) dX7_checksum_56 1 rfl ?_
  refine V_aload_n (κ := KX7_checksum) (pc := 57) dX7_checksum_57 0 rfl rfl ?_
  refine V_iload_n (κ := KX7_checksum) (pc := 58) dX7_checksum_58 2 rfl ?_
  refine V_iload (κ := KX7_checksum) (pc := 59) dX7_checksum_59 3 rfl ?_
  refine V_callV (ci := 7) (T := TX7) (N := 24) rfl (by decide) (κ := KX7_checksum) (pc := 61) (con_X7_toldOfPlate _ _ _ _) mth_X7_toldOfPlate rfl ⟨wd_1295, wp_76⟩ wd_1293 (st0 := [(1, x1)]) rfl rfl (by decide) (Nat.le_of_ble_eq_true rfl) dX7_checksum_61 (fun _ _ _ h => VX_out rfl (by decide) h) fun t101 u102 => ?_
  refine V_i2l (κ := KX7_checksum) (pc := 64) dX7_checksum_64 ?_
  refine V_callS (κ := KX7_checksum) (pc := 65) (con_X7_joins _ _ _) mth_X7_joins wd_1430 wd_1429 (st0 := []) rfl rfl (by decide) (Nat.le_of_ble_eq_true rfl) dX7_checksum_65 (fun _ _ _ h => VX_out rfl (by decide) h) fun t103 u104 => ?_
  refine V_lstore_n (κ := KX7_checksum) (pc := 68) (lv' := [(1, (1, t103)), (0, (2, x0)), (3, (0, x3)), (4, (0, x4))]) dX7_checksum_68 (by decide) rfl ?_
  refine V_iinc (κ := KX7_checksum) (pc := 69) (lv' := [(4, (0, w32 (x4 + 1))), (1, (1, t103)), (0, (2, x0)), (3, (0, x3))]) dX7_checksum_69 3 rfl (by decide) rfl ?_
  refine V_goto (κ := KX7_checksum) (pc := 72) (tgt := 49) dX7_checksum_72 rfl ?_
  refine V_sub (lv' := [(0, (2, x0)), (1, (1, t103)), (3, (0, x3)), (4, (0, w32 (x4 + 1)))]) [2, 1, 3, 0] rfl ?_
  exact hk49 _ _ _ _ _
theorem VLX7_checksum_49 {Γ : Gam} {k38 : Int → Int → Int → Mem → Rz} (hk38 : ∀ (y0 y1 y3 : Int) (ν : Mem), V Γ KX7_checksum 38 [(0, (2, y0)), (1, (1, y1)), (3, (0, y3))] [] ν (k38 y0 y1 y3 ν)) : ∀ (n : Nat) (x0 x1 x3 x4 : Int) (μ : Mem), V Γ KX7_checksum 49 [(0, (2, x0)), (1, (1, x1)), (3, (0, x3)), (4, (0, x4))] [] μ (LX7_checksum_49 k38 n x0 x1 x3 x4 μ)
  | 0, _, _, _, _, _ => V_none
  | n + 1, x0, x1, x3, x4, μ => VBX7_checksum_49 hk38 (fun y0 y1 y3 y4 ν => VLX7_checksum_49 hk38 n y0 y1 y3 y4 ν) x0 x1 x3 x4 μ
theorem VBX7_checksum_38 {Γ : Gam} {k38 : Int → Int → Int → Mem → Rz} (hk38 : ∀ (y0 y1 y3 : Int) (ν : Mem), V Γ KX7_checksum 38 [(0, (2, y0)), (1, (1, y1)), (3, (0, y3))] [] ν (k38 y0 y1 y3 ν)) (x0 x1 x3 : Int) (μ : Mem) : V Γ KX7_checksum 38 [(0, (2, x0)), (1, (1, x1)), (3, (0, x3))] [] μ (BX7_checksum_38 k38 x0 x1 x3 μ) := by
  unfold BX7_checksum_38
  refine V_iload_n (κ := KX7_checksum) (pc := 38) dX7_checksum_38 2 rfl ?_
  refine V_aload_n (κ := KX7_checksum) (pc := 39) dX7_checksum_39 0 rfl rfl ?_
  refine V_callV (ci := 7) (T := TX7) (N := 24) rfl (by decide) (κ := KX7_checksum) (pc := 40) (con_X7_plates _ _) mth_X7_plates rfl ⟨wd_1189, wp_55⟩ wd_1187 (st0 := [(0, x3)]) rfl rfl (by decide) (Nat.le_of_ble_eq_true rfl) dX7_checksum_40 (fun _ _ _ h => VX_out rfl (by decide) h) fun t101 u102 => ?_
  refine V_icmp_ge (κ := KX7_checksum) (pc := 43) (tgt := 81) dX7_checksum_43 rfl ?_ ?_
  · refine V_iconst (κ := KX7_checksum) (pc := 81) dX7_checksum_81 ⟨by decide, by decide⟩ ?_
    refine V_istore_n (κ := KX7_checksum) (pc := 82) (lv' := [(3, (0, 0)), (0, (2, x0)), (1, (1, x1))]) dX7_checksum_82 (by decide) rfl ?_
    refine V_sub (lv' := [(0, (2, x0)), (1, (1, x1)), (3, (0, 0))]) [1, 2, 0] rfl ?_
    exact VLX7_checksum_83 FU _ _ _ _
  refine V_iconst (κ := KX7_checksum) (pc := 46) dX7_checksum_46 ⟨by decide, by decide⟩ ?_
  refine V_istore (κ := KX7_checksum) (pc := 47) (lv' := [(4, (0, 0)), (0, (2, x0)), (1, (1, x1)), (3, (0, x3))]) dX7_checksum_47 (by decide) rfl ?_
  refine V_sub (lv' := [(0, (2, x0)), (1, (1, x1)), (3, (0, x3)), (4, (0, 0))]) [1, 2, 3, 0] rfl ?_
  exact VLX7_checksum_49 hk38 FU _ _ _ _ _
theorem VLX7_checksum_38 {Γ : Gam} : ∀ (n : Nat) (x0 x1 x3 : Int) (μ : Mem), V Γ KX7_checksum 38 [(0, (2, x0)), (1, (1, x1)), (3, (0, x3))] [] μ (LX7_checksum_38 n x0 x1 x3 μ)
  | 0, _, _, _, _ => V_none
  | n + 1, x0, x1, x3, μ => VBX7_checksum_38 (fun y0 y1 y3 ν => VLX7_checksum_38 n y0 y1 y3 ν) x0 x1 x3 μ
theorem VBX7_checksum_13 {Γ : Gam} {k13 : Int → Int → Int → Mem → Rz} (hk13 : ∀ (y0 y1 y3 : Int) (ν : Mem), V Γ KX7_checksum 13 [(0, (2, y0)), (1, (1, y1)), (3, (0, y3))] [] ν (k13 y0 y1 y3 ν)) (x0 x1 x3 : Int) (μ : Mem) : V Γ KX7_checksum 13 [(0, (2, x0)), (1, (1, x1)), (3, (0, x3))] [] μ (BX7_checksum_13 k13 x0 x1 x3 μ) := by
  unfold BX7_checksum_13
  refine V_iload_n (κ := KX7_checksum) (pc := 13) dX7_checksum_13 2 rfl ?_
  refine V_bipush (κ := KX7_checksum) (pc := 14) dX7_checksum_14 ⟨by decide, by decide⟩ (by decide) ?_
  refine V_icmp_ge (κ := KX7_checksum) (pc := 16) (tgt := 36) dX7_checksum_16 rfl ?_ ?_
  · refine V_iconst (κ := KX7_checksum) (pc := 36) dX7_checksum_36 ⟨by decide, by decide⟩ ?_
    refine V_istore_n (κ := KX7_checksum) (pc := 37) (lv' := [(3, (0, 0)), (0, (2, x0)), (1, (1, x1))]) dX7_checksum_37 (by decide) rfl ?_
    refine V_sub (lv' := [(0, (2, x0)), (1, (1, x1)), (3, (0, 0))]) [1, 2, 0] rfl ?_
    exact VLX7_checksum_38 FU _ _ _ _
  refine V_lload_n (κ := KX7_checksum) (pc := 19) dX7_checksum_19 1 rfl ?_
  refine V_aload_n (κ := KX7_checksum) (pc := 20) dX7_checksum_20 0 rfl rfl ?_
  refine V_iload_n (κ := KX7_checksum) (pc := 21) dX7_checksum_21 2 rfl ?_
  refine V_callV (ci := 7) (T := TX7) (N := 24) rfl (by decide) (κ := KX7_checksum) (pc := 22) (con_X7_toldOf _ _ _) mth_X7_toldOf rfl ⟨wd_1197, wp_56⟩ wd_1195 (st0 := [(1, x1)]) rfl rfl (by decide) (Nat.le_of_ble_eq_true rfl) dX7_checksum_22 (fun _ _ _ h => VX_out rfl (by decide) h) fun t101 u102 => ?_
  refine V_i2l (κ := KX7_checksum) (pc := 25) dX7_checksum_25 ?_
  refine V_callS (κ := KX7_checksum) (pc := 26) (con_X7_joins _ _ _) mth_X7_joins wd_1430 wd_1429 (st0 := []) rfl rfl (by decide) (Nat.le_of_ble_eq_true rfl) dX7_checksum_26 (fun _ _ _ h => VX_out rfl (by decide) h) fun t103 u104 => ?_
  refine V_lstore_n (κ := KX7_checksum) (pc := 29) (lv' := [(1, (1, t103)), (0, (2, x0)), (3, (0, x3))]) dX7_checksum_29 (by decide) rfl ?_
  refine V_iinc (κ := KX7_checksum) (pc := 30) (lv' := [(3, (0, w32 (x3 + 1))), (1, (1, t103)), (0, (2, x0))]) dX7_checksum_30 2 rfl (by decide) rfl ?_
  refine V_goto (κ := KX7_checksum) (pc := 33) (tgt := 13) dX7_checksum_33 rfl ?_
  refine V_sub (lv' := [(0, (2, x0)), (1, (1, t103)), (3, (0, w32 (x3 + 1)))]) [2, 1, 0] rfl ?_
  exact hk13 _ _ _ _
theorem VLX7_checksum_13 {Γ : Gam} : ∀ (n : Nat) (x0 x1 x3 : Int) (μ : Mem), V Γ KX7_checksum 13 [(0, (2, x0)), (1, (1, x1)), (3, (0, x3))] [] μ (LX7_checksum_13 n x0 x1 x3 μ)
  | 0, _, _, _, _ => V_none
  | n + 1, x0, x1, x3, μ => VBX7_checksum_13 (fun y0 y1 y3 ν => VLX7_checksum_13 n y0 y1 y3 ν) x0 x1 x3 μ
theorem VBX7_checksum_0 {Γ : Gam} (x0 : Int) (μ : Mem) : V Γ KX7_checksum 0 [(0, (2, x0))] [] μ (BX7_checksum_0 x0 μ) := by
  unfold BX7_checksum_0
  refine V_aload_n (κ := KX7_checksum) (pc := 0) dX7_checksum_0 0 rfl rfl ?_
  refine V_iconst (κ := KX7_checksum) (pc := 1) dX7_checksum_1 ⟨by decide, by decide⟩ ?_
  refine V_putf 7 (κ := KX7_checksum) (pc := 2) rfl (by decide) rfl inX7 tyX7 tyX7_ok nmX7 0 (by decide) wd_987 rfl rfl (t := 0) rfl rfl dX7_checksum_2 fun u101 => ?_
  refine V_aload_n (κ := KX7_checksum) (pc := 5) dX7_checksum_5 0 rfl rfl ?_
  refine V_callV (ci := 7) (T := TX7) (N := 24) rfl (by decide) (κ := KX7_checksum) (pc := 6) (con_X7_lays _ _) mth_X7_lays rfl ⟨wd_1217, wp_61⟩ wd_1215 (st0 := []) rfl rfl (by decide) (Nat.le_of_ble_eq_true rfl) dX7_checksum_6 (fun _ _ _ h => VX_out rfl (by decide) h) fun _ u103 => ?_
  refine V_lconst (κ := KX7_checksum) (pc := 9) (z := 0) dX7_checksum_9 ⟨by decide, by decide⟩ (by decide) ?_
  refine V_lstore_n (κ := KX7_checksum) (pc := 10) (lv' := [(1, (1, 0)), (0, (2, x0))]) dX7_checksum_10 (by decide) rfl ?_
  refine V_iconst (κ := KX7_checksum) (pc := 11) dX7_checksum_11 ⟨by decide, by decide⟩ ?_
  refine V_istore_n (κ := KX7_checksum) (pc := 12) (lv' := [(3, (0, 0)), (1, (1, 0)), (0, (2, x0))]) dX7_checksum_12 (by decide) rfl ?_
  refine V_sub (lv' := [(0, (2, x0)), (1, (1, 0)), (3, (0, 0))]) [2, 1, 0] rfl ?_
  exact VLX7_checksum_13 FU _ _ _ _
theorem con_X7_checksum (a0 : Int) (μ : Mem) : Con (10) yX7_checksum (.code yX7_checksum cX7_checksum 5 (some .long)) 1 [(2, a0)] μ (FX7_checksum a0 μ) := Con_intro KX7_checksum (plainFor_of_name (by decide)) rfl (fun h => by cases h) (by decide) rfl (Nat.le_of_ble_eq_true rfl) (fun Γ => VBX7_checksum_0 _ _)
abbrev KX7_change : Kap := (RX7, cX7_change, 3, 2, 9, none, false, [])
theorem VBX7_change_70 {Γ : Gam} (x0 s0 s1 : Int) (μ : Mem) : V Γ KX7_change 70 [(0, (2, x0))] [(0, s0), (2, s1)] μ (BX7_change_70 x0 s0 s1 μ) := by
  unfold BX7_change_70
  refine V_putf 7 (κ := KX7_change) (pc := 70) rfl (by decide) rfl inX7 tyX7 tyX7_ok nmX7 4 (by decide) wd_991 rfl rfl (t := 0) rfl rfl dX7_change_70 fun u101 => ?_
  refine V_aload_n (κ := KX7_change) (pc := 73) dX7_change_73 0 rfl rfl ?_
  refine V_iconst (κ := KX7_change) (pc := 74) dX7_change_74 ⟨by decide, by decide⟩ ?_
  refine V_putz 7 (κ := KX7_change) (pc := 75) rfl (by decide) rfl inX7 tyX7 tyX7_ok nmX7 10 (by decide) wd_997 rfl rfl rfl rfl dX7_change_75 fun u102 => ?_
  exact V_vreturn (κ := KX7_change) (pc := 78) rfl rfl dX7_change_78
theorem VBX7_change_12 {Γ : Gam} {k12 : Int → Int → Int → Mem → Rz} (hk12 : ∀ (y0 y1 y2 : Int) (ν : Mem), V Γ KX7_change 12 [(0, (2, y0)), (1, (0, y1)), (2, (0, y2))] [] ν (k12 y0 y1 y2 ν)) (x0 x1 x2 : Int) (μ : Mem) : V Γ KX7_change 12 [(0, (2, x0)), (1, (0, x1)), (2, (0, x2))] [] μ (BX7_change_12 k12 x0 x1 x2 μ) := by
  unfold BX7_change_12
  refine V_iload_n (κ := KX7_change) (pc := 12) dX7_change_12 2 rfl ?_
  refine V_sipush (κ := KX7_change) (pc := 13) dX7_change_13 ⟨by decide, by decide⟩ (by decide) ?_
  refine V_icmp_ge (κ := KX7_change) (pc := 16) (tgt := 42) dX7_change_16 rfl ?_ ?_
  · refine V_aload_n (κ := KX7_change) (pc := 42) dX7_change_42 0 rfl rfl ?_
    refine V_iload_n (κ := KX7_change) (pc := 43) dX7_change_43 1 rfl ?_
    refine V_putf 7 (κ := KX7_change) (pc := 44) rfl (by decide) rfl inX7 tyX7 tyX7_ok nmX7 3 (by decide) wd_990 rfl rfl (t := 0) rfl rfl dX7_change_44 fun u101 => ?_
    refine V_aload_n (κ := KX7_change) (pc := 47) dX7_change_47 0 rfl rfl ?_
    refine V_aload_n (κ := KX7_change) (pc := 48) dX7_change_48 0 rfl rfl ?_
    refine V_getf 7 (κ := KX7_change) (pc := 49) rfl (by decide) rfl inX7 4 (by decide) wd_991 rfl (t := 0) rfl dX7_change_49 fun t102 => ?_
    refine V_bipush (κ := KX7_change) (pc := 52) dX7_change_52 ⟨by decide, by decide⟩ (by decide) ?_
    refine V_icmp_ge (κ := KX7_change) (pc := 54) (tgt := 66) dX7_change_54 rfl ?_ ?_
    · refine V_aload_n (κ := KX7_change) (pc := 66) dX7_change_66 0 rfl rfl ?_
      refine V_getf 7 (κ := KX7_change) (pc := 67) rfl (by decide) rfl inX7 4 (by decide) wd_991 rfl (t := 0) rfl dX7_change_67 fun t103 => ?_
      refine V_sub (lv' := [(0, (2, x0))]) [0] rfl ?_
      exact VBX7_change_70 _ _ _ _
    refine V_aload_n (κ := KX7_change) (pc := 57) dX7_change_57 0 rfl rfl ?_
    refine V_getf 7 (κ := KX7_change) (pc := 58) rfl (by decide) rfl inX7 4 (by decide) wd_991 rfl (t := 0) rfl dX7_change_58 fun t104 => ?_
    refine V_iconst (κ := KX7_change) (pc := 61) dX7_change_61 ⟨by decide, by decide⟩ ?_
    refine V_iadd (κ := KX7_change) (pc := 62) dX7_change_62 ?_
    refine V_goto (κ := KX7_change) (pc := 63) (tgt := 70) dX7_change_63 rfl ?_
    refine V_sub (lv' := [(0, (2, x0))]) [0] rfl ?_
    exact VBX7_change_70 _ _ _ _
  refine V_aload_n (κ := KX7_change) (pc := 19) dX7_change_19 0 rfl rfl ?_
  refine V_getf 7 (κ := KX7_change) (pc := 20) rfl (by decide) rfl inX7 1 (by decide) wd_988 rfl (t := 2) rfl dX7_change_20 fun t105 => ?_
  refine V_sipush (κ := KX7_change) (pc := 23) dX7_change_23 ⟨by decide, by decide⟩ (by decide) ?_
  refine V_iload_n (κ := KX7_change) (pc := 26) dX7_change_26 1 rfl ?_
  refine V_imul (κ := KX7_change) (pc := 27) dX7_change_27 ?_
  refine V_iload_n (κ := KX7_change) (pc := 28) dX7_change_28 2 rfl ?_
  refine V_iadd (κ := KX7_change) (pc := 29) dX7_change_29 ?_
  refine V_aload_n (κ := KX7_change) (pc := 30) dX7_change_30 0 rfl rfl ?_
  refine V_iload_n (κ := KX7_change) (pc := 31) dX7_change_31 2 rfl ?_
  refine V_callV (ci := 7) (T := TX7) (N := 24) rfl (by decide) (κ := KX7_change) (pc := 32) (con_X7_get _ _ _) mth_X7_get rfl ⟨wd_1181, wp_53⟩ wd_1179 (st0 := [(0, w32 ((w32 (5100 * x1)) + x2)), (2, t105)]) rfl rfl (by decide) (Nat.le_of_ble_eq_true rfl) dX7_change_32 (fun _ _ _ h => VX_out rfl (by decide) h) fun t106 u107 => ?_
  refine V_iastore (κ := KX7_change) (pc := 35) dX7_change_35 fun u108 => ?_
  refine V_iinc (κ := KX7_change) (pc := 36) (lv' := [(2, (0, w32 (x2 + 1))), (0, (2, x0)), (1, (0, x1))]) dX7_change_36 2 rfl (by decide) rfl ?_
  refine V_goto (κ := KX7_change) (pc := 39) (tgt := 12) dX7_change_39 rfl ?_
  refine V_sub (lv' := [(0, (2, x0)), (1, (0, x1)), (2, (0, w32 (x2 + 1)))]) [1, 2, 0] rfl ?_
  exact hk12 _ _ _ _
theorem VLX7_change_12 {Γ : Gam} : ∀ (n : Nat) (x0 x1 x2 : Int) (μ : Mem), V Γ KX7_change 12 [(0, (2, x0)), (1, (0, x1)), (2, (0, x2))] [] μ (LX7_change_12 n x0 x1 x2 μ)
  | 0, _, _, _, _ => V_none
  | n + 1, x0, x1, x2, μ => VBX7_change_12 (fun y0 y1 y2 ν => VLX7_change_12 n y0 y1 y2 ν) x0 x1 x2 μ
theorem VBX7_change_0 {Γ : Gam} (x0 : Int) (μ : Mem) : V Γ KX7_change 0 [(0, (2, x0))] [] μ (BX7_change_0 x0 μ) := by
  unfold BX7_change_0
  refine V_aload_n (κ := KX7_change) (pc := 0) dX7_change_0 0 rfl rfl ?_
  refine V_getf 7 (κ := KX7_change) (pc := 1) rfl (by decide) rfl inX7 3 (by decide) wd_990 rfl (t := 0) rfl dX7_change_1 fun t101 => ?_
  refine V_iconst (κ := KX7_change) (pc := 4) dX7_change_4 ⟨by decide, by decide⟩ ?_
  refine V_iadd (κ := KX7_change) (pc := 5) dX7_change_5 ?_
  refine V_bipush (κ := KX7_change) (pc := 6) dX7_change_6 ⟨by decide, by decide⟩ (by decide) ?_
  refine V_irem (κ := KX7_change) (pc := 8) dX7_change_8 fun t102 => ?_
  refine V_istore_n (κ := KX7_change) (pc := 9) (lv' := [(1, (0, t102)), (0, (2, x0))]) dX7_change_9 (by decide) rfl ?_
  refine V_iconst (κ := KX7_change) (pc := 10) dX7_change_10 ⟨by decide, by decide⟩ ?_
  refine V_istore_n (κ := KX7_change) (pc := 11) (lv' := [(2, (0, 0)), (1, (0, t102)), (0, (2, x0))]) dX7_change_11 (by decide) rfl ?_
  refine V_sub (lv' := [(0, (2, x0)), (1, (0, t102)), (2, (0, 0))]) [2, 1, 0] rfl ?_
  exact VLX7_change_12 FU _ _ _ _
theorem con_X7_change (a0 : Int) (μ : Mem) : Con (2) yX7_change (.code yX7_change cX7_change 3 none) 9 [(2, a0)] μ (FX7_change a0 μ) := Con_intro KX7_change (plainFor_of_name (by decide)) rfl (fun h => by cases h) (by decide) rfl (Nat.le_of_ble_eq_true rfl) (fun Γ => VBX7_change_0 _ _)
abbrev KX7_put : Kap := (RX7, cX7_put, 3, 1, 9, none, false, [])
theorem VBX7_put_0 {Γ : Gam} (x0 x1 x2 : Int) (μ : Mem) : V Γ KX7_put 0 [(0, (2, x0)), (1, (0, x1)), (2, (0, x2))] [] μ (BX7_put_0 x0 x1 x2 μ) := by
  unfold BX7_put_0
  refine V_aload_n (κ := KX7_put) (pc := 0) dX7_put_0 0 rfl rfl ?_
  refine V_getf 7 (κ := KX7_put) (pc := 1) rfl (by decide) rfl inX7 1 (by decide) wd_988 rfl (t := 2) rfl dX7_put_1 fun t101 => ?_
  refine V_sipush (κ := KX7_put) (pc := 4) dX7_put_4 ⟨by decide, by decide⟩ (by decide) ?_
  refine V_aload_n (κ := KX7_put) (pc := 7) dX7_put_7 0 rfl rfl ?_
  refine V_getf 7 (κ := KX7_put) (pc := 8) rfl (by decide) rfl inX7 3 (by decide) wd_990 rfl (t := 0) rfl dX7_put_8 fun t102 => ?_
  refine V_imul (κ := KX7_put) (pc := 11) dX7_put_11 ?_
  refine V_iload_n (κ := KX7_put) (pc := 12) dX7_put_12 1 rfl ?_
  refine V_iadd (κ := KX7_put) (pc := 13) dX7_put_13 ?_
  refine V_iload_n (κ := KX7_put) (pc := 14) dX7_put_14 2 rfl ?_
  refine V_iastore (κ := KX7_put) (pc := 15) dX7_put_15 fun u103 => ?_
  exact V_vreturn (κ := KX7_put) (pc := 16) rfl rfl dX7_put_16
theorem con_X7_put (a0 a1 a2 : Int) (μ : Mem) : Con (1) yX7_put (.code yX7_put cX7_put 3 none) 9 [(2, a0), (0, a1), (0, a2)] μ (FX7_put a0 a1 a2 μ) := Con_intro KX7_put (plainFor_of_name (by decide)) rfl (fun h => by cases h) (by decide) rfl (Nat.le_of_ble_eq_true rfl) (fun Γ => VBX7_put_0 _ _ _ _)
abbrev KX7_puts : Kap := (RX7, cX7_puts, 4, 2, 9, none, false, [])
theorem VBX7_puts_0 {Γ : Gam} (x0 x1 x2 x3 : Int) (μ : Mem) : V Γ KX7_puts 0 [(0, (2, x0)), (1, (0, x1)), (2, (0, x2)), (3, (0, x3))] [] μ (BX7_puts_0 x0 x1 x2 x3 μ) := by
  unfold BX7_puts_0
  refine V_aload_n (κ := KX7_puts) (pc := 0) dX7_puts_0 0 rfl rfl ?_
  refine V_sipush (κ := KX7_puts) (pc := 1) dX7_puts_1 ⟨by decide, by decide⟩ (by decide) ?_
  refine V_sipush (κ := KX7_puts) (pc := 4) dX7_puts_4 ⟨by decide, by decide⟩ (by decide) ?_
  refine V_iload_n (κ := KX7_puts) (pc := 7) dX7_puts_7 1 rfl ?_
  refine V_imul (κ := KX7_puts) (pc := 8) dX7_puts_8 ?_
  refine V_iadd (κ := KX7_puts) (pc := 9) dX7_puts_9 ?_
  refine V_iload_n (κ := KX7_puts) (pc := 10) dX7_puts_10 2 rfl ?_
  refine V_iadd (κ := KX7_puts) (pc := 11) dX7_puts_11 ?_
  refine V_iload_n (κ := KX7_puts) (pc := 12) dX7_puts_12 3 rfl ?_
  refine V_callV (ci := 7) (T := TX7) (N := 24) rfl (by decide) (κ := KX7_puts) (pc := 13) (con_X7_put _ _ _ _) mth_X7_put rfl ⟨wd_1185, wp_54⟩ wd_1183 (st0 := []) rfl rfl (by decide) (Nat.le_of_ble_eq_true rfl) dX7_puts_13 (fun _ _ _ h => VX_out rfl (by decide) h) fun _ u102 => ?_
  exact V_vreturn (κ := KX7_puts) (pc := 16) rfl rfl dX7_puts_16
theorem con_X7_puts (a0 a1 a2 a3 : Int) (μ : Mem) : Con (2) yX7_puts (.code yX7_puts cX7_puts 4 none) 9 [(2, a0), (0, a1), (0, a2), (0, a3)] μ (FX7_puts a0 a1 a2 a3 μ) := Con_intro KX7_puts (plainFor_of_name (by decide)) rfl (fun h => by cases h) (by decide) rfl (Nat.le_of_ble_eq_true rfl) (fun Γ => VBX7_puts_0 _ _ _ _ _)
abbrev KX7_clean : Kap := (RX7, cX7_clean, 5, 7, 0, (some .int), false, [])
theorem VBX7_clean_113 {Γ : Gam} {k113 : Int → Int → Int → Int → Mem → Rz} (hk113 : ∀ (y0 y1 y2 y3 : Int) (ν : Mem), V Γ KX7_clean 113 [(0, (2, y0)), (1, (0, y1)), (2, (0, y2)), (3, (0, y3))] [] ν (k113 y0 y1 y2 y3 ν)) (x0 x1 x2 x3 : Int) (μ : Mem) : V Γ KX7_clean 113 [(0, (2, x0)), (1, (0, x1)), (2, (0, x2)), (3, (0, x3))] [] μ (BX7_clean_113 k113 x0 x1 x2 x3 μ) := by
  unfold BX7_clean_113
  refine V_iload_n (κ := KX7_clean) (pc := 113) dX7_clean_113 3 rfl ?_
  refine V_aload_n (κ := KX7_clean) (pc := 114) dX7_clean_114 0 rfl rfl ?_
  refine V_callV (ci := 7) (T := TX7) (N := 24) rfl (by decide) (κ := KX7_clean) (pc := 115) (con_X7_high _ _) mth_X7_high rfl ⟨wd_1205, wp_58⟩ wd_1203 (st0 := [(0, x3)]) rfl rfl (by decide) (Nat.le_of_ble_eq_true rfl) dX7_clean_115 (fun _ _ _ h => VX_out rfl (by decide) h) fun t101 u102 => ?_
  refine V_icmp_ge (κ := KX7_clean) (pc := 118) (tgt := 152) dX7_clean_118 rfl ?_ ?_
  · refine V_iload_n (κ := KX7_clean) (pc := 152) dX7_clean_152 2 rfl ?_
    exact V_ireturn (κ := KX7_clean) (pc := 153) rfl rfl dX7_clean_153
  refine V_aload_n (κ := KX7_clean) (pc := 121) dX7_clean_121 0 rfl rfl ?_
  refine V_iload_n (κ := KX7_clean) (pc := 122) dX7_clean_122 1 rfl ?_
  refine V_bipush (κ := KX7_clean) (pc := 123) dX7_clean_123 ⟨by decide, by decide⟩ (by decide) ?_
  refine V_iload_n (κ := KX7_clean) (pc := 125) dX7_clean_125 3 rfl ?_
  refine V_iadd (κ := KX7_clean) (pc := 126) dX7_clean_126 ?_
  refine V_aload_n (κ := KX7_clean) (pc := 127) dX7_clean_127 0 rfl rfl ?_
  refine V_iload_n (κ := KX7_clean) (pc := 128) dX7_clean_128 1 rfl ?_
  refine V_bipush (κ := KX7_clean) (pc := 129) dX7_clean_129 ⟨by decide, by decide⟩ (by decide) ?_
  refine V_iload_n (κ := KX7_clean) (pc := 131) dX7_clean_131 3 rfl ?_
  refine V_iadd (κ := KX7_clean) (pc := 132) dX7_clean_132 ?_
  refine V_callV (ci := 7) (T := TX7) (N := 24) rfl (by decide) (κ := KX7_clean) (pc := 133) (con_X7_of _ _ _ _) mth_X7_of rfl ⟨wd_1233, wp_65⟩ wd_1231 (st0 := [(0, w32 (14 + x3)), (0, x1), (2, x0)]) rfl rfl (by decide) (Nat.le_of_ble_eq_true rfl) dX7_clean_133 (fun _ _ _ h => VX_out rfl (by decide) h) fun t103 u104 => ?_
  refine V_aload_n (κ := KX7_clean) (pc := 136) dX7_clean_136 0 rfl rfl ?_
  refine V_getf 7 (κ := KX7_clean) (pc := 137) rfl (by decide) rfl inX7 23 (by decide) wd_1010 rfl (t := 2) rfl dX7_clean_137 fun t105 => ?_
  refine V_iload_n (κ := KX7_clean) (pc := 140) dX7_clean_140 3 rfl ?_
  refine V_iaload (κ := KX7_clean) (pc := 141) dX7_clean_141 fun t106 => ?_
  refine V_ior (κ := KX7_clean) (pc := 142) dX7_clean_142 ?_
  refine V_callV (ci := 7) (T := TX7) (N := 24) rfl (by decide) (κ := KX7_clean) (pc := 143) (con_X7_puts _ _ _ _ _) mth_X7_puts rfl ⟨wd_1390, wp_84⟩ wd_1388 (st0 := []) rfl rfl (by decide) (Nat.le_of_ble_eq_true rfl) dX7_clean_143 (fun _ _ _ h => VX_out rfl (by decide) h) fun _ u108 => ?_
  refine V_iinc (κ := KX7_clean) (pc := 146) (lv' := [(3, (0, w32 (x3 + 1))), (0, (2, x0)), (1, (0, x1)), (2, (0, x2))]) dX7_clean_146 3 rfl (by decide) rfl ?_
  refine V_goto (κ := KX7_clean) (pc := 149) (tgt := 113) dX7_clean_149 rfl ?_
  refine V_sub (lv' := [(0, (2, x0)), (1, (0, x1)), (2, (0, x2)), (3, (0, w32 (x3 + 1)))]) [1, 2, 3, 0] rfl ?_
  exact hk113 _ _ _ _ _
theorem VLX7_clean_113 {Γ : Gam} : ∀ (n : Nat) (x0 x1 x2 x3 : Int) (μ : Mem), V Γ KX7_clean 113 [(0, (2, x0)), (1, (0, x1)), (2, (0, x2)), (3, (0, x3))] [] μ (LX7_clean_113 n x0 x1 x2 x3 μ)
  | 0, _, _, _, _, _ => V_none
  | n + 1, x0, x1, x2, x3, μ => VBX7_clean_113 (fun y0 y1 y2 y3 ν => VLX7_clean_113 n y0 y1 y2 y3 ν) x0 x1 x2 x3 μ
theorem VBX7_clean_81 {Γ : Gam} {k28 : Int → Int → Int → Int → Mem → Rz} (hk28 : ∀ (y0 y1 y2 y3 : Int) (ν : Mem), V Γ KX7_clean 28 [(0, (2, y0)), (1, (0, y1)), (2, (0, y2)), (3, (0, y3))] [] ν (k28 y0 y1 y2 y3 ν)) {k46 : Int → Int → Int → Int → Int → Mem → Rz} (hk46 : ∀ (y0 y1 y2 y3 y4 : Int) (ν : Mem), V Γ KX7_clean 46 [(0, (2, y0)), (1, (0, y1)), (2, (0, y2)), (3, (0, y3)), (4, (0, y4))] [] ν (k46 y0 y1 y2 y3 y4 ν)) (x0 x1 x2 x3 x4 s0 s1 s2 s3 : Int) (μ : Mem) : V Γ KX7_clean 81 [(0, (2, x0)), (1, (0, x1)), (2, (0, x2)), (3, (0, x3)), (4, (0, x4))] [(0, s0), (0, s1), (0, s2), (2, s3)] μ (BX7_clean_81 k28 k46 x0 x1 x2 x3 x4 s0 s1 s2 s3 μ) := by
  unfold BX7_clean_81
  refine V_ior (κ := KX7_clean) (pc := 81) dX7_clean_81 ?_
  refine V_iastore (κ := KX7_clean) (pc := 82) dX7_clean_82 fun u101 => ?_
  refine V_iinc (κ := KX7_clean) (pc := 83) (lv' := [(4, (0, w32 (x4 + 1))), (0, (2, x0)), (1, (0, x1)), (2, (0, x2)), (3, (0, x3))]) dX7_clean_83 4 rfl (by decide) rfl ?_
  refine V_goto (κ := KX7_clean) (pc := 86) (tgt := 46) dX7_clean_86 rfl ?_
  refine V_sub (lv' := [(0, (2, x0)), (1, (0, x1)), (2, (0, x2)), (3, (0, x3)), (4, (0, w32 (x4 + 1)))]) [1, 2, 3, 4, 0] rfl ?_
  exact hk46 _ _ _ _ _ _
theorem VBX7_clean_46 {Γ : Gam} {k28 : Int → Int → Int → Int → Mem → Rz} (hk28 : ∀ (y0 y1 y2 y3 : Int) (ν : Mem), V Γ KX7_clean 28 [(0, (2, y0)), (1, (0, y1)), (2, (0, y2)), (3, (0, y3))] [] ν (k28 y0 y1 y2 y3 ν)) {k46 : Int → Int → Int → Int → Int → Mem → Rz} (hk46 : ∀ (y0 y1 y2 y3 y4 : Int) (ν : Mem), V Γ KX7_clean 46 [(0, (2, y0)), (1, (0, y1)), (2, (0, y2)), (3, (0, y3)), (4, (0, y4))] [] ν (k46 y0 y1 y2 y3 y4 ν)) (x0 x1 x2 x3 x4 : Int) (μ : Mem) : V Γ KX7_clean 46 [(0, (2, x0)), (1, (0, x1)), (2, (0, x2)), (3, (0, x3)), (4, (0, x4))] [] μ (BX7_clean_46 k28 k46 x0 x1 x2 x3 x4 μ) := by
  unfold BX7_clean_46
  refine V_iload (κ := KX7_clean) (pc := 46) dX7_clean_46 4 rfl ?_
  refine V_aload_n (κ := KX7_clean) (pc := 48) dX7_clean_48 0 rfl rfl ?_
  refine V_callV (ci := 7) (T := TX7) (N := 24) rfl (by decide) (κ := KX7_clean) (pc := 49) (con_X7_wide _ _) mth_X7_wide rfl ⟨wd_1201, wp_57⟩ wd_1199 (st0 := [(0, x4)]) rfl rfl (by decide) (Nat.le_of_ble_eq_true rfl) dX7_clean_49 (fun _ _ _ h => VX_out rfl (by decide) h) fun t101 u102 => ?_
  refine V_icmp_ge (κ := KX7_clean) (pc := 52) (tgt := 89) dX7_clean_52 rfl ?_ ?_
  · refine V_iload_n (κ := KX7_clean) (pc := 89) dX7_clean_89 2 rfl ?_
    refine V_aload_n (κ := KX7_clean) (pc := 90) dX7_clean_90 0 rfl rfl ?_
    refine V_getf 7 (κ := KX7_clean) (pc := 91) rfl (by decide) rfl inX7 23 (by decide) wd_1010 rfl (t := 2) rfl dX7_clean_91 fun t103 => ?_
    refine V_iload_n (κ := KX7_clean) (pc := 94) dX7_clean_94 3 rfl ?_
    refine V_iaload (κ := KX7_clean) (pc := 95) dX7_clean_95 fun t104 => ?_
    refine V_callS (κ := KX7_clean) (pc := 96) (con_X7_bits _ _) mth_X7_bits wd_1263 wd_1262 (st0 := [(0, x2)]) rfl rfl (by decide) (Nat.le_of_ble_eq_true rfl) dX7_clean_96 (fun _ _ _ h => VX_out rfl (by decide) h) fun t105 u106 => ?_
    refine V_iadd (κ := KX7_clean) (pc := 99) dX7_clean_99 ?_
    refine V_LT fun x107 => ?_
    refine V_istore_n (κ := KX7_clean) (pc := 100) (lv' := [(2, (0, x107)), (0, (2, x0)), (1, (0, x1)), (3, (0, x3)), (4, (0, x4))]) dX7_clean_100 (by decide) rfl ?_
    refine V_iinc (κ := KX7_clean) (pc := 101) (lv' := [(3, (0, w32 (x3 + 1))), (2, (0, x107)), (0, (2, x0)), (1, (0, x1)), (4, (0, x4))]) dX7_clean_101 3 rfl (by decide) rfl ?_
    refine V_goto (κ := KX7_clean) (pc := 104) (tgt := 28) dX7_clean_104 rfl ?_
    refine V_sub (lv' := [(0, (2, x0)), (1, (0, x1)), (2, (0, x107)), (3, (0, w32 (x3 + 1)))]) [2, 3, 1, 0] rfl ?_
    exact hk28 _ _ _ _ _
  refine V_aload_n (κ := KX7_clean) (pc := 55) dX7_clean_55 0 rfl rfl ?_
  refine V_getf 7 (κ := KX7_clean) (pc := 56) rfl (by decide) rfl inX7 23 (by decide) wd_1010 rfl (t := 2) rfl dX7_clean_56 fun t108 => ?_
  refine V_iload_n (κ := KX7_clean) (pc := 59) dX7_clean_59 3 rfl ?_
  refine V_dup2 (κ := KX7_clean) (pc := 60) rfl rfl dX7_clean_60 ?_
  refine V_iaload (κ := KX7_clean) (pc := 61) dX7_clean_61 fun t109 => ?_
  refine V_aload_n (κ := KX7_clean) (pc := 62) dX7_clean_62 0 rfl rfl ?_
  refine V_iload_n (κ := KX7_clean) (pc := 63) dX7_clean_63 1 rfl ?_
  refine V_iload (κ := KX7_clean) (pc := 64) dX7_clean_64 4 rfl ?_
  refine V_iload_n (κ := KX7_clean) (pc := 66) dX7_clean_66 3 rfl ?_
  refine V_callV (ci := 7) (T := TX7) (N := 24) rfl (by decide) (κ := KX7_clean) (pc := 67) (con_X7_isSpot _ _ _ _ _) mth_X7_isSpot rfl ⟨wd_1303, wp_78⟩ wd_1301 (st0 := [(0, t109), (0, x3), (2, t108)]) rfl rfl (by decide) (Nat.le_of_ble_eq_true rfl) dX7_clean_67 (fun _ _ _ h => VX_out rfl (by decide) h) fun t110 u111 => ?_
  refine V_if_eq (κ := KX7_clean) (pc := 70) (tgt := 80) dX7_clean_70 rfl ?_ ?_
  · refine V_iconst (κ := KX7_clean) (pc := 80) dX7_clean_80 ⟨by decide, by decide⟩ ?_
    exact VBX7_clean_81 hk28 hk46 _ _ _ _ _ _ _ _ _ _
  refine V_iconst (κ := KX7_clean) (pc := 73) dX7_clean_73 ⟨by decide, by decide⟩ ?_
  refine V_iload (κ := KX7_clean) (pc := 74) dX7_clean_74 4 rfl ?_
  refine V_ishl (κ := KX7_clean) (pc := 76) dX7_clean_76 ?_
  refine V_goto (κ := KX7_clean) (pc := 77) (tgt := 81) dX7_clean_77 rfl ?_
  exact VBX7_clean_81 hk28 hk46 _ _ _ _ _ _ _ _ _ _
theorem VLX7_clean_46 {Γ : Gam} {k28 : Int → Int → Int → Int → Mem → Rz} (hk28 : ∀ (y0 y1 y2 y3 : Int) (ν : Mem), V Γ KX7_clean 28 [(0, (2, y0)), (1, (0, y1)), (2, (0, y2)), (3, (0, y3))] [] ν (k28 y0 y1 y2 y3 ν)) : ∀ (n : Nat) (x0 x1 x2 x3 x4 : Int) (μ : Mem), V Γ KX7_clean 46 [(0, (2, x0)), (1, (0, x1)), (2, (0, x2)), (3, (0, x3)), (4, (0, x4))] [] μ (LX7_clean_46 k28 n x0 x1 x2 x3 x4 μ)
  | 0, _, _, _, _, _, _ => V_none
  | n + 1, x0, x1, x2, x3, x4, μ => VBX7_clean_46 hk28 (fun y0 y1 y2 y3 y4 ν => VLX7_clean_46 hk28 n y0 y1 y2 y3 y4 ν) x0 x1 x2 x3 x4 μ
theorem VBX7_clean_28 {Γ : Gam} {k28 : Int → Int → Int → Int → Mem → Rz} (hk28 : ∀ (y0 y1 y2 y3 : Int) (ν : Mem), V Γ KX7_clean 28 [(0, (2, y0)), (1, (0, y1)), (2, (0, y2)), (3, (0, y3))] [] ν (k28 y0 y1 y2 y3 ν)) (x0 x1 x2 x3 : Int) (μ : Mem) : V Γ KX7_clean 28 [(0, (2, x0)), (1, (0, x1)), (2, (0, x2)), (3, (0, x3))] [] μ (BX7_clean_28 k28 x0 x1 x2 x3 μ) := by
  unfold BX7_clean_28
  refine V_iload_n (κ := KX7_clean) (pc := 28) dX7_clean_28 3 rfl ?_
  refine V_aload_n (κ := KX7_clean) (pc := 29) dX7_clean_29 0 rfl rfl ?_
  refine V_callV (ci := 7) (T := TX7) (N := 24) rfl (by decide) (κ := KX7_clean) (pc := 30) (con_X7_high _ _) mth_X7_high rfl ⟨wd_1205, wp_58⟩ wd_1203 (st0 := [(0, x3)]) rfl rfl (by decide) (Nat.le_of_ble_eq_true rfl) dX7_clean_30 (fun _ _ _ h => VX_out rfl (by decide) h) fun t101 u102 => ?_
  refine V_icmp_ge (κ := KX7_clean) (pc := 33) (tgt := 107) dX7_clean_33 rfl ?_ ?_
  · refine V_aload_n (κ := KX7_clean) (pc := 107) dX7_clean_107 0 rfl rfl ?_
    refine V_callV (ci := 7) (T := TX7) (N := 24) rfl (by decide) (κ := KX7_clean) (pc := 108) (con_X7_change _ _) mth_X7_change rfl ⟨wd_1177, wp_52⟩ wd_1175 (st0 := []) rfl rfl (by decide) (Nat.le_of_ble_eq_true rfl) dX7_clean_108 (fun _ _ _ h => VX_out rfl (by decide) h) fun _ u104 => ?_
    refine V_iconst (κ := KX7_clean) (pc := 111) dX7_clean_111 ⟨by decide, by decide⟩ ?_
    refine V_istore_n (κ := KX7_clean) (pc := 112) (lv' := [(3, (0, 0)), (0, (2, x0)), (1, (0, x1)), (2, (0, x2))]) dX7_clean_112 (by decide) rfl ?_
    refine V_sub (lv' := [(0, (2, x0)), (1, (0, x1)), (2, (0, x2)), (3, (0, 0))]) [1, 2, 3, 0] rfl ?_
    exact VLX7_clean_113 FU _ _ _ _ _
  refine V_aload_n (κ := KX7_clean) (pc := 36) dX7_clean_36 0 rfl rfl ?_
  refine V_getf 7 (κ := KX7_clean) (pc := 37) rfl (by decide) rfl inX7 23 (by decide) wd_1010 rfl (t := 2) rfl dX7_clean_37 fun t105 => ?_
  refine V_iload_n (κ := KX7_clean) (pc := 40) dX7_clean_40 3 rfl ?_
  refine V_iconst (κ := KX7_clean) (pc := 41) dX7_clean_41 ⟨by decide, by decide⟩ ?_
  refine V_iastore (κ := KX7_clean) (pc := 42) dX7_clean_42 fun u106 => ?_
  refine V_iconst (κ := KX7_clean) (pc := 43) dX7_clean_43 ⟨by decide, by decide⟩ ?_
  refine V_istore (κ := KX7_clean) (pc := 44) (lv' := [(4, (0, 0)), (0, (2, x0)), (1, (0, x1)), (2, (0, x2)), (3, (0, x3))]) dX7_clean_44 (by decide) rfl ?_
  refine V_sub (lv' := [(0, (2, x0)), (1, (0, x1)), (2, (0, x2)), (3, (0, x3)), (4, (0, 0))]) [1, 2, 3, 4, 0] rfl ?_
  exact VLX7_clean_46 hk28 FU _ _ _ _ _ _
theorem VLX7_clean_28 {Γ : Gam} : ∀ (n : Nat) (x0 x1 x2 x3 : Int) (μ : Mem), V Γ KX7_clean 28 [(0, (2, x0)), (1, (0, x1)), (2, (0, x2)), (3, (0, x3))] [] μ (LX7_clean_28 n x0 x1 x2 x3 μ)
  | 0, _, _, _, _, _ => V_none
  | n + 1, x0, x1, x2, x3, μ => VBX7_clean_28 (fun y0 y1 y2 y3 ν => VLX7_clean_28 n y0 y1 y2 y3 ν) x0 x1 x2 x3 μ
theorem VBX7_clean_0 {Γ : Gam} (x0 x1 : Int) (μ : Mem) : V Γ KX7_clean 0 [(0, (2, x0)), (1, (0, x1))] [] μ (BX7_clean_0 x0 x1 μ) := by
  unfold BX7_clean_0
  refine V_aload_n (κ := KX7_clean) (pc := 0) dX7_clean_0 0 rfl rfl ?_
  refine V_iconst (κ := KX7_clean) (pc := 1) dX7_clean_1 ⟨by decide, by decide⟩ ?_
  refine V_putf 7 (κ := KX7_clean) (pc := 2) rfl (by decide) rfl inX7 tyX7 tyX7_ok nmX7 0 (by decide) wd_987 rfl rfl (t := 0) rfl rfl dX7_clean_2 fun u101 => ?_
  refine V_aload_n (κ := KX7_clean) (pc := 5) dX7_clean_5 0 rfl rfl ?_
  refine V_aload_n (κ := KX7_clean) (pc := 6) dX7_clean_6 0 rfl rfl ?_
  refine V_iload_n (κ := KX7_clean) (pc := 7) dX7_clean_7 1 rfl ?_
  refine V_callV (ci := 7) (T := TX7) (N := 24) rfl (by decide) (κ := KX7_clean) (pc := 8) (con_X7_isPlate _ _ _) mth_X7_isPlate rfl ⟨wd_1291, wp_75⟩ wd_1289 (st0 := [(2, x0)]) rfl rfl (by decide) (Nat.le_of_ble_eq_true rfl) dX7_clean_8 (fun _ _ _ h => VX_out rfl (by decide) h) fun t102 u103 => ?_
  refine V_iconst (κ := KX7_clean) (pc := 11) dX7_clean_11 ⟨by decide, by decide⟩ ?_
  refine V_callV (ci := 7) (T := TX7) (N := 24) rfl (by decide) (κ := KX7_clean) (pc := 12) (con_X7_right _ _ _ _) mth_X7_right rfl ⟨wd_1086, wp_35⟩ wd_1084 (st0 := []) rfl rfl (by decide) (Nat.le_of_ble_eq_true rfl) dX7_clean_12 (fun _ _ _ h => VX_out rfl (by decide) h) fun t104 u105 => ?_
  refine V_if_ne (κ := KX7_clean) (pc := 15) (tgt := 20) dX7_clean_15 rfl ?_ ?_
  · refine V_aload_n (κ := KX7_clean) (pc := 20) dX7_clean_20 0 rfl rfl ?_
    refine V_callV (ci := 7) (T := TX7) (N := 24) rfl (by decide) (κ := KX7_clean) (pc := 21) (con_X7_lays _ _) mth_X7_lays rfl ⟨wd_1217, wp_61⟩ wd_1215 (st0 := []) rfl rfl (by decide) (Nat.le_of_ble_eq_true rfl) dX7_clean_21 (fun _ _ _ h => VX_out rfl (by decide) h) fun _ u107 => ?_
    refine V_iconst (κ := KX7_clean) (pc := 24) dX7_clean_24 ⟨by decide, by decide⟩ ?_
    refine V_istore_n (κ := KX7_clean) (pc := 25) (lv' := [(2, (0, 0)), (0, (2, x0)), (1, (0, x1))]) dX7_clean_25 (by decide) rfl ?_
    refine V_iconst (κ := KX7_clean) (pc := 26) dX7_clean_26 ⟨by decide, by decide⟩ ?_
    refine V_istore_n (κ := KX7_clean) (pc := 27) (lv' := [(3, (0, 0)), (2, (0, 0)), (0, (2, x0)), (1, (0, x1))]) dX7_clean_27 (by decide) rfl ?_
    refine V_sub (lv' := [(0, (2, x0)), (1, (0, x1)), (2, (0, 0)), (3, (0, 0))]) [2, 3, 1, 0] rfl ?_
    exact VLX7_clean_28 FU _ _ _ _ _
  refine V_iconst (κ := KX7_clean) (pc := 18) dX7_clean_18 ⟨by decide, by decide⟩ ?_
  exact V_ireturn (κ := KX7_clean) (pc := 19) rfl rfl dX7_clean_19
theorem con_X7_clean (a0 a1 : Int) (μ : Mem) : Con (7) yX7_clean (.code yX7_clean cX7_clean 5 (some .int)) 0 [(2, a0), (0, a1)] μ (FX7_clean a0 a1 μ) := Con_intro KX7_clean (plainFor_of_name (by decide)) rfl (fun h => by cases h) (by decide) rfl (Nat.le_of_ble_eq_true rfl) (fun Γ => VBX7_clean_0 _ _ _)
abbrev KX7_possible : Kap := (RX7, cX7_possible, 5, 8, 0, (some .int), false, [])
theorem VBX7_possible_54 {Γ : Gam} {k4 : Int → Int → Int → Mem → Rz} (hk4 : ∀ (y0 y1 y2 : Int) (ν : Mem), V Γ KX7_possible 4 [(0, (2, y0)), (1, (0, y1)), (2, (0, y2))] [] ν (k4 y0 y1 y2 ν)) (x0 x1 x2 : Int) (μ : Mem) : V Γ KX7_possible 54 [(0, (2, x0)), (1, (0, x1)), (2, (0, x2))] [] μ (BX7_possible_54 k4 x0 x1 x2 μ) := by
  unfold BX7_possible_54
  refine V_iinc (κ := KX7_possible) (pc := 54) (lv' := [(2, (0, w32 (x2 + 1))), (0, (2, x0)), (1, (0, x1))]) dX7_possible_54 2 rfl (by decide) rfl ?_
  refine V_goto (κ := KX7_possible) (pc := 57) (tgt := 4) dX7_possible_57 rfl ?_
  refine V_sub (lv' := [(0, (2, x0)), (1, (0, x1)), (2, (0, w32 (x2 + 1)))]) [1, 2, 0] rfl ?_
  exact hk4 _ _ _ _
theorem VBX7_possible_53 {Γ : Gam} {k4 : Int → Int → Int → Mem → Rz} (hk4 : ∀ (y0 y1 y2 : Int) (ν : Mem), V Γ KX7_possible 4 [(0, (2, y0)), (1, (0, y1)), (2, (0, y2))] [] ν (k4 y0 y1 y2 ν)) (x0 x2 s0 : Int) (μ : Mem) : V Γ KX7_possible 53 [(0, (2, x0)), (2, (0, x2))] [(0, s0)] μ (BX7_possible_53 k4 x0 x2 s0 μ) := by
  unfold BX7_possible_53
  refine V_istore_n (κ := KX7_possible) (pc := 53) (lv' := [(1, (0, s0)), (0, (2, x0)), (2, (0, x2))]) dX7_possible_53 (by decide) rfl ?_
  refine V_sub (lv' := [(0, (2, x0)), (1, (0, s0)), (2, (0, x2))]) [1, 0, 2] rfl ?_
  exact VBX7_possible_54 hk4 _ _ _ _
theorem VBX7_possible_47 {Γ : Gam} {k4 : Int → Int → Int → Mem → Rz} (hk4 : ∀ (y0 y1 y2 : Int) (ν : Mem), V Γ KX7_possible 4 [(0, (2, y0)), (1, (0, y1)), (2, (0, y2))] [] ν (k4 y0 y1 y2 ν)) (x0 x2 x4 : Int) (μ : Mem) : V Γ KX7_possible 47 [(0, (2, x0)), (2, (0, x2)), (4, (0, x4))] [] μ (BX7_possible_47 k4 x0 x2 x4 μ) := by
  unfold BX7_possible_47
  refine V_iload (κ := KX7_possible) (pc := 47) dX7_possible_47 2 rfl ?_
  refine V_goto (κ := KX7_possible) (pc := 49) (tgt := 53) dX7_possible_49 rfl ?_
  refine V_sub (lv' := [(0, (2, x0)), (2, (0, x2))]) [0, 1] rfl ?_
  exact VBX7_possible_53 hk4 _ _ _ _
theorem VBX7_possible_4 {Γ : Gam} {k4 : Int → Int → Int → Mem → Rz} (hk4 : ∀ (y0 y1 y2 : Int) (ν : Mem), V Γ KX7_possible 4 [(0, (2, y0)), (1, (0, y1)), (2, (0, y2))] [] ν (k4 y0 y1 y2 ν)) (x0 x1 x2 : Int) (μ : Mem) : V Γ KX7_possible 4 [(0, (2, x0)), (1, (0, x1)), (2, (0, x2))] [] μ (BX7_possible_4 k4 x0 x1 x2 μ) := by
  unfold BX7_possible_4
  refine V_iload_n (κ := KX7_possible) (pc := 4) dX7_possible_4 2 rfl ?_
  refine V_aload_n (κ := KX7_possible) (pc := 5) dX7_possible_5 0 rfl rfl ?_
  refine V_callV (ci := 7) (T := TX7) (N := 24) rfl (by decide) (κ := KX7_possible) (pc := 6) (con_X7_plates _ _) mth_X7_plates rfl ⟨wd_1189, wp_55⟩ wd_1187 (st0 := [(0, x2)]) rfl rfl (by decide) (Nat.le_of_ble_eq_true rfl) dX7_possible_6 (fun _ _ _ h => VX_out rfl (by decide) h) fun t101 u102 => ?_
  refine V_icmp_ge (κ := KX7_possible) (pc := 9) (tgt := 60) dX7_possible_9 rfl ?_ ?_
  · refine V_iload_n (κ := KX7_possible) (pc := 60) dX7_possible_60 1 rfl ?_
    exact V_ireturn (κ := KX7_possible) (pc := 61) rfl rfl dX7_possible_61
  refine V_aload_n (κ := KX7_possible) (pc := 12) dX7_possible_12 0 rfl rfl ?_
  refine V_iload_n (κ := KX7_possible) (pc := 13) dX7_possible_13 2 rfl ?_
  refine V_callV (ci := 7) (T := TX7) (N := 24) rfl (by decide) (κ := KX7_possible) (pc := 14) (con_X7_dots _ _ _) mth_X7_dots rfl ⟨wd_1213, wp_60⟩ wd_1211 (st0 := []) rfl rfl (by decide) (Nat.le_of_ble_eq_true rfl) dX7_possible_14 (fun _ _ _ h => VX_out rfl (by decide) h) fun t103 u104 => ?_
  refine V_istore_n (κ := KX7_possible) (pc := 17) (lv' := [(3, (0, t103)), (0, (2, x0)), (1, (0, x1)), (2, (0, x2))]) dX7_possible_17 (by decide) rfl ?_
  refine V_iload_n (κ := KX7_possible) (pc := 18) dX7_possible_18 0 rfl ?_
  refine V_if_ne (κ := KX7_possible) (pc := 19) (tgt := 25) dX7_possible_19 rfl ?_ ?_
  · refine V_aload_n (κ := KX7_possible) (pc := 25) dX7_possible_25 1 rfl rfl ?_
    refine V_iload_n (κ := KX7_possible) (pc := 26) dX7_possible_26 3 rfl ?_
    refine V_bipush (κ := KX7_possible) (pc := 27) dX7_possible_27 ⟨by decide, by decide⟩ (by decide) ?_
    refine V_callV (ci := 7) (T := TX7) (N := 24) rfl (by decide) (κ := KX7_possible) (pc := 29) (con_X7_of _ _ _ _) mth_X7_of rfl ⟨wd_1233, wp_65⟩ wd_1231 (st0 := []) rfl rfl (by decide) (Nat.le_of_ble_eq_true rfl) dX7_possible_29 (fun _ _ _ h => VX_out rfl (by decide) h) fun t105 u106 => ?_
    refine V_iload_n (κ := KX7_possible) (pc := 32) dX7_possible_32 0 rfl ?_
    refine V_idiv (κ := KX7_possible) (pc := 33) dX7_possible_33 fun t107 => ?_
    refine V_istore (κ := KX7_possible) (pc := 34) (lv' := [(4, (0, t107)), (3, (0, t103)), (0, (2, x0)), (1, (0, x1)), (2, (0, x2))]) dX7_possible_34 (by decide) rfl ?_
    refine V_iload_n (κ := KX7_possible) (pc := 36) dX7_possible_36 3 rfl ?_
    refine V_iconst (κ := KX7_possible) (pc := 37) dX7_possible_37 ⟨by decide, by decide⟩ ?_
    refine V_icmp_eq (κ := KX7_possible) (pc := 38) (tgt := 47) dX7_possible_38 rfl ?_ ?_
    · refine V_sub (lv' := [(0, (2, x0)), (2, (0, x2)), (4, (0, t107))]) [2, 4, 0] rfl ?_
      exact VBX7_possible_47 hk4 _ _ _ _
    refine V_iload (κ := KX7_possible) (pc := 41) dX7_possible_41 0 rfl ?_
    refine V_iload_n (κ := KX7_possible) (pc := 43) dX7_possible_43 3 rfl ?_
    refine V_icmp_ge (κ := KX7_possible) (pc := 44) (tgt := 52) dX7_possible_44 rfl ?_ ?_
    · refine V_iload_n (κ := KX7_possible) (pc := 52) dX7_possible_52 3 rfl ?_
      refine V_sub (lv' := [(0, (2, x0)), (2, (0, x2))]) [2, 4] rfl ?_
      exact VBX7_possible_53 hk4 _ _ _ _
    refine V_sub (lv' := [(0, (2, x0)), (2, (0, x2)), (4, (0, t107))]) [2, 4, 0] rfl ?_
    exact VBX7_possible_47 hk4 _ _ _ _
  refine V_goto (κ := KX7_possible) (pc := 22) (tgt := 54) dX7_possible_22 rfl ?_
  refine V_sub (lv' := [(0, (2, x0)), (1, (0, x1)), (2, (0, x2))]) [1, 2, 3] rfl ?_
  exact VBX7_possible_54 hk4 _ _ _ _
theorem VLX7_possible_4 {Γ : Gam} : ∀ (n : Nat) (x0 x1 x2 : Int) (μ : Mem), V Γ KX7_possible 4 [(0, (2, x0)), (1, (0, x1)), (2, (0, x2))] [] μ (LX7_possible_4 n x0 x1 x2 μ)
  | 0, _, _, _, _ => V_none
  | n + 1, x0, x1, x2, μ => VBX7_possible_4 (fun y0 y1 y2 ν => VLX7_possible_4 n y0 y1 y2 ν) x0 x1 x2 μ
theorem VBX7_possible_0 {Γ : Gam} (x0 : Int) (μ : Mem) : V Γ KX7_possible 0 [(0, (2, x0))] [] μ (BX7_possible_0 x0 μ) := by
  unfold BX7_possible_0
  refine V_iconst (κ := KX7_possible) (pc := 0) dX7_possible_0 ⟨by decide, by decide⟩ ?_
  refine V_istore_n (κ := KX7_possible) (pc := 1) (lv' := [(1, (0, (-1))), (0, (2, x0))]) dX7_possible_1 (by decide) rfl ?_
  refine V_iconst (κ := KX7_possible) (pc := 2) dX7_possible_2 ⟨by decide, by decide⟩ ?_
  refine V_istore_n (κ := KX7_possible) (pc := 3) (lv' := [(2, (0, 0)), (1, (0, (-1))), (0, (2, x0))]) dX7_possible_3 (by decide) rfl ?_
  refine V_sub (lv' := [(0, (2, x0)), (1, (0, (-1))), (2, (0, 0))]) [2, 1, 0] rfl ?_
  exact VLX7_possible_4 FU _ _ _ _
theorem con_X7_possible (a0 : Int) (μ : Mem) : Con (8) yX7_possible (.code yX7_possible cX7_possible 5 (some .int)) 0 [(2, a0)] μ (FX7_possible a0 μ) := Con_intro KX7_possible (plainFor_of_name (by decide)) rfl (fun h => by cases h) (by decide) rfl (Nat.le_of_ble_eq_true rfl) (fun Γ => VBX7_possible_0 _ _)
abbrev KX7_copies : Kap := (RX7, cX7_copies, 1, 9, 0, (some .int), false, [])
theorem VBX7_copies_0 {Γ : Gam} (x0 : Int) (μ : Mem) : V Γ KX7_copies 0 [(0, (2, x0))] [] μ (BX7_copies_0 x0 μ) := by
  unfold BX7_copies_0
  refine V_aload_n (κ := KX7_copies) (pc := 0) dX7_copies_0 0 rfl rfl ?_
  refine V_iconst (κ := KX7_copies) (pc := 1) dX7_copies_1 ⟨by decide, by decide⟩ ?_
  refine V_putf 7 (κ := KX7_copies) (pc := 2) rfl (by decide) rfl inX7 tyX7 tyX7_ok nmX7 0 (by decide) wd_987 rfl rfl (t := 0) rfl rfl dX7_copies_2 fun u101 => ?_
  refine V_aload_n (κ := KX7_copies) (pc := 5) dX7_copies_5 0 rfl rfl ?_
  refine V_callV (ci := 7) (T := TX7) (N := 24) rfl (by decide) (κ := KX7_copies) (pc := 6) (con_X7_possible _ _) mth_X7_possible rfl ⟨wd_1374, wp_83⟩ wd_1372 (st0 := []) rfl rfl (by decide) (Nat.le_of_ble_eq_true rfl) dX7_copies_6 (fun _ _ _ h => VX_out rfl (by decide) h) fun t102 u103 => ?_
  exact V_ireturn (κ := KX7_copies) (pc := 9) rfl rfl dX7_copies_9
theorem con_X7_copies (a0 : Int) (μ : Mem) : Con (9) yX7_copies (.code yX7_copies cX7_copies 1 (some .int)) 0 [(2, a0)] μ (FX7_copies a0 μ) := Con_intro KX7_copies (plainFor_of_name (by decide)) rfl (fun h => by cases h) (by decide) rfl (Nat.le_of_ble_eq_true rfl) (fun Γ => VBX7_copies_0 _ _)
abbrev KX7_covered : Kap := (RX7, cX7_covered, 2, 8, 3, (some .float), false, [])
theorem VBX7_covered_39 {Γ : Gam} (s0 : Int) (μ : Mem) : V Γ KX7_covered 39 [] [(3, s0)] μ (BX7_covered_39 s0 μ) := by
  unfold BX7_covered_39
  exact V_freturn (κ := KX7_covered) (pc := 39) rfl rfl dX7_covered_39
theorem VBX7_covered_0 {Γ : Gam} (x0 x1 : Int) (μ : Mem) : V Γ KX7_covered 0 [(0, (2, x0)), (1, (0, x1))] [] μ (BX7_covered_0 x0 x1 μ) := by
  unfold BX7_covered_0
  refine V_aload_n (κ := KX7_covered) (pc := 0) dX7_covered_0 0 rfl rfl ?_
  refine V_iconst (κ := KX7_covered) (pc := 1) dX7_covered_1 ⟨by decide, by decide⟩ ?_
  refine V_putf 7 (κ := KX7_covered) (pc := 2) rfl (by decide) rfl inX7 tyX7 tyX7_ok nmX7 0 (by decide) wd_987 rfl rfl (t := 0) rfl rfl dX7_covered_2 fun u101 => ?_
  refine V_aload_n (κ := KX7_covered) (pc := 5) dX7_covered_5 0 rfl rfl ?_
  refine V_aload_n (κ := KX7_covered) (pc := 6) dX7_covered_6 0 rfl rfl ?_
  refine V_iload_n (κ := KX7_covered) (pc := 7) dX7_covered_7 1 rfl ?_
  refine V_callV (ci := 7) (T := TX7) (N := 24) rfl (by decide) (κ := KX7_covered) (pc := 8) (con_X7_isPlate _ _ _) mth_X7_isPlate rfl ⟨wd_1291, wp_75⟩ wd_1289 (st0 := [(2, x0)]) rfl rfl (by decide) (Nat.le_of_ble_eq_true rfl) dX7_covered_8 (fun _ _ _ h => VX_out rfl (by decide) h) fun t102 u103 => ?_
  refine V_iconst (κ := KX7_covered) (pc := 11) dX7_covered_11 ⟨by decide, by decide⟩ ?_
  refine V_callV (ci := 7) (T := TX7) (N := 24) rfl (by decide) (κ := KX7_covered) (pc := 12) (con_X7_right _ _ _ _) mth_X7_right rfl ⟨wd_1086, wp_35⟩ wd_1084 (st0 := []) rfl rfl (by decide) (Nat.le_of_ble_eq_true rfl) dX7_covered_12 (fun _ _ _ h => VX_out rfl (by decide) h) fun t104 u105 => ?_
  refine V_if_eq (κ := KX7_covered) (pc := 15) (tgt := 38) dX7_covered_15 rfl ?_ ?_
  · refine V_fconst0 (κ := KX7_covered) (pc := 38) dX7_covered_38 ?_
    refine V_sub (lv' := []) [] rfl ?_
    exact VBX7_covered_39 _ _
  refine V_aload_n (κ := KX7_covered) (pc := 18) dX7_covered_18 0 rfl rfl ?_
  refine V_iload_n (κ := KX7_covered) (pc := 19) dX7_covered_19 1 rfl ?_
  refine V_callV (ci := 7) (T := TX7) (N := 24) rfl (by decide) (κ := KX7_covered) (pc := 20) (con_X7_dots _ _ _) mth_X7_dots rfl ⟨wd_1213, wp_60⟩ wd_1211 (st0 := []) rfl rfl (by decide) (Nat.le_of_ble_eq_true rfl) dX7_covered_20 (fun _ _ _ h => VX_out rfl (by decide) h) fun t106 u107 => ?_
  refine V_i2f (κ := KX7_covered) (pc := 23) dX7_covered_23 ?_
  refine V_aload_n (κ := KX7_covered) (pc := 24) dX7_covered_24 0 rfl rfl ?_
  refine V_callV (ci := 7) (T := TX7) (N := 24) rfl (by decide) (κ := KX7_covered) (pc := 25) (con_X7_wide _ _) mth_X7_wide rfl ⟨wd_1201, wp_57⟩ wd_1199 (st0 := [(3, fOf t106)]) rfl rfl (by decide) (Nat.le_of_ble_eq_true rfl) dX7_covered_25 (fun _ _ _ h => VX_out rfl (by decide) h) fun t108 u109 => ?_
  refine V_aload_n (κ := KX7_covered) (pc := 28) dX7_covered_28 0 rfl rfl ?_
  refine V_callV (ci := 7) (T := TX7) (N := 24) rfl (by decide) (κ := KX7_covered) (pc := 29) (con_X7_high _ _) mth_X7_high rfl ⟨wd_1205, wp_58⟩ wd_1203 (st0 := [(0, t108), (3, fOf t106)]) rfl rfl (by decide) (Nat.le_of_ble_eq_true rfl) dX7_covered_29 (fun _ _ _ h => VX_out rfl (by decide) h) fun t110 u111 => ?_
  refine V_imul (κ := KX7_covered) (pc := 32) dX7_covered_32 ?_
  refine V_i2f (κ := KX7_covered) (pc := 33) dX7_covered_33 ?_
  refine V_fdiv (κ := KX7_covered) (pc := 34) dX7_covered_34 fun t112 => ?_
  refine V_goto (κ := KX7_covered) (pc := 35) (tgt := 39) dX7_covered_35 rfl ?_
  refine V_sub (lv' := []) [] rfl ?_
  exact VBX7_covered_39 _ _
theorem con_X7_covered (a0 a1 : Int) (μ : Mem) : Con (8) yX7_covered (.code yX7_covered cX7_covered 2 (some .float)) 3 [(2, a0), (0, a1)] μ (FX7_covered a0 a1 μ) := Con_intro KX7_covered (plainFor_of_name (by decide)) rfl (fun h => by cases h) (by decide) rfl (Nat.le_of_ble_eq_true rfl) (fun Γ => VBX7_covered_0 _ _ _)
abbrev KX7_dirty : Kap := (RX7, cX7_dirty, 4, 4, 0, (some .int), false, [])
theorem VBX7_dirty_32 {Γ : Gam} {k32 : Int → Int → Int → Int → Mem → Rz} (hk32 : ∀ (y0 y1 y2 y3 : Int) (ν : Mem), V Γ KX7_dirty 32 [(0, (2, y0)), (1, (0, y1)), (2, (0, y2)), (3, (0, y3))] [] ν (k32 y0 y1 y2 y3 ν)) (x0 x1 x2 x3 : Int) (μ : Mem) : V Γ KX7_dirty 32 [(0, (2, x0)), (1, (0, x1)), (2, (0, x2)), (3, (0, x3))] [] μ (BX7_dirty_32 k32 x0 x1 x2 x3 μ) := by
  unfold BX7_dirty_32
  refine V_iload_n (κ := KX7_dirty) (pc := 32) dX7_dirty_32 3 rfl ?_
  refine V_bipush (κ := KX7_dirty) (pc := 33) dX7_dirty_33 ⟨by decide, by decide⟩ (by decide) ?_
  refine V_icmp_ge (κ := KX7_dirty) (pc := 35) (tgt := 54) dX7_dirty_35 rfl ?_ ?_
  · refine V_iload_n (κ := KX7_dirty) (pc := 54) dX7_dirty_54 2 rfl ?_
    exact V_ireturn (κ := KX7_dirty) (pc := 55) rfl rfl dX7_dirty_55
  refine V_aload_n (κ := KX7_dirty) (pc := 38) dX7_dirty_38 0 rfl rfl ?_
  refine V_iload_n (κ := KX7_dirty) (pc := 39) dX7_dirty_39 1 rfl ?_
  refine V_bipush (κ := KX7_dirty) (pc := 40) dX7_dirty_40 ⟨by decide, by decide⟩ (by decide) ?_
  refine V_iload_n (κ := KX7_dirty) (pc := 42) dX7_dirty_42 3 rfl ?_
  refine V_iadd (κ := KX7_dirty) (pc := 43) dX7_dirty_43 ?_
  refine V_iconst (κ := KX7_dirty) (pc := 44) dX7_dirty_44 ⟨by decide, by decide⟩ ?_
  refine V_callV (ci := 7) (T := TX7) (N := 24) rfl (by decide) (κ := KX7_dirty) (pc := 45) (con_X7_puts _ _ _ _ _) mth_X7_puts rfl ⟨wd_1390, wp_84⟩ wd_1388 (st0 := []) rfl rfl (by decide) (Nat.le_of_ble_eq_true rfl) dX7_dirty_45 (fun _ _ _ h => VX_out rfl (by decide) h) fun _ u102 => ?_
  refine V_iinc (κ := KX7_dirty) (pc := 48) (lv' := [(3, (0, w32 (x3 + 1))), (0, (2, x0)), (1, (0, x1)), (2, (0, x2))]) dX7_dirty_48 3 rfl (by decide) rfl ?_
  refine V_goto (κ := KX7_dirty) (pc := 51) (tgt := 32) dX7_dirty_51 rfl ?_
  refine V_sub (lv' := [(0, (2, x0)), (1, (0, x1)), (2, (0, x2)), (3, (0, w32 (x3 + 1)))]) [1, 2, 3, 0] rfl ?_
  exact hk32 _ _ _ _ _
theorem VLX7_dirty_32 {Γ : Gam} : ∀ (n : Nat) (x0 x1 x2 x3 : Int) (μ : Mem), V Γ KX7_dirty 32 [(0, (2, x0)), (1, (0, x1)), (2, (0, x2)), (3, (0, x3))] [] μ (LX7_dirty_32 n x0 x1 x2 x3 μ)
  | 0, _, _, _, _, _ => V_none
  | n + 1, x0, x1, x2, x3, μ => VBX7_dirty_32 (fun y0 y1 y2 y3 ν => VLX7_dirty_32 n y0 y1 y2 y3 ν) x0 x1 x2 x3 μ
theorem VBX7_dirty_0 {Γ : Gam} (x0 x1 : Int) (μ : Mem) : V Γ KX7_dirty 0 [(0, (2, x0)), (1, (0, x1))] [] μ (BX7_dirty_0 x0 x1 μ) := by
  unfold BX7_dirty_0
  refine V_aload_n (κ := KX7_dirty) (pc := 0) dX7_dirty_0 0 rfl rfl ?_
  refine V_iconst (κ := KX7_dirty) (pc := 1) dX7_dirty_1 ⟨by decide, by decide⟩ ?_
  refine V_putf 7 (κ := KX7_dirty) (pc := 2) rfl (by decide) rfl inX7 tyX7 tyX7_ok nmX7 0 (by decide) wd_987 rfl rfl (t := 0) rfl rfl dX7_dirty_2 fun u101 => ?_
  refine V_aload_n (κ := KX7_dirty) (pc := 5) dX7_dirty_5 0 rfl rfl ?_
  refine V_aload_n (κ := KX7_dirty) (pc := 6) dX7_dirty_6 0 rfl rfl ?_
  refine V_iload_n (κ := KX7_dirty) (pc := 7) dX7_dirty_7 1 rfl ?_
  refine V_callV (ci := 7) (T := TX7) (N := 24) rfl (by decide) (κ := KX7_dirty) (pc := 8) (con_X7_isPlate _ _ _) mth_X7_isPlate rfl ⟨wd_1291, wp_75⟩ wd_1289 (st0 := [(2, x0)]) rfl rfl (by decide) (Nat.le_of_ble_eq_true rfl) dX7_dirty_8 (fun _ _ _ h => VX_out rfl (by decide) h) fun t102 u103 => ?_
  refine V_iconst (κ := KX7_dirty) (pc := 11) dX7_dirty_11 ⟨by decide, by decide⟩ ?_
  refine V_callV (ci := 7) (T := TX7) (N := 24) rfl (by decide) (κ := KX7_dirty) (pc := 12) (con_X7_right _ _ _ _) mth_X7_right rfl ⟨wd_1086, wp_35⟩ wd_1084 (st0 := []) rfl rfl (by decide) (Nat.le_of_ble_eq_true rfl) dX7_dirty_12 (fun _ _ _ h => VX_out rfl (by decide) h) fun t104 u105 => ?_
  refine V_if_ne (κ := KX7_dirty) (pc := 15) (tgt := 20) dX7_dirty_15 rfl ?_ ?_
  · refine V_aload_n (κ := KX7_dirty) (pc := 20) dX7_dirty_20 0 rfl rfl ?_
    refine V_callV (ci := 7) (T := TX7) (N := 24) rfl (by decide) (κ := KX7_dirty) (pc := 21) (con_X7_change _ _) mth_X7_change rfl ⟨wd_1177, wp_52⟩ wd_1175 (st0 := []) rfl rfl (by decide) (Nat.le_of_ble_eq_true rfl) dX7_dirty_21 (fun _ _ _ h => VX_out rfl (by decide) h) fun _ u107 => ?_
    refine V_aload_n (κ := KX7_dirty) (pc := 24) dX7_dirty_24 0 rfl rfl ?_
    refine V_iload_n (κ := KX7_dirty) (pc := 25) dX7_dirty_25 1 rfl ?_
    refine V_callV (ci := 7) (T := TX7) (N := 24) rfl (by decide) (κ := KX7_dirty) (pc := 26) (con_X7_cleaned _ _ _) mth_X7_cleaned rfl ⟨wd_1279, wp_74⟩ wd_1277 (st0 := []) rfl rfl (by decide) (Nat.le_of_ble_eq_true rfl) dX7_dirty_26 (fun _ _ _ h => VX_out rfl (by decide) h) fun t108 u109 => ?_
    refine V_istore_n (κ := KX7_dirty) (pc := 29) (lv' := [(2, (0, t108)), (0, (2, x0)), (1, (0, x1))]) dX7_dirty_29 (by decide) rfl ?_
    refine V_iconst (κ := KX7_dirty) (pc := 30) dX7_dirty_30 ⟨by decide, by decide⟩ ?_
    refine V_istore_n (κ := KX7_dirty) (pc := 31) (lv' := [(3, (0, 0)), (2, (0, t108)), (0, (2, x0)), (1, (0, x1))]) dX7_dirty_31 (by decide) rfl ?_
    refine V_sub (lv' := [(0, (2, x0)), (1, (0, x1)), (2, (0, t108)), (3, (0, 0))]) [2, 3, 1, 0] rfl ?_
    exact VLX7_dirty_32 FU _ _ _ _ _
  refine V_iconst (κ := KX7_dirty) (pc := 18) dX7_dirty_18 ⟨by decide, by decide⟩ ?_
  exact V_ireturn (κ := KX7_dirty) (pc := 19) rfl rfl dX7_dirty_19
theorem con_X7_dirty (a0 a1 : Int) (μ : Mem) : Con (4) yX7_dirty (.code yX7_dirty cX7_dirty 4 (some .int)) 0 [(2, a0), (0, a1)] μ (FX7_dirty a0 a1 μ) := Con_intro KX7_dirty (plainFor_of_name (by decide)) rfl (fun h => by cases h) (by decide) rfl (Nat.le_of_ble_eq_true rfl) (fun Γ => VBX7_dirty_0 _ _ _)
abbrev KX7_errorOffset : Kap := (RX7, cX7_errorOffset, 1, 1, 0, (some .int), false, [])
theorem VBX7_errorOffset_0 {Γ : Gam} (x0 : Int) (μ : Mem) : V Γ KX7_errorOffset 0 [(0, (2, x0))] [] μ (BX7_errorOffset_0 x0 μ) := by
  unfold BX7_errorOffset_0
  refine V_aload_n (κ := KX7_errorOffset) (pc := 0) dX7_errorOffset_0 0 rfl rfl ?_
  refine V_iconst (κ := KX7_errorOffset) (pc := 1) dX7_errorOffset_1 ⟨by decide, by decide⟩ ?_
  refine V_putf 7 (κ := KX7_errorOffset) (pc := 2) rfl (by decide) rfl inX7 tyX7 tyX7_ok nmX7 0 (by decide) wd_987 rfl rfl (t := 0) rfl rfl dX7_errorOffset_2 fun u101 => ?_
  refine V_aload_n (κ := KX7_errorOffset) (pc := 5) dX7_errorOffset_5 0 rfl rfl ?_
  refine V_getf 7 (κ := KX7_errorOffset) (pc := 6) rfl (by decide) rfl inX7 16 (by decide) wd_1003 rfl (t := 0) rfl dX7_errorOffset_6 fun t102 => ?_
  exact V_ireturn (κ := KX7_errorOffset) (pc := 9) rfl rfl dX7_errorOffset_9
theorem con_X7_errorOffset (a0 : Int) (μ : Mem) : Con (1) yX7_errorOffset (.code yX7_errorOffset cX7_errorOffset 1 (some .int)) 0 [(2, a0)] μ (FX7_errorOffset a0 μ) := Con_intro KX7_errorOffset (plainFor_of_name (by decide)) rfl (fun h => by cases h) (by decide) rfl (Nat.le_of_ble_eq_true rfl) (fun Γ => VBX7_errorOffset_0 _ _)
abbrev KX7_fill : Kap := (RX7, cX7_fill, 3, 4, 0, (some .int), false, [])
theorem VBX7_fill_34 {Γ : Gam} (μ : Mem) : V Γ KX7_fill 34 [] [] μ (BX7_fill_34 μ) := by
  unfold BX7_fill_34
  refine V_iconst (κ := KX7_fill) (pc := 34) dX7_fill_34 ⟨by decide, by decide⟩ ?_
  exact V_ireturn (κ := KX7_fill) (pc := 35) rfl rfl dX7_fill_35
theorem VBX7_fill_0 {Γ : Gam} (x0 x1 x2 : Int) (μ : Mem) : V Γ KX7_fill 0 [(0, (2, x0)), (1, (0, x1)), (2, (0, x2))] [] μ (BX7_fill_0 x0 x1 x2 μ) := by
  unfold BX7_fill_0
  refine V_aload_n (κ := KX7_fill) (pc := 0) dX7_fill_0 0 rfl rfl ?_
  refine V_iconst (κ := KX7_fill) (pc := 1) dX7_fill_1 ⟨by decide, by decide⟩ ?_
  refine V_putf 7 (κ := KX7_fill) (pc := 2) rfl (by decide) rfl inX7 tyX7 tyX7_ok nmX7 0 (by decide) wd_987 rfl rfl (t := 0) rfl rfl dX7_fill_2 fun u101 => ?_
  refine V_aload_n (κ := KX7_fill) (pc := 5) dX7_fill_5 0 rfl rfl ?_
  refine V_aload_n (κ := KX7_fill) (pc := 6) dX7_fill_6 0 rfl rfl ?_
  refine V_iload_n (κ := KX7_fill) (pc := 7) dX7_fill_7 1 rfl ?_
  refine V_callV (ci := 7) (T := TX7) (N := 24) rfl (by decide) (κ := KX7_fill) (pc := 8) (con_X7_isPlate _ _ _) mth_X7_isPlate rfl ⟨wd_1291, wp_75⟩ wd_1289 (st0 := [(2, x0)]) rfl rfl (by decide) (Nat.le_of_ble_eq_true rfl) dX7_fill_8 (fun _ _ _ h => VX_out rfl (by decide) h) fun t102 u103 => ?_
  refine V_iconst (κ := KX7_fill) (pc := 11) dX7_fill_11 ⟨by decide, by decide⟩ ?_
  refine V_callV (ci := 7) (T := TX7) (N := 24) rfl (by decide) (κ := KX7_fill) (pc := 12) (con_X7_right _ _ _ _) mth_X7_right rfl ⟨wd_1086, wp_35⟩ wd_1084 (st0 := []) rfl rfl (by decide) (Nat.le_of_ble_eq_true rfl) dX7_fill_12 (fun _ _ _ h => VX_out rfl (by decide) h) fun t104 u105 => ?_
  refine V_if_eq (κ := KX7_fill) (pc := 15) (tgt := 34) dX7_fill_15 rfl ?_ ?_
  · refine V_sub (lv' := []) [] rfl ?_
    exact VBX7_fill_34 _
  refine V_aload_n (κ := KX7_fill) (pc := 18) dX7_fill_18 0 rfl rfl ?_
  refine V_iload_n (κ := KX7_fill) (pc := 19) dX7_fill_19 2 rfl ?_
  refine V_iconst (κ := KX7_fill) (pc := 20) dX7_fill_20 ⟨by decide, by decide⟩ ?_
  refine V_sipush (κ := KX7_fill) (pc := 21) dX7_fill_21 ⟨by decide, by decide⟩ (by decide) ?_
  refine V_callS (κ := KX7_fill) (pc := 24) (con_X7_isIn _ _ _ _) mth_X7_isIn wd_1082 wd_1081 (st0 := [(2, x0)]) rfl rfl (by decide) (Nat.le_of_ble_eq_true rfl) dX7_fill_24 (fun _ _ _ h => VX_out rfl (by decide) h) fun t106 u107 => ?_
  refine V_iconst (κ := KX7_fill) (pc := 27) dX7_fill_27 ⟨by decide, by decide⟩ ?_
  refine V_callV (ci := 7) (T := TX7) (N := 24) rfl (by decide) (κ := KX7_fill) (pc := 28) (con_X7_right _ _ _ _) mth_X7_right rfl ⟨wd_1086, wp_35⟩ wd_1084 (st0 := []) rfl rfl (by decide) (Nat.le_of_ble_eq_true rfl) dX7_fill_28 (fun _ _ _ h => VX_out rfl (by decide) h) fun t108 u109 => ?_
  refine V_if_ne (κ := KX7_fill) (pc := 31) (tgt := 36) dX7_fill_31 rfl ?_ ?_
  · refine V_aload_n (κ := KX7_fill) (pc := 36) dX7_fill_36 0 rfl rfl ?_
    refine V_callV (ci := 7) (T := TX7) (N := 24) rfl (by decide) (κ := KX7_fill) (pc := 37) (con_X7_change _ _) mth_X7_change rfl ⟨wd_1177, wp_52⟩ wd_1175 (st0 := []) rfl rfl (by decide) (Nat.le_of_ble_eq_true rfl) dX7_fill_37 (fun _ _ _ h => VX_out rfl (by decide) h) fun _ u111 => ?_
    refine V_aload_n (κ := KX7_fill) (pc := 40) dX7_fill_40 0 rfl rfl ?_
    refine V_iload_n (κ := KX7_fill) (pc := 41) dX7_fill_41 1 rfl ?_
    refine V_bipush (κ := KX7_fill) (pc := 42) dX7_fill_42 ⟨by decide, by decide⟩ (by decide) ?_
    refine V_ldc (κ := KX7_fill) (pc := 44) (z := 99999) dX7_fill_44 wd_1168 ⟨by decide, by decide⟩ (by decide) ?_
    refine V_aload_n (κ := KX7_fill) (pc := 46) dX7_fill_46 0 rfl rfl ?_
    refine V_iload_n (κ := KX7_fill) (pc := 47) dX7_fill_47 1 rfl ?_
    refine V_bipush (κ := KX7_fill) (pc := 48) dX7_fill_48 ⟨by decide, by decide⟩ (by decide) ?_
    refine V_callV (ci := 7) (T := TX7) (N := 24) rfl (by decide) (κ := KX7_fill) (pc := 50) (con_X7_of _ _ _ _) mth_X7_of rfl ⟨wd_1233, wp_65⟩ wd_1231 (st0 := [(0, 99999), (0, 12), (0, x1), (2, x0)]) rfl rfl (by decide) (Nat.le_of_ble_eq_true rfl) dX7_fill_50 (fun _ _ _ h => VX_out rfl (by decide) h) fun t112 u113 => ?_
    refine V_iload_n (κ := KX7_fill) (pc := 53) dX7_fill_53 2 rfl ?_
    refine V_iadd (κ := KX7_fill) (pc := 54) dX7_fill_54 ?_
    refine V_callS (κ := KX7_fill) (pc := 55) (con_J9_min_7cf53 _ _ _) mth_J9_min_7cf53 wd_386 wd_1416 (st0 := [(0, 12), (0, x1), (2, x0)]) rfl rfl (by decide) (Nat.le_of_ble_eq_true rfl) dX7_fill_55 (fun _ _ _ h => VX_out rfl (by decide) h) fun t114 u115 => ?_
    refine V_callV (ci := 7) (T := TX7) (N := 24) rfl (by decide) (κ := KX7_fill) (pc := 58) (con_X7_puts _ _ _ _ _) mth_X7_puts rfl ⟨wd_1390, wp_84⟩ wd_1388 (st0 := []) rfl rfl (by decide) (Nat.le_of_ble_eq_true rfl) dX7_fill_58 (fun _ _ _ h => VX_out rfl (by decide) h) fun _ u117 => ?_
    refine V_aload_n (κ := KX7_fill) (pc := 61) dX7_fill_61 0 rfl rfl ?_
    refine V_iload_n (κ := KX7_fill) (pc := 62) dX7_fill_62 1 rfl ?_
    refine V_bipush (κ := KX7_fill) (pc := 63) dX7_fill_63 ⟨by decide, by decide⟩ (by decide) ?_
    refine V_callV (ci := 7) (T := TX7) (N := 24) rfl (by decide) (κ := KX7_fill) (pc := 65) (con_X7_of _ _ _ _) mth_X7_of rfl ⟨wd_1233, wp_65⟩ wd_1231 (st0 := []) rfl rfl (by decide) (Nat.le_of_ble_eq_true rfl) dX7_fill_65 (fun _ _ _ h => VX_out rfl (by decide) h) fun t118 u119 => ?_
    exact V_ireturn (κ := KX7_fill) (pc := 68) rfl rfl dX7_fill_68
  refine V_sub (lv' := []) [] rfl ?_
  exact VBX7_fill_34 _
theorem con_X7_fill (a0 a1 a2 : Int) (μ : Mem) : Con (4) yX7_fill (.code yX7_fill cX7_fill 3 (some .int)) 0 [(2, a0), (0, a1), (0, a2)] μ (FX7_fill a0 a1 a2 μ) := Con_intro KX7_fill (plainFor_of_name (by decide)) rfl (fun h => by cases h) (by decide) rfl (Nat.le_of_ble_eq_true rfl) (fun Γ => VBX7_fill_0 _ _ _ _)
abbrev KX7_find : Kap := (RX7, cX7_find, 5, 3, 0, (some .int), false, [])
theorem VBX7_find_94 {Γ : Gam} {k26 : Int → Int → Int → Mem → Rz} (hk26 : ∀ (y0 y1 y2 : Int) (ν : Mem), V Γ KX7_find 26 [(0, (2, y0)), (1, (0, y1)), (2, (0, y2))] [] ν (k26 y0 y1 y2 ν)) (x0 x1 x2 x3 : Int) (μ : Mem) : V Γ KX7_find 94 [(0, (2, x0)), (1, (0, x1)), (2, (0, x2)), (3, (0, x3))] [] μ (BX7_find_94 k26 x0 x1 x2 x3 μ) := by
  unfold BX7_find_94
  refine V_iload_n (κ := KX7_find) (pc := 94) dX7_find_94 3 rfl ?_
  refine V_if_eq (κ := KX7_find) (pc := 95) (tgt := 100) dX7_find_95 rfl ?_ ?_
  · refine V_iinc (κ := KX7_find) (pc := 100) (lv' := [(2, (0, w32 (x2 + 1))), (0, (2, x0)), (1, (0, x1)), (3, (0, x3))]) dX7_find_100 2 rfl (by decide) rfl ?_
    refine V_goto (κ := KX7_find) (pc := 103) (tgt := 26) dX7_find_103 rfl ?_
    refine V_sub (lv' := [(0, (2, x0)), (1, (0, x1)), (2, (0, w32 (x2 + 1)))]) [1, 2, 0] rfl ?_
    exact hk26 _ _ _ _
  refine V_iload_n (κ := KX7_find) (pc := 98) dX7_find_98 2 rfl ?_
  exact V_ireturn (κ := KX7_find) (pc := 99) rfl rfl dX7_find_99
theorem VBX7_find_87 {Γ : Gam} {k26 : Int → Int → Int → Mem → Rz} (hk26 : ∀ (y0 y1 y2 : Int) (ν : Mem), V Γ KX7_find 26 [(0, (2, y0)), (1, (0, y1)), (2, (0, y2))] [] ν (k26 y0 y1 y2 ν)) {k53 : Int → Int → Int → Int → Int → Mem → Rz} (hk53 : ∀ (y0 y1 y2 y3 y4 : Int) (ν : Mem), V Γ KX7_find 53 [(0, (2, y0)), (1, (0, y1)), (2, (0, y2)), (3, (0, y3)), (4, (0, y4))] [] ν (k53 y0 y1 y2 y3 y4 ν)) (x0 x1 x2 x4 s0 : Int) (μ : Mem) : V Γ KX7_find 87 [(0, (2, x0)), (1, (0, x1)), (2, (0, x2)), (4, (0, x4))] [(0, s0)] μ (BX7_find_87 k26 k53 x0 x1 x2 x4 s0 μ) := by
  unfold BX7_find_87
  refine V_istore_n (κ := KX7_find) (pc := 87) (lv' := [(3, (0, s0)), (0, (2, x0)), (1, (0, x1)), (2, (0, x2)), (4, (0, x4))]) dX7_find_87 (by decide) rfl ?_
  refine V_iinc (κ := KX7_find) (pc := 88) (lv' := [(4, (0, w32 (x4 + 1))), (3, (0, s0)), (0, (2, x0)), (1, (0, x1)), (2, (0, x2))]) dX7_find_88 4 rfl (by decide) rfl ?_
  refine V_goto (κ := KX7_find) (pc := 91) (tgt := 53) dX7_find_91 rfl ?_
  refine V_sub (lv' := [(0, (2, x0)), (1, (0, x1)), (2, (0, x2)), (3, (0, s0)), (4, (0, w32 (x4 + 1)))]) [2, 3, 4, 1, 0] rfl ?_
  exact hk53 _ _ _ _ _ _
theorem VBX7_find_53 {Γ : Gam} {k26 : Int → Int → Int → Mem → Rz} (hk26 : ∀ (y0 y1 y2 : Int) (ν : Mem), V Γ KX7_find 26 [(0, (2, y0)), (1, (0, y1)), (2, (0, y2))] [] ν (k26 y0 y1 y2 ν)) {k53 : Int → Int → Int → Int → Int → Mem → Rz} (hk53 : ∀ (y0 y1 y2 y3 y4 : Int) (ν : Mem), V Γ KX7_find 53 [(0, (2, y0)), (1, (0, y1)), (2, (0, y2)), (3, (0, y3)), (4, (0, y4))] [] ν (k53 y0 y1 y2 y3 y4 ν)) (x0 x1 x2 x3 x4 : Int) (μ : Mem) : V Γ KX7_find 53 [(0, (2, x0)), (1, (0, x1)), (2, (0, x2)), (3, (0, x3)), (4, (0, x4))] [] μ (BX7_find_53 k26 k53 x0 x1 x2 x3 x4 μ) := by
  unfold BX7_find_53
  refine V_iload (κ := KX7_find) (pc := 53) dX7_find_53 4 rfl ?_
  refine V_iload_n (κ := KX7_find) (pc := 55) dX7_find_55 1 rfl ?_
  refine V_icmp_ge (κ := KX7_find) (pc := 56) (tgt := 94) dX7_find_56 rfl ?_ ?_
  · refine V_sub (lv' := [(0, (2, x0)), (1, (0, x1)), (2, (0, x2)), (3, (0, x3))]) [0, 1, 2, 3] rfl ?_
    exact VBX7_find_94 hk26 _ _ _ _ _
  refine V_iload_n (κ := KX7_find) (pc := 59) dX7_find_59 3 rfl ?_
  refine V_if_eq (κ := KX7_find) (pc := 60) (tgt := 94) dX7_find_60 rfl ?_ ?_
  · refine V_sub (lv' := [(0, (2, x0)), (1, (0, x1)), (2, (0, x2)), (3, (0, x3))]) [0, 1, 2, 3] rfl ?_
    exact VBX7_find_94 hk26 _ _ _ _ _
  refine V_aload_n (κ := KX7_find) (pc := 63) dX7_find_63 0 rfl rfl ?_
  refine V_iload_n (κ := KX7_find) (pc := 64) dX7_find_64 2 rfl ?_
  refine V_iconst (κ := KX7_find) (pc := 65) dX7_find_65 ⟨by decide, by decide⟩ ?_
  refine V_iload (κ := KX7_find) (pc := 66) dX7_find_66 4 rfl ?_
  refine V_iadd (κ := KX7_find) (pc := 68) dX7_find_68 ?_
  refine V_callV (ci := 7) (T := TX7) (N := 24) rfl (by decide) (κ := KX7_find) (pc := 69) (con_X7_of _ _ _ _) mth_X7_of rfl ⟨wd_1233, wp_65⟩ wd_1231 (st0 := []) rfl rfl (by decide) (Nat.le_of_ble_eq_true rfl) dX7_find_69 (fun _ _ _ h => VX_out rfl (by decide) h) fun t101 u102 => ?_
  refine V_aload_n (κ := KX7_find) (pc := 72) dX7_find_72 0 rfl rfl ?_
  refine V_getf 7 (κ := KX7_find) (pc := 73) rfl (by decide) rfl inX7 11 (by decide) wd_998 rfl (t := 2) rfl dX7_find_73 fun t103 => ?_
  refine V_iload (κ := KX7_find) (pc := 76) dX7_find_76 4 rfl ?_
  refine V_iaload (κ := KX7_find) (pc := 78) dX7_find_78 fun t104 => ?_
  refine V_icmp_ne (κ := KX7_find) (pc := 79) (tgt := 86) dX7_find_79 rfl ?_ ?_
  · refine V_iconst (κ := KX7_find) (pc := 86) dX7_find_86 ⟨by decide, by decide⟩ ?_
    refine V_sub (lv' := [(0, (2, x0)), (1, (0, x1)), (2, (0, x2)), (4, (0, x4))]) [0, 1, 2, 4] rfl ?_
    exact VBX7_find_87 hk26 hk53 _ _ _ _ _ _
  refine V_iconst (κ := KX7_find) (pc := 82) dX7_find_82 ⟨by decide, by decide⟩ ?_
  refine V_goto (κ := KX7_find) (pc := 83) (tgt := 87) dX7_find_83 rfl ?_
  refine V_sub (lv' := [(0, (2, x0)), (1, (0, x1)), (2, (0, x2)), (4, (0, x4))]) [0, 1, 2, 4] rfl ?_
  exact VBX7_find_87 hk26 hk53 _ _ _ _ _ _
theorem VLX7_find_53 {Γ : Gam} {k26 : Int → Int → Int → Mem → Rz} (hk26 : ∀ (y0 y1 y2 : Int) (ν : Mem), V Γ KX7_find 26 [(0, (2, y0)), (1, (0, y1)), (2, (0, y2))] [] ν (k26 y0 y1 y2 ν)) : ∀ (n : Nat) (x0 x1 x2 x3 x4 : Int) (μ : Mem), V Γ KX7_find 53 [(0, (2, x0)), (1, (0, x1)), (2, (0, x2)), (3, (0, x3)), (4, (0, x4))] [] μ (LX7_find_53 k26 n x0 x1 x2 x3 x4 μ)
  | 0, _, _, _, _, _, _ => V_none
  | n + 1, x0, x1, x2, x3, x4, μ => VBX7_find_53 hk26 (fun y0 y1 y2 y3 y4 ν => VLX7_find_53 hk26 n y0 y1 y2 y3 y4 ν) x0 x1 x2 x3 x4 μ
theorem VBX7_find_49 {Γ : Gam} {k26 : Int → Int → Int → Mem → Rz} (hk26 : ∀ (y0 y1 y2 : Int) (ν : Mem), V Γ KX7_find 26 [(0, (2, y0)), (1, (0, y1)), (2, (0, y2))] [] ν (k26 y0 y1 y2 ν)) (x0 x1 x2 s0 : Int) (μ : Mem) : V Γ KX7_find 49 [(0, (2, x0)), (1, (0, x1)), (2, (0, x2))] [(0, s0)] μ (BX7_find_49 k26 x0 x1 x2 s0 μ) := by
  unfold BX7_find_49
  refine V_istore_n (κ := KX7_find) (pc := 49) (lv' := [(3, (0, s0)), (0, (2, x0)), (1, (0, x1)), (2, (0, x2))]) dX7_find_49 (by decide) rfl ?_
  refine V_iconst (κ := KX7_find) (pc := 50) dX7_find_50 ⟨by decide, by decide⟩ ?_
  refine V_istore (κ := KX7_find) (pc := 51) (lv' := [(4, (0, 0)), (3, (0, s0)), (0, (2, x0)), (1, (0, x1)), (2, (0, x2))]) dX7_find_51 (by decide) rfl ?_
  refine V_sub (lv' := [(0, (2, x0)), (1, (0, x1)), (2, (0, x2)), (3, (0, s0)), (4, (0, 0))]) [2, 3, 4, 1, 0] rfl ?_
  exact VLX7_find_53 hk26 FU _ _ _ _ _ _
theorem VBX7_find_26 {Γ : Gam} {k26 : Int → Int → Int → Mem → Rz} (hk26 : ∀ (y0 y1 y2 : Int) (ν : Mem), V Γ KX7_find 26 [(0, (2, y0)), (1, (0, y1)), (2, (0, y2))] [] ν (k26 y0 y1 y2 ν)) (x0 x1 x2 : Int) (μ : Mem) : V Γ KX7_find 26 [(0, (2, x0)), (1, (0, x1)), (2, (0, x2))] [] μ (BX7_find_26 k26 x0 x1 x2 μ) := by
  unfold BX7_find_26
  refine V_iload_n (κ := KX7_find) (pc := 26) dX7_find_26 2 rfl ?_
  refine V_aload_n (κ := KX7_find) (pc := 27) dX7_find_27 0 rfl rfl ?_
  refine V_callV (ci := 7) (T := TX7) (N := 24) rfl (by decide) (κ := KX7_find) (pc := 28) (con_X7_plates _ _) mth_X7_plates rfl ⟨wd_1189, wp_55⟩ wd_1187 (st0 := [(0, x2)]) rfl rfl (by decide) (Nat.le_of_ble_eq_true rfl) dX7_find_28 (fun _ _ _ h => VX_out rfl (by decide) h) fun t101 u102 => ?_
  refine V_icmp_ge (κ := KX7_find) (pc := 31) (tgt := 106) dX7_find_31 rfl ?_ ?_
  · refine V_iconst (κ := KX7_find) (pc := 106) dX7_find_106 ⟨by decide, by decide⟩ ?_
    exact V_ireturn (κ := KX7_find) (pc := 107) rfl rfl dX7_find_107
  refine V_aload_n (κ := KX7_find) (pc := 34) dX7_find_34 0 rfl rfl ?_
  refine V_iload_n (κ := KX7_find) (pc := 35) dX7_find_35 2 rfl ?_
  refine V_iconst (κ := KX7_find) (pc := 36) dX7_find_36 ⟨by decide, by decide⟩ ?_
  refine V_callV (ci := 7) (T := TX7) (N := 24) rfl (by decide) (κ := KX7_find) (pc := 37) (con_X7_of _ _ _ _) mth_X7_of rfl ⟨wd_1233, wp_65⟩ wd_1231 (st0 := []) rfl rfl (by decide) (Nat.le_of_ble_eq_true rfl) dX7_find_37 (fun _ _ _ h => VX_out rfl (by decide) h) fun t103 u104 => ?_
  refine V_iload_n (κ := KX7_find) (pc := 40) dX7_find_40 1 rfl ?_
  refine V_icmp_ne (κ := KX7_find) (pc := 41) (tgt := 48) dX7_find_41 rfl ?_ ?_
  · refine V_iconst (κ := KX7_find) (pc := 48) dX7_find_48 ⟨by decide, by decide⟩ ?_
    exact VBX7_find_49 hk26 _ _ _ _ _
  refine V_iconst (κ := KX7_find) (pc := 44) dX7_find_44 ⟨by decide, by decide⟩ ?_
  refine V_goto (κ := KX7_find) (pc := 45) (tgt := 49) dX7_find_45 rfl ?_
  exact VBX7_find_49 hk26 _ _ _ _ _
theorem VLX7_find_26 {Γ : Gam} : ∀ (n : Nat) (x0 x1 x2 : Int) (μ : Mem), V Γ KX7_find 26 [(0, (2, x0)), (1, (0, x1)), (2, (0, x2))] [] μ (LX7_find_26 n x0 x1 x2 μ)
  | 0, _, _, _, _ => V_none
  | n + 1, x0, x1, x2, μ => VBX7_find_26 (fun y0 y1 y2 ν => VLX7_find_26 n y0 y1 y2 ν) x0 x1 x2 μ
theorem VBX7_find_0 {Γ : Gam} (x0 x1 : Int) (μ : Mem) : V Γ KX7_find 0 [(0, (2, x0)), (1, (0, x1))] [] μ (BX7_find_0 x0 x1 μ) := by
  unfold BX7_find_0
  refine V_aload_n (κ := KX7_find) (pc := 0) dX7_find_0 0 rfl rfl ?_
  refine V_iconst (κ := KX7_find) (pc := 1) dX7_find_1 ⟨by decide, by decide⟩ ?_
  refine V_putf 7 (κ := KX7_find) (pc := 2) rfl (by decide) rfl inX7 tyX7 tyX7_ok nmX7 0 (by decide) wd_987 rfl rfl (t := 0) rfl rfl dX7_find_2 fun u101 => ?_
  refine V_aload_n (κ := KX7_find) (pc := 5) dX7_find_5 0 rfl rfl ?_
  refine V_iload_n (κ := KX7_find) (pc := 6) dX7_find_6 1 rfl ?_
  refine V_iconst (κ := KX7_find) (pc := 7) dX7_find_7 ⟨by decide, by decide⟩ ?_
  refine V_aload_n (κ := KX7_find) (pc := 8) dX7_find_8 0 rfl rfl ?_
  refine V_getf 7 (κ := KX7_find) (pc := 9) rfl (by decide) rfl inX7 12 (by decide) wd_999 rfl (t := 0) rfl dX7_find_9 fun t102 => ?_
  refine V_callS (κ := KX7_find) (pc := 12) (con_X7_isIn _ _ _ _) mth_X7_isIn wd_1082 wd_1081 (st0 := [(2, x0)]) rfl rfl (by decide) (Nat.le_of_ble_eq_true rfl) dX7_find_12 (fun _ _ _ h => VX_out rfl (by decide) h) fun t103 u104 => ?_
  refine V_iconst (κ := KX7_find) (pc := 15) dX7_find_15 ⟨by decide, by decide⟩ ?_
  refine V_callV (ci := 7) (T := TX7) (N := 24) rfl (by decide) (κ := KX7_find) (pc := 16) (con_X7_right _ _ _ _) mth_X7_right rfl ⟨wd_1086, wp_35⟩ wd_1084 (st0 := []) rfl rfl (by decide) (Nat.le_of_ble_eq_true rfl) dX7_find_16 (fun _ _ _ h => VX_out rfl (by decide) h) fun t105 u106 => ?_
  refine V_if_ne (κ := KX7_find) (pc := 19) (tgt := 24) dX7_find_19 rfl ?_ ?_
  · refine V_iconst (κ := KX7_find) (pc := 24) dX7_find_24 ⟨by decide, by decide⟩ ?_
    refine V_istore_n (κ := KX7_find) (pc := 25) (lv' := [(2, (0, 0)), (0, (2, x0)), (1, (0, x1))]) dX7_find_25 (by decide) rfl ?_
    refine V_sub (lv' := [(0, (2, x0)), (1, (0, x1)), (2, (0, 0))]) [1, 2, 0] rfl ?_
    exact VLX7_find_26 FU _ _ _ _
  refine V_iconst (κ := KX7_find) (pc := 22) dX7_find_22 ⟨by decide, by decide⟩ ?_
  exact V_ireturn (κ := KX7_find) (pc := 23) rfl rfl dX7_find_23
theorem con_X7_find (a0 a1 : Int) (μ : Mem) : Con (3) yX7_find (.code yX7_find cX7_find 5 (some .int)) 0 [(2, a0), (0, a1)] μ (FX7_find a0 a1 μ) := Con_intro KX7_find (plainFor_of_name (by decide)) rfl (fun h => by cases h) (by decide) rfl (Nat.le_of_ble_eq_true rfl) (fun Γ => VBX7_find_0 _ _ _)
abbrev KX7_begins : Kap := (RX7, cX7_begins, 4, 1, 9, none, false, [])
theorem VBX7_begins_2 {Γ : Gam} {k2 : Int → Int → Int → Int → Mem → Rz} (hk2 : ∀ (y0 y1 y2 y3 : Int) (ν : Mem), V Γ KX7_begins 2 [(0, (2, y0)), (1, (0, y1)), (2, (0, y2)), (3, (0, y3))] [] ν (k2 y0 y1 y2 y3 ν)) (x0 x1 x2 x3 : Int) (μ : Mem) : V Γ KX7_begins 2 [(0, (2, x0)), (1, (0, x1)), (2, (0, x2)), (3, (0, x3))] [] μ (BX7_begins_2 k2 x0 x1 x2 x3 μ) := by
  unfold BX7_begins_2
  refine V_iload_n (κ := KX7_begins) (pc := 2) dX7_begins_2 3 rfl ?_
  refine V_sipush (κ := KX7_begins) (pc := 3) dX7_begins_3 ⟨by decide, by decide⟩ (by decide) ?_
  refine V_icmp_ge (κ := KX7_begins) (pc := 6) (tgt := 22) dX7_begins_6 rfl ?_ ?_
  · refine V_aload_n (κ := KX7_begins) (pc := 22) dX7_begins_22 0 rfl rfl ?_
    refine V_getf 7 (κ := KX7_begins) (pc := 23) rfl (by decide) rfl inX7 2 (by decide) wd_989 rfl (t := 2) rfl dX7_begins_23 fun t101 => ?_
    refine V_iconst (κ := KX7_begins) (pc := 26) dX7_begins_26 ⟨by decide, by decide⟩ ?_
    refine V_iload_n (κ := KX7_begins) (pc := 27) dX7_begins_27 1 rfl ?_
    refine V_iastore (κ := KX7_begins) (pc := 28) dX7_begins_28 fun u102 => ?_
    refine V_aload_n (κ := KX7_begins) (pc := 29) dX7_begins_29 0 rfl rfl ?_
    refine V_getf 7 (κ := KX7_begins) (pc := 30) rfl (by decide) rfl inX7 2 (by decide) wd_989 rfl (t := 2) rfl dX7_begins_30 fun t103 => ?_
    refine V_iconst (κ := KX7_begins) (pc := 33) dX7_begins_33 ⟨by decide, by decide⟩ ?_
    refine V_iload_n (κ := KX7_begins) (pc := 34) dX7_begins_34 2 rfl ?_
    refine V_iastore (κ := KX7_begins) (pc := 35) dX7_begins_35 fun u104 => ?_
    refine V_aload_n (κ := KX7_begins) (pc := 36) dX7_begins_36 0 rfl rfl ?_
    refine V_getf 7 (κ := KX7_begins) (pc := 37) rfl (by decide) rfl inX7 2 (by decide) wd_989 rfl (t := 2) rfl dX7_begins_37 fun t105 => ?_
    refine V_iconst (κ := KX7_begins) (pc := 40) dX7_begins_40 ⟨by decide, by decide⟩ ?_
    refine V_iconst (κ := KX7_begins) (pc := 41) dX7_begins_41 ⟨by decide, by decide⟩ ?_
    refine V_iastore (κ := KX7_begins) (pc := 42) dX7_begins_42 fun u106 => ?_
    exact V_vreturn (κ := KX7_begins) (pc := 43) rfl rfl dX7_begins_43
  refine V_aload_n (κ := KX7_begins) (pc := 9) dX7_begins_9 0 rfl rfl ?_
  refine V_getf 7 (κ := KX7_begins) (pc := 10) rfl (by decide) rfl inX7 2 (by decide) wd_989 rfl (t := 2) rfl dX7_begins_10 fun t107 => ?_
  refine V_iload_n (κ := KX7_begins) (pc := 13) dX7_begins_13 3 rfl ?_
  refine V_iconst (κ := KX7_begins) (pc := 14) dX7_begins_14 ⟨by decide, by decide⟩ ?_
  refine V_iastore (κ := KX7_begins) (pc := 15) dX7_begins_15 fun u108 => ?_
  refine V_iinc (κ := KX7_begins) (pc := 16) (lv' := [(3, (0, w32 (x3 + 1))), (0, (2, x0)), (1, (0, x1)), (2, (0, x2))]) dX7_begins_16 3 rfl (by decide) rfl ?_
  refine V_goto (κ := KX7_begins) (pc := 19) (tgt := 2) dX7_begins_19 rfl ?_
  refine V_sub (lv' := [(0, (2, x0)), (1, (0, x1)), (2, (0, x2)), (3, (0, w32 (x3 + 1)))]) [1, 2, 3, 0] rfl ?_
  exact hk2 _ _ _ _ _
theorem VLX7_begins_2 {Γ : Gam} : ∀ (n : Nat) (x0 x1 x2 x3 : Int) (μ : Mem), V Γ KX7_begins 2 [(0, (2, x0)), (1, (0, x1)), (2, (0, x2)), (3, (0, x3))] [] μ (LX7_begins_2 n x0 x1 x2 x3 μ)
  | 0, _, _, _, _, _ => V_none
  | n + 1, x0, x1, x2, x3, μ => VBX7_begins_2 (fun y0 y1 y2 y3 ν => VLX7_begins_2 n y0 y1 y2 y3 ν) x0 x1 x2 x3 μ
theorem VBX7_begins_0 {Γ : Gam} (x0 x1 x2 : Int) (μ : Mem) : V Γ KX7_begins 0 [(0, (2, x0)), (1, (0, x1)), (2, (0, x2))] [] μ (BX7_begins_0 x0 x1 x2 μ) := by
  unfold BX7_begins_0
  refine V_iconst (κ := KX7_begins) (pc := 0) dX7_begins_0 ⟨by decide, by decide⟩ ?_
  refine V_istore_n (κ := KX7_begins) (pc := 1) (lv' := [(3, (0, 0)), (0, (2, x0)), (1, (0, x1)), (2, (0, x2))]) dX7_begins_1 (by decide) rfl ?_
  refine V_sub (lv' := [(0, (2, x0)), (1, (0, x1)), (2, (0, x2)), (3, (0, 0))]) [1, 2, 3, 0] rfl ?_
  exact VLX7_begins_2 FU _ _ _ _ _
theorem con_X7_begins (a0 a1 a2 : Int) (μ : Mem) : Con (1) yX7_begins (.code yX7_begins cX7_begins 4 none) 9 [(2, a0), (0, a1), (0, a2)] μ (FX7_begins a0 a1 a2 μ) := Con_intro KX7_begins (plainFor_of_name (by decide)) rfl (fun h => by cases h) (by decide) rfl (Nat.le_of_ble_eq_true rfl) (fun Γ => VBX7_begins_0 _ _ _ _)
abbrev KX7_init : Kap := (RX7, cX7_init, 2, 2, 9, none, true, [])
theorem VBX7_init_98 {Γ : Gam} {k98 : Int → Int → Mem → Rz} (hk98 : ∀ (y0 y1 : Int) (ν : Mem), V Γ KX7_init 98 [(0, (2, y0)), (1, (0, y1))] [] ν (k98 y0 y1 ν)) (x0 x1 : Int) (μ : Mem) : V Γ KX7_init 98 [(0, (2, x0)), (1, (0, x1))] [] μ (BX7_init_98 k98 x0 x1 μ) := by
  unfold BX7_init_98
  refine V_iload_n (κ := KX7_init) (pc := 98) dX7_init_98 1 rfl ?_
  refine V_sipush (κ := KX7_init) (pc := 99) dX7_init_99 ⟨by decide, by decide⟩ (by decide) ?_
  refine V_icmp_ge (κ := KX7_init) (pc := 102) (tgt := 123) dX7_init_102 rfl ?_ ?_
  · exact V_vreturn (κ := KX7_init) (pc := 123) rfl rfl dX7_init_123
  refine V_aload_n (κ := KX7_init) (pc := 105) dX7_init_105 0 rfl rfl ?_
  refine V_getf 7 (κ := KX7_init) (pc := 106) rfl (by decide) rfl inX7 1 (by decide) wd_988 rfl (t := 2) rfl dX7_init_106 fun t101 => ?_
  refine V_iload_n (κ := KX7_init) (pc := 109) dX7_init_109 1 rfl ?_
  refine V_aload_n (κ := KX7_init) (pc := 110) dX7_init_110 0 rfl rfl ?_
  refine V_getf 7 (κ := KX7_init) (pc := 111) rfl (by decide) rfl inX7 2 (by decide) wd_989 rfl (t := 2) rfl dX7_init_111 fun t102 => ?_
  refine V_iload_n (κ := KX7_init) (pc := 114) dX7_init_114 1 rfl ?_
  refine V_iaload (κ := KX7_init) (pc := 115) dX7_init_115 fun t103 => ?_
  refine V_iastore (κ := KX7_init) (pc := 116) dX7_init_116 fun u104 => ?_
  refine V_iinc (κ := KX7_init) (pc := 117) (lv' := [(1, (0, w32 (x1 + 1))), (0, (2, x0))]) dX7_init_117 1 rfl (by decide) rfl ?_
  refine V_goto (κ := KX7_init) (pc := 120) (tgt := 98) dX7_init_120 rfl ?_
  refine V_sub (lv' := [(0, (2, x0)), (1, (0, w32 (x1 + 1)))]) [1, 0] rfl ?_
  exact hk98 _ _ _
theorem VLX7_init_98 {Γ : Gam} : ∀ (n : Nat) (x0 x1 : Int) (μ : Mem), V Γ KX7_init 98 [(0, (2, x0)), (1, (0, x1))] [] μ (LX7_init_98 n x0 x1 μ)
  | 0, _, _, _ => V_none
  | n + 1, x0, x1, μ => VBX7_init_98 (fun y0 y1 ν => VLX7_init_98 n y0 y1 ν) x0 x1 μ
theorem VBX7_init_0 {Γ : Gam} (x0 : Int) (μ : Mem) : V Γ KX7_init 0 [(0, (2, x0))] [] μ (BX7_init_0 x0 μ) := by
  unfold BX7_init_0
  refine V_aload_n (κ := KX7_init) (pc := 0) dX7_init_0 0 rfl rfl ?_
  refine V_objInit (κ := KX7_init) (pc := 1) (by decide) wd_981 wd_32 wd_33 (Nat.le_of_ble_eq_true rfl) dX7_init_1 (ci := 0) ?_
  refine V_aload_n (κ := KX7_init) (pc := 4) dX7_init_4 0 rfl rfl ?_
  refine V_ldc (κ := KX7_init) (pc := 5) (z := 45900) dX7_init_5 wd_982 ⟨by decide, by decide⟩ (by decide) ?_
  refine V_newarray 1 (by decide) (κ := KX7_init) (pc := 7) rfl wd_68 dX7_init_7 fun t101 u102 => ?_
  refine V_putfF rfl 7 (κ := KX7_init) (pc := 9) rfl (by decide) rfl inX7 tyX7 tyX7_ok nmX7 1 (by decide) wd_988 rfl rfl rfl (t := 2) rfl rfl dX7_init_9 fun u103 => ?_
  refine V_aload_n (κ := KX7_init) (pc := 12) dX7_init_12 0 rfl rfl ?_
  refine V_sipush (κ := KX7_init) (pc := 13) dX7_init_13 ⟨by decide, by decide⟩ (by decide) ?_
  refine V_newarray 1 (by decide) (κ := KX7_init) (pc := 16) rfl wd_68 dX7_init_16 fun t104 u105 => ?_
  refine V_putfF rfl 7 (κ := KX7_init) (pc := 18) rfl (by decide) rfl inX7 tyX7 tyX7_ok nmX7 2 (by decide) wd_989 rfl rfl rfl (t := 2) rfl rfl dX7_init_18 fun u106 => ?_
  refine V_aload_n (κ := KX7_init) (pc := 21) dX7_init_21 0 rfl rfl ?_
  refine V_sipush (κ := KX7_init) (pc := 22) dX7_init_22 ⟨by decide, by decide⟩ (by decide) ?_
  refine V_newarray 1 (by decide) (κ := KX7_init) (pc := 25) rfl wd_68 dX7_init_25 fun t107 u108 => ?_
  refine V_putfF rfl 7 (κ := KX7_init) (pc := 27) rfl (by decide) rfl inX7 tyX7 tyX7_ok nmX7 5 (by decide) wd_992 rfl rfl rfl (t := 2) rfl rfl dX7_init_27 fun u109 => ?_
  refine V_aload_n (κ := KX7_init) (pc := 30) dX7_init_30 0 rfl rfl ?_
  refine V_sipush (κ := KX7_init) (pc := 31) dX7_init_31 ⟨by decide, by decide⟩ (by decide) ?_
  refine V_newarray 2 (by decide) (κ := KX7_init) (pc := 34) rfl wd_1060 dX7_init_34 fun t110 u111 => ?_
  refine V_putfF rfl 7 (κ := KX7_init) (pc := 36) rfl (by decide) rfl inX7 tyX7 tyX7_ok nmX7 6 (by decide) wd_993 rfl rfl rfl (t := 2) rfl rfl dX7_init_36 fun u112 => ?_
  refine V_aload_n (κ := KX7_init) (pc := 39) dX7_init_39 0 rfl rfl ?_
  refine V_sipush (κ := KX7_init) (pc := 40) dX7_init_40 ⟨by decide, by decide⟩ (by decide) ?_
  refine V_newarray 1 (by decide) (κ := KX7_init) (pc := 43) rfl wd_68 dX7_init_43 fun t113 u114 => ?_
  refine V_putfF rfl 7 (κ := KX7_init) (pc := 45) rfl (by decide) rfl inX7 tyX7 tyX7_ok nmX7 7 (by decide) wd_994 rfl rfl rfl (t := 2) rfl rfl dX7_init_45 fun u115 => ?_
  refine V_aload_n (κ := KX7_init) (pc := 48) dX7_init_48 0 rfl rfl ?_
  refine V_sipush (κ := KX7_init) (pc := 49) dX7_init_49 ⟨by decide, by decide⟩ (by decide) ?_
  refine V_newarray 1 (by decide) (κ := KX7_init) (pc := 52) rfl wd_68 dX7_init_52 fun t116 u117 => ?_
  refine V_putfF rfl 7 (κ := KX7_init) (pc := 54) rfl (by decide) rfl inX7 tyX7 tyX7_ok nmX7 8 (by decide) wd_995 rfl rfl rfl (t := 2) rfl rfl dX7_init_54 fun u118 => ?_
  refine V_aload_n (κ := KX7_init) (pc := 57) dX7_init_57 0 rfl rfl ?_
  refine V_sipush (κ := KX7_init) (pc := 58) dX7_init_58 ⟨by decide, by decide⟩ (by decide) ?_
  refine V_newarray 1 (by decide) (κ := KX7_init) (pc := 61) rfl wd_68 dX7_init_61 fun t119 u120 => ?_
  refine V_putfF rfl 7 (κ := KX7_init) (pc := 63) rfl (by decide) rfl inX7 tyX7 tyX7_ok nmX7 9 (by decide) wd_996 rfl rfl rfl (t := 2) rfl rfl dX7_init_63 fun u121 => ?_
  refine V_aload_n (κ := KX7_init) (pc := 66) dX7_init_66 0 rfl rfl ?_
  refine V_sipush (κ := KX7_init) (pc := 67) dX7_init_67 ⟨by decide, by decide⟩ (by decide) ?_
  refine V_newarray 1 (by decide) (κ := KX7_init) (pc := 70) rfl wd_68 dX7_init_70 fun t122 u123 => ?_
  refine V_putfF rfl 7 (κ := KX7_init) (pc := 72) rfl (by decide) rfl inX7 tyX7 tyX7_ok nmX7 11 (by decide) wd_998 rfl rfl rfl (t := 2) rfl rfl dX7_init_72 fun u124 => ?_
  refine V_aload_n (κ := KX7_init) (pc := 75) dX7_init_75 0 rfl rfl ?_
  refine V_iconst (κ := KX7_init) (pc := 76) dX7_init_76 ⟨by decide, by decide⟩ ?_
  refine V_putf 7 (κ := KX7_init) (pc := 77) rfl (by decide) rfl inX7 tyX7 tyX7_ok nmX7 16 (by decide) wd_1003 rfl rfl (t := 0) rfl rfl dX7_init_77 fun u125 => ?_
  refine V_aload_n (κ := KX7_init) (pc := 80) dX7_init_80 0 rfl rfl ?_
  refine V_bipush (κ := KX7_init) (pc := 81) dX7_init_81 ⟨by decide, by decide⟩ (by decide) ?_
  refine V_newarray 1 (by decide) (κ := KX7_init) (pc := 83) rfl wd_68 dX7_init_83 fun t126 u127 => ?_
  refine V_putfF rfl 7 (κ := KX7_init) (pc := 85) rfl (by decide) rfl inX7 tyX7 tyX7_ok nmX7 23 (by decide) wd_1010 rfl rfl rfl (t := 2) rfl rfl dX7_init_85 fun u128 => ?_
  refine V_aload_n (κ := KX7_init) (pc := 88) dX7_init_88 0 rfl rfl ?_
  refine V_bipush (κ := KX7_init) (pc := 89) dX7_init_89 ⟨by decide, by decide⟩ (by decide) ?_
  refine V_bipush (κ := KX7_init) (pc := 91) dX7_init_91 ⟨by decide, by decide⟩ (by decide) ?_
  refine V_callV (ci := 7) (T := TX7) (N := 24) rfl (by decide) (κ := KX7_init) (pc := 93) (con_X7_begins _ _ _ _) mth_X7_begins rfl ⟨wd_985, wp_33⟩ wd_983 (st0 := []) rfl rfl (by decide) (Nat.le_of_ble_eq_true rfl) dX7_init_93 (fun _ _ _ h => VX_out rfl (by decide) h) fun _ u130 => ?_
  refine V_iconst (κ := KX7_init) (pc := 96) dX7_init_96 ⟨by decide, by decide⟩ ?_
  refine V_istore_n (κ := KX7_init) (pc := 97) (lv' := [(1, (0, 0)), (0, (2, x0))]) dX7_init_97 (by decide) rfl ?_
  refine V_sub (lv' := [(0, (2, x0)), (1, (0, 0))]) [1, 0] rfl ?_
  exact VLX7_init_98 FU _ _ _
theorem con_X7_init (a0 : Int) (μ : Mem) : Con (2) yX7_init (.code yX7_init cX7_init 2 none) 9 [(2, a0)] μ (FX7_init a0 μ) := Con_intro KX7_init (plainFor_of_name (by decide)) rfl (fun h => rfl) (by decide) rfl (Nat.le_of_ble_eq_true rfl) (fun Γ => VBX7_init_0 _ _)
abbrev KX7_inks : Kap := (RX7, cX7_inks, 3, 7, 0, (some .int), false, [])
theorem VBX7_inks_0 {Γ : Gam} (x0 x1 x2 : Int) (μ : Mem) : V Γ KX7_inks 0 [(0, (2, x0)), (1, (0, x1)), (2, (0, x2))] [] μ (BX7_inks_0 x0 x1 x2 μ) := by
  unfold BX7_inks_0
  refine V_aload_n (κ := KX7_inks) (pc := 0) dX7_inks_0 0 rfl rfl ?_
  refine V_iconst (κ := KX7_inks) (pc := 1) dX7_inks_1 ⟨by decide, by decide⟩ ?_
  refine V_putf 7 (κ := KX7_inks) (pc := 2) rfl (by decide) rfl inX7 tyX7 tyX7_ok nmX7 0 (by decide) wd_987 rfl rfl (t := 0) rfl rfl dX7_inks_2 fun u101 => ?_
  refine V_aload_n (κ := KX7_inks) (pc := 5) dX7_inks_5 0 rfl rfl ?_
  refine V_aload_n (κ := KX7_inks) (pc := 6) dX7_inks_6 0 rfl rfl ?_
  refine V_iload_n (κ := KX7_inks) (pc := 7) dX7_inks_7 1 rfl ?_
  refine V_iload_n (κ := KX7_inks) (pc := 8) dX7_inks_8 2 rfl ?_
  refine V_callV (ci := 7) (T := TX7) (N := 24) rfl (by decide) (κ := KX7_inks) (pc := 9) (con_X7_isCell _ _ _ _) mth_X7_isCell rfl ⟨wd_1271, wp_72⟩ wd_1269 (st0 := [(2, x0)]) rfl rfl (by decide) (Nat.le_of_ble_eq_true rfl) dX7_inks_9 (fun _ _ _ h => VX_out rfl (by decide) h) fun t102 u103 => ?_
  refine V_iconst (κ := KX7_inks) (pc := 12) dX7_inks_12 ⟨by decide, by decide⟩ ?_
  refine V_callV (ci := 7) (T := TX7) (N := 24) rfl (by decide) (κ := KX7_inks) (pc := 13) (con_X7_right _ _ _ _) mth_X7_right rfl ⟨wd_1086, wp_35⟩ wd_1084 (st0 := []) rfl rfl (by decide) (Nat.le_of_ble_eq_true rfl) dX7_inks_13 (fun _ _ _ h => VX_out rfl (by decide) h) fun t104 u105 => ?_
  refine V_if_ne (κ := KX7_inks) (pc := 16) (tgt := 21) dX7_inks_16 rfl ?_ ?_
  · refine V_aload_n (κ := KX7_inks) (pc := 21) dX7_inks_21 0 rfl rfl ?_
    refine V_callV (ci := 7) (T := TX7) (N := 24) rfl (by decide) (κ := KX7_inks) (pc := 22) (con_X7_lays _ _) mth_X7_lays rfl ⟨wd_1217, wp_61⟩ wd_1215 (st0 := []) rfl rfl (by decide) (Nat.le_of_ble_eq_true rfl) dX7_inks_22 (fun _ _ _ h => VX_out rfl (by decide) h) fun _ u107 => ?_
    refine V_aload_n (κ := KX7_inks) (pc := 25) dX7_inks_25 0 rfl rfl ?_
    refine V_getf 7 (κ := KX7_inks) (pc := 26) rfl (by decide) rfl inX7 9 (by decide) wd_996 rfl (t := 2) rfl dX7_inks_26 fun t108 => ?_
    refine V_bipush (κ := KX7_inks) (pc := 29) dX7_inks_29 ⟨by decide, by decide⟩ (by decide) ?_
    refine V_iload_n (κ := KX7_inks) (pc := 31) dX7_inks_31 2 rfl ?_
    refine V_imul (κ := KX7_inks) (pc := 32) dX7_inks_32 ?_
    refine V_iload_n (κ := KX7_inks) (pc := 33) dX7_inks_33 1 rfl ?_
    refine V_iadd (κ := KX7_inks) (pc := 34) dX7_inks_34 ?_
    refine V_iaload (κ := KX7_inks) (pc := 35) dX7_inks_35 fun t109 => ?_
    exact V_ireturn (κ := KX7_inks) (pc := 36) rfl rfl dX7_inks_36
  refine V_iconst (κ := KX7_inks) (pc := 19) dX7_inks_19 ⟨by decide, by decide⟩ ?_
  exact V_ireturn (κ := KX7_inks) (pc := 20) rfl rfl dX7_inks_20
theorem con_X7_inks (a0 a1 a2 : Int) (μ : Mem) : Con (7) yX7_inks (.code yX7_inks cX7_inks 3 (some .int)) 0 [(2, a0), (0, a1), (0, a2)] μ (FX7_inks a0 a1 a2 μ) := Con_intro KX7_inks (plainFor_of_name (by decide)) rfl (fun h => by cases h) (by decide) rfl (Nat.le_of_ble_eq_true rfl) (fun Γ => VBX7_inks_0 _ _ _ _)
abbrev KX7_limit : Kap := (RX7, cX7_limit, 3, 3, 0, (some .int), false, [])
theorem VBX7_limit_0 {Γ : Gam} (x0 x1 : Int) (μ : Mem) : V Γ KX7_limit 0 [(0, (2, x0)), (1, (0, x1))] [] μ (BX7_limit_0 x0 x1 μ) := by
  unfold BX7_limit_0
  refine V_aload_n (κ := KX7_limit) (pc := 0) dX7_limit_0 0 rfl rfl ?_
  refine V_iconst (κ := KX7_limit) (pc := 1) dX7_limit_1 ⟨by decide, by decide⟩ ?_
  refine V_putf 7 (κ := KX7_limit) (pc := 2) rfl (by decide) rfl inX7 tyX7 tyX7_ok nmX7 0 (by decide) wd_987 rfl rfl (t := 0) rfl rfl dX7_limit_2 fun u101 => ?_
  refine V_aload_n (κ := KX7_limit) (pc := 5) dX7_limit_5 0 rfl rfl ?_
  refine V_iload_n (κ := KX7_limit) (pc := 6) dX7_limit_6 1 rfl ?_
  refine V_iconst (κ := KX7_limit) (pc := 7) dX7_limit_7 ⟨by decide, by decide⟩ ?_
  refine V_iconst (κ := KX7_limit) (pc := 8) dX7_limit_8 ⟨by decide, by decide⟩ ?_
  refine V_callS (κ := KX7_limit) (pc := 9) (con_X7_isIn _ _ _ _) mth_X7_isIn wd_1082 wd_1081 (st0 := [(2, x0)]) rfl rfl (by decide) (Nat.le_of_ble_eq_true rfl) dX7_limit_9 (fun _ _ _ h => VX_out rfl (by decide) h) fun t102 u103 => ?_
  refine V_iconst (κ := KX7_limit) (pc := 12) dX7_limit_12 ⟨by decide, by decide⟩ ?_
  refine V_callV (ci := 7) (T := TX7) (N := 24) rfl (by decide) (κ := KX7_limit) (pc := 13) (con_X7_right _ _ _ _) mth_X7_right rfl ⟨wd_1086, wp_35⟩ wd_1084 (st0 := []) rfl rfl (by decide) (Nat.le_of_ble_eq_true rfl) dX7_limit_13 (fun _ _ _ h => VX_out rfl (by decide) h) fun t104 u105 => ?_
  refine V_if_ne (κ := KX7_limit) (pc := 16) (tgt := 21) dX7_limit_16 rfl ?_ ?_
  · refine V_aload_n (κ := KX7_limit) (pc := 21) dX7_limit_21 0 rfl rfl ?_
    refine V_callV (ci := 7) (T := TX7) (N := 24) rfl (by decide) (κ := KX7_limit) (pc := 22) (con_X7_change _ _) mth_X7_change rfl ⟨wd_1177, wp_52⟩ wd_1175 (st0 := []) rfl rfl (by decide) (Nat.le_of_ble_eq_true rfl) dX7_limit_22 (fun _ _ _ h => VX_out rfl (by decide) h) fun _ u107 => ?_
    refine V_aload_n (κ := KX7_limit) (pc := 25) dX7_limit_25 0 rfl rfl ?_
    refine V_iconst (κ := KX7_limit) (pc := 26) dX7_limit_26 ⟨by decide, by decide⟩ ?_
    refine V_callV (ci := 7) (T := TX7) (N := 24) rfl (by decide) (κ := KX7_limit) (pc := 27) (con_X7_get _ _ _) mth_X7_get rfl ⟨wd_1181, wp_53⟩ wd_1179 (st0 := []) rfl rfl (by decide) (Nat.le_of_ble_eq_true rfl) dX7_limit_27 (fun _ _ _ h => VX_out rfl (by decide) h) fun t108 u109 => ?_
    refine V_istore_n (κ := KX7_limit) (pc := 30) (lv' := [(2, (0, t108)), (0, (2, x0)), (1, (0, x1))]) dX7_limit_30 (by decide) rfl ?_
    refine V_aload_n (κ := KX7_limit) (pc := 31) dX7_limit_31 1 rfl rfl ?_
    refine V_iconst (κ := KX7_limit) (pc := 32) dX7_limit_32 ⟨by decide, by decide⟩ ?_
    refine V_iload_n (κ := KX7_limit) (pc := 33) dX7_limit_33 2 rfl ?_
    refine V_callV (ci := 7) (T := TX7) (N := 24) rfl (by decide) (κ := KX7_limit) (pc := 34) (con_X7_put _ _ _ _) mth_X7_put rfl ⟨wd_1185, wp_54⟩ wd_1183 (st0 := []) rfl rfl (by decide) (Nat.le_of_ble_eq_true rfl) dX7_limit_34 (fun _ _ _ h => VX_out rfl (by decide) h) fun _ u111 => ?_
    refine V_iload_n (κ := KX7_limit) (pc := 37) dX7_limit_37 0 rfl ?_
    exact V_ireturn (κ := KX7_limit) (pc := 38) rfl rfl dX7_limit_38
  refine V_iconst (κ := KX7_limit) (pc := 19) dX7_limit_19 ⟨by decide, by decide⟩ ?_
  exact V_ireturn (κ := KX7_limit) (pc := 20) rfl rfl dX7_limit_20
theorem con_X7_limit (a0 a1 : Int) (μ : Mem) : Con (3) yX7_limit (.code yX7_limit cX7_limit 3 (some .int)) 0 [(2, a0), (0, a1)] μ (FX7_limit a0 a1 μ) := Con_intro KX7_limit (plainFor_of_name (by decide)) rfl (fun h => by cases h) (by decide) rfl (Nat.le_of_ble_eq_true rfl) (fun Γ => VBX7_limit_0 _ _ _)
abbrev KX7_fails : Kap := (RX7, cX7_fails, 3, 1, 0, (some .boolean), false, [])
theorem VBX7_fails_0 {Γ : Gam} (x0 x1 x2 : Int) (μ : Mem) : V Γ KX7_fails 0 [(0, (2, x0)), (1, (0, x1)), (2, (0, x2))] [] μ (BX7_fails_0 x0 x1 x2 μ) := by
  unfold BX7_fails_0
  refine V_aload_n (κ := KX7_fails) (pc := 0) dX7_fails_0 0 rfl rfl ?_
  refine V_getf 7 (κ := KX7_fails) (pc := 1) rfl (by decide) rfl inX7 15 (by decide) wd_1002 rfl (t := 0) rfl dX7_fails_1 fun t101 => ?_
  refine V_if_eq (κ := KX7_fails) (pc := 4) (tgt := 9) dX7_fails_4 rfl ?_ ?_
  · refine V_aload_n (κ := KX7_fails) (pc := 9) dX7_fails_9 0 rfl rfl ?_
    refine V_iload_n (κ := KX7_fails) (pc := 10) dX7_fails_10 1 rfl ?_
    refine V_putf 7 (κ := KX7_fails) (pc := 11) rfl (by decide) rfl inX7 tyX7 tyX7_ok nmX7 15 (by decide) wd_1002 rfl rfl (t := 0) rfl rfl dX7_fails_11 fun u102 => ?_
    refine V_aload_n (κ := KX7_fails) (pc := 14) dX7_fails_14 0 rfl rfl ?_
    refine V_iload_n (κ := KX7_fails) (pc := 15) dX7_fails_15 2 rfl ?_
    refine V_putf 7 (κ := KX7_fails) (pc := 16) rfl (by decide) rfl inX7 tyX7 tyX7_ok nmX7 16 (by decide) wd_1003 rfl rfl (t := 0) rfl rfl dX7_fails_16 fun u103 => ?_
    refine V_iconst (κ := KX7_fails) (pc := 19) dX7_fails_19 ⟨by decide, by decide⟩ ?_
    exact V_zreturn (κ := KX7_fails) (pc := 20) rfl rfl dX7_fails_20
  refine V_iconst (κ := KX7_fails) (pc := 7) dX7_fails_7 ⟨by decide, by decide⟩ ?_
  exact V_zreturn (κ := KX7_fails) (pc := 8) rfl rfl dX7_fails_8
theorem con_X7_fails (a0 a1 a2 : Int) (μ : Mem) : Con (1) yX7_fails (.code yX7_fails cX7_fails 3 (some .boolean)) 0 [(2, a0), (0, a1), (0, a2)] μ (FX7_fails a0 a1 a2 μ) := Con_intro KX7_fails (plainFor_of_name (by decide)) rfl (fun h => by cases h) (by decide) rfl (Nat.le_of_ble_eq_true rfl) (fun Γ => VBX7_fails_0 _ _ _ _)
abbrev KX7_here : Kap := (RX7, cX7_here, 1, 1, 0, (some .int), false, [])
theorem VBX7_here_62 {Γ : Gam} (s0 : Int) (μ : Mem) : V Γ KX7_here 62 [] [(0, s0)] μ (BX7_here_62 s0 μ) := by
  unfold BX7_here_62
  exact V_ireturn (κ := KX7_here) (pc := 62) rfl rfl dX7_here_62
theorem VBX7_here_38 {Γ : Gam} (x0 : Int) (μ : Mem) : V Γ KX7_here 38 [(0, (2, x0))] [] μ (BX7_here_38 x0 μ) := by
  unfold BX7_here_38
  refine V_aload_n (κ := KX7_here) (pc := 38) dX7_here_38 0 rfl rfl ?_
  refine V_getf 7 (κ := KX7_here) (pc := 39) rfl (by decide) rfl inX7 14 (by decide) wd_1001 rfl (t := 0) rfl dX7_here_39 fun t101 => ?_
  refine V_aload_n (κ := KX7_here) (pc := 42) dX7_here_42 0 rfl rfl ?_
  refine V_getf 7 (κ := KX7_here) (pc := 43) rfl (by decide) rfl inX7 13 (by decide) wd_1000 rfl (t := 0) rfl dX7_here_43 fun t102 => ?_
  refine V_icmp_ge (κ := KX7_here) (pc := 46) (tgt := 61) dX7_here_46 rfl ?_ ?_
  · refine V_iconst (κ := KX7_here) (pc := 61) dX7_here_61 ⟨by decide, by decide⟩ ?_
    refine V_sub (lv' := []) [] rfl ?_
    exact VBX7_here_62 _ _
  refine V_aload_n (κ := KX7_here) (pc := 49) dX7_here_49 0 rfl rfl ?_
  refine V_getf 7 (κ := KX7_here) (pc := 50) rfl (by decide) rfl inX7 11 (by decide) wd_998 rfl (t := 2) rfl dX7_here_50 fun t103 => ?_
  refine V_aload_n (κ := KX7_here) (pc := 53) dX7_here_53 0 rfl rfl ?_
  refine V_getf 7 (κ := KX7_here) (pc := 54) rfl (by decide) rfl inX7 14 (by decide) wd_1001 rfl (t := 0) rfl dX7_here_54 fun t104 => ?_
  refine V_iaload (κ := KX7_here) (pc := 57) dX7_here_57 fun t105 => ?_
  refine V_goto (κ := KX7_here) (pc := 58) (tgt := 62) dX7_here_58 rfl ?_
  refine V_sub (lv' := []) [] rfl ?_
  exact VBX7_here_62 _ _
theorem VBX7_here_0 {Γ : Gam} {k0 : Int → Mem → Rz} (hk0 : ∀ (y0 : Int) (ν : Mem), V Γ KX7_here 0 [(0, (2, y0))] [] ν (k0 y0 ν)) (x0 : Int) (μ : Mem) : V Γ KX7_here 0 [(0, (2, x0))] [] μ (BX7_here_0 k0 x0 μ) := by
  unfold BX7_here_0
  refine V_aload_n (κ := KX7_here) (pc := 0) dX7_here_0 0 rfl rfl ?_
  refine V_getf 7 (κ := KX7_here) (pc := 1) rfl (by decide) rfl inX7 14 (by decide) wd_1001 rfl (t := 0) rfl dX7_here_1 fun t101 => ?_
  refine V_aload_n (κ := KX7_here) (pc := 4) dX7_here_4 0 rfl rfl ?_
  refine V_getf 7 (κ := KX7_here) (pc := 5) rfl (by decide) rfl inX7 13 (by decide) wd_1000 rfl (t := 0) rfl dX7_here_5 fun t102 => ?_
  refine V_icmp_ge (κ := KX7_here) (pc := 8) (tgt := 38) dX7_here_8 rfl ?_ ?_
  · exact VBX7_here_38 _ _
  refine V_aload_n (κ := KX7_here) (pc := 11) dX7_here_11 0 rfl rfl ?_
  refine V_getf 7 (κ := KX7_here) (pc := 12) rfl (by decide) rfl inX7 11 (by decide) wd_998 rfl (t := 2) rfl dX7_here_12 fun t103 => ?_
  refine V_aload_n (κ := KX7_here) (pc := 15) dX7_here_15 0 rfl rfl ?_
  refine V_getf 7 (κ := KX7_here) (pc := 16) rfl (by decide) rfl inX7 14 (by decide) wd_1001 rfl (t := 0) rfl dX7_here_16 fun t104 => ?_
  refine V_iaload (κ := KX7_here) (pc := 19) dX7_here_19 fun t105 => ?_
  refine V_bipush (κ := KX7_here) (pc := 20) dX7_here_20 ⟨by decide, by decide⟩ (by decide) ?_
  refine V_icmp_ne (κ := KX7_here) (pc := 22) (tgt := 38) dX7_here_22 rfl ?_ ?_
  · exact VBX7_here_38 _ _
  refine V_aload_n (κ := KX7_here) (pc := 25) dX7_here_25 0 rfl rfl ?_
  refine V_dup (κ := KX7_here) (pc := 26) rfl dX7_here_26 ?_
  refine V_getf 7 (κ := KX7_here) (pc := 27) rfl (by decide) rfl inX7 14 (by decide) wd_1001 rfl (t := 0) rfl dX7_here_27 fun t106 => ?_
  refine V_iconst (κ := KX7_here) (pc := 30) dX7_here_30 ⟨by decide, by decide⟩ ?_
  refine V_iadd (κ := KX7_here) (pc := 31) dX7_here_31 ?_
  refine V_putf 7 (κ := KX7_here) (pc := 32) rfl (by decide) rfl inX7 tyX7 tyX7_ok nmX7 14 (by decide) wd_1001 rfl rfl (t := 0) rfl rfl dX7_here_32 fun u107 => ?_
  refine V_goto (κ := KX7_here) (pc := 35) (tgt := 0) dX7_here_35 rfl ?_
  exact hk0 _ _
theorem VLX7_here_0 {Γ : Gam} : ∀ (n : Nat) (x0 : Int) (μ : Mem), V Γ KX7_here 0 [(0, (2, x0))] [] μ (LX7_here_0 n x0 μ)
  | 0, _, _ => V_none
  | n + 1, x0, μ => VBX7_here_0 (fun y0 ν => VLX7_here_0 n y0 ν) x0 μ
theorem con_X7_here (a0 : Int) (μ : Mem) : Con (1) yX7_here (.code yX7_here cX7_here 1 (some .int)) 0 [(2, a0)] μ (FX7_here a0 μ) := Con_intro KX7_here (plainFor_of_name (by decide)) rfl (fun h => by cases h) (by decide) rfl (Nat.le_of_ble_eq_true rfl) (fun Γ => VLX7_here_0 FU _ _)
abbrev KX7_isDigit : Kap := (RX7, cX7_isDigit, 1, 1, 0, (some .boolean), false, [])
theorem VBX7_isDigit_17 {Γ : Gam} (s0 : Int) (μ : Mem) : V Γ KX7_isDigit 17 [] [(0, s0)] μ (BX7_isDigit_17 s0 μ) := by
  unfold BX7_isDigit_17
  exact V_zreturn (κ := KX7_isDigit) (pc := 17) rfl rfl dX7_isDigit_17
theorem VBX7_isDigit_16 {Γ : Gam} (μ : Mem) : V Γ KX7_isDigit 16 [] [] μ (BX7_isDigit_16 μ) := by
  unfold BX7_isDigit_16
  refine V_iconst (κ := KX7_isDigit) (pc := 16) dX7_isDigit_16 ⟨by decide, by decide⟩ ?_
  exact VBX7_isDigit_17 _ _
theorem VBX7_isDigit_0 {Γ : Gam} (x0 : Int) (μ : Mem) : V Γ KX7_isDigit 0 [(0, (0, x0))] [] μ (BX7_isDigit_0 x0 μ) := by
  unfold BX7_isDigit_0
  refine V_iload_n (κ := KX7_isDigit) (pc := 0) dX7_isDigit_0 0 rfl ?_
  refine V_bipush (κ := KX7_isDigit) (pc := 1) dX7_isDigit_1 ⟨by decide, by decide⟩ (by decide) ?_
  refine V_icmp_lt (κ := KX7_isDigit) (pc := 3) (tgt := 16) dX7_isDigit_3 rfl ?_ ?_
  · refine V_sub (lv' := []) [] rfl ?_
    exact VBX7_isDigit_16 _
  refine V_iload_n (κ := KX7_isDigit) (pc := 6) dX7_isDigit_6 0 rfl ?_
  refine V_bipush (κ := KX7_isDigit) (pc := 7) dX7_isDigit_7 ⟨by decide, by decide⟩ (by decide) ?_
  refine V_icmp_gt (κ := KX7_isDigit) (pc := 9) (tgt := 16) dX7_isDigit_9 rfl ?_ ?_
  · refine V_sub (lv' := []) [] rfl ?_
    exact VBX7_isDigit_16 _
  refine V_iconst (κ := KX7_isDigit) (pc := 12) dX7_isDigit_12 ⟨by decide, by decide⟩ ?_
  refine V_goto (κ := KX7_isDigit) (pc := 13) (tgt := 17) dX7_isDigit_13 rfl ?_
  refine V_sub (lv' := []) [] rfl ?_
  exact VBX7_isDigit_17 _ _
theorem con_X7_isDigit (a0 : Int) (μ : Mem) : Con (1) yX7_isDigit (.code yX7_isDigit cX7_isDigit 1 (some .boolean)) 0 [(0, a0)] μ (FX7_isDigit a0 μ) := Con_intro KX7_isDigit (plainFor_of_name (by decide)) rfl (fun h => by cases h) (by decide) rfl (Nat.le_of_ble_eq_true rfl) (fun Γ => VBX7_isDigit_0 _ _)
abbrev KX7_reads : Kap := (RX7, cX7_reads, 3, 2, 0, (some .boolean), false, [])
theorem VBX7_reads_143 {Γ : Gam} (s0 : Int) (μ : Mem) : V Γ KX7_reads 143 [] [(0, s0)] μ (BX7_reads_143 s0 μ) := by
  unfold BX7_reads_143
  exact V_zreturn (κ := KX7_reads) (pc := 143) rfl rfl dX7_reads_143
theorem VBX7_reads_138 {Γ : Gam} (μ : Mem) : V Γ KX7_reads 138 [] [] μ (BX7_reads_138 μ) := by
  unfold BX7_reads_138
  refine V_iconst (κ := KX7_reads) (pc := 138) dX7_reads_138 ⟨by decide, by decide⟩ ?_
  refine V_goto (κ := KX7_reads) (pc := 139) (tgt := 143) dX7_reads_139 rfl ?_
  exact VBX7_reads_143 _ _
theorem VBX7_reads_113 {Γ : Gam} (x0 x1 x2 : Int) (μ : Mem) : V Γ KX7_reads 113 [(0, (2, x0)), (1, (0, x1)), (2, (0, x2))] [] μ (BX7_reads_113 x0 x1 x2 μ) := by
  unfold BX7_reads_113
  refine V_aload_n (κ := KX7_reads) (pc := 113) dX7_reads_113 0 rfl rfl ?_
  refine V_getf 7 (κ := KX7_reads) (pc := 114) rfl (by decide) rfl inX7 17 (by decide) wd_1004 rfl (t := 0) rfl dX7_reads_114 fun t101 => ?_
  refine V_iload_n (κ := KX7_reads) (pc := 117) dX7_reads_117 1 rfl ?_
  refine V_iload_n (κ := KX7_reads) (pc := 118) dX7_reads_118 2 rfl ?_
  refine V_callS (κ := KX7_reads) (pc := 119) (con_X7_isIn _ _ _ _) mth_X7_isIn wd_1082 wd_1081 (st0 := []) rfl rfl (by decide) (Nat.le_of_ble_eq_true rfl) dX7_reads_119 (fun _ _ _ h => VX_out rfl (by decide) h) fun t102 u103 => ?_
  refine V_if_ne (κ := KX7_reads) (pc := 122) (tgt := 138) dX7_reads_122 rfl ?_ ?_
  · refine V_sub (lv' := []) [] rfl ?_
    exact VBX7_reads_138 _
  refine V_aload_n (κ := KX7_reads) (pc := 125) dX7_reads_125 0 rfl rfl ?_
  refine V_bipush (κ := KX7_reads) (pc := 126) dX7_reads_126 ⟨by decide, by decide⟩ (by decide) ?_
  refine V_aload_n (κ := KX7_reads) (pc := 128) dX7_reads_128 0 rfl rfl ?_
  refine V_getf 7 (κ := KX7_reads) (pc := 129) rfl (by decide) rfl inX7 18 (by decide) wd_1005 rfl (t := 0) rfl dX7_reads_129 fun t104 => ?_
  refine V_callV (ci := 7) (T := TX7) (N := 24) rfl (by decide) (κ := KX7_reads) (pc := 132) (con_X7_fails _ _ _ _) mth_X7_fails rfl ⟨wd_1112, wp_40⟩ wd_1110 (st0 := []) rfl rfl (by decide) (Nat.le_of_ble_eq_true rfl) dX7_reads_132 (fun _ _ _ h => VX_out rfl (by decide) h) fun t105 u106 => ?_
  refine V_if_eq (κ := KX7_reads) (pc := 135) (tgt := 142) dX7_reads_135 rfl ?_ ?_
  · refine V_iconst (κ := KX7_reads) (pc := 142) dX7_reads_142 ⟨by decide, by decide⟩ ?_
    refine V_sub (lv' := []) [] rfl ?_
    exact VBX7_reads_143 _ _
  refine V_sub (lv' := []) [] rfl ?_
  exact VBX7_reads_138 _
theorem VBX7_reads_97 {Γ : Gam} {k34 : Int → Int → Int → Mem → Rz} (hk34 : ∀ (y0 y1 y2 : Int) (ν : Mem), V Γ KX7_reads 34 [(0, (2, y0)), (1, (0, y1)), (2, (0, y2))] [] ν (k34 y0 y1 y2 ν)) (x0 x1 x2 s0 s1 : Int) (μ : Mem) : V Γ KX7_reads 97 [(0, (2, x0)), (1, (0, x1)), (2, (0, x2))] [(0, s0), (2, s1)] μ (BX7_reads_97 k34 x0 x1 x2 s0 s1 μ) := by
  unfold BX7_reads_97
  refine V_putf 7 (κ := KX7_reads) (pc := 97) rfl (by decide) rfl inX7 tyX7 tyX7_ok nmX7 17 (by decide) wd_1004 rfl rfl (t := 0) rfl rfl dX7_reads_97 fun u101 => ?_
  refine V_aload_n (κ := KX7_reads) (pc := 100) dX7_reads_100 0 rfl rfl ?_
  refine V_dup (κ := KX7_reads) (pc := 101) rfl dX7_reads_101 ?_
  refine V_getf 7 (κ := KX7_reads) (pc := 102) rfl (by decide) rfl inX7 14 (by decide) wd_1001 rfl (t := 0) rfl dX7_reads_102 fun t102 => ?_
  refine V_iconst (κ := KX7_reads) (pc := 105) dX7_reads_105 ⟨by decide, by decide⟩ ?_
  refine V_iadd (κ := KX7_reads) (pc := 106) dX7_reads_106 ?_
  refine V_putf 7 (κ := KX7_reads) (pc := 107) rfl (by decide) rfl inX7 tyX7 tyX7_ok nmX7 14 (by decide) wd_1001 rfl rfl (t := 0) rfl rfl dX7_reads_107 fun u103 => ?_
  refine V_goto (κ := KX7_reads) (pc := 110) (tgt := 34) dX7_reads_110 rfl ?_
  exact hk34 _ _ _ _
theorem VBX7_reads_34 {Γ : Gam} {k34 : Int → Int → Int → Mem → Rz} (hk34 : ∀ (y0 y1 y2 : Int) (ν : Mem), V Γ KX7_reads 34 [(0, (2, y0)), (1, (0, y1)), (2, (0, y2))] [] ν (k34 y0 y1 y2 ν)) (x0 x1 x2 : Int) (μ : Mem) : V Γ KX7_reads 34 [(0, (2, x0)), (1, (0, x1)), (2, (0, x2))] [] μ (BX7_reads_34 k34 x0 x1 x2 μ) := by
  unfold BX7_reads_34
  refine V_aload_n (κ := KX7_reads) (pc := 34) dX7_reads_34 0 rfl rfl ?_
  refine V_getf 7 (κ := KX7_reads) (pc := 35) rfl (by decide) rfl inX7 14 (by decide) wd_1001 rfl (t := 0) rfl dX7_reads_35 fun t101 => ?_
  refine V_aload_n (κ := KX7_reads) (pc := 38) dX7_reads_38 0 rfl rfl ?_
  refine V_getf 7 (κ := KX7_reads) (pc := 39) rfl (by decide) rfl inX7 13 (by decide) wd_1000 rfl (t := 0) rfl dX7_reads_39 fun t102 => ?_
  refine V_icmp_ge (κ := KX7_reads) (pc := 42) (tgt := 113) dX7_reads_42 rfl ?_ ?_
  · exact VBX7_reads_113 _ _ _ _
  refine V_aload_n (κ := KX7_reads) (pc := 45) dX7_reads_45 0 rfl rfl ?_
  refine V_getf 7 (κ := KX7_reads) (pc := 46) rfl (by decide) rfl inX7 11 (by decide) wd_998 rfl (t := 2) rfl dX7_reads_46 fun t103 => ?_
  refine V_aload_n (κ := KX7_reads) (pc := 49) dX7_reads_49 0 rfl rfl ?_
  refine V_getf 7 (κ := KX7_reads) (pc := 50) rfl (by decide) rfl inX7 14 (by decide) wd_1001 rfl (t := 0) rfl dX7_reads_50 fun t104 => ?_
  refine V_iaload (κ := KX7_reads) (pc := 53) dX7_reads_53 fun t105 => ?_
  refine V_callS (κ := KX7_reads) (pc := 54) (con_X7_isDigit _ _) mth_X7_isDigit wd_1119 wd_1118 (st0 := []) rfl rfl (by decide) (Nat.le_of_ble_eq_true rfl) dX7_reads_54 (fun _ _ _ h => VX_out rfl (by decide) h) fun t106 u107 => ?_
  refine V_if_eq (κ := KX7_reads) (pc := 57) (tgt := 113) dX7_reads_57 rfl ?_ ?_
  · exact VBX7_reads_113 _ _ _ _
  refine V_aload_n (κ := KX7_reads) (pc := 60) dX7_reads_60 0 rfl rfl ?_
  refine V_aload_n (κ := KX7_reads) (pc := 61) dX7_reads_61 0 rfl rfl ?_
  refine V_getf 7 (κ := KX7_reads) (pc := 62) rfl (by decide) rfl inX7 17 (by decide) wd_1004 rfl (t := 0) rfl dX7_reads_62 fun t108 => ?_
  refine V_ldc (κ := KX7_reads) (pc := 65) (z := 100000) dX7_reads_65 wd_1121 ⟨by decide, by decide⟩ (by decide) ?_
  refine V_icmp_le (κ := KX7_reads) (pc := 67) (tgt := 77) dX7_reads_67 rfl ?_ ?_
  · refine V_bipush (κ := KX7_reads) (pc := 77) dX7_reads_77 ⟨by decide, by decide⟩ (by decide) ?_
    refine V_aload_n (κ := KX7_reads) (pc := 79) dX7_reads_79 0 rfl rfl ?_
    refine V_getf 7 (κ := KX7_reads) (pc := 80) rfl (by decide) rfl inX7 17 (by decide) wd_1004 rfl (t := 0) rfl dX7_reads_80 fun t109 => ?_
    refine V_imul (κ := KX7_reads) (pc := 83) dX7_reads_83 ?_
    refine V_aload_n (κ := KX7_reads) (pc := 84) dX7_reads_84 0 rfl rfl ?_
    refine V_getf 7 (κ := KX7_reads) (pc := 85) rfl (by decide) rfl inX7 11 (by decide) wd_998 rfl (t := 2) rfl dX7_reads_85 fun t110 => ?_
    refine V_aload_n (κ := KX7_reads) (pc := 88) dX7_reads_88 0 rfl rfl ?_
    refine V_getf 7 (κ := KX7_reads) (pc := 89) rfl (by decide) rfl inX7 14 (by decide) wd_1001 rfl (t := 0) rfl dX7_reads_89 fun t111 => ?_
    refine V_iaload (κ := KX7_reads) (pc := 92) dX7_reads_92 fun t112 => ?_
    refine V_iadd (κ := KX7_reads) (pc := 93) dX7_reads_93 ?_
    refine V_bipush (κ := KX7_reads) (pc := 94) dX7_reads_94 ⟨by decide, by decide⟩ (by decide) ?_
    refine V_isub (κ := KX7_reads) (pc := 96) dX7_reads_96 ?_
    exact VBX7_reads_97 hk34 _ _ _ _ _ _
  refine V_aload_n (κ := KX7_reads) (pc := 70) dX7_reads_70 0 rfl rfl ?_
  refine V_getf 7 (κ := KX7_reads) (pc := 71) rfl (by decide) rfl inX7 17 (by decide) wd_1004 rfl (t := 0) rfl dX7_reads_71 fun t113 => ?_
  refine V_goto (κ := KX7_reads) (pc := 74) (tgt := 97) dX7_reads_74 rfl ?_
  exact VBX7_reads_97 hk34 _ _ _ _ _ _
theorem VLX7_reads_34 {Γ : Gam} : ∀ (n : Nat) (x0 x1 x2 : Int) (μ : Mem), V Γ KX7_reads 34 [(0, (2, x0)), (1, (0, x1)), (2, (0, x2))] [] μ (LX7_reads_34 n x0 x1 x2 μ)
  | 0, _, _, _, _ => V_none
  | n + 1, x0, x1, x2, μ => VBX7_reads_34 (fun y0 y1 y2 ν => VLX7_reads_34 n y0 y1 y2 ν) x0 x1 x2 μ
theorem VBX7_reads_0 {Γ : Gam} (x0 x1 x2 : Int) (μ : Mem) : V Γ KX7_reads 0 [(0, (2, x0)), (1, (0, x1)), (2, (0, x2))] [] μ (BX7_reads_0 x0 x1 x2 μ) := by
  unfold BX7_reads_0
  refine V_aload_n (κ := KX7_reads) (pc := 0) dX7_reads_0 0 rfl rfl ?_
  refine V_callV (ci := 7) (T := TX7) (N := 24) rfl (by decide) (κ := KX7_reads) (pc := 1) (con_X7_here _ _) mth_X7_here rfl ⟨wd_1103, wp_39⟩ wd_1101 (st0 := []) rfl rfl (by decide) (Nat.le_of_ble_eq_true rfl) dX7_reads_1 (fun _ _ _ h => VX_out rfl (by decide) h) fun t101 u102 => ?_
  refine V_callS (κ := KX7_reads) (pc := 4) (con_X7_isDigit _ _) mth_X7_isDigit wd_1119 wd_1118 (st0 := []) rfl rfl (by decide) (Nat.le_of_ble_eq_true rfl) dX7_reads_4 (fun _ _ _ h => VX_out rfl (by decide) h) fun t103 u104 => ?_
  refine V_if_ne (κ := KX7_reads) (pc := 7) (tgt := 21) dX7_reads_7 rfl ?_ ?_
  · refine V_aload_n (κ := KX7_reads) (pc := 21) dX7_reads_21 0 rfl rfl ?_
    refine V_aload_n (κ := KX7_reads) (pc := 22) dX7_reads_22 0 rfl rfl ?_
    refine V_getf 7 (κ := KX7_reads) (pc := 23) rfl (by decide) rfl inX7 14 (by decide) wd_1001 rfl (t := 0) rfl dX7_reads_23 fun t105 => ?_
    refine V_putf 7 (κ := KX7_reads) (pc := 26) rfl (by decide) rfl inX7 tyX7 tyX7_ok nmX7 18 (by decide) wd_1005 rfl rfl (t := 0) rfl rfl dX7_reads_26 fun u106 => ?_
    refine V_aload_n (κ := KX7_reads) (pc := 29) dX7_reads_29 0 rfl rfl ?_
    refine V_iconst (κ := KX7_reads) (pc := 30) dX7_reads_30 ⟨by decide, by decide⟩ ?_
    refine V_putf 7 (κ := KX7_reads) (pc := 31) rfl (by decide) rfl inX7 tyX7 tyX7_ok nmX7 17 (by decide) wd_1004 rfl rfl (t := 0) rfl rfl dX7_reads_31 fun u107 => ?_
    exact VLX7_reads_34 FU _ _ _ _
  refine V_aload_n (κ := KX7_reads) (pc := 10) dX7_reads_10 0 rfl rfl ?_
  refine V_bipush (κ := KX7_reads) (pc := 11) dX7_reads_11 ⟨by decide, by decide⟩ (by decide) ?_
  refine V_aload_n (κ := KX7_reads) (pc := 13) dX7_reads_13 0 rfl rfl ?_
  refine V_getf 7 (κ := KX7_reads) (pc := 14) rfl (by decide) rfl inX7 14 (by decide) wd_1001 rfl (t := 0) rfl dX7_reads_14 fun t108 => ?_
  refine V_callV (ci := 7) (T := TX7) (N := 24) rfl (by decide) (κ := KX7_reads) (pc := 17) (con_X7_fails _ _ _ _) mth_X7_fails rfl ⟨wd_1112, wp_40⟩ wd_1110 (st0 := []) rfl rfl (by decide) (Nat.le_of_ble_eq_true rfl) dX7_reads_17 (fun _ _ _ h => VX_out rfl (by decide) h) fun t109 u110 => ?_
  exact V_zreturn (κ := KX7_reads) (pc := 20) rfl rfl dX7_reads_20
theorem con_X7_reads (a0 a1 a2 : Int) (μ : Mem) : Con (2) yX7_reads (.code yX7_reads cX7_reads 3 (some .boolean)) 0 [(2, a0), (0, a1), (0, a2)] μ (FX7_reads a0 a1 a2 μ) := Con_intro KX7_reads (plainFor_of_name (by decide)) rfl (fun h => by cases h) (by decide) rfl (Nat.le_of_ble_eq_true rfl) (fun Γ => VBX7_reads_0 _ _ _ _)
abbrev KX7_isLetter : Kap := (RX7, cX7_isLetter, 1, 1, 0, (some .boolean), false, [])
theorem VBX7_isLetter_17 {Γ : Gam} (s0 : Int) (μ : Mem) : V Γ KX7_isLetter 17 [] [(0, s0)] μ (BX7_isLetter_17 s0 μ) := by
  unfold BX7_isLetter_17
  exact V_zreturn (κ := KX7_isLetter) (pc := 17) rfl rfl dX7_isLetter_17
theorem VBX7_isLetter_16 {Γ : Gam} (μ : Mem) : V Γ KX7_isLetter 16 [] [] μ (BX7_isLetter_16 μ) := by
  unfold BX7_isLetter_16
  refine V_iconst (κ := KX7_isLetter) (pc := 16) dX7_isLetter_16 ⟨by decide, by decide⟩ ?_
  exact VBX7_isLetter_17 _ _
theorem VBX7_isLetter_0 {Γ : Gam} (x0 : Int) (μ : Mem) : V Γ KX7_isLetter 0 [(0, (0, x0))] [] μ (BX7_isLetter_0 x0 μ) := by
  unfold BX7_isLetter_0
  refine V_iload_n (κ := KX7_isLetter) (pc := 0) dX7_isLetter_0 0 rfl ?_
  refine V_bipush (κ := KX7_isLetter) (pc := 1) dX7_isLetter_1 ⟨by decide, by decide⟩ (by decide) ?_
  refine V_icmp_lt (κ := KX7_isLetter) (pc := 3) (tgt := 16) dX7_isLetter_3 rfl ?_ ?_
  · refine V_sub (lv' := []) [] rfl ?_
    exact VBX7_isLetter_16 _
  refine V_iload_n (κ := KX7_isLetter) (pc := 6) dX7_isLetter_6 0 rfl ?_
  refine V_bipush (κ := KX7_isLetter) (pc := 7) dX7_isLetter_7 ⟨by decide, by decide⟩ (by decide) ?_
  refine V_icmp_gt (κ := KX7_isLetter) (pc := 9) (tgt := 16) dX7_isLetter_9 rfl ?_ ?_
  · refine V_sub (lv' := []) [] rfl ?_
    exact VBX7_isLetter_16 _
  refine V_iconst (κ := KX7_isLetter) (pc := 12) dX7_isLetter_12 ⟨by decide, by decide⟩ ?_
  refine V_goto (κ := KX7_isLetter) (pc := 13) (tgt := 17) dX7_isLetter_13 rfl ?_
  refine V_sub (lv' := []) [] rfl ?_
  exact VBX7_isLetter_17 _ _
theorem con_X7_isLetter (a0 : Int) (μ : Mem) : Con (1) yX7_isLetter (.code yX7_isLetter cX7_isLetter 1 (some .boolean)) 0 [(0, a0)] μ (FX7_isLetter a0 μ) := Con_intro KX7_isLetter (plainFor_of_name (by decide)) rfl (fun h => by cases h) (by decide) rfl (Nat.le_of_ble_eq_true rfl) (fun Γ => VBX7_isLetter_0 _ _)
abbrev KX7_letters : Kap := (RX7, cX7_letters, 2, 2, 0, (some .int), false, [])
theorem VBX7_letters_43 {Γ : Gam} (x1 : Int) (μ : Mem) : V Γ KX7_letters 43 [(1, (0, x1))] [] μ (BX7_letters_43 x1 μ) := by
  unfold BX7_letters_43
  refine V_iload_n (κ := KX7_letters) (pc := 43) dX7_letters_43 0 rfl ?_
  exact V_ireturn (κ := KX7_letters) (pc := 44) rfl rfl dX7_letters_44
theorem VBX7_letters_7 {Γ : Gam} {k7 : Int → Int → Mem → Rz} (hk7 : ∀ (y0 y1 : Int) (ν : Mem), V Γ KX7_letters 7 [(0, (2, y0)), (1, (0, y1))] [] ν (k7 y0 y1 ν)) (x0 x1 : Int) (μ : Mem) : V Γ KX7_letters 7 [(0, (2, x0)), (1, (0, x1))] [] μ (BX7_letters_7 k7 x0 x1 μ) := by
  unfold BX7_letters_7
  refine V_aload_n (κ := KX7_letters) (pc := 7) dX7_letters_7 0 rfl rfl ?_
  refine V_getf 7 (κ := KX7_letters) (pc := 8) rfl (by decide) rfl inX7 14 (by decide) wd_1001 rfl (t := 0) rfl dX7_letters_8 fun t101 => ?_
  refine V_iload_n (κ := KX7_letters) (pc := 11) dX7_letters_11 1 rfl ?_
  refine V_iadd (κ := KX7_letters) (pc := 12) dX7_letters_12 ?_
  refine V_aload_n (κ := KX7_letters) (pc := 13) dX7_letters_13 0 rfl rfl ?_
  refine V_getf 7 (κ := KX7_letters) (pc := 14) rfl (by decide) rfl inX7 13 (by decide) wd_1000 rfl (t := 0) rfl dX7_letters_14 fun t102 => ?_
  refine V_icmp_ge (κ := KX7_letters) (pc := 17) (tgt := 43) dX7_letters_17 rfl ?_ ?_
  · refine V_sub (lv' := [(1, (0, x1))]) [1] rfl ?_
    exact VBX7_letters_43 _ _
  refine V_aload_n (κ := KX7_letters) (pc := 20) dX7_letters_20 0 rfl rfl ?_
  refine V_getf 7 (κ := KX7_letters) (pc := 21) rfl (by decide) rfl inX7 11 (by decide) wd_998 rfl (t := 2) rfl dX7_letters_21 fun t103 => ?_
  refine V_aload_n (κ := KX7_letters) (pc := 24) dX7_letters_24 0 rfl rfl ?_
  refine V_getf 7 (κ := KX7_letters) (pc := 25) rfl (by decide) rfl inX7 14 (by decide) wd_1001 rfl (t := 0) rfl dX7_letters_25 fun t104 => ?_
  refine V_iload_n (κ := KX7_letters) (pc := 28) dX7_letters_28 1 rfl ?_
  refine V_iadd (κ := KX7_letters) (pc := 29) dX7_letters_29 ?_
  refine V_iaload (κ := KX7_letters) (pc := 30) dX7_letters_30 fun t105 => ?_
  refine V_callS (κ := KX7_letters) (pc := 31) (con_X7_isLetter _ _) mth_X7_isLetter wd_1106 wd_1105 (st0 := []) rfl rfl (by decide) (Nat.le_of_ble_eq_true rfl) dX7_letters_31 (fun _ _ _ h => VX_out rfl (by decide) h) fun t106 u107 => ?_
  refine V_if_eq (κ := KX7_letters) (pc := 34) (tgt := 43) dX7_letters_34 rfl ?_ ?_
  · refine V_sub (lv' := [(1, (0, x1))]) [1] rfl ?_
    exact VBX7_letters_43 _ _
  refine V_iinc (κ := KX7_letters) (pc := 37) (lv' := [(1, (0, w32 (x1 + 1))), (0, (2, x0))]) dX7_letters_37 1 rfl (by decide) rfl ?_
  refine V_goto (κ := KX7_letters) (pc := 40) (tgt := 7) dX7_letters_40 rfl ?_
  refine V_sub (lv' := [(0, (2, x0)), (1, (0, w32 (x1 + 1)))]) [1, 0] rfl ?_
  exact hk7 _ _ _
theorem VLX7_letters_7 {Γ : Gam} : ∀ (n : Nat) (x0 x1 : Int) (μ : Mem), V Γ KX7_letters 7 [(0, (2, x0)), (1, (0, x1))] [] μ (LX7_letters_7 n x0 x1 μ)
  | 0, _, _, _ => V_none
  | n + 1, x0, x1, μ => VBX7_letters_7 (fun y0 y1 ν => VLX7_letters_7 n y0 y1 ν) x0 x1 μ
theorem VBX7_letters_0 {Γ : Gam} (x0 : Int) (μ : Mem) : V Γ KX7_letters 0 [(0, (2, x0))] [] μ (BX7_letters_0 x0 μ) := by
  unfold BX7_letters_0
  refine V_aload_n (κ := KX7_letters) (pc := 0) dX7_letters_0 0 rfl rfl ?_
  refine V_callV (ci := 7) (T := TX7) (N := 24) rfl (by decide) (κ := KX7_letters) (pc := 1) (con_X7_here _ _) mth_X7_here rfl ⟨wd_1103, wp_39⟩ wd_1101 (st0 := []) rfl rfl (by decide) (Nat.le_of_ble_eq_true rfl) dX7_letters_1 (fun _ _ _ h => VX_out rfl (by decide) h) fun t101 u102 => ?_
  refine V_pop (κ := KX7_letters) (pc := 4) rfl dX7_letters_4 ?_
  refine V_iconst (κ := KX7_letters) (pc := 5) dX7_letters_5 ⟨by decide, by decide⟩ ?_
  refine V_istore_n (κ := KX7_letters) (pc := 6) (lv' := [(1, (0, 0)), (0, (2, x0))]) dX7_letters_6 (by decide) rfl ?_
  refine V_sub (lv' := [(0, (2, x0)), (1, (0, 0))]) [1, 0] rfl ?_
  exact VLX7_letters_7 FU _ _ _
theorem con_X7_letters (a0 : Int) (μ : Mem) : Con (2) yX7_letters (.code yX7_letters cX7_letters 2 (some .int)) 0 [(2, a0)] μ (FX7_letters a0 μ) := Con_intro KX7_letters (plainFor_of_name (by decide)) rfl (fun h => by cases h) (by decide) rfl (Nat.le_of_ble_eq_true rfl) (fun Γ => VBX7_letters_0 _ _)
abbrev KX7_named : Kap := (RX7, cX7_named, 7, 1, 0, (some .int), false, [])
theorem VBX7_named_94 {Γ : Gam} {k2 : Int → Int → Int → Int → Mem → Rz} (hk2 : ∀ (y0 y1 y2 y3 : Int) (ν : Mem), V Γ KX7_named 2 [(0, (2, y0)), (1, (0, y1)), (2, (0, y2)), (3, (0, y3))] [] ν (k2 y0 y1 y2 y3 ν)) (x0 x1 x2 x3 x5 : Int) (μ : Mem) : V Γ KX7_named 94 [(0, (2, x0)), (1, (0, x1)), (2, (0, x2)), (3, (0, x3)), (5, (0, x5))] [] μ (BX7_named_94 k2 x0 x1 x2 x3 x5 μ) := by
  unfold BX7_named_94
  refine V_iload (κ := KX7_named) (pc := 94) dX7_named_94 4 rfl ?_
  refine V_if_eq (κ := KX7_named) (pc := 96) (tgt := 101) dX7_named_96 rfl ?_ ?_
  · refine V_iinc (κ := KX7_named) (pc := 101) (lv' := [(3, (0, w32 (x3 + 1))), (0, (2, x0)), (1, (0, x1)), (2, (0, x2)), (5, (0, x5))]) dX7_named_101 3 rfl (by decide) rfl ?_
    refine V_goto (κ := KX7_named) (pc := 104) (tgt := 2) dX7_named_104 rfl ?_
    refine V_sub (lv' := [(0, (2, x0)), (1, (0, x1)), (2, (0, x2)), (3, (0, w32 (x3 + 1)))]) [1, 2, 3, 0] rfl ?_
    exact hk2 _ _ _ _ _
  refine V_iload_n (κ := KX7_named) (pc := 99) dX7_named_99 3 rfl ?_
  exact V_ireturn (κ := KX7_named) (pc := 100) rfl rfl dX7_named_100
theorem VBX7_named_86 {Γ : Gam} {k2 : Int → Int → Int → Int → Mem → Rz} (hk2 : ∀ (y0 y1 y2 y3 : Int) (ν : Mem), V Γ KX7_named 2 [(0, (2, y0)), (1, (0, y1)), (2, (0, y2)), (3, (0, y3))] [] ν (k2 y0 y1 y2 y3 ν)) {k46 : Int → Int → Int → Int → Int → Int → Int → Mem → Rz} (hk46 : ∀ (y0 y1 y2 y3 y4 y5 y6 : Int) (ν : Mem), V Γ KX7_named 46 [(0, (2, y0)), (1, (0, y1)), (2, (0, y2)), (3, (0, y3)), (4, (0, y4)), (5, (0, y5)), (6, (0, y6))] [] ν (k46 y0 y1 y2 y3 y4 y5 y6 ν)) (x0 x1 x2 x3 x4 x6 s0 : Int) (μ : Mem) : V Γ KX7_named 86 [(0, (2, x0)), (1, (0, x1)), (2, (0, x2)), (3, (0, x3)), (4, (0, x4)), (6, (0, x6))] [(0, s0)] μ (BX7_named_86 k2 k46 x0 x1 x2 x3 x4 x6 s0 μ) := by
  unfold BX7_named_86
  refine V_istore (κ := KX7_named) (pc := 86) (lv' := [(5, (0, s0)), (0, (2, x0)), (1, (0, x1)), (2, (0, x2)), (3, (0, x3)), (4, (0, x4)), (6, (0, x6))]) dX7_named_86 (by decide) rfl ?_
  refine V_iinc (κ := KX7_named) (pc := 88) (lv' := [(6, (0, w32 (x6 + 1))), (5, (0, s0)), (0, (2, x0)), (1, (0, x1)), (2, (0, x2)), (3, (0, x3)), (4, (0, x4))]) dX7_named_88 6 rfl (by decide) rfl ?_
  refine V_goto (κ := KX7_named) (pc := 91) (tgt := 46) dX7_named_91 rfl ?_
  refine V_sub (lv' := [(0, (2, x0)), (1, (0, x1)), (2, (0, x2)), (3, (0, x3)), (4, (0, x4)), (5, (0, s0)), (6, (0, w32 (x6 + 1)))]) [2, 3, 4, 5, 6, 1, 0] rfl ?_
  exact hk46 _ _ _ _ _ _ _ _
theorem VBX7_named_46 {Γ : Gam} {k2 : Int → Int → Int → Int → Mem → Rz} (hk2 : ∀ (y0 y1 y2 y3 : Int) (ν : Mem), V Γ KX7_named 2 [(0, (2, y0)), (1, (0, y1)), (2, (0, y2)), (3, (0, y3))] [] ν (k2 y0 y1 y2 y3 ν)) {k46 : Int → Int → Int → Int → Int → Int → Int → Mem → Rz} (hk46 : ∀ (y0 y1 y2 y3 y4 y5 y6 : Int) (ν : Mem), V Γ KX7_named 46 [(0, (2, y0)), (1, (0, y1)), (2, (0, y2)), (3, (0, y3)), (4, (0, y4)), (5, (0, y5)), (6, (0, y6))] [] ν (k46 y0 y1 y2 y3 y4 y5 y6 ν)) (x0 x1 x2 x3 x4 x5 x6 : Int) (μ : Mem) : V Γ KX7_named 46 [(0, (2, x0)), (1, (0, x1)), (2, (0, x2)), (3, (0, x3)), (4, (0, x4)), (5, (0, x5)), (6, (0, x6))] [] μ (BX7_named_46 k2 k46 x0 x1 x2 x3 x4 x5 x6 μ) := by
  unfold BX7_named_46
  refine V_iload (κ := KX7_named) (pc := 46) dX7_named_46 6 rfl ?_
  refine V_iload_n (κ := KX7_named) (pc := 48) dX7_named_48 2 rfl ?_
  refine V_icmp_ge (κ := KX7_named) (pc := 49) (tgt := 94) dX7_named_49 rfl ?_ ?_
  · refine V_sub (lv' := [(0, (2, x0)), (1, (0, x1)), (2, (0, x2)), (3, (0, x3)), (5, (0, x5))]) [0, 1, 2, 3, 5] rfl ?_
    exact VBX7_named_94 hk2 _ _ _ _ _ _
  refine V_iload (κ := KX7_named) (pc := 52) dX7_named_52 5 rfl ?_
  refine V_if_eq (κ := KX7_named) (pc := 54) (tgt := 94) dX7_named_54 rfl ?_ ?_
  · refine V_sub (lv' := [(0, (2, x0)), (1, (0, x1)), (2, (0, x2)), (3, (0, x3)), (5, (0, x5))]) [0, 1, 2, 3, 5] rfl ?_
    exact VBX7_named_94 hk2 _ _ _ _ _ _
  refine V_aload_n (κ := KX7_named) (pc := 57) dX7_named_57 0 rfl rfl ?_
  refine V_getf 7 (κ := KX7_named) (pc := 58) rfl (by decide) rfl inX7 2 (by decide) wd_989 rfl (t := 2) rfl dX7_named_58 fun t101 => ?_
  refine V_iload (κ := KX7_named) (pc := 61) dX7_named_61 4 rfl ?_
  refine V_iconst (κ := KX7_named) (pc := 63) dX7_named_63 ⟨by decide, by decide⟩ ?_
  refine V_iadd (κ := KX7_named) (pc := 64) dX7_named_64 ?_
  refine V_iload (κ := KX7_named) (pc := 65) dX7_named_65 6 rfl ?_
  refine V_iadd (κ := KX7_named) (pc := 67) dX7_named_67 ?_
  refine V_iaload (κ := KX7_named) (pc := 68) dX7_named_68 fun t102 => ?_
  refine V_aload_n (κ := KX7_named) (pc := 69) dX7_named_69 0 rfl rfl ?_
  refine V_getf 7 (κ := KX7_named) (pc := 70) rfl (by decide) rfl inX7 11 (by decide) wd_998 rfl (t := 2) rfl dX7_named_70 fun t103 => ?_
  refine V_iload_n (κ := KX7_named) (pc := 73) dX7_named_73 1 rfl ?_
  refine V_iload (κ := KX7_named) (pc := 74) dX7_named_74 6 rfl ?_
  refine V_iadd (κ := KX7_named) (pc := 76) dX7_named_76 ?_
  refine V_iaload (κ := KX7_named) (pc := 77) dX7_named_77 fun t104 => ?_
  refine V_icmp_ne (κ := KX7_named) (pc := 78) (tgt := 85) dX7_named_78 rfl ?_ ?_
  · refine V_iconst (κ := KX7_named) (pc := 85) dX7_named_85 ⟨by decide, by decide⟩ ?_
    refine V_sub (lv' := [(0, (2, x0)), (1, (0, x1)), (2, (0, x2)), (3, (0, x3)), (4, (0, x4)), (6, (0, x6))]) [0, 1, 2, 3, 4, 6] rfl ?_
    exact VBX7_named_86 hk2 hk46 _ _ _ _ _ _ _ _
  refine V_iconst (κ := KX7_named) (pc := 81) dX7_named_81 ⟨by decide, by decide⟩ ?_
  refine V_goto (κ := KX7_named) (pc := 82) (tgt := 86) dX7_named_82 rfl ?_
  refine V_sub (lv' := [(0, (2, x0)), (1, (0, x1)), (2, (0, x2)), (3, (0, x3)), (4, (0, x4)), (6, (0, x6))]) [0, 1, 2, 3, 4, 6] rfl ?_
  exact VBX7_named_86 hk2 hk46 _ _ _ _ _ _ _ _
theorem VLX7_named_46 {Γ : Gam} {k2 : Int → Int → Int → Int → Mem → Rz} (hk2 : ∀ (y0 y1 y2 y3 : Int) (ν : Mem), V Γ KX7_named 2 [(0, (2, y0)), (1, (0, y1)), (2, (0, y2)), (3, (0, y3))] [] ν (k2 y0 y1 y2 y3 ν)) : ∀ (n : Nat) (x0 x1 x2 x3 x4 x5 x6 : Int) (μ : Mem), V Γ KX7_named 46 [(0, (2, x0)), (1, (0, x1)), (2, (0, x2)), (3, (0, x3)), (4, (0, x4)), (5, (0, x5)), (6, (0, x6))] [] μ (LX7_named_46 k2 n x0 x1 x2 x3 x4 x5 x6 μ)
  | 0, _, _, _, _, _, _, _, _ => V_none
  | n + 1, x0, x1, x2, x3, x4, x5, x6, μ => VBX7_named_46 hk2 (fun y0 y1 y2 y3 y4 y5 y6 ν => VLX7_named_46 hk2 n y0 y1 y2 y3 y4 y5 y6 ν) x0 x1 x2 x3 x4 x5 x6 μ
theorem VBX7_named_41 {Γ : Gam} {k2 : Int → Int → Int → Int → Mem → Rz} (hk2 : ∀ (y0 y1 y2 y3 : Int) (ν : Mem), V Γ KX7_named 2 [(0, (2, y0)), (1, (0, y1)), (2, (0, y2)), (3, (0, y3))] [] ν (k2 y0 y1 y2 y3 ν)) (x0 x1 x2 x3 x4 s0 : Int) (μ : Mem) : V Γ KX7_named 41 [(0, (2, x0)), (1, (0, x1)), (2, (0, x2)), (3, (0, x3)), (4, (0, x4))] [(0, s0)] μ (BX7_named_41 k2 x0 x1 x2 x3 x4 s0 μ) := by
  unfold BX7_named_41
  refine V_istore (κ := KX7_named) (pc := 41) (lv' := [(5, (0, s0)), (0, (2, x0)), (1, (0, x1)), (2, (0, x2)), (3, (0, x3)), (4, (0, x4))]) dX7_named_41 (by decide) rfl ?_
  refine V_iconst (κ := KX7_named) (pc := 43) dX7_named_43 ⟨by decide, by decide⟩ ?_
  refine V_istore (κ := KX7_named) (pc := 44) (lv' := [(6, (0, 0)), (5, (0, s0)), (0, (2, x0)), (1, (0, x1)), (2, (0, x2)), (3, (0, x3)), (4, (0, x4))]) dX7_named_44 (by decide) rfl ?_
  refine V_sub (lv' := [(0, (2, x0)), (1, (0, x1)), (2, (0, x2)), (3, (0, x3)), (4, (0, x4)), (5, (0, s0)), (6, (0, 0))]) [2, 3, 4, 5, 6, 1, 0] rfl ?_
  exact VLX7_named_46 hk2 FU _ _ _ _ _ _ _ _
theorem VBX7_named_2 {Γ : Gam} {k2 : Int → Int → Int → Int → Mem → Rz} (hk2 : ∀ (y0 y1 y2 y3 : Int) (ν : Mem), V Γ KX7_named 2 [(0, (2, y0)), (1, (0, y1)), (2, (0, y2)), (3, (0, y3))] [] ν (k2 y0 y1 y2 y3 ν)) (x0 x1 x2 x3 : Int) (μ : Mem) : V Γ KX7_named 2 [(0, (2, x0)), (1, (0, x1)), (2, (0, x2)), (3, (0, x3))] [] μ (BX7_named_2 k2 x0 x1 x2 x3 μ) := by
  unfold BX7_named_2
  refine V_iload_n (κ := KX7_named) (pc := 2) dX7_named_2 3 rfl ?_
  refine V_aload_n (κ := KX7_named) (pc := 3) dX7_named_3 0 rfl rfl ?_
  refine V_getf 7 (κ := KX7_named) (pc := 4) rfl (by decide) rfl inX7 2 (by decide) wd_989 rfl (t := 2) rfl dX7_named_4 fun t101 => ?_
  refine V_iconst (κ := KX7_named) (pc := 7) dX7_named_7 ⟨by decide, by decide⟩ ?_
  refine V_iaload (κ := KX7_named) (pc := 8) dX7_named_8 fun t102 => ?_
  refine V_icmp_ge (κ := KX7_named) (pc := 9) (tgt := 107) dX7_named_9 rfl ?_ ?_
  · refine V_iconst (κ := KX7_named) (pc := 107) dX7_named_107 ⟨by decide, by decide⟩ ?_
    exact V_ireturn (κ := KX7_named) (pc := 108) rfl rfl dX7_named_108
  refine V_sipush (κ := KX7_named) (pc := 12) dX7_named_12 ⟨by decide, by decide⟩ (by decide) ?_
  refine V_sipush (κ := KX7_named) (pc := 15) dX7_named_15 ⟨by decide, by decide⟩ (by decide) ?_
  refine V_iload_n (κ := KX7_named) (pc := 18) dX7_named_18 3 rfl ?_
  refine V_imul (κ := KX7_named) (pc := 19) dX7_named_19 ?_
  refine V_iadd (κ := KX7_named) (pc := 20) dX7_named_20 ?_
  refine V_LT fun x103 => ?_
  refine V_istore (κ := KX7_named) (pc := 21) (lv' := [(4, (0, x103)), (0, (2, x0)), (1, (0, x1)), (2, (0, x2)), (3, (0, x3))]) dX7_named_21 (by decide) rfl ?_
  refine V_aload_n (κ := KX7_named) (pc := 23) dX7_named_23 1 rfl rfl ?_
  refine V_getf 7 (κ := KX7_named) (pc := 24) rfl (by decide) rfl inX7 2 (by decide) wd_989 rfl (t := 2) rfl dX7_named_24 fun t104 => ?_
  refine V_iload (κ := KX7_named) (pc := 27) dX7_named_27 0 rfl ?_
  refine V_iconst (κ := KX7_named) (pc := 29) dX7_named_29 ⟨by decide, by decide⟩ ?_
  refine V_iadd (κ := KX7_named) (pc := 30) dX7_named_30 ?_
  refine V_iaload (κ := KX7_named) (pc := 31) dX7_named_31 fun t105 => ?_
  refine V_iload_n (κ := KX7_named) (pc := 32) dX7_named_32 3 rfl ?_
  refine V_icmp_ne (κ := KX7_named) (pc := 33) (tgt := 40) dX7_named_33 rfl ?_ ?_
  · refine V_iconst (κ := KX7_named) (pc := 40) dX7_named_40 ⟨by decide, by decide⟩ ?_
    refine V_sub (lv' := [(0, (2, x0)), (1, (0, x1)), (2, (0, x2)), (3, (0, x3)), (4, (0, x103))]) [1, 2, 3, 4, 0] rfl ?_
    exact VBX7_named_41 hk2 _ _ _ _ _ _ _
  refine V_iconst (κ := KX7_named) (pc := 36) dX7_named_36 ⟨by decide, by decide⟩ ?_
  refine V_goto (κ := KX7_named) (pc := 37) (tgt := 41) dX7_named_37 rfl ?_
  refine V_sub (lv' := [(0, (2, x0)), (1, (0, x1)), (2, (0, x2)), (3, (0, x3)), (4, (0, x103))]) [1, 2, 3, 4, 0] rfl ?_
  exact VBX7_named_41 hk2 _ _ _ _ _ _ _
theorem VLX7_named_2 {Γ : Gam} : ∀ (n : Nat) (x0 x1 x2 x3 : Int) (μ : Mem), V Γ KX7_named 2 [(0, (2, x0)), (1, (0, x1)), (2, (0, x2)), (3, (0, x3))] [] μ (LX7_named_2 n x0 x1 x2 x3 μ)
  | 0, _, _, _, _, _ => V_none
  | n + 1, x0, x1, x2, x3, μ => VBX7_named_2 (fun y0 y1 y2 y3 ν => VLX7_named_2 n y0 y1 y2 y3 ν) x0 x1 x2 x3 μ
theorem VBX7_named_0 {Γ : Gam} (x0 x1 x2 : Int) (μ : Mem) : V Γ KX7_named 0 [(0, (2, x0)), (1, (0, x1)), (2, (0, x2))] [] μ (BX7_named_0 x0 x1 x2 μ) := by
  unfold BX7_named_0
  refine V_iconst (κ := KX7_named) (pc := 0) dX7_named_0 ⟨by decide, by decide⟩ ?_
  refine V_istore_n (κ := KX7_named) (pc := 1) (lv' := [(3, (0, 0)), (0, (2, x0)), (1, (0, x1)), (2, (0, x2))]) dX7_named_1 (by decide) rfl ?_
  refine V_sub (lv' := [(0, (2, x0)), (1, (0, x1)), (2, (0, x2)), (3, (0, 0))]) [1, 2, 3, 0] rfl ?_
  exact VLX7_named_2 FU _ _ _ _ _
theorem con_X7_named (a0 a1 a2 : Int) (μ : Mem) : Con (1) yX7_named (.code yX7_named cX7_named 7 (some .int)) 0 [(2, a0), (0, a1), (0, a2)] μ (FX7_named a0 a1 a2 μ) := Con_intro KX7_named (plainFor_of_name (by decide)) rfl (fun h => by cases h) (by decide) rfl (Nat.le_of_ble_eq_true rfl) (fun Γ => VBX7_named_0 _ _ _ _)
abbrev KX7_readsInk : Kap := (RX7, cX7_readsInk, 3, 3, 0, (some .boolean), false, [])
theorem VBX7_readsInk_0 {Γ : Gam} (x0 : Int) (μ : Mem) : V Γ KX7_readsInk 0 [(0, (2, x0))] [] μ (BX7_readsInk_0 x0 μ) := by
  unfold BX7_readsInk_0
  refine V_aload_n (κ := KX7_readsInk) (pc := 0) dX7_readsInk_0 0 rfl rfl ?_
  refine V_callV (ci := 7) (T := TX7) (N := 24) rfl (by decide) (κ := KX7_readsInk) (pc := 1) (con_X7_letters _ _) mth_X7_letters rfl ⟨wd_1099, wp_38⟩ wd_1097 (st0 := []) rfl rfl (by decide) (Nat.le_of_ble_eq_true rfl) dX7_readsInk_1 (fun _ _ _ h => VX_out rfl (by decide) h) fun t101 u102 => ?_
  refine V_istore_n (κ := KX7_readsInk) (pc := 4) (lv' := [(1, (0, t101)), (0, (2, x0))]) dX7_readsInk_4 (by decide) rfl ?_
  refine V_iload_n (κ := KX7_readsInk) (pc := 5) dX7_readsInk_5 0 rfl ?_
  refine V_if_ne (κ := KX7_readsInk) (pc := 6) (tgt := 20) dX7_readsInk_6 rfl ?_ ?_
  · refine V_iload_n (κ := KX7_readsInk) (pc := 20) dX7_readsInk_20 0 rfl ?_
    refine V_bipush (κ := KX7_readsInk) (pc := 21) dX7_readsInk_21 ⟨by decide, by decide⟩ (by decide) ?_
    refine V_icmp_le (κ := KX7_readsInk) (pc := 23) (tgt := 37) dX7_readsInk_23 rfl ?_ ?_
    · refine V_aload_n (κ := KX7_readsInk) (pc := 37) dX7_readsInk_37 1 rfl rfl ?_
      refine V_aload_n (κ := KX7_readsInk) (pc := 38) dX7_readsInk_38 1 rfl rfl ?_
      refine V_getf 7 (κ := KX7_readsInk) (pc := 39) rfl (by decide) rfl inX7 14 (by decide) wd_1001 rfl (t := 0) rfl dX7_readsInk_39 fun t103 => ?_
      refine V_iload_n (κ := KX7_readsInk) (pc := 42) dX7_readsInk_42 0 rfl ?_
      refine V_callV (ci := 7) (T := TX7) (N := 24) rfl (by decide) (κ := KX7_readsInk) (pc := 43) (con_X7_named _ _ _ _) mth_X7_named rfl ⟨wd_1137, wp_45⟩ wd_1135 (st0 := []) rfl rfl (by decide) (Nat.le_of_ble_eq_true rfl) dX7_readsInk_43 (fun _ _ _ h => VX_out rfl (by decide) h) fun t104 u105 => ?_
      refine V_istore_n (κ := KX7_readsInk) (pc := 46) (lv' := [(2, (0, t104)), (1, (0, t101)), (0, (2, x0))]) dX7_readsInk_46 (by decide) rfl ?_
      refine V_iload_n (κ := KX7_readsInk) (pc := 47) dX7_readsInk_47 0 rfl ?_
      refine V_iconst (κ := KX7_readsInk) (pc := 48) dX7_readsInk_48 ⟨by decide, by decide⟩ ?_
      refine V_icmp_ne (κ := KX7_readsInk) (pc := 49) (tgt := 63) dX7_readsInk_49 rfl ?_ ?_
      · refine V_aload_n (κ := KX7_readsInk) (pc := 63) dX7_readsInk_63 2 rfl rfl ?_
        refine V_dup (κ := KX7_readsInk) (pc := 64) rfl dX7_readsInk_64 ?_
        refine V_getf 7 (κ := KX7_readsInk) (pc := 65) rfl (by decide) rfl inX7 14 (by decide) wd_1001 rfl (t := 0) rfl dX7_readsInk_65 fun t106 => ?_
        refine V_iload_n (κ := KX7_readsInk) (pc := 68) dX7_readsInk_68 1 rfl ?_
        refine V_iadd (κ := KX7_readsInk) (pc := 69) dX7_readsInk_69 ?_
        refine V_putf 7 (κ := KX7_readsInk) (pc := 70) rfl (by decide) rfl inX7 tyX7 tyX7_ok nmX7 14 (by decide) wd_1001 rfl rfl (t := 0) rfl rfl dX7_readsInk_70 fun u107 => ?_
        refine V_aload_n (κ := KX7_readsInk) (pc := 73) dX7_readsInk_73 2 rfl rfl ?_
        refine V_iconst (κ := KX7_readsInk) (pc := 74) dX7_readsInk_74 ⟨by decide, by decide⟩ ?_
        refine V_ldc (κ := KX7_readsInk) (pc := 75) (z := 99999) dX7_readsInk_75 wd_1168 ⟨by decide, by decide⟩ (by decide) ?_
        refine V_callV (ci := 7) (T := TX7) (N := 24) rfl (by decide) (κ := KX7_readsInk) (pc := 77) (con_X7_reads _ _ _ _) mth_X7_reads rfl ⟨wd_1116, wp_41⟩ wd_1114 (st0 := []) rfl rfl (by decide) (Nat.le_of_ble_eq_true rfl) dX7_readsInk_77 (fun _ _ _ h => VX_out rfl (by decide) h) fun t108 u109 => ?_
        refine V_if_ne (κ := KX7_readsInk) (pc := 80) (tgt := 85) dX7_readsInk_80 rfl ?_ ?_
        · refine V_aload_n (κ := KX7_readsInk) (pc := 85) dX7_readsInk_85 2 rfl rfl ?_
          refine V_getf 7 (κ := KX7_readsInk) (pc := 86) rfl (by decide) rfl inX7 2 (by decide) wd_989 rfl (t := 2) rfl dX7_readsInk_86 fun t110 => ?_
          refine V_sipush (κ := KX7_readsInk) (pc := 89) dX7_readsInk_89 ⟨by decide, by decide⟩ (by decide) ?_
          refine V_sipush (κ := KX7_readsInk) (pc := 92) dX7_readsInk_92 ⟨by decide, by decide⟩ (by decide) ?_
          refine V_iload_n (κ := KX7_readsInk) (pc := 95) dX7_readsInk_95 0 rfl ?_
          refine V_imul (κ := KX7_readsInk) (pc := 96) dX7_readsInk_96 ?_
          refine V_iadd (κ := KX7_readsInk) (pc := 97) dX7_readsInk_97 ?_
          refine V_bipush (κ := KX7_readsInk) (pc := 98) dX7_readsInk_98 ⟨by decide, by decide⟩ (by decide) ?_
          refine V_iadd (κ := KX7_readsInk) (pc := 100) dX7_readsInk_100 ?_
          refine V_aload_n (κ := KX7_readsInk) (pc := 101) dX7_readsInk_101 2 rfl rfl ?_
          refine V_getf 7 (κ := KX7_readsInk) (pc := 102) rfl (by decide) rfl inX7 17 (by decide) wd_1004 rfl (t := 0) rfl dX7_readsInk_102 fun t111 => ?_
          refine V_iastore (κ := KX7_readsInk) (pc := 105) dX7_readsInk_105 fun u112 => ?_
          refine V_iconst (κ := KX7_readsInk) (pc := 106) dX7_readsInk_106 ⟨by decide, by decide⟩ ?_
          exact V_zreturn (κ := KX7_readsInk) (pc := 107) rfl rfl dX7_readsInk_107
        refine V_iconst (κ := KX7_readsInk) (pc := 83) dX7_readsInk_83 ⟨by decide, by decide⟩ ?_
        exact V_zreturn (κ := KX7_readsInk) (pc := 84) rfl rfl dX7_readsInk_84
      refine V_aload_n (κ := KX7_readsInk) (pc := 52) dX7_readsInk_52 2 rfl rfl ?_
      refine V_bipush (κ := KX7_readsInk) (pc := 53) dX7_readsInk_53 ⟨by decide, by decide⟩ (by decide) ?_
      refine V_aload_n (κ := KX7_readsInk) (pc := 55) dX7_readsInk_55 2 rfl rfl ?_
      refine V_getf 7 (κ := KX7_readsInk) (pc := 56) rfl (by decide) rfl inX7 14 (by decide) wd_1001 rfl (t := 0) rfl dX7_readsInk_56 fun t113 => ?_
      refine V_callV (ci := 7) (T := TX7) (N := 24) rfl (by decide) (κ := KX7_readsInk) (pc := 59) (con_X7_fails _ _ _ _) mth_X7_fails rfl ⟨wd_1112, wp_40⟩ wd_1110 (st0 := []) rfl rfl (by decide) (Nat.le_of_ble_eq_true rfl) dX7_readsInk_59 (fun _ _ _ h => VX_out rfl (by decide) h) fun t114 u115 => ?_
      exact V_zreturn (κ := KX7_readsInk) (pc := 62) rfl rfl dX7_readsInk_62
    refine V_aload_n (κ := KX7_readsInk) (pc := 26) dX7_readsInk_26 1 rfl rfl ?_
    refine V_bipush (κ := KX7_readsInk) (pc := 27) dX7_readsInk_27 ⟨by decide, by decide⟩ (by decide) ?_
    refine V_aload_n (κ := KX7_readsInk) (pc := 29) dX7_readsInk_29 1 rfl rfl ?_
    refine V_getf 7 (κ := KX7_readsInk) (pc := 30) rfl (by decide) rfl inX7 14 (by decide) wd_1001 rfl (t := 0) rfl dX7_readsInk_30 fun t116 => ?_
    refine V_callV (ci := 7) (T := TX7) (N := 24) rfl (by decide) (κ := KX7_readsInk) (pc := 33) (con_X7_fails _ _ _ _) mth_X7_fails rfl ⟨wd_1112, wp_40⟩ wd_1110 (st0 := []) rfl rfl (by decide) (Nat.le_of_ble_eq_true rfl) dX7_readsInk_33 (fun _ _ _ h => VX_out rfl (by decide) h) fun t117 u118 => ?_
    exact V_zreturn (κ := KX7_readsInk) (pc := 36) rfl rfl dX7_readsInk_36
  refine V_aload_n (κ := KX7_readsInk) (pc := 9) dX7_readsInk_9 1 rfl rfl ?_
  refine V_bipush (κ := KX7_readsInk) (pc := 10) dX7_readsInk_10 ⟨by decide, by decide⟩ (by decide) ?_
  refine V_aload_n (κ := KX7_readsInk) (pc := 12) dX7_readsInk_12 1 rfl rfl ?_
  refine V_getf 7 (κ := KX7_readsInk) (pc := 13) rfl (by decide) rfl inX7 14 (by decide) wd_1001 rfl (t := 0) rfl dX7_readsInk_13 fun t119 => ?_
  refine V_callV (ci := 7) (T := TX7) (N := 24) rfl (by decide) (κ := KX7_readsInk) (pc := 16) (con_X7_fails _ _ _ _) mth_X7_fails rfl ⟨wd_1112, wp_40⟩ wd_1110 (st0 := []) rfl rfl (by decide) (Nat.le_of_ble_eq_true rfl) dX7_readsInk_16 (fun _ _ _ h => VX_out rfl (by decide) h) fun t120 u121 => ?_
  exact V_zreturn (κ := KX7_readsInk) (pc := 19) rfl rfl dX7_readsInk_19
theorem con_X7_readsInk (a0 : Int) (μ : Mem) : Con (3) yX7_readsInk (.code yX7_readsInk cX7_readsInk 3 (some .boolean)) 0 [(2, a0)] μ (FX7_readsInk a0 μ) := Con_intro KX7_readsInk (plainFor_of_name (by decide)) rfl (fun h => by cases h) (by decide) rfl (Nat.le_of_ble_eq_true rfl) (fun Γ => VBX7_readsInk_0 _ _)
abbrev KX7_emits : Kap := (RX7, cX7_emits, 5, 1, 9, none, false, [])
theorem VBX7_emits_0 {Γ : Gam} (x0 x1 x2 : Int) (μ : Mem) : V Γ KX7_emits 0 [(0, (2, x0)), (1, (0, x1)), (2, (0, x2))] [] μ (BX7_emits_0 x0 x1 x2 μ) := by
  unfold BX7_emits_0
  refine V_sipush (κ := KX7_emits) (pc := 0) dX7_emits_0 ⟨by decide, by decide⟩ (by decide) ?_
  refine V_sipush (κ := KX7_emits) (pc := 3) dX7_emits_3 ⟨by decide, by decide⟩ (by decide) ?_
  refine V_aload_n (κ := KX7_emits) (pc := 6) dX7_emits_6 0 rfl rfl ?_
  refine V_getf 7 (κ := KX7_emits) (pc := 7) rfl (by decide) rfl inX7 19 (by decide) wd_1006 rfl (t := 0) rfl dX7_emits_7 fun t101 => ?_
  refine V_imul (κ := KX7_emits) (pc := 10) dX7_emits_10 ?_
  refine V_iadd (κ := KX7_emits) (pc := 11) dX7_emits_11 ?_
  refine V_LT fun x102 => ?_
  refine V_istore_n (κ := KX7_emits) (pc := 12) (lv' := [(3, (0, x102)), (0, (2, x0)), (1, (0, x1)), (2, (0, x2))]) dX7_emits_12 (by decide) rfl ?_
  refine V_iload_n (κ := KX7_emits) (pc := 13) dX7_emits_13 0 rfl ?_
  refine V_bipush (κ := KX7_emits) (pc := 14) dX7_emits_14 ⟨by decide, by decide⟩ (by decide) ?_
  refine V_iadd (κ := KX7_emits) (pc := 16) dX7_emits_16 ?_
  refine V_iconst (κ := KX7_emits) (pc := 17) dX7_emits_17 ⟨by decide, by decide⟩ ?_
  refine V_aload_n (κ := KX7_emits) (pc := 18) dX7_emits_18 1 rfl rfl ?_
  refine V_getf 7 (κ := KX7_emits) (pc := 19) rfl (by decide) rfl inX7 2 (by decide) wd_989 rfl (t := 2) rfl dX7_emits_19 fun t103 => ?_
  refine V_iload_n (κ := KX7_emits) (pc := 22) dX7_emits_22 0 rfl ?_
  refine V_bipush (κ := KX7_emits) (pc := 23) dX7_emits_23 ⟨by decide, by decide⟩ (by decide) ?_
  refine V_iadd (κ := KX7_emits) (pc := 25) dX7_emits_25 ?_
  refine V_iaload (κ := KX7_emits) (pc := 26) dX7_emits_26 fun t104 => ?_
  refine V_imul (κ := KX7_emits) (pc := 27) dX7_emits_27 ?_
  refine V_iadd (κ := KX7_emits) (pc := 28) dX7_emits_28 ?_
  refine V_LT fun x105 => ?_
  refine V_istore (κ := KX7_emits) (pc := 29) (lv' := [(4, (0, x105)), (3, (0, x102)), (0, (2, x0)), (1, (0, x1)), (2, (0, x2))]) dX7_emits_29 (by decide) rfl ?_
  refine V_aload_n (κ := KX7_emits) (pc := 31) dX7_emits_31 2 rfl rfl ?_
  refine V_getf 7 (κ := KX7_emits) (pc := 32) rfl (by decide) rfl inX7 2 (by decide) wd_989 rfl (t := 2) rfl dX7_emits_32 fun t106 => ?_
  refine V_iload (κ := KX7_emits) (pc := 35) dX7_emits_35 0 rfl ?_
  refine V_iload_n (κ := KX7_emits) (pc := 37) dX7_emits_37 3 rfl ?_
  refine V_iastore (κ := KX7_emits) (pc := 38) dX7_emits_38 fun u107 => ?_
  refine V_aload_n (κ := KX7_emits) (pc := 39) dX7_emits_39 2 rfl rfl ?_
  refine V_getf 7 (κ := KX7_emits) (pc := 40) rfl (by decide) rfl inX7 2 (by decide) wd_989 rfl (t := 2) rfl dX7_emits_40 fun t108 => ?_
  refine V_iload (κ := KX7_emits) (pc := 43) dX7_emits_43 0 rfl ?_
  refine V_iconst (κ := KX7_emits) (pc := 45) dX7_emits_45 ⟨by decide, by decide⟩ ?_
  refine V_iadd (κ := KX7_emits) (pc := 46) dX7_emits_46 ?_
  refine V_iload_n (κ := KX7_emits) (pc := 47) dX7_emits_47 4 rfl ?_
  refine V_iastore (κ := KX7_emits) (pc := 48) dX7_emits_48 fun u109 => ?_
  refine V_aload_n (κ := KX7_emits) (pc := 49) dX7_emits_49 2 rfl rfl ?_
  refine V_getf 7 (κ := KX7_emits) (pc := 50) rfl (by decide) rfl inX7 2 (by decide) wd_989 rfl (t := 2) rfl dX7_emits_50 fun t110 => ?_
  refine V_iload_n (κ := KX7_emits) (pc := 53) dX7_emits_53 1 rfl ?_
  refine V_bipush (κ := KX7_emits) (pc := 54) dX7_emits_54 ⟨by decide, by decide⟩ (by decide) ?_
  refine V_iadd (κ := KX7_emits) (pc := 56) dX7_emits_56 ?_
  refine V_dup2 (κ := KX7_emits) (pc := 57) rfl rfl dX7_emits_57 ?_
  refine V_iaload (κ := KX7_emits) (pc := 58) dX7_emits_58 fun t111 => ?_
  refine V_iconst (κ := KX7_emits) (pc := 59) dX7_emits_59 ⟨by decide, by decide⟩ ?_
  refine V_iadd (κ := KX7_emits) (pc := 60) dX7_emits_60 ?_
  refine V_iastore (κ := KX7_emits) (pc := 61) dX7_emits_61 fun u112 => ?_
  exact V_vreturn (κ := KX7_emits) (pc := 62) rfl rfl dX7_emits_62
theorem con_X7_emits (a0 a1 a2 : Int) (μ : Mem) : Con (1) yX7_emits (.code yX7_emits cX7_emits 5 none) 9 [(2, a0), (0, a1), (0, a2)] μ (FX7_emits a0 a1 a2 μ) := Con_intro KX7_emits (plainFor_of_name (by decide)) rfl (fun h => by cases h) (by decide) rfl (Nat.le_of_ble_eq_true rfl) (fun Γ => VBX7_emits_0 _ _ _ _)
abbrev KX7_sign : Kap := (RX7, cX7_sign, 2, 2, 0, (some .boolean), false, [])
theorem VBX7_sign_0 {Γ : Gam} (x0 x1 : Int) (μ : Mem) : V Γ KX7_sign 0 [(0, (2, x0)), (1, (0, x1))] [] μ (BX7_sign_0 x0 x1 μ) := by
  unfold BX7_sign_0
  refine V_aload_n (κ := KX7_sign) (pc := 0) dX7_sign_0 0 rfl rfl ?_
  refine V_callV (ci := 7) (T := TX7) (N := 24) rfl (by decide) (κ := KX7_sign) (pc := 1) (con_X7_here _ _) mth_X7_here rfl ⟨wd_1103, wp_39⟩ wd_1101 (st0 := []) rfl rfl (by decide) (Nat.le_of_ble_eq_true rfl) dX7_sign_1 (fun _ _ _ h => VX_out rfl (by decide) h) fun t101 u102 => ?_
  refine V_iload_n (κ := KX7_sign) (pc := 4) dX7_sign_4 1 rfl ?_
  refine V_icmp_eq (κ := KX7_sign) (pc := 5) (tgt := 19) dX7_sign_5 rfl ?_ ?_
  · refine V_aload_n (κ := KX7_sign) (pc := 19) dX7_sign_19 0 rfl rfl ?_
    refine V_dup (κ := KX7_sign) (pc := 20) rfl dX7_sign_20 ?_
    refine V_getf 7 (κ := KX7_sign) (pc := 21) rfl (by decide) rfl inX7 14 (by decide) wd_1001 rfl (t := 0) rfl dX7_sign_21 fun t103 => ?_
    refine V_iconst (κ := KX7_sign) (pc := 24) dX7_sign_24 ⟨by decide, by decide⟩ ?_
    refine V_iadd (κ := KX7_sign) (pc := 25) dX7_sign_25 ?_
    refine V_putf 7 (κ := KX7_sign) (pc := 26) rfl (by decide) rfl inX7 tyX7 tyX7_ok nmX7 14 (by decide) wd_1001 rfl rfl (t := 0) rfl rfl dX7_sign_26 fun u104 => ?_
    refine V_iconst (κ := KX7_sign) (pc := 29) dX7_sign_29 ⟨by decide, by decide⟩ ?_
    exact V_zreturn (κ := KX7_sign) (pc := 30) rfl rfl dX7_sign_30
  refine V_aload_n (κ := KX7_sign) (pc := 8) dX7_sign_8 0 rfl rfl ?_
  refine V_bipush (κ := KX7_sign) (pc := 9) dX7_sign_9 ⟨by decide, by decide⟩ (by decide) ?_
  refine V_aload_n (κ := KX7_sign) (pc := 11) dX7_sign_11 0 rfl rfl ?_
  refine V_getf 7 (κ := KX7_sign) (pc := 12) rfl (by decide) rfl inX7 14 (by decide) wd_1001 rfl (t := 0) rfl dX7_sign_12 fun t105 => ?_
  refine V_callV (ci := 7) (T := TX7) (N := 24) rfl (by decide) (κ := KX7_sign) (pc := 15) (con_X7_fails _ _ _ _) mth_X7_fails rfl ⟨wd_1112, wp_40⟩ wd_1110 (st0 := []) rfl rfl (by decide) (Nat.le_of_ble_eq_true rfl) dX7_sign_15 (fun _ _ _ h => VX_out rfl (by decide) h) fun t106 u107 => ?_
  exact V_zreturn (κ := KX7_sign) (pc := 18) rfl rfl dX7_sign_18
theorem con_X7_sign (a0 a1 : Int) (μ : Mem) : Con (2) yX7_sign (.code yX7_sign cX7_sign 2 (some .boolean)) 0 [(2, a0), (0, a1)] μ (FX7_sign a0 a1 μ) := Con_intro KX7_sign (plainFor_of_name (by decide)) rfl (fun h => by cases h) (by decide) rfl (Nat.le_of_ble_eq_true rfl) (fun Γ => VBX7_sign_0 _ _ _)
abbrev KX7_takes : Kap := (RX7, cX7_takes, 4, 7, 0, (some .boolean), false, [])
theorem VBX7_takes_17 {Γ : Gam} {k17 : Int → Int → Int → Int → Mem → Rz} (hk17 : ∀ (y0 y1 y2 y3 : Int) (ν : Mem), V Γ KX7_takes 17 [(0, (2, y0)), (1, (5, y1)), (2, (0, y2)), (3, (0, y3))] [] ν (k17 y0 y1 y2 y3 ν)) (x0 x1 x2 x3 : Int) (μ : Mem) : V Γ KX7_takes 17 [(0, (2, x0)), (1, (5, x1)), (2, (0, x2)), (3, (0, x3))] [] μ (BX7_takes_17 k17 x0 x1 x2 x3 μ) := by
  unfold BX7_takes_17
  refine V_iload_n (κ := KX7_takes) (pc := 17) dX7_takes_17 3 rfl ?_
  refine V_iload_n (κ := KX7_takes) (pc := 18) dX7_takes_18 2 rfl ?_
  refine V_icmp_ge (κ := KX7_takes) (pc := 19) (tgt := 49) dX7_takes_19 rfl ?_ ?_
  · refine V_aload_n (κ := KX7_takes) (pc := 49) dX7_takes_49 0 rfl rfl ?_
    refine V_dup (κ := KX7_takes) (pc := 50) rfl dX7_takes_50 ?_
    refine V_getf 7 (κ := KX7_takes) (pc := 51) rfl (by decide) rfl inX7 14 (by decide) wd_1001 rfl (t := 0) rfl dX7_takes_51 fun t101 => ?_
    refine V_iload_n (κ := KX7_takes) (pc := 54) dX7_takes_54 2 rfl ?_
    refine V_iadd (κ := KX7_takes) (pc := 55) dX7_takes_55 ?_
    refine V_putf 7 (κ := KX7_takes) (pc := 56) rfl (by decide) rfl inX7 tyX7 tyX7_ok nmX7 14 (by decide) wd_1001 rfl rfl (t := 0) rfl rfl dX7_takes_56 fun u102 => ?_
    refine V_iconst (κ := KX7_takes) (pc := 59) dX7_takes_59 ⟨by decide, by decide⟩ ?_
    exact V_zreturn (κ := KX7_takes) (pc := 60) rfl rfl dX7_takes_60
  refine V_aload_n (κ := KX7_takes) (pc := 22) dX7_takes_22 0 rfl rfl ?_
  refine V_getf 7 (κ := KX7_takes) (pc := 23) rfl (by decide) rfl inX7 11 (by decide) wd_998 rfl (t := 2) rfl dX7_takes_23 fun t103 => ?_
  refine V_aload_n (κ := KX7_takes) (pc := 26) dX7_takes_26 0 rfl rfl ?_
  refine V_getf 7 (κ := KX7_takes) (pc := 27) rfl (by decide) rfl inX7 14 (by decide) wd_1001 rfl (t := 0) rfl dX7_takes_27 fun t104 => ?_
  refine V_iload_n (κ := KX7_takes) (pc := 30) dX7_takes_30 3 rfl ?_
  refine V_iadd (κ := KX7_takes) (pc := 31) dX7_takes_31 ?_
  refine V_iaload (κ := KX7_takes) (pc := 32) dX7_takes_32 fun t105 => ?_
  refine V_aload_n (κ := KX7_takes) (pc := 33) dX7_takes_33 1 rfl rfl ?_
  refine V_iload_n (κ := KX7_takes) (pc := 34) dX7_takes_34 3 rfl ?_
  refine V_strCh (κ := KX7_takes) (pc := 35) wd_1109 (by decide) rfl (by decide) (Nat.le_of_ble_eq_true rfl) dX7_takes_35 fun t106 => ?_
  refine V_icmp_eq (κ := KX7_takes) (pc := 38) (tgt := 43) dX7_takes_38 rfl ?_ ?_
  · refine V_iinc (κ := KX7_takes) (pc := 43) (lv' := [(3, (0, w32 (x3 + 1))), (0, (2, x0)), (1, (5, x1)), (2, (0, x2))]) dX7_takes_43 3 rfl (by decide) rfl ?_
    refine V_goto (κ := KX7_takes) (pc := 46) (tgt := 17) dX7_takes_46 rfl ?_
    refine V_sub (lv' := [(0, (2, x0)), (1, (5, x1)), (2, (0, x2)), (3, (0, w32 (x3 + 1)))]) [1, 2, 3, 0] rfl ?_
    exact hk17 _ _ _ _ _
  refine V_iconst (κ := KX7_takes) (pc := 41) dX7_takes_41 ⟨by decide, by decide⟩ ?_
  exact V_zreturn (κ := KX7_takes) (pc := 42) rfl rfl dX7_takes_42
theorem VLX7_takes_17 {Γ : Gam} : ∀ (n : Nat) (x0 x1 x2 x3 : Int) (μ : Mem), V Γ KX7_takes 17 [(0, (2, x0)), (1, (5, x1)), (2, (0, x2)), (3, (0, x3))] [] μ (LX7_takes_17 n x0 x1 x2 x3 μ)
  | 0, _, _, _, _, _ => V_none
  | n + 1, x0, x1, x2, x3, μ => VBX7_takes_17 (fun y0 y1 y2 y3 ν => VLX7_takes_17 n y0 y1 y2 y3 ν) x0 x1 x2 x3 μ
theorem VBX7_takes_0 {Γ : Gam} (x0 x1 : Int) (μ : Mem) : V Γ KX7_takes 0 [(0, (2, x0)), (1, (5, x1))] [] μ (BX7_takes_0 x0 x1 μ) := by
  unfold BX7_takes_0
  refine V_aload_n (κ := KX7_takes) (pc := 0) dX7_takes_0 0 rfl rfl ?_
  refine V_callV (ci := 7) (T := TX7) (N := 24) rfl (by decide) (κ := KX7_takes) (pc := 1) (con_X7_letters _ _) mth_X7_letters rfl ⟨wd_1099, wp_38⟩ wd_1097 (st0 := []) rfl rfl (by decide) (Nat.le_of_ble_eq_true rfl) dX7_takes_1 (fun _ _ _ h => VX_out rfl (by decide) h) fun t101 u102 => ?_
  refine V_istore_n (κ := KX7_takes) (pc := 4) (lv' := [(2, (0, t101)), (0, (2, x0)), (1, (5, x1))]) dX7_takes_4 (by decide) rfl ?_
  refine V_iload_n (κ := KX7_takes) (pc := 5) dX7_takes_5 0 rfl ?_
  refine V_aload_n (κ := KX7_takes) (pc := 6) dX7_takes_6 2 rfl rfl ?_
  refine V_strLen (κ := KX7_takes) (pc := 7) wd_1108 (by decide) rfl (by decide) (Nat.le_of_ble_eq_true rfl) dX7_takes_7 fun t103 => ?_
  refine V_icmp_eq (κ := KX7_takes) (pc := 10) (tgt := 15) dX7_takes_10 rfl ?_ ?_
  · refine V_iconst (κ := KX7_takes) (pc := 15) dX7_takes_15 ⟨by decide, by decide⟩ ?_
    refine V_istore_n (κ := KX7_takes) (pc := 16) (lv' := [(3, (0, 0)), (2, (0, t101)), (0, (2, x0)), (1, (5, x1))]) dX7_takes_16 (by decide) rfl ?_
    refine V_sub (lv' := [(0, (2, x0)), (1, (5, x1)), (2, (0, t101)), (3, (0, 0))]) [2, 3, 1, 0] rfl ?_
    exact VLX7_takes_17 FU _ _ _ _ _
  refine V_iconst (κ := KX7_takes) (pc := 13) dX7_takes_13 ⟨by decide, by decide⟩ ?_
  exact V_zreturn (κ := KX7_takes) (pc := 14) rfl rfl dX7_takes_14
theorem con_X7_takes (a0 a1 : Int) (μ : Mem) : Con (7) yX7_takes (.code yX7_takes cX7_takes 4 (some .boolean)) 0 [(2, a0), (5, a1)] μ (FX7_takes a0 a1 μ) := Con_intro KX7_takes (plainFor_of_name (by decide)) rfl (fun h => by cases h) (by decide) rfl (Nat.le_of_ble_eq_true rfl) (fun Γ => VBX7_takes_0 _ _ _)
abbrev KX7_readsFactor (D : Nat) : Kap := (RX7, cX7_readsFactor, 2, D + 8, 0, (some .boolean), false, [])
theorem VBX7_readsFactor_165 {Γ : Gam} {rc : Int → Mem → Rz} {D : Nat} (hrc : ∀ (b0 : Int) (μ : Mem), Con D yX7_readsSum (.code yX7_readsSum cX7_readsSum 2 (some .boolean)) 0 [(2, b0)] μ (rc b0 μ)) (x0 s0 : Int) (μ : Mem) : V Γ (KX7_readsFactor D) 165 [(0, (2, x0))] [(0, s0)] μ (BX7_readsFactor_165 rc x0 s0 μ) := by
  unfold BX7_readsFactor_165
  refine V_istore_n (κ := (KX7_readsFactor D)) (pc := 165) (lv' := [(1, (0, s0)), (0, (2, x0))]) dX7_readsFactor_165 (show 1 < 2 by decide) rfl ?_
  refine V_iload_n (κ := (KX7_readsFactor D)) (pc := 166) dX7_readsFactor_166 0 rfl ?_
  refine V_iconst (κ := (KX7_readsFactor D)) (pc := 167) dX7_readsFactor_167 ⟨by decide, by decide⟩ ?_
  refine V_icmp_ne (κ := (KX7_readsFactor D)) (pc := 168) (tgt := 182) dX7_readsFactor_168 rfl ?_ ?_
  · refine V_aload_n (κ := (KX7_readsFactor D)) (pc := 182) dX7_readsFactor_182 1 rfl rfl ?_
    refine V_iconst (κ := (KX7_readsFactor D)) (pc := 183) dX7_readsFactor_183 ⟨by decide, by decide⟩ ?_
    refine V_iload_n (κ := (KX7_readsFactor D)) (pc := 184) dX7_readsFactor_184 0 rfl ?_
    refine V_callV (ci := 7) (T := TX7) (N := 24) rfl (by decide) (κ := (KX7_readsFactor D)) (pc := 185) (con_X7_emits _ _ _ _) mth_X7_emits rfl ⟨wd_1158, wp_49⟩ wd_1156 (st0 := []) rfl rfl (by show _ ≤ D + 8; omega) (Nat.le_of_ble_eq_true rfl) dX7_readsFactor_185 (fun _ _ _ h => VX_out rfl (show (0 : Nat) ≠ 10 by decide) h) fun _ u102 => ?_
    refine V_iconst (κ := (KX7_readsFactor D)) (pc := 188) dX7_readsFactor_188 ⟨by decide, by decide⟩ ?_
    exact V_zreturn (κ := (KX7_readsFactor D)) (pc := 189) rfl rfl dX7_readsFactor_189
  refine V_aload_n (κ := (KX7_readsFactor D)) (pc := 171) dX7_readsFactor_171 1 rfl rfl ?_
  refine V_bipush (κ := (KX7_readsFactor D)) (pc := 172) dX7_readsFactor_172 ⟨by decide, by decide⟩ (by decide) ?_
  refine V_aload_n (κ := (KX7_readsFactor D)) (pc := 174) dX7_readsFactor_174 1 rfl rfl ?_
  refine V_getf 7 (κ := (KX7_readsFactor D)) (pc := 175) rfl (by decide) rfl inX7 14 (by decide) wd_1001 rfl (t := 0) rfl dX7_readsFactor_175 fun t103 => ?_
  refine V_callV (ci := 7) (T := TX7) (N := 24) rfl (by decide) (κ := (KX7_readsFactor D)) (pc := 178) (con_X7_fails _ _ _ _) mth_X7_fails rfl ⟨wd_1112, wp_40⟩ wd_1110 (st0 := []) rfl rfl (by show _ ≤ D + 8; omega) (Nat.le_of_ble_eq_true rfl) dX7_readsFactor_178 (fun _ _ _ h => VX_out rfl (show (0 : Nat) ≠ 10 by decide) h) fun t104 u105 => ?_
  exact V_zreturn (κ := (KX7_readsFactor D)) (pc := 181) rfl rfl dX7_readsFactor_181
theorem VBX7_readsFactor_64 {Γ : Gam} {rc : Int → Mem → Rz} {D : Nat} (hrc : ∀ (b0 : Int) (μ : Mem), Con D yX7_readsSum (.code yX7_readsSum cX7_readsSum 2 (some .boolean)) 0 [(2, b0)] μ (rc b0 μ)) (μ : Mem) : V Γ (KX7_readsFactor D) 64 [] [] μ (BX7_readsFactor_64 rc μ) := by
  unfold BX7_readsFactor_64
  refine V_iconst (κ := (KX7_readsFactor D)) (pc := 64) dX7_readsFactor_64 ⟨by decide, by decide⟩ ?_
  exact V_zreturn (κ := (KX7_readsFactor D)) (pc := 65) rfl rfl dX7_readsFactor_65
theorem VBX7_readsFactor_0 {Γ : Gam} {rc : Int → Mem → Rz} {D : Nat} (hrc : ∀ (b0 : Int) (μ : Mem), Con D yX7_readsSum (.code yX7_readsSum cX7_readsSum 2 (some .boolean)) 0 [(2, b0)] μ (rc b0 μ)) (x0 : Int) (μ : Mem) : V Γ (KX7_readsFactor D) 0 [(0, (2, x0))] [] μ (BX7_readsFactor_0 rc x0 μ) := by
  unfold BX7_readsFactor_0
  refine V_aload_n (κ := (KX7_readsFactor D)) (pc := 0) dX7_readsFactor_0 0 rfl rfl ?_
  refine V_callV (ci := 7) (T := TX7) (N := 24) rfl (by decide) (κ := (KX7_readsFactor D)) (pc := 1) (con_X7_here _ _) mth_X7_here rfl ⟨wd_1103, wp_39⟩ wd_1101 (st0 := []) rfl rfl (by show _ ≤ D + 8; omega) (Nat.le_of_ble_eq_true rfl) dX7_readsFactor_1 (fun _ _ _ h => VX_out rfl (show (0 : Nat) ≠ 10 by decide) h) fun t101 u102 => ?_
  refine V_bipush (κ := (KX7_readsFactor D)) (pc := 4) dX7_readsFactor_4 ⟨by decide, by decide⟩ (by decide) ?_
  refine V_icmp_ne (κ := (KX7_readsFactor D)) (pc := 6) (tgt := 78) dX7_readsFactor_6 rfl ?_ ?_
  · refine V_aload_n (κ := (KX7_readsFactor D)) (pc := 78) dX7_readsFactor_78 0 rfl rfl ?_
    refine V_callV (ci := 7) (T := TX7) (N := 24) rfl (by decide) (κ := (KX7_readsFactor D)) (pc := 79) (con_X7_here _ _) mth_X7_here rfl ⟨wd_1103, wp_39⟩ wd_1101 (st0 := []) rfl rfl (by show _ ≤ D + 8; omega) (Nat.le_of_ble_eq_true rfl) dX7_readsFactor_79 (fun _ _ _ h => VX_out rfl (show (0 : Nat) ≠ 10 by decide) h) fun t103 u104 => ?_
    refine V_callS (κ := (KX7_readsFactor D)) (pc := 82) (con_X7_isDigit _ _) mth_X7_isDigit wd_1119 wd_1118 (st0 := []) rfl rfl (by show _ ≤ D + 8; omega) (Nat.le_of_ble_eq_true rfl) dX7_readsFactor_82 (fun _ _ _ h => VX_out rfl (show (0 : Nat) ≠ 10 by decide) h) fun t105 u106 => ?_
    refine V_if_eq (κ := (KX7_readsFactor D)) (pc := 85) (tgt := 112) dX7_readsFactor_85 rfl ?_ ?_
    · refine V_aload_n (κ := (KX7_readsFactor D)) (pc := 112) dX7_readsFactor_112 0 rfl rfl ?_
      refine V_ldcs (κ := (KX7_readsFactor D)) (pc := 113) (tx := "tone") (w := 6) (show (RX7, 214, "tone", 6) ∈ wrds by decide) dX7_readsFactor_113 (by decide) ?_
      refine V_callV (ci := 7) (T := TX7) (N := 24) rfl (by decide) (κ := (KX7_readsFactor D)) (pc := 115) (con_X7_takes _ _ _) mth_X7_takes rfl ⟨wd_1095, wp_37⟩ wd_1093 (st0 := []) rfl rfl (by show _ ≤ D + 8; omega) (Nat.le_of_ble_eq_true rfl) dX7_readsFactor_115 (fun _ _ _ h => VX_out rfl (show (0 : Nat) ≠ 10 by decide) h) fun t107 u108 => ?_
      refine V_if_eq (κ := (KX7_readsFactor D)) (pc := 118) (tgt := 125) dX7_readsFactor_118 rfl ?_ ?_
      · refine V_aload_n (κ := (KX7_readsFactor D)) (pc := 125) dX7_readsFactor_125 0 rfl rfl ?_
        refine V_ldcs (κ := (KX7_readsFactor D)) (pc := 126) (tx := "x") (w := 7) (show (RX7, 219, "x", 7) ∈ wrds by decide) dX7_readsFactor_126 (by decide) ?_
        refine V_callV (ci := 7) (T := TX7) (N := 24) rfl (by decide) (κ := (KX7_readsFactor D)) (pc := 128) (con_X7_takes _ _ _) mth_X7_takes rfl ⟨wd_1095, wp_37⟩ wd_1093 (st0 := []) rfl rfl (by show _ ≤ D + 8; omega) (Nat.le_of_ble_eq_true rfl) dX7_readsFactor_128 (fun _ _ _ h => VX_out rfl (show (0 : Nat) ≠ 10 by decide) h) fun t109 u110 => ?_
        refine V_if_eq (κ := (KX7_readsFactor D)) (pc := 131) (tgt := 138) dX7_readsFactor_131 rfl ?_ ?_
        · refine V_aload_n (κ := (KX7_readsFactor D)) (pc := 138) dX7_readsFactor_138 0 rfl rfl ?_
          refine V_ldcs (κ := (KX7_readsFactor D)) (pc := 139) (tx := "y") (w := 8) (show (RX7, 221, "y", 8) ∈ wrds by decide) dX7_readsFactor_139 (by decide) ?_
          refine V_callV (ci := 7) (T := TX7) (N := 24) rfl (by decide) (κ := (KX7_readsFactor D)) (pc := 141) (con_X7_takes _ _ _) mth_X7_takes rfl ⟨wd_1095, wp_37⟩ wd_1093 (st0 := []) rfl rfl (by show _ ≤ D + 8; omega) (Nat.le_of_ble_eq_true rfl) dX7_readsFactor_141 (fun _ _ _ h => VX_out rfl (show (0 : Nat) ≠ 10 by decide) h) fun t111 u112 => ?_
          refine V_if_eq (κ := (KX7_readsFactor D)) (pc := 144) (tgt := 151) dX7_readsFactor_144 rfl ?_ ?_
          · refine V_aload_n (κ := (KX7_readsFactor D)) (pc := 151) dX7_readsFactor_151 0 rfl rfl ?_
            refine V_ldcs (κ := (KX7_readsFactor D)) (pc := 152) (tx := "plate") (w := 2) (show (RX7, 223, "plate", 2) ∈ wrds by decide) dX7_readsFactor_152 (by decide) ?_
            refine V_callV (ci := 7) (T := TX7) (N := 24) rfl (by decide) (κ := (KX7_readsFactor D)) (pc := 154) (con_X7_takes _ _ _) mth_X7_takes rfl ⟨wd_1095, wp_37⟩ wd_1093 (st0 := []) rfl rfl (by show _ ≤ D + 8; omega) (Nat.le_of_ble_eq_true rfl) dX7_readsFactor_154 (fun _ _ _ h => VX_out rfl (show (0 : Nat) ≠ 10 by decide) h) fun t113 u114 => ?_
            refine V_if_eq (κ := (KX7_readsFactor D)) (pc := 157) (tgt := 164) dX7_readsFactor_157 rfl ?_ ?_
            · refine V_iconst (κ := (KX7_readsFactor D)) (pc := 164) dX7_readsFactor_164 ⟨by decide, by decide⟩ ?_
              exact VBX7_readsFactor_165 hrc _ _ _
            refine V_iconst (κ := (KX7_readsFactor D)) (pc := 160) dX7_readsFactor_160 ⟨by decide, by decide⟩ ?_
            refine V_goto (κ := (KX7_readsFactor D)) (pc := 161) (tgt := 165) dX7_readsFactor_161 rfl ?_
            exact VBX7_readsFactor_165 hrc _ _ _
          refine V_iconst (κ := (KX7_readsFactor D)) (pc := 147) dX7_readsFactor_147 ⟨by decide, by decide⟩ ?_
          refine V_goto (κ := (KX7_readsFactor D)) (pc := 148) (tgt := 165) dX7_readsFactor_148 rfl ?_
          exact VBX7_readsFactor_165 hrc _ _ _
        refine V_iconst (κ := (KX7_readsFactor D)) (pc := 134) dX7_readsFactor_134 ⟨by decide, by decide⟩ ?_
        refine V_goto (κ := (KX7_readsFactor D)) (pc := 135) (tgt := 165) dX7_readsFactor_135 rfl ?_
        exact VBX7_readsFactor_165 hrc _ _ _
      refine V_iconst (κ := (KX7_readsFactor D)) (pc := 121) dX7_readsFactor_121 ⟨by decide, by decide⟩ ?_
      refine V_goto (κ := (KX7_readsFactor D)) (pc := 122) (tgt := 165) dX7_readsFactor_122 rfl ?_
      exact VBX7_readsFactor_165 hrc _ _ _
    refine V_aload_n (κ := (KX7_readsFactor D)) (pc := 88) dX7_readsFactor_88 0 rfl rfl ?_
    refine V_iconst (κ := (KX7_readsFactor D)) (pc := 89) dX7_readsFactor_89 ⟨by decide, by decide⟩ ?_
    refine V_sipush (κ := (KX7_readsFactor D)) (pc := 90) dX7_readsFactor_90 ⟨by decide, by decide⟩ (by decide) ?_
    refine V_callV (ci := 7) (T := TX7) (N := 24) rfl (by decide) (κ := (KX7_readsFactor D)) (pc := 93) (con_X7_reads _ _ _ _) mth_X7_reads rfl ⟨wd_1116, wp_41⟩ wd_1114 (st0 := []) rfl rfl (by show _ ≤ D + 8; omega) (Nat.le_of_ble_eq_true rfl) dX7_readsFactor_93 (fun _ _ _ h => VX_out rfl (show (0 : Nat) ≠ 10 by decide) h) fun t115 u116 => ?_
    refine V_if_ne (κ := (KX7_readsFactor D)) (pc := 96) (tgt := 101) dX7_readsFactor_96 rfl ?_ ?_
    · refine V_aload_n (κ := (KX7_readsFactor D)) (pc := 101) dX7_readsFactor_101 0 rfl rfl ?_
      refine V_iconst (κ := (KX7_readsFactor D)) (pc := 102) dX7_readsFactor_102 ⟨by decide, by decide⟩ ?_
      refine V_aload_n (κ := (KX7_readsFactor D)) (pc := 103) dX7_readsFactor_103 0 rfl rfl ?_
      refine V_getf 7 (κ := (KX7_readsFactor D)) (pc := 104) rfl (by decide) rfl inX7 17 (by decide) wd_1004 rfl (t := 0) rfl dX7_readsFactor_104 fun t117 => ?_
      refine V_callV (ci := 7) (T := TX7) (N := 24) rfl (by decide) (κ := (KX7_readsFactor D)) (pc := 107) (con_X7_emits _ _ _ _) mth_X7_emits rfl ⟨wd_1158, wp_49⟩ wd_1156 (st0 := []) rfl rfl (by show _ ≤ D + 8; omega) (Nat.le_of_ble_eq_true rfl) dX7_readsFactor_107 (fun _ _ _ h => VX_out rfl (show (0 : Nat) ≠ 10 by decide) h) fun _ u119 => ?_
      refine V_iconst (κ := (KX7_readsFactor D)) (pc := 110) dX7_readsFactor_110 ⟨by decide, by decide⟩ ?_
      exact V_zreturn (κ := (KX7_readsFactor D)) (pc := 111) rfl rfl dX7_readsFactor_111
    refine V_iconst (κ := (KX7_readsFactor D)) (pc := 99) dX7_readsFactor_99 ⟨by decide, by decide⟩ ?_
    exact V_zreturn (κ := (KX7_readsFactor D)) (pc := 100) rfl rfl dX7_readsFactor_100
  refine V_aload_n (κ := (KX7_readsFactor D)) (pc := 9) dX7_readsFactor_9 0 rfl rfl ?_
  refine V_getf 7 (κ := (KX7_readsFactor D)) (pc := 10) rfl (by decide) rfl inX7 20 (by decide) wd_1007 rfl (t := 0) rfl dX7_readsFactor_10 fun t120 => ?_
  refine V_iconst (κ := (KX7_readsFactor D)) (pc := 13) dX7_readsFactor_13 ⟨by decide, by decide⟩ ?_
  refine V_icmp_ne (κ := (KX7_readsFactor D)) (pc := 14) (tgt := 28) dX7_readsFactor_14 rfl ?_ ?_
  · refine V_aload_n (κ := (KX7_readsFactor D)) (pc := 28) dX7_readsFactor_28 0 rfl rfl ?_
    refine V_dup (κ := (KX7_readsFactor D)) (pc := 29) rfl dX7_readsFactor_29 ?_
    refine V_getf 7 (κ := (KX7_readsFactor D)) (pc := 30) rfl (by decide) rfl inX7 20 (by decide) wd_1007 rfl (t := 0) rfl dX7_readsFactor_30 fun t121 => ?_
    refine V_iconst (κ := (KX7_readsFactor D)) (pc := 33) dX7_readsFactor_33 ⟨by decide, by decide⟩ ?_
    refine V_iadd (κ := (KX7_readsFactor D)) (pc := 34) dX7_readsFactor_34 ?_
    refine V_putf 7 (κ := (KX7_readsFactor D)) (pc := 35) rfl (by decide) rfl inX7 tyX7 tyX7_ok nmX7 20 (by decide) wd_1007 rfl rfl (t := 0) rfl rfl dX7_readsFactor_35 fun u122 => ?_
    refine V_aload_n (κ := (KX7_readsFactor D)) (pc := 38) dX7_readsFactor_38 0 rfl rfl ?_
    refine V_dup (κ := (KX7_readsFactor D)) (pc := 39) rfl dX7_readsFactor_39 ?_
    refine V_getf 7 (κ := (KX7_readsFactor D)) (pc := 40) rfl (by decide) rfl inX7 14 (by decide) wd_1001 rfl (t := 0) rfl dX7_readsFactor_40 fun t123 => ?_
    refine V_iconst (κ := (KX7_readsFactor D)) (pc := 43) dX7_readsFactor_43 ⟨by decide, by decide⟩ ?_
    refine V_iadd (κ := (KX7_readsFactor D)) (pc := 44) dX7_readsFactor_44 ?_
    refine V_putf 7 (κ := (KX7_readsFactor D)) (pc := 45) rfl (by decide) rfl inX7 tyX7 tyX7_ok nmX7 14 (by decide) wd_1001 rfl rfl (t := 0) rfl rfl dX7_readsFactor_45 fun u124 => ?_
    refine V_aload_n (κ := (KX7_readsFactor D)) (pc := 48) dX7_readsFactor_48 0 rfl rfl ?_
    refine V_callV (ci := 7) (T := TX7) (N := 24) rfl (by decide) (κ := (KX7_readsFactor D)) (pc := 49) (hrc _ _) mth_X7_readsSum rfl ⟨wd_1146, wp_46⟩ wd_1144 (st0 := []) rfl rfl (by show _ ≤ D + 8; omega) (Nat.le_of_ble_eq_true rfl) dX7_readsFactor_49 (fun _ _ _ h => VX_out rfl (show (0 : Nat) ≠ 10 by decide) h) fun t125 u126 => ?_
    refine V_if_eq (κ := (KX7_readsFactor D)) (pc := 52) (tgt := 64) dX7_readsFactor_52 rfl ?_ ?_
    · refine V_sub (lv' := []) [] rfl ?_
      exact VBX7_readsFactor_64 hrc _
    refine V_aload_n (κ := (KX7_readsFactor D)) (pc := 55) dX7_readsFactor_55 0 rfl rfl ?_
    refine V_bipush (κ := (KX7_readsFactor D)) (pc := 56) dX7_readsFactor_56 ⟨by decide, by decide⟩ (by decide) ?_
    refine V_callV (ci := 7) (T := TX7) (N := 24) rfl (by decide) (κ := (KX7_readsFactor D)) (pc := 58) (con_X7_sign _ _ _) mth_X7_sign rfl ⟨wd_1124, wp_42⟩ wd_1122 (st0 := []) rfl rfl (by show _ ≤ D + 8; omega) (Nat.le_of_ble_eq_true rfl) dX7_readsFactor_58 (fun _ _ _ h => VX_out rfl (show (0 : Nat) ≠ 10 by decide) h) fun t127 u128 => ?_
    refine V_if_ne (κ := (KX7_readsFactor D)) (pc := 61) (tgt := 66) dX7_readsFactor_61 rfl ?_ ?_
    · refine V_aload_n (κ := (KX7_readsFactor D)) (pc := 66) dX7_readsFactor_66 0 rfl rfl ?_
      refine V_dup (κ := (KX7_readsFactor D)) (pc := 67) rfl dX7_readsFactor_67 ?_
      refine V_getf 7 (κ := (KX7_readsFactor D)) (pc := 68) rfl (by decide) rfl inX7 20 (by decide) wd_1007 rfl (t := 0) rfl dX7_readsFactor_68 fun t129 => ?_
      refine V_iconst (κ := (KX7_readsFactor D)) (pc := 71) dX7_readsFactor_71 ⟨by decide, by decide⟩ ?_
      refine V_isub (κ := (KX7_readsFactor D)) (pc := 72) dX7_readsFactor_72 ?_
      refine V_putf 7 (κ := (KX7_readsFactor D)) (pc := 73) rfl (by decide) rfl inX7 tyX7 tyX7_ok nmX7 20 (by decide) wd_1007 rfl rfl (t := 0) rfl rfl dX7_readsFactor_73 fun u130 => ?_
      refine V_iconst (κ := (KX7_readsFactor D)) (pc := 76) dX7_readsFactor_76 ⟨by decide, by decide⟩ ?_
      exact V_zreturn (κ := (KX7_readsFactor D)) (pc := 77) rfl rfl dX7_readsFactor_77
    refine V_sub (lv' := []) [] rfl ?_
    exact VBX7_readsFactor_64 hrc _
  refine V_aload_n (κ := (KX7_readsFactor D)) (pc := 17) dX7_readsFactor_17 0 rfl rfl ?_
  refine V_bipush (κ := (KX7_readsFactor D)) (pc := 18) dX7_readsFactor_18 ⟨by decide, by decide⟩ (by decide) ?_
  refine V_aload_n (κ := (KX7_readsFactor D)) (pc := 20) dX7_readsFactor_20 0 rfl rfl ?_
  refine V_getf 7 (κ := (KX7_readsFactor D)) (pc := 21) rfl (by decide) rfl inX7 14 (by decide) wd_1001 rfl (t := 0) rfl dX7_readsFactor_21 fun t131 => ?_
  refine V_callV (ci := 7) (T := TX7) (N := 24) rfl (by decide) (κ := (KX7_readsFactor D)) (pc := 24) (con_X7_fails _ _ _ _) mth_X7_fails rfl ⟨wd_1112, wp_40⟩ wd_1110 (st0 := []) rfl rfl (by show _ ≤ D + 8; omega) (Nat.le_of_ble_eq_true rfl) dX7_readsFactor_24 (fun _ _ _ h => VX_out rfl (show (0 : Nat) ≠ 10 by decide) h) fun t132 u133 => ?_
  exact V_zreturn (κ := (KX7_readsFactor D)) (pc := 27) rfl rfl dX7_readsFactor_27
theorem con_X7_readsFactor {rc : Int → Mem → Rz} {D : Nat} (hrc : ∀ (b0 : Int) (μ : Mem), Con D yX7_readsSum (.code yX7_readsSum cX7_readsSum 2 (some .boolean)) 0 [(2, b0)] μ (rc b0 μ)) (a0 : Int) (μ : Mem) : Con (D + 8) yX7_readsFactor (.code yX7_readsFactor cX7_readsFactor 2 (some .boolean)) 0 [(2, a0)] μ (FX7_readsFactor rc a0 μ) := Con_intro (KX7_readsFactor D) (plainFor_of_name (by decide)) rfl (fun h => by cases h) (show (0 : Nat) ≠ 10 by decide) rfl (Nat.le_of_ble_eq_true rfl) (fun Γ => VBX7_readsFactor_0 hrc _ _)
abbrev KX7_readsTerm (D : Nat) : Kap := (RX7, cX7_readsTerm, 2, D + 9, 0, (some .boolean), false, [])
theorem VBX7_readsTerm_41 {Γ : Gam} {rc : Int → Mem → Rz} {D : Nat} (hrc : ∀ (b0 : Int) (μ : Mem), Con D yX7_readsSum (.code yX7_readsSum cX7_readsSum 2 (some .boolean)) 0 [(2, b0)] μ (rc b0 μ)) {k9 : Int → Mem → Rz} (hk9 : ∀ (y0 : Int) (ν : Mem), V Γ (KX7_readsTerm D) 9 [(0, (2, y0))] [] ν (k9 y0 ν)) (x0 s0 : Int) (μ : Mem) : V Γ (KX7_readsTerm D) 41 [(0, (2, x0))] [(0, s0)] μ (BX7_readsTerm_41 rc k9 x0 s0 μ) := by
  unfold BX7_readsTerm_41
  refine V_istore_n (κ := (KX7_readsTerm D)) (pc := 41) (lv' := [(1, (0, s0)), (0, (2, x0))]) dX7_readsTerm_41 (show 1 < 2 by decide) rfl ?_
  refine V_aload_n (κ := (KX7_readsTerm D)) (pc := 42) dX7_readsTerm_42 1 rfl rfl ?_
  refine V_dup (κ := (KX7_readsTerm D)) (pc := 43) rfl dX7_readsTerm_43 ?_
  refine V_getf 7 (κ := (KX7_readsTerm D)) (pc := 44) rfl (by decide) rfl inX7 14 (by decide) wd_1001 rfl (t := 0) rfl dX7_readsTerm_44 fun t101 => ?_
  refine V_iconst (κ := (KX7_readsTerm D)) (pc := 47) dX7_readsTerm_47 ⟨by decide, by decide⟩ ?_
  refine V_iadd (κ := (KX7_readsTerm D)) (pc := 48) dX7_readsTerm_48 ?_
  refine V_putf 7 (κ := (KX7_readsTerm D)) (pc := 49) rfl (by decide) rfl inX7 tyX7 tyX7_ok nmX7 14 (by decide) wd_1001 rfl rfl (t := 0) rfl rfl dX7_readsTerm_49 fun u102 => ?_
  refine V_aload_n (κ := (KX7_readsTerm D)) (pc := 52) dX7_readsTerm_52 1 rfl rfl ?_
  refine V_callV (ci := 7) (T := TX7) (N := 24) rfl (by decide) (κ := (KX7_readsTerm D)) (pc := 53) (con_X7_readsFactor hrc _ _) mth_X7_readsFactor rfl ⟨wd_1154, wp_48⟩ wd_1152 (st0 := []) rfl rfl (by show _ ≤ D + 9; omega) (Nat.le_of_ble_eq_true rfl) dX7_readsTerm_53 (fun _ _ _ h => VX_out rfl (show (0 : Nat) ≠ 10 by decide) h) fun t103 u104 => ?_
  refine V_if_ne (κ := (KX7_readsTerm D)) (pc := 56) (tgt := 61) dX7_readsTerm_56 rfl ?_ ?_
  · refine V_aload_n (κ := (KX7_readsTerm D)) (pc := 61) dX7_readsTerm_61 1 rfl rfl ?_
    refine V_iload_n (κ := (KX7_readsTerm D)) (pc := 62) dX7_readsTerm_62 0 rfl ?_
    refine V_iconst (κ := (KX7_readsTerm D)) (pc := 63) dX7_readsTerm_63 ⟨by decide, by decide⟩ ?_
    refine V_callV (ci := 7) (T := TX7) (N := 24) rfl (by decide) (κ := (KX7_readsTerm D)) (pc := 64) (con_X7_emits _ _ _ _) mth_X7_emits rfl ⟨wd_1158, wp_49⟩ wd_1156 (st0 := []) rfl rfl (by show _ ≤ D + 9; omega) (Nat.le_of_ble_eq_true rfl) dX7_readsTerm_64 (fun _ _ _ h => VX_out rfl (show (0 : Nat) ≠ 10 by decide) h) fun _ u106 => ?_
    refine V_goto (κ := (KX7_readsTerm D)) (pc := 67) (tgt := 9) dX7_readsTerm_67 rfl ?_
    refine V_sub (lv' := [(0, (2, x0))]) [1] rfl ?_
    exact hk9 _ _
  refine V_iconst (κ := (KX7_readsTerm D)) (pc := 59) dX7_readsTerm_59 ⟨by decide, by decide⟩ ?_
  exact V_zreturn (κ := (KX7_readsTerm D)) (pc := 60) rfl rfl dX7_readsTerm_60
theorem VBX7_readsTerm_27 {Γ : Gam} {rc : Int → Mem → Rz} {D : Nat} (hrc : ∀ (b0 : Int) (μ : Mem), Con D yX7_readsSum (.code yX7_readsSum cX7_readsSum 2 (some .boolean)) 0 [(2, b0)] μ (rc b0 μ)) {k9 : Int → Mem → Rz} (hk9 : ∀ (y0 : Int) (ν : Mem), V Γ (KX7_readsTerm D) 9 [(0, (2, y0))] [] ν (k9 y0 ν)) (x0 : Int) (μ : Mem) : V Γ (KX7_readsTerm D) 27 [(0, (2, x0))] [] μ (BX7_readsTerm_27 rc k9 x0 μ) := by
  unfold BX7_readsTerm_27
  refine V_aload_n (κ := (KX7_readsTerm D)) (pc := 27) dX7_readsTerm_27 0 rfl rfl ?_
  refine V_callV (ci := 7) (T := TX7) (N := 24) rfl (by decide) (κ := (KX7_readsTerm D)) (pc := 28) (con_X7_here _ _) mth_X7_here rfl ⟨wd_1103, wp_39⟩ wd_1101 (st0 := []) rfl rfl (by show _ ≤ D + 9; omega) (Nat.le_of_ble_eq_true rfl) dX7_readsTerm_28 (fun _ _ _ h => VX_out rfl (show (0 : Nat) ≠ 10 by decide) h) fun t101 u102 => ?_
  refine V_bipush (κ := (KX7_readsTerm D)) (pc := 31) dX7_readsTerm_31 ⟨by decide, by decide⟩ (by decide) ?_
  refine V_icmp_ne (κ := (KX7_readsTerm D)) (pc := 33) (tgt := 40) dX7_readsTerm_33 rfl ?_ ?_
  · refine V_iconst (κ := (KX7_readsTerm D)) (pc := 40) dX7_readsTerm_40 ⟨by decide, by decide⟩ ?_
    exact VBX7_readsTerm_41 hrc hk9 _ _ _
  refine V_iconst (κ := (KX7_readsTerm D)) (pc := 36) dX7_readsTerm_36 ⟨by decide, by decide⟩ ?_
  refine V_goto (κ := (KX7_readsTerm D)) (pc := 37) (tgt := 41) dX7_readsTerm_37 rfl ?_
  exact VBX7_readsTerm_41 hrc hk9 _ _ _
theorem VBX7_readsTerm_9 {Γ : Gam} {rc : Int → Mem → Rz} {D : Nat} (hrc : ∀ (b0 : Int) (μ : Mem), Con D yX7_readsSum (.code yX7_readsSum cX7_readsSum 2 (some .boolean)) 0 [(2, b0)] μ (rc b0 μ)) {k9 : Int → Mem → Rz} (hk9 : ∀ (y0 : Int) (ν : Mem), V Γ (KX7_readsTerm D) 9 [(0, (2, y0))] [] ν (k9 y0 ν)) (x0 : Int) (μ : Mem) : V Γ (KX7_readsTerm D) 9 [(0, (2, x0))] [] μ (BX7_readsTerm_9 rc k9 x0 μ) := by
  unfold BX7_readsTerm_9
  refine V_aload_n (κ := (KX7_readsTerm D)) (pc := 9) dX7_readsTerm_9 0 rfl rfl ?_
  refine V_callV (ci := 7) (T := TX7) (N := 24) rfl (by decide) (κ := (KX7_readsTerm D)) (pc := 10) (con_X7_here _ _) mth_X7_here rfl ⟨wd_1103, wp_39⟩ wd_1101 (st0 := []) rfl rfl (by show _ ≤ D + 9; omega) (Nat.le_of_ble_eq_true rfl) dX7_readsTerm_10 (fun _ _ _ h => VX_out rfl (show (0 : Nat) ≠ 10 by decide) h) fun t101 u102 => ?_
  refine V_bipush (κ := (KX7_readsTerm D)) (pc := 13) dX7_readsTerm_13 ⟨by decide, by decide⟩ (by decide) ?_
  refine V_icmp_eq (κ := (KX7_readsTerm D)) (pc := 15) (tgt := 27) dX7_readsTerm_15 rfl ?_ ?_
  · exact VBX7_readsTerm_27 hrc hk9 _ _
  refine V_aload_n (κ := (KX7_readsTerm D)) (pc := 18) dX7_readsTerm_18 0 rfl rfl ?_
  refine V_callV (ci := 7) (T := TX7) (N := 24) rfl (by decide) (κ := (KX7_readsTerm D)) (pc := 19) (con_X7_here _ _) mth_X7_here rfl ⟨wd_1103, wp_39⟩ wd_1101 (st0 := []) rfl rfl (by show _ ≤ D + 9; omega) (Nat.le_of_ble_eq_true rfl) dX7_readsTerm_19 (fun _ _ _ h => VX_out rfl (show (0 : Nat) ≠ 10 by decide) h) fun t103 u104 => ?_
  refine V_bipush (κ := (KX7_readsTerm D)) (pc := 22) dX7_readsTerm_22 ⟨by decide, by decide⟩ (by decide) ?_
  refine V_icmp_ne (κ := (KX7_readsTerm D)) (pc := 24) (tgt := 70) dX7_readsTerm_24 rfl ?_ ?_
  · refine V_iconst (κ := (KX7_readsTerm D)) (pc := 70) dX7_readsTerm_70 ⟨by decide, by decide⟩ ?_
    exact V_zreturn (κ := (KX7_readsTerm D)) (pc := 71) rfl rfl dX7_readsTerm_71
  exact VBX7_readsTerm_27 hrc hk9 _ _
theorem VLX7_readsTerm_9 {Γ : Gam} {rc : Int → Mem → Rz} {D : Nat} (hrc : ∀ (b0 : Int) (μ : Mem), Con D yX7_readsSum (.code yX7_readsSum cX7_readsSum 2 (some .boolean)) 0 [(2, b0)] μ (rc b0 μ)) : ∀ (n : Nat) (x0 : Int) (μ : Mem), V Γ (KX7_readsTerm D) 9 [(0, (2, x0))] [] μ (LX7_readsTerm_9 rc n x0 μ)
  | 0, _, _ => V_none
  | n + 1, x0, μ => VBX7_readsTerm_9 hrc (fun y0 ν => VLX7_readsTerm_9 hrc n y0 ν) x0 μ
theorem VBX7_readsTerm_0 {Γ : Gam} {rc : Int → Mem → Rz} {D : Nat} (hrc : ∀ (b0 : Int) (μ : Mem), Con D yX7_readsSum (.code yX7_readsSum cX7_readsSum 2 (some .boolean)) 0 [(2, b0)] μ (rc b0 μ)) (x0 : Int) (μ : Mem) : V Γ (KX7_readsTerm D) 0 [(0, (2, x0))] [] μ (BX7_readsTerm_0 rc x0 μ) := by
  unfold BX7_readsTerm_0
  refine V_aload_n (κ := (KX7_readsTerm D)) (pc := 0) dX7_readsTerm_0 0 rfl rfl ?_
  refine V_callV (ci := 7) (T := TX7) (N := 24) rfl (by decide) (κ := (KX7_readsTerm D)) (pc := 1) (con_X7_readsFactor hrc _ _) mth_X7_readsFactor rfl ⟨wd_1154, wp_48⟩ wd_1152 (st0 := []) rfl rfl (by show _ ≤ D + 9; omega) (Nat.le_of_ble_eq_true rfl) dX7_readsTerm_1 (fun _ _ _ h => VX_out rfl (show (0 : Nat) ≠ 10 by decide) h) fun t101 u102 => ?_
  refine V_if_ne (κ := (KX7_readsTerm D)) (pc := 4) (tgt := 9) dX7_readsTerm_4 rfl ?_ ?_
  · exact VLX7_readsTerm_9 hrc FU _ _
  refine V_iconst (κ := (KX7_readsTerm D)) (pc := 7) dX7_readsTerm_7 ⟨by decide, by decide⟩ ?_
  exact V_zreturn (κ := (KX7_readsTerm D)) (pc := 8) rfl rfl dX7_readsTerm_8
theorem con_X7_readsTerm {rc : Int → Mem → Rz} {D : Nat} (hrc : ∀ (b0 : Int) (μ : Mem), Con D yX7_readsSum (.code yX7_readsSum cX7_readsSum 2 (some .boolean)) 0 [(2, b0)] μ (rc b0 μ)) (a0 : Int) (μ : Mem) : Con (D + 9) yX7_readsTerm (.code yX7_readsTerm cX7_readsTerm 2 (some .boolean)) 0 [(2, a0)] μ (FX7_readsTerm rc a0 μ) := Con_intro (KX7_readsTerm D) (plainFor_of_name (by decide)) rfl (fun h => by cases h) (show (0 : Nat) ≠ 10 by decide) rfl (Nat.le_of_ble_eq_true rfl) (fun Γ => VBX7_readsTerm_0 hrc _ _)
abbrev KX7_readsSum (D : Nat) : Kap := (RX7, cX7_readsSum, 2, D + 10, 0, (some .boolean), false, [])
theorem VBX7_readsSum_41 {Γ : Gam} {rc : Int → Mem → Rz} {D : Nat} (hrc : ∀ (b0 : Int) (μ : Mem), Con D yX7_readsSum (.code yX7_readsSum cX7_readsSum 2 (some .boolean)) 0 [(2, b0)] μ (rc b0 μ)) {k9 : Int → Mem → Rz} (hk9 : ∀ (y0 : Int) (ν : Mem), V Γ (KX7_readsSum D) 9 [(0, (2, y0))] [] ν (k9 y0 ν)) (x0 s0 : Int) (μ : Mem) : V Γ (KX7_readsSum D) 41 [(0, (2, x0))] [(0, s0)] μ (BX7_readsSum_41 rc k9 x0 s0 μ) := by
  unfold BX7_readsSum_41
  refine V_istore_n (κ := (KX7_readsSum D)) (pc := 41) (lv' := [(1, (0, s0)), (0, (2, x0))]) dX7_readsSum_41 (show 1 < 2 by decide) rfl ?_
  refine V_aload_n (κ := (KX7_readsSum D)) (pc := 42) dX7_readsSum_42 1 rfl rfl ?_
  refine V_dup (κ := (KX7_readsSum D)) (pc := 43) rfl dX7_readsSum_43 ?_
  refine V_getf 7 (κ := (KX7_readsSum D)) (pc := 44) rfl (by decide) rfl inX7 14 (by decide) wd_1001 rfl (t := 0) rfl dX7_readsSum_44 fun t101 => ?_
  refine V_iconst (κ := (KX7_readsSum D)) (pc := 47) dX7_readsSum_47 ⟨by decide, by decide⟩ ?_
  refine V_iadd (κ := (KX7_readsSum D)) (pc := 48) dX7_readsSum_48 ?_
  refine V_putf 7 (κ := (KX7_readsSum D)) (pc := 49) rfl (by decide) rfl inX7 tyX7 tyX7_ok nmX7 14 (by decide) wd_1001 rfl rfl (t := 0) rfl rfl dX7_readsSum_49 fun u102 => ?_
  refine V_aload_n (κ := (KX7_readsSum D)) (pc := 52) dX7_readsSum_52 1 rfl rfl ?_
  refine V_callV (ci := 7) (T := TX7) (N := 24) rfl (by decide) (κ := (KX7_readsSum D)) (pc := 53) (con_X7_readsTerm hrc _ _) mth_X7_readsTerm rfl ⟨wd_1150, wp_47⟩ wd_1148 (st0 := []) rfl rfl (by show _ ≤ D + 10; omega) (Nat.le_of_ble_eq_true rfl) dX7_readsSum_53 (fun _ _ _ h => VX_out rfl (show (0 : Nat) ≠ 10 by decide) h) fun t103 u104 => ?_
  refine V_if_ne (κ := (KX7_readsSum D)) (pc := 56) (tgt := 61) dX7_readsSum_56 rfl ?_ ?_
  · refine V_aload_n (κ := (KX7_readsSum D)) (pc := 61) dX7_readsSum_61 1 rfl rfl ?_
    refine V_iload_n (κ := (KX7_readsSum D)) (pc := 62) dX7_readsSum_62 0 rfl ?_
    refine V_iconst (κ := (KX7_readsSum D)) (pc := 63) dX7_readsSum_63 ⟨by decide, by decide⟩ ?_
    refine V_callV (ci := 7) (T := TX7) (N := 24) rfl (by decide) (κ := (KX7_readsSum D)) (pc := 64) (con_X7_emits _ _ _ _) mth_X7_emits rfl ⟨wd_1158, wp_49⟩ wd_1156 (st0 := []) rfl rfl (by show _ ≤ D + 10; omega) (Nat.le_of_ble_eq_true rfl) dX7_readsSum_64 (fun _ _ _ h => VX_out rfl (show (0 : Nat) ≠ 10 by decide) h) fun _ u106 => ?_
    refine V_goto (κ := (KX7_readsSum D)) (pc := 67) (tgt := 9) dX7_readsSum_67 rfl ?_
    refine V_sub (lv' := [(0, (2, x0))]) [1] rfl ?_
    exact hk9 _ _
  refine V_iconst (κ := (KX7_readsSum D)) (pc := 59) dX7_readsSum_59 ⟨by decide, by decide⟩ ?_
  exact V_zreturn (κ := (KX7_readsSum D)) (pc := 60) rfl rfl dX7_readsSum_60
theorem VBX7_readsSum_27 {Γ : Gam} {rc : Int → Mem → Rz} {D : Nat} (hrc : ∀ (b0 : Int) (μ : Mem), Con D yX7_readsSum (.code yX7_readsSum cX7_readsSum 2 (some .boolean)) 0 [(2, b0)] μ (rc b0 μ)) {k9 : Int → Mem → Rz} (hk9 : ∀ (y0 : Int) (ν : Mem), V Γ (KX7_readsSum D) 9 [(0, (2, y0))] [] ν (k9 y0 ν)) (x0 : Int) (μ : Mem) : V Γ (KX7_readsSum D) 27 [(0, (2, x0))] [] μ (BX7_readsSum_27 rc k9 x0 μ) := by
  unfold BX7_readsSum_27
  refine V_aload_n (κ := (KX7_readsSum D)) (pc := 27) dX7_readsSum_27 0 rfl rfl ?_
  refine V_callV (ci := 7) (T := TX7) (N := 24) rfl (by decide) (κ := (KX7_readsSum D)) (pc := 28) (con_X7_here _ _) mth_X7_here rfl ⟨wd_1103, wp_39⟩ wd_1101 (st0 := []) rfl rfl (by show _ ≤ D + 10; omega) (Nat.le_of_ble_eq_true rfl) dX7_readsSum_28 (fun _ _ _ h => VX_out rfl (show (0 : Nat) ≠ 10 by decide) h) fun t101 u102 => ?_
  refine V_bipush (κ := (KX7_readsSum D)) (pc := 31) dX7_readsSum_31 ⟨by decide, by decide⟩ (by decide) ?_
  refine V_icmp_ne (κ := (KX7_readsSum D)) (pc := 33) (tgt := 40) dX7_readsSum_33 rfl ?_ ?_
  · refine V_iconst (κ := (KX7_readsSum D)) (pc := 40) dX7_readsSum_40 ⟨by decide, by decide⟩ ?_
    exact VBX7_readsSum_41 hrc hk9 _ _ _
  refine V_iconst (κ := (KX7_readsSum D)) (pc := 36) dX7_readsSum_36 ⟨by decide, by decide⟩ ?_
  refine V_goto (κ := (KX7_readsSum D)) (pc := 37) (tgt := 41) dX7_readsSum_37 rfl ?_
  exact VBX7_readsSum_41 hrc hk9 _ _ _
theorem VBX7_readsSum_9 {Γ : Gam} {rc : Int → Mem → Rz} {D : Nat} (hrc : ∀ (b0 : Int) (μ : Mem), Con D yX7_readsSum (.code yX7_readsSum cX7_readsSum 2 (some .boolean)) 0 [(2, b0)] μ (rc b0 μ)) {k9 : Int → Mem → Rz} (hk9 : ∀ (y0 : Int) (ν : Mem), V Γ (KX7_readsSum D) 9 [(0, (2, y0))] [] ν (k9 y0 ν)) (x0 : Int) (μ : Mem) : V Γ (KX7_readsSum D) 9 [(0, (2, x0))] [] μ (BX7_readsSum_9 rc k9 x0 μ) := by
  unfold BX7_readsSum_9
  refine V_aload_n (κ := (KX7_readsSum D)) (pc := 9) dX7_readsSum_9 0 rfl rfl ?_
  refine V_callV (ci := 7) (T := TX7) (N := 24) rfl (by decide) (κ := (KX7_readsSum D)) (pc := 10) (con_X7_here _ _) mth_X7_here rfl ⟨wd_1103, wp_39⟩ wd_1101 (st0 := []) rfl rfl (by show _ ≤ D + 10; omega) (Nat.le_of_ble_eq_true rfl) dX7_readsSum_10 (fun _ _ _ h => VX_out rfl (show (0 : Nat) ≠ 10 by decide) h) fun t101 u102 => ?_
  refine V_bipush (κ := (KX7_readsSum D)) (pc := 13) dX7_readsSum_13 ⟨by decide, by decide⟩ (by decide) ?_
  refine V_icmp_eq (κ := (KX7_readsSum D)) (pc := 15) (tgt := 27) dX7_readsSum_15 rfl ?_ ?_
  · exact VBX7_readsSum_27 hrc hk9 _ _
  refine V_aload_n (κ := (KX7_readsSum D)) (pc := 18) dX7_readsSum_18 0 rfl rfl ?_
  refine V_callV (ci := 7) (T := TX7) (N := 24) rfl (by decide) (κ := (KX7_readsSum D)) (pc := 19) (con_X7_here _ _) mth_X7_here rfl ⟨wd_1103, wp_39⟩ wd_1101 (st0 := []) rfl rfl (by show _ ≤ D + 10; omega) (Nat.le_of_ble_eq_true rfl) dX7_readsSum_19 (fun _ _ _ h => VX_out rfl (show (0 : Nat) ≠ 10 by decide) h) fun t103 u104 => ?_
  refine V_bipush (κ := (KX7_readsSum D)) (pc := 22) dX7_readsSum_22 ⟨by decide, by decide⟩ (by decide) ?_
  refine V_icmp_ne (κ := (KX7_readsSum D)) (pc := 24) (tgt := 70) dX7_readsSum_24 rfl ?_ ?_
  · refine V_iconst (κ := (KX7_readsSum D)) (pc := 70) dX7_readsSum_70 ⟨by decide, by decide⟩ ?_
    exact V_zreturn (κ := (KX7_readsSum D)) (pc := 71) rfl rfl dX7_readsSum_71
  exact VBX7_readsSum_27 hrc hk9 _ _
theorem VLX7_readsSum_9 {Γ : Gam} {rc : Int → Mem → Rz} {D : Nat} (hrc : ∀ (b0 : Int) (μ : Mem), Con D yX7_readsSum (.code yX7_readsSum cX7_readsSum 2 (some .boolean)) 0 [(2, b0)] μ (rc b0 μ)) : ∀ (n : Nat) (x0 : Int) (μ : Mem), V Γ (KX7_readsSum D) 9 [(0, (2, x0))] [] μ (LX7_readsSum_9 rc n x0 μ)
  | 0, _, _ => V_none
  | n + 1, x0, μ => VBX7_readsSum_9 hrc (fun y0 ν => VLX7_readsSum_9 hrc n y0 ν) x0 μ
theorem VBX7_readsSum_0 {Γ : Gam} {rc : Int → Mem → Rz} {D : Nat} (hrc : ∀ (b0 : Int) (μ : Mem), Con D yX7_readsSum (.code yX7_readsSum cX7_readsSum 2 (some .boolean)) 0 [(2, b0)] μ (rc b0 μ)) (x0 : Int) (μ : Mem) : V Γ (KX7_readsSum D) 0 [(0, (2, x0))] [] μ (BX7_readsSum_0 rc x0 μ) := by
  unfold BX7_readsSum_0
  refine V_aload_n (κ := (KX7_readsSum D)) (pc := 0) dX7_readsSum_0 0 rfl rfl ?_
  refine V_callV (ci := 7) (T := TX7) (N := 24) rfl (by decide) (κ := (KX7_readsSum D)) (pc := 1) (con_X7_readsTerm hrc _ _) mth_X7_readsTerm rfl ⟨wd_1150, wp_47⟩ wd_1148 (st0 := []) rfl rfl (by show _ ≤ D + 10; omega) (Nat.le_of_ble_eq_true rfl) dX7_readsSum_1 (fun _ _ _ h => VX_out rfl (show (0 : Nat) ≠ 10 by decide) h) fun t101 u102 => ?_
  refine V_if_ne (κ := (KX7_readsSum D)) (pc := 4) (tgt := 9) dX7_readsSum_4 rfl ?_ ?_
  · exact VLX7_readsSum_9 hrc FU _ _
  refine V_iconst (κ := (KX7_readsSum D)) (pc := 7) dX7_readsSum_7 ⟨by decide, by decide⟩ ?_
  exact V_zreturn (κ := (KX7_readsSum D)) (pc := 8) rfl rfl dX7_readsSum_8
theorem con_X7_readsSum {rc : Int → Mem → Rz} {D : Nat} (hrc : ∀ (b0 : Int) (μ : Mem), Con D yX7_readsSum (.code yX7_readsSum cX7_readsSum 2 (some .boolean)) 0 [(2, b0)] μ (rc b0 μ)) (a0 : Int) (μ : Mem) : Con (D + 10) yX7_readsSum (.code yX7_readsSum cX7_readsSum 2 (some .boolean)) 0 [(2, a0)] μ (FX7_readsSum rc a0 μ) := Con_intro (KX7_readsSum D) (plainFor_of_name (by decide)) rfl (fun h => by cases h) (show (0 : Nat) ≠ 10 by decide) rfl (Nat.le_of_ble_eq_true rfl) (fun Γ => VBX7_readsSum_0 hrc _ _)
theorem conR_X7_readsSum : ∀ (n : Nat) (a0 : Int) (μ : Mem), Con (10 * n) yX7_readsSum (.code yX7_readsSum cX7_readsSum 2 (some .boolean)) 0 [(2, a0)] μ (RX7_readsSum n a0 μ)
  | 0, _, _ => Con_none
  | n + 1, a0, μ => con_X7_readsSum (D := 10 * n) (fun b0 ν => conR_X7_readsSum n b0 ν) a0 μ
theorem conT_X7_readsSum (a0 : Int) (μ : Mem) : Con 70 yX7_readsSum (.code yX7_readsSum cX7_readsSum 2 (some .boolean)) 0 [(2, a0)] μ (TX7_readsSum a0 μ) := conR_X7_readsSum 7 a0 μ
abbrev KX7_readsPlate : Kap := (RX7, cX7_readsPlate, 5, 71, 0, (some .boolean), false, [])
theorem VBX7_readsPlate_355 {Γ : Gam} (x0 : Int) (μ : Mem) : V Γ KX7_readsPlate 355 [(0, (2, x0))] [] μ (BX7_readsPlate_355 x0 μ) := by
  unfold BX7_readsPlate_355
  refine V_aload_n (κ := KX7_readsPlate) (pc := 355) dX7_readsPlate_355 0 rfl rfl ?_
  refine V_getf 7 (κ := KX7_readsPlate) (pc := 356) rfl (by decide) rfl inX7 2 (by decide) wd_989 rfl (t := 2) rfl dX7_readsPlate_356 fun t101 => ?_
  refine V_iconst (κ := KX7_readsPlate) (pc := 359) dX7_readsPlate_359 ⟨by decide, by decide⟩ ?_
  refine V_dup2 (κ := KX7_readsPlate) (pc := 360) rfl rfl dX7_readsPlate_360 ?_
  refine V_iaload (κ := KX7_readsPlate) (pc := 361) dX7_readsPlate_361 fun t102 => ?_
  refine V_iconst (κ := KX7_readsPlate) (pc := 362) dX7_readsPlate_362 ⟨by decide, by decide⟩ ?_
  refine V_iadd (κ := KX7_readsPlate) (pc := 363) dX7_readsPlate_363 ?_
  refine V_iastore (κ := KX7_readsPlate) (pc := 364) dX7_readsPlate_364 fun u103 => ?_
  refine V_iconst (κ := KX7_readsPlate) (pc := 365) dX7_readsPlate_365 ⟨by decide, by decide⟩ ?_
  exact V_zreturn (κ := KX7_readsPlate) (pc := 366) rfl rfl dX7_readsPlate_366
theorem VBX7_readsPlate_290 {Γ : Gam} (x0 x3 s0 : Int) (μ : Mem) : V Γ KX7_readsPlate 290 [(0, (2, x0)), (3, (0, x3))] [(0, s0)] μ (BX7_readsPlate_290 x0 x3 s0 μ) := by
  unfold BX7_readsPlate_290
  refine V_istore (κ := KX7_readsPlate) (pc := 290) (lv' := [(4, (0, s0)), (0, (2, x0)), (3, (0, x3))]) dX7_readsPlate_290 (by decide) rfl ?_
  refine V_iload (κ := KX7_readsPlate) (pc := 292) dX7_readsPlate_292 0 rfl ?_
  refine V_iconst (κ := KX7_readsPlate) (pc := 294) dX7_readsPlate_294 ⟨by decide, by decide⟩ ?_
  refine V_icmp_ne (κ := KX7_readsPlate) (pc := 295) (tgt := 309) dX7_readsPlate_295 rfl ?_ ?_
  · refine V_aload_n (κ := KX7_readsPlate) (pc := 309) dX7_readsPlate_309 1 rfl rfl ?_
    refine V_getf 7 (κ := KX7_readsPlate) (pc := 310) rfl (by decide) rfl inX7 2 (by decide) wd_989 rfl (t := 2) rfl dX7_readsPlate_310 fun t101 => ?_
    refine V_iload_n (κ := KX7_readsPlate) (pc := 313) dX7_readsPlate_313 2 rfl ?_
    refine V_bipush (κ := KX7_readsPlate) (pc := 314) dX7_readsPlate_314 ⟨by decide, by decide⟩ (by decide) ?_
    refine V_iadd (κ := KX7_readsPlate) (pc := 316) dX7_readsPlate_316 ?_
    refine V_iload (κ := KX7_readsPlate) (pc := 317) dX7_readsPlate_317 0 rfl ?_
    refine V_iastore (κ := KX7_readsPlate) (pc := 319) dX7_readsPlate_319 fun u102 => ?_
    refine V_aload_n (κ := KX7_readsPlate) (pc := 320) dX7_readsPlate_320 1 rfl rfl ?_
    refine V_getf 7 (κ := KX7_readsPlate) (pc := 321) rfl (by decide) rfl inX7 2 (by decide) wd_989 rfl (t := 2) rfl dX7_readsPlate_321 fun t103 => ?_
    refine V_iload_n (κ := KX7_readsPlate) (pc := 324) dX7_readsPlate_324 2 rfl ?_
    refine V_bipush (κ := KX7_readsPlate) (pc := 325) dX7_readsPlate_325 ⟨by decide, by decide⟩ (by decide) ?_
    refine V_iadd (κ := KX7_readsPlate) (pc := 327) dX7_readsPlate_327 ?_
    refine V_sipush (κ := KX7_readsPlate) (pc := 328) dX7_readsPlate_328 ⟨by decide, by decide⟩ (by decide) ?_
    refine V_iastore (κ := KX7_readsPlate) (pc := 331) dX7_readsPlate_331 fun u104 => ?_
    refine V_aload_n (κ := KX7_readsPlate) (pc := 332) dX7_readsPlate_332 1 rfl rfl ?_
    refine V_iconst (κ := KX7_readsPlate) (pc := 333) dX7_readsPlate_333 ⟨by decide, by decide⟩ ?_
    refine V_putf 7 (κ := KX7_readsPlate) (pc := 334) rfl (by decide) rfl inX7 tyX7 tyX7_ok nmX7 20 (by decide) wd_1007 rfl rfl (t := 0) rfl rfl dX7_readsPlate_334 fun u105 => ?_
    refine V_aload_n (κ := KX7_readsPlate) (pc := 337) dX7_readsPlate_337 1 rfl rfl ?_
    refine V_ldcs (κ := KX7_readsPlate) (pc := 338) (tx := "curve") (w := 5) (show (RX7, 242, "curve", 5) ∈ wrds by decide) dX7_readsPlate_338 (by decide) ?_
    refine V_callV (ci := 7) (T := TX7) (N := 24) rfl (by decide) (κ := KX7_readsPlate) (pc := 340) (con_X7_takes _ _ _) mth_X7_takes rfl ⟨wd_1095, wp_37⟩ wd_1093 (st0 := []) rfl rfl (by decide) (Nat.le_of_ble_eq_true rfl) dX7_readsPlate_340 (fun _ _ _ h => VX_out rfl (by decide) h) fun t106 u107 => ?_
    refine V_if_eq (κ := KX7_readsPlate) (pc := 343) (tgt := 355) dX7_readsPlate_343 rfl ?_ ?_
    · refine V_sub (lv' := [(0, (2, x0))]) [1] rfl ?_
      exact VBX7_readsPlate_355 _ _
    refine V_aload_n (κ := KX7_readsPlate) (pc := 346) dX7_readsPlate_346 1 rfl rfl ?_
    refine V_callV (ci := 7) (T := TX7) (N := 24) rfl (by decide) (κ := KX7_readsPlate) (pc := 347) (conT_X7_readsSum _ _) mth_X7_readsSum rfl ⟨wd_1146, wp_46⟩ wd_1144 (st0 := []) rfl rfl (by decide) (Nat.le_of_ble_eq_true rfl) dX7_readsPlate_347 (fun _ _ _ h => VX_out rfl (by decide) h) fun t108 u109 => ?_
    refine V_if_ne (κ := KX7_readsPlate) (pc := 350) (tgt := 355) dX7_readsPlate_350 rfl ?_ ?_
    · refine V_sub (lv' := [(0, (2, x0))]) [1] rfl ?_
      exact VBX7_readsPlate_355 _ _
    refine V_iconst (κ := KX7_readsPlate) (pc := 353) dX7_readsPlate_353 ⟨by decide, by decide⟩ ?_
    exact V_zreturn (κ := KX7_readsPlate) (pc := 354) rfl rfl dX7_readsPlate_354
  refine V_aload_n (κ := KX7_readsPlate) (pc := 298) dX7_readsPlate_298 1 rfl rfl ?_
  refine V_bipush (κ := KX7_readsPlate) (pc := 299) dX7_readsPlate_299 ⟨by decide, by decide⟩ (by decide) ?_
  refine V_aload_n (κ := KX7_readsPlate) (pc := 301) dX7_readsPlate_301 1 rfl rfl ?_
  refine V_getf 7 (κ := KX7_readsPlate) (pc := 302) rfl (by decide) rfl inX7 14 (by decide) wd_1001 rfl (t := 0) rfl dX7_readsPlate_302 fun t110 => ?_
  refine V_callV (ci := 7) (T := TX7) (N := 24) rfl (by decide) (κ := KX7_readsPlate) (pc := 305) (con_X7_fails _ _ _ _) mth_X7_fails rfl ⟨wd_1112, wp_40⟩ wd_1110 (st0 := []) rfl rfl (by decide) (Nat.le_of_ble_eq_true rfl) dX7_readsPlate_305 (fun _ _ _ h => VX_out rfl (by decide) h) fun t111 u112 => ?_
  exact V_zreturn (κ := KX7_readsPlate) (pc := 308) rfl rfl dX7_readsPlate_308
theorem VBX7_readsPlate_224 {Γ : Gam} (x0 x3 : Int) (μ : Mem) : V Γ KX7_readsPlate 224 [(0, (2, x0)), (3, (0, x3))] [] μ (BX7_readsPlate_224 x0 x3 μ) := by
  unfold BX7_readsPlate_224
  refine V_aload_n (κ := KX7_readsPlate) (pc := 224) dX7_readsPlate_224 0 rfl rfl ?_
  refine V_getf 7 (κ := KX7_readsPlate) (pc := 225) rfl (by decide) rfl inX7 2 (by decide) wd_989 rfl (t := 2) rfl dX7_readsPlate_225 fun t101 => ?_
  refine V_iload_n (κ := KX7_readsPlate) (pc := 228) dX7_readsPlate_228 1 rfl ?_
  refine V_bipush (κ := KX7_readsPlate) (pc := 229) dX7_readsPlate_229 ⟨by decide, by decide⟩ (by decide) ?_
  refine V_iadd (κ := KX7_readsPlate) (pc := 231) dX7_readsPlate_231 ?_
  refine V_aload_n (κ := KX7_readsPlate) (pc := 232) dX7_readsPlate_232 0 rfl rfl ?_
  refine V_getf 7 (κ := KX7_readsPlate) (pc := 233) rfl (by decide) rfl inX7 17 (by decide) wd_1004 rfl (t := 0) rfl dX7_readsPlate_233 fun t102 => ?_
  refine V_iastore (κ := KX7_readsPlate) (pc := 236) dX7_readsPlate_236 fun u103 => ?_
  refine V_aload_n (κ := KX7_readsPlate) (pc := 237) dX7_readsPlate_237 0 rfl rfl ?_
  refine V_ldcs (κ := KX7_readsPlate) (pc := 238) (tx := "round") (w := 9) (show (RX7, 234, "round", 9) ∈ wrds by decide) dX7_readsPlate_238 (by decide) ?_
  refine V_callV (ci := 7) (T := TX7) (N := 24) rfl (by decide) (κ := KX7_readsPlate) (pc := 240) (con_X7_takes _ _ _) mth_X7_takes rfl ⟨wd_1095, wp_37⟩ wd_1093 (st0 := []) rfl rfl (by decide) (Nat.le_of_ble_eq_true rfl) dX7_readsPlate_240 (fun _ _ _ h => VX_out rfl (by decide) h) fun t104 u105 => ?_
  refine V_if_eq (κ := KX7_readsPlate) (pc := 243) (tgt := 250) dX7_readsPlate_243 rfl ?_ ?_
  · refine V_aload_n (κ := KX7_readsPlate) (pc := 250) dX7_readsPlate_250 0 rfl rfl ?_
    refine V_ldcs (κ := KX7_readsPlate) (pc := 251) (tx := "line") (w := 10) (show (RX7, 236, "line", 10) ∈ wrds by decide) dX7_readsPlate_251 (by decide) ?_
    refine V_callV (ci := 7) (T := TX7) (N := 24) rfl (by decide) (κ := KX7_readsPlate) (pc := 253) (con_X7_takes _ _ _) mth_X7_takes rfl ⟨wd_1095, wp_37⟩ wd_1093 (st0 := []) rfl rfl (by decide) (Nat.le_of_ble_eq_true rfl) dX7_readsPlate_253 (fun _ _ _ h => VX_out rfl (by decide) h) fun t106 u107 => ?_
    refine V_if_eq (κ := KX7_readsPlate) (pc := 256) (tgt := 263) dX7_readsPlate_256 rfl ?_ ?_
    · refine V_aload_n (κ := KX7_readsPlate) (pc := 263) dX7_readsPlate_263 0 rfl rfl ?_
      refine V_ldcs (κ := KX7_readsPlate) (pc := 264) (tx := "diamond") (w := 11) (show (RX7, 238, "diamond", 11) ∈ wrds by decide) dX7_readsPlate_264 (by decide) ?_
      refine V_callV (ci := 7) (T := TX7) (N := 24) rfl (by decide) (κ := KX7_readsPlate) (pc := 266) (con_X7_takes _ _ _) mth_X7_takes rfl ⟨wd_1095, wp_37⟩ wd_1093 (st0 := []) rfl rfl (by decide) (Nat.le_of_ble_eq_true rfl) dX7_readsPlate_266 (fun _ _ _ h => VX_out rfl (by decide) h) fun t108 u109 => ?_
      refine V_if_eq (κ := KX7_readsPlate) (pc := 269) (tgt := 276) dX7_readsPlate_269 rfl ?_ ?_
      · refine V_aload_n (κ := KX7_readsPlate) (pc := 276) dX7_readsPlate_276 0 rfl rfl ?_
        refine V_ldcs (κ := KX7_readsPlate) (pc := 277) (tx := "square") (w := 12) (show (RX7, 240, "square", 12) ∈ wrds by decide) dX7_readsPlate_277 (by decide) ?_
        refine V_callV (ci := 7) (T := TX7) (N := 24) rfl (by decide) (κ := KX7_readsPlate) (pc := 279) (con_X7_takes _ _ _) mth_X7_takes rfl ⟨wd_1095, wp_37⟩ wd_1093 (st0 := []) rfl rfl (by decide) (Nat.le_of_ble_eq_true rfl) dX7_readsPlate_279 (fun _ _ _ h => VX_out rfl (by decide) h) fun t110 u111 => ?_
        refine V_if_eq (κ := KX7_readsPlate) (pc := 282) (tgt := 289) dX7_readsPlate_282 rfl ?_ ?_
        · refine V_iconst (κ := KX7_readsPlate) (pc := 289) dX7_readsPlate_289 ⟨by decide, by decide⟩ ?_
          exact VBX7_readsPlate_290 _ _ _ _
        refine V_iconst (κ := KX7_readsPlate) (pc := 285) dX7_readsPlate_285 ⟨by decide, by decide⟩ ?_
        refine V_goto (κ := KX7_readsPlate) (pc := 286) (tgt := 290) dX7_readsPlate_286 rfl ?_
        exact VBX7_readsPlate_290 _ _ _ _
      refine V_iconst (κ := KX7_readsPlate) (pc := 272) dX7_readsPlate_272 ⟨by decide, by decide⟩ ?_
      refine V_goto (κ := KX7_readsPlate) (pc := 273) (tgt := 290) dX7_readsPlate_273 rfl ?_
      exact VBX7_readsPlate_290 _ _ _ _
    refine V_iconst (κ := KX7_readsPlate) (pc := 259) dX7_readsPlate_259 ⟨by decide, by decide⟩ ?_
    refine V_goto (κ := KX7_readsPlate) (pc := 260) (tgt := 290) dX7_readsPlate_260 rfl ?_
    exact VBX7_readsPlate_290 _ _ _ _
  refine V_iconst (κ := KX7_readsPlate) (pc := 246) dX7_readsPlate_246 ⟨by decide, by decide⟩ ?_
  refine V_goto (κ := KX7_readsPlate) (pc := 247) (tgt := 290) dX7_readsPlate_247 rfl ?_
  exact VBX7_readsPlate_290 _ _ _ _
theorem VBX7_readsPlate_114 {Γ : Gam} {k114 : Int → Int → Int → Int → Mem → Rz} (hk114 : ∀ (y0 y2 y3 y4 : Int) (ν : Mem), V Γ KX7_readsPlate 114 [(0, (2, y0)), (2, (0, y2)), (3, (0, y3)), (4, (0, y4))] [] ν (k114 y0 y2 y3 y4 ν)) (x0 x2 x3 x4 : Int) (μ : Mem) : V Γ KX7_readsPlate 114 [(0, (2, x0)), (2, (0, x2)), (3, (0, x3)), (4, (0, x4))] [] μ (BX7_readsPlate_114 k114 x0 x2 x3 x4 μ) := by
  unfold BX7_readsPlate_114
  refine V_iload (κ := KX7_readsPlate) (pc := 114) dX7_readsPlate_114 3 rfl ?_
  refine V_iload_n (κ := KX7_readsPlate) (pc := 116) dX7_readsPlate_116 1 rfl ?_
  refine V_icmp_ge (κ := KX7_readsPlate) (pc := 117) (tgt := 149) dX7_readsPlate_117 rfl ?_ ?_
  · refine V_aload_n (κ := KX7_readsPlate) (pc := 149) dX7_readsPlate_149 0 rfl rfl ?_
    refine V_dup (κ := KX7_readsPlate) (pc := 150) rfl dX7_readsPlate_150 ?_
    refine V_getf 7 (κ := KX7_readsPlate) (pc := 151) rfl (by decide) rfl inX7 14 (by decide) wd_1001 rfl (t := 0) rfl dX7_readsPlate_151 fun t101 => ?_
    refine V_iload_n (κ := KX7_readsPlate) (pc := 154) dX7_readsPlate_154 1 rfl ?_
    refine V_iadd (κ := KX7_readsPlate) (pc := 155) dX7_readsPlate_155 ?_
    refine V_putf 7 (κ := KX7_readsPlate) (pc := 156) rfl (by decide) rfl inX7 tyX7 tyX7_ok nmX7 14 (by decide) wd_1001 rfl rfl (t := 0) rfl rfl dX7_readsPlate_156 fun u102 => ?_
    refine V_aload_n (κ := KX7_readsPlate) (pc := 159) dX7_readsPlate_159 0 rfl rfl ?_
    refine V_iconst (κ := KX7_readsPlate) (pc := 160) dX7_readsPlate_160 ⟨by decide, by decide⟩ ?_
    refine V_iconst (κ := KX7_readsPlate) (pc := 161) dX7_readsPlate_161 ⟨by decide, by decide⟩ ?_
    refine V_callV (ci := 7) (T := TX7) (N := 24) rfl (by decide) (κ := KX7_readsPlate) (pc := 162) (con_X7_reads _ _ _ _) mth_X7_reads rfl ⟨wd_1116, wp_41⟩ wd_1114 (st0 := []) rfl rfl (by decide) (Nat.le_of_ble_eq_true rfl) dX7_readsPlate_162 (fun _ _ _ h => VX_out rfl (by decide) h) fun t103 u104 => ?_
    refine V_if_ne (κ := KX7_readsPlate) (pc := 165) (tgt := 170) dX7_readsPlate_165 rfl ?_ ?_
    · refine V_aload_n (κ := KX7_readsPlate) (pc := 170) dX7_readsPlate_170 0 rfl rfl ?_
      refine V_getf 7 (κ := KX7_readsPlate) (pc := 171) rfl (by decide) rfl inX7 2 (by decide) wd_989 rfl (t := 2) rfl dX7_readsPlate_171 fun t105 => ?_
      refine V_iload_n (κ := KX7_readsPlate) (pc := 174) dX7_readsPlate_174 2 rfl ?_
      refine V_bipush (κ := KX7_readsPlate) (pc := 175) dX7_readsPlate_175 ⟨by decide, by decide⟩ (by decide) ?_
      refine V_iadd (κ := KX7_readsPlate) (pc := 177) dX7_readsPlate_177 ?_
      refine V_aload_n (κ := KX7_readsPlate) (pc := 178) dX7_readsPlate_178 0 rfl rfl ?_
      refine V_getf 7 (κ := KX7_readsPlate) (pc := 179) rfl (by decide) rfl inX7 17 (by decide) wd_1004 rfl (t := 0) rfl dX7_readsPlate_179 fun t106 => ?_
      refine V_iastore (κ := KX7_readsPlate) (pc := 182) dX7_readsPlate_182 fun u107 => ?_
      refine V_aload_n (κ := KX7_readsPlate) (pc := 183) dX7_readsPlate_183 0 rfl rfl ?_
      refine V_iconst (κ := KX7_readsPlate) (pc := 184) dX7_readsPlate_184 ⟨by decide, by decide⟩ ?_
      refine V_iconst (κ := KX7_readsPlate) (pc := 185) dX7_readsPlate_185 ⟨by decide, by decide⟩ ?_
      refine V_callV (ci := 7) (T := TX7) (N := 24) rfl (by decide) (κ := KX7_readsPlate) (pc := 186) (con_X7_reads _ _ _ _) mth_X7_reads rfl ⟨wd_1116, wp_41⟩ wd_1114 (st0 := []) rfl rfl (by decide) (Nat.le_of_ble_eq_true rfl) dX7_readsPlate_186 (fun _ _ _ h => VX_out rfl (by decide) h) fun t108 u109 => ?_
      refine V_if_ne (κ := KX7_readsPlate) (pc := 189) (tgt := 194) dX7_readsPlate_189 rfl ?_ ?_
      · refine V_aload_n (κ := KX7_readsPlate) (pc := 194) dX7_readsPlate_194 0 rfl rfl ?_
        refine V_getf 7 (κ := KX7_readsPlate) (pc := 195) rfl (by decide) rfl inX7 17 (by decide) wd_1004 rfl (t := 0) rfl dX7_readsPlate_195 fun t110 => ?_
        refine V_if_ne (κ := KX7_readsPlate) (pc := 198) (tgt := 224) dX7_readsPlate_198 rfl ?_ ?_
        · refine V_sub (lv' := [(0, (2, x0)), (3, (0, x3))]) [0, 2] rfl ?_
          exact VBX7_readsPlate_224 _ _ _
        refine V_aload_n (κ := KX7_readsPlate) (pc := 201) dX7_readsPlate_201 0 rfl rfl ?_
        refine V_getf 7 (κ := KX7_readsPlate) (pc := 202) rfl (by decide) rfl inX7 2 (by decide) wd_989 rfl (t := 2) rfl dX7_readsPlate_202 fun t111 => ?_
        refine V_iload_n (κ := KX7_readsPlate) (pc := 205) dX7_readsPlate_205 2 rfl ?_
        refine V_bipush (κ := KX7_readsPlate) (pc := 206) dX7_readsPlate_206 ⟨by decide, by decide⟩ (by decide) ?_
        refine V_iadd (κ := KX7_readsPlate) (pc := 208) dX7_readsPlate_208 ?_
        refine V_iaload (κ := KX7_readsPlate) (pc := 209) dX7_readsPlate_209 fun t112 => ?_
        refine V_if_ne (κ := KX7_readsPlate) (pc := 210) (tgt := 224) dX7_readsPlate_210 rfl ?_ ?_
        · refine V_sub (lv' := [(0, (2, x0)), (3, (0, x3))]) [0, 2] rfl ?_
          exact VBX7_readsPlate_224 _ _ _
        refine V_aload_n (κ := KX7_readsPlate) (pc := 213) dX7_readsPlate_213 0 rfl rfl ?_
        refine V_bipush (κ := KX7_readsPlate) (pc := 214) dX7_readsPlate_214 ⟨by decide, by decide⟩ (by decide) ?_
        refine V_aload_n (κ := KX7_readsPlate) (pc := 216) dX7_readsPlate_216 0 rfl rfl ?_
        refine V_getf 7 (κ := KX7_readsPlate) (pc := 217) rfl (by decide) rfl inX7 18 (by decide) wd_1005 rfl (t := 0) rfl dX7_readsPlate_217 fun t113 => ?_
        refine V_callV (ci := 7) (T := TX7) (N := 24) rfl (by decide) (κ := KX7_readsPlate) (pc := 220) (con_X7_fails _ _ _ _) mth_X7_fails rfl ⟨wd_1112, wp_40⟩ wd_1110 (st0 := []) rfl rfl (by decide) (Nat.le_of_ble_eq_true rfl) dX7_readsPlate_220 (fun _ _ _ h => VX_out rfl (by decide) h) fun t114 u115 => ?_
        exact V_zreturn (κ := KX7_readsPlate) (pc := 223) rfl rfl dX7_readsPlate_223
      refine V_iconst (κ := KX7_readsPlate) (pc := 192) dX7_readsPlate_192 ⟨by decide, by decide⟩ ?_
      exact V_zreturn (κ := KX7_readsPlate) (pc := 193) rfl rfl dX7_readsPlate_193
    refine V_iconst (κ := KX7_readsPlate) (pc := 168) dX7_readsPlate_168 ⟨by decide, by decide⟩ ?_
    exact V_zreturn (κ := KX7_readsPlate) (pc := 169) rfl rfl dX7_readsPlate_169
  refine V_aload_n (κ := KX7_readsPlate) (pc := 120) dX7_readsPlate_120 0 rfl rfl ?_
  refine V_getf 7 (κ := KX7_readsPlate) (pc := 121) rfl (by decide) rfl inX7 2 (by decide) wd_989 rfl (t := 2) rfl dX7_readsPlate_121 fun t116 => ?_
  refine V_iload_n (κ := KX7_readsPlate) (pc := 124) dX7_readsPlate_124 2 rfl ?_
  refine V_iconst (κ := KX7_readsPlate) (pc := 125) dX7_readsPlate_125 ⟨by decide, by decide⟩ ?_
  refine V_iadd (κ := KX7_readsPlate) (pc := 126) dX7_readsPlate_126 ?_
  refine V_iload (κ := KX7_readsPlate) (pc := 127) dX7_readsPlate_127 3 rfl ?_
  refine V_iadd (κ := KX7_readsPlate) (pc := 129) dX7_readsPlate_129 ?_
  refine V_aload_n (κ := KX7_readsPlate) (pc := 130) dX7_readsPlate_130 0 rfl rfl ?_
  refine V_getf 7 (κ := KX7_readsPlate) (pc := 131) rfl (by decide) rfl inX7 11 (by decide) wd_998 rfl (t := 2) rfl dX7_readsPlate_131 fun t117 => ?_
  refine V_aload_n (κ := KX7_readsPlate) (pc := 134) dX7_readsPlate_134 0 rfl rfl ?_
  refine V_getf 7 (κ := KX7_readsPlate) (pc := 135) rfl (by decide) rfl inX7 14 (by decide) wd_1001 rfl (t := 0) rfl dX7_readsPlate_135 fun t118 => ?_
  refine V_iload (κ := KX7_readsPlate) (pc := 138) dX7_readsPlate_138 3 rfl ?_
  refine V_iadd (κ := KX7_readsPlate) (pc := 140) dX7_readsPlate_140 ?_
  refine V_iaload (κ := KX7_readsPlate) (pc := 141) dX7_readsPlate_141 fun t119 => ?_
  refine V_iastore (κ := KX7_readsPlate) (pc := 142) dX7_readsPlate_142 fun u120 => ?_
  refine V_iinc (κ := KX7_readsPlate) (pc := 143) (lv' := [(4, (0, w32 (x4 + 1))), (0, (2, x0)), (2, (0, x2)), (3, (0, x3))]) dX7_readsPlate_143 3 rfl (by decide) rfl ?_
  refine V_goto (κ := KX7_readsPlate) (pc := 146) (tgt := 114) dX7_readsPlate_146 rfl ?_
  refine V_sub (lv' := [(0, (2, x0)), (2, (0, x2)), (3, (0, x3)), (4, (0, w32 (x4 + 1)))]) [1, 2, 3, 0] rfl ?_
  exact hk114 _ _ _ _ _
theorem VLX7_readsPlate_114 {Γ : Gam} : ∀ (n : Nat) (x0 x2 x3 x4 : Int) (μ : Mem), V Γ KX7_readsPlate 114 [(0, (2, x0)), (2, (0, x2)), (3, (0, x3)), (4, (0, x4))] [] μ (LX7_readsPlate_114 n x0 x2 x3 x4 μ)
  | 0, _, _, _, _, _ => V_none
  | n + 1, x0, x2, x3, x4, μ => VBX7_readsPlate_114 (fun y0 y2 y3 y4 ν => VLX7_readsPlate_114 n y0 y2 y3 y4 ν) x0 x2 x3 x4 μ
theorem VBX7_readsPlate_0 {Γ : Gam} (x0 x1 : Int) (μ : Mem) : V Γ KX7_readsPlate 0 [(0, (2, x0)), (1, (0, x1))] [] μ (BX7_readsPlate_0 x0 x1 μ) := by
  unfold BX7_readsPlate_0
  refine V_aload_n (κ := KX7_readsPlate) (pc := 0) dX7_readsPlate_0 0 rfl rfl ?_
  refine V_getf 7 (κ := KX7_readsPlate) (pc := 1) rfl (by decide) rfl inX7 2 (by decide) wd_989 rfl (t := 2) rfl dX7_readsPlate_1 fun t101 => ?_
  refine V_iconst (κ := KX7_readsPlate) (pc := 4) dX7_readsPlate_4 ⟨by decide, by decide⟩ ?_
  refine V_iaload (κ := KX7_readsPlate) (pc := 5) dX7_readsPlate_5 fun t102 => ?_
  refine V_iconst (κ := KX7_readsPlate) (pc := 6) dX7_readsPlate_6 ⟨by decide, by decide⟩ ?_
  refine V_icmp_ne (κ := KX7_readsPlate) (pc := 7) (tgt := 18) dX7_readsPlate_7 rfl ?_ ?_
  · refine V_aload_n (κ := KX7_readsPlate) (pc := 18) dX7_readsPlate_18 0 rfl rfl ?_
    refine V_callV (ci := 7) (T := TX7) (N := 24) rfl (by decide) (κ := KX7_readsPlate) (pc := 19) (con_X7_letters _ _) mth_X7_letters rfl ⟨wd_1099, wp_38⟩ wd_1097 (st0 := []) rfl rfl (by decide) (Nat.le_of_ble_eq_true rfl) dX7_readsPlate_19 (fun _ _ _ h => VX_out rfl (by decide) h) fun t103 u104 => ?_
    refine V_istore_n (κ := KX7_readsPlate) (pc := 22) (lv' := [(2, (0, t103)), (0, (2, x0)), (1, (0, x1))]) dX7_readsPlate_22 (by decide) rfl ?_
    refine V_iload_n (κ := KX7_readsPlate) (pc := 23) dX7_readsPlate_23 0 rfl ?_
    refine V_if_ne (κ := KX7_readsPlate) (pc := 24) (tgt := 38) dX7_readsPlate_24 rfl ?_ ?_
    · refine V_iload_n (κ := KX7_readsPlate) (pc := 38) dX7_readsPlate_38 0 rfl ?_
      refine V_bipush (κ := KX7_readsPlate) (pc := 39) dX7_readsPlate_39 ⟨by decide, by decide⟩ (by decide) ?_
      refine V_icmp_le (κ := KX7_readsPlate) (pc := 41) (tgt := 55) dX7_readsPlate_41 rfl ?_ ?_
      · refine V_aload_n (κ := KX7_readsPlate) (pc := 55) dX7_readsPlate_55 1 rfl rfl ?_
        refine V_aload_n (κ := KX7_readsPlate) (pc := 56) dX7_readsPlate_56 1 rfl rfl ?_
        refine V_getf 7 (κ := KX7_readsPlate) (pc := 57) rfl (by decide) rfl inX7 14 (by decide) wd_1001 rfl (t := 0) rfl dX7_readsPlate_57 fun t105 => ?_
        refine V_iload_n (κ := KX7_readsPlate) (pc := 60) dX7_readsPlate_60 0 rfl ?_
        refine V_callV (ci := 7) (T := TX7) (N := 24) rfl (by decide) (κ := KX7_readsPlate) (pc := 61) (con_X7_named _ _ _ _) mth_X7_named rfl ⟨wd_1137, wp_45⟩ wd_1135 (st0 := []) rfl rfl (by decide) (Nat.le_of_ble_eq_true rfl) dX7_readsPlate_61 (fun _ _ _ h => VX_out rfl (by decide) h) fun t106 u107 => ?_
        refine V_iconst (κ := KX7_readsPlate) (pc := 64) dX7_readsPlate_64 ⟨by decide, by decide⟩ ?_
        refine V_icmp_eq (κ := KX7_readsPlate) (pc := 65) (tgt := 79) dX7_readsPlate_65 rfl ?_ ?_
        · refine V_aload_n (κ := KX7_readsPlate) (pc := 79) dX7_readsPlate_79 1 rfl rfl ?_
          refine V_aload_n (κ := KX7_readsPlate) (pc := 80) dX7_readsPlate_80 1 rfl rfl ?_
          refine V_getf 7 (κ := KX7_readsPlate) (pc := 81) rfl (by decide) rfl inX7 2 (by decide) wd_989 rfl (t := 2) rfl dX7_readsPlate_81 fun t108 => ?_
          refine V_iconst (κ := KX7_readsPlate) (pc := 84) dX7_readsPlate_84 ⟨by decide, by decide⟩ ?_
          refine V_iaload (κ := KX7_readsPlate) (pc := 85) dX7_readsPlate_85 fun t109 => ?_
          refine V_putf 7 (κ := KX7_readsPlate) (pc := 86) rfl (by decide) rfl inX7 tyX7 tyX7_ok nmX7 19 (by decide) wd_1006 rfl rfl (t := 0) rfl rfl dX7_readsPlate_86 fun u110 => ?_
          refine V_sipush (κ := KX7_readsPlate) (pc := 89) dX7_readsPlate_89 ⟨by decide, by decide⟩ (by decide) ?_
          refine V_sipush (κ := KX7_readsPlate) (pc := 92) dX7_readsPlate_92 ⟨by decide, by decide⟩ (by decide) ?_
          refine V_aload_n (κ := KX7_readsPlate) (pc := 95) dX7_readsPlate_95 1 rfl rfl ?_
          refine V_getf 7 (κ := KX7_readsPlate) (pc := 96) rfl (by decide) rfl inX7 19 (by decide) wd_1006 rfl (t := 0) rfl dX7_readsPlate_96 fun t111 => ?_
          refine V_imul (κ := KX7_readsPlate) (pc := 99) dX7_readsPlate_99 ?_
          refine V_iadd (κ := KX7_readsPlate) (pc := 100) dX7_readsPlate_100 ?_
          refine V_LT fun x112 => ?_
          refine V_istore_n (κ := KX7_readsPlate) (pc := 101) (lv' := [(3, (0, x112)), (2, (0, t103)), (0, (2, x0)), (1, (0, x1))]) dX7_readsPlate_101 (by decide) rfl ?_
          refine V_aload_n (κ := KX7_readsPlate) (pc := 102) dX7_readsPlate_102 2 rfl rfl ?_
          refine V_getf 7 (κ := KX7_readsPlate) (pc := 103) rfl (by decide) rfl inX7 2 (by decide) wd_989 rfl (t := 2) rfl dX7_readsPlate_103 fun t113 => ?_
          refine V_iload_n (κ := KX7_readsPlate) (pc := 106) dX7_readsPlate_106 0 rfl ?_
          refine V_iconst (κ := KX7_readsPlate) (pc := 107) dX7_readsPlate_107 ⟨by decide, by decide⟩ ?_
          refine V_iadd (κ := KX7_readsPlate) (pc := 108) dX7_readsPlate_108 ?_
          refine V_iload_n (κ := KX7_readsPlate) (pc := 109) dX7_readsPlate_109 1 rfl ?_
          refine V_iastore (κ := KX7_readsPlate) (pc := 110) dX7_readsPlate_110 fun u114 => ?_
          refine V_iconst (κ := KX7_readsPlate) (pc := 111) dX7_readsPlate_111 ⟨by decide, by decide⟩ ?_
          refine V_istore (κ := KX7_readsPlate) (pc := 112) (lv' := [(4, (0, 0)), (3, (0, x112)), (2, (0, t103)), (0, (2, x0)), (1, (0, x1))]) dX7_readsPlate_112 (by decide) rfl ?_
          refine V_sub (lv' := [(0, (2, x0)), (2, (0, t103)), (3, (0, x112)), (4, (0, 0))]) [3, 2, 1, 0] rfl ?_
          exact VLX7_readsPlate_114 FU _ _ _ _ _
        refine V_aload_n (κ := KX7_readsPlate) (pc := 68) dX7_readsPlate_68 1 rfl rfl ?_
        refine V_bipush (κ := KX7_readsPlate) (pc := 69) dX7_readsPlate_69 ⟨by decide, by decide⟩ (by decide) ?_
        refine V_aload_n (κ := KX7_readsPlate) (pc := 71) dX7_readsPlate_71 1 rfl rfl ?_
        refine V_getf 7 (κ := KX7_readsPlate) (pc := 72) rfl (by decide) rfl inX7 14 (by decide) wd_1001 rfl (t := 0) rfl dX7_readsPlate_72 fun t115 => ?_
        refine V_callV (ci := 7) (T := TX7) (N := 24) rfl (by decide) (κ := KX7_readsPlate) (pc := 75) (con_X7_fails _ _ _ _) mth_X7_fails rfl ⟨wd_1112, wp_40⟩ wd_1110 (st0 := []) rfl rfl (by decide) (Nat.le_of_ble_eq_true rfl) dX7_readsPlate_75 (fun _ _ _ h => VX_out rfl (by decide) h) fun t116 u117 => ?_
        exact V_zreturn (κ := KX7_readsPlate) (pc := 78) rfl rfl dX7_readsPlate_78
      refine V_aload_n (κ := KX7_readsPlate) (pc := 44) dX7_readsPlate_44 1 rfl rfl ?_
      refine V_bipush (κ := KX7_readsPlate) (pc := 45) dX7_readsPlate_45 ⟨by decide, by decide⟩ (by decide) ?_
      refine V_aload_n (κ := KX7_readsPlate) (pc := 47) dX7_readsPlate_47 1 rfl rfl ?_
      refine V_getf 7 (κ := KX7_readsPlate) (pc := 48) rfl (by decide) rfl inX7 14 (by decide) wd_1001 rfl (t := 0) rfl dX7_readsPlate_48 fun t118 => ?_
      refine V_callV (ci := 7) (T := TX7) (N := 24) rfl (by decide) (κ := KX7_readsPlate) (pc := 51) (con_X7_fails _ _ _ _) mth_X7_fails rfl ⟨wd_1112, wp_40⟩ wd_1110 (st0 := []) rfl rfl (by decide) (Nat.le_of_ble_eq_true rfl) dX7_readsPlate_51 (fun _ _ _ h => VX_out rfl (by decide) h) fun t119 u120 => ?_
      exact V_zreturn (κ := KX7_readsPlate) (pc := 54) rfl rfl dX7_readsPlate_54
    refine V_aload_n (κ := KX7_readsPlate) (pc := 27) dX7_readsPlate_27 1 rfl rfl ?_
    refine V_bipush (κ := KX7_readsPlate) (pc := 28) dX7_readsPlate_28 ⟨by decide, by decide⟩ (by decide) ?_
    refine V_aload_n (κ := KX7_readsPlate) (pc := 30) dX7_readsPlate_30 1 rfl rfl ?_
    refine V_getf 7 (κ := KX7_readsPlate) (pc := 31) rfl (by decide) rfl inX7 14 (by decide) wd_1001 rfl (t := 0) rfl dX7_readsPlate_31 fun t121 => ?_
    refine V_callV (ci := 7) (T := TX7) (N := 24) rfl (by decide) (κ := KX7_readsPlate) (pc := 34) (con_X7_fails _ _ _ _) mth_X7_fails rfl ⟨wd_1112, wp_40⟩ wd_1110 (st0 := []) rfl rfl (by decide) (Nat.le_of_ble_eq_true rfl) dX7_readsPlate_34 (fun _ _ _ h => VX_out rfl (by decide) h) fun t122 u123 => ?_
    exact V_zreturn (κ := KX7_readsPlate) (pc := 37) rfl rfl dX7_readsPlate_37
  refine V_aload_n (κ := KX7_readsPlate) (pc := 10) dX7_readsPlate_10 0 rfl rfl ?_
  refine V_bipush (κ := KX7_readsPlate) (pc := 11) dX7_readsPlate_11 ⟨by decide, by decide⟩ (by decide) ?_
  refine V_iload_n (κ := KX7_readsPlate) (pc := 13) dX7_readsPlate_13 1 rfl ?_
  refine V_callV (ci := 7) (T := TX7) (N := 24) rfl (by decide) (κ := KX7_readsPlate) (pc := 14) (con_X7_fails _ _ _ _) mth_X7_fails rfl ⟨wd_1112, wp_40⟩ wd_1110 (st0 := []) rfl rfl (by decide) (Nat.le_of_ble_eq_true rfl) dX7_readsPlate_14 (fun _ _ _ h => VX_out rfl (by decide) h) fun t124 u125 => ?_
  exact V_zreturn (κ := KX7_readsPlate) (pc := 17) rfl rfl dX7_readsPlate_17
theorem con_X7_readsPlate (a0 a1 : Int) (μ : Mem) : Con (71) yX7_readsPlate (.code yX7_readsPlate cX7_readsPlate 5 (some .boolean)) 0 [(2, a0), (0, a1)] μ (FX7_readsPlate a0 a1 μ) := Con_intro KX7_readsPlate (plainFor_of_name (by decide)) rfl (fun h => by cases h) (by decide) rfl (Nat.le_of_ble_eq_true rfl) (fun Γ => VBX7_readsPlate_0 _ _ _)
abbrev KX7_readsTones : Kap := (RX7, cX7_readsTones, 4, 2, 0, (some .boolean), false, [])
theorem VBX7_readsTones_94 {Γ : Gam} {k2 : Int → Int → Mem → Rz} (hk2 : ∀ (y0 y1 : Int) (ν : Mem), V Γ KX7_readsTones 2 [(0, (2, y0)), (1, (0, y1))] [] ν (k2 y0 y1 ν)) {k94 : Int → Int → Int → Int → Mem → Rz} (hk94 : ∀ (y0 y1 y2 y3 : Int) (ν : Mem), V Γ KX7_readsTones 94 [(0, (2, y0)), (1, (0, y1)), (2, (0, y2)), (3, (0, y3))] [] ν (k94 y0 y1 y2 y3 ν)) (x0 x1 x2 x3 : Int) (μ : Mem) : V Γ KX7_readsTones 94 [(0, (2, x0)), (1, (0, x1)), (2, (0, x2)), (3, (0, x3))] [] μ (BX7_readsTones_94 k2 k94 x0 x1 x2 x3 μ) := by
  unfold BX7_readsTones_94
  refine V_iload_n (κ := KX7_readsTones) (pc := 94) dX7_readsTones_94 3 rfl ?_
  refine V_iload_n (κ := KX7_readsTones) (pc := 95) dX7_readsTones_95 2 rfl ?_
  refine V_icmp_ge (κ := KX7_readsTones) (pc := 96) (tgt := 135) dX7_readsTones_96 rfl ?_ ?_
  · refine V_aload_n (κ := KX7_readsTones) (pc := 135) dX7_readsTones_135 0 rfl rfl ?_
    refine V_dup (κ := KX7_readsTones) (pc := 136) rfl dX7_readsTones_136 ?_
    refine V_getf 7 (κ := KX7_readsTones) (pc := 137) rfl (by decide) rfl inX7 14 (by decide) wd_1001 rfl (t := 0) rfl dX7_readsTones_137 fun t101 => ?_
    refine V_iload_n (κ := KX7_readsTones) (pc := 140) dX7_readsTones_140 2 rfl ?_
    refine V_iadd (κ := KX7_readsTones) (pc := 141) dX7_readsTones_141 ?_
    refine V_putf 7 (κ := KX7_readsTones) (pc := 142) rfl (by decide) rfl inX7 tyX7 tyX7_ok nmX7 14 (by decide) wd_1001 rfl rfl (t := 0) rfl rfl dX7_readsTones_142 fun u102 => ?_
    refine V_iinc (κ := KX7_readsTones) (pc := 145) (lv' := [(1, (0, w32 (x1 + 1))), (0, (2, x0)), (2, (0, x2)), (3, (0, x3))]) dX7_readsTones_145 1 rfl (by decide) rfl ?_
    refine V_goto (κ := KX7_readsTones) (pc := 148) (tgt := 2) dX7_readsTones_148 rfl ?_
    refine V_sub (lv' := [(0, (2, x0)), (1, (0, w32 (x1 + 1)))]) [1, 0] rfl ?_
    exact hk2 _ _ _
  refine V_aload_n (κ := KX7_readsTones) (pc := 99) dX7_readsTones_99 0 rfl rfl ?_
  refine V_getf 7 (κ := KX7_readsTones) (pc := 100) rfl (by decide) rfl inX7 2 (by decide) wd_989 rfl (t := 2) rfl dX7_readsTones_100 fun t103 => ?_
  refine V_iconst (κ := KX7_readsTones) (pc := 103) dX7_readsTones_103 ⟨by decide, by decide⟩ ?_
  refine V_bipush (κ := KX7_readsTones) (pc := 104) dX7_readsTones_104 ⟨by decide, by decide⟩ (by decide) ?_
  refine V_iload_n (κ := KX7_readsTones) (pc := 106) dX7_readsTones_106 1 rfl ?_
  refine V_imul (κ := KX7_readsTones) (pc := 107) dX7_readsTones_107 ?_
  refine V_iadd (κ := KX7_readsTones) (pc := 108) dX7_readsTones_108 ?_
  refine V_iload_n (κ := KX7_readsTones) (pc := 109) dX7_readsTones_109 3 rfl ?_
  refine V_iadd (κ := KX7_readsTones) (pc := 110) dX7_readsTones_110 ?_
  refine V_bipush (κ := KX7_readsTones) (pc := 111) dX7_readsTones_111 ⟨by decide, by decide⟩ (by decide) ?_
  refine V_aload_n (κ := KX7_readsTones) (pc := 113) dX7_readsTones_113 0 rfl rfl ?_
  refine V_getf 7 (κ := KX7_readsTones) (pc := 114) rfl (by decide) rfl inX7 11 (by decide) wd_998 rfl (t := 2) rfl dX7_readsTones_114 fun t104 => ?_
  refine V_aload_n (κ := KX7_readsTones) (pc := 117) dX7_readsTones_117 0 rfl rfl ?_
  refine V_getf 7 (κ := KX7_readsTones) (pc := 118) rfl (by decide) rfl inX7 14 (by decide) wd_1001 rfl (t := 0) rfl dX7_readsTones_118 fun t105 => ?_
  refine V_iload_n (κ := KX7_readsTones) (pc := 121) dX7_readsTones_121 3 rfl ?_
  refine V_iadd (κ := KX7_readsTones) (pc := 122) dX7_readsTones_122 ?_
  refine V_iaload (κ := KX7_readsTones) (pc := 123) dX7_readsTones_123 fun t106 => ?_
  refine V_bipush (κ := KX7_readsTones) (pc := 124) dX7_readsTones_124 ⟨by decide, by decide⟩ (by decide) ?_
  refine V_isub (κ := KX7_readsTones) (pc := 126) dX7_readsTones_126 ?_
  refine V_imul (κ := KX7_readsTones) (pc := 127) dX7_readsTones_127 ?_
  refine V_iastore (κ := KX7_readsTones) (pc := 128) dX7_readsTones_128 fun u107 => ?_
  refine V_iinc (κ := KX7_readsTones) (pc := 129) (lv' := [(3, (0, w32 (x3 + 1))), (0, (2, x0)), (1, (0, x1)), (2, (0, x2))]) dX7_readsTones_129 3 rfl (by decide) rfl ?_
  refine V_goto (κ := KX7_readsTones) (pc := 132) (tgt := 94) dX7_readsTones_132 rfl ?_
  refine V_sub (lv' := [(0, (2, x0)), (1, (0, x1)), (2, (0, x2)), (3, (0, w32 (x3 + 1)))]) [1, 2, 3, 0] rfl ?_
  exact hk94 _ _ _ _ _
theorem VLX7_readsTones_94 {Γ : Gam} {k2 : Int → Int → Mem → Rz} (hk2 : ∀ (y0 y1 : Int) (ν : Mem), V Γ KX7_readsTones 2 [(0, (2, y0)), (1, (0, y1))] [] ν (k2 y0 y1 ν)) : ∀ (n : Nat) (x0 x1 x2 x3 : Int) (μ : Mem), V Γ KX7_readsTones 94 [(0, (2, x0)), (1, (0, x1)), (2, (0, x2)), (3, (0, x3))] [] μ (LX7_readsTones_94 k2 n x0 x1 x2 x3 μ)
  | 0, _, _, _, _, _ => V_none
  | n + 1, x0, x1, x2, x3, μ => VBX7_readsTones_94 hk2 (fun y0 y1 y2 y3 ν => VLX7_readsTones_94 hk2 n y0 y1 y2 y3 ν) x0 x1 x2 x3 μ
theorem VBX7_readsTones_71 {Γ : Gam} {k2 : Int → Int → Mem → Rz} (hk2 : ∀ (y0 y1 : Int) (ν : Mem), V Γ KX7_readsTones 2 [(0, (2, y0)), (1, (0, y1))] [] ν (k2 y0 y1 ν)) (x0 x1 x2 : Int) (μ : Mem) : V Γ KX7_readsTones 71 [(0, (2, x0)), (1, (0, x1)), (2, (0, x2))] [] μ (BX7_readsTones_71 k2 x0 x1 x2 μ) := by
  unfold BX7_readsTones_71
  refine V_iload_n (κ := KX7_readsTones) (pc := 71) dX7_readsTones_71 2 rfl ?_
  refine V_aload_n (κ := KX7_readsTones) (pc := 72) dX7_readsTones_72 0 rfl rfl ?_
  refine V_getf 7 (κ := KX7_readsTones) (pc := 73) rfl (by decide) rfl inX7 2 (by decide) wd_989 rfl (t := 2) rfl dX7_readsTones_73 fun t101 => ?_
  refine V_iconst (κ := KX7_readsTones) (pc := 76) dX7_readsTones_76 ⟨by decide, by decide⟩ ?_
  refine V_iaload (κ := KX7_readsTones) (pc := 77) dX7_readsTones_77 fun t102 => ?_
  refine V_icmp_eq (κ := KX7_readsTones) (pc := 78) (tgt := 92) dX7_readsTones_78 rfl ?_ ?_
  · refine V_iconst (κ := KX7_readsTones) (pc := 92) dX7_readsTones_92 ⟨by decide, by decide⟩ ?_
    refine V_istore_n (κ := KX7_readsTones) (pc := 93) (lv' := [(3, (0, 0)), (0, (2, x0)), (1, (0, x1)), (2, (0, x2))]) dX7_readsTones_93 (by decide) rfl ?_
    refine V_sub (lv' := [(0, (2, x0)), (1, (0, x1)), (2, (0, x2)), (3, (0, 0))]) [1, 2, 3, 0] rfl ?_
    exact VLX7_readsTones_94 hk2 FU _ _ _ _ _
  refine V_aload_n (κ := KX7_readsTones) (pc := 81) dX7_readsTones_81 0 rfl rfl ?_
  refine V_bipush (κ := KX7_readsTones) (pc := 82) dX7_readsTones_82 ⟨by decide, by decide⟩ (by decide) ?_
  refine V_aload_n (κ := KX7_readsTones) (pc := 84) dX7_readsTones_84 0 rfl rfl ?_
  refine V_getf 7 (κ := KX7_readsTones) (pc := 85) rfl (by decide) rfl inX7 14 (by decide) wd_1001 rfl (t := 0) rfl dX7_readsTones_85 fun t103 => ?_
  refine V_callV (ci := 7) (T := TX7) (N := 24) rfl (by decide) (κ := KX7_readsTones) (pc := 88) (con_X7_fails _ _ _ _) mth_X7_fails rfl ⟨wd_1112, wp_40⟩ wd_1110 (st0 := []) rfl rfl (by decide) (Nat.le_of_ble_eq_true rfl) dX7_readsTones_88 (fun _ _ _ h => VX_out rfl (by decide) h) fun t104 u105 => ?_
  exact V_zreturn (κ := KX7_readsTones) (pc := 91) rfl rfl dX7_readsTones_91
theorem VBX7_readsTones_35 {Γ : Gam} {k2 : Int → Int → Mem → Rz} (hk2 : ∀ (y0 y1 : Int) (ν : Mem), V Γ KX7_readsTones 2 [(0, (2, y0)), (1, (0, y1))] [] ν (k2 y0 y1 ν)) {k35 : Int → Int → Int → Mem → Rz} (hk35 : ∀ (y0 y1 y2 : Int) (ν : Mem), V Γ KX7_readsTones 35 [(0, (2, y0)), (1, (0, y1)), (2, (0, y2))] [] ν (k35 y0 y1 y2 ν)) (x0 x1 x2 : Int) (μ : Mem) : V Γ KX7_readsTones 35 [(0, (2, x0)), (1, (0, x1)), (2, (0, x2))] [] μ (BX7_readsTones_35 k2 k35 x0 x1 x2 μ) := by
  unfold BX7_readsTones_35
  refine V_aload_n (κ := KX7_readsTones) (pc := 35) dX7_readsTones_35 0 rfl rfl ?_
  refine V_getf 7 (κ := KX7_readsTones) (pc := 36) rfl (by decide) rfl inX7 14 (by decide) wd_1001 rfl (t := 0) rfl dX7_readsTones_36 fun t101 => ?_
  refine V_iload_n (κ := KX7_readsTones) (pc := 39) dX7_readsTones_39 2 rfl ?_
  refine V_iadd (κ := KX7_readsTones) (pc := 40) dX7_readsTones_40 ?_
  refine V_aload_n (κ := KX7_readsTones) (pc := 41) dX7_readsTones_41 0 rfl rfl ?_
  refine V_getf 7 (κ := KX7_readsTones) (pc := 42) rfl (by decide) rfl inX7 13 (by decide) wd_1000 rfl (t := 0) rfl dX7_readsTones_42 fun t102 => ?_
  refine V_icmp_ge (κ := KX7_readsTones) (pc := 45) (tgt := 71) dX7_readsTones_45 rfl ?_ ?_
  · exact VBX7_readsTones_71 hk2 _ _ _ _
  refine V_aload_n (κ := KX7_readsTones) (pc := 48) dX7_readsTones_48 0 rfl rfl ?_
  refine V_getf 7 (κ := KX7_readsTones) (pc := 49) rfl (by decide) rfl inX7 11 (by decide) wd_998 rfl (t := 2) rfl dX7_readsTones_49 fun t103 => ?_
  refine V_aload_n (κ := KX7_readsTones) (pc := 52) dX7_readsTones_52 0 rfl rfl ?_
  refine V_getf 7 (κ := KX7_readsTones) (pc := 53) rfl (by decide) rfl inX7 14 (by decide) wd_1001 rfl (t := 0) rfl dX7_readsTones_53 fun t104 => ?_
  refine V_iload_n (κ := KX7_readsTones) (pc := 56) dX7_readsTones_56 2 rfl ?_
  refine V_iadd (κ := KX7_readsTones) (pc := 57) dX7_readsTones_57 ?_
  refine V_iaload (κ := KX7_readsTones) (pc := 58) dX7_readsTones_58 fun t105 => ?_
  refine V_callS (κ := KX7_readsTones) (pc := 59) (con_X7_isDigit _ _) mth_X7_isDigit wd_1119 wd_1118 (st0 := []) rfl rfl (by decide) (Nat.le_of_ble_eq_true rfl) dX7_readsTones_59 (fun _ _ _ h => VX_out rfl (by decide) h) fun t106 u107 => ?_
  refine V_if_eq (κ := KX7_readsTones) (pc := 62) (tgt := 71) dX7_readsTones_62 rfl ?_ ?_
  · exact VBX7_readsTones_71 hk2 _ _ _ _
  refine V_iinc (κ := KX7_readsTones) (pc := 65) (lv' := [(2, (0, w32 (x2 + 1))), (0, (2, x0)), (1, (0, x1))]) dX7_readsTones_65 2 rfl (by decide) rfl ?_
  refine V_goto (κ := KX7_readsTones) (pc := 68) (tgt := 35) dX7_readsTones_68 rfl ?_
  refine V_sub (lv' := [(0, (2, x0)), (1, (0, x1)), (2, (0, w32 (x2 + 1)))]) [1, 2, 0] rfl ?_
  exact hk35 _ _ _ _
theorem VLX7_readsTones_35 {Γ : Gam} {k2 : Int → Int → Mem → Rz} (hk2 : ∀ (y0 y1 : Int) (ν : Mem), V Γ KX7_readsTones 2 [(0, (2, y0)), (1, (0, y1))] [] ν (k2 y0 y1 ν)) : ∀ (n : Nat) (x0 x1 x2 : Int) (μ : Mem), V Γ KX7_readsTones 35 [(0, (2, x0)), (1, (0, x1)), (2, (0, x2))] [] μ (LX7_readsTones_35 k2 n x0 x1 x2 μ)
  | 0, _, _, _, _ => V_none
  | n + 1, x0, x1, x2, μ => VBX7_readsTones_35 hk2 (fun y0 y1 y2 ν => VLX7_readsTones_35 hk2 n y0 y1 y2 ν) x0 x1 x2 μ
theorem VBX7_readsTones_2 {Γ : Gam} {k2 : Int → Int → Mem → Rz} (hk2 : ∀ (y0 y1 : Int) (ν : Mem), V Γ KX7_readsTones 2 [(0, (2, y0)), (1, (0, y1))] [] ν (k2 y0 y1 ν)) (x0 x1 : Int) (μ : Mem) : V Γ KX7_readsTones 2 [(0, (2, x0)), (1, (0, x1))] [] μ (BX7_readsTones_2 k2 x0 x1 μ) := by
  unfold BX7_readsTones_2
  refine V_iload_n (κ := KX7_readsTones) (pc := 2) dX7_readsTones_2 1 rfl ?_
  refine V_aload_n (κ := KX7_readsTones) (pc := 3) dX7_readsTones_3 0 rfl rfl ?_
  refine V_getf 7 (κ := KX7_readsTones) (pc := 4) rfl (by decide) rfl inX7 2 (by decide) wd_989 rfl (t := 2) rfl dX7_readsTones_4 fun t101 => ?_
  refine V_iconst (κ := KX7_readsTones) (pc := 7) dX7_readsTones_7 ⟨by decide, by decide⟩ ?_
  refine V_iaload (κ := KX7_readsTones) (pc := 8) dX7_readsTones_8 fun t102 => ?_
  refine V_icmp_ge (κ := KX7_readsTones) (pc := 9) (tgt := 151) dX7_readsTones_9 rfl ?_ ?_
  · refine V_iconst (κ := KX7_readsTones) (pc := 151) dX7_readsTones_151 ⟨by decide, by decide⟩ ?_
    exact V_zreturn (κ := KX7_readsTones) (pc := 152) rfl rfl dX7_readsTones_152
  refine V_aload_n (κ := KX7_readsTones) (pc := 12) dX7_readsTones_12 0 rfl rfl ?_
  refine V_callV (ci := 7) (T := TX7) (N := 24) rfl (by decide) (κ := KX7_readsTones) (pc := 13) (con_X7_here _ _) mth_X7_here rfl ⟨wd_1103, wp_39⟩ wd_1101 (st0 := []) rfl rfl (by decide) (Nat.le_of_ble_eq_true rfl) dX7_readsTones_13 (fun _ _ _ h => VX_out rfl (by decide) h) fun t103 u104 => ?_
  refine V_callS (κ := KX7_readsTones) (pc := 16) (con_X7_isDigit _ _) mth_X7_isDigit wd_1119 wd_1118 (st0 := []) rfl rfl (by decide) (Nat.le_of_ble_eq_true rfl) dX7_readsTones_16 (fun _ _ _ h => VX_out rfl (by decide) h) fun t105 u106 => ?_
  refine V_if_ne (κ := KX7_readsTones) (pc := 19) (tgt := 33) dX7_readsTones_19 rfl ?_ ?_
  · refine V_iconst (κ := KX7_readsTones) (pc := 33) dX7_readsTones_33 ⟨by decide, by decide⟩ ?_
    refine V_istore_n (κ := KX7_readsTones) (pc := 34) (lv' := [(2, (0, 0)), (0, (2, x0)), (1, (0, x1))]) dX7_readsTones_34 (by decide) rfl ?_
    refine V_sub (lv' := [(0, (2, x0)), (1, (0, x1)), (2, (0, 0))]) [1, 2, 0] rfl ?_
    exact VLX7_readsTones_35 hk2 FU _ _ _ _
  refine V_aload_n (κ := KX7_readsTones) (pc := 22) dX7_readsTones_22 0 rfl rfl ?_
  refine V_bipush (κ := KX7_readsTones) (pc := 23) dX7_readsTones_23 ⟨by decide, by decide⟩ (by decide) ?_
  refine V_aload_n (κ := KX7_readsTones) (pc := 25) dX7_readsTones_25 0 rfl rfl ?_
  refine V_getf 7 (κ := KX7_readsTones) (pc := 26) rfl (by decide) rfl inX7 14 (by decide) wd_1001 rfl (t := 0) rfl dX7_readsTones_26 fun t107 => ?_
  refine V_callV (ci := 7) (T := TX7) (N := 24) rfl (by decide) (κ := KX7_readsTones) (pc := 29) (con_X7_fails _ _ _ _) mth_X7_fails rfl ⟨wd_1112, wp_40⟩ wd_1110 (st0 := []) rfl rfl (by decide) (Nat.le_of_ble_eq_true rfl) dX7_readsTones_29 (fun _ _ _ h => VX_out rfl (by decide) h) fun t108 u109 => ?_
  exact V_zreturn (κ := KX7_readsTones) (pc := 32) rfl rfl dX7_readsTones_32
theorem VLX7_readsTones_2 {Γ : Gam} : ∀ (n : Nat) (x0 x1 : Int) (μ : Mem), V Γ KX7_readsTones 2 [(0, (2, x0)), (1, (0, x1))] [] μ (LX7_readsTones_2 n x0 x1 μ)
  | 0, _, _, _ => V_none
  | n + 1, x0, x1, μ => VBX7_readsTones_2 (fun y0 y1 ν => VLX7_readsTones_2 n y0 y1 ν) x0 x1 μ
theorem VBX7_readsTones_0 {Γ : Gam} (x0 : Int) (μ : Mem) : V Γ KX7_readsTones 0 [(0, (2, x0))] [] μ (BX7_readsTones_0 x0 μ) := by
  unfold BX7_readsTones_0
  refine V_iconst (κ := KX7_readsTones) (pc := 0) dX7_readsTones_0 ⟨by decide, by decide⟩ ?_
  refine V_istore_n (κ := KX7_readsTones) (pc := 1) (lv' := [(1, (0, 0)), (0, (2, x0))]) dX7_readsTones_1 (by decide) rfl ?_
  refine V_sub (lv' := [(0, (2, x0)), (1, (0, 0))]) [1, 0] rfl ?_
  exact VLX7_readsTones_2 FU _ _ _
theorem con_X7_readsTones (a0 : Int) (μ : Mem) : Con (2) yX7_readsTones (.code yX7_readsTones cX7_readsTones 4 (some .boolean)) 0 [(2, a0)] μ (FX7_readsTones a0 μ) := Con_intro KX7_readsTones (plainFor_of_name (by decide)) rfl (fun h => by cases h) (by decide) rfl (Nat.le_of_ble_eq_true rfl) (fun Γ => VBX7_readsTones_0 _ _)
abbrev KX7_readsStatement : Kap := (RX7, cX7_readsStatement, 2, 72, 0, (some .boolean), false, [])
theorem VBX7_readsStatement_90 {Γ : Gam} (x0 x1 : Int) (μ : Mem) : V Γ KX7_readsStatement 90 [(0, (2, x0)), (1, (0, x1))] [] μ (BX7_readsStatement_90 x0 x1 μ) := by
  unfold BX7_readsStatement_90
  refine V_aload_n (κ := KX7_readsStatement) (pc := 90) dX7_readsStatement_90 0 rfl rfl ?_
  refine V_bipush (κ := KX7_readsStatement) (pc := 91) dX7_readsStatement_91 ⟨by decide, by decide⟩ (by decide) ?_
  refine V_iload_n (κ := KX7_readsStatement) (pc := 93) dX7_readsStatement_93 1 rfl ?_
  refine V_callV (ci := 7) (T := TX7) (N := 24) rfl (by decide) (κ := KX7_readsStatement) (pc := 94) (con_X7_fails _ _ _ _) mth_X7_fails rfl ⟨wd_1112, wp_40⟩ wd_1110 (st0 := []) rfl rfl (by decide) (Nat.le_of_ble_eq_true rfl) dX7_readsStatement_94 (fun _ _ _ h => VX_out rfl (by decide) h) fun t101 u102 => ?_
  exact V_zreturn (κ := KX7_readsStatement) (pc := 97) rfl rfl dX7_readsStatement_97
theorem VBX7_readsStatement_0 {Γ : Gam} (x0 : Int) (μ : Mem) : V Γ KX7_readsStatement 0 [(0, (2, x0))] [] μ (BX7_readsStatement_0 x0 μ) := by
  unfold BX7_readsStatement_0
  refine V_aload_n (κ := KX7_readsStatement) (pc := 0) dX7_readsStatement_0 0 rfl rfl ?_
  refine V_callV (ci := 7) (T := TX7) (N := 24) rfl (by decide) (κ := KX7_readsStatement) (pc := 1) (con_X7_here _ _) mth_X7_here rfl ⟨wd_1103, wp_39⟩ wd_1101 (st0 := []) rfl rfl (by decide) (Nat.le_of_ble_eq_true rfl) dX7_readsStatement_1 (fun _ _ _ h => VX_out rfl (by decide) h) fun t101 u102 => ?_
  refine V_pop (κ := KX7_readsStatement) (pc := 4) rfl dX7_readsStatement_4 ?_
  refine V_aload_n (κ := KX7_readsStatement) (pc := 5) dX7_readsStatement_5 0 rfl rfl ?_
  refine V_getf 7 (κ := KX7_readsStatement) (pc := 6) rfl (by decide) rfl inX7 14 (by decide) wd_1001 rfl (t := 0) rfl dX7_readsStatement_6 fun t103 => ?_
  refine V_istore_n (κ := KX7_readsStatement) (pc := 9) (lv' := [(1, (0, t103)), (0, (2, x0))]) dX7_readsStatement_9 (by decide) rfl ?_
  refine V_aload_n (κ := KX7_readsStatement) (pc := 10) dX7_readsStatement_10 1 rfl rfl ?_
  refine V_ldcs (κ := KX7_readsStatement) (pc := 11) (tx := "plate") (w := 2) (show (RX7, 223, "plate", 2) ∈ wrds by decide) dX7_readsStatement_11 (by decide) ?_
  refine V_callV (ci := 7) (T := TX7) (N := 24) rfl (by decide) (κ := KX7_readsStatement) (pc := 13) (con_X7_takes _ _ _) mth_X7_takes rfl ⟨wd_1095, wp_37⟩ wd_1093 (st0 := []) rfl rfl (by decide) (Nat.le_of_ble_eq_true rfl) dX7_readsStatement_13 (fun _ _ _ h => VX_out rfl (by decide) h) fun t104 u105 => ?_
  refine V_if_eq (κ := KX7_readsStatement) (pc := 16) (tgt := 25) dX7_readsStatement_16 rfl ?_ ?_
  · refine V_aload_n (κ := KX7_readsStatement) (pc := 25) dX7_readsStatement_25 1 rfl rfl ?_
    refine V_ldcs (κ := KX7_readsStatement) (pc := 26) (tx := "ink") (w := 3) (show (RX7, 248, "ink", 3) ∈ wrds by decide) dX7_readsStatement_26 (by decide) ?_
    refine V_callV (ci := 7) (T := TX7) (N := 24) rfl (by decide) (κ := KX7_readsStatement) (pc := 28) (con_X7_takes _ _ _) mth_X7_takes rfl ⟨wd_1095, wp_37⟩ wd_1093 (st0 := []) rfl rfl (by decide) (Nat.le_of_ble_eq_true rfl) dX7_readsStatement_28 (fun _ _ _ h => VX_out rfl (by decide) h) fun t106 u107 => ?_
    refine V_if_eq (κ := KX7_readsStatement) (pc := 31) (tgt := 39) dX7_readsStatement_31 rfl ?_ ?_
    · refine V_aload_n (κ := KX7_readsStatement) (pc := 39) dX7_readsStatement_39 1 rfl rfl ?_
      refine V_ldcs (κ := KX7_readsStatement) (pc := 40) (tx := "tones") (w := 1) (show (RX7, 253, "tones", 1) ∈ wrds by decide) dX7_readsStatement_40 (by decide) ?_
      refine V_callV (ci := 7) (T := TX7) (N := 24) rfl (by decide) (κ := KX7_readsStatement) (pc := 42) (con_X7_takes _ _ _) mth_X7_takes rfl ⟨wd_1095, wp_37⟩ wd_1093 (st0 := []) rfl rfl (by decide) (Nat.le_of_ble_eq_true rfl) dX7_readsStatement_42 (fun _ _ _ h => VX_out rfl (by decide) h) fun t108 u109 => ?_
      refine V_if_eq (κ := KX7_readsStatement) (pc := 45) (tgt := 73) dX7_readsStatement_45 rfl ?_ ?_
      · refine V_aload_n (κ := KX7_readsStatement) (pc := 73) dX7_readsStatement_73 1 rfl rfl ?_
        refine V_ldcsW (κ := KX7_readsStatement) (pc := 74) (tx := "limit") (w := 4) (show (RX7, 261, "limit", 4) ∈ wrds by decide) dX7_readsStatement_74 (by decide) ?_
        refine V_callV (ci := 7) (T := TX7) (N := 24) rfl (by decide) (κ := KX7_readsStatement) (pc := 77) (con_X7_takes _ _ _) mth_X7_takes rfl ⟨wd_1095, wp_37⟩ wd_1093 (st0 := []) rfl rfl (by decide) (Nat.le_of_ble_eq_true rfl) dX7_readsStatement_77 (fun _ _ _ h => VX_out rfl (by decide) h) fun t110 u111 => ?_
        refine V_if_eq (κ := KX7_readsStatement) (pc := 80) (tgt := 90) dX7_readsStatement_80 rfl ?_ ?_
        · refine V_sub (lv' := [(0, (2, x0)), (1, (0, t103))]) [1, 0] rfl ?_
          exact VBX7_readsStatement_90 _ _ _
        refine V_aload_n (κ := KX7_readsStatement) (pc := 83) dX7_readsStatement_83 1 rfl rfl ?_
        refine V_getf 7 (κ := KX7_readsStatement) (pc := 84) rfl (by decide) rfl inX7 22 (by decide) wd_1009 rfl (t := 0) rfl dX7_readsStatement_84 fun t112 => ?_
        refine V_if_eq (κ := KX7_readsStatement) (pc := 87) (tgt := 98) dX7_readsStatement_87 rfl ?_ ?_
        · refine V_aload_n (κ := KX7_readsStatement) (pc := 98) dX7_readsStatement_98 1 rfl rfl ?_
          refine V_iconst (κ := KX7_readsStatement) (pc := 99) dX7_readsStatement_99 ⟨by decide, by decide⟩ ?_
          refine V_putz 7 (κ := KX7_readsStatement) (pc := 100) rfl (by decide) rfl inX7 tyX7 tyX7_ok nmX7 22 (by decide) wd_1009 rfl rfl rfl rfl dX7_readsStatement_100 fun u113 => ?_
          refine V_aload_n (κ := KX7_readsStatement) (pc := 103) dX7_readsStatement_103 1 rfl rfl ?_
          refine V_iconst (κ := KX7_readsStatement) (pc := 104) dX7_readsStatement_104 ⟨by decide, by decide⟩ ?_
          refine V_iconst (κ := KX7_readsStatement) (pc := 105) dX7_readsStatement_105 ⟨by decide, by decide⟩ ?_
          refine V_callV (ci := 7) (T := TX7) (N := 24) rfl (by decide) (κ := KX7_readsStatement) (pc := 106) (con_X7_reads _ _ _ _) mth_X7_reads rfl ⟨wd_1116, wp_41⟩ wd_1114 (st0 := []) rfl rfl (by decide) (Nat.le_of_ble_eq_true rfl) dX7_readsStatement_106 (fun _ _ _ h => VX_out rfl (by decide) h) fun t114 u115 => ?_
          refine V_if_ne (κ := KX7_readsStatement) (pc := 109) (tgt := 114) dX7_readsStatement_109 rfl ?_ ?_
          · refine V_aload_n (κ := KX7_readsStatement) (pc := 114) dX7_readsStatement_114 1 rfl rfl ?_
            refine V_getf 7 (κ := KX7_readsStatement) (pc := 115) rfl (by decide) rfl inX7 2 (by decide) wd_989 rfl (t := 2) rfl dX7_readsStatement_115 fun t116 => ?_
            refine V_iconst (κ := KX7_readsStatement) (pc := 118) dX7_readsStatement_118 ⟨by decide, by decide⟩ ?_
            refine V_aload_n (κ := KX7_readsStatement) (pc := 119) dX7_readsStatement_119 1 rfl rfl ?_
            refine V_getf 7 (κ := KX7_readsStatement) (pc := 120) rfl (by decide) rfl inX7 17 (by decide) wd_1004 rfl (t := 0) rfl dX7_readsStatement_120 fun t117 => ?_
            refine V_iastore (κ := KX7_readsStatement) (pc := 123) dX7_readsStatement_123 fun u118 => ?_
            refine V_iconst (κ := KX7_readsStatement) (pc := 124) dX7_readsStatement_124 ⟨by decide, by decide⟩ ?_
            exact V_zreturn (κ := KX7_readsStatement) (pc := 125) rfl rfl dX7_readsStatement_125
          refine V_iconst (κ := KX7_readsStatement) (pc := 112) dX7_readsStatement_112 ⟨by decide, by decide⟩ ?_
          exact V_zreturn (κ := KX7_readsStatement) (pc := 113) rfl rfl dX7_readsStatement_113
        refine V_sub (lv' := [(0, (2, x0)), (1, (0, t103))]) [1, 0] rfl ?_
        exact VBX7_readsStatement_90 _ _ _
      refine V_aload_n (κ := KX7_readsStatement) (pc := 48) dX7_readsStatement_48 1 rfl rfl ?_
      refine V_getf 7 (κ := KX7_readsStatement) (pc := 49) rfl (by decide) rfl inX7 21 (by decide) wd_1008 rfl (t := 0) rfl dX7_readsStatement_49 fun t119 => ?_
      refine V_if_eq (κ := KX7_readsStatement) (pc := 52) (tgt := 63) dX7_readsStatement_52 rfl ?_ ?_
      · refine V_aload_n (κ := KX7_readsStatement) (pc := 63) dX7_readsStatement_63 1 rfl rfl ?_
        refine V_iconst (κ := KX7_readsStatement) (pc := 64) dX7_readsStatement_64 ⟨by decide, by decide⟩ ?_
        refine V_putz 7 (κ := KX7_readsStatement) (pc := 65) rfl (by decide) rfl inX7 tyX7 tyX7_ok nmX7 21 (by decide) wd_1008 rfl rfl rfl rfl dX7_readsStatement_65 fun u120 => ?_
        refine V_aload_n (κ := KX7_readsStatement) (pc := 68) dX7_readsStatement_68 1 rfl rfl ?_
        refine V_callV (ci := 7) (T := TX7) (N := 24) rfl (by decide) (κ := KX7_readsStatement) (pc := 69) (con_X7_readsTones _ _) mth_X7_readsTones rfl ⟨wd_1172, wp_51⟩ wd_1170 (st0 := []) rfl rfl (by decide) (Nat.le_of_ble_eq_true rfl) dX7_readsStatement_69 (fun _ _ _ h => VX_out rfl (by decide) h) fun t121 u122 => ?_
        exact V_zreturn (κ := KX7_readsStatement) (pc := 72) rfl rfl dX7_readsStatement_72
      refine V_aload_n (κ := KX7_readsStatement) (pc := 55) dX7_readsStatement_55 1 rfl rfl ?_
      refine V_bipush (κ := KX7_readsStatement) (pc := 56) dX7_readsStatement_56 ⟨by decide, by decide⟩ (by decide) ?_
      refine V_iload_n (κ := KX7_readsStatement) (pc := 58) dX7_readsStatement_58 0 rfl ?_
      refine V_callV (ci := 7) (T := TX7) (N := 24) rfl (by decide) (κ := KX7_readsStatement) (pc := 59) (con_X7_fails _ _ _ _) mth_X7_fails rfl ⟨wd_1112, wp_40⟩ wd_1110 (st0 := []) rfl rfl (by decide) (Nat.le_of_ble_eq_true rfl) dX7_readsStatement_59 (fun _ _ _ h => VX_out rfl (by decide) h) fun t123 u124 => ?_
      exact V_zreturn (κ := KX7_readsStatement) (pc := 62) rfl rfl dX7_readsStatement_62
    refine V_aload_n (κ := KX7_readsStatement) (pc := 34) dX7_readsStatement_34 1 rfl rfl ?_
    refine V_callV (ci := 7) (T := TX7) (N := 24) rfl (by decide) (κ := KX7_readsStatement) (pc := 35) (con_X7_readsInk _ _) mth_X7_readsInk rfl ⟨wd_1166, wp_50⟩ wd_1164 (st0 := []) rfl rfl (by decide) (Nat.le_of_ble_eq_true rfl) dX7_readsStatement_35 (fun _ _ _ h => VX_out rfl (by decide) h) fun t125 u126 => ?_
    exact V_zreturn (κ := KX7_readsStatement) (pc := 38) rfl rfl dX7_readsStatement_38
  refine V_aload_n (κ := KX7_readsStatement) (pc := 19) dX7_readsStatement_19 1 rfl rfl ?_
  refine V_iload_n (κ := KX7_readsStatement) (pc := 20) dX7_readsStatement_20 0 rfl ?_
  refine V_callV (ci := 7) (T := TX7) (N := 24) rfl (by decide) (κ := KX7_readsStatement) (pc := 21) (con_X7_readsPlate _ _ _) mth_X7_readsPlate rfl ⟨wd_1133, wp_44⟩ wd_1131 (st0 := []) rfl rfl (by decide) (Nat.le_of_ble_eq_true rfl) dX7_readsStatement_21 (fun _ _ _ h => VX_out rfl (by decide) h) fun t127 u128 => ?_
  exact V_zreturn (κ := KX7_readsStatement) (pc := 24) rfl rfl dX7_readsStatement_24
theorem con_X7_readsStatement (a0 : Int) (μ : Mem) : Con (72) yX7_readsStatement (.code yX7_readsStatement cX7_readsStatement 2 (some .boolean)) 0 [(2, a0)] μ (FX7_readsStatement a0 μ) := Con_intro KX7_readsStatement (plainFor_of_name (by decide)) rfl (fun h => by cases h) (by decide) rfl (Nat.le_of_ble_eq_true rfl) (fun Γ => VBX7_readsStatement_0 _ _)
abbrev KX7_readsText : Kap := (RX7, cX7_readsText, 2, 73, 0, (some .boolean), false, [])
theorem VBX7_readsText_104 {Γ : Gam} (μ : Mem) : V Γ KX7_readsText 104 [] [] μ (BX7_readsText_104 μ) := by
  unfold BX7_readsText_104
  refine V_iconst (κ := KX7_readsText) (pc := 104) dX7_readsText_104 ⟨by decide, by decide⟩ ?_
  exact V_zreturn (κ := KX7_readsText) (pc := 105) rfl rfl dX7_readsText_105
theorem VBX7_readsText_80 {Γ : Gam} {k80 : Int → Mem → Rz} (hk80 : ∀ (y0 : Int) (ν : Mem), V Γ KX7_readsText 80 [(0, (2, y0))] [] ν (k80 y0 ν)) (x0 : Int) (μ : Mem) : V Γ KX7_readsText 80 [(0, (2, x0))] [] μ (BX7_readsText_80 k80 x0 μ) := by
  unfold BX7_readsText_80
  refine V_aload_n (κ := KX7_readsText) (pc := 80) dX7_readsText_80 0 rfl rfl ?_
  refine V_callV (ci := 7) (T := TX7) (N := 24) rfl (by decide) (κ := KX7_readsText) (pc := 81) (con_X7_here _ _) mth_X7_here rfl ⟨wd_1103, wp_39⟩ wd_1101 (st0 := []) rfl rfl (by decide) (Nat.le_of_ble_eq_true rfl) dX7_readsText_81 (fun _ _ _ h => VX_out rfl (by decide) h) fun t101 u102 => ?_
  refine V_iconst (κ := KX7_readsText) (pc := 84) dX7_readsText_84 ⟨by decide, by decide⟩ ?_
  refine V_icmp_eq (κ := KX7_readsText) (pc := 85) (tgt := 106) dX7_readsText_85 rfl ?_ ?_
  · refine V_iconst (κ := KX7_readsText) (pc := 106) dX7_readsText_106 ⟨by decide, by decide⟩ ?_
    exact V_zreturn (κ := KX7_readsText) (pc := 107) rfl rfl dX7_readsText_107
  refine V_aload_n (κ := KX7_readsText) (pc := 88) dX7_readsText_88 0 rfl rfl ?_
  refine V_callV (ci := 7) (T := TX7) (N := 24) rfl (by decide) (κ := KX7_readsText) (pc := 89) (con_X7_readsStatement _ _) mth_X7_readsStatement rfl ⟨wd_1128, wp_43⟩ wd_1126 (st0 := []) rfl rfl (by decide) (Nat.le_of_ble_eq_true rfl) dX7_readsText_89 (fun _ _ _ h => VX_out rfl (by decide) h) fun t103 u104 => ?_
  refine V_if_eq (κ := KX7_readsText) (pc := 92) (tgt := 104) dX7_readsText_92 rfl ?_ ?_
  · refine V_sub (lv' := []) [] rfl ?_
    exact VBX7_readsText_104 _
  refine V_aload_n (κ := KX7_readsText) (pc := 95) dX7_readsText_95 0 rfl rfl ?_
  refine V_bipush (κ := KX7_readsText) (pc := 96) dX7_readsText_96 ⟨by decide, by decide⟩ (by decide) ?_
  refine V_callV (ci := 7) (T := TX7) (N := 24) rfl (by decide) (κ := KX7_readsText) (pc := 98) (con_X7_sign _ _ _) mth_X7_sign rfl ⟨wd_1124, wp_42⟩ wd_1122 (st0 := []) rfl rfl (by decide) (Nat.le_of_ble_eq_true rfl) dX7_readsText_98 (fun _ _ _ h => VX_out rfl (by decide) h) fun t105 u106 => ?_
  refine V_if_ne (κ := KX7_readsText) (pc := 101) (tgt := 80) dX7_readsText_101 rfl ?_ ?_
  · exact hk80 _ _
  refine V_sub (lv' := []) [] rfl ?_
  exact VBX7_readsText_104 _
theorem VLX7_readsText_80 {Γ : Gam} : ∀ (n : Nat) (x0 : Int) (μ : Mem), V Γ KX7_readsText 80 [(0, (2, x0))] [] μ (LX7_readsText_80 n x0 μ)
  | 0, _, _ => V_none
  | n + 1, x0, μ => VBX7_readsText_80 (fun y0 ν => VLX7_readsText_80 n y0 ν) x0 μ
theorem VBX7_readsText_0 {Γ : Gam} (x0 : Int) (μ : Mem) : V Γ KX7_readsText 0 [(0, (2, x0))] [] μ (BX7_readsText_0 x0 μ) := by
  unfold BX7_readsText_0
  refine V_aload_n (κ := KX7_readsText) (pc := 0) dX7_readsText_0 0 rfl rfl ?_
  refine V_ldcsW (κ := KX7_readsText) (pc := 1) (tx := "picture") (w := 0) (show (RX7, 266, "picture", 0) ∈ wrds by decide) dX7_readsText_1 (by decide) ?_
  refine V_callV (ci := 7) (T := TX7) (N := 24) rfl (by decide) (κ := KX7_readsText) (pc := 4) (con_X7_takes _ _ _) mth_X7_takes rfl ⟨wd_1095, wp_37⟩ wd_1093 (st0 := []) rfl rfl (by decide) (Nat.le_of_ble_eq_true rfl) dX7_readsText_4 (fun _ _ _ h => VX_out rfl (by decide) h) fun t101 u102 => ?_
  refine V_if_ne (κ := KX7_readsText) (pc := 7) (tgt := 21) dX7_readsText_7 rfl ?_ ?_
  · refine V_aload_n (κ := KX7_readsText) (pc := 21) dX7_readsText_21 0 rfl rfl ?_
    refine V_iconst (κ := KX7_readsText) (pc := 22) dX7_readsText_22 ⟨by decide, by decide⟩ ?_
    refine V_bipush (κ := KX7_readsText) (pc := 23) dX7_readsText_23 ⟨by decide, by decide⟩ (by decide) ?_
    refine V_callV (ci := 7) (T := TX7) (N := 24) rfl (by decide) (κ := KX7_readsText) (pc := 25) (con_X7_reads _ _ _ _) mth_X7_reads rfl ⟨wd_1116, wp_41⟩ wd_1114 (st0 := []) rfl rfl (by decide) (Nat.le_of_ble_eq_true rfl) dX7_readsText_25 (fun _ _ _ h => VX_out rfl (by decide) h) fun t103 u104 => ?_
    refine V_if_ne (κ := KX7_readsText) (pc := 28) (tgt := 33) dX7_readsText_28 rfl ?_ ?_
    · refine V_aload_n (κ := KX7_readsText) (pc := 33) dX7_readsText_33 0 rfl rfl ?_
      refine V_getf 7 (κ := KX7_readsText) (pc := 34) rfl (by decide) rfl inX7 17 (by decide) wd_1004 rfl (t := 0) rfl dX7_readsText_34 fun t105 => ?_
      refine V_istore_n (κ := KX7_readsText) (pc := 37) (lv' := [(1, (0, t105)), (0, (2, x0))]) dX7_readsText_37 (by decide) rfl ?_
      refine V_aload_n (κ := KX7_readsText) (pc := 38) dX7_readsText_38 1 rfl rfl ?_
      refine V_iconst (κ := KX7_readsText) (pc := 39) dX7_readsText_39 ⟨by decide, by decide⟩ ?_
      refine V_bipush (κ := KX7_readsText) (pc := 40) dX7_readsText_40 ⟨by decide, by decide⟩ (by decide) ?_
      refine V_callV (ci := 7) (T := TX7) (N := 24) rfl (by decide) (κ := KX7_readsText) (pc := 42) (con_X7_reads _ _ _ _) mth_X7_reads rfl ⟨wd_1116, wp_41⟩ wd_1114 (st0 := []) rfl rfl (by decide) (Nat.le_of_ble_eq_true rfl) dX7_readsText_42 (fun _ _ _ h => VX_out rfl (by decide) h) fun t106 u107 => ?_
      refine V_if_ne (κ := KX7_readsText) (pc := 45) (tgt := 50) dX7_readsText_45 rfl ?_ ?_
      · refine V_aload_n (κ := KX7_readsText) (pc := 50) dX7_readsText_50 1 rfl rfl ?_
        refine V_iload_n (κ := KX7_readsText) (pc := 51) dX7_readsText_51 0 rfl ?_
        refine V_aload_n (κ := KX7_readsText) (pc := 52) dX7_readsText_52 1 rfl rfl ?_
        refine V_getf 7 (κ := KX7_readsText) (pc := 53) rfl (by decide) rfl inX7 17 (by decide) wd_1004 rfl (t := 0) rfl dX7_readsText_53 fun t108 => ?_
        refine V_callV (ci := 7) (T := TX7) (N := 24) rfl (by decide) (κ := KX7_readsText) (pc := 56) (con_X7_begins _ _ _ _) mth_X7_begins rfl ⟨wd_985, wp_33⟩ wd_983 (st0 := []) rfl rfl (by decide) (Nat.le_of_ble_eq_true rfl) dX7_readsText_56 (fun _ _ _ h => VX_out rfl (by decide) h) fun _ u110 => ?_
        refine V_aload_n (κ := KX7_readsText) (pc := 59) dX7_readsText_59 1 rfl rfl ?_
        refine V_iconst (κ := KX7_readsText) (pc := 60) dX7_readsText_60 ⟨by decide, by decide⟩ ?_
        refine V_putz 7 (κ := KX7_readsText) (pc := 61) rfl (by decide) rfl inX7 tyX7 tyX7_ok nmX7 21 (by decide) wd_1008 rfl rfl rfl rfl dX7_readsText_61 fun u111 => ?_
        refine V_aload_n (κ := KX7_readsText) (pc := 64) dX7_readsText_64 1 rfl rfl ?_
        refine V_iconst (κ := KX7_readsText) (pc := 65) dX7_readsText_65 ⟨by decide, by decide⟩ ?_
        refine V_putz 7 (κ := KX7_readsText) (pc := 66) rfl (by decide) rfl inX7 tyX7 tyX7_ok nmX7 22 (by decide) wd_1009 rfl rfl rfl rfl dX7_readsText_66 fun u112 => ?_
        refine V_aload_n (κ := KX7_readsText) (pc := 69) dX7_readsText_69 1 rfl rfl ?_
        refine V_bipush (κ := KX7_readsText) (pc := 70) dX7_readsText_70 ⟨by decide, by decide⟩ (by decide) ?_
        refine V_callV (ci := 7) (T := TX7) (N := 24) rfl (by decide) (κ := KX7_readsText) (pc := 72) (con_X7_sign _ _ _) mth_X7_sign rfl ⟨wd_1124, wp_42⟩ wd_1122 (st0 := []) rfl rfl (by decide) (Nat.le_of_ble_eq_true rfl) dX7_readsText_72 (fun _ _ _ h => VX_out rfl (by decide) h) fun t113 u114 => ?_
        refine V_if_ne (κ := KX7_readsText) (pc := 75) (tgt := 80) dX7_readsText_75 rfl ?_ ?_
        · refine V_sub (lv' := [(0, (2, x0))]) [1] rfl ?_
          exact VLX7_readsText_80 FU _ _
        refine V_iconst (κ := KX7_readsText) (pc := 78) dX7_readsText_78 ⟨by decide, by decide⟩ ?_
        exact V_zreturn (κ := KX7_readsText) (pc := 79) rfl rfl dX7_readsText_79
      refine V_iconst (κ := KX7_readsText) (pc := 48) dX7_readsText_48 ⟨by decide, by decide⟩ ?_
      exact V_zreturn (κ := KX7_readsText) (pc := 49) rfl rfl dX7_readsText_49
    refine V_iconst (κ := KX7_readsText) (pc := 31) dX7_readsText_31 ⟨by decide, by decide⟩ ?_
    exact V_zreturn (κ := KX7_readsText) (pc := 32) rfl rfl dX7_readsText_32
  refine V_aload_n (κ := KX7_readsText) (pc := 10) dX7_readsText_10 0 rfl rfl ?_
  refine V_bipush (κ := KX7_readsText) (pc := 11) dX7_readsText_11 ⟨by decide, by decide⟩ (by decide) ?_
  refine V_aload_n (κ := KX7_readsText) (pc := 13) dX7_readsText_13 0 rfl rfl ?_
  refine V_getf 7 (κ := KX7_readsText) (pc := 14) rfl (by decide) rfl inX7 14 (by decide) wd_1001 rfl (t := 0) rfl dX7_readsText_14 fun t115 => ?_
  refine V_callV (ci := 7) (T := TX7) (N := 24) rfl (by decide) (κ := KX7_readsText) (pc := 17) (con_X7_fails _ _ _ _) mth_X7_fails rfl ⟨wd_1112, wp_40⟩ wd_1110 (st0 := []) rfl rfl (by decide) (Nat.le_of_ble_eq_true rfl) dX7_readsText_17 (fun _ _ _ h => VX_out rfl (by decide) h) fun t116 u117 => ?_
  exact V_zreturn (κ := KX7_readsText) (pc := 20) rfl rfl dX7_readsText_20
theorem con_X7_readsText (a0 : Int) (μ : Mem) : Con (73) yX7_readsText (.code yX7_readsText cX7_readsText 2 (some .boolean)) 0 [(2, a0)] μ (FX7_readsText a0 μ) := Con_intro KX7_readsText (plainFor_of_name (by decide)) rfl (fun h => by cases h) (by decide) rfl (Nat.le_of_ble_eq_true rfl) (fun Γ => VBX7_readsText_0 _ _)
abbrev KX7_load : Kap := (RX7, cX7_load, 3, 74, 0, (some .int), false, [])
theorem VBX7_load_67 {Γ : Gam} {k67 : Int → Int → Mem → Rz} (hk67 : ∀ (y0 y2 : Int) (ν : Mem), V Γ KX7_load 67 [(0, (2, y0)), (2, (0, y2))] [] ν (k67 y0 y2 ν)) (x0 x2 : Int) (μ : Mem) : V Γ KX7_load 67 [(0, (2, x0)), (2, (0, x2))] [] μ (BX7_load_67 k67 x0 x2 μ) := by
  unfold BX7_load_67
  refine V_iload_n (κ := KX7_load) (pc := 67) dX7_load_67 1 rfl ?_
  refine V_sipush (κ := KX7_load) (pc := 68) dX7_load_68 ⟨by decide, by decide⟩ (by decide) ?_
  refine V_icmp_ge (κ := KX7_load) (pc := 71) (tgt := 91) dX7_load_71 rfl ?_ ?_
  · refine V_aload_n (κ := KX7_load) (pc := 91) dX7_load_91 0 rfl rfl ?_
    refine V_callV (ci := 7) (T := TX7) (N := 24) rfl (by decide) (κ := KX7_load) (pc := 92) (con_X7_plates _ _) mth_X7_plates rfl ⟨wd_1189, wp_55⟩ wd_1187 (st0 := []) rfl rfl (by decide) (Nat.le_of_ble_eq_true rfl) dX7_load_92 (fun _ _ _ h => VX_out rfl (by decide) h) fun t101 u102 => ?_
    exact V_ireturn (κ := KX7_load) (pc := 95) rfl rfl dX7_load_95
  refine V_aload_n (κ := KX7_load) (pc := 74) dX7_load_74 0 rfl rfl ?_
  refine V_iload_n (κ := KX7_load) (pc := 75) dX7_load_75 1 rfl ?_
  refine V_aload_n (κ := KX7_load) (pc := 76) dX7_load_76 0 rfl rfl ?_
  refine V_getf 7 (κ := KX7_load) (pc := 77) rfl (by decide) rfl inX7 2 (by decide) wd_989 rfl (t := 2) rfl dX7_load_77 fun t103 => ?_
  refine V_iload_n (κ := KX7_load) (pc := 80) dX7_load_80 1 rfl ?_
  refine V_iaload (κ := KX7_load) (pc := 81) dX7_load_81 fun t104 => ?_
  refine V_callV (ci := 7) (T := TX7) (N := 24) rfl (by decide) (κ := KX7_load) (pc := 82) (con_X7_put _ _ _ _) mth_X7_put rfl ⟨wd_1185, wp_54⟩ wd_1183 (st0 := []) rfl rfl (by decide) (Nat.le_of_ble_eq_true rfl) dX7_load_82 (fun _ _ _ h => VX_out rfl (by decide) h) fun _ u106 => ?_
  refine V_iinc (κ := KX7_load) (pc := 85) (lv' := [(2, (0, w32 (x2 + 1))), (0, (2, x0))]) dX7_load_85 1 rfl (by decide) rfl ?_
  refine V_goto (κ := KX7_load) (pc := 88) (tgt := 67) dX7_load_88 rfl ?_
  refine V_sub (lv' := [(0, (2, x0)), (2, (0, w32 (x2 + 1)))]) [1, 0] rfl ?_
  exact hk67 _ _ _
theorem VLX7_load_67 {Γ : Gam} : ∀ (n : Nat) (x0 x2 : Int) (μ : Mem), V Γ KX7_load 67 [(0, (2, x0)), (2, (0, x2))] [] μ (LX7_load_67 n x0 x2 μ)
  | 0, _, _, _ => V_none
  | n + 1, x0, x2, μ => VBX7_load_67 (fun y0 y2 ν => VLX7_load_67 n y0 y2 ν) x0 x2 μ
theorem VBX7_load_0 {Γ : Gam} (x0 x1 : Int) (μ : Mem) : V Γ KX7_load 0 [(0, (2, x0)), (1, (0, x1))] [] μ (BX7_load_0 x0 x1 μ) := by
  unfold BX7_load_0
  refine V_aload_n (κ := KX7_load) (pc := 0) dX7_load_0 0 rfl rfl ?_
  refine V_iconst (κ := KX7_load) (pc := 1) dX7_load_1 ⟨by decide, by decide⟩ ?_
  refine V_putf 7 (κ := KX7_load) (pc := 2) rfl (by decide) rfl inX7 tyX7 tyX7_ok nmX7 0 (by decide) wd_987 rfl rfl (t := 0) rfl rfl dX7_load_2 fun u101 => ?_
  refine V_aload_n (κ := KX7_load) (pc := 5) dX7_load_5 0 rfl rfl ?_
  refine V_iload_n (κ := KX7_load) (pc := 6) dX7_load_6 1 rfl ?_
  refine V_iconst (κ := KX7_load) (pc := 7) dX7_load_7 ⟨by decide, by decide⟩ ?_
  refine V_aload_n (κ := KX7_load) (pc := 8) dX7_load_8 0 rfl rfl ?_
  refine V_getf 7 (κ := KX7_load) (pc := 9) rfl (by decide) rfl inX7 12 (by decide) wd_999 rfl (t := 0) rfl dX7_load_9 fun t102 => ?_
  refine V_callS (κ := KX7_load) (pc := 12) (con_X7_isIn _ _ _ _) mth_X7_isIn wd_1082 wd_1081 (st0 := [(2, x0)]) rfl rfl (by decide) (Nat.le_of_ble_eq_true rfl) dX7_load_12 (fun _ _ _ h => VX_out rfl (by decide) h) fun t103 u104 => ?_
  refine V_iconst (κ := KX7_load) (pc := 15) dX7_load_15 ⟨by decide, by decide⟩ ?_
  refine V_callV (ci := 7) (T := TX7) (N := 24) rfl (by decide) (κ := KX7_load) (pc := 16) (con_X7_right _ _ _ _) mth_X7_right rfl ⟨wd_1086, wp_35⟩ wd_1084 (st0 := []) rfl rfl (by decide) (Nat.le_of_ble_eq_true rfl) dX7_load_16 (fun _ _ _ h => VX_out rfl (by decide) h) fun t105 u106 => ?_
  refine V_if_ne (κ := KX7_load) (pc := 19) (tgt := 24) dX7_load_19 rfl ?_ ?_
  · refine V_aload_n (κ := KX7_load) (pc := 24) dX7_load_24 0 rfl rfl ?_
    refine V_iload_n (κ := KX7_load) (pc := 25) dX7_load_25 1 rfl ?_
    refine V_putf 7 (κ := KX7_load) (pc := 26) rfl (by decide) rfl inX7 tyX7 tyX7_ok nmX7 13 (by decide) wd_1000 rfl rfl (t := 0) rfl rfl dX7_load_26 fun u107 => ?_
    refine V_aload_n (κ := KX7_load) (pc := 29) dX7_load_29 0 rfl rfl ?_
    refine V_iconst (κ := KX7_load) (pc := 30) dX7_load_30 ⟨by decide, by decide⟩ ?_
    refine V_putf 7 (κ := KX7_load) (pc := 31) rfl (by decide) rfl inX7 tyX7 tyX7_ok nmX7 14 (by decide) wd_1001 rfl rfl (t := 0) rfl rfl dX7_load_31 fun u108 => ?_
    refine V_aload_n (κ := KX7_load) (pc := 34) dX7_load_34 0 rfl rfl ?_
    refine V_iconst (κ := KX7_load) (pc := 35) dX7_load_35 ⟨by decide, by decide⟩ ?_
    refine V_putf 7 (κ := KX7_load) (pc := 36) rfl (by decide) rfl inX7 tyX7 tyX7_ok nmX7 12 (by decide) wd_999 rfl rfl (t := 0) rfl rfl dX7_load_36 fun u109 => ?_
    refine V_aload_n (κ := KX7_load) (pc := 39) dX7_load_39 0 rfl rfl ?_
    refine V_iconst (κ := KX7_load) (pc := 40) dX7_load_40 ⟨by decide, by decide⟩ ?_
    refine V_putf 7 (κ := KX7_load) (pc := 41) rfl (by decide) rfl inX7 tyX7 tyX7_ok nmX7 15 (by decide) wd_1002 rfl rfl (t := 0) rfl rfl dX7_load_41 fun u110 => ?_
    refine V_aload_n (κ := KX7_load) (pc := 44) dX7_load_44 0 rfl rfl ?_
    refine V_iconst (κ := KX7_load) (pc := 45) dX7_load_45 ⟨by decide, by decide⟩ ?_
    refine V_putf 7 (κ := KX7_load) (pc := 46) rfl (by decide) rfl inX7 tyX7 tyX7_ok nmX7 16 (by decide) wd_1003 rfl rfl (t := 0) rfl rfl dX7_load_46 fun u111 => ?_
    refine V_aload_n (κ := KX7_load) (pc := 49) dX7_load_49 0 rfl rfl ?_
    refine V_callV (ci := 7) (T := TX7) (N := 24) rfl (by decide) (κ := KX7_load) (pc := 50) (con_X7_readsText _ _) mth_X7_readsText rfl ⟨wd_1090, wp_36⟩ wd_1088 (st0 := []) rfl rfl (by decide) (Nat.le_of_ble_eq_true rfl) dX7_load_50 (fun _ _ _ h => VX_out rfl (by decide) h) fun t112 u113 => ?_
    refine V_if_ne (κ := KX7_load) (pc := 53) (tgt := 61) dX7_load_53 rfl ?_ ?_
    · refine V_aload_n (κ := KX7_load) (pc := 61) dX7_load_61 0 rfl rfl ?_
      refine V_callV (ci := 7) (T := TX7) (N := 24) rfl (by decide) (κ := KX7_load) (pc := 62) (con_X7_change _ _) mth_X7_change rfl ⟨wd_1177, wp_52⟩ wd_1175 (st0 := []) rfl rfl (by decide) (Nat.le_of_ble_eq_true rfl) dX7_load_62 (fun _ _ _ h => VX_out rfl (by decide) h) fun _ u115 => ?_
      refine V_iconst (κ := KX7_load) (pc := 65) dX7_load_65 ⟨by decide, by decide⟩ ?_
      refine V_istore_n (κ := KX7_load) (pc := 66) (lv' := [(2, (0, 0)), (0, (2, x0)), (1, (0, x1))]) dX7_load_66 (by decide) rfl ?_
      refine V_sub (lv' := [(0, (2, x0)), (2, (0, 0))]) [1, 0] rfl ?_
      exact VLX7_load_67 FU _ _ _
    refine V_aload_n (κ := KX7_load) (pc := 56) dX7_load_56 0 rfl rfl ?_
    refine V_getf 7 (κ := KX7_load) (pc := 57) rfl (by decide) rfl inX7 15 (by decide) wd_1002 rfl (t := 0) rfl dX7_load_57 fun t116 => ?_
    exact V_ireturn (κ := KX7_load) (pc := 60) rfl rfl dX7_load_60
  refine V_iconst (κ := KX7_load) (pc := 22) dX7_load_22 ⟨by decide, by decide⟩ ?_
  exact V_ireturn (κ := KX7_load) (pc := 23) rfl rfl dX7_load_23
theorem con_X7_load (a0 a1 : Int) (μ : Mem) : Con (74) yX7_load (.code yX7_load cX7_load 3 (some .int)) 0 [(2, a0), (0, a1)] μ (FX7_load a0 a1 μ) := Con_intro KX7_load (plainFor_of_name (by decide)) rfl (fun h => by cases h) (by decide) rfl (Nat.le_of_ble_eq_true rfl) (fun Γ => VBX7_load_0 _ _ _)
abbrev KX7_moireAt : Kap := (RX7, cX7_moireAt, 3, 3, 4, (some .double), false, [])
theorem VBX7_moireAt_0 {Γ : Gam} (x0 x1 x2 : Int) (μ : Mem) : V Γ KX7_moireAt 0 [(0, (2, x0)), (1, (0, x1)), (2, (0, x2))] [] μ (BX7_moireAt_0 x0 x1 x2 μ) := by
  unfold BX7_moireAt_0
  refine V_aload_n (κ := KX7_moireAt) (pc := 0) dX7_moireAt_0 0 rfl rfl ?_
  refine V_iload_n (κ := KX7_moireAt) (pc := 1) dX7_moireAt_1 1 rfl ?_
  refine V_bipush (κ := KX7_moireAt) (pc := 2) dX7_moireAt_2 ⟨by decide, by decide⟩ (by decide) ?_
  refine V_callV (ci := 7) (T := TX7) (N := 24) rfl (by decide) (κ := KX7_moireAt) (pc := 4) (con_X7_of _ _ _ _) mth_X7_of rfl ⟨wd_1233, wp_65⟩ wd_1231 (st0 := []) rfl rfl (by decide) (Nat.le_of_ble_eq_true rfl) dX7_moireAt_4 (fun _ _ _ h => VX_out rfl (by decide) h) fun t101 u102 => ?_
  refine V_aload_n (κ := KX7_moireAt) (pc := 7) dX7_moireAt_7 0 rfl rfl ?_
  refine V_iload_n (κ := KX7_moireAt) (pc := 8) dX7_moireAt_8 1 rfl ?_
  refine V_bipush (κ := KX7_moireAt) (pc := 9) dX7_moireAt_9 ⟨by decide, by decide⟩ (by decide) ?_
  refine V_callV (ci := 7) (T := TX7) (N := 24) rfl (by decide) (κ := KX7_moireAt) (pc := 11) (con_X7_of _ _ _ _) mth_X7_of rfl ⟨wd_1233, wp_65⟩ wd_1231 (st0 := [(0, t101)]) rfl rfl (by decide) (Nat.le_of_ble_eq_true rfl) dX7_moireAt_11 (fun _ _ _ h => VX_out rfl (by decide) h) fun t103 u104 => ?_
  refine V_aload_n (κ := KX7_moireAt) (pc := 14) dX7_moireAt_14 0 rfl rfl ?_
  refine V_iload_n (κ := KX7_moireAt) (pc := 15) dX7_moireAt_15 2 rfl ?_
  refine V_bipush (κ := KX7_moireAt) (pc := 16) dX7_moireAt_16 ⟨by decide, by decide⟩ (by decide) ?_
  refine V_callV (ci := 7) (T := TX7) (N := 24) rfl (by decide) (κ := KX7_moireAt) (pc := 18) (con_X7_of _ _ _ _) mth_X7_of rfl ⟨wd_1233, wp_65⟩ wd_1231 (st0 := [(0, t103), (0, t101)]) rfl rfl (by decide) (Nat.le_of_ble_eq_true rfl) dX7_moireAt_18 (fun _ _ _ h => VX_out rfl (by decide) h) fun t105 u106 => ?_
  refine V_aload_n (κ := KX7_moireAt) (pc := 21) dX7_moireAt_21 0 rfl rfl ?_
  refine V_iload_n (κ := KX7_moireAt) (pc := 22) dX7_moireAt_22 2 rfl ?_
  refine V_bipush (κ := KX7_moireAt) (pc := 23) dX7_moireAt_23 ⟨by decide, by decide⟩ (by decide) ?_
  refine V_callV (ci := 7) (T := TX7) (N := 24) rfl (by decide) (κ := KX7_moireAt) (pc := 25) (con_X7_of _ _ _ _) mth_X7_of rfl ⟨wd_1233, wp_65⟩ wd_1231 (st0 := [(0, t105), (0, t103), (0, t101)]) rfl rfl (by decide) (Nat.le_of_ble_eq_true rfl) dX7_moireAt_25 (fun _ _ _ h => VX_out rfl (by decide) h) fun t107 u108 => ?_
  refine V_callS (κ := KX7_moireAt) (pc := 28) (con_X7_moireOf _ _ _ _ _) mth_X7_moireOf wd_1346 wd_1345 (st0 := []) rfl rfl (by decide) (Nat.le_of_ble_eq_true rfl) dX7_moireAt_28 (fun _ _ _ h => VX_out rfl (by decide) h) fun t109 u110 => ?_
  exact V_dreturn (κ := KX7_moireAt) (pc := 31) rfl rfl dX7_moireAt_31
theorem con_X7_moireAt (a0 a1 a2 : Int) (μ : Mem) : Con (3) yX7_moireAt (.code yX7_moireAt cX7_moireAt 3 (some .double)) 4 [(2, a0), (0, a1), (0, a2)] μ (FX7_moireAt a0 a1 a2 μ) := Con_intro KX7_moireAt (plainFor_of_name (by decide)) rfl (fun h => by cases h) (by decide) rfl (Nat.le_of_ble_eq_true rfl) (fun Γ => VBX7_moireAt_0 _ _ _ _)
abbrev KX7_moire : Kap := (RX7, cX7_moire, 3, 4, 4, (some .double), false, [])
theorem VBX7_moire_44 {Γ : Gam} (s0 : Int) (μ : Mem) : V Γ KX7_moire 44 [] [(4, s0)] μ (BX7_moire_44 s0 μ) := by
  unfold BX7_moire_44
  exact V_dreturn (κ := KX7_moire) (pc := 44) rfl rfl dX7_moire_44
theorem VBX7_moire_27 {Γ : Gam} (x0 x1 x2 s0 s1 : Int) (μ : Mem) : V Γ KX7_moire 27 [(0, (2, x0)), (1, (0, x1)), (2, (0, x2))] [(0, s0), (2, s1)] μ (BX7_moire_27 x0 x1 x2 s0 s1 μ) := by
  unfold BX7_moire_27
  refine V_iconst (κ := KX7_moire) (pc := 27) dX7_moire_27 ⟨by decide, by decide⟩ ?_
  refine V_callV (ci := 7) (T := TX7) (N := 24) rfl (by decide) (κ := KX7_moire) (pc := 28) (con_X7_right _ _ _ _) mth_X7_right rfl ⟨wd_1086, wp_35⟩ wd_1084 (st0 := []) rfl rfl (by decide) (Nat.le_of_ble_eq_true rfl) dX7_moire_28 (fun _ _ _ h => VX_out rfl (by decide) h) fun t101 u102 => ?_
  refine V_if_eq (κ := KX7_moire) (pc := 31) (tgt := 43) dX7_moire_31 rfl ?_ ?_
  · refine V_dconst0 (κ := KX7_moire) (pc := 43) dX7_moire_43 ?_
    refine V_sub (lv' := []) [] rfl ?_
    exact VBX7_moire_44 _ _
  refine V_aload_n (κ := KX7_moire) (pc := 34) dX7_moire_34 0 rfl rfl ?_
  refine V_iload_n (κ := KX7_moire) (pc := 35) dX7_moire_35 1 rfl ?_
  refine V_iload_n (κ := KX7_moire) (pc := 36) dX7_moire_36 2 rfl ?_
  refine V_callV (ci := 7) (T := TX7) (N := 24) rfl (by decide) (κ := KX7_moire) (pc := 37) (con_X7_moireAt _ _ _ _) mth_X7_moireAt rfl ⟨wd_1343, wp_81⟩ wd_1341 (st0 := []) rfl rfl (by decide) (Nat.le_of_ble_eq_true rfl) dX7_moire_37 (fun _ _ _ h => VX_out rfl (by decide) h) fun t103 u104 => ?_
  refine V_goto (κ := KX7_moire) (pc := 40) (tgt := 44) dX7_moire_40 rfl ?_
  refine V_sub (lv' := []) [] rfl ?_
  exact VBX7_moire_44 _ _
theorem VBX7_moire_26 {Γ : Gam} (x0 x1 x2 s0 : Int) (μ : Mem) : V Γ KX7_moire 26 [(0, (2, x0)), (1, (0, x1)), (2, (0, x2))] [(2, s0)] μ (BX7_moire_26 x0 x1 x2 s0 μ) := by
  unfold BX7_moire_26
  refine V_iconst (κ := KX7_moire) (pc := 26) dX7_moire_26 ⟨by decide, by decide⟩ ?_
  exact VBX7_moire_27 _ _ _ _ _ _
theorem VBX7_moire_0 {Γ : Gam} (x0 x1 x2 : Int) (μ : Mem) : V Γ KX7_moire 0 [(0, (2, x0)), (1, (0, x1)), (2, (0, x2))] [] μ (BX7_moire_0 x0 x1 x2 μ) := by
  unfold BX7_moire_0
  refine V_aload_n (κ := KX7_moire) (pc := 0) dX7_moire_0 0 rfl rfl ?_
  refine V_iconst (κ := KX7_moire) (pc := 1) dX7_moire_1 ⟨by decide, by decide⟩ ?_
  refine V_putf 7 (κ := KX7_moire) (pc := 2) rfl (by decide) rfl inX7 tyX7 tyX7_ok nmX7 0 (by decide) wd_987 rfl rfl (t := 0) rfl rfl dX7_moire_2 fun u101 => ?_
  refine V_aload_n (κ := KX7_moire) (pc := 5) dX7_moire_5 0 rfl rfl ?_
  refine V_aload_n (κ := KX7_moire) (pc := 6) dX7_moire_6 0 rfl rfl ?_
  refine V_iload_n (κ := KX7_moire) (pc := 7) dX7_moire_7 1 rfl ?_
  refine V_callV (ci := 7) (T := TX7) (N := 24) rfl (by decide) (κ := KX7_moire) (pc := 8) (con_X7_isPlate _ _ _) mth_X7_isPlate rfl ⟨wd_1291, wp_75⟩ wd_1289 (st0 := [(2, x0)]) rfl rfl (by decide) (Nat.le_of_ble_eq_true rfl) dX7_moire_8 (fun _ _ _ h => VX_out rfl (by decide) h) fun t102 u103 => ?_
  refine V_if_eq (κ := KX7_moire) (pc := 11) (tgt := 26) dX7_moire_11 rfl ?_ ?_
  · exact VBX7_moire_26 _ _ _ _ _
  refine V_aload_n (κ := KX7_moire) (pc := 14) dX7_moire_14 0 rfl rfl ?_
  refine V_iload_n (κ := KX7_moire) (pc := 15) dX7_moire_15 2 rfl ?_
  refine V_callV (ci := 7) (T := TX7) (N := 24) rfl (by decide) (κ := KX7_moire) (pc := 16) (con_X7_isPlate _ _ _) mth_X7_isPlate rfl ⟨wd_1291, wp_75⟩ wd_1289 (st0 := [(2, x0)]) rfl rfl (by decide) (Nat.le_of_ble_eq_true rfl) dX7_moire_16 (fun _ _ _ h => VX_out rfl (by decide) h) fun t104 u105 => ?_
  refine V_if_eq (κ := KX7_moire) (pc := 19) (tgt := 26) dX7_moire_19 rfl ?_ ?_
  · exact VBX7_moire_26 _ _ _ _ _
  refine V_iconst (κ := KX7_moire) (pc := 22) dX7_moire_22 ⟨by decide, by decide⟩ ?_
  refine V_goto (κ := KX7_moire) (pc := 23) (tgt := 27) dX7_moire_23 rfl ?_
  exact VBX7_moire_27 _ _ _ _ _ _
theorem con_X7_moire (a0 a1 a2 : Int) (μ : Mem) : Con (4) yX7_moire (.code yX7_moire cX7_moire 3 (some .double)) 4 [(2, a0), (0, a1), (0, a2)] μ (FX7_moire a0 a1 a2 μ) := Con_intro KX7_moire (plainFor_of_name (by decide)) rfl (fun h => by cases h) (by decide) rfl (Nat.le_of_ble_eq_true rfl) (fun Γ => VBX7_moire_0 _ _ _ _)
abbrev KX7_off : Kap := (RX7, cX7_off, 9, 7, 0, (some .int), false, [])
theorem VBX7_off_38 {Γ : Gam} (μ : Mem) : V Γ KX7_off 38 [] [] μ (BX7_off_38 μ) := by
  unfold BX7_off_38
  refine V_iconst (κ := KX7_off) (pc := 38) dX7_off_38 ⟨by decide, by decide⟩ ?_
  exact V_ireturn (κ := KX7_off) (pc := 39) rfl rfl dX7_off_39
theorem VBX7_off_123 {Γ : Gam} {k81 : Int → Int → Int → Int → Int → Int → Int → Mem → Rz} (hk81 : ∀ (y0 y1 y3 y4 y5 y6 y7 : Int) (ν : Mem), V Γ KX7_off 81 [(0, (2, y0)), (1, (0, y1)), (3, (0, y3)), (4, (0, y4)), (5, (0, y5)), (6, (0, y6)), (7, (0, y7))] [] ν (k81 y0 y1 y3 y4 y5 y6 y7 ν)) {k94 : Int → Int → Int → Int → Int → Int → Int → Int → Mem → Rz} (hk94 : ∀ (y0 y1 y3 y4 y5 y6 y7 y8 : Int) (ν : Mem), V Γ KX7_off 94 [(0, (2, y0)), (1, (0, y1)), (3, (0, y3)), (4, (0, y4)), (5, (0, y5)), (6, (0, y6)), (7, (0, y7)), (8, (0, y8))] [] ν (k94 y0 y1 y3 y4 y5 y6 y7 y8 ν)) (x0 x1 x3 x4 x5 x7 x8 s0 s1 : Int) (μ : Mem) : V Γ KX7_off 123 [(0, (2, x0)), (1, (0, x1)), (3, (0, x3)), (4, (0, x4)), (5, (0, x5)), (7, (0, x7)), (8, (0, x8))] [(0, s0), (0, s1)] μ (BX7_off_123 k81 k94 x0 x1 x3 x4 x5 x7 x8 s0 s1 μ) := by
  unfold BX7_off_123
  refine V_aload_n (κ := KX7_off) (pc := 123) dX7_off_123 0 rfl rfl ?_
  refine V_getf 7 (κ := KX7_off) (pc := 124) rfl (by decide) rfl inX7 8 (by decide) wd_995 rfl (t := 2) rfl dX7_off_124 fun t101 => ?_
  refine V_sipush (κ := KX7_off) (pc := 127) dX7_off_127 ⟨by decide, by decide⟩ (by decide) ?_
  refine V_iload_n (κ := KX7_off) (pc := 130) dX7_off_130 1 rfl ?_
  refine V_imul (κ := KX7_off) (pc := 131) dX7_off_131 ?_
  refine V_bipush (κ := KX7_off) (pc := 132) dX7_off_132 ⟨by decide, by decide⟩ (by decide) ?_
  refine V_iload (κ := KX7_off) (pc := 134) dX7_off_134 5 rfl ?_
  refine V_imul (κ := KX7_off) (pc := 136) dX7_off_136 ?_
  refine V_iadd (κ := KX7_off) (pc := 137) dX7_off_137 ?_
  refine V_iload (κ := KX7_off) (pc := 138) dX7_off_138 6 rfl ?_
  refine V_iadd (κ := KX7_off) (pc := 140) dX7_off_140 ?_
  refine V_iaload (κ := KX7_off) (pc := 141) dX7_off_141 fun t102 => ?_
  refine V_isub (κ := KX7_off) (pc := 142) dX7_off_142 ?_
  refine V_iadd (κ := KX7_off) (pc := 143) dX7_off_143 ?_
  refine V_LT fun x103 => ?_
  refine V_istore (κ := KX7_off) (pc := 144) (lv' := [(6, (0, x103)), (0, (2, x0)), (1, (0, x1)), (3, (0, x3)), (4, (0, x4)), (5, (0, x5)), (7, (0, x7)), (8, (0, x8))]) dX7_off_144 (by decide) rfl ?_
  refine V_iinc (κ := KX7_off) (pc := 146) (lv' := [(8, (0, w32 (x8 + 1))), (6, (0, x103)), (0, (2, x0)), (1, (0, x1)), (3, (0, x3)), (4, (0, x4)), (5, (0, x5)), (7, (0, x7))]) dX7_off_146 7 rfl (by decide) rfl ?_
  refine V_goto (κ := KX7_off) (pc := 149) (tgt := 94) dX7_off_149 rfl ?_
  refine V_sub (lv' := [(0, (2, x0)), (1, (0, x1)), (3, (0, x3)), (4, (0, x4)), (5, (0, x5)), (6, (0, x103)), (7, (0, x7)), (8, (0, w32 (x8 + 1)))]) [2, 3, 4, 5, 6, 1, 7, 0] rfl ?_
  exact hk94 _ _ _ _ _ _ _ _ _
theorem VBX7_off_94 {Γ : Gam} {k81 : Int → Int → Int → Int → Int → Int → Int → Mem → Rz} (hk81 : ∀ (y0 y1 y3 y4 y5 y6 y7 : Int) (ν : Mem), V Γ KX7_off 81 [(0, (2, y0)), (1, (0, y1)), (3, (0, y3)), (4, (0, y4)), (5, (0, y5)), (6, (0, y6)), (7, (0, y7))] [] ν (k81 y0 y1 y3 y4 y5 y6 y7 ν)) {k94 : Int → Int → Int → Int → Int → Int → Int → Int → Mem → Rz} (hk94 : ∀ (y0 y1 y3 y4 y5 y6 y7 y8 : Int) (ν : Mem), V Γ KX7_off 94 [(0, (2, y0)), (1, (0, y1)), (3, (0, y3)), (4, (0, y4)), (5, (0, y5)), (6, (0, y6)), (7, (0, y7)), (8, (0, y8))] [] ν (k94 y0 y1 y3 y4 y5 y6 y7 y8 ν)) (x0 x1 x3 x4 x5 x6 x7 x8 : Int) (μ : Mem) : V Γ KX7_off 94 [(0, (2, x0)), (1, (0, x1)), (3, (0, x3)), (4, (0, x4)), (5, (0, x5)), (6, (0, x6)), (7, (0, x7)), (8, (0, x8))] [] μ (BX7_off_94 k81 k94 x0 x1 x3 x4 x5 x6 x7 x8 μ) := by
  unfold BX7_off_94
  refine V_iload (κ := KX7_off) (pc := 94) dX7_off_94 7 rfl ?_
  refine V_iload (κ := KX7_off) (pc := 96) dX7_off_96 3 rfl ?_
  refine V_iload_n (κ := KX7_off) (pc := 98) dX7_off_98 2 rfl ?_
  refine V_iadd (κ := KX7_off) (pc := 99) dX7_off_99 ?_
  refine V_icmp_ge (κ := KX7_off) (pc := 100) (tgt := 152) dX7_off_100 rfl ?_ ?_
  · refine V_iinc (κ := KX7_off) (pc := 152) (lv' := [(7, (0, w32 (x7 + 1))), (0, (2, x0)), (1, (0, x1)), (3, (0, x3)), (4, (0, x4)), (5, (0, x5)), (6, (0, x6)), (8, (0, x8))]) dX7_off_152 6 rfl (by decide) rfl ?_
    refine V_goto (κ := KX7_off) (pc := 155) (tgt := 81) dX7_off_155 rfl ?_
    refine V_sub (lv' := [(0, (2, x0)), (1, (0, x1)), (3, (0, x3)), (4, (0, x4)), (5, (0, x5)), (6, (0, x6)), (7, (0, w32 (x7 + 1)))]) [1, 2, 3, 4, 5, 6, 0] rfl ?_
    exact hk81 _ _ _ _ _ _ _ _
  refine V_iload (κ := KX7_off) (pc := 103) dX7_off_103 5 rfl ?_
  refine V_aload_n (κ := KX7_off) (pc := 105) dX7_off_105 0 rfl rfl ?_
  refine V_iload_n (κ := KX7_off) (pc := 106) dX7_off_106 1 rfl ?_
  refine V_iload (κ := KX7_off) (pc := 107) dX7_off_107 7 rfl ?_
  refine V_iload (κ := KX7_off) (pc := 109) dX7_off_109 6 rfl ?_
  refine V_callV (ci := 7) (T := TX7) (N := 24) rfl (by decide) (κ := KX7_off) (pc := 111) (con_X7_hasDot _ _ _ _ _) mth_X7_hasDot rfl ⟨wd_1267, wp_71⟩ wd_1265 (st0 := [(0, x6)]) rfl rfl (by decide) (Nat.le_of_ble_eq_true rfl) dX7_off_111 (fun _ _ _ h => VX_out rfl (by decide) h) fun t101 u102 => ?_
  refine V_if_eq (κ := KX7_off) (pc := 114) (tgt := 122) dX7_off_114 rfl ?_ ?_
  · refine V_iconst (κ := KX7_off) (pc := 122) dX7_off_122 ⟨by decide, by decide⟩ ?_
    refine V_sub (lv' := [(0, (2, x0)), (1, (0, x1)), (3, (0, x3)), (4, (0, x4)), (5, (0, x5)), (7, (0, x7)), (8, (0, x8))]) [0, 1, 2, 3, 4, 6, 7] rfl ?_
    exact VBX7_off_123 hk81 hk94 _ _ _ _ _ _ _ _ _ _
  refine V_bipush (κ := KX7_off) (pc := 117) dX7_off_117 ⟨by decide, by decide⟩ (by decide) ?_
  refine V_goto (κ := KX7_off) (pc := 119) (tgt := 123) dX7_off_119 rfl ?_
  refine V_sub (lv' := [(0, (2, x0)), (1, (0, x1)), (3, (0, x3)), (4, (0, x4)), (5, (0, x5)), (7, (0, x7)), (8, (0, x8))]) [0, 1, 2, 3, 4, 6, 7] rfl ?_
  exact VBX7_off_123 hk81 hk94 _ _ _ _ _ _ _ _ _ _
theorem VLX7_off_94 {Γ : Gam} {k81 : Int → Int → Int → Int → Int → Int → Int → Mem → Rz} (hk81 : ∀ (y0 y1 y3 y4 y5 y6 y7 : Int) (ν : Mem), V Γ KX7_off 81 [(0, (2, y0)), (1, (0, y1)), (3, (0, y3)), (4, (0, y4)), (5, (0, y5)), (6, (0, y6)), (7, (0, y7))] [] ν (k81 y0 y1 y3 y4 y5 y6 y7 ν)) : ∀ (n : Nat) (x0 x1 x3 x4 x5 x6 x7 x8 : Int) (μ : Mem), V Γ KX7_off 94 [(0, (2, x0)), (1, (0, x1)), (3, (0, x3)), (4, (0, x4)), (5, (0, x5)), (6, (0, x6)), (7, (0, x7)), (8, (0, x8))] [] μ (LX7_off_94 k81 n x0 x1 x3 x4 x5 x6 x7 x8 μ)
  | 0, _, _, _, _, _, _, _, _, _ => V_none
  | n + 1, x0, x1, x3, x4, x5, x6, x7, x8, μ => VBX7_off_94 hk81 (fun y0 y1 y3 y4 y5 y6 y7 y8 ν => VLX7_off_94 hk81 n y0 y1 y3 y4 y5 y6 y7 y8 ν) x0 x1 x3 x4 x5 x6 x7 x8 μ
theorem VBX7_off_81 {Γ : Gam} {k81 : Int → Int → Int → Int → Int → Int → Int → Mem → Rz} (hk81 : ∀ (y0 y1 y3 y4 y5 y6 y7 : Int) (ν : Mem), V Γ KX7_off 81 [(0, (2, y0)), (1, (0, y1)), (3, (0, y3)), (4, (0, y4)), (5, (0, y5)), (6, (0, y6)), (7, (0, y7))] [] ν (k81 y0 y1 y3 y4 y5 y6 y7 ν)) (x0 x1 x3 x4 x5 x6 x7 : Int) (μ : Mem) : V Γ KX7_off 81 [(0, (2, x0)), (1, (0, x1)), (3, (0, x3)), (4, (0, x4)), (5, (0, x5)), (6, (0, x6)), (7, (0, x7))] [] μ (BX7_off_81 k81 x0 x1 x3 x4 x5 x6 x7 μ) := by
  unfold BX7_off_81
  refine V_iload (κ := KX7_off) (pc := 81) dX7_off_81 6 rfl ?_
  refine V_iload (κ := KX7_off) (pc := 83) dX7_off_83 4 rfl ?_
  refine V_iload_n (κ := KX7_off) (pc := 85) dX7_off_85 2 rfl ?_
  refine V_iadd (κ := KX7_off) (pc := 86) dX7_off_86 ?_
  refine V_icmp_ge (κ := KX7_off) (pc := 87) (tgt := 158) dX7_off_87 rfl ?_ ?_
  · refine V_iload (κ := KX7_off) (pc := 158) dX7_off_158 5 rfl ?_
    exact V_ireturn (κ := KX7_off) (pc := 160) rfl rfl dX7_off_160
  refine V_iload (κ := KX7_off) (pc := 90) dX7_off_90 3 rfl ?_
  refine V_istore (κ := KX7_off) (pc := 92) (lv' := [(8, (0, x4)), (0, (2, x0)), (1, (0, x1)), (3, (0, x3)), (4, (0, x4)), (5, (0, x5)), (6, (0, x6)), (7, (0, x7))]) dX7_off_92 (by decide) rfl ?_
  refine V_sub (lv' := [(0, (2, x0)), (1, (0, x1)), (3, (0, x3)), (4, (0, x4)), (5, (0, x5)), (6, (0, x6)), (7, (0, x7)), (8, (0, x4))]) [1, 2, 3, 4, 5, 6, 7, 0] rfl ?_
  exact VLX7_off_94 hk81 FU _ _ _ _ _ _ _ _ _
theorem VLX7_off_81 {Γ : Gam} : ∀ (n : Nat) (x0 x1 x3 x4 x5 x6 x7 : Int) (μ : Mem), V Γ KX7_off 81 [(0, (2, x0)), (1, (0, x1)), (3, (0, x3)), (4, (0, x4)), (5, (0, x5)), (6, (0, x6)), (7, (0, x7))] [] μ (LX7_off_81 n x0 x1 x3 x4 x5 x6 x7 μ)
  | 0, _, _, _, _, _, _, _, _ => V_none
  | n + 1, x0, x1, x3, x4, x5, x6, x7, μ => VBX7_off_81 (fun y0 y1 y3 y4 y5 y6 y7 ν => VLX7_off_81 n y0 y1 y3 y4 y5 y6 y7 ν) x0 x1 x3 x4 x5 x6 x7 μ
theorem VBX7_off_0 {Γ : Gam} (x0 x1 x2 : Int) (μ : Mem) : V Γ KX7_off 0 [(0, (2, x0)), (1, (0, x1)), (2, (0, x2))] [] μ (BX7_off_0 x0 x1 x2 μ) := by
  unfold BX7_off_0
  refine V_aload_n (κ := KX7_off) (pc := 0) dX7_off_0 0 rfl rfl ?_
  refine V_iconst (κ := KX7_off) (pc := 1) dX7_off_1 ⟨by decide, by decide⟩ ?_
  refine V_putf 7 (κ := KX7_off) (pc := 2) rfl (by decide) rfl inX7 tyX7 tyX7_ok nmX7 0 (by decide) wd_987 rfl rfl (t := 0) rfl rfl dX7_off_2 fun u101 => ?_
  refine V_aload_n (κ := KX7_off) (pc := 5) dX7_off_5 0 rfl rfl ?_
  refine V_aload_n (κ := KX7_off) (pc := 6) dX7_off_6 0 rfl rfl ?_
  refine V_iload_n (κ := KX7_off) (pc := 7) dX7_off_7 1 rfl ?_
  refine V_callV (ci := 7) (T := TX7) (N := 24) rfl (by decide) (κ := KX7_off) (pc := 8) (con_X7_isPlate _ _ _) mth_X7_isPlate rfl ⟨wd_1291, wp_75⟩ wd_1289 (st0 := [(2, x0)]) rfl rfl (by decide) (Nat.le_of_ble_eq_true rfl) dX7_off_8 (fun _ _ _ h => VX_out rfl (by decide) h) fun t102 u103 => ?_
  refine V_iconst (κ := KX7_off) (pc := 11) dX7_off_11 ⟨by decide, by decide⟩ ?_
  refine V_callV (ci := 7) (T := TX7) (N := 24) rfl (by decide) (κ := KX7_off) (pc := 12) (con_X7_right _ _ _ _) mth_X7_right rfl ⟨wd_1086, wp_35⟩ wd_1084 (st0 := []) rfl rfl (by decide) (Nat.le_of_ble_eq_true rfl) dX7_off_12 (fun _ _ _ h => VX_out rfl (by decide) h) fun t104 u105 => ?_
  refine V_if_eq (κ := KX7_off) (pc := 15) (tgt := 38) dX7_off_15 rfl ?_ ?_
  · refine V_sub (lv' := []) [] rfl ?_
    exact VBX7_off_38 _
  refine V_aload_n (κ := KX7_off) (pc := 18) dX7_off_18 0 rfl rfl ?_
  refine V_iload_n (κ := KX7_off) (pc := 19) dX7_off_19 2 rfl ?_
  refine V_iconst (κ := KX7_off) (pc := 20) dX7_off_20 ⟨by decide, by decide⟩ ?_
  refine V_aload_n (κ := KX7_off) (pc := 21) dX7_off_21 0 rfl rfl ?_
  refine V_iload_n (κ := KX7_off) (pc := 22) dX7_off_22 1 rfl ?_
  refine V_callV (ci := 7) (T := TX7) (N := 24) rfl (by decide) (κ := KX7_off) (pc := 23) (con_X7_blocks _ _ _) mth_X7_blocks rfl ⟨wd_1307, wp_79⟩ wd_1305 (st0 := [(0, 0), (0, x2), (2, x0)]) rfl rfl (by decide) (Nat.le_of_ble_eq_true rfl) dX7_off_23 (fun _ _ _ h => VX_out rfl (by decide) h) fun t106 u107 => ?_
  refine V_iconst (κ := KX7_off) (pc := 26) dX7_off_26 ⟨by decide, by decide⟩ ?_
  refine V_isub (κ := KX7_off) (pc := 27) dX7_off_27 ?_
  refine V_callS (κ := KX7_off) (pc := 28) (con_X7_isIn _ _ _ _) mth_X7_isIn wd_1082 wd_1081 (st0 := [(2, x0)]) rfl rfl (by decide) (Nat.le_of_ble_eq_true rfl) dX7_off_28 (fun _ _ _ h => VX_out rfl (by decide) h) fun t108 u109 => ?_
  refine V_iconst (κ := KX7_off) (pc := 31) dX7_off_31 ⟨by decide, by decide⟩ ?_
  refine V_callV (ci := 7) (T := TX7) (N := 24) rfl (by decide) (κ := KX7_off) (pc := 32) (con_X7_right _ _ _ _) mth_X7_right rfl ⟨wd_1086, wp_35⟩ wd_1084 (st0 := []) rfl rfl (by decide) (Nat.le_of_ble_eq_true rfl) dX7_off_32 (fun _ _ _ h => VX_out rfl (by decide) h) fun t110 u111 => ?_
  refine V_if_ne (κ := KX7_off) (pc := 35) (tgt := 40) dX7_off_35 rfl ?_ ?_
  · refine V_aload_n (κ := KX7_off) (pc := 40) dX7_off_40 0 rfl rfl ?_
    refine V_callV (ci := 7) (T := TX7) (N := 24) rfl (by decide) (κ := KX7_off) (pc := 41) (con_X7_lays _ _) mth_X7_lays rfl ⟨wd_1217, wp_61⟩ wd_1215 (st0 := []) rfl rfl (by decide) (Nat.le_of_ble_eq_true rfl) dX7_off_41 (fun _ _ _ h => VX_out rfl (by decide) h) fun _ u113 => ?_
    refine V_aload_n (κ := KX7_off) (pc := 44) dX7_off_44 0 rfl rfl ?_
    refine V_iload_n (κ := KX7_off) (pc := 45) dX7_off_45 1 rfl ?_
    refine V_callV (ci := 7) (T := TX7) (N := 24) rfl (by decide) (κ := KX7_off) (pc := 46) (con_X7_squareOf _ _ _) mth_X7_squareOf rfl ⟨wd_1229, wp_64⟩ wd_1227 (st0 := []) rfl rfl (by decide) (Nat.le_of_ble_eq_true rfl) dX7_off_46 (fun _ _ _ h => VX_out rfl (by decide) h) fun t114 u115 => ?_
    refine V_istore_n (κ := KX7_off) (pc := 49) (lv' := [(3, (0, t114)), (0, (2, x0)), (1, (0, x1)), (2, (0, x2))]) dX7_off_49 (by decide) rfl ?_
    refine V_iload_n (κ := KX7_off) (pc := 50) dX7_off_50 0 rfl ?_
    refine V_iload_n (κ := KX7_off) (pc := 51) dX7_off_51 3 rfl ?_
    refine V_aload_n (κ := KX7_off) (pc := 52) dX7_off_52 1 rfl rfl ?_
    refine V_callV (ci := 7) (T := TX7) (N := 24) rfl (by decide) (κ := KX7_off) (pc := 53) (con_X7_wide _ _) mth_X7_wide rfl ⟨wd_1201, wp_57⟩ wd_1199 (st0 := [(0, x2), (0, t114)]) rfl rfl (by decide) (Nat.le_of_ble_eq_true rfl) dX7_off_53 (fun _ _ _ h => VX_out rfl (by decide) h) fun t116 u117 => ?_
    refine V_iload_n (κ := KX7_off) (pc := 56) dX7_off_56 0 rfl ?_
    refine V_idiv (κ := KX7_off) (pc := 57) dX7_off_57 fun t118 => ?_
    refine V_irem (κ := KX7_off) (pc := 58) dX7_off_58 fun t119 => ?_
    refine V_imul (κ := KX7_off) (pc := 59) dX7_off_59 ?_
    refine V_LT fun x120 => ?_
    refine V_istore (κ := KX7_off) (pc := 60) (lv' := [(4, (0, x120)), (3, (0, t114)), (0, (2, x0)), (1, (0, x1)), (2, (0, x2))]) dX7_off_60 (by decide) rfl ?_
    refine V_iload_n (κ := KX7_off) (pc := 62) dX7_off_62 1 rfl ?_
    refine V_iload_n (κ := KX7_off) (pc := 63) dX7_off_63 4 rfl ?_
    refine V_aload_n (κ := KX7_off) (pc := 64) dX7_off_64 2 rfl rfl ?_
    refine V_callV (ci := 7) (T := TX7) (N := 24) rfl (by decide) (κ := KX7_off) (pc := 65) (con_X7_wide _ _) mth_X7_wide rfl ⟨wd_1201, wp_57⟩ wd_1199 (st0 := [(0, x2), (0, t114)]) rfl rfl (by decide) (Nat.le_of_ble_eq_true rfl) dX7_off_65 (fun _ _ _ h => VX_out rfl (by decide) h) fun t121 u122 => ?_
    refine V_iload_n (κ := KX7_off) (pc := 68) dX7_off_68 1 rfl ?_
    refine V_idiv (κ := KX7_off) (pc := 69) dX7_off_69 fun t123 => ?_
    refine V_idiv (κ := KX7_off) (pc := 70) dX7_off_70 fun t124 => ?_
    refine V_imul (κ := KX7_off) (pc := 71) dX7_off_71 ?_
    refine V_LT fun x125 => ?_
    refine V_istore (κ := KX7_off) (pc := 72) (lv' := [(5, (0, x125)), (4, (0, x120)), (3, (0, t114)), (0, (2, x0)), (1, (0, x1)), (2, (0, x2))]) dX7_off_72 (by decide) rfl ?_
    refine V_iconst (κ := KX7_off) (pc := 74) dX7_off_74 ⟨by decide, by decide⟩ ?_
    refine V_istore (κ := KX7_off) (pc := 75) (lv' := [(6, (0, 0)), (5, (0, x125)), (4, (0, x120)), (3, (0, t114)), (0, (2, x0)), (1, (0, x1)), (2, (0, x2))]) dX7_off_75 (by decide) rfl ?_
    refine V_iload (κ := KX7_off) (pc := 77) dX7_off_77 1 rfl ?_
    refine V_istore (κ := KX7_off) (pc := 79) (lv' := [(7, (0, x125)), (6, (0, 0)), (5, (0, x125)), (4, (0, x120)), (3, (0, t114)), (0, (2, x0)), (1, (0, x1)), (2, (0, x2))]) dX7_off_79 (by decide) rfl ?_
    refine V_sub (lv' := [(0, (2, x0)), (1, (0, x1)), (3, (0, t114)), (4, (0, x120)), (5, (0, x125)), (6, (0, 0)), (7, (0, x125))]) [5, 6, 4, 3, 2, 1, 0] rfl ?_
    exact VLX7_off_81 FU _ _ _ _ _ _ _ _
  refine V_sub (lv' := []) [] rfl ?_
  exact VBX7_off_38 _
theorem con_X7_off (a0 a1 a2 : Int) (μ : Mem) : Con (7) yX7_off (.code yX7_off cX7_off 9 (some .int)) 0 [(2, a0), (0, a1), (0, a2)] μ (FX7_off a0 a1 a2 μ) := Con_intro KX7_off (plainFor_of_name (by decide)) rfl (fun h => by cases h) (by decide) rfl (Nat.le_of_ble_eq_true rfl) (fun Γ => VBX7_off_0 _ _ _ _)
abbrev KX7_paint : Kap := (RX7, cX7_paint, 8, 9, 0, (some .int), false, [])
theorem VBX7_paint_72 {Γ : Gam} (μ : Mem) : V Γ KX7_paint 72 [] [] μ (BX7_paint_72 μ) := by
  unfold BX7_paint_72
  refine V_iconst (κ := KX7_paint) (pc := 72) dX7_paint_72 ⟨by decide, by decide⟩ ?_
  exact V_ireturn (κ := KX7_paint) (pc := 73) rfl rfl dX7_paint_73
theorem VBX7_paint_93 {Γ : Gam} {k81 : Int → Int → Int → Int → Int → Int → Int → Mem → Rz} (hk81 : ∀ (y0 y1 y2 y3 y4 y5 y6 : Int) (ν : Mem), V Γ KX7_paint 81 [(0, (2, y0)), (1, (0, y1)), (2, (0, y2)), (3, (0, y3)), (4, (0, y4)), (5, (0, y5)), (6, (0, y6))] [] ν (k81 y0 y1 y2 y3 y4 y5 y6 ν)) {k93 : Int → Int → Int → Int → Int → Int → Int → Int → Mem → Rz} (hk93 : ∀ (y0 y1 y2 y3 y4 y5 y6 y7 : Int) (ν : Mem), V Γ KX7_paint 93 [(0, (2, y0)), (1, (0, y1)), (2, (0, y2)), (3, (0, y3)), (4, (0, y4)), (5, (0, y5)), (6, (0, y6)), (7, (0, y7))] [] ν (k93 y0 y1 y2 y3 y4 y5 y6 y7 ν)) (x0 x1 x2 x3 x4 x5 x6 x7 : Int) (μ : Mem) : V Γ KX7_paint 93 [(0, (2, x0)), (1, (0, x1)), (2, (0, x2)), (3, (0, x3)), (4, (0, x4)), (5, (0, x5)), (6, (0, x6)), (7, (0, x7))] [] μ (BX7_paint_93 k81 k93 x0 x1 x2 x3 x4 x5 x6 x7 μ) := by
  unfold BX7_paint_93
  refine V_iload (κ := KX7_paint) (pc := 93) dX7_paint_93 7 rfl ?_
  refine V_iload_n (κ := KX7_paint) (pc := 95) dX7_paint_95 1 rfl ?_
  refine V_iload_n (κ := KX7_paint) (pc := 96) dX7_paint_96 3 rfl ?_
  refine V_iadd (κ := KX7_paint) (pc := 97) dX7_paint_97 ?_
  refine V_icmp_ge (κ := KX7_paint) (pc := 98) (tgt := 123) dX7_paint_98 rfl ?_ ?_
  · refine V_iinc (κ := KX7_paint) (pc := 123) (lv' := [(6, (0, w32 (x6 + 1))), (0, (2, x0)), (1, (0, x1)), (2, (0, x2)), (3, (0, x3)), (4, (0, x4)), (5, (0, x5)), (7, (0, x7))]) dX7_paint_123 6 rfl (by decide) rfl ?_
    refine V_goto (κ := KX7_paint) (pc := 126) (tgt := 81) dX7_paint_126 rfl ?_
    refine V_sub (lv' := [(0, (2, x0)), (1, (0, x1)), (2, (0, x2)), (3, (0, x3)), (4, (0, x4)), (5, (0, x5)), (6, (0, w32 (x6 + 1)))]) [1, 2, 3, 4, 5, 6, 0] rfl ?_
    exact hk81 _ _ _ _ _ _ _ _
  refine V_aload_n (κ := KX7_paint) (pc := 101) dX7_paint_101 0 rfl rfl ?_
  refine V_iconst (κ := KX7_paint) (pc := 102) dX7_paint_102 ⟨by decide, by decide⟩ ?_
  refine V_bipush (κ := KX7_paint) (pc := 103) dX7_paint_103 ⟨by decide, by decide⟩ (by decide) ?_
  refine V_iload (κ := KX7_paint) (pc := 105) dX7_paint_105 6 rfl ?_
  refine V_imul (κ := KX7_paint) (pc := 107) dX7_paint_107 ?_
  refine V_iadd (κ := KX7_paint) (pc := 108) dX7_paint_108 ?_
  refine V_iload (κ := KX7_paint) (pc := 109) dX7_paint_109 7 rfl ?_
  refine V_iadd (κ := KX7_paint) (pc := 111) dX7_paint_111 ?_
  refine V_iload (κ := KX7_paint) (pc := 112) dX7_paint_112 5 rfl ?_
  refine V_callV (ci := 7) (T := TX7) (N := 24) rfl (by decide) (κ := KX7_paint) (pc := 114) (con_X7_put _ _ _ _) mth_X7_put rfl ⟨wd_1185, wp_54⟩ wd_1183 (st0 := []) rfl rfl (by decide) (Nat.le_of_ble_eq_true rfl) dX7_paint_114 (fun _ _ _ h => VX_out rfl (by decide) h) fun _ u102 => ?_
  refine V_iinc (κ := KX7_paint) (pc := 117) (lv' := [(7, (0, w32 (x7 + 1))), (0, (2, x0)), (1, (0, x1)), (2, (0, x2)), (3, (0, x3)), (4, (0, x4)), (5, (0, x5)), (6, (0, x6))]) dX7_paint_117 7 rfl (by decide) rfl ?_
  refine V_goto (κ := KX7_paint) (pc := 120) (tgt := 93) dX7_paint_120 rfl ?_
  refine V_sub (lv' := [(0, (2, x0)), (1, (0, x1)), (2, (0, x2)), (3, (0, x3)), (4, (0, x4)), (5, (0, x5)), (6, (0, x6)), (7, (0, w32 (x7 + 1)))]) [1, 2, 3, 4, 5, 6, 7, 0] rfl ?_
  exact hk93 _ _ _ _ _ _ _ _ _
theorem VLX7_paint_93 {Γ : Gam} {k81 : Int → Int → Int → Int → Int → Int → Int → Mem → Rz} (hk81 : ∀ (y0 y1 y2 y3 y4 y5 y6 : Int) (ν : Mem), V Γ KX7_paint 81 [(0, (2, y0)), (1, (0, y1)), (2, (0, y2)), (3, (0, y3)), (4, (0, y4)), (5, (0, y5)), (6, (0, y6))] [] ν (k81 y0 y1 y2 y3 y4 y5 y6 ν)) : ∀ (n : Nat) (x0 x1 x2 x3 x4 x5 x6 x7 : Int) (μ : Mem), V Γ KX7_paint 93 [(0, (2, x0)), (1, (0, x1)), (2, (0, x2)), (3, (0, x3)), (4, (0, x4)), (5, (0, x5)), (6, (0, x6)), (7, (0, x7))] [] μ (LX7_paint_93 k81 n x0 x1 x2 x3 x4 x5 x6 x7 μ)
  | 0, _, _, _, _, _, _, _, _, _ => V_none
  | n + 1, x0, x1, x2, x3, x4, x5, x6, x7, μ => VBX7_paint_93 hk81 (fun y0 y1 y2 y3 y4 y5 y6 y7 ν => VLX7_paint_93 hk81 n y0 y1 y2 y3 y4 y5 y6 y7 ν) x0 x1 x2 x3 x4 x5 x6 x7 μ
theorem VBX7_paint_81 {Γ : Gam} {k81 : Int → Int → Int → Int → Int → Int → Int → Mem → Rz} (hk81 : ∀ (y0 y1 y2 y3 y4 y5 y6 : Int) (ν : Mem), V Γ KX7_paint 81 [(0, (2, y0)), (1, (0, y1)), (2, (0, y2)), (3, (0, y3)), (4, (0, y4)), (5, (0, y5)), (6, (0, y6))] [] ν (k81 y0 y1 y2 y3 y4 y5 y6 ν)) (x0 x1 x2 x3 x4 x5 x6 : Int) (μ : Mem) : V Γ KX7_paint 81 [(0, (2, x0)), (1, (0, x1)), (2, (0, x2)), (3, (0, x3)), (4, (0, x4)), (5, (0, x5)), (6, (0, x6))] [] μ (BX7_paint_81 k81 x0 x1 x2 x3 x4 x5 x6 μ) := by
  unfold BX7_paint_81
  refine V_iload (κ := KX7_paint) (pc := 81) dX7_paint_81 6 rfl ?_
  refine V_iload_n (κ := KX7_paint) (pc := 83) dX7_paint_83 2 rfl ?_
  refine V_iload (κ := KX7_paint) (pc := 84) dX7_paint_84 4 rfl ?_
  refine V_iadd (κ := KX7_paint) (pc := 86) dX7_paint_86 ?_
  refine V_icmp_ge (κ := KX7_paint) (pc := 87) (tgt := 129) dX7_paint_87 rfl ?_ ?_
  · refine V_aload_n (κ := KX7_paint) (pc := 129) dX7_paint_129 0 rfl rfl ?_
    refine V_callV (ci := 7) (T := TX7) (N := 24) rfl (by decide) (κ := KX7_paint) (pc := 130) (con_X7_allDots _ _) mth_X7_allDots rfl ⟨wd_1209, wp_59⟩ wd_1207 (st0 := []) rfl rfl (by decide) (Nat.le_of_ble_eq_true rfl) dX7_paint_130 (fun _ _ _ h => VX_out rfl (by decide) h) fun t101 u102 => ?_
    exact V_ireturn (κ := KX7_paint) (pc := 133) rfl rfl dX7_paint_133
  refine V_iload_n (κ := KX7_paint) (pc := 90) dX7_paint_90 1 rfl ?_
  refine V_istore (κ := KX7_paint) (pc := 91) (lv' := [(7, (0, x1)), (0, (2, x0)), (1, (0, x1)), (2, (0, x2)), (3, (0, x3)), (4, (0, x4)), (5, (0, x5)), (6, (0, x6))]) dX7_paint_91 (by decide) rfl ?_
  refine V_sub (lv' := [(0, (2, x0)), (1, (0, x1)), (2, (0, x2)), (3, (0, x3)), (4, (0, x4)), (5, (0, x5)), (6, (0, x6)), (7, (0, x1))]) [1, 2, 3, 4, 5, 6, 7, 0] rfl ?_
  exact VLX7_paint_93 hk81 FU _ _ _ _ _ _ _ _ _
theorem VLX7_paint_81 {Γ : Gam} : ∀ (n : Nat) (x0 x1 x2 x3 x4 x5 x6 : Int) (μ : Mem), V Γ KX7_paint 81 [(0, (2, x0)), (1, (0, x1)), (2, (0, x2)), (3, (0, x3)), (4, (0, x4)), (5, (0, x5)), (6, (0, x6))] [] μ (LX7_paint_81 n x0 x1 x2 x3 x4 x5 x6 μ)
  | 0, _, _, _, _, _, _, _, _ => V_none
  | n + 1, x0, x1, x2, x3, x4, x5, x6, μ => VBX7_paint_81 (fun y0 y1 y2 y3 y4 y5 y6 ν => VLX7_paint_81 n y0 y1 y2 y3 y4 y5 y6 ν) x0 x1 x2 x3 x4 x5 x6 μ
theorem VBX7_paint_65 {Γ : Gam} (x0 x1 x2 x3 x4 x5 s0 s1 : Int) (μ : Mem) : V Γ KX7_paint 65 [(0, (2, x0)), (1, (0, x1)), (2, (0, x2)), (3, (0, x3)), (4, (0, x4)), (5, (0, x5))] [(0, s0), (2, s1)] μ (BX7_paint_65 x0 x1 x2 x3 x4 x5 s0 s1 μ) := by
  unfold BX7_paint_65
  refine V_iconst (κ := KX7_paint) (pc := 65) dX7_paint_65 ⟨by decide, by decide⟩ ?_
  refine V_callV (ci := 7) (T := TX7) (N := 24) rfl (by decide) (κ := KX7_paint) (pc := 66) (con_X7_right _ _ _ _) mth_X7_right rfl ⟨wd_1086, wp_35⟩ wd_1084 (st0 := []) rfl rfl (by decide) (Nat.le_of_ble_eq_true rfl) dX7_paint_66 (fun _ _ _ h => VX_out rfl (by decide) h) fun t101 u102 => ?_
  refine V_if_ne (κ := KX7_paint) (pc := 69) (tgt := 74) dX7_paint_69 rfl ?_ ?_
  · refine V_aload_n (κ := KX7_paint) (pc := 74) dX7_paint_74 0 rfl rfl ?_
    refine V_callV (ci := 7) (T := TX7) (N := 24) rfl (by decide) (κ := KX7_paint) (pc := 75) (con_X7_change _ _) mth_X7_change rfl ⟨wd_1177, wp_52⟩ wd_1175 (st0 := []) rfl rfl (by decide) (Nat.le_of_ble_eq_true rfl) dX7_paint_75 (fun _ _ _ h => VX_out rfl (by decide) h) fun _ u104 => ?_
    refine V_iload_n (κ := KX7_paint) (pc := 78) dX7_paint_78 2 rfl ?_
    refine V_istore (κ := KX7_paint) (pc := 79) (lv' := [(6, (0, x2)), (0, (2, x0)), (1, (0, x1)), (2, (0, x2)), (3, (0, x3)), (4, (0, x4)), (5, (0, x5))]) dX7_paint_79 (by decide) rfl ?_
    refine V_sub (lv' := [(0, (2, x0)), (1, (0, x1)), (2, (0, x2)), (3, (0, x3)), (4, (0, x4)), (5, (0, x5)), (6, (0, x2))]) [1, 2, 3, 4, 5, 6, 0] rfl ?_
    exact VLX7_paint_81 FU _ _ _ _ _ _ _ _
  refine V_sub (lv' := []) [] rfl ?_
  exact VBX7_paint_72 _
theorem VBX7_paint_64 {Γ : Gam} (x0 x1 x2 x3 x4 x5 s0 : Int) (μ : Mem) : V Γ KX7_paint 64 [(0, (2, x0)), (1, (0, x1)), (2, (0, x2)), (3, (0, x3)), (4, (0, x4)), (5, (0, x5))] [(2, s0)] μ (BX7_paint_64 x0 x1 x2 x3 x4 x5 s0 μ) := by
  unfold BX7_paint_64
  refine V_iconst (κ := KX7_paint) (pc := 64) dX7_paint_64 ⟨by decide, by decide⟩ ?_
  exact VBX7_paint_65 _ _ _ _ _ _ _ _ _
theorem VBX7_paint_0 {Γ : Gam} (x0 x1 x2 x3 x4 x5 : Int) (μ : Mem) : V Γ KX7_paint 0 [(0, (2, x0)), (1, (0, x1)), (2, (0, x2)), (3, (0, x3)), (4, (0, x4)), (5, (0, x5))] [] μ (BX7_paint_0 x0 x1 x2 x3 x4 x5 μ) := by
  unfold BX7_paint_0
  refine V_aload_n (κ := KX7_paint) (pc := 0) dX7_paint_0 0 rfl rfl ?_
  refine V_iconst (κ := KX7_paint) (pc := 1) dX7_paint_1 ⟨by decide, by decide⟩ ?_
  refine V_putf 7 (κ := KX7_paint) (pc := 2) rfl (by decide) rfl inX7 tyX7 tyX7_ok nmX7 0 (by decide) wd_987 rfl rfl (t := 0) rfl rfl dX7_paint_2 fun u101 => ?_
  refine V_aload_n (κ := KX7_paint) (pc := 5) dX7_paint_5 0 rfl rfl ?_
  refine V_aload_n (κ := KX7_paint) (pc := 6) dX7_paint_6 0 rfl rfl ?_
  refine V_iload_n (κ := KX7_paint) (pc := 7) dX7_paint_7 1 rfl ?_
  refine V_iload_n (κ := KX7_paint) (pc := 8) dX7_paint_8 2 rfl ?_
  refine V_callV (ci := 7) (T := TX7) (N := 24) rfl (by decide) (κ := KX7_paint) (pc := 9) (con_X7_isCell _ _ _ _) mth_X7_isCell rfl ⟨wd_1271, wp_72⟩ wd_1269 (st0 := [(2, x0)]) rfl rfl (by decide) (Nat.le_of_ble_eq_true rfl) dX7_paint_9 (fun _ _ _ h => VX_out rfl (by decide) h) fun t102 u103 => ?_
  refine V_iconst (κ := KX7_paint) (pc := 12) dX7_paint_12 ⟨by decide, by decide⟩ ?_
  refine V_callV (ci := 7) (T := TX7) (N := 24) rfl (by decide) (κ := KX7_paint) (pc := 13) (con_X7_right _ _ _ _) mth_X7_right rfl ⟨wd_1086, wp_35⟩ wd_1084 (st0 := []) rfl rfl (by decide) (Nat.le_of_ble_eq_true rfl) dX7_paint_13 (fun _ _ _ h => VX_out rfl (by decide) h) fun t104 u105 => ?_
  refine V_if_eq (κ := KX7_paint) (pc := 16) (tgt := 72) dX7_paint_16 rfl ?_ ?_
  · refine V_sub (lv' := []) [] rfl ?_
    exact VBX7_paint_72 _
  refine V_aload_n (κ := KX7_paint) (pc := 19) dX7_paint_19 0 rfl rfl ?_
  refine V_iload_n (κ := KX7_paint) (pc := 20) dX7_paint_20 3 rfl ?_
  refine V_iconst (κ := KX7_paint) (pc := 21) dX7_paint_21 ⟨by decide, by decide⟩ ?_
  refine V_aload_n (κ := KX7_paint) (pc := 22) dX7_paint_22 0 rfl rfl ?_
  refine V_callV (ci := 7) (T := TX7) (N := 24) rfl (by decide) (κ := KX7_paint) (pc := 23) (con_X7_wide _ _) mth_X7_wide rfl ⟨wd_1201, wp_57⟩ wd_1199 (st0 := [(0, 1), (0, x3), (2, x0)]) rfl rfl (by decide) (Nat.le_of_ble_eq_true rfl) dX7_paint_23 (fun _ _ _ h => VX_out rfl (by decide) h) fun t106 u107 => ?_
  refine V_iload_n (κ := KX7_paint) (pc := 26) dX7_paint_26 1 rfl ?_
  refine V_isub (κ := KX7_paint) (pc := 27) dX7_paint_27 ?_
  refine V_callS (κ := KX7_paint) (pc := 28) (con_X7_isIn _ _ _ _) mth_X7_isIn wd_1082 wd_1081 (st0 := [(2, x0)]) rfl rfl (by decide) (Nat.le_of_ble_eq_true rfl) dX7_paint_28 (fun _ _ _ h => VX_out rfl (by decide) h) fun t108 u109 => ?_
  refine V_if_eq (κ := KX7_paint) (pc := 31) (tgt := 64) dX7_paint_31 rfl ?_ ?_
  · exact VBX7_paint_64 _ _ _ _ _ _ _ _
  refine V_iload (κ := KX7_paint) (pc := 34) dX7_paint_34 4 rfl ?_
  refine V_iconst (κ := KX7_paint) (pc := 36) dX7_paint_36 ⟨by decide, by decide⟩ ?_
  refine V_aload_n (κ := KX7_paint) (pc := 37) dX7_paint_37 0 rfl rfl ?_
  refine V_callV (ci := 7) (T := TX7) (N := 24) rfl (by decide) (κ := KX7_paint) (pc := 38) (con_X7_high _ _) mth_X7_high rfl ⟨wd_1205, wp_58⟩ wd_1203 (st0 := [(0, 1), (0, x4), (2, x0)]) rfl rfl (by decide) (Nat.le_of_ble_eq_true rfl) dX7_paint_38 (fun _ _ _ h => VX_out rfl (by decide) h) fun t110 u111 => ?_
  refine V_iload_n (κ := KX7_paint) (pc := 41) dX7_paint_41 2 rfl ?_
  refine V_isub (κ := KX7_paint) (pc := 42) dX7_paint_42 ?_
  refine V_callS (κ := KX7_paint) (pc := 43) (con_X7_isIn _ _ _ _) mth_X7_isIn wd_1082 wd_1081 (st0 := [(2, x0)]) rfl rfl (by decide) (Nat.le_of_ble_eq_true rfl) dX7_paint_43 (fun _ _ _ h => VX_out rfl (by decide) h) fun t112 u113 => ?_
  refine V_if_eq (κ := KX7_paint) (pc := 46) (tgt := 64) dX7_paint_46 rfl ?_ ?_
  · exact VBX7_paint_64 _ _ _ _ _ _ _ _
  refine V_iload (κ := KX7_paint) (pc := 49) dX7_paint_49 5 rfl ?_
  refine V_iconst (κ := KX7_paint) (pc := 51) dX7_paint_51 ⟨by decide, by decide⟩ ?_
  refine V_bipush (κ := KX7_paint) (pc := 52) dX7_paint_52 ⟨by decide, by decide⟩ (by decide) ?_
  refine V_callS (κ := KX7_paint) (pc := 54) (con_X7_isIn _ _ _ _) mth_X7_isIn wd_1082 wd_1081 (st0 := [(2, x0)]) rfl rfl (by decide) (Nat.le_of_ble_eq_true rfl) dX7_paint_54 (fun _ _ _ h => VX_out rfl (by decide) h) fun t114 u115 => ?_
  refine V_if_eq (κ := KX7_paint) (pc := 57) (tgt := 64) dX7_paint_57 rfl ?_ ?_
  · exact VBX7_paint_64 _ _ _ _ _ _ _ _
  refine V_iconst (κ := KX7_paint) (pc := 60) dX7_paint_60 ⟨by decide, by decide⟩ ?_
  refine V_goto (κ := KX7_paint) (pc := 61) (tgt := 65) dX7_paint_61 rfl ?_
  exact VBX7_paint_65 _ _ _ _ _ _ _ _ _
theorem con_X7_paint (a0 a1 a2 a3 a4 a5 : Int) (μ : Mem) : Con (9) yX7_paint (.code yX7_paint cX7_paint 8 (some .int)) 0 [(2, a0), (0, a1), (0, a2), (0, a3), (0, a4), (0, a5)] μ (FX7_paint a0 a1 a2 a3 a4 a5 μ) := Con_intro KX7_paint (plainFor_of_name (by decide)) rfl (fun h => by cases h) (by decide) rfl (Nat.le_of_ble_eq_true rfl) (fun Γ => VBX7_paint_0 _ _ _ _ _ _ _)
abbrev KX7_plate : Kap := (RX7, cX7_plate, 3, 9, 0, (some .int), false, [])
theorem VBX7_plate_43 {Γ : Gam} (s0 : Int) (μ : Mem) : V Γ KX7_plate 43 [] [(0, s0)] μ (BX7_plate_43 s0 μ) := by
  unfold BX7_plate_43
  exact V_ireturn (κ := KX7_plate) (pc := 43) rfl rfl dX7_plate_43
theorem VBX7_plate_42 {Γ : Gam} (μ : Mem) : V Γ KX7_plate 42 [] [] μ (BX7_plate_42 μ) := by
  unfold BX7_plate_42
  refine V_iconst (κ := KX7_plate) (pc := 42) dX7_plate_42 ⟨by decide, by decide⟩ ?_
  exact VBX7_plate_43 _ _
theorem VBX7_plate_0 {Γ : Gam} (x0 x1 x2 : Int) (μ : Mem) : V Γ KX7_plate 0 [(0, (2, x0)), (1, (0, x1)), (2, (0, x2))] [] μ (BX7_plate_0 x0 x1 x2 μ) := by
  unfold BX7_plate_0
  refine V_aload_n (κ := KX7_plate) (pc := 0) dX7_plate_0 0 rfl rfl ?_
  refine V_iconst (κ := KX7_plate) (pc := 1) dX7_plate_1 ⟨by decide, by decide⟩ ?_
  refine V_putf 7 (κ := KX7_plate) (pc := 2) rfl (by decide) rfl inX7 tyX7 tyX7_ok nmX7 0 (by decide) wd_987 rfl rfl (t := 0) rfl rfl dX7_plate_2 fun u101 => ?_
  refine V_aload_n (κ := KX7_plate) (pc := 5) dX7_plate_5 0 rfl rfl ?_
  refine V_aload_n (κ := KX7_plate) (pc := 6) dX7_plate_6 0 rfl rfl ?_
  refine V_iload_n (κ := KX7_plate) (pc := 7) dX7_plate_7 1 rfl ?_
  refine V_callV (ci := 7) (T := TX7) (N := 24) rfl (by decide) (κ := KX7_plate) (pc := 8) (con_X7_isPlate _ _ _) mth_X7_isPlate rfl ⟨wd_1291, wp_75⟩ wd_1289 (st0 := [(2, x0)]) rfl rfl (by decide) (Nat.le_of_ble_eq_true rfl) dX7_plate_8 (fun _ _ _ h => VX_out rfl (by decide) h) fun t102 u103 => ?_
  refine V_iconst (κ := KX7_plate) (pc := 11) dX7_plate_11 ⟨by decide, by decide⟩ ?_
  refine V_callV (ci := 7) (T := TX7) (N := 24) rfl (by decide) (κ := KX7_plate) (pc := 12) (con_X7_right _ _ _ _) mth_X7_right rfl ⟨wd_1086, wp_35⟩ wd_1084 (st0 := []) rfl rfl (by decide) (Nat.le_of_ble_eq_true rfl) dX7_plate_12 (fun _ _ _ h => VX_out rfl (by decide) h) fun t104 u105 => ?_
  refine V_if_eq (κ := KX7_plate) (pc := 15) (tgt := 42) dX7_plate_15 rfl ?_ ?_
  · refine V_sub (lv' := []) [] rfl ?_
    exact VBX7_plate_42 _
  refine V_aload_n (κ := KX7_plate) (pc := 18) dX7_plate_18 0 rfl rfl ?_
  refine V_iload_n (κ := KX7_plate) (pc := 19) dX7_plate_19 2 rfl ?_
  refine V_iconst (κ := KX7_plate) (pc := 20) dX7_plate_20 ⟨by decide, by decide⟩ ?_
  refine V_bipush (κ := KX7_plate) (pc := 21) dX7_plate_21 ⟨by decide, by decide⟩ (by decide) ?_
  refine V_callS (κ := KX7_plate) (pc := 23) (con_X7_isIn _ _ _ _) mth_X7_isIn wd_1082 wd_1081 (st0 := [(2, x0)]) rfl rfl (by decide) (Nat.le_of_ble_eq_true rfl) dX7_plate_23 (fun _ _ _ h => VX_out rfl (by decide) h) fun t106 u107 => ?_
  refine V_iconst (κ := KX7_plate) (pc := 26) dX7_plate_26 ⟨by decide, by decide⟩ ?_
  refine V_callV (ci := 7) (T := TX7) (N := 24) rfl (by decide) (κ := KX7_plate) (pc := 27) (con_X7_right _ _ _ _) mth_X7_right rfl ⟨wd_1086, wp_35⟩ wd_1084 (st0 := []) rfl rfl (by decide) (Nat.le_of_ble_eq_true rfl) dX7_plate_27 (fun _ _ _ h => VX_out rfl (by decide) h) fun t108 u109 => ?_
  refine V_if_eq (κ := KX7_plate) (pc := 30) (tgt := 42) dX7_plate_30 rfl ?_ ?_
  · refine V_sub (lv' := []) [] rfl ?_
    exact VBX7_plate_42 _
  refine V_aload_n (κ := KX7_plate) (pc := 33) dX7_plate_33 0 rfl rfl ?_
  refine V_iload_n (κ := KX7_plate) (pc := 34) dX7_plate_34 1 rfl ?_
  refine V_iload_n (κ := KX7_plate) (pc := 35) dX7_plate_35 2 rfl ?_
  refine V_callV (ci := 7) (T := TX7) (N := 24) rfl (by decide) (κ := KX7_plate) (pc := 36) (con_X7_toldOfPlate _ _ _ _) mth_X7_toldOfPlate rfl ⟨wd_1295, wp_76⟩ wd_1293 (st0 := []) rfl rfl (by decide) (Nat.le_of_ble_eq_true rfl) dX7_plate_36 (fun _ _ _ h => VX_out rfl (by decide) h) fun t110 u111 => ?_
  refine V_goto (κ := KX7_plate) (pc := 39) (tgt := 43) dX7_plate_39 rfl ?_
  refine V_sub (lv' := []) [] rfl ?_
  exact VBX7_plate_43 _ _
theorem con_X7_plate (a0 a1 a2 : Int) (μ : Mem) : Con (9) yX7_plate (.code yX7_plate cX7_plate 3 (some .int)) 0 [(2, a0), (0, a1), (0, a2)] μ (FX7_plate a0 a1 a2 μ) := Con_intro KX7_plate (plainFor_of_name (by decide)) rfl (fun h => by cases h) (by decide) rfl (Nat.le_of_ble_eq_true rfl) (fun Γ => VBX7_plate_0 _ _ _ _)
abbrev KX7_press : Kap := (RX7, cX7_press, 5, 9, 0, (some .int), false, [])
theorem VBX7_press_61 {Γ : Gam} {k61 : Int → Int → Int → Mem → Rz} (hk61 : ∀ (y0 y3 y4 : Int) (ν : Mem), V Γ KX7_press 61 [(0, (2, y0)), (3, (0, y3)), (4, (0, y4))] [] ν (k61 y0 y3 y4 ν)) (x0 x3 x4 : Int) (μ : Mem) : V Γ KX7_press 61 [(0, (2, x0)), (3, (0, x3)), (4, (0, x4))] [] μ (BX7_press_61 k61 x0 x3 x4 μ) := by
  unfold BX7_press_61
  refine V_iload (κ := KX7_press) (pc := 61) dX7_press_61 2 rfl ?_
  refine V_aload_n (κ := KX7_press) (pc := 63) dX7_press_63 0 rfl rfl ?_
  refine V_callV (ci := 7) (T := TX7) (N := 24) rfl (by decide) (κ := KX7_press) (pc := 64) (con_X7_plates _ _) mth_X7_plates rfl ⟨wd_1189, wp_55⟩ wd_1187 (st0 := [(0, x4)]) rfl rfl (by decide) (Nat.le_of_ble_eq_true rfl) dX7_press_64 (fun _ _ _ h => VX_out rfl (by decide) h) fun t101 u102 => ?_
  refine V_icmp_ge (κ := KX7_press) (pc := 67) (tgt := 101) dX7_press_67 rfl ?_ ?_
  · refine V_iload_n (κ := KX7_press) (pc := 101) dX7_press_101 1 rfl ?_
    exact V_ireturn (κ := KX7_press) (pc := 102) rfl rfl dX7_press_102
  refine V_aload_n (κ := KX7_press) (pc := 70) dX7_press_70 0 rfl rfl ?_
  refine V_iload (κ := KX7_press) (pc := 71) dX7_press_71 2 rfl ?_
  refine V_bipush (κ := KX7_press) (pc := 73) dX7_press_73 ⟨by decide, by decide⟩ (by decide) ?_
  refine V_aload_n (κ := KX7_press) (pc := 75) dX7_press_75 0 rfl rfl ?_
  refine V_iload (κ := KX7_press) (pc := 76) dX7_press_76 2 rfl ?_
  refine V_bipush (κ := KX7_press) (pc := 78) dX7_press_78 ⟨by decide, by decide⟩ (by decide) ?_
  refine V_callV (ci := 7) (T := TX7) (N := 24) rfl (by decide) (κ := KX7_press) (pc := 80) (con_X7_of _ _ _ _) mth_X7_of rfl ⟨wd_1233, wp_65⟩ wd_1231 (st0 := [(0, 12), (0, x4), (2, x0)]) rfl rfl (by decide) (Nat.le_of_ble_eq_true rfl) dX7_press_80 (fun _ _ _ h => VX_out rfl (by decide) h) fun t103 u104 => ?_
  refine V_iload_n (κ := KX7_press) (pc := 83) dX7_press_83 1 rfl ?_
  refine V_aload_n (κ := KX7_press) (pc := 84) dX7_press_84 0 rfl rfl ?_
  refine V_iload (κ := KX7_press) (pc := 85) dX7_press_85 2 rfl ?_
  refine V_callV (ci := 7) (T := TX7) (N := 24) rfl (by decide) (κ := KX7_press) (pc := 87) (con_X7_dots _ _ _) mth_X7_dots rfl ⟨wd_1213, wp_60⟩ wd_1211 (st0 := [(0, x3), (0, t103), (0, 12), (0, x4), (2, x0)]) rfl rfl (by decide) (Nat.le_of_ble_eq_true rfl) dX7_press_87 (fun _ _ _ h => VX_out rfl (by decide) h) fun t105 u106 => ?_
  refine V_imul (κ := KX7_press) (pc := 90) dX7_press_90 ?_
  refine V_isub (κ := KX7_press) (pc := 91) dX7_press_91 ?_
  refine V_callV (ci := 7) (T := TX7) (N := 24) rfl (by decide) (κ := KX7_press) (pc := 92) (con_X7_puts _ _ _ _ _) mth_X7_puts rfl ⟨wd_1390, wp_84⟩ wd_1388 (st0 := []) rfl rfl (by decide) (Nat.le_of_ble_eq_true rfl) dX7_press_92 (fun _ _ _ h => VX_out rfl (by decide) h) fun _ u108 => ?_
  refine V_iinc (κ := KX7_press) (pc := 95) (lv' := [(4, (0, w32 (x4 + 1))), (0, (2, x0)), (3, (0, x3))]) dX7_press_95 2 rfl (by decide) rfl ?_
  refine V_goto (κ := KX7_press) (pc := 98) (tgt := 61) dX7_press_98 rfl ?_
  refine V_sub (lv' := [(0, (2, x0)), (3, (0, x3)), (4, (0, w32 (x4 + 1)))]) [1, 2, 0] rfl ?_
  exact hk61 _ _ _ _
theorem VLX7_press_61 {Γ : Gam} : ∀ (n : Nat) (x0 x3 x4 : Int) (μ : Mem), V Γ KX7_press 61 [(0, (2, x0)), (3, (0, x3)), (4, (0, x4))] [] μ (LX7_press_61 n x0 x3 x4 μ)
  | 0, _, _, _, _ => V_none
  | n + 1, x0, x3, x4, μ => VBX7_press_61 (fun y0 y3 y4 ν => VLX7_press_61 n y0 y3 y4 ν) x0 x3 x4 μ
theorem VBX7_press_39 {Γ : Gam} (x0 x1 x2 s0 s1 : Int) (μ : Mem) : V Γ KX7_press 39 [(0, (2, x0)), (1, (0, x1)), (2, (0, x2))] [(0, s0), (2, s1)] μ (BX7_press_39 x0 x1 x2 s0 s1 μ) := by
  unfold BX7_press_39
  refine V_iconst (κ := KX7_press) (pc := 39) dX7_press_39 ⟨by decide, by decide⟩ ?_
  refine V_callV (ci := 7) (T := TX7) (N := 24) rfl (by decide) (κ := KX7_press) (pc := 40) (con_X7_right _ _ _ _) mth_X7_right rfl ⟨wd_1086, wp_35⟩ wd_1084 (st0 := []) rfl rfl (by decide) (Nat.le_of_ble_eq_true rfl) dX7_press_40 (fun _ _ _ h => VX_out rfl (by decide) h) fun t101 u102 => ?_
  refine V_if_ne (κ := KX7_press) (pc := 43) (tgt := 48) dX7_press_43 rfl ?_ ?_
  · refine V_iload_n (κ := KX7_press) (pc := 48) dX7_press_48 1 rfl ?_
    refine V_iload_n (κ := KX7_press) (pc := 49) dX7_press_49 2 rfl ?_
    refine V_callS (κ := KX7_press) (pc := 50) (con_J9_min_7cf53 _ _ _) mth_J9_min_7cf53 wd_386 wd_1416 (st0 := []) rfl rfl (by decide) (Nat.le_of_ble_eq_true rfl) dX7_press_50 (fun _ _ _ h => VX_out rfl (by decide) h) fun t103 u104 => ?_
    refine V_istore_n (κ := KX7_press) (pc := 53) (lv' := [(3, (0, t103)), (0, (2, x0)), (1, (0, x1)), (2, (0, x2))]) dX7_press_53 (by decide) rfl ?_
    refine V_aload_n (κ := KX7_press) (pc := 54) dX7_press_54 1 rfl rfl ?_
    refine V_callV (ci := 7) (T := TX7) (N := 24) rfl (by decide) (κ := KX7_press) (pc := 55) (con_X7_change _ _) mth_X7_change rfl ⟨wd_1177, wp_52⟩ wd_1175 (st0 := []) rfl rfl (by decide) (Nat.le_of_ble_eq_true rfl) dX7_press_55 (fun _ _ _ h => VX_out rfl (by decide) h) fun _ u106 => ?_
    refine V_iconst (κ := KX7_press) (pc := 58) dX7_press_58 ⟨by decide, by decide⟩ ?_
    refine V_istore (κ := KX7_press) (pc := 59) (lv' := [(4, (0, 0)), (3, (0, t103)), (0, (2, x0)), (1, (0, x1)), (2, (0, x2))]) dX7_press_59 (by decide) rfl ?_
    refine V_sub (lv' := [(0, (2, x0)), (3, (0, t103)), (4, (0, 0))]) [2, 1, 0] rfl ?_
    exact VLX7_press_61 FU _ _ _ _
  refine V_iconst (κ := KX7_press) (pc := 46) dX7_press_46 ⟨by decide, by decide⟩ ?_
  exact V_ireturn (κ := KX7_press) (pc := 47) rfl rfl dX7_press_47
theorem VBX7_press_0 {Γ : Gam} (x0 x1 : Int) (μ : Mem) : V Γ KX7_press 0 [(0, (2, x0)), (1, (0, x1))] [] μ (BX7_press_0 x0 x1 μ) := by
  unfold BX7_press_0
  refine V_aload_n (κ := KX7_press) (pc := 0) dX7_press_0 0 rfl rfl ?_
  refine V_iconst (κ := KX7_press) (pc := 1) dX7_press_1 ⟨by decide, by decide⟩ ?_
  refine V_putf 7 (κ := KX7_press) (pc := 2) rfl (by decide) rfl inX7 tyX7 tyX7_ok nmX7 0 (by decide) wd_987 rfl rfl (t := 0) rfl rfl dX7_press_2 fun u101 => ?_
  refine V_aload_n (κ := KX7_press) (pc := 5) dX7_press_5 0 rfl rfl ?_
  refine V_iload_n (κ := KX7_press) (pc := 6) dX7_press_6 1 rfl ?_
  refine V_iconst (κ := KX7_press) (pc := 7) dX7_press_7 ⟨by decide, by decide⟩ ?_
  refine V_sipush (κ := KX7_press) (pc := 8) dX7_press_8 ⟨by decide, by decide⟩ (by decide) ?_
  refine V_callS (κ := KX7_press) (pc := 11) (con_X7_isIn _ _ _ _) mth_X7_isIn wd_1082 wd_1081 (st0 := [(2, x0)]) rfl rfl (by decide) (Nat.le_of_ble_eq_true rfl) dX7_press_11 (fun _ _ _ h => VX_out rfl (by decide) h) fun t102 u103 => ?_
  refine V_iconst (κ := KX7_press) (pc := 14) dX7_press_14 ⟨by decide, by decide⟩ ?_
  refine V_callV (ci := 7) (T := TX7) (N := 24) rfl (by decide) (κ := KX7_press) (pc := 15) (con_X7_right _ _ _ _) mth_X7_right rfl ⟨wd_1086, wp_35⟩ wd_1084 (st0 := []) rfl rfl (by decide) (Nat.le_of_ble_eq_true rfl) dX7_press_15 (fun _ _ _ h => VX_out rfl (by decide) h) fun t104 u105 => ?_
  refine V_if_ne (κ := KX7_press) (pc := 18) (tgt := 23) dX7_press_18 rfl ?_ ?_
  · refine V_aload_n (κ := KX7_press) (pc := 23) dX7_press_23 0 rfl rfl ?_
    refine V_callV (ci := 7) (T := TX7) (N := 24) rfl (by decide) (κ := KX7_press) (pc := 24) (con_X7_possible _ _) mth_X7_possible rfl ⟨wd_1374, wp_83⟩ wd_1372 (st0 := []) rfl rfl (by decide) (Nat.le_of_ble_eq_true rfl) dX7_press_24 (fun _ _ _ h => VX_out rfl (by decide) h) fun t106 u107 => ?_
    refine V_istore_n (κ := KX7_press) (pc := 27) (lv' := [(2, (0, t106)), (0, (2, x0)), (1, (0, x1))]) dX7_press_27 (by decide) rfl ?_
    refine V_aload_n (κ := KX7_press) (pc := 28) dX7_press_28 1 rfl rfl ?_
    refine V_iload_n (κ := KX7_press) (pc := 29) dX7_press_29 0 rfl ?_
    refine V_iconst (κ := KX7_press) (pc := 30) dX7_press_30 ⟨by decide, by decide⟩ ?_
    refine V_icmp_eq (κ := KX7_press) (pc := 31) (tgt := 38) dX7_press_31 rfl ?_ ?_
    · refine V_iconst (κ := KX7_press) (pc := 38) dX7_press_38 ⟨by decide, by decide⟩ ?_
      refine V_sub (lv' := [(0, (2, x0)), (1, (0, x1)), (2, (0, t106))]) [1, 2, 0] rfl ?_
      exact VBX7_press_39 _ _ _ _ _ _
    refine V_iconst (κ := KX7_press) (pc := 34) dX7_press_34 ⟨by decide, by decide⟩ ?_
    refine V_goto (κ := KX7_press) (pc := 35) (tgt := 39) dX7_press_35 rfl ?_
    refine V_sub (lv' := [(0, (2, x0)), (1, (0, x1)), (2, (0, t106))]) [1, 2, 0] rfl ?_
    exact VBX7_press_39 _ _ _ _ _ _
  refine V_iconst (κ := KX7_press) (pc := 21) dX7_press_21 ⟨by decide, by decide⟩ ?_
  exact V_ireturn (κ := KX7_press) (pc := 22) rfl rfl dX7_press_22
theorem con_X7_press (a0 a1 : Int) (μ : Mem) : Con (9) yX7_press (.code yX7_press cX7_press 5 (some .int)) 0 [(2, a0), (0, a1)] μ (FX7_press a0 a1 μ) := Con_intro KX7_press (plainFor_of_name (by decide)) rfl (fun h => by cases h) (by decide) rfl (Nat.le_of_ble_eq_true rfl) (fun Γ => VBX7_press_0 _ _ _)
abbrev KX7_shape : Kap := (RX7, cX7_shape, 4, 4, 0, (some .int), false, [])
theorem VBX7_shape_32 {Γ : Gam} (μ : Mem) : V Γ KX7_shape 32 [] [] μ (BX7_shape_32 μ) := by
  unfold BX7_shape_32
  refine V_iconst (κ := KX7_shape) (pc := 32) dX7_shape_32 ⟨by decide, by decide⟩ ?_
  exact V_ireturn (κ := KX7_shape) (pc := 33) rfl rfl dX7_shape_33
theorem VBX7_shape_0 {Γ : Gam} (x0 x1 x2 : Int) (μ : Mem) : V Γ KX7_shape 0 [(0, (2, x0)), (1, (0, x1)), (2, (0, x2))] [] μ (BX7_shape_0 x0 x1 x2 μ) := by
  unfold BX7_shape_0
  refine V_aload_n (κ := KX7_shape) (pc := 0) dX7_shape_0 0 rfl rfl ?_
  refine V_iconst (κ := KX7_shape) (pc := 1) dX7_shape_1 ⟨by decide, by decide⟩ ?_
  refine V_putf 7 (κ := KX7_shape) (pc := 2) rfl (by decide) rfl inX7 tyX7 tyX7_ok nmX7 0 (by decide) wd_987 rfl rfl (t := 0) rfl rfl dX7_shape_2 fun u101 => ?_
  refine V_aload_n (κ := KX7_shape) (pc := 5) dX7_shape_5 0 rfl rfl ?_
  refine V_aload_n (κ := KX7_shape) (pc := 6) dX7_shape_6 0 rfl rfl ?_
  refine V_iload_n (κ := KX7_shape) (pc := 7) dX7_shape_7 1 rfl ?_
  refine V_callV (ci := 7) (T := TX7) (N := 24) rfl (by decide) (κ := KX7_shape) (pc := 8) (con_X7_isPlate _ _ _) mth_X7_isPlate rfl ⟨wd_1291, wp_75⟩ wd_1289 (st0 := [(2, x0)]) rfl rfl (by decide) (Nat.le_of_ble_eq_true rfl) dX7_shape_8 (fun _ _ _ h => VX_out rfl (by decide) h) fun t102 u103 => ?_
  refine V_iconst (κ := KX7_shape) (pc := 11) dX7_shape_11 ⟨by decide, by decide⟩ ?_
  refine V_callV (ci := 7) (T := TX7) (N := 24) rfl (by decide) (κ := KX7_shape) (pc := 12) (con_X7_right _ _ _ _) mth_X7_right rfl ⟨wd_1086, wp_35⟩ wd_1084 (st0 := []) rfl rfl (by decide) (Nat.le_of_ble_eq_true rfl) dX7_shape_12 (fun _ _ _ h => VX_out rfl (by decide) h) fun t104 u105 => ?_
  refine V_if_eq (κ := KX7_shape) (pc := 15) (tgt := 32) dX7_shape_15 rfl ?_ ?_
  · refine V_sub (lv' := []) [] rfl ?_
    exact VBX7_shape_32 _
  refine V_aload_n (κ := KX7_shape) (pc := 18) dX7_shape_18 0 rfl rfl ?_
  refine V_iload_n (κ := KX7_shape) (pc := 19) dX7_shape_19 2 rfl ?_
  refine V_iconst (κ := KX7_shape) (pc := 20) dX7_shape_20 ⟨by decide, by decide⟩ ?_
  refine V_iconst (κ := KX7_shape) (pc := 21) dX7_shape_21 ⟨by decide, by decide⟩ ?_
  refine V_callS (κ := KX7_shape) (pc := 22) (con_X7_isIn _ _ _ _) mth_X7_isIn wd_1082 wd_1081 (st0 := [(2, x0)]) rfl rfl (by decide) (Nat.le_of_ble_eq_true rfl) dX7_shape_22 (fun _ _ _ h => VX_out rfl (by decide) h) fun t106 u107 => ?_
  refine V_iconst (κ := KX7_shape) (pc := 25) dX7_shape_25 ⟨by decide, by decide⟩ ?_
  refine V_callV (ci := 7) (T := TX7) (N := 24) rfl (by decide) (κ := KX7_shape) (pc := 26) (con_X7_right _ _ _ _) mth_X7_right rfl ⟨wd_1086, wp_35⟩ wd_1084 (st0 := []) rfl rfl (by decide) (Nat.le_of_ble_eq_true rfl) dX7_shape_26 (fun _ _ _ h => VX_out rfl (by decide) h) fun t108 u109 => ?_
  refine V_if_ne (κ := KX7_shape) (pc := 29) (tgt := 34) dX7_shape_29 rfl ?_ ?_
  · refine V_aload_n (κ := KX7_shape) (pc := 34) dX7_shape_34 0 rfl rfl ?_
    refine V_callV (ci := 7) (T := TX7) (N := 24) rfl (by decide) (κ := KX7_shape) (pc := 35) (con_X7_change _ _) mth_X7_change rfl ⟨wd_1177, wp_52⟩ wd_1175 (st0 := []) rfl rfl (by decide) (Nat.le_of_ble_eq_true rfl) dX7_shape_35 (fun _ _ _ h => VX_out rfl (by decide) h) fun _ u111 => ?_
    refine V_aload_n (κ := KX7_shape) (pc := 38) dX7_shape_38 0 rfl rfl ?_
    refine V_iload_n (κ := KX7_shape) (pc := 39) dX7_shape_39 1 rfl ?_
    refine V_bipush (κ := KX7_shape) (pc := 40) dX7_shape_40 ⟨by decide, by decide⟩ (by decide) ?_
    refine V_callV (ci := 7) (T := TX7) (N := 24) rfl (by decide) (κ := KX7_shape) (pc := 42) (con_X7_of _ _ _ _) mth_X7_of rfl ⟨wd_1233, wp_65⟩ wd_1231 (st0 := []) rfl rfl (by decide) (Nat.le_of_ble_eq_true rfl) dX7_shape_42 (fun _ _ _ h => VX_out rfl (by decide) h) fun t112 u113 => ?_
    refine V_istore_n (κ := KX7_shape) (pc := 45) (lv' := [(3, (0, t112)), (0, (2, x0)), (1, (0, x1)), (2, (0, x2))]) dX7_shape_45 (by decide) rfl ?_
    refine V_aload_n (κ := KX7_shape) (pc := 46) dX7_shape_46 1 rfl rfl ?_
    refine V_iload_n (κ := KX7_shape) (pc := 47) dX7_shape_47 2 rfl ?_
    refine V_bipush (κ := KX7_shape) (pc := 48) dX7_shape_48 ⟨by decide, by decide⟩ (by decide) ?_
    refine V_iload_n (κ := KX7_shape) (pc := 50) dX7_shape_50 3 rfl ?_
    refine V_callV (ci := 7) (T := TX7) (N := 24) rfl (by decide) (κ := KX7_shape) (pc := 51) (con_X7_puts _ _ _ _ _) mth_X7_puts rfl ⟨wd_1390, wp_84⟩ wd_1388 (st0 := []) rfl rfl (by decide) (Nat.le_of_ble_eq_true rfl) dX7_shape_51 (fun _ _ _ h => VX_out rfl (by decide) h) fun _ u115 => ?_
    refine V_iload_n (κ := KX7_shape) (pc := 54) dX7_shape_54 0 rfl ?_
    exact V_ireturn (κ := KX7_shape) (pc := 55) rfl rfl dX7_shape_55
  refine V_sub (lv' := []) [] rfl ?_
  exact VBX7_shape_32 _
theorem con_X7_shape (a0 a1 a2 : Int) (μ : Mem) : Con (4) yX7_shape (.code yX7_shape cX7_shape 4 (some .int)) 0 [(2, a0), (0, a1), (0, a2)] μ (FX7_shape a0 a1 a2 μ) := Con_intro KX7_shape (plainFor_of_name (by decide)) rfl (fun h => by cases h) (by decide) rfl (Nat.le_of_ble_eq_true rfl) (fun Γ => VBX7_shape_0 _ _ _ _)
abbrev KX7_shift : Kap := (RX7, cX7_shift, 4, 9, 0, (some .int), false, [])
theorem VBX7_shift_51 {Γ : Gam} (μ : Mem) : V Γ KX7_shift 51 [] [] μ (BX7_shift_51 μ) := by
  unfold BX7_shift_51
  refine V_iconst (κ := KX7_shift) (pc := 51) dX7_shift_51 ⟨by decide, by decide⟩ ?_
  exact V_ireturn (κ := KX7_shift) (pc := 52) rfl rfl dX7_shift_52
theorem VBX7_shift_44 {Γ : Gam} (x0 x1 x2 x3 s0 s1 : Int) (μ : Mem) : V Γ KX7_shift 44 [(0, (2, x0)), (1, (0, x1)), (2, (0, x2)), (3, (0, x3))] [(0, s0), (2, s1)] μ (BX7_shift_44 x0 x1 x2 x3 s0 s1 μ) := by
  unfold BX7_shift_44
  refine V_iconst (κ := KX7_shift) (pc := 44) dX7_shift_44 ⟨by decide, by decide⟩ ?_
  refine V_callV (ci := 7) (T := TX7) (N := 24) rfl (by decide) (κ := KX7_shift) (pc := 45) (con_X7_right _ _ _ _) mth_X7_right rfl ⟨wd_1086, wp_35⟩ wd_1084 (st0 := []) rfl rfl (by decide) (Nat.le_of_ble_eq_true rfl) dX7_shift_45 (fun _ _ _ h => VX_out rfl (by decide) h) fun t101 u102 => ?_
  refine V_if_ne (κ := KX7_shift) (pc := 48) (tgt := 53) dX7_shift_48 rfl ?_ ?_
  · refine V_aload_n (κ := KX7_shift) (pc := 53) dX7_shift_53 0 rfl rfl ?_
    refine V_callV (ci := 7) (T := TX7) (N := 24) rfl (by decide) (κ := KX7_shift) (pc := 54) (con_X7_change _ _) mth_X7_change rfl ⟨wd_1177, wp_52⟩ wd_1175 (st0 := []) rfl rfl (by decide) (Nat.le_of_ble_eq_true rfl) dX7_shift_54 (fun _ _ _ h => VX_out rfl (by decide) h) fun _ u104 => ?_
    refine V_aload_n (κ := KX7_shift) (pc := 57) dX7_shift_57 0 rfl rfl ?_
    refine V_iload_n (κ := KX7_shift) (pc := 58) dX7_shift_58 1 rfl ?_
    refine V_bipush (κ := KX7_shift) (pc := 59) dX7_shift_59 ⟨by decide, by decide⟩ (by decide) ?_
    refine V_iload_n (κ := KX7_shift) (pc := 61) dX7_shift_61 2 rfl ?_
    refine V_callV (ci := 7) (T := TX7) (N := 24) rfl (by decide) (κ := KX7_shift) (pc := 62) (con_X7_puts _ _ _ _ _) mth_X7_puts rfl ⟨wd_1390, wp_84⟩ wd_1388 (st0 := []) rfl rfl (by decide) (Nat.le_of_ble_eq_true rfl) dX7_shift_62 (fun _ _ _ h => VX_out rfl (by decide) h) fun _ u106 => ?_
    refine V_aload_n (κ := KX7_shift) (pc := 65) dX7_shift_65 0 rfl rfl ?_
    refine V_iload_n (κ := KX7_shift) (pc := 66) dX7_shift_66 1 rfl ?_
    refine V_bipush (κ := KX7_shift) (pc := 67) dX7_shift_67 ⟨by decide, by decide⟩ (by decide) ?_
    refine V_iload_n (κ := KX7_shift) (pc := 69) dX7_shift_69 3 rfl ?_
    refine V_callV (ci := 7) (T := TX7) (N := 24) rfl (by decide) (κ := KX7_shift) (pc := 70) (con_X7_puts _ _ _ _ _) mth_X7_puts rfl ⟨wd_1390, wp_84⟩ wd_1388 (st0 := []) rfl rfl (by decide) (Nat.le_of_ble_eq_true rfl) dX7_shift_70 (fun _ _ _ h => VX_out rfl (by decide) h) fun _ u108 => ?_
    refine V_aload_n (κ := KX7_shift) (pc := 73) dX7_shift_73 0 rfl rfl ?_
    refine V_callV (ci := 7) (T := TX7) (N := 24) rfl (by decide) (κ := KX7_shift) (pc := 74) (con_X7_allDots _ _) mth_X7_allDots rfl ⟨wd_1209, wp_59⟩ wd_1207 (st0 := []) rfl rfl (by decide) (Nat.le_of_ble_eq_true rfl) dX7_shift_74 (fun _ _ _ h => VX_out rfl (by decide) h) fun t109 u110 => ?_
    exact V_ireturn (κ := KX7_shift) (pc := 77) rfl rfl dX7_shift_77
  refine V_sub (lv' := []) [] rfl ?_
  exact VBX7_shift_51 _
theorem VBX7_shift_43 {Γ : Gam} (x0 x1 x2 x3 s0 : Int) (μ : Mem) : V Γ KX7_shift 43 [(0, (2, x0)), (1, (0, x1)), (2, (0, x2)), (3, (0, x3))] [(2, s0)] μ (BX7_shift_43 x0 x1 x2 x3 s0 μ) := by
  unfold BX7_shift_43
  refine V_iconst (κ := KX7_shift) (pc := 43) dX7_shift_43 ⟨by decide, by decide⟩ ?_
  exact VBX7_shift_44 _ _ _ _ _ _ _
theorem VBX7_shift_0 {Γ : Gam} (x0 x1 x2 x3 : Int) (μ : Mem) : V Γ KX7_shift 0 [(0, (2, x0)), (1, (0, x1)), (2, (0, x2)), (3, (0, x3))] [] μ (BX7_shift_0 x0 x1 x2 x3 μ) := by
  unfold BX7_shift_0
  refine V_aload_n (κ := KX7_shift) (pc := 0) dX7_shift_0 0 rfl rfl ?_
  refine V_iconst (κ := KX7_shift) (pc := 1) dX7_shift_1 ⟨by decide, by decide⟩ ?_
  refine V_putf 7 (κ := KX7_shift) (pc := 2) rfl (by decide) rfl inX7 tyX7 tyX7_ok nmX7 0 (by decide) wd_987 rfl rfl (t := 0) rfl rfl dX7_shift_2 fun u101 => ?_
  refine V_aload_n (κ := KX7_shift) (pc := 5) dX7_shift_5 0 rfl rfl ?_
  refine V_aload_n (κ := KX7_shift) (pc := 6) dX7_shift_6 0 rfl rfl ?_
  refine V_iload_n (κ := KX7_shift) (pc := 7) dX7_shift_7 1 rfl ?_
  refine V_callV (ci := 7) (T := TX7) (N := 24) rfl (by decide) (κ := KX7_shift) (pc := 8) (con_X7_isPlate _ _ _) mth_X7_isPlate rfl ⟨wd_1291, wp_75⟩ wd_1289 (st0 := [(2, x0)]) rfl rfl (by decide) (Nat.le_of_ble_eq_true rfl) dX7_shift_8 (fun _ _ _ h => VX_out rfl (by decide) h) fun t102 u103 => ?_
  refine V_iconst (κ := KX7_shift) (pc := 11) dX7_shift_11 ⟨by decide, by decide⟩ ?_
  refine V_callV (ci := 7) (T := TX7) (N := 24) rfl (by decide) (κ := KX7_shift) (pc := 12) (con_X7_right _ _ _ _) mth_X7_right rfl ⟨wd_1086, wp_35⟩ wd_1084 (st0 := []) rfl rfl (by decide) (Nat.le_of_ble_eq_true rfl) dX7_shift_12 (fun _ _ _ h => VX_out rfl (by decide) h) fun t104 u105 => ?_
  refine V_if_eq (κ := KX7_shift) (pc := 15) (tgt := 51) dX7_shift_15 rfl ?_ ?_
  · refine V_sub (lv' := []) [] rfl ?_
    exact VBX7_shift_51 _
  refine V_aload_n (κ := KX7_shift) (pc := 18) dX7_shift_18 0 rfl rfl ?_
  refine V_iload_n (κ := KX7_shift) (pc := 19) dX7_shift_19 2 rfl ?_
  refine V_iconst (κ := KX7_shift) (pc := 20) dX7_shift_20 ⟨by decide, by decide⟩ ?_
  refine V_bipush (κ := KX7_shift) (pc := 21) dX7_shift_21 ⟨by decide, by decide⟩ (by decide) ?_
  refine V_callS (κ := KX7_shift) (pc := 23) (con_X7_isIn _ _ _ _) mth_X7_isIn wd_1082 wd_1081 (st0 := [(2, x0)]) rfl rfl (by decide) (Nat.le_of_ble_eq_true rfl) dX7_shift_23 (fun _ _ _ h => VX_out rfl (by decide) h) fun t106 u107 => ?_
  refine V_if_eq (κ := KX7_shift) (pc := 26) (tgt := 43) dX7_shift_26 rfl ?_ ?_
  · exact VBX7_shift_43 _ _ _ _ _ _
  refine V_iload_n (κ := KX7_shift) (pc := 29) dX7_shift_29 3 rfl ?_
  refine V_iconst (κ := KX7_shift) (pc := 30) dX7_shift_30 ⟨by decide, by decide⟩ ?_
  refine V_bipush (κ := KX7_shift) (pc := 31) dX7_shift_31 ⟨by decide, by decide⟩ (by decide) ?_
  refine V_callS (κ := KX7_shift) (pc := 33) (con_X7_isIn _ _ _ _) mth_X7_isIn wd_1082 wd_1081 (st0 := [(2, x0)]) rfl rfl (by decide) (Nat.le_of_ble_eq_true rfl) dX7_shift_33 (fun _ _ _ h => VX_out rfl (by decide) h) fun t108 u109 => ?_
  refine V_if_eq (κ := KX7_shift) (pc := 36) (tgt := 43) dX7_shift_36 rfl ?_ ?_
  · exact VBX7_shift_43 _ _ _ _ _ _
  refine V_iconst (κ := KX7_shift) (pc := 39) dX7_shift_39 ⟨by decide, by decide⟩ ?_
  refine V_goto (κ := KX7_shift) (pc := 40) (tgt := 44) dX7_shift_40 rfl ?_
  exact VBX7_shift_44 _ _ _ _ _ _ _
theorem con_X7_shift (a0 a1 a2 a3 : Int) (μ : Mem) : Con (9) yX7_shift (.code yX7_shift cX7_shift 4 (some .int)) 0 [(2, a0), (0, a1), (0, a2), (0, a3)] μ (FX7_shift a0 a1 a2 a3 μ) := Con_intro KX7_shift (plainFor_of_name (by decide)) rfl (fun h => by cases h) (by decide) rfl (Nat.le_of_ble_eq_true rfl) (fun Γ => VBX7_shift_0 _ _ _ _ _)
abbrev KX7_state : Kap := (RX7, cX7_state, 2, 10, 0, (some .int), false, [])
theorem VBX7_state_29 {Γ : Gam} (s0 : Int) (μ : Mem) : V Γ KX7_state 29 [] [(0, s0)] μ (BX7_state_29 s0 μ) := by
  unfold BX7_state_29
  exact V_ireturn (κ := KX7_state) (pc := 29) rfl rfl dX7_state_29
theorem VBX7_state_0 {Γ : Gam} (x0 x1 : Int) (μ : Mem) : V Γ KX7_state 0 [(0, (2, x0)), (1, (0, x1))] [] μ (BX7_state_0 x0 x1 μ) := by
  unfold BX7_state_0
  refine V_aload_n (κ := KX7_state) (pc := 0) dX7_state_0 0 rfl rfl ?_
  refine V_iconst (κ := KX7_state) (pc := 1) dX7_state_1 ⟨by decide, by decide⟩ ?_
  refine V_putf 7 (κ := KX7_state) (pc := 2) rfl (by decide) rfl inX7 tyX7 tyX7_ok nmX7 0 (by decide) wd_987 rfl rfl (t := 0) rfl rfl dX7_state_2 fun u101 => ?_
  refine V_aload_n (κ := KX7_state) (pc := 5) dX7_state_5 0 rfl rfl ?_
  refine V_iload_n (κ := KX7_state) (pc := 6) dX7_state_6 1 rfl ?_
  refine V_iconst (κ := KX7_state) (pc := 7) dX7_state_7 ⟨by decide, by decide⟩ ?_
  refine V_bipush (κ := KX7_state) (pc := 8) dX7_state_8 ⟨by decide, by decide⟩ (by decide) ?_
  refine V_callS (κ := KX7_state) (pc := 10) (con_X7_isIn _ _ _ _) mth_X7_isIn wd_1082 wd_1081 (st0 := [(2, x0)]) rfl rfl (by decide) (Nat.le_of_ble_eq_true rfl) dX7_state_10 (fun _ _ _ h => VX_out rfl (by decide) h) fun t102 u103 => ?_
  refine V_iconst (κ := KX7_state) (pc := 13) dX7_state_13 ⟨by decide, by decide⟩ ?_
  refine V_callV (ci := 7) (T := TX7) (N := 24) rfl (by decide) (κ := KX7_state) (pc := 14) (con_X7_right _ _ _ _) mth_X7_right rfl ⟨wd_1086, wp_35⟩ wd_1084 (st0 := []) rfl rfl (by decide) (Nat.le_of_ble_eq_true rfl) dX7_state_14 (fun _ _ _ h => VX_out rfl (by decide) h) fun t104 u105 => ?_
  refine V_if_eq (κ := KX7_state) (pc := 17) (tgt := 28) dX7_state_17 rfl ?_ ?_
  · refine V_iconst (κ := KX7_state) (pc := 28) dX7_state_28 ⟨by decide, by decide⟩ ?_
    refine V_sub (lv' := []) [] rfl ?_
    exact VBX7_state_29 _ _
  refine V_aload_n (κ := KX7_state) (pc := 20) dX7_state_20 0 rfl rfl ?_
  refine V_iload_n (κ := KX7_state) (pc := 21) dX7_state_21 1 rfl ?_
  refine V_callV (ci := 7) (T := TX7) (N := 24) rfl (by decide) (κ := KX7_state) (pc := 22) (con_X7_toldOf _ _ _) mth_X7_toldOf rfl ⟨wd_1197, wp_56⟩ wd_1195 (st0 := []) rfl rfl (by decide) (Nat.le_of_ble_eq_true rfl) dX7_state_22 (fun _ _ _ h => VX_out rfl (by decide) h) fun t106 u107 => ?_
  refine V_goto (κ := KX7_state) (pc := 25) (tgt := 29) dX7_state_25 rfl ?_
  refine V_sub (lv' := []) [] rfl ?_
  exact VBX7_state_29 _ _
theorem con_X7_state (a0 a1 : Int) (μ : Mem) : Con (10) yX7_state (.code yX7_state cX7_state 2 (some .int)) 0 [(2, a0), (0, a1)] μ (FX7_state a0 a1 μ) := Con_intro KX7_state (plainFor_of_name (by decide)) rfl (fun h => by cases h) (by decide) rfl (Nat.le_of_ble_eq_true rfl) (fun Γ => VBX7_state_0 _ _ _)
abbrev KX7_thrown : Kap := (RX7, cX7_thrown, 1, 1, 0, (some .int), false, [])
theorem VBX7_thrown_0 {Γ : Gam} (x0 : Int) (μ : Mem) : V Γ KX7_thrown 0 [(0, (2, x0))] [] μ (BX7_thrown_0 x0 μ) := by
  unfold BX7_thrown_0
  refine V_aload_n (κ := KX7_thrown) (pc := 0) dX7_thrown_0 0 rfl rfl ?_
  refine V_getf 7 (κ := KX7_thrown) (pc := 1) rfl (by decide) rfl inX7 0 (by decide) wd_987 rfl (t := 0) rfl dX7_thrown_1 fun t101 => ?_
  exact V_ireturn (κ := KX7_thrown) (pc := 4) rfl rfl dX7_thrown_4
theorem con_X7_thrown (a0 : Int) (μ : Mem) : Con (1) yX7_thrown (.code yX7_thrown cX7_thrown 1 (some .int)) 0 [(2, a0)] μ (FX7_thrown a0 μ) := Con_intro KX7_thrown (plainFor_of_name (by decide)) rfl (fun h => by cases h) (by decide) rfl (Nat.le_of_ble_eq_true rfl) (fun Γ => VBX7_thrown_0 _ _)
abbrev KX7_tone : Kap := (RX7, cX7_tone, 3, 4, 0, (some .int), false, [])
theorem VBX7_tone_29 {Γ : Gam} (s0 : Int) (μ : Mem) : V Γ KX7_tone 29 [] [(0, s0)] μ (BX7_tone_29 s0 μ) := by
  unfold BX7_tone_29
  exact V_ireturn (κ := KX7_tone) (pc := 29) rfl rfl dX7_tone_29
theorem VBX7_tone_0 {Γ : Gam} (x0 x1 x2 : Int) (μ : Mem) : V Γ KX7_tone 0 [(0, (2, x0)), (1, (0, x1)), (2, (0, x2))] [] μ (BX7_tone_0 x0 x1 x2 μ) := by
  unfold BX7_tone_0
  refine V_aload_n (κ := KX7_tone) (pc := 0) dX7_tone_0 0 rfl rfl ?_
  refine V_iconst (κ := KX7_tone) (pc := 1) dX7_tone_1 ⟨by decide, by decide⟩ ?_
  refine V_putf 7 (κ := KX7_tone) (pc := 2) rfl (by decide) rfl inX7 tyX7 tyX7_ok nmX7 0 (by decide) wd_987 rfl rfl (t := 0) rfl rfl dX7_tone_2 fun u101 => ?_
  refine V_aload_n (κ := KX7_tone) (pc := 5) dX7_tone_5 0 rfl rfl ?_
  refine V_aload_n (κ := KX7_tone) (pc := 6) dX7_tone_6 0 rfl rfl ?_
  refine V_iload_n (κ := KX7_tone) (pc := 7) dX7_tone_7 1 rfl ?_
  refine V_iload_n (κ := KX7_tone) (pc := 8) dX7_tone_8 2 rfl ?_
  refine V_callV (ci := 7) (T := TX7) (N := 24) rfl (by decide) (κ := KX7_tone) (pc := 9) (con_X7_isCell _ _ _ _) mth_X7_isCell rfl ⟨wd_1271, wp_72⟩ wd_1269 (st0 := [(2, x0)]) rfl rfl (by decide) (Nat.le_of_ble_eq_true rfl) dX7_tone_9 (fun _ _ _ h => VX_out rfl (by decide) h) fun t102 u103 => ?_
  refine V_iconst (κ := KX7_tone) (pc := 12) dX7_tone_12 ⟨by decide, by decide⟩ ?_
  refine V_callV (ci := 7) (T := TX7) (N := 24) rfl (by decide) (κ := KX7_tone) (pc := 13) (con_X7_right _ _ _ _) mth_X7_right rfl ⟨wd_1086, wp_35⟩ wd_1084 (st0 := []) rfl rfl (by decide) (Nat.le_of_ble_eq_true rfl) dX7_tone_13 (fun _ _ _ h => VX_out rfl (by decide) h) fun t104 u105 => ?_
  refine V_if_eq (κ := KX7_tone) (pc := 16) (tgt := 28) dX7_tone_16 rfl ?_ ?_
  · refine V_iconst (κ := KX7_tone) (pc := 28) dX7_tone_28 ⟨by decide, by decide⟩ ?_
    refine V_sub (lv' := []) [] rfl ?_
    exact VBX7_tone_29 _ _
  refine V_aload_n (κ := KX7_tone) (pc := 19) dX7_tone_19 0 rfl rfl ?_
  refine V_iload_n (κ := KX7_tone) (pc := 20) dX7_tone_20 1 rfl ?_
  refine V_iload_n (κ := KX7_tone) (pc := 21) dX7_tone_21 2 rfl ?_
  refine V_callV (ci := 7) (T := TX7) (N := 24) rfl (by decide) (κ := KX7_tone) (pc := 22) (con_X7_toneAt _ _ _ _) mth_X7_toneAt rfl ⟨wd_1249, wp_68⟩ wd_1247 (st0 := []) rfl rfl (by decide) (Nat.le_of_ble_eq_true rfl) dX7_tone_22 (fun _ _ _ h => VX_out rfl (by decide) h) fun t106 u107 => ?_
  refine V_goto (κ := KX7_tone) (pc := 25) (tgt := 29) dX7_tone_25 rfl ?_
  refine V_sub (lv' := []) [] rfl ?_
  exact VBX7_tone_29 _ _
theorem con_X7_tone (a0 a1 a2 : Int) (μ : Mem) : Con (4) yX7_tone (.code yX7_tone cX7_tone 3 (some .int)) 0 [(2, a0), (0, a1), (0, a2)] μ (FX7_tone a0 a1 a2 μ) := Con_intro KX7_tone (plainFor_of_name (by decide)) rfl (fun h => by cases h) (by decide) rfl (Nat.le_of_ble_eq_true rfl) (fun Γ => VBX7_tone_0 _ _ _ _)
abbrev KX7_turn : Kap := (RX7, cX7_turn, 4, 4, 0, (some .int), false, [])
theorem VBX7_turn_55 {Γ : Gam} (μ : Mem) : V Γ KX7_turn 55 [] [] μ (BX7_turn_55 μ) := by
  unfold BX7_turn_55
  refine V_iconst (κ := KX7_turn) (pc := 55) dX7_turn_55 ⟨by decide, by decide⟩ ?_
  exact V_ireturn (κ := KX7_turn) (pc := 56) rfl rfl dX7_turn_56
theorem VBX7_turn_48 {Γ : Gam} (x0 x1 x2 x3 s0 s1 : Int) (μ : Mem) : V Γ KX7_turn 48 [(0, (2, x0)), (1, (0, x1)), (2, (0, x2)), (3, (0, x3))] [(0, s0), (2, s1)] μ (BX7_turn_48 x0 x1 x2 x3 s0 s1 μ) := by
  unfold BX7_turn_48
  refine V_iconst (κ := KX7_turn) (pc := 48) dX7_turn_48 ⟨by decide, by decide⟩ ?_
  refine V_callV (ci := 7) (T := TX7) (N := 24) rfl (by decide) (κ := KX7_turn) (pc := 49) (con_X7_right _ _ _ _) mth_X7_right rfl ⟨wd_1086, wp_35⟩ wd_1084 (st0 := []) rfl rfl (by decide) (Nat.le_of_ble_eq_true rfl) dX7_turn_49 (fun _ _ _ h => VX_out rfl (by decide) h) fun t101 u102 => ?_
  refine V_if_ne (κ := KX7_turn) (pc := 52) (tgt := 57) dX7_turn_52 rfl ?_ ?_
  · refine V_aload_n (κ := KX7_turn) (pc := 57) dX7_turn_57 0 rfl rfl ?_
    refine V_callV (ci := 7) (T := TX7) (N := 24) rfl (by decide) (κ := KX7_turn) (pc := 58) (con_X7_change _ _) mth_X7_change rfl ⟨wd_1177, wp_52⟩ wd_1175 (st0 := []) rfl rfl (by decide) (Nat.le_of_ble_eq_true rfl) dX7_turn_58 (fun _ _ _ h => VX_out rfl (by decide) h) fun _ u104 => ?_
    refine V_aload_n (κ := KX7_turn) (pc := 61) dX7_turn_61 0 rfl rfl ?_
    refine V_iload_n (κ := KX7_turn) (pc := 62) dX7_turn_62 1 rfl ?_
    refine V_bipush (κ := KX7_turn) (pc := 63) dX7_turn_63 ⟨by decide, by decide⟩ (by decide) ?_
    refine V_iload_n (κ := KX7_turn) (pc := 65) dX7_turn_65 2 rfl ?_
    refine V_callV (ci := 7) (T := TX7) (N := 24) rfl (by decide) (κ := KX7_turn) (pc := 66) (con_X7_puts _ _ _ _ _) mth_X7_puts rfl ⟨wd_1390, wp_84⟩ wd_1388 (st0 := []) rfl rfl (by decide) (Nat.le_of_ble_eq_true rfl) dX7_turn_66 (fun _ _ _ h => VX_out rfl (by decide) h) fun _ u106 => ?_
    refine V_aload_n (κ := KX7_turn) (pc := 69) dX7_turn_69 0 rfl rfl ?_
    refine V_iload_n (κ := KX7_turn) (pc := 70) dX7_turn_70 1 rfl ?_
    refine V_bipush (κ := KX7_turn) (pc := 71) dX7_turn_71 ⟨by decide, by decide⟩ (by decide) ?_
    refine V_iload_n (κ := KX7_turn) (pc := 73) dX7_turn_73 3 rfl ?_
    refine V_callV (ci := 7) (T := TX7) (N := 24) rfl (by decide) (κ := KX7_turn) (pc := 74) (con_X7_puts _ _ _ _ _) mth_X7_puts rfl ⟨wd_1390, wp_84⟩ wd_1388 (st0 := []) rfl rfl (by decide) (Nat.le_of_ble_eq_true rfl) dX7_turn_74 (fun _ _ _ h => VX_out rfl (by decide) h) fun _ u108 => ?_
    refine V_aload_n (κ := KX7_turn) (pc := 77) dX7_turn_77 0 rfl rfl ?_
    refine V_iload_n (κ := KX7_turn) (pc := 78) dX7_turn_78 1 rfl ?_
    refine V_callV (ci := 7) (T := TX7) (N := 24) rfl (by decide) (κ := KX7_turn) (pc := 79) (con_X7_squareOf _ _ _) mth_X7_squareOf rfl ⟨wd_1229, wp_64⟩ wd_1227 (st0 := []) rfl rfl (by decide) (Nat.le_of_ble_eq_true rfl) dX7_turn_79 (fun _ _ _ h => VX_out rfl (by decide) h) fun t109 u110 => ?_
    exact V_ireturn (κ := KX7_turn) (pc := 82) rfl rfl dX7_turn_82
  refine V_sub (lv' := []) [] rfl ?_
  exact VBX7_turn_55 _
theorem VBX7_turn_47 {Γ : Gam} (x0 x1 x2 x3 s0 : Int) (μ : Mem) : V Γ KX7_turn 47 [(0, (2, x0)), (1, (0, x1)), (2, (0, x2)), (3, (0, x3))] [(2, s0)] μ (BX7_turn_47 x0 x1 x2 x3 s0 μ) := by
  unfold BX7_turn_47
  refine V_iconst (κ := KX7_turn) (pc := 47) dX7_turn_47 ⟨by decide, by decide⟩ ?_
  exact VBX7_turn_48 _ _ _ _ _ _ _
theorem VBX7_turn_0 {Γ : Gam} (x0 x1 x2 x3 : Int) (μ : Mem) : V Γ KX7_turn 0 [(0, (2, x0)), (1, (0, x1)), (2, (0, x2)), (3, (0, x3))] [] μ (BX7_turn_0 x0 x1 x2 x3 μ) := by
  unfold BX7_turn_0
  refine V_aload_n (κ := KX7_turn) (pc := 0) dX7_turn_0 0 rfl rfl ?_
  refine V_iconst (κ := KX7_turn) (pc := 1) dX7_turn_1 ⟨by decide, by decide⟩ ?_
  refine V_putf 7 (κ := KX7_turn) (pc := 2) rfl (by decide) rfl inX7 tyX7 tyX7_ok nmX7 0 (by decide) wd_987 rfl rfl (t := 0) rfl rfl dX7_turn_2 fun u101 => ?_
  refine V_aload_n (κ := KX7_turn) (pc := 5) dX7_turn_5 0 rfl rfl ?_
  refine V_aload_n (κ := KX7_turn) (pc := 6) dX7_turn_6 0 rfl rfl ?_
  refine V_iload_n (κ := KX7_turn) (pc := 7) dX7_turn_7 1 rfl ?_
  refine V_callV (ci := 7) (T := TX7) (N := 24) rfl (by decide) (κ := KX7_turn) (pc := 8) (con_X7_isPlate _ _ _) mth_X7_isPlate rfl ⟨wd_1291, wp_75⟩ wd_1289 (st0 := [(2, x0)]) rfl rfl (by decide) (Nat.le_of_ble_eq_true rfl) dX7_turn_8 (fun _ _ _ h => VX_out rfl (by decide) h) fun t102 u103 => ?_
  refine V_iconst (κ := KX7_turn) (pc := 11) dX7_turn_11 ⟨by decide, by decide⟩ ?_
  refine V_callV (ci := 7) (T := TX7) (N := 24) rfl (by decide) (κ := KX7_turn) (pc := 12) (con_X7_right _ _ _ _) mth_X7_right rfl ⟨wd_1086, wp_35⟩ wd_1084 (st0 := []) rfl rfl (by decide) (Nat.le_of_ble_eq_true rfl) dX7_turn_12 (fun _ _ _ h => VX_out rfl (by decide) h) fun t104 u105 => ?_
  refine V_if_eq (κ := KX7_turn) (pc := 15) (tgt := 55) dX7_turn_15 rfl ?_ ?_
  · refine V_sub (lv' := []) [] rfl ?_
    exact VBX7_turn_55 _
  refine V_aload_n (κ := KX7_turn) (pc := 18) dX7_turn_18 0 rfl rfl ?_
  refine V_iload_n (κ := KX7_turn) (pc := 19) dX7_turn_19 2 rfl ?_
  refine V_iconst (κ := KX7_turn) (pc := 20) dX7_turn_20 ⟨by decide, by decide⟩ ?_
  refine V_iconst (κ := KX7_turn) (pc := 21) dX7_turn_21 ⟨by decide, by decide⟩ ?_
  refine V_callS (κ := KX7_turn) (pc := 22) (con_X7_isIn _ _ _ _) mth_X7_isIn wd_1082 wd_1081 (st0 := [(2, x0)]) rfl rfl (by decide) (Nat.le_of_ble_eq_true rfl) dX7_turn_22 (fun _ _ _ h => VX_out rfl (by decide) h) fun t106 u107 => ?_
  refine V_if_eq (κ := KX7_turn) (pc := 25) (tgt := 47) dX7_turn_25 rfl ?_ ?_
  · exact VBX7_turn_47 _ _ _ _ _ _
  refine V_iload_n (κ := KX7_turn) (pc := 28) dX7_turn_28 3 rfl ?_
  refine V_iconst (κ := KX7_turn) (pc := 29) dX7_turn_29 ⟨by decide, by decide⟩ ?_
  refine V_iconst (κ := KX7_turn) (pc := 30) dX7_turn_30 ⟨by decide, by decide⟩ ?_
  refine V_callS (κ := KX7_turn) (pc := 31) (con_X7_isIn _ _ _ _) mth_X7_isIn wd_1082 wd_1081 (st0 := [(2, x0)]) rfl rfl (by decide) (Nat.le_of_ble_eq_true rfl) dX7_turn_31 (fun _ _ _ h => VX_out rfl (by decide) h) fun t108 u109 => ?_
  refine V_if_eq (κ := KX7_turn) (pc := 34) (tgt := 47) dX7_turn_34 rfl ?_ ?_
  · exact VBX7_turn_47 _ _ _ _ _ _
  refine V_iload_n (κ := KX7_turn) (pc := 37) dX7_turn_37 2 rfl ?_
  refine V_iload_n (κ := KX7_turn) (pc := 38) dX7_turn_38 3 rfl ?_
  refine V_iadd (κ := KX7_turn) (pc := 39) dX7_turn_39 ?_
  refine V_if_le (κ := KX7_turn) (pc := 40) (tgt := 47) dX7_turn_40 rfl ?_ ?_
  · exact VBX7_turn_47 _ _ _ _ _ _
  refine V_iconst (κ := KX7_turn) (pc := 43) dX7_turn_43 ⟨by decide, by decide⟩ ?_
  refine V_goto (κ := KX7_turn) (pc := 44) (tgt := 48) dX7_turn_44 rfl ?_
  exact VBX7_turn_48 _ _ _ _ _ _ _
theorem con_X7_turn (a0 a1 a2 a3 : Int) (μ : Mem) : Con (4) yX7_turn (.code yX7_turn cX7_turn 4 (some .int)) 0 [(2, a0), (0, a1), (0, a2), (0, a3)] μ (FX7_turn a0 a1 a2 a3 μ) := Con_intro KX7_turn (plainFor_of_name (by decide)) rfl (fun h => by cases h) (by decide) rfl (Nat.le_of_ble_eq_true rfl) (fun Γ => VBX7_turn_0 _ _ _ _ _)
abbrev KX7_undo : Kap := (RX7, cX7_undo, 1, 1, 0, (some .int), false, [])
theorem VBX7_undo_0 {Γ : Gam} (x0 : Int) (μ : Mem) : V Γ KX7_undo 0 [(0, (2, x0))] [] μ (BX7_undo_0 x0 μ) := by
  unfold BX7_undo_0
  refine V_aload_n (κ := KX7_undo) (pc := 0) dX7_undo_0 0 rfl rfl ?_
  refine V_iconst (κ := KX7_undo) (pc := 1) dX7_undo_1 ⟨by decide, by decide⟩ ?_
  refine V_putf 7 (κ := KX7_undo) (pc := 2) rfl (by decide) rfl inX7 tyX7 tyX7_ok nmX7 0 (by decide) wd_987 rfl rfl (t := 0) rfl rfl dX7_undo_2 fun u101 => ?_
  refine V_aload_n (κ := KX7_undo) (pc := 5) dX7_undo_5 0 rfl rfl ?_
  refine V_getf 7 (κ := KX7_undo) (pc := 6) rfl (by decide) rfl inX7 4 (by decide) wd_991 rfl (t := 0) rfl dX7_undo_6 fun t102 => ?_
  refine V_if_ne (κ := KX7_undo) (pc := 9) (tgt := 14) dX7_undo_9 rfl ?_ ?_
  · refine V_aload_n (κ := KX7_undo) (pc := 14) dX7_undo_14 0 rfl rfl ?_
    refine V_dup (κ := KX7_undo) (pc := 15) rfl dX7_undo_15 ?_
    refine V_getf 7 (κ := KX7_undo) (pc := 16) rfl (by decide) rfl inX7 4 (by decide) wd_991 rfl (t := 0) rfl dX7_undo_16 fun t103 => ?_
    refine V_iconst (κ := KX7_undo) (pc := 19) dX7_undo_19 ⟨by decide, by decide⟩ ?_
    refine V_isub (κ := KX7_undo) (pc := 20) dX7_undo_20 ?_
    refine V_putf 7 (κ := KX7_undo) (pc := 21) rfl (by decide) rfl inX7 tyX7 tyX7_ok nmX7 4 (by decide) wd_991 rfl rfl (t := 0) rfl rfl dX7_undo_21 fun u104 => ?_
    refine V_aload_n (κ := KX7_undo) (pc := 24) dX7_undo_24 0 rfl rfl ?_
    refine V_aload_n (κ := KX7_undo) (pc := 25) dX7_undo_25 0 rfl rfl ?_
    refine V_getf 7 (κ := KX7_undo) (pc := 26) rfl (by decide) rfl inX7 3 (by decide) wd_990 rfl (t := 0) rfl dX7_undo_26 fun t105 => ?_
    refine V_bipush (κ := KX7_undo) (pc := 29) dX7_undo_29 ⟨by decide, by decide⟩ (by decide) ?_
    refine V_iadd (κ := KX7_undo) (pc := 31) dX7_undo_31 ?_
    refine V_iconst (κ := KX7_undo) (pc := 32) dX7_undo_32 ⟨by decide, by decide⟩ ?_
    refine V_isub (κ := KX7_undo) (pc := 33) dX7_undo_33 ?_
    refine V_bipush (κ := KX7_undo) (pc := 34) dX7_undo_34 ⟨by decide, by decide⟩ (by decide) ?_
    refine V_irem (κ := KX7_undo) (pc := 36) dX7_undo_36 fun t106 => ?_
    refine V_putf 7 (κ := KX7_undo) (pc := 37) rfl (by decide) rfl inX7 tyX7 tyX7_ok nmX7 3 (by decide) wd_990 rfl rfl (t := 0) rfl rfl dX7_undo_37 fun u107 => ?_
    refine V_aload_n (κ := KX7_undo) (pc := 40) dX7_undo_40 0 rfl rfl ?_
    refine V_iconst (κ := KX7_undo) (pc := 41) dX7_undo_41 ⟨by decide, by decide⟩ ?_
    refine V_putz 7 (κ := KX7_undo) (pc := 42) rfl (by decide) rfl inX7 tyX7 tyX7_ok nmX7 10 (by decide) wd_997 rfl rfl rfl rfl dX7_undo_42 fun u108 => ?_
    refine V_aload_n (κ := KX7_undo) (pc := 45) dX7_undo_45 0 rfl rfl ?_
    refine V_getf 7 (κ := KX7_undo) (pc := 46) rfl (by decide) rfl inX7 4 (by decide) wd_991 rfl (t := 0) rfl dX7_undo_46 fun t109 => ?_
    exact V_ireturn (κ := KX7_undo) (pc := 49) rfl rfl dX7_undo_49
  refine V_iconst (κ := KX7_undo) (pc := 12) dX7_undo_12 ⟨by decide, by decide⟩ ?_
  exact V_ireturn (κ := KX7_undo) (pc := 13) rfl rfl dX7_undo_13
theorem con_X7_undo (a0 : Int) (μ : Mem) : Con (1) yX7_undo (.code yX7_undo cX7_undo 1 (some .int)) 0 [(2, a0)] μ (FX7_undo a0 μ) := Con_intro KX7_undo (plainFor_of_name (by decide)) rfl (fun h => by cases h) (by decide) rfl (Nat.le_of_ble_eq_true rfl) (fun Γ => VBX7_undo_0 _ _)
abbrev KX7_why : Kap := (RX7, cX7_why, 4, 7, 0, (some .int), false, [])
theorem VBX7_why_84 {Γ : Gam} (s0 : Int) (μ : Mem) : V Γ KX7_why 84 [] [(0, s0)] μ (BX7_why_84 s0 μ) := by
  unfold BX7_why_84
  exact V_ireturn (κ := KX7_why) (pc := 84) rfl rfl dX7_why_84
theorem VBX7_why_28 {Γ : Gam} (x0 x1 x2 x3 s0 s1 : Int) (μ : Mem) : V Γ KX7_why 28 [(0, (2, x0)), (1, (0, x1)), (2, (0, x2)), (3, (0, x3))] [(0, s0), (2, s1)] μ (BX7_why_28 x0 x1 x2 x3 s0 s1 μ) := by
  unfold BX7_why_28
  refine V_iconst (κ := KX7_why) (pc := 28) dX7_why_28 ⟨by decide, by decide⟩ ?_
  refine V_callV (ci := 7) (T := TX7) (N := 24) rfl (by decide) (κ := KX7_why) (pc := 29) (con_X7_right _ _ _ _) mth_X7_right rfl ⟨wd_1086, wp_35⟩ wd_1084 (st0 := []) rfl rfl (by decide) (Nat.le_of_ble_eq_true rfl) dX7_why_29 (fun _ _ _ h => VX_out rfl (by decide) h) fun t101 u102 => ?_
  refine V_if_ne (κ := KX7_why) (pc := 32) (tgt := 37) dX7_why_32 rfl ?_ ?_
  · refine V_aload_n (κ := KX7_why) (pc := 37) dX7_why_37 0 rfl rfl ?_
    refine V_callV (ci := 7) (T := TX7) (N := 24) rfl (by decide) (κ := KX7_why) (pc := 38) (con_X7_lays _ _) mth_X7_lays rfl ⟨wd_1217, wp_61⟩ wd_1215 (st0 := []) rfl rfl (by decide) (Nat.le_of_ble_eq_true rfl) dX7_why_38 (fun _ _ _ h => VX_out rfl (by decide) h) fun _ u104 => ?_
    refine V_aload_n (κ := KX7_why) (pc := 41) dX7_why_41 0 rfl rfl ?_
    refine V_iload_n (κ := KX7_why) (pc := 42) dX7_why_42 1 rfl ?_
    refine V_iload_n (κ := KX7_why) (pc := 43) dX7_why_43 2 rfl ?_
    refine V_iload_n (κ := KX7_why) (pc := 44) dX7_why_44 3 rfl ?_
    refine V_callV (ci := 7) (T := TX7) (N := 24) rfl (by decide) (κ := KX7_why) (pc := 45) (con_X7_isCleaned _ _ _ _ _) mth_X7_isCleaned rfl ⟨wd_1260, wp_70⟩ wd_1258 (st0 := []) rfl rfl (by decide) (Nat.le_of_ble_eq_true rfl) dX7_why_45 (fun _ _ _ h => VX_out rfl (by decide) h) fun t105 u106 => ?_
    refine V_if_eq (κ := KX7_why) (pc := 48) (tgt := 53) dX7_why_48 rfl ?_ ?_
    · refine V_aload_n (κ := KX7_why) (pc := 53) dX7_why_53 0 rfl rfl ?_
      refine V_iload_n (κ := KX7_why) (pc := 54) dX7_why_54 1 rfl ?_
      refine V_bipush (κ := KX7_why) (pc := 55) dX7_why_55 ⟨by decide, by decide⟩ (by decide) ?_
      refine V_iload_n (κ := KX7_why) (pc := 57) dX7_why_57 3 rfl ?_
      refine V_imul (κ := KX7_why) (pc := 58) dX7_why_58 ?_
      refine V_iload_n (κ := KX7_why) (pc := 59) dX7_why_59 2 rfl ?_
      refine V_iadd (κ := KX7_why) (pc := 60) dX7_why_60 ?_
      refine V_callV (ci := 7) (T := TX7) (N := 24) rfl (by decide) (κ := KX7_why) (pc := 61) (con_X7_isWanted _ _ _ _) mth_X7_isWanted rfl ⟨wd_1256, wp_69⟩ wd_1254 (st0 := []) rfl rfl (by decide) (Nat.le_of_ble_eq_true rfl) dX7_why_61 (fun _ _ _ h => VX_out rfl (by decide) h) fun t107 u108 => ?_
      refine V_if_ne (κ := KX7_why) (pc := 64) (tgt := 69) dX7_why_64 rfl ?_ ?_
      · refine V_aload_n (κ := KX7_why) (pc := 69) dX7_why_69 0 rfl rfl ?_
        refine V_iload_n (κ := KX7_why) (pc := 70) dX7_why_70 1 rfl ?_
        refine V_iload_n (κ := KX7_why) (pc := 71) dX7_why_71 2 rfl ?_
        refine V_iload_n (κ := KX7_why) (pc := 72) dX7_why_72 3 rfl ?_
        refine V_callV (ci := 7) (T := TX7) (N := 24) rfl (by decide) (κ := KX7_why) (pc := 73) (con_X7_hasDot _ _ _ _ _) mth_X7_hasDot rfl ⟨wd_1267, wp_71⟩ wd_1265 (st0 := []) rfl rfl (by decide) (Nat.le_of_ble_eq_true rfl) dX7_why_73 (fun _ _ _ h => VX_out rfl (by decide) h) fun t109 u110 => ?_
        refine V_if_eq (κ := KX7_why) (pc := 76) (tgt := 83) dX7_why_76 rfl ?_ ?_
        · refine V_iconst (κ := KX7_why) (pc := 83) dX7_why_83 ⟨by decide, by decide⟩ ?_
          refine V_sub (lv' := []) [] rfl ?_
          exact VBX7_why_84 _ _
        refine V_iconst (κ := KX7_why) (pc := 79) dX7_why_79 ⟨by decide, by decide⟩ ?_
        refine V_goto (κ := KX7_why) (pc := 80) (tgt := 84) dX7_why_80 rfl ?_
        refine V_sub (lv' := []) [] rfl ?_
        exact VBX7_why_84 _ _
      refine V_iconst (κ := KX7_why) (pc := 67) dX7_why_67 ⟨by decide, by decide⟩ ?_
      exact V_ireturn (κ := KX7_why) (pc := 68) rfl rfl dX7_why_68
    refine V_iconst (κ := KX7_why) (pc := 51) dX7_why_51 ⟨by decide, by decide⟩ ?_
    exact V_ireturn (κ := KX7_why) (pc := 52) rfl rfl dX7_why_52
  refine V_iconst (κ := KX7_why) (pc := 35) dX7_why_35 ⟨by decide, by decide⟩ ?_
  exact V_ireturn (κ := KX7_why) (pc := 36) rfl rfl dX7_why_36
theorem VBX7_why_27 {Γ : Gam} (x0 x1 x2 x3 s0 : Int) (μ : Mem) : V Γ KX7_why 27 [(0, (2, x0)), (1, (0, x1)), (2, (0, x2)), (3, (0, x3))] [(2, s0)] μ (BX7_why_27 x0 x1 x2 x3 s0 μ) := by
  unfold BX7_why_27
  refine V_iconst (κ := KX7_why) (pc := 27) dX7_why_27 ⟨by decide, by decide⟩ ?_
  exact VBX7_why_28 _ _ _ _ _ _ _
theorem VBX7_why_0 {Γ : Gam} (x0 x1 x2 x3 : Int) (μ : Mem) : V Γ KX7_why 0 [(0, (2, x0)), (1, (0, x1)), (2, (0, x2)), (3, (0, x3))] [] μ (BX7_why_0 x0 x1 x2 x3 μ) := by
  unfold BX7_why_0
  refine V_aload_n (κ := KX7_why) (pc := 0) dX7_why_0 0 rfl rfl ?_
  refine V_iconst (κ := KX7_why) (pc := 1) dX7_why_1 ⟨by decide, by decide⟩ ?_
  refine V_putf 7 (κ := KX7_why) (pc := 2) rfl (by decide) rfl inX7 tyX7 tyX7_ok nmX7 0 (by decide) wd_987 rfl rfl (t := 0) rfl rfl dX7_why_2 fun u101 => ?_
  refine V_aload_n (κ := KX7_why) (pc := 5) dX7_why_5 0 rfl rfl ?_
  refine V_aload_n (κ := KX7_why) (pc := 6) dX7_why_6 0 rfl rfl ?_
  refine V_iload_n (κ := KX7_why) (pc := 7) dX7_why_7 1 rfl ?_
  refine V_callV (ci := 7) (T := TX7) (N := 24) rfl (by decide) (κ := KX7_why) (pc := 8) (con_X7_isPlate _ _ _) mth_X7_isPlate rfl ⟨wd_1291, wp_75⟩ wd_1289 (st0 := [(2, x0)]) rfl rfl (by decide) (Nat.le_of_ble_eq_true rfl) dX7_why_8 (fun _ _ _ h => VX_out rfl (by decide) h) fun t102 u103 => ?_
  refine V_if_eq (κ := KX7_why) (pc := 11) (tgt := 27) dX7_why_11 rfl ?_ ?_
  · exact VBX7_why_27 _ _ _ _ _ _
  refine V_aload_n (κ := KX7_why) (pc := 14) dX7_why_14 0 rfl rfl ?_
  refine V_iload_n (κ := KX7_why) (pc := 15) dX7_why_15 2 rfl ?_
  refine V_iload_n (κ := KX7_why) (pc := 16) dX7_why_16 3 rfl ?_
  refine V_callV (ci := 7) (T := TX7) (N := 24) rfl (by decide) (κ := KX7_why) (pc := 17) (con_X7_isCell _ _ _ _) mth_X7_isCell rfl ⟨wd_1271, wp_72⟩ wd_1269 (st0 := [(2, x0)]) rfl rfl (by decide) (Nat.le_of_ble_eq_true rfl) dX7_why_17 (fun _ _ _ h => VX_out rfl (by decide) h) fun t104 u105 => ?_
  refine V_if_eq (κ := KX7_why) (pc := 20) (tgt := 27) dX7_why_20 rfl ?_ ?_
  · exact VBX7_why_27 _ _ _ _ _ _
  refine V_iconst (κ := KX7_why) (pc := 23) dX7_why_23 ⟨by decide, by decide⟩ ?_
  refine V_goto (κ := KX7_why) (pc := 24) (tgt := 28) dX7_why_24 rfl ?_
  exact VBX7_why_28 _ _ _ _ _ _ _
theorem con_X7_why (a0 a1 a2 a3 : Int) (μ : Mem) : Con (7) yX7_why (.code yX7_why cX7_why 4 (some .int)) 0 [(2, a0), (0, a1), (0, a2), (0, a3)] μ (FX7_why a0 a1 a2 a3 μ) := Con_intro KX7_why (plainFor_of_name (by decide)) rfl (fun h => by cases h) (by decide) rfl (Nat.le_of_ble_eq_true rfl) (fun Γ => VBX7_why_0 _ _ _ _ _)
abbrev KX7_worst : Kap := (RX7, cX7_worst, 6, 4, 0, (some .int), false, [])
theorem VBX7_worst_89 {Γ : Gam} (s0 : Int) (μ : Mem) : V Γ KX7_worst 89 [] [(0, s0)] μ (BX7_worst_89 s0 μ) := by
  unfold BX7_worst_89
  exact V_ireturn (κ := KX7_worst) (pc := 89) rfl rfl dX7_worst_89
theorem VBX7_worst_68 {Γ : Gam} {k12 : Int → Int → Int → Int → Int → Mem → Rz} (hk12 : ∀ (y0 y1 y2 y3 y4 : Int) (ν : Mem), V Γ KX7_worst 12 [(0, (2, y0)), (1, (0, y1)), (2, (0, y2)), (3, (0, y3)), (4, (0, y4))] [] ν (k12 y0 y1 y2 y3 y4 ν)) {k27 : Int → Int → Int → Int → Int → Int → Mem → Rz} (hk27 : ∀ (y0 y1 y2 y3 y4 y5 : Int) (ν : Mem), V Γ KX7_worst 27 [(0, (2, y0)), (1, (0, y1)), (2, (0, y2)), (3, (0, y3)), (4, (0, y4)), (5, (0, y5))] [] ν (k27 y0 y1 y2 y3 y4 y5 ν)) (x0 x1 x2 x3 x4 x5 : Int) (μ : Mem) : V Γ KX7_worst 68 [(0, (2, x0)), (1, (0, x1)), (2, (0, x2)), (3, (0, x3)), (4, (0, x4)), (5, (0, x5))] [] μ (BX7_worst_68 k12 k27 x0 x1 x2 x3 x4 x5 μ) := by
  unfold BX7_worst_68
  refine V_iinc (κ := KX7_worst) (pc := 68) (lv' := [(5, (0, w32 (x5 + 1))), (0, (2, x0)), (1, (0, x1)), (2, (0, x2)), (3, (0, x3)), (4, (0, x4))]) dX7_worst_68 5 rfl (by decide) rfl ?_
  refine V_goto (κ := KX7_worst) (pc := 71) (tgt := 27) dX7_worst_71 rfl ?_
  refine V_sub (lv' := [(0, (2, x0)), (1, (0, x1)), (2, (0, x2)), (3, (0, x3)), (4, (0, x4)), (5, (0, w32 (x5 + 1)))]) [1, 2, 3, 4, 5, 0] rfl ?_
  exact hk27 _ _ _ _ _ _ _
theorem VBX7_worst_62 {Γ : Gam} {k12 : Int → Int → Int → Int → Int → Mem → Rz} (hk12 : ∀ (y0 y1 y2 y3 y4 : Int) (ν : Mem), V Γ KX7_worst 12 [(0, (2, y0)), (1, (0, y1)), (2, (0, y2)), (3, (0, y3)), (4, (0, y4))] [] ν (k12 y0 y1 y2 y3 y4 ν)) {k27 : Int → Int → Int → Int → Int → Int → Mem → Rz} (hk27 : ∀ (y0 y1 y2 y3 y4 y5 : Int) (ν : Mem), V Γ KX7_worst 27 [(0, (2, y0)), (1, (0, y1)), (2, (0, y2)), (3, (0, y3)), (4, (0, y4)), (5, (0, y5))] [] ν (k27 y0 y1 y2 y3 y4 y5 ν)) (x0 x1 x4 x5 : Int) (μ : Mem) : V Γ KX7_worst 62 [(0, (2, x0)), (1, (0, x1)), (4, (0, x4)), (5, (0, x5))] [] μ (BX7_worst_62 k12 k27 x0 x1 x4 x5 μ) := by
  unfold BX7_worst_62
  refine V_iload (κ := KX7_worst) (pc := 62) dX7_worst_62 2 rfl ?_
  refine V_istore_n (κ := KX7_worst) (pc := 64) (lv' := [(2, (0, x4)), (0, (2, x0)), (1, (0, x1)), (4, (0, x4)), (5, (0, x5))]) dX7_worst_64 (by decide) rfl ?_
  refine V_iload (κ := KX7_worst) (pc := 65) dX7_worst_65 4 rfl ?_
  refine V_istore_n (κ := KX7_worst) (pc := 67) (lv' := [(3, (0, x5)), (2, (0, x4)), (0, (2, x0)), (1, (0, x1)), (4, (0, x4)), (5, (0, x5))]) dX7_worst_67 (by decide) rfl ?_
  refine V_sub (lv' := [(0, (2, x0)), (1, (0, x1)), (2, (0, x4)), (3, (0, x5)), (4, (0, x4)), (5, (0, x5))]) [2, 3, 1, 0, 4, 5] rfl ?_
  exact VBX7_worst_68 hk12 hk27 _ _ _ _ _ _ _
theorem VBX7_worst_27 {Γ : Gam} {k12 : Int → Int → Int → Int → Int → Mem → Rz} (hk12 : ∀ (y0 y1 y2 y3 y4 : Int) (ν : Mem), V Γ KX7_worst 12 [(0, (2, y0)), (1, (0, y1)), (2, (0, y2)), (3, (0, y3)), (4, (0, y4))] [] ν (k12 y0 y1 y2 y3 y4 ν)) {k27 : Int → Int → Int → Int → Int → Int → Mem → Rz} (hk27 : ∀ (y0 y1 y2 y3 y4 y5 : Int) (ν : Mem), V Γ KX7_worst 27 [(0, (2, y0)), (1, (0, y1)), (2, (0, y2)), (3, (0, y3)), (4, (0, y4)), (5, (0, y5))] [] ν (k27 y0 y1 y2 y3 y4 y5 ν)) (x0 x1 x2 x3 x4 x5 : Int) (μ : Mem) : V Γ KX7_worst 27 [(0, (2, x0)), (1, (0, x1)), (2, (0, x2)), (3, (0, x3)), (4, (0, x4)), (5, (0, x5))] [] μ (BX7_worst_27 k12 k27 x0 x1 x2 x3 x4 x5 μ) := by
  unfold BX7_worst_27
  refine V_iload (κ := KX7_worst) (pc := 27) dX7_worst_27 5 rfl ?_
  refine V_aload_n (κ := KX7_worst) (pc := 29) dX7_worst_29 0 rfl rfl ?_
  refine V_callV (ci := 7) (T := TX7) (N := 24) rfl (by decide) (κ := KX7_worst) (pc := 30) (con_X7_plates _ _) mth_X7_plates rfl ⟨wd_1189, wp_55⟩ wd_1187 (st0 := [(0, x5)]) rfl rfl (by decide) (Nat.le_of_ble_eq_true rfl) dX7_worst_30 (fun _ _ _ h => VX_out rfl (by decide) h) fun t101 u102 => ?_
  refine V_icmp_ge (κ := KX7_worst) (pc := 33) (tgt := 74) dX7_worst_33 rfl ?_ ?_
  · refine V_iinc (κ := KX7_worst) (pc := 74) (lv' := [(4, (0, w32 (x4 + 1))), (0, (2, x0)), (1, (0, x1)), (2, (0, x2)), (3, (0, x3)), (5, (0, x5))]) dX7_worst_74 4 rfl (by decide) rfl ?_
    refine V_goto (κ := KX7_worst) (pc := 77) (tgt := 12) dX7_worst_77 rfl ?_
    refine V_sub (lv' := [(0, (2, x0)), (1, (0, x1)), (2, (0, x2)), (3, (0, x3)), (4, (0, w32 (x4 + 1)))]) [1, 2, 3, 4, 0] rfl ?_
    exact hk12 _ _ _ _ _ _
  refine V_iload_n (κ := KX7_worst) (pc := 36) dX7_worst_36 2 rfl ?_
  refine V_iconst (κ := KX7_worst) (pc := 37) dX7_worst_37 ⟨by decide, by decide⟩ ?_
  refine V_icmp_eq (κ := KX7_worst) (pc := 38) (tgt := 62) dX7_worst_38 rfl ?_ ?_
  · refine V_sub (lv' := [(0, (2, x0)), (1, (0, x1)), (4, (0, x4)), (5, (0, x5))]) [0, 1, 4, 5] rfl ?_
    exact VBX7_worst_62 hk12 hk27 _ _ _ _ _
  refine V_aload_n (κ := KX7_worst) (pc := 41) dX7_worst_41 0 rfl rfl ?_
  refine V_iload (κ := KX7_worst) (pc := 42) dX7_worst_42 4 rfl ?_
  refine V_iload (κ := KX7_worst) (pc := 44) dX7_worst_44 5 rfl ?_
  refine V_callV (ci := 7) (T := TX7) (N := 24) rfl (by decide) (κ := KX7_worst) (pc := 46) (con_X7_moireAt _ _ _ _) mth_X7_moireAt rfl ⟨wd_1343, wp_81⟩ wd_1341 (st0 := []) rfl rfl (by decide) (Nat.le_of_ble_eq_true rfl) dX7_worst_46 (fun _ _ _ h => VX_out rfl (by decide) h) fun t103 u104 => ?_
  refine V_aload_n (κ := KX7_worst) (pc := 49) dX7_worst_49 0 rfl rfl ?_
  refine V_iload_n (κ := KX7_worst) (pc := 50) dX7_worst_50 2 rfl ?_
  refine V_iload_n (κ := KX7_worst) (pc := 51) dX7_worst_51 3 rfl ?_
  refine V_callV (ci := 7) (T := TX7) (N := 24) rfl (by decide) (κ := KX7_worst) (pc := 52) (con_X7_moireAt _ _ _ _) mth_X7_moireAt rfl ⟨wd_1343, wp_81⟩ wd_1341 (st0 := [(4, t103)]) rfl rfl (by decide) (Nat.le_of_ble_eq_true rfl) dX7_worst_52 (fun _ _ _ h => VX_out rfl (by decide) h) fun t105 u106 => ?_
  refine V_dcmp (κ := KX7_worst) (pc := 55) dX7_worst_55 ?_
  refine V_if_gt (κ := KX7_worst) (pc := 56) (tgt := 62) dX7_worst_56 rfl ?_ ?_
  · refine V_sub (lv' := [(0, (2, x0)), (1, (0, x1)), (4, (0, x4)), (5, (0, x5))]) [0, 1, 4, 5] rfl ?_
    exact VBX7_worst_62 hk12 hk27 _ _ _ _ _
  refine V_goto (κ := KX7_worst) (pc := 59) (tgt := 68) dX7_worst_59 rfl ?_
  exact VBX7_worst_68 hk12 hk27 _ _ _ _ _ _ _
theorem VLX7_worst_27 {Γ : Gam} {k12 : Int → Int → Int → Int → Int → Mem → Rz} (hk12 : ∀ (y0 y1 y2 y3 y4 : Int) (ν : Mem), V Γ KX7_worst 12 [(0, (2, y0)), (1, (0, y1)), (2, (0, y2)), (3, (0, y3)), (4, (0, y4))] [] ν (k12 y0 y1 y2 y3 y4 ν)) : ∀ (n : Nat) (x0 x1 x2 x3 x4 x5 : Int) (μ : Mem), V Γ KX7_worst 27 [(0, (2, x0)), (1, (0, x1)), (2, (0, x2)), (3, (0, x3)), (4, (0, x4)), (5, (0, x5))] [] μ (LX7_worst_27 k12 n x0 x1 x2 x3 x4 x5 μ)
  | 0, _, _, _, _, _, _, _ => V_none
  | n + 1, x0, x1, x2, x3, x4, x5, μ => VBX7_worst_27 hk12 (fun y0 y1 y2 y3 y4 y5 ν => VLX7_worst_27 hk12 n y0 y1 y2 y3 y4 y5 ν) x0 x1 x2 x3 x4 x5 μ
theorem VBX7_worst_12 {Γ : Gam} {k12 : Int → Int → Int → Int → Int → Mem → Rz} (hk12 : ∀ (y0 y1 y2 y3 y4 : Int) (ν : Mem), V Γ KX7_worst 12 [(0, (2, y0)), (1, (0, y1)), (2, (0, y2)), (3, (0, y3)), (4, (0, y4))] [] ν (k12 y0 y1 y2 y3 y4 ν)) (x0 x1 x2 x3 x4 : Int) (μ : Mem) : V Γ KX7_worst 12 [(0, (2, x0)), (1, (0, x1)), (2, (0, x2)), (3, (0, x3)), (4, (0, x4))] [] μ (BX7_worst_12 k12 x0 x1 x2 x3 x4 μ) := by
  unfold BX7_worst_12
  refine V_iload (κ := KX7_worst) (pc := 12) dX7_worst_12 4 rfl ?_
  refine V_aload_n (κ := KX7_worst) (pc := 14) dX7_worst_14 0 rfl rfl ?_
  refine V_callV (ci := 7) (T := TX7) (N := 24) rfl (by decide) (κ := KX7_worst) (pc := 15) (con_X7_plates _ _) mth_X7_plates rfl ⟨wd_1189, wp_55⟩ wd_1187 (st0 := [(0, x4)]) rfl rfl (by decide) (Nat.le_of_ble_eq_true rfl) dX7_worst_15 (fun _ _ _ h => VX_out rfl (by decide) h) fun t101 u102 => ?_
  refine V_icmp_ge (κ := KX7_worst) (pc := 18) (tgt := 80) dX7_worst_18 rfl ?_ ?_
  · refine V_iload_n (κ := KX7_worst) (pc := 80) dX7_worst_80 1 rfl ?_
    refine V_if_eq (κ := KX7_worst) (pc := 81) (tgt := 88) dX7_worst_81 rfl ?_ ?_
    · refine V_iload_n (κ := KX7_worst) (pc := 88) dX7_worst_88 2 rfl ?_
      refine V_sub (lv' := []) [] rfl ?_
      exact VBX7_worst_89 _ _
    refine V_iload_n (κ := KX7_worst) (pc := 84) dX7_worst_84 3 rfl ?_
    refine V_goto (κ := KX7_worst) (pc := 85) (tgt := 89) dX7_worst_85 rfl ?_
    refine V_sub (lv' := []) [] rfl ?_
    exact VBX7_worst_89 _ _
  refine V_iload (κ := KX7_worst) (pc := 21) dX7_worst_21 4 rfl ?_
  refine V_iconst (κ := KX7_worst) (pc := 23) dX7_worst_23 ⟨by decide, by decide⟩ ?_
  refine V_iadd (κ := KX7_worst) (pc := 24) dX7_worst_24 ?_
  refine V_LT fun x103 => ?_
  refine V_istore (κ := KX7_worst) (pc := 25) (lv' := [(5, (0, x103)), (0, (2, x0)), (1, (0, x1)), (2, (0, x2)), (3, (0, x3)), (4, (0, x4))]) dX7_worst_25 (by decide) rfl ?_
  refine V_sub (lv' := [(0, (2, x0)), (1, (0, x1)), (2, (0, x2)), (3, (0, x3)), (4, (0, x4)), (5, (0, x103))]) [1, 2, 3, 4, 5, 0] rfl ?_
  exact VLX7_worst_27 hk12 FU _ _ _ _ _ _ _
theorem VLX7_worst_12 {Γ : Gam} : ∀ (n : Nat) (x0 x1 x2 x3 x4 : Int) (μ : Mem), V Γ KX7_worst 12 [(0, (2, x0)), (1, (0, x1)), (2, (0, x2)), (3, (0, x3)), (4, (0, x4))] [] μ (LX7_worst_12 n x0 x1 x2 x3 x4 μ)
  | 0, _, _, _, _, _, _ => V_none
  | n + 1, x0, x1, x2, x3, x4, μ => VBX7_worst_12 (fun y0 y1 y2 y3 y4 ν => VLX7_worst_12 n y0 y1 y2 y3 y4 ν) x0 x1 x2 x3 x4 μ
theorem VBX7_worst_0 {Γ : Gam} (x0 x1 : Int) (μ : Mem) : V Γ KX7_worst 0 [(0, (2, x0)), (1, (0, x1))] [] μ (BX7_worst_0 x0 x1 μ) := by
  unfold BX7_worst_0
  refine V_aload_n (κ := KX7_worst) (pc := 0) dX7_worst_0 0 rfl rfl ?_
  refine V_iconst (κ := KX7_worst) (pc := 1) dX7_worst_1 ⟨by decide, by decide⟩ ?_
  refine V_putf 7 (κ := KX7_worst) (pc := 2) rfl (by decide) rfl inX7 tyX7 tyX7_ok nmX7 0 (by decide) wd_987 rfl rfl (t := 0) rfl rfl dX7_worst_2 fun u101 => ?_
  refine V_iconst (κ := KX7_worst) (pc := 5) dX7_worst_5 ⟨by decide, by decide⟩ ?_
  refine V_istore_n (κ := KX7_worst) (pc := 6) (lv' := [(2, (0, (-1))), (0, (2, x0)), (1, (0, x1))]) dX7_worst_6 (by decide) rfl ?_
  refine V_iconst (κ := KX7_worst) (pc := 7) dX7_worst_7 ⟨by decide, by decide⟩ ?_
  refine V_istore_n (κ := KX7_worst) (pc := 8) (lv' := [(3, (0, (-1))), (2, (0, (-1))), (0, (2, x0)), (1, (0, x1))]) dX7_worst_8 (by decide) rfl ?_
  refine V_iconst (κ := KX7_worst) (pc := 9) dX7_worst_9 ⟨by decide, by decide⟩ ?_
  refine V_istore (κ := KX7_worst) (pc := 10) (lv' := [(4, (0, 0)), (3, (0, (-1))), (2, (0, (-1))), (0, (2, x0)), (1, (0, x1))]) dX7_worst_10 (by decide) rfl ?_
  refine V_sub (lv' := [(0, (2, x0)), (1, (0, x1)), (2, (0, (-1))), (3, (0, (-1))), (4, (0, 0))]) [3, 4, 2, 1, 0] rfl ?_
  exact VLX7_worst_12 FU _ _ _ _ _ _
theorem con_X7_worst (a0 a1 : Int) (μ : Mem) : Con (4) yX7_worst (.code yX7_worst cX7_worst 6 (some .int)) 0 [(2, a0), (0, a1)] μ (FX7_worst a0 a1 μ) := Con_intro KX7_worst (plainFor_of_name (by decide)) rfl (fun h => by cases h) (by decide) rfl (Nat.le_of_ble_eq_true rfl) (fun Γ => VBX7_worst_0 _ _ _)
