/-! the methods of the component over the small memory (written by gen.py) -/
section WALKS
variable {Γ : Gam}
abbrev KX2_hasDot : Kap := (RX2, cX2_hasDot, 3, 1, 0, (some .boolean), false, [])
theorem VBX2_hasDot_19 {Γ : Gam} (s0 : Int) (μ : Mem) : V Γ KX2_hasDot 19 [] [(0, s0)] μ (BX2_hasDot_19 s0 μ) := by
  unfold BX2_hasDot_19
  exact V_zreturn (κ := KX2_hasDot) (pc := 19) rfl rfl dX2_hasDot_19
theorem VBX2_hasDot_0 {Γ : Gam} (x0 x1 x2 : Int) (μ : Mem) : V Γ KX2_hasDot 0 [(0, (2, x0)), (1, (0, x1)), (2, (0, x2))] [] μ (BX2_hasDot_0 x0 x1 x2 μ) := by
  unfold BX2_hasDot_0
  refine V_aload_n (κ := KX2_hasDot) (pc := 0) dX2_hasDot_0 0 rfl rfl ?_
  refine V_getf 2 (κ := KX2_hasDot) (pc := 1) rfl (by decide) rfl inX2 1 (by decide) wd_76 rfl (t := 2) rfl dX2_hasDot_1 fun t101 => ?_
  refine V_iload_n (κ := KX2_hasDot) (pc := 4) dX2_hasDot_4 2 rfl ?_
  refine V_iaload (κ := KX2_hasDot) (pc := 5) dX2_hasDot_5 fun t102 => ?_
  refine V_iload_n (κ := KX2_hasDot) (pc := 6) dX2_hasDot_6 1 rfl ?_
  refine V_ishr (κ := KX2_hasDot) (pc := 7) dX2_hasDot_7 ?_
  refine V_iconst (κ := KX2_hasDot) (pc := 8) dX2_hasDot_8 ⟨by decide, by decide⟩ ?_
  refine V_iand (κ := KX2_hasDot) (pc := 9) dX2_hasDot_9 ?_
  refine V_iconst (κ := KX2_hasDot) (pc := 10) dX2_hasDot_10 ⟨by decide, by decide⟩ ?_
  refine V_icmp_ne (κ := KX2_hasDot) (pc := 11) (tgt := 18) dX2_hasDot_11 rfl ?_ ?_
  · refine V_iconst (κ := KX2_hasDot) (pc := 18) dX2_hasDot_18 ⟨by decide, by decide⟩ ?_
    refine V_sub (lv' := []) [] rfl ?_
    exact VBX2_hasDot_19 _ _
  refine V_iconst (κ := KX2_hasDot) (pc := 14) dX2_hasDot_14 ⟨by decide, by decide⟩ ?_
  refine V_goto (κ := KX2_hasDot) (pc := 15) (tgt := 19) dX2_hasDot_15 rfl ?_
  refine V_sub (lv' := []) [] rfl ?_
  exact VBX2_hasDot_19 _ _
theorem con_X2_hasDot (a0 a1 a2 : Int) (μ : Mem) : Con (1) yX2_hasDot (.code yX2_hasDot cX2_hasDot 3 (some .boolean)) 0 [(2, a0), (0, a1), (0, a2)] μ (FX2_hasDot a0 a1 a2 μ) := Con_intro KX2_hasDot (plainFor_of_name (by decide)) rfl (fun h => by cases h) (by decide) rfl (Nat.le_of_ble_eq_true rfl) (fun Γ => VBX2_hasDot_0 _ _ _ _)
abbrev KX5_indexOfCell : Kap := (RX5, cX5_indexOfCell, 3, 1, 0, (some .int), false, [])
theorem VBX5_indexOfCell_0 {Γ : Gam} (x0 x1 x2 : Int) (μ : Mem) : V Γ KX5_indexOfCell 0 [(0, (2, x0)), (1, (0, x1)), (2, (0, x2))] [] μ (BX5_indexOfCell_0 x0 x1 x2 μ) := by
  unfold BX5_indexOfCell_0
  refine V_iload_n (κ := KX5_indexOfCell) (pc := 0) dX5_indexOfCell_0 2 rfl ?_
  refine V_aload_n (κ := KX5_indexOfCell) (pc := 1) dX5_indexOfCell_1 0 rfl rfl ?_
  refine V_getf 5 (κ := KX5_indexOfCell) (pc := 2) rfl (by decide) rfl inX5 0 (by decide) wd_204 rfl (t := 0) rfl dX5_indexOfCell_2 fun t101 => ?_
  refine V_imul (κ := KX5_indexOfCell) (pc := 5) dX5_indexOfCell_5 ?_
  refine V_iload_n (κ := KX5_indexOfCell) (pc := 6) dX5_indexOfCell_6 1 rfl ?_
  refine V_iadd (κ := KX5_indexOfCell) (pc := 7) dX5_indexOfCell_7 ?_
  exact V_ireturn (κ := KX5_indexOfCell) (pc := 8) rfl rfl dX5_indexOfCell_8
theorem con_X5_indexOfCell (a0 a1 a2 : Int) (μ : Mem) : Con (1) yX5_indexOfCell (.code yX5_indexOfCell cX5_indexOfCell 3 (some .int)) 0 [(2, a0), (0, a1), (0, a2)] μ (FX5_indexOfCell a0 a1 a2 μ) := Con_intro KX5_indexOfCell (plainFor_of_name (by decide)) rfl (fun h => by cases h) (by decide) rfl (Nat.le_of_ble_eq_true rfl) (fun Γ => VBX5_indexOfCell_0 _ _ _ _)
abbrev KX2_isDotAt : Kap := (RX2, cX2_isDotAt, 5, 2, 0, (some .boolean), false, [])
theorem VBX2_isDotAt_46 {Γ : Gam} (s0 : Int) (μ : Mem) : V Γ KX2_isDotAt 46 [] [(0, s0)] μ (BX2_isDotAt_46 s0 μ) := by
  unfold BX2_isDotAt_46
  exact V_zreturn (κ := KX2_isDotAt) (pc := 46) rfl rfl dX2_isDotAt_46
theorem VBX2_isDotAt_45 {Γ : Gam} (μ : Mem) : V Γ KX2_isDotAt 45 [] [] μ (BX2_isDotAt_45 μ) := by
  unfold BX2_isDotAt_45
  refine V_iconst (κ := KX2_isDotAt) (pc := 45) dX2_isDotAt_45 ⟨by decide, by decide⟩ ?_
  exact VBX2_isDotAt_46 _ _
theorem VBX2_isDotAt_0 {Γ : Gam} (x0 x1 x2 x3 x4 : Int) (μ : Mem) : V Γ KX2_isDotAt 0 [(0, (2, x0)), (1, (2, x1)), (2, (0, x2)), (3, (0, x3)), (4, (0, x4))] [] μ (BX2_isDotAt_0 x0 x1 x2 x3 x4 μ) := by
  unfold BX2_isDotAt_0
  refine V_iload_n (κ := KX2_isDotAt) (pc := 0) dX2_isDotAt_0 3 rfl ?_
  refine V_if_lt (κ := KX2_isDotAt) (pc := 1) (tgt := 45) dX2_isDotAt_1 rfl ?_ ?_
  · refine V_sub (lv' := []) [] rfl ?_
    exact VBX2_isDotAt_45 _
  refine V_iload_n (κ := KX2_isDotAt) (pc := 4) dX2_isDotAt_4 3 rfl ?_
  refine V_aload_n (κ := KX2_isDotAt) (pc := 5) dX2_isDotAt_5 1 rfl rfl ?_
  refine V_getf 5 (κ := KX2_isDotAt) (pc := 6) rfl (by decide) rfl inX5 0 (by decide) wd_205 rfl (t := 0) rfl dX2_isDotAt_6 fun t101 => ?_
  refine V_icmp_ge (κ := KX2_isDotAt) (pc := 9) (tgt := 45) dX2_isDotAt_9 rfl ?_ ?_
  · refine V_sub (lv' := []) [] rfl ?_
    exact VBX2_isDotAt_45 _
  refine V_iload (κ := KX2_isDotAt) (pc := 12) dX2_isDotAt_12 4 rfl ?_
  refine V_if_lt (κ := KX2_isDotAt) (pc := 14) (tgt := 45) dX2_isDotAt_14 rfl ?_ ?_
  · refine V_sub (lv' := []) [] rfl ?_
    exact VBX2_isDotAt_45 _
  refine V_iload (κ := KX2_isDotAt) (pc := 17) dX2_isDotAt_17 4 rfl ?_
  refine V_aload_n (κ := KX2_isDotAt) (pc := 19) dX2_isDotAt_19 1 rfl rfl ?_
  refine V_getf 5 (κ := KX2_isDotAt) (pc := 20) rfl (by decide) rfl inX5 1 (by decide) wd_209 rfl (t := 0) rfl dX2_isDotAt_20 fun t102 => ?_
  refine V_icmp_ge (κ := KX2_isDotAt) (pc := 23) (tgt := 45) dX2_isDotAt_23 rfl ?_ ?_
  · refine V_sub (lv' := []) [] rfl ?_
    exact VBX2_isDotAt_45 _
  refine V_aload_n (κ := KX2_isDotAt) (pc := 26) dX2_isDotAt_26 0 rfl rfl ?_
  refine V_iload_n (κ := KX2_isDotAt) (pc := 27) dX2_isDotAt_27 2 rfl ?_
  refine V_aload_n (κ := KX2_isDotAt) (pc := 28) dX2_isDotAt_28 1 rfl rfl ?_
  refine V_iload_n (κ := KX2_isDotAt) (pc := 29) dX2_isDotAt_29 3 rfl ?_
  refine V_iload (κ := KX2_isDotAt) (pc := 30) dX2_isDotAt_30 4 rfl ?_
  refine V_callV (ci := 5) (T := TX5) (N := 7) rfl (by decide) (κ := KX2_isDotAt) (pc := 32) (con_X5_indexOfCell _ _ _ _) mth_X5_indexOfCell rfl ⟨wd_351, wd_352⟩ wd_350 (st0 := [(0, x2), (2, x0)]) rfl rfl (by decide) (Nat.le_of_ble_eq_true rfl) dX2_isDotAt_32 (fun _ _ _ h => VX_out rfl (by decide) h) fun t103 u104 => ?_
  refine V_callV (ci := 2) (T := TX2) (N := 8) rfl (by decide) (κ := KX2_isDotAt) (pc := 35) (con_X2_hasDot _ _ _ _) mth_X2_hasDot rfl ⟨wd_946, wd_947⟩ wd_957 (st0 := []) rfl rfl (by decide) (Nat.le_of_ble_eq_true rfl) dX2_isDotAt_35 (fun _ _ _ h => VX_out rfl (by decide) h) fun t105 u106 => ?_
  refine V_if_eq (κ := KX2_isDotAt) (pc := 38) (tgt := 45) dX2_isDotAt_38 rfl ?_ ?_
  · refine V_sub (lv' := []) [] rfl ?_
    exact VBX2_isDotAt_45 _
  refine V_iconst (κ := KX2_isDotAt) (pc := 41) dX2_isDotAt_41 ⟨by decide, by decide⟩ ?_
  refine V_goto (κ := KX2_isDotAt) (pc := 42) (tgt := 46) dX2_isDotAt_42 rfl ?_
  refine V_sub (lv' := []) [] rfl ?_
  exact VBX2_isDotAt_46 _ _
theorem con_X2_isDotAt (a0 a1 a2 a3 a4 : Int) (μ : Mem) : Con (2) yX2_isDotAt (.code yX2_isDotAt cX2_isDotAt 5 (some .boolean)) 0 [(2, a0), (2, a1), (0, a2), (0, a3), (0, a4)] μ (FX2_isDotAt a0 a1 a2 a3 a4 μ) := Con_intro KX2_isDotAt (plainFor_of_name (by decide)) rfl (fun h => by cases h) (by decide) rfl (Nat.le_of_ble_eq_true rfl) (fun Γ => VBX2_isDotAt_0 _ _ _ _ _ _)
abbrev KX2_isSpot : Kap := (RX2, cX2_isSpot, 5, 3, 0, (some .boolean), false, [])
theorem VBX2_isSpot_73 {Γ : Gam} (s0 : Int) (μ : Mem) : V Γ KX2_isSpot 73 [] [(0, s0)] μ (BX2_isSpot_73 s0 μ) := by
  unfold BX2_isSpot_73
  exact V_zreturn (κ := KX2_isSpot) (pc := 73) rfl rfl dX2_isSpot_73
theorem VBX2_isSpot_72 {Γ : Gam} (μ : Mem) : V Γ KX2_isSpot 72 [] [] μ (BX2_isSpot_72 μ) := by
  unfold BX2_isSpot_72
  refine V_iconst (κ := KX2_isSpot) (pc := 72) dX2_isSpot_72 ⟨by decide, by decide⟩ ?_
  exact VBX2_isSpot_73 _ _
theorem VBX2_isSpot_0 {Γ : Gam} (x0 x1 x2 x3 x4 : Int) (μ : Mem) : V Γ KX2_isSpot 0 [(0, (2, x0)), (1, (2, x1)), (2, (0, x2)), (3, (0, x3)), (4, (0, x4))] [] μ (BX2_isSpot_0 x0 x1 x2 x3 x4 μ) := by
  unfold BX2_isSpot_0
  refine V_aload_n (κ := KX2_isSpot) (pc := 0) dX2_isSpot_0 0 rfl rfl ?_
  refine V_aload_n (κ := KX2_isSpot) (pc := 1) dX2_isSpot_1 1 rfl rfl ?_
  refine V_iload_n (κ := KX2_isSpot) (pc := 2) dX2_isSpot_2 2 rfl ?_
  refine V_iload_n (κ := KX2_isSpot) (pc := 3) dX2_isSpot_3 3 rfl ?_
  refine V_iload (κ := KX2_isSpot) (pc := 4) dX2_isSpot_4 4 rfl ?_
  refine V_callV (ci := 2) (T := TX2) (N := 8) rfl (by decide) (κ := KX2_isSpot) (pc := 6) (con_X2_isDotAt _ _ _ _ _ _) mth_X2_isDotAt rfl ⟨wd_955, wp_36⟩ wd_953 (st0 := []) rfl rfl (by decide) (Nat.le_of_ble_eq_true rfl) dX2_isSpot_6 (fun _ _ _ h => VX_out rfl (by decide) h) fun t101 u102 => ?_
  refine V_if_eq (κ := KX2_isSpot) (pc := 9) (tgt := 72) dX2_isSpot_9 rfl ?_ ?_
  · refine V_sub (lv' := []) [] rfl ?_
    exact VBX2_isSpot_72 _
  refine V_aload_n (κ := KX2_isSpot) (pc := 12) dX2_isSpot_12 0 rfl rfl ?_
  refine V_aload_n (κ := KX2_isSpot) (pc := 13) dX2_isSpot_13 1 rfl rfl ?_
  refine V_iload_n (κ := KX2_isSpot) (pc := 14) dX2_isSpot_14 2 rfl ?_
  refine V_iload_n (κ := KX2_isSpot) (pc := 15) dX2_isSpot_15 3 rfl ?_
  refine V_iload (κ := KX2_isSpot) (pc := 16) dX2_isSpot_16 4 rfl ?_
  refine V_iconst (κ := KX2_isSpot) (pc := 18) dX2_isSpot_18 ⟨by decide, by decide⟩ ?_
  refine V_isub (κ := KX2_isSpot) (pc := 19) dX2_isSpot_19 ?_
  refine V_callV (ci := 2) (T := TX2) (N := 8) rfl (by decide) (κ := KX2_isSpot) (pc := 20) (con_X2_isDotAt _ _ _ _ _ _) mth_X2_isDotAt rfl ⟨wd_955, wp_36⟩ wd_953 (st0 := []) rfl rfl (by decide) (Nat.le_of_ble_eq_true rfl) dX2_isSpot_20 (fun _ _ _ h => VX_out rfl (by decide) h) fun t103 u104 => ?_
  refine V_if_ne (κ := KX2_isSpot) (pc := 23) (tgt := 72) dX2_isSpot_23 rfl ?_ ?_
  · refine V_sub (lv' := []) [] rfl ?_
    exact VBX2_isSpot_72 _
  refine V_aload_n (κ := KX2_isSpot) (pc := 26) dX2_isSpot_26 0 rfl rfl ?_
  refine V_aload_n (κ := KX2_isSpot) (pc := 27) dX2_isSpot_27 1 rfl rfl ?_
  refine V_iload_n (κ := KX2_isSpot) (pc := 28) dX2_isSpot_28 2 rfl ?_
  refine V_iload_n (κ := KX2_isSpot) (pc := 29) dX2_isSpot_29 3 rfl ?_
  refine V_iload (κ := KX2_isSpot) (pc := 30) dX2_isSpot_30 4 rfl ?_
  refine V_iconst (κ := KX2_isSpot) (pc := 32) dX2_isSpot_32 ⟨by decide, by decide⟩ ?_
  refine V_iadd (κ := KX2_isSpot) (pc := 33) dX2_isSpot_33 ?_
  refine V_callV (ci := 2) (T := TX2) (N := 8) rfl (by decide) (κ := KX2_isSpot) (pc := 34) (con_X2_isDotAt _ _ _ _ _ _) mth_X2_isDotAt rfl ⟨wd_955, wp_36⟩ wd_953 (st0 := []) rfl rfl (by decide) (Nat.le_of_ble_eq_true rfl) dX2_isSpot_34 (fun _ _ _ h => VX_out rfl (by decide) h) fun t105 u106 => ?_
  refine V_if_ne (κ := KX2_isSpot) (pc := 37) (tgt := 72) dX2_isSpot_37 rfl ?_ ?_
  · refine V_sub (lv' := []) [] rfl ?_
    exact VBX2_isSpot_72 _
  refine V_aload_n (κ := KX2_isSpot) (pc := 40) dX2_isSpot_40 0 rfl rfl ?_
  refine V_aload_n (κ := KX2_isSpot) (pc := 41) dX2_isSpot_41 1 rfl rfl ?_
  refine V_iload_n (κ := KX2_isSpot) (pc := 42) dX2_isSpot_42 2 rfl ?_
  refine V_iload_n (κ := KX2_isSpot) (pc := 43) dX2_isSpot_43 3 rfl ?_
  refine V_iconst (κ := KX2_isSpot) (pc := 44) dX2_isSpot_44 ⟨by decide, by decide⟩ ?_
  refine V_isub (κ := KX2_isSpot) (pc := 45) dX2_isSpot_45 ?_
  refine V_iload (κ := KX2_isSpot) (pc := 46) dX2_isSpot_46 4 rfl ?_
  refine V_callV (ci := 2) (T := TX2) (N := 8) rfl (by decide) (κ := KX2_isSpot) (pc := 48) (con_X2_isDotAt _ _ _ _ _ _) mth_X2_isDotAt rfl ⟨wd_955, wp_36⟩ wd_953 (st0 := []) rfl rfl (by decide) (Nat.le_of_ble_eq_true rfl) dX2_isSpot_48 (fun _ _ _ h => VX_out rfl (by decide) h) fun t107 u108 => ?_
  refine V_if_ne (κ := KX2_isSpot) (pc := 51) (tgt := 72) dX2_isSpot_51 rfl ?_ ?_
  · refine V_sub (lv' := []) [] rfl ?_
    exact VBX2_isSpot_72 _
  refine V_aload_n (κ := KX2_isSpot) (pc := 54) dX2_isSpot_54 0 rfl rfl ?_
  refine V_aload_n (κ := KX2_isSpot) (pc := 55) dX2_isSpot_55 1 rfl rfl ?_
  refine V_iload_n (κ := KX2_isSpot) (pc := 56) dX2_isSpot_56 2 rfl ?_
  refine V_iload_n (κ := KX2_isSpot) (pc := 57) dX2_isSpot_57 3 rfl ?_
  refine V_iconst (κ := KX2_isSpot) (pc := 58) dX2_isSpot_58 ⟨by decide, by decide⟩ ?_
  refine V_iadd (κ := KX2_isSpot) (pc := 59) dX2_isSpot_59 ?_
  refine V_iload (κ := KX2_isSpot) (pc := 60) dX2_isSpot_60 4 rfl ?_
  refine V_callV (ci := 2) (T := TX2) (N := 8) rfl (by decide) (κ := KX2_isSpot) (pc := 62) (con_X2_isDotAt _ _ _ _ _ _) mth_X2_isDotAt rfl ⟨wd_955, wp_36⟩ wd_953 (st0 := []) rfl rfl (by decide) (Nat.le_of_ble_eq_true rfl) dX2_isSpot_62 (fun _ _ _ h => VX_out rfl (by decide) h) fun t109 u110 => ?_
  refine V_if_ne (κ := KX2_isSpot) (pc := 65) (tgt := 72) dX2_isSpot_65 rfl ?_ ?_
  · refine V_sub (lv' := []) [] rfl ?_
    exact VBX2_isSpot_72 _
  refine V_iconst (κ := KX2_isSpot) (pc := 68) dX2_isSpot_68 ⟨by decide, by decide⟩ ?_
  refine V_goto (κ := KX2_isSpot) (pc := 69) (tgt := 73) dX2_isSpot_69 rfl ?_
  refine V_sub (lv' := []) [] rfl ?_
  exact VBX2_isSpot_73 _ _
theorem con_X2_isSpot (a0 a1 a2 a3 a4 : Int) (μ : Mem) : Con (3) yX2_isSpot (.code yX2_isSpot cX2_isSpot 5 (some .boolean)) 0 [(2, a0), (2, a1), (0, a2), (0, a3), (0, a4)] μ (FX2_isSpot a0 a1 a2 a3 a4 μ) := Con_intro KX2_isSpot (plainFor_of_name (by decide)) rfl (fun h => by cases h) (by decide) rfl (Nat.le_of_ble_eq_true rfl) (fun Γ => VBX2_isSpot_0 _ _ _ _ _ _)
abbrev KX3_rankOf : Kap := (RX3, cX3_rankOf, 3, 1, 0, (some .int), false, [])
theorem VBX3_rankOf_35 {Γ : Gam} (s0 : Int) (μ : Mem) : V Γ KX3_rankOf 35 [] [(0, s0)] μ (BX3_rankOf_35 s0 μ) := by
  unfold BX3_rankOf_35
  exact V_ireturn (κ := KX3_rankOf) (pc := 35) rfl rfl dX3_rankOf_35
theorem VBX3_rankOf_0 {Γ : Gam} (x0 x1 x2 : Int) (μ : Mem) : V Γ KX3_rankOf 0 [(0, (2, x0)), (1, (0, x1)), (2, (0, x2))] [] μ (BX3_rankOf_0 x0 x1 x2 μ) := by
  unfold BX3_rankOf_0
  refine V_aload_n (κ := KX3_rankOf) (pc := 0) dX3_rankOf_0 0 rfl rfl ?_
  refine V_getf 3 (κ := KX3_rankOf) (pc := 1) rfl (by decide) rfl inX3 2 (by decide) wd_58 rfl (t := 0) rfl dX3_rankOf_1 fun t101 => ?_
  refine V_iconst (κ := KX3_rankOf) (pc := 4) dX3_rankOf_4 ⟨by decide, by decide⟩ ?_
  refine V_icmp_ge (κ := KX3_rankOf) (pc := 5) (tgt := 12) dX3_rankOf_5 rfl ?_ ?_
  · refine V_aload_n (κ := KX3_rankOf) (pc := 12) dX3_rankOf_12 0 rfl rfl ?_
    refine V_getf 3 (κ := KX3_rankOf) (pc := 13) rfl (by decide) rfl inX3 4 (by decide) wd_60 rfl (t := 2) rfl dX3_rankOf_13 fun t102 => ?_
    refine V_iload_n (κ := KX3_rankOf) (pc := 16) dX3_rankOf_16 2 rfl ?_
    refine V_aload_n (κ := KX3_rankOf) (pc := 17) dX3_rankOf_17 0 rfl rfl ?_
    refine V_getf 3 (κ := KX3_rankOf) (pc := 18) rfl (by decide) rfl inX3 2 (by decide) wd_58 rfl (t := 0) rfl dX3_rankOf_18 fun t103 => ?_
    refine V_irem (κ := KX3_rankOf) (pc := 21) dX3_rankOf_21 fun t104 => ?_
    refine V_aload_n (κ := KX3_rankOf) (pc := 22) dX3_rankOf_22 0 rfl rfl ?_
    refine V_getf 3 (κ := KX3_rankOf) (pc := 23) rfl (by decide) rfl inX3 2 (by decide) wd_58 rfl (t := 0) rfl dX3_rankOf_23 fun t105 => ?_
    refine V_imul (κ := KX3_rankOf) (pc := 26) dX3_rankOf_26 ?_
    refine V_iload_n (κ := KX3_rankOf) (pc := 27) dX3_rankOf_27 1 rfl ?_
    refine V_aload_n (κ := KX3_rankOf) (pc := 28) dX3_rankOf_28 0 rfl rfl ?_
    refine V_getf 3 (κ := KX3_rankOf) (pc := 29) rfl (by decide) rfl inX3 2 (by decide) wd_58 rfl (t := 0) rfl dX3_rankOf_29 fun t106 => ?_
    refine V_irem (κ := KX3_rankOf) (pc := 32) dX3_rankOf_32 fun t107 => ?_
    refine V_iadd (κ := KX3_rankOf) (pc := 33) dX3_rankOf_33 ?_
    refine V_iaload (κ := KX3_rankOf) (pc := 34) dX3_rankOf_34 fun t108 => ?_
    refine V_sub (lv' := []) [] rfl ?_
    exact VBX3_rankOf_35 _ _
  refine V_iconst (κ := KX3_rankOf) (pc := 8) dX3_rankOf_8 ⟨by decide, by decide⟩ ?_
  refine V_goto (κ := KX3_rankOf) (pc := 9) (tgt := 35) dX3_rankOf_9 rfl ?_
  refine V_sub (lv' := []) [] rfl ?_
  exact VBX3_rankOf_35 _ _
theorem con_X3_rankOf (a0 a1 a2 : Int) (μ : Mem) : Con (1) yX3_rankOf (.code yX3_rankOf cX3_rankOf 3 (some .int)) 0 [(2, a0), (0, a1), (0, a2)] μ (FX3_rankOf a0 a1 a2 μ) := Con_intro KX3_rankOf (plainFor_of_name (by decide)) rfl (fun h => by cases h) (by decide) rfl (Nat.le_of_ble_eq_true rfl) (fun Γ => VBX3_rankOf_0 _ _ _ _)
abbrev KX2_rankAt : Kap := (RX2, cX2_rankAt, 5, 2, 0, (some .int), false, [])
theorem VBX2_rankAt_0 {Γ : Gam} (x0 x1 x2 x3 x4 : Int) (μ : Mem) : V Γ KX2_rankAt 0 [(0, (2, x0)), (1, (2, x1)), (2, (0, x2)), (3, (0, x3)), (4, (0, x4))] [] μ (BX2_rankAt_0 x0 x1 x2 x3 x4 μ) := by
  unfold BX2_rankAt_0
  refine V_aload_n (κ := KX2_rankAt) (pc := 0) dX2_rankAt_0 0 rfl rfl ?_
  refine V_getf 2 (κ := KX2_rankAt) (pc := 1) rfl (by decide) rfl inX2 3 (by decide) wd_79 rfl (t := 2) rfl dX2_rankAt_1 fun t101 => ?_
  refine V_iload_n (κ := KX2_rankAt) (pc := 4) dX2_rankAt_4 2 rfl ?_
  refine V_aaload 6 (by decide) rfl rfl (κ := KX2_rankAt) (pc := 5) dX2_rankAt_5 fun t102 => ?_
  refine V_iload_n (κ := KX2_rankAt) (pc := 6) dX2_rankAt_6 3 rfl ?_
  refine V_aload_n (κ := KX2_rankAt) (pc := 7) dX2_rankAt_7 1 rfl rfl ?_
  refine V_getf 5 (κ := KX2_rankAt) (pc := 8) rfl (by decide) rfl inX5 4 (by decide) wd_221 rfl (t := 2) rfl dX2_rankAt_8 fun t103 => ?_
  refine V_iload_n (κ := KX2_rankAt) (pc := 11) dX2_rankAt_11 2 rfl ?_
  refine V_aaload 5 (by decide) rfl rfl (κ := KX2_rankAt) (pc := 12) dX2_rankAt_12 fun t104 => ?_
  refine V_getf 1 (κ := KX2_rankAt) (pc := 13) rfl (by decide) rfl inX1 4 (by decide) wd_175 rfl (t := 0) rfl dX2_rankAt_13 fun t105 => ?_
  refine V_iadd (κ := KX2_rankAt) (pc := 16) dX2_rankAt_16 ?_
  refine V_iload (κ := KX2_rankAt) (pc := 17) dX2_rankAt_17 4 rfl ?_
  refine V_aload_n (κ := KX2_rankAt) (pc := 19) dX2_rankAt_19 1 rfl rfl ?_
  refine V_getf 5 (κ := KX2_rankAt) (pc := 20) rfl (by decide) rfl inX5 4 (by decide) wd_221 rfl (t := 2) rfl dX2_rankAt_20 fun t106 => ?_
  refine V_iload_n (κ := KX2_rankAt) (pc := 23) dX2_rankAt_23 2 rfl ?_
  refine V_aaload 5 (by decide) rfl rfl (κ := KX2_rankAt) (pc := 24) dX2_rankAt_24 fun t107 => ?_
  refine V_getf 1 (κ := KX2_rankAt) (pc := 25) rfl (by decide) rfl inX1 5 (by decide) wd_179 rfl (t := 0) rfl dX2_rankAt_25 fun t108 => ?_
  refine V_iadd (κ := KX2_rankAt) (pc := 28) dX2_rankAt_28 ?_
  refine V_callV (ci := 3) (T := TX3) (N := 5) rfl (by decide) (κ := KX2_rankAt) (pc := 29) (con_X3_rankOf _ _ _ _) mth_X3_rankOf rfl ⟨wd_427, wd_428⟩ wd_426 (st0 := []) rfl rfl (by decide) (Nat.le_of_ble_eq_true rfl) dX2_rankAt_29 (fun _ _ _ h => VX_out rfl (by decide) h) fun t109 u110 => ?_
  exact V_ireturn (κ := KX2_rankAt) (pc := 32) rfl rfl dX2_rankAt_32
theorem con_X2_rankAt (a0 a1 a2 a3 a4 : Int) (μ : Mem) : Con (2) yX2_rankAt (.code yX2_rankAt cX2_rankAt 5 (some .int)) 0 [(2, a0), (2, a1), (0, a2), (0, a3), (0, a4)] μ (FX2_rankAt a0 a1 a2 a3 a4 μ) := Con_intro KX2_rankAt (plainFor_of_name (by decide)) rfl (fun h => by cases h) (by decide) rfl (Nat.le_of_ble_eq_true rfl) (fun Γ => VBX2_rankAt_0 _ _ _ _ _ _)
abbrev KX1_p : Kap := (RX1, cX1_p, 1, 1, 0, (some .int), false, [])
theorem VBX1_p_0 {Γ : Gam} (x0 : Int) (μ : Mem) : V Γ KX1_p 0 [(0, (2, x0))] [] μ (BX1_p_0 x0 μ) := by
  unfold BX1_p_0
  refine V_aload_n (κ := KX1_p) (pc := 0) dX1_p_0 0 rfl rfl ?_
  refine V_getf 1 (κ := KX1_p) (pc := 1) rfl (by decide) rfl inX1 1 (by decide) wd_163 rfl (t := 0) rfl dX1_p_1 fun t101 => ?_
  refine V_aload_n (κ := KX1_p) (pc := 4) dX1_p_4 0 rfl rfl ?_
  refine V_getf 1 (κ := KX1_p) (pc := 5) rfl (by decide) rfl inX1 1 (by decide) wd_163 rfl (t := 0) rfl dX1_p_5 fun t102 => ?_
  refine V_imul (κ := KX1_p) (pc := 8) dX1_p_8 ?_
  refine V_aload_n (κ := KX1_p) (pc := 9) dX1_p_9 0 rfl rfl ?_
  refine V_getf 1 (κ := KX1_p) (pc := 10) rfl (by decide) rfl inX1 2 (by decide) wd_166 rfl (t := 0) rfl dX1_p_10 fun t103 => ?_
  refine V_aload_n (κ := KX1_p) (pc := 13) dX1_p_13 0 rfl rfl ?_
  refine V_getf 1 (κ := KX1_p) (pc := 14) rfl (by decide) rfl inX1 2 (by decide) wd_166 rfl (t := 0) rfl dX1_p_14 fun t104 => ?_
  refine V_imul (κ := KX1_p) (pc := 17) dX1_p_17 ?_
  refine V_iadd (κ := KX1_p) (pc := 18) dX1_p_18 ?_
  exact V_ireturn (κ := KX1_p) (pc := 19) rfl rfl dX1_p_19
theorem con_X1_p (a0 : Int) (μ : Mem) : Con (1) yX1_p (.code yX1_p cX1_p 1 (some .int)) 0 [(2, a0)] μ (FX1_p a0 μ) := Con_intro KX1_p (plainFor_of_name (by decide)) rfl (fun h => by cases h) (by decide) rfl (Nat.le_of_ble_eq_true rfl) (fun Γ => VBX1_p_0 _ _)
abbrev KX2_isDark : Kap := (RX2, cX2_isDark, 6, 3, 0, (some .boolean), false, [])
theorem VBX2_isDark_51 {Γ : Gam} (s0 : Int) (μ : Mem) : V Γ KX2_isDark 51 [] [(0, s0)] μ (BX2_isDark_51 s0 μ) := by
  unfold BX2_isDark_51
  exact V_zreturn (κ := KX2_isDark) (pc := 51) rfl rfl dX2_isDark_51
theorem VBX2_isDark_0 {Γ : Gam} (x0 x1 x2 x3 x4 : Int) (μ : Mem) : V Γ KX2_isDark 0 [(0, (2, x0)), (1, (2, x1)), (2, (0, x2)), (3, (0, x3)), (4, (0, x4))] [] μ (BX2_isDark_0 x0 x1 x2 x3 x4 μ) := by
  unfold BX2_isDark_0
  refine V_aload_n (κ := KX2_isDark) (pc := 0) dX2_isDark_0 1 rfl rfl ?_
  refine V_getf 5 (κ := KX2_isDark) (pc := 1) rfl (by decide) rfl inX5 4 (by decide) wd_221 rfl (t := 2) rfl dX2_isDark_1 fun t101 => ?_
  refine V_iload_n (κ := KX2_isDark) (pc := 4) dX2_isDark_4 2 rfl ?_
  refine V_aaload 5 (by decide) rfl rfl (κ := KX2_isDark) (pc := 5) dX2_isDark_5 fun t102 => ?_
  refine V_callV (ci := 1) (T := TX1) (N := 8) rfl (by decide) (κ := KX2_isDark) (pc := 6) (con_X1_p _ _) mth_X1_p rfl ⟨wd_387, wd_388⟩ wd_421 (st0 := []) rfl rfl (by decide) (Nat.le_of_ble_eq_true rfl) dX2_isDark_6 (fun _ _ _ h => VX_out rfl (by decide) h) fun t103 u104 => ?_
  refine V_istore (κ := KX2_isDark) (pc := 9) (lv' := [(5, (0, t103)), (0, (2, x0)), (1, (2, x1)), (2, (0, x2)), (3, (0, x3)), (4, (0, x4))]) dX2_isDark_9 (by decide) rfl ?_
  refine V_aload_n (κ := KX2_isDark) (pc := 11) dX2_isDark_11 1 rfl rfl ?_
  refine V_aload_n (κ := KX2_isDark) (pc := 12) dX2_isDark_12 2 rfl rfl ?_
  refine V_iload_n (κ := KX2_isDark) (pc := 13) dX2_isDark_13 3 rfl ?_
  refine V_iload_n (κ := KX2_isDark) (pc := 14) dX2_isDark_14 4 rfl ?_
  refine V_iload (κ := KX2_isDark) (pc := 15) dX2_isDark_15 5 rfl ?_
  refine V_callV (ci := 2) (T := TX2) (N := 8) rfl (by decide) (κ := KX2_isDark) (pc := 17) (con_X2_rankAt _ _ _ _ _ _) mth_X2_rankAt rfl ⟨wd_423, wd_424⟩ wd_422 (st0 := []) rfl rfl (by decide) (Nat.le_of_ble_eq_true rfl) dX2_isDark_17 (fun _ _ _ h => VX_out rfl (by decide) h) fun t105 u106 => ?_
  refine V_bipush (κ := KX2_isDark) (pc := 20) dX2_isDark_20 ⟨by decide, by decide⟩ (by decide) ?_
  refine V_imul (κ := KX2_isDark) (pc := 22) dX2_isDark_22 ?_
  refine V_aload_n (κ := KX2_isDark) (pc := 23) dX2_isDark_23 1 rfl rfl ?_
  refine V_getf 2 (κ := KX2_isDark) (pc := 24) rfl (by decide) rfl inX2 0 (by decide) wd_74 rfl (t := 2) rfl dX2_isDark_24 fun t107 => ?_
  refine V_iload_n (κ := KX2_isDark) (pc := 27) dX2_isDark_27 3 rfl ?_
  refine V_aaload 7 (by decide) rfl rfl (κ := KX2_isDark) (pc := 28) dX2_isDark_28 fun t108 => ?_
  refine V_aload_n (κ := KX2_isDark) (pc := 29) dX2_isDark_29 2 rfl rfl ?_
  refine V_iload_n (κ := KX2_isDark) (pc := 30) dX2_isDark_30 4 rfl ?_
  refine V_iload (κ := KX2_isDark) (pc := 31) dX2_isDark_31 5 rfl ?_
  refine V_callV (ci := 5) (T := TX5) (N := 7) rfl (by decide) (κ := KX2_isDark) (pc := 33) (con_X5_indexOfCell _ _ _ _) mth_X5_indexOfCell rfl ⟨wd_351, wd_352⟩ wd_350 (st0 := [(2, t108), (0, w32 (t105 * 100))]) rfl rfl (by decide) (Nat.le_of_ble_eq_true rfl) dX2_isDark_33 (fun _ _ _ h => VX_out rfl (by decide) h) fun t109 u110 => ?_
  refine V_iaload (κ := KX2_isDark) (pc := 36) dX2_isDark_36 fun t111 => ?_
  refine V_iload (κ := KX2_isDark) (pc := 37) dX2_isDark_37 0 rfl ?_
  refine V_imul (κ := KX2_isDark) (pc := 39) dX2_isDark_39 ?_
  refine V_iload (κ := KX2_isDark) (pc := 40) dX2_isDark_40 0 rfl ?_
  refine V_imul (κ := KX2_isDark) (pc := 42) dX2_isDark_42 ?_
  refine V_icmp_ge (κ := KX2_isDark) (pc := 43) (tgt := 50) dX2_isDark_43 rfl ?_ ?_
  · refine V_iconst (κ := KX2_isDark) (pc := 50) dX2_isDark_50 ⟨by decide, by decide⟩ ?_
    refine V_sub (lv' := []) [] rfl ?_
    exact VBX2_isDark_51 _ _
  refine V_iconst (κ := KX2_isDark) (pc := 46) dX2_isDark_46 ⟨by decide, by decide⟩ ?_
  refine V_goto (κ := KX2_isDark) (pc := 47) (tgt := 51) dX2_isDark_47 rfl ?_
  refine V_sub (lv' := []) [] rfl ?_
  exact VBX2_isDark_51 _ _
theorem con_X2_isDark (a0 a1 a2 a3 a4 : Int) (μ : Mem) : Con (3) yX2_isDark (.code yX2_isDark cX2_isDark 6 (some .boolean)) 0 [(2, a0), (2, a1), (0, a2), (0, a3), (0, a4)] μ (FX2_isDark a0 a1 a2 a3 a4 μ) := Con_intro KX2_isDark (plainFor_of_name (by decide)) rfl (fun h => by cases h) (by decide) rfl (Nat.le_of_ble_eq_true rfl) (fun Γ => VBX2_isDark_0 _ _ _ _ _ _)
abbrev KX6_remainder : Kap := (RX6, cX6_remainder, 2, 5, 0, (some .int), false, [])
theorem VBX6_remainder_14 {Γ : Gam} (s0 : Int) (μ : Mem) : V Γ KX6_remainder 14 [] [(0, s0)] μ (BX6_remainder_14 s0 μ) := by
  unfold BX6_remainder_14
  exact V_ireturn (κ := KX6_remainder) (pc := 14) rfl rfl dX6_remainder_14
theorem VBX6_remainder_0 {Γ : Gam} (x0 x1 : Int) (μ : Mem) : V Γ KX6_remainder 0 [(0, (0, x0)), (1, (0, x1))] [] μ (BX6_remainder_0 x0 x1 μ) := by
  unfold BX6_remainder_0
  refine V_iload_n (κ := KX6_remainder) (pc := 0) dX6_remainder_0 1 rfl ?_
  refine V_iconst (κ := KX6_remainder) (pc := 1) dX6_remainder_1 ⟨by decide, by decide⟩ ?_
  refine V_icmp_ge (κ := KX6_remainder) (pc := 2) (tgt := 9) dX6_remainder_2 rfl ?_ ?_
  · refine V_iload_n (κ := KX6_remainder) (pc := 9) dX6_remainder_9 0 rfl ?_
    refine V_iload_n (κ := KX6_remainder) (pc := 10) dX6_remainder_10 1 rfl ?_
    refine V_callS (κ := KX6_remainder) (pc := 11) (con_J9_floorMod_7cf53 _ _ _) mth_J9_floorMod_7cf53 wd_399 wd_398 (st0 := []) rfl rfl (by decide) (Nat.le_of_ble_eq_true rfl) dX6_remainder_11 (fun _ _ _ h => VX_out rfl (by decide) h) fun t101 u102 => ?_
    refine V_sub (lv' := []) [] rfl ?_
    exact VBX6_remainder_14 _ _
  refine V_iconst (κ := KX6_remainder) (pc := 5) dX6_remainder_5 ⟨by decide, by decide⟩ ?_
  refine V_goto (κ := KX6_remainder) (pc := 6) (tgt := 14) dX6_remainder_6 rfl ?_
  refine V_sub (lv' := []) [] rfl ?_
  exact VBX6_remainder_14 _ _
theorem con_X6_remainder (a0 a1 : Int) (μ : Mem) : Con (5) yX6_remainder (.code yX6_remainder cX6_remainder 2 (some .int)) 0 [(0, a0), (0, a1)] μ (FX6_remainder a0 a1 μ) := Con_intro KX6_remainder (plainFor_of_name (by decide)) rfl (fun h => by cases h) (by decide) rfl (Nat.le_of_ble_eq_true rfl) (fun Γ => VBX6_remainder_0 _ _ _)
abbrev KX3_measureAt : Kap := (RX3, cX3_measureAt, 5, 6, 0, (some .int), false, [])
theorem VBX3_measureAt_0 {Γ : Gam} (x0 x1 x2 : Int) (μ : Mem) : V Γ KX3_measureAt 0 [(0, (2, x0)), (1, (0, x1)), (2, (0, x2))] [] μ (BX3_measureAt_0 x0 x1 x2 μ) := by
  unfold BX3_measureAt_0
  refine V_iconst (κ := KX3_measureAt) (pc := 0) dX3_measureAt_0 ⟨by decide, by decide⟩ ?_
  refine V_aload_n (κ := KX3_measureAt) (pc := 1) dX3_measureAt_1 0 rfl rfl ?_
  refine V_getf 3 (κ := KX3_measureAt) (pc := 2) rfl (by decide) rfl inX3 0 (by decide) wd_56 rfl (t := 0) rfl dX3_measureAt_2 fun t101 => ?_
  refine V_iload_n (κ := KX3_measureAt) (pc := 5) dX3_measureAt_5 1 rfl ?_
  refine V_imul (κ := KX3_measureAt) (pc := 6) dX3_measureAt_6 ?_
  refine V_aload_n (κ := KX3_measureAt) (pc := 7) dX3_measureAt_7 0 rfl rfl ?_
  refine V_getf 3 (κ := KX3_measureAt) (pc := 8) rfl (by decide) rfl inX3 1 (by decide) wd_57 rfl (t := 0) rfl dX3_measureAt_8 fun t102 => ?_
  refine V_iload_n (κ := KX3_measureAt) (pc := 11) dX3_measureAt_11 2 rfl ?_
  refine V_imul (κ := KX3_measureAt) (pc := 12) dX3_measureAt_12 ?_
  refine V_iadd (κ := KX3_measureAt) (pc := 13) dX3_measureAt_13 ?_
  refine V_aload_n (κ := KX3_measureAt) (pc := 14) dX3_measureAt_14 0 rfl rfl ?_
  refine V_getf 3 (κ := KX3_measureAt) (pc := 15) rfl (by decide) rfl inX3 2 (by decide) wd_58 rfl (t := 0) rfl dX3_measureAt_15 fun t103 => ?_
  refine V_callSN (host := "TonePlates") (κ := KX3_measureAt) (pc := 18) (con_X6_remainder _ _ _) mth_X6_remainder wd_396 (by decide) (st0 := [(0, 2)]) rfl rfl (by decide) (Nat.le_of_ble_eq_true rfl) dX3_measureAt_18 (fun _ _ _ h => VX_out rfl (by decide) h) fun t104 u105 => ?_
  refine V_imul (κ := KX3_measureAt) (pc := 21) dX3_measureAt_21 ?_
  refine V_aload_n (κ := KX3_measureAt) (pc := 22) dX3_measureAt_22 0 rfl rfl ?_
  refine V_getf 3 (κ := KX3_measureAt) (pc := 23) rfl (by decide) rfl inX3 2 (by decide) wd_58 rfl (t := 0) rfl dX3_measureAt_23 fun t106 => ?_
  refine V_isub (κ := KX3_measureAt) (pc := 26) dX3_measureAt_26 ?_
  refine V_LT fun x107 => ?_
  refine V_istore_n (κ := KX3_measureAt) (pc := 27) (lv' := [(3, (0, x107)), (0, (2, x0)), (1, (0, x1)), (2, (0, x2))]) dX3_measureAt_27 (by decide) rfl ?_
  refine V_iconst (κ := KX3_measureAt) (pc := 28) dX3_measureAt_28 ⟨by decide, by decide⟩ ?_
  refine V_aload_n (κ := KX3_measureAt) (pc := 29) dX3_measureAt_29 1 rfl rfl ?_
  refine V_getf 3 (κ := KX3_measureAt) (pc := 30) rfl (by decide) rfl inX3 0 (by decide) wd_56 rfl (t := 0) rfl dX3_measureAt_30 fun t108 => ?_
  refine V_iload_n (κ := KX3_measureAt) (pc := 33) dX3_measureAt_33 3 rfl ?_
  refine V_imul (κ := KX3_measureAt) (pc := 34) dX3_measureAt_34 ?_
  refine V_aload_n (κ := KX3_measureAt) (pc := 35) dX3_measureAt_35 1 rfl rfl ?_
  refine V_getf 3 (κ := KX3_measureAt) (pc := 36) rfl (by decide) rfl inX3 1 (by decide) wd_57 rfl (t := 0) rfl dX3_measureAt_36 fun t109 => ?_
  refine V_iload_n (κ := KX3_measureAt) (pc := 39) dX3_measureAt_39 2 rfl ?_
  refine V_imul (κ := KX3_measureAt) (pc := 40) dX3_measureAt_40 ?_
  refine V_isub (κ := KX3_measureAt) (pc := 41) dX3_measureAt_41 ?_
  refine V_aload_n (κ := KX3_measureAt) (pc := 42) dX3_measureAt_42 1 rfl rfl ?_
  refine V_getf 3 (κ := KX3_measureAt) (pc := 43) rfl (by decide) rfl inX3 2 (by decide) wd_58 rfl (t := 0) rfl dX3_measureAt_43 fun t110 => ?_
  refine V_callSN (host := "TonePlates") (κ := KX3_measureAt) (pc := 46) (con_X6_remainder _ _ _) mth_X6_remainder wd_396 (by decide) (st0 := [(0, 2)]) rfl rfl (by decide) (Nat.le_of_ble_eq_true rfl) dX3_measureAt_46 (fun _ _ _ h => VX_out rfl (by decide) h) fun t111 u112 => ?_
  refine V_imul (κ := KX3_measureAt) (pc := 49) dX3_measureAt_49 ?_
  refine V_aload_n (κ := KX3_measureAt) (pc := 50) dX3_measureAt_50 1 rfl rfl ?_
  refine V_getf 3 (κ := KX3_measureAt) (pc := 51) rfl (by decide) rfl inX3 2 (by decide) wd_58 rfl (t := 0) rfl dX3_measureAt_51 fun t113 => ?_
  refine V_isub (κ := KX3_measureAt) (pc := 54) dX3_measureAt_54 ?_
  refine V_LT fun x114 => ?_
  refine V_istore (κ := KX3_measureAt) (pc := 55) (lv' := [(4, (0, x114)), (3, (0, x107)), (0, (2, x0)), (1, (0, x1)), (2, (0, x2))]) dX3_measureAt_55 (by decide) rfl ?_
  refine V_aload_n (κ := KX3_measureAt) (pc := 57) dX3_measureAt_57 2 rfl rfl ?_
  refine V_getf 3 (κ := KX3_measureAt) (pc := 58) rfl (by decide) rfl inX3 3 (by decide) wd_59 rfl (t := 0) rfl dX3_measureAt_58 fun t115 => ?_
  refine V_tsw (κ := KX3_measureAt) (pc := 61) (os := [27, 37, 42]) (tgt := 114) dX3_measureAt_61 rfl rfl ?_ ⟨⟨88, rfl, ?_⟩, ⟨98, rfl, ?_⟩, ⟨103, rfl, ?_⟩, trivial⟩
  · refine V_iload_n (κ := KX3_measureAt) (pc := 114) dX3_measureAt_114 1 rfl ?_
    refine V_callS (κ := KX3_measureAt) (pc := 115) (con_J9_abs_0f7a4 _ _) mth_J9_abs_0f7a4 wd_402 wd_401 (st0 := []) rfl rfl (by decide) (Nat.le_of_ble_eq_true rfl) dX3_measureAt_115 (fun _ _ _ h => VX_out rfl (by decide) h) fun t116 u117 => ?_
    refine V_iload (κ := KX3_measureAt) (pc := 118) dX3_measureAt_118 0 rfl ?_
    refine V_callS (κ := KX3_measureAt) (pc := 120) (con_J9_abs_0f7a4 _ _) mth_J9_abs_0f7a4 wd_402 wd_401 (st0 := [(0, t116)]) rfl rfl (by decide) (Nat.le_of_ble_eq_true rfl) dX3_measureAt_120 (fun _ _ _ h => VX_out rfl (by decide) h) fun t118 u119 => ?_
    refine V_callS (κ := KX3_measureAt) (pc := 123) (con_J9_max_7cf53 _ _ _) mth_J9_max_7cf53 wd_405 wd_404 (st0 := []) rfl rfl (by decide) (Nat.le_of_ble_eq_true rfl) dX3_measureAt_123 (fun _ _ _ h => VX_out rfl (by decide) h) fun t120 u121 => ?_
    exact V_ireturn (κ := KX3_measureAt) (pc := 126) rfl rfl dX3_measureAt_126
  · refine V_iload_n (κ := KX3_measureAt) (pc := 88) dX3_measureAt_88 1 rfl ?_
    refine V_iload_n (κ := KX3_measureAt) (pc := 89) dX3_measureAt_89 1 rfl ?_
    refine V_imul (κ := KX3_measureAt) (pc := 90) dX3_measureAt_90 ?_
    refine V_iload (κ := KX3_measureAt) (pc := 91) dX3_measureAt_91 0 rfl ?_
    refine V_iload (κ := KX3_measureAt) (pc := 93) dX3_measureAt_93 0 rfl ?_
    refine V_imul (κ := KX3_measureAt) (pc := 95) dX3_measureAt_95 ?_
    refine V_iadd (κ := KX3_measureAt) (pc := 96) dX3_measureAt_96 ?_
    exact V_ireturn (κ := KX3_measureAt) (pc := 97) rfl rfl dX3_measureAt_97
  · refine V_iload_n (κ := KX3_measureAt) (pc := 98) dX3_measureAt_98 1 rfl ?_
    refine V_callS (κ := KX3_measureAt) (pc := 99) (con_J9_abs_0f7a4 _ _) mth_J9_abs_0f7a4 wd_402 wd_401 (st0 := []) rfl rfl (by decide) (Nat.le_of_ble_eq_true rfl) dX3_measureAt_99 (fun _ _ _ h => VX_out rfl (by decide) h) fun t122 u123 => ?_
    exact V_ireturn (κ := KX3_measureAt) (pc := 102) rfl rfl dX3_measureAt_102
  · refine V_iload_n (κ := KX3_measureAt) (pc := 103) dX3_measureAt_103 1 rfl ?_
    refine V_callS (κ := KX3_measureAt) (pc := 104) (con_J9_abs_0f7a4 _ _) mth_J9_abs_0f7a4 wd_402 wd_401 (st0 := []) rfl rfl (by decide) (Nat.le_of_ble_eq_true rfl) dX3_measureAt_104 (fun _ _ _ h => VX_out rfl (by decide) h) fun t124 u125 => ?_
    refine V_iload (κ := KX3_measureAt) (pc := 107) dX3_measureAt_107 0 rfl ?_
    refine V_callS (κ := KX3_measureAt) (pc := 109) (con_J9_abs_0f7a4 _ _) mth_J9_abs_0f7a4 wd_402 wd_401 (st0 := [(0, t124)]) rfl rfl (by decide) (Nat.le_of_ble_eq_true rfl) dX3_measureAt_109 (fun _ _ _ h => VX_out rfl (by decide) h) fun t126 u127 => ?_
    refine V_iadd (κ := KX3_measureAt) (pc := 112) dX3_measureAt_112 ?_
    exact V_ireturn (κ := KX3_measureAt) (pc := 113) rfl rfl dX3_measureAt_113
theorem con_X3_measureAt (a0 a1 a2 : Int) (μ : Mem) : Con (6) yX3_measureAt (.code yX3_measureAt cX3_measureAt 5 (some .int)) 0 [(2, a0), (0, a1), (0, a2)] μ (FX3_measureAt a0 a1 a2 μ) := Con_intro KX3_measureAt (plainFor_of_name (by decide)) rfl (fun h => by cases h) (by decide) rfl (Nat.le_of_ble_eq_true rfl) (fun Γ => VBX3_measureAt_0 _ _ _ _)
abbrev KX3_fit : Kap := (RX3, cX3_fit, 6, 7, 9, none, false, [])
theorem VBX3_fit_158 {Γ : Gam} {k147 : Int → Int → Int → Mem → Rz} (hk147 : ∀ (y0 y2 y3 : Int) (ν : Mem), V Γ KX3_fit 147 [(0, (2, y0)), (2, (2, y2)), (3, (0, y3))] [] ν (k147 y0 y2 y3 ν)) {k158 : Int → Int → Int → Int → Mem → Rz} (hk158 : ∀ (y0 y2 y3 y4 : Int) (ν : Mem), V Γ KX3_fit 158 [(0, (2, y0)), (2, (2, y2)), (3, (0, y3)), (4, (0, y4))] [] ν (k158 y0 y2 y3 y4 ν)) (x0 x2 x3 x4 : Int) (μ : Mem) : V Γ KX3_fit 158 [(0, (2, x0)), (2, (2, x2)), (3, (0, x3)), (4, (0, x4))] [] μ (BX3_fit_158 k147 k158 x0 x2 x3 x4 μ) := by
  unfold BX3_fit_158
  refine V_iload (κ := KX3_fit) (pc := 158) dX3_fit_158 3 rfl ?_
  refine V_aload_n (κ := KX3_fit) (pc := 160) dX3_fit_160 0 rfl rfl ?_
  refine V_getf 3 (κ := KX3_fit) (pc := 161) rfl (by decide) rfl inX3 2 (by decide) wd_58 rfl (t := 0) rfl dX3_fit_161 fun t101 => ?_
  refine V_icmp_ge (κ := KX3_fit) (pc := 164) (tgt := 208) dX3_fit_164 rfl ?_ ?_
  · refine V_iinc (κ := KX3_fit) (pc := 208) (lv' := [(3, (0, w32 (x3 + 1))), (0, (2, x0)), (2, (2, x2)), (4, (0, x4))]) dX3_fit_208 2 rfl (by decide) rfl ?_
    refine V_goto (κ := KX3_fit) (pc := 211) (tgt := 147) dX3_fit_211 rfl ?_
    refine V_sub (lv' := [(0, (2, x0)), (2, (2, x2)), (3, (0, w32 (x3 + 1)))]) [1, 2, 0] rfl ?_
    exact hk147 _ _ _ _
  refine V_aload_n (κ := KX3_fit) (pc := 167) dX3_fit_167 0 rfl rfl ?_
  refine V_iload (κ := KX3_fit) (pc := 168) dX3_fit_168 3 rfl ?_
  refine V_iload_n (κ := KX3_fit) (pc := 170) dX3_fit_170 2 rfl ?_
  refine V_callV (ci := 3) (T := TX3) (N := 5) rfl (by decide) (κ := KX3_fit) (pc := 171) (con_X3_measureAt _ _ _ _) mth_X3_measureAt rfl ⟨wd_393, wp_3⟩ wd_391 (st0 := []) rfl rfl (by decide) (Nat.le_of_ble_eq_true rfl) dX3_fit_171 (fun _ _ _ h => VX_out rfl (by decide) h) fun t102 u103 => ?_
  refine V_istore (κ := KX3_fit) (pc := 174) (lv' := [(5, (0, t102)), (0, (2, x0)), (2, (2, x2)), (3, (0, x3)), (4, (0, x4))]) dX3_fit_174 (by decide) rfl ?_
  refine V_aload_n (κ := KX3_fit) (pc := 176) dX3_fit_176 1 rfl rfl ?_
  refine V_getf 3 (κ := KX3_fit) (pc := 177) rfl (by decide) rfl inX3 4 (by decide) wd_60 rfl (t := 2) rfl dX3_fit_177 fun t104 => ?_
  refine V_iload_n (κ := KX3_fit) (pc := 180) dX3_fit_180 3 rfl ?_
  refine V_aload_n (κ := KX3_fit) (pc := 181) dX3_fit_181 1 rfl rfl ?_
  refine V_getf 3 (κ := KX3_fit) (pc := 182) rfl (by decide) rfl inX3 2 (by decide) wd_58 rfl (t := 0) rfl dX3_fit_182 fun t105 => ?_
  refine V_imul (κ := KX3_fit) (pc := 185) dX3_fit_185 ?_
  refine V_iload (κ := KX3_fit) (pc := 186) dX3_fit_186 4 rfl ?_
  refine V_iadd (κ := KX3_fit) (pc := 188) dX3_fit_188 ?_
  refine V_aload_n (κ := KX3_fit) (pc := 189) dX3_fit_189 2 rfl rfl ?_
  refine V_iload (κ := KX3_fit) (pc := 190) dX3_fit_190 0 rfl ?_
  refine V_iaload (κ := KX3_fit) (pc := 192) dX3_fit_192 fun t106 => ?_
  refine V_iastore (κ := KX3_fit) (pc := 193) dX3_fit_193 fun u107 => ?_
  refine V_aload_n (κ := KX3_fit) (pc := 194) dX3_fit_194 2 rfl rfl ?_
  refine V_iload (κ := KX3_fit) (pc := 195) dX3_fit_195 0 rfl ?_
  refine V_dup2 (κ := KX3_fit) (pc := 197) rfl rfl dX3_fit_197 ?_
  refine V_iaload (κ := KX3_fit) (pc := 198) dX3_fit_198 fun t108 => ?_
  refine V_iconst (κ := KX3_fit) (pc := 199) dX3_fit_199 ⟨by decide, by decide⟩ ?_
  refine V_iadd (κ := KX3_fit) (pc := 200) dX3_fit_200 ?_
  refine V_iastore (κ := KX3_fit) (pc := 201) dX3_fit_201 fun u109 => ?_
  refine V_iinc (κ := KX3_fit) (pc := 202) (lv' := [(4, (0, w32 (x4 + 1))), (5, (0, t102)), (0, (2, x0)), (2, (2, x2)), (3, (0, x3))]) dX3_fit_202 4 rfl (by decide) rfl ?_
  refine V_goto (κ := KX3_fit) (pc := 205) (tgt := 158) dX3_fit_205 rfl ?_
  refine V_sub (lv' := [(0, (2, x0)), (2, (2, x2)), (3, (0, x3)), (4, (0, w32 (x4 + 1)))]) [2, 3, 4, 0] rfl ?_
  exact hk158 _ _ _ _ _
theorem VLX3_fit_158 {Γ : Gam} {k147 : Int → Int → Int → Mem → Rz} (hk147 : ∀ (y0 y2 y3 : Int) (ν : Mem), V Γ KX3_fit 147 [(0, (2, y0)), (2, (2, y2)), (3, (0, y3))] [] ν (k147 y0 y2 y3 ν)) : ∀ (n : Nat) (x0 x2 x3 x4 : Int) (μ : Mem), V Γ KX3_fit 158 [(0, (2, x0)), (2, (2, x2)), (3, (0, x3)), (4, (0, x4))] [] μ (LX3_fit_158 k147 n x0 x2 x3 x4 μ)
  | 0, _, _, _, _, _ => V_none
  | n + 1, x0, x2, x3, x4, μ => VBX3_fit_158 hk147 (fun y0 y2 y3 y4 ν => VLX3_fit_158 hk147 n y0 y2 y3 y4 ν) x0 x2 x3 x4 μ
theorem VBX3_fit_147 {Γ : Gam} {k147 : Int → Int → Int → Mem → Rz} (hk147 : ∀ (y0 y2 y3 : Int) (ν : Mem), V Γ KX3_fit 147 [(0, (2, y0)), (2, (2, y2)), (3, (0, y3))] [] ν (k147 y0 y2 y3 ν)) (x0 x2 x3 : Int) (μ : Mem) : V Γ KX3_fit 147 [(0, (2, x0)), (2, (2, x2)), (3, (0, x3))] [] μ (BX3_fit_147 k147 x0 x2 x3 μ) := by
  unfold BX3_fit_147
  refine V_iload_n (κ := KX3_fit) (pc := 147) dX3_fit_147 2 rfl ?_
  refine V_aload_n (κ := KX3_fit) (pc := 148) dX3_fit_148 0 rfl rfl ?_
  refine V_getf 3 (κ := KX3_fit) (pc := 149) rfl (by decide) rfl inX3 2 (by decide) wd_58 rfl (t := 0) rfl dX3_fit_149 fun t101 => ?_
  refine V_icmp_ge (κ := KX3_fit) (pc := 152) (tgt := 214) dX3_fit_152 rfl ?_ ?_
  · exact V_vreturn (κ := KX3_fit) (pc := 214) rfl rfl dX3_fit_214
  refine V_iconst (κ := KX3_fit) (pc := 155) dX3_fit_155 ⟨by decide, by decide⟩ ?_
  refine V_istore (κ := KX3_fit) (pc := 156) (lv' := [(4, (0, 0)), (0, (2, x0)), (2, (2, x2)), (3, (0, x3))]) dX3_fit_156 (by decide) rfl ?_
  refine V_sub (lv' := [(0, (2, x0)), (2, (2, x2)), (3, (0, x3)), (4, (0, 0))]) [1, 2, 3, 0] rfl ?_
  exact VLX3_fit_158 hk147 FU _ _ _ _ _
theorem VLX3_fit_147 {Γ : Gam} : ∀ (n : Nat) (x0 x2 x3 : Int) (μ : Mem), V Γ KX3_fit 147 [(0, (2, x0)), (2, (2, x2)), (3, (0, x3))] [] μ (LX3_fit_147 n x0 x2 x3 μ)
  | 0, _, _, _, _ => V_none
  | n + 1, x0, x2, x3, μ => VBX3_fit_147 (fun y0 y2 y3 ν => VLX3_fit_147 n y0 y2 y3 ν) x0 x2 x3 μ
theorem VBX3_fit_122 {Γ : Gam} {k122 : Int → Int → Int → Mem → Rz} (hk122 : ∀ (y0 y2 y3 : Int) (ν : Mem), V Γ KX3_fit 122 [(0, (2, y0)), (2, (2, y2)), (3, (0, y3))] [] ν (k122 y0 y2 y3 ν)) (x0 x2 x3 : Int) (μ : Mem) : V Γ KX3_fit 122 [(0, (2, x0)), (2, (2, x2)), (3, (0, x3))] [] μ (BX3_fit_122 k122 x0 x2 x3 μ) := by
  unfold BX3_fit_122
  refine V_iload_n (κ := KX3_fit) (pc := 122) dX3_fit_122 2 rfl ?_
  refine V_aload_n (κ := KX3_fit) (pc := 123) dX3_fit_123 1 rfl rfl ?_
  refine V_alen 1 (by decide) (κ := KX3_fit) (pc := 124) dX3_fit_124 fun t101 => ?_
  refine V_icmp_ge (κ := KX3_fit) (pc := 125) (tgt := 145) dX3_fit_125 rfl ?_ ?_
  · refine V_iconst (κ := KX3_fit) (pc := 145) dX3_fit_145 ⟨by decide, by decide⟩ ?_
    refine V_istore_n (κ := KX3_fit) (pc := 146) (lv' := [(3, (0, 0)), (0, (2, x0)), (2, (2, x2))]) dX3_fit_146 (by decide) rfl ?_
    refine V_sub (lv' := [(0, (2, x0)), (2, (2, x2)), (3, (0, 0))]) [1, 2, 0] rfl ?_
    exact VLX3_fit_147 FU _ _ _ _
  refine V_aload_n (κ := KX3_fit) (pc := 128) dX3_fit_128 1 rfl rfl ?_
  refine V_iload_n (κ := KX3_fit) (pc := 129) dX3_fit_129 2 rfl ?_
  refine V_dup2 (κ := KX3_fit) (pc := 130) rfl rfl dX3_fit_130 ?_
  refine V_iaload (κ := KX3_fit) (pc := 131) dX3_fit_131 fun t102 => ?_
  refine V_aload_n (κ := KX3_fit) (pc := 132) dX3_fit_132 1 rfl rfl ?_
  refine V_iload_n (κ := KX3_fit) (pc := 133) dX3_fit_133 2 rfl ?_
  refine V_iconst (κ := KX3_fit) (pc := 134) dX3_fit_134 ⟨by decide, by decide⟩ ?_
  refine V_isub (κ := KX3_fit) (pc := 135) dX3_fit_135 ?_
  refine V_iaload (κ := KX3_fit) (pc := 136) dX3_fit_136 fun t103 => ?_
  refine V_iadd (κ := KX3_fit) (pc := 137) dX3_fit_137 ?_
  refine V_iastore (κ := KX3_fit) (pc := 138) dX3_fit_138 fun u104 => ?_
  refine V_iinc (κ := KX3_fit) (pc := 139) (lv' := [(3, (0, w32 (x3 + 1))), (0, (2, x0)), (2, (2, x2))]) dX3_fit_139 2 rfl (by decide) rfl ?_
  refine V_goto (κ := KX3_fit) (pc := 142) (tgt := 122) dX3_fit_142 rfl ?_
  refine V_sub (lv' := [(0, (2, x0)), (2, (2, x2)), (3, (0, w32 (x3 + 1)))]) [1, 2, 0] rfl ?_
  exact hk122 _ _ _ _
theorem VLX3_fit_122 {Γ : Gam} : ∀ (n : Nat) (x0 x2 x3 : Int) (μ : Mem), V Γ KX3_fit 122 [(0, (2, x0)), (2, (2, x2)), (3, (0, x3))] [] μ (LX3_fit_122 n x0 x2 x3 μ)
  | 0, _, _, _, _ => V_none
  | n + 1, x0, x2, x3, μ => VBX3_fit_122 (fun y0 y2 y3 ν => VLX3_fit_122 n y0 y2 y3 ν) x0 x2 x3 μ
theorem VBX3_fit_84 {Γ : Gam} {k73 : Int → Int → Int → Mem → Rz} (hk73 : ∀ (y0 y2 y3 : Int) (ν : Mem), V Γ KX3_fit 73 [(0, (2, y0)), (2, (2, y2)), (3, (0, y3))] [] ν (k73 y0 y2 y3 ν)) {k84 : Int → Int → Int → Int → Mem → Rz} (hk84 : ∀ (y0 y2 y3 y4 : Int) (ν : Mem), V Γ KX3_fit 84 [(0, (2, y0)), (2, (2, y2)), (3, (0, y3)), (4, (0, y4))] [] ν (k84 y0 y2 y3 y4 ν)) (x0 x2 x3 x4 : Int) (μ : Mem) : V Γ KX3_fit 84 [(0, (2, x0)), (2, (2, x2)), (3, (0, x3)), (4, (0, x4))] [] μ (BX3_fit_84 k73 k84 x0 x2 x3 x4 μ) := by
  unfold BX3_fit_84
  refine V_iload (κ := KX3_fit) (pc := 84) dX3_fit_84 3 rfl ?_
  refine V_aload_n (κ := KX3_fit) (pc := 86) dX3_fit_86 0 rfl rfl ?_
  refine V_getf 3 (κ := KX3_fit) (pc := 87) rfl (by decide) rfl inX3 2 (by decide) wd_58 rfl (t := 0) rfl dX3_fit_87 fun t101 => ?_
  refine V_icmp_ge (κ := KX3_fit) (pc := 90) (tgt := 114) dX3_fit_90 rfl ?_ ?_
  · refine V_iinc (κ := KX3_fit) (pc := 114) (lv' := [(3, (0, w32 (x3 + 1))), (0, (2, x0)), (2, (2, x2)), (4, (0, x4))]) dX3_fit_114 2 rfl (by decide) rfl ?_
    refine V_goto (κ := KX3_fit) (pc := 117) (tgt := 73) dX3_fit_117 rfl ?_
    refine V_sub (lv' := [(0, (2, x0)), (2, (2, x2)), (3, (0, w32 (x3 + 1)))]) [1, 2, 0] rfl ?_
    exact hk73 _ _ _ _
  refine V_aload_n (κ := KX3_fit) (pc := 93) dX3_fit_93 1 rfl rfl ?_
  refine V_aload_n (κ := KX3_fit) (pc := 94) dX3_fit_94 0 rfl rfl ?_
  refine V_iload (κ := KX3_fit) (pc := 95) dX3_fit_95 3 rfl ?_
  refine V_iload_n (κ := KX3_fit) (pc := 97) dX3_fit_97 2 rfl ?_
  refine V_callV (ci := 3) (T := TX3) (N := 5) rfl (by decide) (κ := KX3_fit) (pc := 98) (con_X3_measureAt _ _ _ _) mth_X3_measureAt rfl ⟨wd_393, wp_3⟩ wd_391 (st0 := [(2, x2)]) rfl rfl (by decide) (Nat.le_of_ble_eq_true rfl) dX3_fit_98 (fun _ _ _ h => VX_out rfl (by decide) h) fun t102 u103 => ?_
  refine V_iconst (κ := KX3_fit) (pc := 101) dX3_fit_101 ⟨by decide, by decide⟩ ?_
  refine V_iadd (κ := KX3_fit) (pc := 102) dX3_fit_102 ?_
  refine V_dup2 (κ := KX3_fit) (pc := 103) rfl rfl dX3_fit_103 ?_
  refine V_iaload (κ := KX3_fit) (pc := 104) dX3_fit_104 fun t104 => ?_
  refine V_iconst (κ := KX3_fit) (pc := 105) dX3_fit_105 ⟨by decide, by decide⟩ ?_
  refine V_iadd (κ := KX3_fit) (pc := 106) dX3_fit_106 ?_
  refine V_iastore (κ := KX3_fit) (pc := 107) dX3_fit_107 fun u105 => ?_
  refine V_iinc (κ := KX3_fit) (pc := 108) (lv' := [(4, (0, w32 (x4 + 1))), (0, (2, x0)), (2, (2, x2)), (3, (0, x3))]) dX3_fit_108 3 rfl (by decide) rfl ?_
  refine V_goto (κ := KX3_fit) (pc := 111) (tgt := 84) dX3_fit_111 rfl ?_
  refine V_sub (lv' := [(0, (2, x0)), (2, (2, x2)), (3, (0, x3)), (4, (0, w32 (x4 + 1)))]) [1, 2, 3, 0] rfl ?_
  exact hk84 _ _ _ _ _
theorem VLX3_fit_84 {Γ : Gam} {k73 : Int → Int → Int → Mem → Rz} (hk73 : ∀ (y0 y2 y3 : Int) (ν : Mem), V Γ KX3_fit 73 [(0, (2, y0)), (2, (2, y2)), (3, (0, y3))] [] ν (k73 y0 y2 y3 ν)) : ∀ (n : Nat) (x0 x2 x3 x4 : Int) (μ : Mem), V Γ KX3_fit 84 [(0, (2, x0)), (2, (2, x2)), (3, (0, x3)), (4, (0, x4))] [] μ (LX3_fit_84 k73 n x0 x2 x3 x4 μ)
  | 0, _, _, _, _, _ => V_none
  | n + 1, x0, x2, x3, x4, μ => VBX3_fit_84 hk73 (fun y0 y2 y3 y4 ν => VLX3_fit_84 hk73 n y0 y2 y3 y4 ν) x0 x2 x3 x4 μ
theorem VBX3_fit_73 {Γ : Gam} {k73 : Int → Int → Int → Mem → Rz} (hk73 : ∀ (y0 y2 y3 : Int) (ν : Mem), V Γ KX3_fit 73 [(0, (2, y0)), (2, (2, y2)), (3, (0, y3))] [] ν (k73 y0 y2 y3 ν)) (x0 x2 x3 : Int) (μ : Mem) : V Γ KX3_fit 73 [(0, (2, x0)), (2, (2, x2)), (3, (0, x3))] [] μ (BX3_fit_73 k73 x0 x2 x3 μ) := by
  unfold BX3_fit_73
  refine V_iload_n (κ := KX3_fit) (pc := 73) dX3_fit_73 2 rfl ?_
  refine V_aload_n (κ := KX3_fit) (pc := 74) dX3_fit_74 0 rfl rfl ?_
  refine V_getf 3 (κ := KX3_fit) (pc := 75) rfl (by decide) rfl inX3 2 (by decide) wd_58 rfl (t := 0) rfl dX3_fit_75 fun t101 => ?_
  refine V_icmp_ge (κ := KX3_fit) (pc := 78) (tgt := 120) dX3_fit_78 rfl ?_ ?_
  · refine V_iconst (κ := KX3_fit) (pc := 120) dX3_fit_120 ⟨by decide, by decide⟩ ?_
    refine V_istore_n (κ := KX3_fit) (pc := 121) (lv' := [(3, (0, 1)), (0, (2, x0)), (2, (2, x2))]) dX3_fit_121 (by decide) rfl ?_
    refine V_sub (lv' := [(0, (2, x0)), (2, (2, x2)), (3, (0, 1))]) [1, 2, 0] rfl ?_
    exact VLX3_fit_122 FU _ _ _ _
  refine V_iconst (κ := KX3_fit) (pc := 81) dX3_fit_81 ⟨by decide, by decide⟩ ?_
  refine V_istore (κ := KX3_fit) (pc := 82) (lv' := [(4, (0, 0)), (0, (2, x0)), (2, (2, x2)), (3, (0, x3))]) dX3_fit_82 (by decide) rfl ?_
  refine V_sub (lv' := [(0, (2, x0)), (2, (2, x2)), (3, (0, x3)), (4, (0, 0))]) [1, 2, 3, 0] rfl ?_
  exact VLX3_fit_84 hk73 FU _ _ _ _ _
theorem VLX3_fit_73 {Γ : Gam} : ∀ (n : Nat) (x0 x2 x3 : Int) (μ : Mem), V Γ KX3_fit 73 [(0, (2, x0)), (2, (2, x2)), (3, (0, x3))] [] μ (LX3_fit_73 n x0 x2 x3 μ)
  | 0, _, _, _, _ => V_none
  | n + 1, x0, x2, x3, μ => VBX3_fit_73 (fun y0 y2 y3 ν => VLX3_fit_73 n y0 y2 y3 ν) x0 x2 x3 μ
theorem VBX3_fit_34 {Γ : Gam} (x0 x1 x2 : Int) (μ : Mem) : V Γ KX3_fit 34 [(0, (2, x0)), (1, (2, x1)), (2, (2, x2))] [] μ (BX3_fit_34 x0 x1 x2 μ) := by
  unfold BX3_fit_34
  refine V_aload_n (κ := KX3_fit) (pc := 34) dX3_fit_34 0 rfl rfl ?_
  refine V_aload_n (κ := KX3_fit) (pc := 35) dX3_fit_35 1 rfl rfl ?_
  refine V_getf 1 (κ := KX3_fit) (pc := 36) rfl (by decide) rfl inX1 1 (by decide) wd_164 rfl (t := 0) rfl dX3_fit_36 fun t101 => ?_
  refine V_putf 3 (κ := KX3_fit) (pc := 39) rfl (by decide) rfl inX3 tyX3 tyX3_ok nmX3 0 (by decide) wd_56 rfl rfl (t := 0) rfl rfl dX3_fit_39 fun u102 => ?_
  refine V_aload_n (κ := KX3_fit) (pc := 42) dX3_fit_42 0 rfl rfl ?_
  refine V_aload_n (κ := KX3_fit) (pc := 43) dX3_fit_43 1 rfl rfl ?_
  refine V_getf 1 (κ := KX3_fit) (pc := 44) rfl (by decide) rfl inX1 2 (by decide) wd_167 rfl (t := 0) rfl dX3_fit_44 fun t103 => ?_
  refine V_putf 3 (κ := KX3_fit) (pc := 47) rfl (by decide) rfl inX3 tyX3 tyX3_ok nmX3 1 (by decide) wd_57 rfl rfl (t := 0) rfl rfl dX3_fit_47 fun u104 => ?_
  refine V_aload_n (κ := KX3_fit) (pc := 50) dX3_fit_50 0 rfl rfl ?_
  refine V_aload_n (κ := KX3_fit) (pc := 51) dX3_fit_51 1 rfl rfl ?_
  refine V_callV (ci := 1) (T := TX1) (N := 8) rfl (by decide) (κ := KX3_fit) (pc := 52) (con_X1_p _ _) mth_X1_p rfl ⟨wd_387, wd_388⟩ wd_386 (st0 := [(2, x0)]) rfl rfl (by decide) (Nat.le_of_ble_eq_true rfl) dX3_fit_52 (fun _ _ _ h => VX_out rfl (by decide) h) fun t105 u106 => ?_
  refine V_putf 3 (κ := KX3_fit) (pc := 55) rfl (by decide) rfl inX3 tyX3 tyX3_ok nmX3 2 (by decide) wd_58 rfl rfl (t := 0) rfl rfl dX3_fit_55 fun u107 => ?_
  refine V_aload_n (κ := KX3_fit) (pc := 58) dX3_fit_58 0 rfl rfl ?_
  refine V_aload_n (κ := KX3_fit) (pc := 59) dX3_fit_59 1 rfl rfl ?_
  refine V_getf 1 (κ := KX3_fit) (pc := 60) rfl (by decide) rfl inX1 3 (by decide) wd_169 rfl (t := 0) rfl dX3_fit_60 fun t108 => ?_
  refine V_putf 3 (κ := KX3_fit) (pc := 63) rfl (by decide) rfl inX3 tyX3 tyX3_ok nmX3 3 (by decide) wd_59 rfl rfl (t := 0) rfl rfl dX3_fit_63 fun u109 => ?_
  refine V_aload_n (κ := KX3_fit) (pc := 66) dX3_fit_66 2 rfl rfl ?_
  refine V_iconst (κ := KX3_fit) (pc := 67) dX3_fit_67 ⟨by decide, by decide⟩ ?_
  refine V_callS (κ := KX3_fit) (pc := 68) (con_J7_fill_53178 _ _ _) mth_J7_fill_53178 wd_376 wd_390 (st0 := []) rfl rfl (by decide) (Nat.le_of_ble_eq_true rfl) dX3_fit_68 (fun _ _ _ h => VX_out rfl (by decide) h) fun _ u111 => ?_
  refine V_iconst (κ := KX3_fit) (pc := 71) dX3_fit_71 ⟨by decide, by decide⟩ ?_
  refine V_istore_n (κ := KX3_fit) (pc := 72) (lv' := [(3, (0, 0)), (0, (2, x0)), (1, (2, x1)), (2, (2, x2))]) dX3_fit_72 (by decide) rfl ?_
  refine V_sub (lv' := [(0, (2, x0)), (2, (2, x2)), (3, (0, 0))]) [1, 3, 0] rfl ?_
  exact VLX3_fit_73 FU _ _ _ _
theorem VBX3_fit_0 {Γ : Gam} (x0 x1 x2 : Int) (μ : Mem) : V Γ KX3_fit 0 [(0, (2, x0)), (1, (2, x1)), (2, (2, x2))] [] μ (BX3_fit_0 x0 x1 x2 μ) := by
  unfold BX3_fit_0
  refine V_aload_n (κ := KX3_fit) (pc := 0) dX3_fit_0 0 rfl rfl ?_
  refine V_getf 3 (κ := KX3_fit) (pc := 1) rfl (by decide) rfl inX3 0 (by decide) wd_56 rfl (t := 0) rfl dX3_fit_1 fun t101 => ?_
  refine V_aload_n (κ := KX3_fit) (pc := 4) dX3_fit_4 1 rfl rfl ?_
  refine V_getf 1 (κ := KX3_fit) (pc := 5) rfl (by decide) rfl inX1 1 (by decide) wd_164 rfl (t := 0) rfl dX3_fit_5 fun t102 => ?_
  refine V_icmp_ne (κ := KX3_fit) (pc := 8) (tgt := 34) dX3_fit_8 rfl ?_ ?_
  · exact VBX3_fit_34 _ _ _ _
  refine V_aload_n (κ := KX3_fit) (pc := 11) dX3_fit_11 0 rfl rfl ?_
  refine V_getf 3 (κ := KX3_fit) (pc := 12) rfl (by decide) rfl inX3 1 (by decide) wd_57 rfl (t := 0) rfl dX3_fit_12 fun t103 => ?_
  refine V_aload_n (κ := KX3_fit) (pc := 15) dX3_fit_15 1 rfl rfl ?_
  refine V_getf 1 (κ := KX3_fit) (pc := 16) rfl (by decide) rfl inX1 2 (by decide) wd_167 rfl (t := 0) rfl dX3_fit_16 fun t104 => ?_
  refine V_icmp_ne (κ := KX3_fit) (pc := 19) (tgt := 34) dX3_fit_19 rfl ?_ ?_
  · exact VBX3_fit_34 _ _ _ _
  refine V_aload_n (κ := KX3_fit) (pc := 22) dX3_fit_22 0 rfl rfl ?_
  refine V_getf 3 (κ := KX3_fit) (pc := 23) rfl (by decide) rfl inX3 3 (by decide) wd_59 rfl (t := 0) rfl dX3_fit_23 fun t105 => ?_
  refine V_aload_n (κ := KX3_fit) (pc := 26) dX3_fit_26 1 rfl rfl ?_
  refine V_getf 1 (κ := KX3_fit) (pc := 27) rfl (by decide) rfl inX1 3 (by decide) wd_169 rfl (t := 0) rfl dX3_fit_27 fun t106 => ?_
  refine V_icmp_ne (κ := KX3_fit) (pc := 30) (tgt := 34) dX3_fit_30 rfl ?_ ?_
  · exact VBX3_fit_34 _ _ _ _
  exact V_vreturn (κ := KX3_fit) (pc := 33) rfl rfl dX3_fit_33
theorem con_X3_fit (a0 a1 a2 : Int) (μ : Mem) : Con (7) yX3_fit (.code yX3_fit cX3_fit 6 none) 9 [(2, a0), (2, a1), (2, a2)] μ (FX3_fit a0 a1 a2 μ) := Con_intro KX3_fit (plainFor_of_name (by decide)) rfl (fun h => by cases h) (by decide) rfl (Nat.le_of_ble_eq_true rfl) (fun Γ => VBX3_fit_0 _ _ _ _)
abbrev KX5_isCleaned : Kap := (RX5, cX5_isCleaned, 3, 1, 0, (some .boolean), false, [])
theorem VBX5_isCleaned_19 {Γ : Gam} (s0 : Int) (μ : Mem) : V Γ KX5_isCleaned 19 [] [(0, s0)] μ (BX5_isCleaned_19 s0 μ) := by
  unfold BX5_isCleaned_19
  exact V_zreturn (κ := KX5_isCleaned) (pc := 19) rfl rfl dX5_isCleaned_19
theorem VBX5_isCleaned_0 {Γ : Gam} (x0 x1 x2 : Int) (μ : Mem) : V Γ KX5_isCleaned 0 [(0, (2, x0)), (1, (0, x1)), (2, (0, x2))] [] μ (BX5_isCleaned_0 x0 x1 x2 μ) := by
  unfold BX5_isCleaned_0
  refine V_aload_n (κ := KX5_isCleaned) (pc := 0) dX5_isCleaned_0 0 rfl rfl ?_
  refine V_getf 5 (κ := KX5_isCleaned) (pc := 1) rfl (by decide) rfl inX5 6 (by decide) wd_228 rfl (t := 2) rfl dX5_isCleaned_1 fun t101 => ?_
  refine V_iload_n (κ := KX5_isCleaned) (pc := 4) dX5_isCleaned_4 2 rfl ?_
  refine V_iaload (κ := KX5_isCleaned) (pc := 5) dX5_isCleaned_5 fun t102 => ?_
  refine V_iload_n (κ := KX5_isCleaned) (pc := 6) dX5_isCleaned_6 1 rfl ?_
  refine V_ishr (κ := KX5_isCleaned) (pc := 7) dX5_isCleaned_7 ?_
  refine V_iconst (κ := KX5_isCleaned) (pc := 8) dX5_isCleaned_8 ⟨by decide, by decide⟩ ?_
  refine V_iand (κ := KX5_isCleaned) (pc := 9) dX5_isCleaned_9 ?_
  refine V_iconst (κ := KX5_isCleaned) (pc := 10) dX5_isCleaned_10 ⟨by decide, by decide⟩ ?_
  refine V_icmp_ne (κ := KX5_isCleaned) (pc := 11) (tgt := 18) dX5_isCleaned_11 rfl ?_ ?_
  · refine V_iconst (κ := KX5_isCleaned) (pc := 18) dX5_isCleaned_18 ⟨by decide, by decide⟩ ?_
    refine V_sub (lv' := []) [] rfl ?_
    exact VBX5_isCleaned_19 _ _
  refine V_iconst (κ := KX5_isCleaned) (pc := 14) dX5_isCleaned_14 ⟨by decide, by decide⟩ ?_
  refine V_goto (κ := KX5_isCleaned) (pc := 15) (tgt := 19) dX5_isCleaned_15 rfl ?_
  refine V_sub (lv' := []) [] rfl ?_
  exact VBX5_isCleaned_19 _ _
theorem con_X5_isCleaned (a0 a1 a2 : Int) (μ : Mem) : Con (1) yX5_isCleaned (.code yX5_isCleaned cX5_isCleaned 3 (some .boolean)) 0 [(2, a0), (0, a1), (0, a2)] μ (FX5_isCleaned a0 a1 a2 μ) := Con_intro KX5_isCleaned (plainFor_of_name (by decide)) rfl (fun h => by cases h) (by decide) rfl (Nat.le_of_ble_eq_true rfl) (fun Γ => VBX5_isCleaned_0 _ _ _ _)
abbrev KX2_putDots : Kap := (RX2, cX2_putDots, 8, 8, 9, none, false, [])
theorem VBX2_putDots_123 {Γ : Gam} {k24 : Int → Int → Int → Int → Int → Mem → Rz} (hk24 : ∀ (y0 y1 y2 y3 y4 : Int) (ν : Mem), V Γ KX2_putDots 24 [(0, (2, y0)), (1, (2, y1)), (2, (0, y2)), (3, (0, y3)), (4, (0, y4))] [] ν (k24 y0 y1 y2 y3 y4 ν)) {k36 : Int → Int → Int → Int → Int → Int → Mem → Rz} (hk36 : ∀ (y0 y1 y2 y3 y4 y5 : Int) (ν : Mem), V Γ KX2_putDots 36 [(0, (2, y0)), (1, (2, y1)), (2, (0, y2)), (3, (0, y3)), (4, (0, y4)), (5, (0, y5))] [] ν (k36 y0 y1 y2 y3 y4 y5 ν)) (x0 x1 x2 x3 x4 x5 : Int) (μ : Mem) : V Γ KX2_putDots 123 [(0, (2, x0)), (1, (2, x1)), (2, (0, x2)), (3, (0, x3)), (4, (0, x4)), (5, (0, x5))] [] μ (BX2_putDots_123 k24 k36 x0 x1 x2 x3 x4 x5 μ) := by
  unfold BX2_putDots_123
  refine V_iinc (κ := KX2_putDots) (pc := 123) (lv' := [(5, (0, w32 (x5 + 1))), (0, (2, x0)), (1, (2, x1)), (2, (0, x2)), (3, (0, x3)), (4, (0, x4))]) dX2_putDots_123 5 rfl (by decide) rfl ?_
  refine V_goto (κ := KX2_putDots) (pc := 126) (tgt := 36) dX2_putDots_126 rfl ?_
  refine V_sub (lv' := [(0, (2, x0)), (1, (2, x1)), (2, (0, x2)), (3, (0, x3)), (4, (0, x4)), (5, (0, w32 (x5 + 1)))]) [1, 2, 3, 4, 5, 0] rfl ?_
  exact hk36 _ _ _ _ _ _ _
theorem VBX2_putDots_77 {Γ : Gam} {k24 : Int → Int → Int → Int → Int → Mem → Rz} (hk24 : ∀ (y0 y1 y2 y3 y4 : Int) (ν : Mem), V Γ KX2_putDots 24 [(0, (2, y0)), (1, (2, y1)), (2, (0, y2)), (3, (0, y3)), (4, (0, y4))] [] ν (k24 y0 y1 y2 y3 y4 ν)) {k36 : Int → Int → Int → Int → Int → Int → Mem → Rz} (hk36 : ∀ (y0 y1 y2 y3 y4 y5 : Int) (ν : Mem), V Γ KX2_putDots 36 [(0, (2, y0)), (1, (2, y1)), (2, (0, y2)), (3, (0, y3)), (4, (0, y4)), (5, (0, y5))] [] ν (k36 y0 y1 y2 y3 y4 y5 ν)) (x0 x1 x2 x3 x4 x5 x6 s0 : Int) (μ : Mem) : V Γ KX2_putDots 77 [(0, (2, x0)), (1, (2, x1)), (2, (0, x2)), (3, (0, x3)), (4, (0, x4)), (5, (0, x5)), (6, (0, x6))] [(0, s0)] μ (BX2_putDots_77 k24 k36 x0 x1 x2 x3 x4 x5 x6 s0 μ) := by
  unfold BX2_putDots_77
  refine V_istore (κ := KX2_putDots) (pc := 77) (lv' := [(7, (0, s0)), (0, (2, x0)), (1, (2, x1)), (2, (0, x2)), (3, (0, x3)), (4, (0, x4)), (5, (0, x5)), (6, (0, x6))]) dX2_putDots_77 (by decide) rfl ?_
  refine V_iload (κ := KX2_putDots) (pc := 79) dX2_putDots_79 0 rfl ?_
  refine V_if_eq (κ := KX2_putDots) (pc := 81) (tgt := 123) dX2_putDots_81 rfl ?_ ?_
  · refine V_sub (lv' := [(0, (2, x0)), (1, (2, x1)), (2, (0, x2)), (3, (0, x3)), (4, (0, x4)), (5, (0, x5))]) [1, 2, 3, 4, 5, 6] rfl ?_
    exact VBX2_putDots_123 hk24 hk36 _ _ _ _ _ _ _
  refine V_aload_n (κ := KX2_putDots) (pc := 84) dX2_putDots_84 2 rfl rfl ?_
  refine V_iload_n (κ := KX2_putDots) (pc := 85) dX2_putDots_85 3 rfl ?_
  refine V_iload (κ := KX2_putDots) (pc := 86) dX2_putDots_86 7 rfl ?_
  refine V_callV (ci := 5) (T := TX5) (N := 7) rfl (by decide) (κ := KX2_putDots) (pc := 88) (con_X5_isCleaned _ _ _ _) mth_X5_isCleaned rfl ⟨wd_414, wd_415⟩ wd_413 (st0 := []) rfl rfl (by decide) (Nat.le_of_ble_eq_true rfl) dX2_putDots_88 (fun _ _ _ h => VX_out rfl (by decide) h) fun t101 u102 => ?_
  refine V_if_ne (κ := KX2_putDots) (pc := 91) (tgt := 123) dX2_putDots_91 rfl ?_ ?_
  · refine V_sub (lv' := [(0, (2, x0)), (1, (2, x1)), (2, (0, x2)), (3, (0, x3)), (4, (0, x4)), (5, (0, x5))]) [1, 2, 3, 4, 5, 6] rfl ?_
    exact VBX2_putDots_123 hk24 hk36 _ _ _ _ _ _ _
  refine V_aload_n (κ := KX2_putDots) (pc := 94) dX2_putDots_94 1 rfl rfl ?_
  refine V_aload_n (κ := KX2_putDots) (pc := 95) dX2_putDots_95 2 rfl rfl ?_
  refine V_iload_n (κ := KX2_putDots) (pc := 96) dX2_putDots_96 3 rfl ?_
  refine V_iload (κ := KX2_putDots) (pc := 97) dX2_putDots_97 6 rfl ?_
  refine V_iload (κ := KX2_putDots) (pc := 99) dX2_putDots_99 5 rfl ?_
  refine V_callV (ci := 2) (T := TX2) (N := 8) rfl (by decide) (κ := KX2_putDots) (pc := 101) (con_X2_isDark _ _ _ _ _ _) mth_X2_isDark rfl ⟨wd_418, wd_419⟩ wd_417 (st0 := []) rfl rfl (by decide) (Nat.le_of_ble_eq_true rfl) dX2_putDots_101 (fun _ _ _ h => VX_out rfl (by decide) h) fun t103 u104 => ?_
  refine V_if_eq (κ := KX2_putDots) (pc := 104) (tgt := 123) dX2_putDots_104 rfl ?_ ?_
  · refine V_sub (lv' := [(0, (2, x0)), (1, (2, x1)), (2, (0, x2)), (3, (0, x3)), (4, (0, x4)), (5, (0, x5))]) [1, 2, 3, 4, 5, 6] rfl ?_
    exact VBX2_putDots_123 hk24 hk36 _ _ _ _ _ _ _
  refine V_aload_n (κ := KX2_putDots) (pc := 107) dX2_putDots_107 1 rfl rfl ?_
  refine V_getf 2 (κ := KX2_putDots) (pc := 108) rfl (by decide) rfl inX2 1 (by decide) wd_76 rfl (t := 2) rfl dX2_putDots_108 fun t105 => ?_
  refine V_iload (κ := KX2_putDots) (pc := 111) dX2_putDots_111 7 rfl ?_
  refine V_dup2 (κ := KX2_putDots) (pc := 113) rfl rfl dX2_putDots_113 ?_
  refine V_iaload (κ := KX2_putDots) (pc := 114) dX2_putDots_114 fun t106 => ?_
  refine V_iconst (κ := KX2_putDots) (pc := 115) dX2_putDots_115 ⟨by decide, by decide⟩ ?_
  refine V_iload_n (κ := KX2_putDots) (pc := 116) dX2_putDots_116 3 rfl ?_
  refine V_ishl (κ := KX2_putDots) (pc := 117) dX2_putDots_117 ?_
  refine V_ior (κ := KX2_putDots) (pc := 118) dX2_putDots_118 ?_
  refine V_iastore (κ := KX2_putDots) (pc := 119) dX2_putDots_119 fun u107 => ?_
  refine V_iinc (κ := KX2_putDots) (pc := 120) (lv' := [(3, (0, w32 (x3 + 1))), (7, (0, s0)), (0, (2, x0)), (1, (2, x1)), (2, (0, x2)), (4, (0, x4)), (5, (0, x5)), (6, (0, x6))]) dX2_putDots_120 4 rfl (by decide) rfl ?_
  refine V_sub (lv' := [(0, (2, x0)), (1, (2, x1)), (2, (0, x2)), (3, (0, w32 (x3 + 1))), (4, (0, x4)), (5, (0, x5))]) [2, 3, 4, 0, 5, 6] rfl ?_
  exact VBX2_putDots_123 hk24 hk36 _ _ _ _ _ _ _
theorem VBX2_putDots_36 {Γ : Gam} {k24 : Int → Int → Int → Int → Int → Mem → Rz} (hk24 : ∀ (y0 y1 y2 y3 y4 : Int) (ν : Mem), V Γ KX2_putDots 24 [(0, (2, y0)), (1, (2, y1)), (2, (0, y2)), (3, (0, y3)), (4, (0, y4))] [] ν (k24 y0 y1 y2 y3 y4 ν)) {k36 : Int → Int → Int → Int → Int → Int → Mem → Rz} (hk36 : ∀ (y0 y1 y2 y3 y4 y5 : Int) (ν : Mem), V Γ KX2_putDots 36 [(0, (2, y0)), (1, (2, y1)), (2, (0, y2)), (3, (0, y3)), (4, (0, y4)), (5, (0, y5))] [] ν (k36 y0 y1 y2 y3 y4 y5 ν)) (x0 x1 x2 x3 x4 x5 : Int) (μ : Mem) : V Γ KX2_putDots 36 [(0, (2, x0)), (1, (2, x1)), (2, (0, x2)), (3, (0, x3)), (4, (0, x4)), (5, (0, x5))] [] μ (BX2_putDots_36 k24 k36 x0 x1 x2 x3 x4 x5 μ) := by
  unfold BX2_putDots_36
  refine V_iload (κ := KX2_putDots) (pc := 36) dX2_putDots_36 5 rfl ?_
  refine V_aload_n (κ := KX2_putDots) (pc := 38) dX2_putDots_38 1 rfl rfl ?_
  refine V_getf 5 (κ := KX2_putDots) (pc := 39) rfl (by decide) rfl inX5 0 (by decide) wd_205 rfl (t := 0) rfl dX2_putDots_39 fun t101 => ?_
  refine V_icmp_ge (κ := KX2_putDots) (pc := 42) (tgt := 129) dX2_putDots_42 rfl ?_ ?_
  · refine V_iinc (κ := KX2_putDots) (pc := 129) (lv' := [(4, (0, w32 (x4 + 1))), (0, (2, x0)), (1, (2, x1)), (2, (0, x2)), (3, (0, x3)), (5, (0, x5))]) dX2_putDots_129 4 rfl (by decide) rfl ?_
    refine V_goto (κ := KX2_putDots) (pc := 132) (tgt := 24) dX2_putDots_132 rfl ?_
    refine V_sub (lv' := [(0, (2, x0)), (1, (2, x1)), (2, (0, x2)), (3, (0, x3)), (4, (0, w32 (x4 + 1)))]) [1, 2, 3, 4, 0] rfl ?_
    exact hk24 _ _ _ _ _ _
  refine V_aload_n (κ := KX2_putDots) (pc := 45) dX2_putDots_45 1 rfl rfl ?_
  refine V_iload (κ := KX2_putDots) (pc := 46) dX2_putDots_46 5 rfl ?_
  refine V_iload (κ := KX2_putDots) (pc := 48) dX2_putDots_48 4 rfl ?_
  refine V_callV (ci := 5) (T := TX5) (N := 7) rfl (by decide) (κ := KX2_putDots) (pc := 50) (con_X5_indexOfCell _ _ _ _) mth_X5_indexOfCell rfl ⟨wd_351, wd_352⟩ wd_350 (st0 := []) rfl rfl (by decide) (Nat.le_of_ble_eq_true rfl) dX2_putDots_50 (fun _ _ _ h => VX_out rfl (by decide) h) fun t102 u103 => ?_
  refine V_istore (κ := KX2_putDots) (pc := 53) (lv' := [(6, (0, t102)), (0, (2, x0)), (1, (2, x1)), (2, (0, x2)), (3, (0, x3)), (4, (0, x4)), (5, (0, x5))]) dX2_putDots_53 (by decide) rfl ?_
  refine V_aload_n (κ := KX2_putDots) (pc := 55) dX2_putDots_55 1 rfl rfl ?_
  refine V_getf 2 (κ := KX2_putDots) (pc := 56) rfl (by decide) rfl inX2 1 (by decide) wd_76 rfl (t := 2) rfl dX2_putDots_56 fun t104 => ?_
  refine V_iload (κ := KX2_putDots) (pc := 59) dX2_putDots_59 0 rfl ?_
  refine V_iaload (κ := KX2_putDots) (pc := 61) dX2_putDots_61 fun t105 => ?_
  refine V_callS (κ := KX2_putDots) (pc := 62) (con_J6_bitCount_0f7a4 _ _) mth_J6_bitCount_0f7a4 wd_408 wd_407 (st0 := []) rfl rfl (by decide) (Nat.le_of_ble_eq_true rfl) dX2_putDots_62 (fun _ _ _ h => VX_out rfl (by decide) h) fun t106 u107 => ?_
  refine V_aload_n (κ := KX2_putDots) (pc := 65) dX2_putDots_65 2 rfl rfl ?_
  refine V_getf 5 (κ := KX2_putDots) (pc := 66) rfl (by decide) rfl inX5 2 (by decide) wd_214 rfl (t := 0) rfl dX2_putDots_66 fun t108 => ?_
  refine V_icmp_ge (κ := KX2_putDots) (pc := 69) (tgt := 76) dX2_putDots_69 rfl ?_ ?_
  · refine V_iconst (κ := KX2_putDots) (pc := 76) dX2_putDots_76 ⟨by decide, by decide⟩ ?_
    refine V_sub (lv' := [(0, (2, x0)), (1, (2, x1)), (2, (0, x2)), (3, (0, x3)), (4, (0, x4)), (5, (0, x5)), (6, (0, t102))]) [1, 2, 3, 4, 5, 6, 0] rfl ?_
    exact VBX2_putDots_77 hk24 hk36 _ _ _ _ _ _ _ _ _
  refine V_iconst (κ := KX2_putDots) (pc := 72) dX2_putDots_72 ⟨by decide, by decide⟩ ?_
  refine V_goto (κ := KX2_putDots) (pc := 73) (tgt := 77) dX2_putDots_73 rfl ?_
  refine V_sub (lv' := [(0, (2, x0)), (1, (2, x1)), (2, (0, x2)), (3, (0, x3)), (4, (0, x4)), (5, (0, x5)), (6, (0, t102))]) [1, 2, 3, 4, 5, 6, 0] rfl ?_
  exact VBX2_putDots_77 hk24 hk36 _ _ _ _ _ _ _ _ _
theorem VLX2_putDots_36 {Γ : Gam} {k24 : Int → Int → Int → Int → Int → Mem → Rz} (hk24 : ∀ (y0 y1 y2 y3 y4 : Int) (ν : Mem), V Γ KX2_putDots 24 [(0, (2, y0)), (1, (2, y1)), (2, (0, y2)), (3, (0, y3)), (4, (0, y4))] [] ν (k24 y0 y1 y2 y3 y4 ν)) : ∀ (n : Nat) (x0 x1 x2 x3 x4 x5 : Int) (μ : Mem), V Γ KX2_putDots 36 [(0, (2, x0)), (1, (2, x1)), (2, (0, x2)), (3, (0, x3)), (4, (0, x4)), (5, (0, x5))] [] μ (LX2_putDots_36 k24 n x0 x1 x2 x3 x4 x5 μ)
  | 0, _, _, _, _, _, _, _ => V_none
  | n + 1, x0, x1, x2, x3, x4, x5, μ => VBX2_putDots_36 hk24 (fun y0 y1 y2 y3 y4 y5 ν => VLX2_putDots_36 hk24 n y0 y1 y2 y3 y4 y5 ν) x0 x1 x2 x3 x4 x5 μ
theorem VBX2_putDots_24 {Γ : Gam} {k24 : Int → Int → Int → Int → Int → Mem → Rz} (hk24 : ∀ (y0 y1 y2 y3 y4 : Int) (ν : Mem), V Γ KX2_putDots 24 [(0, (2, y0)), (1, (2, y1)), (2, (0, y2)), (3, (0, y3)), (4, (0, y4))] [] ν (k24 y0 y1 y2 y3 y4 ν)) (x0 x1 x2 x3 x4 : Int) (μ : Mem) : V Γ KX2_putDots 24 [(0, (2, x0)), (1, (2, x1)), (2, (0, x2)), (3, (0, x3)), (4, (0, x4))] [] μ (BX2_putDots_24 k24 x0 x1 x2 x3 x4 μ) := by
  unfold BX2_putDots_24
  refine V_iload (κ := KX2_putDots) (pc := 24) dX2_putDots_24 4 rfl ?_
  refine V_aload_n (κ := KX2_putDots) (pc := 26) dX2_putDots_26 1 rfl rfl ?_
  refine V_getf 5 (κ := KX2_putDots) (pc := 27) rfl (by decide) rfl inX5 1 (by decide) wd_209 rfl (t := 0) rfl dX2_putDots_27 fun t101 => ?_
  refine V_icmp_ge (κ := KX2_putDots) (pc := 30) (tgt := 135) dX2_putDots_30 rfl ?_ ?_
  · refine V_aload_n (κ := KX2_putDots) (pc := 135) dX2_putDots_135 0 rfl rfl ?_
    refine V_getf 2 (κ := KX2_putDots) (pc := 136) rfl (by decide) rfl inX2 2 (by decide) wd_78 rfl (t := 2) rfl dX2_putDots_136 fun t102 => ?_
    refine V_iload_n (κ := KX2_putDots) (pc := 139) dX2_putDots_139 2 rfl ?_
    refine V_iload_n (κ := KX2_putDots) (pc := 140) dX2_putDots_140 3 rfl ?_
    refine V_iastore (κ := KX2_putDots) (pc := 141) dX2_putDots_141 fun u103 => ?_
    exact V_vreturn (κ := KX2_putDots) (pc := 142) rfl rfl dX2_putDots_142
  refine V_iconst (κ := KX2_putDots) (pc := 33) dX2_putDots_33 ⟨by decide, by decide⟩ ?_
  refine V_istore (κ := KX2_putDots) (pc := 34) (lv' := [(5, (0, 0)), (0, (2, x0)), (1, (2, x1)), (2, (0, x2)), (3, (0, x3)), (4, (0, x4))]) dX2_putDots_34 (by decide) rfl ?_
  refine V_sub (lv' := [(0, (2, x0)), (1, (2, x1)), (2, (0, x2)), (3, (0, x3)), (4, (0, x4)), (5, (0, 0))]) [1, 2, 3, 4, 5, 0] rfl ?_
  exact VLX2_putDots_36 hk24 FU _ _ _ _ _ _ _
theorem VLX2_putDots_24 {Γ : Gam} : ∀ (n : Nat) (x0 x1 x2 x3 x4 : Int) (μ : Mem), V Γ KX2_putDots 24 [(0, (2, x0)), (1, (2, x1)), (2, (0, x2)), (3, (0, x3)), (4, (0, x4))] [] μ (LX2_putDots_24 n x0 x1 x2 x3 x4 μ)
  | 0, _, _, _, _, _, _ => V_none
  | n + 1, x0, x1, x2, x3, x4, μ => VBX2_putDots_24 (fun y0 y1 y2 y3 y4 ν => VLX2_putDots_24 n y0 y1 y2 y3 y4 ν) x0 x1 x2 x3 x4 μ
theorem VBX2_putDots_0 {Γ : Gam} (x0 x1 x2 : Int) (μ : Mem) : V Γ KX2_putDots 0 [(0, (2, x0)), (1, (2, x1)), (2, (0, x2))] [] μ (BX2_putDots_0 x0 x1 x2 μ) := by
  unfold BX2_putDots_0
  refine V_aload_n (κ := KX2_putDots) (pc := 0) dX2_putDots_0 0 rfl rfl ?_
  refine V_getf 2 (κ := KX2_putDots) (pc := 1) rfl (by decide) rfl inX2 3 (by decide) wd_79 rfl (t := 2) rfl dX2_putDots_1 fun t101 => ?_
  refine V_iload_n (κ := KX2_putDots) (pc := 4) dX2_putDots_4 2 rfl ?_
  refine V_aaload 6 (by decide) rfl rfl (κ := KX2_putDots) (pc := 5) dX2_putDots_5 fun t102 => ?_
  refine V_aload_n (κ := KX2_putDots) (pc := 6) dX2_putDots_6 1 rfl rfl ?_
  refine V_getf 5 (κ := KX2_putDots) (pc := 7) rfl (by decide) rfl inX5 4 (by decide) wd_221 rfl (t := 2) rfl dX2_putDots_7 fun t103 => ?_
  refine V_iload_n (κ := KX2_putDots) (pc := 10) dX2_putDots_10 2 rfl ?_
  refine V_aaload 5 (by decide) rfl rfl (κ := KX2_putDots) (pc := 11) dX2_putDots_11 fun t104 => ?_
  refine V_aload_n (κ := KX2_putDots) (pc := 12) dX2_putDots_12 0 rfl rfl ?_
  refine V_getf 2 (κ := KX2_putDots) (pc := 13) rfl (by decide) rfl inX2 4 (by decide) wd_80 rfl (t := 2) rfl dX2_putDots_13 fun t105 => ?_
  refine V_callV (ci := 3) (T := TX3) (N := 5) rfl (by decide) (κ := KX2_putDots) (pc := 16) (con_X3_fit _ _ _ _) mth_X3_fit rfl ⟨wd_383, wd_384⟩ wd_382 (st0 := []) rfl rfl (by decide) (Nat.le_of_ble_eq_true rfl) dX2_putDots_16 (fun _ _ _ h => VX_out rfl (by decide) h) fun _ u107 => ?_
  refine V_iconst (κ := KX2_putDots) (pc := 19) dX2_putDots_19 ⟨by decide, by decide⟩ ?_
  refine V_istore_n (κ := KX2_putDots) (pc := 20) (lv' := [(3, (0, 0)), (0, (2, x0)), (1, (2, x1)), (2, (0, x2))]) dX2_putDots_20 (by decide) rfl ?_
  refine V_iconst (κ := KX2_putDots) (pc := 21) dX2_putDots_21 ⟨by decide, by decide⟩ ?_
  refine V_istore (κ := KX2_putDots) (pc := 22) (lv' := [(4, (0, 0)), (3, (0, 0)), (0, (2, x0)), (1, (2, x1)), (2, (0, x2))]) dX2_putDots_22 (by decide) rfl ?_
  refine V_sub (lv' := [(0, (2, x0)), (1, (2, x1)), (2, (0, x2)), (3, (0, 0)), (4, (0, 0))]) [2, 3, 4, 1, 0] rfl ?_
  exact VLX2_putDots_24 FU _ _ _ _ _ _
theorem con_X2_putDots (a0 a1 a2 : Int) (μ : Mem) : Con (8) yX2_putDots (.code yX2_putDots cX2_putDots 8 none) 9 [(2, a0), (2, a1), (0, a2)] μ (FX2_putDots a0 a1 a2 μ) := Con_intro KX2_putDots (plainFor_of_name (by decide)) rfl (fun h => by cases h) (by decide) rfl (Nat.le_of_ble_eq_true rfl) (fun Γ => VBX2_putDots_0 _ _ _ _)
abbrev KX0_operand : Kap := (RX0, cX0_operand, 5, 1, 0, (some .int), false, [])
theorem VBX0_operand_0 {Γ : Gam} (x0 x1 x2 x3 x4 : Int) (μ : Mem) : V Γ KX0_operand 0 [(0, (0, x0)), (1, (0, x1)), (2, (0, x2)), (3, (0, x3)), (4, (0, x4))] [] μ (BX0_operand_0 x0 x1 x2 x3 x4 μ) := by
  unfold BX0_operand_0
  refine V_iload_n (κ := KX0_operand) (pc := 0) dX0_operand_0 0 rfl ?_
  refine V_tsw (κ := KX0_operand) (pc := 1) (os := [37, 35, 33, 31]) (tgt := 41) dX0_operand_1 rfl rfl ?_ ⟨⟨38, rfl, ?_⟩, ⟨36, rfl, ?_⟩, ⟨34, rfl, ?_⟩, ⟨32, rfl, ?_⟩, trivial⟩
  · refine V_iload_n (κ := KX0_operand) (pc := 41) dX0_operand_41 0 rfl ?_
    exact V_ireturn (κ := KX0_operand) (pc := 42) rfl rfl dX0_operand_42
  · refine V_iload (κ := KX0_operand) (pc := 38) dX0_operand_38 4 rfl ?_
    exact V_ireturn (κ := KX0_operand) (pc := 40) rfl rfl dX0_operand_40
  · refine V_iload_n (κ := KX0_operand) (pc := 36) dX0_operand_36 3 rfl ?_
    exact V_ireturn (κ := KX0_operand) (pc := 37) rfl rfl dX0_operand_37
  · refine V_iload_n (κ := KX0_operand) (pc := 34) dX0_operand_34 2 rfl ?_
    exact V_ireturn (κ := KX0_operand) (pc := 35) rfl rfl dX0_operand_35
  · refine V_iload_n (κ := KX0_operand) (pc := 32) dX0_operand_32 1 rfl ?_
    exact V_ireturn (κ := KX0_operand) (pc := 33) rfl rfl dX0_operand_33
theorem con_X0_operand (a0 a1 a2 a3 a4 : Int) (μ : Mem) : Con (1) yX0_operand (.code yX0_operand cX0_operand 5 (some .int)) 0 [(0, a0), (0, a1), (0, a2), (0, a3), (0, a4)] μ (FX0_operand a0 a1 a2 a3 a4 μ) := Con_intro KX0_operand (plainFor_of_name (by decide)) rfl (fun h => by cases h) (by decide) rfl (Nat.le_of_ble_eq_true rfl) (fun Γ => VBX0_operand_0 _ _ _ _ _ _)
abbrev KX6_limited : Kap := (RX6, cX6_limited, 4, 5, 0, (some .int), false, [])
theorem VBX6_limited_0 {Γ : Gam} (x0 x2 x3 : Int) (μ : Mem) : V Γ KX6_limited 0 [(0, (1, x0)), (2, (0, x2)), (3, (0, x3))] [] μ (BX6_limited_0 x0 x2 x3 μ) := by
  unfold BX6_limited_0
  refine V_iload_n (κ := KX6_limited) (pc := 0) dX6_limited_0 1 rfl ?_
  refine V_i2l (κ := KX6_limited) (pc := 1) dX6_limited_1 ?_
  refine V_iload_n (κ := KX6_limited) (pc := 2) dX6_limited_2 2 rfl ?_
  refine V_i2l (κ := KX6_limited) (pc := 3) dX6_limited_3 ?_
  refine V_lload_n (κ := KX6_limited) (pc := 4) dX6_limited_4 0 rfl ?_
  refine V_callS (κ := KX6_limited) (pc := 5) (con_J9_min_f86c9 _ _ _) mth_J9_min_f86c9 wd_370 wd_369 (st0 := [(1, x2)]) rfl rfl (by decide) (Nat.le_of_ble_eq_true rfl) dX6_limited_5 (fun _ _ _ h => VX_out rfl (by decide) h) fun t101 u102 => ?_
  refine V_callS (κ := KX6_limited) (pc := 8) (con_J9_max_f86c9 _ _ _) mth_J9_max_f86c9 wd_373 wd_372 (st0 := []) rfl rfl (by decide) (Nat.le_of_ble_eq_true rfl) dX6_limited_8 (fun _ _ _ h => VX_out rfl (by decide) h) fun t103 u104 => ?_
  refine V_l2i (κ := KX6_limited) (pc := 11) dX6_limited_11 ?_
  exact V_ireturn (κ := KX6_limited) (pc := 12) rfl rfl dX6_limited_12
theorem con_X6_limited (a0 a2 a3 : Int) (μ : Mem) : Con (5) yX6_limited (.code yX6_limited cX6_limited 4 (some .int)) 0 [(1, a0), (0, a2), (0, a3)] μ (FX6_limited a0 a2 a3 μ) := Con_intro KX6_limited (plainFor_of_name (by decide)) rfl (fun h => by cases h) (by decide) rfl (Nat.le_of_ble_eq_true rfl) (fun Γ => VBX6_limited_0 _ _ _ _)
abbrev KX0_result : Kap := (RX0, cX0_result, 5, 6, 0, (some .int), false, [])
theorem VBX0_result_81 {Γ : Gam} (s0 : Int) (μ : Mem) : V Γ KX0_result 81 [] [(0, s0)] μ (BX0_result_81 s0 μ) := by
  unfold BX0_result_81
  exact V_ireturn (κ := KX0_result) (pc := 81) rfl rfl dX0_result_81
theorem VBX0_result_0 {Γ : Gam} (x0 x1 x3 : Int) (μ : Mem) : V Γ KX0_result 0 [(0, (0, x0)), (1, (1, x1)), (3, (1, x3))] [] μ (BX0_result_0 x0 x1 x3 μ) := by
  unfold BX0_result_0
  refine V_iload_n (κ := KX0_result) (pc := 0) dX0_result_0 0 rfl ?_
  refine V_tsw (κ := KX0_result) (pc := 1) (os := [49, 38, 27]) (tgt := 61) dX0_result_1 rfl rfl ?_ ⟨⟨50, rfl, ?_⟩, ⟨39, rfl, ?_⟩, ⟨28, rfl, ?_⟩, trivial⟩
  · refine V_lload_n (κ := KX0_result) (pc := 61) dX0_result_61 2 rfl ?_
    refine V_lconst (κ := KX0_result) (pc := 62) (z := 0) dX0_result_62 ⟨by decide, by decide⟩ (by decide) ?_
    refine V_lcmp (κ := KX0_result) (pc := 63) dX0_result_63 ?_
    refine V_if_ne (κ := KX0_result) (pc := 64) (tgt := 71) dX0_result_64 rfl ?_ ?_
    · refine V_lload_n (κ := KX0_result) (pc := 71) dX0_result_71 1 rfl ?_
      refine V_lload_n (κ := KX0_result) (pc := 72) dX0_result_72 2 rfl ?_
      refine V_ldiv (κ := KX0_result) (pc := 73) dX0_result_73 fun t101 => ?_
      refine V_ldc (κ := KX0_result) (pc := 74) (z := (-1000000)) dX0_result_74 wd_364 ⟨by decide, by decide⟩ (by decide) ?_
      refine V_ldc (κ := KX0_result) (pc := 76) (z := 1000000) dX0_result_76 wd_365 ⟨by decide, by decide⟩ (by decide) ?_
      refine V_callSN (host := "TonePlates") (κ := KX0_result) (pc := 78) (con_X6_limited _ _ _ _) mth_X6_limited wd_367 (by decide) (st0 := []) rfl rfl (by decide) (Nat.le_of_ble_eq_true rfl) dX0_result_78 (fun _ _ _ h => VX_out rfl (by decide) h) fun t102 u103 => ?_
      refine V_sub (lv' := []) [] rfl ?_
      exact VBX0_result_81 _ _
    refine V_iconst (κ := KX0_result) (pc := 67) dX0_result_67 ⟨by decide, by decide⟩ ?_
    refine V_goto (κ := KX0_result) (pc := 68) (tgt := 81) dX0_result_68 rfl ?_
    refine V_sub (lv' := []) [] rfl ?_
    exact VBX0_result_81 _ _
  · refine V_lload_n (κ := KX0_result) (pc := 50) dX0_result_50 1 rfl ?_
    refine V_lload_n (κ := KX0_result) (pc := 51) dX0_result_51 2 rfl ?_
    refine V_lmul (κ := KX0_result) (pc := 52) dX0_result_52 ?_
    refine V_ldc (κ := KX0_result) (pc := 53) (z := (-1000000)) dX0_result_53 wd_364 ⟨by decide, by decide⟩ (by decide) ?_
    refine V_ldc (κ := KX0_result) (pc := 55) (z := 1000000) dX0_result_55 wd_365 ⟨by decide, by decide⟩ (by decide) ?_
    refine V_callSN (host := "TonePlates") (κ := KX0_result) (pc := 57) (con_X6_limited _ _ _ _) mth_X6_limited wd_367 (by decide) (st0 := []) rfl rfl (by decide) (Nat.le_of_ble_eq_true rfl) dX0_result_57 (fun _ _ _ h => VX_out rfl (by decide) h) fun t104 u105 => ?_
    exact V_ireturn (κ := KX0_result) (pc := 60) rfl rfl dX0_result_60
  · refine V_lload_n (κ := KX0_result) (pc := 39) dX0_result_39 1 rfl ?_
    refine V_lload_n (κ := KX0_result) (pc := 40) dX0_result_40 2 rfl ?_
    refine V_lsub (κ := KX0_result) (pc := 41) dX0_result_41 ?_
    refine V_ldc (κ := KX0_result) (pc := 42) (z := (-1000000)) dX0_result_42 wd_364 ⟨by decide, by decide⟩ (by decide) ?_
    refine V_ldc (κ := KX0_result) (pc := 44) (z := 1000000) dX0_result_44 wd_365 ⟨by decide, by decide⟩ (by decide) ?_
    refine V_callSN (host := "TonePlates") (κ := KX0_result) (pc := 46) (con_X6_limited _ _ _ _) mth_X6_limited wd_367 (by decide) (st0 := []) rfl rfl (by decide) (Nat.le_of_ble_eq_true rfl) dX0_result_46 (fun _ _ _ h => VX_out rfl (by decide) h) fun t106 u107 => ?_
    exact V_ireturn (κ := KX0_result) (pc := 49) rfl rfl dX0_result_49
  · refine V_lload_n (κ := KX0_result) (pc := 28) dX0_result_28 1 rfl ?_
    refine V_lload_n (κ := KX0_result) (pc := 29) dX0_result_29 2 rfl ?_
    refine V_ladd (κ := KX0_result) (pc := 30) dX0_result_30 ?_
    refine V_ldc (κ := KX0_result) (pc := 31) (z := (-1000000)) dX0_result_31 wd_364 ⟨by decide, by decide⟩ (by decide) ?_
    refine V_ldc (κ := KX0_result) (pc := 33) (z := 1000000) dX0_result_33 wd_365 ⟨by decide, by decide⟩ (by decide) ?_
    refine V_callSN (host := "TonePlates") (κ := KX0_result) (pc := 35) (con_X6_limited _ _ _ _) mth_X6_limited wd_367 (by decide) (st0 := []) rfl rfl (by decide) (Nat.le_of_ble_eq_true rfl) dX0_result_35 (fun _ _ _ h => VX_out rfl (by decide) h) fun t108 u109 => ?_
    exact V_ireturn (κ := KX0_result) (pc := 38) rfl rfl dX0_result_38
theorem con_X0_result (a0 a1 a3 : Int) (μ : Mem) : Con (6) yX0_result (.code yX0_result cX0_result 5 (some .int)) 0 [(0, a0), (1, a1), (1, a3)] μ (FX0_result a0 a1 a3 μ) := Con_intro KX0_result (plainFor_of_name (by decide)) rfl (fun h => by cases h) (by decide) rfl (Nat.le_of_ble_eq_true rfl) (fun Γ => VBX0_result_0 _ _ _ _)
abbrev KX0_toneAt : Kap := (RX0, cX0_toneAt, 11, 7, 0, (some .int), false, [])
theorem VBX0_toneAt_131 {Γ : Gam} (s0 : Int) (μ : Mem) : V Γ KX0_toneAt 131 [] [(0, s0)] μ (BX0_toneAt_131 s0 μ) := by
  unfold BX0_toneAt_131
  exact V_ireturn (κ := KX0_toneAt) (pc := 131) rfl rfl dX0_toneAt_131
theorem VBX0_toneAt_105 {Γ : Gam} {k17 : Int → Int → Int → Int → Int → Int → Int → Int → Int → Mem → Rz} (hk17 : ∀ (y1 y2 y3 y4 y5 y6 y7 y8 y9 : Int) (ν : Mem), V Γ KX0_toneAt 17 [(1, (2, y1)), (2, (0, y2)), (3, (0, y3)), (4, (0, y4)), (5, (0, y5)), (6, (0, y6)), (7, (2, y7)), (8, (0, y8)), (9, (0, y9))] [] ν (k17 y1 y2 y3 y4 y5 y6 y7 y8 y9 ν)) (x1 x2 x3 x4 x5 x6 x7 x8 x9 : Int) (μ : Mem) : V Γ KX0_toneAt 105 [(1, (2, x1)), (2, (0, x2)), (3, (0, x3)), (4, (0, x4)), (5, (0, x5)), (6, (0, x6)), (7, (2, x7)), (8, (0, x8)), (9, (0, x9))] [] μ (BX0_toneAt_105 k17 x1 x2 x3 x4 x5 x6 x7 x8 x9 μ) := by
  unfold BX0_toneAt_105
  refine V_iinc (κ := KX0_toneAt) (pc := 105) (lv' := [(9, (0, w32 (x9 + 1))), (1, (2, x1)), (2, (0, x2)), (3, (0, x3)), (4, (0, x4)), (5, (0, x5)), (6, (0, x6)), (7, (2, x7)), (8, (0, x8))]) dX0_toneAt_105 8 rfl (by decide) rfl ?_
  refine V_goto (κ := KX0_toneAt) (pc := 108) (tgt := 17) dX0_toneAt_108 rfl ?_
  refine V_sub (lv' := [(1, (2, x1)), (2, (0, x2)), (3, (0, x3)), (4, (0, x4)), (5, (0, x5)), (6, (0, x6)), (7, (2, x7)), (8, (0, x8)), (9, (0, w32 (x9 + 1)))]) [1, 2, 3, 4, 5, 6, 7, 8, 0] rfl ?_
  exact hk17 _ _ _ _ _ _ _ _ _ _
theorem VBX0_toneAt_17 {Γ : Gam} {k17 : Int → Int → Int → Int → Int → Int → Int → Int → Int → Mem → Rz} (hk17 : ∀ (y1 y2 y3 y4 y5 y6 y7 y8 y9 : Int) (ν : Mem), V Γ KX0_toneAt 17 [(1, (2, y1)), (2, (0, y2)), (3, (0, y3)), (4, (0, y4)), (5, (0, y5)), (6, (0, y6)), (7, (2, y7)), (8, (0, y8)), (9, (0, y9))] [] ν (k17 y1 y2 y3 y4 y5 y6 y7 y8 y9 ν)) (x1 x2 x3 x4 x5 x6 x7 x8 x9 : Int) (μ : Mem) : V Γ KX0_toneAt 17 [(1, (2, x1)), (2, (0, x2)), (3, (0, x3)), (4, (0, x4)), (5, (0, x5)), (6, (0, x6)), (7, (2, x7)), (8, (0, x8)), (9, (0, x9))] [] μ (BX0_toneAt_17 k17 x1 x2 x3 x4 x5 x6 x7 x8 x9 μ) := by
  unfold BX0_toneAt_17
  refine V_iload (κ := KX0_toneAt) (pc := 17) dX0_toneAt_17 8 rfl ?_
  refine V_iload (κ := KX0_toneAt) (pc := 19) dX0_toneAt_19 7 rfl ?_
  refine V_icmp_ge (κ := KX0_toneAt) (pc := 21) (tgt := 111) dX0_toneAt_21 rfl ?_ ?_
  · refine V_iload (κ := KX0_toneAt) (pc := 111) dX0_toneAt_111 5 rfl ?_
    refine V_iconst (κ := KX0_toneAt) (pc := 113) dX0_toneAt_113 ⟨by decide, by decide⟩ ?_
    refine V_icmp_ge (κ := KX0_toneAt) (pc := 114) (tgt := 121) dX0_toneAt_114 rfl ?_ ?_
    · refine V_aload_n (κ := KX0_toneAt) (pc := 121) dX0_toneAt_121 0 rfl rfl ?_
      refine V_iconst (κ := KX0_toneAt) (pc := 122) dX0_toneAt_122 ⟨by decide, by decide⟩ ?_
      refine V_iaload (κ := KX0_toneAt) (pc := 123) dX0_toneAt_123 fun t101 => ?_
      refine V_i2l (κ := KX0_toneAt) (pc := 124) dX0_toneAt_124 ?_
      refine V_iconst (κ := KX0_toneAt) (pc := 125) dX0_toneAt_125 ⟨by decide, by decide⟩ ?_
      refine V_bipush (κ := KX0_toneAt) (pc := 126) dX0_toneAt_126 ⟨by decide, by decide⟩ (by decide) ?_
      refine V_callSN (host := "TonePlates") (κ := KX0_toneAt) (pc := 128) (con_X6_limited _ _ _ _) mth_X6_limited wd_367 (by decide) (st0 := []) rfl rfl (by decide) (Nat.le_of_ble_eq_true rfl) dX0_toneAt_128 (fun _ _ _ h => VX_out rfl (by decide) h) fun t102 u103 => ?_
      refine V_sub (lv' := []) [] rfl ?_
      exact VBX0_toneAt_131 _ _
    refine V_iconst (κ := KX0_toneAt) (pc := 117) dX0_toneAt_117 ⟨by decide, by decide⟩ ?_
    refine V_goto (κ := KX0_toneAt) (pc := 118) (tgt := 131) dX0_toneAt_118 rfl ?_
    refine V_sub (lv' := []) [] rfl ?_
    exact VBX0_toneAt_131 _ _
  refine V_aload (κ := KX0_toneAt) (pc := 24) dX0_toneAt_24 6 rfl rfl ?_
  refine V_iload (κ := KX0_toneAt) (pc := 26) dX0_toneAt_26 8 rfl ?_
  refine V_iaload (κ := KX0_toneAt) (pc := 28) dX0_toneAt_28 fun t104 => ?_
  refine V_istore (κ := KX0_toneAt) (pc := 29) (lv' := [(10, (0, t104)), (1, (2, x1)), (2, (0, x2)), (3, (0, x3)), (4, (0, x4)), (5, (0, x5)), (6, (0, x6)), (7, (2, x7)), (8, (0, x8)), (9, (0, x9))]) dX0_toneAt_29 (by decide) rfl ?_
  refine V_iload (κ := KX0_toneAt) (pc := 31) dX0_toneAt_31 0 rfl ?_
  refine V_bipush (κ := KX0_toneAt) (pc := 33) dX0_toneAt_33 ⟨by decide, by decide⟩ (by decide) ?_
  refine V_icmp_le (κ := KX0_toneAt) (pc := 35) (tgt := 66) dX0_toneAt_35 rfl ?_ ?_
  · refine V_iload (κ := KX0_toneAt) (pc := 66) dX0_toneAt_66 6 rfl ?_
    refine V_iconst (κ := KX0_toneAt) (pc := 68) dX0_toneAt_68 ⟨by decide, by decide⟩ ?_
    refine V_icmp_lt (κ := KX0_toneAt) (pc := 69) (tgt := 105) dX0_toneAt_69 rfl ?_ ?_
    · refine V_sub (lv' := [(1, (2, x1)), (2, (0, x2)), (3, (0, x3)), (4, (0, x4)), (5, (0, x5)), (6, (0, x6)), (7, (2, x7)), (8, (0, x8)), (9, (0, x9))]) [1, 2, 3, 4, 5, 6, 7, 8, 9] rfl ?_
      exact VBX0_toneAt_105 hk17 _ _ _ _ _ _ _ _ _ _
    refine V_iload (κ := KX0_toneAt) (pc := 72) dX0_toneAt_72 6 rfl ?_
    refine V_aload_n (κ := KX0_toneAt) (pc := 74) dX0_toneAt_74 1 rfl rfl ?_
    refine V_alen 1 (by decide) (κ := KX0_toneAt) (pc := 75) dX0_toneAt_75 fun t105 => ?_
    refine V_icmp_gt (κ := KX0_toneAt) (pc := 76) (tgt := 105) dX0_toneAt_76 rfl ?_ ?_
    · refine V_sub (lv' := [(1, (2, x1)), (2, (0, x2)), (3, (0, x3)), (4, (0, x4)), (5, (0, x5)), (6, (0, x6)), (7, (2, x7)), (8, (0, x8)), (9, (0, x9))]) [1, 2, 3, 4, 5, 6, 7, 8, 9] rfl ?_
      exact VBX0_toneAt_105 hk17 _ _ _ _ _ _ _ _ _ _
    refine V_iinc (κ := KX0_toneAt) (pc := 79) (lv' := [(6, (0, w32 (x6 + (-1)))), (10, (0, t104)), (1, (2, x1)), (2, (0, x2)), (3, (0, x3)), (4, (0, x4)), (5, (0, x5)), (7, (2, x7)), (8, (0, x8)), (9, (0, x9))]) dX0_toneAt_79 6 rfl (by decide) rfl ?_
    refine V_aload_n (κ := KX0_toneAt) (pc := 82) dX0_toneAt_82 2 rfl rfl ?_
    refine V_iload (κ := KX0_toneAt) (pc := 83) dX0_toneAt_83 0 rfl ?_
    refine V_iconst (κ := KX0_toneAt) (pc := 85) dX0_toneAt_85 ⟨by decide, by decide⟩ ?_
    refine V_isub (κ := KX0_toneAt) (pc := 86) dX0_toneAt_86 ?_
    refine V_iload (κ := KX0_toneAt) (pc := 87) dX0_toneAt_87 1 rfl ?_
    refine V_aload_n (κ := KX0_toneAt) (pc := 89) dX0_toneAt_89 2 rfl rfl ?_
    refine V_iload (κ := KX0_toneAt) (pc := 90) dX0_toneAt_90 0 rfl ?_
    refine V_iconst (κ := KX0_toneAt) (pc := 92) dX0_toneAt_92 ⟨by decide, by decide⟩ ?_
    refine V_isub (κ := KX0_toneAt) (pc := 93) dX0_toneAt_93 ?_
    refine V_iaload (κ := KX0_toneAt) (pc := 94) dX0_toneAt_94 fun t106 => ?_
    refine V_i2l (κ := KX0_toneAt) (pc := 95) dX0_toneAt_95 ?_
    refine V_aload_n (κ := KX0_toneAt) (pc := 96) dX0_toneAt_96 2 rfl rfl ?_
    refine V_iload (κ := KX0_toneAt) (pc := 97) dX0_toneAt_97 0 rfl ?_
    refine V_iaload (κ := KX0_toneAt) (pc := 99) dX0_toneAt_99 fun t107 => ?_
    refine V_i2l (κ := KX0_toneAt) (pc := 100) dX0_toneAt_100 ?_
    refine V_callS (κ := KX0_toneAt) (pc := 101) (con_X0_result _ _ _ _) mth_X0_result wd_362 wd_361 (st0 := [(0, w32 ((w32 (x6 + (-1))) - 1)), (2, x1)]) rfl rfl (by decide) (Nat.le_of_ble_eq_true rfl) dX0_toneAt_101 (fun _ _ _ h => VX_out rfl (by decide) h) fun t108 u109 => ?_
    refine V_iastore (κ := KX0_toneAt) (pc := 104) dX0_toneAt_104 fun u110 => ?_
    refine V_sub (lv' := [(1, (2, x1)), (2, (0, x2)), (3, (0, x3)), (4, (0, x4)), (5, (0, x5)), (6, (0, w32 (x6 + (-1)))), (7, (2, x7)), (8, (0, x8)), (9, (0, x9))]) [2, 3, 4, 5, 6, 0, 7, 8, 9] rfl ?_
    exact VBX0_toneAt_105 hk17 _ _ _ _ _ _ _ _ _ _
  refine V_iload (κ := KX0_toneAt) (pc := 38) dX0_toneAt_38 6 rfl ?_
  refine V_aload_n (κ := KX0_toneAt) (pc := 40) dX0_toneAt_40 1 rfl rfl ?_
  refine V_alen 1 (by decide) (κ := KX0_toneAt) (pc := 41) dX0_toneAt_41 fun t111 => ?_
  refine V_icmp_ge (κ := KX0_toneAt) (pc := 42) (tgt := 105) dX0_toneAt_42 rfl ?_ ?_
  · refine V_sub (lv' := [(1, (2, x1)), (2, (0, x2)), (3, (0, x3)), (4, (0, x4)), (5, (0, x5)), (6, (0, x6)), (7, (2, x7)), (8, (0, x8)), (9, (0, x9))]) [1, 2, 3, 4, 5, 6, 7, 8, 9] rfl ?_
    exact VBX0_toneAt_105 hk17 _ _ _ _ _ _ _ _ _ _
  refine V_aload_n (κ := KX0_toneAt) (pc := 45) dX0_toneAt_45 1 rfl rfl ?_
  refine V_iload (κ := KX0_toneAt) (pc := 46) dX0_toneAt_46 6 rfl ?_
  refine V_iload (κ := KX0_toneAt) (pc := 48) dX0_toneAt_48 0 rfl ?_
  refine V_iload_n (κ := KX0_toneAt) (pc := 50) dX0_toneAt_50 2 rfl ?_
  refine V_iload_n (κ := KX0_toneAt) (pc := 51) dX0_toneAt_51 3 rfl ?_
  refine V_iload (κ := KX0_toneAt) (pc := 52) dX0_toneAt_52 4 rfl ?_
  refine V_iload (κ := KX0_toneAt) (pc := 54) dX0_toneAt_54 5 rfl ?_
  refine V_callS (κ := KX0_toneAt) (pc := 56) (con_X0_operand _ _ _ _ _ _) mth_X0_operand wd_359 wd_358 (st0 := [(0, x6), (2, x1)]) rfl rfl (by decide) (Nat.le_of_ble_eq_true rfl) dX0_toneAt_56 (fun _ _ _ h => VX_out rfl (by decide) h) fun t112 u113 => ?_
  refine V_iastore (κ := KX0_toneAt) (pc := 59) dX0_toneAt_59 fun u114 => ?_
  refine V_iinc (κ := KX0_toneAt) (pc := 60) (lv' := [(6, (0, w32 (x6 + 1))), (10, (0, t104)), (1, (2, x1)), (2, (0, x2)), (3, (0, x3)), (4, (0, x4)), (5, (0, x5)), (7, (2, x7)), (8, (0, x8)), (9, (0, x9))]) dX0_toneAt_60 6 rfl (by decide) rfl ?_
  refine V_goto (κ := KX0_toneAt) (pc := 63) (tgt := 105) dX0_toneAt_63 rfl ?_
  refine V_sub (lv' := [(1, (2, x1)), (2, (0, x2)), (3, (0, x3)), (4, (0, x4)), (5, (0, x5)), (6, (0, w32 (x6 + 1))), (7, (2, x7)), (8, (0, x8)), (9, (0, x9))]) [2, 3, 4, 5, 6, 0, 7, 8, 9] rfl ?_
  exact VBX0_toneAt_105 hk17 _ _ _ _ _ _ _ _ _ _
theorem VLX0_toneAt_17 {Γ : Gam} : ∀ (n : Nat) (x1 x2 x3 x4 x5 x6 x7 x8 x9 : Int) (μ : Mem), V Γ KX0_toneAt 17 [(1, (2, x1)), (2, (0, x2)), (3, (0, x3)), (4, (0, x4)), (5, (0, x5)), (6, (0, x6)), (7, (2, x7)), (8, (0, x8)), (9, (0, x9))] [] μ (LX0_toneAt_17 n x1 x2 x3 x4 x5 x6 x7 x8 x9 μ)
  | 0, _, _, _, _, _, _, _, _, _, _ => V_none
  | n + 1, x1, x2, x3, x4, x5, x6, x7, x8, x9, μ => VBX0_toneAt_17 (fun y1 y2 y3 y4 y5 y6 y7 y8 y9 ν => VLX0_toneAt_17 n y1 y2 y3 y4 y5 y6 y7 y8 y9 ν) x1 x2 x3 x4 x5 x6 x7 x8 x9 μ
theorem VBX0_toneAt_0 {Γ : Gam} (x0 x1 x2 x3 x4 x5 : Int) (μ : Mem) : V Γ KX0_toneAt 0 [(0, (2, x0)), (1, (2, x1)), (2, (0, x2)), (3, (0, x3)), (4, (0, x4)), (5, (0, x5))] [] μ (BX0_toneAt_0 x0 x1 x2 x3 x4 x5 μ) := by
  unfold BX0_toneAt_0
  refine V_iconst (κ := KX0_toneAt) (pc := 0) dX0_toneAt_0 ⟨by decide, by decide⟩ ?_
  refine V_istore (κ := KX0_toneAt) (pc := 1) (lv' := [(6, (0, 0)), (0, (2, x0)), (1, (2, x1)), (2, (0, x2)), (3, (0, x3)), (4, (0, x4)), (5, (0, x5))]) dX0_toneAt_1 (by decide) rfl ?_
  refine V_aload_n (κ := KX0_toneAt) (pc := 3) dX0_toneAt_3 1 rfl rfl ?_
  refine V_getf 0 (κ := KX0_toneAt) (pc := 4) rfl (by decide) rfl inX0 0 (by decide) wd_900 rfl (t := 2) rfl dX0_toneAt_4 fun t101 => ?_
  refine V_astore (κ := KX0_toneAt) (pc := 7) (lv' := [(7, (2, t101)), (6, (0, 0)), (0, (2, x0)), (1, (2, x1)), (2, (0, x2)), (3, (0, x3)), (4, (0, x4)), (5, (0, x5))]) dX0_toneAt_7 rfl (by decide) rfl ?_
  refine V_aload (κ := KX0_toneAt) (pc := 9) dX0_toneAt_9 0 rfl rfl ?_
  refine V_alen 1 (by decide) (κ := KX0_toneAt) (pc := 11) dX0_toneAt_11 fun t102 => ?_
  refine V_istore (κ := KX0_toneAt) (pc := 12) (lv' := [(8, (0, t102)), (7, (2, t101)), (6, (0, 0)), (0, (2, x0)), (1, (2, x1)), (2, (0, x2)), (3, (0, x3)), (4, (0, x4)), (5, (0, x5))]) dX0_toneAt_12 (by decide) rfl ?_
  refine V_iconst (κ := KX0_toneAt) (pc := 14) dX0_toneAt_14 ⟨by decide, by decide⟩ ?_
  refine V_istore (κ := KX0_toneAt) (pc := 15) (lv' := [(9, (0, 0)), (8, (0, t102)), (7, (2, t101)), (6, (0, 0)), (0, (2, x0)), (1, (2, x1)), (2, (0, x2)), (3, (0, x3)), (4, (0, x4)), (5, (0, x5))]) dX0_toneAt_15 (by decide) rfl ?_
  refine V_sub (lv' := [(1, (2, x1)), (2, (0, x2)), (3, (0, x3)), (4, (0, x4)), (5, (0, x5)), (6, (0, 0)), (7, (2, t101)), (8, (0, t102)), (9, (0, 0))]) [5, 6, 7, 8, 9, 3, 2, 1, 0] rfl ?_
  exact VLX0_toneAt_17 FU _ _ _ _ _ _ _ _ _ _
theorem con_X0_toneAt (a0 a1 a2 a3 a4 a5 : Int) (μ : Mem) : Con (7) yX0_toneAt (.code yX0_toneAt cX0_toneAt 11 (some .int)) 0 [(2, a0), (2, a1), (0, a2), (0, a3), (0, a4), (0, a5)] μ (FX0_toneAt a0 a1 a2 a3 a4 a5 μ) := Con_intro KX0_toneAt (plainFor_of_name (by decide)) rfl (fun h => by cases h) (by decide) rfl (Nat.le_of_ble_eq_true rfl) (fun Γ => VBX0_toneAt_0 _ _ _ _ _ _ _)
abbrev KX2_takeTones : Kap := (RX2, cX2_takeTones, 9, 8, 9, none, false, [])
theorem VBX2_takeTones_89 {Γ : Gam} {k21 : Int → Int → Int → Int → Int → Int → Mem → Rz} (hk21 : ∀ (y0 y1 y2 y3 y4 y5 : Int) (ν : Mem), V Γ KX2_takeTones 21 [(0, (2, y0)), (1, (2, y1)), (2, (0, y2)), (3, (2, y3)), (4, (2, y4)), (5, (0, y5))] [] ν (k21 y0 y1 y2 y3 y4 y5 ν)) {k33 : Int → Int → Int → Int → Int → Int → Int → Mem → Rz} (hk33 : ∀ (y0 y1 y2 y3 y4 y5 y6 : Int) (ν : Mem), V Γ KX2_takeTones 33 [(0, (2, y0)), (1, (2, y1)), (2, (0, y2)), (3, (2, y3)), (4, (2, y4)), (5, (0, y5)), (6, (0, y6))] [] ν (k33 y0 y1 y2 y3 y4 y5 y6 ν)) (x0 x1 x2 x3 x4 x5 x6 s0 s1 s2 : Int) (μ : Mem) : V Γ KX2_takeTones 89 [(0, (2, x0)), (1, (2, x1)), (2, (0, x2)), (3, (2, x3)), (4, (2, x4)), (5, (0, x5)), (6, (0, x6))] [(0, s0), (0, s1), (2, s2)] μ (BX2_takeTones_89 k21 k33 x0 x1 x2 x3 x4 x5 x6 s0 s1 s2 μ) := by
  unfold BX2_takeTones_89
  refine V_iastore (κ := KX2_takeTones) (pc := 89) dX2_takeTones_89 fun u101 => ?_
  refine V_iinc (κ := KX2_takeTones) (pc := 90) (lv' := [(6, (0, w32 (x6 + 1))), (0, (2, x0)), (1, (2, x1)), (2, (0, x2)), (3, (2, x3)), (4, (2, x4)), (5, (0, x5))]) dX2_takeTones_90 6 rfl (by decide) rfl ?_
  refine V_goto (κ := KX2_takeTones) (pc := 93) (tgt := 33) dX2_takeTones_93 rfl ?_
  refine V_sub (lv' := [(0, (2, x0)), (1, (2, x1)), (2, (0, x2)), (3, (2, x3)), (4, (2, x4)), (5, (0, x5)), (6, (0, w32 (x6 + 1)))]) [1, 2, 3, 4, 5, 6, 0] rfl ?_
  exact hk33 _ _ _ _ _ _ _ _
theorem VBX2_takeTones_33 {Γ : Gam} {k21 : Int → Int → Int → Int → Int → Int → Mem → Rz} (hk21 : ∀ (y0 y1 y2 y3 y4 y5 : Int) (ν : Mem), V Γ KX2_takeTones 21 [(0, (2, y0)), (1, (2, y1)), (2, (0, y2)), (3, (2, y3)), (4, (2, y4)), (5, (0, y5))] [] ν (k21 y0 y1 y2 y3 y4 y5 ν)) {k33 : Int → Int → Int → Int → Int → Int → Int → Mem → Rz} (hk33 : ∀ (y0 y1 y2 y3 y4 y5 y6 : Int) (ν : Mem), V Γ KX2_takeTones 33 [(0, (2, y0)), (1, (2, y1)), (2, (0, y2)), (3, (2, y3)), (4, (2, y4)), (5, (0, y5)), (6, (0, y6))] [] ν (k33 y0 y1 y2 y3 y4 y5 y6 ν)) (x0 x1 x2 x3 x4 x5 x6 : Int) (μ : Mem) : V Γ KX2_takeTones 33 [(0, (2, x0)), (1, (2, x1)), (2, (0, x2)), (3, (2, x3)), (4, (2, x4)), (5, (0, x5)), (6, (0, x6))] [] μ (BX2_takeTones_33 k21 k33 x0 x1 x2 x3 x4 x5 x6 μ) := by
  unfold BX2_takeTones_33
  refine V_iload (κ := KX2_takeTones) (pc := 33) dX2_takeTones_33 6 rfl ?_
  refine V_aload_n (κ := KX2_takeTones) (pc := 35) dX2_takeTones_35 1 rfl rfl ?_
  refine V_getf 5 (κ := KX2_takeTones) (pc := 36) rfl (by decide) rfl inX5 0 (by decide) wd_205 rfl (t := 0) rfl dX2_takeTones_36 fun t101 => ?_
  refine V_icmp_ge (κ := KX2_takeTones) (pc := 39) (tgt := 96) dX2_takeTones_39 rfl ?_ ?_
  · refine V_iinc (κ := KX2_takeTones) (pc := 96) (lv' := [(5, (0, w32 (x5 + 1))), (0, (2, x0)), (1, (2, x1)), (2, (0, x2)), (3, (2, x3)), (4, (2, x4)), (6, (0, x6))]) dX2_takeTones_96 5 rfl (by decide) rfl ?_
    refine V_goto (κ := KX2_takeTones) (pc := 99) (tgt := 21) dX2_takeTones_99 rfl ?_
    refine V_sub (lv' := [(0, (2, x0)), (1, (2, x1)), (2, (0, x2)), (3, (2, x3)), (4, (2, x4)), (5, (0, w32 (x5 + 1)))]) [1, 2, 3, 4, 5, 0] rfl ?_
    exact hk21 _ _ _ _ _ _ _
  refine V_aload_n (κ := KX2_takeTones) (pc := 42) dX2_takeTones_42 1 rfl rfl ?_
  refine V_iload (κ := KX2_takeTones) (pc := 43) dX2_takeTones_43 6 rfl ?_
  refine V_iload (κ := KX2_takeTones) (pc := 45) dX2_takeTones_45 5 rfl ?_
  refine V_callV (ci := 5) (T := TX5) (N := 7) rfl (by decide) (κ := KX2_takeTones) (pc := 47) (con_X5_indexOfCell _ _ _ _) mth_X5_indexOfCell rfl ⟨wd_351, wd_352⟩ wd_350 (st0 := []) rfl rfl (by decide) (Nat.le_of_ble_eq_true rfl) dX2_takeTones_47 (fun _ _ _ h => VX_out rfl (by decide) h) fun t102 u103 => ?_
  refine V_istore (κ := KX2_takeTones) (pc := 50) (lv' := [(7, (0, t102)), (0, (2, x0)), (1, (2, x1)), (2, (0, x2)), (3, (2, x3)), (4, (2, x4)), (5, (0, x5)), (6, (0, x6))]) dX2_takeTones_50 (by decide) rfl ?_
  refine V_aload_n (κ := KX2_takeTones) (pc := 52) dX2_takeTones_52 2 rfl rfl ?_
  refine V_getf 5 (κ := KX2_takeTones) (pc := 53) rfl (by decide) rfl inX5 5 (by decide) wd_225 rfl (t := 2) rfl dX2_takeTones_53 fun t104 => ?_
  refine V_iload (κ := KX2_takeTones) (pc := 56) dX2_takeTones_56 0 rfl ?_
  refine V_iaload (κ := KX2_takeTones) (pc := 58) dX2_takeTones_58 fun t105 => ?_
  refine V_istore (κ := KX2_takeTones) (pc := 59) (lv' := [(8, (0, t105)), (7, (0, t102)), (0, (2, x0)), (1, (2, x1)), (2, (0, x2)), (3, (2, x3)), (4, (2, x4)), (5, (0, x5)), (6, (0, x6))]) dX2_takeTones_59 (by decide) rfl ?_
  refine V_aload (κ := KX2_takeTones) (pc := 61) dX2_takeTones_61 6 rfl rfl ?_
  refine V_iload (κ := KX2_takeTones) (pc := 63) dX2_takeTones_63 1 rfl ?_
  refine V_aload_n (κ := KX2_takeTones) (pc := 65) dX2_takeTones_65 5 rfl rfl ?_
  refine V_ifnonnull (κ := KX2_takeTones) (pc := 66) (tgt := 74) dX2_takeTones_66 rfl ?_ ?_
  · refine V_aload_n (κ := KX2_takeTones) (pc := 74) dX2_takeTones_74 5 rfl rfl ?_
    refine V_aload_n (κ := KX2_takeTones) (pc := 75) dX2_takeTones_75 2 rfl rfl ?_
    refine V_getf 2 (κ := KX2_takeTones) (pc := 76) rfl (by decide) rfl inX2 5 (by decide) wd_81 rfl (t := 2) rfl dX2_takeTones_76 fun t106 => ?_
    refine V_iload (κ := KX2_takeTones) (pc := 79) dX2_takeTones_79 0 rfl ?_
    refine V_iload (κ := KX2_takeTones) (pc := 81) dX2_takeTones_81 8 rfl ?_
    refine V_iload (κ := KX2_takeTones) (pc := 83) dX2_takeTones_83 7 rfl ?_
    refine V_iload_n (κ := KX2_takeTones) (pc := 85) dX2_takeTones_85 4 rfl ?_
    refine V_callV (ci := 0) (T := TX0) (N := 1) rfl (by decide) (κ := KX2_takeTones) (pc := 86) (con_X0_toneAt _ _ _ _ _ _ _) mth_X0_toneAt rfl ⟨wd_355, wd_356⟩ wd_354 (st0 := [(0, t102), (2, x4)]) rfl rfl (by decide) (Nat.le_of_ble_eq_true rfl) dX2_takeTones_86 (fun _ _ _ h => VX_out rfl (by decide) h) fun t107 u108 => ?_
    refine V_sub (lv' := [(0, (2, x0)), (1, (2, x1)), (2, (0, x2)), (3, (2, x3)), (4, (2, x4)), (5, (0, x5)), (6, (0, x6))]) [2, 3, 4, 5, 6, 7, 8] rfl ?_
    exact VBX2_takeTones_89 hk21 hk33 _ _ _ _ _ _ _ _ _ _ _
  refine V_iload (κ := KX2_takeTones) (pc := 69) dX2_takeTones_69 0 rfl ?_
  refine V_goto (κ := KX2_takeTones) (pc := 71) (tgt := 89) dX2_takeTones_71 rfl ?_
  refine V_sub (lv' := [(0, (2, x0)), (1, (2, x1)), (2, (0, x2)), (3, (2, x3)), (4, (2, x4)), (5, (0, x5)), (6, (0, x6))]) [2, 3, 4, 5, 6, 7, 8] rfl ?_
  exact VBX2_takeTones_89 hk21 hk33 _ _ _ _ _ _ _ _ _ _ _
theorem VLX2_takeTones_33 {Γ : Gam} {k21 : Int → Int → Int → Int → Int → Int → Mem → Rz} (hk21 : ∀ (y0 y1 y2 y3 y4 y5 : Int) (ν : Mem), V Γ KX2_takeTones 21 [(0, (2, y0)), (1, (2, y1)), (2, (0, y2)), (3, (2, y3)), (4, (2, y4)), (5, (0, y5))] [] ν (k21 y0 y1 y2 y3 y4 y5 ν)) : ∀ (n : Nat) (x0 x1 x2 x3 x4 x5 x6 : Int) (μ : Mem), V Γ KX2_takeTones 33 [(0, (2, x0)), (1, (2, x1)), (2, (0, x2)), (3, (2, x3)), (4, (2, x4)), (5, (0, x5)), (6, (0, x6))] [] μ (LX2_takeTones_33 k21 n x0 x1 x2 x3 x4 x5 x6 μ)
  | 0, _, _, _, _, _, _, _, _ => V_none
  | n + 1, x0, x1, x2, x3, x4, x5, x6, μ => VBX2_takeTones_33 hk21 (fun y0 y1 y2 y3 y4 y5 y6 ν => VLX2_takeTones_33 hk21 n y0 y1 y2 y3 y4 y5 y6 ν) x0 x1 x2 x3 x4 x5 x6 μ
theorem VBX2_takeTones_21 {Γ : Gam} {k21 : Int → Int → Int → Int → Int → Int → Mem → Rz} (hk21 : ∀ (y0 y1 y2 y3 y4 y5 : Int) (ν : Mem), V Γ KX2_takeTones 21 [(0, (2, y0)), (1, (2, y1)), (2, (0, y2)), (3, (2, y3)), (4, (2, y4)), (5, (0, y5))] [] ν (k21 y0 y1 y2 y3 y4 y5 ν)) (x0 x1 x2 x3 x4 x5 : Int) (μ : Mem) : V Γ KX2_takeTones 21 [(0, (2, x0)), (1, (2, x1)), (2, (0, x2)), (3, (2, x3)), (4, (2, x4)), (5, (0, x5))] [] μ (BX2_takeTones_21 k21 x0 x1 x2 x3 x4 x5 μ) := by
  unfold BX2_takeTones_21
  refine V_iload (κ := KX2_takeTones) (pc := 21) dX2_takeTones_21 5 rfl ?_
  refine V_aload_n (κ := KX2_takeTones) (pc := 23) dX2_takeTones_23 1 rfl rfl ?_
  refine V_getf 5 (κ := KX2_takeTones) (pc := 24) rfl (by decide) rfl inX5 1 (by decide) wd_209 rfl (t := 0) rfl dX2_takeTones_24 fun t101 => ?_
  refine V_icmp_ge (κ := KX2_takeTones) (pc := 27) (tgt := 102) dX2_takeTones_27 rfl ?_ ?_
  · exact V_vreturn (κ := KX2_takeTones) (pc := 102) rfl rfl dX2_takeTones_102
  refine V_iconst (κ := KX2_takeTones) (pc := 30) dX2_takeTones_30 ⟨by decide, by decide⟩ ?_
  refine V_istore (κ := KX2_takeTones) (pc := 31) (lv' := [(6, (0, 0)), (0, (2, x0)), (1, (2, x1)), (2, (0, x2)), (3, (2, x3)), (4, (2, x4)), (5, (0, x5))]) dX2_takeTones_31 (by decide) rfl ?_
  refine V_sub (lv' := [(0, (2, x0)), (1, (2, x1)), (2, (0, x2)), (3, (2, x3)), (4, (2, x4)), (5, (0, x5)), (6, (0, 0))]) [1, 2, 3, 4, 5, 6, 0] rfl ?_
  exact VLX2_takeTones_33 hk21 FU _ _ _ _ _ _ _ _
theorem VLX2_takeTones_21 {Γ : Gam} : ∀ (n : Nat) (x0 x1 x2 x3 x4 x5 : Int) (μ : Mem), V Γ KX2_takeTones 21 [(0, (2, x0)), (1, (2, x1)), (2, (0, x2)), (3, (2, x3)), (4, (2, x4)), (5, (0, x5))] [] μ (LX2_takeTones_21 n x0 x1 x2 x3 x4 x5 μ)
  | 0, _, _, _, _, _, _, _ => V_none
  | n + 1, x0, x1, x2, x3, x4, x5, μ => VBX2_takeTones_21 (fun y0 y1 y2 y3 y4 y5 ν => VLX2_takeTones_21 n y0 y1 y2 y3 y4 y5 ν) x0 x1 x2 x3 x4 x5 μ
theorem VBX2_takeTones_0 {Γ : Gam} (x0 x1 x2 : Int) (μ : Mem) : V Γ KX2_takeTones 0 [(0, (2, x0)), (1, (2, x1)), (2, (0, x2))] [] μ (BX2_takeTones_0 x0 x1 x2 μ) := by
  unfold BX2_takeTones_0
  refine V_aload_n (κ := KX2_takeTones) (pc := 0) dX2_takeTones_0 1 rfl rfl ?_
  refine V_getf 5 (κ := KX2_takeTones) (pc := 1) rfl (by decide) rfl inX5 4 (by decide) wd_221 rfl (t := 2) rfl dX2_takeTones_1 fun t101 => ?_
  refine V_iload_n (κ := KX2_takeTones) (pc := 4) dX2_takeTones_4 2 rfl ?_
  refine V_aaload 5 (by decide) rfl rfl (κ := KX2_takeTones) (pc := 5) dX2_takeTones_5 fun t102 => ?_
  refine V_getf 1 (κ := KX2_takeTones) (pc := 6) rfl (by decide) rfl inX1 7 (by decide) wd_186 rfl (t := 2) rfl dX2_takeTones_6 fun t103 => ?_
  refine V_astore_n (κ := KX2_takeTones) (pc := 9) (lv' := [(3, (2, t103)), (0, (2, x0)), (1, (2, x1)), (2, (0, x2))]) dX2_takeTones_9 rfl (by decide) rfl ?_
  refine V_aload_n (κ := KX2_takeTones) (pc := 10) dX2_takeTones_10 1 rfl rfl ?_
  refine V_getf 2 (κ := KX2_takeTones) (pc := 11) rfl (by decide) rfl inX2 0 (by decide) wd_74 rfl (t := 2) rfl dX2_takeTones_11 fun t104 => ?_
  refine V_iload_n (κ := KX2_takeTones) (pc := 14) dX2_takeTones_14 3 rfl ?_
  refine V_aaload 7 (by decide) rfl rfl (κ := KX2_takeTones) (pc := 15) dX2_takeTones_15 fun t105 => ?_
  refine V_astore (κ := KX2_takeTones) (pc := 16) (lv' := [(4, (2, t105)), (3, (2, t103)), (0, (2, x0)), (1, (2, x1)), (2, (0, x2))]) dX2_takeTones_16 rfl (by decide) rfl ?_
  refine V_iconst (κ := KX2_takeTones) (pc := 18) dX2_takeTones_18 ⟨by decide, by decide⟩ ?_
  refine V_istore (κ := KX2_takeTones) (pc := 19) (lv' := [(5, (0, 0)), (4, (2, t105)), (3, (2, t103)), (0, (2, x0)), (1, (2, x1)), (2, (0, x2))]) dX2_takeTones_19 (by decide) rfl ?_
  refine V_sub (lv' := [(0, (2, x0)), (1, (2, x1)), (2, (0, x2)), (3, (2, t103)), (4, (2, t105)), (5, (0, 0))]) [3, 4, 5, 2, 1, 0] rfl ?_
  exact VLX2_takeTones_21 FU _ _ _ _ _ _ _
theorem con_X2_takeTones (a0 a1 a2 : Int) (μ : Mem) : Con (8) yX2_takeTones (.code yX2_takeTones cX2_takeTones 9 none) 9 [(2, a0), (2, a1), (0, a2)] μ (FX2_takeTones a0 a1 a2 μ) := Con_intro KX2_takeTones (plainFor_of_name (by decide)) rfl (fun h => by cases h) (by decide) rfl (Nat.le_of_ble_eq_true rfl) (fun Γ => VBX2_takeTones_0 _ _ _ _)
abbrev KX2_update : Kap := (RX2, cX2_update, 3, 9, 9, none, false, [])
theorem VBX2_update_76 {Γ : Gam} (μ : Mem) : V Γ KX2_update 76 [] [] μ (BX2_update_76 μ) := by
  unfold BX2_update_76
  exact V_vreturn (κ := KX2_update) (pc := 76) rfl rfl dX2_update_76
theorem VBX2_update_51 {Γ : Gam} {k51 : Int → Int → Int → Mem → Rz} (hk51 : ∀ (y0 y1 y2 : Int) (ν : Mem), V Γ KX2_update 51 [(0, (2, y0)), (1, (2, y1)), (2, (0, y2))] [] ν (k51 y0 y1 y2 ν)) (x0 x1 x2 : Int) (μ : Mem) : V Γ KX2_update 51 [(0, (2, x0)), (1, (2, x1)), (2, (0, x2))] [] μ (BX2_update_51 k51 x0 x1 x2 μ) := by
  unfold BX2_update_51
  refine V_iload_n (κ := KX2_update) (pc := 51) dX2_update_51 2 rfl ?_
  refine V_aload_n (κ := KX2_update) (pc := 52) dX2_update_52 1 rfl rfl ?_
  refine V_getf 5 (κ := KX2_update) (pc := 53) rfl (by decide) rfl inX5 3 (by decide) wd_218 rfl (t := 0) rfl dX2_update_53 fun t101 => ?_
  refine V_icmp_ge (κ := KX2_update) (pc := 56) (tgt := 71) dX2_update_56 rfl ?_ ?_
  · refine V_aload_n (κ := KX2_update) (pc := 71) dX2_update_71 0 rfl rfl ?_
    refine V_iconst (κ := KX2_update) (pc := 72) dX2_update_72 ⟨by decide, by decide⟩ ?_
    refine V_putz 2 (κ := KX2_update) (pc := 73) rfl (by decide) rfl inX2 tyX2 tyX2_ok nmX2 7 (by decide) wd_83 rfl rfl rfl rfl dX2_update_73 fun u102 => ?_
    refine V_sub (lv' := []) [] rfl ?_
    exact VBX2_update_76 _
  refine V_aload_n (κ := KX2_update) (pc := 59) dX2_update_59 0 rfl rfl ?_
  refine V_aload_n (κ := KX2_update) (pc := 60) dX2_update_60 1 rfl rfl ?_
  refine V_iload_n (κ := KX2_update) (pc := 61) dX2_update_61 2 rfl ?_
  refine V_callV (ci := 2) (T := TX2) (N := 8) rfl (by decide) (κ := KX2_update) (pc := 62) (con_X2_putDots _ _ _ _) mth_X2_putDots rfl ⟨wd_380, wp_2⟩ wd_378 (st0 := []) rfl rfl (by decide) (Nat.le_of_ble_eq_true rfl) dX2_update_62 (fun _ _ _ h => VX_out rfl (by decide) h) fun _ u104 => ?_
  refine V_iinc (κ := KX2_update) (pc := 65) (lv' := [(2, (0, w32 (x2 + 1))), (0, (2, x0)), (1, (2, x1))]) dX2_update_65 2 rfl (by decide) rfl ?_
  refine V_goto (κ := KX2_update) (pc := 68) (tgt := 51) dX2_update_68 rfl ?_
  refine V_sub (lv' := [(0, (2, x0)), (1, (2, x1)), (2, (0, w32 (x2 + 1)))]) [1, 2, 0] rfl ?_
  exact hk51 _ _ _ _
theorem VLX2_update_51 {Γ : Gam} : ∀ (n : Nat) (x0 x1 x2 : Int) (μ : Mem), V Γ KX2_update 51 [(0, (2, x0)), (1, (2, x1)), (2, (0, x2))] [] μ (LX2_update_51 n x0 x1 x2 μ)
  | 0, _, _, _, _ => V_none
  | n + 1, x0, x1, x2, μ => VBX2_update_51 (fun y0 y1 y2 ν => VLX2_update_51 n y0 y1 y2 ν) x0 x1 x2 μ
theorem VBX2_update_34 {Γ : Gam} (x0 x1 : Int) (μ : Mem) : V Γ KX2_update 34 [(0, (2, x0)), (1, (2, x1))] [] μ (BX2_update_34 x0 x1 μ) := by
  unfold BX2_update_34
  refine V_aload_n (κ := KX2_update) (pc := 34) dX2_update_34 0 rfl rfl ?_
  refine V_getf 2 (κ := KX2_update) (pc := 35) rfl (by decide) rfl inX2 7 (by decide) wd_83 rfl (t := 0) rfl dX2_update_35 fun t101 => ?_
  refine V_if_ne (κ := KX2_update) (pc := 38) (tgt := 76) dX2_update_38 rfl ?_ ?_
  · refine V_sub (lv' := []) [] rfl ?_
    exact VBX2_update_76 _
  refine V_aload_n (κ := KX2_update) (pc := 41) dX2_update_41 0 rfl rfl ?_
  refine V_getf 2 (κ := KX2_update) (pc := 42) rfl (by decide) rfl inX2 1 (by decide) wd_76 rfl (t := 2) rfl dX2_update_42 fun t102 => ?_
  refine V_iconst (κ := KX2_update) (pc := 45) dX2_update_45 ⟨by decide, by decide⟩ ?_
  refine V_callS (κ := KX2_update) (pc := 46) (con_J7_fill_53178 _ _ _) mth_J7_fill_53178 wd_376 wd_375 (st0 := []) rfl rfl (by decide) (Nat.le_of_ble_eq_true rfl) dX2_update_46 (fun _ _ _ h => VX_out rfl (by decide) h) fun _ u104 => ?_
  refine V_iconst (κ := KX2_update) (pc := 49) dX2_update_49 ⟨by decide, by decide⟩ ?_
  refine V_istore_n (κ := KX2_update) (pc := 50) (lv' := [(2, (0, 0)), (0, (2, x0)), (1, (2, x1))]) dX2_update_50 (by decide) rfl ?_
  refine V_sub (lv' := [(0, (2, x0)), (1, (2, x1)), (2, (0, 0))]) [1, 2, 0] rfl ?_
  exact VLX2_update_51 FU _ _ _ _
theorem VBX2_update_9 {Γ : Gam} {k9 : Int → Int → Int → Mem → Rz} (hk9 : ∀ (y0 y1 y2 : Int) (ν : Mem), V Γ KX2_update 9 [(0, (2, y0)), (1, (2, y1)), (2, (0, y2))] [] ν (k9 y0 y1 y2 ν)) (x0 x1 x2 : Int) (μ : Mem) : V Γ KX2_update 9 [(0, (2, x0)), (1, (2, x1)), (2, (0, x2))] [] μ (BX2_update_9 k9 x0 x1 x2 μ) := by
  unfold BX2_update_9
  refine V_iload_n (κ := KX2_update) (pc := 9) dX2_update_9 2 rfl ?_
  refine V_aload_n (κ := KX2_update) (pc := 10) dX2_update_10 1 rfl rfl ?_
  refine V_getf 5 (κ := KX2_update) (pc := 11) rfl (by decide) rfl inX5 3 (by decide) wd_218 rfl (t := 0) rfl dX2_update_11 fun t101 => ?_
  refine V_icmp_ge (κ := KX2_update) (pc := 14) (tgt := 29) dX2_update_14 rfl ?_ ?_
  · refine V_aload_n (κ := KX2_update) (pc := 29) dX2_update_29 0 rfl rfl ?_
    refine V_iconst (κ := KX2_update) (pc := 30) dX2_update_30 ⟨by decide, by decide⟩ ?_
    refine V_putz 2 (κ := KX2_update) (pc := 31) rfl (by decide) rfl inX2 tyX2 tyX2_ok nmX2 6 (by decide) wd_82 rfl rfl rfl rfl dX2_update_31 fun u102 => ?_
    refine V_sub (lv' := [(0, (2, x0)), (1, (2, x1))]) [0, 1] rfl ?_
    exact VBX2_update_34 _ _ _
  refine V_aload_n (κ := KX2_update) (pc := 17) dX2_update_17 0 rfl rfl ?_
  refine V_aload_n (κ := KX2_update) (pc := 18) dX2_update_18 1 rfl rfl ?_
  refine V_iload_n (κ := KX2_update) (pc := 19) dX2_update_19 2 rfl ?_
  refine V_callV (ci := 2) (T := TX2) (N := 8) rfl (by decide) (κ := KX2_update) (pc := 20) (con_X2_takeTones _ _ _ _) mth_X2_takeTones rfl ⟨wd_348, wp_1⟩ wd_346 (st0 := []) rfl rfl (by decide) (Nat.le_of_ble_eq_true rfl) dX2_update_20 (fun _ _ _ h => VX_out rfl (by decide) h) fun _ u104 => ?_
  refine V_iinc (κ := KX2_update) (pc := 23) (lv' := [(2, (0, w32 (x2 + 1))), (0, (2, x0)), (1, (2, x1))]) dX2_update_23 2 rfl (by decide) rfl ?_
  refine V_goto (κ := KX2_update) (pc := 26) (tgt := 9) dX2_update_26 rfl ?_
  refine V_sub (lv' := [(0, (2, x0)), (1, (2, x1)), (2, (0, w32 (x2 + 1)))]) [1, 2, 0] rfl ?_
  exact hk9 _ _ _ _
theorem VLX2_update_9 {Γ : Gam} : ∀ (n : Nat) (x0 x1 x2 : Int) (μ : Mem), V Γ KX2_update 9 [(0, (2, x0)), (1, (2, x1)), (2, (0, x2))] [] μ (LX2_update_9 n x0 x1 x2 μ)
  | 0, _, _, _, _ => V_none
  | n + 1, x0, x1, x2, μ => VBX2_update_9 (fun y0 y1 y2 ν => VLX2_update_9 n y0 y1 y2 ν) x0 x1 x2 μ
theorem VBX2_update_0 {Γ : Gam} (x0 x1 : Int) (μ : Mem) : V Γ KX2_update 0 [(0, (2, x0)), (1, (2, x1))] [] μ (BX2_update_0 x0 x1 μ) := by
  unfold BX2_update_0
  refine V_aload_n (κ := KX2_update) (pc := 0) dX2_update_0 0 rfl rfl ?_
  refine V_getf 2 (κ := KX2_update) (pc := 1) rfl (by decide) rfl inX2 6 (by decide) wd_82 rfl (t := 0) rfl dX2_update_1 fun t101 => ?_
  refine V_if_ne (κ := KX2_update) (pc := 4) (tgt := 34) dX2_update_4 rfl ?_ ?_
  · exact VBX2_update_34 _ _ _
  refine V_iconst (κ := KX2_update) (pc := 7) dX2_update_7 ⟨by decide, by decide⟩ ?_
  refine V_istore_n (κ := KX2_update) (pc := 8) (lv' := [(2, (0, 0)), (0, (2, x0)), (1, (2, x1))]) dX2_update_8 (by decide) rfl ?_
  refine V_sub (lv' := [(0, (2, x0)), (1, (2, x1)), (2, (0, 0))]) [1, 2, 0] rfl ?_
  exact VLX2_update_9 FU _ _ _ _
theorem con_X2_update (a0 a1 : Int) (μ : Mem) : Con (9) yX2_update (.code yX2_update cX2_update 3 none) 9 [(2, a0), (2, a1)] μ (FX2_update a0 a1 μ) := Con_intro KX2_update (plainFor_of_name (by decide)) rfl (fun h => by cases h) (by decide) rfl (Nat.le_of_ble_eq_true rfl) (fun Γ => VBX2_update_0 _ _ _)
abbrev KX6_requireCell : Kap := (RX6, cX6_requireCell, 3, 6, 9, none, false, [])
theorem VBX6_requireCell_30 {Γ : Gam} (μ : Mem) : V Γ KX6_requireCell 30 [] [] μ (BX6_requireCell_30 μ) := by
  unfold BX6_requireCell_30
  exact V_throwW (κ := KX6_requireCell) (pc := 30) 1 (by decide) rfl thr_1 (tx := "no such cell") (by decide) rfl (by decide) (by decide) dX6_requireCell_30 dX6_requireCell_33 dX6_requireCell_34 dX6_requireCell_37 dX6_requireCell_40
theorem VBX6_requireCell_0 {Γ : Gam} (x0 x1 x2 : Int) (μ : Mem) : V Γ KX6_requireCell 0 [(0, (2, x0)), (1, (0, x1)), (2, (0, x2))] [] μ (BX6_requireCell_0 x0 x1 x2 μ) := by
  unfold BX6_requireCell_0
  refine V_iload_n (κ := KX6_requireCell) (pc := 0) dX6_requireCell_0 1 rfl ?_
  refine V_if_lt (κ := KX6_requireCell) (pc := 1) (tgt := 30) dX6_requireCell_1 rfl ?_ ?_
  · refine V_sub (lv' := []) [] rfl ?_
    exact VBX6_requireCell_30 _
  refine V_iload_n (κ := KX6_requireCell) (pc := 4) dX6_requireCell_4 1 rfl ?_
  refine V_aload_n (κ := KX6_requireCell) (pc := 5) dX6_requireCell_5 0 rfl rfl ?_
  refine V_getf 6 (κ := KX6_requireCell) (pc := 6) rfl (by decide) rfl inX6 6 (by decide) wd_250 rfl (t := 2) rfl dX6_requireCell_6 fun t101 => ?_
  refine V_getf 5 (κ := KX6_requireCell) (pc := 9) rfl (by decide) rfl inX5 0 (by decide) wd_207 rfl (t := 0) rfl dX6_requireCell_9 fun t102 => ?_
  refine V_icmp_ge (κ := KX6_requireCell) (pc := 12) (tgt := 30) dX6_requireCell_12 rfl ?_ ?_
  · refine V_sub (lv' := []) [] rfl ?_
    exact VBX6_requireCell_30 _
  refine V_iload_n (κ := KX6_requireCell) (pc := 15) dX6_requireCell_15 2 rfl ?_
  refine V_if_lt (κ := KX6_requireCell) (pc := 16) (tgt := 30) dX6_requireCell_16 rfl ?_ ?_
  · refine V_sub (lv' := []) [] rfl ?_
    exact VBX6_requireCell_30 _
  refine V_iload_n (κ := KX6_requireCell) (pc := 19) dX6_requireCell_19 2 rfl ?_
  refine V_aload_n (κ := KX6_requireCell) (pc := 20) dX6_requireCell_20 0 rfl rfl ?_
  refine V_getf 6 (κ := KX6_requireCell) (pc := 21) rfl (by decide) rfl inX6 6 (by decide) wd_250 rfl (t := 2) rfl dX6_requireCell_21 fun t103 => ?_
  refine V_getf 5 (κ := KX6_requireCell) (pc := 24) rfl (by decide) rfl inX5 1 (by decide) wd_211 rfl (t := 0) rfl dX6_requireCell_24 fun t104 => ?_
  refine V_icmp_lt (κ := KX6_requireCell) (pc := 27) (tgt := 41) dX6_requireCell_27 rfl ?_ ?_
  · exact V_vreturn (κ := KX6_requireCell) (pc := 41) rfl rfl dX6_requireCell_41
  refine V_sub (lv' := []) [] rfl ?_
  exact VBX6_requireCell_30 _
theorem con_X6_requireCell (a0 a1 a2 : Int) (μ : Mem) : Con (6) yX6_requireCell (.code yX6_requireCell cX6_requireCell 3 none) 9 [(2, a0), (0, a1), (0, a2)] μ (FX6_requireCell a0 a1 a2 μ) := Con_intro KX6_requireCell (plainFor_of_name (by decide)) rfl (fun h => by cases h) (by decide) rfl (Nat.le_of_ble_eq_true rfl) (fun Γ => VBX6_requireCell_0 _ _ _ _)
abbrev KX6_requirePlate : Kap := (RX6, cX6_requirePlate, 2, 6, 9, none, false, [])
theorem VBX6_requirePlate_15 {Γ : Gam} (μ : Mem) : V Γ KX6_requirePlate 15 [] [] μ (BX6_requirePlate_15 μ) := by
  unfold BX6_requirePlate_15
  exact V_throwW (κ := KX6_requirePlate) (pc := 15) 1 (by decide) rfl thr_1 (tx := "no such plate") (by decide) rfl (by decide) (by decide) dX6_requirePlate_15 dX6_requirePlate_18 dX6_requirePlate_19 dX6_requirePlate_22 dX6_requirePlate_25
theorem VBX6_requirePlate_0 {Γ : Gam} (x0 x1 : Int) (μ : Mem) : V Γ KX6_requirePlate 0 [(0, (2, x0)), (1, (0, x1))] [] μ (BX6_requirePlate_0 x0 x1 μ) := by
  unfold BX6_requirePlate_0
  refine V_iload_n (κ := KX6_requirePlate) (pc := 0) dX6_requirePlate_0 1 rfl ?_
  refine V_if_lt (κ := KX6_requirePlate) (pc := 1) (tgt := 15) dX6_requirePlate_1 rfl ?_ ?_
  · refine V_sub (lv' := []) [] rfl ?_
    exact VBX6_requirePlate_15 _
  refine V_iload_n (κ := KX6_requirePlate) (pc := 4) dX6_requirePlate_4 1 rfl ?_
  refine V_aload_n (κ := KX6_requirePlate) (pc := 5) dX6_requirePlate_5 0 rfl rfl ?_
  refine V_getf 6 (κ := KX6_requirePlate) (pc := 6) rfl (by decide) rfl inX6 6 (by decide) wd_250 rfl (t := 2) rfl dX6_requirePlate_6 fun t101 => ?_
  refine V_getf 5 (κ := KX6_requirePlate) (pc := 9) rfl (by decide) rfl inX5 3 (by decide) wd_217 rfl (t := 0) rfl dX6_requirePlate_9 fun t102 => ?_
  refine V_icmp_lt (κ := KX6_requirePlate) (pc := 12) (tgt := 26) dX6_requirePlate_12 rfl ?_ ?_
  · exact V_vreturn (κ := KX6_requirePlate) (pc := 26) rfl rfl dX6_requirePlate_26
  refine V_sub (lv' := []) [] rfl ?_
  exact VBX6_requirePlate_15 _
theorem con_X6_requirePlate (a0 a1 : Int) (μ : Mem) : Con (6) yX6_requirePlate (.code yX6_requirePlate cX6_requirePlate 2 none) 9 [(2, a0), (0, a1)] μ (FX6_requirePlate a0 a1 μ) := Con_intro KX6_requirePlate (plainFor_of_name (by decide)) rfl (fun h => by cases h) (by decide) rfl (Nat.le_of_ble_eq_true rfl) (fun Γ => VBX6_requirePlate_0 _ _ _)
abbrev KX6_cell : Kap := (RX6, cX6_cell, 6, 10, 0, (some .int), false, [])
theorem VBX6_cell_22 {Γ : Gam} (μ : Mem) : V Γ KX6_cell 22 [] [] μ (BX6_cell_22 μ) := by
  unfold BX6_cell_22
  exact V_throw (κ := KX6_cell) (pc := 22) 2 (by decide) rfl thr_2 (tx := "what is 0 to 4") (by decide) rfl (by decide) (by decide) dX6_cell_22 dX6_cell_25 dX6_cell_26 dX6_cell_28 dX6_cell_31
theorem VBX6_cell_134 {Γ : Gam} (s0 : Int) (μ : Mem) : V Γ KX6_cell 134 [] [(0, s0)] μ (BX6_cell_134 s0 μ) := by
  unfold BX6_cell_134
  exact V_ireturn (κ := KX6_cell) (pc := 134) rfl rfl dX6_cell_134
theorem VBX6_cell_157 {Γ : Gam} (s0 : Int) (μ : Mem) : V Γ KX6_cell 157 [] [(0, s0)] μ (BX6_cell_157 s0 μ) := by
  unfold BX6_cell_157
  exact V_ireturn (κ := KX6_cell) (pc := 157) rfl rfl dX6_cell_157
theorem VBX6_cell_176 {Γ : Gam} (s0 : Int) (μ : Mem) : V Γ KX6_cell 176 [] [(0, s0)] μ (BX6_cell_176 s0 μ) := by
  unfold BX6_cell_176
  exact V_ireturn (κ := KX6_cell) (pc := 176) rfl rfl dX6_cell_176
theorem VBX6_cell_0 {Γ : Gam} (x0 x1 x2 x3 x4 : Int) (μ : Mem) : V Γ KX6_cell 0 [(0, (2, x0)), (1, (0, x1)), (2, (0, x2)), (3, (0, x3)), (4, (0, x4))] [] μ (BX6_cell_0 x0 x1 x2 x3 x4 μ) := by
  unfold BX6_cell_0
  refine V_aload_n (κ := KX6_cell) (pc := 0) dX6_cell_0 0 rfl rfl ?_
  refine V_iload_n (κ := KX6_cell) (pc := 1) dX6_cell_1 1 rfl ?_
  refine V_callV (ci := 6) (T := TX6) (N := 9) rfl (by decide) (κ := KX6_cell) (pc := 2) (con_X6_requirePlate _ _ _) mth_X6_requirePlate rfl ⟨wd_519, wp_8⟩ wd_517 (st0 := []) rfl rfl (by decide) (Nat.le_of_ble_eq_true rfl) dX6_cell_2 (fun _ _ _ h => VX_out rfl (by decide) h) fun _ u102 => ?_
  refine V_aload_n (κ := KX6_cell) (pc := 5) dX6_cell_5 0 rfl rfl ?_
  refine V_iload_n (κ := KX6_cell) (pc := 6) dX6_cell_6 2 rfl ?_
  refine V_iload_n (κ := KX6_cell) (pc := 7) dX6_cell_7 3 rfl ?_
  refine V_callV (ci := 6) (T := TX6) (N := 9) rfl (by decide) (κ := KX6_cell) (pc := 8) (con_X6_requireCell _ _ _ _) mth_X6_requireCell rfl ⟨wd_458, wp_4⟩ wd_456 (st0 := []) rfl rfl (by decide) (Nat.le_of_ble_eq_true rfl) dX6_cell_8 (fun _ _ _ h => VX_out rfl (by decide) h) fun _ u104 => ?_
  refine V_iload (κ := KX6_cell) (pc := 11) dX6_cell_11 4 rfl ?_
  refine V_if_lt (κ := KX6_cell) (pc := 13) (tgt := 22) dX6_cell_13 rfl ?_ ?_
  · refine V_sub (lv' := []) [] rfl ?_
    exact VBX6_cell_22 _
  refine V_iload (κ := KX6_cell) (pc := 16) dX6_cell_16 4 rfl ?_
  refine V_iconst (κ := KX6_cell) (pc := 18) dX6_cell_18 ⟨by decide, by decide⟩ ?_
  refine V_icmp_le (κ := KX6_cell) (pc := 19) (tgt := 32) dX6_cell_19 rfl ?_ ?_
  · refine V_aload_n (κ := KX6_cell) (pc := 32) dX6_cell_32 0 rfl rfl ?_
    refine V_getf 6 (κ := KX6_cell) (pc := 33) rfl (by decide) rfl inX6 7 (by decide) wd_251 rfl (t := 2) rfl dX6_cell_33 fun t105 => ?_
    refine V_aload_n (κ := KX6_cell) (pc := 36) dX6_cell_36 0 rfl rfl ?_
    refine V_getf 6 (κ := KX6_cell) (pc := 37) rfl (by decide) rfl inX6 6 (by decide) wd_250 rfl (t := 2) rfl dX6_cell_37 fun t106 => ?_
    refine V_callV (ci := 2) (T := TX2) (N := 8) rfl (by decide) (κ := KX6_cell) (pc := 40) (con_X2_update _ _ _) mth_X2_update rfl ⟨wd_343, wd_344⟩ wd_342 (st0 := []) rfl rfl (by decide) (Nat.le_of_ble_eq_true rfl) dX6_cell_40 (fun _ _ _ h => VX_out rfl (by decide) h) fun _ u108 => ?_
    refine V_aload_n (κ := KX6_cell) (pc := 43) dX6_cell_43 0 rfl rfl ?_
    refine V_getf 6 (κ := KX6_cell) (pc := 44) rfl (by decide) rfl inX6 6 (by decide) wd_250 rfl (t := 2) rfl dX6_cell_44 fun t109 => ?_
    refine V_iload_n (κ := KX6_cell) (pc := 47) dX6_cell_47 2 rfl ?_
    refine V_iload_n (κ := KX6_cell) (pc := 48) dX6_cell_48 3 rfl ?_
    refine V_callV (ci := 5) (T := TX5) (N := 7) rfl (by decide) (κ := KX6_cell) (pc := 49) (con_X5_indexOfCell _ _ _ _) mth_X5_indexOfCell rfl ⟨wd_351, wd_352⟩ wd_508 (st0 := []) rfl rfl (by decide) (Nat.le_of_ble_eq_true rfl) dX6_cell_49 (fun _ _ _ h => VX_out rfl (by decide) h) fun t110 u111 => ?_
    refine V_istore (κ := KX6_cell) (pc := 52) (lv' := [(5, (0, t110)), (0, (2, x0)), (1, (0, x1)), (2, (0, x2)), (3, (0, x3)), (4, (0, x4))]) dX6_cell_52 (by decide) rfl ?_
    refine V_iload (κ := KX6_cell) (pc := 54) dX6_cell_54 5 rfl ?_
    refine V_tsw (κ := KX6_cell) (pc := 56) (os := [32, 47, 60, 79]) (tgt := 158) dX6_cell_56 rfl rfl ?_ ⟨⟨88, rfl, ?_⟩, ⟨103, rfl, ?_⟩, ⟨116, rfl, ?_⟩, ⟨135, rfl, ?_⟩, trivial⟩
    · refine V_aload_n (κ := KX6_cell) (pc := 158) dX6_cell_158 1 rfl rfl ?_
      refine V_getf 6 (κ := KX6_cell) (pc := 159) rfl (by decide) rfl inX6 6 (by decide) wd_250 rfl (t := 2) rfl dX6_cell_159 fun t112 => ?_
      refine V_iload_n (κ := KX6_cell) (pc := 162) dX6_cell_162 2 rfl ?_
      refine V_iload (κ := KX6_cell) (pc := 163) dX6_cell_163 0 rfl ?_
      refine V_callV (ci := 5) (T := TX5) (N := 7) rfl (by decide) (κ := KX6_cell) (pc := 165) (con_X5_isCleaned _ _ _ _) mth_X5_isCleaned rfl ⟨wd_414, wd_415⟩ wd_958 (st0 := []) rfl rfl (by decide) (Nat.le_of_ble_eq_true rfl) dX6_cell_165 (fun _ _ _ h => VX_out rfl (by decide) h) fun t113 u114 => ?_
      refine V_if_eq (κ := KX6_cell) (pc := 168) (tgt := 175) dX6_cell_168 rfl ?_ ?_
      · refine V_iconst (κ := KX6_cell) (pc := 175) dX6_cell_175 ⟨by decide, by decide⟩ ?_
        refine V_sub (lv' := []) [] rfl ?_
        exact VBX6_cell_176 _ _
      refine V_iconst (κ := KX6_cell) (pc := 171) dX6_cell_171 ⟨by decide, by decide⟩ ?_
      refine V_goto (κ := KX6_cell) (pc := 172) (tgt := 176) dX6_cell_172 rfl ?_
      refine V_sub (lv' := []) [] rfl ?_
      exact VBX6_cell_176 _ _
    · refine V_aload_n (κ := KX6_cell) (pc := 88) dX6_cell_88 1 rfl rfl ?_
      refine V_getf 6 (κ := KX6_cell) (pc := 89) rfl (by decide) rfl inX6 7 (by decide) wd_251 rfl (t := 2) rfl dX6_cell_89 fun t115 => ?_
      refine V_aload_n (κ := KX6_cell) (pc := 92) dX6_cell_92 1 rfl rfl ?_
      refine V_getf 6 (κ := KX6_cell) (pc := 93) rfl (by decide) rfl inX6 6 (by decide) wd_250 rfl (t := 2) rfl dX6_cell_93 fun t116 => ?_
      refine V_iload_n (κ := KX6_cell) (pc := 96) dX6_cell_96 2 rfl ?_
      refine V_iload_n (κ := KX6_cell) (pc := 97) dX6_cell_97 3 rfl ?_
      refine V_iload_n (κ := KX6_cell) (pc := 98) dX6_cell_98 4 rfl ?_
      refine V_callV (ci := 2) (T := TX2) (N := 8) rfl (by decide) (κ := KX6_cell) (pc := 99) (con_X2_rankAt _ _ _ _ _ _) mth_X2_rankAt rfl ⟨wd_423, wd_424⟩ wd_944 (st0 := []) rfl rfl (by decide) (Nat.le_of_ble_eq_true rfl) dX6_cell_99 (fun _ _ _ h => VX_out rfl (by decide) h) fun t117 u118 => ?_
      exact V_ireturn (κ := KX6_cell) (pc := 102) rfl rfl dX6_cell_102
    · refine V_aload_n (κ := KX6_cell) (pc := 103) dX6_cell_103 1 rfl rfl ?_
      refine V_getf 6 (κ := KX6_cell) (pc := 104) rfl (by decide) rfl inX6 7 (by decide) wd_251 rfl (t := 2) rfl dX6_cell_104 fun t119 => ?_
      refine V_getf 2 (κ := KX6_cell) (pc := 107) rfl (by decide) rfl inX2 0 (by decide) wd_75 rfl (t := 2) rfl dX6_cell_107 fun t120 => ?_
      refine V_iload_n (κ := KX6_cell) (pc := 110) dX6_cell_110 2 rfl ?_
      refine V_aaload 7 (by decide) rfl rfl (κ := KX6_cell) (pc := 111) dX6_cell_111 fun t121 => ?_
      refine V_iload (κ := KX6_cell) (pc := 112) dX6_cell_112 0 rfl ?_
      refine V_iaload (κ := KX6_cell) (pc := 114) dX6_cell_114 fun t122 => ?_
      exact V_ireturn (κ := KX6_cell) (pc := 115) rfl rfl dX6_cell_115
    · refine V_aload_n (κ := KX6_cell) (pc := 116) dX6_cell_116 1 rfl rfl ?_
      refine V_getf 6 (κ := KX6_cell) (pc := 117) rfl (by decide) rfl inX6 7 (by decide) wd_251 rfl (t := 2) rfl dX6_cell_117 fun t123 => ?_
      refine V_iload_n (κ := KX6_cell) (pc := 120) dX6_cell_120 2 rfl ?_
      refine V_iload (κ := KX6_cell) (pc := 121) dX6_cell_121 0 rfl ?_
      refine V_callV (ci := 2) (T := TX2) (N := 8) rfl (by decide) (κ := KX6_cell) (pc := 123) (con_X2_hasDot _ _ _ _) mth_X2_hasDot rfl ⟨wd_946, wd_947⟩ wd_945 (st0 := []) rfl rfl (by decide) (Nat.le_of_ble_eq_true rfl) dX6_cell_123 (fun _ _ _ h => VX_out rfl (by decide) h) fun t124 u125 => ?_
      refine V_if_eq (κ := KX6_cell) (pc := 126) (tgt := 133) dX6_cell_126 rfl ?_ ?_
      · refine V_iconst (κ := KX6_cell) (pc := 133) dX6_cell_133 ⟨by decide, by decide⟩ ?_
        refine V_sub (lv' := []) [] rfl ?_
        exact VBX6_cell_134 _ _
      refine V_iconst (κ := KX6_cell) (pc := 129) dX6_cell_129 ⟨by decide, by decide⟩ ?_
      refine V_goto (κ := KX6_cell) (pc := 130) (tgt := 134) dX6_cell_130 rfl ?_
      refine V_sub (lv' := []) [] rfl ?_
      exact VBX6_cell_134 _ _
    · refine V_aload_n (κ := KX6_cell) (pc := 135) dX6_cell_135 1 rfl rfl ?_
      refine V_getf 6 (κ := KX6_cell) (pc := 136) rfl (by decide) rfl inX6 7 (by decide) wd_251 rfl (t := 2) rfl dX6_cell_136 fun t126 => ?_
      refine V_aload_n (κ := KX6_cell) (pc := 139) dX6_cell_139 1 rfl rfl ?_
      refine V_getf 6 (κ := KX6_cell) (pc := 140) rfl (by decide) rfl inX6 6 (by decide) wd_250 rfl (t := 2) rfl dX6_cell_140 fun t127 => ?_
      refine V_iload_n (κ := KX6_cell) (pc := 143) dX6_cell_143 2 rfl ?_
      refine V_iload_n (κ := KX6_cell) (pc := 144) dX6_cell_144 3 rfl ?_
      refine V_iload_n (κ := KX6_cell) (pc := 145) dX6_cell_145 4 rfl ?_
      refine V_callV (ci := 2) (T := TX2) (N := 8) rfl (by decide) (κ := KX6_cell) (pc := 146) (con_X2_isSpot _ _ _ _ _ _) mth_X2_isSpot rfl ⟨wd_950, wd_951⟩ wd_949 (st0 := []) rfl rfl (by decide) (Nat.le_of_ble_eq_true rfl) dX6_cell_146 (fun _ _ _ h => VX_out rfl (by decide) h) fun t128 u129 => ?_
      refine V_if_eq (κ := KX6_cell) (pc := 149) (tgt := 156) dX6_cell_149 rfl ?_ ?_
      · refine V_iconst (κ := KX6_cell) (pc := 156) dX6_cell_156 ⟨by decide, by decide⟩ ?_
        refine V_sub (lv' := []) [] rfl ?_
        exact VBX6_cell_157 _ _
      refine V_iconst (κ := KX6_cell) (pc := 152) dX6_cell_152 ⟨by decide, by decide⟩ ?_
      refine V_goto (κ := KX6_cell) (pc := 153) (tgt := 157) dX6_cell_153 rfl ?_
      refine V_sub (lv' := []) [] rfl ?_
      exact VBX6_cell_157 _ _
  refine V_sub (lv' := []) [] rfl ?_
  exact VBX6_cell_22 _
theorem con_X6_cell (a0 a1 a2 a3 a4 : Int) (μ : Mem) : Con (10) yX6_cell (.code yX6_cell cX6_cell 6 (some .int)) 0 [(2, a0), (0, a1), (0, a2), (0, a3), (0, a4)] μ (FX6_cell a0 a1 a2 a3 a4 μ) := Con_intro KX6_cell (plainFor_of_name (by decide)) rfl (fun h => by cases h) (by decide) rfl (Nat.le_of_ble_eq_true rfl) (fun Γ => VBX6_cell_0 _ _ _ _ _ _)
abbrev KX6_inks : Kap := (RX6, cX6_inks, 3, 10, 0, (some .int), false, [])
theorem VBX6_inks_0 {Γ : Gam} (x0 x1 x2 : Int) (μ : Mem) : V Γ KX6_inks 0 [(0, (2, x0)), (1, (0, x1)), (2, (0, x2))] [] μ (BX6_inks_0 x0 x1 x2 μ) := by
  unfold BX6_inks_0
  refine V_aload_n (κ := KX6_inks) (pc := 0) dX6_inks_0 0 rfl rfl ?_
  refine V_iload_n (κ := KX6_inks) (pc := 1) dX6_inks_1 1 rfl ?_
  refine V_iload_n (κ := KX6_inks) (pc := 2) dX6_inks_2 2 rfl ?_
  refine V_callV (ci := 6) (T := TX6) (N := 9) rfl (by decide) (κ := KX6_inks) (pc := 3) (con_X6_requireCell _ _ _ _) mth_X6_requireCell rfl ⟨wd_458, wp_4⟩ wd_456 (st0 := []) rfl rfl (by decide) (Nat.le_of_ble_eq_true rfl) dX6_inks_3 (fun _ _ _ h => VX_out rfl (by decide) h) fun _ u102 => ?_
  refine V_aload_n (κ := KX6_inks) (pc := 6) dX6_inks_6 0 rfl rfl ?_
  refine V_getf 6 (κ := KX6_inks) (pc := 7) rfl (by decide) rfl inX6 7 (by decide) wd_251 rfl (t := 2) rfl dX6_inks_7 fun t103 => ?_
  refine V_aload_n (κ := KX6_inks) (pc := 10) dX6_inks_10 0 rfl rfl ?_
  refine V_getf 6 (κ := KX6_inks) (pc := 11) rfl (by decide) rfl inX6 6 (by decide) wd_250 rfl (t := 2) rfl dX6_inks_11 fun t104 => ?_
  refine V_callV (ci := 2) (T := TX2) (N := 8) rfl (by decide) (κ := KX6_inks) (pc := 14) (con_X2_update _ _ _) mth_X2_update rfl ⟨wd_343, wd_344⟩ wd_342 (st0 := []) rfl rfl (by decide) (Nat.le_of_ble_eq_true rfl) dX6_inks_14 (fun _ _ _ h => VX_out rfl (by decide) h) fun _ u106 => ?_
  refine V_aload_n (κ := KX6_inks) (pc := 17) dX6_inks_17 0 rfl rfl ?_
  refine V_getf 6 (κ := KX6_inks) (pc := 18) rfl (by decide) rfl inX6 7 (by decide) wd_251 rfl (t := 2) rfl dX6_inks_18 fun t107 => ?_
  refine V_getf 2 (κ := KX6_inks) (pc := 21) rfl (by decide) rfl inX2 1 (by decide) wd_77 rfl (t := 2) rfl dX6_inks_21 fun t108 => ?_
  refine V_aload_n (κ := KX6_inks) (pc := 24) dX6_inks_24 0 rfl rfl ?_
  refine V_getf 6 (κ := KX6_inks) (pc := 25) rfl (by decide) rfl inX6 6 (by decide) wd_250 rfl (t := 2) rfl dX6_inks_25 fun t109 => ?_
  refine V_iload_n (κ := KX6_inks) (pc := 28) dX6_inks_28 1 rfl ?_
  refine V_iload_n (κ := KX6_inks) (pc := 29) dX6_inks_29 2 rfl ?_
  refine V_callV (ci := 5) (T := TX5) (N := 7) rfl (by decide) (κ := KX6_inks) (pc := 30) (con_X5_indexOfCell _ _ _ _) mth_X5_indexOfCell rfl ⟨wd_351, wd_352⟩ wd_508 (st0 := [(2, t108)]) rfl rfl (by decide) (Nat.le_of_ble_eq_true rfl) dX6_inks_30 (fun _ _ _ h => VX_out rfl (by decide) h) fun t110 u111 => ?_
  refine V_iaload (κ := KX6_inks) (pc := 33) dX6_inks_33 fun t112 => ?_
  exact V_ireturn (κ := KX6_inks) (pc := 34) rfl rfl dX6_inks_34
theorem con_X6_inks (a0 a1 a2 : Int) (μ : Mem) : Con (10) yX6_inks (.code yX6_inks cX6_inks 3 (some .int)) 0 [(2, a0), (0, a1), (0, a2)] μ (FX6_inks a0 a1 a2 μ) := Con_intro KX6_inks (plainFor_of_name (by decide)) rfl (fun h => by cases h) (by decide) rfl (Nat.le_of_ble_eq_true rfl) (fun Γ => VBX6_inks_0 _ _ _ _)
abbrev KX5_cells : Kap := (RX5, cX5_cells, 1, 1, 0, (some .int), false, [])
theorem VBX5_cells_0 {Γ : Gam} (x0 : Int) (μ : Mem) : V Γ KX5_cells 0 [(0, (2, x0))] [] μ (BX5_cells_0 x0 μ) := by
  unfold BX5_cells_0
  refine V_aload_n (κ := KX5_cells) (pc := 0) dX5_cells_0 0 rfl rfl ?_
  refine V_getf 5 (κ := KX5_cells) (pc := 1) rfl (by decide) rfl inX5 0 (by decide) wd_204 rfl (t := 0) rfl dX5_cells_1 fun t101 => ?_
  refine V_aload_n (κ := KX5_cells) (pc := 4) dX5_cells_4 0 rfl rfl ?_
  refine V_getf 5 (κ := KX5_cells) (pc := 5) rfl (by decide) rfl inX5 1 (by decide) wd_208 rfl (t := 0) rfl dX5_cells_5 fun t102 => ?_
  refine V_imul (κ := KX5_cells) (pc := 8) dX5_cells_8 ?_
  exact V_ireturn (κ := KX5_cells) (pc := 9) rfl rfl dX5_cells_9
theorem con_X5_cells (a0 : Int) (μ : Mem) : Con (1) yX5_cells (.code yX5_cells cX5_cells 1 (some .int)) 0 [(2, a0)] μ (FX5_cells a0 μ) := Con_intro KX5_cells (plainFor_of_name (by decide)) rfl (fun h => by cases h) (by decide) rfl (Nat.le_of_ble_eq_true rfl) (fun Γ => VBX5_cells_0 _ _)
abbrev KX2_cellsHaving : Kap := (RX2, cX2_cellsHaving, 5, 5, 0, (some .int), false, [])
theorem VBX2_cellsHaving_34 {Γ : Gam} {k5 : Int → Int → Int → Int → Int → Mem → Rz} (hk5 : ∀ (y0 y1 y2 y3 y4 : Int) (ν : Mem), V Γ KX2_cellsHaving 5 [(0, (2, y0)), (1, (2, y1)), (2, (0, y2)), (3, (0, y3)), (4, (0, y4))] [] ν (k5 y0 y1 y2 y3 y4 ν)) (x0 x1 x2 x4 s0 s1 : Int) (μ : Mem) : V Γ KX2_cellsHaving 34 [(0, (2, x0)), (1, (2, x1)), (2, (0, x2)), (4, (0, x4))] [(0, s0), (0, s1)] μ (BX2_cellsHaving_34 k5 x0 x1 x2 x4 s0 s1 μ) := by
  unfold BX2_cellsHaving_34
  refine V_iadd (κ := KX2_cellsHaving) (pc := 34) dX2_cellsHaving_34 ?_
  refine V_LT fun x101 => ?_
  refine V_istore_n (κ := KX2_cellsHaving) (pc := 35) (lv' := [(3, (0, x101)), (0, (2, x0)), (1, (2, x1)), (2, (0, x2)), (4, (0, x4))]) dX2_cellsHaving_35 (by decide) rfl ?_
  refine V_iinc (κ := KX2_cellsHaving) (pc := 36) (lv' := [(4, (0, w32 (x4 + 1))), (3, (0, x101)), (0, (2, x0)), (1, (2, x1)), (2, (0, x2))]) dX2_cellsHaving_36 4 rfl (by decide) rfl ?_
  refine V_goto (κ := KX2_cellsHaving) (pc := 39) (tgt := 5) dX2_cellsHaving_39 rfl ?_
  refine V_sub (lv' := [(0, (2, x0)), (1, (2, x1)), (2, (0, x2)), (3, (0, x101)), (4, (0, w32 (x4 + 1)))]) [2, 3, 4, 1, 0] rfl ?_
  exact hk5 _ _ _ _ _ _
theorem VBX2_cellsHaving_5 {Γ : Gam} {k5 : Int → Int → Int → Int → Int → Mem → Rz} (hk5 : ∀ (y0 y1 y2 y3 y4 : Int) (ν : Mem), V Γ KX2_cellsHaving 5 [(0, (2, y0)), (1, (2, y1)), (2, (0, y2)), (3, (0, y3)), (4, (0, y4))] [] ν (k5 y0 y1 y2 y3 y4 ν)) (x0 x1 x2 x3 x4 : Int) (μ : Mem) : V Γ KX2_cellsHaving 5 [(0, (2, x0)), (1, (2, x1)), (2, (0, x2)), (3, (0, x3)), (4, (0, x4))] [] μ (BX2_cellsHaving_5 k5 x0 x1 x2 x3 x4 μ) := by
  unfold BX2_cellsHaving_5
  refine V_iload (κ := KX2_cellsHaving) (pc := 5) dX2_cellsHaving_5 4 rfl ?_
  refine V_aload_n (κ := KX2_cellsHaving) (pc := 7) dX2_cellsHaving_7 1 rfl rfl ?_
  refine V_callV (ci := 5) (T := TX5) (N := 7) rfl (by decide) (κ := KX2_cellsHaving) (pc := 8) (con_X5_cells _ _) mth_X5_cells rfl ⟨wd_439, wd_440⟩ wd_438 (st0 := [(0, x4)]) rfl rfl (by decide) (Nat.le_of_ble_eq_true rfl) dX2_cellsHaving_8 (fun _ _ _ h => VX_out rfl (by decide) h) fun t101 u102 => ?_
  refine V_icmp_ge (κ := KX2_cellsHaving) (pc := 11) (tgt := 42) dX2_cellsHaving_11 rfl ?_ ?_
  · refine V_iload_n (κ := KX2_cellsHaving) (pc := 42) dX2_cellsHaving_42 3 rfl ?_
    exact V_ireturn (κ := KX2_cellsHaving) (pc := 43) rfl rfl dX2_cellsHaving_43
  refine V_iload_n (κ := KX2_cellsHaving) (pc := 14) dX2_cellsHaving_14 3 rfl ?_
  refine V_aload_n (κ := KX2_cellsHaving) (pc := 15) dX2_cellsHaving_15 0 rfl rfl ?_
  refine V_getf 2 (κ := KX2_cellsHaving) (pc := 16) rfl (by decide) rfl inX2 1 (by decide) wd_76 rfl (t := 2) rfl dX2_cellsHaving_16 fun t103 => ?_
  refine V_iload (κ := KX2_cellsHaving) (pc := 19) dX2_cellsHaving_19 4 rfl ?_
  refine V_iaload (κ := KX2_cellsHaving) (pc := 21) dX2_cellsHaving_21 fun t104 => ?_
  refine V_callS (κ := KX2_cellsHaving) (pc := 22) (con_J6_bitCount_0f7a4 _ _) mth_J6_bitCount_0f7a4 wd_408 wd_407 (st0 := [(0, x3)]) rfl rfl (by decide) (Nat.le_of_ble_eq_true rfl) dX2_cellsHaving_22 (fun _ _ _ h => VX_out rfl (by decide) h) fun t105 u106 => ?_
  refine V_iload_n (κ := KX2_cellsHaving) (pc := 25) dX2_cellsHaving_25 2 rfl ?_
  refine V_icmp_ne (κ := KX2_cellsHaving) (pc := 26) (tgt := 33) dX2_cellsHaving_26 rfl ?_ ?_
  · refine V_iconst (κ := KX2_cellsHaving) (pc := 33) dX2_cellsHaving_33 ⟨by decide, by decide⟩ ?_
    refine V_sub (lv' := [(0, (2, x0)), (1, (2, x1)), (2, (0, x2)), (4, (0, x4))]) [0, 1, 2, 4] rfl ?_
    exact VBX2_cellsHaving_34 hk5 _ _ _ _ _ _ _
  refine V_iconst (κ := KX2_cellsHaving) (pc := 29) dX2_cellsHaving_29 ⟨by decide, by decide⟩ ?_
  refine V_goto (κ := KX2_cellsHaving) (pc := 30) (tgt := 34) dX2_cellsHaving_30 rfl ?_
  refine V_sub (lv' := [(0, (2, x0)), (1, (2, x1)), (2, (0, x2)), (4, (0, x4))]) [0, 1, 2, 4] rfl ?_
  exact VBX2_cellsHaving_34 hk5 _ _ _ _ _ _ _
theorem VLX2_cellsHaving_5 {Γ : Gam} : ∀ (n : Nat) (x0 x1 x2 x3 x4 : Int) (μ : Mem), V Γ KX2_cellsHaving 5 [(0, (2, x0)), (1, (2, x1)), (2, (0, x2)), (3, (0, x3)), (4, (0, x4))] [] μ (LX2_cellsHaving_5 n x0 x1 x2 x3 x4 μ)
  | 0, _, _, _, _, _, _ => V_none
  | n + 1, x0, x1, x2, x3, x4, μ => VBX2_cellsHaving_5 (fun y0 y1 y2 y3 y4 ν => VLX2_cellsHaving_5 n y0 y1 y2 y3 y4 ν) x0 x1 x2 x3 x4 μ
theorem VBX2_cellsHaving_0 {Γ : Gam} (x0 x1 x2 : Int) (μ : Mem) : V Γ KX2_cellsHaving 0 [(0, (2, x0)), (1, (2, x1)), (2, (0, x2))] [] μ (BX2_cellsHaving_0 x0 x1 x2 μ) := by
  unfold BX2_cellsHaving_0
  refine V_iconst (κ := KX2_cellsHaving) (pc := 0) dX2_cellsHaving_0 ⟨by decide, by decide⟩ ?_
  refine V_istore_n (κ := KX2_cellsHaving) (pc := 1) (lv' := [(3, (0, 0)), (0, (2, x0)), (1, (2, x1)), (2, (0, x2))]) dX2_cellsHaving_1 (by decide) rfl ?_
  refine V_iconst (κ := KX2_cellsHaving) (pc := 2) dX2_cellsHaving_2 ⟨by decide, by decide⟩ ?_
  refine V_istore (κ := KX2_cellsHaving) (pc := 3) (lv' := [(4, (0, 0)), (3, (0, 0)), (0, (2, x0)), (1, (2, x1)), (2, (0, x2))]) dX2_cellsHaving_3 (by decide) rfl ?_
  refine V_sub (lv' := [(0, (2, x0)), (1, (2, x1)), (2, (0, x2)), (3, (0, 0)), (4, (0, 0))]) [2, 3, 4, 1, 0] rfl ?_
  exact VLX2_cellsHaving_5 FU _ _ _ _ _ _
theorem con_X2_cellsHaving (a0 a1 a2 : Int) (μ : Mem) : Con (5) yX2_cellsHaving (.code yX2_cellsHaving cX2_cellsHaving 5 (some .int)) 0 [(2, a0), (2, a1), (0, a2)] μ (FX2_cellsHaving a0 a1 a2 μ) := Con_intro KX2_cellsHaving (plainFor_of_name (by decide)) rfl (fun h => by cases h) (by decide) rfl (Nat.le_of_ble_eq_true rfl) (fun Γ => VBX2_cellsHaving_0 _ _ _ _)
abbrev KX2_dotsOfAll : Kap := (RX2, cX2_dotsOfAll, 4, 1, 0, (some .int), false, [])
theorem VBX2_dotsOfAll_4 {Γ : Gam} {k4 : Int → Int → Int → Int → Mem → Rz} (hk4 : ∀ (y0 y1 y2 y3 : Int) (ν : Mem), V Γ KX2_dotsOfAll 4 [(0, (2, y0)), (1, (2, y1)), (2, (0, y2)), (3, (0, y3))] [] ν (k4 y0 y1 y2 y3 ν)) (x0 x1 x2 x3 : Int) (μ : Mem) : V Γ KX2_dotsOfAll 4 [(0, (2, x0)), (1, (2, x1)), (2, (0, x2)), (3, (0, x3))] [] μ (BX2_dotsOfAll_4 k4 x0 x1 x2 x3 μ) := by
  unfold BX2_dotsOfAll_4
  refine V_iload_n (κ := KX2_dotsOfAll) (pc := 4) dX2_dotsOfAll_4 3 rfl ?_
  refine V_aload_n (κ := KX2_dotsOfAll) (pc := 5) dX2_dotsOfAll_5 1 rfl rfl ?_
  refine V_getf 5 (κ := KX2_dotsOfAll) (pc := 6) rfl (by decide) rfl inX5 3 (by decide) wd_218 rfl (t := 0) rfl dX2_dotsOfAll_6 fun t101 => ?_
  refine V_icmp_ge (κ := KX2_dotsOfAll) (pc := 9) (tgt := 27) dX2_dotsOfAll_9 rfl ?_ ?_
  · refine V_iload_n (κ := KX2_dotsOfAll) (pc := 27) dX2_dotsOfAll_27 2 rfl ?_
    exact V_ireturn (κ := KX2_dotsOfAll) (pc := 28) rfl rfl dX2_dotsOfAll_28
  refine V_iload_n (κ := KX2_dotsOfAll) (pc := 12) dX2_dotsOfAll_12 2 rfl ?_
  refine V_aload_n (κ := KX2_dotsOfAll) (pc := 13) dX2_dotsOfAll_13 0 rfl rfl ?_
  refine V_getf 2 (κ := KX2_dotsOfAll) (pc := 14) rfl (by decide) rfl inX2 2 (by decide) wd_78 rfl (t := 2) rfl dX2_dotsOfAll_14 fun t102 => ?_
  refine V_iload_n (κ := KX2_dotsOfAll) (pc := 17) dX2_dotsOfAll_17 3 rfl ?_
  refine V_iaload (κ := KX2_dotsOfAll) (pc := 18) dX2_dotsOfAll_18 fun t103 => ?_
  refine V_iadd (κ := KX2_dotsOfAll) (pc := 19) dX2_dotsOfAll_19 ?_
  refine V_LT fun x104 => ?_
  refine V_istore_n (κ := KX2_dotsOfAll) (pc := 20) (lv' := [(2, (0, x104)), (0, (2, x0)), (1, (2, x1)), (3, (0, x3))]) dX2_dotsOfAll_20 (by decide) rfl ?_
  refine V_iinc (κ := KX2_dotsOfAll) (pc := 21) (lv' := [(3, (0, w32 (x3 + 1))), (2, (0, x104)), (0, (2, x0)), (1, (2, x1))]) dX2_dotsOfAll_21 3 rfl (by decide) rfl ?_
  refine V_goto (κ := KX2_dotsOfAll) (pc := 24) (tgt := 4) dX2_dotsOfAll_24 rfl ?_
  refine V_sub (lv' := [(0, (2, x0)), (1, (2, x1)), (2, (0, x104)), (3, (0, w32 (x3 + 1)))]) [2, 3, 1, 0] rfl ?_
  exact hk4 _ _ _ _ _
theorem VLX2_dotsOfAll_4 {Γ : Gam} : ∀ (n : Nat) (x0 x1 x2 x3 : Int) (μ : Mem), V Γ KX2_dotsOfAll 4 [(0, (2, x0)), (1, (2, x1)), (2, (0, x2)), (3, (0, x3))] [] μ (LX2_dotsOfAll_4 n x0 x1 x2 x3 μ)
  | 0, _, _, _, _, _ => V_none
  | n + 1, x0, x1, x2, x3, μ => VBX2_dotsOfAll_4 (fun y0 y1 y2 y3 ν => VLX2_dotsOfAll_4 n y0 y1 y2 y3 ν) x0 x1 x2 x3 μ
theorem VBX2_dotsOfAll_0 {Γ : Gam} (x0 x1 : Int) (μ : Mem) : V Γ KX2_dotsOfAll 0 [(0, (2, x0)), (1, (2, x1))] [] μ (BX2_dotsOfAll_0 x0 x1 μ) := by
  unfold BX2_dotsOfAll_0
  refine V_iconst (κ := KX2_dotsOfAll) (pc := 0) dX2_dotsOfAll_0 ⟨by decide, by decide⟩ ?_
  refine V_istore_n (κ := KX2_dotsOfAll) (pc := 1) (lv' := [(2, (0, 0)), (0, (2, x0)), (1, (2, x1))]) dX2_dotsOfAll_1 (by decide) rfl ?_
  refine V_iconst (κ := KX2_dotsOfAll) (pc := 2) dX2_dotsOfAll_2 ⟨by decide, by decide⟩ ?_
  refine V_istore_n (κ := KX2_dotsOfAll) (pc := 3) (lv' := [(3, (0, 0)), (2, (0, 0)), (0, (2, x0)), (1, (2, x1))]) dX2_dotsOfAll_3 (by decide) rfl ?_
  refine V_sub (lv' := [(0, (2, x0)), (1, (2, x1)), (2, (0, 0)), (3, (0, 0))]) [2, 3, 1, 0] rfl ?_
  exact VLX2_dotsOfAll_4 FU _ _ _ _ _
theorem con_X2_dotsOfAll (a0 a1 : Int) (μ : Mem) : Con (1) yX2_dotsOfAll (.code yX2_dotsOfAll cX2_dotsOfAll 4 (some .int)) 0 [(2, a0), (2, a1)] μ (FX2_dotsOfAll a0 a1 μ) := Con_intro KX2_dotsOfAll (plainFor_of_name (by decide)) rfl (fun h => by cases h) (by decide) rfl (Nat.le_of_ble_eq_true rfl) (fun Γ => VBX2_dotsOfAll_0 _ _ _)
abbrev KX5_cleanedOfAll : Kap := (RX5, cX5_cleanedOfAll, 3, 5, 0, (some .int), false, [])
theorem VBX5_cleanedOfAll_4 {Γ : Gam} {k4 : Int → Int → Int → Mem → Rz} (hk4 : ∀ (y0 y1 y2 : Int) (ν : Mem), V Γ KX5_cleanedOfAll 4 [(0, (2, y0)), (1, (0, y1)), (2, (0, y2))] [] ν (k4 y0 y1 y2 ν)) (x0 x1 x2 : Int) (μ : Mem) : V Γ KX5_cleanedOfAll 4 [(0, (2, x0)), (1, (0, x1)), (2, (0, x2))] [] μ (BX5_cleanedOfAll_4 k4 x0 x1 x2 μ) := by
  unfold BX5_cleanedOfAll_4
  refine V_iload_n (κ := KX5_cleanedOfAll) (pc := 4) dX5_cleanedOfAll_4 2 rfl ?_
  refine V_aload_n (κ := KX5_cleanedOfAll) (pc := 5) dX5_cleanedOfAll_5 0 rfl rfl ?_
  refine V_callV (ci := 5) (T := TX5) (N := 7) rfl (by decide) (κ := KX5_cleanedOfAll) (pc := 6) (con_X5_cells _ _) mth_X5_cells rfl ⟨wd_439, wd_440⟩ wd_450 (st0 := [(0, x2)]) rfl rfl (by decide) (Nat.le_of_ble_eq_true rfl) dX5_cleanedOfAll_6 (fun _ _ _ h => VX_out rfl (by decide) h) fun t101 u102 => ?_
  refine V_icmp_ge (κ := KX5_cleanedOfAll) (pc := 9) (tgt := 30) dX5_cleanedOfAll_9 rfl ?_ ?_
  · refine V_iload_n (κ := KX5_cleanedOfAll) (pc := 30) dX5_cleanedOfAll_30 1 rfl ?_
    exact V_ireturn (κ := KX5_cleanedOfAll) (pc := 31) rfl rfl dX5_cleanedOfAll_31
  refine V_iload_n (κ := KX5_cleanedOfAll) (pc := 12) dX5_cleanedOfAll_12 1 rfl ?_
  refine V_aload_n (κ := KX5_cleanedOfAll) (pc := 13) dX5_cleanedOfAll_13 0 rfl rfl ?_
  refine V_getf 5 (κ := KX5_cleanedOfAll) (pc := 14) rfl (by decide) rfl inX5 6 (by decide) wd_228 rfl (t := 2) rfl dX5_cleanedOfAll_14 fun t103 => ?_
  refine V_iload_n (κ := KX5_cleanedOfAll) (pc := 17) dX5_cleanedOfAll_17 2 rfl ?_
  refine V_iaload (κ := KX5_cleanedOfAll) (pc := 18) dX5_cleanedOfAll_18 fun t104 => ?_
  refine V_callS (κ := KX5_cleanedOfAll) (pc := 19) (con_J6_bitCount_0f7a4 _ _) mth_J6_bitCount_0f7a4 wd_408 wd_451 (st0 := [(0, x1)]) rfl rfl (by decide) (Nat.le_of_ble_eq_true rfl) dX5_cleanedOfAll_19 (fun _ _ _ h => VX_out rfl (by decide) h) fun t105 u106 => ?_
  refine V_iadd (κ := KX5_cleanedOfAll) (pc := 22) dX5_cleanedOfAll_22 ?_
  refine V_LT fun x107 => ?_
  refine V_istore_n (κ := KX5_cleanedOfAll) (pc := 23) (lv' := [(1, (0, x107)), (0, (2, x0)), (2, (0, x2))]) dX5_cleanedOfAll_23 (by decide) rfl ?_
  refine V_iinc (κ := KX5_cleanedOfAll) (pc := 24) (lv' := [(2, (0, w32 (x2 + 1))), (1, (0, x107)), (0, (2, x0))]) dX5_cleanedOfAll_24 2 rfl (by decide) rfl ?_
  refine V_goto (κ := KX5_cleanedOfAll) (pc := 27) (tgt := 4) dX5_cleanedOfAll_27 rfl ?_
  refine V_sub (lv' := [(0, (2, x0)), (1, (0, x107)), (2, (0, w32 (x2 + 1)))]) [2, 1, 0] rfl ?_
  exact hk4 _ _ _ _
theorem VLX5_cleanedOfAll_4 {Γ : Gam} : ∀ (n : Nat) (x0 x1 x2 : Int) (μ : Mem), V Γ KX5_cleanedOfAll 4 [(0, (2, x0)), (1, (0, x1)), (2, (0, x2))] [] μ (LX5_cleanedOfAll_4 n x0 x1 x2 μ)
  | 0, _, _, _, _ => V_none
  | n + 1, x0, x1, x2, μ => VBX5_cleanedOfAll_4 (fun y0 y1 y2 ν => VLX5_cleanedOfAll_4 n y0 y1 y2 ν) x0 x1 x2 μ
theorem VBX5_cleanedOfAll_0 {Γ : Gam} (x0 : Int) (μ : Mem) : V Γ KX5_cleanedOfAll 0 [(0, (2, x0))] [] μ (BX5_cleanedOfAll_0 x0 μ) := by
  unfold BX5_cleanedOfAll_0
  refine V_iconst (κ := KX5_cleanedOfAll) (pc := 0) dX5_cleanedOfAll_0 ⟨by decide, by decide⟩ ?_
  refine V_istore_n (κ := KX5_cleanedOfAll) (pc := 1) (lv' := [(1, (0, 0)), (0, (2, x0))]) dX5_cleanedOfAll_1 (by decide) rfl ?_
  refine V_iconst (κ := KX5_cleanedOfAll) (pc := 2) dX5_cleanedOfAll_2 ⟨by decide, by decide⟩ ?_
  refine V_istore_n (κ := KX5_cleanedOfAll) (pc := 3) (lv' := [(2, (0, 0)), (1, (0, 0)), (0, (2, x0))]) dX5_cleanedOfAll_3 (by decide) rfl ?_
  refine V_sub (lv' := [(0, (2, x0)), (1, (0, 0)), (2, (0, 0))]) [2, 1, 0] rfl ?_
  exact VLX5_cleanedOfAll_4 FU _ _ _ _
theorem con_X5_cleanedOfAll (a0 : Int) (μ : Mem) : Con (5) yX5_cleanedOfAll (.code yX5_cleanedOfAll cX5_cleanedOfAll 3 (some .int)) 0 [(2, a0)] μ (FX5_cleanedOfAll a0 μ) := Con_intro KX5_cleanedOfAll (plainFor_of_name (by decide)) rfl (fun h => by cases h) (by decide) rfl (Nat.le_of_ble_eq_true rfl) (fun Γ => VBX5_cleanedOfAll_0 _ _)
abbrev KX6_sumOfTones : Kap := (RX6, cX6_sumOfTones, 4, 1, 0, (some .int), false, [])
theorem VBX6_sumOfTones_27 {Γ : Gam} (x2 : Int) (μ : Mem) : V Γ KX6_sumOfTones 27 [(2, (0, x2))] [] μ (BX6_sumOfTones_27 x2 μ) := by
  unfold BX6_sumOfTones_27
  refine V_iload_n (κ := KX6_sumOfTones) (pc := 27) dX6_sumOfTones_27 0 rfl ?_
  exact V_ireturn (κ := KX6_sumOfTones) (pc := 28) rfl rfl dX6_sumOfTones_28
theorem VBX6_sumOfTones_4 {Γ : Gam} {k4 : Int → Int → Int → Int → Mem → Rz} (hk4 : ∀ (y0 y1 y2 y3 : Int) (ν : Mem), V Γ KX6_sumOfTones 4 [(0, (2, y0)), (1, (0, y1)), (2, (0, y2)), (3, (0, y3))] [] ν (k4 y0 y1 y2 y3 ν)) (x0 x1 x2 x3 : Int) (μ : Mem) : V Γ KX6_sumOfTones 4 [(0, (2, x0)), (1, (0, x1)), (2, (0, x2)), (3, (0, x3))] [] μ (BX6_sumOfTones_4 k4 x0 x1 x2 x3 μ) := by
  unfold BX6_sumOfTones_4
  refine V_iload_n (κ := KX6_sumOfTones) (pc := 4) dX6_sumOfTones_4 3 rfl ?_
  refine V_iload_n (κ := KX6_sumOfTones) (pc := 5) dX6_sumOfTones_5 1 rfl ?_
  refine V_icmp_ge (κ := KX6_sumOfTones) (pc := 6) (tgt := 27) dX6_sumOfTones_6 rfl ?_ ?_
  · refine V_sub (lv' := [(2, (0, x2))]) [2] rfl ?_
    exact VBX6_sumOfTones_27 _ _
  refine V_iload_n (κ := KX6_sumOfTones) (pc := 9) dX6_sumOfTones_9 3 rfl ?_
  refine V_aload_n (κ := KX6_sumOfTones) (pc := 10) dX6_sumOfTones_10 0 rfl rfl ?_
  refine V_alen 1 (by decide) (κ := KX6_sumOfTones) (pc := 11) dX6_sumOfTones_11 fun t101 => ?_
  refine V_icmp_ge (κ := KX6_sumOfTones) (pc := 12) (tgt := 27) dX6_sumOfTones_12 rfl ?_ ?_
  · refine V_sub (lv' := [(2, (0, x2))]) [2] rfl ?_
    exact VBX6_sumOfTones_27 _ _
  refine V_iload_n (κ := KX6_sumOfTones) (pc := 15) dX6_sumOfTones_15 2 rfl ?_
  refine V_aload_n (κ := KX6_sumOfTones) (pc := 16) dX6_sumOfTones_16 0 rfl rfl ?_
  refine V_iload_n (κ := KX6_sumOfTones) (pc := 17) dX6_sumOfTones_17 3 rfl ?_
  refine V_iaload (κ := KX6_sumOfTones) (pc := 18) dX6_sumOfTones_18 fun t102 => ?_
  refine V_iadd (κ := KX6_sumOfTones) (pc := 19) dX6_sumOfTones_19 ?_
  refine V_LT fun x103 => ?_
  refine V_istore_n (κ := KX6_sumOfTones) (pc := 20) (lv' := [(2, (0, x103)), (0, (2, x0)), (1, (0, x1)), (3, (0, x3))]) dX6_sumOfTones_20 (by decide) rfl ?_
  refine V_iinc (κ := KX6_sumOfTones) (pc := 21) (lv' := [(3, (0, w32 (x3 + 1))), (2, (0, x103)), (0, (2, x0)), (1, (0, x1))]) dX6_sumOfTones_21 3 rfl (by decide) rfl ?_
  refine V_goto (κ := KX6_sumOfTones) (pc := 24) (tgt := 4) dX6_sumOfTones_24 rfl ?_
  refine V_sub (lv' := [(0, (2, x0)), (1, (0, x1)), (2, (0, x103)), (3, (0, w32 (x3 + 1)))]) [2, 3, 1, 0] rfl ?_
  exact hk4 _ _ _ _ _
theorem VLX6_sumOfTones_4 {Γ : Gam} : ∀ (n : Nat) (x0 x1 x2 x3 : Int) (μ : Mem), V Γ KX6_sumOfTones 4 [(0, (2, x0)), (1, (0, x1)), (2, (0, x2)), (3, (0, x3))] [] μ (LX6_sumOfTones_4 n x0 x1 x2 x3 μ)
  | 0, _, _, _, _, _ => V_none
  | n + 1, x0, x1, x2, x3, μ => VBX6_sumOfTones_4 (fun y0 y1 y2 y3 ν => VLX6_sumOfTones_4 n y0 y1 y2 y3 ν) x0 x1 x2 x3 μ
theorem VBX6_sumOfTones_0 {Γ : Gam} (x0 x1 : Int) (μ : Mem) : V Γ KX6_sumOfTones 0 [(0, (2, x0)), (1, (0, x1))] [] μ (BX6_sumOfTones_0 x0 x1 μ) := by
  unfold BX6_sumOfTones_0
  refine V_iconst (κ := KX6_sumOfTones) (pc := 0) dX6_sumOfTones_0 ⟨by decide, by decide⟩ ?_
  refine V_istore_n (κ := KX6_sumOfTones) (pc := 1) (lv' := [(2, (0, 0)), (0, (2, x0)), (1, (0, x1))]) dX6_sumOfTones_1 (by decide) rfl ?_
  refine V_iconst (κ := KX6_sumOfTones) (pc := 2) dX6_sumOfTones_2 ⟨by decide, by decide⟩ ?_
  refine V_istore_n (κ := KX6_sumOfTones) (pc := 3) (lv' := [(3, (0, 0)), (2, (0, 0)), (0, (2, x0)), (1, (0, x1))]) dX6_sumOfTones_3 (by decide) rfl ?_
  refine V_sub (lv' := [(0, (2, x0)), (1, (0, x1)), (2, (0, 0)), (3, (0, 0))]) [2, 3, 1, 0] rfl ?_
  exact VLX6_sumOfTones_4 FU _ _ _ _ _
theorem con_X6_sumOfTones (a0 a1 : Int) (μ : Mem) : Con (1) yX6_sumOfTones (.code yX6_sumOfTones cX6_sumOfTones 4 (some .int)) 0 [(2, a0), (0, a1)] μ (FX6_sumOfTones a0 a1 μ) := Con_intro KX6_sumOfTones (plainFor_of_name (by decide)) rfl (fun h => by cases h) (by decide) rfl (Nat.le_of_ble_eq_true rfl) (fun Γ => VBX6_sumOfTones_0 _ _ _)
abbrev KX6_state : Kap := (RX6, cX6_state, 2, 10, 0, (some .int), false, [])
theorem VBX6_state_10 {Γ : Gam} (μ : Mem) : V Γ KX6_state 10 [] [] μ (BX6_state_10 μ) := by
  unfold BX6_state_10
  exact V_throw (κ := KX6_state) (pc := 10) 2 (by decide) rfl thr_2 (tx := "what is 0 to 8") (by decide) rfl (by decide) (by decide) dX6_state_10 dX6_state_13 dX6_state_14 dX6_state_16 dX6_state_19
theorem VBX6_state_169 {Γ : Gam} (s0 : Int) (μ : Mem) : V Γ KX6_state 169 [] [(0, s0)] μ (BX6_state_169 s0 μ) := by
  unfold BX6_state_169
  exact V_ireturn (κ := KX6_state) (pc := 169) rfl rfl dX6_state_169
theorem VBX6_state_0 {Γ : Gam} (x0 x1 : Int) (μ : Mem) : V Γ KX6_state 0 [(0, (2, x0)), (1, (0, x1))] [] μ (BX6_state_0 x0 x1 μ) := by
  unfold BX6_state_0
  refine V_iload_n (κ := KX6_state) (pc := 0) dX6_state_0 1 rfl ?_
  refine V_if_lt (κ := KX6_state) (pc := 1) (tgt := 10) dX6_state_1 rfl ?_ ?_
  · refine V_sub (lv' := []) [] rfl ?_
    exact VBX6_state_10 _
  refine V_iload_n (κ := KX6_state) (pc := 4) dX6_state_4 1 rfl ?_
  refine V_bipush (κ := KX6_state) (pc := 5) dX6_state_5 ⟨by decide, by decide⟩ (by decide) ?_
  refine V_icmp_le (κ := KX6_state) (pc := 7) (tgt := 20) dX6_state_7 rfl ?_ ?_
  · refine V_aload_n (κ := KX6_state) (pc := 20) dX6_state_20 0 rfl rfl ?_
    refine V_getf 6 (κ := KX6_state) (pc := 21) rfl (by decide) rfl inX6 7 (by decide) wd_251 rfl (t := 2) rfl dX6_state_21 fun t101 => ?_
    refine V_aload_n (κ := KX6_state) (pc := 24) dX6_state_24 0 rfl rfl ?_
    refine V_getf 6 (κ := KX6_state) (pc := 25) rfl (by decide) rfl inX6 6 (by decide) wd_250 rfl (t := 2) rfl dX6_state_25 fun t102 => ?_
    refine V_callV (ci := 2) (T := TX2) (N := 8) rfl (by decide) (κ := KX6_state) (pc := 28) (con_X2_update _ _ _) mth_X2_update rfl ⟨wd_343, wd_344⟩ wd_342 (st0 := []) rfl rfl (by decide) (Nat.le_of_ble_eq_true rfl) dX6_state_28 (fun _ _ _ h => VX_out rfl (by decide) h) fun _ u104 => ?_
    refine V_iload_n (κ := KX6_state) (pc := 31) dX6_state_31 1 rfl ?_
    refine V_tsw (κ := KX6_state) (pc := 32) (os := [48, 56, 64, 72, 80, 92, 105, 138]) (tgt := 188) dX6_state_32 rfl rfl ?_ ⟨⟨80, rfl, ?_⟩, ⟨88, rfl, ?_⟩, ⟨96, rfl, ?_⟩, ⟨104, rfl, ?_⟩, ⟨112, rfl, ?_⟩, ⟨124, rfl, ?_⟩, ⟨137, rfl, ?_⟩, ⟨170, rfl, ?_⟩, trivial⟩
    · refine V_aload_n (κ := KX6_state) (pc := 188) dX6_state_188 0 rfl rfl ?_
      refine V_getf 6 (κ := KX6_state) (pc := 189) rfl (by decide) rfl inX6 6 (by decide) wd_250 rfl (t := 2) rfl dX6_state_189 fun t105 => ?_
      refine V_callV (ci := 5) (T := TX5) (N := 7) rfl (by decide) (κ := KX6_state) (pc := 192) (con_X5_cleanedOfAll _ _) mth_X5_cleanedOfAll rfl ⟨wd_447, wd_448⟩ wd_446 (st0 := []) rfl rfl (by decide) (Nat.le_of_ble_eq_true rfl) dX6_state_192 (fun _ _ _ h => VX_out rfl (by decide) h) fun t106 u107 => ?_
      exact V_ireturn (κ := KX6_state) (pc := 195) rfl rfl dX6_state_195
    · refine V_aload_n (κ := KX6_state) (pc := 80) dX6_state_80 0 rfl rfl ?_
      refine V_getf 6 (κ := KX6_state) (pc := 81) rfl (by decide) rfl inX6 6 (by decide) wd_250 rfl (t := 2) rfl dX6_state_81 fun t108 => ?_
      refine V_getf 5 (κ := KX6_state) (pc := 84) rfl (by decide) rfl inX5 0 (by decide) wd_207 rfl (t := 0) rfl dX6_state_84 fun t109 => ?_
      exact V_ireturn (κ := KX6_state) (pc := 87) rfl rfl dX6_state_87
    · refine V_aload_n (κ := KX6_state) (pc := 88) dX6_state_88 0 rfl rfl ?_
      refine V_getf 6 (κ := KX6_state) (pc := 89) rfl (by decide) rfl inX6 6 (by decide) wd_250 rfl (t := 2) rfl dX6_state_89 fun t110 => ?_
      refine V_getf 5 (κ := KX6_state) (pc := 92) rfl (by decide) rfl inX5 1 (by decide) wd_211 rfl (t := 0) rfl dX6_state_92 fun t111 => ?_
      exact V_ireturn (κ := KX6_state) (pc := 95) rfl rfl dX6_state_95
    · refine V_aload_n (κ := KX6_state) (pc := 96) dX6_state_96 0 rfl rfl ?_
      refine V_getf 6 (κ := KX6_state) (pc := 97) rfl (by decide) rfl inX6 6 (by decide) wd_250 rfl (t := 2) rfl dX6_state_97 fun t112 => ?_
      refine V_getf 5 (κ := KX6_state) (pc := 100) rfl (by decide) rfl inX5 3 (by decide) wd_217 rfl (t := 0) rfl dX6_state_100 fun t113 => ?_
      exact V_ireturn (κ := KX6_state) (pc := 103) rfl rfl dX6_state_103
    · refine V_aload_n (κ := KX6_state) (pc := 104) dX6_state_104 0 rfl rfl ?_
      refine V_getf 6 (κ := KX6_state) (pc := 105) rfl (by decide) rfl inX6 6 (by decide) wd_250 rfl (t := 2) rfl dX6_state_105 fun t114 => ?_
      refine V_getf 5 (κ := KX6_state) (pc := 108) rfl (by decide) rfl inX5 2 (by decide) wd_213 rfl (t := 0) rfl dX6_state_108 fun t115 => ?_
      exact V_ireturn (κ := KX6_state) (pc := 111) rfl rfl dX6_state_111
    · refine V_aload_n (κ := KX6_state) (pc := 112) dX6_state_112 0 rfl rfl ?_
      refine V_getf 6 (κ := KX6_state) (pc := 113) rfl (by decide) rfl inX6 7 (by decide) wd_251 rfl (t := 2) rfl dX6_state_113 fun t116 => ?_
      refine V_aload_n (κ := KX6_state) (pc := 116) dX6_state_116 0 rfl rfl ?_
      refine V_getf 6 (κ := KX6_state) (pc := 117) rfl (by decide) rfl inX6 6 (by decide) wd_250 rfl (t := 2) rfl dX6_state_117 fun t117 => ?_
      refine V_callV (ci := 2) (T := TX2) (N := 8) rfl (by decide) (κ := KX6_state) (pc := 120) (con_X2_dotsOfAll _ _ _) mth_X2_dotsOfAll rfl ⟨wd_431, wd_432⟩ wd_430 (st0 := []) rfl rfl (by decide) (Nat.le_of_ble_eq_true rfl) dX6_state_120 (fun _ _ _ h => VX_out rfl (by decide) h) fun t118 u119 => ?_
      exact V_ireturn (κ := KX6_state) (pc := 123) rfl rfl dX6_state_123
    · refine V_aload_n (κ := KX6_state) (pc := 124) dX6_state_124 0 rfl rfl ?_
      refine V_getf 6 (κ := KX6_state) (pc := 125) rfl (by decide) rfl inX6 7 (by decide) wd_251 rfl (t := 2) rfl dX6_state_125 fun t120 => ?_
      refine V_aload_n (κ := KX6_state) (pc := 128) dX6_state_128 0 rfl rfl ?_
      refine V_getf 6 (κ := KX6_state) (pc := 129) rfl (by decide) rfl inX6 6 (by decide) wd_250 rfl (t := 2) rfl dX6_state_129 fun t121 => ?_
      refine V_iconst (κ := KX6_state) (pc := 132) dX6_state_132 ⟨by decide, by decide⟩ ?_
      refine V_callV (ci := 2) (T := TX2) (N := 8) rfl (by decide) (κ := KX6_state) (pc := 133) (con_X2_cellsHaving _ _ _ _) mth_X2_cellsHaving rfl ⟨wd_435, wd_436⟩ wd_434 (st0 := []) rfl rfl (by decide) (Nat.le_of_ble_eq_true rfl) dX6_state_133 (fun _ _ _ h => VX_out rfl (by decide) h) fun t122 u123 => ?_
      exact V_ireturn (κ := KX6_state) (pc := 136) rfl rfl dX6_state_136
    · refine V_aload_n (κ := KX6_state) (pc := 137) dX6_state_137 0 rfl rfl ?_
      refine V_getf 6 (κ := KX6_state) (pc := 138) rfl (by decide) rfl inX6 6 (by decide) wd_250 rfl (t := 2) rfl dX6_state_138 fun t124 => ?_
      refine V_getf 5 (κ := KX6_state) (pc := 141) rfl (by decide) rfl inX5 3 (by decide) wd_217 rfl (t := 0) rfl dX6_state_141 fun t125 => ?_
      refine V_if_ne (κ := KX6_state) (pc := 144) (tgt := 151) dX6_state_144 rfl ?_ ?_
      · refine V_aload_n (κ := KX6_state) (pc := 151) dX6_state_151 0 rfl rfl ?_
        refine V_getf 6 (κ := KX6_state) (pc := 152) rfl (by decide) rfl inX6 7 (by decide) wd_251 rfl (t := 2) rfl dX6_state_152 fun t126 => ?_
        refine V_aload_n (κ := KX6_state) (pc := 155) dX6_state_155 0 rfl rfl ?_
        refine V_getf 6 (κ := KX6_state) (pc := 156) rfl (by decide) rfl inX6 6 (by decide) wd_250 rfl (t := 2) rfl dX6_state_156 fun t127 => ?_
        refine V_aload_n (κ := KX6_state) (pc := 159) dX6_state_159 0 rfl rfl ?_
        refine V_getf 6 (κ := KX6_state) (pc := 160) rfl (by decide) rfl inX6 6 (by decide) wd_250 rfl (t := 2) rfl dX6_state_160 fun t128 => ?_
        refine V_getf 5 (κ := KX6_state) (pc := 163) rfl (by decide) rfl inX5 3 (by decide) wd_217 rfl (t := 0) rfl dX6_state_163 fun t129 => ?_
        refine V_callV (ci := 2) (T := TX2) (N := 8) rfl (by decide) (κ := KX6_state) (pc := 166) (con_X2_cellsHaving _ _ _ _) mth_X2_cellsHaving rfl ⟨wd_435, wd_436⟩ wd_434 (st0 := []) rfl rfl (by decide) (Nat.le_of_ble_eq_true rfl) dX6_state_166 (fun _ _ _ h => VX_out rfl (by decide) h) fun t130 u131 => ?_
        refine V_sub (lv' := []) [] rfl ?_
        exact VBX6_state_169 _ _
      refine V_iconst (κ := KX6_state) (pc := 147) dX6_state_147 ⟨by decide, by decide⟩ ?_
      refine V_goto (κ := KX6_state) (pc := 148) (tgt := 169) dX6_state_148 rfl ?_
      refine V_sub (lv' := []) [] rfl ?_
      exact VBX6_state_169 _ _
    · refine V_aload_n (κ := KX6_state) (pc := 170) dX6_state_170 0 rfl rfl ?_
      refine V_getf 6 (κ := KX6_state) (pc := 171) rfl (by decide) rfl inX6 6 (by decide) wd_250 rfl (t := 2) rfl dX6_state_171 fun t132 => ?_
      refine V_getf 5 (κ := KX6_state) (pc := 174) rfl (by decide) rfl inX5 5 (by decide) wd_227 rfl (t := 2) rfl dX6_state_174 fun t133 => ?_
      refine V_aload_n (κ := KX6_state) (pc := 177) dX6_state_177 0 rfl rfl ?_
      refine V_getf 6 (κ := KX6_state) (pc := 178) rfl (by decide) rfl inX6 6 (by decide) wd_250 rfl (t := 2) rfl dX6_state_178 fun t134 => ?_
      refine V_callV (ci := 5) (T := TX5) (N := 7) rfl (by decide) (κ := KX6_state) (pc := 181) (con_X5_cells _ _) mth_X5_cells rfl ⟨wd_439, wd_440⟩ wd_442 (st0 := [(2, t133)]) rfl rfl (by decide) (Nat.le_of_ble_eq_true rfl) dX6_state_181 (fun _ _ _ h => VX_out rfl (by decide) h) fun t135 u136 => ?_
      refine V_callS (κ := KX6_state) (pc := 184) (con_X6_sumOfTones _ _ _) mth_X6_sumOfTones wd_444 wd_443 (st0 := []) rfl rfl (by decide) (Nat.le_of_ble_eq_true rfl) dX6_state_184 (fun _ _ _ h => VX_out rfl (by decide) h) fun t137 u138 => ?_
      exact V_ireturn (κ := KX6_state) (pc := 187) rfl rfl dX6_state_187
  refine V_sub (lv' := []) [] rfl ?_
  exact VBX6_state_10 _
theorem con_X6_state (a0 a1 : Int) (μ : Mem) : Con (10) yX6_state (.code yX6_state cX6_state 2 (some .int)) 0 [(2, a0), (0, a1)] μ (FX6_state a0 a1 μ) := Con_intro KX6_state (plainFor_of_name (by decide)) rfl (fun h => by cases h) (by decide) rfl (Nat.le_of_ble_eq_true rfl) (fun Γ => VBX6_state_0 _ _ _)
abbrev KX6_tone : Kap := (RX6, cX6_tone, 3, 7, 0, (some .int), false, [])
theorem VBX6_tone_0 {Γ : Gam} (x0 x1 x2 : Int) (μ : Mem) : V Γ KX6_tone 0 [(0, (2, x0)), (1, (0, x1)), (2, (0, x2))] [] μ (BX6_tone_0 x0 x1 x2 μ) := by
  unfold BX6_tone_0
  refine V_aload_n (κ := KX6_tone) (pc := 0) dX6_tone_0 0 rfl rfl ?_
  refine V_iload_n (κ := KX6_tone) (pc := 1) dX6_tone_1 1 rfl ?_
  refine V_iload_n (κ := KX6_tone) (pc := 2) dX6_tone_2 2 rfl ?_
  refine V_callV (ci := 6) (T := TX6) (N := 9) rfl (by decide) (κ := KX6_tone) (pc := 3) (con_X6_requireCell _ _ _ _) mth_X6_requireCell rfl ⟨wd_458, wp_4⟩ wd_456 (st0 := []) rfl rfl (by decide) (Nat.le_of_ble_eq_true rfl) dX6_tone_3 (fun _ _ _ h => VX_out rfl (by decide) h) fun _ u102 => ?_
  refine V_aload_n (κ := KX6_tone) (pc := 6) dX6_tone_6 0 rfl rfl ?_
  refine V_getf 6 (κ := KX6_tone) (pc := 7) rfl (by decide) rfl inX6 6 (by decide) wd_250 rfl (t := 2) rfl dX6_tone_7 fun t103 => ?_
  refine V_getf 5 (κ := KX6_tone) (pc := 10) rfl (by decide) rfl inX5 5 (by decide) wd_227 rfl (t := 2) rfl dX6_tone_10 fun t104 => ?_
  refine V_aload_n (κ := KX6_tone) (pc := 13) dX6_tone_13 0 rfl rfl ?_
  refine V_getf 6 (κ := KX6_tone) (pc := 14) rfl (by decide) rfl inX6 6 (by decide) wd_250 rfl (t := 2) rfl dX6_tone_14 fun t105 => ?_
  refine V_iload_n (κ := KX6_tone) (pc := 17) dX6_tone_17 1 rfl ?_
  refine V_iload_n (κ := KX6_tone) (pc := 18) dX6_tone_18 2 rfl ?_
  refine V_callV (ci := 5) (T := TX5) (N := 7) rfl (by decide) (κ := KX6_tone) (pc := 19) (con_X5_indexOfCell _ _ _ _) mth_X5_indexOfCell rfl ⟨wd_351, wd_352⟩ wd_508 (st0 := [(2, t104)]) rfl rfl (by decide) (Nat.le_of_ble_eq_true rfl) dX6_tone_19 (fun _ _ _ h => VX_out rfl (by decide) h) fun t106 u107 => ?_
  refine V_iaload (κ := KX6_tone) (pc := 22) dX6_tone_22 fun t108 => ?_
  exact V_ireturn (κ := KX6_tone) (pc := 23) rfl rfl dX6_tone_23
theorem con_X6_tone (a0 a1 a2 : Int) (μ : Mem) : Con (7) yX6_tone (.code yX6_tone cX6_tone 3 (some .int)) 0 [(2, a0), (0, a1), (0, a2)] μ (FX6_tone a0 a1 a2 μ) := Con_intro KX6_tone (plainFor_of_name (by decide)) rfl (fun h => by cases h) (by decide) rfl (Nat.le_of_ble_eq_true rfl) (fun Γ => VBX6_tone_0 _ _ _ _)
abbrev KX6_why : Kap := (RX6, cX6_why, 5, 10, 0, (some .int), false, [])
theorem VBX6_why_85 {Γ : Gam} (s0 : Int) (μ : Mem) : V Γ KX6_why 85 [] [(0, s0)] μ (BX6_why_85 s0 μ) := by
  unfold BX6_why_85
  exact V_ireturn (κ := KX6_why) (pc := 85) rfl rfl dX6_why_85
theorem VBX6_why_0 {Γ : Gam} (x0 x1 x2 x3 : Int) (μ : Mem) : V Γ KX6_why 0 [(0, (2, x0)), (1, (0, x1)), (2, (0, x2)), (3, (0, x3))] [] μ (BX6_why_0 x0 x1 x2 x3 μ) := by
  unfold BX6_why_0
  refine V_aload_n (κ := KX6_why) (pc := 0) dX6_why_0 0 rfl rfl ?_
  refine V_iload_n (κ := KX6_why) (pc := 1) dX6_why_1 1 rfl ?_
  refine V_callV (ci := 6) (T := TX6) (N := 9) rfl (by decide) (κ := KX6_why) (pc := 2) (con_X6_requirePlate _ _ _) mth_X6_requirePlate rfl ⟨wd_519, wp_8⟩ wd_517 (st0 := []) rfl rfl (by decide) (Nat.le_of_ble_eq_true rfl) dX6_why_2 (fun _ _ _ h => VX_out rfl (by decide) h) fun _ u102 => ?_
  refine V_aload_n (κ := KX6_why) (pc := 5) dX6_why_5 0 rfl rfl ?_
  refine V_iload_n (κ := KX6_why) (pc := 6) dX6_why_6 2 rfl ?_
  refine V_iload_n (κ := KX6_why) (pc := 7) dX6_why_7 3 rfl ?_
  refine V_callV (ci := 6) (T := TX6) (N := 9) rfl (by decide) (κ := KX6_why) (pc := 8) (con_X6_requireCell _ _ _ _) mth_X6_requireCell rfl ⟨wd_458, wp_4⟩ wd_456 (st0 := []) rfl rfl (by decide) (Nat.le_of_ble_eq_true rfl) dX6_why_8 (fun _ _ _ h => VX_out rfl (by decide) h) fun _ u104 => ?_
  refine V_aload_n (κ := KX6_why) (pc := 11) dX6_why_11 0 rfl rfl ?_
  refine V_getf 6 (κ := KX6_why) (pc := 12) rfl (by decide) rfl inX6 7 (by decide) wd_251 rfl (t := 2) rfl dX6_why_12 fun t105 => ?_
  refine V_aload_n (κ := KX6_why) (pc := 15) dX6_why_15 0 rfl rfl ?_
  refine V_getf 6 (κ := KX6_why) (pc := 16) rfl (by decide) rfl inX6 6 (by decide) wd_250 rfl (t := 2) rfl dX6_why_16 fun t106 => ?_
  refine V_callV (ci := 2) (T := TX2) (N := 8) rfl (by decide) (κ := KX6_why) (pc := 19) (con_X2_update _ _ _) mth_X2_update rfl ⟨wd_343, wd_344⟩ wd_342 (st0 := []) rfl rfl (by decide) (Nat.le_of_ble_eq_true rfl) dX6_why_19 (fun _ _ _ h => VX_out rfl (by decide) h) fun _ u108 => ?_
  refine V_aload_n (κ := KX6_why) (pc := 22) dX6_why_22 0 rfl rfl ?_
  refine V_getf 6 (κ := KX6_why) (pc := 23) rfl (by decide) rfl inX6 6 (by decide) wd_250 rfl (t := 2) rfl dX6_why_23 fun t109 => ?_
  refine V_iload_n (κ := KX6_why) (pc := 26) dX6_why_26 2 rfl ?_
  refine V_iload_n (κ := KX6_why) (pc := 27) dX6_why_27 3 rfl ?_
  refine V_callV (ci := 5) (T := TX5) (N := 7) rfl (by decide) (κ := KX6_why) (pc := 28) (con_X5_indexOfCell _ _ _ _) mth_X5_indexOfCell rfl ⟨wd_351, wd_352⟩ wd_508 (st0 := []) rfl rfl (by decide) (Nat.le_of_ble_eq_true rfl) dX6_why_28 (fun _ _ _ h => VX_out rfl (by decide) h) fun t110 u111 => ?_
  refine V_istore (κ := KX6_why) (pc := 31) (lv' := [(4, (0, t110)), (0, (2, x0)), (1, (0, x1)), (2, (0, x2)), (3, (0, x3))]) dX6_why_31 (by decide) rfl ?_
  refine V_aload_n (κ := KX6_why) (pc := 33) dX6_why_33 1 rfl rfl ?_
  refine V_getf 6 (κ := KX6_why) (pc := 34) rfl (by decide) rfl inX6 7 (by decide) wd_251 rfl (t := 2) rfl dX6_why_34 fun t112 => ?_
  refine V_iload_n (κ := KX6_why) (pc := 37) dX6_why_37 2 rfl ?_
  refine V_iload (κ := KX6_why) (pc := 38) dX6_why_38 0 rfl ?_
  refine V_callV (ci := 2) (T := TX2) (N := 8) rfl (by decide) (κ := KX6_why) (pc := 40) (con_X2_hasDot _ _ _ _) mth_X2_hasDot rfl ⟨wd_946, wd_947⟩ wd_945 (st0 := []) rfl rfl (by decide) (Nat.le_of_ble_eq_true rfl) dX6_why_40 (fun _ _ _ h => VX_out rfl (by decide) h) fun t113 u114 => ?_
  refine V_if_eq (κ := KX6_why) (pc := 43) (tgt := 48) dX6_why_43 rfl ?_ ?_
  · refine V_aload_n (κ := KX6_why) (pc := 48) dX6_why_48 1 rfl rfl ?_
    refine V_getf 6 (κ := KX6_why) (pc := 49) rfl (by decide) rfl inX6 6 (by decide) wd_250 rfl (t := 2) rfl dX6_why_49 fun t115 => ?_
    refine V_iload_n (κ := KX6_why) (pc := 52) dX6_why_52 2 rfl ?_
    refine V_iload (κ := KX6_why) (pc := 53) dX6_why_53 0 rfl ?_
    refine V_callV (ci := 5) (T := TX5) (N := 7) rfl (by decide) (κ := KX6_why) (pc := 55) (con_X5_isCleaned _ _ _ _) mth_X5_isCleaned rfl ⟨wd_414, wd_415⟩ wd_958 (st0 := []) rfl rfl (by decide) (Nat.le_of_ble_eq_true rfl) dX6_why_55 (fun _ _ _ h => VX_out rfl (by decide) h) fun t116 u117 => ?_
    refine V_if_eq (κ := KX6_why) (pc := 58) (tgt := 63) dX6_why_58 rfl ?_ ?_
    · refine V_aload_n (κ := KX6_why) (pc := 63) dX6_why_63 1 rfl rfl ?_
      refine V_getf 6 (κ := KX6_why) (pc := 64) rfl (by decide) rfl inX6 7 (by decide) wd_251 rfl (t := 2) rfl dX6_why_64 fun t118 => ?_
      refine V_aload_n (κ := KX6_why) (pc := 67) dX6_why_67 1 rfl rfl ?_
      refine V_getf 6 (κ := KX6_why) (pc := 68) rfl (by decide) rfl inX6 6 (by decide) wd_250 rfl (t := 2) rfl dX6_why_68 fun t119 => ?_
      refine V_iload_n (κ := KX6_why) (pc := 71) dX6_why_71 2 rfl ?_
      refine V_iload_n (κ := KX6_why) (pc := 72) dX6_why_72 3 rfl ?_
      refine V_iload_n (κ := KX6_why) (pc := 73) dX6_why_73 4 rfl ?_
      refine V_callV (ci := 2) (T := TX2) (N := 8) rfl (by decide) (κ := KX6_why) (pc := 74) (con_X2_isDark _ _ _ _ _ _) mth_X2_isDark rfl ⟨wd_418, wd_419⟩ wd_963 (st0 := []) rfl rfl (by decide) (Nat.le_of_ble_eq_true rfl) dX6_why_74 (fun _ _ _ h => VX_out rfl (by decide) h) fun t120 u121 => ?_
      refine V_if_eq (κ := KX6_why) (pc := 77) (tgt := 84) dX6_why_77 rfl ?_ ?_
      · refine V_iconst (κ := KX6_why) (pc := 84) dX6_why_84 ⟨by decide, by decide⟩ ?_
        refine V_sub (lv' := []) [] rfl ?_
        exact VBX6_why_85 _ _
      refine V_iconst (κ := KX6_why) (pc := 80) dX6_why_80 ⟨by decide, by decide⟩ ?_
      refine V_goto (κ := KX6_why) (pc := 81) (tgt := 85) dX6_why_81 rfl ?_
      refine V_sub (lv' := []) [] rfl ?_
      exact VBX6_why_85 _ _
    refine V_iconst (κ := KX6_why) (pc := 61) dX6_why_61 ⟨by decide, by decide⟩ ?_
    exact V_ireturn (κ := KX6_why) (pc := 62) rfl rfl dX6_why_62
  refine V_iconst (κ := KX6_why) (pc := 46) dX6_why_46 ⟨by decide, by decide⟩ ?_
  exact V_ireturn (κ := KX6_why) (pc := 47) rfl rfl dX6_why_47
theorem con_X6_why (a0 a1 a2 a3 : Int) (μ : Mem) : Con (10) yX6_why (.code yX6_why cX6_why 5 (some .int)) 0 [(2, a0), (0, a1), (0, a2), (0, a3)] μ (FX6_why a0 a1 a2 a3 μ) := Con_intro KX6_why (plainFor_of_name (by decide)) rfl (fun h => by cases h) (by decide) rfl (Nat.le_of_ble_eq_true rfl) (fun Γ => VBX6_why_0 _ _ _ _ _)
abbrev KX6_appendWord : Kap := (RX6, cX6_appendWord, 3, 1, 9, none, false, [])
theorem VBX6_appendWord_46 {Γ : Gam} (μ : Mem) : V Γ KX6_appendWord 46 [] [] μ (BX6_appendWord_46 μ) := by
  unfold BX6_appendWord_46
  exact V_vreturn (κ := KX6_appendWord) (pc := 46) rfl rfl dX6_appendWord_46
theorem VBX6_appendWord_3 {Γ : Gam} {k3 : Int → Int → Int → Mem → Rz} (hk3 : ∀ (y0 y1 y2 : Int) (ν : Mem), V Γ KX6_appendWord 3 [(0, (2, y0)), (1, (0, y1)), (2, (0, y2))] [] ν (k3 y0 y1 y2 ν)) (x0 x1 x2 : Int) (μ : Mem) : V Γ KX6_appendWord 3 [(0, (2, x0)), (1, (0, x1)), (2, (0, x2))] [] μ (BX6_appendWord_3 k3 x0 x1 x2 μ) := by
  unfold BX6_appendWord_3
  refine V_iload_n (κ := KX6_appendWord) (pc := 3) dX6_appendWord_3 2 rfl ?_
  refine V_if_lt (κ := KX6_appendWord) (pc := 4) (tgt := 46) dX6_appendWord_4 rfl ?_ ?_
  · refine V_sub (lv' := []) [] rfl ?_
    exact VBX6_appendWord_46 _
  refine V_aload_n (κ := KX6_appendWord) (pc := 7) dX6_appendWord_7 0 rfl rfl ?_
  refine V_getf 6 (κ := KX6_appendWord) (pc := 8) rfl (by decide) rfl inX6 1 (by decide) wd_245 rfl (t := 0) rfl dX6_appendWord_8 fun t101 => ?_
  refine V_sipush (κ := KX6_appendWord) (pc := 11) dX6_appendWord_11 ⟨by decide, by decide⟩ (by decide) ?_
  refine V_icmp_ge (κ := KX6_appendWord) (pc := 14) (tgt := 46) dX6_appendWord_14 rfl ?_ ?_
  · refine V_sub (lv' := []) [] rfl ?_
    exact VBX6_appendWord_46 _
  refine V_aload_n (κ := KX6_appendWord) (pc := 17) dX6_appendWord_17 0 rfl rfl ?_
  refine V_getf 6 (κ := KX6_appendWord) (pc := 18) rfl (by decide) rfl inX6 0 (by decide) wd_244 rfl (t := 2) rfl dX6_appendWord_18 fun t102 => ?_
  refine V_aload_n (κ := KX6_appendWord) (pc := 21) dX6_appendWord_21 0 rfl rfl ?_
  refine V_getf 6 (κ := KX6_appendWord) (pc := 22) rfl (by decide) rfl inX6 1 (by decide) wd_245 rfl (t := 0) rfl dX6_appendWord_22 fun t103 => ?_
  refine V_iload_n (κ := KX6_appendWord) (pc := 25) dX6_appendWord_25 1 rfl ?_
  refine V_iload_n (κ := KX6_appendWord) (pc := 26) dX6_appendWord_26 2 rfl ?_
  refine V_iushr (κ := KX6_appendWord) (pc := 27) dX6_appendWord_27 ?_
  refine V_i2b (κ := KX6_appendWord) (pc := 28) dX6_appendWord_28 ?_
  refine V_bastore (κ := KX6_appendWord) (pc := 29) dX6_appendWord_29 fun u104 => ?_
  refine V_aload_n (κ := KX6_appendWord) (pc := 30) dX6_appendWord_30 0 rfl rfl ?_
  refine V_dup (κ := KX6_appendWord) (pc := 31) rfl dX6_appendWord_31 ?_
  refine V_getf 6 (κ := KX6_appendWord) (pc := 32) rfl (by decide) rfl inX6 1 (by decide) wd_245 rfl (t := 0) rfl dX6_appendWord_32 fun t105 => ?_
  refine V_iconst (κ := KX6_appendWord) (pc := 35) dX6_appendWord_35 ⟨by decide, by decide⟩ ?_
  refine V_iadd (κ := KX6_appendWord) (pc := 36) dX6_appendWord_36 ?_
  refine V_putf 6 (κ := KX6_appendWord) (pc := 37) rfl (by decide) rfl inX6 tyX6 tyX6_ok nmX6 1 (by decide) wd_245 rfl rfl (t := 0) rfl rfl dX6_appendWord_37 fun u106 => ?_
  refine V_iinc (κ := KX6_appendWord) (pc := 40) (lv' := [(2, (0, w32 (x2 + (-8)))), (0, (2, x0)), (1, (0, x1))]) dX6_appendWord_40 2 rfl (by decide) rfl ?_
  refine V_goto (κ := KX6_appendWord) (pc := 43) (tgt := 3) dX6_appendWord_43 rfl ?_
  refine V_sub (lv' := [(0, (2, x0)), (1, (0, x1)), (2, (0, w32 (x2 + (-8))))]) [1, 2, 0] rfl ?_
  exact hk3 _ _ _ _
theorem VLX6_appendWord_3 {Γ : Gam} : ∀ (n : Nat) (x0 x1 x2 : Int) (μ : Mem), V Γ KX6_appendWord 3 [(0, (2, x0)), (1, (0, x1)), (2, (0, x2))] [] μ (LX6_appendWord_3 n x0 x1 x2 μ)
  | 0, _, _, _, _ => V_none
  | n + 1, x0, x1, x2, μ => VBX6_appendWord_3 (fun y0 y1 y2 ν => VLX6_appendWord_3 n y0 y1 y2 ν) x0 x1 x2 μ
theorem VBX6_appendWord_0 {Γ : Gam} (x0 x1 : Int) (μ : Mem) : V Γ KX6_appendWord 0 [(0, (2, x0)), (1, (0, x1))] [] μ (BX6_appendWord_0 x0 x1 μ) := by
  unfold BX6_appendWord_0
  refine V_bipush (κ := KX6_appendWord) (pc := 0) dX6_appendWord_0 ⟨by decide, by decide⟩ (by decide) ?_
  refine V_istore_n (κ := KX6_appendWord) (pc := 2) (lv' := [(2, (0, 24)), (0, (2, x0)), (1, (0, x1))]) dX6_appendWord_2 (by decide) rfl ?_
  refine V_sub (lv' := [(0, (2, x0)), (1, (0, x1)), (2, (0, 24))]) [1, 2, 0] rfl ?_
  exact VLX6_appendWord_3 FU _ _ _ _
theorem con_X6_appendWord (a0 a1 : Int) (μ : Mem) : Con (1) yX6_appendWord (.code yX6_appendWord cX6_appendWord 3 none) 9 [(2, a0), (0, a1)] μ (FX6_appendWord a0 a1 μ) := Con_intro KX6_appendWord (plainFor_of_name (by decide)) rfl (fun h => by cases h) (by decide) rfl (Nat.le_of_ble_eq_true rfl) (fun Γ => VBX6_appendWord_0 _ _ _)
abbrev KX6_append : Kap := (RX6, cX6_append, 6, 2, 0, (some .int), false, [])
theorem VBX6_append_0 {Γ : Gam} (x0 x1 x2 x3 x4 x5 : Int) (μ : Mem) : V Γ KX6_append 0 [(0, (2, x0)), (1, (0, x1)), (2, (0, x2)), (3, (0, x3)), (4, (0, x4)), (5, (0, x5))] [] μ (BX6_append_0 x0 x1 x2 x3 x4 x5 μ) := by
  unfold BX6_append_0
  refine V_aload_n (κ := KX6_append) (pc := 0) dX6_append_0 0 rfl rfl ?_
  refine V_getf 6 (κ := KX6_append) (pc := 1) rfl (by decide) rfl inX6 1 (by decide) wd_245 rfl (t := 0) rfl dX6_append_1 fun t101 => ?_
  refine V_sipush (κ := KX6_append) (pc := 4) dX6_append_4 ⟨by decide, by decide⟩ (by decide) ?_
  refine V_icmp_le (κ := KX6_append) (pc := 7) (tgt := 12) dX6_append_7 rfl ?_ ?_
  · refine V_aload_n (κ := KX6_append) (pc := 12) dX6_append_12 0 rfl rfl ?_
    refine V_iload_n (κ := KX6_append) (pc := 13) dX6_append_13 1 rfl ?_
    refine V_callV (ci := 6) (T := TX6) (N := 9) rfl (by decide) (κ := KX6_append) (pc := 14) (con_X6_appendWord _ _ _) mth_X6_appendWord rfl ⟨wd_768, wp_14⟩ wd_766 (st0 := []) rfl rfl (by decide) (Nat.le_of_ble_eq_true rfl) dX6_append_14 (fun _ _ _ h => VX_out rfl (by decide) h) fun _ u103 => ?_
    refine V_aload_n (κ := KX6_append) (pc := 17) dX6_append_17 0 rfl rfl ?_
    refine V_iload_n (κ := KX6_append) (pc := 18) dX6_append_18 2 rfl ?_
    refine V_callV (ci := 6) (T := TX6) (N := 9) rfl (by decide) (κ := KX6_append) (pc := 19) (con_X6_appendWord _ _ _) mth_X6_appendWord rfl ⟨wd_768, wp_14⟩ wd_766 (st0 := []) rfl rfl (by decide) (Nat.le_of_ble_eq_true rfl) dX6_append_19 (fun _ _ _ h => VX_out rfl (by decide) h) fun _ u105 => ?_
    refine V_aload_n (κ := KX6_append) (pc := 22) dX6_append_22 0 rfl rfl ?_
    refine V_iload_n (κ := KX6_append) (pc := 23) dX6_append_23 3 rfl ?_
    refine V_callV (ci := 6) (T := TX6) (N := 9) rfl (by decide) (κ := KX6_append) (pc := 24) (con_X6_appendWord _ _ _) mth_X6_appendWord rfl ⟨wd_768, wp_14⟩ wd_766 (st0 := []) rfl rfl (by decide) (Nat.le_of_ble_eq_true rfl) dX6_append_24 (fun _ _ _ h => VX_out rfl (by decide) h) fun _ u107 => ?_
    refine V_aload_n (κ := KX6_append) (pc := 27) dX6_append_27 0 rfl rfl ?_
    refine V_iload (κ := KX6_append) (pc := 28) dX6_append_28 4 rfl ?_
    refine V_callV (ci := 6) (T := TX6) (N := 9) rfl (by decide) (κ := KX6_append) (pc := 30) (con_X6_appendWord _ _ _) mth_X6_appendWord rfl ⟨wd_768, wp_14⟩ wd_766 (st0 := []) rfl rfl (by decide) (Nat.le_of_ble_eq_true rfl) dX6_append_30 (fun _ _ _ h => VX_out rfl (by decide) h) fun _ u109 => ?_
    refine V_aload_n (κ := KX6_append) (pc := 33) dX6_append_33 0 rfl rfl ?_
    refine V_iload (κ := KX6_append) (pc := 34) dX6_append_34 5 rfl ?_
    refine V_callV (ci := 6) (T := TX6) (N := 9) rfl (by decide) (κ := KX6_append) (pc := 36) (con_X6_appendWord _ _ _) mth_X6_appendWord rfl ⟨wd_768, wp_14⟩ wd_766 (st0 := []) rfl rfl (by decide) (Nat.le_of_ble_eq_true rfl) dX6_append_36 (fun _ _ _ h => VX_out rfl (by decide) h) fun _ u111 => ?_
    refine V_aload_n (κ := KX6_append) (pc := 39) dX6_append_39 0 rfl rfl ?_
    refine V_getf 6 (κ := KX6_append) (pc := 40) rfl (by decide) rfl inX6 1 (by decide) wd_245 rfl (t := 0) rfl dX6_append_40 fun t112 => ?_
    exact V_ireturn (κ := KX6_append) (pc := 43) rfl rfl dX6_append_43
  refine V_iconst (κ := KX6_append) (pc := 10) dX6_append_10 ⟨by decide, by decide⟩ ?_
  exact V_ireturn (κ := KX6_append) (pc := 11) rfl rfl dX6_append_11
theorem con_X6_append (a0 a1 a2 a3 a4 a5 : Int) (μ : Mem) : Con (2) yX6_append (.code yX6_append cX6_append 6 (some .int)) 0 [(2, a0), (0, a1), (0, a2), (0, a3), (0, a4), (0, a5)] μ (FX6_append a0 a1 a2 a3 a4 a5 μ) := Con_intro KX6_append (plainFor_of_name (by decide)) rfl (fun h => by cases h) (by decide) rfl (Nat.le_of_ble_eq_true rfl) (fun Γ => VBX6_append_0 _ _ _ _ _ _ _)
abbrev KX2_forgetTones : Kap := (RX2, cX2_forgetTones, 1, 1, 9, none, false, [])
theorem VBX2_forgetTones_0 {Γ : Gam} (x0 : Int) (μ : Mem) : V Γ KX2_forgetTones 0 [(0, (2, x0))] [] μ (BX2_forgetTones_0 x0 μ) := by
  unfold BX2_forgetTones_0
  refine V_aload_n (κ := KX2_forgetTones) (pc := 0) dX2_forgetTones_0 0 rfl rfl ?_
  refine V_iconst (κ := KX2_forgetTones) (pc := 1) dX2_forgetTones_1 ⟨by decide, by decide⟩ ?_
  refine V_putz 2 (κ := KX2_forgetTones) (pc := 2) rfl (by decide) rfl inX2 tyX2 tyX2_ok nmX2 6 (by decide) wd_82 rfl rfl rfl rfl dX2_forgetTones_2 fun u101 => ?_
  refine V_aload_n (κ := KX2_forgetTones) (pc := 5) dX2_forgetTones_5 0 rfl rfl ?_
  refine V_iconst (κ := KX2_forgetTones) (pc := 6) dX2_forgetTones_6 ⟨by decide, by decide⟩ ?_
  refine V_putz 2 (κ := KX2_forgetTones) (pc := 7) rfl (by decide) rfl inX2 tyX2 tyX2_ok nmX2 7 (by decide) wd_83 rfl rfl rfl rfl dX2_forgetTones_7 fun u102 => ?_
  exact V_vreturn (κ := KX2_forgetTones) (pc := 10) rfl rfl dX2_forgetTones_10
theorem con_X2_forgetTones (a0 : Int) (μ : Mem) : Con (1) yX2_forgetTones (.code yX2_forgetTones cX2_forgetTones 1 none) 9 [(2, a0)] μ (FX2_forgetTones a0 μ) := Con_intro KX2_forgetTones (plainFor_of_name (by decide)) rfl (fun h => by cases h) (by decide) rfl (Nat.le_of_ble_eq_true rfl) (fun Γ => VBX2_forgetTones_0 _ _)
abbrev KX4_takeRun : Kap := (RX4, cX4_takeRun, 4, 1, 9, none, false, [])
theorem VBX4_takeRun_26 {Γ : Gam} (μ : Mem) : V Γ KX4_takeRun 26 [] [] μ (BX4_takeRun_26 μ) := by
  unfold BX4_takeRun_26
  exact V_vreturn (κ := KX4_takeRun) (pc := 26) rfl rfl dX4_takeRun_26
theorem VBX4_takeRun_82 {Γ : Gam} (μ : Mem) : V Γ KX4_takeRun 82 [] [] μ (BX4_takeRun_82 μ) := by
  unfold BX4_takeRun_82
  exact V_vreturn (κ := KX4_takeRun) (pc := 82) rfl rfl dX4_takeRun_82
theorem VBX4_takeRun_32 {Γ : Gam} {k32 : Int → Int → Int → Mem → Rz} (hk32 : ∀ (y0 y1 y2 : Int) (ν : Mem), V Γ KX4_takeRun 32 [(0, (2, y0)), (1, (0, y1)), (2, (0, y2))] [] ν (k32 y0 y1 y2 ν)) (x0 x1 x2 : Int) (μ : Mem) : V Γ KX4_takeRun 32 [(0, (2, x0)), (1, (0, x1)), (2, (0, x2))] [] μ (BX4_takeRun_32 k32 x0 x1 x2 μ) := by
  unfold BX4_takeRun_32
  refine V_aload_n (κ := KX4_takeRun) (pc := 32) dX4_takeRun_32 0 rfl rfl ?_
  refine V_getf 4 (κ := KX4_takeRun) (pc := 33) rfl (by decide) rfl inX4 9 (by decide) wd_118 rfl (t := 0) rfl dX4_takeRun_33 fun t101 => ?_
  refine V_aload_n (κ := KX4_takeRun) (pc := 36) dX4_takeRun_36 0 rfl rfl ?_
  refine V_getf 4 (κ := KX4_takeRun) (pc := 37) rfl (by decide) rfl inX4 3 (by decide) wd_112 rfl (t := 0) rfl dX4_takeRun_37 fun t102 => ?_
  refine V_icmp_ge (κ := KX4_takeRun) (pc := 40) (tgt := 82) dX4_takeRun_40 rfl ?_ ?_
  · refine V_sub (lv' := []) [] rfl ?_
    exact VBX4_takeRun_82 _
  refine V_aload_n (κ := KX4_takeRun) (pc := 43) dX4_takeRun_43 0 rfl rfl ?_
  refine V_getf 4 (κ := KX4_takeRun) (pc := 44) rfl (by decide) rfl inX4 2 (by decide) wd_111 rfl (t := 2) rfl dX4_takeRun_44 fun t103 => ?_
  refine V_aload_n (κ := KX4_takeRun) (pc := 47) dX4_takeRun_47 0 rfl rfl ?_
  refine V_getf 4 (κ := KX4_takeRun) (pc := 48) rfl (by decide) rfl inX4 9 (by decide) wd_118 rfl (t := 0) rfl dX4_takeRun_48 fun t104 => ?_
  refine V_baload (κ := KX4_takeRun) (pc := 51) dX4_takeRun_51 fun t105 => ?_
  refine V_iload_n (κ := KX4_takeRun) (pc := 52) dX4_takeRun_52 1 rfl ?_
  refine V_icmp_lt (κ := KX4_takeRun) (pc := 53) (tgt := 82) dX4_takeRun_53 rfl ?_ ?_
  · refine V_sub (lv' := []) [] rfl ?_
    exact VBX4_takeRun_82 _
  refine V_aload_n (κ := KX4_takeRun) (pc := 56) dX4_takeRun_56 0 rfl rfl ?_
  refine V_getf 4 (κ := KX4_takeRun) (pc := 57) rfl (by decide) rfl inX4 2 (by decide) wd_111 rfl (t := 2) rfl dX4_takeRun_57 fun t106 => ?_
  refine V_aload_n (κ := KX4_takeRun) (pc := 60) dX4_takeRun_60 0 rfl rfl ?_
  refine V_getf 4 (κ := KX4_takeRun) (pc := 61) rfl (by decide) rfl inX4 9 (by decide) wd_118 rfl (t := 0) rfl dX4_takeRun_61 fun t107 => ?_
  refine V_baload (κ := KX4_takeRun) (pc := 64) dX4_takeRun_64 fun t108 => ?_
  refine V_iload_n (κ := KX4_takeRun) (pc := 65) dX4_takeRun_65 2 rfl ?_
  refine V_icmp_gt (κ := KX4_takeRun) (pc := 66) (tgt := 82) dX4_takeRun_66 rfl ?_ ?_
  · refine V_sub (lv' := []) [] rfl ?_
    exact VBX4_takeRun_82 _
  refine V_aload_n (κ := KX4_takeRun) (pc := 69) dX4_takeRun_69 0 rfl rfl ?_
  refine V_dup (κ := KX4_takeRun) (pc := 70) rfl dX4_takeRun_70 ?_
  refine V_getf 4 (κ := KX4_takeRun) (pc := 71) rfl (by decide) rfl inX4 9 (by decide) wd_118 rfl (t := 0) rfl dX4_takeRun_71 fun t109 => ?_
  refine V_iconst (κ := KX4_takeRun) (pc := 74) dX4_takeRun_74 ⟨by decide, by decide⟩ ?_
  refine V_iadd (κ := KX4_takeRun) (pc := 75) dX4_takeRun_75 ?_
  refine V_putf 4 (κ := KX4_takeRun) (pc := 76) rfl (by decide) rfl inX4 tyX4 tyX4_ok nmX4 9 (by decide) wd_118 rfl rfl (t := 0) rfl rfl dX4_takeRun_76 fun u110 => ?_
  refine V_goto (κ := KX4_takeRun) (pc := 79) (tgt := 32) dX4_takeRun_79 rfl ?_
  exact hk32 _ _ _ _
theorem VLX4_takeRun_32 {Γ : Gam} : ∀ (n : Nat) (x0 x1 x2 : Int) (μ : Mem), V Γ KX4_takeRun 32 [(0, (2, x0)), (1, (0, x1)), (2, (0, x2))] [] μ (LX4_takeRun_32 n x0 x1 x2 μ)
  | 0, _, _, _, _ => V_none
  | n + 1, x0, x1, x2, μ => VBX4_takeRun_32 (fun y0 y1 y2 ν => VLX4_takeRun_32 n y0 y1 y2 ν) x0 x1 x2 μ
theorem VBX4_takeRun_0 {Γ : Gam} (x0 x1 x2 x3 : Int) (μ : Mem) : V Γ KX4_takeRun 0 [(0, (2, x0)), (1, (0, x1)), (2, (0, x2)), (3, (0, x3))] [] μ (BX4_takeRun_0 x0 x1 x2 x3 μ) := by
  unfold BX4_takeRun_0
  refine V_aload_n (κ := KX4_takeRun) (pc := 0) dX4_takeRun_0 0 rfl rfl ?_
  refine V_getf 4 (κ := KX4_takeRun) (pc := 1) rfl (by decide) rfl inX4 2 (by decide) wd_111 rfl (t := 2) rfl dX4_takeRun_1 fun t101 => ?_
  refine V_aload_n (κ := KX4_takeRun) (pc := 4) dX4_takeRun_4 0 rfl rfl ?_
  refine V_getf 4 (κ := KX4_takeRun) (pc := 5) rfl (by decide) rfl inX4 8 (by decide) wd_117 rfl (t := 0) rfl dX4_takeRun_5 fun t102 => ?_
  refine V_baload (κ := KX4_takeRun) (pc := 8) dX4_takeRun_8 fun t103 => ?_
  refine V_iload_n (κ := KX4_takeRun) (pc := 9) dX4_takeRun_9 1 rfl ?_
  refine V_icmp_lt (κ := KX4_takeRun) (pc := 10) (tgt := 26) dX4_takeRun_10 rfl ?_ ?_
  · refine V_sub (lv' := []) [] rfl ?_
    exact VBX4_takeRun_26 _
  refine V_aload_n (κ := KX4_takeRun) (pc := 13) dX4_takeRun_13 0 rfl rfl ?_
  refine V_getf 4 (κ := KX4_takeRun) (pc := 14) rfl (by decide) rfl inX4 2 (by decide) wd_111 rfl (t := 2) rfl dX4_takeRun_14 fun t104 => ?_
  refine V_aload_n (κ := KX4_takeRun) (pc := 17) dX4_takeRun_17 0 rfl rfl ?_
  refine V_getf 4 (κ := KX4_takeRun) (pc := 18) rfl (by decide) rfl inX4 8 (by decide) wd_117 rfl (t := 0) rfl dX4_takeRun_18 fun t105 => ?_
  refine V_baload (κ := KX4_takeRun) (pc := 21) dX4_takeRun_21 fun t106 => ?_
  refine V_iload_n (κ := KX4_takeRun) (pc := 22) dX4_takeRun_22 2 rfl ?_
  refine V_icmp_le (κ := KX4_takeRun) (pc := 23) (tgt := 27) dX4_takeRun_23 rfl ?_ ?_
  · refine V_aload_n (κ := KX4_takeRun) (pc := 27) dX4_takeRun_27 0 rfl rfl ?_
    refine V_iload_n (κ := KX4_takeRun) (pc := 28) dX4_takeRun_28 3 rfl ?_
    refine V_putf 4 (κ := KX4_takeRun) (pc := 29) rfl (by decide) rfl inX4 tyX4 tyX4_ok nmX4 7 (by decide) wd_116 rfl rfl (t := 0) rfl rfl dX4_takeRun_29 fun u107 => ?_
    refine V_sub (lv' := [(0, (2, x0)), (1, (0, x1)), (2, (0, x2))]) [0, 1, 2] rfl ?_
    exact VLX4_takeRun_32 FU _ _ _ _
  refine V_sub (lv' := []) [] rfl ?_
  exact VBX4_takeRun_26 _
theorem con_X4_takeRun (a0 a1 a2 a3 : Int) (μ : Mem) : Con (1) yX4_takeRun (.code yX4_takeRun cX4_takeRun 4 none) 9 [(2, a0), (0, a1), (0, a2), (0, a3)] μ (FX4_takeRun a0 a1 a2 a3 μ) := Con_intro KX4_takeRun (plainFor_of_name (by decide)) rfl (fun h => by cases h) (by decide) rfl (Nat.le_of_ble_eq_true rfl) (fun Γ => VBX4_takeRun_0 _ _ _ _ _)
abbrev KX4_advance : Kap := (RX4, cX4_advance, 1, 2, 9, none, false, [])
theorem VBX4_advance_46 {Γ : Gam} (x0 : Int) (μ : Mem) : V Γ KX4_advance 46 [(0, (2, x0))] [] μ (BX4_advance_46 x0 μ) := by
  unfold BX4_advance_46
  refine V_aload_n (κ := KX4_advance) (pc := 46) dX4_advance_46 0 rfl rfl ?_
  refine V_getf 4 (κ := KX4_advance) (pc := 47) rfl (by decide) rfl inX4 8 (by decide) wd_117 rfl (t := 0) rfl dX4_advance_47 fun t101 => ?_
  refine V_aload_n (κ := KX4_advance) (pc := 50) dX4_advance_50 0 rfl rfl ?_
  refine V_getf 4 (κ := KX4_advance) (pc := 51) rfl (by decide) rfl inX4 3 (by decide) wd_112 rfl (t := 0) rfl dX4_advance_51 fun t102 => ?_
  refine V_icmp_lt (κ := KX4_advance) (pc := 54) (tgt := 71) dX4_advance_54 rfl ?_ ?_
  · refine V_aload_n (κ := KX4_advance) (pc := 71) dX4_advance_71 0 rfl rfl ?_
    refine V_iconst (κ := KX4_advance) (pc := 72) dX4_advance_72 ⟨by decide, by decide⟩ ?_
    refine V_putf 4 (κ := KX4_advance) (pc := 73) rfl (by decide) rfl inX4 tyX4 tyX4_ok nmX4 7 (by decide) wd_116 rfl rfl (t := 0) rfl rfl dX4_advance_73 fun u103 => ?_
    refine V_aload_n (κ := KX4_advance) (pc := 76) dX4_advance_76 0 rfl rfl ?_
    refine V_aload_n (κ := KX4_advance) (pc := 77) dX4_advance_77 0 rfl rfl ?_
    refine V_getf 4 (κ := KX4_advance) (pc := 78) rfl (by decide) rfl inX4 8 (by decide) wd_117 rfl (t := 0) rfl dX4_advance_78 fun t104 => ?_
    refine V_iconst (κ := KX4_advance) (pc := 81) dX4_advance_81 ⟨by decide, by decide⟩ ?_
    refine V_iadd (κ := KX4_advance) (pc := 82) dX4_advance_82 ?_
    refine V_putf 4 (κ := KX4_advance) (pc := 83) rfl (by decide) rfl inX4 tyX4 tyX4_ok nmX4 9 (by decide) wd_118 rfl rfl (t := 0) rfl rfl dX4_advance_83 fun u105 => ?_
    refine V_aload_n (κ := KX4_advance) (pc := 86) dX4_advance_86 0 rfl rfl ?_
    refine V_bipush (κ := KX4_advance) (pc := 87) dX4_advance_87 ⟨by decide, by decide⟩ (by decide) ?_
    refine V_bipush (κ := KX4_advance) (pc := 89) dX4_advance_89 ⟨by decide, by decide⟩ (by decide) ?_
    refine V_iconst (κ := KX4_advance) (pc := 91) dX4_advance_91 ⟨by decide, by decide⟩ ?_
    refine V_callV (ci := 4) (T := TX4) (N := 13) rfl (by decide) (κ := KX4_advance) (pc := 92) (con_X4_takeRun _ _ _ _ _) mth_X4_takeRun rfl ⟨wd_790, wp_17⟩ wd_788 (st0 := []) rfl rfl (by decide) (Nat.le_of_ble_eq_true rfl) dX4_advance_92 (fun _ _ _ h => VX_out rfl (by decide) h) fun _ u107 => ?_
    refine V_aload_n (κ := KX4_advance) (pc := 95) dX4_advance_95 0 rfl rfl ?_
    refine V_bipush (κ := KX4_advance) (pc := 96) dX4_advance_96 ⟨by decide, by decide⟩ (by decide) ?_
    refine V_bipush (κ := KX4_advance) (pc := 98) dX4_advance_98 ⟨by decide, by decide⟩ (by decide) ?_
    refine V_iconst (κ := KX4_advance) (pc := 100) dX4_advance_100 ⟨by decide, by decide⟩ ?_
    refine V_callV (ci := 4) (T := TX4) (N := 13) rfl (by decide) (κ := KX4_advance) (pc := 101) (con_X4_takeRun _ _ _ _ _) mth_X4_takeRun rfl ⟨wd_790, wp_17⟩ wd_788 (st0 := []) rfl rfl (by decide) (Nat.le_of_ble_eq_true rfl) dX4_advance_101 (fun _ _ _ h => VX_out rfl (by decide) h) fun _ u109 => ?_
    exact V_vreturn (κ := KX4_advance) (pc := 104) rfl rfl dX4_advance_104
  refine V_aload_n (κ := KX4_advance) (pc := 57) dX4_advance_57 0 rfl rfl ?_
  refine V_iconst (κ := KX4_advance) (pc := 58) dX4_advance_58 ⟨by decide, by decide⟩ ?_
  refine V_putf 4 (κ := KX4_advance) (pc := 59) rfl (by decide) rfl inX4 tyX4 tyX4_ok nmX4 7 (by decide) wd_116 rfl rfl (t := 0) rfl rfl dX4_advance_59 fun u110 => ?_
  refine V_aload_n (κ := KX4_advance) (pc := 62) dX4_advance_62 0 rfl rfl ?_
  refine V_aload_n (κ := KX4_advance) (pc := 63) dX4_advance_63 0 rfl rfl ?_
  refine V_getf 4 (κ := KX4_advance) (pc := 64) rfl (by decide) rfl inX4 8 (by decide) wd_117 rfl (t := 0) rfl dX4_advance_64 fun t111 => ?_
  refine V_putf 4 (κ := KX4_advance) (pc := 67) rfl (by decide) rfl inX4 tyX4 tyX4_ok nmX4 9 (by decide) wd_118 rfl rfl (t := 0) rfl rfl dX4_advance_67 fun u112 => ?_
  exact V_vreturn (κ := KX4_advance) (pc := 70) rfl rfl dX4_advance_70
theorem VBX4_advance_8 {Γ : Gam} {k8 : Int → Mem → Rz} (hk8 : ∀ (y0 : Int) (ν : Mem), V Γ KX4_advance 8 [(0, (2, y0))] [] ν (k8 y0 ν)) (x0 : Int) (μ : Mem) : V Γ KX4_advance 8 [(0, (2, x0))] [] μ (BX4_advance_8 k8 x0 μ) := by
  unfold BX4_advance_8
  refine V_aload_n (κ := KX4_advance) (pc := 8) dX4_advance_8 0 rfl rfl ?_
  refine V_getf 4 (κ := KX4_advance) (pc := 9) rfl (by decide) rfl inX4 8 (by decide) wd_117 rfl (t := 0) rfl dX4_advance_9 fun t101 => ?_
  refine V_aload_n (κ := KX4_advance) (pc := 12) dX4_advance_12 0 rfl rfl ?_
  refine V_getf 4 (κ := KX4_advance) (pc := 13) rfl (by decide) rfl inX4 3 (by decide) wd_112 rfl (t := 0) rfl dX4_advance_13 fun t102 => ?_
  refine V_icmp_ge (κ := KX4_advance) (pc := 16) (tgt := 46) dX4_advance_16 rfl ?_ ?_
  · exact VBX4_advance_46 _ _
  refine V_aload_n (κ := KX4_advance) (pc := 19) dX4_advance_19 0 rfl rfl ?_
  refine V_getf 4 (κ := KX4_advance) (pc := 20) rfl (by decide) rfl inX4 2 (by decide) wd_111 rfl (t := 2) rfl dX4_advance_20 fun t103 => ?_
  refine V_aload_n (κ := KX4_advance) (pc := 23) dX4_advance_23 0 rfl rfl ?_
  refine V_getf 4 (κ := KX4_advance) (pc := 24) rfl (by decide) rfl inX4 8 (by decide) wd_117 rfl (t := 0) rfl dX4_advance_24 fun t104 => ?_
  refine V_baload (κ := KX4_advance) (pc := 27) dX4_advance_27 fun t105 => ?_
  refine V_bipush (κ := KX4_advance) (pc := 28) dX4_advance_28 ⟨by decide, by decide⟩ (by decide) ?_
  refine V_icmp_ne (κ := KX4_advance) (pc := 30) (tgt := 46) dX4_advance_30 rfl ?_ ?_
  · exact VBX4_advance_46 _ _
  refine V_aload_n (κ := KX4_advance) (pc := 33) dX4_advance_33 0 rfl rfl ?_
  refine V_dup (κ := KX4_advance) (pc := 34) rfl dX4_advance_34 ?_
  refine V_getf 4 (κ := KX4_advance) (pc := 35) rfl (by decide) rfl inX4 8 (by decide) wd_117 rfl (t := 0) rfl dX4_advance_35 fun t106 => ?_
  refine V_iconst (κ := KX4_advance) (pc := 38) dX4_advance_38 ⟨by decide, by decide⟩ ?_
  refine V_iadd (κ := KX4_advance) (pc := 39) dX4_advance_39 ?_
  refine V_putf 4 (κ := KX4_advance) (pc := 40) rfl (by decide) rfl inX4 tyX4 tyX4_ok nmX4 8 (by decide) wd_117 rfl rfl (t := 0) rfl rfl dX4_advance_40 fun u107 => ?_
  refine V_goto (κ := KX4_advance) (pc := 43) (tgt := 8) dX4_advance_43 rfl ?_
  exact hk8 _ _
theorem VLX4_advance_8 {Γ : Gam} : ∀ (n : Nat) (x0 : Int) (μ : Mem), V Γ KX4_advance 8 [(0, (2, x0))] [] μ (LX4_advance_8 n x0 μ)
  | 0, _, _ => V_none
  | n + 1, x0, μ => VBX4_advance_8 (fun y0 ν => VLX4_advance_8 n y0 ν) x0 μ
theorem VBX4_advance_0 {Γ : Gam} (x0 : Int) (μ : Mem) : V Γ KX4_advance 0 [(0, (2, x0))] [] μ (BX4_advance_0 x0 μ) := by
  unfold BX4_advance_0
  refine V_aload_n (κ := KX4_advance) (pc := 0) dX4_advance_0 0 rfl rfl ?_
  refine V_aload_n (κ := KX4_advance) (pc := 1) dX4_advance_1 0 rfl rfl ?_
  refine V_getf 4 (κ := KX4_advance) (pc := 2) rfl (by decide) rfl inX4 9 (by decide) wd_118 rfl (t := 0) rfl dX4_advance_2 fun t101 => ?_
  refine V_putf 4 (κ := KX4_advance) (pc := 5) rfl (by decide) rfl inX4 tyX4 tyX4_ok nmX4 8 (by decide) wd_117 rfl rfl (t := 0) rfl rfl dX4_advance_5 fun u102 => ?_
  exact VLX4_advance_8 FU _ _
theorem con_X4_advance (a0 : Int) (μ : Mem) : Con (2) yX4_advance (.code yX4_advance cX4_advance 1 none) 9 [(2, a0)] μ (FX4_advance a0 μ) := Con_intro KX4_advance (plainFor_of_name (by decide)) rfl (fun h => by cases h) (by decide) rfl (Nat.le_of_ble_eq_true rfl) (fun Γ => VBX4_advance_0 _ _)
abbrev KX4_fail : Kap := (RX4, cX4_fail, 2, 1, 0, (some .boolean), false, [])
theorem VBX4_fail_0 {Γ : Gam} (x0 x1 : Int) (μ : Mem) : V Γ KX4_fail 0 [(0, (2, x0)), (1, (0, x1))] [] μ (BX4_fail_0 x0 x1 μ) := by
  unfold BX4_fail_0
  refine V_aload_n (κ := KX4_fail) (pc := 0) dX4_fail_0 0 rfl rfl ?_
  refine V_iload_n (κ := KX4_fail) (pc := 1) dX4_fail_1 1 rfl ?_
  refine V_putf 4 (κ := KX4_fail) (pc := 2) rfl (by decide) rfl inX4 tyX4 tyX4_ok nmX4 0 (by decide) wd_107 rfl rfl (t := 0) rfl rfl dX4_fail_2 fun u101 => ?_
  refine V_aload_n (κ := KX4_fail) (pc := 5) dX4_fail_5 0 rfl rfl ?_
  refine V_aload_n (κ := KX4_fail) (pc := 6) dX4_fail_6 0 rfl rfl ?_
  refine V_getf 4 (κ := KX4_fail) (pc := 7) rfl (by decide) rfl inX4 8 (by decide) wd_117 rfl (t := 0) rfl dX4_fail_7 fun t102 => ?_
  refine V_putf 4 (κ := KX4_fail) (pc := 10) rfl (by decide) rfl inX4 tyX4 tyX4_ok nmX4 1 (by decide) wd_109 rfl rfl (t := 0) rfl rfl dX4_fail_10 fun u103 => ?_
  refine V_iconst (κ := KX4_fail) (pc := 13) dX4_fail_13 ⟨by decide, by decide⟩ ?_
  exact V_zreturn (κ := KX4_fail) (pc := 14) rfl rfl dX4_fail_14
theorem con_X4_fail (a0 a1 : Int) (μ : Mem) : Con (1) yX4_fail (.code yX4_fail cX4_fail 2 (some .boolean)) 0 [(2, a0), (0, a1)] μ (FX4_fail a0 a1 μ) := Con_intro KX4_fail (plainFor_of_name (by decide)) rfl (fun h => by cases h) (by decide) rfl (Nat.le_of_ble_eq_true rfl) (fun Γ => VBX4_fail_0 _ _ _)
abbrev KX4_isWord : Kap := (RX4, cX4_isWord, 3, 7, 0, (some .boolean), false, [])
theorem VBX4_isWord_24 {Γ : Gam} (μ : Mem) : V Γ KX4_isWord 24 [] [] μ (BX4_isWord_24 μ) := by
  unfold BX4_isWord_24
  refine V_iconst (κ := KX4_isWord) (pc := 24) dX4_isWord_24 ⟨by decide, by decide⟩ ?_
  exact V_zreturn (κ := KX4_isWord) (pc := 25) rfl rfl dX4_isWord_25
theorem VBX4_isWord_28 {Γ : Gam} {k28 : Int → Int → Int → Mem → Rz} (hk28 : ∀ (y0 y1 y2 : Int) (ν : Mem), V Γ KX4_isWord 28 [(0, (2, y0)), (1, (5, y1)), (2, (0, y2))] [] ν (k28 y0 y1 y2 ν)) (x0 x1 x2 : Int) (μ : Mem) : V Γ KX4_isWord 28 [(0, (2, x0)), (1, (5, x1)), (2, (0, x2))] [] μ (BX4_isWord_28 k28 x0 x1 x2 μ) := by
  unfold BX4_isWord_28
  refine V_iload_n (κ := KX4_isWord) (pc := 28) dX4_isWord_28 2 rfl ?_
  refine V_aload_n (κ := KX4_isWord) (pc := 29) dX4_isWord_29 1 rfl rfl ?_
  refine V_strLen (κ := KX4_isWord) (pc := 30) wd_801 (by decide) rfl (by decide) (Nat.le_of_ble_eq_true rfl) dX4_isWord_30 fun t101 => ?_
  refine V_icmp_ge (κ := KX4_isWord) (pc := 33) (tgt := 63) dX4_isWord_33 rfl ?_ ?_
  · refine V_iconst (κ := KX4_isWord) (pc := 63) dX4_isWord_63 ⟨by decide, by decide⟩ ?_
    exact V_zreturn (κ := KX4_isWord) (pc := 64) rfl rfl dX4_isWord_64
  refine V_aload_n (κ := KX4_isWord) (pc := 36) dX4_isWord_36 0 rfl rfl ?_
  refine V_getf 4 (κ := KX4_isWord) (pc := 37) rfl (by decide) rfl inX4 2 (by decide) wd_111 rfl (t := 2) rfl dX4_isWord_37 fun t102 => ?_
  refine V_aload_n (κ := KX4_isWord) (pc := 40) dX4_isWord_40 0 rfl rfl ?_
  refine V_getf 4 (κ := KX4_isWord) (pc := 41) rfl (by decide) rfl inX4 8 (by decide) wd_117 rfl (t := 0) rfl dX4_isWord_41 fun t103 => ?_
  refine V_iload_n (κ := KX4_isWord) (pc := 44) dX4_isWord_44 2 rfl ?_
  refine V_iadd (κ := KX4_isWord) (pc := 45) dX4_isWord_45 ?_
  refine V_baload (κ := KX4_isWord) (pc := 46) dX4_isWord_46 fun t104 => ?_
  refine V_aload_n (κ := KX4_isWord) (pc := 47) dX4_isWord_47 1 rfl rfl ?_
  refine V_iload_n (κ := KX4_isWord) (pc := 48) dX4_isWord_48 2 rfl ?_
  refine V_strCh (κ := KX4_isWord) (pc := 49) wd_802 (by decide) rfl (by decide) (Nat.le_of_ble_eq_true rfl) dX4_isWord_49 fun t105 => ?_
  refine V_icmp_eq (κ := KX4_isWord) (pc := 52) (tgt := 57) dX4_isWord_52 rfl ?_ ?_
  · refine V_iinc (κ := KX4_isWord) (pc := 57) (lv' := [(2, (0, w32 (x2 + 1))), (0, (2, x0)), (1, (5, x1))]) dX4_isWord_57 2 rfl (by decide) rfl ?_
    refine V_goto (κ := KX4_isWord) (pc := 60) (tgt := 28) dX4_isWord_60 rfl ?_
    refine V_sub (lv' := [(0, (2, x0)), (1, (5, x1)), (2, (0, w32 (x2 + 1)))]) [1, 2, 0] rfl ?_
    exact hk28 _ _ _ _
  refine V_iconst (κ := KX4_isWord) (pc := 55) dX4_isWord_55 ⟨by decide, by decide⟩ ?_
  exact V_zreturn (κ := KX4_isWord) (pc := 56) rfl rfl dX4_isWord_56
theorem VLX4_isWord_28 {Γ : Gam} : ∀ (n : Nat) (x0 x1 x2 : Int) (μ : Mem), V Γ KX4_isWord 28 [(0, (2, x0)), (1, (5, x1)), (2, (0, x2))] [] μ (LX4_isWord_28 n x0 x1 x2 μ)
  | 0, _, _, _, _ => V_none
  | n + 1, x0, x1, x2, μ => VBX4_isWord_28 (fun y0 y1 y2 ν => VLX4_isWord_28 n y0 y1 y2 ν) x0 x1 x2 μ
theorem VBX4_isWord_0 {Γ : Gam} (x0 x1 : Int) (μ : Mem) : V Γ KX4_isWord 0 [(0, (2, x0)), (1, (5, x1))] [] μ (BX4_isWord_0 x0 x1 μ) := by
  unfold BX4_isWord_0
  refine V_aload_n (κ := KX4_isWord) (pc := 0) dX4_isWord_0 0 rfl rfl ?_
  refine V_getf 4 (κ := KX4_isWord) (pc := 1) rfl (by decide) rfl inX4 7 (by decide) wd_116 rfl (t := 0) rfl dX4_isWord_1 fun t101 => ?_
  refine V_iconst (κ := KX4_isWord) (pc := 4) dX4_isWord_4 ⟨by decide, by decide⟩ ?_
  refine V_icmp_ne (κ := KX4_isWord) (pc := 5) (tgt := 24) dX4_isWord_5 rfl ?_ ?_
  · refine V_sub (lv' := []) [] rfl ?_
    exact VBX4_isWord_24 _
  refine V_aload_n (κ := KX4_isWord) (pc := 8) dX4_isWord_8 0 rfl rfl ?_
  refine V_getf 4 (κ := KX4_isWord) (pc := 9) rfl (by decide) rfl inX4 9 (by decide) wd_118 rfl (t := 0) rfl dX4_isWord_9 fun t102 => ?_
  refine V_aload_n (κ := KX4_isWord) (pc := 12) dX4_isWord_12 0 rfl rfl ?_
  refine V_getf 4 (κ := KX4_isWord) (pc := 13) rfl (by decide) rfl inX4 8 (by decide) wd_117 rfl (t := 0) rfl dX4_isWord_13 fun t103 => ?_
  refine V_isub (κ := KX4_isWord) (pc := 16) dX4_isWord_16 ?_
  refine V_aload_n (κ := KX4_isWord) (pc := 17) dX4_isWord_17 1 rfl rfl ?_
  refine V_strLen (κ := KX4_isWord) (pc := 18) wd_801 (by decide) rfl (by decide) (Nat.le_of_ble_eq_true rfl) dX4_isWord_18 fun t104 => ?_
  refine V_icmp_eq (κ := KX4_isWord) (pc := 21) (tgt := 26) dX4_isWord_21 rfl ?_ ?_
  · refine V_iconst (κ := KX4_isWord) (pc := 26) dX4_isWord_26 ⟨by decide, by decide⟩ ?_
    refine V_istore_n (κ := KX4_isWord) (pc := 27) (lv' := [(2, (0, 0)), (0, (2, x0)), (1, (5, x1))]) dX4_isWord_27 (by decide) rfl ?_
    refine V_sub (lv' := [(0, (2, x0)), (1, (5, x1)), (2, (0, 0))]) [1, 2, 0] rfl ?_
    exact VLX4_isWord_28 FU _ _ _ _
  refine V_sub (lv' := []) [] rfl ?_
  exact VBX4_isWord_24 _
theorem con_X4_isWord (a0 a1 : Int) (μ : Mem) : Con (7) yX4_isWord (.code yX4_isWord cX4_isWord 3 (some .boolean)) 0 [(2, a0), (5, a1)] μ (FX4_isWord a0 a1 μ) := Con_intro KX4_isWord (plainFor_of_name (by decide)) rfl (fun h => by cases h) (by decide) rfl (Nat.le_of_ble_eq_true rfl) (fun Γ => VBX4_isWord_0 _ _ _)
abbrev KX4_takeNumber : Kap := (RX4, cX4_takeNumber, 5, 5, 0, (some .boolean), false, [])
theorem VBX4_takeNumber_69 {Γ : Gam} (x0 : Int) (μ : Mem) : V Γ KX4_takeNumber 69 [(0, (2, x0))] [] μ (BX4_takeNumber_69 x0 μ) := by
  unfold BX4_takeNumber_69
  refine V_aload_n (κ := KX4_takeNumber) (pc := 69) dX4_takeNumber_69 0 rfl rfl ?_
  refine V_bipush (κ := KX4_takeNumber) (pc := 70) dX4_takeNumber_70 ⟨by decide, by decide⟩ (by decide) ?_
  refine V_callV (ci := 4) (T := TX4) (N := 13) rfl (by decide) (κ := KX4_takeNumber) (pc := 72) (con_X4_fail _ _ _) mth_X4_fail rfl ⟨wd_805, wp_20⟩ wd_803 (st0 := []) rfl rfl (by decide) (Nat.le_of_ble_eq_true rfl) dX4_takeNumber_72 (fun _ _ _ h => VX_out rfl (by decide) h) fun t101 u102 => ?_
  exact V_zreturn (κ := KX4_takeNumber) (pc := 75) rfl rfl dX4_takeNumber_75
theorem VBX4_takeNumber_23 {Γ : Gam} {k23 : Int → Int → Int → Int → Int → Mem → Rz} (hk23 : ∀ (y0 y1 y2 y3 y4 : Int) (ν : Mem), V Γ KX4_takeNumber 23 [(0, (2, y0)), (1, (0, y1)), (2, (0, y2)), (3, (0, y3)), (4, (0, y4))] [] ν (k23 y0 y1 y2 y3 y4 ν)) (x0 x1 x2 x3 x4 : Int) (μ : Mem) : V Γ KX4_takeNumber 23 [(0, (2, x0)), (1, (0, x1)), (2, (0, x2)), (3, (0, x3)), (4, (0, x4))] [] μ (BX4_takeNumber_23 k23 x0 x1 x2 x3 x4 μ) := by
  unfold BX4_takeNumber_23
  refine V_iload (κ := KX4_takeNumber) (pc := 23) dX4_takeNumber_23 4 rfl ?_
  refine V_aload_n (κ := KX4_takeNumber) (pc := 25) dX4_takeNumber_25 0 rfl rfl ?_
  refine V_getf 4 (κ := KX4_takeNumber) (pc := 26) rfl (by decide) rfl inX4 9 (by decide) wd_118 rfl (t := 0) rfl dX4_takeNumber_26 fun t101 => ?_
  refine V_icmp_ge (κ := KX4_takeNumber) (pc := 29) (tgt := 59) dX4_takeNumber_29 rfl ?_ ?_
  · refine V_iload_n (κ := KX4_takeNumber) (pc := 59) dX4_takeNumber_59 3 rfl ?_
    refine V_iload_n (κ := KX4_takeNumber) (pc := 60) dX4_takeNumber_60 1 rfl ?_
    refine V_icmp_lt (κ := KX4_takeNumber) (pc := 61) (tgt := 69) dX4_takeNumber_61 rfl ?_ ?_
    · refine V_sub (lv' := [(0, (2, x0))]) [0] rfl ?_
      exact VBX4_takeNumber_69 _ _
    refine V_iload_n (κ := KX4_takeNumber) (pc := 64) dX4_takeNumber_64 3 rfl ?_
    refine V_iload_n (κ := KX4_takeNumber) (pc := 65) dX4_takeNumber_65 2 rfl ?_
    refine V_icmp_le (κ := KX4_takeNumber) (pc := 66) (tgt := 76) dX4_takeNumber_66 rfl ?_ ?_
    · refine V_aload_n (κ := KX4_takeNumber) (pc := 76) dX4_takeNumber_76 0 rfl rfl ?_
      refine V_iload_n (κ := KX4_takeNumber) (pc := 77) dX4_takeNumber_77 3 rfl ?_
      refine V_putf 4 (κ := KX4_takeNumber) (pc := 78) rfl (by decide) rfl inX4 tyX4 tyX4_ok nmX4 10 (by decide) wd_119 rfl rfl (t := 0) rfl rfl dX4_takeNumber_78 fun u102 => ?_
      refine V_aload_n (κ := KX4_takeNumber) (pc := 81) dX4_takeNumber_81 0 rfl rfl ?_
      refine V_callV (ci := 4) (T := TX4) (N := 13) rfl (by decide) (κ := KX4_takeNumber) (pc := 82) (con_X4_advance _ _) mth_X4_advance rfl ⟨wd_786, wp_16⟩ wd_784 (st0 := []) rfl rfl (by decide) (Nat.le_of_ble_eq_true rfl) dX4_takeNumber_82 (fun _ _ _ h => VX_out rfl (by decide) h) fun _ u104 => ?_
      refine V_iconst (κ := KX4_takeNumber) (pc := 85) dX4_takeNumber_85 ⟨by decide, by decide⟩ ?_
      exact V_zreturn (κ := KX4_takeNumber) (pc := 86) rfl rfl dX4_takeNumber_86
    refine V_sub (lv' := [(0, (2, x0))]) [0] rfl ?_
    exact VBX4_takeNumber_69 _ _
  refine V_iload_n (κ := KX4_takeNumber) (pc := 32) dX4_takeNumber_32 3 rfl ?_
  refine V_bipush (κ := KX4_takeNumber) (pc := 33) dX4_takeNumber_33 ⟨by decide, by decide⟩ (by decide) ?_
  refine V_imul (κ := KX4_takeNumber) (pc := 35) dX4_takeNumber_35 ?_
  refine V_aload_n (κ := KX4_takeNumber) (pc := 36) dX4_takeNumber_36 0 rfl rfl ?_
  refine V_getf 4 (κ := KX4_takeNumber) (pc := 37) rfl (by decide) rfl inX4 2 (by decide) wd_111 rfl (t := 2) rfl dX4_takeNumber_37 fun t105 => ?_
  refine V_iload (κ := KX4_takeNumber) (pc := 40) dX4_takeNumber_40 4 rfl ?_
  refine V_baload (κ := KX4_takeNumber) (pc := 42) dX4_takeNumber_42 fun t106 => ?_
  refine V_iadd (κ := KX4_takeNumber) (pc := 43) dX4_takeNumber_43 ?_
  refine V_bipush (κ := KX4_takeNumber) (pc := 44) dX4_takeNumber_44 ⟨by decide, by decide⟩ (by decide) ?_
  refine V_isub (κ := KX4_takeNumber) (pc := 46) dX4_takeNumber_46 ?_
  refine V_ldc (κ := KX4_takeNumber) (pc := 47) (z := 1000000) dX4_takeNumber_47 wd_811 ⟨by decide, by decide⟩ (by decide) ?_
  refine V_callS (κ := KX4_takeNumber) (pc := 49) (con_J9_min_7cf53 _ _ _) mth_J9_min_7cf53 wd_502 wd_783 (st0 := []) rfl rfl (by decide) (Nat.le_of_ble_eq_true rfl) dX4_takeNumber_49 (fun _ _ _ h => VX_out rfl (by decide) h) fun t107 u108 => ?_
  refine V_istore_n (κ := KX4_takeNumber) (pc := 52) (lv' := [(3, (0, t107)), (0, (2, x0)), (1, (0, x1)), (2, (0, x2)), (4, (0, x4))]) dX4_takeNumber_52 (by decide) rfl ?_
  refine V_iinc (κ := KX4_takeNumber) (pc := 53) (lv' := [(4, (0, w32 (x4 + 1))), (3, (0, t107)), (0, (2, x0)), (1, (0, x1)), (2, (0, x2))]) dX4_takeNumber_53 4 rfl (by decide) rfl ?_
  refine V_goto (κ := KX4_takeNumber) (pc := 56) (tgt := 23) dX4_takeNumber_56 rfl ?_
  refine V_sub (lv' := [(0, (2, x0)), (1, (0, x1)), (2, (0, x2)), (3, (0, t107)), (4, (0, w32 (x4 + 1)))]) [2, 3, 4, 1, 0] rfl ?_
  exact hk23 _ _ _ _ _ _
theorem VLX4_takeNumber_23 {Γ : Gam} : ∀ (n : Nat) (x0 x1 x2 x3 x4 : Int) (μ : Mem), V Γ KX4_takeNumber 23 [(0, (2, x0)), (1, (0, x1)), (2, (0, x2)), (3, (0, x3)), (4, (0, x4))] [] μ (LX4_takeNumber_23 n x0 x1 x2 x3 x4 μ)
  | 0, _, _, _, _, _, _ => V_none
  | n + 1, x0, x1, x2, x3, x4, μ => VBX4_takeNumber_23 (fun y0 y1 y2 y3 y4 ν => VLX4_takeNumber_23 n y0 y1 y2 y3 y4 ν) x0 x1 x2 x3 x4 μ
theorem VBX4_takeNumber_0 {Γ : Gam} (x0 x1 x2 : Int) (μ : Mem) : V Γ KX4_takeNumber 0 [(0, (2, x0)), (1, (0, x1)), (2, (0, x2))] [] μ (BX4_takeNumber_0 x0 x1 x2 μ) := by
  unfold BX4_takeNumber_0
  refine V_aload_n (κ := KX4_takeNumber) (pc := 0) dX4_takeNumber_0 0 rfl rfl ?_
  refine V_getf 4 (κ := KX4_takeNumber) (pc := 1) rfl (by decide) rfl inX4 7 (by decide) wd_116 rfl (t := 0) rfl dX4_takeNumber_1 fun t101 => ?_
  refine V_iconst (κ := KX4_takeNumber) (pc := 4) dX4_takeNumber_4 ⟨by decide, by decide⟩ ?_
  refine V_icmp_eq (κ := KX4_takeNumber) (pc := 5) (tgt := 15) dX4_takeNumber_5 rfl ?_ ?_
  · refine V_iconst (κ := KX4_takeNumber) (pc := 15) dX4_takeNumber_15 ⟨by decide, by decide⟩ ?_
    refine V_istore_n (κ := KX4_takeNumber) (pc := 16) (lv' := [(3, (0, 0)), (0, (2, x0)), (1, (0, x1)), (2, (0, x2))]) dX4_takeNumber_16 (by decide) rfl ?_
    refine V_aload_n (κ := KX4_takeNumber) (pc := 17) dX4_takeNumber_17 1 rfl rfl ?_
    refine V_getf 4 (κ := KX4_takeNumber) (pc := 18) rfl (by decide) rfl inX4 8 (by decide) wd_117 rfl (t := 0) rfl dX4_takeNumber_18 fun t102 => ?_
    refine V_istore (κ := KX4_takeNumber) (pc := 21) (lv' := [(4, (0, t102)), (3, (0, 0)), (0, (2, x0)), (1, (0, x1)), (2, (0, x2))]) dX4_takeNumber_21 (by decide) rfl ?_
    refine V_sub (lv' := [(0, (2, x0)), (1, (0, x1)), (2, (0, x2)), (3, (0, 0)), (4, (0, t102))]) [2, 3, 4, 1, 0] rfl ?_
    exact VLX4_takeNumber_23 FU _ _ _ _ _ _
  refine V_aload_n (κ := KX4_takeNumber) (pc := 8) dX4_takeNumber_8 0 rfl rfl ?_
  refine V_bipush (κ := KX4_takeNumber) (pc := 9) dX4_takeNumber_9 ⟨by decide, by decide⟩ (by decide) ?_
  refine V_callV (ci := 4) (T := TX4) (N := 13) rfl (by decide) (κ := KX4_takeNumber) (pc := 11) (con_X4_fail _ _ _) mth_X4_fail rfl ⟨wd_805, wp_20⟩ wd_803 (st0 := []) rfl rfl (by decide) (Nat.le_of_ble_eq_true rfl) dX4_takeNumber_11 (fun _ _ _ h => VX_out rfl (by decide) h) fun t103 u104 => ?_
  exact V_zreturn (κ := KX4_takeNumber) (pc := 14) rfl rfl dX4_takeNumber_14
theorem con_X4_takeNumber (a0 a1 a2 : Int) (μ : Mem) : Con (5) yX4_takeNumber (.code yX4_takeNumber cX4_takeNumber 5 (some .boolean)) 0 [(2, a0), (0, a1), (0, a2)] μ (FX4_takeNumber a0 a1 a2 μ) := Con_intro KX4_takeNumber (plainFor_of_name (by decide)) rfl (fun h => by cases h) (by decide) rfl (Nat.le_of_ble_eq_true rfl) (fun Γ => VBX4_takeNumber_0 _ _ _ _)
abbrev KX4_isSign : Kap := (RX4, cX4_isSign, 2, 1, 0, (some .boolean), false, [])
theorem VBX4_isSign_26 {Γ : Gam} (s0 : Int) (μ : Mem) : V Γ KX4_isSign 26 [] [(0, s0)] μ (BX4_isSign_26 s0 μ) := by
  unfold BX4_isSign_26
  exact V_zreturn (κ := KX4_isSign) (pc := 26) rfl rfl dX4_isSign_26
theorem VBX4_isSign_25 {Γ : Gam} (μ : Mem) : V Γ KX4_isSign 25 [] [] μ (BX4_isSign_25 μ) := by
  unfold BX4_isSign_25
  refine V_iconst (κ := KX4_isSign) (pc := 25) dX4_isSign_25 ⟨by decide, by decide⟩ ?_
  exact VBX4_isSign_26 _ _
theorem VBX4_isSign_0 {Γ : Gam} (x0 x1 : Int) (μ : Mem) : V Γ KX4_isSign 0 [(0, (2, x0)), (1, (0, x1))] [] μ (BX4_isSign_0 x0 x1 μ) := by
  unfold BX4_isSign_0
  refine V_aload_n (κ := KX4_isSign) (pc := 0) dX4_isSign_0 0 rfl rfl ?_
  refine V_getf 4 (κ := KX4_isSign) (pc := 1) rfl (by decide) rfl inX4 7 (by decide) wd_116 rfl (t := 0) rfl dX4_isSign_1 fun t101 => ?_
  refine V_iconst (κ := KX4_isSign) (pc := 4) dX4_isSign_4 ⟨by decide, by decide⟩ ?_
  refine V_icmp_ne (κ := KX4_isSign) (pc := 5) (tgt := 25) dX4_isSign_5 rfl ?_ ?_
  · refine V_sub (lv' := []) [] rfl ?_
    exact VBX4_isSign_25 _
  refine V_aload_n (κ := KX4_isSign) (pc := 8) dX4_isSign_8 0 rfl rfl ?_
  refine V_getf 4 (κ := KX4_isSign) (pc := 9) rfl (by decide) rfl inX4 2 (by decide) wd_111 rfl (t := 2) rfl dX4_isSign_9 fun t102 => ?_
  refine V_aload_n (κ := KX4_isSign) (pc := 12) dX4_isSign_12 0 rfl rfl ?_
  refine V_getf 4 (κ := KX4_isSign) (pc := 13) rfl (by decide) rfl inX4 8 (by decide) wd_117 rfl (t := 0) rfl dX4_isSign_13 fun t103 => ?_
  refine V_baload (κ := KX4_isSign) (pc := 16) dX4_isSign_16 fun t104 => ?_
  refine V_iload_n (κ := KX4_isSign) (pc := 17) dX4_isSign_17 1 rfl ?_
  refine V_icmp_ne (κ := KX4_isSign) (pc := 18) (tgt := 25) dX4_isSign_18 rfl ?_ ?_
  · refine V_sub (lv' := []) [] rfl ?_
    exact VBX4_isSign_25 _
  refine V_iconst (κ := KX4_isSign) (pc := 21) dX4_isSign_21 ⟨by decide, by decide⟩ ?_
  refine V_goto (κ := KX4_isSign) (pc := 22) (tgt := 26) dX4_isSign_22 rfl ?_
  refine V_sub (lv' := []) [] rfl ?_
  exact VBX4_isSign_26 _ _
theorem con_X4_isSign (a0 a1 : Int) (μ : Mem) : Con (1) yX4_isSign (.code yX4_isSign cX4_isSign 2 (some .boolean)) 0 [(2, a0), (0, a1)] μ (FX4_isSign a0 a1 μ) := Con_intro KX4_isSign (plainFor_of_name (by decide)) rfl (fun h => by cases h) (by decide) rfl (Nat.le_of_ble_eq_true rfl) (fun Γ => VBX4_isSign_0 _ _ _)
abbrev KX4_takeSign : Kap := (RX4, cX4_takeSign, 2, 3, 0, (some .boolean), false, [])
theorem VBX4_takeSign_0 {Γ : Gam} (x0 x1 : Int) (μ : Mem) : V Γ KX4_takeSign 0 [(0, (2, x0)), (1, (0, x1))] [] μ (BX4_takeSign_0 x0 x1 μ) := by
  unfold BX4_takeSign_0
  refine V_aload_n (κ := KX4_takeSign) (pc := 0) dX4_takeSign_0 0 rfl rfl ?_
  refine V_iload_n (κ := KX4_takeSign) (pc := 1) dX4_takeSign_1 1 rfl ?_
  refine V_callV (ci := 4) (T := TX4) (N := 13) rfl (by decide) (κ := KX4_takeSign) (pc := 2) (con_X4_isSign _ _ _) mth_X4_isSign rfl ⟨wd_823, wp_23⟩ wd_821 (st0 := []) rfl rfl (by decide) (Nat.le_of_ble_eq_true rfl) dX4_takeSign_2 (fun _ _ _ h => VX_out rfl (by decide) h) fun t101 u102 => ?_
  refine V_if_ne (κ := KX4_takeSign) (pc := 5) (tgt := 15) dX4_takeSign_5 rfl ?_ ?_
  · refine V_aload_n (κ := KX4_takeSign) (pc := 15) dX4_takeSign_15 0 rfl rfl ?_
    refine V_callV (ci := 4) (T := TX4) (N := 13) rfl (by decide) (κ := KX4_takeSign) (pc := 16) (con_X4_advance _ _) mth_X4_advance rfl ⟨wd_786, wp_16⟩ wd_784 (st0 := []) rfl rfl (by decide) (Nat.le_of_ble_eq_true rfl) dX4_takeSign_16 (fun _ _ _ h => VX_out rfl (by decide) h) fun _ u104 => ?_
    refine V_iconst (κ := KX4_takeSign) (pc := 19) dX4_takeSign_19 ⟨by decide, by decide⟩ ?_
    exact V_zreturn (κ := KX4_takeSign) (pc := 20) rfl rfl dX4_takeSign_20
  refine V_aload_n (κ := KX4_takeSign) (pc := 8) dX4_takeSign_8 0 rfl rfl ?_
  refine V_bipush (κ := KX4_takeSign) (pc := 9) dX4_takeSign_9 ⟨by decide, by decide⟩ (by decide) ?_
  refine V_callV (ci := 4) (T := TX4) (N := 13) rfl (by decide) (κ := KX4_takeSign) (pc := 11) (con_X4_fail _ _ _) mth_X4_fail rfl ⟨wd_805, wp_20⟩ wd_803 (st0 := []) rfl rfl (by decide) (Nat.le_of_ble_eq_true rfl) dX4_takeSign_11 (fun _ _ _ h => VX_out rfl (by decide) h) fun t105 u106 => ?_
  exact V_zreturn (κ := KX4_takeSign) (pc := 14) rfl rfl dX4_takeSign_14
theorem con_X4_takeSign (a0 a1 : Int) (μ : Mem) : Con (3) yX4_takeSign (.code yX4_takeSign cX4_takeSign 2 (some .boolean)) 0 [(2, a0), (0, a1)] μ (FX4_takeSign a0 a1 μ) := Con_intro KX4_takeSign (plainFor_of_name (by decide)) rfl (fun h => by cases h) (by decide) rfl (Nat.le_of_ble_eq_true rfl) (fun Γ => VBX4_takeSign_0 _ _ _)
abbrev KX5_empty : Kap := (RX5, cX5_empty, 3, 2, 9, none, false, [])
theorem VBX5_empty_0 {Γ : Gam} (x0 x1 x2 : Int) (μ : Mem) : V Γ KX5_empty 0 [(0, (2, x0)), (1, (0, x1)), (2, (0, x2))] [] μ (BX5_empty_0 x0 x1 x2 μ) := by
  unfold BX5_empty_0
  refine V_aload_n (κ := KX5_empty) (pc := 0) dX5_empty_0 0 rfl rfl ?_
  refine V_iload_n (κ := KX5_empty) (pc := 1) dX5_empty_1 1 rfl ?_
  refine V_putf 5 (κ := KX5_empty) (pc := 2) rfl (by decide) rfl inX5 tyX5 tyX5_ok nmX5 0 (by decide) wd_204 rfl rfl (t := 0) rfl rfl dX5_empty_2 fun u101 => ?_
  refine V_aload_n (κ := KX5_empty) (pc := 5) dX5_empty_5 0 rfl rfl ?_
  refine V_iload_n (κ := KX5_empty) (pc := 6) dX5_empty_6 2 rfl ?_
  refine V_putf 5 (κ := KX5_empty) (pc := 7) rfl (by decide) rfl inX5 tyX5 tyX5_ok nmX5 1 (by decide) wd_208 rfl rfl (t := 0) rfl rfl dX5_empty_7 fun u102 => ?_
  refine V_aload_n (κ := KX5_empty) (pc := 10) dX5_empty_10 0 rfl rfl ?_
  refine V_iconst (κ := KX5_empty) (pc := 11) dX5_empty_11 ⟨by decide, by decide⟩ ?_
  refine V_putf 5 (κ := KX5_empty) (pc := 12) rfl (by decide) rfl inX5 tyX5 tyX5_ok nmX5 2 (by decide) wd_212 rfl rfl (t := 0) rfl rfl dX5_empty_12 fun u103 => ?_
  refine V_aload_n (κ := KX5_empty) (pc := 15) dX5_empty_15 0 rfl rfl ?_
  refine V_iconst (κ := KX5_empty) (pc := 16) dX5_empty_16 ⟨by decide, by decide⟩ ?_
  refine V_putf 5 (κ := KX5_empty) (pc := 17) rfl (by decide) rfl inX5 tyX5 tyX5_ok nmX5 3 (by decide) wd_216 rfl rfl (t := 0) rfl rfl dX5_empty_17 fun u104 => ?_
  refine V_aload_n (κ := KX5_empty) (pc := 20) dX5_empty_20 0 rfl rfl ?_
  refine V_getf 5 (κ := KX5_empty) (pc := 21) rfl (by decide) rfl inX5 5 (by decide) wd_224 rfl (t := 2) rfl dX5_empty_21 fun t105 => ?_
  refine V_iconst (κ := KX5_empty) (pc := 24) dX5_empty_24 ⟨by decide, by decide⟩ ?_
  refine V_callS (κ := KX5_empty) (pc := 25) (con_J7_fill_53178 _ _ _) mth_J7_fill_53178 wd_376 wd_816 (st0 := []) rfl rfl (by decide) (Nat.le_of_ble_eq_true rfl) dX5_empty_25 (fun _ _ _ h => VX_out rfl (by decide) h) fun _ u107 => ?_
  refine V_aload_n (κ := KX5_empty) (pc := 28) dX5_empty_28 0 rfl rfl ?_
  refine V_getf 5 (κ := KX5_empty) (pc := 29) rfl (by decide) rfl inX5 6 (by decide) wd_228 rfl (t := 2) rfl dX5_empty_29 fun t108 => ?_
  refine V_iconst (κ := KX5_empty) (pc := 32) dX5_empty_32 ⟨by decide, by decide⟩ ?_
  refine V_callS (κ := KX5_empty) (pc := 33) (con_J7_fill_53178 _ _ _) mth_J7_fill_53178 wd_376 wd_816 (st0 := []) rfl rfl (by decide) (Nat.le_of_ble_eq_true rfl) dX5_empty_33 (fun _ _ _ h => VX_out rfl (by decide) h) fun _ u110 => ?_
  exact V_vreturn (κ := KX5_empty) (pc := 36) rfl rfl dX5_empty_36
theorem con_X5_empty (a0 a1 a2 : Int) (μ : Mem) : Con (2) yX5_empty (.code yX5_empty cX5_empty 3 none) 9 [(2, a0), (0, a1), (0, a2)] μ (FX5_empty a0 a1 a2 μ) := Con_intro KX5_empty (plainFor_of_name (by decide)) rfl (fun h => by cases h) (by decide) rfl (Nat.le_of_ble_eq_true rfl) (fun Γ => VBX5_empty_0 _ _ _ _)
abbrev KX4_readPicture : Kap := (RX4, cX4_readPicture, 2, 8, 0, (some .boolean), false, [])
theorem VBX4_readPicture_0 {Γ : Gam} (x0 : Int) (μ : Mem) : V Γ KX4_readPicture 0 [(0, (2, x0))] [] μ (BX4_readPicture_0 x0 μ) := by
  unfold BX4_readPicture_0
  refine V_aload_n (κ := KX4_readPicture) (pc := 0) dX4_readPicture_0 0 rfl rfl ?_
  refine V_ldcs (κ := KX4_readPicture) (pc := 1) (tx := "picture") (w := 0) (show (RX4, 66, "picture", 0) ∈ wrds by decide) dX4_readPicture_1 (by decide) ?_
  refine V_callV (ci := 4) (T := TX4) (N := 13) rfl (by decide) (κ := KX4_readPicture) (pc := 3) (con_X4_isWord _ _ _) mth_X4_isWord rfl ⟨wd_799, wp_19⟩ wd_797 (st0 := []) rfl rfl (by decide) (Nat.le_of_ble_eq_true rfl) dX4_readPicture_3 (fun _ _ _ h => VX_out rfl (by decide) h) fun t101 u102 => ?_
  refine V_if_ne (κ := KX4_readPicture) (pc := 6) (tgt := 16) dX4_readPicture_6 rfl ?_ ?_
  · refine V_aload_n (κ := KX4_readPicture) (pc := 16) dX4_readPicture_16 0 rfl rfl ?_
    refine V_callV (ci := 4) (T := TX4) (N := 13) rfl (by decide) (κ := KX4_readPicture) (pc := 17) (con_X4_advance _ _) mth_X4_advance rfl ⟨wd_786, wp_16⟩ wd_784 (st0 := []) rfl rfl (by decide) (Nat.le_of_ble_eq_true rfl) dX4_readPicture_17 (fun _ _ _ h => VX_out rfl (by decide) h) fun _ u104 => ?_
    refine V_aload_n (κ := KX4_readPicture) (pc := 20) dX4_readPicture_20 0 rfl rfl ?_
    refine V_iconst (κ := KX4_readPicture) (pc := 21) dX4_readPicture_21 ⟨by decide, by decide⟩ ?_
    refine V_bipush (κ := KX4_readPicture) (pc := 22) dX4_readPicture_22 ⟨by decide, by decide⟩ (by decide) ?_
    refine V_callV (ci := 4) (T := TX4) (N := 13) rfl (by decide) (κ := KX4_readPicture) (pc := 24) (con_X4_takeNumber _ _ _ _) mth_X4_takeNumber rfl ⟨wd_809, wp_21⟩ wd_807 (st0 := []) rfl rfl (by decide) (Nat.le_of_ble_eq_true rfl) dX4_readPicture_24 (fun _ _ _ h => VX_out rfl (by decide) h) fun t105 u106 => ?_
    refine V_if_ne (κ := KX4_readPicture) (pc := 27) (tgt := 32) dX4_readPicture_27 rfl ?_ ?_
    · refine V_aload_n (κ := KX4_readPicture) (pc := 32) dX4_readPicture_32 0 rfl rfl ?_
      refine V_getf 4 (κ := KX4_readPicture) (pc := 33) rfl (by decide) rfl inX4 10 (by decide) wd_119 rfl (t := 0) rfl dX4_readPicture_33 fun t107 => ?_
      refine V_istore_n (κ := KX4_readPicture) (pc := 36) (lv' := [(1, (0, t107)), (0, (2, x0))]) dX4_readPicture_36 (by decide) rfl ?_
      refine V_aload_n (κ := KX4_readPicture) (pc := 37) dX4_readPicture_37 1 rfl rfl ?_
      refine V_iconst (κ := KX4_readPicture) (pc := 38) dX4_readPicture_38 ⟨by decide, by decide⟩ ?_
      refine V_bipush (κ := KX4_readPicture) (pc := 39) dX4_readPicture_39 ⟨by decide, by decide⟩ (by decide) ?_
      refine V_callV (ci := 4) (T := TX4) (N := 13) rfl (by decide) (κ := KX4_readPicture) (pc := 41) (con_X4_takeNumber _ _ _ _) mth_X4_takeNumber rfl ⟨wd_809, wp_21⟩ wd_807 (st0 := []) rfl rfl (by decide) (Nat.le_of_ble_eq_true rfl) dX4_readPicture_41 (fun _ _ _ h => VX_out rfl (by decide) h) fun t108 u109 => ?_
      refine V_if_ne (κ := KX4_readPicture) (pc := 44) (tgt := 49) dX4_readPicture_44 rfl ?_ ?_
      · refine V_aload_n (κ := KX4_readPicture) (pc := 49) dX4_readPicture_49 1 rfl rfl ?_
        refine V_getf 4 (κ := KX4_readPicture) (pc := 50) rfl (by decide) rfl inX4 4 (by decide) wd_113 rfl (t := 2) rfl dX4_readPicture_50 fun t110 => ?_
        refine V_iload_n (κ := KX4_readPicture) (pc := 53) dX4_readPicture_53 0 rfl ?_
        refine V_aload_n (κ := KX4_readPicture) (pc := 54) dX4_readPicture_54 1 rfl rfl ?_
        refine V_getf 4 (κ := KX4_readPicture) (pc := 55) rfl (by decide) rfl inX4 10 (by decide) wd_119 rfl (t := 0) rfl dX4_readPicture_55 fun t111 => ?_
        refine V_callV (ci := 5) (T := TX5) (N := 7) rfl (by decide) (κ := KX4_readPicture) (pc := 58) (con_X5_empty _ _ _ _) mth_X5_empty rfl ⟨wd_813, wd_814⟩ wd_812 (st0 := []) rfl rfl (by decide) (Nat.le_of_ble_eq_true rfl) dX4_readPicture_58 (fun _ _ _ h => VX_out rfl (by decide) h) fun _ u113 => ?_
        refine V_aload_n (κ := KX4_readPicture) (pc := 61) dX4_readPicture_61 1 rfl rfl ?_
        refine V_bipush (κ := KX4_readPicture) (pc := 62) dX4_readPicture_62 ⟨by decide, by decide⟩ (by decide) ?_
        refine V_callV (ci := 4) (T := TX4) (N := 13) rfl (by decide) (κ := KX4_readPicture) (pc := 64) (con_X4_takeSign _ _ _) mth_X4_takeSign rfl ⟨wd_819, wp_22⟩ wd_817 (st0 := []) rfl rfl (by decide) (Nat.le_of_ble_eq_true rfl) dX4_readPicture_64 (fun _ _ _ h => VX_out rfl (by decide) h) fun t114 u115 => ?_
        exact V_zreturn (κ := KX4_readPicture) (pc := 67) rfl rfl dX4_readPicture_67
      refine V_iconst (κ := KX4_readPicture) (pc := 47) dX4_readPicture_47 ⟨by decide, by decide⟩ ?_
      exact V_zreturn (κ := KX4_readPicture) (pc := 48) rfl rfl dX4_readPicture_48
    refine V_iconst (κ := KX4_readPicture) (pc := 30) dX4_readPicture_30 ⟨by decide, by decide⟩ ?_
    exact V_zreturn (κ := KX4_readPicture) (pc := 31) rfl rfl dX4_readPicture_31
  refine V_aload_n (κ := KX4_readPicture) (pc := 9) dX4_readPicture_9 0 rfl rfl ?_
  refine V_bipush (κ := KX4_readPicture) (pc := 10) dX4_readPicture_10 ⟨by decide, by decide⟩ (by decide) ?_
  refine V_callV (ci := 4) (T := TX4) (N := 13) rfl (by decide) (κ := KX4_readPicture) (pc := 12) (con_X4_fail _ _ _) mth_X4_fail rfl ⟨wd_805, wp_20⟩ wd_803 (st0 := []) rfl rfl (by decide) (Nat.le_of_ble_eq_true rfl) dX4_readPicture_12 (fun _ _ _ h => VX_out rfl (by decide) h) fun t116 u117 => ?_
  exact V_zreturn (κ := KX4_readPicture) (pc := 15) rfl rfl dX4_readPicture_15
theorem con_X4_readPicture (a0 : Int) (μ : Mem) : Con (8) yX4_readPicture (.code yX4_readPicture cX4_readPicture 2 (some .boolean)) 0 [(2, a0)] μ (FX4_readPicture a0 μ) := Con_intro KX4_readPicture (plainFor_of_name (by decide)) rfl (fun h => by cases h) (by decide) rfl (Nat.le_of_ble_eq_true rfl) (fun Γ => VBX4_readPicture_0 _ _)
abbrev KX4_isName : Kap := (RX4, cX4_isName, 1, 2, 0, (some .boolean), false, [])
theorem VBX4_isName_43 {Γ : Gam} (s0 : Int) (μ : Mem) : V Γ KX4_isName 43 [] [(0, s0)] μ (BX4_isName_43 s0 μ) := by
  unfold BX4_isName_43
  exact V_zreturn (κ := KX4_isName) (pc := 43) rfl rfl dX4_isName_43
theorem VBX4_isName_38 {Γ : Gam} (μ : Mem) : V Γ KX4_isName 38 [] [] μ (BX4_isName_38 μ) := by
  unfold BX4_isName_38
  refine V_iconst (κ := KX4_isName) (pc := 38) dX4_isName_38 ⟨by decide, by decide⟩ ?_
  refine V_goto (κ := KX4_isName) (pc := 39) (tgt := 43) dX4_isName_39 rfl ?_
  exact VBX4_isName_43 _ _
theorem VBX4_isName_0 {Γ : Gam} (x0 : Int) (μ : Mem) : V Γ KX4_isName 0 [(0, (2, x0))] [] μ (BX4_isName_0 x0 μ) := by
  unfold BX4_isName_0
  refine V_aload_n (κ := KX4_isName) (pc := 0) dX4_isName_0 0 rfl rfl ?_
  refine V_getf 4 (κ := KX4_isName) (pc := 1) rfl (by decide) rfl inX4 7 (by decide) wd_116 rfl (t := 0) rfl dX4_isName_1 fun t101 => ?_
  refine V_iconst (κ := KX4_isName) (pc := 4) dX4_isName_4 ⟨by decide, by decide⟩ ?_
  refine V_icmp_eq (κ := KX4_isName) (pc := 5) (tgt := 15) dX4_isName_5 rfl ?_ ?_
  · refine V_aload_n (κ := KX4_isName) (pc := 15) dX4_isName_15 0 rfl rfl ?_
    refine V_getf 4 (κ := KX4_isName) (pc := 16) rfl (by decide) rfl inX4 9 (by decide) wd_118 rfl (t := 0) rfl dX4_isName_16 fun t102 => ?_
    refine V_aload_n (κ := KX4_isName) (pc := 19) dX4_isName_19 0 rfl rfl ?_
    refine V_getf 4 (κ := KX4_isName) (pc := 20) rfl (by decide) rfl inX4 8 (by decide) wd_117 rfl (t := 0) rfl dX4_isName_20 fun t103 => ?_
    refine V_isub (κ := KX4_isName) (pc := 23) dX4_isName_23 ?_
    refine V_bipush (κ := KX4_isName) (pc := 24) dX4_isName_24 ⟨by decide, by decide⟩ (by decide) ?_
    refine V_icmp_le (κ := KX4_isName) (pc := 26) (tgt := 38) dX4_isName_26 rfl ?_ ?_
    · refine V_sub (lv' := []) [] rfl ?_
      exact VBX4_isName_38 _
    refine V_aload_n (κ := KX4_isName) (pc := 29) dX4_isName_29 0 rfl rfl ?_
    refine V_bipush (κ := KX4_isName) (pc := 30) dX4_isName_30 ⟨by decide, by decide⟩ (by decide) ?_
    refine V_callV (ci := 4) (T := TX4) (N := 13) rfl (by decide) (κ := KX4_isName) (pc := 32) (con_X4_fail _ _ _) mth_X4_fail rfl ⟨wd_805, wp_20⟩ wd_803 (st0 := []) rfl rfl (by decide) (Nat.le_of_ble_eq_true rfl) dX4_isName_32 (fun _ _ _ h => VX_out rfl (by decide) h) fun t104 u105 => ?_
    refine V_if_eq (κ := KX4_isName) (pc := 35) (tgt := 42) dX4_isName_35 rfl ?_ ?_
    · refine V_iconst (κ := KX4_isName) (pc := 42) dX4_isName_42 ⟨by decide, by decide⟩ ?_
      refine V_sub (lv' := []) [] rfl ?_
      exact VBX4_isName_43 _ _
    refine V_sub (lv' := []) [] rfl ?_
    exact VBX4_isName_38 _
  refine V_aload_n (κ := KX4_isName) (pc := 8) dX4_isName_8 0 rfl rfl ?_
  refine V_bipush (κ := KX4_isName) (pc := 9) dX4_isName_9 ⟨by decide, by decide⟩ (by decide) ?_
  refine V_callV (ci := 4) (T := TX4) (N := 13) rfl (by decide) (κ := KX4_isName) (pc := 11) (con_X4_fail _ _ _) mth_X4_fail rfl ⟨wd_805, wp_20⟩ wd_803 (st0 := []) rfl rfl (by decide) (Nat.le_of_ble_eq_true rfl) dX4_isName_11 (fun _ _ _ h => VX_out rfl (by decide) h) fun t106 u107 => ?_
  exact V_zreturn (κ := KX4_isName) (pc := 14) rfl rfl dX4_isName_14
theorem con_X4_isName (a0 : Int) (μ : Mem) : Con (2) yX4_isName (.code yX4_isName cX4_isName 1 (some .boolean)) 0 [(2, a0)] μ (FX4_isName a0 μ) := Con_intro KX4_isName (plainFor_of_name (by decide)) rfl (fun h => by cases h) (by decide) rfl (Nat.le_of_ble_eq_true rfl) (fun Γ => VBX4_isName_0 _ _)
abbrev KX5_indexOfName : Kap := (RX5, cX5_indexOfName, 4, 1, 0, (some .int), false, [])
theorem VBX5_indexOfName_2 {Γ : Gam} {k2 : Int → Int → Int → Mem → Rz} (hk2 : ∀ (y0 y1 y3 : Int) (ν : Mem), V Γ KX5_indexOfName 2 [(0, (2, y0)), (1, (1, y1)), (3, (0, y3))] [] ν (k2 y0 y1 y3 ν)) (x0 x1 x3 : Int) (μ : Mem) : V Γ KX5_indexOfName 2 [(0, (2, x0)), (1, (1, x1)), (3, (0, x3))] [] μ (BX5_indexOfName_2 k2 x0 x1 x3 μ) := by
  unfold BX5_indexOfName_2
  refine V_iload_n (κ := KX5_indexOfName) (pc := 2) dX5_indexOfName_2 2 rfl ?_
  refine V_aload_n (κ := KX5_indexOfName) (pc := 3) dX5_indexOfName_3 0 rfl rfl ?_
  refine V_getf 5 (κ := KX5_indexOfName) (pc := 4) rfl (by decide) rfl inX5 3 (by decide) wd_216 rfl (t := 0) rfl dX5_indexOfName_4 fun t101 => ?_
  refine V_icmp_ge (κ := KX5_indexOfName) (pc := 7) (tgt := 32) dX5_indexOfName_7 rfl ?_ ?_
  · refine V_iconst (κ := KX5_indexOfName) (pc := 32) dX5_indexOfName_32 ⟨by decide, by decide⟩ ?_
    exact V_ireturn (κ := KX5_indexOfName) (pc := 33) rfl rfl dX5_indexOfName_33
  refine V_aload_n (κ := KX5_indexOfName) (pc := 10) dX5_indexOfName_10 0 rfl rfl ?_
  refine V_getf 5 (κ := KX5_indexOfName) (pc := 11) rfl (by decide) rfl inX5 4 (by decide) wd_220 rfl (t := 2) rfl dX5_indexOfName_11 fun t102 => ?_
  refine V_iload_n (κ := KX5_indexOfName) (pc := 14) dX5_indexOfName_14 2 rfl ?_
  refine V_aaload 5 (by decide) rfl rfl (κ := KX5_indexOfName) (pc := 15) dX5_indexOfName_15 fun t103 => ?_
  refine V_getf 1 (κ := KX5_indexOfName) (pc := 16) rfl (by decide) rfl inX1 0 (by decide) wd_162 rfl (t := 1) rfl dX5_indexOfName_16 fun t104 => ?_
  refine V_lload_n (κ := KX5_indexOfName) (pc := 19) dX5_indexOfName_19 1 rfl ?_
  refine V_lcmp (κ := KX5_indexOfName) (pc := 20) dX5_indexOfName_20 ?_
  refine V_if_ne (κ := KX5_indexOfName) (pc := 21) (tgt := 26) dX5_indexOfName_21 rfl ?_ ?_
  · refine V_iinc (κ := KX5_indexOfName) (pc := 26) (lv' := [(3, (0, w32 (x3 + 1))), (0, (2, x0)), (1, (1, x1))]) dX5_indexOfName_26 2 rfl (by decide) rfl ?_
    refine V_goto (κ := KX5_indexOfName) (pc := 29) (tgt := 2) dX5_indexOfName_29 rfl ?_
    refine V_sub (lv' := [(0, (2, x0)), (1, (1, x1)), (3, (0, w32 (x3 + 1)))]) [1, 2, 0] rfl ?_
    exact hk2 _ _ _ _
  refine V_iload_n (κ := KX5_indexOfName) (pc := 24) dX5_indexOfName_24 2 rfl ?_
  exact V_ireturn (κ := KX5_indexOfName) (pc := 25) rfl rfl dX5_indexOfName_25
theorem VLX5_indexOfName_2 {Γ : Gam} : ∀ (n : Nat) (x0 x1 x3 : Int) (μ : Mem), V Γ KX5_indexOfName 2 [(0, (2, x0)), (1, (1, x1)), (3, (0, x3))] [] μ (LX5_indexOfName_2 n x0 x1 x3 μ)
  | 0, _, _, _, _ => V_none
  | n + 1, x0, x1, x3, μ => VBX5_indexOfName_2 (fun y0 y1 y3 ν => VLX5_indexOfName_2 n y0 y1 y3 ν) x0 x1 x3 μ
theorem VBX5_indexOfName_0 {Γ : Gam} (x0 x1 : Int) (μ : Mem) : V Γ KX5_indexOfName 0 [(0, (2, x0)), (1, (1, x1))] [] μ (BX5_indexOfName_0 x0 x1 μ) := by
  unfold BX5_indexOfName_0
  refine V_iconst (κ := KX5_indexOfName) (pc := 0) dX5_indexOfName_0 ⟨by decide, by decide⟩ ?_
  refine V_istore_n (κ := KX5_indexOfName) (pc := 1) (lv' := [(3, (0, 0)), (0, (2, x0)), (1, (1, x1))]) dX5_indexOfName_1 (by decide) rfl ?_
  refine V_sub (lv' := [(0, (2, x0)), (1, (1, x1)), (3, (0, 0))]) [1, 2, 0] rfl ?_
  exact VLX5_indexOfName_2 FU _ _ _ _
theorem con_X5_indexOfName (a0 a1 : Int) (μ : Mem) : Con (1) yX5_indexOfName (.code yX5_indexOfName cX5_indexOfName 4 (some .int)) 0 [(2, a0), (1, a1)] μ (FX5_indexOfName a0 a1 μ) := Con_intro KX5_indexOfName (plainFor_of_name (by decide)) rfl (fun h => by cases h) (by decide) rfl (Nat.le_of_ble_eq_true rfl) (fun Γ => VBX5_indexOfName_0 _ _ _)
abbrev KX6_packedName : Kap := (RX6, cX6_packedName, 6, 1, 1, (some .long), false, [])
theorem VBX6_packedName_40 {Γ : Gam} (x3 : Int) (μ : Mem) : V Γ KX6_packedName 40 [(3, (1, x3))] [] μ (BX6_packedName_40 x3 μ) := by
  unfold BX6_packedName_40
  refine V_lload_n (κ := KX6_packedName) (pc := 40) dX6_packedName_40 0 rfl ?_
  exact V_lreturn (κ := KX6_packedName) (pc := 41) rfl rfl dX6_packedName_41
theorem VBX6_packedName_5 {Γ : Gam} {k5 : Int → Int → Int → Int → Mem → Rz} (hk5 : ∀ (y0 y2 y3 y5 : Int) (ν : Mem), V Γ KX6_packedName 5 [(0, (2, y0)), (2, (0, y2)), (3, (1, y3)), (5, (0, y5))] [] ν (k5 y0 y2 y3 y5 ν)) (x0 x2 x3 x5 : Int) (μ : Mem) : V Γ KX6_packedName 5 [(0, (2, x0)), (2, (0, x2)), (3, (1, x3)), (5, (0, x5))] [] μ (BX6_packedName_5 k5 x0 x2 x3 x5 μ) := by
  unfold BX6_packedName_5
  refine V_iload (κ := KX6_packedName) (pc := 5) dX6_packedName_5 3 rfl ?_
  refine V_iload_n (κ := KX6_packedName) (pc := 7) dX6_packedName_7 1 rfl ?_
  refine V_icmp_ge (κ := KX6_packedName) (pc := 8) (tgt := 40) dX6_packedName_8 rfl ?_ ?_
  · refine V_sub (lv' := [(3, (1, x3))]) [2] rfl ?_
    exact VBX6_packedName_40 _ _
  refine V_iload (κ := KX6_packedName) (pc := 11) dX6_packedName_11 3 rfl ?_
  refine V_aload_n (κ := KX6_packedName) (pc := 13) dX6_packedName_13 0 rfl rfl ?_
  refine V_alen 0 (by decide) (κ := KX6_packedName) (pc := 14) dX6_packedName_14 fun t101 => ?_
  refine V_icmp_ge (κ := KX6_packedName) (pc := 15) (tgt := 40) dX6_packedName_15 rfl ?_ ?_
  · refine V_sub (lv' := [(3, (1, x3))]) [2] rfl ?_
    exact VBX6_packedName_40 _ _
  refine V_lload_n (κ := KX6_packedName) (pc := 18) dX6_packedName_18 2 rfl ?_
  refine V_ldc2 (κ := KX6_packedName) (pc := 19) (z := 256) dX6_packedName_19 wd_847 ⟨by decide, by decide⟩ (by decide) ?_
  refine V_lmul (κ := KX6_packedName) (pc := 22) dX6_packedName_22 ?_
  refine V_aload_n (κ := KX6_packedName) (pc := 23) dX6_packedName_23 0 rfl rfl ?_
  refine V_iload (κ := KX6_packedName) (pc := 24) dX6_packedName_24 3 rfl ?_
  refine V_baload (κ := KX6_packedName) (pc := 26) dX6_packedName_26 fun t102 => ?_
  refine V_sipush (κ := KX6_packedName) (pc := 27) dX6_packedName_27 ⟨by decide, by decide⟩ (by decide) ?_
  refine V_iand (κ := KX6_packedName) (pc := 30) dX6_packedName_30 ?_
  refine V_i2l (κ := KX6_packedName) (pc := 31) dX6_packedName_31 ?_
  refine V_ladd (κ := KX6_packedName) (pc := 32) dX6_packedName_32 ?_
  refine V_LT fun x103 => ?_
  refine V_lstore_n (κ := KX6_packedName) (pc := 33) (lv' := [(3, (1, x103)), (0, (2, x0)), (2, (0, x2)), (5, (0, x5))]) dX6_packedName_33 (by decide) rfl ?_
  refine V_iinc (κ := KX6_packedName) (pc := 34) (lv' := [(5, (0, w32 (x5 + 1))), (3, (1, x103)), (0, (2, x0)), (2, (0, x2))]) dX6_packedName_34 3 rfl (by decide) rfl ?_
  refine V_goto (κ := KX6_packedName) (pc := 37) (tgt := 5) dX6_packedName_37 rfl ?_
  refine V_sub (lv' := [(0, (2, x0)), (2, (0, x2)), (3, (1, x103)), (5, (0, w32 (x5 + 1)))]) [2, 3, 1, 0] rfl ?_
  exact hk5 _ _ _ _ _
theorem VLX6_packedName_5 {Γ : Gam} : ∀ (n : Nat) (x0 x2 x3 x5 : Int) (μ : Mem), V Γ KX6_packedName 5 [(0, (2, x0)), (2, (0, x2)), (3, (1, x3)), (5, (0, x5))] [] μ (LX6_packedName_5 n x0 x2 x3 x5 μ)
  | 0, _, _, _, _, _ => V_none
  | n + 1, x0, x2, x3, x5, μ => VBX6_packedName_5 (fun y0 y2 y3 y5 ν => VLX6_packedName_5 n y0 y2 y3 y5 ν) x0 x2 x3 x5 μ
theorem VBX6_packedName_0 {Γ : Gam} (x0 x1 x2 : Int) (μ : Mem) : V Γ KX6_packedName 0 [(0, (2, x0)), (1, (0, x1)), (2, (0, x2))] [] μ (BX6_packedName_0 x0 x1 x2 μ) := by
  unfold BX6_packedName_0
  refine V_lconst (κ := KX6_packedName) (pc := 0) (z := 1) dX6_packedName_0 ⟨by decide, by decide⟩ (by decide) ?_
  refine V_lstore_n (κ := KX6_packedName) (pc := 1) (lv' := [(3, (1, 1)), (0, (2, x0)), (1, (0, x1)), (2, (0, x2))]) dX6_packedName_1 (by decide) rfl ?_
  refine V_iload_n (κ := KX6_packedName) (pc := 2) dX6_packedName_2 2 rfl ?_
  refine V_istore (κ := KX6_packedName) (pc := 3) (lv' := [(5, (0, x1)), (3, (1, 1)), (0, (2, x0)), (1, (0, x1)), (2, (0, x2))]) dX6_packedName_3 (by decide) rfl ?_
  refine V_sub (lv' := [(0, (2, x0)), (2, (0, x2)), (3, (1, 1)), (5, (0, x1))]) [2, 4, 1, 0] rfl ?_
  exact VLX6_packedName_5 FU _ _ _ _ _
theorem con_X6_packedName (a0 a1 a2 : Int) (μ : Mem) : Con (1) yX6_packedName (.code yX6_packedName cX6_packedName 6 (some .long)) 1 [(2, a0), (0, a1), (0, a2)] μ (FX6_packedName a0 a1 a2 μ) := Con_intro KX6_packedName (plainFor_of_name (by decide)) rfl (fun h => by cases h) (by decide) rfl (Nat.le_of_ble_eq_true rfl) (fun Γ => VBX6_packedName_0 _ _ _ _)
abbrev KX4_readInk : Kap := (RX4, cX4_readInk, 2, 6, 0, (some .boolean), false, [])
theorem VBX4_readInk_0 {Γ : Gam} (x0 : Int) (μ : Mem) : V Γ KX4_readInk 0 [(0, (2, x0))] [] μ (BX4_readInk_0 x0 μ) := by
  unfold BX4_readInk_0
  refine V_aload_n (κ := KX4_readInk) (pc := 0) dX4_readInk_0 0 rfl rfl ?_
  refine V_callV (ci := 4) (T := TX4) (N := 13) rfl (by decide) (κ := KX4_readInk) (pc := 1) (con_X4_advance _ _) mth_X4_advance rfl ⟨wd_786, wp_16⟩ wd_784 (st0 := []) rfl rfl (by decide) (Nat.le_of_ble_eq_true rfl) dX4_readInk_1 (fun _ _ _ h => VX_out rfl (by decide) h) fun _ u102 => ?_
  refine V_aload_n (κ := KX4_readInk) (pc := 4) dX4_readInk_4 0 rfl rfl ?_
  refine V_callV (ci := 4) (T := TX4) (N := 13) rfl (by decide) (κ := KX4_readInk) (pc := 5) (con_X4_isName _ _) mth_X4_isName rfl ⟨wd_842, wp_27⟩ wd_840 (st0 := []) rfl rfl (by decide) (Nat.le_of_ble_eq_true rfl) dX4_readInk_5 (fun _ _ _ h => VX_out rfl (by decide) h) fun t103 u104 => ?_
  refine V_if_ne (κ := KX4_readInk) (pc := 8) (tgt := 13) dX4_readInk_8 rfl ?_ ?_
  · refine V_aload_n (κ := KX4_readInk) (pc := 13) dX4_readInk_13 0 rfl rfl ?_
    refine V_getf 4 (κ := KX4_readInk) (pc := 14) rfl (by decide) rfl inX4 4 (by decide) wd_113 rfl (t := 2) rfl dX4_readInk_14 fun t105 => ?_
    refine V_aload_n (κ := KX4_readInk) (pc := 17) dX4_readInk_17 0 rfl rfl ?_
    refine V_getf 4 (κ := KX4_readInk) (pc := 18) rfl (by decide) rfl inX4 2 (by decide) wd_111 rfl (t := 2) rfl dX4_readInk_18 fun t106 => ?_
    refine V_aload_n (κ := KX4_readInk) (pc := 21) dX4_readInk_21 0 rfl rfl ?_
    refine V_getf 4 (κ := KX4_readInk) (pc := 22) rfl (by decide) rfl inX4 8 (by decide) wd_117 rfl (t := 0) rfl dX4_readInk_22 fun t107 => ?_
    refine V_aload_n (κ := KX4_readInk) (pc := 25) dX4_readInk_25 0 rfl rfl ?_
    refine V_getf 4 (κ := KX4_readInk) (pc := 26) rfl (by decide) rfl inX4 9 (by decide) wd_118 rfl (t := 0) rfl dX4_readInk_26 fun t108 => ?_
    refine V_callSN (host := "TonePlates") (κ := KX4_readInk) (pc := 29) (con_X6_packedName _ _ _ _) mth_X6_packedName wd_845 (by decide) (st0 := [(2, t105)]) rfl rfl (by decide) (Nat.le_of_ble_eq_true rfl) dX4_readInk_29 (fun _ _ _ h => VX_out rfl (by decide) h) fun t109 u110 => ?_
    refine V_callV (ci := 5) (T := TX5) (N := 7) rfl (by decide) (κ := KX4_readInk) (pc := 32) (con_X5_indexOfName _ _ _) mth_X5_indexOfName rfl ⟨wd_849, wd_850⟩ wd_848 (st0 := []) rfl rfl (by decide) (Nat.le_of_ble_eq_true rfl) dX4_readInk_32 (fun _ _ _ h => VX_out rfl (by decide) h) fun t111 u112 => ?_
    refine V_istore_n (κ := KX4_readInk) (pc := 35) (lv' := [(1, (0, t111)), (0, (2, x0))]) dX4_readInk_35 (by decide) rfl ?_
    refine V_iload_n (κ := KX4_readInk) (pc := 36) dX4_readInk_36 0 rfl ?_
    refine V_if_ge (κ := KX4_readInk) (pc := 37) (tgt := 47) dX4_readInk_37 rfl ?_ ?_
    · refine V_aload_n (κ := KX4_readInk) (pc := 47) dX4_readInk_47 1 rfl rfl ?_
      refine V_callV (ci := 4) (T := TX4) (N := 13) rfl (by decide) (κ := KX4_readInk) (pc := 48) (con_X4_advance _ _) mth_X4_advance rfl ⟨wd_786, wp_16⟩ wd_784 (st0 := []) rfl rfl (by decide) (Nat.le_of_ble_eq_true rfl) dX4_readInk_48 (fun _ _ _ h => VX_out rfl (by decide) h) fun _ u114 => ?_
      refine V_aload_n (κ := KX4_readInk) (pc := 51) dX4_readInk_51 1 rfl rfl ?_
      refine V_iconst (κ := KX4_readInk) (pc := 52) dX4_readInk_52 ⟨by decide, by decide⟩ ?_
      refine V_ldc (κ := KX4_readInk) (pc := 53) (z := 99999) dX4_readInk_53 wd_913 ⟨by decide, by decide⟩ (by decide) ?_
      refine V_callV (ci := 4) (T := TX4) (N := 13) rfl (by decide) (κ := KX4_readInk) (pc := 55) (con_X4_takeNumber _ _ _ _) mth_X4_takeNumber rfl ⟨wd_809, wp_21⟩ wd_807 (st0 := []) rfl rfl (by decide) (Nat.le_of_ble_eq_true rfl) dX4_readInk_55 (fun _ _ _ h => VX_out rfl (by decide) h) fun t115 u116 => ?_
      refine V_if_ne (κ := KX4_readInk) (pc := 58) (tgt := 63) dX4_readInk_58 rfl ?_ ?_
      · refine V_aload_n (κ := KX4_readInk) (pc := 63) dX4_readInk_63 1 rfl rfl ?_
        refine V_getf 4 (κ := KX4_readInk) (pc := 64) rfl (by decide) rfl inX4 4 (by decide) wd_113 rfl (t := 2) rfl dX4_readInk_64 fun t117 => ?_
        refine V_getf 5 (κ := KX4_readInk) (pc := 67) rfl (by decide) rfl inX5 4 (by decide) wd_222 rfl (t := 2) rfl dX4_readInk_67 fun t118 => ?_
        refine V_iload_n (κ := KX4_readInk) (pc := 70) dX4_readInk_70 0 rfl ?_
        refine V_aaload 5 (by decide) rfl rfl (κ := KX4_readInk) (pc := 71) dX4_readInk_71 fun t119 => ?_
        refine V_aload_n (κ := KX4_readInk) (pc := 72) dX4_readInk_72 1 rfl rfl ?_
        refine V_getf 4 (κ := KX4_readInk) (pc := 73) rfl (by decide) rfl inX4 10 (by decide) wd_119 rfl (t := 0) rfl dX4_readInk_73 fun t120 => ?_
        refine V_putf 1 (κ := KX4_readInk) (pc := 76) rfl (by decide) rfl inX1 tyX1 tyX1_ok nmX1 6 (by decide) wd_183 rfl rfl (t := 0) rfl rfl dX4_readInk_76 fun u121 => ?_
        refine V_iconst (κ := KX4_readInk) (pc := 79) dX4_readInk_79 ⟨by decide, by decide⟩ ?_
        exact V_zreturn (κ := KX4_readInk) (pc := 80) rfl rfl dX4_readInk_80
      refine V_iconst (κ := KX4_readInk) (pc := 61) dX4_readInk_61 ⟨by decide, by decide⟩ ?_
      exact V_zreturn (κ := KX4_readInk) (pc := 62) rfl rfl dX4_readInk_62
    refine V_aload_n (κ := KX4_readInk) (pc := 40) dX4_readInk_40 1 rfl rfl ?_
    refine V_bipush (κ := KX4_readInk) (pc := 41) dX4_readInk_41 ⟨by decide, by decide⟩ (by decide) ?_
    refine V_callV (ci := 4) (T := TX4) (N := 13) rfl (by decide) (κ := KX4_readInk) (pc := 43) (con_X4_fail _ _ _) mth_X4_fail rfl ⟨wd_805, wp_20⟩ wd_803 (st0 := []) rfl rfl (by decide) (Nat.le_of_ble_eq_true rfl) dX4_readInk_43 (fun _ _ _ h => VX_out rfl (by decide) h) fun t122 u123 => ?_
    exact V_zreturn (κ := KX4_readInk) (pc := 46) rfl rfl dX4_readInk_46
  refine V_iconst (κ := KX4_readInk) (pc := 11) dX4_readInk_11 ⟨by decide, by decide⟩ ?_
  exact V_zreturn (κ := KX4_readInk) (pc := 12) rfl rfl dX4_readInk_12
theorem con_X4_readInk (a0 : Int) (μ : Mem) : Con (6) yX4_readInk (.code yX4_readInk cX4_readInk 2 (some .boolean)) 0 [(2, a0)] μ (FX4_readInk a0 μ) := Con_intro KX4_readInk (plainFor_of_name (by decide)) rfl (fun h => by cases h) (by decide) rfl (Nat.le_of_ble_eq_true rfl) (fun Γ => VBX4_readInk_0 _ _)
abbrev KX4_readLimit : Kap := (RX4, cX4_readLimit, 1, 6, 0, (some .boolean), false, [])
theorem VBX4_readLimit_0 {Γ : Gam} (x0 : Int) (μ : Mem) : V Γ KX4_readLimit 0 [(0, (2, x0))] [] μ (BX4_readLimit_0 x0 μ) := by
  unfold BX4_readLimit_0
  refine V_aload_n (κ := KX4_readLimit) (pc := 0) dX4_readLimit_0 0 rfl rfl ?_
  refine V_getf 4 (κ := KX4_readLimit) (pc := 1) rfl (by decide) rfl inX4 6 (by decide) wd_115 rfl (t := 0) rfl dX4_readLimit_1 fun t101 => ?_
  refine V_if_eq (κ := KX4_readLimit) (pc := 4) (tgt := 14) dX4_readLimit_4 rfl ?_ ?_
  · refine V_aload_n (κ := KX4_readLimit) (pc := 14) dX4_readLimit_14 0 rfl rfl ?_
    refine V_iconst (κ := KX4_readLimit) (pc := 15) dX4_readLimit_15 ⟨by decide, by decide⟩ ?_
    refine V_putz 4 (κ := KX4_readLimit) (pc := 16) rfl (by decide) rfl inX4 tyX4 tyX4_ok nmX4 6 (by decide) wd_115 rfl rfl rfl rfl dX4_readLimit_16 fun u102 => ?_
    refine V_aload_n (κ := KX4_readLimit) (pc := 19) dX4_readLimit_19 0 rfl rfl ?_
    refine V_callV (ci := 4) (T := TX4) (N := 13) rfl (by decide) (κ := KX4_readLimit) (pc := 20) (con_X4_advance _ _) mth_X4_advance rfl ⟨wd_786, wp_16⟩ wd_784 (st0 := []) rfl rfl (by decide) (Nat.le_of_ble_eq_true rfl) dX4_readLimit_20 (fun _ _ _ h => VX_out rfl (by decide) h) fun _ u104 => ?_
    refine V_aload_n (κ := KX4_readLimit) (pc := 23) dX4_readLimit_23 0 rfl rfl ?_
    refine V_iconst (κ := KX4_readLimit) (pc := 24) dX4_readLimit_24 ⟨by decide, by decide⟩ ?_
    refine V_iconst (κ := KX4_readLimit) (pc := 25) dX4_readLimit_25 ⟨by decide, by decide⟩ ?_
    refine V_callV (ci := 4) (T := TX4) (N := 13) rfl (by decide) (κ := KX4_readLimit) (pc := 26) (con_X4_takeNumber _ _ _ _) mth_X4_takeNumber rfl ⟨wd_809, wp_21⟩ wd_807 (st0 := []) rfl rfl (by decide) (Nat.le_of_ble_eq_true rfl) dX4_readLimit_26 (fun _ _ _ h => VX_out rfl (by decide) h) fun t105 u106 => ?_
    refine V_if_ne (κ := KX4_readLimit) (pc := 29) (tgt := 34) dX4_readLimit_29 rfl ?_ ?_
    · refine V_aload_n (κ := KX4_readLimit) (pc := 34) dX4_readLimit_34 0 rfl rfl ?_
      refine V_getf 4 (κ := KX4_readLimit) (pc := 35) rfl (by decide) rfl inX4 4 (by decide) wd_113 rfl (t := 2) rfl dX4_readLimit_35 fun t107 => ?_
      refine V_aload_n (κ := KX4_readLimit) (pc := 38) dX4_readLimit_38 0 rfl rfl ?_
      refine V_getf 4 (κ := KX4_readLimit) (pc := 39) rfl (by decide) rfl inX4 10 (by decide) wd_119 rfl (t := 0) rfl dX4_readLimit_39 fun t108 => ?_
      refine V_putf 5 (κ := KX4_readLimit) (pc := 42) rfl (by decide) rfl inX5 tyX5 tyX5_ok nmX5 2 (by decide) wd_215 rfl rfl (t := 0) rfl rfl dX4_readLimit_42 fun u109 => ?_
      refine V_iconst (κ := KX4_readLimit) (pc := 45) dX4_readLimit_45 ⟨by decide, by decide⟩ ?_
      exact V_zreturn (κ := KX4_readLimit) (pc := 46) rfl rfl dX4_readLimit_46
    refine V_iconst (κ := KX4_readLimit) (pc := 32) dX4_readLimit_32 ⟨by decide, by decide⟩ ?_
    exact V_zreturn (κ := KX4_readLimit) (pc := 33) rfl rfl dX4_readLimit_33
  refine V_aload_n (κ := KX4_readLimit) (pc := 7) dX4_readLimit_7 0 rfl rfl ?_
  refine V_bipush (κ := KX4_readLimit) (pc := 8) dX4_readLimit_8 ⟨by decide, by decide⟩ (by decide) ?_
  refine V_callV (ci := 4) (T := TX4) (N := 13) rfl (by decide) (κ := KX4_readLimit) (pc := 10) (con_X4_fail _ _ _) mth_X4_fail rfl ⟨wd_805, wp_20⟩ wd_803 (st0 := []) rfl rfl (by decide) (Nat.le_of_ble_eq_true rfl) dX4_readLimit_10 (fun _ _ _ h => VX_out rfl (by decide) h) fun t110 u111 => ?_
  exact V_zreturn (κ := KX4_readLimit) (pc := 13) rfl rfl dX4_readLimit_13
theorem con_X4_readLimit (a0 : Int) (μ : Mem) : Con (6) yX4_readLimit (.code yX4_readLimit cX4_readLimit 1 (some .boolean)) 0 [(2, a0)] μ (FX4_readLimit a0 μ) := Con_intro KX4_readLimit (plainFor_of_name (by decide)) rfl (fun h => by cases h) (by decide) rfl (Nat.le_of_ble_eq_true rfl) (fun Γ => VBX4_readLimit_0 _ _)
abbrev KX0_init : Kap := (RX0, cX0_init, 2, 1, 9, none, true, [])
theorem VBX0_init_0 {Γ : Gam} (x0 x1 : Int) (μ : Mem) : V Γ KX0_init 0 [(0, (2, x0)), (1, (2, x1))] [] μ (BX0_init_0 x0 x1 μ) := by
  unfold BX0_init_0
  refine V_aload_n (κ := KX0_init) (pc := 0) dX0_init_0 0 rfl rfl ?_
  refine V_objInit (κ := KX0_init) (pc := 1) (by decide) wd_899 wd_37 wd_38 (Nat.le_of_ble_eq_true rfl) dX0_init_1 (ci := 0) ?_
  refine V_aload_n (κ := KX0_init) (pc := 4) dX0_init_4 0 rfl rfl ?_
  refine V_aload_n (κ := KX0_init) (pc := 5) dX0_init_5 1 rfl rfl ?_
  refine V_putfF rfl 0 (κ := KX0_init) (pc := 6) rfl (by decide) rfl inX0 tyX0 tyX0_ok nmX0 0 (by decide) wd_900 rfl rfl rfl (t := 2) rfl rfl dX0_init_6 fun u101 => ?_
  exact V_vreturn (κ := KX0_init) (pc := 9) rfl rfl dX0_init_9
theorem con_X0_init (a0 a1 : Int) (μ : Mem) : Con (1) yX0_init (.code yX0_init cX0_init 2 none) 9 [(2, a0), (2, a1)] μ (FX0_init a0 a1 μ) := Con_intro KX0_init (plainFor_of_name (by decide)) rfl (fun h => rfl) (by decide) rfl (Nat.le_of_ble_eq_true rfl) (fun Γ => VBX0_init_0 _ _ _)
abbrev KX4_addItem : Kap := (RX4, cX4_addItem, 2, 1, 9, none, false, [])
theorem VBX4_addItem_32 {Γ : Gam} (μ : Mem) : V Γ KX4_addItem 32 [] [] μ (BX4_addItem_32 μ) := by
  unfold BX4_addItem_32
  exact V_vreturn (κ := KX4_addItem) (pc := 32) rfl rfl dX4_addItem_32
theorem VBX4_addItem_0 {Γ : Gam} (x0 x1 : Int) (μ : Mem) : V Γ KX4_addItem 0 [(0, (2, x0)), (1, (0, x1))] [] μ (BX4_addItem_0 x0 x1 μ) := by
  unfold BX4_addItem_0
  refine V_aload_n (κ := KX4_addItem) (pc := 0) dX4_addItem_0 0 rfl rfl ?_
  refine V_getf 4 (κ := KX4_addItem) (pc := 1) rfl (by decide) rfl inX4 12 (by decide) wd_121 rfl (t := 0) rfl dX4_addItem_1 fun t101 => ?_
  refine V_aload_n (κ := KX4_addItem) (pc := 4) dX4_addItem_4 0 rfl rfl ?_
  refine V_getf 4 (κ := KX4_addItem) (pc := 5) rfl (by decide) rfl inX4 11 (by decide) wd_120 rfl (t := 2) rfl dX4_addItem_5 fun t102 => ?_
  refine V_alen 1 (by decide) (κ := KX4_addItem) (pc := 8) dX4_addItem_8 fun t103 => ?_
  refine V_icmp_ge (κ := KX4_addItem) (pc := 9) (tgt := 32) dX4_addItem_9 rfl ?_ ?_
  · refine V_sub (lv' := []) [] rfl ?_
    exact VBX4_addItem_32 _
  refine V_aload_n (κ := KX4_addItem) (pc := 12) dX4_addItem_12 0 rfl rfl ?_
  refine V_getf 4 (κ := KX4_addItem) (pc := 13) rfl (by decide) rfl inX4 11 (by decide) wd_120 rfl (t := 2) rfl dX4_addItem_13 fun t104 => ?_
  refine V_aload_n (κ := KX4_addItem) (pc := 16) dX4_addItem_16 0 rfl rfl ?_
  refine V_getf 4 (κ := KX4_addItem) (pc := 17) rfl (by decide) rfl inX4 12 (by decide) wd_121 rfl (t := 0) rfl dX4_addItem_17 fun t105 => ?_
  refine V_iload_n (κ := KX4_addItem) (pc := 20) dX4_addItem_20 1 rfl ?_
  refine V_iastore (κ := KX4_addItem) (pc := 21) dX4_addItem_21 fun u106 => ?_
  refine V_aload_n (κ := KX4_addItem) (pc := 22) dX4_addItem_22 0 rfl rfl ?_
  refine V_dup (κ := KX4_addItem) (pc := 23) rfl dX4_addItem_23 ?_
  refine V_getf 4 (κ := KX4_addItem) (pc := 24) rfl (by decide) rfl inX4 12 (by decide) wd_121 rfl (t := 0) rfl dX4_addItem_24 fun t107 => ?_
  refine V_iconst (κ := KX4_addItem) (pc := 27) dX4_addItem_27 ⟨by decide, by decide⟩ ?_
  refine V_iadd (κ := KX4_addItem) (pc := 28) dX4_addItem_28 ?_
  refine V_putf 4 (κ := KX4_addItem) (pc := 29) rfl (by decide) rfl inX4 tyX4 tyX4_ok nmX4 12 (by decide) wd_121 rfl rfl (t := 0) rfl rfl dX4_addItem_29 fun u108 => ?_
  refine V_sub (lv' := []) [] rfl ?_
  exact VBX4_addItem_32 _
theorem con_X4_addItem (a0 a1 : Int) (μ : Mem) : Con (1) yX4_addItem (.code yX4_addItem cX4_addItem 2 none) 9 [(2, a0), (0, a1)] μ (FX4_addItem a0 a1 μ) := Con_intro KX4_addItem (plainFor_of_name (by decide)) rfl (fun h => by cases h) (by decide) rfl (Nat.le_of_ble_eq_true rfl) (fun Γ => VBX4_addItem_0 _ _ _)
abbrev KX4_variableHere : Kap := (RX4, cX4_variableHere, 1, 8, 0, (some .int), false, [])
theorem VBX4_variableHere_50 {Γ : Gam} (s0 : Int) (μ : Mem) : V Γ KX4_variableHere 50 [] [(0, s0)] μ (BX4_variableHere_50 s0 μ) := by
  unfold BX4_variableHere_50
  exact V_ireturn (κ := KX4_variableHere) (pc := 50) rfl rfl dX4_variableHere_50
theorem VBX4_variableHere_0 {Γ : Gam} (x0 : Int) (μ : Mem) : V Γ KX4_variableHere 0 [(0, (2, x0))] [] μ (BX4_variableHere_0 x0 μ) := by
  unfold BX4_variableHere_0
  refine V_aload_n (κ := KX4_variableHere) (pc := 0) dX4_variableHere_0 0 rfl rfl ?_
  refine V_ldcs (κ := KX4_variableHere) (pc := 1) (tx := "tone") (w := 6) (show (RX4, 191, "tone", 6) ∈ wrds by decide) dX4_variableHere_1 (by decide) ?_
  refine V_callV (ci := 4) (T := TX4) (N := 13) rfl (by decide) (κ := KX4_variableHere) (pc := 3) (con_X4_isWord _ _ _) mth_X4_isWord rfl ⟨wd_799, wp_19⟩ wd_797 (st0 := []) rfl rfl (by decide) (Nat.le_of_ble_eq_true rfl) dX4_variableHere_3 (fun _ _ _ h => VX_out rfl (by decide) h) fun t101 u102 => ?_
  refine V_if_eq (κ := KX4_variableHere) (pc := 6) (tgt := 11) dX4_variableHere_6 rfl ?_ ?_
  · refine V_aload_n (κ := KX4_variableHere) (pc := 11) dX4_variableHere_11 0 rfl rfl ?_
    refine V_ldcs (κ := KX4_variableHere) (pc := 12) (tx := "x") (w := 7) (show (RX4, 193, "x", 7) ∈ wrds by decide) dX4_variableHere_12 (by decide) ?_
    refine V_callV (ci := 4) (T := TX4) (N := 13) rfl (by decide) (κ := KX4_variableHere) (pc := 14) (con_X4_isWord _ _ _) mth_X4_isWord rfl ⟨wd_799, wp_19⟩ wd_797 (st0 := []) rfl rfl (by decide) (Nat.le_of_ble_eq_true rfl) dX4_variableHere_14 (fun _ _ _ h => VX_out rfl (by decide) h) fun t103 u104 => ?_
    refine V_if_eq (κ := KX4_variableHere) (pc := 17) (tgt := 23) dX4_variableHere_17 rfl ?_ ?_
    · refine V_aload_n (κ := KX4_variableHere) (pc := 23) dX4_variableHere_23 0 rfl rfl ?_
      refine V_ldcs (κ := KX4_variableHere) (pc := 24) (tx := "y") (w := 8) (show (RX4, 195, "y", 8) ∈ wrds by decide) dX4_variableHere_24 (by decide) ?_
      refine V_callV (ci := 4) (T := TX4) (N := 13) rfl (by decide) (κ := KX4_variableHere) (pc := 26) (con_X4_isWord _ _ _) mth_X4_isWord rfl ⟨wd_799, wp_19⟩ wd_797 (st0 := []) rfl rfl (by decide) (Nat.le_of_ble_eq_true rfl) dX4_variableHere_26 (fun _ _ _ h => VX_out rfl (by decide) h) fun t105 u106 => ?_
      refine V_if_eq (κ := KX4_variableHere) (pc := 29) (tgt := 35) dX4_variableHere_29 rfl ?_ ?_
      · refine V_aload_n (κ := KX4_variableHere) (pc := 35) dX4_variableHere_35 0 rfl rfl ?_
        refine V_ldcs (κ := KX4_variableHere) (pc := 36) (tx := "plate") (w := 2) (show (RX4, 94, "plate", 2) ∈ wrds by decide) dX4_variableHere_36 (by decide) ?_
        refine V_callV (ci := 4) (T := TX4) (N := 13) rfl (by decide) (κ := KX4_variableHere) (pc := 38) (con_X4_isWord _ _ _) mth_X4_isWord rfl ⟨wd_799, wp_19⟩ wd_797 (st0 := []) rfl rfl (by decide) (Nat.le_of_ble_eq_true rfl) dX4_variableHere_38 (fun _ _ _ h => VX_out rfl (by decide) h) fun t107 u108 => ?_
        refine V_if_eq (κ := KX4_variableHere) (pc := 41) (tgt := 49) dX4_variableHere_41 rfl ?_ ?_
        · refine V_iconst (κ := KX4_variableHere) (pc := 49) dX4_variableHere_49 ⟨by decide, by decide⟩ ?_
          refine V_sub (lv' := []) [] rfl ?_
          exact VBX4_variableHere_50 _ _
        refine V_bipush (κ := KX4_variableHere) (pc := 44) dX4_variableHere_44 ⟨by decide, by decide⟩ (by decide) ?_
        refine V_goto (κ := KX4_variableHere) (pc := 46) (tgt := 50) dX4_variableHere_46 rfl ?_
        refine V_sub (lv' := []) [] rfl ?_
        exact VBX4_variableHere_50 _ _
      refine V_bipush (κ := KX4_variableHere) (pc := 32) dX4_variableHere_32 ⟨by decide, by decide⟩ (by decide) ?_
      exact V_ireturn (κ := KX4_variableHere) (pc := 34) rfl rfl dX4_variableHere_34
    refine V_bipush (κ := KX4_variableHere) (pc := 20) dX4_variableHere_20 ⟨by decide, by decide⟩ (by decide) ?_
    exact V_ireturn (κ := KX4_variableHere) (pc := 22) rfl rfl dX4_variableHere_22
  refine V_iconst (κ := KX4_variableHere) (pc := 9) dX4_variableHere_9 ⟨by decide, by decide⟩ ?_
  exact V_ireturn (κ := KX4_variableHere) (pc := 10) rfl rfl dX4_variableHere_10
theorem con_X4_variableHere (a0 : Int) (μ : Mem) : Con (8) yX4_variableHere (.code yX4_variableHere cX4_variableHere 1 (some .int)) 0 [(2, a0)] μ (FX4_variableHere a0 μ) := Con_intro KX4_variableHere (plainFor_of_name (by decide)) rfl (fun h => by cases h) (by decide) rfl (Nat.le_of_ble_eq_true rfl) (fun Γ => VBX4_variableHere_0 _ _)
abbrev KX4_readFactor (D : Nat) : Kap := (RX4, cX4_readFactor, 3, D + 9, 0, (some .boolean), false, [])
theorem VBX4_readFactor_49 {Γ : Gam} {rc : Int → Int → Mem → Rz} {D : Nat} (hrc : ∀ (b0 b1 : Int) (μ : Mem), Con D yX4_readSum (.code yX4_readSum cX4_readSum 4 (some .boolean)) 0 [(2, b0), (0, b1)] μ (rc b0 b1 μ)) (s0 : Int) (μ : Mem) : V Γ (KX4_readFactor D) 49 [] [(0, s0)] μ (BX4_readFactor_49 rc s0 μ) := by
  unfold BX4_readFactor_49
  exact V_zreturn (κ := (KX4_readFactor D)) (pc := 49) rfl rfl dX4_readFactor_49
theorem VBX4_readFactor_48 {Γ : Gam} {rc : Int → Int → Mem → Rz} {D : Nat} (hrc : ∀ (b0 b1 : Int) (μ : Mem), Con D yX4_readSum (.code yX4_readSum cX4_readSum 4 (some .boolean)) 0 [(2, b0), (0, b1)] μ (rc b0 b1 μ)) (μ : Mem) : V Γ (KX4_readFactor D) 48 [] [] μ (BX4_readFactor_48 rc μ) := by
  unfold BX4_readFactor_48
  refine V_iconst (κ := (KX4_readFactor D)) (pc := 48) dX4_readFactor_48 ⟨by decide, by decide⟩ ?_
  exact VBX4_readFactor_49 hrc _ _
theorem VBX4_readFactor_0 {Γ : Gam} {rc : Int → Int → Mem → Rz} {D : Nat} (hrc : ∀ (b0 b1 : Int) (μ : Mem), Con D yX4_readSum (.code yX4_readSum cX4_readSum 4 (some .boolean)) 0 [(2, b0), (0, b1)] μ (rc b0 b1 μ)) (x0 x1 : Int) (μ : Mem) : V Γ (KX4_readFactor D) 0 [(0, (2, x0)), (1, (0, x1))] [] μ (BX4_readFactor_0 rc x0 x1 μ) := by
  unfold BX4_readFactor_0
  refine V_aload_n (κ := (KX4_readFactor D)) (pc := 0) dX4_readFactor_0 0 rfl rfl ?_
  refine V_bipush (κ := (KX4_readFactor D)) (pc := 1) dX4_readFactor_1 ⟨by decide, by decide⟩ (by decide) ?_
  refine V_callV (ci := 4) (T := TX4) (N := 13) rfl (by decide) (κ := (KX4_readFactor D)) (pc := 3) (con_X4_isSign _ _ _) mth_X4_isSign rfl ⟨wd_823, wp_23⟩ wd_821 (st0 := []) rfl rfl (by show _ ≤ D + 9; omega) (Nat.le_of_ble_eq_true rfl) dX4_readFactor_3 (fun _ _ _ h => VX_out rfl (show (0 : Nat) ≠ 10 by decide) h) fun t101 u102 => ?_
  refine V_if_eq (κ := (KX4_readFactor D)) (pc := 6) (tgt := 50) dX4_readFactor_6 rfl ?_ ?_
  · refine V_aload_n (κ := (KX4_readFactor D)) (pc := 50) dX4_readFactor_50 0 rfl rfl ?_
    refine V_getf 4 (κ := (KX4_readFactor D)) (pc := 51) rfl (by decide) rfl inX4 7 (by decide) wd_116 rfl (t := 0) rfl dX4_readFactor_51 fun t103 => ?_
    refine V_iconst (κ := (KX4_readFactor D)) (pc := 54) dX4_readFactor_54 ⟨by decide, by decide⟩ ?_
    refine V_icmp_ne (κ := (KX4_readFactor D)) (pc := 55) (tgt := 81) dX4_readFactor_55 rfl ?_ ?_
    · refine V_aload_n (κ := (KX4_readFactor D)) (pc := 81) dX4_readFactor_81 0 rfl rfl ?_
      refine V_callV (ci := 4) (T := TX4) (N := 13) rfl (by decide) (κ := (KX4_readFactor D)) (pc := 82) (con_X4_variableHere _ _) mth_X4_variableHere rfl ⟨wd_879, wp_33⟩ wd_877 (st0 := []) rfl rfl (by show _ ≤ D + 9; omega) (Nat.le_of_ble_eq_true rfl) dX4_readFactor_82 (fun _ _ _ h => VX_out rfl (show (0 : Nat) ≠ 10 by decide) h) fun t104 u105 => ?_
      refine V_istore_n (κ := (KX4_readFactor D)) (pc := 85) (lv' := [(2, (0, t104)), (0, (2, x0)), (1, (0, x1))]) dX4_readFactor_85 (show 2 < 3 by decide) rfl ?_
      refine V_iload_n (κ := (KX4_readFactor D)) (pc := 86) dX4_readFactor_86 0 rfl ?_
      refine V_if_ne (κ := (KX4_readFactor D)) (pc := 87) (tgt := 97) dX4_readFactor_87 rfl ?_ ?_
      · refine V_aload_n (κ := (KX4_readFactor D)) (pc := 97) dX4_readFactor_97 1 rfl rfl ?_
        refine V_iload_n (κ := (KX4_readFactor D)) (pc := 98) dX4_readFactor_98 0 rfl ?_
        refine V_callV (ci := 4) (T := TX4) (N := 13) rfl (by decide) (κ := (KX4_readFactor D)) (pc := 99) (con_X4_addItem _ _ _) mth_X4_addItem rfl ⟨wd_875, wp_32⟩ wd_873 (st0 := []) rfl rfl (by show _ ≤ D + 9; omega) (Nat.le_of_ble_eq_true rfl) dX4_readFactor_99 (fun _ _ _ h => VX_out rfl (show (0 : Nat) ≠ 10 by decide) h) fun _ u107 => ?_
        refine V_aload_n (κ := (KX4_readFactor D)) (pc := 102) dX4_readFactor_102 1 rfl rfl ?_
        refine V_callV (ci := 4) (T := TX4) (N := 13) rfl (by decide) (κ := (KX4_readFactor D)) (pc := 103) (con_X4_advance _ _) mth_X4_advance rfl ⟨wd_786, wp_16⟩ wd_784 (st0 := []) rfl rfl (by show _ ≤ D + 9; omega) (Nat.le_of_ble_eq_true rfl) dX4_readFactor_103 (fun _ _ _ h => VX_out rfl (show (0 : Nat) ≠ 10 by decide) h) fun _ u109 => ?_
        refine V_iconst (κ := (KX4_readFactor D)) (pc := 106) dX4_readFactor_106 ⟨by decide, by decide⟩ ?_
        exact V_zreturn (κ := (KX4_readFactor D)) (pc := 107) rfl rfl dX4_readFactor_107
      refine V_aload_n (κ := (KX4_readFactor D)) (pc := 90) dX4_readFactor_90 1 rfl rfl ?_
      refine V_bipush (κ := (KX4_readFactor D)) (pc := 91) dX4_readFactor_91 ⟨by decide, by decide⟩ (by decide) ?_
      refine V_callV (ci := 4) (T := TX4) (N := 13) rfl (by decide) (κ := (KX4_readFactor D)) (pc := 93) (con_X4_fail _ _ _) mth_X4_fail rfl ⟨wd_805, wp_20⟩ wd_803 (st0 := []) rfl rfl (by show _ ≤ D + 9; omega) (Nat.le_of_ble_eq_true rfl) dX4_readFactor_93 (fun _ _ _ h => VX_out rfl (show (0 : Nat) ≠ 10 by decide) h) fun t110 u111 => ?_
      exact V_zreturn (κ := (KX4_readFactor D)) (pc := 96) rfl rfl dX4_readFactor_96
    refine V_aload_n (κ := (KX4_readFactor D)) (pc := 58) dX4_readFactor_58 0 rfl rfl ?_
    refine V_iconst (κ := (KX4_readFactor D)) (pc := 59) dX4_readFactor_59 ⟨by decide, by decide⟩ ?_
    refine V_sipush (κ := (KX4_readFactor D)) (pc := 60) dX4_readFactor_60 ⟨by decide, by decide⟩ (by decide) ?_
    refine V_callV (ci := 4) (T := TX4) (N := 13) rfl (by decide) (κ := (KX4_readFactor D)) (pc := 63) (con_X4_takeNumber _ _ _ _) mth_X4_takeNumber rfl ⟨wd_809, wp_21⟩ wd_807 (st0 := []) rfl rfl (by show _ ≤ D + 9; omega) (Nat.le_of_ble_eq_true rfl) dX4_readFactor_63 (fun _ _ _ h => VX_out rfl (show (0 : Nat) ≠ 10 by decide) h) fun t112 u113 => ?_
    refine V_if_ne (κ := (KX4_readFactor D)) (pc := 66) (tgt := 71) dX4_readFactor_66 rfl ?_ ?_
    · refine V_aload_n (κ := (KX4_readFactor D)) (pc := 71) dX4_readFactor_71 0 rfl rfl ?_
      refine V_aload_n (κ := (KX4_readFactor D)) (pc := 72) dX4_readFactor_72 0 rfl rfl ?_
      refine V_getf 4 (κ := (KX4_readFactor D)) (pc := 73) rfl (by decide) rfl inX4 10 (by decide) wd_119 rfl (t := 0) rfl dX4_readFactor_73 fun t114 => ?_
      refine V_callV (ci := 4) (T := TX4) (N := 13) rfl (by decide) (κ := (KX4_readFactor D)) (pc := 76) (con_X4_addItem _ _ _) mth_X4_addItem rfl ⟨wd_875, wp_32⟩ wd_873 (st0 := []) rfl rfl (by show _ ≤ D + 9; omega) (Nat.le_of_ble_eq_true rfl) dX4_readFactor_76 (fun _ _ _ h => VX_out rfl (show (0 : Nat) ≠ 10 by decide) h) fun _ u116 => ?_
      refine V_iconst (κ := (KX4_readFactor D)) (pc := 79) dX4_readFactor_79 ⟨by decide, by decide⟩ ?_
      exact V_zreturn (κ := (KX4_readFactor D)) (pc := 80) rfl rfl dX4_readFactor_80
    refine V_iconst (κ := (KX4_readFactor D)) (pc := 69) dX4_readFactor_69 ⟨by decide, by decide⟩ ?_
    exact V_zreturn (κ := (KX4_readFactor D)) (pc := 70) rfl rfl dX4_readFactor_70
  refine V_iload_n (κ := (KX4_readFactor D)) (pc := 9) dX4_readFactor_9 1 rfl ?_
  refine V_iconst (κ := (KX4_readFactor D)) (pc := 10) dX4_readFactor_10 ⟨by decide, by decide⟩ ?_
  refine V_icmp_lt (κ := (KX4_readFactor D)) (pc := 11) (tgt := 21) dX4_readFactor_11 rfl ?_ ?_
  · refine V_aload_n (κ := (KX4_readFactor D)) (pc := 21) dX4_readFactor_21 0 rfl rfl ?_
    refine V_callV (ci := 4) (T := TX4) (N := 13) rfl (by decide) (κ := (KX4_readFactor D)) (pc := 22) (con_X4_advance _ _) mth_X4_advance rfl ⟨wd_786, wp_16⟩ wd_784 (st0 := []) rfl rfl (by show _ ≤ D + 9; omega) (Nat.le_of_ble_eq_true rfl) dX4_readFactor_22 (fun _ _ _ h => VX_out rfl (show (0 : Nat) ≠ 10 by decide) h) fun _ u118 => ?_
    refine V_aload_n (κ := (KX4_readFactor D)) (pc := 25) dX4_readFactor_25 0 rfl rfl ?_
    refine V_iload_n (κ := (KX4_readFactor D)) (pc := 26) dX4_readFactor_26 1 rfl ?_
    refine V_iconst (κ := (KX4_readFactor D)) (pc := 27) dX4_readFactor_27 ⟨by decide, by decide⟩ ?_
    refine V_iadd (κ := (KX4_readFactor D)) (pc := 28) dX4_readFactor_28 ?_
    refine V_callV (ci := 4) (T := TX4) (N := 13) rfl (by decide) (κ := (KX4_readFactor D)) (pc := 29) (hrc _ _ _) mth_X4_readSum rfl ⟨wd_863, wp_29⟩ wd_861 (st0 := []) rfl rfl (by show _ ≤ D + 9; omega) (Nat.le_of_ble_eq_true rfl) dX4_readFactor_29 (fun _ _ _ h => VX_out rfl (show (0 : Nat) ≠ 10 by decide) h) fun t119 u120 => ?_
    refine V_if_eq (κ := (KX4_readFactor D)) (pc := 32) (tgt := 48) dX4_readFactor_32 rfl ?_ ?_
    · refine V_sub (lv' := []) [] rfl ?_
      exact VBX4_readFactor_48 hrc _
    refine V_aload_n (κ := (KX4_readFactor D)) (pc := 35) dX4_readFactor_35 0 rfl rfl ?_
    refine V_bipush (κ := (KX4_readFactor D)) (pc := 36) dX4_readFactor_36 ⟨by decide, by decide⟩ (by decide) ?_
    refine V_callV (ci := 4) (T := TX4) (N := 13) rfl (by decide) (κ := (KX4_readFactor D)) (pc := 38) (con_X4_takeSign _ _ _) mth_X4_takeSign rfl ⟨wd_819, wp_22⟩ wd_817 (st0 := []) rfl rfl (by show _ ≤ D + 9; omega) (Nat.le_of_ble_eq_true rfl) dX4_readFactor_38 (fun _ _ _ h => VX_out rfl (show (0 : Nat) ≠ 10 by decide) h) fun t121 u122 => ?_
    refine V_if_eq (κ := (KX4_readFactor D)) (pc := 41) (tgt := 48) dX4_readFactor_41 rfl ?_ ?_
    · refine V_sub (lv' := []) [] rfl ?_
      exact VBX4_readFactor_48 hrc _
    refine V_iconst (κ := (KX4_readFactor D)) (pc := 44) dX4_readFactor_44 ⟨by decide, by decide⟩ ?_
    refine V_goto (κ := (KX4_readFactor D)) (pc := 45) (tgt := 49) dX4_readFactor_45 rfl ?_
    refine V_sub (lv' := []) [] rfl ?_
    exact VBX4_readFactor_49 hrc _ _
  refine V_aload_n (κ := (KX4_readFactor D)) (pc := 14) dX4_readFactor_14 0 rfl rfl ?_
  refine V_bipush (κ := (KX4_readFactor D)) (pc := 15) dX4_readFactor_15 ⟨by decide, by decide⟩ (by decide) ?_
  refine V_callV (ci := 4) (T := TX4) (N := 13) rfl (by decide) (κ := (KX4_readFactor D)) (pc := 17) (con_X4_fail _ _ _) mth_X4_fail rfl ⟨wd_805, wp_20⟩ wd_803 (st0 := []) rfl rfl (by show _ ≤ D + 9; omega) (Nat.le_of_ble_eq_true rfl) dX4_readFactor_17 (fun _ _ _ h => VX_out rfl (show (0 : Nat) ≠ 10 by decide) h) fun t123 u124 => ?_
  exact V_zreturn (κ := (KX4_readFactor D)) (pc := 20) rfl rfl dX4_readFactor_20
theorem con_X4_readFactor {rc : Int → Int → Mem → Rz} {D : Nat} (hrc : ∀ (b0 b1 : Int) (μ : Mem), Con D yX4_readSum (.code yX4_readSum cX4_readSum 4 (some .boolean)) 0 [(2, b0), (0, b1)] μ (rc b0 b1 μ)) (a0 a1 : Int) (μ : Mem) : Con (D + 9) yX4_readFactor (.code yX4_readFactor cX4_readFactor 3 (some .boolean)) 0 [(2, a0), (0, a1)] μ (FX4_readFactor rc a0 a1 μ) := Con_intro (KX4_readFactor D) (plainFor_of_name (by decide)) rfl (fun h => by cases h) (show (0 : Nat) ≠ 10 by decide) rfl (Nat.le_of_ble_eq_true rfl) (fun Γ => VBX4_readFactor_0 hrc _ _ _)
abbrev KX4_readTerm (D : Nat) : Kap := (RX4, cX4_readTerm, 4, D + 10, 0, (some .boolean), false, [])
theorem VBX4_readTerm_80 {Γ : Gam} {rc : Int → Int → Mem → Rz} {D : Nat} (hrc : ∀ (b0 b1 : Int) (μ : Mem), Con D yX4_readSum (.code yX4_readSum cX4_readSum 4 (some .boolean)) 0 [(2, b0), (0, b1)] μ (rc b0 b1 μ)) (μ : Mem) : V Γ (KX4_readTerm D) 80 [] [] μ (BX4_readTerm_80 rc μ) := by
  unfold BX4_readTerm_80
  refine V_iconst (κ := (KX4_readTerm D)) (pc := 80) dX4_readTerm_80 ⟨by decide, by decide⟩ ?_
  exact V_zreturn (κ := (KX4_readTerm D)) (pc := 81) rfl rfl dX4_readTerm_81
theorem VBX4_readTerm_54 {Γ : Gam} {rc : Int → Int → Mem → Rz} {D : Nat} (hrc : ∀ (b0 b1 : Int) (μ : Mem), Con D yX4_readSum (.code yX4_readSum cX4_readSum 4 (some .boolean)) 0 [(2, b0), (0, b1)] μ (rc b0 b1 μ)) {k12 : Int → Int → Int → Mem → Rz} (hk12 : ∀ (y0 y1 y2 : Int) (ν : Mem), V Γ (KX4_readTerm D) 12 [(0, (2, y0)), (1, (0, y1)), (2, (0, y2))] [] ν (k12 y0 y1 y2 ν)) (x0 x1 x2 s0 : Int) (μ : Mem) : V Γ (KX4_readTerm D) 54 [(0, (2, x0)), (1, (0, x1)), (2, (0, x2))] [(0, s0)] μ (BX4_readTerm_54 rc k12 x0 x1 x2 s0 μ) := by
  unfold BX4_readTerm_54
  refine V_istore_n (κ := (KX4_readTerm D)) (pc := 54) (lv' := [(3, (0, s0)), (0, (2, x0)), (1, (0, x1)), (2, (0, x2))]) dX4_readTerm_54 (show 3 < 4 by decide) rfl ?_
  refine V_aload_n (κ := (KX4_readTerm D)) (pc := 55) dX4_readTerm_55 1 rfl rfl ?_
  refine V_callV (ci := 4) (T := TX4) (N := 13) rfl (by decide) (κ := (KX4_readTerm D)) (pc := 56) (con_X4_advance _ _) mth_X4_advance rfl ⟨wd_786, wp_16⟩ wd_784 (st0 := []) rfl rfl (by show _ ≤ D + 10; omega) (Nat.le_of_ble_eq_true rfl) dX4_readTerm_56 (fun _ _ _ h => VX_out rfl (show (0 : Nat) ≠ 10 by decide) h) fun _ u102 => ?_
  refine V_aload_n (κ := (KX4_readTerm D)) (pc := 59) dX4_readTerm_59 1 rfl rfl ?_
  refine V_iload_n (κ := (KX4_readTerm D)) (pc := 60) dX4_readTerm_60 2 rfl ?_
  refine V_callV (ci := 4) (T := TX4) (N := 13) rfl (by decide) (κ := (KX4_readTerm D)) (pc := 61) (con_X4_readFactor hrc _ _ _) mth_X4_readFactor rfl ⟨wd_871, wp_31⟩ wd_869 (st0 := []) rfl rfl (by show _ ≤ D + 10; omega) (Nat.le_of_ble_eq_true rfl) dX4_readTerm_61 (fun _ _ _ h => VX_out rfl (show (0 : Nat) ≠ 10 by decide) h) fun t103 u104 => ?_
  refine V_if_ne (κ := (KX4_readTerm D)) (pc := 64) (tgt := 69) dX4_readTerm_64 rfl ?_ ?_
  · refine V_aload_n (κ := (KX4_readTerm D)) (pc := 69) dX4_readTerm_69 1 rfl rfl ?_
    refine V_iload_n (κ := (KX4_readTerm D)) (pc := 70) dX4_readTerm_70 0 rfl ?_
    refine V_callV (ci := 4) (T := TX4) (N := 13) rfl (by decide) (κ := (KX4_readTerm D)) (pc := 71) (con_X4_addItem _ _ _) mth_X4_addItem rfl ⟨wd_875, wp_32⟩ wd_873 (st0 := []) rfl rfl (by show _ ≤ D + 10; omega) (Nat.le_of_ble_eq_true rfl) dX4_readTerm_71 (fun _ _ _ h => VX_out rfl (show (0 : Nat) ≠ 10 by decide) h) fun _ u106 => ?_
    refine V_iinc (κ := (KX4_readTerm D)) (pc := 74) (lv' := [(2, (0, w32 (x2 + 1))), (3, (0, s0)), (0, (2, x0)), (1, (0, x1))]) dX4_readTerm_74 3 rfl (show 2 < 4 by decide) rfl ?_
    refine V_goto (κ := (KX4_readTerm D)) (pc := 77) (tgt := 12) dX4_readTerm_77 rfl ?_
    refine V_sub (lv' := [(0, (2, x0)), (1, (0, x1)), (2, (0, w32 (x2 + 1)))]) [2, 3, 0] rfl ?_
    exact hk12 _ _ _ _
  refine V_iconst (κ := (KX4_readTerm D)) (pc := 67) dX4_readTerm_67 ⟨by decide, by decide⟩ ?_
  exact V_zreturn (κ := (KX4_readTerm D)) (pc := 68) rfl rfl dX4_readTerm_68
theorem VBX4_readTerm_38 {Γ : Gam} {rc : Int → Int → Mem → Rz} {D : Nat} (hrc : ∀ (b0 b1 : Int) (μ : Mem), Con D yX4_readSum (.code yX4_readSum cX4_readSum 4 (some .boolean)) 0 [(2, b0), (0, b1)] μ (rc b0 b1 μ)) {k12 : Int → Int → Int → Mem → Rz} (hk12 : ∀ (y0 y1 y2 : Int) (ν : Mem), V Γ (KX4_readTerm D) 12 [(0, (2, y0)), (1, (0, y1)), (2, (0, y2))] [] ν (k12 y0 y1 y2 ν)) (x0 x1 x2 : Int) (μ : Mem) : V Γ (KX4_readTerm D) 38 [(0, (2, x0)), (1, (0, x1)), (2, (0, x2))] [] μ (BX4_readTerm_38 rc k12 x0 x1 x2 μ) := by
  unfold BX4_readTerm_38
  refine V_aload_n (κ := (KX4_readTerm D)) (pc := 38) dX4_readTerm_38 0 rfl rfl ?_
  refine V_bipush (κ := (KX4_readTerm D)) (pc := 39) dX4_readTerm_39 ⟨by decide, by decide⟩ (by decide) ?_
  refine V_callV (ci := 4) (T := TX4) (N := 13) rfl (by decide) (κ := (KX4_readTerm D)) (pc := 41) (con_X4_isSign _ _ _) mth_X4_isSign rfl ⟨wd_823, wp_23⟩ wd_821 (st0 := []) rfl rfl (by show _ ≤ D + 10; omega) (Nat.le_of_ble_eq_true rfl) dX4_readTerm_41 (fun _ _ _ h => VX_out rfl (show (0 : Nat) ≠ 10 by decide) h) fun t101 u102 => ?_
  refine V_if_eq (κ := (KX4_readTerm D)) (pc := 44) (tgt := 52) dX4_readTerm_44 rfl ?_ ?_
  · refine V_bipush (κ := (KX4_readTerm D)) (pc := 52) dX4_readTerm_52 ⟨by decide, by decide⟩ (by decide) ?_
    exact VBX4_readTerm_54 hrc hk12 _ _ _ _ _
  refine V_bipush (κ := (KX4_readTerm D)) (pc := 47) dX4_readTerm_47 ⟨by decide, by decide⟩ (by decide) ?_
  refine V_goto (κ := (KX4_readTerm D)) (pc := 49) (tgt := 54) dX4_readTerm_49 rfl ?_
  exact VBX4_readTerm_54 hrc hk12 _ _ _ _ _
theorem VBX4_readTerm_12 {Γ : Gam} {rc : Int → Int → Mem → Rz} {D : Nat} (hrc : ∀ (b0 b1 : Int) (μ : Mem), Con D yX4_readSum (.code yX4_readSum cX4_readSum 4 (some .boolean)) 0 [(2, b0), (0, b1)] μ (rc b0 b1 μ)) {k12 : Int → Int → Int → Mem → Rz} (hk12 : ∀ (y0 y1 y2 : Int) (ν : Mem), V Γ (KX4_readTerm D) 12 [(0, (2, y0)), (1, (0, y1)), (2, (0, y2))] [] ν (k12 y0 y1 y2 ν)) (x0 x1 x2 : Int) (μ : Mem) : V Γ (KX4_readTerm D) 12 [(0, (2, x0)), (1, (0, x1)), (2, (0, x2))] [] μ (BX4_readTerm_12 rc k12 x0 x1 x2 μ) := by
  unfold BX4_readTerm_12
  refine V_iload_n (κ := (KX4_readTerm D)) (pc := 12) dX4_readTerm_12 2 rfl ?_
  refine V_aload_n (κ := (KX4_readTerm D)) (pc := 13) dX4_readTerm_13 0 rfl rfl ?_
  refine V_getf 4 (κ := (KX4_readTerm D)) (pc := 14) rfl (by decide) rfl inX4 3 (by decide) wd_112 rfl (t := 0) rfl dX4_readTerm_14 fun t101 => ?_
  refine V_icmp_ge (κ := (KX4_readTerm D)) (pc := 17) (tgt := 80) dX4_readTerm_17 rfl ?_ ?_
  · refine V_sub (lv' := []) [] rfl ?_
    exact VBX4_readTerm_80 hrc _
  refine V_aload_n (κ := (KX4_readTerm D)) (pc := 20) dX4_readTerm_20 0 rfl rfl ?_
  refine V_bipush (κ := (KX4_readTerm D)) (pc := 21) dX4_readTerm_21 ⟨by decide, by decide⟩ (by decide) ?_
  refine V_callV (ci := 4) (T := TX4) (N := 13) rfl (by decide) (κ := (KX4_readTerm D)) (pc := 23) (con_X4_isSign _ _ _) mth_X4_isSign rfl ⟨wd_823, wp_23⟩ wd_821 (st0 := []) rfl rfl (by show _ ≤ D + 10; omega) (Nat.le_of_ble_eq_true rfl) dX4_readTerm_23 (fun _ _ _ h => VX_out rfl (show (0 : Nat) ≠ 10 by decide) h) fun t102 u103 => ?_
  refine V_if_ne (κ := (KX4_readTerm D)) (pc := 26) (tgt := 38) dX4_readTerm_26 rfl ?_ ?_
  · exact VBX4_readTerm_38 hrc hk12 _ _ _ _
  refine V_aload_n (κ := (KX4_readTerm D)) (pc := 29) dX4_readTerm_29 0 rfl rfl ?_
  refine V_bipush (κ := (KX4_readTerm D)) (pc := 30) dX4_readTerm_30 ⟨by decide, by decide⟩ (by decide) ?_
  refine V_callV (ci := 4) (T := TX4) (N := 13) rfl (by decide) (κ := (KX4_readTerm D)) (pc := 32) (con_X4_isSign _ _ _) mth_X4_isSign rfl ⟨wd_823, wp_23⟩ wd_821 (st0 := []) rfl rfl (by show _ ≤ D + 10; omega) (Nat.le_of_ble_eq_true rfl) dX4_readTerm_32 (fun _ _ _ h => VX_out rfl (show (0 : Nat) ≠ 10 by decide) h) fun t104 u105 => ?_
  refine V_if_eq (κ := (KX4_readTerm D)) (pc := 35) (tgt := 80) dX4_readTerm_35 rfl ?_ ?_
  · refine V_sub (lv' := []) [] rfl ?_
    exact VBX4_readTerm_80 hrc _
  exact VBX4_readTerm_38 hrc hk12 _ _ _ _
theorem VLX4_readTerm_12 {Γ : Gam} {rc : Int → Int → Mem → Rz} {D : Nat} (hrc : ∀ (b0 b1 : Int) (μ : Mem), Con D yX4_readSum (.code yX4_readSum cX4_readSum 4 (some .boolean)) 0 [(2, b0), (0, b1)] μ (rc b0 b1 μ)) : ∀ (n : Nat) (x0 x1 x2 : Int) (μ : Mem), V Γ (KX4_readTerm D) 12 [(0, (2, x0)), (1, (0, x1)), (2, (0, x2))] [] μ (LX4_readTerm_12 rc n x0 x1 x2 μ)
  | 0, _, _, _, _ => V_none
  | n + 1, x0, x1, x2, μ => VBX4_readTerm_12 hrc (fun y0 y1 y2 ν => VLX4_readTerm_12 hrc n y0 y1 y2 ν) x0 x1 x2 μ
theorem VBX4_readTerm_0 {Γ : Gam} {rc : Int → Int → Mem → Rz} {D : Nat} (hrc : ∀ (b0 b1 : Int) (μ : Mem), Con D yX4_readSum (.code yX4_readSum cX4_readSum 4 (some .boolean)) 0 [(2, b0), (0, b1)] μ (rc b0 b1 μ)) (x0 x1 : Int) (μ : Mem) : V Γ (KX4_readTerm D) 0 [(0, (2, x0)), (1, (0, x1))] [] μ (BX4_readTerm_0 rc x0 x1 μ) := by
  unfold BX4_readTerm_0
  refine V_aload_n (κ := (KX4_readTerm D)) (pc := 0) dX4_readTerm_0 0 rfl rfl ?_
  refine V_iload_n (κ := (KX4_readTerm D)) (pc := 1) dX4_readTerm_1 1 rfl ?_
  refine V_callV (ci := 4) (T := TX4) (N := 13) rfl (by decide) (κ := (KX4_readTerm D)) (pc := 2) (con_X4_readFactor hrc _ _ _) mth_X4_readFactor rfl ⟨wd_871, wp_31⟩ wd_869 (st0 := []) rfl rfl (by show _ ≤ D + 10; omega) (Nat.le_of_ble_eq_true rfl) dX4_readTerm_2 (fun _ _ _ h => VX_out rfl (show (0 : Nat) ≠ 10 by decide) h) fun t101 u102 => ?_
  refine V_if_ne (κ := (KX4_readTerm D)) (pc := 5) (tgt := 10) dX4_readTerm_5 rfl ?_ ?_
  · refine V_iconst (κ := (KX4_readTerm D)) (pc := 10) dX4_readTerm_10 ⟨by decide, by decide⟩ ?_
    refine V_istore_n (κ := (KX4_readTerm D)) (pc := 11) (lv' := [(2, (0, 0)), (0, (2, x0)), (1, (0, x1))]) dX4_readTerm_11 (show 2 < 4 by decide) rfl ?_
    refine V_sub (lv' := [(0, (2, x0)), (1, (0, x1)), (2, (0, 0))]) [1, 2, 0] rfl ?_
    exact VLX4_readTerm_12 hrc FU _ _ _ _
  refine V_iconst (κ := (KX4_readTerm D)) (pc := 8) dX4_readTerm_8 ⟨by decide, by decide⟩ ?_
  exact V_zreturn (κ := (KX4_readTerm D)) (pc := 9) rfl rfl dX4_readTerm_9
theorem con_X4_readTerm {rc : Int → Int → Mem → Rz} {D : Nat} (hrc : ∀ (b0 b1 : Int) (μ : Mem), Con D yX4_readSum (.code yX4_readSum cX4_readSum 4 (some .boolean)) 0 [(2, b0), (0, b1)] μ (rc b0 b1 μ)) (a0 a1 : Int) (μ : Mem) : Con (D + 10) yX4_readTerm (.code yX4_readTerm cX4_readTerm 4 (some .boolean)) 0 [(2, a0), (0, a1)] μ (FX4_readTerm rc a0 a1 μ) := Con_intro (KX4_readTerm D) (plainFor_of_name (by decide)) rfl (fun h => by cases h) (show (0 : Nat) ≠ 10 by decide) rfl (Nat.le_of_ble_eq_true rfl) (fun Γ => VBX4_readTerm_0 hrc _ _ _)
abbrev KX4_readSum (D : Nat) : Kap := (RX4, cX4_readSum, 4, D + 11, 0, (some .boolean), false, [])
theorem VBX4_readSum_80 {Γ : Gam} {rc : Int → Int → Mem → Rz} {D : Nat} (hrc : ∀ (b0 b1 : Int) (μ : Mem), Con D yX4_readSum (.code yX4_readSum cX4_readSum 4 (some .boolean)) 0 [(2, b0), (0, b1)] μ (rc b0 b1 μ)) (μ : Mem) : V Γ (KX4_readSum D) 80 [] [] μ (BX4_readSum_80 rc μ) := by
  unfold BX4_readSum_80
  refine V_iconst (κ := (KX4_readSum D)) (pc := 80) dX4_readSum_80 ⟨by decide, by decide⟩ ?_
  exact V_zreturn (κ := (KX4_readSum D)) (pc := 81) rfl rfl dX4_readSum_81
theorem VBX4_readSum_54 {Γ : Gam} {rc : Int → Int → Mem → Rz} {D : Nat} (hrc : ∀ (b0 b1 : Int) (μ : Mem), Con D yX4_readSum (.code yX4_readSum cX4_readSum 4 (some .boolean)) 0 [(2, b0), (0, b1)] μ (rc b0 b1 μ)) {k12 : Int → Int → Int → Mem → Rz} (hk12 : ∀ (y0 y1 y2 : Int) (ν : Mem), V Γ (KX4_readSum D) 12 [(0, (2, y0)), (1, (0, y1)), (2, (0, y2))] [] ν (k12 y0 y1 y2 ν)) (x0 x1 x2 s0 : Int) (μ : Mem) : V Γ (KX4_readSum D) 54 [(0, (2, x0)), (1, (0, x1)), (2, (0, x2))] [(0, s0)] μ (BX4_readSum_54 rc k12 x0 x1 x2 s0 μ) := by
  unfold BX4_readSum_54
  refine V_istore_n (κ := (KX4_readSum D)) (pc := 54) (lv' := [(3, (0, s0)), (0, (2, x0)), (1, (0, x1)), (2, (0, x2))]) dX4_readSum_54 (show 3 < 4 by decide) rfl ?_
  refine V_aload_n (κ := (KX4_readSum D)) (pc := 55) dX4_readSum_55 1 rfl rfl ?_
  refine V_callV (ci := 4) (T := TX4) (N := 13) rfl (by decide) (κ := (KX4_readSum D)) (pc := 56) (con_X4_advance _ _) mth_X4_advance rfl ⟨wd_786, wp_16⟩ wd_784 (st0 := []) rfl rfl (by show _ ≤ D + 11; omega) (Nat.le_of_ble_eq_true rfl) dX4_readSum_56 (fun _ _ _ h => VX_out rfl (show (0 : Nat) ≠ 10 by decide) h) fun _ u102 => ?_
  refine V_aload_n (κ := (KX4_readSum D)) (pc := 59) dX4_readSum_59 1 rfl rfl ?_
  refine V_iload_n (κ := (KX4_readSum D)) (pc := 60) dX4_readSum_60 2 rfl ?_
  refine V_callV (ci := 4) (T := TX4) (N := 13) rfl (by decide) (κ := (KX4_readSum D)) (pc := 61) (con_X4_readTerm hrc _ _ _) mth_X4_readTerm rfl ⟨wd_867, wp_30⟩ wd_865 (st0 := []) rfl rfl (by show _ ≤ D + 11; omega) (Nat.le_of_ble_eq_true rfl) dX4_readSum_61 (fun _ _ _ h => VX_out rfl (show (0 : Nat) ≠ 10 by decide) h) fun t103 u104 => ?_
  refine V_if_ne (κ := (KX4_readSum D)) (pc := 64) (tgt := 69) dX4_readSum_64 rfl ?_ ?_
  · refine V_aload_n (κ := (KX4_readSum D)) (pc := 69) dX4_readSum_69 1 rfl rfl ?_
    refine V_iload_n (κ := (KX4_readSum D)) (pc := 70) dX4_readSum_70 0 rfl ?_
    refine V_callV (ci := 4) (T := TX4) (N := 13) rfl (by decide) (κ := (KX4_readSum D)) (pc := 71) (con_X4_addItem _ _ _) mth_X4_addItem rfl ⟨wd_875, wp_32⟩ wd_873 (st0 := []) rfl rfl (by show _ ≤ D + 11; omega) (Nat.le_of_ble_eq_true rfl) dX4_readSum_71 (fun _ _ _ h => VX_out rfl (show (0 : Nat) ≠ 10 by decide) h) fun _ u106 => ?_
    refine V_iinc (κ := (KX4_readSum D)) (pc := 74) (lv' := [(2, (0, w32 (x2 + 1))), (3, (0, s0)), (0, (2, x0)), (1, (0, x1))]) dX4_readSum_74 3 rfl (show 2 < 4 by decide) rfl ?_
    refine V_goto (κ := (KX4_readSum D)) (pc := 77) (tgt := 12) dX4_readSum_77 rfl ?_
    refine V_sub (lv' := [(0, (2, x0)), (1, (0, x1)), (2, (0, w32 (x2 + 1)))]) [2, 3, 0] rfl ?_
    exact hk12 _ _ _ _
  refine V_iconst (κ := (KX4_readSum D)) (pc := 67) dX4_readSum_67 ⟨by decide, by decide⟩ ?_
  exact V_zreturn (κ := (KX4_readSum D)) (pc := 68) rfl rfl dX4_readSum_68
theorem VBX4_readSum_38 {Γ : Gam} {rc : Int → Int → Mem → Rz} {D : Nat} (hrc : ∀ (b0 b1 : Int) (μ : Mem), Con D yX4_readSum (.code yX4_readSum cX4_readSum 4 (some .boolean)) 0 [(2, b0), (0, b1)] μ (rc b0 b1 μ)) {k12 : Int → Int → Int → Mem → Rz} (hk12 : ∀ (y0 y1 y2 : Int) (ν : Mem), V Γ (KX4_readSum D) 12 [(0, (2, y0)), (1, (0, y1)), (2, (0, y2))] [] ν (k12 y0 y1 y2 ν)) (x0 x1 x2 : Int) (μ : Mem) : V Γ (KX4_readSum D) 38 [(0, (2, x0)), (1, (0, x1)), (2, (0, x2))] [] μ (BX4_readSum_38 rc k12 x0 x1 x2 μ) := by
  unfold BX4_readSum_38
  refine V_aload_n (κ := (KX4_readSum D)) (pc := 38) dX4_readSum_38 0 rfl rfl ?_
  refine V_bipush (κ := (KX4_readSum D)) (pc := 39) dX4_readSum_39 ⟨by decide, by decide⟩ (by decide) ?_
  refine V_callV (ci := 4) (T := TX4) (N := 13) rfl (by decide) (κ := (KX4_readSum D)) (pc := 41) (con_X4_isSign _ _ _) mth_X4_isSign rfl ⟨wd_823, wp_23⟩ wd_821 (st0 := []) rfl rfl (by show _ ≤ D + 11; omega) (Nat.le_of_ble_eq_true rfl) dX4_readSum_41 (fun _ _ _ h => VX_out rfl (show (0 : Nat) ≠ 10 by decide) h) fun t101 u102 => ?_
  refine V_if_eq (κ := (KX4_readSum D)) (pc := 44) (tgt := 52) dX4_readSum_44 rfl ?_ ?_
  · refine V_bipush (κ := (KX4_readSum D)) (pc := 52) dX4_readSum_52 ⟨by decide, by decide⟩ (by decide) ?_
    exact VBX4_readSum_54 hrc hk12 _ _ _ _ _
  refine V_bipush (κ := (KX4_readSum D)) (pc := 47) dX4_readSum_47 ⟨by decide, by decide⟩ (by decide) ?_
  refine V_goto (κ := (KX4_readSum D)) (pc := 49) (tgt := 54) dX4_readSum_49 rfl ?_
  exact VBX4_readSum_54 hrc hk12 _ _ _ _ _
theorem VBX4_readSum_12 {Γ : Gam} {rc : Int → Int → Mem → Rz} {D : Nat} (hrc : ∀ (b0 b1 : Int) (μ : Mem), Con D yX4_readSum (.code yX4_readSum cX4_readSum 4 (some .boolean)) 0 [(2, b0), (0, b1)] μ (rc b0 b1 μ)) {k12 : Int → Int → Int → Mem → Rz} (hk12 : ∀ (y0 y1 y2 : Int) (ν : Mem), V Γ (KX4_readSum D) 12 [(0, (2, y0)), (1, (0, y1)), (2, (0, y2))] [] ν (k12 y0 y1 y2 ν)) (x0 x1 x2 : Int) (μ : Mem) : V Γ (KX4_readSum D) 12 [(0, (2, x0)), (1, (0, x1)), (2, (0, x2))] [] μ (BX4_readSum_12 rc k12 x0 x1 x2 μ) := by
  unfold BX4_readSum_12
  refine V_iload_n (κ := (KX4_readSum D)) (pc := 12) dX4_readSum_12 2 rfl ?_
  refine V_aload_n (κ := (KX4_readSum D)) (pc := 13) dX4_readSum_13 0 rfl rfl ?_
  refine V_getf 4 (κ := (KX4_readSum D)) (pc := 14) rfl (by decide) rfl inX4 3 (by decide) wd_112 rfl (t := 0) rfl dX4_readSum_14 fun t101 => ?_
  refine V_icmp_ge (κ := (KX4_readSum D)) (pc := 17) (tgt := 80) dX4_readSum_17 rfl ?_ ?_
  · refine V_sub (lv' := []) [] rfl ?_
    exact VBX4_readSum_80 hrc _
  refine V_aload_n (κ := (KX4_readSum D)) (pc := 20) dX4_readSum_20 0 rfl rfl ?_
  refine V_bipush (κ := (KX4_readSum D)) (pc := 21) dX4_readSum_21 ⟨by decide, by decide⟩ (by decide) ?_
  refine V_callV (ci := 4) (T := TX4) (N := 13) rfl (by decide) (κ := (KX4_readSum D)) (pc := 23) (con_X4_isSign _ _ _) mth_X4_isSign rfl ⟨wd_823, wp_23⟩ wd_821 (st0 := []) rfl rfl (by show _ ≤ D + 11; omega) (Nat.le_of_ble_eq_true rfl) dX4_readSum_23 (fun _ _ _ h => VX_out rfl (show (0 : Nat) ≠ 10 by decide) h) fun t102 u103 => ?_
  refine V_if_ne (κ := (KX4_readSum D)) (pc := 26) (tgt := 38) dX4_readSum_26 rfl ?_ ?_
  · exact VBX4_readSum_38 hrc hk12 _ _ _ _
  refine V_aload_n (κ := (KX4_readSum D)) (pc := 29) dX4_readSum_29 0 rfl rfl ?_
  refine V_bipush (κ := (KX4_readSum D)) (pc := 30) dX4_readSum_30 ⟨by decide, by decide⟩ (by decide) ?_
  refine V_callV (ci := 4) (T := TX4) (N := 13) rfl (by decide) (κ := (KX4_readSum D)) (pc := 32) (con_X4_isSign _ _ _) mth_X4_isSign rfl ⟨wd_823, wp_23⟩ wd_821 (st0 := []) rfl rfl (by show _ ≤ D + 11; omega) (Nat.le_of_ble_eq_true rfl) dX4_readSum_32 (fun _ _ _ h => VX_out rfl (show (0 : Nat) ≠ 10 by decide) h) fun t104 u105 => ?_
  refine V_if_eq (κ := (KX4_readSum D)) (pc := 35) (tgt := 80) dX4_readSum_35 rfl ?_ ?_
  · refine V_sub (lv' := []) [] rfl ?_
    exact VBX4_readSum_80 hrc _
  exact VBX4_readSum_38 hrc hk12 _ _ _ _
theorem VLX4_readSum_12 {Γ : Gam} {rc : Int → Int → Mem → Rz} {D : Nat} (hrc : ∀ (b0 b1 : Int) (μ : Mem), Con D yX4_readSum (.code yX4_readSum cX4_readSum 4 (some .boolean)) 0 [(2, b0), (0, b1)] μ (rc b0 b1 μ)) : ∀ (n : Nat) (x0 x1 x2 : Int) (μ : Mem), V Γ (KX4_readSum D) 12 [(0, (2, x0)), (1, (0, x1)), (2, (0, x2))] [] μ (LX4_readSum_12 rc n x0 x1 x2 μ)
  | 0, _, _, _, _ => V_none
  | n + 1, x0, x1, x2, μ => VBX4_readSum_12 hrc (fun y0 y1 y2 ν => VLX4_readSum_12 hrc n y0 y1 y2 ν) x0 x1 x2 μ
theorem VBX4_readSum_0 {Γ : Gam} {rc : Int → Int → Mem → Rz} {D : Nat} (hrc : ∀ (b0 b1 : Int) (μ : Mem), Con D yX4_readSum (.code yX4_readSum cX4_readSum 4 (some .boolean)) 0 [(2, b0), (0, b1)] μ (rc b0 b1 μ)) (x0 x1 : Int) (μ : Mem) : V Γ (KX4_readSum D) 0 [(0, (2, x0)), (1, (0, x1))] [] μ (BX4_readSum_0 rc x0 x1 μ) := by
  unfold BX4_readSum_0
  refine V_aload_n (κ := (KX4_readSum D)) (pc := 0) dX4_readSum_0 0 rfl rfl ?_
  refine V_iload_n (κ := (KX4_readSum D)) (pc := 1) dX4_readSum_1 1 rfl ?_
  refine V_callV (ci := 4) (T := TX4) (N := 13) rfl (by decide) (κ := (KX4_readSum D)) (pc := 2) (con_X4_readTerm hrc _ _ _) mth_X4_readTerm rfl ⟨wd_867, wp_30⟩ wd_865 (st0 := []) rfl rfl (by show _ ≤ D + 11; omega) (Nat.le_of_ble_eq_true rfl) dX4_readSum_2 (fun _ _ _ h => VX_out rfl (show (0 : Nat) ≠ 10 by decide) h) fun t101 u102 => ?_
  refine V_if_ne (κ := (KX4_readSum D)) (pc := 5) (tgt := 10) dX4_readSum_5 rfl ?_ ?_
  · refine V_iconst (κ := (KX4_readSum D)) (pc := 10) dX4_readSum_10 ⟨by decide, by decide⟩ ?_
    refine V_istore_n (κ := (KX4_readSum D)) (pc := 11) (lv' := [(2, (0, 0)), (0, (2, x0)), (1, (0, x1))]) dX4_readSum_11 (show 2 < 4 by decide) rfl ?_
    refine V_sub (lv' := [(0, (2, x0)), (1, (0, x1)), (2, (0, 0))]) [1, 2, 0] rfl ?_
    exact VLX4_readSum_12 hrc FU _ _ _ _
  refine V_iconst (κ := (KX4_readSum D)) (pc := 8) dX4_readSum_8 ⟨by decide, by decide⟩ ?_
  exact V_zreturn (κ := (KX4_readSum D)) (pc := 9) rfl rfl dX4_readSum_9
theorem con_X4_readSum {rc : Int → Int → Mem → Rz} {D : Nat} (hrc : ∀ (b0 b1 : Int) (μ : Mem), Con D yX4_readSum (.code yX4_readSum cX4_readSum 4 (some .boolean)) 0 [(2, b0), (0, b1)] μ (rc b0 b1 μ)) (a0 a1 : Int) (μ : Mem) : Con (D + 11) yX4_readSum (.code yX4_readSum cX4_readSum 4 (some .boolean)) 0 [(2, a0), (0, a1)] μ (FX4_readSum rc a0 a1 μ) := Con_intro (KX4_readSum D) (plainFor_of_name (by decide)) rfl (fun h => by cases h) (show (0 : Nat) ≠ 10 by decide) rfl (Nat.le_of_ble_eq_true rfl) (fun Γ => VBX4_readSum_0 hrc _ _ _)
theorem conR_X4_readSum : ∀ (n : Nat) (a0 a1 : Int) (μ : Mem), Con (11 * n) yX4_readSum (.code yX4_readSum cX4_readSum 4 (some .boolean)) 0 [(2, a0), (0, a1)] μ (RX4_readSum n a0 a1 μ)
  | 0, _, _, _ => Con_none
  | n + 1, a0, a1, μ => con_X4_readSum (D := 11 * n) (fun b0 b1 ν => conR_X4_readSum n b0 b1 ν) a0 a1 μ
theorem conT_X4_readSum (a0 a1 : Int) (μ : Mem) : Con 77 yX4_readSum (.code yX4_readSum cX4_readSum 4 (some .boolean)) 0 [(2, a0), (0, a1)] μ (TX4_readSum a0 a1 μ) := conR_X4_readSum 7 a0 a1 μ
abbrev KX4_shapeHere : Kap := (RX4, cX4_shapeHere, 1, 8, 0, (some .int), false, [])
theorem VBX4_shapeHere_47 {Γ : Gam} (s0 : Int) (μ : Mem) : V Γ KX4_shapeHere 47 [] [(0, s0)] μ (BX4_shapeHere_47 s0 μ) := by
  unfold BX4_shapeHere_47
  exact V_ireturn (κ := KX4_shapeHere) (pc := 47) rfl rfl dX4_shapeHere_47
theorem VBX4_shapeHere_0 {Γ : Gam} (x0 : Int) (μ : Mem) : V Γ KX4_shapeHere 0 [(0, (2, x0))] [] μ (BX4_shapeHere_0 x0 μ) := by
  unfold BX4_shapeHere_0
  refine V_aload_n (κ := KX4_shapeHere) (pc := 0) dX4_shapeHere_0 0 rfl rfl ?_
  refine V_ldcs (κ := KX4_shapeHere) (pc := 1) (tx := "round") (w := 9) (show (RX4, 197, "round", 9) ∈ wrds by decide) dX4_shapeHere_1 (by decide) ?_
  refine V_callV (ci := 4) (T := TX4) (N := 13) rfl (by decide) (κ := KX4_shapeHere) (pc := 3) (con_X4_isWord _ _ _) mth_X4_isWord rfl ⟨wd_799, wp_19⟩ wd_797 (st0 := []) rfl rfl (by decide) (Nat.le_of_ble_eq_true rfl) dX4_shapeHere_3 (fun _ _ _ h => VX_out rfl (by decide) h) fun t101 u102 => ?_
  refine V_if_eq (κ := KX4_shapeHere) (pc := 6) (tgt := 11) dX4_shapeHere_6 rfl ?_ ?_
  · refine V_aload_n (κ := KX4_shapeHere) (pc := 11) dX4_shapeHere_11 0 rfl rfl ?_
    refine V_ldcs (κ := KX4_shapeHere) (pc := 12) (tx := "line") (w := 10) (show (RX4, 199, "line", 10) ∈ wrds by decide) dX4_shapeHere_12 (by decide) ?_
    refine V_callV (ci := 4) (T := TX4) (N := 13) rfl (by decide) (κ := KX4_shapeHere) (pc := 14) (con_X4_isWord _ _ _) mth_X4_isWord rfl ⟨wd_799, wp_19⟩ wd_797 (st0 := []) rfl rfl (by decide) (Nat.le_of_ble_eq_true rfl) dX4_shapeHere_14 (fun _ _ _ h => VX_out rfl (by decide) h) fun t103 u104 => ?_
    refine V_if_eq (κ := KX4_shapeHere) (pc := 17) (tgt := 22) dX4_shapeHere_17 rfl ?_ ?_
    · refine V_aload_n (κ := KX4_shapeHere) (pc := 22) dX4_shapeHere_22 0 rfl rfl ?_
      refine V_ldcs (κ := KX4_shapeHere) (pc := 23) (tx := "diamond") (w := 11) (show (RX4, 201, "diamond", 11) ∈ wrds by decide) dX4_shapeHere_23 (by decide) ?_
      refine V_callV (ci := 4) (T := TX4) (N := 13) rfl (by decide) (κ := KX4_shapeHere) (pc := 25) (con_X4_isWord _ _ _) mth_X4_isWord rfl ⟨wd_799, wp_19⟩ wd_797 (st0 := []) rfl rfl (by decide) (Nat.le_of_ble_eq_true rfl) dX4_shapeHere_25 (fun _ _ _ h => VX_out rfl (by decide) h) fun t105 u106 => ?_
      refine V_if_eq (κ := KX4_shapeHere) (pc := 28) (tgt := 33) dX4_shapeHere_28 rfl ?_ ?_
      · refine V_aload_n (κ := KX4_shapeHere) (pc := 33) dX4_shapeHere_33 0 rfl rfl ?_
        refine V_ldcs (κ := KX4_shapeHere) (pc := 34) (tx := "square") (w := 12) (show (RX4, 203, "square", 12) ∈ wrds by decide) dX4_shapeHere_34 (by decide) ?_
        refine V_callV (ci := 4) (T := TX4) (N := 13) rfl (by decide) (κ := KX4_shapeHere) (pc := 36) (con_X4_isWord _ _ _) mth_X4_isWord rfl ⟨wd_799, wp_19⟩ wd_797 (st0 := []) rfl rfl (by decide) (Nat.le_of_ble_eq_true rfl) dX4_shapeHere_36 (fun _ _ _ h => VX_out rfl (by decide) h) fun t107 u108 => ?_
        refine V_if_eq (κ := KX4_shapeHere) (pc := 39) (tgt := 46) dX4_shapeHere_39 rfl ?_ ?_
        · refine V_iconst (κ := KX4_shapeHere) (pc := 46) dX4_shapeHere_46 ⟨by decide, by decide⟩ ?_
          refine V_sub (lv' := []) [] rfl ?_
          exact VBX4_shapeHere_47 _ _
        refine V_iconst (κ := KX4_shapeHere) (pc := 42) dX4_shapeHere_42 ⟨by decide, by decide⟩ ?_
        refine V_goto (κ := KX4_shapeHere) (pc := 43) (tgt := 47) dX4_shapeHere_43 rfl ?_
        refine V_sub (lv' := []) [] rfl ?_
        exact VBX4_shapeHere_47 _ _
      refine V_iconst (κ := KX4_shapeHere) (pc := 31) dX4_shapeHere_31 ⟨by decide, by decide⟩ ?_
      exact V_ireturn (κ := KX4_shapeHere) (pc := 32) rfl rfl dX4_shapeHere_32
    refine V_iconst (κ := KX4_shapeHere) (pc := 20) dX4_shapeHere_20 ⟨by decide, by decide⟩ ?_
    exact V_ireturn (κ := KX4_shapeHere) (pc := 21) rfl rfl dX4_shapeHere_21
  refine V_iconst (κ := KX4_shapeHere) (pc := 9) dX4_shapeHere_9 ⟨by decide, by decide⟩ ?_
  exact V_ireturn (κ := KX4_shapeHere) (pc := 10) rfl rfl dX4_shapeHere_10
theorem con_X4_shapeHere (a0 : Int) (μ : Mem) : Con (8) yX4_shapeHere (.code yX4_shapeHere cX4_shapeHere 1 (some .int)) 0 [(2, a0)] μ (FX4_shapeHere a0 μ) := Con_intro KX4_shapeHere (plainFor_of_name (by decide)) rfl (fun h => by cases h) (by decide) rfl (Nat.le_of_ble_eq_true rfl) (fun Γ => VBX4_shapeHere_0 _ _)
abbrev KX5_addPlate : Kap := (RX5, cX5_addPlate, 8, 1, 9, none, false, [])
theorem VBX5_addPlate_0 {Γ : Gam} (x0 x1 x3 x4 x5 x6 : Int) (μ : Mem) : V Γ KX5_addPlate 0 [(0, (2, x0)), (1, (1, x1)), (3, (0, x3)), (4, (0, x4)), (5, (0, x5)), (6, (2, x6))] [] μ (BX5_addPlate_0 x0 x1 x3 x4 x5 x6 μ) := by
  unfold BX5_addPlate_0
  refine V_aload_n (κ := KX5_addPlate) (pc := 0) dX5_addPlate_0 0 rfl rfl ?_
  refine V_getf 5 (κ := KX5_addPlate) (pc := 1) rfl (by decide) rfl inX5 3 (by decide) wd_216 rfl (t := 0) rfl dX5_addPlate_1 fun t101 => ?_
  refine V_iconst (κ := KX5_addPlate) (pc := 4) dX5_addPlate_4 ⟨by decide, by decide⟩ ?_
  refine V_icmp_lt (κ := KX5_addPlate) (pc := 5) (tgt := 9) dX5_addPlate_5 rfl ?_ ?_
  · refine V_aload_n (κ := KX5_addPlate) (pc := 9) dX5_addPlate_9 0 rfl rfl ?_
    refine V_getf 5 (κ := KX5_addPlate) (pc := 10) rfl (by decide) rfl inX5 4 (by decide) wd_220 rfl (t := 2) rfl dX5_addPlate_10 fun t102 => ?_
    refine V_aload_n (κ := KX5_addPlate) (pc := 13) dX5_addPlate_13 0 rfl rfl ?_
    refine V_getf 5 (κ := KX5_addPlate) (pc := 14) rfl (by decide) rfl inX5 3 (by decide) wd_216 rfl (t := 0) rfl dX5_addPlate_14 fun t103 => ?_
    refine V_aaload 5 (by decide) rfl rfl (κ := KX5_addPlate) (pc := 17) dX5_addPlate_17 fun t104 => ?_
    refine V_astore (κ := KX5_addPlate) (pc := 18) (lv' := [(7, (2, t104)), (0, (2, x0)), (1, (1, x1)), (3, (0, x3)), (4, (0, x4)), (5, (0, x5)), (6, (2, x6))]) dX5_addPlate_18 rfl (by decide) rfl ?_
    refine V_aload (κ := KX5_addPlate) (pc := 20) dX5_addPlate_20 0 rfl rfl ?_
    refine V_lload_n (κ := KX5_addPlate) (pc := 22) dX5_addPlate_22 2 rfl ?_
    refine V_putf 1 (κ := KX5_addPlate) (pc := 23) rfl (by decide) rfl inX1 tyX1 tyX1_ok nmX1 0 (by decide) wd_162 rfl rfl (t := 1) rfl rfl dX5_addPlate_23 fun u105 => ?_
    refine V_aload (κ := KX5_addPlate) (pc := 26) dX5_addPlate_26 0 rfl rfl ?_
    refine V_iload_n (κ := KX5_addPlate) (pc := 28) dX5_addPlate_28 3 rfl ?_
    refine V_putf 1 (κ := KX5_addPlate) (pc := 29) rfl (by decide) rfl inX1 tyX1 tyX1_ok nmX1 1 (by decide) wd_165 rfl rfl (t := 0) rfl rfl dX5_addPlate_29 fun u106 => ?_
    refine V_aload (κ := KX5_addPlate) (pc := 32) dX5_addPlate_32 0 rfl rfl ?_
    refine V_iload (κ := KX5_addPlate) (pc := 34) dX5_addPlate_34 4 rfl ?_
    refine V_putf 1 (κ := KX5_addPlate) (pc := 36) rfl (by decide) rfl inX1 tyX1 tyX1_ok nmX1 2 (by decide) wd_168 rfl rfl (t := 0) rfl rfl dX5_addPlate_36 fun u107 => ?_
    refine V_aload (κ := KX5_addPlate) (pc := 39) dX5_addPlate_39 0 rfl rfl ?_
    refine V_iload (κ := KX5_addPlate) (pc := 41) dX5_addPlate_41 5 rfl ?_
    refine V_putf 1 (κ := KX5_addPlate) (pc := 43) rfl (by decide) rfl inX1 tyX1 tyX1_ok nmX1 3 (by decide) wd_171 rfl rfl (t := 0) rfl rfl dX5_addPlate_43 fun u108 => ?_
    refine V_aload (κ := KX5_addPlate) (pc := 46) dX5_addPlate_46 0 rfl rfl ?_
    refine V_iconst (κ := KX5_addPlate) (pc := 48) dX5_addPlate_48 ⟨by decide, by decide⟩ ?_
    refine V_putf 1 (κ := KX5_addPlate) (pc := 49) rfl (by decide) rfl inX1 tyX1 tyX1_ok nmX1 4 (by decide) wd_174 rfl rfl (t := 0) rfl rfl dX5_addPlate_49 fun u109 => ?_
    refine V_aload (κ := KX5_addPlate) (pc := 52) dX5_addPlate_52 0 rfl rfl ?_
    refine V_iconst (κ := KX5_addPlate) (pc := 54) dX5_addPlate_54 ⟨by decide, by decide⟩ ?_
    refine V_putf 1 (κ := KX5_addPlate) (pc := 55) rfl (by decide) rfl inX1 tyX1 tyX1_ok nmX1 5 (by decide) wd_178 rfl rfl (t := 0) rfl rfl dX5_addPlate_55 fun u110 => ?_
    refine V_aload (κ := KX5_addPlate) (pc := 58) dX5_addPlate_58 0 rfl rfl ?_
    refine V_sipush (κ := KX5_addPlate) (pc := 60) dX5_addPlate_60 ⟨by decide, by decide⟩ (by decide) ?_
    refine V_putf 1 (κ := KX5_addPlate) (pc := 63) rfl (by decide) rfl inX1 tyX1 tyX1_ok nmX1 6 (by decide) wd_182 rfl rfl (t := 0) rfl rfl dX5_addPlate_63 fun u111 => ?_
    refine V_aload (κ := KX5_addPlate) (pc := 66) dX5_addPlate_66 0 rfl rfl ?_
    refine V_aload (κ := KX5_addPlate) (pc := 68) dX5_addPlate_68 6 rfl rfl ?_
    refine V_putf 1 (κ := KX5_addPlate) (pc := 70) rfl (by decide) rfl inX1 tyX1 tyX1_ok nmX1 7 (by decide) wd_185 rfl rfl (t := 2) rfl rfl dX5_addPlate_70 fun u112 => ?_
    refine V_aload_n (κ := KX5_addPlate) (pc := 73) dX5_addPlate_73 1 rfl rfl ?_
    refine V_dup (κ := KX5_addPlate) (pc := 74) rfl dX5_addPlate_74 ?_
    refine V_getf 5 (κ := KX5_addPlate) (pc := 75) rfl (by decide) rfl inX5 3 (by decide) wd_216 rfl (t := 0) rfl dX5_addPlate_75 fun t113 => ?_
    refine V_iconst (κ := KX5_addPlate) (pc := 78) dX5_addPlate_78 ⟨by decide, by decide⟩ ?_
    refine V_iadd (κ := KX5_addPlate) (pc := 79) dX5_addPlate_79 ?_
    refine V_putf 5 (κ := KX5_addPlate) (pc := 80) rfl (by decide) rfl inX5 tyX5 tyX5_ok nmX5 3 (by decide) wd_216 rfl rfl (t := 0) rfl rfl dX5_addPlate_80 fun u114 => ?_
    exact V_vreturn (κ := KX5_addPlate) (pc := 83) rfl rfl dX5_addPlate_83
  exact V_vreturn (κ := KX5_addPlate) (pc := 8) rfl rfl dX5_addPlate_8
theorem con_X5_addPlate (a0 a1 a3 a4 a5 a6 : Int) (μ : Mem) : Con (1) yX5_addPlate (.code yX5_addPlate cX5_addPlate 8 none) 9 [(2, a0), (1, a1), (0, a3), (0, a4), (0, a5), (2, a6)] μ (FX5_addPlate a0 a1 a3 a4 a5 a6 μ) := Con_intro KX5_addPlate (plainFor_of_name (by decide)) rfl (fun h => by cases h) (by decide) rfl (Nat.le_of_ble_eq_true rfl) (fun Γ => VBX5_addPlate_0 _ _ _ _ _ _ _)
abbrev KX4_readPlate : Kap := (RX4, cX4_readPlate, 7, 78, 0, (some .boolean), false, [])
theorem VBX4_readPlate_183 {Γ : Gam} (x0 x1 x3 x4 x5 x6 : Int) (μ : Mem) : V Γ KX4_readPlate 183 [(0, (2, x0)), (1, (1, x1)), (3, (0, x3)), (4, (0, x4)), (5, (0, x5)), (6, (2, x6))] [] μ (BX4_readPlate_183 x0 x1 x3 x4 x5 x6 μ) := by
  unfold BX4_readPlate_183
  refine V_aload_n (κ := KX4_readPlate) (pc := 183) dX4_readPlate_183 0 rfl rfl ?_
  refine V_getf 4 (κ := KX4_readPlate) (pc := 184) rfl (by decide) rfl inX4 4 (by decide) wd_113 rfl (t := 2) rfl dX4_readPlate_184 fun t101 => ?_
  refine V_lload_n (κ := KX4_readPlate) (pc := 187) dX4_readPlate_187 1 rfl ?_
  refine V_iload_n (κ := KX4_readPlate) (pc := 188) dX4_readPlate_188 2 rfl ?_
  refine V_iload (κ := KX4_readPlate) (pc := 189) dX4_readPlate_189 3 rfl ?_
  refine V_iload (κ := KX4_readPlate) (pc := 191) dX4_readPlate_191 4 rfl ?_
  refine V_aload (κ := KX4_readPlate) (pc := 193) dX4_readPlate_193 5 rfl rfl ?_
  refine V_callV (ci := 5) (T := TX5) (N := 7) rfl (by decide) (κ := KX4_readPlate) (pc := 195) (con_X5_addPlate _ _ _ _ _ _ _) mth_X5_addPlate rfl ⟨wd_905, wd_906⟩ wd_904 (st0 := []) rfl rfl (by decide) (Nat.le_of_ble_eq_true rfl) dX4_readPlate_195 (fun _ _ _ h => VX_out rfl (by decide) h) fun _ u103 => ?_
  refine V_iconst (κ := KX4_readPlate) (pc := 198) dX4_readPlate_198 ⟨by decide, by decide⟩ ?_
  exact V_zreturn (κ := KX4_readPlate) (pc := 199) rfl rfl dX4_readPlate_199
theorem VBX4_readPlate_95 {Γ : Gam} (x0 x1 x3 s0 s1 : Int) (μ : Mem) : V Γ KX4_readPlate 95 [(0, (2, x0)), (1, (1, x1)), (3, (0, x3))] [(0, s0), (2, s1)] μ (BX4_readPlate_95 x0 x1 x3 s0 s1 μ) := by
  unfold BX4_readPlate_95
  refine V_iconst (κ := KX4_readPlate) (pc := 95) dX4_readPlate_95 ⟨by decide, by decide⟩ ?_
  refine V_callV (ci := 4) (T := TX4) (N := 13) rfl (by decide) (κ := KX4_readPlate) (pc := 96) (con_X4_takeNumber _ _ _ _) mth_X4_takeNumber rfl ⟨wd_809, wp_21⟩ wd_807 (st0 := []) rfl rfl (by decide) (Nat.le_of_ble_eq_true rfl) dX4_readPlate_96 (fun _ _ _ h => VX_out rfl (by decide) h) fun t101 u102 => ?_
  refine V_if_ne (κ := KX4_readPlate) (pc := 99) (tgt := 104) dX4_readPlate_99 rfl ?_ ?_
  · refine V_aload_n (κ := KX4_readPlate) (pc := 104) dX4_readPlate_104 0 rfl rfl ?_
    refine V_getf 4 (κ := KX4_readPlate) (pc := 105) rfl (by decide) rfl inX4 10 (by decide) wd_119 rfl (t := 0) rfl dX4_readPlate_105 fun t103 => ?_
    refine V_istore (κ := KX4_readPlate) (pc := 108) (lv' := [(4, (0, t103)), (0, (2, x0)), (1, (1, x1)), (3, (0, x3))]) dX4_readPlate_108 (by decide) rfl ?_
    refine V_aload_n (κ := KX4_readPlate) (pc := 110) dX4_readPlate_110 1 rfl rfl ?_
    refine V_callV (ci := 4) (T := TX4) (N := 13) rfl (by decide) (κ := KX4_readPlate) (pc := 111) (con_X4_shapeHere _ _) mth_X4_shapeHere rfl ⟨wd_854, wp_28⟩ wd_852 (st0 := []) rfl rfl (by decide) (Nat.le_of_ble_eq_true rfl) dX4_readPlate_111 (fun _ _ _ h => VX_out rfl (by decide) h) fun t104 u105 => ?_
    refine V_istore (κ := KX4_readPlate) (pc := 114) (lv' := [(5, (0, t104)), (4, (0, t103)), (0, (2, x0)), (1, (1, x1)), (3, (0, x3))]) dX4_readPlate_114 (by decide) rfl ?_
    refine V_iload (κ := KX4_readPlate) (pc := 116) dX4_readPlate_116 0 rfl ?_
    refine V_if_ge (κ := KX4_readPlate) (pc := 118) (tgt := 128) dX4_readPlate_118 rfl ?_ ?_
    · refine V_aload_n (κ := KX4_readPlate) (pc := 128) dX4_readPlate_128 2 rfl rfl ?_
      refine V_callV (ci := 4) (T := TX4) (N := 13) rfl (by decide) (κ := KX4_readPlate) (pc := 129) (con_X4_advance _ _) mth_X4_advance rfl ⟨wd_786, wp_16⟩ wd_784 (st0 := []) rfl rfl (by decide) (Nat.le_of_ble_eq_true rfl) dX4_readPlate_129 (fun _ _ _ h => VX_out rfl (by decide) h) fun _ u107 => ?_
      refine V_NU fun h0 => ?_
      refine V_null (κ := KX4_readPlate) (pc := 132) dX4_readPlate_132 h0 ?_
      refine V_astore (κ := KX4_readPlate) (pc := 133) (lv' := [(6, (2, 0)), (5, (0, t104)), (4, (0, t103)), (0, (2, x0)), (1, (1, x1)), (3, (0, x3))]) dX4_readPlate_133 rfl (by decide) rfl ?_
      refine V_aload_n (κ := KX4_readPlate) (pc := 135) dX4_readPlate_135 3 rfl rfl ?_
      refine V_ldcs (κ := KX4_readPlate) (pc := 136) (tx := "curve") (w := 5) (show (RX4, 141, "curve", 5) ∈ wrds by decide) dX4_readPlate_136 (by decide) ?_
      refine V_callV (ci := 4) (T := TX4) (N := 13) rfl (by decide) (κ := KX4_readPlate) (pc := 138) (con_X4_isWord _ _ _) mth_X4_isWord rfl ⟨wd_799, wp_19⟩ wd_797 (st0 := []) rfl rfl (by decide) (Nat.le_of_ble_eq_true rfl) dX4_readPlate_138 (fun _ _ _ h => VX_out rfl (by decide) h) fun t108 u109 => ?_
      refine V_if_eq (κ := KX4_readPlate) (pc := 141) (tgt := 183) dX4_readPlate_141 rfl ?_ ?_
      · refine V_sub (lv' := [(0, (2, x0)), (1, (1, x1)), (3, (0, x3)), (4, (0, t103)), (5, (0, t104)), (6, (2, 0))]) [3, 4, 5, 2, 1, 0] rfl ?_
        exact VBX4_readPlate_183 _ _ _ _ _ _ _
      refine V_aload_n (κ := KX4_readPlate) (pc := 144) dX4_readPlate_144 3 rfl rfl ?_
      refine V_callV (ci := 4) (T := TX4) (N := 13) rfl (by decide) (κ := KX4_readPlate) (pc := 145) (con_X4_advance _ _) mth_X4_advance rfl ⟨wd_786, wp_16⟩ wd_784 (st0 := []) rfl rfl (by decide) (Nat.le_of_ble_eq_true rfl) dX4_readPlate_145 (fun _ _ _ h => VX_out rfl (by decide) h) fun _ u111 => ?_
      refine V_aload_n (κ := KX4_readPlate) (pc := 148) dX4_readPlate_148 3 rfl rfl ?_
      refine V_iconst (κ := KX4_readPlate) (pc := 149) dX4_readPlate_149 ⟨by decide, by decide⟩ ?_
      refine V_putf 4 (κ := KX4_readPlate) (pc := 150) rfl (by decide) rfl inX4 tyX4 tyX4_ok nmX4 12 (by decide) wd_121 rfl rfl (t := 0) rfl rfl dX4_readPlate_150 fun u112 => ?_
      refine V_aload_n (κ := KX4_readPlate) (pc := 153) dX4_readPlate_153 3 rfl rfl ?_
      refine V_iconst (κ := KX4_readPlate) (pc := 154) dX4_readPlate_154 ⟨by decide, by decide⟩ ?_
      refine V_callV (ci := 4) (T := TX4) (N := 13) rfl (by decide) (κ := KX4_readPlate) (pc := 155) (conT_X4_readSum _ _ _) mth_X4_readSum rfl ⟨wd_863, wp_29⟩ wd_861 (st0 := []) rfl rfl (by decide) (Nat.le_of_ble_eq_true rfl) dX4_readPlate_155 (fun _ _ _ h => VX_out rfl (by decide) h) fun t113 u114 => ?_
      refine V_if_ne (κ := KX4_readPlate) (pc := 158) (tgt := 163) dX4_readPlate_158 rfl ?_ ?_
      · refine V_new 0 (κ := KX4_readPlate) (pc := 163) rfl (by decide) rfl rfl inX0 tyX0 tyX0_ok (by decide) wd_884 wd_885 wd_29 dX4_readPlate_163 fun t115 u116 => ?_
        refine V_dup (κ := KX4_readPlate) (pc := 166) rfl dX4_readPlate_166 ?_
        refine V_aload_n (κ := KX4_readPlate) (pc := 167) dX4_readPlate_167 3 rfl rfl ?_
        refine V_getf 4 (κ := KX4_readPlate) (pc := 168) rfl (by decide) rfl inX4 11 (by decide) wd_120 rfl (t := 2) rfl dX4_readPlate_168 fun t117 => ?_
        refine V_aload_n (κ := KX4_readPlate) (pc := 171) dX4_readPlate_171 3 rfl rfl ?_
        refine V_getf 4 (κ := KX4_readPlate) (pc := 172) rfl (by decide) rfl inX4 12 (by decide) wd_121 rfl (t := 0) rfl dX4_readPlate_172 fun t118 => ?_
        refine V_callS (κ := KX4_readPlate) (pc := 175) (con_J7_copyOf_59c91 _ _ _) mth_J7_copyOf_59c91 wd_887 wd_886 (st0 := [(2, t115), (2, t115)]) rfl rfl (by decide) (Nat.le_of_ble_eq_true rfl) dX4_readPlate_175 (fun _ _ _ h => VX_out rfl (by decide) h) fun t119 u120 => ?_
        refine V_callI (ci := 0) (by decide) (κ := KX4_readPlate) (pc := 178) (con_X0_init _ _ _) mth_X0_init rfl wd_897 wd_896 (st0 := [(2, t115)]) rfl rfl (by decide) (Nat.le_of_ble_eq_true rfl) dX4_readPlate_178 (fun _ _ _ h => VX_out rfl (by decide) h) fun _ u122 => ?_
        refine V_astore (κ := KX4_readPlate) (pc := 181) (lv' := [(6, (2, t115)), (5, (0, t104)), (4, (0, t103)), (0, (2, x0)), (1, (1, x1)), (3, (0, x3))]) dX4_readPlate_181 rfl (by decide) rfl ?_
        refine V_sub (lv' := [(0, (2, x0)), (1, (1, x1)), (3, (0, x3)), (4, (0, t103)), (5, (0, t104)), (6, (2, t115))]) [3, 4, 5, 2, 1, 0] rfl ?_
        exact VBX4_readPlate_183 _ _ _ _ _ _ _
      refine V_iconst (κ := KX4_readPlate) (pc := 161) dX4_readPlate_161 ⟨by decide, by decide⟩ ?_
      exact V_zreturn (κ := KX4_readPlate) (pc := 162) rfl rfl dX4_readPlate_162
    refine V_aload_n (κ := KX4_readPlate) (pc := 121) dX4_readPlate_121 2 rfl rfl ?_
    refine V_bipush (κ := KX4_readPlate) (pc := 122) dX4_readPlate_122 ⟨by decide, by decide⟩ (by decide) ?_
    refine V_callV (ci := 4) (T := TX4) (N := 13) rfl (by decide) (κ := KX4_readPlate) (pc := 124) (con_X4_fail _ _ _) mth_X4_fail rfl ⟨wd_805, wp_20⟩ wd_803 (st0 := []) rfl rfl (by decide) (Nat.le_of_ble_eq_true rfl) dX4_readPlate_124 (fun _ _ _ h => VX_out rfl (by decide) h) fun t123 u124 => ?_
    exact V_zreturn (κ := KX4_readPlate) (pc := 127) rfl rfl dX4_readPlate_127
  refine V_iconst (κ := KX4_readPlate) (pc := 102) dX4_readPlate_102 ⟨by decide, by decide⟩ ?_
  exact V_zreturn (κ := KX4_readPlate) (pc := 103) rfl rfl dX4_readPlate_103
theorem VBX4_readPlate_0 {Γ : Gam} (x0 : Int) (μ : Mem) : V Γ KX4_readPlate 0 [(0, (2, x0))] [] μ (BX4_readPlate_0 x0 μ) := by
  unfold BX4_readPlate_0
  refine V_aload_n (κ := KX4_readPlate) (pc := 0) dX4_readPlate_0 0 rfl rfl ?_
  refine V_getf 4 (κ := KX4_readPlate) (pc := 1) rfl (by decide) rfl inX4 4 (by decide) wd_113 rfl (t := 2) rfl dX4_readPlate_1 fun t101 => ?_
  refine V_getf 5 (κ := KX4_readPlate) (pc := 4) rfl (by decide) rfl inX5 3 (by decide) wd_219 rfl (t := 0) rfl dX4_readPlate_4 fun t102 => ?_
  refine V_iconst (κ := KX4_readPlate) (pc := 7) dX4_readPlate_7 ⟨by decide, by decide⟩ ?_
  refine V_icmp_lt (κ := KX4_readPlate) (pc := 8) (tgt := 18) dX4_readPlate_8 rfl ?_ ?_
  · refine V_aload_n (κ := KX4_readPlate) (pc := 18) dX4_readPlate_18 0 rfl rfl ?_
    refine V_callV (ci := 4) (T := TX4) (N := 13) rfl (by decide) (κ := KX4_readPlate) (pc := 19) (con_X4_advance _ _) mth_X4_advance rfl ⟨wd_786, wp_16⟩ wd_784 (st0 := []) rfl rfl (by decide) (Nat.le_of_ble_eq_true rfl) dX4_readPlate_19 (fun _ _ _ h => VX_out rfl (by decide) h) fun _ u104 => ?_
    refine V_aload_n (κ := KX4_readPlate) (pc := 22) dX4_readPlate_22 0 rfl rfl ?_
    refine V_callV (ci := 4) (T := TX4) (N := 13) rfl (by decide) (κ := KX4_readPlate) (pc := 23) (con_X4_isName _ _) mth_X4_isName rfl ⟨wd_842, wp_27⟩ wd_840 (st0 := []) rfl rfl (by decide) (Nat.le_of_ble_eq_true rfl) dX4_readPlate_23 (fun _ _ _ h => VX_out rfl (by decide) h) fun t105 u106 => ?_
    refine V_if_ne (κ := KX4_readPlate) (pc := 26) (tgt := 31) dX4_readPlate_26 rfl ?_ ?_
    · refine V_aload_n (κ := KX4_readPlate) (pc := 31) dX4_readPlate_31 0 rfl rfl ?_
      refine V_getf 4 (κ := KX4_readPlate) (pc := 32) rfl (by decide) rfl inX4 2 (by decide) wd_111 rfl (t := 2) rfl dX4_readPlate_32 fun t107 => ?_
      refine V_aload_n (κ := KX4_readPlate) (pc := 35) dX4_readPlate_35 0 rfl rfl ?_
      refine V_getf 4 (κ := KX4_readPlate) (pc := 36) rfl (by decide) rfl inX4 8 (by decide) wd_117 rfl (t := 0) rfl dX4_readPlate_36 fun t108 => ?_
      refine V_aload_n (κ := KX4_readPlate) (pc := 39) dX4_readPlate_39 0 rfl rfl ?_
      refine V_getf 4 (κ := KX4_readPlate) (pc := 40) rfl (by decide) rfl inX4 9 (by decide) wd_118 rfl (t := 0) rfl dX4_readPlate_40 fun t109 => ?_
      refine V_callSN (host := "TonePlates") (κ := KX4_readPlate) (pc := 43) (con_X6_packedName _ _ _ _) mth_X6_packedName wd_845 (by decide) (st0 := []) rfl rfl (by decide) (Nat.le_of_ble_eq_true rfl) dX4_readPlate_43 (fun _ _ _ h => VX_out rfl (by decide) h) fun t110 u111 => ?_
      refine V_lstore_n (κ := KX4_readPlate) (pc := 46) (lv' := [(1, (1, t110)), (0, (2, x0))]) dX4_readPlate_46 (by decide) rfl ?_
      refine V_aload_n (κ := KX4_readPlate) (pc := 47) dX4_readPlate_47 1 rfl rfl ?_
      refine V_getf 4 (κ := KX4_readPlate) (pc := 48) rfl (by decide) rfl inX4 4 (by decide) wd_113 rfl (t := 2) rfl dX4_readPlate_48 fun t112 => ?_
      refine V_lload_n (κ := KX4_readPlate) (pc := 51) dX4_readPlate_51 0 rfl ?_
      refine V_callV (ci := 5) (T := TX5) (N := 7) rfl (by decide) (κ := KX4_readPlate) (pc := 52) (con_X5_indexOfName _ _ _) mth_X5_indexOfName rfl ⟨wd_849, wd_850⟩ wd_848 (st0 := []) rfl rfl (by decide) (Nat.le_of_ble_eq_true rfl) dX4_readPlate_52 (fun _ _ _ h => VX_out rfl (by decide) h) fun t113 u114 => ?_
      refine V_if_lt (κ := KX4_readPlate) (pc := 55) (tgt := 65) dX4_readPlate_55 rfl ?_ ?_
      · refine V_aload_n (κ := KX4_readPlate) (pc := 65) dX4_readPlate_65 1 rfl rfl ?_
        refine V_callV (ci := 4) (T := TX4) (N := 13) rfl (by decide) (κ := KX4_readPlate) (pc := 66) (con_X4_advance _ _) mth_X4_advance rfl ⟨wd_786, wp_16⟩ wd_784 (st0 := []) rfl rfl (by decide) (Nat.le_of_ble_eq_true rfl) dX4_readPlate_66 (fun _ _ _ h => VX_out rfl (by decide) h) fun _ u116 => ?_
        refine V_aload_n (κ := KX4_readPlate) (pc := 69) dX4_readPlate_69 1 rfl rfl ?_
        refine V_iconst (κ := KX4_readPlate) (pc := 70) dX4_readPlate_70 ⟨by decide, by decide⟩ ?_
        refine V_iconst (κ := KX4_readPlate) (pc := 71) dX4_readPlate_71 ⟨by decide, by decide⟩ ?_
        refine V_callV (ci := 4) (T := TX4) (N := 13) rfl (by decide) (κ := KX4_readPlate) (pc := 72) (con_X4_takeNumber _ _ _ _) mth_X4_takeNumber rfl ⟨wd_809, wp_21⟩ wd_807 (st0 := []) rfl rfl (by decide) (Nat.le_of_ble_eq_true rfl) dX4_readPlate_72 (fun _ _ _ h => VX_out rfl (by decide) h) fun t117 u118 => ?_
        refine V_if_ne (κ := KX4_readPlate) (pc := 75) (tgt := 80) dX4_readPlate_75 rfl ?_ ?_
        · refine V_aload_n (κ := KX4_readPlate) (pc := 80) dX4_readPlate_80 1 rfl rfl ?_
          refine V_getf 4 (κ := KX4_readPlate) (pc := 81) rfl (by decide) rfl inX4 10 (by decide) wd_119 rfl (t := 0) rfl dX4_readPlate_81 fun t119 => ?_
          refine V_istore_n (κ := KX4_readPlate) (pc := 84) (lv' := [(3, (0, t119)), (1, (1, t110)), (0, (2, x0))]) dX4_readPlate_84 (by decide) rfl ?_
          refine V_aload_n (κ := KX4_readPlate) (pc := 85) dX4_readPlate_85 2 rfl rfl ?_
          refine V_iload_n (κ := KX4_readPlate) (pc := 86) dX4_readPlate_86 0 rfl ?_
          refine V_if_ne (κ := KX4_readPlate) (pc := 87) (tgt := 94) dX4_readPlate_87 rfl ?_ ?_
          · refine V_iconst (κ := KX4_readPlate) (pc := 94) dX4_readPlate_94 ⟨by decide, by decide⟩ ?_
            refine V_sub (lv' := [(0, (2, x0)), (1, (1, t110)), (3, (0, t119))]) [2, 1, 0] rfl ?_
            exact VBX4_readPlate_95 _ _ _ _ _ _
          refine V_iconst (κ := KX4_readPlate) (pc := 90) dX4_readPlate_90 ⟨by decide, by decide⟩ ?_
          refine V_goto (κ := KX4_readPlate) (pc := 91) (tgt := 95) dX4_readPlate_91 rfl ?_
          refine V_sub (lv' := [(0, (2, x0)), (1, (1, t110)), (3, (0, t119))]) [2, 1, 0] rfl ?_
          exact VBX4_readPlate_95 _ _ _ _ _ _
        refine V_iconst (κ := KX4_readPlate) (pc := 78) dX4_readPlate_78 ⟨by decide, by decide⟩ ?_
        exact V_zreturn (κ := KX4_readPlate) (pc := 79) rfl rfl dX4_readPlate_79
      refine V_aload_n (κ := KX4_readPlate) (pc := 58) dX4_readPlate_58 1 rfl rfl ?_
      refine V_bipush (κ := KX4_readPlate) (pc := 59) dX4_readPlate_59 ⟨by decide, by decide⟩ (by decide) ?_
      refine V_callV (ci := 4) (T := TX4) (N := 13) rfl (by decide) (κ := KX4_readPlate) (pc := 61) (con_X4_fail _ _ _) mth_X4_fail rfl ⟨wd_805, wp_20⟩ wd_803 (st0 := []) rfl rfl (by decide) (Nat.le_of_ble_eq_true rfl) dX4_readPlate_61 (fun _ _ _ h => VX_out rfl (by decide) h) fun t120 u121 => ?_
      exact V_zreturn (κ := KX4_readPlate) (pc := 64) rfl rfl dX4_readPlate_64
    refine V_iconst (κ := KX4_readPlate) (pc := 29) dX4_readPlate_29 ⟨by decide, by decide⟩ ?_
    exact V_zreturn (κ := KX4_readPlate) (pc := 30) rfl rfl dX4_readPlate_30
  refine V_aload_n (κ := KX4_readPlate) (pc := 11) dX4_readPlate_11 0 rfl rfl ?_
  refine V_bipush (κ := KX4_readPlate) (pc := 12) dX4_readPlate_12 ⟨by decide, by decide⟩ (by decide) ?_
  refine V_callV (ci := 4) (T := TX4) (N := 13) rfl (by decide) (κ := KX4_readPlate) (pc := 14) (con_X4_fail _ _ _) mth_X4_fail rfl ⟨wd_805, wp_20⟩ wd_803 (st0 := []) rfl rfl (by decide) (Nat.le_of_ble_eq_true rfl) dX4_readPlate_14 (fun _ _ _ h => VX_out rfl (by decide) h) fun t122 u123 => ?_
  exact V_zreturn (κ := KX4_readPlate) (pc := 17) rfl rfl dX4_readPlate_17
theorem con_X4_readPlate (a0 : Int) (μ : Mem) : Con (78) yX4_readPlate (.code yX4_readPlate cX4_readPlate 7 (some .boolean)) 0 [(2, a0)] μ (FX4_readPlate a0 μ) := Con_intro KX4_readPlate (plainFor_of_name (by decide)) rfl (fun h => by cases h) (by decide) rfl (Nat.le_of_ble_eq_true rfl) (fun Γ => VBX4_readPlate_0 _ _)
abbrev KX4_readTones : Kap := (RX4, cX4_readTones, 3, 3, 0, (some .boolean), false, [])
theorem VBX4_readTones_79 {Γ : Gam} {k25 : Int → Int → Mem → Rz} (hk25 : ∀ (y0 y1 : Int) (ν : Mem), V Γ KX4_readTones 25 [(0, (2, y0)), (1, (0, y1))] [] ν (k25 y0 y1 ν)) {k79 : Int → Int → Int → Mem → Rz} (hk79 : ∀ (y0 y1 y2 : Int) (ν : Mem), V Γ KX4_readTones 79 [(0, (2, y0)), (1, (0, y1)), (2, (0, y2))] [] ν (k79 y0 y1 y2 ν)) (x0 x1 x2 : Int) (μ : Mem) : V Γ KX4_readTones 79 [(0, (2, x0)), (1, (0, x1)), (2, (0, x2))] [] μ (BX4_readTones_79 k25 k79 x0 x1 x2 μ) := by
  unfold BX4_readTones_79
  refine V_iload_n (κ := KX4_readTones) (pc := 79) dX4_readTones_79 2 rfl ?_
  refine V_aload_n (κ := KX4_readTones) (pc := 80) dX4_readTones_80 0 rfl rfl ?_
  refine V_getf 4 (κ := KX4_readTones) (pc := 81) rfl (by decide) rfl inX4 4 (by decide) wd_113 rfl (t := 2) rfl dX4_readTones_81 fun t101 => ?_
  refine V_getf 5 (κ := KX4_readTones) (pc := 84) rfl (by decide) rfl inX5 0 (by decide) wd_206 rfl (t := 0) rfl dX4_readTones_84 fun t102 => ?_
  refine V_icmp_ge (κ := KX4_readTones) (pc := 87) (tgt := 130) dX4_readTones_87 rfl ?_ ?_
  · refine V_aload_n (κ := KX4_readTones) (pc := 130) dX4_readTones_130 0 rfl rfl ?_
    refine V_callV (ci := 4) (T := TX4) (N := 13) rfl (by decide) (κ := KX4_readTones) (pc := 131) (con_X4_advance _ _) mth_X4_advance rfl ⟨wd_786, wp_16⟩ wd_784 (st0 := []) rfl rfl (by decide) (Nat.le_of_ble_eq_true rfl) dX4_readTones_131 (fun _ _ _ h => VX_out rfl (by decide) h) fun _ u104 => ?_
    refine V_iinc (κ := KX4_readTones) (pc := 134) (lv' := [(1, (0, w32 (x1 + 1))), (0, (2, x0)), (2, (0, x2))]) dX4_readTones_134 1 rfl (by decide) rfl ?_
    refine V_goto (κ := KX4_readTones) (pc := 137) (tgt := 25) dX4_readTones_137 rfl ?_
    refine V_sub (lv' := [(0, (2, x0)), (1, (0, w32 (x1 + 1)))]) [1, 0] rfl ?_
    exact hk25 _ _ _
  refine V_aload_n (κ := KX4_readTones) (pc := 90) dX4_readTones_90 0 rfl rfl ?_
  refine V_getf 4 (κ := KX4_readTones) (pc := 91) rfl (by decide) rfl inX4 4 (by decide) wd_113 rfl (t := 2) rfl dX4_readTones_91 fun t105 => ?_
  refine V_getf 5 (κ := KX4_readTones) (pc := 94) rfl (by decide) rfl inX5 5 (by decide) wd_226 rfl (t := 2) rfl dX4_readTones_94 fun t106 => ?_
  refine V_aload_n (κ := KX4_readTones) (pc := 97) dX4_readTones_97 0 rfl rfl ?_
  refine V_getf 4 (κ := KX4_readTones) (pc := 98) rfl (by decide) rfl inX4 4 (by decide) wd_113 rfl (t := 2) rfl dX4_readTones_98 fun t107 => ?_
  refine V_iload_n (κ := KX4_readTones) (pc := 101) dX4_readTones_101 2 rfl ?_
  refine V_iload_n (κ := KX4_readTones) (pc := 102) dX4_readTones_102 1 rfl ?_
  refine V_callV (ci := 5) (T := TX5) (N := 7) rfl (by decide) (κ := KX4_readTones) (pc := 103) (con_X5_indexOfCell _ _ _ _) mth_X5_indexOfCell rfl ⟨wd_351, wd_352⟩ wd_834 (st0 := [(2, t106)]) rfl rfl (by decide) (Nat.le_of_ble_eq_true rfl) dX4_readTones_103 (fun _ _ _ h => VX_out rfl (by decide) h) fun t108 u109 => ?_
  refine V_aload_n (κ := KX4_readTones) (pc := 106) dX4_readTones_106 0 rfl rfl ?_
  refine V_getf 4 (κ := KX4_readTones) (pc := 107) rfl (by decide) rfl inX4 2 (by decide) wd_111 rfl (t := 2) rfl dX4_readTones_107 fun t110 => ?_
  refine V_aload_n (κ := KX4_readTones) (pc := 110) dX4_readTones_110 0 rfl rfl ?_
  refine V_getf 4 (κ := KX4_readTones) (pc := 111) rfl (by decide) rfl inX4 8 (by decide) wd_117 rfl (t := 0) rfl dX4_readTones_111 fun t111 => ?_
  refine V_iload_n (κ := KX4_readTones) (pc := 114) dX4_readTones_114 2 rfl ?_
  refine V_iadd (κ := KX4_readTones) (pc := 115) dX4_readTones_115 ?_
  refine V_baload (κ := KX4_readTones) (pc := 116) dX4_readTones_116 fun t112 => ?_
  refine V_bipush (κ := KX4_readTones) (pc := 117) dX4_readTones_117 ⟨by decide, by decide⟩ (by decide) ?_
  refine V_isub (κ := KX4_readTones) (pc := 119) dX4_readTones_119 ?_
  refine V_bipush (κ := KX4_readTones) (pc := 120) dX4_readTones_120 ⟨by decide, by decide⟩ (by decide) ?_
  refine V_imul (κ := KX4_readTones) (pc := 122) dX4_readTones_122 ?_
  refine V_iastore (κ := KX4_readTones) (pc := 123) dX4_readTones_123 fun u113 => ?_
  refine V_iinc (κ := KX4_readTones) (pc := 124) (lv' := [(2, (0, w32 (x2 + 1))), (0, (2, x0)), (1, (0, x1))]) dX4_readTones_124 2 rfl (by decide) rfl ?_
  refine V_goto (κ := KX4_readTones) (pc := 127) (tgt := 79) dX4_readTones_127 rfl ?_
  refine V_sub (lv' := [(0, (2, x0)), (1, (0, x1)), (2, (0, w32 (x2 + 1)))]) [1, 2, 0] rfl ?_
  exact hk79 _ _ _ _
theorem VLX4_readTones_79 {Γ : Gam} {k25 : Int → Int → Mem → Rz} (hk25 : ∀ (y0 y1 : Int) (ν : Mem), V Γ KX4_readTones 25 [(0, (2, y0)), (1, (0, y1))] [] ν (k25 y0 y1 ν)) : ∀ (n : Nat) (x0 x1 x2 : Int) (μ : Mem), V Γ KX4_readTones 79 [(0, (2, x0)), (1, (0, x1)), (2, (0, x2))] [] μ (LX4_readTones_79 k25 n x0 x1 x2 μ)
  | 0, _, _, _, _ => V_none
  | n + 1, x0, x1, x2, μ => VBX4_readTones_79 hk25 (fun y0 y1 y2 ν => VLX4_readTones_79 hk25 n y0 y1 y2 ν) x0 x1 x2 μ
theorem VBX4_readTones_25 {Γ : Gam} {k25 : Int → Int → Mem → Rz} (hk25 : ∀ (y0 y1 : Int) (ν : Mem), V Γ KX4_readTones 25 [(0, (2, y0)), (1, (0, y1))] [] ν (k25 y0 y1 ν)) (x0 x1 : Int) (μ : Mem) : V Γ KX4_readTones 25 [(0, (2, x0)), (1, (0, x1))] [] μ (BX4_readTones_25 k25 x0 x1 μ) := by
  unfold BX4_readTones_25
  refine V_iload_n (κ := KX4_readTones) (pc := 25) dX4_readTones_25 1 rfl ?_
  refine V_aload_n (κ := KX4_readTones) (pc := 26) dX4_readTones_26 0 rfl rfl ?_
  refine V_getf 4 (κ := KX4_readTones) (pc := 27) rfl (by decide) rfl inX4 4 (by decide) wd_113 rfl (t := 2) rfl dX4_readTones_27 fun t101 => ?_
  refine V_getf 5 (κ := KX4_readTones) (pc := 30) rfl (by decide) rfl inX5 1 (by decide) wd_210 rfl (t := 0) rfl dX4_readTones_30 fun t102 => ?_
  refine V_icmp_ge (κ := KX4_readTones) (pc := 33) (tgt := 140) dX4_readTones_33 rfl ?_ ?_
  · refine V_iconst (κ := KX4_readTones) (pc := 140) dX4_readTones_140 ⟨by decide, by decide⟩ ?_
    exact V_zreturn (κ := KX4_readTones) (pc := 141) rfl rfl dX4_readTones_141
  refine V_aload_n (κ := KX4_readTones) (pc := 36) dX4_readTones_36 0 rfl rfl ?_
  refine V_getf 4 (κ := KX4_readTones) (pc := 37) rfl (by decide) rfl inX4 7 (by decide) wd_116 rfl (t := 0) rfl dX4_readTones_37 fun t103 => ?_
  refine V_iconst (κ := KX4_readTones) (pc := 40) dX4_readTones_40 ⟨by decide, by decide⟩ ?_
  refine V_icmp_eq (κ := KX4_readTones) (pc := 41) (tgt := 51) dX4_readTones_41 rfl ?_ ?_
  · refine V_aload_n (κ := KX4_readTones) (pc := 51) dX4_readTones_51 0 rfl rfl ?_
    refine V_getf 4 (κ := KX4_readTones) (pc := 52) rfl (by decide) rfl inX4 9 (by decide) wd_118 rfl (t := 0) rfl dX4_readTones_52 fun t104 => ?_
    refine V_aload_n (κ := KX4_readTones) (pc := 55) dX4_readTones_55 0 rfl rfl ?_
    refine V_getf 4 (κ := KX4_readTones) (pc := 56) rfl (by decide) rfl inX4 8 (by decide) wd_117 rfl (t := 0) rfl dX4_readTones_56 fun t105 => ?_
    refine V_isub (κ := KX4_readTones) (pc := 59) dX4_readTones_59 ?_
    refine V_aload_n (κ := KX4_readTones) (pc := 60) dX4_readTones_60 0 rfl rfl ?_
    refine V_getf 4 (κ := KX4_readTones) (pc := 61) rfl (by decide) rfl inX4 4 (by decide) wd_113 rfl (t := 2) rfl dX4_readTones_61 fun t106 => ?_
    refine V_getf 5 (κ := KX4_readTones) (pc := 64) rfl (by decide) rfl inX5 0 (by decide) wd_206 rfl (t := 0) rfl dX4_readTones_64 fun t107 => ?_
    refine V_icmp_eq (κ := KX4_readTones) (pc := 67) (tgt := 77) dX4_readTones_67 rfl ?_ ?_
    · refine V_iconst (κ := KX4_readTones) (pc := 77) dX4_readTones_77 ⟨by decide, by decide⟩ ?_
      refine V_istore_n (κ := KX4_readTones) (pc := 78) (lv' := [(2, (0, 0)), (0, (2, x0)), (1, (0, x1))]) dX4_readTones_78 (by decide) rfl ?_
      refine V_sub (lv' := [(0, (2, x0)), (1, (0, x1)), (2, (0, 0))]) [1, 2, 0] rfl ?_
      exact VLX4_readTones_79 hk25 FU _ _ _ _
    refine V_aload_n (κ := KX4_readTones) (pc := 70) dX4_readTones_70 0 rfl rfl ?_
    refine V_bipush (κ := KX4_readTones) (pc := 71) dX4_readTones_71 ⟨by decide, by decide⟩ (by decide) ?_
    refine V_callV (ci := 4) (T := TX4) (N := 13) rfl (by decide) (κ := KX4_readTones) (pc := 73) (con_X4_fail _ _ _) mth_X4_fail rfl ⟨wd_805, wp_20⟩ wd_803 (st0 := []) rfl rfl (by decide) (Nat.le_of_ble_eq_true rfl) dX4_readTones_73 (fun _ _ _ h => VX_out rfl (by decide) h) fun t108 u109 => ?_
    exact V_zreturn (κ := KX4_readTones) (pc := 76) rfl rfl dX4_readTones_76
  refine V_aload_n (κ := KX4_readTones) (pc := 44) dX4_readTones_44 0 rfl rfl ?_
  refine V_bipush (κ := KX4_readTones) (pc := 45) dX4_readTones_45 ⟨by decide, by decide⟩ (by decide) ?_
  refine V_callV (ci := 4) (T := TX4) (N := 13) rfl (by decide) (κ := KX4_readTones) (pc := 47) (con_X4_fail _ _ _) mth_X4_fail rfl ⟨wd_805, wp_20⟩ wd_803 (st0 := []) rfl rfl (by decide) (Nat.le_of_ble_eq_true rfl) dX4_readTones_47 (fun _ _ _ h => VX_out rfl (by decide) h) fun t110 u111 => ?_
  exact V_zreturn (κ := KX4_readTones) (pc := 50) rfl rfl dX4_readTones_50
theorem VLX4_readTones_25 {Γ : Gam} : ∀ (n : Nat) (x0 x1 : Int) (μ : Mem), V Γ KX4_readTones 25 [(0, (2, x0)), (1, (0, x1))] [] μ (LX4_readTones_25 n x0 x1 μ)
  | 0, _, _, _ => V_none
  | n + 1, x0, x1, μ => VBX4_readTones_25 (fun y0 y1 ν => VLX4_readTones_25 n y0 y1 ν) x0 x1 μ
theorem VBX4_readTones_0 {Γ : Gam} (x0 : Int) (μ : Mem) : V Γ KX4_readTones 0 [(0, (2, x0))] [] μ (BX4_readTones_0 x0 μ) := by
  unfold BX4_readTones_0
  refine V_aload_n (κ := KX4_readTones) (pc := 0) dX4_readTones_0 0 rfl rfl ?_
  refine V_getf 4 (κ := KX4_readTones) (pc := 1) rfl (by decide) rfl inX4 5 (by decide) wd_114 rfl (t := 0) rfl dX4_readTones_1 fun t101 => ?_
  refine V_if_eq (κ := KX4_readTones) (pc := 4) (tgt := 14) dX4_readTones_4 rfl ?_ ?_
  · refine V_aload_n (κ := KX4_readTones) (pc := 14) dX4_readTones_14 0 rfl rfl ?_
    refine V_iconst (κ := KX4_readTones) (pc := 15) dX4_readTones_15 ⟨by decide, by decide⟩ ?_
    refine V_putz 4 (κ := KX4_readTones) (pc := 16) rfl (by decide) rfl inX4 tyX4 tyX4_ok nmX4 5 (by decide) wd_114 rfl rfl rfl rfl dX4_readTones_16 fun u102 => ?_
    refine V_aload_n (κ := KX4_readTones) (pc := 19) dX4_readTones_19 0 rfl rfl ?_
    refine V_callV (ci := 4) (T := TX4) (N := 13) rfl (by decide) (κ := KX4_readTones) (pc := 20) (con_X4_advance _ _) mth_X4_advance rfl ⟨wd_786, wp_16⟩ wd_784 (st0 := []) rfl rfl (by decide) (Nat.le_of_ble_eq_true rfl) dX4_readTones_20 (fun _ _ _ h => VX_out rfl (by decide) h) fun _ u104 => ?_
    refine V_iconst (κ := KX4_readTones) (pc := 23) dX4_readTones_23 ⟨by decide, by decide⟩ ?_
    refine V_istore_n (κ := KX4_readTones) (pc := 24) (lv' := [(1, (0, 0)), (0, (2, x0))]) dX4_readTones_24 (by decide) rfl ?_
    refine V_sub (lv' := [(0, (2, x0)), (1, (0, 0))]) [1, 0] rfl ?_
    exact VLX4_readTones_25 FU _ _ _
  refine V_aload_n (κ := KX4_readTones) (pc := 7) dX4_readTones_7 0 rfl rfl ?_
  refine V_bipush (κ := KX4_readTones) (pc := 8) dX4_readTones_8 ⟨by decide, by decide⟩ (by decide) ?_
  refine V_callV (ci := 4) (T := TX4) (N := 13) rfl (by decide) (κ := KX4_readTones) (pc := 10) (con_X4_fail _ _ _) mth_X4_fail rfl ⟨wd_805, wp_20⟩ wd_803 (st0 := []) rfl rfl (by decide) (Nat.le_of_ble_eq_true rfl) dX4_readTones_10 (fun _ _ _ h => VX_out rfl (by decide) h) fun t105 u106 => ?_
  exact V_zreturn (κ := KX4_readTones) (pc := 13) rfl rfl dX4_readTones_13
theorem con_X4_readTones (a0 : Int) (μ : Mem) : Con (3) yX4_readTones (.code yX4_readTones cX4_readTones 3 (some .boolean)) 0 [(2, a0)] μ (FX4_readTones a0 μ) := Con_intro KX4_readTones (plainFor_of_name (by decide)) rfl (fun h => by cases h) (by decide) rfl (Nat.le_of_ble_eq_true rfl) (fun Γ => VBX4_readTones_0 _ _)
abbrev KX4_readStatement : Kap := (RX4, cX4_readStatement, 1, 79, 0, (some .boolean), false, [])
theorem VBX4_readStatement_0 {Γ : Gam} (x0 : Int) (μ : Mem) : V Γ KX4_readStatement 0 [(0, (2, x0))] [] μ (BX4_readStatement_0 x0 μ) := by
  unfold BX4_readStatement_0
  refine V_aload_n (κ := KX4_readStatement) (pc := 0) dX4_readStatement_0 0 rfl rfl ?_
  refine V_ldcs (κ := KX4_readStatement) (pc := 1) (tx := "tones") (w := 1) (show (RX4, 89, "tones", 1) ∈ wrds by decide) dX4_readStatement_1 (by decide) ?_
  refine V_callV (ci := 4) (T := TX4) (N := 13) rfl (by decide) (κ := KX4_readStatement) (pc := 3) (con_X4_isWord _ _ _) mth_X4_isWord rfl ⟨wd_799, wp_19⟩ wd_797 (st0 := []) rfl rfl (by decide) (Nat.le_of_ble_eq_true rfl) dX4_readStatement_3 (fun _ _ _ h => VX_out rfl (by decide) h) fun t101 u102 => ?_
  refine V_if_eq (κ := KX4_readStatement) (pc := 6) (tgt := 14) dX4_readStatement_6 rfl ?_ ?_
  · refine V_aload_n (κ := KX4_readStatement) (pc := 14) dX4_readStatement_14 0 rfl rfl ?_
    refine V_ldcs (κ := KX4_readStatement) (pc := 15) (tx := "plate") (w := 2) (show (RX4, 94, "plate", 2) ∈ wrds by decide) dX4_readStatement_15 (by decide) ?_
    refine V_callV (ci := 4) (T := TX4) (N := 13) rfl (by decide) (κ := KX4_readStatement) (pc := 17) (con_X4_isWord _ _ _) mth_X4_isWord rfl ⟨wd_799, wp_19⟩ wd_797 (st0 := []) rfl rfl (by decide) (Nat.le_of_ble_eq_true rfl) dX4_readStatement_17 (fun _ _ _ h => VX_out rfl (by decide) h) fun t103 u104 => ?_
    refine V_if_eq (κ := KX4_readStatement) (pc := 20) (tgt := 28) dX4_readStatement_20 rfl ?_ ?_
    · refine V_aload_n (κ := KX4_readStatement) (pc := 28) dX4_readStatement_28 0 rfl rfl ?_
      refine V_ldcs (κ := KX4_readStatement) (pc := 29) (tx := "ink") (w := 3) (show (RX4, 99, "ink", 3) ∈ wrds by decide) dX4_readStatement_29 (by decide) ?_
      refine V_callV (ci := 4) (T := TX4) (N := 13) rfl (by decide) (κ := KX4_readStatement) (pc := 31) (con_X4_isWord _ _ _) mth_X4_isWord rfl ⟨wd_799, wp_19⟩ wd_797 (st0 := []) rfl rfl (by decide) (Nat.le_of_ble_eq_true rfl) dX4_readStatement_31 (fun _ _ _ h => VX_out rfl (by decide) h) fun t105 u106 => ?_
      refine V_if_eq (κ := KX4_readStatement) (pc := 34) (tgt := 42) dX4_readStatement_34 rfl ?_ ?_
      · refine V_aload_n (κ := KX4_readStatement) (pc := 42) dX4_readStatement_42 0 rfl rfl ?_
        refine V_ldcs (κ := KX4_readStatement) (pc := 43) (tx := "limit") (w := 4) (show (RX4, 104, "limit", 4) ∈ wrds by decide) dX4_readStatement_43 (by decide) ?_
        refine V_callV (ci := 4) (T := TX4) (N := 13) rfl (by decide) (κ := KX4_readStatement) (pc := 45) (con_X4_isWord _ _ _) mth_X4_isWord rfl ⟨wd_799, wp_19⟩ wd_797 (st0 := []) rfl rfl (by decide) (Nat.le_of_ble_eq_true rfl) dX4_readStatement_45 (fun _ _ _ h => VX_out rfl (by decide) h) fun t107 u108 => ?_
        refine V_if_eq (κ := KX4_readStatement) (pc := 48) (tgt := 56) dX4_readStatement_48 rfl ?_ ?_
        · refine V_aload_n (κ := KX4_readStatement) (pc := 56) dX4_readStatement_56 0 rfl rfl ?_
          refine V_bipush (κ := KX4_readStatement) (pc := 57) dX4_readStatement_57 ⟨by decide, by decide⟩ (by decide) ?_
          refine V_callV (ci := 4) (T := TX4) (N := 13) rfl (by decide) (κ := KX4_readStatement) (pc := 59) (con_X4_fail _ _ _) mth_X4_fail rfl ⟨wd_805, wp_20⟩ wd_803 (st0 := []) rfl rfl (by decide) (Nat.le_of_ble_eq_true rfl) dX4_readStatement_59 (fun _ _ _ h => VX_out rfl (by decide) h) fun t109 u110 => ?_
          exact V_zreturn (κ := KX4_readStatement) (pc := 62) rfl rfl dX4_readStatement_62
        refine V_aload_n (κ := KX4_readStatement) (pc := 51) dX4_readStatement_51 0 rfl rfl ?_
        refine V_callV (ci := 4) (T := TX4) (N := 13) rfl (by decide) (κ := KX4_readStatement) (pc := 52) (con_X4_readLimit _ _) mth_X4_readLimit rfl ⟨wd_917, wp_35⟩ wd_915 (st0 := []) rfl rfl (by decide) (Nat.le_of_ble_eq_true rfl) dX4_readStatement_52 (fun _ _ _ h => VX_out rfl (by decide) h) fun t111 u112 => ?_
        exact V_zreturn (κ := KX4_readStatement) (pc := 55) rfl rfl dX4_readStatement_55
      refine V_aload_n (κ := KX4_readStatement) (pc := 37) dX4_readStatement_37 0 rfl rfl ?_
      refine V_callV (ci := 4) (T := TX4) (N := 13) rfl (by decide) (κ := KX4_readStatement) (pc := 38) (con_X4_readInk _ _) mth_X4_readInk rfl ⟨wd_911, wp_34⟩ wd_909 (st0 := []) rfl rfl (by decide) (Nat.le_of_ble_eq_true rfl) dX4_readStatement_38 (fun _ _ _ h => VX_out rfl (by decide) h) fun t113 u114 => ?_
      exact V_zreturn (κ := KX4_readStatement) (pc := 41) rfl rfl dX4_readStatement_41
    refine V_aload_n (κ := KX4_readStatement) (pc := 23) dX4_readStatement_23 0 rfl rfl ?_
    refine V_callV (ci := 4) (T := TX4) (N := 13) rfl (by decide) (κ := KX4_readStatement) (pc := 24) (con_X4_readPlate _ _) mth_X4_readPlate rfl ⟨wd_838, wp_26⟩ wd_836 (st0 := []) rfl rfl (by decide) (Nat.le_of_ble_eq_true rfl) dX4_readStatement_24 (fun _ _ _ h => VX_out rfl (by decide) h) fun t115 u116 => ?_
    exact V_zreturn (κ := KX4_readStatement) (pc := 27) rfl rfl dX4_readStatement_27
  refine V_aload_n (κ := KX4_readStatement) (pc := 9) dX4_readStatement_9 0 rfl rfl ?_
  refine V_callV (ci := 4) (T := TX4) (N := 13) rfl (by decide) (κ := KX4_readStatement) (pc := 10) (con_X4_readTones _ _) mth_X4_readTones rfl ⟨wd_832, wp_25⟩ wd_830 (st0 := []) rfl rfl (by decide) (Nat.le_of_ble_eq_true rfl) dX4_readStatement_10 (fun _ _ _ h => VX_out rfl (by decide) h) fun t117 u118 => ?_
  exact V_zreturn (κ := KX4_readStatement) (pc := 13) rfl rfl dX4_readStatement_13
theorem con_X4_readStatement (a0 : Int) (μ : Mem) : Con (79) yX4_readStatement (.code yX4_readStatement cX4_readStatement 1 (some .boolean)) 0 [(2, a0)] μ (FX4_readStatement a0 μ) := Con_intro KX4_readStatement (plainFor_of_name (by decide)) rfl (fun h => by cases h) (by decide) rfl (Nat.le_of_ble_eq_true rfl) (fun Γ => VBX4_readStatement_0 _ _)
abbrev KX4_read : Kap := (RX4, cX4_read, 5, 80, 0, (some .boolean), false, [])
theorem VBX4_read_101 {Γ : Gam} (μ : Mem) : V Γ KX4_read 101 [] [] μ (BX4_read_101 μ) := by
  unfold BX4_read_101
  refine V_iconst (κ := KX4_read) (pc := 101) dX4_read_101 ⟨by decide, by decide⟩ ?_
  exact V_zreturn (κ := KX4_read) (pc := 102) rfl rfl dX4_read_102
theorem VBX4_read_93 {Γ : Gam} (μ : Mem) : V Γ KX4_read 93 [] [] μ (BX4_read_93 μ) := by
  unfold BX4_read_93
  refine V_iconst (κ := KX4_read) (pc := 93) dX4_read_93 ⟨by decide, by decide⟩ ?_
  exact V_zreturn (κ := KX4_read) (pc := 94) rfl rfl dX4_read_94
theorem VBX4_read_61 {Γ : Gam} {k61 : Int → Int → Mem → Rz} (hk61 : ∀ (y0 y4 : Int) (ν : Mem), V Γ KX4_read 61 [(0, (2, y0)), (4, (0, y4))] [] ν (k61 y0 y4 ν)) (x0 x4 : Int) (μ : Mem) : V Γ KX4_read 61 [(0, (2, x0)), (4, (0, x4))] [] μ (BX4_read_61 k61 x0 x4 μ) := by
  unfold BX4_read_61
  refine V_iload (κ := KX4_read) (pc := 61) dX4_read_61 1 rfl ?_
  refine V_aload_n (κ := KX4_read) (pc := 63) dX4_read_63 0 rfl rfl ?_
  refine V_getf 4 (κ := KX4_read) (pc := 64) rfl (by decide) rfl inX4 3 (by decide) wd_112 rfl (t := 0) rfl dX4_read_64 fun t101 => ?_
  refine V_icmp_ge (κ := KX4_read) (pc := 67) (tgt := 101) dX4_read_67 rfl ?_ ?_
  · refine V_sub (lv' := []) [] rfl ?_
    exact VBX4_read_101 _
  refine V_aload_n (κ := KX4_read) (pc := 70) dX4_read_70 0 rfl rfl ?_
  refine V_getf 4 (κ := KX4_read) (pc := 71) rfl (by decide) rfl inX4 7 (by decide) wd_116 rfl (t := 0) rfl dX4_read_71 fun t102 => ?_
  refine V_if_eq (κ := KX4_read) (pc := 74) (tgt := 101) dX4_read_74 rfl ?_ ?_
  · refine V_sub (lv' := []) [] rfl ?_
    exact VBX4_read_101 _
  refine V_aload_n (κ := KX4_read) (pc := 77) dX4_read_77 0 rfl rfl ?_
  refine V_callV (ci := 4) (T := TX4) (N := 13) rfl (by decide) (κ := KX4_read) (pc := 78) (con_X4_readStatement _ _) mth_X4_readStatement rfl ⟨wd_827, wp_24⟩ wd_825 (st0 := []) rfl rfl (by decide) (Nat.le_of_ble_eq_true rfl) dX4_read_78 (fun _ _ _ h => VX_out rfl (by decide) h) fun t103 u104 => ?_
  refine V_if_eq (κ := KX4_read) (pc := 81) (tgt := 93) dX4_read_81 rfl ?_ ?_
  · refine V_sub (lv' := []) [] rfl ?_
    exact VBX4_read_93 _
  refine V_aload_n (κ := KX4_read) (pc := 84) dX4_read_84 0 rfl rfl ?_
  refine V_bipush (κ := KX4_read) (pc := 85) dX4_read_85 ⟨by decide, by decide⟩ (by decide) ?_
  refine V_callV (ci := 4) (T := TX4) (N := 13) rfl (by decide) (κ := KX4_read) (pc := 87) (con_X4_takeSign _ _ _) mth_X4_takeSign rfl ⟨wd_819, wp_22⟩ wd_817 (st0 := []) rfl rfl (by decide) (Nat.le_of_ble_eq_true rfl) dX4_read_87 (fun _ _ _ h => VX_out rfl (by decide) h) fun t105 u106 => ?_
  refine V_if_ne (κ := KX4_read) (pc := 90) (tgt := 95) dX4_read_90 rfl ?_ ?_
  · refine V_iinc (κ := KX4_read) (pc := 95) (lv' := [(4, (0, w32 (x4 + 1))), (0, (2, x0))]) dX4_read_95 1 rfl (by decide) rfl ?_
    refine V_goto (κ := KX4_read) (pc := 98) (tgt := 61) dX4_read_98 rfl ?_
    refine V_sub (lv' := [(0, (2, x0)), (4, (0, w32 (x4 + 1)))]) [1, 0] rfl ?_
    exact hk61 _ _ _
  refine V_sub (lv' := []) [] rfl ?_
  exact VBX4_read_93 _
theorem VLX4_read_61 {Γ : Gam} : ∀ (n : Nat) (x0 x4 : Int) (μ : Mem), V Γ KX4_read 61 [(0, (2, x0)), (4, (0, x4))] [] μ (LX4_read_61 n x0 x4 μ)
  | 0, _, _, _ => V_none
  | n + 1, x0, x4, μ => VBX4_read_61 (fun y0 y4 ν => VLX4_read_61 n y0 y4 ν) x0 x4 μ
theorem VBX4_read_0 {Γ : Gam} (x0 x1 x2 x3 : Int) (μ : Mem) : V Γ KX4_read 0 [(0, (2, x0)), (1, (2, x1)), (2, (0, x2)), (3, (2, x3))] [] μ (BX4_read_0 x0 x1 x2 x3 μ) := by
  unfold BX4_read_0
  refine V_aload_n (κ := KX4_read) (pc := 0) dX4_read_0 0 rfl rfl ?_
  refine V_aload_n (κ := KX4_read) (pc := 1) dX4_read_1 1 rfl rfl ?_
  refine V_putf 4 (κ := KX4_read) (pc := 2) rfl (by decide) rfl inX4 tyX4 tyX4_ok nmX4 2 (by decide) wd_111 rfl rfl (t := 2) rfl rfl dX4_read_2 fun u101 => ?_
  refine V_aload_n (κ := KX4_read) (pc := 5) dX4_read_5 0 rfl rfl ?_
  refine V_iload_n (κ := KX4_read) (pc := 6) dX4_read_6 2 rfl ?_
  refine V_aload_n (κ := KX4_read) (pc := 7) dX4_read_7 1 rfl rfl ?_
  refine V_alen 0 (by decide) (κ := KX4_read) (pc := 8) dX4_read_8 fun t102 => ?_
  refine V_callS (κ := KX4_read) (pc := 9) (con_J9_min_7cf53 _ _ _) mth_J9_min_7cf53 wd_502 wd_783 (st0 := [(2, x0)]) rfl rfl (by decide) (Nat.le_of_ble_eq_true rfl) dX4_read_9 (fun _ _ _ h => VX_out rfl (by decide) h) fun t103 u104 => ?_
  refine V_putf 4 (κ := KX4_read) (pc := 12) rfl (by decide) rfl inX4 tyX4 tyX4_ok nmX4 3 (by decide) wd_112 rfl rfl (t := 0) rfl rfl dX4_read_12 fun u105 => ?_
  refine V_aload_n (κ := KX4_read) (pc := 15) dX4_read_15 0 rfl rfl ?_
  refine V_aload_n (κ := KX4_read) (pc := 16) dX4_read_16 3 rfl rfl ?_
  refine V_putf 4 (κ := KX4_read) (pc := 17) rfl (by decide) rfl inX4 tyX4 tyX4_ok nmX4 4 (by decide) wd_113 rfl rfl (t := 2) rfl rfl dX4_read_17 fun u106 => ?_
  refine V_aload_n (κ := KX4_read) (pc := 20) dX4_read_20 0 rfl rfl ?_
  refine V_iconst (κ := KX4_read) (pc := 21) dX4_read_21 ⟨by decide, by decide⟩ ?_
  refine V_putf 4 (κ := KX4_read) (pc := 22) rfl (by decide) rfl inX4 tyX4 tyX4_ok nmX4 0 (by decide) wd_107 rfl rfl (t := 0) rfl rfl dX4_read_22 fun u107 => ?_
  refine V_aload_n (κ := KX4_read) (pc := 25) dX4_read_25 0 rfl rfl ?_
  refine V_iconst (κ := KX4_read) (pc := 26) dX4_read_26 ⟨by decide, by decide⟩ ?_
  refine V_putf 4 (κ := KX4_read) (pc := 27) rfl (by decide) rfl inX4 tyX4 tyX4_ok nmX4 1 (by decide) wd_109 rfl rfl (t := 0) rfl rfl dX4_read_27 fun u108 => ?_
  refine V_aload_n (κ := KX4_read) (pc := 30) dX4_read_30 0 rfl rfl ?_
  refine V_iconst (κ := KX4_read) (pc := 31) dX4_read_31 ⟨by decide, by decide⟩ ?_
  refine V_putz 4 (κ := KX4_read) (pc := 32) rfl (by decide) rfl inX4 tyX4 tyX4_ok nmX4 5 (by decide) wd_114 rfl rfl rfl rfl dX4_read_32 fun u109 => ?_
  refine V_aload_n (κ := KX4_read) (pc := 35) dX4_read_35 0 rfl rfl ?_
  refine V_iconst (κ := KX4_read) (pc := 36) dX4_read_36 ⟨by decide, by decide⟩ ?_
  refine V_putz 4 (κ := KX4_read) (pc := 37) rfl (by decide) rfl inX4 tyX4 tyX4_ok nmX4 6 (by decide) wd_115 rfl rfl rfl rfl dX4_read_37 fun u110 => ?_
  refine V_aload_n (κ := KX4_read) (pc := 40) dX4_read_40 0 rfl rfl ?_
  refine V_iconst (κ := KX4_read) (pc := 41) dX4_read_41 ⟨by decide, by decide⟩ ?_
  refine V_putf 4 (κ := KX4_read) (pc := 42) rfl (by decide) rfl inX4 tyX4 tyX4_ok nmX4 9 (by decide) wd_118 rfl rfl (t := 0) rfl rfl dX4_read_42 fun u111 => ?_
  refine V_aload_n (κ := KX4_read) (pc := 45) dX4_read_45 0 rfl rfl ?_
  refine V_callV (ci := 4) (T := TX4) (N := 13) rfl (by decide) (κ := KX4_read) (pc := 46) (con_X4_advance _ _) mth_X4_advance rfl ⟨wd_786, wp_16⟩ wd_784 (st0 := []) rfl rfl (by decide) (Nat.le_of_ble_eq_true rfl) dX4_read_46 (fun _ _ _ h => VX_out rfl (by decide) h) fun _ u113 => ?_
  refine V_aload_n (κ := KX4_read) (pc := 49) dX4_read_49 0 rfl rfl ?_
  refine V_callV (ci := 4) (T := TX4) (N := 13) rfl (by decide) (κ := KX4_read) (pc := 50) (con_X4_readPicture _ _) mth_X4_readPicture rfl ⟨wd_794, wp_18⟩ wd_792 (st0 := []) rfl rfl (by decide) (Nat.le_of_ble_eq_true rfl) dX4_read_50 (fun _ _ _ h => VX_out rfl (by decide) h) fun t114 u115 => ?_
  refine V_if_ne (κ := KX4_read) (pc := 53) (tgt := 58) dX4_read_53 rfl ?_ ?_
  · refine V_iconst (κ := KX4_read) (pc := 58) dX4_read_58 ⟨by decide, by decide⟩ ?_
    refine V_istore (κ := KX4_read) (pc := 59) (lv' := [(4, (0, 0)), (0, (2, x0)), (1, (2, x1)), (2, (0, x2)), (3, (2, x3))]) dX4_read_59 (by decide) rfl ?_
    refine V_sub (lv' := [(0, (2, x0)), (4, (0, 0))]) [1, 0] rfl ?_
    exact VLX4_read_61 FU _ _ _
  refine V_iconst (κ := KX4_read) (pc := 56) dX4_read_56 ⟨by decide, by decide⟩ ?_
  exact V_zreturn (κ := KX4_read) (pc := 57) rfl rfl dX4_read_57
theorem con_X4_read (a0 a1 a2 a3 : Int) (μ : Mem) : Con (80) yX4_read (.code yX4_read cX4_read 5 (some .boolean)) 0 [(2, a0), (2, a1), (0, a2), (2, a3)] μ (FX4_read a0 a1 a2 a3 μ) := Con_intro KX4_read (plainFor_of_name (by decide)) rfl (fun h => by cases h) (by decide) rfl (Nat.le_of_ble_eq_true rfl) (fun Γ => VBX4_read_0 _ _ _ _ _)
abbrev KX6_draftSheet : Kap := (RX6, cX6_draftSheet, 1, 1, 2, (some (.object "TonePlates$Sheet")), false, [])
theorem VBX6_draftSheet_0 {Γ : Gam} (x0 : Int) (μ : Mem) : V Γ KX6_draftSheet 0 [(0, (2, x0))] [] μ (BX6_draftSheet_0 x0 μ) := by
  unfold BX6_draftSheet_0
  refine V_aload_n (κ := KX6_draftSheet) (pc := 0) dX6_draftSheet_0 0 rfl rfl ?_
  refine V_getf 6 (κ := KX6_draftSheet) (pc := 1) rfl (by decide) rfl inX6 3 (by decide) wd_247 rfl (t := 2) rfl dX6_draftSheet_1 fun t101 => ?_
  refine V_aload_n (κ := KX6_draftSheet) (pc := 4) dX6_draftSheet_4 0 rfl rfl ?_
  refine V_getf 6 (κ := KX6_draftSheet) (pc := 5) rfl (by decide) rfl inX6 4 (by decide) wd_248 rfl (t := 0) rfl dX6_draftSheet_5 fun t102 => ?_
  refine V_iconst (κ := KX6_draftSheet) (pc := 8) dX6_draftSheet_8 ⟨by decide, by decide⟩ ?_
  refine V_iadd (κ := KX6_draftSheet) (pc := 9) dX6_draftSheet_9 ?_
  refine V_bipush (κ := KX6_draftSheet) (pc := 10) dX6_draftSheet_10 ⟨by decide, by decide⟩ (by decide) ?_
  refine V_irem (κ := KX6_draftSheet) (pc := 12) dX6_draftSheet_12 fun t103 => ?_
  refine V_aaload 4 (by decide) rfl rfl (κ := KX6_draftSheet) (pc := 13) dX6_draftSheet_13 fun t104 => ?_
  exact V_areturn (κ := KX6_draftSheet) (pc := 14) rfl rfl (by first | exact Or.inl ⟨_, rfl⟩ | exact Or.inr ⟨_, rfl⟩) dX6_draftSheet_14
theorem con_X6_draftSheet (a0 : Int) (μ : Mem) : Con (1) yX6_draftSheet (.code yX6_draftSheet cX6_draftSheet 1 (some (.object "TonePlates$Sheet"))) 2 [(2, a0)] μ (FX6_draftSheet a0 μ) := Con_intro KX6_draftSheet (plainFor_of_name (by decide)) rfl (fun h => by cases h) (by decide) rfl (Nat.le_of_ble_eq_true rfl) (fun Γ => VBX6_draftSheet_0 _ _)
abbrev KX6_requireBuffered : Kap := (RX6, cX6_requireBuffered, 2, 6, 9, none, false, [])
theorem VBX6_requireBuffered_12 {Γ : Gam} (μ : Mem) : V Γ KX6_requireBuffered 12 [] [] μ (BX6_requireBuffered_12 μ) := by
  unfold BX6_requireBuffered_12
  exact V_throwW (κ := KX6_requireBuffered) (pc := 12) 2 (by decide) rfl thr_2 (tx := "the buffer has not so many bytes") (by decide) rfl (by decide) (by decide) dX6_requireBuffered_12 dX6_requireBuffered_15 dX6_requireBuffered_16 dX6_requireBuffered_19 dX6_requireBuffered_22
theorem VBX6_requireBuffered_0 {Γ : Gam} (x0 x1 : Int) (μ : Mem) : V Γ KX6_requireBuffered 0 [(0, (2, x0)), (1, (0, x1))] [] μ (BX6_requireBuffered_0 x0 x1 μ) := by
  unfold BX6_requireBuffered_0
  refine V_iload_n (κ := KX6_requireBuffered) (pc := 0) dX6_requireBuffered_0 1 rfl ?_
  refine V_if_lt (κ := KX6_requireBuffered) (pc := 1) (tgt := 12) dX6_requireBuffered_1 rfl ?_ ?_
  · refine V_sub (lv' := []) [] rfl ?_
    exact VBX6_requireBuffered_12 _
  refine V_iload_n (κ := KX6_requireBuffered) (pc := 4) dX6_requireBuffered_4 1 rfl ?_
  refine V_aload_n (κ := KX6_requireBuffered) (pc := 5) dX6_requireBuffered_5 0 rfl rfl ?_
  refine V_getf 6 (κ := KX6_requireBuffered) (pc := 6) rfl (by decide) rfl inX6 1 (by decide) wd_245 rfl (t := 0) rfl dX6_requireBuffered_6 fun t101 => ?_
  refine V_icmp_le (κ := KX6_requireBuffered) (pc := 9) (tgt := 23) dX6_requireBuffered_9 rfl ?_ ?_
  · exact V_vreturn (κ := KX6_requireBuffered) (pc := 23) rfl rfl dX6_requireBuffered_23
  refine V_sub (lv' := []) [] rfl ?_
  exact VBX6_requireBuffered_12 _
theorem con_X6_requireBuffered (a0 a1 : Int) (μ : Mem) : Con (6) yX6_requireBuffered (.code yX6_requireBuffered cX6_requireBuffered 2 none) 9 [(2, a0), (0, a1)] μ (FX6_requireBuffered a0 a1 μ) := Con_intro KX6_requireBuffered (plainFor_of_name (by decide)) rfl (fun h => by cases h) (by decide) rfl (Nat.le_of_ble_eq_true rfl) (fun Γ => VBX6_requireBuffered_0 _ _ _)
abbrev KX2_forgetDots : Kap := (RX2, cX2_forgetDots, 1, 1, 9, none, false, [])
theorem VBX2_forgetDots_0 {Γ : Gam} (x0 : Int) (μ : Mem) : V Γ KX2_forgetDots 0 [(0, (2, x0))] [] μ (BX2_forgetDots_0 x0 μ) := by
  unfold BX2_forgetDots_0
  refine V_aload_n (κ := KX2_forgetDots) (pc := 0) dX2_forgetDots_0 0 rfl rfl ?_
  refine V_iconst (κ := KX2_forgetDots) (pc := 1) dX2_forgetDots_1 ⟨by decide, by decide⟩ ?_
  refine V_putz 2 (κ := KX2_forgetDots) (pc := 2) rfl (by decide) rfl inX2 tyX2 tyX2_ok nmX2 7 (by decide) wd_83 rfl rfl rfl rfl dX2_forgetDots_2 fun u101 => ?_
  exact V_vreturn (κ := KX2_forgetDots) (pc := 5) rfl rfl dX2_forgetDots_5
theorem con_X2_forgetDots (a0 : Int) (μ : Mem) : Con (1) yX2_forgetDots (.code yX2_forgetDots cX2_forgetDots 1 none) 9 [(2, a0)] μ (FX2_forgetDots a0 μ) := Con_intro KX2_forgetDots (plainFor_of_name (by decide)) rfl (fun h => by cases h) (by decide) rfl (Nat.le_of_ble_eq_true rfl) (fun Γ => VBX2_forgetDots_0 _ _)
abbrev KX6_useDraft : Kap := (RX6, cX6_useDraft, 1, 5, 9, none, false, [])
theorem VBX6_useDraft_0 {Γ : Gam} (x0 : Int) (μ : Mem) : V Γ KX6_useDraft 0 [(0, (2, x0))] [] μ (BX6_useDraft_0 x0 μ) := by
  unfold BX6_useDraft_0
  refine V_aload_n (κ := KX6_useDraft) (pc := 0) dX6_useDraft_0 0 rfl rfl ?_
  refine V_aload_n (κ := KX6_useDraft) (pc := 1) dX6_useDraft_1 0 rfl rfl ?_
  refine V_getf 6 (κ := KX6_useDraft) (pc := 2) rfl (by decide) rfl inX6 4 (by decide) wd_248 rfl (t := 0) rfl dX6_useDraft_2 fun t101 => ?_
  refine V_iconst (κ := KX6_useDraft) (pc := 5) dX6_useDraft_5 ⟨by decide, by decide⟩ ?_
  refine V_iadd (κ := KX6_useDraft) (pc := 6) dX6_useDraft_6 ?_
  refine V_bipush (κ := KX6_useDraft) (pc := 7) dX6_useDraft_7 ⟨by decide, by decide⟩ (by decide) ?_
  refine V_irem (κ := KX6_useDraft) (pc := 9) dX6_useDraft_9 fun t102 => ?_
  refine V_putf 6 (κ := KX6_useDraft) (pc := 10) rfl (by decide) rfl inX6 tyX6 tyX6_ok nmX6 4 (by decide) wd_248 rfl rfl (t := 0) rfl rfl dX6_useDraft_10 fun u103 => ?_
  refine V_aload_n (κ := KX6_useDraft) (pc := 13) dX6_useDraft_13 0 rfl rfl ?_
  refine V_aload_n (κ := KX6_useDraft) (pc := 14) dX6_useDraft_14 0 rfl rfl ?_
  refine V_getf 6 (κ := KX6_useDraft) (pc := 15) rfl (by decide) rfl inX6 3 (by decide) wd_247 rfl (t := 2) rfl dX6_useDraft_15 fun t104 => ?_
  refine V_aload_n (κ := KX6_useDraft) (pc := 18) dX6_useDraft_18 0 rfl rfl ?_
  refine V_getf 6 (κ := KX6_useDraft) (pc := 19) rfl (by decide) rfl inX6 4 (by decide) wd_248 rfl (t := 0) rfl dX6_useDraft_19 fun t105 => ?_
  refine V_aaload 4 (by decide) rfl rfl (κ := KX6_useDraft) (pc := 22) dX6_useDraft_22 fun t106 => ?_
  refine V_putf 6 (κ := KX6_useDraft) (pc := 23) rfl (by decide) rfl inX6 tyX6 tyX6_ok nmX6 6 (by decide) wd_250 rfl rfl (t := 2) rfl rfl dX6_useDraft_23 fun u107 => ?_
  refine V_aload_n (κ := KX6_useDraft) (pc := 26) dX6_useDraft_26 0 rfl rfl ?_
  refine V_aload_n (κ := KX6_useDraft) (pc := 27) dX6_useDraft_27 0 rfl rfl ?_
  refine V_getf 6 (κ := KX6_useDraft) (pc := 28) rfl (by decide) rfl inX6 5 (by decide) wd_249 rfl (t := 0) rfl dX6_useDraft_28 fun t108 => ?_
  refine V_iconst (κ := KX6_useDraft) (pc := 31) dX6_useDraft_31 ⟨by decide, by decide⟩ ?_
  refine V_iadd (κ := KX6_useDraft) (pc := 32) dX6_useDraft_32 ?_
  refine V_bipush (κ := KX6_useDraft) (pc := 33) dX6_useDraft_33 ⟨by decide, by decide⟩ (by decide) ?_
  refine V_callS (κ := KX6_useDraft) (pc := 35) (con_J9_min_7cf53 _ _ _) mth_J9_min_7cf53 wd_502 wd_501 (st0 := [(2, x0)]) rfl rfl (by decide) (Nat.le_of_ble_eq_true rfl) dX6_useDraft_35 (fun _ _ _ h => VX_out rfl (by decide) h) fun t109 u110 => ?_
  refine V_putf 6 (κ := KX6_useDraft) (pc := 38) rfl (by decide) rfl inX6 tyX6 tyX6_ok nmX6 5 (by decide) wd_249 rfl rfl (t := 0) rfl rfl dX6_useDraft_38 fun u111 => ?_
  refine V_aload_n (κ := KX6_useDraft) (pc := 41) dX6_useDraft_41 0 rfl rfl ?_
  refine V_getf 6 (κ := KX6_useDraft) (pc := 42) rfl (by decide) rfl inX6 7 (by decide) wd_251 rfl (t := 2) rfl dX6_useDraft_42 fun t112 => ?_
  refine V_callV (ci := 2) (T := TX2) (N := 8) rfl (by decide) (κ := KX6_useDraft) (pc := 45) (con_X2_forgetDots _ _) mth_X2_forgetDots rfl ⟨wd_505, wd_506⟩ wd_504 (st0 := []) rfl rfl (by decide) (Nat.le_of_ble_eq_true rfl) dX6_useDraft_45 (fun _ _ _ h => VX_out rfl (by decide) h) fun _ u114 => ?_
  exact V_vreturn (κ := KX6_useDraft) (pc := 48) rfl rfl dX6_useDraft_48
theorem con_X6_useDraft (a0 : Int) (μ : Mem) : Con (5) yX6_useDraft (.code yX6_useDraft cX6_useDraft 1 none) 9 [(2, a0)] μ (FX6_useDraft a0 μ) := Con_intro KX6_useDraft (plainFor_of_name (by decide)) rfl (fun h => by cases h) (by decide) rfl (Nat.le_of_ble_eq_true rfl) (fun Γ => VBX6_useDraft_0 _ _)
abbrev KX6_load : Kap := (RX6, cX6_load, 3, 81, 0, (some .int), false, [])
theorem VBX6_load_0 {Γ : Gam} (x0 x1 : Int) (μ : Mem) : V Γ KX6_load 0 [(0, (2, x0)), (1, (0, x1))] [] μ (BX6_load_0 x0 x1 μ) := by
  unfold BX6_load_0
  refine V_aload_n (κ := KX6_load) (pc := 0) dX6_load_0 0 rfl rfl ?_
  refine V_iload_n (κ := KX6_load) (pc := 1) dX6_load_1 1 rfl ?_
  refine V_callV (ci := 6) (T := TX6) (N := 9) rfl (by decide) (κ := KX6_load) (pc := 2) (con_X6_requireBuffered _ _ _) mth_X6_requireBuffered rfl ⟨wd_776, wp_15⟩ wd_774 (st0 := []) rfl rfl (by decide) (Nat.le_of_ble_eq_true rfl) dX6_load_2 (fun _ _ _ h => VX_out rfl (by decide) h) fun _ u102 => ?_
  refine V_aload_n (κ := KX6_load) (pc := 5) dX6_load_5 0 rfl rfl ?_
  refine V_iconst (κ := KX6_load) (pc := 6) dX6_load_6 ⟨by decide, by decide⟩ ?_
  refine V_putf 6 (κ := KX6_load) (pc := 7) rfl (by decide) rfl inX6 tyX6 tyX6_ok nmX6 1 (by decide) wd_245 rfl rfl (t := 0) rfl rfl dX6_load_7 fun u103 => ?_
  refine V_aload_n (κ := KX6_load) (pc := 10) dX6_load_10 0 rfl rfl ?_
  refine V_getf 6 (κ := KX6_load) (pc := 11) rfl (by decide) rfl inX6 8 (by decide) wd_252 rfl (t := 2) rfl dX6_load_11 fun t104 => ?_
  refine V_aload_n (κ := KX6_load) (pc := 14) dX6_load_14 0 rfl rfl ?_
  refine V_getf 6 (κ := KX6_load) (pc := 15) rfl (by decide) rfl inX6 0 (by decide) wd_244 rfl (t := 2) rfl dX6_load_15 fun t105 => ?_
  refine V_iload_n (κ := KX6_load) (pc := 18) dX6_load_18 1 rfl ?_
  refine V_aload_n (κ := KX6_load) (pc := 19) dX6_load_19 0 rfl rfl ?_
  refine V_callV (ci := 6) (T := TX6) (N := 9) rfl (by decide) (κ := KX6_load) (pc := 20) (con_X6_draftSheet _ _) mth_X6_draftSheet rfl ⟨wd_484, wp_6⟩ wd_482 (st0 := [(0, x1), (2, t105), (2, t104)]) rfl rfl (by decide) (Nat.le_of_ble_eq_true rfl) dX6_load_20 (fun _ _ _ h => VX_out rfl (by decide) h) fun t106 u107 => ?_
  refine V_callV (ci := 4) (T := TX4) (N := 13) rfl (by decide) (κ := KX6_load) (pc := 23) (con_X4_read _ _ _ _ _) mth_X4_read rfl ⟨wd_780, wd_781⟩ wd_779 (st0 := []) rfl rfl (by decide) (Nat.le_of_ble_eq_true rfl) dX6_load_23 (fun _ _ _ h => VX_out rfl (by decide) h) fun t108 u109 => ?_
  refine V_istore_n (κ := KX6_load) (pc := 26) (lv' := [(2, (0, t108)), (0, (2, x0)), (1, (0, x1))]) dX6_load_26 (by decide) rfl ?_
  refine V_aload_n (κ := KX6_load) (pc := 27) dX6_load_27 1 rfl rfl ?_
  refine V_aload_n (κ := KX6_load) (pc := 28) dX6_load_28 1 rfl rfl ?_
  refine V_getf 6 (κ := KX6_load) (pc := 29) rfl (by decide) rfl inX6 8 (by decide) wd_252 rfl (t := 2) rfl dX6_load_29 fun t110 => ?_
  refine V_getf 4 (κ := KX6_load) (pc := 32) rfl (by decide) rfl inX4 1 (by decide) wd_110 rfl (t := 0) rfl dX6_load_32 fun t111 => ?_
  refine V_putf 6 (κ := KX6_load) (pc := 35) rfl (by decide) rfl inX6 tyX6 tyX6_ok nmX6 2 (by decide) wd_246 rfl rfl (t := 0) rfl rfl dX6_load_35 fun u112 => ?_
  refine V_iload_n (κ := KX6_load) (pc := 38) dX6_load_38 0 rfl ?_
  refine V_if_ne (κ := KX6_load) (pc := 39) (tgt := 50) dX6_load_39 rfl ?_ ?_
  · refine V_aload_n (κ := KX6_load) (pc := 50) dX6_load_50 1 rfl rfl ?_
    refine V_callV (ci := 6) (T := TX6) (N := 9) rfl (by decide) (κ := KX6_load) (pc := 51) (con_X6_useDraft _ _) mth_X6_useDraft rfl ⟨wd_499, wp_7⟩ wd_497 (st0 := []) rfl rfl (by decide) (Nat.le_of_ble_eq_true rfl) dX6_load_51 (fun _ _ _ h => VX_out rfl (by decide) h) fun _ u114 => ?_
    refine V_aload_n (κ := KX6_load) (pc := 54) dX6_load_54 1 rfl rfl ?_
    refine V_getf 6 (κ := KX6_load) (pc := 55) rfl (by decide) rfl inX6 7 (by decide) wd_251 rfl (t := 2) rfl dX6_load_55 fun t115 => ?_
    refine V_callV (ci := 2) (T := TX2) (N := 8) rfl (by decide) (κ := KX6_load) (pc := 58) (con_X2_forgetTones _ _) mth_X2_forgetTones rfl ⟨wd_510, wd_511⟩ wd_509 (st0 := []) rfl rfl (by decide) (Nat.le_of_ble_eq_true rfl) dX6_load_58 (fun _ _ _ h => VX_out rfl (by decide) h) fun _ u117 => ?_
    refine V_aload_n (κ := KX6_load) (pc := 61) dX6_load_61 1 rfl rfl ?_
    refine V_getf 6 (κ := KX6_load) (pc := 62) rfl (by decide) rfl inX6 6 (by decide) wd_250 rfl (t := 2) rfl dX6_load_62 fun t118 => ?_
    refine V_getf 5 (κ := KX6_load) (pc := 65) rfl (by decide) rfl inX5 3 (by decide) wd_217 rfl (t := 0) rfl dX6_load_65 fun t119 => ?_
    exact V_ireturn (κ := KX6_load) (pc := 68) rfl rfl dX6_load_68
  refine V_aload_n (κ := KX6_load) (pc := 42) dX6_load_42 1 rfl rfl ?_
  refine V_getf 6 (κ := KX6_load) (pc := 43) rfl (by decide) rfl inX6 8 (by decide) wd_252 rfl (t := 2) rfl dX6_load_43 fun t120 => ?_
  refine V_getf 4 (κ := KX6_load) (pc := 46) rfl (by decide) rfl inX4 0 (by decide) wd_108 rfl (t := 0) rfl dX6_load_46 fun t121 => ?_
  exact V_ireturn (κ := KX6_load) (pc := 49) rfl rfl dX6_load_49
theorem con_X6_load (a0 a1 : Int) (μ : Mem) : Con (81) yX6_load (.code yX6_load cX6_load 3 (some .int)) 0 [(2, a0), (0, a1)] μ (FX6_load a0 a1 μ) := Con_intro KX6_load (plainFor_of_name (by decide)) rfl (fun h => by cases h) (by decide) rfl (Nat.le_of_ble_eq_true rfl) (fun Γ => VBX6_load_0 _ _ _)
abbrev KX3_init : Kap := (RX3, cX3_init, 1, 1, 9, none, true, [])
theorem VBX3_init_0 {Γ : Gam} (x0 : Int) (μ : Mem) : V Γ KX3_init 0 [(0, (2, x0))] [] μ (BX3_init_0 x0 μ) := by
  unfold BX3_init_0
  refine V_aload_n (κ := KX3_init) (pc := 0) dX3_init_0 0 rfl rfl ?_
  refine V_objInit (κ := KX3_init) (pc := 1) (by decide) wd_55 wd_37 wd_38 (Nat.le_of_ble_eq_true rfl) dX3_init_1 (ci := 0) ?_
  refine V_aload_n (κ := KX3_init) (pc := 4) dX3_init_4 0 rfl rfl ?_
  refine V_iconst (κ := KX3_init) (pc := 5) dX3_init_5 ⟨by decide, by decide⟩ ?_
  refine V_putf 3 (κ := KX3_init) (pc := 6) rfl (by decide) rfl inX3 tyX3 tyX3_ok nmX3 0 (by decide) wd_56 rfl rfl (t := 0) rfl rfl dX3_init_6 fun u101 => ?_
  refine V_aload_n (κ := KX3_init) (pc := 9) dX3_init_9 0 rfl rfl ?_
  refine V_iconst (κ := KX3_init) (pc := 10) dX3_init_10 ⟨by decide, by decide⟩ ?_
  refine V_putf 3 (κ := KX3_init) (pc := 11) rfl (by decide) rfl inX3 tyX3 tyX3_ok nmX3 1 (by decide) wd_57 rfl rfl (t := 0) rfl rfl dX3_init_11 fun u102 => ?_
  refine V_aload_n (κ := KX3_init) (pc := 14) dX3_init_14 0 rfl rfl ?_
  refine V_iconst (κ := KX3_init) (pc := 15) dX3_init_15 ⟨by decide, by decide⟩ ?_
  refine V_putf 3 (κ := KX3_init) (pc := 16) rfl (by decide) rfl inX3 tyX3 tyX3_ok nmX3 2 (by decide) wd_58 rfl rfl (t := 0) rfl rfl dX3_init_16 fun u103 => ?_
  refine V_aload_n (κ := KX3_init) (pc := 19) dX3_init_19 0 rfl rfl ?_
  refine V_iconst (κ := KX3_init) (pc := 20) dX3_init_20 ⟨by decide, by decide⟩ ?_
  refine V_putf 3 (κ := KX3_init) (pc := 21) rfl (by decide) rfl inX3 tyX3 tyX3_ok nmX3 3 (by decide) wd_59 rfl rfl (t := 0) rfl rfl dX3_init_21 fun u104 => ?_
  refine V_aload_n (κ := KX3_init) (pc := 24) dX3_init_24 0 rfl rfl ?_
  refine V_sipush (κ := KX3_init) (pc := 25) dX3_init_25 ⟨by decide, by decide⟩ (by decide) ?_
  refine V_newarray 1 (by decide) (κ := KX3_init) (pc := 28) rfl wd_73 dX3_init_28 fun t105 u106 => ?_
  refine V_putfF rfl 3 (κ := KX3_init) (pc := 30) rfl (by decide) rfl inX3 tyX3 tyX3_ok nmX3 4 (by decide) wd_60 rfl rfl rfl (t := 2) rfl rfl dX3_init_30 fun u107 => ?_
  exact V_vreturn (κ := KX3_init) (pc := 33) rfl rfl dX3_init_33
theorem con_X3_init (a0 : Int) (μ : Mem) : Con (1) yX3_init (.code yX3_init cX3_init 1 none) 9 [(2, a0)] μ (FX3_init a0 μ) := Con_intro KX3_init (plainFor_of_name (by decide)) rfl (fun h => rfl) (by decide) rfl (Nat.le_of_ble_eq_true rfl) (fun Γ => VBX3_init_0 _ _)
abbrev KX2_init : Kap := (RX2, cX2_init, 2, 2, 9, none, true, [])
theorem VBX2_init_69 {Γ : Gam} {k69 : Int → Int → Mem → Rz} (hk69 : ∀ (y0 y1 : Int) (ν : Mem), V Γ KX2_init 69 [(0, (2, y0)), (1, (0, y1))] [] ν (k69 y0 y1 ν)) (x0 x1 : Int) (μ : Mem) : V Γ KX2_init 69 [(0, (2, x0)), (1, (0, x1))] [] μ (BX2_init_69 k69 x0 x1 μ) := by
  unfold BX2_init_69
  refine V_iload_n (κ := KX2_init) (pc := 69) dX2_init_69 1 rfl ?_
  refine V_iconst (κ := KX2_init) (pc := 70) dX2_init_70 ⟨by decide, by decide⟩ ?_
  refine V_icmp_ge (κ := KX2_init) (pc := 71) (tgt := 93) dX2_init_71 rfl ?_ ?_
  · exact V_vreturn (κ := KX2_init) (pc := 93) rfl rfl dX2_init_93
  refine V_aload_n (κ := KX2_init) (pc := 74) dX2_init_74 0 rfl rfl ?_
  refine V_getf 2 (κ := KX2_init) (pc := 75) rfl (by decide) rfl inX2 3 (by decide) wd_79 rfl (t := 2) rfl dX2_init_75 fun t101 => ?_
  refine V_iload_n (κ := KX2_init) (pc := 78) dX2_init_78 1 rfl ?_
  refine V_new 3 (κ := KX2_init) (pc := 79) rfl (by decide) rfl rfl inX3 tyX3 tyX3_ok (by decide) wd_49 wd_51 wd_21 dX2_init_79 fun t102 u103 => ?_
  refine V_dup (κ := KX2_init) (pc := 82) rfl dX2_init_82 ?_
  refine V_callIN (host := "TonePlates") (ci := 3) (by decide) (κ := KX2_init) (pc := 83) (con_X3_init _ _) mth_X3_init rfl wd_53 (by decide) (st0 := [(2, t102), (0, x1), (2, t101)]) rfl rfl (by decide) (Nat.le_of_ble_eq_true rfl) dX2_init_83 (fun _ _ _ h => VX_out rfl (by decide) h) fun _ u105 => ?_
  refine V_aastore 6 3 (by decide) (by decide) rfl (T := TX3) (N := 5) rfl rfl (κ := KX2_init) (pc := 86) dX2_init_86 fun u106 => ?_
  refine V_iinc (κ := KX2_init) (pc := 87) (lv' := [(1, (0, w32 (x1 + 1))), (0, (2, x0))]) dX2_init_87 1 rfl (by decide) rfl ?_
  refine V_goto (κ := KX2_init) (pc := 90) (tgt := 69) dX2_init_90 rfl ?_
  refine V_sub (lv' := [(0, (2, x0)), (1, (0, w32 (x1 + 1)))]) [1, 0] rfl ?_
  exact hk69 _ _ _
theorem VLX2_init_69 {Γ : Gam} : ∀ (n : Nat) (x0 x1 : Int) (μ : Mem), V Γ KX2_init 69 [(0, (2, x0)), (1, (0, x1))] [] μ (LX2_init_69 n x0 x1 μ)
  | 0, _, _, _ => V_none
  | n + 1, x0, x1, μ => VBX2_init_69 (fun y0 y1 ν => VLX2_init_69 n y0 y1 ν) x0 x1 μ
theorem VBX2_init_0 {Γ : Gam} (x0 : Int) (μ : Mem) : V Γ KX2_init 0 [(0, (2, x0))] [] μ (BX2_init_0 x0 μ) := by
  unfold BX2_init_0
  refine V_aload_n (κ := KX2_init) (pc := 0) dX2_init_0 0 rfl rfl ?_
  refine V_objInit (κ := KX2_init) (pc := 1) (by decide) wd_46 wd_37 wd_38 (Nat.le_of_ble_eq_true rfl) dX2_init_1 (ci := 0) ?_
  refine V_aload_n (κ := KX2_init) (pc := 4) dX2_init_4 0 rfl rfl ?_
  refine V_iconst (κ := KX2_init) (pc := 5) dX2_init_5 ⟨by decide, by decide⟩ ?_
  refine V_sipush (κ := KX2_init) (pc := 6) dX2_init_6 ⟨by decide, by decide⟩ (by decide) ?_
  refine V_multi (κ := KX2_init) (pc := 9) wd_47 wd_73 dX2_init_9 fun t101 u102 => ?_
  refine V_putfF rfl 2 (κ := KX2_init) (pc := 13) rfl (by decide) rfl inX2 tyX2 tyX2_ok nmX2 0 (by decide) wd_74 rfl rfl rfl (t := 2) rfl rfl dX2_init_13 fun u103 => ?_
  refine V_aload_n (κ := KX2_init) (pc := 16) dX2_init_16 0 rfl rfl ?_
  refine V_sipush (κ := KX2_init) (pc := 17) dX2_init_17 ⟨by decide, by decide⟩ (by decide) ?_
  refine V_newarray 1 (by decide) (κ := KX2_init) (pc := 20) rfl wd_73 dX2_init_20 fun t104 u105 => ?_
  refine V_putfF rfl 2 (κ := KX2_init) (pc := 22) rfl (by decide) rfl inX2 tyX2 tyX2_ok nmX2 1 (by decide) wd_76 rfl rfl rfl (t := 2) rfl rfl dX2_init_22 fun u106 => ?_
  refine V_aload_n (κ := KX2_init) (pc := 25) dX2_init_25 0 rfl rfl ?_
  refine V_iconst (κ := KX2_init) (pc := 26) dX2_init_26 ⟨by decide, by decide⟩ ?_
  refine V_newarray 1 (by decide) (κ := KX2_init) (pc := 27) rfl wd_73 dX2_init_27 fun t107 u108 => ?_
  refine V_putfF rfl 2 (κ := KX2_init) (pc := 29) rfl (by decide) rfl inX2 tyX2 tyX2_ok nmX2 2 (by decide) wd_78 rfl rfl rfl (t := 2) rfl rfl dX2_init_29 fun u109 => ?_
  refine V_aload_n (κ := KX2_init) (pc := 32) dX2_init_32 0 rfl rfl ?_
  refine V_iconst (κ := KX2_init) (pc := 33) dX2_init_33 ⟨by decide, by decide⟩ ?_
  refine V_anewarray 6 (by decide) (κ := KX2_init) (pc := 34) rfl rfl wd_49 (fun G s h => h.2.2.2.2.2.2.2.2.2.2.2.1) dX2_init_34 fun t110 u111 => ?_
  refine V_putfF rfl 2 (κ := KX2_init) (pc := 37) rfl (by decide) rfl inX2 tyX2 tyX2_ok nmX2 3 (by decide) wd_79 rfl rfl rfl (t := 2) rfl rfl dX2_init_37 fun u112 => ?_
  refine V_aload_n (κ := KX2_init) (pc := 40) dX2_init_40 0 rfl rfl ?_
  refine V_sipush (κ := KX2_init) (pc := 41) dX2_init_41 ⟨by decide, by decide⟩ (by decide) ?_
  refine V_newarray 1 (by decide) (κ := KX2_init) (pc := 44) rfl wd_73 dX2_init_44 fun t113 u114 => ?_
  refine V_putfF rfl 2 (κ := KX2_init) (pc := 46) rfl (by decide) rfl inX2 tyX2 tyX2_ok nmX2 4 (by decide) wd_80 rfl rfl rfl (t := 2) rfl rfl dX2_init_46 fun u115 => ?_
  refine V_aload_n (κ := KX2_init) (pc := 49) dX2_init_49 0 rfl rfl ?_
  refine V_bipush (κ := KX2_init) (pc := 50) dX2_init_50 ⟨by decide, by decide⟩ (by decide) ?_
  refine V_newarray 1 (by decide) (κ := KX2_init) (pc := 52) rfl wd_73 dX2_init_52 fun t116 u117 => ?_
  refine V_putfF rfl 2 (κ := KX2_init) (pc := 54) rfl (by decide) rfl inX2 tyX2 tyX2_ok nmX2 5 (by decide) wd_81 rfl rfl rfl (t := 2) rfl rfl dX2_init_54 fun u118 => ?_
  refine V_aload_n (κ := KX2_init) (pc := 57) dX2_init_57 0 rfl rfl ?_
  refine V_iconst (κ := KX2_init) (pc := 58) dX2_init_58 ⟨by decide, by decide⟩ ?_
  refine V_putz 2 (κ := KX2_init) (pc := 59) rfl (by decide) rfl inX2 tyX2 tyX2_ok nmX2 6 (by decide) wd_82 rfl rfl rfl rfl dX2_init_59 fun u119 => ?_
  refine V_aload_n (κ := KX2_init) (pc := 62) dX2_init_62 0 rfl rfl ?_
  refine V_iconst (κ := KX2_init) (pc := 63) dX2_init_63 ⟨by decide, by decide⟩ ?_
  refine V_putz 2 (κ := KX2_init) (pc := 64) rfl (by decide) rfl inX2 tyX2 tyX2_ok nmX2 7 (by decide) wd_83 rfl rfl rfl rfl dX2_init_64 fun u120 => ?_
  refine V_iconst (κ := KX2_init) (pc := 67) dX2_init_67 ⟨by decide, by decide⟩ ?_
  refine V_istore_n (κ := KX2_init) (pc := 68) (lv' := [(1, (0, 0)), (0, (2, x0))]) dX2_init_68 (by decide) rfl ?_
  refine V_sub (lv' := [(0, (2, x0)), (1, (0, 0))]) [1, 0] rfl ?_
  exact VLX2_init_69 FU _ _ _
theorem con_X2_init (a0 : Int) (μ : Mem) : Con (2) yX2_init (.code yX2_init cX2_init 2 none) 9 [(2, a0)] μ (FX2_init a0 μ) := Con_intro KX2_init (plainFor_of_name (by decide)) rfl (fun h => rfl) (by decide) rfl (Nat.le_of_ble_eq_true rfl) (fun Γ => VBX2_init_0 _ _)
abbrev KX4_init : Kap := (RX4, cX4_init, 1, 1, 9, none, true, [])
theorem VBX4_init_0 {Γ : Gam} (x0 : Int) (μ : Mem) : V Γ KX4_init 0 [(0, (2, x0))] [] μ (BX4_init_0 x0 μ) := by
  unfold BX4_init_0
  refine V_aload_n (κ := KX4_init) (pc := 0) dX4_init_0 0 rfl rfl ?_
  refine V_objInit (κ := KX4_init) (pc := 1) (by decide) wd_106 wd_37 wd_38 (Nat.le_of_ble_eq_true rfl) dX4_init_1 (ci := 0) ?_
  refine V_aload_n (κ := KX4_init) (pc := 4) dX4_init_4 0 rfl rfl ?_
  refine V_sipush (κ := KX4_init) (pc := 5) dX4_init_5 ⟨by decide, by decide⟩ (by decide) ?_
  refine V_newarray 1 (by decide) (κ := KX4_init) (pc := 8) rfl wd_73 dX4_init_8 fun t101 u102 => ?_
  refine V_putfF rfl 4 (κ := KX4_init) (pc := 10) rfl (by decide) rfl inX4 tyX4 tyX4_ok nmX4 11 (by decide) wd_120 rfl rfl rfl (t := 2) rfl rfl dX4_init_10 fun u103 => ?_
  exact V_vreturn (κ := KX4_init) (pc := 13) rfl rfl dX4_init_13
theorem con_X4_init (a0 : Int) (μ : Mem) : Con (1) yX4_init (.code yX4_init cX4_init 1 none) 9 [(2, a0)] μ (FX4_init a0 μ) := Con_intro KX4_init (plainFor_of_name (by decide)) rfl (fun h => rfl) (by decide) rfl (Nat.le_of_ble_eq_true rfl) (fun Γ => VBX4_init_0 _ _)
abbrev KX1_init : Kap := (RX1, cX1_init, 1, 1, 9, none, true, [])
theorem VBX1_init_0 {Γ : Gam} (x0 : Int) (μ : Mem) : V Γ KX1_init 0 [(0, (2, x0))] [] μ (BX1_init_0 x0 μ) := by
  unfold BX1_init_0
  refine V_aload_n (κ := KX1_init) (pc := 0) dX1_init_0 0 rfl rfl ?_
  refine V_objInit (κ := KX1_init) (pc := 1) (by decide) wd_160 wd_37 wd_38 (Nat.le_of_ble_eq_true rfl) dX1_init_1 (ci := 0) ?_
  refine V_aload_n (κ := KX1_init) (pc := 4) dX1_init_4 0 rfl rfl ?_
  refine V_iconst (κ := KX1_init) (pc := 5) dX1_init_5 ⟨by decide, by decide⟩ ?_
  refine V_putf 1 (κ := KX1_init) (pc := 6) rfl (by decide) rfl inX1 tyX1 tyX1_ok nmX1 1 (by decide) wd_163 rfl rfl (t := 0) rfl rfl dX1_init_6 fun u101 => ?_
  exact V_vreturn (κ := KX1_init) (pc := 9) rfl rfl dX1_init_9
theorem con_X1_init (a0 : Int) (μ : Mem) : Con (1) yX1_init (.code yX1_init cX1_init 1 none) 9 [(2, a0)] μ (FX1_init a0 μ) := Con_intro KX1_init (plainFor_of_name (by decide)) rfl (fun h => rfl) (by decide) rfl (Nat.le_of_ble_eq_true rfl) (fun Γ => VBX1_init_0 _ _)
abbrev KX5_init : Kap := (RX5, cX5_init, 2, 2, 9, none, true, [])
theorem VBX5_init_54 {Γ : Gam} {k54 : Int → Int → Mem → Rz} (hk54 : ∀ (y0 y1 : Int) (ν : Mem), V Γ KX5_init 54 [(0, (2, y0)), (1, (0, y1))] [] ν (k54 y0 y1 ν)) (x0 x1 : Int) (μ : Mem) : V Γ KX5_init 54 [(0, (2, x0)), (1, (0, x1))] [] μ (BX5_init_54 k54 x0 x1 μ) := by
  unfold BX5_init_54
  refine V_iload_n (κ := KX5_init) (pc := 54) dX5_init_54 1 rfl ?_
  refine V_iconst (κ := KX5_init) (pc := 55) dX5_init_55 ⟨by decide, by decide⟩ ?_
  refine V_icmp_ge (κ := KX5_init) (pc := 56) (tgt := 78) dX5_init_56 rfl ?_ ?_
  · exact V_vreturn (κ := KX5_init) (pc := 78) rfl rfl dX5_init_78
  refine V_aload_n (κ := KX5_init) (pc := 59) dX5_init_59 0 rfl rfl ?_
  refine V_getf 5 (κ := KX5_init) (pc := 60) rfl (by decide) rfl inX5 4 (by decide) wd_220 rfl (t := 2) rfl dX5_init_60 fun t101 => ?_
  refine V_iload_n (κ := KX5_init) (pc := 63) dX5_init_63 1 rfl ?_
  refine V_new 1 (κ := KX5_init) (pc := 64) rfl (by decide) rfl rfl inX1 tyX1 tyX1_ok (by decide) wd_154 wd_156 wd_24 dX5_init_64 fun t102 u103 => ?_
  refine V_dup (κ := KX5_init) (pc := 67) rfl dX5_init_67 ?_
  refine V_callIN (host := "TonePlates") (ci := 1) (by decide) (κ := KX5_init) (pc := 68) (con_X1_init _ _) mth_X1_init rfl wd_158 (by decide) (st0 := [(2, t102), (0, x1), (2, t101)]) rfl rfl (by decide) (Nat.le_of_ble_eq_true rfl) dX5_init_68 (fun _ _ _ h => VX_out rfl (by decide) h) fun _ u105 => ?_
  refine V_aastore 5 1 (by decide) (by decide) rfl (T := TX1) (N := 8) rfl rfl (κ := KX5_init) (pc := 71) dX5_init_71 fun u106 => ?_
  refine V_iinc (κ := KX5_init) (pc := 72) (lv' := [(1, (0, w32 (x1 + 1))), (0, (2, x0))]) dX5_init_72 1 rfl (by decide) rfl ?_
  refine V_goto (κ := KX5_init) (pc := 75) (tgt := 54) dX5_init_75 rfl ?_
  refine V_sub (lv' := [(0, (2, x0)), (1, (0, w32 (x1 + 1)))]) [1, 0] rfl ?_
  exact hk54 _ _ _
theorem VLX5_init_54 {Γ : Gam} : ∀ (n : Nat) (x0 x1 : Int) (μ : Mem), V Γ KX5_init 54 [(0, (2, x0)), (1, (0, x1))] [] μ (LX5_init_54 n x0 x1 μ)
  | 0, _, _, _ => V_none
  | n + 1, x0, x1, μ => VBX5_init_54 (fun y0 y1 ν => VLX5_init_54 n y0 y1 ν) x0 x1 μ
theorem VBX5_init_0 {Γ : Gam} (x0 : Int) (μ : Mem) : V Γ KX5_init 0 [(0, (2, x0))] [] μ (BX5_init_0 x0 μ) := by
  unfold BX5_init_0
  refine V_aload_n (κ := KX5_init) (pc := 0) dX5_init_0 0 rfl rfl ?_
  refine V_objInit (κ := KX5_init) (pc := 1) (by decide) wd_153 wd_37 wd_38 (Nat.le_of_ble_eq_true rfl) dX5_init_1 (ci := 0) ?_
  refine V_aload_n (κ := KX5_init) (pc := 4) dX5_init_4 0 rfl rfl ?_
  refine V_bipush (κ := KX5_init) (pc := 5) dX5_init_5 ⟨by decide, by decide⟩ (by decide) ?_
  refine V_putf 5 (κ := KX5_init) (pc := 7) rfl (by decide) rfl inX5 tyX5 tyX5_ok nmX5 0 (by decide) wd_204 rfl rfl (t := 0) rfl rfl dX5_init_7 fun u101 => ?_
  refine V_aload_n (κ := KX5_init) (pc := 10) dX5_init_10 0 rfl rfl ?_
  refine V_bipush (κ := KX5_init) (pc := 11) dX5_init_11 ⟨by decide, by decide⟩ (by decide) ?_
  refine V_putf 5 (κ := KX5_init) (pc := 13) rfl (by decide) rfl inX5 tyX5 tyX5_ok nmX5 1 (by decide) wd_208 rfl rfl (t := 0) rfl rfl dX5_init_13 fun u102 => ?_
  refine V_aload_n (κ := KX5_init) (pc := 16) dX5_init_16 0 rfl rfl ?_
  refine V_iconst (κ := KX5_init) (pc := 17) dX5_init_17 ⟨by decide, by decide⟩ ?_
  refine V_putf 5 (κ := KX5_init) (pc := 18) rfl (by decide) rfl inX5 tyX5 tyX5_ok nmX5 2 (by decide) wd_212 rfl rfl (t := 0) rfl rfl dX5_init_18 fun u103 => ?_
  refine V_aload_n (κ := KX5_init) (pc := 21) dX5_init_21 0 rfl rfl ?_
  refine V_iconst (κ := KX5_init) (pc := 22) dX5_init_22 ⟨by decide, by decide⟩ ?_
  refine V_putf 5 (κ := KX5_init) (pc := 23) rfl (by decide) rfl inX5 tyX5 tyX5_ok nmX5 3 (by decide) wd_216 rfl rfl (t := 0) rfl rfl dX5_init_23 fun u104 => ?_
  refine V_aload_n (κ := KX5_init) (pc := 26) dX5_init_26 0 rfl rfl ?_
  refine V_iconst (κ := KX5_init) (pc := 27) dX5_init_27 ⟨by decide, by decide⟩ ?_
  refine V_anewarray 5 (by decide) (κ := KX5_init) (pc := 28) rfl rfl wd_154 (fun G s h => h.2.2.2.2.2.2.2.2.2.2.1) dX5_init_28 fun t105 u106 => ?_
  refine V_putfF rfl 5 (κ := KX5_init) (pc := 31) rfl (by decide) rfl inX5 tyX5 tyX5_ok nmX5 4 (by decide) wd_220 rfl rfl rfl (t := 2) rfl rfl dX5_init_31 fun u107 => ?_
  refine V_aload_n (κ := KX5_init) (pc := 34) dX5_init_34 0 rfl rfl ?_
  refine V_sipush (κ := KX5_init) (pc := 35) dX5_init_35 ⟨by decide, by decide⟩ (by decide) ?_
  refine V_newarray 1 (by decide) (κ := KX5_init) (pc := 38) rfl wd_73 dX5_init_38 fun t108 u109 => ?_
  refine V_putfF rfl 5 (κ := KX5_init) (pc := 40) rfl (by decide) rfl inX5 tyX5 tyX5_ok nmX5 5 (by decide) wd_224 rfl rfl rfl (t := 2) rfl rfl dX5_init_40 fun u110 => ?_
  refine V_aload_n (κ := KX5_init) (pc := 43) dX5_init_43 0 rfl rfl ?_
  refine V_sipush (κ := KX5_init) (pc := 44) dX5_init_44 ⟨by decide, by decide⟩ (by decide) ?_
  refine V_newarray 1 (by decide) (κ := KX5_init) (pc := 47) rfl wd_73 dX5_init_47 fun t111 u112 => ?_
  refine V_putfF rfl 5 (κ := KX5_init) (pc := 49) rfl (by decide) rfl inX5 tyX5 tyX5_ok nmX5 6 (by decide) wd_228 rfl rfl rfl (t := 2) rfl rfl dX5_init_49 fun u113 => ?_
  refine V_iconst (κ := KX5_init) (pc := 52) dX5_init_52 ⟨by decide, by decide⟩ ?_
  refine V_istore_n (κ := KX5_init) (pc := 53) (lv' := [(1, (0, 0)), (0, (2, x0))]) dX5_init_53 (by decide) rfl ?_
  refine V_sub (lv' := [(0, (2, x0)), (1, (0, 0))]) [1, 0] rfl ?_
  exact VLX5_init_54 FU _ _ _
theorem con_X5_init (a0 : Int) (μ : Mem) : Con (2) yX5_init (.code yX5_init cX5_init 2 none) 9 [(2, a0)] μ (FX5_init a0 μ) := Con_intro KX5_init (plainFor_of_name (by decide)) rfl (fun h => rfl) (by decide) rfl (Nat.le_of_ble_eq_true rfl) (fun Γ => VBX5_init_0 _ _)
abbrev KX6_init : Kap := (RX6, cX6_init, 2, 3, 9, none, true, [])
theorem VBX6_init_66 {Γ : Gam} {k66 : Int → Int → Mem → Rz} (hk66 : ∀ (y0 y1 : Int) (ν : Mem), V Γ KX6_init 66 [(0, (2, y0)), (1, (0, y1))] [] ν (k66 y0 y1 ν)) (x0 x1 : Int) (μ : Mem) : V Γ KX6_init 66 [(0, (2, x0)), (1, (0, x1))] [] μ (BX6_init_66 k66 x0 x1 μ) := by
  unfold BX6_init_66
  refine V_iload_n (κ := KX6_init) (pc := 66) dX6_init_66 1 rfl ?_
  refine V_bipush (κ := KX6_init) (pc := 67) dX6_init_67 ⟨by decide, by decide⟩ (by decide) ?_
  refine V_icmp_ge (κ := KX6_init) (pc := 69) (tgt := 91) dX6_init_69 rfl ?_ ?_
  · refine V_aload_n (κ := KX6_init) (pc := 91) dX6_init_91 0 rfl rfl ?_
    refine V_aload_n (κ := KX6_init) (pc := 92) dX6_init_92 0 rfl rfl ?_
    refine V_getf 6 (κ := KX6_init) (pc := 93) rfl (by decide) rfl inX6 3 (by decide) wd_247 rfl (t := 2) rfl dX6_init_93 fun t101 => ?_
    refine V_aload_n (κ := KX6_init) (pc := 96) dX6_init_96 0 rfl rfl ?_
    refine V_getf 6 (κ := KX6_init) (pc := 97) rfl (by decide) rfl inX6 4 (by decide) wd_248 rfl (t := 0) rfl dX6_init_97 fun t102 => ?_
    refine V_aaload 4 (by decide) rfl rfl (κ := KX6_init) (pc := 100) dX6_init_100 fun t103 => ?_
    refine V_putf 6 (κ := KX6_init) (pc := 101) rfl (by decide) rfl inX6 tyX6 tyX6_ok nmX6 6 (by decide) wd_250 rfl rfl (t := 2) rfl rfl dX6_init_101 fun u104 => ?_
    exact V_vreturn (κ := KX6_init) (pc := 104) rfl rfl dX6_init_104
  refine V_aload_n (κ := KX6_init) (pc := 72) dX6_init_72 0 rfl rfl ?_
  refine V_getf 6 (κ := KX6_init) (pc := 73) rfl (by decide) rfl inX6 3 (by decide) wd_247 rfl (t := 2) rfl dX6_init_73 fun t105 => ?_
  refine V_iload_n (κ := KX6_init) (pc := 76) dX6_init_76 1 rfl ?_
  refine V_new 5 (κ := KX6_init) (pc := 77) rfl (by decide) rfl rfl inX5 tyX5 tyX5_ok (by decide) wd_39 wd_149 wd_23 dX6_init_77 fun t106 u107 => ?_
  refine V_dup (κ := KX6_init) (pc := 80) rfl dX6_init_80 ?_
  refine V_callI (ci := 5) (by decide) (κ := KX6_init) (pc := 81) (con_X5_init _ _) mth_X5_init rfl wd_151 wd_150 (st0 := [(2, t106), (0, x1), (2, t105)]) rfl rfl (by decide) (Nat.le_of_ble_eq_true rfl) dX6_init_81 (fun _ _ _ h => VX_out rfl (by decide) h) fun _ u109 => ?_
  refine V_aastore 4 5 (by decide) (by decide) rfl (T := TX5) (N := 7) rfl rfl (κ := KX6_init) (pc := 84) dX6_init_84 fun u110 => ?_
  refine V_iinc (κ := KX6_init) (pc := 85) (lv' := [(1, (0, w32 (x1 + 1))), (0, (2, x0))]) dX6_init_85 1 rfl (by decide) rfl ?_
  refine V_goto (κ := KX6_init) (pc := 88) (tgt := 66) dX6_init_88 rfl ?_
  refine V_sub (lv' := [(0, (2, x0)), (1, (0, w32 (x1 + 1)))]) [1, 0] rfl ?_
  exact hk66 _ _ _
theorem VLX6_init_66 {Γ : Gam} : ∀ (n : Nat) (x0 x1 : Int) (μ : Mem), V Γ KX6_init 66 [(0, (2, x0)), (1, (0, x1))] [] μ (LX6_init_66 n x0 x1 μ)
  | 0, _, _, _ => V_none
  | n + 1, x0, x1, μ => VBX6_init_66 (fun y0 y1 ν => VLX6_init_66 n y0 y1 ν) x0 x1 μ
theorem VBX6_init_0 {Γ : Gam} (x0 : Int) (μ : Mem) : V Γ KX6_init 0 [(0, (2, x0))] [] μ (BX6_init_0 x0 μ) := by
  unfold BX6_init_0
  refine V_aload_n (κ := KX6_init) (pc := 0) dX6_init_0 0 rfl rfl ?_
  refine V_objInit (κ := KX6_init) (pc := 1) (by decide) wd_36 wd_37 wd_38 (Nat.le_of_ble_eq_true rfl) dX6_init_1 (ci := 0) ?_
  refine V_aload_n (κ := KX6_init) (pc := 4) dX6_init_4 0 rfl rfl ?_
  refine V_sipush (κ := KX6_init) (pc := 5) dX6_init_5 ⟨by decide, by decide⟩ (by decide) ?_
  refine V_newarray 0 (by decide) (κ := KX6_init) (pc := 8) rfl wd_72 dX6_init_8 fun t101 u102 => ?_
  refine V_putfF rfl 6 (κ := KX6_init) (pc := 10) rfl (by decide) rfl inX6 tyX6 tyX6_ok nmX6 0 (by decide) wd_244 rfl rfl rfl (t := 2) rfl rfl dX6_init_10 fun u103 => ?_
  refine V_aload_n (κ := KX6_init) (pc := 13) dX6_init_13 0 rfl rfl ?_
  refine V_iconst (κ := KX6_init) (pc := 14) dX6_init_14 ⟨by decide, by decide⟩ ?_
  refine V_putf 6 (κ := KX6_init) (pc := 15) rfl (by decide) rfl inX6 tyX6 tyX6_ok nmX6 1 (by decide) wd_245 rfl rfl (t := 0) rfl rfl dX6_init_15 fun u104 => ?_
  refine V_aload_n (κ := KX6_init) (pc := 18) dX6_init_18 0 rfl rfl ?_
  refine V_iconst (κ := KX6_init) (pc := 19) dX6_init_19 ⟨by decide, by decide⟩ ?_
  refine V_putf 6 (κ := KX6_init) (pc := 20) rfl (by decide) rfl inX6 tyX6 tyX6_ok nmX6 2 (by decide) wd_246 rfl rfl (t := 0) rfl rfl dX6_init_20 fun u105 => ?_
  refine V_aload_n (κ := KX6_init) (pc := 23) dX6_init_23 0 rfl rfl ?_
  refine V_bipush (κ := KX6_init) (pc := 24) dX6_init_24 ⟨by decide, by decide⟩ (by decide) ?_
  refine V_anewarray 4 (by decide) (κ := KX6_init) (pc := 26) rfl rfl wd_39 (fun G s h => h.2.2.2.2.2.2.2.2.2.1) dX6_init_26 fun t106 u107 => ?_
  refine V_putfF rfl 6 (κ := KX6_init) (pc := 29) rfl (by decide) rfl inX6 tyX6 tyX6_ok nmX6 3 (by decide) wd_247 rfl rfl rfl (t := 2) rfl rfl dX6_init_29 fun u108 => ?_
  refine V_aload_n (κ := KX6_init) (pc := 32) dX6_init_32 0 rfl rfl ?_
  refine V_iconst (κ := KX6_init) (pc := 33) dX6_init_33 ⟨by decide, by decide⟩ ?_
  refine V_putf 6 (κ := KX6_init) (pc := 34) rfl (by decide) rfl inX6 tyX6 tyX6_ok nmX6 4 (by decide) wd_248 rfl rfl (t := 0) rfl rfl dX6_init_34 fun u109 => ?_
  refine V_aload_n (κ := KX6_init) (pc := 37) dX6_init_37 0 rfl rfl ?_
  refine V_iconst (κ := KX6_init) (pc := 38) dX6_init_38 ⟨by decide, by decide⟩ ?_
  refine V_putf 6 (κ := KX6_init) (pc := 39) rfl (by decide) rfl inX6 tyX6 tyX6_ok nmX6 5 (by decide) wd_249 rfl rfl (t := 0) rfl rfl dX6_init_39 fun u110 => ?_
  refine V_aload_n (κ := KX6_init) (pc := 42) dX6_init_42 0 rfl rfl ?_
  refine V_new 2 (κ := KX6_init) (pc := 43) rfl (by decide) rfl rfl inX2 tyX2 tyX2_ok (by decide) wd_41 wd_42 wd_20 dX6_init_43 fun t111 u112 => ?_
  refine V_dup (κ := KX6_init) (pc := 46) rfl dX6_init_46 ?_
  refine V_callI (ci := 2) (by decide) (κ := KX6_init) (pc := 47) (con_X2_init _ _) mth_X2_init rfl wd_44 wd_43 (st0 := [(2, t111), (2, x0)]) rfl rfl (by decide) (Nat.le_of_ble_eq_true rfl) dX6_init_47 (fun _ _ _ h => VX_out rfl (by decide) h) fun _ u114 => ?_
  refine V_putfF rfl 6 (κ := KX6_init) (pc := 50) rfl (by decide) rfl inX6 tyX6 tyX6_ok nmX6 7 (by decide) wd_251 rfl rfl rfl (t := 2) rfl rfl dX6_init_50 fun u115 => ?_
  refine V_aload_n (κ := KX6_init) (pc := 53) dX6_init_53 0 rfl rfl ?_
  refine V_new 4 (κ := KX6_init) (pc := 54) rfl (by decide) rfl rfl inX4 tyX4 tyX4_ok (by decide) wd_101 wd_102 wd_22 dX6_init_54 fun t116 u117 => ?_
  refine V_dup (κ := KX6_init) (pc := 57) rfl dX6_init_57 ?_
  refine V_callIN (host := "TonePlates") (ci := 4) (by decide) (κ := KX6_init) (pc := 58) (con_X4_init _ _) mth_X4_init rfl wd_104 (by decide) (st0 := [(2, t116), (2, x0)]) rfl rfl (by decide) (Nat.le_of_ble_eq_true rfl) dX6_init_58 (fun _ _ _ h => VX_out rfl (by decide) h) fun _ u119 => ?_
  refine V_putfF rfl 6 (κ := KX6_init) (pc := 61) rfl (by decide) rfl inX6 tyX6 tyX6_ok nmX6 8 (by decide) wd_252 rfl rfl rfl (t := 2) rfl rfl dX6_init_61 fun u120 => ?_
  refine V_iconst (κ := KX6_init) (pc := 64) dX6_init_64 ⟨by decide, by decide⟩ ?_
  refine V_istore_n (κ := KX6_init) (pc := 65) (lv' := [(1, (0, 0)), (0, (2, x0))]) dX6_init_65 (by decide) rfl ?_
  refine V_sub (lv' := [(0, (2, x0)), (1, (0, 0))]) [1, 0] rfl ?_
  exact VLX6_init_66 FU _ _ _
theorem con_X6_init (a0 : Int) (μ : Mem) : Con (3) yX6_init (.code yX6_init cX6_init 2 none) 9 [(2, a0)] μ (FX6_init a0 μ) := Con_intro KX6_init (plainFor_of_name (by decide)) rfl (fun h => rfl) (by decide) rfl (Nat.le_of_ble_eq_true rfl) (fun Γ => VBX6_init_0 _ _)
abbrev KX1_become : Kap := (RX1, cX1_become, 2, 1, 9, none, false, [])
theorem VBX1_become_0 {Γ : Gam} (x0 x1 : Int) (μ : Mem) : V Γ KX1_become 0 [(0, (2, x0)), (1, (2, x1))] [] μ (BX1_become_0 x0 x1 μ) := by
  unfold BX1_become_0
  refine V_aload_n (κ := KX1_become) (pc := 0) dX1_become_0 0 rfl rfl ?_
  refine V_aload_n (κ := KX1_become) (pc := 1) dX1_become_1 1 rfl rfl ?_
  refine V_getf 1 (κ := KX1_become) (pc := 2) rfl (by decide) rfl inX1 0 (by decide) wd_161 rfl (t := 1) rfl dX1_become_2 fun t101 => ?_
  refine V_putf 1 (κ := KX1_become) (pc := 5) rfl (by decide) rfl inX1 tyX1 tyX1_ok nmX1 0 (by decide) wd_161 rfl rfl (t := 1) rfl rfl dX1_become_5 fun u102 => ?_
  refine V_aload_n (κ := KX1_become) (pc := 8) dX1_become_8 0 rfl rfl ?_
  refine V_aload_n (κ := KX1_become) (pc := 9) dX1_become_9 1 rfl rfl ?_
  refine V_getf 1 (κ := KX1_become) (pc := 10) rfl (by decide) rfl inX1 1 (by decide) wd_163 rfl (t := 0) rfl dX1_become_10 fun t103 => ?_
  refine V_putf 1 (κ := KX1_become) (pc := 13) rfl (by decide) rfl inX1 tyX1 tyX1_ok nmX1 1 (by decide) wd_163 rfl rfl (t := 0) rfl rfl dX1_become_13 fun u104 => ?_
  refine V_aload_n (κ := KX1_become) (pc := 16) dX1_become_16 0 rfl rfl ?_
  refine V_aload_n (κ := KX1_become) (pc := 17) dX1_become_17 1 rfl rfl ?_
  refine V_getf 1 (κ := KX1_become) (pc := 18) rfl (by decide) rfl inX1 2 (by decide) wd_166 rfl (t := 0) rfl dX1_become_18 fun t105 => ?_
  refine V_putf 1 (κ := KX1_become) (pc := 21) rfl (by decide) rfl inX1 tyX1 tyX1_ok nmX1 2 (by decide) wd_166 rfl rfl (t := 0) rfl rfl dX1_become_21 fun u106 => ?_
  refine V_aload_n (κ := KX1_become) (pc := 24) dX1_become_24 0 rfl rfl ?_
  refine V_aload_n (κ := KX1_become) (pc := 25) dX1_become_25 1 rfl rfl ?_
  refine V_getf 1 (κ := KX1_become) (pc := 26) rfl (by decide) rfl inX1 3 (by decide) wd_170 rfl (t := 0) rfl dX1_become_26 fun t107 => ?_
  refine V_putf 1 (κ := KX1_become) (pc := 29) rfl (by decide) rfl inX1 tyX1 tyX1_ok nmX1 3 (by decide) wd_170 rfl rfl (t := 0) rfl rfl dX1_become_29 fun u108 => ?_
  refine V_aload_n (κ := KX1_become) (pc := 32) dX1_become_32 0 rfl rfl ?_
  refine V_aload_n (κ := KX1_become) (pc := 33) dX1_become_33 1 rfl rfl ?_
  refine V_getf 1 (κ := KX1_become) (pc := 34) rfl (by decide) rfl inX1 4 (by decide) wd_173 rfl (t := 0) rfl dX1_become_34 fun t109 => ?_
  refine V_putf 1 (κ := KX1_become) (pc := 37) rfl (by decide) rfl inX1 tyX1 tyX1_ok nmX1 4 (by decide) wd_173 rfl rfl (t := 0) rfl rfl dX1_become_37 fun u110 => ?_
  refine V_aload_n (κ := KX1_become) (pc := 40) dX1_become_40 0 rfl rfl ?_
  refine V_aload_n (κ := KX1_become) (pc := 41) dX1_become_41 1 rfl rfl ?_
  refine V_getf 1 (κ := KX1_become) (pc := 42) rfl (by decide) rfl inX1 5 (by decide) wd_177 rfl (t := 0) rfl dX1_become_42 fun t111 => ?_
  refine V_putf 1 (κ := KX1_become) (pc := 45) rfl (by decide) rfl inX1 tyX1 tyX1_ok nmX1 5 (by decide) wd_177 rfl rfl (t := 0) rfl rfl dX1_become_45 fun u112 => ?_
  refine V_aload_n (κ := KX1_become) (pc := 48) dX1_become_48 0 rfl rfl ?_
  refine V_aload_n (κ := KX1_become) (pc := 49) dX1_become_49 1 rfl rfl ?_
  refine V_getf 1 (κ := KX1_become) (pc := 50) rfl (by decide) rfl inX1 6 (by decide) wd_181 rfl (t := 0) rfl dX1_become_50 fun t113 => ?_
  refine V_putf 1 (κ := KX1_become) (pc := 53) rfl (by decide) rfl inX1 tyX1 tyX1_ok nmX1 6 (by decide) wd_181 rfl rfl (t := 0) rfl rfl dX1_become_53 fun u114 => ?_
  refine V_aload_n (κ := KX1_become) (pc := 56) dX1_become_56 0 rfl rfl ?_
  refine V_aload_n (κ := KX1_become) (pc := 57) dX1_become_57 1 rfl rfl ?_
  refine V_getf 1 (κ := KX1_become) (pc := 58) rfl (by decide) rfl inX1 7 (by decide) wd_184 rfl (t := 2) rfl dX1_become_58 fun t115 => ?_
  refine V_putf 1 (κ := KX1_become) (pc := 61) rfl (by decide) rfl inX1 tyX1 tyX1_ok nmX1 7 (by decide) wd_184 rfl rfl (t := 2) rfl rfl dX1_become_61 fun u116 => ?_
  exact V_vreturn (κ := KX1_become) (pc := 64) rfl rfl dX1_become_64
theorem con_X1_become (a0 a1 : Int) (μ : Mem) : Con (1) yX1_become (.code yX1_become cX1_become 2 none) 9 [(2, a0), (2, a1)] μ (FX1_become a0 a1 μ) := Con_intro KX1_become (plainFor_of_name (by decide)) rfl (fun h => by cases h) (by decide) rfl (Nat.le_of_ble_eq_true rfl) (fun Γ => VBX1_become_0 _ _ _)
abbrev KX5_become : Kap := (RX5, cX5_become, 3, 2, 9, none, false, [])
theorem VBX5_become_34 {Γ : Gam} {k34 : Int → Int → Int → Mem → Rz} (hk34 : ∀ (y0 y1 y2 : Int) (ν : Mem), V Γ KX5_become 34 [(0, (2, y0)), (1, (2, y1)), (2, (0, y2))] [] ν (k34 y0 y1 y2 ν)) (x0 x1 x2 : Int) (μ : Mem) : V Γ KX5_become 34 [(0, (2, x0)), (1, (2, x1)), (2, (0, x2))] [] μ (BX5_become_34 k34 x0 x1 x2 μ) := by
  unfold BX5_become_34
  refine V_iload_n (κ := KX5_become) (pc := 34) dX5_become_34 2 rfl ?_
  refine V_aload_n (κ := KX5_become) (pc := 35) dX5_become_35 0 rfl rfl ?_
  refine V_getf 5 (κ := KX5_become) (pc := 36) rfl (by decide) rfl inX5 3 (by decide) wd_216 rfl (t := 0) rfl dX5_become_36 fun t101 => ?_
  refine V_icmp_ge (κ := KX5_become) (pc := 39) (tgt := 63) dX5_become_39 rfl ?_ ?_
  · refine V_aload_n (κ := KX5_become) (pc := 63) dX5_become_63 1 rfl rfl ?_
    refine V_getf 5 (κ := KX5_become) (pc := 64) rfl (by decide) rfl inX5 5 (by decide) wd_224 rfl (t := 2) rfl dX5_become_64 fun t102 => ?_
    refine V_iconst (κ := KX5_become) (pc := 67) dX5_become_67 ⟨by decide, by decide⟩ ?_
    refine V_aload_n (κ := KX5_become) (pc := 68) dX5_become_68 0 rfl rfl ?_
    refine V_getf 5 (κ := KX5_become) (pc := 69) rfl (by decide) rfl inX5 5 (by decide) wd_224 rfl (t := 2) rfl dX5_become_69 fun t103 => ?_
    refine V_iconst (κ := KX5_become) (pc := 72) dX5_become_72 ⟨by decide, by decide⟩ ?_
    refine V_sipush (κ := KX5_become) (pc := 73) dX5_become_73 ⟨by decide, by decide⟩ (by decide) ?_
    refine V_acopy (κ := KX5_become) (pc := 76) (by decide) wd_494 wd_496 wd_495 wd_8 (by first | decide | (simp [nativeFrameWords, catA]; done) | exact Nat.le_of_ble_eq_true rfl) dX5_become_76 fun u104 => ?_
    refine V_aload_n (κ := KX5_become) (pc := 79) dX5_become_79 1 rfl rfl ?_
    refine V_getf 5 (κ := KX5_become) (pc := 80) rfl (by decide) rfl inX5 6 (by decide) wd_228 rfl (t := 2) rfl dX5_become_80 fun t105 => ?_
    refine V_iconst (κ := KX5_become) (pc := 83) dX5_become_83 ⟨by decide, by decide⟩ ?_
    refine V_aload_n (κ := KX5_become) (pc := 84) dX5_become_84 0 rfl rfl ?_
    refine V_getf 5 (κ := KX5_become) (pc := 85) rfl (by decide) rfl inX5 6 (by decide) wd_228 rfl (t := 2) rfl dX5_become_85 fun t106 => ?_
    refine V_iconst (κ := KX5_become) (pc := 88) dX5_become_88 ⟨by decide, by decide⟩ ?_
    refine V_sipush (κ := KX5_become) (pc := 89) dX5_become_89 ⟨by decide, by decide⟩ (by decide) ?_
    refine V_acopy (κ := KX5_become) (pc := 92) (by decide) wd_494 wd_496 wd_495 wd_8 (by first | decide | (simp [nativeFrameWords, catA]; done) | exact Nat.le_of_ble_eq_true rfl) dX5_become_92 fun u107 => ?_
    exact V_vreturn (κ := KX5_become) (pc := 95) rfl rfl dX5_become_95
  refine V_aload_n (κ := KX5_become) (pc := 42) dX5_become_42 0 rfl rfl ?_
  refine V_getf 5 (κ := KX5_become) (pc := 43) rfl (by decide) rfl inX5 4 (by decide) wd_220 rfl (t := 2) rfl dX5_become_43 fun t108 => ?_
  refine V_iload_n (κ := KX5_become) (pc := 46) dX5_become_46 2 rfl ?_
  refine V_aaload 5 (by decide) rfl rfl (κ := KX5_become) (pc := 47) dX5_become_47 fun t109 => ?_
  refine V_aload_n (κ := KX5_become) (pc := 48) dX5_become_48 1 rfl rfl ?_
  refine V_getf 5 (κ := KX5_become) (pc := 49) rfl (by decide) rfl inX5 4 (by decide) wd_220 rfl (t := 2) rfl dX5_become_49 fun t110 => ?_
  refine V_iload_n (κ := KX5_become) (pc := 52) dX5_become_52 2 rfl ?_
  refine V_aaload 5 (by decide) rfl rfl (κ := KX5_become) (pc := 53) dX5_become_53 fun t111 => ?_
  refine V_callV (ci := 1) (T := TX1) (N := 8) rfl (by decide) (κ := KX5_become) (pc := 54) (con_X1_become _ _ _) mth_X1_become rfl ⟨wd_491, wd_492⟩ wd_490 (st0 := []) rfl rfl (by decide) (Nat.le_of_ble_eq_true rfl) dX5_become_54 (fun _ _ _ h => VX_out rfl (by decide) h) fun _ u113 => ?_
  refine V_iinc (κ := KX5_become) (pc := 57) (lv' := [(2, (0, w32 (x2 + 1))), (0, (2, x0)), (1, (2, x1))]) dX5_become_57 2 rfl (by decide) rfl ?_
  refine V_goto (κ := KX5_become) (pc := 60) (tgt := 34) dX5_become_60 rfl ?_
  refine V_sub (lv' := [(0, (2, x0)), (1, (2, x1)), (2, (0, w32 (x2 + 1)))]) [1, 2, 0] rfl ?_
  exact hk34 _ _ _ _
theorem VLX5_become_34 {Γ : Gam} : ∀ (n : Nat) (x0 x1 x2 : Int) (μ : Mem), V Γ KX5_become 34 [(0, (2, x0)), (1, (2, x1)), (2, (0, x2))] [] μ (LX5_become_34 n x0 x1 x2 μ)
  | 0, _, _, _, _ => V_none
  | n + 1, x0, x1, x2, μ => VBX5_become_34 (fun y0 y1 y2 ν => VLX5_become_34 n y0 y1 y2 ν) x0 x1 x2 μ
theorem VBX5_become_0 {Γ : Gam} (x0 x1 : Int) (μ : Mem) : V Γ KX5_become 0 [(0, (2, x0)), (1, (2, x1))] [] μ (BX5_become_0 x0 x1 μ) := by
  unfold BX5_become_0
  refine V_aload_n (κ := KX5_become) (pc := 0) dX5_become_0 0 rfl rfl ?_
  refine V_aload_n (κ := KX5_become) (pc := 1) dX5_become_1 1 rfl rfl ?_
  refine V_getf 5 (κ := KX5_become) (pc := 2) rfl (by decide) rfl inX5 0 (by decide) wd_204 rfl (t := 0) rfl dX5_become_2 fun t101 => ?_
  refine V_putf 5 (κ := KX5_become) (pc := 5) rfl (by decide) rfl inX5 tyX5 tyX5_ok nmX5 0 (by decide) wd_204 rfl rfl (t := 0) rfl rfl dX5_become_5 fun u102 => ?_
  refine V_aload_n (κ := KX5_become) (pc := 8) dX5_become_8 0 rfl rfl ?_
  refine V_aload_n (κ := KX5_become) (pc := 9) dX5_become_9 1 rfl rfl ?_
  refine V_getf 5 (κ := KX5_become) (pc := 10) rfl (by decide) rfl inX5 1 (by decide) wd_208 rfl (t := 0) rfl dX5_become_10 fun t103 => ?_
  refine V_putf 5 (κ := KX5_become) (pc := 13) rfl (by decide) rfl inX5 tyX5 tyX5_ok nmX5 1 (by decide) wd_208 rfl rfl (t := 0) rfl rfl dX5_become_13 fun u104 => ?_
  refine V_aload_n (κ := KX5_become) (pc := 16) dX5_become_16 0 rfl rfl ?_
  refine V_aload_n (κ := KX5_become) (pc := 17) dX5_become_17 1 rfl rfl ?_
  refine V_getf 5 (κ := KX5_become) (pc := 18) rfl (by decide) rfl inX5 2 (by decide) wd_212 rfl (t := 0) rfl dX5_become_18 fun t105 => ?_
  refine V_putf 5 (κ := KX5_become) (pc := 21) rfl (by decide) rfl inX5 tyX5 tyX5_ok nmX5 2 (by decide) wd_212 rfl rfl (t := 0) rfl rfl dX5_become_21 fun u106 => ?_
  refine V_aload_n (κ := KX5_become) (pc := 24) dX5_become_24 0 rfl rfl ?_
  refine V_aload_n (κ := KX5_become) (pc := 25) dX5_become_25 1 rfl rfl ?_
  refine V_getf 5 (κ := KX5_become) (pc := 26) rfl (by decide) rfl inX5 3 (by decide) wd_216 rfl (t := 0) rfl dX5_become_26 fun t107 => ?_
  refine V_putf 5 (κ := KX5_become) (pc := 29) rfl (by decide) rfl inX5 tyX5 tyX5_ok nmX5 3 (by decide) wd_216 rfl rfl (t := 0) rfl rfl dX5_become_29 fun u108 => ?_
  refine V_iconst (κ := KX5_become) (pc := 32) dX5_become_32 ⟨by decide, by decide⟩ ?_
  refine V_istore_n (κ := KX5_become) (pc := 33) (lv' := [(2, (0, 0)), (0, (2, x0)), (1, (2, x1))]) dX5_become_33 (by decide) rfl ?_
  refine V_sub (lv' := [(0, (2, x0)), (1, (2, x1)), (2, (0, 0))]) [1, 2, 0] rfl ?_
  exact VLX5_become_34 FU _ _ _ _
theorem con_X5_become (a0 a1 : Int) (μ : Mem) : Con (2) yX5_become (.code yX5_become cX5_become 3 none) 9 [(2, a0), (2, a1)] μ (FX5_become a0 a1 μ) := Con_intro KX5_become (plainFor_of_name (by decide)) rfl (fun h => by cases h) (by decide) rfl (Nat.le_of_ble_eq_true rfl) (fun Γ => VBX5_become_0 _ _ _)
abbrev KX6_startChange : Kap := (RX6, cX6_startChange, 1, 6, 9, none, false, [])
theorem VBX6_startChange_0 {Γ : Gam} (x0 : Int) (μ : Mem) : V Γ KX6_startChange 0 [(0, (2, x0))] [] μ (BX6_startChange_0 x0 μ) := by
  unfold BX6_startChange_0
  refine V_aload_n (κ := KX6_startChange) (pc := 0) dX6_startChange_0 0 rfl rfl ?_
  refine V_callV (ci := 6) (T := TX6) (N := 9) rfl (by decide) (κ := KX6_startChange) (pc := 1) (con_X6_draftSheet _ _) mth_X6_draftSheet rfl ⟨wd_484, wp_6⟩ wd_482 (st0 := []) rfl rfl (by decide) (Nat.le_of_ble_eq_true rfl) dX6_startChange_1 (fun _ _ _ h => VX_out rfl (by decide) h) fun t101 u102 => ?_
  refine V_aload_n (κ := KX6_startChange) (pc := 4) dX6_startChange_4 0 rfl rfl ?_
  refine V_getf 6 (κ := KX6_startChange) (pc := 5) rfl (by decide) rfl inX6 6 (by decide) wd_250 rfl (t := 2) rfl dX6_startChange_5 fun t103 => ?_
  refine V_callV (ci := 5) (T := TX5) (N := 7) rfl (by decide) (κ := KX6_startChange) (pc := 8) (con_X5_become _ _ _) mth_X5_become rfl ⟨wd_487, wd_488⟩ wd_486 (st0 := []) rfl rfl (by decide) (Nat.le_of_ble_eq_true rfl) dX6_startChange_8 (fun _ _ _ h => VX_out rfl (by decide) h) fun _ u105 => ?_
  refine V_aload_n (κ := KX6_startChange) (pc := 11) dX6_startChange_11 0 rfl rfl ?_
  refine V_callV (ci := 6) (T := TX6) (N := 9) rfl (by decide) (κ := KX6_startChange) (pc := 12) (con_X6_useDraft _ _) mth_X6_useDraft rfl ⟨wd_499, wp_7⟩ wd_497 (st0 := []) rfl rfl (by decide) (Nat.le_of_ble_eq_true rfl) dX6_startChange_12 (fun _ _ _ h => VX_out rfl (by decide) h) fun _ u107 => ?_
  exact V_vreturn (κ := KX6_startChange) (pc := 15) rfl rfl dX6_startChange_15
theorem con_X6_startChange (a0 : Int) (μ : Mem) : Con (6) yX6_startChange (.code yX6_startChange cX6_startChange 1 none) 9 [(2, a0)] μ (FX6_startChange a0 μ) := Con_intro KX6_startChange (plainFor_of_name (by decide)) rfl (fun h => by cases h) (by decide) rfl (Nat.le_of_ble_eq_true rfl) (fun Γ => VBX6_startChange_0 _ _)
abbrev KX6_limit : Kap := (RX6, cX6_limit, 3, 7, 0, (some .int), false, [])
theorem VBX6_limit_10 {Γ : Gam} (μ : Mem) : V Γ KX6_limit 10 [] [] μ (BX6_limit_10 μ) := by
  unfold BX6_limit_10
  exact V_throw (κ := KX6_limit) (pc := 10) 2 (by decide) rfl thr_2 (tx := "dots is 1 to 4") (by decide) rfl (by decide) (by decide) dX6_limit_10 dX6_limit_13 dX6_limit_14 dX6_limit_16 dX6_limit_19
theorem VBX6_limit_0 {Γ : Gam} (x0 x1 : Int) (μ : Mem) : V Γ KX6_limit 0 [(0, (2, x0)), (1, (0, x1))] [] μ (BX6_limit_0 x0 x1 μ) := by
  unfold BX6_limit_0
  refine V_iload_n (κ := KX6_limit) (pc := 0) dX6_limit_0 1 rfl ?_
  refine V_iconst (κ := KX6_limit) (pc := 1) dX6_limit_1 ⟨by decide, by decide⟩ ?_
  refine V_icmp_lt (κ := KX6_limit) (pc := 2) (tgt := 10) dX6_limit_2 rfl ?_ ?_
  · refine V_sub (lv' := []) [] rfl ?_
    exact VBX6_limit_10 _
  refine V_iload_n (κ := KX6_limit) (pc := 5) dX6_limit_5 1 rfl ?_
  refine V_iconst (κ := KX6_limit) (pc := 6) dX6_limit_6 ⟨by decide, by decide⟩ ?_
  refine V_icmp_le (κ := KX6_limit) (pc := 7) (tgt := 20) dX6_limit_7 rfl ?_ ?_
  · refine V_aload_n (κ := KX6_limit) (pc := 20) dX6_limit_20 0 rfl rfl ?_
    refine V_callV (ci := 6) (T := TX6) (N := 9) rfl (by decide) (κ := KX6_limit) (pc := 21) (con_X6_startChange _ _) mth_X6_startChange rfl ⟨wd_480, wp_5⟩ wd_478 (st0 := []) rfl rfl (by decide) (Nat.le_of_ble_eq_true rfl) dX6_limit_21 (fun _ _ _ h => VX_out rfl (by decide) h) fun _ u102 => ?_
    refine V_aload_n (κ := KX6_limit) (pc := 24) dX6_limit_24 0 rfl rfl ?_
    refine V_getf 6 (κ := KX6_limit) (pc := 25) rfl (by decide) rfl inX6 6 (by decide) wd_250 rfl (t := 2) rfl dX6_limit_25 fun t103 => ?_
    refine V_getf 5 (κ := KX6_limit) (pc := 28) rfl (by decide) rfl inX5 2 (by decide) wd_213 rfl (t := 0) rfl dX6_limit_28 fun t104 => ?_
    refine V_istore_n (κ := KX6_limit) (pc := 31) (lv' := [(2, (0, t104)), (0, (2, x0)), (1, (0, x1))]) dX6_limit_31 (by decide) rfl ?_
    refine V_aload_n (κ := KX6_limit) (pc := 32) dX6_limit_32 1 rfl rfl ?_
    refine V_getf 6 (κ := KX6_limit) (pc := 33) rfl (by decide) rfl inX6 6 (by decide) wd_250 rfl (t := 2) rfl dX6_limit_33 fun t105 => ?_
    refine V_iload_n (κ := KX6_limit) (pc := 36) dX6_limit_36 2 rfl ?_
    refine V_putf 5 (κ := KX6_limit) (pc := 37) rfl (by decide) rfl inX5 tyX5 tyX5_ok nmX5 2 (by decide) wd_213 rfl rfl (t := 0) rfl rfl dX6_limit_37 fun u106 => ?_
    refine V_iload_n (κ := KX6_limit) (pc := 40) dX6_limit_40 0 rfl ?_
    exact V_ireturn (κ := KX6_limit) (pc := 41) rfl rfl dX6_limit_41
  refine V_sub (lv' := []) [] rfl ?_
  exact VBX6_limit_10 _
theorem con_X6_limit (a0 a1 : Int) (μ : Mem) : Con (7) yX6_limit (.code yX6_limit cX6_limit 3 (some .int)) 0 [(2, a0), (0, a1)] μ (FX6_limit a0 a1 μ) := Con_intro KX6_limit (plainFor_of_name (by decide)) rfl (fun h => by cases h) (by decide) rfl (Nat.le_of_ble_eq_true rfl) (fun Γ => VBX6_limit_0 _ _ _)
abbrev KX6_paint : Kap := (RX6, cX6_paint, 8, 10, 0, (some .int), false, [])
theorem VBX6_paint_44 {Γ : Gam} (μ : Mem) : V Γ KX6_paint 44 [] [] μ (BX6_paint_44 μ) := by
  unfold BX6_paint_44
  exact V_throw (κ := KX6_paint) (pc := 44) 2 (by decide) rfl thr_2 (tx := "the rectangle does not lie within the picture") (by decide) rfl (by decide) (by decide) dX6_paint_44 dX6_paint_47 dX6_paint_48 dX6_paint_50 dX6_paint_53
theorem VBX6_paint_66 {Γ : Gam} (μ : Mem) : V Γ KX6_paint 66 [] [] μ (BX6_paint_66 μ) := by
  unfold BX6_paint_66
  exact V_throw (κ := KX6_paint) (pc := 66) 2 (by decide) rfl thr_2 (tx := "tone is 0 to 100") (by decide) rfl (by decide) (by decide) dX6_paint_66 dX6_paint_69 dX6_paint_70 dX6_paint_72 dX6_paint_75
theorem VBX6_paint_95 {Γ : Gam} {k83 : Int → Int → Int → Int → Int → Int → Int → Mem → Rz} (hk83 : ∀ (y0 y1 y2 y3 y4 y5 y6 : Int) (ν : Mem), V Γ KX6_paint 83 [(0, (2, y0)), (1, (0, y1)), (2, (0, y2)), (3, (0, y3)), (4, (0, y4)), (5, (0, y5)), (6, (0, y6))] [] ν (k83 y0 y1 y2 y3 y4 y5 y6 ν)) {k95 : Int → Int → Int → Int → Int → Int → Int → Int → Mem → Rz} (hk95 : ∀ (y0 y1 y2 y3 y4 y5 y6 y7 : Int) (ν : Mem), V Γ KX6_paint 95 [(0, (2, y0)), (1, (0, y1)), (2, (0, y2)), (3, (0, y3)), (4, (0, y4)), (5, (0, y5)), (6, (0, y6)), (7, (0, y7))] [] ν (k95 y0 y1 y2 y3 y4 y5 y6 y7 ν)) (x0 x1 x2 x3 x4 x5 x6 x7 : Int) (μ : Mem) : V Γ KX6_paint 95 [(0, (2, x0)), (1, (0, x1)), (2, (0, x2)), (3, (0, x3)), (4, (0, x4)), (5, (0, x5)), (6, (0, x6)), (7, (0, x7))] [] μ (BX6_paint_95 k83 k95 x0 x1 x2 x3 x4 x5 x6 x7 μ) := by
  unfold BX6_paint_95
  refine V_iload (κ := KX6_paint) (pc := 95) dX6_paint_95 7 rfl ?_
  refine V_iload_n (κ := KX6_paint) (pc := 97) dX6_paint_97 1 rfl ?_
  refine V_iload_n (κ := KX6_paint) (pc := 98) dX6_paint_98 3 rfl ?_
  refine V_iadd (κ := KX6_paint) (pc := 99) dX6_paint_99 ?_
  refine V_icmp_ge (κ := KX6_paint) (pc := 100) (tgt := 130) dX6_paint_100 rfl ?_ ?_
  · refine V_iinc (κ := KX6_paint) (pc := 130) (lv' := [(6, (0, w32 (x6 + 1))), (0, (2, x0)), (1, (0, x1)), (2, (0, x2)), (3, (0, x3)), (4, (0, x4)), (5, (0, x5)), (7, (0, x7))]) dX6_paint_130 6 rfl (by decide) rfl ?_
    refine V_goto (κ := KX6_paint) (pc := 133) (tgt := 83) dX6_paint_133 rfl ?_
    refine V_sub (lv' := [(0, (2, x0)), (1, (0, x1)), (2, (0, x2)), (3, (0, x3)), (4, (0, x4)), (5, (0, x5)), (6, (0, w32 (x6 + 1)))]) [1, 2, 3, 4, 5, 6, 0] rfl ?_
    exact hk83 _ _ _ _ _ _ _ _
  refine V_aload_n (κ := KX6_paint) (pc := 103) dX6_paint_103 0 rfl rfl ?_
  refine V_getf 6 (κ := KX6_paint) (pc := 104) rfl (by decide) rfl inX6 6 (by decide) wd_250 rfl (t := 2) rfl dX6_paint_104 fun t101 => ?_
  refine V_getf 5 (κ := KX6_paint) (pc := 107) rfl (by decide) rfl inX5 5 (by decide) wd_227 rfl (t := 2) rfl dX6_paint_107 fun t102 => ?_
  refine V_aload_n (κ := KX6_paint) (pc := 110) dX6_paint_110 0 rfl rfl ?_
  refine V_getf 6 (κ := KX6_paint) (pc := 111) rfl (by decide) rfl inX6 6 (by decide) wd_250 rfl (t := 2) rfl dX6_paint_111 fun t103 => ?_
  refine V_iload (κ := KX6_paint) (pc := 114) dX6_paint_114 7 rfl ?_
  refine V_iload (κ := KX6_paint) (pc := 116) dX6_paint_116 6 rfl ?_
  refine V_callV (ci := 5) (T := TX5) (N := 7) rfl (by decide) (κ := KX6_paint) (pc := 118) (con_X5_indexOfCell _ _ _ _) mth_X5_indexOfCell rfl ⟨wd_351, wd_352⟩ wd_508 (st0 := [(2, t102)]) rfl rfl (by decide) (Nat.le_of_ble_eq_true rfl) dX6_paint_118 (fun _ _ _ h => VX_out rfl (by decide) h) fun t104 u105 => ?_
  refine V_iload (κ := KX6_paint) (pc := 121) dX6_paint_121 5 rfl ?_
  refine V_iastore (κ := KX6_paint) (pc := 123) dX6_paint_123 fun u106 => ?_
  refine V_iinc (κ := KX6_paint) (pc := 124) (lv' := [(7, (0, w32 (x7 + 1))), (0, (2, x0)), (1, (0, x1)), (2, (0, x2)), (3, (0, x3)), (4, (0, x4)), (5, (0, x5)), (6, (0, x6))]) dX6_paint_124 7 rfl (by decide) rfl ?_
  refine V_goto (κ := KX6_paint) (pc := 127) (tgt := 95) dX6_paint_127 rfl ?_
  refine V_sub (lv' := [(0, (2, x0)), (1, (0, x1)), (2, (0, x2)), (3, (0, x3)), (4, (0, x4)), (5, (0, x5)), (6, (0, x6)), (7, (0, w32 (x7 + 1)))]) [1, 2, 3, 4, 5, 6, 7, 0] rfl ?_
  exact hk95 _ _ _ _ _ _ _ _ _
theorem VLX6_paint_95 {Γ : Gam} {k83 : Int → Int → Int → Int → Int → Int → Int → Mem → Rz} (hk83 : ∀ (y0 y1 y2 y3 y4 y5 y6 : Int) (ν : Mem), V Γ KX6_paint 83 [(0, (2, y0)), (1, (0, y1)), (2, (0, y2)), (3, (0, y3)), (4, (0, y4)), (5, (0, y5)), (6, (0, y6))] [] ν (k83 y0 y1 y2 y3 y4 y5 y6 ν)) : ∀ (n : Nat) (x0 x1 x2 x3 x4 x5 x6 x7 : Int) (μ : Mem), V Γ KX6_paint 95 [(0, (2, x0)), (1, (0, x1)), (2, (0, x2)), (3, (0, x3)), (4, (0, x4)), (5, (0, x5)), (6, (0, x6)), (7, (0, x7))] [] μ (LX6_paint_95 k83 n x0 x1 x2 x3 x4 x5 x6 x7 μ)
  | 0, _, _, _, _, _, _, _, _, _ => V_none
  | n + 1, x0, x1, x2, x3, x4, x5, x6, x7, μ => VBX6_paint_95 hk83 (fun y0 y1 y2 y3 y4 y5 y6 y7 ν => VLX6_paint_95 hk83 n y0 y1 y2 y3 y4 y5 y6 y7 ν) x0 x1 x2 x3 x4 x5 x6 x7 μ
theorem VBX6_paint_83 {Γ : Gam} {k83 : Int → Int → Int → Int → Int → Int → Int → Mem → Rz} (hk83 : ∀ (y0 y1 y2 y3 y4 y5 y6 : Int) (ν : Mem), V Γ KX6_paint 83 [(0, (2, y0)), (1, (0, y1)), (2, (0, y2)), (3, (0, y3)), (4, (0, y4)), (5, (0, y5)), (6, (0, y6))] [] ν (k83 y0 y1 y2 y3 y4 y5 y6 ν)) (x0 x1 x2 x3 x4 x5 x6 : Int) (μ : Mem) : V Γ KX6_paint 83 [(0, (2, x0)), (1, (0, x1)), (2, (0, x2)), (3, (0, x3)), (4, (0, x4)), (5, (0, x5)), (6, (0, x6))] [] μ (BX6_paint_83 k83 x0 x1 x2 x3 x4 x5 x6 μ) := by
  unfold BX6_paint_83
  refine V_iload (κ := KX6_paint) (pc := 83) dX6_paint_83 6 rfl ?_
  refine V_iload_n (κ := KX6_paint) (pc := 85) dX6_paint_85 2 rfl ?_
  refine V_iload (κ := KX6_paint) (pc := 86) dX6_paint_86 4 rfl ?_
  refine V_iadd (κ := KX6_paint) (pc := 88) dX6_paint_88 ?_
  refine V_icmp_ge (κ := KX6_paint) (pc := 89) (tgt := 136) dX6_paint_89 rfl ?_ ?_
  · refine V_aload_n (κ := KX6_paint) (pc := 136) dX6_paint_136 0 rfl rfl ?_
    refine V_getf 6 (κ := KX6_paint) (pc := 137) rfl (by decide) rfl inX6 7 (by decide) wd_251 rfl (t := 2) rfl dX6_paint_137 fun t101 => ?_
    refine V_callV (ci := 2) (T := TX2) (N := 8) rfl (by decide) (κ := KX6_paint) (pc := 140) (con_X2_forgetTones _ _) mth_X2_forgetTones rfl ⟨wd_510, wd_511⟩ wd_509 (st0 := []) rfl rfl (by decide) (Nat.le_of_ble_eq_true rfl) dX6_paint_140 (fun _ _ _ h => VX_out rfl (by decide) h) fun _ u103 => ?_
    refine V_aload_n (κ := KX6_paint) (pc := 143) dX6_paint_143 0 rfl rfl ?_
    refine V_getf 6 (κ := KX6_paint) (pc := 144) rfl (by decide) rfl inX6 7 (by decide) wd_251 rfl (t := 2) rfl dX6_paint_144 fun t104 => ?_
    refine V_aload_n (κ := KX6_paint) (pc := 147) dX6_paint_147 0 rfl rfl ?_
    refine V_getf 6 (κ := KX6_paint) (pc := 148) rfl (by decide) rfl inX6 6 (by decide) wd_250 rfl (t := 2) rfl dX6_paint_148 fun t105 => ?_
    refine V_callV (ci := 2) (T := TX2) (N := 8) rfl (by decide) (κ := KX6_paint) (pc := 151) (con_X2_update _ _ _) mth_X2_update rfl ⟨wd_343, wd_344⟩ wd_342 (st0 := []) rfl rfl (by decide) (Nat.le_of_ble_eq_true rfl) dX6_paint_151 (fun _ _ _ h => VX_out rfl (by decide) h) fun _ u107 => ?_
    refine V_aload_n (κ := KX6_paint) (pc := 154) dX6_paint_154 0 rfl rfl ?_
    refine V_getf 6 (κ := KX6_paint) (pc := 155) rfl (by decide) rfl inX6 7 (by decide) wd_251 rfl (t := 2) rfl dX6_paint_155 fun t108 => ?_
    refine V_aload_n (κ := KX6_paint) (pc := 158) dX6_paint_158 0 rfl rfl ?_
    refine V_getf 6 (κ := KX6_paint) (pc := 159) rfl (by decide) rfl inX6 6 (by decide) wd_250 rfl (t := 2) rfl dX6_paint_159 fun t109 => ?_
    refine V_callV (ci := 2) (T := TX2) (N := 8) rfl (by decide) (κ := KX6_paint) (pc := 162) (con_X2_dotsOfAll _ _ _) mth_X2_dotsOfAll rfl ⟨wd_431, wd_432⟩ wd_430 (st0 := []) rfl rfl (by decide) (Nat.le_of_ble_eq_true rfl) dX6_paint_162 (fun _ _ _ h => VX_out rfl (by decide) h) fun t110 u111 => ?_
    exact V_ireturn (κ := KX6_paint) (pc := 165) rfl rfl dX6_paint_165
  refine V_iload_n (κ := KX6_paint) (pc := 92) dX6_paint_92 1 rfl ?_
  refine V_istore (κ := KX6_paint) (pc := 93) (lv' := [(7, (0, x1)), (0, (2, x0)), (1, (0, x1)), (2, (0, x2)), (3, (0, x3)), (4, (0, x4)), (5, (0, x5)), (6, (0, x6))]) dX6_paint_93 (by decide) rfl ?_
  refine V_sub (lv' := [(0, (2, x0)), (1, (0, x1)), (2, (0, x2)), (3, (0, x3)), (4, (0, x4)), (5, (0, x5)), (6, (0, x6)), (7, (0, x1))]) [1, 2, 3, 4, 5, 6, 7, 0] rfl ?_
  exact VLX6_paint_95 hk83 FU _ _ _ _ _ _ _ _ _
theorem VLX6_paint_83 {Γ : Gam} : ∀ (n : Nat) (x0 x1 x2 x3 x4 x5 x6 : Int) (μ : Mem), V Γ KX6_paint 83 [(0, (2, x0)), (1, (0, x1)), (2, (0, x2)), (3, (0, x3)), (4, (0, x4)), (5, (0, x5)), (6, (0, x6))] [] μ (LX6_paint_83 n x0 x1 x2 x3 x4 x5 x6 μ)
  | 0, _, _, _, _, _, _, _, _ => V_none
  | n + 1, x0, x1, x2, x3, x4, x5, x6, μ => VBX6_paint_83 (fun y0 y1 y2 y3 y4 y5 y6 ν => VLX6_paint_83 n y0 y1 y2 y3 y4 y5 y6 ν) x0 x1 x2 x3 x4 x5 x6 μ
theorem VBX6_paint_0 {Γ : Gam} (x0 x1 x2 x3 x4 x5 : Int) (μ : Mem) : V Γ KX6_paint 0 [(0, (2, x0)), (1, (0, x1)), (2, (0, x2)), (3, (0, x3)), (4, (0, x4)), (5, (0, x5))] [] μ (BX6_paint_0 x0 x1 x2 x3 x4 x5 μ) := by
  unfold BX6_paint_0
  refine V_aload_n (κ := KX6_paint) (pc := 0) dX6_paint_0 0 rfl rfl ?_
  refine V_iload_n (κ := KX6_paint) (pc := 1) dX6_paint_1 1 rfl ?_
  refine V_iload_n (κ := KX6_paint) (pc := 2) dX6_paint_2 2 rfl ?_
  refine V_callV (ci := 6) (T := TX6) (N := 9) rfl (by decide) (κ := KX6_paint) (pc := 3) (con_X6_requireCell _ _ _ _) mth_X6_requireCell rfl ⟨wd_458, wp_4⟩ wd_456 (st0 := []) rfl rfl (by decide) (Nat.le_of_ble_eq_true rfl) dX6_paint_3 (fun _ _ _ h => VX_out rfl (by decide) h) fun _ u102 => ?_
  refine V_iload_n (κ := KX6_paint) (pc := 6) dX6_paint_6 3 rfl ?_
  refine V_iconst (κ := KX6_paint) (pc := 7) dX6_paint_7 ⟨by decide, by decide⟩ ?_
  refine V_icmp_lt (κ := KX6_paint) (pc := 8) (tgt := 44) dX6_paint_8 rfl ?_ ?_
  · refine V_sub (lv' := []) [] rfl ?_
    exact VBX6_paint_44 _
  refine V_iload (κ := KX6_paint) (pc := 11) dX6_paint_11 4 rfl ?_
  refine V_iconst (κ := KX6_paint) (pc := 13) dX6_paint_13 ⟨by decide, by decide⟩ ?_
  refine V_icmp_lt (κ := KX6_paint) (pc := 14) (tgt := 44) dX6_paint_14 rfl ?_ ?_
  · refine V_sub (lv' := []) [] rfl ?_
    exact VBX6_paint_44 _
  refine V_iload_n (κ := KX6_paint) (pc := 17) dX6_paint_17 3 rfl ?_
  refine V_aload_n (κ := KX6_paint) (pc := 18) dX6_paint_18 0 rfl rfl ?_
  refine V_getf 6 (κ := KX6_paint) (pc := 19) rfl (by decide) rfl inX6 6 (by decide) wd_250 rfl (t := 2) rfl dX6_paint_19 fun t103 => ?_
  refine V_getf 5 (κ := KX6_paint) (pc := 22) rfl (by decide) rfl inX5 0 (by decide) wd_207 rfl (t := 0) rfl dX6_paint_22 fun t104 => ?_
  refine V_iload_n (κ := KX6_paint) (pc := 25) dX6_paint_25 1 rfl ?_
  refine V_isub (κ := KX6_paint) (pc := 26) dX6_paint_26 ?_
  refine V_icmp_gt (κ := KX6_paint) (pc := 27) (tgt := 44) dX6_paint_27 rfl ?_ ?_
  · refine V_sub (lv' := []) [] rfl ?_
    exact VBX6_paint_44 _
  refine V_iload (κ := KX6_paint) (pc := 30) dX6_paint_30 4 rfl ?_
  refine V_aload_n (κ := KX6_paint) (pc := 32) dX6_paint_32 0 rfl rfl ?_
  refine V_getf 6 (κ := KX6_paint) (pc := 33) rfl (by decide) rfl inX6 6 (by decide) wd_250 rfl (t := 2) rfl dX6_paint_33 fun t105 => ?_
  refine V_getf 5 (κ := KX6_paint) (pc := 36) rfl (by decide) rfl inX5 1 (by decide) wd_211 rfl (t := 0) rfl dX6_paint_36 fun t106 => ?_
  refine V_iload_n (κ := KX6_paint) (pc := 39) dX6_paint_39 2 rfl ?_
  refine V_isub (κ := KX6_paint) (pc := 40) dX6_paint_40 ?_
  refine V_icmp_le (κ := KX6_paint) (pc := 41) (tgt := 54) dX6_paint_41 rfl ?_ ?_
  · refine V_iload (κ := KX6_paint) (pc := 54) dX6_paint_54 5 rfl ?_
    refine V_if_lt (κ := KX6_paint) (pc := 56) (tgt := 66) dX6_paint_56 rfl ?_ ?_
    · refine V_sub (lv' := []) [] rfl ?_
      exact VBX6_paint_66 _
    refine V_iload (κ := KX6_paint) (pc := 59) dX6_paint_59 5 rfl ?_
    refine V_bipush (κ := KX6_paint) (pc := 61) dX6_paint_61 ⟨by decide, by decide⟩ (by decide) ?_
    refine V_icmp_le (κ := KX6_paint) (pc := 63) (tgt := 76) dX6_paint_63 rfl ?_ ?_
    · refine V_aload_n (κ := KX6_paint) (pc := 76) dX6_paint_76 0 rfl rfl ?_
      refine V_callV (ci := 6) (T := TX6) (N := 9) rfl (by decide) (κ := KX6_paint) (pc := 77) (con_X6_startChange _ _) mth_X6_startChange rfl ⟨wd_480, wp_5⟩ wd_478 (st0 := []) rfl rfl (by decide) (Nat.le_of_ble_eq_true rfl) dX6_paint_77 (fun _ _ _ h => VX_out rfl (by decide) h) fun _ u108 => ?_
      refine V_iload_n (κ := KX6_paint) (pc := 80) dX6_paint_80 2 rfl ?_
      refine V_istore (κ := KX6_paint) (pc := 81) (lv' := [(6, (0, x2)), (0, (2, x0)), (1, (0, x1)), (2, (0, x2)), (3, (0, x3)), (4, (0, x4)), (5, (0, x5))]) dX6_paint_81 (by decide) rfl ?_
      refine V_sub (lv' := [(0, (2, x0)), (1, (0, x1)), (2, (0, x2)), (3, (0, x3)), (4, (0, x4)), (5, (0, x5)), (6, (0, x2))]) [1, 2, 3, 4, 5, 6, 0] rfl ?_
      exact VLX6_paint_83 FU _ _ _ _ _ _ _ _
    refine V_sub (lv' := []) [] rfl ?_
    exact VBX6_paint_66 _
  refine V_sub (lv' := []) [] rfl ?_
  exact VBX6_paint_44 _
theorem con_X6_paint (a0 a1 a2 a3 a4 a5 : Int) (μ : Mem) : Con (10) yX6_paint (.code yX6_paint cX6_paint 8 (some .int)) 0 [(2, a0), (0, a1), (0, a2), (0, a3), (0, a4), (0, a5)] μ (FX6_paint a0 a1 a2 a3 a4 a5 μ) := Con_intro KX6_paint (plainFor_of_name (by decide)) rfl (fun h => by cases h) (by decide) rfl (Nat.le_of_ble_eq_true rfl) (fun Γ => VBX6_paint_0 _ _ _ _ _ _ _)
abbrev KX6_shape : Kap := (RX6, cX6_shape, 4, 7, 0, (some .int), false, [])
theorem VBX6_shape_14 {Γ : Gam} (μ : Mem) : V Γ KX6_shape 14 [] [] μ (BX6_shape_14 μ) := by
  unfold BX6_shape_14
  exact V_throw (κ := KX6_shape) (pc := 14) 2 (by decide) rfl thr_2 (tx := "shape is 0 to 3") (by decide) rfl (by decide) (by decide) dX6_shape_14 dX6_shape_17 dX6_shape_18 dX6_shape_20 dX6_shape_23
theorem VBX6_shape_0 {Γ : Gam} (x0 x1 x2 : Int) (μ : Mem) : V Γ KX6_shape 0 [(0, (2, x0)), (1, (0, x1)), (2, (0, x2))] [] μ (BX6_shape_0 x0 x1 x2 μ) := by
  unfold BX6_shape_0
  refine V_aload_n (κ := KX6_shape) (pc := 0) dX6_shape_0 0 rfl rfl ?_
  refine V_iload_n (κ := KX6_shape) (pc := 1) dX6_shape_1 1 rfl ?_
  refine V_callV (ci := 6) (T := TX6) (N := 9) rfl (by decide) (κ := KX6_shape) (pc := 2) (con_X6_requirePlate _ _ _) mth_X6_requirePlate rfl ⟨wd_519, wp_8⟩ wd_517 (st0 := []) rfl rfl (by decide) (Nat.le_of_ble_eq_true rfl) dX6_shape_2 (fun _ _ _ h => VX_out rfl (by decide) h) fun _ u102 => ?_
  refine V_iload_n (κ := KX6_shape) (pc := 5) dX6_shape_5 2 rfl ?_
  refine V_if_lt (κ := KX6_shape) (pc := 6) (tgt := 14) dX6_shape_6 rfl ?_ ?_
  · refine V_sub (lv' := []) [] rfl ?_
    exact VBX6_shape_14 _
  refine V_iload_n (κ := KX6_shape) (pc := 9) dX6_shape_9 2 rfl ?_
  refine V_iconst (κ := KX6_shape) (pc := 10) dX6_shape_10 ⟨by decide, by decide⟩ ?_
  refine V_icmp_le (κ := KX6_shape) (pc := 11) (tgt := 24) dX6_shape_11 rfl ?_ ?_
  · refine V_aload_n (κ := KX6_shape) (pc := 24) dX6_shape_24 0 rfl rfl ?_
    refine V_callV (ci := 6) (T := TX6) (N := 9) rfl (by decide) (κ := KX6_shape) (pc := 25) (con_X6_startChange _ _) mth_X6_startChange rfl ⟨wd_480, wp_5⟩ wd_478 (st0 := []) rfl rfl (by decide) (Nat.le_of_ble_eq_true rfl) dX6_shape_25 (fun _ _ _ h => VX_out rfl (by decide) h) fun _ u104 => ?_
    refine V_aload_n (κ := KX6_shape) (pc := 28) dX6_shape_28 0 rfl rfl ?_
    refine V_getf 6 (κ := KX6_shape) (pc := 29) rfl (by decide) rfl inX6 6 (by decide) wd_250 rfl (t := 2) rfl dX6_shape_29 fun t105 => ?_
    refine V_getf 5 (κ := KX6_shape) (pc := 32) rfl (by decide) rfl inX5 4 (by decide) wd_223 rfl (t := 2) rfl dX6_shape_32 fun t106 => ?_
    refine V_iload_n (κ := KX6_shape) (pc := 35) dX6_shape_35 1 rfl ?_
    refine V_aaload 5 (by decide) rfl rfl (κ := KX6_shape) (pc := 36) dX6_shape_36 fun t107 => ?_
    refine V_getf 1 (κ := KX6_shape) (pc := 37) rfl (by decide) rfl inX1 3 (by decide) wd_172 rfl (t := 0) rfl dX6_shape_37 fun t108 => ?_
    refine V_istore_n (κ := KX6_shape) (pc := 40) (lv' := [(3, (0, t108)), (0, (2, x0)), (1, (0, x1)), (2, (0, x2))]) dX6_shape_40 (by decide) rfl ?_
    refine V_aload_n (κ := KX6_shape) (pc := 41) dX6_shape_41 1 rfl rfl ?_
    refine V_getf 6 (κ := KX6_shape) (pc := 42) rfl (by decide) rfl inX6 6 (by decide) wd_250 rfl (t := 2) rfl dX6_shape_42 fun t109 => ?_
    refine V_getf 5 (κ := KX6_shape) (pc := 45) rfl (by decide) rfl inX5 4 (by decide) wd_223 rfl (t := 2) rfl dX6_shape_45 fun t110 => ?_
    refine V_iload_n (κ := KX6_shape) (pc := 48) dX6_shape_48 2 rfl ?_
    refine V_aaload 5 (by decide) rfl rfl (κ := KX6_shape) (pc := 49) dX6_shape_49 fun t111 => ?_
    refine V_iload_n (κ := KX6_shape) (pc := 50) dX6_shape_50 3 rfl ?_
    refine V_putf 1 (κ := KX6_shape) (pc := 51) rfl (by decide) rfl inX1 tyX1 tyX1_ok nmX1 3 (by decide) wd_172 rfl rfl (t := 0) rfl rfl dX6_shape_51 fun u112 => ?_
    refine V_iload_n (κ := KX6_shape) (pc := 54) dX6_shape_54 0 rfl ?_
    exact V_ireturn (κ := KX6_shape) (pc := 55) rfl rfl dX6_shape_55
  refine V_sub (lv' := []) [] rfl ?_
  exact VBX6_shape_14 _
theorem con_X6_shape (a0 a1 a2 : Int) (μ : Mem) : Con (7) yX6_shape (.code yX6_shape cX6_shape 4 (some .int)) 0 [(2, a0), (0, a1), (0, a2)] μ (FX6_shape a0 a1 a2 μ) := Con_intro KX6_shape (plainFor_of_name (by decide)) rfl (fun h => by cases h) (by decide) rfl (Nat.le_of_ble_eq_true rfl) (fun Γ => VBX6_shape_0 _ _ _ _)
abbrev KX6_shift : Kap := (RX6, cX6_shift, 4, 10, 0, (some .int), false, [])
theorem VBX6_shift_25 {Γ : Gam} (μ : Mem) : V Γ KX6_shift 25 [] [] μ (BX6_shift_25 μ) := by
  unfold BX6_shift_25
  exact V_throw (κ := KX6_shift) (pc := 25) 2 (by decide) rfl thr_2 (tx := "dx and dy are 0 to 17") (by decide) rfl (by decide) (by decide) dX6_shift_25 dX6_shift_28 dX6_shift_29 dX6_shift_31 dX6_shift_34
theorem VBX6_shift_0 {Γ : Gam} (x0 x1 x2 x3 : Int) (μ : Mem) : V Γ KX6_shift 0 [(0, (2, x0)), (1, (0, x1)), (2, (0, x2)), (3, (0, x3))] [] μ (BX6_shift_0 x0 x1 x2 x3 μ) := by
  unfold BX6_shift_0
  refine V_aload_n (κ := KX6_shift) (pc := 0) dX6_shift_0 0 rfl rfl ?_
  refine V_iload_n (κ := KX6_shift) (pc := 1) dX6_shift_1 1 rfl ?_
  refine V_callV (ci := 6) (T := TX6) (N := 9) rfl (by decide) (κ := KX6_shift) (pc := 2) (con_X6_requirePlate _ _ _) mth_X6_requirePlate rfl ⟨wd_519, wp_8⟩ wd_517 (st0 := []) rfl rfl (by decide) (Nat.le_of_ble_eq_true rfl) dX6_shift_2 (fun _ _ _ h => VX_out rfl (by decide) h) fun _ u102 => ?_
  refine V_iload_n (κ := KX6_shift) (pc := 5) dX6_shift_5 2 rfl ?_
  refine V_if_lt (κ := KX6_shift) (pc := 6) (tgt := 25) dX6_shift_6 rfl ?_ ?_
  · refine V_sub (lv' := []) [] rfl ?_
    exact VBX6_shift_25 _
  refine V_iload_n (κ := KX6_shift) (pc := 9) dX6_shift_9 2 rfl ?_
  refine V_bipush (κ := KX6_shift) (pc := 10) dX6_shift_10 ⟨by decide, by decide⟩ (by decide) ?_
  refine V_icmp_gt (κ := KX6_shift) (pc := 12) (tgt := 25) dX6_shift_12 rfl ?_ ?_
  · refine V_sub (lv' := []) [] rfl ?_
    exact VBX6_shift_25 _
  refine V_iload_n (κ := KX6_shift) (pc := 15) dX6_shift_15 3 rfl ?_
  refine V_if_lt (κ := KX6_shift) (pc := 16) (tgt := 25) dX6_shift_16 rfl ?_ ?_
  · refine V_sub (lv' := []) [] rfl ?_
    exact VBX6_shift_25 _
  refine V_iload_n (κ := KX6_shift) (pc := 19) dX6_shift_19 3 rfl ?_
  refine V_bipush (κ := KX6_shift) (pc := 20) dX6_shift_20 ⟨by decide, by decide⟩ (by decide) ?_
  refine V_icmp_le (κ := KX6_shift) (pc := 22) (tgt := 35) dX6_shift_22 rfl ?_ ?_
  · refine V_aload_n (κ := KX6_shift) (pc := 35) dX6_shift_35 0 rfl rfl ?_
    refine V_callV (ci := 6) (T := TX6) (N := 9) rfl (by decide) (κ := KX6_shift) (pc := 36) (con_X6_startChange _ _) mth_X6_startChange rfl ⟨wd_480, wp_5⟩ wd_478 (st0 := []) rfl rfl (by decide) (Nat.le_of_ble_eq_true rfl) dX6_shift_36 (fun _ _ _ h => VX_out rfl (by decide) h) fun _ u104 => ?_
    refine V_aload_n (κ := KX6_shift) (pc := 39) dX6_shift_39 0 rfl rfl ?_
    refine V_getf 6 (κ := KX6_shift) (pc := 40) rfl (by decide) rfl inX6 6 (by decide) wd_250 rfl (t := 2) rfl dX6_shift_40 fun t105 => ?_
    refine V_getf 5 (κ := KX6_shift) (pc := 43) rfl (by decide) rfl inX5 4 (by decide) wd_223 rfl (t := 2) rfl dX6_shift_43 fun t106 => ?_
    refine V_iload_n (κ := KX6_shift) (pc := 46) dX6_shift_46 1 rfl ?_
    refine V_aaload 5 (by decide) rfl rfl (κ := KX6_shift) (pc := 47) dX6_shift_47 fun t107 => ?_
    refine V_iload_n (κ := KX6_shift) (pc := 48) dX6_shift_48 2 rfl ?_
    refine V_putf 1 (κ := KX6_shift) (pc := 49) rfl (by decide) rfl inX1 tyX1 tyX1_ok nmX1 4 (by decide) wd_176 rfl rfl (t := 0) rfl rfl dX6_shift_49 fun u108 => ?_
    refine V_aload_n (κ := KX6_shift) (pc := 52) dX6_shift_52 0 rfl rfl ?_
    refine V_getf 6 (κ := KX6_shift) (pc := 53) rfl (by decide) rfl inX6 6 (by decide) wd_250 rfl (t := 2) rfl dX6_shift_53 fun t109 => ?_
    refine V_getf 5 (κ := KX6_shift) (pc := 56) rfl (by decide) rfl inX5 4 (by decide) wd_223 rfl (t := 2) rfl dX6_shift_56 fun t110 => ?_
    refine V_iload_n (κ := KX6_shift) (pc := 59) dX6_shift_59 1 rfl ?_
    refine V_aaload 5 (by decide) rfl rfl (κ := KX6_shift) (pc := 60) dX6_shift_60 fun t111 => ?_
    refine V_iload_n (κ := KX6_shift) (pc := 61) dX6_shift_61 3 rfl ?_
    refine V_putf 1 (κ := KX6_shift) (pc := 62) rfl (by decide) rfl inX1 tyX1 tyX1_ok nmX1 5 (by decide) wd_180 rfl rfl (t := 0) rfl rfl dX6_shift_62 fun u112 => ?_
    refine V_aload_n (κ := KX6_shift) (pc := 65) dX6_shift_65 0 rfl rfl ?_
    refine V_getf 6 (κ := KX6_shift) (pc := 66) rfl (by decide) rfl inX6 7 (by decide) wd_251 rfl (t := 2) rfl dX6_shift_66 fun t113 => ?_
    refine V_aload_n (κ := KX6_shift) (pc := 69) dX6_shift_69 0 rfl rfl ?_
    refine V_getf 6 (κ := KX6_shift) (pc := 70) rfl (by decide) rfl inX6 6 (by decide) wd_250 rfl (t := 2) rfl dX6_shift_70 fun t114 => ?_
    refine V_callV (ci := 2) (T := TX2) (N := 8) rfl (by decide) (κ := KX6_shift) (pc := 73) (con_X2_update _ _ _) mth_X2_update rfl ⟨wd_343, wd_344⟩ wd_342 (st0 := []) rfl rfl (by decide) (Nat.le_of_ble_eq_true rfl) dX6_shift_73 (fun _ _ _ h => VX_out rfl (by decide) h) fun _ u116 => ?_
    refine V_aload_n (κ := KX6_shift) (pc := 76) dX6_shift_76 0 rfl rfl ?_
    refine V_getf 6 (κ := KX6_shift) (pc := 77) rfl (by decide) rfl inX6 7 (by decide) wd_251 rfl (t := 2) rfl dX6_shift_77 fun t117 => ?_
    refine V_aload_n (κ := KX6_shift) (pc := 80) dX6_shift_80 0 rfl rfl ?_
    refine V_getf 6 (κ := KX6_shift) (pc := 81) rfl (by decide) rfl inX6 6 (by decide) wd_250 rfl (t := 2) rfl dX6_shift_81 fun t118 => ?_
    refine V_callV (ci := 2) (T := TX2) (N := 8) rfl (by decide) (κ := KX6_shift) (pc := 84) (con_X2_dotsOfAll _ _ _) mth_X2_dotsOfAll rfl ⟨wd_431, wd_432⟩ wd_430 (st0 := []) rfl rfl (by decide) (Nat.le_of_ble_eq_true rfl) dX6_shift_84 (fun _ _ _ h => VX_out rfl (by decide) h) fun t119 u120 => ?_
    exact V_ireturn (κ := KX6_shift) (pc := 87) rfl rfl dX6_shift_87
  refine V_sub (lv' := []) [] rfl ?_
  exact VBX6_shift_25 _
theorem con_X6_shift (a0 a1 a2 a3 : Int) (μ : Mem) : Con (10) yX6_shift (.code yX6_shift cX6_shift 4 (some .int)) 0 [(2, a0), (0, a1), (0, a2), (0, a3)] μ (FX6_shift a0 a1 a2 a3 μ) := Con_intro KX6_shift (plainFor_of_name (by decide)) rfl (fun h => by cases h) (by decide) rfl (Nat.le_of_ble_eq_true rfl) (fun Γ => VBX6_shift_0 _ _ _ _ _)
abbrev KX6_undo : Kap := (RX6, cX6_undo, 1, 2, 0, (some .int), false, [])
theorem VBX6_undo_0 {Γ : Gam} (x0 : Int) (μ : Mem) : V Γ KX6_undo 0 [(0, (2, x0))] [] μ (BX6_undo_0 x0 μ) := by
  unfold BX6_undo_0
  refine V_aload_n (κ := KX6_undo) (pc := 0) dX6_undo_0 0 rfl rfl ?_
  refine V_getf 6 (κ := KX6_undo) (pc := 1) rfl (by decide) rfl inX6 5 (by decide) wd_249 rfl (t := 0) rfl dX6_undo_1 fun t101 => ?_
  refine V_iconst (κ := KX6_undo) (pc := 4) dX6_undo_4 ⟨by decide, by decide⟩ ?_
  refine V_icmp_ge (κ := KX6_undo) (pc := 5) (tgt := 10) dX6_undo_5 rfl ?_ ?_
  · refine V_aload_n (κ := KX6_undo) (pc := 10) dX6_undo_10 0 rfl rfl ?_
    refine V_dup (κ := KX6_undo) (pc := 11) rfl dX6_undo_11 ?_
    refine V_getf 6 (κ := KX6_undo) (pc := 12) rfl (by decide) rfl inX6 5 (by decide) wd_249 rfl (t := 0) rfl dX6_undo_12 fun t102 => ?_
    refine V_iconst (κ := KX6_undo) (pc := 15) dX6_undo_15 ⟨by decide, by decide⟩ ?_
    refine V_isub (κ := KX6_undo) (pc := 16) dX6_undo_16 ?_
    refine V_putf 6 (κ := KX6_undo) (pc := 17) rfl (by decide) rfl inX6 tyX6 tyX6_ok nmX6 5 (by decide) wd_249 rfl rfl (t := 0) rfl rfl dX6_undo_17 fun u103 => ?_
    refine V_aload_n (κ := KX6_undo) (pc := 20) dX6_undo_20 0 rfl rfl ?_
    refine V_aload_n (κ := KX6_undo) (pc := 21) dX6_undo_21 0 rfl rfl ?_
    refine V_getf 6 (κ := KX6_undo) (pc := 22) rfl (by decide) rfl inX6 4 (by decide) wd_248 rfl (t := 0) rfl dX6_undo_22 fun t104 => ?_
    refine V_bipush (κ := KX6_undo) (pc := 25) dX6_undo_25 ⟨by decide, by decide⟩ (by decide) ?_
    refine V_iadd (κ := KX6_undo) (pc := 27) dX6_undo_27 ?_
    refine V_iconst (κ := KX6_undo) (pc := 28) dX6_undo_28 ⟨by decide, by decide⟩ ?_
    refine V_isub (κ := KX6_undo) (pc := 29) dX6_undo_29 ?_
    refine V_bipush (κ := KX6_undo) (pc := 30) dX6_undo_30 ⟨by decide, by decide⟩ (by decide) ?_
    refine V_irem (κ := KX6_undo) (pc := 32) dX6_undo_32 fun t105 => ?_
    refine V_putf 6 (κ := KX6_undo) (pc := 33) rfl (by decide) rfl inX6 tyX6 tyX6_ok nmX6 4 (by decide) wd_248 rfl rfl (t := 0) rfl rfl dX6_undo_33 fun u106 => ?_
    refine V_aload_n (κ := KX6_undo) (pc := 36) dX6_undo_36 0 rfl rfl ?_
    refine V_aload_n (κ := KX6_undo) (pc := 37) dX6_undo_37 0 rfl rfl ?_
    refine V_getf 6 (κ := KX6_undo) (pc := 38) rfl (by decide) rfl inX6 3 (by decide) wd_247 rfl (t := 2) rfl dX6_undo_38 fun t107 => ?_
    refine V_aload_n (κ := KX6_undo) (pc := 41) dX6_undo_41 0 rfl rfl ?_
    refine V_getf 6 (κ := KX6_undo) (pc := 42) rfl (by decide) rfl inX6 4 (by decide) wd_248 rfl (t := 0) rfl dX6_undo_42 fun t108 => ?_
    refine V_aaload 4 (by decide) rfl rfl (κ := KX6_undo) (pc := 45) dX6_undo_45 fun t109 => ?_
    refine V_putf 6 (κ := KX6_undo) (pc := 46) rfl (by decide) rfl inX6 tyX6 tyX6_ok nmX6 6 (by decide) wd_250 rfl rfl (t := 2) rfl rfl dX6_undo_46 fun u110 => ?_
    refine V_aload_n (κ := KX6_undo) (pc := 49) dX6_undo_49 0 rfl rfl ?_
    refine V_getf 6 (κ := KX6_undo) (pc := 50) rfl (by decide) rfl inX6 7 (by decide) wd_251 rfl (t := 2) rfl dX6_undo_50 fun t111 => ?_
    refine V_callV (ci := 2) (T := TX2) (N := 8) rfl (by decide) (κ := KX6_undo) (pc := 53) (con_X2_forgetTones _ _) mth_X2_forgetTones rfl ⟨wd_510, wd_511⟩ wd_509 (st0 := []) rfl rfl (by decide) (Nat.le_of_ble_eq_true rfl) dX6_undo_53 (fun _ _ _ h => VX_out rfl (by decide) h) fun _ u113 => ?_
    refine V_aload_n (κ := KX6_undo) (pc := 56) dX6_undo_56 0 rfl rfl ?_
    refine V_getf 6 (κ := KX6_undo) (pc := 57) rfl (by decide) rfl inX6 5 (by decide) wd_249 rfl (t := 0) rfl dX6_undo_57 fun t114 => ?_
    exact V_ireturn (κ := KX6_undo) (pc := 60) rfl rfl dX6_undo_60
  refine V_iconst (κ := KX6_undo) (pc := 8) dX6_undo_8 ⟨by decide, by decide⟩ ?_
  exact V_ireturn (κ := KX6_undo) (pc := 9) rfl rfl dX6_undo_9
theorem con_X6_undo (a0 : Int) (μ : Mem) : Con (2) yX6_undo (.code yX6_undo cX6_undo 1 (some .int)) 0 [(2, a0)] μ (FX6_undo a0 μ) := Con_intro KX6_undo (plainFor_of_name (by decide)) rfl (fun h => by cases h) (by decide) rfl (Nat.le_of_ble_eq_true rfl) (fun Γ => VBX6_undo_0 _ _)
end WALKS
