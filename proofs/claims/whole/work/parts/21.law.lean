/-! the methods of the law over the small memory (written by gen.py) -/
abbrev KL_bestTurn : Kap := (RL, cL_bestTurn, 4, 8, 0, (some .int), false, tableOf [(0, 9, 12, 25)])
theorem VBL_bestTurn_0 {Γ : Gam} (x0 x1 x2 : Int) (μ : Mem) : V Γ KL_bestTurn 0 [(0, (2, x0)), (1, (0, x1)), (2, (2, x2))] [] μ (BL_bestTurn_0 x0 x1 x2 μ) := by
  unfold BL_bestTurn_0
  refine V_aload_n (κ := KL_bestTurn) (pc := 0) dL_bestTurn_0 2 rfl rfl ?_
  refine V_iconst (κ := KL_bestTurn) (pc := 1) dL_bestTurn_1 ⟨by decide, by decide⟩ ?_
  refine V_aload_n (κ := KL_bestTurn) (pc := 2) dL_bestTurn_2 0 rfl rfl ?_
  refine V_iload_n (κ := KL_bestTurn) (pc := 3) dL_bestTurn_3 1 rfl ?_
  refine V_callV (ci := 6) (T := TX6) (N := 9) rfl (by decide) (κ := KL_bestTurn) (pc := 4) (con_X6_bestTurn _ _ _) mth_X6_bestTurn rfl ⟨wd_858, wd_859⟩ wd_857 (st0 := [(0, 0), (2, x2)]) rfl rfl (by decide) (Nat.le_of_ble_eq_true rfl) dL_bestTurn_4 (fun e v ν he => by
      by_cases h1 : e = 1
      · rw [if_pos h1, h1]
        refine VX_catch (by decide) (name := "java/lang/IndexOutOfBoundsException") [] ⟨0, 9, 12, 25⟩ [] rfl (fun z hz => by cases hz) rfl (by decide) wd_770 (by decide) (fun q => ?_)
        refine V_astore_n (κ := KL_bestTurn) (pc := 12) (lv' := [(3, (7, q)), (0, (2, x0)), (1, (0, x1)), (2, (2, x2))]) dL_bestTurn_12 rfl (by decide) rfl ?_
        refine V_iconst (κ := KL_bestTurn) (pc := 13) dL_bestTurn_13 ⟨by decide, by decide⟩ ?_
        exact V_ireturn (κ := KL_bestTurn) (pc := 14) rfl rfl dL_bestTurn_14
      rw [if_neg h1]
      exact VX_none) fun t101 u102 => ?_
  refine V_i2l (κ := KL_bestTurn) (pc := 7) dL_bestTurn_7 ?_
  refine V_lastore (κ := KL_bestTurn) (pc := 8) dL_bestTurn_8 fun u103 => ?_
  refine V_goto (κ := KL_bestTurn) (pc := 9) (tgt := 15) dL_bestTurn_9 rfl ?_
  refine V_iconst (κ := KL_bestTurn) (pc := 15) dL_bestTurn_15 ⟨by decide, by decide⟩ ?_
  exact V_ireturn (κ := KL_bestTurn) (pc := 16) rfl rfl dL_bestTurn_16
theorem con_L_bestTurn (a0 a1 a2 : Int) (μ : Mem) : Con 8 yL_bestTurn (.codeWith yL_bestTurn cL_bestTurn 4 (some .int) [(0, 9, 12, 25)]) 0 [(2, a0), (0, a1), (2, a2)] μ (FL_bestTurn a0 a1 a2 μ) := Con_introH KL_bestTurn (by decide) rfl (fun h => by cases h) (by decide) rfl (Nat.le_of_ble_eq_true rfl) (fun Γ => VBL_bestTurn_0 _ _ _ _)
abbrev KL_cell : Kap := (RL, cL_cell, 7, 8, 0, (some .int), false, tableOf [(0, 14, 17, 25), (0, 14, 21, 13)])
theorem VBL_cell_0 {Γ : Gam} (x0 x1 x2 x3 x4 x5 : Int) (μ : Mem) : V Γ KL_cell 0 [(0, (2, x0)), (1, (0, x1)), (2, (0, x2)), (3, (0, x3)), (4, (0, x4)), (5, (2, x5))] [] μ (BL_cell_0 x0 x1 x2 x3 x4 x5 μ) := by
  unfold BL_cell_0
  refine V_aload (κ := KL_cell) (pc := 0) dL_cell_0 5 rfl rfl ?_
  refine V_iconst (κ := KL_cell) (pc := 2) dL_cell_2 ⟨by decide, by decide⟩ ?_
  refine V_aload_n (κ := KL_cell) (pc := 3) dL_cell_3 0 rfl rfl ?_
  refine V_iload_n (κ := KL_cell) (pc := 4) dL_cell_4 1 rfl ?_
  refine V_iload_n (κ := KL_cell) (pc := 5) dL_cell_5 2 rfl ?_
  refine V_iload_n (κ := KL_cell) (pc := 6) dL_cell_6 3 rfl ?_
  refine V_iload (κ := KL_cell) (pc := 7) dL_cell_7 4 rfl ?_
  refine V_callV (ci := 6) (T := TX6) (N := 9) rfl (by decide) (κ := KL_cell) (pc := 9) (con_X6_cell _ _ _ _ _ _) mth_X6_cell rfl ⟨wd_776, wd_777⟩ wd_775 (st0 := [(0, 0), (2, x5)]) rfl rfl (by decide) (Nat.le_of_ble_eq_true rfl) dL_cell_9 (fun e v ν he => by
      by_cases h1 : e = 1
      · rw [if_pos h1, h1]
        refine VX_catch (by decide) (name := "java/lang/IndexOutOfBoundsException") [] ⟨0, 14, 17, 25⟩ [⟨0, 14, 21, 13⟩] rfl (fun z hz => by cases hz) rfl (by decide) wd_770 (by decide) (fun q => ?_)
        refine V_astore (κ := KL_cell) (pc := 17) (lv' := [(6, (7, q)), (0, (2, x0)), (1, (0, x1)), (2, (0, x2)), (3, (0, x3)), (4, (0, x4)), (5, (2, x5))]) dL_cell_17 rfl (by decide) rfl ?_
        refine V_iconst (κ := KL_cell) (pc := 19) dL_cell_19 ⟨by decide, by decide⟩ ?_
        exact V_ireturn (κ := KL_cell) (pc := 20) rfl rfl dL_cell_20
      rw [if_neg h1]
      by_cases h2 : e = 2
      · rw [if_pos h2, h2]
        refine VX_catch (by decide) (name := "java/lang/IllegalArgumentException") [⟨0, 14, 17, 25⟩] ⟨0, 14, 21, 13⟩ [] rfl (fun z hz => by rw [List.mem_singleton.mp hz]; exact ⟨by decide, "java/lang/IndexOutOfBoundsException", wd_770, by decide⟩) rfl (by decide) wd_542 (by decide) (fun q => ?_)
        refine V_astore (κ := KL_cell) (pc := 21) (lv' := [(6, (7, q)), (0, (2, x0)), (1, (0, x1)), (2, (0, x2)), (3, (0, x3)), (4, (0, x4)), (5, (2, x5))]) dL_cell_21 rfl (by decide) rfl ?_
        refine V_iconst (κ := KL_cell) (pc := 23) dL_cell_23 ⟨by decide, by decide⟩ ?_
        exact V_ireturn (κ := KL_cell) (pc := 24) rfl rfl dL_cell_24
      rw [if_neg h2]
      exact VX_none) fun t101 u102 => ?_
  refine V_i2l (κ := KL_cell) (pc := 12) dL_cell_12 ?_
  refine V_lastore (κ := KL_cell) (pc := 13) dL_cell_13 fun u103 => ?_
  refine V_goto (κ := KL_cell) (pc := 14) (tgt := 25) dL_cell_14 rfl ?_
  refine V_iconst (κ := KL_cell) (pc := 25) dL_cell_25 ⟨by decide, by decide⟩ ?_
  exact V_ireturn (κ := KL_cell) (pc := 26) rfl rfl dL_cell_26
theorem con_L_cell (a0 a1 a2 a3 a4 a5 : Int) (μ : Mem) : Con 8 yL_cell (.codeWith yL_cell cL_cell 7 (some .int) [(0, 14, 17, 25), (0, 14, 21, 13)]) 0 [(2, a0), (0, a1), (0, a2), (0, a3), (0, a4), (2, a5)] μ (FL_cell a0 a1 a2 a3 a4 a5 μ) := Con_introH KL_cell (by decide) rfl (fun h => by cases h) (by decide) rfl (Nat.le_of_ble_eq_true rfl) (fun Γ => VBL_cell_0 _ _ _ _ _ _ _)
abbrev KL_cellsWith : Kap := (RL, cL_cellsWith, 4, 8, 0, (some .int), false, tableOf [(0, 9, 12, 13)])
theorem VBL_cellsWith_0 {Γ : Gam} (x0 x1 x2 : Int) (μ : Mem) : V Γ KL_cellsWith 0 [(0, (2, x0)), (1, (0, x1)), (2, (2, x2))] [] μ (BL_cellsWith_0 x0 x1 x2 μ) := by
  unfold BL_cellsWith_0
  refine V_aload_n (κ := KL_cellsWith) (pc := 0) dL_cellsWith_0 2 rfl rfl ?_
  refine V_iconst (κ := KL_cellsWith) (pc := 1) dL_cellsWith_1 ⟨by decide, by decide⟩ ?_
  refine V_aload_n (κ := KL_cellsWith) (pc := 2) dL_cellsWith_2 0 rfl rfl ?_
  refine V_iload_n (κ := KL_cellsWith) (pc := 3) dL_cellsWith_3 1 rfl ?_
  refine V_callV (ci := 6) (T := TX6) (N := 9) rfl (by decide) (κ := KL_cellsWith) (pc := 4) (con_X6_cellsWith _ _ _) mth_X6_cellsWith rfl ⟨wd_869, wd_870⟩ wd_868 (st0 := [(0, 0), (2, x2)]) rfl rfl (by decide) (Nat.le_of_ble_eq_true rfl) dL_cellsWith_4 (fun e v ν he => by
      by_cases h2 : e = 2
      · rw [if_pos h2, h2]
        refine VX_catch (by decide) (name := "java/lang/IllegalArgumentException") [] ⟨0, 9, 12, 13⟩ [] rfl (fun z hz => by cases hz) rfl (by decide) wd_542 (by decide) (fun q => ?_)
        refine V_astore_n (κ := KL_cellsWith) (pc := 12) (lv' := [(3, (7, q)), (0, (2, x0)), (1, (0, x1)), (2, (2, x2))]) dL_cellsWith_12 rfl (by decide) rfl ?_
        refine V_iconst (κ := KL_cellsWith) (pc := 13) dL_cellsWith_13 ⟨by decide, by decide⟩ ?_
        exact V_ireturn (κ := KL_cellsWith) (pc := 14) rfl rfl dL_cellsWith_14
      rw [if_neg h2]
      exact VX_none) fun t101 u102 => ?_
  refine V_i2l (κ := KL_cellsWith) (pc := 7) dL_cellsWith_7 ?_
  refine V_lastore (κ := KL_cellsWith) (pc := 8) dL_cellsWith_8 fun u103 => ?_
  refine V_goto (κ := KL_cellsWith) (pc := 9) (tgt := 15) dL_cellsWith_9 rfl ?_
  refine V_iconst (κ := KL_cellsWith) (pc := 15) dL_cellsWith_15 ⟨by decide, by decide⟩ ?_
  exact V_ireturn (κ := KL_cellsWith) (pc := 16) rfl rfl dL_cellsWith_16
theorem con_L_cellsWith (a0 a1 a2 : Int) (μ : Mem) : Con 8 yL_cellsWith (.codeWith yL_cellsWith cL_cellsWith 4 (some .int) [(0, 9, 12, 13)]) 0 [(2, a0), (0, a1), (2, a2)] μ (FL_cellsWith a0 a1 a2 μ) := Con_introH KL_cellsWith (by decide) rfl (fun h => by cases h) (by decide) rfl (Nat.le_of_ble_eq_true rfl) (fun Γ => VBL_cellsWith_0 _ _ _ _)
abbrev KL_clean : Kap := (RL, cL_clean, 4, 8, 0, (some .int), false, tableOf [(0, 9, 12, 25)])
theorem VBL_clean_0 {Γ : Gam} (x0 x1 x2 : Int) (μ : Mem) : V Γ KL_clean 0 [(0, (2, x0)), (1, (0, x1)), (2, (2, x2))] [] μ (BL_clean_0 x0 x1 x2 μ) := by
  unfold BL_clean_0
  refine V_aload_n (κ := KL_clean) (pc := 0) dL_clean_0 2 rfl rfl ?_
  refine V_iconst (κ := KL_clean) (pc := 1) dL_clean_1 ⟨by decide, by decide⟩ ?_
  refine V_aload_n (κ := KL_clean) (pc := 2) dL_clean_2 0 rfl rfl ?_
  refine V_iload_n (κ := KL_clean) (pc := 3) dL_clean_3 1 rfl ?_
  refine V_callV (ci := 6) (T := TX6) (N := 9) rfl (by decide) (κ := KL_clean) (pc := 4) (con_X6_clean _ _ _) mth_X6_clean rfl ⟨wd_931, wd_932⟩ wd_930 (st0 := [(0, 0), (2, x2)]) rfl rfl (by decide) (Nat.le_of_ble_eq_true rfl) dL_clean_4 (fun e v ν he => by
      by_cases h1 : e = 1
      · rw [if_pos h1, h1]
        refine VX_catch (by decide) (name := "java/lang/IndexOutOfBoundsException") [] ⟨0, 9, 12, 25⟩ [] rfl (fun z hz => by cases hz) rfl (by decide) wd_770 (by decide) (fun q => ?_)
        refine V_astore_n (κ := KL_clean) (pc := 12) (lv' := [(3, (7, q)), (0, (2, x0)), (1, (0, x1)), (2, (2, x2))]) dL_clean_12 rfl (by decide) rfl ?_
        refine V_iconst (κ := KL_clean) (pc := 13) dL_clean_13 ⟨by decide, by decide⟩ ?_
        exact V_ireturn (κ := KL_clean) (pc := 14) rfl rfl dL_clean_14
      rw [if_neg h1]
      exact VX_none) fun t101 u102 => ?_
  refine V_i2l (κ := KL_clean) (pc := 7) dL_clean_7 ?_
  refine V_lastore (κ := KL_clean) (pc := 8) dL_clean_8 fun u103 => ?_
  refine V_goto (κ := KL_clean) (pc := 9) (tgt := 15) dL_clean_9 rfl ?_
  refine V_iconst (κ := KL_clean) (pc := 15) dL_clean_15 ⟨by decide, by decide⟩ ?_
  exact V_ireturn (κ := KL_clean) (pc := 16) rfl rfl dL_clean_16
theorem con_L_clean (a0 a1 a2 : Int) (μ : Mem) : Con 8 yL_clean (.codeWith yL_clean cL_clean 4 (some .int) [(0, 9, 12, 25)]) 0 [(2, a0), (0, a1), (2, a2)] μ (FL_clean a0 a1 a2 μ) := Con_introH KL_clean (by decide) rfl (fun h => by cases h) (by decide) rfl (Nat.le_of_ble_eq_true rfl) (fun Γ => VBL_clean_0 _ _ _ _)
abbrev KL_covered : Kap := (RL, cL_covered, 4, 8, 0, (some .int), false, tableOf [(0, 9, 12, 25)])
theorem VBL_covered_0 {Γ : Gam} (x0 x1 x2 : Int) (μ : Mem) : V Γ KL_covered 0 [(0, (2, x0)), (1, (0, x1)), (2, (2, x2))] [] μ (BL_covered_0 x0 x1 x2 μ) := by
  unfold BL_covered_0
  refine V_aload_n (κ := KL_covered) (pc := 0) dL_covered_0 2 rfl rfl ?_
  refine V_iconst (κ := KL_covered) (pc := 1) dL_covered_1 ⟨by decide, by decide⟩ ?_
  refine V_aload_n (κ := KL_covered) (pc := 2) dL_covered_2 0 rfl rfl ?_
  refine V_iload_n (κ := KL_covered) (pc := 3) dL_covered_3 1 rfl ?_
  refine V_callV (ci := 6) (T := TX6) (N := 9) rfl (by decide) (κ := KL_covered) (pc := 4) (con_X6_covered _ _ _) mth_X6_covered rfl ⟨wd_844, wd_845⟩ wd_843 (st0 := [(0, 0), (2, x2)]) rfl rfl (by decide) (Nat.le_of_ble_eq_true rfl) dL_covered_4 (fun e v ν he => by
      by_cases h1 : e = 1
      · rw [if_pos h1, h1]
        refine VX_catch (by decide) (name := "java/lang/IndexOutOfBoundsException") [] ⟨0, 9, 12, 25⟩ [] rfl (fun z hz => by cases hz) rfl (by decide) wd_770 (by decide) (fun q => ?_)
        refine V_astore_n (κ := KL_covered) (pc := 12) (lv' := [(3, (7, q)), (0, (2, x0)), (1, (0, x1)), (2, (2, x2))]) dL_covered_12 rfl (by decide) rfl ?_
        refine V_iconst (κ := KL_covered) (pc := 13) dL_covered_13 ⟨by decide, by decide⟩ ?_
        exact V_ireturn (κ := KL_covered) (pc := 14) rfl rfl dL_covered_14
      rw [if_neg h1]
      exact VX_none) fun t101 u102 => ?_
  refine V_f2d (κ := KL_covered) (pc := 7) dL_covered_7 fun t103 => ?_
  refine V_dastore (κ := KL_covered) (pc := 8) dL_covered_8 fun u104 => ?_
  refine V_goto (κ := KL_covered) (pc := 9) (tgt := 15) dL_covered_9 rfl ?_
  refine V_iconst (κ := KL_covered) (pc := 15) dL_covered_15 ⟨by decide, by decide⟩ ?_
  exact V_ireturn (κ := KL_covered) (pc := 16) rfl rfl dL_covered_16
theorem con_L_covered (a0 a1 a2 : Int) (μ : Mem) : Con 8 yL_covered (.codeWith yL_covered cL_covered 4 (some .int) [(0, 9, 12, 25)]) 0 [(2, a0), (0, a1), (2, a2)] μ (FL_covered a0 a1 a2 μ) := Con_introH KL_covered (by decide) rfl (fun h => by cases h) (by decide) rfl (Nat.le_of_ble_eq_true rfl) (fun Γ => VBL_covered_0 _ _ _ _)
abbrev KL_dirty : Kap := (RL, cL_dirty, 4, 8, 0, (some .int), false, tableOf [(0, 9, 12, 25)])
theorem VBL_dirty_0 {Γ : Gam} (x0 x1 x2 : Int) (μ : Mem) : V Γ KL_dirty 0 [(0, (2, x0)), (1, (0, x1)), (2, (2, x2))] [] μ (BL_dirty_0 x0 x1 x2 μ) := by
  unfold BL_dirty_0
  refine V_aload_n (κ := KL_dirty) (pc := 0) dL_dirty_0 2 rfl rfl ?_
  refine V_iconst (κ := KL_dirty) (pc := 1) dL_dirty_1 ⟨by decide, by decide⟩ ?_
  refine V_aload_n (κ := KL_dirty) (pc := 2) dL_dirty_2 0 rfl rfl ?_
  refine V_iload_n (κ := KL_dirty) (pc := 3) dL_dirty_3 1 rfl ?_
  refine V_callV (ci := 6) (T := TX6) (N := 9) rfl (by decide) (κ := KL_dirty) (pc := 4) (con_X6_dirty _ _ _) mth_X6_dirty rfl ⟨wd_938, wd_939⟩ wd_937 (st0 := [(0, 0), (2, x2)]) rfl rfl (by decide) (Nat.le_of_ble_eq_true rfl) dL_dirty_4 (fun e v ν he => by
      by_cases h1 : e = 1
      · rw [if_pos h1, h1]
        refine VX_catch (by decide) (name := "java/lang/IndexOutOfBoundsException") [] ⟨0, 9, 12, 25⟩ [] rfl (fun z hz => by cases hz) rfl (by decide) wd_770 (by decide) (fun q => ?_)
        refine V_astore_n (κ := KL_dirty) (pc := 12) (lv' := [(3, (7, q)), (0, (2, x0)), (1, (0, x1)), (2, (2, x2))]) dL_dirty_12 rfl (by decide) rfl ?_
        refine V_iconst (κ := KL_dirty) (pc := 13) dL_dirty_13 ⟨by decide, by decide⟩ ?_
        exact V_ireturn (κ := KL_dirty) (pc := 14) rfl rfl dL_dirty_14
      rw [if_neg h1]
      exact VX_none) fun t101 u102 => ?_
  refine V_i2l (κ := KL_dirty) (pc := 7) dL_dirty_7 ?_
  refine V_lastore (κ := KL_dirty) (pc := 8) dL_dirty_8 fun u103 => ?_
  refine V_goto (κ := KL_dirty) (pc := 9) (tgt := 15) dL_dirty_9 rfl ?_
  refine V_iconst (κ := KL_dirty) (pc := 15) dL_dirty_15 ⟨by decide, by decide⟩ ?_
  exact V_ireturn (κ := KL_dirty) (pc := 16) rfl rfl dL_dirty_16
theorem con_L_dirty (a0 a1 a2 : Int) (μ : Mem) : Con 8 yL_dirty (.codeWith yL_dirty cL_dirty 4 (some .int) [(0, 9, 12, 25)]) 0 [(2, a0), (0, a1), (2, a2)] μ (FL_dirty a0 a1 a2 μ) := Con_introH KL_dirty (by decide) rfl (fun h => by cases h) (by decide) rfl (Nat.le_of_ble_eq_true rfl) (fun Γ => VBL_dirty_0 _ _ _ _)
abbrev KL_fill : Kap := (RL, cL_fill, 5, 8, 0, (some .int), false, tableOf [(0, 10, 13, 25), (0, 10, 17, 13)])
theorem VBL_fill_0 {Γ : Gam} (x0 x1 x2 x3 : Int) (μ : Mem) : V Γ KL_fill 0 [(0, (2, x0)), (1, (0, x1)), (2, (0, x2)), (3, (2, x3))] [] μ (BL_fill_0 x0 x1 x2 x3 μ) := by
  unfold BL_fill_0
  refine V_aload_n (κ := KL_fill) (pc := 0) dL_fill_0 3 rfl rfl ?_
  refine V_iconst (κ := KL_fill) (pc := 1) dL_fill_1 ⟨by decide, by decide⟩ ?_
  refine V_aload_n (κ := KL_fill) (pc := 2) dL_fill_2 0 rfl rfl ?_
  refine V_iload_n (κ := KL_fill) (pc := 3) dL_fill_3 1 rfl ?_
  refine V_iload_n (κ := KL_fill) (pc := 4) dL_fill_4 2 rfl ?_
  refine V_callV (ci := 6) (T := TX6) (N := 9) rfl (by decide) (κ := KL_fill) (pc := 5) (con_X6_fill _ _ _ _) mth_X6_fill rfl ⟨wd_945, wd_946⟩ wd_944 (st0 := [(0, 0), (2, x3)]) rfl rfl (by decide) (Nat.le_of_ble_eq_true rfl) dL_fill_5 (fun e v ν he => by
      by_cases h1 : e = 1
      · rw [if_pos h1, h1]
        refine VX_catch (by decide) (name := "java/lang/IndexOutOfBoundsException") [] ⟨0, 10, 13, 25⟩ [⟨0, 10, 17, 13⟩] rfl (fun z hz => by cases hz) rfl (by decide) wd_770 (by decide) (fun q => ?_)
        refine V_astore (κ := KL_fill) (pc := 13) (lv' := [(4, (7, q)), (0, (2, x0)), (1, (0, x1)), (2, (0, x2)), (3, (2, x3))]) dL_fill_13 rfl (by decide) rfl ?_
        refine V_iconst (κ := KL_fill) (pc := 15) dL_fill_15 ⟨by decide, by decide⟩ ?_
        exact V_ireturn (κ := KL_fill) (pc := 16) rfl rfl dL_fill_16
      rw [if_neg h1]
      by_cases h2 : e = 2
      · rw [if_pos h2, h2]
        refine VX_catch (by decide) (name := "java/lang/IllegalArgumentException") [⟨0, 10, 13, 25⟩] ⟨0, 10, 17, 13⟩ [] rfl (fun z hz => by rw [List.mem_singleton.mp hz]; exact ⟨by decide, "java/lang/IndexOutOfBoundsException", wd_770, by decide⟩) rfl (by decide) wd_542 (by decide) (fun q => ?_)
        refine V_astore (κ := KL_fill) (pc := 17) (lv' := [(4, (7, q)), (0, (2, x0)), (1, (0, x1)), (2, (0, x2)), (3, (2, x3))]) dL_fill_17 rfl (by decide) rfl ?_
        refine V_iconst (κ := KL_fill) (pc := 19) dL_fill_19 ⟨by decide, by decide⟩ ?_
        exact V_ireturn (κ := KL_fill) (pc := 20) rfl rfl dL_fill_20
      rw [if_neg h2]
      exact VX_none) fun t101 u102 => ?_
  refine V_i2l (κ := KL_fill) (pc := 8) dL_fill_8 ?_
  refine V_lastore (κ := KL_fill) (pc := 9) dL_fill_9 fun u103 => ?_
  refine V_goto (κ := KL_fill) (pc := 10) (tgt := 21) dL_fill_10 rfl ?_
  refine V_iconst (κ := KL_fill) (pc := 21) dL_fill_21 ⟨by decide, by decide⟩ ?_
  exact V_ireturn (κ := KL_fill) (pc := 22) rfl rfl dL_fill_22
theorem con_L_fill (a0 a1 a2 a3 : Int) (μ : Mem) : Con 8 yL_fill (.codeWith yL_fill cL_fill 5 (some .int) [(0, 10, 13, 25), (0, 10, 17, 13)]) 0 [(2, a0), (0, a1), (0, a2), (2, a3)] μ (FL_fill a0 a1 a2 a3 μ) := Con_introH KL_fill (by decide) rfl (fun h => by cases h) (by decide) rfl (Nat.le_of_ble_eq_true rfl) (fun Γ => VBL_fill_0 _ _ _ _ _)
abbrev KL_find : Kap := (RL, cL_find, 4, 8, 0, (some .int), false, tableOf [(0, 9, 12, 13)])
theorem VBL_find_0 {Γ : Gam} (x0 x1 x2 : Int) (μ : Mem) : V Γ KL_find 0 [(0, (2, x0)), (1, (0, x1)), (2, (2, x2))] [] μ (BL_find_0 x0 x1 x2 μ) := by
  unfold BL_find_0
  refine V_aload_n (κ := KL_find) (pc := 0) dL_find_0 2 rfl rfl ?_
  refine V_iconst (κ := KL_find) (pc := 1) dL_find_1 ⟨by decide, by decide⟩ ?_
  refine V_aload_n (κ := KL_find) (pc := 2) dL_find_2 0 rfl rfl ?_
  refine V_iload_n (κ := KL_find) (pc := 3) dL_find_3 1 rfl ?_
  refine V_callV (ci := 6) (T := TX6) (N := 9) rfl (by decide) (κ := KL_find) (pc := 4) (con_X6_find _ _ _) mth_X6_find rfl ⟨wd_762, wd_763⟩ wd_761 (st0 := [(0, 0), (2, x2)]) rfl rfl (by decide) (Nat.le_of_ble_eq_true rfl) dL_find_4 (fun e v ν he => by
      by_cases h2 : e = 2
      · rw [if_pos h2, h2]
        refine VX_catch (by decide) (name := "java/lang/IllegalArgumentException") [] ⟨0, 9, 12, 13⟩ [] rfl (fun z hz => by cases hz) rfl (by decide) wd_542 (by decide) (fun q => ?_)
        refine V_astore_n (κ := KL_find) (pc := 12) (lv' := [(3, (7, q)), (0, (2, x0)), (1, (0, x1)), (2, (2, x2))]) dL_find_12 rfl (by decide) rfl ?_
        refine V_iconst (κ := KL_find) (pc := 13) dL_find_13 ⟨by decide, by decide⟩ ?_
        exact V_ireturn (κ := KL_find) (pc := 14) rfl rfl dL_find_14
      rw [if_neg h2]
      exact VX_none) fun t101 u102 => ?_
  refine V_i2l (κ := KL_find) (pc := 7) dL_find_7 ?_
  refine V_lastore (κ := KL_find) (pc := 8) dL_find_8 fun u103 => ?_
  refine V_goto (κ := KL_find) (pc := 9) (tgt := 15) dL_find_9 rfl ?_
  refine V_iconst (κ := KL_find) (pc := 15) dL_find_15 ⟨by decide, by decide⟩ ?_
  exact V_ireturn (κ := KL_find) (pc := 16) rfl rfl dL_find_16
theorem con_L_find (a0 a1 a2 : Int) (μ : Mem) : Con 8 yL_find (.codeWith yL_find cL_find 4 (some .int) [(0, 9, 12, 13)]) 0 [(2, a0), (0, a1), (2, a2)] μ (FL_find a0 a1 a2 μ) := Con_introH KL_find (by decide) rfl (fun h => by cases h) (by decide) rfl (Nat.le_of_ble_eq_true rfl) (fun Γ => VBL_find_0 _ _ _ _)
abbrev KL_inks : Kap := (RL, cL_inks, 5, 8, 0, (some .int), false, tableOf [(0, 10, 13, 25)])
theorem VBL_inks_0 {Γ : Gam} (x0 x1 x2 x3 : Int) (μ : Mem) : V Γ KL_inks 0 [(0, (2, x0)), (1, (0, x1)), (2, (0, x2)), (3, (2, x3))] [] μ (BL_inks_0 x0 x1 x2 x3 μ) := by
  unfold BL_inks_0
  refine V_aload_n (κ := KL_inks) (pc := 0) dL_inks_0 3 rfl rfl ?_
  refine V_iconst (κ := KL_inks) (pc := 1) dL_inks_1 ⟨by decide, by decide⟩ ?_
  refine V_aload_n (κ := KL_inks) (pc := 2) dL_inks_2 0 rfl rfl ?_
  refine V_iload_n (κ := KL_inks) (pc := 3) dL_inks_3 1 rfl ?_
  refine V_iload_n (κ := KL_inks) (pc := 4) dL_inks_4 2 rfl ?_
  refine V_callV (ci := 6) (T := TX6) (N := 9) rfl (by decide) (κ := KL_inks) (pc := 5) (con_X6_inks _ _ _ _) mth_X6_inks rfl ⟨wd_801, wd_802⟩ wd_800 (st0 := [(0, 0), (2, x3)]) rfl rfl (by decide) (Nat.le_of_ble_eq_true rfl) dL_inks_5 (fun e v ν he => by
      by_cases h1 : e = 1
      · rw [if_pos h1, h1]
        refine VX_catch (by decide) (name := "java/lang/IndexOutOfBoundsException") [] ⟨0, 10, 13, 25⟩ [] rfl (fun z hz => by cases hz) rfl (by decide) wd_770 (by decide) (fun q => ?_)
        refine V_astore (κ := KL_inks) (pc := 13) (lv' := [(4, (7, q)), (0, (2, x0)), (1, (0, x1)), (2, (0, x2)), (3, (2, x3))]) dL_inks_13 rfl (by decide) rfl ?_
        refine V_iconst (κ := KL_inks) (pc := 15) dL_inks_15 ⟨by decide, by decide⟩ ?_
        exact V_ireturn (κ := KL_inks) (pc := 16) rfl rfl dL_inks_16
      rw [if_neg h1]
      exact VX_none) fun t101 u102 => ?_
  refine V_i2l (κ := KL_inks) (pc := 8) dL_inks_8 ?_
  refine V_lastore (κ := KL_inks) (pc := 9) dL_inks_9 fun u103 => ?_
  refine V_goto (κ := KL_inks) (pc := 10) (tgt := 17) dL_inks_10 rfl ?_
  refine V_iconst (κ := KL_inks) (pc := 17) dL_inks_17 ⟨by decide, by decide⟩ ?_
  exact V_ireturn (κ := KL_inks) (pc := 18) rfl rfl dL_inks_18
theorem con_L_inks (a0 a1 a2 a3 : Int) (μ : Mem) : Con 8 yL_inks (.codeWith yL_inks cL_inks 5 (some .int) [(0, 10, 13, 25)]) 0 [(2, a0), (0, a1), (0, a2), (2, a3)] μ (FL_inks a0 a1 a2 a3 μ) := Con_introH KL_inks (by decide) rfl (fun h => by cases h) (by decide) rfl (Nat.le_of_ble_eq_true rfl) (fun Γ => VBL_inks_0 _ _ _ _ _)
abbrev KL_limit : Kap := (RL, cL_limit, 4, 7, 0, (some .int), false, tableOf [(0, 9, 12, 13)])
theorem VBL_limit_0 {Γ : Gam} (x0 x1 x2 : Int) (μ : Mem) : V Γ KL_limit 0 [(0, (2, x0)), (1, (0, x1)), (2, (2, x2))] [] μ (BL_limit_0 x0 x1 x2 μ) := by
  unfold BL_limit_0
  refine V_aload_n (κ := KL_limit) (pc := 0) dL_limit_0 2 rfl rfl ?_
  refine V_iconst (κ := KL_limit) (pc := 1) dL_limit_1 ⟨by decide, by decide⟩ ?_
  refine V_aload_n (κ := KL_limit) (pc := 2) dL_limit_2 0 rfl rfl ?_
  refine V_iload_n (κ := KL_limit) (pc := 3) dL_limit_3 1 rfl ?_
  refine V_callV (ci := 6) (T := TX6) (N := 9) rfl (by decide) (κ := KL_limit) (pc := 4) (con_X6_limit _ _ _) mth_X6_limit rfl ⟨wd_923, wd_924⟩ wd_922 (st0 := [(0, 0), (2, x2)]) rfl rfl (by decide) (Nat.le_of_ble_eq_true rfl) dL_limit_4 (fun e v ν he => by
      by_cases h2 : e = 2
      · rw [if_pos h2, h2]
        refine VX_catch (by decide) (name := "java/lang/IllegalArgumentException") [] ⟨0, 9, 12, 13⟩ [] rfl (fun z hz => by cases hz) rfl (by decide) wd_542 (by decide) (fun q => ?_)
        refine V_astore_n (κ := KL_limit) (pc := 12) (lv' := [(3, (7, q)), (0, (2, x0)), (1, (0, x1)), (2, (2, x2))]) dL_limit_12 rfl (by decide) rfl ?_
        refine V_iconst (κ := KL_limit) (pc := 13) dL_limit_13 ⟨by decide, by decide⟩ ?_
        exact V_ireturn (κ := KL_limit) (pc := 14) rfl rfl dL_limit_14
      rw [if_neg h2]
      exact VX_none) fun t101 u102 => ?_
  refine V_i2l (κ := KL_limit) (pc := 7) dL_limit_7 ?_
  refine V_lastore (κ := KL_limit) (pc := 8) dL_limit_8 fun u103 => ?_
  refine V_goto (κ := KL_limit) (pc := 9) (tgt := 15) dL_limit_9 rfl ?_
  refine V_iconst (κ := KL_limit) (pc := 15) dL_limit_15 ⟨by decide, by decide⟩ ?_
  exact V_ireturn (κ := KL_limit) (pc := 16) rfl rfl dL_limit_16
theorem con_L_limit (a0 a1 a2 : Int) (μ : Mem) : Con 7 yL_limit (.codeWith yL_limit cL_limit 4 (some .int) [(0, 9, 12, 13)]) 0 [(2, a0), (0, a1), (2, a2)] μ (FL_limit a0 a1 a2 μ) := Con_introH KL_limit (by decide) rfl (fun h => by cases h) (by decide) rfl (Nat.le_of_ble_eq_true rfl) (fun Γ => VBL_limit_0 _ _ _ _)
abbrev KL_load : Kap := (RL, cL_load, 4, 82, 0, (some .int), false, tableOf [(0, 9, 12, 13)])
theorem VBL_load_0 {Γ : Gam} (x0 x1 x2 : Int) (μ : Mem) : V Γ KL_load 0 [(0, (2, x0)), (1, (0, x1)), (2, (2, x2))] [] μ (BL_load_0 x0 x1 x2 μ) := by
  unfold BL_load_0
  refine V_aload_n (κ := KL_load) (pc := 0) dL_load_0 2 rfl rfl ?_
  refine V_iconst (κ := KL_load) (pc := 1) dL_load_1 ⟨by decide, by decide⟩ ?_
  refine V_aload_n (κ := KL_load) (pc := 2) dL_load_2 0 rfl rfl ?_
  refine V_iload_n (κ := KL_load) (pc := 3) dL_load_3 1 rfl ?_
  refine V_callV (ci := 6) (T := TX6) (N := 9) rfl (by decide) (κ := KL_load) (pc := 4) (con_X6_load _ _ _) mth_X6_load rfl ⟨wd_544, wd_545⟩ wd_543 (st0 := [(0, 0), (2, x2)]) rfl rfl (by decide) (Nat.le_of_ble_eq_true rfl) dL_load_4 (fun e v ν he => by
      by_cases h2 : e = 2
      · rw [if_pos h2, h2]
        refine VX_catch (by decide) (name := "java/lang/IllegalArgumentException") [] ⟨0, 9, 12, 13⟩ [] rfl (fun z hz => by cases hz) rfl (by decide) wd_542 (by decide) (fun q => ?_)
        refine V_astore_n (κ := KL_load) (pc := 12) (lv' := [(3, (7, q)), (0, (2, x0)), (1, (0, x1)), (2, (2, x2))]) dL_load_12 rfl (by decide) rfl ?_
        refine V_iconst (κ := KL_load) (pc := 13) dL_load_13 ⟨by decide, by decide⟩ ?_
        exact V_ireturn (κ := KL_load) (pc := 14) rfl rfl dL_load_14
      rw [if_neg h2]
      exact VX_none) fun t101 u102 => ?_
  refine V_i2l (κ := KL_load) (pc := 7) dL_load_7 ?_
  refine V_lastore (κ := KL_load) (pc := 8) dL_load_8 fun u103 => ?_
  refine V_goto (κ := KL_load) (pc := 9) (tgt := 15) dL_load_9 rfl ?_
  refine V_iconst (κ := KL_load) (pc := 15) dL_load_15 ⟨by decide, by decide⟩ ?_
  exact V_ireturn (κ := KL_load) (pc := 16) rfl rfl dL_load_16
theorem con_L_load (a0 a1 a2 : Int) (μ : Mem) : Con 82 yL_load (.codeWith yL_load cL_load 4 (some .int) [(0, 9, 12, 13)]) 0 [(2, a0), (0, a1), (2, a2)] μ (FL_load a0 a1 a2 μ) := Con_introH KL_load (by decide) rfl (fun h => by cases h) (by decide) rfl (Nat.le_of_ble_eq_true rfl) (fun Γ => VBL_load_0 _ _ _ _)
abbrev KL_moire : Kap := (RL, cL_moire, 5, 8, 0, (some .int), false, tableOf [(0, 9, 12, 25)])
theorem VBL_moire_0 {Γ : Gam} (x0 x1 x2 x3 : Int) (μ : Mem) : V Γ KL_moire 0 [(0, (2, x0)), (1, (0, x1)), (2, (0, x2)), (3, (2, x3))] [] μ (BL_moire_0 x0 x1 x2 x3 μ) := by
  unfold BL_moire_0
  refine V_aload_n (κ := KL_moire) (pc := 0) dL_moire_0 3 rfl rfl ?_
  refine V_iconst (κ := KL_moire) (pc := 1) dL_moire_1 ⟨by decide, by decide⟩ ?_
  refine V_aload_n (κ := KL_moire) (pc := 2) dL_moire_2 0 rfl rfl ?_
  refine V_iload_n (κ := KL_moire) (pc := 3) dL_moire_3 1 rfl ?_
  refine V_iload_n (κ := KL_moire) (pc := 4) dL_moire_4 2 rfl ?_
  refine V_callV (ci := 6) (T := TX6) (N := 9) rfl (by decide) (κ := KL_moire) (pc := 5) (con_X6_moire _ _ _ _) mth_X6_moire rfl ⟨wd_851, wd_852⟩ wd_850 (st0 := [(0, 0), (2, x3)]) rfl rfl (by decide) (Nat.le_of_ble_eq_true rfl) dL_moire_5 (fun e v ν he => by
      by_cases h1 : e = 1
      · rw [if_pos h1, h1]
        refine VX_catch (by decide) (name := "java/lang/IndexOutOfBoundsException") [] ⟨0, 9, 12, 25⟩ [] rfl (fun z hz => by cases hz) rfl (by decide) wd_770 (by decide) (fun q => ?_)
        refine V_astore (κ := KL_moire) (pc := 12) (lv' := [(4, (7, q)), (0, (2, x0)), (1, (0, x1)), (2, (0, x2)), (3, (2, x3))]) dL_moire_12 rfl (by decide) rfl ?_
        refine V_iconst (κ := KL_moire) (pc := 14) dL_moire_14 ⟨by decide, by decide⟩ ?_
        exact V_ireturn (κ := KL_moire) (pc := 15) rfl rfl dL_moire_15
      rw [if_neg h1]
      exact VX_none) fun t101 u102 => ?_
  refine V_dastore (κ := KL_moire) (pc := 8) dL_moire_8 fun u103 => ?_
  refine V_goto (κ := KL_moire) (pc := 9) (tgt := 16) dL_moire_9 rfl ?_
  refine V_iconst (κ := KL_moire) (pc := 16) dL_moire_16 ⟨by decide, by decide⟩ ?_
  exact V_ireturn (κ := KL_moire) (pc := 17) rfl rfl dL_moire_17
theorem con_L_moire (a0 a1 a2 a3 : Int) (μ : Mem) : Con 8 yL_moire (.codeWith yL_moire cL_moire 5 (some .int) [(0, 9, 12, 25)]) 0 [(2, a0), (0, a1), (0, a2), (2, a3)] μ (FL_moire a0 a1 a2 a3 μ) := Con_introH KL_moire (by decide) rfl (fun h => by cases h) (by decide) rfl (Nat.le_of_ble_eq_true rfl) (fun Γ => VBL_moire_0 _ _ _ _ _)
abbrev KL_off : Kap := (RL, cL_off, 5, 8, 0, (some .int), false, tableOf [(0, 10, 13, 25), (0, 10, 17, 44)])
theorem VBL_off_0 {Γ : Gam} (x0 x1 x2 x3 : Int) (μ : Mem) : V Γ KL_off 0 [(0, (2, x0)), (1, (0, x1)), (2, (0, x2)), (3, (2, x3))] [] μ (BL_off_0 x0 x1 x2 x3 μ) := by
  unfold BL_off_0
  refine V_aload_n (κ := KL_off) (pc := 0) dL_off_0 3 rfl rfl ?_
  refine V_iconst (κ := KL_off) (pc := 1) dL_off_1 ⟨by decide, by decide⟩ ?_
  refine V_aload_n (κ := KL_off) (pc := 2) dL_off_2 0 rfl rfl ?_
  refine V_iload_n (κ := KL_off) (pc := 3) dL_off_3 1 rfl ?_
  refine V_iload_n (κ := KL_off) (pc := 4) dL_off_4 2 rfl ?_
  refine V_callV (ci := 6) (T := TX6) (N := 9) rfl (by decide) (κ := KL_off) (pc := 5) (con_X6_off _ _ _ _) mth_X6_off rfl ⟨wd_817, wd_818⟩ wd_816 (st0 := [(0, 0), (2, x3)]) rfl rfl (by decide) (Nat.le_of_ble_eq_true rfl) dL_off_5 (fun e v ν he => by
      by_cases h1 : e = 1
      · rw [if_pos h1, h1]
        refine VX_catch (by decide) (name := "java/lang/IndexOutOfBoundsException") [] ⟨0, 10, 13, 25⟩ [⟨0, 10, 17, 44⟩] rfl (fun z hz => by cases hz) rfl (by decide) wd_770 (by decide) (fun q => ?_)
        refine V_astore (κ := KL_off) (pc := 13) (lv' := [(4, (7, q)), (0, (2, x0)), (1, (0, x1)), (2, (0, x2)), (3, (2, x3))]) dL_off_13 rfl (by decide) rfl ?_
        refine V_iconst (κ := KL_off) (pc := 15) dL_off_15 ⟨by decide, by decide⟩ ?_
        exact V_ireturn (κ := KL_off) (pc := 16) rfl rfl dL_off_16
      rw [if_neg h1]
      by_cases h4 : e = 4
      · rw [if_pos h4, h4]
        refine VX_catch (by decide) (name := "java/util/NoSuchElementException") [⟨0, 10, 13, 25⟩] ⟨0, 10, 17, 44⟩ [] rfl (fun z hz => by rw [List.mem_singleton.mp hz]; exact ⟨by decide, "java/lang/IndexOutOfBoundsException", wd_770, by decide⟩) rfl (by decide) wd_815 (by decide) (fun q => ?_)
        refine V_astore (κ := KL_off) (pc := 17) (lv' := [(4, (7, q)), (0, (2, x0)), (1, (0, x1)), (2, (0, x2)), (3, (2, x3))]) dL_off_17 rfl (by decide) rfl ?_
        refine V_iconst (κ := KL_off) (pc := 19) dL_off_19 ⟨by decide, by decide⟩ ?_
        exact V_ireturn (κ := KL_off) (pc := 20) rfl rfl dL_off_20
      rw [if_neg h4]
      exact VX_none) fun t101 u102 => ?_
  refine V_i2l (κ := KL_off) (pc := 8) dL_off_8 ?_
  refine V_lastore (κ := KL_off) (pc := 9) dL_off_9 fun u103 => ?_
  refine V_goto (κ := KL_off) (pc := 10) (tgt := 21) dL_off_10 rfl ?_
  refine V_iconst (κ := KL_off) (pc := 21) dL_off_21 ⟨by decide, by decide⟩ ?_
  exact V_ireturn (κ := KL_off) (pc := 22) rfl rfl dL_off_22
theorem con_L_off (a0 a1 a2 a3 : Int) (μ : Mem) : Con 8 yL_off (.codeWith yL_off cL_off 5 (some .int) [(0, 10, 13, 25), (0, 10, 17, 44)]) 0 [(2, a0), (0, a1), (0, a2), (2, a3)] μ (FL_off a0 a1 a2 a3 μ) := Con_introH KL_off (by decide) rfl (fun h => by cases h) (by decide) rfl (Nat.le_of_ble_eq_true rfl) (fun Γ => VBL_off_0 _ _ _ _ _)
abbrev KL_paint : Kap := (RL, cL_paint, 8, 8, 0, (some .int), false, tableOf [(0, 16, 19, 25), (0, 16, 23, 13)])
theorem VBL_paint_0 {Γ : Gam} (x0 x1 x2 x3 x4 x5 x6 : Int) (μ : Mem) : V Γ KL_paint 0 [(0, (2, x0)), (1, (0, x1)), (2, (0, x2)), (3, (0, x3)), (4, (0, x4)), (5, (0, x5)), (6, (2, x6))] [] μ (BL_paint_0 x0 x1 x2 x3 x4 x5 x6 μ) := by
  unfold BL_paint_0
  refine V_aload (κ := KL_paint) (pc := 0) dL_paint_0 6 rfl rfl ?_
  refine V_iconst (κ := KL_paint) (pc := 2) dL_paint_2 ⟨by decide, by decide⟩ ?_
  refine V_aload_n (κ := KL_paint) (pc := 3) dL_paint_3 0 rfl rfl ?_
  refine V_iload_n (κ := KL_paint) (pc := 4) dL_paint_4 1 rfl ?_
  refine V_iload_n (κ := KL_paint) (pc := 5) dL_paint_5 2 rfl ?_
  refine V_iload_n (κ := KL_paint) (pc := 6) dL_paint_6 3 rfl ?_
  refine V_iload (κ := KL_paint) (pc := 7) dL_paint_7 4 rfl ?_
  refine V_iload (κ := KL_paint) (pc := 9) dL_paint_9 5 rfl ?_
  refine V_callV (ci := 6) (T := TX6) (N := 9) rfl (by decide) (κ := KL_paint) (pc := 11) (con_X6_paint _ _ _ _ _ _ _) mth_X6_paint rfl ⟨wd_877, wd_878⟩ wd_876 (st0 := [(0, 0), (2, x6)]) rfl rfl (by decide) (Nat.le_of_ble_eq_true rfl) dL_paint_11 (fun e v ν he => by
      by_cases h1 : e = 1
      · rw [if_pos h1, h1]
        refine VX_catch (by decide) (name := "java/lang/IndexOutOfBoundsException") [] ⟨0, 16, 19, 25⟩ [⟨0, 16, 23, 13⟩] rfl (fun z hz => by cases hz) rfl (by decide) wd_770 (by decide) (fun q => ?_)
        refine V_astore (κ := KL_paint) (pc := 19) (lv' := [(7, (7, q)), (0, (2, x0)), (1, (0, x1)), (2, (0, x2)), (3, (0, x3)), (4, (0, x4)), (5, (0, x5)), (6, (2, x6))]) dL_paint_19 rfl (by decide) rfl ?_
        refine V_iconst (κ := KL_paint) (pc := 21) dL_paint_21 ⟨by decide, by decide⟩ ?_
        exact V_ireturn (κ := KL_paint) (pc := 22) rfl rfl dL_paint_22
      rw [if_neg h1]
      by_cases h2 : e = 2
      · rw [if_pos h2, h2]
        refine VX_catch (by decide) (name := "java/lang/IllegalArgumentException") [⟨0, 16, 19, 25⟩] ⟨0, 16, 23, 13⟩ [] rfl (fun z hz => by rw [List.mem_singleton.mp hz]; exact ⟨by decide, "java/lang/IndexOutOfBoundsException", wd_770, by decide⟩) rfl (by decide) wd_542 (by decide) (fun q => ?_)
        refine V_astore (κ := KL_paint) (pc := 23) (lv' := [(7, (7, q)), (0, (2, x0)), (1, (0, x1)), (2, (0, x2)), (3, (0, x3)), (4, (0, x4)), (5, (0, x5)), (6, (2, x6))]) dL_paint_23 rfl (by decide) rfl ?_
        refine V_iconst (κ := KL_paint) (pc := 25) dL_paint_25 ⟨by decide, by decide⟩ ?_
        exact V_ireturn (κ := KL_paint) (pc := 26) rfl rfl dL_paint_26
      rw [if_neg h2]
      exact VX_none) fun t101 u102 => ?_
  refine V_i2l (κ := KL_paint) (pc := 14) dL_paint_14 ?_
  refine V_lastore (κ := KL_paint) (pc := 15) dL_paint_15 fun u103 => ?_
  refine V_goto (κ := KL_paint) (pc := 16) (tgt := 27) dL_paint_16 rfl ?_
  refine V_iconst (κ := KL_paint) (pc := 27) dL_paint_27 ⟨by decide, by decide⟩ ?_
  exact V_ireturn (κ := KL_paint) (pc := 28) rfl rfl dL_paint_28
theorem con_L_paint (a0 a1 a2 a3 a4 a5 a6 : Int) (μ : Mem) : Con 8 yL_paint (.codeWith yL_paint cL_paint 8 (some .int) [(0, 16, 19, 25), (0, 16, 23, 13)]) 0 [(2, a0), (0, a1), (0, a2), (0, a3), (0, a4), (0, a5), (2, a6)] μ (FL_paint a0 a1 a2 a3 a4 a5 a6 μ) := Con_introH KL_paint (by decide) rfl (fun h => by cases h) (by decide) rfl (Nat.le_of_ble_eq_true rfl) (fun Γ => VBL_paint_0 _ _ _ _ _ _ _ _)
abbrev KL_plate : Kap := (RL, cL_plate, 5, 8, 0, (some .int), false, tableOf [(0, 10, 13, 25), (0, 10, 17, 13)])
theorem VBL_plate_0 {Γ : Gam} (x0 x1 x2 x3 : Int) (μ : Mem) : V Γ KL_plate 0 [(0, (2, x0)), (1, (0, x1)), (2, (0, x2)), (3, (2, x3))] [] μ (BL_plate_0 x0 x1 x2 x3 μ) := by
  unfold BL_plate_0
  refine V_aload_n (κ := KL_plate) (pc := 0) dL_plate_0 3 rfl rfl ?_
  refine V_iconst (κ := KL_plate) (pc := 1) dL_plate_1 ⟨by decide, by decide⟩ ?_
  refine V_aload_n (κ := KL_plate) (pc := 2) dL_plate_2 0 rfl rfl ?_
  refine V_iload_n (κ := KL_plate) (pc := 3) dL_plate_3 1 rfl ?_
  refine V_iload_n (κ := KL_plate) (pc := 4) dL_plate_4 2 rfl ?_
  refine V_callV (ci := 6) (T := TX6) (N := 9) rfl (by decide) (κ := KL_plate) (pc := 5) (con_X6_plate _ _ _ _) mth_X6_plate rfl ⟨wd_496, wd_497⟩ wd_771 (st0 := [(0, 0), (2, x3)]) rfl rfl (by decide) (Nat.le_of_ble_eq_true rfl) dL_plate_5 (fun e v ν he => by
      by_cases h1 : e = 1
      · rw [if_pos h1, h1]
        refine VX_catch (by decide) (name := "java/lang/IndexOutOfBoundsException") [] ⟨0, 10, 13, 25⟩ [⟨0, 10, 17, 13⟩] rfl (fun z hz => by cases hz) rfl (by decide) wd_770 (by decide) (fun q => ?_)
        refine V_astore (κ := KL_plate) (pc := 13) (lv' := [(4, (7, q)), (0, (2, x0)), (1, (0, x1)), (2, (0, x2)), (3, (2, x3))]) dL_plate_13 rfl (by decide) rfl ?_
        refine V_iconst (κ := KL_plate) (pc := 15) dL_plate_15 ⟨by decide, by decide⟩ ?_
        exact V_ireturn (κ := KL_plate) (pc := 16) rfl rfl dL_plate_16
      rw [if_neg h1]
      by_cases h2 : e = 2
      · rw [if_pos h2, h2]
        refine VX_catch (by decide) (name := "java/lang/IllegalArgumentException") [⟨0, 10, 13, 25⟩] ⟨0, 10, 17, 13⟩ [] rfl (fun z hz => by rw [List.mem_singleton.mp hz]; exact ⟨by decide, "java/lang/IndexOutOfBoundsException", wd_770, by decide⟩) rfl (by decide) wd_542 (by decide) (fun q => ?_)
        refine V_astore (κ := KL_plate) (pc := 17) (lv' := [(4, (7, q)), (0, (2, x0)), (1, (0, x1)), (2, (0, x2)), (3, (2, x3))]) dL_plate_17 rfl (by decide) rfl ?_
        refine V_iconst (κ := KL_plate) (pc := 19) dL_plate_19 ⟨by decide, by decide⟩ ?_
        exact V_ireturn (κ := KL_plate) (pc := 20) rfl rfl dL_plate_20
      rw [if_neg h2]
      exact VX_none) fun t101 u102 => ?_
  refine V_i2l (κ := KL_plate) (pc := 8) dL_plate_8 ?_
  refine V_lastore (κ := KL_plate) (pc := 9) dL_plate_9 fun u103 => ?_
  refine V_goto (κ := KL_plate) (pc := 10) (tgt := 21) dL_plate_10 rfl ?_
  refine V_iconst (κ := KL_plate) (pc := 21) dL_plate_21 ⟨by decide, by decide⟩ ?_
  exact V_ireturn (κ := KL_plate) (pc := 22) rfl rfl dL_plate_22
theorem con_L_plate (a0 a1 a2 a3 : Int) (μ : Mem) : Con 8 yL_plate (.codeWith yL_plate cL_plate 5 (some .int) [(0, 10, 13, 25), (0, 10, 17, 13)]) 0 [(2, a0), (0, a1), (0, a2), (2, a3)] μ (FL_plate a0 a1 a2 a3 μ) := Con_introH KL_plate (by decide) rfl (fun h => by cases h) (by decide) rfl (Nat.le_of_ble_eq_true rfl) (fun Γ => VBL_plate_0 _ _ _ _ _)
abbrev KL_press : Kap := (RL, cL_press, 4, 9, 0, (some .int), false, tableOf [(0, 9, 12, 13), (0, 9, 15, 88)])
theorem VBL_press_0 {Γ : Gam} (x0 x1 x2 : Int) (μ : Mem) : V Γ KL_press 0 [(0, (2, x0)), (1, (0, x1)), (2, (2, x2))] [] μ (BL_press_0 x0 x1 x2 μ) := by
  unfold BL_press_0
  refine V_aload_n (κ := KL_press) (pc := 0) dL_press_0 2 rfl rfl ?_
  refine V_iconst (κ := KL_press) (pc := 1) dL_press_1 ⟨by decide, by decide⟩ ?_
  refine V_aload_n (κ := KL_press) (pc := 2) dL_press_2 0 rfl rfl ?_
  refine V_iload_n (κ := KL_press) (pc := 3) dL_press_3 1 rfl ?_
  refine V_callV (ci := 6) (T := TX6) (N := 9) rfl (by decide) (κ := KL_press) (pc := 4) (con_X6_press _ _ _) mth_X6_press rfl ⟨wd_955, wd_956⟩ wd_954 (st0 := [(0, 0), (2, x2)]) rfl rfl (by decide) (Nat.le_of_ble_eq_true rfl) dL_press_4 (fun e v ν he => by
      by_cases h2 : e = 2
      · rw [if_pos h2, h2]
        refine VX_catch (by decide) (name := "java/lang/IllegalArgumentException") [] ⟨0, 9, 12, 13⟩ [⟨0, 9, 15, 88⟩] rfl (fun z hz => by cases hz) rfl (by decide) wd_542 (by decide) (fun q => ?_)
        refine V_astore_n (κ := KL_press) (pc := 12) (lv' := [(3, (7, q)), (0, (2, x0)), (1, (0, x1)), (2, (2, x2))]) dL_press_12 rfl (by decide) rfl ?_
        refine V_iconst (κ := KL_press) (pc := 13) dL_press_13 ⟨by decide, by decide⟩ ?_
        exact V_ireturn (κ := KL_press) (pc := 14) rfl rfl dL_press_14
      rw [if_neg h2]
      by_cases h3 : e = 3
      · rw [if_pos h3, h3]
        refine VX_catch (by decide) (name := "java/lang/IllegalStateException") [⟨0, 9, 12, 13⟩] ⟨0, 9, 15, 88⟩ [] rfl (fun z hz => by rw [List.mem_singleton.mp hz]; exact ⟨by decide, "java/lang/IllegalArgumentException", wd_542, by decide⟩) rfl (by decide) wd_953 (by decide) (fun q => ?_)
        refine V_astore_n (κ := KL_press) (pc := 15) (lv' := [(3, (7, q)), (0, (2, x0)), (1, (0, x1)), (2, (2, x2))]) dL_press_15 rfl (by decide) rfl ?_
        refine V_iconst (κ := KL_press) (pc := 16) dL_press_16 ⟨by decide, by decide⟩ ?_
        exact V_ireturn (κ := KL_press) (pc := 17) rfl rfl dL_press_17
      rw [if_neg h3]
      exact VX_none) fun t101 u102 => ?_
  refine V_i2l (κ := KL_press) (pc := 7) dL_press_7 ?_
  refine V_lastore (κ := KL_press) (pc := 8) dL_press_8 fun u103 => ?_
  refine V_goto (κ := KL_press) (pc := 9) (tgt := 18) dL_press_9 rfl ?_
  refine V_iconst (κ := KL_press) (pc := 18) dL_press_18 ⟨by decide, by decide⟩ ?_
  exact V_ireturn (κ := KL_press) (pc := 19) rfl rfl dL_press_19
theorem con_L_press (a0 a1 a2 : Int) (μ : Mem) : Con 9 yL_press (.codeWith yL_press cL_press 4 (some .int) [(0, 9, 12, 13), (0, 9, 15, 88)]) 0 [(2, a0), (0, a1), (2, a2)] μ (FL_press a0 a1 a2 μ) := Con_introH KL_press (by decide) rfl (fun h => by cases h) (by decide) rfl (Nat.le_of_ble_eq_true rfl) (fun Γ => VBL_press_0 _ _ _ _)
abbrev KL_shape : Kap := (RL, cL_shape, 5, 8, 0, (some .int), false, tableOf [(0, 10, 13, 25), (0, 10, 17, 13)])
theorem VBL_shape_0 {Γ : Gam} (x0 x1 x2 x3 : Int) (μ : Mem) : V Γ KL_shape 0 [(0, (2, x0)), (1, (0, x1)), (2, (0, x2)), (3, (2, x3))] [] μ (BL_shape_0 x0 x1 x2 x3 μ) := by
  unfold BL_shape_0
  refine V_aload_n (κ := KL_shape) (pc := 0) dL_shape_0 3 rfl rfl ?_
  refine V_iconst (κ := KL_shape) (pc := 1) dL_shape_1 ⟨by decide, by decide⟩ ?_
  refine V_aload_n (κ := KL_shape) (pc := 2) dL_shape_2 0 rfl rfl ?_
  refine V_iload_n (κ := KL_shape) (pc := 3) dL_shape_3 1 rfl ?_
  refine V_iload_n (κ := KL_shape) (pc := 4) dL_shape_4 2 rfl ?_
  refine V_callV (ci := 6) (T := TX6) (N := 9) rfl (by decide) (κ := KL_shape) (pc := 5) (con_X6_shape _ _ _ _) mth_X6_shape rfl ⟨wd_907, wd_908⟩ wd_906 (st0 := [(0, 0), (2, x3)]) rfl rfl (by decide) (Nat.le_of_ble_eq_true rfl) dL_shape_5 (fun e v ν he => by
      by_cases h1 : e = 1
      · rw [if_pos h1, h1]
        refine VX_catch (by decide) (name := "java/lang/IndexOutOfBoundsException") [] ⟨0, 10, 13, 25⟩ [⟨0, 10, 17, 13⟩] rfl (fun z hz => by cases hz) rfl (by decide) wd_770 (by decide) (fun q => ?_)
        refine V_astore (κ := KL_shape) (pc := 13) (lv' := [(4, (7, q)), (0, (2, x0)), (1, (0, x1)), (2, (0, x2)), (3, (2, x3))]) dL_shape_13 rfl (by decide) rfl ?_
        refine V_iconst (κ := KL_shape) (pc := 15) dL_shape_15 ⟨by decide, by decide⟩ ?_
        exact V_ireturn (κ := KL_shape) (pc := 16) rfl rfl dL_shape_16
      rw [if_neg h1]
      by_cases h2 : e = 2
      · rw [if_pos h2, h2]
        refine VX_catch (by decide) (name := "java/lang/IllegalArgumentException") [⟨0, 10, 13, 25⟩] ⟨0, 10, 17, 13⟩ [] rfl (fun z hz => by rw [List.mem_singleton.mp hz]; exact ⟨by decide, "java/lang/IndexOutOfBoundsException", wd_770, by decide⟩) rfl (by decide) wd_542 (by decide) (fun q => ?_)
        refine V_astore (κ := KL_shape) (pc := 17) (lv' := [(4, (7, q)), (0, (2, x0)), (1, (0, x1)), (2, (0, x2)), (3, (2, x3))]) dL_shape_17 rfl (by decide) rfl ?_
        refine V_iconst (κ := KL_shape) (pc := 19) dL_shape_19 ⟨by decide, by decide⟩ ?_
        exact V_ireturn (κ := KL_shape) (pc := 20) rfl rfl dL_shape_20
      rw [if_neg h2]
      exact VX_none) fun t101 u102 => ?_
  refine V_i2l (κ := KL_shape) (pc := 8) dL_shape_8 ?_
  refine V_lastore (κ := KL_shape) (pc := 9) dL_shape_9 fun u103 => ?_
  refine V_goto (κ := KL_shape) (pc := 10) (tgt := 21) dL_shape_10 rfl ?_
  refine V_iconst (κ := KL_shape) (pc := 21) dL_shape_21 ⟨by decide, by decide⟩ ?_
  exact V_ireturn (κ := KL_shape) (pc := 22) rfl rfl dL_shape_22
theorem con_L_shape (a0 a1 a2 a3 : Int) (μ : Mem) : Con 8 yL_shape (.codeWith yL_shape cL_shape 5 (some .int) [(0, 10, 13, 25), (0, 10, 17, 13)]) 0 [(2, a0), (0, a1), (0, a2), (2, a3)] μ (FL_shape a0 a1 a2 a3 μ) := Con_introH KL_shape (by decide) rfl (fun h => by cases h) (by decide) rfl (Nat.le_of_ble_eq_true rfl) (fun Γ => VBL_shape_0 _ _ _ _ _)
abbrev KL_shift : Kap := (RL, cL_shift, 6, 8, 0, (some .int), false, tableOf [(0, 12, 15, 25), (0, 12, 19, 13)])
theorem VBL_shift_0 {Γ : Gam} (x0 x1 x2 x3 x4 : Int) (μ : Mem) : V Γ KL_shift 0 [(0, (2, x0)), (1, (0, x1)), (2, (0, x2)), (3, (0, x3)), (4, (2, x4))] [] μ (BL_shift_0 x0 x1 x2 x3 x4 μ) := by
  unfold BL_shift_0
  refine V_aload (κ := KL_shift) (pc := 0) dL_shift_0 4 rfl rfl ?_
  refine V_iconst (κ := KL_shift) (pc := 2) dL_shift_2 ⟨by decide, by decide⟩ ?_
  refine V_aload_n (κ := KL_shift) (pc := 3) dL_shift_3 0 rfl rfl ?_
  refine V_iload_n (κ := KL_shift) (pc := 4) dL_shift_4 1 rfl ?_
  refine V_iload_n (κ := KL_shift) (pc := 5) dL_shift_5 2 rfl ?_
  refine V_iload_n (κ := KL_shift) (pc := 6) dL_shift_6 3 rfl ?_
  refine V_callV (ci := 6) (T := TX6) (N := 9) rfl (by decide) (κ := KL_shift) (pc := 7) (con_X6_shift _ _ _ _ _) mth_X6_shift rfl ⟨wd_915, wd_916⟩ wd_914 (st0 := [(0, 0), (2, x4)]) rfl rfl (by decide) (Nat.le_of_ble_eq_true rfl) dL_shift_7 (fun e v ν he => by
      by_cases h1 : e = 1
      · rw [if_pos h1, h1]
        refine VX_catch (by decide) (name := "java/lang/IndexOutOfBoundsException") [] ⟨0, 12, 15, 25⟩ [⟨0, 12, 19, 13⟩] rfl (fun z hz => by cases hz) rfl (by decide) wd_770 (by decide) (fun q => ?_)
        refine V_astore (κ := KL_shift) (pc := 15) (lv' := [(5, (7, q)), (0, (2, x0)), (1, (0, x1)), (2, (0, x2)), (3, (0, x3)), (4, (2, x4))]) dL_shift_15 rfl (by decide) rfl ?_
        refine V_iconst (κ := KL_shift) (pc := 17) dL_shift_17 ⟨by decide, by decide⟩ ?_
        exact V_ireturn (κ := KL_shift) (pc := 18) rfl rfl dL_shift_18
      rw [if_neg h1]
      by_cases h2 : e = 2
      · rw [if_pos h2, h2]
        refine VX_catch (by decide) (name := "java/lang/IllegalArgumentException") [⟨0, 12, 15, 25⟩] ⟨0, 12, 19, 13⟩ [] rfl (fun z hz => by rw [List.mem_singleton.mp hz]; exact ⟨by decide, "java/lang/IndexOutOfBoundsException", wd_770, by decide⟩) rfl (by decide) wd_542 (by decide) (fun q => ?_)
        refine V_astore (κ := KL_shift) (pc := 19) (lv' := [(5, (7, q)), (0, (2, x0)), (1, (0, x1)), (2, (0, x2)), (3, (0, x3)), (4, (2, x4))]) dL_shift_19 rfl (by decide) rfl ?_
        refine V_iconst (κ := KL_shift) (pc := 21) dL_shift_21 ⟨by decide, by decide⟩ ?_
        exact V_ireturn (κ := KL_shift) (pc := 22) rfl rfl dL_shift_22
      rw [if_neg h2]
      exact VX_none) fun t101 u102 => ?_
  refine V_i2l (κ := KL_shift) (pc := 10) dL_shift_10 ?_
  refine V_lastore (κ := KL_shift) (pc := 11) dL_shift_11 fun u103 => ?_
  refine V_goto (κ := KL_shift) (pc := 12) (tgt := 23) dL_shift_12 rfl ?_
  refine V_iconst (κ := KL_shift) (pc := 23) dL_shift_23 ⟨by decide, by decide⟩ ?_
  exact V_ireturn (κ := KL_shift) (pc := 24) rfl rfl dL_shift_24
theorem con_L_shift (a0 a1 a2 a3 a4 : Int) (μ : Mem) : Con 8 yL_shift (.codeWith yL_shift cL_shift 6 (some .int) [(0, 12, 15, 25), (0, 12, 19, 13)]) 0 [(2, a0), (0, a1), (0, a2), (0, a3), (2, a4)] μ (FL_shift a0 a1 a2 a3 a4 μ) := Con_introH KL_shift (by decide) rfl (fun h => by cases h) (by decide) rfl (Nat.le_of_ble_eq_true rfl) (fun Γ => VBL_shift_0 _ _ _ _ _ _)
abbrev KL_state : Kap := (RL, cL_state, 4, 8, 0, (some .int), false, tableOf [(0, 9, 12, 13)])
theorem VBL_state_0 {Γ : Gam} (x0 x1 x2 : Int) (μ : Mem) : V Γ KL_state 0 [(0, (2, x0)), (1, (0, x1)), (2, (2, x2))] [] μ (BL_state_0 x0 x1 x2 μ) := by
  unfold BL_state_0
  refine V_aload_n (κ := KL_state) (pc := 0) dL_state_0 2 rfl rfl ?_
  refine V_iconst (κ := KL_state) (pc := 1) dL_state_1 ⟨by decide, by decide⟩ ?_
  refine V_aload_n (κ := KL_state) (pc := 2) dL_state_2 0 rfl rfl ?_
  refine V_iload_n (κ := KL_state) (pc := 3) dL_state_3 1 rfl ?_
  refine V_callV (ci := 6) (T := TX6) (N := 9) rfl (by decide) (κ := KL_state) (pc := 4) (con_X6_state _ _ _) mth_X6_state rfl ⟨wd_402, wd_403⟩ wd_757 (st0 := [(0, 0), (2, x2)]) rfl rfl (by decide) (Nat.le_of_ble_eq_true rfl) dL_state_4 (fun e v ν he => by
      by_cases h2 : e = 2
      · rw [if_pos h2, h2]
        refine VX_catch (by decide) (name := "java/lang/IllegalArgumentException") [] ⟨0, 9, 12, 13⟩ [] rfl (fun z hz => by cases hz) rfl (by decide) wd_542 (by decide) (fun q => ?_)
        refine V_astore_n (κ := KL_state) (pc := 12) (lv' := [(3, (7, q)), (0, (2, x0)), (1, (0, x1)), (2, (2, x2))]) dL_state_12 rfl (by decide) rfl ?_
        refine V_iconst (κ := KL_state) (pc := 13) dL_state_13 ⟨by decide, by decide⟩ ?_
        exact V_ireturn (κ := KL_state) (pc := 14) rfl rfl dL_state_14
      rw [if_neg h2]
      exact VX_none) fun t101 u102 => ?_
  refine V_i2l (κ := KL_state) (pc := 7) dL_state_7 ?_
  refine V_lastore (κ := KL_state) (pc := 8) dL_state_8 fun u103 => ?_
  refine V_goto (κ := KL_state) (pc := 9) (tgt := 15) dL_state_9 rfl ?_
  refine V_iconst (κ := KL_state) (pc := 15) dL_state_15 ⟨by decide, by decide⟩ ?_
  exact V_ireturn (κ := KL_state) (pc := 16) rfl rfl dL_state_16
theorem con_L_state (a0 a1 a2 : Int) (μ : Mem) : Con 8 yL_state (.codeWith yL_state cL_state 4 (some .int) [(0, 9, 12, 13)]) 0 [(2, a0), (0, a1), (2, a2)] μ (FL_state a0 a1 a2 μ) := Con_introH KL_state (by decide) rfl (fun h => by cases h) (by decide) rfl (Nat.le_of_ble_eq_true rfl) (fun Γ => VBL_state_0 _ _ _ _)
abbrev KL_tone : Kap := (RL, cL_tone, 5, 8, 0, (some .int), false, tableOf [(0, 10, 13, 25)])
theorem VBL_tone_0 {Γ : Gam} (x0 x1 x2 x3 : Int) (μ : Mem) : V Γ KL_tone 0 [(0, (2, x0)), (1, (0, x1)), (2, (0, x2)), (3, (2, x3))] [] μ (BL_tone_0 x0 x1 x2 x3 μ) := by
  unfold BL_tone_0
  refine V_aload_n (κ := KL_tone) (pc := 0) dL_tone_0 3 rfl rfl ?_
  refine V_iconst (κ := KL_tone) (pc := 1) dL_tone_1 ⟨by decide, by decide⟩ ?_
  refine V_aload_n (κ := KL_tone) (pc := 2) dL_tone_2 0 rfl rfl ?_
  refine V_iload_n (κ := KL_tone) (pc := 3) dL_tone_3 1 rfl ?_
  refine V_iload_n (κ := KL_tone) (pc := 4) dL_tone_4 2 rfl ?_
  refine V_callV (ci := 6) (T := TX6) (N := 9) rfl (by decide) (κ := KL_tone) (pc := 5) (con_X6_tone _ _ _ _) mth_X6_tone rfl ⟨wd_794, wd_795⟩ wd_793 (st0 := [(0, 0), (2, x3)]) rfl rfl (by decide) (Nat.le_of_ble_eq_true rfl) dL_tone_5 (fun e v ν he => by
      by_cases h1 : e = 1
      · rw [if_pos h1, h1]
        refine VX_catch (by decide) (name := "java/lang/IndexOutOfBoundsException") [] ⟨0, 10, 13, 25⟩ [] rfl (fun z hz => by cases hz) rfl (by decide) wd_770 (by decide) (fun q => ?_)
        refine V_astore (κ := KL_tone) (pc := 13) (lv' := [(4, (7, q)), (0, (2, x0)), (1, (0, x1)), (2, (0, x2)), (3, (2, x3))]) dL_tone_13 rfl (by decide) rfl ?_
        refine V_iconst (κ := KL_tone) (pc := 15) dL_tone_15 ⟨by decide, by decide⟩ ?_
        exact V_ireturn (κ := KL_tone) (pc := 16) rfl rfl dL_tone_16
      rw [if_neg h1]
      exact VX_none) fun t101 u102 => ?_
  refine V_i2l (κ := KL_tone) (pc := 8) dL_tone_8 ?_
  refine V_lastore (κ := KL_tone) (pc := 9) dL_tone_9 fun u103 => ?_
  refine V_goto (κ := KL_tone) (pc := 10) (tgt := 17) dL_tone_10 rfl ?_
  refine V_iconst (κ := KL_tone) (pc := 17) dL_tone_17 ⟨by decide, by decide⟩ ?_
  exact V_ireturn (κ := KL_tone) (pc := 18) rfl rfl dL_tone_18
theorem con_L_tone (a0 a1 a2 a3 : Int) (μ : Mem) : Con 8 yL_tone (.codeWith yL_tone cL_tone 5 (some .int) [(0, 10, 13, 25)]) 0 [(2, a0), (0, a1), (0, a2), (2, a3)] μ (FL_tone a0 a1 a2 a3 μ) := Con_introH KL_tone (by decide) rfl (fun h => by cases h) (by decide) rfl (Nat.le_of_ble_eq_true rfl) (fun Γ => VBL_tone_0 _ _ _ _ _)
abbrev KL_turn : Kap := (RL, cL_turn, 6, 8, 0, (some .int), false, tableOf [(0, 12, 15, 25), (0, 12, 19, 13)])
theorem VBL_turn_0 {Γ : Gam} (x0 x1 x2 x3 x4 : Int) (μ : Mem) : V Γ KL_turn 0 [(0, (2, x0)), (1, (0, x1)), (2, (0, x2)), (3, (0, x3)), (4, (2, x4))] [] μ (BL_turn_0 x0 x1 x2 x3 x4 μ) := by
  unfold BL_turn_0
  refine V_aload (κ := KL_turn) (pc := 0) dL_turn_0 4 rfl rfl ?_
  refine V_iconst (κ := KL_turn) (pc := 2) dL_turn_2 ⟨by decide, by decide⟩ ?_
  refine V_aload_n (κ := KL_turn) (pc := 3) dL_turn_3 0 rfl rfl ?_
  refine V_iload_n (κ := KL_turn) (pc := 4) dL_turn_4 1 rfl ?_
  refine V_iload_n (κ := KL_turn) (pc := 5) dL_turn_5 2 rfl ?_
  refine V_iload_n (κ := KL_turn) (pc := 6) dL_turn_6 3 rfl ?_
  refine V_callV (ci := 6) (T := TX6) (N := 9) rfl (by decide) (κ := KL_turn) (pc := 7) (con_X6_turn _ _ _ _ _) mth_X6_turn rfl ⟨wd_899, wd_900⟩ wd_898 (st0 := [(0, 0), (2, x4)]) rfl rfl (by decide) (Nat.le_of_ble_eq_true rfl) dL_turn_7 (fun e v ν he => by
      by_cases h1 : e = 1
      · rw [if_pos h1, h1]
        refine VX_catch (by decide) (name := "java/lang/IndexOutOfBoundsException") [] ⟨0, 12, 15, 25⟩ [⟨0, 12, 19, 13⟩] rfl (fun z hz => by cases hz) rfl (by decide) wd_770 (by decide) (fun q => ?_)
        refine V_astore (κ := KL_turn) (pc := 15) (lv' := [(5, (7, q)), (0, (2, x0)), (1, (0, x1)), (2, (0, x2)), (3, (0, x3)), (4, (2, x4))]) dL_turn_15 rfl (by decide) rfl ?_
        refine V_iconst (κ := KL_turn) (pc := 17) dL_turn_17 ⟨by decide, by decide⟩ ?_
        exact V_ireturn (κ := KL_turn) (pc := 18) rfl rfl dL_turn_18
      rw [if_neg h1]
      by_cases h2 : e = 2
      · rw [if_pos h2, h2]
        refine VX_catch (by decide) (name := "java/lang/IllegalArgumentException") [⟨0, 12, 15, 25⟩] ⟨0, 12, 19, 13⟩ [] rfl (fun z hz => by rw [List.mem_singleton.mp hz]; exact ⟨by decide, "java/lang/IndexOutOfBoundsException", wd_770, by decide⟩) rfl (by decide) wd_542 (by decide) (fun q => ?_)
        refine V_astore (κ := KL_turn) (pc := 19) (lv' := [(5, (7, q)), (0, (2, x0)), (1, (0, x1)), (2, (0, x2)), (3, (0, x3)), (4, (2, x4))]) dL_turn_19 rfl (by decide) rfl ?_
        refine V_iconst (κ := KL_turn) (pc := 21) dL_turn_21 ⟨by decide, by decide⟩ ?_
        exact V_ireturn (κ := KL_turn) (pc := 22) rfl rfl dL_turn_22
      rw [if_neg h2]
      exact VX_none) fun t101 u102 => ?_
  refine V_i2l (κ := KL_turn) (pc := 10) dL_turn_10 ?_
  refine V_lastore (κ := KL_turn) (pc := 11) dL_turn_11 fun u103 => ?_
  refine V_goto (κ := KL_turn) (pc := 12) (tgt := 23) dL_turn_12 rfl ?_
  refine V_iconst (κ := KL_turn) (pc := 23) dL_turn_23 ⟨by decide, by decide⟩ ?_
  exact V_ireturn (κ := KL_turn) (pc := 24) rfl rfl dL_turn_24
theorem con_L_turn (a0 a1 a2 a3 a4 : Int) (μ : Mem) : Con 8 yL_turn (.codeWith yL_turn cL_turn 6 (some .int) [(0, 12, 15, 25), (0, 12, 19, 13)]) 0 [(2, a0), (0, a1), (0, a2), (0, a3), (2, a4)] μ (FL_turn a0 a1 a2 a3 a4 μ) := Con_introH KL_turn (by decide) rfl (fun h => by cases h) (by decide) rfl (Nat.le_of_ble_eq_true rfl) (fun Γ => VBL_turn_0 _ _ _ _ _ _)
abbrev KL_why : Kap := (RL, cL_why, 6, 8, 0, (some .int), false, tableOf [(0, 12, 15, 25)])
theorem VBL_why_0 {Γ : Gam} (x0 x1 x2 x3 x4 : Int) (μ : Mem) : V Γ KL_why 0 [(0, (2, x0)), (1, (0, x1)), (2, (0, x2)), (3, (0, x3)), (4, (2, x4))] [] μ (BL_why_0 x0 x1 x2 x3 x4 μ) := by
  unfold BL_why_0
  refine V_aload (κ := KL_why) (pc := 0) dL_why_0 4 rfl rfl ?_
  refine V_iconst (κ := KL_why) (pc := 2) dL_why_2 ⟨by decide, by decide⟩ ?_
  refine V_aload_n (κ := KL_why) (pc := 3) dL_why_3 0 rfl rfl ?_
  refine V_iload_n (κ := KL_why) (pc := 4) dL_why_4 1 rfl ?_
  refine V_iload_n (κ := KL_why) (pc := 5) dL_why_5 2 rfl ?_
  refine V_iload_n (κ := KL_why) (pc := 6) dL_why_6 3 rfl ?_
  refine V_callV (ci := 6) (T := TX6) (N := 9) rfl (by decide) (κ := KL_why) (pc := 7) (con_X6_why _ _ _ _ _) mth_X6_why rfl ⟨wd_808, wd_809⟩ wd_807 (st0 := [(0, 0), (2, x4)]) rfl rfl (by decide) (Nat.le_of_ble_eq_true rfl) dL_why_7 (fun e v ν he => by
      by_cases h1 : e = 1
      · rw [if_pos h1, h1]
        refine VX_catch (by decide) (name := "java/lang/IndexOutOfBoundsException") [] ⟨0, 12, 15, 25⟩ [] rfl (fun z hz => by cases hz) rfl (by decide) wd_770 (by decide) (fun q => ?_)
        refine V_astore (κ := KL_why) (pc := 15) (lv' := [(5, (7, q)), (0, (2, x0)), (1, (0, x1)), (2, (0, x2)), (3, (0, x3)), (4, (2, x4))]) dL_why_15 rfl (by decide) rfl ?_
        refine V_iconst (κ := KL_why) (pc := 17) dL_why_17 ⟨by decide, by decide⟩ ?_
        exact V_ireturn (κ := KL_why) (pc := 18) rfl rfl dL_why_18
      rw [if_neg h1]
      exact VX_none) fun t101 u102 => ?_
  refine V_i2l (κ := KL_why) (pc := 10) dL_why_10 ?_
  refine V_lastore (κ := KL_why) (pc := 11) dL_why_11 fun u103 => ?_
  refine V_goto (κ := KL_why) (pc := 12) (tgt := 19) dL_why_12 rfl ?_
  refine V_iconst (κ := KL_why) (pc := 19) dL_why_19 ⟨by decide, by decide⟩ ?_
  exact V_ireturn (κ := KL_why) (pc := 20) rfl rfl dL_why_20
theorem con_L_why (a0 a1 a2 a3 a4 : Int) (μ : Mem) : Con 8 yL_why (.codeWith yL_why cL_why 6 (some .int) [(0, 12, 15, 25)]) 0 [(2, a0), (0, a1), (0, a2), (0, a3), (2, a4)] μ (FL_why a0 a1 a2 a3 a4 μ) := Con_introH KL_why (by decide) rfl (fun h => by cases h) (by decide) rfl (Nat.le_of_ble_eq_true rfl) (fun Γ => VBL_why_0 _ _ _ _ _ _)
abbrev KL_law : Kap := (RL, cL_law, 9, 83, 10, (some .boolean), false, [])
theorem VBL_law_1854 {Γ : Gam} {sc : Int → Int} {L : Int} (hS : SC Γ sc L) {k28 : Int → Int → Int → Int → Int → Mem → Rz} (hk28 : ∀ (y1 y2 y3 y4 y5 : Int) (ν : Mem), V Γ KL_law 28 [(0, (5, 26)), (1, (2, y1)), (2, (2, y2)), (3, (2, y3)), (4, (2, y4)), (5, (0, y5))] [] ν (k28 y1 y2 y3 y4 y5 ν)) (x1 x2 x3 x4 x5 : Int) (μ : Mem) : V Γ KL_law 1854 [(0, (5, 26)), (1, (2, x1)), (2, (2, x2)), (3, (2, x3)), (4, (2, x4)), (5, (0, x5))] [] μ (BL_law_1854 sc L k28 x1 x2 x3 x4 x5 μ) := by
  unfold BL_law_1854
  refine V_iinc (κ := KL_law) (pc := 1854) (lv' := [(5, (0, w32 (x5 + 6))), (0, (5, 26)), (1, (2, x1)), (2, (2, x2)), (3, (2, x3)), (4, (2, x4))]) dL_law_1854 5 rfl (by decide) rfl ?_
  refine V_goto (κ := KL_law) (pc := 1857) (tgt := 28) dL_law_1857 rfl ?_
  refine V_sub (lv' := [(0, (5, 26)), (1, (2, x1)), (2, (2, x2)), (3, (2, x3)), (4, (2, x4)), (5, (0, w32 (x5 + 6)))]) [1, 2, 3, 4, 5, 0] rfl ?_
  exact hk28 _ _ _ _ _ _
theorem VBL_law_298 {Γ : Gam} {sc : Int → Int} {L : Int} (hS : SC Γ sc L) {k28 : Int → Int → Int → Int → Int → Mem → Rz} (hk28 : ∀ (y1 y2 y3 y4 y5 : Int) (ν : Mem), V Γ KL_law 28 [(0, (5, 26)), (1, (2, y1)), (2, (2, y2)), (3, (2, y3)), (4, (2, y4)), (5, (0, y5))] [] ν (k28 y1 y2 y3 y4 y5 ν)) (x1 x2 x3 x4 x5 : Int) (μ : Mem) : V Γ KL_law 298 [(0, (5, 26)), (1, (2, x1)), (2, (2, x2)), (3, (2, x3)), (4, (2, x4)), (5, (0, x5))] [] μ (BL_law_298 sc L k28 x1 x2 x3 x4 x5 μ) := by
  unfold BL_law_298
  refine V_goto (κ := KL_law) (pc := 298) (tgt := 1854) dL_law_298 rfl ?_
  exact VBL_law_1854 hS hk28 _ _ _ _ _ _
theorem VBL_law_367 {Γ : Gam} {sc : Int → Int} {L : Int} (hS : SC Γ sc L) {k28 : Int → Int → Int → Int → Int → Mem → Rz} (hk28 : ∀ (y1 y2 y3 y4 y5 : Int) (ν : Mem), V Γ KL_law 28 [(0, (5, 26)), (1, (2, y1)), (2, (2, y2)), (3, (2, y3)), (4, (2, y4)), (5, (0, y5))] [] ν (k28 y1 y2 y3 y4 y5 ν)) (x1 x2 x3 x4 x5 : Int) (μ : Mem) : V Γ KL_law 367 [(0, (5, 26)), (1, (2, x1)), (2, (2, x2)), (3, (2, x3)), (4, (2, x4)), (5, (0, x5))] [] μ (BL_law_367 sc L k28 x1 x2 x3 x4 x5 μ) := by
  unfold BL_law_367
  refine V_goto (κ := KL_law) (pc := 367) (tgt := 1854) dL_law_367 rfl ?_
  exact VBL_law_1854 hS hk28 _ _ _ _ _ _
theorem VBL_law_423 {Γ : Gam} {sc : Int → Int} {L : Int} (hS : SC Γ sc L) {k28 : Int → Int → Int → Int → Int → Mem → Rz} (hk28 : ∀ (y1 y2 y3 y4 y5 : Int) (ν : Mem), V Γ KL_law 28 [(0, (5, 26)), (1, (2, y1)), (2, (2, y2)), (3, (2, y3)), (4, (2, y4)), (5, (0, y5))] [] ν (k28 y1 y2 y3 y4 y5 ν)) (x1 x2 x3 x4 x5 : Int) (μ : Mem) : V Γ KL_law 423 [(0, (5, 26)), (1, (2, x1)), (2, (2, x2)), (3, (2, x3)), (4, (2, x4)), (5, (0, x5))] [] μ (BL_law_423 sc L k28 x1 x2 x3 x4 x5 μ) := by
  unfold BL_law_423
  refine V_goto (κ := KL_law) (pc := 423) (tgt := 1854) dL_law_423 rfl ?_
  exact VBL_law_1854 hS hk28 _ _ _ _ _ _
theorem VBL_law_491 {Γ : Gam} {sc : Int → Int} {L : Int} (hS : SC Γ sc L) {k28 : Int → Int → Int → Int → Int → Mem → Rz} (hk28 : ∀ (y1 y2 y3 y4 y5 : Int) (ν : Mem), V Γ KL_law 28 [(0, (5, 26)), (1, (2, y1)), (2, (2, y2)), (3, (2, y3)), (4, (2, y4)), (5, (0, y5))] [] ν (k28 y1 y2 y3 y4 y5 ν)) (x1 x2 x3 x4 x5 : Int) (μ : Mem) : V Γ KL_law 491 [(0, (5, 26)), (1, (2, x1)), (2, (2, x2)), (3, (2, x3)), (4, (2, x4)), (5, (0, x5))] [] μ (BL_law_491 sc L k28 x1 x2 x3 x4 x5 μ) := by
  unfold BL_law_491
  refine V_goto (κ := KL_law) (pc := 491) (tgt := 1854) dL_law_491 rfl ?_
  exact VBL_law_1854 hS hk28 _ _ _ _ _ _
theorem VBL_law_583 {Γ : Gam} {sc : Int → Int} {L : Int} (hS : SC Γ sc L) {k28 : Int → Int → Int → Int → Int → Mem → Rz} (hk28 : ∀ (y1 y2 y3 y4 y5 : Int) (ν : Mem), V Γ KL_law 28 [(0, (5, 26)), (1, (2, y1)), (2, (2, y2)), (3, (2, y3)), (4, (2, y4)), (5, (0, y5))] [] ν (k28 y1 y2 y3 y4 y5 ν)) (x1 x2 x3 x4 x5 : Int) (μ : Mem) : V Γ KL_law 583 [(0, (5, 26)), (1, (2, x1)), (2, (2, x2)), (3, (2, x3)), (4, (2, x4)), (5, (0, x5))] [] μ (BL_law_583 sc L k28 x1 x2 x3 x4 x5 μ) := by
  unfold BL_law_583
  refine V_goto (κ := KL_law) (pc := 583) (tgt := 1854) dL_law_583 rfl ?_
  exact VBL_law_1854 hS hk28 _ _ _ _ _ _
theorem VBL_law_651 {Γ : Gam} {sc : Int → Int} {L : Int} (hS : SC Γ sc L) {k28 : Int → Int → Int → Int → Int → Mem → Rz} (hk28 : ∀ (y1 y2 y3 y4 y5 : Int) (ν : Mem), V Γ KL_law 28 [(0, (5, 26)), (1, (2, y1)), (2, (2, y2)), (3, (2, y3)), (4, (2, y4)), (5, (0, y5))] [] ν (k28 y1 y2 y3 y4 y5 ν)) (x1 x2 x3 x4 x5 : Int) (μ : Mem) : V Γ KL_law 651 [(0, (5, 26)), (1, (2, x1)), (2, (2, x2)), (3, (2, x3)), (4, (2, x4)), (5, (0, x5))] [] μ (BL_law_651 sc L k28 x1 x2 x3 x4 x5 μ) := by
  unfold BL_law_651
  refine V_goto (κ := KL_law) (pc := 651) (tgt := 1854) dL_law_651 rfl ?_
  exact VBL_law_1854 hS hk28 _ _ _ _ _ _
theorem VBL_law_719 {Γ : Gam} {sc : Int → Int} {L : Int} (hS : SC Γ sc L) {k28 : Int → Int → Int → Int → Int → Mem → Rz} (hk28 : ∀ (y1 y2 y3 y4 y5 : Int) (ν : Mem), V Γ KL_law 28 [(0, (5, 26)), (1, (2, y1)), (2, (2, y2)), (3, (2, y3)), (4, (2, y4)), (5, (0, y5))] [] ν (k28 y1 y2 y3 y4 y5 ν)) (x1 x2 x3 x4 x5 : Int) (μ : Mem) : V Γ KL_law 719 [(0, (5, 26)), (1, (2, x1)), (2, (2, x2)), (3, (2, x3)), (4, (2, x4)), (5, (0, x5))] [] μ (BL_law_719 sc L k28 x1 x2 x3 x4 x5 μ) := by
  unfold BL_law_719
  refine V_goto (κ := KL_law) (pc := 719) (tgt := 1854) dL_law_719 rfl ?_
  exact VBL_law_1854 hS hk28 _ _ _ _ _ _
theorem VBL_law_799 {Γ : Gam} {sc : Int → Int} {L : Int} (hS : SC Γ sc L) {k28 : Int → Int → Int → Int → Int → Mem → Rz} (hk28 : ∀ (y1 y2 y3 y4 y5 : Int) (ν : Mem), V Γ KL_law 28 [(0, (5, 26)), (1, (2, y1)), (2, (2, y2)), (3, (2, y3)), (4, (2, y4)), (5, (0, y5))] [] ν (k28 y1 y2 y3 y4 y5 ν)) (x1 x2 x3 x4 x5 : Int) (μ : Mem) : V Γ KL_law 799 [(0, (5, 26)), (1, (2, x1)), (2, (2, x2)), (3, (2, x3)), (4, (2, x4)), (5, (0, x5))] [] μ (BL_law_799 sc L k28 x1 x2 x3 x4 x5 μ) := by
  unfold BL_law_799
  refine V_goto (κ := KL_law) (pc := 799) (tgt := 1854) dL_law_799 rfl ?_
  exact VBL_law_1854 hS hk28 _ _ _ _ _ _
theorem VBL_law_867 {Γ : Gam} {sc : Int → Int} {L : Int} (hS : SC Γ sc L) {k28 : Int → Int → Int → Int → Int → Mem → Rz} (hk28 : ∀ (y1 y2 y3 y4 y5 : Int) (ν : Mem), V Γ KL_law 28 [(0, (5, 26)), (1, (2, y1)), (2, (2, y2)), (3, (2, y3)), (4, (2, y4)), (5, (0, y5))] [] ν (k28 y1 y2 y3 y4 y5 ν)) (x1 x2 x3 x4 x5 : Int) (μ : Mem) : V Γ KL_law 867 [(0, (5, 26)), (1, (2, x1)), (2, (2, x2)), (3, (2, x3)), (4, (2, x4)), (5, (0, x5))] [] μ (BL_law_867 sc L k28 x1 x2 x3 x4 x5 μ) := by
  unfold BL_law_867
  refine V_goto (κ := KL_law) (pc := 867) (tgt := 1854) dL_law_867 rfl ?_
  exact VBL_law_1854 hS hk28 _ _ _ _ _ _
theorem VBL_law_945 {Γ : Gam} {sc : Int → Int} {L : Int} (hS : SC Γ sc L) {k28 : Int → Int → Int → Int → Int → Mem → Rz} (hk28 : ∀ (y1 y2 y3 y4 y5 : Int) (ν : Mem), V Γ KL_law 28 [(0, (5, 26)), (1, (2, y1)), (2, (2, y2)), (3, (2, y3)), (4, (2, y4)), (5, (0, y5))] [] ν (k28 y1 y2 y3 y4 y5 ν)) (x1 x2 x3 x4 x5 : Int) (μ : Mem) : V Γ KL_law 945 [(0, (5, 26)), (1, (2, x1)), (2, (2, x2)), (3, (2, x3)), (4, (2, x4)), (5, (0, x5))] [] μ (BL_law_945 sc L k28 x1 x2 x3 x4 x5 μ) := by
  unfold BL_law_945
  refine V_goto (κ := KL_law) (pc := 945) (tgt := 1854) dL_law_945 rfl ?_
  exact VBL_law_1854 hS hk28 _ _ _ _ _ _
theorem VBL_law_943 {Γ : Gam} {sc : Int → Int} {L : Int} (hS : SC Γ sc L) (μ : Mem) : V Γ KL_law 943 [] [] μ (BL_law_943 sc L μ) := by
  unfold BL_law_943
  refine V_iconst (κ := KL_law) (pc := 943) dL_law_943 ⟨by decide, by decide⟩ ?_
  exact V_lawret hS rfl (κ := KL_law) (pc := 944) dL_law_944
theorem VBL_law_1034 {Γ : Gam} {sc : Int → Int} {L : Int} (hS : SC Γ sc L) {k28 : Int → Int → Int → Int → Int → Mem → Rz} (hk28 : ∀ (y1 y2 y3 y4 y5 : Int) (ν : Mem), V Γ KL_law 28 [(0, (5, 26)), (1, (2, y1)), (2, (2, y2)), (3, (2, y3)), (4, (2, y4)), (5, (0, y5))] [] ν (k28 y1 y2 y3 y4 y5 ν)) (x1 x2 x3 x4 x5 : Int) (μ : Mem) : V Γ KL_law 1034 [(0, (5, 26)), (1, (2, x1)), (2, (2, x2)), (3, (2, x3)), (4, (2, x4)), (5, (0, x5))] [] μ (BL_law_1034 sc L k28 x1 x2 x3 x4 x5 μ) := by
  unfold BL_law_1034
  refine V_goto (κ := KL_law) (pc := 1034) (tgt := 1854) dL_law_1034 rfl ?_
  exact VBL_law_1854 hS hk28 _ _ _ _ _ _
theorem VBL_law_1032 {Γ : Gam} {sc : Int → Int} {L : Int} (hS : SC Γ sc L) (μ : Mem) : V Γ KL_law 1032 [] [] μ (BL_law_1032 sc L μ) := by
  unfold BL_law_1032
  refine V_iconst (κ := KL_law) (pc := 1032) dL_law_1032 ⟨by decide, by decide⟩ ?_
  exact V_lawret hS rfl (κ := KL_law) (pc := 1033) dL_law_1033
theorem VBL_law_1070 {Γ : Gam} {sc : Int → Int} {L : Int} (hS : SC Γ sc L) {k28 : Int → Int → Int → Int → Int → Mem → Rz} (hk28 : ∀ (y1 y2 y3 y4 y5 : Int) (ν : Mem), V Γ KL_law 28 [(0, (5, 26)), (1, (2, y1)), (2, (2, y2)), (3, (2, y3)), (4, (2, y4)), (5, (0, y5))] [] ν (k28 y1 y2 y3 y4 y5 ν)) (x1 x2 x3 x4 x5 s0 s1 s2 : Int) (μ : Mem) : V Γ KL_law 1070 [(0, (5, 26)), (1, (2, x1)), (2, (2, x2)), (3, (2, x3)), (4, (2, x4)), (5, (0, x5))] [(0, s0), (2, s1), (0, s2)] μ (BL_law_1070 sc L k28 x1 x2 x3 x4 x5 s0 s1 s2 μ) := by
  unfold BL_law_1070
  refine V_callV (ci := 7) (T := TX7) (N := 24) rfl (by decide) (κ := KL_law) (pc := 1070) (con_X7_worst _ _ _) mth_X7_worst rfl ⟨wd_1349, wd_1350⟩ wd_1348 (st0 := [(0, s2)]) rfl rfl (by decide) (Nat.le_of_ble_eq_true rfl) dL_law_1070 (fun _ _ _ _ => VX_none) fun t101 u102 => ?_
  refine V_icmp_eq (κ := KL_law) (pc := 1073) (tgt := 1854) dL_law_1073 rfl ?_ ?_
  · exact VBL_law_1854 hS hk28 _ _ _ _ _ _
  refine V_iconst (κ := KL_law) (pc := 1076) dL_law_1076 ⟨by decide, by decide⟩ ?_
  exact V_lawret hS rfl (κ := KL_law) (pc := 1077) dL_law_1077
theorem VBL_law_1052 {Γ : Gam} {sc : Int → Int} {L : Int} (hS : SC Γ sc L) {k28 : Int → Int → Int → Int → Int → Mem → Rz} (hk28 : ∀ (y1 y2 y3 y4 y5 : Int) (ν : Mem), V Γ KL_law 28 [(0, (5, 26)), (1, (2, y1)), (2, (2, y2)), (3, (2, y3)), (4, (2, y4)), (5, (0, y5))] [] ν (k28 y1 y2 y3 y4 y5 ν)) (x1 x2 x3 x4 x5 s0 s1 : Int) (μ : Mem) : V Γ KL_law 1052 [(0, (5, 26)), (1, (2, x1)), (2, (2, x2)), (3, (2, x3)), (4, (2, x4)), (5, (0, x5))] [(0, s0), (2, s1)] μ (BL_law_1052 sc L k28 x1 x2 x3 x4 x5 s0 s1 μ) := by
  unfold BL_law_1052
  refine V_callV (ci := 6) (T := TX6) (N := 9) rfl (by decide) (κ := KL_law) (pc := 1052) (con_X6_worst _ _ _) mth_X6_worst rfl ⟨wd_285, wd_286⟩ wd_284 (st0 := []) rfl rfl (by decide) (Nat.le_of_ble_eq_true rfl) dL_law_1052 (fun _ _ _ _ => VX_none) fun t101 u102 => ?_
  refine V_aload_n (κ := KL_law) (pc := 1055) dL_law_1055 2 rfl rfl ?_
  refine V_aload_n (κ := KL_law) (pc := 1056) dL_law_1056 0 rfl rfl ?_
  refine V_iload (κ := KL_law) (pc := 1057) dL_law_1057 5 rfl ?_
  refine V_iconst (κ := KL_law) (pc := 1059) dL_law_1059 ⟨by decide, by decide⟩ ?_
  refine V_iadd (κ := KL_law) (pc := 1060) dL_law_1060 ?_
  refine V_scr (κ := KL_law) hS (pc := 1061) dL_law_1061 fun t104 => ?_
  refine V_if_eq (κ := KL_law) (pc := 1062) (tgt := 1069) dL_law_1062 rfl ?_ ?_
  · refine V_iconst (κ := KL_law) (pc := 1069) dL_law_1069 ⟨by decide, by decide⟩ ?_
    exact VBL_law_1070 hS hk28 _ _ _ _ _ _ _ _ _
  refine V_iconst (κ := KL_law) (pc := 1065) dL_law_1065 ⟨by decide, by decide⟩ ?_
  refine V_goto (κ := KL_law) (pc := 1066) (tgt := 1070) dL_law_1066 rfl ?_
  exact VBL_law_1070 hS hk28 _ _ _ _ _ _ _ _ _
theorem VBL_law_1131 {Γ : Gam} {sc : Int → Int} {L : Int} (hS : SC Γ sc L) {k28 : Int → Int → Int → Int → Int → Mem → Rz} (hk28 : ∀ (y1 y2 y3 y4 y5 : Int) (ν : Mem), V Γ KL_law 28 [(0, (5, 26)), (1, (2, y1)), (2, (2, y2)), (3, (2, y3)), (4, (2, y4)), (5, (0, y5))] [] ν (k28 y1 y2 y3 y4 y5 ν)) (x1 x2 x3 x4 x5 : Int) (μ : Mem) : V Γ KL_law 1131 [(0, (5, 26)), (1, (2, x1)), (2, (2, x2)), (3, (2, x3)), (4, (2, x4)), (5, (0, x5))] [] μ (BL_law_1131 sc L k28 x1 x2 x3 x4 x5 μ) := by
  unfold BL_law_1131
  refine V_goto (κ := KL_law) (pc := 1131) (tgt := 1854) dL_law_1131 rfl ?_
  exact VBL_law_1854 hS hk28 _ _ _ _ _ _
theorem VBL_law_1200 {Γ : Gam} {sc : Int → Int} {L : Int} (hS : SC Γ sc L) {k28 : Int → Int → Int → Int → Int → Mem → Rz} (hk28 : ∀ (y1 y2 y3 y4 y5 : Int) (ν : Mem), V Γ KL_law 28 [(0, (5, 26)), (1, (2, y1)), (2, (2, y2)), (3, (2, y3)), (4, (2, y4)), (5, (0, y5))] [] ν (k28 y1 y2 y3 y4 y5 ν)) (x1 x2 x3 x4 x5 : Int) (μ : Mem) : V Γ KL_law 1200 [(0, (5, 26)), (1, (2, x1)), (2, (2, x2)), (3, (2, x3)), (4, (2, x4)), (5, (0, x5))] [] μ (BL_law_1200 sc L k28 x1 x2 x3 x4 x5 μ) := by
  unfold BL_law_1200
  refine V_goto (κ := KL_law) (pc := 1200) (tgt := 1854) dL_law_1200 rfl ?_
  exact VBL_law_1854 hS hk28 _ _ _ _ _ _
theorem VBL_law_1304 {Γ : Gam} {sc : Int → Int} {L : Int} (hS : SC Γ sc L) {k28 : Int → Int → Int → Int → Int → Mem → Rz} (hk28 : ∀ (y1 y2 y3 y4 y5 : Int) (ν : Mem), V Γ KL_law 28 [(0, (5, 26)), (1, (2, y1)), (2, (2, y2)), (3, (2, y3)), (4, (2, y4)), (5, (0, y5))] [] ν (k28 y1 y2 y3 y4 y5 ν)) (x1 x2 x3 x4 x5 : Int) (μ : Mem) : V Γ KL_law 1304 [(0, (5, 26)), (1, (2, x1)), (2, (2, x2)), (3, (2, x3)), (4, (2, x4)), (5, (0, x5))] [] μ (BL_law_1304 sc L k28 x1 x2 x3 x4 x5 μ) := by
  unfold BL_law_1304
  refine V_goto (κ := KL_law) (pc := 1304) (tgt := 1854) dL_law_1304 rfl ?_
  exact VBL_law_1854 hS hk28 _ _ _ _ _ _
theorem VBL_law_1384 {Γ : Gam} {sc : Int → Int} {L : Int} (hS : SC Γ sc L) {k28 : Int → Int → Int → Int → Int → Mem → Rz} (hk28 : ∀ (y1 y2 y3 y4 y5 : Int) (ν : Mem), V Γ KL_law 28 [(0, (5, 26)), (1, (2, y1)), (2, (2, y2)), (3, (2, y3)), (4, (2, y4)), (5, (0, y5))] [] ν (k28 y1 y2 y3 y4 y5 ν)) (x1 x2 x3 x4 x5 : Int) (μ : Mem) : V Γ KL_law 1384 [(0, (5, 26)), (1, (2, x1)), (2, (2, x2)), (3, (2, x3)), (4, (2, x4)), (5, (0, x5))] [] μ (BL_law_1384 sc L k28 x1 x2 x3 x4 x5 μ) := by
  unfold BL_law_1384
  refine V_goto (κ := KL_law) (pc := 1384) (tgt := 1854) dL_law_1384 rfl ?_
  exact VBL_law_1854 hS hk28 _ _ _ _ _ _
theorem VBL_law_1452 {Γ : Gam} {sc : Int → Int} {L : Int} (hS : SC Γ sc L) {k28 : Int → Int → Int → Int → Int → Mem → Rz} (hk28 : ∀ (y1 y2 y3 y4 y5 : Int) (ν : Mem), V Γ KL_law 28 [(0, (5, 26)), (1, (2, y1)), (2, (2, y2)), (3, (2, y3)), (4, (2, y4)), (5, (0, y5))] [] ν (k28 y1 y2 y3 y4 y5 ν)) (x1 x2 x3 x4 x5 : Int) (μ : Mem) : V Γ KL_law 1452 [(0, (5, 26)), (1, (2, x1)), (2, (2, x2)), (3, (2, x3)), (4, (2, x4)), (5, (0, x5))] [] μ (BL_law_1452 sc L k28 x1 x2 x3 x4 x5 μ) := by
  unfold BL_law_1452
  refine V_goto (κ := KL_law) (pc := 1452) (tgt := 1854) dL_law_1452 rfl ?_
  exact VBL_law_1854 hS hk28 _ _ _ _ _ _
theorem VBL_law_1532 {Γ : Gam} {sc : Int → Int} {L : Int} (hS : SC Γ sc L) {k28 : Int → Int → Int → Int → Int → Mem → Rz} (hk28 : ∀ (y1 y2 y3 y4 y5 : Int) (ν : Mem), V Γ KL_law 28 [(0, (5, 26)), (1, (2, y1)), (2, (2, y2)), (3, (2, y3)), (4, (2, y4)), (5, (0, y5))] [] ν (k28 y1 y2 y3 y4 y5 ν)) (x1 x2 x3 x4 x5 : Int) (μ : Mem) : V Γ KL_law 1532 [(0, (5, 26)), (1, (2, x1)), (2, (2, x2)), (3, (2, x3)), (4, (2, x4)), (5, (0, x5))] [] μ (BL_law_1532 sc L k28 x1 x2 x3 x4 x5 μ) := by
  unfold BL_law_1532
  refine V_goto (κ := KL_law) (pc := 1532) (tgt := 1854) dL_law_1532 rfl ?_
  exact VBL_law_1854 hS hk28 _ _ _ _ _ _
theorem VBL_law_1588 {Γ : Gam} {sc : Int → Int} {L : Int} (hS : SC Γ sc L) {k28 : Int → Int → Int → Int → Int → Mem → Rz} (hk28 : ∀ (y1 y2 y3 y4 y5 : Int) (ν : Mem), V Γ KL_law 28 [(0, (5, 26)), (1, (2, y1)), (2, (2, y2)), (3, (2, y3)), (4, (2, y4)), (5, (0, y5))] [] ν (k28 y1 y2 y3 y4 y5 ν)) (x1 x2 x3 x4 x5 : Int) (μ : Mem) : V Γ KL_law 1588 [(0, (5, 26)), (1, (2, x1)), (2, (2, x2)), (3, (2, x3)), (4, (2, x4)), (5, (0, x5))] [] μ (BL_law_1588 sc L k28 x1 x2 x3 x4 x5 μ) := by
  unfold BL_law_1588
  refine V_goto (κ := KL_law) (pc := 1588) (tgt := 1854) dL_law_1588 rfl ?_
  exact VBL_law_1854 hS hk28 _ _ _ _ _ _
theorem VBL_law_1644 {Γ : Gam} {sc : Int → Int} {L : Int} (hS : SC Γ sc L) {k28 : Int → Int → Int → Int → Int → Mem → Rz} (hk28 : ∀ (y1 y2 y3 y4 y5 : Int) (ν : Mem), V Γ KL_law 28 [(0, (5, 26)), (1, (2, y1)), (2, (2, y2)), (3, (2, y3)), (4, (2, y4)), (5, (0, y5))] [] ν (k28 y1 y2 y3 y4 y5 ν)) (x1 x2 x3 x4 x5 : Int) (μ : Mem) : V Γ KL_law 1644 [(0, (5, 26)), (1, (2, x1)), (2, (2, x2)), (3, (2, x3)), (4, (2, x4)), (5, (0, x5))] [] μ (BL_law_1644 sc L k28 x1 x2 x3 x4 x5 μ) := by
  unfold BL_law_1644
  refine V_goto (κ := KL_law) (pc := 1644) (tgt := 1854) dL_law_1644 rfl ?_
  exact VBL_law_1854 hS hk28 _ _ _ _ _ _
theorem VBL_law_1700 {Γ : Gam} {sc : Int → Int} {L : Int} (hS : SC Γ sc L) {k28 : Int → Int → Int → Int → Int → Mem → Rz} (hk28 : ∀ (y1 y2 y3 y4 y5 : Int) (ν : Mem), V Γ KL_law 28 [(0, (5, 26)), (1, (2, y1)), (2, (2, y2)), (3, (2, y3)), (4, (2, y4)), (5, (0, y5))] [] ν (k28 y1 y2 y3 y4 y5 ν)) (x1 x2 x3 x4 x5 : Int) (μ : Mem) : V Γ KL_law 1700 [(0, (5, 26)), (1, (2, x1)), (2, (2, x2)), (3, (2, x3)), (4, (2, x4)), (5, (0, x5))] [] μ (BL_law_1700 sc L k28 x1 x2 x3 x4 x5 μ) := by
  unfold BL_law_1700
  refine V_goto (κ := KL_law) (pc := 1700) (tgt := 1854) dL_law_1700 rfl ?_
  exact VBL_law_1854 hS hk28 _ _ _ _ _ _
theorem VBL_law_1768 {Γ : Gam} {sc : Int → Int} {L : Int} (hS : SC Γ sc L) {k28 : Int → Int → Int → Int → Int → Mem → Rz} (hk28 : ∀ (y1 y2 y3 y4 y5 : Int) (ν : Mem), V Γ KL_law 28 [(0, (5, 26)), (1, (2, y1)), (2, (2, y2)), (3, (2, y3)), (4, (2, y4)), (5, (0, y5))] [] ν (k28 y1 y2 y3 y4 y5 ν)) (x1 x2 x3 x4 x5 : Int) (μ : Mem) : V Γ KL_law 1768 [(0, (5, 26)), (1, (2, x1)), (2, (2, x2)), (3, (2, x3)), (4, (2, x4)), (5, (0, x5))] [] μ (BL_law_1768 sc L k28 x1 x2 x3 x4 x5 μ) := by
  unfold BL_law_1768
  refine V_goto (κ := KL_law) (pc := 1768) (tgt := 1854) dL_law_1768 rfl ?_
  exact VBL_law_1854 hS hk28 _ _ _ _ _ _
theorem VBL_law_1824 {Γ : Gam} {sc : Int → Int} {L : Int} (hS : SC Γ sc L) {k28 : Int → Int → Int → Int → Int → Mem → Rz} (hk28 : ∀ (y1 y2 y3 y4 y5 : Int) (ν : Mem), V Γ KL_law 28 [(0, (5, 26)), (1, (2, y1)), (2, (2, y2)), (3, (2, y3)), (4, (2, y4)), (5, (0, y5))] [] ν (k28 y1 y2 y3 y4 y5 ν)) (x1 x2 x3 x4 x5 : Int) (μ : Mem) : V Γ KL_law 1824 [(0, (5, 26)), (1, (2, x1)), (2, (2, x2)), (3, (2, x3)), (4, (2, x4)), (5, (0, x5))] [] μ (BL_law_1824 sc L k28 x1 x2 x3 x4 x5 μ) := by
  unfold BL_law_1824
  refine V_goto (κ := KL_law) (pc := 1824) (tgt := 1854) dL_law_1824 rfl ?_
  exact VBL_law_1854 hS hk28 _ _ _ _ _ _
theorem VBL_law_28 {Γ : Gam} {sc : Int → Int} {L : Int} (hS : SC Γ sc L) {k28 : Int → Int → Int → Int → Int → Mem → Rz} (hk28 : ∀ (y1 y2 y3 y4 y5 : Int) (ν : Mem), V Γ KL_law 28 [(0, (5, 26)), (1, (2, y1)), (2, (2, y2)), (3, (2, y3)), (4, (2, y4)), (5, (0, y5))] [] ν (k28 y1 y2 y3 y4 y5 ν)) (x1 x2 x3 x4 x5 : Int) (μ : Mem) : V Γ KL_law 28 [(0, (5, 26)), (1, (2, x1)), (2, (2, x2)), (3, (2, x3)), (4, (2, x4)), (5, (0, x5))] [] μ (BL_law_28 sc L k28 x1 x2 x3 x4 x5 μ) := by
  unfold BL_law_28
  refine V_iload (κ := KL_law) (pc := 28) dL_law_28 5 rfl ?_
  refine V_aload_n (κ := KL_law) (pc := 30) dL_law_30 0 rfl rfl ?_
  refine V_scl hS (κ := KL_law) (pc := 31) dL_law_31 ?_
  refine V_bipush (κ := KL_law) (pc := 32) dL_law_32 ⟨by decide, by decide⟩ (by decide) ?_
  refine V_isub (κ := KL_law) (pc := 34) dL_law_34 ?_
  refine V_icmp_gt (κ := KL_law) (pc := 35) (tgt := 1860) dL_law_35 rfl ?_ ?_
  · refine V_iconst (κ := KL_law) (pc := 1860) dL_law_1860 ⟨by decide, by decide⟩ ?_
    exact V_lawret hS rfl (κ := KL_law) (pc := 1861) dL_law_1861
  refine V_aload_n (κ := KL_law) (pc := 38) dL_law_38 0 rfl rfl ?_
  refine V_iload (κ := KL_law) (pc := 39) dL_law_39 5 rfl ?_
  refine V_scr (κ := KL_law) hS (pc := 41) dL_law_41 fun t102 => ?_
  refine V_bipush (κ := KL_law) (pc := 42) dL_law_42 ⟨by decide, by decide⟩ (by decide) ?_
  refine V_iand (κ := KL_law) (pc := 44) dL_law_44 ?_
  refine V_tsw (κ := KL_law) (pc := 45) (os := [127, 200, 256, 269, 325, 381, 449, 541, 609, 677, 757, 825, 903, 992, 1033, 1089, 1102, 1158, 1262, 1342, 1410, 1490, 1546, 1602, 1658, 1726, 1782, 1795]) (tgt := 1854) dL_law_45 rfl rfl ?_ ⟨⟨172, rfl, ?_⟩, ⟨245, rfl, ?_⟩, ⟨301, rfl, ?_⟩, ⟨314, rfl, ?_⟩, ⟨370, rfl, ?_⟩, ⟨426, rfl, ?_⟩, ⟨494, rfl, ?_⟩, ⟨586, rfl, ?_⟩, ⟨654, rfl, ?_⟩, ⟨722, rfl, ?_⟩, ⟨802, rfl, ?_⟩, ⟨870, rfl, ?_⟩, ⟨948, rfl, ?_⟩, ⟨1037, rfl, ?_⟩, ⟨1078, rfl, ?_⟩, ⟨1134, rfl, ?_⟩, ⟨1147, rfl, ?_⟩, ⟨1203, rfl, ?_⟩, ⟨1307, rfl, ?_⟩, ⟨1387, rfl, ?_⟩, ⟨1455, rfl, ?_⟩, ⟨1535, rfl, ?_⟩, ⟨1591, rfl, ?_⟩, ⟨1647, rfl, ?_⟩, ⟨1703, rfl, ?_⟩, ⟨1771, rfl, ?_⟩, ⟨1827, rfl, ?_⟩, ⟨1840, rfl, ?_⟩, trivial⟩
  · exact VBL_law_1854 hS hk28 _ _ _ _ _ _
  · refine V_aload_n (κ := KL_law) (pc := 172) dL_law_172 1 rfl rfl ?_
    refine V_aload_n (κ := KL_law) (pc := 173) dL_law_173 0 rfl rfl ?_
    refine V_iload (κ := KL_law) (pc := 174) dL_law_174 5 rfl ?_
    refine V_iconst (κ := KL_law) (pc := 176) dL_law_176 ⟨by decide, by decide⟩ ?_
    refine V_iadd (κ := KL_law) (pc := 177) dL_law_177 ?_
    refine V_scr (κ := KL_law) hS (pc := 178) dL_law_178 fun t104 => ?_
    refine V_aload_n (κ := KL_law) (pc := 179) dL_law_179 0 rfl rfl ?_
    refine V_iload (κ := KL_law) (pc := 180) dL_law_180 5 rfl ?_
    refine V_iconst (κ := KL_law) (pc := 182) dL_law_182 ⟨by decide, by decide⟩ ?_
    refine V_iadd (κ := KL_law) (pc := 183) dL_law_183 ?_
    refine V_scr (κ := KL_law) hS (pc := 184) dL_law_184 fun t106 => ?_
    refine V_aload_n (κ := KL_law) (pc := 185) dL_law_185 0 rfl rfl ?_
    refine V_iload (κ := KL_law) (pc := 186) dL_law_186 5 rfl ?_
    refine V_iconst (κ := KL_law) (pc := 188) dL_law_188 ⟨by decide, by decide⟩ ?_
    refine V_iadd (κ := KL_law) (pc := 189) dL_law_189 ?_
    refine V_scr (κ := KL_law) hS (pc := 190) dL_law_190 fun t108 => ?_
    refine V_aload_n (κ := KL_law) (pc := 191) dL_law_191 0 rfl rfl ?_
    refine V_iload (κ := KL_law) (pc := 192) dL_law_192 5 rfl ?_
    refine V_iconst (κ := KL_law) (pc := 194) dL_law_194 ⟨by decide, by decide⟩ ?_
    refine V_iadd (κ := KL_law) (pc := 195) dL_law_195 ?_
    refine V_scr (κ := KL_law) hS (pc := 196) dL_law_196 fun t110 => ?_
    refine V_aload_n (κ := KL_law) (pc := 197) dL_law_197 0 rfl rfl ?_
    refine V_iload (κ := KL_law) (pc := 198) dL_law_198 5 rfl ?_
    refine V_iconst (κ := KL_law) (pc := 200) dL_law_200 ⟨by decide, by decide⟩ ?_
    refine V_iadd (κ := KL_law) (pc := 201) dL_law_201 ?_
    refine V_scr (κ := KL_law) hS (pc := 202) dL_law_202 fun t112 => ?_
    refine V_callV (ci := 6) (T := TX6) (N := 9) rfl (by decide) (κ := KL_law) (pc := 203) (con_X6_append _ _ _ _ _ _ _) mth_X6_append rfl ⟨wd_273, wd_274⟩ wd_272 (st0 := []) rfl rfl (by decide) (Nat.le_of_ble_eq_true rfl) dL_law_203 (fun _ _ _ _ => VX_none) fun t113 u114 => ?_
    refine V_aload_n (κ := KL_law) (pc := 206) dL_law_206 2 rfl rfl ?_
    refine V_aload_n (κ := KL_law) (pc := 207) dL_law_207 0 rfl rfl ?_
    refine V_iload (κ := KL_law) (pc := 208) dL_law_208 5 rfl ?_
    refine V_iconst (κ := KL_law) (pc := 210) dL_law_210 ⟨by decide, by decide⟩ ?_
    refine V_iadd (κ := KL_law) (pc := 211) dL_law_211 ?_
    refine V_scr (κ := KL_law) hS (pc := 212) dL_law_212 fun t116 => ?_
    refine V_aload_n (κ := KL_law) (pc := 213) dL_law_213 0 rfl rfl ?_
    refine V_iload (κ := KL_law) (pc := 214) dL_law_214 5 rfl ?_
    refine V_iconst (κ := KL_law) (pc := 216) dL_law_216 ⟨by decide, by decide⟩ ?_
    refine V_iadd (κ := KL_law) (pc := 217) dL_law_217 ?_
    refine V_scr (κ := KL_law) hS (pc := 218) dL_law_218 fun t118 => ?_
    refine V_aload_n (κ := KL_law) (pc := 219) dL_law_219 0 rfl rfl ?_
    refine V_iload (κ := KL_law) (pc := 220) dL_law_220 5 rfl ?_
    refine V_iconst (κ := KL_law) (pc := 222) dL_law_222 ⟨by decide, by decide⟩ ?_
    refine V_iadd (κ := KL_law) (pc := 223) dL_law_223 ?_
    refine V_scr (κ := KL_law) hS (pc := 224) dL_law_224 fun t120 => ?_
    refine V_aload_n (κ := KL_law) (pc := 225) dL_law_225 0 rfl rfl ?_
    refine V_iload (κ := KL_law) (pc := 226) dL_law_226 5 rfl ?_
    refine V_iconst (κ := KL_law) (pc := 228) dL_law_228 ⟨by decide, by decide⟩ ?_
    refine V_iadd (κ := KL_law) (pc := 229) dL_law_229 ?_
    refine V_scr (κ := KL_law) hS (pc := 230) dL_law_230 fun t122 => ?_
    refine V_aload_n (κ := KL_law) (pc := 231) dL_law_231 0 rfl rfl ?_
    refine V_iload (κ := KL_law) (pc := 232) dL_law_232 5 rfl ?_
    refine V_iconst (κ := KL_law) (pc := 234) dL_law_234 ⟨by decide, by decide⟩ ?_
    refine V_iadd (κ := KL_law) (pc := 235) dL_law_235 ?_
    refine V_scr (κ := KL_law) hS (pc := 236) dL_law_236 fun t124 => ?_
    refine V_callV (ci := 7) (T := TX7) (N := 24) rfl (by decide) (κ := KL_law) (pc := 237) (con_X7_append _ _ _ _ _ _ _) mth_X7_append rfl ⟨wd_1066, wd_1067⟩ wd_1065 (st0 := [(0, t113)]) rfl rfl (by decide) (Nat.le_of_ble_eq_true rfl) dL_law_237 (fun _ _ _ _ => VX_none) fun t125 u126 => ?_
    refine V_icmp_eq (κ := KL_law) (pc := 240) (tgt := 1854) dL_law_240 rfl ?_ ?_
    · exact VBL_law_1854 hS hk28 _ _ _ _ _ _
    refine V_iconst (κ := KL_law) (pc := 243) dL_law_243 ⟨by decide, by decide⟩ ?_
    exact V_lawret hS rfl (κ := KL_law) (pc := 244) dL_law_244
  · refine V_aload_n (κ := KL_law) (pc := 245) dL_law_245 1 rfl rfl ?_
    refine V_aload_n (κ := KL_law) (pc := 246) dL_law_246 0 rfl rfl ?_
    refine V_iload (κ := KL_law) (pc := 247) dL_law_247 5 rfl ?_
    refine V_iconst (κ := KL_law) (pc := 249) dL_law_249 ⟨by decide, by decide⟩ ?_
    refine V_iadd (κ := KL_law) (pc := 250) dL_law_250 ?_
    refine V_scr (κ := KL_law) hS (pc := 251) dL_law_251 fun t128 => ?_
    refine V_aload_n (κ := KL_law) (pc := 252) dL_law_252 3 rfl rfl ?_
    refine V_callSX (κ := KL_law) (pc := 253) (con_L_load _ _ _ _) mth_L_load wd_540 wd_539 (st0 := []) rfl rfl (by decide) (Nat.le_of_ble_eq_true rfl) dL_law_253 (fun _ _ _ _ => VX_none) fun t129 u130 => ?_
    refine V_istore (κ := KL_law) (pc := 256) (lv' := [(6, (0, t129)), (0, (5, 26)), (1, (2, x1)), (2, (2, x2)), (3, (2, x3)), (4, (2, x4)), (5, (0, x5))]) dL_law_256 (by decide) rfl ?_
    refine V_aload_n (κ := KL_law) (pc := 258) dL_law_258 3 rfl rfl ?_
    refine V_aload_n (κ := KL_law) (pc := 259) dL_law_259 1 rfl rfl ?_
    refine V_iload (κ := KL_law) (pc := 260) dL_law_260 6 rfl ?_
    refine V_iconst (κ := KL_law) (pc := 262) dL_law_262 ⟨by decide, by decide⟩ ?_
    refine V_iadd (κ := KL_law) (pc := 263) dL_law_263 ?_
    refine V_scr (κ := KL_law) hS (pc := 264) dL_law_264 fun t132 => ?_
    refine V_callV (ci := 7) (T := TX7) (N := 24) rfl (by decide) (κ := KL_law) (pc := 265) (con_X7_load _ _ _) mth_X7_load rfl ⟨wd_1078, wd_1079⟩ wd_1077 (st0 := []) rfl rfl (by decide) (Nat.le_of_ble_eq_true rfl) dL_law_265 (fun _ _ _ _ => VX_none) fun t133 u134 => ?_
    refine V_istore (κ := KL_law) (pc := 268) (lv' := [(7, (0, t133)), (6, (0, t129)), (0, (5, 26)), (1, (2, x1)), (2, (2, x2)), (3, (2, x3)), (4, (2, x4)), (5, (0, x5))]) dL_law_268 (by decide) rfl ?_
    refine V_aload_n (κ := KL_law) (pc := 270) dL_law_270 4 rfl rfl ?_
    refine V_callV (ci := 7) (T := TX7) (N := 24) rfl (by decide) (κ := KL_law) (pc := 271) (con_X7_thrown _ _) mth_X7_thrown rfl ⟨wd_1062, wd_1063⟩ wd_1061 (st0 := []) rfl rfl (by decide) (Nat.le_of_ble_eq_true rfl) dL_law_271 (fun _ _ _ _ => VX_none) fun t135 u136 => ?_
    refine V_iload (κ := KL_law) (pc := 274) dL_law_274 1 rfl ?_
    refine V_icmp_eq (κ := KL_law) (pc := 276) (tgt := 281) dL_law_276 rfl ?_ ?_
    · refine V_iload (κ := KL_law) (pc := 281) dL_law_281 1 rfl ?_
      refine V_if_ne (κ := KL_law) (pc := 283) (tgt := 298) dL_law_283 rfl ?_ ?_
      · refine V_sub (lv' := [(0, (5, 26)), (1, (2, x1)), (2, (2, x2)), (3, (2, x3)), (4, (2, x4)), (5, (0, x5))]) [2, 3, 4, 5, 6, 7] rfl ?_
        exact VBL_law_298 hS hk28 _ _ _ _ _ _
      refine V_aload_n (κ := KL_law) (pc := 286) dL_law_286 5 rfl rfl ?_
      refine V_iconst (κ := KL_law) (pc := 287) dL_law_287 ⟨by decide, by decide⟩ ?_
      refine V_laload (κ := KL_law) (pc := 288) dL_law_288 fun t137 => ?_
      refine V_iload (κ := KL_law) (pc := 289) dL_law_289 0 rfl ?_
      refine V_i2l (κ := KL_law) (pc := 291) dL_law_291 ?_
      refine V_lcmp (κ := KL_law) (pc := 292) dL_law_292 ?_
      refine V_if_eq (κ := KL_law) (pc := 293) (tgt := 298) dL_law_293 rfl ?_ ?_
      · refine V_sub (lv' := [(0, (5, 26)), (1, (2, x1)), (2, (2, x2)), (3, (2, x3)), (4, (2, x4)), (5, (0, x5))]) [2, 3, 4, 5, 6, 7] rfl ?_
        exact VBL_law_298 hS hk28 _ _ _ _ _ _
      refine V_iconst (κ := KL_law) (pc := 296) dL_law_296 ⟨by decide, by decide⟩ ?_
      exact V_lawret hS rfl (κ := KL_law) (pc := 297) dL_law_297
    refine V_iconst (κ := KL_law) (pc := 279) dL_law_279 ⟨by decide, by decide⟩ ?_
    exact V_lawret hS rfl (κ := KL_law) (pc := 280) dL_law_280
  · refine V_aload_n (κ := KL_law) (pc := 301) dL_law_301 1 rfl rfl ?_
    refine V_callV (ci := 6) (T := TX6) (N := 9) rfl (by decide) (κ := KL_law) (pc := 302) (con_X6_errorOffset _ _) mth_X6_errorOffset rfl ⟨wd_281, wd_282⟩ wd_280 (st0 := []) rfl rfl (by decide) (Nat.le_of_ble_eq_true rfl) dL_law_302 (fun _ _ _ _ => VX_none) fun t138 u139 => ?_
    refine V_aload_n (κ := KL_law) (pc := 305) dL_law_305 2 rfl rfl ?_
    refine V_callV (ci := 7) (T := TX7) (N := 24) rfl (by decide) (κ := KL_law) (pc := 306) (con_X7_errorOffset _ _) mth_X7_errorOffset rfl ⟨wd_1074, wd_1075⟩ wd_1073 (st0 := [(0, t138)]) rfl rfl (by decide) (Nat.le_of_ble_eq_true rfl) dL_law_306 (fun _ _ _ _ => VX_none) fun t140 u141 => ?_
    refine V_icmp_eq (κ := KL_law) (pc := 309) (tgt := 1854) dL_law_309 rfl ?_ ?_
    · exact VBL_law_1854 hS hk28 _ _ _ _ _ _
    refine V_iconst (κ := KL_law) (pc := 312) dL_law_312 ⟨by decide, by decide⟩ ?_
    exact V_lawret hS rfl (κ := KL_law) (pc := 313) dL_law_313
  · refine V_aload_n (κ := KL_law) (pc := 314) dL_law_314 1 rfl rfl ?_
    refine V_aload_n (κ := KL_law) (pc := 315) dL_law_315 0 rfl rfl ?_
    refine V_iload (κ := KL_law) (pc := 316) dL_law_316 5 rfl ?_
    refine V_iconst (κ := KL_law) (pc := 318) dL_law_318 ⟨by decide, by decide⟩ ?_
    refine V_iadd (κ := KL_law) (pc := 319) dL_law_319 ?_
    refine V_scr (κ := KL_law) hS (pc := 320) dL_law_320 fun t143 => ?_
    refine V_aload_n (κ := KL_law) (pc := 321) dL_law_321 3 rfl rfl ?_
    refine V_callSX (κ := KL_law) (pc := 322) (con_L_state _ _ _ _) mth_L_state wd_755 wd_754 (st0 := []) rfl rfl (by decide) (Nat.le_of_ble_eq_true rfl) dL_law_322 (fun _ _ _ _ => VX_none) fun t144 u145 => ?_
    refine V_istore (κ := KL_law) (pc := 325) (lv' := [(6, (0, t144)), (0, (5, 26)), (1, (2, x1)), (2, (2, x2)), (3, (2, x3)), (4, (2, x4)), (5, (0, x5))]) dL_law_325 (by decide) rfl ?_
    refine V_aload_n (κ := KL_law) (pc := 327) dL_law_327 3 rfl rfl ?_
    refine V_aload_n (κ := KL_law) (pc := 328) dL_law_328 1 rfl rfl ?_
    refine V_iload (κ := KL_law) (pc := 329) dL_law_329 6 rfl ?_
    refine V_iconst (κ := KL_law) (pc := 331) dL_law_331 ⟨by decide, by decide⟩ ?_
    refine V_iadd (κ := KL_law) (pc := 332) dL_law_332 ?_
    refine V_scr (κ := KL_law) hS (pc := 333) dL_law_333 fun t147 => ?_
    refine V_callV (ci := 7) (T := TX7) (N := 24) rfl (by decide) (κ := KL_law) (pc := 334) (con_X7_state _ _ _) mth_X7_state rfl ⟨wd_1192, wd_1193⟩ wd_1191 (st0 := []) rfl rfl (by decide) (Nat.le_of_ble_eq_true rfl) dL_law_334 (fun _ _ _ _ => VX_none) fun t148 u149 => ?_
    refine V_istore (κ := KL_law) (pc := 337) (lv' := [(7, (0, t148)), (6, (0, t144)), (0, (5, 26)), (1, (2, x1)), (2, (2, x2)), (3, (2, x3)), (4, (2, x4)), (5, (0, x5))]) dL_law_337 (by decide) rfl ?_
    refine V_aload_n (κ := KL_law) (pc := 339) dL_law_339 4 rfl rfl ?_
    refine V_callV (ci := 7) (T := TX7) (N := 24) rfl (by decide) (κ := KL_law) (pc := 340) (con_X7_thrown _ _) mth_X7_thrown rfl ⟨wd_1062, wd_1063⟩ wd_1061 (st0 := []) rfl rfl (by decide) (Nat.le_of_ble_eq_true rfl) dL_law_340 (fun _ _ _ _ => VX_none) fun t150 u151 => ?_
    refine V_iload (κ := KL_law) (pc := 343) dL_law_343 1 rfl ?_
    refine V_icmp_eq (κ := KL_law) (pc := 345) (tgt := 350) dL_law_345 rfl ?_ ?_
    · refine V_iload (κ := KL_law) (pc := 350) dL_law_350 1 rfl ?_
      refine V_if_ne (κ := KL_law) (pc := 352) (tgt := 367) dL_law_352 rfl ?_ ?_
      · refine V_sub (lv' := [(0, (5, 26)), (1, (2, x1)), (2, (2, x2)), (3, (2, x3)), (4, (2, x4)), (5, (0, x5))]) [2, 3, 4, 5, 6, 7] rfl ?_
        exact VBL_law_367 hS hk28 _ _ _ _ _ _
      refine V_aload_n (κ := KL_law) (pc := 355) dL_law_355 5 rfl rfl ?_
      refine V_iconst (κ := KL_law) (pc := 356) dL_law_356 ⟨by decide, by decide⟩ ?_
      refine V_laload (κ := KL_law) (pc := 357) dL_law_357 fun t152 => ?_
      refine V_iload (κ := KL_law) (pc := 358) dL_law_358 0 rfl ?_
      refine V_i2l (κ := KL_law) (pc := 360) dL_law_360 ?_
      refine V_lcmp (κ := KL_law) (pc := 361) dL_law_361 ?_
      refine V_if_eq (κ := KL_law) (pc := 362) (tgt := 367) dL_law_362 rfl ?_ ?_
      · refine V_sub (lv' := [(0, (5, 26)), (1, (2, x1)), (2, (2, x2)), (3, (2, x3)), (4, (2, x4)), (5, (0, x5))]) [2, 3, 4, 5, 6, 7] rfl ?_
        exact VBL_law_367 hS hk28 _ _ _ _ _ _
      refine V_iconst (κ := KL_law) (pc := 365) dL_law_365 ⟨by decide, by decide⟩ ?_
      exact V_lawret hS rfl (κ := KL_law) (pc := 366) dL_law_366
    refine V_iconst (κ := KL_law) (pc := 348) dL_law_348 ⟨by decide, by decide⟩ ?_
    exact V_lawret hS rfl (κ := KL_law) (pc := 349) dL_law_349
  · refine V_aload_n (κ := KL_law) (pc := 370) dL_law_370 1 rfl rfl ?_
    refine V_aload_n (κ := KL_law) (pc := 371) dL_law_371 0 rfl rfl ?_
    refine V_iload (κ := KL_law) (pc := 372) dL_law_372 5 rfl ?_
    refine V_iconst (κ := KL_law) (pc := 374) dL_law_374 ⟨by decide, by decide⟩ ?_
    refine V_iadd (κ := KL_law) (pc := 375) dL_law_375 ?_
    refine V_scr (κ := KL_law) hS (pc := 376) dL_law_376 fun t154 => ?_
    refine V_aload_n (κ := KL_law) (pc := 377) dL_law_377 3 rfl rfl ?_
    refine V_callSX (κ := KL_law) (pc := 378) (con_L_find _ _ _ _) mth_L_find wd_759 wd_758 (st0 := []) rfl rfl (by decide) (Nat.le_of_ble_eq_true rfl) dL_law_378 (fun _ _ _ _ => VX_none) fun t155 u156 => ?_
    refine V_istore (κ := KL_law) (pc := 381) (lv' := [(6, (0, t155)), (0, (5, 26)), (1, (2, x1)), (2, (2, x2)), (3, (2, x3)), (4, (2, x4)), (5, (0, x5))]) dL_law_381 (by decide) rfl ?_
    refine V_aload_n (κ := KL_law) (pc := 383) dL_law_383 3 rfl rfl ?_
    refine V_aload_n (κ := KL_law) (pc := 384) dL_law_384 1 rfl rfl ?_
    refine V_iload (κ := KL_law) (pc := 385) dL_law_385 6 rfl ?_
    refine V_iconst (κ := KL_law) (pc := 387) dL_law_387 ⟨by decide, by decide⟩ ?_
    refine V_iadd (κ := KL_law) (pc := 388) dL_law_388 ?_
    refine V_scr (κ := KL_law) hS (pc := 389) dL_law_389 fun t158 => ?_
    refine V_callV (ci := 7) (T := TX7) (N := 24) rfl (by decide) (κ := KL_law) (pc := 390) (con_X7_find _ _ _) mth_X7_find rfl ⟨wd_1282, wd_1283⟩ wd_1281 (st0 := []) rfl rfl (by decide) (Nat.le_of_ble_eq_true rfl) dL_law_390 (fun _ _ _ _ => VX_none) fun t159 u160 => ?_
    refine V_istore (κ := KL_law) (pc := 393) (lv' := [(7, (0, t159)), (6, (0, t155)), (0, (5, 26)), (1, (2, x1)), (2, (2, x2)), (3, (2, x3)), (4, (2, x4)), (5, (0, x5))]) dL_law_393 (by decide) rfl ?_
    refine V_aload_n (κ := KL_law) (pc := 395) dL_law_395 4 rfl rfl ?_
    refine V_callV (ci := 7) (T := TX7) (N := 24) rfl (by decide) (κ := KL_law) (pc := 396) (con_X7_thrown _ _) mth_X7_thrown rfl ⟨wd_1062, wd_1063⟩ wd_1061 (st0 := []) rfl rfl (by decide) (Nat.le_of_ble_eq_true rfl) dL_law_396 (fun _ _ _ _ => VX_none) fun t161 u162 => ?_
    refine V_iload (κ := KL_law) (pc := 399) dL_law_399 1 rfl ?_
    refine V_icmp_eq (κ := KL_law) (pc := 401) (tgt := 406) dL_law_401 rfl ?_ ?_
    · refine V_iload (κ := KL_law) (pc := 406) dL_law_406 1 rfl ?_
      refine V_if_ne (κ := KL_law) (pc := 408) (tgt := 423) dL_law_408 rfl ?_ ?_
      · refine V_sub (lv' := [(0, (5, 26)), (1, (2, x1)), (2, (2, x2)), (3, (2, x3)), (4, (2, x4)), (5, (0, x5))]) [2, 3, 4, 5, 6, 7] rfl ?_
        exact VBL_law_423 hS hk28 _ _ _ _ _ _
      refine V_aload_n (κ := KL_law) (pc := 411) dL_law_411 5 rfl rfl ?_
      refine V_iconst (κ := KL_law) (pc := 412) dL_law_412 ⟨by decide, by decide⟩ ?_
      refine V_laload (κ := KL_law) (pc := 413) dL_law_413 fun t163 => ?_
      refine V_iload (κ := KL_law) (pc := 414) dL_law_414 0 rfl ?_
      refine V_i2l (κ := KL_law) (pc := 416) dL_law_416 ?_
      refine V_lcmp (κ := KL_law) (pc := 417) dL_law_417 ?_
      refine V_if_eq (κ := KL_law) (pc := 418) (tgt := 423) dL_law_418 rfl ?_ ?_
      · refine V_sub (lv' := [(0, (5, 26)), (1, (2, x1)), (2, (2, x2)), (3, (2, x3)), (4, (2, x4)), (5, (0, x5))]) [2, 3, 4, 5, 6, 7] rfl ?_
        exact VBL_law_423 hS hk28 _ _ _ _ _ _
      refine V_iconst (κ := KL_law) (pc := 421) dL_law_421 ⟨by decide, by decide⟩ ?_
      exact V_lawret hS rfl (κ := KL_law) (pc := 422) dL_law_422
    refine V_iconst (κ := KL_law) (pc := 404) dL_law_404 ⟨by decide, by decide⟩ ?_
    exact V_lawret hS rfl (κ := KL_law) (pc := 405) dL_law_405
  · refine V_aload_n (κ := KL_law) (pc := 426) dL_law_426 1 rfl rfl ?_
    refine V_aload_n (κ := KL_law) (pc := 427) dL_law_427 0 rfl rfl ?_
    refine V_iload (κ := KL_law) (pc := 428) dL_law_428 5 rfl ?_
    refine V_iconst (κ := KL_law) (pc := 430) dL_law_430 ⟨by decide, by decide⟩ ?_
    refine V_iadd (κ := KL_law) (pc := 431) dL_law_431 ?_
    refine V_scr (κ := KL_law) hS (pc := 432) dL_law_432 fun t165 => ?_
    refine V_aload_n (κ := KL_law) (pc := 433) dL_law_433 0 rfl rfl ?_
    refine V_iload (κ := KL_law) (pc := 434) dL_law_434 5 rfl ?_
    refine V_iconst (κ := KL_law) (pc := 436) dL_law_436 ⟨by decide, by decide⟩ ?_
    refine V_iadd (κ := KL_law) (pc := 437) dL_law_437 ?_
    refine V_scr (κ := KL_law) hS (pc := 438) dL_law_438 fun t167 => ?_
    refine V_aload_n (κ := KL_law) (pc := 439) dL_law_439 3 rfl rfl ?_
    refine V_callSX (κ := KL_law) (pc := 440) (con_L_plate _ _ _ _ _) mth_L_plate wd_768 wd_767 (st0 := []) rfl rfl (by decide) (Nat.le_of_ble_eq_true rfl) dL_law_440 (fun _ _ _ _ => VX_none) fun t168 u169 => ?_
    refine V_istore (κ := KL_law) (pc := 443) (lv' := [(6, (0, t168)), (0, (5, 26)), (1, (2, x1)), (2, (2, x2)), (3, (2, x3)), (4, (2, x4)), (5, (0, x5))]) dL_law_443 (by decide) rfl ?_
    refine V_aload_n (κ := KL_law) (pc := 445) dL_law_445 3 rfl rfl ?_
    refine V_aload_n (κ := KL_law) (pc := 446) dL_law_446 1 rfl rfl ?_
    refine V_iload (κ := KL_law) (pc := 447) dL_law_447 6 rfl ?_
    refine V_iconst (κ := KL_law) (pc := 449) dL_law_449 ⟨by decide, by decide⟩ ?_
    refine V_iadd (κ := KL_law) (pc := 450) dL_law_450 ?_
    refine V_scr (κ := KL_law) hS (pc := 451) dL_law_451 fun t171 => ?_
    refine V_aload_n (κ := KL_law) (pc := 452) dL_law_452 1 rfl rfl ?_
    refine V_iload (κ := KL_law) (pc := 453) dL_law_453 6 rfl ?_
    refine V_iconst (κ := KL_law) (pc := 455) dL_law_455 ⟨by decide, by decide⟩ ?_
    refine V_iadd (κ := KL_law) (pc := 456) dL_law_456 ?_
    refine V_scr (κ := KL_law) hS (pc := 457) dL_law_457 fun t173 => ?_
    refine V_callV (ci := 7) (T := TX7) (N := 24) rfl (by decide) (κ := KL_law) (pc := 458) (con_X7_plate _ _ _ _) mth_X7_plate rfl ⟨wd_1286, wd_1287⟩ wd_1285 (st0 := []) rfl rfl (by decide) (Nat.le_of_ble_eq_true rfl) dL_law_458 (fun _ _ _ _ => VX_none) fun t174 u175 => ?_
    refine V_istore (κ := KL_law) (pc := 461) (lv' := [(7, (0, t174)), (6, (0, t168)), (0, (5, 26)), (1, (2, x1)), (2, (2, x2)), (3, (2, x3)), (4, (2, x4)), (5, (0, x5))]) dL_law_461 (by decide) rfl ?_
    refine V_aload_n (κ := KL_law) (pc := 463) dL_law_463 4 rfl rfl ?_
    refine V_callV (ci := 7) (T := TX7) (N := 24) rfl (by decide) (κ := KL_law) (pc := 464) (con_X7_thrown _ _) mth_X7_thrown rfl ⟨wd_1062, wd_1063⟩ wd_1061 (st0 := []) rfl rfl (by decide) (Nat.le_of_ble_eq_true rfl) dL_law_464 (fun _ _ _ _ => VX_none) fun t176 u177 => ?_
    refine V_iload (κ := KL_law) (pc := 467) dL_law_467 1 rfl ?_
    refine V_icmp_eq (κ := KL_law) (pc := 469) (tgt := 474) dL_law_469 rfl ?_ ?_
    · refine V_iload (κ := KL_law) (pc := 474) dL_law_474 1 rfl ?_
      refine V_if_ne (κ := KL_law) (pc := 476) (tgt := 491) dL_law_476 rfl ?_ ?_
      · refine V_sub (lv' := [(0, (5, 26)), (1, (2, x1)), (2, (2, x2)), (3, (2, x3)), (4, (2, x4)), (5, (0, x5))]) [2, 3, 4, 5, 6, 7] rfl ?_
        exact VBL_law_491 hS hk28 _ _ _ _ _ _
      refine V_aload_n (κ := KL_law) (pc := 479) dL_law_479 5 rfl rfl ?_
      refine V_iconst (κ := KL_law) (pc := 480) dL_law_480 ⟨by decide, by decide⟩ ?_
      refine V_laload (κ := KL_law) (pc := 481) dL_law_481 fun t178 => ?_
      refine V_iload (κ := KL_law) (pc := 482) dL_law_482 0 rfl ?_
      refine V_i2l (κ := KL_law) (pc := 484) dL_law_484 ?_
      refine V_lcmp (κ := KL_law) (pc := 485) dL_law_485 ?_
      refine V_if_eq (κ := KL_law) (pc := 486) (tgt := 491) dL_law_486 rfl ?_ ?_
      · refine V_sub (lv' := [(0, (5, 26)), (1, (2, x1)), (2, (2, x2)), (3, (2, x3)), (4, (2, x4)), (5, (0, x5))]) [2, 3, 4, 5, 6, 7] rfl ?_
        exact VBL_law_491 hS hk28 _ _ _ _ _ _
      refine V_iconst (κ := KL_law) (pc := 489) dL_law_489 ⟨by decide, by decide⟩ ?_
      exact V_lawret hS rfl (κ := KL_law) (pc := 490) dL_law_490
    refine V_iconst (κ := KL_law) (pc := 472) dL_law_472 ⟨by decide, by decide⟩ ?_
    exact V_lawret hS rfl (κ := KL_law) (pc := 473) dL_law_473
  · refine V_aload_n (κ := KL_law) (pc := 494) dL_law_494 1 rfl rfl ?_
    refine V_aload_n (κ := KL_law) (pc := 495) dL_law_495 0 rfl rfl ?_
    refine V_iload (κ := KL_law) (pc := 496) dL_law_496 5 rfl ?_
    refine V_iconst (κ := KL_law) (pc := 498) dL_law_498 ⟨by decide, by decide⟩ ?_
    refine V_iadd (κ := KL_law) (pc := 499) dL_law_499 ?_
    refine V_scr (κ := KL_law) hS (pc := 500) dL_law_500 fun t180 => ?_
    refine V_aload_n (κ := KL_law) (pc := 501) dL_law_501 0 rfl rfl ?_
    refine V_iload (κ := KL_law) (pc := 502) dL_law_502 5 rfl ?_
    refine V_iconst (κ := KL_law) (pc := 504) dL_law_504 ⟨by decide, by decide⟩ ?_
    refine V_iadd (κ := KL_law) (pc := 505) dL_law_505 ?_
    refine V_scr (κ := KL_law) hS (pc := 506) dL_law_506 fun t182 => ?_
    refine V_aload_n (κ := KL_law) (pc := 507) dL_law_507 0 rfl rfl ?_
    refine V_iload (κ := KL_law) (pc := 508) dL_law_508 5 rfl ?_
    refine V_iconst (κ := KL_law) (pc := 510) dL_law_510 ⟨by decide, by decide⟩ ?_
    refine V_iadd (κ := KL_law) (pc := 511) dL_law_511 ?_
    refine V_scr (κ := KL_law) hS (pc := 512) dL_law_512 fun t184 => ?_
    refine V_aload_n (κ := KL_law) (pc := 513) dL_law_513 0 rfl rfl ?_
    refine V_iload (κ := KL_law) (pc := 514) dL_law_514 5 rfl ?_
    refine V_iconst (κ := KL_law) (pc := 516) dL_law_516 ⟨by decide, by decide⟩ ?_
    refine V_iadd (κ := KL_law) (pc := 517) dL_law_517 ?_
    refine V_scr (κ := KL_law) hS (pc := 518) dL_law_518 fun t186 => ?_
    refine V_aload_n (κ := KL_law) (pc := 519) dL_law_519 3 rfl rfl ?_
    refine V_callSX (κ := KL_law) (pc := 520) (con_L_cell _ _ _ _ _ _ _) mth_L_cell wd_773 wd_772 (st0 := []) rfl rfl (by decide) (Nat.le_of_ble_eq_true rfl) dL_law_520 (fun _ _ _ _ => VX_none) fun t187 u188 => ?_
    refine V_istore (κ := KL_law) (pc := 523) (lv' := [(6, (0, t187)), (0, (5, 26)), (1, (2, x1)), (2, (2, x2)), (3, (2, x3)), (4, (2, x4)), (5, (0, x5))]) dL_law_523 (by decide) rfl ?_
    refine V_aload_n (κ := KL_law) (pc := 525) dL_law_525 3 rfl rfl ?_
    refine V_aload_n (κ := KL_law) (pc := 526) dL_law_526 1 rfl rfl ?_
    refine V_iload (κ := KL_law) (pc := 527) dL_law_527 6 rfl ?_
    refine V_iconst (κ := KL_law) (pc := 529) dL_law_529 ⟨by decide, by decide⟩ ?_
    refine V_iadd (κ := KL_law) (pc := 530) dL_law_530 ?_
    refine V_scr (κ := KL_law) hS (pc := 531) dL_law_531 fun t190 => ?_
    refine V_aload_n (κ := KL_law) (pc := 532) dL_law_532 1 rfl rfl ?_
    refine V_iload (κ := KL_law) (pc := 533) dL_law_533 6 rfl ?_
    refine V_iconst (κ := KL_law) (pc := 535) dL_law_535 ⟨by decide, by decide⟩ ?_
    refine V_iadd (κ := KL_law) (pc := 536) dL_law_536 ?_
    refine V_scr (κ := KL_law) hS (pc := 537) dL_law_537 fun t192 => ?_
    refine V_aload_n (κ := KL_law) (pc := 538) dL_law_538 1 rfl rfl ?_
    refine V_iload (κ := KL_law) (pc := 539) dL_law_539 6 rfl ?_
    refine V_iconst (κ := KL_law) (pc := 541) dL_law_541 ⟨by decide, by decide⟩ ?_
    refine V_iadd (κ := KL_law) (pc := 542) dL_law_542 ?_
    refine V_scr (κ := KL_law) hS (pc := 543) dL_law_543 fun t194 => ?_
    refine V_aload_n (κ := KL_law) (pc := 544) dL_law_544 1 rfl rfl ?_
    refine V_iload (κ := KL_law) (pc := 545) dL_law_545 6 rfl ?_
    refine V_iconst (κ := KL_law) (pc := 547) dL_law_547 ⟨by decide, by decide⟩ ?_
    refine V_iadd (κ := KL_law) (pc := 548) dL_law_548 ?_
    refine V_scr (κ := KL_law) hS (pc := 549) dL_law_549 fun t196 => ?_
    refine V_callV (ci := 7) (T := TX7) (N := 24) rfl (by decide) (κ := KL_law) (pc := 550) (con_X7_cell _ _ _ _ _ _) mth_X7_cell rfl ⟨wd_1314, wd_1315⟩ wd_1313 (st0 := []) rfl rfl (by decide) (Nat.le_of_ble_eq_true rfl) dL_law_550 (fun _ _ _ _ => VX_none) fun t197 u198 => ?_
    refine V_istore (κ := KL_law) (pc := 553) (lv' := [(7, (0, t197)), (6, (0, t187)), (0, (5, 26)), (1, (2, x1)), (2, (2, x2)), (3, (2, x3)), (4, (2, x4)), (5, (0, x5))]) dL_law_553 (by decide) rfl ?_
    refine V_aload_n (κ := KL_law) (pc := 555) dL_law_555 4 rfl rfl ?_
    refine V_callV (ci := 7) (T := TX7) (N := 24) rfl (by decide) (κ := KL_law) (pc := 556) (con_X7_thrown _ _) mth_X7_thrown rfl ⟨wd_1062, wd_1063⟩ wd_1061 (st0 := []) rfl rfl (by decide) (Nat.le_of_ble_eq_true rfl) dL_law_556 (fun _ _ _ _ => VX_none) fun t199 u200 => ?_
    refine V_iload (κ := KL_law) (pc := 559) dL_law_559 1 rfl ?_
    refine V_icmp_eq (κ := KL_law) (pc := 561) (tgt := 566) dL_law_561 rfl ?_ ?_
    · refine V_iload (κ := KL_law) (pc := 566) dL_law_566 1 rfl ?_
      refine V_if_ne (κ := KL_law) (pc := 568) (tgt := 583) dL_law_568 rfl ?_ ?_
      · refine V_sub (lv' := [(0, (5, 26)), (1, (2, x1)), (2, (2, x2)), (3, (2, x3)), (4, (2, x4)), (5, (0, x5))]) [2, 3, 4, 5, 6, 7] rfl ?_
        exact VBL_law_583 hS hk28 _ _ _ _ _ _
      refine V_aload_n (κ := KL_law) (pc := 571) dL_law_571 5 rfl rfl ?_
      refine V_iconst (κ := KL_law) (pc := 572) dL_law_572 ⟨by decide, by decide⟩ ?_
      refine V_laload (κ := KL_law) (pc := 573) dL_law_573 fun t201 => ?_
      refine V_iload (κ := KL_law) (pc := 574) dL_law_574 0 rfl ?_
      refine V_i2l (κ := KL_law) (pc := 576) dL_law_576 ?_
      refine V_lcmp (κ := KL_law) (pc := 577) dL_law_577 ?_
      refine V_if_eq (κ := KL_law) (pc := 578) (tgt := 583) dL_law_578 rfl ?_ ?_
      · refine V_sub (lv' := [(0, (5, 26)), (1, (2, x1)), (2, (2, x2)), (3, (2, x3)), (4, (2, x4)), (5, (0, x5))]) [2, 3, 4, 5, 6, 7] rfl ?_
        exact VBL_law_583 hS hk28 _ _ _ _ _ _
      refine V_iconst (κ := KL_law) (pc := 581) dL_law_581 ⟨by decide, by decide⟩ ?_
      exact V_lawret hS rfl (κ := KL_law) (pc := 582) dL_law_582
    refine V_iconst (κ := KL_law) (pc := 564) dL_law_564 ⟨by decide, by decide⟩ ?_
    exact V_lawret hS rfl (κ := KL_law) (pc := 565) dL_law_565
  · refine V_aload_n (κ := KL_law) (pc := 586) dL_law_586 1 rfl rfl ?_
    refine V_aload_n (κ := KL_law) (pc := 587) dL_law_587 0 rfl rfl ?_
    refine V_iload (κ := KL_law) (pc := 588) dL_law_588 5 rfl ?_
    refine V_iconst (κ := KL_law) (pc := 590) dL_law_590 ⟨by decide, by decide⟩ ?_
    refine V_iadd (κ := KL_law) (pc := 591) dL_law_591 ?_
    refine V_scr (κ := KL_law) hS (pc := 592) dL_law_592 fun t203 => ?_
    refine V_aload_n (κ := KL_law) (pc := 593) dL_law_593 0 rfl rfl ?_
    refine V_iload (κ := KL_law) (pc := 594) dL_law_594 5 rfl ?_
    refine V_iconst (κ := KL_law) (pc := 596) dL_law_596 ⟨by decide, by decide⟩ ?_
    refine V_iadd (κ := KL_law) (pc := 597) dL_law_597 ?_
    refine V_scr (κ := KL_law) hS (pc := 598) dL_law_598 fun t205 => ?_
    refine V_aload_n (κ := KL_law) (pc := 599) dL_law_599 3 rfl rfl ?_
    refine V_callSX (κ := KL_law) (pc := 600) (con_L_tone _ _ _ _ _) mth_L_tone wd_791 wd_790 (st0 := []) rfl rfl (by decide) (Nat.le_of_ble_eq_true rfl) dL_law_600 (fun _ _ _ _ => VX_none) fun t206 u207 => ?_
    refine V_istore (κ := KL_law) (pc := 603) (lv' := [(6, (0, t206)), (0, (5, 26)), (1, (2, x1)), (2, (2, x2)), (3, (2, x3)), (4, (2, x4)), (5, (0, x5))]) dL_law_603 (by decide) rfl ?_
    refine V_aload_n (κ := KL_law) (pc := 605) dL_law_605 3 rfl rfl ?_
    refine V_aload_n (κ := KL_law) (pc := 606) dL_law_606 1 rfl rfl ?_
    refine V_iload (κ := KL_law) (pc := 607) dL_law_607 6 rfl ?_
    refine V_iconst (κ := KL_law) (pc := 609) dL_law_609 ⟨by decide, by decide⟩ ?_
    refine V_iadd (κ := KL_law) (pc := 610) dL_law_610 ?_
    refine V_scr (κ := KL_law) hS (pc := 611) dL_law_611 fun t209 => ?_
    refine V_aload_n (κ := KL_law) (pc := 612) dL_law_612 1 rfl rfl ?_
    refine V_iload (κ := KL_law) (pc := 613) dL_law_613 6 rfl ?_
    refine V_iconst (κ := KL_law) (pc := 615) dL_law_615 ⟨by decide, by decide⟩ ?_
    refine V_iadd (κ := KL_law) (pc := 616) dL_law_616 ?_
    refine V_scr (κ := KL_law) hS (pc := 617) dL_law_617 fun t211 => ?_
    refine V_callV (ci := 7) (T := TX7) (N := 24) rfl (by decide) (κ := KL_law) (pc := 618) (con_X7_tone _ _ _ _) mth_X7_tone rfl ⟨wd_1318, wd_1319⟩ wd_1317 (st0 := []) rfl rfl (by decide) (Nat.le_of_ble_eq_true rfl) dL_law_618 (fun _ _ _ _ => VX_none) fun t212 u213 => ?_
    refine V_istore (κ := KL_law) (pc := 621) (lv' := [(7, (0, t212)), (6, (0, t206)), (0, (5, 26)), (1, (2, x1)), (2, (2, x2)), (3, (2, x3)), (4, (2, x4)), (5, (0, x5))]) dL_law_621 (by decide) rfl ?_
    refine V_aload_n (κ := KL_law) (pc := 623) dL_law_623 4 rfl rfl ?_
    refine V_callV (ci := 7) (T := TX7) (N := 24) rfl (by decide) (κ := KL_law) (pc := 624) (con_X7_thrown _ _) mth_X7_thrown rfl ⟨wd_1062, wd_1063⟩ wd_1061 (st0 := []) rfl rfl (by decide) (Nat.le_of_ble_eq_true rfl) dL_law_624 (fun _ _ _ _ => VX_none) fun t214 u215 => ?_
    refine V_iload (κ := KL_law) (pc := 627) dL_law_627 1 rfl ?_
    refine V_icmp_eq (κ := KL_law) (pc := 629) (tgt := 634) dL_law_629 rfl ?_ ?_
    · refine V_iload (κ := KL_law) (pc := 634) dL_law_634 1 rfl ?_
      refine V_if_ne (κ := KL_law) (pc := 636) (tgt := 651) dL_law_636 rfl ?_ ?_
      · refine V_sub (lv' := [(0, (5, 26)), (1, (2, x1)), (2, (2, x2)), (3, (2, x3)), (4, (2, x4)), (5, (0, x5))]) [2, 3, 4, 5, 6, 7] rfl ?_
        exact VBL_law_651 hS hk28 _ _ _ _ _ _
      refine V_aload_n (κ := KL_law) (pc := 639) dL_law_639 5 rfl rfl ?_
      refine V_iconst (κ := KL_law) (pc := 640) dL_law_640 ⟨by decide, by decide⟩ ?_
      refine V_laload (κ := KL_law) (pc := 641) dL_law_641 fun t216 => ?_
      refine V_iload (κ := KL_law) (pc := 642) dL_law_642 0 rfl ?_
      refine V_i2l (κ := KL_law) (pc := 644) dL_law_644 ?_
      refine V_lcmp (κ := KL_law) (pc := 645) dL_law_645 ?_
      refine V_if_eq (κ := KL_law) (pc := 646) (tgt := 651) dL_law_646 rfl ?_ ?_
      · refine V_sub (lv' := [(0, (5, 26)), (1, (2, x1)), (2, (2, x2)), (3, (2, x3)), (4, (2, x4)), (5, (0, x5))]) [2, 3, 4, 5, 6, 7] rfl ?_
        exact VBL_law_651 hS hk28 _ _ _ _ _ _
      refine V_iconst (κ := KL_law) (pc := 649) dL_law_649 ⟨by decide, by decide⟩ ?_
      exact V_lawret hS rfl (κ := KL_law) (pc := 650) dL_law_650
    refine V_iconst (κ := KL_law) (pc := 632) dL_law_632 ⟨by decide, by decide⟩ ?_
    exact V_lawret hS rfl (κ := KL_law) (pc := 633) dL_law_633
  · refine V_aload_n (κ := KL_law) (pc := 654) dL_law_654 1 rfl rfl ?_
    refine V_aload_n (κ := KL_law) (pc := 655) dL_law_655 0 rfl rfl ?_
    refine V_iload (κ := KL_law) (pc := 656) dL_law_656 5 rfl ?_
    refine V_iconst (κ := KL_law) (pc := 658) dL_law_658 ⟨by decide, by decide⟩ ?_
    refine V_iadd (κ := KL_law) (pc := 659) dL_law_659 ?_
    refine V_scr (κ := KL_law) hS (pc := 660) dL_law_660 fun t218 => ?_
    refine V_aload_n (κ := KL_law) (pc := 661) dL_law_661 0 rfl rfl ?_
    refine V_iload (κ := KL_law) (pc := 662) dL_law_662 5 rfl ?_
    refine V_iconst (κ := KL_law) (pc := 664) dL_law_664 ⟨by decide, by decide⟩ ?_
    refine V_iadd (κ := KL_law) (pc := 665) dL_law_665 ?_
    refine V_scr (κ := KL_law) hS (pc := 666) dL_law_666 fun t220 => ?_
    refine V_aload_n (κ := KL_law) (pc := 667) dL_law_667 3 rfl rfl ?_
    refine V_callSX (κ := KL_law) (pc := 668) (con_L_inks _ _ _ _ _) mth_L_inks wd_798 wd_797 (st0 := []) rfl rfl (by decide) (Nat.le_of_ble_eq_true rfl) dL_law_668 (fun _ _ _ _ => VX_none) fun t221 u222 => ?_
    refine V_istore (κ := KL_law) (pc := 671) (lv' := [(6, (0, t221)), (0, (5, 26)), (1, (2, x1)), (2, (2, x2)), (3, (2, x3)), (4, (2, x4)), (5, (0, x5))]) dL_law_671 (by decide) rfl ?_
    refine V_aload_n (κ := KL_law) (pc := 673) dL_law_673 3 rfl rfl ?_
    refine V_aload_n (κ := KL_law) (pc := 674) dL_law_674 1 rfl rfl ?_
    refine V_iload (κ := KL_law) (pc := 675) dL_law_675 6 rfl ?_
    refine V_iconst (κ := KL_law) (pc := 677) dL_law_677 ⟨by decide, by decide⟩ ?_
    refine V_iadd (κ := KL_law) (pc := 678) dL_law_678 ?_
    refine V_scr (κ := KL_law) hS (pc := 679) dL_law_679 fun t224 => ?_
    refine V_aload_n (κ := KL_law) (pc := 680) dL_law_680 1 rfl rfl ?_
    refine V_iload (κ := KL_law) (pc := 681) dL_law_681 6 rfl ?_
    refine V_iconst (κ := KL_law) (pc := 683) dL_law_683 ⟨by decide, by decide⟩ ?_
    refine V_iadd (κ := KL_law) (pc := 684) dL_law_684 ?_
    refine V_scr (κ := KL_law) hS (pc := 685) dL_law_685 fun t226 => ?_
    refine V_callV (ci := 7) (T := TX7) (N := 24) rfl (by decide) (κ := KL_law) (pc := 686) (con_X7_inks _ _ _ _) mth_X7_inks rfl ⟨wd_1322, wd_1323⟩ wd_1321 (st0 := []) rfl rfl (by decide) (Nat.le_of_ble_eq_true rfl) dL_law_686 (fun _ _ _ _ => VX_none) fun t227 u228 => ?_
    refine V_istore (κ := KL_law) (pc := 689) (lv' := [(7, (0, t227)), (6, (0, t221)), (0, (5, 26)), (1, (2, x1)), (2, (2, x2)), (3, (2, x3)), (4, (2, x4)), (5, (0, x5))]) dL_law_689 (by decide) rfl ?_
    refine V_aload_n (κ := KL_law) (pc := 691) dL_law_691 4 rfl rfl ?_
    refine V_callV (ci := 7) (T := TX7) (N := 24) rfl (by decide) (κ := KL_law) (pc := 692) (con_X7_thrown _ _) mth_X7_thrown rfl ⟨wd_1062, wd_1063⟩ wd_1061 (st0 := []) rfl rfl (by decide) (Nat.le_of_ble_eq_true rfl) dL_law_692 (fun _ _ _ _ => VX_none) fun t229 u230 => ?_
    refine V_iload (κ := KL_law) (pc := 695) dL_law_695 1 rfl ?_
    refine V_icmp_eq (κ := KL_law) (pc := 697) (tgt := 702) dL_law_697 rfl ?_ ?_
    · refine V_iload (κ := KL_law) (pc := 702) dL_law_702 1 rfl ?_
      refine V_if_ne (κ := KL_law) (pc := 704) (tgt := 719) dL_law_704 rfl ?_ ?_
      · refine V_sub (lv' := [(0, (5, 26)), (1, (2, x1)), (2, (2, x2)), (3, (2, x3)), (4, (2, x4)), (5, (0, x5))]) [2, 3, 4, 5, 6, 7] rfl ?_
        exact VBL_law_719 hS hk28 _ _ _ _ _ _
      refine V_aload_n (κ := KL_law) (pc := 707) dL_law_707 5 rfl rfl ?_
      refine V_iconst (κ := KL_law) (pc := 708) dL_law_708 ⟨by decide, by decide⟩ ?_
      refine V_laload (κ := KL_law) (pc := 709) dL_law_709 fun t231 => ?_
      refine V_iload (κ := KL_law) (pc := 710) dL_law_710 0 rfl ?_
      refine V_i2l (κ := KL_law) (pc := 712) dL_law_712 ?_
      refine V_lcmp (κ := KL_law) (pc := 713) dL_law_713 ?_
      refine V_if_eq (κ := KL_law) (pc := 714) (tgt := 719) dL_law_714 rfl ?_ ?_
      · refine V_sub (lv' := [(0, (5, 26)), (1, (2, x1)), (2, (2, x2)), (3, (2, x3)), (4, (2, x4)), (5, (0, x5))]) [2, 3, 4, 5, 6, 7] rfl ?_
        exact VBL_law_719 hS hk28 _ _ _ _ _ _
      refine V_iconst (κ := KL_law) (pc := 717) dL_law_717 ⟨by decide, by decide⟩ ?_
      exact V_lawret hS rfl (κ := KL_law) (pc := 718) dL_law_718
    refine V_iconst (κ := KL_law) (pc := 700) dL_law_700 ⟨by decide, by decide⟩ ?_
    exact V_lawret hS rfl (κ := KL_law) (pc := 701) dL_law_701
  · refine V_aload_n (κ := KL_law) (pc := 722) dL_law_722 1 rfl rfl ?_
    refine V_aload_n (κ := KL_law) (pc := 723) dL_law_723 0 rfl rfl ?_
    refine V_iload (κ := KL_law) (pc := 724) dL_law_724 5 rfl ?_
    refine V_iconst (κ := KL_law) (pc := 726) dL_law_726 ⟨by decide, by decide⟩ ?_
    refine V_iadd (κ := KL_law) (pc := 727) dL_law_727 ?_
    refine V_scr (κ := KL_law) hS (pc := 728) dL_law_728 fun t233 => ?_
    refine V_aload_n (κ := KL_law) (pc := 729) dL_law_729 0 rfl rfl ?_
    refine V_iload (κ := KL_law) (pc := 730) dL_law_730 5 rfl ?_
    refine V_iconst (κ := KL_law) (pc := 732) dL_law_732 ⟨by decide, by decide⟩ ?_
    refine V_iadd (κ := KL_law) (pc := 733) dL_law_733 ?_
    refine V_scr (κ := KL_law) hS (pc := 734) dL_law_734 fun t235 => ?_
    refine V_aload_n (κ := KL_law) (pc := 735) dL_law_735 0 rfl rfl ?_
    refine V_iload (κ := KL_law) (pc := 736) dL_law_736 5 rfl ?_
    refine V_iconst (κ := KL_law) (pc := 738) dL_law_738 ⟨by decide, by decide⟩ ?_
    refine V_iadd (κ := KL_law) (pc := 739) dL_law_739 ?_
    refine V_scr (κ := KL_law) hS (pc := 740) dL_law_740 fun t237 => ?_
    refine V_aload_n (κ := KL_law) (pc := 741) dL_law_741 3 rfl rfl ?_
    refine V_callSX (κ := KL_law) (pc := 742) (con_L_why _ _ _ _ _ _) mth_L_why wd_805 wd_804 (st0 := []) rfl rfl (by decide) (Nat.le_of_ble_eq_true rfl) dL_law_742 (fun _ _ _ _ => VX_none) fun t238 u239 => ?_
    refine V_istore (κ := KL_law) (pc := 745) (lv' := [(6, (0, t238)), (0, (5, 26)), (1, (2, x1)), (2, (2, x2)), (3, (2, x3)), (4, (2, x4)), (5, (0, x5))]) dL_law_745 (by decide) rfl ?_
    refine V_aload_n (κ := KL_law) (pc := 747) dL_law_747 3 rfl rfl ?_
    refine V_aload_n (κ := KL_law) (pc := 748) dL_law_748 1 rfl rfl ?_
    refine V_iload (κ := KL_law) (pc := 749) dL_law_749 6 rfl ?_
    refine V_iconst (κ := KL_law) (pc := 751) dL_law_751 ⟨by decide, by decide⟩ ?_
    refine V_iadd (κ := KL_law) (pc := 752) dL_law_752 ?_
    refine V_scr (κ := KL_law) hS (pc := 753) dL_law_753 fun t241 => ?_
    refine V_aload_n (κ := KL_law) (pc := 754) dL_law_754 1 rfl rfl ?_
    refine V_iload (κ := KL_law) (pc := 755) dL_law_755 6 rfl ?_
    refine V_iconst (κ := KL_law) (pc := 757) dL_law_757 ⟨by decide, by decide⟩ ?_
    refine V_iadd (κ := KL_law) (pc := 758) dL_law_758 ?_
    refine V_scr (κ := KL_law) hS (pc := 759) dL_law_759 fun t243 => ?_
    refine V_aload_n (κ := KL_law) (pc := 760) dL_law_760 1 rfl rfl ?_
    refine V_iload (κ := KL_law) (pc := 761) dL_law_761 6 rfl ?_
    refine V_iconst (κ := KL_law) (pc := 763) dL_law_763 ⟨by decide, by decide⟩ ?_
    refine V_iadd (κ := KL_law) (pc := 764) dL_law_764 ?_
    refine V_scr (κ := KL_law) hS (pc := 765) dL_law_765 fun t245 => ?_
    refine V_callV (ci := 7) (T := TX7) (N := 24) rfl (by decide) (κ := KL_law) (pc := 766) (con_X7_why _ _ _ _ _) mth_X7_why rfl ⟨wd_1326, wd_1327⟩ wd_1325 (st0 := []) rfl rfl (by decide) (Nat.le_of_ble_eq_true rfl) dL_law_766 (fun _ _ _ _ => VX_none) fun t246 u247 => ?_
    refine V_istore (κ := KL_law) (pc := 769) (lv' := [(7, (0, t246)), (6, (0, t238)), (0, (5, 26)), (1, (2, x1)), (2, (2, x2)), (3, (2, x3)), (4, (2, x4)), (5, (0, x5))]) dL_law_769 (by decide) rfl ?_
    refine V_aload_n (κ := KL_law) (pc := 771) dL_law_771 4 rfl rfl ?_
    refine V_callV (ci := 7) (T := TX7) (N := 24) rfl (by decide) (κ := KL_law) (pc := 772) (con_X7_thrown _ _) mth_X7_thrown rfl ⟨wd_1062, wd_1063⟩ wd_1061 (st0 := []) rfl rfl (by decide) (Nat.le_of_ble_eq_true rfl) dL_law_772 (fun _ _ _ _ => VX_none) fun t248 u249 => ?_
    refine V_iload (κ := KL_law) (pc := 775) dL_law_775 1 rfl ?_
    refine V_icmp_eq (κ := KL_law) (pc := 777) (tgt := 782) dL_law_777 rfl ?_ ?_
    · refine V_iload (κ := KL_law) (pc := 782) dL_law_782 1 rfl ?_
      refine V_if_ne (κ := KL_law) (pc := 784) (tgt := 799) dL_law_784 rfl ?_ ?_
      · refine V_sub (lv' := [(0, (5, 26)), (1, (2, x1)), (2, (2, x2)), (3, (2, x3)), (4, (2, x4)), (5, (0, x5))]) [2, 3, 4, 5, 6, 7] rfl ?_
        exact VBL_law_799 hS hk28 _ _ _ _ _ _
      refine V_aload_n (κ := KL_law) (pc := 787) dL_law_787 5 rfl rfl ?_
      refine V_iconst (κ := KL_law) (pc := 788) dL_law_788 ⟨by decide, by decide⟩ ?_
      refine V_laload (κ := KL_law) (pc := 789) dL_law_789 fun t250 => ?_
      refine V_iload (κ := KL_law) (pc := 790) dL_law_790 0 rfl ?_
      refine V_i2l (κ := KL_law) (pc := 792) dL_law_792 ?_
      refine V_lcmp (κ := KL_law) (pc := 793) dL_law_793 ?_
      refine V_if_eq (κ := KL_law) (pc := 794) (tgt := 799) dL_law_794 rfl ?_ ?_
      · refine V_sub (lv' := [(0, (5, 26)), (1, (2, x1)), (2, (2, x2)), (3, (2, x3)), (4, (2, x4)), (5, (0, x5))]) [2, 3, 4, 5, 6, 7] rfl ?_
        exact VBL_law_799 hS hk28 _ _ _ _ _ _
      refine V_iconst (κ := KL_law) (pc := 797) dL_law_797 ⟨by decide, by decide⟩ ?_
      exact V_lawret hS rfl (κ := KL_law) (pc := 798) dL_law_798
    refine V_iconst (κ := KL_law) (pc := 780) dL_law_780 ⟨by decide, by decide⟩ ?_
    exact V_lawret hS rfl (κ := KL_law) (pc := 781) dL_law_781
  · refine V_aload_n (κ := KL_law) (pc := 802) dL_law_802 1 rfl rfl ?_
    refine V_aload_n (κ := KL_law) (pc := 803) dL_law_803 0 rfl rfl ?_
    refine V_iload (κ := KL_law) (pc := 804) dL_law_804 5 rfl ?_
    refine V_iconst (κ := KL_law) (pc := 806) dL_law_806 ⟨by decide, by decide⟩ ?_
    refine V_iadd (κ := KL_law) (pc := 807) dL_law_807 ?_
    refine V_scr (κ := KL_law) hS (pc := 808) dL_law_808 fun t252 => ?_
    refine V_aload_n (κ := KL_law) (pc := 809) dL_law_809 0 rfl rfl ?_
    refine V_iload (κ := KL_law) (pc := 810) dL_law_810 5 rfl ?_
    refine V_iconst (κ := KL_law) (pc := 812) dL_law_812 ⟨by decide, by decide⟩ ?_
    refine V_iadd (κ := KL_law) (pc := 813) dL_law_813 ?_
    refine V_scr (κ := KL_law) hS (pc := 814) dL_law_814 fun t254 => ?_
    refine V_aload_n (κ := KL_law) (pc := 815) dL_law_815 3 rfl rfl ?_
    refine V_callSX (κ := KL_law) (pc := 816) (con_L_off _ _ _ _ _) mth_L_off wd_813 wd_812 (st0 := []) rfl rfl (by decide) (Nat.le_of_ble_eq_true rfl) dL_law_816 (fun _ _ _ _ => VX_none) fun t255 u256 => ?_
    refine V_istore (κ := KL_law) (pc := 819) (lv' := [(6, (0, t255)), (0, (5, 26)), (1, (2, x1)), (2, (2, x2)), (3, (2, x3)), (4, (2, x4)), (5, (0, x5))]) dL_law_819 (by decide) rfl ?_
    refine V_aload_n (κ := KL_law) (pc := 821) dL_law_821 3 rfl rfl ?_
    refine V_aload_n (κ := KL_law) (pc := 822) dL_law_822 1 rfl rfl ?_
    refine V_iload (κ := KL_law) (pc := 823) dL_law_823 6 rfl ?_
    refine V_iconst (κ := KL_law) (pc := 825) dL_law_825 ⟨by decide, by decide⟩ ?_
    refine V_iadd (κ := KL_law) (pc := 826) dL_law_826 ?_
    refine V_scr (κ := KL_law) hS (pc := 827) dL_law_827 fun t258 => ?_
    refine V_aload_n (κ := KL_law) (pc := 828) dL_law_828 1 rfl rfl ?_
    refine V_iload (κ := KL_law) (pc := 829) dL_law_829 6 rfl ?_
    refine V_iconst (κ := KL_law) (pc := 831) dL_law_831 ⟨by decide, by decide⟩ ?_
    refine V_iadd (κ := KL_law) (pc := 832) dL_law_832 ?_
    refine V_scr (κ := KL_law) hS (pc := 833) dL_law_833 fun t260 => ?_
    refine V_callV (ci := 7) (T := TX7) (N := 24) rfl (by decide) (κ := KL_law) (pc := 834) (con_X7_off _ _ _ _) mth_X7_off rfl ⟨wd_1330, wd_1331⟩ wd_1329 (st0 := []) rfl rfl (by decide) (Nat.le_of_ble_eq_true rfl) dL_law_834 (fun _ _ _ _ => VX_none) fun t261 u262 => ?_
    refine V_istore (κ := KL_law) (pc := 837) (lv' := [(7, (0, t261)), (6, (0, t255)), (0, (5, 26)), (1, (2, x1)), (2, (2, x2)), (3, (2, x3)), (4, (2, x4)), (5, (0, x5))]) dL_law_837 (by decide) rfl ?_
    refine V_aload_n (κ := KL_law) (pc := 839) dL_law_839 4 rfl rfl ?_
    refine V_callV (ci := 7) (T := TX7) (N := 24) rfl (by decide) (κ := KL_law) (pc := 840) (con_X7_thrown _ _) mth_X7_thrown rfl ⟨wd_1062, wd_1063⟩ wd_1061 (st0 := []) rfl rfl (by decide) (Nat.le_of_ble_eq_true rfl) dL_law_840 (fun _ _ _ _ => VX_none) fun t263 u264 => ?_
    refine V_iload (κ := KL_law) (pc := 843) dL_law_843 1 rfl ?_
    refine V_icmp_eq (κ := KL_law) (pc := 845) (tgt := 850) dL_law_845 rfl ?_ ?_
    · refine V_iload (κ := KL_law) (pc := 850) dL_law_850 1 rfl ?_
      refine V_if_ne (κ := KL_law) (pc := 852) (tgt := 867) dL_law_852 rfl ?_ ?_
      · refine V_sub (lv' := [(0, (5, 26)), (1, (2, x1)), (2, (2, x2)), (3, (2, x3)), (4, (2, x4)), (5, (0, x5))]) [2, 3, 4, 5, 6, 7] rfl ?_
        exact VBL_law_867 hS hk28 _ _ _ _ _ _
      refine V_aload_n (κ := KL_law) (pc := 855) dL_law_855 5 rfl rfl ?_
      refine V_iconst (κ := KL_law) (pc := 856) dL_law_856 ⟨by decide, by decide⟩ ?_
      refine V_laload (κ := KL_law) (pc := 857) dL_law_857 fun t265 => ?_
      refine V_iload (κ := KL_law) (pc := 858) dL_law_858 0 rfl ?_
      refine V_i2l (κ := KL_law) (pc := 860) dL_law_860 ?_
      refine V_lcmp (κ := KL_law) (pc := 861) dL_law_861 ?_
      refine V_if_eq (κ := KL_law) (pc := 862) (tgt := 867) dL_law_862 rfl ?_ ?_
      · refine V_sub (lv' := [(0, (5, 26)), (1, (2, x1)), (2, (2, x2)), (3, (2, x3)), (4, (2, x4)), (5, (0, x5))]) [2, 3, 4, 5, 6, 7] rfl ?_
        exact VBL_law_867 hS hk28 _ _ _ _ _ _
      refine V_iconst (κ := KL_law) (pc := 865) dL_law_865 ⟨by decide, by decide⟩ ?_
      exact V_lawret hS rfl (κ := KL_law) (pc := 866) dL_law_866
    refine V_iconst (κ := KL_law) (pc := 848) dL_law_848 ⟨by decide, by decide⟩ ?_
    exact V_lawret hS rfl (κ := KL_law) (pc := 849) dL_law_849
  · refine V_aload_n (κ := KL_law) (pc := 870) dL_law_870 1 rfl rfl ?_
    refine V_aload_n (κ := KL_law) (pc := 871) dL_law_871 0 rfl rfl ?_
    refine V_iload (κ := KL_law) (pc := 872) dL_law_872 5 rfl ?_
    refine V_iconst (κ := KL_law) (pc := 874) dL_law_874 ⟨by decide, by decide⟩ ?_
    refine V_iadd (κ := KL_law) (pc := 875) dL_law_875 ?_
    refine V_scr (κ := KL_law) hS (pc := 876) dL_law_876 fun t267 => ?_
    refine V_aload (κ := KL_law) (pc := 877) dL_law_877 4 rfl rfl ?_
    refine V_callSX (κ := KL_law) (pc := 879) (con_L_covered _ _ _ _) mth_L_covered wd_841 wd_840 (st0 := []) rfl rfl (by decide) (Nat.le_of_ble_eq_true rfl) dL_law_879 (fun _ _ _ _ => VX_none) fun t268 u269 => ?_
    refine V_istore (κ := KL_law) (pc := 882) (lv' := [(6, (0, t268)), (0, (5, 26)), (1, (2, x1)), (2, (2, x2)), (3, (2, x3)), (4, (2, x4)), (5, (0, x5))]) dL_law_882 (by decide) rfl ?_
    refine V_aload_n (κ := KL_law) (pc := 884) dL_law_884 3 rfl rfl ?_
    refine V_aload_n (κ := KL_law) (pc := 885) dL_law_885 1 rfl rfl ?_
    refine V_iload (κ := KL_law) (pc := 886) dL_law_886 6 rfl ?_
    refine V_iconst (κ := KL_law) (pc := 888) dL_law_888 ⟨by decide, by decide⟩ ?_
    refine V_iadd (κ := KL_law) (pc := 889) dL_law_889 ?_
    refine V_scr (κ := KL_law) hS (pc := 890) dL_law_890 fun t271 => ?_
    refine V_callV (ci := 7) (T := TX7) (N := 24) rfl (by decide) (κ := KL_law) (pc := 891) (con_X7_covered _ _ _) mth_X7_covered rfl ⟨wd_1334, wd_1335⟩ wd_1333 (st0 := []) rfl rfl (by decide) (Nat.le_of_ble_eq_true rfl) dL_law_891 (fun _ _ _ _ => VX_none) fun t272 u273 => ?_
    refine V_fstore (κ := KL_law) (pc := 894) (lv' := [(7, (3, t272)), (6, (0, t268)), (0, (5, 26)), (1, (2, x1)), (2, (2, x2)), (3, (2, x3)), (4, (2, x4)), (5, (0, x5))]) dL_law_894 (by decide) rfl ?_
    refine V_aload_n (κ := KL_law) (pc := 896) dL_law_896 4 rfl rfl ?_
    refine V_callV (ci := 7) (T := TX7) (N := 24) rfl (by decide) (κ := KL_law) (pc := 897) (con_X7_thrown _ _) mth_X7_thrown rfl ⟨wd_1062, wd_1063⟩ wd_1061 (st0 := []) rfl rfl (by decide) (Nat.le_of_ble_eq_true rfl) dL_law_897 (fun _ _ _ _ => VX_none) fun t274 u275 => ?_
    refine V_iload (κ := KL_law) (pc := 900) dL_law_900 1 rfl ?_
    refine V_icmp_eq (κ := KL_law) (pc := 902) (tgt := 907) dL_law_902 rfl ?_ ?_
    · refine V_iload (κ := KL_law) (pc := 907) dL_law_907 1 rfl ?_
      refine V_if_ne (κ := KL_law) (pc := 909) (tgt := 945) dL_law_909 rfl ?_ ?_
      · refine V_sub (lv' := [(0, (5, 26)), (1, (2, x1)), (2, (2, x2)), (3, (2, x3)), (4, (2, x4)), (5, (0, x5))]) [2, 3, 4, 5, 6, 7] rfl ?_
        exact VBL_law_945 hS hk28 _ _ _ _ _ _
      refine V_aload (κ := KL_law) (pc := 912) dL_law_912 6 rfl rfl ?_
      refine V_iconst (κ := KL_law) (pc := 914) dL_law_914 ⟨by decide, by decide⟩ ?_
      refine V_daload (κ := KL_law) (pc := 915) dL_law_915 fun t276 => ?_
      refine V_fload (κ := KL_law) (pc := 916) dL_law_916 0 rfl ?_
      refine V_f2d (κ := KL_law) (pc := 918) dL_law_918 fun t277 => ?_
      refine V_dcmp (κ := KL_law) (pc := 919) dL_law_919 ?_
      refine V_if_eq (κ := KL_law) (pc := 920) (tgt := 945) dL_law_920 rfl ?_ ?_
      · refine V_sub (lv' := [(0, (5, 26)), (1, (2, x1)), (2, (2, x2)), (3, (2, x3)), (4, (2, x4)), (5, (0, x5))]) [2, 3, 4, 5, 6, 7] rfl ?_
        exact VBL_law_945 hS hk28 _ _ _ _ _ _
      refine V_aload (κ := KL_law) (pc := 923) dL_law_923 6 rfl rfl ?_
      refine V_iconst (κ := KL_law) (pc := 925) dL_law_925 ⟨by decide, by decide⟩ ?_
      refine V_daload (κ := KL_law) (pc := 926) dL_law_926 fun t278 => ?_
      refine V_aload (κ := KL_law) (pc := 927) dL_law_927 6 rfl rfl ?_
      refine V_iconst (κ := KL_law) (pc := 929) dL_law_929 ⟨by decide, by decide⟩ ?_
      refine V_daload (κ := KL_law) (pc := 930) dL_law_930 fun t279 => ?_
      refine V_dcmp (κ := KL_law) (pc := 931) dL_law_931 ?_
      refine V_if_eq (κ := KL_law) (pc := 932) (tgt := 943) dL_law_932 rfl ?_ ?_
      · refine V_sub (lv' := []) [] rfl ?_
        exact VBL_law_943 hS _
      refine V_fload (κ := KL_law) (pc := 935) dL_law_935 0 rfl ?_
      refine V_fload (κ := KL_law) (pc := 937) dL_law_937 0 rfl ?_
      refine V_fcmp (κ := KL_law) (pc := 939) dL_law_939 ?_
      refine V_if_ne (κ := KL_law) (pc := 940) (tgt := 945) dL_law_940 rfl ?_ ?_
      · refine V_sub (lv' := [(0, (5, 26)), (1, (2, x1)), (2, (2, x2)), (3, (2, x3)), (4, (2, x4)), (5, (0, x5))]) [2, 3, 4, 5, 6, 7] rfl ?_
        exact VBL_law_945 hS hk28 _ _ _ _ _ _
      refine V_sub (lv' := []) [] rfl ?_
      exact VBL_law_943 hS _
    refine V_iconst (κ := KL_law) (pc := 905) dL_law_905 ⟨by decide, by decide⟩ ?_
    exact V_lawret hS rfl (κ := KL_law) (pc := 906) dL_law_906
  · refine V_aload_n (κ := KL_law) (pc := 948) dL_law_948 1 rfl rfl ?_
    refine V_aload_n (κ := KL_law) (pc := 949) dL_law_949 0 rfl rfl ?_
    refine V_iload (κ := KL_law) (pc := 950) dL_law_950 5 rfl ?_
    refine V_iconst (κ := KL_law) (pc := 952) dL_law_952 ⟨by decide, by decide⟩ ?_
    refine V_iadd (κ := KL_law) (pc := 953) dL_law_953 ?_
    refine V_scr (κ := KL_law) hS (pc := 954) dL_law_954 fun t281 => ?_
    refine V_aload_n (κ := KL_law) (pc := 955) dL_law_955 0 rfl rfl ?_
    refine V_iload (κ := KL_law) (pc := 956) dL_law_956 5 rfl ?_
    refine V_iconst (κ := KL_law) (pc := 958) dL_law_958 ⟨by decide, by decide⟩ ?_
    refine V_iadd (κ := KL_law) (pc := 959) dL_law_959 ?_
    refine V_scr (κ := KL_law) hS (pc := 960) dL_law_960 fun t283 => ?_
    refine V_aload (κ := KL_law) (pc := 961) dL_law_961 4 rfl rfl ?_
    refine V_callSX (κ := KL_law) (pc := 963) (con_L_moire _ _ _ _ _) mth_L_moire wd_848 wd_847 (st0 := []) rfl rfl (by decide) (Nat.le_of_ble_eq_true rfl) dL_law_963 (fun _ _ _ _ => VX_none) fun t284 u285 => ?_
    refine V_istore (κ := KL_law) (pc := 966) (lv' := [(6, (0, t284)), (0, (5, 26)), (1, (2, x1)), (2, (2, x2)), (3, (2, x3)), (4, (2, x4)), (5, (0, x5))]) dL_law_966 (by decide) rfl ?_
    refine V_aload_n (κ := KL_law) (pc := 968) dL_law_968 3 rfl rfl ?_
    refine V_aload_n (κ := KL_law) (pc := 969) dL_law_969 1 rfl rfl ?_
    refine V_iload (κ := KL_law) (pc := 970) dL_law_970 6 rfl ?_
    refine V_iconst (κ := KL_law) (pc := 972) dL_law_972 ⟨by decide, by decide⟩ ?_
    refine V_iadd (κ := KL_law) (pc := 973) dL_law_973 ?_
    refine V_scr (κ := KL_law) hS (pc := 974) dL_law_974 fun t287 => ?_
    refine V_aload_n (κ := KL_law) (pc := 975) dL_law_975 1 rfl rfl ?_
    refine V_iload (κ := KL_law) (pc := 976) dL_law_976 6 rfl ?_
    refine V_iconst (κ := KL_law) (pc := 978) dL_law_978 ⟨by decide, by decide⟩ ?_
    refine V_iadd (κ := KL_law) (pc := 979) dL_law_979 ?_
    refine V_scr (κ := KL_law) hS (pc := 980) dL_law_980 fun t289 => ?_
    refine V_callV (ci := 7) (T := TX7) (N := 24) rfl (by decide) (κ := KL_law) (pc := 981) (con_X7_moire _ _ _ _) mth_X7_moire rfl ⟨wd_1338, wd_1339⟩ wd_1337 (st0 := []) rfl rfl (by decide) (Nat.le_of_ble_eq_true rfl) dL_law_981 (fun _ _ _ _ => VX_none) fun t290 u291 => ?_
    refine V_dstore (κ := KL_law) (pc := 984) (lv' := [(7, (4, t290)), (6, (0, t284)), (0, (5, 26)), (1, (2, x1)), (2, (2, x2)), (3, (2, x3)), (4, (2, x4)), (5, (0, x5))]) dL_law_984 (by decide) rfl ?_
    refine V_aload_n (κ := KL_law) (pc := 986) dL_law_986 4 rfl rfl ?_
    refine V_callV (ci := 7) (T := TX7) (N := 24) rfl (by decide) (κ := KL_law) (pc := 987) (con_X7_thrown _ _) mth_X7_thrown rfl ⟨wd_1062, wd_1063⟩ wd_1061 (st0 := []) rfl rfl (by decide) (Nat.le_of_ble_eq_true rfl) dL_law_987 (fun _ _ _ _ => VX_none) fun t292 u293 => ?_
    refine V_iload (κ := KL_law) (pc := 990) dL_law_990 1 rfl ?_
    refine V_icmp_eq (κ := KL_law) (pc := 992) (tgt := 997) dL_law_992 rfl ?_ ?_
    · refine V_iload (κ := KL_law) (pc := 997) dL_law_997 1 rfl ?_
      refine V_if_ne (κ := KL_law) (pc := 999) (tgt := 1034) dL_law_999 rfl ?_ ?_
      · refine V_sub (lv' := [(0, (5, 26)), (1, (2, x1)), (2, (2, x2)), (3, (2, x3)), (4, (2, x4)), (5, (0, x5))]) [2, 3, 4, 5, 6, 7] rfl ?_
        exact VBL_law_1034 hS hk28 _ _ _ _ _ _
      refine V_aload (κ := KL_law) (pc := 1002) dL_law_1002 6 rfl rfl ?_
      refine V_iconst (κ := KL_law) (pc := 1004) dL_law_1004 ⟨by decide, by decide⟩ ?_
      refine V_daload (κ := KL_law) (pc := 1005) dL_law_1005 fun t294 => ?_
      refine V_dload (κ := KL_law) (pc := 1006) dL_law_1006 0 rfl ?_
      refine V_dcmp (κ := KL_law) (pc := 1008) dL_law_1008 ?_
      refine V_if_eq (κ := KL_law) (pc := 1009) (tgt := 1034) dL_law_1009 rfl ?_ ?_
      · refine V_sub (lv' := [(0, (5, 26)), (1, (2, x1)), (2, (2, x2)), (3, (2, x3)), (4, (2, x4)), (5, (0, x5))]) [2, 3, 4, 5, 6, 7] rfl ?_
        exact VBL_law_1034 hS hk28 _ _ _ _ _ _
      refine V_aload (κ := KL_law) (pc := 1012) dL_law_1012 6 rfl rfl ?_
      refine V_iconst (κ := KL_law) (pc := 1014) dL_law_1014 ⟨by decide, by decide⟩ ?_
      refine V_daload (κ := KL_law) (pc := 1015) dL_law_1015 fun t295 => ?_
      refine V_aload (κ := KL_law) (pc := 1016) dL_law_1016 6 rfl rfl ?_
      refine V_iconst (κ := KL_law) (pc := 1018) dL_law_1018 ⟨by decide, by decide⟩ ?_
      refine V_daload (κ := KL_law) (pc := 1019) dL_law_1019 fun t296 => ?_
      refine V_dcmp (κ := KL_law) (pc := 1020) dL_law_1020 ?_
      refine V_if_eq (κ := KL_law) (pc := 1021) (tgt := 1032) dL_law_1021 rfl ?_ ?_
      · refine V_sub (lv' := []) [] rfl ?_
        exact VBL_law_1032 hS _
      refine V_dload (κ := KL_law) (pc := 1024) dL_law_1024 0 rfl ?_
      refine V_dload (κ := KL_law) (pc := 1026) dL_law_1026 0 rfl ?_
      refine V_dcmp (κ := KL_law) (pc := 1028) dL_law_1028 ?_
      refine V_if_ne (κ := KL_law) (pc := 1029) (tgt := 1034) dL_law_1029 rfl ?_ ?_
      · refine V_sub (lv' := [(0, (5, 26)), (1, (2, x1)), (2, (2, x2)), (3, (2, x3)), (4, (2, x4)), (5, (0, x5))]) [2, 3, 4, 5, 6, 7] rfl ?_
        exact VBL_law_1034 hS hk28 _ _ _ _ _ _
      refine V_sub (lv' := []) [] rfl ?_
      exact VBL_law_1032 hS _
    refine V_iconst (κ := KL_law) (pc := 995) dL_law_995 ⟨by decide, by decide⟩ ?_
    exact V_lawret hS rfl (κ := KL_law) (pc := 996) dL_law_996
  · refine V_aload_n (κ := KL_law) (pc := 1037) dL_law_1037 1 rfl rfl ?_
    refine V_aload_n (κ := KL_law) (pc := 1038) dL_law_1038 0 rfl rfl ?_
    refine V_iload (κ := KL_law) (pc := 1039) dL_law_1039 5 rfl ?_
    refine V_iconst (κ := KL_law) (pc := 1041) dL_law_1041 ⟨by decide, by decide⟩ ?_
    refine V_iadd (κ := KL_law) (pc := 1042) dL_law_1042 ?_
    refine V_scr (κ := KL_law) hS (pc := 1043) dL_law_1043 fun t298 => ?_
    refine V_if_eq (κ := KL_law) (pc := 1044) (tgt := 1051) dL_law_1044 rfl ?_ ?_
    · refine V_iconst (κ := KL_law) (pc := 1051) dL_law_1051 ⟨by decide, by decide⟩ ?_
      exact VBL_law_1052 hS hk28 _ _ _ _ _ _ _ _
    refine V_iconst (κ := KL_law) (pc := 1047) dL_law_1047 ⟨by decide, by decide⟩ ?_
    refine V_goto (κ := KL_law) (pc := 1048) (tgt := 1052) dL_law_1048 rfl ?_
    exact VBL_law_1052 hS hk28 _ _ _ _ _ _ _ _
  · refine V_aload_n (κ := KL_law) (pc := 1078) dL_law_1078 1 rfl rfl ?_
    refine V_aload_n (κ := KL_law) (pc := 1079) dL_law_1079 0 rfl rfl ?_
    refine V_iload (κ := KL_law) (pc := 1080) dL_law_1080 5 rfl ?_
    refine V_iconst (κ := KL_law) (pc := 1082) dL_law_1082 ⟨by decide, by decide⟩ ?_
    refine V_iadd (κ := KL_law) (pc := 1083) dL_law_1083 ?_
    refine V_scr (κ := KL_law) hS (pc := 1084) dL_law_1084 fun t300 => ?_
    refine V_aload_n (κ := KL_law) (pc := 1085) dL_law_1085 3 rfl rfl ?_
    refine V_callSX (κ := KL_law) (pc := 1086) (con_L_bestTurn _ _ _ _) mth_L_bestTurn wd_855 wd_854 (st0 := []) rfl rfl (by decide) (Nat.le_of_ble_eq_true rfl) dL_law_1086 (fun _ _ _ _ => VX_none) fun t301 u302 => ?_
    refine V_istore (κ := KL_law) (pc := 1089) (lv' := [(6, (0, t301)), (0, (5, 26)), (1, (2, x1)), (2, (2, x2)), (3, (2, x3)), (4, (2, x4)), (5, (0, x5))]) dL_law_1089 (by decide) rfl ?_
    refine V_aload_n (κ := KL_law) (pc := 1091) dL_law_1091 3 rfl rfl ?_
    refine V_aload_n (κ := KL_law) (pc := 1092) dL_law_1092 1 rfl rfl ?_
    refine V_iload (κ := KL_law) (pc := 1093) dL_law_1093 6 rfl ?_
    refine V_iconst (κ := KL_law) (pc := 1095) dL_law_1095 ⟨by decide, by decide⟩ ?_
    refine V_iadd (κ := KL_law) (pc := 1096) dL_law_1096 ?_
    refine V_scr (κ := KL_law) hS (pc := 1097) dL_law_1097 fun t304 => ?_
    refine V_callV (ci := 7) (T := TX7) (N := 24) rfl (by decide) (κ := KL_law) (pc := 1098) (con_X7_bestTurn _ _ _) mth_X7_bestTurn rfl ⟨wd_1353, wd_1354⟩ wd_1352 (st0 := []) rfl rfl (by decide) (Nat.le_of_ble_eq_true rfl) dL_law_1098 (fun _ _ _ _ => VX_none) fun t305 u306 => ?_
    refine V_istore (κ := KL_law) (pc := 1101) (lv' := [(7, (0, t305)), (6, (0, t301)), (0, (5, 26)), (1, (2, x1)), (2, (2, x2)), (3, (2, x3)), (4, (2, x4)), (5, (0, x5))]) dL_law_1101 (by decide) rfl ?_
    refine V_aload_n (κ := KL_law) (pc := 1103) dL_law_1103 4 rfl rfl ?_
    refine V_callV (ci := 7) (T := TX7) (N := 24) rfl (by decide) (κ := KL_law) (pc := 1104) (con_X7_thrown _ _) mth_X7_thrown rfl ⟨wd_1062, wd_1063⟩ wd_1061 (st0 := []) rfl rfl (by decide) (Nat.le_of_ble_eq_true rfl) dL_law_1104 (fun _ _ _ _ => VX_none) fun t307 u308 => ?_
    refine V_iload (κ := KL_law) (pc := 1107) dL_law_1107 1 rfl ?_
    refine V_icmp_eq (κ := KL_law) (pc := 1109) (tgt := 1114) dL_law_1109 rfl ?_ ?_
    · refine V_iload (κ := KL_law) (pc := 1114) dL_law_1114 1 rfl ?_
      refine V_if_ne (κ := KL_law) (pc := 1116) (tgt := 1131) dL_law_1116 rfl ?_ ?_
      · refine V_sub (lv' := [(0, (5, 26)), (1, (2, x1)), (2, (2, x2)), (3, (2, x3)), (4, (2, x4)), (5, (0, x5))]) [2, 3, 4, 5, 6, 7] rfl ?_
        exact VBL_law_1131 hS hk28 _ _ _ _ _ _
      refine V_aload_n (κ := KL_law) (pc := 1119) dL_law_1119 5 rfl rfl ?_
      refine V_iconst (κ := KL_law) (pc := 1120) dL_law_1120 ⟨by decide, by decide⟩ ?_
      refine V_laload (κ := KL_law) (pc := 1121) dL_law_1121 fun t309 => ?_
      refine V_iload (κ := KL_law) (pc := 1122) dL_law_1122 0 rfl ?_
      refine V_i2l (κ := KL_law) (pc := 1124) dL_law_1124 ?_
      refine V_lcmp (κ := KL_law) (pc := 1125) dL_law_1125 ?_
      refine V_if_eq (κ := KL_law) (pc := 1126) (tgt := 1131) dL_law_1126 rfl ?_ ?_
      · refine V_sub (lv' := [(0, (5, 26)), (1, (2, x1)), (2, (2, x2)), (3, (2, x3)), (4, (2, x4)), (5, (0, x5))]) [2, 3, 4, 5, 6, 7] rfl ?_
        exact VBL_law_1131 hS hk28 _ _ _ _ _ _
      refine V_iconst (κ := KL_law) (pc := 1129) dL_law_1129 ⟨by decide, by decide⟩ ?_
      exact V_lawret hS rfl (κ := KL_law) (pc := 1130) dL_law_1130
    refine V_iconst (κ := KL_law) (pc := 1112) dL_law_1112 ⟨by decide, by decide⟩ ?_
    exact V_lawret hS rfl (κ := KL_law) (pc := 1113) dL_law_1113
  · refine V_aload_n (κ := KL_law) (pc := 1134) dL_law_1134 1 rfl rfl ?_
    refine V_callV (ci := 6) (T := TX6) (N := 9) rfl (by decide) (κ := KL_law) (pc := 1135) (con_X6_copies _ _) mth_X6_copies rfl ⟨wd_297, wd_298⟩ wd_296 (st0 := []) rfl rfl (by decide) (Nat.le_of_ble_eq_true rfl) dL_law_1135 (fun _ _ _ _ => VX_none) fun t310 u311 => ?_
    refine V_aload_n (κ := KL_law) (pc := 1138) dL_law_1138 2 rfl rfl ?_
    refine V_callV (ci := 7) (T := TX7) (N := 24) rfl (by decide) (κ := KL_law) (pc := 1139) (con_X7_copies _ _) mth_X7_copies rfl ⟨wd_1369, wd_1370⟩ wd_1368 (st0 := [(0, t310)]) rfl rfl (by decide) (Nat.le_of_ble_eq_true rfl) dL_law_1139 (fun _ _ _ _ => VX_none) fun t312 u313 => ?_
    refine V_icmp_eq (κ := KL_law) (pc := 1142) (tgt := 1854) dL_law_1142 rfl ?_ ?_
    · exact VBL_law_1854 hS hk28 _ _ _ _ _ _
    refine V_iconst (κ := KL_law) (pc := 1145) dL_law_1145 ⟨by decide, by decide⟩ ?_
    exact V_lawret hS rfl (κ := KL_law) (pc := 1146) dL_law_1146
  · refine V_aload_n (κ := KL_law) (pc := 1147) dL_law_1147 1 rfl rfl ?_
    refine V_aload_n (κ := KL_law) (pc := 1148) dL_law_1148 0 rfl rfl ?_
    refine V_iload (κ := KL_law) (pc := 1149) dL_law_1149 5 rfl ?_
    refine V_iconst (κ := KL_law) (pc := 1151) dL_law_1151 ⟨by decide, by decide⟩ ?_
    refine V_iadd (κ := KL_law) (pc := 1152) dL_law_1152 ?_
    refine V_scr (κ := KL_law) hS (pc := 1153) dL_law_1153 fun t315 => ?_
    refine V_aload_n (κ := KL_law) (pc := 1154) dL_law_1154 3 rfl rfl ?_
    refine V_callSX (κ := KL_law) (pc := 1155) (con_L_cellsWith _ _ _ _) mth_L_cellsWith wd_866 wd_865 (st0 := []) rfl rfl (by decide) (Nat.le_of_ble_eq_true rfl) dL_law_1155 (fun _ _ _ _ => VX_none) fun t316 u317 => ?_
    refine V_istore (κ := KL_law) (pc := 1158) (lv' := [(6, (0, t316)), (0, (5, 26)), (1, (2, x1)), (2, (2, x2)), (3, (2, x3)), (4, (2, x4)), (5, (0, x5))]) dL_law_1158 (by decide) rfl ?_
    refine V_aload_n (κ := KL_law) (pc := 1160) dL_law_1160 3 rfl rfl ?_
    refine V_aload_n (κ := KL_law) (pc := 1161) dL_law_1161 1 rfl rfl ?_
    refine V_iload (κ := KL_law) (pc := 1162) dL_law_1162 6 rfl ?_
    refine V_iconst (κ := KL_law) (pc := 1164) dL_law_1164 ⟨by decide, by decide⟩ ?_
    refine V_iadd (κ := KL_law) (pc := 1165) dL_law_1165 ?_
    refine V_scr (κ := KL_law) hS (pc := 1166) dL_law_1166 fun t319 => ?_
    refine V_callV (ci := 7) (T := TX7) (N := 24) rfl (by decide) (κ := KL_law) (pc := 1167) (con_X7_cellsWith _ _ _) mth_X7_cellsWith rfl ⟨wd_1377, wd_1378⟩ wd_1376 (st0 := []) rfl rfl (by decide) (Nat.le_of_ble_eq_true rfl) dL_law_1167 (fun _ _ _ _ => VX_none) fun t320 u321 => ?_
    refine V_istore (κ := KL_law) (pc := 1170) (lv' := [(7, (0, t320)), (6, (0, t316)), (0, (5, 26)), (1, (2, x1)), (2, (2, x2)), (3, (2, x3)), (4, (2, x4)), (5, (0, x5))]) dL_law_1170 (by decide) rfl ?_
    refine V_aload_n (κ := KL_law) (pc := 1172) dL_law_1172 4 rfl rfl ?_
    refine V_callV (ci := 7) (T := TX7) (N := 24) rfl (by decide) (κ := KL_law) (pc := 1173) (con_X7_thrown _ _) mth_X7_thrown rfl ⟨wd_1062, wd_1063⟩ wd_1061 (st0 := []) rfl rfl (by decide) (Nat.le_of_ble_eq_true rfl) dL_law_1173 (fun _ _ _ _ => VX_none) fun t322 u323 => ?_
    refine V_iload (κ := KL_law) (pc := 1176) dL_law_1176 1 rfl ?_
    refine V_icmp_eq (κ := KL_law) (pc := 1178) (tgt := 1183) dL_law_1178 rfl ?_ ?_
    · refine V_iload (κ := KL_law) (pc := 1183) dL_law_1183 1 rfl ?_
      refine V_if_ne (κ := KL_law) (pc := 1185) (tgt := 1200) dL_law_1185 rfl ?_ ?_
      · refine V_sub (lv' := [(0, (5, 26)), (1, (2, x1)), (2, (2, x2)), (3, (2, x3)), (4, (2, x4)), (5, (0, x5))]) [2, 3, 4, 5, 6, 7] rfl ?_
        exact VBL_law_1200 hS hk28 _ _ _ _ _ _
      refine V_aload_n (κ := KL_law) (pc := 1188) dL_law_1188 5 rfl rfl ?_
      refine V_iconst (κ := KL_law) (pc := 1189) dL_law_1189 ⟨by decide, by decide⟩ ?_
      refine V_laload (κ := KL_law) (pc := 1190) dL_law_1190 fun t324 => ?_
      refine V_iload (κ := KL_law) (pc := 1191) dL_law_1191 0 rfl ?_
      refine V_i2l (κ := KL_law) (pc := 1193) dL_law_1193 ?_
      refine V_lcmp (κ := KL_law) (pc := 1194) dL_law_1194 ?_
      refine V_if_eq (κ := KL_law) (pc := 1195) (tgt := 1200) dL_law_1195 rfl ?_ ?_
      · refine V_sub (lv' := [(0, (5, 26)), (1, (2, x1)), (2, (2, x2)), (3, (2, x3)), (4, (2, x4)), (5, (0, x5))]) [2, 3, 4, 5, 6, 7] rfl ?_
        exact VBL_law_1200 hS hk28 _ _ _ _ _ _
      refine V_iconst (κ := KL_law) (pc := 1198) dL_law_1198 ⟨by decide, by decide⟩ ?_
      exact V_lawret hS rfl (κ := KL_law) (pc := 1199) dL_law_1199
    refine V_iconst (κ := KL_law) (pc := 1181) dL_law_1181 ⟨by decide, by decide⟩ ?_
    exact V_lawret hS rfl (κ := KL_law) (pc := 1182) dL_law_1182
  · refine V_aload_n (κ := KL_law) (pc := 1203) dL_law_1203 1 rfl rfl ?_
    refine V_aload_n (κ := KL_law) (pc := 1204) dL_law_1204 0 rfl rfl ?_
    refine V_iload (κ := KL_law) (pc := 1205) dL_law_1205 5 rfl ?_
    refine V_iconst (κ := KL_law) (pc := 1207) dL_law_1207 ⟨by decide, by decide⟩ ?_
    refine V_iadd (κ := KL_law) (pc := 1208) dL_law_1208 ?_
    refine V_scr (κ := KL_law) hS (pc := 1209) dL_law_1209 fun t326 => ?_
    refine V_aload_n (κ := KL_law) (pc := 1210) dL_law_1210 0 rfl rfl ?_
    refine V_iload (κ := KL_law) (pc := 1211) dL_law_1211 5 rfl ?_
    refine V_iconst (κ := KL_law) (pc := 1213) dL_law_1213 ⟨by decide, by decide⟩ ?_
    refine V_iadd (κ := KL_law) (pc := 1214) dL_law_1214 ?_
    refine V_scr (κ := KL_law) hS (pc := 1215) dL_law_1215 fun t328 => ?_
    refine V_aload_n (κ := KL_law) (pc := 1216) dL_law_1216 0 rfl rfl ?_
    refine V_iload (κ := KL_law) (pc := 1217) dL_law_1217 5 rfl ?_
    refine V_iconst (κ := KL_law) (pc := 1219) dL_law_1219 ⟨by decide, by decide⟩ ?_
    refine V_iadd (κ := KL_law) (pc := 1220) dL_law_1220 ?_
    refine V_scr (κ := KL_law) hS (pc := 1221) dL_law_1221 fun t330 => ?_
    refine V_aload_n (κ := KL_law) (pc := 1222) dL_law_1222 0 rfl rfl ?_
    refine V_iload (κ := KL_law) (pc := 1223) dL_law_1223 5 rfl ?_
    refine V_iconst (κ := KL_law) (pc := 1225) dL_law_1225 ⟨by decide, by decide⟩ ?_
    refine V_iadd (κ := KL_law) (pc := 1226) dL_law_1226 ?_
    refine V_scr (κ := KL_law) hS (pc := 1227) dL_law_1227 fun t332 => ?_
    refine V_aload_n (κ := KL_law) (pc := 1228) dL_law_1228 0 rfl rfl ?_
    refine V_iload (κ := KL_law) (pc := 1229) dL_law_1229 5 rfl ?_
    refine V_iconst (κ := KL_law) (pc := 1231) dL_law_1231 ⟨by decide, by decide⟩ ?_
    refine V_iadd (κ := KL_law) (pc := 1232) dL_law_1232 ?_
    refine V_scr (κ := KL_law) hS (pc := 1233) dL_law_1233 fun t334 => ?_
    refine V_aload_n (κ := KL_law) (pc := 1234) dL_law_1234 3 rfl rfl ?_
    refine V_callSX (κ := KL_law) (pc := 1235) (con_L_paint _ _ _ _ _ _ _ _) mth_L_paint wd_874 wd_873 (st0 := []) rfl rfl (by decide) (Nat.le_of_ble_eq_true rfl) dL_law_1235 (fun _ _ _ _ => VX_none) fun t335 u336 => ?_
    refine V_istore (κ := KL_law) (pc := 1238) (lv' := [(6, (0, t335)), (0, (5, 26)), (1, (2, x1)), (2, (2, x2)), (3, (2, x3)), (4, (2, x4)), (5, (0, x5))]) dL_law_1238 (by decide) rfl ?_
    refine V_aload_n (κ := KL_law) (pc := 1240) dL_law_1240 3 rfl rfl ?_
    refine V_aload_n (κ := KL_law) (pc := 1241) dL_law_1241 1 rfl rfl ?_
    refine V_iload (κ := KL_law) (pc := 1242) dL_law_1242 6 rfl ?_
    refine V_iconst (κ := KL_law) (pc := 1244) dL_law_1244 ⟨by decide, by decide⟩ ?_
    refine V_iadd (κ := KL_law) (pc := 1245) dL_law_1245 ?_
    refine V_scr (κ := KL_law) hS (pc := 1246) dL_law_1246 fun t338 => ?_
    refine V_aload_n (κ := KL_law) (pc := 1247) dL_law_1247 1 rfl rfl ?_
    refine V_iload (κ := KL_law) (pc := 1248) dL_law_1248 6 rfl ?_
    refine V_iconst (κ := KL_law) (pc := 1250) dL_law_1250 ⟨by decide, by decide⟩ ?_
    refine V_iadd (κ := KL_law) (pc := 1251) dL_law_1251 ?_
    refine V_scr (κ := KL_law) hS (pc := 1252) dL_law_1252 fun t340 => ?_
    refine V_aload_n (κ := KL_law) (pc := 1253) dL_law_1253 1 rfl rfl ?_
    refine V_iload (κ := KL_law) (pc := 1254) dL_law_1254 6 rfl ?_
    refine V_iconst (κ := KL_law) (pc := 1256) dL_law_1256 ⟨by decide, by decide⟩ ?_
    refine V_iadd (κ := KL_law) (pc := 1257) dL_law_1257 ?_
    refine V_scr (κ := KL_law) hS (pc := 1258) dL_law_1258 fun t342 => ?_
    refine V_aload_n (κ := KL_law) (pc := 1259) dL_law_1259 1 rfl rfl ?_
    refine V_iload (κ := KL_law) (pc := 1260) dL_law_1260 6 rfl ?_
    refine V_iconst (κ := KL_law) (pc := 1262) dL_law_1262 ⟨by decide, by decide⟩ ?_
    refine V_iadd (κ := KL_law) (pc := 1263) dL_law_1263 ?_
    refine V_scr (κ := KL_law) hS (pc := 1264) dL_law_1264 fun t344 => ?_
    refine V_aload_n (κ := KL_law) (pc := 1265) dL_law_1265 1 rfl rfl ?_
    refine V_iload (κ := KL_law) (pc := 1266) dL_law_1266 6 rfl ?_
    refine V_iconst (κ := KL_law) (pc := 1268) dL_law_1268 ⟨by decide, by decide⟩ ?_
    refine V_iadd (κ := KL_law) (pc := 1269) dL_law_1269 ?_
    refine V_scr (κ := KL_law) hS (pc := 1270) dL_law_1270 fun t346 => ?_
    refine V_callV (ci := 7) (T := TX7) (N := 24) rfl (by decide) (κ := KL_law) (pc := 1271) (con_X7_paint _ _ _ _ _ _ _) mth_X7_paint rfl ⟨wd_1381, wd_1382⟩ wd_1380 (st0 := []) rfl rfl (by decide) (Nat.le_of_ble_eq_true rfl) dL_law_1271 (fun _ _ _ _ => VX_none) fun t347 u348 => ?_
    refine V_istore (κ := KL_law) (pc := 1274) (lv' := [(7, (0, t347)), (6, (0, t335)), (0, (5, 26)), (1, (2, x1)), (2, (2, x2)), (3, (2, x3)), (4, (2, x4)), (5, (0, x5))]) dL_law_1274 (by decide) rfl ?_
    refine V_aload_n (κ := KL_law) (pc := 1276) dL_law_1276 4 rfl rfl ?_
    refine V_callV (ci := 7) (T := TX7) (N := 24) rfl (by decide) (κ := KL_law) (pc := 1277) (con_X7_thrown _ _) mth_X7_thrown rfl ⟨wd_1062, wd_1063⟩ wd_1061 (st0 := []) rfl rfl (by decide) (Nat.le_of_ble_eq_true rfl) dL_law_1277 (fun _ _ _ _ => VX_none) fun t349 u350 => ?_
    refine V_iload (κ := KL_law) (pc := 1280) dL_law_1280 1 rfl ?_
    refine V_icmp_eq (κ := KL_law) (pc := 1282) (tgt := 1287) dL_law_1282 rfl ?_ ?_
    · refine V_iload (κ := KL_law) (pc := 1287) dL_law_1287 1 rfl ?_
      refine V_if_ne (κ := KL_law) (pc := 1289) (tgt := 1304) dL_law_1289 rfl ?_ ?_
      · refine V_sub (lv' := [(0, (5, 26)), (1, (2, x1)), (2, (2, x2)), (3, (2, x3)), (4, (2, x4)), (5, (0, x5))]) [2, 3, 4, 5, 6, 7] rfl ?_
        exact VBL_law_1304 hS hk28 _ _ _ _ _ _
      refine V_aload_n (κ := KL_law) (pc := 1292) dL_law_1292 5 rfl rfl ?_
      refine V_iconst (κ := KL_law) (pc := 1293) dL_law_1293 ⟨by decide, by decide⟩ ?_
      refine V_laload (κ := KL_law) (pc := 1294) dL_law_1294 fun t351 => ?_
      refine V_iload (κ := KL_law) (pc := 1295) dL_law_1295 0 rfl ?_
      refine V_i2l (κ := KL_law) (pc := 1297) dL_law_1297 ?_
      refine V_lcmp (κ := KL_law) (pc := 1298) dL_law_1298 ?_
      refine V_if_eq (κ := KL_law) (pc := 1299) (tgt := 1304) dL_law_1299 rfl ?_ ?_
      · refine V_sub (lv' := [(0, (5, 26)), (1, (2, x1)), (2, (2, x2)), (3, (2, x3)), (4, (2, x4)), (5, (0, x5))]) [2, 3, 4, 5, 6, 7] rfl ?_
        exact VBL_law_1304 hS hk28 _ _ _ _ _ _
      refine V_iconst (κ := KL_law) (pc := 1302) dL_law_1302 ⟨by decide, by decide⟩ ?_
      exact V_lawret hS rfl (κ := KL_law) (pc := 1303) dL_law_1303
    refine V_iconst (κ := KL_law) (pc := 1285) dL_law_1285 ⟨by decide, by decide⟩ ?_
    exact V_lawret hS rfl (κ := KL_law) (pc := 1286) dL_law_1286
  · refine V_aload_n (κ := KL_law) (pc := 1307) dL_law_1307 1 rfl rfl ?_
    refine V_aload_n (κ := KL_law) (pc := 1308) dL_law_1308 0 rfl rfl ?_
    refine V_iload (κ := KL_law) (pc := 1309) dL_law_1309 5 rfl ?_
    refine V_iconst (κ := KL_law) (pc := 1311) dL_law_1311 ⟨by decide, by decide⟩ ?_
    refine V_iadd (κ := KL_law) (pc := 1312) dL_law_1312 ?_
    refine V_scr (κ := KL_law) hS (pc := 1313) dL_law_1313 fun t353 => ?_
    refine V_aload_n (κ := KL_law) (pc := 1314) dL_law_1314 0 rfl rfl ?_
    refine V_iload (κ := KL_law) (pc := 1315) dL_law_1315 5 rfl ?_
    refine V_iconst (κ := KL_law) (pc := 1317) dL_law_1317 ⟨by decide, by decide⟩ ?_
    refine V_iadd (κ := KL_law) (pc := 1318) dL_law_1318 ?_
    refine V_scr (κ := KL_law) hS (pc := 1319) dL_law_1319 fun t355 => ?_
    refine V_aload_n (κ := KL_law) (pc := 1320) dL_law_1320 0 rfl rfl ?_
    refine V_iload (κ := KL_law) (pc := 1321) dL_law_1321 5 rfl ?_
    refine V_iconst (κ := KL_law) (pc := 1323) dL_law_1323 ⟨by decide, by decide⟩ ?_
    refine V_iadd (κ := KL_law) (pc := 1324) dL_law_1324 ?_
    refine V_scr (κ := KL_law) hS (pc := 1325) dL_law_1325 fun t357 => ?_
    refine V_aload_n (κ := KL_law) (pc := 1326) dL_law_1326 3 rfl rfl ?_
    refine V_callSX (κ := KL_law) (pc := 1327) (con_L_turn _ _ _ _ _ _) mth_L_turn wd_896 wd_895 (st0 := []) rfl rfl (by decide) (Nat.le_of_ble_eq_true rfl) dL_law_1327 (fun _ _ _ _ => VX_none) fun t358 u359 => ?_
    refine V_istore (κ := KL_law) (pc := 1330) (lv' := [(6, (0, t358)), (0, (5, 26)), (1, (2, x1)), (2, (2, x2)), (3, (2, x3)), (4, (2, x4)), (5, (0, x5))]) dL_law_1330 (by decide) rfl ?_
    refine V_aload_n (κ := KL_law) (pc := 1332) dL_law_1332 3 rfl rfl ?_
    refine V_aload_n (κ := KL_law) (pc := 1333) dL_law_1333 1 rfl rfl ?_
    refine V_iload (κ := KL_law) (pc := 1334) dL_law_1334 6 rfl ?_
    refine V_iconst (κ := KL_law) (pc := 1336) dL_law_1336 ⟨by decide, by decide⟩ ?_
    refine V_iadd (κ := KL_law) (pc := 1337) dL_law_1337 ?_
    refine V_scr (κ := KL_law) hS (pc := 1338) dL_law_1338 fun t361 => ?_
    refine V_aload_n (κ := KL_law) (pc := 1339) dL_law_1339 1 rfl rfl ?_
    refine V_iload (κ := KL_law) (pc := 1340) dL_law_1340 6 rfl ?_
    refine V_iconst (κ := KL_law) (pc := 1342) dL_law_1342 ⟨by decide, by decide⟩ ?_
    refine V_iadd (κ := KL_law) (pc := 1343) dL_law_1343 ?_
    refine V_scr (κ := KL_law) hS (pc := 1344) dL_law_1344 fun t363 => ?_
    refine V_aload_n (κ := KL_law) (pc := 1345) dL_law_1345 1 rfl rfl ?_
    refine V_iload (κ := KL_law) (pc := 1346) dL_law_1346 6 rfl ?_
    refine V_iconst (κ := KL_law) (pc := 1348) dL_law_1348 ⟨by decide, by decide⟩ ?_
    refine V_iadd (κ := KL_law) (pc := 1349) dL_law_1349 ?_
    refine V_scr (κ := KL_law) hS (pc := 1350) dL_law_1350 fun t365 => ?_
    refine V_callV (ci := 7) (T := TX7) (N := 24) rfl (by decide) (κ := KL_law) (pc := 1351) (con_X7_turn _ _ _ _ _) mth_X7_turn rfl ⟨wd_1385, wd_1386⟩ wd_1384 (st0 := []) rfl rfl (by decide) (Nat.le_of_ble_eq_true rfl) dL_law_1351 (fun _ _ _ _ => VX_none) fun t366 u367 => ?_
    refine V_istore (κ := KL_law) (pc := 1354) (lv' := [(7, (0, t366)), (6, (0, t358)), (0, (5, 26)), (1, (2, x1)), (2, (2, x2)), (3, (2, x3)), (4, (2, x4)), (5, (0, x5))]) dL_law_1354 (by decide) rfl ?_
    refine V_aload_n (κ := KL_law) (pc := 1356) dL_law_1356 4 rfl rfl ?_
    refine V_callV (ci := 7) (T := TX7) (N := 24) rfl (by decide) (κ := KL_law) (pc := 1357) (con_X7_thrown _ _) mth_X7_thrown rfl ⟨wd_1062, wd_1063⟩ wd_1061 (st0 := []) rfl rfl (by decide) (Nat.le_of_ble_eq_true rfl) dL_law_1357 (fun _ _ _ _ => VX_none) fun t368 u369 => ?_
    refine V_iload (κ := KL_law) (pc := 1360) dL_law_1360 1 rfl ?_
    refine V_icmp_eq (κ := KL_law) (pc := 1362) (tgt := 1367) dL_law_1362 rfl ?_ ?_
    · refine V_iload (κ := KL_law) (pc := 1367) dL_law_1367 1 rfl ?_
      refine V_if_ne (κ := KL_law) (pc := 1369) (tgt := 1384) dL_law_1369 rfl ?_ ?_
      · refine V_sub (lv' := [(0, (5, 26)), (1, (2, x1)), (2, (2, x2)), (3, (2, x3)), (4, (2, x4)), (5, (0, x5))]) [2, 3, 4, 5, 6, 7] rfl ?_
        exact VBL_law_1384 hS hk28 _ _ _ _ _ _
      refine V_aload_n (κ := KL_law) (pc := 1372) dL_law_1372 5 rfl rfl ?_
      refine V_iconst (κ := KL_law) (pc := 1373) dL_law_1373 ⟨by decide, by decide⟩ ?_
      refine V_laload (κ := KL_law) (pc := 1374) dL_law_1374 fun t370 => ?_
      refine V_iload (κ := KL_law) (pc := 1375) dL_law_1375 0 rfl ?_
      refine V_i2l (κ := KL_law) (pc := 1377) dL_law_1377 ?_
      refine V_lcmp (κ := KL_law) (pc := 1378) dL_law_1378 ?_
      refine V_if_eq (κ := KL_law) (pc := 1379) (tgt := 1384) dL_law_1379 rfl ?_ ?_
      · refine V_sub (lv' := [(0, (5, 26)), (1, (2, x1)), (2, (2, x2)), (3, (2, x3)), (4, (2, x4)), (5, (0, x5))]) [2, 3, 4, 5, 6, 7] rfl ?_
        exact VBL_law_1384 hS hk28 _ _ _ _ _ _
      refine V_iconst (κ := KL_law) (pc := 1382) dL_law_1382 ⟨by decide, by decide⟩ ?_
      exact V_lawret hS rfl (κ := KL_law) (pc := 1383) dL_law_1383
    refine V_iconst (κ := KL_law) (pc := 1365) dL_law_1365 ⟨by decide, by decide⟩ ?_
    exact V_lawret hS rfl (κ := KL_law) (pc := 1366) dL_law_1366
  · refine V_aload_n (κ := KL_law) (pc := 1387) dL_law_1387 1 rfl rfl ?_
    refine V_aload_n (κ := KL_law) (pc := 1388) dL_law_1388 0 rfl rfl ?_
    refine V_iload (κ := KL_law) (pc := 1389) dL_law_1389 5 rfl ?_
    refine V_iconst (κ := KL_law) (pc := 1391) dL_law_1391 ⟨by decide, by decide⟩ ?_
    refine V_iadd (κ := KL_law) (pc := 1392) dL_law_1392 ?_
    refine V_scr (κ := KL_law) hS (pc := 1393) dL_law_1393 fun t372 => ?_
    refine V_aload_n (κ := KL_law) (pc := 1394) dL_law_1394 0 rfl rfl ?_
    refine V_iload (κ := KL_law) (pc := 1395) dL_law_1395 5 rfl ?_
    refine V_iconst (κ := KL_law) (pc := 1397) dL_law_1397 ⟨by decide, by decide⟩ ?_
    refine V_iadd (κ := KL_law) (pc := 1398) dL_law_1398 ?_
    refine V_scr (κ := KL_law) hS (pc := 1399) dL_law_1399 fun t374 => ?_
    refine V_aload_n (κ := KL_law) (pc := 1400) dL_law_1400 3 rfl rfl ?_
    refine V_callSX (κ := KL_law) (pc := 1401) (con_L_shape _ _ _ _ _) mth_L_shape wd_904 wd_903 (st0 := []) rfl rfl (by decide) (Nat.le_of_ble_eq_true rfl) dL_law_1401 (fun _ _ _ _ => VX_none) fun t375 u376 => ?_
    refine V_istore (κ := KL_law) (pc := 1404) (lv' := [(6, (0, t375)), (0, (5, 26)), (1, (2, x1)), (2, (2, x2)), (3, (2, x3)), (4, (2, x4)), (5, (0, x5))]) dL_law_1404 (by decide) rfl ?_
    refine V_aload_n (κ := KL_law) (pc := 1406) dL_law_1406 3 rfl rfl ?_
    refine V_aload_n (κ := KL_law) (pc := 1407) dL_law_1407 1 rfl rfl ?_
    refine V_iload (κ := KL_law) (pc := 1408) dL_law_1408 6 rfl ?_
    refine V_iconst (κ := KL_law) (pc := 1410) dL_law_1410 ⟨by decide, by decide⟩ ?_
    refine V_iadd (κ := KL_law) (pc := 1411) dL_law_1411 ?_
    refine V_scr (κ := KL_law) hS (pc := 1412) dL_law_1412 fun t378 => ?_
    refine V_aload_n (κ := KL_law) (pc := 1413) dL_law_1413 1 rfl rfl ?_
    refine V_iload (κ := KL_law) (pc := 1414) dL_law_1414 6 rfl ?_
    refine V_iconst (κ := KL_law) (pc := 1416) dL_law_1416 ⟨by decide, by decide⟩ ?_
    refine V_iadd (κ := KL_law) (pc := 1417) dL_law_1417 ?_
    refine V_scr (κ := KL_law) hS (pc := 1418) dL_law_1418 fun t380 => ?_
    refine V_callV (ci := 7) (T := TX7) (N := 24) rfl (by decide) (κ := KL_law) (pc := 1419) (con_X7_shape _ _ _ _) mth_X7_shape rfl ⟨wd_1393, wd_1394⟩ wd_1392 (st0 := []) rfl rfl (by decide) (Nat.le_of_ble_eq_true rfl) dL_law_1419 (fun _ _ _ _ => VX_none) fun t381 u382 => ?_
    refine V_istore (κ := KL_law) (pc := 1422) (lv' := [(7, (0, t381)), (6, (0, t375)), (0, (5, 26)), (1, (2, x1)), (2, (2, x2)), (3, (2, x3)), (4, (2, x4)), (5, (0, x5))]) dL_law_1422 (by decide) rfl ?_
    refine V_aload_n (κ := KL_law) (pc := 1424) dL_law_1424 4 rfl rfl ?_
    refine V_callV (ci := 7) (T := TX7) (N := 24) rfl (by decide) (κ := KL_law) (pc := 1425) (con_X7_thrown _ _) mth_X7_thrown rfl ⟨wd_1062, wd_1063⟩ wd_1061 (st0 := []) rfl rfl (by decide) (Nat.le_of_ble_eq_true rfl) dL_law_1425 (fun _ _ _ _ => VX_none) fun t383 u384 => ?_
    refine V_iload (κ := KL_law) (pc := 1428) dL_law_1428 1 rfl ?_
    refine V_icmp_eq (κ := KL_law) (pc := 1430) (tgt := 1435) dL_law_1430 rfl ?_ ?_
    · refine V_iload (κ := KL_law) (pc := 1435) dL_law_1435 1 rfl ?_
      refine V_if_ne (κ := KL_law) (pc := 1437) (tgt := 1452) dL_law_1437 rfl ?_ ?_
      · refine V_sub (lv' := [(0, (5, 26)), (1, (2, x1)), (2, (2, x2)), (3, (2, x3)), (4, (2, x4)), (5, (0, x5))]) [2, 3, 4, 5, 6, 7] rfl ?_
        exact VBL_law_1452 hS hk28 _ _ _ _ _ _
      refine V_aload_n (κ := KL_law) (pc := 1440) dL_law_1440 5 rfl rfl ?_
      refine V_iconst (κ := KL_law) (pc := 1441) dL_law_1441 ⟨by decide, by decide⟩ ?_
      refine V_laload (κ := KL_law) (pc := 1442) dL_law_1442 fun t385 => ?_
      refine V_iload (κ := KL_law) (pc := 1443) dL_law_1443 0 rfl ?_
      refine V_i2l (κ := KL_law) (pc := 1445) dL_law_1445 ?_
      refine V_lcmp (κ := KL_law) (pc := 1446) dL_law_1446 ?_
      refine V_if_eq (κ := KL_law) (pc := 1447) (tgt := 1452) dL_law_1447 rfl ?_ ?_
      · refine V_sub (lv' := [(0, (5, 26)), (1, (2, x1)), (2, (2, x2)), (3, (2, x3)), (4, (2, x4)), (5, (0, x5))]) [2, 3, 4, 5, 6, 7] rfl ?_
        exact VBL_law_1452 hS hk28 _ _ _ _ _ _
      refine V_iconst (κ := KL_law) (pc := 1450) dL_law_1450 ⟨by decide, by decide⟩ ?_
      exact V_lawret hS rfl (κ := KL_law) (pc := 1451) dL_law_1451
    refine V_iconst (κ := KL_law) (pc := 1433) dL_law_1433 ⟨by decide, by decide⟩ ?_
    exact V_lawret hS rfl (κ := KL_law) (pc := 1434) dL_law_1434
  · refine V_aload_n (κ := KL_law) (pc := 1455) dL_law_1455 1 rfl rfl ?_
    refine V_aload_n (κ := KL_law) (pc := 1456) dL_law_1456 0 rfl rfl ?_
    refine V_iload (κ := KL_law) (pc := 1457) dL_law_1457 5 rfl ?_
    refine V_iconst (κ := KL_law) (pc := 1459) dL_law_1459 ⟨by decide, by decide⟩ ?_
    refine V_iadd (κ := KL_law) (pc := 1460) dL_law_1460 ?_
    refine V_scr (κ := KL_law) hS (pc := 1461) dL_law_1461 fun t387 => ?_
    refine V_aload_n (κ := KL_law) (pc := 1462) dL_law_1462 0 rfl rfl ?_
    refine V_iload (κ := KL_law) (pc := 1463) dL_law_1463 5 rfl ?_
    refine V_iconst (κ := KL_law) (pc := 1465) dL_law_1465 ⟨by decide, by decide⟩ ?_
    refine V_iadd (κ := KL_law) (pc := 1466) dL_law_1466 ?_
    refine V_scr (κ := KL_law) hS (pc := 1467) dL_law_1467 fun t389 => ?_
    refine V_aload_n (κ := KL_law) (pc := 1468) dL_law_1468 0 rfl rfl ?_
    refine V_iload (κ := KL_law) (pc := 1469) dL_law_1469 5 rfl ?_
    refine V_iconst (κ := KL_law) (pc := 1471) dL_law_1471 ⟨by decide, by decide⟩ ?_
    refine V_iadd (κ := KL_law) (pc := 1472) dL_law_1472 ?_
    refine V_scr (κ := KL_law) hS (pc := 1473) dL_law_1473 fun t391 => ?_
    refine V_aload_n (κ := KL_law) (pc := 1474) dL_law_1474 3 rfl rfl ?_
    refine V_callSX (κ := KL_law) (pc := 1475) (con_L_shift _ _ _ _ _ _) mth_L_shift wd_912 wd_911 (st0 := []) rfl rfl (by decide) (Nat.le_of_ble_eq_true rfl) dL_law_1475 (fun _ _ _ _ => VX_none) fun t392 u393 => ?_
    refine V_istore (κ := KL_law) (pc := 1478) (lv' := [(6, (0, t392)), (0, (5, 26)), (1, (2, x1)), (2, (2, x2)), (3, (2, x3)), (4, (2, x4)), (5, (0, x5))]) dL_law_1478 (by decide) rfl ?_
    refine V_aload_n (κ := KL_law) (pc := 1480) dL_law_1480 3 rfl rfl ?_
    refine V_aload_n (κ := KL_law) (pc := 1481) dL_law_1481 1 rfl rfl ?_
    refine V_iload (κ := KL_law) (pc := 1482) dL_law_1482 6 rfl ?_
    refine V_iconst (κ := KL_law) (pc := 1484) dL_law_1484 ⟨by decide, by decide⟩ ?_
    refine V_iadd (κ := KL_law) (pc := 1485) dL_law_1485 ?_
    refine V_scr (κ := KL_law) hS (pc := 1486) dL_law_1486 fun t395 => ?_
    refine V_aload_n (κ := KL_law) (pc := 1487) dL_law_1487 1 rfl rfl ?_
    refine V_iload (κ := KL_law) (pc := 1488) dL_law_1488 6 rfl ?_
    refine V_iconst (κ := KL_law) (pc := 1490) dL_law_1490 ⟨by decide, by decide⟩ ?_
    refine V_iadd (κ := KL_law) (pc := 1491) dL_law_1491 ?_
    refine V_scr (κ := KL_law) hS (pc := 1492) dL_law_1492 fun t397 => ?_
    refine V_aload_n (κ := KL_law) (pc := 1493) dL_law_1493 1 rfl rfl ?_
    refine V_iload (κ := KL_law) (pc := 1494) dL_law_1494 6 rfl ?_
    refine V_iconst (κ := KL_law) (pc := 1496) dL_law_1496 ⟨by decide, by decide⟩ ?_
    refine V_iadd (κ := KL_law) (pc := 1497) dL_law_1497 ?_
    refine V_scr (κ := KL_law) hS (pc := 1498) dL_law_1498 fun t399 => ?_
    refine V_callV (ci := 7) (T := TX7) (N := 24) rfl (by decide) (κ := KL_law) (pc := 1499) (con_X7_shift _ _ _ _ _) mth_X7_shift rfl ⟨wd_1397, wd_1398⟩ wd_1396 (st0 := []) rfl rfl (by decide) (Nat.le_of_ble_eq_true rfl) dL_law_1499 (fun _ _ _ _ => VX_none) fun t400 u401 => ?_
    refine V_istore (κ := KL_law) (pc := 1502) (lv' := [(7, (0, t400)), (6, (0, t392)), (0, (5, 26)), (1, (2, x1)), (2, (2, x2)), (3, (2, x3)), (4, (2, x4)), (5, (0, x5))]) dL_law_1502 (by decide) rfl ?_
    refine V_aload_n (κ := KL_law) (pc := 1504) dL_law_1504 4 rfl rfl ?_
    refine V_callV (ci := 7) (T := TX7) (N := 24) rfl (by decide) (κ := KL_law) (pc := 1505) (con_X7_thrown _ _) mth_X7_thrown rfl ⟨wd_1062, wd_1063⟩ wd_1061 (st0 := []) rfl rfl (by decide) (Nat.le_of_ble_eq_true rfl) dL_law_1505 (fun _ _ _ _ => VX_none) fun t402 u403 => ?_
    refine V_iload (κ := KL_law) (pc := 1508) dL_law_1508 1 rfl ?_
    refine V_icmp_eq (κ := KL_law) (pc := 1510) (tgt := 1515) dL_law_1510 rfl ?_ ?_
    · refine V_iload (κ := KL_law) (pc := 1515) dL_law_1515 1 rfl ?_
      refine V_if_ne (κ := KL_law) (pc := 1517) (tgt := 1532) dL_law_1517 rfl ?_ ?_
      · refine V_sub (lv' := [(0, (5, 26)), (1, (2, x1)), (2, (2, x2)), (3, (2, x3)), (4, (2, x4)), (5, (0, x5))]) [2, 3, 4, 5, 6, 7] rfl ?_
        exact VBL_law_1532 hS hk28 _ _ _ _ _ _
      refine V_aload_n (κ := KL_law) (pc := 1520) dL_law_1520 5 rfl rfl ?_
      refine V_iconst (κ := KL_law) (pc := 1521) dL_law_1521 ⟨by decide, by decide⟩ ?_
      refine V_laload (κ := KL_law) (pc := 1522) dL_law_1522 fun t404 => ?_
      refine V_iload (κ := KL_law) (pc := 1523) dL_law_1523 0 rfl ?_
      refine V_i2l (κ := KL_law) (pc := 1525) dL_law_1525 ?_
      refine V_lcmp (κ := KL_law) (pc := 1526) dL_law_1526 ?_
      refine V_if_eq (κ := KL_law) (pc := 1527) (tgt := 1532) dL_law_1527 rfl ?_ ?_
      · refine V_sub (lv' := [(0, (5, 26)), (1, (2, x1)), (2, (2, x2)), (3, (2, x3)), (4, (2, x4)), (5, (0, x5))]) [2, 3, 4, 5, 6, 7] rfl ?_
        exact VBL_law_1532 hS hk28 _ _ _ _ _ _
      refine V_iconst (κ := KL_law) (pc := 1530) dL_law_1530 ⟨by decide, by decide⟩ ?_
      exact V_lawret hS rfl (κ := KL_law) (pc := 1531) dL_law_1531
    refine V_iconst (κ := KL_law) (pc := 1513) dL_law_1513 ⟨by decide, by decide⟩ ?_
    exact V_lawret hS rfl (κ := KL_law) (pc := 1514) dL_law_1514
  · refine V_aload_n (κ := KL_law) (pc := 1535) dL_law_1535 1 rfl rfl ?_
    refine V_aload_n (κ := KL_law) (pc := 1536) dL_law_1536 0 rfl rfl ?_
    refine V_iload (κ := KL_law) (pc := 1537) dL_law_1537 5 rfl ?_
    refine V_iconst (κ := KL_law) (pc := 1539) dL_law_1539 ⟨by decide, by decide⟩ ?_
    refine V_iadd (κ := KL_law) (pc := 1540) dL_law_1540 ?_
    refine V_scr (κ := KL_law) hS (pc := 1541) dL_law_1541 fun t406 => ?_
    refine V_aload_n (κ := KL_law) (pc := 1542) dL_law_1542 3 rfl rfl ?_
    refine V_callSX (κ := KL_law) (pc := 1543) (con_L_limit _ _ _ _) mth_L_limit wd_920 wd_919 (st0 := []) rfl rfl (by decide) (Nat.le_of_ble_eq_true rfl) dL_law_1543 (fun _ _ _ _ => VX_none) fun t407 u408 => ?_
    refine V_istore (κ := KL_law) (pc := 1546) (lv' := [(6, (0, t407)), (0, (5, 26)), (1, (2, x1)), (2, (2, x2)), (3, (2, x3)), (4, (2, x4)), (5, (0, x5))]) dL_law_1546 (by decide) rfl ?_
    refine V_aload_n (κ := KL_law) (pc := 1548) dL_law_1548 3 rfl rfl ?_
    refine V_aload_n (κ := KL_law) (pc := 1549) dL_law_1549 1 rfl rfl ?_
    refine V_iload (κ := KL_law) (pc := 1550) dL_law_1550 6 rfl ?_
    refine V_iconst (κ := KL_law) (pc := 1552) dL_law_1552 ⟨by decide, by decide⟩ ?_
    refine V_iadd (κ := KL_law) (pc := 1553) dL_law_1553 ?_
    refine V_scr (κ := KL_law) hS (pc := 1554) dL_law_1554 fun t410 => ?_
    refine V_callV (ci := 7) (T := TX7) (N := 24) rfl (by decide) (κ := KL_law) (pc := 1555) (con_X7_limit _ _ _) mth_X7_limit rfl ⟨wd_1401, wd_1402⟩ wd_1400 (st0 := []) rfl rfl (by decide) (Nat.le_of_ble_eq_true rfl) dL_law_1555 (fun _ _ _ _ => VX_none) fun t411 u412 => ?_
    refine V_istore (κ := KL_law) (pc := 1558) (lv' := [(7, (0, t411)), (6, (0, t407)), (0, (5, 26)), (1, (2, x1)), (2, (2, x2)), (3, (2, x3)), (4, (2, x4)), (5, (0, x5))]) dL_law_1558 (by decide) rfl ?_
    refine V_aload_n (κ := KL_law) (pc := 1560) dL_law_1560 4 rfl rfl ?_
    refine V_callV (ci := 7) (T := TX7) (N := 24) rfl (by decide) (κ := KL_law) (pc := 1561) (con_X7_thrown _ _) mth_X7_thrown rfl ⟨wd_1062, wd_1063⟩ wd_1061 (st0 := []) rfl rfl (by decide) (Nat.le_of_ble_eq_true rfl) dL_law_1561 (fun _ _ _ _ => VX_none) fun t413 u414 => ?_
    refine V_iload (κ := KL_law) (pc := 1564) dL_law_1564 1 rfl ?_
    refine V_icmp_eq (κ := KL_law) (pc := 1566) (tgt := 1571) dL_law_1566 rfl ?_ ?_
    · refine V_iload (κ := KL_law) (pc := 1571) dL_law_1571 1 rfl ?_
      refine V_if_ne (κ := KL_law) (pc := 1573) (tgt := 1588) dL_law_1573 rfl ?_ ?_
      · refine V_sub (lv' := [(0, (5, 26)), (1, (2, x1)), (2, (2, x2)), (3, (2, x3)), (4, (2, x4)), (5, (0, x5))]) [2, 3, 4, 5, 6, 7] rfl ?_
        exact VBL_law_1588 hS hk28 _ _ _ _ _ _
      refine V_aload_n (κ := KL_law) (pc := 1576) dL_law_1576 5 rfl rfl ?_
      refine V_iconst (κ := KL_law) (pc := 1577) dL_law_1577 ⟨by decide, by decide⟩ ?_
      refine V_laload (κ := KL_law) (pc := 1578) dL_law_1578 fun t415 => ?_
      refine V_iload (κ := KL_law) (pc := 1579) dL_law_1579 0 rfl ?_
      refine V_i2l (κ := KL_law) (pc := 1581) dL_law_1581 ?_
      refine V_lcmp (κ := KL_law) (pc := 1582) dL_law_1582 ?_
      refine V_if_eq (κ := KL_law) (pc := 1583) (tgt := 1588) dL_law_1583 rfl ?_ ?_
      · refine V_sub (lv' := [(0, (5, 26)), (1, (2, x1)), (2, (2, x2)), (3, (2, x3)), (4, (2, x4)), (5, (0, x5))]) [2, 3, 4, 5, 6, 7] rfl ?_
        exact VBL_law_1588 hS hk28 _ _ _ _ _ _
      refine V_iconst (κ := KL_law) (pc := 1586) dL_law_1586 ⟨by decide, by decide⟩ ?_
      exact V_lawret hS rfl (κ := KL_law) (pc := 1587) dL_law_1587
    refine V_iconst (κ := KL_law) (pc := 1569) dL_law_1569 ⟨by decide, by decide⟩ ?_
    exact V_lawret hS rfl (κ := KL_law) (pc := 1570) dL_law_1570
  · refine V_aload_n (κ := KL_law) (pc := 1591) dL_law_1591 1 rfl rfl ?_
    refine V_aload_n (κ := KL_law) (pc := 1592) dL_law_1592 0 rfl rfl ?_
    refine V_iload (κ := KL_law) (pc := 1593) dL_law_1593 5 rfl ?_
    refine V_iconst (κ := KL_law) (pc := 1595) dL_law_1595 ⟨by decide, by decide⟩ ?_
    refine V_iadd (κ := KL_law) (pc := 1596) dL_law_1596 ?_
    refine V_scr (κ := KL_law) hS (pc := 1597) dL_law_1597 fun t417 => ?_
    refine V_aload_n (κ := KL_law) (pc := 1598) dL_law_1598 3 rfl rfl ?_
    refine V_callSX (κ := KL_law) (pc := 1599) (con_L_clean _ _ _ _) mth_L_clean wd_928 wd_927 (st0 := []) rfl rfl (by decide) (Nat.le_of_ble_eq_true rfl) dL_law_1599 (fun _ _ _ _ => VX_none) fun t418 u419 => ?_
    refine V_istore (κ := KL_law) (pc := 1602) (lv' := [(6, (0, t418)), (0, (5, 26)), (1, (2, x1)), (2, (2, x2)), (3, (2, x3)), (4, (2, x4)), (5, (0, x5))]) dL_law_1602 (by decide) rfl ?_
    refine V_aload_n (κ := KL_law) (pc := 1604) dL_law_1604 3 rfl rfl ?_
    refine V_aload_n (κ := KL_law) (pc := 1605) dL_law_1605 1 rfl rfl ?_
    refine V_iload (κ := KL_law) (pc := 1606) dL_law_1606 6 rfl ?_
    refine V_iconst (κ := KL_law) (pc := 1608) dL_law_1608 ⟨by decide, by decide⟩ ?_
    refine V_iadd (κ := KL_law) (pc := 1609) dL_law_1609 ?_
    refine V_scr (κ := KL_law) hS (pc := 1610) dL_law_1610 fun t421 => ?_
    refine V_callV (ci := 7) (T := TX7) (N := 24) rfl (by decide) (κ := KL_law) (pc := 1611) (con_X7_clean _ _ _) mth_X7_clean rfl ⟨wd_1405, wd_1406⟩ wd_1404 (st0 := []) rfl rfl (by decide) (Nat.le_of_ble_eq_true rfl) dL_law_1611 (fun _ _ _ _ => VX_none) fun t422 u423 => ?_
    refine V_istore (κ := KL_law) (pc := 1614) (lv' := [(7, (0, t422)), (6, (0, t418)), (0, (5, 26)), (1, (2, x1)), (2, (2, x2)), (3, (2, x3)), (4, (2, x4)), (5, (0, x5))]) dL_law_1614 (by decide) rfl ?_
    refine V_aload_n (κ := KL_law) (pc := 1616) dL_law_1616 4 rfl rfl ?_
    refine V_callV (ci := 7) (T := TX7) (N := 24) rfl (by decide) (κ := KL_law) (pc := 1617) (con_X7_thrown _ _) mth_X7_thrown rfl ⟨wd_1062, wd_1063⟩ wd_1061 (st0 := []) rfl rfl (by decide) (Nat.le_of_ble_eq_true rfl) dL_law_1617 (fun _ _ _ _ => VX_none) fun t424 u425 => ?_
    refine V_iload (κ := KL_law) (pc := 1620) dL_law_1620 1 rfl ?_
    refine V_icmp_eq (κ := KL_law) (pc := 1622) (tgt := 1627) dL_law_1622 rfl ?_ ?_
    · refine V_iload (κ := KL_law) (pc := 1627) dL_law_1627 1 rfl ?_
      refine V_if_ne (κ := KL_law) (pc := 1629) (tgt := 1644) dL_law_1629 rfl ?_ ?_
      · refine V_sub (lv' := [(0, (5, 26)), (1, (2, x1)), (2, (2, x2)), (3, (2, x3)), (4, (2, x4)), (5, (0, x5))]) [2, 3, 4, 5, 6, 7] rfl ?_
        exact VBL_law_1644 hS hk28 _ _ _ _ _ _
      refine V_aload_n (κ := KL_law) (pc := 1632) dL_law_1632 5 rfl rfl ?_
      refine V_iconst (κ := KL_law) (pc := 1633) dL_law_1633 ⟨by decide, by decide⟩ ?_
      refine V_laload (κ := KL_law) (pc := 1634) dL_law_1634 fun t426 => ?_
      refine V_iload (κ := KL_law) (pc := 1635) dL_law_1635 0 rfl ?_
      refine V_i2l (κ := KL_law) (pc := 1637) dL_law_1637 ?_
      refine V_lcmp (κ := KL_law) (pc := 1638) dL_law_1638 ?_
      refine V_if_eq (κ := KL_law) (pc := 1639) (tgt := 1644) dL_law_1639 rfl ?_ ?_
      · refine V_sub (lv' := [(0, (5, 26)), (1, (2, x1)), (2, (2, x2)), (3, (2, x3)), (4, (2, x4)), (5, (0, x5))]) [2, 3, 4, 5, 6, 7] rfl ?_
        exact VBL_law_1644 hS hk28 _ _ _ _ _ _
      refine V_iconst (κ := KL_law) (pc := 1642) dL_law_1642 ⟨by decide, by decide⟩ ?_
      exact V_lawret hS rfl (κ := KL_law) (pc := 1643) dL_law_1643
    refine V_iconst (κ := KL_law) (pc := 1625) dL_law_1625 ⟨by decide, by decide⟩ ?_
    exact V_lawret hS rfl (κ := KL_law) (pc := 1626) dL_law_1626
  · refine V_aload_n (κ := KL_law) (pc := 1647) dL_law_1647 1 rfl rfl ?_
    refine V_aload_n (κ := KL_law) (pc := 1648) dL_law_1648 0 rfl rfl ?_
    refine V_iload (κ := KL_law) (pc := 1649) dL_law_1649 5 rfl ?_
    refine V_iconst (κ := KL_law) (pc := 1651) dL_law_1651 ⟨by decide, by decide⟩ ?_
    refine V_iadd (κ := KL_law) (pc := 1652) dL_law_1652 ?_
    refine V_scr (κ := KL_law) hS (pc := 1653) dL_law_1653 fun t428 => ?_
    refine V_aload_n (κ := KL_law) (pc := 1654) dL_law_1654 3 rfl rfl ?_
    refine V_callSX (κ := KL_law) (pc := 1655) (con_L_dirty _ _ _ _) mth_L_dirty wd_935 wd_934 (st0 := []) rfl rfl (by decide) (Nat.le_of_ble_eq_true rfl) dL_law_1655 (fun _ _ _ _ => VX_none) fun t429 u430 => ?_
    refine V_istore (κ := KL_law) (pc := 1658) (lv' := [(6, (0, t429)), (0, (5, 26)), (1, (2, x1)), (2, (2, x2)), (3, (2, x3)), (4, (2, x4)), (5, (0, x5))]) dL_law_1658 (by decide) rfl ?_
    refine V_aload_n (κ := KL_law) (pc := 1660) dL_law_1660 3 rfl rfl ?_
    refine V_aload_n (κ := KL_law) (pc := 1661) dL_law_1661 1 rfl rfl ?_
    refine V_iload (κ := KL_law) (pc := 1662) dL_law_1662 6 rfl ?_
    refine V_iconst (κ := KL_law) (pc := 1664) dL_law_1664 ⟨by decide, by decide⟩ ?_
    refine V_iadd (κ := KL_law) (pc := 1665) dL_law_1665 ?_
    refine V_scr (κ := KL_law) hS (pc := 1666) dL_law_1666 fun t432 => ?_
    refine V_callV (ci := 7) (T := TX7) (N := 24) rfl (by decide) (κ := KL_law) (pc := 1667) (con_X7_dirty _ _ _) mth_X7_dirty rfl ⟨wd_1409, wd_1410⟩ wd_1408 (st0 := []) rfl rfl (by decide) (Nat.le_of_ble_eq_true rfl) dL_law_1667 (fun _ _ _ _ => VX_none) fun t433 u434 => ?_
    refine V_istore (κ := KL_law) (pc := 1670) (lv' := [(7, (0, t433)), (6, (0, t429)), (0, (5, 26)), (1, (2, x1)), (2, (2, x2)), (3, (2, x3)), (4, (2, x4)), (5, (0, x5))]) dL_law_1670 (by decide) rfl ?_
    refine V_aload_n (κ := KL_law) (pc := 1672) dL_law_1672 4 rfl rfl ?_
    refine V_callV (ci := 7) (T := TX7) (N := 24) rfl (by decide) (κ := KL_law) (pc := 1673) (con_X7_thrown _ _) mth_X7_thrown rfl ⟨wd_1062, wd_1063⟩ wd_1061 (st0 := []) rfl rfl (by decide) (Nat.le_of_ble_eq_true rfl) dL_law_1673 (fun _ _ _ _ => VX_none) fun t435 u436 => ?_
    refine V_iload (κ := KL_law) (pc := 1676) dL_law_1676 1 rfl ?_
    refine V_icmp_eq (κ := KL_law) (pc := 1678) (tgt := 1683) dL_law_1678 rfl ?_ ?_
    · refine V_iload (κ := KL_law) (pc := 1683) dL_law_1683 1 rfl ?_
      refine V_if_ne (κ := KL_law) (pc := 1685) (tgt := 1700) dL_law_1685 rfl ?_ ?_
      · refine V_sub (lv' := [(0, (5, 26)), (1, (2, x1)), (2, (2, x2)), (3, (2, x3)), (4, (2, x4)), (5, (0, x5))]) [2, 3, 4, 5, 6, 7] rfl ?_
        exact VBL_law_1700 hS hk28 _ _ _ _ _ _
      refine V_aload_n (κ := KL_law) (pc := 1688) dL_law_1688 5 rfl rfl ?_
      refine V_iconst (κ := KL_law) (pc := 1689) dL_law_1689 ⟨by decide, by decide⟩ ?_
      refine V_laload (κ := KL_law) (pc := 1690) dL_law_1690 fun t437 => ?_
      refine V_iload (κ := KL_law) (pc := 1691) dL_law_1691 0 rfl ?_
      refine V_i2l (κ := KL_law) (pc := 1693) dL_law_1693 ?_
      refine V_lcmp (κ := KL_law) (pc := 1694) dL_law_1694 ?_
      refine V_if_eq (κ := KL_law) (pc := 1695) (tgt := 1700) dL_law_1695 rfl ?_ ?_
      · refine V_sub (lv' := [(0, (5, 26)), (1, (2, x1)), (2, (2, x2)), (3, (2, x3)), (4, (2, x4)), (5, (0, x5))]) [2, 3, 4, 5, 6, 7] rfl ?_
        exact VBL_law_1700 hS hk28 _ _ _ _ _ _
      refine V_iconst (κ := KL_law) (pc := 1698) dL_law_1698 ⟨by decide, by decide⟩ ?_
      exact V_lawret hS rfl (κ := KL_law) (pc := 1699) dL_law_1699
    refine V_iconst (κ := KL_law) (pc := 1681) dL_law_1681 ⟨by decide, by decide⟩ ?_
    exact V_lawret hS rfl (κ := KL_law) (pc := 1682) dL_law_1682
  · refine V_aload_n (κ := KL_law) (pc := 1703) dL_law_1703 1 rfl rfl ?_
    refine V_aload_n (κ := KL_law) (pc := 1704) dL_law_1704 0 rfl rfl ?_
    refine V_iload (κ := KL_law) (pc := 1705) dL_law_1705 5 rfl ?_
    refine V_iconst (κ := KL_law) (pc := 1707) dL_law_1707 ⟨by decide, by decide⟩ ?_
    refine V_iadd (κ := KL_law) (pc := 1708) dL_law_1708 ?_
    refine V_scr (κ := KL_law) hS (pc := 1709) dL_law_1709 fun t439 => ?_
    refine V_aload_n (κ := KL_law) (pc := 1710) dL_law_1710 0 rfl rfl ?_
    refine V_iload (κ := KL_law) (pc := 1711) dL_law_1711 5 rfl ?_
    refine V_iconst (κ := KL_law) (pc := 1713) dL_law_1713 ⟨by decide, by decide⟩ ?_
    refine V_iadd (κ := KL_law) (pc := 1714) dL_law_1714 ?_
    refine V_scr (κ := KL_law) hS (pc := 1715) dL_law_1715 fun t441 => ?_
    refine V_aload_n (κ := KL_law) (pc := 1716) dL_law_1716 3 rfl rfl ?_
    refine V_callSX (κ := KL_law) (pc := 1717) (con_L_fill _ _ _ _ _) mth_L_fill wd_942 wd_941 (st0 := []) rfl rfl (by decide) (Nat.le_of_ble_eq_true rfl) dL_law_1717 (fun _ _ _ _ => VX_none) fun t442 u443 => ?_
    refine V_istore (κ := KL_law) (pc := 1720) (lv' := [(6, (0, t442)), (0, (5, 26)), (1, (2, x1)), (2, (2, x2)), (3, (2, x3)), (4, (2, x4)), (5, (0, x5))]) dL_law_1720 (by decide) rfl ?_
    refine V_aload_n (κ := KL_law) (pc := 1722) dL_law_1722 3 rfl rfl ?_
    refine V_aload_n (κ := KL_law) (pc := 1723) dL_law_1723 1 rfl rfl ?_
    refine V_iload (κ := KL_law) (pc := 1724) dL_law_1724 6 rfl ?_
    refine V_iconst (κ := KL_law) (pc := 1726) dL_law_1726 ⟨by decide, by decide⟩ ?_
    refine V_iadd (κ := KL_law) (pc := 1727) dL_law_1727 ?_
    refine V_scr (κ := KL_law) hS (pc := 1728) dL_law_1728 fun t445 => ?_
    refine V_aload_n (κ := KL_law) (pc := 1729) dL_law_1729 1 rfl rfl ?_
    refine V_iload (κ := KL_law) (pc := 1730) dL_law_1730 6 rfl ?_
    refine V_iconst (κ := KL_law) (pc := 1732) dL_law_1732 ⟨by decide, by decide⟩ ?_
    refine V_iadd (κ := KL_law) (pc := 1733) dL_law_1733 ?_
    refine V_scr (κ := KL_law) hS (pc := 1734) dL_law_1734 fun t447 => ?_
    refine V_callV (ci := 7) (T := TX7) (N := 24) rfl (by decide) (κ := KL_law) (pc := 1735) (con_X7_fill _ _ _ _) mth_X7_fill rfl ⟨wd_1413, wd_1414⟩ wd_1412 (st0 := []) rfl rfl (by decide) (Nat.le_of_ble_eq_true rfl) dL_law_1735 (fun _ _ _ _ => VX_none) fun t448 u449 => ?_
    refine V_istore (κ := KL_law) (pc := 1738) (lv' := [(7, (0, t448)), (6, (0, t442)), (0, (5, 26)), (1, (2, x1)), (2, (2, x2)), (3, (2, x3)), (4, (2, x4)), (5, (0, x5))]) dL_law_1738 (by decide) rfl ?_
    refine V_aload_n (κ := KL_law) (pc := 1740) dL_law_1740 4 rfl rfl ?_
    refine V_callV (ci := 7) (T := TX7) (N := 24) rfl (by decide) (κ := KL_law) (pc := 1741) (con_X7_thrown _ _) mth_X7_thrown rfl ⟨wd_1062, wd_1063⟩ wd_1061 (st0 := []) rfl rfl (by decide) (Nat.le_of_ble_eq_true rfl) dL_law_1741 (fun _ _ _ _ => VX_none) fun t450 u451 => ?_
    refine V_iload (κ := KL_law) (pc := 1744) dL_law_1744 1 rfl ?_
    refine V_icmp_eq (κ := KL_law) (pc := 1746) (tgt := 1751) dL_law_1746 rfl ?_ ?_
    · refine V_iload (κ := KL_law) (pc := 1751) dL_law_1751 1 rfl ?_
      refine V_if_ne (κ := KL_law) (pc := 1753) (tgt := 1768) dL_law_1753 rfl ?_ ?_
      · refine V_sub (lv' := [(0, (5, 26)), (1, (2, x1)), (2, (2, x2)), (3, (2, x3)), (4, (2, x4)), (5, (0, x5))]) [2, 3, 4, 5, 6, 7] rfl ?_
        exact VBL_law_1768 hS hk28 _ _ _ _ _ _
      refine V_aload_n (κ := KL_law) (pc := 1756) dL_law_1756 5 rfl rfl ?_
      refine V_iconst (κ := KL_law) (pc := 1757) dL_law_1757 ⟨by decide, by decide⟩ ?_
      refine V_laload (κ := KL_law) (pc := 1758) dL_law_1758 fun t452 => ?_
      refine V_iload (κ := KL_law) (pc := 1759) dL_law_1759 0 rfl ?_
      refine V_i2l (κ := KL_law) (pc := 1761) dL_law_1761 ?_
      refine V_lcmp (κ := KL_law) (pc := 1762) dL_law_1762 ?_
      refine V_if_eq (κ := KL_law) (pc := 1763) (tgt := 1768) dL_law_1763 rfl ?_ ?_
      · refine V_sub (lv' := [(0, (5, 26)), (1, (2, x1)), (2, (2, x2)), (3, (2, x3)), (4, (2, x4)), (5, (0, x5))]) [2, 3, 4, 5, 6, 7] rfl ?_
        exact VBL_law_1768 hS hk28 _ _ _ _ _ _
      refine V_iconst (κ := KL_law) (pc := 1766) dL_law_1766 ⟨by decide, by decide⟩ ?_
      exact V_lawret hS rfl (κ := KL_law) (pc := 1767) dL_law_1767
    refine V_iconst (κ := KL_law) (pc := 1749) dL_law_1749 ⟨by decide, by decide⟩ ?_
    exact V_lawret hS rfl (κ := KL_law) (pc := 1750) dL_law_1750
  · refine V_aload_n (κ := KL_law) (pc := 1771) dL_law_1771 1 rfl rfl ?_
    refine V_aload_n (κ := KL_law) (pc := 1772) dL_law_1772 0 rfl rfl ?_
    refine V_iload (κ := KL_law) (pc := 1773) dL_law_1773 5 rfl ?_
    refine V_iconst (κ := KL_law) (pc := 1775) dL_law_1775 ⟨by decide, by decide⟩ ?_
    refine V_iadd (κ := KL_law) (pc := 1776) dL_law_1776 ?_
    refine V_scr (κ := KL_law) hS (pc := 1777) dL_law_1777 fun t454 => ?_
    refine V_aload_n (κ := KL_law) (pc := 1778) dL_law_1778 3 rfl rfl ?_
    refine V_callSX (κ := KL_law) (pc := 1779) (con_L_press _ _ _ _) mth_L_press wd_951 wd_950 (st0 := []) rfl rfl (by decide) (Nat.le_of_ble_eq_true rfl) dL_law_1779 (fun _ _ _ _ => VX_none) fun t455 u456 => ?_
    refine V_istore (κ := KL_law) (pc := 1782) (lv' := [(6, (0, t455)), (0, (5, 26)), (1, (2, x1)), (2, (2, x2)), (3, (2, x3)), (4, (2, x4)), (5, (0, x5))]) dL_law_1782 (by decide) rfl ?_
    refine V_aload_n (κ := KL_law) (pc := 1784) dL_law_1784 3 rfl rfl ?_
    refine V_aload_n (κ := KL_law) (pc := 1785) dL_law_1785 1 rfl rfl ?_
    refine V_iload (κ := KL_law) (pc := 1786) dL_law_1786 6 rfl ?_
    refine V_iconst (κ := KL_law) (pc := 1788) dL_law_1788 ⟨by decide, by decide⟩ ?_
    refine V_iadd (κ := KL_law) (pc := 1789) dL_law_1789 ?_
    refine V_scr (κ := KL_law) hS (pc := 1790) dL_law_1790 fun t458 => ?_
    refine V_callV (ci := 7) (T := TX7) (N := 24) rfl (by decide) (κ := KL_law) (pc := 1791) (con_X7_press _ _ _) mth_X7_press rfl ⟨wd_1418, wd_1419⟩ wd_1417 (st0 := []) rfl rfl (by decide) (Nat.le_of_ble_eq_true rfl) dL_law_1791 (fun _ _ _ _ => VX_none) fun t459 u460 => ?_
    refine V_istore (κ := KL_law) (pc := 1794) (lv' := [(7, (0, t459)), (6, (0, t455)), (0, (5, 26)), (1, (2, x1)), (2, (2, x2)), (3, (2, x3)), (4, (2, x4)), (5, (0, x5))]) dL_law_1794 (by decide) rfl ?_
    refine V_aload_n (κ := KL_law) (pc := 1796) dL_law_1796 4 rfl rfl ?_
    refine V_callV (ci := 7) (T := TX7) (N := 24) rfl (by decide) (κ := KL_law) (pc := 1797) (con_X7_thrown _ _) mth_X7_thrown rfl ⟨wd_1062, wd_1063⟩ wd_1061 (st0 := []) rfl rfl (by decide) (Nat.le_of_ble_eq_true rfl) dL_law_1797 (fun _ _ _ _ => VX_none) fun t461 u462 => ?_
    refine V_iload (κ := KL_law) (pc := 1800) dL_law_1800 1 rfl ?_
    refine V_icmp_eq (κ := KL_law) (pc := 1802) (tgt := 1807) dL_law_1802 rfl ?_ ?_
    · refine V_iload (κ := KL_law) (pc := 1807) dL_law_1807 1 rfl ?_
      refine V_if_ne (κ := KL_law) (pc := 1809) (tgt := 1824) dL_law_1809 rfl ?_ ?_
      · refine V_sub (lv' := [(0, (5, 26)), (1, (2, x1)), (2, (2, x2)), (3, (2, x3)), (4, (2, x4)), (5, (0, x5))]) [2, 3, 4, 5, 6, 7] rfl ?_
        exact VBL_law_1824 hS hk28 _ _ _ _ _ _
      refine V_aload_n (κ := KL_law) (pc := 1812) dL_law_1812 5 rfl rfl ?_
      refine V_iconst (κ := KL_law) (pc := 1813) dL_law_1813 ⟨by decide, by decide⟩ ?_
      refine V_laload (κ := KL_law) (pc := 1814) dL_law_1814 fun t463 => ?_
      refine V_iload (κ := KL_law) (pc := 1815) dL_law_1815 0 rfl ?_
      refine V_i2l (κ := KL_law) (pc := 1817) dL_law_1817 ?_
      refine V_lcmp (κ := KL_law) (pc := 1818) dL_law_1818 ?_
      refine V_if_eq (κ := KL_law) (pc := 1819) (tgt := 1824) dL_law_1819 rfl ?_ ?_
      · refine V_sub (lv' := [(0, (5, 26)), (1, (2, x1)), (2, (2, x2)), (3, (2, x3)), (4, (2, x4)), (5, (0, x5))]) [2, 3, 4, 5, 6, 7] rfl ?_
        exact VBL_law_1824 hS hk28 _ _ _ _ _ _
      refine V_iconst (κ := KL_law) (pc := 1822) dL_law_1822 ⟨by decide, by decide⟩ ?_
      exact V_lawret hS rfl (κ := KL_law) (pc := 1823) dL_law_1823
    refine V_iconst (κ := KL_law) (pc := 1805) dL_law_1805 ⟨by decide, by decide⟩ ?_
    exact V_lawret hS rfl (κ := KL_law) (pc := 1806) dL_law_1806
  · refine V_aload_n (κ := KL_law) (pc := 1827) dL_law_1827 1 rfl rfl ?_
    refine V_callV (ci := 6) (T := TX6) (N := 9) rfl (by decide) (κ := KL_law) (pc := 1828) (con_X6_undo _ _) mth_X6_undo rfl ⟨wd_389, wd_390⟩ wd_388 (st0 := []) rfl rfl (by decide) (Nat.le_of_ble_eq_true rfl) dL_law_1828 (fun _ _ _ _ => VX_none) fun t464 u465 => ?_
    refine V_aload_n (κ := KL_law) (pc := 1831) dL_law_1831 2 rfl rfl ?_
    refine V_callV (ci := 7) (T := TX7) (N := 24) rfl (by decide) (κ := KL_law) (pc := 1832) (con_X7_undo _ _) mth_X7_undo rfl ⟨wd_1422, wd_1423⟩ wd_1421 (st0 := [(0, t464)]) rfl rfl (by decide) (Nat.le_of_ble_eq_true rfl) dL_law_1832 (fun _ _ _ _ => VX_none) fun t466 u467 => ?_
    refine V_icmp_eq (κ := KL_law) (pc := 1835) (tgt := 1854) dL_law_1835 rfl ?_ ?_
    · exact VBL_law_1854 hS hk28 _ _ _ _ _ _
    refine V_iconst (κ := KL_law) (pc := 1838) dL_law_1838 ⟨by decide, by decide⟩ ?_
    exact V_lawret hS rfl (κ := KL_law) (pc := 1839) dL_law_1839
  · refine V_aload_n (κ := KL_law) (pc := 1840) dL_law_1840 1 rfl rfl ?_
    refine V_callV (ci := 6) (T := TX6) (N := 9) rfl (by decide) (κ := KL_law) (pc := 1841) (con_X6_checksum _ _) mth_X6_checksum rfl ⟨wd_397, wd_398⟩ wd_396 (st0 := []) rfl rfl (by decide) (Nat.le_of_ble_eq_true rfl) dL_law_1841 (fun _ _ _ _ => VX_none) fun t468 u469 => ?_
    refine V_aload_n (κ := KL_law) (pc := 1844) dL_law_1844 2 rfl rfl ?_
    refine V_callV (ci := 7) (T := TX7) (N := 24) rfl (by decide) (κ := KL_law) (pc := 1845) (con_X7_checksum _ _) mth_X7_checksum rfl ⟨wd_1426, wd_1427⟩ wd_1425 (st0 := [(1, t468)]) rfl rfl (by decide) (Nat.le_of_ble_eq_true rfl) dL_law_1845 (fun _ _ _ _ => VX_none) fun t470 u471 => ?_
    refine V_lcmp (κ := KL_law) (pc := 1848) dL_law_1848 ?_
    refine V_if_eq (κ := KL_law) (pc := 1849) (tgt := 1854) dL_law_1849 rfl ?_ ?_
    · exact VBL_law_1854 hS hk28 _ _ _ _ _ _
    refine V_iconst (κ := KL_law) (pc := 1852) dL_law_1852 ⟨by decide, by decide⟩ ?_
    exact V_lawret hS rfl (κ := KL_law) (pc := 1853) dL_law_1853
theorem VLL_law_28 {Γ : Gam} {sc : Int → Int} {L : Int} (hS : SC Γ sc L) : ∀ (n : Nat) (x1 x2 x3 x4 x5 : Int) (μ : Mem), V Γ KL_law 28 [(0, (5, 26)), (1, (2, x1)), (2, (2, x2)), (3, (2, x3)), (4, (2, x4)), (5, (0, x5))] [] μ (LL_law_28 sc L n x1 x2 x3 x4 x5 μ)
  | 0, _, _, _, _, _, _ => V_none
  | n + 1, x1, x2, x3, x4, x5, μ => VBL_law_28 hS (fun y1 y2 y3 y4 y5 ν => VLL_law_28 hS n y1 y2 y3 y4 y5 ν) x1 x2 x3 x4 x5 μ
theorem VBL_law_0 {Γ : Gam} {sc : Int → Int} {L : Int} (hS : SC Γ sc L) (μ : Mem) : V Γ KL_law 0 [(0, (5, 26))] [] μ (BL_law_0 sc L μ) := by
  unfold BL_law_0
  refine V_new 6 (κ := KL_law) (pc := 0) rfl (by decide) rfl rfl inX6 tyX6 tyX6_ok (by decide) wd_26 wd_27 wd_1 dL_law_0 fun t101 u102 => ?_
  refine V_dup (κ := KL_law) (pc := 3) rfl dL_law_3 ?_
  refine V_callI (ci := 6) (by decide) (κ := KL_law) (pc := 4) (con_X6_init _ _) mth_X6_init rfl wd_29 wd_28 (st0 := [(2, t101)]) rfl rfl (by decide) (Nat.le_of_ble_eq_true rfl) dL_law_4 (fun _ _ _ _ => VX_none) fun _ u104 => ?_
  refine V_astore_n (κ := KL_law) (pc := 7) (lv' := [(1, (2, t101)), (0, (5, 26))]) dL_law_7 rfl (by decide) rfl ?_
  refine V_new 7 (κ := KL_law) (pc := 8) rfl (by decide) rfl rfl inX7 tyX7 tyX7_ok (by decide) wd_976 wd_977 wd_7 dL_law_8 fun t105 u106 => ?_
  refine V_dup (κ := KL_law) (pc := 11) rfl dL_law_11 ?_
  refine V_callI (ci := 7) (by decide) (κ := KL_law) (pc := 12) (con_X7_init _ _) mth_X7_init rfl wd_979 wd_978 (st0 := [(2, t105)]) rfl rfl (by decide) (Nat.le_of_ble_eq_true rfl) dL_law_12 (fun _ _ _ _ => VX_none) fun _ u108 => ?_
  refine V_astore_n (κ := KL_law) (pc := 15) (lv' := [(2, (2, t105)), (1, (2, t101)), (0, (5, 26))]) dL_law_15 rfl (by decide) rfl ?_
  refine V_iconst (κ := KL_law) (pc := 16) dL_law_16 ⟨by decide, by decide⟩ ?_
  refine V_newarray 2 (by decide) (κ := KL_law) (pc := 17) rfl wd_1060 dL_law_17 fun t109 u110 => ?_
  refine V_astore_n (κ := KL_law) (pc := 19) (lv' := [(3, (2, t109)), (2, (2, t105)), (1, (2, t101)), (0, (5, 26))]) dL_law_19 rfl (by decide) rfl ?_
  refine V_iconst (κ := KL_law) (pc := 20) dL_law_20 ⟨by decide, by decide⟩ ?_
  refine V_newarray 3 (by decide) (κ := KL_law) (pc := 21) rfl wd_1433 dL_law_21 fun t111 u112 => ?_
  refine V_astore (κ := KL_law) (pc := 23) (lv' := [(4, (2, t111)), (3, (2, t109)), (2, (2, t105)), (1, (2, t101)), (0, (5, 26))]) dL_law_23 rfl (by decide) rfl ?_
  refine V_iconst (κ := KL_law) (pc := 25) dL_law_25 ⟨by decide, by decide⟩ ?_
  refine V_istore (κ := KL_law) (pc := 26) (lv' := [(5, (0, 0)), (4, (2, t111)), (3, (2, t109)), (2, (2, t105)), (1, (2, t101)), (0, (5, 26))]) dL_law_26 (by decide) rfl ?_
  refine V_sub (lv' := [(0, (5, 26)), (1, (2, t101)), (2, (2, t105)), (3, (2, t109)), (4, (2, t111)), (5, (0, 0))]) [5, 4, 3, 2, 1, 0] rfl ?_
  exact VLL_law_28 hS FU _ _ _ _ _ _
