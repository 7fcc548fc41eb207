/-! the methods of the library over the small memory (written by gen.py) -/
abbrev KJ7_fill_53178 : Kap := (RJ7, cJ7_fill_53178, 4, 1, 9, none, false, [])
theorem VBJ7_fill_53178_5 {Γ : Gam} {k5 : Int → Int → Int → Int → Mem → Rz} (hk5 : ∀ (y0 y1 y2 y3 : Int) (ν : Mem), V Γ KJ7_fill_53178 5 [(0, (2, y0)), (1, (0, y1)), (2, (0, y2)), (3, (0, y3))] [] ν (k5 y0 y1 y2 y3 ν)) (x0 x1 x2 x3 : Int) (μ : Mem) : V Γ KJ7_fill_53178 5 [(0, (2, x0)), (1, (0, x1)), (2, (0, x2)), (3, (0, x3))] [] μ (BJ7_fill_53178_5 k5 x0 x1 x2 x3 μ) := by
  unfold BJ7_fill_53178_5
  refine V_iload_n (κ := KJ7_fill_53178) (pc := 5) dJ7_fill_53178_5 2 rfl ?_
  refine V_iload_n (κ := KJ7_fill_53178) (pc := 6) dJ7_fill_53178_6 3 rfl ?_
  refine V_icmp_ge (κ := KJ7_fill_53178) (pc := 7) (tgt := 20) dJ7_fill_53178_7 rfl ?_ ?_
  · exact V_vreturn (κ := KJ7_fill_53178) (pc := 20) rfl rfl dJ7_fill_53178_20
  refine V_aload_n (κ := KJ7_fill_53178) (pc := 10) dJ7_fill_53178_10 0 rfl rfl ?_
  refine V_iload_n (κ := KJ7_fill_53178) (pc := 11) dJ7_fill_53178_11 2 rfl ?_
  refine V_iload_n (κ := KJ7_fill_53178) (pc := 12) dJ7_fill_53178_12 1 rfl ?_
  refine V_iastore (κ := KJ7_fill_53178) (pc := 13) dJ7_fill_53178_13 fun u101 => ?_
  refine V_iinc (κ := KJ7_fill_53178) (pc := 14) (lv' := [(2, (0, w32 (x2 + 1))), (0, (2, x0)), (1, (0, x1)), (3, (0, x3))]) dJ7_fill_53178_14 2 rfl (by decide) rfl ?_
  refine V_goto (κ := KJ7_fill_53178) (pc := 17) (tgt := 5) dJ7_fill_53178_17 rfl ?_
  refine V_sub (lv' := [(0, (2, x0)), (1, (0, x1)), (2, (0, w32 (x2 + 1))), (3, (0, x3))]) [1, 2, 0, 3] rfl ?_
  exact hk5 _ _ _ _ _
theorem VLJ7_fill_53178_5 {Γ : Gam} : ∀ (n : Nat) (x0 x1 x2 x3 : Int) (μ : Mem), V Γ KJ7_fill_53178 5 [(0, (2, x0)), (1, (0, x1)), (2, (0, x2)), (3, (0, x3))] [] μ (LJ7_fill_53178_5 n x0 x1 x2 x3 μ)
  | 0, _, _, _, _, _ => V_none
  | n + 1, x0, x1, x2, x3, μ => VBJ7_fill_53178_5 (fun y0 y1 y2 y3 ν => VLJ7_fill_53178_5 n y0 y1 y2 y3 ν) x0 x1 x2 x3 μ
theorem VBJ7_fill_53178_0 {Γ : Gam} (x0 x1 : Int) (μ : Mem) : V Γ KJ7_fill_53178 0 [(0, (2, x0)), (1, (0, x1))] [] μ (BJ7_fill_53178_0 x0 x1 μ) := by
  unfold BJ7_fill_53178_0
  refine V_iconst (κ := KJ7_fill_53178) (pc := 0) dJ7_fill_53178_0 ⟨by decide, by decide⟩ ?_
  refine V_istore_n (κ := KJ7_fill_53178) (pc := 1) (lv' := [(2, (0, 0)), (0, (2, x0)), (1, (0, x1))]) dJ7_fill_53178_1 (by decide) rfl ?_
  refine V_aload_n (κ := KJ7_fill_53178) (pc := 2) dJ7_fill_53178_2 1 rfl rfl ?_
  refine V_alen 1 (by decide) (κ := KJ7_fill_53178) (pc := 3) dJ7_fill_53178_3 fun t101 => ?_
  refine V_istore_n (κ := KJ7_fill_53178) (pc := 4) (lv' := [(3, (0, t101)), (2, (0, 0)), (0, (2, x0)), (1, (0, x1))]) dJ7_fill_53178_4 (by decide) rfl ?_
  refine V_sub (lv' := [(0, (2, x0)), (1, (0, x1)), (2, (0, 0)), (3, (0, t101))]) [2, 3, 1, 0] rfl ?_
  exact VLJ7_fill_53178_5 FU _ _ _ _ _
theorem con_J7_fill_53178 (a0 a1 : Int) (μ : Mem) : Con (1) yJ7_fill_53178 (.code yJ7_fill_53178 cJ7_fill_53178 4 none) 9 [(2, a0), (0, a1)] μ (FJ7_fill_53178 a0 a1 μ) := Con_intro KJ7_fill_53178 (plainFor_of_name (by decide)) rfl (fun h => by cases h) (by decide) rfl (Nat.le_of_ble_eq_true rfl) (fun Γ => VBJ7_fill_53178_0 _ _ _)
abbrev KJ6_bitCount_0f7a4 : Kap := (RJ6, cJ6_bitCount_0f7a4, 1, 1, 0, (some .int), false, [])
theorem VBJ6_bitCount_0f7a4_0 {Γ : Gam} (x0 : Int) (μ : Mem) : V Γ KJ6_bitCount_0f7a4 0 [(0, (0, x0))] [] μ (BJ6_bitCount_0f7a4_0 x0 μ) := by
  unfold BJ6_bitCount_0f7a4_0
  refine V_iload_n (κ := KJ6_bitCount_0f7a4) (pc := 0) dJ6_bitCount_0f7a4_0 0 rfl ?_
  refine V_iload_n (κ := KJ6_bitCount_0f7a4) (pc := 1) dJ6_bitCount_0f7a4_1 0 rfl ?_
  refine V_iconst (κ := KJ6_bitCount_0f7a4) (pc := 2) dJ6_bitCount_0f7a4_2 ⟨by decide, by decide⟩ ?_
  refine V_iushr (κ := KJ6_bitCount_0f7a4) (pc := 3) dJ6_bitCount_0f7a4_3 ?_
  refine V_ldcw (κ := KJ6_bitCount_0f7a4) (pc := 4) (z := 1431655765) dJ6_bitCount_0f7a4_4 wd_365 ⟨by decide, by decide⟩ (by decide) ?_
  refine V_iand (κ := KJ6_bitCount_0f7a4) (pc := 7) dJ6_bitCount_0f7a4_7 ?_
  refine V_isub (κ := KJ6_bitCount_0f7a4) (pc := 8) dJ6_bitCount_0f7a4_8 ?_
  refine V_LT fun x101 => ?_
  refine V_istore_n (κ := KJ6_bitCount_0f7a4) (pc := 9) (lv' := [(0, (0, x101))]) dJ6_bitCount_0f7a4_9 (by decide) rfl ?_
  refine V_iload_n (κ := KJ6_bitCount_0f7a4) (pc := 10) dJ6_bitCount_0f7a4_10 0 rfl ?_
  refine V_ldcw (κ := KJ6_bitCount_0f7a4) (pc := 11) (z := 858993459) dJ6_bitCount_0f7a4_11 wd_366 ⟨by decide, by decide⟩ (by decide) ?_
  refine V_iand (κ := KJ6_bitCount_0f7a4) (pc := 14) dJ6_bitCount_0f7a4_14 ?_
  refine V_iload_n (κ := KJ6_bitCount_0f7a4) (pc := 15) dJ6_bitCount_0f7a4_15 0 rfl ?_
  refine V_iconst (κ := KJ6_bitCount_0f7a4) (pc := 16) dJ6_bitCount_0f7a4_16 ⟨by decide, by decide⟩ ?_
  refine V_iushr (κ := KJ6_bitCount_0f7a4) (pc := 17) dJ6_bitCount_0f7a4_17 ?_
  refine V_ldcw (κ := KJ6_bitCount_0f7a4) (pc := 18) (z := 858993459) dJ6_bitCount_0f7a4_18 wd_366 ⟨by decide, by decide⟩ (by decide) ?_
  refine V_iand (κ := KJ6_bitCount_0f7a4) (pc := 21) dJ6_bitCount_0f7a4_21 ?_
  refine V_iadd (κ := KJ6_bitCount_0f7a4) (pc := 22) dJ6_bitCount_0f7a4_22 ?_
  refine V_LT fun x102 => ?_
  refine V_istore_n (κ := KJ6_bitCount_0f7a4) (pc := 23) (lv' := [(0, (0, x102))]) dJ6_bitCount_0f7a4_23 (by decide) rfl ?_
  refine V_iload_n (κ := KJ6_bitCount_0f7a4) (pc := 24) dJ6_bitCount_0f7a4_24 0 rfl ?_
  refine V_iload_n (κ := KJ6_bitCount_0f7a4) (pc := 25) dJ6_bitCount_0f7a4_25 0 rfl ?_
  refine V_iconst (κ := KJ6_bitCount_0f7a4) (pc := 26) dJ6_bitCount_0f7a4_26 ⟨by decide, by decide⟩ ?_
  refine V_iushr (κ := KJ6_bitCount_0f7a4) (pc := 27) dJ6_bitCount_0f7a4_27 ?_
  refine V_iadd (κ := KJ6_bitCount_0f7a4) (pc := 28) dJ6_bitCount_0f7a4_28 ?_
  refine V_ldcw (κ := KJ6_bitCount_0f7a4) (pc := 29) (z := 252645135) dJ6_bitCount_0f7a4_29 wd_367 ⟨by decide, by decide⟩ (by decide) ?_
  refine V_iand (κ := KJ6_bitCount_0f7a4) (pc := 32) dJ6_bitCount_0f7a4_32 ?_
  refine V_LT fun x103 => ?_
  refine V_istore_n (κ := KJ6_bitCount_0f7a4) (pc := 33) (lv' := [(0, (0, x103))]) dJ6_bitCount_0f7a4_33 (by decide) rfl ?_
  refine V_iload_n (κ := KJ6_bitCount_0f7a4) (pc := 34) dJ6_bitCount_0f7a4_34 0 rfl ?_
  refine V_iload_n (κ := KJ6_bitCount_0f7a4) (pc := 35) dJ6_bitCount_0f7a4_35 0 rfl ?_
  refine V_bipush (κ := KJ6_bitCount_0f7a4) (pc := 36) dJ6_bitCount_0f7a4_36 ⟨by decide, by decide⟩ (by decide) ?_
  refine V_iushr (κ := KJ6_bitCount_0f7a4) (pc := 38) dJ6_bitCount_0f7a4_38 ?_
  refine V_iadd (κ := KJ6_bitCount_0f7a4) (pc := 39) dJ6_bitCount_0f7a4_39 ?_
  refine V_LT fun x104 => ?_
  refine V_istore_n (κ := KJ6_bitCount_0f7a4) (pc := 40) (lv' := [(0, (0, x104))]) dJ6_bitCount_0f7a4_40 (by decide) rfl ?_
  refine V_iload_n (κ := KJ6_bitCount_0f7a4) (pc := 41) dJ6_bitCount_0f7a4_41 0 rfl ?_
  refine V_iload_n (κ := KJ6_bitCount_0f7a4) (pc := 42) dJ6_bitCount_0f7a4_42 0 rfl ?_
  refine V_bipush (κ := KJ6_bitCount_0f7a4) (pc := 43) dJ6_bitCount_0f7a4_43 ⟨by decide, by decide⟩ (by decide) ?_
  refine V_iushr (κ := KJ6_bitCount_0f7a4) (pc := 45) dJ6_bitCount_0f7a4_45 ?_
  refine V_iadd (κ := KJ6_bitCount_0f7a4) (pc := 46) dJ6_bitCount_0f7a4_46 ?_
  refine V_LT fun x105 => ?_
  refine V_istore_n (κ := KJ6_bitCount_0f7a4) (pc := 47) (lv' := [(0, (0, x105))]) dJ6_bitCount_0f7a4_47 (by decide) rfl ?_
  refine V_iload_n (κ := KJ6_bitCount_0f7a4) (pc := 48) dJ6_bitCount_0f7a4_48 0 rfl ?_
  refine V_bipush (κ := KJ6_bitCount_0f7a4) (pc := 49) dJ6_bitCount_0f7a4_49 ⟨by decide, by decide⟩ (by decide) ?_
  refine V_iand (κ := KJ6_bitCount_0f7a4) (pc := 51) dJ6_bitCount_0f7a4_51 ?_
  exact V_ireturn (κ := KJ6_bitCount_0f7a4) (pc := 52) rfl rfl dJ6_bitCount_0f7a4_52
theorem con_J6_bitCount_0f7a4 (a0 : Int) (μ : Mem) : Con (1) yJ6_bitCount_0f7a4 (.code yJ6_bitCount_0f7a4 cJ6_bitCount_0f7a4 1 (some .int)) 0 [(0, a0)] μ (FJ6_bitCount_0f7a4 a0 μ) := Con_intro KJ6_bitCount_0f7a4 (plainFor_of_name (by decide)) rfl (fun h => by cases h) (by decide) rfl (Nat.le_of_ble_eq_true rfl) (fun Γ => VBJ6_bitCount_0f7a4_0 _ _)
abbrev KJ9_abs_0f7a4 : Kap := (RJ9, cJ9_abs_0f7a4, 1, 1, 0, (some .int), false, [])
theorem VBJ9_abs_0f7a4_10 {Γ : Gam} (s0 : Int) (μ : Mem) : V Γ KJ9_abs_0f7a4 10 [] [(0, s0)] μ (BJ9_abs_0f7a4_10 s0 μ) := by
  unfold BJ9_abs_0f7a4_10
  exact V_ireturn (κ := KJ9_abs_0f7a4) (pc := 10) rfl rfl dJ9_abs_0f7a4_10
theorem VBJ9_abs_0f7a4_0 {Γ : Gam} (x0 : Int) (μ : Mem) : V Γ KJ9_abs_0f7a4 0 [(0, (0, x0))] [] μ (BJ9_abs_0f7a4_0 x0 μ) := by
  unfold BJ9_abs_0f7a4_0
  refine V_iload_n (κ := KJ9_abs_0f7a4) (pc := 0) dJ9_abs_0f7a4_0 0 rfl ?_
  refine V_if_ge (κ := KJ9_abs_0f7a4) (pc := 1) (tgt := 9) dJ9_abs_0f7a4_1 rfl ?_ ?_
  · refine V_iload_n (κ := KJ9_abs_0f7a4) (pc := 9) dJ9_abs_0f7a4_9 0 rfl ?_
    refine V_sub (lv' := []) [] rfl ?_
    exact VBJ9_abs_0f7a4_10 _ _
  refine V_iload_n (κ := KJ9_abs_0f7a4) (pc := 4) dJ9_abs_0f7a4_4 0 rfl ?_
  refine V_ineg (κ := KJ9_abs_0f7a4) (pc := 5) dJ9_abs_0f7a4_5 ?_
  refine V_goto (κ := KJ9_abs_0f7a4) (pc := 6) (tgt := 10) dJ9_abs_0f7a4_6 rfl ?_
  refine V_sub (lv' := []) [] rfl ?_
  exact VBJ9_abs_0f7a4_10 _ _
theorem con_J9_abs_0f7a4 (a0 : Int) (μ : Mem) : Con (1) yJ9_abs_0f7a4 (.code yJ9_abs_0f7a4 cJ9_abs_0f7a4 1 (some .int)) 0 [(0, a0)] μ (FJ9_abs_0f7a4 a0 μ) := Con_intro KJ9_abs_0f7a4 (Jvm.Free.JP.mathPlain rfl (by decide +kernel)) rfl (fun h => by cases h) (by decide) rfl (Nat.le_of_ble_eq_true rfl) (fun Γ => VBJ9_abs_0f7a4_0 _ _)
abbrev KJ9_max_7cf53 : Kap := (RJ9, cJ9_max_7cf53, 2, 1, 0, (some .int), false, [])
theorem VBJ9_max_7cf53_10 {Γ : Gam} (s0 : Int) (μ : Mem) : V Γ KJ9_max_7cf53 10 [] [(0, s0)] μ (BJ9_max_7cf53_10 s0 μ) := by
  unfold BJ9_max_7cf53_10
  exact V_ireturn (κ := KJ9_max_7cf53) (pc := 10) rfl rfl dJ9_max_7cf53_10
theorem VBJ9_max_7cf53_0 {Γ : Gam} (x0 x1 : Int) (μ : Mem) : V Γ KJ9_max_7cf53 0 [(0, (0, x0)), (1, (0, x1))] [] μ (BJ9_max_7cf53_0 x0 x1 μ) := by
  unfold BJ9_max_7cf53_0
  refine V_iload_n (κ := KJ9_max_7cf53) (pc := 0) dJ9_max_7cf53_0 0 rfl ?_
  refine V_iload_n (κ := KJ9_max_7cf53) (pc := 1) dJ9_max_7cf53_1 1 rfl ?_
  refine V_icmp_lt (κ := KJ9_max_7cf53) (pc := 2) (tgt := 9) dJ9_max_7cf53_2 rfl ?_ ?_
  · refine V_iload_n (κ := KJ9_max_7cf53) (pc := 9) dJ9_max_7cf53_9 1 rfl ?_
    refine V_sub (lv' := []) [] rfl ?_
    exact VBJ9_max_7cf53_10 _ _
  refine V_iload_n (κ := KJ9_max_7cf53) (pc := 5) dJ9_max_7cf53_5 0 rfl ?_
  refine V_goto (κ := KJ9_max_7cf53) (pc := 6) (tgt := 10) dJ9_max_7cf53_6 rfl ?_
  refine V_sub (lv' := []) [] rfl ?_
  exact VBJ9_max_7cf53_10 _ _
theorem con_J9_max_7cf53 (a0 a1 : Int) (μ : Mem) : Con (1) yJ9_max_7cf53 (.code yJ9_max_7cf53 cJ9_max_7cf53 2 (some .int)) 0 [(0, a0), (0, a1)] μ (FJ9_max_7cf53 a0 a1 μ) := Con_intro KJ9_max_7cf53 (Jvm.Free.JP.mathPlain rfl (by decide +kernel)) rfl (fun h => by cases h) (by decide) rfl (Nat.le_of_ble_eq_true rfl) (fun Γ => VBJ9_max_7cf53_0 _ _ _)
abbrev KJ9_floorMod_7cf53 : Kap := (RJ9, cJ9_floorMod_7cf53, 3, 1, 0, (some .int), false, [])
theorem VBJ9_floorMod_7cf53_18 {Γ : Gam} (x2 : Int) (μ : Mem) : V Γ KJ9_floorMod_7cf53 18 [(2, (0, x2))] [] μ (BJ9_floorMod_7cf53_18 x2 μ) := by
  unfold BJ9_floorMod_7cf53_18
  refine V_iload_n (κ := KJ9_floorMod_7cf53) (pc := 18) dJ9_floorMod_7cf53_18 0 rfl ?_
  exact V_ireturn (κ := KJ9_floorMod_7cf53) (pc := 19) rfl rfl dJ9_floorMod_7cf53_19
theorem VBJ9_floorMod_7cf53_0 {Γ : Gam} (x0 x1 : Int) (μ : Mem) : V Γ KJ9_floorMod_7cf53 0 [(0, (0, x0)), (1, (0, x1))] [] μ (BJ9_floorMod_7cf53_0 x0 x1 μ) := by
  unfold BJ9_floorMod_7cf53_0
  refine V_iload_n (κ := KJ9_floorMod_7cf53) (pc := 0) dJ9_floorMod_7cf53_0 0 rfl ?_
  refine V_iload_n (κ := KJ9_floorMod_7cf53) (pc := 1) dJ9_floorMod_7cf53_1 1 rfl ?_
  refine V_irem (κ := KJ9_floorMod_7cf53) (pc := 2) dJ9_floorMod_7cf53_2 fun t101 => ?_
  refine V_istore_n (κ := KJ9_floorMod_7cf53) (pc := 3) (lv' := [(2, (0, t101)), (0, (0, x0)), (1, (0, x1))]) dJ9_floorMod_7cf53_3 (by decide) rfl ?_
  refine V_iload_n (κ := KJ9_floorMod_7cf53) (pc := 4) dJ9_floorMod_7cf53_4 1 rfl ?_
  refine V_iload_n (κ := KJ9_floorMod_7cf53) (pc := 5) dJ9_floorMod_7cf53_5 2 rfl ?_
  refine V_ixor (κ := KJ9_floorMod_7cf53) (pc := 6) dJ9_floorMod_7cf53_6 ?_
  refine V_if_ge (κ := KJ9_floorMod_7cf53) (pc := 7) (tgt := 18) dJ9_floorMod_7cf53_7 rfl ?_ ?_
  · refine V_sub (lv' := [(2, (0, t101))]) [0] rfl ?_
    exact VBJ9_floorMod_7cf53_18 _ _
  refine V_iload_n (κ := KJ9_floorMod_7cf53) (pc := 10) dJ9_floorMod_7cf53_10 0 rfl ?_
  refine V_if_eq (κ := KJ9_floorMod_7cf53) (pc := 11) (tgt := 18) dJ9_floorMod_7cf53_11 rfl ?_ ?_
  · refine V_sub (lv' := [(2, (0, t101))]) [0] rfl ?_
    exact VBJ9_floorMod_7cf53_18 _ _
  refine V_iload_n (κ := KJ9_floorMod_7cf53) (pc := 14) dJ9_floorMod_7cf53_14 0 rfl ?_
  refine V_iload_n (κ := KJ9_floorMod_7cf53) (pc := 15) dJ9_floorMod_7cf53_15 2 rfl ?_
  refine V_iadd (κ := KJ9_floorMod_7cf53) (pc := 16) dJ9_floorMod_7cf53_16 ?_
  exact V_ireturn (κ := KJ9_floorMod_7cf53) (pc := 17) rfl rfl dJ9_floorMod_7cf53_17
theorem con_J9_floorMod_7cf53 (a0 a1 : Int) (μ : Mem) : Con (1) yJ9_floorMod_7cf53 (.code yJ9_floorMod_7cf53 cJ9_floorMod_7cf53 3 (some .int)) 0 [(0, a0), (0, a1)] μ (FJ9_floorMod_7cf53 a0 a1 μ) := Con_intro KJ9_floorMod_7cf53 (Jvm.Free.JP.mathPlain rfl (by decide +kernel)) rfl (fun h => by cases h) (by decide) rfl (Nat.le_of_ble_eq_true rfl) (fun Γ => VBJ9_floorMod_7cf53_0 _ _ _)
abbrev KJ9_max_f86c9 : Kap := (RJ9, cJ9_max_f86c9, 4, 1, 1, (some .long), false, [])
theorem VBJ9_max_f86c9_11 {Γ : Gam} (s0 : Int) (μ : Mem) : V Γ KJ9_max_f86c9 11 [] [(1, s0)] μ (BJ9_max_f86c9_11 s0 μ) := by
  unfold BJ9_max_f86c9_11
  exact V_lreturn (κ := KJ9_max_f86c9) (pc := 11) rfl rfl dJ9_max_f86c9_11
theorem VBJ9_max_f86c9_0 {Γ : Gam} (x0 x2 : Int) (μ : Mem) : V Γ KJ9_max_f86c9 0 [(0, (1, x0)), (2, (1, x2))] [] μ (BJ9_max_f86c9_0 x0 x2 μ) := by
  unfold BJ9_max_f86c9_0
  refine V_lload_n (κ := KJ9_max_f86c9) (pc := 0) dJ9_max_f86c9_0 0 rfl ?_
  refine V_lload_n (κ := KJ9_max_f86c9) (pc := 1) dJ9_max_f86c9_1 1 rfl ?_
  refine V_lcmp (κ := KJ9_max_f86c9) (pc := 2) dJ9_max_f86c9_2 ?_
  refine V_if_lt (κ := KJ9_max_f86c9) (pc := 3) (tgt := 10) dJ9_max_f86c9_3 rfl ?_ ?_
  · refine V_lload_n (κ := KJ9_max_f86c9) (pc := 10) dJ9_max_f86c9_10 1 rfl ?_
    refine V_sub (lv' := []) [] rfl ?_
    exact VBJ9_max_f86c9_11 _ _
  refine V_lload_n (κ := KJ9_max_f86c9) (pc := 6) dJ9_max_f86c9_6 0 rfl ?_
  refine V_goto (κ := KJ9_max_f86c9) (pc := 7) (tgt := 11) dJ9_max_f86c9_7 rfl ?_
  refine V_sub (lv' := []) [] rfl ?_
  exact VBJ9_max_f86c9_11 _ _
theorem con_J9_max_f86c9 (a0 a2 : Int) (μ : Mem) : Con (1) yJ9_max_f86c9 (.code yJ9_max_f86c9 cJ9_max_f86c9 4 (some .long)) 1 [(1, a0), (1, a2)] μ (FJ9_max_f86c9 a0 a2 μ) := Con_intro KJ9_max_f86c9 (Jvm.Free.JP.mathPlain rfl (by decide +kernel)) rfl (fun h => by cases h) (by decide) rfl (Nat.le_of_ble_eq_true rfl) (fun Γ => VBJ9_max_f86c9_0 _ _ _)
abbrev KJ9_min_f86c9 : Kap := (RJ9, cJ9_min_f86c9, 4, 1, 1, (some .long), false, [])
theorem VBJ9_min_f86c9_11 {Γ : Gam} (s0 : Int) (μ : Mem) : V Γ KJ9_min_f86c9 11 [] [(1, s0)] μ (BJ9_min_f86c9_11 s0 μ) := by
  unfold BJ9_min_f86c9_11
  exact V_lreturn (κ := KJ9_min_f86c9) (pc := 11) rfl rfl dJ9_min_f86c9_11
theorem VBJ9_min_f86c9_0 {Γ : Gam} (x0 x2 : Int) (μ : Mem) : V Γ KJ9_min_f86c9 0 [(0, (1, x0)), (2, (1, x2))] [] μ (BJ9_min_f86c9_0 x0 x2 μ) := by
  unfold BJ9_min_f86c9_0
  refine V_lload_n (κ := KJ9_min_f86c9) (pc := 0) dJ9_min_f86c9_0 0 rfl ?_
  refine V_lload_n (κ := KJ9_min_f86c9) (pc := 1) dJ9_min_f86c9_1 1 rfl ?_
  refine V_lcmp (κ := KJ9_min_f86c9) (pc := 2) dJ9_min_f86c9_2 ?_
  refine V_if_gt (κ := KJ9_min_f86c9) (pc := 3) (tgt := 10) dJ9_min_f86c9_3 rfl ?_ ?_
  · refine V_lload_n (κ := KJ9_min_f86c9) (pc := 10) dJ9_min_f86c9_10 1 rfl ?_
    refine V_sub (lv' := []) [] rfl ?_
    exact VBJ9_min_f86c9_11 _ _
  refine V_lload_n (κ := KJ9_min_f86c9) (pc := 6) dJ9_min_f86c9_6 0 rfl ?_
  refine V_goto (κ := KJ9_min_f86c9) (pc := 7) (tgt := 11) dJ9_min_f86c9_7 rfl ?_
  refine V_sub (lv' := []) [] rfl ?_
  exact VBJ9_min_f86c9_11 _ _
theorem con_J9_min_f86c9 (a0 a2 : Int) (μ : Mem) : Con (1) yJ9_min_f86c9 (.code yJ9_min_f86c9 cJ9_min_f86c9 4 (some .long)) 1 [(1, a0), (1, a2)] μ (FJ9_min_f86c9 a0 a2 μ) := Con_intro KJ9_min_f86c9 (Jvm.Free.JP.mathPlain rfl (by decide +kernel)) rfl (fun h => by cases h) (by decide) rfl (Nat.le_of_ble_eq_true rfl) (fun Γ => VBJ9_min_f86c9_0 _ _ _)
abbrev KJ9_min_7cf53 : Kap := (RJ9, cJ9_min_7cf53, 2, 1, 0, (some .int), false, [])
theorem VBJ9_min_7cf53_10 {Γ : Gam} (s0 : Int) (μ : Mem) : V Γ KJ9_min_7cf53 10 [] [(0, s0)] μ (BJ9_min_7cf53_10 s0 μ) := by
  unfold BJ9_min_7cf53_10
  exact V_ireturn (κ := KJ9_min_7cf53) (pc := 10) rfl rfl dJ9_min_7cf53_10
theorem VBJ9_min_7cf53_0 {Γ : Gam} (x0 x1 : Int) (μ : Mem) : V Γ KJ9_min_7cf53 0 [(0, (0, x0)), (1, (0, x1))] [] μ (BJ9_min_7cf53_0 x0 x1 μ) := by
  unfold BJ9_min_7cf53_0
  refine V_iload_n (κ := KJ9_min_7cf53) (pc := 0) dJ9_min_7cf53_0 0 rfl ?_
  refine V_iload_n (κ := KJ9_min_7cf53) (pc := 1) dJ9_min_7cf53_1 1 rfl ?_
  refine V_icmp_gt (κ := KJ9_min_7cf53) (pc := 2) (tgt := 9) dJ9_min_7cf53_2 rfl ?_ ?_
  · refine V_iload_n (κ := KJ9_min_7cf53) (pc := 9) dJ9_min_7cf53_9 1 rfl ?_
    refine V_sub (lv' := []) [] rfl ?_
    exact VBJ9_min_7cf53_10 _ _
  refine V_iload_n (κ := KJ9_min_7cf53) (pc := 5) dJ9_min_7cf53_5 0 rfl ?_
  refine V_goto (κ := KJ9_min_7cf53) (pc := 6) (tgt := 10) dJ9_min_7cf53_6 rfl ?_
  refine V_sub (lv' := []) [] rfl ?_
  exact VBJ9_min_7cf53_10 _ _
theorem con_J9_min_7cf53 (a0 a1 : Int) (μ : Mem) : Con (1) yJ9_min_7cf53 (.code yJ9_min_7cf53 cJ9_min_7cf53 2 (some .int)) 0 [(0, a0), (0, a1)] μ (FJ9_min_7cf53 a0 a1 μ) := Con_intro KJ9_min_7cf53 (Jvm.Free.JP.mathPlain rfl (by decide +kernel)) rfl (fun h => by cases h) (by decide) rfl (Nat.le_of_ble_eq_true rfl) (fun Γ => VBJ9_min_7cf53_0 _ _ _)
abbrev KJ7_copyOf_59c91 : Kap := (RJ7, cJ7_copyOf_59c91, 3, 2, 2, (some (.array .int)), false, [])
theorem VBJ7_copyOf_59c91_0 {Γ : Gam} (x0 x1 : Int) (μ : Mem) : V Γ KJ7_copyOf_59c91 0 [(0, (2, x0)), (1, (0, x1))] [] μ (BJ7_copyOf_59c91_0 x0 x1 μ) := by
  unfold BJ7_copyOf_59c91_0
  refine V_iload_n (κ := KJ7_copyOf_59c91) (pc := 0) dJ7_copyOf_59c91_0 1 rfl ?_
  refine V_aload_n (κ := KJ7_copyOf_59c91) (pc := 1) dJ7_copyOf_59c91_1 0 rfl rfl ?_
  refine V_alen 1 (by decide) (κ := KJ7_copyOf_59c91) (pc := 2) dJ7_copyOf_59c91_2 fun t101 => ?_
  refine V_icmp_ne (κ := KJ7_copyOf_59c91) (pc := 3) (tgt := 14) dJ7_copyOf_59c91_3 rfl ?_ ?_
  · refine V_iload_n (κ := KJ7_copyOf_59c91) (pc := 14) dJ7_copyOf_59c91_14 1 rfl ?_
    refine V_newarray 1 (by decide) (κ := KJ7_copyOf_59c91) (pc := 15) rfl wd_68 dJ7_copyOf_59c91_15 fun t102 u103 => ?_
    refine V_astore_n (κ := KJ7_copyOf_59c91) (pc := 17) (lv' := [(2, (2, t102)), (0, (2, x0)), (1, (0, x1))]) dJ7_copyOf_59c91_17 rfl (by decide) rfl ?_
    refine V_aload_n (κ := KJ7_copyOf_59c91) (pc := 18) dJ7_copyOf_59c91_18 1 rfl rfl ?_
    refine V_iconst (κ := KJ7_copyOf_59c91) (pc := 19) dJ7_copyOf_59c91_19 ⟨by decide, by decide⟩ ?_
    refine V_aload_n (κ := KJ7_copyOf_59c91) (pc := 20) dJ7_copyOf_59c91_20 0 rfl rfl ?_
    refine V_iconst (κ := KJ7_copyOf_59c91) (pc := 21) dJ7_copyOf_59c91_21 ⟨by decide, by decide⟩ ?_
    refine V_aload_n (κ := KJ7_copyOf_59c91) (pc := 22) dJ7_copyOf_59c91_22 1 rfl rfl ?_
    refine V_alen 1 (by decide) (κ := KJ7_copyOf_59c91) (pc := 23) dJ7_copyOf_59c91_23 fun t104 => ?_
    refine V_iload_n (κ := KJ7_copyOf_59c91) (pc := 24) dJ7_copyOf_59c91_24 2 rfl ?_
    refine V_callS (κ := KJ7_copyOf_59c91) (pc := 25) (con_J9_min_7cf53 _ _ _) mth_J9_min_7cf53 wd_386 wd_719 (st0 := [(0, 0), (2, t102), (0, 0), (2, x0)]) rfl rfl (by decide) (Nat.le_of_ble_eq_true rfl) dJ7_copyOf_59c91_25 (fun _ _ _ h => VX_out rfl (by decide) h) fun t105 u106 => ?_
    refine V_acopy (κ := KJ7_copyOf_59c91) (pc := 28) (by decide) wd_720 wd_722 wd_721 wd_19 (by first | decide | (simp [nativeFrameWords, catA]; done) | exact Nat.le_of_ble_eq_true rfl) dJ7_copyOf_59c91_28 fun u107 => ?_
    refine V_aload_n (κ := KJ7_copyOf_59c91) (pc := 31) dJ7_copyOf_59c91_31 0 rfl rfl ?_
    exact V_areturn (κ := KJ7_copyOf_59c91) (pc := 32) rfl rfl (by first | exact Or.inl ⟨_, rfl⟩ | exact Or.inr ⟨_, rfl⟩) dJ7_copyOf_59c91_32
  refine V_aload_n (κ := KJ7_copyOf_59c91) (pc := 6) dJ7_copyOf_59c91_6 0 rfl rfl ?_
  exact V_none
theorem con_J7_copyOf_59c91 (a0 a1 : Int) (μ : Mem) : Con (2) yJ7_copyOf_59c91 (.code yJ7_copyOf_59c91 cJ7_copyOf_59c91 3 (some (.array .int))) 2 [(2, a0), (0, a1)] μ (FJ7_copyOf_59c91 a0 a1 μ) := Con_intro KJ7_copyOf_59c91 (plainFor_of_name (by decide)) rfl (fun h => by cases h) (by decide) rfl (Nat.le_of_ble_eq_true rfl) (fun Γ => VBJ7_copyOf_59c91_0 _ _ _)
