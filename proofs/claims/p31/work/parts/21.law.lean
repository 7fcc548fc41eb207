/-! the methods of the law over the small memory (written by gen.py) -/
section WALKS
variable {Γ : Gam}
abbrev KL_bound : Kap := (RL, cL_bound, 2, 4, 0, (some .int), false, [])
theorem VBL_bound_0 {Γ : Gam} (x0 x1 : Int) (μ : Mem) : V Γ KL_bound 0 [(0, (0, x0)), (1, (0, x1))] [] μ (BL_bound_0 x0 x1 μ) := by
  unfold BL_bound_0
  refine V_iload_n (κ := KL_bound) (pc := 0) dL_bound_0 0 rfl ?_
  refine V_ldc (κ := KL_bound) (pc := 1) (z := 2147483647) dL_bound_1 wd_709 ⟨by decide, by decide⟩ (by decide) ?_
  refine V_iand (κ := KL_bound) (pc := 3) dL_bound_3 ?_
  refine V_iload_n (κ := KL_bound) (pc := 4) dL_bound_4 1 rfl ?_
  refine V_irem (κ := KL_bound) (pc := 5) dL_bound_5 fun t101 => ?_
  exact V_ireturn (κ := KL_bound) (pc := 6) rfl rfl dL_bound_6
theorem con_L_bound (a0 a1 : Int) (μ : Mem) : Con (4) yL_bound (.code yL_bound cL_bound 2 (some .int)) 0 [(0, a0), (0, a1)] μ (FL_bound a0 a1 μ) := Con_intro KL_bound (plainFor_of_name (by decide)) rfl (fun h => by cases h) (by decide) rfl (Nat.le_of_ble_eq_true rfl) (fun Γ => VBL_bound_0 _ _ _)
abbrev KL_cell : Kap := (RL, cL_cell, 2, 4, 0, (some .int), false, [])
theorem VBL_cell_13 {Γ : Gam} (s0 : Int) (μ : Mem) : V Γ KL_cell 13 [] [(0, s0)] μ (BL_cell_13 s0 μ) := by
  unfold BL_cell_13
  exact V_ireturn (κ := KL_cell) (pc := 13) rfl rfl dL_cell_13
theorem VBL_cell_0 {Γ : Gam} (x0 x1 : Int) (μ : Mem) : V Γ KL_cell 0 [(0, (2, x0)), (1, (0, x1))] [] μ (BL_cell_0 x0 x1 μ) := by
  unfold BL_cell_0
  refine V_iload_n (κ := KL_cell) (pc := 0) dL_cell_0 1 rfl ?_
  refine V_aload_n (κ := KL_cell) (pc := 1) dL_cell_1 0 rfl rfl ?_
  refine V_alen 1 (by decide) (κ := KL_cell) (pc := 2) dL_cell_2 fun t101 => ?_
  refine V_icmp_ge (κ := KL_cell) (pc := 3) (tgt := 12) dL_cell_3 rfl ?_ ?_
  · refine V_iconst (κ := KL_cell) (pc := 12) dL_cell_12 ⟨by decide, by decide⟩ ?_
    refine V_sub (lv' := []) [] rfl ?_
    exact VBL_cell_13 _ _
  refine V_aload_n (κ := KL_cell) (pc := 6) dL_cell_6 0 rfl rfl ?_
  refine V_iload_n (κ := KL_cell) (pc := 7) dL_cell_7 1 rfl ?_
  refine V_iaload (κ := KL_cell) (pc := 8) dL_cell_8 fun t102 => ?_
  refine V_goto (κ := KL_cell) (pc := 9) (tgt := 13) dL_cell_9 rfl ?_
  refine V_sub (lv' := []) [] rfl ?_
  exact VBL_cell_13 _ _
theorem con_L_cell (a0 a1 : Int) (μ : Mem) : Con (4) yL_cell (.code yL_cell cL_cell 2 (some .int)) 0 [(2, a0), (0, a1)] μ (FL_cell a0 a1 μ) := Con_intro KL_cell (plainFor_of_name (by decide)) rfl (fun h => by cases h) (by decide) rfl (Nat.le_of_ble_eq_true rfl) (fun Γ => VBL_cell_0 _ _ _)
abbrev KL_isPrinted : Kap := (RL, cL_isPrinted, 13, 11, 0, (some .boolean), false, [])
theorem VBL_isPrinted_308 {Γ : Gam} (s0 : Int) (μ : Mem) : V Γ KL_isPrinted 308 [] [(0, s0)] μ (BL_isPrinted_308 s0 μ) := by
  unfold BL_isPrinted_308
  exact V_zreturn (κ := KL_isPrinted) (pc := 308) rfl rfl dL_isPrinted_308
theorem VBL_isPrinted_269 {Γ : Gam} (μ : Mem) : V Γ KL_isPrinted 269 [] [] μ (BL_isPrinted_269 μ) := by
  unfold BL_isPrinted_269
  refine V_iconst (κ := KL_isPrinted) (pc := 269) dL_isPrinted_269 ⟨by decide, by decide⟩ ?_
  exact V_zreturn (κ := KL_isPrinted) (pc := 270) rfl rfl dL_isPrinted_270
theorem VBL_isPrinted_230 {Γ : Gam} (μ : Mem) : V Γ KL_isPrinted 230 [] [] μ (BL_isPrinted_230 μ) := by
  unfold BL_isPrinted_230
  refine V_iconst (κ := KL_isPrinted) (pc := 230) dL_isPrinted_230 ⟨by decide, by decide⟩ ?_
  exact V_zreturn (κ := KL_isPrinted) (pc := 231) rfl rfl dL_isPrinted_231
theorem VBL_isPrinted_227 {Γ : Gam} {k6 : Int → Int → Int → Int → Int → Int → Mem → Rz} (hk6 : ∀ (y0 y1 y2 y3 y4 y5 : Int) (ν : Mem), V Γ KL_isPrinted 6 [(0, (2, y0)), (1, (2, y1)), (2, (2, y2)), (3, (0, y3)), (4, (0, y4)), (5, (0, y5))] [] ν (k6 y0 y1 y2 y3 y4 y5 ν)) {k16 : Int → Int → Int → Int → Int → Int → Int → Mem → Rz} (hk16 : ∀ (y0 y1 y2 y3 y4 y5 y6 : Int) (ν : Mem), V Γ KL_isPrinted 16 [(0, (2, y0)), (1, (2, y1)), (2, (2, y2)), (3, (0, y3)), (4, (0, y4)), (5, (0, y5)), (6, (0, y6))] [] ν (k16 y0 y1 y2 y3 y4 y5 y6 ν)) {k32 : Int → Int → Int → Int → Int → Int → Int → Int → Int → Mem → Rz} (hk32 : ∀ (y0 y1 y2 y3 y4 y5 y6 y7 y8 : Int) (ν : Mem), V Γ KL_isPrinted 32 [(0, (2, y0)), (1, (2, y1)), (2, (2, y2)), (3, (0, y3)), (4, (0, y4)), (5, (0, y5)), (6, (0, y6)), (7, (0, y7)), (8, (0, y8))] [] ν (k32 y0 y1 y2 y3 y4 y5 y6 y7 y8 ν)) (x0 x1 x2 x3 x4 x5 x6 x7 x8 s0 s1 : Int) (μ : Mem) : V Γ KL_isPrinted 227 [(0, (2, x0)), (1, (2, x1)), (2, (2, x2)), (3, (0, x3)), (4, (0, x4)), (5, (0, x5)), (6, (0, x6)), (7, (0, x7)), (8, (0, x8))] [(0, s0), (0, s1)] μ (BL_isPrinted_227 k6 k16 k32 x0 x1 x2 x3 x4 x5 x6 x7 x8 s0 s1 μ) := by
  unfold BL_isPrinted_227
  refine V_icmp_eq (κ := KL_isPrinted) (pc := 227) (tgt := 232) dL_isPrinted_227 rfl ?_ ?_
  · refine V_iinc (κ := KL_isPrinted) (pc := 232) (lv' := [(8, (0, w32 (x8 + 1))), (0, (2, x0)), (1, (2, x1)), (2, (2, x2)), (3, (0, x3)), (4, (0, x4)), (5, (0, x5)), (6, (0, x6)), (7, (0, x7))]) dL_isPrinted_232 8 rfl (by decide) rfl ?_
    refine V_goto (κ := KL_isPrinted) (pc := 235) (tgt := 32) dL_isPrinted_235 rfl ?_
    refine V_sub (lv' := [(0, (2, x0)), (1, (2, x1)), (2, (2, x2)), (3, (0, x3)), (4, (0, x4)), (5, (0, x5)), (6, (0, x6)), (7, (0, x7)), (8, (0, w32 (x8 + 1)))]) [1, 2, 3, 4, 5, 6, 7, 8, 0] rfl ?_
    exact hk32 _ _ _ _ _ _ _ _ _ _
  refine V_sub (lv' := []) [] rfl ?_
  exact VBL_isPrinted_230 _
theorem VBL_isPrinted_193 {Γ : Gam} {k6 : Int → Int → Int → Int → Int → Int → Mem → Rz} (hk6 : ∀ (y0 y1 y2 y3 y4 y5 : Int) (ν : Mem), V Γ KL_isPrinted 6 [(0, (2, y0)), (1, (2, y1)), (2, (2, y2)), (3, (0, y3)), (4, (0, y4)), (5, (0, y5))] [] ν (k6 y0 y1 y2 y3 y4 y5 ν)) {k16 : Int → Int → Int → Int → Int → Int → Int → Mem → Rz} (hk16 : ∀ (y0 y1 y2 y3 y4 y5 y6 : Int) (ν : Mem), V Γ KL_isPrinted 16 [(0, (2, y0)), (1, (2, y1)), (2, (2, y2)), (3, (0, y3)), (4, (0, y4)), (5, (0, y5)), (6, (0, y6))] [] ν (k16 y0 y1 y2 y3 y4 y5 y6 ν)) {k32 : Int → Int → Int → Int → Int → Int → Int → Int → Int → Mem → Rz} (hk32 : ∀ (y0 y1 y2 y3 y4 y5 y6 y7 y8 : Int) (ν : Mem), V Γ KL_isPrinted 32 [(0, (2, y0)), (1, (2, y1)), (2, (2, y2)), (3, (0, y3)), (4, (0, y4)), (5, (0, y5)), (6, (0, y6)), (7, (0, y7)), (8, (0, y8))] [] ν (k32 y0 y1 y2 y3 y4 y5 y6 y7 y8 ν)) (x0 x1 x2 x3 x4 x5 x6 x7 x8 x11 x12 s0 : Int) (μ : Mem) : V Γ KL_isPrinted 193 [(0, (2, x0)), (1, (2, x1)), (2, (2, x2)), (3, (0, x3)), (4, (0, x4)), (5, (0, x5)), (6, (0, x6)), (7, (0, x7)), (8, (0, x8)), (11, (0, x11)), (12, (0, x12))] [(0, s0)] μ (BL_isPrinted_193 k6 k16 k32 x0 x1 x2 x3 x4 x5 x6 x7 x8 x11 x12 s0 μ) := by
  unfold BL_isPrinted_193
  refine V_iload (κ := KL_isPrinted) (pc := 193) dL_isPrinted_193 10 rfl ?_
  refine V_icmp_ne (κ := KL_isPrinted) (pc := 195) (tgt := 230) dL_isPrinted_195 rfl ?_ ?_
  · refine V_sub (lv' := []) [] rfl ?_
    exact VBL_isPrinted_230 _
  refine V_aload_n (κ := KL_isPrinted) (pc := 198) dL_isPrinted_198 0 rfl rfl ?_
  refine V_iload (κ := KL_isPrinted) (pc := 199) dL_isPrinted_199 8 rfl ?_
  refine V_iload (κ := KL_isPrinted) (pc := 201) dL_isPrinted_201 6 rfl ?_
  refine V_iload (κ := KL_isPrinted) (pc := 203) dL_isPrinted_203 5 rfl ?_
  refine V_callV (ci := 6) (T := TX6) (N := 9) rfl (by decide) (κ := KL_isPrinted) (pc := 205) (con_X6_why _ _ _ _ _) mth_X6_why rfl ⟨wd_960, wd_961⟩ wd_959 (st0 := []) rfl rfl (by decide) (Nat.le_of_ble_eq_true rfl) dL_isPrinted_205 (fun _ _ _ h => VX_out rfl (by decide) h) fun t101 u102 => ?_
  refine V_iload (κ := KL_isPrinted) (pc := 208) dL_isPrinted_208 10 rfl ?_
  refine V_if_eq (κ := KL_isPrinted) (pc := 210) (tgt := 217) dL_isPrinted_210 rfl ?_ ?_
  · refine V_iload (κ := KL_isPrinted) (pc := 217) dL_isPrinted_217 9 rfl ?_
    refine V_if_eq (κ := KL_isPrinted) (pc := 219) (tgt := 226) dL_isPrinted_219 rfl ?_ ?_
    · refine V_iconst (κ := KL_isPrinted) (pc := 226) dL_isPrinted_226 ⟨by decide, by decide⟩ ?_
      refine V_sub (lv' := [(0, (2, x0)), (1, (2, x1)), (2, (2, x2)), (3, (0, x3)), (4, (0, x4)), (5, (0, x5)), (6, (0, x6)), (7, (0, x7)), (8, (0, x8))]) [0, 1, 2, 3, 4, 5, 6, 7, 8] rfl ?_
      exact VBL_isPrinted_227 hk6 hk16 hk32 _ _ _ _ _ _ _ _ _ _ _ _
    refine V_iconst (κ := KL_isPrinted) (pc := 222) dL_isPrinted_222 ⟨by decide, by decide⟩ ?_
    refine V_goto (κ := KL_isPrinted) (pc := 223) (tgt := 227) dL_isPrinted_223 rfl ?_
    refine V_sub (lv' := [(0, (2, x0)), (1, (2, x1)), (2, (2, x2)), (3, (0, x3)), (4, (0, x4)), (5, (0, x5)), (6, (0, x6)), (7, (0, x7)), (8, (0, x8))]) [0, 1, 2, 3, 4, 5, 6, 7, 8] rfl ?_
    exact VBL_isPrinted_227 hk6 hk16 hk32 _ _ _ _ _ _ _ _ _ _ _ _
  refine V_iconst (κ := KL_isPrinted) (pc := 213) dL_isPrinted_213 ⟨by decide, by decide⟩ ?_
  refine V_goto (κ := KL_isPrinted) (pc := 214) (tgt := 227) dL_isPrinted_214 rfl ?_
  refine V_sub (lv' := [(0, (2, x0)), (1, (2, x1)), (2, (2, x2)), (3, (0, x3)), (4, (0, x4)), (5, (0, x5)), (6, (0, x6)), (7, (0, x7)), (8, (0, x8))]) [0, 1, 2, 3, 4, 5, 6, 7, 8] rfl ?_
  exact VBL_isPrinted_227 hk6 hk16 hk32 _ _ _ _ _ _ _ _ _ _ _ _
theorem VBL_isPrinted_133 {Γ : Gam} {k6 : Int → Int → Int → Int → Int → Int → Mem → Rz} (hk6 : ∀ (y0 y1 y2 y3 y4 y5 : Int) (ν : Mem), V Γ KL_isPrinted 6 [(0, (2, y0)), (1, (2, y1)), (2, (2, y2)), (3, (0, y3)), (4, (0, y4)), (5, (0, y5))] [] ν (k6 y0 y1 y2 y3 y4 y5 ν)) {k16 : Int → Int → Int → Int → Int → Int → Int → Mem → Rz} (hk16 : ∀ (y0 y1 y2 y3 y4 y5 y6 : Int) (ν : Mem), V Γ KL_isPrinted 16 [(0, (2, y0)), (1, (2, y1)), (2, (2, y2)), (3, (0, y3)), (4, (0, y4)), (5, (0, y5)), (6, (0, y6))] [] ν (k16 y0 y1 y2 y3 y4 y5 y6 ν)) {k32 : Int → Int → Int → Int → Int → Int → Int → Int → Int → Mem → Rz} (hk32 : ∀ (y0 y1 y2 y3 y4 y5 y6 y7 y8 : Int) (ν : Mem), V Γ KL_isPrinted 32 [(0, (2, y0)), (1, (2, y1)), (2, (2, y2)), (3, (0, y3)), (4, (0, y4)), (5, (0, y5)), (6, (0, y6)), (7, (0, y7)), (8, (0, y8))] [] ν (k32 y0 y1 y2 y3 y4 y5 y6 y7 y8 ν)) (x0 x1 x2 x3 x4 x5 x6 x8 x10 x11 x12 s0 s1 : Int) (μ : Mem) : V Γ KL_isPrinted 133 [(0, (2, x0)), (1, (2, x1)), (2, (2, x2)), (3, (0, x3)), (4, (0, x4)), (5, (0, x5)), (6, (0, x6)), (8, (0, x8)), (10, (0, x10)), (11, (0, x11)), (12, (0, x12))] [(0, s0), (0, s1)] μ (BL_isPrinted_133 k6 k16 k32 x0 x1 x2 x3 x4 x5 x6 x8 x10 x11 x12 s0 s1 μ) := by
  unfold BL_isPrinted_133
  refine V_ior (κ := KL_isPrinted) (pc := 133) dL_isPrinted_133 ?_
  refine V_LT fun x101 => ?_
  refine V_istore (κ := KL_isPrinted) (pc := 134) (lv' := [(7, (0, x101)), (0, (2, x0)), (1, (2, x1)), (2, (2, x2)), (3, (0, x3)), (4, (0, x4)), (5, (0, x5)), (6, (0, x6)), (8, (0, x8)), (10, (0, x10)), (11, (0, x11)), (12, (0, x12))]) dL_isPrinted_134 (by decide) rfl ?_
  refine V_aload_n (κ := KL_isPrinted) (pc := 136) dL_isPrinted_136 1 rfl rfl ?_
  refine V_iload (κ := KL_isPrinted) (pc := 137) dL_isPrinted_137 8 rfl ?_
  refine V_iload (κ := KL_isPrinted) (pc := 139) dL_isPrinted_139 7 rfl ?_
  refine V_iload (κ := KL_isPrinted) (pc := 141) dL_isPrinted_141 6 rfl ?_
  refine V_iconst (κ := KL_isPrinted) (pc := 143) dL_isPrinted_143 ⟨by decide, by decide⟩ ?_
  refine V_callV (ci := 6) (T := TX6) (N := 9) rfl (by decide) (κ := KL_isPrinted) (pc := 144) (con_X6_cell _ _ _ _ _ _) mth_X6_cell rfl ⟨wd_940, wd_941⟩ wd_939 (st0 := []) rfl rfl (by decide) (Nat.le_of_ble_eq_true rfl) dL_isPrinted_144 (fun _ _ _ h => VX_out rfl (by decide) h) fun t102 u103 => ?_
  refine V_iload (κ := KL_isPrinted) (pc := 147) dL_isPrinted_147 9 rfl ?_
  refine V_icmp_ne (κ := KL_isPrinted) (pc := 149) (tgt := 230) dL_isPrinted_149 rfl ?_ ?_
  · refine V_sub (lv' := []) [] rfl ?_
    exact VBL_isPrinted_230 _
  refine V_aload_n (κ := KL_isPrinted) (pc := 152) dL_isPrinted_152 1 rfl rfl ?_
  refine V_iload (κ := KL_isPrinted) (pc := 153) dL_isPrinted_153 8 rfl ?_
  refine V_iload (κ := KL_isPrinted) (pc := 155) dL_isPrinted_155 7 rfl ?_
  refine V_iload (κ := KL_isPrinted) (pc := 157) dL_isPrinted_157 6 rfl ?_
  refine V_iconst (κ := KL_isPrinted) (pc := 159) dL_isPrinted_159 ⟨by decide, by decide⟩ ?_
  refine V_callV (ci := 6) (T := TX6) (N := 9) rfl (by decide) (κ := KL_isPrinted) (pc := 160) (con_X6_cell _ _ _ _ _ _) mth_X6_cell rfl ⟨wd_940, wd_941⟩ wd_939 (st0 := []) rfl rfl (by decide) (Nat.le_of_ble_eq_true rfl) dL_isPrinted_160 (fun _ _ _ h => VX_out rfl (by decide) h) fun t104 u105 => ?_
  refine V_aload_n (κ := KL_isPrinted) (pc := 163) dL_isPrinted_163 3 rfl rfl ?_
  refine V_iload (κ := KL_isPrinted) (pc := 164) dL_isPrinted_164 6 rfl ?_
  refine V_aaload 7 (by decide) rfl rfl (κ := KL_isPrinted) (pc := 166) dL_isPrinted_166 fun t106 => ?_
  refine V_iload (κ := KL_isPrinted) (pc := 167) dL_isPrinted_167 7 rfl ?_
  refine V_iaload (κ := KL_isPrinted) (pc := 169) dL_isPrinted_169 fun t107 => ?_
  refine V_icmp_ne (κ := KL_isPrinted) (pc := 170) (tgt := 230) dL_isPrinted_170 rfl ?_ ?_
  · refine V_sub (lv' := []) [] rfl ?_
    exact VBL_isPrinted_230 _
  refine V_aload_n (κ := KL_isPrinted) (pc := 173) dL_isPrinted_173 1 rfl rfl ?_
  refine V_iload (κ := KL_isPrinted) (pc := 174) dL_isPrinted_174 8 rfl ?_
  refine V_iload (κ := KL_isPrinted) (pc := 176) dL_isPrinted_176 7 rfl ?_
  refine V_iload (κ := KL_isPrinted) (pc := 178) dL_isPrinted_178 6 rfl ?_
  refine V_iconst (κ := KL_isPrinted) (pc := 180) dL_isPrinted_180 ⟨by decide, by decide⟩ ?_
  refine V_callV (ci := 6) (T := TX6) (N := 9) rfl (by decide) (κ := KL_isPrinted) (pc := 181) (con_X6_cell _ _ _ _ _ _) mth_X6_cell rfl ⟨wd_940, wd_941⟩ wd_939 (st0 := []) rfl rfl (by decide) (Nat.le_of_ble_eq_true rfl) dL_isPrinted_181 (fun _ _ _ h => VX_out rfl (by decide) h) fun t108 u109 => ?_
  refine V_iconst (κ := KL_isPrinted) (pc := 184) dL_isPrinted_184 ⟨by decide, by decide⟩ ?_
  refine V_icmp_ne (κ := KL_isPrinted) (pc := 185) (tgt := 192) dL_isPrinted_185 rfl ?_ ?_
  · refine V_iconst (κ := KL_isPrinted) (pc := 192) dL_isPrinted_192 ⟨by decide, by decide⟩ ?_
    refine V_sub (lv' := [(0, (2, x0)), (1, (2, x1)), (2, (2, x2)), (3, (0, x3)), (4, (0, x4)), (5, (0, x5)), (6, (0, x6)), (7, (0, x101)), (8, (0, x8)), (11, (0, x11)), (12, (0, x12))]) [1, 2, 3, 4, 5, 6, 7, 0, 8, 10, 11] rfl ?_
    exact VBL_isPrinted_193 hk6 hk16 hk32 _ _ _ _ _ _ _ _ _ _ _ _ _
  refine V_iconst (κ := KL_isPrinted) (pc := 188) dL_isPrinted_188 ⟨by decide, by decide⟩ ?_
  refine V_goto (κ := KL_isPrinted) (pc := 189) (tgt := 193) dL_isPrinted_189 rfl ?_
  refine V_sub (lv' := [(0, (2, x0)), (1, (2, x1)), (2, (2, x2)), (3, (0, x3)), (4, (0, x4)), (5, (0, x5)), (6, (0, x6)), (7, (0, x101)), (8, (0, x8)), (11, (0, x11)), (12, (0, x12))]) [1, 2, 3, 4, 5, 6, 7, 0, 8, 10, 11] rfl ?_
  exact VBL_isPrinted_193 hk6 hk16 hk32 _ _ _ _ _ _ _ _ _ _ _ _ _
theorem VBL_isPrinted_116 {Γ : Gam} {k6 : Int → Int → Int → Int → Int → Int → Mem → Rz} (hk6 : ∀ (y0 y1 y2 y3 y4 y5 : Int) (ν : Mem), V Γ KL_isPrinted 6 [(0, (2, y0)), (1, (2, y1)), (2, (2, y2)), (3, (0, y3)), (4, (0, y4)), (5, (0, y5))] [] ν (k6 y0 y1 y2 y3 y4 y5 ν)) {k16 : Int → Int → Int → Int → Int → Int → Int → Mem → Rz} (hk16 : ∀ (y0 y1 y2 y3 y4 y5 y6 : Int) (ν : Mem), V Γ KL_isPrinted 16 [(0, (2, y0)), (1, (2, y1)), (2, (2, y2)), (3, (0, y3)), (4, (0, y4)), (5, (0, y5)), (6, (0, y6))] [] ν (k16 y0 y1 y2 y3 y4 y5 y6 ν)) {k32 : Int → Int → Int → Int → Int → Int → Int → Int → Int → Mem → Rz} (hk32 : ∀ (y0 y1 y2 y3 y4 y5 y6 y7 y8 : Int) (ν : Mem), V Γ KL_isPrinted 32 [(0, (2, y0)), (1, (2, y1)), (2, (2, y2)), (3, (0, y3)), (4, (0, y4)), (5, (0, y5)), (6, (0, y6)), (7, (0, y7)), (8, (0, y8))] [] ν (k32 y0 y1 y2 y3 y4 y5 y6 y7 y8 ν)) (x0 x1 x2 x3 x4 x5 x6 x7 x8 x10 x11 s0 : Int) (μ : Mem) : V Γ KL_isPrinted 116 [(0, (2, x0)), (1, (2, x1)), (2, (2, x2)), (3, (0, x3)), (4, (0, x4)), (5, (0, x5)), (6, (0, x6)), (7, (0, x7)), (8, (0, x8)), (10, (0, x10)), (11, (0, x11))] [(0, s0)] μ (BL_isPrinted_116 k6 k16 k32 x0 x1 x2 x3 x4 x5 x6 x7 x8 x10 x11 s0 μ) := by
  unfold BL_isPrinted_116
  refine V_istore (κ := KL_isPrinted) (pc := 116) (lv' := [(12, (0, s0)), (0, (2, x0)), (1, (2, x1)), (2, (2, x2)), (3, (0, x3)), (4, (0, x4)), (5, (0, x5)), (6, (0, x6)), (7, (0, x7)), (8, (0, x8)), (10, (0, x10)), (11, (0, x11))]) dL_isPrinted_116 (by decide) rfl ?_
  refine V_iload (κ := KL_isPrinted) (pc := 118) dL_isPrinted_118 8 rfl ?_
  refine V_iload (κ := KL_isPrinted) (pc := 120) dL_isPrinted_120 0 rfl ?_
  refine V_if_eq (κ := KL_isPrinted) (pc := 122) (tgt := 132) dL_isPrinted_122 rfl ?_ ?_
  · refine V_iconst (κ := KL_isPrinted) (pc := 132) dL_isPrinted_132 ⟨by decide, by decide⟩ ?_
    refine V_sub (lv' := [(0, (2, x0)), (1, (2, x1)), (2, (2, x2)), (3, (0, x3)), (4, (0, x4)), (5, (0, x5)), (6, (0, x6)), (8, (0, x8)), (10, (0, x10)), (11, (0, x11)), (12, (0, s0))]) [1, 2, 3, 4, 5, 6, 7, 9, 10, 11, 0] rfl ?_
    exact VBL_isPrinted_133 hk6 hk16 hk32 _ _ _ _ _ _ _ _ _ _ _ _ _ _
  refine V_iconst (κ := KL_isPrinted) (pc := 125) dL_isPrinted_125 ⟨by decide, by decide⟩ ?_
  refine V_iload (κ := KL_isPrinted) (pc := 126) dL_isPrinted_126 9 rfl ?_
  refine V_ishl (κ := KL_isPrinted) (pc := 128) dL_isPrinted_128 ?_
  refine V_goto (κ := KL_isPrinted) (pc := 129) (tgt := 133) dL_isPrinted_129 rfl ?_
  refine V_sub (lv' := [(0, (2, x0)), (1, (2, x1)), (2, (2, x2)), (3, (0, x3)), (4, (0, x4)), (5, (0, x5)), (6, (0, x6)), (8, (0, x8)), (10, (0, x10)), (11, (0, x11)), (12, (0, s0))]) [1, 2, 3, 4, 5, 6, 7, 9, 10, 11, 0] rfl ?_
  exact VBL_isPrinted_133 hk6 hk16 hk32 _ _ _ _ _ _ _ _ _ _ _ _ _ _
theorem VBL_isPrinted_115 {Γ : Gam} {k6 : Int → Int → Int → Int → Int → Int → Mem → Rz} (hk6 : ∀ (y0 y1 y2 y3 y4 y5 : Int) (ν : Mem), V Γ KL_isPrinted 6 [(0, (2, y0)), (1, (2, y1)), (2, (2, y2)), (3, (0, y3)), (4, (0, y4)), (5, (0, y5))] [] ν (k6 y0 y1 y2 y3 y4 y5 ν)) {k16 : Int → Int → Int → Int → Int → Int → Int → Mem → Rz} (hk16 : ∀ (y0 y1 y2 y3 y4 y5 y6 : Int) (ν : Mem), V Γ KL_isPrinted 16 [(0, (2, y0)), (1, (2, y1)), (2, (2, y2)), (3, (0, y3)), (4, (0, y4)), (5, (0, y5)), (6, (0, y6))] [] ν (k16 y0 y1 y2 y3 y4 y5 y6 ν)) {k32 : Int → Int → Int → Int → Int → Int → Int → Int → Int → Mem → Rz} (hk32 : ∀ (y0 y1 y2 y3 y4 y5 y6 y7 y8 : Int) (ν : Mem), V Γ KL_isPrinted 32 [(0, (2, y0)), (1, (2, y1)), (2, (2, y2)), (3, (0, y3)), (4, (0, y4)), (5, (0, y5)), (6, (0, y6)), (7, (0, y7)), (8, (0, y8))] [] ν (k32 y0 y1 y2 y3 y4 y5 y6 y7 y8 ν)) (x0 x1 x2 x3 x4 x5 x6 x7 x8 x10 x11 : Int) (μ : Mem) : V Γ KL_isPrinted 115 [(0, (2, x0)), (1, (2, x1)), (2, (2, x2)), (3, (0, x3)), (4, (0, x4)), (5, (0, x5)), (6, (0, x6)), (7, (0, x7)), (8, (0, x8)), (10, (0, x10)), (11, (0, x11))] [] μ (BL_isPrinted_115 k6 k16 k32 x0 x1 x2 x3 x4 x5 x6 x7 x8 x10 x11 μ) := by
  unfold BL_isPrinted_115
  refine V_iconst (κ := KL_isPrinted) (pc := 115) dL_isPrinted_115 ⟨by decide, by decide⟩ ?_
  exact VBL_isPrinted_116 hk6 hk16 hk32 _ _ _ _ _ _ _ _ _ _ _ _ _
theorem VBL_isPrinted_95 {Γ : Gam} {k6 : Int → Int → Int → Int → Int → Int → Mem → Rz} (hk6 : ∀ (y0 y1 y2 y3 y4 y5 : Int) (ν : Mem), V Γ KL_isPrinted 6 [(0, (2, y0)), (1, (2, y1)), (2, (2, y2)), (3, (0, y3)), (4, (0, y4)), (5, (0, y5))] [] ν (k6 y0 y1 y2 y3 y4 y5 ν)) {k16 : Int → Int → Int → Int → Int → Int → Int → Mem → Rz} (hk16 : ∀ (y0 y1 y2 y3 y4 y5 y6 : Int) (ν : Mem), V Γ KL_isPrinted 16 [(0, (2, y0)), (1, (2, y1)), (2, (2, y2)), (3, (0, y3)), (4, (0, y4)), (5, (0, y5)), (6, (0, y6))] [] ν (k16 y0 y1 y2 y3 y4 y5 y6 ν)) {k32 : Int → Int → Int → Int → Int → Int → Int → Int → Int → Mem → Rz} (hk32 : ∀ (y0 y1 y2 y3 y4 y5 y6 y7 y8 : Int) (ν : Mem), V Γ KL_isPrinted 32 [(0, (2, y0)), (1, (2, y1)), (2, (2, y2)), (3, (0, y3)), (4, (0, y4)), (5, (0, y5)), (6, (0, y6)), (7, (0, y7)), (8, (0, y8))] [] ν (k32 y0 y1 y2 y3 y4 y5 y6 y7 y8 ν)) (x0 x1 x2 x3 x4 x5 x6 x7 x8 x10 s0 : Int) (μ : Mem) : V Γ KL_isPrinted 95 [(0, (2, x0)), (1, (2, x1)), (2, (2, x2)), (3, (0, x3)), (4, (0, x4)), (5, (0, x5)), (6, (0, x6)), (7, (0, x7)), (8, (0, x8)), (10, (0, x10))] [(0, s0)] μ (BL_isPrinted_95 k6 k16 k32 x0 x1 x2 x3 x4 x5 x6 x7 x8 x10 s0 μ) := by
  unfold BL_isPrinted_95
  refine V_istore (κ := KL_isPrinted) (pc := 95) (lv' := [(11, (0, s0)), (0, (2, x0)), (1, (2, x1)), (2, (2, x2)), (3, (0, x3)), (4, (0, x4)), (5, (0, x5)), (6, (0, x6)), (7, (0, x7)), (8, (0, x8)), (10, (0, x10))]) dL_isPrinted_95 (by decide) rfl ?_
  refine V_iload (κ := KL_isPrinted) (pc := 97) dL_isPrinted_97 0 rfl ?_
  refine V_if_eq (κ := KL_isPrinted) (pc := 99) (tgt := 115) dL_isPrinted_99 rfl ?_ ?_
  · refine V_sub (lv' := [(0, (2, x0)), (1, (2, x1)), (2, (2, x2)), (3, (0, x3)), (4, (0, x4)), (5, (0, x5)), (6, (0, x6)), (7, (0, x7)), (8, (0, x8)), (10, (0, x10)), (11, (0, s0))]) [1, 2, 3, 4, 5, 6, 7, 8, 9, 10, 0] rfl ?_
    exact VBL_isPrinted_115 hk6 hk16 hk32 _ _ _ _ _ _ _ _ _ _ _ _
  refine V_iload (κ := KL_isPrinted) (pc := 102) dL_isPrinted_102 8 rfl ?_
  refine V_callS (κ := KL_isPrinted) (pc := 104) (con_J6_bitCount_0f7a4 _ _) mth_J6_bitCount_0f7a4 wd_408 wd_938 (st0 := []) rfl rfl (by decide) (Nat.le_of_ble_eq_true rfl) dL_isPrinted_104 (fun _ _ _ h => VX_out rfl (by decide) h) fun t101 u102 => ?_
  refine V_iload_n (κ := KL_isPrinted) (pc := 107) dL_isPrinted_107 4 rfl ?_
  refine V_icmp_ge (κ := KL_isPrinted) (pc := 108) (tgt := 115) dL_isPrinted_108 rfl ?_ ?_
  · refine V_sub (lv' := [(0, (2, x0)), (1, (2, x1)), (2, (2, x2)), (3, (0, x3)), (4, (0, x4)), (5, (0, x5)), (6, (0, x6)), (7, (0, x7)), (8, (0, x8)), (10, (0, x10)), (11, (0, s0))]) [1, 2, 3, 4, 5, 6, 7, 8, 9, 10, 0] rfl ?_
    exact VBL_isPrinted_115 hk6 hk16 hk32 _ _ _ _ _ _ _ _ _ _ _ _
  refine V_iconst (κ := KL_isPrinted) (pc := 111) dL_isPrinted_111 ⟨by decide, by decide⟩ ?_
  refine V_goto (κ := KL_isPrinted) (pc := 112) (tgt := 116) dL_isPrinted_112 rfl ?_
  refine V_sub (lv' := [(0, (2, x0)), (1, (2, x1)), (2, (2, x2)), (3, (0, x3)), (4, (0, x4)), (5, (0, x5)), (6, (0, x6)), (7, (0, x7)), (8, (0, x8)), (10, (0, x10)), (11, (0, s0))]) [1, 2, 3, 4, 5, 6, 7, 8, 9, 10, 0] rfl ?_
  exact VBL_isPrinted_116 hk6 hk16 hk32 _ _ _ _ _ _ _ _ _ _ _ _ _
theorem VBL_isPrinted_32 {Γ : Gam} {k6 : Int → Int → Int → Int → Int → Int → Mem → Rz} (hk6 : ∀ (y0 y1 y2 y3 y4 y5 : Int) (ν : Mem), V Γ KL_isPrinted 6 [(0, (2, y0)), (1, (2, y1)), (2, (2, y2)), (3, (0, y3)), (4, (0, y4)), (5, (0, y5))] [] ν (k6 y0 y1 y2 y3 y4 y5 ν)) {k16 : Int → Int → Int → Int → Int → Int → Int → Mem → Rz} (hk16 : ∀ (y0 y1 y2 y3 y4 y5 y6 : Int) (ν : Mem), V Γ KL_isPrinted 16 [(0, (2, y0)), (1, (2, y1)), (2, (2, y2)), (3, (0, y3)), (4, (0, y4)), (5, (0, y5)), (6, (0, y6))] [] ν (k16 y0 y1 y2 y3 y4 y5 y6 ν)) {k32 : Int → Int → Int → Int → Int → Int → Int → Int → Int → Mem → Rz} (hk32 : ∀ (y0 y1 y2 y3 y4 y5 y6 y7 y8 : Int) (ν : Mem), V Γ KL_isPrinted 32 [(0, (2, y0)), (1, (2, y1)), (2, (2, y2)), (3, (0, y3)), (4, (0, y4)), (5, (0, y5)), (6, (0, y6)), (7, (0, y7)), (8, (0, y8))] [] ν (k32 y0 y1 y2 y3 y4 y5 y6 y7 y8 ν)) (x0 x1 x2 x3 x4 x5 x6 x7 x8 : Int) (μ : Mem) : V Γ KL_isPrinted 32 [(0, (2, x0)), (1, (2, x1)), (2, (2, x2)), (3, (0, x3)), (4, (0, x4)), (5, (0, x5)), (6, (0, x6)), (7, (0, x7)), (8, (0, x8))] [] μ (BL_isPrinted_32 k6 k16 k32 x0 x1 x2 x3 x4 x5 x6 x7 x8 μ) := by
  unfold BL_isPrinted_32
  refine V_iload (κ := KL_isPrinted) (pc := 32) dL_isPrinted_32 8 rfl ?_
  refine V_aload_n (κ := KL_isPrinted) (pc := 34) dL_isPrinted_34 1 rfl rfl ?_
  refine V_callV (ci := 11) (T := TJx4a65c) (N := 3) rfl (by decide) (κ := KL_isPrinted) (pc := 35) (con_Jx4a65c_size_8abf5 _ _) mth_Jx4a65c_size_8abf5 rfl ⟨wd_598, wd_599⟩ wd_932 (st0 := [(0, x8)]) rfl rfl (by decide) (Nat.le_of_ble_eq_true rfl) dL_isPrinted_35 (fun _ _ _ h => VX_out rfl (by decide) h) fun t101 u102 => ?_
  refine V_icmp_ge (κ := KL_isPrinted) (pc := 38) (tgt := 238) dL_isPrinted_38 rfl ?_ ?_
  · refine V_aload_n (κ := KL_isPrinted) (pc := 238) dL_isPrinted_238 0 rfl rfl ?_
    refine V_iload (κ := KL_isPrinted) (pc := 239) dL_isPrinted_239 6 rfl ?_
    refine V_iload (κ := KL_isPrinted) (pc := 241) dL_isPrinted_241 5 rfl ?_
    refine V_callV (ci := 6) (T := TX6) (N := 9) rfl (by decide) (κ := KL_isPrinted) (pc := 243) (con_X6_inks _ _ _ _) mth_X6_inks rfl ⟨wd_965, wd_966⟩ wd_964 (st0 := []) rfl rfl (by decide) (Nat.le_of_ble_eq_true rfl) dL_isPrinted_243 (fun _ _ _ h => VX_out rfl (by decide) h) fun t103 u104 => ?_
    refine V_iload (κ := KL_isPrinted) (pc := 246) dL_isPrinted_246 7 rfl ?_
    refine V_icmp_ne (κ := KL_isPrinted) (pc := 248) (tgt := 269) dL_isPrinted_248 rfl ?_ ?_
    · refine V_sub (lv' := []) [] rfl ?_
      exact VBL_isPrinted_269 _
    refine V_aload_n (κ := KL_isPrinted) (pc := 251) dL_isPrinted_251 0 rfl rfl ?_
    refine V_iload (κ := KL_isPrinted) (pc := 252) dL_isPrinted_252 6 rfl ?_
    refine V_iload (κ := KL_isPrinted) (pc := 254) dL_isPrinted_254 5 rfl ?_
    refine V_callV (ci := 6) (T := TX6) (N := 9) rfl (by decide) (κ := KL_isPrinted) (pc := 256) (con_X6_tone _ _ _ _) mth_X6_tone rfl ⟨wd_969, wd_970⟩ wd_968 (st0 := []) rfl rfl (by decide) (Nat.le_of_ble_eq_true rfl) dL_isPrinted_256 (fun _ _ _ h => VX_out rfl (by decide) h) fun t105 u106 => ?_
    refine V_aload_n (κ := KL_isPrinted) (pc := 259) dL_isPrinted_259 2 rfl rfl ?_
    refine V_iload (κ := KL_isPrinted) (pc := 260) dL_isPrinted_260 5 rfl ?_
    refine V_aaload 7 (by decide) rfl rfl (κ := KL_isPrinted) (pc := 262) dL_isPrinted_262 fun t107 => ?_
    refine V_iload (κ := KL_isPrinted) (pc := 263) dL_isPrinted_263 6 rfl ?_
    refine V_iaload (κ := KL_isPrinted) (pc := 265) dL_isPrinted_265 fun t108 => ?_
    refine V_icmp_eq (κ := KL_isPrinted) (pc := 266) (tgt := 271) dL_isPrinted_266 rfl ?_ ?_
    · refine V_iload (κ := KL_isPrinted) (pc := 271) dL_isPrinted_271 4 rfl ?_
      refine V_iload (κ := KL_isPrinted) (pc := 273) dL_isPrinted_273 7 rfl ?_
      refine V_callS (κ := KL_isPrinted) (pc := 275) (con_J6_bitCount_0f7a4 _ _) mth_J6_bitCount_0f7a4 wd_408 wd_938 (st0 := [(0, x4)]) rfl rfl (by decide) (Nat.le_of_ble_eq_true rfl) dL_isPrinted_275 (fun _ _ _ h => VX_out rfl (by decide) h) fun t109 u110 => ?_
      refine V_iadd (κ := KL_isPrinted) (pc := 278) dL_isPrinted_278 ?_
      refine V_LT fun x111 => ?_
      refine V_istore (κ := KL_isPrinted) (pc := 279) (lv' := [(4, (0, x111)), (0, (2, x0)), (1, (2, x1)), (2, (2, x2)), (3, (0, x3)), (5, (0, x5)), (6, (0, x6)), (7, (0, x7)), (8, (0, x8))]) dL_isPrinted_279 (by decide) rfl ?_
      refine V_iinc (κ := KL_isPrinted) (pc := 281) (lv' := [(6, (0, w32 (x6 + 1))), (4, (0, x111)), (0, (2, x0)), (1, (2, x1)), (2, (2, x2)), (3, (0, x3)), (5, (0, x5)), (7, (0, x7)), (8, (0, x8))]) dL_isPrinted_281 6 rfl (by decide) rfl ?_
      refine V_goto (κ := KL_isPrinted) (pc := 284) (tgt := 16) dL_isPrinted_284 rfl ?_
      refine V_sub (lv' := [(0, (2, x0)), (1, (2, x1)), (2, (2, x2)), (3, (0, x3)), (4, (0, x111)), (5, (0, x5)), (6, (0, w32 (x6 + 1)))]) [2, 3, 4, 5, 1, 6, 0] rfl ?_
      exact hk16 _ _ _ _ _ _ _ _
    refine V_sub (lv' := []) [] rfl ?_
    exact VBL_isPrinted_269 _
  refine V_aload_n (κ := KL_isPrinted) (pc := 41) dL_isPrinted_41 1 rfl rfl ?_
  refine V_iload (κ := KL_isPrinted) (pc := 42) dL_isPrinted_42 8 rfl ?_
  refine V_callV (ci := 11) (T := TJx4a65c) (N := 3) rfl (by decide) (κ := KL_isPrinted) (pc := 44) (con_Jx4a65c_get_915e3 _ _ _) mth_Jx4a65c_get_915e3 rfl ⟨wd_602, wd_603⟩ wd_933 (st0 := []) rfl rfl (by decide) (Nat.le_of_ble_eq_true rfl) dL_isPrinted_44 (fun _ _ _ h => VX_out rfl (by decide) h) fun t112 u113 => ?_
  refine V_ccO 8 (by decide) (T := TX8) (N := 7) rfl (κ := KL_isPrinted) (pc := 47) wd_537 dL_isPrinted_47 ?_
  refine V_astore (κ := KL_isPrinted) (pc := 50) (lv' := [(9, (2, t112)), (0, (2, x0)), (1, (2, x1)), (2, (2, x2)), (3, (0, x3)), (4, (0, x4)), (5, (0, x5)), (6, (0, x6)), (7, (0, x7)), (8, (0, x8))]) dL_isPrinted_50 rfl (by decide) rfl ?_
  refine V_aload (κ := KL_isPrinted) (pc := 52) dL_isPrinted_52 0 rfl rfl ?_
  refine V_iload (κ := KL_isPrinted) (pc := 54) dL_isPrinted_54 7 rfl ?_
  refine V_iload (κ := KL_isPrinted) (pc := 56) dL_isPrinted_56 6 rfl ?_
  refine V_callV (ci := 8) (T := TX8) (N := 7) rfl (by decide) (κ := KL_isPrinted) (pc := 58) (con_X8_rank _ _ _ _) mth_X8_rank rfl ⟨wd_935, wd_936⟩ wd_934 (st0 := []) rfl rfl (by decide) (Nat.le_of_ble_eq_true rfl) dL_isPrinted_58 (fun _ _ _ h => VX_out rfl (by decide) h) fun t114 u115 => ?_
  refine V_istore (κ := KL_isPrinted) (pc := 61) (lv' := [(10, (0, t114)), (9, (2, t112)), (0, (2, x0)), (1, (2, x1)), (2, (2, x2)), (3, (0, x3)), (4, (0, x4)), (5, (0, x5)), (6, (0, x6)), (7, (0, x7)), (8, (0, x8))]) dL_isPrinted_61 (by decide) rfl ?_
  refine V_iload (κ := KL_isPrinted) (pc := 63) dL_isPrinted_63 0 rfl ?_
  refine V_bipush (κ := KL_isPrinted) (pc := 65) dL_isPrinted_65 ⟨by decide, by decide⟩ (by decide) ?_
  refine V_imul (κ := KL_isPrinted) (pc := 67) dL_isPrinted_67 ?_
  refine V_aload_n (κ := KL_isPrinted) (pc := 68) dL_isPrinted_68 4 rfl rfl ?_
  refine V_iload (κ := KL_isPrinted) (pc := 69) dL_isPrinted_69 7 rfl ?_
  refine V_aaload 7 (by decide) rfl rfl (κ := KL_isPrinted) (pc := 71) dL_isPrinted_71 fun t116 => ?_
  refine V_iload (κ := KL_isPrinted) (pc := 72) dL_isPrinted_72 8 rfl ?_
  refine V_iaload (κ := KL_isPrinted) (pc := 74) dL_isPrinted_74 fun t117 => ?_
  refine V_aload (κ := KL_isPrinted) (pc := 75) dL_isPrinted_75 1 rfl rfl ?_
  refine V_getfN 8 (κ := KL_isPrinted) (pc := 77) rfl (by decide) rfl inX8 2 (by decide) (host := "TonePlatesLaw") (show _ ∈ lw_fnest by decide) rfl (t := 0) rfl dL_isPrinted_77 fun t118 => ?_
  refine V_imul (κ := KL_isPrinted) (pc := 80) dL_isPrinted_80 ?_
  refine V_aload (κ := KL_isPrinted) (pc := 81) dL_isPrinted_81 1 rfl rfl ?_
  refine V_getfN 8 (κ := KL_isPrinted) (pc := 83) rfl (by decide) rfl inX8 2 (by decide) (host := "TonePlatesLaw") (show _ ∈ lw_fnest by decide) rfl (t := 0) rfl dL_isPrinted_83 fun t119 => ?_
  refine V_imul (κ := KL_isPrinted) (pc := 86) dL_isPrinted_86 ?_
  refine V_icmp_ge (κ := KL_isPrinted) (pc := 87) (tgt := 94) dL_isPrinted_87 rfl ?_ ?_
  · refine V_iconst (κ := KL_isPrinted) (pc := 94) dL_isPrinted_94 ⟨by decide, by decide⟩ ?_
    refine V_sub (lv' := [(0, (2, x0)), (1, (2, x1)), (2, (2, x2)), (3, (0, x3)), (4, (0, x4)), (5, (0, x5)), (6, (0, x6)), (7, (0, x7)), (8, (0, x8)), (10, (0, t114))]) [2, 3, 4, 5, 6, 7, 8, 9, 10, 0] rfl ?_
    exact VBL_isPrinted_95 hk6 hk16 hk32 _ _ _ _ _ _ _ _ _ _ _ _
  refine V_iconst (κ := KL_isPrinted) (pc := 90) dL_isPrinted_90 ⟨by decide, by decide⟩ ?_
  refine V_goto (κ := KL_isPrinted) (pc := 91) (tgt := 95) dL_isPrinted_91 rfl ?_
  refine V_sub (lv' := [(0, (2, x0)), (1, (2, x1)), (2, (2, x2)), (3, (0, x3)), (4, (0, x4)), (5, (0, x5)), (6, (0, x6)), (7, (0, x7)), (8, (0, x8)), (10, (0, t114))]) [2, 3, 4, 5, 6, 7, 8, 9, 10, 0] rfl ?_
  exact VBL_isPrinted_95 hk6 hk16 hk32 _ _ _ _ _ _ _ _ _ _ _ _
theorem VLL_isPrinted_32 {Γ : Gam} {k6 : Int → Int → Int → Int → Int → Int → Mem → Rz} (hk6 : ∀ (y0 y1 y2 y3 y4 y5 : Int) (ν : Mem), V Γ KL_isPrinted 6 [(0, (2, y0)), (1, (2, y1)), (2, (2, y2)), (3, (0, y3)), (4, (0, y4)), (5, (0, y5))] [] ν (k6 y0 y1 y2 y3 y4 y5 ν)) {k16 : Int → Int → Int → Int → Int → Int → Int → Mem → Rz} (hk16 : ∀ (y0 y1 y2 y3 y4 y5 y6 : Int) (ν : Mem), V Γ KL_isPrinted 16 [(0, (2, y0)), (1, (2, y1)), (2, (2, y2)), (3, (0, y3)), (4, (0, y4)), (5, (0, y5)), (6, (0, y6))] [] ν (k16 y0 y1 y2 y3 y4 y5 y6 ν)) : ∀ (n : Nat) (x0 x1 x2 x3 x4 x5 x6 x7 x8 : Int) (μ : Mem), V Γ KL_isPrinted 32 [(0, (2, x0)), (1, (2, x1)), (2, (2, x2)), (3, (0, x3)), (4, (0, x4)), (5, (0, x5)), (6, (0, x6)), (7, (0, x7)), (8, (0, x8))] [] μ (LL_isPrinted_32 k6 k16 n x0 x1 x2 x3 x4 x5 x6 x7 x8 μ)
  | 0, _, _, _, _, _, _, _, _, _, _ => V_none
  | n + 1, x0, x1, x2, x3, x4, x5, x6, x7, x8, μ => VBL_isPrinted_32 hk6 hk16 (fun y0 y1 y2 y3 y4 y5 y6 y7 y8 ν => VLL_isPrinted_32 hk6 hk16 n y0 y1 y2 y3 y4 y5 y6 y7 y8 ν) x0 x1 x2 x3 x4 x5 x6 x7 x8 μ
theorem VBL_isPrinted_16 {Γ : Gam} {k6 : Int → Int → Int → Int → Int → Int → Mem → Rz} (hk6 : ∀ (y0 y1 y2 y3 y4 y5 : Int) (ν : Mem), V Γ KL_isPrinted 6 [(0, (2, y0)), (1, (2, y1)), (2, (2, y2)), (3, (0, y3)), (4, (0, y4)), (5, (0, y5))] [] ν (k6 y0 y1 y2 y3 y4 y5 ν)) {k16 : Int → Int → Int → Int → Int → Int → Int → Mem → Rz} (hk16 : ∀ (y0 y1 y2 y3 y4 y5 y6 : Int) (ν : Mem), V Γ KL_isPrinted 16 [(0, (2, y0)), (1, (2, y1)), (2, (2, y2)), (3, (0, y3)), (4, (0, y4)), (5, (0, y5)), (6, (0, y6))] [] ν (k16 y0 y1 y2 y3 y4 y5 y6 ν)) (x0 x1 x2 x3 x4 x5 x6 : Int) (μ : Mem) : V Γ KL_isPrinted 16 [(0, (2, x0)), (1, (2, x1)), (2, (2, x2)), (3, (0, x3)), (4, (0, x4)), (5, (0, x5)), (6, (0, x6))] [] μ (BL_isPrinted_16 k6 k16 x0 x1 x2 x3 x4 x5 x6 μ) := by
  unfold BL_isPrinted_16
  refine V_iload (κ := KL_isPrinted) (pc := 16) dL_isPrinted_16 6 rfl ?_
  refine V_aload_n (κ := KL_isPrinted) (pc := 18) dL_isPrinted_18 2 rfl rfl ?_
  refine V_iload (κ := KL_isPrinted) (pc := 19) dL_isPrinted_19 5 rfl ?_
  refine V_aaload 7 (by decide) rfl rfl (κ := KL_isPrinted) (pc := 21) dL_isPrinted_21 fun t101 => ?_
  refine V_alen 1 (by decide) (κ := KL_isPrinted) (pc := 22) dL_isPrinted_22 fun t102 => ?_
  refine V_icmp_ge (κ := KL_isPrinted) (pc := 23) (tgt := 287) dL_isPrinted_23 rfl ?_ ?_
  · refine V_iinc (κ := KL_isPrinted) (pc := 287) (lv' := [(5, (0, w32 (x5 + 1))), (0, (2, x0)), (1, (2, x1)), (2, (2, x2)), (3, (0, x3)), (4, (0, x4)), (6, (0, x6))]) dL_isPrinted_287 5 rfl (by decide) rfl ?_
    refine V_goto (κ := KL_isPrinted) (pc := 290) (tgt := 6) dL_isPrinted_290 rfl ?_
    refine V_sub (lv' := [(0, (2, x0)), (1, (2, x1)), (2, (2, x2)), (3, (0, x3)), (4, (0, x4)), (5, (0, w32 (x5 + 1)))]) [1, 2, 3, 4, 5, 0] rfl ?_
    exact hk6 _ _ _ _ _ _ _
  refine V_iconst (κ := KL_isPrinted) (pc := 26) dL_isPrinted_26 ⟨by decide, by decide⟩ ?_
  refine V_istore (κ := KL_isPrinted) (pc := 27) (lv' := [(7, (0, 0)), (0, (2, x0)), (1, (2, x1)), (2, (2, x2)), (3, (0, x3)), (4, (0, x4)), (5, (0, x5)), (6, (0, x6))]) dL_isPrinted_27 (by decide) rfl ?_
  refine V_iconst (κ := KL_isPrinted) (pc := 29) dL_isPrinted_29 ⟨by decide, by decide⟩ ?_
  refine V_istore (κ := KL_isPrinted) (pc := 30) (lv' := [(8, (0, 0)), (7, (0, 0)), (0, (2, x0)), (1, (2, x1)), (2, (2, x2)), (3, (0, x3)), (4, (0, x4)), (5, (0, x5)), (6, (0, x6))]) dL_isPrinted_30 (by decide) rfl ?_
  refine V_sub (lv' := [(0, (2, x0)), (1, (2, x1)), (2, (2, x2)), (3, (0, x3)), (4, (0, x4)), (5, (0, x5)), (6, (0, x6)), (7, (0, 0)), (8, (0, 0))]) [2, 3, 4, 5, 6, 7, 8, 1, 0] rfl ?_
  exact VLL_isPrinted_32 hk6 hk16 FU _ _ _ _ _ _ _ _ _ _
theorem VLL_isPrinted_16 {Γ : Gam} {k6 : Int → Int → Int → Int → Int → Int → Mem → Rz} (hk6 : ∀ (y0 y1 y2 y3 y4 y5 : Int) (ν : Mem), V Γ KL_isPrinted 6 [(0, (2, y0)), (1, (2, y1)), (2, (2, y2)), (3, (0, y3)), (4, (0, y4)), (5, (0, y5))] [] ν (k6 y0 y1 y2 y3 y4 y5 ν)) : ∀ (n : Nat) (x0 x1 x2 x3 x4 x5 x6 : Int) (μ : Mem), V Γ KL_isPrinted 16 [(0, (2, x0)), (1, (2, x1)), (2, (2, x2)), (3, (0, x3)), (4, (0, x4)), (5, (0, x5)), (6, (0, x6))] [] μ (LL_isPrinted_16 k6 n x0 x1 x2 x3 x4 x5 x6 μ)
  | 0, _, _, _, _, _, _, _, _ => V_none
  | n + 1, x0, x1, x2, x3, x4, x5, x6, μ => VBL_isPrinted_16 hk6 (fun y0 y1 y2 y3 y4 y5 y6 ν => VLL_isPrinted_16 hk6 n y0 y1 y2 y3 y4 y5 y6 ν) x0 x1 x2 x3 x4 x5 x6 μ
theorem VBL_isPrinted_6 {Γ : Gam} {k6 : Int → Int → Int → Int → Int → Int → Mem → Rz} (hk6 : ∀ (y0 y1 y2 y3 y4 y5 : Int) (ν : Mem), V Γ KL_isPrinted 6 [(0, (2, y0)), (1, (2, y1)), (2, (2, y2)), (3, (0, y3)), (4, (0, y4)), (5, (0, y5))] [] ν (k6 y0 y1 y2 y3 y4 y5 ν)) (x0 x1 x2 x3 x4 x5 : Int) (μ : Mem) : V Γ KL_isPrinted 6 [(0, (2, x0)), (1, (2, x1)), (2, (2, x2)), (3, (0, x3)), (4, (0, x4)), (5, (0, x5))] [] μ (BL_isPrinted_6 k6 x0 x1 x2 x3 x4 x5 μ) := by
  unfold BL_isPrinted_6
  refine V_iload (κ := KL_isPrinted) (pc := 6) dL_isPrinted_6 5 rfl ?_
  refine V_aload_n (κ := KL_isPrinted) (pc := 8) dL_isPrinted_8 2 rfl rfl ?_
  refine V_alen 7 (by decide) (κ := KL_isPrinted) (pc := 9) dL_isPrinted_9 fun t101 => ?_
  refine V_icmp_ge (κ := KL_isPrinted) (pc := 10) (tgt := 293) dL_isPrinted_10 rfl ?_ ?_
  · refine V_aload_n (κ := KL_isPrinted) (pc := 293) dL_isPrinted_293 0 rfl rfl ?_
    refine V_iconst (κ := KL_isPrinted) (pc := 294) dL_isPrinted_294 ⟨by decide, by decide⟩ ?_
    refine V_callV (ci := 6) (T := TX6) (N := 9) rfl (by decide) (κ := KL_isPrinted) (pc := 295) (con_X6_state _ _ _) mth_X6_state rfl ⟨wd_273, wd_274⟩ wd_272 (st0 := []) rfl rfl (by decide) (Nat.le_of_ble_eq_true rfl) dL_isPrinted_295 (fun _ _ _ h => VX_out rfl (by decide) h) fun t102 u103 => ?_
    refine V_iload (κ := KL_isPrinted) (pc := 298) dL_isPrinted_298 4 rfl ?_
    refine V_icmp_ne (κ := KL_isPrinted) (pc := 300) (tgt := 307) dL_isPrinted_300 rfl ?_ ?_
    · refine V_iconst (κ := KL_isPrinted) (pc := 307) dL_isPrinted_307 ⟨by decide, by decide⟩ ?_
      refine V_sub (lv' := []) [] rfl ?_
      exact VBL_isPrinted_308 _ _
    refine V_iconst (κ := KL_isPrinted) (pc := 303) dL_isPrinted_303 ⟨by decide, by decide⟩ ?_
    refine V_goto (κ := KL_isPrinted) (pc := 304) (tgt := 308) dL_isPrinted_304 rfl ?_
    refine V_sub (lv' := []) [] rfl ?_
    exact VBL_isPrinted_308 _ _
  refine V_iconst (κ := KL_isPrinted) (pc := 13) dL_isPrinted_13 ⟨by decide, by decide⟩ ?_
  refine V_istore (κ := KL_isPrinted) (pc := 14) (lv' := [(6, (0, 0)), (0, (2, x0)), (1, (2, x1)), (2, (2, x2)), (3, (0, x3)), (4, (0, x4)), (5, (0, x5))]) dL_isPrinted_14 (by decide) rfl ?_
  refine V_sub (lv' := [(0, (2, x0)), (1, (2, x1)), (2, (2, x2)), (3, (0, x3)), (4, (0, x4)), (5, (0, x5)), (6, (0, 0))]) [1, 2, 3, 4, 5, 6, 0] rfl ?_
  exact VLL_isPrinted_16 hk6 FU _ _ _ _ _ _ _ _
theorem VLL_isPrinted_6 {Γ : Gam} : ∀ (n : Nat) (x0 x1 x2 x3 x4 x5 : Int) (μ : Mem), V Γ KL_isPrinted 6 [(0, (2, x0)), (1, (2, x1)), (2, (2, x2)), (3, (0, x3)), (4, (0, x4)), (5, (0, x5))] [] μ (LL_isPrinted_6 n x0 x1 x2 x3 x4 x5 μ)
  | 0, _, _, _, _, _, _, _ => V_none
  | n + 1, x0, x1, x2, x3, x4, x5, μ => VBL_isPrinted_6 (fun y0 y1 y2 y3 y4 y5 ν => VLL_isPrinted_6 n y0 y1 y2 y3 y4 y5 ν) x0 x1 x2 x3 x4 x5 μ
theorem VBL_isPrinted_0 {Γ : Gam} (x0 x1 x2 x3 : Int) (μ : Mem) : V Γ KL_isPrinted 0 [(0, (2, x0)), (1, (2, x1)), (2, (2, x2)), (3, (0, x3))] [] μ (BL_isPrinted_0 x0 x1 x2 x3 μ) := by
  unfold BL_isPrinted_0
  refine V_iconst (κ := KL_isPrinted) (pc := 0) dL_isPrinted_0 ⟨by decide, by decide⟩ ?_
  refine V_istore (κ := KL_isPrinted) (pc := 1) (lv' := [(4, (0, 0)), (0, (2, x0)), (1, (2, x1)), (2, (2, x2)), (3, (0, x3))]) dL_isPrinted_1 (by decide) rfl ?_
  refine V_iconst (κ := KL_isPrinted) (pc := 3) dL_isPrinted_3 ⟨by decide, by decide⟩ ?_
  refine V_istore (κ := KL_isPrinted) (pc := 4) (lv' := [(5, (0, 0)), (4, (0, 0)), (0, (2, x0)), (1, (2, x1)), (2, (2, x2)), (3, (0, x3))]) dL_isPrinted_4 (by decide) rfl ?_
  refine V_sub (lv' := [(0, (2, x0)), (1, (2, x1)), (2, (2, x2)), (3, (0, x3)), (4, (0, 0)), (5, (0, 0))]) [2, 3, 4, 5, 1, 0] rfl ?_
  exact VLL_isPrinted_6 FU _ _ _ _ _ _ _
theorem con_L_isPrinted (a0 a1 a2 a3 : Int) (μ : Mem) : Con (11) yL_isPrinted (.code yL_isPrinted cL_isPrinted 13 (some .boolean)) 0 [(2, a0), (2, a1), (2, a2), (0, a3)] μ (FL_isPrinted a0 a1 a2 a3 μ) := Con_intro KL_isPrinted (plainFor_of_name (by decide)) rfl (fun h => by cases h) (by decide) rfl (Nat.le_of_ble_eq_true rfl) (fun Γ => VBL_isPrinted_0 _ _ _ _ _)
abbrev KL_feeds : Kap := (RL, cL_feeds, 6, 6, 0, (some .int), false, [])
theorem VBL_feeds_67 {Γ : Gam} {k4 : Int → Int → Int → Int → Mem → Rz} (hk4 : ∀ (y0 y1 y2 y3 : Int) (ν : Mem), V Γ KL_feeds 4 [(0, (2, y0)), (1, (2, y1)), (2, (0, y2)), (3, (0, y3))] [] ν (k4 y0 y1 y2 y3 ν)) {k20 : Int → Int → Int → Int → Int → Mem → Rz} (hk20 : ∀ (y0 y1 y3 y4 y5 : Int) (ν : Mem), V Γ KL_feeds 20 [(0, (2, y0)), (1, (2, y1)), (3, (0, y3)), (4, (2, y4)), (5, (0, y5))] [] ν (k20 y0 y1 y3 y4 y5 ν)) (x0 x1 x3 x4 x5 s0 s1 s2 s3 : Int) (μ : Mem) : V Γ KL_feeds 67 [(0, (2, x0)), (1, (2, x1)), (3, (0, x3)), (4, (2, x4)), (5, (0, x5))] [(0, s0), (0, s1), (0, s2), (2, s3)] μ (BL_feeds_67 k4 k20 x0 x1 x3 x4 x5 s0 s1 s2 s3 μ) := by
  unfold BL_feeds_67
  refine V_ior (κ := KL_feeds) (pc := 67) dL_feeds_67 ?_
  refine V_iastore (κ := KL_feeds) (pc := 68) dL_feeds_68 fun u101 => ?_
  refine V_iinc (κ := KL_feeds) (pc := 69) (lv' := [(5, (0, w32 (x5 + 1))), (0, (2, x0)), (1, (2, x1)), (3, (0, x3)), (4, (2, x4))]) dL_feeds_69 4 rfl (by decide) rfl ?_
  refine V_goto (κ := KL_feeds) (pc := 72) (tgt := 20) dL_feeds_72 rfl ?_
  refine V_sub (lv' := [(0, (2, x0)), (1, (2, x1)), (3, (0, x3)), (4, (2, x4)), (5, (0, w32 (x5 + 1)))]) [1, 2, 3, 4, 0] rfl ?_
  exact hk20 _ _ _ _ _ _
theorem VBL_feeds_20 {Γ : Gam} {k4 : Int → Int → Int → Int → Mem → Rz} (hk4 : ∀ (y0 y1 y2 y3 : Int) (ν : Mem), V Γ KL_feeds 4 [(0, (2, y0)), (1, (2, y1)), (2, (0, y2)), (3, (0, y3))] [] ν (k4 y0 y1 y2 y3 ν)) {k20 : Int → Int → Int → Int → Int → Mem → Rz} (hk20 : ∀ (y0 y1 y3 y4 y5 : Int) (ν : Mem), V Γ KL_feeds 20 [(0, (2, y0)), (1, (2, y1)), (3, (0, y3)), (4, (2, y4)), (5, (0, y5))] [] ν (k20 y0 y1 y3 y4 y5 ν)) (x0 x1 x3 x4 x5 : Int) (μ : Mem) : V Γ KL_feeds 20 [(0, (2, x0)), (1, (2, x1)), (3, (0, x3)), (4, (2, x4)), (5, (0, x5))] [] μ (BL_feeds_20 k4 k20 x0 x1 x3 x4 x5 μ) := by
  unfold BL_feeds_20
  refine V_iload (κ := KL_feeds) (pc := 20) dL_feeds_20 4 rfl ?_
  refine V_bipush (κ := KL_feeds) (pc := 22) dL_feeds_22 ⟨by decide, by decide⟩ (by decide) ?_
  refine V_icmp_ge (κ := KL_feeds) (pc := 24) (tgt := 75) dL_feeds_24 rfl ?_ ?_
  · refine V_aload_n (κ := KL_feeds) (pc := 75) dL_feeds_75 0 rfl rfl ?_
    refine V_aload (κ := KL_feeds) (pc := 76) dL_feeds_76 3 rfl rfl ?_
    refine V_iconst (κ := KL_feeds) (pc := 78) dL_feeds_78 ⟨by decide, by decide⟩ ?_
    refine V_iaload (κ := KL_feeds) (pc := 79) dL_feeds_79 fun t101 => ?_
    refine V_aload (κ := KL_feeds) (pc := 80) dL_feeds_80 3 rfl rfl ?_
    refine V_iconst (κ := KL_feeds) (pc := 82) dL_feeds_82 ⟨by decide, by decide⟩ ?_
    refine V_iaload (κ := KL_feeds) (pc := 83) dL_feeds_83 fun t102 => ?_
    refine V_aload (κ := KL_feeds) (pc := 84) dL_feeds_84 3 rfl rfl ?_
    refine V_iconst (κ := KL_feeds) (pc := 86) dL_feeds_86 ⟨by decide, by decide⟩ ?_
    refine V_iaload (κ := KL_feeds) (pc := 87) dL_feeds_87 fun t103 => ?_
    refine V_aload (κ := KL_feeds) (pc := 88) dL_feeds_88 3 rfl rfl ?_
    refine V_iconst (κ := KL_feeds) (pc := 90) dL_feeds_90 ⟨by decide, by decide⟩ ?_
    refine V_iaload (κ := KL_feeds) (pc := 91) dL_feeds_91 fun t104 => ?_
    refine V_aload (κ := KL_feeds) (pc := 92) dL_feeds_92 3 rfl rfl ?_
    refine V_iconst (κ := KL_feeds) (pc := 94) dL_feeds_94 ⟨by decide, by decide⟩ ?_
    refine V_iaload (κ := KL_feeds) (pc := 95) dL_feeds_95 fun t105 => ?_
    refine V_callV (ci := 6) (T := TX6) (N := 9) rfl (by decide) (κ := KL_feeds) (pc := 96) (con_X6_append _ _ _ _ _ _ _) mth_X6_append rfl ⟨wd_763, wd_764⟩ wd_762 (st0 := []) rfl rfl (by decide) (Nat.le_of_ble_eq_true rfl) dL_feeds_96 (fun _ _ _ h => VX_out rfl (by decide) h) fun t106 u107 => ?_
    refine V_istore_n (κ := KL_feeds) (pc := 99) (lv' := [(2, (0, t106)), (0, (2, x0)), (1, (2, x1)), (3, (0, x3)), (4, (2, x4)), (5, (0, x5))]) dL_feeds_99 (by decide) rfl ?_
    refine V_iinc (κ := KL_feeds) (pc := 100) (lv' := [(3, (0, w32 (x3 + 20))), (2, (0, t106)), (0, (2, x0)), (1, (2, x1)), (4, (2, x4)), (5, (0, x5))]) dL_feeds_100 3 rfl (by decide) rfl ?_
    refine V_goto (κ := KL_feeds) (pc := 103) (tgt := 4) dL_feeds_103 rfl ?_
    refine V_sub (lv' := [(0, (2, x0)), (1, (2, x1)), (2, (0, t106)), (3, (0, w32 (x3 + 20)))]) [2, 3, 1, 0] rfl ?_
    exact hk4 _ _ _ _ _
  refine V_aload (κ := KL_feeds) (pc := 27) dL_feeds_27 3 rfl rfl ?_
  refine V_iload (κ := KL_feeds) (pc := 29) dL_feeds_29 4 rfl ?_
  refine V_iconst (κ := KL_feeds) (pc := 31) dL_feeds_31 ⟨by decide, by decide⟩ ?_
  refine V_idiv (κ := KL_feeds) (pc := 32) dL_feeds_32 fun t108 => ?_
  refine V_aload (κ := KL_feeds) (pc := 33) dL_feeds_33 3 rfl rfl ?_
  refine V_iload (κ := KL_feeds) (pc := 35) dL_feeds_35 4 rfl ?_
  refine V_iconst (κ := KL_feeds) (pc := 37) dL_feeds_37 ⟨by decide, by decide⟩ ?_
  refine V_idiv (κ := KL_feeds) (pc := 38) dL_feeds_38 fun t109 => ?_
  refine V_iaload (κ := KL_feeds) (pc := 39) dL_feeds_39 fun t110 => ?_
  refine V_bipush (κ := KL_feeds) (pc := 40) dL_feeds_40 ⟨by decide, by decide⟩ (by decide) ?_
  refine V_ishl (κ := KL_feeds) (pc := 42) dL_feeds_42 ?_
  refine V_iload_n (κ := KL_feeds) (pc := 43) dL_feeds_43 2 rfl ?_
  refine V_iload (κ := KL_feeds) (pc := 44) dL_feeds_44 4 rfl ?_
  refine V_iadd (κ := KL_feeds) (pc := 46) dL_feeds_46 ?_
  refine V_aload_n (κ := KL_feeds) (pc := 47) dL_feeds_47 1 rfl rfl ?_
  refine V_callV (ci := 9) (T := TJ0) (N := 4) rfl (by decide) (κ := KL_feeds) (pc := 48) (con_J0_length_8abf5 _ _) mth_J0_length_8abf5 rfl ⟨wd_717, wd_718⟩ wd_716 (st0 := [(0, w32 (x3 + x5)), (0, bShl t110 8), (0, t108), (2, x4)]) rfl rfl (by decide) (Nat.le_of_ble_eq_true rfl) dL_feeds_48 (fun _ _ _ h => VX_out rfl (by decide) h) fun t111 u112 => ?_
  refine V_icmp_ge (κ := KL_feeds) (pc := 51) (tgt := 65) dL_feeds_51 rfl ?_ ?_
  · refine V_bipush (κ := KL_feeds) (pc := 65) dL_feeds_65 ⟨by decide, by decide⟩ (by decide) ?_
    exact VBL_feeds_67 hk4 hk20 _ _ _ _ _ _ _ _ _ _
  refine V_aload_n (κ := KL_feeds) (pc := 54) dL_feeds_54 1 rfl rfl ?_
  refine V_iload_n (κ := KL_feeds) (pc := 55) dL_feeds_55 2 rfl ?_
  refine V_iload (κ := KL_feeds) (pc := 56) dL_feeds_56 4 rfl ?_
  refine V_iadd (κ := KL_feeds) (pc := 58) dL_feeds_58 ?_
  refine V_callV (ci := 9) (T := TJ0) (N := 4) rfl (by decide) (κ := KL_feeds) (pc := 59) (con_J0_charAt_5068e _ _ _) mth_J0_charAt_5068e rfl ⟨wd_727, wd_728⟩ wd_726 (st0 := [(0, bShl t110 8), (0, t108), (2, x4)]) rfl rfl (by decide) (Nat.le_of_ble_eq_true rfl) dL_feeds_59 (fun _ _ _ h => VX_out rfl (by decide) h) fun t113 u114 => ?_
  refine V_goto (κ := KL_feeds) (pc := 62) (tgt := 67) dL_feeds_62 rfl ?_
  exact VBL_feeds_67 hk4 hk20 _ _ _ _ _ _ _ _ _ _
theorem VLL_feeds_20 {Γ : Gam} {k4 : Int → Int → Int → Int → Mem → Rz} (hk4 : ∀ (y0 y1 y2 y3 : Int) (ν : Mem), V Γ KL_feeds 4 [(0, (2, y0)), (1, (2, y1)), (2, (0, y2)), (3, (0, y3))] [] ν (k4 y0 y1 y2 y3 ν)) : ∀ (n : Nat) (x0 x1 x3 x4 x5 : Int) (μ : Mem), V Γ KL_feeds 20 [(0, (2, x0)), (1, (2, x1)), (3, (0, x3)), (4, (2, x4)), (5, (0, x5))] [] μ (LL_feeds_20 k4 n x0 x1 x3 x4 x5 μ)
  | 0, _, _, _, _, _, _ => V_none
  | n + 1, x0, x1, x3, x4, x5, μ => VBL_feeds_20 hk4 (fun y0 y1 y3 y4 y5 ν => VLL_feeds_20 hk4 n y0 y1 y3 y4 y5 ν) x0 x1 x3 x4 x5 μ
theorem VBL_feeds_4 {Γ : Gam} {k4 : Int → Int → Int → Int → Mem → Rz} (hk4 : ∀ (y0 y1 y2 y3 : Int) (ν : Mem), V Γ KL_feeds 4 [(0, (2, y0)), (1, (2, y1)), (2, (0, y2)), (3, (0, y3))] [] ν (k4 y0 y1 y2 y3 ν)) (x0 x1 x2 x3 : Int) (μ : Mem) : V Γ KL_feeds 4 [(0, (2, x0)), (1, (2, x1)), (2, (0, x2)), (3, (0, x3))] [] μ (BL_feeds_4 k4 x0 x1 x2 x3 μ) := by
  unfold BL_feeds_4
  refine V_iload_n (κ := KL_feeds) (pc := 4) dL_feeds_4 3 rfl ?_
  refine V_aload_n (κ := KL_feeds) (pc := 5) dL_feeds_5 1 rfl rfl ?_
  refine V_callV (ci := 9) (T := TJ0) (N := 4) rfl (by decide) (κ := KL_feeds) (pc := 6) (con_J0_length_8abf5 _ _) mth_J0_length_8abf5 rfl ⟨wd_717, wd_718⟩ wd_716 (st0 := [(0, x3)]) rfl rfl (by decide) (Nat.le_of_ble_eq_true rfl) dL_feeds_6 (fun _ _ _ h => VX_out rfl (by decide) h) fun t101 u102 => ?_
  refine V_icmp_ge (κ := KL_feeds) (pc := 9) (tgt := 106) dL_feeds_9 rfl ?_ ?_
  · refine V_iload_n (κ := KL_feeds) (pc := 106) dL_feeds_106 2 rfl ?_
    exact V_ireturn (κ := KL_feeds) (pc := 107) rfl rfl dL_feeds_107
  refine V_iconst (κ := KL_feeds) (pc := 12) dL_feeds_12 ⟨by decide, by decide⟩ ?_
  refine V_newarrayN 1 (by decide) (κ := KL_feeds) (pc := 13) rfl wd_73 dL_feeds_13 fun t103 u104 => ?_
  refine V_astore (κ := KL_feeds) (pc := 15) (lv' := [(4, (2, t103)), (0, (2, x0)), (1, (2, x1)), (2, (0, x2)), (3, (0, x3))]) dL_feeds_15 rfl (by decide) rfl ?_
  refine V_iconst (κ := KL_feeds) (pc := 17) dL_feeds_17 ⟨by decide, by decide⟩ ?_
  refine V_istore (κ := KL_feeds) (pc := 18) (lv' := [(5, (0, 0)), (4, (2, t103)), (0, (2, x0)), (1, (2, x1)), (2, (0, x2)), (3, (0, x3))]) dL_feeds_18 (by decide) rfl ?_
  refine V_sub (lv' := [(0, (2, x0)), (1, (2, x1)), (3, (0, x3)), (4, (2, t103)), (5, (0, 0))]) [2, 3, 5, 1, 0] rfl ?_
  exact VLL_feeds_20 hk4 FU _ _ _ _ _ _
theorem VLL_feeds_4 {Γ : Gam} : ∀ (n : Nat) (x0 x1 x2 x3 : Int) (μ : Mem), V Γ KL_feeds 4 [(0, (2, x0)), (1, (2, x1)), (2, (0, x2)), (3, (0, x3))] [] μ (LL_feeds_4 n x0 x1 x2 x3 μ)
  | 0, _, _, _, _, _ => V_none
  | n + 1, x0, x1, x2, x3, μ => VBL_feeds_4 (fun y0 y1 y2 y3 ν => VLL_feeds_4 n y0 y1 y2 y3 ν) x0 x1 x2 x3 μ
theorem VBL_feeds_0 {Γ : Gam} (x0 x1 : Int) (μ : Mem) : V Γ KL_feeds 0 [(0, (2, x0)), (1, (2, x1))] [] μ (BL_feeds_0 x0 x1 μ) := by
  unfold BL_feeds_0
  refine V_iconst (κ := KL_feeds) (pc := 0) dL_feeds_0 ⟨by decide, by decide⟩ ?_
  refine V_istore_n (κ := KL_feeds) (pc := 1) (lv' := [(2, (0, 0)), (0, (2, x0)), (1, (2, x1))]) dL_feeds_1 (by decide) rfl ?_
  refine V_iconst (κ := KL_feeds) (pc := 2) dL_feeds_2 ⟨by decide, by decide⟩ ?_
  refine V_istore_n (κ := KL_feeds) (pc := 3) (lv' := [(3, (0, 0)), (2, (0, 0)), (0, (2, x0)), (1, (2, x1))]) dL_feeds_3 (by decide) rfl ?_
  refine V_sub (lv' := [(0, (2, x0)), (1, (2, x1)), (2, (0, 0)), (3, (0, 0))]) [2, 3, 1, 0] rfl ?_
  exact VLL_feeds_4 FU _ _ _ _ _
theorem con_L_feeds (a0 a1 : Int) (μ : Mem) : Con (6) yL_feeds (.code yL_feeds cL_feeds 6 (some .int)) 0 [(2, a0), (2, a1)] μ (FL_feeds a0 a1 μ) := Con_intro KL_feeds (plainFor_of_name (by decide)) rfl (fun h => by cases h) (by decide) rfl (Nat.le_of_ble_eq_true rfl) (fun Γ => VBL_feeds_0 _ _ _)
abbrev KL_read : Kap := (RL, cL_read, 2, 82, 0, (some .int), false, [])
theorem VBL_read_21 {Γ : Gam} (s0 : Int) (μ : Mem) : V Γ KL_read 21 [] [(0, s0)] μ (BL_read_21 s0 μ) := by
  unfold BL_read_21
  exact V_ireturn (κ := KL_read) (pc := 21) rfl rfl dL_read_21
theorem VBL_read_0 {Γ : Gam} (x0 x1 : Int) (μ : Mem) : V Γ KL_read 0 [(0, (2, x0)), (1, (2, x1))] [] μ (BL_read_0 x0 x1 μ) := by
  unfold BL_read_0
  refine V_aload_n (κ := KL_read) (pc := 0) dL_read_0 0 rfl rfl ?_
  refine V_aload_n (κ := KL_read) (pc := 1) dL_read_1 1 rfl rfl ?_
  refine V_callS (κ := KL_read) (pc := 2) (con_L_feeds _ _ _) mth_L_feeds wd_714 wd_713 (st0 := []) rfl rfl (by decide) (Nat.le_of_ble_eq_true rfl) dL_read_2 (fun _ _ _ h => VX_out rfl (by decide) h) fun t101 u102 => ?_
  refine V_if_ge (κ := KL_read) (pc := 5) (tgt := 13) dL_read_5 rfl ?_ ?_
  · refine V_aload_n (κ := KL_read) (pc := 13) dL_read_13 0 rfl rfl ?_
    refine V_aload_n (κ := KL_read) (pc := 14) dL_read_14 1 rfl rfl ?_
    refine V_callV (ci := 9) (T := TJ0) (N := 4) rfl (by decide) (κ := KL_read) (pc := 15) (con_J0_length_8abf5 _ _) mth_J0_length_8abf5 rfl ⟨wd_717, wd_718⟩ wd_716 (st0 := [(2, x0)]) rfl rfl (by decide) (Nat.le_of_ble_eq_true rfl) dL_read_15 (fun _ _ _ h => VX_out rfl (by decide) h) fun t103 u104 => ?_
    refine V_callV (ci := 6) (T := TX6) (N := 9) rfl (by decide) (κ := KL_read) (pc := 18) (con_X6_load _ _ _) mth_X6_load rfl ⟨wd_771, wd_772⟩ wd_770 (st0 := []) rfl rfl (by decide) (Nat.le_of_ble_eq_true rfl) dL_read_18 (fun _ _ _ h => VX_out rfl (by decide) h) fun t105 u106 => ?_
    refine V_sub (lv' := []) [] rfl ?_
    exact VBL_read_21 _ _
  refine V_bipush (κ := KL_read) (pc := 8) dL_read_8 ⟨by decide, by decide⟩ (by decide) ?_
  refine V_goto (κ := KL_read) (pc := 10) (tgt := 21) dL_read_10 rfl ?_
  refine V_sub (lv' := []) [] rfl ?_
  exact VBL_read_21 _ _
theorem con_L_read (a0 a1 : Int) (μ : Mem) : Con (82) yL_read (.code yL_read cL_read 2 (some .int)) 0 [(2, a0), (2, a1)] μ (FL_read a0 a1 μ) := Con_intro KL_read (plainFor_of_name (by decide)) rfl (fun h => by cases h) (by decide) rfl (Nat.le_of_ble_eq_true rfl) (fun Γ => VBL_read_0 _ _ _)
abbrev KL_shapeOf : Kap := (RL, cL_shapeOf, 1, 4, 2, (some (.object "java/lang/String")), false, [])
theorem VBL_shapeOf_31 {Γ : Gam} (s0 : Int) (μ : Mem) : V Γ KL_shapeOf 31 [] [(2, s0)] μ (BL_shapeOf_31 s0 μ) := by
  unfold BL_shapeOf_31
  exact V_areturn (κ := KL_shapeOf) (pc := 31) rfl rfl (by first | exact Or.inl ⟨_, rfl⟩ | exact Or.inr ⟨_, rfl⟩) dL_shapeOf_31
theorem VBL_shapeOf_0 {Γ : Gam} (x0 : Int) (μ : Mem) : V Γ KL_shapeOf 0 [(0, (0, x0))] [] μ (BL_shapeOf_0 x0 μ) := by
  unfold BL_shapeOf_0
  refine V_iload_n (κ := KL_shapeOf) (pc := 0) dL_shapeOf_0 0 rfl ?_
  refine V_if_ne (κ := KL_shapeOf) (pc := 1) (tgt := 9) dL_shapeOf_1 rfl ?_ ?_
  · refine V_iload_n (κ := KL_shapeOf) (pc := 9) dL_shapeOf_9 0 rfl ?_
    refine V_iconst (κ := KL_shapeOf) (pc := 10) dL_shapeOf_10 ⟨by decide, by decide⟩ ?_
    refine V_icmp_ne (κ := KL_shapeOf) (pc := 11) (tgt := 19) dL_shapeOf_11 rfl ?_ ?_
    · refine V_iload_n (κ := KL_shapeOf) (pc := 19) dL_shapeOf_19 0 rfl ?_
      refine V_iconst (κ := KL_shapeOf) (pc := 20) dL_shapeOf_20 ⟨by decide, by decide⟩ ?_
      refine V_icmp_ne (κ := KL_shapeOf) (pc := 21) (tgt := 29) dL_shapeOf_21 rfl ?_ ?_
      · refine V_ldcF (κ := KL_shapeOf) (pc := 29) (tx := "square") (w := 8) (show (RL, 40, "square", 8) ∈ lwds by decide) (by decide) dL_shapeOf_29 ?_
        refine V_sub (lv' := []) [] rfl ?_
        exact VBL_shapeOf_31 _ _
      refine V_ldcF (κ := KL_shapeOf) (pc := 24) (tx := "diamond") (w := 6) (show (RL, 38, "diamond", 6) ∈ lwds by decide) (by decide) dL_shapeOf_24 ?_
      refine V_goto (κ := KL_shapeOf) (pc := 26) (tgt := 31) dL_shapeOf_26 rfl ?_
      refine V_sub (lv' := []) [] rfl ?_
      exact VBL_shapeOf_31 _ _
    refine V_ldcF (κ := KL_shapeOf) (pc := 14) (tx := "line") (w := 4) (show (RL, 36, "line", 4) ∈ lwds by decide) (by decide) dL_shapeOf_14 ?_
    refine V_goto (κ := KL_shapeOf) (pc := 16) (tgt := 31) dL_shapeOf_16 rfl ?_
    refine V_sub (lv' := []) [] rfl ?_
    exact VBL_shapeOf_31 _ _
  refine V_ldcF (κ := KL_shapeOf) (pc := 4) (tx := "round") (w := 2) (show (RL, 34, "round", 2) ∈ lwds by decide) (by decide) dL_shapeOf_4 ?_
  refine V_goto (κ := KL_shapeOf) (pc := 6) (tgt := 31) dL_shapeOf_6 rfl ?_
  refine V_sub (lv' := []) [] rfl ?_
  exact VBL_shapeOf_31 _ _
theorem con_L_shapeOf (a0 : Int) (μ : Mem) : Con (4) yL_shapeOf (.code yL_shapeOf cL_shapeOf 1 (some (.object "java/lang/String"))) 2 [(0, a0)] μ (FL_shapeOf a0 μ) := Con_intro KL_shapeOf (plainFor_of_name (by decide)) rfl (fun h => by cases h) (by decide) rfl (Nat.le_of_ble_eq_true rfl) (fun Γ => VBL_shapeOf_0 _ _)
abbrev KL_toneOf : Kap := (RL, cL_toneOf, 3, 5, 0, (some .int), false, [])
theorem VBL_toneOf_0 {Γ : Gam} (x0 x1 x2 : Int) (μ : Mem) : V Γ KL_toneOf 0 [(0, (0, x0)), (1, (0, x1)), (2, (0, x2))] [] μ (BL_toneOf_0 x0 x1 x2 μ) := by
  unfold BL_toneOf_0
  refine V_iload_n (κ := KL_toneOf) (pc := 0) dL_toneOf_0 0 rfl ?_
  refine V_iload_n (κ := KL_toneOf) (pc := 1) dL_toneOf_1 1 rfl ?_
  refine V_iconst (κ := KL_toneOf) (pc := 2) dL_toneOf_2 ⟨by decide, by decide⟩ ?_
  refine V_iload_n (κ := KL_toneOf) (pc := 3) dL_toneOf_3 2 rfl ?_
  refine V_imul (κ := KL_toneOf) (pc := 4) dL_toneOf_4 ?_
  refine V_iadd (κ := KL_toneOf) (pc := 5) dL_toneOf_5 ?_
  refine V_bipush (κ := KL_toneOf) (pc := 6) dL_toneOf_6 ⟨by decide, by decide⟩ (by decide) ?_
  refine V_irem (κ := KL_toneOf) (pc := 8) dL_toneOf_8 fun t101 => ?_
  refine V_ishr (κ := KL_toneOf) (pc := 9) dL_toneOf_9 ?_
  refine V_bipush (κ := KL_toneOf) (pc := 10) dL_toneOf_10 ⟨by decide, by decide⟩ (by decide) ?_
  refine V_iload_n (κ := KL_toneOf) (pc := 12) dL_toneOf_12 1 rfl ?_
  refine V_imul (κ := KL_toneOf) (pc := 13) dL_toneOf_13 ?_
  refine V_iadd (κ := KL_toneOf) (pc := 14) dL_toneOf_14 ?_
  refine V_iconst (κ := KL_toneOf) (pc := 15) dL_toneOf_15 ⟨by decide, by decide⟩ ?_
  refine V_iload_n (κ := KL_toneOf) (pc := 16) dL_toneOf_16 2 rfl ?_
  refine V_imul (κ := KL_toneOf) (pc := 17) dL_toneOf_17 ?_
  refine V_iadd (κ := KL_toneOf) (pc := 18) dL_toneOf_18 ?_
  refine V_bipush (κ := KL_toneOf) (pc := 19) dL_toneOf_19 ⟨by decide, by decide⟩ (by decide) ?_
  refine V_callS (κ := KL_toneOf) (pc := 21) (con_L_bound _ _ _) mth_L_bound wd_707 wd_706 (st0 := []) rfl rfl (by decide) (Nat.le_of_ble_eq_true rfl) dL_toneOf_21 (fun _ _ _ h => VX_out rfl (by decide) h) fun t102 u103 => ?_
  exact V_ireturn (κ := KL_toneOf) (pc := 24) rfl rfl dL_toneOf_24
theorem con_L_toneOf (a0 a1 a2 : Int) (μ : Mem) : Con (5) yL_toneOf (.code yL_toneOf cL_toneOf 3 (some .int)) 0 [(0, a0), (0, a1), (0, a2)] μ (FL_toneOf a0 a1 a2 μ) := Con_intro KL_toneOf (plainFor_of_name (by decide)) rfl (fun h => by cases h) (by decide) rfl (Nat.le_of_ble_eq_true rfl) (fun Γ => VBL_toneOf_0 _ _ _ _)
abbrev KL_law : Kap := (RL, cL_law, 16, 83, 10, (some .boolean), false, [])
theorem VBL_law_376 {Γ : Gam} (hS : LW Γ) (μ : Mem) : V Γ KL_law 376 [] [] μ (BL_law_376 μ) := by
  unfold BL_law_376
  refine V_iconst (κ := KL_law) (pc := 376) dL_law_376 ⟨by decide, by decide⟩ ?_
  exact V_lawret hS rfl (κ := KL_law) (pc := 377) dL_law_377
theorem VBL_law_476 {Γ : Gam} (hS : LW Γ) (μ : Mem) : V Γ KL_law 476 [] [] μ (BL_law_476 μ) := by
  unfold BL_law_476
  refine V_iconst (κ := KL_law) (pc := 476) dL_law_476 ⟨by decide, by decide⟩ ?_
  exact V_lawret hS rfl (κ := KL_law) (pc := 477) dL_law_477
theorem VBL_law_566 {Γ : Gam} (hS : LW Γ) (μ : Mem) : V Γ KL_law 566 [] [] μ (BL_law_566 μ) := by
  unfold BL_law_566
  refine V_iconst (κ := KL_law) (pc := 566) dL_law_566 ⟨by decide, by decide⟩ ?_
  exact V_lawret hS rfl (κ := KL_law) (pc := 567) dL_law_567
theorem VBL_law_715 {Γ : Gam} (hS : LW Γ) (s0 : Int) (μ : Mem) : V Γ KL_law 715 [] [(0, s0)] μ (BL_law_715 s0 μ) := by
  unfold BL_law_715
  exact V_lawret hS rfl (κ := KL_law) (pc := 715) dL_law_715
theorem VBL_law_714 {Γ : Gam} (hS : LW Γ) (μ : Mem) : V Γ KL_law 714 [] [] μ (BL_law_714 μ) := by
  unfold BL_law_714
  refine V_iconst (κ := KL_law) (pc := 714) dL_law_714 ⟨by decide, by decide⟩ ?_
  exact VBL_law_715 hS _ _
theorem VBL_law_212 {Γ : Gam} (hS : LW Γ) {k212 : Int → Int → Int → Int → Int → Int → Int → Int → Int → Mem → Rz} (hk212 : ∀ (y0 y1 y2 y3 y4 y5 y6 y7 y8 : Int) (ν : Mem), V Γ KL_law 212 [(0, (2, y0)), (1, (0, y1)), (2, (0, y2)), (3, (0, y3)), (4, (0, y4)), (5, (2, y5)), (6, (2, y6)), (7, (2, y7)), (8, (0, y8))] [] ν (k212 y0 y1 y2 y3 y4 y5 y6 y7 y8 ν)) (x0 x1 x2 x3 x4 x5 x6 x7 x8 : Int) (μ : Mem) : V Γ KL_law 212 [(0, (2, x0)), (1, (0, x1)), (2, (0, x2)), (3, (0, x3)), (4, (0, x4)), (5, (2, x5)), (6, (2, x6)), (7, (2, x7)), (8, (0, x8))] [] μ (BL_law_212 k212 x0 x1 x2 x3 x4 x5 x6 x7 x8 μ) := by
  unfold BL_law_212
  refine V_iload (κ := KL_law) (pc := 212) dL_law_212 8 rfl ?_
  refine V_iload_n (κ := KL_law) (pc := 214) dL_law_214 3 rfl ?_
  refine V_icmp_ge (κ := KL_law) (pc := 215) (tgt := 339) dL_law_215 rfl ?_ ?_
  · refine V_new 6 (κ := KL_law) (pc := 339) rfl (by decide) rfl rfl inX6 tyX6 tyX6_ok (by decide) wd_31 wd_32 wd_19 dL_law_339 fun t101 u102 => ?_
    refine V_dup (κ := KL_law) (pc := 342) rfl dL_law_342 ?_
    refine V_callI (ci := 6) (by decide) (κ := KL_law) (pc := 343) (con_X6_init _ _) mth_X6_init rfl wd_34 wd_33 (st0 := [(2, t101)]) rfl rfl (by decide) (Nat.le_of_ble_eq_true rfl) dL_law_343 (fun _ _ _ _ => VX_none) fun _ u104 => ?_
    refine V_astore (κ := KL_law) (pc := 346) (lv' := [(8, (2, t101)), (0, (2, x0)), (1, (0, x1)), (2, (0, x2)), (3, (0, x3)), (4, (0, x4)), (5, (2, x5)), (6, (2, x6)), (7, (2, x7))]) dL_law_346 rfl (by decide) rfl ?_
    refine V_aload (κ := KL_law) (pc := 348) dL_law_348 0 rfl rfl ?_
    refine V_aload (κ := KL_law) (pc := 350) dL_law_350 6 rfl rfl ?_
    refine V_callV (ci := 10) (T := TJ4) (N := 4) rfl (by decide) (κ := KL_law) (pc := 352) (con_J4_toString_0e30d _ _) mth_J4_toString_0e30d rfl ⟨wd_1138, wd_1139⟩ wd_1137 (st0 := [(2, t101)]) rfl rfl (by decide) (Nat.le_of_ble_eq_true rfl) dL_law_352 (fun _ _ _ _ => VX_none) fun t105 u106 => ?_
    refine V_callS (κ := KL_law) (pc := 355) (con_L_read _ _ _) mth_L_read wd_711 wd_710 (st0 := []) rfl rfl (by decide) (Nat.le_of_ble_eq_true rfl) dL_law_355 (fun _ _ _ _ => VX_none) fun t107 u108 => ?_
    refine V_iload_n (κ := KL_law) (pc := 358) dL_law_358 4 rfl ?_
    refine V_icmp_ne (κ := KL_law) (pc := 359) (tgt := 376) dL_law_359 rfl ?_ ?_
    · refine V_sub (lv' := []) [] rfl ?_
      exact VBL_law_376 hS _
    refine V_aload (κ := KL_law) (pc := 362) dL_law_362 0 rfl rfl ?_
    refine V_aload (κ := KL_law) (pc := 364) dL_law_364 8 rfl rfl ?_
    refine V_aload (κ := KL_law) (pc := 366) dL_law_366 7 rfl rfl ?_
    refine V_iload (κ := KL_law) (pc := 368) dL_law_368 5 rfl ?_
    refine V_callS (κ := KL_law) (pc := 370) (con_L_isPrinted _ _ _ _ _) mth_L_isPrinted wd_930 wd_929 (st0 := []) rfl rfl (by decide) (Nat.le_of_ble_eq_true rfl) dL_law_370 (fun _ _ _ _ => VX_none) fun t109 u110 => ?_
    refine V_if_ne (κ := KL_law) (pc := 373) (tgt := 378) dL_law_373 rfl ?_ ?_
    · refine V_aload_n (κ := KL_law) (pc := 378) dL_law_378 1 rfl rfl ?_
      refine V_iconst (κ := KL_law) (pc := 379) dL_law_379 ⟨by decide, by decide⟩ ?_
      refine V_callS (κ := KL_law) (pc := 380) (con_L_cell _ _ _) mth_L_cell wd_704 wd_703 (st0 := []) rfl rfl (by decide) (Nat.le_of_ble_eq_true rfl) dL_law_380 (fun _ _ _ _ => VX_none) fun t111 u112 => ?_
      refine V_iload_n (κ := KL_law) (pc := 383) dL_law_383 4 rfl ?_
      refine V_callS (κ := KL_law) (pc := 384) (con_L_bound _ _ _) mth_L_bound wd_707 wd_706 (st0 := []) rfl rfl (by decide) (Nat.le_of_ble_eq_true rfl) dL_law_384 (fun _ _ _ _ => VX_none) fun t113 u114 => ?_
      refine V_istore (κ := KL_law) (pc := 387) (lv' := [(9, (0, t113)), (8, (2, t101)), (0, (2, x0)), (1, (0, x1)), (2, (0, x2)), (3, (0, x3)), (4, (0, x4)), (5, (2, x5)), (6, (2, x6)), (7, (2, x7))]) dL_law_387 (by decide) rfl ?_
      refine V_aload (κ := KL_law) (pc := 389) dL_law_389 9 rfl rfl ?_
      refine V_iload (κ := KL_law) (pc := 391) dL_law_391 0 rfl ?_
      refine V_callV (ci := 11) (T := TJx4a65c) (N := 3) rfl (by decide) (κ := KL_law) (pc := 393) (con_Jx4a65c_get_915e3 _ _ _) mth_Jx4a65c_get_915e3 rfl ⟨wd_602, wd_603⟩ wd_933 (st0 := []) rfl rfl (by decide) (Nat.le_of_ble_eq_true rfl) dL_law_393 (fun _ _ _ _ => VX_none) fun t115 u116 => ?_
      refine V_ccO 8 (by decide) (T := TX8) (N := 7) rfl (κ := KL_law) (pc := 396) wd_537 dL_law_396 ?_
      refine V_astore (κ := KL_law) (pc := 399) (lv' := [(10, (2, t115)), (9, (0, t113)), (8, (2, t101)), (0, (2, x0)), (1, (0, x1)), (2, (0, x2)), (3, (0, x3)), (4, (0, x4)), (5, (2, x5)), (6, (2, x6)), (7, (2, x7))]) dL_law_399 rfl (by decide) rfl ?_
      refine V_aload (κ := KL_law) (pc := 401) dL_law_401 0 rfl rfl ?_
      refine V_aload_n (κ := KL_law) (pc := 403) dL_law_403 3 rfl rfl ?_
      refine V_iconst (κ := KL_law) (pc := 404) dL_law_404 ⟨by decide, by decide⟩ ?_
      refine V_callS (κ := KL_law) (pc := 405) (con_L_cell _ _ _) mth_L_cell wd_704 wd_703 (st0 := [(2, t115)]) rfl rfl (by decide) (Nat.le_of_ble_eq_true rfl) dL_law_405 (fun _ _ _ _ => VX_none) fun t117 u118 => ?_
      refine V_iconst (κ := KL_law) (pc := 408) dL_law_408 ⟨by decide, by decide⟩ ?_
      refine V_ishr (κ := KL_law) (pc := 409) dL_law_409 ?_
      refine V_bipush (κ := KL_law) (pc := 410) dL_law_410 ⟨by decide, by decide⟩ (by decide) ?_
      refine V_callS (κ := KL_law) (pc := 412) (con_L_bound _ _ _) mth_L_bound wd_707 wd_706 (st0 := [(2, t115)]) rfl rfl (by decide) (Nat.le_of_ble_eq_true rfl) dL_law_412 (fun _ _ _ _ => VX_none) fun t119 u120 => ?_
      refine V_putfN 8 (κ := KL_law) (pc := 415) rfl (by decide) rfl inX8 tyX8 tyX8_ok nmX8 4 (by decide) (host := "TonePlatesLaw") (show _ ∈ lw_fnest by decide) rfl rfl (t := 0) rfl rfl dL_law_415 fun u121 => ?_
      refine V_aload (κ := KL_law) (pc := 418) dL_law_418 0 rfl rfl ?_
      refine V_aload_n (κ := KL_law) (pc := 420) dL_law_420 3 rfl rfl ?_
      refine V_iconst (κ := KL_law) (pc := 421) dL_law_421 ⟨by decide, by decide⟩ ?_
      refine V_callS (κ := KL_law) (pc := 422) (con_L_cell _ _ _) mth_L_cell wd_704 wd_703 (st0 := [(2, t115)]) rfl rfl (by decide) (Nat.le_of_ble_eq_true rfl) dL_law_422 (fun _ _ _ _ => VX_none) fun t122 u123 => ?_
      refine V_bipush (κ := KL_law) (pc := 425) dL_law_425 ⟨by decide, by decide⟩ (by decide) ?_
      refine V_ishr (κ := KL_law) (pc := 427) dL_law_427 ?_
      refine V_bipush (κ := KL_law) (pc := 428) dL_law_428 ⟨by decide, by decide⟩ (by decide) ?_
      refine V_callS (κ := KL_law) (pc := 430) (con_L_bound _ _ _) mth_L_bound wd_707 wd_706 (st0 := [(2, t115)]) rfl rfl (by decide) (Nat.le_of_ble_eq_true rfl) dL_law_430 (fun _ _ _ _ => VX_none) fun t124 u125 => ?_
      refine V_putfN 8 (κ := KL_law) (pc := 433) rfl (by decide) rfl inX8 tyX8 tyX8_ok nmX8 5 (by decide) (host := "TonePlatesLaw") (show _ ∈ lw_fnest by decide) rfl rfl (t := 0) rfl rfl dL_law_433 fun u126 => ?_
      refine V_aload (κ := KL_law) (pc := 436) dL_law_436 2 rfl rfl ?_
      refine V_iload (κ := KL_law) (pc := 438) dL_law_438 1 rfl ?_
      refine V_aload (κ := KL_law) (pc := 440) dL_law_440 0 rfl rfl ?_
      refine V_getfN 8 (κ := KL_law) (pc := 442) rfl (by decide) rfl inX8 4 (by decide) (host := "TonePlatesLaw") (show _ ∈ lw_fnest by decide) rfl (t := 0) rfl dL_law_442 fun t127 => ?_
      refine V_aload (κ := KL_law) (pc := 445) dL_law_445 0 rfl rfl ?_
      refine V_getfN 8 (κ := KL_law) (pc := 447) rfl (by decide) rfl inX8 5 (by decide) (host := "TonePlatesLaw") (show _ ∈ lw_fnest by decide) rfl (t := 0) rfl dL_law_447 fun t128 => ?_
      refine V_callV (ci := 6) (T := TX6) (N := 9) rfl (by decide) (κ := KL_law) (pc := 450) (con_X6_shift _ _ _ _ _) mth_X6_shift rfl ⟨wd_524, wd_525⟩ wd_523 (st0 := []) rfl rfl (by decide) (Nat.le_of_ble_eq_true rfl) dL_law_450 (fun _ _ _ _ => VX_none) fun t129 u130 => ?_
      refine V_aload (κ := KL_law) (pc := 453) dL_law_453 2 rfl rfl ?_
      refine V_iconst (κ := KL_law) (pc := 455) dL_law_455 ⟨by decide, by decide⟩ ?_
      refine V_callV (ci := 6) (T := TX6) (N := 9) rfl (by decide) (κ := KL_law) (pc := 456) (con_X6_state _ _ _) mth_X6_state rfl ⟨wd_273, wd_274⟩ wd_272 (st0 := [(0, t129)]) rfl rfl (by decide) (Nat.le_of_ble_eq_true rfl) dL_law_456 (fun _ _ _ _ => VX_none) fun t131 u132 => ?_
      refine V_icmp_ne (κ := KL_law) (pc := 459) (tgt := 476) dL_law_459 rfl ?_ ?_
      · refine V_sub (lv' := []) [] rfl ?_
        exact VBL_law_476 hS _
      refine V_aload (κ := KL_law) (pc := 462) dL_law_462 2 rfl rfl ?_
      refine V_aload (κ := KL_law) (pc := 464) dL_law_464 10 rfl rfl ?_
      refine V_aload (κ := KL_law) (pc := 466) dL_law_466 9 rfl rfl ?_
      refine V_iload (κ := KL_law) (pc := 468) dL_law_468 7 rfl ?_
      refine V_callS (κ := KL_law) (pc := 470) (con_L_isPrinted _ _ _ _ _) mth_L_isPrinted wd_930 wd_929 (st0 := []) rfl rfl (by decide) (Nat.le_of_ble_eq_true rfl) dL_law_470 (fun _ _ _ _ => VX_none) fun t133 u134 => ?_
      refine V_if_ne (κ := KL_law) (pc := 473) (tgt := 478) dL_law_473 rfl ?_ ?_
      · refine V_aload_n (κ := KL_law) (pc := 478) dL_law_478 3 rfl rfl ?_
        refine V_bipush (κ := KL_law) (pc := 479) dL_law_479 ⟨by decide, by decide⟩ (by decide) ?_
        refine V_callS (κ := KL_law) (pc := 481) (con_L_cell _ _ _) mth_L_cell wd_704 wd_703 (st0 := []) rfl rfl (by decide) (Nat.le_of_ble_eq_true rfl) dL_law_481 (fun _ _ _ _ => VX_none) fun t135 u136 => ?_
        refine V_iload_n (κ := KL_law) (pc := 484) dL_law_484 4 rfl ?_
        refine V_callS (κ := KL_law) (pc := 485) (con_L_bound _ _ _) mth_L_bound wd_707 wd_706 (st0 := []) rfl rfl (by decide) (Nat.le_of_ble_eq_true rfl) dL_law_485 (fun _ _ _ _ => VX_none) fun t137 u138 => ?_
        refine V_istore (κ := KL_law) (pc := 488) (lv' := [(11, (0, t137)), (10, (2, t115)), (9, (0, t113)), (8, (2, t101)), (0, (2, x0)), (1, (0, x1)), (2, (0, x2)), (3, (0, x3)), (4, (0, x4)), (5, (2, x5)), (6, (2, x6)), (7, (2, x7))]) dL_law_488 (by decide) rfl ?_
        refine V_aload_n (κ := KL_law) (pc := 490) dL_law_490 4 rfl rfl ?_
        refine V_bipush (κ := KL_law) (pc := 491) dL_law_491 ⟨by decide, by decide⟩ (by decide) ?_
        refine V_callS (κ := KL_law) (pc := 493) (con_L_cell _ _ _) mth_L_cell wd_704 wd_703 (st0 := []) rfl rfl (by decide) (Nat.le_of_ble_eq_true rfl) dL_law_493 (fun _ _ _ _ => VX_none) fun t139 u140 => ?_
        refine V_iconst (κ := KL_law) (pc := 496) dL_law_496 ⟨by decide, by decide⟩ ?_
        refine V_ishr (κ := KL_law) (pc := 497) dL_law_497 ?_
        refine V_iload_n (κ := KL_law) (pc := 498) dL_law_498 6 rfl ?_
        refine V_callS (κ := KL_law) (pc := 499) (con_L_bound _ _ _) mth_L_bound wd_707 wd_706 (st0 := []) rfl rfl (by decide) (Nat.le_of_ble_eq_true rfl) dL_law_499 (fun _ _ _ _ => VX_none) fun t141 u142 => ?_
        refine V_istore (κ := KL_law) (pc := 502) (lv' := [(12, (0, t141)), (11, (0, t137)), (10, (2, t115)), (9, (0, t113)), (8, (2, t101)), (0, (2, x0)), (1, (0, x1)), (2, (0, x2)), (3, (0, x3)), (4, (0, x4)), (5, (2, x5)), (6, (2, x6)), (7, (2, x7))]) dL_law_502 (by decide) rfl ?_
        refine V_aload_n (κ := KL_law) (pc := 504) dL_law_504 5 rfl rfl ?_
        refine V_bipush (κ := KL_law) (pc := 505) dL_law_505 ⟨by decide, by decide⟩ (by decide) ?_
        refine V_callS (κ := KL_law) (pc := 507) (con_L_cell _ _ _) mth_L_cell wd_704 wd_703 (st0 := []) rfl rfl (by decide) (Nat.le_of_ble_eq_true rfl) dL_law_507 (fun _ _ _ _ => VX_none) fun t143 u144 => ?_
        refine V_bipush (κ := KL_law) (pc := 510) dL_law_510 ⟨by decide, by decide⟩ (by decide) ?_
        refine V_ishr (κ := KL_law) (pc := 512) dL_law_512 ?_
        refine V_bipush (κ := KL_law) (pc := 513) dL_law_513 ⟨by decide, by decide⟩ (by decide) ?_
        refine V_callS (κ := KL_law) (pc := 515) (con_L_bound _ _ _) mth_L_bound wd_707 wd_706 (st0 := []) rfl rfl (by decide) (Nat.le_of_ble_eq_true rfl) dL_law_515 (fun _ _ _ _ => VX_none) fun t145 u146 => ?_
        refine V_istore (κ := KL_law) (pc := 518) (lv' := [(13, (0, t145)), (12, (0, t141)), (11, (0, t137)), (10, (2, t115)), (9, (0, t113)), (8, (2, t101)), (0, (2, x0)), (1, (0, x1)), (2, (0, x2)), (3, (0, x3)), (4, (0, x4)), (5, (2, x5)), (6, (2, x6)), (7, (2, x7))]) dL_law_518 (by decide) rfl ?_
        refine V_aload (κ := KL_law) (pc := 520) dL_law_520 12 rfl rfl ?_
        refine V_iload (κ := KL_law) (pc := 522) dL_law_522 1 rfl ?_
        refine V_aaload 7 (by decide) rfl rfl (κ := KL_law) (pc := 524) dL_law_524 fun t147 => ?_
        refine V_iload (κ := KL_law) (pc := 525) dL_law_525 2 rfl ?_
        refine V_iload (κ := KL_law) (pc := 527) dL_law_527 0 rfl ?_
        refine V_iastore (κ := KL_law) (pc := 529) dL_law_529 fun u148 => ?_
        refine V_aload (κ := KL_law) (pc := 530) dL_law_530 5 rfl rfl ?_
        refine V_iload (κ := KL_law) (pc := 532) dL_law_532 2 rfl ?_
        refine V_iload (κ := KL_law) (pc := 534) dL_law_534 1 rfl ?_
        refine V_iconst (κ := KL_law) (pc := 536) dL_law_536 ⟨by decide, by decide⟩ ?_
        refine V_iconst (κ := KL_law) (pc := 537) dL_law_537 ⟨by decide, by decide⟩ ?_
        refine V_iload (κ := KL_law) (pc := 538) dL_law_538 0 rfl ?_
        refine V_callV (ci := 6) (T := TX6) (N := 9) rfl (by decide) (κ := KL_law) (pc := 540) (con_X6_paint _ _ _ _ _ _ _) mth_X6_paint rfl ⟨wd_453, wd_454⟩ wd_452 (st0 := []) rfl rfl (by decide) (Nat.le_of_ble_eq_true rfl) dL_law_540 (fun _ _ _ _ => VX_none) fun t149 u150 => ?_
        refine V_aload (κ := KL_law) (pc := 543) dL_law_543 5 rfl rfl ?_
        refine V_iconst (κ := KL_law) (pc := 545) dL_law_545 ⟨by decide, by decide⟩ ?_
        refine V_callV (ci := 6) (T := TX6) (N := 9) rfl (by decide) (κ := KL_law) (pc := 546) (con_X6_state _ _ _) mth_X6_state rfl ⟨wd_273, wd_274⟩ wd_272 (st0 := [(0, t149)]) rfl rfl (by decide) (Nat.le_of_ble_eq_true rfl) dL_law_546 (fun _ _ _ _ => VX_none) fun t151 u152 => ?_
        refine V_icmp_ne (κ := KL_law) (pc := 549) (tgt := 566) dL_law_549 rfl ?_ ?_
        · refine V_sub (lv' := []) [] rfl ?_
          exact VBL_law_566 hS _
        refine V_aload (κ := KL_law) (pc := 552) dL_law_552 5 rfl rfl ?_
        refine V_aload (κ := KL_law) (pc := 554) dL_law_554 13 rfl rfl ?_
        refine V_aload (κ := KL_law) (pc := 556) dL_law_556 12 rfl rfl ?_
        refine V_iload (κ := KL_law) (pc := 558) dL_law_558 10 rfl ?_
        refine V_callS (κ := KL_law) (pc := 560) (con_L_isPrinted _ _ _ _ _) mth_L_isPrinted wd_930 wd_929 (st0 := []) rfl rfl (by decide) (Nat.le_of_ble_eq_true rfl) dL_law_560 (fun _ _ _ _ => VX_none) fun t153 u154 => ?_
        refine V_if_ne (κ := KL_law) (pc := 563) (tgt := 568) dL_law_563 rfl ?_ ?_
        · refine V_aload_n (κ := KL_law) (pc := 568) dL_law_568 6 rfl rfl ?_
          refine V_bipush (κ := KL_law) (pc := 569) dL_law_569 ⟨by decide, by decide⟩ (by decide) ?_
          refine V_callS (κ := KL_law) (pc := 571) (con_L_cell _ _ _) mth_L_cell wd_704 wd_703 (st0 := []) rfl rfl (by decide) (Nat.le_of_ble_eq_true rfl) dL_law_571 (fun _ _ _ _ => VX_none) fun t155 u156 => ?_
          refine V_iconst (κ := KL_law) (pc := 574) dL_law_574 ⟨by decide, by decide⟩ ?_
          refine V_callS (κ := KL_law) (pc := 575) (con_L_bound _ _ _) mth_L_bound wd_707 wd_706 (st0 := []) rfl rfl (by decide) (Nat.le_of_ble_eq_true rfl) dL_law_575 (fun _ _ _ _ => VX_none) fun t157 u158 => ?_
          refine V_istore (κ := KL_law) (pc := 578) (lv' := [(14, (0, t157)), (13, (0, t145)), (12, (0, t141)), (11, (0, t137)), (10, (2, t115)), (9, (0, t113)), (8, (2, t101)), (0, (2, x0)), (1, (0, x1)), (2, (0, x2)), (3, (0, x3)), (4, (0, x4)), (5, (2, x5)), (6, (2, x6)), (7, (2, x7))]) dL_law_578 (by decide) rfl ?_
          refine V_aload (κ := KL_law) (pc := 580) dL_law_580 6 rfl rfl ?_
          refine V_iload (κ := KL_law) (pc := 582) dL_law_582 5 rfl ?_
          refine V_iload (κ := KL_law) (pc := 584) dL_law_584 0 rfl ?_
          refine V_callV (ci := 6) (T := TX6) (N := 9) rfl (by decide) (κ := KL_law) (pc := 586) (con_X6_shape _ _ _ _) mth_X6_shape rfl ⟨wd_514, wd_515⟩ wd_513 (st0 := []) rfl rfl (by decide) (Nat.le_of_ble_eq_true rfl) dL_law_586 (fun _ _ _ _ => VX_none) fun t159 u160 => ?_
          refine V_aload (κ := KL_law) (pc := 589) dL_law_589 4 rfl rfl ?_
          refine V_getfN 8 (κ := KL_law) (pc := 591) rfl (by decide) rfl inX8 3 (by decide) (host := "TonePlatesLaw") (show _ ∈ lw_fnest by decide) rfl (t := 0) rfl dL_law_591 fun t161 => ?_
          refine V_icmp_eq (κ := KL_law) (pc := 594) (tgt := 599) dL_law_594 rfl ?_ ?_
          · refine V_newN 8 (κ := KL_law) (pc := 599) rfl (by decide) rfl rfl inX8 tyX8 tyX8_ok (by decide) wd_537 wd_538 wd_16 dL_law_599 fun t162 u163 => ?_
            refine V_dup (κ := KL_law) (pc := 602) rfl dL_law_602 ?_
            refine V_aload (κ := KL_law) (pc := 603) dL_law_603 4 rfl rfl ?_
            refine V_getfN 8 (κ := KL_law) (pc := 605) rfl (by decide) rfl inX8 0 (by decide) (host := "TonePlatesLaw") (show _ ∈ lw_fnest by decide) rfl (t := 0) rfl dL_law_605 fun t164 => ?_
            refine V_aload (κ := KL_law) (pc := 608) dL_law_608 4 rfl rfl ?_
            refine V_getfN 8 (κ := KL_law) (pc := 610) rfl (by decide) rfl inX8 1 (by decide) (host := "TonePlatesLaw") (show _ ∈ lw_fnest by decide) rfl (t := 0) rfl dL_law_610 fun t165 => ?_
            refine V_iload (κ := KL_law) (pc := 613) dL_law_613 0 rfl ?_
            refine V_callI (ci := 8) (by decide) (κ := KL_law) (pc := 615) (con_X8_init _ _ _ _ _) mth_X8_init rfl wd_540 wd_539 (st0 := [(2, t162)]) rfl rfl (by decide) (Nat.le_of_ble_eq_true rfl) dL_law_615 (fun _ _ _ _ => VX_none) fun _ u167 => ?_
            refine V_astore (κ := KL_law) (pc := 618) (lv' := [(15, (2, t162)), (14, (0, t157)), (13, (0, t145)), (12, (0, t141)), (11, (0, t137)), (10, (2, t115)), (9, (0, t113)), (8, (2, t101)), (0, (2, x0)), (1, (0, x1)), (2, (0, x2)), (3, (0, x3)), (4, (0, x4)), (5, (2, x5)), (6, (2, x6)), (7, (2, x7))]) dL_law_618 rfl (by decide) rfl ?_
            refine V_aload (κ := KL_law) (pc := 620) dL_law_620 0 rfl rfl ?_
            refine V_aload (κ := KL_law) (pc := 622) dL_law_622 5 rfl rfl ?_
            refine V_getfN 8 (κ := KL_law) (pc := 624) rfl (by decide) rfl inX8 4 (by decide) (host := "TonePlatesLaw") (show _ ∈ lw_fnest by decide) rfl (t := 0) rfl dL_law_624 fun t168 => ?_
            refine V_putfN 8 (κ := KL_law) (pc := 627) rfl (by decide) rfl inX8 tyX8 tyX8_ok nmX8 4 (by decide) (host := "TonePlatesLaw") (show _ ∈ lw_fnest by decide) rfl rfl (t := 0) rfl rfl dL_law_627 fun u169 => ?_
            refine V_aload (κ := KL_law) (pc := 630) dL_law_630 0 rfl rfl ?_
            refine V_aload (κ := KL_law) (pc := 632) dL_law_632 5 rfl rfl ?_
            refine V_getfN 8 (κ := KL_law) (pc := 634) rfl (by decide) rfl inX8 5 (by decide) (host := "TonePlatesLaw") (show _ ∈ lw_fnest by decide) rfl (t := 0) rfl dL_law_634 fun t170 => ?_
            refine V_putfN 8 (κ := KL_law) (pc := 637) rfl (by decide) rfl inX8 tyX8 tyX8_ok nmX8 5 (by decide) (host := "TonePlatesLaw") (show _ ∈ lw_fnest by decide) rfl rfl (t := 0) rfl rfl dL_law_637 fun u171 => ?_
            refine V_aload (κ := KL_law) (pc := 640) dL_law_640 15 rfl rfl ?_
            refine V_iload (κ := KL_law) (pc := 642) dL_law_642 6 rfl ?_
            refine V_aload (κ := KL_law) (pc := 644) dL_law_644 0 rfl rfl ?_
            refine V_callV (ci := 11) (T := TJx4a65c) (N := 3) rfl (by decide) (κ := KL_law) (pc := 646) (con_Jx4a65c_set_bcc79 _ _ _ _) mth_Jx4a65c_set_bcc79 rfl ⟨wd_1197, wd_1198⟩ wd_1196 (st0 := []) rfl rfl (by decide) (Nat.le_of_ble_eq_true rfl) dL_law_646 (fun _ _ _ _ => VX_none) fun t172 u173 => ?_
            refine V_pop (κ := KL_law) (pc := 649) rfl dL_law_649 ?_
            refine V_aload (κ := KL_law) (pc := 650) dL_law_650 7 rfl rfl ?_
            refine V_aload (κ := KL_law) (pc := 652) dL_law_652 15 rfl rfl ?_
            refine V_aload (κ := KL_law) (pc := 654) dL_law_654 14 rfl rfl ?_
            refine V_iload (κ := KL_law) (pc := 656) dL_law_656 12 rfl ?_
            refine V_callS (κ := KL_law) (pc := 658) (con_L_isPrinted _ _ _ _ _) mth_L_isPrinted wd_930 wd_929 (st0 := []) rfl rfl (by decide) (Nat.le_of_ble_eq_true rfl) dL_law_658 (fun _ _ _ _ => VX_none) fun t174 u175 => ?_
            refine V_if_eq (κ := KL_law) (pc := 661) (tgt := 714) dL_law_661 rfl ?_ ?_
            · refine V_sub (lv' := []) [] rfl ?_
              exact VBL_law_714 hS _
            refine V_aload (κ := KL_law) (pc := 664) dL_law_664 7 rfl rfl ?_
            refine V_iconst (κ := KL_law) (pc := 666) dL_law_666 ⟨by decide, by decide⟩ ?_
            refine V_callV (ci := 6) (T := TX6) (N := 9) rfl (by decide) (κ := KL_law) (pc := 667) (con_X6_limit _ _ _) mth_X6_limit rfl ⟨wd_529, wd_530⟩ wd_528 (st0 := []) rfl rfl (by decide) (Nat.le_of_ble_eq_true rfl) dL_law_667 (fun _ _ _ _ => VX_none) fun t176 u177 => ?_
            refine V_iload (κ := KL_law) (pc := 670) dL_law_670 12 rfl ?_
            refine V_icmp_ne (κ := KL_law) (pc := 672) (tgt := 714) dL_law_672 rfl ?_ ?_
            · refine V_sub (lv' := []) [] rfl ?_
              exact VBL_law_714 hS _
            refine V_aload (κ := KL_law) (pc := 675) dL_law_675 7 rfl rfl ?_
            refine V_aload (κ := KL_law) (pc := 677) dL_law_677 15 rfl rfl ?_
            refine V_aload (κ := KL_law) (pc := 679) dL_law_679 14 rfl rfl ?_
            refine V_iconst (κ := KL_law) (pc := 681) dL_law_681 ⟨by decide, by decide⟩ ?_
            refine V_callS (κ := KL_law) (pc := 682) (con_L_isPrinted _ _ _ _ _) mth_L_isPrinted wd_930 wd_929 (st0 := []) rfl rfl (by decide) (Nat.le_of_ble_eq_true rfl) dL_law_682 (fun _ _ _ _ => VX_none) fun t178 u179 => ?_
            refine V_if_eq (κ := KL_law) (pc := 685) (tgt := 714) dL_law_685 rfl ?_ ?_
            · refine V_sub (lv' := []) [] rfl ?_
              exact VBL_law_714 hS _
            refine V_aload (κ := KL_law) (pc := 688) dL_law_688 7 rfl rfl ?_
            refine V_callV (ci := 6) (T := TX6) (N := 9) rfl (by decide) (κ := KL_law) (pc := 690) (con_X6_undo _ _) mth_X6_undo rfl ⟨wd_534, wd_535⟩ wd_533 (st0 := []) rfl rfl (by decide) (Nat.le_of_ble_eq_true rfl) dL_law_690 (fun _ _ _ _ => VX_none) fun t180 u181 => ?_
            refine V_if_lt (κ := KL_law) (pc := 693) (tgt := 714) dL_law_693 rfl ?_ ?_
            · refine V_sub (lv' := []) [] rfl ?_
              exact VBL_law_714 hS _
            refine V_aload (κ := KL_law) (pc := 696) dL_law_696 7 rfl rfl ?_
            refine V_aload (κ := KL_law) (pc := 698) dL_law_698 15 rfl rfl ?_
            refine V_aload (κ := KL_law) (pc := 700) dL_law_700 14 rfl rfl ?_
            refine V_iload (κ := KL_law) (pc := 702) dL_law_702 12 rfl ?_
            refine V_callS (κ := KL_law) (pc := 704) (con_L_isPrinted _ _ _ _ _) mth_L_isPrinted wd_930 wd_929 (st0 := []) rfl rfl (by decide) (Nat.le_of_ble_eq_true rfl) dL_law_704 (fun _ _ _ _ => VX_none) fun t182 u183 => ?_
            refine V_if_eq (κ := KL_law) (pc := 707) (tgt := 714) dL_law_707 rfl ?_ ?_
            · refine V_sub (lv' := []) [] rfl ?_
              exact VBL_law_714 hS _
            refine V_iconst (κ := KL_law) (pc := 710) dL_law_710 ⟨by decide, by decide⟩ ?_
            refine V_goto (κ := KL_law) (pc := 711) (tgt := 715) dL_law_711 rfl ?_
            refine V_sub (lv' := []) [] rfl ?_
            exact VBL_law_715 hS _ _
          refine V_iconst (κ := KL_law) (pc := 597) dL_law_597 ⟨by decide, by decide⟩ ?_
          exact V_lawret hS rfl (κ := KL_law) (pc := 598) dL_law_598
        refine V_sub (lv' := []) [] rfl ?_
        exact VBL_law_566 hS _
      refine V_sub (lv' := []) [] rfl ?_
      exact VBL_law_476 hS _
    refine V_sub (lv' := []) [] rfl ?_
    exact VBL_law_376 hS _
  refine V_iconst (κ := KL_law) (pc := 218) dL_law_218 ⟨by decide, by decide⟩ ?_
  refine V_aload_n (κ := KL_law) (pc := 219) dL_law_219 0 rfl rfl ?_
  refine V_iconst (κ := KL_law) (pc := 220) dL_law_220 ⟨by decide, by decide⟩ ?_
  refine V_iload (κ := KL_law) (pc := 221) dL_law_221 8 rfl ?_
  refine V_iadd (κ := KL_law) (pc := 223) dL_law_223 ?_
  refine V_callS (κ := KL_law) (pc := 224) (con_L_cell _ _ _) mth_L_cell wd_704 wd_703 (st0 := [(0, 1)]) rfl rfl (by decide) (Nat.le_of_ble_eq_true rfl) dL_law_224 (fun _ _ _ _ => VX_none) fun t184 u185 => ?_
  refine V_bipush (κ := KL_law) (pc := 227) dL_law_227 ⟨by decide, by decide⟩ (by decide) ?_
  refine V_callS (κ := KL_law) (pc := 229) (con_L_bound _ _ _) mth_L_bound wd_707 wd_706 (st0 := [(0, 1)]) rfl rfl (by decide) (Nat.le_of_ble_eq_true rfl) dL_law_229 (fun _ _ _ _ => VX_none) fun t186 u187 => ?_
  refine V_iadd (κ := KL_law) (pc := 232) dL_law_232 ?_
  refine V_LT fun x188 => ?_
  refine V_istore (κ := KL_law) (pc := 233) (lv' := [(9, (0, x188)), (0, (2, x0)), (1, (0, x1)), (2, (0, x2)), (3, (0, x3)), (4, (0, x4)), (5, (2, x5)), (6, (2, x6)), (7, (2, x7)), (8, (0, x8))]) dL_law_233 (by decide) rfl ?_
  refine V_aload_n (κ := KL_law) (pc := 235) dL_law_235 1 rfl rfl ?_
  refine V_iconst (κ := KL_law) (pc := 236) dL_law_236 ⟨by decide, by decide⟩ ?_
  refine V_iload (κ := KL_law) (pc := 237) dL_law_237 9 rfl ?_
  refine V_iadd (κ := KL_law) (pc := 239) dL_law_239 ?_
  refine V_callS (κ := KL_law) (pc := 240) (con_L_cell _ _ _) mth_L_cell wd_704 wd_703 (st0 := []) rfl rfl (by decide) (Nat.le_of_ble_eq_true rfl) dL_law_240 (fun _ _ _ _ => VX_none) fun t189 u190 => ?_
  refine V_iconst (κ := KL_law) (pc := 243) dL_law_243 ⟨by decide, by decide⟩ ?_
  refine V_ishr (κ := KL_law) (pc := 244) dL_law_244 ?_
  refine V_iconst (κ := KL_law) (pc := 245) dL_law_245 ⟨by decide, by decide⟩ ?_
  refine V_callS (κ := KL_law) (pc := 246) (con_L_bound _ _ _) mth_L_bound wd_707 wd_706 (st0 := []) rfl rfl (by decide) (Nat.le_of_ble_eq_true rfl) dL_law_246 (fun _ _ _ _ => VX_none) fun t191 u192 => ?_
  refine V_istore (κ := KL_law) (pc := 249) (lv' := [(10, (0, t191)), (9, (0, x188)), (0, (2, x0)), (1, (0, x1)), (2, (0, x2)), (3, (0, x3)), (4, (0, x4)), (5, (2, x5)), (6, (2, x6)), (7, (2, x7)), (8, (0, x8))]) dL_law_249 (by decide) rfl ?_
  refine V_aload (κ := KL_law) (pc := 251) dL_law_251 9 rfl rfl ?_
  refine V_newN 8 (κ := KL_law) (pc := 253) rfl (by decide) rfl rfl inX8 tyX8 tyX8_ok (by decide) wd_537 wd_538 wd_16 dL_law_253 fun t193 u194 => ?_
  refine V_dup (κ := KL_law) (pc := 256) rfl dL_law_256 ?_
  refine V_iload (κ := KL_law) (pc := 257) dL_law_257 1 rfl ?_
  refine V_iconst (κ := KL_law) (pc := 259) dL_law_259 ⟨by decide, by decide⟩ ?_
  refine V_idiv (κ := KL_law) (pc := 260) dL_law_260 fun t195 => ?_
  refine V_iload (κ := KL_law) (pc := 261) dL_law_261 1 rfl ?_
  refine V_iconst (κ := KL_law) (pc := 263) dL_law_263 ⟨by decide, by decide⟩ ?_
  refine V_irem (κ := KL_law) (pc := 264) dL_law_264 fun t196 => ?_
  refine V_iload (κ := KL_law) (pc := 265) dL_law_265 0 rfl ?_
  refine V_callI (ci := 8) (by decide) (κ := KL_law) (pc := 267) (con_X8_init _ _ _ _ _) mth_X8_init rfl wd_540 wd_539 (st0 := [(2, t193), (2, x7)]) rfl rfl (by decide) (Nat.le_of_ble_eq_true rfl) dL_law_267 (fun _ _ _ _ => VX_none) fun _ u198 => ?_
  refine V_callV (ci := 11) (T := TJx4a65c) (N := 3) rfl (by decide) (κ := KL_law) (pc := 270) (con_Jx4a65c_add_9ea2d _ _ _) mth_Jx4a65c_add_9ea2d rfl ⟨wd_1201, wd_1202⟩ wd_1200 (st0 := []) rfl rfl (by decide) (Nat.le_of_ble_eq_true rfl) dL_law_270 (fun _ _ _ _ => VX_none) fun t199 u200 => ?_
  refine V_pop (κ := KL_law) (pc := 273) rfl dL_law_273 ?_
  refine V_aload (κ := KL_law) (pc := 274) dL_law_274 7 rfl rfl ?_
  refine V_ldcF (κ := KL_law) (pc := 276) (tx := "plate ") (w := 18) (show (RL, 129, "plate ", 18) ∈ lwds by decide) (by decide) dL_law_276 ?_
  refine V_callV (ci := 10) (T := TJ4) (N := 4) rfl (by decide) (κ := KL_law) (pc := 278) (con_J4_append_15ec4 _ _ _) mth_J4_append_15ec4 rfl ⟨wd_1019, wd_1020⟩ wd_1098 (st0 := []) rfl rfl (by decide) (Nat.le_of_ble_eq_true rfl) dL_law_278 (fun _ _ _ _ => VX_none) fun t201 u202 => ?_
  refine V_bipush (κ := KL_law) (pc := 281) dL_law_281 ⟨by decide, by decide⟩ (by decide) ?_
  refine V_iload (κ := KL_law) (pc := 283) dL_law_283 10 rfl ?_
  refine V_iadd (κ := KL_law) (pc := 285) dL_law_285 ?_
  refine V_i2c (κ := KL_law) (pc := 286) dL_law_286 ?_
  refine V_callV (ci := 10) (T := TJ4) (N := 4) rfl (by decide) (κ := KL_law) (pc := 287) (con_J4_append_cf468 _ _ _) mth_J4_append_cf468 rfl ⟨wd_1100, wd_1101⟩ wd_1099 (st0 := []) rfl rfl (by decide) (Nat.le_of_ble_eq_true rfl) dL_law_287 (fun _ _ _ _ => VX_none) fun t203 u204 => ?_
  refine V_bipush (κ := KL_law) (pc := 290) dL_law_290 ⟨by decide, by decide⟩ (by decide) ?_
  refine V_callV (ci := 10) (T := TJ4) (N := 4) rfl (by decide) (κ := KL_law) (pc := 292) (con_J4_append_cf468 _ _ _) mth_J4_append_cf468 rfl ⟨wd_1100, wd_1101⟩ wd_1099 (st0 := []) rfl rfl (by decide) (Nat.le_of_ble_eq_true rfl) dL_law_292 (fun _ _ _ _ => VX_none) fun t205 u206 => ?_
  refine V_iload (κ := KL_law) (pc := 295) dL_law_295 1 rfl ?_
  refine V_iconst (κ := KL_law) (pc := 297) dL_law_297 ⟨by decide, by decide⟩ ?_
  refine V_idiv (κ := KL_law) (pc := 298) dL_law_298 fun t207 => ?_
  refine V_callV (ci := 10) (T := TJ4) (N := 4) rfl (by decide) (κ := KL_law) (pc := 299) (con_J4_append_bf812 _ _ _) mth_J4_append_bf812 rfl ⟨wd_1113, wd_1114⟩ wd_1112 (st0 := []) rfl rfl (by decide) (Nat.le_of_ble_eq_true rfl) dL_law_299 (fun _ _ _ _ => VX_none) fun t208 u209 => ?_
  refine V_bipush (κ := KL_law) (pc := 302) dL_law_302 ⟨by decide, by decide⟩ (by decide) ?_
  refine V_callV (ci := 10) (T := TJ4) (N := 4) rfl (by decide) (κ := KL_law) (pc := 304) (con_J4_append_cf468 _ _ _) mth_J4_append_cf468 rfl ⟨wd_1100, wd_1101⟩ wd_1099 (st0 := []) rfl rfl (by decide) (Nat.le_of_ble_eq_true rfl) dL_law_304 (fun _ _ _ _ => VX_none) fun t210 u211 => ?_
  refine V_iload (κ := KL_law) (pc := 307) dL_law_307 1 rfl ?_
  refine V_iconst (κ := KL_law) (pc := 309) dL_law_309 ⟨by decide, by decide⟩ ?_
  refine V_irem (κ := KL_law) (pc := 310) dL_law_310 fun t212 => ?_
  refine V_callV (ci := 10) (T := TJ4) (N := 4) rfl (by decide) (κ := KL_law) (pc := 311) (con_J4_append_bf812 _ _ _) mth_J4_append_bf812 rfl ⟨wd_1113, wd_1114⟩ wd_1112 (st0 := []) rfl rfl (by decide) (Nat.le_of_ble_eq_true rfl) dL_law_311 (fun _ _ _ _ => VX_none) fun t213 u214 => ?_
  refine V_bipush (κ := KL_law) (pc := 314) dL_law_314 ⟨by decide, by decide⟩ (by decide) ?_
  refine V_callV (ci := 10) (T := TJ4) (N := 4) rfl (by decide) (κ := KL_law) (pc := 316) (con_J4_append_cf468 _ _ _) mth_J4_append_cf468 rfl ⟨wd_1100, wd_1101⟩ wd_1099 (st0 := []) rfl rfl (by decide) (Nat.le_of_ble_eq_true rfl) dL_law_316 (fun _ _ _ _ => VX_none) fun t215 u216 => ?_
  refine V_iload (κ := KL_law) (pc := 319) dL_law_319 0 rfl ?_
  refine V_callS (κ := KL_law) (pc := 321) (con_L_shapeOf _ _) mth_L_shapeOf wd_920 wd_919 (st0 := [(2, t215)]) rfl rfl (by decide) (Nat.le_of_ble_eq_true rfl) dL_law_321 (fun _ _ _ _ => VX_none) fun t217 u218 => ?_
  refine V_callV (ci := 10) (T := TJ4) (N := 4) rfl (by decide) (κ := KL_law) (pc := 324) (con_J4_append_15ec4 _ _ _) mth_J4_append_15ec4 rfl ⟨wd_1019, wd_1020⟩ wd_1098 (st0 := []) rfl rfl (by decide) (Nat.le_of_ble_eq_true rfl) dL_law_324 (fun _ _ _ _ => VX_none) fun t219 u220 => ?_
  refine V_bipush (κ := KL_law) (pc := 327) dL_law_327 ⟨by decide, by decide⟩ (by decide) ?_
  refine V_callV (ci := 10) (T := TJ4) (N := 4) rfl (by decide) (κ := KL_law) (pc := 329) (con_J4_append_cf468 _ _ _) mth_J4_append_cf468 rfl ⟨wd_1100, wd_1101⟩ wd_1099 (st0 := []) rfl rfl (by decide) (Nat.le_of_ble_eq_true rfl) dL_law_329 (fun _ _ _ _ => VX_none) fun t221 u222 => ?_
  refine V_pop (κ := KL_law) (pc := 332) rfl dL_law_332 ?_
  refine V_iinc (κ := KL_law) (pc := 333) (lv' := [(8, (0, w32 (x8 + 1))), (10, (0, t191)), (9, (0, x188)), (0, (2, x0)), (1, (0, x1)), (2, (0, x2)), (3, (0, x3)), (4, (0, x4)), (5, (2, x5)), (6, (2, x6)), (7, (2, x7))]) dL_law_333 10 rfl (by decide) rfl ?_
  refine V_goto (κ := KL_law) (pc := 336) (tgt := 212) dL_law_336 rfl ?_
  refine V_sub (lv' := [(0, (2, x0)), (1, (0, x1)), (2, (0, x2)), (3, (0, x3)), (4, (0, x4)), (5, (2, x5)), (6, (2, x6)), (7, (2, x7)), (8, (0, w32 (x8 + 1)))]) [3, 4, 5, 6, 7, 8, 9, 10, 0] rfl ?_
  exact hk212 _ _ _ _ _ _ _ _ _ _
theorem VLL_law_212 {Γ : Gam} (hS : LW Γ) : ∀ (n : Nat) (x0 x1 x2 x3 x4 x5 x6 x7 x8 : Int) (μ : Mem), V Γ KL_law 212 [(0, (2, x0)), (1, (0, x1)), (2, (0, x2)), (3, (0, x3)), (4, (0, x4)), (5, (2, x5)), (6, (2, x6)), (7, (2, x7)), (8, (0, x8))] [] μ (LL_law_212 n x0 x1 x2 x3 x4 x5 x6 x7 x8 μ)
  | 0, _, _, _, _, _, _, _, _, _, _ => V_none
  | n + 1, x0, x1, x2, x3, x4, x5, x6, x7, x8, μ => VBL_law_212 hS (fun y0 y1 y2 y3 y4 y5 y6 y7 y8 ν => VLL_law_212 hS n y0 y1 y2 y3 y4 y5 y6 y7 y8 ν) x0 x1 x2 x3 x4 x5 x6 x7 x8 μ
theorem VBL_law_139 {Γ : Gam} (hS : LW Γ) {k122 : Int → Int → Int → Int → Int → Int → Int → Int → Mem → Rz} (hk122 : ∀ (y0 y1 y2 y3 y4 y5 y6 y7 : Int) (ν : Mem), V Γ KL_law 122 [(0, (2, y0)), (1, (0, y1)), (2, (0, y2)), (3, (0, y3)), (4, (0, y4)), (5, (2, y5)), (6, (2, y6)), (7, (0, y7))] [] ν (k122 y0 y1 y2 y3 y4 y5 y6 y7 ν)) {k139 : Int → Int → Int → Int → Int → Int → Int → Int → Int → Mem → Rz} (hk139 : ∀ (y0 y1 y2 y3 y4 y5 y6 y7 y8 : Int) (ν : Mem), V Γ KL_law 139 [(0, (2, y0)), (1, (0, y1)), (2, (0, y2)), (3, (0, y3)), (4, (0, y4)), (5, (2, y5)), (6, (2, y6)), (7, (0, y7)), (8, (0, y8))] [] ν (k139 y0 y1 y2 y3 y4 y5 y6 y7 y8 ν)) (x0 x1 x2 x3 x4 x5 x6 x7 x8 : Int) (μ : Mem) : V Γ KL_law 139 [(0, (2, x0)), (1, (0, x1)), (2, (0, x2)), (3, (0, x3)), (4, (0, x4)), (5, (2, x5)), (6, (2, x6)), (7, (0, x7)), (8, (0, x8))] [] μ (BL_law_139 k122 k139 x0 x1 x2 x3 x4 x5 x6 x7 x8 μ) := by
  unfold BL_law_139
  refine V_iload (κ := KL_law) (pc := 139) dL_law_139 8 rfl ?_
  refine V_iload_n (κ := KL_law) (pc := 141) dL_law_141 1 rfl ?_
  refine V_icmp_ge (κ := KL_law) (pc := 142) (tgt := 186) dL_law_142 rfl ?_ ?_
  · refine V_iinc (κ := KL_law) (pc := 186) (lv' := [(7, (0, w32 (x7 + 1))), (0, (2, x0)), (1, (0, x1)), (2, (0, x2)), (3, (0, x3)), (4, (0, x4)), (5, (2, x5)), (6, (2, x6)), (8, (0, x8))]) dL_law_186 7 rfl (by decide) rfl ?_
    refine V_goto (κ := KL_law) (pc := 189) (tgt := 122) dL_law_189 rfl ?_
    refine V_sub (lv' := [(0, (2, x0)), (1, (0, x1)), (2, (0, x2)), (3, (0, x3)), (4, (0, x4)), (5, (2, x5)), (6, (2, x6)), (7, (0, w32 (x7 + 1)))]) [1, 2, 3, 4, 5, 6, 7, 0] rfl ?_
    exact hk122 _ _ _ _ _ _ _ _ _
  refine V_aload_n (κ := KL_law) (pc := 145) dL_law_145 0 rfl rfl ?_
  refine V_iconst (κ := KL_law) (pc := 146) dL_law_146 ⟨by decide, by decide⟩ ?_
  refine V_callS (κ := KL_law) (pc := 147) (con_L_cell _ _ _) mth_L_cell wd_704 wd_703 (st0 := []) rfl rfl (by decide) (Nat.le_of_ble_eq_true rfl) dL_law_147 (fun _ _ _ _ => VX_none) fun t101 u102 => ?_
  refine V_iload (κ := KL_law) (pc := 150) dL_law_150 8 rfl ?_
  refine V_iload (κ := KL_law) (pc := 152) dL_law_152 7 rfl ?_
  refine V_callS (κ := KL_law) (pc := 154) (con_L_toneOf _ _ _ _) mth_L_toneOf wd_927 wd_926 (st0 := []) rfl rfl (by decide) (Nat.le_of_ble_eq_true rfl) dL_law_154 (fun _ _ _ _ => VX_none) fun t103 u104 => ?_
  refine V_istore (κ := KL_law) (pc := 157) (lv' := [(9, (0, t103)), (0, (2, x0)), (1, (0, x1)), (2, (0, x2)), (3, (0, x3)), (4, (0, x4)), (5, (2, x5)), (6, (2, x6)), (7, (0, x7)), (8, (0, x8))]) dL_law_157 (by decide) rfl ?_
  refine V_aload (κ := KL_law) (pc := 159) dL_law_159 7 rfl rfl ?_
  refine V_iload (κ := KL_law) (pc := 161) dL_law_161 8 rfl ?_
  refine V_aaload 7 (by decide) rfl rfl (κ := KL_law) (pc := 163) dL_law_163 fun t105 => ?_
  refine V_iload (κ := KL_law) (pc := 164) dL_law_164 9 rfl ?_
  refine V_bipush (κ := KL_law) (pc := 166) dL_law_166 ⟨by decide, by decide⟩ (by decide) ?_
  refine V_iload (κ := KL_law) (pc := 168) dL_law_168 0 rfl ?_
  refine V_imul (κ := KL_law) (pc := 170) dL_law_170 ?_
  refine V_iastore (κ := KL_law) (pc := 171) dL_law_171 fun u106 => ?_
  refine V_aload (κ := KL_law) (pc := 172) dL_law_172 6 rfl rfl ?_
  refine V_iload (κ := KL_law) (pc := 174) dL_law_174 0 rfl ?_
  refine V_callV (ci := 10) (T := TJ4) (N := 4) rfl (by decide) (κ := KL_law) (pc := 176) (con_J4_append_bf812 _ _ _) mth_J4_append_bf812 rfl ⟨wd_1113, wd_1114⟩ wd_1112 (st0 := []) rfl rfl (by decide) (Nat.le_of_ble_eq_true rfl) dL_law_176 (fun _ _ _ _ => VX_none) fun t107 u108 => ?_
  refine V_pop (κ := KL_law) (pc := 179) rfl dL_law_179 ?_
  refine V_iinc (κ := KL_law) (pc := 180) (lv' := [(8, (0, w32 (x8 + 1))), (9, (0, t103)), (0, (2, x0)), (1, (0, x1)), (2, (0, x2)), (3, (0, x3)), (4, (0, x4)), (5, (2, x5)), (6, (2, x6)), (7, (0, x7))]) dL_law_180 9 rfl (by decide) rfl ?_
  refine V_goto (κ := KL_law) (pc := 183) (tgt := 139) dL_law_183 rfl ?_
  refine V_sub (lv' := [(0, (2, x0)), (1, (0, x1)), (2, (0, x2)), (3, (0, x3)), (4, (0, x4)), (5, (2, x5)), (6, (2, x6)), (7, (0, x7)), (8, (0, w32 (x8 + 1)))]) [2, 3, 4, 5, 6, 7, 8, 9, 0] rfl ?_
  exact hk139 _ _ _ _ _ _ _ _ _ _
theorem VLL_law_139 {Γ : Gam} (hS : LW Γ) {k122 : Int → Int → Int → Int → Int → Int → Int → Int → Mem → Rz} (hk122 : ∀ (y0 y1 y2 y3 y4 y5 y6 y7 : Int) (ν : Mem), V Γ KL_law 122 [(0, (2, y0)), (1, (0, y1)), (2, (0, y2)), (3, (0, y3)), (4, (0, y4)), (5, (2, y5)), (6, (2, y6)), (7, (0, y7))] [] ν (k122 y0 y1 y2 y3 y4 y5 y6 y7 ν)) : ∀ (n : Nat) (x0 x1 x2 x3 x4 x5 x6 x7 x8 : Int) (μ : Mem), V Γ KL_law 139 [(0, (2, x0)), (1, (0, x1)), (2, (0, x2)), (3, (0, x3)), (4, (0, x4)), (5, (2, x5)), (6, (2, x6)), (7, (0, x7)), (8, (0, x8))] [] μ (LL_law_139 k122 n x0 x1 x2 x3 x4 x5 x6 x7 x8 μ)
  | 0, _, _, _, _, _, _, _, _, _, _ => V_none
  | n + 1, x0, x1, x2, x3, x4, x5, x6, x7, x8, μ => VBL_law_139 hS hk122 (fun y0 y1 y2 y3 y4 y5 y6 y7 y8 ν => VLL_law_139 hS hk122 n y0 y1 y2 y3 y4 y5 y6 y7 y8 ν) x0 x1 x2 x3 x4 x5 x6 x7 x8 μ
theorem VBL_law_122 {Γ : Gam} (hS : LW Γ) {k122 : Int → Int → Int → Int → Int → Int → Int → Int → Mem → Rz} (hk122 : ∀ (y0 y1 y2 y3 y4 y5 y6 y7 : Int) (ν : Mem), V Γ KL_law 122 [(0, (2, y0)), (1, (0, y1)), (2, (0, y2)), (3, (0, y3)), (4, (0, y4)), (5, (2, y5)), (6, (2, y6)), (7, (0, y7))] [] ν (k122 y0 y1 y2 y3 y4 y5 y6 y7 ν)) (x0 x1 x2 x3 x4 x5 x6 x7 : Int) (μ : Mem) : V Γ KL_law 122 [(0, (2, x0)), (1, (0, x1)), (2, (0, x2)), (3, (0, x3)), (4, (0, x4)), (5, (2, x5)), (6, (2, x6)), (7, (0, x7))] [] μ (BL_law_122 k122 x0 x1 x2 x3 x4 x5 x6 x7 μ) := by
  unfold BL_law_122
  refine V_iload (κ := KL_law) (pc := 122) dL_law_122 7 rfl ?_
  refine V_iload_n (κ := KL_law) (pc := 124) dL_law_124 2 rfl ?_
  refine V_icmp_ge (κ := KL_law) (pc := 125) (tgt := 192) dL_law_125 rfl ?_ ?_
  · refine V_aload (κ := KL_law) (pc := 192) dL_law_192 5 rfl rfl ?_
    refine V_bipush (κ := KL_law) (pc := 194) dL_law_194 ⟨by decide, by decide⟩ (by decide) ?_
    refine V_callV (ci := 10) (T := TJ4) (N := 4) rfl (by decide) (κ := KL_law) (pc := 196) (con_J4_append_cf468 _ _ _) mth_J4_append_cf468 rfl ⟨wd_1100, wd_1101⟩ wd_1099 (st0 := []) rfl rfl (by decide) (Nat.le_of_ble_eq_true rfl) dL_law_196 (fun _ _ _ _ => VX_none) fun t101 u102 => ?_
    refine V_pop (κ := KL_law) (pc := 199) rfl dL_law_199 ?_
    refine V_newN 11 (κ := KL_law) (pc := 200) rfl (by decide) rfl rfl inJx4a65c tyJx4a65c tyJx4a65c_ok (by decide) wd_1194 wd_544 wd_15 dL_law_200 fun t103 u104 => ?_
    refine V_dup (κ := KL_law) (pc := 203) rfl dL_law_203 ?_
    refine V_callI (ci := 11) (by decide) (κ := KL_law) (pc := 204) (con_Jx4a65c_init_da8c8 _ _) mth_Jx4a65c_init_da8c8 rfl wd_546 wd_1195 (st0 := [(2, t103)]) rfl rfl (by decide) (Nat.le_of_ble_eq_true rfl) dL_law_204 (fun _ _ _ _ => VX_none) fun _ u106 => ?_
    refine V_astore (κ := KL_law) (pc := 207) (lv' := [(7, (2, t103)), (0, (2, x0)), (1, (0, x1)), (2, (0, x2)), (3, (0, x3)), (4, (0, x4)), (5, (2, x5)), (6, (2, x6))]) dL_law_207 rfl (by decide) rfl ?_
    refine V_iconst (κ := KL_law) (pc := 209) dL_law_209 ⟨by decide, by decide⟩ ?_
    refine V_istore (κ := KL_law) (pc := 210) (lv' := [(8, (0, 0)), (7, (2, t103)), (0, (2, x0)), (1, (0, x1)), (2, (0, x2)), (3, (0, x3)), (4, (0, x4)), (5, (2, x5)), (6, (2, x6))]) dL_law_210 (by decide) rfl ?_
    refine V_sub (lv' := [(0, (2, x0)), (1, (0, x1)), (2, (0, x2)), (3, (0, x3)), (4, (0, x4)), (5, (2, x5)), (6, (2, x6)), (7, (2, t103)), (8, (0, 0))]) [2, 3, 4, 5, 6, 7, 8, 1, 0] rfl ?_
    exact VLL_law_212 hS FU _ _ _ _ _ _ _ _ _ _
  refine V_aload (κ := KL_law) (pc := 128) dL_law_128 5 rfl rfl ?_
  refine V_bipush (κ := KL_law) (pc := 130) dL_law_130 ⟨by decide, by decide⟩ (by decide) ?_
  refine V_callV (ci := 10) (T := TJ4) (N := 4) rfl (by decide) (κ := KL_law) (pc := 132) (con_J4_append_cf468 _ _ _) mth_J4_append_cf468 rfl ⟨wd_1100, wd_1101⟩ wd_1099 (st0 := []) rfl rfl (by decide) (Nat.le_of_ble_eq_true rfl) dL_law_132 (fun _ _ _ _ => VX_none) fun t107 u108 => ?_
  refine V_pop (κ := KL_law) (pc := 135) rfl dL_law_135 ?_
  refine V_iconst (κ := KL_law) (pc := 136) dL_law_136 ⟨by decide, by decide⟩ ?_
  refine V_istore (κ := KL_law) (pc := 137) (lv' := [(8, (0, 0)), (0, (2, x0)), (1, (0, x1)), (2, (0, x2)), (3, (0, x3)), (4, (0, x4)), (5, (2, x5)), (6, (2, x6)), (7, (0, x7))]) dL_law_137 (by decide) rfl ?_
  refine V_sub (lv' := [(0, (2, x0)), (1, (0, x1)), (2, (0, x2)), (3, (0, x3)), (4, (0, x4)), (5, (2, x5)), (6, (2, x6)), (7, (0, x7)), (8, (0, 0))]) [1, 2, 3, 4, 5, 6, 7, 8, 0] rfl ?_
  exact VLL_law_139 hS hk122 FU _ _ _ _ _ _ _ _ _ _
theorem VLL_law_122 {Γ : Gam} (hS : LW Γ) : ∀ (n : Nat) (x0 x1 x2 x3 x4 x5 x6 x7 : Int) (μ : Mem), V Γ KL_law 122 [(0, (2, x0)), (1, (0, x1)), (2, (0, x2)), (3, (0, x3)), (4, (0, x4)), (5, (2, x5)), (6, (2, x6)), (7, (0, x7))] [] μ (LL_law_122 n x0 x1 x2 x3 x4 x5 x6 x7 μ)
  | 0, _, _, _, _, _, _, _, _, _ => V_none
  | n + 1, x0, x1, x2, x3, x4, x5, x6, x7, μ => VBL_law_122 hS (fun y0 y1 y2 y3 y4 y5 y6 y7 ν => VLL_law_122 hS n y0 y1 y2 y3 y4 y5 y6 y7 ν) x0 x1 x2 x3 x4 x5 x6 x7 μ
theorem VBL_law_0 {Γ : Gam} (hS : LW Γ) (x0 : Int) (μ : Mem) : V Γ KL_law 0 [(0, (2, x0))] [] μ (BL_law_0 x0 μ) := by
  unfold BL_law_0
  refine V_iconst (κ := KL_law) (pc := 0) dL_law_0 ⟨by decide, by decide⟩ ?_
  refine V_aload_n (κ := KL_law) (pc := 1) dL_law_1 0 rfl rfl ?_
  refine V_iconst (κ := KL_law) (pc := 2) dL_law_2 ⟨by decide, by decide⟩ ?_
  refine V_callS (κ := KL_law) (pc := 3) (con_L_cell _ _ _) mth_L_cell wd_704 wd_703 (st0 := [(0, 1)]) rfl rfl (by decide) (Nat.le_of_ble_eq_true rfl) dL_law_3 (fun _ _ _ _ => VX_none) fun t101 u102 => ?_
  refine V_bipush (κ := KL_law) (pc := 6) dL_law_6 ⟨by decide, by decide⟩ (by decide) ?_
  refine V_callS (κ := KL_law) (pc := 8) (con_L_bound _ _ _) mth_L_bound wd_707 wd_706 (st0 := [(0, 1)]) rfl rfl (by decide) (Nat.le_of_ble_eq_true rfl) dL_law_8 (fun _ _ _ _ => VX_none) fun t103 u104 => ?_
  refine V_iadd (κ := KL_law) (pc := 11) dL_law_11 ?_
  refine V_LT fun x105 => ?_
  refine V_istore_n (κ := KL_law) (pc := 12) (lv' := [(1, (0, x105)), (0, (2, x0))]) dL_law_12 (by decide) rfl ?_
  refine V_iconst (κ := KL_law) (pc := 13) dL_law_13 ⟨by decide, by decide⟩ ?_
  refine V_aload_n (κ := KL_law) (pc := 14) dL_law_14 1 rfl rfl ?_
  refine V_iconst (κ := KL_law) (pc := 15) dL_law_15 ⟨by decide, by decide⟩ ?_
  refine V_callS (κ := KL_law) (pc := 16) (con_L_cell _ _ _) mth_L_cell wd_704 wd_703 (st0 := [(0, 1)]) rfl rfl (by decide) (Nat.le_of_ble_eq_true rfl) dL_law_16 (fun _ _ _ _ => VX_none) fun t106 u107 => ?_
  refine V_iconst (κ := KL_law) (pc := 19) dL_law_19 ⟨by decide, by decide⟩ ?_
  refine V_ishr (κ := KL_law) (pc := 20) dL_law_20 ?_
  refine V_bipush (κ := KL_law) (pc := 21) dL_law_21 ⟨by decide, by decide⟩ (by decide) ?_
  refine V_callS (κ := KL_law) (pc := 23) (con_L_bound _ _ _) mth_L_bound wd_707 wd_706 (st0 := [(0, 1)]) rfl rfl (by decide) (Nat.le_of_ble_eq_true rfl) dL_law_23 (fun _ _ _ _ => VX_none) fun t108 u109 => ?_
  refine V_iadd (κ := KL_law) (pc := 26) dL_law_26 ?_
  refine V_LT fun x110 => ?_
  refine V_istore_n (κ := KL_law) (pc := 27) (lv' := [(2, (0, x110)), (1, (0, x105)), (0, (2, x0))]) dL_law_27 (by decide) rfl ?_
  refine V_iconst (κ := KL_law) (pc := 28) dL_law_28 ⟨by decide, by decide⟩ ?_
  refine V_aload_n (κ := KL_law) (pc := 29) dL_law_29 2 rfl rfl ?_
  refine V_iconst (κ := KL_law) (pc := 30) dL_law_30 ⟨by decide, by decide⟩ ?_
  refine V_callS (κ := KL_law) (pc := 31) (con_L_cell _ _ _) mth_L_cell wd_704 wd_703 (st0 := [(0, 1)]) rfl rfl (by decide) (Nat.le_of_ble_eq_true rfl) dL_law_31 (fun _ _ _ _ => VX_none) fun t111 u112 => ?_
  refine V_bipush (κ := KL_law) (pc := 34) dL_law_34 ⟨by decide, by decide⟩ (by decide) ?_
  refine V_ishr (κ := KL_law) (pc := 36) dL_law_36 ?_
  refine V_iconst (κ := KL_law) (pc := 37) dL_law_37 ⟨by decide, by decide⟩ ?_
  refine V_callS (κ := KL_law) (pc := 38) (con_L_bound _ _ _) mth_L_bound wd_707 wd_706 (st0 := [(0, 1)]) rfl rfl (by decide) (Nat.le_of_ble_eq_true rfl) dL_law_38 (fun _ _ _ _ => VX_none) fun t113 u114 => ?_
  refine V_iadd (κ := KL_law) (pc := 41) dL_law_41 ?_
  refine V_LT fun x115 => ?_
  refine V_istore_n (κ := KL_law) (pc := 42) (lv' := [(3, (0, x115)), (2, (0, x110)), (1, (0, x105)), (0, (2, x0))]) dL_law_42 (by decide) rfl ?_
  refine V_iconst (κ := KL_law) (pc := 43) dL_law_43 ⟨by decide, by decide⟩ ?_
  refine V_aload_n (κ := KL_law) (pc := 44) dL_law_44 3 rfl rfl ?_
  refine V_iconst (κ := KL_law) (pc := 45) dL_law_45 ⟨by decide, by decide⟩ ?_
  refine V_callS (κ := KL_law) (pc := 46) (con_L_cell _ _ _) mth_L_cell wd_704 wd_703 (st0 := [(0, 1)]) rfl rfl (by decide) (Nat.le_of_ble_eq_true rfl) dL_law_46 (fun _ _ _ _ => VX_none) fun t116 u117 => ?_
  refine V_bipush (κ := KL_law) (pc := 49) dL_law_49 ⟨by decide, by decide⟩ (by decide) ?_
  refine V_ishr (κ := KL_law) (pc := 51) dL_law_51 ?_
  refine V_iconst (κ := KL_law) (pc := 52) dL_law_52 ⟨by decide, by decide⟩ ?_
  refine V_callS (κ := KL_law) (pc := 53) (con_L_bound _ _ _) mth_L_bound wd_707 wd_706 (st0 := [(0, 1)]) rfl rfl (by decide) (Nat.le_of_ble_eq_true rfl) dL_law_53 (fun _ _ _ _ => VX_none) fun t118 u119 => ?_
  refine V_iadd (κ := KL_law) (pc := 56) dL_law_56 ?_
  refine V_LT fun x120 => ?_
  refine V_istore (κ := KL_law) (pc := 57) (lv' := [(4, (0, x120)), (3, (0, x115)), (2, (0, x110)), (1, (0, x105)), (0, (2, x0))]) dL_law_57 (by decide) rfl ?_
  refine V_newN 10 (κ := KL_law) (pc := 59) rfl (by decide) rfl rfl inJ4 tyJ4 tyJ4_ok (by decide) wd_972 wd_973 wd_2 dL_law_59 fun t121 u122 => ?_
  refine V_dup (κ := KL_law) (pc := 62) rfl dL_law_62 ?_
  refine V_newN 10 (κ := KL_law) (pc := 63) rfl (by decide) rfl rfl inJ4 tyJ4 tyJ4_ok (by decide) wd_972 wd_973 wd_2 dL_law_63 fun t123 u124 => ?_
  refine V_dup (κ := KL_law) (pc := 66) rfl dL_law_66 ?_
  refine V_callI (ci := 10) (by decide) (κ := KL_law) (pc := 67) (con_J4_init_da8c8 _ _) mth_J4_init_da8c8 rfl wd_975 wd_974 (st0 := [(2, t123), (2, t121), (2, t121)]) rfl rfl (by decide) (Nat.le_of_ble_eq_true rfl) dL_law_67 (fun _ _ _ _ => VX_none) fun _ u126 => ?_
  refine V_ldcF (κ := KL_law) (pc := 70) (tx := "picture ") (w := 10) (show (RL, 92, "picture ", 10) ∈ lwds by decide) (by decide) dL_law_70 ?_
  refine V_callV (ci := 10) (T := TJ4) (N := 4) rfl (by decide) (κ := KL_law) (pc := 72) (con_J4_append_15ec4 _ _ _) mth_J4_append_15ec4 rfl ⟨wd_1019, wd_1020⟩ wd_1098 (st0 := [(2, t121), (2, t121)]) rfl rfl (by decide) (Nat.le_of_ble_eq_true rfl) dL_law_72 (fun _ _ _ _ => VX_none) fun t127 u128 => ?_
  refine V_iload_n (κ := KL_law) (pc := 75) dL_law_75 3 rfl ?_
  refine V_callV (ci := 10) (T := TJ4) (N := 4) rfl (by decide) (κ := KL_law) (pc := 76) (con_J4_append_bf812 _ _ _) mth_J4_append_bf812 rfl ⟨wd_1113, wd_1114⟩ wd_1112 (st0 := [(2, t121), (2, t121)]) rfl rfl (by decide) (Nat.le_of_ble_eq_true rfl) dL_law_76 (fun _ _ _ _ => VX_none) fun t129 u130 => ?_
  refine V_ldcF (κ := KL_law) (pc := 79) (tx := " ") (w := 12) (show (RL, 100, " ", 12) ∈ lwds by decide) (by decide) dL_law_79 ?_
  refine V_callV (ci := 10) (T := TJ4) (N := 4) rfl (by decide) (κ := KL_law) (pc := 81) (con_J4_append_15ec4 _ _ _) mth_J4_append_15ec4 rfl ⟨wd_1019, wd_1020⟩ wd_1098 (st0 := [(2, t121), (2, t121)]) rfl rfl (by decide) (Nat.le_of_ble_eq_true rfl) dL_law_81 (fun _ _ _ _ => VX_none) fun t131 u132 => ?_
  refine V_iload_n (κ := KL_law) (pc := 84) dL_law_84 2 rfl ?_
  refine V_callV (ci := 10) (T := TJ4) (N := 4) rfl (by decide) (κ := KL_law) (pc := 85) (con_J4_append_bf812 _ _ _) mth_J4_append_bf812 rfl ⟨wd_1113, wd_1114⟩ wd_1112 (st0 := [(2, t121), (2, t121)]) rfl rfl (by decide) (Nat.le_of_ble_eq_true rfl) dL_law_85 (fun _ _ _ _ => VX_none) fun t133 u134 => ?_
  refine V_ldcF (κ := KL_law) (pc := 88) (tx := ";limit ") (w := 14) (show (RL, 102, ";limit ", 14) ∈ lwds by decide) (by decide) dL_law_88 ?_
  refine V_callV (ci := 10) (T := TJ4) (N := 4) rfl (by decide) (κ := KL_law) (pc := 90) (con_J4_append_15ec4 _ _ _) mth_J4_append_15ec4 rfl ⟨wd_1019, wd_1020⟩ wd_1098 (st0 := [(2, t121), (2, t121)]) rfl rfl (by decide) (Nat.le_of_ble_eq_true rfl) dL_law_90 (fun _ _ _ _ => VX_none) fun t135 u136 => ?_
  refine V_iload (κ := KL_law) (pc := 93) dL_law_93 0 rfl ?_
  refine V_callV (ci := 10) (T := TJ4) (N := 4) rfl (by decide) (κ := KL_law) (pc := 95) (con_J4_append_bf812 _ _ _) mth_J4_append_bf812 rfl ⟨wd_1113, wd_1114⟩ wd_1112 (st0 := [(2, t121), (2, t121)]) rfl rfl (by decide) (Nat.le_of_ble_eq_true rfl) dL_law_95 (fun _ _ _ _ => VX_none) fun t137 u138 => ?_
  refine V_ldcF (κ := KL_law) (pc := 98) (tx := ";tones") (w := 16) (show (RL, 104, ";tones", 16) ∈ lwds by decide) (by decide) dL_law_98 ?_
  refine V_callV (ci := 10) (T := TJ4) (N := 4) rfl (by decide) (κ := KL_law) (pc := 100) (con_J4_append_15ec4 _ _ _) mth_J4_append_15ec4 rfl ⟨wd_1019, wd_1020⟩ wd_1098 (st0 := [(2, t121), (2, t121)]) rfl rfl (by decide) (Nat.le_of_ble_eq_true rfl) dL_law_100 (fun _ _ _ _ => VX_none) fun t139 u140 => ?_
  refine V_callV (ci := 10) (T := TJ4) (N := 4) rfl (by decide) (κ := KL_law) (pc := 103) (con_J4_toString_0e30d _ _) mth_J4_toString_0e30d rfl ⟨wd_1138, wd_1139⟩ wd_1137 (st0 := [(2, t121), (2, t121)]) rfl rfl (by decide) (Nat.le_of_ble_eq_true rfl) dL_law_103 (fun _ _ _ _ => VX_none) fun t141 u142 => ?_
  refine V_callI (ci := 10) (by decide) (κ := KL_law) (pc := 106) (con_J4_init_a7421 _ _ _) mth_J4_init_a7421 rfl wd_1003 wd_1002 (st0 := [(2, t121)]) rfl rfl (by decide) (Nat.le_of_ble_eq_true rfl) dL_law_106 (fun _ _ _ _ => VX_none) fun _ u144 => ?_
  refine V_astore (κ := KL_law) (pc := 109) (lv' := [(5, (2, t121)), (4, (0, x120)), (3, (0, x115)), (2, (0, x110)), (1, (0, x105)), (0, (2, x0))]) dL_law_109 rfl (by decide) rfl ?_
  refine V_iload_n (κ := KL_law) (pc := 111) dL_law_111 3 rfl ?_
  refine V_iload_n (κ := KL_law) (pc := 112) dL_law_112 4 rfl ?_
  refine V_multiN (κ := KL_law) (pc := 113) wd_1212 wd_73 dL_law_113 fun t145 u146 => ?_
  refine V_astore (κ := KL_law) (pc := 117) (lv' := [(6, (2, t145)), (5, (2, t121)), (4, (0, x120)), (3, (0, x115)), (2, (0, x110)), (1, (0, x105)), (0, (2, x0))]) dL_law_117 rfl (by decide) rfl ?_
  refine V_iconst (κ := KL_law) (pc := 119) dL_law_119 ⟨by decide, by decide⟩ ?_
  refine V_istore (κ := KL_law) (pc := 120) (lv' := [(7, (0, 0)), (6, (2, t145)), (5, (2, t121)), (4, (0, x120)), (3, (0, x115)), (2, (0, x110)), (1, (0, x105)), (0, (2, x0))]) dL_law_120 (by decide) rfl ?_
  refine V_sub (lv' := [(0, (2, x0)), (1, (0, x105)), (2, (0, x110)), (3, (0, x115)), (4, (0, x120)), (5, (2, t121)), (6, (2, t145)), (7, (0, 0))]) [7, 6, 5, 4, 3, 2, 1, 0] rfl ?_
  exact VLL_law_122 hS FU _ _ _ _ _ _ _ _ _
end WALKS
