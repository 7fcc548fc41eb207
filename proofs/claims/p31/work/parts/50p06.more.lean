/-! the component's counts of what was cleaned, blocks, ranks and what is dark -/
section MORE
variable {μ : Mem} {c p x y : Int} {r : Row}
theorem wiped_cell (hr : okRow r) (hT : Sht μ c r) (x0 : 0 ≤ x) (x1 : x < r 0) (y0 : 0 ≤ y) (y1 : y < r 1) : bc (μ (28 + 8 * c) (y * r 0 + x)) = su (fun p => bt (rO r p (14 + y)) x) (r 2) := by
  have h := hT.2.2.1 x y x0 x1 y0 y1
  have hr2 := hr.2.1
  rw [bc_4 h.1.1 h.1.2]
  have h3 := su_split (fun i => bt (μ (28 + 8 * c) (y * r 0 + x)) i) (a := r 2) (by omega) (4 - r 2).toNat
  rw [Int.toNat_of_nonneg (by omega), show r 2 + (4 - r 2) = 4 by omega] at h3
  rw [h3, su_ext (g := fun p => bt (rO r p (14 + y)) x) (n := r 2) fun i i0 i1 => by rw [h.2 i i0 (by omega), if_pos i1], su_ext (g := fun _ => 0) (n := 4 - r 2) fun i i0 i1 => by rw [h.2 (r 2 + i) (by omega) (by omega), if_neg (by omega)]]
  have hz : su (fun _ => 0) (4 - r 2) = 0 := sm_zero _
  omega
theorem wiped_row (hr : okRow r) (p0 : 0 ≤ p) (p1 : p < r 2) (y0 : 0 ≤ y) (y1 : y < r 1) : bc (rO r p (14 + y)) = su (fun x => bt (rO r p (14 + y)) x) (r 0) := by
  have h := (hr.2.2.2.2 p p0 p1).2.2.2.2.1 y y0 y1
  have hr1 := hr.1
  unfold bc
  have h3 := su_split (fun i => bt (rO r p (14 + y)) i) (a := r 0) (by omega) (16 - r 0).toNat
  rw [Int.toNat_of_nonneg (by omega), show r 0 + (16 - r 0) = 16 by omega] at h3
  rw [h3, su_ext (g := fun _ => 0) (n := 16 - r 0) fun i i0 i1 => h.2 (r 0 + i) (by omega) (by omega)]
  have hz : su (fun _ => 0) (16 - r 0) = 0 := sm_zero _
  omega
theorem cleanedOfAll_rt (hS : CSh μ) (c0 : 0 ≤ c) (c1 : c < 10) (hr : okRow r) (hT : Sht μ c r) : FX5_cleanedOfAll (25 + 8 * c) μ = RT (wipedAll r) μ := by
  have hr1 := hr.1
  have h2 := mul_le_of (a := r 1) (b := r 0) (c := 12) (d := 16) (by omega) (by omega) (by omega) (by omega)
  have hv : ∀ i, 0 ≤ i → i < r 1 * r 0 → 0 ≤ μ (28 + 8 * c) i ∧ μ (28 + 8 * c) i < 16 := fun i i0 i1 => by
    obtain ⟨x', y', a1, a2, a3, a4, rfl⟩ := cell_of (w := r 0) (by omega) i0 i1
    exact (hT.2.2.1 x' y' a1 a2 a3 a4).1
  have e : wipedAll r = su (fun i => bc (μ (28 + 8 * c) i)) (r 1 * r 0) := by
    rw [su_cells hr]
    unfold wipedAll wipedOf
    rw [su2_ext (g := fun x y => su (fun p => bt (rO r p (14 + y)) x) (r 2)) fun x y x0 x1 y0 y1 => wiped_cell hr hT x0 x1 y0 y1]
    unfold su2
    rw [su_ext (g := fun p => su (fun y => su (fun x => bt (rO r p (14 + y)) x) (r 0)) (r 1)) fun p p0 p1 => su_ext fun y y0 y1 => wiped_row hr p0 p1 y0 y1]
    rw [su_swap]
    exact su_ext fun y y0 y1 => su_swap
  rw [e]
  unfold FX5_cleanedOfAll BX5_cleanedOfAll_0
  refine sglS (fun n s x => LX5_cleanedOfAll_4 n (25 + 8 * c) s x μ) (r 1 * r 0) 16 (fun i => bc (μ (28 + 8 * c) i)) (fun v => RT v μ) (by omega) (by omega) (by omega) (fun x x0 x1 => bc_le (hv x x0 x1).1 (by have := (hv x x0 x1).2; omega)) (fun n s x x0 x1 s0 s1 g0 g1 => ?_) (fun n s => ?_) FU (by rw [show ((FU : Nat) : Int) = 20000 from rfl]; omega)
  · have h : ¬ r 1 * r 0 ≤ x := by omega
    have hv := hv x x0 x1
    simp (disch := omega) only [LX5_cleanedOfAll_4, BX5_cleanedOfAll_4, ↓hS.g6_0, ↓hS.g6_1, ↓hS.g6_2, ↓hS.g6_3, ↓hS.g6_4, ↓hS.g6_5, ↓hS.g6_7, ↓hS.g6_8, ↓hS.k6, ↓hS.g2_0, ↓hS.g2_1, ↓hS.g2_2, ↓hS.g2_3, ↓hS.g2_4, ↓hS.g2_5, ↓hS.g2_6, ↓hS.g2_7, ↓hS.k2, ↓hS.g3_0, ↓hS.g3_1, ↓hS.g3_2, ↓hS.g3_3, ↓hS.g3_4, ↓hS.k3, ↓hS.g4_0, ↓hS.g4_1, ↓hS.g4_3, ↓hS.g4_5, ↓hS.g4_6, ↓hS.g4_7, ↓hS.g4_8, ↓hS.g4_9, ↓hS.g4_10, ↓hS.g4_12, ↓hS.g4_11, ↓hS.k4, ↓hS.g5_0, ↓hS.g5_1, ↓hS.g5_2, ↓hS.g5_3, ↓hS.g5_4, ↓hS.g5_5, ↓hS.g5_6, ↓hS.k5, ↓hS.g1_0, ↓hS.g1_1, ↓hS.g1_2, ↓hS.g1_3, ↓hS.g1_4, ↓hS.g1_5, ↓hS.g1_6, ↓hS.g1_7, ↓hS.k1, ↓hS.l3, ↓hS.n3, ↓hS.l26, ↓hS.n26, ↓hS.l5, ↓hS.n5, ↓hS.l12, ↓hS.n12, ↓hS.l6, ↓hS.n6, ↓hS.l10, ↓hS.n10, ↓hS.l11, ↓hS.n11, ↓hS.l13, ↓hS.n13, ↓hS.l14, ↓hS.n14, ↓hS.l16, ↓hS.n16, ↓hS.l24, ↓hS.n24, ↓hS.l27, ↓hS.n27, ↓hS.l28, ↓hS.n28, ↓hS.l2, ↓hS.n2, ↓CL, ↓cells_rt_c hS c0 c1 hr hT, h, ↓reduceIte, ↓bitCount_rt_c hv.1 hv.2, ↓LT_eq, w32_eq]
  · simp (disch := omega) only [LX5_cleanedOfAll_4, BX5_cleanedOfAll_4, ↓hS.g6_0, ↓hS.g6_1, ↓hS.g6_2, ↓hS.g6_3, ↓hS.g6_4, ↓hS.g6_5, ↓hS.g6_7, ↓hS.g6_8, ↓hS.k6, ↓hS.g2_0, ↓hS.g2_1, ↓hS.g2_2, ↓hS.g2_3, ↓hS.g2_4, ↓hS.g2_5, ↓hS.g2_6, ↓hS.g2_7, ↓hS.k2, ↓hS.g3_0, ↓hS.g3_1, ↓hS.g3_2, ↓hS.g3_3, ↓hS.g3_4, ↓hS.k3, ↓hS.g4_0, ↓hS.g4_1, ↓hS.g4_3, ↓hS.g4_5, ↓hS.g4_6, ↓hS.g4_7, ↓hS.g4_8, ↓hS.g4_9, ↓hS.g4_10, ↓hS.g4_12, ↓hS.g4_11, ↓hS.k4, ↓hS.g5_0, ↓hS.g5_1, ↓hS.g5_2, ↓hS.g5_3, ↓hS.g5_4, ↓hS.g5_5, ↓hS.g5_6, ↓hS.k5, ↓hS.g1_0, ↓hS.g1_1, ↓hS.g1_2, ↓hS.g1_3, ↓hS.g1_4, ↓hS.g1_5, ↓hS.g1_6, ↓hS.g1_7, ↓hS.k1, ↓hS.l3, ↓hS.n3, ↓hS.l26, ↓hS.n26, ↓hS.l5, ↓hS.n5, ↓hS.l12, ↓hS.n12, ↓hS.l6, ↓hS.n6, ↓hS.l10, ↓hS.n10, ↓hS.l11, ↓hS.n11, ↓hS.l13, ↓hS.n13, ↓hS.l14, ↓hS.n14, ↓hS.l16, ↓hS.n16, ↓hS.l24, ↓hS.n24, ↓hS.l27, ↓hS.n27, ↓hS.l28, ↓hS.n28, ↓hS.l2, ↓hS.n2, ↓CL, ↓cells_rt_c hS c0 c1 hr hT, Int.le_refl, ↓reduceIte]
theorem cleanedOfAll_rt_c (hS : CSh μ) (c0 : 0 ≤ c) (c1 : c < 10) (hr : okRow r) (hT : Sht μ c r) {K : Int → Mem → Rz} {X : Int → Int → Mem → Rz} : CLX (FX5_cleanedOfAll (25 + 8 * c) μ) K X = K (wipedAll r) μ := by
  rw [cleanedOfAll_rt hS c0 c1 hr hT]
  rfl
theorem isCleaned_rt (hS : CSh μ) {i : Int} (c0 : 0 ≤ c) (c1 : c < 10) (i0 : 0 ≤ i) (i1 : i < 192) : FX5_isCleaned (25 + 8 * c) p i μ = RT (b2 (bt (μ (28 + 8 * c) i) p = 1)) μ := by
  simp (disch := omega) only [FX5_isCleaned, BX5_isCleaned_0, ↓hS.g6_0, ↓hS.g6_1, ↓hS.g6_2, ↓hS.g6_3, ↓hS.g6_4, ↓hS.g6_5, ↓hS.g6_7, ↓hS.g6_8, ↓hS.k6, ↓hS.g2_0, ↓hS.g2_1, ↓hS.g2_2, ↓hS.g2_3, ↓hS.g2_4, ↓hS.g2_5, ↓hS.g2_6, ↓hS.g2_7, ↓hS.k2, ↓hS.g3_0, ↓hS.g3_1, ↓hS.g3_2, ↓hS.g3_3, ↓hS.g3_4, ↓hS.k3, ↓hS.g4_0, ↓hS.g4_1, ↓hS.g4_3, ↓hS.g4_5, ↓hS.g4_6, ↓hS.g4_7, ↓hS.g4_8, ↓hS.g4_9, ↓hS.g4_10, ↓hS.g4_12, ↓hS.g4_11, ↓hS.k4, ↓hS.g5_0, ↓hS.g5_1, ↓hS.g5_2, ↓hS.g5_3, ↓hS.g5_4, ↓hS.g5_5, ↓hS.g5_6, ↓hS.k5, ↓hS.g1_0, ↓hS.g1_1, ↓hS.g1_2, ↓hS.g1_3, ↓hS.g1_4, ↓hS.g1_5, ↓hS.g1_6, ↓hS.g1_7, ↓hS.k1, ↓hS.l3, ↓hS.n3, ↓hS.l26, ↓hS.n26, ↓hS.l5, ↓hS.n5, ↓hS.l12, ↓hS.n12, ↓hS.l6, ↓hS.n6, ↓hS.l10, ↓hS.n10, ↓hS.l11, ↓hS.n11, ↓hS.l13, ↓hS.n13, ↓hS.l14, ↓hS.n14, ↓hS.l16, ↓hS.n16, ↓hS.l24, ↓hS.n24, ↓hS.l27, ↓hS.n27, ↓hS.l28, ↓hS.n28, ↓hS.l2, ↓hS.n2, BX5_isCleaned_19]
  by_cases h : bt (μ (28 + 8 * c) i) p = 1
  · rw [b2_t h, if_neg (by unfold bt at h; omega)]
    rfl
  · rw [b2_f h, if_pos (by unfold bt at h; omega)]
    rfl
theorem isCleaned_rt_c (hS : CSh μ) {i : Int} (c0 : 0 ≤ c) (c1 : c < 10) (i0 : 0 ≤ i) (i1 : i < 192) {K : Int → Mem → Rz} {X : Int → Int → Mem → Rz} : CLX (FX5_isCleaned (25 + 8 * c) p i μ) K X = K (b2 (bt (μ (28 + 8 * c) i) p = 1)) μ := by
  rw [isCleaned_rt hS c0 c1 i0 i1]
  rfl
theorem pS_rt (hS : CSh μ) (c0 : 0 ≤ c) (c1 : c < 10) (p0 : 0 ≤ p) (p1 : p < r 2) (hr : okRow r) (hT : Sht μ c r) : FX1_p (29 + 8 * c + p) μ = RT (rQ r p) μ := by
  have h := hT.2.2.2 p p0 p1
  have ho := (hr.2.2.2.2 p p0 p1).1
  exact p_rt hS c0 c1 p0 (by have := hr.2.1; omega) h.2.1.1 h.2.1.2.1 ⟨ho.1, ho.2.1⟩ ⟨ho.2.2.1, ho.2.2.2.1⟩
theorem pS_rt_c (hS : CSh μ) (c0 : 0 ≤ c) (c1 : c < 10) (p0 : 0 ≤ p) (p1 : p < r 2) (hr : okRow r) (hT : Sht μ c r) {K : Int → Mem → Rz} {X : Int → Int → Mem → Rz} : CLX (FX1_p (29 + 8 * c + p) μ) K X = K (rQ r p) μ := by
  rw [pS_rt hS c0 c1 p0 p1 hr hT]
  rfl
/-- the screen p is laid for the shape sh and a, b -/
def Scr (μ : Mem) (p sh a b : Int) : Prop := (μ (15 + 2 * p) 0 = a ∧ μ (15 + 2 * p) 1 = b ∧ μ (15 + 2 * p) 2 = a * a + b * b ∧ μ (15 + 2 * p) 3 = sh) ∧ ∀ k, 0 ≤ k → k < (a * a + b * b) * (a * a + b * b) → μ (16 + 2 * p) k = rk sh a b k
abbrev ScrR (μ : Mem) (r : Row) (p : Int) : Prop := Scr μ p (rO r p 9) (rO r p 7) (rO r p 8)
theorem place_lt {q x y : Int} (q0 : 1 ≤ q) : 0 ≤ y % q * q + x % q ∧ y % q * q + x % q < q * q := by
  have u0 := Int.emod_nonneg x (show q ≠ 0 by omega)
  have u1 := Int.emod_lt_of_pos x (show 0 < q by omega)
  have v0 := Int.emod_nonneg y (show q ≠ 0 by omega)
  have v1 := Int.emod_lt_of_pos y (show 0 < q by omega)
  have m1 : 0 ≤ y % q * q := Int.mul_nonneg v0 (by omega)
  have m2 : (y % q + 1) * q ≤ q * q := Int.mul_le_mul_of_nonneg_right (by omega) (by omega)
  rw [Int.add_mul, Int.one_mul] at m2
  omega
theorem rk_le {sh a b k : Int} (h : 1 ≤ a * a + b * b) (h2 : a * a + b * b ≤ 18) : 0 ≤ rk sh a b k ∧ rk sh a b k ≤ 324 := by
  have m := mul_le_of (a := a * a + b * b) (b := a * a + b * b) (c := 18) (d := 18) (by omega) h2 (by omega) h2
  have h3 := su_le (f := fun j => if mK sh a b j < mK sh a b k ∨ (mK sh a b j = mK sh a b k ∧ j < k) then (1 : Int) else 0) (n := (a * a + b * b) * (a * a + b * b)) (B := 1) m.1 fun i _ _ => by
    split <;> omega
  unfold rk
  omega
theorem rkAt_le (hr : okRow r) (p0 : 0 ≤ p) (p1 : p < r 2) : 0 ≤ rkAt r p x y ∧ rkAt r p x y ≤ 324 := by
  have h := rQ_le (hr.2.2.2.2 p p0 p1)
  unfold rkAt
  exact rk_le h.1 h.2
theorem rankAt_rt (hS : CSh μ) (c0 : 0 ≤ c) (c1 : c < 10) (p0 : 0 ≤ p) (p1 : p < r 2) (hr : okRow r) (hT : Sht μ c r) (hC : ScrR μ r p) (x0 : 0 ≤ x) (x1 : x < 16) (y0 : 0 ≤ y) (y1 : y < 12) : FX2_rankAt 4 (25 + 8 * c) p x y μ = RT (rkAt r p x y) μ := by
  have h := hT.2.2.2 p p0 p1
  have ho := hr.2.2.2.2 p p0 p1
  have hp : p < 4 := by have := hr.2.1; omega
  have hq := rQ_le ho
  have hd := ho.2.2.1
  simp (disch := omega) only [FX2_rankAt, BX2_rankAt_0, ↓hS.g6_0, ↓hS.g6_1, ↓hS.g6_2, ↓hS.g6_3, ↓hS.g6_4, ↓hS.g6_5, ↓hS.g6_7, ↓hS.g6_8, ↓hS.k6, ↓hS.g2_0, ↓hS.g2_1, ↓hS.g2_2, ↓hS.g2_3, ↓hS.g2_4, ↓hS.g2_5, ↓hS.g2_6, ↓hS.g2_7, ↓hS.k2, ↓hS.g3_0, ↓hS.g3_1, ↓hS.g3_2, ↓hS.g3_3, ↓hS.g3_4, ↓hS.k3, ↓hS.g4_0, ↓hS.g4_1, ↓hS.g4_3, ↓hS.g4_5, ↓hS.g4_6, ↓hS.g4_7, ↓hS.g4_8, ↓hS.g4_9, ↓hS.g4_10, ↓hS.g4_12, ↓hS.g4_11, ↓hS.k4, ↓hS.g5_0, ↓hS.g5_1, ↓hS.g5_2, ↓hS.g5_3, ↓hS.g5_4, ↓hS.g5_5, ↓hS.g5_6, ↓hS.k5, ↓hS.g1_0, ↓hS.g1_1, ↓hS.g1_2, ↓hS.g1_3, ↓hS.g1_4, ↓hS.g1_5, ↓hS.g1_6, ↓hS.g1_7, ↓hS.k1, ↓hS.l3, ↓hS.n3, ↓hS.l26, ↓hS.n26, ↓hS.l5, ↓hS.n5, ↓hS.l12, ↓hS.n12, ↓hS.l6, ↓hS.n6, ↓hS.l10, ↓hS.n10, ↓hS.l11, ↓hS.n11, ↓hS.l13, ↓hS.n13, ↓hS.l14, ↓hS.n14, ↓hS.l16, ↓hS.n16, ↓hS.l24, ↓hS.n24, ↓hS.l27, ↓hS.n27, ↓hS.l28, ↓hS.n28, ↓hS.l2, ↓hS.n2, h.2.2.1.1, h.2.2.1.2.1, w32_eq]
  rw [rankOf_rt hS p0 hp hC.1.2.2.1 hq.1 hq.2 (by omega) (by omega)]
  show RT _ μ = _
  have hl := place_lt (x := x + rO r p 10) (y := y + rO r p 11) hq.1
  unfold rkAt
  rw [Int.mul_comm (rQ r p)]
  exact congrArg (fun z => RT z μ) (hC.2 _ hl.1 hl.2)
theorem rankAt_rt_c (hS : CSh μ) (c0 : 0 ≤ c) (c1 : c < 10) (p0 : 0 ≤ p) (p1 : p < r 2) (hr : okRow r) (hT : Sht μ c r) (hC : ScrR μ r p) (x0 : 0 ≤ x) (x1 : x < 16) (y0 : 0 ≤ y) (y1 : y < 12) {K : Int → Mem → Rz} {X : Int → Int → Mem → Rz} : CLX (FX2_rankAt 4 (25 + 8 * c) p x y μ) K X = K (rkAt r p x y) μ := by
  rw [rankAt_rt hS c0 c1 p0 p1 hr hT hC x0 x1 y0 y1]
  rfl
theorem isDark_rt (hS : CSh μ) (c0 : 0 ≤ c) (c1 : c < 10) (p0 : 0 ≤ p) (p1 : p < r 2) (hr : okRow r) (hT : Sht μ c r) (hC : ScrR μ r p) (hP : PT μ r) (x0 : 0 ≤ x) (x1 : x < r 0) (y0 : 0 ≤ y) (y1 : y < r 1) : FX2_isDark 4 (25 + 8 * c) p x y μ = RT (b2 (dark r p x y)) μ := by
  have ho := hr.2.2.2.2 p p0 p1
  have hp : p < 4 := by have := hr.2.1; omega
  have hq := rQ_le ho
  have hr1 := hr.1
  have hc := cell_lt (show r 0 ≤ 16 by omega) (show r 1 ≤ 12 by omega) x0 x1 y0 y1
  have ht := tnOn_le hr (p := p) x0 x1 y0 y1
  have hk := rkAt_le (x := x) (y := y) hr p0 p1
  have m1 := mul_le_of ht.1 ht.2 (show 0 ≤ rQ r p by omega) hq.2
  have m2 := mul_le_of m1.1 m1.2 (show 0 ≤ rQ r p by omega) hq.2
  simp (disch := omega) only [FX2_isDark, BX2_isDark_0, BX2_isDark_51, ↓hS.g6_0, ↓hS.g6_1, ↓hS.g6_2, ↓hS.g6_3, ↓hS.g6_4, ↓hS.g6_5, ↓hS.g6_7, ↓hS.g6_8, ↓hS.k6, ↓hS.g2_0, ↓hS.g2_1, ↓hS.g2_2, ↓hS.g2_3, ↓hS.g2_4, ↓hS.g2_5, ↓hS.g2_6, ↓hS.g2_7, ↓hS.k2, ↓hS.g3_0, ↓hS.g3_1, ↓hS.g3_2, ↓hS.g3_3, ↓hS.g3_4, ↓hS.k3, ↓hS.g4_0, ↓hS.g4_1, ↓hS.g4_3, ↓hS.g4_5, ↓hS.g4_6, ↓hS.g4_7, ↓hS.g4_8, ↓hS.g4_9, ↓hS.g4_10, ↓hS.g4_12, ↓hS.g4_11, ↓hS.k4, ↓hS.g5_0, ↓hS.g5_1, ↓hS.g5_2, ↓hS.g5_3, ↓hS.g5_4, ↓hS.g5_5, ↓hS.g5_6, ↓hS.k5, ↓hS.g1_0, ↓hS.g1_1, ↓hS.g1_2, ↓hS.g1_3, ↓hS.g1_4, ↓hS.g1_5, ↓hS.g1_6, ↓hS.g1_7, ↓hS.k1, ↓hS.l3, ↓hS.n3, ↓hS.l26, ↓hS.n26, ↓hS.l5, ↓hS.n5, ↓hS.l12, ↓hS.n12, ↓hS.l6, ↓hS.n6, ↓hS.l10, ↓hS.n10, ↓hS.l11, ↓hS.n11, ↓hS.l13, ↓hS.n13, ↓hS.l14, ↓hS.n14, ↓hS.l16, ↓hS.n16, ↓hS.l24, ↓hS.n24, ↓hS.l27, ↓hS.n27, ↓hS.l28, ↓hS.n28, ↓hS.l2, ↓hS.n2, ↓CL, ↓pS_rt_c hS c0 c1 p0 p1 hr hT, ↓rankAt_rt_c hS c0 c1 p0 p1 hr hT hC, ↓idx_rt_c hS c0 c1 hT.1.1, hP p p0 p1 x y x0 x1 y0 y1, w32_eq]
  by_cases hs : dark r p x y
  · rw [b2_t hs, if_neg (by unfold dark at hs; omega)]
    rfl
  · rw [b2_f hs, if_pos (by unfold dark at hs; omega)]
    rfl
theorem isDark_rt_c (hS : CSh μ) (c0 : 0 ≤ c) (c1 : c < 10) (p0 : 0 ≤ p) (p1 : p < r 2) (hr : okRow r) (hT : Sht μ c r) (hC : ScrR μ r p) (hP : PT μ r) (x0 : 0 ≤ x) (x1 : x < r 0) (y0 : 0 ≤ y) (y1 : y < r 1) {K : Int → Mem → Rz} {X : Int → Int → Mem → Rz} : CLX (FX2_isDark 4 (25 + 8 * c) p x y μ) K X = K (b2 (dark r p x y)) μ := by
  rw [isDark_rt hS c0 c1 p0 p1 hr hT hC hP x0 x1 y0 y1]
  rfl
end MORE

