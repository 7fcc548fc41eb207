/-! the component's counts and sums -/
def PI (μ : Mem) (r : Row) : Prop := ∀ x y, 0 ≤ x → x < r 0 → 0 ≤ y → y < r 1 → μ 10 (y * r 0 + x) = ikA r x y
def PD (μ : Mem) (r : Row) : Prop := ∀ p, 0 ≤ p → p < r 2 → μ 11 p = dotsOf r p
def PT (μ : Mem) (r : Row) : Prop := ∀ p, 0 ≤ p → p < r 2 → ∀ x y, 0 ≤ x → x < r 0 → 0 ≤ y → y < r 1 → μ (6 + p) (y * r 0 + x) = tnOn r p x y
theorem ikA_16 {r : Row} (hr : okRow r) (x y : Int) : 0 ≤ ikA r x y ∧ ikA r x y < 16 := ik_16 r x y _ (by have := hr.2.1; omega)
theorem cl_le {lo hi v : Int} (h : lo ≤ hi) : lo ≤ cl lo hi v ∧ cl lo hi v ≤ hi := by
  unfold cl
  split
  · omega
  · split <;> omega
theorem tnOn_le {r : Row} (hr : okRow r) {p x y : Int} (x0 : 0 ≤ x) (x1 : x < r 0) (y0 : 0 ≤ y) (y1 : y < r 1) : 0 ≤ tnOn r p x y ∧ tnOn r p x y ≤ 100 := by
  unfold tnOn
  split
  · exact hr.2.2.2.1 x y x0 x1 y0 y1
  · exact cl_le (by omega)
theorem dotsOf_le {r : Row} (hr : okRow r) (p : Int) : 0 ≤ dotsOf r p ∧ dotsOf r p ≤ 192 := by
  have h := su2_le (f := fun x y => b2 (dotAt r p x y)) (w := r 0) (h := r 1) (B := 1) (by have := hr.1; omega) (by have := hr.1; omega) fun x y _ _ _ _ => b2_0
  have h2 := mul_le_of (a := r 1) (b := r 0 * 1) (c := 12) (d := 16) (by have := hr.1; omega) (by have := hr.1; omega) (by have := hr.1; omega) (by have := hr.1; omega)
  unfold dotsOf
  omega
section SUMS
variable {μ : Mem} {c p : Int} {r : Row}
theorem cells_rt (hS : CSh μ) (c0 : 0 ≤ c) (c1 : c < 10) (hr : okRow r) (hT : Sht μ c r) : FX5_cells (25 + 8 * c) μ = RT (r 1 * r 0) μ := by
  have hr1 := hr.1
  have h2 := mul_le_of (a := r 0) (b := r 1) (c := 16) (d := 12) (by omega) (by omega) (by omega) (by omega)
  simp (disch := omega) only [FX5_cells, BX5_cells_0, ↓hS.g6_0, ↓hS.g6_1, ↓hS.g6_2, ↓hS.g6_3, ↓hS.g6_4, ↓hS.g6_5, ↓hS.g6_7, ↓hS.g6_8, ↓hS.k6, ↓hS.g2_0, ↓hS.g2_1, ↓hS.g2_2, ↓hS.g2_3, ↓hS.g2_4, ↓hS.g2_5, ↓hS.g2_6, ↓hS.g2_7, ↓hS.k2, ↓hS.g3_0, ↓hS.g3_1, ↓hS.g3_2, ↓hS.g3_3, ↓hS.g3_4, ↓hS.k3, ↓hS.g4_0, ↓hS.g4_1, ↓hS.g4_3, ↓hS.g4_5, ↓hS.g4_6, ↓hS.g4_7, ↓hS.g4_8, ↓hS.g4_9, ↓hS.g4_10, ↓hS.g4_12, ↓hS.g4_11, ↓hS.k4, ↓hS.g5_0, ↓hS.g5_1, ↓hS.g5_2, ↓hS.g5_3, ↓hS.g5_4, ↓hS.g5_5, ↓hS.g5_6, ↓hS.k5, ↓hS.g1_0, ↓hS.g1_1, ↓hS.g1_2, ↓hS.g1_3, ↓hS.g1_4, ↓hS.g1_5, ↓hS.g1_6, ↓hS.g1_7, ↓hS.k1, ↓hS.l3, ↓hS.n3, ↓hS.l26, ↓hS.n26, ↓hS.l5, ↓hS.n5, ↓hS.l12, ↓hS.n12, ↓hS.l6, ↓hS.n6, ↓hS.l10, ↓hS.n10, ↓hS.l11, ↓hS.n11, ↓hS.l13, ↓hS.n13, ↓hS.l14, ↓hS.n14, ↓hS.l16, ↓hS.n16, ↓hS.l24, ↓hS.n24, ↓hS.l27, ↓hS.n27, ↓hS.l28, ↓hS.n28, ↓hS.l2, ↓hS.n2, hT.1.1, hT.1.2.1, w32_eq]
  rw [Int.mul_comm]
theorem cells_rt_c (hS : CSh μ) (c0 : 0 ≤ c) (c1 : c < 10) (hr : okRow r) (hT : Sht μ c r) {K : Int → Mem → Rz} {X : Int → Int → Mem → Rz} : CLX (FX5_cells (25 + 8 * c) μ) K X = K (r 1 * r 0) μ := by
  rw [cells_rt hS c0 c1 hr hT]
  rfl
theorem dotsOfAll_rt (hS : CSh μ) (c0 : 0 ≤ c) (c1 : c < 10) (hr : okRow r) (hT : Sht μ c r) (hD : PD μ r) : FX2_dotsOfAll 4 (25 + 8 * c) μ = RT (dotsAll r) μ := by
  have hr2 := hr.2.1
  unfold FX2_dotsOfAll BX2_dotsOfAll_0 dotsAll
  refine sglS (fun n s x => LX2_dotsOfAll_4 n 4 (25 + 8 * c) s x μ) (r 2) 192 (fun p => dotsOf r p) (fun v => RT v μ) (by omega) (by omega) (by omega) (fun x _ _ => dotsOf_le hr x) (fun n s x x0 x1 s0 s1 g0 g1 => ?_) (fun n s => ?_) FU (by rw [show ((FU : Nat) : Int) = 20000 from rfl]; omega)
  · have h : ¬ r 2 ≤ x := by omega
    simp (disch := omega) only [LX2_dotsOfAll_4, BX2_dotsOfAll_4, ↓hS.g6_0, ↓hS.g6_1, ↓hS.g6_2, ↓hS.g6_3, ↓hS.g6_4, ↓hS.g6_5, ↓hS.g6_7, ↓hS.g6_8, ↓hS.k6, ↓hS.g2_0, ↓hS.g2_1, ↓hS.g2_2, ↓hS.g2_3, ↓hS.g2_4, ↓hS.g2_5, ↓hS.g2_6, ↓hS.g2_7, ↓hS.k2, ↓hS.g3_0, ↓hS.g3_1, ↓hS.g3_2, ↓hS.g3_3, ↓hS.g3_4, ↓hS.k3, ↓hS.g4_0, ↓hS.g4_1, ↓hS.g4_3, ↓hS.g4_5, ↓hS.g4_6, ↓hS.g4_7, ↓hS.g4_8, ↓hS.g4_9, ↓hS.g4_10, ↓hS.g4_12, ↓hS.g4_11, ↓hS.k4, ↓hS.g5_0, ↓hS.g5_1, ↓hS.g5_2, ↓hS.g5_3, ↓hS.g5_4, ↓hS.g5_5, ↓hS.g5_6, ↓hS.k5, ↓hS.g1_0, ↓hS.g1_1, ↓hS.g1_2, ↓hS.g1_3, ↓hS.g1_4, ↓hS.g1_5, ↓hS.g1_6, ↓hS.g1_7, ↓hS.k1, ↓hS.l3, ↓hS.n3, ↓hS.l26, ↓hS.n26, ↓hS.l5, ↓hS.n5, ↓hS.l12, ↓hS.n12, ↓hS.l6, ↓hS.n6, ↓hS.l10, ↓hS.n10, ↓hS.l11, ↓hS.n11, ↓hS.l13, ↓hS.n13, ↓hS.l14, ↓hS.n14, ↓hS.l16, ↓hS.n16, ↓hS.l24, ↓hS.n24, ↓hS.l27, ↓hS.n27, ↓hS.l28, ↓hS.n28, ↓hS.l2, ↓hS.n2, hT.1.2.2.2, h, ↓reduceIte, ↓LT_eq, hD x x0 x1, w32_eq]
  · simp (disch := omega) only [LX2_dotsOfAll_4, BX2_dotsOfAll_4, ↓hS.g6_0, ↓hS.g6_1, ↓hS.g6_2, ↓hS.g6_3, ↓hS.g6_4, ↓hS.g6_5, ↓hS.g6_7, ↓hS.g6_8, ↓hS.k6, ↓hS.g2_0, ↓hS.g2_1, ↓hS.g2_2, ↓hS.g2_3, ↓hS.g2_4, ↓hS.g2_5, ↓hS.g2_6, ↓hS.g2_7, ↓hS.k2, ↓hS.g3_0, ↓hS.g3_1, ↓hS.g3_2, ↓hS.g3_3, ↓hS.g3_4, ↓hS.k3, ↓hS.g4_0, ↓hS.g4_1, ↓hS.g4_3, ↓hS.g4_5, ↓hS.g4_6, ↓hS.g4_7, ↓hS.g4_8, ↓hS.g4_9, ↓hS.g4_10, ↓hS.g4_12, ↓hS.g4_11, ↓hS.k4, ↓hS.g5_0, ↓hS.g5_1, ↓hS.g5_2, ↓hS.g5_3, ↓hS.g5_4, ↓hS.g5_5, ↓hS.g5_6, ↓hS.k5, ↓hS.g1_0, ↓hS.g1_1, ↓hS.g1_2, ↓hS.g1_3, ↓hS.g1_4, ↓hS.g1_5, ↓hS.g1_6, ↓hS.g1_7, ↓hS.k1, ↓hS.l3, ↓hS.n3, ↓hS.l26, ↓hS.n26, ↓hS.l5, ↓hS.n5, ↓hS.l12, ↓hS.n12, ↓hS.l6, ↓hS.n6, ↓hS.l10, ↓hS.n10, ↓hS.l11, ↓hS.n11, ↓hS.l13, ↓hS.n13, ↓hS.l14, ↓hS.n14, ↓hS.l16, ↓hS.n16, ↓hS.l24, ↓hS.n24, ↓hS.l27, ↓hS.n27, ↓hS.l28, ↓hS.n28, ↓hS.l2, ↓hS.n2, hT.1.2.2.2, Int.le_refl, ↓reduceIte]
theorem dotsOfAll_rt_c (hS : CSh μ) (c0 : 0 ≤ c) (c1 : c < 10) (hr : okRow r) (hT : Sht μ c r) (hD : PD μ r) {K : Int → Mem → Rz} {X : Int → Int → Mem → Rz} : CLX (FX2_dotsOfAll 4 (25 + 8 * c) μ) K X = K (dotsAll r) μ := by
  rw [dotsOfAll_rt hS c0 c1 hr hT hD]
  rfl
/-- a sum over all places is one over rows -/
theorem su_cells {f : Int → Int} (hr : okRow r) : su f (r 1 * r 0) = su2 (fun x y => f (y * r 0 + x)) (r 0) (r 1) := by
  have hr1 := hr.1
  have h := su2_rows f (w := r 0) (by omega) (r 1).toNat
  rw [Int.toNat_of_nonneg (by omega)] at h
  exact h
theorem cellsHaving_rt (hS : CSh μ) {k : Int} (c0 : 0 ≤ c) (c1 : c < 10) (hr : okRow r) (hT : Sht μ c r) (hI : PI μ r) : FX2_cellsHaving 4 (25 + 8 * c) k μ = RT (having r k) μ := by
  have hr1 := hr.1
  have h2 := mul_le_of (a := r 1) (b := r 0) (c := 12) (d := 16) (by omega) (by omega) (by omega) (by omega)
  have e : having r k = su (fun i => b2 (bc (μ 10 i) = k)) (r 1 * r 0) := by
    rw [su_cells hr]
    unfold having
    exact su2_ext fun x y x0 x1 y0 y1 => by rw [hI x y x0 x1 y0 y1]
  rw [e]
  unfold FX2_cellsHaving BX2_cellsHaving_0
  refine sglS (fun n s x => LX2_cellsHaving_5 n 4 (25 + 8 * c) k s x μ) (r 1 * r 0) 1 (fun i => b2 (bc (μ 10 i) = k)) (fun v => RT v μ) (by omega) (by omega) (by omega) (fun x _ _ => b2_0) (fun n s x x0 x1 s0 s1 g0 g1 => ?_) (fun n s => ?_) FU (by rw [show ((FU : Nat) : Int) = 20000 from rfl]; omega)
  · have h : ¬ r 1 * r 0 ≤ x := by omega
    have hv : 0 ≤ μ 10 x ∧ μ 10 x < 16 := by
      obtain ⟨x', y', a1, a2, a3, a4, rfl⟩ := cell_of (w := r 0) (by omega) x0 x1
      rw [hI x' y' a1 a2 a3 a4]
      exact ikA_16 hr x' y'
    simp (disch := omega) only [LX2_cellsHaving_5, BX2_cellsHaving_5, BX2_cellsHaving_34, ↓hS.g6_0, ↓hS.g6_1, ↓hS.g6_2, ↓hS.g6_3, ↓hS.g6_4, ↓hS.g6_5, ↓hS.g6_7, ↓hS.g6_8, ↓hS.k6, ↓hS.g2_0, ↓hS.g2_1, ↓hS.g2_2, ↓hS.g2_3, ↓hS.g2_4, ↓hS.g2_5, ↓hS.g2_6, ↓hS.g2_7, ↓hS.k2, ↓hS.g3_0, ↓hS.g3_1, ↓hS.g3_2, ↓hS.g3_3, ↓hS.g3_4, ↓hS.k3, ↓hS.g4_0, ↓hS.g4_1, ↓hS.g4_3, ↓hS.g4_5, ↓hS.g4_6, ↓hS.g4_7, ↓hS.g4_8, ↓hS.g4_9, ↓hS.g4_10, ↓hS.g4_12, ↓hS.g4_11, ↓hS.k4, ↓hS.g5_0, ↓hS.g5_1, ↓hS.g5_2, ↓hS.g5_3, ↓hS.g5_4, ↓hS.g5_5, ↓hS.g5_6, ↓hS.k5, ↓hS.g1_0, ↓hS.g1_1, ↓hS.g1_2, ↓hS.g1_3, ↓hS.g1_4, ↓hS.g1_5, ↓hS.g1_6, ↓hS.g1_7, ↓hS.k1, ↓hS.l3, ↓hS.n3, ↓hS.l26, ↓hS.n26, ↓hS.l5, ↓hS.n5, ↓hS.l12, ↓hS.n12, ↓hS.l6, ↓hS.n6, ↓hS.l10, ↓hS.n10, ↓hS.l11, ↓hS.n11, ↓hS.l13, ↓hS.n13, ↓hS.l14, ↓hS.n14, ↓hS.l16, ↓hS.n16, ↓hS.l24, ↓hS.n24, ↓hS.l27, ↓hS.n27, ↓hS.l28, ↓hS.n28, ↓hS.l2, ↓hS.n2, ↓CL, ↓cells_rt_c hS c0 c1 hr hT, h, ↓reduceIte, ↓bitCount_rt_c hv.1 hv.2, ↓LT_eq, w32_eq]
    by_cases hs : bc (μ 10 x) = k
    · rw [b2_t hs, if_neg (fun h => h hs)]
    · rw [b2_f hs, if_pos hs]
  · simp (disch := omega) only [LX2_cellsHaving_5, BX2_cellsHaving_5, ↓hS.g6_0, ↓hS.g6_1, ↓hS.g6_2, ↓hS.g6_3, ↓hS.g6_4, ↓hS.g6_5, ↓hS.g6_7, ↓hS.g6_8, ↓hS.k6, ↓hS.g2_0, ↓hS.g2_1, ↓hS.g2_2, ↓hS.g2_3, ↓hS.g2_4, ↓hS.g2_5, ↓hS.g2_6, ↓hS.g2_7, ↓hS.k2, ↓hS.g3_0, ↓hS.g3_1, ↓hS.g3_2, ↓hS.g3_3, ↓hS.g3_4, ↓hS.k3, ↓hS.g4_0, ↓hS.g4_1, ↓hS.g4_3, ↓hS.g4_5, ↓hS.g4_6, ↓hS.g4_7, ↓hS.g4_8, ↓hS.g4_9, ↓hS.g4_10, ↓hS.g4_12, ↓hS.g4_11, ↓hS.k4, ↓hS.g5_0, ↓hS.g5_1, ↓hS.g5_2, ↓hS.g5_3, ↓hS.g5_4, ↓hS.g5_5, ↓hS.g5_6, ↓hS.k5, ↓hS.g1_0, ↓hS.g1_1, ↓hS.g1_2, ↓hS.g1_3, ↓hS.g1_4, ↓hS.g1_5, ↓hS.g1_6, ↓hS.g1_7, ↓hS.k1, ↓hS.l3, ↓hS.n3, ↓hS.l26, ↓hS.n26, ↓hS.l5, ↓hS.n5, ↓hS.l12, ↓hS.n12, ↓hS.l6, ↓hS.n6, ↓hS.l10, ↓hS.n10, ↓hS.l11, ↓hS.n11, ↓hS.l13, ↓hS.n13, ↓hS.l14, ↓hS.n14, ↓hS.l16, ↓hS.n16, ↓hS.l24, ↓hS.n24, ↓hS.l27, ↓hS.n27, ↓hS.l28, ↓hS.n28, ↓hS.l2, ↓hS.n2, ↓CL, ↓cells_rt_c hS c0 c1 hr hT, Int.le_refl, ↓reduceIte]
theorem cellsHaving_rt_c (hS : CSh μ) {k : Int} (c0 : 0 ≤ c) (c1 : c < 10) (hr : okRow r) (hT : Sht μ c r) (hI : PI μ r) {K : Int → Mem → Rz} {X : Int → Int → Mem → Rz} : CLX (FX2_cellsHaving 4 (25 + 8 * c) k μ) K X = K (having r k) μ := by
  rw [cellsHaving_rt hS c0 c1 hr hT hI]
  rfl
theorem sumOfTones_rt {a n : Int} (h1 : μ a (-1) = 21) (h2 : μ a (-2) = 192) (n0 : 0 ≤ n) (n1 : n ≤ 192) (hv : ∀ i, 0 ≤ i → i < n → 0 ≤ μ a i ∧ μ a i ≤ 100) : FX6_sumOfTones a n μ = RT (su (fun i => μ a i) n) μ := by
  unfold FX6_sumOfTones BX6_sumOfTones_0
  refine sglS (fun m s x => LX6_sumOfTones_4 m a n s x μ) n 100 (fun i => μ a i) (fun v => RT v μ) (by omega) (by omega) (by omega) hv (fun m s x x0 x1 s0 s1 g0 g1 => ?_) (fun m s => ?_) FU (by rw [show ((FU : Nat) : Int) = 20000 from rfl]; omega)
  · have h : ¬ n ≤ x := by omega
    have h3 : ¬ 192 ≤ x := by omega
    simp (disch := omega) only [LX6_sumOfTones_4, BX6_sumOfTones_4, h, ↓reduceIte, ↓LN_of (t := 1) h1 h2, h3, ↓AL_of (t := 1) h1 h2, ↓LT_eq, w32_eq]
  · simp (disch := omega) only [LX6_sumOfTones_4, BX6_sumOfTones_4, BX6_sumOfTones_27, Int.le_refl, ↓reduceIte]
end SUMS

