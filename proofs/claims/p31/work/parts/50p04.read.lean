/-! the component's cells that hold a row, and its methods that only read -/
def itm (op v : Int) : Int := if op = 0 then v else if op = 1 then -1 - v else -3 - op
def pkN (r : Row) (p : Int) : Nat → Int
  | 0 => 1
  | j + 1 => pkN r p j * 256 + rO r p (1 + j)
def nmO (r : Row) (p : Int) : Int := pkN r p (rO r p 0).toNat
/-- the curve q holds the codes of the plate p -/
def Crv (μ : Mem) (q : Int) (r : Row) (p : Int) : Prop := (105 ≤ q ∧ q < μ 0 0 ∧ μ q (-1) = 1) ∧ (105 ≤ μ q 0 ∧ μ q 0 < μ 0 0 ∧ μ (μ q 0) (-1) = 21 ∧ μ (μ q 0) (-2) = rO r p 13) ∧ ∀ k, 0 ≤ k → k < rO r p 13 → μ (μ q 0) k = itm (cOp r p k) (cV r p k)
def Plt (μ : Mem) (a : Int) (r : Row) (p : Int) : Prop := μ a 0 = nmO r p ∧ (μ a 1 = rO r p 7 ∧ μ a 2 = rO r p 8 ∧ μ a 3 = rO r p 9) ∧ (μ a 4 = rO r p 10 ∧ μ a 5 = rO r p 11 ∧ μ a 6 = rO r p 12) ∧ (rO r p 13 = 0 → μ a 7 = 0) ∧ (rO r p 13 ≠ 0 → Crv μ (μ a 7) r p)
/-- the sheet c holds the row r -/
def Sht (μ : Mem) (c : Int) (r : Row) : Prop := (μ (25 + 8 * c) 0 = r 0 ∧ μ (25 + 8 * c) 1 = r 1 ∧ μ (25 + 8 * c) 2 = r 3 ∧ μ (25 + 8 * c) 3 = r 2) ∧
  (∀ x y, 0 ≤ x → x < r 0 → 0 ≤ y → y < r 1 → μ (27 + 8 * c) (y * r 0 + x) = rT r x y) ∧
  (∀ x y, 0 ≤ x → x < r 0 → 0 ≤ y → y < r 1 → (0 ≤ μ (28 + 8 * c) (y * r 0 + x) ∧ μ (28 + 8 * c) (y * r 0 + x) < 16) ∧ ∀ p, 0 ≤ p → p < 4 → bt (μ (28 + 8 * c) (y * r 0 + x)) p = if p < r 2 then bt (rO r p (14 + y)) x else 0) ∧
  ∀ p, 0 ≤ p → p < r 2 → Plt μ (29 + 8 * c + p) r p
theorem w32_sq {a b : Int} (ha : 0 ≤ a ∧ a ≤ 3) (hb : 0 ≤ b ∧ b ≤ 3) : 0 ≤ a * a ∧ a * a ≤ 9 ∧ 0 ≤ b * b ∧ b * b ≤ 9 := by
  have h1 := mul_le_of ha.1 ha.2 ha.1 ha.2
  have h2 := mul_le_of hb.1 hb.2 hb.1 hb.2
  omega
theorem sq_pos {a b : Int} (ha : 0 ≤ a ∧ a ≤ 3) (hb : 0 ≤ b ∧ b ≤ 3) (h : 0 < a + b) : 1 ≤ a * a + b * b ∧ a * a + b * b ≤ 18 := by
  have h0 := w32_sq ha hb
  rcases Int.lt_or_le 0 a with h1 | h1
  · have := Int.mul_pos h1 h1
    omega
  · have h2 : 0 < b := by omega
    have := Int.mul_pos h2 h2
    omega
theorem rQ_le {r : Row} {p : Int} (h : okPlate r p) : 1 ≤ rQ r p ∧ rQ r p ≤ 18 := sq_pos ⟨h.1.1, h.1.2.1⟩ ⟨h.1.2.2.1, h.1.2.2.2.1⟩ h.1.2.2.2.2
section READ
variable {μ : Mem} {c p x y : Int}
theorem p_rt (hS : CSh μ) {a b : Int} (c0 : 0 ≤ c) (c1 : c < 10) (p0 : 0 ≤ p) (p1 : p < 4) (h1 : μ (29 + 8 * c + p) 1 = a) (h2 : μ (29 + 8 * c + p) 2 = b) (ha : 0 ≤ a ∧ a ≤ 3) (hb : 0 ≤ b ∧ b ≤ 3) : FX1_p (29 + 8 * c + p) μ = RT (a * a + b * b) μ := by
  have hw := w32_sq ha hb
  simp (disch := omega) only [FX1_p, BX1_p_0, ↓hS.g6_0, ↓hS.g6_1, ↓hS.g6_2, ↓hS.g6_3, ↓hS.g6_4, ↓hS.g6_5, ↓hS.g6_7, ↓hS.g6_8, ↓hS.k6, ↓hS.g2_0, ↓hS.g2_1, ↓hS.g2_2, ↓hS.g2_3, ↓hS.g2_4, ↓hS.g2_5, ↓hS.g2_6, ↓hS.g2_7, ↓hS.k2, ↓hS.g3_0, ↓hS.g3_1, ↓hS.g3_2, ↓hS.g3_3, ↓hS.g3_4, ↓hS.k3, ↓hS.g4_0, ↓hS.g4_1, ↓hS.g4_3, ↓hS.g4_5, ↓hS.g4_6, ↓hS.g4_7, ↓hS.g4_8, ↓hS.g4_9, ↓hS.g4_10, ↓hS.g4_12, ↓hS.g4_11, ↓hS.k4, ↓hS.g5_0, ↓hS.g5_1, ↓hS.g5_2, ↓hS.g5_3, ↓hS.g5_4, ↓hS.g5_5, ↓hS.g5_6, ↓hS.k5, ↓hS.g1_0, ↓hS.g1_1, ↓hS.g1_2, ↓hS.g1_3, ↓hS.g1_4, ↓hS.g1_5, ↓hS.g1_6, ↓hS.g1_7, ↓hS.k1, ↓hS.l3, ↓hS.n3, ↓hS.l26, ↓hS.n26, ↓hS.l5, ↓hS.n5, ↓hS.l12, ↓hS.n12, ↓hS.l6, ↓hS.n6, ↓hS.l10, ↓hS.n10, ↓hS.l11, ↓hS.n11, ↓hS.l13, ↓hS.n13, ↓hS.l14, ↓hS.n14, ↓hS.l16, ↓hS.n16, ↓hS.l24, ↓hS.n24, ↓hS.l27, ↓hS.n27, ↓hS.l28, ↓hS.n28, ↓hS.l2, ↓hS.n2, h1, h2, w32_eq]
theorem p_rt_c (hS : CSh μ) {a b : Int} (c0 : 0 ≤ c) (c1 : c < 10) (p0 : 0 ≤ p) (p1 : p < 4) (h1 : μ (29 + 8 * c + p) 1 = a) (h2 : μ (29 + 8 * c + p) 2 = b) (ha : 0 ≤ a ∧ a ≤ 3) (hb : 0 ≤ b ∧ b ≤ 3) {K : Int → Mem → Rz} {X : Int → Int → Mem → Rz} : CLX (FX1_p (29 + 8 * c + p) μ) K X = K (a * a + b * b) μ := by
  rw [p_rt hS c0 c1 p0 p1 h1 h2 ha hb]
  rfl
theorem idx_rt (hS : CSh μ) {w : Int} (c0 : 0 ≤ c) (c1 : c < 10) (hw : μ (25 + 8 * c) 0 = w) (w0 : 0 ≤ w ∧ w ≤ 16) (x0 : 0 ≤ x) (x1 : x < w) (y0 : 0 ≤ y) (y1 : y < 12) : FX5_indexOfCell (25 + 8 * c) x y μ = RT (y * w + x) μ := by
  have hb := cell_lt w0.2 (show (12 : Int) ≤ 12 by omega) x0 x1 y0 y1
  simp (disch := omega) only [FX5_indexOfCell, BX5_indexOfCell_0, ↓hS.g6_0, ↓hS.g6_1, ↓hS.g6_2, ↓hS.g6_3, ↓hS.g6_4, ↓hS.g6_5, ↓hS.g6_7, ↓hS.g6_8, ↓hS.k6, ↓hS.g2_0, ↓hS.g2_1, ↓hS.g2_2, ↓hS.g2_3, ↓hS.g2_4, ↓hS.g2_5, ↓hS.g2_6, ↓hS.g2_7, ↓hS.k2, ↓hS.g3_0, ↓hS.g3_1, ↓hS.g3_2, ↓hS.g3_3, ↓hS.g3_4, ↓hS.k3, ↓hS.g4_0, ↓hS.g4_1, ↓hS.g4_3, ↓hS.g4_5, ↓hS.g4_6, ↓hS.g4_7, ↓hS.g4_8, ↓hS.g4_9, ↓hS.g4_10, ↓hS.g4_12, ↓hS.g4_11, ↓hS.k4, ↓hS.g5_0, ↓hS.g5_1, ↓hS.g5_2, ↓hS.g5_3, ↓hS.g5_4, ↓hS.g5_5, ↓hS.g5_6, ↓hS.k5, ↓hS.g1_0, ↓hS.g1_1, ↓hS.g1_2, ↓hS.g1_3, ↓hS.g1_4, ↓hS.g1_5, ↓hS.g1_6, ↓hS.g1_7, ↓hS.k1, ↓hS.l3, ↓hS.n3, ↓hS.l26, ↓hS.n26, ↓hS.l5, ↓hS.n5, ↓hS.l12, ↓hS.n12, ↓hS.l6, ↓hS.n6, ↓hS.l10, ↓hS.n10, ↓hS.l11, ↓hS.n11, ↓hS.l13, ↓hS.n13, ↓hS.l14, ↓hS.n14, ↓hS.l16, ↓hS.n16, ↓hS.l24, ↓hS.n24, ↓hS.l27, ↓hS.n27, ↓hS.l28, ↓hS.n28, ↓hS.l2, ↓hS.n2, hw, w32_eq]
theorem idx_rt_c (hS : CSh μ) {w : Int} (c0 : 0 ≤ c) (c1 : c < 10) (hw : μ (25 + 8 * c) 0 = w) (w0 : 0 ≤ w ∧ w ≤ 16) (x0 : 0 ≤ x) (x1 : x < w) (y0 : 0 ≤ y) (y1 : y < 12) {K : Int → Mem → Rz} {X : Int → Int → Mem → Rz} : CLX (FX5_indexOfCell (25 + 8 * c) x y μ) K X = K (y * w + x) μ := by
  rw [idx_rt hS c0 c1 hw w0 x0 x1 y0 y1]
  rfl
theorem hasDot_rt (hS : CSh μ) {i : Int} (i0 : 0 ≤ i) (i1 : i < 192) : FX2_hasDot 4 p i μ = RT (b2 (bt (μ 10 i) p = 1)) μ := by
  simp (disch := omega) only [FX2_hasDot, BX2_hasDot_0, ↓hS.g6_0, ↓hS.g6_1, ↓hS.g6_2, ↓hS.g6_3, ↓hS.g6_4, ↓hS.g6_5, ↓hS.g6_7, ↓hS.g6_8, ↓hS.k6, ↓hS.g2_0, ↓hS.g2_1, ↓hS.g2_2, ↓hS.g2_3, ↓hS.g2_4, ↓hS.g2_5, ↓hS.g2_6, ↓hS.g2_7, ↓hS.k2, ↓hS.g3_0, ↓hS.g3_1, ↓hS.g3_2, ↓hS.g3_3, ↓hS.g3_4, ↓hS.k3, ↓hS.g4_0, ↓hS.g4_1, ↓hS.g4_3, ↓hS.g4_5, ↓hS.g4_6, ↓hS.g4_7, ↓hS.g4_8, ↓hS.g4_9, ↓hS.g4_10, ↓hS.g4_12, ↓hS.g4_11, ↓hS.k4, ↓hS.g5_0, ↓hS.g5_1, ↓hS.g5_2, ↓hS.g5_3, ↓hS.g5_4, ↓hS.g5_5, ↓hS.g5_6, ↓hS.k5, ↓hS.g1_0, ↓hS.g1_1, ↓hS.g1_2, ↓hS.g1_3, ↓hS.g1_4, ↓hS.g1_5, ↓hS.g1_6, ↓hS.g1_7, ↓hS.k1, ↓hS.l3, ↓hS.n3, ↓hS.l26, ↓hS.n26, ↓hS.l5, ↓hS.n5, ↓hS.l12, ↓hS.n12, ↓hS.l6, ↓hS.n6, ↓hS.l10, ↓hS.n10, ↓hS.l11, ↓hS.n11, ↓hS.l13, ↓hS.n13, ↓hS.l14, ↓hS.n14, ↓hS.l16, ↓hS.n16, ↓hS.l24, ↓hS.n24, ↓hS.l27, ↓hS.n27, ↓hS.l28, ↓hS.n28, ↓hS.l2, ↓hS.n2, BX2_hasDot_19]
  by_cases h : bt (μ 10 i) p = 1
  · rw [b2_t h, if_neg (by unfold bt at h; omega)]
    rfl
  · rw [b2_f h, if_pos (by unfold bt at h; omega)]
    rfl
theorem hasDot_rt_c (hS : CSh μ) {i : Int} (i0 : 0 ≤ i) (i1 : i < 192) {K : Int → Mem → Rz} {X : Int → Int → Mem → Rz} : CLX (FX2_hasDot 4 p i μ) K X = K (b2 (bt (μ 10 i) p = 1)) μ := by
  rw [hasDot_rt hS i0 i1]
  rfl
theorem isDotAt_rt (hS : CSh μ) {r : Row} (c0 : 0 ≤ c) (c1 : c < 10) (hr : okRow r) (hT : μ (25 + 8 * c) 0 = r 0 ∧ μ (25 + 8 * c) 1 = r 1) (hI : ∀ x y, 0 ≤ x → x < r 0 → 0 ≤ y → y < r 1 → μ 10 (y * r 0 + x) = ikA r x y) : FX2_isDotAt 4 (25 + 8 * c) p x y μ = RT (b2 (dotAt r p x y)) μ := by
  have hw := hT.1
  have hh := hT.2
  have hr1 := hr.1
  by_cases h1 : x < 0
  · rw [b2_f (fun h => by omega)]
    simp only [FX2_isDotAt, BX2_isDotAt_0, BX2_isDotAt_45, BX2_isDotAt_46, h1, ↓reduceIte, RTZ_0]
  by_cases h2 : r 0 ≤ x
  · rw [b2_f (fun h => by omega)]
    simp (disch := omega) only [FX2_isDotAt, BX2_isDotAt_0, BX2_isDotAt_45, BX2_isDotAt_46, h1, ↓reduceIte, RTZ_0, ↓hS.g6_0, ↓hS.g6_1, ↓hS.g6_2, ↓hS.g6_3, ↓hS.g6_4, ↓hS.g6_5, ↓hS.g6_7, ↓hS.g6_8, ↓hS.k6, ↓hS.g2_0, ↓hS.g2_1, ↓hS.g2_2, ↓hS.g2_3, ↓hS.g2_4, ↓hS.g2_5, ↓hS.g2_6, ↓hS.g2_7, ↓hS.k2, ↓hS.g3_0, ↓hS.g3_1, ↓hS.g3_2, ↓hS.g3_3, ↓hS.g3_4, ↓hS.k3, ↓hS.g4_0, ↓hS.g4_1, ↓hS.g4_3, ↓hS.g4_5, ↓hS.g4_6, ↓hS.g4_7, ↓hS.g4_8, ↓hS.g4_9, ↓hS.g4_10, ↓hS.g4_12, ↓hS.g4_11, ↓hS.k4, ↓hS.g5_0, ↓hS.g5_1, ↓hS.g5_2, ↓hS.g5_3, ↓hS.g5_4, ↓hS.g5_5, ↓hS.g5_6, ↓hS.k5, ↓hS.g1_0, ↓hS.g1_1, ↓hS.g1_2, ↓hS.g1_3, ↓hS.g1_4, ↓hS.g1_5, ↓hS.g1_6, ↓hS.g1_7, ↓hS.k1, ↓hS.l3, ↓hS.n3, ↓hS.l26, ↓hS.n26, ↓hS.l5, ↓hS.n5, ↓hS.l12, ↓hS.n12, ↓hS.l6, ↓hS.n6, ↓hS.l10, ↓hS.n10, ↓hS.l11, ↓hS.n11, ↓hS.l13, ↓hS.n13, ↓hS.l14, ↓hS.n14, ↓hS.l16, ↓hS.n16, ↓hS.l24, ↓hS.n24, ↓hS.l27, ↓hS.n27, ↓hS.l28, ↓hS.n28, ↓hS.l2, ↓hS.n2, hw, h2]
  by_cases h3 : y < 0
  · rw [b2_f (fun h => by omega)]
    simp (disch := omega) only [FX2_isDotAt, BX2_isDotAt_0, BX2_isDotAt_45, BX2_isDotAt_46, h1, ↓reduceIte, RTZ_0, ↓hS.g6_0, ↓hS.g6_1, ↓hS.g6_2, ↓hS.g6_3, ↓hS.g6_4, ↓hS.g6_5, ↓hS.g6_7, ↓hS.g6_8, ↓hS.k6, ↓hS.g2_0, ↓hS.g2_1, ↓hS.g2_2, ↓hS.g2_3, ↓hS.g2_4, ↓hS.g2_5, ↓hS.g2_6, ↓hS.g2_7, ↓hS.k2, ↓hS.g3_0, ↓hS.g3_1, ↓hS.g3_2, ↓hS.g3_3, ↓hS.g3_4, ↓hS.k3, ↓hS.g4_0, ↓hS.g4_1, ↓hS.g4_3, ↓hS.g4_5, ↓hS.g4_6, ↓hS.g4_7, ↓hS.g4_8, ↓hS.g4_9, ↓hS.g4_10, ↓hS.g4_12, ↓hS.g4_11, ↓hS.k4, ↓hS.g5_0, ↓hS.g5_1, ↓hS.g5_2, ↓hS.g5_3, ↓hS.g5_4, ↓hS.g5_5, ↓hS.g5_6, ↓hS.k5, ↓hS.g1_0, ↓hS.g1_1, ↓hS.g1_2, ↓hS.g1_3, ↓hS.g1_4, ↓hS.g1_5, ↓hS.g1_6, ↓hS.g1_7, ↓hS.k1, ↓hS.l3, ↓hS.n3, ↓hS.l26, ↓hS.n26, ↓hS.l5, ↓hS.n5, ↓hS.l12, ↓hS.n12, ↓hS.l6, ↓hS.n6, ↓hS.l10, ↓hS.n10, ↓hS.l11, ↓hS.n11, ↓hS.l13, ↓hS.n13, ↓hS.l14, ↓hS.n14, ↓hS.l16, ↓hS.n16, ↓hS.l24, ↓hS.n24, ↓hS.l27, ↓hS.n27, ↓hS.l28, ↓hS.n28, ↓hS.l2, ↓hS.n2, hw, h2, h3]
  by_cases h4 : r 1 ≤ y
  · rw [b2_f (fun h => by omega)]
    simp (disch := omega) only [FX2_isDotAt, BX2_isDotAt_0, BX2_isDotAt_45, BX2_isDotAt_46, h1, ↓reduceIte, RTZ_0, ↓hS.g6_0, ↓hS.g6_1, ↓hS.g6_2, ↓hS.g6_3, ↓hS.g6_4, ↓hS.g6_5, ↓hS.g6_7, ↓hS.g6_8, ↓hS.k6, ↓hS.g2_0, ↓hS.g2_1, ↓hS.g2_2, ↓hS.g2_3, ↓hS.g2_4, ↓hS.g2_5, ↓hS.g2_6, ↓hS.g2_7, ↓hS.k2, ↓hS.g3_0, ↓hS.g3_1, ↓hS.g3_2, ↓hS.g3_3, ↓hS.g3_4, ↓hS.k3, ↓hS.g4_0, ↓hS.g4_1, ↓hS.g4_3, ↓hS.g4_5, ↓hS.g4_6, ↓hS.g4_7, ↓hS.g4_8, ↓hS.g4_9, ↓hS.g4_10, ↓hS.g4_12, ↓hS.g4_11, ↓hS.k4, ↓hS.g5_0, ↓hS.g5_1, ↓hS.g5_2, ↓hS.g5_3, ↓hS.g5_4, ↓hS.g5_5, ↓hS.g5_6, ↓hS.k5, ↓hS.g1_0, ↓hS.g1_1, ↓hS.g1_2, ↓hS.g1_3, ↓hS.g1_4, ↓hS.g1_5, ↓hS.g1_6, ↓hS.g1_7, ↓hS.k1, ↓hS.l3, ↓hS.n3, ↓hS.l26, ↓hS.n26, ↓hS.l5, ↓hS.n5, ↓hS.l12, ↓hS.n12, ↓hS.l6, ↓hS.n6, ↓hS.l10, ↓hS.n10, ↓hS.l11, ↓hS.n11, ↓hS.l13, ↓hS.n13, ↓hS.l14, ↓hS.n14, ↓hS.l16, ↓hS.n16, ↓hS.l24, ↓hS.n24, ↓hS.l27, ↓hS.n27, ↓hS.l28, ↓hS.n28, ↓hS.l2, ↓hS.n2, hw, h2, h3, hh, h4]
  have hc := cell_lt (show r 0 ≤ 16 by omega) (show r 1 ≤ 12 by omega) (show 0 ≤ x by omega) (show x < r 0 by omega) (show 0 ≤ y by omega) (show y < r 1 by omega)
  simp (disch := omega) only [FX2_isDotAt, BX2_isDotAt_0, BX2_isDotAt_45, BX2_isDotAt_46, h1, ↓reduceIte, RTZ_0, ↓hS.g6_0, ↓hS.g6_1, ↓hS.g6_2, ↓hS.g6_3, ↓hS.g6_4, ↓hS.g6_5, ↓hS.g6_7, ↓hS.g6_8, ↓hS.k6, ↓hS.g2_0, ↓hS.g2_1, ↓hS.g2_2, ↓hS.g2_3, ↓hS.g2_4, ↓hS.g2_5, ↓hS.g2_6, ↓hS.g2_7, ↓hS.k2, ↓hS.g3_0, ↓hS.g3_1, ↓hS.g3_2, ↓hS.g3_3, ↓hS.g3_4, ↓hS.k3, ↓hS.g4_0, ↓hS.g4_1, ↓hS.g4_3, ↓hS.g4_5, ↓hS.g4_6, ↓hS.g4_7, ↓hS.g4_8, ↓hS.g4_9, ↓hS.g4_10, ↓hS.g4_12, ↓hS.g4_11, ↓hS.k4, ↓hS.g5_0, ↓hS.g5_1, ↓hS.g5_2, ↓hS.g5_3, ↓hS.g5_4, ↓hS.g5_5, ↓hS.g5_6, ↓hS.k5, ↓hS.g1_0, ↓hS.g1_1, ↓hS.g1_2, ↓hS.g1_3, ↓hS.g1_4, ↓hS.g1_5, ↓hS.g1_6, ↓hS.g1_7, ↓hS.k1, ↓hS.l3, ↓hS.n3, ↓hS.l26, ↓hS.n26, ↓hS.l5, ↓hS.n5, ↓hS.l12, ↓hS.n12, ↓hS.l6, ↓hS.n6, ↓hS.l10, ↓hS.n10, ↓hS.l11, ↓hS.n11, ↓hS.l13, ↓hS.n13, ↓hS.l14, ↓hS.n14, ↓hS.l16, ↓hS.n16, ↓hS.l24, ↓hS.n24, ↓hS.l27, ↓hS.n27, ↓hS.l28, ↓hS.n28, ↓hS.l2, ↓hS.n2, hw, h2, h3, hh, h4, ↓CL, ↓idx_rt_c hS c0 c1 hw, ↓hasDot_rt_c hS]
  rw [hI x y (by omega) (by omega) (by omega) (by omega)]
  by_cases h : bt (ikA r x y) p = 1
  · rw [b2_t h, b2_t (show dotAt r p x y from ⟨⟨by omega, by omega, by omega, by omega⟩, h⟩)]
    rfl
  · rw [b2_f h, b2_f (fun h9 : dotAt r p x y => h h9.2)]
    rfl
theorem isDotAt_rt_c (hS : CSh μ) {r : Row} (c0 : 0 ≤ c) (c1 : c < 10) (hr : okRow r) (hT : μ (25 + 8 * c) 0 = r 0 ∧ μ (25 + 8 * c) 1 = r 1) (hI : ∀ x y, 0 ≤ x → x < r 0 → 0 ≤ y → y < r 1 → μ 10 (y * r 0 + x) = ikA r x y) {K : Int → Mem → Rz} {X : Int → Int → Mem → Rz} : CLX (FX2_isDotAt 4 (25 + 8 * c) p x y μ) K X = K (b2 (dotAt r p x y)) μ := by
  rw [isDotAt_rt hS c0 c1 hr hT hI]
  rfl
theorem isSpot_rt (hS : CSh μ) {r : Row} (c0 : 0 ≤ c) (c1 : c < 10) (hr : okRow r) (hT : μ (25 + 8 * c) 0 = r 0 ∧ μ (25 + 8 * c) 1 = r 1) (hI : ∀ x y, 0 ≤ x → x < r 0 → 0 ≤ y → y < r 1 → μ 10 (y * r 0 + x) = ikA r x y) (x0 : 0 ≤ x) (x1 : x < 16) (y0 : 0 ≤ y) (y1 : y < 12) : FX2_isSpot 4 (25 + 8 * c) p x y μ = RT (b2 (spotAt r p x y)) μ := by
  have hx1 : w32 (x - 1) = x - 1 := w32_eq (by omega) (by omega)
  have hx2 : w32 (x + 1) = x + 1 := w32_eq (by omega) (by omega)
  have hy1 : w32 (y - 1) = y - 1 := w32_eq (by omega) (by omega)
  have hy2 : w32 (y + 1) = y + 1 := w32_eq (by omega) (by omega)
  simp only [FX2_isSpot, BX2_isSpot_0, BX2_isSpot_72, BX2_isSpot_73, hx1, hx2, hy1, hy2, ↓hS.k2, ↓CL, ↓isDotAt_rt_c hS c0 c1 hr hT hI, RTZ_0, RTZ_1]
  by_cases h1 : dotAt r p x y
  · by_cases h2 : dotAt r p x (y - 1)
    · rw [b2_t h1, b2_t h2, b2_f (q := spotAt r p x y) (fun h => h.2.2.2.1 h2)]; rfl
    by_cases h3 : dotAt r p x (y + 1)
    · rw [b2_t h1, b2_f h2, b2_t h3, b2_f (q := spotAt r p x y) (fun h => h.2.2.2.2 h3)]; rfl
    by_cases h4 : dotAt r p (x - 1) y
    · rw [b2_t h1, b2_f h2, b2_f h3, b2_t h4, b2_f (q := spotAt r p x y) (fun h => h.2.1 h4)]; rfl
    by_cases h5 : dotAt r p (x + 1) y
    · rw [b2_t h1, b2_f h2, b2_f h3, b2_f h4, b2_t h5, b2_f (q := spotAt r p x y) (fun h => h.2.2.1 h5)]; rfl
    rw [b2_t h1, b2_f h2, b2_f h3, b2_f h4, b2_f h5, b2_t (q := spotAt r p x y) ⟨h1, h4, h5, h2, h3⟩]; rfl
  · rw [b2_f h1, b2_f (q := spotAt r p x y) (fun h => h1 h.1)]; rfl
theorem isSpot_rt_c (hS : CSh μ) {r : Row} (c0 : 0 ≤ c) (c1 : c < 10) (hr : okRow r) (hT : μ (25 + 8 * c) 0 = r 0 ∧ μ (25 + 8 * c) 1 = r 1) (hI : ∀ x y, 0 ≤ x → x < r 0 → 0 ≤ y → y < r 1 → μ 10 (y * r 0 + x) = ikA r x y) (x0 : 0 ≤ x) (x1 : x < 16) (y0 : 0 ≤ y) (y1 : y < 12) {K : Int → Mem → Rz} {X : Int → Int → Mem → Rz} : CLX (FX2_isSpot 4 (25 + 8 * c) p x y μ) K X = K (b2 (spotAt r p x y)) μ := by
  rw [isSpot_rt hS c0 c1 hr hT hI x0 x1 y0 y1]
  rfl
end READ
theorem xor_sgn {a b : Int} (ha : i32 a) (hb : i32 b) (hb0 : 0 ≤ b) : 0 ≤ bXor a b ↔ 0 ≤ a := by
  have e : bXor a b = ((Int32.ofInt a).toBitVec ^^^ (Int32.ofInt b).toBitVec).toInt := rfl
  have h1 : (Int32.ofInt a).toBitVec.msb = decide (a < 0) := by
    rw [BitVec.msb_eq_toInt]
    show decide ((Int32.ofInt a).toInt < 0) = _
    rw [oi_to ha]
  have h2 : (Int32.ofInt b).toBitVec.msb = false := by
    rw [BitVec.msb_eq_toInt]
    show decide ((Int32.ofInt b).toInt < 0) = _
    rw [oi_to hb]
    exact decide_eq_false (by omega)
  have h3 := BitVec.msb_eq_toInt (x := (Int32.ofInt a).toBitVec ^^^ (Int32.ofInt b).toBitVec)
  rw [BitVec.msb_xor, h1, h2, ← e] at h3
  by_cases h : a < 0
  · have h4 : bXor a b < 0 := by simpa [h] using h3.symm
    omega
  · have h4 : ¬ bXor a b < 0 := by simpa [h] using h3.symm
    omega
theorem tmod_emod {v p : Int} (hp : 0 < p) : v % p = if 0 ≤ v ∨ v.tmod p = 0 then v.tmod p else v.tmod p + p := by
  rcases Int.lt_or_le v 0 with h | h
  · have h1 := Int.emod_nonneg v (show p ≠ 0 by omega)
    have h2 := Int.emod_lt_of_pos v hp
    have h3 := Int.mul_tdiv_add_tmod v p
    have h4 := Int.mul_ediv_add_emod v p
    have h5 : 0 ≤ (-v).tmod p := Int.tmod_nonneg p (by omega)
    have h6 : (-v).tmod p < p := Int.tmod_lt_of_pos (-v) hp
    rw [Int.neg_tmod] at h5 h6
    have hk : ∃ k : Int, v % p - v.tmod p = k * p := ⟨v.tdiv p - v / p, by rw [Int.sub_mul]; rw [Int.mul_comm (v.tdiv p), Int.mul_comm (v / p)]; omega⟩
    obtain ⟨k, hk⟩ := hk
    have k0 : 0 ≤ k := by
      rcases Int.lt_or_le k 0 with q | q
      · have : k * p ≤ (-1) * p := Int.mul_le_mul_of_nonneg_right (by omega) (by omega)
        omega
      · exact q
    have k1 : k ≤ 1 := by
      rcases Int.lt_or_le 1 k with q | q
      · have : 2 * p ≤ k * p := Int.mul_le_mul_of_nonneg_right (by omega) (by omega)
        omega
      · exact q
    rcases (show k = 0 ∨ k = 1 by omega) with q | q
    · rw [q, Int.zero_mul] at hk
      have : v.tmod p = 0 := by omega
      rw [if_pos (Or.inr this)]
      omega
    · rw [q, Int.one_mul] at hk
      rw [if_neg (by omega)]
      omega
  · rw [if_pos (Or.inl h), Int.tmod_eq_emod_of_nonneg h]
section READ2
variable {μ : Mem} {c p x y : Int}
theorem floorMod_rt {v q : Int} (hv : i32 v) (hq : i32 q) (h : 0 < q) : FJ9_floorMod_7cf53 v q μ = RT (v % q) μ := by
  have hx := xor_sgn hv hq (by omega)
  have ht := tmod_i (b := q) hv
  unfold FJ9_floorMod_7cf53 BJ9_floorMod_7cf53_0 BJ9_floorMod_7cf53_18
  rw [RM_of (by omega), tmod_emod h]
  by_cases h1 : 0 ≤ v
  · rw [if_pos (hx.mpr h1), if_pos (Or.inl h1)]
  · rw [if_neg (fun e => h1 (hx.mp e))]
    by_cases h2 : v.tmod q = 0
    · rw [if_pos h2, if_pos (Or.inr h2)]
    · have h3 : v.tmod q ≤ 0 := by
        have h5 : 0 ≤ (-v).tmod q := Int.tmod_nonneg q (by omega)
        rw [Int.neg_tmod] at h5
        omega
      unfold i32 at ht hq
      rw [if_neg h2, if_neg (by omega), w32_eq (by omega) (by omega)]
theorem rem_rt {v q : Int} (hv : i32 v) (h : 1 ≤ q) (h1 : q ≤ 1000) : FX6_remainder v q μ = RT (v % q) μ := by
  unfold FX6_remainder BX6_remainder_0 BX6_remainder_14
  rw [if_pos h]
  show CLX _ _ _ = _
  rw [floorMod_rt hv (by unfold i32; omega) (by omega)]
  rfl
theorem rem_rt_c {v q : Int} (hv : i32 v) (h : 1 ≤ q) (h1 : q ≤ 1000) {K : Int → Mem → Rz} {X : Int → Int → Mem → Rz} : CLX (FX6_remainder v q μ) K X = K (v % q) μ := by
  rw [rem_rt hv h h1]
  rfl
def mn (a b : Int) : Int := if b < a then b else a
theorem max_rt {a b : Int} : FJ9_max_7cf53 a b μ = RT (mx a b) μ := by
  unfold FJ9_max_7cf53 BJ9_max_7cf53_0 BJ9_max_7cf53_10 mx
  split <;> rfl
theorem max_rt_c {a b : Int} {K : Int → Mem → Rz} {X : Int → Int → Mem → Rz} : CLX (FJ9_max_7cf53 a b μ) K X = K (mx a b) μ := by
  rw [max_rt]
  rfl
theorem min_rt {a b : Int} : FJ9_min_7cf53 a b μ = RT (mn a b) μ := by
  unfold FJ9_min_7cf53 BJ9_min_7cf53_0 BJ9_min_7cf53_10 mn
  split <;> rfl
theorem min_rt_c {a b : Int} {K : Int → Mem → Rz} {X : Int → Int → Mem → Rz} : CLX (FJ9_min_7cf53 a b μ) K X = K (mn a b) μ := by
  rw [min_rt]
  rfl
theorem abs_rt {a : Int} (h0 : -1000000 ≤ a) (h1 : a ≤ 1000000) : FJ9_abs_0f7a4 a μ = RT (ab a) μ := by
  unfold FJ9_abs_0f7a4 BJ9_abs_0f7a4_0 BJ9_abs_0f7a4_10 ab
  by_cases h : 0 ≤ a
  · rw [if_pos h, if_neg (by omega)]
  · rw [if_neg h, if_pos (by omega), w32_eq (by omega) (by omega)]
theorem abs_rt_c {a : Int} (h0 : -1000000 ≤ a) (h1 : a ≤ 1000000) {K : Int → Mem → Rz} {X : Int → Int → Mem → Rz} : CLX (FJ9_abs_0f7a4 a μ) K X = K (ab a) μ := by
  rw [abs_rt h0 h1]
  rfl
theorem cLong_lt {a b : Int} : cLong a b < 0 ↔ a < b := by
  unfold cLong
  split
  · omega
  · split <;> omega
theorem cLong_gt {a b : Int} : 0 < cLong a b ↔ b < a := by
  unfold cLong
  split
  · omega
  · split <;> omega
theorem cLong_le {a b : Int} : cLong a b ≤ 0 ↔ a ≤ b := by
  unfold cLong
  split
  · omega
  · split <;> omega
theorem cLong_ge {a b : Int} : 0 ≤ cLong a b ↔ b ≤ a := by
  unfold cLong
  split
  · omega
  · split <;> omega
theorem cLong_z {a b : Int} : cLong a b = 0 ↔ a = b := by
  unfold cLong
  split
  · omega
  · split <;> omega
theorem limited_rt {v lo hi : Int} (h0 : -1000000 ≤ lo) (h1 : lo ≤ hi) (h2 : hi ≤ 1000000) : FX6_limited v lo hi μ = RT (cl lo hi v) μ := by
  unfold FX6_limited BX6_limited_0 FJ9_min_f86c9 BJ9_min_f86c9_0 BJ9_min_f86c9_11 FJ9_max_f86c9 BJ9_max_f86c9_0 BJ9_max_f86c9_11
  simp only [cLong_lt, cLong_gt]
  by_cases a1 : v < hi
  · rw [if_pos a1]
    show CLX (if lo < v then RT v μ else RT lo μ) _ _ = _
    by_cases a2 : lo < v
    · rw [if_pos a2, CLX_rt, w32_eq (by omega) (by omega)]
      unfold cl
      rw [if_neg (by omega), if_neg (by omega)]
    · rw [if_neg a2, CLX_rt, w32_eq (by omega) (by omega)]
      unfold cl
      by_cases a3 : v < lo
      · rw [if_pos a3]
      · rw [if_neg a3, if_neg (by omega), show v = lo by omega]
  · rw [if_neg a1]
    show CLX (if lo < hi then RT hi μ else RT lo μ) _ _ = _
    unfold cl
    by_cases a2 : lo < hi
    · rw [if_pos a2, CLX_rt, w32_eq (by omega) (by omega), if_neg (by omega)]
      by_cases a3 : hi < v
      · rw [if_pos a3]
      · rw [if_neg a3, show v = hi by omega]
    · rw [if_neg a2, CLX_rt, w32_eq (by omega) (by omega), if_neg (by omega), show lo = hi by omega]
      by_cases a3 : hi < v
      · rw [if_pos a3]
      · rw [if_neg a3, show v = hi by omega]
theorem limited_rt_c {v lo hi : Int} (h0 : -1000000 ≤ lo) (h1 : lo ≤ hi) (h2 : hi ≤ 1000000) {K : Int → Mem → Rz} {X : Int → Int → Mem → Rz} : CLX (FX6_limited v lo hi μ) K X = K (cl lo hi v) μ := by
  rw [limited_rt h0 h1 h2]
  rfl
theorem SW_c {x lo : Int} {r : Rz} {rs : List Rz} {d : Rz} : SW x lo (r :: rs) d = if x = lo then r else SW x (lo + 1) rs d := rfl
theorem SW_n {x lo : Int} {d : Rz} : SW x lo [] d = d := rfl
theorem measureAt_rt (hS : CSh μ) {a b q sh : Int} (p0 : 0 ≤ p) (p1 : p < 4) (h1 : μ (15 + 2 * p) 0 = a) (h2 : μ (15 + 2 * p) 1 = b) (h3 : μ (15 + 2 * p) 2 = q) (h4 : μ (15 + 2 * p) 3 = sh) (ha : 0 ≤ a ∧ a ≤ 3) (hb : 0 ≤ b ∧ b ≤ 3) (hab : 0 < a + b) (hq : q = a * a + b * b) (hs : 0 ≤ sh ∧ sh ≤ 3) (x0 : 0 ≤ x) (x1 : x < 18) (y0 : 0 ≤ y) (y1 : y < 18) : FX3_measureAt (15 + 2 * p) x y μ = RT (mAt sh a b x y) μ := by
  have hp := sq_pos ha hb hab
  have e1 := mul_le_of ha.1 ha.2 x0 (show x ≤ 17 by omega)
  have e2 := mul_le_of ha.1 ha.2 y0 (show y ≤ 17 by omega)
  have e3 := mul_le_of hb.1 hb.2 x0 (show x ≤ 17 by omega)
  have e4 := mul_le_of hb.1 hb.2 y0 (show y ≤ 17 by omega)
  have u0 := Int.emod_nonneg (a * x + b * y) (show q ≠ 0 by omega)
  have u1 := Int.emod_lt_of_pos (a * x + b * y) (show 0 < q by omega)
  have v0 := Int.emod_nonneg (a * y - b * x) (show q ≠ 0 by omega)
  have v1 := Int.emod_lt_of_pos (a * y - b * x) (show 0 < q by omega)
  have k1 : FX6_remainder (w32 (w32 (a * x) + w32 (b * y))) q μ = RT ((a * x + b * y) % q) μ := by
    rw [w32_eq (z := a * x) (by omega) (by omega), w32_eq (z := b * y) (by omega) (by omega), w32_eq (by omega) (by omega), rem_rt (by unfold i32; omega) (by omega) (by omega)]
  have k2 : FX6_remainder (w32 (w32 (a * y) - w32 (b * x))) q μ = RT ((a * y - b * x) % q) μ := by
    rw [w32_eq (z := a * y) (by omega) (by omega), w32_eq (z := b * x) (by omega) (by omega), w32_eq (by omega) (by omega), rem_rt (by unfold i32; omega) (by omega) (by omega)]
  unfold FX3_measureAt BX3_measureAt_0
  rw [hS.g3_0 p0 p1, hS.g3_1 p0 p1, hS.g3_2 p0 p1, h1, h2, h3, k1]
  show CLX _ _ _ = _
  rw [CLX_rt, hS.g3_2 p0 p1, LT_eq, hS.g3_0 p0 p1, hS.g3_1 p0 p1, hS.g3_2 p0 p1, h1, h2, h3, k2]
  show CLX _ _ _ = _
  rw [CLX_rt, hS.g3_2 p0 p1, LT_eq, hS.g3_3 p0 p1, h3, h4]
  unfold mAt
  rw [← hq]
  generalize (a * x + b * y) % q = u at u0 u1
  generalize (a * y - b * x) % q = v at v0 v1
  rw [w32_eq (z := 2 * u) (by omega) (by omega), w32_eq (z := 2 * v) (by omega) (by omega), w32_eq (z := 2 * u - q) (by omega) (by omega), w32_eq (z := 2 * v - q) (by omega) (by omega)]
  have s0 : -18 ≤ 2 * u - q ∧ 2 * u - q ≤ 18 := by omega
  have t0 : -18 ≤ 2 * v - q ∧ 2 * v - q ≤ 18 := by omega
  generalize 2 * u - q = s at s0
  generalize 2 * v - q = t at t0
  have a0 : 0 ≤ ab s ∧ ab s ≤ 18 ∧ s * s = ab s * ab s := by
    unfold ab
    split
    · rw [Int.neg_mul_neg]; omega
    · omega
  have b0 : 0 ≤ ab t ∧ ab t ≤ 18 ∧ t * t = ab t * ab t := by
    unfold ab
    split
    · rw [Int.neg_mul_neg]; omega
    · omega
  have m1 := mul_le_of a0.1 a0.2.1 a0.1 a0.2.1
  have m2 := mul_le_of b0.1 b0.2.1 b0.1 b0.2.1
  unfold mShape
  rcases (show sh = 0 ∨ sh = 1 ∨ sh = 2 ∨ sh = 3 by omega) with rfl | rfl | rfl | rfl
  · rw [SW_c, if_pos rfl, if_pos rfl, w32_eq (z := s * s) (by omega) (by omega), w32_eq (z := t * t) (by omega) (by omega), w32_eq (by omega) (by omega), a0.2.2, b0.2.2]
  · rw [SW_c, if_neg (by decide), SW_c, if_pos (by decide), abs_rt (by omega) (by omega)]
    rfl
  · rw [SW_c, if_neg (by decide), SW_c, if_neg (by decide), SW_c, if_pos (by decide), abs_rt (by omega) (by omega)]
    show CLX _ _ _ = _
    rw [CLX_rt, abs_rt (by omega) (by omega)]
    show RT (w32 (ab s + ab t)) μ = _
    rw [w32_eq (by omega) (by omega)]
    rfl
  · rw [SW_c, if_neg (by decide), SW_c, if_neg (by decide), SW_c, if_neg (by decide), SW_n, abs_rt (by omega) (by omega)]
    show CLX _ _ _ = _
    rw [CLX_rt, abs_rt (by omega) (by omega)]
    show CLX _ _ _ = _
    rw [CLX_rt, max_rt]
    rfl
theorem measureAt_rt_c (hS : CSh μ) {a b q sh : Int} (p0 : 0 ≤ p) (p1 : p < 4) (h1 : μ (15 + 2 * p) 0 = a) (h2 : μ (15 + 2 * p) 1 = b) (h3 : μ (15 + 2 * p) 2 = q) (h4 : μ (15 + 2 * p) 3 = sh) (ha : 0 ≤ a ∧ a ≤ 3) (hb : 0 ≤ b ∧ b ≤ 3) (hab : 0 < a + b) (hq : q = a * a + b * b) (hs : 0 ≤ sh ∧ sh ≤ 3) (x0 : 0 ≤ x) (x1 : x < 18) (y0 : 0 ≤ y) (y1 : y < 18) {K : Int → Mem → Rz} {X : Int → Int → Mem → Rz} : CLX (FX3_measureAt (15 + 2 * p) x y μ) K X = K (mAt sh a b x y) μ := by
  rw [measureAt_rt hS p0 p1 h1 h2 h3 h4 ha hb hab hq hs x0 x1 y0 y1]
  rfl
theorem RM_c {a b : Int} {K : Int → Rz} (h : b ≠ 0) : RM a b K = K (a.tmod b) := if_neg h
theorem rankOf_rt (hS : CSh μ) {q : Int} (p0 : 0 ≤ p) (p1 : p < 4) (h3 : μ (15 + 2 * p) 2 = q) (q0 : 1 ≤ q) (q1 : q ≤ 18) (hx : 0 ≤ x) (hy : 0 ≤ y) : FX3_rankOf (15 + 2 * p) x y μ = RT (μ (16 + 2 * p) (y % q * q + x % q)) μ := by
  have u0 := Int.emod_nonneg x (show q ≠ 0 by omega)
  have u1 := Int.emod_lt_of_pos x (show 0 < q by omega)
  have v0 := Int.emod_nonneg y (show q ≠ 0 by omega)
  have v1 := Int.emod_lt_of_pos y (show 0 < q by omega)
  have m1 := mul_le_of v0 (show y % q ≤ 17 by omega) (show 0 ≤ q by omega) q1
  have m2 : (y % q + 1) * q ≤ q * q := Int.mul_le_mul_of_nonneg_right (by omega) (by omega)
  have m3 := mul_le_of (show 0 ≤ q by omega) q1 (show 0 ≤ q by omega) q1
  rw [Int.add_mul, Int.one_mul] at m2
  have ex : x.tmod q = x % q := Int.tmod_eq_emod_of_nonneg hx
  have ey : y.tmod q = y % q := Int.tmod_eq_emod_of_nonneg hy
  unfold FX3_rankOf BX3_rankOf_0 BX3_rankOf_35
  rw [hS.g3_2 p0 p1, h3, if_pos q0, hS.g3_4 p0 p1, hS.g3_2 p0 p1, h3]
  rw [RM_c (show q ≠ 0 by omega), ey, hS.g3_2 p0 p1, hS.g3_2 p0 p1, h3, RM_c (show q ≠ 0 by omega), ex, w32_eq (z := y % q * q) (by omega) (by omega), w32_eq (by omega) (by omega), hS.l16 p0 p1 (by omega) (by omega)]
theorem rankOf_rt_c (hS : CSh μ) {q : Int} (p0 : 0 ≤ p) (p1 : p < 4) (h3 : μ (15 + 2 * p) 2 = q) (q0 : 1 ≤ q) (q1 : q ≤ 18) (hx : 0 ≤ x) (hy : 0 ≤ y) {K : Int → Mem → Rz} {X : Int → Int → Mem → Rz} : CLX (FX3_rankOf (15 + 2 * p) x y μ) K X = K (μ (16 + 2 * p) (y % q * q + x % q)) μ := by
  rw [rankOf_rt hS p0 p1 h3 q0 q1 hx hy]
  rfl
end READ2

