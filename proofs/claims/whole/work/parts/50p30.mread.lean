/-! the reference's cells, and its methods that only read -/
/-- the reference's rows: c the row in use, u how many can be undone, h the rows, the latest first -/
def Mc (μ : Mem) (c u : Int) (h : Int → Row) : Prop := MSh μ ∧ (0 ≤ c ∧ c < 9) ∧ (μ 105 3 = c ∧ μ 105 4 = u) ∧ (0 ≤ u ∧ u ≤ 8) ∧ ∀ j, 0 ≤ j → j ≤ u → okRow (h j) ∧ ∀ k, 0 ≤ k → k < 5100 → μ 106 (5100 * ((c - j) % 9) + k) = h j k
def MIk (μ : Mem) (r : Row) : Prop := ∀ x y, 0 ≤ x → x < r 0 → 0 ≤ y → y < r 1 → μ 112 (16 * y + x) = ikA r x y
def MRk (μ : Mem) (r : Row) : Prop := ∀ p, 0 ≤ p → p < r 2 → ∀ x y, 0 ≤ x → x < r 0 → 0 ≤ y → y < r 1 → μ 110 (192 * p + (16 * y + x)) = rkAt r p x y
def MTn (μ : Mem) (r : Row) : Prop := ∀ p, 0 ≤ p → p < r 2 → ∀ x y, 0 ≤ x → x < r 0 → 0 ≤ y → y < r 1 → μ 111 (192 * p + (16 * y + x)) = tnOn r p x y
def Laid (μ : Mem) (r : Row) : Prop := MIk μ r ∧ MRk μ r ∧ MTn μ r
section MRD
variable {μ : Mem} {c u : Int} {h : Int → Row}
theorem Mc.ok (hc : Mc μ c u h) : okRow (h 0) := (hc.2.2.2.2 0 (Int.le_refl _) hc.2.2.2.1.1).1
theorem Mc.at0 (hc : Mc μ c u h) {k : Int} (k0 : 0 ≤ k) (k1 : k < 5100) : μ 106 (5100 * c + k) = h 0 k := by
  have := (hc.2.2.2.2 0 (Int.le_refl _) hc.2.2.2.1.1).2 k k0 k1
  rw [Int.sub_zero, Int.emod_eq_of_lt hc.2.1.1 hc.2.1.2] at this
  exact this
theorem get_rt (hc : Mc μ c u h) {k : Int} (k0 : 0 ≤ k) (k1 : k < 5100) : FX7_get 105 k μ = RT (h 0 k) μ := by
  have hS := hc.1
  have hc0 := hc.2.1
  have e : w32 (w32 (5100 * c) + k) = 5100 * c + k := by rw [w32_eq (z := 5100 * c) (by omega) (by omega), w32_eq (by omega) (by omega)]
  unfold FX7_get BX7_get_0
  rw [hS.g7_1, hS.g7_3, hc.2.2.1.1, e, hS.l106 (by omega) (by omega), hc.at0 k0 k1]
theorem get_rt_c (hc : Mc μ c u h) {k : Int} (k0 : 0 ≤ k) (k1 : k < 5100) {K : Int → Mem → Rz} {X : Int → Int → Mem → Rz} : CLX (FX7_get 105 k μ) K X = K (h 0 k) μ := by
  rw [get_rt hc k0 k1]
  rfl
theorem of_rt (hc : Mc μ c u h) {p k : Int} (p0 : 0 ≤ p) (p1 : p < 4) (k0 : 0 ≤ k) (k1 : k < 1226) : FX7_of 105 p k μ = RT (rO (h 0) p k) μ := by
  have hS := hc.1
  have e : w32 (w32 (196 + w32 (1226 * p)) + k) = 196 + 1226 * p + k := by rw [w32_eq (z := 1226 * p) (by omega) (by omega), w32_eq (z := 196 + _) (by omega) (by omega), w32_eq (by omega) (by omega)]
  unfold FX7_of BX7_of_0
  rw [hS.k7, e, get_rt hc (by omega) (by omega)]
  rfl
theorem of_rt_c (hc : Mc μ c u h) {p k : Int} (p0 : 0 ≤ p) (p1 : p < 4) (k0 : 0 ≤ k) (k1 : k < 1226) {K : Int → Mem → Rz} {X : Int → Int → Mem → Rz} : CLX (FX7_of 105 p k μ) K X = K (rO (h 0) p k) μ := by
  rw [of_rt hc p0 p1 k0 k1]
  rfl
theorem mplates_rt (hc : Mc μ c u h) : FX7_plates 105 μ = RT (h 0 2) μ := by
  unfold FX7_plates BX7_plates_0
  rw [hc.1.k7, get_rt hc (by omega) (by omega)]
  rfl
theorem mplates_rt_c (hc : Mc μ c u h) {K : Int → Mem → Rz} {X : Int → Int → Mem → Rz} : CLX (FX7_plates 105 μ) K X = K (h 0 2) μ := by
  rw [mplates_rt hc]
  rfl
theorem wide_rt (hc : Mc μ c u h) : FX7_wide 105 μ = RT (h 0 0) μ := by
  unfold FX7_wide BX7_wide_0
  rw [hc.1.k7, get_rt hc (by omega) (by omega)]
  rfl
theorem wide_rt_c (hc : Mc μ c u h) {K : Int → Mem → Rz} {X : Int → Int → Mem → Rz} : CLX (FX7_wide 105 μ) K X = K (h 0 0) μ := by
  rw [wide_rt hc]
  rfl
theorem high_rt (hc : Mc μ c u h) : FX7_high 105 μ = RT (h 0 1) μ := by
  unfold FX7_high BX7_high_0
  rw [hc.1.k7, get_rt hc (by omega) (by omega)]
  rfl
theorem high_rt_c (hc : Mc μ c u h) {K : Int → Mem → Rz} {X : Int → Int → Mem → Rz} : CLX (FX7_high 105 μ) K X = K (h 0 1) μ := by
  rw [high_rt hc]
  rfl
theorem mtone_rt (hc : Mc μ c u h) {x y : Int} (x0 : 0 ≤ x) (x1 : x < 16) (y0 : 0 ≤ y) (y1 : y < 12) : FX7_toneAt 105 x y μ = RT (rT (h 0) x y) μ := by
  have e : w32 (w32 (4 + w32 (16 * y)) + x) = 4 + 16 * y + x := by rw [w32_eq (z := 16 * y) (by omega) (by omega), w32_eq (z := 4 + _) (by omega) (by omega), w32_eq (by omega) (by omega)]
  unfold FX7_toneAt BX7_toneAt_0
  rw [hc.1.k7, e, get_rt hc (by omega) (by omega)]
  rfl
theorem mtone_rt_c (hc : Mc μ c u h) {x y : Int} (x0 : 0 ≤ x) (x1 : x < 16) (y0 : 0 ≤ y) (y1 : y < 12) {K : Int → Mem → Rz} {X : Int → Int → Mem → Rz} : CLX (FX7_toneAt 105 x y μ) K X = K (rT (h 0) x y) μ := by
  rw [mtone_rt hc x0 x1 y0 y1]
  rfl
theorem isIn_rt {v lo hi : Int} : FX7_isIn v lo hi μ = RT (b2 (lo ≤ v ∧ v ≤ hi)) μ := by
  unfold FX7_isIn BX7_isIn_0 BX7_isIn_14 BX7_isIn_15
  by_cases h1 : v < lo
  · rw [if_pos h1, b2_f (by omega)]
    rfl
  · rw [if_neg h1]
    by_cases h2 : hi < v
    · rw [if_pos h2, b2_f (by omega)]
      rfl
    · rw [if_neg h2, b2_t (by omega)]
      rfl
theorem isIn_rt_c {v lo hi : Int} {K : Int → Mem → Rz} {X : Int → Int → Mem → Rz} : CLX (FX7_isIn v lo hi μ) K X = K (b2 (lo ≤ v ∧ v ≤ hi)) μ := by
  rw [isIn_rt]
  rfl
theorem b2_c {p q : Prop} [Decidable p] [Decidable q] (h : p ↔ q) : b2 p = b2 q := by
  by_cases e : p
  · rw [b2_t e, b2_t (h.mp e)]
  · rw [b2_f e, b2_f (fun k => e (h.mpr k))]
theorem b2_rtz {q : Prop} [Decidable q] : RTZ (b2 q) μ = RT (b2 q) μ := RTZ_of (by have := b2_0 (q := q); omega)
theorem isPlate_rt (hc : Mc μ c u h) {p : Int} : FX7_isPlate 105 p μ = RT (b2 (isPl (h 0) p)) μ := by
  have hr2 := hc.ok.2.1
  unfold FX7_isPlate BX7_isPlate_0
  rw [hc.1.k7, mplates_rt hc]
  simp only [CL, ↓CLX_rt]
  rw [isIn_rt]
  simp only [↓CLX_rt]
  rw [b2_rtz, w32_eq (by omega) (by omega), b2_c (q := isPl (h 0) p) (by unfold isPl; omega)]
theorem isPlate_rt_c (hc : Mc μ c u h) {p : Int} {K : Int → Mem → Rz} {X : Int → Int → Mem → Rz} : CLX (FX7_isPlate 105 p μ) K X = K (b2 (isPl (h 0) p)) μ := by
  rw [isPlate_rt hc]
  rfl
theorem isCell_rt (hc : Mc μ c u h) {x y : Int} : FX7_isCell 105 x y μ = RT (b2 (isCe (h 0) x y)) μ := by
  have hr1 := hc.ok.1
  unfold FX7_isCell BX7_isCell_0 BX7_isCell_32 BX7_isCell_33
  rw [hc.1.k7, wide_rt hc]
  simp only [CL, ↓CLX_rt]
  rw [isIn_rt, w32_eq (by omega) (by omega)]
  simp only [↓CLX_rt]
  by_cases h1 : 0 ≤ x ∧ x ≤ h 0 0 - 1
  · rw [b2_t h1, if_neg (by omega), hc.1.k7, high_rt hc]
    simp only [↓CLX_rt]
    rw [isIn_rt, w32_eq (by omega) (by omega)]
    simp only [↓CLX_rt]
    by_cases h2 : 0 ≤ y ∧ y ≤ h 0 1 - 1
    · rw [b2_t h2, if_neg (by omega), b2_t (by unfold isCe; omega)]
      rfl
    · rw [b2_f h2, if_pos rfl, b2_f (by unfold isCe; omega)]
      rfl
  · rw [b2_f h1, if_pos rfl, b2_f (by unfold isCe; omega)]
    rfl
theorem isCell_rt_c (hc : Mc μ c u h) {x y : Int} {K : Int → Mem → Rz} {X : Int → Int → Mem → Rz} : CLX (FX7_isCell 105 x y μ) K X = K (b2 (isCe (h 0) x y)) μ := by
  rw [isCell_rt hc]
  rfl
theorem square_rt (hc : Mc μ c u h) {p : Int} (hp : isPl (h 0) p) : FX7_squareOf 105 p μ = RT (rQ (h 0) p) μ := by
  have hr2 := hc.ok.2.1
  have ho := (hc.ok.2.2.2.2 p hp.1 hp.2).1
  have hw := w32_sq ⟨ho.1, ho.2.1⟩ ⟨ho.2.2.1, ho.2.2.2.1⟩
  have k7 := @MSh.k7 μ hc.1
  simp (disch := omega) only [FX7_squareOf, BX7_squareOf_0, ↓k7, ↓CL, ↓of_rt_c hc hp.1 (show p < 4 by omega), w32_eq]
  rfl
theorem square_rt_c (hc : Mc μ c u h) {p : Int} (hp : isPl (h 0) p) {K : Int → Mem → Rz} {X : Int → Int → Mem → Rz} : CLX (FX7_squareOf 105 p μ) K X = K (rQ (h 0) p) μ := by
  rw [square_rt hc hp]
  rfl
theorem mhasDot_rt (hc : Mc μ c u h) (hI : MIk μ (h 0)) {p x y : Int} : FX7_hasDot 105 p x y μ = RT (b2 (dotAt (h 0) p x y)) μ := by
  have hr1 := hc.ok.1
  have hS := hc.1
  unfold FX7_hasDot BX7_hasDot_0 BX7_hasDot_32 BX7_hasDot_33
  rw [hS.k7, isCell_rt hc]
  simp only [CL, ↓CLX_rt]
  by_cases h1 : isCe (h 0) x y
  · have e : w32 (w32 (16 * y) + x) = 16 * y + x := by rw [w32_eq (z := 16 * y) (by omega) (by omega), w32_eq (by omega) (by omega)]
    rw [b2_t h1, if_neg (by omega), hS.g7_9, e, hS.l112 (by omega) (by omega), hI x y h1.1.1 h1.1.2 h1.2.1 h1.2.2]
    by_cases h2 : bt (ikA (h 0) x y) p = 1
    · rw [b2_t (show dotAt (h 0) p x y from ⟨⟨h1.1.1, h1.1.2, h1.2.1, h1.2.2⟩, h2⟩), if_neg (by unfold bt at h2; omega)]
      rfl
    · rw [b2_f (fun k : dotAt (h 0) p x y => h2 k.2), if_pos (by unfold bt at h2; omega)]
      rfl
  · rw [b2_f h1, if_pos rfl, b2_f (fun k : dotAt (h 0) p x y => h1 ⟨⟨k.1.1, k.1.2.1⟩, k.1.2.2.1, k.1.2.2.2⟩)]
    rfl
theorem mhasDot_rt_c (hc : Mc μ c u h) (hI : MIk μ (h 0)) {p x y : Int} {K : Int → Mem → Rz} {X : Int → Int → Mem → Rz} : CLX (FX7_hasDot 105 p x y μ) K X = K (b2 (dotAt (h 0) p x y)) μ := by
  rw [mhasDot_rt hc hI]
  rfl
theorem mspot_rt (hc : Mc μ c u h) (hI : MIk μ (h 0)) {p x y : Int} (x0 : 0 ≤ x) (x1 : x < 16) (y0 : 0 ≤ y) (y1 : y < 12) : FX7_isSpot 105 p x y μ = RT (b2 (spotAt (h 0) p x y)) μ := by
  have hx1 : w32 (x - 1) = x - 1 := w32_eq (by omega) (by omega)
  have hx2 : w32 (x + 1) = x + 1 := w32_eq (by omega) (by omega)
  have hy1 : w32 (y - 1) = y - 1 := w32_eq (by omega) (by omega)
  have hy2 : w32 (y + 1) = y + 1 := w32_eq (by omega) (by omega)
  have k7 := @MSh.k7 μ hc.1
  simp only [FX7_isSpot, BX7_isSpot_0, BX7_isSpot_62, BX7_isSpot_63, hx1, hx2, hy1, hy2, ↓k7, ↓CL, ↓mhasDot_rt_c hc hI, RTZ_0, RTZ_1]
  by_cases h1 : dotAt (h 0) p x y
  · by_cases h2 : dotAt (h 0) p (x - 1) y
    · rw [b2_t h1, b2_t h2, b2_f (q := spotAt (h 0) p x y) (fun h => h.2.1 h2)]; rfl
    by_cases h3 : dotAt (h 0) p (x + 1) y
    · rw [b2_t h1, b2_f h2, b2_t h3, b2_f (q := spotAt (h 0) p x y) (fun h => h.2.2.1 h3)]; rfl
    by_cases h4 : dotAt (h 0) p x (y - 1)
    · rw [b2_t h1, b2_f h2, b2_f h3, b2_t h4, b2_f (q := spotAt (h 0) p x y) (fun h => h.2.2.2.1 h4)]; rfl
    by_cases h5 : dotAt (h 0) p x (y + 1)
    · rw [b2_t h1, b2_f h2, b2_f h3, b2_f h4, b2_t h5, b2_f (q := spotAt (h 0) p x y) (fun h => h.2.2.2.2 h5)]; rfl
    rw [b2_t h1, b2_f h2, b2_f h3, b2_f h4, b2_f h5, b2_t (q := spotAt (h 0) p x y) ⟨h1, h2, h3, h4, h5⟩]; rfl
  · rw [b2_f h1, b2_f (q := spotAt (h 0) p x y) (fun h => h1 h.1)]; rfl
theorem mspot_rt_c (hc : Mc μ c u h) (hI : MIk μ (h 0)) {p x y : Int} (x0 : 0 ≤ x) (x1 : x < 16) (y0 : 0 ≤ y) (y1 : y < 12) {K : Int → Mem → Rz} {X : Int → Int → Mem → Rz} : CLX (FX7_isSpot 105 p x y μ) K X = K (b2 (spotAt (h 0) p x y)) μ := by
  rw [mspot_rt hc hI x0 x1 y0 y1]
  rfl
theorem mwiped_rt (hc : Mc μ c u h) {p x y : Int} (p0 : 0 ≤ p) (p1 : p < 4) (y0 : 0 ≤ y) (y1 : y < 12) : FX7_isCleaned 105 p x y μ = RT (b2 (wiped (h 0) p x y)) μ := by
  unfold FX7_isCleaned BX7_isCleaned_0 BX7_isCleaned_22
  rw [hc.1.k7, w32_eq (by omega) (by omega), of_rt hc p0 p1 (by omega) (by omega)]
  simp only [CL, ↓CLX_rt]
  by_cases e : wiped (h 0) p x y
  · rw [b2_t e, if_neg (by unfold wiped bt at e; omega)]
    rfl
  · rw [b2_f e, if_pos (by unfold wiped bt at e; omega)]
    rfl
theorem mwiped_rt_c (hc : Mc μ c u h) {p x y : Int} (p0 : 0 ≤ p) (p1 : p < 4) (y0 : 0 ≤ y) (y1 : y < 12) {K : Int → Mem → Rz} {X : Int → Int → Mem → Rz} : CLX (FX7_isCleaned 105 p x y μ) K X = K (b2 (wiped (h 0) p x y)) μ := by
  rw [mwiped_rt hc p0 p1 y0 y1]
  rfl
theorem emod2 {v q : Int} (hq : 0 < q) : (v.tmod q + q).tmod q = v % q := by
  have h1 : (v.tmod q).natAbs < q.natAbs := by
    rw [Int.natAbs_tmod]
    exact Nat.mod_lt _ (by omega)
  have h2 : 0 ≤ v.tmod q + q := by omega
  rw [Int.tmod_eq_emod_of_nonneg h2, Int.add_emod_right]
  have h3 := tmod_emod (v := v) hq
  have h4 := Int.emod_nonneg v (show q ≠ 0 by omega)
  have h5 := Int.emod_lt_of_pos v hq
  by_cases e : 0 ≤ v ∨ v.tmod q = 0
  · rw [if_pos e] at h3
    rw [← h3, Int.emod_emod]
  · rw [if_neg e] at h3
    rw [show v.tmod q = v % q - q by omega, Int.sub_emod_right, Int.emod_emod]
theorem measure_rt {sh a b x y : Int} (ha : 0 ≤ a ∧ a ≤ 3) (hb : 0 ≤ b ∧ b ≤ 3) (hab : 0 < a + b) (hs : 0 ≤ sh ∧ sh ≤ 3) (x0 : 0 ≤ x) (x1 : x < 18) (y0 : 0 ≤ y) (y1 : y < 18) : FX7_measure sh a b x y μ = RT (mAt sh a b x y) μ := by
  have hp := sq_pos ha hb hab
  have hw := w32_sq ha hb
  have e1 := mul_le_of ha.1 ha.2 x0 (show x ≤ 17 by omega)
  have e2 := mul_le_of ha.1 ha.2 y0 (show y ≤ 17 by omega)
  have e3 := mul_le_of hb.1 hb.2 x0 (show x ≤ 17 by omega)
  have e4 := mul_le_of hb.1 hb.2 y0 (show y ≤ 17 by omega)
  unfold FX7_measure BX7_measure_0
  rw [LT_eq, w32_eq (z := a * a) (by omega) (by omega), w32_eq (z := b * b) (by omega) (by omega), w32_eq (z := a * a + b * b) (by omega) (by omega)]
  unfold mAt
  generalize hq : a * a + b * b = q at *
  have u0 := Int.emod_nonneg (a * x + b * y) (show q ≠ 0 by omega)
  have u1 := Int.emod_lt_of_pos (a * x + b * y) (show 0 < q by omega)
  have v0 := Int.emod_nonneg (a * y - b * x) (show q ≠ 0 by omega)
  have v1 := Int.emod_lt_of_pos (a * y - b * x) (show 0 < q by omega)
  have t1 : -q < (a * x + b * y).tmod q ∧ (a * x + b * y).tmod q < q := by
    have : ((a * x + b * y).tmod q).natAbs < q.natAbs := by
      rw [Int.natAbs_tmod]
      exact Nat.mod_lt _ (by omega)
    omega
  have t2 : -q < (a * y - b * x).tmod q ∧ (a * y - b * x).tmod q < q := by
    have : ((a * y - b * x).tmod q).natAbs < q.natAbs := by
      rw [Int.natAbs_tmod]
      exact Nat.mod_lt _ (by omega)
    omega
  rw [w32_eq (z := a * x) (by omega) (by omega), w32_eq (z := b * y) (by omega) (by omega), w32_eq (z := a * x + b * y) (by omega) (by omega), RM_of (by omega), w32_eq (z := _ + q) (by omega) (by omega), RM_of (by omega), emod2 (by omega), w32_eq (z := a * y) (by omega) (by omega), w32_eq (z := b * x) (by omega) (by omega), w32_eq (z := a * y - b * x) (by omega) (by omega), RM_of (by omega), w32_eq (z := _ + q) (by omega) (by omega), RM_of (by omega), emod2 (by omega)]
  generalize (a * x + b * y) % q = s at u0 u1
  generalize (a * y - b * x) % q = t at v0 v1
  have ew : ∀ z : Int, 0 ≤ z → z < q → w32 (2 * z) = 2 * z := fun z z0 z1 => w32_eq (by omega) (by omega)
  have ea : ∀ z : Int, 0 ≤ z → z < q → (if q ≤ 2 * z then 2 * z - q else q - 2 * z) = ab (2 * z - q) ∧ 0 ≤ ab (2 * z - q) ∧ ab (2 * z - q) ≤ 18 := fun z z0 z1 => by
    unfold ab
    by_cases e : q ≤ 2 * z
    · rw [if_pos e, if_neg (by omega)]
      omega
    · rw [if_neg e, if_pos (by omega)]
      omega
  obtain ⟨s1, s2, s3⟩ := ea s u0 u1
  obtain ⟨t1', t2', t3'⟩ := ea t v0 v1
  have hfin : ∀ m n : Int, 0 ≤ m → m ≤ 18 → 0 ≤ n → n ≤ 18 → BX7_measure_101 sh m n μ = RT (mShape sh m n) μ := fun m n m0 m1 n0 n1 => by
    have k1 := mul_le_of m0 m1 m0 m1
    have k2 := mul_le_of n0 n1 n0 n1
    unfold BX7_measure_101 BX7_measure_151 mShape
    rcases (show sh = 0 ∨ sh = 1 ∨ sh = 2 ∨ sh = 3 by omega) with rfl | rfl | rfl | rfl
    · rw [if_neg (by decide), if_pos rfl, w32_eq (z := m * m) (by omega) (by omega), w32_eq (z := n * n) (by omega) (by omega), w32_eq (by omega) (by omega)]
    · rw [if_pos (by decide), if_neg (by decide)]
      rfl
    · rw [if_pos (by decide), if_pos (by decide), if_neg (by decide), w32_eq (by omega) (by omega)]
      rfl
    · rw [if_pos (by decide), if_pos (by decide), if_pos (by decide)]
      show CLX _ _ _ = _
      rw [max_rt]
      rfl
  have h73 : ∀ m : Int, 0 ≤ m → m ≤ 18 → BX7_measure_73 sh q t m μ = RT (mShape sh m (ab (2 * t - q))) μ := fun m m0 m1 => by
    unfold BX7_measure_73
    rw [ew t v0 v1]
    by_cases e : q ≤ 2 * t
    · rw [if_pos e] at t1'
      rw [if_pos e, w32_eq (by omega) (by omega)]
      exact (congrArg (fun z => BX7_measure_101 sh m z μ) t1').trans (hfin _ _ m0 m1 t2' t3')
    · rw [if_neg e] at t1'
      rw [if_neg e, w32_eq (by omega) (by omega), t1']
      exact hfin _ _ m0 m1 t2' t3'
  rw [ew s u0 u1]
  by_cases e : q ≤ 2 * s
  · rw [if_pos e] at s1
    rw [if_pos e, w32_eq (by omega) (by omega)]
    exact (congrArg (fun z => BX7_measure_73 sh q t z μ) s1).trans (h73 _ s2 s3)
  · rw [if_neg e] at s1
    rw [if_neg e, w32_eq (by omega) (by omega), s1]
    exact h73 _ s2 s3
theorem measure_rt_c {sh a b x y : Int} (ha : 0 ≤ a ∧ a ≤ 3) (hb : 0 ≤ b ∧ b ≤ 3) (hab : 0 < a + b) (hs : 0 ≤ sh ∧ sh ≤ 3) (x0 : 0 ≤ x) (x1 : x < 18) (y0 : 0 ≤ y) (y1 : y < 18) {K : Int → Mem → Rz} {X : Int → Int → Mem → Rz} : CLX (FX7_measure sh a b x y μ) K X = K (mAt sh a b x y) μ := by
  rw [measure_rt ha hb hab hs x0 x1 y0 y1]
  rfl
end MRD
