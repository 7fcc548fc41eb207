/-! the component's face: off, checksum -/
def offV (r : Row) (p b : Int) : Int := offO r p (b % (r 0 / rQ r p) * rQ r p) (b / (r 0 / rQ r p) * rQ r p)
def jn (s v : Int) : Int := w64 (w64 (31 * s) + v)
def cs1 (r : Row) : Nat → Int
  | 0 => 0
  | n + 1 => jn (cs1 r n) (stV r n)
def cs2 (r : Row) (s p : Int) : Nat → Int
  | 0 => s
  | n + 1 => jn (cs2 r s p n) (plV r p n)
def cs3 (r : Row) : Nat → Int
  | 0 => cs1 r 9
  | n + 1 => cs2 r (cs3 r n) n 11
def cs4 (r : Row) : Nat → Int
  | 0 => cs3 r (r 2).toNat
  | n + 1 => jn (jn (cs4 r n) (rT r ((n : Int) % r 0) ((n : Int) / r 0))) (ikA r ((n : Int) % r 0) ((n : Int) / r 0))
def csV (r : Row) : Int := cs4 r (r 1 * r 0).toNat
section SUM2
variable {μ : Mem} {c u fed fa : Int} {h : Int → Row} {tx : Int → Int}
/-- the block's place -/
theorem blk_at {r : Row} (hr : okRow r) {p b : Int} (hp : isPl r p) (b0 : 0 ≤ b) (b1 : b < blks r p) : 1 ≤ r 0 / rQ r p ∧ (0 ≤ b % (r 0 / rQ r p) * rQ r p ∧ b % (r 0 / rQ r p) * rQ r p + rQ r p ≤ r 0) ∧ (0 ≤ b / (r 0 / rQ r p) * rQ r p ∧ b / (r 0 / rQ r p) * rQ r p + rQ r p ≤ r 1) := by
  have hr1 := hr.1
  have hq := rQ_le (hr.2.2.2.2 p hp.1 hp.2)
  have hA : r 0 / rQ r p * rQ r p ≤ r 0 := Int.ediv_mul_le _ (by omega)
  have hB : r 1 / rQ r p * rQ r p ≤ r 1 := Int.ediv_mul_le _ (by omega)
  have hA0 : 0 ≤ r 0 / rQ r p := Int.ediv_nonneg (by omega) (by omega)
  have hB0 : 0 ≤ r 1 / rQ r p := Int.ediv_nonneg (by omega) (by omega)
  unfold blks at b1
  generalize r 0 / rQ r p = A at *
  generalize r 1 / rQ r p = B at *
  have hA1 : 1 ≤ A := by
    rcases Int.lt_or_le A 1 with q | q
    · have : A = 0 := by omega
      rw [this, Int.zero_mul] at b1
      omega
    · exact q
  have m0 := Int.emod_nonneg b (show A ≠ 0 by omega)
  have m1 := Int.emod_lt_of_pos b (show 0 < A by omega)
  have d0 : 0 ≤ b / A := Int.ediv_nonneg b0 (by omega)
  have d1 : b / A < B := Int.ediv_lt_of_lt_mul (by omega) (by rw [Int.mul_comm]; exact b1)
  have x1 : (b % A + 1) * rQ r p ≤ A * rQ r p := Int.mul_le_mul_of_nonneg_right (by omega) (by omega)
  have x2 : (b / A + 1) * rQ r p ≤ B * rQ r p := Int.mul_le_mul_of_nonneg_right (by omega) (by omega)
  rw [Int.add_mul, Int.one_mul] at x1 x2
  exact ⟨hA1, ⟨Int.mul_nonneg m0 (by omega), by omega⟩, Int.mul_nonneg d0 (by omega), by omega⟩
theorem off_go (hI : CIc μ c u h tx fed fa) {p b : Int} (hp : isPl (h 0) p) : FX6_off 1 p b μ = (if b < 0 then TH 4 μ else if blks (h 0) p ≤ b then TH 4 μ else if 1 ≤ h 0 0 / rQ (h 0) p then (CL (FX2_update 4 (25 + 8 * c) μ) fun _ u120 => GF 6 7 1 u120 fun t121 => GF 6 6 1 u120 fun t122 => RM b (h 0 0 / rQ (h 0) p) fun t123 => DV b (h 0 0 / rQ (h 0) p) fun t124 => KD 2 t121 u120 (CL (FX2_offOf t121 t122 p (w32 (t123 * rQ (h 0) p)) (w32 (t124 * rQ (h 0) p)) u120) fun t125 u126 => RT t125 u126)) else TH 4 μ) := by
  obtain ⟨⟨hS, ⟨c0, c1⟩, ⟨a1, a2, a3⟩, u0, b', d⟩, hB, hP⟩ := id hI
  have hr := hI.1.cur.1
  have hT := hI.1.cur.2
  have hr1 := hr.1
  have hr2 := hr.2.1
  have hq := rQ_le (hr.2.2.2.2 p hp.1 hp.2)
  have e2c : ∀ (K : Int → Mem → Rz) (X : Int → Int → Mem → Rz), CLX (FX6_requirePlate 1 p μ) K X = K 0 μ := fun K X => by rw [reqP_ok hI hp]; rfl
  have d1 : 0 ≤ h 0 0 / rQ (h 0) p ∧ h 0 0 / rQ (h 0) p ≤ 16 := ⟨Int.ediv_nonneg (by omega) (by omega), Int.le_trans (Int.ediv_le_self _ (by omega)) (by omega)⟩
  have d2 : 0 ≤ h 0 1 / rQ (h 0) p ∧ h 0 1 / rQ (h 0) p ≤ 12 := ⟨Int.ediv_nonneg (by omega) (by omega), Int.le_trans (Int.ediv_le_self _ (by omega)) (by omega)⟩
  have d3 := mul_le_of d1.1 d1.2 d2.1 d2.2
  have k1 := blocks_rt (μ := μ) (n := h 0 0) (q := rQ (h 0) p) (by omega) (by omega) hq.1
  have k2 := blocks_rt (μ := μ) (n := h 0 1) (q := rQ (h 0) p) (by omega) (by omega) hq.1
  unfold FX6_off BX6_off_0
  simp (disch := omega) only [↓hS.g6_6 a2, ↓hS.g6_0, ↓hS.g6_1, ↓hS.g6_2, ↓hS.g6_3, ↓hS.g6_4, ↓hS.g6_5, ↓hS.g6_7, ↓hS.g6_8, ↓hS.k6, ↓hS.g2_0, ↓hS.g2_1, ↓hS.g2_2, ↓hS.g2_3, ↓hS.g2_4, ↓hS.g2_5, ↓hS.g2_6, ↓hS.g2_7, ↓hS.k2, ↓hS.g3_0, ↓hS.g3_1, ↓hS.g3_2, ↓hS.g3_3, ↓hS.g3_4, ↓hS.k3, ↓hS.g4_0, ↓hS.g4_1, ↓hS.g4_3, ↓hS.g4_5, ↓hS.g4_6, ↓hS.g4_7, ↓hS.g4_8, ↓hS.g4_9, ↓hS.g4_10, ↓hS.g4_12, ↓hS.g4_11, ↓hS.k4, ↓hS.g5_0, ↓hS.g5_1, ↓hS.g5_2, ↓hS.g5_3, ↓hS.g5_4, ↓hS.g5_5, ↓hS.g5_6, ↓hS.k5, ↓hS.g1_0, ↓hS.g1_1, ↓hS.g1_2, ↓hS.g1_3, ↓hS.g1_4, ↓hS.g1_5, ↓hS.g1_6, ↓hS.g1_7, ↓hS.k1, ↓hS.l3, ↓hS.n3, ↓hS.l26, ↓hS.n26, ↓hS.l5, ↓hS.n5, ↓hS.l12, ↓hS.n12, ↓hS.l6, ↓hS.n6, ↓hS.l10, ↓hS.n10, ↓hS.l11, ↓hS.n11, ↓hS.l13, ↓hS.n13, ↓hS.l14, ↓hS.n14, ↓hS.l16, ↓hS.n16, ↓hS.l24, ↓hS.n24, ↓hS.l27, ↓hS.n27, ↓hS.l28, ↓hS.n28, ↓hS.l2, ↓hS.n2, ↓CL, ↓e2c, ↓pS_rt_c hS c0 c1 hp.1 hp.2 hr hT, hT.1.1, hT.1.2.1]
  rw [k1]
  simp (disch := omega) only [↓CLX_rt, ↓hS.g6_6 a2, ↓hS.g6_0, ↓hS.g6_1, ↓hS.g6_2, ↓hS.g6_3, ↓hS.g6_4, ↓hS.g6_5, ↓hS.g6_7, ↓hS.g6_8, ↓hS.k6, ↓hS.g2_0, ↓hS.g2_1, ↓hS.g2_2, ↓hS.g2_3, ↓hS.g2_4, ↓hS.g2_5, ↓hS.g2_6, ↓hS.g2_7, ↓hS.k2, ↓hS.g3_0, ↓hS.g3_1, ↓hS.g3_2, ↓hS.g3_3, ↓hS.g3_4, ↓hS.k3, ↓hS.g4_0, ↓hS.g4_1, ↓hS.g4_3, ↓hS.g4_5, ↓hS.g4_6, ↓hS.g4_7, ↓hS.g4_8, ↓hS.g4_9, ↓hS.g4_10, ↓hS.g4_12, ↓hS.g4_11, ↓hS.k4, ↓hS.g5_0, ↓hS.g5_1, ↓hS.g5_2, ↓hS.g5_3, ↓hS.g5_4, ↓hS.g5_5, ↓hS.g5_6, ↓hS.k5, ↓hS.g1_0, ↓hS.g1_1, ↓hS.g1_2, ↓hS.g1_3, ↓hS.g1_4, ↓hS.g1_5, ↓hS.g1_6, ↓hS.g1_7, ↓hS.k1, ↓hS.l3, ↓hS.n3, ↓hS.l26, ↓hS.n26, ↓hS.l5, ↓hS.n5, ↓hS.l12, ↓hS.n12, ↓hS.l6, ↓hS.n6, ↓hS.l10, ↓hS.n10, ↓hS.l11, ↓hS.n11, ↓hS.l13, ↓hS.n13, ↓hS.l14, ↓hS.n14, ↓hS.l16, ↓hS.n16, ↓hS.l24, ↓hS.n24, ↓hS.l27, ↓hS.n27, ↓hS.l28, ↓hS.n28, ↓hS.l2, ↓hS.n2, hT.1.2.1]
  rw [k2]
  simp (disch := omega) only [↓CLX_rt, ↓LT_eq, ↓hS.g6_6 a2, ↓hS.g6_0, ↓hS.g6_1, ↓hS.g6_2, ↓hS.g6_3, ↓hS.g6_4, ↓hS.g6_5, ↓hS.g6_7, ↓hS.g6_8, ↓hS.k6, ↓hS.g2_0, ↓hS.g2_1, ↓hS.g2_2, ↓hS.g2_3, ↓hS.g2_4, ↓hS.g2_5, ↓hS.g2_6, ↓hS.g2_7, ↓hS.k2, ↓hS.g3_0, ↓hS.g3_1, ↓hS.g3_2, ↓hS.g3_3, ↓hS.g3_4, ↓hS.k3, ↓hS.g4_0, ↓hS.g4_1, ↓hS.g4_3, ↓hS.g4_5, ↓hS.g4_6, ↓hS.g4_7, ↓hS.g4_8, ↓hS.g4_9, ↓hS.g4_10, ↓hS.g4_12, ↓hS.g4_11, ↓hS.k4, ↓hS.g5_0, ↓hS.g5_1, ↓hS.g5_2, ↓hS.g5_3, ↓hS.g5_4, ↓hS.g5_5, ↓hS.g5_6, ↓hS.k5, ↓hS.g1_0, ↓hS.g1_1, ↓hS.g1_2, ↓hS.g1_3, ↓hS.g1_4, ↓hS.g1_5, ↓hS.g1_6, ↓hS.g1_7, ↓hS.k1, ↓hS.l3, ↓hS.n3, ↓hS.l26, ↓hS.n26, ↓hS.l5, ↓hS.n5, ↓hS.l12, ↓hS.n12, ↓hS.l6, ↓hS.n6, ↓hS.l10, ↓hS.n10, ↓hS.l11, ↓hS.n11, ↓hS.l13, ↓hS.n13, ↓hS.l14, ↓hS.n14, ↓hS.l16, ↓hS.n16, ↓hS.l24, ↓hS.n24, ↓hS.l27, ↓hS.n27, ↓hS.l28, ↓hS.n28, ↓hS.l2, ↓hS.n2, w32_eq, BX6_off_63]
  rfl
theorem off_rt (hI : CIc μ c u h tx fed fa) {p b : Int} (hp : isPl (h 0) p) (b0 : 0 ≤ b) (b1 : b < blks (h 0) p) : ∃ ν, FX6_off 1 p b μ = RT (offV (h 0) p b) ν ∧ RdP μ ν c u h tx fed fa := by
  obtain ⟨⟨hS, ⟨c0, c1⟩, ⟨a1, a2, a3⟩, u0, b', d⟩, hB, hP⟩ := id hI
  obtain ⟨ν, e1, hI2, hK, hF, -⟩ := upd_rt hI
  obtain ⟨⟨hS2, -, ⟨-, b2', -⟩, -, -, -⟩, -, -⟩ := id hI2
  have hr := hI2.1.cur.1
  have hT := hI2.1.cur.2
  have hr1 := hr.1
  have hb := blk_at hr hp b0 b1
  have hq := rQ_le (hr.2.2.2.2 p hp.1 hp.2)
  refine ⟨ν, ?_, hI2, hK, hF⟩
  have hd : b / (h 0 0 / rQ (h 0) p) ≤ b := Int.ediv_le_self _ b0
  have hd0 : 0 ≤ b / (h 0 0 / rQ (h 0) p) := Int.ediv_nonneg b0 (by omega)
  have hbl : blks (h 0) p ≤ 192 := by
    have d1 : 0 ≤ h 0 0 / rQ (h 0) p ∧ h 0 0 / rQ (h 0) p ≤ 16 := ⟨Int.ediv_nonneg (by omega) (by omega), Int.le_trans (Int.ediv_le_self _ (by omega)) (by omega)⟩
    have d2 : 0 ≤ h 0 1 / rQ (h 0) p ∧ h 0 1 / rQ (h 0) p ≤ 12 := ⟨Int.ediv_nonneg (by omega) (by omega), Int.le_trans (Int.ediv_le_self _ (by omega)) (by omega)⟩
    exact (mul_le_of d1.1 d1.2 d2.1 d2.2).2
  rw [off_go hI hp, if_neg (by omega), if_neg (by omega), if_pos hb.1, e1]
  simp only [↓CL, ↓CLX_rt, ↓hS2.g6_0, ↓hS2.g6_1, ↓hS2.g6_2, ↓hS2.g6_3, ↓hS2.g6_4, ↓hS2.g6_5, ↓hS2.g6_7, ↓hS2.g6_8, ↓hS2.k6, ↓hS2.g2_0, ↓hS2.g2_1, ↓hS2.g2_2, ↓hS2.g2_3, ↓hS2.g2_4, ↓hS2.g2_5, ↓hS2.g2_6, ↓hS2.g2_7, ↓hS2.k2, ↓hS2.g3_0, ↓hS2.g3_1, ↓hS2.g3_2, ↓hS2.g3_3, ↓hS2.g3_4, ↓hS2.k3, ↓hS2.g4_0, ↓hS2.g4_1, ↓hS2.g4_3, ↓hS2.g4_5, ↓hS2.g4_6, ↓hS2.g4_7, ↓hS2.g4_8, ↓hS2.g4_9, ↓hS2.g4_10, ↓hS2.g4_12, ↓hS2.g4_11, ↓hS2.k4, ↓hS2.g5_0, ↓hS2.g5_1, ↓hS2.g5_2, ↓hS2.g5_3, ↓hS2.g5_4, ↓hS2.g5_5, ↓hS2.g5_6, ↓hS2.k5, ↓hS2.g1_0, ↓hS2.g1_1, ↓hS2.g1_2, ↓hS2.g1_3, ↓hS2.g1_4, ↓hS2.g1_5, ↓hS2.g1_6, ↓hS2.g1_7, ↓hS2.k1, ↓hS2.l3, ↓hS2.n3, ↓hS2.l26, ↓hS2.n26, ↓hS2.l5, ↓hS2.n5, ↓hS2.l12, ↓hS2.n12, ↓hS2.l6, ↓hS2.n6, ↓hS2.l10, ↓hS2.n10, ↓hS2.l11, ↓hS2.n11, ↓hS2.l13, ↓hS2.n13, ↓hS2.l14, ↓hS2.n14, ↓hS2.l16, ↓hS2.n16, ↓hS2.l24, ↓hS2.n24, ↓hS2.l27, ↓hS2.n27, ↓hS2.l28, ↓hS2.n28, ↓hS2.l2, ↓hS2.n2, ↓hS2.g6_6 b2']
  rw [RM_of (by omega), DV_of (by omega), tmod_small b0, Int.tdiv_eq_ediv_of_nonneg b0, w32_eq (z := b / _) (by omega) (by omega), w32_eq (z := b % _ * _) (by omega) (by omega), w32_eq (by omega) (by omega), offOf_rt hS2 c0 c1 hp.1 hp.2 hr hT hK.2.1 hK.1 hb.2.1.1 hb.2.1.2 hb.2.2.1 hb.2.2.2]
  rfl
theorem off_n1 (hI : CIc μ c u h tx fed fa) {p b : Int} (hp : ¬ isPl (h 0) p) : FX6_off 1 p b μ = TH 1 μ := by
  unfold FX6_off BX6_off_0
  rw [hI.1.1.k6, reqP_no hI hp]
  rfl
theorem off_n2 (hI : CIc μ c u h tx fed fa) {p b : Int} (hp : isPl (h 0) p) (hb : ¬ (0 ≤ b ∧ b < blks (h 0) p)) : FX6_off 1 p b μ = TH 4 μ := by
  rw [off_go hI hp]
  by_cases h1 : b < 0
  · rw [if_pos h1]
  · rw [if_neg h1, if_pos (by omega)]
theorem checksum_cells (hI : CIc μ c u h tx fed fa) (hK : PrOK μ (h 0)) : LX6_checksum_81 FU 1 (cs3 (h 0) (h 0 2).toNat) 0 μ = RT (csV (h 0)) μ := by
  obtain ⟨⟨hS, ⟨c0, c1⟩, ⟨a1, a2, a3⟩, u0, b', d⟩, hB, hP⟩ := id hI
  have hr := hI.1.cur.1
  have hT := hI.1.cur.2
  have hr1 := hr.1
  have h2 := mul_le_of (a := h 0 1) (b := h 0 0) (c := 12) (d := 16) (by omega) (by omega) (by omega) (by omega)
  refine lp (fun n x s => LX6_checksum_81 n 1 s x μ) (fun x => cs4 (h 0) x.toNat) (h 0 1 * h 0 0) (RT (csV (h 0)) μ) (fun n x x0 x1 => ?_) (fun n => ?_) FU 0 (Int.le_refl _) h2.1 (by rw [show ((FU : Nat) : Int) = 20000 from rfl]; omega)
  · have hx : ¬ h 0 1 * h 0 0 ≤ x := by omega
    have hm0 := Int.emod_nonneg x (show h 0 0 ≠ 0 by omega)
    have hm1 := Int.emod_lt_of_pos x (show 0 < h 0 0 by omega)
    have hd0 : 0 ≤ x / h 0 0 := Int.ediv_nonneg x0 (by omega)
    have hd1 : x / h 0 0 < h 0 1 := Int.ediv_lt_of_lt_mul (by omega) x1
    have hxe : x / h 0 0 * h 0 0 + x % h 0 0 = x := by
      rw [Int.mul_comm]
      exact Int.mul_ediv_add_emod x _
    have v1 := hT.2.1 _ _ hm0 hm1 hd0 hd1
    have v2 := hK.2.1 _ _ hm0 hm1 hd0 hd1
    rw [hxe] at v1 v2
    have hxt : ((x.toNat : Nat) : Int) = x := by omega
    have e9 : cs4 (h 0) (x + 1).toNat = jn (jn (cs4 (h 0) x.toNat) (rT (h 0) (x % h 0 0) (x / h 0 0))) (ikA (h 0) (x % h 0 0) (x / h 0 0)) := by
      rw [show (x + 1).toNat = x.toNat + 1 by omega, cs4, hxt]
    rw [e9]
    simp (disch := omega) only [LX6_checksum_81, BX6_checksum_81, ↓hS.g6_6 a2, ↓hS.g6_0, ↓hS.g6_1, ↓hS.g6_2, ↓hS.g6_3, ↓hS.g6_4, ↓hS.g6_5, ↓hS.g6_7, ↓hS.g6_8, ↓hS.k6, ↓hS.g2_0, ↓hS.g2_1, ↓hS.g2_2, ↓hS.g2_3, ↓hS.g2_4, ↓hS.g2_5, ↓hS.g2_6, ↓hS.g2_7, ↓hS.k2, ↓hS.g3_0, ↓hS.g3_1, ↓hS.g3_2, ↓hS.g3_3, ↓hS.g3_4, ↓hS.k3, ↓hS.g4_0, ↓hS.g4_1, ↓hS.g4_3, ↓hS.g4_5, ↓hS.g4_6, ↓hS.g4_7, ↓hS.g4_8, ↓hS.g4_9, ↓hS.g4_10, ↓hS.g4_12, ↓hS.g4_11, ↓hS.k4, ↓hS.g5_0, ↓hS.g5_1, ↓hS.g5_2, ↓hS.g5_3, ↓hS.g5_4, ↓hS.g5_5, ↓hS.g5_6, ↓hS.k5, ↓hS.g1_0, ↓hS.g1_1, ↓hS.g1_2, ↓hS.g1_3, ↓hS.g1_4, ↓hS.g1_5, ↓hS.g1_6, ↓hS.g1_7, ↓hS.k1, ↓hS.l3, ↓hS.n3, ↓hS.l26, ↓hS.n26, ↓hS.l5, ↓hS.n5, ↓hS.l12, ↓hS.n12, ↓hS.l6, ↓hS.n6, ↓hS.l10, ↓hS.n10, ↓hS.l11, ↓hS.n11, ↓hS.l13, ↓hS.n13, ↓hS.l14, ↓hS.n14, ↓hS.l16, ↓hS.n16, ↓hS.l24, ↓hS.n24, ↓hS.l27, ↓hS.n27, ↓hS.l28, ↓hS.n28, ↓hS.l2, ↓hS.n2, ↓CL, ↓cells_rt_c hS c0 c1 hr hT, hx, ↓reduceIte, ↓LT_eq, v1, v2, w32_eq]
    rfl
  · simp (disch := omega) only [LX6_checksum_81, BX6_checksum_81, ↓hS.g6_6 a2, ↓hS.g6_0, ↓hS.g6_1, ↓hS.g6_2, ↓hS.g6_3, ↓hS.g6_4, ↓hS.g6_5, ↓hS.g6_7, ↓hS.g6_8, ↓hS.k6, ↓hS.g2_0, ↓hS.g2_1, ↓hS.g2_2, ↓hS.g2_3, ↓hS.g2_4, ↓hS.g2_5, ↓hS.g2_6, ↓hS.g2_7, ↓hS.k2, ↓hS.g3_0, ↓hS.g3_1, ↓hS.g3_2, ↓hS.g3_3, ↓hS.g3_4, ↓hS.k3, ↓hS.g4_0, ↓hS.g4_1, ↓hS.g4_3, ↓hS.g4_5, ↓hS.g4_6, ↓hS.g4_7, ↓hS.g4_8, ↓hS.g4_9, ↓hS.g4_10, ↓hS.g4_12, ↓hS.g4_11, ↓hS.k4, ↓hS.g5_0, ↓hS.g5_1, ↓hS.g5_2, ↓hS.g5_3, ↓hS.g5_4, ↓hS.g5_5, ↓hS.g5_6, ↓hS.k5, ↓hS.g1_0, ↓hS.g1_1, ↓hS.g1_2, ↓hS.g1_3, ↓hS.g1_4, ↓hS.g1_5, ↓hS.g1_6, ↓hS.g1_7, ↓hS.k1, ↓hS.l3, ↓hS.n3, ↓hS.l26, ↓hS.n26, ↓hS.l5, ↓hS.n5, ↓hS.l12, ↓hS.n12, ↓hS.l6, ↓hS.n6, ↓hS.l10, ↓hS.n10, ↓hS.l11, ↓hS.n11, ↓hS.l13, ↓hS.n13, ↓hS.l14, ↓hS.n14, ↓hS.l16, ↓hS.n16, ↓hS.l24, ↓hS.n24, ↓hS.l27, ↓hS.n27, ↓hS.l28, ↓hS.n28, ↓hS.l2, ↓hS.n2, ↓CL, ↓cells_rt_c hS c0 c1 hr hT, Int.le_refl, ↓reduceIte]
    rfl
theorem checksum_rt (hI : CIc μ c u h tx fed fa) : ∃ ν, FX6_checksum 1 μ = RT (csV (h 0)) ν ∧ RdP μ ν c u h tx fed fa := by
  have hr2 := hI.1.cur.1.2.1
  unfold FX6_checksum BX6_checksum_0
  refine lpR (fun n x (s : Int × Mem) => LX6_checksum_4 n 1 s.1 x s.2) (fun x s => 0 ≤ x ∧ s.1 = cs1 (h 0) x.toNat ∧ CIc s.2 c u h tx fed fa ∧ UpFr μ s.2 ∧ (0 < x → PrOK s.2 (h 0))) 9 (fun R => ∃ ν, R = RT (csV (h 0)) ν ∧ RdP μ ν c u h tx fed fa) (fun n x s x1 hs => ?_) (fun n s hs => ?_) FU 0 (0, μ) (by omega) (by rw [show ((FU : Nat) : Int) = 20000 from rfl]; omega) ⟨Int.le_refl _, rfl, hI, UpFr.rf hI.1.1, fun q => by omega⟩
  · obtain ⟨s, ν⟩ := s
    obtain ⟨x0, h1, h2, h3, h4⟩ := hs
    have h1 : s = cs1 (h 0) x.toNat := h1
    have h2 : CIc ν c u h tx fed fa := h2
    have h3 : UpFr μ ν := h3
    obtain ⟨ξ, e, f1, f2, f3⟩ := state_rt h2 x0 (show x ≤ 8 by omega)
    have hx : ¬ 8 < x := by omega
    refine ⟨(jn s (stV (h 0) x), ξ), ⟨by omega, ?_, f1, h3.tr f3, fun _ => f2⟩, ?_⟩
    · show jn s _ = _
      rw [show (x + 1).toNat = x.toNat + 1 by omega, cs1, h1, show ((x.toNat : Nat) : Int) = x by omega]
    · simp (disch := omega) only [LX6_checksum_4, BX6_checksum_4, hx, ↓reduceIte, h2.1.1.k6, e, CL, CLX_rt, LT_eq, w32_eq]
      rfl
  · obtain ⟨s, ν⟩ := s
    obtain ⟨x0, h1, h2, h3, h4⟩ := hs
    have h1 : s = cs1 (h 0) 9 := h1
    have h2 : CIc ν c u h tx fed fa := h2
    have h3 : UpFr μ ν := h3
    have h4 : PrOK ν (h 0) := h4 (by omega)
    have e0 : LX6_checksum_4 (n + 1) 1 s 9 ν = LX6_checksum_31 FU 1 s 0 ν := by
      simp only [LX6_checksum_4, BX6_checksum_4, (by decide : (8 : Int) < 9), ↓reduceIte]
    show ∃ ξ, LX6_checksum_4 (n + 1) 1 s 9 ν = _ ∧ _
    rw [e0]
    refine dblR (fun n y0 y1 y2 ν => LX6_checksum_31 n y0 y1 y2 ν) (fun k (s : Int × Mem) y => k 1 s.1 y s.2) (fun k n s y x => LX6_checksum_45 k n 1 s.1 y x s.2) 11 (h 0 2) (fun x y s => s.1 = cs2 (h 0) (cs3 (h 0) y.toNat) y x.toNat ∧ CIc s.2 c u h tx fed fa ∧ UpFr μ s.2 ∧ PrOK s.2 (h 0)) (fun R => ∃ ν, R = RT (csV (h 0)) ν ∧ RdP μ ν c u h tx fed fa) (by omega) (by omega) (fun n s y y0 y1 hs => ?_) (fun n s hs => ?_) (fun k n s y x y0 y1 x0 x1 hs => ?_) (fun k n s y y0 y1 hs => ?_) FU 0 (s, ν) (Int.le_refl _) hr2.1 (by rw [show ((FU : Nat) : Int) = 20000 from rfl]; omega) ⟨h1, h2, h3, h4⟩
    · obtain ⟨s, ν⟩ := s
      obtain ⟨g1, g2, g3, g4⟩ := hs
      have g2 : CIc ν c u h tx fed fa := g2
      obtain ⟨⟨hS, ⟨c0, c1⟩, ⟨a1, a2, a3⟩, u0, b', d⟩, hB, hP⟩ := id g2
      have hT := g2.1.cur.2
      have hy : ¬ h 0 2 ≤ y := by omega
      simp (disch := omega) only [LX6_checksum_31, BX6_checksum_31, ↓hS.g6_6 a2, ↓hS.g6_0, ↓hS.g6_1, ↓hS.g6_2, ↓hS.g6_3, ↓hS.g6_4, ↓hS.g6_5, ↓hS.g6_7, ↓hS.g6_8, ↓hS.k6, ↓hS.g2_0, ↓hS.g2_1, ↓hS.g2_2, ↓hS.g2_3, ↓hS.g2_4, ↓hS.g2_5, ↓hS.g2_6, ↓hS.g2_7, ↓hS.k2, ↓hS.g3_0, ↓hS.g3_1, ↓hS.g3_2, ↓hS.g3_3, ↓hS.g3_4, ↓hS.k3, ↓hS.g4_0, ↓hS.g4_1, ↓hS.g4_3, ↓hS.g4_5, ↓hS.g4_6, ↓hS.g4_7, ↓hS.g4_8, ↓hS.g4_9, ↓hS.g4_10, ↓hS.g4_12, ↓hS.g4_11, ↓hS.k4, ↓hS.g5_0, ↓hS.g5_1, ↓hS.g5_2, ↓hS.g5_3, ↓hS.g5_4, ↓hS.g5_5, ↓hS.g5_6, ↓hS.k5, ↓hS.g1_0, ↓hS.g1_1, ↓hS.g1_2, ↓hS.g1_3, ↓hS.g1_4, ↓hS.g1_5, ↓hS.g1_6, ↓hS.g1_7, ↓hS.k1, ↓hS.l3, ↓hS.n3, ↓hS.l26, ↓hS.n26, ↓hS.l5, ↓hS.n5, ↓hS.l12, ↓hS.n12, ↓hS.l6, ↓hS.n6, ↓hS.l10, ↓hS.n10, ↓hS.l11, ↓hS.n11, ↓hS.l13, ↓hS.n13, ↓hS.l14, ↓hS.n14, ↓hS.l16, ↓hS.n16, ↓hS.l24, ↓hS.n24, ↓hS.l27, ↓hS.n27, ↓hS.l28, ↓hS.n28, ↓hS.l2, ↓hS.n2, hT.1.2.2.2, hy, ↓reduceIte]
    · obtain ⟨s, ν⟩ := s
      obtain ⟨g1, g2, g3, g4⟩ := hs
      have g1 : s = cs3 (h 0) (h 0 2).toNat := g1
      have g2 : CIc ν c u h tx fed fa := g2
      obtain ⟨⟨hS, ⟨c0, c1⟩, ⟨a1, a2, a3⟩, u0, b', d⟩, hB, hP⟩ := id g2
      have hT := g2.1.cur.2
      refine ⟨ν, ?_, g2, g4, g3⟩
      simp (disch := omega) only [LX6_checksum_31, BX6_checksum_31, ↓hS.g6_6 a2, ↓hS.g6_0, ↓hS.g6_1, ↓hS.g6_2, ↓hS.g6_3, ↓hS.g6_4, ↓hS.g6_5, ↓hS.g6_7, ↓hS.g6_8, ↓hS.k6, ↓hS.g2_0, ↓hS.g2_1, ↓hS.g2_2, ↓hS.g2_3, ↓hS.g2_4, ↓hS.g2_5, ↓hS.g2_6, ↓hS.g2_7, ↓hS.k2, ↓hS.g3_0, ↓hS.g3_1, ↓hS.g3_2, ↓hS.g3_3, ↓hS.g3_4, ↓hS.k3, ↓hS.g4_0, ↓hS.g4_1, ↓hS.g4_3, ↓hS.g4_5, ↓hS.g4_6, ↓hS.g4_7, ↓hS.g4_8, ↓hS.g4_9, ↓hS.g4_10, ↓hS.g4_12, ↓hS.g4_11, ↓hS.k4, ↓hS.g5_0, ↓hS.g5_1, ↓hS.g5_2, ↓hS.g5_3, ↓hS.g5_4, ↓hS.g5_5, ↓hS.g5_6, ↓hS.k5, ↓hS.g1_0, ↓hS.g1_1, ↓hS.g1_2, ↓hS.g1_3, ↓hS.g1_4, ↓hS.g1_5, ↓hS.g1_6, ↓hS.g1_7, ↓hS.k1, ↓hS.l3, ↓hS.n3, ↓hS.l26, ↓hS.n26, ↓hS.l5, ↓hS.n5, ↓hS.l12, ↓hS.n12, ↓hS.l6, ↓hS.n6, ↓hS.l10, ↓hS.n10, ↓hS.l11, ↓hS.n11, ↓hS.l13, ↓hS.n13, ↓hS.l14, ↓hS.n14, ↓hS.l16, ↓hS.n16, ↓hS.l24, ↓hS.n24, ↓hS.l27, ↓hS.n27, ↓hS.l28, ↓hS.n28, ↓hS.l2, ↓hS.n2, hT.1.2.2.2, Int.le_refl, ↓reduceIte]
      rw [g1]
      exact checksum_cells g2 g4
    · obtain ⟨s, ν⟩ := s
      obtain ⟨g1, g2, g3, g4⟩ := hs
      have g1 : s = cs2 (h 0) (cs3 (h 0) y.toNat) y x.toNat := g1
      have g2 : CIc ν c u h tx fed fa := g2
      have g3 : UpFr μ ν := g3
      obtain ⟨ξ, e, f1, f2, f3⟩ := plate_rt g2 (p := y) ⟨y0, y1⟩ x0 (show x ≤ 10 by omega)
      have hx : ¬ 10 < x := by omega
      refine ⟨(jn s (plV (h 0) y x), ξ), ⟨?_, f1, g3.tr f3, f2⟩, ?_⟩
      · show jn s _ = _
        rw [show (x + 1).toNat = x.toNat + 1 by omega, cs2, g1, show ((x.toNat : Nat) : Int) = x by omega]
      · simp (disch := omega) only [LX6_checksum_45, BX6_checksum_45, hx, ↓reduceIte, g2.1.1.k6, e, CL, CLX_rt, LT_eq, w32_eq]
        rfl
    · obtain ⟨s, ν⟩ := s
      obtain ⟨g1, g2, g3, g4⟩ := hs
      have g1 : s = cs2 (h 0) (cs3 (h 0) y.toNat) y 11 := g1
      refine ⟨⟨?_, g2, g3, g4⟩, ?_⟩
      · show s = _
        rw [show (y + 1).toNat = y.toNat + 1 by omega, show (0 : Int).toNat = 0 from rfl, cs2, cs3, g1, show ((y.toNat : Nat) : Int) = y by omega]
      · simp (disch := omega) only [LX6_checksum_45, BX6_checksum_45, (by decide : (10 : Int) < 11), ↓reduceIte, w32_eq]
end SUM2
