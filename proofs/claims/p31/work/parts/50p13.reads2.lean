/-! the component's face: what is told, further -/
def cpN (r : Row) : Nat → Int
  | 0 => -1
  | n + 1 => if dotsOf r n = 0 then cpN r n else if cpN r n = -1 then rO r n 12 / dotsOf r n else mn (cpN r n) (rO r n 12 / dotsOf r n)
def cpV (r : Row) : Int := cpN r (r 2).toNat
section RD2
variable {μ : Mem} {c u fed fa : Int} {h : Int → Row} {tx : Int → Int}
theorem cpN_le {r : Row} (hr : okRow r) : ∀ n : Nat, (n : Int) ≤ r 2 → -1 ≤ cpN r n ∧ cpN r n ≤ 99999
  | 0, _ => by
    show (-1 : Int) ≤ -1 ∧ (-1 : Int) ≤ 99999
    omega
  | n + 1, hn => by
    have ih := cpN_le hr n (by omega)
    have hd := dotsOf_le hr n
    have hi := (hr.2.2.2.2 n (by omega) (by omega)).2.2.2.1
    have h1 : rO r n 12 / dotsOf r n ≤ rO r n 12 := Int.ediv_le_self _ hi.1
    have h2 : 0 ≤ rO r n 12 / dotsOf r n := Int.ediv_nonneg hi.1 hd.1
    have h3 := mn_le (a := cpN r n) (b := rO r n 12 / dotsOf r n)
    rw [cpN]
    split
    · omega
    · split <;> omega
theorem cell_rt (hI : CIc μ c u h tx fed fa) {p x y w : Int} (hp : isPl (h 0) p) (hc : isCe (h 0) x y) (w0 : 0 ≤ w) (w1 : w ≤ 4) : ∃ ν, FX6_cell 1 p x y w μ = RT (ceV (h 0) p x y w) ν ∧ RdP μ ν c u h tx fed fa := by
  obtain ⟨⟨hS, ⟨c0, c1⟩, ⟨a1, a2, a3⟩, u0, b, d⟩, hB, hP⟩ := id hI
  obtain ⟨ν, e1, hI2, hK, hF, -⟩ := upd_rt hI
  obtain ⟨⟨hS2, -, ⟨-, b2', -⟩, -, -, -⟩, -, -⟩ := id hI2
  have hr := hI2.1.cur.1
  have hT := hI2.1.cur.2
  have e1c : ∀ (K : Int → Mem → Rz) (X : Int → Int → Mem → Rz), CLX (FX2_update 4 (25 + 8 * c) μ) K X = K 0 ν := fun K X => by rw [e1]; rfl
  have e2c : ∀ (K : Int → Mem → Rz) (X : Int → Int → Mem → Rz), CLX (FX6_requirePlate 1 p μ) K X = K 0 μ := fun K X => by rw [reqP_ok hI hp]; rfl
  have e3c : ∀ (K : Int → Mem → Rz) (X : Int → Int → Mem → Rz), CLX (FX6_requireCell 1 x y μ) K X = K 0 μ := fun K X => by rw [reqC_ok hI hc]; rfl
  have h1 : ¬ w < 0 := by omega
  have hr1 := hr.1
  have hr2 := hr.2.1
  have p4 : p < 4 := by omega
  have hcc := cell_lt (show h 0 0 ≤ 16 by omega) (show h 0 1 ≤ 12 by omega) hc.1.1 hc.1.2 hc.2.1 hc.2.2
  have eb : ∀ q : Prop, [Decidable q] → (if b2 q = 0 then RT 0 ν else RT 1 ν) = RT (b2 q) ν := fun q _ => by
    by_cases e : q
    · rw [b2_t e, if_neg (by omega)]
    · rw [b2_f e, if_pos rfl]
  refine ⟨ν, ?_, hI2, hK, hF⟩
  rcases (show w = 0 ∨ w = 1 ∨ w = 2 ∨ w = 3 ∨ w = 4 by omega) with rfl | rfl | rfl | rfl | rfl
  · simp (disch := omega) only [FX6_cell, BX6_cell_0, h1, w1, ↓reduceIte, ↓hS.g6_6 a2, ↓hS.g6_0, ↓hS.g6_1, ↓hS.g6_2, ↓hS.g6_3, ↓hS.g6_4, ↓hS.g6_5, ↓hS.g6_7, ↓hS.g6_8, ↓hS.k6, ↓hS.g2_0, ↓hS.g2_1, ↓hS.g2_2, ↓hS.g2_3, ↓hS.g2_4, ↓hS.g2_5, ↓hS.g2_6, ↓hS.g2_7, ↓hS.k2, ↓hS.g3_0, ↓hS.g3_1, ↓hS.g3_2, ↓hS.g3_3, ↓hS.g3_4, ↓hS.k3, ↓hS.g4_0, ↓hS.g4_1, ↓hS.g4_3, ↓hS.g4_5, ↓hS.g4_6, ↓hS.g4_7, ↓hS.g4_8, ↓hS.g4_9, ↓hS.g4_10, ↓hS.g4_12, ↓hS.g4_11, ↓hS.k4, ↓hS.g5_0, ↓hS.g5_1, ↓hS.g5_2, ↓hS.g5_3, ↓hS.g5_4, ↓hS.g5_5, ↓hS.g5_6, ↓hS.k5, ↓hS.g1_0, ↓hS.g1_1, ↓hS.g1_2, ↓hS.g1_3, ↓hS.g1_4, ↓hS.g1_5, ↓hS.g1_6, ↓hS.g1_7, ↓hS.k1, ↓hS.l3, ↓hS.n3, ↓hS.l26, ↓hS.n26, ↓hS.l5, ↓hS.n5, ↓hS.l12, ↓hS.n12, ↓hS.l6, ↓hS.n6, ↓hS.l10, ↓hS.n10, ↓hS.l11, ↓hS.n11, ↓hS.l13, ↓hS.n13, ↓hS.l14, ↓hS.n14, ↓hS.l16, ↓hS.n16, ↓hS.l24, ↓hS.n24, ↓hS.l27, ↓hS.n27, ↓hS.l28, ↓hS.n28, ↓hS.l2, ↓hS.n2, ↓CL, ↓e1c, ↓e2c, ↓e3c, ↓SW_c, ↓SW_n, Int.reduceEq, Int.reduceAdd, Int.reduceLT, Int.reduceLE, ↓hS2.g6_6 b2', ↓hS2.g6_0, ↓hS2.g6_1, ↓hS2.g6_2, ↓hS2.g6_3, ↓hS2.g6_4, ↓hS2.g6_5, ↓hS2.g6_7, ↓hS2.g6_8, ↓hS2.k6, ↓hS2.g2_0, ↓hS2.g2_1, ↓hS2.g2_2, ↓hS2.g2_3, ↓hS2.g2_4, ↓hS2.g2_5, ↓hS2.g2_6, ↓hS2.g2_7, ↓hS2.k2, ↓hS2.g3_0, ↓hS2.g3_1, ↓hS2.g3_2, ↓hS2.g3_3, ↓hS2.g3_4, ↓hS2.k3, ↓hS2.g4_0, ↓hS2.g4_1, ↓hS2.g4_3, ↓hS2.g4_5, ↓hS2.g4_6, ↓hS2.g4_7, ↓hS2.g4_8, ↓hS2.g4_9, ↓hS2.g4_10, ↓hS2.g4_12, ↓hS2.g4_11, ↓hS2.k4, ↓hS2.g5_0, ↓hS2.g5_1, ↓hS2.g5_2, ↓hS2.g5_3, ↓hS2.g5_4, ↓hS2.g5_5, ↓hS2.g5_6, ↓hS2.k5, ↓hS2.g1_0, ↓hS2.g1_1, ↓hS2.g1_2, ↓hS2.g1_3, ↓hS2.g1_4, ↓hS2.g1_5, ↓hS2.g1_6, ↓hS2.g1_7, ↓hS2.k1, ↓hS2.l3, ↓hS2.n3, ↓hS2.l26, ↓hS2.n26, ↓hS2.l5, ↓hS2.n5, ↓hS2.l12, ↓hS2.n12, ↓hS2.l6, ↓hS2.n6, ↓hS2.l10, ↓hS2.n10, ↓hS2.l11, ↓hS2.n11, ↓hS2.l13, ↓hS2.n13, ↓hS2.l14, ↓hS2.n14, ↓hS2.l16, ↓hS2.n16, ↓hS2.l24, ↓hS2.n24, ↓hS2.l27, ↓hS2.n27, ↓hS2.l28, ↓hS2.n28, ↓hS2.l2, ↓hS2.n2, ↓idx_rt_c hS2 c0 c1 hT.1.1, ↓rankAt_rt_c hS2 c0 c1 hp.1 hp.2 hr hT (hK.2.2.2 p hp.1 hp.2)]
    rfl
  · simp (disch := omega) only [FX6_cell, BX6_cell_0, h1, w1, ↓reduceIte, ↓hS.g6_6 a2, ↓hS.g6_0, ↓hS.g6_1, ↓hS.g6_2, ↓hS.g6_3, ↓hS.g6_4, ↓hS.g6_5, ↓hS.g6_7, ↓hS.g6_8, ↓hS.k6, ↓hS.g2_0, ↓hS.g2_1, ↓hS.g2_2, ↓hS.g2_3, ↓hS.g2_4, ↓hS.g2_5, ↓hS.g2_6, ↓hS.g2_7, ↓hS.k2, ↓hS.g3_0, ↓hS.g3_1, ↓hS.g3_2, ↓hS.g3_3, ↓hS.g3_4, ↓hS.k3, ↓hS.g4_0, ↓hS.g4_1, ↓hS.g4_3, ↓hS.g4_5, ↓hS.g4_6, ↓hS.g4_7, ↓hS.g4_8, ↓hS.g4_9, ↓hS.g4_10, ↓hS.g4_12, ↓hS.g4_11, ↓hS.k4, ↓hS.g5_0, ↓hS.g5_1, ↓hS.g5_2, ↓hS.g5_3, ↓hS.g5_4, ↓hS.g5_5, ↓hS.g5_6, ↓hS.k5, ↓hS.g1_0, ↓hS.g1_1, ↓hS.g1_2, ↓hS.g1_3, ↓hS.g1_4, ↓hS.g1_5, ↓hS.g1_6, ↓hS.g1_7, ↓hS.k1, ↓hS.l3, ↓hS.n3, ↓hS.l26, ↓hS.n26, ↓hS.l5, ↓hS.n5, ↓hS.l12, ↓hS.n12, ↓hS.l6, ↓hS.n6, ↓hS.l10, ↓hS.n10, ↓hS.l11, ↓hS.n11, ↓hS.l13, ↓hS.n13, ↓hS.l14, ↓hS.n14, ↓hS.l16, ↓hS.n16, ↓hS.l24, ↓hS.n24, ↓hS.l27, ↓hS.n27, ↓hS.l28, ↓hS.n28, ↓hS.l2, ↓hS.n2, ↓CL, ↓e1c, ↓e2c, ↓e3c, ↓SW_c, ↓SW_n, Int.reduceEq, Int.reduceAdd, Int.reduceLT, Int.reduceLE, ↓hS2.g6_6 b2', ↓hS2.g6_0, ↓hS2.g6_1, ↓hS2.g6_2, ↓hS2.g6_3, ↓hS2.g6_4, ↓hS2.g6_5, ↓hS2.g6_7, ↓hS2.g6_8, ↓hS2.k6, ↓hS2.g2_0, ↓hS2.g2_1, ↓hS2.g2_2, ↓hS2.g2_3, ↓hS2.g2_4, ↓hS2.g2_5, ↓hS2.g2_6, ↓hS2.g2_7, ↓hS2.k2, ↓hS2.g3_0, ↓hS2.g3_1, ↓hS2.g3_2, ↓hS2.g3_3, ↓hS2.g3_4, ↓hS2.k3, ↓hS2.g4_0, ↓hS2.g4_1, ↓hS2.g4_3, ↓hS2.g4_5, ↓hS2.g4_6, ↓hS2.g4_7, ↓hS2.g4_8, ↓hS2.g4_9, ↓hS2.g4_10, ↓hS2.g4_12, ↓hS2.g4_11, ↓hS2.k4, ↓hS2.g5_0, ↓hS2.g5_1, ↓hS2.g5_2, ↓hS2.g5_3, ↓hS2.g5_4, ↓hS2.g5_5, ↓hS2.g5_6, ↓hS2.k5, ↓hS2.g1_0, ↓hS2.g1_1, ↓hS2.g1_2, ↓hS2.g1_3, ↓hS2.g1_4, ↓hS2.g1_5, ↓hS2.g1_6, ↓hS2.g1_7, ↓hS2.k1, ↓hS2.l3, ↓hS2.n3, ↓hS2.l26, ↓hS2.n26, ↓hS2.l5, ↓hS2.n5, ↓hS2.l12, ↓hS2.n12, ↓hS2.l6, ↓hS2.n6, ↓hS2.l10, ↓hS2.n10, ↓hS2.l11, ↓hS2.n11, ↓hS2.l13, ↓hS2.n13, ↓hS2.l14, ↓hS2.n14, ↓hS2.l16, ↓hS2.n16, ↓hS2.l24, ↓hS2.n24, ↓hS2.l27, ↓hS2.n27, ↓hS2.l28, ↓hS2.n28, ↓hS2.l2, ↓hS2.n2, ↓idx_rt_c hS2 c0 c1 hT.1.1, hK.1 p hp.1 hp.2 x y hc.1.1 hc.1.2 hc.2.1 hc.2.2]
    rfl
  · have e9 : b2 (bt (ν 10 (y * h 0 0 + x)) p = 1) = b2 (dotAt (h 0) p x y) := by
      rw [hK.2.1 x y hc.1.1 hc.1.2 hc.2.1 hc.2.2]
      by_cases e : bt (ikA (h 0) x y) p = 1
      · rw [b2_t e, b2_t (show dotAt (h 0) p x y from ⟨⟨hc.1.1, hc.1.2, hc.2.1, hc.2.2⟩, e⟩)]
      · rw [b2_f e, b2_f (fun k : dotAt (h 0) p x y => e k.2)]
    simp (disch := omega) only [FX6_cell, BX6_cell_0, BX6_cell_134, h1, w1, ↓reduceIte, ↓hS.g6_6 a2, ↓hS.g6_0, ↓hS.g6_1, ↓hS.g6_2, ↓hS.g6_3, ↓hS.g6_4, ↓hS.g6_5, ↓hS.g6_7, ↓hS.g6_8, ↓hS.k6, ↓hS.g2_0, ↓hS.g2_1, ↓hS.g2_2, ↓hS.g2_3, ↓hS.g2_4, ↓hS.g2_5, ↓hS.g2_6, ↓hS.g2_7, ↓hS.k2, ↓hS.g3_0, ↓hS.g3_1, ↓hS.g3_2, ↓hS.g3_3, ↓hS.g3_4, ↓hS.k3, ↓hS.g4_0, ↓hS.g4_1, ↓hS.g4_3, ↓hS.g4_5, ↓hS.g4_6, ↓hS.g4_7, ↓hS.g4_8, ↓hS.g4_9, ↓hS.g4_10, ↓hS.g4_12, ↓hS.g4_11, ↓hS.k4, ↓hS.g5_0, ↓hS.g5_1, ↓hS.g5_2, ↓hS.g5_3, ↓hS.g5_4, ↓hS.g5_5, ↓hS.g5_6, ↓hS.k5, ↓hS.g1_0, ↓hS.g1_1, ↓hS.g1_2, ↓hS.g1_3, ↓hS.g1_4, ↓hS.g1_5, ↓hS.g1_6, ↓hS.g1_7, ↓hS.k1, ↓hS.l3, ↓hS.n3, ↓hS.l26, ↓hS.n26, ↓hS.l5, ↓hS.n5, ↓hS.l12, ↓hS.n12, ↓hS.l6, ↓hS.n6, ↓hS.l10, ↓hS.n10, ↓hS.l11, ↓hS.n11, ↓hS.l13, ↓hS.n13, ↓hS.l14, ↓hS.n14, ↓hS.l16, ↓hS.n16, ↓hS.l24, ↓hS.n24, ↓hS.l27, ↓hS.n27, ↓hS.l28, ↓hS.n28, ↓hS.l2, ↓hS.n2, ↓CL, ↓e1c, ↓e2c, ↓e3c, ↓SW_c, ↓SW_n, Int.reduceEq, Int.reduceAdd, Int.reduceLT, Int.reduceLE, ↓hS2.g6_6 b2', ↓hS2.g6_0, ↓hS2.g6_1, ↓hS2.g6_2, ↓hS2.g6_3, ↓hS2.g6_4, ↓hS2.g6_5, ↓hS2.g6_7, ↓hS2.g6_8, ↓hS2.k6, ↓hS2.g2_0, ↓hS2.g2_1, ↓hS2.g2_2, ↓hS2.g2_3, ↓hS2.g2_4, ↓hS2.g2_5, ↓hS2.g2_6, ↓hS2.g2_7, ↓hS2.k2, ↓hS2.g3_0, ↓hS2.g3_1, ↓hS2.g3_2, ↓hS2.g3_3, ↓hS2.g3_4, ↓hS2.k3, ↓hS2.g4_0, ↓hS2.g4_1, ↓hS2.g4_3, ↓hS2.g4_5, ↓hS2.g4_6, ↓hS2.g4_7, ↓hS2.g4_8, ↓hS2.g4_9, ↓hS2.g4_10, ↓hS2.g4_12, ↓hS2.g4_11, ↓hS2.k4, ↓hS2.g5_0, ↓hS2.g5_1, ↓hS2.g5_2, ↓hS2.g5_3, ↓hS2.g5_4, ↓hS2.g5_5, ↓hS2.g5_6, ↓hS2.k5, ↓hS2.g1_0, ↓hS2.g1_1, ↓hS2.g1_2, ↓hS2.g1_3, ↓hS2.g1_4, ↓hS2.g1_5, ↓hS2.g1_6, ↓hS2.g1_7, ↓hS2.k1, ↓hS2.l3, ↓hS2.n3, ↓hS2.l26, ↓hS2.n26, ↓hS2.l5, ↓hS2.n5, ↓hS2.l12, ↓hS2.n12, ↓hS2.l6, ↓hS2.n6, ↓hS2.l10, ↓hS2.n10, ↓hS2.l11, ↓hS2.n11, ↓hS2.l13, ↓hS2.n13, ↓hS2.l14, ↓hS2.n14, ↓hS2.l16, ↓hS2.n16, ↓hS2.l24, ↓hS2.n24, ↓hS2.l27, ↓hS2.n27, ↓hS2.l28, ↓hS2.n28, ↓hS2.l2, ↓hS2.n2, ↓idx_rt_c hS2 c0 c1 hT.1.1, ↓hasDot_rt_c hS2, e9]
    exact eb _
  · simp (disch := omega) only [FX6_cell, BX6_cell_0, BX6_cell_157, h1, w1, ↓reduceIte, ↓hS.g6_6 a2, ↓hS.g6_0, ↓hS.g6_1, ↓hS.g6_2, ↓hS.g6_3, ↓hS.g6_4, ↓hS.g6_5, ↓hS.g6_7, ↓hS.g6_8, ↓hS.k6, ↓hS.g2_0, ↓hS.g2_1, ↓hS.g2_2, ↓hS.g2_3, ↓hS.g2_4, ↓hS.g2_5, ↓hS.g2_6, ↓hS.g2_7, ↓hS.k2, ↓hS.g3_0, ↓hS.g3_1, ↓hS.g3_2, ↓hS.g3_3, ↓hS.g3_4, ↓hS.k3, ↓hS.g4_0, ↓hS.g4_1, ↓hS.g4_3, ↓hS.g4_5, ↓hS.g4_6, ↓hS.g4_7, ↓hS.g4_8, ↓hS.g4_9, ↓hS.g4_10, ↓hS.g4_12, ↓hS.g4_11, ↓hS.k4, ↓hS.g5_0, ↓hS.g5_1, ↓hS.g5_2, ↓hS.g5_3, ↓hS.g5_4, ↓hS.g5_5, ↓hS.g5_6, ↓hS.k5, ↓hS.g1_0, ↓hS.g1_1, ↓hS.g1_2, ↓hS.g1_3, ↓hS.g1_4, ↓hS.g1_5, ↓hS.g1_6, ↓hS.g1_7, ↓hS.k1, ↓hS.l3, ↓hS.n3, ↓hS.l26, ↓hS.n26, ↓hS.l5, ↓hS.n5, ↓hS.l12, ↓hS.n12, ↓hS.l6, ↓hS.n6, ↓hS.l10, ↓hS.n10, ↓hS.l11, ↓hS.n11, ↓hS.l13, ↓hS.n13, ↓hS.l14, ↓hS.n14, ↓hS.l16, ↓hS.n16, ↓hS.l24, ↓hS.n24, ↓hS.l27, ↓hS.n27, ↓hS.l28, ↓hS.n28, ↓hS.l2, ↓hS.n2, ↓CL, ↓e1c, ↓e2c, ↓e3c, ↓SW_c, ↓SW_n, Int.reduceEq, Int.reduceAdd, Int.reduceLT, Int.reduceLE, ↓hS2.g6_6 b2', ↓hS2.g6_0, ↓hS2.g6_1, ↓hS2.g6_2, ↓hS2.g6_3, ↓hS2.g6_4, ↓hS2.g6_5, ↓hS2.g6_7, ↓hS2.g6_8, ↓hS2.k6, ↓hS2.g2_0, ↓hS2.g2_1, ↓hS2.g2_2, ↓hS2.g2_3, ↓hS2.g2_4, ↓hS2.g2_5, ↓hS2.g2_6, ↓hS2.g2_7, ↓hS2.k2, ↓hS2.g3_0, ↓hS2.g3_1, ↓hS2.g3_2, ↓hS2.g3_3, ↓hS2.g3_4, ↓hS2.k3, ↓hS2.g4_0, ↓hS2.g4_1, ↓hS2.g4_3, ↓hS2.g4_5, ↓hS2.g4_6, ↓hS2.g4_7, ↓hS2.g4_8, ↓hS2.g4_9, ↓hS2.g4_10, ↓hS2.g4_12, ↓hS2.g4_11, ↓hS2.k4, ↓hS2.g5_0, ↓hS2.g5_1, ↓hS2.g5_2, ↓hS2.g5_3, ↓hS2.g5_4, ↓hS2.g5_5, ↓hS2.g5_6, ↓hS2.k5, ↓hS2.g1_0, ↓hS2.g1_1, ↓hS2.g1_2, ↓hS2.g1_3, ↓hS2.g1_4, ↓hS2.g1_5, ↓hS2.g1_6, ↓hS2.g1_7, ↓hS2.k1, ↓hS2.l3, ↓hS2.n3, ↓hS2.l26, ↓hS2.n26, ↓hS2.l5, ↓hS2.n5, ↓hS2.l12, ↓hS2.n12, ↓hS2.l6, ↓hS2.n6, ↓hS2.l10, ↓hS2.n10, ↓hS2.l11, ↓hS2.n11, ↓hS2.l13, ↓hS2.n13, ↓hS2.l14, ↓hS2.n14, ↓hS2.l16, ↓hS2.n16, ↓hS2.l24, ↓hS2.n24, ↓hS2.l27, ↓hS2.n27, ↓hS2.l28, ↓hS2.n28, ↓hS2.l2, ↓hS2.n2, ↓idx_rt_c hS2 c0 c1 hT.1.1, ↓isSpot_rt_c hS2 c0 c1 hr ⟨hT.1.1, hT.1.2.1⟩ hK.2.1]
    exact eb _
  · have e9 : bt (ν (28 + 8 * c) (y * h 0 0 + x)) p = bt (rO (h 0) p (14 + y)) x := by
      rw [(hT.2.2.1 x y hc.1.1 hc.1.2 hc.2.1 hc.2.2).2 p hp.1 p4, if_pos hp.2]
    simp (disch := omega) only [FX6_cell, BX6_cell_0, BX6_cell_176, h1, w1, ↓reduceIte, ↓hS.g6_6 a2, ↓hS.g6_0, ↓hS.g6_1, ↓hS.g6_2, ↓hS.g6_3, ↓hS.g6_4, ↓hS.g6_5, ↓hS.g6_7, ↓hS.g6_8, ↓hS.k6, ↓hS.g2_0, ↓hS.g2_1, ↓hS.g2_2, ↓hS.g2_3, ↓hS.g2_4, ↓hS.g2_5, ↓hS.g2_6, ↓hS.g2_7, ↓hS.k2, ↓hS.g3_0, ↓hS.g3_1, ↓hS.g3_2, ↓hS.g3_3, ↓hS.g3_4, ↓hS.k3, ↓hS.g4_0, ↓hS.g4_1, ↓hS.g4_3, ↓hS.g4_5, ↓hS.g4_6, ↓hS.g4_7, ↓hS.g4_8, ↓hS.g4_9, ↓hS.g4_10, ↓hS.g4_12, ↓hS.g4_11, ↓hS.k4, ↓hS.g5_0, ↓hS.g5_1, ↓hS.g5_2, ↓hS.g5_3, ↓hS.g5_4, ↓hS.g5_5, ↓hS.g5_6, ↓hS.k5, ↓hS.g1_0, ↓hS.g1_1, ↓hS.g1_2, ↓hS.g1_3, ↓hS.g1_4, ↓hS.g1_5, ↓hS.g1_6, ↓hS.g1_7, ↓hS.k1, ↓hS.l3, ↓hS.n3, ↓hS.l26, ↓hS.n26, ↓hS.l5, ↓hS.n5, ↓hS.l12, ↓hS.n12, ↓hS.l6, ↓hS.n6, ↓hS.l10, ↓hS.n10, ↓hS.l11, ↓hS.n11, ↓hS.l13, ↓hS.n13, ↓hS.l14, ↓hS.n14, ↓hS.l16, ↓hS.n16, ↓hS.l24, ↓hS.n24, ↓hS.l27, ↓hS.n27, ↓hS.l28, ↓hS.n28, ↓hS.l2, ↓hS.n2, ↓CL, ↓e1c, ↓e2c, ↓e3c, ↓SW_c, ↓SW_n, Int.reduceEq, Int.reduceAdd, Int.reduceLT, Int.reduceLE, ↓hS2.g6_6 b2', ↓hS2.g6_0, ↓hS2.g6_1, ↓hS2.g6_2, ↓hS2.g6_3, ↓hS2.g6_4, ↓hS2.g6_5, ↓hS2.g6_7, ↓hS2.g6_8, ↓hS2.k6, ↓hS2.g2_0, ↓hS2.g2_1, ↓hS2.g2_2, ↓hS2.g2_3, ↓hS2.g2_4, ↓hS2.g2_5, ↓hS2.g2_6, ↓hS2.g2_7, ↓hS2.k2, ↓hS2.g3_0, ↓hS2.g3_1, ↓hS2.g3_2, ↓hS2.g3_3, ↓hS2.g3_4, ↓hS2.k3, ↓hS2.g4_0, ↓hS2.g4_1, ↓hS2.g4_3, ↓hS2.g4_5, ↓hS2.g4_6, ↓hS2.g4_7, ↓hS2.g4_8, ↓hS2.g4_9, ↓hS2.g4_10, ↓hS2.g4_12, ↓hS2.g4_11, ↓hS2.k4, ↓hS2.g5_0, ↓hS2.g5_1, ↓hS2.g5_2, ↓hS2.g5_3, ↓hS2.g5_4, ↓hS2.g5_5, ↓hS2.g5_6, ↓hS2.k5, ↓hS2.g1_0, ↓hS2.g1_1, ↓hS2.g1_2, ↓hS2.g1_3, ↓hS2.g1_4, ↓hS2.g1_5, ↓hS2.g1_6, ↓hS2.g1_7, ↓hS2.k1, ↓hS2.l3, ↓hS2.n3, ↓hS2.l26, ↓hS2.n26, ↓hS2.l5, ↓hS2.n5, ↓hS2.l12, ↓hS2.n12, ↓hS2.l6, ↓hS2.n6, ↓hS2.l10, ↓hS2.n10, ↓hS2.l11, ↓hS2.n11, ↓hS2.l13, ↓hS2.n13, ↓hS2.l14, ↓hS2.n14, ↓hS2.l16, ↓hS2.n16, ↓hS2.l24, ↓hS2.n24, ↓hS2.l27, ↓hS2.n27, ↓hS2.l28, ↓hS2.n28, ↓hS2.l2, ↓hS2.n2, ↓idx_rt_c hS2 c0 c1 hT.1.1, ↓isCleaned_rt_c hS2 c0 c1, e9]
    exact eb _
theorem cell_n1 (hI : CIc μ c u h tx fed fa) {p x y w : Int} (hp : ¬ (isPl (h 0) p ∧ isCe (h 0) x y)) : FX6_cell 1 p x y w μ = TH 1 μ := by
  unfold FX6_cell BX6_cell_0
  rw [hI.1.1.k6]
  by_cases e : isPl (h 0) p
  · rw [reqP_ok hI e]
    simp only [CL, ↓CLX_rt]
    rw [hI.1.1.k6, reqC_no hI (fun k => hp ⟨e, k⟩)]
    rfl
  · rw [reqP_no hI e]
    rfl
theorem cell_n2 (hI : CIc μ c u h tx fed fa) {p x y w : Int} (hp : isPl (h 0) p) (hc : isCe (h 0) x y) (hw : ¬ (0 ≤ w ∧ w ≤ 4)) : FX6_cell 1 p x y w μ = TH 2 μ := by
  unfold FX6_cell BX6_cell_0
  rw [hI.1.1.k6, reqP_ok hI hp]
  simp only [CL, ↓CLX_rt]
  rw [hI.1.1.k6, reqC_ok hI hc]
  by_cases h1 : w < 0
  · simp only [CLX_rt, BX6_cell_22, h1, ↓reduceIte]
  · have h2 : ¬ w ≤ 4 := by omega
    simp only [CLX_rt, BX6_cell_22, h1, h2, ↓reduceIte]
theorem tone_rt (hI : CIc μ c u h tx fed fa) {x y : Int} (hc : isCe (h 0) x y) : FX6_tone 1 x y μ = RT (rT (h 0) x y) μ := by
  obtain ⟨⟨hS, ⟨c0, c1⟩, ⟨a1, a2, a3⟩, u0, b, d⟩, hB, hP⟩ := id hI
  have hr := hI.1.cur.1
  have hT := hI.1.cur.2
  have hr1 := hr.1
  have hcc := cell_lt (show h 0 0 ≤ 16 by omega) (show h 0 1 ≤ 12 by omega) hc.1.1 hc.1.2 hc.2.1 hc.2.2
  have e3c : ∀ (K : Int → Mem → Rz) (X : Int → Int → Mem → Rz), CLX (FX6_requireCell 1 x y μ) K X = K 0 μ := fun K X => by rw [reqC_ok hI hc]; rfl
  simp (disch := omega) only [FX6_tone, BX6_tone_0, ↓hS.g6_6 a2, ↓hS.g6_0, ↓hS.g6_1, ↓hS.g6_2, ↓hS.g6_3, ↓hS.g6_4, ↓hS.g6_5, ↓hS.g6_7, ↓hS.g6_8, ↓hS.k6, ↓hS.g2_0, ↓hS.g2_1, ↓hS.g2_2, ↓hS.g2_3, ↓hS.g2_4, ↓hS.g2_5, ↓hS.g2_6, ↓hS.g2_7, ↓hS.k2, ↓hS.g3_0, ↓hS.g3_1, ↓hS.g3_2, ↓hS.g3_3, ↓hS.g3_4, ↓hS.k3, ↓hS.g4_0, ↓hS.g4_1, ↓hS.g4_3, ↓hS.g4_5, ↓hS.g4_6, ↓hS.g4_7, ↓hS.g4_8, ↓hS.g4_9, ↓hS.g4_10, ↓hS.g4_12, ↓hS.g4_11, ↓hS.k4, ↓hS.g5_0, ↓hS.g5_1, ↓hS.g5_2, ↓hS.g5_3, ↓hS.g5_4, ↓hS.g5_5, ↓hS.g5_6, ↓hS.k5, ↓hS.g1_0, ↓hS.g1_1, ↓hS.g1_2, ↓hS.g1_3, ↓hS.g1_4, ↓hS.g1_5, ↓hS.g1_6, ↓hS.g1_7, ↓hS.k1, ↓hS.l3, ↓hS.n3, ↓hS.l26, ↓hS.n26, ↓hS.l5, ↓hS.n5, ↓hS.l12, ↓hS.n12, ↓hS.l6, ↓hS.n6, ↓hS.l10, ↓hS.n10, ↓hS.l11, ↓hS.n11, ↓hS.l13, ↓hS.n13, ↓hS.l14, ↓hS.n14, ↓hS.l16, ↓hS.n16, ↓hS.l24, ↓hS.n24, ↓hS.l27, ↓hS.n27, ↓hS.l28, ↓hS.n28, ↓hS.l2, ↓hS.n2, ↓CL, ↓e3c, ↓idx_rt_c hS c0 c1 hT.1.1, hT.2.1 x y hc.1.1 hc.1.2 hc.2.1 hc.2.2]
theorem tone_no (hI : CIc μ c u h tx fed fa) {x y : Int} (hc : ¬ isCe (h 0) x y) : FX6_tone 1 x y μ = TH 1 μ := by
  unfold FX6_tone BX6_tone_0
  rw [hI.1.1.k6, reqC_no hI hc]
  rfl
theorem inks_rt (hI : CIc μ c u h tx fed fa) {x y : Int} (hc : isCe (h 0) x y) : ∃ ν, FX6_inks 1 x y μ = RT (ikA (h 0) x y) ν ∧ RdP μ ν c u h tx fed fa := by
  obtain ⟨⟨hS, ⟨c0, c1⟩, ⟨a1, a2, a3⟩, u0, b, d⟩, hB, hP⟩ := id hI
  obtain ⟨ν, e1, hI2, hK, hF, -⟩ := upd_rt hI
  obtain ⟨⟨hS2, -, ⟨-, b2', -⟩, -, -, -⟩, -, -⟩ := id hI2
  have hr := hI2.1.cur.1
  have hT := hI2.1.cur.2
  have e1c : ∀ (K : Int → Mem → Rz) (X : Int → Int → Mem → Rz), CLX (FX2_update 4 (25 + 8 * c) μ) K X = K 0 ν := fun K X => by rw [e1]; rfl
  have e3c : ∀ (K : Int → Mem → Rz) (X : Int → Int → Mem → Rz), CLX (FX6_requireCell 1 x y μ) K X = K 0 μ := fun K X => by rw [reqC_ok hI hc]; rfl
  have hr1 := hr.1
  have hcc := cell_lt (show h 0 0 ≤ 16 by omega) (show h 0 1 ≤ 12 by omega) hc.1.1 hc.1.2 hc.2.1 hc.2.2
  refine ⟨ν, ?_, hI2, hK, hF⟩
  simp (disch := omega) only [FX6_inks, BX6_inks_0, ↓hS.g6_6 a2, ↓hS.g6_0, ↓hS.g6_1, ↓hS.g6_2, ↓hS.g6_3, ↓hS.g6_4, ↓hS.g6_5, ↓hS.g6_7, ↓hS.g6_8, ↓hS.k6, ↓hS.g2_0, ↓hS.g2_1, ↓hS.g2_2, ↓hS.g2_3, ↓hS.g2_4, ↓hS.g2_5, ↓hS.g2_6, ↓hS.g2_7, ↓hS.k2, ↓hS.g3_0, ↓hS.g3_1, ↓hS.g3_2, ↓hS.g3_3, ↓hS.g3_4, ↓hS.k3, ↓hS.g4_0, ↓hS.g4_1, ↓hS.g4_3, ↓hS.g4_5, ↓hS.g4_6, ↓hS.g4_7, ↓hS.g4_8, ↓hS.g4_9, ↓hS.g4_10, ↓hS.g4_12, ↓hS.g4_11, ↓hS.k4, ↓hS.g5_0, ↓hS.g5_1, ↓hS.g5_2, ↓hS.g5_3, ↓hS.g5_4, ↓hS.g5_5, ↓hS.g5_6, ↓hS.k5, ↓hS.g1_0, ↓hS.g1_1, ↓hS.g1_2, ↓hS.g1_3, ↓hS.g1_4, ↓hS.g1_5, ↓hS.g1_6, ↓hS.g1_7, ↓hS.k1, ↓hS.l3, ↓hS.n3, ↓hS.l26, ↓hS.n26, ↓hS.l5, ↓hS.n5, ↓hS.l12, ↓hS.n12, ↓hS.l6, ↓hS.n6, ↓hS.l10, ↓hS.n10, ↓hS.l11, ↓hS.n11, ↓hS.l13, ↓hS.n13, ↓hS.l14, ↓hS.n14, ↓hS.l16, ↓hS.n16, ↓hS.l24, ↓hS.n24, ↓hS.l27, ↓hS.n27, ↓hS.l28, ↓hS.n28, ↓hS.l2, ↓hS.n2, ↓CL, ↓e1c, ↓e3c, ↓hS2.g6_6 b2', ↓hS2.g6_0, ↓hS2.g6_1, ↓hS2.g6_2, ↓hS2.g6_3, ↓hS2.g6_4, ↓hS2.g6_5, ↓hS2.g6_7, ↓hS2.g6_8, ↓hS2.k6, ↓hS2.g2_0, ↓hS2.g2_1, ↓hS2.g2_2, ↓hS2.g2_3, ↓hS2.g2_4, ↓hS2.g2_5, ↓hS2.g2_6, ↓hS2.g2_7, ↓hS2.k2, ↓hS2.g3_0, ↓hS2.g3_1, ↓hS2.g3_2, ↓hS2.g3_3, ↓hS2.g3_4, ↓hS2.k3, ↓hS2.g4_0, ↓hS2.g4_1, ↓hS2.g4_3, ↓hS2.g4_5, ↓hS2.g4_6, ↓hS2.g4_7, ↓hS2.g4_8, ↓hS2.g4_9, ↓hS2.g4_10, ↓hS2.g4_12, ↓hS2.g4_11, ↓hS2.k4, ↓hS2.g5_0, ↓hS2.g5_1, ↓hS2.g5_2, ↓hS2.g5_3, ↓hS2.g5_4, ↓hS2.g5_5, ↓hS2.g5_6, ↓hS2.k5, ↓hS2.g1_0, ↓hS2.g1_1, ↓hS2.g1_2, ↓hS2.g1_3, ↓hS2.g1_4, ↓hS2.g1_5, ↓hS2.g1_6, ↓hS2.g1_7, ↓hS2.k1, ↓hS2.l3, ↓hS2.n3, ↓hS2.l26, ↓hS2.n26, ↓hS2.l5, ↓hS2.n5, ↓hS2.l12, ↓hS2.n12, ↓hS2.l6, ↓hS2.n6, ↓hS2.l10, ↓hS2.n10, ↓hS2.l11, ↓hS2.n11, ↓hS2.l13, ↓hS2.n13, ↓hS2.l14, ↓hS2.n14, ↓hS2.l16, ↓hS2.n16, ↓hS2.l24, ↓hS2.n24, ↓hS2.l27, ↓hS2.n27, ↓hS2.l28, ↓hS2.n28, ↓hS2.l2, ↓hS2.n2, ↓idx_rt_c hS2 c0 c1 hT.1.1, hK.2.1 x y hc.1.1 hc.1.2 hc.2.1 hc.2.2]
theorem inks_no (hI : CIc μ c u h tx fed fa) {x y : Int} (hc : ¬ isCe (h 0) x y) : FX6_inks 1 x y μ = TH 1 μ := by
  unfold FX6_inks BX6_inks_0
  rw [hI.1.1.k6, reqC_no hI hc]
  rfl
theorem why_rt (hI : CIc μ c u h tx fed fa) {p x y : Int} (hp : isPl (h 0) p) (hc : isCe (h 0) x y) : ∃ ν, FX6_why 1 p x y μ = RT (whyV (h 0) p x y) ν ∧ RdP μ ν c u h tx fed fa := by
  obtain ⟨⟨hS, ⟨c0, c1⟩, ⟨a1, a2, a3⟩, u0, b, d⟩, hB, hP⟩ := id hI
  obtain ⟨ν, e1, hI2, hK, hF, -⟩ := upd_rt hI
  obtain ⟨⟨hS2, -, ⟨-, b2', -⟩, -, -, -⟩, -, -⟩ := id hI2
  have hr := hI2.1.cur.1
  have hT := hI2.1.cur.2
  have e1c : ∀ (K : Int → Mem → Rz) (X : Int → Int → Mem → Rz), CLX (FX2_update 4 (25 + 8 * c) μ) K X = K 0 ν := fun K X => by rw [e1]; rfl
  have e2c : ∀ (K : Int → Mem → Rz) (X : Int → Int → Mem → Rz), CLX (FX6_requirePlate 1 p μ) K X = K 0 μ := fun K X => by rw [reqP_ok hI hp]; rfl
  have e3c : ∀ (K : Int → Mem → Rz) (X : Int → Int → Mem → Rz), CLX (FX6_requireCell 1 x y μ) K X = K 0 μ := fun K X => by rw [reqC_ok hI hc]; rfl
  have hr1 := hr.1
  have hr2 := hr.2.1
  have p4 : p < 4 := by omega
  have hcc := cell_lt (show h 0 0 ≤ 16 by omega) (show h 0 1 ≤ 12 by omega) hc.1.1 hc.1.2 hc.2.1 hc.2.2
  have e9 : b2 (bt (ν 10 (y * h 0 0 + x)) p = 1) = b2 (dotAt (h 0) p x y) := by
    rw [hK.2.1 x y hc.1.1 hc.1.2 hc.2.1 hc.2.2]
    by_cases e : bt (ikA (h 0) x y) p = 1
    · rw [b2_t e, b2_t (show dotAt (h 0) p x y from ⟨⟨hc.1.1, hc.1.2, hc.2.1, hc.2.2⟩, e⟩)]
    · rw [b2_f e, b2_f (fun k : dotAt (h 0) p x y => e k.2)]
  have e8 : bt (ν (28 + 8 * c) (y * h 0 0 + x)) p = bt (rO (h 0) p (14 + y)) x := by
    rw [(hT.2.2.1 x y hc.1.1 hc.1.2 hc.2.1 hc.2.2).2 p hp.1 p4, if_pos hp.2]
  refine ⟨ν, ?_, hI2, hK, hF⟩
  simp (disch := omega) only [FX6_why, BX6_why_0, BX6_why_85, ↓hS.g6_6 a2, ↓hS.g6_0, ↓hS.g6_1, ↓hS.g6_2, ↓hS.g6_3, ↓hS.g6_4, ↓hS.g6_5, ↓hS.g6_7, ↓hS.g6_8, ↓hS.k6, ↓hS.g2_0, ↓hS.g2_1, ↓hS.g2_2, ↓hS.g2_3, ↓hS.g2_4, ↓hS.g2_5, ↓hS.g2_6, ↓hS.g2_7, ↓hS.k2, ↓hS.g3_0, ↓hS.g3_1, ↓hS.g3_2, ↓hS.g3_3, ↓hS.g3_4, ↓hS.k3, ↓hS.g4_0, ↓hS.g4_1, ↓hS.g4_3, ↓hS.g4_5, ↓hS.g4_6, ↓hS.g4_7, ↓hS.g4_8, ↓hS.g4_9, ↓hS.g4_10, ↓hS.g4_12, ↓hS.g4_11, ↓hS.k4, ↓hS.g5_0, ↓hS.g5_1, ↓hS.g5_2, ↓hS.g5_3, ↓hS.g5_4, ↓hS.g5_5, ↓hS.g5_6, ↓hS.k5, ↓hS.g1_0, ↓hS.g1_1, ↓hS.g1_2, ↓hS.g1_3, ↓hS.g1_4, ↓hS.g1_5, ↓hS.g1_6, ↓hS.g1_7, ↓hS.k1, ↓hS.l3, ↓hS.n3, ↓hS.l26, ↓hS.n26, ↓hS.l5, ↓hS.n5, ↓hS.l12, ↓hS.n12, ↓hS.l6, ↓hS.n6, ↓hS.l10, ↓hS.n10, ↓hS.l11, ↓hS.n11, ↓hS.l13, ↓hS.n13, ↓hS.l14, ↓hS.n14, ↓hS.l16, ↓hS.n16, ↓hS.l24, ↓hS.n24, ↓hS.l27, ↓hS.n27, ↓hS.l28, ↓hS.n28, ↓hS.l2, ↓hS.n2, ↓CL, ↓e1c, ↓e2c, ↓e3c, ↓hS2.g6_6 b2', ↓hS2.g6_0, ↓hS2.g6_1, ↓hS2.g6_2, ↓hS2.g6_3, ↓hS2.g6_4, ↓hS2.g6_5, ↓hS2.g6_7, ↓hS2.g6_8, ↓hS2.k6, ↓hS2.g2_0, ↓hS2.g2_1, ↓hS2.g2_2, ↓hS2.g2_3, ↓hS2.g2_4, ↓hS2.g2_5, ↓hS2.g2_6, ↓hS2.g2_7, ↓hS2.k2, ↓hS2.g3_0, ↓hS2.g3_1, ↓hS2.g3_2, ↓hS2.g3_3, ↓hS2.g3_4, ↓hS2.k3, ↓hS2.g4_0, ↓hS2.g4_1, ↓hS2.g4_3, ↓hS2.g4_5, ↓hS2.g4_6, ↓hS2.g4_7, ↓hS2.g4_8, ↓hS2.g4_9, ↓hS2.g4_10, ↓hS2.g4_12, ↓hS2.g4_11, ↓hS2.k4, ↓hS2.g5_0, ↓hS2.g5_1, ↓hS2.g5_2, ↓hS2.g5_3, ↓hS2.g5_4, ↓hS2.g5_5, ↓hS2.g5_6, ↓hS2.k5, ↓hS2.g1_0, ↓hS2.g1_1, ↓hS2.g1_2, ↓hS2.g1_3, ↓hS2.g1_4, ↓hS2.g1_5, ↓hS2.g1_6, ↓hS2.g1_7, ↓hS2.k1, ↓hS2.l3, ↓hS2.n3, ↓hS2.l26, ↓hS2.n26, ↓hS2.l5, ↓hS2.n5, ↓hS2.l12, ↓hS2.n12, ↓hS2.l6, ↓hS2.n6, ↓hS2.l10, ↓hS2.n10, ↓hS2.l11, ↓hS2.n11, ↓hS2.l13, ↓hS2.n13, ↓hS2.l14, ↓hS2.n14, ↓hS2.l16, ↓hS2.n16, ↓hS2.l24, ↓hS2.n24, ↓hS2.l27, ↓hS2.n27, ↓hS2.l28, ↓hS2.n28, ↓hS2.l2, ↓hS2.n2, ↓idx_rt_c hS2 c0 c1 hT.1.1, ↓hasDot_rt_c hS2, e9, ↓isCleaned_rt_c hS2 c0 c1, e8, ↓isDark_rt_c hS2 c0 c1 hp.1 hp.2 hr hT (hK.2.2.2 p hp.1 hp.2) hK.1 hc.1.1 hc.1.2 hc.2.1 hc.2.2]
  unfold whyV
  by_cases q1 : dotAt (h 0) p x y
  · rw [b2_t q1, if_neg (by omega), if_pos q1]
  · rw [b2_f q1, if_pos rfl, if_neg q1]
    by_cases q2 : wiped (h 0) p x y
    · rw [b2_t q2, if_neg (by omega), if_pos q2]
    · rw [b2_f q2, if_pos rfl, if_neg q2]
      by_cases q3 : dark (h 0) p x y
      · rw [b2_t q3, if_neg (by omega), if_pos q3]
      · rw [b2_f q3, if_pos rfl, if_neg q3]
theorem why_no (hI : CIc μ c u h tx fed fa) {p x y : Int} (hp : ¬ (isPl (h 0) p ∧ isCe (h 0) x y)) : FX6_why 1 p x y μ = TH 1 μ := by
  unfold FX6_why BX6_why_0
  rw [hI.1.1.k6]
  by_cases e : isPl (h 0) p
  · rw [reqP_ok hI e]
    simp only [CL, ↓CLX_rt]
    rw [hI.1.1.k6, reqC_no hI (fun k => hp ⟨e, k⟩)]
    rfl
  · rw [reqP_no hI e]
    rfl
end RD2

