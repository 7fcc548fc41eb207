/-! the component's sheets in a ring, changes and undo -/
theorem ACP_of {src dst n m1 m2 : Int} {μ : Mem} {K : Mem → Rz} (h0 : 0 < dst) (hs : 0 < src) (hne : src ≠ dst) (k1 : μ src (-1) = 21) (k2 : μ dst (-1) = 21) (l1 : μ src (-2) = m1) (l2 : μ dst (-2) = m2) (n0 : 0 ≤ n) (n1 : n ≤ m1) (n2 : n ≤ m2) : ACP src 0 dst 0 n μ K = K (mCpy μ src 0 dst 0 n) := by
  unfold ACP
  rw [if_pos ⟨⟨h0, hs⟩, hne, k1, k2, by omega, by omega, n0, by omega, by omega⟩]
theorem mCpy_ne {μ : Mem} {src dst n z k : Int} (h : ¬ (z = dst ∧ 0 ≤ k ∧ k < n)) : mCpy μ src 0 dst 0 n z k = μ z k := by
  unfold mCpy
  rw [if_neg (by omega)]
theorem mCpy_at {μ : Mem} {src dst n k : Int} (h0 : 0 ≤ k) (h1 : k < n) : mCpy μ src 0 dst 0 n dst k = μ src k := by
  unfold mCpy
  rw [if_pos (by omega), show 0 + (k - 0) = k by omega]
section RING
variable {μ : Mem} {c d p : Int} {r : Row}
theorem pbecome_rt (hS : CSh μ) (c0 : 0 ≤ c) (c1 : c < 10) (d0 : 0 ≤ d) (d1 : d < 10) (hne : d ≠ c) (p0 : 0 ≤ p) (p1 : p < 4) : ∃ ν, FX1_become (29 + 8 * d + p) (29 + 8 * c + p) μ = RT 0 ν ∧ (∀ z k, ¬ (z = 29 + 8 * d + p ∧ 0 ≤ k) → ν z k = μ z k) ∧ ∀ k, 0 ≤ k → k < 8 → ν (29 + 8 * d + p) k = μ (29 + 8 * c + p) k := by
  refine ⟨mUp (mUp (mUp (mUp (mUp (mUp (mUp (mUp μ (29 + 8 * d + p) 0 (μ (29 + 8 * c + p) 0)) (29 + 8 * d + p) 1 (μ (29 + 8 * c + p) 1)) (29 + 8 * d + p) 2 (μ (29 + 8 * c + p) 2)) (29 + 8 * d + p) 3 (μ (29 + 8 * c + p) 3)) (29 + 8 * d + p) 4 (μ (29 + 8 * c + p) 4)) (29 + 8 * d + p) 5 (μ (29 + 8 * c + p) 5)) (29 + 8 * d + p) 6 (μ (29 + 8 * c + p) 6)) (29 + 8 * d + p) 7 (μ (29 + 8 * c + p) 7), ?_, fun z k h => ?_, fun k k0 k1 => ?_⟩
  · simp (disch := first | omega | exact hS | exact (CSh.up hS (by unfold CSt; omega)) | exact (CSh.up (CSh.up hS (by unfold CSt; omega)) (by unfold CSt; omega)) | exact (CSh.up (CSh.up (CSh.up hS (by unfold CSt; omega)) (by unfold CSt; omega)) (by unfold CSt; omega)) | exact (CSh.up (CSh.up (CSh.up (CSh.up hS (by unfold CSt; omega)) (by unfold CSt; omega)) (by unfold CSt; omega)) (by unfold CSt; omega)) | exact (CSh.up (CSh.up (CSh.up (CSh.up (CSh.up hS (by unfold CSt; omega)) (by unfold CSt; omega)) (by unfold CSt; omega)) (by unfold CSt; omega)) (by unfold CSt; omega)) | exact (CSh.up (CSh.up (CSh.up (CSh.up (CSh.up (CSh.up hS (by unfold CSt; omega)) (by unfold CSt; omega)) (by unfold CSt; omega)) (by unfold CSt; omega)) (by unfold CSt; omega)) (by unfold CSt; omega)) | exact (CSh.up (CSh.up (CSh.up (CSh.up (CSh.up (CSh.up (CSh.up hS (by unfold CSt; omega)) (by unfold CSt; omega)) (by unfold CSt; omega)) (by unfold CSt; omega)) (by unfold CSt; omega)) (by unfold CSt; omega)) (by unfold CSt; omega)) | exact (CSh.up (CSh.up (CSh.up (CSh.up (CSh.up (CSh.up (CSh.up (CSh.up hS (by unfold CSt; omega)) (by unfold CSt; omega)) (by unfold CSt; omega)) (by unfold CSt; omega)) (by unfold CSt; omega)) (by unfold CSt; omega)) (by unfold CSt; omega)) (by unfold CSt; omega)) | exact (CSh.up (CSh.up (CSh.up (CSh.up (CSh.up (CSh.up (CSh.up (CSh.up (CSh.up hS (by unfold CSt; omega)) (by unfold CSt; omega)) (by unfold CSt; omega)) (by unfold CSt; omega)) (by unfold CSt; omega)) (by unfold CSt; omega)) (by unfold CSt; omega)) (by unfold CSt; omega)) (by unfold CSt; omega))) only [FX1_become, BX1_become_0, ↓CSh.g6_0, ↓CSh.g6_1, ↓CSh.g6_2, ↓CSh.g6_3, ↓CSh.g6_4, ↓CSh.g6_5, ↓CSh.g6_7, ↓CSh.g6_8, ↓CSh.k6, ↓CSh.g2_0, ↓CSh.g2_1, ↓CSh.g2_2, ↓CSh.g2_3, ↓CSh.g2_4, ↓CSh.g2_5, ↓CSh.g2_6, ↓CSh.g2_7, ↓CSh.k2, ↓CSh.g3_0, ↓CSh.g3_1, ↓CSh.g3_2, ↓CSh.g3_3, ↓CSh.g3_4, ↓CSh.k3, ↓CSh.g4_0, ↓CSh.g4_1, ↓CSh.g4_3, ↓CSh.g4_5, ↓CSh.g4_6, ↓CSh.g4_7, ↓CSh.g4_8, ↓CSh.g4_9, ↓CSh.g4_10, ↓CSh.g4_12, ↓CSh.g4_11, ↓CSh.k4, ↓CSh.g5_0, ↓CSh.g5_1, ↓CSh.g5_2, ↓CSh.g5_3, ↓CSh.g5_4, ↓CSh.g5_5, ↓CSh.g5_6, ↓CSh.k5, ↓CSh.g1_0, ↓CSh.g1_1, ↓CSh.g1_2, ↓CSh.g1_3, ↓CSh.g1_4, ↓CSh.g1_5, ↓CSh.g1_6, ↓CSh.g1_7, ↓CSh.k1, ↓CSh.l3, ↓CSh.n3, ↓CSh.l26, ↓CSh.n26, ↓CSh.l5, ↓CSh.n5, ↓CSh.l12, ↓CSh.n12, ↓CSh.l6, ↓CSh.n6, ↓CSh.l10, ↓CSh.n10, ↓CSh.l11, ↓CSh.n11, ↓CSh.l13, ↓CSh.n13, ↓CSh.l14, ↓CSh.n14, ↓CSh.l16, ↓CSh.n16, ↓CSh.l24, ↓CSh.n24, ↓CSh.l27, ↓CSh.n27, ↓CSh.l28, ↓CSh.n28, ↓CSh.l2, ↓CSh.n2, ↓CSh.p6_1, ↓CSh.z6_1, ↓CSh.p6_2, ↓CSh.z6_2, ↓CSh.p6_4, ↓CSh.z6_4, ↓CSh.p6_5, ↓CSh.z6_5, ↓CSh.p6_6, ↓CSh.p2_6, ↓CSh.z2_6, ↓CSh.p2_7, ↓CSh.z2_7, ↓CSh.p3_0, ↓CSh.z3_0, ↓CSh.p3_1, ↓CSh.z3_1, ↓CSh.p3_2, ↓CSh.z3_2, ↓CSh.p3_3, ↓CSh.z3_3, ↓CSh.p4_0, ↓CSh.z4_0, ↓CSh.p4_1, ↓CSh.z4_1, ↓CSh.p4_3, ↓CSh.z4_3, ↓CSh.p4_5, ↓CSh.z4_5, ↓CSh.p4_6, ↓CSh.z4_6, ↓CSh.p4_7, ↓CSh.z4_7, ↓CSh.p4_8, ↓CSh.z4_8, ↓CSh.p4_9, ↓CSh.z4_9, ↓CSh.p4_10, ↓CSh.z4_10, ↓CSh.p4_12, ↓CSh.z4_12, ↓CSh.p4_2, ↓CSh.p4_4, ↓CSh.p5_0, ↓CSh.z5_0, ↓CSh.p5_1, ↓CSh.z5_1, ↓CSh.p5_2, ↓CSh.z5_2, ↓CSh.p5_3, ↓CSh.z5_3, ↓CSh.p1_0, ↓CSh.z1_0, ↓CSh.p1_1, ↓CSh.z1_1, ↓CSh.p1_2, ↓CSh.z1_2, ↓CSh.p1_3, ↓CSh.z1_3, ↓CSh.p1_4, ↓CSh.z1_4, ↓CSh.p1_5, ↓CSh.z1_5, ↓CSh.p1_6, ↓CSh.z1_6, ↓CSh.p1_7, ↓CSh.z1_7, ↓CSh.s6, ↓CSh.s10, ↓CSh.s11, ↓CSh.s13, ↓CSh.s14, ↓CSh.s16, ↓CSh.s24, ↓CSh.s27, ↓CSh.s28, ↓CSh.s2, mUp_ne]
  · simp (disch := omega) only [mUp_ne]
  · rcases (show k = 0 ∨ k = 1 ∨ k = 2 ∨ k = 3 ∨ k = 4 ∨ k = 5 ∨ k = 6 ∨ k = 7 by omega) with rfl | rfl | rfl | rfl | rfl | rfl | rfl | rfl <;> simp (disch := omega) only [mUp_ne, mUp_same]
theorem become_rt (hS : CSh μ) (c0 : 0 ≤ c) (c1 : c < 10) (d0 : 0 ≤ d) (d1 : d < 10) (hne : d ≠ c) (hr : okRow r) (hT : Sht μ c r) : ∃ ν, FX5_become (25 + 8 * d) (25 + 8 * c) μ = RT 0 ν ∧ CSh ν ∧ (∀ z k, ¬ (25 + 8 * d ≤ z ∧ z ≤ 32 + 8 * d ∧ 0 ≤ k) → ν z k = μ z k) ∧ Sht ν d r := by
  have hr1 := hr.1
  have hr2 := hr.2.1
  obtain ⟨μ1, e1, s1, f1, v0, v1, v2, v3⟩ : ∃ μ1, FX5_become (25 + 8 * d) (25 + 8 * c) μ = LX5_become_34 FU (25 + 8 * d) (25 + 8 * c) 0 μ1 ∧ CSh μ1 ∧ (∀ z k, ¬ (z = 25 + 8 * d ∧ 0 ≤ k ∧ k ≤ 3) → μ1 z k = μ z k) ∧ μ1 (25 + 8 * d) 0 = r 0 ∧ μ1 (25 + 8 * d) 1 = r 1 ∧ μ1 (25 + 8 * d) 2 = r 3 ∧ μ1 (25 + 8 * d) 3 = r 2 := by
    refine ⟨mUp (mUp (mUp (mUp μ (25 + 8 * d) 0 (r 0)) (25 + 8 * d) 1 (r 1)) (25 + 8 * d) 2 (r 3)) (25 + 8 * d) 3 (r 2), ?_, ?_, fun z k h => ?_, ?_, ?_, ?_, ?_⟩
    · simp (disch := first | omega | exact hS | exact (CSh.up hS (by unfold CSt; omega)) | exact (CSh.up (CSh.up hS (by unfold CSt; omega)) (by unfold CSt; omega)) | exact (CSh.up (CSh.up (CSh.up hS (by unfold CSt; omega)) (by unfold CSt; omega)) (by unfold CSt; omega)) | exact (CSh.up (CSh.up (CSh.up (CSh.up hS (by unfold CSt; omega)) (by unfold CSt; omega)) (by unfold CSt; omega)) (by unfold CSt; omega)) | exact (CSh.up (CSh.up (CSh.up (CSh.up (CSh.up hS (by unfold CSt; omega)) (by unfold CSt; omega)) (by unfold CSt; omega)) (by unfold CSt; omega)) (by unfold CSt; omega)) | exact (CSh.up (CSh.up (CSh.up (CSh.up (CSh.up (CSh.up hS (by unfold CSt; omega)) (by unfold CSt; omega)) (by unfold CSt; omega)) (by unfold CSt; omega)) (by unfold CSt; omega)) (by unfold CSt; omega)) | exact (CSh.up (CSh.up (CSh.up (CSh.up (CSh.up (CSh.up (CSh.up hS (by unfold CSt; omega)) (by unfold CSt; omega)) (by unfold CSt; omega)) (by unfold CSt; omega)) (by unfold CSt; omega)) (by unfold CSt; omega)) (by unfold CSt; omega)) | exact (CSh.up (CSh.up (CSh.up (CSh.up (CSh.up (CSh.up (CSh.up (CSh.up hS (by unfold CSt; omega)) (by unfold CSt; omega)) (by unfold CSt; omega)) (by unfold CSt; omega)) (by unfold CSt; omega)) (by unfold CSt; omega)) (by unfold CSt; omega)) (by unfold CSt; omega)) | exact (CSh.up (CSh.up (CSh.up (CSh.up (CSh.up (CSh.up (CSh.up (CSh.up (CSh.up hS (by unfold CSt; omega)) (by unfold CSt; omega)) (by unfold CSt; omega)) (by unfold CSt; omega)) (by unfold CSt; omega)) (by unfold CSt; omega)) (by unfold CSt; omega)) (by unfold CSt; omega)) (by unfold CSt; omega))) only [FX5_become, BX5_become_0, ↓CSh.g6_0, ↓CSh.g6_1, ↓CSh.g6_2, ↓CSh.g6_3, ↓CSh.g6_4, ↓CSh.g6_5, ↓CSh.g6_7, ↓CSh.g6_8, ↓CSh.k6, ↓CSh.g2_0, ↓CSh.g2_1, ↓CSh.g2_2, ↓CSh.g2_3, ↓CSh.g2_4, ↓CSh.g2_5, ↓CSh.g2_6, ↓CSh.g2_7, ↓CSh.k2, ↓CSh.g3_0, ↓CSh.g3_1, ↓CSh.g3_2, ↓CSh.g3_3, ↓CSh.g3_4, ↓CSh.k3, ↓CSh.g4_0, ↓CSh.g4_1, ↓CSh.g4_3, ↓CSh.g4_5, ↓CSh.g4_6, ↓CSh.g4_7, ↓CSh.g4_8, ↓CSh.g4_9, ↓CSh.g4_10, ↓CSh.g4_12, ↓CSh.g4_11, ↓CSh.k4, ↓CSh.g5_0, ↓CSh.g5_1, ↓CSh.g5_2, ↓CSh.g5_3, ↓CSh.g5_4, ↓CSh.g5_5, ↓CSh.g5_6, ↓CSh.k5, ↓CSh.g1_0, ↓CSh.g1_1, ↓CSh.g1_2, ↓CSh.g1_3, ↓CSh.g1_4, ↓CSh.g1_5, ↓CSh.g1_6, ↓CSh.g1_7, ↓CSh.k1, ↓CSh.l3, ↓CSh.n3, ↓CSh.l26, ↓CSh.n26, ↓CSh.l5, ↓CSh.n5, ↓CSh.l12, ↓CSh.n12, ↓CSh.l6, ↓CSh.n6, ↓CSh.l10, ↓CSh.n10, ↓CSh.l11, ↓CSh.n11, ↓CSh.l13, ↓CSh.n13, ↓CSh.l14, ↓CSh.n14, ↓CSh.l16, ↓CSh.n16, ↓CSh.l24, ↓CSh.n24, ↓CSh.l27, ↓CSh.n27, ↓CSh.l28, ↓CSh.n28, ↓CSh.l2, ↓CSh.n2, ↓CSh.p6_1, ↓CSh.z6_1, ↓CSh.p6_2, ↓CSh.z6_2, ↓CSh.p6_4, ↓CSh.z6_4, ↓CSh.p6_5, ↓CSh.z6_5, ↓CSh.p6_6, ↓CSh.p2_6, ↓CSh.z2_6, ↓CSh.p2_7, ↓CSh.z2_7, ↓CSh.p3_0, ↓CSh.z3_0, ↓CSh.p3_1, ↓CSh.z3_1, ↓CSh.p3_2, ↓CSh.z3_2, ↓CSh.p3_3, ↓CSh.z3_3, ↓CSh.p4_0, ↓CSh.z4_0, ↓CSh.p4_1, ↓CSh.z4_1, ↓CSh.p4_3, ↓CSh.z4_3, ↓CSh.p4_5, ↓CSh.z4_5, ↓CSh.p4_6, ↓CSh.z4_6, ↓CSh.p4_7, ↓CSh.z4_7, ↓CSh.p4_8, ↓CSh.z4_8, ↓CSh.p4_9, ↓CSh.z4_9, ↓CSh.p4_10, ↓CSh.z4_10, ↓CSh.p4_12, ↓CSh.z4_12, ↓CSh.p4_2, ↓CSh.p4_4, ↓CSh.p5_0, ↓CSh.z5_0, ↓CSh.p5_1, ↓CSh.z5_1, ↓CSh.p5_2, ↓CSh.z5_2, ↓CSh.p5_3, ↓CSh.z5_3, ↓CSh.p1_0, ↓CSh.z1_0, ↓CSh.p1_1, ↓CSh.z1_1, ↓CSh.p1_2, ↓CSh.z1_2, ↓CSh.p1_3, ↓CSh.z1_3, ↓CSh.p1_4, ↓CSh.z1_4, ↓CSh.p1_5, ↓CSh.z1_5, ↓CSh.p1_6, ↓CSh.z1_6, ↓CSh.p1_7, ↓CSh.z1_7, ↓CSh.s6, ↓CSh.s10, ↓CSh.s11, ↓CSh.s13, ↓CSh.s14, ↓CSh.s16, ↓CSh.s24, ↓CSh.s27, ↓CSh.s28, ↓CSh.s2, mUp_ne, hT.1.1, hT.1.2.1, hT.1.2.2.1, hT.1.2.2.2]
    · exact CSh.up (CSh.up (CSh.up (CSh.up hS (by unfold CSt; omega)) (by unfold CSt; omega)) (by unfold CSt; omega)) (by unfold CSt; omega)
    · simp (disch := omega) only [mUp_ne]
    · simp (disch := omega) only [mUp_ne, mUp_same]
    · simp (disch := omega) only [mUp_ne, mUp_same]
    · simp (disch := omega) only [mUp_ne, mUp_same]
    · simp (disch := omega) only [mUp_same]
  rw [e1]
  refine lpR (fun n i s => LX5_become_34 n (25 + 8 * d) (25 + 8 * c) i s) (fun i ν => 0 ≤ i ∧ (∀ z k, ¬ (29 + 8 * d ≤ z ∧ z ≤ 32 + 8 * d ∧ 0 ≤ k) → ν z k = μ1 z k) ∧ ∀ p, 0 ≤ p → p < i → ∀ k, 0 ≤ k → k < 8 → ν (29 + 8 * d + p) k = μ (29 + 8 * c + p) k) (r 2) (fun R => ∃ ν, R = RT 0 ν ∧ CSh ν ∧ (∀ z k, ¬ (25 + 8 * d ≤ z ∧ z ≤ 32 + 8 * d ∧ 0 ≤ k) → ν z k = μ z k) ∧ Sht ν d r) (fun n i s i1 hI => ?_) (fun n s hI => ?_) FU 0 μ1 (by omega) (by rw [show ((FU : Nat) : Int) = 20000 from rfl]; omega) ⟨Int.le_refl _, fun _ _ _ => rfl, fun p p0 p1 => by omega⟩
  · obtain ⟨i0, h1, h2⟩ := hI
    have hS2 : CSh s := s1.fr fun z k hs => h1 z k (by unfold CSt at hs; omega)
    have g : s (25 + 8 * d) 3 = r 2 := by rw [h1 _ _ (by omega), v3]
    have hi : ¬ r 2 ≤ i := by omega
    obtain ⟨ν, q1, q2, q3⟩ := pbecome_rt (c := c) (d := d) hS2 c0 c1 d0 d1 hne i0 (by omega)
    refine ⟨ν, ⟨by omega, fun z k hz => by rw [q2 _ _ (by omega), h1 z k hz], fun p p0 p1 k k0 k1 => ?_⟩, ?_⟩
    · by_cases e : p = i
      · subst e
        rw [q3 k k0 k1, h1 _ _ (by omega), f1 _ _ (by omega)]
      · rw [q2 _ _ (by omega)]
        exact h2 p p0 (by omega) k k0 k1
    · simp (disch := omega) only [LX5_become_34, BX5_become_34, ↓hS2.g6_0, ↓hS2.g6_1, ↓hS2.g6_2, ↓hS2.g6_3, ↓hS2.g6_4, ↓hS2.g6_5, ↓hS2.g6_7, ↓hS2.g6_8, ↓hS2.k6, ↓hS2.g2_0, ↓hS2.g2_1, ↓hS2.g2_2, ↓hS2.g2_3, ↓hS2.g2_4, ↓hS2.g2_5, ↓hS2.g2_6, ↓hS2.g2_7, ↓hS2.k2, ↓hS2.g3_0, ↓hS2.g3_1, ↓hS2.g3_2, ↓hS2.g3_3, ↓hS2.g3_4, ↓hS2.k3, ↓hS2.g4_0, ↓hS2.g4_1, ↓hS2.g4_3, ↓hS2.g4_5, ↓hS2.g4_6, ↓hS2.g4_7, ↓hS2.g4_8, ↓hS2.g4_9, ↓hS2.g4_10, ↓hS2.g4_12, ↓hS2.g4_11, ↓hS2.k4, ↓hS2.g5_0, ↓hS2.g5_1, ↓hS2.g5_2, ↓hS2.g5_3, ↓hS2.g5_4, ↓hS2.g5_5, ↓hS2.g5_6, ↓hS2.k5, ↓hS2.g1_0, ↓hS2.g1_1, ↓hS2.g1_2, ↓hS2.g1_3, ↓hS2.g1_4, ↓hS2.g1_5, ↓hS2.g1_6, ↓hS2.g1_7, ↓hS2.k1, ↓hS2.l3, ↓hS2.n3, ↓hS2.l26, ↓hS2.n26, ↓hS2.l5, ↓hS2.n5, ↓hS2.l12, ↓hS2.n12, ↓hS2.l6, ↓hS2.n6, ↓hS2.l10, ↓hS2.n10, ↓hS2.l11, ↓hS2.n11, ↓hS2.l13, ↓hS2.n13, ↓hS2.l14, ↓hS2.n14, ↓hS2.l16, ↓hS2.n16, ↓hS2.l24, ↓hS2.n24, ↓hS2.l27, ↓hS2.n27, ↓hS2.l28, ↓hS2.n28, ↓hS2.l2, ↓hS2.n2, g, hi, ↓reduceIte, q1, CLX_rt, CL, w32_eq]
  · obtain ⟨i0, h1, h2⟩ := hI
    have hS2 : CSh s := s1.fr fun z k hs => h1 z k (by unfold CSt at hs; omega)
    have g : s (25 + 8 * d) 3 = r 2 := by rw [h1 _ _ (by omega), v3]
    have kc := hS2.2.2.2.2.2.2.2.2.1 c c0 c1
    have kd := hS2.2.2.2.2.2.2.2.2.1 d d0 d1
    have hS3 : CSh (mCpy s (27 + 8 * c) 0 (27 + 8 * d) 0 192) := hS2.fr fun z k hs => mCpy_ne (by unfold CSt at hs; omega)
    have kc3 := hS3.2.2.2.2.2.2.2.2.1 c c0 c1
    have kd3 := hS3.2.2.2.2.2.2.2.2.1 d d0 d1
    have e2 : LX5_become_34 (n + 1) (25 + 8 * d) (25 + 8 * c) (r 2) s = RT 0 (mCpy (mCpy s (27 + 8 * c) 0 (27 + 8 * d) 0 192) (28 + 8 * c) 0 (28 + 8 * d) 0 192) := by
      simp (disch := omega) only [LX5_become_34, BX5_become_34, ↓hS2.g6_0, ↓hS2.g6_1, ↓hS2.g6_2, ↓hS2.g6_3, ↓hS2.g6_4, ↓hS2.g6_5, ↓hS2.g6_7, ↓hS2.g6_8, ↓hS2.k6, ↓hS2.g2_0, ↓hS2.g2_1, ↓hS2.g2_2, ↓hS2.g2_3, ↓hS2.g2_4, ↓hS2.g2_5, ↓hS2.g2_6, ↓hS2.g2_7, ↓hS2.k2, ↓hS2.g3_0, ↓hS2.g3_1, ↓hS2.g3_2, ↓hS2.g3_3, ↓hS2.g3_4, ↓hS2.k3, ↓hS2.g4_0, ↓hS2.g4_1, ↓hS2.g4_3, ↓hS2.g4_5, ↓hS2.g4_6, ↓hS2.g4_7, ↓hS2.g4_8, ↓hS2.g4_9, ↓hS2.g4_10, ↓hS2.g4_12, ↓hS2.g4_11, ↓hS2.k4, ↓hS2.g5_0, ↓hS2.g5_1, ↓hS2.g5_2, ↓hS2.g5_3, ↓hS2.g5_4, ↓hS2.g5_5, ↓hS2.g5_6, ↓hS2.k5, ↓hS2.g1_0, ↓hS2.g1_1, ↓hS2.g1_2, ↓hS2.g1_3, ↓hS2.g1_4, ↓hS2.g1_5, ↓hS2.g1_6, ↓hS2.g1_7, ↓hS2.k1, ↓hS2.l3, ↓hS2.n3, ↓hS2.l26, ↓hS2.n26, ↓hS2.l5, ↓hS2.n5, ↓hS2.l12, ↓hS2.n12, ↓hS2.l6, ↓hS2.n6, ↓hS2.l10, ↓hS2.n10, ↓hS2.l11, ↓hS2.n11, ↓hS2.l13, ↓hS2.n13, ↓hS2.l14, ↓hS2.n14, ↓hS2.l16, ↓hS2.n16, ↓hS2.l24, ↓hS2.n24, ↓hS2.l27, ↓hS2.n27, ↓hS2.l28, ↓hS2.n28, ↓hS2.l2, ↓hS2.n2, g, Int.le_refl, ↓reduceIte]
      rw [ACP_of (by omega) (by omega) (by omega) kc.2.2.2.2.2.2.1 kd.2.2.2.2.2.2.1 kc.2.2.2.2.2.2.2.1 kd.2.2.2.2.2.2.2.1 (by omega) (by omega) (by omega)]
      simp (disch := omega) only [↓hS3.g6_0, ↓hS3.g6_1, ↓hS3.g6_2, ↓hS3.g6_3, ↓hS3.g6_4, ↓hS3.g6_5, ↓hS3.g6_7, ↓hS3.g6_8, ↓hS3.k6, ↓hS3.g2_0, ↓hS3.g2_1, ↓hS3.g2_2, ↓hS3.g2_3, ↓hS3.g2_4, ↓hS3.g2_5, ↓hS3.g2_6, ↓hS3.g2_7, ↓hS3.k2, ↓hS3.g3_0, ↓hS3.g3_1, ↓hS3.g3_2, ↓hS3.g3_3, ↓hS3.g3_4, ↓hS3.k3, ↓hS3.g4_0, ↓hS3.g4_1, ↓hS3.g4_3, ↓hS3.g4_5, ↓hS3.g4_6, ↓hS3.g4_7, ↓hS3.g4_8, ↓hS3.g4_9, ↓hS3.g4_10, ↓hS3.g4_12, ↓hS3.g4_11, ↓hS3.k4, ↓hS3.g5_0, ↓hS3.g5_1, ↓hS3.g5_2, ↓hS3.g5_3, ↓hS3.g5_4, ↓hS3.g5_5, ↓hS3.g5_6, ↓hS3.k5, ↓hS3.g1_0, ↓hS3.g1_1, ↓hS3.g1_2, ↓hS3.g1_3, ↓hS3.g1_4, ↓hS3.g1_5, ↓hS3.g1_6, ↓hS3.g1_7, ↓hS3.k1, ↓hS3.l3, ↓hS3.n3, ↓hS3.l26, ↓hS3.n26, ↓hS3.l5, ↓hS3.n5, ↓hS3.l12, ↓hS3.n12, ↓hS3.l6, ↓hS3.n6, ↓hS3.l10, ↓hS3.n10, ↓hS3.l11, ↓hS3.n11, ↓hS3.l13, ↓hS3.n13, ↓hS3.l14, ↓hS3.n14, ↓hS3.l16, ↓hS3.n16, ↓hS3.l24, ↓hS3.n24, ↓hS3.l27, ↓hS3.n27, ↓hS3.l28, ↓hS3.n28, ↓hS3.l2, ↓hS3.n2]
      rw [ACP_of (by omega) (by omega) (by omega) kc3.2.2.2.2.2.2.2.2.1 kd3.2.2.2.2.2.2.2.2.1 kc3.2.2.2.2.2.2.2.2.2 kd3.2.2.2.2.2.2.2.2.2 (by omega) (by omega) (by omega)]
    have hfr : ∀ z k, ¬ (25 + 8 * d ≤ z ∧ z ≤ 32 + 8 * d ∧ 0 ≤ k) → mCpy (mCpy s (27 + 8 * c) 0 (27 + 8 * d) 0 192) (28 + 8 * c) 0 (28 + 8 * d) 0 192 z k = μ z k := fun z k hz => by
      rw [mCpy_ne (by omega), mCpy_ne (by omega), h1 _ _ (by omega), f1 _ _ (by omega)]
    refine ⟨_, e2, hS3.fr fun z k hs => mCpy_ne (by unfold CSt at hs; omega), hfr, ⟨?_, ?_, ?_, ?_⟩, fun x y x0 x1 y0 y1 => ?_, fun x y x0 x1 y0 y1 => ?_, fun p p0 p1 => ?_⟩
    · rw [mCpy_ne (by omega), mCpy_ne (by omega), h1 _ _ (by omega), v0]
    · rw [mCpy_ne (by omega), mCpy_ne (by omega), h1 _ _ (by omega), v1]
    · rw [mCpy_ne (by omega), mCpy_ne (by omega), h1 _ _ (by omega), v2]
    · rw [mCpy_ne (by omega), mCpy_ne (by omega), h1 _ _ (by omega), v3]
    · have hc := cell_lt (show r 0 ≤ 16 by omega) (show r 1 ≤ 12 by omega) x0 x1 y0 y1
      rw [mCpy_ne (by omega), mCpy_at hc.2.2.1 (by omega), h1 _ _ (by omega), f1 _ _ (by omega)]
      exact hT.2.1 x y x0 x1 y0 y1
    · have hc := cell_lt (show r 0 ≤ 16 by omega) (show r 1 ≤ 12 by omega) x0 x1 y0 y1
      rw [mCpy_at hc.2.2.1 (by omega), mCpy_ne (by omega), h1 _ _ (by omega), f1 _ _ (by omega)]
      exact hT.2.2.1 x y x0 x1 y0 y1
    · refine (hT.2.2.2 p p0 p1).fr (fun k k0 k1 => ?_) (fun a k a0 a1 => hfr a k (by omega)) (by rw [hfr _ _ (by omega)]; exact Int.le_refl _)
      rw [mCpy_ne (by omega), mCpy_ne (by omega)]
      exact h2 p p0 p1 k k0 k1
end RING
/-- the ring: c the place in use, u how many can be undone, h the rows, the latest first -/
def Cc (μ : Mem) (c u : Int) (h : Int → Row) : Prop := CSh μ ∧ (0 ≤ c ∧ c < 10) ∧ (μ 1 4 = c ∧ μ 1 6 = 25 + 8 * c ∧ μ 1 5 = u) ∧ (0 ≤ u ∧ u ≤ 8) ∧ (∀ j, 0 ≤ j → j ≤ u → okRow (h j) ∧ Sht μ ((c - j) % 10) (h j)) ∧ 105 ≤ μ 0 0
def CB (μ : Mem) (tx : Int → Int) (fed fa : Int) : Prop := (0 ≤ fed ∧ fed ≤ 600) ∧ (μ 1 1 = fed ∧ μ 1 2 = fa ∧ i32 fa) ∧ ∀ k, 0 ≤ k → k < fed → μ 2 k = w8 (tx k)
/-- the component stands for: u changes to undo, the rows h, the text tx of fed bytes, the error's place fa -/
def CIc (μ : Mem) (c u : Int) (h : Int → Row) (tx : Int → Int) (fed fa : Int) : Prop := Cc μ c u h ∧ CB μ tx fed fa ∧ CPr μ (h 0)
def CInv (μ : Mem) (u : Int) (h : Int → Row) (tx : Int → Int) (fed fa : Int) : Prop := ∃ c, CIc μ c u h tx fed fa
/-- what calls of the component leave as it is, and how much they make -/
def CFr (μ ν : Mem) : Prop := (∀ a k, a < 0 ∨ (a = 0 ∧ k = 3) → ν a k = μ a k) ∧ (μ 0 0 ≤ ν 0 0 ∧ ν 0 1 ≤ μ 0 1 + 10 ∧ ν 0 2 ≤ μ 0 2 + 3000)
def push (r : Row) (h : Int → Row) : Int → Row := fun j => if j = 0 then r else h (j - 1)
def uUp (u : Int) : Int := mn (u + 1) 8
theorem mn_le {a b : Int} : mn a b ≤ a ∧ mn a b ≤ b ∧ (mn a b = a ∨ mn a b = b) := by
  unfold mn
  split <;> omega
theorem Cc.cur {μ : Mem} {c u : Int} {h : Int → Row} (hI : Cc μ c u h) : okRow (h 0) ∧ Sht μ c (h 0) := by
  have h1 := hI.2.2.2.2.1 0 (Int.le_refl _) hI.2.2.2.1.1
  rw [Int.sub_zero, Int.emod_eq_of_lt hI.2.1.1 hI.2.1.2] at h1
  exact h1
theorem Cc.fr {μ ν : Mem} {c u : Int} {h : Int → Row} (hI : Cc μ c u h) (hS : CSh ν) (f1 : ∀ k, 0 ≤ k → ν 1 k = μ 1 k) (f2 : ∀ a k, 25 ≤ a → a ≤ 104 → 0 ≤ k → ν a k = μ a k) (f3 : ∀ a k, 105 ≤ a → a < μ 0 0 → ν a k = μ a k) (f4 : μ 0 0 ≤ ν 0 0) : Cc ν c u h := by
  obtain ⟨s, ⟨c0, c1⟩, ⟨a1, a2, a3⟩, u0, b, d⟩ := hI
  refine ⟨hS, ⟨c0, c1⟩, ⟨by rw [f1 _ (by omega), a1], by rw [f1 _ (by omega), a2], by rw [f1 _ (by omega), a3]⟩, u0, fun j j0 j1 => ⟨(b j j0 j1).1, (b j j0 j1).2.fr (b j j0 j1).1 (fun a k h1 h2 h3 => f2 a k (by omega) (by omega) h3) f3 f4⟩, by omega⟩

