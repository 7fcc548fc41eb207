/-! tones and dots are worked out -/
section UPD
variable {μ : Mem} {c p : Int} {r : Row}
theorem takeTones_rt (hS : CSh μ) (c0 : 0 ≤ c) (c1 : c < 10) (p0 : 0 ≤ p) (p1 : p < r 2) (hr : okRow r) (hT : Sht μ c r) : ∃ ν, FX2_takeTones 4 (25 + 8 * c) p μ = RT 0 ν ∧ (∀ z k, ¬ ((z = 6 + p ∨ z = 14) ∧ 0 ≤ k) → ν z k = μ z k) ∧ ∀ x y, 0 ≤ x → x < r 0 → 0 ≤ y → y < r 1 → ν (6 + p) (y * r 0 + x) = tnOn r p x y := by
  have hr1 := hr.1
  have hr2 := hr.2.1
  have hpl := hT.2.2.2 p p0 p1
  unfold FX2_takeTones BX2_takeTones_0
  simp (disch := omega) only [↓hS.g6_0, ↓hS.g6_1, ↓hS.g6_2, ↓hS.g6_3, ↓hS.g6_4, ↓hS.g6_5, ↓hS.g6_7, ↓hS.g6_8, ↓hS.k6, ↓hS.g2_0, ↓hS.g2_1, ↓hS.g2_2, ↓hS.g2_3, ↓hS.g2_4, ↓hS.g2_5, ↓hS.g2_6, ↓hS.g2_7, ↓hS.k2, ↓hS.g3_0, ↓hS.g3_1, ↓hS.g3_2, ↓hS.g3_3, ↓hS.g3_4, ↓hS.k3, ↓hS.g4_0, ↓hS.g4_1, ↓hS.g4_3, ↓hS.g4_5, ↓hS.g4_6, ↓hS.g4_7, ↓hS.g4_8, ↓hS.g4_9, ↓hS.g4_10, ↓hS.g4_12, ↓hS.g4_11, ↓hS.k4, ↓hS.g5_0, ↓hS.g5_1, ↓hS.g5_2, ↓hS.g5_3, ↓hS.g5_4, ↓hS.g5_5, ↓hS.g5_6, ↓hS.k5, ↓hS.g1_0, ↓hS.g1_1, ↓hS.g1_2, ↓hS.g1_3, ↓hS.g1_4, ↓hS.g1_5, ↓hS.g1_6, ↓hS.g1_7, ↓hS.k1, ↓hS.l3, ↓hS.n3, ↓hS.l26, ↓hS.n26, ↓hS.l5, ↓hS.n5, ↓hS.l12, ↓hS.n12, ↓hS.l6, ↓hS.n6, ↓hS.l10, ↓hS.n10, ↓hS.l11, ↓hS.n11, ↓hS.l13, ↓hS.n13, ↓hS.l14, ↓hS.n14, ↓hS.l16, ↓hS.n16, ↓hS.l24, ↓hS.n24, ↓hS.l27, ↓hS.n27, ↓hS.l28, ↓hS.n28, ↓hS.l2, ↓hS.n2]
  refine dblR (fun n y0 y1 y2 y3 y4 y5 ν => LX2_takeTones_21 n y0 y1 y2 y3 y4 y5 ν) (fun k s y => k 4 (25 + 8 * c) p (μ (29 + 8 * c + p) 7) (6 + p) y s) (fun k n s y x => LX2_takeTones_33 k n 4 (25 + 8 * c) p (μ (29 + 8 * c + p) 7) (6 + p) y x s) (r 0) (r 1) (fun x y ν => (∀ z k, ¬ ((z = 6 + p ∨ z = 14) ∧ 0 ≤ k) → ν z k = μ z k) ∧ ∀ x' y', 0 ≤ x' → x' < r 0 → 0 ≤ y' → y' < r 1 → (y' < y ∨ (y' = y ∧ x' < x)) → ν (6 + p) (y' * r 0 + x') = tnOn r p x' y') (fun R => ∃ ν, R = RT 0 ν ∧ (∀ z k, ¬ ((z = 6 + p ∨ z = 14) ∧ 0 ≤ k) → ν z k = μ z k) ∧ ∀ x y, 0 ≤ x → x < r 0 → 0 ≤ y → y < r 1 → ν (6 + p) (y * r 0 + x) = tnOn r p x y) (by omega) (by omega) (fun n s y y0 y1 hI => ?_) (fun n s hI => ?_) (fun k n s y x y0 y1 x0 x1 hI => ?_) (fun k n s y y0 y1 hI => ?_) FU 0 μ (Int.le_refl _) (by omega) (by rw [show ((FU : Nat) : Int) = 20000 from rfl]; omega) ⟨fun _ _ _ => rfl, fun x' y' _ _ _ _ h => by omega⟩
  · have hS2 : CSh s := hS.fr fun z k hs => hI.1 z k (by unfold CSt at hs; omega)
    have g : s (25 + 8 * c) 1 = r 1 := by rw [hI.1 _ _ (by omega), hT.1.2.1]
    have h : ¬ r 1 ≤ y := by omega
    simp (disch := omega) only [LX2_takeTones_21, BX2_takeTones_21, ↓hS2.g6_0, ↓hS2.g6_1, ↓hS2.g6_2, ↓hS2.g6_3, ↓hS2.g6_4, ↓hS2.g6_5, ↓hS2.g6_7, ↓hS2.g6_8, ↓hS2.k6, ↓hS2.g2_0, ↓hS2.g2_1, ↓hS2.g2_2, ↓hS2.g2_3, ↓hS2.g2_4, ↓hS2.g2_5, ↓hS2.g2_6, ↓hS2.g2_7, ↓hS2.k2, ↓hS2.g3_0, ↓hS2.g3_1, ↓hS2.g3_2, ↓hS2.g3_3, ↓hS2.g3_4, ↓hS2.k3, ↓hS2.g4_0, ↓hS2.g4_1, ↓hS2.g4_3, ↓hS2.g4_5, ↓hS2.g4_6, ↓hS2.g4_7, ↓hS2.g4_8, ↓hS2.g4_9, ↓hS2.g4_10, ↓hS2.g4_12, ↓hS2.g4_11, ↓hS2.k4, ↓hS2.g5_0, ↓hS2.g5_1, ↓hS2.g5_2, ↓hS2.g5_3, ↓hS2.g5_4, ↓hS2.g5_5, ↓hS2.g5_6, ↓hS2.k5, ↓hS2.g1_0, ↓hS2.g1_1, ↓hS2.g1_2, ↓hS2.g1_3, ↓hS2.g1_4, ↓hS2.g1_5, ↓hS2.g1_6, ↓hS2.g1_7, ↓hS2.k1, ↓hS2.l3, ↓hS2.n3, ↓hS2.l26, ↓hS2.n26, ↓hS2.l5, ↓hS2.n5, ↓hS2.l12, ↓hS2.n12, ↓hS2.l6, ↓hS2.n6, ↓hS2.l10, ↓hS2.n10, ↓hS2.l11, ↓hS2.n11, ↓hS2.l13, ↓hS2.n13, ↓hS2.l14, ↓hS2.n14, ↓hS2.l16, ↓hS2.n16, ↓hS2.l24, ↓hS2.n24, ↓hS2.l27, ↓hS2.n27, ↓hS2.l28, ↓hS2.n28, ↓hS2.l2, ↓hS2.n2, g, h, ↓reduceIte]
  · have hS2 : CSh s := hS.fr fun z k hs => hI.1 z k (by unfold CSt at hs; omega)
    have g : s (25 + 8 * c) 1 = r 1 := by rw [hI.1 _ _ (by omega), hT.1.2.1]
    refine ⟨s, ?_, hI.1, fun x y x0 x1 y0 y1 => hI.2 x y x0 x1 y0 y1 (Or.inl y1)⟩
    simp (disch := omega) only [LX2_takeTones_21, BX2_takeTones_21, ↓hS2.g6_0, ↓hS2.g6_1, ↓hS2.g6_2, ↓hS2.g6_3, ↓hS2.g6_4, ↓hS2.g6_5, ↓hS2.g6_7, ↓hS2.g6_8, ↓hS2.k6, ↓hS2.g2_0, ↓hS2.g2_1, ↓hS2.g2_2, ↓hS2.g2_3, ↓hS2.g2_4, ↓hS2.g2_5, ↓hS2.g2_6, ↓hS2.g2_7, ↓hS2.k2, ↓hS2.g3_0, ↓hS2.g3_1, ↓hS2.g3_2, ↓hS2.g3_3, ↓hS2.g3_4, ↓hS2.k3, ↓hS2.g4_0, ↓hS2.g4_1, ↓hS2.g4_3, ↓hS2.g4_5, ↓hS2.g4_6, ↓hS2.g4_7, ↓hS2.g4_8, ↓hS2.g4_9, ↓hS2.g4_10, ↓hS2.g4_12, ↓hS2.g4_11, ↓hS2.k4, ↓hS2.g5_0, ↓hS2.g5_1, ↓hS2.g5_2, ↓hS2.g5_3, ↓hS2.g5_4, ↓hS2.g5_5, ↓hS2.g5_6, ↓hS2.k5, ↓hS2.g1_0, ↓hS2.g1_1, ↓hS2.g1_2, ↓hS2.g1_3, ↓hS2.g1_4, ↓hS2.g1_5, ↓hS2.g1_6, ↓hS2.g1_7, ↓hS2.k1, ↓hS2.l3, ↓hS2.n3, ↓hS2.l26, ↓hS2.n26, ↓hS2.l5, ↓hS2.n5, ↓hS2.l12, ↓hS2.n12, ↓hS2.l6, ↓hS2.n6, ↓hS2.l10, ↓hS2.n10, ↓hS2.l11, ↓hS2.n11, ↓hS2.l13, ↓hS2.n13, ↓hS2.l14, ↓hS2.n14, ↓hS2.l16, ↓hS2.n16, ↓hS2.l24, ↓hS2.n24, ↓hS2.l27, ↓hS2.n27, ↓hS2.l28, ↓hS2.n28, ↓hS2.l2, ↓hS2.n2, g, Int.le_refl, ↓reduceIte]
  · have hS2 : CSh s := hS.fr fun z k hs => hI.1 z k (by unfold CSt at hs; omega)
    have hT2 : Sht s c r := hT.fr hr (fun a k _ _ _ => hI.1 a k (by omega)) (fun a k _ _ => hI.1 a k (by omega)) (by rw [hI.1 _ _ (by omega)]; exact Int.le_refl _)
    have hc := cell_lt (show r 0 ≤ 16 by omega) (show r 1 ≤ 12 by omega) x0 x1 y0 y1
    have g : ¬ r 0 ≤ x := by omega
    have ht := hT2.2.1 x y x0 x1 y0 y1
    have hcv : s (29 + 8 * c + p) 7 = μ (29 + 8 * c + p) 7 := hI.1 _ _ (by omega)
    obtain ⟨ν, e1, e2⟩ : ∃ ν, LX2_takeTones_33 k (n + 1) 4 (25 + 8 * c) p (μ (29 + 8 * c + p) 7) (6 + p) y x s = BX2_takeTones_89 (fun y0 y1 y2 y3 y4 y5 ν => k y0 y1 y2 y3 y4 y5 ν) (fun y0 y1 y2 y3 y4 y5 y6 ν => LX2_takeTones_33 k n y0 y1 y2 y3 y4 y5 y6 ν) 4 (25 + 8 * c) p (μ (29 + 8 * c + p) 7) (6 + p) y x (tnOn r p x y) (y * r 0 + x) (6 + p) ν ∧ ∀ z k, ¬ (z = 14 ∧ 0 ≤ k) → ν z k = s z k := by
      by_cases hn : rO r p 13 = 0
      · have e0 : μ (29 + 8 * c + p) 7 = 0 := hpl.2.2.2.1 hn
        have et : tnOn r p x y = rT r x y := by unfold tnOn; rw [if_pos hn]
        refine ⟨s, ?_, fun _ _ _ => rfl⟩
        simp (disch := omega) only [LX2_takeTones_33, BX2_takeTones_33, ↓hS2.g6_0, ↓hS2.g6_1, ↓hS2.g6_2, ↓hS2.g6_3, ↓hS2.g6_4, ↓hS2.g6_5, ↓hS2.g6_7, ↓hS2.g6_8, ↓hS2.k6, ↓hS2.g2_0, ↓hS2.g2_1, ↓hS2.g2_2, ↓hS2.g2_3, ↓hS2.g2_4, ↓hS2.g2_5, ↓hS2.g2_6, ↓hS2.g2_7, ↓hS2.k2, ↓hS2.g3_0, ↓hS2.g3_1, ↓hS2.g3_2, ↓hS2.g3_3, ↓hS2.g3_4, ↓hS2.k3, ↓hS2.g4_0, ↓hS2.g4_1, ↓hS2.g4_3, ↓hS2.g4_5, ↓hS2.g4_6, ↓hS2.g4_7, ↓hS2.g4_8, ↓hS2.g4_9, ↓hS2.g4_10, ↓hS2.g4_12, ↓hS2.g4_11, ↓hS2.k4, ↓hS2.g5_0, ↓hS2.g5_1, ↓hS2.g5_2, ↓hS2.g5_3, ↓hS2.g5_4, ↓hS2.g5_5, ↓hS2.g5_6, ↓hS2.k5, ↓hS2.g1_0, ↓hS2.g1_1, ↓hS2.g1_2, ↓hS2.g1_3, ↓hS2.g1_4, ↓hS2.g1_5, ↓hS2.g1_6, ↓hS2.g1_7, ↓hS2.k1, ↓hS2.l3, ↓hS2.n3, ↓hS2.l26, ↓hS2.n26, ↓hS2.l5, ↓hS2.n5, ↓hS2.l12, ↓hS2.n12, ↓hS2.l6, ↓hS2.n6, ↓hS2.l10, ↓hS2.n10, ↓hS2.l11, ↓hS2.n11, ↓hS2.l13, ↓hS2.n13, ↓hS2.l14, ↓hS2.n14, ↓hS2.l16, ↓hS2.n16, ↓hS2.l24, ↓hS2.n24, ↓hS2.l27, ↓hS2.n27, ↓hS2.l28, ↓hS2.n28, ↓hS2.l2, ↓hS2.n2, hT2.1.1, g, ↓reduceIte, ↓CL, ↓idx_rt_c hS2 c0 c1 hT2.1.1, e0, not_true_eq_false, ht, et]
      · have hcr := (hT2.2.2.2 p p0 p1).2.2.2.2 hn
        rw [hcv] at hcr
        have e9 : ¬ μ (29 + 8 * c + p) 7 = 0 := by have := hcr.1.1; omega
        obtain ⟨ν, q1, q2⟩ := toneAt_rt (x := x) (y := y) hS2 hr p0 p1 hn hcr x0 x1 y0 y1
        refine ⟨ν, ?_, q2⟩
        simp (disch := omega) only [LX2_takeTones_33, BX2_takeTones_33, ↓hS2.g6_0, ↓hS2.g6_1, ↓hS2.g6_2, ↓hS2.g6_3, ↓hS2.g6_4, ↓hS2.g6_5, ↓hS2.g6_7, ↓hS2.g6_8, ↓hS2.k6, ↓hS2.g2_0, ↓hS2.g2_1, ↓hS2.g2_2, ↓hS2.g2_3, ↓hS2.g2_4, ↓hS2.g2_5, ↓hS2.g2_6, ↓hS2.g2_7, ↓hS2.k2, ↓hS2.g3_0, ↓hS2.g3_1, ↓hS2.g3_2, ↓hS2.g3_3, ↓hS2.g3_4, ↓hS2.k3, ↓hS2.g4_0, ↓hS2.g4_1, ↓hS2.g4_3, ↓hS2.g4_5, ↓hS2.g4_6, ↓hS2.g4_7, ↓hS2.g4_8, ↓hS2.g4_9, ↓hS2.g4_10, ↓hS2.g4_12, ↓hS2.g4_11, ↓hS2.k4, ↓hS2.g5_0, ↓hS2.g5_1, ↓hS2.g5_2, ↓hS2.g5_3, ↓hS2.g5_4, ↓hS2.g5_5, ↓hS2.g5_6, ↓hS2.k5, ↓hS2.g1_0, ↓hS2.g1_1, ↓hS2.g1_2, ↓hS2.g1_3, ↓hS2.g1_4, ↓hS2.g1_5, ↓hS2.g1_6, ↓hS2.g1_7, ↓hS2.k1, ↓hS2.l3, ↓hS2.n3, ↓hS2.l26, ↓hS2.n26, ↓hS2.l5, ↓hS2.n5, ↓hS2.l12, ↓hS2.n12, ↓hS2.l6, ↓hS2.n6, ↓hS2.l10, ↓hS2.n10, ↓hS2.l11, ↓hS2.n11, ↓hS2.l13, ↓hS2.n13, ↓hS2.l14, ↓hS2.n14, ↓hS2.l16, ↓hS2.n16, ↓hS2.l24, ↓hS2.n24, ↓hS2.l27, ↓hS2.n27, ↓hS2.l28, ↓hS2.n28, ↓hS2.l2, ↓hS2.n2, hT2.1.1, g, ↓reduceIte, ↓CL, ↓idx_rt_c hS2 c0 c1 hT2.1.1, ↓KD_of (show s (μ (29 + 8 * c + p) 7) (-1) = 0 + 1 by rw [hcr.1.2.2]; rfl), e9, not_false_eq_true, ht, q1, CLX_rt]
    have hS3 : CSh ν := hS2.fr fun z k hs => e2 z k (by unfold CSt at hs; omega)
    refine ⟨mUp ν (6 + p) (y * r 0 + x) (tnOn r p x y), ⟨fun z k hz => ?_, fun x' y' a0 a1 b0 b1 hlt => ?_⟩, ?_⟩
    · rw [mUp_ne _ _ (by omega), e2 _ _ (by omega)]
      exact hI.1 z k hz
    · by_cases e : x' = x ∧ y' = y
      · rw [e.1, e.2, mUp_same]
      · rw [mUp_ne _ _ (fun h => e (cell_inj a0 a1 x0 x1 h.2)), e2 _ _ (by omega)]
        exact hI.2 x' y' a0 a1 b0 b1 (by omega)
    · rw [e1]
      unfold BX2_takeTones_89
      rw [hS3.s6 p0 (by omega) (by omega) (by omega), w32_eq (by omega) (by omega)]
  · have hS2 : CSh s := hS.fr fun z k hs => hI.1 z k (by unfold CSt at hs; omega)
    have g : s (25 + 8 * c) 0 = r 0 := by rw [hI.1 _ _ (by omega), hT.1.1]
    refine ⟨⟨hI.1, fun x' y' a0 a1 b0 b1 hlt => hI.2 x' y' a0 a1 b0 b1 (by omega)⟩, ?_⟩
    simp (disch := omega) only [LX2_takeTones_33, BX2_takeTones_33, ↓hS2.g6_0, ↓hS2.g6_1, ↓hS2.g6_2, ↓hS2.g6_3, ↓hS2.g6_4, ↓hS2.g6_5, ↓hS2.g6_7, ↓hS2.g6_8, ↓hS2.k6, ↓hS2.g2_0, ↓hS2.g2_1, ↓hS2.g2_2, ↓hS2.g2_3, ↓hS2.g2_4, ↓hS2.g2_5, ↓hS2.g2_6, ↓hS2.g2_7, ↓hS2.k2, ↓hS2.g3_0, ↓hS2.g3_1, ↓hS2.g3_2, ↓hS2.g3_3, ↓hS2.g3_4, ↓hS2.k3, ↓hS2.g4_0, ↓hS2.g4_1, ↓hS2.g4_3, ↓hS2.g4_5, ↓hS2.g4_6, ↓hS2.g4_7, ↓hS2.g4_8, ↓hS2.g4_9, ↓hS2.g4_10, ↓hS2.g4_12, ↓hS2.g4_11, ↓hS2.k4, ↓hS2.g5_0, ↓hS2.g5_1, ↓hS2.g5_2, ↓hS2.g5_3, ↓hS2.g5_4, ↓hS2.g5_5, ↓hS2.g5_6, ↓hS2.k5, ↓hS2.g1_0, ↓hS2.g1_1, ↓hS2.g1_2, ↓hS2.g1_3, ↓hS2.g1_4, ↓hS2.g1_5, ↓hS2.g1_6, ↓hS2.g1_7, ↓hS2.k1, ↓hS2.l3, ↓hS2.n3, ↓hS2.l26, ↓hS2.n26, ↓hS2.l5, ↓hS2.n5, ↓hS2.l12, ↓hS2.n12, ↓hS2.l6, ↓hS2.n6, ↓hS2.l10, ↓hS2.n10, ↓hS2.l11, ↓hS2.n11, ↓hS2.l13, ↓hS2.n13, ↓hS2.l14, ↓hS2.n14, ↓hS2.l16, ↓hS2.n16, ↓hS2.l24, ↓hS2.n24, ↓hS2.l27, ↓hS2.n27, ↓hS2.l28, ↓hS2.n28, ↓hS2.l2, ↓hS2.n2, g, Int.le_refl, ↓reduceIte, w32_eq]
/-- whether the plate p puts a dot on the cell -/
abbrev putAt (r : Row) (p x y : Int) : Prop := dark r p x y ∧ ¬ wiped r p x y ∧ bc (ik r x y p.toNat) < r 3
theorem ik_bt (r : Row) (x y : Int) : ∀ n : Nat, n ≤ 4 → ∀ p : Int, 0 ≤ p → p < 31 → bt (ik r x y n) p = if p < n then b2 (putAt r p x y) else 0
  | 0, _, p, h0, h1 => by
    rw [if_neg (by omega)]
    exact bt_zero h0 h1
  | n + 1, hn, p, h0, h1 => by
    have ih := ik_bt r x y n (by omega) p h0 h1
    have h16 := ik_16 r x y n (by omega)
    have hb := bOr_bt (k := 4) (by decide) h16.1 (by omega) (show (0 : Int) ≤ n by omega) (by omega)
    have hnn : ((n : Nat) : Int).toNat = n := by omega
    rw [ik]
    by_cases e : p = n
    · subst e
      by_cases q : dark r n x y ∧ ¬ wiped r n x y ∧ bc (ik r x y n) < r 3
      · rw [if_pos q, hb.2 _ h0 h1, if_pos rfl, if_pos (by omega), b2_t (q := putAt r n x y) q]
      · rw [if_neg q, ih, if_neg (by omega), if_pos (by omega), b2_f (q := putAt r n x y) q]
    · by_cases q : dark r n x y ∧ ¬ wiped r n x y ∧ bc (ik r x y n) < r 3
      · rw [if_pos q, hb.2 _ h0 h1, if_neg e, ih]
        by_cases q2 : p < n
        · rw [if_pos q2, if_pos (by omega)]
        · rw [if_neg q2, if_neg (by omega)]
      · rw [if_neg q, ih]
        by_cases q2 : p < n
        · rw [if_pos q2, if_pos (by omega)]
        · rw [if_neg q2, if_neg (by omega)]
theorem dotAt_put (hr : okRow r) (p0 : 0 ≤ p) (p1 : p < r 2) {x y : Int} (x0 : 0 ≤ x) (x1 : x < r 0) (y0 : 0 ≤ y) (y1 : y < r 1) : dotAt r p x y ↔ putAt r p x y := by
  have hr2 := hr.2.1
  have h := ik_bt r x y (r 2).toNat (by omega) p p0 (by omega)
  rw [if_pos (by omega)] at h
  have h2 : bt (ikA r x y) p = b2 (putAt r p x y) := h
  constructor
  · intro hd
    by_cases q : putAt r p x y
    · exact q
    · rw [b2_f q] at h2
      have := hd.2
      omega
  · intro q
    rw [b2_t q] at h2
    exact ⟨⟨x0, x1, y0, y1⟩, h2⟩
theorem dotsOf_put (hr : okRow r) (p0 : 0 ≤ p) (p1 : p < r 2) : dotsOf r p = su2 (fun x y => b2 (putAt r p x y)) (r 0) (r 1) := by
  unfold dotsOf
  refine su2_ext fun x y x0 x1 y0 y1 => ?_
  have h := dotAt_put hr p0 p1 x0 x1 y0 y1
  by_cases q : putAt r p x y
  · rw [b2_t q, b2_t (h.mpr q)]
  · rw [b2_f q, b2_f (fun e => q (h.mp e))]
theorem putDots_rt (hS : CSh μ) (c0 : 0 ≤ c) (c1 : c < 10) (p0 : 0 ≤ p) (p1 : p < r 2) (hr : okRow r) (hT : Sht μ c r) (hP : PT μ r) (hC : ScrI μ p) (hI0 : ∀ x y, 0 ≤ x → x < r 0 → 0 ≤ y → y < r 1 → μ 10 (y * r 0 + x) = ik r x y p.toNat) : ∃ ν, FX2_putDots 4 (25 + 8 * c) p μ = RT 0 ν ∧ (∀ z k, ¬ ((z = 10 ∧ 0 ≤ k) ∨ (z = 11 ∧ k = p) ∨ (z = 13 ∧ 0 ≤ k) ∨ (z = 15 + 2 * p ∧ 0 ≤ k ∧ k ≤ 3) ∨ (z = 16 + 2 * p ∧ 0 ≤ k)) → ν z k = μ z k) ∧ (∀ x y, 0 ≤ x → x < r 0 → 0 ≤ y → y < r 1 → ν 10 (y * r 0 + x) = ik r x y (p.toNat + 1)) ∧ ν 11 p = dotsOf r p ∧ ScrR ν r p := by
  have hr1 := hr.1
  have hr2 := hr.2.1
  have hpl := hT.2.2.2 p p0 p1
  have ho := hr.2.2.2.2 p p0 p1
  unfold FX2_putDots BX2_putDots_0
  simp (disch := omega) only [↓hS.g6_0, ↓hS.g6_1, ↓hS.g6_2, ↓hS.g6_3, ↓hS.g6_4, ↓hS.g6_5, ↓hS.g6_7, ↓hS.g6_8, ↓hS.k6, ↓hS.g2_0, ↓hS.g2_1, ↓hS.g2_2, ↓hS.g2_3, ↓hS.g2_4, ↓hS.g2_5, ↓hS.g2_6, ↓hS.g2_7, ↓hS.k2, ↓hS.g3_0, ↓hS.g3_1, ↓hS.g3_2, ↓hS.g3_3, ↓hS.g3_4, ↓hS.k3, ↓hS.g4_0, ↓hS.g4_1, ↓hS.g4_3, ↓hS.g4_5, ↓hS.g4_6, ↓hS.g4_7, ↓hS.g4_8, ↓hS.g4_9, ↓hS.g4_10, ↓hS.g4_12, ↓hS.g4_11, ↓hS.k4, ↓hS.g5_0, ↓hS.g5_1, ↓hS.g5_2, ↓hS.g5_3, ↓hS.g5_4, ↓hS.g5_5, ↓hS.g5_6, ↓hS.k5, ↓hS.g1_0, ↓hS.g1_1, ↓hS.g1_2, ↓hS.g1_3, ↓hS.g1_4, ↓hS.g1_5, ↓hS.g1_6, ↓hS.g1_7, ↓hS.k1, ↓hS.l3, ↓hS.n3, ↓hS.l26, ↓hS.n26, ↓hS.l5, ↓hS.n5, ↓hS.l12, ↓hS.n12, ↓hS.l6, ↓hS.n6, ↓hS.l10, ↓hS.n10, ↓hS.l11, ↓hS.n11, ↓hS.l13, ↓hS.n13, ↓hS.l14, ↓hS.n14, ↓hS.l16, ↓hS.n16, ↓hS.l24, ↓hS.n24, ↓hS.l27, ↓hS.n27, ↓hS.l28, ↓hS.n28, ↓hS.l2, ↓hS.n2]
  obtain ⟨μ1, e1, f1, s1⟩ := fit_rt hS c0 c1 p0 (by omega) hpl.2.1.1 hpl.2.1.2.1 hpl.2.1.2.2 ⟨ho.1.1, ho.1.2.1⟩ ⟨ho.1.2.2.1, ho.1.2.2.2.1⟩ ho.1.2.2.2.2 ho.2.1 hC
  rw [e1]
  simp only [↓CL, ↓CLX_rt]
  have hS1 : CSh μ1 := hS.fit p0 (by omega) f1
  have hT1 : Sht μ1 c r := hT.fr hr (fun a k _ _ _ => f1 a k (by omega)) (fun a k _ _ => f1 a k (by omega)) (by rw [f1 _ _ (by omega)]; exact Int.le_refl _)
  refine dblR (fun n y0 y1 y2 y3 y4 ν => LX2_putDots_24 n y0 y1 y2 y3 y4 ν) (fun k (s : Int × Mem) y => k 4 (25 + 8 * c) p s.1 y s.2) (fun k n s y x => LX2_putDots_36 k n 4 (25 + 8 * c) p s.1 y x s.2) (r 0) (r 1) (fun x y s => s.1 = su2 (fun x y => b2 (putAt r p x y)) (r 0) y + su (fun x => b2 (putAt r p x y)) x ∧ (∀ z k, ¬ (z = 10 ∧ 0 ≤ k) → s.2 z k = μ1 z k) ∧ ∀ x' y', 0 ≤ x' → x' < r 0 → 0 ≤ y' → y' < r 1 → s.2 10 (y' * r 0 + x') = if y' < y ∨ (y' = y ∧ x' < x) then ik r x' y' (p.toNat + 1) else ik r x' y' p.toNat) (fun R => ∃ ν, R = RT 0 ν ∧ (∀ z k, ¬ ((z = 10 ∧ 0 ≤ k) ∨ (z = 11 ∧ k = p) ∨ (z = 13 ∧ 0 ≤ k) ∨ (z = 15 + 2 * p ∧ 0 ≤ k ∧ k ≤ 3) ∨ (z = 16 + 2 * p ∧ 0 ≤ k)) → ν z k = μ z k) ∧ (∀ x y, 0 ≤ x → x < r 0 → 0 ≤ y → y < r 1 → ν 10 (y * r 0 + x) = ik r x y (p.toNat + 1)) ∧ ν 11 p = dotsOf r p ∧ ScrR ν r p) (by omega) (by omega) (fun n s y y0 y1 hI => ?_) (fun n s hI => ?_) (fun k n s y x y0 y1 x0 x1 hI => ?_) (fun k n s y y0 y1 hI => ?_) FU 0 (0, μ1) (Int.le_refl _) (by omega) (by rw [show ((FU : Nat) : Int) = 20000 from rfl]; omega) ⟨rfl, fun _ _ _ => rfl, fun x' y' a0 a1 b0 b1 => by
    have hcc := cell_lt (show r 0 ≤ 16 by omega) (show r 1 ≤ 12 by omega) a0 a1 b0 b1
    rw [if_neg (by omega)]
    show μ1 10 _ = _
    rw [f1 _ _ (by omega)]
    exact hI0 x' y' a0 a1 b0 b1⟩
  · obtain ⟨cnt, s⟩ := s
    obtain ⟨h1, h2, h3⟩ := hI
    have h2 : ∀ z k, ¬ (z = 10 ∧ 0 ≤ k) → s z k = μ1 z k := h2
    have hS2 : CSh s := hS1.fr fun z k hs => h2 z k (by unfold CSt at hs; omega)
    have g : s (25 + 8 * c) 1 = r 1 := by rw [h2 _ _ (by omega), hT1.1.2.1]
    have h : ¬ r 1 ≤ y := by omega
    simp (disch := omega) only [LX2_putDots_24, BX2_putDots_24, ↓hS2.g6_0, ↓hS2.g6_1, ↓hS2.g6_2, ↓hS2.g6_3, ↓hS2.g6_4, ↓hS2.g6_5, ↓hS2.g6_7, ↓hS2.g6_8, ↓hS2.k6, ↓hS2.g2_0, ↓hS2.g2_1, ↓hS2.g2_2, ↓hS2.g2_3, ↓hS2.g2_4, ↓hS2.g2_5, ↓hS2.g2_6, ↓hS2.g2_7, ↓hS2.k2, ↓hS2.g3_0, ↓hS2.g3_1, ↓hS2.g3_2, ↓hS2.g3_3, ↓hS2.g3_4, ↓hS2.k3, ↓hS2.g4_0, ↓hS2.g4_1, ↓hS2.g4_3, ↓hS2.g4_5, ↓hS2.g4_6, ↓hS2.g4_7, ↓hS2.g4_8, ↓hS2.g4_9, ↓hS2.g4_10, ↓hS2.g4_12, ↓hS2.g4_11, ↓hS2.k4, ↓hS2.g5_0, ↓hS2.g5_1, ↓hS2.g5_2, ↓hS2.g5_3, ↓hS2.g5_4, ↓hS2.g5_5, ↓hS2.g5_6, ↓hS2.k5, ↓hS2.g1_0, ↓hS2.g1_1, ↓hS2.g1_2, ↓hS2.g1_3, ↓hS2.g1_4, ↓hS2.g1_5, ↓hS2.g1_6, ↓hS2.g1_7, ↓hS2.k1, ↓hS2.l3, ↓hS2.n3, ↓hS2.l26, ↓hS2.n26, ↓hS2.l5, ↓hS2.n5, ↓hS2.l12, ↓hS2.n12, ↓hS2.l6, ↓hS2.n6, ↓hS2.l10, ↓hS2.n10, ↓hS2.l11, ↓hS2.n11, ↓hS2.l13, ↓hS2.n13, ↓hS2.l14, ↓hS2.n14, ↓hS2.l16, ↓hS2.n16, ↓hS2.l24, ↓hS2.n24, ↓hS2.l27, ↓hS2.n27, ↓hS2.l28, ↓hS2.n28, ↓hS2.l2, ↓hS2.n2, g, h, ↓reduceIte]
  · obtain ⟨cnt, s⟩ := s
    obtain ⟨h1, h2, h3⟩ := hI
    have h1 : cnt = su2 (fun x y => b2 (putAt r p x y)) (r 0) (r 1) + su (fun x => b2 (putAt r p x (r 1))) 0 := h1
    have h2 : ∀ z k, ¬ (z = 10 ∧ 0 ≤ k) → s z k = μ1 z k := h2
    have hS2 : CSh s := hS1.fr fun z k hs => h2 z k (by unfold CSt at hs; omega)
    have g : s (25 + 8 * c) 1 = r 1 := by rw [h2 _ _ (by omega), hT1.1.2.1]
    refine ⟨mUp s 11 p cnt, ?_, fun z k hz => ?_, fun x y x0 x1 y0 y1 => ?_, ?_, ⟨?_, ?_, ?_, ?_⟩, fun k k0 k1 => ?_⟩
    · simp (disch := omega) only [LX2_putDots_24, BX2_putDots_24, ↓hS2.g6_0, ↓hS2.g6_1, ↓hS2.g6_2, ↓hS2.g6_3, ↓hS2.g6_4, ↓hS2.g6_5, ↓hS2.g6_7, ↓hS2.g6_8, ↓hS2.k6, ↓hS2.g2_0, ↓hS2.g2_1, ↓hS2.g2_2, ↓hS2.g2_3, ↓hS2.g2_4, ↓hS2.g2_5, ↓hS2.g2_6, ↓hS2.g2_7, ↓hS2.k2, ↓hS2.g3_0, ↓hS2.g3_1, ↓hS2.g3_2, ↓hS2.g3_3, ↓hS2.g3_4, ↓hS2.k3, ↓hS2.g4_0, ↓hS2.g4_1, ↓hS2.g4_3, ↓hS2.g4_5, ↓hS2.g4_6, ↓hS2.g4_7, ↓hS2.g4_8, ↓hS2.g4_9, ↓hS2.g4_10, ↓hS2.g4_12, ↓hS2.g4_11, ↓hS2.k4, ↓hS2.g5_0, ↓hS2.g5_1, ↓hS2.g5_2, ↓hS2.g5_3, ↓hS2.g5_4, ↓hS2.g5_5, ↓hS2.g5_6, ↓hS2.k5, ↓hS2.g1_0, ↓hS2.g1_1, ↓hS2.g1_2, ↓hS2.g1_3, ↓hS2.g1_4, ↓hS2.g1_5, ↓hS2.g1_6, ↓hS2.g1_7, ↓hS2.k1, ↓hS2.l3, ↓hS2.n3, ↓hS2.l26, ↓hS2.n26, ↓hS2.l5, ↓hS2.n5, ↓hS2.l12, ↓hS2.n12, ↓hS2.l6, ↓hS2.n6, ↓hS2.l10, ↓hS2.n10, ↓hS2.l11, ↓hS2.n11, ↓hS2.l13, ↓hS2.n13, ↓hS2.l14, ↓hS2.n14, ↓hS2.l16, ↓hS2.n16, ↓hS2.l24, ↓hS2.n24, ↓hS2.l27, ↓hS2.n27, ↓hS2.l28, ↓hS2.n28, ↓hS2.l2, ↓hS2.n2, ↓hS2.s11, g, Int.le_refl, ↓reduceIte]
    · rw [mUp_ne _ _ (by omega), h2 _ _ (by omega), f1 _ _ (by omega)]
    · rw [mUp_ne _ _ (by omega)]
      have := h3 x y x0 x1 y0 y1
      rw [if_pos (Or.inl y1)] at this
      exact this
    · rw [mUp_same, h1, su_0, Int.add_zero, dotsOf_put hr p0 p1]
    · rw [mUp_ne _ _ (by omega), h2 _ _ (by omega), s1.1.1]
    · rw [mUp_ne _ _ (by omega), h2 _ _ (by omega), s1.1.2.1]
    · rw [mUp_ne _ _ (by omega), h2 _ _ (by omega), s1.1.2.2.1]
    · rw [mUp_ne _ _ (by omega), h2 _ _ (by omega), s1.1.2.2.2]
    · rw [mUp_ne _ _ (by omega), h2 _ _ (by omega), s1.2 k k0 k1]
  · obtain ⟨cnt, s⟩ := s
    obtain ⟨h1, h2, h3⟩ := hI
    have h1 : cnt = su2 (fun x y => b2 (putAt r p x y)) (r 0) y + su (fun x => b2 (putAt r p x y)) x := h1
    have h2 : ∀ z k, ¬ (z = 10 ∧ 0 ≤ k) → s z k = μ1 z k := h2
    have h3 : ∀ x' y', 0 ≤ x' → x' < r 0 → 0 ≤ y' → y' < r 1 → s 10 (y' * r 0 + x') = if y' < y ∨ (y' = y ∧ x' < x) then ik r x' y' (p.toNat + 1) else ik r x' y' p.toNat := h3
    have hS2 : CSh s := hS1.fr fun z k hs => h2 z k (by unfold CSt at hs; omega)
    have hT2 : Sht s c r := hT1.fr hr (fun a k _ _ _ => h2 a k (by omega)) (fun a k _ _ => h2 a k (by omega)) (by rw [h2 _ _ (by omega)]; exact Int.le_refl _)
    have hP2 : PT s r := fun q q0 q1 x y a0 a1 b0 b1 => by
      have hcc := cell_lt (show r 0 ≤ 16 by omega) (show r 1 ≤ 12 by omega) a0 a1 b0 b1
      rw [h2 _ _ (by omega), f1 _ _ (by omega)]
      exact hP q q0 q1 x y a0 a1 b0 b1
    have hC2 : ScrR s r p := ⟨⟨by rw [h2 _ _ (by omega), s1.1.1], by rw [h2 _ _ (by omega), s1.1.2.1], by rw [h2 _ _ (by omega), s1.1.2.2.1], by rw [h2 _ _ (by omega), s1.1.2.2.2]⟩, fun k k0 k1 => by rw [h2 _ _ (by omega), s1.2 k k0 k1]⟩
    have hc := cell_lt (show r 0 ≤ 16 by omega) (show r 1 ≤ 12 by omega) x0 x1 y0 y1
    have g : ¬ r 0 ≤ x := by omega
    have hv := h3 x y x0 x1 y0 y1
    rw [if_neg (by omega)] at hv
    have h16 := ik_16 r x y p.toNat (by omega)
    have b1 := su2_le (f := fun x y => b2 (putAt r p x y)) (w := r 0) (h := y) (B := 1) (by omega) y0 fun _ _ _ _ _ _ => b2_0
    have b2' := su_le (f := fun x => b2 (putAt r p x y)) (n := x) (B := 1) x0 fun _ _ _ => b2_0
    have b3 := mul_le_of (a := y) (b := r 0 * 1) (c := 12) (d := 16) (by omega) (by omega) (by omega) (by omega)
    have hw : bt (s (28 + 8 * c) (y * r 0 + x)) p = bt (rO r p (14 + y)) x := by
      rw [(hT2.2.2.1 x y x0 x1 y0 y1).2 p p0 (by omega), if_pos p1]
    have hpn : ((p.toNat : Nat) : Int) = p := by omega
    by_cases q : putAt r p x y
    · have qd : dark r p x y := q.1
      have qw : ¬ wiped r p x y := q.2.1
      have ql : ¬ r 3 ≤ bc (ik r x y p.toNat) := by have := q.2.2; omega
      refine ⟨(cnt + 1, mUp s 10 (y * r 0 + x) (bOr (ik r x y p.toNat) (bShl 1 p))), ⟨?_, fun z k hz => ?_, fun x' y' a0 a1 d0 d1 => ?_⟩, ?_⟩
      · show cnt + 1 = _
        rw [su_s _ x0, b2_t q, h1]
        omega
      · show mUp s 10 _ _ z k = _
        rw [mUp_ne _ _ (by omega)]
        exact h2 z k hz
      · show mUp s 10 _ _ 10 _ = _
        by_cases e : x' = x ∧ y' = y
        · rw [e.1, e.2, mUp_same, if_pos (by omega), ik, hpn, if_pos ⟨qd, qw, q.2.2⟩]
        · rw [mUp_ne _ _ (fun h => e (cell_inj a0 a1 x0 x1 h.2)), h3 x' y' a0 a1 d0 d1]
          by_cases e2 : y' < y ∨ (y' = y ∧ x' < x)
          · rw [if_pos e2, if_pos (by omega)]
          · rw [if_neg e2, if_neg (by omega)]
      · have qn : ¬ b2 (wiped r p x y) = 1 := by rw [b2_f qw]; omega
        simp (disch := omega) only [LX2_putDots_36, BX2_putDots_36, BX2_putDots_77, BX2_putDots_123, ↓hS2.g6_0, ↓hS2.g6_1, ↓hS2.g6_2, ↓hS2.g6_3, ↓hS2.g6_4, ↓hS2.g6_5, ↓hS2.g6_7, ↓hS2.g6_8, ↓hS2.k6, ↓hS2.g2_0, ↓hS2.g2_1, ↓hS2.g2_2, ↓hS2.g2_3, ↓hS2.g2_4, ↓hS2.g2_5, ↓hS2.g2_6, ↓hS2.g2_7, ↓hS2.k2, ↓hS2.g3_0, ↓hS2.g3_1, ↓hS2.g3_2, ↓hS2.g3_3, ↓hS2.g3_4, ↓hS2.k3, ↓hS2.g4_0, ↓hS2.g4_1, ↓hS2.g4_3, ↓hS2.g4_5, ↓hS2.g4_6, ↓hS2.g4_7, ↓hS2.g4_8, ↓hS2.g4_9, ↓hS2.g4_10, ↓hS2.g4_12, ↓hS2.g4_11, ↓hS2.k4, ↓hS2.g5_0, ↓hS2.g5_1, ↓hS2.g5_2, ↓hS2.g5_3, ↓hS2.g5_4, ↓hS2.g5_5, ↓hS2.g5_6, ↓hS2.k5, ↓hS2.g1_0, ↓hS2.g1_1, ↓hS2.g1_2, ↓hS2.g1_3, ↓hS2.g1_4, ↓hS2.g1_5, ↓hS2.g1_6, ↓hS2.g1_7, ↓hS2.k1, ↓hS2.l3, ↓hS2.n3, ↓hS2.l26, ↓hS2.n26, ↓hS2.l5, ↓hS2.n5, ↓hS2.l12, ↓hS2.n12, ↓hS2.l6, ↓hS2.n6, ↓hS2.l10, ↓hS2.n10, ↓hS2.l11, ↓hS2.n11, ↓hS2.l13, ↓hS2.n13, ↓hS2.l14, ↓hS2.n14, ↓hS2.l16, ↓hS2.n16, ↓hS2.l24, ↓hS2.n24, ↓hS2.l27, ↓hS2.n27, ↓hS2.l28, ↓hS2.n28, ↓hS2.l2, ↓hS2.n2, hT2.1.1, g, ↓reduceIte, ↓CL, ↓idx_rt_c hS2 c0 c1 hT2.1.1, hv, ↓bitCount_rt_c (show 0 ≤ s 10 (y * r 0 + x) by omega) (show s 10 (y * r 0 + x) < 16 by omega), hT2.1.2.2.1, ql, (by decide : ¬ (1 : Int) = 0), ↓isCleaned_rt_c hS2 c0 c1, hw, b2_f qw, not_true_eq_false, ↓isDark_rt_c hS2 c0 c1 p0 p1 hr hT2 hC2 hP2 x0 x1 y0 y1, b2_t qd, w32_eq]
        rw [hS2.s10 hc.2.2.1 (by omega)]
    · have e9 : ik r x y (p.toNat + 1) = ik r x y p.toNat := by rw [ik, hpn, if_neg q]
      refine ⟨(cnt, s), ⟨?_, fun z k hz => h2 z k hz, fun x' y' a0 a1 d0 d1 => ?_⟩, ?_⟩
      · show cnt = _
        rw [su_s _ x0, b2_f q, h1]
        omega
      · show s 10 _ = _
        rw [h3 x' y' a0 a1 d0 d1]
        by_cases e : x' = x ∧ y' = y
        · rw [e.1, e.2, e9, if_neg (by omega), if_pos (by omega)]
        · by_cases e2 : y' < y ∨ (y' = y ∧ x' < x)
          · rw [if_pos e2, if_pos (by omega)]
          · rw [if_neg e2, if_neg (by omega)]
      · by_cases ql : r 3 ≤ bc (ik r x y p.toNat)
        · simp (disch := omega) only [LX2_putDots_36, BX2_putDots_36, BX2_putDots_77, BX2_putDots_123, ↓hS2.g6_0, ↓hS2.g6_1, ↓hS2.g6_2, ↓hS2.g6_3, ↓hS2.g6_4, ↓hS2.g6_5, ↓hS2.g6_7, ↓hS2.g6_8, ↓hS2.k6, ↓hS2.g2_0, ↓hS2.g2_1, ↓hS2.g2_2, ↓hS2.g2_3, ↓hS2.g2_4, ↓hS2.g2_5, ↓hS2.g2_6, ↓hS2.g2_7, ↓hS2.k2, ↓hS2.g3_0, ↓hS2.g3_1, ↓hS2.g3_2, ↓hS2.g3_3, ↓hS2.g3_4, ↓hS2.k3, ↓hS2.g4_0, ↓hS2.g4_1, ↓hS2.g4_3, ↓hS2.g4_5, ↓hS2.g4_6, ↓hS2.g4_7, ↓hS2.g4_8, ↓hS2.g4_9, ↓hS2.g4_10, ↓hS2.g4_12, ↓hS2.g4_11, ↓hS2.k4, ↓hS2.g5_0, ↓hS2.g5_1, ↓hS2.g5_2, ↓hS2.g5_3, ↓hS2.g5_4, ↓hS2.g5_5, ↓hS2.g5_6, ↓hS2.k5, ↓hS2.g1_0, ↓hS2.g1_1, ↓hS2.g1_2, ↓hS2.g1_3, ↓hS2.g1_4, ↓hS2.g1_5, ↓hS2.g1_6, ↓hS2.g1_7, ↓hS2.k1, ↓hS2.l3, ↓hS2.n3, ↓hS2.l26, ↓hS2.n26, ↓hS2.l5, ↓hS2.n5, ↓hS2.l12, ↓hS2.n12, ↓hS2.l6, ↓hS2.n6, ↓hS2.l10, ↓hS2.n10, ↓hS2.l11, ↓hS2.n11, ↓hS2.l13, ↓hS2.n13, ↓hS2.l14, ↓hS2.n14, ↓hS2.l16, ↓hS2.n16, ↓hS2.l24, ↓hS2.n24, ↓hS2.l27, ↓hS2.n27, ↓hS2.l28, ↓hS2.n28, ↓hS2.l2, ↓hS2.n2, hT2.1.1, g, ↓reduceIte, ↓CL, ↓idx_rt_c hS2 c0 c1 hT2.1.1, hv, ↓bitCount_rt_c (show 0 ≤ s 10 (y * r 0 + x) by omega) (show s 10 (y * r 0 + x) < 16 by omega), hT2.1.2.2.1, ql, w32_eq]
        by_cases qw : wiped r p x y
        · simp (disch := omega) only [LX2_putDots_36, BX2_putDots_36, BX2_putDots_77, BX2_putDots_123, ↓hS2.g6_0, ↓hS2.g6_1, ↓hS2.g6_2, ↓hS2.g6_3, ↓hS2.g6_4, ↓hS2.g6_5, ↓hS2.g6_7, ↓hS2.g6_8, ↓hS2.k6, ↓hS2.g2_0, ↓hS2.g2_1, ↓hS2.g2_2, ↓hS2.g2_3, ↓hS2.g2_4, ↓hS2.g2_5, ↓hS2.g2_6, ↓hS2.g2_7, ↓hS2.k2, ↓hS2.g3_0, ↓hS2.g3_1, ↓hS2.g3_2, ↓hS2.g3_3, ↓hS2.g3_4, ↓hS2.k3, ↓hS2.g4_0, ↓hS2.g4_1, ↓hS2.g4_3, ↓hS2.g4_5, ↓hS2.g4_6, ↓hS2.g4_7, ↓hS2.g4_8, ↓hS2.g4_9, ↓hS2.g4_10, ↓hS2.g4_12, ↓hS2.g4_11, ↓hS2.k4, ↓hS2.g5_0, ↓hS2.g5_1, ↓hS2.g5_2, ↓hS2.g5_3, ↓hS2.g5_4, ↓hS2.g5_5, ↓hS2.g5_6, ↓hS2.k5, ↓hS2.g1_0, ↓hS2.g1_1, ↓hS2.g1_2, ↓hS2.g1_3, ↓hS2.g1_4, ↓hS2.g1_5, ↓hS2.g1_6, ↓hS2.g1_7, ↓hS2.k1, ↓hS2.l3, ↓hS2.n3, ↓hS2.l26, ↓hS2.n26, ↓hS2.l5, ↓hS2.n5, ↓hS2.l12, ↓hS2.n12, ↓hS2.l6, ↓hS2.n6, ↓hS2.l10, ↓hS2.n10, ↓hS2.l11, ↓hS2.n11, ↓hS2.l13, ↓hS2.n13, ↓hS2.l14, ↓hS2.n14, ↓hS2.l16, ↓hS2.n16, ↓hS2.l24, ↓hS2.n24, ↓hS2.l27, ↓hS2.n27, ↓hS2.l28, ↓hS2.n28, ↓hS2.l2, ↓hS2.n2, hT2.1.1, g, ↓reduceIte, ↓CL, ↓idx_rt_c hS2 c0 c1 hT2.1.1, hv, ↓bitCount_rt_c (show 0 ≤ s 10 (y * r 0 + x) by omega) (show s 10 (y * r 0 + x) < 16 by omega), hT2.1.2.2.1, ql, (by decide : ¬ (1 : Int) = 0), not_false_eq_true, ↓isCleaned_rt_c hS2 c0 c1, hw, b2_t qw, w32_eq]
        have qd : ¬ dark r p x y := fun h => q ⟨h, qw, by omega⟩
        simp (disch := omega) only [LX2_putDots_36, BX2_putDots_36, BX2_putDots_77, BX2_putDots_123, ↓hS2.g6_0, ↓hS2.g6_1, ↓hS2.g6_2, ↓hS2.g6_3, ↓hS2.g6_4, ↓hS2.g6_5, ↓hS2.g6_7, ↓hS2.g6_8, ↓hS2.k6, ↓hS2.g2_0, ↓hS2.g2_1, ↓hS2.g2_2, ↓hS2.g2_3, ↓hS2.g2_4, ↓hS2.g2_5, ↓hS2.g2_6, ↓hS2.g2_7, ↓hS2.k2, ↓hS2.g3_0, ↓hS2.g3_1, ↓hS2.g3_2, ↓hS2.g3_3, ↓hS2.g3_4, ↓hS2.k3, ↓hS2.g4_0, ↓hS2.g4_1, ↓hS2.g4_3, ↓hS2.g4_5, ↓hS2.g4_6, ↓hS2.g4_7, ↓hS2.g4_8, ↓hS2.g4_9, ↓hS2.g4_10, ↓hS2.g4_12, ↓hS2.g4_11, ↓hS2.k4, ↓hS2.g5_0, ↓hS2.g5_1, ↓hS2.g5_2, ↓hS2.g5_3, ↓hS2.g5_4, ↓hS2.g5_5, ↓hS2.g5_6, ↓hS2.k5, ↓hS2.g1_0, ↓hS2.g1_1, ↓hS2.g1_2, ↓hS2.g1_3, ↓hS2.g1_4, ↓hS2.g1_5, ↓hS2.g1_6, ↓hS2.g1_7, ↓hS2.k1, ↓hS2.l3, ↓hS2.n3, ↓hS2.l26, ↓hS2.n26, ↓hS2.l5, ↓hS2.n5, ↓hS2.l12, ↓hS2.n12, ↓hS2.l6, ↓hS2.n6, ↓hS2.l10, ↓hS2.n10, ↓hS2.l11, ↓hS2.n11, ↓hS2.l13, ↓hS2.n13, ↓hS2.l14, ↓hS2.n14, ↓hS2.l16, ↓hS2.n16, ↓hS2.l24, ↓hS2.n24, ↓hS2.l27, ↓hS2.n27, ↓hS2.l28, ↓hS2.n28, ↓hS2.l2, ↓hS2.n2, hT2.1.1, g, ↓reduceIte, ↓CL, ↓idx_rt_c hS2 c0 c1 hT2.1.1, hv, ↓bitCount_rt_c (show 0 ≤ s 10 (y * r 0 + x) by omega) (show s 10 (y * r 0 + x) < 16 by omega), hT2.1.2.2.1, ql, (by decide : ¬ (1 : Int) = 0), ↓isCleaned_rt_c hS2 c0 c1, hw, b2_f qw, not_true_eq_false, ↓isDark_rt_c hS2 c0 c1 p0 p1 hr hT2 hC2 hP2 x0 x1 y0 y1, b2_f qd, w32_eq]
  · obtain ⟨cnt, s⟩ := s
    obtain ⟨h1, h2, h3⟩ := hI
    have h1 : cnt = su2 (fun x y => b2 (putAt r p x y)) (r 0) y + su (fun x => b2 (putAt r p x y)) (r 0) := h1
    have h2 : ∀ z k, ¬ (z = 10 ∧ 0 ≤ k) → s z k = μ1 z k := h2
    have hS2 : CSh s := hS1.fr fun z k hs => h2 z k (by unfold CSt at hs; omega)
    have g : s (25 + 8 * c) 0 = r 0 := by rw [h2 _ _ (by omega), hT1.1.1]
    refine ⟨⟨?_, h2, fun x' y' a0 a1 d0 d1 => ?_⟩, ?_⟩
    · show cnt = _
      rw [h1, su_0, Int.add_zero]
      unfold su2
      rw [su_s _ y0]
    · rw [h3 x' y' a0 a1 d0 d1]
      by_cases e2 : y' < y ∨ (y' = y ∧ x' < r 0)
      · rw [if_pos e2, if_pos (by omega)]
      · rw [if_neg e2, if_neg (by omega)]
    · simp (disch := omega) only [LX2_putDots_36, BX2_putDots_36, ↓hS2.g6_0, ↓hS2.g6_1, ↓hS2.g6_2, ↓hS2.g6_3, ↓hS2.g6_4, ↓hS2.g6_5, ↓hS2.g6_7, ↓hS2.g6_8, ↓hS2.k6, ↓hS2.g2_0, ↓hS2.g2_1, ↓hS2.g2_2, ↓hS2.g2_3, ↓hS2.g2_4, ↓hS2.g2_5, ↓hS2.g2_6, ↓hS2.g2_7, ↓hS2.k2, ↓hS2.g3_0, ↓hS2.g3_1, ↓hS2.g3_2, ↓hS2.g3_3, ↓hS2.g3_4, ↓hS2.k3, ↓hS2.g4_0, ↓hS2.g4_1, ↓hS2.g4_3, ↓hS2.g4_5, ↓hS2.g4_6, ↓hS2.g4_7, ↓hS2.g4_8, ↓hS2.g4_9, ↓hS2.g4_10, ↓hS2.g4_12, ↓hS2.g4_11, ↓hS2.k4, ↓hS2.g5_0, ↓hS2.g5_1, ↓hS2.g5_2, ↓hS2.g5_3, ↓hS2.g5_4, ↓hS2.g5_5, ↓hS2.g5_6, ↓hS2.k5, ↓hS2.g1_0, ↓hS2.g1_1, ↓hS2.g1_2, ↓hS2.g1_3, ↓hS2.g1_4, ↓hS2.g1_5, ↓hS2.g1_6, ↓hS2.g1_7, ↓hS2.k1, ↓hS2.l3, ↓hS2.n3, ↓hS2.l26, ↓hS2.n26, ↓hS2.l5, ↓hS2.n5, ↓hS2.l12, ↓hS2.n12, ↓hS2.l6, ↓hS2.n6, ↓hS2.l10, ↓hS2.n10, ↓hS2.l11, ↓hS2.n11, ↓hS2.l13, ↓hS2.n13, ↓hS2.l14, ↓hS2.n14, ↓hS2.l16, ↓hS2.n16, ↓hS2.l24, ↓hS2.n24, ↓hS2.l27, ↓hS2.n27, ↓hS2.l28, ↓hS2.n28, ↓hS2.l2, ↓hS2.n2, g, Int.le_refl, ↓reduceIte, w32_eq]
end UPD
/-- what the component's print says is right -/
def PrOK (μ : Mem) (r : Row) : Prop := PT μ r ∧ PI μ r ∧ PD μ r ∧ ∀ p, 0 ≤ p → p < r 2 → ScrR μ r p
def CPr (μ : Mem) (r : Row) : Prop := ((μ 4 6 = 0 ∨ μ 4 6 = 1) ∧ (μ 4 7 = 0 ∨ μ 4 7 = 1)) ∧ (μ 4 6 = 1 → PT μ r) ∧ (μ 4 7 = 1 → μ 4 6 = 1 ∧ PrOK μ r) ∧ ∀ p, 0 ≤ p → p < 4 → ScrI μ p
/-- what update may change -/
def UpFr (μ ν : Mem) : Prop := CSh ν ∧ ∀ z k, ¬ ((z = 4 ∧ (k = 6 ∨ k = 7)) ∨ (6 ≤ z ∧ z ≤ 22 ∧ 0 ≤ k)) → ν z k = μ z k
theorem UpFr.sht {μ ν : Mem} {c : Int} {r : Row} (c0 : 0 ≤ c) (hr : okRow r) (h : UpFr μ ν) (hT : Sht μ c r) : Sht ν c r := hT.fr hr (fun a k _ _ _ => h.2 a k (by omega)) (fun a k _ _ => h.2 a k (by omega)) (by rw [h.2 _ _ (by omega)]; exact Int.le_refl _)
theorem UpFr.rf {μ : Mem} (hS : CSh μ) : UpFr μ μ := ⟨hS, fun _ _ _ => rfl⟩
theorem UpFr.tr {μ ν ξ : Mem} (h : UpFr μ ν) (h2 : UpFr ν ξ) : UpFr μ ξ := ⟨h2.1, fun z k hz => by rw [h2.2 z k hz, h.2 z k hz]⟩
theorem Scr.i {μ : Mem} {p sh a b : Int} (h : Scr μ p sh a b) : ScrI μ p := by
  refine Or.inr ?_
  rw [h.1.2.2.2, h.1.1, h.1.2.1]
  exact h
theorem Scr.fr {μ ν : Mem} {p sh a b : Int} (h : Scr μ p sh a b) (h1 : ∀ k, 0 ≤ k → ν (15 + 2 * p) k = μ (15 + 2 * p) k) (h2 : ∀ k, 0 ≤ k → ν (16 + 2 * p) k = μ (16 + 2 * p) k) : Scr ν p sh a b :=
  ⟨⟨by rw [h1 _ (by omega), h.1.1], by rw [h1 _ (by omega), h.1.2.1], by rw [h1 _ (by omega), h.1.2.2.1], by rw [h1 _ (by omega), h.1.2.2.2]⟩, fun k k0 k1 => by rw [h2 _ k0, h.2 k k0 k1]⟩
theorem ScrI.fr {μ ν : Mem} {p : Int} (h : ScrI μ p) (h1 : ∀ k, 0 ≤ k → ν (15 + 2 * p) k = μ (15 + 2 * p) k) (h2 : ∀ k, 0 ≤ k → ν (16 + 2 * p) k = μ (16 + 2 * p) k) : ScrI ν p := by
  rcases h with h | h
  · exact Or.inl (by rw [h1 _ (by omega), h])
  · exact (h.fr h1 h2).i
theorem PT.fr {μ ν : Mem} {r : Row} (hr : okRow r) (h : PT μ r) (h1 : ∀ a k, 6 ≤ a → a ≤ 9 → 0 ≤ k → ν a k = μ a k) : PT ν r := fun p p0 p1 x y x0 x1 y0 y1 => by
  have hr1 := hr.1
  have hr2 := hr.2.1
  have hc := cell_lt (show r 0 ≤ 16 by omega) (show r 1 ≤ 12 by omega) x0 x1 y0 y1
  rw [h1 _ _ (by omega) (by omega) hc.2.2.1]
  exact h p p0 p1 x y x0 x1 y0 y1
section UPD2
variable {μ : Mem} {c p : Int} {r : Row}
theorem update_dots (hS : CSh μ) (c0 : 0 ≤ c) (c1 : c < 10) (hr : okRow r) (hT : Sht μ c r) (hP : PT μ r) (hC : ∀ p, 0 ≤ p → p < 4 → ScrI μ p) (hf : μ 4 6 = 1) (hz : ∀ x y, 0 ≤ x → x < r 0 → 0 ≤ y → y < r 1 → μ 10 (y * r 0 + x) = 0) : ∃ ν, LX2_update_51 FU 4 (25 + 8 * c) 0 μ = RT 0 ν ∧ UpFr μ ν ∧ PrOK ν r ∧ (∀ p, 0 ≤ p → p < 4 → ScrI ν p) ∧ ν 4 6 = 1 ∧ ν 4 7 = 1 := by
  have hr1 := hr.1
  have hr2 := hr.2.1
  refine lpR (fun n q s => LX2_update_51 n 4 (25 + 8 * c) q s) (fun q ν => 0 ≤ q ∧ UpFr μ ν ∧ PT ν r ∧ (∀ x y, 0 ≤ x → x < r 0 → 0 ≤ y → y < r 1 → ν 10 (y * r 0 + x) = ik r x y q.toNat) ∧ (∀ p, 0 ≤ p → p < q → ν 11 p = dotsOf r p ∧ ScrR ν r p) ∧ (∀ p, 0 ≤ p → p < 4 → ScrI ν p) ∧ ν 4 6 = 1) (r 2) (fun R => ∃ ν, R = RT 0 ν ∧ UpFr μ ν ∧ PrOK ν r ∧ (∀ p, 0 ≤ p → p < 4 → ScrI ν p) ∧ ν 4 6 = 1 ∧ ν 4 7 = 1) (fun n q s q1 hI => ?_) (fun n s hI => ?_) FU 0 μ (by omega) (by rw [show ((FU : Nat) : Int) = 20000 from rfl]; omega) ⟨Int.le_refl _, UpFr.rf hS, hP, hz, fun p p0 p1 => by omega, hC, hf⟩
  · obtain ⟨q0, h1, h2, h3, h4, h5, h6⟩ := hI
    have hT2 := h1.sht c0 hr hT
    have hq : ¬ r 2 ≤ q := by omega
    obtain ⟨ν, e, f, g1, g2, g3⟩ := putDots_rt h1.1 c0 c1 q0 q1 hr hT2 h2 (h5 q q0 (by omega)) h3
    refine ⟨ν, ⟨by omega, ⟨h1.1.fr fun z k hs => f z k (by unfold CSt at hs; omega), fun z k hz => by rw [f z k (by omega), h1.2 z k hz]⟩, h2.fr hr fun a k _ _ _ => f a k (by omega), fun x y x0 x1 y0 y1 => ?_, fun p p0 p1 => ?_, fun p p0 p1 => ?_, by rw [f _ _ (by omega), h6]⟩, ?_⟩
    · rw [show (q + 1).toNat = q.toNat + 1 by omega]
      exact g1 x y x0 x1 y0 y1
    · by_cases e2 : p = q
      · subst e2
        exact ⟨g2, g3⟩
      · obtain ⟨k1, k2⟩ := h4 p p0 (by omega)
        exact ⟨by rw [f _ _ (by omega), k1], k2.fr (fun k k0 => f _ _ (by omega)) (fun k k0 => f _ _ (by omega))⟩
    · by_cases e2 : p = q
      · subst e2
        exact g3.i
      · exact (h5 p p0 p1).fr (fun k k0 => f _ _ (by omega)) (fun k k0 => f _ _ (by omega))
    · have hS3 := h1.1
      simp (disch := omega) only [LX2_update_51, BX2_update_51, ↓hS3.g6_0, ↓hS3.g6_1, ↓hS3.g6_2, ↓hS3.g6_3, ↓hS3.g6_4, ↓hS3.g6_5, ↓hS3.g6_7, ↓hS3.g6_8, ↓hS3.k6, ↓hS3.g2_0, ↓hS3.g2_1, ↓hS3.g2_2, ↓hS3.g2_3, ↓hS3.g2_4, ↓hS3.g2_5, ↓hS3.g2_6, ↓hS3.g2_7, ↓hS3.k2, ↓hS3.g3_0, ↓hS3.g3_1, ↓hS3.g3_2, ↓hS3.g3_3, ↓hS3.g3_4, ↓hS3.k3, ↓hS3.g4_0, ↓hS3.g4_1, ↓hS3.g4_3, ↓hS3.g4_5, ↓hS3.g4_6, ↓hS3.g4_7, ↓hS3.g4_8, ↓hS3.g4_9, ↓hS3.g4_10, ↓hS3.g4_12, ↓hS3.g4_11, ↓hS3.k4, ↓hS3.g5_0, ↓hS3.g5_1, ↓hS3.g5_2, ↓hS3.g5_3, ↓hS3.g5_4, ↓hS3.g5_5, ↓hS3.g5_6, ↓hS3.k5, ↓hS3.g1_0, ↓hS3.g1_1, ↓hS3.g1_2, ↓hS3.g1_3, ↓hS3.g1_4, ↓hS3.g1_5, ↓hS3.g1_6, ↓hS3.g1_7, ↓hS3.k1, ↓hS3.l3, ↓hS3.n3, ↓hS3.l26, ↓hS3.n26, ↓hS3.l5, ↓hS3.n5, ↓hS3.l12, ↓hS3.n12, ↓hS3.l6, ↓hS3.n6, ↓hS3.l10, ↓hS3.n10, ↓hS3.l11, ↓hS3.n11, ↓hS3.l13, ↓hS3.n13, ↓hS3.l14, ↓hS3.n14, ↓hS3.l16, ↓hS3.n16, ↓hS3.l24, ↓hS3.n24, ↓hS3.l27, ↓hS3.n27, ↓hS3.l28, ↓hS3.n28, ↓hS3.l2, ↓hS3.n2, hT2.1.2.2.2, hq, ↓reduceIte, e, CLX_rt, CL, w32_eq]
  · obtain ⟨q0, h1, h2, h3, h4, h5, h6⟩ := hI
    have hT2 := h1.sht c0 hr hT
    have hS3 := h1.1
    refine ⟨mUp s 4 7 1, ?_, ⟨hS3.up (by unfold CSt; omega), fun z k hz => by rw [mUp_ne _ _ (by omega), h1.2 z k hz]⟩, ⟨h2.fr hr fun a k _ _ _ => mUp_ne _ _ (by omega), fun x y x0 x1 y0 y1 => ?_, fun p p0 p1 => ?_, fun p p0 p1 => (h4 p p0 p1).2.fr (fun k k0 => mUp_ne _ _ (by omega)) (fun k k0 => mUp_ne _ _ (by omega))⟩, fun p p0 p1 => (h5 p p0 p1).fr (fun k k0 => mUp_ne _ _ (by omega)) (fun k k0 => mUp_ne _ _ (by omega)), by rw [mUp_ne _ _ (by omega), h6], mUp_same _ _ _ _⟩
    · simp (disch := omega) only [LX2_update_51, BX2_update_51, BX2_update_76, ↓hS3.g6_0, ↓hS3.g6_1, ↓hS3.g6_2, ↓hS3.g6_3, ↓hS3.g6_4, ↓hS3.g6_5, ↓hS3.g6_7, ↓hS3.g6_8, ↓hS3.k6, ↓hS3.g2_0, ↓hS3.g2_1, ↓hS3.g2_2, ↓hS3.g2_3, ↓hS3.g2_4, ↓hS3.g2_5, ↓hS3.g2_6, ↓hS3.g2_7, ↓hS3.k2, ↓hS3.g3_0, ↓hS3.g3_1, ↓hS3.g3_2, ↓hS3.g3_3, ↓hS3.g3_4, ↓hS3.k3, ↓hS3.g4_0, ↓hS3.g4_1, ↓hS3.g4_3, ↓hS3.g4_5, ↓hS3.g4_6, ↓hS3.g4_7, ↓hS3.g4_8, ↓hS3.g4_9, ↓hS3.g4_10, ↓hS3.g4_12, ↓hS3.g4_11, ↓hS3.k4, ↓hS3.g5_0, ↓hS3.g5_1, ↓hS3.g5_2, ↓hS3.g5_3, ↓hS3.g5_4, ↓hS3.g5_5, ↓hS3.g5_6, ↓hS3.k5, ↓hS3.g1_0, ↓hS3.g1_1, ↓hS3.g1_2, ↓hS3.g1_3, ↓hS3.g1_4, ↓hS3.g1_5, ↓hS3.g1_6, ↓hS3.g1_7, ↓hS3.k1, ↓hS3.l3, ↓hS3.n3, ↓hS3.l26, ↓hS3.n26, ↓hS3.l5, ↓hS3.n5, ↓hS3.l12, ↓hS3.n12, ↓hS3.l6, ↓hS3.n6, ↓hS3.l10, ↓hS3.n10, ↓hS3.l11, ↓hS3.n11, ↓hS3.l13, ↓hS3.n13, ↓hS3.l14, ↓hS3.n14, ↓hS3.l16, ↓hS3.n16, ↓hS3.l24, ↓hS3.n24, ↓hS3.l27, ↓hS3.n27, ↓hS3.l28, ↓hS3.n28, ↓hS3.l2, ↓hS3.n2, ↓hS3.z2_7, hT2.1.2.2.2, Int.le_refl, ↓reduceIte]
    · rw [mUp_ne _ _ (by omega)]
      exact h3 x y x0 x1 y0 y1
    · rw [mUp_ne _ _ (by omega)]
      exact (h4 p p0 p1).1
theorem update_34 (hS : CSh μ) (c0 : 0 ≤ c) (c1 : c < 10) (hr : okRow r) (hT : Sht μ c r) (hP : CPr μ r) (hf : μ 4 6 = 1) : ∃ ν, BX2_update_34 4 (25 + 8 * c) μ = RT 0 ν ∧ UpFr μ ν ∧ PrOK ν r ∧ CPr ν r ∧ ν 4 6 = 1 ∧ ν 4 7 = 1 := by
  obtain ⟨⟨a1, a2⟩, b, d, e⟩ := hP
  have hr1 := hr.1
  unfold BX2_update_34
  rw [hS.g2_7]
  rcases a2 with h | h
  · rw [h, if_neg (by decide), hS.g2_1]
    have hS4 := hS
    obtain ⟨ν1, q1, q2, q3⟩ := fill_rt (μ := μ) (a := 10) (v := 0) (n := 192) hS4.2.2.2.2.2.1.1 hS4.2.2.2.2.2.1.2.1 (by omega) (by omega) (by omega)
    rw [q1]
    simp only [CL, CLX_rt]
    have hS1 : CSh ν1 := hS.fr fun z k hs => q2 z k (by unfold CSt at hs; omega)
    have f1 : UpFr μ ν1 := ⟨hS1, fun z k hz => q2 z k (by omega)⟩
    obtain ⟨ν, g1, g2, g3, g4, g5, g6⟩ := update_dots hS1 c0 c1 hr (f1.sht c0 hr hT) ((b hf).fr hr fun a k _ _ _ => q2 a k (by omega)) (fun p p0 p1 => (e p p0 p1).fr (fun k k0 => q2 _ _ (by omega)) (fun k k0 => q2 _ _ (by omega))) (by rw [q2 _ _ (by omega), hf]) (fun x y x0 x1 y0 y1 => by
      have hc := cell_lt (show r 0 ≤ 16 by omega) (show r 1 ≤ 12 by omega) x0 x1 y0 y1
      exact q3 _ hc.2.2.1 (by omega))
    exact ⟨ν, g1, f1.tr g2, g3, ⟨⟨Or.inr g5, Or.inr g6⟩, fun _ => g3.1, fun _ => ⟨g5, g3⟩, g4⟩, g5, g6⟩
  · rw [h, if_pos (by decide)]
    exact ⟨μ, rfl, UpFr.rf hS, (d h).2, ⟨⟨a1, Or.inr h⟩, b, d, e⟩, hf, h⟩
theorem update_rt (hS : CSh μ) (c0 : 0 ≤ c) (c1 : c < 10) (hr : okRow r) (hT : Sht μ c r) (hP : CPr μ r) : ∃ ν, FX2_update 4 (25 + 8 * c) μ = RT 0 ν ∧ UpFr μ ν ∧ PrOK ν r ∧ CPr ν r ∧ ν 4 6 = 1 ∧ ν 4 7 = 1 := by
  obtain ⟨⟨a1, a2⟩, b, d, e⟩ := id hP
  have hr1 := hr.1
  have hr2 := hr.2.1
  unfold FX2_update BX2_update_0
  rw [hS.g2_6]
  rcases a1 with h | h
  · have h7 : μ 4 7 = 0 := by
      rcases a2 with h7 | h7
      · exact h7
      · have := (d h7).1
        omega
    rw [h, if_neg (by decide)]
    refine lpR (fun n q s => LX2_update_9 n 4 (25 + 8 * c) q s) (fun q ν => 0 ≤ q ∧ (∀ z k, ¬ (((6 ≤ z ∧ z ≤ 9) ∨ z = 14) ∧ 0 ≤ k) → ν z k = μ z k) ∧ ∀ p, 0 ≤ p → p < q → ∀ x y, 0 ≤ x → x < r 0 → 0 ≤ y → y < r 1 → ν (6 + p) (y * r 0 + x) = tnOn r p x y) (r 2) (fun R => ∃ ν, R = RT 0 ν ∧ UpFr μ ν ∧ PrOK ν r ∧ CPr ν r ∧ ν 4 6 = 1 ∧ ν 4 7 = 1) (fun n q s q1 hI => ?_) (fun n s hI => ?_) FU 0 μ (by omega) (by rw [show ((FU : Nat) : Int) = 20000 from rfl]; omega) ⟨Int.le_refl _, fun _ _ _ => rfl, fun p p0 p1 => by omega⟩
    · obtain ⟨q0, h1, h2⟩ := hI
      have hS2 : CSh s := hS.fr fun z k hs => h1 z k (by unfold CSt at hs; omega)
      have f1 : UpFr μ s := ⟨hS2, fun z k hz => h1 z k (by omega)⟩
      have hT2 := f1.sht c0 hr hT
      have hq : ¬ r 2 ≤ q := by omega
      obtain ⟨ν, e1, e2, e3⟩ := takeTones_rt hS2 c0 c1 q0 q1 hr hT2
      refine ⟨ν, ⟨by omega, fun z k hz => by rw [e2 _ _ (by omega), h1 z k hz], fun p p0 p1 x y x0 x1 y0 y1 => ?_⟩, ?_⟩
      · by_cases e4 : p = q
        · subst e4
          exact e3 x y x0 x1 y0 y1
        · rw [e2 _ _ (by omega)]
          exact h2 p p0 (by omega) x y x0 x1 y0 y1
      · simp (disch := omega) only [LX2_update_9, BX2_update_9, ↓hS2.g6_0, ↓hS2.g6_1, ↓hS2.g6_2, ↓hS2.g6_3, ↓hS2.g6_4, ↓hS2.g6_5, ↓hS2.g6_7, ↓hS2.g6_8, ↓hS2.k6, ↓hS2.g2_0, ↓hS2.g2_1, ↓hS2.g2_2, ↓hS2.g2_3, ↓hS2.g2_4, ↓hS2.g2_5, ↓hS2.g2_6, ↓hS2.g2_7, ↓hS2.k2, ↓hS2.g3_0, ↓hS2.g3_1, ↓hS2.g3_2, ↓hS2.g3_3, ↓hS2.g3_4, ↓hS2.k3, ↓hS2.g4_0, ↓hS2.g4_1, ↓hS2.g4_3, ↓hS2.g4_5, ↓hS2.g4_6, ↓hS2.g4_7, ↓hS2.g4_8, ↓hS2.g4_9, ↓hS2.g4_10, ↓hS2.g4_12, ↓hS2.g4_11, ↓hS2.k4, ↓hS2.g5_0, ↓hS2.g5_1, ↓hS2.g5_2, ↓hS2.g5_3, ↓hS2.g5_4, ↓hS2.g5_5, ↓hS2.g5_6, ↓hS2.k5, ↓hS2.g1_0, ↓hS2.g1_1, ↓hS2.g1_2, ↓hS2.g1_3, ↓hS2.g1_4, ↓hS2.g1_5, ↓hS2.g1_6, ↓hS2.g1_7, ↓hS2.k1, ↓hS2.l3, ↓hS2.n3, ↓hS2.l26, ↓hS2.n26, ↓hS2.l5, ↓hS2.n5, ↓hS2.l12, ↓hS2.n12, ↓hS2.l6, ↓hS2.n6, ↓hS2.l10, ↓hS2.n10, ↓hS2.l11, ↓hS2.n11, ↓hS2.l13, ↓hS2.n13, ↓hS2.l14, ↓hS2.n14, ↓hS2.l16, ↓hS2.n16, ↓hS2.l24, ↓hS2.n24, ↓hS2.l27, ↓hS2.n27, ↓hS2.l28, ↓hS2.n28, ↓hS2.l2, ↓hS2.n2, hT2.1.2.2.2, hq, ↓reduceIte, e1, CLX_rt, CL, w32_eq]
    · obtain ⟨q0, h1, h2⟩ := hI
      have hS2 : CSh s := hS.fr fun z k hs => h1 z k (by unfold CSt at hs; omega)
      have f1 : UpFr μ s := ⟨hS2, fun z k hz => h1 z k (by omega)⟩
      have hT2 := f1.sht c0 hr hT
      have hS3 : CSh (mUp s 4 6 1) := hS2.up (by unfold CSt; omega)
      have f2 : UpFr μ (mUp s 4 6 1) := ⟨hS3, fun z k hz => by rw [mUp_ne _ _ (by omega), h1 z k (by omega)]⟩
      have h47 : mUp s 4 6 1 4 7 = 0 := by rw [mUp_ne _ _ (by omega), h1 _ _ (by omega), h7]
      have h46 : mUp s 4 6 1 4 6 = 1 := mUp_same _ _ _ _
      have hPT : PT (mUp s 4 6 1) r := fun p p0 p1 x y x0 x1 y0 y1 => by
        rw [mUp_ne _ _ (by omega)]
        exact h2 p p0 p1 x y x0 x1 y0 y1
      obtain ⟨ν, g1, g2, g3, g4, g5, g6⟩ := update_34 hS3 c0 c1 hr (f2.sht c0 hr hT) ⟨⟨Or.inr h46, Or.inl h47⟩, fun _ => hPT, fun h => by omega, fun p p0 p1 => (e p p0 p1).fr (fun k k0 => by rw [mUp_ne _ _ (by omega), h1 _ _ (by omega)]) (fun k k0 => by rw [mUp_ne _ _ (by omega), h1 _ _ (by omega)])⟩ h46
      refine ⟨ν, ?_, f2.tr g2, g3, g4, g5, g6⟩
      simp (disch := omega) only [LX2_update_9, BX2_update_9, ↓hS2.g6_0, ↓hS2.g6_1, ↓hS2.g6_2, ↓hS2.g6_3, ↓hS2.g6_4, ↓hS2.g6_5, ↓hS2.g6_7, ↓hS2.g6_8, ↓hS2.k6, ↓hS2.g2_0, ↓hS2.g2_1, ↓hS2.g2_2, ↓hS2.g2_3, ↓hS2.g2_4, ↓hS2.g2_5, ↓hS2.g2_6, ↓hS2.g2_7, ↓hS2.k2, ↓hS2.g3_0, ↓hS2.g3_1, ↓hS2.g3_2, ↓hS2.g3_3, ↓hS2.g3_4, ↓hS2.k3, ↓hS2.g4_0, ↓hS2.g4_1, ↓hS2.g4_3, ↓hS2.g4_5, ↓hS2.g4_6, ↓hS2.g4_7, ↓hS2.g4_8, ↓hS2.g4_9, ↓hS2.g4_10, ↓hS2.g4_12, ↓hS2.g4_11, ↓hS2.k4, ↓hS2.g5_0, ↓hS2.g5_1, ↓hS2.g5_2, ↓hS2.g5_3, ↓hS2.g5_4, ↓hS2.g5_5, ↓hS2.g5_6, ↓hS2.k5, ↓hS2.g1_0, ↓hS2.g1_1, ↓hS2.g1_2, ↓hS2.g1_3, ↓hS2.g1_4, ↓hS2.g1_5, ↓hS2.g1_6, ↓hS2.g1_7, ↓hS2.k1, ↓hS2.l3, ↓hS2.n3, ↓hS2.l26, ↓hS2.n26, ↓hS2.l5, ↓hS2.n5, ↓hS2.l12, ↓hS2.n12, ↓hS2.l6, ↓hS2.n6, ↓hS2.l10, ↓hS2.n10, ↓hS2.l11, ↓hS2.n11, ↓hS2.l13, ↓hS2.n13, ↓hS2.l14, ↓hS2.n14, ↓hS2.l16, ↓hS2.n16, ↓hS2.l24, ↓hS2.n24, ↓hS2.l27, ↓hS2.n27, ↓hS2.l28, ↓hS2.n28, ↓hS2.l2, ↓hS2.n2, ↓hS2.z2_6, hT2.1.2.2.2, Int.le_refl, ↓reduceIte]
      exact g1
  · rw [h, if_pos (by decide)]
    exact update_34 hS c0 c1 hr hT hP h
end UPD2

