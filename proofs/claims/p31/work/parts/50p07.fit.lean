/-! a screen's ranks are laid -/
theorem mUp_at (μ : Mem) (a k v x j : Int) : mUp μ a k v x j = if x = a ∧ j = k then v else μ x j := rfl
theorem fill_rt {μ : Mem} {a v n : Int} (h1 : μ a (-1) = 21) (h2 : μ a (-2) = n) (a0 : 0 < a) (n0 : 0 ≤ n) (n1 : n ≤ 5200) : ∃ ν, FJ7_fill_53178 a v μ = RT 0 ν ∧ (∀ x k, ¬ (x = a ∧ 0 ≤ k ∧ k < n) → ν x k = μ x k) ∧ ∀ k, 0 ≤ k → k < n → ν a k = v := by
  refine ⟨fun x k => if x = a ∧ 0 ≤ k ∧ k < n then v else μ x k, ?_, fun x k h => if_neg h, fun k k0 k1 => if_pos ⟨rfl, k0, k1⟩⟩
  unfold FJ7_fill_53178 BJ7_fill_53178_0
  rw [LN_of (t := 1) h1 h2]
  have h := lp (fun m i s => LJ7_fill_53178_5 m a v i n s) (fun i => (fun x k => if x = a ∧ 0 ≤ k ∧ k < i then v else μ x k : Mem)) n (RT 0 (fun x k => if x = a ∧ 0 ≤ k ∧ k < n then v else μ x k)) (fun m i i0 i1 => ?_) (fun m => ?_) FU 0 (Int.le_refl _) n0 (by rw [show ((FU : Nat) : Int) = 20000 from rfl]; omega)
  · have e : (fun x k => if x = a ∧ 0 ≤ k ∧ k < 0 then v else μ x k : Mem) = μ := by
      funext x k
      exact if_neg (by omega)
    simp only [e] at h
    exact h
  · have h3 : ¬ n ≤ i := by omega
    have g1 : (if a = a ∧ (0 : Int) ≤ -1 ∧ -1 < i then v else μ a (-1)) = 1 + 20 := by rw [if_neg (by omega), h1]; rfl
    have g2 : (if a = a ∧ (0 : Int) ≤ -2 ∧ -2 < i then v else μ a (-2)) = n := by rw [if_neg (by omega), h2]
    have e : mUp (fun x k => if x = a ∧ 0 ≤ k ∧ k < i then v else μ x k) a i v = (fun x k => if x = a ∧ 0 ≤ k ∧ k < i + 1 then v else μ x k) := by
      funext x k
      rw [mUp_at]
      by_cases q : x = a ∧ 0 ≤ k ∧ k < i + 1
      · rw [if_pos q]
        by_cases q2 : x = a ∧ k = i
        · rw [if_pos q2]
        · rw [if_neg q2, if_pos (by omega)]
      · rw [if_neg q, if_neg (by omega), if_neg (by omega)]
    simp only [LJ7_fill_53178_5, BJ7_fill_53178_5, h3, ↓reduceIte]
    rw [AS_of (t := 1) a0 g1 g2 i0 i1, e, w32_eq (by omega) (by omega)]
  · simp only [LJ7_fill_53178_5, BJ7_fill_53178_5, Int.le_refl, ↓reduceIte]
theorem ab_le {z n : Int} (h0 : -n ≤ z) (h1 : z ≤ n) : 0 ≤ ab z ∧ ab z ≤ n := by
  unfold ab
  split <;> omega
theorem mAt_le {sh a b x y : Int} (h0 : 1 ≤ a * a + b * b) (h1 : a * a + b * b ≤ 18) : 0 ≤ mAt sh a b x y ∧ mAt sh a b x y ≤ 648 := by
  have u0 := Int.emod_nonneg (a * x + b * y) (show a * a + b * b ≠ 0 by omega)
  have u1 := Int.emod_lt_of_pos (a * x + b * y) (show 0 < a * a + b * b by omega)
  have v0 := Int.emod_nonneg (a * y - b * x) (show a * a + b * b ≠ 0 by omega)
  have v1 := Int.emod_lt_of_pos (a * y - b * x) (show 0 < a * a + b * b by omega)
  have a1 := ab_le (z := 2 * ((a * x + b * y) % (a * a + b * b)) - (a * a + b * b)) (n := 18) (by omega) (by omega)
  have a2 := ab_le (z := 2 * ((a * y - b * x) % (a * a + b * b)) - (a * a + b * b)) (n := 18) (by omega) (by omega)
  have m1 := mul_le_of a1.1 a1.2 a1.1 a1.2
  have m2 := mul_le_of a2.1 a2.2 a2.1 a2.2
  unfold mAt mShape mx
  split
  · omega
  · split
    · omega
    · split
      · omega
      · split <;> omega
theorem mK_at {sh a b x y : Int} (x0 : 0 ≤ x) (x1 : x < a * a + b * b) : mK sh a b (y * (a * a + b * b) + x) = mAt sh a b x y := by
  unfold mK
  have h1 : (y * (a * a + b * b) + x) % (a * a + b * b) = x := by
    rw [Int.add_comm, Int.add_mul_emod_self_right, Int.emod_eq_of_lt x0 x1]
  have h2 : (y * (a * a + b * b) + x) / (a * a + b * b) = y := by
    rw [Int.add_comm, Int.add_mul_ediv_right _ _ (by omega), Int.ediv_eq_zero_of_lt x0 x1]
    omega
  rw [h1, h2]
/-- the rank by two counts -/
theorem rk_two {sh a b k : Int} (k0 : 0 ≤ k) (k1 : k < (a * a + b * b) * (a * a + b * b)) : rk sh a b k = su (fun j => b2 (mK sh a b j < mK sh a b k)) ((a * a + b * b) * (a * a + b * b)) + su (fun j => b2 (mK sh a b j = mK sh a b k)) k := by
  unfold rk
  generalize (a * a + b * b) * (a * a + b * b) = N at k1
  have h1 : su (fun j => b2 (mK sh a b j = mK sh a b k ∧ j < k)) N = su (fun j => b2 (mK sh a b j = mK sh a b k)) k := by
    have h2 := su_split (fun j => b2 (mK sh a b j = mK sh a b k ∧ j < k)) k0 (N - k).toNat
    rw [Int.toNat_of_nonneg (by omega), show k + (N - k) = N by omega] at h2
    rw [h2, su_ext (g := fun _ => 0) (n := N - k) fun i i0 i1 => b2_f (by omega)]
    have hz : su (fun _ => 0) (N - k) = 0 := sm_zero _
    rw [hz, Int.add_zero]
    refine su_ext fun i i0 i1 => ?_
    by_cases q : mK sh a b i = mK sh a b k
    · rw [b2_t q, b2_t ⟨q, i1⟩]
    · rw [b2_f q, b2_f (fun h => q h.1)]
  rw [← h1, ← su_add]
  refine su_ext fun i i0 i1 => ?_
  by_cases q : mK sh a b i < mK sh a b k
  · rw [if_pos (Or.inl q), b2_t q, b2_f (by omega)]
    rfl
  · rw [b2_f q]
    by_cases q2 : mK sh a b i = mK sh a b k ∧ i < k
    · rw [if_pos (Or.inr q2), b2_t q2]
      rfl
    · rw [if_neg (by omega), b2_f q2]
      rfl
section FIT
variable {μ : Mem} {c p : Int}
/-- what fit may change -/
def FitFr (p : Int) (μ ν : Mem) : Prop := ∀ x k, ¬ ((x = 13 ∧ 0 ≤ k) ∨ (x = 15 + 2 * p ∧ 0 ≤ k ∧ k ≤ 3) ∨ (x = 16 + 2 * p ∧ 0 ≤ k)) → ν x k = μ x k
theorem CSh.fit (hS : CSh μ) {ν : Mem} (p0 : 0 ≤ p) (p1 : p < 4) (h : FitFr p μ ν) : CSh ν := hS.fr fun a k hs => h a k (by unfold CSt at hs; omega)
theorem fit_3 {sh a b : Int} {μ2 : Mem} (hS2 : CSh μ2) (p0 : 0 ≤ p) (p1 : p < 4) (ha : 0 ≤ a ∧ a ≤ 3) (hb : 0 ≤ b ∧ b ≤ 3) (hab : 0 < a + b) (hs : 0 ≤ sh ∧ sh ≤ 3) (e0 : μ2 (15 + 2 * p) 0 = a) (e1 : μ2 (15 + 2 * p) 1 = b) (e2 : μ2 (15 + 2 * p) 2 = a * a + b * b) (e3 : μ2 (15 + 2 * p) 3 = sh) (hz : ∀ j, 0 ≤ j → j < 650 → μ2 13 j = su (fun t => b2 (mK sh a b t < j)) ((a * a + b * b) * (a * a + b * b))) : ∃ ν, LX3_fit_147 FU (15 + 2 * p) 13 0 μ2 = RT 0 ν ∧ FitFr p μ2 ν ∧ Scr ν p sh a b := by
  have hq := sq_pos ha hb hab
  have hN := mul_le_of (a := a * a + b * b) (b := a * a + b * b) (c := 18) (d := 18) (by omega) hq.2 (by omega) hq.2
  refine dblR (fun n y0 y1 y2 ν => LX3_fit_147 n y0 y1 y2 ν) (fun k s y => k (15 + 2 * p) 13 y s) (fun k n s y x => LX3_fit_158 k n (15 + 2 * p) 13 y x s) (a * a + b * b) (a * a + b * b) (fun x y ν => (∀ z k, ¬ ((z = 13 ∧ 0 ≤ k) ∨ (z = 16 + 2 * p ∧ 0 ≤ k)) → ν z k = μ2 z k) ∧ (∀ j, 0 ≤ j → j < 650 → ν 13 j = su (fun t => b2 (mK sh a b t < j)) ((a * a + b * b) * (a * a + b * b)) + su (fun t => b2 (mK sh a b t = j)) (y * (a * a + b * b) + x)) ∧ ∀ k, 0 ≤ k → k < y * (a * a + b * b) + x → ν (16 + 2 * p) k = rk sh a b k) (fun r => ∃ ν, r = RT 0 ν ∧ FitFr p μ2 ν ∧ Scr ν p sh a b) (by omega) (by omega) (fun n s y y0 y1 hI => ?_) (fun n s hI => ?_) (fun k n s y x y0 y1 x0 x1 hI => ?_) (fun k n s y y0 y1 hI => ?_) FU 0 μ2 (Int.le_refl _) (by omega) (by rw [show ((FU : Nat) : Int) = 20000 from rfl]; omega) ⟨fun _ _ _ => rfl, fun j j0 j1 => by rw [hz j j0 j1, Int.zero_mul, Int.add_zero, su_0, Int.add_zero], fun k k0 k1 => by rw [Int.zero_mul] at k1; omega⟩
  · have hS := hS2.fr fun z k hs => hI.1 z k (by unfold CSt at hs; omega)
    have g2 : s (15 + 2 * p) 2 = a * a + b * b := by rw [hI.1 _ _ (by omega), e2]
    have h : ¬ a * a + b * b ≤ y := by omega
    simp (disch := omega) only [LX3_fit_147, BX3_fit_147, ↓hS.g6_0, ↓hS.g6_1, ↓hS.g6_2, ↓hS.g6_3, ↓hS.g6_4, ↓hS.g6_5, ↓hS.g6_7, ↓hS.g6_8, ↓hS.k6, ↓hS.g2_0, ↓hS.g2_1, ↓hS.g2_2, ↓hS.g2_3, ↓hS.g2_4, ↓hS.g2_5, ↓hS.g2_6, ↓hS.g2_7, ↓hS.k2, ↓hS.g3_0, ↓hS.g3_1, ↓hS.g3_2, ↓hS.g3_3, ↓hS.g3_4, ↓hS.k3, ↓hS.g4_0, ↓hS.g4_1, ↓hS.g4_3, ↓hS.g4_5, ↓hS.g4_6, ↓hS.g4_7, ↓hS.g4_8, ↓hS.g4_9, ↓hS.g4_10, ↓hS.g4_12, ↓hS.g4_11, ↓hS.k4, ↓hS.g5_0, ↓hS.g5_1, ↓hS.g5_2, ↓hS.g5_3, ↓hS.g5_4, ↓hS.g5_5, ↓hS.g5_6, ↓hS.k5, ↓hS.g1_0, ↓hS.g1_1, ↓hS.g1_2, ↓hS.g1_3, ↓hS.g1_4, ↓hS.g1_5, ↓hS.g1_6, ↓hS.g1_7, ↓hS.k1, ↓hS.l3, ↓hS.n3, ↓hS.l26, ↓hS.n26, ↓hS.l5, ↓hS.n5, ↓hS.l12, ↓hS.n12, ↓hS.l6, ↓hS.n6, ↓hS.l10, ↓hS.n10, ↓hS.l11, ↓hS.n11, ↓hS.l13, ↓hS.n13, ↓hS.l14, ↓hS.n14, ↓hS.l16, ↓hS.n16, ↓hS.l24, ↓hS.n24, ↓hS.l27, ↓hS.n27, ↓hS.l28, ↓hS.n28, ↓hS.l2, ↓hS.n2, g2, h, ↓reduceIte]
  · have hS := hS2.fr fun z k hs => hI.1 z k (by unfold CSt at hs; omega)
    have g2 : s (15 + 2 * p) 2 = a * a + b * b := by rw [hI.1 _ _ (by omega), e2]
    refine ⟨s, ?_, fun z k hz => hI.1 z k (by omega), ⟨by rw [hI.1 _ _ (by omega), e0], by rw [hI.1 _ _ (by omega), e1], g2, by rw [hI.1 _ _ (by omega), e3]⟩, fun k k0 k1 => hI.2.2 k k0 (by omega)⟩
    simp (disch := omega) only [LX3_fit_147, BX3_fit_147, ↓hS.g6_0, ↓hS.g6_1, ↓hS.g6_2, ↓hS.g6_3, ↓hS.g6_4, ↓hS.g6_5, ↓hS.g6_7, ↓hS.g6_8, ↓hS.k6, ↓hS.g2_0, ↓hS.g2_1, ↓hS.g2_2, ↓hS.g2_3, ↓hS.g2_4, ↓hS.g2_5, ↓hS.g2_6, ↓hS.g2_7, ↓hS.k2, ↓hS.g3_0, ↓hS.g3_1, ↓hS.g3_2, ↓hS.g3_3, ↓hS.g3_4, ↓hS.k3, ↓hS.g4_0, ↓hS.g4_1, ↓hS.g4_3, ↓hS.g4_5, ↓hS.g4_6, ↓hS.g4_7, ↓hS.g4_8, ↓hS.g4_9, ↓hS.g4_10, ↓hS.g4_12, ↓hS.g4_11, ↓hS.k4, ↓hS.g5_0, ↓hS.g5_1, ↓hS.g5_2, ↓hS.g5_3, ↓hS.g5_4, ↓hS.g5_5, ↓hS.g5_6, ↓hS.k5, ↓hS.g1_0, ↓hS.g1_1, ↓hS.g1_2, ↓hS.g1_3, ↓hS.g1_4, ↓hS.g1_5, ↓hS.g1_6, ↓hS.g1_7, ↓hS.k1, ↓hS.l3, ↓hS.n3, ↓hS.l26, ↓hS.n26, ↓hS.l5, ↓hS.n5, ↓hS.l12, ↓hS.n12, ↓hS.l6, ↓hS.n6, ↓hS.l10, ↓hS.n10, ↓hS.l11, ↓hS.n11, ↓hS.l13, ↓hS.n13, ↓hS.l14, ↓hS.n14, ↓hS.l16, ↓hS.n16, ↓hS.l24, ↓hS.n24, ↓hS.l27, ↓hS.n27, ↓hS.l28, ↓hS.n28, ↓hS.l2, ↓hS.n2, g2, Int.le_refl, ↓reduceIte]
  · have hS := hS2.fr fun z k hs => hI.1 z k (by unfold CSt at hs; omega)
    have g0 : s (15 + 2 * p) 0 = a := by rw [hI.1 _ _ (by omega), e0]
    have g1 : s (15 + 2 * p) 1 = b := by rw [hI.1 _ _ (by omega), e1]
    have g2 : s (15 + 2 * p) 2 = a * a + b * b := by rw [hI.1 _ _ (by omega), e2]
    have g3 : s (15 + 2 * p) 3 = sh := by rw [hI.1 _ _ (by omega), e3]
    have hm := mAt_le (sh := sh) (x := x) (y := y) hq.1 hq.2
    have hk := mK_at (sh := sh) (y := y) x0 x1
    have hx : ¬ a * a + b * b ≤ x := by omega
    have m1 : 0 ≤ y * (a * a + b * b) := Int.mul_nonneg y0 (by omega)
    have m2 : (y + 1) * (a * a + b * b) ≤ (a * a + b * b) * (a * a + b * b) := Int.mul_le_mul_of_nonneg_right (by omega) (by omega)
    rw [Int.add_mul, Int.one_mul] at m2
    have hv := hI.2.1 (mAt sh a b x y) hm.1 (by omega)
    have hr := rk_two (sh := sh) (a := a) (b := b) (k := y * (a * a + b * b) + x) (by omega) (by omega)
    rw [hk] at hr
    have hle := rk_le (sh := sh) (k := y * (a * a + b * b) + x) hq.1 hq.2
    rw [← hr] at hv
    have hS3 : CSh (mUp s (16 + 2 * p) (y * (a * a + b * b) + x) (s 13 (mAt sh a b x y))) := hS.up (by unfold CSt; omega)
    have g5 : mUp s (16 + 2 * p) (y * (a * a + b * b) + x) (s 13 (mAt sh a b x y)) 13 (mAt sh a b x y) = s 13 (mAt sh a b x y) := mUp_ne _ _ (by omega)
    refine ⟨mUp (mUp s (16 + 2 * p) (y * (a * a + b * b) + x) (s 13 (mAt sh a b x y))) 13 (mAt sh a b x y) (s 13 (mAt sh a b x y) + 1), ⟨fun z k hz => ?_, fun j j0 j1 => ?_, fun k k0 k1 => ?_⟩, ?_⟩
    · rw [mUp_ne _ _ (by omega), mUp_ne _ _ (by omega)]
      exact hI.1 z k hz
    · rw [← Int.add_assoc, su_s _ (show 0 ≤ y * (a * a + b * b) + x by omega), hk]
      by_cases q : j = mAt sh a b x y
      · subst q
        rw [mUp_same, hI.2.1 _ j0 j1, b2_t rfl]
        omega
      · rw [mUp_ne _ _ (by omega), mUp_ne _ _ (by omega), hI.2.1 _ j0 j1, b2_f (fun h => q h.symm)]
        omega
    · rw [mUp_ne _ _ (by omega)]
      by_cases q : k = y * (a * a + b * b) + x
      · subst q
        rw [mUp_same, hv]
      · rw [mUp_ne _ _ (by omega)]
        exact hI.2.2 k k0 (by omega)
    · simp (disch := omega) only [LX3_fit_158, BX3_fit_158, ↓hS.g6_0, ↓hS.g6_1, ↓hS.g6_2, ↓hS.g6_3, ↓hS.g6_4, ↓hS.g6_5, ↓hS.g6_7, ↓hS.g6_8, ↓hS.k6, ↓hS.g2_0, ↓hS.g2_1, ↓hS.g2_2, ↓hS.g2_3, ↓hS.g2_4, ↓hS.g2_5, ↓hS.g2_6, ↓hS.g2_7, ↓hS.k2, ↓hS.g3_0, ↓hS.g3_1, ↓hS.g3_2, ↓hS.g3_3, ↓hS.g3_4, ↓hS.k3, ↓hS.g4_0, ↓hS.g4_1, ↓hS.g4_3, ↓hS.g4_5, ↓hS.g4_6, ↓hS.g4_7, ↓hS.g4_8, ↓hS.g4_9, ↓hS.g4_10, ↓hS.g4_12, ↓hS.g4_11, ↓hS.k4, ↓hS.g5_0, ↓hS.g5_1, ↓hS.g5_2, ↓hS.g5_3, ↓hS.g5_4, ↓hS.g5_5, ↓hS.g5_6, ↓hS.k5, ↓hS.g1_0, ↓hS.g1_1, ↓hS.g1_2, ↓hS.g1_3, ↓hS.g1_4, ↓hS.g1_5, ↓hS.g1_6, ↓hS.g1_7, ↓hS.k1, ↓hS.l3, ↓hS.n3, ↓hS.l26, ↓hS.n26, ↓hS.l5, ↓hS.n5, ↓hS.l12, ↓hS.n12, ↓hS.l6, ↓hS.n6, ↓hS.l10, ↓hS.n10, ↓hS.l11, ↓hS.n11, ↓hS.l13, ↓hS.n13, ↓hS.l14, ↓hS.n14, ↓hS.l16, ↓hS.n16, ↓hS.l24, ↓hS.n24, ↓hS.l27, ↓hS.n27, ↓hS.l28, ↓hS.n28, ↓hS.l2, ↓hS.n2, g2, hx, ↓reduceIte, ↓CL, ↓measureAt_rt_c hS p0 p1 g0 g1 g2 g3 ha hb hab rfl hs, w32_eq, ↓hS.s16]
      rw [hS3.l13 hm.1 (by omega), hS3.s13 hm.1 (by omega), g5, w32_eq (by omega) (by omega)]
  · have hS := hS2.fr fun z k hs => hI.1 z k (by unfold CSt at hs; omega)
    have g2 : s (15 + 2 * p) 2 = a * a + b * b := by rw [hI.1 _ _ (by omega), e2]
    refine ⟨⟨hI.1, fun j j0 j1 => ?_, fun k k0 k1 => ?_⟩, ?_⟩
    · rw [Int.add_mul y 1, Int.one_mul, Int.add_zero]
      exact hI.2.1 j j0 j1
    · rw [Int.add_mul y 1, Int.one_mul, Int.add_zero] at k1
      exact hI.2.2 k k0 k1
    · simp (disch := omega) only [LX3_fit_158, BX3_fit_158, ↓hS.g6_0, ↓hS.g6_1, ↓hS.g6_2, ↓hS.g6_3, ↓hS.g6_4, ↓hS.g6_5, ↓hS.g6_7, ↓hS.g6_8, ↓hS.k6, ↓hS.g2_0, ↓hS.g2_1, ↓hS.g2_2, ↓hS.g2_3, ↓hS.g2_4, ↓hS.g2_5, ↓hS.g2_6, ↓hS.g2_7, ↓hS.k2, ↓hS.g3_0, ↓hS.g3_1, ↓hS.g3_2, ↓hS.g3_3, ↓hS.g3_4, ↓hS.k3, ↓hS.g4_0, ↓hS.g4_1, ↓hS.g4_3, ↓hS.g4_5, ↓hS.g4_6, ↓hS.g4_7, ↓hS.g4_8, ↓hS.g4_9, ↓hS.g4_10, ↓hS.g4_12, ↓hS.g4_11, ↓hS.k4, ↓hS.g5_0, ↓hS.g5_1, ↓hS.g5_2, ↓hS.g5_3, ↓hS.g5_4, ↓hS.g5_5, ↓hS.g5_6, ↓hS.k5, ↓hS.g1_0, ↓hS.g1_1, ↓hS.g1_2, ↓hS.g1_3, ↓hS.g1_4, ↓hS.g1_5, ↓hS.g1_6, ↓hS.g1_7, ↓hS.k1, ↓hS.l3, ↓hS.n3, ↓hS.l26, ↓hS.n26, ↓hS.l5, ↓hS.n5, ↓hS.l12, ↓hS.n12, ↓hS.l6, ↓hS.n6, ↓hS.l10, ↓hS.n10, ↓hS.l11, ↓hS.n11, ↓hS.l13, ↓hS.n13, ↓hS.l14, ↓hS.n14, ↓hS.l16, ↓hS.n16, ↓hS.l24, ↓hS.n24, ↓hS.l27, ↓hS.n27, ↓hS.l28, ↓hS.n28, ↓hS.l2, ↓hS.n2, g2, Int.le_refl, ↓reduceIte, w32_eq]
theorem fit_2 {sh a b : Int} {μ2 : Mem} (hS2 : CSh μ2) (p0 : 0 ≤ p) (p1 : p < 4) (ha : 0 ≤ a ∧ a ≤ 3) (hb : 0 ≤ b ∧ b ≤ 3) (hab : 0 < a + b) (hs : 0 ≤ sh ∧ sh ≤ 3) (e0 : μ2 (15 + 2 * p) 0 = a) (e1 : μ2 (15 + 2 * p) 1 = b) (e2 : μ2 (15 + 2 * p) 2 = a * a + b * b) (e3 : μ2 (15 + 2 * p) 3 = sh) (hz : ∀ j, 0 ≤ j → j < 650 → μ2 13 j = su (fun t => b2 (mK sh a b t + 1 = j)) ((a * a + b * b) * (a * a + b * b))) : ∃ ν, LX3_fit_122 FU (15 + 2 * p) 13 1 μ2 = RT 0 ν ∧ FitFr p μ2 ν ∧ Scr ν p sh a b := by
  have hq := sq_pos ha hb hab
  have hN := mul_le_of (a := a * a + b * b) (b := a * a + b * b) (c := 18) (d := 18) (by omega) hq.2 (by omega) hq.2
  refine lpR (fun n i s => LX3_fit_122 n (15 + 2 * p) 13 i s) (fun i ν => 1 ≤ i ∧ (∀ z k, ¬ (z = 13 ∧ 0 ≤ k) → ν z k = μ2 z k) ∧ (∀ j, 0 ≤ j → j < i → ν 13 j = su (fun t => b2 (mK sh a b t < j)) ((a * a + b * b) * (a * a + b * b))) ∧ ∀ j, i ≤ j → j < 650 → ν 13 j = su (fun t => b2 (mK sh a b t + 1 = j)) ((a * a + b * b) * (a * a + b * b))) 650 (fun r => ∃ ν, r = RT 0 ν ∧ FitFr p μ2 ν ∧ Scr ν p sh a b) (fun n i s i1 hI => ?_) (fun n s hI => ?_) FU 1 μ2 (by omega) (by rw [show ((FU : Nat) : Int) = 20000 from rfl]; omega) ⟨by omega, fun _ _ _ => rfl, fun j j0 j1 => ?_, fun j j0 j1 => hz j (by omega) j1⟩
  · obtain ⟨i0, h1, h2, h3⟩ := hI
    have hS := hS2.fr fun z k hs => h1 z k (by unfold CSt at hs; omega)
    have hi : ¬ 650 ≤ i := by omega
    have b1 := su_le (f := fun t => b2 (mK sh a b t < i - 1)) (B := 1) hN.1 fun _ _ _ => b2_0
    have b3 := su_le (f := fun t => b2 (mK sh a b t + 1 = i)) (B := 1) hN.1 fun _ _ _ => b2_0
    have v1 := h2 (i - 1) (by omega) (by omega)
    have v3 := h3 i (by omega) i1
    refine ⟨mUp s 13 i (s 13 i + s 13 (i - 1)), ⟨by omega, fun z k hz => ?_, fun j j0 j1 => ?_, fun j j0 j1 => ?_⟩, ?_⟩
    · rw [mUp_ne _ _ (by omega)]
      exact h1 z k hz
    · by_cases q : j = i
      · subst q
        rw [mUp_same, v1, v3, ← su_add]
        refine su_ext fun t _ _ => ?_
        by_cases q1 : mK sh a b t + 1 = j
        · rw [b2_t q1, b2_f (by omega), b2_t (by omega)]
          rfl
        · rw [b2_f q1]
          by_cases q2 : mK sh a b t < j - 1
          · rw [b2_t q2, b2_t (by omega)]
            rfl
          · rw [b2_f q2, b2_f (by omega)]
            rfl
      · rw [mUp_ne _ _ (by omega)]
        exact h2 j j0 (by omega)
    · rw [mUp_ne _ _ (by omega)]
      exact h3 j (by omega) j1
    · simp (disch := omega) only [LX3_fit_122, BX3_fit_122, ↓hS.g6_0, ↓hS.g6_1, ↓hS.g6_2, ↓hS.g6_3, ↓hS.g6_4, ↓hS.g6_5, ↓hS.g6_7, ↓hS.g6_8, ↓hS.k6, ↓hS.g2_0, ↓hS.g2_1, ↓hS.g2_2, ↓hS.g2_3, ↓hS.g2_4, ↓hS.g2_5, ↓hS.g2_6, ↓hS.g2_7, ↓hS.k2, ↓hS.g3_0, ↓hS.g3_1, ↓hS.g3_2, ↓hS.g3_3, ↓hS.g3_4, ↓hS.k3, ↓hS.g4_0, ↓hS.g4_1, ↓hS.g4_3, ↓hS.g4_5, ↓hS.g4_6, ↓hS.g4_7, ↓hS.g4_8, ↓hS.g4_9, ↓hS.g4_10, ↓hS.g4_12, ↓hS.g4_11, ↓hS.k4, ↓hS.g5_0, ↓hS.g5_1, ↓hS.g5_2, ↓hS.g5_3, ↓hS.g5_4, ↓hS.g5_5, ↓hS.g5_6, ↓hS.k5, ↓hS.g1_0, ↓hS.g1_1, ↓hS.g1_2, ↓hS.g1_3, ↓hS.g1_4, ↓hS.g1_5, ↓hS.g1_6, ↓hS.g1_7, ↓hS.k1, ↓hS.l3, ↓hS.n3, ↓hS.l26, ↓hS.n26, ↓hS.l5, ↓hS.n5, ↓hS.l12, ↓hS.n12, ↓hS.l6, ↓hS.n6, ↓hS.l10, ↓hS.n10, ↓hS.l11, ↓hS.n11, ↓hS.l13, ↓hS.n13, ↓hS.l14, ↓hS.n14, ↓hS.l16, ↓hS.n16, ↓hS.l24, ↓hS.n24, ↓hS.l27, ↓hS.n27, ↓hS.l28, ↓hS.n28, ↓hS.l2, ↓hS.n2, hi, ↓reduceIte, w32_eq]
      rw [hS.s13 (by omega) i1]
  · obtain ⟨i0, h1, h2, h3⟩ := hI
    have hS := hS2.fr fun z k hs => h1 z k (by unfold CSt at hs; omega)
    simp (disch := omega) only [LX3_fit_122, BX3_fit_122, ↓hS.g6_0, ↓hS.g6_1, ↓hS.g6_2, ↓hS.g6_3, ↓hS.g6_4, ↓hS.g6_5, ↓hS.g6_7, ↓hS.g6_8, ↓hS.k6, ↓hS.g2_0, ↓hS.g2_1, ↓hS.g2_2, ↓hS.g2_3, ↓hS.g2_4, ↓hS.g2_5, ↓hS.g2_6, ↓hS.g2_7, ↓hS.k2, ↓hS.g3_0, ↓hS.g3_1, ↓hS.g3_2, ↓hS.g3_3, ↓hS.g3_4, ↓hS.k3, ↓hS.g4_0, ↓hS.g4_1, ↓hS.g4_3, ↓hS.g4_5, ↓hS.g4_6, ↓hS.g4_7, ↓hS.g4_8, ↓hS.g4_9, ↓hS.g4_10, ↓hS.g4_12, ↓hS.g4_11, ↓hS.k4, ↓hS.g5_0, ↓hS.g5_1, ↓hS.g5_2, ↓hS.g5_3, ↓hS.g5_4, ↓hS.g5_5, ↓hS.g5_6, ↓hS.k5, ↓hS.g1_0, ↓hS.g1_1, ↓hS.g1_2, ↓hS.g1_3, ↓hS.g1_4, ↓hS.g1_5, ↓hS.g1_6, ↓hS.g1_7, ↓hS.k1, ↓hS.l3, ↓hS.n3, ↓hS.l26, ↓hS.n26, ↓hS.l5, ↓hS.n5, ↓hS.l12, ↓hS.n12, ↓hS.l6, ↓hS.n6, ↓hS.l10, ↓hS.n10, ↓hS.l11, ↓hS.n11, ↓hS.l13, ↓hS.n13, ↓hS.l14, ↓hS.n14, ↓hS.l16, ↓hS.n16, ↓hS.l24, ↓hS.n24, ↓hS.l27, ↓hS.n27, ↓hS.l28, ↓hS.n28, ↓hS.l2, ↓hS.n2, Int.le_refl, ↓reduceIte]
    obtain ⟨ν, g1, g2, g3⟩ := fit_3 hS p0 p1 ha hb hab hs (by rw [h1 _ _ (by omega), e0]) (by rw [h1 _ _ (by omega), e1]) (by rw [h1 _ _ (by omega), e2]) (by rw [h1 _ _ (by omega), e3]) h2
    exact ⟨ν, g1, fun z k hz => by rw [g2 z k hz, h1 z k (by omega)], g3⟩
  · rw [show j = 0 by omega, hz 0 (by omega) (by omega)]
    refine su_ext fun t t0 t1 => ?_
    have hm : 0 ≤ mK sh a b t := (mAt_le hq.1 hq.2).1
    rw [b2_f (by omega), b2_f (by omega)]
theorem fit_1 {sh a b : Int} {μ2 : Mem} (hS2 : CSh μ2) (p0 : 0 ≤ p) (p1 : p < 4) (ha : 0 ≤ a ∧ a ≤ 3) (hb : 0 ≤ b ∧ b ≤ 3) (hab : 0 < a + b) (hs : 0 ≤ sh ∧ sh ≤ 3) (e0 : μ2 (15 + 2 * p) 0 = a) (e1 : μ2 (15 + 2 * p) 1 = b) (e2 : μ2 (15 + 2 * p) 2 = a * a + b * b) (e3 : μ2 (15 + 2 * p) 3 = sh) (hz : ∀ j, 0 ≤ j → j < 650 → μ2 13 j = 0) : ∃ ν, LX3_fit_73 FU (15 + 2 * p) 13 0 μ2 = RT 0 ν ∧ FitFr p μ2 ν ∧ Scr ν p sh a b := by
  have hq := sq_pos ha hb hab
  have hN := mul_le_of (a := a * a + b * b) (b := a * a + b * b) (c := 18) (d := 18) (by omega) hq.2 (by omega) hq.2
  refine dblR (fun n y0 y1 y2 ν => LX3_fit_73 n y0 y1 y2 ν) (fun k s y => k (15 + 2 * p) 13 y s) (fun k n s y x => LX3_fit_84 k n (15 + 2 * p) 13 y x s) (a * a + b * b) (a * a + b * b) (fun x y ν => (∀ z k, ¬ (z = 13 ∧ 0 ≤ k) → ν z k = μ2 z k) ∧ (∀ j, 0 ≤ j → j < 650 → ν 13 j = su (fun t => b2 (mK sh a b t + 1 = j)) (y * (a * a + b * b) + x))) (fun r => ∃ ν, r = RT 0 ν ∧ FitFr p μ2 ν ∧ Scr ν p sh a b) (by omega) (by omega) (fun n s y y0 y1 hI => ?_) (fun n s hI => ?_) (fun k n s y x y0 y1 x0 x1 hI => ?_) (fun k n s y y0 y1 hI => ?_) FU 0 μ2 (Int.le_refl _) (by omega) (by rw [show ((FU : Nat) : Int) = 20000 from rfl]; omega) ⟨fun _ _ _ => rfl, fun j j0 j1 => by rw [hz j j0 j1, Int.zero_mul, Int.add_zero, su_0]⟩
  · have hS := hS2.fr fun z k hs => hI.1 z k (by unfold CSt at hs; omega)
    have g2 : s (15 + 2 * p) 2 = a * a + b * b := by rw [hI.1 _ _ (by omega), e2]
    have h : ¬ a * a + b * b ≤ y := by omega
    simp (disch := omega) only [LX3_fit_73, BX3_fit_73, ↓hS.g6_0, ↓hS.g6_1, ↓hS.g6_2, ↓hS.g6_3, ↓hS.g6_4, ↓hS.g6_5, ↓hS.g6_7, ↓hS.g6_8, ↓hS.k6, ↓hS.g2_0, ↓hS.g2_1, ↓hS.g2_2, ↓hS.g2_3, ↓hS.g2_4, ↓hS.g2_5, ↓hS.g2_6, ↓hS.g2_7, ↓hS.k2, ↓hS.g3_0, ↓hS.g3_1, ↓hS.g3_2, ↓hS.g3_3, ↓hS.g3_4, ↓hS.k3, ↓hS.g4_0, ↓hS.g4_1, ↓hS.g4_3, ↓hS.g4_5, ↓hS.g4_6, ↓hS.g4_7, ↓hS.g4_8, ↓hS.g4_9, ↓hS.g4_10, ↓hS.g4_12, ↓hS.g4_11, ↓hS.k4, ↓hS.g5_0, ↓hS.g5_1, ↓hS.g5_2, ↓hS.g5_3, ↓hS.g5_4, ↓hS.g5_5, ↓hS.g5_6, ↓hS.k5, ↓hS.g1_0, ↓hS.g1_1, ↓hS.g1_2, ↓hS.g1_3, ↓hS.g1_4, ↓hS.g1_5, ↓hS.g1_6, ↓hS.g1_7, ↓hS.k1, ↓hS.l3, ↓hS.n3, ↓hS.l26, ↓hS.n26, ↓hS.l5, ↓hS.n5, ↓hS.l12, ↓hS.n12, ↓hS.l6, ↓hS.n6, ↓hS.l10, ↓hS.n10, ↓hS.l11, ↓hS.n11, ↓hS.l13, ↓hS.n13, ↓hS.l14, ↓hS.n14, ↓hS.l16, ↓hS.n16, ↓hS.l24, ↓hS.n24, ↓hS.l27, ↓hS.n27, ↓hS.l28, ↓hS.n28, ↓hS.l2, ↓hS.n2, g2, h, ↓reduceIte]
  · have hS := hS2.fr fun z k hs => hI.1 z k (by unfold CSt at hs; omega)
    have g2 : s (15 + 2 * p) 2 = a * a + b * b := by rw [hI.1 _ _ (by omega), e2]
    simp (disch := omega) only [LX3_fit_73, BX3_fit_73, ↓hS.g6_0, ↓hS.g6_1, ↓hS.g6_2, ↓hS.g6_3, ↓hS.g6_4, ↓hS.g6_5, ↓hS.g6_7, ↓hS.g6_8, ↓hS.k6, ↓hS.g2_0, ↓hS.g2_1, ↓hS.g2_2, ↓hS.g2_3, ↓hS.g2_4, ↓hS.g2_5, ↓hS.g2_6, ↓hS.g2_7, ↓hS.k2, ↓hS.g3_0, ↓hS.g3_1, ↓hS.g3_2, ↓hS.g3_3, ↓hS.g3_4, ↓hS.k3, ↓hS.g4_0, ↓hS.g4_1, ↓hS.g4_3, ↓hS.g4_5, ↓hS.g4_6, ↓hS.g4_7, ↓hS.g4_8, ↓hS.g4_9, ↓hS.g4_10, ↓hS.g4_12, ↓hS.g4_11, ↓hS.k4, ↓hS.g5_0, ↓hS.g5_1, ↓hS.g5_2, ↓hS.g5_3, ↓hS.g5_4, ↓hS.g5_5, ↓hS.g5_6, ↓hS.k5, ↓hS.g1_0, ↓hS.g1_1, ↓hS.g1_2, ↓hS.g1_3, ↓hS.g1_4, ↓hS.g1_5, ↓hS.g1_6, ↓hS.g1_7, ↓hS.k1, ↓hS.l3, ↓hS.n3, ↓hS.l26, ↓hS.n26, ↓hS.l5, ↓hS.n5, ↓hS.l12, ↓hS.n12, ↓hS.l6, ↓hS.n6, ↓hS.l10, ↓hS.n10, ↓hS.l11, ↓hS.n11, ↓hS.l13, ↓hS.n13, ↓hS.l14, ↓hS.n14, ↓hS.l16, ↓hS.n16, ↓hS.l24, ↓hS.n24, ↓hS.l27, ↓hS.n27, ↓hS.l28, ↓hS.n28, ↓hS.l2, ↓hS.n2, g2, Int.le_refl, ↓reduceIte]
    obtain ⟨ν, f1, f2, f3⟩ := fit_2 hS p0 p1 ha hb hab hs (by rw [hI.1 _ _ (by omega), e0]) (by rw [hI.1 _ _ (by omega), e1]) g2 (by rw [hI.1 _ _ (by omega), e3]) (fun j j0 j1 => by rw [hI.2 j j0 j1, Int.add_zero])
    exact ⟨ν, f1, fun z k hz => by rw [f2 z k hz, hI.1 z k (by omega)], f3⟩
  · have hS := hS2.fr fun z k hs => hI.1 z k (by unfold CSt at hs; omega)
    have g0 : s (15 + 2 * p) 0 = a := by rw [hI.1 _ _ (by omega), e0]
    have g1 : s (15 + 2 * p) 1 = b := by rw [hI.1 _ _ (by omega), e1]
    have g2 : s (15 + 2 * p) 2 = a * a + b * b := by rw [hI.1 _ _ (by omega), e2]
    have g3 : s (15 + 2 * p) 3 = sh := by rw [hI.1 _ _ (by omega), e3]
    have hm := mAt_le (sh := sh) (x := x) (y := y) hq.1 hq.2
    have hk := mK_at (sh := sh) (y := y) x0 x1
    have hx : ¬ a * a + b * b ≤ x := by omega
    have m1 : 0 ≤ y * (a * a + b * b) := Int.mul_nonneg y0 (by omega)
    have m2 : (y + 1) * (a * a + b * b) ≤ (a * a + b * b) * (a * a + b * b) := Int.mul_le_mul_of_nonneg_right (by omega) (by omega)
    rw [Int.add_mul, Int.one_mul] at m2
    have hv := hI.2 (mAt sh a b x y + 1) (by omega) (by omega)
    have hle := su_le (f := fun t => b2 (mK sh a b t + 1 = mAt sh a b x y + 1)) (n := y * (a * a + b * b) + x) (B := 1) (by omega) fun _ _ _ => b2_0
    refine ⟨mUp s 13 (mAt sh a b x y + 1) (s 13 (mAt sh a b x y + 1) + 1), ⟨fun z k hz => ?_, fun j j0 j1 => ?_⟩, ?_⟩
    · rw [mUp_ne _ _ (by omega)]
      exact hI.1 z k hz
    · rw [← Int.add_assoc, su_s _ (show 0 ≤ y * (a * a + b * b) + x by omega), hk]
      by_cases q : j = mAt sh a b x y + 1
      · subst q
        rw [mUp_same, hI.2 _ j0 j1, b2_t rfl]
      · rw [mUp_ne _ _ (by omega), hI.2 _ j0 j1, b2_f (fun h => q h.symm)]
        omega
    · simp (disch := omega) only [LX3_fit_84, BX3_fit_84, ↓hS.g6_0, ↓hS.g6_1, ↓hS.g6_2, ↓hS.g6_3, ↓hS.g6_4, ↓hS.g6_5, ↓hS.g6_7, ↓hS.g6_8, ↓hS.k6, ↓hS.g2_0, ↓hS.g2_1, ↓hS.g2_2, ↓hS.g2_3, ↓hS.g2_4, ↓hS.g2_5, ↓hS.g2_6, ↓hS.g2_7, ↓hS.k2, ↓hS.g3_0, ↓hS.g3_1, ↓hS.g3_2, ↓hS.g3_3, ↓hS.g3_4, ↓hS.k3, ↓hS.g4_0, ↓hS.g4_1, ↓hS.g4_3, ↓hS.g4_5, ↓hS.g4_6, ↓hS.g4_7, ↓hS.g4_8, ↓hS.g4_9, ↓hS.g4_10, ↓hS.g4_12, ↓hS.g4_11, ↓hS.k4, ↓hS.g5_0, ↓hS.g5_1, ↓hS.g5_2, ↓hS.g5_3, ↓hS.g5_4, ↓hS.g5_5, ↓hS.g5_6, ↓hS.k5, ↓hS.g1_0, ↓hS.g1_1, ↓hS.g1_2, ↓hS.g1_3, ↓hS.g1_4, ↓hS.g1_5, ↓hS.g1_6, ↓hS.g1_7, ↓hS.k1, ↓hS.l3, ↓hS.n3, ↓hS.l26, ↓hS.n26, ↓hS.l5, ↓hS.n5, ↓hS.l12, ↓hS.n12, ↓hS.l6, ↓hS.n6, ↓hS.l10, ↓hS.n10, ↓hS.l11, ↓hS.n11, ↓hS.l13, ↓hS.n13, ↓hS.l14, ↓hS.n14, ↓hS.l16, ↓hS.n16, ↓hS.l24, ↓hS.n24, ↓hS.l27, ↓hS.n27, ↓hS.l28, ↓hS.n28, ↓hS.l2, ↓hS.n2, g2, hx, ↓reduceIte, ↓CL, ↓measureAt_rt_c hS p0 p1 g0 g1 g2 g3 ha hb hab rfl hs, w32_eq]
      rw [hS.s13 (by omega) (by omega)]
  · have hS := hS2.fr fun z k hs => hI.1 z k (by unfold CSt at hs; omega)
    have g2 : s (15 + 2 * p) 2 = a * a + b * b := by rw [hI.1 _ _ (by omega), e2]
    refine ⟨⟨hI.1, fun j j0 j1 => ?_⟩, ?_⟩
    · rw [Int.add_mul y 1, Int.one_mul, Int.add_zero]
      exact hI.2 j j0 j1
    · simp (disch := omega) only [LX3_fit_84, BX3_fit_84, ↓hS.g6_0, ↓hS.g6_1, ↓hS.g6_2, ↓hS.g6_3, ↓hS.g6_4, ↓hS.g6_5, ↓hS.g6_7, ↓hS.g6_8, ↓hS.k6, ↓hS.g2_0, ↓hS.g2_1, ↓hS.g2_2, ↓hS.g2_3, ↓hS.g2_4, ↓hS.g2_5, ↓hS.g2_6, ↓hS.g2_7, ↓hS.k2, ↓hS.g3_0, ↓hS.g3_1, ↓hS.g3_2, ↓hS.g3_3, ↓hS.g3_4, ↓hS.k3, ↓hS.g4_0, ↓hS.g4_1, ↓hS.g4_3, ↓hS.g4_5, ↓hS.g4_6, ↓hS.g4_7, ↓hS.g4_8, ↓hS.g4_9, ↓hS.g4_10, ↓hS.g4_12, ↓hS.g4_11, ↓hS.k4, ↓hS.g5_0, ↓hS.g5_1, ↓hS.g5_2, ↓hS.g5_3, ↓hS.g5_4, ↓hS.g5_5, ↓hS.g5_6, ↓hS.k5, ↓hS.g1_0, ↓hS.g1_1, ↓hS.g1_2, ↓hS.g1_3, ↓hS.g1_4, ↓hS.g1_5, ↓hS.g1_6, ↓hS.g1_7, ↓hS.k1, ↓hS.l3, ↓hS.n3, ↓hS.l26, ↓hS.n26, ↓hS.l5, ↓hS.n5, ↓hS.l12, ↓hS.n12, ↓hS.l6, ↓hS.n6, ↓hS.l10, ↓hS.n10, ↓hS.l11, ↓hS.n11, ↓hS.l13, ↓hS.n13, ↓hS.l14, ↓hS.n14, ↓hS.l16, ↓hS.n16, ↓hS.l24, ↓hS.n24, ↓hS.l27, ↓hS.n27, ↓hS.l28, ↓hS.n28, ↓hS.l2, ↓hS.n2, g2, Int.le_refl, ↓reduceIte, w32_eq]
/-- screens are laid rightly, or not at all -/
def ScrI (μ : Mem) (p : Int) : Prop := μ (15 + 2 * p) 3 = -1 ∨ Scr μ p (μ (15 + 2 * p) 3) (μ (15 + 2 * p) 0) (μ (15 + 2 * p) 1)
theorem fit_34 (hS : CSh μ) {a b sh : Int} (c0 : 0 ≤ c) (c1 : c < 10) (p0 : 0 ≤ p) (p1 : p < 4) (h1 : μ (29 + 8 * c + p) 1 = a) (h2 : μ (29 + 8 * c + p) 2 = b) (h3 : μ (29 + 8 * c + p) 3 = sh) (ha : 0 ≤ a ∧ a ≤ 3) (hb : 0 ≤ b ∧ b ≤ 3) (hab : 0 < a + b) (hs : 0 ≤ sh ∧ sh ≤ 3) : ∃ ν, BX3_fit_34 (15 + 2 * p) (29 + 8 * c + p) 13 μ = RT 0 ν ∧ FitFr p μ ν ∧ Scr ν p sh a b := by
  unfold BX3_fit_34
  rw [hS.g1_1 c0 c1 p0 p1, h1, hS.p3_0 p0 p1]
  have hS1 : CSh (mUp μ (15 + 2 * p) 0 a) := hS.up (by unfold CSt; omega)
  rw [hS1.g1_2 c0 c1 p0 p1, mUp_ne _ _ (by omega), h2, hS1.p3_1 p0 p1]
  have hS2 : CSh (mUp (mUp μ (15 + 2 * p) 0 a) (15 + 2 * p) 1 b) := hS1.up (by unfold CSt; omega)
  rw [hS2.k1 c0 c1 p0 p1, p_rt (a := a) (b := b) hS2 c0 c1 p0 p1 (by rw [mUp_ne _ _ (by omega), mUp_ne _ _ (by omega), h1]) (by rw [mUp_ne _ _ (by omega), mUp_ne _ _ (by omega), h2]) ha hb]
  simp only [↓CL, ↓CLX_rt]
  rw [hS2.p3_2 p0 p1]
  have hS3 : CSh (mUp (mUp (mUp μ (15 + 2 * p) 0 a) (15 + 2 * p) 1 b) (15 + 2 * p) 2 (a * a + b * b)) := hS2.up (by unfold CSt; omega)
  rw [hS3.g1_3 c0 c1 p0 p1, mUp_ne (a' := 29 + 8 * c + p) _ _ (by omega), mUp_ne (a' := 29 + 8 * c + p) _ _ (by omega), mUp_ne (a' := 29 + 8 * c + p) _ _ (by omega), h3, hS3.p3_3 p0 p1]
  have hS4 : CSh (mUp (mUp (mUp (mUp μ (15 + 2 * p) 0 a) (15 + 2 * p) 1 b) (15 + 2 * p) 2 (a * a + b * b)) (15 + 2 * p) 3 sh) := hS3.up (by unfold CSt; omega)
  have f1 : ∀ x k, ¬ (x = 15 + 2 * p ∧ 0 ≤ k ∧ k ≤ 3) → mUp (mUp (mUp (mUp μ (15 + 2 * p) 0 a) (15 + 2 * p) 1 b) (15 + 2 * p) 2 (a * a + b * b)) (15 + 2 * p) 3 sh x k = μ x k := fun x k h => by
    rw [mUp_ne _ _ (by omega), mUp_ne _ _ (by omega), mUp_ne _ _ (by omega), mUp_ne _ _ (by omega)]
  have e0 : mUp (mUp (mUp (mUp μ (15 + 2 * p) 0 a) (15 + 2 * p) 1 b) (15 + 2 * p) 2 (a * a + b * b)) (15 + 2 * p) 3 sh (15 + 2 * p) 0 = a := by
    rw [mUp_ne _ _ (by omega), mUp_ne _ _ (by omega), mUp_ne _ _ (by omega), mUp_same]
  have e1 : mUp (mUp (mUp (mUp μ (15 + 2 * p) 0 a) (15 + 2 * p) 1 b) (15 + 2 * p) 2 (a * a + b * b)) (15 + 2 * p) 3 sh (15 + 2 * p) 1 = b := by
    rw [mUp_ne _ _ (by omega), mUp_ne _ _ (by omega), mUp_same]
  have e2 : mUp (mUp (mUp (mUp μ (15 + 2 * p) 0 a) (15 + 2 * p) 1 b) (15 + 2 * p) 2 (a * a + b * b)) (15 + 2 * p) 3 sh (15 + 2 * p) 2 = a * a + b * b := by
    rw [mUp_ne _ _ (by omega), mUp_same]
  have e3 : mUp (mUp (mUp (mUp μ (15 + 2 * p) 0 a) (15 + 2 * p) 1 b) (15 + 2 * p) 2 (a * a + b * b)) (15 + 2 * p) 3 sh (15 + 2 * p) 3 = sh := mUp_same _ _ _ _
  generalize mUp (mUp (mUp (mUp μ (15 + 2 * p) 0 a) (15 + 2 * p) 1 b) (15 + 2 * p) 2 (a * a + b * b)) (15 + 2 * p) 3 sh = ν1 at hS4 f1 e0 e1 e2 e3 ⊢
  obtain ⟨ν2, q1, q2, q3⟩ := fill_rt (μ := ν1) (a := 13) (v := 0) (n := 650) hS4.2.2.2.2.2.1.2.2.2.2.1 hS4.2.2.2.2.2.1.2.2.2.2.2.1 (by omega) (by omega) (by omega)
  rw [q1]
  simp only [↓CL, ↓CLX_rt]
  have hS5 : CSh ν2 := hS4.fr fun x k h => q2 x k (by unfold CSt at h; omega)
  obtain ⟨ν, g1, g2, g3⟩ := fit_1 hS5 p0 p1 ha hb hab hs (by rw [q2 _ _ (by omega), e0]) (by rw [q2 _ _ (by omega), e1]) (by rw [q2 _ _ (by omega), e2]) (by rw [q2 _ _ (by omega), e3]) q3
  exact ⟨ν, g1, fun x k h => by rw [g2 x k h, q2 x k (by omega), f1 x k (by omega)], g3⟩
theorem fit_rt (hS : CSh μ) {a b sh : Int} (c0 : 0 ≤ c) (c1 : c < 10) (p0 : 0 ≤ p) (p1 : p < 4) (h1 : μ (29 + 8 * c + p) 1 = a) (h2 : μ (29 + 8 * c + p) 2 = b) (h3 : μ (29 + 8 * c + p) 3 = sh) (ha : 0 ≤ a ∧ a ≤ 3) (hb : 0 ≤ b ∧ b ≤ 3) (hab : 0 < a + b) (hs : 0 ≤ sh ∧ sh ≤ 3) (hI : ScrI μ p) : ∃ ν, FX3_fit (15 + 2 * p) (29 + 8 * c + p) 13 μ = RT 0 ν ∧ FitFr p μ ν ∧ Scr ν p sh a b := by
  unfold FX3_fit BX3_fit_0
  rw [hS.g3_0 p0 p1, hS.g1_1 c0 c1 p0 p1, h1]
  by_cases q0 : μ (15 + 2 * p) 0 = a
  · rw [if_neg (fun h => h q0), hS.g3_1 p0 p1, hS.g1_2 c0 c1 p0 p1, h2]
    by_cases q1 : μ (15 + 2 * p) 1 = b
    · rw [if_neg (fun h => h q1), hS.g3_3 p0 p1, hS.g1_3 c0 c1 p0 p1, h3]
      by_cases q2 : μ (15 + 2 * p) 3 = sh
      · rw [if_neg (fun h => h q2)]
        rcases hI with h | h
        · omega
        · rw [q0, q1, q2] at h
          exact ⟨μ, rfl, fun _ _ _ => rfl, h⟩
      · rw [if_pos q2]
        exact fit_34 hS c0 c1 p0 p1 h1 h2 h3 ha hb hab hs
    · rw [if_pos q1]
      exact fit_34 hS c0 c1 p0 p1 h1 h2 h3 ha hb hab hs
  · rw [if_pos q0]
    exact fit_34 hS c0 c1 p0 p1 h1 h2 h3 ha hb hab hs
end FIT

