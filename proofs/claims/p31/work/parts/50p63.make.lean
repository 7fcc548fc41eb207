/-! a curve is made, a plate is added -/
section MAK
variable {μ ν : Mem} {g p n : Int}
theorem mNew_was {kd len sz z k : Int} (h0 : z ≠ 0) (h : z ≠ μ 0 0) : mNew μ kd len sz z k = μ z k := by
  unfold mNew
  rw [if_neg h, if_neg (by omega), if_neg (by omega), if_neg (by omega)]
theorem mNew_k {kd len sz : Int} : mNew μ kd len sz (μ 0 0) (-1) = kd := by
  unfold mNew
  rw [if_pos rfl, if_pos rfl]
theorem mNew_l {kd len sz : Int} : mNew μ kd len sz (μ 0 0) (-2) = len := by
  unfold mNew
  rw [if_pos rfl, if_neg (by decide), if_pos rfl]
theorem mNew_0 {kd len sz : Int} (h : 0 < μ 0 0) : mNew μ kd len sz 0 0 = μ 0 0 + 1 ∧ mNew μ kd len sz 0 1 = μ 0 1 + 1 ∧ mNew μ kd len sz 0 2 = μ 0 2 + sz := by
  unfold mNew
  refine ⟨?_, ?_, ?_⟩
  · rw [if_neg (by omega), if_pos ⟨rfl, rfl⟩]
  · rw [if_neg (by omega), if_neg (by omega), if_pos ⟨rfl, rfl⟩]
  · rw [if_neg (by omega), if_neg (by omega), if_neg (by omega), if_pos ⟨rfl, rfl⟩]
theorem curve_new (hS : CSh μ) (hd : 105 ≤ μ 0 0) (n0 : 0 ≤ n) (n1 : n < 600) (h12 : μ 23 12 = n) (K : Int → Mem → Rz) : ∃ ν, (NW 0 1 μ fun t115 u116 => GF 4 11 23 u116 fun t105 => GF 4 12 23 u116 fun t118 => CL (FJ7_copyOf_59c91 t105 t118 u116) fun t119 u120 => KD 0 t115 u120 (CL (FX0_init t115 t119 u120) fun _ u122 => K t115 u122)) = K (μ 0 0) ν ∧ (ν 0 0 = μ 0 0 + 2 ∧ ν 0 1 = μ 0 1 + 2 ∧ ν 0 2 = μ 0 2 + 1 + n) ∧ (∀ z k, z ≠ 0 → z < μ 0 0 → ν z k = μ z k) ∧ (ν (μ 0 0) (-1) = 1 ∧ ν (μ 0 0) 0 = μ 0 0 + 1) ∧ (ν (μ 0 0 + 1) (-1) = 21 ∧ ν (μ 0 0 + 1) (-2) = n) ∧ ∀ i, 0 ≤ i → i < n → ν (μ 0 0 + 1) i = μ 24 i := by
  generalize hq : μ 0 0 = q at hd
  have h1 : ∀ z k, z ≠ 0 → z ≠ q → mNew μ 1 0 1 z k = μ z k := fun z k h0 h => mNew_was h0 (by rw [hq]; exact h)
  have h10 := mNew_0 (μ := μ) (kd := 1) (len := 0) (sz := 1) (by omega)
  have h1k := mNew_k (μ := μ) (kd := 1) (len := 0) (sz := 1)
  rw [hq] at h10 h1k
  have hS1 : CSh (mNew μ 1 0 1) := hS.fr fun a k hs => h1 a k (by unfold CSt at hs; omega) (by unfold CSt at hs; omega)
  unfold NW
  rw [if_pos (by omega), hq]
  show ∃ ν, (GF 4 11 23 (mNew μ 1 0 1) fun t105 => GF 4 12 23 (mNew μ 1 0 1) fun t118 => CL (FJ7_copyOf_59c91 t105 t118 (mNew μ 1 0 1)) fun t119 u120 => KD 0 q u120 (CL (FX0_init q t119 u120) fun _ u122 => K q u122)) = K q ν ∧ _
  generalize mNew μ 1 0 1 = μ1 at h1 h10 h1k hS1 ⊢
  rw [hS1.g4_11, hS1.g4_12, h1 _ _ (by omega) (by omega), h12]
  have h2 : ∀ z k, z ≠ 0 → z ≠ q + 1 → mNew μ1 21 n n z k = μ1 z k := fun z k h0 h => mNew_was h0 (by rw [h10.1]; exact h)
  have h20 := mNew_0 (μ := μ1) (kd := 21) (len := n) (sz := n) (by omega)
  have h2k := mNew_k (μ := μ1) (kd := 21) (len := n) (sz := n)
  have h2l := mNew_l (μ := μ1) (kd := 21) (len := n) (sz := n)
  rw [h10.1] at h20 h2k h2l
  have hS2 : CSh (mNew μ1 21 n n) := hS1.fr fun a k hs => h2 a k (by unfold CSt at hs; omega) (by unfold CSt at hs; omega)
  have ecopy : FJ7_copyOf_59c91 24 n μ1 = RT (q + 1) (mCpy (mNew μ1 21 n n) 24 0 (q + 1) 0 n) := by
    unfold FJ7_copyOf_59c91 BJ7_copyOf_59c91_0
    rw [hS1.n24, if_pos (by omega)]
    unfold NA
    rw [if_pos ⟨by omega, n0, by omega⟩, h10.1]
    show (LN 1 24 (mNew μ1 21 n n) fun t104 => CL (FJ9_min_7cf53 t104 n (mNew μ1 21 n n)) fun t105 u106 => ACP 24 0 (q + 1) 0 t105 u106 fun u107 => RT (q + 1) u107) = _
    rw [hS2.n24, min_rt]
    simp only [CL, CLX_rt]
    have em : mn 600 n = n := by
      unfold mn
      rw [if_pos (by omega)]
    rw [em]
    unfold ACP
    have k24 := hS2.2.2.2.2.2.2.2.1.2.2
    rw [if_pos ⟨by omega, by omega, k24.1, h2k, Int.le_refl _, Int.le_refl _, n0, by rw [k24.2]; omega, by rw [h2l]; omega⟩]
  rw [ecopy]
  have h3 : ∀ z k, ¬ (z = q + 1 ∧ 0 ≤ k ∧ k < n) → mCpy (mNew μ1 21 n n) 24 0 (q + 1) 0 n z k = mNew μ1 21 n n z k := fun z k h => mCpy_ne h
  have h3c : ∀ i, 0 ≤ i → i < n → mCpy (mNew μ1 21 n n) 24 0 (q + 1) 0 n (q + 1) i = μ 24 i := fun i i0 i1 => by rw [mCpy_at i0 i1, h2 _ _ (by omega) (by omega), h1 _ _ (by omega) (by omega)]
  generalize mCpy (mNew μ1 21 n n) 24 0 (q + 1) 0 n = μ3 at h3 h3c ⊢
  have kq : μ3 q (-1) = 1 := by rw [h3 _ _ (by omega), h2 _ _ (by omega) (by omega), h1k]
  refine ⟨mUp μ3 q 0 (q + 1), ?_, ⟨?_, ?_, ?_⟩, fun z k z0 z1 => ?_, ⟨?_, mUp_same _ _ _ _⟩, ⟨?_, ?_⟩, fun i i0 i1 => ?_⟩
  · simp only [CL, CLX_rt]
    rw [KD_of (ci := 0) (by rw [kq]; rfl)]
    unfold FX0_init BX0_init_0
    rw [if_pos (by omega), PF_of (by omega) (by rw [kq]; rfl)]
    rfl
  · rw [mUp_ne _ _ (by omega), h3 _ _ (by omega), h20.1]
    omega
  · rw [mUp_ne _ _ (by omega), h3 _ _ (by omega), h20.2.1, h10.2.1]
    omega
  · rw [mUp_ne _ _ (by omega), h3 _ _ (by omega), h20.2.2, h10.2.2]
  · rw [mUp_ne _ _ (by omega), h3 _ _ (by omega), h2 _ _ z0 (by omega), h1 _ _ z0 (by omega)]
  · rw [mUp_ne _ _ (by omega)]
    exact kq
  · rw [mUp_ne _ _ (by omega), h3 _ _ (by omega), h2k]
  · rw [mUp_ne _ _ (by omega), h3 _ _ (by omega), h2l]
  · rw [mUp_ne _ _ (by omega)]
    exact h3c i i0 i1
theorem addPlate_rt (hS : CSh μ) (g0 : 0 ≤ g) (g1 : g < 10) (hN : μ (25 + 8 * g) 3 = p) (p0 : 0 ≤ p) (p1 : p < 4) {nm a b sh q : Int} : ∃ ν, FX5_addPlate (25 + 8 * g) nm a b sh q μ = RT 0 ν ∧ (ν (29 + 8 * g + p) 0 = nm ∧ ν (29 + 8 * g + p) 1 = a ∧ ν (29 + 8 * g + p) 2 = b ∧ ν (29 + 8 * g + p) 3 = sh ∧ ν (29 + 8 * g + p) 4 = 0 ∧ ν (29 + 8 * g + p) 5 = 0 ∧ ν (29 + 8 * g + p) 6 = 1000 ∧ ν (29 + 8 * g + p) 7 = q ∧ ν (25 + 8 * g) 3 = p + 1) ∧ ∀ z k, ¬ ((z = 25 + 8 * g ∧ k = 3) ∨ (z = 29 + 8 * g + p ∧ 0 ≤ k ∧ k ≤ 7)) → ν z k = μ z k := by
  refine ⟨mUp (mUp (mUp (mUp (mUp (mUp (mUp (mUp (mUp μ (29 + 8 * g + p) 0 nm) (29 + 8 * g + p) 1 a) (29 + 8 * g + p) 2 b) (29 + 8 * g + p) 3 sh) (29 + 8 * g + p) 4 0) (29 + 8 * g + p) 5 0) (29 + 8 * g + p) 6 1000) (29 + 8 * g + p) 7 q) (25 + 8 * g) 3 (p + 1), ?_, ?_, fun z k hz => by simp (disch := omega) only [mUp_ne]⟩
  · simp (disch := first | omega | exact hS | exact (CSh.up hS (by unfold CSt; omega)) | exact (CSh.up (CSh.up hS (by unfold CSt; omega)) (by unfold CSt; omega)) | exact (CSh.up (CSh.up (CSh.up hS (by unfold CSt; omega)) (by unfold CSt; omega)) (by unfold CSt; omega)) | exact (CSh.up (CSh.up (CSh.up (CSh.up hS (by unfold CSt; omega)) (by unfold CSt; omega)) (by unfold CSt; omega)) (by unfold CSt; omega)) | exact (CSh.up (CSh.up (CSh.up (CSh.up (CSh.up hS (by unfold CSt; omega)) (by unfold CSt; omega)) (by unfold CSt; omega)) (by unfold CSt; omega)) (by unfold CSt; omega)) | exact (CSh.up (CSh.up (CSh.up (CSh.up (CSh.up (CSh.up hS (by unfold CSt; omega)) (by unfold CSt; omega)) (by unfold CSt; omega)) (by unfold CSt; omega)) (by unfold CSt; omega)) (by unfold CSt; omega)) | exact (CSh.up (CSh.up (CSh.up (CSh.up (CSh.up (CSh.up (CSh.up hS (by unfold CSt; omega)) (by unfold CSt; omega)) (by unfold CSt; omega)) (by unfold CSt; omega)) (by unfold CSt; omega)) (by unfold CSt; omega)) (by unfold CSt; omega)) | exact (CSh.up (CSh.up (CSh.up (CSh.up (CSh.up (CSh.up (CSh.up (CSh.up hS (by unfold CSt; omega)) (by unfold CSt; omega)) (by unfold CSt; omega)) (by unfold CSt; omega)) (by unfold CSt; omega)) (by unfold CSt; omega)) (by unfold CSt; omega)) (by unfold CSt; omega)) | exact (CSh.up (CSh.up (CSh.up (CSh.up (CSh.up (CSh.up (CSh.up (CSh.up (CSh.up hS (by unfold CSt; omega)) (by unfold CSt; omega)) (by unfold CSt; omega)) (by unfold CSt; omega)) (by unfold CSt; omega)) (by unfold CSt; omega)) (by unfold CSt; omega)) (by unfold CSt; omega)) (by unfold CSt; omega))) only [FX5_addPlate, BX5_addPlate_0, ↓CSh.g6_0, ↓CSh.g6_1, ↓CSh.g6_2, ↓CSh.g6_3, ↓CSh.g6_4, ↓CSh.g6_5, ↓CSh.g6_7, ↓CSh.g6_8, ↓CSh.k6, ↓CSh.g2_0, ↓CSh.g2_1, ↓CSh.g2_2, ↓CSh.g2_3, ↓CSh.g2_4, ↓CSh.g2_5, ↓CSh.g2_6, ↓CSh.g2_7, ↓CSh.k2, ↓CSh.g3_0, ↓CSh.g3_1, ↓CSh.g3_2, ↓CSh.g3_3, ↓CSh.g3_4, ↓CSh.k3, ↓CSh.g4_0, ↓CSh.g4_1, ↓CSh.g4_3, ↓CSh.g4_5, ↓CSh.g4_6, ↓CSh.g4_7, ↓CSh.g4_8, ↓CSh.g4_9, ↓CSh.g4_10, ↓CSh.g4_12, ↓CSh.g4_11, ↓CSh.k4, ↓CSh.g5_0, ↓CSh.g5_1, ↓CSh.g5_2, ↓CSh.g5_3, ↓CSh.g5_4, ↓CSh.g5_5, ↓CSh.g5_6, ↓CSh.k5, ↓CSh.g1_0, ↓CSh.g1_1, ↓CSh.g1_2, ↓CSh.g1_3, ↓CSh.g1_4, ↓CSh.g1_5, ↓CSh.g1_6, ↓CSh.g1_7, ↓CSh.k1, ↓CSh.l3, ↓CSh.n3, ↓CSh.l26, ↓CSh.n26, ↓CSh.l5, ↓CSh.n5, ↓CSh.l12, ↓CSh.n12, ↓CSh.l6, ↓CSh.n6, ↓CSh.l10, ↓CSh.n10, ↓CSh.l11, ↓CSh.n11, ↓CSh.l13, ↓CSh.n13, ↓CSh.l14, ↓CSh.n14, ↓CSh.l16, ↓CSh.n16, ↓CSh.l24, ↓CSh.n24, ↓CSh.l27, ↓CSh.n27, ↓CSh.l28, ↓CSh.n28, ↓CSh.l2, ↓CSh.n2, ↓CSh.p6_1, ↓CSh.z6_1, ↓CSh.p6_2, ↓CSh.z6_2, ↓CSh.p6_4, ↓CSh.z6_4, ↓CSh.p6_5, ↓CSh.z6_5, ↓CSh.p6_6, ↓CSh.p2_6, ↓CSh.z2_6, ↓CSh.p2_7, ↓CSh.z2_7, ↓CSh.p3_0, ↓CSh.z3_0, ↓CSh.p3_1, ↓CSh.z3_1, ↓CSh.p3_2, ↓CSh.z3_2, ↓CSh.p3_3, ↓CSh.z3_3, ↓CSh.p4_0, ↓CSh.z4_0, ↓CSh.p4_1, ↓CSh.z4_1, ↓CSh.p4_3, ↓CSh.z4_3, ↓CSh.p4_5, ↓CSh.z4_5, ↓CSh.p4_6, ↓CSh.z4_6, ↓CSh.p4_7, ↓CSh.z4_7, ↓CSh.p4_8, ↓CSh.z4_8, ↓CSh.p4_9, ↓CSh.z4_9, ↓CSh.p4_10, ↓CSh.z4_10, ↓CSh.p4_12, ↓CSh.z4_12, ↓CSh.p4_2, ↓CSh.p4_4, ↓CSh.p5_0, ↓CSh.z5_0, ↓CSh.p5_1, ↓CSh.z5_1, ↓CSh.p5_2, ↓CSh.z5_2, ↓CSh.p5_3, ↓CSh.z5_3, ↓CSh.p1_0, ↓CSh.z1_0, ↓CSh.p1_1, ↓CSh.z1_1, ↓CSh.p1_2, ↓CSh.z1_2, ↓CSh.p1_3, ↓CSh.z1_3, ↓CSh.p1_4, ↓CSh.z1_4, ↓CSh.p1_5, ↓CSh.z1_5, ↓CSh.p1_6, ↓CSh.z1_6, ↓CSh.p1_7, ↓CSh.z1_7, ↓CSh.s6, ↓CSh.s10, ↓CSh.s11, ↓CSh.s13, ↓CSh.s14, ↓CSh.s16, ↓CSh.s24, ↓CSh.s27, ↓CSh.s28, ↓CSh.s2, hN, p1, ↓reduceIte, mUp_ne, w32_eq]
  · simp (disch := omega) only [mUp_ne, mUp_same, and_self]
end MAK

