/-! both readers at a curve, side by side -/
/-- the codes that both have of the plate p: n codes that leave D results open -/
def Cu (μ ξ : Mem) (p n D : Int) : Prop := (0 ≤ n ∧ μ 23 12 = n ∧ rO (ξ 107) p 13 = n ∧ ξ 105 19 = p ∧ 0 ≤ p ∧ p < 4) ∧ (∀ k, 0 ≤ k → k < n → μ 24 k = itm (cOp (ξ 107) p k) (cV (ξ 107) p k)) ∧ (∀ k : Nat, (k : Int) < n → (0 ≤ cOp (ξ 107) p k ∧ cOp (ξ 107) p k ≤ 5) ∧ (cOp (ξ 107) p k = 0 → 0 ≤ cV (ξ 107) p k ∧ cV (ξ 107) p k ≤ 9999) ∧ (cOp (ξ 107) p k = 1 → 0 ≤ cV (ξ 107) p k ∧ cV (ξ 107) p k ≤ 3) ∧ (2 ≤ cOp (ξ 107) p k → 2 ≤ sd (ξ 107) p k) ∧ 0 ≤ sd (ξ 107) p k ∧ sd (ξ 107) p (k + 1) ≤ 11) ∧ sd (ξ 107) p n.toNat = D
def CuC (μ ν : Mem) : Prop := ∀ z k, ¬ ((z = 23 ∧ (k = 7 ∨ k = 8 ∨ k = 9 ∨ k = 10 ∨ k = 12)) ∨ (z = 24 ∧ 0 ≤ k)) → ν z k = μ z k
def CuM (p : Int) (ξ ζ : Mem) : Prop := ∀ z k, ¬ ((z = 105 ∧ (k = 14 ∨ k = 17 ∨ k = 18 ∨ k = 20)) ∨ (z = 107 ∧ (k = 196 + 1226 * p + 13 ∨ (196 + 1226 * p + 26 ≤ k ∧ k < 196 + 1226 * p + 1226)))) → ζ z k = ξ z k
def Fc (μ ν : Mem) (c s : Int) : Prop := (ν 23 0 = c ∧ ν 23 1 = s ∧ -6 ≤ c ∧ c ≤ -2 ∧ 0 ≤ s ∧ s ≤ 600) ∧ ∀ z k, ¬ ((z = 23 ∧ 0 ≤ k ∧ k ≤ 12 ∧ k ≠ 2 ∧ k ≠ 3 ∧ k ≠ 4 ∧ k ≠ 11) ∨ (z = 24 ∧ 0 ≤ k)) → ν z k = μ z k
def Fm (ξ ζ : Mem) (c s : Int) : Prop := (ζ 105 15 = c ∧ ζ 105 16 = s) ∧ ∀ z k, ¬ ((z = 105 ∧ 14 ≤ k ∧ k ≤ 22) ∨ (z = 107 ∧ 0 ≤ k)) → ζ z k = ξ z k
theorem sd_pre {r r' : Row} {p : Int} : ∀ n : Nat, (∀ k : Nat, k < n → cOp r' p k = cOp r p k) → sd r' p n = sd r p n
  | 0, _ => rfl
  | n + 1, h => by
    rw [sd, sd, sd_pre n fun k hk => h k (by omega), h n (by omega)]
section CUR
variable {μ ξ ν ζ : Mem} {L s p n D : Int} {tx : Int → Int}
theorem CuC.rf : CuC μ μ := fun _ _ _ => rfl
theorem CuM.rf : CuM p ξ ξ := fun _ _ _ => rfl
theorem CuC.tr {η : Mem} (h1 : CuC μ ν) (h2 : CuC ν η) : CuC μ η := fun z k h => (h2 z k h).trans (h1 z k h)
theorem CuM.tr {η : Mem} (h1 : CuM p ξ ζ) (h2 : CuM p ζ η) : CuM p ξ η := fun z k h => (h2 z k h).trans (h1 z k h)
theorem RdS.cu (h : RdS μ ν) : CuC μ ν := fun z k hk => h z k (by omega)
theorem RmT.cu (h : RmT ξ ζ) : CuM p ξ ζ := fun z k hk => h z k (by omega)
theorem Fc.tr {c a : Int} (h1 : CuC μ ν) {η : Mem} (h2 : Fc ν η c a) : Fc μ η c a := ⟨h2.1, fun z k h => (h2.2 z k (by omega)).trans (h1 z k (by omega))⟩
theorem Fm.tr {c a : Int} (p0 : 0 ≤ p) (h1 : CuM p ξ ζ) {η : Mem} (h2 : Fm ζ η c a) : Fm ξ η c a := ⟨h2.1, fun z k h => (h2.2 z k (by omega)).trans (h1 z k (by omega))⟩
theorem fl_fc {c : Int} (c0 : -6 ≤ c) (c1 : c ≤ -2) (s0 : 0 ≤ s) (s1 : s ≤ 600) : Fc μ (fl μ c s) c s := ⟨⟨by unfold fl; rw [mUp_ne _ _ (by omega), mUp_same], mUp_same _ _ _ _, c0, c1, s0, s1⟩, fun z k h => by unfold fl; rw [mUp_ne _ _ (by omega), mUp_ne _ _ (by omega)]⟩
theorem Me.fm {c : Int} (h : Me ξ ζ c s) : Fm ξ ζ c s := ⟨h.2, fun z k hk => h.1 z k (by omega)⟩
/-- what reading leaves of the codes -/
theorem Cu.fr (h : Cu μ ξ p n D) (hn : n ≤ 600) (f1 : ∀ z k, ¬ (z = 23 ∧ k ≠ 12) → ν z k = μ z k) (f2 : ∀ z k, ¬ (z = 105 ∧ k ≠ 19) → ζ z k = ξ z k) : Cu ν ζ p n D := by
  have e : ζ 107 = ξ 107 := by
    funext k
    exact f2 _ _ (by omega)
  obtain ⟨⟨a1, a2, a3, a4, a5, a6⟩, b, c, d⟩ := h
  refine ⟨⟨a1, by rw [f1 _ _ (by omega)]; exact a2, by rw [e]; exact a3, by rw [f2 _ _ (by omega)]; exact a4, a5, a6⟩, ?_, by rw [e]; exact c, by rw [e]; exact d⟩
  intro k k0 k1
  rw [f1 _ _ (by omega), e]
  exact b k k0 k1
theorem Tb.cu (h : Tb μ tx L) (f : CuC μ ν) : Tb ν tx L := by
  obtain ⟨h1, ⟨h2, h3, h4⟩, h5⟩ := h
  exact ⟨h1.fr fun a k hs => f a k (by unfold CSt at hs; omega), ⟨by rw [f _ _ (by omega)]; exact h2, by rw [f _ _ (by omega)]; exact h3, h4⟩, fun k k0 k1 => by rw [f _ _ (by omega)]; exact h5 k k0 k1⟩
theorem Mt.cu (h : Mt ξ tx L) (f : CuM p ξ ζ) (p0 : 0 ≤ p) : Mt ζ tx L := by
  obtain ⟨h1, ⟨h2, h4⟩, h3, h5⟩ := h
  exact ⟨h1.fr fun a k hs => f a k (by unfold MSt at hs; omega), ⟨by rw [f _ _ (by omega)]; exact h2, h4⟩, by rw [f _ _ (by omega)]; exact h3, fun k k0 k1 => by rw [f _ _ (by omega)]; exact h5 k k0 k1⟩
/-- one code more on both sides -/
theorem push_rt (hS : CSh μ) (hM : MSh ξ) (hC : Cu μ ξ p n D) (hn : n < 600) {op v : Int} (ho : 0 ≤ op ∧ op ≤ 5) (hv0 : op = 0 → 0 ≤ v ∧ v ≤ 9999) (hv1 : op = 1 → 0 ≤ v ∧ v ≤ 3) (hd : 2 ≤ op → 2 ≤ D) (hD : 0 ≤ D ∧ (if op ≤ 1 then D + 1 else D - 1) ≤ 11) : ∃ ν ζ, FX4_addItem 23 (itm op v) μ = RT 0 ν ∧ FX7_emits 105 op v ξ = RT 0 ζ ∧ Cu ν ζ p (n + 1) (if op ≤ 1 then D + 1 else D - 1) ∧ (∀ z k, ¬ ((z = 23 ∧ k = 12) ∨ (z = 24 ∧ 0 ≤ k)) → ν z k = μ z k) ∧ (∀ z k, ¬ (z = 107 ∧ (k = 196 + 1226 * p + 13 ∨ (196 + 1226 * p + 26 ≤ k ∧ k < 196 + 1226 * p + 1226))) → ζ z k = ξ z k) := by
  obtain ⟨⟨a1, a2, a3, a4, a5, a6⟩, b, c, d⟩ := id hC
  have hS2 : CSh (mUp μ 24 n (itm op v)) := hS.up (by unfold CSt; omega)
  have g12 : mUp μ 24 n (itm op v) 23 12 = n := by rw [mUp_ne _ _ (by omega)]; exact a2
  have r1 : ¬ 600 ≤ n := by omega
  have eC : FX4_addItem 23 (itm op v) μ = RT 0 (mUp (mUp μ 24 n (itm op v)) 23 12 (n + 1)) := by
    simp (disch := omega) only [FX4_addItem, BX4_addItem_0, BX4_addItem_32, ↓hS.g6_0, ↓hS.g6_1, ↓hS.g6_2, ↓hS.g6_3, ↓hS.g6_4, ↓hS.g6_5, ↓hS.g6_7, ↓hS.g6_8, ↓hS.k6, ↓hS.g2_0, ↓hS.g2_1, ↓hS.g2_2, ↓hS.g2_3, ↓hS.g2_4, ↓hS.g2_5, ↓hS.g2_6, ↓hS.g2_7, ↓hS.k2, ↓hS.g3_0, ↓hS.g3_1, ↓hS.g3_2, ↓hS.g3_3, ↓hS.g3_4, ↓hS.k3, ↓hS.g4_0, ↓hS.g4_1, ↓hS.g4_3, ↓hS.g4_5, ↓hS.g4_6, ↓hS.g4_7, ↓hS.g4_8, ↓hS.g4_9, ↓hS.g4_10, ↓hS.g4_12, ↓hS.g4_11, ↓hS.k4, ↓hS.g5_0, ↓hS.g5_1, ↓hS.g5_2, ↓hS.g5_3, ↓hS.g5_4, ↓hS.g5_5, ↓hS.g5_6, ↓hS.k5, ↓hS.g1_0, ↓hS.g1_1, ↓hS.g1_2, ↓hS.g1_3, ↓hS.g1_4, ↓hS.g1_5, ↓hS.g1_6, ↓hS.g1_7, ↓hS.k1, ↓hS.l3, ↓hS.n3, ↓hS.l26, ↓hS.n26, ↓hS.l5, ↓hS.n5, ↓hS.l12, ↓hS.n12, ↓hS.l6, ↓hS.n6, ↓hS.l10, ↓hS.n10, ↓hS.l11, ↓hS.n11, ↓hS.l13, ↓hS.n13, ↓hS.l14, ↓hS.n14, ↓hS.l16, ↓hS.n16, ↓hS.l24, ↓hS.n24, ↓hS.l27, ↓hS.n27, ↓hS.l28, ↓hS.n28, ↓hS.l2, ↓hS.n2, ↓hS.p6_1, ↓hS.z6_1, ↓hS.p6_2, ↓hS.z6_2, ↓hS.p6_4, ↓hS.z6_4, ↓hS.p6_5, ↓hS.z6_5, ↓hS.p6_6, ↓hS.p2_6, ↓hS.z2_6, ↓hS.p2_7, ↓hS.z2_7, ↓hS.p3_0, ↓hS.z3_0, ↓hS.p3_1, ↓hS.z3_1, ↓hS.p3_2, ↓hS.z3_2, ↓hS.p3_3, ↓hS.z3_3, ↓hS.p4_0, ↓hS.z4_0, ↓hS.p4_1, ↓hS.z4_1, ↓hS.p4_3, ↓hS.z4_3, ↓hS.p4_5, ↓hS.z4_5, ↓hS.p4_6, ↓hS.z4_6, ↓hS.p4_7, ↓hS.z4_7, ↓hS.p4_8, ↓hS.z4_8, ↓hS.p4_9, ↓hS.z4_9, ↓hS.p4_10, ↓hS.z4_10, ↓hS.p4_12, ↓hS.z4_12, ↓hS.p4_2, ↓hS.p4_4, ↓hS.p5_0, ↓hS.z5_0, ↓hS.p5_1, ↓hS.z5_1, ↓hS.p5_2, ↓hS.z5_2, ↓hS.p5_3, ↓hS.z5_3, ↓hS.p1_0, ↓hS.z1_0, ↓hS.p1_1, ↓hS.z1_1, ↓hS.p1_2, ↓hS.z1_2, ↓hS.p1_3, ↓hS.z1_3, ↓hS.p1_4, ↓hS.z1_4, ↓hS.p1_5, ↓hS.z1_5, ↓hS.p1_6, ↓hS.z1_6, ↓hS.p1_7, ↓hS.z1_7, ↓hS.s6, ↓hS.s10, ↓hS.s11, ↓hS.s13, ↓hS.s14, ↓hS.s16, ↓hS.s24, ↓hS.s27, ↓hS.s28, ↓hS.s2, ↓hS2.g6_0, ↓hS2.g6_1, ↓hS2.g6_2, ↓hS2.g6_3, ↓hS2.g6_4, ↓hS2.g6_5, ↓hS2.g6_7, ↓hS2.g6_8, ↓hS2.k6, ↓hS2.g2_0, ↓hS2.g2_1, ↓hS2.g2_2, ↓hS2.g2_3, ↓hS2.g2_4, ↓hS2.g2_5, ↓hS2.g2_6, ↓hS2.g2_7, ↓hS2.k2, ↓hS2.g3_0, ↓hS2.g3_1, ↓hS2.g3_2, ↓hS2.g3_3, ↓hS2.g3_4, ↓hS2.k3, ↓hS2.g4_0, ↓hS2.g4_1, ↓hS2.g4_3, ↓hS2.g4_5, ↓hS2.g4_6, ↓hS2.g4_7, ↓hS2.g4_8, ↓hS2.g4_9, ↓hS2.g4_10, ↓hS2.g4_12, ↓hS2.g4_11, ↓hS2.k4, ↓hS2.g5_0, ↓hS2.g5_1, ↓hS2.g5_2, ↓hS2.g5_3, ↓hS2.g5_4, ↓hS2.g5_5, ↓hS2.g5_6, ↓hS2.k5, ↓hS2.g1_0, ↓hS2.g1_1, ↓hS2.g1_2, ↓hS2.g1_3, ↓hS2.g1_4, ↓hS2.g1_5, ↓hS2.g1_6, ↓hS2.g1_7, ↓hS2.k1, ↓hS2.l3, ↓hS2.n3, ↓hS2.l26, ↓hS2.n26, ↓hS2.l5, ↓hS2.n5, ↓hS2.l12, ↓hS2.n12, ↓hS2.l6, ↓hS2.n6, ↓hS2.l10, ↓hS2.n10, ↓hS2.l11, ↓hS2.n11, ↓hS2.l13, ↓hS2.n13, ↓hS2.l14, ↓hS2.n14, ↓hS2.l16, ↓hS2.n16, ↓hS2.l24, ↓hS2.n24, ↓hS2.l27, ↓hS2.n27, ↓hS2.l28, ↓hS2.n28, ↓hS2.l2, ↓hS2.n2, ↓hS2.p6_1, ↓hS2.z6_1, ↓hS2.p6_2, ↓hS2.z6_2, ↓hS2.p6_4, ↓hS2.z6_4, ↓hS2.p6_5, ↓hS2.z6_5, ↓hS2.p6_6, ↓hS2.p2_6, ↓hS2.z2_6, ↓hS2.p2_7, ↓hS2.z2_7, ↓hS2.p3_0, ↓hS2.z3_0, ↓hS2.p3_1, ↓hS2.z3_1, ↓hS2.p3_2, ↓hS2.z3_2, ↓hS2.p3_3, ↓hS2.z3_3, ↓hS2.p4_0, ↓hS2.z4_0, ↓hS2.p4_1, ↓hS2.z4_1, ↓hS2.p4_3, ↓hS2.z4_3, ↓hS2.p4_5, ↓hS2.z4_5, ↓hS2.p4_6, ↓hS2.z4_6, ↓hS2.p4_7, ↓hS2.z4_7, ↓hS2.p4_8, ↓hS2.z4_8, ↓hS2.p4_9, ↓hS2.z4_9, ↓hS2.p4_10, ↓hS2.z4_10, ↓hS2.p4_12, ↓hS2.z4_12, ↓hS2.p4_2, ↓hS2.p4_4, ↓hS2.p5_0, ↓hS2.z5_0, ↓hS2.p5_1, ↓hS2.z5_1, ↓hS2.p5_2, ↓hS2.z5_2, ↓hS2.p5_3, ↓hS2.z5_3, ↓hS2.p1_0, ↓hS2.z1_0, ↓hS2.p1_1, ↓hS2.z1_1, ↓hS2.p1_2, ↓hS2.z1_2, ↓hS2.p1_3, ↓hS2.z1_3, ↓hS2.p1_4, ↓hS2.z1_4, ↓hS2.p1_5, ↓hS2.z1_5, ↓hS2.p1_6, ↓hS2.z1_6, ↓hS2.p1_7, ↓hS2.z1_7, ↓hS2.s6, ↓hS2.s10, ↓hS2.s11, ↓hS2.s13, ↓hS2.s14, ↓hS2.s16, ↓hS2.s24, ↓hS2.s27, ↓hS2.s28, ↓hS2.s2, a2, g12, r1, ↓reduceIte, w32_eq]
  have a3' : ξ 107 (196 + 1226 * p + 13) = n := a3
  have eB : w32 (196 + w32 (1226 * p)) = 196 + 1226 * p := by rw [w32_eq (z := 1226 * p) (by omega) (by omega), w32_eq (by omega) (by omega)]
  have eK : w32 (w32 (196 + 1226 * p + 26) + w32 (2 * n)) = 196 + 1226 * p + 26 + 2 * n := by rw [w32_eq (z := 196 + 1226 * p + 26) (by omega) (by omega), w32_eq (z := 2 * n) (by omega) (by omega), w32_eq (by omega) (by omega)]
  have m1 : MSh (mUp ξ 107 (196 + 1226 * p + 26 + 2 * n) op) := hM.up (by unfold MSt; omega)
  have m2 : MSh (mUp (mUp ξ 107 (196 + 1226 * p + 26 + 2 * n) op) 107 (196 + 1226 * p + 26 + 2 * n + 1) v) := m1.up (by unfold MSt; omega)
  have g13 : mUp (mUp ξ 107 (196 + 1226 * p + 26 + 2 * n) op) 107 (196 + 1226 * p + 26 + 2 * n + 1) v 107 (196 + 1226 * p + 13) = n := by rw [mUp_ne _ _ (by omega), mUp_ne _ _ (by omega)]; exact a3'
  have eM : FX7_emits 105 op v ξ = RT 0 (mUp (mUp (mUp ξ 107 (196 + 1226 * p + 26 + 2 * n) op) 107 (196 + 1226 * p + 26 + 2 * n + 1) v) 107 (196 + 1226 * p + 13) (n + 1)) := by
    simp (disch := omega) only [FX7_emits, BX7_emits_0, ↓hM.g7_0, ↓hM.g7_1, ↓hM.g7_2, ↓hM.g7_3, ↓hM.g7_4, ↓hM.g7_5, ↓hM.g7_6, ↓hM.g7_7, ↓hM.g7_8, ↓hM.g7_9, ↓hM.g7_10, ↓hM.g7_11, ↓hM.g7_12, ↓hM.g7_13, ↓hM.g7_14, ↓hM.g7_15, ↓hM.g7_16, ↓hM.g7_17, ↓hM.g7_18, ↓hM.g7_19, ↓hM.g7_20, ↓hM.g7_21, ↓hM.g7_22, ↓hM.g7_23, ↓hM.k7, ↓hM.l106, ↓hM.n106, ↓hM.l107, ↓hM.n107, ↓hM.l108, ↓hM.n108, ↓hM.l109, ↓hM.n109, ↓hM.l110, ↓hM.n110, ↓hM.l111, ↓hM.n111, ↓hM.l112, ↓hM.n112, ↓hM.l113, ↓hM.n113, ↓hM.l114, ↓hM.n114, ↓hM.p7_0, ↓hM.z7_0, ↓hM.p7_3, ↓hM.z7_3, ↓hM.p7_4, ↓hM.z7_4, ↓hM.p7_10, ↓hM.z7_10, ↓hM.p7_12, ↓hM.z7_12, ↓hM.p7_13, ↓hM.z7_13, ↓hM.p7_14, ↓hM.z7_14, ↓hM.p7_15, ↓hM.z7_15, ↓hM.p7_16, ↓hM.z7_16, ↓hM.p7_17, ↓hM.z7_17, ↓hM.p7_18, ↓hM.z7_18, ↓hM.p7_19, ↓hM.z7_19, ↓hM.p7_20, ↓hM.z7_20, ↓hM.p7_21, ↓hM.z7_21, ↓hM.p7_22, ↓hM.z7_22, ↓hM.s106, ↓hM.s107, ↓hM.s108, ↓hM.s109, ↓hM.s110, ↓hM.s111, ↓hM.s112, ↓hM.s113, ↓hM.s114, ↓m1.g7_0, ↓m1.g7_1, ↓m1.g7_2, ↓m1.g7_3, ↓m1.g7_4, ↓m1.g7_5, ↓m1.g7_6, ↓m1.g7_7, ↓m1.g7_8, ↓m1.g7_9, ↓m1.g7_10, ↓m1.g7_11, ↓m1.g7_12, ↓m1.g7_13, ↓m1.g7_14, ↓m1.g7_15, ↓m1.g7_16, ↓m1.g7_17, ↓m1.g7_18, ↓m1.g7_19, ↓m1.g7_20, ↓m1.g7_21, ↓m1.g7_22, ↓m1.g7_23, ↓m1.k7, ↓m1.l106, ↓m1.n106, ↓m1.l107, ↓m1.n107, ↓m1.l108, ↓m1.n108, ↓m1.l109, ↓m1.n109, ↓m1.l110, ↓m1.n110, ↓m1.l111, ↓m1.n111, ↓m1.l112, ↓m1.n112, ↓m1.l113, ↓m1.n113, ↓m1.l114, ↓m1.n114, ↓m1.p7_0, ↓m1.z7_0, ↓m1.p7_3, ↓m1.z7_3, ↓m1.p7_4, ↓m1.z7_4, ↓m1.p7_10, ↓m1.z7_10, ↓m1.p7_12, ↓m1.z7_12, ↓m1.p7_13, ↓m1.z7_13, ↓m1.p7_14, ↓m1.z7_14, ↓m1.p7_15, ↓m1.z7_15, ↓m1.p7_16, ↓m1.z7_16, ↓m1.p7_17, ↓m1.z7_17, ↓m1.p7_18, ↓m1.z7_18, ↓m1.p7_19, ↓m1.z7_19, ↓m1.p7_20, ↓m1.z7_20, ↓m1.p7_21, ↓m1.z7_21, ↓m1.p7_22, ↓m1.z7_22, ↓m1.s106, ↓m1.s107, ↓m1.s108, ↓m1.s109, ↓m1.s110, ↓m1.s111, ↓m1.s112, ↓m1.s113, ↓m1.s114, ↓m2.g7_0, ↓m2.g7_1, ↓m2.g7_2, ↓m2.g7_3, ↓m2.g7_4, ↓m2.g7_5, ↓m2.g7_6, ↓m2.g7_7, ↓m2.g7_8, ↓m2.g7_9, ↓m2.g7_10, ↓m2.g7_11, ↓m2.g7_12, ↓m2.g7_13, ↓m2.g7_14, ↓m2.g7_15, ↓m2.g7_16, ↓m2.g7_17, ↓m2.g7_18, ↓m2.g7_19, ↓m2.g7_20, ↓m2.g7_21, ↓m2.g7_22, ↓m2.g7_23, ↓m2.k7, ↓m2.l106, ↓m2.n106, ↓m2.l107, ↓m2.n107, ↓m2.l108, ↓m2.n108, ↓m2.l109, ↓m2.n109, ↓m2.l110, ↓m2.n110, ↓m2.l111, ↓m2.n111, ↓m2.l112, ↓m2.n112, ↓m2.l113, ↓m2.n113, ↓m2.l114, ↓m2.n114, ↓m2.p7_0, ↓m2.z7_0, ↓m2.p7_3, ↓m2.z7_3, ↓m2.p7_4, ↓m2.z7_4, ↓m2.p7_10, ↓m2.z7_10, ↓m2.p7_12, ↓m2.z7_12, ↓m2.p7_13, ↓m2.z7_13, ↓m2.p7_14, ↓m2.z7_14, ↓m2.p7_15, ↓m2.z7_15, ↓m2.p7_16, ↓m2.z7_16, ↓m2.p7_17, ↓m2.z7_17, ↓m2.p7_18, ↓m2.z7_18, ↓m2.p7_19, ↓m2.z7_19, ↓m2.p7_20, ↓m2.z7_20, ↓m2.p7_21, ↓m2.z7_21, ↓m2.p7_22, ↓m2.z7_22, ↓m2.s106, ↓m2.s107, ↓m2.s108, ↓m2.s109, ↓m2.s110, ↓m2.s111, ↓m2.s112, ↓m2.s113, ↓m2.s114, a4, LT_eq, eB, a3', eK, g13, w32_eq (z := 196 + 1226 * p + 13), w32_eq (z := 196 + 1226 * p + 26 + 2 * n + 1), w32_eq (z := n + 1)]
  refine ⟨_, _, eC, eM, ?_, fun z k hk => by rw [mUp_ne _ _ (by omega), mUp_ne _ _ (by omega)], fun z k hk => by rw [mUp_ne _ _ (by omega), mUp_ne _ _ (by omega), mUp_ne _ _ (by omega)]⟩
  generalize hη : mUp (mUp (mUp ξ 107 (196 + 1226 * p + 26 + 2 * n) op) 107 (196 + 1226 * p + 26 + 2 * n + 1) v) 107 (196 + 1226 * p + 13) (n + 1) = η
  have q13 : rO (η 107) p 13 = n + 1 := by rw [← hη]; exact mUp_same _ _ _ _
  have qop : cOp (η 107) p n = op := by
    rw [← hη]
    unfold cOp rO
    rw [mUp_ne _ _ (by omega), mUp_ne _ _ (by omega), show 196 + 1226 * p + (26 + 2 * n) = 196 + 1226 * p + 26 + 2 * n by omega, mUp_same]
  have qv : cV (η 107) p n = v := by
    rw [← hη]
    unfold cV rO
    rw [mUp_ne _ _ (by omega), show 196 + 1226 * p + (26 + 2 * n + 1) = 196 + 1226 * p + 26 + 2 * n + 1 by omega, mUp_same]
  have qo : ∀ k : Int, 0 ≤ k → k < n → cOp (η 107) p k = cOp (ξ 107) p k := fun k k0 k1 => by
    rw [← hη]
    unfold cOp rO
    rw [mUp_ne _ _ (by omega), mUp_ne _ _ (by omega), mUp_ne _ _ (by omega)]
  have qw : ∀ k : Int, 0 ≤ k → k < n → cV (η 107) p k = cV (ξ 107) p k := fun k k0 k1 => by
    rw [← hη]
    unfold cV rO
    rw [mUp_ne _ _ (by omega), mUp_ne _ _ (by omega), mUp_ne _ _ (by omega)]
  have qs : ∀ k : Nat, (k : Int) ≤ n → sd (η 107) p k = sd (ξ 107) p k := fun k k1 => sd_pre k fun j hj => qo j (by omega) (by omega)
  have hn2 : ((n.toNat : Nat) : Int) = n := by omega
  have qn : sd (η 107) p (n.toNat + 1) = if op ≤ 1 then D + 1 else D - 1 := by
    rw [sd, hn2, qop, qs n.toNat (by omega), d]
  refine ⟨⟨by omega, mUp_same _ _ _ _, q13, by rw [← hη, mUp_ne _ _ (by omega), mUp_ne _ _ (by omega), mUp_ne _ _ (by omega)]; exact a4, a5, a6⟩, fun k k0 k1 => ?_, fun k k1 => ?_, by rw [show (n + 1).toNat = n.toNat + 1 by omega]; exact qn⟩
  · rw [mUp_ne _ _ (by omega)]
    by_cases e : k = n
    · rw [e, mUp_same, qop, qv]
    · rw [mUp_ne _ _ (by omega), qo k k0 (by omega), qw k k0 (by omega)]
      exact b k k0 (by omega)
  · by_cases e : (k : Int) = n
    · have ek : k = n.toNat := by omega
      rw [e, qop, qv, ek, qn, qs n.toNat (by omega), d]
      exact ⟨ho, hv0, hv1, hd, hD⟩
    · have h1 := c k (by omega)
      rw [qo k (by omega) (by omega), qw k (by omega) (by omega), qs k (by omega), qs (k + 1) (by omega)]
      exact h1
end CUR
