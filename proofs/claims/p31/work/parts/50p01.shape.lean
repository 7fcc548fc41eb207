/-! the run's cells by their numbers: what is fixed in them, and the rows that read and write there -/
theorem GF_of {ci k a : Int} {μ : Mem} {K : Int → Rz} (h : μ a (-1) = ci + 1) : GF ci k a μ K = K (μ a k) := by
  unfold GF
  rw [if_pos h]
theorem PF_of {ci k a v : Int} {μ : Mem} {K : Mem → Rz} (h0 : 0 < a) (h : μ a (-1) = ci + 1) : PF ci k a v μ K = K (mUp μ a k v) := by
  unfold PF
  rw [if_pos ⟨Or.inl h0, h⟩]
theorem PZ_of {ci k a v : Int} {μ : Mem} {K : Mem → Rz} (h0 : 0 < a) (h : μ a (-1) = ci + 1) (hv : v = 0 ∨ v = 1) : PZ ci k a v μ K = K (mUp μ a k v) := by
  unfold PZ
  rw [if_pos ⟨Or.inl h0, h, hv⟩]
theorem AL_of {t a i n : Int} {μ : Mem} {K : Int → Rz} (h : μ a (-1) = t + 20) (hn : μ a (-2) = n) (h0 : 0 ≤ i) (h1 : i < n) : AL t a i μ K = K (μ a i) := by
  unfold AL
  rw [if_pos ⟨h, h0, by rw [hn]; exact h1⟩]
theorem AS_of {t a i v n : Int} {μ : Mem} {K : Mem → Rz} (h9 : 0 < a) (h : μ a (-1) = t + 20) (hn : μ a (-2) = n) (h0 : 0 ≤ i) (h1 : i < n) : AS t a i v μ K = K (mUp μ a i v) := by
  unfold AS
  rw [if_pos ⟨Or.inl h9, h, h0, by rw [hn]; exact h1⟩]
theorem ASB_of {a i v n : Int} {μ : Mem} {K : Mem → Rz} (h9 : 0 < a) (h : μ a (-1) = 20) (hn : μ a (-2) = n) (h0 : 0 ≤ i) (h1 : i < n) : ASB a i v μ K = K (mUp μ a i (w8 v)) := by
  unfold ASB
  rw [if_pos ⟨Or.inl h9, h, h0, by rw [hn]; exact h1⟩]
theorem LN_of {t a n : Int} {μ : Mem} {K : Int → Rz} (h : μ a (-1) = t + 20) (hn : μ a (-2) = n) : LN t a μ K = K n := by
  unfold LN
  rw [if_pos h, hn]
theorem KD_of {ci a : Int} {μ : Mem} {r : Rz} (h : μ a (-1) = ci + 1) : KD ci a μ r = r := by
  unfold KD
  rw [if_pos h]
theorem CLX_rt {v : Int} {μ : Mem} {K : Int → Mem → Rz} {X : Int → Int → Mem → Rz} : CLX (RT v μ) K X = K v μ := rfl
theorem CLX_0 {v : Int} {μ : Mem} {K : Int → Mem → Rz} {X : Int → Int → Mem → Rz} : CLX (some (0, v, μ)) K X = K v μ := rfl
theorem CLX_th {x : Int} {μ : Mem} {K : Int → Mem → Rz} {X : Int → Int → Mem → Rz} (hx : x ≠ 0) : CLX (TH x μ) K X = X x 0 (mThr μ) := by
  show (if x = 0 then _ else _) = _
  rw [if_neg hx]
theorem CLX_x {x v : Int} {μ : Mem} {K : Int → Mem → Rz} {X : Int → Int → Mem → Rz} (hx : x ≠ 0) : CLX (some (x, v, μ)) K X = X x v μ := by
  show (if x = 0 then _ else _) = _
  rw [if_neg hx]
theorem RTZ_0 {μ : Mem} : RTZ 0 μ = RT 0 μ := rfl
theorem RTZ_1 {μ : Mem} : RTZ 1 μ = RT 1 μ := rfl
theorem RTZ_of {v : Int} {μ : Mem} (h : v = 0 ∨ v = 1) : RTZ v μ = RT v μ := by
  unfold RTZ
  rw [if_pos h]
  rfl
theorem LT_eq {z : Int} {K : Int → Rz} : LT z K = K z := rfl
theorem DV_of {a b : Int} {K : Int → Rz} (h : b ≠ 0) : DV a b K = K (w32 (a.tdiv b)) := by
  unfold DV
  rw [if_neg h]
theorem RM_of {a b : Int} {K : Int → Rz} (h : b ≠ 0) : RM a b K = K (a.tmod b) := by
  unfold RM
  rw [if_neg h]
theorem LD_of {a b : Int} {K : Int → Rz} (h : b ≠ 0) : LD a b K = K (w64 (a.tdiv b)) := by
  unfold LD
  rw [if_neg h]
def CSh (μ : Mem) : Prop :=
  (μ 1 (-1) = 7 ∧ μ 1 0 = 2 ∧ μ 1 3 = 3 ∧ μ 1 7 = 4 ∧ μ 1 8 = 23) ∧ (μ 2 (-1) = 20 ∧ μ 2 (-2) = 600) ∧
  (μ 3 (-1) = 24 ∧ μ 3 (-2) = 10 ∧ ∀ c, 0 ≤ c → c < 10 → μ 3 c = 25 + 8 * c) ∧
  (μ 4 (-1) = 3 ∧ μ 4 0 = 5 ∧ μ 4 1 = 10 ∧ μ 4 2 = 11 ∧ μ 4 3 = 12 ∧ μ 4 4 = 13 ∧ μ 4 5 = 14) ∧
  (μ 5 (-1) = 27 ∧ μ 5 (-2) = 4 ∧ ∀ p, 0 ≤ p → p < 4 → μ 5 p = 6 + p ∧ μ (6 + p) (-1) = 21 ∧ μ (6 + p) (-2) = 192) ∧
  (μ 10 (-1) = 21 ∧ μ 10 (-2) = 192 ∧ μ 11 (-1) = 21 ∧ μ 11 (-2) = 4 ∧ μ 13 (-1) = 21 ∧ μ 13 (-2) = 650 ∧ μ 14 (-1) = 21 ∧ μ 14 (-2) = 11) ∧
  (μ 12 (-1) = 26 ∧ μ 12 (-2) = 4 ∧ ∀ p, 0 ≤ p → p < 4 → μ 12 p = 15 + 2 * p ∧ μ (15 + 2 * p) (-1) = 4 ∧ μ (15 + 2 * p) 4 = 16 + 2 * p ∧ μ (16 + 2 * p) (-1) = 21 ∧ μ (16 + 2 * p) (-2) = 324) ∧
  (μ 23 (-1) = 5 ∧ μ 23 11 = 24 ∧ μ 24 (-1) = 21 ∧ μ 24 (-2) = 600) ∧
  (∀ c, 0 ≤ c → c < 10 → μ (25 + 8 * c) (-1) = 6 ∧ μ (25 + 8 * c) 4 = 26 + 8 * c ∧ μ (25 + 8 * c) 5 = 27 + 8 * c ∧ μ (25 + 8 * c) 6 = 28 + 8 * c ∧ μ (26 + 8 * c) (-1) = 25 ∧ μ (26 + 8 * c) (-2) = 4 ∧ μ (27 + 8 * c) (-1) = 21 ∧ μ (27 + 8 * c) (-2) = 192 ∧ μ (28 + 8 * c) (-1) = 21 ∧ μ (28 + 8 * c) (-2) = 192) ∧
  (∀ c, 0 ≤ c → c < 10 → ∀ p, 0 ≤ p → p < 4 → μ (26 + 8 * c) p = 29 + 8 * c + p ∧ μ (29 + 8 * c + p) (-1) = 2)
/-- the fixed cells of the component -/
def CSt (a k : Int) : Prop := 1 ≤ a ∧ a ≤ 104 ∧ (k < 0 ∨ (a = 1 ∧ (k = 0 ∨ k = 3 ∨ k = 7 ∨ k = 8)) ∨ a = 3 ∨ (a = 4 ∧ k ≤ 5) ∨ a = 5 ∨ a = 12 ∨ (15 ≤ a ∧ a ≤ 22 ∧ a % 2 = 1 ∧ k = 4) ∨ (a = 23 ∧ k = 11) ∨ (25 ≤ a ∧ ((a % 8 = 1 ∧ 4 ≤ k) ∨ a % 8 = 2)))
theorem CSh.fr {μ ν : Mem} (h : CSh μ) (hf : ∀ a k, CSt a k → ν a k = μ a k) : CSh ν := by
  obtain ⟨⟨a1, a2, a3, a4, a5⟩, ⟨b1, b2⟩, ⟨c1, c2, c3⟩, ⟨d1, d2, d3, d4, d5, d6, d7⟩, ⟨e1, e2, e3⟩, ⟨f1, f2, f3, f4, f5, f6, f7, f8⟩, ⟨g1, g2, g3⟩, ⟨i1, i2, i3, i4⟩, j, k⟩ := h
  have q : ∀ a k v, μ a k = v → CSt a k → ν a k = v := fun a k v h1 h2 => (hf a k h2).trans h1
  unfold CSt at q
  refine ⟨⟨q _ _ _ a1 ?_, q _ _ _ a2 ?_, q _ _ _ a3 ?_, q _ _ _ a4 ?_, q _ _ _ a5 ?_⟩, ⟨q _ _ _ b1 ?_, q _ _ _ b2 ?_⟩, ⟨q _ _ _ c1 ?_, q _ _ _ c2 ?_, fun c u1 u2 => q _ _ _ (c3 c u1 u2) ?_⟩, ⟨q _ _ _ d1 ?_, q _ _ _ d2 ?_, q _ _ _ d3 ?_, q _ _ _ d4 ?_, q _ _ _ d5 ?_, q _ _ _ d6 ?_, q _ _ _ d7 ?_⟩, ⟨q _ _ _ e1 ?_, q _ _ _ e2 ?_, fun p u1 u2 => ⟨q _ _ _ (e3 p u1 u2).1 ?_, q _ _ _ (e3 p u1 u2).2.1 ?_, q _ _ _ (e3 p u1 u2).2.2 ?_⟩⟩, ⟨q _ _ _ f1 ?_, q _ _ _ f2 ?_, q _ _ _ f3 ?_, q _ _ _ f4 ?_, q _ _ _ f5 ?_, q _ _ _ f6 ?_, q _ _ _ f7 ?_, q _ _ _ f8 ?_⟩, ⟨q _ _ _ g1 ?_, q _ _ _ g2 ?_, fun p u1 u2 => ⟨q _ _ _ (g3 p u1 u2).1 ?_, q _ _ _ (g3 p u1 u2).2.1 ?_, q _ _ _ (g3 p u1 u2).2.2.1 ?_, q _ _ _ (g3 p u1 u2).2.2.2.1 ?_, q _ _ _ (g3 p u1 u2).2.2.2.2 ?_⟩⟩, ⟨q _ _ _ i1 ?_, q _ _ _ i2 ?_, q _ _ _ i3 ?_, q _ _ _ i4 ?_⟩, fun c u1 u2 => ⟨q _ _ _ (j c u1 u2).1 ?_, q _ _ _ (j c u1 u2).2.1 ?_, q _ _ _ (j c u1 u2).2.2.1 ?_, q _ _ _ (j c u1 u2).2.2.2.1 ?_, q _ _ _ (j c u1 u2).2.2.2.2.1 ?_, q _ _ _ (j c u1 u2).2.2.2.2.2.1 ?_, q _ _ _ (j c u1 u2).2.2.2.2.2.2.1 ?_, q _ _ _ (j c u1 u2).2.2.2.2.2.2.2.1 ?_, q _ _ _ (j c u1 u2).2.2.2.2.2.2.2.2.1 ?_, q _ _ _ (j c u1 u2).2.2.2.2.2.2.2.2.2 ?_⟩, fun c u1 u2 p u3 u4 => ⟨q _ _ _ (k c u1 u2 p u3 u4).1 ?_, q _ _ _ (k c u1 u2 p u3 u4).2 ?_⟩⟩
  all_goals (clear q hf; omega)
theorem CSh.up {μ : Mem} (h : CSh μ) {a k v : Int} (hn : ¬ CSt a k) : CSh (mUp μ a k v) := h.fr fun b j hb => mUp_ne μ v fun e => hn (by rw [← e.1, ← e.2]; exact hb)
theorem CSh.g6_0 {μ : Mem} (h : CSh μ) {K : Int → Rz} : GF 6 0 (1) μ K = K (2) := by
  rw [GF_of (h.1.1)]
  rw [h.1.2.1]
theorem CSh.g6_1 {μ : Mem} (h : CSh μ) {K : Int → Rz} : GF 6 1 (1) μ K = K (μ (1) 1) := by
  rw [GF_of (h.1.1)]
theorem CSh.p6_1 {μ : Mem} (h : CSh μ) {v : Int} {K : Mem → Rz} : PF 6 1 (1) v μ K = K (mUp μ (1) 1 v) := PF_of (by omega) (h.1.1)
theorem CSh.z6_1 {μ : Mem} (h : CSh μ) {v : Int} {K : Mem → Rz} (hv : v = 0 ∨ v = 1) : PZ 6 1 (1) v μ K = K (mUp μ (1) 1 v) := PZ_of (by omega) (h.1.1) hv
theorem CSh.g6_2 {μ : Mem} (h : CSh μ) {K : Int → Rz} : GF 6 2 (1) μ K = K (μ (1) 2) := by
  rw [GF_of (h.1.1)]
theorem CSh.p6_2 {μ : Mem} (h : CSh μ) {v : Int} {K : Mem → Rz} : PF 6 2 (1) v μ K = K (mUp μ (1) 2 v) := PF_of (by omega) (h.1.1)
theorem CSh.z6_2 {μ : Mem} (h : CSh μ) {v : Int} {K : Mem → Rz} (hv : v = 0 ∨ v = 1) : PZ 6 2 (1) v μ K = K (mUp μ (1) 2 v) := PZ_of (by omega) (h.1.1) hv
theorem CSh.g6_3 {μ : Mem} (h : CSh μ) {K : Int → Rz} : GF 6 3 (1) μ K = K (3) := by
  rw [GF_of (h.1.1)]
  rw [h.1.2.2.1]
theorem CSh.g6_4 {μ : Mem} (h : CSh μ) {K : Int → Rz} : GF 6 4 (1) μ K = K (μ (1) 4) := by
  rw [GF_of (h.1.1)]
theorem CSh.p6_4 {μ : Mem} (h : CSh μ) {v : Int} {K : Mem → Rz} : PF 6 4 (1) v μ K = K (mUp μ (1) 4 v) := PF_of (by omega) (h.1.1)
theorem CSh.z6_4 {μ : Mem} (h : CSh μ) {v : Int} {K : Mem → Rz} (hv : v = 0 ∨ v = 1) : PZ 6 4 (1) v μ K = K (mUp μ (1) 4 v) := PZ_of (by omega) (h.1.1) hv
theorem CSh.g6_5 {μ : Mem} (h : CSh μ) {K : Int → Rz} : GF 6 5 (1) μ K = K (μ (1) 5) := by
  rw [GF_of (h.1.1)]
theorem CSh.p6_5 {μ : Mem} (h : CSh μ) {v : Int} {K : Mem → Rz} : PF 6 5 (1) v μ K = K (mUp μ (1) 5 v) := PF_of (by omega) (h.1.1)
theorem CSh.z6_5 {μ : Mem} (h : CSh μ) {v : Int} {K : Mem → Rz} (hv : v = 0 ∨ v = 1) : PZ 6 5 (1) v μ K = K (mUp μ (1) 5 v) := PZ_of (by omega) (h.1.1) hv
theorem CSh.g6_7 {μ : Mem} (h : CSh μ) {K : Int → Rz} : GF 6 7 (1) μ K = K (4) := by
  rw [GF_of (h.1.1)]
  rw [h.1.2.2.2.1]
theorem CSh.g6_8 {μ : Mem} (h : CSh μ) {K : Int → Rz} : GF 6 8 (1) μ K = K (23) := by
  rw [GF_of (h.1.1)]
  rw [h.1.2.2.2.2]
theorem CSh.k6 {μ : Mem} (h : CSh μ) {r : Rz} : KD 6 (1) μ r = r := KD_of (h.1.1)
theorem CSh.g6_6 {μ : Mem} (h : CSh μ) {z : Int} (hz : μ 1 6 = z) {K : Int → Rz} : GF 6 6 1 μ K = K z := by
  rw [GF_of (h.1.1), hz]
theorem CSh.p6_6 {μ : Mem} (h : CSh μ) {v : Int} {K : Mem → Rz} : PF 6 6 1 v μ K = K (mUp μ 1 6 v) := PF_of (by omega) (h.1.1)
theorem CSh.g2_0 {μ : Mem} (h : CSh μ) {K : Int → Rz} : GF 2 0 (4) μ K = K (5) := by
  rw [GF_of (h.2.2.2.1.1)]
  rw [h.2.2.2.1.2.1]
theorem CSh.g2_1 {μ : Mem} (h : CSh μ) {K : Int → Rz} : GF 2 1 (4) μ K = K (10) := by
  rw [GF_of (h.2.2.2.1.1)]
  rw [h.2.2.2.1.2.2.1]
theorem CSh.g2_2 {μ : Mem} (h : CSh μ) {K : Int → Rz} : GF 2 2 (4) μ K = K (11) := by
  rw [GF_of (h.2.2.2.1.1)]
  rw [h.2.2.2.1.2.2.2.1]
theorem CSh.g2_3 {μ : Mem} (h : CSh μ) {K : Int → Rz} : GF 2 3 (4) μ K = K (12) := by
  rw [GF_of (h.2.2.2.1.1)]
  rw [h.2.2.2.1.2.2.2.2.1]
theorem CSh.g2_4 {μ : Mem} (h : CSh μ) {K : Int → Rz} : GF 2 4 (4) μ K = K (13) := by
  rw [GF_of (h.2.2.2.1.1)]
  rw [h.2.2.2.1.2.2.2.2.2.1]
theorem CSh.g2_5 {μ : Mem} (h : CSh μ) {K : Int → Rz} : GF 2 5 (4) μ K = K (14) := by
  rw [GF_of (h.2.2.2.1.1)]
  rw [h.2.2.2.1.2.2.2.2.2.2]
theorem CSh.g2_6 {μ : Mem} (h : CSh μ) {K : Int → Rz} : GF 2 6 (4) μ K = K (μ (4) 6) := by
  rw [GF_of (h.2.2.2.1.1)]
theorem CSh.p2_6 {μ : Mem} (h : CSh μ) {v : Int} {K : Mem → Rz} : PF 2 6 (4) v μ K = K (mUp μ (4) 6 v) := PF_of (by omega) (h.2.2.2.1.1)
theorem CSh.z2_6 {μ : Mem} (h : CSh μ) {v : Int} {K : Mem → Rz} (hv : v = 0 ∨ v = 1) : PZ 2 6 (4) v μ K = K (mUp μ (4) 6 v) := PZ_of (by omega) (h.2.2.2.1.1) hv
theorem CSh.g2_7 {μ : Mem} (h : CSh μ) {K : Int → Rz} : GF 2 7 (4) μ K = K (μ (4) 7) := by
  rw [GF_of (h.2.2.2.1.1)]
theorem CSh.p2_7 {μ : Mem} (h : CSh μ) {v : Int} {K : Mem → Rz} : PF 2 7 (4) v μ K = K (mUp μ (4) 7 v) := PF_of (by omega) (h.2.2.2.1.1)
theorem CSh.z2_7 {μ : Mem} (h : CSh μ) {v : Int} {K : Mem → Rz} (hv : v = 0 ∨ v = 1) : PZ 2 7 (4) v μ K = K (mUp μ (4) 7 v) := PZ_of (by omega) (h.2.2.2.1.1) hv
theorem CSh.k2 {μ : Mem} (h : CSh μ) {r : Rz} : KD 2 (4) μ r = r := KD_of (h.2.2.2.1.1)
theorem CSh.g3_0 {μ : Mem} (h : CSh μ) {p : Int}  (h0 : 0 ≤ p) (h1 : p < 4) {K : Int → Rz} : GF 3 0 (15 + 2 * p) μ K = K (μ (15 + 2 * p) 0) := by
  rw [GF_of ((h.2.2.2.2.2.2.1.2.2 p h0 h1).2.1)]
theorem CSh.p3_0 {μ : Mem} (h : CSh μ) {p : Int}  (h0 : 0 ≤ p) (h1 : p < 4) {v : Int} {K : Mem → Rz} : PF 3 0 (15 + 2 * p) v μ K = K (mUp μ (15 + 2 * p) 0 v) := PF_of (by omega) ((h.2.2.2.2.2.2.1.2.2 p h0 h1).2.1)
theorem CSh.z3_0 {μ : Mem} (h : CSh μ) {p : Int}  (h0 : 0 ≤ p) (h1 : p < 4) {v : Int} {K : Mem → Rz} (hv : v = 0 ∨ v = 1) : PZ 3 0 (15 + 2 * p) v μ K = K (mUp μ (15 + 2 * p) 0 v) := PZ_of (by omega) ((h.2.2.2.2.2.2.1.2.2 p h0 h1).2.1) hv
theorem CSh.g3_1 {μ : Mem} (h : CSh μ) {p : Int}  (h0 : 0 ≤ p) (h1 : p < 4) {K : Int → Rz} : GF 3 1 (15 + 2 * p) μ K = K (μ (15 + 2 * p) 1) := by
  rw [GF_of ((h.2.2.2.2.2.2.1.2.2 p h0 h1).2.1)]
theorem CSh.p3_1 {μ : Mem} (h : CSh μ) {p : Int}  (h0 : 0 ≤ p) (h1 : p < 4) {v : Int} {K : Mem → Rz} : PF 3 1 (15 + 2 * p) v μ K = K (mUp μ (15 + 2 * p) 1 v) := PF_of (by omega) ((h.2.2.2.2.2.2.1.2.2 p h0 h1).2.1)
theorem CSh.z3_1 {μ : Mem} (h : CSh μ) {p : Int}  (h0 : 0 ≤ p) (h1 : p < 4) {v : Int} {K : Mem → Rz} (hv : v = 0 ∨ v = 1) : PZ 3 1 (15 + 2 * p) v μ K = K (mUp μ (15 + 2 * p) 1 v) := PZ_of (by omega) ((h.2.2.2.2.2.2.1.2.2 p h0 h1).2.1) hv
theorem CSh.g3_2 {μ : Mem} (h : CSh μ) {p : Int}  (h0 : 0 ≤ p) (h1 : p < 4) {K : Int → Rz} : GF 3 2 (15 + 2 * p) μ K = K (μ (15 + 2 * p) 2) := by
  rw [GF_of ((h.2.2.2.2.2.2.1.2.2 p h0 h1).2.1)]
theorem CSh.p3_2 {μ : Mem} (h : CSh μ) {p : Int}  (h0 : 0 ≤ p) (h1 : p < 4) {v : Int} {K : Mem → Rz} : PF 3 2 (15 + 2 * p) v μ K = K (mUp μ (15 + 2 * p) 2 v) := PF_of (by omega) ((h.2.2.2.2.2.2.1.2.2 p h0 h1).2.1)
theorem CSh.z3_2 {μ : Mem} (h : CSh μ) {p : Int}  (h0 : 0 ≤ p) (h1 : p < 4) {v : Int} {K : Mem → Rz} (hv : v = 0 ∨ v = 1) : PZ 3 2 (15 + 2 * p) v μ K = K (mUp μ (15 + 2 * p) 2 v) := PZ_of (by omega) ((h.2.2.2.2.2.2.1.2.2 p h0 h1).2.1) hv
theorem CSh.g3_3 {μ : Mem} (h : CSh μ) {p : Int}  (h0 : 0 ≤ p) (h1 : p < 4) {K : Int → Rz} : GF 3 3 (15 + 2 * p) μ K = K (μ (15 + 2 * p) 3) := by
  rw [GF_of ((h.2.2.2.2.2.2.1.2.2 p h0 h1).2.1)]
theorem CSh.p3_3 {μ : Mem} (h : CSh μ) {p : Int}  (h0 : 0 ≤ p) (h1 : p < 4) {v : Int} {K : Mem → Rz} : PF 3 3 (15 + 2 * p) v μ K = K (mUp μ (15 + 2 * p) 3 v) := PF_of (by omega) ((h.2.2.2.2.2.2.1.2.2 p h0 h1).2.1)
theorem CSh.z3_3 {μ : Mem} (h : CSh μ) {p : Int}  (h0 : 0 ≤ p) (h1 : p < 4) {v : Int} {K : Mem → Rz} (hv : v = 0 ∨ v = 1) : PZ 3 3 (15 + 2 * p) v μ K = K (mUp μ (15 + 2 * p) 3 v) := PZ_of (by omega) ((h.2.2.2.2.2.2.1.2.2 p h0 h1).2.1) hv
theorem CSh.g3_4 {μ : Mem} (h : CSh μ) {p : Int}  (h0 : 0 ≤ p) (h1 : p < 4) {K : Int → Rz} : GF 3 4 (15 + 2 * p) μ K = K (16 + 2 * p) := by
  rw [GF_of ((h.2.2.2.2.2.2.1.2.2 p h0 h1).2.1)]
  rw [(h.2.2.2.2.2.2.1.2.2 p h0 h1).2.2.1]
theorem CSh.k3 {μ : Mem} (h : CSh μ) {p : Int}  (h0 : 0 ≤ p) (h1 : p < 4) {r : Rz} : KD 3 (15 + 2 * p) μ r = r := KD_of ((h.2.2.2.2.2.2.1.2.2 p h0 h1).2.1)
theorem CSh.g4_0 {μ : Mem} (h : CSh μ) {K : Int → Rz} : GF 4 0 (23) μ K = K (μ (23) 0) := by
  rw [GF_of (h.2.2.2.2.2.2.2.1.1)]
theorem CSh.p4_0 {μ : Mem} (h : CSh μ) {v : Int} {K : Mem → Rz} : PF 4 0 (23) v μ K = K (mUp μ (23) 0 v) := PF_of (by omega) (h.2.2.2.2.2.2.2.1.1)
theorem CSh.z4_0 {μ : Mem} (h : CSh μ) {v : Int} {K : Mem → Rz} (hv : v = 0 ∨ v = 1) : PZ 4 0 (23) v μ K = K (mUp μ (23) 0 v) := PZ_of (by omega) (h.2.2.2.2.2.2.2.1.1) hv
theorem CSh.g4_1 {μ : Mem} (h : CSh μ) {K : Int → Rz} : GF 4 1 (23) μ K = K (μ (23) 1) := by
  rw [GF_of (h.2.2.2.2.2.2.2.1.1)]
theorem CSh.p4_1 {μ : Mem} (h : CSh μ) {v : Int} {K : Mem → Rz} : PF 4 1 (23) v μ K = K (mUp μ (23) 1 v) := PF_of (by omega) (h.2.2.2.2.2.2.2.1.1)
theorem CSh.z4_1 {μ : Mem} (h : CSh μ) {v : Int} {K : Mem → Rz} (hv : v = 0 ∨ v = 1) : PZ 4 1 (23) v μ K = K (mUp μ (23) 1 v) := PZ_of (by omega) (h.2.2.2.2.2.2.2.1.1) hv
theorem CSh.g4_3 {μ : Mem} (h : CSh μ) {K : Int → Rz} : GF 4 3 (23) μ K = K (μ (23) 3) := by
  rw [GF_of (h.2.2.2.2.2.2.2.1.1)]
theorem CSh.p4_3 {μ : Mem} (h : CSh μ) {v : Int} {K : Mem → Rz} : PF 4 3 (23) v μ K = K (mUp μ (23) 3 v) := PF_of (by omega) (h.2.2.2.2.2.2.2.1.1)
theorem CSh.z4_3 {μ : Mem} (h : CSh μ) {v : Int} {K : Mem → Rz} (hv : v = 0 ∨ v = 1) : PZ 4 3 (23) v μ K = K (mUp μ (23) 3 v) := PZ_of (by omega) (h.2.2.2.2.2.2.2.1.1) hv
theorem CSh.g4_5 {μ : Mem} (h : CSh μ) {K : Int → Rz} : GF 4 5 (23) μ K = K (μ (23) 5) := by
  rw [GF_of (h.2.2.2.2.2.2.2.1.1)]
theorem CSh.p4_5 {μ : Mem} (h : CSh μ) {v : Int} {K : Mem → Rz} : PF 4 5 (23) v μ K = K (mUp μ (23) 5 v) := PF_of (by omega) (h.2.2.2.2.2.2.2.1.1)
theorem CSh.z4_5 {μ : Mem} (h : CSh μ) {v : Int} {K : Mem → Rz} (hv : v = 0 ∨ v = 1) : PZ 4 5 (23) v μ K = K (mUp μ (23) 5 v) := PZ_of (by omega) (h.2.2.2.2.2.2.2.1.1) hv
theorem CSh.g4_6 {μ : Mem} (h : CSh μ) {K : Int → Rz} : GF 4 6 (23) μ K = K (μ (23) 6) := by
  rw [GF_of (h.2.2.2.2.2.2.2.1.1)]
theorem CSh.p4_6 {μ : Mem} (h : CSh μ) {v : Int} {K : Mem → Rz} : PF 4 6 (23) v μ K = K (mUp μ (23) 6 v) := PF_of (by omega) (h.2.2.2.2.2.2.2.1.1)
theorem CSh.z4_6 {μ : Mem} (h : CSh μ) {v : Int} {K : Mem → Rz} (hv : v = 0 ∨ v = 1) : PZ 4 6 (23) v μ K = K (mUp μ (23) 6 v) := PZ_of (by omega) (h.2.2.2.2.2.2.2.1.1) hv
theorem CSh.g4_7 {μ : Mem} (h : CSh μ) {K : Int → Rz} : GF 4 7 (23) μ K = K (μ (23) 7) := by
  rw [GF_of (h.2.2.2.2.2.2.2.1.1)]
theorem CSh.p4_7 {μ : Mem} (h : CSh μ) {v : Int} {K : Mem → Rz} : PF 4 7 (23) v μ K = K (mUp μ (23) 7 v) := PF_of (by omega) (h.2.2.2.2.2.2.2.1.1)
theorem CSh.z4_7 {μ : Mem} (h : CSh μ) {v : Int} {K : Mem → Rz} (hv : v = 0 ∨ v = 1) : PZ 4 7 (23) v μ K = K (mUp μ (23) 7 v) := PZ_of (by omega) (h.2.2.2.2.2.2.2.1.1) hv
theorem CSh.g4_8 {μ : Mem} (h : CSh μ) {K : Int → Rz} : GF 4 8 (23) μ K = K (μ (23) 8) := by
  rw [GF_of (h.2.2.2.2.2.2.2.1.1)]
theorem CSh.p4_8 {μ : Mem} (h : CSh μ) {v : Int} {K : Mem → Rz} : PF 4 8 (23) v μ K = K (mUp μ (23) 8 v) := PF_of (by omega) (h.2.2.2.2.2.2.2.1.1)
theorem CSh.z4_8 {μ : Mem} (h : CSh μ) {v : Int} {K : Mem → Rz} (hv : v = 0 ∨ v = 1) : PZ 4 8 (23) v μ K = K (mUp μ (23) 8 v) := PZ_of (by omega) (h.2.2.2.2.2.2.2.1.1) hv
theorem CSh.g4_9 {μ : Mem} (h : CSh μ) {K : Int → Rz} : GF 4 9 (23) μ K = K (μ (23) 9) := by
  rw [GF_of (h.2.2.2.2.2.2.2.1.1)]
theorem CSh.p4_9 {μ : Mem} (h : CSh μ) {v : Int} {K : Mem → Rz} : PF 4 9 (23) v μ K = K (mUp μ (23) 9 v) := PF_of (by omega) (h.2.2.2.2.2.2.2.1.1)
theorem CSh.z4_9 {μ : Mem} (h : CSh μ) {v : Int} {K : Mem → Rz} (hv : v = 0 ∨ v = 1) : PZ 4 9 (23) v μ K = K (mUp μ (23) 9 v) := PZ_of (by omega) (h.2.2.2.2.2.2.2.1.1) hv
theorem CSh.g4_10 {μ : Mem} (h : CSh μ) {K : Int → Rz} : GF 4 10 (23) μ K = K (μ (23) 10) := by
  rw [GF_of (h.2.2.2.2.2.2.2.1.1)]
theorem CSh.p4_10 {μ : Mem} (h : CSh μ) {v : Int} {K : Mem → Rz} : PF 4 10 (23) v μ K = K (mUp μ (23) 10 v) := PF_of (by omega) (h.2.2.2.2.2.2.2.1.1)
theorem CSh.z4_10 {μ : Mem} (h : CSh μ) {v : Int} {K : Mem → Rz} (hv : v = 0 ∨ v = 1) : PZ 4 10 (23) v μ K = K (mUp μ (23) 10 v) := PZ_of (by omega) (h.2.2.2.2.2.2.2.1.1) hv
theorem CSh.g4_12 {μ : Mem} (h : CSh μ) {K : Int → Rz} : GF 4 12 (23) μ K = K (μ (23) 12) := by
  rw [GF_of (h.2.2.2.2.2.2.2.1.1)]
theorem CSh.p4_12 {μ : Mem} (h : CSh μ) {v : Int} {K : Mem → Rz} : PF 4 12 (23) v μ K = K (mUp μ (23) 12 v) := PF_of (by omega) (h.2.2.2.2.2.2.2.1.1)
theorem CSh.z4_12 {μ : Mem} (h : CSh μ) {v : Int} {K : Mem → Rz} (hv : v = 0 ∨ v = 1) : PZ 4 12 (23) v μ K = K (mUp μ (23) 12 v) := PZ_of (by omega) (h.2.2.2.2.2.2.2.1.1) hv
theorem CSh.g4_11 {μ : Mem} (h : CSh μ) {K : Int → Rz} : GF 4 11 (23) μ K = K (24) := by
  rw [GF_of (h.2.2.2.2.2.2.2.1.1)]
  rw [h.2.2.2.2.2.2.2.1.2.1]
theorem CSh.k4 {μ : Mem} (h : CSh μ) {r : Rz} : KD 4 (23) μ r = r := KD_of (h.2.2.2.2.2.2.2.1.1)
theorem CSh.g4_2 {μ : Mem} (h : CSh μ) {z : Int} (hz : μ 23 2 = z) {K : Int → Rz} : GF 4 2 23 μ K = K z := by
  rw [GF_of (h.2.2.2.2.2.2.2.1.1), hz]
theorem CSh.p4_2 {μ : Mem} (h : CSh μ) {v : Int} {K : Mem → Rz} : PF 4 2 23 v μ K = K (mUp μ 23 2 v) := PF_of (by omega) (h.2.2.2.2.2.2.2.1.1)
theorem CSh.g4_4 {μ : Mem} (h : CSh μ) {z : Int} (hz : μ 23 4 = z) {K : Int → Rz} : GF 4 4 23 μ K = K z := by
  rw [GF_of (h.2.2.2.2.2.2.2.1.1), hz]
theorem CSh.p4_4 {μ : Mem} (h : CSh μ) {v : Int} {K : Mem → Rz} : PF 4 4 23 v μ K = K (mUp μ 23 4 v) := PF_of (by omega) (h.2.2.2.2.2.2.2.1.1)
theorem CSh.g5_0 {μ : Mem} (h : CSh μ) {c : Int}  (h0 : 0 ≤ c) (h1 : c < 10) {K : Int → Rz} : GF 5 0 (25 + 8 * c) μ K = K (μ (25 + 8 * c) 0) := by
  rw [GF_of ((h.2.2.2.2.2.2.2.2.1 c h0 h1).1)]
theorem CSh.p5_0 {μ : Mem} (h : CSh μ) {c : Int}  (h0 : 0 ≤ c) (h1 : c < 10) {v : Int} {K : Mem → Rz} : PF 5 0 (25 + 8 * c) v μ K = K (mUp μ (25 + 8 * c) 0 v) := PF_of (by omega) ((h.2.2.2.2.2.2.2.2.1 c h0 h1).1)
theorem CSh.z5_0 {μ : Mem} (h : CSh μ) {c : Int}  (h0 : 0 ≤ c) (h1 : c < 10) {v : Int} {K : Mem → Rz} (hv : v = 0 ∨ v = 1) : PZ 5 0 (25 + 8 * c) v μ K = K (mUp μ (25 + 8 * c) 0 v) := PZ_of (by omega) ((h.2.2.2.2.2.2.2.2.1 c h0 h1).1) hv
theorem CSh.g5_1 {μ : Mem} (h : CSh μ) {c : Int}  (h0 : 0 ≤ c) (h1 : c < 10) {K : Int → Rz} : GF 5 1 (25 + 8 * c) μ K = K (μ (25 + 8 * c) 1) := by
  rw [GF_of ((h.2.2.2.2.2.2.2.2.1 c h0 h1).1)]
theorem CSh.p5_1 {μ : Mem} (h : CSh μ) {c : Int}  (h0 : 0 ≤ c) (h1 : c < 10) {v : Int} {K : Mem → Rz} : PF 5 1 (25 + 8 * c) v μ K = K (mUp μ (25 + 8 * c) 1 v) := PF_of (by omega) ((h.2.2.2.2.2.2.2.2.1 c h0 h1).1)
theorem CSh.z5_1 {μ : Mem} (h : CSh μ) {c : Int}  (h0 : 0 ≤ c) (h1 : c < 10) {v : Int} {K : Mem → Rz} (hv : v = 0 ∨ v = 1) : PZ 5 1 (25 + 8 * c) v μ K = K (mUp μ (25 + 8 * c) 1 v) := PZ_of (by omega) ((h.2.2.2.2.2.2.2.2.1 c h0 h1).1) hv
theorem CSh.g5_2 {μ : Mem} (h : CSh μ) {c : Int}  (h0 : 0 ≤ c) (h1 : c < 10) {K : Int → Rz} : GF 5 2 (25 + 8 * c) μ K = K (μ (25 + 8 * c) 2) := by
  rw [GF_of ((h.2.2.2.2.2.2.2.2.1 c h0 h1).1)]
theorem CSh.p5_2 {μ : Mem} (h : CSh μ) {c : Int}  (h0 : 0 ≤ c) (h1 : c < 10) {v : Int} {K : Mem → Rz} : PF 5 2 (25 + 8 * c) v μ K = K (mUp μ (25 + 8 * c) 2 v) := PF_of (by omega) ((h.2.2.2.2.2.2.2.2.1 c h0 h1).1)
theorem CSh.z5_2 {μ : Mem} (h : CSh μ) {c : Int}  (h0 : 0 ≤ c) (h1 : c < 10) {v : Int} {K : Mem → Rz} (hv : v = 0 ∨ v = 1) : PZ 5 2 (25 + 8 * c) v μ K = K (mUp μ (25 + 8 * c) 2 v) := PZ_of (by omega) ((h.2.2.2.2.2.2.2.2.1 c h0 h1).1) hv
theorem CSh.g5_3 {μ : Mem} (h : CSh μ) {c : Int}  (h0 : 0 ≤ c) (h1 : c < 10) {K : Int → Rz} : GF 5 3 (25 + 8 * c) μ K = K (μ (25 + 8 * c) 3) := by
  rw [GF_of ((h.2.2.2.2.2.2.2.2.1 c h0 h1).1)]
theorem CSh.p5_3 {μ : Mem} (h : CSh μ) {c : Int}  (h0 : 0 ≤ c) (h1 : c < 10) {v : Int} {K : Mem → Rz} : PF 5 3 (25 + 8 * c) v μ K = K (mUp μ (25 + 8 * c) 3 v) := PF_of (by omega) ((h.2.2.2.2.2.2.2.2.1 c h0 h1).1)
theorem CSh.z5_3 {μ : Mem} (h : CSh μ) {c : Int}  (h0 : 0 ≤ c) (h1 : c < 10) {v : Int} {K : Mem → Rz} (hv : v = 0 ∨ v = 1) : PZ 5 3 (25 + 8 * c) v μ K = K (mUp μ (25 + 8 * c) 3 v) := PZ_of (by omega) ((h.2.2.2.2.2.2.2.2.1 c h0 h1).1) hv
theorem CSh.g5_4 {μ : Mem} (h : CSh μ) {c : Int}  (h0 : 0 ≤ c) (h1 : c < 10) {K : Int → Rz} : GF 5 4 (25 + 8 * c) μ K = K (26 + 8 * c) := by
  rw [GF_of ((h.2.2.2.2.2.2.2.2.1 c h0 h1).1)]
  rw [(h.2.2.2.2.2.2.2.2.1 c h0 h1).2.1]
theorem CSh.g5_5 {μ : Mem} (h : CSh μ) {c : Int}  (h0 : 0 ≤ c) (h1 : c < 10) {K : Int → Rz} : GF 5 5 (25 + 8 * c) μ K = K (27 + 8 * c) := by
  rw [GF_of ((h.2.2.2.2.2.2.2.2.1 c h0 h1).1)]
  rw [(h.2.2.2.2.2.2.2.2.1 c h0 h1).2.2.1]
theorem CSh.g5_6 {μ : Mem} (h : CSh μ) {c : Int}  (h0 : 0 ≤ c) (h1 : c < 10) {K : Int → Rz} : GF 5 6 (25 + 8 * c) μ K = K (28 + 8 * c) := by
  rw [GF_of ((h.2.2.2.2.2.2.2.2.1 c h0 h1).1)]
  rw [(h.2.2.2.2.2.2.2.2.1 c h0 h1).2.2.2.1]
theorem CSh.k5 {μ : Mem} (h : CSh μ) {c : Int}  (h0 : 0 ≤ c) (h1 : c < 10) {r : Rz} : KD 5 (25 + 8 * c) μ r = r := KD_of ((h.2.2.2.2.2.2.2.2.1 c h0 h1).1)
theorem CSh.g1_0 {μ : Mem} (h : CSh μ) {c p : Int}  (h0 : 0 ≤ c) (h1 : c < 10) (h2 : 0 ≤ p) (h3 : p < 4) {K : Int → Rz} : GF 1 0 (29 + 8 * c + p) μ K = K (μ (29 + 8 * c + p) 0) := by
  rw [GF_of ((h.2.2.2.2.2.2.2.2.2 c h0 h1 p h2 h3).2)]
theorem CSh.p1_0 {μ : Mem} (h : CSh μ) {c p : Int}  (h0 : 0 ≤ c) (h1 : c < 10) (h2 : 0 ≤ p) (h3 : p < 4) {v : Int} {K : Mem → Rz} : PF 1 0 (29 + 8 * c + p) v μ K = K (mUp μ (29 + 8 * c + p) 0 v) := PF_of (by omega) ((h.2.2.2.2.2.2.2.2.2 c h0 h1 p h2 h3).2)
theorem CSh.z1_0 {μ : Mem} (h : CSh μ) {c p : Int}  (h0 : 0 ≤ c) (h1 : c < 10) (h2 : 0 ≤ p) (h3 : p < 4) {v : Int} {K : Mem → Rz} (hv : v = 0 ∨ v = 1) : PZ 1 0 (29 + 8 * c + p) v μ K = K (mUp μ (29 + 8 * c + p) 0 v) := PZ_of (by omega) ((h.2.2.2.2.2.2.2.2.2 c h0 h1 p h2 h3).2) hv
theorem CSh.g1_1 {μ : Mem} (h : CSh μ) {c p : Int}  (h0 : 0 ≤ c) (h1 : c < 10) (h2 : 0 ≤ p) (h3 : p < 4) {K : Int → Rz} : GF 1 1 (29 + 8 * c + p) μ K = K (μ (29 + 8 * c + p) 1) := by
  rw [GF_of ((h.2.2.2.2.2.2.2.2.2 c h0 h1 p h2 h3).2)]
theorem CSh.p1_1 {μ : Mem} (h : CSh μ) {c p : Int}  (h0 : 0 ≤ c) (h1 : c < 10) (h2 : 0 ≤ p) (h3 : p < 4) {v : Int} {K : Mem → Rz} : PF 1 1 (29 + 8 * c + p) v μ K = K (mUp μ (29 + 8 * c + p) 1 v) := PF_of (by omega) ((h.2.2.2.2.2.2.2.2.2 c h0 h1 p h2 h3).2)
theorem CSh.z1_1 {μ : Mem} (h : CSh μ) {c p : Int}  (h0 : 0 ≤ c) (h1 : c < 10) (h2 : 0 ≤ p) (h3 : p < 4) {v : Int} {K : Mem → Rz} (hv : v = 0 ∨ v = 1) : PZ 1 1 (29 + 8 * c + p) v μ K = K (mUp μ (29 + 8 * c + p) 1 v) := PZ_of (by omega) ((h.2.2.2.2.2.2.2.2.2 c h0 h1 p h2 h3).2) hv
theorem CSh.g1_2 {μ : Mem} (h : CSh μ) {c p : Int}  (h0 : 0 ≤ c) (h1 : c < 10) (h2 : 0 ≤ p) (h3 : p < 4) {K : Int → Rz} : GF 1 2 (29 + 8 * c + p) μ K = K (μ (29 + 8 * c + p) 2) := by
  rw [GF_of ((h.2.2.2.2.2.2.2.2.2 c h0 h1 p h2 h3).2)]
theorem CSh.p1_2 {μ : Mem} (h : CSh μ) {c p : Int}  (h0 : 0 ≤ c) (h1 : c < 10) (h2 : 0 ≤ p) (h3 : p < 4) {v : Int} {K : Mem → Rz} : PF 1 2 (29 + 8 * c + p) v μ K = K (mUp μ (29 + 8 * c + p) 2 v) := PF_of (by omega) ((h.2.2.2.2.2.2.2.2.2 c h0 h1 p h2 h3).2)
theorem CSh.z1_2 {μ : Mem} (h : CSh μ) {c p : Int}  (h0 : 0 ≤ c) (h1 : c < 10) (h2 : 0 ≤ p) (h3 : p < 4) {v : Int} {K : Mem → Rz} (hv : v = 0 ∨ v = 1) : PZ 1 2 (29 + 8 * c + p) v μ K = K (mUp μ (29 + 8 * c + p) 2 v) := PZ_of (by omega) ((h.2.2.2.2.2.2.2.2.2 c h0 h1 p h2 h3).2) hv
theorem CSh.g1_3 {μ : Mem} (h : CSh μ) {c p : Int}  (h0 : 0 ≤ c) (h1 : c < 10) (h2 : 0 ≤ p) (h3 : p < 4) {K : Int → Rz} : GF 1 3 (29 + 8 * c + p) μ K = K (μ (29 + 8 * c + p) 3) := by
  rw [GF_of ((h.2.2.2.2.2.2.2.2.2 c h0 h1 p h2 h3).2)]
theorem CSh.p1_3 {μ : Mem} (h : CSh μ) {c p : Int}  (h0 : 0 ≤ c) (h1 : c < 10) (h2 : 0 ≤ p) (h3 : p < 4) {v : Int} {K : Mem → Rz} : PF 1 3 (29 + 8 * c + p) v μ K = K (mUp μ (29 + 8 * c + p) 3 v) := PF_of (by omega) ((h.2.2.2.2.2.2.2.2.2 c h0 h1 p h2 h3).2)
theorem CSh.z1_3 {μ : Mem} (h : CSh μ) {c p : Int}  (h0 : 0 ≤ c) (h1 : c < 10) (h2 : 0 ≤ p) (h3 : p < 4) {v : Int} {K : Mem → Rz} (hv : v = 0 ∨ v = 1) : PZ 1 3 (29 + 8 * c + p) v μ K = K (mUp μ (29 + 8 * c + p) 3 v) := PZ_of (by omega) ((h.2.2.2.2.2.2.2.2.2 c h0 h1 p h2 h3).2) hv
theorem CSh.g1_4 {μ : Mem} (h : CSh μ) {c p : Int}  (h0 : 0 ≤ c) (h1 : c < 10) (h2 : 0 ≤ p) (h3 : p < 4) {K : Int → Rz} : GF 1 4 (29 + 8 * c + p) μ K = K (μ (29 + 8 * c + p) 4) := by
  rw [GF_of ((h.2.2.2.2.2.2.2.2.2 c h0 h1 p h2 h3).2)]
theorem CSh.p1_4 {μ : Mem} (h : CSh μ) {c p : Int}  (h0 : 0 ≤ c) (h1 : c < 10) (h2 : 0 ≤ p) (h3 : p < 4) {v : Int} {K : Mem → Rz} : PF 1 4 (29 + 8 * c + p) v μ K = K (mUp μ (29 + 8 * c + p) 4 v) := PF_of (by omega) ((h.2.2.2.2.2.2.2.2.2 c h0 h1 p h2 h3).2)
theorem CSh.z1_4 {μ : Mem} (h : CSh μ) {c p : Int}  (h0 : 0 ≤ c) (h1 : c < 10) (h2 : 0 ≤ p) (h3 : p < 4) {v : Int} {K : Mem → Rz} (hv : v = 0 ∨ v = 1) : PZ 1 4 (29 + 8 * c + p) v μ K = K (mUp μ (29 + 8 * c + p) 4 v) := PZ_of (by omega) ((h.2.2.2.2.2.2.2.2.2 c h0 h1 p h2 h3).2) hv
theorem CSh.g1_5 {μ : Mem} (h : CSh μ) {c p : Int}  (h0 : 0 ≤ c) (h1 : c < 10) (h2 : 0 ≤ p) (h3 : p < 4) {K : Int → Rz} : GF 1 5 (29 + 8 * c + p) μ K = K (μ (29 + 8 * c + p) 5) := by
  rw [GF_of ((h.2.2.2.2.2.2.2.2.2 c h0 h1 p h2 h3).2)]
theorem CSh.p1_5 {μ : Mem} (h : CSh μ) {c p : Int}  (h0 : 0 ≤ c) (h1 : c < 10) (h2 : 0 ≤ p) (h3 : p < 4) {v : Int} {K : Mem → Rz} : PF 1 5 (29 + 8 * c + p) v μ K = K (mUp μ (29 + 8 * c + p) 5 v) := PF_of (by omega) ((h.2.2.2.2.2.2.2.2.2 c h0 h1 p h2 h3).2)
theorem CSh.z1_5 {μ : Mem} (h : CSh μ) {c p : Int}  (h0 : 0 ≤ c) (h1 : c < 10) (h2 : 0 ≤ p) (h3 : p < 4) {v : Int} {K : Mem → Rz} (hv : v = 0 ∨ v = 1) : PZ 1 5 (29 + 8 * c + p) v μ K = K (mUp μ (29 + 8 * c + p) 5 v) := PZ_of (by omega) ((h.2.2.2.2.2.2.2.2.2 c h0 h1 p h2 h3).2) hv
theorem CSh.g1_6 {μ : Mem} (h : CSh μ) {c p : Int}  (h0 : 0 ≤ c) (h1 : c < 10) (h2 : 0 ≤ p) (h3 : p < 4) {K : Int → Rz} : GF 1 6 (29 + 8 * c + p) μ K = K (μ (29 + 8 * c + p) 6) := by
  rw [GF_of ((h.2.2.2.2.2.2.2.2.2 c h0 h1 p h2 h3).2)]
theorem CSh.p1_6 {μ : Mem} (h : CSh μ) {c p : Int}  (h0 : 0 ≤ c) (h1 : c < 10) (h2 : 0 ≤ p) (h3 : p < 4) {v : Int} {K : Mem → Rz} : PF 1 6 (29 + 8 * c + p) v μ K = K (mUp μ (29 + 8 * c + p) 6 v) := PF_of (by omega) ((h.2.2.2.2.2.2.2.2.2 c h0 h1 p h2 h3).2)
theorem CSh.z1_6 {μ : Mem} (h : CSh μ) {c p : Int}  (h0 : 0 ≤ c) (h1 : c < 10) (h2 : 0 ≤ p) (h3 : p < 4) {v : Int} {K : Mem → Rz} (hv : v = 0 ∨ v = 1) : PZ 1 6 (29 + 8 * c + p) v μ K = K (mUp μ (29 + 8 * c + p) 6 v) := PZ_of (by omega) ((h.2.2.2.2.2.2.2.2.2 c h0 h1 p h2 h3).2) hv
theorem CSh.g1_7 {μ : Mem} (h : CSh μ) {c p : Int}  (h0 : 0 ≤ c) (h1 : c < 10) (h2 : 0 ≤ p) (h3 : p < 4) {K : Int → Rz} : GF 1 7 (29 + 8 * c + p) μ K = K (μ (29 + 8 * c + p) 7) := by
  rw [GF_of ((h.2.2.2.2.2.2.2.2.2 c h0 h1 p h2 h3).2)]
theorem CSh.p1_7 {μ : Mem} (h : CSh μ) {c p : Int}  (h0 : 0 ≤ c) (h1 : c < 10) (h2 : 0 ≤ p) (h3 : p < 4) {v : Int} {K : Mem → Rz} : PF 1 7 (29 + 8 * c + p) v μ K = K (mUp μ (29 + 8 * c + p) 7 v) := PF_of (by omega) ((h.2.2.2.2.2.2.2.2.2 c h0 h1 p h2 h3).2)
theorem CSh.z1_7 {μ : Mem} (h : CSh μ) {c p : Int}  (h0 : 0 ≤ c) (h1 : c < 10) (h2 : 0 ≤ p) (h3 : p < 4) {v : Int} {K : Mem → Rz} (hv : v = 0 ∨ v = 1) : PZ 1 7 (29 + 8 * c + p) v μ K = K (mUp μ (29 + 8 * c + p) 7 v) := PZ_of (by omega) ((h.2.2.2.2.2.2.2.2.2 c h0 h1 p h2 h3).2) hv
theorem CSh.k1 {μ : Mem} (h : CSh μ) {c p : Int}  (h0 : 0 ≤ c) (h1 : c < 10) (h2 : 0 ≤ p) (h3 : p < 4) {r : Rz} : KD 1 (29 + 8 * c + p) μ r = r := KD_of ((h.2.2.2.2.2.2.2.2.2 c h0 h1 p h2 h3).2)
theorem CSh.l3 {μ : Mem} (h : CSh μ) {i : Int} (hi0 : 0 ≤ i) (hi1 : i < 10) {K : Int → Rz} : AL 4 (3) i μ K = K (25 + 8 * i) := by
  rw [AL_of (n := 10) (h.2.2.1.1) (h.2.2.1.2.1) hi0 hi1]
  rw [h.2.2.1.2.2 i hi0 hi1]
theorem CSh.n3 {μ : Mem} (h : CSh μ) {K : Int → Rz} : LN 4 (3) μ K = K 10 := LN_of (h.2.2.1.1) (h.2.2.1.2.1)
theorem CSh.l26 {μ : Mem} (h : CSh μ) {c : Int}  (h0 : 0 ≤ c) (h1 : c < 10) {i : Int} (hi0 : 0 ≤ i) (hi1 : i < 4) {K : Int → Rz} : AL 5 (26 + 8 * c) i μ K = K (29 + 8 * c + i) := by
  rw [AL_of (n := 4) ((h.2.2.2.2.2.2.2.2.1 c h0 h1).2.2.2.2.1) ((h.2.2.2.2.2.2.2.2.1 c h0 h1).2.2.2.2.2.1) hi0 hi1]
  rw [(h.2.2.2.2.2.2.2.2.2 c h0 h1 i hi0 hi1).1]
theorem CSh.n26 {μ : Mem} (h : CSh μ) {c : Int}  (h0 : 0 ≤ c) (h1 : c < 10) {K : Int → Rz} : LN 5 (26 + 8 * c) μ K = K 4 := LN_of ((h.2.2.2.2.2.2.2.2.1 c h0 h1).2.2.2.2.1) ((h.2.2.2.2.2.2.2.2.1 c h0 h1).2.2.2.2.2.1)
theorem CSh.l5 {μ : Mem} (h : CSh μ) {i : Int} (hi0 : 0 ≤ i) (hi1 : i < 4) {K : Int → Rz} : AL 7 (5) i μ K = K (6 + i) := by
  rw [AL_of (n := 4) (h.2.2.2.2.1.1) (h.2.2.2.2.1.2.1) hi0 hi1]
  rw [(h.2.2.2.2.1.2.2 i hi0 hi1).1]
theorem CSh.n5 {μ : Mem} (h : CSh μ) {K : Int → Rz} : LN 7 (5) μ K = K 4 := LN_of (h.2.2.2.2.1.1) (h.2.2.2.2.1.2.1)
theorem CSh.l12 {μ : Mem} (h : CSh μ) {i : Int} (hi0 : 0 ≤ i) (hi1 : i < 4) {K : Int → Rz} : AL 6 (12) i μ K = K (15 + 2 * i) := by
  rw [AL_of (n := 4) (h.2.2.2.2.2.2.1.1) (h.2.2.2.2.2.2.1.2.1) hi0 hi1]
  rw [(h.2.2.2.2.2.2.1.2.2 i hi0 hi1).1]
theorem CSh.n12 {μ : Mem} (h : CSh μ) {K : Int → Rz} : LN 6 (12) μ K = K 4 := LN_of (h.2.2.2.2.2.2.1.1) (h.2.2.2.2.2.2.1.2.1)
theorem CSh.l6 {μ : Mem} (h : CSh μ) {p : Int}  (h0 : 0 ≤ p) (h1 : p < 4) {i : Int} (hi0 : 0 ≤ i) (hi1 : i < 192) {K : Int → Rz} : AL 1 (6 + p) i μ K = K (μ (6 + p) i) := by
  rw [AL_of (n := 192) ((h.2.2.2.2.1.2.2 p h0 h1).2.1) ((h.2.2.2.2.1.2.2 p h0 h1).2.2) hi0 hi1]
theorem CSh.n6 {μ : Mem} (h : CSh μ) {p : Int}  (h0 : 0 ≤ p) (h1 : p < 4) {K : Int → Rz} : LN 1 (6 + p) μ K = K 192 := LN_of ((h.2.2.2.2.1.2.2 p h0 h1).2.1) ((h.2.2.2.2.1.2.2 p h0 h1).2.2)
theorem CSh.s6 {μ : Mem} (h : CSh μ) {p : Int}  (h0 : 0 ≤ p) (h1 : p < 4) {i v : Int} (hi0 : 0 ≤ i) (hi1 : i < 192) {K : Mem → Rz} : AS 1 (6 + p) i v μ K = K (mUp μ (6 + p) i v) := AS_of (n := 192) (by omega) ((h.2.2.2.2.1.2.2 p h0 h1).2.1) ((h.2.2.2.2.1.2.2 p h0 h1).2.2) hi0 hi1
theorem CSh.l10 {μ : Mem} (h : CSh μ) {i : Int} (hi0 : 0 ≤ i) (hi1 : i < 192) {K : Int → Rz} : AL 1 (10) i μ K = K (μ (10) i) := by
  rw [AL_of (n := 192) (h.2.2.2.2.2.1.1) (h.2.2.2.2.2.1.2.1) hi0 hi1]
theorem CSh.n10 {μ : Mem} (h : CSh μ) {K : Int → Rz} : LN 1 (10) μ K = K 192 := LN_of (h.2.2.2.2.2.1.1) (h.2.2.2.2.2.1.2.1)
theorem CSh.s10 {μ : Mem} (h : CSh μ) {i v : Int} (hi0 : 0 ≤ i) (hi1 : i < 192) {K : Mem → Rz} : AS 1 (10) i v μ K = K (mUp μ (10) i v) := AS_of (n := 192) (by omega) (h.2.2.2.2.2.1.1) (h.2.2.2.2.2.1.2.1) hi0 hi1
theorem CSh.l11 {μ : Mem} (h : CSh μ) {i : Int} (hi0 : 0 ≤ i) (hi1 : i < 4) {K : Int → Rz} : AL 1 (11) i μ K = K (μ (11) i) := by
  rw [AL_of (n := 4) (h.2.2.2.2.2.1.2.2.1) (h.2.2.2.2.2.1.2.2.2.1) hi0 hi1]
theorem CSh.n11 {μ : Mem} (h : CSh μ) {K : Int → Rz} : LN 1 (11) μ K = K 4 := LN_of (h.2.2.2.2.2.1.2.2.1) (h.2.2.2.2.2.1.2.2.2.1)
theorem CSh.s11 {μ : Mem} (h : CSh μ) {i v : Int} (hi0 : 0 ≤ i) (hi1 : i < 4) {K : Mem → Rz} : AS 1 (11) i v μ K = K (mUp μ (11) i v) := AS_of (n := 4) (by omega) (h.2.2.2.2.2.1.2.2.1) (h.2.2.2.2.2.1.2.2.2.1) hi0 hi1
theorem CSh.l13 {μ : Mem} (h : CSh μ) {i : Int} (hi0 : 0 ≤ i) (hi1 : i < 650) {K : Int → Rz} : AL 1 (13) i μ K = K (μ (13) i) := by
  rw [AL_of (n := 650) (h.2.2.2.2.2.1.2.2.2.2.1) (h.2.2.2.2.2.1.2.2.2.2.2.1) hi0 hi1]
theorem CSh.n13 {μ : Mem} (h : CSh μ) {K : Int → Rz} : LN 1 (13) μ K = K 650 := LN_of (h.2.2.2.2.2.1.2.2.2.2.1) (h.2.2.2.2.2.1.2.2.2.2.2.1)
theorem CSh.s13 {μ : Mem} (h : CSh μ) {i v : Int} (hi0 : 0 ≤ i) (hi1 : i < 650) {K : Mem → Rz} : AS 1 (13) i v μ K = K (mUp μ (13) i v) := AS_of (n := 650) (by omega) (h.2.2.2.2.2.1.2.2.2.2.1) (h.2.2.2.2.2.1.2.2.2.2.2.1) hi0 hi1
theorem CSh.l14 {μ : Mem} (h : CSh μ) {i : Int} (hi0 : 0 ≤ i) (hi1 : i < 11) {K : Int → Rz} : AL 1 (14) i μ K = K (μ (14) i) := by
  rw [AL_of (n := 11) (h.2.2.2.2.2.1.2.2.2.2.2.2.1) (h.2.2.2.2.2.1.2.2.2.2.2.2.2) hi0 hi1]
theorem CSh.n14 {μ : Mem} (h : CSh μ) {K : Int → Rz} : LN 1 (14) μ K = K 11 := LN_of (h.2.2.2.2.2.1.2.2.2.2.2.2.1) (h.2.2.2.2.2.1.2.2.2.2.2.2.2)
theorem CSh.s14 {μ : Mem} (h : CSh μ) {i v : Int} (hi0 : 0 ≤ i) (hi1 : i < 11) {K : Mem → Rz} : AS 1 (14) i v μ K = K (mUp μ (14) i v) := AS_of (n := 11) (by omega) (h.2.2.2.2.2.1.2.2.2.2.2.2.1) (h.2.2.2.2.2.1.2.2.2.2.2.2.2) hi0 hi1
theorem CSh.l16 {μ : Mem} (h : CSh μ) {p : Int}  (h0 : 0 ≤ p) (h1 : p < 4) {i : Int} (hi0 : 0 ≤ i) (hi1 : i < 324) {K : Int → Rz} : AL 1 (16 + 2 * p) i μ K = K (μ (16 + 2 * p) i) := by
  rw [AL_of (n := 324) ((h.2.2.2.2.2.2.1.2.2 p h0 h1).2.2.2.1) ((h.2.2.2.2.2.2.1.2.2 p h0 h1).2.2.2.2) hi0 hi1]
theorem CSh.n16 {μ : Mem} (h : CSh μ) {p : Int}  (h0 : 0 ≤ p) (h1 : p < 4) {K : Int → Rz} : LN 1 (16 + 2 * p) μ K = K 324 := LN_of ((h.2.2.2.2.2.2.1.2.2 p h0 h1).2.2.2.1) ((h.2.2.2.2.2.2.1.2.2 p h0 h1).2.2.2.2)
theorem CSh.s16 {μ : Mem} (h : CSh μ) {p : Int}  (h0 : 0 ≤ p) (h1 : p < 4) {i v : Int} (hi0 : 0 ≤ i) (hi1 : i < 324) {K : Mem → Rz} : AS 1 (16 + 2 * p) i v μ K = K (mUp μ (16 + 2 * p) i v) := AS_of (n := 324) (by omega) ((h.2.2.2.2.2.2.1.2.2 p h0 h1).2.2.2.1) ((h.2.2.2.2.2.2.1.2.2 p h0 h1).2.2.2.2) hi0 hi1
theorem CSh.l24 {μ : Mem} (h : CSh μ) {i : Int} (hi0 : 0 ≤ i) (hi1 : i < 600) {K : Int → Rz} : AL 1 (24) i μ K = K (μ (24) i) := by
  rw [AL_of (n := 600) (h.2.2.2.2.2.2.2.1.2.2.1) (h.2.2.2.2.2.2.2.1.2.2.2) hi0 hi1]
theorem CSh.n24 {μ : Mem} (h : CSh μ) {K : Int → Rz} : LN 1 (24) μ K = K 600 := LN_of (h.2.2.2.2.2.2.2.1.2.2.1) (h.2.2.2.2.2.2.2.1.2.2.2)
theorem CSh.s24 {μ : Mem} (h : CSh μ) {i v : Int} (hi0 : 0 ≤ i) (hi1 : i < 600) {K : Mem → Rz} : AS 1 (24) i v μ K = K (mUp μ (24) i v) := AS_of (n := 600) (by omega) (h.2.2.2.2.2.2.2.1.2.2.1) (h.2.2.2.2.2.2.2.1.2.2.2) hi0 hi1
theorem CSh.l27 {μ : Mem} (h : CSh μ) {c : Int}  (h0 : 0 ≤ c) (h1 : c < 10) {i : Int} (hi0 : 0 ≤ i) (hi1 : i < 192) {K : Int → Rz} : AL 1 (27 + 8 * c) i μ K = K (μ (27 + 8 * c) i) := by
  rw [AL_of (n := 192) ((h.2.2.2.2.2.2.2.2.1 c h0 h1).2.2.2.2.2.2.1) ((h.2.2.2.2.2.2.2.2.1 c h0 h1).2.2.2.2.2.2.2.1) hi0 hi1]
theorem CSh.n27 {μ : Mem} (h : CSh μ) {c : Int}  (h0 : 0 ≤ c) (h1 : c < 10) {K : Int → Rz} : LN 1 (27 + 8 * c) μ K = K 192 := LN_of ((h.2.2.2.2.2.2.2.2.1 c h0 h1).2.2.2.2.2.2.1) ((h.2.2.2.2.2.2.2.2.1 c h0 h1).2.2.2.2.2.2.2.1)
theorem CSh.s27 {μ : Mem} (h : CSh μ) {c : Int}  (h0 : 0 ≤ c) (h1 : c < 10) {i v : Int} (hi0 : 0 ≤ i) (hi1 : i < 192) {K : Mem → Rz} : AS 1 (27 + 8 * c) i v μ K = K (mUp μ (27 + 8 * c) i v) := AS_of (n := 192) (by omega) ((h.2.2.2.2.2.2.2.2.1 c h0 h1).2.2.2.2.2.2.1) ((h.2.2.2.2.2.2.2.2.1 c h0 h1).2.2.2.2.2.2.2.1) hi0 hi1
theorem CSh.l28 {μ : Mem} (h : CSh μ) {c : Int}  (h0 : 0 ≤ c) (h1 : c < 10) {i : Int} (hi0 : 0 ≤ i) (hi1 : i < 192) {K : Int → Rz} : AL 1 (28 + 8 * c) i μ K = K (μ (28 + 8 * c) i) := by
  rw [AL_of (n := 192) ((h.2.2.2.2.2.2.2.2.1 c h0 h1).2.2.2.2.2.2.2.2.1) ((h.2.2.2.2.2.2.2.2.1 c h0 h1).2.2.2.2.2.2.2.2.2) hi0 hi1]
theorem CSh.n28 {μ : Mem} (h : CSh μ) {c : Int}  (h0 : 0 ≤ c) (h1 : c < 10) {K : Int → Rz} : LN 1 (28 + 8 * c) μ K = K 192 := LN_of ((h.2.2.2.2.2.2.2.2.1 c h0 h1).2.2.2.2.2.2.2.2.1) ((h.2.2.2.2.2.2.2.2.1 c h0 h1).2.2.2.2.2.2.2.2.2)
theorem CSh.s28 {μ : Mem} (h : CSh μ) {c : Int}  (h0 : 0 ≤ c) (h1 : c < 10) {i v : Int} (hi0 : 0 ≤ i) (hi1 : i < 192) {K : Mem → Rz} : AS 1 (28 + 8 * c) i v μ K = K (mUp μ (28 + 8 * c) i v) := AS_of (n := 192) (by omega) ((h.2.2.2.2.2.2.2.2.1 c h0 h1).2.2.2.2.2.2.2.2.1) ((h.2.2.2.2.2.2.2.2.1 c h0 h1).2.2.2.2.2.2.2.2.2) hi0 hi1
theorem CSh.l2 {μ : Mem} (h : CSh μ) {i : Int} (hi0 : 0 ≤ i) (hi1 : i < 600) {K : Int → Rz} : AL 0 (2) i μ K = K (μ (2) i) := by
  rw [AL_of (n := 600) (h.2.1.1) (h.2.1.2) hi0 hi1]
theorem CSh.n2 {μ : Mem} (h : CSh μ) {K : Int → Rz} : LN 0 (2) μ K = K 600 := LN_of (h.2.1.1) (h.2.1.2)
theorem CSh.s2 {μ : Mem} (h : CSh μ) {i v : Int} (hi0 : 0 ≤ i) (hi1 : i < 600) {K : Mem → Rz} : ASB (2) i v μ K = K (mUp μ (2) i (w8 v)) := ASB_of (n := 600) (by omega) (h.2.1.1) (h.2.1.2) hi0 hi1
