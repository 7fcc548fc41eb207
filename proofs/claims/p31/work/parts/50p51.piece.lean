/-! the component's tests of the next piece -/
abbrev sg (tx : Int → Int) (L s c : Int) : Prop := kd tx L s = 3 ∧ tx s = c
def mt (tx : Int → Int) (w s : Int) : Nat → Int → Bool
  | 0, _ => true
  | d + 1, x => decide (tx (s + x) = strCh w x) && mt tx w s d (x + 1)
abbrev wd (tx : Int → Int) (L w s : Int) : Prop := kd tx L s = 2 ∧ en tx L s - s = strLen w ∧ mt tx w s (strLen w).toNat 0 = true
def nv (tx : Int → Int) (s : Int) : Nat → Int
  | 0 => 0
  | k + 1 => if 100000 < nv tx s k then nv tx s k else 10 * nv tx s k + tx (s + k) - 48
/-- the number that stands at s -/
def num (tx : Int → Int) (L s : Int) : Int := nv tx s (en tx L s - s).toNat
/-- the reader's fault -/
def fl (μ : Mem) (c s : Int) : Mem := mUp (mUp μ 23 0 c) 23 1 s
def RdS (μ ν : Mem) : Prop := ∀ z k, ¬ (z = 23 ∧ (k = 7 ∨ k = 8 ∨ k = 9 ∨ k = 10)) → ν z k = μ z k
theorem wl_all : ∀ i : Nat, i < 13 → (wBytes i).length ≤ 7 ∧ 1 ≤ (wBytes i).length ∧ ∀ k : Nat, k < (wBytes i).length → 97 ≤ (wBytes i).getD k 0 ∧ (wBytes i).getD k 0 ≤ 122 := by decide
theorem strLen_le {w : Int} (h0 : 0 ≤ w) (h1 : w < 13) : 1 ≤ strLen w ∧ strLen w ≤ 7 := by
  have h := wl_all w.toNat (by omega)
  unfold strLen
  omega
theorem strCh_le {w k : Int} (h0 : 0 ≤ w) (h1 : w < 13) (k0 : 0 ≤ k) (k1 : k < strLen w) : 97 ≤ strCh w k ∧ strCh w k ≤ 122 := by
  have h := (wl_all w.toNat (by omega)).2.2 k.toNat (by unfold strLen at k1; omega)
  exact h
theorem STL_of {w : Int} (h0 : 0 ≤ w) (h1 : w < 13) {K : Int → Rz} : STL w K = K (strLen w) := if_pos ⟨h0, h1⟩
theorem STC_of {w k : Int} (h0 : 0 ≤ w) (h1 : w < 13) (k0 : 0 ≤ k) (k1 : k < strLen w) {K : Int → Rz} : STC w k K = K (strCh w k) := if_pos ⟨⟨h0, h1⟩, k0, k1⟩
section PIE
variable {μ : Mem} {L s : Int} {tx : Int → Int}
theorem RdT.toS {ν : Mem} (h : RdT μ ν) : RdS μ ν := fun z k hk => h z k (by omega)
theorem RdS.f {ν : Mem} (h : RdS μ ν) : RdF μ ν := fun z k hk => h z k (by omega)
theorem RdS.tr {ν ξ : Mem} (h1 : RdS μ ν) (h2 : RdS ν ξ) : RdS μ ξ := fun z k h => (h2 z k h).trans (h1 z k h)
theorem kd_2 (h : kd tx L s = 2) : s < L ∧ 97 ≤ tx s ∧ tx s ≤ 122 ∧ en tx L s = run 97 122 tx L s := by
  unfold kd at h
  unfold en
  by_cases e : L ≤ s
  · rw [if_pos e] at h; omega
  · rw [if_neg e] at h ⊢
    by_cases e1 : 97 ≤ tx s ∧ tx s ≤ 122
    · rw [if_pos e1]; exact ⟨by omega, e1.1, e1.2, rfl⟩
    · rw [if_neg e1] at h
      split at h <;> omega
theorem kd_1 (h : kd tx L s = 1) : s < L ∧ 48 ≤ tx s ∧ tx s ≤ 57 ∧ en tx L s = run 48 57 tx L s := by
  unfold kd at h
  unfold en
  by_cases e : L ≤ s
  · rw [if_pos e] at h; omega
  · rw [if_neg e] at h ⊢
    by_cases e1 : 97 ≤ tx s ∧ tx s ≤ 122
    · rw [if_pos e1] at h; omega
    · rw [if_neg e1] at h ⊢
      by_cases e2 : 48 ≤ tx s ∧ tx s ≤ 57
      · rw [if_pos e2]; exact ⟨by omega, e2.1, e2.2, rfl⟩
      · rw [if_neg e2] at h; omega
theorem kd_3 (h : kd tx L s = 3) : s < L ∧ en tx L s = s + 1 ∧ ¬ (97 ≤ tx s ∧ tx s ≤ 122) ∧ ¬ (48 ≤ tx s ∧ tx s ≤ 57) := by
  unfold kd at h
  unfold en
  by_cases e : L ≤ s
  · rw [if_pos e] at h; omega
  · rw [if_neg e] at h ⊢
    by_cases e1 : 97 ≤ tx s ∧ tx s ≤ 122
    · rw [if_pos e1] at h; omega
    · rw [if_neg e1] at h ⊢
      by_cases e2 : 48 ≤ tx s ∧ tx s ≤ 57
      · rw [if_pos e2] at h; omega
      · rw [if_neg e2]; exact ⟨by omega, rfl, e1, e2⟩
theorem kd_0 (h : kd tx L s = 0) : L ≤ s := by
  unfold kd at h
  by_cases e : L ≤ s
  · exact e
  · rw [if_neg e] at h
    by_cases e1 : 97 ≤ tx s ∧ tx s ≤ 122
    · rw [if_pos e1] at h; omega
    · rw [if_neg e1] at h
      split at h <;> omega
theorem kd_le : 0 ≤ kd tx L s ∧ kd tx L s ≤ 3 := by
  unfold kd
  split
  · omega
  · split
    · omega
    · split <;> omega
theorem Rd.next (h : Rd μ tx L s) : ∃ ν, FX4_advance 23 μ = RT 0 ν ∧ Rd ν tx L (nx tx L s) ∧ RdT μ ν := by
  have h1 := en_le h.2.1
  have h2 := h.2.1.1
  exact advance_rt h.1 (by omega) h1.2.1 h.2.2.2.2
theorem fail_rt (h : Rd μ tx L s) (c : Int) : FX4_fail 23 c μ = RT 0 (fl μ c s) := by
  have hS := h.1.1
  have hS2 : CSh (mUp μ 23 0 c) := hS.up (by unfold CSt; omega)
  have h8 : mUp μ 23 0 c 23 8 = s := by rw [mUp_ne _ _ (by omega)]; exact h.2.2.1
  simp (disch := omega) only [FX4_fail, BX4_fail_0, ↓hS.p6_1, ↓hS.z6_1, ↓hS.p6_2, ↓hS.z6_2, ↓hS.p6_4, ↓hS.z6_4, ↓hS.p6_5, ↓hS.z6_5, ↓hS.p6_6, ↓hS.p2_6, ↓hS.z2_6, ↓hS.p2_7, ↓hS.z2_7, ↓hS.p3_0, ↓hS.z3_0, ↓hS.p3_1, ↓hS.z3_1, ↓hS.p3_2, ↓hS.z3_2, ↓hS.p3_3, ↓hS.z3_3, ↓hS.p4_0, ↓hS.z4_0, ↓hS.p4_1, ↓hS.z4_1, ↓hS.p4_3, ↓hS.z4_3, ↓hS.p4_5, ↓hS.z4_5, ↓hS.p4_6, ↓hS.z4_6, ↓hS.p4_7, ↓hS.z4_7, ↓hS.p4_8, ↓hS.z4_8, ↓hS.p4_9, ↓hS.z4_9, ↓hS.p4_10, ↓hS.z4_10, ↓hS.p4_12, ↓hS.z4_12, ↓hS.p4_2, ↓hS.p4_4, ↓hS.p5_0, ↓hS.z5_0, ↓hS.p5_1, ↓hS.z5_1, ↓hS.p5_2, ↓hS.z5_2, ↓hS.p5_3, ↓hS.z5_3, ↓hS.p1_0, ↓hS.z1_0, ↓hS.p1_1, ↓hS.z1_1, ↓hS.p1_2, ↓hS.z1_2, ↓hS.p1_3, ↓hS.z1_3, ↓hS.p1_4, ↓hS.z1_4, ↓hS.p1_5, ↓hS.z1_5, ↓hS.p1_6, ↓hS.z1_6, ↓hS.p1_7, ↓hS.z1_7, ↓hS.s6, ↓hS.s10, ↓hS.s11, ↓hS.s13, ↓hS.s14, ↓hS.s16, ↓hS.s24, ↓hS.s27, ↓hS.s28, ↓hS.s2, ↓hS2.g6_0, ↓hS2.g6_1, ↓hS2.g6_2, ↓hS2.g6_3, ↓hS2.g6_4, ↓hS2.g6_5, ↓hS2.g6_7, ↓hS2.g6_8, ↓hS2.k6, ↓hS2.g2_0, ↓hS2.g2_1, ↓hS2.g2_2, ↓hS2.g2_3, ↓hS2.g2_4, ↓hS2.g2_5, ↓hS2.g2_6, ↓hS2.g2_7, ↓hS2.k2, ↓hS2.g3_0, ↓hS2.g3_1, ↓hS2.g3_2, ↓hS2.g3_3, ↓hS2.g3_4, ↓hS2.k3, ↓hS2.g4_0, ↓hS2.g4_1, ↓hS2.g4_3, ↓hS2.g4_5, ↓hS2.g4_6, ↓hS2.g4_7, ↓hS2.g4_8, ↓hS2.g4_9, ↓hS2.g4_10, ↓hS2.g4_12, ↓hS2.g4_11, ↓hS2.k4, ↓hS2.g5_0, ↓hS2.g5_1, ↓hS2.g5_2, ↓hS2.g5_3, ↓hS2.g5_4, ↓hS2.g5_5, ↓hS2.g5_6, ↓hS2.k5, ↓hS2.g1_0, ↓hS2.g1_1, ↓hS2.g1_2, ↓hS2.g1_3, ↓hS2.g1_4, ↓hS2.g1_5, ↓hS2.g1_6, ↓hS2.g1_7, ↓hS2.k1, ↓hS2.l3, ↓hS2.n3, ↓hS2.l26, ↓hS2.n26, ↓hS2.l5, ↓hS2.n5, ↓hS2.l12, ↓hS2.n12, ↓hS2.l6, ↓hS2.n6, ↓hS2.l10, ↓hS2.n10, ↓hS2.l11, ↓hS2.n11, ↓hS2.l13, ↓hS2.n13, ↓hS2.l14, ↓hS2.n14, ↓hS2.l16, ↓hS2.n16, ↓hS2.l24, ↓hS2.n24, ↓hS2.l27, ↓hS2.n27, ↓hS2.l28, ↓hS2.n28, ↓hS2.l2, ↓hS2.n2, ↓hS2.p6_1, ↓hS2.z6_1, ↓hS2.p6_2, ↓hS2.z6_2, ↓hS2.p6_4, ↓hS2.z6_4, ↓hS2.p6_5, ↓hS2.z6_5, ↓hS2.p6_6, ↓hS2.p2_6, ↓hS2.z2_6, ↓hS2.p2_7, ↓hS2.z2_7, ↓hS2.p3_0, ↓hS2.z3_0, ↓hS2.p3_1, ↓hS2.z3_1, ↓hS2.p3_2, ↓hS2.z3_2, ↓hS2.p3_3, ↓hS2.z3_3, ↓hS2.p4_0, ↓hS2.z4_0, ↓hS2.p4_1, ↓hS2.z4_1, ↓hS2.p4_3, ↓hS2.z4_3, ↓hS2.p4_5, ↓hS2.z4_5, ↓hS2.p4_6, ↓hS2.z4_6, ↓hS2.p4_7, ↓hS2.z4_7, ↓hS2.p4_8, ↓hS2.z4_8, ↓hS2.p4_9, ↓hS2.z4_9, ↓hS2.p4_10, ↓hS2.z4_10, ↓hS2.p4_12, ↓hS2.z4_12, ↓hS2.p4_2, ↓hS2.p4_4, ↓hS2.p5_0, ↓hS2.z5_0, ↓hS2.p5_1, ↓hS2.z5_1, ↓hS2.p5_2, ↓hS2.z5_2, ↓hS2.p5_3, ↓hS2.z5_3, ↓hS2.p1_0, ↓hS2.z1_0, ↓hS2.p1_1, ↓hS2.z1_1, ↓hS2.p1_2, ↓hS2.z1_2, ↓hS2.p1_3, ↓hS2.z1_3, ↓hS2.p1_4, ↓hS2.z1_4, ↓hS2.p1_5, ↓hS2.z1_5, ↓hS2.p1_6, ↓hS2.z1_6, ↓hS2.p1_7, ↓hS2.z1_7, ↓hS2.s6, ↓hS2.s10, ↓hS2.s11, ↓hS2.s13, ↓hS2.s14, ↓hS2.s16, ↓hS2.s24, ↓hS2.s27, ↓hS2.s28, ↓hS2.s2, h8]
  rfl
theorem fail_c (h : Rd μ tx L s) {c : Int} {K : Int → Mem → Rz} {X : Int → Int → Mem → Rz} : CLX (FX4_fail 23 c μ) K X = K 0 (fl μ c s) := by
  rw [fail_rt h]
  rfl
theorem isSign_rt (h : Rd μ tx L s) {c : Int} (c0 : 0 ≤ c) (c1 : c ≤ 127) : FX4_isSign 23 c μ = RT (b2 (sg tx L s c)) μ := by
  obtain ⟨hT, hp, h8, h7, h9⟩ := id h
  obtain ⟨hS, ⟨t2, t3, t4, t5⟩, hb⟩ := id hT
  have hp1 := hp.1
  by_cases e : kd tx L s = 3
  · have e1 := kd_3 e
    obtain ⟨b1, b2'⟩ := hb s hp.1.1 e1.1
    have hw := w8_c b2'
    by_cases e2 : tx s = c
    · have q : w8 (tx s) = c := by omega
      rw [b2_t ⟨e, e2⟩]
      simp (disch := omega) only [FX4_isSign, BX4_isSign_0, BX4_isSign_26, ↓hS.g6_0, ↓hS.g6_1, ↓hS.g6_2, ↓hS.g6_3, ↓hS.g6_4, ↓hS.g6_5, ↓hS.g6_7, ↓hS.g6_8, ↓hS.k6, ↓hS.g2_0, ↓hS.g2_1, ↓hS.g2_2, ↓hS.g2_3, ↓hS.g2_4, ↓hS.g2_5, ↓hS.g2_6, ↓hS.g2_7, ↓hS.k2, ↓hS.g3_0, ↓hS.g3_1, ↓hS.g3_2, ↓hS.g3_3, ↓hS.g3_4, ↓hS.k3, ↓hS.g4_0, ↓hS.g4_1, ↓hS.g4_3, ↓hS.g4_5, ↓hS.g4_6, ↓hS.g4_7, ↓hS.g4_8, ↓hS.g4_9, ↓hS.g4_10, ↓hS.g4_12, ↓hS.g4_11, ↓hS.k4, ↓hS.g5_0, ↓hS.g5_1, ↓hS.g5_2, ↓hS.g5_3, ↓hS.g5_4, ↓hS.g5_5, ↓hS.g5_6, ↓hS.k5, ↓hS.g1_0, ↓hS.g1_1, ↓hS.g1_2, ↓hS.g1_3, ↓hS.g1_4, ↓hS.g1_5, ↓hS.g1_6, ↓hS.g1_7, ↓hS.k1, ↓hS.l3, ↓hS.n3, ↓hS.l26, ↓hS.n26, ↓hS.l5, ↓hS.n5, ↓hS.l12, ↓hS.n12, ↓hS.l6, ↓hS.n6, ↓hS.l10, ↓hS.n10, ↓hS.l11, ↓hS.n11, ↓hS.l13, ↓hS.n13, ↓hS.l14, ↓hS.n14, ↓hS.l16, ↓hS.n16, ↓hS.l24, ↓hS.n24, ↓hS.l27, ↓hS.n27, ↓hS.l28, ↓hS.n28, ↓hS.l2, ↓hS.n2, ↓hS.g4_2 t2, h7, h8, e, b1, q, not_true_eq_false, ↓reduceIte]
      rfl
    · have q : ¬ w8 (tx s) = c := by omega
      rw [b2_f (fun k => e2 k.2)]
      simp (disch := omega) only [FX4_isSign, BX4_isSign_0, BX4_isSign_25, BX4_isSign_26, ↓hS.g6_0, ↓hS.g6_1, ↓hS.g6_2, ↓hS.g6_3, ↓hS.g6_4, ↓hS.g6_5, ↓hS.g6_7, ↓hS.g6_8, ↓hS.k6, ↓hS.g2_0, ↓hS.g2_1, ↓hS.g2_2, ↓hS.g2_3, ↓hS.g2_4, ↓hS.g2_5, ↓hS.g2_6, ↓hS.g2_7, ↓hS.k2, ↓hS.g3_0, ↓hS.g3_1, ↓hS.g3_2, ↓hS.g3_3, ↓hS.g3_4, ↓hS.k3, ↓hS.g4_0, ↓hS.g4_1, ↓hS.g4_3, ↓hS.g4_5, ↓hS.g4_6, ↓hS.g4_7, ↓hS.g4_8, ↓hS.g4_9, ↓hS.g4_10, ↓hS.g4_12, ↓hS.g4_11, ↓hS.k4, ↓hS.g5_0, ↓hS.g5_1, ↓hS.g5_2, ↓hS.g5_3, ↓hS.g5_4, ↓hS.g5_5, ↓hS.g5_6, ↓hS.k5, ↓hS.g1_0, ↓hS.g1_1, ↓hS.g1_2, ↓hS.g1_3, ↓hS.g1_4, ↓hS.g1_5, ↓hS.g1_6, ↓hS.g1_7, ↓hS.k1, ↓hS.l3, ↓hS.n3, ↓hS.l26, ↓hS.n26, ↓hS.l5, ↓hS.n5, ↓hS.l12, ↓hS.n12, ↓hS.l6, ↓hS.n6, ↓hS.l10, ↓hS.n10, ↓hS.l11, ↓hS.n11, ↓hS.l13, ↓hS.n13, ↓hS.l14, ↓hS.n14, ↓hS.l16, ↓hS.n16, ↓hS.l24, ↓hS.n24, ↓hS.l27, ↓hS.n27, ↓hS.l28, ↓hS.n28, ↓hS.l2, ↓hS.n2, ↓hS.g4_2 t2, h7, h8, e, b1, q, not_true_eq_false, not_false_eq_true, ↓reduceIte]
      rfl
  · rw [b2_f (fun k => e k.1)]
    simp (disch := omega) only [FX4_isSign, BX4_isSign_0, BX4_isSign_25, BX4_isSign_26, ↓hS.g6_0, ↓hS.g6_1, ↓hS.g6_2, ↓hS.g6_3, ↓hS.g6_4, ↓hS.g6_5, ↓hS.g6_7, ↓hS.g6_8, ↓hS.k6, ↓hS.g2_0, ↓hS.g2_1, ↓hS.g2_2, ↓hS.g2_3, ↓hS.g2_4, ↓hS.g2_5, ↓hS.g2_6, ↓hS.g2_7, ↓hS.k2, ↓hS.g3_0, ↓hS.g3_1, ↓hS.g3_2, ↓hS.g3_3, ↓hS.g3_4, ↓hS.k3, ↓hS.g4_0, ↓hS.g4_1, ↓hS.g4_3, ↓hS.g4_5, ↓hS.g4_6, ↓hS.g4_7, ↓hS.g4_8, ↓hS.g4_9, ↓hS.g4_10, ↓hS.g4_12, ↓hS.g4_11, ↓hS.k4, ↓hS.g5_0, ↓hS.g5_1, ↓hS.g5_2, ↓hS.g5_3, ↓hS.g5_4, ↓hS.g5_5, ↓hS.g5_6, ↓hS.k5, ↓hS.g1_0, ↓hS.g1_1, ↓hS.g1_2, ↓hS.g1_3, ↓hS.g1_4, ↓hS.g1_5, ↓hS.g1_6, ↓hS.g1_7, ↓hS.k1, ↓hS.l3, ↓hS.n3, ↓hS.l26, ↓hS.n26, ↓hS.l5, ↓hS.n5, ↓hS.l12, ↓hS.n12, ↓hS.l6, ↓hS.n6, ↓hS.l10, ↓hS.n10, ↓hS.l11, ↓hS.n11, ↓hS.l13, ↓hS.n13, ↓hS.l14, ↓hS.n14, ↓hS.l16, ↓hS.n16, ↓hS.l24, ↓hS.n24, ↓hS.l27, ↓hS.n27, ↓hS.l28, ↓hS.n28, ↓hS.l2, ↓hS.n2, h7, e, not_false_eq_true, ↓reduceIte]
    rfl
theorem isSign_rt_c (h : Rd μ tx L s) {c : Int} (c0 : 0 ≤ c) (c1 : c ≤ 127) {K : Int → Mem → Rz} {X : Int → Int → Mem → Rz} : CLX (FX4_isSign 23 c μ) K X = K (b2 (sg tx L s c)) μ := by
  rw [isSign_rt h c0 c1]
  rfl
theorem takeSign_rt (h : Rd μ tx L s) {c : Int} (c0 : 0 ≤ c) (c1 : c ≤ 127) : (sg tx L s c → ∃ ν, FX4_takeSign 23 c μ = RT 1 ν ∧ Rd ν tx L (nx tx L s) ∧ RdT μ ν) ∧ (¬ sg tx L s c → FX4_takeSign 23 c μ = RT 0 (fl μ (-2) s)) := by
  have hS := h.1.1
  refine ⟨fun e => ?_, fun e => ?_⟩
  · obtain ⟨ν, e1, h1, h2⟩ := h.next
    refine ⟨ν, ?_, h1, h2⟩
    unfold FX4_takeSign BX4_takeSign_0
    rw [hS.k4, isSign_rt h c0 c1, b2_t e]
    simp only [CL, ↓CLX_rt]
    rw [if_pos (by decide), hS.k4, e1]
    rfl
  · unfold FX4_takeSign BX4_takeSign_0
    rw [hS.k4, isSign_rt h c0 c1, b2_f e]
    simp only [CL, ↓CLX_rt]
    rw [if_neg (by decide), hS.k4, fail_rt h]
    rfl
theorem isWord_28 (hT : Tb μ tx L) {w : Int} (w0 : 0 ≤ w) (w1 : w < 13) (h8 : μ 23 8 = s) (s0 : 0 ≤ s) (s1 : s + strLen w ≤ L) : ∀ (d : Nat) (x : Int) (n : Nat), strLen w - x = d → d < n → 0 ≤ x → LX4_isWord_28 n 23 w x μ = RT (b2 (mt tx w s d x = true)) μ
  | d, x, 0, _, h, _ => by omega
  | 0, x, n + 1, hd, hn, x0 => by
    rw [b2_t (q := mt tx w s 0 x = true) rfl, LX4_isWord_28, BX4_isWord_28, STL_of w0 w1, if_pos (by omega)]
    rfl
  | d + 1, x, n + 1, hd, hn, x0 => by
    have ih := isWord_28 hT w0 w1 h8 s0 s1 d (x + 1) n (by omega) (by omega) (by omega)
    obtain ⟨hS, ⟨t2, t3, t4, t5⟩, hb⟩ := id hT
    have hl := strLen_le w0 w1
    obtain ⟨b1, b2'⟩ := hb (s + x) (by omega) (by omega)
    have hw := w8_c b2'
    have hc := strCh_le w0 w1 x0 (show x < strLen w by omega)
    have r1 : ¬ strLen w ≤ x := by omega
    have r2 : x < strLen w := by omega
    by_cases e : tx (s + x) = strCh w x
    · have q : w8 (tx (s + x)) = strCh w x := by omega
      have e3 : b2 (mt tx w s (d + 1) x = true) = b2 (mt tx w s d (x + 1) = true) := b2_c (by rw [mt]; simp [e])
      rw [e3]
      simp (disch := omega) only [LX4_isWord_28, BX4_isWord_28, ↓STL_of w0 w1, ↓STC_of w0 w1, ↓hS.g6_0, ↓hS.g6_1, ↓hS.g6_2, ↓hS.g6_3, ↓hS.g6_4, ↓hS.g6_5, ↓hS.g6_7, ↓hS.g6_8, ↓hS.k6, ↓hS.g2_0, ↓hS.g2_1, ↓hS.g2_2, ↓hS.g2_3, ↓hS.g2_4, ↓hS.g2_5, ↓hS.g2_6, ↓hS.g2_7, ↓hS.k2, ↓hS.g3_0, ↓hS.g3_1, ↓hS.g3_2, ↓hS.g3_3, ↓hS.g3_4, ↓hS.k3, ↓hS.g4_0, ↓hS.g4_1, ↓hS.g4_3, ↓hS.g4_5, ↓hS.g4_6, ↓hS.g4_7, ↓hS.g4_8, ↓hS.g4_9, ↓hS.g4_10, ↓hS.g4_12, ↓hS.g4_11, ↓hS.k4, ↓hS.g5_0, ↓hS.g5_1, ↓hS.g5_2, ↓hS.g5_3, ↓hS.g5_4, ↓hS.g5_5, ↓hS.g5_6, ↓hS.k5, ↓hS.g1_0, ↓hS.g1_1, ↓hS.g1_2, ↓hS.g1_3, ↓hS.g1_4, ↓hS.g1_5, ↓hS.g1_6, ↓hS.g1_7, ↓hS.k1, ↓hS.l3, ↓hS.n3, ↓hS.l26, ↓hS.n26, ↓hS.l5, ↓hS.n5, ↓hS.l12, ↓hS.n12, ↓hS.l6, ↓hS.n6, ↓hS.l10, ↓hS.n10, ↓hS.l11, ↓hS.n11, ↓hS.l13, ↓hS.n13, ↓hS.l14, ↓hS.n14, ↓hS.l16, ↓hS.n16, ↓hS.l24, ↓hS.n24, ↓hS.l27, ↓hS.n27, ↓hS.l28, ↓hS.n28, ↓hS.l2, ↓hS.n2, ↓hS.g4_2 t2, h8, b1, q, r1, ↓reduceIte, w32_eq, ih]
    · have q : ¬ w8 (tx (s + x)) = strCh w x := by omega
      rw [b2_f (by rw [mt]; simp [e])]
      simp (disch := omega) only [LX4_isWord_28, BX4_isWord_28, ↓STL_of w0 w1, ↓STC_of w0 w1, ↓hS.g6_0, ↓hS.g6_1, ↓hS.g6_2, ↓hS.g6_3, ↓hS.g6_4, ↓hS.g6_5, ↓hS.g6_7, ↓hS.g6_8, ↓hS.k6, ↓hS.g2_0, ↓hS.g2_1, ↓hS.g2_2, ↓hS.g2_3, ↓hS.g2_4, ↓hS.g2_5, ↓hS.g2_6, ↓hS.g2_7, ↓hS.k2, ↓hS.g3_0, ↓hS.g3_1, ↓hS.g3_2, ↓hS.g3_3, ↓hS.g3_4, ↓hS.k3, ↓hS.g4_0, ↓hS.g4_1, ↓hS.g4_3, ↓hS.g4_5, ↓hS.g4_6, ↓hS.g4_7, ↓hS.g4_8, ↓hS.g4_9, ↓hS.g4_10, ↓hS.g4_12, ↓hS.g4_11, ↓hS.k4, ↓hS.g5_0, ↓hS.g5_1, ↓hS.g5_2, ↓hS.g5_3, ↓hS.g5_4, ↓hS.g5_5, ↓hS.g5_6, ↓hS.k5, ↓hS.g1_0, ↓hS.g1_1, ↓hS.g1_2, ↓hS.g1_3, ↓hS.g1_4, ↓hS.g1_5, ↓hS.g1_6, ↓hS.g1_7, ↓hS.k1, ↓hS.l3, ↓hS.n3, ↓hS.l26, ↓hS.n26, ↓hS.l5, ↓hS.n5, ↓hS.l12, ↓hS.n12, ↓hS.l6, ↓hS.n6, ↓hS.l10, ↓hS.n10, ↓hS.l11, ↓hS.n11, ↓hS.l13, ↓hS.n13, ↓hS.l14, ↓hS.n14, ↓hS.l16, ↓hS.n16, ↓hS.l24, ↓hS.n24, ↓hS.l27, ↓hS.n27, ↓hS.l28, ↓hS.n28, ↓hS.l2, ↓hS.n2, ↓hS.g4_2 t2, h8, b1, q, r1, ↓reduceIte, w32_eq]
      rfl
theorem isWord_rt (h : Rd μ tx L s) {w : Int} (w0 : 0 ≤ w) (w1 : w < 13) : FX4_isWord 23 w μ = RT (b2 (wd tx L w s)) μ := by
  obtain ⟨hT, hp, h8, h7, h9⟩ := id h
  obtain ⟨hS, ⟨t2, t3, t4, t5⟩, hb⟩ := id hT
  have hp1 := hp.1
  have he := en_le hp
  have hl := strLen_le w0 w1
  have ew : w32 (en tx L s - s) = en tx L s - s := w32_eq (by omega) (by omega)
  by_cases e : kd tx L s = 2
  · by_cases e2 : en tx L s - s = strLen w
    · have hi := isWord_28 hT w0 w1 h8 hp1.1 (by omega) (strLen w).toNat 0 FU (by omega) (by have : FU = 20000 := rfl; omega) (Int.le_refl _)
      have hq : b2 (wd tx L w s) = b2 (mt tx w s (strLen w).toNat 0 = true) := b2_c ⟨fun k => k.2.2, fun k => ⟨e, e2, k⟩⟩
      rw [hq, ← hi]
      simp (disch := omega) only [FX4_isWord, BX4_isWord_0, ↓hS.g6_0, ↓hS.g6_1, ↓hS.g6_2, ↓hS.g6_3, ↓hS.g6_4, ↓hS.g6_5, ↓hS.g6_7, ↓hS.g6_8, ↓hS.k6, ↓hS.g2_0, ↓hS.g2_1, ↓hS.g2_2, ↓hS.g2_3, ↓hS.g2_4, ↓hS.g2_5, ↓hS.g2_6, ↓hS.g2_7, ↓hS.k2, ↓hS.g3_0, ↓hS.g3_1, ↓hS.g3_2, ↓hS.g3_3, ↓hS.g3_4, ↓hS.k3, ↓hS.g4_0, ↓hS.g4_1, ↓hS.g4_3, ↓hS.g4_5, ↓hS.g4_6, ↓hS.g4_7, ↓hS.g4_8, ↓hS.g4_9, ↓hS.g4_10, ↓hS.g4_12, ↓hS.g4_11, ↓hS.k4, ↓hS.g5_0, ↓hS.g5_1, ↓hS.g5_2, ↓hS.g5_3, ↓hS.g5_4, ↓hS.g5_5, ↓hS.g5_6, ↓hS.k5, ↓hS.g1_0, ↓hS.g1_1, ↓hS.g1_2, ↓hS.g1_3, ↓hS.g1_4, ↓hS.g1_5, ↓hS.g1_6, ↓hS.g1_7, ↓hS.k1, ↓hS.l3, ↓hS.n3, ↓hS.l26, ↓hS.n26, ↓hS.l5, ↓hS.n5, ↓hS.l12, ↓hS.n12, ↓hS.l6, ↓hS.n6, ↓hS.l10, ↓hS.n10, ↓hS.l11, ↓hS.n11, ↓hS.l13, ↓hS.n13, ↓hS.l14, ↓hS.n14, ↓hS.l16, ↓hS.n16, ↓hS.l24, ↓hS.n24, ↓hS.l27, ↓hS.n27, ↓hS.l28, ↓hS.n28, ↓hS.l2, ↓hS.n2, h7, h8, h9, e, not_true_eq_false, ↓reduceIte, ↓STL_of w0 w1, e2, w32_eq]
    · rw [b2_f (fun k => e2 k.2.1)]
      simp (disch := omega) only [FX4_isWord, BX4_isWord_0, BX4_isWord_24, ↓hS.g6_0, ↓hS.g6_1, ↓hS.g6_2, ↓hS.g6_3, ↓hS.g6_4, ↓hS.g6_5, ↓hS.g6_7, ↓hS.g6_8, ↓hS.k6, ↓hS.g2_0, ↓hS.g2_1, ↓hS.g2_2, ↓hS.g2_3, ↓hS.g2_4, ↓hS.g2_5, ↓hS.g2_6, ↓hS.g2_7, ↓hS.k2, ↓hS.g3_0, ↓hS.g3_1, ↓hS.g3_2, ↓hS.g3_3, ↓hS.g3_4, ↓hS.k3, ↓hS.g4_0, ↓hS.g4_1, ↓hS.g4_3, ↓hS.g4_5, ↓hS.g4_6, ↓hS.g4_7, ↓hS.g4_8, ↓hS.g4_9, ↓hS.g4_10, ↓hS.g4_12, ↓hS.g4_11, ↓hS.k4, ↓hS.g5_0, ↓hS.g5_1, ↓hS.g5_2, ↓hS.g5_3, ↓hS.g5_4, ↓hS.g5_5, ↓hS.g5_6, ↓hS.k5, ↓hS.g1_0, ↓hS.g1_1, ↓hS.g1_2, ↓hS.g1_3, ↓hS.g1_4, ↓hS.g1_5, ↓hS.g1_6, ↓hS.g1_7, ↓hS.k1, ↓hS.l3, ↓hS.n3, ↓hS.l26, ↓hS.n26, ↓hS.l5, ↓hS.n5, ↓hS.l12, ↓hS.n12, ↓hS.l6, ↓hS.n6, ↓hS.l10, ↓hS.n10, ↓hS.l11, ↓hS.n11, ↓hS.l13, ↓hS.n13, ↓hS.l14, ↓hS.n14, ↓hS.l16, ↓hS.n16, ↓hS.l24, ↓hS.n24, ↓hS.l27, ↓hS.n27, ↓hS.l28, ↓hS.n28, ↓hS.l2, ↓hS.n2, h7, h8, h9, e, not_true_eq_false, ↓reduceIte, ↓STL_of w0 w1, ew, e2]
      rfl
  · rw [b2_f (fun k => e k.1)]
    simp (disch := omega) only [FX4_isWord, BX4_isWord_0, BX4_isWord_24, ↓hS.g6_0, ↓hS.g6_1, ↓hS.g6_2, ↓hS.g6_3, ↓hS.g6_4, ↓hS.g6_5, ↓hS.g6_7, ↓hS.g6_8, ↓hS.k6, ↓hS.g2_0, ↓hS.g2_1, ↓hS.g2_2, ↓hS.g2_3, ↓hS.g2_4, ↓hS.g2_5, ↓hS.g2_6, ↓hS.g2_7, ↓hS.k2, ↓hS.g3_0, ↓hS.g3_1, ↓hS.g3_2, ↓hS.g3_3, ↓hS.g3_4, ↓hS.k3, ↓hS.g4_0, ↓hS.g4_1, ↓hS.g4_3, ↓hS.g4_5, ↓hS.g4_6, ↓hS.g4_7, ↓hS.g4_8, ↓hS.g4_9, ↓hS.g4_10, ↓hS.g4_12, ↓hS.g4_11, ↓hS.k4, ↓hS.g5_0, ↓hS.g5_1, ↓hS.g5_2, ↓hS.g5_3, ↓hS.g5_4, ↓hS.g5_5, ↓hS.g5_6, ↓hS.k5, ↓hS.g1_0, ↓hS.g1_1, ↓hS.g1_2, ↓hS.g1_3, ↓hS.g1_4, ↓hS.g1_5, ↓hS.g1_6, ↓hS.g1_7, ↓hS.k1, ↓hS.l3, ↓hS.n3, ↓hS.l26, ↓hS.n26, ↓hS.l5, ↓hS.n5, ↓hS.l12, ↓hS.n12, ↓hS.l6, ↓hS.n6, ↓hS.l10, ↓hS.n10, ↓hS.l11, ↓hS.n11, ↓hS.l13, ↓hS.n13, ↓hS.l14, ↓hS.n14, ↓hS.l16, ↓hS.n16, ↓hS.l24, ↓hS.n24, ↓hS.l27, ↓hS.n27, ↓hS.l28, ↓hS.n28, ↓hS.l2, ↓hS.n2, h7, e, not_false_eq_true, ↓reduceIte]
    rfl
theorem isWord_rt_c (h : Rd μ tx L s) {w : Int} (w0 : 0 ≤ w) (w1 : w < 13) {K : Int → Mem → Rz} {X : Int → Int → Mem → Rz} : CLX (FX4_isWord 23 w μ) K X = K (b2 (wd tx L w s)) μ := by
  rw [isWord_rt h w0 w1]
  rfl
theorem nv_le (h : kd tx L s = 1) (hp : Pc tx L s) : ∀ k : Nat, s + k ≤ en tx L s → 0 ≤ nv tx s k ∧ nv tx s k ≤ 1000009
  | 0, _ => by rw [nv]; omega
  | k + 1, e => by
    have ih := nv_le h hp k (by omega)
    have h1 := kd_1 h
    have hin := run_in (lo := 48) (hi := 57) (tx := tx) (L := L) (a := s) (k := s + k) (by omega) (by omega)
    rw [nv]
    split <;> omega
theorem takeNumber_rt (h : Rd μ tx L s) {lo hi : Int} (l0 : 0 ≤ lo) (h1 : hi ≤ 99999) : (kd tx L s = 1 → lo ≤ num tx L s ∧ num tx L s ≤ hi → ∃ ν, FX4_takeNumber 23 lo hi μ = RT 1 ν ∧ Rd ν tx L (nx tx L s) ∧ RdS μ ν ∧ ν 23 10 = num tx L s) ∧ (kd tx L s = 1 → ¬ (lo ≤ num tx L s ∧ num tx L s ≤ hi) → FX4_takeNumber 23 lo hi μ = RT 0 (fl μ (-3) s)) ∧ (¬ kd tx L s = 1 → FX4_takeNumber 23 lo hi μ = RT 0 (fl μ (-2) s)) := by
  obtain ⟨hT, hp, h8, h7, h9⟩ := id h
  obtain ⟨hS, ⟨t2, t3, t4, t5⟩, hb⟩ := id hT
  have hp1 := hp.1
  have he := en_le hp
  have key : kd tx L s = 1 → ∃ C, (C = num tx L s ∨ (100000 < C ∧ 100000 < num tx L s)) ∧ FX4_takeNumber 23 lo hi μ = if C < lo then BX4_takeNumber_69 23 μ else if C ≤ hi then (PF 4 10 23 C μ fun u102 => KD 4 23 u102 (CL (FX4_advance 23 u102) fun _ u104 => RTZ 1 u104)) else BX4_takeNumber_69 23 μ := by
    intro e
    have e1 := kd_1 e
    have estart : FX4_takeNumber 23 lo hi μ = LX4_takeNumber_23 FU 23 lo hi 0 s μ := by
      simp (disch := omega) only [FX4_takeNumber, BX4_takeNumber_0, ↓hS.g6_0, ↓hS.g6_1, ↓hS.g6_2, ↓hS.g6_3, ↓hS.g6_4, ↓hS.g6_5, ↓hS.g6_7, ↓hS.g6_8, ↓hS.k6, ↓hS.g2_0, ↓hS.g2_1, ↓hS.g2_2, ↓hS.g2_3, ↓hS.g2_4, ↓hS.g2_5, ↓hS.g2_6, ↓hS.g2_7, ↓hS.k2, ↓hS.g3_0, ↓hS.g3_1, ↓hS.g3_2, ↓hS.g3_3, ↓hS.g3_4, ↓hS.k3, ↓hS.g4_0, ↓hS.g4_1, ↓hS.g4_3, ↓hS.g4_5, ↓hS.g4_6, ↓hS.g4_7, ↓hS.g4_8, ↓hS.g4_9, ↓hS.g4_10, ↓hS.g4_12, ↓hS.g4_11, ↓hS.k4, ↓hS.g5_0, ↓hS.g5_1, ↓hS.g5_2, ↓hS.g5_3, ↓hS.g5_4, ↓hS.g5_5, ↓hS.g5_6, ↓hS.k5, ↓hS.g1_0, ↓hS.g1_1, ↓hS.g1_2, ↓hS.g1_3, ↓hS.g1_4, ↓hS.g1_5, ↓hS.g1_6, ↓hS.g1_7, ↓hS.k1, ↓hS.l3, ↓hS.n3, ↓hS.l26, ↓hS.n26, ↓hS.l5, ↓hS.n5, ↓hS.l12, ↓hS.n12, ↓hS.l6, ↓hS.n6, ↓hS.l10, ↓hS.n10, ↓hS.l11, ↓hS.n11, ↓hS.l13, ↓hS.n13, ↓hS.l14, ↓hS.n14, ↓hS.l16, ↓hS.n16, ↓hS.l24, ↓hS.n24, ↓hS.l27, ↓hS.n27, ↓hS.l28, ↓hS.n28, ↓hS.l2, ↓hS.n2, h7, h8, e, ↓reduceIte]
    rw [estart]
    refine lpR (fun n x C => LX4_takeNumber_23 n 23 lo hi C x μ) (fun x C => s ≤ x ∧ (0 ≤ C ∧ C ≤ 1000000) ∧ ((C = nv tx s (x - s).toNat ∧ C ≤ 100000) ∨ (100000 < C ∧ 100000 < nv tx s (x - s).toNat))) (en tx L s) (fun R => ∃ C, (C = num tx L s ∨ (100000 < C ∧ 100000 < num tx L s)) ∧ R = if C < lo then BX4_takeNumber_69 23 μ else if C ≤ hi then (PF 4 10 23 C μ fun u102 => KD 4 23 u102 (CL (FX4_advance 23 u102) fun _ u104 => RTZ 1 u104)) else BX4_takeNumber_69 23 μ) (fun n x C x1 hs => ?_) (fun n C hs => ?_) FU s 0 he.1 (by rw [show ((FU : Nat) : Int) = 20000 from rfl]; omega) ⟨Int.le_refl _, by omega, Or.inl (by rw [show (s - s).toNat = 0 by omega]; exact ⟨rfl, by omega⟩)⟩
    · obtain ⟨g0, gC, gv⟩ := hs
      obtain ⟨b1, b2'⟩ := hb x (by omega) (by omega)
      have hw := w8_c b2'
      have hin := run_in (lo := 48) (hi := 57) (tx := tx) (L := L) (a := s) (k := x) g0 (by omega)
      have q : w8 (tx x) = tx x := by omega
      have r1 : ¬ en tx L s ≤ x := by omega
      have e3 : (x + 1 - s).toNat = (x - s).toNat + 1 := by omega
      have e4 : s + (((x - s).toNat : Nat) : Int) = x := by omega
      have ew : w32 (w32 (w32 (C * 10) + tx x) - 48) = C * 10 + tx x - 48 := by rw [w32_eq (z := C * 10) (by omega) (by omega), w32_eq (z := C * 10 + tx x) (by omega) (by omega), w32_eq (by omega) (by omega)]
      refine ⟨mn (C * 10 + tx x - 48) 1000000, ⟨by omega, ?_, ?_⟩, ?_⟩
      · unfold mn
        split <;> omega
      · rw [e3, nv, e4]
        unfold mn
        rcases gv with ⟨g1, g2⟩ | ⟨g1, g2⟩
        · rw [← g1, if_neg (show ¬ 100000 < C by omega)]
          split <;> omega
        · rw [if_pos g2]
          split <;> omega
      · simp (disch := omega) only [LX4_takeNumber_23, BX4_takeNumber_23, ↓hS.g6_0, ↓hS.g6_1, ↓hS.g6_2, ↓hS.g6_3, ↓hS.g6_4, ↓hS.g6_5, ↓hS.g6_7, ↓hS.g6_8, ↓hS.k6, ↓hS.g2_0, ↓hS.g2_1, ↓hS.g2_2, ↓hS.g2_3, ↓hS.g2_4, ↓hS.g2_5, ↓hS.g2_6, ↓hS.g2_7, ↓hS.k2, ↓hS.g3_0, ↓hS.g3_1, ↓hS.g3_2, ↓hS.g3_3, ↓hS.g3_4, ↓hS.k3, ↓hS.g4_0, ↓hS.g4_1, ↓hS.g4_3, ↓hS.g4_5, ↓hS.g4_6, ↓hS.g4_7, ↓hS.g4_8, ↓hS.g4_9, ↓hS.g4_10, ↓hS.g4_12, ↓hS.g4_11, ↓hS.k4, ↓hS.g5_0, ↓hS.g5_1, ↓hS.g5_2, ↓hS.g5_3, ↓hS.g5_4, ↓hS.g5_5, ↓hS.g5_6, ↓hS.k5, ↓hS.g1_0, ↓hS.g1_1, ↓hS.g1_2, ↓hS.g1_3, ↓hS.g1_4, ↓hS.g1_5, ↓hS.g1_6, ↓hS.g1_7, ↓hS.k1, ↓hS.l3, ↓hS.n3, ↓hS.l26, ↓hS.n26, ↓hS.l5, ↓hS.n5, ↓hS.l12, ↓hS.n12, ↓hS.l6, ↓hS.n6, ↓hS.l10, ↓hS.n10, ↓hS.l11, ↓hS.n11, ↓hS.l13, ↓hS.n13, ↓hS.l14, ↓hS.n14, ↓hS.l16, ↓hS.n16, ↓hS.l24, ↓hS.n24, ↓hS.l27, ↓hS.n27, ↓hS.l28, ↓hS.n28, ↓hS.l2, ↓hS.n2, ↓hS.g4_2 t2, h9, b1, q, r1, ↓reduceIte, ew, ↓CL, ↓min_rt_c, w32_eq (z := x + 1)]
    · obtain ⟨g0, gC, gv⟩ := hs
      refine ⟨C, ?_, ?_⟩
      · unfold num
        omega
      · simp (disch := omega) only [LX4_takeNumber_23, BX4_takeNumber_23, ↓hS.g6_0, ↓hS.g6_1, ↓hS.g6_2, ↓hS.g6_3, ↓hS.g6_4, ↓hS.g6_5, ↓hS.g6_7, ↓hS.g6_8, ↓hS.k6, ↓hS.g2_0, ↓hS.g2_1, ↓hS.g2_2, ↓hS.g2_3, ↓hS.g2_4, ↓hS.g2_5, ↓hS.g2_6, ↓hS.g2_7, ↓hS.k2, ↓hS.g3_0, ↓hS.g3_1, ↓hS.g3_2, ↓hS.g3_3, ↓hS.g3_4, ↓hS.k3, ↓hS.g4_0, ↓hS.g4_1, ↓hS.g4_3, ↓hS.g4_5, ↓hS.g4_6, ↓hS.g4_7, ↓hS.g4_8, ↓hS.g4_9, ↓hS.g4_10, ↓hS.g4_12, ↓hS.g4_11, ↓hS.k4, ↓hS.g5_0, ↓hS.g5_1, ↓hS.g5_2, ↓hS.g5_3, ↓hS.g5_4, ↓hS.g5_5, ↓hS.g5_6, ↓hS.k5, ↓hS.g1_0, ↓hS.g1_1, ↓hS.g1_2, ↓hS.g1_3, ↓hS.g1_4, ↓hS.g1_5, ↓hS.g1_6, ↓hS.g1_7, ↓hS.k1, ↓hS.l3, ↓hS.n3, ↓hS.l26, ↓hS.n26, ↓hS.l5, ↓hS.n5, ↓hS.l12, ↓hS.n12, ↓hS.l6, ↓hS.n6, ↓hS.l10, ↓hS.n10, ↓hS.l11, ↓hS.n11, ↓hS.l13, ↓hS.n13, ↓hS.l14, ↓hS.n14, ↓hS.l16, ↓hS.n16, ↓hS.l24, ↓hS.n24, ↓hS.l27, ↓hS.n27, ↓hS.l28, ↓hS.n28, ↓hS.l2, ↓hS.n2, h9, Int.le_refl, ↓reduceIte]
  have e69 : BX4_takeNumber_69 23 μ = RT 0 (fl μ (-3) s) := by
    unfold BX4_takeNumber_69
    rw [hS.k4, fail_rt h]
    rfl
  refine ⟨fun e e2 => ?_, fun e e2 => ?_, fun e => ?_⟩
  · obtain ⟨C, c1, c2⟩ := key e
    have c3 : C = num tx L s := by omega
    have hF : RdS μ (mUp μ 23 10 (num tx L s)) := fun z k hz => mUp_ne _ _ (by omega)
    have hT2 := hT.rf hF.f
    obtain ⟨ν, a1, a2, a3⟩ := advance_rt hT2 (a := en tx L s) (by omega) he.2.1 (by rw [mUp_ne _ _ (by omega)]; exact h9)
    refine ⟨ν, ?_, a2, hF.tr a3.toS, by rw [a3 _ _ (by omega), mUp_same]⟩
    rw [c2, c3, if_neg (by omega), if_pos e2.2, hS.p4_10, hT2.1.k4, a1]
    rfl
  · obtain ⟨C, c1, c2⟩ := key e
    rw [c2]
    by_cases q : C < lo
    · rw [if_pos q, e69]
    · rw [if_neg q, if_neg (by omega), e69]
  · simp (disch := omega) only [FX4_takeNumber, BX4_takeNumber_0, ↓hS.g6_0, ↓hS.g6_1, ↓hS.g6_2, ↓hS.g6_3, ↓hS.g6_4, ↓hS.g6_5, ↓hS.g6_7, ↓hS.g6_8, ↓hS.k6, ↓hS.g2_0, ↓hS.g2_1, ↓hS.g2_2, ↓hS.g2_3, ↓hS.g2_4, ↓hS.g2_5, ↓hS.g2_6, ↓hS.g2_7, ↓hS.k2, ↓hS.g3_0, ↓hS.g3_1, ↓hS.g3_2, ↓hS.g3_3, ↓hS.g3_4, ↓hS.k3, ↓hS.g4_0, ↓hS.g4_1, ↓hS.g4_3, ↓hS.g4_5, ↓hS.g4_6, ↓hS.g4_7, ↓hS.g4_8, ↓hS.g4_9, ↓hS.g4_10, ↓hS.g4_12, ↓hS.g4_11, ↓hS.k4, ↓hS.g5_0, ↓hS.g5_1, ↓hS.g5_2, ↓hS.g5_3, ↓hS.g5_4, ↓hS.g5_5, ↓hS.g5_6, ↓hS.k5, ↓hS.g1_0, ↓hS.g1_1, ↓hS.g1_2, ↓hS.g1_3, ↓hS.g1_4, ↓hS.g1_5, ↓hS.g1_6, ↓hS.g1_7, ↓hS.k1, ↓hS.l3, ↓hS.n3, ↓hS.l26, ↓hS.n26, ↓hS.l5, ↓hS.n5, ↓hS.l12, ↓hS.n12, ↓hS.l6, ↓hS.n6, ↓hS.l10, ↓hS.n10, ↓hS.l11, ↓hS.n11, ↓hS.l13, ↓hS.n13, ↓hS.l14, ↓hS.n14, ↓hS.l16, ↓hS.n16, ↓hS.l24, ↓hS.n24, ↓hS.l27, ↓hS.n27, ↓hS.l28, ↓hS.n28, ↓hS.l2, ↓hS.n2, h7, e, ↓reduceIte, hS.k4, fail_rt h, CL, CLX_rt]
    rfl
theorem isName_rt (h : Rd μ tx L s) : (kd tx L s = 2 → en tx L s - s ≤ 6 → FX4_isName 23 μ = RT 1 μ) ∧ (kd tx L s = 2 → ¬ en tx L s - s ≤ 6 → FX4_isName 23 μ = RT 0 (fl μ (-3) s)) ∧ (¬ kd tx L s = 2 → FX4_isName 23 μ = RT 0 (fl μ (-2) s)) := by
  obtain ⟨hT, hp, h8, h7, h9⟩ := id h
  obtain ⟨hS, ⟨t2, t3, t4, t5⟩, hb⟩ := id hT
  have hp1 := hp.1
  have he := en_le hp
  refine ⟨fun e e2 => ?_, fun e e2 => ?_, fun e => ?_⟩
  · simp (disch := omega) only [FX4_isName, BX4_isName_0, BX4_isName_38, BX4_isName_43, ↓hS.g6_0, ↓hS.g6_1, ↓hS.g6_2, ↓hS.g6_3, ↓hS.g6_4, ↓hS.g6_5, ↓hS.g6_7, ↓hS.g6_8, ↓hS.k6, ↓hS.g2_0, ↓hS.g2_1, ↓hS.g2_2, ↓hS.g2_3, ↓hS.g2_4, ↓hS.g2_5, ↓hS.g2_6, ↓hS.g2_7, ↓hS.k2, ↓hS.g3_0, ↓hS.g3_1, ↓hS.g3_2, ↓hS.g3_3, ↓hS.g3_4, ↓hS.k3, ↓hS.g4_0, ↓hS.g4_1, ↓hS.g4_3, ↓hS.g4_5, ↓hS.g4_6, ↓hS.g4_7, ↓hS.g4_8, ↓hS.g4_9, ↓hS.g4_10, ↓hS.g4_12, ↓hS.g4_11, ↓hS.k4, ↓hS.g5_0, ↓hS.g5_1, ↓hS.g5_2, ↓hS.g5_3, ↓hS.g5_4, ↓hS.g5_5, ↓hS.g5_6, ↓hS.k5, ↓hS.g1_0, ↓hS.g1_1, ↓hS.g1_2, ↓hS.g1_3, ↓hS.g1_4, ↓hS.g1_5, ↓hS.g1_6, ↓hS.g1_7, ↓hS.k1, ↓hS.l3, ↓hS.n3, ↓hS.l26, ↓hS.n26, ↓hS.l5, ↓hS.n5, ↓hS.l12, ↓hS.n12, ↓hS.l6, ↓hS.n6, ↓hS.l10, ↓hS.n10, ↓hS.l11, ↓hS.n11, ↓hS.l13, ↓hS.n13, ↓hS.l14, ↓hS.n14, ↓hS.l16, ↓hS.n16, ↓hS.l24, ↓hS.n24, ↓hS.l27, ↓hS.n27, ↓hS.l28, ↓hS.n28, ↓hS.l2, ↓hS.n2, h7, h8, h9, e, e2, ↓reduceIte, w32_eq]
    rfl
  · simp (disch := omega) only [FX4_isName, BX4_isName_0, BX4_isName_38, BX4_isName_43, ↓hS.g6_0, ↓hS.g6_1, ↓hS.g6_2, ↓hS.g6_3, ↓hS.g6_4, ↓hS.g6_5, ↓hS.g6_7, ↓hS.g6_8, ↓hS.k6, ↓hS.g2_0, ↓hS.g2_1, ↓hS.g2_2, ↓hS.g2_3, ↓hS.g2_4, ↓hS.g2_5, ↓hS.g2_6, ↓hS.g2_7, ↓hS.k2, ↓hS.g3_0, ↓hS.g3_1, ↓hS.g3_2, ↓hS.g3_3, ↓hS.g3_4, ↓hS.k3, ↓hS.g4_0, ↓hS.g4_1, ↓hS.g4_3, ↓hS.g4_5, ↓hS.g4_6, ↓hS.g4_7, ↓hS.g4_8, ↓hS.g4_9, ↓hS.g4_10, ↓hS.g4_12, ↓hS.g4_11, ↓hS.k4, ↓hS.g5_0, ↓hS.g5_1, ↓hS.g5_2, ↓hS.g5_3, ↓hS.g5_4, ↓hS.g5_5, ↓hS.g5_6, ↓hS.k5, ↓hS.g1_0, ↓hS.g1_1, ↓hS.g1_2, ↓hS.g1_3, ↓hS.g1_4, ↓hS.g1_5, ↓hS.g1_6, ↓hS.g1_7, ↓hS.k1, ↓hS.l3, ↓hS.n3, ↓hS.l26, ↓hS.n26, ↓hS.l5, ↓hS.n5, ↓hS.l12, ↓hS.n12, ↓hS.l6, ↓hS.n6, ↓hS.l10, ↓hS.n10, ↓hS.l11, ↓hS.n11, ↓hS.l13, ↓hS.n13, ↓hS.l14, ↓hS.n14, ↓hS.l16, ↓hS.n16, ↓hS.l24, ↓hS.n24, ↓hS.l27, ↓hS.n27, ↓hS.l28, ↓hS.n28, ↓hS.l2, ↓hS.n2, h7, h8, h9, e, e2, ↓reduceIte, w32_eq, fail_rt h, CL, CLX_rt]
    rfl
  · simp (disch := omega) only [FX4_isName, BX4_isName_0, BX4_isName_38, BX4_isName_43, ↓hS.g6_0, ↓hS.g6_1, ↓hS.g6_2, ↓hS.g6_3, ↓hS.g6_4, ↓hS.g6_5, ↓hS.g6_7, ↓hS.g6_8, ↓hS.k6, ↓hS.g2_0, ↓hS.g2_1, ↓hS.g2_2, ↓hS.g2_3, ↓hS.g2_4, ↓hS.g2_5, ↓hS.g2_6, ↓hS.g2_7, ↓hS.k2, ↓hS.g3_0, ↓hS.g3_1, ↓hS.g3_2, ↓hS.g3_3, ↓hS.g3_4, ↓hS.k3, ↓hS.g4_0, ↓hS.g4_1, ↓hS.g4_3, ↓hS.g4_5, ↓hS.g4_6, ↓hS.g4_7, ↓hS.g4_8, ↓hS.g4_9, ↓hS.g4_10, ↓hS.g4_12, ↓hS.g4_11, ↓hS.k4, ↓hS.g5_0, ↓hS.g5_1, ↓hS.g5_2, ↓hS.g5_3, ↓hS.g5_4, ↓hS.g5_5, ↓hS.g5_6, ↓hS.k5, ↓hS.g1_0, ↓hS.g1_1, ↓hS.g1_2, ↓hS.g1_3, ↓hS.g1_4, ↓hS.g1_5, ↓hS.g1_6, ↓hS.g1_7, ↓hS.k1, ↓hS.l3, ↓hS.n3, ↓hS.l26, ↓hS.n26, ↓hS.l5, ↓hS.n5, ↓hS.l12, ↓hS.n12, ↓hS.l6, ↓hS.n6, ↓hS.l10, ↓hS.n10, ↓hS.l11, ↓hS.n11, ↓hS.l13, ↓hS.n13, ↓hS.l14, ↓hS.n14, ↓hS.l16, ↓hS.n16, ↓hS.l24, ↓hS.n24, ↓hS.l27, ↓hS.n27, ↓hS.l28, ↓hS.n28, ↓hS.l2, ↓hS.n2, h7, e, ↓reduceIte, fail_rt h, CL, CLX_rt]
    rfl
def vr (tx : Int → Int) (L s : Int) : Int := if wd tx L 6 s then -1 else if wd tx L 7 s then -2 else if wd tx L 8 s then -3 else if wd tx L 2 s then -4 else 0
def shp (tx : Int → Int) (L s : Int) : Int := if wd tx L 9 s then 0 else if wd tx L 10 s then 1 else if wd tx L 11 s then 2 else if wd tx L 12 s then 3 else -1
theorem variableHere_rt (h : Rd μ tx L s) : FX4_variableHere 23 μ = RT (vr tx L s) μ := by
  have hS := h.1.1
  have h6 := @isWord_rt_c μ L s tx h 6 (by omega) (by omega)
  have h7 := @isWord_rt_c μ L s tx h 7 (by omega) (by omega)
  have h8 := @isWord_rt_c μ L s tx h 8 (by omega) (by omega)
  have h2 := @isWord_rt_c μ L s tx h 2 (by omega) (by omega)
  unfold vr FX4_variableHere BX4_variableHere_0 BX4_variableHere_50
  simp only [CL, hS.k4, h6, h7, h8, h2]
  by_cases e6 : wd tx L 6 s
  · rw [b2_t e6, if_neg (by decide), if_pos e6]
  rw [b2_f e6, if_pos rfl, if_neg e6]
  by_cases e7 : wd tx L 7 s
  · rw [b2_t e7, if_neg (by decide), if_pos e7]
  rw [b2_f e7, if_pos rfl, if_neg e7]
  by_cases e8 : wd tx L 8 s
  · rw [b2_t e8, if_neg (by decide), if_pos e8]
  rw [b2_f e8, if_pos rfl, if_neg e8]
  by_cases e2 : wd tx L 2 s
  · rw [b2_t e2, if_neg (by decide), if_pos e2]
  rw [b2_f e2, if_pos rfl, if_neg e2]
theorem variableHere_rt_c (h : Rd μ tx L s) {K : Int → Mem → Rz} {X : Int → Int → Mem → Rz} : CLX (FX4_variableHere 23 μ) K X = K (vr tx L s) μ := by
  rw [variableHere_rt h]
  rfl
theorem shapeHere_rt (h : Rd μ tx L s) : FX4_shapeHere 23 μ = RT (shp tx L s) μ := by
  have hS := h.1.1
  have h6 := @isWord_rt_c μ L s tx h 9 (by omega) (by omega)
  have h7 := @isWord_rt_c μ L s tx h 10 (by omega) (by omega)
  have h8 := @isWord_rt_c μ L s tx h 11 (by omega) (by omega)
  have h2 := @isWord_rt_c μ L s tx h 12 (by omega) (by omega)
  unfold shp FX4_shapeHere BX4_shapeHere_0 BX4_shapeHere_47
  simp only [CL, hS.k4, h6, h7, h8, h2]
  by_cases e6 : wd tx L 9 s
  · rw [b2_t e6, if_neg (by decide), if_pos e6]
  rw [b2_f e6, if_pos rfl, if_neg e6]
  by_cases e7 : wd tx L 10 s
  · rw [b2_t e7, if_neg (by decide), if_pos e7]
  rw [b2_f e7, if_pos rfl, if_neg e7]
  by_cases e8 : wd tx L 11 s
  · rw [b2_t e8, if_neg (by decide), if_pos e8]
  rw [b2_f e8, if_pos rfl, if_neg e8]
  by_cases e2 : wd tx L 12 s
  · rw [b2_t e2, if_neg (by decide), if_pos e2]
  rw [b2_f e2, if_pos rfl, if_neg e2]
theorem shapeHere_rt_c (h : Rd μ tx L s) {K : Int → Mem → Rz} {X : Int → Int → Mem → Rz} : CLX (FX4_shapeHere 23 μ) K X = K (shp tx L s) μ := by
  rw [shapeHere_rt h]
  rfl
end PIE

