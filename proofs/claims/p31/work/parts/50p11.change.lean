/-! changes begin and are taken back; rows that differ in little -/
theorem uUp_le {u : Int} (h : 0 ≤ u ∧ u ≤ 8) : 0 ≤ uUp u ∧ uUp u ≤ 8 ∧ uUp u ≤ u + 1 := by
  unfold uUp mn
  split <;> omega
section CHG
variable {μ : Mem} {c u p fed fa : Int} {h : Int → Row} {tx : Int → Int}
theorem tmod_small {v q : Int} (h : 0 ≤ v) : v.tmod q = v % q := Int.tmod_eq_emod_of_nonneg h
theorem useDraft_rt (hS : CSh μ) (c0 : 0 ≤ c) (c1 : c < 10) (h4 : μ 1 4 = c) (h5 : μ 1 5 = u) (u0 : 0 ≤ u ∧ u ≤ 8) : ∃ ν, FX6_useDraft 1 μ = RT 0 ν ∧ CSh ν ∧ (ν 1 4 = (c + 1) % 10 ∧ ν 1 6 = 25 + 8 * ((c + 1) % 10) ∧ ν 1 5 = uUp u ∧ ν 4 7 = 0) ∧ ∀ z k, ¬ ((z = 1 ∧ (k = 4 ∨ k = 5 ∨ k = 6)) ∨ (z = 4 ∧ k = 7)) → ν z k = μ z k := by
  have hd := Int.emod_nonneg (c + 1) (show (10 : Int) ≠ 0 by omega)
  have hd1 := Int.emod_lt_of_pos (c + 1) (show (0 : Int) < 10 by omega)
  have hs1 : CSh (mUp (mUp (mUp μ 1 4 ((c + 1) % 10)) 1 6 (25 + 8 * ((c + 1) % 10))) 1 5 (uUp u)) := CSh.up (CSh.up (CSh.up hS (by unfold CSt; omega)) (by unfold CSt; omega)) (by unfold CSt; omega)
  refine ⟨mUp (mUp (mUp (mUp μ 1 4 ((c + 1) % 10)) 1 6 (25 + 8 * ((c + 1) % 10))) 1 5 (uUp u)) 4 7 0, ?_, CSh.up hs1 (by unfold CSt; omega), ⟨?_, ?_, ?_, ?_⟩, fun z k hz => ?_⟩
  · have e1 : w32 (c + 1) = c + 1 := w32_eq (by omega) (by omega)
    have e2 : (c + 1).tmod 10 = (c + 1) % 10 := tmod_small (by omega)
    have e3 : w32 (u + 1) = u + 1 := w32_eq (by omega) (by omega)
    have hs9 : CSh (mUp μ 1 4 ((c + 1) % 10)) := hS.up (by unfold CSt; omega)
    have hs8 : CSh (mUp (mUp μ 1 4 ((c + 1) % 10)) 1 6 (25 + 8 * ((c + 1) % 10))) := hs9.up (by unfold CSt; omega)
    unfold FX6_useDraft BX6_useDraft_0
    rw [hS.g6_4, h4, e1, RM_of (show (10 : Int) ≠ 0 by omega), e2, hS.p6_4, hs9.g6_3, hs9.g6_4, mUp_same, hs9.l3 hd hd1, hs9.p6_6, hs8.g6_5, mUp_ne _ _ (by omega), mUp_ne _ _ (by omega), h5, e3, min_rt]
    simp only [CL, ↓CLX_rt]
    rw [hs8.p6_5]
    unfold uUp at hs1 ⊢
    rw [hs1.g6_7, hs1.k2]
    unfold FX2_forgetDots BX2_forgetDots_0
    rw [hs1.z2_7 (Or.inl rfl)]
    rfl
  · simp (disch := omega) only [mUp_ne, mUp_same]
  · simp (disch := omega) only [mUp_ne, mUp_same]
  · simp (disch := omega) only [mUp_ne, mUp_same]
  · simp (disch := omega) only [mUp_same]
  · simp (disch := omega) only [mUp_ne]
theorem startChange_rt (hI : CIc μ c u h tx fed fa) : ∃ ν, FX6_startChange 1 μ = RT 0 ν ∧ CIc ν ((c + 1) % 10) (uUp u) (push (h 0) h) tx fed fa ∧ ν 4 7 = 0 ∧ (∀ z k, ¬ ((z = 1 ∧ (k = 4 ∨ k = 5 ∨ k = 6)) ∨ (z = 4 ∧ k = 7) ∨ (25 ≤ z ∧ z ≤ 104 ∧ 0 ≤ k)) → ν z k = μ z k) := by
  obtain ⟨hc, hB, hP⟩ := id hI
  obtain ⟨hS, ⟨c0, c1⟩, ⟨a1, a2, a3⟩, u0, b, d⟩ := id hc
  have hcur := hc.cur
  have hd := Int.emod_nonneg (c + 1) (show (10 : Int) ≠ 0 by omega)
  have hd1 := Int.emod_lt_of_pos (c + 1) (show (0 : Int) < 10 by omega)
  obtain ⟨μ1, e1, s1, f1, t1⟩ := become_rt (d := (c + 1) % 10) hS c0 c1 hd hd1 (by omega) hcur.1 hcur.2
  obtain ⟨ν, e2, s2, ⟨g1, g2, g3, g4⟩, f2⟩ := useDraft_rt (μ := μ1) s1 c0 c1 (by rw [f1 _ _ (by omega), a1]) (by rw [f1 _ _ (by omega), a3]) u0
  have hfr : ∀ z k, ¬ ((z = 1 ∧ (k = 4 ∨ k = 5 ∨ k = 6)) ∨ (z = 4 ∧ k = 7) ∨ (25 ≤ z ∧ z ≤ 104 ∧ 0 ≤ k)) → ν z k = μ z k := fun z k hz => by rw [f2 _ _ (by omega), f1 _ _ (by omega)]
  have hu := uUp_le u0
  refine ⟨ν, ?_, ⟨⟨s2, ⟨hd, hd1⟩, ⟨g1, g2, g3⟩, ⟨hu.1, hu.2.1⟩, fun j j0 j1 => ?_, by rw [hfr _ _ (by omega)]; exact d⟩, ⟨hB.1, ⟨by rw [hfr _ _ (by omega), hB.2.1.1], by rw [hfr _ _ (by omega), hB.2.1.2.1], hB.2.1.2.2⟩, fun k k0 k1 => by rw [hfr _ _ (by omega)]; exact hB.2.2 k k0 k1⟩, ?_⟩, g4, hfr⟩
  · have e3 : w32 (c + 1) = c + 1 := w32_eq (by omega) (by omega)
    have e4 : (c + 1).tmod 10 = (c + 1) % 10 := tmod_small (by omega)
    have e5 : FX6_draftSheet 1 μ = RT (25 + 8 * ((c + 1) % 10)) μ := by
      simp (disch := omega) only [FX6_draftSheet, BX6_draftSheet_0, ↓hS.g6_0, ↓hS.g6_1, ↓hS.g6_2, ↓hS.g6_3, ↓hS.g6_4, ↓hS.g6_5, ↓hS.g6_7, ↓hS.g6_8, ↓hS.k6, ↓hS.g2_0, ↓hS.g2_1, ↓hS.g2_2, ↓hS.g2_3, ↓hS.g2_4, ↓hS.g2_5, ↓hS.g2_6, ↓hS.g2_7, ↓hS.k2, ↓hS.g3_0, ↓hS.g3_1, ↓hS.g3_2, ↓hS.g3_3, ↓hS.g3_4, ↓hS.k3, ↓hS.g4_0, ↓hS.g4_1, ↓hS.g4_3, ↓hS.g4_5, ↓hS.g4_6, ↓hS.g4_7, ↓hS.g4_8, ↓hS.g4_9, ↓hS.g4_10, ↓hS.g4_12, ↓hS.g4_11, ↓hS.k4, ↓hS.g5_0, ↓hS.g5_1, ↓hS.g5_2, ↓hS.g5_3, ↓hS.g5_4, ↓hS.g5_5, ↓hS.g5_6, ↓hS.k5, ↓hS.g1_0, ↓hS.g1_1, ↓hS.g1_2, ↓hS.g1_3, ↓hS.g1_4, ↓hS.g1_5, ↓hS.g1_6, ↓hS.g1_7, ↓hS.k1, ↓hS.l3, ↓hS.n3, ↓hS.l26, ↓hS.n26, ↓hS.l5, ↓hS.n5, ↓hS.l12, ↓hS.n12, ↓hS.l6, ↓hS.n6, ↓hS.l10, ↓hS.n10, ↓hS.l11, ↓hS.n11, ↓hS.l13, ↓hS.n13, ↓hS.l14, ↓hS.n14, ↓hS.l16, ↓hS.n16, ↓hS.l24, ↓hS.n24, ↓hS.l27, ↓hS.n27, ↓hS.l28, ↓hS.n28, ↓hS.l2, ↓hS.n2, a1, e3, e4, ↓RM_of (show (10 : Int) ≠ 0 by omega)]
    unfold FX6_startChange BX6_startChange_0
    rw [hS.k6, e5]
    simp (disch := omega) only [CL, ↓CLX_rt, ↓hS.g6_6 a2, ↓hS.k5 hd hd1]
    rw [e1]
    simp (disch := omega) only [↓CLX_rt, ↓s1.k6]
    rw [e2]
    rfl
  · unfold push
    by_cases e : j = 0
    · rw [if_pos e, e, Int.sub_zero, Int.emod_eq_of_lt hd hd1]
      refine ⟨hcur.1, t1.fr hcur.1 (fun a k h1 h2 h3 => f2 a k (by omega)) (fun a k h1 h2 => f2 a k (by omega)) (by rw [f2 _ _ (by omega)]; exact Int.le_refl _)⟩
    · rw [if_neg e, show ((c + 1) % 10 - j) % 10 = (c - (j - 1)) % 10 by omega]
      obtain ⟨b1, b2⟩ := b (j - 1) (by omega) (by omega)
      refine ⟨b1, b2.fr b1 (fun a k h1 h2 h3 => by rw [f2 _ _ (by omega), f1 _ _ (by omega)]) (fun a k h1 h2 => by rw [f2 _ _ (by omega), f1 _ _ (by omega)]) (by rw [f2 _ _ (by omega), f1 _ _ (by omega)]; exact Int.le_refl _)⟩
  · obtain ⟨⟨p1, p2⟩, p3, p4, p5⟩ := hP
    show CPr ν (h 0)
    refine ⟨⟨by rw [hfr _ _ (by omega)]; exact p1, Or.inl g4⟩, fun hf => ?_, fun hf => by omega, fun p p0 q1 => (p5 p p0 q1).fr (fun k k0 => hfr _ _ (by omega)) (fun k k0 => hfr _ _ (by omega))⟩
    rw [hfr _ _ (by omega)] at hf
    exact (p3 hf).fr hcur.1 fun a k h1 h2 h3 => hfr _ _ (by omega)
/-- the current row is replaced, its sheet alone changes -/
theorem CIc.set {r r' : Row} {ν : Mem} (hI : CIc μ c u (push r h) tx fed fa) (h7 : μ 4 7 = 0) (hS : CSh ν) (hf : ∀ z k, ¬ (25 + 8 * c ≤ z ∧ z ≤ 32 + 8 * c ∧ 0 ≤ k) → ν z k = μ z k) (hr' : okRow r') (hT : Sht ν c r') (hP : PT μ r → PT μ r') : CIc ν c u (push r' h) tx fed fa := by
  obtain ⟨⟨_, ⟨c0, c1⟩, ⟨a1, a2, a3⟩, u0, b, d⟩, hB, ⟨⟨p1, p2⟩, p3, p4, p5⟩⟩ := hI
  refine ⟨⟨hS, ⟨c0, c1⟩, ⟨by rw [hf _ _ (by omega), a1], by rw [hf _ _ (by omega), a2], by rw [hf _ _ (by omega), a3]⟩, u0, fun j j0 j1 => ?_, by rw [hf _ _ (by omega)]; exact d⟩, ⟨hB.1, ⟨by rw [hf _ _ (by omega), hB.2.1.1], by rw [hf _ _ (by omega), hB.2.1.2.1], hB.2.1.2.2⟩, fun k k0 k1 => by rw [hf _ _ (by omega)]; exact hB.2.2 k k0 k1⟩, ⟨⟨by rw [hf _ _ (by omega)]; exact p1, by rw [hf _ _ (by omega)]; exact p2⟩, fun q => ?_, fun q => ?_, fun p p0 q1 => (p5 p p0 q1).fr (fun k k0 => hf _ _ (by omega)) (fun k k0 => hf _ _ (by omega))⟩⟩
  · by_cases e : j = 0
    · subst e
      rw [Int.sub_zero, Int.emod_eq_of_lt c0 c1]
      exact ⟨hr', hT⟩
    · have hb := b j j0 j1
      have e1 : push r h j = h (j - 1) := if_neg e
      have e2 : push r' h j = h (j - 1) := if_neg e
      rw [e1] at hb
      rw [e2]
      exact ⟨hb.1, hb.2.fr hb.1 (fun a k h1 h2 h3 => hf a k (by omega)) (fun a k h1 h2 => hf a k (by omega)) (by rw [hf _ _ (by omega)]; exact Int.le_refl _)⟩
  · rw [hf _ _ (by omega)] at q
    exact (hP (p3 q)).fr hr' fun a k h1 h2 h3 => hf _ _ (by omega)
  · rw [hf _ _ (by omega), h7] at q
    omega
theorem undo_rt (hI : CIc μ c u h tx fed fa) : ∃ ν, FX6_undo 1 μ = RT (if u = 0 then -1 else u - 1) ν ∧ CInv ν (if u = 0 then 0 else u - 1) (if u = 0 then h else fun j => h (j + 1)) tx fed fa ∧ ∀ z k, ¬ ((z = 1 ∧ (k = 4 ∨ k = 5 ∨ k = 6)) ∨ (z = 4 ∧ (k = 6 ∨ k = 7))) → ν z k = μ z k := by
  obtain ⟨hc, hB, hP⟩ := id hI
  obtain ⟨hS, ⟨c0, c1⟩, ⟨a1, a2, a3⟩, u0, b, d⟩ := id hc
  by_cases e : u = 0
  · rw [if_pos e, if_pos e, if_pos e]
    refine ⟨μ, ?_, ⟨c, by rw [e] at hI; exact hI⟩, fun _ _ _ => rfl⟩
    have h1 : ¬ (1 : Int) ≤ u := by omega
    simp (disch := omega) only [FX6_undo, BX6_undo_0, ↓hS.g6_0, ↓hS.g6_1, ↓hS.g6_2, ↓hS.g6_3, ↓hS.g6_4, ↓hS.g6_5, ↓hS.g6_7, ↓hS.g6_8, ↓hS.k6, ↓hS.g2_0, ↓hS.g2_1, ↓hS.g2_2, ↓hS.g2_3, ↓hS.g2_4, ↓hS.g2_5, ↓hS.g2_6, ↓hS.g2_7, ↓hS.k2, ↓hS.g3_0, ↓hS.g3_1, ↓hS.g3_2, ↓hS.g3_3, ↓hS.g3_4, ↓hS.k3, ↓hS.g4_0, ↓hS.g4_1, ↓hS.g4_3, ↓hS.g4_5, ↓hS.g4_6, ↓hS.g4_7, ↓hS.g4_8, ↓hS.g4_9, ↓hS.g4_10, ↓hS.g4_12, ↓hS.g4_11, ↓hS.k4, ↓hS.g5_0, ↓hS.g5_1, ↓hS.g5_2, ↓hS.g5_3, ↓hS.g5_4, ↓hS.g5_5, ↓hS.g5_6, ↓hS.k5, ↓hS.g1_0, ↓hS.g1_1, ↓hS.g1_2, ↓hS.g1_3, ↓hS.g1_4, ↓hS.g1_5, ↓hS.g1_6, ↓hS.g1_7, ↓hS.k1, ↓hS.l3, ↓hS.n3, ↓hS.l26, ↓hS.n26, ↓hS.l5, ↓hS.n5, ↓hS.l12, ↓hS.n12, ↓hS.l6, ↓hS.n6, ↓hS.l10, ↓hS.n10, ↓hS.l11, ↓hS.n11, ↓hS.l13, ↓hS.n13, ↓hS.l14, ↓hS.n14, ↓hS.l16, ↓hS.n16, ↓hS.l24, ↓hS.n24, ↓hS.l27, ↓hS.n27, ↓hS.l28, ↓hS.n28, ↓hS.l2, ↓hS.n2, a3, h1, ↓reduceIte]
  · rw [if_neg e, if_neg e, if_neg e]
    have h1 : (1 : Int) ≤ u := by omega
    have hd := Int.emod_nonneg (c + 9) (show (10 : Int) ≠ 0 by omega)
    have hd1 := Int.emod_lt_of_pos (c + 9) (show (0 : Int) < 10 by omega)
    have hs1 : CSh (mUp (mUp (mUp μ 1 5 (u - 1)) 1 4 ((c + 9) % 10)) 1 6 (25 + 8 * ((c + 9) % 10))) := CSh.up (CSh.up (CSh.up hS (by unfold CSt; omega)) (by unfold CSt; omega)) (by unfold CSt; omega)
    have hs2 : CSh (mUp (mUp (mUp (mUp (mUp μ 1 5 (u - 1)) 1 4 ((c + 9) % 10)) 1 6 (25 + 8 * ((c + 9) % 10))) 4 6 0) 4 7 0) := CSh.up (CSh.up hs1 (by unfold CSt; omega)) (by unfold CSt; omega)
    have hfr : ∀ z k, ¬ ((z = 1 ∧ (k = 4 ∨ k = 5 ∨ k = 6)) ∨ (z = 4 ∧ (k = 6 ∨ k = 7))) → mUp (mUp (mUp (mUp (mUp μ 1 5 (u - 1)) 1 4 ((c + 9) % 10)) 1 6 (25 + 8 * ((c + 9) % 10))) 4 6 0) 4 7 0 z k = μ z k := fun z k hz => by
      simp (disch := omega) only [mUp_ne]
    have v4 : mUp (mUp (mUp (mUp (mUp μ 1 5 (u - 1)) 1 4 ((c + 9) % 10)) 1 6 (25 + 8 * ((c + 9) % 10))) 4 6 0) 4 7 0 1 4 = (c + 9) % 10 := by simp (disch := omega) only [mUp_ne, mUp_same]
    have v5 : mUp (mUp (mUp (mUp (mUp μ 1 5 (u - 1)) 1 4 ((c + 9) % 10)) 1 6 (25 + 8 * ((c + 9) % 10))) 4 6 0) 4 7 0 1 5 = u - 1 := by simp (disch := omega) only [mUp_ne, mUp_same]
    have v6 : mUp (mUp (mUp (mUp (mUp μ 1 5 (u - 1)) 1 4 ((c + 9) % 10)) 1 6 (25 + 8 * ((c + 9) % 10))) 4 6 0) 4 7 0 1 6 = 25 + 8 * ((c + 9) % 10) := by simp (disch := omega) only [mUp_ne, mUp_same]
    have v7 : mUp (mUp (mUp (mUp (mUp μ 1 5 (u - 1)) 1 4 ((c + 9) % 10)) 1 6 (25 + 8 * ((c + 9) % 10))) 4 6 0) 4 7 0 4 6 = 0 := by simp (disch := omega) only [mUp_ne, mUp_same]
    have v8 : mUp (mUp (mUp (mUp (mUp μ 1 5 (u - 1)) 1 4 ((c + 9) % 10)) 1 6 (25 + 8 * ((c + 9) % 10))) 4 6 0) 4 7 0 4 7 = 0 := mUp_same _ _ _ _
    refine ⟨mUp (mUp (mUp (mUp (mUp μ 1 5 (u - 1)) 1 4 ((c + 9) % 10)) 1 6 (25 + 8 * ((c + 9) % 10))) 4 6 0) 4 7 0, ?_, ?_, hfr⟩
    · have e1 : w32 (u - 1) = u - 1 := w32_eq (by omega) (by omega)
      have e2 : w32 (w32 (c + 10) - 1) = c + 9 := by rw [w32_eq (z := c + 10) (by omega) (by omega), w32_eq (by omega) (by omega)]; omega
      have e3 : (c + 9).tmod 10 = (c + 9) % 10 := tmod_small (by omega)
      have hs9 : CSh (mUp μ 1 5 (u - 1)) := hS.up (by unfold CSt; omega)
      have hs8 : CSh (mUp (mUp μ 1 5 (u - 1)) 1 4 ((c + 9) % 10)) := hs9.up (by unfold CSt; omega)
      unfold FX6_undo BX6_undo_0
      rw [hS.g6_5, a3, if_pos h1, hS.g6_5, a3, e1, hS.p6_5, hs9.g6_4, mUp_ne _ _ (by omega), a1, e2, RM_of (show (10 : Int) ≠ 0 by omega), e3, hs9.p6_4, hs8.g6_3, hs8.g6_4, mUp_same, hs8.l3 hd hd1, hs8.p6_6, hs1.g6_7, hs1.k2]
      unfold FX2_forgetTones BX2_forgetTones_0
      rw [hs1.z2_6 (Or.inl rfl), (CSh.up hs1 (show ¬ CSt 4 6 by unfold CSt; omega)).z2_7 (Or.inl rfl)]
      simp only [CL, ↓CLX_rt]
      rw [hs2.g6_5, v5]
    · generalize mUp (mUp (mUp (mUp (mUp μ 1 5 (u - 1)) 1 4 ((c + 9) % 10)) 1 6 (25 + 8 * ((c + 9) % 10))) 4 6 0) 4 7 0 = ν at *
      refine ⟨(c + 9) % 10, ⟨hs2, ⟨hd, hd1⟩, ⟨v4, v6, v5⟩, by omega, fun j j0 j1 => ?_, by rw [hfr _ _ (by omega)]; exact d⟩, ⟨hB.1, ⟨by rw [hfr _ _ (by omega), hB.2.1.1], by rw [hfr _ _ (by omega), hB.2.1.2.1], hB.2.1.2.2⟩, fun k k0 k1 => by rw [hfr _ _ (by omega)]; exact hB.2.2 k k0 k1⟩, ⟨⟨Or.inl v7, Or.inl v8⟩, fun q => by omega, fun q => by omega, fun p p0 q1 => (hP.2.2.2 p p0 q1).fr (fun k k0 => hfr _ _ (by omega)) (fun k k0 => hfr _ _ (by omega))⟩⟩
      rw [show ((c + 9) % 10 - j) % 10 = (c - (j + 1)) % 10 by omega]
      obtain ⟨b1, b2⟩ := b (j + 1) (by omega) (by omega)
      exact ⟨b1, b2.fr b1 (fun a k h1 h2 h3 => hfr _ _ (by omega)) (fun a k h1 h2 => hfr _ _ (by omega)) (by rw [hfr _ _ (by omega)]; exact Int.le_refl _)⟩
/-- the print is brought up to date -/
theorem upd_rt (hI : CIc μ c u h tx fed fa) : ∃ ν, FX2_update 4 (25 + 8 * c) μ = RT 0 ν ∧ CIc ν c u h tx fed fa ∧ PrOK ν (h 0) ∧ UpFr μ ν ∧ ν 4 7 = 1 := by
  obtain ⟨hc, hB, hP⟩ := id hI
  obtain ⟨hS, ⟨c0, c1⟩, ⟨a1, a2, a3⟩, u0, b, d⟩ := id hc
  have hcur := hc.cur
  obtain ⟨ν, e1, f, p1, p2, p3, p4⟩ := update_rt hS c0 c1 hcur.1 hcur.2 hP
  refine ⟨ν, e1, ⟨hc.fr f.1 (fun k k0 => f.2 _ _ (by omega)) (fun a k h1 h2 h3 => f.2 _ _ (by omega)) (fun a k h1 h2 => f.2 _ _ (by omega)) (by rw [f.2 _ _ (by omega)]; exact Int.le_refl _), ⟨hB.1, ⟨by rw [f.2 _ _ (by omega), hB.2.1.1], by rw [f.2 _ _ (by omega), hB.2.1.2.1], hB.2.1.2.2⟩, fun k k0 k1 => by rw [f.2 _ _ (by omega)]; exact hB.2.2 k k0 k1⟩, p2⟩, p1, f, p4⟩
end CHG
/-! rows that differ in little -/
def CdS (r r' : Row) (p : Int) : Prop := ∀ k, (0 ≤ k ∧ k ≤ 6) ∨ k = 13 ∨ (26 ≤ k ∧ k < 1226) → rO r' p k = rO r p k
section ROWS
variable {r r' : Row} {p : Int}
theorem cOp_ext (h : CdS r r' p) {k : Int} (k0 : 0 ≤ k) (k1 : k < 600) : cOp r' p k = cOp r p k := h _ (by omega)
theorem cV_ext (h : CdS r r' p) {k : Int} (k0 : 0 ≤ k) (k1 : k < 600) : cV r' p k = cV r p k := h _ (by omega)
theorem sd_ext (h : CdS r r' p) : ∀ n : Nat, n ≤ 600 → sd r' p n = sd r p n
  | 0, _ => rfl
  | n + 1, hn => by rw [sd, sd, sd_ext h n (by omega), cOp_ext h (by omega) (by omega)]
theorem sv_ext (h : CdS r r' p) {x y : Int} (ht : rT r' x y = rT r x y) : ∀ n : Nat, n ≤ 600 → ∀ i, sv r' p x y n i = sv r p x y n i
  | 0, _, _ => rfl
  | n + 1, hn, i => by rw [sv, sv, sv_ext h ht n (by omega), sv_ext h ht n (by omega), sv_ext h ht n (by omega), sd_ext h n (by omega), cOp_ext h (by omega) (by omega), cV_ext h (by omega) (by omega), ht]
theorem tnOn_ext (h : CdS r r' p) {x y : Int} (ht : rT r' x y = rT r x y) (hn : rO r p 13 ≤ 600) : tnOn r' p x y = tnOn r p x y := by
  unfold tnOn
  rw [h 13 (by omega), ht, sv_ext h ht _ (by omega)]
theorem okCodes.ext (h : CdS r r' p) (ho : okCodes r p) : okCodes r' p := by
  obtain ⟨a, b, d, e⟩ := ho
  have h13 : rO r' p 13 = rO r p 13 := h 13 (by omega)
  refine ⟨by rw [h13]; exact a, by rw [h13]; exact b, fun k hk => ?_, fun hk => ?_⟩
  · rw [h13] at hk
    rw [cOp_ext h (by omega) (by omega), cV_ext h (by omega) (by omega), sd_ext h k (by omega), sd_ext h (k + 1) (by omega)]
    exact d k hk
  · rw [h13] at hk ⊢
    rw [sd_ext h _ (by omega)]
    exact e hk
theorem Crv.ext {μ : Mem} {q : Int} (h : CdS r r' p) (hn : rO r p 13 ≤ 600) (hc : Crv μ q r p) : Crv μ q r' p := by
  obtain ⟨a, ⟨b1, b2, b3, b4⟩, d⟩ := hc
  have h13 : rO r' p 13 = rO r p 13 := h 13 (by omega)
  exact ⟨a, ⟨b1, b2, b3, by rw [h13]; exact b4⟩, fun k k0 k1 => by rw [h13] at k1; rw [cOp_ext h k0 (by omega), cV_ext h k0 (by omega)]; exact d k k0 k1⟩
theorem pkN_ext (h : CdS r r' p) : ∀ n : Nat, n ≤ 6 → pkN r' p n = pkN r p n
  | 0, _ => rfl
  | n + 1, hn => by rw [pkN, pkN, pkN_ext h n (by omega), h (1 + n) (by omega)]
theorem nmO_ext (h : CdS r r' p) (hn : rO r p 0 ≤ 6) : nmO r' p = nmO r p := by
  unfold nmO
  rw [h 0 (by omega), pkN_ext h _ (by omega)]
theorem PT.ext {μ : Mem} (hr : okRow r) (h0 : r' 0 = r 0) (h1 : r' 1 = r 1) (h2 : r' 2 = r 2) (ht : ∀ x y, 0 ≤ x → x < r 0 → 0 ≤ y → y < r 1 → rT r' x y = rT r x y) (hc : ∀ p, 0 ≤ p → p < r 2 → CdS r r' p) (hP : PT μ r) : PT μ r' := fun p p0 p1 x y x0 x1 y0 y1 => by
  rw [h2] at p1
  rw [h0] at x1
  rw [h1] at y1
  rw [h0, tnOn_ext (hc p p0 p1) (ht x y x0 x1 y0 y1) (hr.2.2.2.2 p p0 p1).2.2.2.2.2.1.2.1]
  exact hP p p0 p1 x y x0 x1 y0 y1
end ROWS

