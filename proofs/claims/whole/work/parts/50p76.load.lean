/-! load, both sides -/
section LOA
variable {μ ξ : Mem} {c u fed fa n U1 U2 : Int} {h : Int → Row} {tx : Int → Int}
theorem cload_ok {ν ζ : Mem} {L s : Int} (hI : CIc μ c u h tx fed fa) (hn : 0 ≤ n ∧ n ≤ fed) (hx : FX4_read 23 2 n (25 + 8 * ((c + 1) % 10)) (mUp μ 1 1 0) = RT 1 ν) (hD : Dr U1 U2 ν ζ tx L s ((c + 1) % 10)) (hf : DrF ((c + 1) % 10) (mUp μ 1 1 0) ν) : ∃ η, FX6_load 1 n μ = RT (ζ 107 2) η ∧ CIc η ((c + 1) % 10) (uUp u) (push (ζ 107) h) tx 0 (-1) ∧ ∀ z k, ¬ (z = 1 ∧ (k = 2 ∨ k = 4 ∨ k = 5 ∨ k = 6)) → ¬ (z = 4 ∧ (k = 6 ∨ k = 7)) → η z k = ν z k := by
  have hS1 : CSh (mUp μ 1 1 0) := hI.1.1.up (by unfold CSt; omega)
  obtain ⟨⟨hS0, ⟨c0, c1⟩, ⟨a1, a2, a3⟩, u0, b, d⟩, hB, hP⟩ := id hI
  obtain ⟨⟨hR, hM⟩, ⟨b1, b2, b3⟩, ⟨c2, c3⟩, -, -, ⟨i1, i2⟩, j1, j2, j3⟩ := id hD
  have hg := Int.emod_nonneg (c + 1) (show (10 : Int) ≠ 0 by omega)
  have hg1 := Int.emod_lt_of_pos (c + 1) (show (0 : Int) < 10 by omega)
  have e00 : mUp μ 1 1 0 0 0 = μ 0 0 := mUp_ne _ _ (by omega)
  have h00 : μ 0 0 ≤ ν 0 0 := by have := hf.2; omega
  have hz0 : ∀ z k, ¬ (z = 0 ∨ z = 23 ∨ z = 24 ∨ (25 + 8 * ((c + 1) % 10) ≤ z ∧ z ≤ 32 + 8 * ((c + 1) % 10))) → ¬ (z = 1 ∧ k = 1) → z < μ 0 0 → ν z k = μ z k := fun z k h1 h2 h3 => by rw [hf.1 z k h1 (by omega), mUp_ne _ _ (by omega)]
  have hS : CSh ν := hR.1.1
  have hS2 : CSh (mUp ν 1 2 (-1)) := hS.up (by unfold CSt; omega)
  obtain ⟨η1, d1, d2, ⟨d3, d4, d5, d6⟩, d7⟩ := useDraft_rt (c := c) (u := u) hS2 c0 c1 (by rw [mUp_ne _ _ (by omega), hz0 _ _ (by omega) (by omega) (by omega)]; exact a1) (by rw [mUp_ne _ _ (by omega), hz0 _ _ (by omega) (by omega) (by omega)]; exact a3) u0
  have s3 : CSh (mUp η1 4 6 0) := d2.up (by unfold CSt; omega)
  have s4 : CSh (mUp (mUp η1 4 6 0) 4 7 0) := s3.up (by unfold CSt; omega)
  have hfr : ∀ z k, ¬ (z = 1 ∧ (k = 2 ∨ k = 4 ∨ k = 5 ∨ k = 6)) → ¬ (z = 4 ∧ (k = 6 ∨ k = 7)) → mUp (mUp η1 4 6 0) 4 7 0 z k = ν z k := fun z k h1 h2 => by rw [mUp_ne _ _ (by omega), mUp_ne _ _ (by omega), d7 _ _ (by omega), mUp_ne _ _ (by omega)]
  have hu := uUp_le u0
  have q6 : mUp (mUp η1 4 6 0) 4 7 0 4 6 = 0 := by rw [mUp_ne _ _ (by omega), mUp_same]
  have q7 : mUp (mUp η1 4 6 0) 4 7 0 4 7 = 0 := mUp_same _ _ _ _
  have r4 : mUp (mUp η1 4 6 0) 4 7 0 1 4 = (c + 1) % 10 := by rw [mUp_ne _ _ (by omega), mUp_ne _ _ (by omega)]; exact d3
  have r6 : mUp (mUp η1 4 6 0) 4 7 0 1 6 = 25 + 8 * ((c + 1) % 10) := by rw [mUp_ne _ _ (by omega), mUp_ne _ _ (by omega)]; exact d4
  have r5 : mUp (mUp η1 4 6 0) 4 7 0 1 5 = uUp u := by rw [mUp_ne _ _ (by omega), mUp_ne _ _ (by omega)]; exact d5
  have r2 : mUp (mUp η1 4 6 0) 4 7 0 1 2 = -1 := by rw [mUp_ne _ _ (by omega), mUp_ne _ _ (by omega), d7 _ _ (by omega), mUp_same]
  have ef : FX2_forgetTones 4 η1 = RT 0 (mUp (mUp η1 4 6 0) 4 7 0) := by
    unfold FX2_forgetTones BX2_forgetTones_0
    rw [d2.z2_6 (Or.inl rfl), s3.z2_7 (Or.inl rfl)]
  have hT : Sht (mUp (mUp η1 4 6 0) 4 7 0) ((c + 1) % 10) (ζ 107) := c2.fr c3 (fun a k h1 h2 h3 => hfr a k (by omega) (by omega)) (fun a k h1 h2 => hfr a k (by omega) (by omega)) (by rw [hfr _ _ (by omega) (by omega)]; exact Int.le_refl _)
  refine ⟨mUp (mUp η1 4 6 0) 4 7 0, ?_, ⟨⟨s4, ⟨hg, hg1⟩, ⟨r4, r6, r5⟩, ⟨hu.1, hu.2.1⟩, fun j j0 j1 => ?_, by rw [hfr _ _ (by omega) (by omega)]; omega⟩, ⟨by omega, ⟨?_, r2, by unfold i32; omega⟩, fun k k0 k1 => by omega⟩, ?_⟩, hfr⟩
  · rw [cload_start hI hn, hS1.k4, hx]
    simp only [CL, CLX_rt]
    rw [hS.g6_8, hS.g4_1, i1, hS.p6_2, if_pos (by decide), hS2.k6, d1]
    simp only [CL, CLX_rt]
    rw [d2.g6_7, d2.k2, ef]
    simp only [CL, CLX_rt]
    rw [s4.g6_6 r6, s4.g5_3 hg hg1, hT.1.2.2.2]
  · unfold push
    by_cases e : j = 0
    · rw [if_pos e, e, Int.sub_zero, Int.emod_eq_of_lt hg hg1]
      exact ⟨c3, hT⟩
    · rw [if_neg e, show ((c + 1) % 10 - j) % 10 = (c - (j - 1)) % 10 by omega]
      obtain ⟨w1, w2⟩ := b (j - 1) (by omega) (by omega)
      refine ⟨w1, w2.fr w1 (fun z k h1 h2 h3 => ?_) (fun z k h1 h2 => ?_) ?_⟩
      · rw [hfr z k (by omega) (by omega)]
        exact hz0 z k (by omega) (by omega) (by omega)
      · rw [hfr z k (by omega) (by omega)]
        exact hz0 z k (by omega) (by omega) (by omega)
      · rw [hfr _ _ (by omega) (by omega)]
        exact h00
  · rw [hfr _ _ (by omega) (by omega), hf.1 _ _ (by omega) (by omega), mUp_same]
  · show CPr _ (ζ 107)
    refine ⟨⟨Or.inl q6, Or.inl q7⟩, fun q => by omega, fun q => by omega, fun p p0 q1 => (hP.2.2.2 p p0 q1).fr (fun k k0 => ?_) (fun k k0 => ?_)⟩
    · rw [hfr _ _ (by omega) (by omega)]
      exact hz0 _ _ (by omega) (by omega) (by omega)
    · rw [hfr _ _ (by omega) (by omega)]
      exact hz0 _ _ (by omega) (by omega) (by omega)
theorem load_sim {c' : Int} (htx : ∀ k, 0 ≤ tx k ∧ tx k ≤ 255) (hI : CIc μ c u h tx fed fa) (hJ : MIv ξ c' u h tx fed fa) (hn : 0 ≤ n ∧ n ≤ fed) : ∃ v η ζ d d' u1 h1 f1, FX6_load 1 n μ = RT v η ∧ CIc η d u1 h1 tx 0 f1 ∧ CFr μ η ∧ FX7_load 105 n ξ = RT v ζ ∧ MOk ξ ζ d' u1 h1 tx 0 f1 0 := by
  have hS1 : CSh (mUp μ 1 1 0) := hI.1.1.up (by unfold CSt; omega)
  have hM1 : MSh (mL0 ξ n) := hJ.1.1.fr fun a k hs => mL0_ne (by unfold MSt at hs; omega)
  obtain ⟨⟨hS0, ⟨c0, c1⟩, ⟨a1, a2, a3⟩, u0, b, d⟩, hB, hP⟩ := id hI
  have hg := Int.emod_nonneg (c + 1) (show (10 : Int) ≠ 0 by omega)
  have hg1 := Int.emod_lt_of_pos (c + 1) (show (0 : Int) < 10 by omega)
  have v0 : mUp μ 1 1 0 0 0 = μ 0 0 := mUp_ne _ _ (by omega)
  have v1 : mUp μ 1 1 0 0 1 = μ 0 1 := mUp_ne _ _ (by omega)
  have v2 : mUp μ 1 1 0 0 2 = μ 0 2 := mUp_ne _ _ (by omega)
  have m13 : mL0 ξ n 105 13 = n ∧ mL0 ξ n 105 14 = 0 ∧ mL0 ξ n 105 15 = 0 ∧ mL0 ξ n 105 16 = -1 := by
    unfold mL0
    simp (disch := omega) only [mUp_ne, mUp_same, and_self]
  have key := read_sim (U1 := μ 0 1) (U2 := μ 0 2) (g := (c + 1) % 10) htx hS1 hM1 hn.1 (by have := hB.1; omega) (fun k k0 k1 => by rw [mUp_ne _ _ (by omega)]; exact hB.2.2 k k0 (by omega)) (fun k k0 k1 => by rw [mL0_ne (by omega)]; exact hJ.2.1.2.2 k k0 (by omega)) hg hg1 m13.1 m13.2.1 m13.2.2.1 m13.2.2.2 (by omega) (by omega) (by omega)
  rcases key with ⟨ν, ζ, s', x1, x2, hD, -, hf, hm⟩ | ⟨ν, ζ, e, a, x1, x2, hF, hm⟩
  · obtain ⟨η, y1, y2, y3⟩ := cload_ok hI hn x1 hD hf
    obtain ⟨⟨hR, hM⟩, ⟨b1, b2, b3⟩, ⟨c2, c3⟩, -, -, ⟨i1, i2⟩, j1, j2, j3⟩ := id hD
    obtain ⟨ζ', d', z1, z2⟩ := mload_ok hJ hn x2 hm c3 i2
    have hL := hR.2.1.1
    have hr2 := c3.2.1
    have hL1 := hR.1.2.1
    refine ⟨_, η, ζ', _, d', _, _, _, y1, y2, ⟨fun z k h1 h2 => ?_, ?_, ?_, ?_⟩, z1, z2⟩
    · rw [y3 _ _ (by omega) (by omega), hf.1 _ _ (by omega) (by omega), mUp_ne _ _ (by omega)]
    · rw [y3 _ _ (by omega) (by omega)]
      have := hf.2
      omega
    · rw [y3 _ _ (by omega) (by omega)]
      omega
    · rw [y3 _ _ (by omega) (by omega)]
      omega
  · obtain ⟨y1, y2⟩ := cload_fault hI hn x1 hF
    obtain ⟨ζ', z1, z2⟩ := mload_fault hJ hn x2 hm
    obtain ⟨-, hf, -, w1, w2⟩ := hF
    refine ⟨_, _, ζ', _, _, _, _, _, y1, y2, ⟨fun z k h1 h2 => ?_, ?_, ?_, ?_⟩, z1, z2⟩
    · rw [mUp_ne _ _ (by omega), hf.1 _ _ (by omega) (by omega), mUp_ne _ _ (by omega)]
    · rw [mUp_ne _ _ (by omega)]
      have := hf.2
      omega
    · rw [mUp_ne _ _ (by omega)]
      omega
    · rw [mUp_ne _ _ (by omega)]
      omega
end LOA
