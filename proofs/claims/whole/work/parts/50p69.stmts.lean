/-! a statement and all of them, side by side -/
section STM
variable {μ ξ ν ζ : Mem} {L s g U1 U2 : Int} {tx : Int → Int}
theorem wd_c {w : Int} (w0 : 0 ≤ w) (w1 : w < 13) (h : wd tx L w s) : tx s = strCh w 0 := by
  have h1 := h.2.2
  have hl := strLen_le w0 w1
  rw [show (strLen w).toNat = (strLen w - 1).toNat + 1 by omega, mt] at h1
  have h2 := (Bool.and_eq_true_iff.mp h1).1
  have h3 := of_decide_eq_true h2
  rw [Int.add_zero] at h3
  exact h3
theorem ch_1 : strCh 1 0 = 116 := rfl
theorem ch_2 : strCh 2 0 = 112 := rfl
theorem ch_3 : strCh 3 0 = 105 := rfl
theorem ch_4 : strCh 4 0 = 108 := rfl
theorem SimS.z {q : Int} {Rc Rm : Rz} (h : SimS q U1 U2 g μ ξ tx L s Rc Rm) {X Y : Int → Int → Mem → Rz} : SimS q U1 U2 g μ ξ tx L s (CLX Rc (fun t u => RTZ t u) X) (CLX Rm (fun t u => RTZ t u) Y) := by
  rcases h with ⟨ν2, ζ2, s2, q1, q2, q3⟩ | ⟨ν2, ζ2, c, a, q1, q2, q3⟩
  · rw [q1, q2]
    exact Or.inl ⟨ν2, ζ2, s2, rfl, rfl, q3⟩
  · rw [q1, q2]
    exact Or.inr ⟨ν2, ζ2, c, a, rfl, rfl, q3⟩
theorem SimS.zl {q : Int} {Rc Rm : Rz} (h : SimS q U1 U2 g μ ξ tx L s Rc Rm) {X : Int → Int → Mem → Rz} : SimS q U1 U2 g μ ξ tx L s (CLX Rc (fun t u => RTZ t u) X) Rm := by
  rcases h with ⟨ν2, ζ2, s2, q1, q2, q3⟩ | ⟨ν2, ζ2, c, a, q1, q2, q3⟩
  · rw [q1, q2]
    exact Or.inl ⟨ν2, ζ2, s2, rfl, rfl, q3⟩
  · rw [q1, q2]
    exact Or.inr ⟨ν2, ζ2, c, a, rfl, rfl, q3⟩
theorem statement_sim (h : Dr U1 U2 μ ξ tx L s g) (htx : ∀ k, 0 ≤ tx k ∧ tx k ≤ 255) : SimS 1 U1 U2 g μ ξ tx L s (FX4_readStatement 23 μ) (FX7_readsStatement 105 ξ) := by
  have hR := h.1.1
  have hM := h.1.2
  have hS := hR.1.1
  obtain ⟨ζ0, a0, m0, f0, s0⟩ := here_rt hM
  have h1 := @isWord_rt_c μ L s tx hR 1 (by omega) (by omega)
  have h2 := @isWord_rt_c μ L s tx hR 2 (by omega) (by omega)
  have h3 := @isWord_rt_c μ L s tx hR 3 (by omega) (by omega)
  have h4 := @isWord_rt_c μ L s tx hR 4 (by omega) (by omega)
  unfold FX4_readStatement BX4_readStatement_0 FX7_readsStatement BX7_readsStatement_0
  rw [hM.1.1.k7, a0]
  simp only [CL, CLX_rt, hS.k4, h1, h2, h3, h4]
  rw [m0.1.1.g7_14, s0, m0.1.1.k7]
  by_cases e2 : wd tx L 2 s
  · have n1 : ¬ wd tx L 1 s := fun k => by
      have x := wd_c (by omega) (by omega) e2
      have y := wd_c (by omega) (by omega) k
      rw [ch_2] at x
      rw [ch_1] at y
      omega
    obtain ⟨ζ, k1, k2, k3, k4⟩ := (takes_rt m0 (w := 2) (by omega) (by omega)).1 e2
    rw [b2_f n1, if_pos rfl, b2_t e2, if_neg (by decide), k1]
    simp only [CLX_rt]
    rw [if_neg (by decide), k2.1.1.k7]
    exact (plate_sim h htx (kd_2 e2.1).1 k2 (f0.tr k3).t).z
  obtain ⟨ζ, k1, k2, k3, k4⟩ := (takes_rt m0 (w := 2) (by omega) (by omega)).2 e2
  rw [k1]
  simp only [CLX_rt, ↓reduceIte]
  rw [k2.1.1.k7]
  by_cases e3 : wd tx L 3 s
  · have n1 : ¬ wd tx L 1 s := fun k => by
      have x := wd_c (by omega) (by omega) e3
      have y := wd_c (by omega) (by omega) k
      rw [ch_3] at x
      rw [ch_1] at y
      omega
    obtain ⟨ζ2, q1, q2, q3, q4⟩ := (takes_rt k2 (w := 3) (by omega) (by omega)).1 e3
    rw [b2_f n1, if_pos rfl, b2_f e2, if_pos rfl, b2_t e3, if_neg (by decide), q1]
    simp only [CLX_rt]
    rw [if_neg (by decide), q2.1.1.k7]
    exact (ink_sim h htx (kd_2 e3.1).1 q2 ((f0.tr k3).tr q3).t).z
  obtain ⟨ζ2, q1, q2, q3, q4⟩ := (takes_rt k2 (w := 3) (by omega) (by omega)).2 e3
  rw [q1]
  simp only [CLX_rt, ↓reduceIte]
  rw [q2.1.1.k7]
  by_cases e1 : wd tx L 1 s
  · obtain ⟨ζ3, r1, r2, r3, r4⟩ := (takes_rt q2 (w := 1) (by omega) (by omega)).1 e1
    rw [b2_t e1, if_neg (by decide), r1]
    simp only [CLX_rt]
    rw [if_neg (by decide)]
    exact (tones_sim h (kd_2 e1.1).1 r2 (((f0.tr k3).tr q3).tr r3).t).zl
  obtain ⟨ζ3, r1, r2, r3, r4⟩ := (takes_rt q2 (w := 1) (by omega) (by omega)).2 e1
  rw [r1]
  simp only [CLX_rt, ↓reduceIte]
  rw [r2.1.1.k7, b2_f e1, if_pos rfl, b2_f e2, if_pos rfl, b2_f e3, if_pos rfl]
  by_cases e4 : wd tx L 4 s
  · obtain ⟨ζ4, t1, t2, t3, t4⟩ := (takes_rt r2 (w := 4) (by omega) (by omega)).1 e4
    rw [b2_t e4, if_neg (by decide), t1]
    simp only [CLX_rt]
    rw [if_neg (by decide)]
    exact (limit_sim h (kd_2 e4.1).1 t2 ((((f0.tr k3).tr q3).tr r3).tr t3).t).zl
  obtain ⟨ζ4, t1, t2, t3, t4⟩ := (takes_rt r2 (w := 4) (by omega) (by omega)).2 e4
  unfold BX7_readsStatement_90
  rw [t1, b2_f e4, if_pos rfl, fail_rt hR]
  simp only [CLX_rt, ↓reduceIte]
  rw [t2.1.1.k7, fails_rt t2.1]
  exact Or.inr ⟨_, _, -2, s, rfl, rfl, Dr_fl h hR RdS.rf (by omega) (by omega), (fails_me ((((f0.tr k3).tr q3).tr r3).tr t3).t (-2) s).fm⟩
theorem stmts_sim (htx : ∀ k, 0 ≤ tx k ∧ tx k ≤ 255) : ∀ (m k1 k2 : Nat) (i : Int) (μ ξ : Mem) (s : Int), m ≤ k1 → m ≤ k2 → L - s < m → 0 ≤ i → i ≤ s → Dr U1 U2 μ ξ tx L s g → SimS 0 U1 U2 g μ ξ tx L s (LX4_read_61 k1 23 i μ) (LX7_readsText_80 k2 105 ξ)
  | 0, _, _, i, μ, ξ, s, _, _, h1, _, _, hs => by
    have := hs.1.1.2.1.1
    omega
  | m + 1, 0, _, i, μ, ξ, s, h, _, _, _, _, _ => by omega
  | m + 1, _ + 1, 0, i, μ, ξ, s, _, h, _, _, _, _ => by omega
  | m + 1, k1 + 1, k2 + 1, i, μ, ξ, s, hk1, hk2, h1, i0, i1, h => by
    have hR := h.1.1
    have hM := h.1.2
    have hS := hR.1.1
    have hp1 := hR.2.1.1
    have hL := hR.1.2.1
    obtain ⟨ζ0, a0, m0, f0, s0⟩ := here_rt hM
    have h0 := h.t hR m0 (Int.le_refl _) RdS.rf f0.t
    have hdone : SimS 0 U1 U2 g μ ξ tx L s (RTZ 1 μ) (RTZ 1 ζ0) := Or.inl ⟨μ, ζ0, s, rfl, rfl, h0, by omega, DrF.rf, f0.t.md⟩
    rw [LX4_read_61, BX4_read_61, LX7_readsText_80, BX7_readsText_80, hS.g4_3, hR.1.2.1.2.1, hM.1.1.k7, a0]
    simp only [CL, CLX_rt]
    unfold BX4_read_101 BX4_read_93 BX7_readsText_104
    by_cases ek : kd tx L s = 0
    · have hc0 : hc tx L s = -1 := by
        unfold hc
        rw [if_neg (by have := kd_0 ek; omega)]
      rw [if_pos hc0]
      by_cases ei : L ≤ i
      · rw [if_pos ei]
        exact hdone
      · rw [if_neg ei, hS.g4_7, hR.2.2.2.1, if_pos ek]
        exact hdone
    · have hlt : s < L := Decidable.byContradiction fun k => ek (by unfold kd; rw [if_pos (by omega)])
      have hb := hR.1.2.2 s hp1.1 hlt
      have hc1 : ¬ hc tx L s = -1 := by
        unfold hc
        rw [if_pos hlt]
        omega
      rw [if_neg (show ¬ L ≤ i by omega), hS.g4_7, hR.2.2.2.1, if_neg ek, if_neg hc1, hS.k4, m0.1.1.k7]
      rcases (statement_sim h0 htx).pre (q' := 1) (s := s) (μ := μ) (ξ := ξ) DrF.rf f0.t.md (by omega) with ⟨ν2, ζ2, s2, q1, q2, q3, q4, q5, q6⟩ | ⟨ν2, ζ2, c, a, q1, q2, q3, q4⟩
      · rw [q1, q2]
        simp only [CLX_rt]
        rw [if_neg (by decide), if_neg (by decide), q3.1.1.1.1.k4, q3.1.2.1.1.k7]
        by_cases e59 : sg tx L s2 59
        · obtain ⟨ν3, b1, b2, b3⟩ := (takeSign_rt q3.1.1 (c := 59) (by omega) (by omega)).1 e59
          obtain ⟨ζ3, c1, c2, c3⟩ := (sign_rt q3.1.2 hc_59).1 e59
          have hgt := nx_gt q3.1.1.2.1 (kd_3 e59.1).1
          rw [b1, c1]
          simp only [CLX_rt]
          rw [if_pos (by decide), if_pos (by decide), w32_eq (by omega) (by omega)]
          exact (stmts_sim htx m k1 k2 (i + 1) ν3 ζ3 (nx tx L s2) (by omega) (by omega) (by omega) (by omega) (by omega) (q3.t b2 c2 (by omega) b3.toS c3.t)).pre (q5.tr (RdS.df b3.toS.f)) (q6.tr c3.t.md) (by omega)
        · have b1 := (takeSign_rt q3.1.1 (c := 59) (by omega) (by omega)).2 e59
          obtain ⟨ζ3, c1, c2⟩ := (sign_rt q3.1.2 hc_59).2 e59
          rw [b1, c1]
          exact Or.inr ⟨_, ζ3, -2, s2, rfl, rfl, (Dr_fl q3 q3.1.1 RdS.rf (by omega) (by omega)).df q5, c2.fm.md q6⟩
      · rw [q1, q2]
        exact Or.inr ⟨ν2, ζ2, c, a, rfl, rfl, q3, q4⟩
end STM
