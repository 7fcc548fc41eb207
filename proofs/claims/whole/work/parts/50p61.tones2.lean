/-! all lines of tones, side by side -/
section TON2
variable {μ ξ ν ζ : Mem} {L s g U1 U2 y : Int} {tx : Int → Int}
theorem SimS.pre {q q' s1 : Int} {Rc Rm : Rz} (h : SimS q U1 U2 g ν ζ tx L s1 Rc Rm) (h1 : DrF g μ ν) (h2 : MD ξ ζ) (hq : s + q' ≤ s1 + q) : SimS q' U1 U2 g μ ξ tx L s Rc Rm := by
  rcases h with ⟨ν2, ζ2, s2, q1, q2, q3, q4, q5, q6⟩ | ⟨ν2, ζ2, c, a, q1, q2, q3, q4⟩
  · exact Or.inl ⟨ν2, ζ2, s2, q1, q2, q3, by omega, h1.tr q5, h2.tr q6⟩
  · exact Or.inr ⟨ν2, ζ2, c, a, q1, q2, q3.df h1, q4.md h2⟩
/-- how many digits the reference counts -/
theorem count_rt (hM : Md ξ tx L s) (ha : ξ 105 14 = s) (hk : kd tx L s = 1) (K : Int → Int → Mem → Rz) : LX7_readsTones_35 K FU 105 y 0 ξ = BX7_readsTones_71 K 105 y (en tx L s - s) ξ := by
  obtain ⟨hS, ⟨t3, t4, t5⟩, hf, hb⟩ := id hM.1
  have hp1 := hM.2.1.1
  have hel := en_le hM.2.1
  have hkd := kd_1 hk
  have hat := run_at (lo := 48) (hi := 57) (tx := tx) (L := L) (a := s)
  rw [← hkd.2.2.2] at hat
  have hm := lp (fun n x (_ : Unit) => LX7_readsTones_35 K n 105 y x ξ) (fun _ => ()) (en tx L s - s) (BX7_readsTones_71 K 105 y (en tx L s - s) ξ) (fun n x x0 x1 => ?_) (fun n => ?_) FU 0 (Int.le_refl _) (by omega) (by rw [show ((FU : Nat) : Int) = 20000 from rfl]; omega)
  · exact hm
  · have hin := run_in (lo := 48) (hi := 57) (tx := tx) (L := L) (a := s) (k := s + x) (by omega) (by omega)
    obtain ⟨c1, c2⟩ := hb (s + x) (by omega) (by omega)
    have r3 : ¬ L ≤ s + x := by omega
    have r1 : b2 (48 ≤ tx (s + x) ∧ tx (s + x) ≤ 57) = 1 := b2_t hin
    simp (disch := omega) only [LX7_readsTones_35, BX7_readsTones_35, ↓hS.g7_0, ↓hS.g7_1, ↓hS.g7_2, ↓hS.g7_3, ↓hS.g7_4, ↓hS.g7_5, ↓hS.g7_6, ↓hS.g7_7, ↓hS.g7_8, ↓hS.g7_9, ↓hS.g7_10, ↓hS.g7_11, ↓hS.g7_12, ↓hS.g7_13, ↓hS.g7_14, ↓hS.g7_15, ↓hS.g7_16, ↓hS.g7_17, ↓hS.g7_18, ↓hS.g7_19, ↓hS.g7_20, ↓hS.g7_21, ↓hS.g7_22, ↓hS.g7_23, ↓hS.k7, ↓hS.l106, ↓hS.n106, ↓hS.l107, ↓hS.n107, ↓hS.l108, ↓hS.n108, ↓hS.l109, ↓hS.n109, ↓hS.l110, ↓hS.n110, ↓hS.l111, ↓hS.n111, ↓hS.l112, ↓hS.n112, ↓hS.l113, ↓hS.n113, ↓hS.l114, ↓hS.n114, ha, t3, c1, r3, ↓reduceIte, w32_eq, ↓CL, ↓isDigit_rt_c, r1, Int.reduceEq]
  · generalize en tx L s = e at hel hat ⊢
    have ex : s + (e - s) = e := by omega
    by_cases r3 : L ≤ e
    · simp (disch := omega) only [LX7_readsTones_35, BX7_readsTones_35, ↓hS.g7_0, ↓hS.g7_1, ↓hS.g7_2, ↓hS.g7_3, ↓hS.g7_4, ↓hS.g7_5, ↓hS.g7_6, ↓hS.g7_7, ↓hS.g7_8, ↓hS.g7_9, ↓hS.g7_10, ↓hS.g7_11, ↓hS.g7_12, ↓hS.g7_13, ↓hS.g7_14, ↓hS.g7_15, ↓hS.g7_16, ↓hS.g7_17, ↓hS.g7_18, ↓hS.g7_19, ↓hS.g7_20, ↓hS.g7_21, ↓hS.g7_22, ↓hS.g7_23, ↓hS.k7, ↓hS.l106, ↓hS.n106, ↓hS.l107, ↓hS.n107, ↓hS.l108, ↓hS.n108, ↓hS.l109, ↓hS.n109, ↓hS.l110, ↓hS.n110, ↓hS.l111, ↓hS.n111, ↓hS.l112, ↓hS.n112, ↓hS.l113, ↓hS.n113, ↓hS.l114, ↓hS.n114, ha, t3, w32_eq, ex, r3, ↓reduceIte]
    · obtain ⟨c1, c2⟩ := hb e (by omega) (by omega)
      have r1 : b2 (48 ≤ tx e ∧ tx e ≤ 57) = 0 := b2_f (by omega)
      simp (disch := omega) only [LX7_readsTones_35, BX7_readsTones_35, ↓hS.g7_0, ↓hS.g7_1, ↓hS.g7_2, ↓hS.g7_3, ↓hS.g7_4, ↓hS.g7_5, ↓hS.g7_6, ↓hS.g7_7, ↓hS.g7_8, ↓hS.g7_9, ↓hS.g7_10, ↓hS.g7_11, ↓hS.g7_12, ↓hS.g7_13, ↓hS.g7_14, ↓hS.g7_15, ↓hS.g7_16, ↓hS.g7_17, ↓hS.g7_18, ↓hS.g7_19, ↓hS.g7_20, ↓hS.g7_21, ↓hS.g7_22, ↓hS.g7_23, ↓hS.k7, ↓hS.l106, ↓hS.n106, ↓hS.l107, ↓hS.n107, ↓hS.l108, ↓hS.n108, ↓hS.l109, ↓hS.n109, ↓hS.l110, ↓hS.n110, ↓hS.l111, ↓hS.n111, ↓hS.l112, ↓hS.n112, ↓hS.l113, ↓hS.n113, ↓hS.l114, ↓hS.n114, ha, t3, w32_eq, ex, c1, r3, ↓reduceIte, ↓CL, ↓isDigit_rt_c, r1]
theorem lines_sim : ∀ (m k1 k2 : Nat) (y : Int) (μ ξ : Mem) (s : Int), Dr U1 U2 μ ξ tx L s g → 0 ≤ y → y + m = ξ 107 1 → m < k1 → m < k2 → SimS 0 U1 U2 g μ ξ tx L s (LX4_readTones_25 k1 23 y μ) (LX7_readsTones_2 k2 105 y ξ)
  | m, 0, k2, y, μ, ξ, s, h, y0, hm, h1, h2 => by omega
  | m, k1 + 1, 0, y, μ, ξ, s, h, y0, hm, h1, h2 => by omega
  | 0, k1 + 1, k2 + 1, y, μ, ξ, s, h, y0, hm, h1, h2 => by
    obtain ⟨⟨hR, hM⟩, ⟨g0, g1, g4⟩, ⟨hT, hr⟩, -⟩ := id h
    rw [LX4_readTones_25, BX4_readTones_25, LX7_readsTones_2, BX7_readsTones_2, hR.1.1.g4_4 g4, hR.1.1.g5_1 g0 g1, hT.1.2.1, if_pos (by omega), hM.1.1.g7_2, hM.1.1.l107 (by omega) (by omega), if_pos (by omega)]
    exact Or.inl ⟨μ, ξ, s, rfl, rfl, h, by omega, DrF.rf, MD.rf⟩
  | m + 1, k1 + 1, k2 + 1, y, μ, ξ, s, h, y0, hm, h1, h2 => by
    obtain ⟨⟨hR, hM⟩, ⟨g0, g1, g4⟩, ⟨hT, hr⟩, hz, ⟨e5, e6⟩, ⟨i1, i2⟩, j1, j2, j3⟩ := id h
    have hr1 := hr.1
    have hr2 := hr.2.1
    have hS := hR.1.1
    have hp1 := hR.2.1.1
    obtain ⟨ζ1, a1, m1, f1, a14⟩ := here_rt hM
    have hd := hc_d (tx := tx) (L := L) (s := s)
    rw [LX4_readTones_25, BX4_readTones_25, LX7_readsTones_2, BX7_readsTones_2, hS.g4_4 g4, hS.g5_1 g0 g1, hT.1.2.1, if_neg (by omega), hM.1.1.g7_2, hM.1.1.l107 (by omega) (by omega), if_neg (by omega), hS.g4_7, hR.2.2.2.1, hM.1.1.k7, a1]
    simp only [CL, CLX_rt]
    rw [isDigit_rt]
    simp only [CLX_rt]
    by_cases ek : kd tx L s = 1
    · rw [if_pos ek, b2_t (hd.mpr ek), if_pos (by decide), hS.g4_9, hS.g4_8, hS.g4_4 g4, hS.g5_0 g0 g1, hT.1.1, hR.2.2.1, hR.2.2.2.2, count_rt m1 a14 ek]
      have hel := en_le hR.2.1
      have hL := hR.1.2.1
      have e0 : ζ1 107 0 = ξ 107 0 := f1 _ _ (by omega)
      unfold BX7_readsTones_71
      rw [m1.1.1.g7_2, m1.1.1.l107 (by omega) (by omega), e0, w32_eq (z := en tx L s - s) (by omega) (by omega)]
      by_cases ew : en tx L s - s = ξ 107 0
      · rw [if_pos ew, if_pos ew]
        have hkd := kd_1 ek
        obtain ⟨ν2, b1, b2, b3, b4⟩ := line_rt hR ek (w := ξ 107 0) (y := y) g0 g1 g4 hT.1.1 (by omega) (by omega) y0 (by omega) ew (fun y0 y1 ν => LX4_readTones_25 k1 y0 y1 ν)
        obtain ⟨ζ2, c1, c2, c3, c4⟩ := mline_rt m1 a14 ek (w := ξ 107 0) (y := y) (by omega) (by omega) y0 (by omega) ew (fun y0 y1 ν => LX7_readsTones_2 k2 y0 y1 ν)
        rw [b1, ew, c1]
        have erow : ζ2 107 = tonR (ξ 107) tx s y := by
          funext j
          unfold tonR
          by_cases q : 4 + 16 * y ≤ j ∧ j < 4 + 16 * y + ξ 107 0
          · rw [if_pos q]
            have := c4 (j - (4 + 16 * y)) (by omega) (by omega)
            rw [show 4 + 16 * y + (j - (4 + 16 * y)) = j by omega] at this
            exact this
          · rw [if_neg q, c3 _ _ (by omega)]
            exact f1 _ _ (by omega)
        have hyw := mul_le_of (a := y) (b := ξ 107 0) (c := 11) (d := 16) y0 (by omega) (by omega) (by omega)
        have hn0 : ∀ z k, z ≠ 23 → z ≠ 27 + 8 * g → ν2 z k = μ z k := fun z k h1 h2 => b3 z k (by omega)
        have hgt := nx_gt hR.2.1 hkd.1
        have e1' : ζ2 107 1 = ξ 107 1 := by rw [c3 _ _ (by omega), f1 _ _ (by omega)]
        have e2' : ζ2 107 2 = ξ 107 2 := by rw [c3 _ _ (by omega), f1 _ _ (by omega)]
        have hb : Dr U1 U2 ν2 ζ2 tx L (nx tx L s) g := by
          refine ⟨⟨b2, c2⟩, ⟨g0, g1, by rw [b3 _ _ (by omega)]; exact g4⟩, ⟨by rw [erow]; exact tonR_sht hr hT g0 y0 (by omega) j1 g1 (fun z k hk hz' => b3 z k (by omega)) b4, by rw [erow]; exact tonR_ok hr y0 (by omega) fun x x0 x1 => run_in (lo := 48) (hi := 57) (tx := tx) (L := L) (a := s) (k := s + x) (by omega) (by omega)⟩, fun k k0 k1 => ?_, ⟨by rw [b3 _ _ (by omega), c3 _ _ (by omega), f1 _ _ (by omega)]; exact e5, by rw [b3 _ _ (by omega), c3 _ _ (by omega), f1 _ _ (by omega)]; exact e6⟩, ⟨by rw [b3 _ _ (by omega)]; exact i1, by rw [c3 _ _ (by omega), f1 _ _ (by omega)]; exact i2⟩, by rw [hn0 _ _ (by omega) (by omega)]; exact j1, by rw [hn0 _ _ (by omega) (by omega), e2']; exact j2, by rw [hn0 _ _ (by omega) (by omega), e2']; omega⟩
          rw [e2'] at k0
          rw [c3 _ _ (by omega), f1 _ _ (by omega)]
          exact hz k k0 k1
        have hdf : DrF g μ ν2 := ⟨fun z k hk _ => hn0 z k (by omega) (by omega), by rw [hn0 _ _ (by omega) (by omega)]; exact Int.le_refl _⟩
        have hmd : MD ξ ζ2 := fun z k hk => by rw [c3 _ _ (by omega)]; exact f1 z k (by omega)
        exact (lines_sim m k1 k2 (y + 1) ν2 ζ2 (nx tx L s) hb (by omega) (by omega) (by omega) (by omega)).pre hdf hmd (by omega)
      · rw [if_neg ew, if_neg ew, hS.k4, fail_rt hR, m1.1.1.g7_14, a14, m1.1.1.k7, fails_rt m1.1]
        exact Or.inr ⟨_, _, -3, s, rfl, rfl, Dr_fl h hR RdS.rf (by omega) (by omega), (fails_me f1.t (-3) s).fm⟩
    · rw [if_neg ek, b2_f (fun k => ek (hd.mp k)), if_neg (by decide), hS.k4, fail_rt hR, m1.1.1.g7_14, a14, m1.1.1.k7, fails_rt m1.1]
      exact Or.inr ⟨_, _, -2, s, rfl, rfl, Dr_fl h hR RdS.rf (by omega) (by omega), (fails_me f1.t (-2) s).fm⟩
theorem tones_sim (h : Dr U1 U2 μ ξ tx L s g) (hs : s < L) (hw : Md ζ tx L (nx tx L s)) (f2 : RmT ξ ζ) : SimS 1 U1 U2 g μ ξ tx L s (FX4_readTones 23 μ) (GF 7 21 105 ζ fun t119 => if t119 = 0 then (PZ 7 21 105 1 ζ fun u120 => KD 7 105 u120 (CL (FX7_readsTones 105 u120) fun t121 u122 => RTZ t121 u122)) else (KD 7 105 ζ (CL (FX7_fails 105 (-2) s ζ) fun t123 u124 => RTZ t123 u124))) := by
  obtain ⟨⟨hR, hM⟩, ⟨g0, g1, g4⟩, ⟨hT, hr⟩, hz, ⟨e5, e6⟩, ⟨i1, i2⟩, j1, j2, j3⟩ := id h
  have hS := hR.1.1
  have hp := hR.2.1
  have hgt := nx_gt hp hs
  have hr1 := hr.1
  unfold FX4_readTones BX4_readTones_0
  rw [hS.g4_5, hw.1.1.g7_21, f2 _ _ (by omega), ← e5]
  by_cases q : μ 23 5 = 0
  · rw [if_pos q, if_pos q, hS.z4_5 (Or.inr rfl), hw.1.1.z7_21 (Or.inr rfl)]
    have r0 : Rd (mUp μ 23 5 1) tx L s := by
      obtain ⟨a1, a2, a3, a4, a5⟩ := hR
      refine ⟨⟨a1.1.up (by unfold CSt; omega), ⟨by rw [mUp_ne _ _ (by omega)]; exact a1.2.1.1, by rw [mUp_ne _ _ (by omega)]; exact a1.2.1.2.1, a1.2.1.2.2⟩, fun k k0 k1 => by rw [mUp_ne _ _ (by omega)]; exact a1.2.2 k k0 k1⟩, a2, by rw [mUp_ne _ _ (by omega)]; exact a3, by rw [mUp_ne _ _ (by omega)]; exact a4, by rw [mUp_ne _ _ (by omega)]; exact a5⟩
    obtain ⟨ν1, k1, k2, k3⟩ := r0.next
    have m1 : Md (mUp ζ 105 21 1) tx L (nx tx L s) := hw.fr2 fun z k hk => mUp_ne _ _ (by omega)
    have e : (mUp ζ 105 21 1) 107 = ξ 107 := by
      funext k
      rw [mUp_ne _ _ (by omega)]
      exact f2 _ _ (by omega)
    rw [r0.1.1.k4, k1, m1.1.1.k7]
    simp only [CL, CLX_rt]
    have hb : Dr U1 U2 ν1 (mUp ζ 105 21 1) tx L (nx tx L s) g := by
      have hν : ∀ z k, z ≠ 23 → ν1 z k = μ z k := fun z k hk => by rw [k3 _ _ (by omega), mUp_ne _ _ (by omega)]
      refine ⟨⟨k2, m1⟩, ⟨g0, g1, by rw [k3 _ _ (by omega), mUp_ne _ _ (by omega)]; exact g4⟩, ⟨by rw [e]; exact hT.fr hr (fun a k _ _ _ => hν a k (by omega)) (fun a k _ _ => hν a k (by omega)) (by rw [hν _ _ (by omega)]; exact Int.le_refl _), by rw [e]; exact hr⟩, by rw [e]; exact hz, ⟨by rw [k3 _ _ (by omega), mUp_same, mUp_same], by rw [k3 _ _ (by omega), mUp_ne _ _ (by omega), mUp_ne _ _ (by omega), f2 _ _ (by omega)]; exact e6⟩, ⟨by rw [k3 _ _ (by omega), mUp_ne _ _ (by omega)]; exact i1, by rw [mUp_ne _ _ (by omega), f2 _ _ (by omega)]; exact i2⟩, by rw [hν _ _ (by omega)]; exact j1, by rw [hν _ _ (by omega), e]; exact j2, by rw [hν _ _ (by omega), e]; omega⟩
    have hdf : DrF g μ ν1 := ⟨fun z k hk _ => by rw [k3 _ _ (by omega), mUp_ne _ _ (by omega)], by rw [k3 _ _ (by omega), mUp_ne _ _ (by omega)]; exact Int.le_refl _⟩
    have hmd : MD ξ (mUp ζ 105 21 1) := fun z k hk => by rw [mUp_ne _ _ (by omega)]; exact f2 z k (by omega)
    have e1 : mUp ζ 105 21 1 107 1 = ξ 107 1 := by rw [e]
    generalize mUp ζ 105 21 1 = ζ1 at m1 hb hmd e1 ⊢
    have hl := lines_sim (ξ 107 1).toNat FU FU 0 ν1 ζ1 (nx tx L s) hb (Int.le_refl _) (by omega) (by show (ξ 107 1).toNat < 20000; omega) (by show (ξ 107 1).toNat < 20000; omega)
    unfold FX7_readsTones BX7_readsTones_0
    have hl2 := hl.pre (q' := 1) (s := s) hdf hmd (by omega)
    rcases hl2 with ⟨ν2, ζ2, s2, q1, q2, q3⟩ | ⟨ν2, ζ2, c, a, q1, q2, q3⟩
    · rw [q1, q2]
      exact Or.inl ⟨ν2, ζ2, s2, rfl, rfl, q3⟩
    · rw [q1, q2]
      exact Or.inr ⟨ν2, ζ2, c, a, rfl, rfl, q3⟩
  · rw [if_neg q, if_neg q, hS.k4, fail_rt hR, hw.1.1.k7, fails_rt hw.1]
    exact Or.inr ⟨_, _, -2, s, rfl, rfl, Dr_fl h hR RdS.rf (by omega) (by omega), (fails_me f2 (-2) s).fm⟩
end TON2
