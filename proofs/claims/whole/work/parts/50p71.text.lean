/-! the whole text, side by side -/
section TXS
variable {μ ξ ν ζ : Mem} {L s g U1 U2 : Int} {tx : Int → Int}
theorem Fe_of {c a : Int} (hR : Rd ν tx L a) (f : RdS μ ν) (c0 : -6 ≤ c) (c1 : c ≤ -2) (j2 : μ 0 1 ≤ U1) (j3 : μ 0 2 ≤ U2) : Fe U1 U2 g μ (fl ν c a) c a := by
  have ha := hR.2.1.1
  have hL := hR.1.2.1
  have hne : ∀ z k, z ≠ 23 → fl ν c a z k = ν z k := fun z k hz => by unfold fl; rw [mUp_ne _ _ (by omega), mUp_ne _ _ (by omega)]
  refine ⟨⟨by unfold fl; rw [mUp_ne _ _ (by omega), mUp_same], mUp_same _ _ _ _, c0, c1, by omega, by omega⟩, ⟨fun z k hz _ => by rw [hne _ _ (by omega)]; exact f z k (by omega), by rw [hne _ _ (by omega), f _ _ (by omega)]; exact Int.le_refl _⟩, ?_, by rw [hne _ _ (by omega), f _ _ (by omega)]; omega, by rw [hne _ _ (by omega), f _ _ (by omega)]; omega⟩
  show CSh (mUp (mUp ν 23 0 c) 23 1 a)
  exact (hR.1.1.up (by unfold CSt; omega)).up (by unfold CSt; omega)
theorem text_sim (htx : ∀ k, 0 ≤ tx k ∧ tx k ≤ 255) (hR : Rd μ tx L s) (hM : Md ξ tx L s) (g0 : 0 ≤ g) (g1 : g < 10) (g4 : μ 23 4 = 25 + 8 * g) (f5 : μ 23 5 = 0) (f6 : μ 23 6 = 0) (i1 : μ 23 1 = -1) (i2 : ξ 105 16 = -1) (j1 : 117 ≤ μ 0 0) (j2 : μ 0 1 ≤ U1) (j3 : μ 0 2 ≤ U2) : SimS 0 U1 U2 g μ ξ tx L s (KD 4 23 μ (CL (FX4_readPicture 23 μ) fun t114 u115 => if ¬ t114 = 0 then (LX4_read_61 FU 23 0 u115) else (RTZ 0 u115))) (FX7_readsText 105 ξ) := by
  have hp1 := hR.2.1.1
  unfold FX4_readPicture BX4_readPicture_0 FX7_readsText BX7_readsText_0
  rw [hR.1.1.k4, hR.1.1.k4, isWord_rt hR (by omega) (by omega), hM.1.1.k7]
  simp only [CL, CLX_rt]
  by_cases ew : wd tx L 0 s
  · obtain ⟨ν1, a1, r1, a3⟩ := hR.next
    obtain ⟨ζ1, b1, m1, b3, b4⟩ := (takes_rt hM (w := 0) (by omega) (by omega)).1 ew
    have hgt := nx_gt hR.2.1 (kd_2 ew.1).1
    rw [b2_t ew, if_pos (show ¬ (1 : Int) = 0 by decide), hR.1.1.k4, a1, b1]
    simp only [CLX_rt]
    rw [if_pos (show ¬ (1 : Int) = 0 by decide), r1.1.1.k4, m1.1.1.k7]
    have hF1 : RdS μ ν1 := a3.toS
    generalize nx tx L s = s1 at hgt r1 m1
    have bad : ∀ (ν : Mem) (ζ : Mem) (c a : Int), Rd ν tx L a → RdS μ ν → -6 ≤ c → c ≤ -2 → Fm ξ ζ c a → SimS 0 U1 U2 g μ ξ tx L s (CLX (RT 0 (fl ν c a)) (fun t114 u115 => if ¬ t114 = 0 then (LX4_read_61 FU 23 0 u115) else (RTZ 0 u115)) fun x v μ => some (x, v, μ)) (RT 0 ζ) := fun ν ζ c a hr hf c0 c1 hm => Or.inr ⟨_, ζ, c, a, rfl, rfl, Fe_of hr hf c0 c1 j2 j3, hm⟩
    by_cases ek : kd tx L s1 = 1
    · by_cases er : 1 ≤ num tx L s1 ∧ num tx L s1 ≤ 16
      · obtain ⟨ν2, q1, r2, q3, q4⟩ := (takeNumber_rt r1 (lo := 1) (hi := 16) (by omega) (by omega)).1 ek er
        obtain ⟨ζ2, t1, m2, t3, t4, t5⟩ := (reads_rt m1 (lo := 1) (hi := 16)).1 ek er
        have hgt2 := nx_gt r1.2.1 (kd_1 ek).1
        have hF2 : RdS μ ν2 := hF1.tr q3
        have hm2 : RmT ξ ζ2 := b3.t.tr t3
        rw [q1, t1]
        simp only [CLX_rt]
        rw [if_pos (show ¬ (1 : Int) = 0 by decide), if_pos (show ¬ (1 : Int) = 0 by decide), r2.1.1.g4_10, q4, r2.1.1.k4, m2.1.1.g7_17, t4, m2.1.1.k7]
        generalize num tx L s1 = w at er ⊢
        generalize nx tx L s1 = s2 at hgt2 r2 m2
        by_cases ek2 : kd tx L s2 = 1
        · by_cases er2 : 1 ≤ num tx L s2 ∧ num tx L s2 ≤ 12
          · obtain ⟨ν3, x1, r3, x3, x4⟩ := (takeNumber_rt r2 (lo := 1) (hi := 12) (by omega) (by omega)).1 ek2 er2
            obtain ⟨ζ3, y1, m3, y3, y4, y5⟩ := (reads_rt m2 (lo := 1) (hi := 12)).1 ek2 er2
            have hgt3 := nx_gt r2.2.1 (kd_1 ek2).1
            have hF3 : RdS μ ν3 := hF2.tr x3
            have hm3 : RmT ξ ζ3 := hm2.tr y3
            have g4' : ν3 23 4 = 25 + 8 * g := by rw [hF3 _ _ (by omega)]; exact g4
            rw [x1, y1]
            simp only [CLX_rt]
            rw [if_pos (show ¬ (1 : Int) = 0 by decide), if_pos (show ¬ (1 : Int) = 0 by decide), r3.1.1.g4_4 g4', r3.1.1.g4_10, x4, r3.1.1.k5 g0 g1, m3.1.1.g7_17, y4, m3.1.1.k7]
            generalize num tx L s2 = h at er2 ⊢
            generalize nx tx L s2 = s3 at hgt3 r3 m3
            obtain ⟨ν4, c1, c2, c3, c4, c5⟩ := empty_rt (w := w) (h := h) r3.1.1 g0 g1
            obtain ⟨ζ4, d1, d2, d3⟩ := begins_rt (w := w) (h := h) m3.1.1
            have m4 : Md ζ4 tx L s3 := m3.fr2 fun z k hk => d3 z k (by omega)
            have m5 : Md (mUp (mUp ζ4 105 21 0) 105 22 0) tx L s3 := m4.fr2 fun z k hk => by rw [mUp_ne _ _ (by omega), mUp_ne _ _ (by omega)]
            have hS5 : MSh (mUp ζ4 105 21 0) := m4.1.1.up (by unfold MSt; omega)
            have r4 : Rd ν4 tx L s3 := by
              obtain ⟨z1, z2, z3, z4, z5⟩ := r3
              exact ⟨⟨z1.1.fr fun a k hs => c5 a k (by unfold CSt at hs; omega), ⟨by rw [c5 _ _ (by omega)]; exact z1.2.1.1, by rw [c5 _ _ (by omega)]; exact z1.2.1.2.1, z1.2.1.2.2⟩, fun k k0 k1 => by rw [c5 _ _ (by omega)]; exact z1.2.2 k k0 k1⟩, z2, by rw [c5 _ _ (by omega)]; exact z3, by rw [c5 _ _ (by omega)]; exact z4, by rw [c5 _ _ (by omega)]; exact z5⟩
            rw [c1, d1]
            simp only [CLX_rt]
            rw [r4.1.1.k4, m4.1.1.z7_21 (Or.inl rfl), hS5.z7_22 (Or.inl rfl), m5.1.1.k7]
            have hrow : ∀ k, 0 ≤ k → k < 5100 → mUp (mUp ζ4 105 21 0) 105 22 0 107 k = newR w h k := fun k k0 k1 => by rw [mUp_ne _ _ (by omega), mUp_ne _ _ (by omega)]; exact d2 k k0 k1
            have hmd : MD ξ (mUp (mUp ζ4 105 21 0) 105 22 0) := fun z k hz => by rw [mUp_ne _ _ (by omega), mUp_ne _ _ (by omega), d3 _ _ (by omega)]; exact hm3 z k (by omega)
            have h16 : mUp (mUp ζ4 105 21 0) 105 22 0 105 16 = -1 := by rw [mUp_ne _ _ (by omega), mUp_ne _ _ (by omega), d3 _ _ (by omega), hm3 _ _ (by omega)]; exact i2
            have h21 : mUp (mUp ζ4 105 21 0) 105 22 0 105 21 = 0 := by rw [mUp_ne _ _ (by omega), mUp_same]
            have h22 : mUp (mUp ζ4 105 21 0) 105 22 0 105 22 = 0 := mUp_same _ _ _ _
            generalize mUp (mUp ζ4 105 21 0) 105 22 0 = ζ5 at m5 hrow hmd h16 h21 h22 ⊢
            have hn4 : ∀ z k, ¬ (z = 23 ∨ (25 + 8 * g ≤ z ∧ z ≤ 32 + 8 * g)) → ν4 z k = μ z k := fun z k hz => by rw [c5 _ _ (by omega)]; exact hF3 z k (by omega)
            have hdf : DrF g μ ν4 := ⟨fun z k hz _ => hn4 z k (by omega), by rw [hn4 _ _ (by omega)]; exact Int.le_refl _⟩
            have hDr : Dr U1 U2 ν4 ζ5 tx L s3 g := by
              have e0 : ζ5 107 0 = w := hrow 0 (by omega) (by omega)
              have e1 : ζ5 107 1 = h := hrow 1 (by omega) (by omega)
              have e2 : ζ5 107 2 = 0 := hrow 2 (by omega) (by omega)
              have e3 : ζ5 107 3 = 4 := hrow 3 (by omega) (by omega)
              have et : ∀ k, 4 ≤ k → k < 5100 → ζ5 107 k = 0 := fun k k0 k1 => by
                rw [hrow k (by omega) k1]
                unfold newR
                rw [if_neg (by omega), if_neg (by omega), if_neg (by omega)]
              refine ⟨⟨r4, m5⟩, ⟨g0, g1, by rw [c5 _ _ (by omega)]; exact g4'⟩, ⟨⟨⟨by rw [e0]; exact c2.1, by rw [e1]; exact c2.2.1, by rw [e3]; exact c2.2.2.1, by rw [e2]; exact c2.2.2.2⟩, fun x y x0 x1 y0 y1 => ?_, fun x y x0 x1 y0 y1 => ?_, fun p p0 p1 => by omega⟩, ⟨by omega, by omega, by omega, fun x y x0 x1 y0 y1 => ?_, fun p p0 p1 => by omega⟩⟩, fun k k0 k1 => et k (by omega) k1, ⟨by rw [c5 _ _ (by omega), hF3 _ _ (by omega), h21]; exact f5, by rw [c5 _ _ (by omega), hF3 _ _ (by omega), h22]; exact f6⟩, ⟨by rw [c5 _ _ (by omega), hF3 _ _ (by omega)]; exact i1, h16⟩, by rw [hn4 _ _ (by omega)]; exact j1, by rw [hn4 _ _ (by omega), e2]; omega, by rw [hn4 _ _ (by omega), e2]; omega⟩
              · rw [e0] at x1 ⊢
                rw [e1] at y1
                have hcl := cell_lt (w := w) (h := h) er.2 er2.2 x0 x1 y0 y1
                rw [c3 _ hcl.2.2.1 (by omega)]
                exact (et _ (by omega) (by omega)).symm
              · rw [e0] at x1 ⊢
                rw [e1] at y1
                have hcl := cell_lt (w := w) (h := h) er.2 er2.2 x0 x1 y0 y1
                rw [c4 _ hcl.2.2.1 (by omega)]
                refine ⟨by omega, fun p p0 p1 => ?_⟩
                rw [bt_00 p p0 (by omega), if_neg (by omega)]
              · rw [e0] at x1
                rw [e1] at y1
                unfold rT
                rw [et _ (by omega) (by omega)]
                omega
            by_cases e59 : sg tx L s3 59
            · obtain ⟨ν6, f1, f2, f3⟩ := (takeSign_rt r4 (c := 59) (by omega) (by omega)).1 e59
              obtain ⟨ζ6, p1, p2, p3⟩ := (sign_rt m5 hc_59).1 e59
              have hgt4 := nx_gt r4.2.1 (kd_3 e59.1).1
              have hL := r4.1.2.1
              have hs4 := f2.2.1.1
              rw [f1, p1]
              simp only [CLX_rt, RTZ_1]
              rw [if_pos (show ¬ (1 : Int) = 0 by decide), if_pos (show ¬ (1 : Int) = 0 by decide)]
              exact (stmts_sim htx (L - nx tx L s3).toNat.succ FU FU 0 ν6 ζ6 (nx tx L s3) (by have : FU = 20000 := rfl; omega) (by have : FU = 20000 := rfl; omega) (by omega) (Int.le_refl _) hs4.1 (hDr.t f2 p2 (by omega) f3.toS p3.t)).pre (hdf.tr (RdS.df f3.toS.f)) (hmd.tr p3.t.md) (by omega)
            · have f1 := (takeSign_rt r4 (c := 59) (by omega) (by omega)).2 e59
              obtain ⟨ζ6, p1, p2⟩ := (sign_rt m5 hc_59).2 e59
              rw [f1, p1]
              exact Or.inr ⟨_, ζ6, -2, s3, rfl, rfl, (Dr_fl hDr r4 RdS.rf (by omega) (by omega)).df hdf, p2.fm.md hmd⟩
          · have x1 := (takeNumber_rt r2 (lo := 1) (hi := 12) (by omega) (by omega)).2.1 ek2 er2
            obtain ⟨ζ3, y1, y2⟩ := (reads_rt m2 (lo := 1) (hi := 12)).2.1 ek2 er2
            rw [x1, y1]
            exact bad _ ζ3 (-3) s2 r2 hF2 (by omega) (by omega) (y2.fm.md hm2.md)
        · have x1 := (takeNumber_rt r2 (lo := 1) (hi := 12) (by omega) (by omega)).2.2 ek2
          obtain ⟨ζ3, y1, y2⟩ := (reads_rt m2 (lo := 1) (hi := 12)).2.2 ek2
          rw [x1, y1]
          exact bad _ ζ3 (-2) s2 r2 hF2 (by omega) (by omega) (y2.fm.md hm2.md)
      · have x1 := (takeNumber_rt r1 (lo := 1) (hi := 16) (by omega) (by omega)).2.1 ek er
        obtain ⟨ζ3, y1, y2⟩ := (reads_rt m1 (lo := 1) (hi := 16)).2.1 ek er
        rw [x1, y1]
        exact bad _ ζ3 (-3) s1 r1 hF1 (by omega) (by omega) (y2.fm.md b3.t.md)
    · have x1 := (takeNumber_rt r1 (lo := 1) (hi := 16) (by omega) (by omega)).2.2 ek
      obtain ⟨ζ3, y1, y2⟩ := (reads_rt m1 (lo := 1) (hi := 16)).2.2 ek
      rw [x1, y1]
      exact bad _ ζ3 (-2) s1 r1 hF1 (by omega) (by omega) (y2.fm.md b3.t.md)
  · obtain ⟨ζ1, b1, m1, b3, b4⟩ := (takes_rt hM (w := 0) (by omega) (by omega)).2 ew
    rw [b2_f ew, if_neg (show ¬ ¬ (0 : Int) = 0 from fun k => k rfl), hR.1.1.k4, fail_rt hR, b1]
    simp only [CLX_rt]
    rw [if_neg (by simp), m1.1.1.g7_14, b4, m1.1.1.k7, fails_rt m1.1]
    exact Or.inr ⟨_, _, -2, s, rfl, rfl, Fe_of hR RdS.rf (by omega) (by omega) j2 j3, (fails_me b3.t (-2) s).fm⟩
end TXS
