/-! the statement plate, side by side: its name, and all of it -/
section PLS
variable {μ ξ ν ζ : Mem} {L s g U1 U2 p n s1 : Int} {tx : Int → Int}
theorem lets_rt (hM : Md ζ tx L s1) (ha : ζ 105 14 = s1) (p0 : 0 ≤ p) (p4 : p < 4) (n1 : 1 ≤ n) (n6 : n ≤ 6) (hn : s1 + n ≤ L) : ∃ m η, LX7_readsPlate_114 FU 105 n (196 + 1226 * p) 0 ζ = LX7_readsPlate_114 (m + 1) 105 n (196 + 1226 * p) n η ∧ (∀ z k, ¬ (z = 107 ∧ 196 + 1226 * p + 1 ≤ k ∧ k < 196 + 1226 * p + 1 + n) → η z k = ζ z k) ∧ ∀ j, 0 ≤ j → j < n → η 107 (196 + 1226 * p + 1 + j) = tx (s1 + j) := by
  have hp1 := hM.2.1.1
  have hL := hM.1.2.1
  refine lpR (fun m x η => LX7_readsPlate_114 m 105 n (196 + 1226 * p) x η) (fun x η => 0 ≤ x ∧ (∀ z k, ¬ (z = 107 ∧ 196 + 1226 * p + 1 ≤ k ∧ k < 196 + 1226 * p + 1 + x) → η z k = ζ z k) ∧ ∀ j, 0 ≤ j → j < x → η 107 (196 + 1226 * p + 1 + j) = tx (s1 + j)) n (fun R => ∃ m η, R = LX7_readsPlate_114 (m + 1) 105 n (196 + 1226 * p) n η ∧ (∀ z k, ¬ (z = 107 ∧ 196 + 1226 * p + 1 ≤ k ∧ k < 196 + 1226 * p + 1 + n) → η z k = ζ z k) ∧ ∀ j, 0 ≤ j → j < n → η 107 (196 + 1226 * p + 1 + j) = tx (s1 + j)) (fun m x η x1 hs => ?_) (fun m η hs => ⟨m, η, rfl, hs.2.1, hs.2.2⟩) FU 0 ζ (by omega) (by rw [show ((FU : Nat) : Int) = 20000 from rfl]; omega) ⟨Int.le_refl _, fun _ _ _ => rfl, fun j j0 j1 => by omega⟩
  obtain ⟨x0, hf, hv⟩ := hs
  have hS : MSh η := hM.1.1.fr fun a k hs => hf a k (by unfold MSt at hs; omega)
  have q : η 113 (s1 + x) = tx (s1 + x) := by
    rw [hf _ _ (by omega)]
    exact (hM.1.2.2.2 (s1 + x) (by omega) (by omega)).1
  have h14 : η 105 14 = s1 := by rw [hf _ _ (by omega)]; exact ha
  have r1 : ¬ n ≤ x := by omega
  have ei : w32 (w32 (196 + 1226 * p + 1) + x) = 196 + 1226 * p + 1 + x := by rw [w32_eq (z := 196 + 1226 * p + 1) (by omega) (by omega), w32_eq (by omega) (by omega)]
  refine ⟨mUp η 107 (196 + 1226 * p + 1 + x) (tx (s1 + x)), ⟨by omega, fun z k hz => by rw [mUp_ne _ _ (by omega)]; exact hf z k (by omega), fun j j0 j1 => ?_⟩, ?_⟩
  · by_cases e : j = x
    · rw [e, mUp_same]
    · rw [mUp_ne _ _ (by omega)]
      exact hv j j0 (by omega)
  · simp (disch := omega) only [LX7_readsPlate_114, BX7_readsPlate_114, ↓hS.g7_0, ↓hS.g7_1, ↓hS.g7_2, ↓hS.g7_3, ↓hS.g7_4, ↓hS.g7_5, ↓hS.g7_6, ↓hS.g7_7, ↓hS.g7_8, ↓hS.g7_9, ↓hS.g7_10, ↓hS.g7_11, ↓hS.g7_12, ↓hS.g7_13, ↓hS.g7_14, ↓hS.g7_15, ↓hS.g7_16, ↓hS.g7_17, ↓hS.g7_18, ↓hS.g7_19, ↓hS.g7_20, ↓hS.g7_21, ↓hS.g7_22, ↓hS.g7_23, ↓hS.k7, ↓hS.l106, ↓hS.n106, ↓hS.l107, ↓hS.n107, ↓hS.l108, ↓hS.n108, ↓hS.l109, ↓hS.n109, ↓hS.l110, ↓hS.n110, ↓hS.l111, ↓hS.n111, ↓hS.l112, ↓hS.n112, ↓hS.l113, ↓hS.n113, ↓hS.l114, ↓hS.n114, h14, r1, ↓reduceIte, w32_eq (z := s1 + x), q, ei, ↓hS.p7_0, ↓hS.z7_0, ↓hS.p7_3, ↓hS.z7_3, ↓hS.p7_4, ↓hS.z7_4, ↓hS.p7_10, ↓hS.z7_10, ↓hS.p7_12, ↓hS.z7_12, ↓hS.p7_13, ↓hS.z7_13, ↓hS.p7_14, ↓hS.z7_14, ↓hS.p7_15, ↓hS.z7_15, ↓hS.p7_16, ↓hS.z7_16, ↓hS.p7_17, ↓hS.z7_17, ↓hS.p7_18, ↓hS.z7_18, ↓hS.p7_19, ↓hS.z7_19, ↓hS.p7_20, ↓hS.z7_20, ↓hS.p7_21, ↓hS.z7_21, ↓hS.p7_22, ↓hS.z7_22, ↓hS.s106, ↓hS.s107, ↓hS.s108, ↓hS.s109, ↓hS.s110, ↓hS.s111, ↓hS.s112, ↓hS.s113, ↓hS.s114, w32_eq (z := x + 1)]
theorem plate_sim (h : Dr U1 U2 μ ξ tx L s g) (htx : ∀ k, 0 ≤ tx k ∧ tx k ≤ 255) (hs : s < L) (hw : Md ζ tx L (nx tx L s)) (f2 : RmT ξ ζ) : SimS 1 U1 U2 g μ ξ tx L s (FX4_readPlate 23 μ) (FX7_readsPlate 105 s ζ) := by
  obtain ⟨⟨hR, hM⟩, ⟨g0, g1, g4⟩, ⟨hT, hr⟩, hz, -⟩ := id h
  have hS := hR.1.1
  have hp := hR.2.1
  have hgt := nx_gt hp hs
  have hr2 := hr.2.1
  have hmd : MD ξ ζ := f2.md
  have z2 : ζ 107 2 = ξ 107 2 := f2 _ _ (by omega)
  unfold FX4_readPlate BX4_readPlate_0 FX7_readsPlate BX7_readsPlate_0
  rw [hS.g4_4 g4, hS.g5_3 g0 g1, hT.1.2.2.2, hw.1.1.g7_2, hw.1.1.l107 (by omega) (by omega), z2]
  by_cases e4 : ξ 107 2 < 4
  · rw [if_pos e4, if_pos (show ¬ ξ 107 2 = 4 by omega)]
    obtain ⟨ν1, k1, k2, k3⟩ := hR.next
    have hb := h.t k2 hw (by omega) k3.toS f2
    have hdf : DrF g μ ν1 := RdS.df k3.toS.f
    rw [hR.1.1.k4, k1, hw.1.1.k7]
    simp only [CL, CLX_rt]
    rw [k2.1.1.k4]
    generalize nx tx L s = s1 at hgt k2 hw hb
    obtain ⟨ζ1, a1, a2, a3, a4⟩ := letters_rt hw
    have hlt := lt_2 k2.2.1
    have hel := en_le k2.2.1
    have hp1 := k2.2.1.1
    have hL := k2.1.2.1
    have hb1 := hb.t k2 a2 (Int.le_refl _) RdS.rf a3.t
    rw [a1]
    simp only [CLX_rt]
    by_cases e2 : kd tx L s1 = 2
    · obtain ⟨l1, l2⟩ := hlt.1 e2
      rw [l1, if_pos (show ¬ en tx L s1 - s1 = 0 by omega)]
      by_cases e6 : en tx L s1 - s1 ≤ 6
      · obtain ⟨⟨-, -⟩, ⟨-, -, g4'⟩, ⟨hT1, hr1⟩, hz1, -⟩ := id hb1
        have z21 : ζ1 107 2 = ξ 107 2 := by rw [a3 _ _ (by omega), z2]
        rw [(isName_rt k2).1 e2 e6, if_pos e6]
        simp only [CLX_rt]
        rw [if_pos (by decide), k2.1.1.g4_2 k2.1.2.1.1, k2.1.1.g4_8, k2.1.1.g4_9, k2.2.2.1, k2.2.2.2.2, packedHere_rt k2 htx e6]
        simp only [CLX_rt]
        rw [k2.1.1.g4_4 g4', k2.1.1.k5 g0 g1, hb1.idx, a2.1.1.g7_14, a4, a2.1.1.k7, named_rt a2.1 hr1 htx hp1.1 (by omega) e6 (by omega)]
        simp only [CLX_rt]
        have hfd := fdV_le (r := ζ1 107) hr1.2.1.1 (v := pk (fun j => tx (s1 + j)) (en tx L s1 - s1).toNat)
        generalize fdV (ζ1 107) (pk (fun j => tx (s1 + j)) (en tx L s1 - s1).toNat) = q at hfd ⊢
        by_cases ep : q = -1
        · obtain ⟨ν2, b1, b2, b3⟩ := k2.next
          have hgt2 := nx_gt k2.2.1 (kd_2 e2).1
          have hkd := kd_2 e2
          rw [if_pos (show q < 0 by omega), if_pos ep, k2.1.1.k4, b1]
          simp only [CLX_rt]
          have p0 := hr2.1
          generalize hpp : ξ 107 2 = p at *
          have hS2 : MSh (mUp ζ1 105 19 p) := a2.1.1.up (by unfold MSt; omega)
          have hM3 : Md (mUp (mUp ζ1 105 19 p) 107 (196 + 1226 * p) (en tx L s1 - s1)) tx L s1 := a2.fr2 fun z k hk => by rw [mUp_ne _ _ (by omega), mUp_ne _ _ (by omega)]
          have eB : w32 (196 + w32 (1226 * p)) = 196 + 1226 * p := by rw [w32_eq (z := 1226 * p) (by omega) (by omega), w32_eq (by omega) (by omega)]
          have g19 : mUp ζ1 105 19 p 105 19 = p := mUp_same _ _ _ _
          rw [a2.1.1.g7_2, a2.1.1.l107 (by omega) (by omega), z21, a2.1.1.p7_19, hS2.g7_19, g19, LT_eq, eB, hS2.g7_2, Int.add_zero, w32_eq (z := 196 + 1226 * p) (by omega) (by omega), hS2.s107 (by omega) (by omega)]
          have g14 : mUp (mUp ζ1 105 19 p) 107 (196 + 1226 * p) (en tx L s1 - s1) 105 14 = s1 := by rw [mUp_ne _ _ (by omega), mUp_ne _ _ (by omega)]; exact a4
          obtain ⟨m, η, c1, c2, c3⟩ := lets_rt (n := en tx L s1 - s1) hM3 g14 p0 e4 (by omega) e6 (by omega)
          have hMη : Mt η tx L := by
            obtain ⟨y1, ⟨y2, y4⟩, y3, y5⟩ := hM3.1
            exact ⟨y1.fr fun a k hs => c2 a k (by unfold MSt at hs; omega), ⟨by rw [c2 _ _ (by omega)]; exact y2, y4⟩, by rw [c2 _ _ (by omega)]; exact y3, fun k k0 k1 => by rw [c2 _ _ (by omega)]; exact y5 k k0 k1⟩
          have h14 : η 105 14 = s1 := by rw [c2 _ _ (by omega)]; exact g14
          have hM5 : Md (mUp η 105 14 (en tx L s1)) tx L (nx tx L s1) := ⟨hMη.fr (RmH.rf.up).t, nx_pc k2.2.1, by rw [mUp_same]; omega, by rw [mUp_same]; rfl⟩
          rw [c1, LX7_readsPlate_114, BX7_readsPlate_114, if_pos (Int.le_refl _), hMη.1.g7_14, h14, w32_eq (z := s1 + (en tx L s1 - s1)) (by omega) (by omega), show s1 + (en tx L s1 - s1) = en tx L s1 by omega, hMη.1.p7_14]
          have hmE : PF' p ξ (mUp η 105 14 (en tx L s1)) := (f2.pf.tr a3.t.pf).tr fun z k hk => by rw [mUp_ne _ _ (by omega), c2 _ _ (by omega), mUp_ne _ _ (by omega), mUp_ne _ _ (by omega)]
          refine plate_nums (p := p) (ζ := mUp η 105 14 (en tx L s1)) (n := en tx L s1 - s1) (s1 := s1) h hpp.symm e4 b2 hM5 (by omega) (k3.toS.tr b3.toS) hmE ?_ ?_ (fun j j0 j1 => ?_) (fun k k0 k1 => ?_) (by omega) e6 (fun j j0 j1 => run_in (lo := 97) (hi := 122) (tx := tx) (L := L) (a := s1) (k := s1 + j) (by omega) (by omega)) rfl
          · rw [mUp_ne _ _ (by omega), c2 _ _ (by omega), mUp_ne _ _ (by omega)]; exact g19
          · unfold rO
            rw [mUp_ne _ _ (by omega), c2 _ _ (by omega), Int.add_zero, mUp_same]
          · unfold rO
            rw [mUp_ne _ _ (by omega), show 196 + 1226 * p + (1 + j) = 196 + 1226 * p + 1 + j by omega]
            exact c3 j j0 j1
          · unfold rO
            rw [mUp_ne _ _ (by omega), c2 _ _ (by omega), mUp_ne _ _ (by omega), mUp_ne _ _ (by omega), a3 _ _ (by omega), f2 _ _ (by omega)]
            exact hz _ (by omega) (by omega)
        · rw [if_neg (show ¬ q < 0 by omega), if_neg ep, k2.1.1.k4, fail_rt k2, a2.1.1.g7_14, a4, a2.1.1.k7, fails_rt a2.1]
          exact Or.inr ⟨_, _, -4, s1, rfl, rfl, (Dr_fl hb k2 RdS.rf (by omega) (by omega)).df hdf, (fails_me a3.t (-4) s1).fm.md hmd⟩
      · rw [(isName_rt k2).2.1 e2 e6, if_neg e6, a2.1.1.g7_14, a4, a2.1.1.k7, fails_rt a2.1]
        exact Or.inr ⟨_, _, -3, s1, rfl, rfl, (Dr_fl hb k2 RdS.rf (by omega) (by omega)).df hdf, (fails_me a3.t (-3) s1).fm.md hmd⟩
    · rw [hlt.2 e2, (isName_rt k2).2.2 e2, if_neg (show ¬ ¬ (0 : Int) = 0 from fun k => k rfl), a2.1.1.g7_14, a4, a2.1.1.k7, fails_rt a2.1]
      exact Or.inr ⟨_, _, -2, s1, rfl, rfl, (Dr_fl hb k2 RdS.rf (by omega) (by omega)).df hdf, (fails_me a3.t (-2) s1).fm.md hmd⟩
  · have e5 : ξ 107 2 = 4 := by omega
    rw [if_neg e4, if_neg (show ¬ ¬ ξ 107 2 = 4 from fun k => k e5), hS.k4, fail_rt hR, hw.1.1.k7, fails_rt hw.1]
    exact Or.inr ⟨_, _, -5, s, rfl, rfl, Dr_fl h hR RdS.rf (by omega) (by omega), (fails_me f2 (-5) s).fm⟩
end PLS
