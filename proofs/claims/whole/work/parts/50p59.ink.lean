/-! the statement ink, side by side -/
section INK
variable {μ ξ ν ζ : Mem} {L s g U1 U2 : Int} {tx : Int → Int}
theorem Dr.idx (h : Dr U1 U2 μ ξ tx L s g) {v : Int} : FX5_indexOfName (25 + 8 * g) v μ = RT (fdV (ξ 107) v) μ := by
  obtain ⟨⟨hR, hM⟩, ⟨g0, g1, g4⟩, ⟨hT, hr⟩, -⟩ := h
  exact indexOf_rt hR.1.1 g0 g1 hr.2.1 hT.1.2.2.2 (fun p p0 p1 => (hT.2.2.2 p p0 p1).1)
/-- the number of a plate's ink on both sides -/
theorem ink_row {r : Row} (hr : okRow r) {p v : Int} (p0 : 0 ≤ p) (p1 : p < r 2) (hv : 0 ≤ v ∧ v ≤ 99999) : FldS r (setO r p 12 v) ∧ okRow (setO r p 12 v) := by
  have hr2 := hr.2.1
  have hf : FldS r (setO r p 12 v) := fun j hj => setO_j (hj p 12 p0 (by omega) (by omega) (by omega))
  refine ⟨hf, hf.ok hr fun q q0 q1 => ?_⟩
  have ho := (hr.2.2.2.2 q q0 q1).f
  have e : ∀ k, 7 ≤ k → k ≤ 11 → rO (setO r p 12 v) q k = rO r q k := fun k k0 k1 => setO_ne (by omega)
  refine ⟨by rw [e 7 (by omega) (by omega), e 8 (by omega) (by omega)]; exact ho.1, by rw [e 9 (by omega) (by omega)]; exact ho.2.1, by rw [e 10 (by omega) (by omega), e 11 (by omega) (by omega)]; exact ho.2.2.1, ?_⟩
  by_cases eq : q = p
  · rw [eq, setO_at]; exact hv
  · rw [setO_ne (by omega)]; exact ho.2.2.2
theorem ink_sim (h : Dr U1 U2 μ ξ tx L s g) (htx : ∀ k, 0 ≤ tx k ∧ tx k ≤ 255) (hs : s < L) (hw : Md ζ tx L (nx tx L s)) (f2 : RmT ξ ζ) : SimS 1 U1 U2 g μ ξ tx L s (FX4_readInk 23 μ) (FX7_readsInk 105 ζ) := by
  have hR := h.1.1
  have hp := hR.2.1
  have hgt := nx_gt hp hs
  obtain ⟨ν1, k1, k2, k3⟩ := hR.next
  have hb := h.t k2 hw (by omega) k3.toS f2
  have hdf : DrF g μ ν1 := RdS.df k3.toS.f
  have hmd : MD ξ ζ := f2.md
  unfold FX4_readInk BX4_readInk_0 FX7_readsInk BX7_readsInk_0
  rw [hR.1.1.k4, k1, hw.1.1.k7]
  simp only [CL, CLX_rt]
  rw [k2.1.1.k4]
  generalize nx tx L s = s1 at hgt k2 hw hb
  obtain ⟨ζ1, a1, a2, a3, a4⟩ := letters_rt hw
  have hlt := lt_2 k2.2.1
  have hel := en_le k2.2.1
  have hp1 := k2.2.1.1
  have hL := k2.1.2.1
  have hb1 := hb.t k2 a2 (Int.le_refl _) RdS.rf a3.t
  rw [a1]
  simp only [CLX_rt]
  by_cases e2 : kd tx L s1 = 2
  · obtain ⟨l1, l2⟩ := hlt.1 e2
    rw [l1, if_pos (show ¬ en tx L s1 - s1 = 0 by omega)]
    by_cases e6 : en tx L s1 - s1 ≤ 6
    · obtain ⟨⟨-, -⟩, ⟨g0, g1, g4⟩, ⟨hT, hr⟩, hz, -⟩ := id hb1
      rw [(isName_rt k2).1 e2 e6, if_pos e6]
      simp only [CLX_rt]
      rw [if_pos (by decide), k2.1.1.g4_4 g4, k2.1.1.g4_2 k2.1.2.1.1, k2.1.1.g4_8, k2.1.1.g4_9, k2.2.2.1, k2.2.2.2.2, packedHere_rt k2 htx e6]
      simp only [CLX_rt]
      rw [k2.1.1.k5 g0 g1, hb1.idx, a2.1.1.g7_14, a4, a2.1.1.k7, named_rt a2.1 hr htx hp1.1 (by omega) e6 (by omega)]
      simp only [CLX_rt]
      have hr2 := hr.2.1
      have hfd := fdV_le (r := ζ1 107) hr2.1 (v := pk (fun j => tx (s1 + j)) (en tx L s1 - s1).toNat)
      generalize fdV (ζ1 107) (pk (fun j => tx (s1 + j)) (en tx L s1 - s1).toNat) = p at hfd ⊢
      by_cases ep : 0 ≤ p
      · obtain ⟨ν2, b1, b2, b3⟩ := k2.next
        have m2 : Md (mUp ζ1 105 14 (en tx L s1)) tx L (nx tx L s1) := ⟨a2.1.fr (RmH.rf.up).t, nx_pc k2.2.1, by rw [mUp_same]; omega, by rw [mUp_same]; rfl⟩
        have f3 : RmT ζ1 (mUp ζ1 105 14 (en tx L s1)) := (RmH.rf.up).t
        have hgt2 := nx_gt k2.2.1 (kd_2 e2).1
        have hb2 := hb1.t b2 m2 (by omega) b3.toS f3
        rw [if_pos ep, if_pos (show ¬ p = -1 by omega), k2.1.1.k4, b1, a2.1.1.g7_14, a4, w32_eq (by omega) (by omega), show s1 + (en tx L s1 - s1) = en tx L s1 by omega, a2.1.1.p7_14]
        simp only [CLX_rt]
        rw [b2.1.1.k4, m2.1.1.k7]
        generalize mUp ζ1 105 14 (en tx L s1) = ζ2 at m2 f3 hb2 ⊢
        generalize nx tx L s1 = s2 at hgt2 b2 m2 hb2
        have hdf2 : DrF g μ ν2 := hdf.tr (RdS.df b3.toS.f)
        have hmd2 : MD ξ ζ2 := (hmd.tr a3.t.md).tr f3.md
        by_cases ek : kd tx L s2 = 1
        · by_cases er : 0 ≤ num tx L s2 ∧ num tx L s2 ≤ 99999
          · obtain ⟨ν3, q1, q2, q3, q4⟩ := (takeNumber_rt b2 (lo := 0) (hi := 99999) (by omega) (by omega)).1 ek er
            obtain ⟨ζ3, t1, t2, t3, t4, t5⟩ := (reads_rt m2 (lo := 0) (hi := 99999)).1 ek er
            have hgt3 := nx_gt b2.2.1 (kd_1 ek).1
            have hb3 := hb2.t q2 t2 (by omega) q3 t3
            obtain ⟨-, ⟨-, -, g4'⟩, ⟨hT', hr'⟩, hz', ⟨e5', e6'⟩, ⟨i1', i2'⟩, j1', j2', j3'⟩ := id hb3
            have e107 : ζ3 107 2 = ζ1 107 2 := by rw [t3 _ _ (by omega), f3 _ _ (by omega)]
            have hr2' := hr'.2.1
            have hp4 : p < 4 := by omega
            have eB : w32 (w32 (196 + w32 (1226 * p)) + 12) = 196 + 1226 * p + 12 := by rw [w32_eq (z := 1226 * p) (by omega) (by omega), w32_eq (z := 196 + 1226 * p) (by omega) (by omega), w32_eq (by omega) (by omega)]
            rw [q1, t1]
            simp only [CLX_rt]
            rw [if_pos (by decide), if_pos (by decide), q2.1.1.g4_4 g4', q2.1.1.g5_4 g0 g1, q2.1.1.l26 g0 g1 ep hp4, q2.1.1.g4_10, q4, q2.1.1.p1_6 g0 g1 ep hp4, t2.1.1.g7_2, t2.1.1.g7_17, t4, eB, t2.1.1.s107 (by omega) (by omega)]
            have e := mUp_107 ζ3 p 12 (num tx L s2)
            obtain ⟨hfl, hok⟩ := ink_row hr' ep (show p < ζ3 107 2 by omega) er
            have r3 : Rd (mUp ν3 (29 + 8 * g + p) 6 (num tx L s2)) tx L (nx tx L s2) := by
              obtain ⟨a1, a2, a3, a4, a5⟩ := q2
              refine ⟨⟨a1.1.up (by unfold CSt; omega), ⟨by rw [mUp_ne _ _ (by omega)]; exact a1.2.1.1, by rw [mUp_ne _ _ (by omega)]; exact a1.2.1.2.1, a1.2.1.2.2⟩, fun k k0 k1 => by rw [mUp_ne _ _ (by omega)]; exact a1.2.2 k k0 k1⟩, a2, by rw [mUp_ne _ _ (by omega)]; exact a3, by rw [mUp_ne _ _ (by omega)]; exact a4, by rw [mUp_ne _ _ (by omega)]; exact a5⟩
            refine Or.inl ⟨_, _, nx tx L s2, rfl, rfl, ⟨⟨r3, t2.fr2 fun z k hk => mUp_ne _ _ (by omega)⟩, ⟨g0, g1, by rw [mUp_ne _ _ (by omega)]; exact g4'⟩, ⟨?_, by rw [e]; exact hok⟩, fun k k0 k1 => ?_, ⟨by rw [mUp_ne _ _ (by omega), mUp_ne _ _ (by omega)]; exact e5', by rw [mUp_ne _ _ (by omega), mUp_ne _ _ (by omega)]; exact e6'⟩, ⟨by rw [mUp_ne _ _ (by omega)]; exact i1', by rw [mUp_ne _ _ (by omega)]; exact i2'⟩, by rw [mUp_ne _ _ (by omega)]; exact j1', by rw [mUp_ne _ _ (by omega), mUp_ne _ _ (by omega)]; exact j2', by rw [mUp_ne _ _ (by omega), mUp_ne _ _ (by omega)]; exact j3'⟩, by omega, (hdf2.tr (RdS.df q3.f)).tr ⟨fun z k hk _ => mUp_ne _ _ (by omega), by rw [mUp_ne _ _ (by omega)]; exact Int.le_refl _⟩, (hmd2.tr t3.md).tr fun z k hk => mUp_ne _ _ (by omega)⟩
            · rw [e]
              refine Sht_fld hr' hT' g0 g1 hfl (fun z k hk => mUp_ne _ _ (by omega)) fun q q0 q1' f f0 f1 => ?_
              have hpl := hT'.2.2.2 q q0 q1'
              by_cases eq : q = p ∧ f = 6
              · rw [eq.1, eq.2, mUp_same]
                exact (setO_at _ _ _ _).symm
              · rw [mUp_ne _ _ (by omega), setO_ne (by omega)]
                rcases (show f = 1 ∨ f = 2 ∨ f = 3 ∨ f = 4 ∨ f = 5 ∨ f = 6 by omega) with rfl | rfl | rfl | rfl | rfl | rfl
                · exact hpl.2.1.1
                · exact hpl.2.1.2.1
                · exact hpl.2.1.2.2
                · exact hpl.2.2.1.1
                · exact hpl.2.2.1.2.1
                · exact hpl.2.2.1.2.2
            · rw [mUp_ne _ _ (by omega)] at k0
              rw [mUp_ne _ _ (by omega)]
              exact hz' k k0 k1
          · have q1 := (takeNumber_rt b2 (lo := 0) (hi := 99999) (by omega) (by omega)).2.1 ek er
            obtain ⟨ζ3, t1, t2⟩ := (reads_rt m2 (lo := 0) (hi := 99999)).2.1 ek er
            rw [q1, t1]
            simp only [CLX_rt]
            exact Or.inr ⟨_, ζ3, -3, s2, rfl, rfl, (Dr_fl hb2 b2 RdS.rf (by omega) (by omega)).df hdf2, t2.fm.md hmd2⟩
        · have q1 := (takeNumber_rt b2 (lo := 0) (hi := 99999) (by omega) (by omega)).2.2 ek
          obtain ⟨ζ3, t1, t2⟩ := (reads_rt m2 (lo := 0) (hi := 99999)).2.2 ek
          rw [q1, t1]
          simp only [CLX_rt]
          exact Or.inr ⟨_, ζ3, -2, s2, rfl, rfl, (Dr_fl hb2 b2 RdS.rf (by omega) (by omega)).df hdf2, t2.fm.md hmd2⟩
      · rw [if_neg ep, if_neg (show ¬ ¬ p = -1 by omega), k2.1.1.k4, fail_rt k2, a2.1.1.g7_14, a4, a2.1.1.k7, fails_rt a2.1]
        exact Or.inr ⟨_, _, -4, s1, rfl, rfl, (Dr_fl hb k2 RdS.rf (by omega) (by omega)).df hdf, (fails_me a3.t (-4) s1).fm.md hmd⟩
    · rw [(isName_rt k2).2.1 e2 e6, if_neg e6, a2.1.1.g7_14, a4, a2.1.1.k7, fails_rt a2.1]
      exact Or.inr ⟨_, _, -3, s1, rfl, rfl, (Dr_fl hb k2 RdS.rf (by omega) (by omega)).df hdf, (fails_me a3.t (-3) s1).fm.md hmd⟩
  · rw [hlt.2 e2, (isName_rt k2).2.2 e2, if_neg (show ¬ ¬ (0 : Int) = 0 from fun k => k rfl), a2.1.1.g7_14, a4, a2.1.1.k7, fails_rt a2.1]
    exact Or.inr ⟨_, _, -2, s1, rfl, rfl, (Dr_fl hb k2 RdS.rf (by omega) (by omega)).df hdf, (fails_me a3.t (-2) s1).fm.md hmd⟩
end INK
