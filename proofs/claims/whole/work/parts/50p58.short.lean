/-! the statements limit and ink, side by side -/
section SHO
variable {μ ξ ν ζ : Mem} {L s g U1 U2 : Int} {tx : Int → Int}
theorem Sht_lim {r : Row} (hr : okRow r) (hT : Sht μ g r) (g0 : 0 ≤ g) (g1 : g < 10) {v : Int} : Sht (mUp μ (25 + 8 * g) 2 v) g (limR r v) := by
  have hr1 := hr.1
  have hr2 := hr.2.1
  refine ⟨⟨?_, ?_, ?_, ?_⟩, fun x y x0 x1 y0 y1 => ?_, fun x y x0 x1 y0 y1 => ?_, fun p p0 p1 => ?_⟩
  · rw [mUp_ne _ _ (by omega), limR_ne (by omega), hT.1.1]
  · rw [mUp_ne _ _ (by omega), limR_ne (by omega), hT.1.2.1]
  · rw [mUp_same]; rfl
  · rw [mUp_ne _ _ (by omega), limR_ne (by omega), hT.1.2.2.2]
  · rw [limR_ne (by omega)] at x1 y1
    have : rT (limR r v) x y = rT r x y := limR_ne (by omega)
    rw [mUp_ne _ _ (by omega), limR_ne (j := 0) (by omega), this]
    exact hT.2.1 x y x0 x1 y0 y1
  · rw [limR_ne (by omega)] at x1 y1
    have h3 := hT.2.2.1 x y x0 x1 y0 y1
    rw [mUp_ne _ _ (by omega), limR_ne (j := 0) (by omega)]
    refine ⟨h3.1, fun p p0 p1 => ?_⟩
    rw [limR_ne (j := 2) (by omega), limR_o p0 (by omega)]
    exact h3.2 p p0 p1
  · rw [limR_ne (by omega)] at p1
    have hk := hr.2.2.2.2 p p0 p1
    have hcd : CdS r (limR r v) p := limR_cd p0
    obtain ⟨q1, q2, q3, q4, q5⟩ := hT.2.2.2 p p0 p1
    have h13 : rO (limR r v) p 13 = rO r p 13 := limR_o p0 (by omega)
    refine ⟨?_, ?_, ?_, fun e => ?_, fun e => ?_⟩
    · rw [mUp_ne _ _ (by omega), nmO_ext hcd hk.2.2.2.2.2.2.2.1, q1]
    · simp (disch := omega) only [mUp_ne, limR_o p0]
      exact q2
    · simp (disch := omega) only [mUp_ne, limR_o p0]
      exact q3
    · rw [h13] at e
      rw [mUp_ne _ _ (by omega), q4 e]
    · rw [h13] at e
      rw [mUp_ne _ _ (by omega)]
      exact ((q5 e).ext hcd hk.2.2.2.2.2.1.2.1).fr (fun a k a0 a1 => mUp_ne _ _ (by omega)) (by rw [mUp_ne _ _ (by omega)]; exact Int.le_refl _)
theorem Sht_fld {r r' : Row} (hr : okRow r) (hT : Sht μ g r) (g0 : 0 ≤ g) (g1 : g < 10) (hr' : FldS r r') (hν : ∀ z k, ¬ (29 + 8 * g ≤ z ∧ z ≤ 32 + 8 * g ∧ 1 ≤ k ∧ k ≤ 6) → ν z k = μ z k) (hv : ∀ p, 0 ≤ p → p < r 2 → ∀ f, 1 ≤ f → f ≤ 6 → ν (29 + 8 * g + p) f = rO r' p (f + 6)) : Sht ν g r' := by
  have hr1 := hr.1
  have hr2 := hr.2.1
  refine ⟨⟨?_, ?_, ?_, ?_⟩, fun x y x0 x1 y0 y1 => ?_, fun x y x0 x1 y0 y1 => ?_, fun p p0 p1 => ?_⟩
  · rw [hν _ _ (by omega), hr'.lo (by omega), hT.1.1]
  · rw [hν _ _ (by omega), hr'.lo (by omega), hT.1.2.1]
  · rw [hν _ _ (by omega), hr'.lo (by omega), hT.1.2.2.1]
  · rw [hν _ _ (by omega), hr'.lo (by omega), hT.1.2.2.2]
  · rw [hr'.lo (by omega)] at x1 y1
    rw [hν _ _ (by omega), hr'.lo (j := 0) (by omega), hr'.t (by omega) (by omega)]
    exact hT.2.1 x y x0 x1 y0 y1
  · rw [hr'.lo (by omega)] at x1 y1
    have h3 := hT.2.2.1 x y x0 x1 y0 y1
    rw [hν _ _ (by omega), hr'.lo (j := 0) (by omega)]
    refine ⟨h3.1, fun p p0 p1 => ?_⟩
    rw [hr'.lo (j := 2) (by omega), hr'.o p0 p1 (by omega) (by omega) (by omega)]
    exact h3.2 p p0 p1
  · rw [hr'.lo (by omega)] at p1
    obtain ⟨q1, q2, q3, q4, q5⟩ := hT.2.2.2 p p0 p1
    have hcd := hr'.cd p0 (show p < 4 by omega)
    have hk := hr.2.2.2.2 p p0 p1
    have h13 : rO r' p 13 = rO r p 13 := hcd 13 (by omega)
    refine ⟨?_, ⟨hv p p0 p1 1 (by omega) (by omega), hv p p0 p1 2 (by omega) (by omega), hv p p0 p1 3 (by omega) (by omega)⟩, ⟨hv p p0 p1 4 (by omega) (by omega), hv p p0 p1 5 (by omega) (by omega), hv p p0 p1 6 (by omega) (by omega)⟩, fun e => ?_, fun e => ?_⟩
    · rw [hν _ _ (by omega), nmO_ext hcd hk.2.2.2.2.2.2.2.1, q1]
    · rw [h13] at e
      rw [hν _ _ (by omega), q4 e]
    · rw [h13] at e
      rw [hν _ _ (by omega)]
      exact ((q5 e).ext hcd hk.2.2.2.2.2.1.2.1).fr (fun a k a0 a1 => hν a k (by omega)) (by rw [hν _ _ (by omega)]; exact Int.le_refl _)
theorem fl_me {c : Int} {ξ ζ : Mem} (h : Me ξ ζ c s) : Fm ξ ζ c s := h.fm
/-- the limit, behind its word -/
theorem limit_sim (h : Dr U1 U2 μ ξ tx L s g) (hs : s < L) (hw : Md ζ tx L (nx tx L s)) (f2 : RmT ξ ζ) : SimS 1 U1 U2 g μ ξ tx L s (FX4_readLimit 23 μ) (GF 7 22 105 ζ fun t112 => if t112 = 0 then (PZ 7 22 105 1 ζ fun u113 => KD 7 105 u113 (CL (FX7_reads 105 1 4 u113) fun t114 u115 => if ¬ t114 = 0 then (GF 7 2 105 u115 fun t116 => GF 7 17 105 u115 fun t117 => AS 1 t116 3 t117 u115 fun u118 => RTZ 1 u118) else (RTZ 0 u115))) else (BX7_readsStatement_90 105 s ζ)) := by
  obtain ⟨⟨hR, hM⟩, ⟨g0, g1, g4⟩, ⟨hT, hr⟩, hz, ⟨e5, e6⟩, ⟨i1, i2⟩, j1, j2, j3⟩ := id h
  have hS := hR.1.1
  have hp := hR.2.1
  have hgt := nx_gt hp hs
  unfold FX4_readLimit BX4_readLimit_0 BX7_readsStatement_90
  rw [hS.g4_6, hw.1.1.g7_22, f2 _ _ (by omega), ← e6]
  by_cases q : μ 23 6 = 0
  · rw [if_pos q, if_pos q, hS.z4_6 (Or.inr rfl), hw.1.1.z7_22 (Or.inr rfl)]
    have r0 : Rd (mUp μ 23 6 1) tx L s := by
      obtain ⟨a1, a2, a3, a4, a5⟩ := hR
      refine ⟨⟨a1.1.up (by unfold CSt; omega), ⟨by rw [mUp_ne _ _ (by omega)]; exact a1.2.1.1, by rw [mUp_ne _ _ (by omega)]; exact a1.2.1.2.1, a1.2.1.2.2⟩, fun k k0 k1 => by rw [mUp_ne _ _ (by omega)]; exact a1.2.2 k k0 k1⟩, a2, by rw [mUp_ne _ _ (by omega)]; exact a3, by rw [mUp_ne _ _ (by omega)]; exact a4, by rw [mUp_ne _ _ (by omega)]; exact a5⟩
    obtain ⟨ν1, k1, k2, k3⟩ := r0.next
    have m1 : Md (mUp ζ 105 22 1) tx L (nx tx L s) := hw.fr2 fun z k hk => mUp_ne _ _ (by omega)
    rw [r0.1.1.k4, k1, m1.1.1.k7]
    simp only [CL, CLX_rt]
    rw [k2.1.1.k4]
    have hb : Dr U1 U2 ν1 (mUp ζ 105 22 1) tx L (nx tx L s) g := by
      have e : (mUp ζ 105 22 1) 107 = ξ 107 := by
        funext k
        rw [mUp_ne _ _ (by omega)]
        exact f2 _ _ (by omega)
      have hν : ∀ z k, z ≠ 23 → ν1 z k = μ z k := fun z k hk => by rw [k3 _ _ (by omega), mUp_ne _ _ (by omega)]
      refine ⟨⟨k2, m1⟩, ⟨g0, g1, by rw [k3 _ _ (by omega), mUp_ne _ _ (by omega)]; exact g4⟩, ⟨by rw [e]; exact hT.fr hr (fun a k _ _ _ => hν a k (by omega)) (fun a k _ _ => hν a k (by omega)) (by rw [hν _ _ (by omega)]; exact Int.le_refl _), by rw [e]; exact hr⟩, by rw [e]; exact hz, ⟨by rw [k3 _ _ (by omega), mUp_ne _ _ (by omega), mUp_ne _ _ (by omega), f2 _ _ (by omega)]; exact e5, by rw [k3 _ _ (by omega), mUp_same, mUp_same]⟩, ⟨by rw [k3 _ _ (by omega), mUp_ne _ _ (by omega)]; exact i1, by rw [mUp_ne _ _ (by omega), f2 _ _ (by omega)]; exact i2⟩, by rw [hν _ _ (by omega)]; exact j1, by rw [hν _ _ (by omega), e]; exact j2, by rw [hν _ _ (by omega), e]; omega⟩
    have hdf : DrF g μ ν1 := ⟨fun z k hk _ => by rw [k3 _ _ (by omega), mUp_ne _ _ (by omega)], by rw [k3 _ _ (by omega), mUp_ne _ _ (by omega)]; exact Int.le_refl _⟩
    have hmd : MD ξ (mUp ζ 105 22 1) := fun z k hk => by rw [mUp_ne _ _ (by omega)]; exact f2 z k (by omega)
    generalize mUp ζ 105 22 1 = ζ1 at m1 hb hmd ⊢
    generalize nx tx L s = s1 at hgt k2 m1 hb
    by_cases ek : kd tx L s1 = 1
    · by_cases er : 1 ≤ num tx L s1 ∧ num tx L s1 ≤ 4
      · obtain ⟨ν2, q1, q2, q3, q4⟩ := (takeNumber_rt k2 (lo := 1) (hi := 4) (by omega) (by omega)).1 ek er
        obtain ⟨ζ2, t1, t2, t3, t4, t5⟩ := (reads_rt m1 (lo := 1) (hi := 4)).1 ek er
        have hgt2 := nx_gt k2.2.1 (kd_1 ek).1
        have hb2 := hb.t q2 t2 (by omega) q3 t3
        obtain ⟨-, ⟨-, -, g4'⟩, ⟨hT', hr'⟩, hz', ⟨e5', e6'⟩, ⟨i1', i2'⟩, j1', j2', j3'⟩ := id hb2
        rw [q1, t1]
        simp only [CLX_rt]
        rw [if_pos (by decide), if_pos (by decide), q2.1.1.g4_4 g4', q2.1.1.g4_10, q4, q2.1.1.p5_2 g0 g1, t2.1.1.g7_2, t2.1.1.g7_17, t4, t2.1.1.s107 (by omega) (by omega)]
        have e := mUp_107l ζ2 (num tx L s1)
        have el : ∀ j : Int, j ≠ 3 → limR (ζ2 107) (num tx L s1) j = ζ2 107 j := fun j hj => limR_ne hj
        have r3 : Rd (mUp ν2 (25 + 8 * g) 2 (num tx L s1)) tx L (nx tx L s1) := by
          obtain ⟨a1, a2, a3, a4, a5⟩ := q2
          refine ⟨⟨a1.1.up (by unfold CSt; omega), ⟨by rw [mUp_ne _ _ (by omega)]; exact a1.2.1.1, by rw [mUp_ne _ _ (by omega)]; exact a1.2.1.2.1, a1.2.1.2.2⟩, fun k k0 k1 => by rw [mUp_ne _ _ (by omega)]; exact a1.2.2 k k0 k1⟩, a2, by rw [mUp_ne _ _ (by omega)]; exact a3, by rw [mUp_ne _ _ (by omega)]; exact a4, by rw [mUp_ne _ _ (by omega)]; exact a5⟩
        refine Or.inl ⟨_, _, nx tx L s1, rfl, rfl, ⟨⟨r3, t2.fr2 fun z k hk => mUp_ne _ _ (by omega)⟩, ⟨g0, g1, by rw [mUp_ne _ _ (by omega)]; exact g4'⟩, ⟨by rw [e]; exact Sht_lim hr' hT' g0 g1, by rw [e]; exact limR_ok hr' er⟩, fun k k0 k1 => ?_, ⟨by rw [mUp_ne _ _ (by omega), mUp_ne _ _ (by omega)]; exact e5', by rw [mUp_ne _ _ (by omega), mUp_ne _ _ (by omega)]; exact e6'⟩, ⟨by rw [mUp_ne _ _ (by omega)]; exact i1', by rw [mUp_ne _ _ (by omega)]; exact i2'⟩, by rw [mUp_ne _ _ (by omega)]; exact j1', by rw [mUp_ne _ _ (by omega), mUp_ne _ _ (by omega)]; exact j2', by rw [mUp_ne _ _ (by omega), mUp_ne _ _ (by omega)]; exact j3'⟩, by omega, (hdf.tr (RdS.df q3.f)).tr ⟨fun z k hk _ => mUp_ne _ _ (by omega), by rw [mUp_ne _ _ (by omega)]; exact Int.le_refl _⟩, (hmd.tr t3.md).tr fun z k hk => mUp_ne _ _ (by omega)⟩
        have h2 := hr'.2.1
        rw [mUp_ne _ _ (by omega)] at k0
        rw [mUp_ne _ _ (by omega)]
        exact hz' k k0 k1
      · have q1 := (takeNumber_rt k2 (lo := 1) (hi := 4) (by omega) (by omega)).2.1 ek er
        obtain ⟨ζ2, t1, t2⟩ := (reads_rt m1 (lo := 1) (hi := 4)).2.1 ek er
        rw [q1, t1]
        simp only [CLX_rt]
        exact Or.inr ⟨_, ζ2, -3, s1, rfl, rfl, (Dr_fl hb k2 RdS.rf (by omega) (by omega)).df hdf, t2.fm.md hmd⟩
    · have q1 := (takeNumber_rt k2 (lo := 1) (hi := 4) (by omega) (by omega)).2.2 ek
      obtain ⟨ζ2, t1, t2⟩ := (reads_rt m1 (lo := 1) (hi := 4)).2.2 ek
      rw [q1, t1]
      simp only [CLX_rt]
      exact Or.inr ⟨_, ζ2, -2, s1, rfl, rfl, (Dr_fl hb k2 RdS.rf (by omega) (by omega)).df hdf, t2.fm.md hmd⟩
  · rw [if_neg q, if_neg q, hS.k4, fail_rt hR, hw.1.1.k7, fails_rt hw.1]
    exact Or.inr ⟨_, _, -2, s, rfl, rfl, Dr_fl h hR RdS.rf (by omega) (by omega), (fails_me f2 (-2) s).fm⟩
end SHO
