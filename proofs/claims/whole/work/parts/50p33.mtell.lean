/-! the reference's counts and sums -/
def LzP (μ ν : Mem) (c u : Int) (h : Int → Row) : Prop := LzFr μ ν ∧ Mc ν c u h ∧ Laid ν (h 0) ∧ ν 105 10 = 1
section MTL
variable {μ : Mem} {c u p : Int} {h : Int → Row}
theorem LzP.fl {ν : Mem} (hz : LzP μ ν c u h) : MFl ν (h 0) := Or.inr ⟨hz.2.2.2, hz.2.2.1⟩
theorem LzP.tr {ν ξ : Mem} (h1 : LzP μ ν c u h) (h2 : LzP ν ξ c u h) : LzP μ ξ c u h := ⟨fun z k hz => by rw [h2.1 z k hz, h1.1 z k hz], h2.2⟩
/-- what the reference's tellers leave behind -/
def TlP (μ ν : Mem) (c u : Int) (h : Int → Row) : Prop := LzFr μ ν ∧ Mc ν c u h ∧ MFl ν (h 0) ∧ (μ 105 10 = 1 → ν 105 10 = 1)
theorem TlP.rf (hc : Mc μ c u h) (hl : MFl μ (h 0)) : TlP μ μ c u h := ⟨fun _ _ _ => rfl, hc, hl, fun e => e⟩
theorem LzP.tl {ν : Mem} (hz : LzP μ ν c u h) : TlP μ ν c u h := ⟨hz.1, hz.2.1, hz.fl, fun _ => hz.2.2.2⟩
theorem TlP.tr {ν ξ : Mem} (h1 : TlP μ ν c u h) (h2 : TlP ν ξ c u h) : TlP μ ξ c u h := ⟨fun z k hz => (h2.1 z k hz).trans (h1.1 z k hz), h2.2.1, h2.2.2.1, fun e => h2.2.2.2 (h1.2.2.2 e)⟩
theorem lays_p (hc : Mc μ c u h) (hl : MFl μ (h 0)) : ∃ ν, FX7_lays 105 μ = RT 0 ν ∧ LzP μ ν c u h := by
  obtain ⟨ν, e, a, b, d, f⟩ := lays_rt hc hl
  exact ⟨ν, e, a, b, d, f⟩
theorem mdots_rt (hc : Mc μ c u h) (hl : MFl μ (h 0)) : ∃ ν, FX7_dots 105 p μ = RT (dotsOf (h 0) p) ν ∧ LzP μ ν c u h := by
  obtain ⟨ν, e, hz⟩ := lays_p hc hl
  refine ⟨ν, ?_, hz⟩
  have hc2 := hz.2.1
  have k7 := @MSh.k7 ν hc2.1
  have hr1 := hc.ok.1
  unfold FX7_dots BX7_dots_0 dotsOf
  rw [hc.1.k7, e]
  simp only [CL, ↓CLX_rt]
  refine dblS (fun n y0 y1 y2 y3 ξ => LX7_dots_8 n y0 y1 y2 y3 ξ) (fun k s y => k 105 p s y ν) (fun k n s y x => LX7_dots_19 k n 105 p s y x ν) (h 0 0) (h 0 1) 1 (fun x y => b2 (dotAt (h 0) p x y)) (fun v => RT v ν) (by omega) (by omega) (by omega) (by omega) (by omega) (fun x y _ _ _ _ => b2_0) (fun n s y y0 y1 => ?_) (fun n s => ?_) (fun k n s y x y0 y1 x0 x1 s0 s1 g0 g1 => ?_) (fun k n s y y0 y1 => ?_) FU (by rw [show ((FU : Nat) : Int) = 20000 from rfl]; omega)
  · have hy : ¬ h 0 1 ≤ y := by omega
    simp (disch := omega) only [LX7_dots_8, BX7_dots_8, ↓k7, ↓CL, ↓high_rt_c hc2, hy, ↓reduceIte]
  · simp (disch := omega) only [LX7_dots_8, BX7_dots_8, ↓k7, ↓CL, ↓high_rt_c hc2, Int.le_refl, ↓reduceIte]
  · have hx : ¬ h 0 0 ≤ x := by omega
    simp (disch := omega) only [LX7_dots_19, BX7_dots_19, BX7_dots_45, ↓k7, ↓CL, ↓wide_rt_c hc2, hx, ↓reduceIte, ↓mhasDot_rt_c hc2 hz.2.2.1.1, ↓LT_eq, w32_eq]
    by_cases hs : dotAt (h 0) p x y
    · rw [b2_t hs, if_neg (by decide)]
    · rw [b2_f hs, if_pos rfl]
  · simp (disch := omega) only [LX7_dots_19, BX7_dots_19, ↓k7, ↓CL, ↓wide_rt_c hc2, Int.le_refl, ↓reduceIte, w32_eq]
theorem mspots_rt (hc : Mc μ c u h) (hl : MFl μ (h 0)) : ∃ ν, FX7_spots 105 p μ = RT (spotsO (h 0) p) ν ∧ LzP μ ν c u h := by
  obtain ⟨ν, e, hz⟩ := lays_p hc hl
  refine ⟨ν, ?_, hz⟩
  have hc2 := hz.2.1
  have k7 := @MSh.k7 ν hc2.1
  have hr1 := hc.ok.1
  unfold FX7_spots BX7_spots_0 spotsO
  rw [hc.1.k7, e]
  simp only [CL, ↓CLX_rt]
  refine dblS (fun n y0 y1 y2 y3 ξ => LX7_spots_8 n y0 y1 y2 y3 ξ) (fun k s y => k 105 p s y ν) (fun k n s y x => LX7_spots_19 k n 105 p s y x ν) (h 0 0) (h 0 1) 1 (fun x y => b2 (spotAt (h 0) p x y)) (fun v => RT v ν) (by omega) (by omega) (by omega) (by omega) (by omega) (fun x y _ _ _ _ => b2_0) (fun n s y y0 y1 => ?_) (fun n s => ?_) (fun k n s y x y0 y1 x0 x1 s0 s1 g0 g1 => ?_) (fun k n s y y0 y1 => ?_) FU (by rw [show ((FU : Nat) : Int) = 20000 from rfl]; omega)
  · have hy : ¬ h 0 1 ≤ y := by omega
    simp (disch := omega) only [LX7_spots_8, BX7_spots_8, ↓k7, ↓CL, ↓high_rt_c hc2, hy, ↓reduceIte]
  · simp (disch := omega) only [LX7_spots_8, BX7_spots_8, ↓k7, ↓CL, ↓high_rt_c hc2, Int.le_refl, ↓reduceIte]
  · have hx : ¬ h 0 0 ≤ x := by omega
    simp (disch := omega) only [LX7_spots_19, BX7_spots_19, BX7_spots_45, ↓k7, ↓CL, ↓wide_rt_c hc2, hx, ↓reduceIte, ↓mspot_rt_c hc2 hz.2.2.1.1, ↓LT_eq, w32_eq]
    by_cases hs : spotAt (h 0) p x y
    · rw [b2_t hs, if_neg (by decide)]
    · rw [b2_f hs, if_pos rfl]
  · simp (disch := omega) only [LX7_spots_19, BX7_spots_19, ↓k7, ↓CL, ↓wide_rt_c hc2, Int.le_refl, ↓reduceIte, w32_eq]
theorem cellsOf_rt (hc : Mc μ c u h) (hl : MFl μ (h 0)) {n : Int} : ∃ ν, FX7_cellsOf 105 n μ = RT (having (h 0) n) ν ∧ LzP μ ν c u h := by
  obtain ⟨ν, e, hz⟩ := lays_p hc hl
  refine ⟨ν, ?_, hz⟩
  have hc2 := hz.2.1
  have hS2 := hc2.1
  have k7 := @MSh.k7 ν hc2.1
  have hr1 := hc.ok.1
  unfold FX7_cellsOf BX7_cellsOf_0 having
  rw [hc.1.k7, e]
  simp only [CL, ↓CLX_rt]
  refine dblS (fun m y0 y1 y2 y3 ξ => LX7_cellsOf_8 m y0 y1 y2 y3 ξ) (fun k s y => k 105 n s y ν) (fun k m s y x => LX7_cellsOf_19 k m 105 n s y x ν) (h 0 0) (h 0 1) 1 (fun x y => b2 (bc (ikA (h 0) x y) = n)) (fun v => RT v ν) (by omega) (by omega) (by omega) (by omega) (by omega) (fun x y _ _ _ _ => b2_0) (fun m s y y0 y1 => ?_) (fun m s => ?_) (fun k m s y x y0 y1 x0 x1 s0 s1 g0 g1 => ?_) (fun k m s y y0 y1 => ?_) FU (by rw [show ((FU : Nat) : Int) = 20000 from rfl]; omega)
  · have hy : ¬ h 0 1 ≤ y := by omega
    simp (disch := omega) only [LX7_cellsOf_8, BX7_cellsOf_8, ↓k7, ↓CL, ↓high_rt_c hc2, hy, ↓reduceIte]
  · simp (disch := omega) only [LX7_cellsOf_8, BX7_cellsOf_8, ↓k7, ↓CL, ↓high_rt_c hc2, Int.le_refl, ↓reduceIte]
  · have hx : ¬ h 0 0 ≤ x := by omega
    have hv := hz.2.2.1.1 x y x0 x1 y0 y1
    have h16 := ikA_16 hc.ok x y
    have ec : w32 (w32 (16 * y) + x) = 16 * y + x := by rw [w32_eq (z := 16 * y) (by omega) (by omega), w32_eq (by omega) (by omega)]
    simp (disch := omega) only [LX7_cellsOf_19, BX7_cellsOf_19, BX7_cellsOf_53, ↓k7, ↓CL, ↓wide_rt_c hc2, hx, ↓reduceIte, ↓hS2.g7_9]
    rw [ec, hS2.l112 (by omega) (by omega), hv, bits_rt h16.1 (by omega)]
    simp (disch := omega) only [↓CLX_rt, ↓LT_eq, w32_eq]
    by_cases hs : bc (ikA (h 0) x y) = n
    · rw [b2_t hs, if_neg (fun k => k hs)]
    · rw [b2_f hs, if_pos hs]
  · simp (disch := omega) only [LX7_cellsOf_19, BX7_cellsOf_19, ↓k7, ↓CL, ↓wide_rt_c hc2, Int.le_refl, ↓reduceIte, w32_eq]
theorem msumOn_rt (hc : Mc μ c u h) (hl : MFl μ (h 0)) (hp : isPl (h 0) p) : ∃ ν, FX7_sumOn 105 p μ = RT (sumOn (h 0) p) ν ∧ LzP μ ν c u h := by
  obtain ⟨ν, e, hz⟩ := lays_p hc hl
  refine ⟨ν, ?_, hz⟩
  have hc2 := hz.2.1
  have hS2 := hc2.1
  have k7 := @MSh.k7 ν hc2.1
  have hr1 := hc.ok.1
  have hr2 := hc.ok.2.1
  unfold FX7_sumOn BX7_sumOn_0 sumOn
  rw [hc.1.k7, e]
  simp only [CL, ↓CLX_rt]
  refine dblS (fun m y0 y1 y2 y3 ξ => LX7_sumOn_8 m y0 y1 y2 y3 ξ) (fun k s y => k 105 p s y ν) (fun k m s y x => LX7_sumOn_19 k m 105 p s y x ν) (h 0 0) (h 0 1) 100 (fun x y => tnOn (h 0) p x y) (fun v => RT v ν) (by omega) (by omega) (by omega) (by omega) (by omega) (fun x y x0 x1 y0 y1 => tnOn_le hc.ok x0 x1 y0 y1) (fun m s y y0 y1 => ?_) (fun m s => ?_) (fun k m s y x y0 y1 x0 x1 s0 s1 g0 g1 => ?_) (fun k m s y y0 y1 => ?_) FU (by rw [show ((FU : Nat) : Int) = 20000 from rfl]; omega)
  · have hy : ¬ h 0 1 ≤ y := by omega
    simp (disch := omega) only [LX7_sumOn_8, BX7_sumOn_8, ↓k7, ↓CL, ↓high_rt_c hc2, hy, ↓reduceIte]
  · simp (disch := omega) only [LX7_sumOn_8, BX7_sumOn_8, ↓k7, ↓CL, ↓high_rt_c hc2, Int.le_refl, ↓reduceIte]
  · have hx : ¬ h 0 0 ≤ x := by omega
    have hv := hz.2.2.1.2.2 p hp.1 hp.2 x y x0 x1 y0 y1
    have ec : w32 (w32 (w32 (192 * p) + w32 (16 * y)) + x) = 192 * p + (16 * y + x) := by rw [w32_eq (z := 192 * p) (by omega) (by omega), w32_eq (z := 16 * y) (by omega) (by omega), w32_eq (z := 192 * p + 16 * y) (by omega) (by omega), w32_eq (by omega) (by omega)]; omega
    simp (disch := omega) only [LX7_sumOn_19, BX7_sumOn_19, ↓k7, ↓CL, ↓wide_rt_c hc2, hx, ↓reduceIte, ↓hS2.g7_8]
    rw [ec, hS2.l111 (by omega) (by omega), hv]
    simp (disch := omega) only [↓LT_eq, w32_eq]
  · simp (disch := omega) only [LX7_sumOn_19, BX7_sumOn_19, ↓k7, ↓CL, ↓wide_rt_c hc2, Int.le_refl, ↓reduceIte, w32_eq]
theorem allDots_rt (hc : Mc μ c u h) (hl : MFl μ (h 0)) : ∃ ν, FX7_allDots 105 μ = RT (dotsAll (h 0)) ν ∧ TlP μ ν c u h := by
  have hr2 := hc.ok.2.1
  unfold FX7_allDots BX7_allDots_0
  refine lpR (fun n x (s : Int × Mem) => LX7_allDots_4 n 105 s.1 x s.2) (fun x s => 0 ≤ x ∧ s.1 = su (fun p => dotsOf (h 0) p) x ∧ TlP μ s.2 c u h) (h 0 2) (fun R => ∃ ν, R = RT (dotsAll (h 0)) ν ∧ TlP μ ν c u h) (fun n x s x1 hs => ?_) (fun n s hs => ?_) FU 0 (0, μ) hr2.1 (by rw [show ((FU : Nat) : Int) = 20000 from rfl]; omega) ⟨Int.le_refl _, rfl, TlP.rf hc hl⟩
  · obtain ⟨sm, s⟩ := s
    obtain ⟨x0, g1, g2⟩ := hs
    have g1 : sm = su (fun p => dotsOf (h 0) p) x := g1
    have g2 : TlP μ s c u h := g2
    have g3 := g2.2.1
    obtain ⟨ν, e, hz⟩ := mdots_rt (p := x) g3 g2.2.2.1
    have k7 := @MSh.k7 s g3.1
    have hx : ¬ h 0 2 ≤ x := by omega
    have hb := su_le (f := fun p => dotsOf (h 0) p) (n := x) (B := 192) x0 fun i _ _ => dotsOf_le hc.ok i
    have hd := dotsOf_le hc.ok x
    refine ⟨(sm + dotsOf (h 0) x, ν), ⟨by omega, ?_, g2.tr hz.tl⟩, ?_⟩
    · show sm + _ = _
      rw [su_s _ x0, g1]
    · simp (disch := omega) only [LX7_allDots_4, BX7_allDots_4, ↓k7, CL, ↓mplates_rt_c g3, hx, ↓reduceIte, e, CLX_rt, LT_eq, w32_eq]
  · obtain ⟨sm, s⟩ := s
    obtain ⟨x0, g1, g2⟩ := hs
    have g1 : sm = su (fun p => dotsOf (h 0) p) (h 0 2) := g1
    have g2 : TlP μ s c u h := g2
    have g3 := g2.2.1
    have k7 := @MSh.k7 s g3.1
    refine ⟨s, ?_, g2⟩
    simp (disch := omega) only [LX7_allDots_4, BX7_allDots_4, ↓k7, CL, ↓mplates_rt_c g3, Int.le_refl, ↓reduceIte]
    rw [g1]
    rfl
theorem mwipedOf_rt (hc : Mc μ c u h) (hp : isPl (h 0) p) : FX7_cleaned 105 p μ = RT (wipedOf (h 0) p) μ := by
  have hr1 := hc.ok.1
  have hr2 := hc.ok.2.1
  have ho := (hc.ok.2.2.2.2 p hp.1 hp.2).2.2.2.2.1
  have k7 := @MSh.k7 μ hc.1
  unfold FX7_cleaned BX7_cleaned_0 wipedOf
  refine sglS (fun n s x => LX7_cleaned_4 n 105 p s x μ) (h 0 1) 16 (fun y => bc (rO (h 0) p (14 + y))) (fun v => RT v μ) (by omega) (by omega) (by omega) (fun y y0 y1 => bc_le (ho y y0 y1).1.1 (ho y y0 y1).1.2) (fun n s y y0 y1 s0 s1 g0 g1 => ?_) (fun n s => ?_) FU (by rw [show ((FU : Nat) : Int) = 20000 from rfl]; omega)
  · have hy : ¬ h 0 1 ≤ y := by omega
    simp (disch := omega) only [LX7_cleaned_4, BX7_cleaned_4, ↓k7, ↓CL, ↓high_rt_c hc, hy, ↓reduceIte]
    rw [w32_eq (z := 14 + y) (by omega) (by omega), of_rt hc hp.1 (by omega) (by omega) (by omega)]
    simp only [↓CLX_rt]
    rw [bits_rt (ho y y0 y1).1.1 (ho y y0 y1).1.2]
    simp (disch := omega) only [↓CLX_rt, ↓LT_eq, w32_eq]
  · simp (disch := omega) only [LX7_cleaned_4, BX7_cleaned_4, ↓k7, ↓CL, ↓high_rt_c hc, Int.le_refl, ↓reduceIte]
theorem mwipedOf_rt_c (hc : Mc μ c u h) (hp : isPl (h 0) p) {K : Int → Mem → Rz} {X : Int → Int → Mem → Rz} : CLX (FX7_cleaned 105 p μ) K X = K (wipedOf (h 0) p) μ := by
  rw [mwipedOf_rt hc hp]
  rfl
theorem mblocks_rt (hc : Mc μ c u h) (hp : isPl (h 0) p) : FX7_blocks 105 p μ = RT (blks (h 0) p) μ := by
  have hr1 := hc.ok.1
  have hq := rQ_le (hc.ok.2.2.2.2 p hp.1 hp.2)
  have k7 := @MSh.k7 μ hc.1
  have d1 : 0 ≤ h 0 0 / rQ (h 0) p ∧ h 0 0 / rQ (h 0) p ≤ 16 := ⟨Int.ediv_nonneg (by omega) (by omega), Int.le_trans (Int.ediv_le_self _ (by omega)) (by omega)⟩
  have d2 : 0 ≤ h 0 1 / rQ (h 0) p ∧ h 0 1 / rQ (h 0) p ≤ 12 := ⟨Int.ediv_nonneg (by omega) (by omega), Int.le_trans (Int.ediv_le_self _ (by omega)) (by omega)⟩
  have d3 := mul_le_of d1.1 d1.2 d2.1 d2.2
  have t1 : (h 0 0).tdiv (rQ (h 0) p) = h 0 0 / rQ (h 0) p := Int.tdiv_eq_ediv_of_nonneg (by omega)
  have t2 : (h 0 1).tdiv (rQ (h 0) p) = h 0 1 / rQ (h 0) p := Int.tdiv_eq_ediv_of_nonneg (by omega)
  simp (disch := omega) only [FX7_blocks, BX7_blocks_0, ↓k7, ↓CL, ↓wide_rt_c hc, ↓high_rt_c hc, ↓square_rt_c hc hp, ↓DV_of, t1, t2, w32_eq]
  rfl
theorem mblocks_rt_c (hc : Mc μ c u h) (hp : isPl (h 0) p) {K : Int → Mem → Rz} {X : Int → Int → Mem → Rz} : CLX (FX7_blocks 105 p μ) K X = K (blks (h 0) p) μ := by
  rw [mblocks_rt hc hp]
  rfl
theorem tonesAll_rt (hc : Mc μ c u h) : LX7_toldOf_104 FU 105 0 0 μ = RT (tonesAll (h 0)) μ := by
  have hr := hc.ok
  have hr1 := hr.1
  have k7 := @MSh.k7 μ hc.1
  unfold tonesAll
  refine dblS (fun m y0 y1 y2 ξ => LX7_toldOf_104 m y0 y1 y2 ξ) (fun k s y => k 105 s y μ) (fun k m s y x => LX7_toldOf_115 k m 105 s y x μ) (h 0 0) (h 0 1) 100 (fun x y => rT (h 0) x y) (fun v => RT v μ) (by omega) (by omega) (by omega) (by omega) (by omega) (fun x y x0 x1 y0 y1 => hr.2.2.2.1 x y x0 x1 y0 y1) (fun m s y y0 y1 => ?_) (fun m s => ?_) (fun k m s y x y0 y1 x0 x1 s0 s1 g0 g1 => ?_) (fun k m s y y0 y1 => ?_) FU (by rw [show ((FU : Nat) : Int) = 20000 from rfl]; omega)
  · have hy : ¬ h 0 1 ≤ y := by omega
    simp (disch := omega) only [LX7_toldOf_104, BX7_toldOf_104, ↓k7, ↓CL, ↓high_rt_c hc, hy, ↓reduceIte]
  · simp (disch := omega) only [LX7_toldOf_104, BX7_toldOf_104, ↓k7, ↓CL, ↓high_rt_c hc, Int.le_refl, ↓reduceIte]
  · have hx : ¬ h 0 0 ≤ x := by omega
    simp (disch := omega) only [LX7_toldOf_115, BX7_toldOf_115, ↓k7, ↓CL, ↓wide_rt_c hc, hx, ↓reduceIte, ↓mtone_rt_c hc, ↓LT_eq, w32_eq]
  · simp (disch := omega) only [LX7_toldOf_115, BX7_toldOf_115, ↓k7, ↓CL, ↓wide_rt_c hc, Int.le_refl, ↓reduceIte, w32_eq]
theorem wipedOf_le {r : Row} (hr : okRow r) (hp : isPl r p) : 0 ≤ wipedOf r p ∧ wipedOf r p ≤ 192 := by
  have ho := (hr.2.2.2.2 p hp.1 hp.2).2.2.2.2.1
  have hr1 := hr.1
  have h1 := su_le (f := fun y => bc (rO r p (14 + y))) (n := r 1) (B := 16) (by omega) fun y y0 y1 => bc_le (ho y y0 y1).1.1 (ho y y0 y1).1.2
  unfold wipedOf
  omega
theorem wipedAll_rt (hc : Mc μ c u h) : LX7_toldOf_152 FU 105 0 0 μ = RT (wipedAll (h 0)) μ := by
  have hr := hc.ok
  have hr2 := hr.2.1
  have k7 := @MSh.k7 μ hc.1
  unfold wipedAll
  refine sglS (fun n s x => LX7_toldOf_152 n 105 s x μ) (h 0 2) 192 (fun p => wipedOf (h 0) p) (fun v => RT v μ) (by omega) (by omega) (by omega) (fun x x0 x1 => wipedOf_le hr ⟨x0, x1⟩) (fun n s x x0 x1 s0 s1 g0 g1 => ?_) (fun n s => ?_) FU (by rw [show ((FU : Nat) : Int) = 20000 from rfl]; omega)
  · have hx : ¬ h 0 2 ≤ x := by omega
    simp (disch := omega) only [LX7_toldOf_152, BX7_toldOf_152, ↓k7, ↓CL, ↓mplates_rt_c hc, hx, ↓reduceIte, ↓mwipedOf_rt_c hc (show isPl (h 0) x from ⟨x0, x1⟩), ↓LT_eq, w32_eq]
  · simp (disch := omega) only [LX7_toldOf_152, BX7_toldOf_152, ↓k7, ↓CL, ↓mplates_rt_c hc, Int.le_refl, ↓reduceIte]
theorem toldOf_rt (hc : Mc μ c u h) (hl : MFl μ (h 0)) {w : Int} (w0 : 0 ≤ w) (w1 : w ≤ 8) : ∃ ν, FX7_toldOf 105 w μ = RT (stV (h 0) w) ν ∧ TlP μ ν c u h := by
  have k7 := @MSh.k7 μ hc.1
  unfold FX7_toldOf BX7_toldOf_0
  rcases (show w = 0 ∨ w = 1 ∨ w = 2 ∨ w = 3 ∨ w = 4 ∨ w = 5 ∨ w = 6 ∨ w = 7 ∨ w = 8 by omega) with rfl | rfl | rfl | rfl | rfl | rfl | rfl | rfl | rfl
  · refine ⟨μ, ?_, TlP.rf hc hl⟩
    simp (disch := omega) only [↓SW_c, ↓SW_n, Int.reduceEq, Int.reduceAdd, ↓reduceIte, ↓k7, ↓CL, ↓wide_rt_c hc]
    rfl
  · refine ⟨μ, ?_, TlP.rf hc hl⟩
    simp (disch := omega) only [↓SW_c, ↓SW_n, Int.reduceEq, Int.reduceAdd, ↓reduceIte, ↓k7, ↓CL, ↓high_rt_c hc]
    rfl
  · refine ⟨μ, ?_, TlP.rf hc hl⟩
    simp (disch := omega) only [↓SW_c, ↓SW_n, Int.reduceEq, Int.reduceAdd, ↓reduceIte, ↓k7, ↓CL, ↓mplates_rt_c hc]
    rfl
  · refine ⟨μ, ?_, TlP.rf hc hl⟩
    simp (disch := omega) only [↓SW_c, ↓SW_n, Int.reduceEq, Int.reduceAdd, ↓reduceIte, ↓k7, ↓CL, ↓get_rt_c hc]
    rfl
  · obtain ⟨ν, e, hz⟩ := allDots_rt hc hl
    refine ⟨ν, ?_, hz⟩
    simp (disch := omega) only [↓SW_c, ↓SW_n, Int.reduceEq, Int.reduceAdd, ↓reduceIte, ↓k7, CL, e, CLX_rt]
    rfl
  · obtain ⟨ν, e, hz⟩ := cellsOf_rt (n := 0) hc hl
    refine ⟨ν, ?_, hz.tl⟩
    simp (disch := omega) only [↓SW_c, ↓SW_n, Int.reduceEq, Int.reduceAdd, ↓reduceIte, ↓k7, CL, e, CLX_rt]
    rfl
  · by_cases hn : h 0 2 = 0
    · refine ⟨μ, ?_, TlP.rf hc hl⟩
      simp (disch := omega) only [↓SW_c, ↓SW_n, Int.reduceEq, Int.reduceAdd, ↓reduceIte, ↓k7, ↓CL, ↓mplates_rt_c hc, hn, not_true_eq_false, BX7_toldOf_99]
      unfold stV
      rw [hn]
      rfl
    · obtain ⟨ν, e, hz⟩ := cellsOf_rt (n := h 0 2) hc hl
      refine ⟨ν, ?_, hz.tl⟩
      simp (disch := omega) only [↓SW_c, ↓SW_n, Int.reduceEq, Int.reduceAdd, ↓reduceIte, ↓k7, ↓CL, ↓mplates_rt_c hc, hn, not_false_eq_true, BX7_toldOf_99]
      rw [e]
      show RT _ ν = RT (if h 0 2 = 0 then 0 else having (h 0) (h 0 2)) ν
      rw [if_neg hn]
  · refine ⟨μ, ?_, TlP.rf hc hl⟩
    simp (disch := omega) only [↓SW_c, ↓SW_n, Int.reduceEq, Int.reduceAdd, ↓reduceIte, tonesAll_rt hc]
    rfl
  · refine ⟨μ, ?_, TlP.rf hc hl⟩
    simp (disch := omega) only [↓SW_c, ↓SW_n, Int.reduceEq, Int.reduceAdd, ↓reduceIte, wipedAll_rt hc]
    rfl
theorem toldOfPlate_rt (hc : Mc μ c u h) (hl : MFl μ (h 0)) (hp : isPl (h 0) p) {w : Int} (w0 : 0 ≤ w) (w1 : w ≤ 10) : ∃ ν, FX7_toldOfPlate 105 p w μ = RT (plV (h 0) p w) ν ∧ TlP μ ν c u h := by
  have k7 := @MSh.k7 μ hc.1
  have hr2 := hc.ok.2.1
  have p4 : p < 4 := by omega
  unfold FX7_toldOfPlate BX7_toldOfPlate_0
  rcases (show w = 0 ∨ w = 1 ∨ w = 2 ∨ w = 3 ∨ w = 4 ∨ w = 5 ∨ w = 6 ∨ w = 7 ∨ w = 8 ∨ w = 9 ∨ w = 10 by omega) with rfl | rfl | rfl | rfl | rfl | rfl | rfl | rfl | rfl | rfl | rfl
  · refine ⟨μ, ?_, TlP.rf hc hl⟩
    simp (disch := omega) only [↓SW_c, ↓SW_n, Int.reduceEq, Int.reduceAdd, ↓reduceIte, ↓k7, ↓CL, ↓of_rt_c hc hp.1 p4]
    rfl
  · refine ⟨μ, ?_, TlP.rf hc hl⟩
    simp (disch := omega) only [↓SW_c, ↓SW_n, Int.reduceEq, Int.reduceAdd, ↓reduceIte, ↓k7, ↓CL, ↓of_rt_c hc hp.1 p4]
    rfl
  · refine ⟨μ, ?_, TlP.rf hc hl⟩
    simp (disch := omega) only [↓SW_c, ↓SW_n, Int.reduceEq, Int.reduceAdd, ↓reduceIte, ↓k7, ↓CL, ↓square_rt_c hc hp]
    rfl
  · refine ⟨μ, ?_, TlP.rf hc hl⟩
    simp (disch := omega) only [↓SW_c, ↓SW_n, Int.reduceEq, Int.reduceAdd, ↓reduceIte, ↓k7, ↓CL, ↓of_rt_c hc hp.1 p4]
    rfl
  · refine ⟨μ, ?_, TlP.rf hc hl⟩
    simp (disch := omega) only [↓SW_c, ↓SW_n, Int.reduceEq, Int.reduceAdd, ↓reduceIte, ↓k7, ↓CL, ↓of_rt_c hc hp.1 p4]
    rfl
  · refine ⟨μ, ?_, TlP.rf hc hl⟩
    simp (disch := omega) only [↓SW_c, ↓SW_n, Int.reduceEq, Int.reduceAdd, ↓reduceIte, ↓k7, ↓CL, ↓of_rt_c hc hp.1 p4]
    rfl
  · refine ⟨μ, ?_, TlP.rf hc hl⟩
    simp (disch := omega) only [↓SW_c, ↓SW_n, Int.reduceEq, Int.reduceAdd, ↓reduceIte, ↓k7, ↓CL, ↓of_rt_c hc hp.1 p4]
    rfl
  · obtain ⟨ν, e, hz⟩ := mdots_rt (p := p) hc hl
    refine ⟨ν, ?_, hz.tl⟩
    simp (disch := omega) only [↓SW_c, ↓SW_n, Int.reduceEq, Int.reduceAdd, ↓reduceIte, ↓k7, CL, e, CLX_rt]
    rfl
  · obtain ⟨ν, e, hz⟩ := mspots_rt (p := p) hc hl
    refine ⟨ν, ?_, hz.tl⟩
    simp (disch := omega) only [↓SW_c, ↓SW_n, Int.reduceEq, Int.reduceAdd, ↓reduceIte, ↓k7, CL, e, CLX_rt]
    rfl
  · refine ⟨μ, ?_, TlP.rf hc hl⟩
    simp (disch := omega) only [↓SW_c, ↓SW_n, Int.reduceEq, Int.reduceAdd, ↓reduceIte, ↓k7, ↓CL, ↓mblocks_rt_c hc hp]
    rfl
  · obtain ⟨ν, e, hz⟩ := msumOn_rt hc hl hp
    refine ⟨ν, ?_, hz.tl⟩
    simp (disch := omega) only [↓SW_c, ↓SW_n, Int.reduceEq, Int.reduceAdd, ↓reduceIte, ↓k7, CL, e, CLX_rt]
    rfl
end MTL
