/-! the reference: moire, greatest, worst, bestTurn, covered -/
section MMO
variable {μ : Mem} {c u p fed fa : Int} {h : Int → Row} {tx : Int → Int}
theorem moireOf_rt {a b c d : Int} (ha : 0 ≤ a ∧ a ≤ 3) (hb : 0 ≤ b ∧ b ≤ 3) (hc : 0 ≤ c ∧ c ≤ 3) (hd : 0 ≤ d ∧ d ≤ 3) : FX7_moireOf a b c d μ = RT (mv a b c d) μ := by
  have hw := w32_sq ha hb
  have hw2 := w32_sq hc hd
  have e1 : w32 (w32 (a * a) + w32 (b * b)) = a * a + b * b := by rw [w32_eq (z := a * a) (by omega) (by omega), w32_eq (z := b * b) (by omega) (by omega), w32_eq (by omega) (by omega)]
  have e2 : w32 (w32 (c * c) + w32 (d * d)) = c * c + d * d := by rw [w32_eq (z := c * c) (by omega) (by omega), w32_eq (z := d * d) (by omega) (by omega), w32_eq (by omega) (by omega)]
  have h8 := mv_dd ha hb hc hd (fun t => RT t μ)
  unfold FX7_moireOf BX7_moireOf_0
  simp only [BX7_moireOf_78, ↓LT_eq, e1, e2]
  exact h8
theorem moireOf_rt_c {a b c d : Int} (ha : 0 ≤ a ∧ a ≤ 3) (hb : 0 ≤ b ∧ b ≤ 3) (hc : 0 ≤ c ∧ c ≤ 3) (hd : 0 ≤ d ∧ d ≤ 3) {K : Int → Mem → Rz} {X : Int → Int → Mem → Rz} : CLX (FX7_moireOf a b c d μ) K X = K (mv a b c d) μ := by
  rw [moireOf_rt ha hb hc hd]
  rfl
theorem moireAt_rt (hc : Mc μ c u h) {i j : Int} (hi : isPl (h 0) i) (hj : isPl (h 0) j) : FX7_moireAt 105 i j μ = RT (mvR (h 0) i j) μ := by
  have hr := hc.ok
  have hr2 := hr.2.1
  have k7 := @MSh.k7 μ hc.1
  have h1 := ok78 hr hi.1 hi.2
  have h2 := ok78 hr hj.1 hj.2
  have i4 : i < 4 := by omega
  have j4 : j < 4 := by omega
  simp (disch := omega) only [FX7_moireAt, BX7_moireAt_0, ↓k7, ↓CL, ↓of_rt_c hc hi.1 i4, ↓of_rt_c hc hj.1 j4, ↓moireOf_rt_c h1.1 h1.2 h2.1 h2.2]
  rfl
theorem moireAt_rt_c (hc : Mc μ c u h) {i j : Int} (hi : isPl (h 0) i) (hj : isPl (h 0) j) {K : Int → Mem → Rz} {X : Int → Int → Mem → Rz} : CLX (FX7_moireAt 105 i j μ) K X = K (mvR (h 0) i j) μ := by
  rw [moireAt_rt hc hi hj]
  rfl
theorem greatestWith_rt (hc : Mc μ c u h) {q a b : Int} (ha : 0 ≤ a ∧ a ≤ 3) (hb : 0 ≤ b ∧ b ≤ 3) : FX7_greatestWith 105 q a b μ = RT (gm (h 0) q a b) μ := by
  have hr := hc.ok
  have hr2 := hr.2.1
  have k7 := @MSh.k7 μ hc.1
  unfold FX7_greatestWith BX7_greatestWith_0
  have hm := lp (fun n x s => LX7_greatestWith_6 n 105 q a b s x μ) (fun x => gmx (h 0) q a b x.toNat) (h 0 2) (RT (gm (h 0) q a b) μ) (fun n x x0 x1 => ?_) (fun n => ?_) FU 0 (Int.le_refl _) hr2.1 (by rw [show ((FU : Nat) : Int) = 20000 from rfl]; omega)
  · exact hm
  · have hx : ¬ h 0 2 ≤ x := by omega
    have x4 : x < 4 := by omega
    have hv := gmx_v hr (p := q) ha hb x.toNat (by omega)
    have h8 := ok78 hr x0 x1
    have hv2 := Mv_mv ha hb h8.1 h8.2
    have e1 : (x + 1).toNat = x.toNat + 1 := by omega
    have e2 : ((x.toNat : Nat) : Int) = x := by omega
    show LX7_greatestWith_6 (n + 1) 105 q a b (gmx (h 0) q a b x.toNat) x μ = LX7_greatestWith_6 n 105 q a b (gmx (h 0) q a b (x + 1).toNat) (x + 1) μ
    rw [e1, gmx, e2]
    by_cases e : x = q
    · subst e
      simp (disch := omega) only [LX7_greatestWith_6, BX7_greatestWith_6, BX7_greatestWith_49, ↓k7, ↓CL, ↓mplates_rt_c hc, hx, ↓reduceIte, w32_eq]
    · rw [if_neg e]
      simp (disch := omega) only [LX7_greatestWith_6, BX7_greatestWith_6, BX7_greatestWith_49, ↓k7, ↓CL, ↓mplates_rt_c hc, hx, ↓reduceIte, w32_eq, e, ↓of_rt_c hc x0 x4, ↓moireOf_rt_c ha hb h8.1 h8.2, ↓hv.dmx hv2]
  · show LX7_greatestWith_6 (n + 1) 105 q a b (gmx (h 0) q a b (h 0 2).toNat) (h 0 2) μ = _
    simp (disch := omega) only [LX7_greatestWith_6, BX7_greatestWith_6, ↓k7, ↓CL, ↓mplates_rt_c hc, Int.le_refl, ↓reduceIte]
    rfl
theorem greatestWith_rt_c (hc : Mc μ c u h) {q a b : Int} (ha : 0 ≤ a ∧ a ≤ 3) (hb : 0 ≤ b ∧ b ≤ 3) {K : Int → Mem → Rz} {X : Int → Int → Mem → Rz} : CLX (FX7_greatestWith 105 q a b μ) K X = K (gm (h 0) q a b) μ := by
  rw [greatestWith_rt hc ha hb]
  rfl
theorem mmoire_27 {ν : Mem} (ho : MOk μ ν c u h tx fed fa 0) {i j : Int} {q : Prop} [Decidable q] (hq : q ↔ isPl (h 0) i ∧ isPl (h 0) j) : ∃ v ξ, BX7_moire_27 105 i j (b2 q) 105 ν = RT v ξ ∧ ((isPl (h 0) i ∧ isPl (h 0) j) → v = mvR (h 0) i j) ∧ MOk μ ξ c u h tx fed fa (if isPl (h 0) i ∧ isPl (h 0) j then 0 else 1) := by
  have hc := ho.1.1
  have h0 := ho.2.2
  unfold BX7_moire_27 BX7_moire_44
  rw [hc.1.k7, right_rt hc.1 h0 (by decide)]
  by_cases e : isPl (h 0) i ∧ isPl (h 0) j
  · refine ⟨mvR (h 0) i j, ν, ?_, fun _ => rfl, by rw [if_pos e]; exact ho⟩
    rw [if_pos (hq.mpr e)]
    simp only [CL, ↓CLX_rt]
    rw [if_neg (by decide), hc.1.k7, moireAt_rt hc e.1 e.2]
    rfl
  · refine ⟨0, _, ?_, fun k => absurd k e, by rw [if_neg e]; exact MOk.thr ho.1 ho.2.1 1⟩
    rw [if_neg (fun k => e (hq.mp k))]
    rfl
theorem mmoire_rt (hI : MIv μ c u h tx fed fa) {i j : Int} : ∃ v ν, FX7_moire 105 i j μ = RT v ν ∧ ((isPl (h 0) i ∧ isPl (h 0) j) → v = mvR (h 0) i j) ∧ MOk μ ν c u h tx fed fa (if isPl (h 0) i ∧ isPl (h 0) j then 0 else 1) := by
  have ho := hI.o
  have hc := ho.1.1
  unfold FX7_moire BX7_moire_0 BX7_moire_26
  rw [hI.1.1.p7_0, hc.1.k7, isPlate_rt hc]
  simp only [CL, ↓CLX_rt]
  by_cases e : isPl (h 0) i
  · rw [b2_t e, if_neg (by decide), hc.1.k7, isPlate_rt hc]
    simp only [↓CLX_rt]
    by_cases e2 : isPl (h 0) j
    · rw [b2_t e2, if_neg (by decide)]
      have := mmoire_27 (i := i) (j := j) (q := True) ho ⟨fun _ => ⟨e, e2⟩, fun _ => trivial⟩
      rwa [b2_t trivial] at this
    · rw [b2_f e2, if_pos rfl]
      have := mmoire_27 (i := i) (j := j) (q := False) ho ⟨False.elim, fun k => e2 k.2⟩
      rwa [b2_f id] at this
  · rw [b2_f e, if_pos rfl]
    have := mmoire_27 (i := i) (j := j) (q := False) ho ⟨False.elim, fun k => e k.1⟩
    rwa [b2_f id] at this
theorem mworst_rt (hI : MIv μ c u h tx fed fa) {k : Int} : ∃ ν, FX7_worst 105 k μ = RT (wV (h 0) k) ν ∧ MOk μ ν c u h tx fed fa 0 := by
  refine ⟨_, ?_, hI.o⟩
  have ho := hI.o
  have hc := ho.1.1
  unfold FX7_worst BX7_worst_0
  rw [hI.1.1.p7_0]
  generalize mUp μ 105 0 0 = ν at ho hc ⊢
  have hr := hc.ok
  have hr2 := hr.2.1
  have k7 := @MSh.k7 ν hc.1
  have hm := dblV (fun n y0 y1 y2 y3 y4 ξ => LX7_worst_12 n y0 y1 y2 y3 y4 ξ) (fun k' (s : Int × Int) y => k' 105 k s.1 s.2 y ν) (fun k' n s y x => LX7_worst_27 k' n 105 k s.1 s.2 y x ν) (fun y => y + 1) (fun _ => h 0 2) (h 0 2) (fun y s => s = wI (h 0) y.toNat) (fun x y s => s = wJ (h 0) y (wI (h 0) y.toNat) (x - (y + 1)).toNat) (fun R => R = RT (wV (h 0) k) ν) (fun y y0 y1 => by omega) (fun n s y y0 y1 hs => ⟨?_, ?_⟩) (fun n s hs => ?_) (fun k' n s y x y0 y1 x0 x1 hs => ?_) (fun k' n s y y0 y1 hs => ⟨?_, ?_⟩) FU 0 (-1, -1) (Int.le_refl _) hr2.1 (by rw [show ((FU : Nat) : Int) = 20000 from rfl]; omega) rfl
  · exact hm
  · rw [hs, show (y + 1 - (y + 1)).toNat = 0 by omega]
    rfl
  · have hx : ¬ h 0 2 ≤ y := by omega
    simp (disch := omega) only [LX7_worst_12, BX7_worst_12, ↓k7, ↓CL, ↓mplates_rt_c hc, hx, ↓reduceIte, w32_eq, LT_eq]
  · unfold wV
    rw [← hs]
    by_cases ek : k = 0
    · simp (disch := omega) only [LX7_worst_12, BX7_worst_12, BX7_worst_89, ↓k7, ↓CL, ↓mplates_rt_c hc, Int.le_refl, ↓reduceIte, ek]
    · simp (disch := omega) only [LX7_worst_12, BX7_worst_12, BX7_worst_89, ↓k7, ↓CL, ↓mplates_rt_c hc, Int.le_refl, ↓reduceIte, ek]
  · have hx : ¬ h 0 2 ≤ x := by omega
    have hpy : isPl (h 0) y := ⟨y0, y1⟩
    have hpx : isPl (h 0) x := ⟨by omega, x1⟩
    have hW := wJ_ok (wI_ok (r := h 0) y.toNat (by omega)) y0 (x - (y + 1)).toNat (by omega)
    have e1 : (x + 1 - (y + 1)).toNat = (x - (y + 1)).toNat + 1 := by omega
    have e2 : y + 1 + (((x - (y + 1)).toNat : Nat) : Int) = x := by omega
    have hv := mvR_v hr hpy.1 hpy.2 hpx.1 hpx.2
    refine ⟨_, rfl, ?_⟩
    rw [e1, wJ, e2, ← hs]
    rw [← hs] at hW
    unfold wStep
    by_cases eW : s.1 = -1
    · rw [if_pos (Or.inl eW)]
      simp (disch := omega) only [LX7_worst_27, BX7_worst_27, BX7_worst_62, BX7_worst_68, ↓k7, ↓CL, ↓mplates_rt_c hc, hx, eW, ↓reduceIte, w32_eq]
    · have hW2 : (0 ≤ s.1 ∧ s.1 < h 0 2) ∧ 0 ≤ s.2 ∧ s.2 < h 0 2 := hW.resolve_left fun k => eW (by rw [k])
      have hv2 := mvR_v hr hW2.1.1 hW2.1.2 hW2.2.1 hW2.2.2
      have hq1 : isPl (h 0) s.1 := hW2.1
      have hq2 : isPl (h 0) s.2 := hW2.2
      have estep : LX7_worst_27 k' (n + 1) 105 k s.1 s.2 y x ν = if 0 < dCmp .g (mvR (h 0) y x) (mvR (h 0) s.1 s.2) then LX7_worst_27 k' n 105 k y x y (x + 1) ν else LX7_worst_27 k' n 105 k s.1 s.2 y (x + 1) ν := by
        simp (disch := omega) only [LX7_worst_27, BX7_worst_27, BX7_worst_62, BX7_worst_68, ↓k7, ↓CL, ↓mplates_rt_c hc, hx, eW, ↓reduceIte, w32_eq, ↓moireAt_rt_c hc hpy hpx, ↓moireAt_rt_c hc hq1 hq2]
      rw [estep]
      by_cases e4 : mvR (h 0) s.1 s.2 < mvR (h 0) y x
      · rw [if_pos ((hv.gt hv2).mpr e4), if_pos (Or.inr e4)]
      · rw [if_neg (fun q => e4 ((hv.gt hv2).mp q)), if_neg (show ¬ (s.1 = -1 ∨ mvR (h 0) s.1 s.2 < mvR (h 0) y x) from fun q => q.elim eW e4)]
  · rw [show (y + 1).toNat = y.toNat + 1 by omega, wI, show ((y.toNat : Nat) : Int) = y by omega]
    exact hs
  · simp (disch := omega) only [LX7_worst_27, BX7_worst_27, ↓k7, ↓CL, ↓mplates_rt_c hc, Int.le_refl, ↓reduceIte, w32_eq]
theorem mbestTurn_rt (hI : MIv μ c u h tx fed fa) {p : Int} : ∃ v ν, FX7_bestTurn 105 p μ = RT v ν ∧ (isPl (h 0) p → v = bTV (h 0) p) ∧ MOk μ ν c u h tx fed fa (if isPl (h 0) p then 0 else 1) := by
  have ho := hI.o
  have hc := ho.1.1
  have h0 := ho.2.2
  unfold FX7_bestTurn BX7_bestTurn_0
  rw [hI.1.1.p7_0, hc.1.k7, isPlate_rt hc]
  simp only [CL, ↓CLX_rt]
  rw [hc.1.k7, right_rt hc.1 h0 (by decide)]
  by_cases e : isPl (h 0) p
  · refine ⟨bTV (h 0) p, _, ?_, fun _ => rfl, by rw [if_pos e]; exact ho⟩
    rw [if_pos e]
    generalize mUp μ 105 0 0 = ν at ho hc h0 ⊢
    have hr := hc.ok
    have hr2 := hr.2.1
    have k7 := @MSh.k7 ν hc.1
    have p4 : p < 4 := by omega
    have h8 := ok78 hr e.1 e.2
    simp only [↓CLX_rt]
    unfold bTV
    by_cases e2 : h 0 2 = 1
    · simp (disch := omega) only [↓k7, ↓CL, ↓mplates_rt_c hc, e2, not_true_eq_false, ↓reduceIte, ↓of_rt_c hc e.1 p4, w32_eq, not_false_eq_true, Int.reduceEq]
    · rw [if_pos (by decide), if_neg e2]
      simp (disch := omega) only [↓k7, ↓CL, ↓mplates_rt_c hc, e2, not_false_eq_true, ↓reduceIte]
      refine lpR (fun n x s => LX7_bestTurn_51 n 105 p s x ν) (fun x s => 2 ≤ x ∧ s = bT (h 0) p (x - 2).toNat) 16 (fun R => R = RT (10 * (bT (h 0) p 14 / 4) + bT (h 0) p 14 % 4) ν) (fun n x s x1 hs => ?_) (fun n s hs => ?_) FU 2 1 (by omega) (by rw [show ((FU : Nat) : Int) = 20000 from rfl]; omega) ⟨Int.le_refl _, rfl⟩
      · obtain ⟨x0, hs⟩ := hs
        have hB := bT_le (r := h 0) (p := p) (x - 2).toNat
        have e6 : (x + 1 - 2).toNat = (x - 2).toNat + 1 := by omega
        have e7 : (((x - 2).toNat : Nat) : Int) + 2 = x := by omega
        have hd := d4 (t := bT (h 0) p (x - 2).toNat) (by omega)
        have hdx := d4 (t := x) (by omega)
        have hg := gm_v hr (p := p) hd.1 hd.2
        have hgx := gm_v hr (p := p) hdx.1 hdx.2
        refine ⟨_, ⟨by omega, rfl⟩, ?_⟩
        rw [e6, bT, e7]
        rw [← hs] at hB hd hg ⊢
        have hx : ¬ 16 ≤ x := by omega
        have d1 : w32 (x.tdiv 4) = x / 4 := by
          rw [Int.tdiv_eq_ediv_of_nonneg (by omega)]
          exact w32_eq (by omega) (by omega)
        have d2 : x.tmod 4 = x % 4 := tmod_small (by omega)
        have d3 : w32 (s.tdiv 4) = s / 4 := by
          rw [Int.tdiv_eq_ediv_of_nonneg (by omega)]
          exact w32_eq (by omega) (by omega)
        have d5 : s.tmod 4 = s % 4 := tmod_small (by omega)
        have d6 : ∀ z K, DV z 4 K = K (w32 (z.tdiv 4)) := fun z K => DV_of (by decide)
        have d7 : ∀ z K, RM z 4 K = K (z.tmod 4) := fun z K => RM_of (by decide)
        have estep : LX7_bestTurn_51 (n + 1) 105 p s x ν = if 0 ≤ dCmp .g (gm (h 0) p (x / 4) (x % 4)) (gm (h 0) p (s / 4) (s % 4)) then LX7_bestTurn_51 n 105 p s (x + 1) ν else LX7_bestTurn_51 n 105 p x (x + 1) ν := by
          simp (disch := omega) only [LX7_bestTurn_51, BX7_bestTurn_51, BX7_bestTurn_85, ↓k7, ↓CL, hx, ↓reduceIte, ↓d6, ↓d7, d1, d2, d3, d5, ↓greatestWith_rt_c hc hdx.1 hdx.2, ↓greatestWith_rt_c hc hd.1 hd.2, w32_eq]
        rw [estep]
        by_cases e10 : gm (h 0) p (s / 4) (s % 4) ≤ gm (h 0) p (x / 4) (x % 4)
        · rw [if_pos ((hgx.ge hg).mpr e10), if_pos e10]
        · rw [if_neg (fun q => e10 ((hgx.ge hg).mp q)), if_neg e10]
      · have hB := bT_le (r := h 0) (p := p) 14
        have hs : s = bT (h 0) p 14 := hs.2
        have hd := d4 (t := bT (h 0) p 14) (by omega)
        rw [← hs] at hB hd ⊢
        have d3 : w32 (s.tdiv 4) = s / 4 := by
          rw [Int.tdiv_eq_ediv_of_nonneg (by omega)]
          exact w32_eq (by omega) (by omega)
        have d5 : s.tmod 4 = s % 4 := tmod_small (by omega)
        have d6 : ∀ z K, DV z 4 K = K (w32 (z.tdiv 4)) := fun z K => DV_of (by decide)
        have d7 : ∀ z K, RM z 4 K = K (z.tmod 4) := fun z K => RM_of (by decide)
        simp (disch := omega) only [LX7_bestTurn_51, BX7_bestTurn_51, Int.le_refl, ↓reduceIte, ↓d6, ↓d7, d3, d5, w32_eq (z := 10 * (s / 4)), w32_eq]
  · refine ⟨0, _, ?_, fun k => absurd k e, by rw [if_neg e]; exact MOk.thr ho.1 ho.2.1 1⟩
    rw [if_neg e]
    rfl
theorem mcovered_rt (hI : MIv μ c u h tx fed fa) {p : Int} : ∃ v ν, FX7_covered 105 p μ = RT v ν ∧ (isPl (h 0) p → v = cvV (h 0) p) ∧ MOk μ ν c u h tx fed fa (if isPl (h 0) p then 0 else 1) := by
  have ho := hI.o
  have hc := ho.1.1
  have h0 := ho.2.2
  unfold FX7_covered BX7_covered_0 BX7_covered_39
  rw [hI.1.1.p7_0, hc.1.k7, isPlate_rt hc]
  simp only [CL, ↓CLX_rt]
  rw [hc.1.k7, right_rt hc.1 h0 (by decide)]
  by_cases e : isPl (h 0) p
  · obtain ⟨ν, e1, hz⟩ := mdots_rt (p := p) hc ho.1.2.2
    have hr := hc.ok
    have hr1 := hr.1
    have hw := mul_le_of (a := h 0 1) (b := h 0 0) (c := 12) (d := 16) (by omega) (by omega) (by omega) (by omega)
    refine ⟨cvV (h 0) p, ν, ?_, fun _ => rfl, by rw [if_pos e]; exact ho.tl hz.tl⟩
    rw [if_pos e]
    simp only [↓CLX_rt]
    rw [if_neg (by decide), hc.1.k7, e1]
    simp only [↓CLX_rt]
    rw [hz.2.1.1.k7, wide_rt hz.2.1]
    simp only [↓CLX_rt]
    rw [hz.2.1.1.k7, high_rt hz.2.1]
    simp only [↓CLX_rt]
    rw [Int.mul_comm, w32_eq (by omega) (by omega)]
    exact cv_fd hr p _
  · refine ⟨0, _, ?_, fun k => absurd k e, by rw [if_neg e]; exact MOk.thr ho.1 ho.2.1 1⟩
    rw [if_neg e]
    rfl
end MMO
