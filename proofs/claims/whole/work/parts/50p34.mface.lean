/-! the reference's face: what is told -/
def MB (μ : Mem) (tx : Int → Int) (fed fa : Int) : Prop := (0 ≤ fed ∧ fed ≤ 600) ∧ (μ 105 12 = fed ∧ μ 105 16 = fa) ∧ ∀ k, 0 ≤ k → k < fed → μ 113 k = tx k
def MIv (μ : Mem) (c u : Int) (h : Int → Row) (tx : Int → Int) (fed fa : Int) : Prop := Mc μ c u h ∧ MB μ tx fed fa ∧ MFl μ (h 0)
def MFr (μ ν : Mem) : Prop := ∀ z k, ¬ (105 ≤ z ∧ z ≤ 114) → ν z k = μ z k
/-- after a call of the reference: its thrown code is t -/
def MOk (μ ν : Mem) (c u : Int) (h : Int → Row) (tx : Int → Int) (fed fa t : Int) : Prop := MIv ν c u h tx fed fa ∧ MFr μ ν ∧ ν 105 0 = t
section MFC
variable {μ : Mem} {c u p fed fa : Int} {h : Int → Row} {tx : Int → Int}
theorem Laid.fr {r : Row} {ν : Mem} (hr : okRow r) (hl : Laid μ r) (hf : ∀ z k, 110 ≤ z → z ≤ 112 → 0 ≤ k → ν z k = μ z k) : Laid ν r := by
  obtain ⟨a, b, d⟩ := hl
  exact ⟨fun x y x0 x1 y0 y1 => by rw [hf _ _ (by omega) (by omega) (by omega)]; exact a x y x0 x1 y0 y1, fun p p0 p1 x y x0 x1 y0 y1 => by rw [hf _ _ (by omega) (by omega) (by omega)]; exact b p p0 p1 x y x0 x1 y0 y1, fun p p0 p1 x y x0 x1 y0 y1 => by rw [hf _ _ (by omega) (by omega) (by omega)]; exact d p p0 p1 x y x0 x1 y0 y1⟩
theorem MFl.fr {r : Row} {ν : Mem} (hr : okRow r) (hl : MFl μ r) (h10 : ν 105 10 = μ 105 10) (hf : ∀ z k, 110 ≤ z → z ≤ 112 → 0 ≤ k → ν z k = μ z k) : MFl ν r := by
  rcases hl with e | ⟨e, e2⟩
  · exact Or.inl (by rw [h10, e])
  · exact Or.inr ⟨by rw [h10, e], e2.fr hr hf⟩
theorem MIv.t0 (hI : MIv μ c u h tx fed fa) (v : Int) : MIv (mUp μ 105 0 v) c u h tx fed fa := by
  obtain ⟨a, ⟨b1, ⟨b2, b3⟩, b4⟩, d⟩ := hI
  exact ⟨a.fr fun z k hz => mUp_ne _ _ (by omega), ⟨b1, ⟨by rw [mUp_ne _ _ (by omega), b2], by rw [mUp_ne _ _ (by omega), b3]⟩, fun k k0 k1 => by rw [mUp_ne _ _ (by omega)]; exact b4 k k0 k1⟩, d.fr a.ok (mUp_ne _ _ (by omega)) fun z k _ _ _ => mUp_ne _ _ (by omega)⟩
theorem MIv.lz {ν : Mem} (hI : MIv μ c u h tx fed fa) (hz : TlP μ ν c u h) : MIv ν c u h tx fed fa ∧ MFr μ ν ∧ ν 105 0 = μ 105 0 := by
  obtain ⟨a, ⟨b1, ⟨b2, b3⟩, b4⟩, d⟩ := hI
  exact ⟨⟨hz.2.1, ⟨b1, ⟨by rw [hz.1 _ _ (by omega), b2], by rw [hz.1 _ _ (by omega), b3]⟩, fun k k0 k1 => by rw [hz.1 _ _ (by omega)]; exact b4 k k0 k1⟩, hz.2.2.1⟩, fun z k hh => hz.1 z k (by omega), hz.1 _ _ (by omega)⟩
theorem right_rt (hS : MSh μ) (h0 : μ 105 0 = 0) {q : Prop} [Decidable q] {k : Int} (hk : k ≠ 0) : FX7_right 105 (b2 q) k μ = if q then RT 1 μ else RT 0 (mUp μ 105 0 k) := by
  unfold FX7_right BX7_right_0 BX7_right_16 BX7_right_28
  rw [hS.g7_0, h0, if_neg (by decide)]
  by_cases e : q
  · rw [b2_t e, if_pos (by decide), if_pos e, hS.g7_0, h0, if_neg (by decide)]
    rfl
  · have hS2 : MSh (mUp μ 105 0 k) := hS.up (by unfold MSt; omega)
    rw [b2_f e, if_neg (by decide), if_neg e, hS.p7_0, hS2.g7_0, mUp_same, if_pos hk]
    rfl
/-- after the thrown code is set to 0 -/
theorem MIv.m0 (hI : MIv μ c u h tx fed fa) : MIv (mUp μ 105 0 0) c u h tx fed fa ∧ mUp μ 105 0 0 105 0 = 0 ∧ MFr μ (mUp μ 105 0 0) := ⟨hI.t0 0, mUp_same _ _ _ _, fun z k hz => mUp_ne _ _ (by omega)⟩
theorem MFr.tr {ν ξ : Mem} (h1 : MFr μ ν) (h2 : MFr ν ξ) : MFr μ ξ := fun z k hz => (h2 z k hz).trans (h1 z k hz)
theorem MOk.thr {ν : Mem} (hI : MIv ν c u h tx fed fa) (hf : MFr μ ν) (t : Int) : MOk μ (mUp ν 105 0 t) c u h tx fed fa t := ⟨hI.t0 t, hf.tr fun z k hz => mUp_ne _ _ (by omega), mUp_same _ _ _ _⟩
theorem MOk.tl {ν ξ : Mem} {t : Int} (hO : MOk μ ν c u h tx fed fa t) (hz : TlP ν ξ c u h) : MOk μ ξ c u h tx fed fa t := by
  obtain ⟨a, b, d⟩ := hO.1.lz hz
  exact ⟨a, hO.2.1.tr b, by rw [d]; exact hO.2.2⟩
theorem MIv.o (hI : MIv μ c u h tx fed fa) : MOk μ (mUp μ 105 0 0) c u h tx fed fa 0 := ⟨hI.t0 0, fun z k hz => mUp_ne _ _ (by omega), mUp_same _ _ _ _⟩
theorem mstate_rt (hI : MIv μ c u h tx fed fa) {w : Int} : ∃ b ν, FX7_state 105 w μ = RT b ν ∧ ((0 ≤ w ∧ w ≤ 8) → b = stV (h 0) w) ∧ MOk μ ν c u h tx fed fa (if 0 ≤ w ∧ w ≤ 8 then 0 else 1) := by
  have ho := hI.o
  have hc := ho.1.1
  have h0 := ho.2.2
  unfold FX7_state BX7_state_0 BX7_state_29
  rw [hI.1.1.p7_0, isIn_rt]
  simp only [CL, ↓CLX_rt]
  rw [hc.1.k7, right_rt hc.1 h0 (by decide)]
  by_cases e : 0 ≤ w ∧ w ≤ 8
  · obtain ⟨ν, e1, hz⟩ := toldOf_rt hc ho.1.2.2 e.1 e.2
    refine ⟨stV (h 0) w, ν, ?_, fun _ => rfl, by rw [if_pos e]; exact ho.tl hz⟩
    rw [if_pos e]
    simp only [↓CLX_rt]
    rw [if_neg (by decide), hc.1.k7, e1]
    rfl
  · refine ⟨0, _, ?_, fun k => absurd k e, by rw [if_neg e]; exact MOk.thr ho.1 ho.2.1 1⟩
    rw [if_neg e]
    rfl
theorem mplate_rt (hI : MIv μ c u h tx fed fa) {p w : Int} : ∃ b ν, FX7_plate 105 p w μ = RT b ν ∧ ((isPl (h 0) p ∧ 0 ≤ w ∧ w ≤ 10) → b = plV (h 0) p w) ∧ MOk μ ν c u h tx fed fa (if isPl (h 0) p then (if 0 ≤ w ∧ w ≤ 10 then 0 else 2) else 1) := by
  have ho := hI.o
  have hc := ho.1.1
  have h0 := ho.2.2
  unfold FX7_plate BX7_plate_0 BX7_plate_42 BX7_plate_43
  rw [hI.1.1.p7_0, hc.1.k7, isPlate_rt hc]
  simp only [CL, ↓CLX_rt]
  rw [hc.1.k7, right_rt hc.1 h0 (by decide)]
  by_cases e : isPl (h 0) p
  · rw [if_pos e, if_pos e]
    simp only [↓CLX_rt]
    rw [if_neg (by decide), isIn_rt]
    simp only [↓CLX_rt]
    rw [hc.1.k7, right_rt hc.1 h0 (by decide)]
    by_cases e2 : 0 ≤ w ∧ w ≤ 10
    · obtain ⟨ν, e1, hz⟩ := toldOfPlate_rt hc ho.1.2.2 e e2.1 e2.2
      refine ⟨plV (h 0) p w, ν, ?_, fun _ => rfl, by rw [if_pos e2]; exact ho.tl hz⟩
      rw [if_pos e2]
      simp only [↓CLX_rt]
      rw [if_neg (by decide), hc.1.k7, e1]
      rfl
    · refine ⟨0, _, ?_, fun k => absurd k.2 e2, by rw [if_neg e2]; exact MOk.thr ho.1 ho.2.1 2⟩
      rw [if_neg e2]
      rfl
  · refine ⟨0, _, ?_, fun k => absurd k.1 e, by rw [if_neg e]; exact MOk.thr ho.1 ho.2.1 1⟩
    rw [if_neg e]
    rfl
theorem mcell_28 {ν : Mem} (ho : MOk μ ν c u h tx fed fa 0) {x y w : Int} {q : Prop} [Decidable q] (hq : q ↔ isPl (h 0) p ∧ isCe (h 0) x y) : ∃ b ξ, BX7_cell_28 105 p x y w (b2 q) 105 ν = RT b ξ ∧ ((isPl (h 0) p ∧ isCe (h 0) x y ∧ 0 ≤ w ∧ w ≤ 4) → b = ceV (h 0) p x y w) ∧ MOk μ ξ c u h tx fed fa (if isPl (h 0) p ∧ isCe (h 0) x y then (if 0 ≤ w ∧ w ≤ 4 then 0 else 2) else 1) := by
  have hc := ho.1.1
  have h0 := ho.2.2
  unfold BX7_cell_28 BX7_cell_50
  rw [hc.1.k7, right_rt hc.1 h0 (by decide)]
  by_cases e : isPl (h 0) p ∧ isCe (h 0) x y
  · rw [if_pos (hq.mpr e), if_pos e]
    simp only [CL, ↓CLX_rt]
    rw [if_neg (by decide), isIn_rt]
    simp only [↓CLX_rt]
    rw [hc.1.k7, right_rt hc.1 h0 (by decide)]
    by_cases e2 : 0 ≤ w ∧ w ≤ 4
    · obtain ⟨ξ, e1, hz⟩ := lays_p hc ho.1.2.2
      have hc2 := hz.2.1
      have hS2 := hc2.1
      have k7 := @MSh.k7 ξ hS2
      have hr1 := hc.ok.1
      have hr2 := hc.ok.2.1
      have hx := e.2.1
      have hy := e.2.2
      refine ⟨ceV (h 0) p x y w, ξ, ?_, fun _ => rfl, by rw [if_pos e2]; exact ho.tl hz.tl⟩
      rw [if_pos e2]
      simp only [↓CLX_rt]
      have ei : w32 (w32 (w32 (192 * p) + w32 (16 * y)) + x) = 192 * p + (16 * y + x) := by rw [w32_eq (z := 192 * p) (by omega) (by omega), w32_eq (z := 16 * y) (by omega) (by omega), w32_eq (z := 192 * p + 16 * y) (by omega) (by omega), w32_eq (by omega) (by omega)]; omega
      have eb : ∀ q : Prop, [Decidable q] → (if b2 q = 0 then RT 0 ξ else RT 1 ξ) = RT (b2 q) ξ := fun q _ => by
        by_cases e : q
        · rw [b2_t e, if_neg (by omega)]
        · rw [b2_f e, if_pos rfl]
      rw [if_pos (by decide), hc.1.k7, e1]
      simp only [↓CLX_rt, ↓LT_eq]
      rw [ei]
      rcases (show w = 0 ∨ w = 1 ∨ w = 2 ∨ w = 3 ∨ w = 4 by omega) with rfl | rfl | rfl | rfl | rfl
      · simp (disch := omega) only [↓SW_c, ↓SW_n, Int.reduceEq, Int.reduceAdd, ↓reduceIte, ↓hS2.g7_7, ↓hS2.l110, hz.2.2.1.2.1 p e.1.1 e.1.2 x y hx.1 hx.2 hy.1 hy.2]
        rfl
      · simp (disch := omega) only [↓SW_c, ↓SW_n, Int.reduceEq, Int.reduceAdd, ↓reduceIte, ↓hS2.g7_8, ↓hS2.l111, hz.2.2.1.2.2 p e.1.1 e.1.2 x y hx.1 hx.2 hy.1 hy.2]
        rfl
      · simp (disch := omega) only [↓SW_c, ↓SW_n, Int.reduceEq, Int.reduceAdd, ↓reduceIte, ↓k7, ↓mhasDot_rt_c hc2 hz.2.2.1.1, BX7_cell_135]
        exact eb _
      · simp (disch := omega) only [↓SW_c, ↓SW_n, Int.reduceEq, Int.reduceAdd, ↓reduceIte, ↓k7, ↓mspot_rt_c hc2 hz.2.2.1.1, BX7_cell_151]
        exact eb _
      · simp (disch := omega) only [↓SW_c, ↓SW_n, Int.reduceEq, Int.reduceAdd, ↓reduceIte, ↓k7, ↓mwiped_rt_c hc2 e.1.1 (show p < 4 by omega), BX7_cell_167]
        exact eb _
    · refine ⟨0, _, ?_, fun k => absurd k.2.2 e2, by rw [if_neg e2]; exact MOk.thr ho.1 ho.2.1 2⟩
      rw [if_neg e2]
      rfl
  · refine ⟨0, _, ?_, fun k => absurd ⟨k.1, k.2.1⟩ e, by rw [if_neg e]; exact MOk.thr ho.1 ho.2.1 1⟩
    rw [if_neg (fun k => e (hq.mp k))]
    rfl
theorem mcell_rt (hI : MIv μ c u h tx fed fa) {p x y w : Int} : ∃ b ν, FX7_cell 105 p x y w μ = RT b ν ∧ ((isPl (h 0) p ∧ isCe (h 0) x y ∧ 0 ≤ w ∧ w ≤ 4) → b = ceV (h 0) p x y w) ∧ MOk μ ν c u h tx fed fa (if isPl (h 0) p ∧ isCe (h 0) x y then (if 0 ≤ w ∧ w ≤ 4 then 0 else 2) else 1) := by
  have ho := hI.o
  have hc := ho.1.1
  unfold FX7_cell BX7_cell_0 BX7_cell_27
  rw [hI.1.1.p7_0, hc.1.k7, isPlate_rt hc]
  simp only [CL, ↓CLX_rt]
  by_cases e : isPl (h 0) p
  · rw [b2_t e, if_neg (by decide), hc.1.k7, isCell_rt hc]
    simp only [↓CLX_rt]
    by_cases e2 : isCe (h 0) x y
    · have := mcell_28 (p := p) (w := w) ho (q := True) (x := x) (y := y) ⟨fun _ => ⟨e, e2⟩, fun _ => trivial⟩
      rw [b2_t e2, if_neg (by decide)]
      rw [b2_t trivial] at this
      exact this
    · have := mcell_28 (p := p) (w := w) ho (q := False) (x := x) (y := y) ⟨fun k => k.elim, fun k => e2 k.2⟩
      rw [b2_f e2, if_pos rfl]
      rw [b2_f (fun k => k)] at this
      exact this
  · have := mcell_28 (p := p) (w := w) ho (q := False) (x := x) (y := y) ⟨fun k => k.elim, fun k => e k.1⟩
    rw [b2_f e, if_pos rfl]
    rw [b2_f (fun k => k)] at this
    exact this
theorem mtoneF_rt (hI : MIv μ c u h tx fed fa) {x y : Int} : ∃ b ν, FX7_tone 105 x y μ = RT b ν ∧ (isCe (h 0) x y → b = rT (h 0) x y) ∧ MOk μ ν c u h tx fed fa (if isCe (h 0) x y then 0 else 1) := by
  have ho := hI.o
  have hc := ho.1.1
  have h0 := ho.2.2
  have hr1 := hc.ok.1
  unfold FX7_tone BX7_tone_0 BX7_tone_29
  rw [hI.1.1.p7_0, hc.1.k7, isCell_rt hc]
  simp only [CL, ↓CLX_rt]
  rw [hc.1.k7, right_rt hc.1 h0 (by decide)]
  by_cases e : isCe (h 0) x y
  · refine ⟨rT (h 0) x y, _, ?_, fun _ => rfl, by rw [if_pos e]; exact ho⟩
    rw [if_pos e]
    simp only [↓CLX_rt]
    rw [if_neg (by decide), hc.1.k7, mtone_rt hc e.1.1 (by have := e.1.2; omega) e.2.1 (by have := e.2.2; omega)]
    rfl
  · refine ⟨0, _, ?_, fun k => absurd k e, by rw [if_neg e]; exact MOk.thr ho.1 ho.2.1 1⟩
    rw [if_neg e]
    rfl
theorem minks_rt (hI : MIv μ c u h tx fed fa) {x y : Int} : ∃ b ν, FX7_inks 105 x y μ = RT b ν ∧ (isCe (h 0) x y → b = ikA (h 0) x y) ∧ MOk μ ν c u h tx fed fa (if isCe (h 0) x y then 0 else 1) := by
  have ho := hI.o
  have hc := ho.1.1
  have h0 := ho.2.2
  have hr1 := hc.ok.1
  unfold FX7_inks BX7_inks_0
  rw [hI.1.1.p7_0, hc.1.k7, isCell_rt hc]
  simp only [CL, ↓CLX_rt]
  rw [hc.1.k7, right_rt hc.1 h0 (by decide)]
  by_cases e : isCe (h 0) x y
  · obtain ⟨ξ, e1, hz⟩ := lays_p hc ho.1.2.2
    have hS2 := hz.2.1.1
    have hx := e.1
    have hy := e.2
    have ec : w32 (w32 (16 * y) + x) = 16 * y + x := by rw [w32_eq (z := 16 * y) (by omega) (by omega), w32_eq (by omega) (by omega)]
    refine ⟨ikA (h 0) x y, ξ, ?_, fun _ => rfl, by rw [if_pos e]; exact ho.tl hz.tl⟩
    rw [if_pos e]
    simp only [↓CLX_rt]
    rw [if_pos (by decide), hc.1.k7, e1]
    simp only [↓CLX_rt]
    rw [hS2.g7_9, ec, hS2.l112 (by omega) (by omega), hz.2.2.1.1 x y hx.1 hx.2 hy.1 hy.2]
  · refine ⟨0, _, ?_, fun k => absurd k e, by rw [if_neg e]; exact MOk.thr ho.1 ho.2.1 1⟩
    rw [if_neg e]
    rfl
theorem mwhy_28 {ν : Mem} (ho : MOk μ ν c u h tx fed fa 0) {x y : Int} {q : Prop} [Decidable q] (hq : q ↔ isPl (h 0) p ∧ isCe (h 0) x y) : ∃ b ξ, BX7_why_28 105 p x y (b2 q) 105 ν = RT b ξ ∧ ((isPl (h 0) p ∧ isCe (h 0) x y) → b = whyV (h 0) p x y) ∧ MOk μ ξ c u h tx fed fa (if isPl (h 0) p ∧ isCe (h 0) x y then 0 else 1) := by
  have hc := ho.1.1
  have h0 := ho.2.2
  unfold BX7_why_28 BX7_why_84
  rw [hc.1.k7, right_rt hc.1 h0 (by decide)]
  by_cases e : isPl (h 0) p ∧ isCe (h 0) x y
  · obtain ⟨ξ, e1, hz⟩ := lays_p hc ho.1.2.2
    have hc2 := hz.2.1
    have hr := hc.ok
    have hr1 := hr.1
    have hr2 := hr.2.1
    have hx := e.2.1
    have hy := e.2.2
    have ec : w32 (w32 (16 * y) + x) = 16 * y + x := by rw [w32_eq (z := 16 * y) (by omega) (by omega), w32_eq (by omega) (by omega)]
    have hk := rkAt_le (x := x) (y := y) hr e.1.1 e.1.2
    have ht := tnOn_le hr (p := p) hx.1 hx.2 hy.1 hy.2
    have hw := isWanted_rt hc2 e.1 (show 0 ≤ 16 * y + x by omega) (by omega) (hz.2.2.1.2.1 p e.1.1 e.1.2 x y hx.1 hx.2 hy.1 hy.2) (hz.2.2.1.2.2 p e.1.1 e.1.2 x y hx.1 hx.2 hy.1 hy.2) hk.1 hk.2 ht.1 ht.2
    refine ⟨whyV (h 0) p x y, ξ, ?_, fun _ => rfl, by rw [if_pos e]; exact ho.tl hz.tl⟩
    rw [if_pos (hq.mpr e)]
    simp only [CL, ↓CLX_rt]
    rw [if_pos (by decide), hc.1.k7, e1]
    simp only [↓CLX_rt]
    rw [hc2.1.k7, mwiped_rt hc2 e.1.1 (by omega) hy.1 (by omega)]
    simp only [↓CLX_rt]
    have hdp := dotAt_put hr e.1.1 e.1.2 hx.1 hx.2 hy.1 hy.2
    unfold whyV
    by_cases q1 : wiped (h 0) p x y
    · have hnd : ¬ dotAt (h 0) p x y := fun k => (hdp.mp k).2.1 q1
      rw [b2_t q1, if_neg (by decide), if_neg hnd, if_pos q1]
    · rw [b2_f q1, if_pos rfl, hc2.1.k7, ec, hw]
      simp only [↓CLX_rt]
      by_cases q2 : dark (h 0) p x y
      · rw [b2_t (q := rkAt (h 0) p x y * 100 < tnOn (h 0) p x y * rQ (h 0) p * rQ (h 0) p) q2, if_pos (by decide), hc2.1.k7, mhasDot_rt hc2 hz.2.2.1.1]
        simp only [↓CLX_rt]
        by_cases q3 : dotAt (h 0) p x y
        · rw [b2_t q3, if_neg (by decide), if_pos q3]
        · rw [b2_f q3, if_pos rfl, if_neg q3, if_neg q1, if_pos q2]
      · have hnd : ¬ dotAt (h 0) p x y := fun k => q2 (hdp.mp k).1
        rw [b2_f (q := rkAt (h 0) p x y * 100 < tnOn (h 0) p x y * rQ (h 0) p * rQ (h 0) p) q2, if_neg (by decide), if_neg hnd, if_neg q1, if_neg q2]
  · refine ⟨0, _, ?_, fun k => absurd k e, by rw [if_neg e]; exact MOk.thr ho.1 ho.2.1 1⟩
    rw [if_neg (fun k => e (hq.mp k))]
    rfl
theorem mwhy_rt (hI : MIv μ c u h tx fed fa) {p x y : Int} : ∃ b ν, FX7_why 105 p x y μ = RT b ν ∧ ((isPl (h 0) p ∧ isCe (h 0) x y) → b = whyV (h 0) p x y) ∧ MOk μ ν c u h tx fed fa (if isPl (h 0) p ∧ isCe (h 0) x y then 0 else 1) := by
  have ho := hI.o
  have hc := ho.1.1
  unfold FX7_why BX7_why_0 BX7_why_27
  rw [hI.1.1.p7_0, hc.1.k7, isPlate_rt hc]
  simp only [CL, ↓CLX_rt]
  by_cases e : isPl (h 0) p
  · rw [b2_t e, if_neg (by decide), hc.1.k7, isCell_rt hc]
    simp only [↓CLX_rt]
    by_cases e2 : isCe (h 0) x y
    · have := mwhy_28 (p := p) ho (q := True) (x := x) (y := y) ⟨fun _ => ⟨e, e2⟩, fun _ => trivial⟩
      rw [b2_t e2, if_neg (by decide)]
      rw [b2_t trivial] at this
      exact this
    · have := mwhy_28 (p := p) ho (q := False) (x := x) (y := y) ⟨fun k => k.elim, fun k => e2 k.2⟩
      rw [b2_f e2, if_pos rfl]
      rw [b2_f (fun k => k)] at this
      exact this
  · have := mwhy_28 (p := p) ho (q := False) (x := x) (y := y) ⟨fun k => k.elim, fun k => e k.1⟩
    rw [b2_f e, if_pos rfl]
    rw [b2_f (fun k => k)] at this
    exact this
theorem mcellsWith_rt (hI : MIv μ c u h tx fed fa) {w : Int} : ∃ b ν, FX7_cellsWith 105 w μ = RT b ν ∧ ((0 ≤ w ∧ w ≤ 4) → b = having (h 0) w) ∧ MOk μ ν c u h tx fed fa (if 0 ≤ w ∧ w ≤ 4 then 0 else 1) := by
  have ho := hI.o
  have hc := ho.1.1
  have h0 := ho.2.2
  unfold FX7_cellsWith BX7_cellsWith_0 BX7_cellsWith_28
  rw [hI.1.1.p7_0, isIn_rt]
  simp only [CL, ↓CLX_rt]
  rw [hc.1.k7, right_rt hc.1 h0 (by decide)]
  by_cases e : 0 ≤ w ∧ w ≤ 4
  · obtain ⟨ν, e1, hz⟩ := cellsOf_rt (n := w) hc ho.1.2.2
    refine ⟨having (h 0) w, ν, ?_, fun _ => rfl, by rw [if_pos e]; exact ho.tl hz.tl⟩
    rw [if_pos e]
    simp only [↓CLX_rt]
    rw [if_neg (by decide), hc.1.k7, e1]
    rfl
  · refine ⟨0, _, ?_, fun k => absurd k e, by rw [if_neg e]; exact MOk.thr ho.1 ho.2.1 1⟩
    rw [if_neg e]
    rfl
theorem merrorOffset_rt (hI : MIv μ c u h tx fed fa) : FX7_errorOffset 105 μ = RT fa (mUp μ 105 0 0) ∧ MOk μ (mUp μ 105 0 0) c u h tx fed fa 0 := by
  have ho := hI.o
  refine ⟨?_, ho⟩
  unfold FX7_errorOffset BX7_errorOffset_0
  rw [hI.1.1.p7_0, ho.1.1.1.g7_16, ho.1.2.1.2.1.2]
end MFC
