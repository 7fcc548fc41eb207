/-! the component's face: changes of a plate's numbers, of the limit -/
def setO (r : Row) (p k v : Int) : Row := fun j => if j = 196 + 1226 * p + k then v else r j
theorem setO_at (r : Row) (p k v : Int) : rO (setO r p k v) p k = v := if_pos rfl
theorem setO_ne {r : Row} {p k v p' k' : Int} (h : ¬ 196 + 1226 * p' + k' = 196 + 1226 * p + k) : rO (setO r p k v) p' k' = rO r p' k' := if_neg h
theorem setO_j {r : Row} {p k v j : Int} (h : ¬ j = 196 + 1226 * p + k) : setO r p k v j = r j := if_neg h
def ChP (μ ν : Mem) (u : Int) (h : Int → Row) (r' : Row) (tx : Int → Int) (fed fa : Int) : Prop := CInv ν (uUp u) (push r' h) tx fed fa ∧ CFr μ ν
/-- fields of plates alone differ -/
def FldS (r r' : Row) : Prop := ∀ j, (∀ p k, 0 ≤ p → p < 4 → 7 ≤ k → k ≤ 12 → j ≠ 196 + 1226 * p + k) → r' j = r j
theorem FldS.lo {r r' : Row} (h : FldS r r') {j : Int} (hj : j < 196) : r' j = r j := h j fun p k _ _ _ _ => by omega
theorem FldS.o {r r' : Row} (h : FldS r r') {p k : Int} (p0 : 0 ≤ p) (p1 : p < 4) (k0 : 0 ≤ k) (k1 : k < 1226) (hk : ¬ (7 ≤ k ∧ k ≤ 12)) : rO r' p k = rO r p k := h _ fun p' k' _ _ _ _ => by omega
theorem FldS.cd {r r' : Row} (h : FldS r r') {p : Int} (p0 : 0 ≤ p) (p1 : p < 4) : CdS r r' p := fun k hk => h.o p0 p1 (by omega) (by omega) (by omega)
theorem FldS.t {r r' : Row} (h : FldS r r') {x y : Int} (hx : x < 16) (hy : y < 12) : rT r' x y = rT r x y := h.lo (by omega)
def okFld (r : Row) (p : Int) : Prop := (0 ≤ rO r p 7 ∧ rO r p 7 ≤ 3 ∧ 0 ≤ rO r p 8 ∧ rO r p 8 ≤ 3 ∧ 0 < rO r p 7 + rO r p 8) ∧ (0 ≤ rO r p 9 ∧ rO r p 9 ≤ 3) ∧ (0 ≤ rO r p 10 ∧ rO r p 10 ≤ 17 ∧ 0 ≤ rO r p 11 ∧ rO r p 11 ≤ 17) ∧ (0 ≤ rO r p 12 ∧ rO r p 12 ≤ 99999)
theorem okPlate.f {r : Row} {p : Int} (h : okPlate r p) : okFld r p := ⟨h.1, h.2.1, h.2.2.1, h.2.2.2.1⟩
theorem FldS.ok {r r' : Row} (h : FldS r r') (hr : okRow r) (hf : ∀ p, 0 ≤ p → p < r 2 → okFld r' p) : okRow r' := by
  obtain ⟨a, b, d, e, f⟩ := hr
  have e0 : r' 0 = r 0 := h.lo (by omega)
  have e1 : r' 1 = r 1 := h.lo (by omega)
  have e2 : r' 2 = r 2 := h.lo (by omega)
  have e3 : r' 3 = r 3 := h.lo (by omega)
  refine ⟨by rw [e0, e1]; exact a, by rw [e2]; exact b, by rw [e3]; exact d, fun x y x0 x1 y0 y1 => ?_, fun p p0 p1 => ?_⟩
  · rw [e0] at x1
    rw [e1] at y1
    rw [h.t (by omega) (by omega)]
    exact e x y x0 x1 y0 y1
  · rw [e2] at p1
    obtain ⟨q1, q2, q3, q4⟩ := hf p p0 p1
    obtain ⟨-, -, -, -, g5, g6, g7, g8, g9⟩ := f p p0 p1
    refine ⟨q1, q2, q3, q4, fun y y0 y1 => ?_, g6.ext (h.cd p0 (by omega)), by rw [h.o p0 (by omega) (by omega) (by omega) (by omega)]; exact g7, by rw [h.o p0 (by omega) (by omega) (by omega) (by omega)]; exact g8, fun j j0 j1 => ?_⟩
    · rw [e1] at y1
      rw [h.o p0 (by omega) (by omega) (by omega) (by omega), e0]
      exact g5 y y0 y1
    · rw [h.o p0 (by omega) (by omega) (by omega) (by omega)] at j1
      rw [h.o p0 (by omega) (by omega) (by omega) (by omega)]
      exact g9 j j0 j1
section ALT
variable {μ : Mem} {c u fed fa : Int} {h : Int → Row} {tx : Int → Int}
theorem CIc.fld {r r' : Row} {ν : Mem} (hI : CIc μ c u (push r h) tx fed fa) (h7 : μ 4 7 = 0) (hr' : FldS r r') (hν : ∀ z k, ¬ (29 + 8 * c ≤ z ∧ z ≤ 32 + 8 * c ∧ 1 ≤ k ∧ k ≤ 6) → ν z k = μ z k) (hv : ∀ p, 0 ≤ p → p < r 2 → ∀ f, 1 ≤ f → f ≤ 6 → ν (29 + 8 * c + p) f = rO r' p (f + 6)) (hf : ∀ p, 0 ≤ p → p < r 2 → okFld r' p) : CIc ν c u (push r' h) tx fed fa := by
  have hcur := hI.1.cur
  have hr : okRow r := hcur.1
  have hT : Sht μ c r := hcur.2
  have hr1 := hr.1
  have hr2 := hr.2.1
  have hc := hI.1.2.1
  have hok := hr'.ok hr hf
  refine hI.set h7 (hI.1.1.fr fun z k hs => hν z k (by unfold CSt at hs; omega)) (fun z k hz => hν z k (by omega)) hok ⟨⟨?_, ?_, ?_, ?_⟩, fun x y x0 x1 y0 y1 => ?_, fun x y x0 x1 y0 y1 => ?_, fun p p0 p1 => ?_⟩ (fun hP => hP.ext hr (hr'.lo (by omega)) (hr'.lo (by omega)) (hr'.lo (by omega)) (fun x y x0 x1 y0 y1 => hr'.t (by omega) (by omega)) (fun p p0 p1 => hr'.cd p0 (by omega)))
  · rw [hν _ _ (by omega), hr'.lo (by omega), hT.1.1]
  · rw [hν _ _ (by omega), hr'.lo (by omega), hT.1.2.1]
  · rw [hν _ _ (by omega), hr'.lo (by omega), hT.1.2.2.1]
  · rw [hν _ _ (by omega), hr'.lo (by omega), hT.1.2.2.2]
  · rw [hr'.lo (by omega)] at x1 y1
    rw [hν _ _ (by omega), hr'.lo (j := 0) (by omega), hr'.t (by omega) (by omega)]
    exact hT.2.1 x y x0 x1 y0 y1
  · rw [hr'.lo (by omega)] at x1 y1
    have h3 := hT.2.2.1 x y x0 x1 y0 y1
    rw [hν _ _ (by omega), hr'.lo (j := 0) (by omega)]
    refine ⟨h3.1, fun p p0 p1 => ?_⟩
    rw [hr'.lo (j := 2) (by omega), hr'.o p0 p1 (by omega) (by omega) (by omega)]
    exact h3.2 p p0 p1
  · rw [hr'.lo (by omega)] at p1
    obtain ⟨q1, q2, q3, q4, q5⟩ := hT.2.2.2 p p0 p1
    have hcd := hr'.cd p0 (show p < 4 by omega)
    have hk := hr.2.2.2.2 p p0 p1
    have h13 : rO r' p 13 = rO r p 13 := hcd 13 (by omega)
    refine ⟨?_, ⟨hv p p0 p1 1 (by omega) (by omega), hv p p0 p1 2 (by omega) (by omega), hv p p0 p1 3 (by omega) (by omega)⟩, ⟨hv p p0 p1 4 (by omega) (by omega), hv p p0 p1 5 (by omega) (by omega), hv p p0 p1 6 (by omega) (by omega)⟩, fun e => ?_, fun e => ?_⟩
    · rw [hν _ _ (by omega), nmO_ext hcd hk.2.2.2.2.2.2.2.1, q1]
    · rw [h13] at e
      rw [hν _ _ (by omega), q4 e]
    · rw [h13] at e
      rw [hν _ _ (by omega)]
      exact ((q5 e).ext hcd hk.2.2.2.2.2.1.2.1).fr (fun a k a0 a1 => hν a k (by omega)) (by rw [hν _ _ (by omega)]; exact Int.le_refl _)
theorem SC_cfr {ν : Mem} (hf : ∀ z k, ¬ ((z = 1 ∧ (k = 4 ∨ k = 5 ∨ k = 6)) ∨ (z = 4 ∧ k = 7) ∨ (25 ≤ z ∧ z ≤ 104 ∧ 0 ≤ k)) → ν z k = μ z k) : CFr μ ν := ⟨fun a k h1 => hf a k (by omega), by rw [hf _ _ (by omega)]; exact Int.le_refl _, by rw [hf _ _ (by omega)]; omega, by rw [hf _ _ (by omega)]; omega⟩
/-- one field of a plate is set after a change began -/
theorem set1 {μ1 : Mem} {d : Int} (hI1 : CIc μ1 d u (push (h 0) h) tx fed fa) (h7 : μ1 4 7 = 0) {p f v : Int} (hp : isPl (h 0) p) (f0 : 1 ≤ f) (f1 : f ≤ 6) (hok : okFld (setO (h 0) p (f + 6) v) p) : CIc (mUp μ1 (29 + 8 * d + p) f v) d u (push (setO (h 0) p (f + 6) v) h) tx fed fa := by
  have hcur := hI1.1.cur
  have hr : okRow (h 0) := hcur.1
  have hT : Sht μ1 d (h 0) := hcur.2
  have hr2 := hr.2.1
  refine hI1.fld h7 (fun j hj => setO_j (hj p (f + 6) hp.1 (by omega) (by omega) (by omega))) (fun z k hz => mUp_ne _ _ (by omega)) (fun q q0 q1 f' f0' f1' => ?_) (fun q q0 q1 => ?_)
  · have hpl := hT.2.2.2 q q0 q1
    have hfs : ∀ f, 1 ≤ f → f ≤ 6 → μ1 (29 + 8 * d + q) f = rO (h 0) q (f + 6) := fun f f0 f1 => by
      rcases (show f = 1 ∨ f = 2 ∨ f = 3 ∨ f = 4 ∨ f = 5 ∨ f = 6 by omega) with rfl | rfl | rfl | rfl | rfl | rfl
      · exact hpl.2.1.1
      · exact hpl.2.1.2.1
      · exact hpl.2.1.2.2
      · exact hpl.2.2.1.1
      · exact hpl.2.2.1.2.1
      · exact hpl.2.2.1.2.2
    by_cases e : q = p ∧ f' = f
    · rw [e.1, e.2, mUp_same, setO_at]
    · rw [mUp_ne _ _ (by omega), hfs f' f0' f1', setO_ne (by omega)]
  · by_cases e : q = p
    · rw [e]
      exact hok
    · have ho := (hr.2.2.2.2 q q0 q1).f
      unfold okFld
      simp (disch := omega) only [setO_ne]
      exact ho
theorem CFr.up {ν : Mem} (hf : CFr μ ν) {z k v : Int} (hz : 1 ≤ z ∧ z ≤ 104) : CFr μ (mUp ν z k v) :=
  ⟨fun a j h1 => by rw [mUp_ne _ _ (by omega)]; exact hf.1 a j h1, by rw [mUp_ne _ _ (by omega)]; exact hf.2.1, by rw [mUp_ne _ _ (by omega)]; exact hf.2.2.1, by rw [mUp_ne _ _ (by omega)]; exact hf.2.2.2⟩
theorem shape_rt (hI : CIc μ c u h tx fed fa) {p s : Int} (hp : isPl (h 0) p) (hs : 0 ≤ s ∧ s ≤ 3) : ∃ ν, FX6_shape 1 p s μ = RT (rO (h 0) p 9) ν ∧ ChP μ ν u h (setO (h 0) p 9 s) tx fed fa := by
  obtain ⟨μ1, e1, hI1, h7, hf⟩ := startChange_rt hI
  obtain ⟨⟨hS, ⟨c0, c1⟩, ⟨a1, a2, a3⟩, u0, b', d⟩, hB, hP⟩ := id hI1
  have hcur := hI1.1.cur
  have hr : okRow (h 0) := hcur.1
  have hT : Sht μ1 ((c + 1) % 10) (h 0) := hcur.2
  have hr2 := hr.2.1
  have p4 : p < 4 := by omega
  generalize hd : (c + 1) % 10 = d at *
  have ho := (hr.2.2.2.2 p hp.1 hp.2).f
  refine ⟨mUp μ1 (29 + 8 * d + p) 3 s, ?_, ⟨d, set1 (f := 3) hI1 h7 hp (by omega) (by omega) ?_⟩, (SC_cfr hf).up (by omega)⟩
  · have q1 : ¬ s < 0 := by omega
    have hpl := hT.2.2.2 p hp.1 hp.2
    unfold FX6_shape BX6_shape_0
    rw [hI.1.1.k6, reqP_ok hI hp]
    simp only [CL, ↓CLX_rt, q1, hs.2, ↓reduceIte]
    rw [hI.1.1.k6, e1]
    simp (disch := omega) only [↓CLX_rt, ↓hS.g6_6 a2, ↓hS.g6_0, ↓hS.g6_1, ↓hS.g6_2, ↓hS.g6_3, ↓hS.g6_4, ↓hS.g6_5, ↓hS.g6_7, ↓hS.g6_8, ↓hS.k6, ↓hS.g2_0, ↓hS.g2_1, ↓hS.g2_2, ↓hS.g2_3, ↓hS.g2_4, ↓hS.g2_5, ↓hS.g2_6, ↓hS.g2_7, ↓hS.k2, ↓hS.g3_0, ↓hS.g3_1, ↓hS.g3_2, ↓hS.g3_3, ↓hS.g3_4, ↓hS.k3, ↓hS.g4_0, ↓hS.g4_1, ↓hS.g4_3, ↓hS.g4_5, ↓hS.g4_6, ↓hS.g4_7, ↓hS.g4_8, ↓hS.g4_9, ↓hS.g4_10, ↓hS.g4_12, ↓hS.g4_11, ↓hS.k4, ↓hS.g5_0, ↓hS.g5_1, ↓hS.g5_2, ↓hS.g5_3, ↓hS.g5_4, ↓hS.g5_5, ↓hS.g5_6, ↓hS.k5, ↓hS.g1_0, ↓hS.g1_1, ↓hS.g1_2, ↓hS.g1_3, ↓hS.g1_4, ↓hS.g1_5, ↓hS.g1_6, ↓hS.g1_7, ↓hS.k1, ↓hS.l3, ↓hS.n3, ↓hS.l26, ↓hS.n26, ↓hS.l5, ↓hS.n5, ↓hS.l12, ↓hS.n12, ↓hS.l6, ↓hS.n6, ↓hS.l10, ↓hS.n10, ↓hS.l11, ↓hS.n11, ↓hS.l13, ↓hS.n13, ↓hS.l14, ↓hS.n14, ↓hS.l16, ↓hS.n16, ↓hS.l24, ↓hS.n24, ↓hS.l27, ↓hS.n27, ↓hS.l28, ↓hS.n28, ↓hS.l2, ↓hS.n2, ↓hS.p1_3, hpl.2.1.2.2]
  · unfold okFld
    simp (disch := omega) only [setO_ne]
    show _ ∧ (0 ≤ rO (setO (h 0) p 9 s) p 9 ∧ rO (setO (h 0) p 9 s) p 9 ≤ 3) ∧ _
    rw [setO_at]
    exact ⟨ho.1, hs, ho.2.2⟩
theorem shape_n1 (hI : CIc μ c u h tx fed fa) {p s : Int} (hp : ¬ isPl (h 0) p) : FX6_shape 1 p s μ = TH 1 μ := by
  unfold FX6_shape BX6_shape_0
  rw [hI.1.1.k6, reqP_no hI hp]
  rfl
theorem shape_n2 (hI : CIc μ c u h tx fed fa) {p s : Int} (hp : isPl (h 0) p) (hw : ¬ (0 ≤ s ∧ s ≤ 3)) : FX6_shape 1 p s μ = TH 2 μ := by
  unfold FX6_shape BX6_shape_0
  rw [hI.1.1.k6, reqP_ok hI hp]
  simp only [CL, ↓CLX_rt, BX6_shape_14]
  by_cases q1 : s < 0
  · rw [if_pos q1]
  rw [if_neg q1, if_neg (by omega)]
theorem shift_rt (hI : CIc μ c u h tx fed fa) {p a b : Int} (hp : isPl (h 0) p) (ha : 0 ≤ a ∧ a ≤ 17) (hb : 0 ≤ b ∧ b ≤ 17) : ∃ ν, FX6_shift 1 p a b μ = RT (dotsAll (setO (setO (h 0) p 10 a) p 11 b)) ν ∧ ChP μ ν u h (setO (setO (h 0) p 10 a) p 11 b) tx fed fa := by
  obtain ⟨μ1, e1, hI1, h7, hf⟩ := startChange_rt hI
  obtain ⟨⟨hS, ⟨c0, c1⟩, ⟨a1, a2, a3⟩, u0, b', d⟩, hB, hP⟩ := id hI1
  have hcur := hI1.1.cur
  have hr : okRow (h 0) := hcur.1
  have hT : Sht μ1 ((c + 1) % 10) (h 0) := hcur.2
  have hr2 := hr.2.1
  have p4 : p < 4 := by omega
  generalize hd : (c + 1) % 10 = d at *
  have hS2 : CSh (mUp μ1 (29 + 8 * d + p) 4 a) := hS.up (by unfold CSt; omega)
  have hS3 : CSh (mUp (mUp μ1 (29 + 8 * d + p) 4 a) (29 + 8 * d + p) 5 b) := hS2.up (by unfold CSt; omega)
  have v1 : mUp (mUp μ1 (29 + 8 * d + p) 4 a) (29 + 8 * d + p) 5 b (29 + 8 * d + p) 4 = a := by simp (disch := omega) only [mUp_ne, mUp_same]
  have v2 : mUp (mUp μ1 (29 + 8 * d + p) 4 a) (29 + 8 * d + p) 5 b (29 + 8 * d + p) 5 = b := mUp_same _ _ _ _
  have hfr : ∀ z k, ¬ (z = 29 + 8 * d + p ∧ 4 ≤ k ∧ k ≤ 5) → mUp (mUp μ1 (29 + 8 * d + p) 4 a) (29 + 8 * d + p) 5 b z k = μ1 z k := fun z k hz => by simp (disch := omega) only [mUp_ne]
  have hI2 : CIc (mUp (mUp μ1 (29 + 8 * d + p) 4 a) (29 + 8 * d + p) 5 b) d (uUp u) (push (setO (setO (h 0) p 10 a) p 11 b) h) tx fed fa := by
    refine hI1.fld h7 (fun j hj => ?_) (fun z k hz => hfr z k (by omega)) (fun q q0 q1 f f0 f1 => ?_) (fun q q0 q1 => ?_)
    · rw [setO_j (hj p 11 hp.1 p4 (by omega) (by omega)), setO_j (hj p 10 hp.1 p4 (by omega) (by omega))]
    · have hpl := hT.2.2.2 q q0 q1
      have hfs : ∀ f, 1 ≤ f → f ≤ 6 → μ1 (29 + 8 * d + q) f = rO (h 0) q (f + 6) := fun f f0 f1 => by
        rcases (show f = 1 ∨ f = 2 ∨ f = 3 ∨ f = 4 ∨ f = 5 ∨ f = 6 by omega) with rfl | rfl | rfl | rfl | rfl | rfl
        · exact hpl.2.1.1
        · exact hpl.2.1.2.1
        · exact hpl.2.1.2.2
        · exact hpl.2.2.1.1
        · exact hpl.2.2.1.2.1
        · exact hpl.2.2.1.2.2
      by_cases e : q = p ∧ f = 4
      · rw [e.1, e.2, v1, setO_ne (by omega)]
        exact (setO_at _ _ _ _).symm
      · by_cases e2 : q = p ∧ f = 5
        · rw [e2.1, e2.2, v2]
          exact (setO_at _ _ _ _).symm
        · rw [hfr _ _ (by omega), hfs f f0 f1, setO_ne (by omega), setO_ne (by omega)]
    · have ho := (hr.2.2.2.2 q q0 q1).f
      unfold okFld
      by_cases e : q = p
      · subst e
        simp (disch := omega) only [setO_ne, setO_at]
        exact ⟨ho.1, ho.2.1, ⟨ha.1, ha.2, hb.1, hb.2⟩, ho.2.2.2⟩
      · simp (disch := omega) only [setO_ne]
        exact ho
  obtain ⟨ν, e2, hI3, hK, hF, -⟩ := upd_rt hI2
  obtain ⟨⟨hS4, -, ⟨-, b4, -⟩, -, -, -⟩, -, -⟩ := id hI3
  have hr3 := hI3.1.cur.1
  have hT3 := hI3.1.cur.2
  have hc1 : CFr μ (mUp (mUp μ1 (29 + 8 * d + p) 4 a) (29 + 8 * d + p) 5 b) := ((SC_cfr hf).up (by omega)).up (by omega)
  refine ⟨ν, ?_, ⟨d, hI3⟩, ?_⟩
  · have q1 : ¬ a < 0 := by omega
    have q2 : ¬ 17 < a := by omega
    have q3 : ¬ b < 0 := by omega
    have b6 : mUp μ1 (29 + 8 * d + p) 4 a 1 6 = 25 + 8 * d := by rw [mUp_ne _ _ (by omega), a2]
    have b7 : mUp (mUp μ1 (29 + 8 * d + p) 4 a) (29 + 8 * d + p) 5 b 1 6 = 25 + 8 * d := by rw [hfr _ _ (by omega), a2]
    unfold FX6_shift BX6_shift_0
    rw [hI.1.1.k6, reqP_ok hI hp]
    simp only [CL, ↓CLX_rt, q1, q2, q3, hb.2, ↓reduceIte]
    rw [hI.1.1.k6, e1]
    simp (disch := omega) only [↓CLX_rt, ↓hS.g6_6 a2, ↓hS.g6_0, ↓hS.g6_1, ↓hS.g6_2, ↓hS.g6_3, ↓hS.g6_4, ↓hS.g6_5, ↓hS.g6_7, ↓hS.g6_8, ↓hS.k6, ↓hS.g2_0, ↓hS.g2_1, ↓hS.g2_2, ↓hS.g2_3, ↓hS.g2_4, ↓hS.g2_5, ↓hS.g2_6, ↓hS.g2_7, ↓hS.k2, ↓hS.g3_0, ↓hS.g3_1, ↓hS.g3_2, ↓hS.g3_3, ↓hS.g3_4, ↓hS.k3, ↓hS.g4_0, ↓hS.g4_1, ↓hS.g4_3, ↓hS.g4_5, ↓hS.g4_6, ↓hS.g4_7, ↓hS.g4_8, ↓hS.g4_9, ↓hS.g4_10, ↓hS.g4_12, ↓hS.g4_11, ↓hS.k4, ↓hS.g5_0, ↓hS.g5_1, ↓hS.g5_2, ↓hS.g5_3, ↓hS.g5_4, ↓hS.g5_5, ↓hS.g5_6, ↓hS.k5, ↓hS.g1_0, ↓hS.g1_1, ↓hS.g1_2, ↓hS.g1_3, ↓hS.g1_4, ↓hS.g1_5, ↓hS.g1_6, ↓hS.g1_7, ↓hS.k1, ↓hS.l3, ↓hS.n3, ↓hS.l26, ↓hS.n26, ↓hS.l5, ↓hS.n5, ↓hS.l12, ↓hS.n12, ↓hS.l6, ↓hS.n6, ↓hS.l10, ↓hS.n10, ↓hS.l11, ↓hS.n11, ↓hS.l13, ↓hS.n13, ↓hS.l14, ↓hS.n14, ↓hS.l16, ↓hS.n16, ↓hS.l24, ↓hS.n24, ↓hS.l27, ↓hS.n27, ↓hS.l28, ↓hS.n28, ↓hS.l2, ↓hS.n2, ↓hS.p1_4, ↓hS2.g6_6 b6, ↓hS2.g6_0, ↓hS2.g6_1, ↓hS2.g6_2, ↓hS2.g6_3, ↓hS2.g6_4, ↓hS2.g6_5, ↓hS2.g6_7, ↓hS2.g6_8, ↓hS2.k6, ↓hS2.g2_0, ↓hS2.g2_1, ↓hS2.g2_2, ↓hS2.g2_3, ↓hS2.g2_4, ↓hS2.g2_5, ↓hS2.g2_6, ↓hS2.g2_7, ↓hS2.k2, ↓hS2.g3_0, ↓hS2.g3_1, ↓hS2.g3_2, ↓hS2.g3_3, ↓hS2.g3_4, ↓hS2.k3, ↓hS2.g4_0, ↓hS2.g4_1, ↓hS2.g4_3, ↓hS2.g4_5, ↓hS2.g4_6, ↓hS2.g4_7, ↓hS2.g4_8, ↓hS2.g4_9, ↓hS2.g4_10, ↓hS2.g4_12, ↓hS2.g4_11, ↓hS2.k4, ↓hS2.g5_0, ↓hS2.g5_1, ↓hS2.g5_2, ↓hS2.g5_3, ↓hS2.g5_4, ↓hS2.g5_5, ↓hS2.g5_6, ↓hS2.k5, ↓hS2.g1_0, ↓hS2.g1_1, ↓hS2.g1_2, ↓hS2.g1_3, ↓hS2.g1_4, ↓hS2.g1_5, ↓hS2.g1_6, ↓hS2.g1_7, ↓hS2.k1, ↓hS2.l3, ↓hS2.n3, ↓hS2.l26, ↓hS2.n26, ↓hS2.l5, ↓hS2.n5, ↓hS2.l12, ↓hS2.n12, ↓hS2.l6, ↓hS2.n6, ↓hS2.l10, ↓hS2.n10, ↓hS2.l11, ↓hS2.n11, ↓hS2.l13, ↓hS2.n13, ↓hS2.l14, ↓hS2.n14, ↓hS2.l16, ↓hS2.n16, ↓hS2.l24, ↓hS2.n24, ↓hS2.l27, ↓hS2.n27, ↓hS2.l28, ↓hS2.n28, ↓hS2.l2, ↓hS2.n2, ↓hS2.p1_5, ↓hS3.g6_6 b7, ↓hS3.g6_0, ↓hS3.g6_1, ↓hS3.g6_2, ↓hS3.g6_3, ↓hS3.g6_4, ↓hS3.g6_5, ↓hS3.g6_7, ↓hS3.g6_8, ↓hS3.k6, ↓hS3.g2_0, ↓hS3.g2_1, ↓hS3.g2_2, ↓hS3.g2_3, ↓hS3.g2_4, ↓hS3.g2_5, ↓hS3.g2_6, ↓hS3.g2_7, ↓hS3.k2, ↓hS3.g3_0, ↓hS3.g3_1, ↓hS3.g3_2, ↓hS3.g3_3, ↓hS3.g3_4, ↓hS3.k3, ↓hS3.g4_0, ↓hS3.g4_1, ↓hS3.g4_3, ↓hS3.g4_5, ↓hS3.g4_6, ↓hS3.g4_7, ↓hS3.g4_8, ↓hS3.g4_9, ↓hS3.g4_10, ↓hS3.g4_12, ↓hS3.g4_11, ↓hS3.k4, ↓hS3.g5_0, ↓hS3.g5_1, ↓hS3.g5_2, ↓hS3.g5_3, ↓hS3.g5_4, ↓hS3.g5_5, ↓hS3.g5_6, ↓hS3.k5, ↓hS3.g1_0, ↓hS3.g1_1, ↓hS3.g1_2, ↓hS3.g1_3, ↓hS3.g1_4, ↓hS3.g1_5, ↓hS3.g1_6, ↓hS3.g1_7, ↓hS3.k1, ↓hS3.l3, ↓hS3.n3, ↓hS3.l26, ↓hS3.n26, ↓hS3.l5, ↓hS3.n5, ↓hS3.l12, ↓hS3.n12, ↓hS3.l6, ↓hS3.n6, ↓hS3.l10, ↓hS3.n10, ↓hS3.l11, ↓hS3.n11, ↓hS3.l13, ↓hS3.n13, ↓hS3.l14, ↓hS3.n14, ↓hS3.l16, ↓hS3.n16, ↓hS3.l24, ↓hS3.n24, ↓hS3.l27, ↓hS3.n27, ↓hS3.l28, ↓hS3.n28, ↓hS3.l2, ↓hS3.n2]
    rw [e2]
    simp (disch := omega) only [↓CLX_rt, ↓hS4.g6_6 b4, ↓hS4.g6_0, ↓hS4.g6_1, ↓hS4.g6_2, ↓hS4.g6_3, ↓hS4.g6_4, ↓hS4.g6_5, ↓hS4.g6_7, ↓hS4.g6_8, ↓hS4.k6, ↓hS4.g2_0, ↓hS4.g2_1, ↓hS4.g2_2, ↓hS4.g2_3, ↓hS4.g2_4, ↓hS4.g2_5, ↓hS4.g2_6, ↓hS4.g2_7, ↓hS4.k2, ↓hS4.g3_0, ↓hS4.g3_1, ↓hS4.g3_2, ↓hS4.g3_3, ↓hS4.g3_4, ↓hS4.k3, ↓hS4.g4_0, ↓hS4.g4_1, ↓hS4.g4_3, ↓hS4.g4_5, ↓hS4.g4_6, ↓hS4.g4_7, ↓hS4.g4_8, ↓hS4.g4_9, ↓hS4.g4_10, ↓hS4.g4_12, ↓hS4.g4_11, ↓hS4.k4, ↓hS4.g5_0, ↓hS4.g5_1, ↓hS4.g5_2, ↓hS4.g5_3, ↓hS4.g5_4, ↓hS4.g5_5, ↓hS4.g5_6, ↓hS4.k5, ↓hS4.g1_0, ↓hS4.g1_1, ↓hS4.g1_2, ↓hS4.g1_3, ↓hS4.g1_4, ↓hS4.g1_5, ↓hS4.g1_6, ↓hS4.g1_7, ↓hS4.k1, ↓hS4.l3, ↓hS4.n3, ↓hS4.l26, ↓hS4.n26, ↓hS4.l5, ↓hS4.n5, ↓hS4.l12, ↓hS4.n12, ↓hS4.l6, ↓hS4.n6, ↓hS4.l10, ↓hS4.n10, ↓hS4.l11, ↓hS4.n11, ↓hS4.l13, ↓hS4.n13, ↓hS4.l14, ↓hS4.n14, ↓hS4.l16, ↓hS4.n16, ↓hS4.l24, ↓hS4.n24, ↓hS4.l27, ↓hS4.n27, ↓hS4.l28, ↓hS4.n28, ↓hS4.l2, ↓hS4.n2, ↓dotsOfAll_rt_c hS4 c0 c1 hr3 hT3 hK.2.2.1]
    rfl
  · exact ⟨fun z k h1 => by rw [hF.2 _ _ (by omega)]; exact hc1.1 z k h1, by rw [hF.2 _ _ (by omega)]; exact hc1.2.1, by rw [hF.2 _ _ (by omega)]; exact hc1.2.2.1, by rw [hF.2 _ _ (by omega)]; exact hc1.2.2.2⟩
theorem shift_n1 (hI : CIc μ c u h tx fed fa) {p a b : Int} (hp : ¬ isPl (h 0) p) : FX6_shift 1 p a b μ = TH 1 μ := by
  unfold FX6_shift BX6_shift_0
  rw [hI.1.1.k6, reqP_no hI hp]
  rfl
theorem shift_n2 (hI : CIc μ c u h tx fed fa) {p a b : Int} (hp : isPl (h 0) p) (hw : ¬ ((0 ≤ a ∧ a ≤ 17) ∧ 0 ≤ b ∧ b ≤ 17)) : FX6_shift 1 p a b μ = TH 2 μ := by
  unfold FX6_shift BX6_shift_0
  rw [hI.1.1.k6, reqP_ok hI hp]
  simp only [CL, ↓CLX_rt, BX6_shift_25]
  by_cases q1 : a < 0
  · rw [if_pos q1]
  rw [if_neg q1]
  by_cases q2 : 17 < a
  · rw [if_pos q2]
  rw [if_neg q2]
  by_cases q3 : b < 0
  · rw [if_pos q3]
  rw [if_neg q3, if_neg (by omega)]
end ALT

