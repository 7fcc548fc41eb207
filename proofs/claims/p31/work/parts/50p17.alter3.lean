/-! the component's face: paint, clean, dirty -/
def paintR (r : Row) (x y w q t : Int) : Row := fun j => if (4 ≤ j ∧ j < 196) ∧ (x ≤ (j - 4) % 16 ∧ (j - 4) % 16 < x + w) ∧ y ≤ (j - 4) / 16 ∧ (j - 4) / 16 < y + q then t else r j
theorem paintR_t {r : Row} {x y w q t a b : Int} (a0 : 0 ≤ a) (a1 : a < 16) (b0 : 0 ≤ b) (b1 : b < 12) : rT (paintR r x y w q t) a b = if (x ≤ a ∧ a < x + w) ∧ y ≤ b ∧ b < y + q then t else rT r a b := by
  have e1 : (4 + 16 * b + a - 4) % 16 = a := by omega
  have e2 : (4 + 16 * b + a - 4) / 16 = b := by omega
  show (if (4 ≤ 4 + 16 * b + a ∧ 4 + 16 * b + a < 196) ∧ (x ≤ (4 + 16 * b + a - 4) % 16 ∧ (4 + 16 * b + a - 4) % 16 < x + w) ∧ y ≤ (4 + 16 * b + a - 4) / 16 ∧ (4 + 16 * b + a - 4) / 16 < y + q then t else r (4 + 16 * b + a)) = _
  rw [e1, e2]
  by_cases e : (x ≤ a ∧ a < x + w) ∧ y ≤ b ∧ b < y + q
  · rw [if_pos e, if_pos ⟨by omega, e⟩]
  · rw [if_neg e, if_neg (fun k => e k.2)]
    rfl
theorem paintR_ne {r : Row} {x y w q t j : Int} (hj : ¬ (4 ≤ j ∧ j < 196)) : paintR r x y w q t j = r j := if_neg (fun k => hj k.1)
theorem paintR_o {r : Row} {x y w q t p k : Int} (p0 : 0 ≤ p) (k0 : 0 ≤ k) : rO (paintR r x y w q t) p k = rO r p k := paintR_ne (by omega)
/-- all of a row but its tones is the same -/
theorem okRow.tones {r r' : Row} (hr : okRow r) (h : ∀ j, ¬ (4 ≤ j ∧ j < 196) → r' j = r j) (ht : ∀ x y, 0 ≤ x → x < r 0 → 0 ≤ y → y < r 1 → 0 ≤ rT r' x y ∧ rT r' x y ≤ 100) : okRow r' := by
  obtain ⟨a, b, d, e, f⟩ := hr
  have ho : ∀ p k, 0 ≤ p → 0 ≤ k → rO r' p k = rO r p k := fun p k p0 k0 => h _ (by omega)
  refine ⟨by rw [h 0 (by omega), h 1 (by omega)]; exact a, by rw [h 2 (by omega)]; exact b, by rw [h 3 (by omega)]; exact d, fun x y x0 x1 y0 y1 => ?_, fun p p0 p1 => ?_⟩
  · rw [h 0 (by omega)] at x1
    rw [h 1 (by omega)] at y1
    exact ht x y x0 x1 y0 y1
  · rw [h 2 (by omega)] at p1
    obtain ⟨q1, q2, q3, q4, g5, g6, g7, g8, g9⟩ := f p p0 p1
    refine ⟨?_, ?_, ?_, ?_, fun y y0 y1 => ?_, g6.ext (fun k hk => ho p k p0 (by omega)), ?_, ?_, fun j j0 j1 => ?_⟩
    · rw [ho p 7 p0 (by omega), ho p 8 p0 (by omega)]; exact q1
    · rw [ho p 9 p0 (by omega)]; exact q2
    · rw [ho p 10 p0 (by omega), ho p 11 p0 (by omega)]; exact q3
    · rw [ho p 12 p0 (by omega)]; exact q4
    · rw [h 1 (by omega)] at y1
      rw [ho p _ p0 (by omega), h 0 (by omega)]
      exact g5 y y0 y1
    · rw [ho p 0 p0 (by omega)]; exact g7
    · rw [ho p 0 p0 (by omega)]; exact g8
    · rw [ho p 0 p0 (by omega)] at j1
      rw [ho p _ p0 (by omega)]
      exact g9 j j0 j1
section ALT3
variable {μ : Mem} {c u fed fa : Int} {h : Int → Row} {tx : Int → Int}
/-- the current row is replaced, its sheet changes, and the print is forgotten -/
theorem CIc.set0 {r r' : Row} {ν : Mem} (hI : CIc μ c u (push r h) tx fed fa) (h6 : ν 4 6 = 0) (h7 : ν 4 7 = 0) (hS : CSh ν) (hf : ∀ z k, ¬ ((25 + 8 * c ≤ z ∧ z ≤ 32 + 8 * c ∧ 0 ≤ k) ∨ (z = 4 ∧ (k = 6 ∨ k = 7))) → ν z k = μ z k) (hr' : okRow r') (hT : Sht ν c r') : CIc ν c u (push r' h) tx fed fa := by
  obtain ⟨⟨_, ⟨c0, c1⟩, ⟨a1, a2, a3⟩, u0, b, d⟩, hB, ⟨⟨p1, p2⟩, p3, p4, p5⟩⟩ := hI
  refine ⟨⟨hS, ⟨c0, c1⟩, ⟨by rw [hf _ _ (by omega), a1], by rw [hf _ _ (by omega), a2], by rw [hf _ _ (by omega), a3]⟩, u0, fun j j0 j1 => ?_, by rw [hf _ _ (by omega)]; exact d⟩, ⟨hB.1, ⟨by rw [hf _ _ (by omega), hB.2.1.1], by rw [hf _ _ (by omega), hB.2.1.2.1], hB.2.1.2.2⟩, fun k k0 k1 => by rw [hf _ _ (by omega)]; exact hB.2.2 k k0 k1⟩, ⟨⟨Or.inl h6, Or.inl h7⟩, fun q => by omega, fun q => by omega, fun p p0 q1 => (p5 p p0 q1).fr (fun k k0 => hf _ _ (by omega)) (fun k k0 => hf _ _ (by omega))⟩⟩
  by_cases e : j = 0
  · subst e
    rw [Int.sub_zero, Int.emod_eq_of_lt c0 c1]
    exact ⟨hr', hT⟩
  · have hb := b j j0 j1
    have e1 : push r h j = h (j - 1) := if_neg e
    have e2 : push r' h j = h (j - 1) := if_neg e
    rw [e1] at hb
    rw [e2]
    exact ⟨hb.1, hb.2.fr hb.1 (fun a k h1 h2 h3 => hf a k (by omega)) (fun a k h1 h2 => hf a k (by omega)) (by rw [hf _ _ (by omega)]; exact Int.le_refl _)⟩
abbrev isPa (r : Row) (x y w q t : Int) : Prop := (1 ≤ w ∧ w ≤ r 0 - x) ∧ (1 ≤ q ∧ q ≤ r 1 - y) ∧ 0 ≤ t ∧ t ≤ 100
theorem paint_rt (hI : CIc μ c u h tx fed fa) {x y w q t : Int} (hc : isCe (h 0) x y) (hp : isPa (h 0) x y w q t) : ∃ ν, FX6_paint 1 x y w q t μ = RT (dotsAll (paintR (h 0) x y w q t)) ν ∧ ChP μ ν u h (paintR (h 0) x y w q t) tx fed fa := by
  obtain ⟨μ1, e1, hI1, h7, hf⟩ := startChange_rt hI
  obtain ⟨⟨hS, ⟨c0, c1⟩, ⟨a1, a2, a3⟩, u0, b', d⟩, hB, hP⟩ := id hI1
  have hS0 := hI.1.1
  have ha0 := hI.1.2.2.1
  have hT0 := hI.1.cur.2
  have hc0 := hI.1.2.1
  have hcur := hI1.1.cur
  have hr : okRow (h 0) := hcur.1
  have hT : Sht μ1 ((c + 1) % 10) (h 0) := hcur.2
  have hr1 := hr.1
  have hr2 := hr.2.1
  generalize hd : (c + 1) % 10 = d at *
  have estart : FX6_paint 1 x y w q t μ = LX6_paint_83 FU 1 x y w q t y μ1 := by
    have k1 : ¬ w < 1 := by omega
    have k2 : ¬ q < 1 := by omega
    have k3 : ¬ h 0 0 - x < w := by omega
    have k4 : ¬ t < 0 := by omega
    have k5 : q ≤ h 0 1 - y := by omega
    have k6 : t ≤ 100 := by omega
    unfold FX6_paint BX6_paint_0
    rw [hS0.k6, reqC_ok hI hc]
    simp (disch := omega) only [CL, ↓CLX_rt, k1, k2, ↓reduceIte, ↓hS0.g6_6 ha0.2.1, ↓hS0.g6_0, ↓hS0.g6_1, ↓hS0.g6_2, ↓hS0.g6_3, ↓hS0.g6_4, ↓hS0.g6_5, ↓hS0.g6_7, ↓hS0.g6_8, ↓hS0.k6, ↓hS0.g2_0, ↓hS0.g2_1, ↓hS0.g2_2, ↓hS0.g2_3, ↓hS0.g2_4, ↓hS0.g2_5, ↓hS0.g2_6, ↓hS0.g2_7, ↓hS0.k2, ↓hS0.g3_0, ↓hS0.g3_1, ↓hS0.g3_2, ↓hS0.g3_3, ↓hS0.g3_4, ↓hS0.k3, ↓hS0.g4_0, ↓hS0.g4_1, ↓hS0.g4_3, ↓hS0.g4_5, ↓hS0.g4_6, ↓hS0.g4_7, ↓hS0.g4_8, ↓hS0.g4_9, ↓hS0.g4_10, ↓hS0.g4_12, ↓hS0.g4_11, ↓hS0.k4, ↓hS0.g5_0, ↓hS0.g5_1, ↓hS0.g5_2, ↓hS0.g5_3, ↓hS0.g5_4, ↓hS0.g5_5, ↓hS0.g5_6, ↓hS0.k5, ↓hS0.g1_0, ↓hS0.g1_1, ↓hS0.g1_2, ↓hS0.g1_3, ↓hS0.g1_4, ↓hS0.g1_5, ↓hS0.g1_6, ↓hS0.g1_7, ↓hS0.k1, ↓hS0.l3, ↓hS0.n3, ↓hS0.l26, ↓hS0.n26, ↓hS0.l5, ↓hS0.n5, ↓hS0.l12, ↓hS0.n12, ↓hS0.l6, ↓hS0.n6, ↓hS0.l10, ↓hS0.n10, ↓hS0.l11, ↓hS0.n11, ↓hS0.l13, ↓hS0.n13, ↓hS0.l14, ↓hS0.n14, ↓hS0.l16, ↓hS0.n16, ↓hS0.l24, ↓hS0.n24, ↓hS0.l27, ↓hS0.n27, ↓hS0.l28, ↓hS0.n28, ↓hS0.l2, ↓hS0.n2, hT0.1.1, hT0.1.2.1, w32_eq, k3, k4, k5, k6]
    rw [e1]
    simp only [↓CLX_rt]
  rw [estart]
  have hfin : ∀ s : Mem, (∀ z k, ¬ (z = 27 + 8 * d ∧ 0 ≤ k) → s z k = μ1 z k) → (∀ x' y', 0 ≤ x' → x' < h 0 0 → 0 ≤ y' → y' < h 0 1 → s (27 + 8 * d) (y' * h 0 0 + x') = rT (paintR (h 0) x y w q t) x' y') → ∀ n : Nat, ∃ ν, LX6_paint_83 (n + 1) 1 x y w q t (y + q) s = RT (dotsAll (paintR (h 0) x y w q t)) ν ∧ ChP μ ν u h (paintR (h 0) x y w q t) tx fed fa := fun s h1 h2 n => by
    have hS2 : CSh s := hS.fr fun z j hj => h1 z j (by unfold CSt at hj; omega)
    have b6 : s 1 6 = 25 + 8 * d := by rw [h1 _ _ (by omega), a2]
    have hS3 : CSh (mUp s 4 6 0) := hS2.up (by unfold CSt; omega)
    have hS4 : CSh (mUp (mUp s 4 6 0) 4 7 0) := hS3.up (by unfold CSt; omega)
    have hfr : ∀ z k, ¬ ((z = 27 + 8 * d ∧ 0 ≤ k) ∨ (z = 4 ∧ (k = 6 ∨ k = 7))) → mUp (mUp s 4 6 0) 4 7 0 z k = μ1 z k := fun z k hz => by rw [mUp_ne _ _ (by omega), mUp_ne _ _ (by omega), h1 _ _ (by omega)]
    have hok : okRow (paintR (h 0) x y w q t) := hr.tones (fun j hj => paintR_ne hj) fun x' y' x0 x1 y0 y1 => by
      rw [paintR_t x0 (by omega) y0 (by omega)]
      split
      · omega
      · exact hr.2.2.2.1 x' y' x0 x1 y0 y1
    have hT3 : Sht (mUp (mUp s 4 6 0) 4 7 0) d (paintR (h 0) x y w q t) := by
      refine ⟨⟨?_, ?_, ?_, ?_⟩, fun x' y' x0 x1 y0 y1 => ?_, fun x' y' x0 x1 y0 y1 => ?_, fun p p0 p1 => ?_⟩
      · rw [hfr _ _ (by omega), paintR_ne (by omega), hT.1.1]
      · rw [hfr _ _ (by omega), paintR_ne (by omega), hT.1.2.1]
      · rw [hfr _ _ (by omega), paintR_ne (by omega), hT.1.2.2.1]
      · rw [hfr _ _ (by omega), paintR_ne (by omega), hT.1.2.2.2]
      · rw [paintR_ne (by omega)] at x1 y1
        rw [mUp_ne _ _ (by omega), mUp_ne _ _ (by omega), paintR_ne (j := 0) (by omega)]
        exact h2 x' y' x0 x1 y0 y1
      · rw [paintR_ne (by omega)] at x1 y1
        have h3 := hT.2.2.1 x' y' x0 x1 y0 y1
        rw [hfr _ _ (by omega), paintR_ne (j := 0) (by omega)]
        refine ⟨h3.1, fun p p0 p1 => ?_⟩
        rw [paintR_ne (j := 2) (by omega), paintR_o p0 (by omega)]
        exact h3.2 p p0 p1
      · rw [paintR_ne (by omega)] at p1
        have hk := hr.2.2.2.2 p p0 p1
        obtain ⟨q1, q2, q3, q4, q5⟩ := hT.2.2.2 p p0 p1
        have hcd : CdS (h 0) (paintR (h 0) x y w q t) p := fun k hk => paintR_o p0 (by omega)
        refine ⟨?_, ?_, ?_, fun e => ?_, fun e => ?_⟩
        · rw [hfr _ _ (by omega), nmO_ext hcd hk.2.2.2.2.2.2.2.1, q1]
        · simp (disch := omega) only [hfr, paintR_o p0]
          exact q2
        · simp (disch := omega) only [hfr, paintR_o p0]
          exact q3
        · rw [paintR_o p0 (by omega)] at e
          rw [hfr _ _ (by omega), q4 e]
        · rw [paintR_o p0 (by omega)] at e
          rw [hfr _ _ (by omega)]
          exact ((q5 e).ext hcd hk.2.2.2.2.2.1.2.1).fr (fun a k a0 a1 => hfr _ _ (by omega)) (by rw [hfr _ _ (by omega)]; exact Int.le_refl _)
    have hI3 : CIc (mUp (mUp s 4 6 0) 4 7 0) d (uUp u) (push (paintR (h 0) x y w q t) h) tx fed fa := hI1.set0 (by rw [mUp_ne _ _ (by omega), mUp_same]) (mUp_same _ _ _ _) hS4 (fun z k hz => hfr z k (by omega)) hok hT3
    obtain ⟨ν, e2, hI4, hK, hF, -⟩ := upd_rt hI3
    obtain ⟨⟨hS5, -, ⟨-, b4, -⟩, -, -, -⟩, -, -⟩ := id hI4
    have hcf := SC_cfr (μ := μ) hf
    refine ⟨ν, ?_, ⟨d, hI4⟩, fun z j g1 => by rw [hF.2 _ _ (by omega), hfr _ _ (by omega)]; exact hcf.1 z j g1, by rw [hF.2 _ _ (by omega), hfr _ _ (by omega)]; exact hcf.2.1, by rw [hF.2 _ _ (by omega), hfr _ _ (by omega)]; exact hcf.2.2.1, by rw [hF.2 _ _ (by omega), hfr _ _ (by omega)]; exact hcf.2.2.2⟩
    have b7 : mUp (mUp s 4 6 0) 4 7 0 1 6 = 25 + 8 * d := by rw [hfr _ _ (by omega), a2]
    have ef : FX2_forgetTones 4 s = RT 0 (mUp (mUp s 4 6 0) 4 7 0) := by
      unfold FX2_forgetTones BX2_forgetTones_0
      rw [hS2.z2_6 (Or.inl rfl), hS3.z2_7 (Or.inl rfl)]
    simp (disch := omega) only [LX6_paint_83, BX6_paint_83, w32_eq, Int.le_refl, ↓reduceIte, ↓hS2.g6_0, ↓hS2.g6_1, ↓hS2.g6_2, ↓hS2.g6_3, ↓hS2.g6_4, ↓hS2.g6_5, ↓hS2.g6_7, ↓hS2.g6_8, ↓hS2.k6, ↓hS2.g2_0, ↓hS2.g2_1, ↓hS2.g2_2, ↓hS2.g2_3, ↓hS2.g2_4, ↓hS2.g2_5, ↓hS2.g2_6, ↓hS2.g2_7, ↓hS2.k2, ↓hS2.g3_0, ↓hS2.g3_1, ↓hS2.g3_2, ↓hS2.g3_3, ↓hS2.g3_4, ↓hS2.k3, ↓hS2.g4_0, ↓hS2.g4_1, ↓hS2.g4_3, ↓hS2.g4_5, ↓hS2.g4_6, ↓hS2.g4_7, ↓hS2.g4_8, ↓hS2.g4_9, ↓hS2.g4_10, ↓hS2.g4_12, ↓hS2.g4_11, ↓hS2.k4, ↓hS2.g5_0, ↓hS2.g5_1, ↓hS2.g5_2, ↓hS2.g5_3, ↓hS2.g5_4, ↓hS2.g5_5, ↓hS2.g5_6, ↓hS2.k5, ↓hS2.g1_0, ↓hS2.g1_1, ↓hS2.g1_2, ↓hS2.g1_3, ↓hS2.g1_4, ↓hS2.g1_5, ↓hS2.g1_6, ↓hS2.g1_7, ↓hS2.k1, ↓hS2.l3, ↓hS2.n3, ↓hS2.l26, ↓hS2.n26, ↓hS2.l5, ↓hS2.n5, ↓hS2.l12, ↓hS2.n12, ↓hS2.l6, ↓hS2.n6, ↓hS2.l10, ↓hS2.n10, ↓hS2.l11, ↓hS2.n11, ↓hS2.l13, ↓hS2.n13, ↓hS2.l14, ↓hS2.n14, ↓hS2.l16, ↓hS2.n16, ↓hS2.l24, ↓hS2.n24, ↓hS2.l27, ↓hS2.n27, ↓hS2.l28, ↓hS2.n28, ↓hS2.l2, ↓hS2.n2, ef, CL, CLX_rt, ↓hS4.g6_6 b7, ↓hS4.g6_0, ↓hS4.g6_1, ↓hS4.g6_2, ↓hS4.g6_3, ↓hS4.g6_4, ↓hS4.g6_5, ↓hS4.g6_7, ↓hS4.g6_8, ↓hS4.k6, ↓hS4.g2_0, ↓hS4.g2_1, ↓hS4.g2_2, ↓hS4.g2_3, ↓hS4.g2_4, ↓hS4.g2_5, ↓hS4.g2_6, ↓hS4.g2_7, ↓hS4.k2, ↓hS4.g3_0, ↓hS4.g3_1, ↓hS4.g3_2, ↓hS4.g3_3, ↓hS4.g3_4, ↓hS4.k3, ↓hS4.g4_0, ↓hS4.g4_1, ↓hS4.g4_3, ↓hS4.g4_5, ↓hS4.g4_6, ↓hS4.g4_7, ↓hS4.g4_8, ↓hS4.g4_9, ↓hS4.g4_10, ↓hS4.g4_12, ↓hS4.g4_11, ↓hS4.k4, ↓hS4.g5_0, ↓hS4.g5_1, ↓hS4.g5_2, ↓hS4.g5_3, ↓hS4.g5_4, ↓hS4.g5_5, ↓hS4.g5_6, ↓hS4.k5, ↓hS4.g1_0, ↓hS4.g1_1, ↓hS4.g1_2, ↓hS4.g1_3, ↓hS4.g1_4, ↓hS4.g1_5, ↓hS4.g1_6, ↓hS4.g1_7, ↓hS4.k1, ↓hS4.l3, ↓hS4.n3, ↓hS4.l26, ↓hS4.n26, ↓hS4.l5, ↓hS4.n5, ↓hS4.l12, ↓hS4.n12, ↓hS4.l6, ↓hS4.n6, ↓hS4.l10, ↓hS4.n10, ↓hS4.l11, ↓hS4.n11, ↓hS4.l13, ↓hS4.n13, ↓hS4.l14, ↓hS4.n14, ↓hS4.l16, ↓hS4.n16, ↓hS4.l24, ↓hS4.n24, ↓hS4.l27, ↓hS4.n27, ↓hS4.l28, ↓hS4.n28, ↓hS4.l2, ↓hS4.n2, e2, ↓hS5.g6_6 b4, ↓hS5.g6_0, ↓hS5.g6_1, ↓hS5.g6_2, ↓hS5.g6_3, ↓hS5.g6_4, ↓hS5.g6_5, ↓hS5.g6_7, ↓hS5.g6_8, ↓hS5.k6, ↓hS5.g2_0, ↓hS5.g2_1, ↓hS5.g2_2, ↓hS5.g2_3, ↓hS5.g2_4, ↓hS5.g2_5, ↓hS5.g2_6, ↓hS5.g2_7, ↓hS5.k2, ↓hS5.g3_0, ↓hS5.g3_1, ↓hS5.g3_2, ↓hS5.g3_3, ↓hS5.g3_4, ↓hS5.k3, ↓hS5.g4_0, ↓hS5.g4_1, ↓hS5.g4_3, ↓hS5.g4_5, ↓hS5.g4_6, ↓hS5.g4_7, ↓hS5.g4_8, ↓hS5.g4_9, ↓hS5.g4_10, ↓hS5.g4_12, ↓hS5.g4_11, ↓hS5.k4, ↓hS5.g5_0, ↓hS5.g5_1, ↓hS5.g5_2, ↓hS5.g5_3, ↓hS5.g5_4, ↓hS5.g5_5, ↓hS5.g5_6, ↓hS5.k5, ↓hS5.g1_0, ↓hS5.g1_1, ↓hS5.g1_2, ↓hS5.g1_3, ↓hS5.g1_4, ↓hS5.g1_5, ↓hS5.g1_6, ↓hS5.g1_7, ↓hS5.k1, ↓hS5.l3, ↓hS5.n3, ↓hS5.l26, ↓hS5.n26, ↓hS5.l5, ↓hS5.n5, ↓hS5.l12, ↓hS5.n12, ↓hS5.l6, ↓hS5.n6, ↓hS5.l10, ↓hS5.n10, ↓hS5.l11, ↓hS5.n11, ↓hS5.l13, ↓hS5.n13, ↓hS5.l14, ↓hS5.n14, ↓hS5.l16, ↓hS5.n16, ↓hS5.l24, ↓hS5.n24, ↓hS5.l27, ↓hS5.n27, ↓hS5.l28, ↓hS5.n28, ↓hS5.l2, ↓hS5.n2, dotsOfAll_rt hS5 c0 c1 hI4.1.cur.1 hI4.1.cur.2 hK.2.2.1]
    rfl
  have hgo := dblR (fun n y0 y1 y2 y3 y4 y5 y6 ν => LX6_paint_83 n y0 y1 y2 y3 y4 y5 y6 ν) (fun k s j => k 1 x y w q t (y + j) s) (fun k n s j i => LX6_paint_95 k n 1 x y w q t (y + j) (x + i) s) w q (fun i j s => (∀ z k, ¬ (z = 27 + 8 * d ∧ 0 ≤ k) → s z k = μ1 z k) ∧ ∀ x' y', 0 ≤ x' → x' < h 0 0 → 0 ≤ y' → y' < h 0 1 → s (27 + 8 * d) (y' * h 0 0 + x') = if (x ≤ x' ∧ x' < x + w) ∧ y ≤ y' ∧ (y' < y + j ∨ (y' = y + j ∧ x' < x + i)) then t else rT (h 0) x' y') (fun R => ∃ ν, R = RT (dotsAll (paintR (h 0) x y w q t)) ν ∧ ChP μ ν u h (paintR (h 0) x y w q t) tx fed fa) (by omega) (by omega) (fun n s j j0 j1 hs => ?_) (fun n s hs => ?_) (fun k n s j i j0 j1 i0 i1 hs => ?_) (fun k n s j j0 j1 hs => ?_) FU 0 μ1 (Int.le_refl _) (by omega) (by rw [show ((FU : Nat) : Int) = 20000 from rfl]; omega) ⟨fun _ _ _ => rfl, fun x' y' x0 x1 y0 y1 => by rw [if_neg (by omega)]; exact hT.2.1 x' y' x0 x1 y0 y1⟩
  · simp only [Int.add_zero] at hgo
    exact hgo
  · have k1 : ¬ y + q ≤ y + j := by omega
    simp (disch := omega) only [LX6_paint_83, BX6_paint_83, w32_eq, k1, ↓reduceIte, Int.add_zero]
  · refine hfin s hs.1 (fun x' y' x0 x1 y0 y1 => ?_) n
    rw [hs.2 x' y' x0 x1 y0 y1, paintR_t x0 (by omega) y0 (by omega)]
    by_cases e : (x ≤ x' ∧ x' < x + w) ∧ y ≤ y' ∧ y' < y + q
    · rw [if_pos e, if_pos (by omega)]
    · rw [if_neg e, if_neg (by omega)]
  · have hS2 : CSh s := hS.fr fun z j hj => hs.1 z j (by unfold CSt at hj; omega)
    have b6 : s 1 6 = 25 + 8 * d := by rw [hs.1 _ _ (by omega), a2]
    have g0 : s (25 + 8 * d) 0 = h 0 0 := by rw [hs.1 _ _ (by omega), hT.1.1]
    have hcc := cell_lt (show h 0 0 ≤ 16 by omega) (show h 0 1 ≤ 12 by omega) (show 0 ≤ x + i by omega) (show x + i < h 0 0 by omega) (show 0 ≤ y + j by omega) (show y + j < h 0 1 by omega)
    have k1 : ¬ x + w ≤ x + i := by omega
    refine ⟨mUp s (27 + 8 * d) ((y + j) * h 0 0 + (x + i)) t, ⟨fun z k hz => by rw [mUp_ne _ _ (by omega)]; exact hs.1 z k hz, fun x' y' x0 x1 y0 y1 => ?_⟩, ?_⟩
    · by_cases e : x' = x + i ∧ y' = y + j
      · rw [e.1, e.2, mUp_same, if_pos (by omega)]
      · rw [mUp_ne _ _ (fun k => e (cell_inj x0 x1 (show 0 ≤ x + i by omega) (show x + i < h 0 0 by omega) k.2)), hs.2 x' y' x0 x1 y0 y1]
        by_cases e2 : (x ≤ x' ∧ x' < x + w) ∧ y ≤ y' ∧ (y' < y + j ∨ (y' = y + j ∧ x' < x + i))
        · rw [if_pos e2, if_pos (by omega)]
        · rw [if_neg e2, if_neg (by omega)]
    · simp (disch := omega) only [LX6_paint_95, BX6_paint_95, ↓w32_eq (z := x + w), k1, ↓reduceIte, ↓hS2.g6_6 b6, ↓hS2.g6_0, ↓hS2.g6_1, ↓hS2.g6_2, ↓hS2.g6_3, ↓hS2.g6_4, ↓hS2.g6_5, ↓hS2.g6_7, ↓hS2.g6_8, ↓hS2.k6, ↓hS2.g2_0, ↓hS2.g2_1, ↓hS2.g2_2, ↓hS2.g2_3, ↓hS2.g2_4, ↓hS2.g2_5, ↓hS2.g2_6, ↓hS2.g2_7, ↓hS2.k2, ↓hS2.g3_0, ↓hS2.g3_1, ↓hS2.g3_2, ↓hS2.g3_3, ↓hS2.g3_4, ↓hS2.k3, ↓hS2.g4_0, ↓hS2.g4_1, ↓hS2.g4_3, ↓hS2.g4_5, ↓hS2.g4_6, ↓hS2.g4_7, ↓hS2.g4_8, ↓hS2.g4_9, ↓hS2.g4_10, ↓hS2.g4_12, ↓hS2.g4_11, ↓hS2.k4, ↓hS2.g5_0, ↓hS2.g5_1, ↓hS2.g5_2, ↓hS2.g5_3, ↓hS2.g5_4, ↓hS2.g5_5, ↓hS2.g5_6, ↓hS2.k5, ↓hS2.g1_0, ↓hS2.g1_1, ↓hS2.g1_2, ↓hS2.g1_3, ↓hS2.g1_4, ↓hS2.g1_5, ↓hS2.g1_6, ↓hS2.g1_7, ↓hS2.k1, ↓hS2.l3, ↓hS2.n3, ↓hS2.l26, ↓hS2.n26, ↓hS2.l5, ↓hS2.n5, ↓hS2.l12, ↓hS2.n12, ↓hS2.l6, ↓hS2.n6, ↓hS2.l10, ↓hS2.n10, ↓hS2.l11, ↓hS2.n11, ↓hS2.l13, ↓hS2.n13, ↓hS2.l14, ↓hS2.n14, ↓hS2.l16, ↓hS2.n16, ↓hS2.l24, ↓hS2.n24, ↓hS2.l27, ↓hS2.n27, ↓hS2.l28, ↓hS2.n28, ↓hS2.l2, ↓hS2.n2, ↓CL, ↓idx_rt_c hS2 c0 c1 g0, ↓hS2.s27 c0 c1, w32_eq, Int.add_assoc]
  · refine ⟨⟨hs.1, fun x' y' x0 x1 y0 y1 => ?_⟩, ?_⟩
    · rw [hs.2 x' y' x0 x1 y0 y1]
      by_cases e2 : (x ≤ x' ∧ x' < x + w) ∧ y ≤ y' ∧ (y' < y + j ∨ (y' = y + j ∧ x' < x + w))
      · rw [if_pos e2, if_pos (by omega)]
      · rw [if_neg e2, if_neg (by omega)]
    · simp (disch := omega) only [LX6_paint_95, BX6_paint_95, w32_eq, Int.le_refl, ↓reduceIte, Int.add_assoc]
theorem paint_n1 (hI : CIc μ c u h tx fed fa) {x y w q t : Int} (hc : ¬ isCe (h 0) x y) : FX6_paint 1 x y w q t μ = TH 1 μ := by
  unfold FX6_paint BX6_paint_0
  rw [hI.1.1.k6, reqC_no hI hc]
  rfl
theorem paint_n2 (hI : CIc μ c u h tx fed fa) {x y w q t : Int} (hc : isCe (h 0) x y) (hp : ¬ isPa (h 0) x y w q t) : FX6_paint 1 x y w q t μ = TH 2 μ := by
  have hS0 := hI.1.1
  have ha0 := hI.1.2.2.1
  have hT0 := hI.1.cur.2
  have hr1 := hI.1.cur.1.1
  have hc0 := hI.1.2.1
  unfold FX6_paint BX6_paint_0
  rw [hS0.k6, reqC_ok hI hc]
  simp (disch := omega) only [CL, ↓CLX_rt]
  by_cases k1 : w < 1
  · rw [if_pos k1]
    rfl
  rw [if_neg k1]
  by_cases k2 : q < 1
  · rw [if_pos k2]
    rfl
  rw [if_neg k2, hS0.g6_6 ha0.2.1, hS0.g5_0 hc0.1 hc0.2, hT0.1.1, w32_eq (by omega) (by omega)]
  by_cases k3 : h 0 0 - x < w
  · rw [if_pos k3]
    rfl
  rw [if_neg k3, hS0.g6_6 ha0.2.1, hS0.g5_1 hc0.1 hc0.2, hT0.1.2.1, w32_eq (by omega) (by omega)]
  by_cases k4 : q ≤ h 0 1 - y
  · rw [if_pos k4]
    by_cases k5 : t < 0
    · rw [if_pos k5]
      rfl
    rw [if_neg k5, if_neg (by omega)]
    rfl
  · rw [if_neg k4]
    rfl
end ALT3

