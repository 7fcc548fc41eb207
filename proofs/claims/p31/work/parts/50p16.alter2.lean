/-! the component's face: limit, press, paint, clean, dirty -/
section ALT2
variable {μ : Mem} {c u fed fa : Int} {h : Int → Row} {tx : Int → Int}
def limR (r : Row) (v : Int) : Row := fun j => if j = 3 then v else r j
theorem limR_ne {r : Row} {v j : Int} (hj : j ≠ 3) : limR r v j = r j := if_neg hj
theorem limR_o {r : Row} {v p k : Int} (p0 : 0 ≤ p) (k0 : 0 ≤ k) : rO (limR r v) p k = rO r p k := limR_ne (by omega)
theorem limR_cd {r : Row} {v p : Int} (p0 : 0 ≤ p) : CdS r (limR r v) p := fun k hk => limR_o p0 (by omega)
theorem limR_ok {r : Row} {v : Int} (hr : okRow r) (hv : 1 ≤ v ∧ v ≤ 4) : okRow (limR r v) := by
  obtain ⟨a, b, d, e, f⟩ := hr
  refine ⟨?_, ?_, hv, fun x y x0 x1 y0 y1 => ?_, fun p p0 p1 => ?_⟩
  · rw [limR_ne (by omega), limR_ne (by omega)]; exact a
  · rw [limR_ne (by omega)]; exact b
  · rw [limR_ne (by omega)] at x1 y1
    have : rT (limR r v) x y = rT r x y := limR_ne (by omega)
    rw [this]
    exact e x y x0 x1 y0 y1
  · rw [limR_ne (by omega)] at p1
    obtain ⟨q1, q2, q3, q4, g5, g6, g7, g8, g9⟩ := f p p0 p1
    unfold okPlate
    simp (disch := omega) only [limR_o p0, limR_ne]
    exact ⟨q1, q2, q3, q4, fun y y0 y1 => by rw [limR_o p0 (by omega)]; exact g5 y y0 y1, g6.ext (limR_cd p0), g7, g8, fun j j0 j1 => by rw [limR_o p0 (by omega)]; exact g9 j j0 j1⟩
theorem limit_rt (hI : CIc μ c u h tx fed fa) {v : Int} (hv : 1 ≤ v ∧ v ≤ 4) : ∃ ν, FX6_limit 1 v μ = RT (h 0 3) ν ∧ ChP μ ν u h (limR (h 0) v) tx fed fa := by
  obtain ⟨μ1, e1, hI1, h7, hf⟩ := startChange_rt hI
  obtain ⟨⟨hS, ⟨c0, c1⟩, ⟨a1, a2, a3⟩, u0, b', d⟩, hB, hP⟩ := id hI1
  have hcur := hI1.1.cur
  have hr : okRow (h 0) := hcur.1
  have hT : Sht μ1 ((c + 1) % 10) (h 0) := hcur.2
  have hr1 := hr.1
  have hr2 := hr.2.1
  generalize hd : (c + 1) % 10 = d at *
  refine ⟨mUp μ1 (25 + 8 * d) 2 v, ?_, ⟨d, ?_⟩, (SC_cfr hf).up (by omega)⟩
  · have q1 : ¬ v < 1 := by omega
    unfold FX6_limit BX6_limit_0
    simp only [q1, hv.2, ↓reduceIte]
    rw [hI.1.1.k6, e1]
    simp (disch := omega) only [CL, ↓CLX_rt, ↓hS.g6_6 a2, ↓hS.g6_0, ↓hS.g6_1, ↓hS.g6_2, ↓hS.g6_3, ↓hS.g6_4, ↓hS.g6_5, ↓hS.g6_7, ↓hS.g6_8, ↓hS.k6, ↓hS.g2_0, ↓hS.g2_1, ↓hS.g2_2, ↓hS.g2_3, ↓hS.g2_4, ↓hS.g2_5, ↓hS.g2_6, ↓hS.g2_7, ↓hS.k2, ↓hS.g3_0, ↓hS.g3_1, ↓hS.g3_2, ↓hS.g3_3, ↓hS.g3_4, ↓hS.k3, ↓hS.g4_0, ↓hS.g4_1, ↓hS.g4_3, ↓hS.g4_5, ↓hS.g4_6, ↓hS.g4_7, ↓hS.g4_8, ↓hS.g4_9, ↓hS.g4_10, ↓hS.g4_12, ↓hS.g4_11, ↓hS.k4, ↓hS.g5_0, ↓hS.g5_1, ↓hS.g5_2, ↓hS.g5_3, ↓hS.g5_4, ↓hS.g5_5, ↓hS.g5_6, ↓hS.k5, ↓hS.g1_0, ↓hS.g1_1, ↓hS.g1_2, ↓hS.g1_3, ↓hS.g1_4, ↓hS.g1_5, ↓hS.g1_6, ↓hS.g1_7, ↓hS.k1, ↓hS.l3, ↓hS.n3, ↓hS.l26, ↓hS.n26, ↓hS.l5, ↓hS.n5, ↓hS.l12, ↓hS.n12, ↓hS.l6, ↓hS.n6, ↓hS.l10, ↓hS.n10, ↓hS.l11, ↓hS.n11, ↓hS.l13, ↓hS.n13, ↓hS.l14, ↓hS.n14, ↓hS.l16, ↓hS.n16, ↓hS.l24, ↓hS.n24, ↓hS.l27, ↓hS.n27, ↓hS.l28, ↓hS.n28, ↓hS.l2, ↓hS.n2, ↓hS.p5_2, hT.1.2.2.1]
  · refine hI1.set h7 (hS.up (by unfold CSt; omega)) (fun z k hz => mUp_ne _ _ (by omega)) (limR_ok hr hv) ⟨⟨?_, ?_, ?_, ?_⟩, fun x y x0 x1 y0 y1 => ?_, fun x y x0 x1 y0 y1 => ?_, fun p p0 p1 => ?_⟩ (fun hP => hP.ext hr (limR_ne (by omega)) (limR_ne (by omega)) (limR_ne (by omega)) (fun x y x0 x1 y0 y1 => limR_ne (by omega)) (fun p p0 p1 => limR_cd p0))
    · rw [mUp_ne _ _ (by omega), limR_ne (by omega), hT.1.1]
    · rw [mUp_ne _ _ (by omega), limR_ne (by omega), hT.1.2.1]
    · rw [mUp_same]; rfl
    · rw [mUp_ne _ _ (by omega), limR_ne (by omega), hT.1.2.2.2]
    · rw [limR_ne (by omega)] at x1 y1
      have : rT (limR (h 0) v) x y = rT (h 0) x y := limR_ne (by omega)
      rw [mUp_ne _ _ (by omega), limR_ne (j := 0) (by omega), this]
      exact hT.2.1 x y x0 x1 y0 y1
    · rw [limR_ne (by omega)] at x1 y1
      have h3 := hT.2.2.1 x y x0 x1 y0 y1
      rw [mUp_ne _ _ (by omega), limR_ne (j := 0) (by omega)]
      refine ⟨h3.1, fun p p0 p1 => ?_⟩
      rw [limR_ne (j := 2) (by omega), limR_o p0 (by omega)]
      exact h3.2 p p0 p1
    · rw [limR_ne (by omega)] at p1
      have hk := hr.2.2.2.2 p p0 p1
      obtain ⟨q1, q2, q3, q4, q5⟩ := hT.2.2.2 p p0 p1
      have hcd : CdS (h 0) (limR (h 0) v) p := limR_cd p0
      refine ⟨?_, ?_, ?_, fun e => ?_, fun e => ?_⟩
      · rw [mUp_ne _ _ (by omega), nmO_ext hcd hk.2.2.2.2.2.2.2.1, q1]
      · simp (disch := omega) only [mUp_ne, limR_o p0]
        exact q2
      · simp (disch := omega) only [mUp_ne, limR_o p0]
        exact q3
      · rw [limR_o p0 (by omega)] at e
        rw [mUp_ne _ _ (by omega), q4 e]
      · rw [limR_o p0 (by omega)] at e
        rw [mUp_ne _ _ (by omega)]
        exact ((q5 e).ext hcd hk.2.2.2.2.2.1.2.1).fr (fun a k a0 a1 => mUp_ne _ _ (by omega)) (by rw [mUp_ne _ _ (by omega)]; exact Int.le_refl _)
theorem limit_no {v : Int} (hv : ¬ (1 ≤ v ∧ v ≤ 4)) : FX6_limit 1 v μ = TH 2 μ := by
  by_cases h1 : v < 1
  · simp only [FX6_limit, BX6_limit_0, BX6_limit_10, h1, ↓reduceIte]
  · have h2 : ¬ v ≤ 4 := by omega
    simp only [FX6_limit, BX6_limit_0, BX6_limit_10, h1, h2, ↓reduceIte]
/-! press -/
def pressR (r : Row) (m : Int) : Row := fun j => if 208 ≤ j ∧ (j - 208) % 1226 = 0 ∧ (j - 208) / 1226 < r 2 then r j - m * dotsOf r ((j - 208) / 1226) else r j
theorem pressR_at {r : Row} {m p : Int} (p0 : 0 ≤ p) (p1 : p < r 2) : rO (pressR r m) p 12 = rO r p 12 - m * dotsOf r p := by
  have e : (196 + 1226 * p + 12 - 208) / 1226 = p := by omega
  show (if 208 ≤ 196 + 1226 * p + 12 ∧ (196 + 1226 * p + 12 - 208) % 1226 = 0 ∧ (196 + 1226 * p + 12 - 208) / 1226 < r 2 then _ else _) = _
  rw [if_pos (by omega), e]
  rfl
theorem pressR_ne {r : Row} {m j : Int} (hj : ¬ (208 ≤ j ∧ (j - 208) % 1226 = 0 ∧ (j - 208) / 1226 < r 2)) : pressR r m j = r j := if_neg hj
theorem cpN_dv {r : Row} (hr : okRow r) : ∀ n : Nat, (n : Int) ≤ r 2 → ∀ p : Int, 0 ≤ p → p < n → dotsOf r p ≠ 0 → cpN r n ≤ rO r p 12 / dotsOf r p ∧ 0 ≤ cpN r n
  | 0, _, p, h0, h1, _ => by omega
  | n + 1, hn, p, h0, h1, hz => by
    have hi := (hr.2.2.2.2 n (by omega) (by omega)).2.2.2.1
    have hd := dotsOf_le hr n
    have h2 : 0 ≤ rO r n 12 / dotsOf r n := Int.ediv_nonneg hi.1 hd.1
    have hl := cpN_le hr n (by omega)
    have hm := mn_le (a := cpN r n) (b := rO r n 12 / dotsOf r n)
    rw [cpN]
    by_cases e : p = n
    · subst e
      rw [if_neg hz]
      split <;> omega
    · have ih := cpN_dv hr n (by omega) p h0 (by omega) hz
      split
      · exact ih
      · split
        · omega
        · omega
theorem press_fit {r : Row} (hr : okRow r) {m p : Int} (m0 : 0 ≤ m) (m1 : m ≤ cpV r) (p0 : 0 ≤ p) (p1 : p < r 2) : 0 ≤ m * dotsOf r p ∧ m * dotsOf r p ≤ rO r p 12 := by
  have hd := dotsOf_le hr p
  have hi := (hr.2.2.2.2 p p0 p1).2.2.2.1
  refine ⟨Int.mul_nonneg m0 hd.1, ?_⟩
  by_cases hz : dotsOf r p = 0
  · rw [hz, Int.mul_zero]
    exact hi.1
  · have h1 := (cpN_dv hr (r 2).toNat (by omega) p p0 (by omega) hz).1
    have h2 : m ≤ rO r p 12 / dotsOf r p := Int.le_trans m1 h1
    have h3 : m * dotsOf r p ≤ rO r p 12 / dotsOf r p * dotsOf r p := Int.mul_le_mul_of_nonneg_right h2 hd.1
    have h4 : rO r p 12 / dotsOf r p * dotsOf r p ≤ rO r p 12 := Int.ediv_mul_le _ hz
    omega
end ALT2

