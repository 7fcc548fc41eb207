/-! the statements limit and ink, side by side -/
section SHO
variable {μ ξ ν ζ : Mem} {L s g U1 U2 : Int} {tx : Int → Int}
theorem Sht_lim {r : Row} (hr : okRow r) (hT : Sht μ g r) (g0 : 0 ≤ g) (g1 : g < 10) {v : Int} : Sht (mUp μ (25 + 8 * g) 2 v) g (limR r v) := by
  have hr1 := hr.1
  have hr2 := hr.2.1
  refine ⟨⟨?_, ?_, ?_, ?_⟩, fun x y x0 x1 y0 y1 => ?_, fun x y x0 x1 y0 y1 => ?_, fun p p0 p1 => ?_⟩
  · rw [mUp_ne _ _ (by omega), limR_ne (by omega), hT.1.1]
  · rw [mUp_ne _ _ (by omega), limR_ne (by omega), hT.1.2.1]
  · rw [mUp_same]; rfl
  · rw [mUp_ne _ _ (by omega), limR_ne (by omega), hT.1.2.2.2]
  · rw [limR_ne (by omega)] at x1 y1
    have : rT (limR r v) x y = rT r x y := limR_ne (by omega)
    rw [mUp_ne _ _ (by omega), limR_ne (j := 0) (by omega), this]
    exact hT.2.1 x y x0 x1 y0 y1
  · rw [limR_ne (by omega)] at x1 y1
    have h3 := hT.2.2.1 x y x0 x1 y0 y1
    rw [mUp_ne _ _ (by omega), limR_ne (j := 0) (by omega)]
    refine ⟨h3.1, fun p p0 p1 => ?_⟩
    rw [limR_ne (j := 2) (by omega), limR_o p0 (by omega)]
    exact h3.2 p p0 p1
  · rw [limR_ne (by omega)] at p1
    have hk := hr.2.2.2.2 p p0 p1
    have hcd : CdS r (limR r v) p := limR_cd p0
    obtain ⟨q1, q2, q3, q4, q5⟩ := hT.2.2.2 p p0 p1
    have h13 : rO (limR r v) p 13 = rO r p 13 := limR_o p0 (by omega)
    refine ⟨?_, ?_, ?_, fun e => ?_, fun e => ?_⟩
    · rw [mUp_ne _ _ (by omega), nmO_ext hcd hk.2.2.2.2.2.2.2.1, q1]
    · simp (disch := omega) only [mUp_ne, limR_o p0]
      exact q2
    · simp (disch := omega) only [mUp_ne, limR_o p0]
      exact q3
    · rw [h13] at e
      rw [mUp_ne _ _ (by omega), q4 e]
    · rw [h13] at e
      rw [mUp_ne _ _ (by omega)]
      exact ((q5 e).ext hcd hk.2.2.2.2.2.1.2.1).fr (fun a k a0 a1 => mUp_ne _ _ (by omega)) (by rw [mUp_ne _ _ (by omega)]; exact Int.le_refl _)
theorem Sht_fld {r r' : Row} (hr : okRow r) (hT : Sht μ g r) (g0 : 0 ≤ g) (g1 : g < 10) (hr' : FldS r r') (hν : ∀ z k, ¬ (29 + 8 * g ≤ z ∧ z ≤ 32 + 8 * g ∧ 1 ≤ k ∧ k ≤ 6) → ν z k = μ z k) (hv : ∀ p, 0 ≤ p → p < r 2 → ∀ f, 1 ≤ f → f ≤ 6 → ν (29 + 8 * g + p) f = rO r' p (f + 6)) : Sht ν g r' := by
  have hr1 := hr.1
  have hr2 := hr.2.1
  refine ⟨⟨?_, ?_, ?_, ?_⟩, fun x y x0 x1 y0 y1 => ?_, fun x y x0 x1 y0 y1 => ?_, fun p p0 p1 => ?_⟩
  · rw [hν _ _ (by omega), hr'.lo (by omega), hT.1.1]
  · rw [hν _ _ (by omega), hr'.lo (by omega), hT.1.2.1]
  · rw [hν _ _ (by omega), hr'.lo (by omega), hT.1.2.2.1]
  · rw [hν _ _ (by omega), hr'.lo (by omega), hT.1.2.2.2]
  · rw [hr'.lo (by omega)] at x1 y1
    rw [hν _ _ (by omega), hr'.lo (j := 0) (by omega), hr'.t (by omega) (by omega)]
    exact hT.2.1 x y x0 x1 y0 y1
  · rw [hr'.lo (by omega)] at x1 y1
    have h3 := hT.2.2.1 x y x0 x1 y0 y1
    rw [hν _ _ (by omega), hr'.lo (j := 0) (by omega)]
    refine ⟨h3.1, fun p p0 p1 => ?_⟩
    rw [hr'.lo (j := 2) (by omega), hr'.o p0 p1 (by omega) (by omega) (by omega)]
    exact h3.2 p p0 p1
  · rw [hr'.lo (by omega)] at p1
    obtain ⟨q1, q2, q3, q4, q5⟩ := hT.2.2.2 p p0 p1
    have hcd := hr'.cd p0 (show p < 4 by omega)
    have hk := hr.2.2.2.2 p p0 p1
    have h13 : rO r' p 13 = rO r p 13 := hcd 13 (by omega)
    refine ⟨?_, ⟨hv p p0 p1 1 (by omega) (by omega), hv p p0 p1 2 (by omega) (by omega), hv p p0 p1 3 (by omega) (by omega)⟩, ⟨hv p p0 p1 4 (by omega) (by omega), hv p p0 p1 5 (by omega) (by omega), hv p p0 p1 6 (by omega) (by omega)⟩, fun e => ?_, fun e => ?_⟩
    · rw [hν _ _ (by omega), nmO_ext hcd hk.2.2.2.2.2.2.2.1, q1]
    · rw [h13] at e
      rw [hν _ _ (by omega), q4 e]
    · rw [h13] at e
      rw [hν _ _ (by omega)]
      exact ((q5 e).ext hcd hk.2.2.2.2.2.1.2.1).fr (fun a k a0 a1 => hν a k (by omega)) (by rw [hν _ _ (by omega)]; exact Int.le_refl _)
theorem fl_me {c : Int} {ξ ζ : Mem} (h : Me ξ ζ c s) : Fm ξ ζ c s := h.fm
end SHO

