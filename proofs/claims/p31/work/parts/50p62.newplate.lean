/-! a plate more in the sheet and in the row -/
section NPL
variable {μ ν : Mem} {g : Int} {r r' : Row}
theorem bt_00 (x : Int) (x0 : 0 ≤ x) (x1 : x < 16) : bt 0 x = 0 := by
  rcases (show x = 0 ∨ x = 1 ∨ x = 2 ∨ x = 3 ∨ x = 4 ∨ x = 5 ∨ x = 6 ∨ x = 7 ∨ x = 8 ∨ x = 9 ∨ x = 10 ∨ x = 11 ∨ x = 12 ∨ x = 13 ∨ x = 14 ∨ x = 15 by omega) with rfl | rfl | rfl | rfl | rfl | rfl | rfl | rfl | rfl | rfl | rfl | rfl | rfl | rfl | rfl | rfl <;> decide
theorem plate_new (hr : okRow r) (hT : Sht μ g r) (g0 : 0 ≤ g) (g1 : g < 10) (h2 : r 2 < 4) (hd : 105 ≤ μ 0 0) (e2 : r' 2 = r 2 + 1) (eo : ∀ j, j ≠ 2 → ¬ (196 + 1226 * r 2 ≤ j ∧ j < 196 + 1226 * r 2 + 1226) → r' j = r j) (hn : 1 ≤ rO r' (r 2) 0 ∧ rO r' (r 2) 0 ≤ 6 ∧ ∀ j, 0 ≤ j → j < rO r' (r 2) 0 → 97 ≤ rO r' (r 2) (1 + j) ∧ rO r' (r 2) (1 + j) ≤ 122) (h7 : 0 ≤ rO r' (r 2) 7 ∧ rO r' (r 2) 7 ≤ 3 ∧ 0 ≤ rO r' (r 2) 8 ∧ rO r' (r 2) 8 ≤ 3 ∧ 0 < rO r' (r 2) 7 + rO r' (r 2) 8) (h9 : 0 ≤ rO r' (r 2) 9 ∧ rO r' (r 2) 9 ≤ 3) (h10 : rO r' (r 2) 10 = 0) (h11 : rO r' (r 2) 11 = 0) (h12 : rO r' (r 2) 12 = 1000) (h14 : ∀ y, 0 ≤ y → y < 12 → rO r' (r 2) (14 + y) = 0) (hc : okCodes r' (r 2)) (hν : ∀ z k, ¬ ((z = 25 + 8 * g ∧ k = 3) ∨ z = 29 + 8 * g + r 2) → 25 ≤ z → z < μ 0 0 → ν z k = μ z k) (h00 : μ 0 0 ≤ ν 0 0) (hν3 : ν (25 + 8 * g) 3 = r 2 + 1) (hP : Plt ν (29 + 8 * g + r 2) r' (r 2)) : okRow r' ∧ Sht ν g r' := by
  have hr1 := hr.1
  have hr2 := hr.2.1
  have e0 : r' 0 = r 0 := eo _ (by omega) (by omega)
  have e1 : r' 1 = r 1 := eo _ (by omega) (by omega)
  have e3 : r' 3 = r 3 := eo _ (by omega) (by omega)
  have et : ∀ x y, 0 ≤ x → x < 16 → 0 ≤ y → y < 12 → rT r' x y = rT r x y := fun x y x0 x1 y0 y1 => eo _ (by omega) (by omega)
  have ep : ∀ p k, 0 ≤ p → p < r 2 → 0 ≤ k → k < 1226 → rO r' p k = rO r p k := fun p k p0 p1 k0 k1 => eo _ (by omega) (by omega)
  have hcd : ∀ p, 0 ≤ p → p < r 2 → CdS r r' p := fun p p0 p1 k hk => ep p k p0 p1 (by omega) (by omega)
  constructor
  · refine ⟨by rw [e0, e1]; exact hr1, by rw [e2]; omega, by rw [e3]; exact hr.2.2.1, fun x y x0 x1 y0 y1 => ?_, fun p p0 p1 => ?_⟩
    · rw [e0] at x1
      rw [e1] at y1
      rw [et x y x0 (by omega) y0 (by omega)]
      exact hr.2.2.2.1 x y x0 x1 y0 y1
    · rw [e2] at p1
      by_cases e : p = r 2
      · rw [e]
        refine ⟨h7, h9, by rw [h10, h11]; omega, by rw [h12]; omega, fun y y0 y1 => ?_, hc, hn⟩
        rw [e1] at y1
        rw [h14 y y0 (by omega)]
        exact ⟨by omega, fun x x0 x1 => bt_00 x (by rw [e0] at x0; omega) x1⟩
      · have hp : p < r 2 := by omega
        obtain ⟨q1, q2, q3, q4, g5, g6, g7, g8, g9⟩ := hr.2.2.2.2 p p0 hp
        refine ⟨?_, ?_, ?_, ?_, fun y y0 y1 => ?_, g6.ext (hcd p p0 hp), ?_, ?_, fun j j0 j1 => ?_⟩
        · rw [ep p 7 p0 hp (by omega) (by omega), ep p 8 p0 hp (by omega) (by omega)]; exact q1
        · rw [ep p 9 p0 hp (by omega) (by omega)]; exact q2
        · rw [ep p 10 p0 hp (by omega) (by omega), ep p 11 p0 hp (by omega) (by omega)]; exact q3
        · rw [ep p 12 p0 hp (by omega) (by omega)]; exact q4
        · rw [e1] at y1
          rw [ep p (14 + y) p0 hp (by omega) (by omega), e0]
          exact g5 y y0 y1
        · rw [ep p 0 p0 hp (by omega) (by omega)]; exact g7
        · rw [ep p 0 p0 hp (by omega) (by omega)]; exact g8
        · rw [ep p 0 p0 hp (by omega) (by omega)] at j1
          rw [ep p (1 + j) p0 hp (by omega) (by omega)]
          exact g9 j j0 j1
  · refine ⟨⟨?_, ?_, ?_, ?_⟩, fun x y x0 x1 y0 y1 => ?_, fun x y x0 x1 y0 y1 => ?_, fun p p0 p1 => ?_⟩
    · rw [hν _ _ (by omega) (by omega) (by omega), e0, hT.1.1]
    · rw [hν _ _ (by omega) (by omega) (by omega), e1, hT.1.2.1]
    · rw [hν _ _ (by omega) (by omega) (by omega), e3, hT.1.2.2.1]
    · rw [hν3, e2]
    · rw [e0] at x1 ⊢
      rw [e1] at y1
      rw [hν _ _ (by omega) (by omega) (by omega), et x y x0 (by omega) y0 (by omega)]
      exact hT.2.1 x y x0 x1 y0 y1
    · rw [e0] at x1 ⊢
      rw [e1] at y1
      have h3 := hT.2.2.1 x y x0 x1 y0 y1
      rw [hν _ _ (by omega) (by omega) (by omega)]
      refine ⟨h3.1, fun p p0 p1 => ?_⟩
      have h4 := h3.2 p p0 p1
      rw [h4, e2]
      by_cases e : p = r 2
      · rw [if_neg (by omega), if_pos (by omega), e, h14 y y0 (by omega), bt_00 x x0 (by omega)]
      · by_cases hp : p < r 2
        · rw [if_pos hp, if_pos (by omega), ep p (14 + y) p0 hp (by omega) (by omega)]
        · rw [if_neg hp, if_neg (by omega)]
    · rw [e2] at p1
      by_cases e : p = r 2
      · rw [e]; exact hP
      · have hp : p < r 2 := by omega
        have hk := hr.2.2.2.2 p p0 hp
        obtain ⟨q1, q2, q3, q4, q5⟩ := hT.2.2.2 p p0 hp
        have hc' := hcd p p0 hp
        have h13 : rO r' p 13 = rO r p 13 := ep p 13 p0 hp (by omega) (by omega)
        have hm : ∀ k, ν (29 + 8 * g + p) k = μ (29 + 8 * g + p) k := fun k => hν _ _ (by omega) (by omega) (by omega)
        refine ⟨?_, ?_, ?_, fun e => ?_, fun e => ?_⟩
        · rw [hm, nmO_ext hc' hk.2.2.2.2.2.2.2.1, q1]
        · rw [hm, hm, hm, ep p 7 p0 hp (by omega) (by omega), ep p 8 p0 hp (by omega) (by omega), ep p 9 p0 hp (by omega) (by omega)]
          exact q2
        · rw [hm, hm, hm, ep p 10 p0 hp (by omega) (by omega), ep p 11 p0 hp (by omega) (by omega), ep p 12 p0 hp (by omega) (by omega)]
          exact q3
        · rw [h13] at e
          rw [hm, q4 e]
        · rw [h13] at e
          rw [hm]
          exact ((q5 e).ext hc' hk.2.2.2.2.2.1.2.1).fr (fun a k a0 a1 => hν a k (by omega) (by omega) a1) h00
end NPL

