/-! the component's print does not hang on the reader -/
section CLO
variable {μ : Mem}
theorem CPr_fr22 {r : Row} {ν : Mem} (hr : okRow r) (h : CPr μ r) (f : ∀ z k, 4 ≤ z → z ≤ 22 → 0 ≤ k → ν z k = μ z k) : CPr ν r := by
  obtain ⟨⟨p1, p2⟩, p3, p4, p5⟩ := h
  have hr1 := hr.1
  have hr2 := hr.2.1
  refine ⟨⟨by rw [f _ _ (by omega) (by omega) (by omega)]; exact p1, by rw [f _ _ (by omega) (by omega) (by omega)]; exact p2⟩, fun q => ?_, fun q => ?_, fun p p0 q1 => (p5 p p0 q1).fr (fun k k0 => f _ _ (by omega) (by omega) k0) (fun k k0 => f _ _ (by omega) (by omega) k0)⟩
  · rw [f _ _ (by omega) (by omega) (by omega)] at q
    exact (p3 q).fr hr fun a k h1 h2 h3 => f _ _ (by omega) (by omega) h3
  · rw [f _ _ (by omega) (by omega) (by omega)] at q
    obtain ⟨q1, q2, q3, q4, q5⟩ := p4 q
    refine ⟨by rw [f _ _ (by omega) (by omega) (by omega)]; exact q1, q2.fr hr fun a k h1 h2 h3 => f _ _ (by omega) (by omega) h3, fun x y x0 x1 y0 y1 => ?_, fun p p0 p1 => ?_, fun p p0 p1 => (q5 p p0 p1).fr (fun k k0 => f _ _ (by omega) (by omega) k0) (fun k k0 => f _ _ (by omega) (by omega) k0)⟩
    · have hc := cell_lt (show r 0 ≤ 16 by omega) (show r 1 ≤ 12 by omega) x0 x1 y0 y1
      rw [f _ _ (by omega) (by omega) hc.2.2.1]
      exact q3 x y x0 x1 y0 y1
    · rw [f _ _ (by omega) (by omega) p0]
      exact q4 p p0 p1
end CLO
