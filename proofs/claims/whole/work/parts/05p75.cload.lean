/-! the component's print does not hang on the reader -/
section CLO
variable {μ : Mem}
theorem CPr_fr22 {r : Row} {ν : Mem} (hr : okRow r) (h : CPr μ r) (f : ∀ z k, 4 ≤ z → z ≤ 22 → 0 ≤ k → ν z k = μ z k) : CPr ν r := by
  obtain ⟨⟨p1, p2⟩, p3, p4, p5⟩ := h
  have hr1 := hr.1
  have hr2 := hr.2.1
  refine ⟨⟨by rw [f _ _ (by omega) (by omega) (by omega)]; exact p1, by rw [f _ _ (by omega) (by omega) (by omega)]; exact p2⟩, fun q => ?_, fun q => ?_, fun p p0 q1 => (p5 p p0 q1).fr (fun k k0 => f _ _ (by omega) (by omega) k0) (fun k k0 => f _ _ (by omega) (by omega) k0)⟩
  · rw [f _ _ (by omega) (by omega) (by omega)] at q
    exact (p3 q).fr hr fun a k h1 h2 h3 => f _ _ (by omega) (by omega) h3
  · rw [f _ _ (by omega) (by omega) (by omega)] at q
    obtain ⟨q1, q2, q3, q4, q5⟩ := p4 q
    refine ⟨by rw [f _ _ (by omega) (by omega) (by omega)]; exact q1, q2.fr hr fun a k h1 h2 h3 => f _ _ (by omega) (by omega) h3, fun x y x0 x1 y0 y1 => ?_, fun p p0 p1 => ?_, fun p p0 p1 => (q5 p p0 p1).fr (fun k k0 => f _ _ (by omega) (by omega) k0) (fun k k0 => f _ _ (by omega) (by omega) k0)⟩
    · have hc := cell_lt (show r 0 ≤ 16 by omega) (show r 1 ≤ 12 by omega) x0 x1 y0 y1
      rw [f _ _ (by omega) (by omega) hc.2.2.1]
      exact q3 x y x0 x1 y0 y1
    · rw [f _ _ (by omega) (by omega) p0]
      exact q4 p p0 p1
theorem cload_keep {ν : Mem} {c u fed fa a : Int} {h : Int → Row} {tx : Int → Int} (hI : CIc μ c u h tx fed fa) (hd : DrF ((c + 1) % 10) (mUp μ 1 1 0) ν) (hS : CSh ν) (ha : 0 ≤ a ∧ a ≤ 600) : CIc (mUp ν 1 2 a) c u h tx 0 a := by
  obtain ⟨⟨hS0, ⟨c0, c1⟩, ⟨a1, a2, a3⟩, u0, b, d⟩, hB, hP⟩ := id hI
  have hg := Int.emod_nonneg (c + 1) (show (10 : Int) ≠ 0 by omega)
  have hg1 := Int.emod_lt_of_pos (c + 1) (show (0 : Int) < 10 by omega)
  have e00 : mUp μ 1 1 0 0 0 = μ 0 0 := mUp_ne _ _ (by omega)
  have h00 : μ 0 0 ≤ ν 0 0 := by have := hd.2; omega
  have hz : ∀ z k, ¬ (z = 0 ∨ z = 23 ∨ z = 24 ∨ (25 + 8 * ((c + 1) % 10) ≤ z ∧ z ≤ 32 + 8 * ((c + 1) % 10))) → ¬ (z = 1 ∧ (k = 1 ∨ k = 2)) → z < μ 0 0 → mUp ν 1 2 a z k = μ z k := fun z k h1 h2 h3 => by rw [mUp_ne _ _ (by omega), hd.1 z k h1 (by omega), mUp_ne _ _ (by omega)]
  have hS2 : CSh (mUp ν 1 2 a) := hS.up (by unfold CSt; omega)
  have n00 : mUp ν 1 2 a 0 0 = ν 0 0 := mUp_ne _ _ (by omega)
  refine ⟨⟨hS2, ⟨c0, c1⟩, ⟨by rw [hz _ _ (by omega) (by omega) (by omega)]; exact a1, by rw [hz _ _ (by omega) (by omega) (by omega)]; exact a2, by rw [hz _ _ (by omega) (by omega) (by omega)]; exact a3⟩, u0, fun j j0 j1 => ?_, by omega⟩, ⟨by omega, ⟨?_, mUp_same _ _ _ _, by unfold i32; omega⟩, fun k k0 k1 => by omega⟩, ?_⟩
  · obtain ⟨b1, b2⟩ := b j j0 j1
    refine ⟨b1, b2.fr b1 (fun z k h1 h2 h3 => hz z k (by omega) (by omega) (by omega)) (fun z k h1 h2 => hz z k (by omega) (by omega) h2) (by omega)⟩
  · rw [mUp_ne _ _ (by omega), hd.1 _ _ (by omega) (by omega), mUp_same]
  · exact CPr_fr22 hI.1.cur.1 hP fun z k h1 h2 h3 => hz z k (by omega) (by omega) (by omega)
end CLO
