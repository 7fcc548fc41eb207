/-! a new picture on both sides -/
def newR (w h : Int) : Row := fun k => if k = 0 then w else if k = 1 then h else if k = 3 then 4 else 0
section BEG
variable {μ ξ ν ζ : Mem} {L s g U1 U2 w h : Int} {tx : Int → Int}
theorem newR_o {p k : Int} (p0 : 0 ≤ p) (k0 : 0 ≤ k) : rO (newR w h) p k = 0 := by
  unfold rO newR
  rw [if_neg (by omega), if_neg (by omega), if_neg (by omega)]
theorem newR_t {x y : Int} (x0 : 0 ≤ x) (y0 : 0 ≤ y) : rT (newR w h) x y = 0 := by
  unfold rT newR
  rw [if_neg (by omega), if_neg (by omega), if_neg (by omega)]
theorem newR_ok (w0 : 1 ≤ w) (w1 : w ≤ 16) (h0 : 1 ≤ h) (h1 : h ≤ 12) : okRow (newR w h) := by
  refine ⟨⟨w0, w1, h0, h1⟩, ⟨Int.le_refl _, by show (0 : Int) ≤ 4; decide⟩, ⟨by show (1 : Int) ≤ 4; decide, by show (4 : Int) ≤ 4; decide⟩, fun x y x0 x1 y0 y1 => ?_, fun p p0 p1 => ?_⟩
  · rw [newR_t x0 y0]
    omega
  · have e : newR w h 2 = 0 := rfl
    omega
theorem newR_sht (hd : ν (25 + 8 * g) 0 = w ∧ ν (25 + 8 * g) 1 = h ∧ ν (25 + 8 * g) 2 = 4 ∧ ν (25 + 8 * g) 3 = 0) (w0 : 1 ≤ w) (w1 : w ≤ 16) (h0 : 1 ≤ h) (h1 : h ≤ 12) (ht : ∀ k, 0 ≤ k → k < 192 → ν (27 + 8 * g) k = 0) (hc : ∀ k, 0 ≤ k → k < 192 → ν (28 + 8 * g) k = 0) : Sht ν g (newR w h) := by
  refine ⟨hd, fun x y x0 x1 y0 y1 => ?_, fun x y x0 x1 y0 y1 => ?_, fun p p0 p1 => ?_⟩
  · have hcl := cell_lt (w := w) (h := h) w1 h1 x0 x1 y0 y1
    rw [newR_t x0 y0]
    exact ht (y * w + x) hcl.2.2.1 (by omega)
  · have hcl := cell_lt (w := w) (h := h) w1 h1 x0 x1 y0 y1
    have e : ν (28 + 8 * g) (y * newR w h 0 + x) = 0 := hc (y * w + x) hcl.2.2.1 (by omega)
    rw [e]
    refine ⟨by omega, fun p p0 p1 => ?_⟩
    rw [bt_00 p p0 (by omega), newR_o p0 (by omega), bt_00 x x0 (by have : newR w h 0 = w := rfl; omega)]
    split <;> rfl
  · have e : newR w h 2 = 0 := rfl
    omega
theorem empty_rt (hS : CSh μ) (g0 : 0 ≤ g) (g1 : g < 10) : ∃ ν, FX5_empty (25 + 8 * g) w h μ = RT 0 ν ∧ (ν (25 + 8 * g) 0 = w ∧ ν (25 + 8 * g) 1 = h ∧ ν (25 + 8 * g) 2 = 4 ∧ ν (25 + 8 * g) 3 = 0) ∧ (∀ k, 0 ≤ k → k < 192 → ν (27 + 8 * g) k = 0) ∧ (∀ k, 0 ≤ k → k < 192 → ν (28 + 8 * g) k = 0) ∧ ∀ z k, ¬ ((z = 25 + 8 * g ∧ 0 ≤ k ∧ k ≤ 3) ∨ (27 + 8 * g ≤ z ∧ z ≤ 28 + 8 * g ∧ 0 ≤ k)) → ν z k = μ z k := by
  have hk := hS.2.2.2.2.2.2.2.2.1 g g0 g1
  have hn : ∀ z k, ¬ (z = 25 + 8 * g ∧ 0 ≤ k ∧ k ≤ 3) → mUp (mUp (mUp (mUp μ (25 + 8 * g) 0 w) (25 + 8 * g) 1 h) (25 + 8 * g) 2 4) (25 + 8 * g) 3 0 z k = μ z k := fun z k hz => by simp (disch := omega) only [mUp_ne]
  have hv : mUp (mUp (mUp (mUp μ (25 + 8 * g) 0 w) (25 + 8 * g) 1 h) (25 + 8 * g) 2 4) (25 + 8 * g) 3 0 (25 + 8 * g) 0 = w ∧ mUp (mUp (mUp (mUp μ (25 + 8 * g) 0 w) (25 + 8 * g) 1 h) (25 + 8 * g) 2 4) (25 + 8 * g) 3 0 (25 + 8 * g) 1 = h ∧ mUp (mUp (mUp (mUp μ (25 + 8 * g) 0 w) (25 + 8 * g) 1 h) (25 + 8 * g) 2 4) (25 + 8 * g) 3 0 (25 + 8 * g) 2 = 4 ∧ mUp (mUp (mUp (mUp μ (25 + 8 * g) 0 w) (25 + 8 * g) 1 h) (25 + 8 * g) 2 4) (25 + 8 * g) 3 0 (25 + 8 * g) 3 = 0 := by simp (disch := omega) only [mUp_ne, mUp_same, and_self]
  have hS1 : CSh (mUp μ (25 + 8 * g) 0 w) := hS.up (by unfold CSt; omega)
  have hS2 : CSh (mUp (mUp μ (25 + 8 * g) 0 w) (25 + 8 * g) 1 h) := hS1.up (by unfold CSt; omega)
  have hS3 : CSh (mUp (mUp (mUp μ (25 + 8 * g) 0 w) (25 + 8 * g) 1 h) (25 + 8 * g) 2 4) := hS2.up (by unfold CSt; omega)
  have hS4 : CSh (mUp (mUp (mUp (mUp μ (25 + 8 * g) 0 w) (25 + 8 * g) 1 h) (25 + 8 * g) 2 4) (25 + 8 * g) 3 0) := hS3.up (by unfold CSt; omega)
  unfold FX5_empty BX5_empty_0
  rw [hS.p5_0 g0 g1, hS1.p5_1 g0 g1, hS2.p5_2 g0 g1, hS3.p5_3 g0 g1, hS4.g5_5 g0 g1]
  generalize mUp (mUp (mUp (mUp μ (25 + 8 * g) 0 w) (25 + 8 * g) 1 h) (25 + 8 * g) 2 4) (25 + 8 * g) 3 0 = μ4 at hn hv hS4 ⊢
  have hk4 := hS4.2.2.2.2.2.2.2.2.1 g g0 g1
  obtain ⟨ν1, e1, f1, v1⟩ := fill_rt (μ := μ4) (a := 27 + 8 * g) (v := 0) (n := 192) hk4.2.2.2.2.2.2.1 hk4.2.2.2.2.2.2.2.1 (by omega) (by omega) (by omega)
  have hS5 : CSh ν1 := hS4.fr fun a k hs => f1 a k (by unfold CSt at hs; omega)
  have hk5 := hS5.2.2.2.2.2.2.2.2.1 g g0 g1
  obtain ⟨ν2, e2, f2, v2⟩ := fill_rt (μ := ν1) (a := 28 + 8 * g) (v := 0) (n := 192) hk5.2.2.2.2.2.2.2.2.1 hk5.2.2.2.2.2.2.2.2.2 (by omega) (by omega) (by omega)
  refine ⟨ν2, ?_, ?_, fun k k0 k1 => by rw [f2 _ _ (by omega)]; exact v1 k k0 k1, fun k k0 k1 => v2 k k0 k1, fun z k hz => by rw [f2 _ _ (by omega), f1 _ _ (by omega)]; exact hn z k (by omega)⟩
  · simp only [CL]
    rw [e1]
    simp only [CLX_rt]
    rw [hS5.g5_6 g0 g1, e2]
    rfl
  · simp (disch := omega) only [f2, f1]
    exact hv
end BEG

