/-! the statement tones, side by side -/
def tonR (r : Row) (tx : Int → Int) (s y : Int) : Row := fun j => if 4 + 16 * y ≤ j ∧ j < 4 + 16 * y + r 0 then 11 * (tx (s + (j - (4 + 16 * y))) - 48) else r j
section TON
variable {μ ξ ν ζ : Mem} {L s g U1 U2 y : Int} {tx : Int → Int} {r : Row}
theorem tonR_ne {j : Int} (h : ¬ (4 + 16 * y ≤ j ∧ j < 4 + 16 * y + r 0)) : tonR r tx s y j = r j := if_neg h
theorem tonR_o (hr : okRow r) (y0 : 0 ≤ y) (y1 : y < r 1) {p k : Int} (p0 : 0 ≤ p) (k0 : 0 ≤ k) : rO (tonR r tx s y) p k = rO r p k := tonR_ne (by have := hr.1; omega)
theorem tonR_lo (hr : okRow r) (y0 : 0 ≤ y) {j : Int} (h : j < 4) : tonR r tx s y j = r j := tonR_ne (by omega)
theorem tonR_t (hr : okRow r) {x y' : Int} (y0 : 0 ≤ y) (x0 : 0 ≤ x) (x1 : x < r 0) (y'0 : 0 ≤ y') : rT (tonR r tx s y) x y' = if y' = y then 11 * (tx (s + x) - 48) else rT r x y' := by
  have hr1 := hr.1
  unfold rT
  by_cases e : y' = y
  · rw [if_pos e, e]
    unfold tonR
    rw [if_pos (by omega), show s + (4 + 16 * y + x - (4 + 16 * y)) = s + x by omega]
  · rw [if_neg e, tonR_ne (by omega)]
theorem tonR_cd (hr : okRow r) (y0 : 0 ≤ y) (y1 : y < r 1) {p : Int} (p0 : 0 ≤ p) : CdS r (tonR r tx s y) p := fun k hk => tonR_o hr y0 y1 p0 (by omega)
theorem tonR_ok (hr : okRow r) (y0 : 0 ≤ y) (y1 : y < r 1) (hd : ∀ x, 0 ≤ x → x < r 0 → 48 ≤ tx (s + x) ∧ tx (s + x) ≤ 57) : okRow (tonR r tx s y) := by
  obtain ⟨a, b, d, e, f⟩ := id hr
  have e0 : tonR r tx s y 0 = r 0 := tonR_lo hr y0 (by omega)
  have e1 : tonR r tx s y 1 = r 1 := tonR_lo hr y0 (by omega)
  have e2 : tonR r tx s y 2 = r 2 := tonR_lo hr y0 (by omega)
  have e3 : tonR r tx s y 3 = r 3 := tonR_lo hr y0 (by omega)
  refine ⟨by rw [e0, e1]; exact a, by rw [e2]; exact b, by rw [e3]; exact d, fun x y' x0 x1 y'0 y'1 => ?_, fun p p0 p1 => ?_⟩
  · rw [e0] at x1
    rw [e1] at y'1
    rw [tonR_t hr y0 x0 x1 y'0]
    by_cases q : y' = y
    · rw [if_pos q]
      have := hd x x0 x1
      omega
    · rw [if_neg q]
      exact e x y' x0 x1 y'0 y'1
  · rw [e2] at p1
    obtain ⟨q1, q2, q3, q4, g5, g6, g7, g8, g9⟩ := f p p0 p1
    unfold okPlate
    simp (disch := omega) only [tonR_o hr y0 y1 p0, e0, e1]
    exact ⟨q1, q2, q3, q4, fun y' y'0 y'1 => by rw [tonR_o hr y0 y1 p0 (by omega)]; exact g5 y' y'0 y'1, g6.ext (tonR_cd hr y0 y1 p0), g7, g8, fun j j0 j1 => by rw [tonR_o hr y0 y1 p0 (by omega)]; exact g9 j j0 j1⟩
theorem tonR_sht (hr : okRow r) (hT : Sht μ g r) (g0 : 0 ≤ g) (y0 : 0 ≤ y) (y1 : y < r 1) (hd : 105 ≤ μ 0 0) (g1 : g < 10) (f : ∀ z k, ¬ (z = 27 + 8 * g ∧ y * r 0 ≤ k ∧ k < y * r 0 + r 0) → 25 ≤ z ∨ z = 0 → ν z k = μ z k) (hv : ∀ x, 0 ≤ x → x < r 0 → ν (27 + 8 * g) (y * r 0 + x) = 11 * (tx (s + x) - 48)) : Sht ν g (tonR r tx s y) := by
  have hr1 := hr.1
  have hr2 := hr.2.1
  have e0 : tonR r tx s y 0 = r 0 := tonR_lo hr y0 (by omega)
  have e1 : tonR r tx s y 1 = r 1 := tonR_lo hr y0 (by omega)
  have e2 : tonR r tx s y 2 = r 2 := tonR_lo hr y0 (by omega)
  have e3 : tonR r tx s y 3 = r 3 := tonR_lo hr y0 (by omega)
  refine ⟨⟨?_, ?_, ?_, ?_⟩, fun x y' x0 x1 y'0 y'1 => ?_, fun x y' x0 x1 y'0 y'1 => ?_, fun p p0 p1 => ?_⟩
  · rw [f _ _ (by omega) (by omega), e0, hT.1.1]
  · rw [f _ _ (by omega) (by omega), e1, hT.1.2.1]
  · rw [f _ _ (by omega) (by omega), e3, hT.1.2.2.1]
  · rw [f _ _ (by omega) (by omega), e2, hT.1.2.2.2]
  · rw [e0] at x1 ⊢
    rw [e1] at y'1
    rw [tonR_t hr y0 x0 x1 y'0]
    by_cases q : y' = y
    · rw [if_pos q, q]
      exact hv x x0 x1
    · rw [if_neg q, f _ _ (fun k => q (cell_inj (w := r 0) (x := x) (y := y') (x' := y' * r 0 + x - y * r 0) (y' := y) x0 x1 (by omega) (by omega) (by omega)).2) (by omega)]
      exact hT.2.1 x y' x0 x1 y'0 y'1
  · rw [e0] at x1 ⊢
    rw [e1] at y'1
    have h3 := hT.2.2.1 x y' x0 x1 y'0 y'1
    rw [f _ _ (by omega) (by omega)]
    refine ⟨h3.1, fun p p0 p1 => ?_⟩
    rw [e2, tonR_o hr y0 y1 p0 (by omega)]
    exact h3.2 p p0 p1
  · rw [e2] at p1
    have hk := hr.2.2.2.2 p p0 p1
    have hcd : CdS r (tonR r tx s y) p := tonR_cd hr y0 y1 p0
    obtain ⟨q1, q2, q3, q4, q5⟩ := hT.2.2.2 p p0 p1
    have h13 : rO (tonR r tx s y) p 13 = rO r p 13 := tonR_o hr y0 y1 p0 (by omega)
    refine ⟨?_, ?_, ?_, fun e => ?_, fun e => ?_⟩
    · rw [f _ _ (by omega) (by omega), nmO_ext hcd hk.2.2.2.2.2.2.2.1, q1]
    · simp (disch := omega) only [f, tonR_o hr y0 y1 p0]
      exact q2
    · simp (disch := omega) only [f, tonR_o hr y0 y1 p0]
      exact q3
    · rw [h13] at e
      rw [f _ _ (by omega) (by omega), q4 e]
    · rw [h13] at e
      rw [f _ _ (by omega) (by omega)]
      exact ((q5 e).ext hcd hk.2.2.2.2.2.1.2.1).fr (fun a k a0 a1 => f a k (by omega) (by omega)) (by rw [f _ _ (by omega) (by omega)]; exact Int.le_refl _)
/-- a line of tones in the component -/
theorem line_rt (hR : Rd μ tx L s) (hk : kd tx L s = 1) {w : Int} (g0 : 0 ≤ g) (g1 : g < 10) (h4 : μ 23 4 = 25 + 8 * g) (hw : μ (25 + 8 * g) 0 = w) (w0 : 1 ≤ w) (w1 : w ≤ 16) (y0 : 0 ≤ y) (y1 : y < 12) (he : en tx L s - s = w) (K : Int → Int → Mem → Rz) : ∃ ν, LX4_readTones_79 K FU 23 y 0 μ = K 23 (y + 1) ν ∧ Rd ν tx L (nx tx L s) ∧ (∀ z k, ¬ ((z = 23 ∧ (k = 7 ∨ k = 8 ∨ k = 9)) ∨ (z = 27 + 8 * g ∧ y * w ≤ k ∧ k < y * w + w)) → ν z k = μ z k) ∧ ∀ x, 0 ≤ x → x < w → ν (27 + 8 * g) (y * w + x) = 11 * (tx (s + x) - 48) := by
  have hyw := mul_le_of (a := y) (b := w) (c := 11) (d := 16) y0 (by omega) (by omega) w1
  have hp1 := hR.2.1.1
  have hL := hR.1.2.1
  have hel := en_le hR.2.1
  have hkd := kd_1 hk
  generalize hY : y * w = Y at hyw ⊢
  refine lpR (fun n x ν => LX4_readTones_79 K n 23 y x ν) (fun x ν => 0 ≤ x ∧ (∀ z k, ¬ (z = 27 + 8 * g ∧ Y ≤ k ∧ k < Y + x) → ν z k = μ z k) ∧ ∀ i, 0 ≤ i → i < x → ν (27 + 8 * g) (Y + i) = 11 * (tx (s + i) - 48)) w (fun R => ∃ ν, R = K 23 (y + 1) ν ∧ Rd ν tx L (nx tx L s) ∧ (∀ z k, ¬ ((z = 23 ∧ (k = 7 ∨ k = 8 ∨ k = 9)) ∨ (z = 27 + 8 * g ∧ Y ≤ k ∧ k < Y + w)) → ν z k = μ z k) ∧ ∀ x, 0 ≤ x → x < w → ν (27 + 8 * g) (Y + x) = 11 * (tx (s + x) - 48)) (fun n x ν x1 hs => ?_) (fun n ν hs => ?_) FU 0 μ (by omega) (by rw [show ((FU : Nat) : Int) = 20000 from rfl]; omega) ⟨Int.le_refl _, fun _ _ _ => rfl, fun i i0 i1 => by omega⟩
  · obtain ⟨x0, hf, hv⟩ := hs
    have hS : CSh ν := hR.1.1.fr fun a k hs => hf a k (by unfold CSt at hs; omega)
    have b1 := (hR.1.2.2 (s + x) (by omega) (by omega))
    have hw8 := w8_c b1.2
    have hin := run_in (lo := 48) (hi := 57) (tx := tx) (L := L) (a := s) (k := s + x) (by omega) (by omega)
    have q : ν 2 (s + x) = tx (s + x) := by
      rw [hf _ _ (by omega)]
      omega
    have h4' : ν 23 4 = 25 + 8 * g := by rw [hf _ _ (by omega)]; exact h4
    have h2' : ν 23 2 = 2 := by rw [hf _ _ (by omega)]; exact hR.1.2.1.1
    have h8' : ν 23 8 = s := by rw [hf _ _ (by omega)]; exact hR.2.2.1
    have hw' : ν (25 + 8 * g) 0 = w := by rw [hf _ _ (by omega)]; exact hw
    have r1 : ¬ w ≤ x := by omega
    have ei : w32 (w32 (y * w) + x) = Y + x := by rw [hY, w32_eq (z := Y) (by omega) (by omega), w32_eq (by omega) (by omega)]
    have ev : w32 (w32 (tx (s + x) - 48) * 11) = 11 * (tx (s + x) - 48) := by rw [w32_eq (z := tx (s + x) - 48) (by omega) (by omega), w32_eq (by omega) (by omega), Int.mul_comm]
    have ec : ∀ (K : Int → Mem → Rz) (X : Int → Int → Mem → Rz), CLX (FX5_indexOfCell (25 + 8 * g) x y ν) K X = K (Y + x) ν := fun K X => by
      unfold FX5_indexOfCell BX5_indexOfCell_0
      rw [hS.g5_0 g0 g1, hw', ei]
      rfl
    refine ⟨mUp ν (27 + 8 * g) (Y + x) (11 * (tx (s + x) - 48)), ⟨by omega, fun z k hz => by rw [mUp_ne _ _ (by omega)]; exact hf z k (by omega), fun i i0 i1 => ?_⟩, ?_⟩
    · by_cases ex : i = x
      · rw [ex, mUp_same]
      · rw [mUp_ne _ _ (by omega)]
        exact hv i i0 (by omega)
    · simp (disch := omega) only [LX4_readTones_79, BX4_readTones_79, ↓hS.g6_0, ↓hS.g6_1, ↓hS.g6_2, ↓hS.g6_3, ↓hS.g6_4, ↓hS.g6_5, ↓hS.g6_7, ↓hS.g6_8, ↓hS.k6, ↓hS.g2_0, ↓hS.g2_1, ↓hS.g2_2, ↓hS.g2_3, ↓hS.g2_4, ↓hS.g2_5, ↓hS.g2_6, ↓hS.g2_7, ↓hS.k2, ↓hS.g3_0, ↓hS.g3_1, ↓hS.g3_2, ↓hS.g3_3, ↓hS.g3_4, ↓hS.k3, ↓hS.g4_0, ↓hS.g4_1, ↓hS.g4_3, ↓hS.g4_5, ↓hS.g4_6, ↓hS.g4_7, ↓hS.g4_8, ↓hS.g4_9, ↓hS.g4_10, ↓hS.g4_12, ↓hS.g4_11, ↓hS.k4, ↓hS.g5_0, ↓hS.g5_1, ↓hS.g5_2, ↓hS.g5_3, ↓hS.g5_4, ↓hS.g5_5, ↓hS.g5_6, ↓hS.k5, ↓hS.g1_0, ↓hS.g1_1, ↓hS.g1_2, ↓hS.g1_3, ↓hS.g1_4, ↓hS.g1_5, ↓hS.g1_6, ↓hS.g1_7, ↓hS.k1, ↓hS.l3, ↓hS.n3, ↓hS.l26, ↓hS.n26, ↓hS.l5, ↓hS.n5, ↓hS.l12, ↓hS.n12, ↓hS.l6, ↓hS.n6, ↓hS.l10, ↓hS.n10, ↓hS.l11, ↓hS.n11, ↓hS.l13, ↓hS.n13, ↓hS.l14, ↓hS.n14, ↓hS.l16, ↓hS.n16, ↓hS.l24, ↓hS.n24, ↓hS.l27, ↓hS.n27, ↓hS.l28, ↓hS.n28, ↓hS.l2, ↓hS.n2, ↓hS.g4_4 h4', ↓hS.g4_2 h2', hw', h8', r1, ↓reduceIte, ↓CL, ↓ec, w32_eq (z := s + x), q, ev, ↓hS.p6_1, ↓hS.z6_1, ↓hS.p6_2, ↓hS.z6_2, ↓hS.p6_4, ↓hS.z6_4, ↓hS.p6_5, ↓hS.z6_5, ↓hS.p6_6, ↓hS.p2_6, ↓hS.z2_6, ↓hS.p2_7, ↓hS.z2_7, ↓hS.p3_0, ↓hS.z3_0, ↓hS.p3_1, ↓hS.z3_1, ↓hS.p3_2, ↓hS.z3_2, ↓hS.p3_3, ↓hS.z3_3, ↓hS.p4_0, ↓hS.z4_0, ↓hS.p4_1, ↓hS.z4_1, ↓hS.p4_3, ↓hS.z4_3, ↓hS.p4_5, ↓hS.z4_5, ↓hS.p4_6, ↓hS.z4_6, ↓hS.p4_7, ↓hS.z4_7, ↓hS.p4_8, ↓hS.z4_8, ↓hS.p4_9, ↓hS.z4_9, ↓hS.p4_10, ↓hS.z4_10, ↓hS.p4_12, ↓hS.z4_12, ↓hS.p4_2, ↓hS.p4_4, ↓hS.p5_0, ↓hS.z5_0, ↓hS.p5_1, ↓hS.z5_1, ↓hS.p5_2, ↓hS.z5_2, ↓hS.p5_3, ↓hS.z5_3, ↓hS.p1_0, ↓hS.z1_0, ↓hS.p1_1, ↓hS.z1_1, ↓hS.p1_2, ↓hS.z1_2, ↓hS.p1_3, ↓hS.z1_3, ↓hS.p1_4, ↓hS.z1_4, ↓hS.p1_5, ↓hS.z1_5, ↓hS.p1_6, ↓hS.z1_6, ↓hS.p1_7, ↓hS.z1_7, ↓hS.s6, ↓hS.s10, ↓hS.s11, ↓hS.s13, ↓hS.s14, ↓hS.s16, ↓hS.s24, ↓hS.s27, ↓hS.s28, ↓hS.s2, w32_eq (z := x + 1)]
  · obtain ⟨x0, hf, hv⟩ := hs
    have hS : CSh ν := hR.1.1.fr fun a k hs => hf a k (by unfold CSt at hs; omega)
    have hTb : Tb ν tx L := ⟨hS, ⟨by rw [hf _ _ (by omega)]; exact hR.1.2.1.1, by rw [hf _ _ (by omega)]; exact hR.1.2.1.2.1, hL.2.2⟩, fun k k0 k1 => by rw [hf _ _ (by omega)]; exact hR.1.2.2 k k0 k1⟩
    have hRν : Rd ν tx L s := ⟨hTb, hR.2.1, by rw [hf _ _ (by omega)]; exact hR.2.2.1, by rw [hf _ _ (by omega)]; exact hR.2.2.2.1, by rw [hf _ _ (by omega)]; exact hR.2.2.2.2⟩
    obtain ⟨ν2, e1, r2, f2⟩ := hRν.next
    have h4' : ν 23 4 = 25 + 8 * g := by rw [hf _ _ (by omega)]; exact h4
    have hw' : ν (25 + 8 * g) 0 = w := by rw [hf _ _ (by omega)]; exact hw
    refine ⟨ν2, ?_, r2, fun z k hz => by rw [f2 _ _ (by omega)]; exact hf z k (by omega), fun x x0 x1 => by rw [f2 _ _ (by omega)]; exact hv x x0 x1⟩
    simp (disch := omega) only [LX4_readTones_79, BX4_readTones_79, ↓hS.g6_0, ↓hS.g6_1, ↓hS.g6_2, ↓hS.g6_3, ↓hS.g6_4, ↓hS.g6_5, ↓hS.g6_7, ↓hS.g6_8, ↓hS.k6, ↓hS.g2_0, ↓hS.g2_1, ↓hS.g2_2, ↓hS.g2_3, ↓hS.g2_4, ↓hS.g2_5, ↓hS.g2_6, ↓hS.g2_7, ↓hS.k2, ↓hS.g3_0, ↓hS.g3_1, ↓hS.g3_2, ↓hS.g3_3, ↓hS.g3_4, ↓hS.k3, ↓hS.g4_0, ↓hS.g4_1, ↓hS.g4_3, ↓hS.g4_5, ↓hS.g4_6, ↓hS.g4_7, ↓hS.g4_8, ↓hS.g4_9, ↓hS.g4_10, ↓hS.g4_12, ↓hS.g4_11, ↓hS.k4, ↓hS.g5_0, ↓hS.g5_1, ↓hS.g5_2, ↓hS.g5_3, ↓hS.g5_4, ↓hS.g5_5, ↓hS.g5_6, ↓hS.k5, ↓hS.g1_0, ↓hS.g1_1, ↓hS.g1_2, ↓hS.g1_3, ↓hS.g1_4, ↓hS.g1_5, ↓hS.g1_6, ↓hS.g1_7, ↓hS.k1, ↓hS.l3, ↓hS.n3, ↓hS.l26, ↓hS.n26, ↓hS.l5, ↓hS.n5, ↓hS.l12, ↓hS.n12, ↓hS.l6, ↓hS.n6, ↓hS.l10, ↓hS.n10, ↓hS.l11, ↓hS.n11, ↓hS.l13, ↓hS.n13, ↓hS.l14, ↓hS.n14, ↓hS.l16, ↓hS.n16, ↓hS.l24, ↓hS.n24, ↓hS.l27, ↓hS.n27, ↓hS.l28, ↓hS.n28, ↓hS.l2, ↓hS.n2, ↓hS.g4_4 h4', hw', Int.le_refl, ↓reduceIte, ↓CL, e1, CLX_rt, w32_eq]
end TON

