/-! the component reads the law's text, statement by statement -/
/-- the reader at s, the sheet g holds r; of all else only the reader's own cells are others than at μ0 -/
def Dq (μ0 : Mem) (g : Int) (μ : Mem) (tx : Int → Int) (L s : Int) (r : Row) (ht hl : Int) : Prop := Rd μ tx L s ∧ (0 ≤ g ∧ g < 10 ∧ μ 23 4 = 25 + 8 * g) ∧ (Sht μ g r ∧ okRow r) ∧ (μ 23 5 = ht ∧ μ 23 6 = hl ∧ μ 23 1 = -1) ∧ 105 ≤ μ0 0 0 ∧ ∀ z k, ¬ (z = 23 ∨ (25 + 8 * g ≤ z ∧ z ≤ 32 + 8 * g)) → μ z k = μ0 z k
section DQS
variable {μ0 μ ν : Mem} {L s s' s1 s2 g w h y v i ht hl q k a b sh : Int} {tx : Int → Int} {r r' : Row} {dig : Int → Int → Int}
theorem Rd.mv (h : Rd μ tx L s) (hS : CSh ν) (f : ∀ k, k = 2 ∨ k = 3 ∨ k = 7 ∨ k = 8 ∨ k = 9 → ν 23 k = μ 23 k) (f2 : ∀ k, 0 ≤ k → ν 2 k = μ 2 k) : Rd ν tx L s := by
  obtain ⟨a1, a2, a3, a4, a5⟩ := h
  exact ⟨⟨hS, ⟨by rw [f _ (by omega)]; exact a1.2.1.1, by rw [f _ (by omega)]; exact a1.2.1.2.1, a1.2.1.2.2⟩, fun k k0 k1 => by rw [f2 _ k0]; exact a1.2.2 k k0 k1⟩, a2, by rw [f _ (by omega)]; exact a3, by rw [f _ (by omega)]; exact a4, by rw [f _ (by omega)]; exact a5⟩
theorem Dq.st (h : Dq μ0 g μ tx L s r ht hl) (R : Rd ν tx L s') (f : RdS μ ν) : Dq μ0 g ν tx L s' r ht hl := by
  obtain ⟨hR, ⟨g0, g1, g4⟩, ⟨hT, hr⟩, ⟨e5, e6, e1⟩, d, hf⟩ := h
  exact ⟨R, ⟨g0, g1, by rw [f _ _ (by omega)]; exact g4⟩, ⟨hT.fr hr (fun a k _ _ _ => f a k (by omega)) (fun a k _ _ => f a k (by omega)) (by rw [f _ _ (by omega)]; exact Int.le_refl _), hr⟩, ⟨by rw [f _ _ (by omega)]; exact e5, by rw [f _ _ (by omega)]; exact e6, by rw [f _ _ (by omega)]; exact e1⟩, d, fun z k hz => by rw [f _ _ (by omega)]; exact hf z k hz⟩
/-- the mark that a statement was there -/
theorem Dq.mk5 (h : Dq μ0 g μ tx L s r ht hl) : Dq μ0 g (mUp μ 23 5 1) tx L s r 1 hl := by
  obtain ⟨hR, ⟨g0, g1, g4⟩, ⟨hT, hr⟩, ⟨e5, e6, e1⟩, d, hf⟩ := h
  exact ⟨hR.mv (hR.1.1.up (by unfold CSt; omega)) (fun k hk => mUp_ne _ _ (by omega)) (fun k hk => mUp_ne _ _ (by omega)), ⟨g0, g1, by rw [mUp_ne _ _ (by omega)]; exact g4⟩, ⟨hT.fr hr (fun a k _ _ _ => mUp_ne _ _ (by omega)) (fun a k _ _ => mUp_ne _ _ (by omega)) (by rw [mUp_ne _ _ (by omega)]; exact Int.le_refl _), hr⟩, ⟨mUp_same _ _ _ _, by rw [mUp_ne _ _ (by omega)]; exact e6, by rw [mUp_ne _ _ (by omega)]; exact e1⟩, d, fun z k hz => by rw [mUp_ne _ _ (by omega)]; exact hf z k hz⟩
theorem Dq.mk6 (h : Dq μ0 g μ tx L s r ht hl) : Dq μ0 g (mUp μ 23 6 1) tx L s r ht 1 := by
  obtain ⟨hR, ⟨g0, g1, g4⟩, ⟨hT, hr⟩, ⟨e5, e6, e1⟩, d, hf⟩ := h
  exact ⟨hR.mv (hR.1.1.up (by unfold CSt; omega)) (fun k hk => mUp_ne _ _ (by omega)) (fun k hk => mUp_ne _ _ (by omega)), ⟨g0, g1, by rw [mUp_ne _ _ (by omega)]; exact g4⟩, ⟨hT.fr hr (fun a k _ _ _ => mUp_ne _ _ (by omega)) (fun a k _ _ => mUp_ne _ _ (by omega)) (by rw [mUp_ne _ _ (by omega)]; exact Int.le_refl _), hr⟩, ⟨by rw [mUp_ne _ _ (by omega)]; exact e5, mUp_same _ _ _ _, by rw [mUp_ne _ _ (by omega)]; exact e1⟩, d, fun z k hz => by rw [mUp_ne _ _ (by omega)]; exact hf z k hz⟩
/-- limit -/
theorem limit_st (h : Dq μ0 g μ tx L s r ht 0) (hn : nx tx L s = s1) (hk : kd tx L s1 = 1) (hv : num tx L s1 = v) (v0 : 1 ≤ v ∧ v ≤ 4) (hn2 : nx tx L s1 = s2) : ∃ ν, FX4_readLimit 23 μ = RT 1 ν ∧ Dq μ0 g ν tx L s2 (limR r v) ht 1 := by
  have h6 := h.mk6
  obtain ⟨ν1, k1, k2, k3⟩ := h6.1.next
  rw [hn] at k2
  have h7 := h6.st k2 k3.toS
  obtain ⟨ν2, q1, q2, q3, q4⟩ := (takeNumber_rt k2 (lo := 1) (hi := 4) (by omega) (by omega)).1 hk (by omega)
  rw [hn2] at q2
  obtain ⟨hR, ⟨g0, g1, g4⟩, ⟨hT, hr⟩, ⟨e5, e6, e1⟩, d, hf⟩ := h7.st q2 q3
  refine ⟨mUp ν2 (25 + 8 * g) 2 v, ?_, q2.mv (q2.1.1.up (by unfold CSt; omega)) (fun k hk => mUp_ne _ _ (by omega)) (fun k hk => mUp_ne _ _ (by omega)), ⟨g0, g1, by rw [mUp_ne _ _ (by omega)]; exact g4⟩, ⟨Sht_lim hr hT g0 g1, limR_ok hr v0⟩, ⟨by rw [mUp_ne _ _ (by omega)]; exact e5, by rw [mUp_ne _ _ (by omega)]; exact e6, by rw [mUp_ne _ _ (by omega)]; exact e1⟩, d, fun z k hz => by rw [mUp_ne _ _ (by omega)]; exact hf z k hz⟩
  unfold FX4_readLimit BX4_readLimit_0
  rw [h.1.1.1.g4_6, h.2.2.2.1.2.1, if_pos rfl, h.1.1.1.z4_6 (Or.inr rfl), h6.1.1.1.k4, k1]
  simp only [CL, CLX_rt]
  rw [k2.1.1.k4, q1]
  simp only [CLX_rt]
  rw [if_pos (by decide), q2.1.1.g4_4 g4, q2.1.1.g4_10, q4, hv, q2.1.1.p5_2 g0 g1]
  rfl
/-- the lines of tones: line y begins at p + y * (w + 1) -/
theorem lines_st {p : Int} (hw : 1 ≤ w ∧ w ≤ 16) (hh : h ≤ 12) (hd : ∀ x y, 0 ≤ x → x < w → 0 ≤ y → y < h → tx (p + y * (w + 1) + x) = 48 + dig x y ∧ 0 ≤ dig x y ∧ dig x y ≤ 9) (hk : ∀ y, 0 ≤ y → y < h → kd tx L (p + y * (w + 1)) = 1 ∧ en tx L (p + y * (w + 1)) = p + y * (w + 1) + w) (hx : ∀ y, 0 ≤ y → y + 1 < h → nx tx L (p + y * (w + 1)) = p + (y + 1) * (w + 1)) (he : nx tx L (p + (h - 1) * (w + 1)) = s2) : ∀ (m n : Nat) (y : Int) (μ : Mem) (r : Row), y + m + 1 = h → m + 1 < n → 0 ≤ y → r 0 = w → r 1 = h → Dq μ0 g μ tx L (p + y * (w + 1)) r ht hl → ∃ ν r', LX4_readTones_25 n 23 y μ = RT 1 ν ∧ Dq μ0 g ν tx L s2 r' ht hl ∧ (∀ j, ¬ (4 ≤ j ∧ j < 196) → r' j = r j) ∧ ∀ x y', 0 ≤ x → x < w → 0 ≤ y' → y' < h → rT r' x y' = if y ≤ y' then 11 * dig x y' else rT r x y'
  | m, 0, y, μ, r, _, h2, _, _, _, _ => by omega
  | m, n + 1, y, μ, r, h1, h2, y0, hr0, hr1, hD => by
    obtain ⟨hR, ⟨g0, g1, g4⟩, ⟨hT, hr⟩, ⟨e5, e6, e1⟩, d, hf⟩ := id hD
    have hky := hk y y0 (by omega)
    have hL := hR.1.2.1
    have hp := hR.2.1.1
    have hwx := hr.1
    obtain ⟨ν, q1, q2, q3, q4⟩ := line_rt hR hky.1 (w := w) (y := y) g0 g1 g4 (by rw [hT.1.1, hr0]) hw.1 hw.2 y0 (by omega) (by rw [hky.2]; omega) (fun y0 y1 ν => LX4_readTones_25 n y0 y1 ν)
    have e0 : LX4_readTones_25 (n + 1) 23 y μ = LX4_readTones_25 n 23 (y + 1) ν := by
      rw [LX4_readTones_25, BX4_readTones_25, hR.1.1.g4_4 g4, hR.1.1.g5_1 g0 g1, hT.1.2.1, if_neg (by omega), hR.1.1.g4_7, hR.2.2.2.1, if_pos hky.1, hR.1.1.g4_9, hR.1.1.g4_8, hR.1.1.g4_4 g4, hR.1.1.g5_0 g0 g1, hT.1.1, hR.2.2.1, hR.2.2.2.2, hky.2, w32_eq (by omega) (by omega), if_pos (by omega)]
      exact q1
    have hwd : ∀ x, 0 ≤ x → x < r 0 → 48 ≤ tx (p + y * (w + 1) + x) ∧ tx (p + y * (w + 1) + x) ≤ 57 := fun x x0 x1 => by
      have := hd x y x0 (by omega) y0 (by omega)
      omega
    have hν0 : ν 0 0 = μ 0 0 := q3 _ _ (by omega)
    have hμ0 : μ 0 0 = μ0 0 0 := hf _ _ (by omega)
    have hD1 : Dq μ0 g ν tx L (nx tx L (p + y * (w + 1))) (tonR r tx (p + y * (w + 1)) y) ht hl := by
      refine ⟨q2, ⟨g0, g1, by rw [q3 _ _ (by omega)]; exact g4⟩, ⟨tonR_sht hr hT g0 y0 (by omega) (by omega) g1 (fun z k hz h25 => q3 z k (by rw [hr0] at hz; omega)) (fun x x0 x1 => by rw [hr0] at x1 ⊢; exact q4 x x0 x1), tonR_ok hr y0 (by omega) hwd⟩, ⟨by rw [q3 _ _ (by omega)]; exact e5, by rw [q3 _ _ (by omega)]; exact e6, by rw [q3 _ _ (by omega)]; exact e1⟩, d, fun z k hz => by rw [q3 _ _ (by omega)]; exact hf z k hz⟩
    have ht1 : ∀ x y', 0 ≤ x → x < w → 0 ≤ y' → y' < h → rT (tonR r tx (p + y * (w + 1)) y) x y' = if y' = y then 11 * dig x y' else rT r x y' := fun x y' x0 x1 y'0 y'1 => by
      rw [tonR_t hr y0 x0 (by omega) y'0]
      by_cases e : y' = y
      · rw [if_pos e, if_pos e, e, (hd x y x0 x1 y0 (by omega)).1]
        omega
      · rw [if_neg e, if_neg e]
    have ho1 : ∀ j, ¬ (4 ≤ j ∧ j < 196) → tonR r tx (p + y * (w + 1)) y j = r j := fun j hj => tonR_ne (by omega)
    cases m with
    | zero =>
      have ey : y = h - 1 := by omega
      rw [show nx tx L (p + y * (w + 1)) = s2 by rw [ey]; exact he] at hD1
      obtain ⟨n, rfl⟩ : ∃ n', n = n' + 1 := ⟨n - 1, by omega⟩
      refine ⟨ν, _, ?_, hD1, ho1, fun x y' x0 x1 y'0 y'1 => ?_⟩
      · rw [e0, LX4_readTones_25, BX4_readTones_25, hD1.1.1.1.g4_4 hD1.2.1.2.2, hD1.1.1.1.g5_1 g0 g1, hD1.2.2.1.1.1.2.1, tonR_lo hr y0 (by omega), if_pos (by omega)]
        rfl
      · rw [ht1 x y' x0 x1 y'0 y'1]
        by_cases e : y' = y
        · rw [if_pos e, if_pos (by omega)]
        · rw [if_neg e, if_neg (by omega)]
    | succ m =>
      rw [hx y y0 (by omega)] at hD1
      obtain ⟨ν2, r2, a1, a2, a3, a4⟩ := lines_st hw hh hd hk hx he m n (y + 1) ν (tonR r tx (p + y * (w + 1)) y) (by omega) (by omega) (by omega) (by rw [tonR_lo hr y0 (by omega)]; exact hr0) (by rw [tonR_lo hr y0 (by omega)]; exact hr1) hD1
      refine ⟨ν2, r2, e0.trans a1, a2, fun j hj => (a3 j hj).trans (ho1 j hj), fun x y' x0 x1 y'0 y'1 => ?_⟩
      rw [a4 x y' x0 x1 y'0 y'1, ht1 x y' x0 x1 y'0 y'1]
      by_cases e : y + 1 ≤ y'
      · rw [if_pos e, if_pos (by omega)]
      · rw [if_neg e]
        by_cases e2 : y' = y
        · rw [if_pos e2, if_pos (by omega)]
        · rw [if_neg e2, if_neg (by omega)]
theorem tones_st {p : Int} (hD : Dq μ0 g μ tx L s r 0 hl) (hn : nx tx L s = p) (hr0 : r 0 = w) (hr1 : r 1 = h) (hd : ∀ x y, 0 ≤ x → x < w → 0 ≤ y → y < h → tx (p + y * (w + 1) + x) = 48 + dig x y ∧ 0 ≤ dig x y ∧ dig x y ≤ 9) (hk : ∀ y, 0 ≤ y → y < h → kd tx L (p + y * (w + 1)) = 1 ∧ en tx L (p + y * (w + 1)) = p + y * (w + 1) + w) (hx : ∀ y, 0 ≤ y → y + 1 < h → nx tx L (p + y * (w + 1)) = p + (y + 1) * (w + 1)) (he : nx tx L (p + (h - 1) * (w + 1)) = s2) : ∃ ν r', FX4_readTones 23 μ = RT 1 ν ∧ Dq μ0 g ν tx L s2 r' 1 hl ∧ (∀ j, ¬ (4 ≤ j ∧ j < 196) → r' j = r j) ∧ ∀ x y', 0 ≤ x → x < w → 0 ≤ y' → y' < h → rT r' x y' = 11 * dig x y' := by
  have h5 := hD.mk5
  have hr := hD.2.2.1.2.1
  obtain ⟨ν1, k1, k2, k3⟩ := h5.1.next
  rw [hn] at k2
  have h7 := h5.st k2 k3.toS
  obtain ⟨ν, r', a1, a2, a3, a4⟩ := lines_st (p := p) (s2 := s2) ⟨by omega, by omega⟩ (by omega) hd hk hx he (h - 1).toNat FU 0 ν1 r (by omega) (by rw [show FU = 20000 from rfl]; omega) (Int.le_refl _) hr0 hr1 (by rw [Int.zero_mul, Int.add_zero]; exact h7)
  refine ⟨ν, r', ?_, a2, a3, fun x y' x0 x1 y0 y1 => by rw [a4 x y' x0 x1 y0 y1, if_pos y0]⟩
  unfold FX4_readTones BX4_readTones_0
  rw [hD.1.1.1.g4_5, hD.2.2.2.1.1, if_pos rfl, hD.1.1.1.z4_5 (Or.inr rfl), h5.1.1.1.k4, k1]
  simp only [CL, CLX_rt]
  exact a1
end DQS
