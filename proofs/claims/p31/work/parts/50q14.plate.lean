/-! the component reads a plate of the law's text -/
section ADP
variable {μ ν : Mem} {g p n : Int}
theorem addPlate_rt (hS : CSh μ) (g0 : 0 ≤ g) (g1 : g < 10) (hN : μ (25 + 8 * g) 3 = p) (p0 : 0 ≤ p) (p1 : p < 4) {nm a b sh q : Int} : ∃ ν, FX5_addPlate (25 + 8 * g) nm a b sh q μ = RT 0 ν ∧ (ν (29 + 8 * g + p) 0 = nm ∧ ν (29 + 8 * g + p) 1 = a ∧ ν (29 + 8 * g + p) 2 = b ∧ ν (29 + 8 * g + p) 3 = sh ∧ ν (29 + 8 * g + p) 4 = 0 ∧ ν (29 + 8 * g + p) 5 = 0 ∧ ν (29 + 8 * g + p) 6 = 1000 ∧ ν (29 + 8 * g + p) 7 = q ∧ ν (25 + 8 * g) 3 = p + 1) ∧ ∀ z k, ¬ ((z = 25 + 8 * g ∧ k = 3) ∨ (z = 29 + 8 * g + p ∧ 0 ≤ k ∧ k ≤ 7)) → ν z k = μ z k := by
  refine ⟨mUp (mUp (mUp (mUp (mUp (mUp (mUp (mUp (mUp μ (29 + 8 * g + p) 0 nm) (29 + 8 * g + p) 1 a) (29 + 8 * g + p) 2 b) (29 + 8 * g + p) 3 sh) (29 + 8 * g + p) 4 0) (29 + 8 * g + p) 5 0) (29 + 8 * g + p) 6 1000) (29 + 8 * g + p) 7 q) (25 + 8 * g) 3 (p + 1), ?_, ?_, fun z k hz => by simp (disch := omega) only [mUp_ne]⟩
  · simp (disch := first | omega | exact hS | exact (CSh.up hS (by unfold CSt; omega)) | exact (CSh.up (CSh.up hS (by unfold CSt; omega)) (by unfold CSt; omega)) | exact (CSh.up (CSh.up (CSh.up hS (by unfold CSt; omega)) (by unfold CSt; omega)) (by unfold CSt; omega)) | exact (CSh.up (CSh.up (CSh.up (CSh.up hS (by unfold CSt; omega)) (by unfold CSt; omega)) (by unfold CSt; omega)) (by unfold CSt; omega)) | exact (CSh.up (CSh.up (CSh.up (CSh.up (CSh.up hS (by unfold CSt; omega)) (by unfold CSt; omega)) (by unfold CSt; omega)) (by unfold CSt; omega)) (by unfold CSt; omega)) | exact (CSh.up (CSh.up (CSh.up (CSh.up (CSh.up (CSh.up hS (by unfold CSt; omega)) (by unfold CSt; omega)) (by unfold CSt; omega)) (by unfold CSt; omega)) (by unfold CSt; omega)) (by unfold CSt; omega)) | exact (CSh.up (CSh.up (CSh.up (CSh.up (CSh.up (CSh.up (CSh.up hS (by unfold CSt; omega)) (by unfold CSt; omega)) (by unfold CSt; omega)) (by unfold CSt; omega)) (by unfold CSt; omega)) (by unfold CSt; omega)) (by unfold CSt; omega)) | exact (CSh.up (CSh.up (CSh.up (CSh.up (CSh.up (CSh.up (CSh.up (CSh.up hS (by unfold CSt; omega)) (by unfold CSt; omega)) (by unfold CSt; omega)) (by unfold CSt; omega)) (by unfold CSt; omega)) (by unfold CSt; omega)) (by unfold CSt; omega)) (by unfold CSt; omega)) | exact (CSh.up (CSh.up (CSh.up (CSh.up (CSh.up (CSh.up (CSh.up (CSh.up (CSh.up hS (by unfold CSt; omega)) (by unfold CSt; omega)) (by unfold CSt; omega)) (by unfold CSt; omega)) (by unfold CSt; omega)) (by unfold CSt; omega)) (by unfold CSt; omega)) (by unfold CSt; omega)) (by unfold CSt; omega))) only [FX5_addPlate, BX5_addPlate_0, ↓CSh.g6_0, ↓CSh.g6_1, ↓CSh.g6_2, ↓CSh.g6_3, ↓CSh.g6_4, ↓CSh.g6_5, ↓CSh.g6_7, ↓CSh.g6_8, ↓CSh.k6, ↓CSh.g2_0, ↓CSh.g2_1, ↓CSh.g2_2, ↓CSh.g2_3, ↓CSh.g2_4, ↓CSh.g2_5, ↓CSh.g2_6, ↓CSh.g2_7, ↓CSh.k2, ↓CSh.g3_0, ↓CSh.g3_1, ↓CSh.g3_2, ↓CSh.g3_3, ↓CSh.g3_4, ↓CSh.k3, ↓CSh.g4_0, ↓CSh.g4_1, ↓CSh.g4_3, ↓CSh.g4_5, ↓CSh.g4_6, ↓CSh.g4_7, ↓CSh.g4_8, ↓CSh.g4_9, ↓CSh.g4_10, ↓CSh.g4_12, ↓CSh.g4_11, ↓CSh.k4, ↓CSh.g5_0, ↓CSh.g5_1, ↓CSh.g5_2, ↓CSh.g5_3, ↓CSh.g5_4, ↓CSh.g5_5, ↓CSh.g5_6, ↓CSh.k5, ↓CSh.g1_0, ↓CSh.g1_1, ↓CSh.g1_2, ↓CSh.g1_3, ↓CSh.g1_4, ↓CSh.g1_5, ↓CSh.g1_6, ↓CSh.g1_7, ↓CSh.k1, ↓CSh.l3, ↓CSh.n3, ↓CSh.l26, ↓CSh.n26, ↓CSh.l5, ↓CSh.n5, ↓CSh.l12, ↓CSh.n12, ↓CSh.l6, ↓CSh.n6, ↓CSh.l10, ↓CSh.n10, ↓CSh.l11, ↓CSh.n11, ↓CSh.l13, ↓CSh.n13, ↓CSh.l14, ↓CSh.n14, ↓CSh.l16, ↓CSh.n16, ↓CSh.l24, ↓CSh.n24, ↓CSh.l27, ↓CSh.n27, ↓CSh.l28, ↓CSh.n28, ↓CSh.l2, ↓CSh.n2, ↓CSh.p6_1, ↓CSh.z6_1, ↓CSh.p6_2, ↓CSh.z6_2, ↓CSh.p6_4, ↓CSh.z6_4, ↓CSh.p6_5, ↓CSh.z6_5, ↓CSh.p6_6, ↓CSh.p2_6, ↓CSh.z2_6, ↓CSh.p2_7, ↓CSh.z2_7, ↓CSh.p3_0, ↓CSh.z3_0, ↓CSh.p3_1, ↓CSh.z3_1, ↓CSh.p3_2, ↓CSh.z3_2, ↓CSh.p3_3, ↓CSh.z3_3, ↓CSh.p4_0, ↓CSh.z4_0, ↓CSh.p4_1, ↓CSh.z4_1, ↓CSh.p4_3, ↓CSh.z4_3, ↓CSh.p4_5, ↓CSh.z4_5, ↓CSh.p4_6, ↓CSh.z4_6, ↓CSh.p4_7, ↓CSh.z4_7, ↓CSh.p4_8, ↓CSh.z4_8, ↓CSh.p4_9, ↓CSh.z4_9, ↓CSh.p4_10, ↓CSh.z4_10, ↓CSh.p4_12, ↓CSh.z4_12, ↓CSh.p4_2, ↓CSh.p4_4, ↓CSh.p5_0, ↓CSh.z5_0, ↓CSh.p5_1, ↓CSh.z5_1, ↓CSh.p5_2, ↓CSh.z5_2, ↓CSh.p5_3, ↓CSh.z5_3, ↓CSh.p1_0, ↓CSh.z1_0, ↓CSh.p1_1, ↓CSh.z1_1, ↓CSh.p1_2, ↓CSh.z1_2, ↓CSh.p1_3, ↓CSh.z1_3, ↓CSh.p1_4, ↓CSh.z1_4, ↓CSh.p1_5, ↓CSh.z1_5, ↓CSh.p1_6, ↓CSh.z1_6, ↓CSh.p1_7, ↓CSh.z1_7, ↓CSh.s6, ↓CSh.s10, ↓CSh.s11, ↓CSh.s13, ↓CSh.s14, ↓CSh.s16, ↓CSh.s24, ↓CSh.s27, ↓CSh.s28, ↓CSh.s2, hN, p1, ↓reduceIte, mUp_ne, w32_eq]
  · simp (disch := omega) only [mUp_ne, mUp_same, and_self]
end ADP
def plR (r : Row) (ch a b sh : Int) : Row := fun j => if j = 2 then r 2 + 1 else if 196 + 1226 * r 2 ≤ j ∧ j < 196 + 1226 * r 2 + 1226 then (if j = 196 + 1226 * r 2 then 1 else if j = 196 + 1226 * r 2 + 1 then ch else if j = 196 + 1226 * r 2 + 7 then a else if j = 196 + 1226 * r 2 + 8 then b else if j = 196 + 1226 * r 2 + 9 then sh else if j = 196 + 1226 * r 2 + 12 then 1000 else 0) else r j
section PLT
variable {μ0 μ ν : Mem} {L s s1 s2 s3 s4 s5 g ch a b sh ht hl : Int} {tx : Int → Int} {r : Row}
theorem plR_2 : plR r ch a b sh 2 = r 2 + 1 := if_pos rfl
theorem plR_ne {j : Int} (h : j ≠ 2) (h2 : ¬ (196 + 1226 * r 2 ≤ j ∧ j < 196 + 1226 * r 2 + 1226)) : plR r ch a b sh j = r j := by
  unfold plR
  rw [if_neg h, if_neg h2]
theorem plR_o {k : Int} (h2 : 0 ≤ r 2) (k0 : 0 ≤ k) (k1 : k < 1226) : rO (plR r ch a b sh) (r 2) k = if k = 0 then 1 else if k = 1 then ch else if k = 7 then a else if k = 8 then b else if k = 9 then sh else if k = 12 then 1000 else 0 := by
  unfold rO plR
  rw [if_neg (by omega), if_pos (by omega)]
  by_cases q0 : k = 0
  · rw [if_pos q0, if_pos (by omega)]
  rw [if_neg q0, if_neg (by omega)]
  by_cases q1 : k = 1
  · rw [if_pos q1, if_pos (by omega)]
  rw [if_neg q1, if_neg (by omega)]
  by_cases q2 : k = 7
  · rw [if_pos q2, if_pos (by omega)]
  rw [if_neg q2, if_neg (by omega)]
  by_cases q3 : k = 8
  · rw [if_pos q3, if_pos (by omega)]
  rw [if_neg q3, if_neg (by omega)]
  by_cases q4 : k = 9
  · rw [if_pos q4, if_pos (by omega)]
  rw [if_neg q4, if_neg (by omega)]
  by_cases q5 : k = 12
  · rw [if_pos q5, if_pos (by omega)]
  rw [if_neg q5, if_neg (by omega)]
theorem plR_old {p k : Int} (p0 : 0 ≤ p) (p1 : p < r 2) (k0 : 0 ≤ k) (k1 : k < 1226) : rO (plR r ch a b sh) p k = rO r p k := plR_ne (by omega) (by omega)
theorem fdV_no {v : Int} (hr : 0 ≤ r 2) (hn : ∀ p, 0 ≤ p → p < r 2 → nmO r p ≠ v) : fdV r v = -1 := by
  have h : ∀ (k : Nat) (p : Int), 0 ≤ p → p + k = r 2 → fdA r v k p = -1 := by
    intro k
    induction k with
    | zero => intro p _ _; rfl
    | succ k ih =>
      intro p p0 hp
      rw [fdA, if_neg (hn p p0 (by omega))]
      exact ih (p + 1) (by omega) (by omega)
  exact h (r 2).toNat 0 (Int.le_refl _) (by omega)
theorem nm_new (h2 : 0 ≤ r 2) : nmO (plR r ch a b sh) (r 2) = 256 + ch := by
  have e0 : rO (plR r ch a b sh) (r 2) 0 = 1 := by rw [plR_o h2 (by omega) (by omega), if_pos rfl]
  have e1 : rO (plR r ch a b sh) (r 2) (1 + 0) = ch := by rw [plR_o h2 (by omega) (by omega), if_neg (by omega), if_pos (by omega)]
  unfold nmO
  rw [e0]
  show pkN _ _ 1 = _
  show 1 * 256 + rO (plR r ch a b sh) (r 2) (1 + ((0 : Nat) : Int)) = _
  rw [show ((0 : Nat) : Int) = 0 from rfl, e1]
  omega
theorem nm_old {p : Int} (hr : okRow r) (p0 : 0 ≤ p) (p1 : p < r 2) : nmO (plR r ch a b sh) p = nmO r p := nmO_ext (fun k hk => plR_old p0 p1 (by omega) (by omega)) (hr.2.2.2.2 p p0 p1).2.2.2.2.2.2.2.1
theorem plate_st (h : Dq μ0 g μ tx L s r ht hl) (htx : ∀ k, 0 ≤ tx k ∧ tx k ≤ 255) (h2 : r 2 < 4) (n1 : nx tx L s = s1) (k1 : kd tx L s1 = 2) (e1 : en tx L s1 = s1 + 1) (hch : tx s1 = ch) (hc : 97 ≤ ch ∧ ch ≤ 122) (hnm : ∀ p, 0 ≤ p → p < r 2 → nmO r p ≠ 256 + ch) (n2 : nx tx L s1 = s2) (k2 : kd tx L s2 = 1) (v2 : num tx L s2 = a) (ha : 0 ≤ a ∧ a ≤ 3) (n3 : nx tx L s2 = s3) (k3 : kd tx L s3 = 1) (v3 : num tx L s3 = b) (hb : 0 ≤ b ∧ b ≤ 3) (hab : 0 < a + b) (n4 : nx tx L s3 = s4) (v4 : shp tx L s4 = sh) (hsh : 0 ≤ sh ∧ sh ≤ 3) (n5 : nx tx L s4 = s5) (v5 : ¬ wd tx L 5 s5) : ∃ ν, FX4_readPlate 23 μ = RT 1 ν ∧ Dq μ0 g ν tx L s5 (plR r ch a b sh) ht hl := by
  have hr2 := h.2.2.1.2.2.1
  obtain ⟨ν1, w1, R1, f1⟩ := h.1.next
  rw [n1] at R1
  have d1 := h.st R1 f1.toS
  obtain ⟨ν2, w2, R2, f2⟩ := R1.next
  rw [n2] at R2
  have d2 := d1.st R2 f2.toS
  obtain ⟨ν3, w3, R3, f3, u3⟩ := (takeNumber_rt R2 (lo := 0) (hi := 3) (by omega) (by omega)).1 k2 (by omega)
  rw [n3] at R3
  have d3 := d2.st R3 f3
  have hlo : ∃ lo, (lo = if a = 0 then (1 : Int) else 0) ∧ 0 ≤ lo ∧ lo ≤ b := by
    refine ⟨if a = 0 then 1 else 0, rfl, ?_, ?_⟩
    · split <;> omega
    · split <;> omega
  obtain ⟨lo, el, lo0, lo1⟩ := hlo
  obtain ⟨ν4, w4, R4, f4, u4⟩ := (takeNumber_rt R3 (lo := lo) (hi := 3) lo0 (by omega)).1 k3 (by omega)
  rw [n4] at R4
  have d4 := d3.st R4 f4
  obtain ⟨ν5, w5, R5, f5⟩ := R4.next
  rw [n5] at R5
  obtain ⟨-, ⟨g0, g1, g4⟩, ⟨hT, hr⟩, ⟨e5, e6, e9⟩, d, hf⟩ := d4.st R5 f5.toS
  obtain ⟨ν, w6, ⟨b0, b1, b2, b3, b4, b5, b6, b7, b8⟩, b9⟩ := addPlate_rt R5.1.1 g0 g1 hT.1.2.2.2 hr2.1 h2 (nm := 256 + ch) (a := a) (b := b) (sh := sh) (q := 0)
  have hμ5 : ν5 0 0 = μ0 0 0 := hf _ _ (by omega)
  have o : ∀ k, 0 ≤ k → k < 1226 → rO (plR r ch a b sh) (r 2) k = if k = 0 then 1 else if k = 1 then ch else if k = 7 then a else if k = 8 then b else if k = 9 then sh else if k = 12 then 1000 else 0 := fun k k0 k1 => plR_o hr2.1 k0 k1
  have o0 : rO (plR r ch a b sh) (r 2) 0 = 1 := by rw [o 0 (by omega) (by omega), if_pos rfl]
  have o7 : rO (plR r ch a b sh) (r 2) 7 = a := by rw [o 7 (by omega) (by omega), if_neg (by omega), if_neg (by omega), if_pos rfl]
  have o8 : rO (plR r ch a b sh) (r 2) 8 = b := by rw [o 8 (by omega) (by omega), if_neg (by omega), if_neg (by omega), if_neg (by omega), if_pos rfl]
  have o9 : rO (plR r ch a b sh) (r 2) 9 = sh := by rw [o 9 (by omega) (by omega), if_neg (by omega), if_neg (by omega), if_neg (by omega), if_neg (by omega), if_pos rfl]
  have oz : ∀ k, 0 ≤ k → k < 1226 → ¬ (k = 0 ∨ k = 1 ∨ k = 7 ∨ k = 8 ∨ k = 9 ∨ k = 12) → rO (plR r ch a b sh) (r 2) k = 0 := fun k k0 k1 hk => by rw [o k k0 k1, if_neg (by omega), if_neg (by omega), if_neg (by omega), if_neg (by omega), if_neg (by omega), if_neg (by omega)]
  have o12 : rO (plR r ch a b sh) (r 2) 12 = 1000 := by rw [o 12 (by omega) (by omega), if_neg (by omega), if_neg (by omega), if_neg (by omega), if_neg (by omega), if_neg (by omega), if_pos rfl]
  have o13 := oz 13 (by omega) (by omega) (by omega)
  have hnew := plate_new (ν := ν) (r' := plR r ch a b sh) hr hT g0 g1 h2 (by omega) plR_2 (fun j hj hk => plR_ne hj hk) ⟨by omega, by omega, fun j j0 j1 => by rw [show j = 0 by omega, o (1 + 0) (by omega) (by omega), if_neg (by omega), if_pos (by omega)]; exact hc⟩ (by rw [o7, o8]; omega) (by rw [o9]; exact hsh) (oz 10 (by omega) (by omega) (by omega)) (oz 11 (by omega) (by omega) (by omega)) o12 (fun y y0 y1 => oz (14 + y) (by omega) (by omega) (by omega)) ⟨by omega, by omega, fun k hk => by omega, fun hk => by omega⟩ (fun z k hz z0 z1 => b9 z k (by omega)) (by rw [b9 _ _ (by omega)]; exact Int.le_refl _) b8
    ⟨by rw [b0, nm_new hr2.1], ⟨by rw [b1, o7], by rw [b2, o8], by rw [b3, o9]⟩, ⟨by rw [b4, oz 10 (by omega) (by omega) (by omega)], by rw [b5, oz 11 (by omega) (by omega) (by omega)], by rw [b6, o12]⟩, fun _ => b7, fun hk => absurd o13 hk⟩
  refine ⟨ν, ?_, R5.mv (R5.1.1.fr fun a k hs => b9 a k (by unfold CSt at hs; omega)) (fun k hk => b9 _ _ (by omega)) (fun k hk => b9 _ _ (by omega)), ⟨g0, g1, by rw [b9 _ _ (by omega)]; exact g4⟩, ⟨hnew.2, hnew.1⟩, ⟨by rw [b9 _ _ (by omega)]; exact e5, by rw [b9 _ _ (by omega)]; exact e6, by rw [b9 _ _ (by omega)]; exact e9⟩, d, fun z k hz => by rw [b9 _ _ (by omega)]; exact hf z k hz⟩
  have hpk : FX6_packedName 2 s1 (s1 + 1) ν1 = RT (256 + ch) ν1 := by
    have := packedHere_rt R1 htx (by omega)
    rw [e1, show (s1 + 1 - s1).toNat = 1 by omega] at this
    rw [this]
    congr 1
    show 1 * 256 + tx (s1 + ((0 : Nat) : Int)) = _
    rw [show s1 + ((0 : Nat) : Int) = s1 by omega, hch]
    omega
  have hix : FX5_indexOfName (25 + 8 * g) (256 + ch) ν1 = RT (-1) ν1 := by
    have hT1 := d1.2.2.1.1
    rw [indexOf_rt R1.1.1 g0 g1 hr2 hT1.1.2.2.2 (fun p p0 p1 => (hT1.2.2.2 p p0 p1).1), fdV_no hr2.1 hnm]
  have h95 : BX4_readPlate_95 23 (256 + ch) a lo 23 ν3 = RT 1 ν := by
    unfold BX4_readPlate_95 BX4_readPlate_183 NU
    rw [R3.1.1.k4, w4]
    simp only [CL, CLX_rt]
    rw [if_pos (by decide), R4.1.1.g4_10, u4, v3, R4.1.1.k4, shapeHere_rt R4, v4]
    simp only [CLX_rt]
    rw [if_pos hsh.1, R4.1.1.k4, w5]
    simp only [CLX_rt]
    rw [if_pos (by omega), R5.1.1.k4, isWord_rt R5 (by omega) (by omega), b2_f v5]
    simp only [CLX_rt, ↓reduceIte]
    rw [R5.1.1.g4_4 g4, R5.1.1.k5 g0 g1, w6]
    rfl
  unfold FX4_readPlate BX4_readPlate_0
  rw [h.1.1.1.g4_4 h.2.1.2.2, h.1.1.1.g5_3 g0 g1, h.2.2.1.1.1.2.2.2, if_pos h2, h.1.1.1.k4, w1]
  simp only [CL, CLX_rt]
  rw [R1.1.1.k4, (isName_rt R1).1 k1 (by omega)]
  simp only [CLX_rt]
  rw [if_pos (by decide), GF_go (k := 2) (v := 2) R1.1.1.2.2.2.2.2.2.2.1.1 R1.1.2.1.1, R1.1.1.g4_8, R1.1.1.g4_9, R1.2.2.1, R1.2.2.2.2, e1, hpk]
  simp only [CLX_rt]
  rw [R1.1.1.g4_4 d1.2.1.2.2, R1.1.1.k5 g0 g1, hix]
  simp only [CLX_rt]
  rw [if_pos (by decide), R1.1.1.k4, w2]
  simp only [CLX_rt]
  rw [R2.1.1.k4, w3]
  simp only [CLX_rt]
  rw [if_pos (by decide), R3.1.1.g4_10, u3, v2]
  by_cases q : a = 0
  · rw [if_neg (fun w => w q)]
    rw [if_pos q] at el
    rw [el] at h95
    exact h95
  · rw [if_pos q]
    rw [if_neg q] at el
    rw [el] at h95
    exact h95
end PLT
