/-! the text, read and loaded -/
section CLO
variable {μ : Mem}
theorem cload_start {c u fed fa n : Int} {h : Int → Row} {tx : Int → Int} (hI : CIc μ c u h tx fed fa) (hn : 0 ≤ n ∧ n ≤ fed) : FX6_load 1 n μ = KD 4 23 (mUp μ 1 1 0) (CL (FX4_read 23 2 n (25 + 8 * ((c + 1) % 10)) (mUp μ 1 1 0)) fun t108 u109 => GF 6 8 1 u109 fun t110 => GF 4 1 t110 u109 fun t111 => PF 6 2 1 t111 u109 fun u112 => if ¬ t108 = 0 then (KD 6 1 u112 (CL (FX6_useDraft 1 u112) fun _ u114 => GF 6 7 1 u114 fun t115 => KD 2 t115 u114 (CL (FX2_forgetTones t115 u114) fun _ u117 => GF 6 6 1 u117 fun t118 => GF 5 3 t118 u117 fun t119 => RT t119 u117))) else (GF 6 8 1 u112 fun t120 => GF 4 0 t120 u112 fun t121 => RT t121 u112)) := by
  obtain ⟨⟨hS, ⟨c0, c1⟩, ⟨a1, a2, a3⟩, u0, b, d⟩, hB, hP⟩ := id hI
  have hg := Int.emod_nonneg (c + 1) (show (10 : Int) ≠ 0 by omega)
  have hg1 := Int.emod_lt_of_pos (c + 1) (show (0 : Int) < 10 by omega)
  have hS1 : CSh (mUp μ 1 1 0) := hS.up (by unfold CSt; omega)
  have e14 : mUp μ 1 1 0 1 4 = c := by rw [mUp_ne _ _ (by omega)]; exact a1
  have e3 : w32 (c + 1) = c + 1 := w32_eq (by omega) (by omega)
  have e4 : (c + 1).tmod 10 = (c + 1) % 10 := tmod_small (by omega)
  have e5 : FX6_draftSheet 1 (mUp μ 1 1 0) = RT (25 + 8 * ((c + 1) % 10)) (mUp μ 1 1 0) := by
    simp (disch := omega) only [FX6_draftSheet, BX6_draftSheet_0, ↓hS1.g6_0, ↓hS1.g6_1, ↓hS1.g6_2, ↓hS1.g6_3, ↓hS1.g6_4, ↓hS1.g6_5, ↓hS1.g6_7, ↓hS1.g6_8, ↓hS1.k6, ↓hS1.g2_0, ↓hS1.g2_1, ↓hS1.g2_2, ↓hS1.g2_3, ↓hS1.g2_4, ↓hS1.g2_5, ↓hS1.g2_6, ↓hS1.g2_7, ↓hS1.k2, ↓hS1.g3_0, ↓hS1.g3_1, ↓hS1.g3_2, ↓hS1.g3_3, ↓hS1.g3_4, ↓hS1.k3, ↓hS1.g4_0, ↓hS1.g4_1, ↓hS1.g4_3, ↓hS1.g4_5, ↓hS1.g4_6, ↓hS1.g4_7, ↓hS1.g4_8, ↓hS1.g4_9, ↓hS1.g4_10, ↓hS1.g4_12, ↓hS1.g4_11, ↓hS1.k4, ↓hS1.g5_0, ↓hS1.g5_1, ↓hS1.g5_2, ↓hS1.g5_3, ↓hS1.g5_4, ↓hS1.g5_5, ↓hS1.g5_6, ↓hS1.k5, ↓hS1.g1_0, ↓hS1.g1_1, ↓hS1.g1_2, ↓hS1.g1_3, ↓hS1.g1_4, ↓hS1.g1_5, ↓hS1.g1_6, ↓hS1.g1_7, ↓hS1.k1, ↓hS1.l3, ↓hS1.n3, ↓hS1.l26, ↓hS1.n26, ↓hS1.l5, ↓hS1.n5, ↓hS1.l12, ↓hS1.n12, ↓hS1.l6, ↓hS1.n6, ↓hS1.l10, ↓hS1.n10, ↓hS1.l11, ↓hS1.n11, ↓hS1.l13, ↓hS1.n13, ↓hS1.l14, ↓hS1.n14, ↓hS1.l16, ↓hS1.n16, ↓hS1.l24, ↓hS1.n24, ↓hS1.l27, ↓hS1.n27, ↓hS1.l28, ↓hS1.n28, ↓hS1.l2, ↓hS1.n2, e14, e3, e4, ↓RM_of (show (10 : Int) ≠ 0 by omega)]
  unfold FX6_load BX6_load_0
  rw [hS.k6, reqB_ok hI hn]
  simp only [CL, CLX_rt]
  rw [hS.p6_1, hS1.g6_8, hS1.g6_0, hS1.k6, e5]
  rfl
end CLO
section LOA
variable {μ : Mem} {c u fed fa n : Int} {h : Int → Row} {tx tx' : Int → Int}
theorem cload_ok {ν : Mem} {r : Row} {L s : Int} (hI : CIc μ c u h tx fed fa) (hn : 0 ≤ n ∧ n ≤ fed) (hx : FX4_read 23 2 n (25 + 8 * ((c + 1) % 10)) (mUp μ 1 1 0) = RT 1 ν) (hD : Dq (mUp μ 1 1 0) ((c + 1) % 10) ν tx' L s r 1 1) : ∃ η, FX6_load 1 n μ = RT (r 2) η ∧ CIc η ((c + 1) % 10) (uUp u) (push r h) tx 0 (-1) ∧ ∀ z k, ¬ (z = 1 ∧ (k = 2 ∨ k = 4 ∨ k = 5 ∨ k = 6)) → ¬ (z = 4 ∧ (k = 6 ∨ k = 7)) → η z k = ν z k := by
  have hS1 : CSh (mUp μ 1 1 0) := hI.1.1.up (by unfold CSt; omega)
  obtain ⟨⟨hS0, ⟨c0, c1⟩, ⟨a1, a2, a3⟩, u0, b, d⟩, hB, hP⟩ := id hI
  obtain ⟨hR, ⟨b1, b2, b3⟩, ⟨c2, c3⟩, ⟨-, -, i1⟩, -, hf⟩ := id hD
  have hg := Int.emod_nonneg (c + 1) (show (10 : Int) ≠ 0 by omega)
  have hg1 := Int.emod_lt_of_pos (c + 1) (show (0 : Int) < 10 by omega)
  have e00 : mUp μ 1 1 0 0 0 = μ 0 0 := mUp_ne _ _ (by omega)
  have h00 : μ 0 0 ≤ ν 0 0 := by rw [hf _ _ (by omega), e00]; exact Int.le_refl _
  have hz0 : ∀ z k, ¬ (z = 23 ∨ (25 + 8 * ((c + 1) % 10) ≤ z ∧ z ≤ 32 + 8 * ((c + 1) % 10))) → ¬ (z = 1 ∧ k = 1) → z < μ 0 0 → ν z k = μ z k := fun z k h1 h2 h3 => by rw [hf z k (by omega), mUp_ne _ _ (by omega)]
  have hS : CSh ν := hR.1.1
  have hS2 : CSh (mUp ν 1 2 (-1)) := hS.up (by unfold CSt; omega)
  obtain ⟨η1, d1, d2, ⟨d3, d4, d5, d6⟩, d7⟩ := useDraft_rt (c := c) (u := u) hS2 c0 c1 (by rw [mUp_ne _ _ (by omega), hz0 _ _ (by omega) (by omega) (by omega)]; exact a1) (by rw [mUp_ne _ _ (by omega), hz0 _ _ (by omega) (by omega) (by omega)]; exact a3) u0
  have s3 : CSh (mUp η1 4 6 0) := d2.up (by unfold CSt; omega)
  have s4 : CSh (mUp (mUp η1 4 6 0) 4 7 0) := s3.up (by unfold CSt; omega)
  have hfr : ∀ z k, ¬ (z = 1 ∧ (k = 2 ∨ k = 4 ∨ k = 5 ∨ k = 6)) → ¬ (z = 4 ∧ (k = 6 ∨ k = 7)) → mUp (mUp η1 4 6 0) 4 7 0 z k = ν z k := fun z k h1 h2 => by rw [mUp_ne _ _ (by omega), mUp_ne _ _ (by omega), d7 _ _ (by omega), mUp_ne _ _ (by omega)]
  have hu := uUp_le u0
  have q6 : mUp (mUp η1 4 6 0) 4 7 0 4 6 = 0 := by rw [mUp_ne _ _ (by omega), mUp_same]
  have q7 : mUp (mUp η1 4 6 0) 4 7 0 4 7 = 0 := mUp_same _ _ _ _
  have r4 : mUp (mUp η1 4 6 0) 4 7 0 1 4 = (c + 1) % 10 := by rw [mUp_ne _ _ (by omega), mUp_ne _ _ (by omega)]; exact d3
  have r6 : mUp (mUp η1 4 6 0) 4 7 0 1 6 = 25 + 8 * ((c + 1) % 10) := by rw [mUp_ne _ _ (by omega), mUp_ne _ _ (by omega)]; exact d4
  have r5 : mUp (mUp η1 4 6 0) 4 7 0 1 5 = uUp u := by rw [mUp_ne _ _ (by omega), mUp_ne _ _ (by omega)]; exact d5
  have r2 : mUp (mUp η1 4 6 0) 4 7 0 1 2 = -1 := by rw [mUp_ne _ _ (by omega), mUp_ne _ _ (by omega), d7 _ _ (by omega), mUp_same]
  have ef : FX2_forgetTones 4 η1 = RT 0 (mUp (mUp η1 4 6 0) 4 7 0) := by
    unfold FX2_forgetTones BX2_forgetTones_0
    rw [d2.z2_6 (Or.inl rfl), s3.z2_7 (Or.inl rfl)]
  have hT : Sht (mUp (mUp η1 4 6 0) 4 7 0) ((c + 1) % 10) r := c2.fr c3 (fun a k h1 h2 h3 => hfr a k (by omega) (by omega)) (fun a k h1 h2 => hfr a k (by omega) (by omega)) (by rw [hfr _ _ (by omega) (by omega)]; exact Int.le_refl _)
  refine ⟨mUp (mUp η1 4 6 0) 4 7 0, ?_, ⟨⟨s4, ⟨hg, hg1⟩, ⟨r4, r6, r5⟩, ⟨hu.1, hu.2.1⟩, fun j j0 j1 => ?_, by rw [hfr _ _ (by omega) (by omega)]; omega⟩, ⟨by omega, ⟨?_, r2, by unfold i32; omega⟩, fun k k0 k1 => by omega⟩, ?_⟩, hfr⟩
  · rw [cload_start hI hn, hS1.k4, hx]
    simp only [CL, CLX_rt]
    rw [hS.g6_8, hS.g4_1, i1, hS.p6_2, if_pos (by decide), hS2.k6, d1]
    simp only [CL, CLX_rt]
    rw [d2.g6_7, d2.k2, ef]
    simp only [CL, CLX_rt]
    rw [s4.g6_6 r6, s4.g5_3 hg hg1, hT.1.2.2.2]
  · unfold push
    by_cases e : j = 0
    · rw [if_pos e, e, Int.sub_zero, Int.emod_eq_of_lt hg hg1]
      exact ⟨c3, hT⟩
    · rw [if_neg e, show ((c + 1) % 10 - j) % 10 = (c - (j - 1)) % 10 by omega]
      obtain ⟨w1, w2⟩ := b (j - 1) (by omega) (by omega)
      refine ⟨w1, w2.fr w1 (fun z k h1 h2 h3 => ?_) (fun z k h1 h2 => ?_) ?_⟩
      · rw [hfr z k (by omega) (by omega)]
        exact hz0 z k (by omega) (by omega) (by omega)
      · rw [hfr z k (by omega) (by omega)]
        exact hz0 z k (by omega) (by omega) (by omega)
      · rw [hfr _ _ (by omega) (by omega)]
        exact h00
  · rw [hfr _ _ (by omega) (by omega), hf _ _ (by omega), mUp_same]
  · show CPr _ r
    refine ⟨⟨Or.inl q6, Or.inl q7⟩, fun q => by omega, fun q => by omega, fun p p0 q1 => (hP.2.2.2 p p0 q1).fr (fun k k0 => ?_) (fun k k0 => ?_)⟩
    · rw [hfr _ _ (by omega) (by omega)]
      exact hz0 _ _ (by omega) (by omega) (by omega)
    · rw [hfr _ _ (by omega) (by omega)]
      exact hz0 _ _ (by omega) (by omega) (by omega)
end LOA
section RDA
variable {μ : Mem} {L g w h lim many : Int} {tx : Int → Int} {dig : Int → Int → Int} {A B S Pos : Int → Int}
theorem picture_rt {μ0 : Mem} (hR : Rd μ tx L 0) (h4 : μ 23 4 = 25 + 8 * g) (g0 : 0 ≤ g) (g1 : g < 10) (hH : Hdr tx w h lim) (hw : 1 ≤ w ∧ w ≤ 9) (hh : 1 ≤ h ∧ h ≤ 9) (hL : 26 ≤ L) (e5 : μ 23 5 = 0) (e6 : μ 23 6 = 0) (e1 : μ 23 1 = -1) (d : 105 ≤ μ0 0 0) (hf : ∀ z k, ¬ (z = 23 ∨ (25 + 8 * g ≤ z ∧ z ≤ 32 + 8 * g)) → μ z k = μ0 z k) : ∃ ν, FX4_readPicture 23 μ = RT 1 ν ∧ Dq μ0 g ν tx L 12 (newR w h) 0 0 := by
  obtain ⟨p0, p7, p8, p9, p10, p11, p12, -⟩ := hH
  obtain ⟨c0, c1, c2, c3, c4, c5, -⟩ := chs
  obtain ⟨l0, l1, l2, l4⟩ := lens
  obtain ⟨a1, a2⟩ := tok_k (tx := tx) (L := L) (s := 0) (w := 0) (by omega) (by omega) (by rw [l0]; omega) (fun j j0 j1 => by rw [Int.zero_add]; exact p0 j j0 (by omega)) (by rw [l0, Int.zero_add, p7]; omega)
  rw [l0, Int.zero_add] at a2
  have a3 := nx_b a2 (by omega) p7 (by rw [show (7 : Int) + 1 = 8 from rfl]; omega)
  rw [show (7 : Int) + 1 = 8 from rfl] at a3
  obtain ⟨b1, b2, b3⟩ := tok_1 (tx := tx) (L := L) (s := 8) (z := w) (by omega) (by omega) p8 (by rw [show (8 : Int) + 1 = 9 from rfl, p9]; omega)
  have b4 := nx_b b2 (by omega) (by rw [show (8 : Int) + 1 = 9 from rfl]; exact p9) (by rw [show (8 : Int) + 1 + 1 = 10 from rfl]; omega)
  rw [show (8 : Int) + 1 + 1 = 10 from rfl] at b4
  obtain ⟨d1, d2, d3⟩ := tok_1 (tx := tx) (L := L) (s := 10) (z := h) (by omega) (by omega) p10 (by rw [show (10 : Int) + 1 = 11 from rfl, p11]; omega)
  have d4 := nx_a (e := 11) d2 (by rw [p11]; omega)
  obtain ⟨f1, f2⟩ := tok_s (tx := tx) (L := L) (s := 11) (by omega) p11
  have hs0 : tx 12 = 108 := by
    have := p12 0 (Int.le_refl _) (by omega)
    rw [Int.add_zero] at this
    omega
  have f3 := nx_a (e := 12) f2 (by omega)
  obtain ⟨ν1, w1, R1, r1⟩ := hR.next
  rw [a3] at R1
  obtain ⟨ν2, w2, R2, r2, u2⟩ := (takeNumber_rt R1 (lo := 1) (hi := 16) (by omega) (by omega)).1 b1 (by omega)
  rw [b4] at R2
  obtain ⟨ν3, w3, R3, r3, u3⟩ := (takeNumber_rt R2 (lo := 1) (hi := 12) (by omega) (by omega)).1 d1 (by omega)
  rw [d4] at R3
  have rs := (r1.toS.tr r2).tr r3
  obtain ⟨ν4, w4, x1, x2, x3, x4⟩ := empty_rt (μ := ν3) (g := g) (w := w) (h := h) R3.1.1 g0 g1
  have hS4 : CSh ν4 := R3.1.1.fr fun a k hs => x4 a k (by unfold CSt at hs; omega)
  have R4 : Rd ν4 tx L 11 := R3.mv hS4 (fun k hk => x4 _ _ (by omega)) (fun k hk => x4 _ _ (by omega))
  obtain ⟨ν5, w5, R5, r5⟩ := (takeSign_rt R4 (c := 59) (by omega) (by omega)).1 f1
  rw [f3] at R5
  have h44 : ν3 23 4 = 25 + 8 * g := by rw [rs _ _ (by omega)]; exact h4
  have D4 : Dq μ0 g ν4 tx L 11 (newR w h) 0 0 := ⟨R4, ⟨g0, g1, by rw [x4 _ _ (by omega)]; exact h44⟩, ⟨newR_sht x1 (by omega) (by omega) (by omega) (by omega) x2 x3, newR_ok (by omega) (by omega) (by omega) (by omega)⟩, ⟨by rw [x4 _ _ (by omega), rs _ _ (by omega)]; exact e5, by rw [x4 _ _ (by omega), rs _ _ (by omega)]; exact e6, by rw [x4 _ _ (by omega), rs _ _ (by omega)]; exact e1⟩, d, fun z k hz => by rw [x4 _ _ (by omega), rs _ _ (by omega)]; exact hf z k hz⟩
  refine ⟨ν5, ?_, D4.st R5 r5.toS⟩
  unfold FX4_readPicture BX4_readPicture_0
  rw [hR.1.1.k4, isWord_rt hR (by omega) (by omega), b2_t a1]
  simp only [CL, CLX_rt]
  rw [if_pos (by decide), hR.1.1.k4, w1]
  simp only [CLX_rt]
  rw [R1.1.1.k4, w2]
  simp only [CLX_rt]
  rw [if_pos (by decide), R2.1.1.g4_10, u2, b3, R2.1.1.k4, w3]
  simp only [CLX_rt]
  rw [if_pos (by decide), R3.1.1.g4_4 h44, R3.1.1.g4_10, u3, d3, R3.1.1.k5 g0 g1, w4]
  simp only [CLX_rt]
  rw [hS4.k4, w5]
  rfl
theorem read_rt (hS : CSh μ) (g0 : 0 ≤ g) (g1 : g < 10) (h0 : 105 ≤ μ 0 0) (hL : L ≤ 600) (hb : ∀ k, 0 ≤ k → k < L → μ 2 k = w8 (tx k)) (htx : ∀ k, 0 ≤ tx k ∧ tx k ≤ 255) (hH : Hdr tx w h lim) (hw : 1 ≤ w ∧ w ≤ 9) (hh : 1 ≤ h ∧ h ≤ 9) (hlim : 1 ≤ lim ∧ lim ≤ 4) (hRw : Rws tx w h dig) (hdig : ∀ x y, 0 ≤ dig x y ∧ dig x y ≤ 9) (hQ : tx (25 + h * (w + 1)) = 59) (hm : 1 ≤ many ∧ many ≤ 4) (hP : ∀ k, 0 ≤ k → k < many → Plf tx (Pos k) k (A k) (B k) (S k)) (hA : ∀ k, 0 ≤ k → k < many → (0 ≤ A k ∧ A k ≤ 3) ∧ (0 ≤ B k ∧ B k ≤ 3) ∧ 0 < A k + B k ∧ 0 ≤ S k ∧ S k ≤ 3) (hPos : ∀ k, 0 ≤ k → k < many → Pos (k + 1) = Pos k + 13 + strLen (9 + S k) ∧ Pos (k + 1) ≤ L) (hP0 : Pos 0 = 26 + h * (w + 1)) (hPL : Pos many = L) : ∃ ν r, FX4_read 23 2 L (25 + 8 * g) μ = RT 1 ν ∧ Dq μ g ν tx L L r 1 1 ∧ RowF r w h lim many dig A B S := by
  obtain ⟨c0, c1, c2, c3, c4, c5, -⟩ := chs
  obtain ⟨l0, l1, l2, l4⟩ := lens
  have hhw : 0 ≤ h * (w + 1) ∧ h * (w + 1) ≤ 9 * 10 := mul_le_of (by omega) hh.2 (by omega) (by omega)
  have hhw2 : 1 * (w + 1) ≤ h * (w + 1) := Int.mul_le_mul_of_nonneg_right hh.1 (by omega)
  have hp1 := hPos 0 (Int.le_refl _) (by omega)
  have hsl := strLen_le (w := 9 + S 0) (by have := hA 0 (Int.le_refl _) (by omega); omega) (by have := hA 0 (Int.le_refl _) (by omega); omega)
  obtain ⟨p0, p7, p8, p9, p10, p11, p12, p17, p18, p19, p20⟩ := id hH
  have hk : μ 23 (-1) = 5 := hS.2.2.2.2.2.2.2.1.1
  have hmn : mn L 600 = L := by unfold mn; split <;> omega
  obtain ⟨μ9, hμ9⟩ : ∃ m, m = mUp (mUp (mUp (mUp (mUp (mUp (mUp (mUp μ 23 2 2) 23 3 L) 23 4 (25 + 8 * g)) 23 0 0) 23 1 (-1)) 23 5 0) 23 6 0) 23 9 0 := ⟨_, rfl⟩
  have r9 : ∀ z k, ¬ (z = 23 ∧ (k = 0 ∨ k = 1 ∨ k = 2 ∨ k = 3 ∨ k = 4 ∨ k = 5 ∨ k = 6 ∨ k = 9)) → μ9 z k = μ z k := fun z k hz => by
    rw [hμ9]
    simp (disch := omega) only [mUp_ne]
  have v9 : μ9 23 2 = 2 ∧ μ9 23 3 = L ∧ μ9 23 4 = 25 + 8 * g ∧ μ9 23 1 = -1 ∧ μ9 23 5 = 0 ∧ μ9 23 6 = 0 ∧ μ9 23 9 = 0 := by
    rw [hμ9]
    simp (disch := omega) only [mUp_ne, mUp_same, and_self]
  have hS9 : CSh μ9 := hS.fr fun a k hs => r9 a k (by unfold CSt at hs; omega)
  have hT9 : Tb μ9 tx L := ⟨hS9, ⟨v9.1, v9.2.1, by omega, hL⟩, fun k k0 k1 => ⟨by rw [r9 _ _ (by omega)]; exact hb k k0 k1, htx k⟩⟩
  obtain ⟨ν1, q1, R1, t1⟩ := advance_rt hT9 (a := 0) (Int.le_refl _) (by omega) v9.2.2.2.2.2.2
  have hsk : sk tx L 0 = 0 := run_e (by have := p0 0 (Int.le_refl _) (by omega); omega)
  rw [hsk] at R1
  obtain ⟨ν2, q2, D2⟩ := picture_rt (μ := ν1) (μ0 := μ) (w := w) (h := h) R1 (by rw [t1 _ _ (by omega)]; exact v9.2.2.1) g0 g1 hH hw hh (by omega) (by rw [t1 _ _ (by omega)]; exact v9.2.2.2.2.1) (by rw [t1 _ _ (by omega)]; exact v9.2.2.2.2.2.1) (by rw [t1 _ _ (by omega)]; exact v9.2.2.2.1) h0 (fun z k hz => by rw [t1 _ _ (by omega), r9 _ _ (by omega)])
  -- limit
  have x12 : tx 12 = strCh 4 0 := by
    have := p12 0 (Int.le_refl _) (by omega)
    rw [Int.add_zero] at this
    exact this
  have x20 : tx 20 = strCh 1 0 := by
    have := p20 0 (Int.le_refl _) (by omega)
    rw [Int.add_zero] at this
    exact this
  obtain ⟨a1, a2⟩ := tok_k (tx := tx) (L := L) (s := 12) (w := 4) (by omega) (by omega) (by rw [l4]; omega) (by rw [l4]; exact p12) (by rw [l4, show (12 : Int) + 5 = 17 from rfl, p17]; omega)
  rw [l4, show (12 : Int) + 5 = 17 from rfl] at a2
  have a3 := nx_b a2 (by omega) p17 (by rw [show (17 : Int) + 1 = 18 from rfl]; omega)
  rw [show (17 : Int) + 1 = 18 from rfl] at a3
  obtain ⟨b1, b2, b3⟩ := tok_1 (tx := tx) (L := L) (s := 18) (z := lim) (by omega) (by omega) p18 (by rw [show (18 : Int) + 1 = 19 from rfl, p19]; omega)
  have b4 := nx_a (e := 19) b2 (by rw [p19]; omega)
  obtain ⟨d1, d2⟩ := tok_s (tx := tx) (L := L) (s := 19) (by omega) p19
  have d3 := nx_a (e := 20) d2 (by rw [x20, c1]; omega)
  obtain ⟨ν3, q3, D3⟩ := limit_st D2 a3 b1 b3 hlim b4
  have hD2k : kd tx L 12 ≠ 0 := by rw [a1.1]; decide
  have hlw := st_limit D2.1 (not_wd (by omega) (by omega) (by rw [x12, c4, c1]; omega)) (not_wd (by omega) (by omega) (by rw [x12, c4, c2]; omega)) (not_wd (by omega) (by omega) (by rw [x12, c4, c3]; omega)) a1 q3
  obtain ⟨ν4, q4, D4⟩ := st_go (i := 0) D2 (Int.le_refl _) (by omega) hD2k hlw D3 d1 d3 19999
  -- tones
  obtain ⟨f1, f2⟩ := tok_k (tx := tx) (L := L) (s := 20) (w := 1) (by omega) (by omega) (by rw [l1]; omega) (by rw [l1]; exact p20) (by rw [l1, show (20 : Int) + 5 = 25 from rfl]; have := (hRw 0 (Int.le_refl _) (by omega)).1; rw [Int.zero_mul, Int.add_zero] at this; omega)
  rw [l1, show (20 : Int) + 5 = 25 from rfl] at f2
  have hrow0 := hRw 0 (Int.le_refl _) (by omega)
  rw [Int.zero_mul, Int.add_zero] at hrow0
  have f3 := nx_b f2 (by omega) hrow0.1 (by have := hrow0.2 0 (Int.le_refl _) (by omega); have h9 := hdig 0 0; rw [show (26 : Int) + 0 + 0 = 25 + 1 by omega] at this; omega)
  rw [show (25 : Int) + 1 = 26 from rfl] at f3
  have hyw : ∀ y, 0 ≤ y → y < h → (y + 1) * (w + 1) = y * (w + 1) + (w + 1) ∧ (y + 1) * (w + 1) ≤ h * (w + 1) ∧ 0 ≤ y * (w + 1) := fun y y0 y1 => ⟨by rw [Int.add_mul, Int.one_mul], Int.mul_le_mul_of_nonneg_right (by omega) (by omega), Int.mul_nonneg y0 (by omega)⟩
  have hln : ∀ y, 0 ≤ y → y < h → kd tx L (26 + y * (w + 1)) = 1 ∧ en tx L (26 + y * (w + 1)) = 26 + y * (w + 1) + w := fun y y0 y1 => by
    have hy := hyw y y0 y1
    refine tok_d (by omega) (by omega) (fun k k0 k1 => ?_) ?_
    · have := (hRw y y0 y1).2 (k - (26 + y * (w + 1))) (by omega) (by omega)
      have h9 := hdig (k - (26 + y * (w + 1))) y
      rw [show 26 + y * (w + 1) + (k - (26 + y * (w + 1))) = k by omega] at this
      omega
    · by_cases e : y + 1 < h
      · have := (hRw (y + 1) (by omega) e).1
        rw [hy.1, show 25 + (y * (w + 1) + (w + 1)) = 26 + y * (w + 1) + w by omega] at this
        omega
      · have e2 : h = y + 1 := by omega
        rw [e2, hy.1, show 25 + (y * (w + 1) + (w + 1)) = 26 + y * (w + 1) + w by omega] at hQ
        omega
  have hnx : ∀ y, 0 ≤ y → y + 1 < h → nx tx L (26 + y * (w + 1)) = 26 + (y + 1) * (w + 1) := fun y y0 y1 => by
    have hy := hyw y y0 (by omega)
    have h2 := hRw (y + 1) (by omega) y1
    have h3 := h2.2 0 (Int.le_refl _) (by omega)
    have h9 := hdig 0 (y + 1)
    rw [hy.1] at h2 h3 ⊢
    have hy2 := hyw (y + 1) (by omega) y1
    rw [hy.1] at hy2
    rw [show 25 + (y * (w + 1) + (w + 1)) = 26 + y * (w + 1) + w by omega] at h2
    rw [nx_b (hln y y0 (by omega)).2 (by omega) h2.1 (by
      rw [show 26 + (y * (w + 1) + (w + 1)) + 0 = 26 + y * (w + 1) + w + 1 by omega] at h3
      omega)]
    omega
  have hlast : nx tx L (26 + (h - 1) * (w + 1)) = 25 + h * (w + 1) := by
    have hy := hyw (h - 1) (by omega) (by omega)
    rw [show h - 1 + 1 = h by omega] at hy
    rw [nx_a (e := 25 + h * (w + 1)) (by rw [(hln (h - 1) (by omega) (by omega)).2]; omega) (by rw [hQ]; omega)]
  have en0 : newR w h 0 = w ∧ newR w h 1 = h ∧ newR w h 2 = 0 := ⟨rfl, rfl, rfl⟩
  obtain ⟨ν5, r5, q5, D5, o5, t5⟩ := tones_st (p := 26) (w := w) (h := h) (dig := dig) D4 f3 (by rw [limR_ne (by omega)]; exact en0.1) (by rw [limR_ne (by omega)]; exact en0.2.1) (fun x y x0 x1 y0 y1 => ⟨(hRw y y0 y1).2 x x0 x1, hdig x y⟩) hln hnx hlast
  obtain ⟨g2, g3⟩ := tok_s (tx := tx) (L := L) (s := 25 + h * (w + 1)) (by omega) hQ
  have hpl0 : tx (Pos 0) = 112 := by
    have := (hP 0 (Int.le_refl _) (by omega)).1 0 (Int.le_refl _) (by omega)
    rw [Int.add_zero, c2] at this
    exact this
  have g4 := nx_a (e := Pos 0) (by rw [g3, hP0]; omega) (by rw [hpl0]; omega)
  obtain ⟨ν6, q6, D6⟩ := st_go (i := 1) D4 (by omega) (by omega) (by rw [f1.1]; decide) (st_tones D4.1 f1 q5) D5 g2 g4 19998
  have hF6 : RowF r5 w h lim 0 dig A B S := ⟨⟨by rw [o5 _ (by omega), limR_ne (by omega)]; exact en0.1, by rw [o5 _ (by omega), limR_ne (by omega)]; exact en0.2.1, by rw [o5 _ (by omega)]; rfl, by rw [o5 _ (by omega), limR_ne (by omega)]; exact en0.2.2⟩, t5, fun p p0 p1 => by omega⟩
  obtain ⟨ν, r, q7, D7, F7⟩ := plates_go (many := many) htx hm.2 hP hA hPos hPL (by omega) many.toNat 19998 0 ν6 r5 (by omega) (by omega) (Int.le_refl _) D6 hF6
  refine ⟨ν, r, ?_, D7, F7⟩
  unfold FX4_read BX4_read_0
  rw [PF_of (by omega) hk, LN_of (n := 600) (by rw [mUp_ne _ _ (by omega)]; exact hS.2.1.1) (by rw [mUp_ne _ _ (by omega)]; exact hS.2.1.2), min_rt, hmn]
  simp only [CL, CLX_rt]
  rw [PF_of (by omega) (by simp (disch := omega) only [mUp_ne, hk]; rfl), PF_of (by omega) (by simp (disch := omega) only [mUp_ne, hk]; rfl), PF_of (by omega) (by simp (disch := omega) only [mUp_ne, hk]; rfl), PF_of (by omega) (by simp (disch := omega) only [mUp_ne, hk]; rfl), PZ_of (by omega) (by simp (disch := omega) only [mUp_ne, hk]; rfl) (Or.inl rfl), PZ_of (by omega) (by simp (disch := omega) only [mUp_ne, hk]; rfl) (Or.inl rfl), PF_of (by omega) (by simp (disch := omega) only [mUp_ne, hk]; rfl), ← hμ9, hS9.k4, q1]
  simp only [CLX_rt]
  rw [R1.1.1.k4, q2]
  simp only [CLX_rt]
  rw [if_pos (by decide)]
  show LX4_read_61 (19999 + 1) 23 0 ν2 = _
  rw [q4]
  show LX4_read_61 (19998 + 1) 23 1 ν4 = _
  rw [q6]
  exact q7
end RDA
