/-! the component's print does not hang on the reader -/
section CLO
variable {μ : Mem}
theorem CPr_fr22 {r : Row} {ν : Mem} (hr : okRow r) (h : CPr μ r) (f : ∀ z k, 4 ≤ z → z ≤ 22 → 0 ≤ k → ν z k = μ z k) : CPr ν r := by
  obtain ⟨⟨p1, p2⟩, p3, p4, p5⟩ := h
  have hr1 := hr.1
  have hr2 := hr.2.1
  refine ⟨⟨by rw [f _ _ (by omega) (by omega) (by omega)]; exact p1, by rw [f _ _ (by omega) (by omega) (by omega)]; exact p2⟩, fun q => ?_, fun q => ?_, fun p p0 q1 => (p5 p p0 q1).fr (fun k k0 => f _ _ (by omega) (by omega) k0) (fun k k0 => f _ _ (by omega) (by omega) k0)⟩
  · rw [f _ _ (by omega) (by omega) (by omega)] at q
    exact (p3 q).fr hr fun a k h1 h2 h3 => f _ _ (by omega) (by omega) h3
  · rw [f _ _ (by omega) (by omega) (by omega)] at q
    obtain ⟨q1, q2, q3, q4, q5⟩ := p4 q
    refine ⟨by rw [f _ _ (by omega) (by omega) (by omega)]; exact q1, q2.fr hr fun a k h1 h2 h3 => f _ _ (by omega) (by omega) h3, fun x y x0 x1 y0 y1 => ?_, fun p p0 p1 => ?_, fun p p0 p1 => (q5 p p0 p1).fr (fun k k0 => f _ _ (by omega) (by omega) k0) (fun k k0 => f _ _ (by omega) (by omega) k0)⟩
    · have hc := cell_lt (show r 0 ≤ 16 by omega) (show r 1 ≤ 12 by omega) x0 x1 y0 y1
      rw [f _ _ (by omega) (by omega) hc.2.2.1]
      exact q3 x y x0 x1 y0 y1
    · rw [f _ _ (by omega) (by omega) p0]
      exact q4 p p0 p1
theorem cload_keep {ν : Mem} {c u fed fa a : Int} {h : Int → Row} {tx : Int → Int} (hI : CIc μ c u h tx fed fa) (hd : DrF ((c + 1) % 10) (mUp μ 1 1 0) ν) (hS : CSh ν) (ha : 0 ≤ a ∧ a ≤ 600) : CIc (mUp ν 1 2 a) c u h tx 0 a := by
  obtain ⟨⟨hS0, ⟨c0, c1⟩, ⟨a1, a2, a3⟩, u0, b, d⟩, hB, hP⟩ := id hI
  have hg := Int.emod_nonneg (c + 1) (show (10 : Int) ≠ 0 by omega)
  have hg1 := Int.emod_lt_of_pos (c + 1) (show (0 : Int) < 10 by omega)
  have e00 : mUp μ 1 1 0 0 0 = μ 0 0 := mUp_ne _ _ (by omega)
  have h00 : μ 0 0 ≤ ν 0 0 := by have := hd.2; omega
  have hz : ∀ z k, ¬ (z = 0 ∨ z = 23 ∨ z = 24 ∨ (25 + 8 * ((c + 1) % 10) ≤ z ∧ z ≤ 32 + 8 * ((c + 1) % 10))) → ¬ (z = 1 ∧ (k = 1 ∨ k = 2)) → z < μ 0 0 → mUp ν 1 2 a z k = μ z k := fun z k h1 h2 h3 => by rw [mUp_ne _ _ (by omega), hd.1 z k h1 (by omega), mUp_ne _ _ (by omega)]
  have hS2 : CSh (mUp ν 1 2 a) := hS.up (by unfold CSt; omega)
  have n00 : mUp ν 1 2 a 0 0 = ν 0 0 := mUp_ne _ _ (by omega)
  refine ⟨⟨hS2, ⟨c0, c1⟩, ⟨by rw [hz _ _ (by omega) (by omega) (by omega)]; exact a1, by rw [hz _ _ (by omega) (by omega) (by omega)]; exact a2, by rw [hz _ _ (by omega) (by omega) (by omega)]; exact a3⟩, u0, fun j j0 j1 => ?_, by omega⟩, ⟨by omega, ⟨?_, mUp_same _ _ _ _, by unfold i32; omega⟩, fun k k0 k1 => by omega⟩, ?_⟩
  · obtain ⟨b1, b2⟩ := b j j0 j1
    refine ⟨b1, b2.fr b1 (fun z k h1 h2 h3 => hz z k (by omega) (by omega) (by omega)) (fun z k h1 h2 => hz z k (by omega) (by omega) h2) (by omega)⟩
  · rw [mUp_ne _ _ (by omega), hd.1 _ _ (by omega) (by omega), mUp_same]
  · exact CPr_fr22 hI.1.cur.1 hP fun z k h1 h2 h3 => hz z k (by omega) (by omega) (by omega)
theorem cload_start {c u fed fa n : Int} {h : Int → Row} {tx : Int → Int} (hI : CIc μ c u h tx fed fa) (hn : 0 ≤ n ∧ n ≤ fed) : FX6_load 1 n μ = KD 4 23 (mUp μ 1 1 0) (CL (FX4_read 23 2 n (25 + 8 * ((c + 1) % 10)) (mUp μ 1 1 0)) fun t108 u109 => GF 6 8 1 u109 fun t110 => GF 4 1 t110 u109 fun t111 => PF 6 2 1 t111 u109 fun u112 => if ¬ t108 = 0 then (KD 6 1 u112 (CL (FX6_useDraft 1 u112) fun _ u114 => GF 6 7 1 u114 fun t115 => KD 2 t115 u114 (CL (FX2_forgetTones t115 u114) fun _ u117 => GF 6 6 1 u117 fun t118 => GF 5 3 t118 u117 fun t119 => RT t119 u117))) else (GF 6 8 1 u112 fun t120 => GF 4 0 t120 u112 fun t121 => RT t121 u112)) := by
  obtain ⟨⟨hS, ⟨c0, c1⟩, ⟨a1, a2, a3⟩, u0, b, d⟩, hB, hP⟩ := id hI
  have hg := Int.emod_nonneg (c + 1) (show (10 : Int) ≠ 0 by omega)
  have hg1 := Int.emod_lt_of_pos (c + 1) (show (0 : Int) < 10 by omega)
  have hS1 : CSh (mUp μ 1 1 0) := hS.up (by unfold CSt; omega)
  have e14 : mUp μ 1 1 0 1 4 = c := by rw [mUp_ne _ _ (by omega)]; exact a1
  have e3 : w32 (c + 1) = c + 1 := w32_eq (by omega) (by omega)
  have e4 : (c + 1).tmod 10 = (c + 1) % 10 := tmod_small (by omega)
  have e5 : FX6_draftSheet 1 (mUp μ 1 1 0) = RT (25 + 8 * ((c + 1) % 10)) (mUp μ 1 1 0) := by
    simp (disch := omega) only [FX6_draftSheet, BX6_draftSheet_0, ↓hS1.g6_0, ↓hS1.g6_1, ↓hS1.g6_2, ↓hS1.g6_3, ↓hS1.g6_4, ↓hS1.g6_5, ↓hS1.g6_7, ↓hS1.g6_8, ↓hS1.k6, ↓hS1.g2_0, ↓hS1.g2_1, ↓hS1.g2_2, ↓hS1.g2_3, ↓hS1.g2_4, ↓hS1.g2_5, ↓hS1.g2_6, ↓hS1.g2_7, ↓hS1.k2, ↓hS1.g3_0, ↓hS1.g3_1, ↓hS1.g3_2, ↓hS1.g3_3, ↓hS1.g3_4, ↓hS1.k3, ↓hS1.g4_0, ↓hS1.g4_1, ↓hS1.g4_3, ↓hS1.g4_5, ↓hS1.g4_6, ↓hS1.g4_7, ↓hS1.g4_8, ↓hS1.g4_9, ↓hS1.g4_10, ↓hS1.g4_12, ↓hS1.g4_11, ↓hS1.k4, ↓hS1.g5_0, ↓hS1.g5_1, ↓hS1.g5_2, ↓hS1.g5_3, ↓hS1.g5_4, ↓hS1.g5_5, ↓hS1.g5_6, ↓hS1.k5, ↓hS1.g1_0, ↓hS1.g1_1, ↓hS1.g1_2, ↓hS1.g1_3, ↓hS1.g1_4, ↓hS1.g1_5, ↓hS1.g1_6, ↓hS1.g1_7, ↓hS1.k1, ↓hS1.l3, ↓hS1.n3, ↓hS1.l26, ↓hS1.n26, ↓hS1.l5, ↓hS1.n5, ↓hS1.l12, ↓hS1.n12, ↓hS1.l6, ↓hS1.n6, ↓hS1.l10, ↓hS1.n10, ↓hS1.l11, ↓hS1.n11, ↓hS1.l13, ↓hS1.n13, ↓hS1.l14, ↓hS1.n14, ↓hS1.l16, ↓hS1.n16, ↓hS1.l24, ↓hS1.n24, ↓hS1.l27, ↓hS1.n27, ↓hS1.l28, ↓hS1.n28, ↓hS1.l2, ↓hS1.n2, e14, e3, e4, ↓RM_of (show (10 : Int) ≠ 0 by omega)]
  unfold FX6_load BX6_load_0
  rw [hS.k6, reqB_ok hI hn]
  simp only [CL, CLX_rt]
  rw [hS.p6_1, hS1.g6_8, hS1.g6_0, hS1.k6, e5]
  rfl
theorem cload_fault {ν : Mem} {c u fed fa n U1 U2 e a : Int} {h : Int → Row} {tx : Int → Int} (hI : CIc μ c u h tx fed fa) (hn : 0 ≤ n ∧ n ≤ fed) (hx : FX4_read 23 2 n (25 + 8 * ((c + 1) % 10)) (mUp μ 1 1 0) = RT 0 ν) (hf : Fe U1 U2 ((c + 1) % 10) (mUp μ 1 1 0) ν e a) : FX6_load 1 n μ = RT e (mUp ν 1 2 a) ∧ CIc (mUp ν 1 2 a) c u h tx 0 a := by
  have hS1 : CSh (mUp μ 1 1 0) := hI.1.1.up (by unfold CSt; omega)
  obtain ⟨⟨f0, f1, f2, f3, f4, f5⟩, hd, hS, -⟩ := hf
  have hS2 : CSh (mUp ν 1 2 a) := hS.up (by unfold CSt; omega)
  refine ⟨?_, cload_keep hI hd hS ⟨f4, f5⟩⟩
  rw [cload_start hI hn, hS1.k4, hx]
  simp only [CL, CLX_rt]
  rw [hS.g6_8, hS.g4_1, f1, hS.p6_2, if_neg (by simp), hS2.g6_8, hS2.g4_0, mUp_ne _ _ (by omega), f0]
end CLO
