/-! the print's and the reader's making, a sheet's making -/
/-- the print as it is made -/
def Ini2 (D : Int) (μ ν : Mem) (c s : Int) : Prop := At D ν 23 (c + 18) (s + 2949) ∧ (ν 4 0 = 5 ∧ ν 4 1 = 10 ∧ ν 4 2 = 11 ∧ ν 4 3 = 12 ∧ ν 4 4 = 13 ∧ ν 4 5 = 14 ∧ ν 4 6 = 0 ∧ ν 4 7 = 0) ∧ (ν 5 (-1) = 27 ∧ ν 5 (-2) = 4 ∧ ∀ p, 0 ≤ p → p < 4 → ν 5 p = 6 + p ∧ ν (6 + p) (-1) = 21 ∧ ν (6 + p) (-2) = 192) ∧
  (ν 10 (-1) = 21 ∧ ν 10 (-2) = 192 ∧ ν 11 (-1) = 21 ∧ ν 11 (-2) = 4 ∧ ν 13 (-1) = 21 ∧ ν 13 (-2) = 650 ∧ ν 14 (-1) = 21 ∧ ν 14 (-2) = 11) ∧
  (ν 12 (-1) = 26 ∧ ν 12 (-2) = 4 ∧ ∀ p, 0 ≤ p → p < 4 → ν 12 p = 15 + 2 * p ∧ ν (15 + 2 * p) (-1) = 4 ∧ ν (15 + 2 * p) 4 = 16 + 2 * p ∧ ν (16 + 2 * p) (-1) = 21 ∧ ν (16 + 2 * p) (-2) = 324 ∧ ν (15 + 2 * p) 3 = -1) ∧ ∀ z k, z ≠ 0 → z < 5 → ¬ (z = 4 ∧ 0 ≤ k) → ν z k = μ z k
section INI
variable {μ : Mem} {D n c s a v : Int}
theorem init2_rt (hn : At D μ 5 c s) (h : μ 4 (-1) = 3) : ∃ ν, FX2_init 4 μ = RT 0 ν ∧ Ini2 D μ ν c s := by
  obtain ⟨μ1, e1, t1, ⟨v1, w1, y1⟩, f1⟩ := NM_go hn (by omega)
  obtain ⟨μ2, e2, t2, v2, f2⟩ := PF_go (ci := 2) (a := 4) (k := 0) (v := 5) t1 (by omega) (by simp (disch := omega) only [f1, h]; decide)
  obtain ⟨μ3, e3, t3, ⟨v3, w3, y3⟩, f3⟩ := NA_go (t := 1) (len := 192) t2 (by omega) (by omega) (by omega)
  obtain ⟨μ4, e4, t4, v4, f4⟩ := PF_go (ci := 2) (a := 4) (k := 1) (v := 10) t3 (by omega) (by simp (disch := omega) only [f1, f2, f3, h]; decide)
  obtain ⟨μ5, e5, t5, ⟨v5, w5, y5⟩, f5⟩ := NA_go (t := 1) (len := 4) t4 (by omega) (by omega) (by omega)
  obtain ⟨μ6, e6, t6, v6, f6⟩ := PF_go (ci := 2) (a := 4) (k := 2) (v := 11) t5 (by omega) (by simp (disch := omega) only [f1, f2, f3, f4, f5, h]; decide)
  obtain ⟨μ7, e7, t7, ⟨v7, w7, y7⟩, f7⟩ := NA_go (t := 6) (len := 4) t6 (by omega) (by omega) (by omega)
  obtain ⟨μ8, e8, t8, v8, f8⟩ := PF_go (ci := 2) (a := 4) (k := 3) (v := 12) t7 (by omega) (by simp (disch := omega) only [f1, f2, f3, f4, f5, f6, f7, h]; decide)
  obtain ⟨μ9, e9, t9, ⟨v9, w9, y9⟩, f9⟩ := NA_go (t := 1) (len := 650) t8 (by omega) (by omega) (by omega)
  obtain ⟨μa, ea, ta, va, fa⟩ := PF_go (ci := 2) (a := 4) (k := 4) (v := 13) t9 (by omega) (by simp (disch := omega) only [f1, f2, f3, f4, f5, f6, f7, f8, f9, h]; decide)
  obtain ⟨μb, eb, tb, ⟨vb, wb, yb⟩, fb⟩ := NA_go (t := 1) (len := 11) ta (by omega) (by omega) (by omega)
  obtain ⟨μc, ec, tc, vc, fc⟩ := PF_go (ci := 2) (a := 4) (k := 5) (v := 14) tb (by omega) (by simp (disch := omega) only [f1, f2, f3, f4, f5, f6, f7, f8, f9, fa, fb, h]; decide)
  obtain ⟨μd, ed, td, vd, fd⟩ := PZ_go (ci := 2) (a := 4) (k := 6) tc (by omega) (by simp (disch := omega) only [f1, f2, f3, f4, f5, f6, f7, f8, f9, fa, fb, fc, h]; decide)
  obtain ⟨μe, ee, te, ve, fe⟩ := PZ_go (ci := 2) (a := 4) (k := 7) td (by omega) (by simp (disch := omega) only [f1, f2, f3, f4, f5, f6, f7, f8, f9, fa, fb, fc, fd, h]; decide)
  have eI : FX2_init 4 μ = LX2_init_69 FU 4 0 μe := by
    unfold FX2_init BX2_init_0
    rw [if_pos (by decide), e1, e2, e3]
    show (PF 2 1 4 10 _ _) = _
    rw [e4, e5]
    show (PF 2 2 4 11 _ _) = _
    rw [e6, e7]
    show (PF 2 3 4 12 _ _) = _
    rw [e8, e9]
    show (PF 2 4 4 13 _ _) = _
    rw [ea, eb]
    show (PF 2 5 4 14 _ _) = _
    rw [ec, ed, ee]
  rw [eI]
  have b4 : μe 4 (-1) = 3 ∧ μe 4 0 = 5 ∧ μe 4 1 = 10 ∧ μe 4 2 = 11 ∧ μe 4 3 = 12 ∧ μe 4 4 = 13 ∧ μe 4 5 = 14 ∧ μe 4 6 = 0 ∧ μe 4 7 = 0 := by
    simp (disch := omega) only [f1, f2, f3, f4, f5, f6, f7, f8, f9, fa, fb, fc, fd, fe, h, v2, v4, v6, v8, va, vc, vd, ve, and_self]
  have b5 : μe 5 (-1) = 27 ∧ μe 5 (-2) = 4 ∧ ∀ p, 0 ≤ p → p < 4 → μe 5 p = 6 + p ∧ μe (6 + p) (-1) = 21 ∧ μe (6 + p) (-2) = 192 := by
    refine ⟨?_, ?_, fun p p0 p1 => ?_⟩
    · simp (disch := omega) only [f2, f3, f4, f5, f6, f7, f8, f9, fa, fb, fc, fd, fe, v1]
    · simp (disch := omega) only [f2, f3, f4, f5, f6, f7, f8, f9, fa, fb, fc, fd, fe, w1]
    · have := y1 p p0 p1
      simp (disch := omega) only [f2, f3, f4, f5, f6, f7, f8, f9, fa, fb, fc, fd, fe]
      exact ⟨this.1, this.2.1, this.2.2.1⟩
  have b10 : μe 10 (-1) = 21 ∧ μe 10 (-2) = 192 ∧ μe 11 (-1) = 21 ∧ μe 11 (-2) = 4 ∧ μe 13 (-1) = 21 ∧ μe 13 (-2) = 650 ∧ μe 14 (-1) = 21 ∧ μe 14 (-2) = 11 := by
    refine ⟨?_, ?_, ?_, ?_, ?_, ?_, ?_, ?_⟩
    · simp (disch := omega) only [f4, f5, f6, f7, f8, f9, fa, fb, fc, fd, fe]; exact v3
    · simp (disch := omega) only [f4, f5, f6, f7, f8, f9, fa, fb, fc, fd, fe]; exact w3
    · simp (disch := omega) only [f6, f7, f8, f9, fa, fb, fc, fd, fe]; exact v5
    · simp (disch := omega) only [f6, f7, f8, f9, fa, fb, fc, fd, fe]; exact w5
    · simp (disch := omega) only [fa, fb, fc, fd, fe]; exact v9
    · simp (disch := omega) only [fa, fb, fc, fd, fe]; exact w9
    · simp (disch := omega) only [fc, fd, fe]; exact vb
    · simp (disch := omega) only [fc, fd, fe]; exact wb
  have b12 : μe 12 (-1) = 26 ∧ μe 12 (-2) = 4 := by
    refine ⟨?_, ?_⟩
    · simp (disch := omega) only [f8, f9, fa, fb, fc, fd, fe]; exact v7
    · simp (disch := omega) only [f8, f9, fa, fb, fc, fd, fe]; exact w7
  have bz : ∀ z k, z ≠ 0 → z < 5 → ¬ (z = 4 ∧ 0 ≤ k) → μe z k = μ z k := fun z k h1 h2 h3 => by
    simp (disch := omega) only [f1, f2, f3, f4, f5, f6, f7, f8, f9, fa, fb, fc, fd, fe]
  have tE : At D μe 15 (c + 10) (s + 1633) := by
    obtain ⟨q1, q2, q3⟩ := te
    exact ⟨by omega, by omega, by omega⟩
  clear e1 e2 e3 e4 e5 e6 e7 e8 e9 ea eb ec ed ee t1 t2 t3 t4 t5 t6 t7 t8 t9 ta tb tc td te eI
  refine lpR (fun m i η => LX2_init_69 m 4 i η) (fun p η => 0 ≤ p ∧ At D η (15 + 2 * p) (c + 10 + 2 * p) (s + 1633 + 329 * p) ∧ (∀ z k, z ≠ 0 → z < 15 → ¬ (z = 12 ∧ 0 ≤ k) → η z k = μe z k) ∧ ∀ q, 0 ≤ q → q < p → η 12 q = 15 + 2 * q ∧ η (15 + 2 * q) (-1) = 4 ∧ η (15 + 2 * q) 4 = 16 + 2 * q ∧ η (16 + 2 * q) (-1) = 21 ∧ η (16 + 2 * q) (-2) = 324 ∧ η (15 + 2 * q) 3 = -1) 4 (fun R => ∃ ν, R = RT 0 ν ∧ Ini2 D μ ν c s) (fun m p η p1 hI => ?_) (fun m η hI => ?_) FU 0 μe (by omega) (by rw [show ((FU : Nat) : Int) = 20000 from rfl]; omega) ⟨Int.le_refl _, by simpa using tE, fun _ _ _ _ _ => rfl, fun q q0 q1 => by omega⟩
  · obtain ⟨p0, ht, hf, hv⟩ := hI
    obtain ⟨η1, g1, u1, ⟨x1, _⟩, k1⟩ := NW_go (ci := 3) (sz := 5) ht (by omega)
    obtain ⟨η2, g2, u2, ⟨x2, x3, x4, x5⟩, k2⟩ := init3_rt (a := 15 + 2 * p) u1 (by omega) (by omega) (by rw [x1]; decide)
    have a12 : η2 12 (-1) = 26 ∧ η2 12 (-2) = 4 ∧ η2 4 (-1) = 3 := by
      simp (disch := omega) only [k2, k1, hf, b12, b4, and_self]
    have a15 : η2 (15 + 2 * p) (-1) = 4 := by
      rw [k2 _ _ (by omega) (by omega) (by omega), x1]
      decide
    obtain ⟨η3, g3, u3, x6, k3⟩ := ASR_go (t := 6) (ci := 3) (a := 12) (i := p) (v := 15 + 2 * p) u2 (by omega) (by rw [a12.1]; decide) ⟨p0, by omega⟩ (by rw [a15]; decide)
    refine ⟨η3, ⟨by omega, ?_, fun z k h1 h2 h3 => ?_, fun q q0 q1 => ?_⟩, ?_⟩
    · obtain ⟨q1, q2, q3⟩ := u3
      exact ⟨by omega, by omega, by omega⟩
    · simp (disch := omega) only [k3, k2, k1, hf]
    · by_cases e : q = p
      · subst e
        refine ⟨x6, ?_, ?_, ?_, ?_, ?_⟩
        · simp (disch := omega) only [k3]; exact a15
        · simp (disch := omega) only [k3]; rw [x3]; omega
        · simp (disch := omega) only [k3]; rw [show 16 + 2 * q = 15 + 2 * q + 1 by omega]; exact x4
        · simp (disch := omega) only [k3]; rw [show 16 + 2 * q = 15 + 2 * q + 1 by omega]; exact x5
        · simp (disch := omega) only [k3]; exact x2
      · simp (disch := omega) only [k3, k2, k1]
        exact hv q q0 (by omega)
    · have a4 : η 4 (-1) = 3 ∧ η 4 3 = 12 := by
        simp (disch := omega) only [hf, b4, and_self]
      have w1 : w32 (p + 1) = p + 1 := w32_eq (by omega) (by omega)
      show BX2_init_69 _ 4 p η = _
      unfold BX2_init_69
      rw [if_neg (by omega)]
      rw [GF_go (v := 12) (by rw [a4.1]; decide) a4.2, g1, KD_go x1]
      simp only [CL]
      rw [g2]
      simp only [CLX_rt]
      rw [g3, w1]
  · obtain ⟨p0, ht, hf, hv⟩ := hI
    refine ⟨η, ?_, ?_, ?_, ?_, ?_, ?_, ?_⟩
    · show BX2_init_69 _ 4 4 η = _
      unfold BX2_init_69
      rw [if_pos (by omega)]
    · obtain ⟨q1, q2, q3⟩ := ht
      exact ⟨by omega, by omega, by omega⟩
    · simp (disch := omega) only [hf, b4, and_self]
    · refine ⟨by simp (disch := omega) only [hf, b5], by simp (disch := omega) only [hf, b5], fun p p0 p1 => ?_⟩
      have := b5.2.2 p p0 p1
      simp (disch := omega) only [hf]
      exact this
    · simp (disch := omega) only [hf, b10, and_self]
    · exact ⟨by simp (disch := omega) only [hf, b12], by simp (disch := omega) only [hf, b12], hv⟩
    · exact fun z k h1 h2 h3 => by rw [hf z k h1 (by omega) (by omega)]; exact bz z k h1 h2 h3
end INI

