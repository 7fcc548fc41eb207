/-- the component as it is made -/
def Ini6 (ν : Mem) : Prop := CSh ν ∧ (ν 1 1 = 0 ∧ ν 1 2 = -1 ∧ ν 1 4 = 0 ∧ ν 1 5 = 0 ∧ ν 1 6 = 25) ∧ (ν 25 0 = 8 ∧ ν 25 1 = 8 ∧ ν 25 2 = 4 ∧ ν 25 3 = 0) ∧ (∀ k, 0 ≤ k → ν 27 k = 0 ∧ ν 28 k = 0) ∧ (ν 4 6 = 0 ∧ ν 4 7 = 0) ∧ ∀ p, 0 ≤ p → p < 4 → ν (15 + 2 * p) 3 = -1
/-- of the sheet c in the making -/
def ShC (η : Mem) (c : Int) : Prop := η 3 c = 25 + 8 * c ∧ (η (25 + 8 * c) (-1) = 6 ∧ η (25 + 8 * c) 4 = 26 + 8 * c ∧ η (25 + 8 * c) 5 = 27 + 8 * c ∧ η (25 + 8 * c) 6 = 28 + 8 * c ∧ η (26 + 8 * c) (-1) = 25 ∧ η (26 + 8 * c) (-2) = 4 ∧ η (27 + 8 * c) (-1) = 21 ∧ η (27 + 8 * c) (-2) = 192 ∧ η (28 + 8 * c) (-1) = 21 ∧ η (28 + 8 * c) (-2) = 192) ∧ (η (25 + 8 * c) 0 = 8 ∧ η (25 + 8 * c) 1 = 8 ∧ η (25 + 8 * c) 2 = 4 ∧ η (25 + 8 * c) 3 = 0) ∧ (∀ k, 0 ≤ k → η (27 + 8 * c) k = 0 ∧ η (28 + 8 * c) k = 0) ∧ ∀ p, 0 ≤ p → p < 4 → η (26 + 8 * c) p = 29 + 8 * c + p ∧ η (29 + 8 * c + p) (-1) = 2
theorem ShC.fr {η η' : Mem} {c : Int} (c0 : 0 ≤ c) (h : ShC η c) (f1 : η' 3 c = η 3 c) (f2 : ∀ z k, 25 + 8 * c ≤ z → z ≤ 32 + 8 * c → η' z k = η z k) : ShC η' c := by
  obtain ⟨a, b, d, e, g⟩ := h
  refine ⟨f1.trans a, ?_, ?_, fun k k0 => ?_, fun p p0 p1 => ?_⟩
  · simp (disch := omega) only [f2, b, and_self]
  · simp (disch := omega) only [f2, d, and_self]
  · simp (disch := omega) only [f2, e, and_self]
  · simp (disch := omega) only [f2]
    exact g p p0 p1
section INC
variable {μ : Mem} {D c s : Int}
theorem init6_rt (hn : At D μ 2 c s) (h : μ 1 (-1) = 7) : ∃ ν, FX6_init 1 μ = RT 0 ν ∧ Ini6 ν ∧ At D ν 105 (c + 103) (s + 8450) ∧ ∀ z k, z < 0 → ν z k = μ z k := by
  obtain ⟨μ1, e1, t1, ⟨v1, w1, y1⟩, f1⟩ := NA_go (t := 0) (len := 600) hn (by omega) (by omega) (by omega)
  obtain ⟨μ2, e2, t2, v2, f2⟩ := PF_go (ci := 6) (a := 1) (k := 0) (v := 2) t1 (by omega) (by simp (disch := omega) only [f1, h]; decide)
  obtain ⟨μ3, e3, t3, v3, f3⟩ := PF_go (ci := 6) (a := 1) (k := 1) (v := 0) t2 (by omega) (by simp (disch := omega) only [f1, f2, h]; decide)
  obtain ⟨μ4, e4, t4, v4, f4⟩ := PF_go (ci := 6) (a := 1) (k := 2) (v := -1) t3 (by omega) (by simp (disch := omega) only [f1, f2, f3, h]; decide)
  obtain ⟨μ5, e5, t5, ⟨v5, w5, y5⟩, f5⟩ := NA_go (t := 4) (len := 10) t4 (by omega) (by omega) (by omega)
  obtain ⟨μ6, e6, t6, v6, f6⟩ := PF_go (ci := 6) (a := 1) (k := 3) (v := 3) t5 (by omega) (by simp (disch := omega) only [f1, f2, f3, f4, f5, h]; decide)
  obtain ⟨μ7, e7, t7, v7, f7⟩ := PF_go (ci := 6) (a := 1) (k := 4) (v := 0) t6 (by omega) (by simp (disch := omega) only [f1, f2, f3, f4, f5, f6, h]; decide)
  obtain ⟨μ8, e8, t8, v8, f8⟩ := PF_go (ci := 6) (a := 1) (k := 5) (v := 0) t7 (by omega) (by simp (disch := omega) only [f1, f2, f3, f4, f5, f6, f7, h]; decide)
  obtain ⟨μ9, e9, t9, ⟨v9, y9⟩, f9⟩ := NW_go (ci := 2) (sz := 8) t8 (by omega)
  have e9 : ∀ K : Int → Mem → Rz, NW 2 8 μ8 K = K 4 μ9 := e9
  have v9 : μ9 4 (-1) = 2 + 1 := v9
  obtain ⟨μa, ea, hi⟩ := init2_rt t9 v9
  obtain ⟨ta, i4, i5, i10, i12, fa⟩ := id hi
  obtain ⟨μb, eb, tb, vb, fb⟩ := PF_go (ci := 6) (a := 1) (k := 7) (v := 4) ta (by omega) (by simp (disch := omega) only [f1, f2, f3, f4, f5, f6, f7, f8, f9, fa, h]; decide)
  obtain ⟨μc, ec, tc, ⟨vc, yc⟩, fc⟩ := NW_go (ci := 4) (sz := 13) tb (by omega)
  obtain ⟨μd, ed, td, ⟨vd, wd, yd⟩, fd⟩ := NA_go (t := 1) (len := 600) tc (by omega) (by omega) (by omega)
  obtain ⟨μe, ee, te, ve, fe⟩ := PF_go (ci := 4) (a := 23) (k := 11) (v := 24) td (by omega) (by simp (disch := omega) only [fd]; exact vc)
  obtain ⟨μf, ef, tf, vf, ff⟩ := PF_go (ci := 6) (a := 1) (k := 8) (v := 23) te (by omega) (by simp (disch := omega) only [f1, f2, f3, f4, f5, f6, f7, f8, f9, fa, fb, fc, fd, fe, h]; decide)
  have ei : FX4_init 23 μc = RT 0 μe := by
    unfold FX4_init BX4_init_0
    rw [if_pos (by decide), ed]
    show (PF 4 11 23 24 _ _) = _
    rw [ee]
  have eI : FX6_init 1 μ = LX6_init_66 FU 1 0 μf := by
    unfold FX6_init BX6_init_0
    rw [if_pos (by decide), e1, e2, e3, e4, e5]
    show (PF 6 3 1 3 _ _) = _
    rw [e6, e7, e8, e9]
    rw [KD_go v9]
    simp only [CL]
    show (CLX (FX2_init 4 _) _ _) = _
    rw [ea]
    simp only [CLX_rt]
    show (PF 6 7 1 4 _ _) = _
    rw [eb, ec]
    show (KD 4 23 _ _) = _
    rw [KD_go vc]
    show (CLX (FX4_init 23 _) _ _) = _
    rw [ei]
    simp only [CLX_rt]
    show (PF 6 8 1 23 _ _) = _
    rw [ef]
  rw [eI]
  have b1 : μf 1 (-1) = 7 ∧ μf 1 0 = 2 ∧ μf 1 1 = 0 ∧ μf 1 2 = -1 ∧ μf 1 3 = 3 ∧ μf 1 4 = 0 ∧ μf 1 5 = 0 ∧ μf 1 7 = 4 ∧ μf 1 8 = 23 := by
    simp (disch := omega) only [f1, f2, f3, f4, f5, f6, f7, f8, f9, fa, fb, fc, fd, fe, ff, h, v2, v3, v4, v6, v7, v8, vb, vf, and_self]
  have b2 : μf 2 (-1) = 20 ∧ μf 2 (-2) = 600 := by
    refine ⟨?_, ?_⟩
    · simp (disch := omega) only [f2, f3, f4, f5, f6, f7, f8, f9, fa, fb, fc, fd, fe, ff]; exact v1
    · simp (disch := omega) only [f2, f3, f4, f5, f6, f7, f8, f9, fa, fb, fc, fd, fe, ff]; exact w1
  have b3 : μf 3 (-1) = 24 ∧ μf 3 (-2) = 10 := by
    refine ⟨?_, ?_⟩
    · simp (disch := omega) only [f6, f7, f8, f9, fa, fb, fc, fd, fe, ff]; exact v5
    · simp (disch := omega) only [f6, f7, f8, f9, fa, fb, fc, fd, fe, ff]; exact w5
  have b4 : μf 4 (-1) = 3 ∧ μf 4 0 = 5 ∧ μf 4 1 = 10 ∧ μf 4 2 = 11 ∧ μf 4 3 = 12 ∧ μf 4 4 = 13 ∧ μf 4 5 = 14 ∧ μf 4 6 = 0 ∧ μf 4 7 = 0 := by
    refine ⟨?_, ?_⟩
    · simp (disch := omega) only [fa, fb, fc, fd, fe, ff]; exact v9
    · simp (disch := omega) only [fb, fc, fd, fe, ff, i4, and_self]
  have b5 : μf 5 (-1) = 27 ∧ μf 5 (-2) = 4 ∧ ∀ p, 0 ≤ p → p < 4 → μf 5 p = 6 + p ∧ μf (6 + p) (-1) = 21 ∧ μf (6 + p) (-2) = 192 := by
    refine ⟨by simp (disch := omega) only [fb, fc, fd, fe, ff, i5], by simp (disch := omega) only [fb, fc, fd, fe, ff, i5], fun p p0 p1 => ?_⟩
    simp (disch := omega) only [fb, fc, fd, fe, ff]
    exact i5.2.2 p p0 p1
  have b10 : μf 10 (-1) = 21 ∧ μf 10 (-2) = 192 ∧ μf 11 (-1) = 21 ∧ μf 11 (-2) = 4 ∧ μf 13 (-1) = 21 ∧ μf 13 (-2) = 650 ∧ μf 14 (-1) = 21 ∧ μf 14 (-2) = 11 := by
    simp (disch := omega) only [fb, fc, fd, fe, ff, i10, and_self]
  have b12 : μf 12 (-1) = 26 ∧ μf 12 (-2) = 4 ∧ ∀ p, 0 ≤ p → p < 4 → μf 12 p = 15 + 2 * p ∧ μf (15 + 2 * p) (-1) = 4 ∧ μf (15 + 2 * p) 4 = 16 + 2 * p ∧ μf (16 + 2 * p) (-1) = 21 ∧ μf (16 + 2 * p) (-2) = 324 ∧ μf (15 + 2 * p) 3 = -1 := by
    refine ⟨by simp (disch := omega) only [fb, fc, fd, fe, ff, i12], by simp (disch := omega) only [fb, fc, fd, fe, ff, i12], fun p p0 p1 => ?_⟩
    simp (disch := omega) only [fb, fc, fd, fe, ff]
    exact i12.2.2 p p0 p1
  have b23 : μf 23 (-1) = 5 ∧ μf 23 11 = 24 ∧ μf 24 (-1) = 21 ∧ μf 24 (-2) = 600 := by
    refine ⟨?_, ?_, ?_, ?_⟩
    · simp (disch := omega) only [fd, fe, ff]; exact vc
    · simp (disch := omega) only [ff]; exact ve
    · simp (disch := omega) only [fe, ff]; exact vd
    · simp (disch := omega) only [fe, ff]; exact wd
  have bN : ∀ z k, z < 0 → μf z k = μ z k := fun z k hz => by
    simp (disch := omega) only [f1, f2, f3, f4, f5, f6, f7, f8, f9, fa, fb, fc, fd, fe, ff]
  have tE : At D μf 25 (c + 23) (s + 4180) := by
    obtain ⟨q1, q2, q3, q4⟩ := tf
    exact ⟨by omega, by omega, by omega, q4⟩
  clear e1 e2 e3 e4 e5 e6 e7 e8 e9 ea eb ec ed ee ef t1 t2 t3 t4 t5 t6 t7 t8 t9 ta tb tc td te tf eI ei f1 f2 f3 f4 f5 f6 f7 f8 f9 fa fb fc fd fe ff v1 v2 v3 v4 v5 v6 v7 v8 v9 vb vc vd ve vf w1 w5 wd y1 y5 y9 yc yd hi i4 i5 i10 i12
  refine lpR (fun m i η => LX6_init_66 m 1 i η) (fun p η => 0 ≤ p ∧ At D η (25 + 8 * p) (c + 23 + 8 * p) (s + 4180 + 427 * p) ∧ (∀ z k, z ≠ 0 → z < 25 → ¬ (z = 3 ∧ 0 ≤ k) → η z k = μf z k) ∧ ∀ q, 0 ≤ q → q < p → ShC η q) 10 (fun R => ∃ ν, R = RT 0 ν ∧ Ini6 ν ∧ At D ν 105 (c + 103) (s + 8450) ∧ ∀ z k, z < 0 → ν z k = μ z k) (fun m p η p1 hI => ?_) (fun m η hI => ?_) FU 0 μf (by omega) (by rw [show ((FU : Nat) : Int) = 20000 from rfl]; omega) ⟨Int.le_refl _, by simpa using tE, fun _ _ _ _ _ => rfl, fun q q0 q1 => by omega⟩
  · obtain ⟨p0, ht, hf, hv⟩ := hI
    obtain ⟨η1, g1, u1, ⟨x1, _⟩, k1⟩ := NW_go (ci := 5) (sz := 7) ht (by omega)
    obtain ⟨η2, g2, u2, ⟨x2, x3⟩, x4, x5, x6, k2⟩ := init5_rt u1 (by omega) x1
    have a12 : η2 3 (-1) = 24 ∧ η2 3 (-2) = 10 := by
      simp (disch := omega) only [k2, k1, hf, b3, and_self]
    have a15 : η2 (25 + 8 * p) (-1) = 6 := by
      rw [k2 _ _ (by omega) (by omega) (by omega), x1]
      decide
    obtain ⟨η3, g3, u3, x7, k3⟩ := ASR_go (t := 4) (ci := 5) (a := 3) (i := p) (v := 25 + 8 * p) u2 (by omega) (by rw [a12.1]; decide) ⟨p0, by omega⟩ (by rw [a15]; decide)
    refine ⟨η3, ⟨by omega, ?_, fun z k h1 h2 h3 => ?_, fun q q0 q1 => ?_⟩, ?_⟩
    · obtain ⟨q1, q2, q3, q4⟩ := u3
      exact ⟨by omega, by omega, by omega, q4⟩
    · simp (disch := omega) only [k3, k2, k1, hf]
    · by_cases e : q = p
      · subst e
        rw [show 25 + 8 * q + 1 = 26 + 8 * q by omega, show 25 + 8 * q + 2 = 27 + 8 * q by omega, show 25 + 8 * q + 3 = 28 + 8 * q by omega] at x3 x4
        rw [show 25 + 8 * q + 2 = 27 + 8 * q by omega, show 25 + 8 * q + 3 = 28 + 8 * q by omega] at x5
        rw [show 25 + 8 * q + 1 = 26 + 8 * q by omega, show 25 + 8 * q + 4 = 29 + 8 * q by omega] at x6
        refine ⟨x7, ?_, ?_, fun k k0 => ?_, fun p p0 p1 => ?_⟩
        · simp (disch := omega) only [k3, a15, x3, x4, and_self]
        · simp (disch := omega) only [k3, x2, x3, and_self]
        · simp (disch := omega) only [k3, x5, and_self]
        · simp (disch := omega) only [k3]
          exact x6 p p0 p1
      · exact (hv q q0 (by omega)).fr q0 (by simp (disch := omega) only [k3, k2, k1]) fun z k h1 h2 => by simp (disch := omega) only [k3, k2, k1]
    · have a4 : η 1 (-1) = 7 ∧ η 1 3 = 3 := by
        simp (disch := omega) only [hf, b1, and_self]
      have w1 : w32 (p + 1) = p + 1 := w32_eq (by omega) (by omega)
      show BX6_init_66 _ 1 p η = _
      unfold BX6_init_66
      rw [if_neg (by omega), GF_go (v := 3) (by rw [a4.1]; decide) a4.2, g1, KD_go x1]
      simp only [CL]
      rw [g2]
      simp only [CLX_rt]
      rw [g3, w1]
  · obtain ⟨p0, ht, hf, hv⟩ := hI
    have a4 : η 1 (-1) = 7 ∧ η 1 3 = 3 ∧ η 1 4 = 0 ∧ η 3 (-1) = 24 ∧ η 3 (-2) = 10 := by
      simp (disch := omega) only [hf, b1, b3, and_self]
    have h0 := hv 0 (by omega) (by omega)
    obtain ⟨η1, g1, u1, x1, k1⟩ := PF_go (ci := 6) (a := 1) (k := 6) (v := 25) ht (by omega) (by rw [a4.1]; decide)
    have hv1 : ∀ q, 0 ≤ q → q < 10 → ShC η1 q := fun q q0 q1 => (hv q q0 q1).fr q0 (by simp (disch := omega) only [k1]) fun z k h1 h2 => by simp (disch := omega) only [k1]
    refine ⟨η1, ?_, ⟨⟨?_, ?_, ?_, ?_, ?_, ?_, ?_, ?_, fun c c0 c1 => (hv1 c c0 c1).2.1, fun c c0 c1 p p0 p1 => (hv1 c c0 c1).2.2.2.2 p p0 p1⟩, ?_, (hv1 0 (by omega) (by omega)).2.2.1, (hv1 0 (by omega) (by omega)).2.2.2.1, ?_, fun p p0 p1 => ?_⟩, ?_, fun z k hz => by rw [k1 _ _ (by omega), hf _ _ (by omega) (by omega) (by omega), bN z k hz]⟩
    · show BX6_init_66 _ 1 10 η = _
      unfold BX6_init_66
      rw [if_pos (by omega), GF_go (v := 3) (by rw [a4.1]; decide) a4.2.1, GF_go (v := 0) (by rw [a4.1]; decide) a4.2.2.1]
      unfold AL
      rw [if_pos (by rw [a4.2.2.2.1, a4.2.2.2.2]; decide), h0.1]
      exact g1 _
    · simp (disch := omega) only [k1, hf, b1, and_self]
    · simp (disch := omega) only [k1, hf, b2, and_self]
    · exact ⟨by simp (disch := omega) only [k1, hf, b3], by simp (disch := omega) only [k1, hf, b3], fun c c0 c1 => (hv1 c c0 c1).1⟩
    · simp (disch := omega) only [k1, hf, b4, and_self]
    · refine ⟨by simp (disch := omega) only [k1, hf, b5], by simp (disch := omega) only [k1, hf, b5], fun p p0 p1 => ?_⟩
      simp (disch := omega) only [k1, hf]
      exact b5.2.2 p p0 p1
    · simp (disch := omega) only [k1, hf, b10, and_self]
    · refine ⟨by simp (disch := omega) only [k1, hf, b12], by simp (disch := omega) only [k1, hf, b12], fun p p0 p1 => ?_⟩
      have := b12.2.2 p p0 p1
      simp (disch := omega) only [k1, hf]
      exact ⟨this.1, this.2.1, this.2.2.1, this.2.2.2.1, this.2.2.2.2.1⟩
    · simp (disch := omega) only [k1, hf, b23, and_self]
    · refine ⟨?_, ?_, ?_, ?_, x1⟩
      · simp (disch := omega) only [k1, hf, b1]
      · simp (disch := omega) only [k1, hf, b1]
      · simp (disch := omega) only [k1, hf, b1]
      · simp (disch := omega) only [k1, hf, b1]
    · simp (disch := omega) only [k1, hf, b4, and_self]
    · simp (disch := omega) only [k1, hf]
      exact (b12.2.2 p p0 p1).2.2.2.2.2
    · obtain ⟨q1, q2, q3, q4⟩ := u1
      exact ⟨by omega, by omega, by omega, q4⟩
end INC

