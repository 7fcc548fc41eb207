/-- a sheet as it is made -/
def Ini5 (D : Int) (μ ν : Mem) (a c s : Int) : Prop := At D ν (a + 8) (c + 7) (s + 420) ∧ (ν a 0 = 8 ∧ ν a 1 = 8 ∧ ν a 2 = 4 ∧ ν a 3 = 0 ∧ ν a 4 = a + 1 ∧ ν a 5 = a + 2 ∧ ν a 6 = a + 3) ∧ (ν (a + 1) (-1) = 25 ∧ ν (a + 1) (-2) = 4 ∧ ν (a + 2) (-1) = 21 ∧ ν (a + 2) (-2) = 192 ∧ ν (a + 3) (-1) = 21 ∧ ν (a + 3) (-2) = 192) ∧ (∀ k, 0 ≤ k → ν (a + 2) k = 0 ∧ ν (a + 3) k = 0) ∧ (∀ p, 0 ≤ p → p < 4 → ν (a + 1) p = a + 4 + p ∧ ν (a + 4 + p) (-1) = 2) ∧ ∀ z k, z ≠ 0 → ¬ (z = a ∧ 0 ≤ k) → ¬ (a + 1 ≤ z ∧ z ≤ a + 7) → ν z k = μ z k
section INS
variable {μ : Mem} {D n c s a v : Int}
theorem init5_rt (hn : At D μ (a + 1) c s) (a0 : 0 < a) (h : μ a (-1) = 6) : ∃ ν, FX5_init a μ = RT 0 ν ∧ Ini5 D μ ν a c s := by
  obtain ⟨μ1, e1, t1, v1, f1⟩ := PF_go (ci := 5) (a := a) (k := 0) (v := 8) hn a0 (by omega)
  obtain ⟨μ2, e2, t2, v2, f2⟩ := PF_go (ci := 5) (a := a) (k := 1) (v := 8) t1 a0 (by simp (disch := omega) only [f1, h]; decide)
  obtain ⟨μ3, e3, t3, v3, f3⟩ := PF_go (ci := 5) (a := a) (k := 2) (v := 4) t2 a0 (by simp (disch := omega) only [f1, f2, h]; decide)
  obtain ⟨μ4, e4, t4, v4, f4⟩ := PF_go (ci := 5) (a := a) (k := 3) (v := 0) t3 a0 (by simp (disch := omega) only [f1, f2, f3, h]; decide)
  obtain ⟨μ5, e5, t5, ⟨v5, w5, y5⟩, f5⟩ := NA_go (t := 5) (len := 4) t4 (by omega) (by omega) (by omega)
  obtain ⟨μ6, e6, t6, v6, f6⟩ := PF_go (ci := 5) (a := a) (k := 4) (v := a + 1) t5 a0 (by simp (disch := omega) only [f1, f2, f3, f4, f5, h]; decide)
  obtain ⟨μ7, e7, t7, ⟨v7, w7, y7⟩, f7⟩ := NA_go (t := 1) (len := 192) t6 (by omega) (by omega) (by omega)
  obtain ⟨μ8, e8, t8, v8, f8⟩ := PF_go (ci := 5) (a := a) (k := 5) (v := a + 1 + 1) t7 a0 (by simp (disch := omega) only [f1, f2, f3, f4, f5, f6, f7, h]; decide)
  obtain ⟨μ9, e9, t9, ⟨v9, w9, y9⟩, f9⟩ := NA_go (t := 1) (len := 192) t8 (by omega) (by omega) (by omega)
  obtain ⟨μa, ea, ta, va, fa⟩ := PF_go (ci := 5) (a := a) (k := 6) (v := a + 1 + 1 + 1) t9 a0 (by simp (disch := omega) only [f1, f2, f3, f4, f5, f6, f7, f8, f9, h]; decide)
  have eI : FX5_init a μ = LX5_init_54 FU a 0 μa := by
    unfold FX5_init BX5_init_0
    rw [if_pos a0, e1, e2, e3, e4, e5, e6, e7, e8, e9, ea]
  rw [eI]
  have b1 : μa a (-1) = 6 ∧ μa a 0 = 8 ∧ μa a 1 = 8 ∧ μa a 2 = 4 ∧ μa a 3 = 0 ∧ μa a 4 = a + 1 ∧ μa a 5 = a + 1 + 1 ∧ μa a 6 = a + 1 + 1 + 1 := by
    simp (disch := omega) only [f1, f2, f3, f4, f5, f6, f7, f8, f9, fa, h, v1, v2, v3, v4, v6, v8, va, and_self]
  have b2 : μa (a + 1) (-1) = 25 ∧ μa (a + 1) (-2) = 4 := by
    refine ⟨?_, ?_⟩
    · simp (disch := omega) only [f6, f7, f8, f9, fa]; exact v5
    · simp (disch := omega) only [f6, f7, f8, f9, fa]; exact w5
  have b3 : μa (a + 1 + 1) (-1) = 21 ∧ μa (a + 1 + 1) (-2) = 192 ∧ ∀ k, 0 ≤ k → μa (a + 1 + 1) k = 0 := by
    refine ⟨?_, ?_, fun k k0 => ?_⟩
    · simp (disch := omega) only [f8, f9, fa]; exact v7
    · simp (disch := omega) only [f8, f9, fa]; exact w7
    · simp (disch := omega) only [f8, f9, fa]; exact y7 k k0
  have b4 : μa (a + 1 + 1 + 1) (-1) = 21 ∧ μa (a + 1 + 1 + 1) (-2) = 192 ∧ ∀ k, 0 ≤ k → μa (a + 1 + 1 + 1) k = 0 := by
    refine ⟨?_, ?_, fun k k0 => ?_⟩
    · simp (disch := omega) only [fa]; exact v9
    · simp (disch := omega) only [fa]; exact w9
    · simp (disch := omega) only [fa]; exact y9 k k0
  have bz : ∀ z k, z ≠ 0 → ¬ (z = a ∧ 0 ≤ k) → ¬ (a + 1 ≤ z ∧ z ≤ a + 7) → μa z k = μ z k := fun z k h1 h2 h3 => by
    simp (disch := omega) only [f1, f2, f3, f4, f5, f6, f7, f8, f9, fa]
  have tE : At D μa (a + 4) (c + 3) (s + 388) := by
    obtain ⟨q1, q2, q3⟩ := ta
    exact ⟨by omega, by omega, by omega⟩
  clear e1 e2 e3 e4 e5 e6 e7 e8 e9 ea t1 t2 t3 t4 t5 t6 t7 t8 t9 ta eI f1 f2 f3 f4 f5 f6 f7 f8 f9 fa v1 v2 v3 v4 v5 v6 v7 v8 v9 va w5 w7 w9 y5 y7 y9
  refine lpR (fun m i η => LX5_init_54 m a i η) (fun p η => 0 ≤ p ∧ At D η (a + 4 + p) (c + 3 + p) (s + 388 + 8 * p) ∧ (∀ z k, z ≠ 0 → z < a + 4 → ¬ (z = a + 1 ∧ 0 ≤ k) → η z k = μa z k) ∧ (∀ z k, a + 7 < z → η z k = μa z k) ∧ ∀ q, 0 ≤ q → q < p → η (a + 1) q = a + 4 + q ∧ η (a + 4 + q) (-1) = 2) 4 (fun R => ∃ ν, R = RT 0 ν ∧ Ini5 D μ ν a c s) (fun m p η p1 hI => ?_) (fun m η hI => ?_) FU 0 μa (by omega) (by rw [show ((FU : Nat) : Int) = 20000 from rfl]; omega) ⟨Int.le_refl _, by simpa using tE, fun _ _ _ _ _ => rfl, fun _ _ _ => rfl, fun q q0 q1 => by omega⟩
  · obtain ⟨p0, ht, hf, hg, hv⟩ := hI
    obtain ⟨η1, g1, u1, ⟨x1, _⟩, k1⟩ := NW_go (ci := 1) (sz := 8) ht (by omega)
    obtain ⟨η2, g2, u2, x2, k2⟩ := PF_go (ci := 1) (a := a + 4 + p) (k := 1) (v := 1) u1 (by omega) x1
    have a12 : η2 (a + 1) (-1) = 25 ∧ η2 (a + 1) (-2) = 4 := by
      simp (disch := omega) only [k2, k1, hf, b2, and_self]
    have a15 : η2 (a + 4 + p) (-1) = 2 := by
      rw [k2 _ _ (by omega), x1]
      decide
    obtain ⟨η3, g3, u3, x6, k3⟩ := ASR_go (t := 5) (ci := 1) (a := a + 1) (i := p) (v := a + 4 + p) u2 (by omega) (by rw [a12.1]; decide) ⟨p0, by omega⟩ (by rw [a15]; decide)
    refine ⟨η3, ⟨by omega, ?_, fun z k h1 h2 h3 => ?_, fun z k h1 => ?_, fun q q0 q1 => ?_⟩, ?_⟩
    · obtain ⟨q1, q2, q3⟩ := u3
      exact ⟨by omega, by omega, by omega⟩
    · simp (disch := omega) only [k3, k2, k1, hf]
    · simp (disch := omega) only [k3, k2, k1, hg]
    · by_cases e : q = p
      · subst e
        refine ⟨x6, ?_⟩
        simp (disch := omega) only [k3]; exact a15
      · simp (disch := omega) only [k3, k2, k1]
        exact hv q q0 (by omega)
    · have a4 : η a (-1) = 6 ∧ η a 4 = a + 1 := by
        simp (disch := omega) only [hf, b1, and_self]
      have w1 : w32 (p + 1) = p + 1 := w32_eq (by omega) (by omega)
      have hi : FX1_init (a + 4 + p) η1 = RT 0 η2 := by
        unfold FX1_init BX1_init_0
        rw [if_pos (by omega), g2]
      show BX5_init_54 _ a p η = _
      unfold BX5_init_54
      rw [if_neg (by omega), GF_go (v := a + 1) (by rw [a4.1]; decide) a4.2, g1, KD_go x1]
      simp only [CL]
      rw [hi]
      simp only [CLX_rt]
      rw [g3, w1]
  · obtain ⟨p0, ht, hf, hg, hv⟩ := hI
    refine ⟨η, ?_, ?_, ?_, ?_, fun k k0 => ?_, hv, fun z k h1 h2 h3 => ?_⟩
    · show BX5_init_54 _ a 4 η = _
      unfold BX5_init_54
      rw [if_pos (by omega)]
    · obtain ⟨q1, q2, q3⟩ := ht
      exact ⟨by omega, by omega, by omega⟩
    · simp (disch := omega) only [hf, b1, true_and]
      omega
    · rw [show a + 1 + 1 = a + 2 by omega] at b3 b4
      rw [show a + 2 + 1 = a + 3 by omega] at b4
      simp (disch := omega) only [hf, b2, b3, b4, and_self]
    · rw [show a + 1 + 1 = a + 2 by omega] at b3 b4
      rw [show a + 2 + 1 = a + 3 by omega] at b4
      simp (disch := omega) only [hf, b3, b4, and_self]
    · rcases (show z < a + 4 ∨ a + 7 < z by omega) with q | q
      · rw [hf z k h1 q (by omega)]
        exact bz z k h1 h2 h3
      · rw [hg z k q]
        exact bz z k h1 h2 h3
end INS

