/-! the reference lays ranks, tones and dots -/
theorem Mc.fr {μ ν : Mem} {c u : Int} {h : Int → Row} (hc : Mc μ c u h) (hf : ∀ z k, (z = 105 ∧ 0 ≤ k ∧ k ≤ 23 ∧ (k = 1 ∨ k = 2 ∨ k = 3 ∨ k = 4 ∨ k = 5 ∨ k = 6 ∨ k = 7 ∨ k = 8 ∨ k = 9 ∨ k = 11 ∨ k = 23)) ∨ (105 ≤ z ∧ z ≤ 114 ∧ k < 0) ∨ (z = 106 ∧ 0 ≤ k) → ν z k = μ z k) : Mc ν c u h := by
  obtain ⟨a, b, ⟨d1, d2⟩, e, f⟩ := hc
  refine ⟨a.fr fun z k hs => hf z k (by unfold MSt at hs; omega), b, ⟨by rw [hf _ _ (by omega), d1], by rw [hf _ _ (by omega), d2]⟩, e, fun j j0 j1 => ⟨(f j j0 j1).1, fun k k0 k1 => by rw [hf _ _ (by omega)]; exact (f j j0 j1).2 k k0 k1⟩⟩
section MLAY
variable {μ : Mem} {c u p : Int} {h : Int → Row}
abbrev mKr (r : Row) (p k : Int) : Int := mK (rO r p 9) (rO r p 7) (rO r p 8) k
theorem laysM_rt (hc : Mc μ c u h) (hp : isPl (h 0) p) : ∃ ν, FX7_laysMeasures 105 p μ = RT 0 ν ∧ (∀ z k, ¬ (z = 108 ∧ 0 ≤ k) → ν z k = μ z k) ∧ ∀ k, 0 ≤ k → k < rQ (h 0) p * rQ (h 0) p → ν 108 k = mKr (h 0) p k := by
  have hr2 := hc.ok.2.1
  have ho := hc.ok.2.2.2.2 p hp.1 hp.2
  have hq := rQ_le ho
  have hN := mul_le_of (a := rQ (h 0) p) (b := rQ (h 0) p) (c := 18) (d := 18) (by omega) hq.2 (by omega) hq.2
  unfold FX7_laysMeasures BX7_laysMeasures_0
  rw [hc.1.k7, square_rt hc hp]
  simp only [CL, ↓CLX_rt]
  refine lpR (fun n k s => LX7_laysMeasures_8 n 105 p (rQ (h 0) p) k s) (fun k ν => 0 ≤ k ∧ (∀ z k, ¬ (z = 108 ∧ 0 ≤ k) → ν z k = μ z k) ∧ ∀ j, 0 ≤ j → j < k → ν 108 j = mKr (h 0) p j) (rQ (h 0) p * rQ (h 0) p) (fun R => ∃ ν, R = RT 0 ν ∧ (∀ z k, ¬ (z = 108 ∧ 0 ≤ k) → ν z k = μ z k) ∧ ∀ k, 0 ≤ k → k < rQ (h 0) p * rQ (h 0) p → ν 108 k = mKr (h 0) p k) (fun n k s k1 hs => ?_) (fun n s hs => ?_) FU 0 μ hN.1 (by rw [show ((FU : Nat) : Int) = 20000 from rfl]; omega) ⟨Int.le_refl _, fun _ _ _ => rfl, fun j j0 j1 => by omega⟩
  · obtain ⟨k0, g1, g2⟩ := hs
    have hc2 : Mc s c u h := hc.fr fun z k hz => g1 z k (by omega)
    have hS2 := hc2.1
    have kk : ¬ rQ (h 0) p * rQ (h 0) p ≤ k := by omega
    have e1 : k.tmod (rQ (h 0) p) = k % rQ (h 0) p := tmod_small k0
    have d0 : 0 ≤ k / rQ (h 0) p := Int.ediv_nonneg k0 (by omega)
    have d1 : k / rQ (h 0) p < rQ (h 0) p := Int.ediv_lt_of_lt_mul (by omega) k1
    have e2 : w32 (k.tdiv (rQ (h 0) p)) = k / rQ (h 0) p := by rw [Int.tdiv_eq_ediv_of_nonneg k0, w32_eq (by omega) (by omega)]
    have m0 := Int.emod_nonneg k (show rQ (h 0) p ≠ 0 by omega)
    have m1 := Int.emod_lt_of_pos k (show 0 < rQ (h 0) p by omega)
    refine ⟨mUp s 108 k (mKr (h 0) p k), ⟨by omega, fun z j hz => by rw [mUp_ne _ _ (by omega)]; exact g1 z j hz, fun j j0 j1 => ?_⟩, ?_⟩
    · by_cases e : j = k
      · rw [e, mUp_same]
      · rw [mUp_ne _ _ (by omega)]
        exact g2 j j0 (by omega)
    · have k7 := @MSh.k7 s hS2
      simp (disch := omega) only [LX7_laysMeasures_8, BX7_laysMeasures_8, ↓w32_eq (z := rQ (h 0) p * rQ (h 0) p), kk, ↓reduceIte, ↓hS2.g7_5, ↓k7, ↓CL, ↓of_rt_c hc2 hp.1 (show p < 4 by omega), ↓RM_of, ↓DV_of, e1, e2]
      rw [measure_rt ⟨ho.1.1, ho.1.2.1⟩ ⟨ho.1.2.2.1, ho.1.2.2.2.1⟩ ho.1.2.2.2.2 ho.2.1 m0 (by omega) d0 (by omega)]
      simp (disch := omega) only [↓CLX_rt, ↓hS2.s108, w32_eq]
      rfl
  · obtain ⟨k0, g1, g2⟩ := hs
    refine ⟨s, ?_, g1, g2⟩
    simp (disch := omega) only [LX7_laysMeasures_8, BX7_laysMeasures_8, w32_eq, Int.le_refl, ↓reduceIte]
theorem mrank_rt (hS : MSh μ) {sh a b k q : Int} (hq : 1 ≤ q ∧ q ≤ 18) (hqe : q = a * a + b * b) (hm : ∀ k, 0 ≤ k → k < q * q → μ 108 k = mK sh a b k) (k0 : 0 ≤ k) (k1 : k < q * q) : FX7_rankOf 105 k q μ = RT (rk sh a b k) μ := by
  have hN := mul_le_of (a := q) (b := q) (c := 18) (d := 18) (by omega) hq.2 (by omega) hq.2
  unfold FX7_rankOf BX7_rankOf_0 rk
  rw [← hqe]
  refine sglS (fun n s x => LX7_rankOf_5 n 105 k q s x μ) (q * q) 1 (fun j => if mK sh a b j < mK sh a b k ∨ (mK sh a b j = mK sh a b k ∧ j < k) then 1 else 0) (fun v => RT v μ) hN.1 (by omega) (by omega) (fun x _ _ => by split <;> omega) (fun n s x x0 x1 s0 s1 g0 g1 => ?_) (fun n s => ?_) FU (by rw [show ((FU : Nat) : Int) = 20000 from rfl]; omega)
  · have kk : ¬ q * q ≤ x := by omega
    have v1 := hm x x0 x1
    have v2 := hm k k0 k1
    simp (disch := omega) only [LX7_rankOf_5, BX7_rankOf_5, BX7_rankOf_52, BX7_rankOf_56, BX7_rankOf_57, ↓w32_eq (z := q * q), kk, ↓reduceIte, ↓hS.g7_5, ↓hS.l108, v1, v2, ↓LT_eq, w32_eq]
    by_cases e1 : mK sh a b x < mK sh a b k
    · rw [if_pos e1, if_pos (Or.inl e1)]
    · rw [if_neg e1]
      by_cases e2 : mK sh a b x = mK sh a b k
      · rw [if_neg (fun z => z e2)]
        by_cases e3 : k ≤ x
        · rw [if_pos e3, if_neg (by omega)]
        · rw [if_neg e3, if_pos (by omega)]
      · rw [if_pos e2, if_neg (by omega)]
  · simp (disch := omega) only [LX7_rankOf_5, BX7_rankOf_5, w32_eq, Int.le_refl, ↓reduceIte]
theorem toneOn_rt (hc : Mc μ c u h) (hp : isPl (h 0) p) {x y : Int} (x0 : 0 ≤ x) (x1 : x < h 0 0) (y0 : 0 ≤ y) (y1 : y < h 0 1) : ∃ ν, FX7_toneOn 105 p x y μ = RT (tnOn (h 0) p x y) ν ∧ ∀ z k, ¬ (z = 109 ∧ 0 ≤ k) → ν z k = μ z k := by
  have hr := hc.ok
  have hr1 := hr.1
  have hr2 := hr.2.1
  have hco := (hr.2.2.2.2 p hp.1 hp.2).2.2.2.2.2.1
  have p4 : p < 4 := by omega
  unfold FX7_toneOn BX7_toneOn_0
  rw [hc.1.k7, of_rt hc hp.1 p4 (by omega) (by omega)]
  simp only [CL, ↓CLX_rt]
  by_cases hn : rO (h 0) p 13 = 0
  · have et : tnOn (h 0) p x y = rT (h 0) x y := by unfold tnOn; rw [if_pos hn]
    refine ⟨μ, ?_, fun _ _ _ => rfl⟩
    rw [if_neg (fun k => k hn), hc.1.k7, mtone_rt hc x0 (by omega) y0 (by omega), et]
    rfl
  rw [if_pos hn]
  have ht : tnOn (h 0) p x y = cl 0 100 (sv (h 0) p x y (rO (h 0) p 13).toNat 0) := by
    unfold tnOn
    rw [if_neg hn]
  rw [ht]
  refine lpR (fun n k (s : Int × Mem) => LX7_toneOn_27 n 105 p x y (rO (h 0) p 13) s.1 k s.2) (fun k s => 0 ≤ k ∧ s.1 = sd (h 0) p k.toNat ∧ (∀ z k, ¬ (z = 109 ∧ 0 ≤ k) → s.2 z k = μ z k) ∧ ∀ i, 0 ≤ i → i < s.1 → s.2 109 i = sv (h 0) p x y k.toNat i) (rO (h 0) p 13) (fun R => ∃ ν, R = RT (cl 0 100 (sv (h 0) p x y (rO (h 0) p 13).toNat 0)) ν ∧ ∀ z k, ¬ (z = 109 ∧ 0 ≤ k) → ν z k = μ z k) (fun n k s k1 hI => ?_) (fun n s hI => ?_) FU 0 (0, μ) hco.1 (by have := hco.2.1; rw [show ((FU : Nat) : Int) = 20000 from rfl]; omega) ⟨Int.le_refl _, rfl, fun _ _ _ => rfl, fun i i0 i1 => by exact absurd i1 (by show ¬ i < 0; omega)⟩
  · obtain ⟨cnt, s⟩ := s
    obtain ⟨k0, hcn, hf, hv⟩ := hI
    have hcn : cnt = sd (h 0) p k.toNat := hcn
    have hf : ∀ z k, ¬ (z = 109 ∧ 0 ≤ k) → s z k = μ z k := hf
    have hv : ∀ i, 0 ≤ i → i < cnt → s 109 i = sv (h 0) p x y k.toNat i := hv
    have hc2 : Mc s c u h := hc.fr fun z k hz => hf z k (by omega)
    have hS2 := hc2.1
    have k7 := @MSh.k7 s hS2
    have ho := hco.2.2.1 k.toNat (by omega)
    rw [Int.toNat_of_nonneg k0] at ho
    have hk1 : (k + 1).toNat = k.toNat + 1 := by omega
    have hk : ¬ rO (h 0) p 13 ≤ k := by omega
    have hk6 : k < 600 := by have := hco.2.1; omega
    have i1 : w32 (26 + w32 (2 * k)) = 26 + 2 * k := by rw [w32_eq (z := 2 * k) (by omega) (by omega), w32_eq (by omega) (by omega)]
    have i2 : w32 (w32 (26 + w32 (2 * k)) + 1) = 26 + 2 * k + 1 := by rw [i1, w32_eq (by omega) (by omega)]
    have q1 : ∀ (K : Int → Mem → Rz) (X : Int → Int → Mem → Rz), CLX (FX7_of 105 p (w32 (26 + w32 (2 * k))) s) K X = K (cOp (h 0) p k) s := fun K X => by rw [i1, of_rt hc2 hp.1 p4 (by omega) (by omega)]; rfl
    have q2 : ∀ (K : Int → Mem → Rz) (X : Int → Int → Mem → Rz), CLX (FX7_of 105 p (w32 (w32 (26 + w32 (2 * k)) + 1)) s) K X = K (cV (h 0) p k) s := fun K X => by rw [i2, of_rt hc2 hp.1 p4 (by omega) (by omega)]; rfl
    have hsd : sd (h 0) p (k.toNat + 1) = if cOp (h 0) p k ≤ 1 then sd (h 0) p k.toNat + 1 else sd (h 0) p k.toNat - 1 := by
      rw [sd, Int.toNat_of_nonneg k0]
    by_cases ho1 : cOp (h 0) p k ≤ 1
    · rw [if_pos ho1] at hsd
      have hle : cnt < 11 := by omega
      have hct : 0 ≤ cnt := by omega
      have hop : ¬ 1 < cOp (h 0) p k := by omega
      refine ⟨(cnt + 1, mUp s 109 cnt (val (cOp (h 0) p k) (cV (h 0) p k) (rT (h 0) x y) x y p)), ⟨by omega, ?_, fun z j hj => ?_, fun i i0 i1 => ?_⟩, ?_⟩
      · show cnt + 1 = _
        rw [hk1, hsd, hcn]
      · show mUp s 109 cnt _ z j = _
        rw [mUp_ne _ _ (by omega)]
        exact hf z j hj
      · show mUp s 109 cnt _ 109 i = _
        have i1 : i < cnt + 1 := i1
        rw [hk1, sv, Int.toNat_of_nonneg k0, if_pos ho1, ← hcn]
        by_cases e : i = cnt
        · rw [if_pos e, e, mUp_same]
        · rw [if_neg e, mUp_ne _ _ (by omega)]
          exact hv i i0 (by omega)
      · unfold val
        by_cases e0 : cOp (h 0) p k = 0
        · simp (disch := omega) only [LX7_toneOn_27, BX7_toneOn_27, BX7_toneOn_126, BX7_toneOn_257, hk, ↓reduceIte, ↓k7, ↓CL, ↓q1, ↓q2, (by decide : ¬ (1 : Int) < 0), ↓hS2.g7_6, e0, not_true_eq_false, ↓hS2.s109, w32_eq]
        · have hvr := ho.2.2.1 (by omega)
          rcases (show cV (h 0) p k = 0 ∨ cV (h 0) p k = 1 ∨ cV (h 0) p k = 2 ∨ cV (h 0) p k = 3 by omega) with e | e | e | e
          · simp (disch := omega) only [LX7_toneOn_27, BX7_toneOn_27, BX7_toneOn_126, BX7_toneOn_257, hk, ↓reduceIte, ↓k7, ↓CL, ↓q1, ↓q2, hop, ↓hS2.g7_6, e0, e, not_true_eq_false, not_false_eq_true, ↓mtone_rt_c hc2 x0 (show x < 16 by omega) y0 (show y < 12 by omega), ↓hS2.s109, w32_eq]
          · simp (disch := omega) only [LX7_toneOn_27, BX7_toneOn_27, BX7_toneOn_126, BX7_toneOn_257, hk, ↓reduceIte, ↓k7, ↓CL, ↓q1, ↓q2, hop, ↓hS2.g7_6, e0, e, not_true_eq_false, not_false_eq_true, (by decide : ¬ (1 : Int) = 0), ↓hS2.s109, w32_eq]
          · simp (disch := omega) only [LX7_toneOn_27, BX7_toneOn_27, BX7_toneOn_126, BX7_toneOn_257, hk, ↓reduceIte, ↓k7, ↓CL, ↓q1, ↓q2, hop, ↓hS2.g7_6, e0, e, not_true_eq_false, not_false_eq_true, (by decide : ¬ (2 : Int) = 0), (by decide : ¬ (2 : Int) = 1), ↓hS2.s109, w32_eq]
          · simp (disch := omega) only [LX7_toneOn_27, BX7_toneOn_27, BX7_toneOn_126, BX7_toneOn_257, hk, ↓reduceIte, ↓k7, ↓CL, ↓q1, ↓q2, hop, ↓hS2.g7_6, e0, e, not_true_eq_false, not_false_eq_true, (by decide : ¬ (3 : Int) = 0), (by decide : ¬ (3 : Int) = 1), (by decide : ¬ (3 : Int) = 2), ↓hS2.s109, w32_eq]
    · have h2 := ho.2.2.2.1 (by omega)
      rw [if_neg ho1] at hsd
      have hc11 : cnt ≤ 11 := by
        by_cases hk0 : k = 0
        · subst hk0
          have : sd (h 0) p (0 : Int).toNat = 0 := rfl
          omega
        · have := (hco.2.2.1 (k.toNat - 1) (by omega)).2.2.2.2.2
          rw [show k.toNat - 1 + 1 = k.toNat by omega] at this
          omega
      have hop : 1 < cOp (h 0) p k := by omega
      have v1 := hv (cnt - 2) (by omega) (by omega)
      have v2 := hv (cnt - 1) (by omega) (by omega)
      have l1 := sv_le (x := x) (y := y) hr hp.1 hp.2 x0 x1 y0 y1 k.toNat (by omega) (cnt - 2)
      have l2 := sv_le (x := x) (y := y) hr hp.1 hp.2 x0 x1 y0 y1 k.toNat (by omega) (cnt - 1)
      have w1 : w32 (cnt + -1) = cnt - 1 := by rw [w32_eq (by omega) (by omega)]; omega
      have w2 : w32 (w32 (cnt + -1) - 1) = cnt - 2 := by rw [w1, w32_eq (by omega) (by omega)]; omega
      refine ⟨(cnt - 1, mUp s 109 (cnt - 2) (opv (cOp (h 0) p k) (s 109 (cnt - 2)) (s 109 (cnt - 1)))), ⟨by omega, ?_, fun z j hj => ?_, fun i i0 i1 => ?_⟩, ?_⟩
      · show cnt - 1 = _
        rw [hk1, hsd, hcn]
      · show mUp s 109 (cnt - 2) _ z j = _
        rw [mUp_ne _ _ (by omega)]
        exact hf z j hj
      · show mUp s 109 (cnt - 2) _ 109 i = _
        have i1 : i < cnt - 1 := i1
        rw [hk1, sv, Int.toNat_of_nonneg k0, if_neg ho1, ← hcn, v1, v2]
        by_cases e : i = cnt - 2
        · rw [if_pos e, e, mUp_same]
        · rw [if_neg e, mUp_ne _ _ (by omega)]
          exact hv i i0 (by omega)
      · rw [← v1] at l1
        rw [← v2] at l2
        have hm := mul_abs (show (0 : Int) ≤ 1000000 by omega) l1.1 l1.2 l2.1 l2.2
        have hdv := tdiv_abs (b := s 109 (cnt - 1)) l1.1 l1.2
        have hend : ∀ z : Int, BX7_toneOn_214 (fun y0 y1 y2 y3 y4 y5 y6 ν => LX7_toneOn_27 n y0 y1 y2 y3 y4 y5 y6 ν) 105 p x y (rO (h 0) p 13) (cnt - 1) k z s = LX7_toneOn_27 n 105 p x y (rO (h 0) p 13) (cnt - 1) (k + 1) (mUp s 109 (cnt - 2) (cl (-1000000) 1000000 z)) := fun z => by
          unfold BX7_toneOn_214 BX7_toneOn_256 BX7_toneOn_257
          simp only [cLong_le, cLong_ge]
          rw [hS2.g7_6, show w32 (cnt - 1 - 1) = cnt - 2 by rw [w32_eq (by omega) (by omega)]; omega]
          unfold cl
          by_cases e1 : z ≤ 1000000
          · rw [if_pos e1]
            by_cases e2 : -1000000 ≤ z
            · rw [if_pos e2, hS2.s109 (by omega) (by omega), w32_eq (by omega) (by omega), if_neg (by omega), if_neg (by omega)]
            · rw [if_neg e2, hS2.s109 (by omega) (by omega), w32_eq (by omega) (by omega), if_pos (by omega)]
          · rw [if_neg e1, hS2.s109 (by omega) (by omega), w32_eq (by omega) (by omega), if_neg (by omega), if_pos (by omega)]
        unfold opv
        simp (disch := omega) only [LX7_toneOn_27, BX7_toneOn_27, hk, ↓reduceIte, ↓k7, ↓CL, ↓q1, ↓q2, hop, ↓hS2.g7_6, ↓w2, ↓w1, ↓hS2.l109, cLong_z]
        rcases (show cOp (h 0) p k = 2 ∨ cOp (h 0) p k = 3 ∨ cOp (h 0) p k = 4 ∨ cOp (h 0) p k = 5 by omega) with e | e | e | e
        · rw [e]
          simp (disch := omega) only [↓reduceIte, not_true_eq_false, w64_eq]
          exact hend _
        · rw [e]
          simp (disch := omega) only [↓reduceIte, not_true_eq_false, not_false_eq_true, (by decide : ¬ (3 : Int) = 2), w64_eq]
          exact hend _
        · rw [e]
          simp (disch := omega) only [↓reduceIte, not_true_eq_false, not_false_eq_true, (by decide : ¬ (4 : Int) = 2), (by decide : ¬ (4 : Int) = 3), w64_eq]
          exact hend _
        · rw [e]
          simp (disch := omega) only [↓reduceIte, not_true_eq_false, not_false_eq_true, (by decide : ¬ (5 : Int) = 2), (by decide : ¬ (5 : Int) = 3), (by decide : ¬ (5 : Int) = 4)]
          by_cases ez : s 109 (cnt - 1) = 0
          · simp only [ez, ↓reduceIte, not_true_eq_false]
            exact hend _
          · simp only [ez, ↓reduceIte, not_false_eq_true]
            rw [LD_of ez, w64_eq (by omega) (by omega)]
            exact hend _
  · obtain ⟨cnt, s⟩ := s
    obtain ⟨k0, hcn, hf, hv⟩ := hI
    have hcn : cnt = sd (h 0) p (rO (h 0) p 13).toNat := hcn
    have hf : ∀ z k, ¬ (z = 109 ∧ 0 ≤ k) → s z k = μ z k := hf
    have hv : ∀ i, 0 ≤ i → i < cnt → s 109 i = sv (h 0) p x y (rO (h 0) p 13).toNat i := hv
    have hc2 : Mc s c u h := hc.fr fun z k hz => hf z k (by omega)
    have hS2 := hc2.1
    have h1 := hco.2.2.2 (by omega)
    have v0 := hv 0 (by omega) (by omega)
    refine ⟨s, ?_, hf⟩
    simp (disch := omega) only [LX7_toneOn_27, BX7_toneOn_27, BX7_toneOn_303, Int.le_refl, ↓reduceIte, ↓hS2.g7_6, ↓hS2.l109, v0, cLong_le, cLong_ge]
    unfold cl
    by_cases e1 : 0 ≤ sv (h 0) p x y (rO (h 0) p 13).toNat 0
    · rw [if_pos e1]
      by_cases e2 : sv (h 0) p x y (rO (h 0) p 13).toNat 0 ≤ 100
      · rw [if_pos e2, if_neg (by omega), if_neg (by omega), w32_eq (by omega) (by omega)]
      · rw [if_neg e2, if_neg (by omega), if_pos (by omega)]
    · rw [if_neg e1, if_pos (by omega)]
end MLAY
