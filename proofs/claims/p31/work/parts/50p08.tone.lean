/-! the tones of a plate -/
theorem Crv.fr {μ ν : Mem} {q : Int} {r : Row} {p : Int} (h : Crv μ q r p) (h2 : ∀ a k, 105 ≤ a → a < μ 0 0 → ν a k = μ a k) (h3 : μ 0 0 ≤ ν 0 0) : Crv ν q r p := by
  obtain ⟨⟨a1, a2, a3⟩, ⟨b1, b2, b3, b4⟩, d⟩ := h
  have e := h2 q 0 a1 a2
  refine ⟨⟨a1, by omega, by rw [h2 q _ a1 a2, a3]⟩, ⟨by omega, by omega, by rw [e, h2 _ _ b1 b2, b3], by rw [e, h2 _ _ b1 b2, b4]⟩, fun k k0 k1 => by rw [e, h2 _ _ b1 b2, d k k0 k1]⟩
theorem Plt.fr {μ ν : Mem} {z z' : Int} {r : Row} {p : Int} (h : Plt μ z r p) (h1 : ∀ k, 0 ≤ k → k < 8 → ν z' k = μ z k) (h2 : ∀ a k, 105 ≤ a → a < μ 0 0 → ν a k = μ a k) (h3 : μ 0 0 ≤ ν 0 0) : Plt ν z' r p := by
  obtain ⟨a, ⟨b1, b2, b3⟩, ⟨c1, c2, c3⟩, d, e⟩ := h
  refine ⟨by rw [h1 _ (by omega) (by omega), a], ⟨by rw [h1 _ (by omega) (by omega), b1], by rw [h1 _ (by omega) (by omega), b2], by rw [h1 _ (by omega) (by omega), b3]⟩, ⟨by rw [h1 _ (by omega) (by omega), c1], by rw [h1 _ (by omega) (by omega), c2], by rw [h1 _ (by omega) (by omega), c3]⟩, fun q => by rw [h1 _ (by omega) (by omega), d q], fun q => by rw [h1 _ (by omega) (by omega)]; exact (e q).fr h2 h3⟩
theorem Sht.fr {μ ν : Mem} {c : Int} {r : Row} (hr : okRow r) (h : Sht μ c r) (h1 : ∀ a k, 25 + 8 * c ≤ a → a ≤ 32 + 8 * c → 0 ≤ k → ν a k = μ a k) (h2 : ∀ a k, 105 ≤ a → a < μ 0 0 → ν a k = μ a k) (h3 : μ 0 0 ≤ ν 0 0) : Sht ν c r := by
  obtain ⟨⟨a1, a2, a3, a4⟩, b, d, e⟩ := h
  have hr1 := hr.1
  have hr2 := hr.2.1
  refine ⟨⟨by rw [h1 _ _ (by omega) (by omega) (by omega), a1], by rw [h1 _ _ (by omega) (by omega) (by omega), a2], by rw [h1 _ _ (by omega) (by omega) (by omega), a3], by rw [h1 _ _ (by omega) (by omega) (by omega), a4]⟩, fun x y x0 x1 y0 y1 => ?_, fun x y x0 x1 y0 y1 => ?_, fun p p0 p1 => ?_⟩
  · have hc := cell_lt (show r 0 ≤ 16 by omega) (show r 1 ≤ 12 by omega) x0 x1 y0 y1
    rw [h1 _ _ (by omega) (by omega) hc.2.2.1]
    exact b x y x0 x1 y0 y1
  · have hc := cell_lt (show r 0 ≤ 16 by omega) (show r 1 ≤ 12 by omega) x0 x1 y0 y1
    rw [h1 _ _ (by omega) (by omega) hc.2.2.1]
    exact d x y x0 x1 y0 y1
  · exact (e p p0 p1).fr (fun k k0 k1 => h1 _ _ (by omega) (by omega) k0) h2 h3
theorem mul_abs {a b N : Int} (h0 : 0 ≤ N) (a0 : -N ≤ a) (a1 : a ≤ N) (b0 : -N ≤ b) (b1 : b ≤ N) : -(N * N) ≤ a * b ∧ a * b ≤ N * N := by
  have h1 : (a * b).natAbs = a.natAbs * b.natAbs := Int.natAbs_mul a b
  have h2 : a.natAbs * b.natAbs ≤ N.toNat * N.toNat := Nat.mul_le_mul (by omega) (by omega)
  have h3 : ((N.toNat * N.toNat : Nat) : Int) = N * N := by
    rw [Int.natCast_mul, Int.toNat_of_nonneg h0]
  omega
theorem tdiv_abs {a b N : Int} (a0 : -N ≤ a) (a1 : a ≤ N) : -N ≤ a.tdiv b ∧ a.tdiv b ≤ N := by
  have h1 : (a.tdiv b).natAbs = a.natAbs / b.natAbs := Int.natAbs_tdiv a b
  have h2 : a.natAbs / b.natAbs ≤ a.natAbs := Nat.div_le_self _ _
  omega
section TONE
variable {μ : Mem} {c p x y : Int} {r : Row}
theorem operand_rt {op v tn : Int} (h : (op = 0 ∧ 0 ≤ v) ∨ (op = 1 ∧ 0 ≤ v ∧ v ≤ 3)) : FX0_operand (itm op v) tn x y p μ = RT (val op v tn x y p) μ := by
  unfold FX0_operand BX0_operand_0 itm val
  rcases h with ⟨rfl, h0⟩ | ⟨rfl, h0, h1⟩
  · rw [if_pos rfl, if_pos rfl, SW_c, if_neg (by omega), SW_c, if_neg (by omega), SW_c, if_neg (by omega), SW_c, if_neg (by omega), SW_n]
  · rcases (show v = 0 ∨ v = 1 ∨ v = 2 ∨ v = 3 by omega) with rfl | rfl | rfl | rfl <;> rfl
theorem operand_rt_c {op v tn : Int} (h : (op = 0 ∧ 0 ≤ v) ∨ (op = 1 ∧ 0 ≤ v ∧ v ≤ 3)) {K : Int → Mem → Rz} {X : Int → Int → Mem → Rz} : CLX (FX0_operand (itm op v) tn x y p μ) K X = K (val op v tn x y p) μ := by
  rw [operand_rt h]
  rfl
theorem result_rt {op v a b : Int} (h0 : 2 ≤ op) (h1 : op ≤ 5) (a0 : -1000000 ≤ a) (a1 : a ≤ 1000000) (b0 : -1000000 ≤ b) (b1 : b ≤ 1000000) : FX0_result (itm op v) a b μ = RT (opv op a b) μ := by
  have hm := mul_abs (show (0 : Int) ≤ 1000000 by omega) a0 a1 b0 b1
  have hd := tdiv_abs (b := b) a0 a1
  have e : itm op v = -3 - op := by
    unfold itm
    rw [if_neg (by omega), if_neg (by omega)]
  rw [e]
  unfold FX0_result BX0_result_0 BX0_result_81 opv
  rcases (show op = 2 ∨ op = 3 ∨ op = 4 ∨ op = 5 by omega) with rfl | rfl | rfl | rfl
  · rw [SW_c, if_neg (by omega), SW_c, if_neg (by omega), SW_c, if_pos (by omega), w64_eq (by omega) (by omega), if_pos rfl]
    exact limited_rt_c (by omega) (by omega) (by omega)
  · rw [SW_c, if_neg (by omega), SW_c, if_pos (by omega), w64_eq (by omega) (by omega), if_neg (by omega), if_pos rfl]
    exact limited_rt_c (by omega) (by omega) (by omega)
  · rw [SW_c, if_pos (by omega), w64_eq (by omega) (by omega), if_neg (by omega), if_neg (by omega), if_pos rfl]
    exact limited_rt_c (by omega) (by omega) (by omega)
  · rw [SW_c, if_neg (by omega), SW_c, if_neg (by omega), SW_c, if_neg (by omega), SW_n]
    simp only [cLong_z, (by decide : ¬ (5 : Int) = 2), (by decide : ¬ (5 : Int) = 3), (by decide : ¬ (5 : Int) = 4), ↓reduceIte]
    by_cases hb : b = 0
    · rw [if_neg (fun h => h hb), if_pos hb]
      rfl
    · rw [if_pos hb, if_neg hb, LD_of hb, w64_eq (by omega) (by omega)]
      exact limited_rt_c (by omega) (by omega) (by omega)
theorem result_rt_c {op v a b : Int} (h0 : 2 ≤ op) (h1 : op ≤ 5) (a0 : -1000000 ≤ a) (a1 : a ≤ 1000000) (b0 : -1000000 ≤ b) (b1 : b ≤ 1000000) {K : Int → Mem → Rz} {X : Int → Int → Mem → Rz} : CLX (FX0_result (itm op v) a b μ) K X = K (opv op a b) μ := by
  rw [result_rt h0 h1 a0 a1 b0 b1]
  rfl
theorem sv_le (hr : okRow r) (p0 : 0 ≤ p) (p1 : p < r 2) (x0 : 0 ≤ x) (x1 : x < r 0) (y0 : 0 ≤ y) (y1 : y < r 1) : ∀ k : Nat, (k : Int) ≤ rO r p 13 → ∀ i, -1000000 ≤ sv r p x y k i ∧ sv r p x y k i ≤ 1000000
  | 0, _, i => by
    show (-1000000 : Int) ≤ 0 ∧ (0 : Int) ≤ 1000000
    omega
  | k + 1, hk, i => by
    have ih := sv_le hr p0 p1 x0 x1 y0 y1 k (by omega) i
    have ho := ((hr.2.2.2.2 p p0 p1).2.2.2.2.2.1).2.2.1 k (by omega)
    have ht := hr.2.2.2.1 x y x0 x1 y0 y1
    have hr1 := hr.1
    have hr2 := hr.2.1
    rw [sv]
    split
    · split
      · unfold val
        split
        · rename_i h1 h2 h3
          have := ho.2.1 h3
          omega
        · split
          · omega
          · split
            · omega
            · split <;> omega
      · exact ih
    · split
      · exact cl_le (by omega)
      · exact ih
/-- a curve's value at a cell -/
theorem toneAt_rt (hS : CSh μ) {q : Int} (hr : okRow r) (p0 : 0 ≤ p) (p1 : p < r 2) (hn : rO r p 13 ≠ 0) (hC : Crv μ q r p) (x0 : 0 ≤ x) (x1 : x < r 0) (y0 : 0 ≤ y) (y1 : y < r 1) : ∃ ν, FX0_toneAt q 14 (rT r x y) x y p μ = RT (tnOn r p x y) ν ∧ ∀ z k, ¬ (z = 14 ∧ 0 ≤ k) → ν z k = μ z k := by
  obtain ⟨⟨a1, a2, a3⟩, ⟨b1, b2, b3, b4⟩, d⟩ := hC
  have hco := (hr.2.2.2.2 p p0 p1).2.2.2.2.2.1
  have ht : tnOn r p x y = cl 0 100 (sv r p x y (rO r p 13).toNat 0) := by
    unfold tnOn
    rw [if_neg hn]
  rw [ht]
  unfold FX0_toneAt BX0_toneAt_0
  rw [GF_of (by rw [a3]; rfl), LN_of (t := 1) (by rw [b3]; rfl) b4]
  refine lpR (fun n k (s : Int × Mem) => LX0_toneAt_17 n 14 (rT r x y) x y p s.1 (μ q 0) (rO r p 13) k s.2) (fun k s => 0 ≤ k ∧ s.1 = sd r p k.toNat ∧ (∀ z k, ¬ (z = 14 ∧ 0 ≤ k) → s.2 z k = μ z k) ∧ ∀ i, 0 ≤ i → i < s.1 → s.2 14 i = sv r p x y k.toNat i) (rO r p 13) (fun R => ∃ ν, R = RT (cl 0 100 (sv r p x y (rO r p 13).toNat 0)) ν ∧ ∀ z k, ¬ (z = 14 ∧ 0 ≤ k) → ν z k = μ z k) (fun n k s k1 hI => ?_) (fun n s hI => ?_) FU 0 (0, μ) hco.1 (by have := hco.2.1; rw [show ((FU : Nat) : Int) = 20000 from rfl]; omega) ⟨Int.le_refl _, rfl, fun _ _ _ => rfl, fun i i0 i1 => by exact absurd i1 (by show ¬ i < 0; omega)⟩
  · obtain ⟨cnt, s⟩ := s
    obtain ⟨k0, hc, hf, hv⟩ := hI
    have hc : cnt = sd r p k.toNat := hc
    have hf : ∀ z k, ¬ (z = 14 ∧ 0 ≤ k) → s z k = μ z k := hf
    have hv : ∀ i, 0 ≤ i → i < cnt → s 14 i = sv r p x y k.toNat i := hv
    have hS2 : CSh s := hS.fr fun z j hj => hf z j (by unfold CSt at hj; omega)
    have ho := hco.2.2.1 k.toNat (by omega)
    rw [Int.toNat_of_nonneg k0] at ho
    have hk1 : (k + 1).toNat = k.toNat + 1 := by omega
    have hk : ¬ rO r p 13 ≤ k := by omega
    have hk6 : k < 600 := by have := hco.2.1; omega
    have hit : s (μ q 0) k = itm (cOp r p k) (cV r p k) := by rw [hf _ _ (by omega), d k k0 k1]
    have hal : ∀ K : Int → Rz, AL 1 (μ q 0) k s K = K (itm (cOp r p k) (cV r p k)) := fun K => by
      rw [AL_of (n := rO r p 13) (by rw [hf _ _ (by omega), b3]; rfl) (by rw [hf _ _ (by omega), b4]) k0 k1, hit]
    have hsd : sd r p (k.toNat + 1) = if cOp r p k ≤ 1 then sd r p k.toNat + 1 else sd r p k.toNat - 1 := by
      rw [sd, Int.toNat_of_nonneg k0]
    by_cases ho1 : cOp r p k ≤ 1
    · have hi : ¬ itm (cOp r p k) (cV r p k) ≤ -5 := by
        unfold itm
        rcases (show cOp r p k = 0 ∨ cOp r p k = 1 by omega) with h | h
        · rw [if_pos h]
          have := ho.2.1 h
          omega
        · rw [if_neg (by omega), if_pos h]
          have := ho.2.2.1 h
          omega
      rw [if_pos ho1] at hsd
      have hop : (cOp r p k = 0 ∧ 0 ≤ cV r p k) ∨ (cOp r p k = 1 ∧ 0 ≤ cV r p k ∧ cV r p k ≤ 3) := by
        rcases (show cOp r p k = 0 ∨ cOp r p k = 1 by omega) with h | h
        · exact Or.inl ⟨h, (ho.2.1 h).1⟩
        · exact Or.inr ⟨h, ho.2.2.1 h⟩
      have hle : ¬ 11 ≤ cnt := by omega
      have hct : 0 ≤ cnt := by omega
      refine ⟨(cnt + 1, mUp s 14 cnt (val (cOp r p k) (cV r p k) (rT r x y) x y p)), ⟨by omega, ?_, fun z j hj => ?_, fun i i0 i1 => ?_⟩, ?_⟩
      · show cnt + 1 = _
        rw [hk1, hsd, hc]
      · show mUp s 14 cnt _ z j = _
        rw [mUp_ne _ _ (by omega)]
        exact hf z j hj
      · show mUp s 14 cnt _ 14 i = _
        have i1 : i < cnt + 1 := i1
        rw [hk1, sv, Int.toNat_of_nonneg k0, if_pos ho1, ← hc]
        by_cases e : i = cnt
        · rw [if_pos e, e, mUp_same]
        · rw [if_neg e, mUp_ne _ _ (by omega)]
          exact hv i i0 (by show i < cnt; omega)
      · simp (disch := omega) only [LX0_toneAt_17, BX0_toneAt_17, BX0_toneAt_105, hk, ↓reduceIte, ↓hal, hi, ↓hS2.n14, hle, ↓CL, ↓operand_rt_c hop, ↓hS2.s14, w32_eq]
    · have h2 := ho.2.2.2.1 (by omega)
      have hi : itm (cOp r p k) (cV r p k) ≤ -5 := by
        unfold itm
        rw [if_neg (by omega), if_neg (by omega)]
        omega
      rw [if_neg ho1] at hsd
      have hdep := ho.2.2.2.2.2
      have hle : ¬ cnt < 2 := by omega
      have hct : cnt ≤ 12 := by omega
      have hc11 : cnt ≤ 11 := by
        by_cases hk0 : k = 0
        · subst hk0
          have : sd r p (0 : Int).toNat = 0 := rfl
          omega
        · have := (hco.2.2.1 (k.toNat - 1) (by omega)).2.2.2.2.2
          rw [show k.toNat - 1 + 1 = k.toNat by omega] at this
          omega
      have hle2 : ¬ 11 < cnt := by omega
      have v1 := hv (cnt - 2) (by omega) (by show cnt - 2 < cnt; omega)
      have v2 := hv (cnt - 1) (by omega) (by show cnt - 1 < cnt; omega)
      have v1 : s 14 (cnt - 2) = sv r p x y k.toNat (cnt - 2) := v1
      have v2 : s 14 (cnt - 1) = sv r p x y k.toNat (cnt - 1) := v2
      have l1 := sv_le (x := x) (y := y) hr p0 p1 x0 x1 y0 y1 k.toNat (by omega) (cnt - 2)
      have l2 := sv_le (x := x) (y := y) hr p0 p1 x0 x1 y0 y1 k.toNat (by omega) (cnt - 1)
      have w1 : w32 (cnt + -1) = cnt - 1 := by rw [w32_eq (by omega) (by omega)]; omega
      have w2 : w32 (w32 (cnt + -1) - 1) = cnt - 2 := by rw [w1, w32_eq (by omega) (by omega)]; omega
      refine ⟨(cnt - 1, mUp s 14 (cnt - 2) (opv (cOp r p k) (s 14 (cnt - 2)) (s 14 (cnt - 1)))), ⟨by omega, ?_, fun z j hj => ?_, fun i i0 i1 => ?_⟩, ?_⟩
      · show cnt - 1 = _
        rw [hk1, hsd, hc]
      · show mUp s 14 (cnt - 2) _ z j = _
        rw [mUp_ne _ _ (by omega)]
        exact hf z j hj
      · show mUp s 14 (cnt - 2) _ 14 i = _
        have i1 : i < cnt - 1 := i1
        rw [hk1, sv, Int.toNat_of_nonneg k0, if_neg ho1, ← hc, v1, v2]
        by_cases e : i = cnt - 2
        · rw [if_pos e, e, mUp_same]
        · rw [if_neg e, mUp_ne _ _ (by omega)]
          exact hv i i0 (by show i < cnt; omega)
      · rw [← v1] at l1
        rw [← v2] at l2
        simp (disch := omega) only [LX0_toneAt_17, BX0_toneAt_17, BX0_toneAt_105, hk, ↓reduceIte, ↓hal, hi, ↓hS2.n14, hle, hle2, ↓w2, ↓w1, ↓hS2.l14, ↓CL, ↓result_rt_c (v := cV r p k) (show 2 ≤ cOp r p k by omega) ho.1.2 l1.1 l1.2 l2.1 l2.2, ↓hS2.s14, w32_eq]
  · obtain ⟨cnt, s⟩ := s
    obtain ⟨k0, hc, hf, hv⟩ := hI
    have hc : cnt = sd r p (rO r p 13).toNat := hc
    have hf : ∀ z k, ¬ (z = 14 ∧ 0 ≤ k) → s z k = μ z k := hf
    have hv : ∀ i, 0 ≤ i → i < cnt → s 14 i = sv r p x y (rO r p 13).toNat i := hv
    have hS2 : CSh s := hS.fr fun z j hj => hf z j (by unfold CSt at hj; omega)
    have h1 := hco.2.2.2 (by omega)
    have hcp : 1 ≤ cnt := by omega
    have v0 := hv 0 (by omega) (by show 0 < cnt; omega)
    have v0 : s 14 0 = sv r p x y (rO r p 13).toNat 0 := v0
    refine ⟨s, ?_, hf⟩
    simp (disch := omega) only [LX0_toneAt_17, BX0_toneAt_17, BX0_toneAt_131, Int.le_refl, ↓reduceIte, hcp, ↓hS2.l14, ↓CL, ↓limited_rt_c, v0]
end TONE

