/-! the law's screen: its measures, its making, its ranks -/
section SCR
variable {μ ν ξ : Mem} {c q s a b sh x y j k z i dx dy o e cap : Int} {l m ids ks : List Int} {P : Int → Prop}
theorem ab_18 {r p : Int} (h0 : 0 ≤ r) (h1 : r < p) (h2 : p ≤ 18) : 0 ≤ ab (2 * r - p) ∧ ab (2 * r - p) ≤ 18 := by
  unfold ab
  split <;> omega
theorem measure_rt (hs : Sc8 μ s a b sh dx dy o) (ha : 0 ≤ a ∧ a ≤ 3) (hb : 0 ≤ b ∧ b ≤ 3) (hab : 0 < a + b) (hsh : 0 ≤ sh ∧ sh ≤ 3) (x0 : 0 ≤ x) (x1 : x ≤ 17) (y0 : 0 ≤ y) (y1 : y ≤ 17) : FX8_measure s x y μ = RT (mAt sh a b x y) μ := by
  obtain ⟨⟨a0, a1, a2⟩, ⟨b0, b1, b3, b4⟩, c0, c1, c2⟩ := hs
  have hp := sq_pos ha hb hab
  have m1 := mul_le_of ha.1 ha.2 x0 x1
  have m2 := mul_le_of hb.1 hb.2 y0 y1
  have m3 := mul_le_of ha.1 ha.2 y0 y1
  have m4 := mul_le_of hb.1 hb.2 x0 x1
  unfold mAt
  generalize hq : a * a + b * b = p at *
  have r1 := Int.emod_nonneg (a * x + b * y) (show p ≠ 0 by omega)
  have r2 := Int.emod_lt_of_pos (a * x + b * y) (show 0 < p by omega)
  have r3 := Int.emod_nonneg (a * y - b * x) (show p ≠ 0 by omega)
  have r4 := Int.emod_lt_of_pos (a * y - b * x) (show 0 < p by omega)
  have s1 := ab_18 r1 r2 hp.2
  have s2 := ab_18 r3 r4 hp.2
  unfold FX8_measure BX8_measure_0
  rw [GF_go a2 b0, GF_go a2 b1, GF_go a2 b3, w32_eq (z := a * x) (by omega) (by omega), w32_eq (z := b * y) (by omega) (by omega), w32_eq (z := a * x + b * y) (by omega) (by omega), floorMod_rt (by unfold i32; omega) (by unfold i32; omega) (by omega)]
  simp only [CL, CLX_rt]
  rw [GF_go a2 b3, w32_eq (z := 2 * ((a * x + b * y) % p)) (by omega) (by omega), w32_eq (z := 2 * ((a * x + b * y) % p) - p) (by omega) (by omega), abs_rt (by omega) (by omega)]
  simp only [CLX_rt]
  rw [GF_go a2 b0, GF_go a2 b1, GF_go a2 b3, w32_eq (z := a * y) (by omega) (by omega), w32_eq (z := b * x) (by omega) (by omega), w32_eq (z := a * y - b * x) (by omega) (by omega), floorMod_rt (by unfold i32; omega) (by unfold i32; omega) (by omega)]
  simp only [CLX_rt]
  rw [GF_go a2 b3, w32_eq (z := 2 * ((a * y - b * x) % p)) (by omega) (by omega), w32_eq (z := 2 * ((a * y - b * x) % p) - p) (by omega) (by omega), abs_rt (by omega) (by omega)]
  simp only [CLX_rt]
  rw [GF_go a2 b4]
  generalize ab (2 * ((a * x + b * y) % p) - p) = u at s1 ⊢
  generalize ab (2 * ((a * y - b * x) % p) - p) = v at s2 ⊢
  have t1 := mul_le_of s1.1 s1.2 s1.1 s1.2
  have t2 := mul_le_of s2.1 s2.2 s2.1 s2.2
  rw [w32_eq (z := u * u) (by omega) (by omega), w32_eq (z := v * v) (by omega) (by omega), w32_eq (z := u * u + v * v) (by omega) (by omega), w32_eq (z := u + v) (by omega) (by omega)]
  unfold mShape SW
  by_cases q0 : sh = 0
  · rw [if_pos q0, if_pos q0]
  · rw [if_neg q0, if_neg q0]
    unfold SW
    by_cases q1 : sh = 1
    · rw [if_pos (by omega), if_pos q1]
    · rw [if_neg (by omega), if_neg q1]
      unfold SW
      by_cases q2 : sh = 2
      · rw [if_pos (by omega), if_pos q2]
      · rw [if_neg (by omega), if_neg q2]
        unfold SW BX8_measure_121 mx
        by_cases q3 : u ≤ v
        · rw [if_pos q3]
          by_cases q4 : u < v
          · rw [if_pos q4]
          · rw [if_neg q4, show u = v by omega]
        · rw [if_neg q3, if_neg (by omega)]
/-- the places come column by column: how many are in the order, and that all of them are -/
def BldI (μ0 : Mem) (s a b sh : Int) (x y : Int) (μ : Mem) : Prop := ∃ o e cap ids ks, Sc8 μ s a b sh 0 0 o ∧ Al μ o e cap ids ∧ Ord μ sh a b ids ks ∧ (ks.length : Int) = x * (a * a + b * b) + y ∧ (∀ f, Sm ks f = su2 (fun y' x' => f (y' * (a * a + b * b) + x')) (a * a + b * b) x + su (fun y' => f (y' * (a * a + b * b) + x)) y) ∧ (o ≤ μ0 0 3 ∧ (e ≤ μ0 0 3 ∨ e = -1)) ∧ FrL (1 + 2 * (x * (a * a + b * b) + y)) (3 + 603 * (x * (a * a + b * b) + y)) (fun z => z = s) μ0 μ
theorem place_of {p : Int} (hp : 0 < p) (x0 : 0 ≤ x) (x1 : x < p) (y0 : 0 ≤ y) : (y * p + x) % p = x ∧ (y * p + x) / p = y := by
  rw [Int.add_comm, Int.add_mul_emod_self_right, Int.add_mul_ediv_right _ _ (by omega), Int.emod_eq_of_lt x0 x1, Int.ediv_eq_zero_of_lt x0 x1]
  omega
theorem newPlace_rt (hz : μ 0 3 < z ∧ z < -21) (h1 : μ z (-1) = 8) : ∃ ν, FX7_init z x y i μ = RT 0 ν ∧ Pla ν z x y i ∧ FrL 0 0 (fun w => w = z) μ ν := by
  refine ⟨mUp (mUp (mUp μ z 0 x) z 1 y) z 2 i, ?_, ⟨⟨hz.2, ?_, ?_⟩, ?_, ?_, mUp_same _ _ _ _⟩, ?_⟩
  · unfold FX7_init BX7_init_0
    rw [if_pos hz.2, PF_l hz.2 h1, PF_l hz.2 (by rw [mUp_ne _ _ (by omega)]; exact h1), PF_l hz.2 (by rw [mUp_ne _ _ (by omega), mUp_ne _ _ (by omega)]; exact h1)]
  · rw [mUp_ne _ _ (by omega), mUp_ne _ _ (by omega), mUp_ne _ _ (by omega)]; exact hz.1
  · rw [mUp_ne _ _ (by omega), mUp_ne _ _ (by omega), mUp_ne _ _ (by omega)]; exact h1
  · rw [mUp_ne _ _ (by omega), mUp_ne _ _ (by omega), mUp_same]
  · rw [mUp_ne _ _ (by omega), mUp_same]
  · have f1 := (FrL.up (μ := μ) (a := z) (k := 0) (w := x) (P := fun w => w = z) (by omega) (by omega) rfl).tr (Q := fun w => w = z) (FrL.up (μ := mUp μ z 0 x) (a := z) (k := 1) (w := y) (P := fun w => w = z) (by omega) (by omega) rfl) (fun _ _ _ e => e) (fun _ _ _ e => e)
    have f2 := f1.tr (Q := fun w => w = z) (FrL.up (μ := mUp (mUp μ z 0 x) z 1 y) (a := z) (k := 2) (w := i) (P := fun w => w = z) (by omega) (by omega) rfl) (fun _ _ _ e => e) (fun _ _ _ e => e)
    simpa using f2
/-- one place more -/
theorem bld_step {μ0 : Mem} (h0 : 0 < μ0 0 0) (hsn : μ0 0 3 < s) (ha : 0 ≤ a ∧ a ≤ 3) (hb : 0 ≤ b ∧ b ≤ 3) (hab : 0 < a + b) (hsh : 0 ≤ sh ∧ sh ≤ 3) (x0 : 0 ≤ x) (x1 : x < a * a + b * b) (y0 : 0 ≤ y) (y1 : y < a * a + b * b) (hI : BldI μ0 s a b sh x y μ) (k44 : Int → Int → Mem → Rz) (n : Nat) : ∃ ν, BldI μ0 s a b sh x (y + 1) ν ∧ LX8_init_56 k44 (n + 1) s x y μ = LX8_init_56 k44 n s x (y + 1) ν := by
  obtain ⟨o, e, cap, ids, ks, hs, hA, hO, hlen, hS, ho, f⟩ := hI
  have hp := sq_pos ha hb hab
  have hpl := place_of (p := a * a + b * b) (by omega) y0 y1 x0
  have hpl2 := place_of (p := a * a + b * b) (by omega) x0 x1 y0
  have hj1 := cell_lt (w := a * a + b * b) (h := a * a + b * b) (x := x) (y := y)
  have hyp : (y + 1) * (a * a + b * b) ≤ (a * a + b * b) * (a * a + b * b) := Int.mul_le_mul_of_nonneg_right (by omega) (by omega)
  have hxp : (x + 1) * (a * a + b * b) ≤ (a * a + b * b) * (a * a + b * b) := Int.mul_le_mul_of_nonneg_right (by omega) (by omega)
  have hy0 : 0 ≤ y * (a * a + b * b) := Int.mul_nonneg y0 (by omega)
  have hx0 : 0 ≤ x * (a * a + b * b) := Int.mul_nonneg x0 (by omega)
  have hpp := mul_le_of (show 0 ≤ a * a + b * b by omega) hp.2 (show 0 ≤ a * a + b * b by omega) hp.2
  rw [Int.add_mul, Int.one_mul] at hyp hxp
  have hmK : mK sh a b (y * (a * a + b * b) + x) = mAt sh a b x y := by
    unfold mK
    rw [hpl2.1, hpl2.2]
  have hs1 := hs.1
  have h00 := f.2.1
  have h03 := f.2.2.1
  obtain ⟨μ1, e1, ⟨g1, g2⟩, g4, f1⟩ := NWn_go (μ := μ) (ci := 7) (sz := 3) (by omega)
  have hs2 := hs.fr f1 id
  have hA2 := hA.fr f1 id id
  have hO2 := hO.fr f1 (fun _ _ => id)
  have em := measure_rt (x := x) (y := y) hs2 ha hb hab hsh x0 (by omega) y0 (by omega)
  obtain ⟨μ2, e2, hP, f2⟩ := newPlace_rt (μ := μ1) (z := μ 0 3) (x := x) (y := y) (i := mAt sh a b x y) (by omega) g1
  have hk : ∀ w t : Int, μ1 w (-1) = t → t ≠ 8 → w ≠ μ 0 3 := fun w t h h2 h3 => by
    rw [h3] at h
    omega
  have hs3 := hs2.fr f2 (hk _ _ hs2.1.2.2 (by omega))
  have hA3 := hA2.fr f2 (hk _ _ hA2.1.2.2.1 (by omega)) (hk _ _ hA2.2.2.1.2.1 (by omega))
  have hO3 : Ord μ2 sh a b ids ks := ⟨hO2.1, fun k k0 k1 => ⟨(hO2.2.1 k k0 k1).1.fr f2 (fun w => by have := (hO.2.1 k k0 k1).1.1.2.1; omega), (hO2.2.1 k k0 k1).2⟩, hO2.2.2⟩
  have hnin : ∀ k : Int, 0 ≤ k → k < ks.length → gt ks k ≠ y * (a * a + b * b) + x := fun k k0 k1 hk => by
    have h1 := hS (fun i => if i = y * (a * a + b * b) + x then (1 : Int) else 0)
    have h2 : su2 (fun y' x' => if y' * (a * a + b * b) + x' = y * (a * a + b * b) + x then (1 : Int) else 0) (a * a + b * b) x = 0 := by
      rw [su2_ext (g := fun _ _ => 0) (fun y' x' a1 a2 a3 a4 => if_neg (fun e => by have := (cell_inj a3 (by omega) x0 x1 e).1; omega))]
      unfold su2
      have : ∀ n : Int, su (fun _ => (0 : Int)) n = 0 := fun n => sm_zero _
      simp only [this]
    have h3 : su (fun y' => if y' * (a * a + b * b) + x = y * (a * a + b * b) + x then (1 : Int) else 0) y = 0 := by
      rw [su_ext (g := fun _ => 0) (fun y' a1 a2 => if_neg (fun e => by have := (cell_inj x0 x1 x0 x1 e).2; omega))]
      exact sm_zero _
    rw [h2, h3, Sm_su] at h1
    have h4 := su_mono (f := fun i => if gt ks i = y * (a * a + b * b) + x then (1 : Int) else 0) (n := k + 1) (m := ks.length) (by omega) (by omega) (fun i i0 i1 => by split <;> omega)
    rw [su_s _ k0, if_pos hk] at h4
    have h5 := (su_le (f := fun i => if gt ks i = y * (a * a + b * b) + x then (1 : Int) else 0) (n := k) (B := 1) k0 (fun i i0 i1 => by split <;> omega)).1
    omega
  obtain ⟨ν, ids', ks', e', cap', e3, hA4, hO4, hl4, hS4, he4, f3⟩ := comes_rt (z := μ 0 3) (j := y * (a * a + b * b) + x) hs3 (by have := f1.2.1; have := f2.2.1; omega) (by omega) hA3 hO3 (by rw [hpl2.1, hpl2.2, hmK]; exact hP) (by omega) (by omega) hnin (by omega)
  have hso : s ≠ o := fun e => by have q1 := hs.1.2.2; have q2 := hA.1.2.2.1; rw [e] at q1; omega
  have hse : s ≠ e := fun e => by have q1 := hs.1.2.2; have q2 := hA.2.2.1.2.1; rw [e] at q1; omega
  have hs4 := hs3.fr f3 (fun w => by omega)
  have r1 := f1.2.2.1
  have r2 := f2.2.2.1
  refine ⟨ν, ⟨o, e', cap', ids', ks', hs4, hA4, hO4, by omega, fun f => ?_, ⟨ho.1, ?_⟩, ?_⟩, ?_⟩
  · rw [hS4, hS, su_s _ y0]
    omega
  · rcases he4 with w | w
    · rw [w]; exact ho.2
    · left; omega
  · have fa := ((f.tr (Q := fun z => z = s) f1 (fun _ _ _ w => w) (fun _ _ _ w => w.elim)).tr (Q := fun z => z = s) f2 (fun _ _ _ w => w) (fun z _ hz w => by omega)).tr (Q := fun z => z = s) f3 (fun _ _ _ w => w) (fun z z0 hz w => by
      rcases w with w | w
      · omega
      · rcases ho.2 with h | h
        · omega
        · omega)
    exact fa.le (by omega) (by omega) (fun _ _ _ w => w)
  · show BX8_init_56 k44 _ s x y μ = _
    unfold BX8_init_56
    rw [GF_go hs.1.2.2 hs.2.1.2.2.1, if_neg (by omega), e1, KD_go hs2.1.2.2, em]
    simp only [CL, CLX_rt]
    rw [KD_go g1, e2]
    simp only [CLX_rt]
    rw [KD_go hs3.1.2.2, e3]
    simp only [CLX_rt]
    rw [w32_eq (by omega) (by omega)]
end SCR
