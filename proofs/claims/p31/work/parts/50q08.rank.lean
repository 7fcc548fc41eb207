/-! a screen of the law, made; its ranks -/
/-- a screen with all its places in their order; none of its own cells but the places is one of X -/
def Scn (μ : Mem) (X : Int → Prop) (s a b sh dx dy : Int) : Prop := ∃ o e cap ids ks, Sc8 μ s a b sh dx dy o ∧ Al μ o e cap ids ∧ Ord μ sh a b ids ks ∧ (∀ f, Sm ks f = su f ((a * a + b * b) * (a * a + b * b))) ∧ (ks.length : Int) = (a * a + b * b) * (a * a + b * b) ∧ ((0 ≤ a ∧ a ≤ 3) ∧ (0 ≤ b ∧ b ≤ 3) ∧ 0 < a + b ∧ (0 ≤ sh ∧ sh ≤ 3)) ∧ ¬ X s ∧ ¬ X o ∧ ¬ X e
/-- all that the law made stays -/
def NgF (μ ν : Mem) : Prop := (∀ z k, z < 0 → ν z k = μ z k) ∧ ν 0 3 = μ 0 3
section SCM
variable {μ ν ξ : Mem} {c q s a b sh x y j k z i dx dy o e cap : Int} {l m ids ks : List Int} {P X X' : Int → Prop}
theorem Pla.ng {m : Int} (h : Pla μ z x y m) (f : NgF μ ν) : Pla ν z x y m := by
  obtain ⟨⟨a0, a1, a2⟩, b0, b1, b2⟩ := h
  have r : ∀ k, ν z k = μ z k := fun k => f.1 z k (by omega)
  exact ⟨⟨a0, by have := f.2; omega, by rw [r]; exact a2⟩, by rw [r]; exact b0, by rw [r]; exact b1, by rw [r]; exact b2⟩
theorem Ord.ng (h : Ord μ sh a b ids ks) (f : NgF μ ν) : Ord ν sh a b ids ks := ⟨h.1, fun k k0 k1 => ⟨(h.2.1 k k0 k1).1.ng f, (h.2.1 k k0 k1).2⟩, h.2.2⟩
theorem Elt.ng (h : Elt μ z) (f : NgF μ ν) : Elt ν z := ⟨h.1, by have := f.2; have := h.2.1; omega, by have h0 := h.1; rw [f.1 z (-1) (by omega)]; exact h.2.2⟩
theorem Al.ng (h : Al μ a e cap l) (f : NgF μ ν) : Al ν a e cap l := by
  obtain ⟨⟨a0, a1, a2, a3, a4⟩, b, ⟨b1, b2, b3⟩, d, q⟩ := h
  have r : ∀ z k, z < 0 → ν z k = μ z k := f.1
  have g := f.2
  have he : e < 0 := by omega
  exact ⟨⟨a0, by omega, by rw [r _ _ (by omega)]; exact a2, by rw [r _ _ (by omega)]; exact a3, by rw [r _ _ (by omega)]; exact a4⟩, b, ⟨by omega, by rw [r _ _ he]; exact b2, by rw [r _ _ he]; exact b3⟩, d, fun k k0 k1 => ⟨by rw [r _ _ he]; exact (q k k0 k1).1, (q k k0 k1).2.ng f⟩⟩
theorem Sc8.ng (h : Sc8 μ s a b sh dx dy o) (f : NgF μ ν) : Sc8 ν s a b sh dx dy o := by
  obtain ⟨⟨a0, a1, a2⟩, ⟨b0, b1, b2, b3⟩, c0, c1, c2⟩ := h
  have r : ∀ k, ν s k = μ s k := fun k => f.1 s k (by omega)
  exact ⟨⟨a0, by have := f.2; omega, by rw [r]; exact a2⟩, ⟨by rw [r]; exact b0, by rw [r]; exact b1, by rw [r]; exact b2, by rw [r]; exact b3⟩, by rw [r]; exact c0, by rw [r]; exact c1, by rw [r]; exact c2⟩
theorem Scn.ng (h : Scn μ X s a b sh dx dy) (f : NgF μ ν) : Scn ν X s a b sh dx dy := by
  obtain ⟨o, e, cap, ids, ks, h1, h2, h3, h4⟩ := h
  exact ⟨o, e, cap, ids, ks, h1.ng f, h2.ng f, h3.ng f, h4⟩
/-- written is only what is in X, or of another kind -/
theorem Scn.fr (h : Scn μ X s a b sh dx dy) (f : FrL c q P μ ν) (hP : ∀ z, P z → X z ∨ (μ z (-1) ≠ 9 ∧ μ z (-1) ≠ 12 ∧ μ z (-1) ≠ 22)) (hP8 : ∀ z, P z → μ z (-1) ≠ 8) : Scn ν X s a b sh dx dy := by
  obtain ⟨o, e, cap, ids, ks, h1, h2, h3, h4, h5, h6, x1, x2, x3⟩ := h
  refine ⟨o, e, cap, ids, ks, h1.fr f (fun w => ?_), h2.fr f (fun w => ?_) (fun w => ?_), h3.fr f (fun z hz w => hP8 z w hz), h4, h5, h6, x1, x2, x3⟩
  · rcases hP _ w with g | g
    · exact x1 g
    · exact g.1 h1.1.2.2
  · rcases hP _ w with g | g
    · exact x2 g
    · exact g.2.1 h2.1.2.2.1
  · rcases hP _ w with g | g
    · exact x3 g
    · exact g.2.2 h2.2.2.1.2.1
theorem Scn.wk (h : Scn μ X s a b sh dx dy) (hX : ∀ z, z ≠ 0 → μ 0 3 < z → X' z → X z) : Scn μ X' s a b sh dx dy := by
  obtain ⟨o, e, cap, ids, ks, h1, h2, h3, h4, h5, h6, x1, x2, x3⟩ := h
  have q1 := h1.1
  have q2 := h2.1
  have q3 := h2.2.2.1.1
  have q4 := h2.2.1
  exact ⟨o, e, cap, ids, ks, h1, h2, h3, h4, h5, h6, fun w => x1 (hX _ (by omega) (by omega) w), fun w => x2 (hX _ (by omega) (by omega) w), fun w => x3 (hX _ (by omega) (by omega) w)⟩
theorem bld_all {μ0 : Mem} (h0 : 0 < μ0 0 0) (hsn : μ0 0 3 < s) (ha : 0 ≤ a ∧ a ≤ 3) (hb : 0 ≤ b ∧ b ≤ 3) (hab : 0 < a + b) (hsh : 0 ≤ sh ∧ sh ≤ 3) (hI : BldI μ0 s a b sh 0 0 μ) : ∃ ν, LX8_init_44 FU s 0 μ = RT 0 ν ∧ BldI μ0 s a b sh (a * a + b * b) 0 ν := by
  have hp := sq_pos ha hb hab
  have hgo := dblR (fun n x0 x4 ν => LX8_init_44 n x0 x4 ν) (fun k σ x => k s x σ) (fun k n σ x y => LX8_init_56 k n s x y σ) (a * a + b * b) (a * a + b * b) (fun y x σ => BldI μ0 s a b sh x y σ) (fun R => ∃ ν, R = RT 0 ν ∧ BldI μ0 s a b sh (a * a + b * b) 0 ν) (by omega) (by omega) (fun n σ x x0 x1 hs => ?_) (fun n σ hs => ?_) (fun k n σ x y x0 x1 y0 y1 hs => ?_) (fun k n σ x x0 x1 hs => ?_) FU 0 μ (Int.le_refl _) (by omega) (by rw [show ((FU : Nat) : Int) = 20000 from rfl]; omega) hI
  · exact hgo
  · obtain ⟨o, e, cap, ids, ks, hs, -⟩ := hs
    show BX8_init_44 _ s x σ = _
    unfold BX8_init_44
    rw [GF_go hs.1.2.2 hs.2.1.2.2.1, if_neg (by omega)]
  · refine ⟨σ, ?_, hs⟩
    obtain ⟨o, e, cap, ids, ks, hs, -⟩ := hs
    show BX8_init_44 _ s (a * a + b * b) σ = _
    unfold BX8_init_44
    rw [GF_go hs.1.2.2 hs.2.1.2.2.1, if_pos (Int.le_refl _)]
  · obtain ⟨ν, g1, g2⟩ := bld_step h0 hsn ha hb hab hsh x0 x1 y0 y1 hs k n
    exact ⟨ν, g1, g2⟩
  · refine ⟨?_, ?_⟩
    · obtain ⟨o, e, cap, ids, ks, h1, h2, h3, h4, h5, h6, h7⟩ := hs
      have ex : (x + 1) * (a * a + b * b) + 0 = x * (a * a + b * b) + (a * a + b * b) := by rw [Int.add_mul, Int.one_mul, Int.add_zero]
      refine ⟨o, e, cap, ids, ks, h1, h2, h3, by rw [ex]; exact h4, fun f => ?_, h6, by rw [ex]; exact h7⟩
      rw [h5 f, su_0, Int.add_zero]
      unfold su2
      rw [← su_swap, ← su_swap, su_s _ x0]
    · obtain ⟨o, e, cap, ids, ks, hs, -⟩ := hs
      show BX8_init_56 k _ s x (a * a + b * b) σ = _
      unfold BX8_init_56
      rw [GF_go hs.1.2.2 hs.2.1.2.2.1, if_pos (Int.le_refl _), w32_eq (by omega) (by omega)]
theorem scr_rt (hE : Em μ) (h0 : 0 < μ 0 0) (hs : μ 0 3 < s ∧ s < -21) (h1 : μ s (-1) = 9) (h2 : ∀ k, 0 ≤ k → μ s k = 0) (ha : 0 ≤ a ∧ a ≤ 3) (hb : 0 ≤ b ∧ b ≤ 3) (hab : 0 < a + b) (hsh : 0 ≤ sh ∧ sh ≤ 3) : ∃ ν, FX8_init s a b sh μ = RT 0 ν ∧ Scn ν (fun z => μ 0 3 < z ∧ z ≠ s) s a b sh 0 0 ∧ FrL 700 200000 (fun z => z = s) μ ν := by
  have hp := sq_pos ha hb hab
  have hsq := w32_sq ha hb
  obtain ⟨μ1, e1, ⟨g1, g2⟩, g4, f1⟩ := NWn_go (μ := μ) (ci := 11) (sz := 3) (by omega)
  have hE1 := hE.fr f1 (by omega)
  obtain ⟨μ2, e2, hA, f2⟩ := alInit_rt hE1 (a := μ 0 3) (by omega) (by omega) g1 g2
  have r : ∀ k, μ2 s k = μ s k := fun k => by rw [f2.1 _ _ (by omega) (by omega) (fun w => by omega), f1.1 _ _ (by omega) (by omega) (fun w => w.2)]
  have hso : s ≠ μ 0 3 := by omega
  have u1 := FrL.up (μ := μ2) (a := s) (k := 6) (w := μ 0 3) (P := fun z => z = s) (by omega) (by omega) rfl
  have u2 := u1.tr (Q := fun z => z = s) (FrL.up (μ := mUp μ2 s 6 (μ 0 3)) (a := s) (k := 0) (w := a) (P := fun z => z = s) (by omega) (by omega) rfl) (fun _ _ _ w => w) (fun _ _ _ w => w)
  have u3 := u2.tr (Q := fun z => z = s) (FrL.up (μ := mUp (mUp μ2 s 6 (μ 0 3)) s 0 a) (a := s) (k := 1) (w := b) (P := fun z => z = s) (by omega) (by omega) rfl) (fun _ _ _ w => w) (fun _ _ _ w => w)
  have u4 := u3.tr (Q := fun z => z = s) (FrL.up (μ := mUp (mUp (mUp μ2 s 6 (μ 0 3)) s 0 a) s 1 b) (a := s) (k := 3) (w := sh) (P := fun z => z = s) (by omega) (by omega) rfl) (fun _ _ _ w => w) (fun _ _ _ w => w)
  have u5 := u4.tr (Q := fun z => z = s) (FrL.up (μ := mUp (mUp (mUp (mUp μ2 s 6 (μ 0 3)) s 0 a) s 1 b) s 3 sh) (a := s) (k := 2) (w := a * a + b * b) (P := fun z => z = s) (by omega) (by omega) rfl) (fun _ _ _ w => w) (fun _ _ _ w => w)
  have hA5 := hA.fr u5 (fun w => by omega) (fun w => by omega)
  have hk5 : mUp (mUp (mUp (mUp (mUp μ2 s 6 (μ 0 3)) s 0 a) s 1 b) s 3 sh) s 2 (a * a + b * b) s (-1) = 9 := by
    simp (disch := omega) only [mUp_ne, r, h1]
  have r3 := f1.2.2.1
  have r4 := f2.2.2.1
  have r5 := u5.2.2.1
  have hI : BldI μ s a b sh 0 0 (mUp (mUp (mUp (mUp (mUp μ2 s 6 (μ 0 3)) s 0 a) s 1 b) s 3 sh) s 2 (a * a + b * b)) := by
    refine ⟨μ 0 3, -1, 0, [], [], ⟨⟨hs.2, by omega, hk5⟩, ⟨?_, ?_, mUp_same _ _ _ _, ?_⟩, ?_, ?_, ?_⟩, hA5, ⟨rfl, fun k k0 k1 => by simp at k1; omega, fun i k i0 i1 k1 => by simp at k1; omega⟩, by simp, fun f => ?_, ⟨Int.le_refl _, Or.inr rfl⟩, ?_⟩
    · simp (disch := omega) only [mUp_ne, mUp_same]
    · simp (disch := omega) only [mUp_ne, mUp_same]
    · simp (disch := omega) only [mUp_ne, mUp_same]
    · simp (disch := omega) only [mUp_ne, r, h2]
    · simp (disch := omega) only [mUp_ne, r, h2]
    · simp (disch := omega) only [mUp_ne, mUp_same]
    · show 0 = su2 _ _ 0 + su _ 0
      rw [su_0]
      rfl
    · exact ((f1.tr (Q := fun z => z = s) f2 (fun _ _ _ w => w.elim) (fun z _ hz w => by omega)).tr (Q := fun z => z = s) u5 (fun _ _ _ w => w) (fun _ _ _ w => w)).le (by omega) (by omega) (fun _ _ _ w => w)
  obtain ⟨ν, e5, o, e, cap, ids, ks, i1, i2, i3, i4, i5, i6, i7⟩ := bld_all h0 hs.1 ha hb hab hsh hI
  have hpp := mul_le_of (show 0 ≤ a * a + b * b by omega) hp.2 (show 0 ≤ a * a + b * b by omega) hp.2
  refine ⟨ν, ?_, ⟨o, e, cap, ids, ks, i1, i2, i3, fun f => ?_, by rw [i4, Int.add_zero], ⟨ha, hb, hab, hsh⟩, fun w => w.2 rfl, fun w => by omega, fun w => ?_⟩, i7.le (by omega) (by omega) (fun _ _ _ w => w)⟩
  · unfold FX8_init BX8_init_0
    rw [if_pos hs.2, e1, KD_go g1, e2]
    simp only [CL, CLX_rt]
    rw [w32_eq (z := a * a) (by omega) (by omega), w32_eq (z := b * b) (by omega) (by omega), w32_eq (by omega) (by omega), PF_l hs.2 (by simp (disch := omega) only [mUp_ne, r, h1]; rfl), PF_l hs.2 (by simp (disch := omega) only [mUp_ne, r, h1]; rfl), PF_l hs.2 (by simp (disch := omega) only [mUp_ne, r, h1]; rfl), PF_l hs.2 (by simp (disch := omega) only [mUp_ne, r, h1]; rfl), PF_l hs.2 (by simp (disch := omega) only [mUp_ne, r, h1]; rfl), e5]
  · have hrows := su2_rows f (w := a * a + b * b) (by omega) (a * a + b * b).toNat
    rw [Int.toNat_of_nonneg (by omega)] at hrows
    rw [i5 f, su_0, Int.add_zero, hrows]
    exact su_swap
  · have := i2.1
    have q1 := i2.2.2.2.1
    have q2 := i2.2.1
    have q3 : ids.length = ks.length := i3.1
    have q4 : 0 < (a * a + b * b) * (a * a + b * b) := Int.mul_pos (by omega) (by omega)
    rcases i6.2 with h | h
    · omega
    · omega
end SCM
