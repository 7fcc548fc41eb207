/-! a StringBuilder in the making, its String, a String's bytes -/
section SBC
variable {μ ν ξ : Mem} {c s b v cap x y n : Int} {l m : List Int} {P : Int → Prop}
theorem bC_b {z : Int} (h : 0 ≤ z ∧ z < 128) : bC z = z := by
  have : ∀ n : Fin 128, bC ((n.val : Nat) : Int) = ((n.val : Nat) : Int) := by decide +kernel
  have h2 := this ⟨z.toNat, by omega⟩
  have e : ((z.toNat : Nat) : Int) = z := by omega
  rw [← e]
  exact h2
theorem sbInit_rt (h3 : μ 0 3 < b) (b0 : b < -21) (b1 : μ b (-1) = 11) (b2 : ∀ k, 0 ≤ k → μ b k = 0) : ∃ ν, FJ4_init_da8c8 b μ = RT 0 ν ∧ Sb ν b (μ 0 3) 16 [] ∧ FrL 1 16 (fun z => z = b) μ ν := by
  obtain ⟨μ1, e1, ⟨g1, g2, g3⟩, g4, f⟩ := NAn_go (μ := μ) (t := 0) (len := 16) (by omega) (by omega) (by omega)
  have q1 : μ1 b (-1) = 11 := by rw [f.kind (by omega) h3 (by omega)]; exact b1
  have q2 : ∀ k, μ1 b k = μ b k := fun k => f.1 _ _ (by omega) h3 (fun e => e.2)
  refine ⟨mUp (mUp μ1 b 0 (μ 0 3)) b 1 0, ?_, ⟨⟨b0, ?_, ?_, ?_, ?_, ?_⟩, ⟨by omega, ?_, ?_, ?_⟩, ⟨by simp, by omega⟩, fun k k0 k1 => ?_, fun k k0 k1 => ?_⟩, ?_⟩
  · unfold FJ4_init_da8c8 BJ4_init_da8c8_0 FJ5_init_d00df BJ5_init_d00df_0 BJ5_init_d00df_38
    rw [KD_go b1, if_pos b0, if_neg (by decide), e1, PF_l b0 q1, PB_l b0 (by rw [mUp_ne _ _ (by omega)]; exact q1) (Or.inl rfl)]
    rfl
  · rw [mUp_ne _ _ (by omega), mUp_ne _ _ (by omega)]; omega
  · rw [mUp_ne _ _ (by omega), mUp_ne _ _ (by omega)]; exact q1
  · rw [mUp_ne _ _ (by omega), mUp_same]
  · rw [mUp_same]
  · rw [mUp_ne _ _ (by omega), mUp_ne _ _ (by omega), q2, b2 _ (by omega)]; rfl
  · rw [mUp_ne _ _ (by omega), mUp_ne _ _ (by omega)]; omega
  · rw [mUp_ne _ _ (by omega), mUp_ne _ _ (by omega)]; exact g1
  · rw [mUp_ne _ _ (by omega), mUp_ne _ _ (by omega)]; exact g2
  · rw [mUp_ne _ _ (by omega), mUp_ne _ _ (by omega), g3 k k0]; omega
  · simp at k1; omega
  · have a1 := f.tr (Q := fun z => z = b) (FrL.up (μ := μ1) (a := b) (k := 0) (w := μ 0 3) (P := fun z => z = b) (by omega) (by omega) rfl) (fun _ _ _ e => e.elim) (fun _ _ _ e => e)
    have a2 := a1.tr (Q := fun z => z = b) (FrL.up (μ := mUp μ1 b 0 (μ 0 3)) (a := b) (k := 1) (w := 0) (P := fun z => z = b) (by omega) (by omega) rfl) (fun _ _ _ e => e) (fun _ _ _ e => e)
    exact a2.le (by omega) (by omega) (fun _ _ _ e => e)
theorem CLN_go (h3 : μ 0 3 < -21) (v0 : v < -21) (k1 : μ v (-1) = 20) (k2 : μ v (-2) = cap) (c0 : 0 ≤ cap) (hb : ∀ j, 0 ≤ j → j < cap → -128 ≤ μ v j ∧ μ v j < 128) : (∀ K, CLN v μ K = K (μ 0 3) (mCln μ v)) ∧ (∀ k, mCln μ v (μ 0 3) k = μ v k) ∧ mCln μ v 0 3 = μ 0 3 - 1 ∧ FrL 1 cap NoP μ (mCln μ v) := by
  have ha : (List.range (μ v (-2)).toNat).all (fun j => isB (μ v j)) = true := by
    rw [List.all_eq_true]
    intro j hj
    have hj := List.mem_range.mp hj
    exact decide_eq_true (hb j (by omega) (by omega))
  refine ⟨fun K => if_pos ⟨⟨h3, Or.inr v0⟩, k1, by omega, ha⟩, fun k => if_pos rfl, ?_, ⟨fun z k h0 h1 h2 => ?_, ?_, ?_, ?_, ?_⟩⟩
  · unfold mCln
    rw [if_neg (by omega), if_pos (by omega)]
  · unfold mCln
    rw [if_neg (by omega), if_neg (by omega), if_neg (by omega), if_neg (by omega)]
  · unfold mCln
    rw [if_neg (by omega), if_neg (by omega), if_neg (by omega), if_neg (by omega)]
  · unfold mCln
    rw [if_neg (by omega), if_pos (by omega)]
    omega
  · unfold mCln
    rw [if_neg (by omega), if_neg (by omega), if_pos (by omega)]
    omega
  · unfold mCln
    rw [if_neg (by omega), if_neg (by omega), if_neg (by omega), if_pos (by omega)]
    omega
theorem copyRange_rt (h3 : μ 0 3 < -21) (v0 : v < -21) (v1 : μ 0 3 < v) (k1 : μ v (-1) = 20) (k2 : μ v (-2) = cap) (n0 : 0 ≤ n) (n1 : n ≤ cap) (c1 : cap ≤ 1000) (hb : ∀ j, 0 ≤ j → j < cap → -128 ≤ μ v j ∧ μ v j < 128) : ∃ ν, FJ7_copyOfRange_39247 v 0 n μ = RT (μ 0 3) ν ∧ (ν (μ 0 3) (-1) = 20 ∧ ν (μ 0 3) (-2) = n) ∧ (∀ j, 0 ≤ j → j < n → ν (μ 0 3) j = μ v j) ∧ ν 0 3 = μ 0 3 - 1 ∧ FrL 1 n NoP μ ν := by
  by_cases hq : n = cap
  · obtain ⟨e1, g1, g2, f⟩ := CLN_go h3 v0 k1 k2 (by omega) hb
    refine ⟨mCln μ v, ?_, ⟨by rw [g1]; exact k1, by rw [g1, k2, hq]⟩, fun j j0 j1 => g1 j, g2, by rw [hq]; exact f⟩
    unfold FJ7_copyOfRange_39247 BJ7_copyOfRange_39247_0
    rw [if_neg (by omega), LN_of k1 k2, if_pos hq, e1, KD_go (by rw [g1]; exact k1)]
  · obtain ⟨μ1, e1, ⟨g1, g2, g3⟩, g4, f⟩ := NAn_go (t := 0) h3 (len := n) (by omega) (by omega)
    have q1 : μ1 v (-1) = 20 := by rw [f.kind (by omega) v1 (by omega)]; exact k1
    have q2 : μ1 v (-2) = cap := by rw [f.kind (by omega) v1 (by omega)]; exact k2
    have q3 : ∀ j, μ1 v j = μ v j := fun j => f.1 _ _ (by omega) v1 (fun e => e.2)
    have hmn : mn cap n = n := by unfold mn; rw [if_pos (by omega)]
    refine ⟨mCpy μ1 v 0 (μ 0 3) 0 n, ?_, ⟨by rw [cpy_ne (by omega)]; exact g1, by rw [cpy_ne (by omega)]; exact g2⟩, fun j j0 j1 => ?_, by rw [cpy_ne (by omega)]; exact g4, ?_⟩
    · unfold FJ7_copyOfRange_39247 BJ7_copyOfRange_39247_0 BJ7_copyOfRange_39247_10 FJ7_copyOfRangeByte_39247 BJ7_copyOfRangeByte_39247_0 FJ7_checkLength_df160 BJ7_checkLength_df160_0
      rw [if_neg (by omega), LN_of k1 k2, if_neg hq, if_pos n0]
      simp only [CL, CLX_rt, LT_eq, Int.sub_zero]
      rw [w32_eq (z := n) (by omega) (by omega), e1, LN_of q1 q2, w32_eq (z := cap) (by omega) (by omega), min_rt, hmn]
      simp only [CLX_rt]
      rw [ACK_of (m1 := cap) (m2 := n) h3 q1 g1 q2 g2 (by omega) (by omega) n0 (by omega) (by omega) (fun j j0 j1 => by rw [q3, Int.zero_add]; exact hb j j0 (by omega))]
      rfl
    · rw [cpy_at j0 (by omega), q3]
      congr 1
      omega
    · have h9 : FrL 1 n (fun z => z = μ 0 3) μ (mCpy μ1 v 0 (μ 0 3) 0 n) := by
        have := f.tr (Q := fun z => z = μ 0 3) (FrL.cpy (μ := μ1) (src := v) (dst := μ 0 3) (sp := 0) (dp := 0) (n := n) (P := fun z => z = μ 0 3) (by omega) (by omega) rfl) (fun _ _ _ e => e.elim) (fun _ _ _ e => e)
        simpa using this
      exact h9.le (by omega) (by omega) (fun z _ h e => by omega)
theorem sbStr_rt (h : Sb μ b v cap l) (h0 : 0 < μ 0 0) (hl : (l.length : Int) ≤ 300) : ∃ ν y, FJ4_toString_0e30d b μ = RT (μ 0 3) ν ∧ Str ν (μ 0 3) y l ∧ y < μ 0 3 ∧ FrL 2 606 NoP μ ν := by
  obtain ⟨⟨a0, a1, a2, a3, a4, a5⟩, ⟨b0, b1, b2, b3⟩, ⟨d0, d1⟩, d2, e⟩ := id h
  obtain ⟨μ1, e1, ⟨g1, g2⟩, g4, f⟩ := NWn_go (μ := μ) (ci := 9) (sz := 4) (by omega)
  have h1 : Sb μ1 b v cap l := h.fr f id id
  have hbs : b ≠ μ 0 3 := by omega
  have f2 := FrL.up (μ := μ1) (a := μ 0 3) (k := 1) (w := 0) (P := fun z => z = μ 0 3) (by omega) (by omega) rfl
  have h2 : Sb (mUp μ1 (μ 0 3) 1 0) b v cap l := h1.fr f2 hbs (by omega)
  have r3 : mUp μ1 (μ 0 3) 1 0 0 3 = μ 0 3 - 1 := by rw [mUp_ne _ _ (by omega)]; exact g4
  obtain ⟨μ3, e3, ⟨i1, i2⟩, i3, i4, f3⟩ := copyRange_rt (μ := mUp μ1 (μ 0 3) 1 0) (v := v) (cap := cap) (n := l.length) (by omega) (by omega) (by omega) h2.2.1.2.2.1 h2.2.1.2.2.2 (by omega) d0 (by omega) h2.2.2.2.1
  rw [r3] at e3 i1 i2 i3 i4
  have q0 : ∀ k, μ3 (μ 0 3) k = mUp μ1 (μ 0 3) 1 0 (μ 0 3) k := fun k => f3.1 _ _ (by omega) (by omega) (fun e => e.2)
  have q1 : μ3 (μ 0 3) (-1) = 10 := by rw [q0, mUp_ne _ _ (by omega)]; exact g1
  have q2 : μ3 (μ 0 3) 1 = 0 := by rw [q0, mUp_same]
  refine ⟨mUp μ3 (μ 0 3) 0 (μ 0 3 - 1), μ 0 3 - 1, ?_, ⟨⟨?_, by omega, ?_, ?_, ?_⟩, ⟨?_, by omega, ?_, ?_⟩, hl, fun k k0 k1 => ?_⟩, by omega, ?_⟩
  · have ei : FJ0_init_db425 (μ 0 3) b 0 μ1 = RT 0 (mUp μ3 (μ 0 3) 0 (μ 0 3 - 1)) := by
      unfold FJ0_init_db425 BJ0_init_db425_0 BJ0_init_db425_97 FJ5_getValue_6d5f1 BJ5_getValue_6d5f1_0 FJ4_length_8abf5 BJ4_length_8abf5_0 FJ5_length_8abf5 BJ5_length_8abf5_0
      rw [if_pos (by omega), KD_go h1.1.2.2.1, GF_go h1.1.2.2.1 h1.1.2.2.2.1]
      simp only [CL, CLX_rt]
      rw [KD_go h1.1.2.2.1, KD_go h1.1.2.2.1, GF_go h1.1.2.2.1 h1.1.2.2.2.2.2]
      simp only [CLX_rt]
      rw [KD_go h1.1.2.2.1, isL_rt h1]
      simp only [CLX_rt]
      rw [if_neg (by decide), PB_l (by omega) g1 (Or.inl rfl), e3]
      simp only [CLX_rt]
      rw [PF_l (by omega) q1]
    unfold FJ4_toString_0e30d BJ4_toString_0e30d_0 FJ0_init_81219 BJ0_init_81219_0 NU
    rw [e1, KD_go g1, if_pos (by have := f.2.1; omega), KD_go g1, ei]
    rfl
  · rw [mUp_ne _ _ (by omega)]; omega
  · rw [mUp_ne _ _ (by omega)]; exact q1
  · rw [mUp_same]
  · rw [mUp_ne _ _ (by omega)]; exact q2
  · rw [mUp_ne _ _ (by omega)]; omega
  · rw [mUp_ne _ _ (by omega)]; exact i1
  · rw [mUp_ne _ _ (by omega)]; exact i2
  · rw [mUp_ne _ _ (by omega), i3 k k0 k1]
    exact h2.2.2.2.2 k k0 k1
  · have a1 := f.tr (Q := fun z => z = μ 0 3) f2 (fun _ _ _ e => e.elim) (fun _ _ _ e => e)
    have a2 := a1.tr (Q := fun z => z = μ 0 3) f3 (fun _ _ _ e => e) (fun _ _ _ e => e.elim)
    have a3 := a2.tr (Q := fun z => z = μ 0 3) (FrL.up (μ := μ3) (a := μ 0 3) (k := 0) (w := μ 0 3 - 1) (P := fun z => z = μ 0 3) (by omega) (by omega) rfl) (fun _ _ _ e => e) (fun _ _ _ e => e)
    exact a3.le (by omega) (by omega) (fun z _ h e => by omega)
/-- a new StringBuilder that begins with a String -/
theorem sbOf_rt (hx : Str μ x y m) (hm : (m.length : Int) ≤ 200) (h3 : μ 0 3 < b) (b0 : b < -21) (b1 : μ b (-1) = 11) (b2 : ∀ k, 0 ≤ k → μ b k = 0) : ∃ ν v cap, FJ4_init_a7421 b x μ = RT 0 ν ∧ Sb ν b v cap m ∧ v ≤ μ 0 3 ∧ FrL 2 1000 (fun z => z = b) μ ν := by
  have hxb : x ≠ b := fun e => by have q1 := hx.1.2.2.1; rw [e] at q1; omega
  have hyb : y ≠ b := fun e => by have q1 := hx.2.1.2.2.1; rw [e] at q1; omega
  have f0 := FrL.up (μ := μ) (a := b) (k := 1) (w := 0) (P := fun z => z = b) (by omega) (by omega) rfl
  have x0 : Str (mUp μ b 1 0) x y m := hx.fr f0 hxb hyb
  have r3 : mUp μ b 1 0 0 3 = μ 0 3 := mUp_ne _ _ (by omega)
  obtain ⟨μ1, e1, ⟨g1, g2, g3⟩, g4, f⟩ := NAn_go (μ := mUp μ b 1 0) (t := 0) (len := m.length + 16) (by omega) (by omega) (by omega)
  rw [r3] at e1 g1 g2 g3 g4
  have x1 : Str μ1 x y m := x0.fr f id id
  have q2 : ∀ k, μ1 b k = mUp μ b 1 0 b k := fun k => f.1 _ _ (by omega) (by omega) (fun e => e.2)
  have q1 : μ1 b (-1) = 11 := by rw [q2, mUp_ne _ _ (by omega)]; exact b1
  have f1 := FrL.up (μ := μ1) (a := b) (k := 0) (w := μ 0 3) (P := fun z => z = b) (by omega) (by omega) rfl
  have x2 : Str (mUp μ1 b 0 (μ 0 3)) x y m := x1.fr f1 hxb hyb
  have h2 : Sb (mUp μ1 b 0 (μ 0 3)) b (μ 0 3) (m.length + 16) [] := by
    refine ⟨⟨b0, ?_, ?_, ?_, ?_, ?_⟩, ⟨by omega, ?_, ?_, ?_⟩, ⟨by simp; omega, by omega⟩, fun k k0 k1 => ?_, fun k k0 k1 => ?_⟩
    · rw [mUp_ne _ _ (by omega)]; omega
    · rw [mUp_ne _ _ (by omega)]; exact q1
    · rw [mUp_same]
    · rw [mUp_ne _ _ (by omega), q2, mUp_same]
    · rw [mUp_ne _ _ (by omega), q2, mUp_ne _ _ (by omega), b2 _ (by omega)]; rfl
    · rw [mUp_ne _ _ (by omega)]; omega
    · rw [mUp_ne _ _ (by omega)]; exact g1
    · rw [mUp_ne _ _ (by omega)]; exact g2
    · rw [mUp_ne _ _ (by omega), g3 k k0]; omega
    · simp at k1; omega
  obtain ⟨ν, e5, v, cap, h5, hv, f5⟩ := appS_rt h2 x2 (by simp; omega) (by have := hx.2.1.1; omega)
  rw [List.nil_append] at h5
  refine ⟨ν, v, cap, ?_, h5, ?_, ?_⟩
  · unfold FJ4_init_a7421 BJ4_init_a7421_0 FJ5_init_a7421 BJ5_init_a7421_0 BJ5_init_a7421_24 BJ5_init_a7421_53
    rw [KD_go b1, if_pos b0, KD_go hx.1.2.2.1, slen_rt hx]
    simp only [CL, CLX_rt]
    rw [if_neg (by omega), KD_go hx.1.2.2.1, coder_rt hx]
    simp only [CLX_rt]
    rw [PB_l b0 b1 (Or.inl rfl)]
    simp only [not_true, ↓reduceIte]
    rw [w32_eq (by omega) (by omega), e1, PF_l b0 q1, KD_go h2.1.2.2.1]
    unfold FJ4_append_cf1ce BJ4_append_cf1ce_0
    rw [KD_go h2.1.2.2.1, e5]
    rfl
  · have : mUp μ1 b 0 (μ 0 3) 0 3 = μ 0 3 - 1 := by rw [mUp_ne _ _ (by omega)]; exact g4
    omega
  · have a1 := f0.tr (Q := fun z => z = b) f (fun _ _ _ e => e) (fun _ _ _ e => e.elim)
    have a2 := a1.tr (Q := fun z => z = b) f1 (fun _ _ _ e => e) (fun _ _ _ e => e)
    have a3 := a2.tr (Q := fun z => z = b) f5 (fun _ _ _ e => e) (fun z _ h e => by
      rcases e with e | e
      · exact e
      · omega)
    exact a3.le (by omega) (by omega) (fun _ _ _ e => e)
theorem charAt_rt (hx : Str μ x y l) {i : Int} (i0 : 0 ≤ i) (i1 : i < l.length) : FJ0_charAt_5068e x i μ = RT (gt l i) μ := by
  obtain ⟨⟨a1, a2, a3, a4, a5⟩, ⟨b1, b2, b3, b4⟩, d, e⟩ := id hx
  have hc := e i i0 i1
  have h1 : bAnd (μ y i) 255 = gt l i := by
    rw [hc.1, bAnd_255, Int.emod_eq_of_lt (by omega) (by omega)]
  have h2 : bC (gt l i) = gt l i := bC_b hc.2
  have h3 : ∀ μ' : Mem, RTC (gt l i) μ' = RT (gt l i) μ' := fun μ' => if_pos (by omega)
  unfold FJ0_charAt_5068e BJ0_charAt_5068e_0 FJ0_isLatin1_aae02 BJ0_isLatin1_aae02_0 BJ0_isLatin1_aae02_17 BJ0_isLatin1_aae02_18 FJ1_charAt_3b067 BJ1_charAt_3b067_0
  rw [KD_go a3, if_neg (by decide), GF_go a3 a5]
  simp only [not_true, ↓reduceIte]
  rw [RTZ_1]
  simp only [CL, CLX_rt]
  rw [if_neg (by decide), GF_go a3 a4, LN_of b3 b4]
  unfold CHK
  rw [if_pos ⟨i0, i1⟩, AL_go (w := μ y i) b3 b4 i0 i1 rfl, h1, h2, h3]
  simp only [CLX_rt]
  exact h3 _
end SBC
