/-! a list in the making; one more in it; one in another's place -/
def Ald (μ ν : Mem) (a e : Int) (l : List Int) : Prop := ∃ e' cap', Al ν a e' cap' l ∧ (e' = e ∨ e' ≤ μ 0 3) ∧ FrL 1 600 (fun z => z = a ∨ (z = e ∧ z < -21)) μ ν
section ALA
variable {μ ν ξ M : Mem} {c s a e cap i z n w : Int} {l m : List Int} {P : Int → Prop}
theorem alInit_rt (hE : Em μ) (h3 : μ 0 3 < a) (a0 : a < -21) (a1 : μ a (-1) = 12) (a2 : ∀ k, 0 ≤ k → μ a k = 0) : ∃ ν, FJx4a65c_init_da8c8 a μ = RT 0 ν ∧ Al ν a (-1) 0 [] ∧ FrL 0 0 (fun z => z = a) μ ν := by
  refine ⟨mUp (mUp μ a 0 0) a 1 (-1), ?_, ⟨⟨a0, ?_, ?_, ?_, ?_⟩, Or.inl ⟨rfl, rfl⟩, ⟨?_, ?_, ?_⟩, ⟨by simp, by omega⟩, fun k k0 k1 => ?_⟩, ?_⟩
  · unfold FJx4a65c_init_da8c8 BJx4a65c_init_da8c8_0 FJxc12de_init_da8c8 BJxc12de_init_da8c8_0 FJxa1e45_init_da8c8 BJxa1e45_init_da8c8_0
    rw [KD_go a1, KD_go a1, if_pos a0]
    simp only [CL, CLX_rt]
    rw [PF_l a0 a1]
    simp only [CLX_rt]
    rw [PF_l a0 (by rw [mUp_ne _ _ (by omega)]; exact a1)]
  · rw [mUp_ne _ _ (by omega), mUp_ne _ _ (by omega)]; exact h3
  · rw [mUp_ne _ _ (by omega), mUp_ne _ _ (by omega)]; exact a1
  · rw [mUp_same]
  · rw [mUp_ne _ _ (by omega), mUp_ne _ _ (by omega), a2 _ (by omega)]; rfl
  · rw [mUp_ne _ _ (by omega), mUp_ne _ _ (by omega)]; omega
  · rw [mUp_ne _ _ (by omega), mUp_ne _ _ (by omega)]; exact hE.1
  · rw [mUp_ne _ _ (by omega), mUp_ne _ _ (by omega)]; exact hE.2
  · simp at k1; omega
  · have f := (FrL.up (μ := μ) (a := a) (k := 0) (w := 0) (P := fun z => z = a) (by omega) (by omega) rfl).tr (Q := fun z => z = a) (FrL.up (μ := mUp μ a 0 0) (a := a) (k := 1) (w := -1) (P := fun z => z = a) (by omega) (by omega) rfl) (fun _ _ _ e => e) (fun _ _ _ e => e)
    simpa using f
theorem Al.ae (h : Al μ a e cap l) : a ≠ e := fun q => by
  have h1 := h.1.2.2.1
  have h2 := h.2.2.1.2.1
  rw [q] at h1
  omega
theorem Al.up0 (h : Al μ a e cap l) : Al (mUp μ a 0 w) a e cap l := by
  have hae := h.ae
  have f := FrL.up (μ := μ) (a := a) (k := 0) (w := w) (P := fun z => z = a) (by have := h.1.1; omega) (by omega) rfl
  obtain ⟨⟨a0, a1, a2, a3, a4⟩, b, ⟨b1, b2, b3⟩, d, q⟩ := h
  refine ⟨⟨a0, ?_, ?_, ?_, ?_⟩, b, ⟨?_, ?_, ?_⟩, d, fun k k0 k1 => ⟨?_, (q k k0 k1).2.fr f⟩⟩
  · rw [mUp_ne _ _ (by omega)]; exact a1
  · rw [mUp_ne _ _ (by omega)]; exact a2
  · rw [mUp_ne _ _ (by omega)]; exact a3
  · rw [mUp_ne _ _ (by omega)]; exact a4
  · rw [mUp_ne _ _ (by omega)]; exact b1
  · rw [mUp_ne _ _ (by omega)]; exact b2
  · rw [mUp_ne _ _ (by omega)]; exact b3
  · rw [mUp_ne _ _ (by omega)]; exact (q k k0 k1).1
theorem put_al (h : Al μ a e cap l) (hn : (l.length : Int) < cap) (hz : Elt μ z) (i0 : 0 ≤ i) (i1 : i ≤ l.length) (hM : ∀ k : Int, 0 ≤ k → k ≤ l.length → M e k = if k < i then μ e k else if k = i then z else μ e (k - 1)) (hO : M a 2 = l.length + 1) (hA : M a 1 = μ a 1) (hF : FrL 0 0 (fun z => z = a ∨ z = e) μ M) : Al M a e cap (insL l i z) := by
  obtain ⟨⟨a0, a1, a2, a3, a4⟩, b, ⟨b1, b2, b3⟩, d, q⟩ := h
  have hl : ((insL l i z).length : Int) = l.length + 1 := insL_len i0 i1
  have g := hF.2.2.1
  refine ⟨⟨a0, by omega, by rw [hF.kind (by omega) a1 (by omega)]; exact a2, by rw [hA]; exact a3, by rw [hO, hl]⟩, b, ⟨by omega, by rw [hF.kind (by omega) b1 (by omega)]; exact b2, by rw [hF.kind (by omega) b1 (by omega)]; exact b3⟩, ⟨by omega, d.2⟩, fun k k0 k1 => ?_⟩
  rw [hM k k0 (by omega), gt_ins i0 i1 k0]
  by_cases h1 : k < i
  · rw [if_pos h1, if_pos h1]
    exact ⟨(q k k0 (by omega)).1, (q k k0 (by omega)).2.fr hF⟩
  · rw [if_neg h1, if_neg h1]
    by_cases h2 : k = i
    · rw [if_pos h2, if_pos h2]
      exact ⟨rfl, hz.fr hF⟩
    · rw [if_neg h2, if_neg h2]
      exact ⟨(q (k - 1) (by omega) (by omega)).1, (q (k - 1) (by omega) (by omega)).2.fr hF⟩
/-- room for one more -/
theorem room_al (h : Al μ a e cap l) (hl : (l.length : Int) ≤ 330) : ∃ ν e' cap', (∀ K : Int → Mem → Rz, LN 2 e μ (fun t => if ¬ (l.length : Int) = t then K e μ else KD 11 a μ (CL (FJx4a65c_grow_d5877 a μ) fun t u => K t u)) = K e' ν) ∧ Al ν a e' cap' l ∧ (l.length : Int) < cap' ∧ (e' = e ∨ e' ≤ μ 0 3) ∧ FrL 1 600 (fun z => z = a) μ ν := by
  by_cases hq : (l.length : Int) = cap
  · obtain ⟨ν, e', cap', g1, g2, g3, g4, g5⟩ := grow_rt h hq (by omega)
    refine ⟨ν, e', cap', fun K => ?_, g2, by omega, Or.inr g4, g5⟩
    rw [LN_of h.2.2.1.2.1 h.2.2.1.2.2, if_neg (by omega), KD_go h.1.2.2.1, g1]
    rfl
  · refine ⟨μ, e, cap, fun K => ?_, h, by have := h.2.2.2.1.1; omega, Or.inl rfl, FrL.rf.le (by omega) (by omega) (fun _ _ _ e => e)⟩
    rw [LN_of h.2.2.1.2.1 h.2.2.1.2.2, if_pos hq]
theorem ald_of {e' cap' : Int} (f0 : FrL 0 0 (fun z => z = a) μ ν) (f1 : FrL 1 600 (fun z => z = a) ν ξ) (he : e' = e ∨ e' ≤ ν 0 3) (h : Al M a e' cap' m) (f2 : FrL 0 0 (fun z => z = a ∨ z = e') ξ M) (hν : ν 0 3 = μ 0 3) (he2 : e' < -21) : Ald μ M a e m := by
  refine ⟨e', cap', h, by omega, ?_⟩
  have g := (f0.tr (Q := fun z => z = a ∨ (z = e ∧ z < -21)) f1 (fun _ _ _ e => Or.inl e) (fun _ _ _ e => Or.inl e)).tr (Q := fun z => z = a ∨ (z = e ∧ z < -21)) f2 (fun _ _ _ e => e) (fun z _ h e => by
    rcases e with e | e
    · exact Or.inl e
    · rcases he with he | he
      · exact Or.inr ⟨e.trans he, by omega⟩
      · omega)
  exact g.le (by omega) (by omega) (fun _ _ _ e => e)
theorem add_rt (h : Al μ a e cap l) (hl : (l.length : Int) ≤ 330) (hz : Elt μ z) : ∃ ν, FJx4a65c_add_9ea2d a z μ = RT 1 ν ∧ Ald μ ν a e (insL l l.length z) := by
  have a0 := h.1.1
  have f0 := FrL.up (μ := μ) (a := a) (k := 0) (w := w32 (μ a 0 + 1)) (P := fun z => z = a) (by omega) (by omega) rfl
  have h1 : Al (mUp μ a 0 (w32 (μ a 0 + 1))) a e cap l := h.up0
  obtain ⟨ν, e', cap', g1, g2, g3, g4, f1⟩ := room_al h1 hl
  have hz2 : Elt ν z := (hz.fr f0).fr f1
  have hae := g2.ae
  obtain ⟨⟨b0, b1, b2, b3, b4⟩, d, ⟨d1, d2, d3⟩, d4, q⟩ := id g2
  have he : e' < -21 := by omega
  have f2 : FrL 0 0 (fun z => z = a ∨ z = e') ν (mUp (mUp ν e' l.length z) a 2 (l.length + 1)) := by
    have := (FrL.up (μ := ν) (a := e') (k := l.length) (w := z) (P := fun z => z = a ∨ z = e') (by omega) (by omega) (Or.inr rfl)).tr (Q := fun z => z = a ∨ z = e') (FrL.up (μ := mUp ν e' l.length z) (a := a) (k := 2) (w := l.length + 1) (P := fun z => z = a ∨ z = e') (by omega) (by omega) (Or.inl rfl)) (fun _ _ _ e => e) (fun _ _ _ e => e)
    simpa using this
  refine ⟨mUp (mUp ν e' l.length z) a 2 (l.length + 1), ?_, ald_of f0 f1 g4 (put_al g2 g3 hz2 (by omega) (Int.le_refl _) (fun k k0 k1 => ?_) (mUp_same _ _ _ _) (by rw [mUp_ne _ _ (by omega), mUp_ne _ _ (by omega)]) f2) f2 (by rw [mUp_ne _ _ (by omega)]) he⟩
  · have eh : FJx4a65c_add_72be8 a z e l.length (mUp μ a 0 (w32 (μ a 0 + 1))) = RT 0 (mUp (mUp ν e' l.length z) a 2 (l.length + 1)) := by
      unfold FJx4a65c_add_72be8 BJx4a65c_add_72be8_0
      rw [g1 (fun t u => BJx4a65c_add_72be8_11 a z t l.length u)]
      unfold BJx4a65c_add_72be8_11
      rw [ASO_l he d2 d3 (by omega) g3 hz2.2.2, PF_l b0 (by rw [mUp_ne _ _ (by omega)]; exact b2), w32_eq (by omega) (by omega)]
    unfold FJx4a65c_add_9ea2d BJx4a65c_add_9ea2d_0
    rw [GF_go (v := μ a 0) h.1.2.2.1 rfl, PF_l a0 h.1.2.2.1, GF_go h1.1.2.2.1 h1.1.2.2.2.1, GF_go h1.1.2.2.1 h1.1.2.2.2.2, KD_go h1.1.2.2.1, eh]
    rfl
  · rw [mUp_ne _ _ (by omega)]
    by_cases q1 : k = l.length
    · rw [if_neg (by omega), if_pos q1, q1, mUp_same]
    · rw [if_pos (by omega), mUp_ne _ _ (by omega)]
theorem ins_rt (h : Al μ a e cap l) (hl : (l.length : Int) ≤ 330) (hz : Elt μ z) (i0 : 0 ≤ i) (i1 : i ≤ l.length) : ∃ ν, FJx4a65c_add_7a177 a i z μ = RT 0 ν ∧ Ald μ ν a e (insL l i z) := by
  have a0 := h.1.1
  have f0 := FrL.up (μ := μ) (a := a) (k := 0) (w := w32 (μ a 0 + 1)) (P := fun z => z = a) (by omega) (by omega) rfl
  have h1 : Al (mUp μ a 0 (w32 (μ a 0 + 1))) a e cap l := h.up0
  obtain ⟨ν, e', cap', g1, g2, g3, g4, f1⟩ := room_al h1 hl
  have hz2 : Elt ν z := (hz.fr f0).fr f1
  have hae := g2.ae
  obtain ⟨⟨b0, b1, b2, b3, b4⟩, d, ⟨d1, d2, d3⟩, d4, q⟩ := id g2
  have he : e' < -21 := by omega
  have fc := FrL.cpy (μ := ν) (src := e') (dst := e') (sp := i) (dp := i + 1) (n := l.length - i) (P := fun z => z = a ∨ z = e') (by omega) (by omega) (Or.inr rfl)
  have fc2 := fc.tr (Q := fun z => z = a ∨ z = e') (FrL.up (μ := mCpy ν e' i e' (i + 1) (l.length - i)) (a := e') (k := i) (w := z) (P := fun z => z = a ∨ z = e') (by omega) (by omega) (Or.inr rfl)) (fun _ _ _ e => e) (fun _ _ _ e => e)
  have f2 : FrL 0 0 (fun z => z = a ∨ z = e') ν (mUp (mUp (mCpy ν e' i e' (i + 1) (l.length - i)) e' i z) a 2 (l.length + 1)) := by
    have := fc2.tr (Q := fun z => z = a ∨ z = e') (FrL.up (μ := mUp (mCpy ν e' i e' (i + 1) (l.length - i)) e' i z) (a := a) (k := 2) (w := l.length + 1) (P := fun z => z = a ∨ z = e') (by omega) (by omega) (Or.inl rfl)) (fun _ _ _ e => e) (fun _ _ _ e => e)
    simpa using this
  refine ⟨mUp (mUp (mCpy ν e' i e' (i + 1) (l.length - i)) e' i z) a 2 (l.length + 1), ?_, ald_of f0 f1 g4 (put_al g2 g3 hz2 i0 i1 (fun k k0 k1 => ?_) (mUp_same _ _ _ _) (by rw [mUp_ne _ _ (by omega), mUp_ne _ _ (by omega), cpy_ne (by omega)]) f2) f2 (by rw [mUp_ne _ _ (by omega)]) he⟩
  · unfold FJx4a65c_add_7a177 BJx4a65c_add_7a177_0 FJx4a65c_rangeCheckForAdd_d00df BJx4a65c_rangeCheckForAdd_d00df_0
    rw [KD_go h.1.2.2.1, GF_go h.1.2.2.1 h.1.2.2.2.2, if_neg (by omega), if_pos i0]
    simp only [CL, CLX_rt]
    rw [GF_go (v := μ a 0) h.1.2.2.1 rfl, PF_l a0 h.1.2.2.1, GF_go h1.1.2.2.1 h1.1.2.2.2.2, GF_go h1.1.2.2.1 h1.1.2.2.2.1, g1 (fun t u => BJx4a65c_add_7a177_38 a i z l.length t u)]
    unfold BJx4a65c_add_7a177_38
    rw [w32_eq (z := i + 1) (by omega) (by omega), w32_eq (z := l.length - i) (by omega) (by omega), ACQ_of (m1 := cap') (m2 := cap') he he d2 d2 d3 d3 i0 (by omega) (by omega) (by omega) (by omega) (fun j j0 j1 => by rw [(q (i + j) (by omega) (by omega)).1]; exact (q (i + j) (by omega) (by omega)).2), ASO_l (n := cap') he (by rw [cpy_ne (by omega)]; exact d2) (by rw [cpy_ne (by omega)]; exact d3) i0 (by omega) (by rw [cpy_ne (by omega)]; exact hz2.2.2), PF_l b0 (by rw [mUp_ne _ _ (by omega), cpy_ne (by omega)]; exact b2), w32_eq (by omega) (by omega)]
  · rw [mUp_ne _ _ (by omega)]
    by_cases q1 : k < i
    · rw [if_pos q1, mUp_ne _ _ (by omega), cpy_ne (by omega)]
    · rw [if_neg q1]
      by_cases q2 : k = i
      · rw [if_pos q2, q2, mUp_same]
      · rw [if_neg q2, mUp_ne _ _ (by omega), cpy_at (by omega) (by omega)]
        congr 1
        omega
def setL (l : List Int) (i z : Int) : List Int := l.set i.toNat z
theorem setL_len : ((setL l i z).length : Int) = l.length := by
  unfold setL
  rw [List.length_set]
theorem gt_set {k : Int} (i0 : 0 ≤ i) (i1 : i < l.length) (k0 : 0 ≤ k) : gt (setL l i z) k = if k = i then z else gt l k := by
  unfold gt setL
  rw [List.getD_eq_getElem?_getD, List.getD_eq_getElem?_getD]
  by_cases h : k = i
  · rw [if_pos h, h, List.getElem?_set_self (by omega)]
    rfl
  · rw [if_neg h, List.getElem?_set_ne (by omega)]
theorem set_rt (h : Al μ a e cap l) (h0 : 0 < μ 0 0) (hz : Elt μ z) (i0 : 0 ≤ i) (i1 : i < l.length) : ∃ ν, FJx4a65c_set_bcc79 a i z μ = RT (gt l i) ν ∧ Al ν a e cap (setL l i z) ∧ FrL 0 0 (fun z => z = e) μ ν := by
  have hae := h.ae
  obtain ⟨⟨a0, a1, a2, a3, a4⟩, b, ⟨b1, b2, b3⟩, ⟨d0, d1⟩, q⟩ := id h
  have he : e < -21 := by omega
  have f := FrL.up (μ := μ) (a := e) (k := i) (w := z) (P := fun z => z = e) (by omega) (by omega) rfl
  refine ⟨mUp μ e i z, ?_, ⟨⟨a0, ?_, ?_, ?_, ?_⟩, b, ⟨?_, ?_, ?_⟩, ⟨by rw [setL_len]; exact d0, d1⟩, fun k k0 k1 => ?_⟩, f⟩
  · unfold FJx4a65c_set_bcc79 BJx4a65c_set_bcc79_0 CHK NU
    rw [GF_go a2 a4, if_pos ⟨i0, i1⟩, if_pos h0, KD_go a2, elem_rt h i0 i1]
    simp only [CL, CLX_rt]
    rw [GF_go a2 a3, ASO_l he b2 b3 i0 (by omega) hz.2.2]
  · rw [mUp_ne _ _ (by omega)]; exact a1
  · rw [mUp_ne _ _ (by omega)]; exact a2
  · rw [mUp_ne _ _ (by omega)]; exact a3
  · rw [mUp_ne _ _ (by omega), setL_len]; exact a4
  · rw [mUp_ne _ _ (by omega)]; exact b1
  · rw [mUp_ne _ _ (by omega)]; exact b2
  · rw [mUp_ne _ _ (by omega)]; exact b3
  · rw [setL_len] at k1
    rw [gt_set i0 i1 k0]
    by_cases e1 : k = i
    · rw [if_pos e1, e1, mUp_same]
      exact ⟨rfl, hz.fr f⟩
    · rw [if_neg e1, mUp_ne _ _ (by omega)]
      exact ⟨(q k k0 k1).1, (q k k0 k1).2.fr f⟩
end ALA
