/-! an ArrayList and the numbers it holds -/
def Em (μ : Mem) : Prop := μ (-1) (-1) = 22 ∧ μ (-1) (-2) = 0
/-- what a list of the law may hold -/
def Elt (μ : Mem) (z : Int) : Prop := z < -21 ∧ μ 0 3 < z ∧ (μ z (-1) = 8 ∨ μ z (-1) = 9)
def Al (μ : Mem) (a e cap : Int) (l : List Int) : Prop := (a < -21 ∧ μ 0 3 < a ∧ μ a (-1) = 12 ∧ μ a 1 = e ∧ μ a 2 = l.length) ∧ ((e = -1 ∧ cap = 0) ∨ (e < -21 ∧ 0 < cap)) ∧ (μ 0 3 < e ∧ μ e (-1) = 22 ∧ μ e (-2) = cap) ∧ ((l.length : Int) ≤ cap ∧ cap ≤ 600) ∧ ∀ k : Int, 0 ≤ k → k < l.length → μ e k = gt l k ∧ Elt μ (gt l k)
def insL (l : List Int) (i z : Int) : List Int := l.take i.toNat ++ z :: l.drop i.toNat
section ALS
variable {μ ν ξ : Mem} {c s a e cap i z n : Int} {l m : List Int} {P : Int → Prop}
theorem insL_len (i0 : 0 ≤ i) (i1 : i ≤ l.length) : ((insL l i z).length : Int) = l.length + 1 := by
  unfold insL
  rw [List.length_append, List.length_cons, List.length_take, List.length_drop]
  omega
theorem gt_cons {k : Int} : gt (z :: l) k = if k ≤ 0 then z else gt l (k - 1) := by
  unfold gt
  by_cases h : k ≤ 0
  · rw [if_pos h, show k.toNat = 0 by omega]; rfl
  · rw [if_neg h, show k.toNat = (k - 1).toNat + 1 by omega]; rfl
theorem gt_take {k : Int} (k0 : 0 ≤ k) (h : k < i) : gt (l.take i.toNat) k = gt l k := by
  unfold gt
  rw [List.getD_eq_getElem?_getD, List.getD_eq_getElem?_getD, List.getElem?_take_of_lt (by omega)]
theorem gt_drop {k : Int} (i0 : 0 ≤ i) (k0 : 0 ≤ k) : gt (l.drop i.toNat) k = gt l (i + k) := by
  unfold gt
  rw [List.getD_eq_getElem?_getD, List.getD_eq_getElem?_getD, List.getElem?_drop, show (i + k).toNat = i.toNat + k.toNat by omega]
theorem gt_ins {k : Int} (i0 : 0 ≤ i) (i1 : i ≤ l.length) (k0 : 0 ≤ k) : gt (insL l i z) k = if k < i then gt l k else if k = i then z else gt l (k - 1) := by
  have hl : ((l.take i.toNat).length : Int) = i := by rw [List.length_take]; omega
  unfold insL
  by_cases h : k < i
  · rw [if_pos h, gt_l k0 (by omega), gt_take k0 h]
  · rw [if_neg h, gt_r (by omega), gt_cons, hl]
    by_cases h2 : k = i
    · rw [if_pos (by omega), if_pos h2]
    · rw [if_neg (by omega), if_neg h2, gt_drop i0 (by omega)]
      congr 1
      omega
theorem Elt.fr (h : Elt μ z) (f : FrL c s P μ ν) : Elt ν z := by
  obtain ⟨h0, h1, h2⟩ := h
  exact ⟨h0, by have := f.2.2.1; omega, by rw [f.kind (by omega) h1 (by omega)]; exact h2⟩
theorem Em.fr (h : Em μ) (f : FrL c s P μ ν) (h3 : μ 0 3 < -21) : Em ν := ⟨by rw [f.kind (by omega) (by omega) (by omega)]; exact h.1, by rw [f.kind (by omega) (by omega) (by omega)]; exact h.2⟩
theorem Al.fr (h : Al μ a e cap l) (f : FrL c s P μ ν) (h1 : ¬ P a) (h2 : ¬ P e) : Al ν a e cap l := by
  obtain ⟨⟨a0, a1, a2, a3, a4⟩, b, ⟨b1, b2, b3⟩, d, q⟩ := h
  have g := f.2.2.1
  refine ⟨⟨a0, by omega, ?_, ?_, ?_⟩, b, ⟨by omega, ?_, ?_⟩, d, fun k k0 k1 => ⟨?_, (q k k0 k1).2.fr f⟩⟩
  · rw [f.kind (by omega) a1 (by omega)]; exact a2
  · rw [f.1 _ _ (by omega) a1 (fun e => h1 e.2)]; exact a3
  · rw [f.1 _ _ (by omega) a1 (fun e => h1 e.2)]; exact a4
  · rw [f.kind (by omega) b1 (by omega)]; exact b2
  · rw [f.kind (by omega) b1 (by omega)]; exact b3
  · rw [f.1 _ _ (by omega) b1 (fun e => h2 e.2)]; exact (q k k0 k1).1
theorem size_rt (h : Al μ a e cap l) : FJx4a65c_size_8abf5 a μ = RT l.length μ := by
  unfold FJx4a65c_size_8abf5 BJx4a65c_size_8abf5_0
  rw [GF_go h.1.2.2.1 h.1.2.2.2.2]
theorem elem_rt (h : Al μ a e cap l) (i0 : 0 ≤ i) (i1 : i < l.length) : FJx4a65c_elementData_915e3 a i μ = RT (gt l i) μ := by
  obtain ⟨⟨a0, a1, a2, a3, a4⟩, b, ⟨b1, b2, b3⟩, d, q⟩ := h
  unfold FJx4a65c_elementData_915e3 BJx4a65c_elementData_915e3_0
  rw [GF_go a2 a3, AL_go b2 b3 i0 (by omega) (q i i0 i1).1]
theorem get_rt (h : Al μ a e cap l) (h0 : 0 < μ 0 0) (i0 : 0 ≤ i) (i1 : i < l.length) : FJx4a65c_get_915e3 a i μ = RT (gt l i) μ := by
  unfold FJx4a65c_get_915e3 BJx4a65c_get_915e3_0 CHK NU
  rw [GF_go h.1.2.2.1 h.1.2.2.2.2, if_pos ⟨i0, i1⟩, if_pos h0, KD_go h.1.2.2.1, elem_rt h i0 i1]
  rfl
theorem ASO_l {K : Mem → Rz} (h9 : a < -21) (h : μ a (-1) = 22) (hn : μ a (-2) = n) (h0 : 0 ≤ i) (h1 : i < n) (hz : μ z (-1) = 8 ∨ μ z (-1) = 9) : ASO a i z μ K = K (mUp μ a i z) := if_pos ⟨Or.inr h9, h, h0, by rw [hn]; exact h1, hz⟩
theorem ACQ_of {src dst sp dp n m1 m2 : Int} {K : Mem → Rz} (h0 : dst < -21) (hs : src < -21) (k1 : μ src (-1) = 22) (k2 : μ dst (-1) = 22) (l1 : μ src (-2) = m1) (l2 : μ dst (-2) = m2) (sp0 : 0 ≤ sp) (dp0 : 0 ≤ dp) (n0 : 0 ≤ n) (n1 : sp + n ≤ m1) (n2 : dp + n ≤ m2) (hb : ∀ j, 0 ≤ j → j < n → Elt μ (μ src (sp + j))) : ACQ src sp dst dp n μ K = K (mCpy μ src sp dst dp n) := by
  refine if_pos ⟨⟨Or.inr h0, Or.inr hs⟩, k1, k2, ⟨sp0, dp0, n0, by omega, by omega⟩, ?_⟩
  rw [List.all_eq_true]
  intro j hj
  have hj := List.mem_range.mp hj
  exact decide_eq_true (Or.inr (hb j (by omega) (by omega)).2.2)
theorem bShr_1 {v : Int} (h0 : 0 ≤ v) (h1 : v < 1000) : bShr v 1 = v / 2 := by
  have := bShr_int (v := v) (by unfold i32; omega) (k := 1) (by omega)
  rw [show (((1 : Nat)) : Int) = 1 from rfl] at this
  rw [this]
  rfl
/-- a full list gets more room -/
theorem grow_rt (h : Al μ a e cap l) (hf : (l.length : Int) = cap) (hl : cap ≤ 330) : ∃ ν e' cap', FJx4a65c_grow_d5877 a μ = RT e' ν ∧ Al ν a e' cap' l ∧ cap < cap' ∧ e' ≤ μ 0 3 ∧ FrL 1 600 (fun z => z = a) μ ν := by
  obtain ⟨⟨a0, a1, a2, a3, a4⟩, b, ⟨b1, b2, b3⟩, ⟨d, d1⟩, q⟩ := id h
  have h3 : μ 0 3 < -21 := by omega
  by_cases hc : 0 < cap
  · have he : e < -21 := by omega
    have hx : mx 1 (cap / 2) ≤ 165 ∧ 1 ≤ mx 1 (cap / 2) := by
      unfold mx
      split <;> omega
    obtain ⟨μ1, e1, ⟨g1, g2, g3⟩, g4, f⟩ := NAn_go (t := 2) h3 (len := cap + mx 1 (cap / 2)) (by omega) (by omega)
    have q1 : μ1 e (-1) = 22 := by rw [f.kind (by omega) b1 (by omega)]; exact b2
    have q2 : μ1 e (-2) = cap := by rw [f.kind (by omega) b1 (by omega)]; exact b3
    have q3 : ∀ j, μ1 e j = μ e j := fun j => f.1 _ _ (by omega) b1 (fun e => e.2)
    have q4 : ∀ j, μ1 a j = μ a j := fun j => f.1 _ _ (by omega) a1 (fun e => e.2)
    have hmn : mn cap (cap + mx 1 (cap / 2)) = cap := by unfold mn; rw [if_neg (by omega)]
    have f2 := FrL.cpy (μ := μ1) (src := e) (dst := μ 0 3) (sp := 0) (dp := 0) (n := cap) (P := fun z => z = μ 0 3) (by omega) (by omega) rfl
    have f3 := FrL.up (μ := mCpy μ1 e 0 (μ 0 3) 0 cap) (a := a) (k := 1) (w := μ 0 3) (P := fun z => z = a) (by omega) (by omega) rfl
    have fa := (f.tr (Q := fun z => z = a) f2 (fun _ _ _ e => e.elim) (fun z _ h e => by omega)).tr (Q := fun z => z = a) f3 (fun _ _ _ e => e) (fun _ _ _ e => e)
    refine ⟨mUp (mCpy μ1 e 0 (μ 0 3) 0 cap) a 1 (μ 0 3), μ 0 3, cap + mx 1 (cap / 2), ?_, ⟨⟨a0, ?_, ?_, ?_, ?_⟩, Or.inr ⟨h3, by omega⟩, ⟨?_, ?_, ?_⟩, ⟨by omega, by omega⟩, fun k k0 k1 => ⟨?_, (q k k0 k1).2.fr fa⟩⟩, by omega, Int.le_refl _, fa.le (by omega) (by omega) (fun _ _ _ e => e)⟩
    · have ec : FJ7_copyOf_1904c e (cap + mx 1 (cap / 2)) μ = RT (μ 0 3) (mCpy μ1 e 0 (μ 0 3) 0 cap) := by
        unfold FJ7_copyOf_1904c BJ7_copyOf_1904c_0 FJ7_copyOf_6403c BJ7_copyOf_6403c_0 BJ7_copyOf_6403c_24
        rw [KD_go b2, if_pos rfl, e1, LN_of q1 q2, min_rt, hmn]
        simp only [CL, CLX_rt]
        rw [ACQ_of (m1 := cap) (m2 := cap + mx 1 (cap / 2)) h3 he q1 g1 q2 g2 (by omega) (by omega) (by omega) (by omega) (by omega) (fun j j0 j1 => by rw [q3, Int.zero_add, (q j j0 (by omega)).1]; exact (q j j0 (by omega)).2.fr f)]
        rfl
      have eg : FJx4a65c_grow_92f84 a (cap + 1) μ = RT (μ 0 3) (mUp (mCpy μ1 e 0 (μ 0 3) 0 cap) a 1 (μ 0 3)) := by
        unfold FJx4a65c_grow_92f84 BJx4a65c_grow_92f84_0 BJx4a65c_grow_92f84_20
        rw [GF_go a2 a3, LN_of b2 b3, if_pos hc, w32_eq (by omega) (by omega), show cap + 1 - cap = 1 by omega, bShr_1 (by omega) (by omega), newLen_rt (by omega) (by omega)]
        simp only [CL, CLX_rt]
        rw [GF_go a2 a3, ec]
        simp only [CLX_rt]
        rw [PF_l a0 (by rw [cpy_ne (by omega), q4]; exact a2)]
      unfold FJx4a65c_grow_d5877 BJx4a65c_grow_d5877_0
      rw [GF_go a2 a4, KD_go a2, hf, w32_eq (by omega) (by omega), eg]
      rfl
    · rw [mUp_ne _ _ (by omega), cpy_ne (by omega)]; omega
    · rw [mUp_ne _ _ (by omega), cpy_ne (by omega), q4]; exact a2
    · rw [mUp_same]
    · rw [mUp_ne _ _ (by omega), cpy_ne (by omega), q4]; exact a4
    · rw [mUp_ne _ _ (by omega), cpy_ne (by omega)]; omega
    · rw [mUp_ne _ _ (by omega), cpy_ne (by omega)]; exact g1
    · rw [mUp_ne _ _ (by omega), cpy_ne (by omega)]; exact g2
    · rw [mUp_ne _ _ (by omega), cpy_at k0 (by omega), q3, show 0 + (k - 0) = k by omega]
      exact (q k k0 k1).1
  · have he : e = -1 := by omega
    have c0 : cap = 0 := by omega
    obtain ⟨μ1, e1, ⟨g1, g2, g3⟩, g4, f⟩ := NAn_go (t := 2) h3 (len := 10) (by omega) (by omega)
    have q4 : ∀ j, μ1 a j = μ a j := fun j => f.1 _ _ (by omega) a1 (fun e => e.2)
    have f3 := FrL.up (μ := μ1) (a := a) (k := 1) (w := μ 0 3) (P := fun z => z = a) (by omega) (by omega) rfl
    have fa := f.tr (Q := fun z => z = a) f3 (fun _ _ _ e => e.elim) (fun _ _ _ e => e)
    refine ⟨mUp μ1 a 1 (μ 0 3), μ 0 3, 10, ?_, ⟨⟨a0, ?_, ?_, ?_, ?_⟩, Or.inr ⟨h3, by omega⟩, ⟨?_, ?_, ?_⟩, ⟨by omega, by omega⟩, fun k k0 k1 => by omega⟩, by omega, Int.le_refl _, fa.le (by omega) (by omega) (fun _ _ _ e => e)⟩
    · have hm : mx 10 1 = 10 := rfl
      have eg : FJx4a65c_grow_92f84 a 1 μ = RT (μ 0 3) (mUp μ1 a 1 (μ 0 3)) := by
        unfold FJx4a65c_grow_92f84 BJx4a65c_grow_92f84_0 AQ
        rw [GF_go a2 a3, LN_of b2 b3, if_neg hc, GF_go a2 a3, if_pos ⟨Or.inr he, Or.inr rfl⟩, if_pos he, max_rt, hm]
        simp only [CL, CLX_rt]
        rw [e1, PF_l a0 (by rw [q4]; exact a2)]
      unfold FJx4a65c_grow_d5877 BJx4a65c_grow_d5877_0
      rw [GF_go a2 a4, KD_go a2, hf, c0, w32_eq (by omega) (by omega), show (0 : Int) + 1 = 1 from rfl, eg]
      rfl
    · rw [mUp_ne _ _ (by omega)]; omega
    · rw [mUp_ne _ _ (by omega), q4]; exact a2
    · rw [mUp_same]
    · rw [mUp_ne _ _ (by omega), q4]; exact a4
    · rw [mUp_ne _ _ (by omega)]; omega
    · rw [mUp_ne _ _ (by omega)]; exact g1
    · rw [mUp_ne _ _ (by omega)]; exact g2
end ALS
