/-! what is added to a StringBuilder; its String -/
/-- b holds l, in v or in an array that is new -/
def Apd (μ ν : Mem) (b v : Int) (l : List Int) : Prop := ∃ v' cap', Sb ν b v' cap' l ∧ (v' = v ∨ v' ≤ μ 0 3) ∧ FrL 1 602 (fun z => z = b ∨ z = v) μ ν
/-- the table of digits -/
def Dg (μ : Mem) : Prop := μ (-20) (-1) = 20 ∧ μ (-20) (-2) = 100 ∧ ∀ j, 0 ≤ j → j < 10 → μ (-20) j = 48 + j
section SBA
variable {μ ν ξ : Mem} {c s b v cap x y n : Int} {l m : List Int} {P : Int → Prop}
theorem ln_app : ((l ++ m).length : Int) = l.length + m.length := by
  rw [List.length_append]
  omega
theorem inflate_rt (h : Sb μ b v cap l) (hx : Str μ x y m) : FJ5_inflateIfNeededFor_a7421 b x μ = RT 0 μ := by
  unfold FJ5_inflateIfNeededFor_a7421 BJ5_inflateIfNeededFor_a7421_0
  rw [if_neg (by decide), GF_go h.1.2.2.1 h.1.2.2.2.2.1, KD_go hx.1.2.2.1, coder_rt hx]
  simp only [CL, CLX_rt, ↓reduceIte]
  rfl
theorem getBytes_rt (hx : Str μ x y m) (v0 : v < -21) (v1 : μ v (-1) = 20) (v2 : μ v (-2) = cap) (n0 : 0 ≤ n) (n1 : n + m.length ≤ cap) (n2 : cap ≤ 1000) : FJ0_getBytes_840e7 x v n 0 μ = RT 0 (mCpy μ y 0 v n m.length) := by
  obtain ⟨⟨a1, a2, a3, a4, a5⟩, ⟨b1, b2, b3, b4⟩, d, e⟩ := id hx
  unfold FJ0_getBytes_840e7 BJ0_getBytes_840e7_0 BJ0_getBytes_840e7_43
  rw [KD_go a3, coder_rt hx]
  simp only [CL, CLX_rt, not_true, ↓reduceIte]
  rw [GF_go a3 a4, GF_go a3 a4, LN_of b3 b4, bShl_0 n0 (by omega), ACK_of (m1 := m.length) (m2 := cap) v0 b3 v1 b4 v2 (by omega) n0 (by omega) (by omega) n1 (fun j j0 j1 => by rw [Int.zero_add, (e j j0 j1).1]; have := (e j j0 j1).2; omega)]
theorem appS_rt (h : Sb μ b v cap l) (hx : Str μ x y m) (hl : (l.length : Int) + m.length ≤ 300) (hy : y ≠ v) : ∃ ν, FJ4_append_15ec4 b x μ = RT b ν ∧ Apd μ ν b v (l ++ m) := by
  have hl0 : (0 : Int) ≤ l.length := by omega
  have hm0 : (0 : Int) ≤ m.length := by omega
  have hxb : x ≠ b := fun e => by have q1 := hx.1.2.2.1; have q2 := h.1.2.2.1; rw [e] at q1; omega
  have hyb : y ≠ b := fun e => by have q1 := hx.2.1.2.2.1; have q2 := h.1.2.2.1; rw [e] at q1; omega
  obtain ⟨μ1, v1, cap1, e1, h1, hc, f1, hv⟩ := ens_rt h (m := l.length + m.length) (by omega) hl
  have hx1 : Str μ1 x y m := hx.fr f1 hxb hyb
  have hyv : y ≠ v1 := by
    rcases hv with hv | hv
    · rw [hv]; exact hy
    · have := hx.2.1.1; omega
  obtain ⟨⟨a0, a1, a2, a3, a4, a5⟩, ⟨b0, b1, b2, b3⟩, ⟨d0, d1⟩, d2, e⟩ := id h1
  have hvb : v1 ≠ b := fun e => by rw [e] at b2; omega
  have hbx := hx1.2.2.2
  refine ⟨mUp (mCpy μ1 y 0 v1 l.length m.length) b 3 (l.length + m.length), ?_, v1, cap1, ⟨⟨a0, ?_, ?_, ?_, ?_, ?_⟩, ⟨b0, ?_, ?_, ?_⟩, ⟨by rw [ln_app]; omega, d1⟩, fun k k0 k1 => ?_, fun k k0 k1 => ?_⟩, hv, ?_⟩
  · have hS2 : Sb (mCpy μ1 y 0 v1 l.length m.length) b v1 cap1 l → True := fun _ => trivial
    have ep : FJ5_putStringAt_47b60 b l.length x μ1 = RT 0 (mCpy μ1 y 0 v1 l.length m.length) := by
      unfold FJ5_putStringAt_47b60 BJ5_putStringAt_47b60_0
      rw [KD_go a2, inflate_rt h1 hx1]
      simp only [CL, CLX_rt]
      rw [GF_go a2 a3, GF_go a2 a4, KD_go hx1.1.2.2.1, getBytes_rt hx1 b0 b2 b3 (by omega) (by omega) (by omega)]
      simp only [CLX_rt]
    have ea : FJ5_append_cf1ce b x μ = RT b (mUp (mCpy μ1 y 0 v1 l.length m.length) b 3 (l.length + m.length)) := by
      unfold FJ5_append_cf1ce BJ5_append_cf1ce_0
      rw [if_pos (by have := hx.1.2.1; omega), KD_go hx.1.2.2.1, slen_rt hx]
      simp only [CL, CLX_rt]
      rw [GF_go h.1.2.2.1 h.1.2.2.2.2.2, KD_go h.1.2.2.1, w32_eq (by omega) (by omega), e1]
      simp only [CLX_rt]
      rw [GF_go a2 a5, KD_go a2, ep]
      simp only [CLX_rt]
      rw [GF_go (ci := 10) (k := 3) (v := l.length) (by rw [cpy_ne (by omega)]; exact a2) (by rw [cpy_ne (by omega)]; exact a5), PF_l a0 (by rw [cpy_ne (by omega)]; exact a2), w32_eq (by omega) (by omega)]
    unfold FJ4_append_15ec4 BJ4_append_15ec4_0
    rw [KD_go h.1.2.2.1, ea]
    rfl
  · rw [mUp_ne _ _ (by omega), cpy_ne (by omega)]; exact a1
  · rw [mUp_ne _ _ (by omega), cpy_ne (by omega)]; exact a2
  · rw [mUp_ne _ _ (by omega), cpy_ne (by omega)]; exact a3
  · rw [mUp_ne _ _ (by omega), cpy_ne (by omega)]; exact a4
  · rw [mUp_same, ln_app]
  · rw [mUp_ne _ _ (by omega), cpy_ne (by omega)]; exact b1
  · rw [mUp_ne _ _ (by omega), cpy_ne (by omega)]; exact b2
  · rw [mUp_ne _ _ (by omega), cpy_ne (by omega)]; exact b3
  · rw [mUp_ne _ _ (by omega)]
    by_cases q : l.length ≤ k ∧ k < l.length + m.length
    · rw [cpy_at q.1 q.2]
      have := hbx (0 + (k - l.length)) (by omega) (by omega)
      omega
    · rw [cpy_ne (by omega)]
      exact d2 k k0 k1
  · rw [ln_app] at k1
    rw [mUp_ne _ _ (by omega)]
    by_cases q : k < l.length
    · rw [cpy_ne (by omega), gt_l k0 q]
      exact e k k0 q
    · rw [cpy_at (by omega) (by omega), gt_r (by omega), Int.zero_add]
      exact hbx (k - l.length) (by omega) (by omega)
  · have g1 := f1.tr (Q := fun z => z = b ∨ z = v) (FrL.cpy (μ := μ1) (src := y) (dst := v1) (sp := 0) (dp := l.length) (n := m.length) (P := fun z => z = v1) (by omega) (by omega) rfl) (fun _ _ _ e => Or.inl e) (fun z z0 z1 e => by rcases hv with hv | hv; exact Or.inr (e.trans hv); omega)
    have g2 := g1.tr (Q := fun z => z = b ∨ z = v) (FrL.up (μ := mCpy μ1 y 0 v1 l.length m.length) (a := b) (k := 3) (w := l.length + m.length) (P := fun z => z = b) (by omega) (by omega) rfl) (fun _ _ _ e => e) (fun z z0 z1 e => Or.inl e)
    exact g2.le (by omega) (by omega) (fun _ _ _ e => e)
theorem isL_rt (h : Sb μ b v cap l) : FJ5_isLatin1_aae02 b μ = RT 1 μ := by
  unfold FJ5_isLatin1_aae02 BJ5_isLatin1_aae02_0 BJ5_isLatin1_aae02_17 BJ5_isLatin1_aae02_18
  rw [if_neg (by decide), GF_go h.1.2.2.1 h.1.2.2.2.2.1, if_neg (by omega)]
  rfl
/-- one byte more, behind ens_rt -/
theorem put_sb (h1 : Sb μ b v cap l) {z : Int} (hz : 0 ≤ z ∧ z < 128) (hl : (l.length : Int) + 1 ≤ cap) (f1 : (mUp (mUp μ b 3 (l.length + 1)) v l.length z) = ν) : Sb ν b v cap (l ++ [z]) ∧ FrL 0 0 (fun q => q = b ∨ q = v) μ ν := by
  obtain ⟨⟨a0, a1, a2, a3, a4, a5⟩, ⟨b0, b1, b2, b3⟩, ⟨d0, d1⟩, d2, e⟩ := id h1
  have hvb : v ≠ b := fun e => by rw [e] at b2; omega
  have e1 : ((l ++ [z]).length : Int) = l.length + 1 := by rw [List.length_append, List.length_singleton]; omega
  subst f1
  refine ⟨⟨⟨a0, ?_, ?_, ?_, ?_, ?_⟩, ⟨b0, ?_, ?_, ?_⟩, ⟨by omega, d1⟩, fun k k0 k1 => ?_, fun k k0 k1 => ?_⟩, ?_⟩
  · rw [mUp_ne _ _ (by omega), mUp_ne _ _ (by omega)]; exact a1
  · rw [mUp_ne _ _ (by omega), mUp_ne _ _ (by omega)]; exact a2
  · rw [mUp_ne _ _ (by omega), mUp_ne _ _ (by omega)]; exact a3
  · rw [mUp_ne _ _ (by omega), mUp_ne _ _ (by omega)]; exact a4
  · rw [mUp_ne _ _ (by omega), mUp_same, e1]
  · rw [mUp_ne _ _ (by omega), mUp_ne _ _ (by omega)]; exact b1
  · rw [mUp_ne _ _ (by omega), mUp_ne _ _ (by omega)]; exact b2
  · rw [mUp_ne _ _ (by omega), mUp_ne _ _ (by omega)]; exact b3
  · by_cases q : k = l.length
    · rw [q, mUp_same]; omega
    · rw [mUp_ne _ _ (by omega), mUp_ne _ _ (by omega)]; exact d2 k k0 k1
  · by_cases q : k = l.length
    · rw [q, mUp_same, gt_r (Int.le_refl _), Int.sub_self]
      exact ⟨rfl, hz⟩
    · rw [mUp_ne _ _ (by omega), mUp_ne _ _ (by omega), gt_l k0 (by omega)]
      exact e k k0 (by omega)
  · have g := (FrL.up (μ := μ) (a := b) (k := 3) (w := l.length + 1) (P := fun q => q = b ∨ q = v) (by omega) (by omega) (Or.inl rfl)).tr (Q := fun q => q = b ∨ q = v) (FrL.up (μ := mUp μ b 3 (l.length + 1)) (a := v) (k := l.length) (w := z) (P := fun q => q = b ∨ q = v) (by omega) (by omega) (Or.inr rfl)) (fun _ _ _ e => e) (fun _ _ _ e => e)
    simpa using g
theorem apd_put {v1 cap1 : Int} {μ1 : Mem} (f1 : FrL 1 602 (fun z => z = b) μ μ1) (hv : v1 = v ∨ v1 ≤ μ 0 3) (h : Sb ν b v1 cap1 (l ++ [n]) ∧ FrL 0 0 (fun q => q = b ∨ q = v1) μ1 ν) : Apd μ ν b v (l ++ [n]) := by
  refine ⟨v1, cap1, h.1, hv, ?_⟩
  have := f1.tr (Q := fun z => z = b ∨ z = v) h.2 (fun _ _ _ e => Or.inl e) (fun z z0 z1 e => by
    rcases e with e | e
    · exact Or.inl e
    · rcases hv with hv | hv
      · exact Or.inr (e.trans hv)
      · omega)
  exact this.le (by omega) (by omega) (fun _ _ _ e => e)
theorem appC_rt (h : Sb μ b v cap l) {z : Int} (hz : 0 ≤ z ∧ z < 128) (hl : (l.length : Int) + 1 ≤ 300) : ∃ ν, FJ4_append_cf468 b z μ = RT b ν ∧ Apd μ ν b v (l ++ [z]) := by
  obtain ⟨μ1, v1, cap1, e1, h1, hc, f1, hv⟩ := ens_rt h (m := l.length + 1) (by omega) hl
  obtain ⟨⟨a0, a1, a2, a3, a4, a5⟩, ⟨b0, b1, b2, b3⟩, ⟨d0, d1⟩, d2, e⟩ := id h1
  have hvb : v1 ≠ b := fun e => by rw [e] at b2; omega
  refine ⟨_, ?_, apd_put f1 hv (put_sb h1 hz (by omega) rfl)⟩
  have ea : FJ5_append_3fe6f b z μ = RT b (mUp (mUp μ1 b 3 (l.length + 1)) v1 l.length z) := by
    unfold FJ5_append_3fe6f BJ5_append_3fe6f_0 BJ5_append_3fe6f_75
    rw [GF_go h.1.2.2.1 h.1.2.2.2.2.2, KD_go h.1.2.2.1, w32_eq (by omega) (by omega), e1]
    simp only [CL, CLX_rt]
    rw [KD_go a2, isL_rt h1]
    simp only [CLX_rt]
    rw [if_neg (by decide)]
    have ec : FJ1_canEncode_fc78d z μ1 = RT 1 μ1 := by
      unfold FJ1_canEncode_fc78d BJ1_canEncode_fc78d_0 BJ1_canEncode_fc78d_12
      rw [if_neg (by omega)]
      rfl
    rw [ec]
    simp only [CLX_rt]
    rw [if_neg (by decide), GF_go a2 a3, GF_go a2 a5, PF_l a0 a2, w32_eq (by omega) (by omega), ASB_l (n := cap1) b0 (by rw [mUp_ne _ _ (by omega)]; exact b2) (by rw [mUp_ne _ _ (by omega)]; exact b3) (by omega) (by omega), w8_w8, w8_eq (by omega) (by omega)]
  unfold FJ4_append_cf468 BJ4_append_cf468_0
  rw [KD_go h.1.2.2.1, ea]
  rfl
theorem ssz_rt {d : Int} (hd : 0 ≤ d ∧ d ≤ 9) : FJ6_stringSize_0f7a4 d μ = RT 1 μ := by
  unfold FJ6_stringSize_0f7a4 BJ6_stringSize_0f7a4_0 BJ6_stringSize_0f7a4_11
  rw [if_neg (by omega), w32_eq (by omega) (by omega)]
  simp only [LT_eq]
  show BJ6_stringSize_0f7a4_16 _ (-d) 0 (-10) 1 μ = _
  unfold BJ6_stringSize_0f7a4_16
  rw [if_neg (by omega), if_neg (by omega), w32_eq (by omega) (by omega)]
  rfl
theorem getCh_rt {d : Int} (hg : Dg μ) (hd : 0 ≤ d ∧ d ≤ 9) (v0 : v < -21) (v1 : μ v (-1) = 20) (v2 : μ v (-2) = cap) (n0 : 0 ≤ n) (n1 : n < cap) (n2 : cap ≤ 1000) : FJ6_getChars_ba4f3 d (n + 1) v μ = RT n (mUp μ v n (48 + d)) := by
  unfold FJ6_getChars_ba4f3 BJ6_getChars_ba4f3_0 BJ6_getChars_ba4f3_12
  rw [if_pos hd.1, if_neg (by omega), w32_eq (by omega) (by omega)]
  simp only [LT_eq]
  show BJ6_getChars_ba4f3_22 _ (-d) v (n + 1) 0 μ = _
  unfold BJ6_getChars_ba4f3_22 BJ6_getChars_ba4f3_104 BJ6_getChars_ba4f3_118
  rw [if_pos (by omega), w32_eq (z := - -d) (by omega) (by omega), w32_eq (z := n + 1 + -1) (by omega) (by omega), show n + 1 + -1 = n by omega, AL_go (n := 100) (w := 48 + d) hg.1 hg.2.1 (by omega) (by omega) (by rw [Int.neg_neg]; exact hg.2.2 d hd.1 (by omega)), ASB_l (n := cap) v0 v1 v2 n0 n1, if_pos (by omega), if_pos rfl, w8_eq (by omega) (by omega)]
theorem appI_rt (hg : Dg μ) (h : Sb μ b v cap l) {d : Int} (hd : 0 ≤ d ∧ d ≤ 9) (hl : (l.length : Int) + 1 ≤ 300) (h20 : μ 0 3 < -21) : ∃ ν, FJ4_append_bf812 b d μ = RT b ν ∧ Apd μ ν b v (l ++ [48 + d]) := by
  obtain ⟨μ1, v1, cap1, e1, h1, hc, f1, hv⟩ := ens_rt h (m := l.length + 1) (by omega) hl
  obtain ⟨⟨a0, a1, a2, a3, a4, a5⟩, ⟨b0, b1, b2, b3⟩, ⟨d0, d1⟩, d2, e⟩ := id h1
  have hvb : v1 ≠ b := fun e => by rw [e] at b2; omega
  have hg1 : Dg μ1 := ⟨by rw [f1.1 _ _ (by omega) (by omega) (fun e => by omega)]; exact hg.1, by rw [f1.1 _ _ (by omega) (by omega) (fun e => by omega)]; exact hg.2.1, fun j j0 j1 => by rw [f1.1 _ _ (by omega) (by omega) (fun e => by omega)]; exact hg.2.2 j j0 j1⟩
  refine ⟨_, ?_, apd_put f1 hv (put_sb h1 (z := 48 + d) (by omega) (by omega) rfl)⟩
  have hsw : mUp (mUp μ1 v1 l.length (48 + d)) b 3 (l.length + 1) = mUp (mUp μ1 b 3 (l.length + 1)) v1 l.length (48 + d) := by
    funext z k
    by_cases q1 : z = b ∧ k = 3
    · rw [q1.1, q1.2, mUp_same, mUp_ne _ _ (by omega), mUp_same]
    · rw [mUp_ne _ _ q1]
      by_cases q2 : z = v1 ∧ k = l.length
      · rw [q2.1, q2.2, mUp_same, mUp_same]
      · rw [mUp_ne _ _ q2, mUp_ne _ _ q2, mUp_ne _ _ q1]
  have ea : FJ5_append_c97b9 b d μ = RT b (mUp (mUp μ1 b 3 (l.length + 1)) v1 l.length (48 + d)) := by
    unfold FJ5_append_c97b9 BJ5_append_c97b9_0 BJ5_append_c97b9_48
    rw [GF_go h.1.2.2.1 h.1.2.2.2.2.2, ssz_rt hd]
    simp only [CL, CLX_rt, LT_eq]
    rw [w32_eq (by omega) (by omega), KD_go h.1.2.2.1, e1]
    simp only [CLX_rt]
    rw [KD_go a2, isL_rt h1]
    simp only [CLX_rt]
    rw [if_neg (by decide), GF_go a2 a3, getCh_rt hg1 hd b0 b2 b3 (by omega) (by omega) (by omega)]
    simp only [CLX_rt]
    rw [PF_l a0 (by rw [mUp_ne _ _ (by omega)]; exact a2), hsw]
  unfold FJ4_append_bf812 BJ4_append_bf812_0
  rw [KD_go h.1.2.2.1, ea]
  rfl
end SBA
