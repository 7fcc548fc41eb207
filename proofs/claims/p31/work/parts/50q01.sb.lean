/-! the law's own objects: what a call leaves as it was; a StringBuilder and the bytes it holds -/
def gt (l : List Int) (k : Int) : Int := l.getD k.toNat 0
theorem gt_l {l m : List Int} {k : Int} (k0 : 0 ≤ k) (h : k < l.length) : gt (l ++ m) k = gt l k := by
  unfold gt
  rw [List.getD_eq_getElem?_getD, List.getD_eq_getElem?_getD, List.getElem?_append_left (by omega)]
theorem gt_r {l m : List Int} {k : Int} (h : l.length ≤ k) : gt (l ++ m) k = gt m (k - l.length) := by
  unfold gt
  rw [List.getD_eq_getElem?_getD, List.getD_eq_getElem?_getD, List.getElem?_append_right (by omega)]
  congr 2
  congr 1
  omega
theorem bShr_z {v : Int} (h : i32 v) : bShr v 0 = v := by
  have := bShr_int h (k := 0) (by omega)
  simpa using this
theorem bShl_nat {m : Nat} {k : Nat} (hk : k < 31) (h : m * 2 ^ k < 2147483648) : bShl m k = ((m * 2 ^ k : Nat) : Int) := by
  have h0 : m ≤ m * 2 ^ k := Nat.le_mul_of_pos_right m (Nat.two_pow_pos k)
  show ((Int32.ofInt (m : Int)).toBitVec <<< ((Int32.ofInt (k : Int) &&& 31).toBitVec.smod 32)).toInt = _
  refine bv_int ?_ h
  rw [BitVec.shiftLeft_eq', BitVec.toNat_shiftLeft, sh_amt ⟨k, hk⟩, Nat.shiftLeft_eq, bv_of, bv_nat (by omega), Nat.mod_eq_of_lt (by show m * 2 ^ k < 2 ^ 32; omega)]
theorem bShl_0 {v : Int} (h0 : 0 ≤ v) (h1 : v < 2147483648) : bShl v 0 = v := by
  have := bShl_nat (m := v.toNat) (k := 0) (by omega) (by omega)
  rw [Int.toNat_of_nonneg h0] at this
  rw [show (((0 : Nat) : Int)) = 0 from rfl] at this
  rw [this]
  omega
/-- a call of the law: what it makes, what it may write, all else stays -/
def FrL (c s : Int) (P : Int → Prop) (μ ν : Mem) : Prop := (∀ z k, z ≠ 0 → μ 0 3 < z → ¬ (0 ≤ k ∧ P z) → ν z k = μ z k) ∧ (ν 0 0 = μ 0 0 ∧ ν 0 3 ≤ μ 0 3 ∧ ν 0 1 ≤ μ 0 1 + c ∧ ν 0 2 ≤ μ 0 2 + s)
abbrev NoP : Int → Prop := fun _ => False
section FRL
variable {μ ν ξ : Mem} {c s c' s' : Int} {P P' Q : Int → Prop}
theorem FrL.rf : FrL 0 0 P μ μ := ⟨fun _ _ _ _ _ => rfl, rfl, Int.le_refl _, by omega, by omega⟩
theorem FrL.tr (h : FrL c s P μ ν) (h' : FrL c' s' P' ν ξ) (hP : ∀ z, z ≠ 0 → μ 0 3 < z → P z → Q z) (hQ : ∀ z, z ≠ 0 → μ 0 3 < z → P' z → Q z) : FrL (c + c') (s + s') Q μ ξ := by
  obtain ⟨f, a1, a2, a3, a4⟩ := h
  obtain ⟨g, b1, b2, b3, b4⟩ := h'
  exact ⟨fun z k h0 h1 h2 => by
    rw [g z k h0 (by omega) (fun e => h2 ⟨e.1, hQ z h0 h1 e.2⟩), f z k h0 h1 (fun e => h2 ⟨e.1, hP z h0 h1 e.2⟩)], by omega, by omega, by omega, by omega⟩
theorem FrL.le (h : FrL c s P μ ν) (hc : c ≤ c') (hs : s ≤ s') (hP : ∀ z, z ≠ 0 → μ 0 3 < z → P z → Q z) : FrL c' s' Q μ ν := by
  obtain ⟨f, a1, a2, a3, a4⟩ := h
  exact ⟨fun z k h0 h1 h2 => f z k h0 h1 (fun e => h2 ⟨e.1, hP z h0 h1 e.2⟩), a1, a2, by omega, by omega⟩
theorem FrL.up {a k w : Int} (ha : a ≠ 0) (hk : 0 ≤ k) (hP : P a) : FrL 0 0 P μ (mUp μ a k w) :=
  ⟨fun z j h0 h1 h2 => mUp_ne _ _ (fun e => h2 ⟨by omega, by rw [e.1]; exact hP⟩), mUp_ne _ _ (by omega), by rw [mUp_ne _ _ (by omega)]; exact Int.le_refl _, by rw [mUp_ne _ _ (by omega)]; omega, by rw [mUp_ne _ _ (by omega)]; omega⟩
theorem FrL.kind (h : FrL c s P μ ν) {z k : Int} (h0 : z ≠ 0) (h1 : μ 0 3 < z) (hk : k < 0) : ν z k = μ z k := h.1 z k h0 h1 (fun e => by omega)
theorem mNewN_ne {kd len sz z k : Int} (h0 : z ≠ 0) (h : z ≠ μ 0 3) : mNewN μ kd len sz z k = μ z k := by
  unfold mNewN
  rw [if_neg h, if_neg (by omega), if_neg (by omega), if_neg (by omega)]
theorem mNewN_row {kd len sz : Int} : mNewN μ kd len sz (μ 0 3) (-1) = kd ∧ mNewN μ kd len sz (μ 0 3) (-2) = len ∧ ∀ k, 0 ≤ k → mNewN μ kd len sz (μ 0 3) k = 0 := by
  unfold mNewN
  simp only [↓reduceIte]
  refine ⟨trivial, by rw [if_neg (by omega)], fun k k0 => ?_⟩
  rw [if_neg (by omega), if_neg (by omega)]
theorem mNewN_fr {kd len sz : Int} (h3 : μ 0 3 < -21) : FrL 1 sz P μ (mNewN μ kd len sz) ∧ mNewN μ kd len sz 0 3 = μ 0 3 - 1 := by
  have e3 : mNewN μ kd len sz 0 3 = μ 0 3 - 1 := by
    unfold mNewN
    rw [if_neg (by omega), if_pos (by omega)]
  refine ⟨⟨fun z k h0 h1 _ => mNewN_ne h0 (by omega), ?_, by omega, ?_, ?_⟩, e3⟩
  · unfold mNewN
    rw [if_neg (by omega), if_neg (by omega), if_neg (by omega), if_neg (by omega)]
  · unfold mNewN
    rw [if_neg (by omega), if_neg (by omega), if_pos (by omega)]
    omega
  · unfold mNewN
    rw [if_neg (by omega), if_neg (by omega), if_neg (by omega), if_pos (by omega)]
    omega
theorem NWn_go {ci sz : Int} (h3 : μ 0 3 < -21) : ∃ ν, (∀ K, NWn ci sz μ K = K (μ 0 3) ν) ∧ (ν (μ 0 3) (-1) = ci + 1 ∧ ∀ k, 0 ≤ k → ν (μ 0 3) k = 0) ∧ ν 0 3 = μ 0 3 - 1 ∧ FrL 1 sz NoP μ ν :=
  ⟨mNewN μ (ci + 1) 0 sz, fun K => if_pos h3, ⟨mNewN_row.1, mNewN_row.2.2⟩, (mNewN_fr (P := NoP) h3).2, (mNewN_fr h3).1⟩
theorem NAn_go {t len : Int} (h3 : μ 0 3 < -21) (l0 : 0 ≤ len) (l1 : len < 100000) : ∃ ν, (∀ K, NAn t len μ K = K (μ 0 3) ν) ∧ (ν (μ 0 3) (-1) = t + 20 ∧ ν (μ 0 3) (-2) = len ∧ ∀ k, 0 ≤ k → ν (μ 0 3) k = 0) ∧ ν 0 3 = μ 0 3 - 1 ∧ FrL 1 len NoP μ ν :=
  ⟨mNewN μ (t + 20) len len, fun K => if_pos ⟨h3, l0, l1⟩, mNewN_row, (mNewN_fr (P := NoP) h3).2, (mNewN_fr h3).1⟩
theorem PF_l {ci k a w : Int} {K : Mem → Rz} (h0 : a < -21) (h : μ a (-1) = ci + 1) : PF ci k a w μ K = K (mUp μ a k w) := if_pos ⟨Or.inr h0, h⟩
theorem PB_l {ci k a w : Int} {K : Mem → Rz} (h0 : a < -21) (h : μ a (-1) = ci + 1) (hw : w = 0 ∨ w = 1) : PB ci k a w μ K = K (mUp μ a k w) := if_pos ⟨Or.inr h0, h, hw⟩
theorem ASB_l {a i w n : Int} {K : Mem → Rz} (h9 : a < -21) (h : μ a (-1) = 20) (hn : μ a (-2) = n) (h0 : 0 ≤ i) (h1 : i < n) : ASB a i w μ K = K (mUp μ a i (w8 w)) := if_pos ⟨Or.inr h9, h, h0, by rw [hn]; exact h1⟩
theorem AS_l {t a i w n : Int} {K : Mem → Rz} (h9 : a < -21) (h : μ a (-1) = t + 20) (hn : μ a (-2) = n) (h0 : 0 ≤ i) (h1 : i < n) : AS t a i w μ K = K (mUp μ a i w) := if_pos ⟨Or.inr h9, h, h0, by rw [hn]; exact h1⟩
theorem AL_go {t a i n w : Int} {K : Int → Rz} (h : μ a (-1) = t + 20) (hn : μ a (-2) = n) (h0 : 0 ≤ i) (h1 : i < n) (hw : μ a i = w) : AL t a i μ K = K w := by
  rw [AL_of h hn h0 h1, hw]
theorem ACK_of {src dst sp dp n m1 m2 : Int} {K : Mem → Rz} (h0 : dst < -21) (k1 : μ src (-1) = 20) (k2 : μ dst (-1) = 20) (l1 : μ src (-2) = m1) (l2 : μ dst (-2) = m2) (sp0 : 0 ≤ sp) (dp0 : 0 ≤ dp) (n0 : 0 ≤ n) (n1 : sp + n ≤ m1) (n2 : dp + n ≤ m2) (hb : ∀ j, 0 ≤ j → j < n → -128 ≤ μ src (sp + j) ∧ μ src (sp + j) < 128) : ACK src sp dst dp n μ K = K (mCpy μ src sp dst dp n) := by
  refine if_pos ⟨Or.inr h0, k1, k2, sp0, dp0, n0, ⟨by omega, by omega⟩, ?_⟩
  rw [List.all_eq_true]
  intro j hj
  have hj := List.mem_range.mp hj
  exact decide_eq_true (hb j (by omega) (by omega))
theorem cpy_ne {src dst sp dp n z k : Int} (h : ¬ (z = dst ∧ dp ≤ k ∧ k < dp + n)) : mCpy μ src sp dst dp n z k = μ z k := if_neg h
theorem cpy_at {src dst sp dp n k : Int} (h0 : dp ≤ k) (h1 : k < dp + n) : mCpy μ src sp dst dp n dst k = μ src (sp + (k - dp)) := if_pos ⟨rfl, h0, h1⟩
theorem FrL.cpy {src dst sp dp n : Int} (ha : dst ≠ 0) (hk : 0 ≤ dp) (hP : P dst) : FrL 0 0 P μ (mCpy μ src sp dst dp n) :=
  ⟨fun z j h0 h1 h2 => cpy_ne (fun e => h2 ⟨by omega, by rw [e.1]; exact hP⟩), cpy_ne (by omega), by rw [cpy_ne (by omega)]; exact Int.le_refl _, by rw [cpy_ne (by omega)]; omega, by rw [cpy_ne (by omega)]; omega⟩
end FRL
/-- a String with its bytes -/
def Str (μ : Mem) (x y : Int) (l : List Int) : Prop := (μ 0 3 < x ∧ x < 0 ∧ μ x (-1) = 10 ∧ μ x 0 = y ∧ μ x 1 = 0) ∧ (μ 0 3 < y ∧ y < 0 ∧ μ y (-1) = 20 ∧ μ y (-2) = l.length) ∧ (l.length : Int) ≤ 300 ∧ ∀ k : Int, 0 ≤ k → k < l.length → μ y k = gt l k ∧ 0 ≤ gt l k ∧ gt l k < 128
/-- a StringBuilder with its bytes -/
def Sb (μ : Mem) (b v cap : Int) (l : List Int) : Prop := (b < -21 ∧ μ 0 3 < b ∧ μ b (-1) = 11 ∧ μ b 0 = v ∧ μ b 1 = 0 ∧ μ b 3 = l.length) ∧ (v < -21 ∧ μ 0 3 < v ∧ μ v (-1) = 20 ∧ μ v (-2) = cap) ∧ ((l.length : Int) ≤ cap ∧ cap ≤ 602) ∧ (∀ k, 0 ≤ k → k < cap → -128 ≤ μ v k ∧ μ v k < 128) ∧ ∀ k : Int, 0 ≤ k → k < l.length → μ v k = gt l k ∧ 0 ≤ gt l k ∧ gt l k < 128
section SBS
variable {μ ν ξ : Mem} {c s b v cap x y : Int} {l m : List Int} {P : Int → Prop}
theorem Str.fr (h : Str μ x y l) (f : FrL c s P μ ν) (h1 : ¬ P x) (h2 : ¬ P y) : Str ν x y l := by
  obtain ⟨⟨a1, a2, a3, a4, a5⟩, ⟨b1, b2, b3, b4⟩, d, e⟩ := h
  have g := f.2.2.1
  refine ⟨⟨by omega, a2, ?_, ?_, ?_⟩, ⟨by omega, b2, ?_, ?_⟩, d, fun k k0 k1 => ?_⟩
  · rw [f.1 _ _ (by omega) a1 (fun e => h1 e.2)]; exact a3
  · rw [f.1 _ _ (by omega) a1 (fun e => h1 e.2)]; exact a4
  · rw [f.1 _ _ (by omega) a1 (fun e => h1 e.2)]; exact a5
  · rw [f.1 _ _ (by omega) b1 (fun e => h2 e.2)]; exact b3
  · rw [f.1 _ _ (by omega) b1 (fun e => h2 e.2)]; exact b4
  · rw [f.1 _ _ (by omega) b1 (fun e => h2 e.2)]; exact e k k0 k1
theorem Sb.fr (h : Sb μ b v cap l) (f : FrL c s P μ ν) (h1 : ¬ P b) (h2 : ¬ P v) : Sb ν b v cap l := by
  obtain ⟨⟨a0, a1, a2, a3, a4, a5⟩, ⟨b0, b1, b2, b3⟩, d, d2, e⟩ := h
  have g := f.2.2.1
  refine ⟨⟨a0, by omega, ?_, ?_, ?_, ?_⟩, ⟨b0, by omega, ?_, ?_⟩, d, fun k k0 k1 => ?_, fun k k0 k1 => ?_⟩
  · rw [f.1 _ _ (by omega) a1 (fun e => h1 e.2)]; exact a2
  · rw [f.1 _ _ (by omega) a1 (fun e => h1 e.2)]; exact a3
  · rw [f.1 _ _ (by omega) a1 (fun e => h1 e.2)]; exact a4
  · rw [f.1 _ _ (by omega) a1 (fun e => h1 e.2)]; exact a5
  · rw [f.1 _ _ (by omega) b1 (fun e => h2 e.2)]; exact b2
  · rw [f.1 _ _ (by omega) b1 (fun e => h2 e.2)]; exact b3
  · rw [f.1 _ _ (by omega) b1 (fun e => h2 e.2)]; exact d2 k k0 k1
  · rw [f.1 _ _ (by omega) b1 (fun e => h2 e.2)]; exact e k k0 k1
theorem coder_rt (h : Str μ x y l) : FJ0_coder_7d493 x μ = RT 0 μ := by
  unfold FJ0_coder_7d493 BJ0_coder_7d493_0 BJ0_coder_7d493_14
  rw [if_neg (by decide), GF_go h.1.2.2.1 h.1.2.2.2.2]
  exact if_pos (by decide)
theorem slen_rt (h : Str μ x y l) : FJ0_length_8abf5 x μ = RT l.length μ := by
  have h9 := h.2.2.1
  unfold FJ0_length_8abf5 BJ0_length_8abf5_0
  rw [GF_go h.1.2.2.1 h.1.2.2.2.1, LN_of h.2.1.2.2.1 h.2.1.2.2.2, KD_go h.1.2.2.1, coder_rt h]
  simp only [CL, CLX_rt]
  rw [bShr_z (by unfold i32; omega)]
theorem newLen_rt {a p q : Int} (h0 : 0 < a + mx p q) (h1 : a + mx p q ≤ 100000) : FJ8_newLength_cabcc a p q μ = RT (a + mx p q) μ := by
  unfold FJ8_newLength_cabcc BJ8_newLength_cabcc_0
  rw [max_rt]
  simp only [CL, CLX_rt, LT_eq]
  rw [w32_eq (by omega) (by omega), if_neg (by omega), if_neg (by omega)]
theorem newCap_rt (h : Sb μ b v cap l) {m : Int} (h1 : cap < m) (h2 : m ≤ 300) : FJ5_newCapacity_0f7a4 b m μ = RT (cap + mx (m - cap) (cap + 2)) μ := by
  obtain ⟨⟨a0, a1, a2, a3, a4, a5⟩, ⟨b0, b1, b2, b3⟩, d, d2, e⟩ := h
  have hm : mx (m - cap) (cap + 2) ≤ 302 ∧ 0 < mx (m - cap) (cap + 2) := by
    unfold mx
    split <;> omega
  unfold FJ5_newCapacity_0f7a4 BJ5_newCapacity_0f7a4_0
  rw [GF_go a2 a3, LN_of b2 b3, GF_go a2 a4]
  simp only [LT_eq]
  rw [bShl_0 (by omega) (by omega), w32_eq (z := m - cap) (by omega) (by omega), GF_go a2 a4, bShl_0 (v := 2) (by omega) (by omega), w32_eq (z := cap + 2) (by omega) (by omega), newLen_rt (by omega) (by omega)]
  simp only [CL, CLX_rt]
  rw [if_pos (by omega), GF_go a2 a4, bShr_z (by unfold i32; omega)]
theorem copyOf_rt {k : Int} (h3 : μ 0 3 < -21) (v0 : v ≠ 0) (v1 : μ 0 3 < v) (k1 : μ v (-1) = 20) (k2 : μ v (-2) = cap) (c0 : 0 ≤ cap) (ck : cap < k) (k9 : k ≤ 1000) (hb : ∀ j, 0 ≤ j → j < cap → -128 ≤ μ v j ∧ μ v j < 128) : ∃ ν, FJ7_copyOf_9075b v k μ = RT (μ 0 3) ν ∧ (ν (μ 0 3) (-1) = 20 ∧ ν (μ 0 3) (-2) = k) ∧ (∀ j, 0 ≤ j → j < k → ν (μ 0 3) j = if j < cap then μ v j else 0) ∧ ν 0 3 = μ 0 3 - 1 ∧ FrL 1 k NoP μ ν := by
  obtain ⟨μ1, e1, ⟨g1, g2, g3⟩, g4, f⟩ := NAn_go (t := 0) h3 (len := k) (by omega) (by omega)
  have q1 : μ1 v (-1) = 20 := by rw [f.kind v0 v1 (by omega)]; exact k1
  have q2 : μ1 v (-2) = cap := by rw [f.kind v0 v1 (by omega)]; exact k2
  have q3 : ∀ j, μ1 v j = μ v j := fun j => f.1 _ _ v0 v1 (fun e => e.2)
  have hmn : mn cap k = cap := by unfold mn; rw [if_neg (by omega)]
  refine ⟨mCpy μ1 v 0 (μ 0 3) 0 cap, ?_, ⟨by rw [cpy_ne (by omega)]; exact g1, by rw [cpy_ne (by omega)]; exact g2⟩, fun j j0 j1 => ?_, by rw [cpy_ne (by omega)]; exact g4, ?_⟩
  · unfold FJ7_copyOf_9075b BJ7_copyOf_9075b_0
    rw [LN_of k1 k2, if_pos (by omega), e1, LN_of q1 q2, min_rt, hmn]
    simp only [CL, CLX_rt]
    rw [ACK_of (m1 := cap) (m2 := k) h3 q1 g1 q2 g2 (by omega) (by omega) c0 (by omega) (by omega) (fun j j0 j1 => by rw [q3, Int.zero_add]; exact hb j j0 j1)]
  · by_cases e : j < cap
    · rw [if_pos e, cpy_at j0 (by omega), q3]
      congr 1
      omega
    · rw [if_neg e, cpy_ne (by omega), g3 j j0]
  · have h9 : FrL 1 k (fun z => z = μ 0 3) μ (mCpy μ1 v 0 (μ 0 3) 0 cap) := by
      have := f.tr (Q := fun z => z = μ 0 3) (FrL.cpy (μ := μ1) (src := v) (dst := μ 0 3) (sp := 0) (dp := 0) (n := cap) (P := fun z => z = μ 0 3) (by omega) (by omega) rfl) (fun _ _ _ e => e.elim) (fun _ _ _ e => e)
      simpa using this
    exact h9.le (by omega) (by omega) (fun z _ h e => by omega)
theorem ens_rt (h : Sb μ b v cap l) {m : Int} (hm : l.length ≤ m) (h2 : m ≤ 300) : ∃ ν v' cap', FJ5_ensureCapacityInternal_d00df b m μ = RT 0 ν ∧ Sb ν b v' cap' l ∧ m ≤ cap' ∧ FrL 1 602 (fun z => z = b) μ ν ∧ (v' = v ∨ v' ≤ μ 0 3) := by
  obtain ⟨⟨a0, a1, a2, a3, a4, a5⟩, ⟨b0, b1, b2, b3⟩, d, d2, e⟩ := id h
  have h3 : μ 0 3 < -21 := by omega
  by_cases hq : m ≤ cap
  · refine ⟨μ, v, cap, ?_, h, hq, FrL.rf.le (by omega) (by omega) (fun _ _ _ e => e), Or.inl rfl⟩
    unfold FJ5_ensureCapacityInternal_d00df BJ5_ensureCapacityInternal_d00df_0
    rw [GF_go a2 a3, LN_of b2 b3, GF_go a2 a4]
    simp only [LT_eq]
    rw [bShr_z (by unfold i32; omega), w32_eq (by omega) (by omega), if_pos (by omega)]
    rfl
  · have hx : mx (m - cap) (cap + 2) ≤ 302 ∧ 2 ≤ mx (m - cap) (cap + 2) ∧ m - cap ≤ mx (m - cap) (cap + 2) := by
      unfold mx
      split <;> omega
    obtain ⟨μ1, e1, ⟨g1, g2⟩, g3, g4, f⟩ := copyOf_rt (k := cap + mx (m - cap) (cap + 2)) h3 (by omega) b1 b2 b3 (by omega) (by omega) (by omega) d2
    have q1 : μ1 b (-1) = 11 := by rw [f.kind (by omega) a1 (by omega)]; exact a2
    have q2 : ∀ k, μ1 b k = μ b k := fun k => f.1 _ _ (by omega) a1 (fun e => e.2)
    refine ⟨mUp μ1 b 0 (μ 0 3), μ 0 3, cap + mx (m - cap) (cap + 2), ?_, ⟨⟨a0, ?_, ?_, ?_, ?_, ?_⟩, ⟨h3, ?_, ?_, ?_⟩, ⟨by omega, by omega⟩, fun k k0 k1 => ?_, fun k k0 k1 => ?_⟩, by omega, ?_, Or.inr (Int.le_refl _)⟩
    · unfold FJ5_ensureCapacityInternal_d00df BJ5_ensureCapacityInternal_d00df_0
      rw [GF_go a2 a3, LN_of b2 b3, GF_go a2 a4]
      simp only [LT_eq]
      rw [bShr_z (by unfold i32; omega), w32_eq (by omega) (by omega), if_neg (by omega), GF_go a2 a3, KD_go a2, newCap_rt h (by omega) h2]
      simp only [CL, CLX_rt]
      rw [GF_go a2 a4, bShl_0 (by omega) (by omega), e1]
      simp only [CL, CLX_rt]
      rw [PF_l a0 q1]
      rfl
    · rw [mUp_ne _ _ (by omega)]; omega
    · rw [mUp_ne _ _ (by omega)]; exact q1
    · rw [mUp_same]
    · rw [mUp_ne _ _ (by omega), q2]; exact a4
    · rw [mUp_ne _ _ (by omega), q2]; exact a5
    · rw [mUp_ne _ _ (by omega)]; omega
    · rw [mUp_ne _ _ (by omega)]; exact g1
    · rw [mUp_ne _ _ (by omega)]; exact g2
    · rw [mUp_ne _ _ (by omega), g3 k k0 k1]
      split
      · exact d2 k k0 (by omega)
      · omega
    · rw [mUp_ne _ _ (by omega), g3 k k0 (by omega), if_pos (by omega)]
      exact e k k0 k1
    · have := f.tr (Q := fun z => z = b) (FrL.up (μ := μ1) (a := b) (k := 0) (w := μ 0 3) (P := fun z => z = b) (by omega) (by omega) rfl) (fun _ _ _ e => e.elim) (fun _ _ _ e => e)
      exact this.le (by omega) (by omega) (fun _ _ _ e => e)
end SBS
