/-! making objects -/
/-- the next number, the cells and slots made so far -/
def At (D : Int) (μ : Mem) (n c s : Int) : Prop := μ 0 0 = n ∧ μ 0 1 = c ∧ μ 0 2 = s ∧ μ 0 3 = D
section ALC
variable {μ : Mem} {D n c s a v : Int}
theorem mNew_nn {kd len sz z k : Int} (hn : At D μ n c s) (h1 : z ≠ 0) (h2 : z ≠ n) : mNew μ kd len sz z k = μ z k := by
  unfold mNew
  rw [hn.1, if_neg h2, if_neg (by omega), if_neg (by omega), if_neg (by omega)]
theorem mNew_kk {kd len sz : Int} (hn : At D μ n c s) : mNew μ kd len sz n (-1) = kd ∧ mNew μ kd len sz n (-2) = len ∧ ∀ k, 0 ≤ k → mNew μ kd len sz n k = 0 := by
  unfold mNew
  rw [hn.1]
  simp only [↓reduceIte]
  refine ⟨trivial, by rw [if_neg (by omega)], fun k k0 => ?_⟩
  rw [if_neg (by omega), if_neg (by omega)]
theorem mNew_tt {kd len sz : Int} (hn : At D μ n c s) (n0 : 0 < n) : At D (mNew μ kd len sz) (n + 1) (c + 1) (s + sz) := by
  obtain ⟨a1, a2, a3, a4⟩ := hn
  refine ⟨?_, ?_, ?_, ?_⟩
  · unfold mNew
    rw [a1, if_neg (by omega), if_pos (by omega)]
  · unfold mNew
    rw [a1, a2, if_neg (by omega), if_neg (by omega), if_pos (by omega)]
  · unfold mNew
    rw [a1, a3, if_neg (by omega), if_neg (by omega), if_neg (by omega), if_pos (by omega)]
  · unfold mNew
    rw [a1, a4, if_neg (by omega), if_neg (by omega), if_neg (by omega), if_neg (by omega)]
theorem NA_go {t len : Int} (hn : At D μ n c s) (n0 : 0 < n) (l0 : 0 ≤ len) (l1 : len < 100000) : ∃ ν, (∀ K, NA t len μ K = K n ν) ∧ At D ν (n + 1) (c + 1) (s + len) ∧ (ν n (-1) = t + 20 ∧ ν n (-2) = len ∧ ∀ k, 0 ≤ k → ν n k = 0) ∧ ∀ z k, z ≠ 0 → z ≠ n → ν z k = μ z k :=
  ⟨mNew μ (t + 20) len len, fun K => by
    unfold NA
    rw [hn.1]
    exact if_pos ⟨n0, l0, l1⟩, mNew_tt hn n0, mNew_kk hn, fun z k h1 h2 => mNew_nn hn h1 h2⟩
theorem NW_go {ci sz : Int} (hn : At D μ n c s) (n0 : 0 < n) : ∃ ν, (∀ K, NW ci sz μ K = K n ν) ∧ At D ν (n + 1) (c + 1) (s + sz) ∧ (ν n (-1) = ci + 1 ∧ ∀ k, 0 ≤ k → ν n k = 0) ∧ ∀ z k, z ≠ 0 → z ≠ n → ν z k = μ z k :=
  ⟨mNew μ (ci + 1) 0 sz, fun K => by
    unfold NW
    rw [hn.1]
    exact if_pos n0, mNew_tt hn n0, ⟨(mNew_kk hn).1, (mNew_kk hn).2.2⟩, fun z k h1 h2 => mNew_nn hn h1 h2⟩
theorem NM_go (hn : At D μ n c s) (n0 : 0 < n) : ∃ ν, (∀ K, NM 4 192 μ K = K n ν) ∧ At D ν (n + 5) (c + 5) (s + 772) ∧ (ν n (-1) = 27 ∧ ν n (-2) = 4 ∧ ∀ p, 0 ≤ p → p < 4 → ν n p = n + 1 + p ∧ ν (n + 1 + p) (-1) = 21 ∧ ν (n + 1 + p) (-2) = 192 ∧ ∀ k, 0 ≤ k → ν (n + 1 + p) k = 0) ∧ ∀ z k, z ≠ 0 → ¬ (n ≤ z ∧ z ≤ n + 4) → ν z k = μ z k := by
  obtain ⟨a1, a2, a3, a4⟩ := hn
  refine ⟨mMul μ, fun K => ?_, ⟨?_, ?_, ?_, ?_⟩, ⟨?_, ?_, fun p p0 p1 => ⟨?_, ?_, ?_, fun k k0 => ?_⟩⟩, fun z k h1 h2 => ?_⟩
  · unfold NM
    rw [a1]
    exact if_pos ⟨n0, rfl, rfl⟩
  · unfold mMul
    rw [a1, if_neg (by omega), if_neg (by omega), if_pos (by omega)]
  · unfold mMul
    rw [a1, a2, if_neg (by omega), if_neg (by omega), if_neg (by omega), if_pos (by omega)]
  · unfold mMul
    rw [a1, a3, if_neg (by omega), if_neg (by omega), if_neg (by omega), if_neg (by omega), if_pos (by omega)]
  · unfold mMul
    rw [a1, a4, if_neg (by omega), if_neg (by omega), if_neg (by omega), if_neg (by omega), if_neg (by omega)]
  · unfold mMul
    rw [a1, if_pos rfl, if_pos rfl]
  · unfold mMul
    rw [a1, if_pos rfl, if_neg (by omega), if_pos rfl]
  · unfold mMul
    rw [a1, if_pos rfl, if_neg (by omega), if_neg (by omega), if_pos (by omega)]
  · unfold mMul
    rw [a1, if_neg (by omega), if_pos (by omega), if_pos rfl]
  · unfold mMul
    rw [a1, if_neg (by omega), if_pos (by omega), if_neg (by omega), if_pos rfl]
  · unfold mMul
    rw [a1, if_neg (by omega), if_pos (by omega), if_neg (by omega), if_neg (by omega)]
  · unfold mMul
    rw [a1, if_neg (by omega), if_neg (by omega), if_neg (by omega), if_neg (by omega), if_neg (by omega)]
theorem At.fr {ν : Mem} (hn : At D μ n c s) (f : ∀ k, ν 0 k = μ 0 k) : At D ν n c s := ⟨(f 0).trans hn.1, (f 1).trans hn.2.1, (f 2).trans hn.2.2.1, (f 3).trans hn.2.2.2⟩
theorem PF_go {ci k : Int} (hn : At D μ n c s) (a0 : 0 < a) (h : μ a (-1) = ci + 1) : ∃ ν, (∀ K, PF ci k a v μ K = K ν) ∧ At D ν n c s ∧ ν a k = v ∧ ∀ z j, ¬ (z = a ∧ j = k) → ν z j = μ z j :=
  ⟨mUp μ a k v, fun K => if_pos ⟨Or.inl a0, h⟩, hn.fr fun j => mUp_ne _ _ (by omega), mUp_same _ _ _ _, fun z j hz => mUp_ne _ _ hz⟩
theorem PZ_go {ci k : Int} (hn : At D μ n c s) (a0 : 0 < a) (h : μ a (-1) = ci + 1) : ∃ ν, (∀ K, PZ ci k a 0 μ K = K ν) ∧ At D ν n c s ∧ ν a k = 0 ∧ ∀ z j, ¬ (z = a ∧ j = k) → ν z j = μ z j :=
  ⟨mUp μ a k 0, fun K => if_pos ⟨Or.inl a0, h, Or.inl rfl⟩, hn.fr fun j => mUp_ne _ _ (by omega), mUp_same _ _ _ _, fun z j hz => mUp_ne _ _ hz⟩
theorem ASR_go {t ci i : Int} (hn : At D μ n c s) (a0 : 0 < a) (h1 : μ a (-1) = t + 20) (h2 : 0 ≤ i ∧ i < μ a (-2)) (h3 : μ v (-1) = ci + 1) : ∃ ν, (∀ K, ASR t ci a i v μ K = K ν) ∧ At D ν n c s ∧ ν a i = v ∧ ∀ z j, ¬ (z = a ∧ j = i) → ν z j = μ z j :=
  ⟨mUp μ a i v, fun K => if_pos ⟨Or.inl a0, h1, h2.1, h2.2, h3⟩, hn.fr fun j => mUp_ne _ _ (by omega), mUp_same _ _ _ _, fun z j hz => mUp_ne _ _ hz⟩
theorem GF_go {ci k : Int} {K : Int → Rz} (h : μ a (-1) = ci + 1) (h2 : μ a k = v) : GF ci k a μ K = K v := by
  unfold GF
  rw [if_pos h, h2]
theorem KD_go {ci : Int} {r : Rz} (h : μ a (-1) = ci + 1) : KD ci a μ r = r := if_pos h
/-- a screen -/
theorem init3_rt (hn : At D μ n c s) (a0 : 0 < a) (a1 : a < n) (h : μ a (-1) = 4) : ∃ ν, FX3_init a μ = RT 0 ν ∧ At D ν (n + 1) (c + 1) (s + 324) ∧ (ν a 3 = -1 ∧ ν a 4 = n ∧ ν n (-1) = 21 ∧ ν n (-2) = 324) ∧ ∀ z k, z ≠ 0 → ¬ (z = a ∧ 0 ≤ k ∧ k ≤ 4) → z ≠ n → ν z k = μ z k := by
  obtain ⟨μ1, e1, t1, v1, f1⟩ := PF_go (ci := 3) (k := 0) (v := 0) hn a0 h
  obtain ⟨μ2, e2, t2, v2, f2⟩ := PF_go (ci := 3) (k := 1) (v := 0) t1 a0 (by rw [f1 _ _ (by omega)]; exact h)
  obtain ⟨μ3, e3, t3, v3, f3⟩ := PF_go (ci := 3) (k := 2) (v := 0) t2 a0 (by rw [f2 _ _ (by omega), f1 _ _ (by omega)]; exact h)
  obtain ⟨μ4, e4, t4, v4, f4⟩ := PF_go (ci := 3) (k := 3) (v := -1) t3 a0 (by rw [f3 _ _ (by omega), f2 _ _ (by omega), f1 _ _ (by omega)]; exact h)
  obtain ⟨μ5, e5, t5, ⟨v5, w5, y5⟩, f5⟩ := NA_go (t := 1) (len := 324) t4 (by omega) (by omega) (by omega)
  obtain ⟨μ6, e6, t6, v6, f6⟩ := PF_go (ci := 3) (k := 4) (v := n) t5 a0 (by rw [f5 _ _ (by omega) (by omega), f4 _ _ (by omega), f3 _ _ (by omega), f2 _ _ (by omega), f1 _ _ (by omega)]; exact h)
  refine ⟨μ6, ?_, t6, ⟨by rw [f6 _ _ (by omega), f5 _ _ (by omega) (by omega)]; exact v4, v6, by rw [f6 _ _ (by omega)]; exact v5, by rw [f6 _ _ (by omega)]; exact w5⟩, fun z k h1 h2 h3 => by rw [f6 _ _ (by omega), f5 _ _ (by omega) (by omega), f4 _ _ (by omega), f3 _ _ (by omega), f2 _ _ (by omega), f1 _ _ (by omega)]⟩
  unfold FX3_init BX3_init_0
  rw [if_pos a0, e1, e2, e3, e4, e5, e6]
end ALC

