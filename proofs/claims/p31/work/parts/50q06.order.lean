/-! the law's places in their order -/
/-- the place j comes ahead of k -/
abbrev ahd (sh a b j k : Int) : Prop := mK sh a b j < mK sh a b k ∨ (mK sh a b j = mK sh a b k ∧ j < k)
def Sm : List Int → (Int → Int) → Int
  | [], _ => 0
  | z :: l, f => f z + Sm l f
def Pla (μ : Mem) (z x y m : Int) : Prop := (z < -21 ∧ μ 0 3 < z ∧ μ z (-1) = 8) ∧ μ z 0 = x ∧ μ z 1 = y ∧ μ z 2 = m
/-- the places ids have the keys ks, in their order -/
def Ord (μ : Mem) (sh a b : Int) (ids ks : List Int) : Prop := ids.length = ks.length ∧ (∀ k : Int, 0 ≤ k → k < ks.length → Pla μ (gt ids k) (gt ks k % (a * a + b * b)) (gt ks k / (a * a + b * b)) (mK sh a b (gt ks k)) ∧ 0 ≤ gt ks k ∧ gt ks k < (a * a + b * b) * (a * a + b * b)) ∧ ∀ i k : Int, 0 ≤ i → i < k → k < ks.length → ahd sh a b (gt ks i) (gt ks k)
section ORD
variable {μ ν ξ : Mem} {c s a b sh x y j k z i : Int} {l m ids ks : List Int} {P : Int → Prop}
theorem ahd_tr {n : Int} (h : ahd sh a b j k) (h2 : ahd sh a b k n) : ahd sh a b j n := by
  unfold ahd at *
  omega
theorem ahd_ne (h : ¬ ahd sh a b j k) (hn : j ≠ k) : ahd sh a b k j := by
  unfold ahd at *
  omega
theorem ahd_as (h : ahd sh a b j k) : ¬ ahd sh a b k j := by
  unfold ahd at *
  omega
theorem ahd_ir : ¬ ahd sh a b j j := by
  unfold ahd
  omega
theorem Sm_app {f : Int → Int} : ∀ l : List Int, Sm (l ++ m) f = Sm l f + Sm m f
  | [] => by simp [Sm]
  | z :: l => by
    rw [List.cons_append, Sm, Sm, Sm_app l]
    omega
theorem Sm_ins {f : Int → Int} : Sm (insL l i z) f = Sm l f + f z := by
  unfold insL
  rw [Sm_app, Sm]
  have h := Sm_app (m := l.drop i.toNat) (f := f) (l.take i.toNat)
  rw [List.take_append_drop] at h
  omega
/-- a sum over a list, place by place -/
theorem Sm_su {f : Int → Int} : ∀ l : List Int, Sm l f = su (fun i => f (gt l i)) l.length
  | [] => rfl
  | z :: l => by
    have h := su_split (fun i => f (gt (z :: l) i)) (a := 1) (by omega) l.length
    have e1 : su (fun i => f (gt (z :: l) i)) 1 = f z := by
      rw [show (1 : Int) = 0 + 1 from rfl, su_s _ (Int.le_refl _), su_0, gt_cons, if_pos (Int.le_refl _)]
      omega
    rw [Sm, Sm_su l, List.length_cons, show ((l.length + 1 : Nat) : Int) = 1 + l.length by omega, h, e1]
    congr 1
    refine su_ext fun i i0 i1 => ?_
    rw [gt_cons, if_neg (by omega), show 1 + i - 1 = i by omega]
theorem su_lt {n k : Int} (n0 : 0 ≤ k) (h : k ≤ n) : su (fun i => if i < k then 1 else 0) n = k := by
  have h1 := su_split (fun i => if i < k then (1 : Int) else 0) (a := k) n0 (n - k).toNat
  rw [Int.toNat_of_nonneg (by omega), show k + (n - k) = n by omega] at h1
  rw [h1]
  have h2 : su (fun i => if i < k then (1 : Int) else 0) k = su (fun _ => 1) k := su_ext fun i i0 i1 => if_pos i1
  have h3 : su (fun i => if k + i < k then (1 : Int) else 0) (n - k) = su (fun _ => 0) (n - k) := su_ext fun i i0 i1 => if_neg (by omega)
  have h4 : ∀ m : Nat, su (fun _ => (1 : Int)) m = m := fun m => by
    induction m with
    | zero => rfl
    | succ m ih => rw [show ((m + 1 : Nat) : Int) = (m : Int) + 1 by omega, su_s _ (by omega), ih]
  have h5 : su (fun _ => (0 : Int)) (n - k) = 0 := sm_zero _
  have h6 := h4 k.toNat
  rw [Int.toNat_of_nonneg n0] at h6
  rw [h2, h3, h5, h6]
  omega
/-- a place's row is how many are ahead of it -/
theorem rk_of (hO : ∀ i k : Int, 0 ≤ i → i < k → k < ks.length → ahd sh a b (gt ks i) (gt ks k)) (hS : ∀ f, Sm ks f = su f ((a * a + b * b) * (a * a + b * b))) (k0 : 0 ≤ k) (k1 : k < ks.length) : rk sh a b (gt ks k) = k := by
  have h := hS (fun j => if mK sh a b j < mK sh a b (gt ks k) ∨ (mK sh a b j = mK sh a b (gt ks k) ∧ j < gt ks k) then 1 else 0)
  unfold rk
  rw [← h, Sm_su]
  refine Eq.trans (su_ext fun i i0 i1 => ?_) (su_lt (n := ks.length) k0 (by omega))
  show (if ahd sh a b (gt ks i) (gt ks k) then (1 : Int) else 0) = _
  by_cases q : i < k
  · rw [if_pos q, if_pos (hO i k i0 q k1)]
  · rw [if_neg q, if_neg ?_]
    by_cases q2 : i = k
    · rw [q2]
      exact ahd_ir
    · exact ahd_as (hO k i k0 (by omega) i1)
theorem su_one {n : Int} (j0 : 0 ≤ j) (j1 : j < n) : su (fun i => if i = j then (1 : Int) else 0) n = 1 := by
  have h1 := su_lt (n := n) (k := j) j0 (by omega)
  have h2 := su_lt (n := n) (k := j + 1) (by omega) (by omega)
  have h3 := su_add (f := fun i => if i < j then (1 : Int) else 0) (g := fun i => if i = j then (1 : Int) else 0) (n := n)
  have h4 : su (fun i => (if i < j then (1 : Int) else 0) + (if i = j then (1 : Int) else 0)) n = su (fun i => if i < j + 1 then (1 : Int) else 0) n := su_ext fun i i0 i1 => by
    by_cases q : i < j
    · rw [if_pos q, if_neg (by omega), if_pos (by omega)]; rfl
    · by_cases q2 : i = j
      · rw [if_neg q, if_pos q2, if_pos (by omega)]; rfl
      · rw [if_neg q, if_neg q2, if_neg (by omega)]; rfl
  omega
theorem mem_of (hS : ∀ f, Sm ks f = su f ((a * a + b * b) * (a * a + b * b))) (j0 : 0 ≤ j) (j1 : j < (a * a + b * b) * (a * a + b * b)) : ∃ k : Int, 0 ≤ k ∧ k < ks.length ∧ gt ks k = j := by
  refine Classical.byContradiction fun hn => ?_
  have h := hS (fun i => if i = j then (1 : Int) else 0)
  rw [su_one j0 j1, Sm_su] at h
  have h2 : su (fun i => if gt ks i = j then (1 : Int) else 0) ks.length = su (fun _ => 0) ks.length := su_ext fun i i0 i1 => if_neg (fun e => hn ⟨i, i0, i1, e⟩)
  have h5 : su (fun _ => (0 : Int)) ks.length = 0 := sm_zero _
  rw [h2, h5] at h
  omega
/-- an order of places by rows is one of numbers -/
theorem lexj {p : Int} (hp : 0 < p) : (j / p < k / p ∨ (j / p = k / p ∧ j % p < k % p)) ↔ j < k := by
  have e1 := Int.mul_ediv_add_emod j p
  have e2 := Int.mul_ediv_add_emod k p
  constructor
  · rintro (h | h)
    · refine Classical.byContradiction fun hn => ?_
      have := Int.ediv_le_ediv hp (show k ≤ j by omega)
      omega
    · rw [h.1] at e1
      omega
  · intro h
    have h1 := Int.ediv_le_ediv hp (show j ≤ k by omega)
    by_cases q : j / p = k / p
    · rw [q] at e1
      exact Or.inr ⟨q, by omega⟩
    · exact Or.inl (by omega)
theorem Pla.fr {m : Int} (h : Pla μ z x y m) (f : FrL c s P μ ν) (h1 : ¬ P z) : Pla ν z x y m := by
  obtain ⟨⟨a0, a1, a2⟩, b0, b1, b2⟩ := h
  have g := f.2.2.1
  refine ⟨⟨a0, by omega, by rw [f.kind (by omega) a1 (by omega)]; exact a2⟩, ?_, ?_, ?_⟩
  · rw [f.1 _ _ (by omega) a1 (fun e => h1 e.2)]; exact b0
  · rw [f.1 _ _ (by omega) a1 (fun e => h1 e.2)]; exact b1
  · rw [f.1 _ _ (by omega) a1 (fun e => h1 e.2)]; exact b2
theorem Ord.fr (h : Ord μ sh a b ids ks) (f : FrL c s P μ ν) (h1 : ∀ z, μ z (-1) = 8 → ¬ P z) : Ord ν sh a b ids ks :=
  ⟨h.1, fun k k0 k1 => ⟨(h.2.1 k k0 k1).1.fr f (h1 _ (h.2.1 k k0 k1).1.1.2.2), (h.2.1 k k0 k1).2⟩, h.2.2⟩
theorem isAhead_rt {x' y' z' m m' : Int} (h : Pla μ z x y m) (h' : Pla μ z' x' y' m') : FX7_isAhead z z' μ = RT (b2 (m < m' ∨ (m = m' ∧ (y < y' ∨ (y = y' ∧ x < x'))))) μ := by
  obtain ⟨⟨a0, a1, a2⟩, b0, b1, b3⟩ := h
  obtain ⟨⟨c0, c1, c2⟩, d0, d1, d2⟩ := h'
  unfold FX7_isAhead BX7_isAhead_0 BX7_isAhead_76
  rw [GF_go a2 b3, GF_go c2 d2]
  by_cases q1 : m = m'
  · rw [if_pos q1, GF_go a2 b1, GF_go c2 d1]
    by_cases q2 : y = y'
    · rw [if_pos q2, GF_go a2 b0, GF_go c2 d0]
      by_cases q3 : x' ≤ x
      · rw [if_pos q3, b2_f (by omega)]; rfl
      · rw [if_neg q3, b2_t (by omega)]; rfl
    · rw [if_neg q2, GF_go a2 b1, GF_go c2 d1]
      by_cases q3 : y' ≤ y
      · rw [if_pos q3, b2_f (by omega)]; rfl
      · rw [if_neg q3, b2_t (by omega)]; rfl
  · rw [if_neg q1, GF_go a2 b3, GF_go c2 d2]
    by_cases q3 : m' ≤ m
    · rw [if_pos q3, b2_f (by omega)]; rfl
    · rw [if_neg q3, b2_t (by omega)]; rfl
theorem ahd_rt (hp : 0 < a * a + b * b) (h : Pla μ z (j % (a * a + b * b)) (j / (a * a + b * b)) (mK sh a b j)) {z' : Int} (h' : Pla μ z' (k % (a * a + b * b)) (k / (a * a + b * b)) (mK sh a b k)) : FX7_isAhead z z' μ = RT (b2 (ahd sh a b j k)) μ := by
  rw [isAhead_rt h h']
  congr 1
  refine b2_c ?_
  rw [lexj hp]
end ORD
/-- a screen of the law -/
def Sc8 (μ : Mem) (s a b sh dx dy o : Int) : Prop := (s < -21 ∧ μ 0 3 < s ∧ μ s (-1) = 9) ∧ (μ s 0 = a ∧ μ s 1 = b ∧ μ s 2 = a * a + b * b ∧ μ s 3 = sh) ∧ μ s 4 = dx ∧ μ s 5 = dy ∧ μ s 6 = o
section COM
variable {μ ν ξ : Mem} {c q s a b sh x y j k z i dx dy o e cap : Int} {l m ids ks : List Int} {P : Int → Prop}
theorem Sc8.fr (h : Sc8 μ s a b sh dx dy o) (f : FrL c q P μ ν) (h1 : ¬ P s) : Sc8 ν s a b sh dx dy o := by
  obtain ⟨⟨a0, a1, a2⟩, ⟨b0, b1, b2, b3⟩, c0, c1, c2⟩ := h
  have g := f.2.2.1
  have r : ∀ k, ν s k = μ s k := fun k => f.1 _ _ (by omega) a1 (fun e => h1 e.2)
  exact ⟨⟨a0, by omega, by rw [r]; exact a2⟩, ⟨by rw [r]; exact b0, by rw [r]; exact b1, by rw [r]; exact b2, by rw [r]; exact b3⟩, by rw [r]; exact c0, by rw [r]; exact c1, by rw [r]; exact c2⟩
theorem comes_go (hs : Sc8 μ s a b sh dx dy o) (h0 : 0 < μ 0 0) (hp : 0 < a * a + b * b) (hA : Al μ o e cap ids) (hO : Ord μ sh a b ids ks) (hz : Pla μ z (j % (a * a + b * b)) (j / (a * a + b * b)) (mK sh a b j)) (hj : ∀ k : Int, 0 ≤ k → k < ks.length → gt ks k ≠ j) (hl : (ks.length : Int) ≤ 400) : ∀ (d n : Nat) (t : Int), t = d → d < n → t ≤ ks.length → (∀ k : Int, t ≤ k → k < ks.length → ahd sh a b j (gt ks k)) → ∃ t' : Int, 0 ≤ t' ∧ t' ≤ ks.length ∧ LX8_comes_8 n s z t μ = BX8_comes_38 s z t' μ ∧ (∀ k : Int, t' ≤ k → k < ks.length → ahd sh a b j (gt ks k)) ∧ ∀ k : Int, 0 ≤ k → k < t' → ahd sh a b (gt ks k) j
  | 0, 0, t, _, h2, _, _ => by omega
  | 0, n + 1, t, h1, h2, h3, h4 => by
    refine ⟨t, by omega, h3, ?_, h4, fun k k0 k1 => by omega⟩
    show BX8_comes_8 _ s z t μ = _
    unfold BX8_comes_8
    rw [if_pos (by omega)]
  | d + 1, 0, t, _, h2, _, _ => by omega
  | d + 1, n + 1, t, h1, h2, h3, h4 => by
    have hlen : (ids.length : Int) = ks.length := by rw [hO.1]
    have hP := (hO.2.1 (t - 1) (by omega) (by omega))
    have e0 : LX8_comes_8 (n + 1) s z t μ = if b2 (ahd sh a b j (gt ks (t - 1))) = 0 then BX8_comes_38 s z t μ else LX8_comes_8 n s z (t - 1) μ := by
      show BX8_comes_8 _ s z t μ = _
      unfold BX8_comes_8
      rw [if_neg (by omega), GF_go hs.1.2.2 hs.2.2.2.2, KD_go hA.1.2.2.1, w32_eq (z := t - 1) (by omega) (by omega), get_rt hA h0 (by omega) (by omega)]
      simp only [CL, CLX_rt]
      rw [KD_go hP.1.1.2.2, KD_go hz.1.2.2, ahd_rt hp hz hP.1]
      simp only [CLX_rt]
      rw [w32_eq (z := t + -1) (by omega) (by omega)]
      rfl
    by_cases ha : ahd sh a b j (gt ks (t - 1))
    · rw [b2_t ha, if_neg (by decide)] at e0
      rw [e0]
      refine comes_go hs h0 hp hA hO hz hj hl d n (t - 1) (by omega) (by omega) (by omega) fun k k0 k1 => ?_
      by_cases q : k = t - 1
      · rw [q]; exact ha
      · exact h4 k (by omega) k1
    · rw [b2_f ha, if_pos rfl] at e0
      refine ⟨t, by omega, h3, e0, h4, fun k k0 k1 => ?_⟩
      have h5 : ahd sh a b (gt ks (t - 1)) j := ahd_ne ha (fun e => hj _ (by omega) (by omega) e.symm)
      by_cases q : k = t - 1
      · rw [q]; exact h5
      · exact ahd_tr (hO.2.2 k (t - 1) k0 (by omega) (by omega)) h5
theorem comes_rt (hs : Sc8 μ s a b sh dx dy o) (h0 : 0 < μ 0 0) (hp : 0 < a * a + b * b) (hA : Al μ o e cap ids) (hO : Ord μ sh a b ids ks) (hz : Pla μ z (j % (a * a + b * b)) (j / (a * a + b * b)) (mK sh a b j)) (j0 : 0 ≤ j) (j1 : j < (a * a + b * b) * (a * a + b * b)) (hj : ∀ k : Int, 0 ≤ k → k < ks.length → gt ks k ≠ j) (hl : (ks.length : Int) ≤ 330) : ∃ ν ids' ks' e' cap', FX8_comes s z μ = RT 0 ν ∧ Al ν o e' cap' ids' ∧ Ord ν sh a b ids' ks' ∧ (ks'.length : Int) = ks.length + 1 ∧ (∀ f, Sm ks' f = Sm ks f + f j) ∧ (e' = e ∨ e' ≤ μ 0 3) ∧ FrL 1 600 (fun z => z = o ∨ (z = e ∧ z < -21)) μ ν := by
  have hlen : (ids.length : Int) = ks.length := by rw [hO.1]
  obtain ⟨t, t0, t1, e1, g1, g2⟩ := comes_go hs h0 hp hA hO hz hj (by omega) ks.length FU ks.length rfl (by rw [show FU = 20000 from rfl]; omega) (Int.le_refl _) (fun k k0 k1 => by omega)
  obtain ⟨ν, e2, e', cap', hA', he, f⟩ := ins_rt hA (by omega) (z := z) (i := t) ⟨hz.1.1, hz.1.2.1, Or.inl hz.1.2.2⟩ t0 (by omega)
  have ho : o ≠ z := fun e => by have q1 := hA.1.2.2.1; have q2 := hz.1.2.2; rw [e] at q1; omega
  have hk8 : ∀ w, μ w (-1) = 8 → ¬ (w = o ∨ (w = e ∧ w < -21)) := fun w hw q => by
    have q1 := hA.1.2.2.1
    have q2 := hA.2.2.1.2.1
    rcases q with q | q
    · rw [← q] at q1; omega
    · rw [← q.1] at q2; omega
  have hO' := hO.fr f hk8
  have hz' := hz.fr f (hk8 z hz.1.2.2)
  have hkl : ((insL ks t j).length : Int) = ks.length + 1 := insL_len t0 t1
  refine ⟨ν, insL ids t z, insL ks t j, e', cap', ?_, hA', ⟨?_, fun k k0 k1 => ?_, fun i k i0 i1 k1 => ?_⟩, hkl, fun f => Sm_ins, he, f⟩
  · unfold FX8_comes BX8_comes_0
    rw [GF_go hs.1.2.2 hs.2.2.2.2, KD_go hA.1.2.2.1, size_rt hA]
    simp only [CL, CLX_rt]
    rw [hlen, e1]
    unfold BX8_comes_38
    rw [GF_go hs.1.2.2 hs.2.2.2.2, KD_go hA.1.2.2.1, e2]
    rfl
  · have := insL_len (l := ids) (z := z) t0 (by omega)
    omega
  · rw [hkl] at k1
    rw [gt_ins t0 (by omega) k0, gt_ins t0 t1 k0]
    by_cases q1 : k < t
    · rw [if_pos q1, if_pos q1]
      exact hO'.2.1 k k0 (by omega)
    · rw [if_neg q1, if_neg q1]
      by_cases q2 : k = t
      · rw [if_pos q2, if_pos q2]
        exact ⟨hz', j0, j1⟩
      · rw [if_neg q2, if_neg q2]
        exact hO'.2.1 (k - 1) (by omega) (by omega)
  · rw [hkl] at k1
    rw [gt_ins t0 t1 i0, gt_ins t0 t1 (by omega)]
    by_cases q1 : k < t
    · rw [if_pos (by omega), if_pos q1]
      exact hO.2.2 i k i0 i1 (by omega)
    · rw [if_neg q1]
      by_cases q2 : k = t
      · rw [if_pos (by omega), if_pos q2]
        exact g2 i i0 (by omega)
      · rw [if_neg q2]
        by_cases q3 : i < t
        · rw [if_pos q3]
          exact hO.2.2 i (k - 1) i0 (by omega) (by omega)
        · rw [if_neg q3]
          by_cases q4 : i = t
          · rw [if_pos q4]
            exact g1 (k - 1) (by omega) (by omega)
          · rw [if_neg q4]
            exact hO.2.2 (i - 1) (k - 1) (by omega) (by omega) (by omega)
end COM
