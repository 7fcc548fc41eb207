/-! a term and a sum, side by side (written by terms.py) -/
section TRM
variable {μ ξ ν ζ : Mem} {L s p n D d : Int} {tx : Int → Int}
theorem SimQ.pre {q q' s1 n1 D' : Int} {Rc Rm : Rz} (h : SimQ q ν ζ tx L p s1 n1 D' d Rc Rm) (p0 : 0 ≤ p) (h1 : CuC μ ν) (h2 : CuM p ξ ζ) (a1 : s + q' ≤ s1 + q) (a2 : n1 - n ≤ s1 - s) (a3 : n + q' ≤ n1 + q) : SimQ q' μ ξ tx L p s n D' d Rc Rm := by
  rcases h with ⟨ν2, ζ2, s2, n2, q1, q2, q3, q4, q5, q6, q7, q8⟩ | ⟨ν2, ζ2, c, a, q1, q2, q3, q4⟩
  · exact Or.inl ⟨ν2, ζ2, s2, n2, q1, q2, q3, by omega, by omega, by omega, h1.tr q7, h2.tr q8⟩
  · exact Or.inr ⟨ν2, ζ2, c, a, q1, q2, q3.tr h1, q4.tr p0 h2⟩
theorem term_54 {rc : Int → Int → Mem → Rz} {rm : Int → Mem → Rz} {B : Int} (hB : B ≤ 11) (d0 : 0 ≤ d) (hsub : ∀ μ ξ s n D, St μ ξ tx L p s n D d → 0 ≤ D → D ≤ B → SimQ 1 μ ξ tx L p s n (D + 1) d (FX4_readFactor rc 23 d μ) (FX7_readsFactor rm 105 ξ)) {k1 : Int → Int → Int → Mem → Rz} {k2 : Int → Mem → Rz} {i op : Int} (i0 : 0 ≤ i) (i1 : i ≤ s) (o0 : 2 ≤ op) (o1 : op ≤ 5) (h : St μ ξ tx L p s n (D + 1) d) (hk : kd tx L s = 3) (ha : ξ 105 14 = s) (D0 : 0 ≤ D) (D1 : D + 1 ≤ B) (ih : ∀ μ ξ s2 n2, s < s2 → St μ ξ tx L p s2 n2 (D + 1) d → SimQ 0 μ ξ tx L p s2 n2 (D + 1) d (k1 23 d (i + 1) μ) (k2 105 ξ)) : SimQ 0 μ ξ tx L p s n (D + 1) d (BX4_readTerm_54 rc k1 23 d i (-3 - op) μ) (BX7_readsTerm_41 rm k2 105 op ξ) := by
  obtain ⟨hR, hM, hC, hN, hn⟩ := h
  have hp := hR.2.1
  have hp1 := hp.1
  have hL := hM.1.2.1
  have hpp := hC.1.2.2.2.2
  have e3 := kd_3 hk
  have hgt := nx_gt hp e3.1
  obtain ⟨ν1, e2, r1, g1⟩ := hR.next
  have m3 : Md (mUp ξ 105 14 (s + 1)) tx L (nx tx L s) := ⟨hM.1.fr (RmH.rf.up).t, nx_pc hp, by rw [mUp_same]; omega, by rw [mUp_same, ← e3.2.1]; rfl⟩
  have hC2 : Cu ν1 (mUp ξ 105 14 (s + 1)) p n (D + 1) := hC.fr (by omega) (fun z k hk => g1 z k (by omega)) (fun z k hk => mUp_ne _ _ (by omega))
  unfold BX4_readTerm_54 BX7_readsTerm_41
  rw [hR.1.1.k4, e2, hM.1.1.g7_14, ha, w32_eq (z := s + 1) (by omega) (by omega), w32_eq (z := i + 1) (by omega) (by omega), hM.1.1.p7_14]
  simp only [CL, CLX_rt]
  rw [r1.1.1.k4, m3.1.1.k7]
  rcases hsub ν1 (mUp ξ 105 14 (s + 1)) (nx tx L s) n (D + 1) ⟨r1, m3, hC2, by rw [mUp_ne _ _ (by omega)]; exact hN, by omega⟩ (by omega) D1 with ⟨ν2, ζ2, s2, n2, q1, q2, q3, q4, q5, q6, q7, q8⟩ | ⟨ν2, ζ2, c, a, q1, q2, q3, q4⟩
  · rw [q1, q2]
    simp only [CLX_rt]
    have hs2 := q3.1.2.1.1
    obtain ⟨ν3, ζ3, w1, w2, w3, w4, w5⟩ := push_st (d := d) q3.1 q3.2.1 q3.2.2.1 q3.2.2.2.1 (by omega) (by omega) (op := op) (v := 0) (by omega) (fun k => absurd k (by omega)) (fun k => absurd k (by omega)) (fun k => by omega) ⟨by omega, by rw [if_neg (by omega)]; omega⟩
    have hi0 : itm op 0 = -3 - op := by
      unfold itm
      rw [if_neg (by omega), if_neg (by omega)]
    rw [hi0] at w1
    rw [if_neg (show ¬ op ≤ 1 by omega), show D + 1 + 1 - 1 = D + 1 by omega] at w3
    rw [if_pos (by decide), if_pos (by decide), q3.1.1.1.k4, w1, q3.2.1.1.1.k7, w2]
    simp only [CLX_rt]
    exact (ih ν3 ζ3 s2 (n2 + 1) (by omega) w3).pre hpp.1 ((g1.toS.cu.tr q7).tr w4) ((CuM.tr (ζ := mUp ξ 105 14 (s + 1)) (fun z k hk => mUp_ne _ _ (by omega)) q8).tr w5) (by omega) (by omega) (by omega)
  · rw [q1, q2]
    simp only [CLX_rt]
    exact Or.inr ⟨ν2, ζ2, c, a, rfl, rfl, q3.tr g1.toS.cu, q4.tr hpp.1 (fun z k hk => mUp_ne _ _ (by omega))⟩
theorem term_loop {rc : Int → Int → Mem → Rz} {rm : Int → Mem → Rz} {B : Int} (hB : B ≤ 11) (d0 : 0 ≤ d) (hsub : ∀ μ ξ s n D, St μ ξ tx L p s n D d → 0 ≤ D → D ≤ B → SimQ 1 μ ξ tx L p s n (D + 1) d (FX4_readFactor rc 23 d μ) (FX7_readsFactor rm 105 ξ)) (D0 : 0 ≤ D) (D1 : D + 1 ≤ B) : ∀ (m k1 k2 : Nat) (i : Int) (μ ξ : Mem) (s n : Int), m ≤ k1 → m ≤ k2 → L - s < m → 0 ≤ i → i ≤ s → St μ ξ tx L p s n (D + 1) d → SimQ 0 μ ξ tx L p s n (D + 1) d (LX4_readTerm_12 rc k1 23 d i μ) (LX7_readsTerm_9 rm k2 105 ξ)
  | 0, _, _, i, μ, ξ, s, n, _, _, h1, _, _, hs => by
    have := hs.1.2.1.1
    omega
  | m + 1, 0, _, i, μ, ξ, s, n, h, _, _, _, _, _ => by omega
  | m + 1, _ + 1, 0, i, μ, ξ, s, n, _, h, _, _, _, _ => by omega
  | m + 1, k1 + 1, k2 + 1, i, μ, ξ, s, n, hk1, hk2, h1, i0, i1, hs => by
    have ih := fun μ ξ s2 n2 (hlt : s < s2) (h : St μ ξ tx L p s2 n2 (D + 1) d) => term_loop hB d0 hsub D0 D1 m k1 k2 (i + 1) μ ξ s2 n2 (by omega) (by omega) (by omega) (by omega) (by omega) h
    obtain ⟨hR, hM, hC, hN, hn⟩ := id hs
    obtain ⟨ζ1, e1, m1, f1, a1⟩ := here_rt hM
    obtain ⟨ζ2, e2, m2, f2, a2⟩ := here_rt m1
    have hp1 := hR.2.1.1
    have hL := hM.1.2.1
    have hpp := hC.1.2.2.2.2
    have hS := hR.1.1
    have hx := hc_c (tx := tx) (L := L) (s := s) (c := 42) (by omega) (by omega)
    have hy := hc_c (tx := tx) (L := L) (s := s) (c := 47) (by omega) (by omega)
    have hT1 : ∀ ζ, RmH ξ ζ → Md ζ tx L s → St μ ζ tx L p s n (D + 1) d := fun ζ hf hm => ⟨hR, hm, hC.fr (by omega) (fun z k hk => rfl) (fun z k hk => hf z k (by omega)), by rw [hf _ _ (by omega)]; exact hN, hn⟩
    have hdone : SimQ 0 μ ξ tx L p s n (D + 1) d (RTZ 1 μ) (RTZ 1 ζ2) := Or.inl ⟨μ, ζ2, s, n, rfl, rfl, hT1 ζ2 (f1.tr f2) m2, by omega, by omega, by omega, CuC.rf, (f1.tr f2).t.cu⟩
    rw [LX4_readTerm_12, BX4_readTerm_12, LX7_readsTerm_9, BX7_readsTerm_9, hS.g4_3, hR.1.2.1.2.1, hM.1.1.k7, e1]
    simp only [CL, CLX_rt]
    rw [m1.1.1.k7, e2]
    simp only [CLX_rt]
    by_cases ei : L ≤ i
    · have n1 : ¬ sg tx L s 42 := fun k => by have := (kd_3 k.1).1; omega
      have n2 : ¬ sg tx L s 47 := fun k => by have := (kd_3 k.1).1; omega
      rw [if_pos ei, if_neg (show ¬ hc tx L s = 42 from fun k => n1 (hx.mp k)), if_pos (show ¬ hc tx L s = 47 from fun k => n2 (hy.mp k))]
      exact hdone
    rw [if_neg ei, hS.k4, isSign_rt hR (by omega) (by omega)]
    simp only [CLX_rt]
    by_cases c1 : sg tx L s 42
    · rw [b2_t c1, if_pos (by decide), if_pos (hx.mpr c1)]
      unfold BX4_readTerm_38 BX7_readsTerm_27
      obtain ⟨ζ3, e4, m4, f4, a4⟩ := here_rt m1
      rw [hS.k4, isSign_rt hR (by omega) (by omega), b2_t c1, m1.1.1.k7, e4]
      simp only [CL, CLX_rt]
      rw [if_neg (by decide), if_neg (show ¬ ¬ hc tx L s = 42 from fun k => k (hx.mpr c1))]
      exact (term_54 hB d0 hsub i0 i1 (op := 4) (by omega) (by omega) (hT1 ζ3 (f1.tr f4) m4) c1.1 a4 D0 D1 ih).pre hpp.1 CuC.rf (f1.tr f4).t.cu (by omega) (by omega) (by omega)
    rw [b2_f c1, if_neg (by decide), if_neg (show ¬ hc tx L s = 42 from fun k => c1 (hx.mp k)), hS.k4, isSign_rt hR (by omega) (by omega)]
    simp only [CLX_rt]
    by_cases c2 : sg tx L s 47
    · rw [b2_t c2, if_neg (by decide), if_neg (show ¬ ¬ hc tx L s = 47 from fun k => k (hy.mpr c2))]
      unfold BX4_readTerm_38 BX7_readsTerm_27
      obtain ⟨ζ3, e4, m4, f4, a4⟩ := here_rt m2
      rw [hS.k4, isSign_rt hR (by omega) (by omega), b2_f c1, m2.1.1.k7, e4]
      simp only [CL, CLX_rt]
      rw [if_pos trivial, if_pos (show ¬ hc tx L s = 42 from fun k => c1 (hx.mp k))]
      exact (term_54 hB d0 hsub i0 i1 (op := 5) (by omega) (by omega) (hT1 ζ3 ((f1.tr f2).tr f4) m4) c2.1 a4 D0 D1 ih).pre hpp.1 CuC.rf ((f1.tr f2).tr f4).t.cu (by omega) (by omega) (by omega)
    rw [b2_f c2, if_pos rfl, if_pos (show ¬ hc tx L s = 47 from fun k => c2 (hy.mp k))]
    exact hdone
theorem term_rt {rc : Int → Int → Mem → Rz} {rm : Int → Mem → Rz} {B : Int} (hB : B ≤ 11) (d0 : 0 ≤ d) (hsub : ∀ μ ξ s n D, St μ ξ tx L p s n D d → 0 ≤ D → D ≤ B → SimQ 1 μ ξ tx L p s n (D + 1) d (FX4_readFactor rc 23 d μ) (FX7_readsFactor rm 105 ξ)) (D0 : 0 ≤ D) (D1 : D + 1 ≤ B) (h : St μ ξ tx L p s n D d) : SimQ 1 μ ξ tx L p s n (D + 1) d (FX4_readTerm rc 23 d μ) (FX7_readsTerm rm 105 ξ) := by
  have hp1 := h.1.2.1.1
  have hL := h.2.1.1.2.1
  have hpp := h.2.2.1.1.2.2.2.2
  unfold FX4_readTerm BX4_readTerm_0 FX7_readsTerm BX7_readsTerm_0
  rw [h.1.1.1.k4, h.2.1.1.1.k7]
  rcases hsub μ ξ s n D h D0 (by omega) with ⟨ν2, ζ2, s2, n2, q1, q2, q3, q4, q5, q6, q7, q8⟩ | ⟨ν2, ζ2, c, a, q1, q2, q3, q4⟩
  · rw [q1, q2]
    simp only [CL, CLX_rt]
    rw [if_pos (by decide), if_pos (by decide)]
    have hs2 := q3.1.2.1.1
    exact (term_loop hB d0 hsub D0 D1 (L - s2).toNat.succ FU FU 0 ν2 ζ2 s2 n2 (by have : FU = 20000 := rfl; omega) (by have : FU = 20000 := rfl; omega) (by omega) (Int.le_refl _) hs2.1 q3).pre hpp.1 q7 q8 (by omega) (by omega) (by omega)
  · rw [q1, q2]
    exact Or.inr ⟨ν2, ζ2, c, a, rfl, rfl, q3, q4⟩
theorem sum_54 {rc : Int → Int → Mem → Rz} {rm : Int → Mem → Rz} {B : Int} (hB : B ≤ 11) (d0 : 0 ≤ d) (hsub : ∀ μ ξ s n D, St μ ξ tx L p s n D d → 0 ≤ D → D ≤ B → SimQ 1 μ ξ tx L p s n (D + 1) d (FX4_readTerm rc 23 d μ) (FX7_readsTerm rm 105 ξ)) {k1 : Int → Int → Int → Mem → Rz} {k2 : Int → Mem → Rz} {i op : Int} (i0 : 0 ≤ i) (i1 : i ≤ s) (o0 : 2 ≤ op) (o1 : op ≤ 5) (h : St μ ξ tx L p s n (D + 1) d) (hk : kd tx L s = 3) (ha : ξ 105 14 = s) (D0 : 0 ≤ D) (D1 : D + 1 ≤ B) (ih : ∀ μ ξ s2 n2, s < s2 → St μ ξ tx L p s2 n2 (D + 1) d → SimQ 0 μ ξ tx L p s2 n2 (D + 1) d (k1 23 d (i + 1) μ) (k2 105 ξ)) : SimQ 0 μ ξ tx L p s n (D + 1) d (BX4_readSum_54 rc k1 23 d i (-3 - op) μ) (BX7_readsSum_41 rm k2 105 op ξ) := by
  obtain ⟨hR, hM, hC, hN, hn⟩ := h
  have hp := hR.2.1
  have hp1 := hp.1
  have hL := hM.1.2.1
  have hpp := hC.1.2.2.2.2
  have e3 := kd_3 hk
  have hgt := nx_gt hp e3.1
  obtain ⟨ν1, e2, r1, g1⟩ := hR.next
  have m3 : Md (mUp ξ 105 14 (s + 1)) tx L (nx tx L s) := ⟨hM.1.fr (RmH.rf.up).t, nx_pc hp, by rw [mUp_same]; omega, by rw [mUp_same, ← e3.2.1]; rfl⟩
  have hC2 : Cu ν1 (mUp ξ 105 14 (s + 1)) p n (D + 1) := hC.fr (by omega) (fun z k hk => g1 z k (by omega)) (fun z k hk => mUp_ne _ _ (by omega))
  unfold BX4_readSum_54 BX7_readsSum_41
  rw [hR.1.1.k4, e2, hM.1.1.g7_14, ha, w32_eq (z := s + 1) (by omega) (by omega), w32_eq (z := i + 1) (by omega) (by omega), hM.1.1.p7_14]
  simp only [CL, CLX_rt]
  rw [r1.1.1.k4, m3.1.1.k7]
  rcases hsub ν1 (mUp ξ 105 14 (s + 1)) (nx tx L s) n (D + 1) ⟨r1, m3, hC2, by rw [mUp_ne _ _ (by omega)]; exact hN, by omega⟩ (by omega) D1 with ⟨ν2, ζ2, s2, n2, q1, q2, q3, q4, q5, q6, q7, q8⟩ | ⟨ν2, ζ2, c, a, q1, q2, q3, q4⟩
  · rw [q1, q2]
    simp only [CLX_rt]
    have hs2 := q3.1.2.1.1
    obtain ⟨ν3, ζ3, w1, w2, w3, w4, w5⟩ := push_st (d := d) q3.1 q3.2.1 q3.2.2.1 q3.2.2.2.1 (by omega) (by omega) (op := op) (v := 0) (by omega) (fun k => absurd k (by omega)) (fun k => absurd k (by omega)) (fun k => by omega) ⟨by omega, by rw [if_neg (by omega)]; omega⟩
    have hi0 : itm op 0 = -3 - op := by
      unfold itm
      rw [if_neg (by omega), if_neg (by omega)]
    rw [hi0] at w1
    rw [if_neg (show ¬ op ≤ 1 by omega), show D + 1 + 1 - 1 = D + 1 by omega] at w3
    rw [if_pos (by decide), if_pos (by decide), q3.1.1.1.k4, w1, q3.2.1.1.1.k7, w2]
    simp only [CLX_rt]
    exact (ih ν3 ζ3 s2 (n2 + 1) (by omega) w3).pre hpp.1 ((g1.toS.cu.tr q7).tr w4) ((CuM.tr (ζ := mUp ξ 105 14 (s + 1)) (fun z k hk => mUp_ne _ _ (by omega)) q8).tr w5) (by omega) (by omega) (by omega)
  · rw [q1, q2]
    simp only [CLX_rt]
    exact Or.inr ⟨ν2, ζ2, c, a, rfl, rfl, q3.tr g1.toS.cu, q4.tr hpp.1 (fun z k hk => mUp_ne _ _ (by omega))⟩
theorem sum_loop {rc : Int → Int → Mem → Rz} {rm : Int → Mem → Rz} {B : Int} (hB : B ≤ 11) (d0 : 0 ≤ d) (hsub : ∀ μ ξ s n D, St μ ξ tx L p s n D d → 0 ≤ D → D ≤ B → SimQ 1 μ ξ tx L p s n (D + 1) d (FX4_readTerm rc 23 d μ) (FX7_readsTerm rm 105 ξ)) (D0 : 0 ≤ D) (D1 : D + 1 ≤ B) : ∀ (m k1 k2 : Nat) (i : Int) (μ ξ : Mem) (s n : Int), m ≤ k1 → m ≤ k2 → L - s < m → 0 ≤ i → i ≤ s → St μ ξ tx L p s n (D + 1) d → SimQ 0 μ ξ tx L p s n (D + 1) d (LX4_readSum_12 rc k1 23 d i μ) (LX7_readsSum_9 rm k2 105 ξ)
  | 0, _, _, i, μ, ξ, s, n, _, _, h1, _, _, hs => by
    have := hs.1.2.1.1
    omega
  | m + 1, 0, _, i, μ, ξ, s, n, h, _, _, _, _, _ => by omega
  | m + 1, _ + 1, 0, i, μ, ξ, s, n, _, h, _, _, _, _ => by omega
  | m + 1, k1 + 1, k2 + 1, i, μ, ξ, s, n, hk1, hk2, h1, i0, i1, hs => by
    have ih := fun μ ξ s2 n2 (hlt : s < s2) (h : St μ ξ tx L p s2 n2 (D + 1) d) => sum_loop hB d0 hsub D0 D1 m k1 k2 (i + 1) μ ξ s2 n2 (by omega) (by omega) (by omega) (by omega) (by omega) h
    obtain ⟨hR, hM, hC, hN, hn⟩ := id hs
    obtain ⟨ζ1, e1, m1, f1, a1⟩ := here_rt hM
    obtain ⟨ζ2, e2, m2, f2, a2⟩ := here_rt m1
    have hp1 := hR.2.1.1
    have hL := hM.1.2.1
    have hpp := hC.1.2.2.2.2
    have hS := hR.1.1
    have hx := hc_c (tx := tx) (L := L) (s := s) (c := 43) (by omega) (by omega)
    have hy := hc_c (tx := tx) (L := L) (s := s) (c := 45) (by omega) (by omega)
    have hT1 : ∀ ζ, RmH ξ ζ → Md ζ tx L s → St μ ζ tx L p s n (D + 1) d := fun ζ hf hm => ⟨hR, hm, hC.fr (by omega) (fun z k hk => rfl) (fun z k hk => hf z k (by omega)), by rw [hf _ _ (by omega)]; exact hN, hn⟩
    have hdone : SimQ 0 μ ξ tx L p s n (D + 1) d (RTZ 1 μ) (RTZ 1 ζ2) := Or.inl ⟨μ, ζ2, s, n, rfl, rfl, hT1 ζ2 (f1.tr f2) m2, by omega, by omega, by omega, CuC.rf, (f1.tr f2).t.cu⟩
    rw [LX4_readSum_12, BX4_readSum_12, LX7_readsSum_9, BX7_readsSum_9, hS.g4_3, hR.1.2.1.2.1, hM.1.1.k7, e1]
    simp only [CL, CLX_rt]
    rw [m1.1.1.k7, e2]
    simp only [CLX_rt]
    by_cases ei : L ≤ i
    · have n1 : ¬ sg tx L s 43 := fun k => by have := (kd_3 k.1).1; omega
      have n2 : ¬ sg tx L s 45 := fun k => by have := (kd_3 k.1).1; omega
      rw [if_pos ei, if_neg (show ¬ hc tx L s = 43 from fun k => n1 (hx.mp k)), if_pos (show ¬ hc tx L s = 45 from fun k => n2 (hy.mp k))]
      exact hdone
    rw [if_neg ei, hS.k4, isSign_rt hR (by omega) (by omega)]
    simp only [CLX_rt]
    by_cases c1 : sg tx L s 43
    · rw [b2_t c1, if_pos (by decide), if_pos (hx.mpr c1)]
      unfold BX4_readSum_38 BX7_readsSum_27
      obtain ⟨ζ3, e4, m4, f4, a4⟩ := here_rt m1
      rw [hS.k4, isSign_rt hR (by omega) (by omega), b2_t c1, m1.1.1.k7, e4]
      simp only [CL, CLX_rt]
      rw [if_neg (by decide), if_neg (show ¬ ¬ hc tx L s = 43 from fun k => k (hx.mpr c1))]
      exact (sum_54 hB d0 hsub i0 i1 (op := 2) (by omega) (by omega) (hT1 ζ3 (f1.tr f4) m4) c1.1 a4 D0 D1 ih).pre hpp.1 CuC.rf (f1.tr f4).t.cu (by omega) (by omega) (by omega)
    rw [b2_f c1, if_neg (by decide), if_neg (show ¬ hc tx L s = 43 from fun k => c1 (hx.mp k)), hS.k4, isSign_rt hR (by omega) (by omega)]
    simp only [CLX_rt]
    by_cases c2 : sg tx L s 45
    · rw [b2_t c2, if_neg (by decide), if_neg (show ¬ ¬ hc tx L s = 45 from fun k => k (hy.mpr c2))]
      unfold BX4_readSum_38 BX7_readsSum_27
      obtain ⟨ζ3, e4, m4, f4, a4⟩ := here_rt m2
      rw [hS.k4, isSign_rt hR (by omega) (by omega), b2_f c1, m2.1.1.k7, e4]
      simp only [CL, CLX_rt]
      rw [if_pos trivial, if_pos (show ¬ hc tx L s = 43 from fun k => c1 (hx.mp k))]
      exact (sum_54 hB d0 hsub i0 i1 (op := 3) (by omega) (by omega) (hT1 ζ3 ((f1.tr f2).tr f4) m4) c2.1 a4 D0 D1 ih).pre hpp.1 CuC.rf ((f1.tr f2).tr f4).t.cu (by omega) (by omega) (by omega)
    rw [b2_f c2, if_pos rfl, if_pos (show ¬ hc tx L s = 45 from fun k => c2 (hy.mp k))]
    exact hdone
theorem sum_rt {rc : Int → Int → Mem → Rz} {rm : Int → Mem → Rz} {B : Int} (hB : B ≤ 11) (d0 : 0 ≤ d) (hsub : ∀ μ ξ s n D, St μ ξ tx L p s n D d → 0 ≤ D → D ≤ B → SimQ 1 μ ξ tx L p s n (D + 1) d (FX4_readTerm rc 23 d μ) (FX7_readsTerm rm 105 ξ)) (D0 : 0 ≤ D) (D1 : D + 1 ≤ B) (h : St μ ξ tx L p s n D d) : SimQ 1 μ ξ tx L p s n (D + 1) d (FX4_readSum rc 23 d μ) (FX7_readsSum rm 105 ξ) := by
  have hp1 := h.1.2.1.1
  have hL := h.2.1.1.2.1
  have hpp := h.2.2.1.1.2.2.2.2
  unfold FX4_readSum BX4_readSum_0 FX7_readsSum BX7_readsSum_0
  rw [h.1.1.1.k4, h.2.1.1.1.k7]
  rcases hsub μ ξ s n D h D0 (by omega) with ⟨ν2, ζ2, s2, n2, q1, q2, q3, q4, q5, q6, q7, q8⟩ | ⟨ν2, ζ2, c, a, q1, q2, q3, q4⟩
  · rw [q1, q2]
    simp only [CL, CLX_rt]
    rw [if_pos (by decide), if_pos (by decide)]
    have hs2 := q3.1.2.1.1
    exact (sum_loop hB d0 hsub D0 D1 (L - s2).toNat.succ FU FU 0 ν2 ζ2 s2 n2 (by have : FU = 20000 := rfl; omega) (by have : FU = 20000 := rfl; omega) (by omega) (Int.le_refl _) hs2.1 q3).pre hpp.1 q7 q8 (by omega) (by omega) (by omega)
  · rw [q1, q2]
    exact Or.inr ⟨ν2, ζ2, c, a, rfl, rfl, q3, q4⟩
theorem readSum_rt : ∀ (m : Nat) (d : Int), 0 ≤ d → 4 - d < m → d ≤ 4 → ∀ (μ ξ : Mem) (s n D : Int), St μ ξ tx L p s n D d → 0 ≤ D → D ≤ 2 * d → ∀ k : Nat, m ≤ k → SimQ 1 μ ξ tx L p s n (D + 1) d (RX4_readSum k 23 d μ) (RX7_readsSum k 105 ξ)
  | 0, d, d0, h, d1, _, _, _, _, _, _, _, _, _, _ => by omega
  | m + 1, d, d0, hm, d1, μ, ξ, s, n, D, hs, D0, D1, 0, hk => by omega
  | m + 1, d, d0, hm, d1, μ, ξ, s, n, D, hs, D0, D1, k + 1, hk => by
    rw [RX4_readSum, RX7_readsSum]
    exact sum_rt (B := 2 * d + 1) (by omega) d0 (fun μ ξ s n D h h0 h1 => term_rt (B := 2 * d + 2) (by omega) d0 (fun μ ξ s n D h h0 h1 => factor_rt d0 d1 (fun hd μ ξ s n D h h0 h1 => readSum_rt m (d + 1) (by omega) (by omega) (by omega) μ ξ s n D h h0 h1 k (by omega)) h h0 h1) h0 (by omega) h) D0 (by omega) hs
theorem curve_rt (h : St μ ξ tx L p s 0 0 0) : SimQ 1 μ ξ tx L p s 0 1 0 (TX4_readSum 23 0 μ) (TX7_readsSum 105 ξ) := readSum_rt 7 0 (by omega) (by omega) (by omega) μ ξ s 0 0 h (by omega) (by omega) 7 (by omega)
end TRM
