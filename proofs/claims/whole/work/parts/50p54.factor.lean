/-! a factor, side by side -/
def St (μ ξ : Mem) (tx : Int → Int) (L p s n D d : Int) : Prop := Rd μ tx L s ∧ Md ξ tx L s ∧ Cu μ ξ p n D ∧ ξ 105 20 = d ∧ n ≤ s
/-- both read on, or both find the same fault -/
def SimQ (q : Int) (μ ξ : Mem) (tx : Int → Int) (L p s n D d : Int) (Rc Rm : Rz) : Prop := (∃ ν ζ s' n', Rc = RT 1 ν ∧ Rm = RT 1 ζ ∧ St ν ζ tx L p s' n' D d ∧ s + q ≤ s' ∧ n' - n ≤ s' - s ∧ n + q ≤ n' ∧ CuC μ ν ∧ CuM p ξ ζ) ∨ (∃ ν ζ c a, Rc = RT 0 ν ∧ Rm = RT 0 ζ ∧ Fc μ ν c a ∧ Fm ξ ζ c a)
section FAC
variable {μ ξ ν ζ : Mem} {L s p n D d : Int} {tx : Int → Int}
theorem Md.fr2 (h : Md ξ tx L s) (f : ∀ z k, ¬ ((z = 105 ∧ 17 ≤ k ∧ k ≤ 22) ∨ (z = 107 ∧ 0 ≤ k)) → ζ z k = ξ z k) : Md ζ tx L s := by
  obtain ⟨⟨h1, ⟨h2, h4⟩, h3, h5⟩, hp, ha, hs⟩ := h
  refine ⟨⟨h1.fr fun a k hs => f a k (by unfold MSt at hs; omega), ⟨by rw [f _ _ (by omega)]; exact h2, h4⟩, by rw [f _ _ (by omega)]; exact h3, fun k k0 k1 => by rw [f _ _ (by omega)]; exact h5 k k0 k1⟩, hp, by rw [f _ _ (by omega)]; exact ha, by rw [f _ _ (by omega)]; exact hs⟩
theorem Rd.fr2 (h : Rd μ tx L s) (f : ∀ z k, ¬ ((z = 23 ∧ (k = 10 ∨ k = 12)) ∨ (z = 24 ∧ 0 ≤ k)) → ν z k = μ z k) : Rd ν tx L s := by
  obtain ⟨hT, hp, h8, h7, h9⟩ := h
  exact ⟨hT.cu fun z k hk => f z k (by omega), hp, by rw [f _ _ (by omega)]; exact h8, by rw [f _ _ (by omega)]; exact h7, by rw [f _ _ (by omega)]; exact h9⟩
/-- a code is pushed where both stand at s -/
theorem push_st (hR : Rd μ tx L s) (hM : Md ξ tx L s) (hC : Cu μ ξ p n D) (hN : ξ 105 20 = d) (hn : n < 600) (hs : n < s) {op v : Int} (ho : 0 ≤ op ∧ op ≤ 5) (hv0 : op = 0 → 0 ≤ v ∧ v ≤ 9999) (hv1 : op = 1 → 0 ≤ v ∧ v ≤ 3) (hd : 2 ≤ op → 2 ≤ D) (hD : 0 ≤ D ∧ (if op ≤ 1 then D + 1 else D - 1) ≤ 11) : ∃ ν ζ, FX4_addItem 23 (itm op v) μ = RT 0 ν ∧ FX7_emits 105 op v ξ = RT 0 ζ ∧ St ν ζ tx L p s (n + 1) (if op ≤ 1 then D + 1 else D - 1) d ∧ CuC μ ν ∧ CuM p ξ ζ := by
  have hp := hC.1.2.2.2.2
  obtain ⟨ν, ζ, e1, e2, e3, e4, e5⟩ := push_rt hR.1.1 hM.1.1 hC hn ho hv0 hv1 hd hD
  exact ⟨ν, ζ, e1, e2, ⟨hR.fr2 fun z k hk => e4 z k (by omega), hM.fr2 fun z k hk => e5 z k (by omega), e3, by rw [e5 _ _ (by omega)]; exact hN, by omega⟩, fun z k hk => e4 z k (by omega), fun z k hk => e5 z k (by omega)⟩
theorem Cu.t (h : Cu μ ξ p n D) (hn : n ≤ 600) (f1 : RdS μ ν) (f2 : RmT ξ ζ) : Cu ν ζ p n D := h.fr hn (fun z k hk => f1 z k (by omega)) (fun z k hk => f2 z k (by omega))
theorem RdS.rf : RdS μ μ := fun _ _ _ => rfl
theorem variable_rt (hM : Md ξ tx L s) : ∃ ζ, ((vr tx L s ≠ 0 → Md ζ tx L (nx tx L s)) ∧ (vr tx L s = 0 → Md ζ tx L s ∧ ζ 105 14 = s)) ∧ RmH ξ ζ ∧ (∀ (rm : Int → Mem → Rz), (KD 7 105 ξ (CL (FX7_takes 105 6 ξ) fun t107 u108 => if t107 = 0 then (KD 7 105 u108 (CL (FX7_takes 105 7 u108) fun t109 u110 => if t109 = 0 then (KD 7 105 u110 (CL (FX7_takes 105 8 u110) fun t111 u112 => if t111 = 0 then (KD 7 105 u112 (CL (FX7_takes 105 2 u112) fun t113 u114 => if t113 = 0 then (BX7_readsFactor_165 rm 105 (-1) u114) else (BX7_readsFactor_165 rm 105 3 u114))) else (BX7_readsFactor_165 rm 105 2 u112))) else (BX7_readsFactor_165 rm 105 1 u110))) else (BX7_readsFactor_165 rm 105 0 u108))) = BX7_readsFactor_165 rm 105 (if vr tx L s = 0 then -1 else -1 - vr tx L s) ζ) := by
  unfold vr
  by_cases e6 : wd tx L 6 s
  · obtain ⟨ζ, k1, k2, k3, k4⟩ := (takes_rt hM (w := 6) (by omega) (by omega)).1 e6
    simp only [if_pos e6]
    refine ⟨ζ, ⟨fun _ => k2, fun k => absurd k (by decide)⟩, k3, fun rm => ?_⟩
    rw [hM.1.1.k7, k1]
    simp only [CL, CLX_rt, ↓reduceIte]
    rfl
  obtain ⟨ζ, k1, k2, k3, k4⟩ := (takes_rt hM (w := 6) (by omega) (by omega)).2 e6
  simp only [if_neg e6]
  by_cases e7 : wd tx L 7 s
  · obtain ⟨ζ2, q1, q2, q3, q4⟩ := (takes_rt k2 (w := 7) (by omega) (by omega)).1 e7
    simp only [if_pos e7]
    refine ⟨ζ2, ⟨fun _ => q2, fun k => absurd k (by decide)⟩, k3.tr q3, fun rm => ?_⟩
    rw [hM.1.1.k7, k1]
    simp only [CL, CLX_rt, ↓reduceIte]
    rw [k2.1.1.k7, q1]
    rfl
  obtain ⟨ζ2, q1, q2, q3, q4⟩ := (takes_rt k2 (w := 7) (by omega) (by omega)).2 e7
  simp only [if_neg e7]
  by_cases e8 : wd tx L 8 s
  · obtain ⟨ζ3, r1, r2, r3, r4⟩ := (takes_rt q2 (w := 8) (by omega) (by omega)).1 e8
    simp only [if_pos e8]
    refine ⟨ζ3, ⟨fun _ => r2, fun k => absurd k (by decide)⟩, (k3.tr q3).tr r3, fun rm => ?_⟩
    rw [hM.1.1.k7, k1]
    simp only [CL, CLX_rt, ↓reduceIte]
    rw [k2.1.1.k7, q1]
    simp only [CLX_rt, ↓reduceIte]
    rw [q2.1.1.k7, r1]
    rfl
  obtain ⟨ζ3, r1, r2, r3, r4⟩ := (takes_rt q2 (w := 8) (by omega) (by omega)).2 e8
  simp only [if_neg e8]
  by_cases e2 : wd tx L 2 s
  · obtain ⟨ζ4, t1, t2, t3, t4⟩ := (takes_rt r2 (w := 2) (by omega) (by omega)).1 e2
    simp only [if_pos e2]
    refine ⟨ζ4, ⟨fun _ => t2, fun k => absurd k (by decide)⟩, ((k3.tr q3).tr r3).tr t3, fun rm => ?_⟩
    rw [hM.1.1.k7, k1]
    simp only [CL, CLX_rt, ↓reduceIte]
    rw [k2.1.1.k7, q1]
    simp only [CLX_rt, ↓reduceIte]
    rw [q2.1.1.k7, r1]
    simp only [CLX_rt, ↓reduceIte]
    rw [r2.1.1.k7, t1]
    rfl
  obtain ⟨ζ4, t1, t2, t3, t4⟩ := (takes_rt r2 (w := 2) (by omega) (by omega)).2 e2
  simp only [if_neg e2]
  refine ⟨ζ4, ⟨fun k => absurd rfl k, fun _ => ⟨t2, t4⟩⟩, ((k3.tr q3).tr r3).tr t3, fun rm => ?_⟩
  rw [hM.1.1.k7, k1]
  simp only [CL, CLX_rt, ↓reduceIte]
  rw [k2.1.1.k7, q1]
  simp only [CLX_rt, ↓reduceIte]
  rw [q2.1.1.k7, r1]
  simp only [CLX_rt, ↓reduceIte]
  rw [r2.1.1.k7, t1]
  rfl
theorem vr_le : -4 ≤ vr tx L s ∧ vr tx L s ≤ 0 ∧ (vr tx L s ≠ 0 → s < L) := by
  unfold vr
  split
  · rename_i h; have := kd_2 h.1; omega
  · split
    · rename_i h; have := kd_2 h.1; omega
    · split
      · rename_i h; have := kd_2 h.1; omega
      · split
        · rename_i h; have := kd_2 h.1; omega
        · omega
theorem factor_rt {rc : Int → Int → Mem → Rz} {rm : Int → Mem → Rz} (d0 : 0 ≤ d) (d1 : d ≤ 4) (hrec : d < 4 → ∀ μ ξ s n D, St μ ξ tx L p s n D (d + 1) → 0 ≤ D → D ≤ 2 * (d + 1) → SimQ 1 μ ξ tx L p s n (D + 1) (d + 1) (rc 23 (d + 1) μ) (rm 105 ξ)) (h : St μ ξ tx L p s n D d) (D0 : 0 ≤ D) (D1 : D ≤ 2 * d + 2) : SimQ 1 μ ξ tx L p s n (D + 1) d (FX4_readFactor rc 23 d μ) (FX7_readsFactor rm 105 ξ) := by
  obtain ⟨hR, hM, hC, hN, hn⟩ := h
  obtain ⟨ζ1, e1, m1, f1, a1⟩ := here_rt hM
  have hp := hR.2.1
  have hp1 := hp.1
  have hL := hM.1.2.1
  have hpp := hC.1.2.2.2.2
  have hS := hR.1.1
  have h40 := hc_c (tx := tx) (L := L) (s := s) (c := 40) (by omega) (by omega)
  unfold FX4_readFactor BX4_readFactor_0 FX7_readsFactor BX7_readsFactor_0
  rw [hS.k4, isSign_rt hR (by omega) (by omega), hM.1.1.k7, e1]
  simp only [CL, CLX_rt]
  by_cases e40 : sg tx L s 40
  · have e3 := kd_3 e40.1
    have hgt := nx_gt hp e3.1
    rw [b2_t e40, if_neg (by decide), if_neg (show ¬ ¬ hc tx L s = 40 from fun k => k (h40.mpr e40)), m1.1.1.g7_20, f1 _ _ (by omega), hN]
    by_cases ed : d < 4
    · rw [if_pos ed, if_pos (by omega), m1.1.1.g7_20, f1 _ _ (by omega), hN, w32_eq (by omega) (by omega), m1.1.1.p7_20]
      obtain ⟨ν1, e2, r1, g1⟩ := hR.next
      have mS2 : MSh (mUp ζ1 105 20 (d + 1)) := m1.1.1.up (by unfold MSt; omega)
      have a14 : mUp ζ1 105 20 (d + 1) 105 14 = s := by rw [mUp_ne _ _ (by omega)]; exact a1
      have m2 : Md (mUp ζ1 105 20 (d + 1)) tx L s := m1.fr2 fun z k hk => mUp_ne _ _ (by omega)
      have m3 : Md (mUp (mUp ζ1 105 20 (d + 1)) 105 14 (s + 1)) tx L (nx tx L s) := ⟨m2.1.fr (RmH.rf.up).t, nx_pc hp, by rw [mUp_same]; omega, by rw [mUp_same, ← e3.2.1]; rfl⟩
      have hCuM : CuM p ξ (mUp (mUp ζ1 105 20 (d + 1)) 105 14 (s + 1)) := fun z k hk => by rw [mUp_ne _ _ (by omega), mUp_ne _ _ (by omega)]; exact f1 z k (by omega)
      have h20 : mUp (mUp ζ1 105 20 (d + 1)) 105 14 (s + 1) 105 20 = d + 1 := by rw [mUp_ne _ _ (by omega), mUp_same]
      have hC2 : Cu ν1 (mUp (mUp ζ1 105 20 (d + 1)) 105 14 (s + 1)) p n D := hC.fr (by omega) (fun z k hk => g1 z k (by omega)) (fun z k hk => by rw [mUp_ne _ _ (by omega), mUp_ne _ _ (by omega)]; exact f1 z k (by omega))
      rw [mS2.g7_14, a14, w32_eq (by omega) (by omega), mS2.p7_14, m3.1.1.k7, hS.k4, e2]
      simp only [CLX_rt]
      rw [r1.1.1.k4]
      generalize mUp (mUp ζ1 105 20 (d + 1)) 105 14 (s + 1) = ζ2 at m3 hCuM h20 hC2 ⊢
      rcases hrec ed ν1 ζ2 (nx tx L s) n D ⟨r1, m3, hC2, h20, by omega⟩ D0 (by omega) with ⟨ν2, ζ3, s2, n2, k1, k2, k3, k4, k5, k6, k7, k8⟩ | ⟨ν2, ζ3, c, a, k1, k2, k3, k4⟩
      · rw [k1, k2]
        simp only [CLX_rt]
        rw [if_neg (by decide), if_neg (by decide), k3.1.1.1.k4, k3.2.1.1.1.k7]
        by_cases e41 : sg tx L s2 41
        · obtain ⟨ν3, q1, q2, q3⟩ := (takeSign_rt k3.1 (c := 41) (by omega) (by omega)).1 e41
          obtain ⟨ζ4, t1, t2, t3⟩ := (sign_rt k3.2.1 (hc_c (c := 41) (by omega) (by omega))).1 e41
          have hgt2 := nx_gt k3.1.2.1 (kd_3 e41.1).1
          rw [q1, t1]
          simp only [CLX_rt]
          have w20 : ζ4 105 20 = d + 1 := by rw [t3 _ _ (by omega)]; exact k3.2.2.2.1
          rw [if_neg (by decide), if_pos (by decide), t2.1.1.g7_20, w20, w32_eq (by omega) (by omega), t2.1.1.p7_20, show d + 1 - 1 = d by omega]
          refine Or.inl ⟨ν3, mUp ζ4 105 20 d, nx tx L s2, n2, rfl, rfl, ⟨q2, t2.fr2 fun z k hk => mUp_ne _ _ (by omega), k3.2.2.1.fr (by have := k3.2.2.2.2; have := k3.1.2.1.1; omega) (fun z k hk => q3 z k (by omega)) (fun z k hk => by rw [mUp_ne _ _ (by omega)]; exact t3 z k (by omega)), mUp_same _ _ _ _, by have := k3.2.2.2.2; omega⟩, by omega, by omega, by omega, (g1.toS.cu.tr k7).tr q3.toS.cu, (hCuM.tr k8).tr (fun z k hk => by rw [mUp_ne _ _ (by omega)]; exact t3 z k (by omega))⟩
        · have q1 := (takeSign_rt k3.1 (c := 41) (by omega) (by omega)).2 e41
          obtain ⟨ζ4, t1, t2⟩ := (sign_rt k3.2.1 (hc_c (c := 41) (by omega) (by omega))).2 e41
          rw [q1, t1]
          simp only [CLX_rt]
          have hs2 := k3.1.2.1.1
          exact Or.inr ⟨_, ζ4, -2, s2, rfl, rfl, (fl_fc (by omega) (by omega) (by omega) (by omega)).tr (g1.toS.cu.tr k7), t2.fm.tr hpp.1 (hCuM.tr k8)⟩
      · rw [k1, k2]
        simp only [CLX_rt]
        exact Or.inr ⟨ν2, ζ3, c, a, rfl, rfl, k3.tr g1.toS.cu, k4.tr hpp.1 hCuM⟩
    · have hd4 : d = 4 := by omega
      rw [if_neg ed, if_neg (fun k => k hd4), m1.1.1.g7_14, a1, m1.1.1.k7, fails_rt m1.1, hS.k4, fail_rt hR]
      simp only [CLX_rt]
      exact Or.inr ⟨_, _, -6, s, rfl, rfl, fl_fc (by omega) (by omega) hp1.1 (by omega), (fails_me f1.t (-6) s).fm⟩
  rw [b2_f e40, if_pos rfl, if_pos (show ¬ hc tx L s = 40 from fun k => e40 (h40.mp k)), m1.1.1.k7]
  obtain ⟨ζ2, e2, m2, f2, a2⟩ := here_rt m1
  rw [e2]
  simp only [CLX_rt]
  rw [isDigit_rt, hS.g4_7, hR.2.2.2.1]
  simp only [CLX_rt]
  have hd := hc_d (tx := tx) (L := L) (s := s)
  by_cases ek : kd tx L s = 1
  · rw [b2_t (hd.mpr ek), if_neg (by omega), if_neg (by decide), hS.k4, m2.1.1.k7]
    have e3 := kd_1 ek
    have hgt := nx_gt hp e3.1
    have hnum := nv_le ek hp (en tx L s - s).toNat (by have := en_le hp; omega)
    by_cases er : 0 ≤ num tx L s ∧ num tx L s ≤ 9999
    · obtain ⟨ν1, q1, q2, q3, q4⟩ := (takeNumber_rt hR (lo := 0) (hi := 9999) (by omega) (by omega)).1 ek er
      obtain ⟨ζ3, t1, t2, t3, t4, t5⟩ := (reads_rt m2 (lo := 0) (hi := 9999)).1 ek er
      rw [q1, t1]
      simp only [CLX_rt]
      have hfm : RmT ξ ζ3 := ((f1.tr f2).t).tr t3
      have hC2 : Cu ν1 ζ3 p n D := hC.t (by omega) q3 hfm
      obtain ⟨ν2, ζ4, w1, w2, w3, w4, w5⟩ := push_st (d := d) q2 t2 hC2 (by rw [hfm _ _ (by omega)]; exact hN) (by omega) (by omega) (op := 0) (v := num tx L s) (by omega) (fun _ => er) (fun k => absurd k (by omega)) (fun k => absurd k (by omega)) ⟨D0, by rw [if_pos (by omega)]; omega⟩
      have hi0 : itm 0 (num tx L s) = num tx L s := if_pos rfl
      rw [hi0] at w1
      rw [if_pos (by decide), if_pos (by decide), q2.1.1.g4_10, q4, q2.1.1.k4, w1, t2.1.1.g7_17, t4, t2.1.1.k7, w2]
      simp only [CLX_rt]
      rw [if_pos (show (0 : Int) ≤ 1 by decide)] at w3
      exact Or.inl ⟨ν2, ζ4, nx tx L s, n + 1, rfl, rfl, w3, by omega, by omega, by omega, q3.cu.tr w4, hfm.cu.tr w5⟩
    · have q1 := (takeNumber_rt hR (lo := 0) (hi := 9999) (by omega) (by omega)).2.1 ek er
      obtain ⟨ζ3, t1, t2⟩ := (reads_rt m2 (lo := 0) (hi := 9999)).2.1 ek er
      rw [q1, t1]
      simp only [CLX_rt]
      exact Or.inr ⟨_, ζ3, -3, s, rfl, rfl, fl_fc (by omega) (by omega) hp1.1 (by omega), t2.fm.tr hpp.1 (f1.tr f2).t.cu⟩
  · rw [b2_f (fun k => ek (hd.mp k)), if_pos (by omega), if_pos rfl, hS.k4, variableHere_rt hR]
    obtain ⟨ζ3, t1, t2, t3⟩ := variable_rt m2
    have t3' := t3 rm
    simp only [CL] at t3'
    rw [t3']
    have hv := vr_le (tx := tx) (L := L) (s := s)
    simp only [CLX_rt]
    unfold BX7_readsFactor_165
    have hfm : RmT ξ ζ3 := ((f1.tr f2).tr t2).t
    by_cases ev : vr tx L s = 0
    · rw [if_neg (fun k => k ev), if_pos ev, if_neg (fun k => k rfl)]
      obtain ⟨t4, t5⟩ := t1.2 ev
      rw [hS.k4, fail_rt hR, t4.1.1.g7_14, t5, t4.1.1.k7, fails_rt t4.1]
      simp only [CL, CLX_rt]
      exact Or.inr ⟨_, _, -2, s, rfl, rfl, fl_fc (by omega) (by omega) hp1.1 (by omega), (fails_me hfm (-2) s).fm⟩
    · rw [if_pos ev, if_neg ev, if_pos (by omega)]
      have t4 := t1.1 ev
      have hgt := nx_gt hp (hv.2.2 ev)
      have hC2 : Cu μ ζ3 p n D := hC.t (by omega) RdS.rf hfm
      obtain ⟨ν1, ζ4, w1, w2, w3, w4, w5⟩ := push_rt hS t4.1.1 hC2 (by omega) (op := 1) (v := -1 - vr tx L s) (by omega) (fun k => absurd k (by omega)) (fun _ => by omega) (fun k => absurd k (by omega)) ⟨D0, by rw [if_pos (by omega)]; omega⟩
      have hi0 : itm 1 (-1 - vr tx L s) = vr tx L s := by
        show -1 - (-1 - vr tx L s) = _
        omega
      rw [hi0] at w1
      have r1 : Rd ν1 tx L s := hR.fr2 fun z k hk => w4 z k (by omega)
      obtain ⟨ν2, u1, u2, u3⟩ := r1.next
      rw [hS.k4, w1, t4.1.1.k7, w2]
      simp only [CL, CLX_rt]
      rw [r1.1.1.k4, u1]
      simp only [CLX_rt]
      exact Or.inl ⟨ν2, ζ4, nx tx L s, n + 1, rfl, rfl, ⟨u2, t4.fr2 fun z k hk => w5 z k (by omega), w3.fr (by omega) (fun z k hk => u3 z k (by omega)) (fun z k hk => rfl), by rw [w5 _ _ (by omega), hfm _ _ (by omega)]; exact hN, by omega⟩, by omega, by omega, by omega, CuC.tr (ν := ν1) (fun z k hk => w4 z k (by omega)) u3.toS.cu, hfm.cu.tr (fun z k hk => w5 z k (by omega))⟩
end FAC
