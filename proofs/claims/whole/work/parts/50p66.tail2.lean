/-! the statement plate, side by side: shape, curve, end -/
section PL2
variable {μ ξ ν ζ : Mem} {L s s4 g U1 U2 p nm a b n s1 : Int} {tx : Int → Int}
/-- a fault of the component behind what curves may change -/
theorem Dr_fc {c e : Int} (h : Dr U1 U2 μ ξ tx L s g) (hF : CuC μ ν) (hf : Fc ν ζ c e) : Fe U1 U2 g μ ζ c e := by
  obtain ⟨⟨k1, k2, k3, k4, k5, k6⟩, f⟩ := hf
  have hr2 := h.2.2.1.2.2.1
  have hs := h.1.1.2.1.1
  have hL := h.1.1.1.2.1
  have hS := h.1.1.1.1
  obtain ⟨j1, j2, j3⟩ := h.2.2.2.2.2.2
  have hne : ∀ z k, z ≠ 23 → z ≠ 24 → ζ z k = μ z k := fun z k h1 h2 => by rw [f _ _ (by omega)]; exact hF z k (by omega)
  exact ⟨⟨k1, k2, k3, k4, k5, k6⟩, ⟨fun z k hz _ => hne z k (by omega) (by omega), by rw [hne _ _ (by omega) (by omega)]; exact Int.le_refl _⟩, hS.fr fun a k hs => by
    rw [f _ _ (by unfold CSt at hs; omega)]
    exact hF a k (by unfold CSt at hs; omega), by rw [hne _ _ (by omega) (by omega)]; omega, by rw [hne _ _ (by omega) (by omega)]; omega⟩
theorem plate_tail (h : Dr U1 U2 μ ξ tx L s g) (hp : p = ξ 107 2) (p4 : p < 4) (hR : Rd ν tx L s4) (hM : Md ζ tx L s4) (hs : s < s4) (hF : RdS μ ν) (hm : PF' p ξ ζ) (h19 : ζ 105 19 = p) (hw : Pw ζ p n s1 tx a b) (n1 : 1 ≤ n) (n6 : n ≤ 6) (hl : ∀ j, 0 ≤ j → j < n → 97 ≤ tx (s1 + j) ∧ tx (s1 + j) ≤ 122) (hnm : nm = pk (fun j => tx (s1 + j)) n.toNat) (hab : 0 ≤ a ∧ a ≤ 3 ∧ 0 ≤ b ∧ b ≤ 3 ∧ 0 < a + b) : SimS 1 U1 U2 g μ ξ tx L s (KD 4 23 ν (CL (FX4_shapeHere 23 ν) fun t104 u105 => if 0 ≤ t104 then (KD 4 23 u105 (CL (FX4_advance 23 u105) fun _ u107 => NU u107 (KD 4 23 u107 (CL (FX4_isWord 23 5 u107) fun t108 u109 => if t108 = 0 then (BX4_readPlate_183 23 nm a b t104 0 u109) else (KD 4 23 u109 (CL (FX4_advance 23 u109) fun _ u111 => PF 4 12 23 0 u111 fun u112 => KD 4 23 u112 (CL (TX4_readSum 23 0 u112) fun t113 u114 => if ¬ t113 = 0 then (NW 0 1 u114 fun t115 u116 => GF 4 11 23 u116 fun t117 => GF 4 12 23 u116 fun t118 => CL (FJ7_copyOf_59c91 t117 t118 u116) fun t119 u120 => KD 0 t115 u120 (CL (FX0_init t115 t119 u120) fun _ u122 => BX4_readPlate_183 23 nm a b t104 t115 u122)) else (RTZ 0 u114)))))))) else (KD 4 23 u105 (CL (FX4_fail 23 (-2) u105) fun t123 u124 => RTZ t123 u124)))) (KD 7 105 ζ (CL (FX7_takes 105 9 ζ) fun t104 u105 => if t104 = 0 then (KD 7 105 u105 (CL (FX7_takes 105 10 u105) fun t106 u107 => if t106 = 0 then (KD 7 105 u107 (CL (FX7_takes 105 11 u107) fun t108 u109 => if t108 = 0 then (KD 7 105 u109 (CL (FX7_takes 105 12 u109) fun t110 u111 => if t110 = 0 then (BX7_readsPlate_290 105 (196 + 1226 * p) (-1) u111) else (BX7_readsPlate_290 105 (196 + 1226 * p) 3 u111))) else (BX7_readsPlate_290 105 (196 + 1226 * p) 2 u109))) else (BX7_readsPlate_290 105 (196 + 1226 * p) 1 u107))) else (BX7_readsPlate_290 105 (196 + 1226 * p) 0 u105))) := by
  have hr2 := h.2.2.1.2.2.1
  have h23 : μ 23 4 = 25 + 8 * g := h.2.1.2.2
  obtain ⟨j1, j2, j3⟩ := id h.2.2.2.2.2.2
  have p0 : 0 ≤ p := by omega
  obtain ⟨η, t1, t2, t3⟩ := shape_m hM (196 + 1226 * p)
  have hv := shp_le (tx := tx) (L := L) (s := s4)
  rw [t3, hR.1.1.k4, shapeHere_rt hR]
  simp only [CL, CLX_rt]
  unfold BX7_readsPlate_290
  generalize shp tx L s4 = sh at t1 hv ⊢
  by_cases ev : sh = -1
  · obtain ⟨t4, t5⟩ := t1.2 ev
    rw [if_neg (by omega), if_neg (show ¬ ¬ sh = -1 from fun k => k ev), hR.1.1.k4, fail_rt hR, t4.1.1.g7_14, t5, t4.1.1.k7, fails_rt t4.1]
    exact Or.inr ⟨_, _, -2, s4, rfl, rfl, Dr_fl h hR hF (by omega) (by omega), (fails_me t2.t (-2) s4).fm.md (hm.md p0)⟩
  have t4 := t1.1 ev
  have hs4 := hv.2.2 ev
  have hgt := nx_gt hR.2.1 hs4
  obtain ⟨ν5, k1, r5, k3⟩ := hR.next
  have hw2 : Pw η p n s1 tx a b := by
    have e : η 107 = ζ 107 := by
      funext k
      exact t2 _ _ (by omega)
    unfold Pw
    rw [e]
    exact hw
  obtain ⟨η2, u1, u2, u3, u20, u19, v0, v1, v7, v8, v9, v12, vz⟩ := shape_row t4 hw2 p0 p4 n6 (sh := sh)
  rw [if_pos (by omega), if_pos ev, hR.1.1.k4, k1, u1]
  simp only [CLX_rt]
  have hS5 : RdS μ ν5 := hF.tr k3.toS
  have h00 : ν5 0 0 = μ 0 0 := hS5 _ _ (by omega)
  unfold NU
  rw [if_pos (by omega), r5.1.1.k4, isWord_rt r5 (by omega) (by omega), u2.1.1.k7]
  simp only [CLX_rt]
  have hm2 : PF' p ξ η2 := (hm.tr (fun z k hz => t2 z k (by omega))).tr u3
  have q19 : η2 105 19 = p := by rw [u19, t2 _ _ (by omega), h19]
  have hnn : ∀ (r : Row), rO r p 0 = n → (∀ j, 0 ≤ j → j < n → rO r p (1 + j) = tx (s1 + j)) → nmO r p = nm := fun r e0 e1 => by
    rw [nmO_pk, e0, hnm]
    exact pk_ext _ fun j j0 j1 => e1 j j0 (by omega)
  generalize nx tx L s4 = s5 at hgt r5 u2
  by_cases ew : wd tx L 5 s5
  · obtain ⟨η3, a1, a2, a3, a4⟩ := (takes_rt u2 (w := 5) (by omega) (by omega)).1 ew
    obtain ⟨ν6, b1, b2, b3⟩ := r5.next
    have hgt2 := nx_gt r5.2.1 (kd_2 ew.1).1
    have r7 : Rd (mUp ν6 23 12 0) tx L (nx tx L s5) := b2.fr2 fun z k hk => mUp_ne _ _ (by omega)
    rw [b2_t ew, if_neg (by decide), a1, r5.1.1.k4, b1]
    simp only [CLX_rt]
    rw [if_neg (by decide), b2.1.1.p4_12, r7.1.1.k4, a2.1.1.k7]
    have hC7 : CuC μ (mUp ν6 23 12 0) := (hS5.cu.tr b3.toS.cu).tr fun z k hk => mUp_ne _ _ (by omega)
    have e107 : η3 107 = η2 107 := by
      funext k
      exact a3 _ _ (by omega)
    have hst : St (mUp ν6 23 12 0) η3 tx L p (nx tx L s5) 0 0 0 := by
      refine ⟨r7, a2, ⟨⟨Int.le_refl _, mUp_same _ _ _ _, by rw [e107]; exact vz 13 (by omega) (by omega) (by omega), by rw [a3 _ _ (by omega)]; exact q19, p0, p4⟩, fun k k0 k1 => by omega, fun k k1 => by omega, rfl⟩, by rw [a3 _ _ (by omega)]; exact u20, by have := r7.2.1.1; omega⟩
    generalize mUp ν6 23 12 0 = ν7 at r7 hC7 hst ⊢
    generalize nx tx L s5 = s6 at hgt2 hst
    have hs0 := h.1.1.2.1.1
    rcases curve_rt hst with ⟨ν8, ζ8, s7, n7, c1, c2, c3, c4, c5, c6, c7, c8⟩ | ⟨ν8, ζ8, c, e, c1, c2, c3, c4⟩
    · rw [c1, c2]
      simp only [CLX_rt]
      rw [if_pos (by decide), if_pos (by decide)]
      obtain ⟨d1, d2, ⟨⟨m1, m2, m3, m4, m5, m6⟩, mi, mc, ms⟩, d4, d5⟩ := c3
      have hs7 := d1.2.1.1
      have hL := d1.1.2.1
      have hC8 : CuC μ ν8 := hC7.tr c7
      have h800 : ν8 0 0 = μ 0 0 := hC8 _ _ (by omega)
      have h801 : ν8 0 1 = μ 0 1 := hC8 _ _ (by omega)
      have h802 : ν8 0 2 = μ 0 2 := hC8 _ _ (by omega)
      have hm8 : PF' p ξ ζ8 := (hm2.tr a3.t.pf).tr c8.pf
      have er : ∀ k, 0 ≤ k → k < 26 → k ≠ 13 → rO (ζ8 107) p k = rO (η2 107) p k := fun k k0 k1 k2 => by
        unfold rO
        rw [c8 _ _ (by omega), e107]
      obtain ⟨ν9, x1, ⟨x2, x3, x4⟩, x5, ⟨x6, x7⟩, ⟨x8, x9⟩, x10⟩ := curve_new d1.1.1 (by omega) m1 (by omega) m2 (fun t115 u122 => BX4_readPlate_183 23 nm a b sh t115 u122)
      simp only [CL] at x1
      rw [x1]
      have hz9 : ∀ z k, z ≠ 0 → z < 117 → ν9 z k = ν8 z k := fun z k z0 z1 => x5 z k z0 (by omega)
      have r9 : Rd ν9 tx L s7 := by
        obtain ⟨y1, y2, y3, y4, y5⟩ := d1
        exact ⟨⟨y1.1.fr fun a k hs => hz9 a k (by unfold CSt at hs; omega) (by unfold CSt at hs; omega), ⟨by rw [hz9 _ _ (by omega) (by omega)]; exact y1.2.1.1, by rw [hz9 _ _ (by omega) (by omega)]; exact y1.2.1.2.1, y1.2.1.2.2⟩, fun k k0 k1 => by rw [hz9 _ _ (by omega) (by omega)]; exact y1.2.2 k k0 k1⟩, y2, by rw [hz9 _ _ (by omega) (by omega)]; exact y3, by rw [hz9 _ _ (by omega) (by omega)]; exact y4, by rw [hz9 _ _ (by omega) (by omega)]; exact y5⟩
      have f0 : rO (ζ8 107) p 0 = n := by rw [er 0 (by omega) (by omega) (by omega), v0]
      have f1 : ∀ j, 0 ≤ j → j < n → rO (ζ8 107) p (1 + j) = tx (s1 + j) := fun j j0 j1 => by rw [er (1 + j) (by omega) (by omega) (by omega)]; exact v1 j j0 j1
      refine plate_end h hp p4 r9 d2 (by omega) (fun z k z0 z1 z2 z3 => ?_) ⟨?_, ?_, ?_, ?_⟩ ⟨by omega, by omega, by omega⟩ hm8 ⟨by rw [f0]; omega, by rw [f0]; omega, fun j j0 j1 => by rw [f0] at j1; rw [f1 j j0 j1]; exact hl j j0 j1⟩ (hnn _ f0 f1) (by rw [er 7 (by omega) (by omega) (by omega), v7]) (by rw [er 8 (by omega) (by omega) (by omega), v8]) hab (by rw [er 9 (by omega) (by omega) (by omega), v9]) ⟨by omega, hv.2.1⟩ (by rw [er 10 (by omega) (by omega) (by omega)]; exact vz 10 (by omega) (by omega) (by omega)) (by rw [er 11 (by omega) (by omega) (by omega)]; exact vz 11 (by omega) (by omega) (by omega)) (by rw [er 12 (by omega) (by omega) (by omega), v12]) (fun y y0 y1 => by rw [er (14 + y) (by omega) (by omega) (by omega)]; exact vz (14 + y) (by omega) (by omega) (by omega)) ⟨by omega, by omega, fun k k1 => mc k (by omega), fun _ => by rw [m3, ms]; exact Int.le_refl _⟩ (fun e => by omega) (fun _ => ?_)
      · rw [x5 z k z0 (by omega)]
        exact hC8 z k (by omega)
      · rw [hz9 _ _ (by omega) (by omega)]; exact hC8 _ _ (by omega)
      · rw [hz9 _ _ (by omega) (by omega)]; exact hC8 _ _ (by omega)
      · rw [hz9 _ _ (by omega) (by omega)]; exact hC8 _ _ (by omega)
      · rw [hz9 _ _ (by omega) (by omega)]; exact hC8 _ _ (by omega)
      · refine ⟨⟨by omega, by omega, x6⟩, ⟨by omega, by omega, by rw [x7]; exact x8, by rw [x7, m3]; exact x9⟩, fun k k0 k1 => ?_⟩
        rw [x7, x10 k k0 (by omega)]
        exact mi k k0 (by omega)
    · rw [c1, c2]
      simp only [CLX_rt]
      exact Or.inr ⟨ν8, ζ8, c, e, rfl, rfl, Dr_fc h hC7 c3, c4.md ((hm2.tr a3.t.pf).md p0)⟩
  · obtain ⟨η3, a1, a2, a3, a4⟩ := (takes_rt u2 (w := 5) (by omega) (by omega)).2 ew
    rw [b2_f ew, if_pos rfl, a1]
    simp only [CLX_rt, ↓reduceIte]
    have e107 : η3 107 = η2 107 := by
      funext k
      exact a3 _ _ (by omega)
    refine plate_end h hp p4 r5 a2 (by omega) (fun z k z0 z1 z2 z3 => hS5 z k (by omega)) ⟨hS5 _ _ (by omega), hS5 _ _ (by omega), hS5 _ _ (by omega), hS5 _ _ (by omega)⟩ ⟨by omega, by rw [hS5 _ _ (by omega)]; omega, by rw [hS5 _ _ (by omega)]; omega⟩ (hm2.tr a3.t.pf) ⟨by rw [e107, v0]; omega, by rw [e107, v0]; omega, fun j j0 j1 => by rw [e107, v0] at j1; rw [e107, v1 j j0 j1]; exact hl j j0 j1⟩ (by rw [e107]; exact hnn _ v0 v1) (by rw [e107, v7]) (by rw [e107, v8]) hab (by rw [e107, v9]) ⟨by omega, hv.2.1⟩ (by rw [e107]; exact vz 10 (by omega) (by omega) (by omega)) (by rw [e107]; exact vz 11 (by omega) (by omega) (by omega)) (by rw [e107, v12]) (fun y y0 y1 => by rw [e107]; exact vz (14 + y) (by omega) (by omega) (by omega)) ?_ (fun _ => rfl) (fun e => absurd (by rw [e107]; exact vz 13 (by omega) (by omega) (by omega)) e)
    have e13 : rO (η3 107) p 13 = 0 := by rw [e107]; exact vz 13 (by omega) (by omega) (by omega)
    exact ⟨by omega, by omega, fun k k1 => by omega, fun k1 => by omega⟩
end PL2
