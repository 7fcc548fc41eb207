/-! the rank that the law's screen tells -/
section RNK
variable {μ : Mem} {s a b sh x y j dx dy : Int} {X : Int → Prop}
theorem rank_go {o e cap : Int} {ids ks : List Int} (h0 : 0 < μ 0 0) (hp : 1 ≤ a * a + b * b ∧ a * a + b * b ≤ 18) (hs : Sc8 μ s a b sh dx dy o) (hA : Al μ o e cap ids) (hO : Ord μ sh a b ids ks) (hS : ∀ f, Sm ks f = su f ((a * a + b * b) * (a * a + b * b))) (hlk : (ks.length : Int) ≤ 324) (x0 : 0 ≤ x) (x1 : x ≤ 20) (y0 : 0 ≤ y) (y1 : y ≤ 20) (hdx : 0 ≤ dx ∧ dx ≤ 17) (hdy : 0 ≤ dy ∧ dy ≤ 17) (hj : j = (a * a + b * b) * ((y + dy) % (a * a + b * b)) + (x + dx) % (a * a + b * b)) {kk : Int} (kk1 : kk < ks.length) (hkk : gt ks kk = j) : ∀ (d n : Nat) (k : Int), kk - k = d → d < n → 0 ≤ k → LX8_rank_2 n s x y k μ = RT (rk sh a b j) μ
  | _, 0, k, _, h2, _ => by omega
  | d, n + 1, k, h1, h2, k0 => by
    have hlen : (ids.length : Int) = ks.length := by rw [hO.1]
    have k1 : k < ks.length := by omega
    obtain ⟨⟨⟨p0, p1, p2⟩, p3, p4, p5⟩, p6, p7⟩ := hO.2.1 k k0 k1
    have pp0 : (0 : Int) < a * a + b * b := by omega
    generalize hq : a * a + b * b = q at *
    have r1 := Int.emod_nonneg (x + dx) (show q ≠ 0 by omega)
    have r2 := Int.emod_lt_of_pos (x + dx) pp0
    have r3 := Int.emod_nonneg (y + dy) (show q ≠ 0 by omega)
    have hpl := place_of (p := q) pp0 r1 r2 r3
    have hjj : (y + dy) % q * q + (x + dx) % q = j := by rw [hj, Int.mul_comm]
    rw [hjj] at hpl
    have hback := Int.mul_ediv_add_emod (gt ks k) q
    by_cases e : gt ks k = j
    · have hk : rk sh a b j = k := by
        rw [← e]
        exact rk_of hO.2.2 (by rw [hq]; exact hS) k0 k1
      rw [hk]
      show BX8_rank_2 _ s x y k μ = _
      unfold BX8_rank_2
      rw [e, hpl.1] at p3
      rw [e, hpl.2] at p4
      rw [GF_go hs.1.2.2 hs.2.2.2.2, KD_go hA.1.2.2.1, get_rt hA h0 k0 (by omega)]
      simp only [CL, CLX_rt]
      rw [KD_go p2, GF_go p2 p3, GF_go hs.1.2.2 hs.2.2.1, GF_go (v := q) hs.1.2.2 (by rw [hs.2.1.2.2.1, hq]), RM_of (by omega), w32_eq (by omega) (by omega), tmod_small (by omega), if_neg (by omega), GF_go hs.1.2.2 hs.2.2.2.2, KD_go hA.1.2.2.1, get_rt hA h0 k0 (by omega)]
      simp only [CLX_rt]
      rw [KD_go p2, GF_go p2 p4, GF_go hs.1.2.2 hs.2.2.2.1, GF_go (v := q) hs.1.2.2 (by rw [hs.2.1.2.2.1, hq]), RM_of (by omega), w32_eq (by omega) (by omega), tmod_small (by omega), if_pos rfl]
    · have hne : k ≠ kk := fun w => e (by rw [w]; exact hkk)
      obtain ⟨d, rfl⟩ : ∃ d', d = d' + 1 := ⟨d - 1, by omega⟩
      have ih := rank_go h0 (by rw [hq]; exact hp) hs hA hO (by rw [hq]; exact hS) hlk x0 x1 y0 y1 hdx hdy (by rw [hq]; exact hj) kk1 hkk d n (k + 1) (by omega) (by omega) (by omega)
      rw [← ih]
      show BX8_rank_2 _ s x y k μ = _
      unfold BX8_rank_2 BX8_rank_58
      rw [GF_go hs.1.2.2 hs.2.2.2.2, KD_go hA.1.2.2.1, get_rt hA h0 k0 (by omega)]
      simp only [CL, CLX_rt]
      rw [KD_go p2, GF_go p2 p3, GF_go hs.1.2.2 hs.2.2.1, GF_go (v := q) hs.1.2.2 (by rw [hs.2.1.2.2.1, hq]), RM_of (by omega), w32_eq (z := x + dx) (by omega) (by omega), tmod_small (by omega), w32_eq (z := k + 1) (by omega) (by omega)]
      by_cases e1 : gt ks k % q = (x + dx) % q
      · rw [if_neg (by omega), GF_go hs.1.2.2 hs.2.2.2.2, KD_go hA.1.2.2.1, get_rt hA h0 k0 (by omega)]
        simp only [CLX_rt]
        have e2 : ¬ gt ks k / q = (y + dy) % q := fun w => e (by
          rw [e1, w] at hback
          omega)
        rw [KD_go p2, GF_go p2 p4, GF_go hs.1.2.2 hs.2.2.2.1, GF_go (v := q) hs.1.2.2 (by rw [hs.2.1.2.2.1, hq]), RM_of (by omega), w32_eq (z := y + dy) (by omega) (by omega), tmod_small (by omega), if_neg e2]
      · rw [if_pos e1]
theorem rank_rt (h0 : 0 < μ 0 0) (h : Scn μ X s a b sh dx dy) (x0 : 0 ≤ x) (x1 : x ≤ 20) (y0 : 0 ≤ y) (y1 : y ≤ 20) (hdx : 0 ≤ dx ∧ dx ≤ 17) (hdy : 0 ≤ dy ∧ dy ≤ 17) : FX8_rank s x y μ = RT (rk sh a b ((a * a + b * b) * ((y + dy) % (a * a + b * b)) + (x + dx) % (a * a + b * b))) μ := by
  obtain ⟨o, e, cap, ids, ks, hs, hA, hO, hS, hl, ⟨ha, hb, hab, hsh⟩, -⟩ := h
  have hp := sq_pos ha hb hab
  have hpp := mul_le_of (show 0 ≤ a * a + b * b by omega) hp.2 (show 0 ≤ a * a + b * b by omega) hp.2
  have r1 := Int.emod_nonneg (x + dx) (show a * a + b * b ≠ 0 by omega)
  have r2 := Int.emod_lt_of_pos (x + dx) (show 0 < a * a + b * b by omega)
  have r3 := Int.emod_nonneg (y + dy) (show a * a + b * b ≠ 0 by omega)
  have r4 := Int.emod_lt_of_pos (y + dy) (show 0 < a * a + b * b by omega)
  have r5 : ((y + dy) % (a * a + b * b) + 1) * (a * a + b * b) ≤ (a * a + b * b) * (a * a + b * b) := Int.mul_le_mul_of_nonneg_right (by omega) (by omega)
  have r6 : 0 ≤ (a * a + b * b) * ((y + dy) % (a * a + b * b)) := Int.mul_nonneg (by omega) r3
  rw [Int.add_mul, Int.one_mul, Int.mul_comm ((y + dy) % (a * a + b * b))] at r5
  obtain ⟨kk, kk0, kk1, hkk⟩ := mem_of hS (j := (a * a + b * b) * ((y + dy) % (a * a + b * b)) + (x + dx) % (a * a + b * b)) (by omega) (by omega)
  exact rank_go h0 hp hs hA hO hS (by omega) x0 x1 y0 y1 hdx hdy rfl kk1 hkk kk.toNat FU 0 (by omega) (by rw [show FU = 20000 from rfl]; omega) (Int.le_refl _)
end RNK
