/-! the statement plate, side by side: its two numbers -/
section PLN
variable {μ ξ ν ζ : Mem} {L s s2 g U1 U2 p nm n s1 : Int} {tx : Int → Int}
theorem plate_nums (h : Dr U1 U2 μ ξ tx L s g) (hp : p = ξ 107 2) (p4 : p < 4) (hR : Rd ν tx L s2) (hM : Md ζ tx L s2) (hs : s < s2) (hF : RdS μ ν) (hm : PF' p ξ ζ) (h19 : ζ 105 19 = p) (w0 : rO (ζ 107) p 0 = n) (w1 : ∀ j, 0 ≤ j → j < n → rO (ζ 107) p (1 + j) = tx (s1 + j)) (w7 : ∀ k, 7 ≤ k → k < 1226 → rO (ζ 107) p k = 0) (n1 : 1 ≤ n) (n6 : n ≤ 6) (hl : ∀ j, 0 ≤ j → j < n → 97 ≤ tx (s1 + j) ∧ tx (s1 + j) ≤ 122) (hnm : nm = pk (fun j => tx (s1 + j)) n.toNat) : SimS 1 U1 U2 g μ ξ tx L s (KD 4 23 ν (CL (FX4_takeNumber 23 0 3 ν) fun t117 u118 => if ¬ t117 = 0 then (GF 4 10 23 u118 fun t119 => if ¬ t119 = 0 then (BX4_readPlate_95 23 nm t119 0 23 u118) else (BX4_readPlate_95 23 nm t119 1 23 u118)) else (RTZ 0 u118))) (KD 7 105 ζ (CL (FX7_reads 105 0 3 ζ) fun t103 u104 => if ¬ t103 = 0 then (GF 7 2 105 u104 fun t105 => GF 7 17 105 u104 fun t106 => AS 1 t105 (w32 (196 + 1226 * p + 7)) t106 u104 fun u107 => KD 7 105 u107 (CL (FX7_reads 105 0 3 u107) fun t108 u109 => if ¬ t108 = 0 then (GF 7 17 105 u109 fun t110 => if ¬ t110 = 0 then (BX7_readsPlate_224 105 (196 + 1226 * p) u109) else (GF 7 2 105 u109 fun t111 => AL 1 t111 (w32 (196 + 1226 * p + 7)) u109 fun t112 => if ¬ t112 = 0 then (BX7_readsPlate_224 105 (196 + 1226 * p) u109) else (GF 7 18 105 u109 fun t113 => KD 7 105 u109 (CL (FX7_fails 105 (-3) t113 u109) fun t114 u115 => RTZ t114 u115)))) else (RTZ 0 u109))) else (RTZ 0 u104))) := by
  have hr2 := h.2.2.1.2.2.1
  have p0 : 0 ≤ p := by omega
  rw [hR.1.1.k4, hM.1.1.k7]
  by_cases ek : kd tx L s2 = 1
  · by_cases er : 0 ≤ num tx L s2 ∧ num tx L s2 ≤ 3
    · obtain ⟨ν3, q1, q2, q3, q4⟩ := (takeNumber_rt hR (lo := 0) (hi := 3) (by omega) (by omega)).1 ek er
      obtain ⟨ζ3, t1, t2, t3, t4, t5⟩ := (reads_rt hM (lo := 0) (hi := 3)).1 ek er
      have hgt := nx_gt hR.2.1 (kd_1 ek).1
      have hS4 : MSh (mUp ζ3 107 (196 + 1226 * p + 7) (num tx L s2)) := t2.1.1.up (by unfold MSt; omega)
      have hM4 : Md (mUp ζ3 107 (196 + 1226 * p + 7) (num tx L s2)) tx L (nx tx L s2) := t2.fr2 fun z k hk => mUp_ne _ _ (by omega)
      rw [q1, t1]
      simp only [CL, CLX_rt]
      rw [if_pos (by decide), if_pos (by decide), q2.1.1.g4_10, q4, t2.1.1.g7_2, t2.1.1.g7_17, t4, w32_eq (z := 196 + 1226 * p + 7) (by omega) (by omega), t2.1.1.s107 (by omega) (by omega), hS4.k7]
      have hF3 : RdS μ ν3 := hF.tr q3
      have hm4 : PF' p ξ (mUp ζ3 107 (196 + 1226 * p + 7) (num tx L s2)) := (hm.tr t3.pf).tr fun z k hk => mUp_ne _ _ (by omega)
      have x19 : mUp ζ3 107 (196 + 1226 * p + 7) (num tx L s2) 105 19 = p := by rw [mUp_ne _ _ (by omega), t3 _ _ (by omega)]; exact h19
      have xe : ∀ k, k ≠ 7 → rO (mUp ζ3 107 (196 + 1226 * p + 7) (num tx L s2) 107) p k = rO (ζ 107) p k := fun k hk => by
        unfold rO
        rw [mUp_ne _ _ (by omega)]
        exact t3 _ _ (by omega)
      have x7 : rO (mUp ζ3 107 (196 + 1226 * p + 7) (num tx L s2) 107) p 7 = num tx L s2 := mUp_same _ _ _ _
      generalize mUp ζ3 107 (196 + 1226 * p + 7) (num tx L s2) = ζ4 at hS4 hM4 hm4 x19 xe x7 ⊢
      generalize num tx L s2 = a at er x7 ⊢
      generalize nx tx L s2 = s3 at hgt q2 hM4
      -- the second number
      have e95 : (if ¬ a = 0 then (BX4_readPlate_95 23 nm a 0 23 ν3) else (BX4_readPlate_95 23 nm a 1 23 ν3)) = BX4_readPlate_95 23 nm a (if a = 0 then 1 else 0) 23 ν3 := by
        by_cases e : a = 0
        · rw [if_neg (fun k => k e), if_pos e]
        · rw [if_pos e, if_neg e]
      rw [e95]
      have hlo : 0 ≤ (if a = 0 then (1 : Int) else 0) ∧ (if a = 0 then (1 : Int) else 0) ≤ 1 := by split <;> omega
      have hlo2 : (if a = 0 then (1 : Int) else 0) = 0 → a ≠ 0 := fun k e => by rw [if_pos e] at k; omega
      have hlo3 : a ≠ 0 → (if a = 0 then (1 : Int) else 0) = 0 := fun e => if_neg e
      have hlo4 : a = 0 → (if a = 0 then (1 : Int) else 0) = 1 := fun e => if_pos e
      generalize (if a = 0 then (1 : Int) else 0) = lo at hlo hlo2 hlo3 hlo4 ⊢
      unfold BX4_readPlate_95
      rw [q2.1.1.k4]
      simp only [CL]
      by_cases ek3 : kd tx L s3 = 1
      · by_cases eb : lo ≤ num tx L s3 ∧ num tx L s3 ≤ 3
        · obtain ⟨ν5, b1, b2, b3, b4⟩ := (takeNumber_rt q2 (lo := lo) (hi := 3) (by omega) (by omega)).1 ek3 eb
          obtain ⟨ζ5, c1, c2, c3, c4, c5⟩ := (reads_rt hM4 (lo := 0) (hi := 3)).1 ek3 ⟨by omega, eb.2⟩
          have hgt3 := nx_gt q2.2.1 (kd_1 ek3).1
          rw [b1, c1]
          simp only [CLX_rt]
          have y7 : ζ5 107 (196 + 1226 * p + 7) = a := by rw [c3 _ _ (by omega)]; exact x7
          have e224 : (if ¬ num tx L s3 = 0 then (BX7_readsPlate_224 105 (196 + 1226 * p) ζ5) else (GF 7 2 105 ζ5 fun t111 => AL 1 t111 (196 + 1226 * p + 7) ζ5 fun t112 => if ¬ t112 = 0 then (BX7_readsPlate_224 105 (196 + 1226 * p) ζ5) else (GF 7 18 105 ζ5 fun t113 => KD 7 105 ζ5 (CLX (FX7_fails 105 (-3) t113 ζ5) (fun t114 u115 => RTZ t114 u115) fun e v μ => some (e, v, μ))))) = BX7_readsPlate_224 105 (196 + 1226 * p) ζ5 := by
            by_cases e : num tx L s3 = 0
            · rw [if_neg (fun k => k e), c2.1.1.g7_2, c2.1.1.l107 (by omega) (by omega), y7, if_pos (fun k => by have := hlo4 k; omega)]
            · rw [if_pos e]
          rw [if_pos (by decide), if_pos (by decide), b2.1.1.g4_10, b4, c2.1.1.g7_17, c4, e224]
          unfold BX7_readsPlate_224
          rw [c2.1.1.g7_2, c2.1.1.g7_17, c4, w32_eq (z := 196 + 1226 * p + 8) (by omega) (by omega), c2.1.1.s107 (by omega) (by omega)]
          have z4 : ∀ k, k ≠ 7 → k ≠ 8 → rO (mUp ζ5 107 (196 + 1226 * p + 8) (num tx L s3) 107) p k = rO (ζ 107) p k := fun k h7 h8 => by
            rw [← xe k h7]
            unfold rO
            rw [mUp_ne _ _ (by omega)]
            exact c3 _ _ (by omega)
          exact plate_tail (s4 := nx tx L s3) (ζ := mUp ζ5 107 (196 + 1226 * p + 8) (num tx L s3)) (n := n) (s1 := s1) h hp p4 b2 (c2.fr2 fun z k hk => mUp_ne _ _ (by omega)) (by omega) (hF3.tr b3) ((hm4.tr c3.pf).tr fun z k hk => mUp_ne _ _ (by omega)) (by rw [mUp_ne _ _ (by omega), c3 _ _ (by omega)]; exact x19) ⟨by rw [z4 _ (by omega) (by omega)]; exact w0, fun j j0 j1 => by rw [z4 _ (by omega) (by omega)]; exact w1 j j0 j1, ⟨by unfold rO; rw [mUp_ne _ _ (by omega)]; exact y7, mUp_same _ _ _ _⟩, fun k k0 k1 => by rw [z4 _ (by omega) (by omega)]; exact w7 k (by omega) k1⟩ n1 n6 hl hnm ⟨er.1, er.2, by omega, eb.2, by
            by_cases e : a = 0
            · have := hlo4 e; omega
            · omega⟩
        · have b1 := (takeNumber_rt q2 (lo := lo) (hi := 3) (by omega) (by omega)).2.1 ek3 eb
          rw [b1]
          by_cases eb2 : 0 ≤ num tx L s3 ∧ num tx L s3 ≤ 3
          · obtain ⟨ζ5, c1, c2, c3, c4, c5⟩ := (reads_rt hM4 (lo := 0) (hi := 3)).1 ek3 eb2
            rw [c1]
            simp only [CLX_rt]
            have y7 : ζ5 107 (196 + 1226 * p + 7) = a := by rw [c3 _ _ (by omega)]; exact x7
            have ea : a = 0 := Decidable.byContradiction fun k => by have := hlo3 k; omega
            have e0 : num tx L s3 = 0 := by have := hlo4 ea; omega
            rw [if_neg (show ¬ ¬ True from fun k => k trivial), if_pos (show ¬ (1 : Int) = 0 by decide), c2.1.1.g7_17, c4, if_neg (fun k => k e0), c2.1.1.g7_2, c2.1.1.l107 (by omega) (by omega), y7, if_neg (fun k => k ea), c2.1.1.g7_18, c5, c2.1.1.k7, fails_rt c2.1]
            exact Or.inr ⟨_, _, -3, s3, rfl, rfl, Dr_fl h q2 hF3 (by omega) (by omega), (fails_me c3 (-3) s3).fm.md (hm4.md p0)⟩
          · obtain ⟨ζ5, c1, c2⟩ := (reads_rt hM4 (lo := 0) (hi := 3)).2.1 ek3 eb2
            rw [c1]
            exact Or.inr ⟨_, ζ5, -3, s3, rfl, rfl, Dr_fl h q2 hF3 (by omega) (by omega), c2.fm.md (hm4.md p0)⟩
      · have b1 := (takeNumber_rt q2 (lo := lo) (hi := 3) (by omega) (by omega)).2.2 ek3
        obtain ⟨ζ5, c1, c2⟩ := (reads_rt hM4 (lo := 0) (hi := 3)).2.2 ek3
        rw [b1, c1]
        exact Or.inr ⟨_, ζ5, -2, s3, rfl, rfl, Dr_fl h q2 hF3 (by omega) (by omega), c2.fm.md (hm4.md p0)⟩
    · have q1 := (takeNumber_rt hR (lo := 0) (hi := 3) (by omega) (by omega)).2.1 ek er
      obtain ⟨ζ3, t1, t2⟩ := (reads_rt hM (lo := 0) (hi := 3)).2.1 ek er
      rw [q1, t1]
      exact Or.inr ⟨_, ζ3, -3, s2, rfl, rfl, Dr_fl h hR hF (by omega) (by omega), t2.fm.md (hm.md p0)⟩
  · have q1 := (takeNumber_rt hR (lo := 0) (hi := 3) (by omega) (by omega)).2.2 ek
    obtain ⟨ζ3, t1, t2⟩ := (reads_rt hM (lo := 0) (hi := 3)).2.2 ek
    rw [q1, t1]
    exact Or.inr ⟨_, ζ3, -2, s2, rfl, rfl, Dr_fl h hR hF (by omega) (by omega), t2.fm.md (hm.md p0)⟩
end PLN
