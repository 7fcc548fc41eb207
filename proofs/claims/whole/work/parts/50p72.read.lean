/-! both readers from their start -/
section RDS
variable {μ ξ ν ζ : Mem} {g U1 U2 n : Int} {tx : Int → Int}
theorem read_sim (htx : ∀ k, 0 ≤ tx k ∧ tx k ≤ 255) (hS : CSh μ) (hM : MSh ξ) (n0 : 0 ≤ n) (n6 : n ≤ 600) (hb : ∀ k, 0 ≤ k → k < n → μ 2 k = w8 (tx k)) (hbm : ∀ k, 0 ≤ k → k < n → ξ 113 k = tx k) (g0 : 0 ≤ g) (g1 : g < 10) (h13 : ξ 105 13 = n) (h14 : ξ 105 14 = 0) (h15 : ξ 105 15 = 0) (h16 : ξ 105 16 = -1) (j1 : 117 ≤ μ 0 0) (j2 : μ 0 1 ≤ U1) (j3 : μ 0 2 ≤ U2) : SimS 0 U1 U2 g μ ξ tx n 0 (FX4_read 23 2 n (25 + 8 * g) μ) (FX7_readsText 105 ξ) := by
  have hmn : mn n 600 = n := by
    unfold mn
    split <;> omega
  have e1 : ∃ μ', (∀ z k, ¬ (z = 23 ∧ 0 ≤ k ∧ k ≤ 9 ∧ k ≠ 7 ∧ k ≠ 8) → μ' z k = μ z k) ∧ (μ' 23 2 = 2 ∧ μ' 23 3 = n ∧ μ' 23 4 = 25 + 8 * g ∧ μ' 23 1 = -1 ∧ μ' 23 5 = 0 ∧ μ' 23 6 = 0 ∧ μ' 23 9 = 0) ∧ FX4_read 23 2 n (25 + 8 * g) μ = KD 4 23 μ' (CL (FX4_advance 23 μ') fun _ u113 => KD 4 23 u113 (CL (FX4_readPicture 23 u113) fun t114 u115 => if ¬ t114 = 0 then (LX4_read_61 FU 23 0 u115) else (RTZ 0 u115))) := by
    have s1 : CSh (mUp μ 23 2 2) := hS.up (by unfold CSt; omega)
    have s2 : CSh (mUp (mUp μ 23 2 2) 23 3 n) := s1.up (by unfold CSt; omega)
    have s3 : CSh (mUp (mUp (mUp μ 23 2 2) 23 3 n) 23 4 (25 + 8 * g)) := s2.up (by unfold CSt; omega)
    have s4 : CSh (mUp (mUp (mUp (mUp μ 23 2 2) 23 3 n) 23 4 (25 + 8 * g)) 23 0 0) := s3.up (by unfold CSt; omega)
    have s5 : CSh (mUp (mUp (mUp (mUp (mUp μ 23 2 2) 23 3 n) 23 4 (25 + 8 * g)) 23 0 0) 23 1 (-1)) := s4.up (by unfold CSt; omega)
    have s6 : CSh (mUp (mUp (mUp (mUp (mUp (mUp μ 23 2 2) 23 3 n) 23 4 (25 + 8 * g)) 23 0 0) 23 1 (-1)) 23 5 0) := s5.up (by unfold CSt; omega)
    have s7 : CSh (mUp (mUp (mUp (mUp (mUp (mUp (mUp μ 23 2 2) 23 3 n) 23 4 (25 + 8 * g)) 23 0 0) 23 1 (-1)) 23 5 0) 23 6 0) := s6.up (by unfold CSt; omega)
    refine ⟨mUp (mUp (mUp (mUp (mUp (mUp (mUp (mUp μ 23 2 2) 23 3 n) 23 4 (25 + 8 * g)) 23 0 0) 23 1 (-1)) 23 5 0) 23 6 0) 23 9 0, fun z k hz => by simp (disch := omega) only [mUp_ne], by simp (disch := omega) only [mUp_ne, mUp_same, and_self], ?_⟩
    unfold FX4_read BX4_read_0
    rw [hS.p4_2, s1.n2, min_rt, hmn]
    simp only [CL, CLX_rt]
    rw [s1.p4_3, s2.p4_4, s3.p4_0, s4.p4_1, s5.z4_5 (Or.inl rfl), s6.z4_6 (Or.inl rfl), s7.p4_9]
  obtain ⟨μ', f, ⟨v2, v3, v4, v1, v5, v6, v9⟩, e2⟩ := e1
  have hT : Tb μ' tx n := ⟨hS.fr fun a k hs => f a k (by unfold CSt at hs; omega), ⟨v2, v3, n0, n6⟩, fun k k0 k1 => ⟨by rw [f _ _ (by omega)]; exact hb k k0 k1, htx k⟩⟩
  obtain ⟨ν, a1, r1, a3⟩ := advance_rt hT (Int.le_refl _) n0 v9
  have hMd : Md ξ tx n (sk tx n 0) := ⟨⟨hM, ⟨h13, n0, n6⟩, h15, fun k k0 k1 => ⟨hbm k k0 k1, htx k⟩⟩, r1.2.1, by rw [h14]; exact ⟨Int.le_refl _, n0⟩, by rw [h14]⟩
  have hz : ∀ z k, z ≠ 23 → ν z k = μ z k := fun z k h => by rw [a3 _ _ (by omega)]; exact f z k (by omega)
  rw [e2, hT.1.k4, a1]
  simp only [CL, CLX_rt]
  have ht := text_sim (U1 := U1) (U2 := U2) htx r1 hMd g0 g1 (by rw [a3 _ _ (by omega)]; exact v4) (by rw [a3 _ _ (by omega)]; exact v5) (by rw [a3 _ _ (by omega)]; exact v6) (by rw [a3 _ _ (by omega)]; exact v1) h16 (by rw [hz _ _ (by omega)]; exact j1) (by rw [hz _ _ (by omega)]; exact j2) (by rw [hz _ _ (by omega)]; exact j3)
  exact ht.pre ⟨fun z k hk _ => hz z k (by omega), by rw [hz _ _ (by omega)]; exact Int.le_refl _⟩ MD.rf (by have := r1.2.1.1; omega)
end RDS
