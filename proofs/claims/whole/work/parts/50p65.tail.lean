/-! the statement plate, side by side: from the shape on -/
section PLT
variable {μ ξ ν ζ : Mem} {L s s4 g U1 U2 p nm a b n s1 : Int} {tx : Int → Int}
theorem shp_le : -1 ≤ shp tx L s ∧ shp tx L s ≤ 3 ∧ (shp tx L s ≠ -1 → s < L) := by
  unfold shp
  split
  · rename_i h; have := kd_2 h.1; omega
  · split
    · rename_i h; have := kd_2 h.1; omega
    · split
      · rename_i h; have := kd_2 h.1; omega
      · split
        · rename_i h; have := kd_2 h.1; omega
        · omega
theorem shape_m (hM : Md ζ tx L s) (B : Int) : ∃ η, ((shp tx L s ≠ -1 → Md η tx L (nx tx L s)) ∧ (shp tx L s = -1 → Md η tx L s ∧ η 105 14 = s)) ∧ RmH ζ η ∧ (KD 7 105 ζ (CL (FX7_takes 105 9 ζ) fun t104 u105 => if t104 = 0 then (KD 7 105 u105 (CL (FX7_takes 105 10 u105) fun t106 u107 => if t106 = 0 then (KD 7 105 u107 (CL (FX7_takes 105 11 u107) fun t108 u109 => if t108 = 0 then (KD 7 105 u109 (CL (FX7_takes 105 12 u109) fun t110 u111 => if t110 = 0 then (BX7_readsPlate_290 105 B (-1) u111) else (BX7_readsPlate_290 105 B 3 u111))) else (BX7_readsPlate_290 105 B 2 u109))) else (BX7_readsPlate_290 105 B 1 u107))) else (BX7_readsPlate_290 105 B 0 u105))) = BX7_readsPlate_290 105 B (shp tx L s) η := by
  unfold shp
  by_cases e6 : wd tx L 9 s
  · obtain ⟨ζ, k1, k2, k3, k4⟩ := (takes_rt hM (w := 9) (by omega) (by omega)).1 e6
    simp only [if_pos e6]
    refine ⟨ζ, ⟨fun _ => k2, fun k => absurd k (by decide)⟩, k3, ?_⟩
    rw [hM.1.1.k7, k1]
    simp only [CL, CLX_rt]
    rfl
  obtain ⟨ζ2, k1, k2, k3, k4⟩ := (takes_rt hM (w := 9) (by omega) (by omega)).2 e6
  simp only [if_neg e6]
  by_cases e7 : wd tx L 10 s
  · obtain ⟨ζ3, q1, q2, q3, q4⟩ := (takes_rt k2 (w := 10) (by omega) (by omega)).1 e7
    simp only [if_pos e7]
    refine ⟨ζ3, ⟨fun _ => q2, fun k => absurd k (by decide)⟩, k3.tr q3, ?_⟩
    rw [hM.1.1.k7, k1]
    simp only [CL, CLX_rt, ↓reduceIte]
    rw [k2.1.1.k7, q1]
    rfl
  obtain ⟨ζ3, q1, q2, q3, q4⟩ := (takes_rt k2 (w := 10) (by omega) (by omega)).2 e7
  simp only [if_neg e7]
  by_cases e8 : wd tx L 11 s
  · obtain ⟨ζ4, r1, r2, r3, r4⟩ := (takes_rt q2 (w := 11) (by omega) (by omega)).1 e8
    simp only [if_pos e8]
    refine ⟨ζ4, ⟨fun _ => r2, fun k => absurd k (by decide)⟩, (k3.tr q3).tr r3, ?_⟩
    rw [hM.1.1.k7, k1]
    simp only [CL, CLX_rt, ↓reduceIte]
    rw [k2.1.1.k7, q1]
    simp only [CLX_rt, ↓reduceIte]
    rw [q2.1.1.k7, r1]
    rfl
  obtain ⟨ζ4, r1, r2, r3, r4⟩ := (takes_rt q2 (w := 11) (by omega) (by omega)).2 e8
  simp only [if_neg e8]
  by_cases e2 : wd tx L 12 s
  · obtain ⟨ζ5, t1, t2, t3, t4⟩ := (takes_rt r2 (w := 12) (by omega) (by omega)).1 e2
    simp only [if_pos e2]
    refine ⟨ζ5, ⟨fun _ => t2, fun k => absurd k (by decide)⟩, ((k3.tr q3).tr r3).tr t3, ?_⟩
    rw [hM.1.1.k7, k1]
    simp only [CL, CLX_rt, ↓reduceIte]
    rw [k2.1.1.k7, q1]
    simp only [CLX_rt, ↓reduceIte]
    rw [q2.1.1.k7, r1]
    simp only [CLX_rt, ↓reduceIte]
    rw [r2.1.1.k7, t1]
    rfl
  obtain ⟨ζ5, t1, t2, t3, t4⟩ := (takes_rt r2 (w := 12) (by omega) (by omega)).2 e2
  simp only [if_neg e2]
  refine ⟨ζ5, ⟨fun k => absurd rfl k, fun _ => ⟨t2, t4⟩⟩, ((k3.tr q3).tr r3).tr t3, ?_⟩
  rw [hM.1.1.k7, k1]
  simp only [CL, CLX_rt, ↓reduceIte]
  rw [k2.1.1.k7, q1]
  simp only [CLX_rt, ↓reduceIte]
  rw [q2.1.1.k7, r1]
  simp only [CLX_rt, ↓reduceIte]
  rw [r2.1.1.k7, t1]
  rfl
/-- the row of the plate that is read: name, turn, and nothing else yet -/
def Pw (ζ : Mem) (p n s1 : Int) (tx : Int → Int) (a b : Int) : Prop := rO (ζ 107) p 0 = n ∧ (∀ j, 0 ≤ j → j < n → rO (ζ 107) p (1 + j) = tx (s1 + j)) ∧ (rO (ζ 107) p 7 = a ∧ rO (ζ 107) p 8 = b) ∧ ∀ k, 9 ≤ k → k < 1226 → rO (ζ 107) p k = 0
theorem PF'.tr {η : Mem} (h1 : PF' p ξ ζ) (h2 : PF' p ζ η) : PF' p ξ η := fun z k h => (h2 z k h).trans (h1 z k h)
theorem RmT.pf (h : RmT ξ ζ) : PF' p ξ ζ := fun z k hz => h z k (by omega)
theorem CuM.pf (h : CuM p ξ ζ) : PF' p ξ ζ := fun z k hz => h z k (by omega)
theorem PF'.md (h : PF' p ξ ζ) (p0 : 0 ≤ p) : MD ξ ζ := fun z k hz => h z k (by omega)
/-- the plate's first numbers behind the shape -/
theorem shape_row (hM : Md ζ tx L s) (hw : Pw ζ p n s1 tx a b) (p0 : 0 ≤ p) (p4 : p < 4) (n6 : n ≤ 6) {sh : Int} : ∃ η, (∀ K : Mem → Rz, (GF 7 2 105 ζ fun t101 => AS 1 t101 (w32 (196 + 1226 * p + 9)) sh ζ fun u102 => GF 7 2 105 u102 fun t103 => AS 1 t103 (w32 (196 + 1226 * p + 12)) 1000 u102 fun u104 => PF 7 20 105 0 u104 fun u105 => K u105) = K η) ∧ Md η tx L s ∧ PF' p ζ η ∧ η 105 20 = 0 ∧ η 105 19 = ζ 105 19 ∧ (rO (η 107) p 0 = n ∧ (∀ j, 0 ≤ j → j < n → rO (η 107) p (1 + j) = tx (s1 + j)) ∧ rO (η 107) p 7 = a ∧ rO (η 107) p 8 = b ∧ rO (η 107) p 9 = sh ∧ rO (η 107) p 12 = 1000 ∧ ∀ k, 10 ≤ k → k < 1226 → k ≠ 12 → rO (η 107) p k = 0) := by
  obtain ⟨w0, w1, ⟨w7, w8⟩, w9⟩ := hw
  have hS := hM.1.1
  have hS1 : MSh (mUp ζ 107 (196 + 1226 * p + 9) sh) := hS.up (by unfold MSt; omega)
  have hS2 : MSh (mUp (mUp ζ 107 (196 + 1226 * p + 9) sh) 107 (196 + 1226 * p + 12) 1000) := hS1.up (by unfold MSt; omega)
  refine ⟨mUp (mUp (mUp ζ 107 (196 + 1226 * p + 9) sh) 107 (196 + 1226 * p + 12) 1000) 105 20 0, fun K => ?_, hM.fr2 fun z k hk => by rw [mUp_ne _ _ (by omega), mUp_ne _ _ (by omega), mUp_ne _ _ (by omega)], fun z k hk => by rw [mUp_ne _ _ (by omega), mUp_ne _ _ (by omega), mUp_ne _ _ (by omega)], mUp_same _ _ _ _, by rw [mUp_ne _ _ (by omega), mUp_ne _ _ (by omega), mUp_ne _ _ (by omega)], ?_⟩
  · rw [hS.g7_2, w32_eq (z := 196 + 1226 * p + 9) (by omega) (by omega), hS.s107 (by omega) (by omega), hS1.g7_2, w32_eq (z := 196 + 1226 * p + 12) (by omega) (by omega), hS1.s107 (by omega) (by omega), hS2.p7_20]
  · have e : ∀ k, k ≠ 9 → k ≠ 12 → rO (mUp (mUp (mUp ζ 107 (196 + 1226 * p + 9) sh) 107 (196 + 1226 * p + 12) 1000) 105 20 0 107) p k = rO (ζ 107) p k := fun k k1 k2 => by
      unfold rO
      rw [mUp_ne _ _ (by omega), mUp_ne _ _ (by omega), mUp_ne _ _ (by omega)]
    refine ⟨by rw [e _ (by omega) (by omega)]; exact w0, fun j j0 j1 => by rw [e _ (by omega) (by omega)]; exact w1 j j0 j1, by rw [e _ (by omega) (by omega)]; exact w7, by rw [e _ (by omega) (by omega)]; exact w8, ?_, ?_, fun k k0 k1 k2 => by rw [e _ (by omega) k2]; exact w9 k (by omega) k1⟩
    · unfold rO
      rw [mUp_ne _ _ (by omega), mUp_ne _ _ (by omega), mUp_same]
    · unfold rO
      rw [mUp_ne _ _ (by omega), mUp_same]
end PLT
