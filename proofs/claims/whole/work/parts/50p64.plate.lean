/-! the statement plate, side by side: its end -/
section PLE
variable {μ ξ ν ζ : Mem} {L s s' g U1 U2 p q nm a b sh : Int} {tx : Int → Int}
/-- the reference's cells while a plate is read -/
def PF' (p : Int) (ξ ζ : Mem) : Prop := ∀ z k, ¬ ((z = 105 ∧ (k = 14 ∨ k = 17 ∨ k = 18 ∨ k = 19 ∨ k = 20)) ∨ (z = 107 ∧ 196 + 1226 * p ≤ k ∧ k < 196 + 1226 * p + 1226)) → ζ z k = ξ z k
theorem plate_end (h : Dr U1 U2 μ ξ tx L s g) (hp : p = ξ 107 2) (p4 : p < 4) (hR : Rd ν tx L s') (hM : Md ζ tx L s') (hs : s < s') (hF : ∀ z k, z ≠ 0 → z ≠ 23 → z ≠ 24 → z < μ 0 0 → ν z k = μ z k) (h23 : ν 23 4 = μ 23 4 ∧ ν 23 5 = μ 23 5 ∧ ν 23 6 = μ 23 6 ∧ ν 23 1 = μ 23 1) (h00 : μ 0 0 ≤ ν 0 0 ∧ ν 0 1 ≤ μ 0 1 + 2 ∧ ν 0 2 ≤ μ 0 2 + 2 + (s' - s)) (hm : PF' p ξ ζ) (hn : 1 ≤ rO (ζ 107) p 0 ∧ rO (ζ 107) p 0 ≤ 6 ∧ ∀ j, 0 ≤ j → j < rO (ζ 107) p 0 → 97 ≤ rO (ζ 107) p (1 + j) ∧ rO (ζ 107) p (1 + j) ≤ 122) (hnm : nmO (ζ 107) p = nm) (ha : rO (ζ 107) p 7 = a) (hb : rO (ζ 107) p 8 = b) (hab : 0 ≤ a ∧ a ≤ 3 ∧ 0 ≤ b ∧ b ≤ 3 ∧ 0 < a + b) (hsh : rO (ζ 107) p 9 = sh) (hsh2 : 0 ≤ sh ∧ sh ≤ 3) (h10 : rO (ζ 107) p 10 = 0) (h11 : rO (ζ 107) p 11 = 0) (h12 : rO (ζ 107) p 12 = 1000) (h14 : ∀ y, 0 ≤ y → y < 12 → rO (ζ 107) p (14 + y) = 0) (hc : okCodes (ζ 107) p) (hq0 : rO (ζ 107) p 13 = 0 → q = 0) (hq1 : rO (ζ 107) p 13 ≠ 0 → Crv ν q (ζ 107) p) : SimS 1 U1 U2 g μ ξ tx L s (BX4_readPlate_183 23 nm a b sh q ν) (BX7_readsPlate_355 105 ζ) := by
  obtain ⟨⟨hR0, hM0⟩, ⟨g0, g1, g4⟩, ⟨hT, hr⟩, hz, ⟨e5, e6⟩, ⟨i1, i2⟩, j1, j2, j3⟩ := id h
  have hr2 := hr.2.1
  have hS := hR.1.1
  have hN : ν (25 + 8 * g) 3 = p := by rw [hF _ _ (by omega) (by omega) (by omega) (by omega), hT.1.2.2.2, hp]
  obtain ⟨ν2, e1, ⟨f0, f1, f2, f3, f4, f5, f6, f7, f8⟩, f9⟩ := addPlate_rt hS g0 g1 hN (by omega) p4 (nm := nm) (a := a) (b := b) (sh := sh) (q := q)
  have z2 : ζ 107 2 = p := by rw [hm _ _ (by omega), hp]
  have g4' : ν 23 4 = 25 + 8 * g := by rw [h23.1]; exact g4
  unfold BX4_readPlate_183 BX7_readsPlate_355
  rw [hS.g4_4 g4', hS.k5 g0 g1, e1, hM.1.1.g7_2, hM.1.1.l107 (by omega) (by omega), z2, hM.1.1.s107 (by omega) (by omega), w32_eq (by omega) (by omega)]
  simp only [CL, CLX_rt]
  have er : ∀ j, j ≠ 2 → mUp ζ 107 2 (p + 1) 107 j = ζ 107 j := fun j hj => mUp_ne _ _ (by omega)
  have er2 : mUp ζ 107 2 (p + 1) 107 2 = p + 1 := mUp_same _ _ _ _
  have eo : ∀ k, 0 ≤ k → rO (mUp ζ 107 2 (p + 1) 107) p k = rO (ζ 107) p k := fun k k0 => er _ (by omega)
  have hcd : CdS (ζ 107) (mUp ζ 107 2 (p + 1) 107) p := fun k hk => eo k (by omega)
  have hM2 : Md (mUp ζ 107 2 (p + 1)) tx L s' := hM.fr2 fun z k hk => mUp_ne _ _ (by omega)
  have hmd : MD ξ (mUp ζ 107 2 (p + 1)) := fun z k hk => by rw [mUp_ne _ _ (by omega)]; exact hm z k (by omega)
  have hfl : mUp ζ 107 2 (p + 1) 105 21 = ξ 105 21 ∧ mUp ζ 107 2 (p + 1) 105 22 = ξ 105 22 ∧ mUp ζ 107 2 (p + 1) 105 16 = ξ 105 16 := ⟨by rw [mUp_ne _ _ (by omega)]; exact hm _ _ (by omega), by rw [mUp_ne _ _ (by omega)]; exact hm _ _ (by omega), by rw [mUp_ne _ _ (by omega)]; exact hm _ _ (by omega)⟩
  generalize mUp ζ 107 2 (p + 1) = η at er er2 eo hcd hM2 hmd hfl ⊢
  have hν2 : ∀ z k, ¬ ((z = 25 + 8 * g ∧ k = 3) ∨ z = 29 + 8 * g + p) → z ≠ 0 → z ≠ 23 → z ≠ 24 → z < μ 0 0 → ν2 z k = μ z k := fun z k hz a1 a2 a3 a4 => by rw [f9 _ _ (by omega)]; exact hF z k a1 a2 a3 a4
  have h13 := hc.2.1
  have hnew := plate_new (ν := ν2) (r' := η 107) hr hT g0 g1 (by omega) j1 (by rw [er2, hp]) (fun j hj hk => by rw [er j hj]; exact hm _ _ (by omega)) (by rw [← hp, eo 0 (by omega)]; exact ⟨hn.1, hn.2.1, fun j j0 j1 => by rw [eo (1 + j) (by omega)]; exact hn.2.2 j j0 j1⟩) (by rw [← hp, eo 7 (by omega), eo 8 (by omega), ha, hb]; exact hab) (by rw [← hp, eo 9 (by omega), hsh]; exact hsh2) (by rw [← hp, eo 10 (by omega)]; exact h10) (by rw [← hp, eo 11 (by omega)]; exact h11) (by rw [← hp, eo 12 (by omega)]; exact h12) (fun y y0 y1 => by rw [← hp, eo (14 + y) (by omega)]; exact h14 y y0 y1) (by rw [← hp]; exact hc.ext hcd) (fun z k hz z0 z1 => hν2 z k (by omega) (by omega) (by omega) (by omega) z1) (by rw [f9 _ _ (by omega)]; exact h00.1) (by rw [f8, hp]) (by
    rw [← hp]
    refine ⟨by rw [f0, nmO_ext hcd hn.2.1, hnm], ⟨by rw [f1, eo 7 (by omega), ha], by rw [f2, eo 8 (by omega), hb], by rw [f3, eo 9 (by omega), hsh]⟩, ⟨by rw [f4, eo 10 (by omega), h10], by rw [f5, eo 11 (by omega), h11], by rw [f6, eo 12 (by omega), h12]⟩, fun e => ?_, fun e => ?_⟩
    · rw [eo 13 (by omega)] at e
      rw [f7, hq0 e]
    · rw [eo 13 (by omega)] at e
      rw [f7]
      exact ((hq1 e).ext hcd h13).fr (fun a k a0 a1 => f9 a k (by omega)) (by rw [f9 _ _ (by omega)]; exact Int.le_refl _))
  have hR2 : Rd ν2 tx L s' := by
    obtain ⟨a1, a2, a3, a4, a5⟩ := hR
    exact ⟨⟨a1.1.fr fun a k hs => f9 a k (by unfold CSt at hs; omega), ⟨by rw [f9 _ _ (by omega)]; exact a1.2.1.1, by rw [f9 _ _ (by omega)]; exact a1.2.1.2.1, a1.2.1.2.2⟩, fun k k0 k1 => by rw [f9 _ _ (by omega)]; exact a1.2.2 k k0 k1⟩, a2, by rw [f9 _ _ (by omega)]; exact a3, by rw [f9 _ _ (by omega)]; exact a4, by rw [f9 _ _ (by omega)]; exact a5⟩
  refine Or.inl ⟨ν2, η, s', rfl, rfl, ⟨⟨hR2, hM2⟩, ⟨g0, g1, by rw [f9 _ _ (by omega), h23.1]; exact g4⟩, ⟨hnew.2, hnew.1⟩, fun k k0 k1 => ?_, ⟨by rw [f9 _ _ (by omega), h23.2.1, hfl.1]; exact e5, by rw [f9 _ _ (by omega), h23.2.2.1, hfl.2.1]; exact e6⟩, ⟨by rw [f9 _ _ (by omega), h23.2.2.2]; exact i1, by rw [hfl.2.2]; exact i2⟩, by rw [f9 _ _ (by omega)]; omega, by rw [f9 _ _ (by omega), er2]; omega, by rw [f9 _ _ (by omega), er2]; omega⟩, by omega, ⟨fun z k hz z1 => ?_, by rw [f9 _ _ (by omega)]; exact h00.1⟩, hmd⟩
  · rw [er2] at k0
    rw [er _ (by omega), hm _ _ (by omega)]
    exact hz k (by omega) k1
  · rw [f9 _ _ (by omega)]
    exact hF z k (by omega) (by omega) (by omega) z1
end PLE
