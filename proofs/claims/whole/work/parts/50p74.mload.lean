/-! the reference's load -/
section MLO
variable {ξ ζ : Mem} {c u fed fa n : Int} {h : Int → Row} {tx : Int → Int}
/-- the reference's cells as the reading begins -/
def mL0 (ξ : Mem) (n : Int) : Mem := mUp (mUp (mUp (mUp (mUp (mUp ξ 105 0 0) 105 13 n) 105 14 0) 105 12 0) 105 15 0) 105 16 (-1)
theorem mL0_ne {z k : Int} (hz : ¬ (z = 105 ∧ (k = 0 ∨ (12 ≤ k ∧ k ≤ 16)))) : mL0 ξ n z k = ξ z k := by
  unfold mL0
  simp (disch := omega) only [mUp_ne]
theorem mload_start (hI : MIv ξ c u h tx fed fa) (hn : 0 ≤ n ∧ n ≤ fed) : FX7_load 105 n ξ = KD 7 105 (mL0 ξ n) (CL (FX7_readsText 105 (mL0 ξ n)) fun t112 u113 => if ¬ t112 = 0 then (KD 7 105 u113 (CL (FX7_change 105 u113) fun _ u115 => LX7_load_67 FU 105 0 u115)) else (GF 7 15 105 u113 fun t116 => RT t116 u113)) := by
  have ho := hI.o
  have hc := ho.1.1
  have h0 := ho.2.2
  have hB := ho.1.2.1
  have s1 : MSh (mUp (mUp ξ 105 0 0) 105 13 n) := hc.1.up (by unfold MSt; omega)
  have s2 : MSh (mUp (mUp (mUp ξ 105 0 0) 105 13 n) 105 14 0) := s1.up (by unfold MSt; omega)
  have s3 : MSh (mUp (mUp (mUp (mUp ξ 105 0 0) 105 13 n) 105 14 0) 105 12 0) := s2.up (by unfold MSt; omega)
  have s4 : MSh (mUp (mUp (mUp (mUp (mUp ξ 105 0 0) 105 13 n) 105 14 0) 105 12 0) 105 15 0) := s3.up (by unfold MSt; omega)
  unfold FX7_load BX7_load_0 mL0
  rw [hI.1.1.p7_0, hc.1.g7_12, hB.2.1.1, isIn_rt]
  simp only [CL, ↓CLX_rt]
  rw [hc.1.k7, right_rt hc.1 h0 (by decide), if_pos hn]
  simp only [↓CLX_rt]
  rw [if_pos (by decide), hc.1.p7_13, s1.p7_14, s2.p7_12, s3.p7_15, s4.p7_16]
theorem mload_md (hI : MIv ξ c u h tx fed fa) (hm : ∀ z k, ¬ ((z = 105 ∧ 14 ≤ k ∧ k ≤ 22) ∨ (z = 107 ∧ 0 ≤ k)) → ζ z k = mL0 ξ n z k) : MIv ζ c u h tx 0 (ζ 105 16) ∧ MFr ξ ζ ∧ ζ 105 0 = 0 := by
  obtain ⟨⟨hS, hcc, ⟨h3, h4⟩, u0, hR⟩, hB, hl⟩ := id hI
  have hz : ∀ z k, ¬ ((z = 105 ∧ (k = 0 ∨ (12 ≤ k ∧ k ≤ 22))) ∨ (z = 107 ∧ 0 ≤ k)) → ζ z k = ξ z k := fun z k hk => by rw [hm z k (by omega)]; exact mL0_ne (by omega)
  have e12 : ζ 105 12 = 0 := by
    rw [hm _ _ (by omega)]
    unfold mL0
    simp (disch := omega) only [mUp_ne, mUp_same]
  refine ⟨⟨⟨hS.fr fun a k hs => hz a k (by unfold MSt at hs; omega), hcc, ⟨by rw [hz _ _ (by omega)]; exact h3, by rw [hz _ _ (by omega)]; exact h4⟩, u0, fun j j0 j1 => ⟨(hR j j0 j1).1, fun k k0 k1 => by rw [hz _ _ (by omega)]; exact (hR j j0 j1).2 k k0 k1⟩⟩, ⟨⟨Int.le_refl _, by omega⟩, ⟨e12, rfl⟩, fun k k0 k1 => by omega⟩, hl.fr hI.1.ok (hz _ _ (by omega)) fun z k a1 a2 a3 => hz z k (by omega)⟩, fun z k hk => hz z k (by omega), ?_⟩
  rw [hm _ _ (by omega)]
  unfold mL0
  simp (disch := omega) only [mUp_ne, mUp_same]
theorem mload_ok (hI : MIv ξ c u h tx fed fa) (hn : 0 ≤ n ∧ n ≤ fed) (hx : FX7_readsText 105 (mL0 ξ n) = RT 1 ζ) (hm : MD (mL0 ξ n) ζ) (ho : okRow (ζ 107)) (h16 : ζ 105 16 = -1) : ∃ ν d, FX7_load 105 n ξ = RT (ζ 107 2) ν ∧ MOk ξ ν d (uUp u) (push (ζ 107) h) tx 0 (-1) 0 := by
  obtain ⟨g1, g2, g3⟩ := mload_md hI hm
  rw [h16] at g1
  obtain ⟨ν1, a1, a2, a3, a4, a5, a6⟩ := change_rt g1
  obtain ⟨ν, b1, b2, b3⟩ := mload_put (r' := ζ 107) a2 a5 ho fun k k0 k1 => a6 _ _ (by omega)
  have hS0 : MSh (mL0 ξ n) := hI.1.1.fr fun a k hs => mL0_ne (by unfold MSt at hs; omega)
  refine ⟨ν, _, ?_, b2, (g2.tr a3).tr fun z k hz => b3 z k (by omega), by rw [b3 _ _ (by omega), a4, g3]⟩
  rw [mload_start hI hn, hS0.k7, hx]
  simp only [CL, CLX_rt]
  rw [if_pos (show ¬ (1 : Int) = 0 by decide), g1.1.1.k7, a1]
  simp only [CLX_rt]
  exact b1
theorem mload_fault {e a : Int} (hI : MIv ξ c u h tx fed fa) (hn : 0 ≤ n ∧ n ≤ fed) (hx : FX7_readsText 105 (mL0 ξ n) = RT 0 ζ) (hm : Fm (mL0 ξ n) ζ e a) : ∃ ν, FX7_load 105 n ξ = RT e ν ∧ MOk ξ ν c u h tx 0 a 0 := by
  obtain ⟨g1, g2, g3⟩ := mload_md hI hm.2
  have hS0 : MSh (mL0 ξ n) := hI.1.1.fr fun a k hs => mL0_ne (by unfold MSt at hs; omega)
  rw [hm.1.2] at g1
  refine ⟨ζ, ?_, g1, g2, g3⟩
  rw [mload_start hI hn, hS0.k7, hx]
  simp only [CL, CLX_rt]
  rw [if_neg (show ¬ ¬ True from fun k => k trivial), g1.1.1.g7_15, hm.1.1]
end MLO
