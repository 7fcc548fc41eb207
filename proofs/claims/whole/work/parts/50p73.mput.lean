/-! the reference's load: the row that was read is put in its place -/
section MPU
variable {μ : Mem} {c u fed fa : Int} {h : Int → Row} {tx : Int → Int} {r r' : Row}
theorem mload_put (hI : MIv μ c u (push r h) tx fed fa) (h10 : μ 105 10 = 0) (ho : okRow r') (hrow : ∀ k, 0 ≤ k → k < 5100 → μ 107 k = r' k) : ∃ ν, LX7_load_67 FU 105 0 μ = RT (r' 2) ν ∧ MIv ν c u (push r' h) tx fed fa ∧ ∀ z k, ¬ (z = 106 ∧ 5100 * c ≤ k ∧ k < 5100 * c + 5100) → ν z k = μ z k := by
  obtain ⟨⟨hS, ⟨c0, c1⟩, ⟨h3, h4⟩, u0, hR⟩, hB, hl⟩ := id hI
  refine lpR (fun n x ν => LX7_load_67 n 105 x ν) (fun x ν => 0 ≤ x ∧ (∀ z k, ¬ (z = 106 ∧ 5100 * c ≤ k ∧ k < 5100 * c + 5100) → ν z k = μ z k) ∧ ∀ k, 0 ≤ k → k < x → ν 106 (5100 * c + k) = r' k) 5100 (fun R => ∃ ν, R = RT (r' 2) ν ∧ MIv ν c u (push r' h) tx fed fa ∧ ∀ z k, ¬ (z = 106 ∧ 5100 * c ≤ k ∧ k < 5100 * c + 5100) → ν z k = μ z k) (fun n x ν x1 hs => ?_) (fun n ν hs => ?_) FU 0 μ (by omega) (by rw [show ((FU : Nat) : Int) = 20000 from rfl]; omega) ⟨Int.le_refl _, fun _ _ _ => rfl, fun k k0 k1 => by omega⟩
  · obtain ⟨x0, hf, hv⟩ := hs
    have hSν : MSh ν := hS.fr fun a k hs => hf a k (by unfold MSt at hs; omega)
    have r1 : ¬ 5100 ≤ x := by omega
    refine ⟨mUp ν 106 (5100 * c + x) (r' x), ⟨by omega, fun z k hz => by rw [mUp_ne _ _ (by omega)]; exact hf z k hz, fun k k0 k1 => ?_⟩, ?_⟩
    · by_cases e : k = x
      · rw [e, mUp_same]
      · rw [mUp_ne _ _ (by omega)]
        exact hv k k0 (by omega)
    · show LX7_load_67 (n + 1) 105 x ν = LX7_load_67 n 105 (x + 1) (mUp ν 106 (5100 * c + x) (r' x))
      rw [LX7_load_67, BX7_load_67, if_neg r1, hSν.g7_2, hSν.l107 x0 x1, hf _ _ (by omega), hrow x x0 x1, hSν.k7, put_raw hSν (by rw [hf _ _ (by omega)]; exact h3) c0 c1 x0 x1]
      simp only [CL, CLX_rt]
      rw [w32_eq (by omega) (by omega)]
  · obtain ⟨x0, hf, hv⟩ := hs
    have hIν : MIv ν c u (push r' h) tx fed fa := hI.set (Or.inl (by rw [hf _ _ (by omega)]; exact h10)) hf hv ho
    refine ⟨ν, ?_, hIν, hf⟩
    show LX7_load_67 (n + 1) 105 5100 ν = _
    rw [LX7_load_67, BX7_load_67, if_pos (Int.le_refl _), hIν.1.1.k7, mplates_rt hIν.1]
    rfl
end MPU
