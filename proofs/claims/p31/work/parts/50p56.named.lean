/-! both readers at a name -/
section NAM
variable {μ ξ ν ζ : Mem} {L s p g : Int} {tx : Int → Int}
/-- the component's packed name of the piece, and its plate -/
theorem packedHere_rt (h : Rd μ tx L s) (htx : ∀ k, 0 ≤ tx k ∧ tx k ≤ 255) (hl : en tx L s - s ≤ 6) : FX6_packedName 2 s (en tx L s) μ = RT (pk (fun j => tx (s + j)) (en tx L s - s).toNat) μ := by
  have he := en_le h.2.1
  have hp := h.2.1.1
  have hL := h.1.2.1
  have hS := h.1.1
  have hq := packed_rt (μ := μ) (a := 2) (n := 600) (s := s) (m := (en tx L s - s).toNat) hS.2.1.1 hS.2.1.2 hp.1 (by omega) (by omega) (by omega) (fun j => tx (s + j)) (fun j _ _ => htx (s + j)) (fun j j0 j1 => (h.1.2.2 (s + j) (by omega) (by omega)).1)
  rw [show s + (((en tx L s - s).toNat : Nat) : Int) = en tx L s by omega] at hq
  exact hq
theorem fdV_le {r : Row} (hr : 0 ≤ r 2) {v : Int} : -1 ≤ fdV r v ∧ fdV r v < r 2 := by
  have h : ∀ (k : Nat) (p : Int), 0 ≤ p → p + k = r 2 → -1 ≤ fdA r v k p ∧ fdA r v k p < r 2 := by
    intro k
    induction k with
    | zero =>
      intro p p0 hp
      rw [fdA]
      omega
    | succ k ih =>
      intro p p0 hp
      rw [fdA]
      split
      · omega
      · exact ih (p + 1) (by omega) (by omega)
  exact h (r 2).toNat 0 (Int.le_refl _) (by omega)
end NAM

