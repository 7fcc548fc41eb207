/-! the statement ink, side by side -/
section INK
variable {μ ξ ν ζ : Mem} {L s g U1 U2 : Int} {tx : Int → Int}
theorem Dr.idx (h : Dr U1 U2 μ ξ tx L s g) {v : Int} : FX5_indexOfName (25 + 8 * g) v μ = RT (fdV (ξ 107) v) μ := by
  obtain ⟨⟨hR, hM⟩, ⟨g0, g1, g4⟩, ⟨hT, hr⟩, -⟩ := h
  exact indexOf_rt hR.1.1 g0 g1 hr.2.1 hT.1.2.2.2 (fun p p0 p1 => (hT.2.2.2 p p0 p1).1)
/-- the number of a plate's ink on both sides -/
theorem ink_row {r : Row} (hr : okRow r) {p v : Int} (p0 : 0 ≤ p) (p1 : p < r 2) (hv : 0 ≤ v ∧ v ≤ 99999) : FldS r (setO r p 12 v) ∧ okRow (setO r p 12 v) := by
  have hr2 := hr.2.1
  have hf : FldS r (setO r p 12 v) := fun j hj => setO_j (hj p 12 p0 (by omega) (by omega) (by omega))
  refine ⟨hf, hf.ok hr fun q q0 q1 => ?_⟩
  have ho := (hr.2.2.2.2 q q0 q1).f
  have e : ∀ k, 7 ≤ k → k ≤ 11 → rO (setO r p 12 v) q k = rO r q k := fun k k0 k1 => setO_ne (by omega)
  refine ⟨by rw [e 7 (by omega) (by omega), e 8 (by omega) (by omega)]; exact ho.1, by rw [e 9 (by omega) (by omega)]; exact ho.2.1, by rw [e 10 (by omega) (by omega), e 11 (by omega) (by omega)]; exact ho.2.2.1, ?_⟩
  by_cases eq : q = p
  · rw [eq, setO_at]; exact hv
  · rw [setO_ne (by omega)]; exact ho.2.2.2
end INK

