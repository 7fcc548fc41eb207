/-! the law's loop, all rounds -/
theorem law_loop {sc : Int → Int} {L : Int} (hsc : ∀ k, i32 (sc k)) (hLm : L ≤ 3072) : ∀ (n : Nat) (i : Int) (μ : Mem) (u : Int) (h : Int → Row) (tx : Int → Int) (fed fa : Int), 0 ≤ i → i ≤ L → L < i + 6 * n → LIv μ u h tx fed fa → ∃ μ', LL_law_28 sc L n 1 105 115 116 i μ = some (0, 1, μ') ∧ 6 * (μ' 0 1 - μ 0 1) ≤ 20 * (L - i) ∧ 6 * (μ' 0 2 - μ 0 2) ≤ 4000 * (L - i)
  | 0, i, μ, u, h, tx, fed, fa, i0, i1, i2, hL => by omega
  | n + 1, i, μ, u, h, tx, fed, fa, i0, i1, i2, hL => by
    have e : LL_law_28 sc L (n + 1) 1 105 115 116 i μ = BL_law_28 sc L (fun y1 y2 y3 y4 y5 ν => LL_law_28 sc L n y1 y2 y3 y4 y5 ν) 1 105 115 116 i μ := rfl
    rw [e]
    by_cases hi : i + 6 ≤ L
    · obtain ⟨ζ, u', h', tx', fed', fa', e1, e2, e3, e4⟩ := law_body (k28 := fun y1 y2 y3 y4 y5 ν => LL_law_28 sc L n y1 y2 y3 y4 y5 ν) hsc hL i0 hi hLm
      rw [w32_eq (by omega) (by omega)] at e1
      obtain ⟨μ', f1, f2, f3⟩ := law_loop hsc hLm n (i + 6) ζ u' h' tx' fed' fa' (by omega) hi (by omega) e2
      exact ⟨μ', e1.trans f1, by omega, by omega⟩
    · refine ⟨μ, ?_, by omega, by omega⟩
      unfold BL_law_28
      rw [w32_eq (z := L - 6) (by omega) (by omega), if_pos (by omega)]
      rfl
