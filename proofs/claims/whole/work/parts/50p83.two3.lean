section TWB
variable {μ : Mem} {c u fed fa : Int} {h : Int → Row} {tx : Int → Int}
theorem mload_no {ξ : Mem} {n : Int} (hI : MIv ξ c u h tx fed fa) (hn : ¬ (0 ≤ n ∧ n ≤ fed)) : ∃ ζ, FX7_load 105 n ξ = RT 0 ζ ∧ MOk ξ ζ c u h tx fed fa 1 := by
  have ho := hI.o
  have hc := ho.1.1
  have h0 := ho.2.2
  have hB := ho.1.2.1
  refine ⟨mUp (mUp ξ 105 0 0) 105 0 1, ?_, ho.1.t0 1, fun z k hz => by rw [mUp_ne _ _ (by omega), mUp_ne _ _ (by omega)], mUp_same _ _ _ _⟩
  unfold FX7_load BX7_load_0
  rw [hI.1.1.p7_0, hc.1.g7_12, hB.2.1.1, isIn_rt]
  simp only [CL, ↓CLX_rt]
  rw [hc.1.k7, right_rt hc.1 h0 (by decide), if_neg hn]
  simp only [↓CLX_rt]
  rw [if_neg (show ¬ ¬ True from fun k => k trivial)]
theorem two_load {n : Int} (hI : CIc μ c u h tx fed fa) (hb : Byt tx) : (∃ d, MIv μ d u h tx fed fa) → Two μ u h tx fed fa (FX6_load 1 n μ) X2 (fun ξ => FX7_load 105 n ξ) Any := by
  rintro ⟨d0, hm0⟩
  by_cases hn : 0 ≤ n ∧ n ≤ fed
  · obtain ⟨v, η, -, -, -, -, -, -, e1, -, e2, -⟩ := load_sim hb hI hm0 hn
    refine Or.inl ⟨v, η, e1, e2, trivial, fun ξ d hm => ?_⟩
    obtain ⟨v', η', ζ, c', d', u1, h1, f1, y1, y2, -, y3, y4⟩ := load_sim hb hI hm hn
    rw [e1] at y1
    unfold RT at y1
    injection y1 with y1
    injection y1 with y0 y1
    injection y1 with y1 y5
    subst y1 y5
    exact ⟨ζ, d', c', u1, h1, tx, 0, f1, y2, hb, y3, y4⟩
  · refine two_n (e := 2) hI ?_ (by decide) (show (1 : Int) ≠ 0 by decide) (fun v ν => by first | rfl | simp) fun ξ d hm => ?_
    · unfold FX6_load BX6_load_0
      rw [hI.1.1.k6, reqB_no hI hn]
      rfl
    · obtain ⟨ζ, e1, e2⟩ := mload_no hm hn
      exact ⟨0, ζ, e1, e2⟩
/-- what go_two asks for -/
def Onw (μ : Mem) (u : Int) (h : Int → Row) (tx : Int → Int) (fed fa : Int) (R6 : Rz) (FM : Mem → Rz) : Prop := ∃ v ν, R6 = RT v ν ∧ CFr μ ν ∧ ∀ ξ d, MIv ξ d u h tx fed fa → ∃ ζ d' c' u' h' tx' fed' fa', CIc ν c' u' h' tx' fed' fa' ∧ Byt tx' ∧ FM ξ = RT v ζ ∧ MOk ξ ζ d' u' h' tx' fed' fa' 0
theorem put4_b {f v : Int} (hb : Byt tx) : Byt (put4 tx f v) := fun k => by
  unfold put4
  split
  · exact tb_le _ _
  · exact hb k
theorem put20_b {f w0 w1 w2 w3 w4 : Int} (hb : Byt tx) : Byt (put20 tx f w0 w1 w2 w3 w4) := put4_b (put4_b (put4_b (put4_b (put4_b hb))))
theorem onw_append {w0 w1 w2 w3 w4 : Int} (h0 : i32 w0) (h1 : i32 w1) (h2 : i32 w2) (h3 : i32 w3) (h4 : i32 w4) (hI : CIc μ c u h tx fed fa) (hb : Byt tx) : Onw μ u h tx fed fa (FX6_append 1 w0 w1 w2 w3 w4 μ) (fun ξ => FX7_append 105 w0 w1 w2 w3 w4 ξ) := by
  by_cases f1 : fed ≤ 580
  · obtain ⟨ν, e1, e2, e3⟩ := append_rt hI h0 h1 h2 h3 h4 f1
    refine ⟨_, ν, e1, e3, fun ξ d hm => ?_⟩
    obtain ⟨ζ, a1, a2⟩ := mappend_rt hm (w0 := w0) (w1 := w1) (w2 := w2) (w3 := w3) (w4 := w4)
    simp only [f1, ↓reduceIte] at a1 a2
    exact ⟨ζ, d, c, u, h, _, _, fa, e2, put20_b hb, a1, a2⟩
  · refine ⟨_, μ, append_no hI f1, CFr.rf, fun ξ d hm => ?_⟩
    obtain ⟨ζ, a1, a2⟩ := mappend_rt hm (w0 := w0) (w1 := w1) (w2 := w2) (w3 := w3) (w4 := w4)
    simp only [f1, ↓reduceIte] at a1 a2
    exact ⟨ζ, d, c, u, h, _, _, fa, hI, hb, a1, a2⟩
theorem onw_errorOffset (hI : CIc μ c u h tx fed fa) (hb : Byt tx) : Onw μ u h tx fed fa (FX6_errorOffset 1 μ) (fun ξ => FX7_errorOffset 105 ξ) := by
  refine ⟨_, μ, errorOffset_rt hI, CFr.rf, fun ξ d hm => ?_⟩
  obtain ⟨a1, a2⟩ := merrorOffset_rt hm
  exact ⟨_, d, c, u, h, _, _, fa, hI, hb, a1, a2⟩
theorem onw_worst {k : Int} (hI : CIc μ c u h tx fed fa) (hb : Byt tx) : Onw μ u h tx fed fa (FX6_worst 1 k μ) (fun ξ => FX7_worst 105 k ξ) := by
  refine ⟨_, μ, worst_rt hI, CFr.rf, fun ξ d hm => ?_⟩
  obtain ⟨ζ, a1, a2⟩ := mworst_rt hm (k := k)
  exact ⟨ζ, d, c, u, h, _, _, fa, hI, hb, a1, a2⟩
theorem onw_copies (hI : CIc μ c u h tx fed fa) (hb : Byt tx) : Onw μ u h tx fed fa (FX6_copies 1 μ) (fun ξ => FX7_copies 105 ξ) := by
  obtain ⟨ν, e1, e2, -, e3⟩ := copies_rt hI
  refine ⟨_, ν, e1, e3.cfr, fun ξ d hm => ?_⟩
  obtain ⟨ζ, a1, a2⟩ := mcopies_rt hm
  exact ⟨ζ, d, c, u, h, _, _, fa, e2, hb, a1, a2⟩
theorem onw_checksum (hI : CIc μ c u h tx fed fa) (hb : Byt tx) : Onw μ u h tx fed fa (FX6_checksum 1 μ) (fun ξ => FX7_checksum 105 ξ) := by
  obtain ⟨ν, e1, e2, -, e3⟩ := checksum_rt hI
  refine ⟨_, ν, e1, e3.cfr, fun ξ d hm => ?_⟩
  obtain ⟨ζ, a1, a2⟩ := mchecksum_rt hm
  exact ⟨ζ, d, c, u, h, _, _, fa, e2, hb, a1, a2⟩
theorem onw_undo (hI : CIc μ c u h tx fed fa) (hb : Byt tx) : Onw μ u h tx fed fa (FX6_undo 1 μ) (fun ξ => FX7_undo 105 ξ) := by
  obtain ⟨ν, e1, ⟨c', e2⟩, e3⟩ := undo_rt hI
  refine ⟨_, ν, e1, ⟨fun a k h1 h2 => e3 _ _ (by omega), ?_, ?_, ?_⟩, fun ξ d hm => ?_⟩
  · rw [e3 _ _ (by omega)]
    exact Int.le_refl _
  · rw [e3 _ _ (by omega)]
    omega
  · rw [e3 _ _ (by omega)]
    omega
  obtain ⟨ζ, d', a1, a2⟩ := mundo_rt hm
  exact ⟨ζ, d', c', _, _, _, _, fa, e2, hb, a1, a2⟩
end TWB
