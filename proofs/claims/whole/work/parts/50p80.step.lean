/-! the law: one call on both sides -/
theorem CIc.far {μ ν : Mem} {c u fed fa : Int} {h : Int → Row} {tx : Int → Int} (hI : CIc μ c u h tx fed fa) (f : ∀ z k, ¬ (105 ≤ z ∧ z ≤ 116) → ν z k = μ z k) : CIc ν c u h tx fed fa := by
  obtain ⟨hc, hB, hP⟩ := hI
  exact ⟨hc.fr (hc.1.fr fun z k hs => f z k (by unfold CSt at hs; omega)) (fun k k0 => f _ _ (by omega)) (fun a k h1 h2 h3 => f _ _ (by omega)) (fun a k h1 h2 => f _ _ (by omega)) (by rw [f _ _ (by omega)]; exact Int.le_refl _), ⟨hB.1, ⟨by rw [f _ _ (by omega), hB.2.1.1], by rw [f _ _ (by omega), hB.2.1.2.1], hB.2.1.2.2⟩, fun k k0 k1 => by rw [f _ _ (by omega)]; exact hB.2.2 k k0 k1⟩, hP.fr hc.cur.1 fun z k h1 h2 h3 => f _ _ (by omega)⟩
theorem MIv.far {μ ν : Mem} {c u fed fa : Int} {h : Int → Row} {tx : Int → Int} (hI : MIv μ c u h tx fed fa) (f : ∀ z k, 105 ≤ z → z ≤ 114 → ν z k = μ z k) : MIv ν c u h tx fed fa := by
  obtain ⟨⟨hS, hcc, ⟨h3, h4⟩, u0, hR⟩, ⟨b0, ⟨b1, b2⟩, b3⟩, hl⟩ := id hI
  exact ⟨⟨hS.fr fun a k hs => f a k (by unfold MSt at hs; omega) (by unfold MSt at hs; omega), hcc, ⟨by rw [f _ _ (by omega) (by omega)]; exact h3, by rw [f _ _ (by omega) (by omega)]; exact h4⟩, u0, fun j j0 j1 => ⟨(hR j j0 j1).1, fun k k0 k1 => by rw [f _ _ (by omega) (by omega)]; exact (hR j j0 j1).2 k k0 k1⟩⟩, ⟨b0, ⟨by rw [f _ _ (by omega) (by omega), b1], by rw [f _ _ (by omega) (by omega), b2]⟩, fun k k0 k1 => by rw [f _ _ (by omega) (by omega)]; exact b3 k k0 k1⟩, hl.fr hI.1.ok (f _ _ (by omega) (by omega)) fun z k a1 a2 a3 => f z k (by omega) (by omega)⟩
def Byt (tx : Int → Int) : Prop := ∀ k, 0 ≤ tx k ∧ tx k ≤ 255
/-- between two calls of the law -/
def LIv (μ : Mem) (u : Int) (h : Int → Row) (tx : Int → Int) (fed fa : Int) : Prop := (∃ c, CIc μ c u h tx fed fa) ∧ (∃ d, MIv μ d u h tx fed fa) ∧ (μ 115 (-1) = 22 ∧ μ 115 (-2) = 1 ∧ μ 116 (-1) = 23 ∧ μ 116 (-2) = 1) ∧ Byt tx
def Nxt (μ : Mem) (K : Mem → Rz) (R : Rz) : Prop := ∃ ζ u h tx fed fa, R = K ζ ∧ LIv ζ u h tx fed fa ∧ ζ 0 1 ≤ μ 0 1 + 20 ∧ ζ 0 2 ≤ μ 0 2 + 4000
section STP
variable {μ : Mem} {u fed fa : Int} {h : Int → Row} {tx : Int → Int}
/-- both sides of one call, the answer v or the refusal k -/
def Two (μ : Mem) (u : Int) (h : Int → Row) (tx : Int → Int) (fed fa : Int) (R6 : Rz) (X : Int → Int → Mem → Rz) (FM : Mem → Rz) (ok : Int → Prop) : Prop := (∃ v ν, R6 = RT v ν ∧ CFr μ ν ∧ ok v ∧ ∀ ξ d, MIv ξ d u h tx fed fa → ∃ ζ d' c' u' h' tx' fed' fa', CIc ν c' u' h' tx' fed' fa' ∧ Byt tx' ∧ FM ξ = RT v ζ ∧ MOk ξ ζ d' u' h' tx' fed' fa' 0) ∨ (∃ e ν c k, R6 = TH e ν ∧ e ≠ 0 ∧ CIc ν c u h tx fed fa ∧ CFr μ (mThr ν) ∧ k ≠ 0 ∧ (∀ v ν, X e v ν = RT k ν) ∧ ∀ ξ d, MIv ξ d u h tx fed fa → ∃ b ζ d', FM ξ = RT b ζ ∧ MOk ξ ζ d' u h tx fed fa k)
theorem LIv.of {ν ζ : Mem} {c d u' fed' fa' : Int} {h' : Int → Row} {tx' : Int → Int} (hL : LIv μ u h tx fed fa) (hf : CFr μ ν) (hc : CIc ν c u' h' tx' fed' fa') (hm : MIv ζ d u' h' tx' fed' fa') (hb : Byt tx') (f : ∀ z k, ¬ (105 ≤ z ∧ z ≤ 114) → ¬ (115 ≤ z ∧ z ≤ 116 ∧ 0 ≤ k) → ζ z k = ν z k) : LIv ζ u' h' tx' fed' fa' := by
  obtain ⟨-, -, ⟨a1, a2, a3, a4⟩, -⟩ := hL
  have g : ∀ z k, 115 ≤ z → z ≤ 116 → k < 0 → ζ z k = μ z k := fun z k h1 h2 h3 => by rw [f _ _ (by omega) (by omega), hf.1 _ _ (by omega) (by omega)]
  exact ⟨⟨c, hc.far fun z k hz => f _ _ (by omega) (by omega)⟩, ⟨d, hm⟩, ⟨by rw [g _ _ (by omega) (by omega) (by omega)]; exact a1, by rw [g _ _ (by omega) (by omega) (by omega)]; exact a2, by rw [g _ _ (by omega) (by omega) (by omega)]; exact a3, by rw [g _ _ (by omega) (by omega) (by omega)]; exact a4⟩, hb⟩
theorem thrown_rt (hM : MSh μ) {t : Int} (h : μ 105 0 = t) : FX7_thrown 105 μ = RT t μ := by
  unfold FX7_thrown BX7_thrown_0
  rw [hM.g7_0, h]
/-- a call that may throw, its answer compared as AS, AL and C say -/
theorem go_any {R6 : Rz} {X : Int → Int → Mem → Rz} {FM : Mem → Rz} {K Z : Mem → Rz} {ok : Int → Prop} {W : Int → Mem → (Mem → Rz) → Rz} {C : Int → Mem → Rz} {q : Int} {w : Int → Int} (hL : LIv μ u h tx fed fa) (hq : q = 115 ∨ q = 116) (hT : Two μ u h tx fed fa R6 X FM ok) (hW : ∀ v ν (G : Mem → Rz), ok v → ν q (-1) = μ q (-1) → ν q (-2) = μ q (-2) → W v ν G = G (mUp ν q 0 (w v))) (hC : ∀ v ν, ok v → ν q (-1) = μ q (-1) → ν q (-2) = μ q (-2) → ν q 0 = w v → C v ν = K ν) : Nxt μ K (CLZ (KD 6 1 μ (CLX R6 (fun t u => W t u fun u' => RT 0 u') X)) fun k u1 => KD 7 105 u1 (CLZ (FM u1) fun b u2 => KD 7 105 u2 (CLZ (FX7_thrown 105 u2) fun t u3 => if t = k then (if ¬ k = 0 then K u3 else C b u3) else Z u3))) := by
  obtain ⟨⟨c0, hc0⟩, ⟨d0, hm0⟩, ho, hb0⟩ := id hL
  have hq1 : 115 ≤ q ∧ q ≤ 116 := by omega
  rw [hc0.1.1.k6]
  rcases hT with ⟨v, ν, rfl, hf, hok, hM⟩ | ⟨e, ν, c, k, rfl, he, hc, hf, hk, hX, hM⟩
  · have g1 : ν q (-1) = μ q (-1) := hf.1 _ _ (by omega) (by omega)
    have g2 : ν q (-2) = μ q (-2) := hf.1 _ _ (by omega) (by omega)
    have hm1 : MIv (mUp ν q 0 (w v)) d0 u h tx fed fa := hm0.far fun z k h1 h2 => by rw [mUp_ne _ _ (by omega)]; exact hf.1 _ _ (by omega) (by omega)
    obtain ⟨ζ, d', c', u', h', tx', fed', fa', hc, hb, e1, hm2, hfr, ht⟩ := hM _ _ hm1
    have hS1 := hm1.1.1
    have hS2 := hm2.1.1
    simp only [CL, CLX_rt]
    rw [hW v ν _ hok g1 g2]
    simp only [CLX_rt]
    rw [hS1.k7, e1]
    simp only [CLX_rt]
    rw [hS2.k7, thrown_rt hS2 ht]
    simp only [CLX_rt]
    have g3 : ∀ j, ζ q j = mUp ν q 0 (w v) q j := fun j => hfr _ _ (by omega)
    rw [if_pos trivial, if_neg (show ¬ ¬ True from fun k => k trivial), hC v ζ hok (by rw [g3, mUp_ne _ _ (by omega)]; exact g1) (by rw [g3, mUp_ne _ _ (by omega)]; exact g2) (by rw [g3, mUp_same])]
    refine ⟨ζ, u', h', tx', fed', fa', rfl, hL.of hf hc hm2 hb fun z k h1 h2 => ?_, ?_, ?_⟩
    · rw [hfr _ _ (by omega), mUp_ne _ _ (by omega)]
    · rw [hfr _ _ (by omega), mUp_ne _ _ (by omega)]
      have := hf.2
      omega
    · rw [hfr _ _ (by omega), mUp_ne _ _ (by omega)]
      have := hf.2
      omega
  · have hm1 : MIv (mThr ν) d0 u h tx fed fa := hm0.far fun z k h1 h2 => hf.1 _ _ (by omega) (by omega)
    obtain ⟨b, ζ, d', e1, hm2, hfr, ht⟩ := hM _ _ hm1
    have hS1 := hm1.1.1
    have hS2 := hm2.1.1
    have e2 : CLX (TH e ν) (fun t u => W t u fun u' => RT 0 u') X = RT k (mThr ν) := by
      show (if e = 0 then _ else X e 0 (mThr ν)) = _
      rw [if_neg he, hX]
    rw [e2]
    simp only [CLX_rt]
    rw [hS1.k7, e1]
    simp only [CLX_rt]
    rw [hS2.k7, thrown_rt hS2 ht]
    simp only [CLX_rt]
    rw [if_pos trivial, if_pos hk]
    refine ⟨ζ, u, h, tx, fed, fa, rfl, hL.of hf hc.thr.1 hm2 hb0 fun z k h1 h2 => hfr _ _ (by omega), ?_, ?_⟩
    · rw [hfr _ _ (by omega)]
      have := hf.2
      omega
    · rw [hfr _ _ (by omega)]
      have := hf.2
      omega
/-- a call that can't throw -/
theorem go_two {R6 : Rz} {FM : Mem → Rz} {K : Mem → Rz} {C : Int → Int → Mem → Rz} (hL : LIv μ u h tx fed fa) (hT : ∃ v ν, R6 = RT v ν ∧ CFr μ ν ∧ ∀ ξ d, MIv ξ d u h tx fed fa → ∃ ζ d' c' u' h' tx' fed' fa', CIc ν c' u' h' tx' fed' fa' ∧ Byt tx' ∧ FM ξ = RT v ζ ∧ MOk ξ ζ d' u' h' tx' fed' fa' 0) (hC : ∀ v ν, C v v ν = K ν) : Nxt μ K (KD 6 1 μ (CLZ R6 fun a u1 => KD 7 105 u1 (CLZ (FM u1) fun b u2 => C a b u2))) := by
  obtain ⟨⟨c0, hc0⟩, ⟨d0, hm0⟩, ho, hb0⟩ := id hL
  rw [hc0.1.1.k6]
  obtain ⟨v, ν, rfl, hf, hM⟩ := hT
  have hm1 : MIv ν d0 u h tx fed fa := hm0.far fun z k h1 h2 => hf.1 _ _ (by omega) (by omega)
  obtain ⟨ζ, d', c', u', h', tx', fed', fa', hc, hb, e1, hm2, hfr, ht⟩ := hM _ _ hm1
  have hS1 := hm1.1.1
  simp only [CLX_rt]
  rw [hS1.k7, e1]
  simp only [CLX_rt]
  rw [hC]
  refine ⟨ζ, u', h', tx', fed', fa', rfl, hL.of hf hc hm2 hb fun z k h1 h2 => hfr _ _ (by omega), ?_, ?_⟩
  · rw [hfr _ _ (by omega)]
    have := hf.2
    omega
  · rw [hfr _ _ (by omega)]
    have := hf.2
    omega
end STP
