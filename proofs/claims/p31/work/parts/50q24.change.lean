/-! another shape, another limit; the end of the law -/
section CHG
variable {μ ν : Mem} {n u c s c' s' L e cap T p a b sh dx dy x y z t k : Int} {h : Int → Row} {ids : List Int} {sc : Int → Int} {X P : Int → Prop} {r r' : Row}
theorem Mtc.limit (hM : Mtc μ X r L e cap ids T) : Mtc μ X (limR r 4) L e cap ids T := hM.fld (limR_ne (by omega)) (limR_ne (by omega)) (limR_ne (by omega)) (fun x y x0 x1 y0 y1 => limR_ne (by omega)) (fun p p0 p1 => ⟨limR_o p0 (by omega), fun y y0 y1 => limR_o p0 (by omega)⟩) hM.1 hM.2.2.2.1 (fun p p0 p1 => by
  rw [limR_o p0 (by omega), limR_o p0 (by omega), limR_o p0 (by omega), limR_o p0 (by omega), limR_o p0 (by omega)]
  exact hM.2.2.1 p p0 p1)
/-- a new screen in a plate's place -/
theorem Mtc.shape (hP : Pcs sc n u h c s μ) (hM : Mtc μ (fun z => z = L ∨ z = e) r L e cap ids T) (hr : okRow r) (p0 : 0 ≤ p) (p1 : p < r 2) (hz : 0 ≤ z ∧ z ≤ 3) : ∃ ν ν1 ν2, (∀ K, NWn 8 7 μ K = K (μ 0 3) ν) ∧ ν (μ 0 3) (-1) = 9 ∧ (ν (gt ids p) (-1) = 9 ∧ ν (gt ids p) 0 = rO r p 7 ∧ ν (gt ids p) 1 = rO r p 8) ∧ FX8_init (μ 0 3) (rO r p 7) (rO r p 8) z ν = RT 0 ν1 ∧ (ν1 (μ 0 3) (-1) = 9 ∧ μ 0 3 < -21) ∧ (ν1 (gt ids p) (-1) = 9 ∧ ν1 (gt ids p) 4 = rO r p 10 ∧ ν1 (gt ids p) 5 = rO r p 11) ∧ gt ids p ≠ μ 0 3 ∧ ν1 L (-1) = 12 ∧ mUp (mUp ν1 (μ 0 3) 4 (rO r p 10)) (μ 0 3) 5 (rO r p 11) L (-1) = 12 ∧ FJx4a65c_set_bcc79 L p (μ 0 3) (mUp (mUp ν1 (μ 0 3) 4 (rO r p 10)) (μ 0 3) 5 (rO r p 11)) = RT (gt ids p) ν2 ∧ Pcs sc n u h (c + 701) (s + 200007) ν2 ∧ ∃ ids', Mtc ν2 (fun z => z = L ∨ z = e) (setO r p 9 z) L e cap ids' T := by
  have hr1 := hr.1
  have hr2 := hr.2.1
  obtain ⟨m1, m2, m3, m4, m5⟩ := id hM
  have hpl := hr.2.2.2.2 p p0 p1
  have hF := hP.2.1
  have h3 := hF.2.2.2.2
  have h00 : 0 < μ 0 0 := by
    obtain ⟨⟨g, tx, fed, fa, h1⟩, -⟩ := hP
    have := h1.1.2.2.2.2.2
    omega
  obtain ⟨ν, e1, ⟨g1, g2⟩, g3, f1⟩ := NWn_go (ci := 8) (sz := 7) h3
  have hP1 := hP.fl f1 (fun z w => w.elim)
  obtain ⟨ν1, e2, hN, f2⟩ := scr_rt (μ := ν) (s := μ 0 3) hP1.2.1.1 (by rw [f1.2.1]; exact h00) (by omega) g1 g2 ⟨hpl.1.1, hpl.1.2.1⟩ ⟨hpl.1.2.2.1, hpl.1.2.2.2.1⟩ hpl.1.2.2.2.2 hz
  have hP2 := hP1.fl f2 (fun z w => by omega)
  have hk := (m3 p p0 p1).kd
  have hne : gt ids p ≠ μ 0 3 := by have := hk.1.2.1; omega
  obtain ⟨hN2, f3⟩ := hN.mv (dx' := rO r p 10) (dy' := rO r p 11)
  have hP3 := hP2.fl f3 (fun z w => by omega)
  have fA : FrL 701 200007 NoP μ (mUp (mUp ν1 (μ 0 3) 4 (rO r p 10)) (μ 0 3) 5 (rO r p 11)) := ((f1.tr (Q := NoP) (f2.tr (Q := fun z => z = μ 0 3) f3 (fun _ _ _ w => w) (fun _ _ _ w => w)) (fun _ _ _ w => w) (fun z _ hz w => by omega))).le (by omega) (by omega) (fun _ _ _ w => w)
  have hA3 := m1.fr fA id id
  have hT3 := m4.fr (by omega) fA (fun z w => w.elim)
  have hS3 : ∀ p', 0 ≤ p' → p' < r 2 → Scn (mUp (mUp ν1 (μ 0 3) 4 (rO r p 10)) (μ 0 3) 5 (rO r p 11)) (fun z => z = L ∨ z = e) (gt ids p') (rO r p' 7) (rO r p' 8) (rO r p' 9) (rO r p' 10) (rO r p' 11) := fun p' a0 a1 => (m3 p' a0 a1).fr fA (fun z w => w.elim) (fun z w => w.elim)
  have hLe := m1.1
  have hee := m1.2.2.1.1
  have hex := m1.2.1
  have hNX : Scn (mUp (mUp ν1 (μ 0 3) 4 (rO r p 10)) (μ 0 3) 5 (rO r p 11)) (fun z => z = L ∨ z = e) (μ 0 3) (rO r p 7) (rO r p 8) z (rO r p 10) (rO r p 11) := hN2.wk (fun z z0 zl w => by
    rcases w with w | w
    · omega
    · omega)
  have hEl : Elt (mUp (mUp ν1 (μ 0 3) 4 (rO r p 10)) (μ 0 3) 5 (rO r p 11)) (μ 0 3) := ⟨h3, hNX.kd.1.2.1, Or.inr hNX.kd.1.2.2⟩
  have h03 : 0 < mUp (mUp ν1 (μ 0 3) 4 (rO r p 10)) (μ 0 3) 5 (rO r p 11) 0 0 := by rw [fA.2.1]; exact h00
  obtain ⟨ν2, e3, hA4, f4⟩ := set_rt hA3 h03 hEl p0 (by omega)
  have hP4 := hP3.fl f4 (fun z w => by have := hA3.2.1; have := hA3.2.2.2.1; omega)
  have hex3 := hA3.2.2.1.2.1
  have hX4 : ∀ q a b sh dx dy, Scn (mUp (mUp ν1 (μ 0 3) 4 (rO r p 10)) (μ 0 3) 5 (rO r p 11)) (fun z => z = L ∨ z = e) q a b sh dx dy → Scn ν2 (fun z => z = L ∨ z = e) q a b sh dx dy := fun q a b sh dx dy hq => hq.fr f4 (fun z w => Or.inl (Or.inr w)) (fun z w => by rw [w]; omega)
  have hν : ∀ k, ν (gt ids p) k = μ (gt ids p) k := fun k => f1.1 _ _ (by omega) hk.1.2.1 (fun w => w.2)
  have hν1 : ∀ k, ν1 (gt ids p) k = μ (gt ids p) k := fun k => by
    rw [f2.1 _ _ (by omega) (by have := hk.1.2.1; omega) (fun w => hne w.2)]
    exact hν k
  have hL1 : ν1 L (-1) = 12 := by
    rw [f2.1 _ _ (by omega) (by omega) (fun w => by omega), f1.1 _ _ (by omega) (by omega) (fun w => w.2)]
    exact hLe.2.2.1
  have hj : ∀ j, ¬ j = 196 + 1226 * p + 9 → setO r p 9 z j = r j := fun j hj => setO_j hj
  refine ⟨ν, ν1, ν2, e1, g1, ⟨by rw [hν]; exact hk.1.2.2, by rw [hν]; exact hk.2.1.1, by rw [hν]; exact hk.2.1.2.1⟩, e2, ⟨hN.kd.1.2.2, h3⟩, ⟨by rw [hν1]; exact hk.1.2.2, by rw [hν1]; exact hk.2.2.1, by rw [hν1]; exact hk.2.2.2⟩, hne, hL1, hA3.1.2.2.1, e3, hP4.le (by omega) (by omega), setL ids p (μ 0 3), ?_⟩
  refine ⟨hA4, by rw [setL_len, hj _ (by omega)]; exact m2, fun p' a0 a1 => ?_, ?_, fun p' a0 a1 => ?_⟩
  · rw [hj _ (by omega)] at a1
    rw [gt_set p0 (by omega) a0]
    by_cases q : p' = p
    · rw [if_pos q, q, setO_at]
      have o : ∀ k, 0 ≤ k → k < 1226 → k ≠ 9 → rO (setO r p 9 z) p k = rO r p k := fun k k0 k1 k2 => hj _ (by omega)
      rw [o 7 (by omega) (by omega) (by omega), o 8 (by omega) (by omega) (by omega), o 10 (by omega) (by omega) (by omega), o 11 (by omega) (by omega) (by omega)]
      exact hX4 _ _ _ _ _ _ hNX
    · rw [if_neg q]
      have o : ∀ k, 0 ≤ k → k < 1226 → rO (setO r p 9 z) p' k = rO r p' k := fun k k0 k1 => hj _ (by omega)
      rw [o 7 (by omega) (by omega), o 8 (by omega) (by omega), o 9 (by omega) (by omega), o 10 (by omega) (by omega), o 11 (by omega) (by omega)]
      exact hX4 _ _ _ _ _ _ (hS3 p' a0 a1)
  · rw [hj _ (by omega), hj _ (by omega)]
    exact (hT3.fr (by omega) f4 (fun z w => by rw [w]; omega)).ext (fun x y x0 x1 y0 y1 => (hj _ (by omega)).symm)
  · rw [hj _ (by omega)] at a1
    obtain ⟨w1, w2⟩ := m5 p' a0 a1
    have o : ∀ k, 13 ≤ k → k < 1226 → rO (setO r p 9 z) p' k = rO r p' k := fun k k0 k1 => hj _ (by omega)
    refine ⟨by rw [o 13 (by omega) (by omega)]; exact w1, fun x y x0 x1 y0 y1 => ?_⟩
    rw [hj _ (by omega)] at x1 y1
    unfold wiped
    rw [o (14 + y) (by omega) (by omega)]
    exact w2 x y x0 x1 y0 y1
end CHG
