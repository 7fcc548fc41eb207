/-! the component and the law's screens side by side -/
def Pcs (sc : Int → Int) (n u : Int) (h : Int → Row) (c s : Int) (μ : Mem) : Prop := (∃ g tx fed fa, CIc μ g u h tx fed fa) ∧ Fx sc n μ ∧ μ 0 1 ≤ c ∧ μ 0 2 ≤ s
section PCS
variable {μ ν : Mem} {n u c s c' s' L e cap T p q a b sh dx dy dx' dy' o x y z t : Int} {h : Int → Row} {ids : List Int} {sc : Int → Int} {X P : Int → Prop} {r r' : Row}
theorem Pcs.up (hP : Pcs sc n u h c s μ) (f : UpFr μ ν) (hI : ∀ g tx fed fa, CIc μ g u h tx fed fa → CIc ν g u h tx fed fa) : Pcs sc n u h c s ν := by
  obtain ⟨⟨g, tx, fed, fa, h1⟩, h2, h3, h4⟩ := hP
  exact ⟨⟨g, tx, fed, fa, hI _ _ _ _ h1⟩, h2.nf f.ng, by rw [f.2 _ _ (by omega)]; exact h3, by rw [f.2 _ _ (by omega)]; exact h4⟩
theorem pc_printed (hP : Pcs sc n u h c s μ) (hM : Mtc μ X (h 0) L e cap ids T) : ∃ ν, FL_isPrinted 1 L T (h 0 3) μ = RT 1 ν ∧ Pcs sc n u h c s ν ∧ Mtc ν X (h 0) L e cap ids T ∧ NgF μ ν := by
  obtain ⟨⟨g, tx, fed, fa, h1⟩, h2, h3, h4⟩ := hP
  obtain ⟨ν, e1, i1, f1⟩ := printed_rt h1 hM
  exact ⟨ν, e1, ⟨⟨g, tx, fed, fa, i1⟩, h2.nf f1.ng, by rw [f1.2 _ _ (by omega)]; exact h3, by rw [f1.2 _ _ (by omega)]; exact h4⟩, hM.ng f1.ng, f1.ng⟩
theorem pc_state (hP : Pcs sc n u h c s μ) : ∃ ν, FX6_state 1 4 μ = RT (dotsAll (h 0)) ν ∧ Pcs sc n u h c s ν ∧ NgF μ ν := by
  obtain ⟨⟨g, tx, fed, fa, h1⟩, h2, h3, h4⟩ := hP
  obtain ⟨ν, e1, i1, -, f1⟩ := state_rt h1 (w := 4) (by omega) (by omega)
  exact ⟨ν, e1, ⟨⟨g, tx, fed, fa, i1⟩, h2.nf f1.ng, by rw [f1.2 _ _ (by omega)]; exact h3, by rw [f1.2 _ _ (by omega)]; exact h4⟩, f1.ng⟩
theorem CFr.ng (f : CFr μ ν) : NgF μ ν := ⟨fun z k hz => f.1 z k (Or.inl hz), f.1 0 3 (Or.inr ⟨rfl, rfl⟩)⟩
theorem pc_call {F : Mem → Rz} {v : Int} (hP : Pcs sc n u h c s μ) (hF : ∀ g tx fed fa, CIc μ g u h tx fed fa → ∃ ν, F μ = RT v ν ∧ ChP μ ν u h r' tx fed fa) : ∃ ν, F μ = RT v ν ∧ Pcs sc n (uUp u) (push r' h) (c + 10) (s + 3000) ν ∧ NgF μ ν := by
  obtain ⟨⟨g, tx, fed, fa, h1⟩, h2, h3, h4⟩ := hP
  obtain ⟨ν, e1, ⟨g', i1⟩, f1⟩ := hF g tx fed fa h1
  exact ⟨ν, e1, ⟨⟨g', tx, fed, fa, i1⟩, h2.nf f1.ng, by have := f1.2.2.1; omega, by have := f1.2.2.2; omega⟩, f1.ng⟩
theorem pc_undo (hP : Pcs sc n u h c s μ) (hu : 1 ≤ u) : ∃ ν, FX6_undo 1 μ = RT (u - 1) ν ∧ Pcs sc n (u - 1) (fun j => h (j + 1)) c s ν ∧ NgF μ ν := by
  obtain ⟨⟨g, tx, fed, fa, h1⟩, h2, h3, h4⟩ := hP
  obtain ⟨ν, e1, ⟨g', i1⟩, f1⟩ := undo_rt h1
  rw [if_neg (by omega)] at e1 i1
  rw [if_neg (by omega)] at i1
  have hng : NgF μ ν := ⟨fun z k hz => f1 z k (by omega), f1 _ _ (by omega)⟩
  exact ⟨ν, e1, ⟨⟨g', tx, fed, fa, i1⟩, h2.nf hng, by rw [f1 _ _ (by omega)]; exact h3, by rw [f1 _ _ (by omega)]; exact h4⟩, hng⟩
/-- the law itself does something -/
theorem Pcs.fl (hP : Pcs sc n u h c s μ) (f : FrL c' s' P μ ν) (hN : ∀ z, P z → z < -21) : Pcs sc n u h (c + c') (s + s') ν := by
  obtain ⟨⟨g, tx, fed, fa, h1⟩, h2, h3, h4⟩ := hP
  exact ⟨⟨g, tx, fed, fa, f.ci h1 (by have := h2.2.2.2.2; omega) (fun z w => by have := hN z w; omega)⟩, h2.fl f hN, by have := f.2.2.2.1; omega, by have := f.2.2.2.2; omega⟩
theorem Pcs.le (hP : Pcs sc n u h c s μ) (hc : c ≤ c') (hs : s ≤ s') : Pcs sc n u h c' s' μ := ⟨hP.1, hP.2.1, by have := hP.2.2.1; omega, by have := hP.2.2.2; omega⟩
/-- a screen that stays while others are written -/
theorem Scn.fs (hS : Scn μ X q a b sh dx dy) (f : FrL c s P μ ν) (h1 : ¬ P q) (h2 : ∀ z, P z → μ z (-1) ≠ 8 ∧ μ z (-1) ≠ 12 ∧ μ z (-1) ≠ 22) : Scn ν X q a b sh dx dy := by
  obtain ⟨o, e, cap, ids, ks, i1, i2, i3, i4⟩ := hS
  exact ⟨o, e, cap, ids, ks, i1.fr f h1, i2.fr f (fun w => (h2 _ w).2.1 i2.1.2.2.1) (fun w => (h2 _ w).2.2 i2.2.2.1.2.1), i3.fr f (fun z hz w => (h2 z w).1 hz), i4⟩
theorem Scn.kd (hS : Scn μ X q a b sh dx dy) : (q < -21 ∧ μ 0 3 < q ∧ μ q (-1) = 9) ∧ (μ q 0 = a ∧ μ q 1 = b ∧ μ q 3 = sh) ∧ μ q 4 = dx ∧ μ q 5 = dy := by
  obtain ⟨o, e, cap, ids, ks, ⟨i1, i2, i3, i4, -⟩, -⟩ := hS
  exact ⟨i1, ⟨i2.1, i2.2.1, i2.2.2.2⟩, i3, i4⟩
/-- a screen's shift -/
theorem Scn.mv (hS : Scn μ X q a b sh dx dy) : Scn (mUp (mUp μ q 4 dx') q 5 dy') X q a b sh dx' dy' ∧ FrL 0 0 (fun z => z = q) μ (mUp (mUp μ q 4 dx') q 5 dy') := by
  obtain ⟨o, e, cap, ids, ks, ⟨⟨a0, a1, a2⟩, ⟨b0, b1, b2, b3⟩, c0, c1, c2⟩, i2, i3, i4⟩ := hS
  have f : FrL 0 0 (fun z => z = q) μ (mUp (mUp μ q 4 dx') q 5 dy') := by
    have := (FrL.up (μ := μ) (a := q) (k := 4) (w := dx') (P := fun z => z = q) (by omega) (by omega) rfl).tr (Q := fun z => z = q) (FrL.up (μ := mUp μ q 4 dx') (a := q) (k := 5) (w := dy') (P := fun z => z = q) (by omega) (by omega) rfl) (fun _ _ _ w => w) (fun _ _ _ w => w)
    simpa using this
  have hk : ∀ w t : Int, μ w (-1) = t → t ≠ 9 → ¬ w = q := fun w t h1 h2 h3 => by
    rw [h3] at h1
    omega
  refine ⟨⟨o, e, cap, ids, ks, ⟨⟨a0, by rw [mUp_ne _ _ (by omega), mUp_ne _ _ (by omega)]; exact a1, by rw [mUp_ne _ _ (by omega), mUp_ne _ _ (by omega)]; exact a2⟩, ⟨by rw [mUp_ne _ _ (by omega), mUp_ne _ _ (by omega)]; exact b0, by rw [mUp_ne _ _ (by omega), mUp_ne _ _ (by omega)]; exact b1, by rw [mUp_ne _ _ (by omega), mUp_ne _ _ (by omega)]; exact b2, by rw [mUp_ne _ _ (by omega), mUp_ne _ _ (by omega)]; exact b3⟩, by rw [mUp_ne _ _ (by omega), mUp_same], mUp_same _ _ _ _, by rw [mUp_ne _ _ (by omega), mUp_ne _ _ (by omega)]; exact c2⟩, i2.fr f (hk _ _ i2.1.2.2.1 (by omega)) (hk _ _ i2.2.2.1.2.1 (by omega)), i3.fr f (fun z hz w => hk _ _ hz (by omega) w), i4⟩, f⟩
/-- rows that differ in one plate's small fields -/
theorem Mtc.fld (hM : Mtc μ X r L e cap ids T) (h2 : r' 2 = r 2) (h0 : r' 0 = r 0) (h1 : r' 1 = r 1) (ht : ∀ x y, 0 ≤ x → x < r 0 → 0 ≤ y → y < r 1 → rT r' x y = rT r x y) (ho : ∀ p, 0 ≤ p → p < r 2 → rO r' p 13 = rO r p 13 ∧ ∀ y, 0 ≤ y → y < r 1 → rO r' p (14 + y) = rO r p (14 + y)) (hA : Al ν L e cap ids) (hT : Tns ν T (r 0) (r 1) (rT r)) (hS : ∀ p, 0 ≤ p → p < r 2 → Scn ν X (gt ids p) (rO r' p 7) (rO r' p 8) (rO r' p 9) (rO r' p 10) (rO r' p 11)) : Mtc ν X r' L e cap ids T := by
  obtain ⟨m1, m2, m3, m4, m5⟩ := hM
  refine ⟨hA, by rw [h2]; exact m2, fun p p0 p1 => hS p p0 (by omega), by rw [h0, h1]; exact hT.ext (fun x y x0 x1 y0 y1 => (ht x y x0 x1 y0 y1).symm), fun p p0 p1 => ?_⟩
  rw [h2] at p1
  obtain ⟨w1, w2⟩ := m5 p p0 p1
  refine ⟨by rw [(ho p p0 p1).1]; exact w1, fun x y x0 x1 y0 y1 => ?_⟩
  rw [h0] at x1
  rw [h1] at y1
  unfold wiped
  rw [(ho p p0 p1).2 y y0 y1]
  exact w2 x y x0 x1 y0 y1
/-- the shift -/
theorem Mtc.shift (hM : Mtc μ X r L e cap ids T) (hr : okRow r) (hd : ∀ i j, 0 ≤ i → i < j → j < r 2 → gt ids j < gt ids i) (p0 : 0 ≤ p) (p1 : p < r 2) : Mtc (mUp (mUp μ (gt ids p) 4 dx') (gt ids p) 5 dy') X (setO (setO r p 10 dx') p 11 dy') L e cap ids T ∧ FrL 0 0 (fun z => z = gt ids p) μ (mUp (mUp μ (gt ids p) 4 dx') (gt ids p) 5 dy') := by
  have hr1 := hr.1
  obtain ⟨m1, m2, m3, m4, m5⟩ := id hM
  obtain ⟨s1, f⟩ := (m3 p p0 p1).mv (dx' := dx') (dy' := dy')
  have hk := (m3 p p0 p1).kd.1
  have hj : ∀ j, ¬ (j = 196 + 1226 * p + 10 ∨ j = 196 + 1226 * p + 11) → setO (setO r p 10 dx') p 11 dy' j = r j := fun j hj => by rw [setO_j (by omega), setO_j (by omega)]
  have hne : ∀ w : Int, w = gt ids p → μ w (-1) = 9 := fun w e => by rw [e]; exact hk.2.2
  refine ⟨hM.fld (hj _ (by omega)) (hj _ (by omega)) (hj _ (by omega)) (fun x y x0 x1 y0 y1 => hj _ (by omega)) (fun p' p'0 p'1 => ⟨hj _ (by omega), fun y y0 y1 => hj _ (by omega)⟩) (m1.fr f (fun w => ?_) (fun w => ?_)) (m4.fr (by omega) f (fun z w => ?_)) (fun p' p'0 p'1 => ?_), f⟩
  · have := hne _ w
    have := m1.1.2.2.1
    omega
  · have := hne _ w
    have := m1.2.2.1.2.1
    omega
  · have := hne _ w
    omega
  · by_cases e9 : p' = p
    · rw [e9]
      have e7 : rO (setO (setO r p 10 dx') p 11 dy') p 7 = rO r p 7 := hj _ (by omega)
      have e8 : rO (setO (setO r p 10 dx') p 11 dy') p 8 = rO r p 8 := hj _ (by omega)
      have e9' : rO (setO (setO r p 10 dx') p 11 dy') p 9 = rO r p 9 := hj _ (by omega)
      have e10 : rO (setO (setO r p 10 dx') p 11 dy') p 10 = dx' := by
        rw [setO_ne (by omega), setO_at]
      rw [e7, e8, e9', e10, setO_at]
      exact s1
    · have o : ∀ k, 0 ≤ k → k < 1226 → rO (setO (setO r p 10 dx') p 11 dy') p' k = rO r p' k := fun k k0 k1 => hj _ (by omega)
      rw [o 7 (by omega) (by omega), o 8 (by omega) (by omega), o 9 (by omega) (by omega), o 10 (by omega) (by omega), o 11 (by omega) (by omega)]
      refine (m3 p' p'0 p'1).fs f (fun w => ?_) (fun z w => by have := hne _ w; omega)
      by_cases q : p' < p
      · have := hd p' p p'0 q p1
        omega
      · have := hd p p' p0 (by omega) p'1
        omega
/-- a tone -/
theorem Mtc.paint (hM : Mtc μ X r L e cap ids T) (hr : okRow r) (x0 : 0 ≤ x) (x1 : x < r 0) (y0 : 0 ≤ y) (y1 : y < r 1) : (∀ K : Mem → Rz, (AL 7 T y μ fun a => AS 1 a x t μ K) = K (mUp μ (T - 1 - y) x t)) ∧ Mtc (mUp μ (T - 1 - y) x t) X (paintR r x y 1 1 t) L e cap ids T ∧ FrL 0 0 (fun z => z = T - 1 - y) μ (mUp μ (T - 1 - y) x t) := by
  have hr1 := hr.1
  have hr2 := hr.2.1
  obtain ⟨m1, m2, m3, m4, m5⟩ := id hM
  obtain ⟨p1, p2, p3, p4⟩ := m4.put (z := t) x0 x1 y0 y1
  have hj : ∀ j, ¬ (4 ≤ j ∧ j < 196) → paintR r x y 1 1 t j = r j := fun j hj => paintR_ne hj
  have hne : ∀ w : Int, w = T - 1 - y → μ w (-1) = 21 := fun w e => by rw [e]; exact p4
  have ht : ∀ x' y', 0 ≤ x' → x' < r 0 → 0 ≤ y' → y' < r 1 → (fun x' y' => if x' = x ∧ y' = y then t else rT r x' y') x' y' = rT (paintR r x y 1 1 t) x' y' := fun x' y' a0 a1 b0 b1 => by
    rw [paintR_t a0 (by omega) b0 (by omega)]
    show (if x' = x ∧ y' = y then t else rT r x' y') = _
    by_cases q : x' = x ∧ y' = y
    · rw [if_pos q, if_pos (by omega)]
    · rw [if_neg q, if_neg (by omega)]
  have hA : Al (mUp μ (T - 1 - y) x t) L e cap ids := m1.fr p3 (fun w => by have := hne _ w; have := m1.1.2.2.1; omega) (fun w => by have := hne _ w; have := m1.2.2.1.2.1; omega)
  refine ⟨p1, ⟨hA, by rw [hj _ (by omega)]; exact m2, fun p p0 p1 => ?_, by rw [hj _ (by omega), hj _ (by omega)]; exact p2.ext ht, fun p p0 p1 => ?_⟩, p3⟩
  · rw [hj _ (by omega)] at p1
    have o : ∀ k, 0 ≤ k → k < 1226 → rO (paintR r x y 1 1 t) p k = rO r p k := fun k k0 k1 => paintR_o p0 k0
    rw [o 7 (by omega) (by omega), o 8 (by omega) (by omega), o 9 (by omega) (by omega), o 10 (by omega) (by omega), o 11 (by omega) (by omega)]
    exact (m3 p p0 p1).fr p3 (fun z w => Or.inr (by have := hne _ w; omega)) (fun z w => by have := hne _ w; omega)
  · rw [hj _ (by omega)] at p1
    refine ⟨by rw [paintR_o p0 (by omega)]; exact (m5 p p0 p1).1, fun x y x0 x1 y0 y1 => ?_⟩
    rw [hj _ (by omega)] at x1 y1
    unfold wiped
    rw [paintR_o p0 (by omega)]
    exact (m5 p p0 p1).2 x y x0 x1 y0 y1
end PCS
