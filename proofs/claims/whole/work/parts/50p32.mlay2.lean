/-! the reference lays its plates -/
theorem bOr_0a : ∀ t : Fin 16, bOr ((t.val : Nat) : Int) 0 = ((t.val : Nat) : Int) := by decide +kernel
theorem bOr_0 {v : Int} (h0 : 0 ≤ v) (h1 : v < 16) : bOr v 0 = v := by
  have h := bOr_0a ⟨v.toNat, by omega⟩
  simp only [Int.toNat_of_nonneg h0] at h
  exact h
section MLAY2
variable {μ : Mem} {c u p : Int} {h : Int → Row}
theorem isWanted_rt (hc : Mc μ c u h) (hp : isPl (h 0) p) {cell R T : Int} (c0 : 0 ≤ cell) (c1 : cell < 192) (hR : μ 110 (192 * p + cell) = R) (hT : μ 111 (192 * p + cell) = T) (r0 : 0 ≤ R) (r1 : R ≤ 324) (t0 : 0 ≤ T) (t1 : T ≤ 100) : FX7_isWanted 105 p cell μ = RT (b2 (R * 100 < T * rQ (h 0) p * rQ (h 0) p)) μ := by
  have hr2 := hc.ok.2.1
  have hq := rQ_le (hc.ok.2.2.2.2 p hp.1 hp.2)
  have hS := hc.1
  have m1 := mul_le_of t0 t1 (show 0 ≤ rQ (h 0) p by omega) hq.2
  have m2 := mul_le_of m1.1 m1.2 (show 0 ≤ rQ (h 0) p by omega) hq.2
  have e : w32 (w32 (192 * p) + cell) = 192 * p + cell := by rw [w32_eq (z := 192 * p) (by omega) (by omega), w32_eq (by omega) (by omega)]
  unfold FX7_isWanted BX7_isWanted_0 BX7_isWanted_45
  rw [hS.k7, square_rt hc hp]
  simp only [CL, ↓CLX_rt]
  rw [hS.g7_7, e, hS.l110 (by omega) (by omega), hS.g7_8, hS.l111 (by omega) (by omega), hR, hT, w32_eq (z := T * _) (by omega) (by omega), w32_eq (z := T * _ * _) (by omega) (by omega), w32_eq (by omega) (by omega)]
  by_cases q : R * 100 < T * rQ (h 0) p * rQ (h 0) p
  · rw [if_neg (by omega), b2_t q]
    rfl
  · rw [if_pos (by omega), b2_f q]
    rfl
/-- what laying may change -/
def LyFr (μ ν : Mem) : Prop := ∀ z k, ¬ (108 ≤ z ∧ z ≤ 112 ∧ 0 ≤ k) → ν z k = μ z k
theorem LyFr.mc {ν : Mem} (hc : Mc μ c u h) (hf : LyFr μ ν) : Mc ν c u h := hc.fr fun z k hz => hf z k (by omega)
theorem laysPlate_rt (hc : Mc μ c u h) (hp : isPl (h 0) p) (hI0 : ∀ x y, 0 ≤ x → x < h 0 0 → 0 ≤ y → y < h 0 1 → μ 112 (16 * y + x) = ik (h 0) x y p.toNat) (hRT : ∀ q, 0 ≤ q → q < p → ∀ x y, 0 ≤ x → x < h 0 0 → 0 ≤ y → y < h 0 1 → μ 110 (192 * q + (16 * y + x)) = rkAt (h 0) q x y ∧ μ 111 (192 * q + (16 * y + x)) = tnOn (h 0) q x y) : ∃ ν, FX7_laysPlate 105 p μ = RT 0 ν ∧ LyFr μ ν ∧ (∀ x y, 0 ≤ x → x < h 0 0 → 0 ≤ y → y < h 0 1 → ν 112 (16 * y + x) = ik (h 0) x y (p.toNat + 1)) ∧ ∀ q, 0 ≤ q → q < p + 1 → ∀ x y, 0 ≤ x → x < h 0 0 → 0 ≤ y → y < h 0 1 → ν 110 (192 * q + (16 * y + x)) = rkAt (h 0) q x y ∧ ν 111 (192 * q + (16 * y + x)) = tnOn (h 0) q x y := by
  have hr := hc.ok
  have hr1 := hr.1
  have hr2 := hr.2.1
  have p4 : p < 4 := by omega
  have ho := hr.2.2.2.2 p hp.1 hp.2
  have hq := rQ_le ho
  obtain ⟨μ1, e1, f1, m1⟩ := laysM_rt hc hp
  have hc1 : Mc μ1 c u h := hc.fr fun z k hz => f1 z k (by omega)
  unfold FX7_laysPlate BX7_laysPlate_0
  rw [hc.1.k7, e1]
  simp only [CL, ↓CLX_rt]
  rw [hc1.1.k7, square_rt hc1 hp]
  simp only [↓CLX_rt]
  refine dblR (fun n y0 y1 y2 y3 ν => LX7_laysPlate_13 n y0 y1 y2 y3 ν) (fun k s y => k 105 p (rQ (h 0) p) y s) (fun k n s y x => LX7_laysPlate_24 k n 105 p (rQ (h 0) p) y x s) (h 0 0) (h 0 1) (fun x y s => (∀ z k, ¬ ((z = 109 ∨ z = 110 ∨ z = 111 ∨ z = 112) ∧ 0 ≤ k) → s z k = μ1 z k) ∧ (∀ x' y', 0 ≤ x' → x' < h 0 0 → 0 ≤ y' → y' < h 0 1 → s 112 (16 * y' + x') = if y' < y ∨ (y' = y ∧ x' < x) then ik (h 0) x' y' (p.toNat + 1) else ik (h 0) x' y' p.toNat) ∧ ∀ q, 0 ≤ q → q < p + 1 → ∀ x' y', 0 ≤ x' → x' < h 0 0 → 0 ≤ y' → y' < h 0 1 → (q < p ∨ (y' < y ∨ (y' = y ∧ x' < x))) → s 110 (192 * q + (16 * y' + x')) = rkAt (h 0) q x' y' ∧ s 111 (192 * q + (16 * y' + x')) = tnOn (h 0) q x' y') (fun R => ∃ ν, R = RT 0 ν ∧ LyFr μ ν ∧ (∀ x y, 0 ≤ x → x < h 0 0 → 0 ≤ y → y < h 0 1 → ν 112 (16 * y + x) = ik (h 0) x y (p.toNat + 1)) ∧ ∀ q, 0 ≤ q → q < p + 1 → ∀ x y, 0 ≤ x → x < h 0 0 → 0 ≤ y → y < h 0 1 → ν 110 (192 * q + (16 * y + x)) = rkAt (h 0) q x y ∧ ν 111 (192 * q + (16 * y + x)) = tnOn (h 0) q x y) (by omega) (by omega) (fun n s y y0 y1 hs => ?_) (fun n s hs => ?_) (fun k n s y x y0 y1 x0 x1 hs => ?_) (fun k n s y y0 y1 hs => ?_) FU 0 μ1 (Int.le_refl _) (by omega) (by rw [show ((FU : Nat) : Int) = 20000 from rfl]; omega) ⟨fun _ _ _ => rfl, fun x' y' x0 x1 y0 y1 => by rw [if_neg (by omega), f1 _ _ (by omega)]; exact hI0 x' y' x0 x1 y0 y1, fun q q0 q1 x' y' x0 x1 y0 y1 hh => by rw [f1 _ _ (by omega), f1 _ _ (by omega)]; exact hRT q q0 (by omega) x' y' x0 x1 y0 y1⟩
  · have hc2 : Mc s c u h := hc1.fr fun z k hz => hs.1 z k (by omega)
    have k7 := @MSh.k7 s hc2.1
    have hy : ¬ h 0 1 ≤ y := by omega
    simp (disch := omega) only [LX7_laysPlate_13, BX7_laysPlate_13, ↓k7, ↓CL, ↓high_rt_c hc2, hy, ↓reduceIte]
  · have hc2 : Mc s c u h := hc1.fr fun z k hz => hs.1 z k (by omega)
    have k7 := @MSh.k7 s hc2.1
    refine ⟨s, ?_, fun z k hz => by rw [hs.1 z k (by omega), f1 z k (by omega)], fun x y x0 x1 y0 y1 => ?_, fun q q0 q1 x y x0 x1 y0 y1 => hs.2.2 q q0 q1 x y x0 x1 y0 y1 (by omega)⟩
    · simp (disch := omega) only [LX7_laysPlate_13, BX7_laysPlate_13, ↓k7, ↓CL, ↓high_rt_c hc2, Int.le_refl, ↓reduceIte]
    · have := hs.2.1 x y x0 x1 y0 y1
      rw [if_pos (Or.inl y1)] at this
      exact this
  · obtain ⟨g1, g2, g3⟩ := hs
    have hc2 : Mc s c u h := hc1.fr fun z k hz => g1 z k (by omega)
    have hS2 := hc2.1
    have k7 := @MSh.k7 s hS2
    have hx : ¬ h 0 0 ≤ x := by omega
    have hd := ho.2.2.1
    have ec : w32 (w32 (16 * y) + x) = 16 * y + x := by rw [w32_eq (z := 16 * y) (by omega) (by omega), w32_eq (by omega) (by omega)]
    have ei : w32 (w32 (192 * p) + w32 (w32 (16 * y) + x)) = 192 * p + (16 * y + x) := by rw [ec, w32_eq (z := 192 * p) (by omega) (by omega), w32_eq (by omega) (by omega)]
    have ex : (w32 (x + rO (h 0) p 10)).tmod (rQ (h 0) p) = (x + rO (h 0) p 10) % rQ (h 0) p := by rw [w32_eq (by omega) (by omega), tmod_small (by omega)]
    have ey : (w32 (y + rO (h 0) p 11)).tmod (rQ (h 0) p) = (y + rO (h 0) p 11) % rQ (h 0) p := by rw [w32_eq (by omega) (by omega), tmod_small (by omega)]
    have hpl := place_lt (x := x + rO (h 0) p 10) (y := y + rO (h 0) p 11) hq.1
    have hq2 := mul_le_of (a := rQ (h 0) p) (b := rQ (h 0) p) (c := 18) (d := 18) (by omega) hq.2 (by omega) hq.2
    have hmm : 0 ≤ (y + rO (h 0) p 11) % rQ (h 0) p * rQ (h 0) p := Int.mul_nonneg (Int.emod_nonneg _ (by omega)) (by omega)
    have hx0 := Int.emod_nonneg (x + rO (h 0) p 10) (show rQ (h 0) p ≠ 0 by omega)
    have epl : w32 (w32 (rQ (h 0) p * ((y + rO (h 0) p 11) % rQ (h 0) p)) + (x + rO (h 0) p 10) % rQ (h 0) p) = (y + rO (h 0) p 11) % rQ (h 0) p * rQ (h 0) p + (x + rO (h 0) p 10) % rQ (h 0) p := by
      rw [Int.mul_comm (rQ (h 0) p), w32_eq (z := (y + rO (h 0) p 11) % rQ (h 0) p * rQ (h 0) p) (by omega) (by omega), w32_eq (by omega) (by omega)]
    have hrk := mrank_rt (μ := s) hS2 (sh := rO (h 0) p 9) (a := rO (h 0) p 7) (b := rO (h 0) p 8) hq rfl (fun k k0 k1 => by rw [g1 _ _ (by omega)]; exact m1 k k0 k1) hpl.1 hpl.2
    have hrv : rk (rO (h 0) p 9) (rO (h 0) p 7) (rO (h 0) p 8) ((y + rO (h 0) p 11) % rQ (h 0) p * rQ (h 0) p + (x + rO (h 0) p 10) % rQ (h 0) p) = rkAt (h 0) p x y := by
      unfold rkAt
      rw [Int.mul_comm (rQ (h 0) p)]
    rw [hrv] at hrk
    have hrl := rkAt_le (x := x) (y := y) hr hp.1 hp.2
    -- the rank is kept
    have hc3 : Mc (mUp s 110 (192 * p + (16 * y + x)) (rkAt (h 0) p x y)) c u h := hc2.fr fun z k hz => mUp_ne _ _ (by omega)
    obtain ⟨ν, e2, f2⟩ := toneOn_rt hc3 hp x0 x1 y0 y1
    have hc4 : Mc ν c u h := hc3.fr fun z k hz => f2 z k (by omega)
    have htl := tnOn_le hr (p := p) x0 x1 y0 y1
    have hc5 : Mc (mUp ν 111 (192 * p + (16 * y + x)) (tnOn (h 0) p x y)) c u h := hc4.fr fun z k hz => mUp_ne _ _ (by omega)
    have hS5 := hc5.1
    have k75 := @MSh.k7 _ hS5
    have v110 : mUp ν 111 (192 * p + (16 * y + x)) (tnOn (h 0) p x y) 110 (192 * p + (16 * y + x)) = rkAt (h 0) p x y := by rw [mUp_ne _ _ (by omega), f2 _ _ (by omega), mUp_same]
    have v111 : mUp ν 111 (192 * p + (16 * y + x)) (tnOn (h 0) p x y) 111 (192 * p + (16 * y + x)) = tnOn (h 0) p x y := mUp_same _ _ _ _
    have hw := isWanted_rt hc5 hp (show 0 ≤ 16 * y + x by omega) (by omega) v110 v111 hrl.1 hrl.2 htl.1 htl.2
    have v112 : mUp ν 111 (192 * p + (16 * y + x)) (tnOn (h 0) p x y) 112 (16 * y + x) = ik (h 0) x y p.toNat := by
      rw [mUp_ne _ _ (by omega), f2 _ _ (by omega), mUp_ne _ _ (by omega), g2 x y x0 x1 y0 y1, if_neg (by omega)]
    have h16 := ik_16 (h 0) x y p.toNat (by omega)
    have hpn : ((p.toNat : Nat) : Int) = p := by omega
    have hik : ik (h 0) x y (p.toNat + 1) = if putAt (h 0) p x y then bOr (ik (h 0) x y p.toNat) (bShl 1 p) else ik (h 0) x y p.toNat := by rw [ik, hpn]
    have hfr5 : ∀ z k, ¬ ((z = 109 ∨ z = 110 ∨ z = 111) ∧ 0 ≤ k) → mUp ν 111 (192 * p + (16 * y + x)) (tnOn (h 0) p x y) z k = s z k := fun z k hz => by rw [mUp_ne _ _ (by omega), f2 _ _ (by omega), mUp_ne _ _ (by omega)]
    refine ⟨mUp (mUp ν 111 (192 * p + (16 * y + x)) (tnOn (h 0) p x y)) 112 (16 * y + x) (ik (h 0) x y (p.toNat + 1)), ⟨fun z k hz => ?_, fun x' y' a0 a1 b0 b1 => ?_, fun q q0 q1 x' y' a0 a1 b0 b1 hh => ?_⟩, ?_⟩
    · rw [mUp_ne _ _ (by omega), hfr5 _ _ (by omega)]
      exact g1 z k hz
    · by_cases e : x' = x ∧ y' = y
      · rw [e.1, e.2, mUp_same, if_pos (by omega)]
      · rw [mUp_ne _ _ (by omega), hfr5 _ _ (by omega), g2 x' y' a0 a1 b0 b1]
        by_cases e3 : y' < y ∨ (y' = y ∧ x' < x)
        · rw [if_pos e3, if_pos (by omega)]
        · rw [if_neg e3, if_neg (by omega)]
    · by_cases e : q = p ∧ x' = x ∧ y' = y
      · rw [e.1, e.2.1, e.2.2]
        exact ⟨(mUp_ne _ _ (by omega)).trans v110, (mUp_ne _ _ (by omega)).trans v111⟩
      · have := g3 q q0 q1 x' y' a0 a1 b0 b1 (by omega)
        refine ⟨?_, ?_⟩
        · rw [mUp_ne _ _ (by omega), mUp_ne _ _ (by omega), f2 _ _ (by omega), mUp_ne _ _ (by omega)]
          exact this.1
        · rw [mUp_ne _ _ (by omega), mUp_ne _ _ (by omega), f2 _ _ (by omega), mUp_ne _ _ (by omega)]
          exact this.2
    · have k73 := @MSh.k7 _ hc3.1
      have hend1 : ∀ k13 : Int → Int → Int → Int → Mem → Rz, ∀ k24 : Int → Int → Int → Int → Int → Mem → Rz, BX7_laysPlate_151 k13 k24 105 p (rQ (h 0) p) y x (16 * y + x) 1 (mUp ν 111 (192 * p + (16 * y + x)) (tnOn (h 0) p x y)) = k24 105 p (rQ (h 0) p) y (x + 1) (mUp (mUp ν 111 (192 * p + (16 * y + x)) (tnOn (h 0) p x y)) 112 (16 * y + x) (bOr (ik (h 0) x y p.toNat) (bShl 1 p))) := fun k13 k24 => by
        unfold BX7_laysPlate_151 BX7_laysPlate_173
        rw [hS5.g7_9, hS5.l112 (by omega) (by omega), v112, if_neg (by decide), hS5.s112 (by omega) (by omega), w32_eq (by omega) (by omega)]
      have hend0 : ∀ k13 : Int → Int → Int → Int → Mem → Rz, ∀ k24 : Int → Int → Int → Int → Int → Mem → Rz, BX7_laysPlate_150 k13 k24 105 p (rQ (h 0) p) y x (16 * y + x) (mUp ν 111 (192 * p + (16 * y + x)) (tnOn (h 0) p x y)) = k24 105 p (rQ (h 0) p) y (x + 1) (mUp (mUp ν 111 (192 * p + (16 * y + x)) (tnOn (h 0) p x y)) 112 (16 * y + x) (ik (h 0) x y p.toNat)) := fun k13 k24 => by
        unfold BX7_laysPlate_150 BX7_laysPlate_151 BX7_laysPlate_173
        rw [hS5.g7_9, hS5.l112 (by omega) (by omega), v112, if_pos rfl, bOr_0 h16.1 h16.2, hS5.s112 (by omega) (by omega), w32_eq (by omega) (by omega)]
      simp (disch := omega) only [LX7_laysPlate_24, BX7_laysPlate_24, ↓k7, ↓CL, ↓wide_rt_c hc2, hx, ↓reduceIte, ↓LT_eq, ↓hS2.g7_7, ↓of_rt_c hc2 hp.1 p4, ↓RM_of, ey, ex, epl]
      rw [hrk]
      simp only [↓CLX_rt]
      rw [ei, hS2.s110 (by omega) (by omega), hc3.1.g7_8, hc3.1.k7, e2]
      simp only [↓CLX_rt]
      rw [hc4.1.s111 (by omega) (by omega), hS5.k7, ec, hw]
      simp only [↓CLX_rt]
      rw [hik]
      by_cases qd : dark (h 0) p x y
      · rw [b2_t (q := rkAt (h 0) p x y * 100 < tnOn (h 0) p x y * rQ (h 0) p * rQ (h 0) p) qd, if_neg (by decide), hS5.k7, mwiped_rt hc5 hp.1 p4 y0 (by omega)]
        simp only [↓CLX_rt]
        by_cases qw : wiped (h 0) p x y
        · rw [b2_t qw, if_pos (by decide), hend0, if_neg (fun k : putAt (h 0) p x y => k.2.1 qw)]
        · rw [b2_f qw, if_neg (by decide), hS5.g7_9, hS5.l112 (by omega) (by omega), v112, bits_rt h16.1 (by omega)]
          simp only [↓CLX_rt]
          rw [hS5.k7, get_rt hc5 (by omega) (by omega)]
          simp only [↓CLX_rt]
          by_cases ql : h 0 3 ≤ bc (ik (h 0) x y p.toNat)
          · rw [if_pos ql, hend0, if_neg (fun k : putAt (h 0) p x y => by have := k.2.2; omega)]
          · rw [if_neg ql, hend1, if_pos (show putAt (h 0) p x y from ⟨qd, qw, by omega⟩)]
      · rw [b2_f (q := rkAt (h 0) p x y * 100 < tnOn (h 0) p x y * rQ (h 0) p * rQ (h 0) p) qd, if_pos rfl, hend0, if_neg (fun k : putAt (h 0) p x y => qd k.1)]
  · obtain ⟨g1, g2, g3⟩ := hs
    have hc2 : Mc s c u h := hc1.fr fun z k hz => g1 z k (by omega)
    have k7 := @MSh.k7 s hc2.1
    refine ⟨⟨g1, fun x' y' a0 a1 b0 b1 => ?_, fun q q0 q1 x' y' a0 a1 b0 b1 hh => g3 q q0 q1 x' y' a0 a1 b0 b1 (by omega)⟩, ?_⟩
    · rw [g2 x' y' a0 a1 b0 b1]
      by_cases e3 : y' < y ∨ (y' = y ∧ x' < h 0 0)
      · rw [if_pos e3, if_pos (by omega)]
      · rw [if_neg e3, if_neg (by omega)]
    · simp (disch := omega) only [LX7_laysPlate_24, BX7_laysPlate_24, ↓k7, ↓CL, ↓wide_rt_c hc2, Int.le_refl, ↓reduceIte, w32_eq]
/-- what lays may change -/
def LzFr (μ ν : Mem) : Prop := ∀ z k, ¬ ((z = 105 ∧ k = 10) ∨ (108 ≤ z ∧ z ≤ 112 ∧ 0 ≤ k)) → ν z k = μ z k
/-- the flag, and what it says -/
def MFl (μ : Mem) (r : Row) : Prop := μ 105 10 = 0 ∨ (μ 105 10 = 1 ∧ Laid μ r)
theorem lays_rt (hc : Mc μ c u h) (hl : MFl μ (h 0)) : ∃ ν, FX7_lays 105 μ = RT 0 ν ∧ LzFr μ ν ∧ Mc ν c u h ∧ Laid ν (h 0) ∧ ν 105 10 = 1 := by
  have hr := hc.ok
  have hr1 := hr.1
  have hr2 := hr.2.1
  unfold FX7_lays BX7_lays_0
  rw [hc.1.g7_10]
  rcases hl with hl | ⟨hl, hL⟩
  · rw [hl, if_pos rfl, hc.1.z7_10 (Or.inr rfl)]
    refine lpR (fun n k s => LX7_lays_15 n 105 k s) (fun k s => 0 ≤ k ∧ (∀ z j, ¬ ((z = 105 ∧ j = 10) ∨ (z = 112 ∧ 0 ≤ j)) → s z j = μ z j) ∧ s 105 10 = 1 ∧ ∀ j, 0 ≤ j → j < k → s 112 j = 0) 192 (fun R => ∃ ν, R = RT 0 ν ∧ LzFr μ ν ∧ Mc ν c u h ∧ Laid ν (h 0) ∧ ν 105 10 = 1) (fun n k s k1 hs => ?_) (fun n s hs => ?_) FU 0 (mUp μ 105 10 1) (by omega) (by rw [show ((FU : Nat) : Int) = 20000 from rfl]; omega) ⟨Int.le_refl _, fun z j hz => mUp_ne _ _ (by omega), mUp_same _ _ _ _, fun j j0 j1 => by omega⟩
    · obtain ⟨k0, g1, g2, g3⟩ := hs
      have hc2 : Mc s c u h := hc.fr fun z k hz => g1 z k (by omega)
      have hS2 := hc2.1
      have kk : ¬ 192 ≤ k := by omega
      refine ⟨mUp s 112 k 0, ⟨by omega, fun z j hz => by rw [mUp_ne _ _ (by omega)]; exact g1 z j hz, by rw [mUp_ne _ _ (by omega)]; exact g2, fun j j0 j1 => ?_⟩, ?_⟩
      · by_cases e : j = k
        · rw [e, mUp_same]
        · rw [mUp_ne _ _ (by omega)]
          exact g3 j j0 (by omega)
      · simp (disch := omega) only [LX7_lays_15, BX7_lays_15, kk, ↓reduceIte, ↓hS2.g7_9, ↓hS2.s112, w32_eq]
    · obtain ⟨k0, g1, g2, g3⟩ := hs
      have hc2 : Mc s c u h := hc.fr fun z k hz => g1 z k (by omega)
      simp only [LX7_lays_15, BX7_lays_15, Int.le_refl, ↓reduceIte]
      refine lpR (fun n q t => LX7_lays_37 n 105 q t) (fun q t => 0 ≤ q ∧ LyFr s t ∧ (∀ x y, 0 ≤ x → x < h 0 0 → 0 ≤ y → y < h 0 1 → t 112 (16 * y + x) = ik (h 0) x y q.toNat) ∧ ∀ p, 0 ≤ p → p < q → ∀ x y, 0 ≤ x → x < h 0 0 → 0 ≤ y → y < h 0 1 → t 110 (192 * p + (16 * y + x)) = rkAt (h 0) p x y ∧ t 111 (192 * p + (16 * y + x)) = tnOn (h 0) p x y) (h 0 2) (fun R => ∃ ν, R = RT 0 ν ∧ LzFr μ ν ∧ Mc ν c u h ∧ Laid ν (h 0) ∧ ν 105 10 = 1) (fun m q t q1 ht => ?_) (fun m t ht => ?_) FU 0 s hr2.1 (by rw [show ((FU : Nat) : Int) = 20000 from rfl]; omega) ⟨Int.le_refl _, fun _ _ _ => rfl, fun x y x0 x1 y0 y1 => g3 _ (by omega) (by omega), fun p p0 p1 => by omega⟩
      · obtain ⟨q0, t1, t2, t3⟩ := ht
        have hc3 := t1.mc hc2
        obtain ⟨ν, e, a1, a2, a3⟩ := laysPlate_rt hc3 ⟨q0, q1⟩ t2 t3
        have k7 := @MSh.k7 t hc3.1
        have hq : ¬ h 0 2 ≤ q := by omega
        refine ⟨ν, ⟨by omega, fun z k hz => by rw [a1 z k hz, t1 z k hz], fun x y x0 x1 y0 y1 => by rw [show (q + 1).toNat = q.toNat + 1 by omega]; exact a2 x y x0 x1 y0 y1, a3⟩, ?_⟩
        simp (disch := omega) only [LX7_lays_37, BX7_lays_37, ↓k7, CL, ↓mplates_rt_c hc3, hq, ↓reduceIte, e, CLX_rt, w32_eq]
      · obtain ⟨q0, t1, t2, t3⟩ := ht
        have hc3 := t1.mc hc2
        have k7 := @MSh.k7 t hc3.1
        refine ⟨t, ?_, fun z k hz => by rw [t1 z k (by omega), g1 z k (by omega)], hc3, ⟨t2, fun p p0 p1 x y x0 x1 y0 y1 => (t3 p p0 p1 x y x0 x1 y0 y1).1, fun p p0 p1 x y x0 x1 y0 y1 => (t3 p p0 p1 x y x0 x1 y0 y1).2⟩, by rw [t1 _ _ (by omega), g2]⟩
        simp (disch := omega) only [LX7_lays_37, BX7_lays_37, ↓k7, CL, ↓mplates_rt_c hc3, Int.le_refl, ↓reduceIte]
  · rw [hl, if_neg (by decide)]
    exact ⟨μ, rfl, fun _ _ _ => rfl, hc, hL, hl⟩
end MLAY2
