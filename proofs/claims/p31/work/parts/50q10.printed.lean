/-! the law asks cell by cell -/
/-- the law's tones -/
def Tns (μ : Mem) (t w h : Int) (f : Int → Int → Int) : Prop := (t < -21 ∧ μ 0 3 < t - h ∧ μ t (-1) = 27 ∧ μ t (-2) = h) ∧ ∀ y, 0 ≤ y → y < h → (μ t y = t - 1 - y ∧ μ (t - 1 - y) (-1) = 21 ∧ μ (t - 1 - y) (-2) = w) ∧ ∀ x, 0 ≤ x → x < w → μ (t - 1 - y) x = f x y
/-- the law's screens and tones are those of the row -/
def Mtc (μ : Mem) (X : Int → Prop) (r : Row) (L e cap : Int) (ids : List Int) (T : Int) : Prop := Al μ L e cap ids ∧ (ids.length : Int) = r 2 ∧ (∀ p, 0 ≤ p → p < r 2 → Scn μ X (gt ids p) (rO r p 7) (rO r p 8) (rO r p 9) (rO r p 10) (rO r p 11)) ∧ Tns μ T (r 0) (r 1) (rT r) ∧ ∀ p, 0 ≤ p → p < r 2 → rO r p 13 = 0 ∧ ∀ x y, 0 ≤ x → x < r 0 → 0 ≤ y → y < r 1 → ¬ wiped r p x y
section PRN
variable {μ ν : Mem} {c u fed fa L e cap T x y k n all : Int} {h : Int → Row} {tx : Int → Int} {X : Int → Prop} {ids : List Int}
theorem UpFr.ng (f : UpFr μ ν) : NgF μ ν := ⟨fun z k hz => f.2 z k (by omega), f.2 0 3 (by omega)⟩
theorem Tns.ng {t w q : Int} {g : Int → Int → Int} (hT : Tns μ t w q g) (f : NgF μ ν) : Tns ν t w q g := by
  obtain ⟨⟨a0, a1, a2, a3⟩, b⟩ := hT
  have r : ∀ z k, z < 0 → ν z k = μ z k := f.1
  have g := f.2
  refine ⟨⟨a0, by omega, by rw [r _ _ (by omega)]; exact a2, by rw [r _ _ (by omega)]; exact a3⟩, fun y y0 y1 => ?_⟩
  obtain ⟨⟨b1, b2, b3⟩, b4⟩ := b y y0 y1
  exact ⟨⟨by rw [r _ _ (by omega)]; exact b1, by rw [r _ _ (by omega)]; exact b2, by rw [r _ _ (by omega)]; exact b3⟩, fun x x0 x1 => by rw [r _ _ (by omega)]; exact b4 x x0 x1⟩
theorem Mtc.ng {r : Row} (hM : Mtc μ X r L e cap ids T) (f : NgF μ ν) : Mtc ν X r L e cap ids T :=
  ⟨hM.1.ng f, hM.2.1, fun p p0 p1 => (hM.2.2.1 p p0 p1).ng f, hM.2.2.2.1.ng f, hM.2.2.2.2⟩
theorem bOr_0 {v : Int} (h0 : 0 ≤ v) (h1 : v < 16) : bOr v 0 = v := by
  have : ∀ t : Fin 16, bOr ((t.val : Nat) : Int) 0 = ((t.val : Nat) : Int) := by decide +kernel
  have h2 := this ⟨v.toNat, by omega⟩
  have e : ((v.toNat : Nat) : Int) = v := by omega
  rw [← e]
  exact h2
theorem tn_of {r : Row} {p : Int} (hz : rO r p 13 = 0) : tnOn r p x y = rT r x y := if_pos hz
theorem tone_at {t w q : Int} {g : Int → Int → Int} (hT : Tns μ t w q g) (x0 : 0 ≤ x) (x1 : x < w) (y0 : 0 ≤ y) (y1 : y < q) {K : Int → Rz} : (AL 7 t y μ fun a => AL 1 a x μ K) = K (g x y) := by
  obtain ⟨⟨a0, a1, a2, a3⟩, b⟩ := hT
  obtain ⟨⟨b1, b2, b3⟩, b4⟩ := b y y0 y1
  rw [AL_go a2 a3 y0 y1 b1, AL_go b2 b3 x0 x1 (b4 x x0 x1)]
theorem pl_tail {k6 : Int → Int → Int → Int → Int → Int → Mem → Rz} {k16 : Int → Int → Int → Int → Int → Int → Int → Mem → Rz} {k32 : Int → Int → Int → Int → Int → Int → Int → Int → Int → Mem → Rz} {R wants is s0 S S' lim : Int} (hI : CIc μ c u h tx fed fa) (hM : Mtc μ X (h 0) L e cap ids T) (hk : isPl (h 0) k) (hc : isCe (h 0) x y) (hS : bOr S s0 = S') (hR : rkAt (h 0) k x y = R) (his : is = b2 (dotAt (h 0) k x y)) (hw : whyV (h 0) k x y = if is = 0 then (if wants = 0 then 2 else 3) else 0) : ∃ ν, BL_isPrinted_133 k6 k16 k32 1 L T lim all y x k R wants is s0 S μ = k32 1 L T lim all y x S' (k + 1) ν ∧ CIc ν c u h tx fed fa ∧ UpFr μ ν := by
  have hr2 := hI.1.cur.1.2.1
  obtain ⟨ν1, e1, i1, -, f1⟩ := cell_rt hI hk hc (w := 0) (by omega) (by omega)
  obtain ⟨ν2, e2, i2, -, f2⟩ := cell_rt i1 hk hc (w := 1) (by omega) (by omega)
  obtain ⟨ν3, e3, i3, -, f3⟩ := cell_rt i2 hk hc (w := 2) (by omega) (by omega)
  obtain ⟨ν4, e4, i4, -, f4⟩ := why_rt i3 hk hc
  have hM2 := hM.ng (f1.tr f2).ng
  have c0 : ceV (h 0) k x y 0 = R := by
    unfold ceV
    rw [if_pos rfl]
    exact hR
  have c1 : ceV (h 0) k x y 1 = rT (h 0) x y := by
    unfold ceV
    rw [if_neg (by decide), if_pos rfl]
    exact tn_of (hM.2.2.2.2 k hk.1 hk.2).1
  have c2 : ceV (h 0) k x y 2 = is := by
    unfold ceV
    rw [if_neg (by decide), if_neg (by decide), if_pos rfl]
    exact his.symm
  refine ⟨ν4, ?_, i4, ((f1.tr f2).tr f3).tr f4⟩
  unfold BL_isPrinted_133
  simp only [LT_eq]
  rw [hS, hI.1.1.k6, e1]
  simp only [CL, CLX_rt]
  rw [if_neg (by rw [c0]; exact fun w => w rfl), i1.1.1.k6, e2]
  simp only [CLX_rt]
  rw [tone_at hM2.2.2.2.1 hc.1.1 hc.1.2 hc.2.1 hc.2.2, if_neg (by rw [c1]; exact fun w => w rfl), i2.1.1.k6, e3]
  simp only [CLX_rt]
  rw [c2]
  have hfin : ∀ z, z = is → BL_isPrinted_193 k6 k16 k32 1 L T lim all y x S' k wants is z ν3 = k32 1 L T lim all y x S' (k + 1) ν4 := by
    intro z hz
    rw [hz]
    unfold BL_isPrinted_193
    rw [if_neg (fun w => w rfl), i3.1.1.k6, e4]
    simp only [CL, CLX_rt]
    rw [hw]
    have w1 : w32 (k + 1) = k + 1 := w32_eq (by omega) (by omega)
    by_cases q1 : is = 0
    · rw [if_pos q1, if_pos q1]
      by_cases q2 : wants = 0
      · rw [if_pos q2, if_pos q2]
        unfold BL_isPrinted_227
        rw [if_pos rfl, w1]
      · rw [if_neg q2, if_neg q2]
        unfold BL_isPrinted_227
        rw [if_pos rfl, w1]
    · rw [if_neg q1, if_neg q1]
      unfold BL_isPrinted_227
      rw [if_pos rfl, w1]
  by_cases q : is = 1
  · rw [if_neg (fun w => w q)]
    exact hfin 1 q.symm
  · rw [if_pos q]
    exact hfin 0 (by
      have := b2_0 (q := dotAt (h 0) k x y)
      omega)
theorem pl_step {k6 : Int → Int → Int → Int → Int → Int → Mem → Rz} {k16 : Int → Int → Int → Int → Int → Int → Int → Mem → Rz} (hI : CIc μ c u h tx fed fa) (hM : Mtc μ X (h 0) L e cap ids T) (hk : isPl (h 0) k) (hc : isCe (h 0) x y) (n : Nat) : ∃ ν, LL_isPrinted_32 k6 k16 (n + 1) 1 L T (h 0 3) all y x (ik (h 0) x y k.toNat) k μ = LL_isPrinted_32 k6 k16 n 1 L T (h 0 3) all y x (ik (h 0) x y (k.toNat + 1)) (k + 1) ν ∧ CIc ν c u h tx fed fa ∧ UpFr μ ν := by
  have hr := hI.1.cur.1
  have hr1 := hr.1
  have hr2 := hr.2.1
  have h00 : 0 < μ 0 0 := by have := hI.1.2.2.2.2.2; omega
  obtain ⟨hA, hlen, hSc, hT, hz⟩ := id hM
  have hs := hSc k hk.1 hk.2
  have hP := hr.2.2.2.2 k hk.1 hk.2
  have hq := rQ_le hP
  have hrk := rkAt_le (x := x) (y := y) hr hk.1 hk.2
  have htn := hr.2.2.2.1 x y hc.1.1 hc.1.2 hc.2.1 hc.2.2
  obtain ⟨o, e', cap', ids', ks, hs8, -⟩ := id hs
  have em := rank_rt (x := x) (y := y) h00 hs hc.1.1 (by omega) hc.2.1 (by omega) ⟨hP.2.2.1.1, hP.2.2.1.2.1⟩ ⟨hP.2.2.1.2.2.1, hP.2.2.1.2.2.2⟩
  have hik := ik_16 (h 0) x y k.toNat (by omega)
  have hdk : dark (h 0) k x y ↔ rkAt (h 0) k x y * 100 < rT (h 0) x y * rQ (h 0) k * rQ (h 0) k := by
    unfold dark
    rw [tn_of (hz k hk.1 hk.2).1]
  have hnw := (hz k hk.1 hk.2).2 x y hc.1.1 hc.1.2 hc.2.1 hc.2.2
  have hdp := dotAt_put hr hk.1 hk.2 hc.1.1 hc.1.2 hc.2.1 hc.2.2
  have m1 := mul_le_of htn.1 htn.2 (show 0 ≤ rQ (h 0) k by omega) hq.2
  have m2 := mul_le_of m1.1 m1.2 (show 0 ≤ rQ (h 0) k by omega) hq.2
  have hstep : ik (h 0) x y (k.toNat + 1) = if dotAt (h 0) k x y then bOr (ik (h 0) x y k.toNat) (bShl 1 k) else ik (h 0) x y k.toNat := by
    have ek : ((k.toNat : Nat) : Int) = k := Int.toNat_of_nonneg hk.1
    have e0 : ik (h 0) x y (k.toNat + 1) = if dark (h 0) k.toNat x y ∧ ¬ wiped (h 0) k.toNat x y ∧ bc (ik (h 0) x y k.toNat) < h 0 3 then bOr (ik (h 0) x y k.toNat) (bShl 1 k.toNat) else ik (h 0) x y k.toNat := rfl
    rw [e0, ek]
    by_cases q : putAt (h 0) k x y
    · rw [if_pos q, if_pos (hdp.mpr q)]
    · rw [if_neg q, if_neg (fun w => q (hdp.mp w))]
  have e0 : LL_isPrinted_32 k6 k16 (n + 1) 1 L T (h 0 3) all y x (ik (h 0) x y k.toNat) k μ = if rT (h 0) x y * rQ (h 0) k * rQ (h 0) k ≤ rkAt (h 0) k x y * 100 then BL_isPrinted_95 k6 k16 (fun y0 y1 y2 y3 y4 y5 y6 y7 y8 ν => LL_isPrinted_32 k6 k16 n y0 y1 y2 y3 y4 y5 y6 y7 y8 ν) 1 L T (h 0 3) all y x (ik (h 0) x y k.toNat) k (rkAt (h 0) k x y) 0 μ else BL_isPrinted_95 k6 k16 (fun y0 y1 y2 y3 y4 y5 y6 y7 y8 ν => LL_isPrinted_32 k6 k16 n y0 y1 y2 y3 y4 y5 y6 y7 y8 ν) 1 L T (h 0 3) all y x (ik (h 0) x y k.toNat) k (rkAt (h 0) k x y) 1 μ := by
    show BL_isPrinted_32 k6 k16 _ 1 L T (h 0 3) all y x (ik (h 0) x y k.toNat) k μ = _
    unfold BL_isPrinted_32
    rw [KD_go hA.1.2.2.1, size_rt hA]
    simp only [CL, CLX_rt]
    rw [if_neg (by omega), KD_go hA.1.2.2.1, get_rt hA h00 hk.1 (by omega)]
    simp only [CLX_rt]
    rw [KD_go hs8.1.2.2, KD_go hs8.1.2.2, em]
    simp only [CLX_rt]
    rw [tone_at hT hc.1.1 hc.1.2 hc.2.1 hc.2.2, GF_go hs8.1.2.2 hs8.2.1.2.2.1, GF_go hs8.1.2.2 hs8.2.1.2.2.1]
    show (if w32 (w32 (rT (h 0) x y * rQ (h 0) k) * rQ (h 0) k) ≤ w32 (rkAt (h 0) k x y * 100) then _ else _) = _
    rw [w32_eq (z := rT (h 0) x y * rQ (h 0) k) (by omega) (by omega), w32_eq (z := rT (h 0) x y * rQ (h 0) k * rQ (h 0) k) (by omega) (by omega), w32_eq (z := rkAt (h 0) k x y * 100) (by omega) (by omega)]
    rfl
  rw [e0]
  by_cases qd : dark (h 0) k x y
  · rw [if_neg (by have := hdk.mp qd; omega)]
    unfold BL_isPrinted_95
    rw [if_neg (by decide), bitCount_rt hik.1 hik.2]
    simp only [CL, CLX_rt]
    by_cases ql : bc (ik (h 0) x y k.toNat) < h 0 3
    · have hdot : dotAt (h 0) k x y := hdp.mpr ⟨qd, hnw, ql⟩
      rw [if_neg (by omega)]
      unfold BL_isPrinted_116
      rw [if_neg (by decide), hstep, if_pos hdot]
      exact pl_tail hI hM hk hc rfl rfl (b2_t hdot).symm (by unfold whyV; rw [if_pos hdot, if_neg (by decide)])
    · have hdot : ¬ dotAt (h 0) k x y := fun w => ql (hdp.mp w).2.2
      rw [if_pos (by omega)]
      unfold BL_isPrinted_115 BL_isPrinted_116
      rw [if_pos rfl, hstep, if_neg hdot]
      exact pl_tail hI hM hk hc (bOr_0 hik.1 hik.2) rfl (b2_f hdot).symm (by unfold whyV; rw [if_neg hdot, if_neg hnw, if_pos qd, if_pos rfl, if_neg (by decide)])
  · have hdot : ¬ dotAt (h 0) k x y := fun w => qd (hdp.mp w).1
    rw [if_pos (by have := fun w => qd (hdk.mpr w); omega)]
    unfold BL_isPrinted_95
    rw [if_pos rfl]
    unfold BL_isPrinted_115 BL_isPrinted_116
    rw [if_pos rfl, hstep, if_neg hdot]
    exact pl_tail hI hM hk hc (bOr_0 hik.1 hik.2) rfl (b2_f hdot).symm (by unfold whyV; rw [if_neg hdot, if_neg hnw, if_neg qd, if_pos rfl, if_pos rfl])
/-- one cell of the picture -/
theorem ce_step {k6 : Int → Int → Int → Int → Int → Int → Mem → Rz} (hI : CIc μ c u h tx fed fa) (hM : Mtc μ X (h 0) L e cap ids T) (hc : isCe (h 0) x y) (a0 : 0 ≤ all) (a1 : all ≤ 10000) (n : Nat) : ∃ ν, LL_isPrinted_16 k6 (n + 1) 1 L T (h 0 3) all y x μ = LL_isPrinted_16 k6 n 1 L T (h 0 3) (all + bc (ikA (h 0) x y)) y (x + 1) ν ∧ CIc ν c u h tx fed fa ∧ UpFr μ ν := by
  have hr := hI.1.cur.1
  have hr1 := hr.1
  have hr2 := hr.2.1
  have hT := hM.2.2.2.1
  have hTy := (hT.2 y hc.2.1 hc.2.2).1
  have e0 : LL_isPrinted_16 k6 (n + 1) 1 L T (h 0 3) all y x μ = LL_isPrinted_32 k6 (fun y0 y1 y2 y3 y4 y5 y6 ν => LL_isPrinted_16 k6 n y0 y1 y2 y3 y4 y5 y6 ν) FU 1 L T (h 0 3) all y x 0 0 μ := by
    show BL_isPrinted_16 k6 _ 1 L T (h 0 3) all y x μ = _
    unfold BL_isPrinted_16
    rw [AL_go hT.1.2.2.1 hT.1.2.2.2 hc.2.1 hc.2.2 hTy.1, LN_of hTy.2.1 hTy.2.2, if_neg (by omega)]
  rw [e0]
  refine lpR (fun m k σ => LL_isPrinted_32 k6 (fun y0 y1 y2 y3 y4 y5 y6 ν => LL_isPrinted_16 k6 n y0 y1 y2 y3 y4 y5 y6 ν) m 1 L T (h 0 3) all y x (ik (h 0) x y k.toNat) k σ) (fun k σ => 0 ≤ k ∧ CIc σ c u h tx fed fa ∧ UpFr μ σ) (h 0 2) (fun R => ∃ ν, R = LL_isPrinted_16 k6 n 1 L T (h 0 3) (all + bc (ikA (h 0) x y)) y (x + 1) ν ∧ CIc ν c u h tx fed fa ∧ UpFr μ ν) (fun m k σ k1 hs => ?_) (fun m σ hs => ?_) FU 0 μ hr2.1 (by rw [show ((FU : Nat) : Int) = 20000 from rfl]; omega) ⟨Int.le_refl _, hI, UpFr.rf hI.1.1⟩
  · obtain ⟨k0, i1, f1⟩ := hs
    obtain ⟨ν, e1, i2, f2⟩ := pl_step (k6 := k6) (k16 := fun y0 y1 y2 y3 y4 y5 y6 ν => LL_isPrinted_16 k6 n y0 y1 y2 y3 y4 y5 y6 ν) (all := all) i1 (hM.ng f1.ng) ⟨k0, k1⟩ hc m
    refine ⟨ν, ⟨by omega, i2, f1.tr f2⟩, ?_⟩
    rw [e1, show (k + 1).toNat = k.toNat + 1 by omega]
  · obtain ⟨k0, i1, f1⟩ := hs
    obtain ⟨ν, e1, i2, -, f2⟩ := inks_rt i1 hc
    have hM1 := hM.ng f1.ng
    have hM2 := hM1.ng f2.ng
    have hik : 0 ≤ ikA (h 0) x y ∧ ikA (h 0) x y < 16 := ik_16 (h 0) x y (h 0 2).toNat (by omega)
    have hbc := bc_le (v := ikA (h 0) x y) hik.1 (by omega)
    refine ⟨ν, ?_, i2, f1.tr f2⟩
    show BL_isPrinted_32 k6 _ _ 1 L T (h 0 3) all y x (ikA (h 0) x y) (h 0 2) σ = _
    unfold BL_isPrinted_32
    rw [KD_go hM1.1.1.2.2.1, size_rt hM1.1]
    simp only [CL, CLX_rt]
    rw [if_pos (by have := hM.2.1; omega), i1.1.1.k6, e1]
    simp only [CLX_rt, not_true, ↓reduceIte]
    rw [i2.1.1.k6, tone_rt i2 hc]
    simp only [CLX_rt]
    rw [tone_at hM2.2.2.2.1 hc.1.1 hc.1.2 hc.2.1 hc.2.2, if_pos rfl, bitCount_rt hik.1 hik.2]
    simp only [CLX_rt, LT_eq]
    rw [w32_eq (by omega) (by omega), w32_eq (by omega) (by omega)]
end PRN
