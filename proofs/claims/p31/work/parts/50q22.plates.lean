/-! plates, screen by screen -/
section PLW
variable {μ ν : Mem} {n b c s w h lim many T L y x k q a d sh : Int} {l m : List Int} {sc : Int → Int} {dig : Int → Int → Int} {A B S : Int → Int}
/-- the bytes of a plate -/
def plB (k a d sh : Int) : List Int := fBytes 8 ++ ([97 + k] ++ ([32] ++ ([48 + a] ++ ([32] ++ ([48 + d] ++ ([32] ++ (fBytes sh.toNat ++ [59])))))))
theorem LL_212_s (g : Nat) (x0 x1 x2 x3 x4 x5 x6 x7 x8 : Int) (μ : Mem) : LL_law_212 (g + 1) x0 x1 x2 x3 x4 x5 x6 x7 x8 μ = BL_law_212 (fun y0 y1 y2 y3 y4 y5 y6 y7 y8 ν => LL_law_212 g y0 y1 y2 y3 y4 y5 y6 y7 y8 ν) x0 x1 x2 x3 x4 x5 x6 x7 x8 μ := rfl
theorem plf_of (hsh : 0 ≤ sh ∧ sh ≤ 3) (hq : (l.length : Int) = q) : Plf (gt (l ++ plB k a d sh)) q k a d sh ∧ ((l ++ plB k a d sh).length : Int) = q + 13 + strLen (9 + sh) := by
  have e : ∀ j, 0 ≤ j → gt (l ++ plB k a d sh) (q + j) = gt (plB k a d sh) j := fun j j0 => by
    rw [gt_r (by omega)]
    congr 1
    omega
  have h4 : sh = 0 ∨ sh = 1 ∨ sh = 2 ∨ sh = 3 := by omega
  rw [ln_app, hq]
  rcases h4 with e4 | e4 | e4 | e4
  · subst e4
    refine ⟨⟨fun j j0 j1 => ?_, ?_, ?_, ?_, ?_, ?_, ?_, ?_, fun j j0 j1 => ?_, ?_⟩, ?_⟩
    · rw [e _ j0]
      have h5 : j = 0 ∨ j = 1 ∨ j = 2 ∨ j = 3 ∨ j = 4 := by omega
      rcases h5 with u | u | u | u | u <;> subst u <;> rfl
    · rw [e _ (by omega)]; rfl
    · rw [e _ (by omega)]; rfl
    · rw [e _ (by omega)]; rfl
    · rw [e _ (by omega)]; rfl
    · rw [e _ (by omega)]; rfl
    · rw [e _ (by omega)]; rfl
    · rw [e _ (by omega)]; rfl
    · have hl : strLen (9 + 0) = 5 := rfl
      rw [hl] at j1
      rw [show q + 12 + j = q + (12 + j) by omega, e _ (by omega)]
      have h5 : j = 0 ∨ j = 1 ∨ j = 2 ∨ j = 3 ∨ j = 4 := by omega
      rcases h5 with u | u | u | u | u <;> subst u <;> rfl
    · have hl : strLen (9 + 0) = 5 := rfl
      rw [hl, show q + 12 + 5 = q + (12 + 5) by omega, e _ (by omega)]
      rfl
    · have hl : strLen (9 + 0) = 5 := rfl
      rw [hl, show ((plB k a d 0).length : Int) = 13 + 5 from rfl]
      omega
  · subst e4
    refine ⟨⟨fun j j0 j1 => ?_, ?_, ?_, ?_, ?_, ?_, ?_, ?_, fun j j0 j1 => ?_, ?_⟩, ?_⟩
    · rw [e _ j0]
      have h5 : j = 0 ∨ j = 1 ∨ j = 2 ∨ j = 3 ∨ j = 4 := by omega
      rcases h5 with u | u | u | u | u <;> subst u <;> rfl
    · rw [e _ (by omega)]; rfl
    · rw [e _ (by omega)]; rfl
    · rw [e _ (by omega)]; rfl
    · rw [e _ (by omega)]; rfl
    · rw [e _ (by omega)]; rfl
    · rw [e _ (by omega)]; rfl
    · rw [e _ (by omega)]; rfl
    · have hl : strLen (9 + 1) = 4 := rfl
      rw [hl] at j1
      rw [show q + 12 + j = q + (12 + j) by omega, e _ (by omega)]
      have h5 : j = 0 ∨ j = 1 ∨ j = 2 ∨ j = 3 := by omega
      rcases h5 with u | u | u | u <;> subst u <;> rfl
    · have hl : strLen (9 + 1) = 4 := rfl
      rw [hl, show q + 12 + 4 = q + (12 + 4) by omega, e _ (by omega)]
      rfl
    · have hl : strLen (9 + 1) = 4 := rfl
      rw [hl, show ((plB k a d 1).length : Int) = 13 + 4 from rfl]
      omega
  · subst e4
    refine ⟨⟨fun j j0 j1 => ?_, ?_, ?_, ?_, ?_, ?_, ?_, ?_, fun j j0 j1 => ?_, ?_⟩, ?_⟩
    · rw [e _ j0]
      have h5 : j = 0 ∨ j = 1 ∨ j = 2 ∨ j = 3 ∨ j = 4 := by omega
      rcases h5 with u | u | u | u | u <;> subst u <;> rfl
    · rw [e _ (by omega)]; rfl
    · rw [e _ (by omega)]; rfl
    · rw [e _ (by omega)]; rfl
    · rw [e _ (by omega)]; rfl
    · rw [e _ (by omega)]; rfl
    · rw [e _ (by omega)]; rfl
    · rw [e _ (by omega)]; rfl
    · have hl : strLen (9 + 2) = 7 := rfl
      rw [hl] at j1
      rw [show q + 12 + j = q + (12 + j) by omega, e _ (by omega)]
      have h5 : j = 0 ∨ j = 1 ∨ j = 2 ∨ j = 3 ∨ j = 4 ∨ j = 5 ∨ j = 6 := by omega
      rcases h5 with u | u | u | u | u | u | u <;> subst u <;> rfl
    · have hl : strLen (9 + 2) = 7 := rfl
      rw [hl, show q + 12 + 7 = q + (12 + 7) by omega, e _ (by omega)]
      rfl
    · have hl : strLen (9 + 2) = 7 := rfl
      rw [hl, show ((plB k a d 2).length : Int) = 13 + 7 from rfl]
      omega
  · subst e4
    refine ⟨⟨fun j j0 j1 => ?_, ?_, ?_, ?_, ?_, ?_, ?_, ?_, fun j j0 j1 => ?_, ?_⟩, ?_⟩
    · rw [e _ j0]
      have h5 : j = 0 ∨ j = 1 ∨ j = 2 ∨ j = 3 ∨ j = 4 := by omega
      rcases h5 with u | u | u | u | u <;> subst u <;> rfl
    · rw [e _ (by omega)]; rfl
    · rw [e _ (by omega)]; rfl
    · rw [e _ (by omega)]; rfl
    · rw [e _ (by omega)]; rfl
    · rw [e _ (by omega)]; rfl
    · rw [e _ (by omega)]; rfl
    · rw [e _ (by omega)]; rfl
    · have hl : strLen (9 + 3) = 6 := rfl
      rw [hl] at j1
      rw [show q + 12 + j = q + (12 + j) by omega, e _ (by omega)]
      have h5 : j = 0 ∨ j = 1 ∨ j = 2 ∨ j = 3 ∨ j = 4 ∨ j = 5 := by omega
      rcases h5 with u | u | u | u | u | u <;> subst u <;> rfl
    · have hl : strLen (9 + 3) = 6 := rfl
      rw [hl, show q + 12 + 6 = q + (12 + 6) by omega, e _ (by omega)]
      rfl
    · have hl : strLen (9 + 3) = 6 := rfl
      rw [hl, show ((plB k a d 3).length : Int) = 13 + 6 from rfl]
      omega
theorem Ptx.nx (hX : Ptx l w h lim dig A B S k) (hw : 0 ≤ w) (h0 : 0 ≤ h) (k0 : 0 ≤ k) (hS : ∀ k, 0 ≤ S k ∧ S k ≤ 3) : Ptx (l ++ plB k (A k) (B k) (S k)) w h lim dig A B S (k + 1) := by
  obtain ⟨h1, h2, h3, h4, h5⟩ := hX
  have hy : 0 ≤ h * (w + 1) := Int.mul_nonneg h0 (by omega)
  have hp := Pos_ge (S := S) (p0 := 26 + h * (w + 1)) hS k0
  obtain ⟨p1, p2⟩ := plf_of (l := l) (k := k) (a := A k) (d := B k) (hS k) h1
  have e : ∀ j, 0 ≤ j → j < Pos S (26 + h * (w + 1)) k → gt (l ++ plB k (A k) (B k) (S k)) j = gt l j := fun j j0 j1 => gt_l j0 (by omega)
  refine ⟨by rw [p2, Pos_s k0], h2.ext (fun k k0 k1 => e k k0 (by omega)), h3.ext hw (fun k k0 k1 => e k k0 (by omega)), by rw [e _ (by omega) (by omega)]; exact h4, fun p p0 pk => ?_⟩
  by_cases q : p = k
  · rw [q]
    exact p1
  · have hpp := Pos_ge (S := S) (p0 := 26 + h * (w + 1)) hS p0
    have hmn := Pos_mono (S := S) (p0 := 26 + h * (w + 1)) (i := p + 1) hS (by omega) (k - (p + 1)).toNat
    rw [show p + 1 + (((k - (p + 1)).toNat : Nat) : Int) = k by omega, Pos_s p0] at hmn
    exact (h5 p p0 (by omega)).ext (by omega) (hS p) (fun j j0 j1 => e j j0 (by omega))
theorem pl3_rt {R : Mem → Prop} {k212 : Int → Int → Int → Int → Int → Int → Int → Int → Int → Mem → Rz} {x0 x1 x2 x3 x4 x6 x7 tr : Int} (hR : Stb b R) (hC : Core sc n b R c s l μ) (hl : (l.length : Int) ≤ 200) (ht : 1 ≤ tr ∧ tr ≤ 15) (hsh : 0 ≤ sh ∧ sh ≤ 3) (k0 : 0 ≤ k) (k2 : k < 4) : ∃ ν, PL3 k212 x0 x1 x2 x3 x4 b x6 x7 k tr sh b μ = k212 x0 x1 x2 x3 x4 b x6 x7 (k + 1) ν ∧ Core sc n b R (c + 5) (s + 3010) (l ++ [32] ++ [48 + tr % 4] ++ [32] ++ fBytes sh.toNat ++ [59]) ν := by
  have nsh : ((fBytes sh.toNat).length : Int) ≤ 7 := by
    have h4 : sh = 0 ∨ sh = 1 ∨ sh = 2 ∨ sh = 3 := by omega
    rcases h4 with e | e | e | e <;> rw [e] <;> decide
  obtain ⟨u5, q5, D5⟩ := hC.ch hR (z := 32) (by omega) (by omega)
  obtain ⟨u6, q6, D6⟩ := D5.dg hR (z := tr % 4) (by omega) (by rw [len_s]; omega)
  obtain ⟨u7, q7, D7⟩ := D6.ch hR (z := 32) (by omega) (by rw [len_s, len_s]; omega)
  obtain ⟨u8, q8, D8⟩ := D7.str hR sh.toNat (by omega) (by rw [len_s, len_s, len_s]; omega)
  obtain ⟨u9, q9, D9⟩ := D8.ch hR (z := 59) (by omega) (by rw [ln_app, len_s, len_s, len_s]; omega)
  rw [Int.toNat_of_nonneg hsh.1] at q8
  have hrm : tr.tmod 4 = tr % 4 := tmod_small (by omega)
  refine ⟨u9, ?_, ?_⟩
  · unfold PL3
    rw [KD_go hC.bk, q5]
    simp only [CLZ, CLX_rt]
    rw [RM_of (by omega), hrm, KD_go D5.bk, q6]
    simp only [CLX_rt]
    rw [KD_go D6.bk, q7]
    simp only [CLX_rt]
    rw [shapeOf_rt hsh]
    simp only [CLX_rt]
    rw [KD_go D7.bk, q8]
    simp only [CLX_rt]
    rw [KD_go D8.bk, q9]
    simp only [CLX_rt]
    rw [w32_eq (z := k + 1) (by omega) (by omega)]
  · obtain ⟨a1, a2, ⟨a3, a4⟩, a5⟩ := D9
    exact ⟨a1, a2, ⟨by omega, by omega⟩, a5⟩
theorem pl2_rt {R : Mem → Prop} {k212 : Int → Int → Int → Int → Int → Int → Int → Int → Int → Mem → Rz} {x0 x1 x2 x3 x4 x6 x7 tr : Int} (hR : Stb b R) (hC : Core sc n b R c s l μ) (hl : (l.length : Int) ≤ 180) (ht : 1 ≤ tr ∧ tr ≤ 15) (hsh : 0 ≤ sh ∧ sh ≤ 3) (k0 : 0 ≤ k) (k2 : k < 4) : ∃ ν, PL2 k212 x0 x1 x2 x3 x4 b x6 x7 k tr sh μ = k212 x0 x1 x2 x3 x4 b x6 x7 (k + 1) ν ∧ Core sc n b R (c + 9) (s + 5418) (l ++ plB k (tr / 4) (tr % 4) sh) ν := by
  have n8 : ((fBytes 8).length : Int) = 6 := rfl
  obtain ⟨u1, q1, D1⟩ := hC.str hR 8 (by omega) (by omega)
  obtain ⟨u2, q2, D2⟩ := D1.ch hR (z := 97 + k) (by omega) (by rw [ln_app]; omega)
  obtain ⟨u3, q3, D3⟩ := D2.ch hR (z := 32) (by omega) (by rw [len_s, ln_app]; omega)
  obtain ⟨u4, q4, D4⟩ := D3.dg hR (z := tr / 4) (by omega) (by rw [len_s, len_s, ln_app]; omega)
  obtain ⟨u9, q9, D9⟩ := pl3_rt (k212 := k212) (x0 := x0) (x1 := x1) (x2 := x2) (x3 := x3) (x4 := x4) (x6 := x6) (x7 := x7) hR D4 (by rw [len_s, len_s, len_s, ln_app]; omega) ht hsh k0 k2
  rw [show ((((8 : Nat)) : Int)) = 8 from rfl, show -(2 + 2 * (8 : Int)) = -18 from rfl] at q1
  have hl' : l ++ fBytes 8 ++ [97 + k] ++ [32] ++ [48 + tr / 4] ++ [32] ++ [48 + tr % 4] ++ [32] ++ fBytes sh.toNat ++ [59] = l ++ plB k (tr / 4) (tr % 4) sh := by
    unfold plB
    simp only [List.append_assoc]
  rw [hl'] at D9
  have hdv : w32 (tr.tdiv 4) = tr / 4 := by rw [Int.tdiv_eq_ediv_of_nonneg (by omega), w32_eq (by omega) (by omega)]
  refine ⟨u9, ?_, ?_⟩
  · unfold PL2
    rw [KD_go hC.bk, q1]
    simp only [CLZ, CLX_rt]
    rw [KD_go D1.bk, w32_eq (z := 97 + k) (by omega) (by omega), bC_b (by omega), q2]
    simp only [CLX_rt]
    rw [KD_go D2.bk, q3]
    simp only [CLX_rt]
    rw [DV_of (by omega), hdv, KD_go D3.bk, q4]
    simp only [CLX_rt]
    exact q9
  · obtain ⟨a1, a2, ⟨a3, a4⟩, a5⟩ := D9
    exact ⟨a1, a2, ⟨by omega, by omega⟩, a5⟩
theorem CLZ_rt {v : Int} {μ : Mem} {K : Int → Mem → Rz} : CLZ (RT v μ) K = K v μ := rfl
theorem pl1_ab {k212 : Int → Int → Int → Int → Int → Int → Int → Int → Int → Mem → Rz} {x0 x1 x2 x3 x4 x5 v z1 tr sh s2 : Int} {ν1 ν1' ν2 : Mem} {a d : Int} (hc : FL_cell x0 (w32 (2 + k)) μ = RT v μ) (h15 : FL_bound v 15 μ = RT z1 μ) (htr : w32 (1 + z1) = tr) (h5 : FL_bound (bShr v 5) 4 μ = RT sh μ) (hdv : w32 (tr.tdiv 4) = a) (hrm : tr.tmod 4 = d) (e1 : ∀ K, NWn 8 7 μ K = K s2 ν1) (g1 : ν1 s2 (-1) = 8 + 1) (e2 : FX8_init s2 a d sh ν1 = RT 0 ν1') (hL1 : ν1' L (-1) = 11 + 1) (e3 : FJx4a65c_add_9ea2d L s2 ν1' = RT 1 ν2) : PL1 k212 x0 x1 x2 x3 x4 x5 T L k μ = PL2 k212 x0 x1 x2 x3 x4 x5 T L k tr sh ν2 := by
  unfold PL1
  rw [hc, CLZ_rt, h15, CLZ_rt, LT_eq, htr, hc, CLZ_rt, h5, CLZ_rt, e1, DV_of (by decide), hdv, RM_of (by decide), hrm, KD_go g1, e2, CLZ_rt, KD_go hL1, e3, CLZ_rt]
theorem pl1_rt {k212 : Int → Int → Int → Int → Int → Int → Int → Int → Int → Mem → Rz} {x1 x2 x3 x4 x5 : Int} {ν1 ν1' ν2 : Mem} {a d : Int} (hF : Fx sc n μ) (k0 : 0 ≤ k) (k2 : k < 4) (hT1 : 1 ≤ Trn sc n k ∧ Trn sc n k ≤ 15) (eA : a = Trn sc n k / 4) (eB : d = Trn sc n k % 4) (e1 : ∀ K, NWn 8 7 μ K = K (μ 0 3) ν1) (g1 : ν1 (μ 0 3) (-1) = 9) (e2 : FX8_init (μ 0 3) a d (Shp sc n k) ν1 = RT 0 ν1') (hL1 : ν1' L (-1) = 12) (e3 : FJx4a65c_add_9ea2d L (μ 0 3) ν1' = RT 1 ν2) : PL1 k212 (-21) x1 x2 x3 x4 x5 T L k μ = PL2 k212 (-21) x1 x2 x3 x4 x5 T L k (Trn sc n k) (Shp sc n k) ν2 := by
  have hdv : w32 ((Trn sc n k).tdiv 4) = a := by
    rw [Int.tdiv_eq_ediv_of_nonneg (by omega), w32_eq (by omega) (by omega), eA]
  have hrm : (Trn sc n k).tmod 4 = d := by
    rw [tmod_small (by omega), eB]
  have htr : w32 (1 + bnd (cel sc n (2 + k)) 15) = Trn sc n k := by
    have h1 : Trn sc n k = 1 + bnd (cel sc n (2 + k)) 15 := by rw [Trn]
    rw [← h1, w32_eq (by omega) (by omega)]
  have h2 : Shp sc n k = bnd (bShr (cel sc n (2 + k)) 5) 4 := by rw [Shp]
  have hw2 : w32 (2 + k) = 2 + k := w32_eq (by omega) (by omega)
  exact pl1_ab (by rw [hw2]; exact cell_law hF (by omega)) (bound_rt (by decide)) htr (by rw [h2]; exact bound_rt (by decide)) hdv hrm e1 g1 e2 hL1 e3
theorem shp_le {S : Int → Int} (hS : S = Shp sc n) (k : Int) : 0 ≤ S k ∧ S k ≤ 3 := by
  have := bnd_le (v := bShr (cel sc n (2 + k)) 5) (m := 4) (by omega)
  rw [hS]
  unfold Shp
  omega
theorem trn_le : 1 ≤ Trn sc n k ∧ Trn sc n k ≤ 15 := by
  have ht := bnd_le (v := cel sc n (2 + k)) (m := 15) (by omega)
  unfold Trn
  omega
theorem plate_law (hC : Core sc n b (Rtt T w h L dig A B S k) c s l μ) (hX : Ptx l w h lim dig A B S k) (hw : 1 ≤ w ∧ w ≤ 8) (hh : 1 ≤ h ∧ h ≤ 6) (k0 : 0 ≤ k) (k1 : k < many) (k2 : k < 4) (hA : A = fun k => Trn sc n k / 4) (hB : B = fun k => Trn sc n k % 4) (hS : S = Shp sc n) (g : Nat) : ∃ ν l', LL_law_212 (g + 1) (-21) w h many lim b T L k μ = LL_law_212 g (-21) w h many lim b T L (k + 1) ν ∧ Core sc n b (Rtt T w h L dig A B S (k + 1)) (c + 720) (s + 210000) l' ν ∧ Ptx l' w h lim dig A B S (k + 1) := by
  have hT1 := trn_le (sc := sc) (n := n) (k := k)
  have eA : A k = Trn sc n k / 4 := by rw [hA]
  have eB : B k = Trn sc n k % 4 := by rw [hB]
  have eS : S k = Shp sc n k := by rw [hS]
  have hS3 := shp_le hS
  have hsk := hS3 k
  have hyw := mul_le_of (a := h) (b := w + 1) (c := 6) (d := 9) (by omega) (by omega) (by omega) (by omega)
  have hp := Pos_ge (S := S) (p0 := 26 + h * (w + 1)) hS3 k0
  have hlen := hX.1
  have hF := hC.1
  obtain ⟨ν1, ν2, e1, g1, ⟨ν1', e2, hL1, e3⟩, hC2⟩ := screen_go hC (by omega) k0 (by omega) (by omega) (by omega) (by omega) hsk
  have hR : Stb b (Rtt T w h L dig A B S (k + 1)) := Rtt.st (by omega)
  have hl2 : (l.length : Int) ≤ 180 := by omega
  obtain ⟨u9, q9, D9⟩ := pl2_rt (k212 := fun y0 y1 y2 y3 y4 y5 y6 y7 y8 ν => LL_law_212 g y0 y1 y2 y3 y4 y5 y6 y7 y8 ν) (x0 := -21) (x1 := w) (x2 := h) (x3 := many) (x4 := lim) (x6 := T) (x7 := L) (tr := Trn sc n k) hR hC2 hl2 hT1 hsk k0 k2
  rw [eS] at e2
  rw [← eA, ← eB] at D9
  have q1 := pl1_rt (k212 := fun y0 y1 y2 y3 y4 y5 y6 y7 y8 ν => LL_law_212 g y0 y1 y2 y3 y4 y5 y6 y7 y8 ν) (x1 := w) (x2 := h) (x3 := many) (x4 := lim) (x5 := b) (T := T) (L := L) hF k0 k2 hT1 eA eB e1 g1 e2 hL1 e3
  have q0 := law_cut (fun y0 y1 y2 y3 y4 y5 y6 y7 y8 ν => LL_law_212 g y0 y1 y2 y3 y4 y5 y6 y7 y8 ν) (-21) w h many lim b T L k μ
  rw [if_neg (by omega)] at q0
  rw [← eS] at q1
  refine ⟨u9, _, ?_, ?_, hX.nx (by omega) (by omega) k0 hS3⟩
  · exact (LL_212_s g _ _ _ _ _ _ _ _ _ _).trans (q0.trans (q1.trans q9))
  · obtain ⟨a1, a2, ⟨a3, a4⟩, a5⟩ := D9
    exact ⟨a1, a2, ⟨by omega, by omega⟩, a5⟩
theorem plates_law (hw : 1 ≤ w ∧ w ≤ 8) (hh : 1 ≤ h ∧ h ≤ 6) (hm : many ≤ 4) (hA : A = fun k => Trn sc n k / 4) (hB : B = fun k => Trn sc n k % 4) (hS : S = Shp sc n) : ∀ (m g : Nat) (k c s : Int) (μ : Mem) (l : List Int), k + m = many → m < g → 0 ≤ k → Core sc n b (Rtt T w h L dig A B S k) c s l μ → Ptx l w h lim dig A B S k → ∃ ν l' kk, LL_law_212 g (-21) w h many lim b T L k μ = BL_law_212 kk (-21) w h many lim b T L many ν ∧ Core sc n b (Rtt T w h L dig A B S many) (c + 720 * m) (s + 210000 * m) l' ν ∧ Ptx l' w h lim dig A B S many
  | m, 0, k, c, s, μ, l, _, h2, _, _, _ => by omega
  | 0, g + 1, k, c, s, μ, l, h1, h2, k0, hC, hX => by
    have ek : k = many := by omega
    rw [ek] at hC hX
    exact ⟨μ, l, _, by rw [ek]; rfl, by simpa using hC, hX⟩
  | m + 1, g + 1, k, c, s, μ, l, h1, h2, k0, hC, hX => by
    obtain ⟨ν, l1, e1, hC1, hX1⟩ := plate_law (many := many) hC hX hw hh k0 (by omega) (by omega) hA hB hS g
    obtain ⟨ν2, l2, kk, e2, hC2, hX2⟩ := plates_law hw hh hm hA hB hS m g (k + 1) (c + 720) (s + 210000) ν l1 (by omega) (by omega) (by omega) hC1 hX1
    exact ⟨ν2, l2, kk, e1.trans e2, by rw [show c + 720 * ((m + 1 : Nat) : Int) = c + 720 + 720 * m by omega, show s + 210000 * ((m + 1 : Nat) : Int) = s + 210000 + 210000 * m by omega]; exact hC2, hX2⟩
end PLW
