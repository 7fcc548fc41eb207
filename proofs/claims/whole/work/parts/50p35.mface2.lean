/-! the reference's face: off, copies, find, checksum -/
section MF2
variable {μ : Mem} {c u p fed fa : Int} {h : Int → Row} {tx : Int → Int}
theorem moff_rt (hI : MIv μ c u h tx fed fa) {p b : Int} : ∃ v ν, FX7_off 105 p b μ = RT v ν ∧ ((isPl (h 0) p ∧ 0 ≤ b ∧ b < blks (h 0) p) → v = offV (h 0) p b) ∧ MOk μ ν c u h tx fed fa (if isPl (h 0) p then (if 0 ≤ b ∧ b < blks (h 0) p then 0 else 2) else 1) := by
  have ho := hI.o
  have hc := ho.1.1
  have h0 := ho.2.2
  unfold FX7_off BX7_off_0 BX7_off_38
  rw [hI.1.1.p7_0, hc.1.k7, isPlate_rt hc]
  simp only [CL, ↓CLX_rt]
  rw [hc.1.k7, right_rt hc.1 h0 (by decide)]
  by_cases e : isPl (h 0) p
  · have hr := hc.ok
    have hr1 := hr.1
    have hr2 := hr.2.1
    have hbl : 0 ≤ blks (h 0) p ∧ blks (h 0) p ≤ 192 := by
      have hq := rQ_le (hr.2.2.2.2 p e.1 e.2)
      have d1 : 0 ≤ h 0 0 / rQ (h 0) p ∧ h 0 0 / rQ (h 0) p ≤ 16 := ⟨Int.ediv_nonneg (by omega) (by omega), Int.le_trans (Int.ediv_le_self _ (by omega)) (by omega)⟩
      have d2 : 0 ≤ h 0 1 / rQ (h 0) p ∧ h 0 1 / rQ (h 0) p ≤ 12 := ⟨Int.ediv_nonneg (by omega) (by omega), Int.le_trans (Int.ediv_le_self _ (by omega)) (by omega)⟩
      exact mul_le_of d1.1 d1.2 d2.1 d2.2
    rw [if_pos e, if_pos e]
    simp only [↓CLX_rt]
    rw [if_neg (by decide), hc.1.k7, mblocks_rt hc e]
    simp only [↓CLX_rt]
    rw [isIn_rt]
    simp only [↓CLX_rt]
    rw [hc.1.k7, right_rt hc.1 h0 (by decide), w32_eq (by omega) (by omega)]
    by_cases e2 : 0 ≤ b ∧ b < blks (h 0) p
    · obtain ⟨ν, e1, hz⟩ := lays_p hc ho.1.2.2
      have hc2 := hz.2.1
      have hS2 := hc2.1
      have k7 := @MSh.k7 ν hS2
      have hb := blk_at hr e e2.1 e2.2
      have hq := rQ_le (hr.2.2.2.2 p e.1 e.2)
      refine ⟨offV (h 0) p b, ν, ?_, fun _ => rfl, by rw [if_pos e2]; exact ho.tl hz.tl⟩
      have eA : w32 ((h 0 0).tdiv (rQ (h 0) p)) = h 0 0 / rQ (h 0) p := by
        rw [Int.tdiv_eq_ediv_of_nonneg (by omega)]
        have := Int.ediv_le_self (rQ (h 0) p) (show 0 ≤ h 0 0 by omega)
        exact w32_eq (by omega) (by omega)
      have hd0 : 0 ≤ b / (h 0 0 / rQ (h 0) p) := Int.ediv_nonneg e2.1 (by omega)
      have hd1 : b / (h 0 0 / rQ (h 0) p) ≤ b := Int.ediv_le_self _ e2.1
      have eB : w32 (b.tdiv (h 0 0 / rQ (h 0) p)) = b / (h 0 0 / rQ (h 0) p) := by
        rw [Int.tdiv_eq_ediv_of_nonneg e2.1]
        exact w32_eq (by omega) (by omega)
      have eM : b.tmod (h 0 0 / rQ (h 0) p) = b % (h 0 0 / rQ (h 0) p) := tmod_small e2.1
      rw [if_pos (by omega)]
      simp only [↓CLX_rt]
      rw [if_pos (by decide), hc.1.k7, e1]
      simp only [↓CLX_rt]
      rw [hS2.k7, square_rt hc2 e]
      simp only [↓CLX_rt]
      rw [hS2.k7, wide_rt hc2]
      simp only [↓CLX_rt]
      rw [DV_of (by omega), eA, RM_of (by omega), eM, LT_eq, hS2.k7, wide_rt hc2]
      simp only [↓CLX_rt]
      rw [DV_of (by omega), eA, DV_of (by omega), eB, LT_eq, Int.mul_comm (rQ (h 0) p) (b % _), Int.mul_comm (rQ (h 0) p) (b / _)]
      unfold offV
      generalize hL : b % (h 0 0 / rQ (h 0) p) * rQ (h 0) p = l at *
      generalize hTt : b / (h 0 0 / rQ (h 0) p) * rQ (h 0) p = t at *
      rw [w32_eq (z := l) (by omega) (by omega), w32_eq (z := t) (by omega) (by omega)]
      unfold offO
      have hm := dblT (fun n y0 y1 y2 y3 y4 y5 y6 ξ => LX7_off_81 n y0 y1 y2 y3 y4 y5 y6 ξ) (fun k s y => k 105 p (rQ (h 0) p) l t s (t + y) ν) (fun k n s y x => LX7_off_94 k n 105 p (rQ (h 0) p) l t s (t + y) (l + x) ν) (rQ (h 0) p) (rQ (h 0) p) 100 (fun i j => 100 * b2 (dotAt (h 0) p (l + i) (t + j)) - tnOn (h 0) p (l + i) (t + j)) (fun v => RT v ν) (by omega) (by omega) (by omega) (by omega) (by omega) (fun x y x0 x1 y0 y1 => by
        have h1 := b2_0 (q := dotAt (h 0) p (l + x) (t + y))
        have h2 := tnOn_le hr (p := p) (x := l + x) (y := t + y) (by omega) (by omega) (by omega) (by omega)
        omega) (fun n s y y0 y1 => ?_) (fun n s => ?_) (fun k n s y x y0 y1 x0 x1 s0 s1 => ?_) (fun k n s y y0 y1 => ?_) FU (by rw [show ((FU : Nat) : Int) = 20000 from rfl]; omega)
      · simp only [Int.add_zero] at hm
        exact hm
      · have hx : ¬ t + rQ (h 0) p ≤ t + y := by omega
        simp (disch := omega) only [LX7_off_81, BX7_off_81, w32_eq, hx, ↓reduceIte, Int.add_zero]
      · simp (disch := omega) only [LX7_off_81, BX7_off_81, w32_eq, Int.le_refl, ↓reduceIte]
      · have hx : ¬ l + rQ (h 0) p ≤ l + x := by omega
        have ht := tnOn_le hr (p := p) (show 0 ≤ l + x by omega) (show l + x < h 0 0 by omega) (show 0 ≤ t + y by omega) (show t + y < h 0 1 by omega)
        have ei : w32 (w32 (w32 (192 * p) + w32 (16 * (t + y))) + (l + x)) = 192 * p + (16 * (t + y) + (l + x)) := by rw [w32_eq (z := 192 * p) (by omega) (by omega), w32_eq (z := 16 * (t + y)) (by omega) (by omega), w32_eq (z := 192 * p + 16 * (t + y)) (by omega) (by omega), w32_eq (by omega) (by omega)]; omega
        have vt := hz.2.2.1.2.2 p e.1 e.2 (l + x) (t + y) (by omega) (by omega) (by omega) (by omega)
        simp (disch := omega) only [LX7_off_94, BX7_off_94, BX7_off_123, ↓w32_eq (z := l + rQ (h 0) p), hx, ↓reduceIte, ↓k7, ↓CL, ↓mhasDot_rt_c hc2 hz.2.2.1.1, ↓hS2.g7_8]
        by_cases hs : dotAt (h 0) p (l + x) (t + y)
        · rw [b2_t hs, if_neg (by decide), ei, hS2.l111 (by omega) (by omega), vt, LT_eq, w32_eq (z := 100 - _) (by omega) (by omega), w32_eq (by omega) (by omega), w32_eq (by omega) (by omega), Int.add_assoc l]
          rfl
        · rw [b2_f hs, if_pos rfl, ei, hS2.l111 (by omega) (by omega), vt, LT_eq, w32_eq (z := 0 - _) (by omega) (by omega), w32_eq (by omega) (by omega), w32_eq (by omega) (by omega), Int.add_assoc l]
          rfl
      · simp (disch := omega) only [LX7_off_94, BX7_off_94, w32_eq, Int.le_refl, ↓reduceIte, Int.add_assoc]
    · refine ⟨0, _, ?_, fun k => absurd k.2 e2, by rw [if_neg e2]; exact MOk.thr ho.1 ho.2.1 2⟩
      rw [if_neg (by omega)]
      rfl
  · refine ⟨0, _, ?_, fun k => absurd k.1 e, by rw [if_neg e]; exact MOk.thr ho.1 ho.2.1 1⟩
    rw [if_neg e]
    rfl
theorem possible_rt (hc : Mc μ c u h) (hl : MFl μ (h 0)) : ∃ ν, FX7_possible 105 μ = RT (cpV (h 0)) ν ∧ TlP μ ν c u h := by
  have hr := hc.ok
  have hr2 := hr.2.1
  unfold FX7_possible BX7_possible_0
  refine lpR (fun n x (s : Int × Mem) => LX7_possible_4 n 105 s.1 x s.2) (fun x s => 0 ≤ x ∧ s.1 = cpN (h 0) x.toNat ∧ TlP μ s.2 c u h) (h 0 2) (fun R => ∃ ν, R = RT (cpV (h 0)) ν ∧ TlP μ ν c u h) (fun n x s x1 hs => ?_) (fun n s hs => ?_) FU 0 (-1, μ) hr2.1 (by rw [show ((FU : Nat) : Int) = 20000 from rfl]; omega) ⟨Int.le_refl _, rfl, TlP.rf hc hl⟩
  · obtain ⟨m, s⟩ := s
    obtain ⟨x0, g1, g2⟩ := hs
    have g1 : m = cpN (h 0) x.toNat := g1
    have g2 : TlP μ s c u h := g2
    obtain ⟨ν, e, hz⟩ := mdots_rt (p := x) g2.2.1 g2.2.2.1
    have hcs := g2.2.1
    have hc2 := hz.2.1
    have k7 := @MSh.k7 s hcs.1
    have k72 := @MSh.k7 ν hc2.1
    have hx : ¬ h 0 2 ≤ x := by omega
    have hd := dotsOf_le hr x
    have hn := cpN_le hr x.toNat (by omega)
    have hi := (hr.2.2.2.2 x x0 x1).2.2.2.1
    have hxt : ((x.toNat : Nat) : Int) = x := by omega
    have hx1 : (x + 1).toNat = x.toNat + 1 := by omega
    by_cases hz0 : dotsOf (h 0) x = 0
    · refine ⟨(m, ν), ⟨by omega, ?_, g2.tr hz.tl⟩, ?_⟩
      · show m = _
        rw [hx1, cpN, hxt, if_pos hz0, g1]
      · simp (disch := omega) only [LX7_possible_4, BX7_possible_4, BX7_possible_54, ↓k7, CL, ↓mplates_rt_c hcs, hx, ↓reduceIte, e, CLX_rt, hz0, not_true_eq_false, w32_eq]
    · have h1 : rO (h 0) x 12 / dotsOf (h 0) x ≤ rO (h 0) x 12 := Int.ediv_le_self _ hi.1
      have h2 : 0 ≤ rO (h 0) x 12 / dotsOf (h 0) x := Int.ediv_nonneg hi.1 hd.1
      have ed : w32 ((rO (h 0) x 12).tdiv (dotsOf (h 0) x)) = rO (h 0) x 12 / dotsOf (h 0) x := by
        rw [Int.tdiv_eq_ediv_of_nonneg hi.1, w32_eq (by omega) (by omega)]
      have estep : LX7_possible_4 (n + 1) 105 m x s = if m = -1 then LX7_possible_4 n 105 (rO (h 0) x 12 / dotsOf (h 0) x) (x + 1) ν else if m ≤ rO (h 0) x 12 / dotsOf (h 0) x then LX7_possible_4 n 105 m (x + 1) ν else LX7_possible_4 n 105 (rO (h 0) x 12 / dotsOf (h 0) x) (x + 1) ν := by
        simp (disch := omega) only [LX7_possible_4, BX7_possible_4, BX7_possible_54, BX7_possible_53, BX7_possible_47, ↓k7, CL, ↓mplates_rt_c hcs, hx, ↓reduceIte, e, CLX_rt, hz0, not_false_eq_true, ↓k72, of_rt hc2 x0 (show x < 4 by omega), DV_of, ed, w32_eq]
      refine ⟨(if m = -1 then rO (h 0) x 12 / dotsOf (h 0) x else mn m (rO (h 0) x 12 / dotsOf (h 0) x), ν), ⟨by omega, ?_, g2.tr hz.tl⟩, ?_⟩
      · show (if m = -1 then _ else _) = _
        rw [hx1, cpN, hxt, if_neg hz0, ← g1]
      · show LX7_possible_4 (n + 1) 105 m x s = LX7_possible_4 n 105 (if m = -1 then _ else _) (x + 1) ν
        rw [estep]
        by_cases q1 : m = -1
        · rw [if_pos q1, if_pos q1]
        · rw [if_neg q1, if_neg q1]
          unfold mn
          by_cases q2 : m ≤ rO (h 0) x 12 / dotsOf (h 0) x
          · rw [if_pos q2, if_neg (by omega)]
          · rw [if_neg q2, if_pos (by omega)]
  · obtain ⟨m, s⟩ := s
    obtain ⟨x0, g1, g2⟩ := hs
    have g1 : m = cpN (h 0) (h 0 2).toNat := g1
    have g2 : TlP μ s c u h := g2
    have hcs := g2.2.1
    have k7 := @MSh.k7 s hcs.1
    refine ⟨s, ?_, g2⟩
    simp (disch := omega) only [LX7_possible_4, BX7_possible_4, ↓k7, CL, ↓mplates_rt_c hcs, Int.le_refl, ↓reduceIte]
    rw [g1]
    rfl
theorem mcopies_rt (hI : MIv μ c u h tx fed fa) : ∃ ν, FX7_copies 105 μ = RT (cpV (h 0)) ν ∧ MOk μ ν c u h tx fed fa 0 := by
  have ho := hI.o
  have hc := ho.1.1
  obtain ⟨ν, e, hz⟩ := possible_rt hc ho.1.2.2
  refine ⟨ν, ?_, ho.tl hz⟩
  unfold FX7_copies BX7_copies_0
  rw [hI.1.1.p7_0, hc.1.k7, e]
  rfl
/-- a plate has the name of the first n bytes -/
theorem nm_iff {r : Row} {f : Int → Int} (hr : okRow r) (hp : isPl r p) (hf : ∀ j, 0 ≤ f j ∧ f j ≤ 255) {n : Int} (n0 : 0 ≤ n) : nmO r p = pk f n.toNat ↔ (rO r p 0 = n ∧ ∀ j, 0 ≤ j → j < n → rO r p (1 + j) = f j) := by
  have ho := (hr.2.2.2.2 p hp.1 hp.2).2.2.2.2.2.2
  rw [nmO_pk]
  constructor
  · intro e
    obtain ⟨e1, e2⟩ := pk_inj _ _ (fun j j0 j1 => by have := ho.2.2 j j0 (by omega); omega) (fun j _ _ => hf j) e
    exact ⟨by omega, fun j j0 j1 => e2 j j0 (by omega)⟩
  · rintro ⟨e1, e2⟩
    rw [e1]
    exact pk_ext _ fun j j0 j1 => e2 j j0 (by omega)
theorem mfind_rt (hI : MIv μ c u h tx fed fa) (htx : ∀ k, 0 ≤ tx k ∧ tx k ≤ 255) {n : Int} : ∃ v ν, FX7_find 105 n μ = RT v ν ∧ ((0 ≤ n ∧ n ≤ fed) → v = fnV (h 0) tx n) ∧ MOk μ ν c u h tx fed fa (if 0 ≤ n ∧ n ≤ fed then 0 else 1) := by
  have ho := hI.o
  have hc := ho.1.1
  have h0 := ho.2.2
  have hB := ho.1.2.1
  have hS := hc.1
  have hr := hc.ok
  have hr2 := hr.2.1
  unfold FX7_find BX7_find_0
  rw [hI.1.1.p7_0, hS.g7_12, hB.2.1.1, isIn_rt]
  simp only [CL, ↓CLX_rt]
  rw [hS.k7, right_rt hS h0 (by decide)]
  by_cases e : 0 ≤ n ∧ n ≤ fed
  · refine ⟨fnV (h 0) tx n, _, ?_, fun _ => rfl, by rw [if_pos e]; exact ho⟩
    rw [if_pos e]
    simp only [↓CLX_rt]
    rw [if_pos (by decide)]
    have hfn : fnV (h 0) tx n = fdV (h 0) (pk tx n.toNat) := by
      unfold fnV
      by_cases q : 1 ≤ n ∧ n ≤ 6
      · rw [if_pos q]
      · rw [if_neg q]
        unfold fdV
        have : ∀ (k : Nat) (p : Int), 0 ≤ p → p + k = h 0 2 → fdA (h 0) (pk tx n.toNat) k p = -1 := by
          intro k
          induction k with
          | zero => intro p _ _; rfl
          | succ k ih =>
            intro p p0 hk
            rw [fdA, if_neg (fun e9 => by
              have h1 := ((nm_iff hr ⟨p0, by omega⟩ htx e.1).mp e9).1
              have h2 := (hr.2.2.2.2 p p0 (by omega)).2.2.2.2.2.2
              omega)]
            exact ih (p + 1) (by omega) (by omega)
        exact (this (h 0 2).toNat 0 (Int.le_refl _) (by omega)).symm
    rw [hfn]
    unfold fdV
    generalize mUp μ 105 0 0 = ν at *
    have hgo : ∀ (k m : Nat) (p : Int), 0 ≤ p → p + k = h 0 2 → k < m → LX7_find_26 m 105 n p ν = RT (fdA (h 0) (pk tx n.toNat) k p) ν := by
      intro k
      induction k with
      | zero =>
        intro m p p0 hp hk
        obtain ⟨m, rfl⟩ : ∃ q, m = q + 1 := ⟨m - 1, by omega⟩
        have k1 : h 0 2 ≤ p := by omega
        unfold LX7_find_26 BX7_find_26
        rw [hS.k7, mplates_rt hc]
        simp only [CL, ↓CLX_rt]
        rw [if_pos k1]
        rfl
      | succ k ih =>
        intro m p p0 hp hk
        obtain ⟨m, rfl⟩ : ∃ q, m = q + 1 := ⟨m - 1, by omega⟩
        have k1 : ¬ h 0 2 ≤ p := by omega
        have hpl : isPl (h 0) p := ⟨p0, by omega⟩
        have hnm := nm_iff hr hpl htx e.1
        have ho1 := (hr.2.2.2.2 p p0 (by omega)).2.2.2.2.2.2
        have ihn := ih m (p + 1) (by omega) (by omega) (by omega)
        unfold LX7_find_26 BX7_find_26
        rw [hS.k7, mplates_rt hc]
        simp only [CL, ↓CLX_rt]
        rw [if_neg k1, hS.k7, of_rt hc p0 (by omega) (by omega) (by omega)]
        simp only [↓CLX_rt]
        rw [fdA]
        -- the inner loop over the letters
        have hin0 : ∀ (K : Int → Int → Int → Mem → Rz) (j : Int) (m : Nat), LX7_find_53 K (m + 1) 105 n p 0 j ν = K 105 n (w32 (p + 1)) ν := fun K j m => by
          unfold LX7_find_53 BX7_find_53 BX7_find_94
          by_cases q : n ≤ j
          · rw [if_pos q, if_pos rfl]
          · rw [if_neg q, if_pos rfl, if_pos rfl]
        have hw1 : w32 (p + 1) = p + 1 := w32_eq (by omega) (by omega)
        by_cases q1 : rO (h 0) p 0 = n
        · rw [if_neg (fun k => k q1)]
          have hin1 : ∀ (K : Int → Int → Int → Mem → Rz) (t : Nat) (j : Int) (m : Nat), 0 ≤ j → j + t = n → t + 1 < m → (∀ i, 0 ≤ i → i < j → rO (h 0) p (1 + i) = tx i) → LX7_find_53 K m 105 n p 1 j ν = if nmO (h 0) p = pk tx n.toNat then RT p ν else K 105 n (p + 1) ν := by
            intro K t
            induction t with
            | zero =>
              intro j m j0 hj hm hall
              obtain ⟨m, rfl⟩ : ∃ q, m = q + 1 := ⟨m - 1, by omega⟩
              rw [if_pos (hnm.mpr ⟨q1, fun i i0 i1 => hall i i0 (by omega)⟩)]
              unfold LX7_find_53 BX7_find_53 BX7_find_94
              rw [if_pos (by omega), if_neg (by decide)]
            | succ t iht =>
              intro j m j0 hj hm hall
              obtain ⟨m, rfl⟩ : ∃ q, m = q + 1 := ⟨m - 1, by omega⟩
              have vt := hB.2.2 j j0 (by omega)
              unfold LX7_find_53 BX7_find_53 BX7_find_87
              rw [if_neg (by omega), if_neg (by decide), hS.k7, w32_eq (z := 1 + j) (by omega) (by omega), of_rt hc p0 (by omega) (by omega) (by omega)]
              simp only [CL, ↓CLX_rt]
              rw [hS.g7_11, hS.l113 j0 (by have := hB.1; omega), vt, w32_eq (by omega) (by omega)]
              by_cases q2 : rO (h 0) p (1 + j) = tx j
              · rw [if_neg (fun k => k q2)]
                exact iht (j + 1) m (by omega) (by omega) (by omega) fun i i0 i1 => by
                  by_cases e9 : i = j
                  · rw [e9, q2]
                  · exact hall i i0 (by omega)
              · obtain ⟨m, rfl⟩ : ∃ q, m = q + 1 := ⟨m - 1, by omega⟩
                rw [if_pos q2, if_neg (fun k => q2 ((hnm.mp k).2 j j0 (by omega))), hin0, hw1]
          unfold BX7_find_49
          rw [hin1 _ n.toNat 0 FU (Int.le_refl _) (by omega) (by show n.toNat + 1 < 20000; omega) (fun i i0 i1 => by omega)]
          by_cases q3 : nmO (h 0) p = pk tx n.toNat
          · rw [if_pos q3, if_pos q3]
          · rw [if_neg q3, if_neg q3]
            exact ihn
        · rw [if_pos q1, if_neg (fun k => q1 (hnm.mp k).1)]
          unfold BX7_find_49
          rw [show FU = 19999 + 1 from rfl, hin0, hw1]
          exact ihn
    exact hgo (h 0 2).toNat FU 0 (Int.le_refl _) (by omega) (by show (h 0 2).toNat < 20000; omega)
  · refine ⟨0, _, ?_, fun k => absurd k e, by rw [if_neg e]; exact MOk.thr ho.1 ho.2.1 1⟩
    rw [if_neg e]
    rfl
theorem mchecksum_rt (hI : MIv μ c u h tx fed fa) : ∃ ν, FX7_checksum 105 μ = RT (csV (h 0)) ν ∧ MOk μ ν c u h tx fed fa 0 := by
  have ho := hI.o
  have hc := ho.1.1
  have hr := hc.ok
  have hr1 := hr.1
  have hr2 := hr.2.1
  obtain ⟨ν0, e0, hz0⟩ := lays_p hc ho.1.2.2
  have ho1 := ho.tl hz0.tl
  unfold FX7_checksum BX7_checksum_0
  rw [hI.1.1.p7_0, hc.1.k7, e0]
  simp only [CL, ↓CLX_rt]
  have hjn : ∀ s v ξ, FX7_joins s v ξ = RT (jn s v) ξ := fun s v ξ => rfl
  have hjc : ∀ s v (ξ : Mem) (K : Int → Mem → Rz) (X : Int → Int → Mem → Rz), CLX (FX7_joins s v ξ) K X = K (jn s v) ξ := fun s v ξ K X => rfl
  -- the flag stays set
  refine lpR (fun n x (s : Int × Mem) => LX7_checksum_13 n 105 s.1 x s.2) (fun x s => 0 ≤ x ∧ s.1 = cs1 (h 0) x.toNat ∧ TlP ν0 s.2 c u h) 9 (fun R => ∃ ν, R = RT (csV (h 0)) ν ∧ MOk μ ν c u h tx fed fa 0) (fun n x s x1 hs => ?_) (fun n s hs => ?_) FU 0 (0, ν0) (by omega) (by rw [show ((FU : Nat) : Int) = 20000 from rfl]; omega) ⟨Int.le_refl _, rfl, TlP.rf hz0.2.1 hz0.fl⟩
  · obtain ⟨a, s⟩ := s
    obtain ⟨x0, g1, g2⟩ := hs
    have g1 : a = cs1 (h 0) x.toNat := g1
    have g2 : TlP ν0 s c u h := g2
    obtain ⟨ν, e, hz⟩ := toldOf_rt g2.2.1 g2.2.2.1 x0 (show x ≤ 8 by omega)
    have k7 := @MSh.k7 s g2.2.1.1
    have hx : ¬ 9 ≤ x := by omega
    refine ⟨(jn a (stV (h 0) x), ν), ⟨by omega, ?_, g2.tr hz⟩, ?_⟩
    · show jn a _ = _
      rw [show (x + 1).toNat = x.toNat + 1 by omega, cs1, g1, show ((x.toNat : Nat) : Int) = x by omega]
    · simp (disch := omega) only [LX7_checksum_13, BX7_checksum_13, hx, ↓reduceIte, ↓k7, CL, e, CLX_rt, hjn, w32_eq]
  · obtain ⟨a, s⟩ := s
    obtain ⟨x0, g1, g2⟩ := hs
    have g1 : a = cs1 (h 0) 9 := g1
    have g2 : TlP ν0 s c u h := g2
    have e1 : LX7_checksum_13 (n + 1) 105 a 9 s = LX7_checksum_38 FU 105 a 0 s := by
      simp only [LX7_checksum_13, BX7_checksum_13, Int.le_refl, ↓reduceIte]
    show ∃ ν, LX7_checksum_13 (n + 1) 105 a 9 s = _ ∧ _
    rw [e1]
    refine dblR (fun n y0 y1 y2 ν => LX7_checksum_38 n y0 y1 y2 ν) (fun k (s : Int × Mem) y => k 105 s.1 y s.2) (fun k n s y x => LX7_checksum_49 k n 105 s.1 y x s.2) 11 (h 0 2) (fun x y s => s.1 = cs2 (h 0) (cs3 (h 0) y.toNat) y x.toNat ∧ TlP ν0 s.2 c u h) (fun R => ∃ ν, R = RT (csV (h 0)) ν ∧ MOk μ ν c u h tx fed fa 0) (by omega) (by omega) (fun n s y y0 y1 hs => ?_) (fun n s hs => ?_) (fun k n s y x y0 y1 x0 x1 hs => ?_) (fun k n s y y0 y1 hs => ?_) FU 0 (a, s) (Int.le_refl _) hr2.1 (by rw [show ((FU : Nat) : Int) = 20000 from rfl]; omega) ⟨g1, g2⟩
    · obtain ⟨a, s⟩ := s
      obtain ⟨f1, f2⟩ := hs
      have f2 : TlP ν0 s c u h := f2
      have k7 := @MSh.k7 s f2.2.1.1
      have hy : ¬ h 0 2 ≤ y := by omega
      simp (disch := omega) only [LX7_checksum_38, BX7_checksum_38, ↓k7, ↓CL, ↓mplates_rt_c f2.2.1, hy, ↓reduceIte]
    · obtain ⟨a, s⟩ := s
      obtain ⟨f1, f2⟩ := hs
      have f1 : a = cs3 (h 0) (h 0 2).toNat := f1
      have f2 : TlP ν0 s c u h := f2
      have hc2 := f2.2.1
      have hS2 := hc2.1
      have k7 := @MSh.k7 s hS2
      have ho2 := ho1.tl f2
      have hL : Laid s (h 0) := by
        have h1 := f2.2.2.2 hz0.2.2.2
        rcases f2.2.2.1 with q | q
        · omega
        · exact q.2
      refine ⟨s, ?_, ho2⟩
      simp (disch := omega) only [LX7_checksum_38, BX7_checksum_38, ↓k7, ↓CL, ↓mplates_rt_c f2.2.1, Int.le_refl, ↓reduceIte]
      rw [f1]
      have h2 := mul_le_of (a := h 0 1) (b := h 0 0) (c := 12) (d := 16) (by omega) (by omega) (by omega) (by omega)
      refine dblR (fun n y0 y1 y2 ν => LX7_checksum_83 n y0 y1 y2 ν) (fun k a y => k 105 a y s) (fun k n a y x => LX7_checksum_94 k n 105 a y x s) (h 0 0) (h 0 1) (fun x y a => a = cs4 (h 0) (y * h 0 0 + x).toNat) (fun R => R = RT (csV (h 0)) s) (by omega) (by omega) (fun n a y y0 y1 ha => ?_) (fun n a ha => ?_) (fun k n a y x y0 y1 x0 x1 ha => ?_) (fun k n a y y0 y1 ha => ?_) FU 0 _ (Int.le_refl _) (by omega) (by rw [show ((FU : Nat) : Int) = 20000 from rfl]; omega) (by rw [Int.zero_mul]; rfl)
      · have hy : ¬ h 0 1 ≤ y := by omega
        simp (disch := omega) only [LX7_checksum_83, BX7_checksum_83, ↓k7, ↓CL, ↓high_rt_c hc2, hy, ↓reduceIte]
      · simp (disch := omega) only [LX7_checksum_83, BX7_checksum_83, ↓k7, ↓CL, ↓high_rt_c hc2, Int.le_refl, ↓reduceIte]
        rw [ha, Int.add_zero]
        rfl
      · have hx : ¬ h 0 0 ≤ x := by omega
        have hcc := cell_lt (show h 0 0 ≤ 16 by omega) (show h 0 1 ≤ 12 by omega) x0 x1 y0 y1
        have hm1 : (y * h 0 0 + x) % h 0 0 = x := by rw [Int.add_comm, Int.add_mul_emod_self_right, Int.emod_eq_of_lt x0 x1]
        have hm2 : (y * h 0 0 + x) / h 0 0 = y := by rw [Int.add_comm, Int.add_mul_ediv_right _ _ (by omega), Int.ediv_eq_zero_of_lt x0 x1]; omega
        have ec : w32 (w32 (16 * y) + x) = 16 * y + x := by rw [w32_eq (z := 16 * y) (by omega) (by omega), w32_eq (by omega) (by omega)]
        refine ⟨jn (jn a (rT (h 0) x y)) (ikA (h 0) x y), ?_, ?_⟩
        · rw [show (y * h 0 0 + (x + 1)).toNat = (y * h 0 0 + x).toNat + 1 by omega, cs4, show (((y * h 0 0 + x).toNat : Nat) : Int) = y * h 0 0 + x by omega, hm1, hm2, ha]
        · simp (disch := omega) only [LX7_checksum_94, BX7_checksum_94, ↓k7, ↓CL, ↓wide_rt_c hc2, hx, ↓reduceIte, ↓mtone_rt_c hc2, ↓hjc, ↓hS2.g7_9]
          rw [ec, hS2.l112 (by omega) (by omega), hL.1 x y x0 x1 y0 y1, w32_eq (by omega) (by omega)]
      · refine ⟨?_, ?_⟩
        · rw [ha, Int.add_mul y 1, Int.one_mul, Int.add_zero]
        · simp (disch := omega) only [LX7_checksum_94, BX7_checksum_94, ↓k7, ↓CL, ↓wide_rt_c hc2, Int.le_refl, ↓reduceIte, w32_eq]
    · obtain ⟨a, s⟩ := s
      obtain ⟨f1, f2⟩ := hs
      have f1 : a = cs2 (h 0) (cs3 (h 0) y.toNat) y x.toNat := f1
      have f2 : TlP ν0 s c u h := f2
      obtain ⟨ν, e, hz⟩ := toldOfPlate_rt f2.2.1 f2.2.2.1 (p := y) ⟨y0, y1⟩ x0 (show x ≤ 10 by omega)
      have k7 := @MSh.k7 s f2.2.1.1
      have hx : ¬ 11 ≤ x := by omega
      refine ⟨(jn a (plV (h 0) y x), ν), ⟨?_, f2.tr hz⟩, ?_⟩
      · show jn a _ = _
        rw [show (x + 1).toNat = x.toNat + 1 by omega, cs2, f1, show ((x.toNat : Nat) : Int) = x by omega]
      · simp (disch := omega) only [LX7_checksum_49, BX7_checksum_49, hx, ↓reduceIte, ↓k7, CL, e, CLX_rt, hjn, w32_eq]
    · obtain ⟨a, s⟩ := s
      obtain ⟨f1, f2⟩ := hs
      have f1 : a = cs2 (h 0) (cs3 (h 0) y.toNat) y 11 := f1
      refine ⟨⟨?_, f2⟩, ?_⟩
      · show a = _
        rw [show (y + 1).toNat = y.toNat + 1 by omega, show (0 : Int).toNat = 0 from rfl, cs2, cs3, f1, show ((y.toNat : Nat) : Int) = y by omega]
      · simp (disch := omega) only [LX7_checksum_49, BX7_checksum_49, Int.le_refl, ↓reduceIte, w32_eq]
end MF2
