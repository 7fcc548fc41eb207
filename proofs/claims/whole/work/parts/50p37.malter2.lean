/-! the reference's face: paint, dirty, clean, press -/
section MA2
variable {μ : Mem} {c u p fed fa : Int} {h : Int → Row} {tx : Int → Int}
theorem mpaint_65 {ν : Mem} (ho : MOk μ ν c u h tx fed fa 0) {x y w q t : Int} (hce : isCe (h 0) x y) {z : Prop} [Decidable z] (hz : z ↔ isPa (h 0) x y w q t) : ∃ v ξ, BX7_paint_65 105 x y w q t (b2 z) 105 ν = RT v ξ ∧ ((isPa (h 0) x y w q t ∧ v = dotsAll (paintR (h 0) x y w q t) ∧ MCh μ ξ u h (paintR (h 0) x y w q t) tx fed fa) ∨ (¬ isPa (h 0) x y w q t ∧ MOk μ ξ c u h tx fed fa 2)) := by
  have hc := ho.1.1
  have h0 := ho.2.2
  unfold BX7_paint_65 BX7_paint_72
  rw [hc.1.k7, right_rt hc.1 h0 (by decide)]
  by_cases e : isPa (h 0) x y w q t
  · obtain ⟨s1, e1, hI1, f1, z1, h10, -⟩ := change_rt ho.1
    have hc1 := hI1.1
    have hS1 := hc1.1
    have hr : okRow (h 0) := hc1.ok
    have hr1 := hr.1
    have cd := hc1.2.1
    generalize hd : (c + 1) % 9 = d at *
    rw [if_pos (hz.mpr e)]
    simp only [CL, ↓CLX_rt]
    rw [if_pos (by decide), hc.1.k7, e1]
    simp only [↓CLX_rt]
    have hgo := dblR (fun n y0 y1 y2 y3 y4 y5 y6 ν => LX7_paint_81 n y0 y1 y2 y3 y4 y5 y6 ν) (fun k s j => k 105 x y w q t (y + j) s) (fun k n s j i => LX7_paint_93 k n 105 x y w q t (y + j) (x + i) s) w q (fun i j s => (∀ z k, ¬ (z = 106 ∧ 5100 * d ≤ k ∧ k < 5100 * d + 5100) → s z k = s1 z k) ∧ ∀ k, 0 ≤ k → k < 5100 → s 106 (5100 * d + k) = if (4 ≤ k ∧ k < 196) ∧ (x ≤ (k - 4) % 16 ∧ (k - 4) % 16 < x + w) ∧ y ≤ (k - 4) / 16 ∧ ((k - 4) / 16 < y + j ∨ ((k - 4) / 16 = y + j ∧ (k - 4) % 16 < x + i)) then t else h 0 k) (fun R => ∃ v ξ, R = RT v ξ ∧ ((isPa (h 0) x y w q t ∧ v = dotsAll (paintR (h 0) x y w q t) ∧ MCh μ ξ u h (paintR (h 0) x y w q t) tx fed fa) ∨ (¬ isPa (h 0) x y w q t ∧ MOk μ ξ c u h tx fed fa 2))) (by omega) (by omega) (fun n s j j0 j1 hs => ?_) (fun n s hs => ?_) (fun k n s j i j0 j1 i0 i1 hs => ?_) (fun k n s j j0 j1 hs => ?_) FU 0 s1 (Int.le_refl _) (by omega) (by rw [show ((FU : Nat) : Int) = 20000 from rfl]; omega) ⟨fun _ _ _ => rfl, fun k k0 k1 => by rw [if_neg (by omega)]; exact hc1.at0 k0 k1⟩
    · simp only [Int.add_zero] at hgo
      exact hgo
    · have k1 : ¬ y + q ≤ y + j := by omega
      simp (disch := omega) only [LX7_paint_81, BX7_paint_81, w32_eq, k1, ↓reduceIte, Int.add_zero]
    · have hok : okRow (paintR (h 0) x y w q t) := hr.tones (fun j hj => paintR_ne hj) fun x' y' x0 x1 y0 y1 => by
        rw [paintR_t x0 (by omega) y0 (by omega)]
        split
        · omega
        · exact hr.2.2.2.1 x' y' x0 x1 y0 y1
      have hI2 : MIv s d (uUp u) (push (paintR (h 0) x y w q t) h) tx fed fa := hI1.set (Or.inl (by rw [hs.1 _ _ (by omega)]; exact h10)) hs.1 (fun k k0 k1 => by
        rw [hs.2 k k0 k1]
        unfold paintR
        by_cases e9 : (4 ≤ k ∧ k < 196) ∧ (x ≤ (k - 4) % 16 ∧ (k - 4) % 16 < x + w) ∧ y ≤ (k - 4) / 16 ∧ (k - 4) / 16 < y + q
        · rw [if_pos e9, if_pos (by omega)]
        · rw [if_neg e9, if_neg (by omega)]) hok
      have ho2 : MOk μ s d (uUp u) (push (paintR (h 0) x y w q t) h) tx fed fa 0 := ⟨hI2, fun z k hz => by rw [hs.1 z k (by omega), f1 z k hz, ho.2.1 z k hz], by rw [hs.1 _ _ (by omega), z1, h0]⟩
      obtain ⟨ξ, e3, hz3⟩ := allDots_rt hI2.1 hI2.2.2
      refine ⟨dotsAll (paintR (h 0) x y w q t), ξ, ?_, Or.inl ⟨e, rfl, ⟨d, ho2.tl hz3⟩⟩⟩
      have k7 := @MSh.k7 s hI2.1.1
      simp (disch := omega) only [LX7_paint_81, BX7_paint_81, w32_eq, Int.le_refl, ↓reduceIte, ↓k7, CL, e3, CLX_rt]
      rfl
    · have hS2 : MSh s := hS1.fr fun z k hz => hs.1 z k (by unfold MSt at hz; omega)
      have k1 : ¬ x + w ≤ x + i := by omega
      have h3 : s 105 3 = d := by rw [hs.1 _ _ (by omega), hc1.2.2.1.1]
      have ei : w32 (w32 (4 + w32 (16 * (y + j))) + (x + i)) = 4 + 16 * (y + j) + (x + i) := by rw [w32_eq (z := 16 * (y + j)) (by omega) (by omega), w32_eq (z := 4 + _) (by omega) (by omega), w32_eq (by omega) (by omega)]
      have k7 := @MSh.k7 s hS2
      refine ⟨mUp s 106 (5100 * d + (4 + 16 * (y + j) + (x + i))) t, ⟨fun z k hz => by rw [mUp_ne _ _ (by omega)]; exact hs.1 z k hz, fun k k0 k1 => ?_⟩, ?_⟩
      · by_cases e9 : k = 4 + 16 * (y + j) + (x + i)
        · rw [e9, mUp_same, if_pos (by omega)]
        · rw [mUp_ne _ _ (by omega), hs.2 k k0 k1]
          by_cases e2 : (4 ≤ k ∧ k < 196) ∧ (x ≤ (k - 4) % 16 ∧ (k - 4) % 16 < x + w) ∧ y ≤ (k - 4) / 16 ∧ ((k - 4) / 16 < y + j ∨ ((k - 4) / 16 = y + j ∧ (k - 4) % 16 < x + i))
          · rw [if_pos e2, if_pos (by omega)]
          · rw [if_neg e2, if_neg (by omega)]
      · simp (disch := omega) only [LX7_paint_93, BX7_paint_93, ↓w32_eq (z := x + w), k1, ↓reduceIte, ↓k7, CL]
        rw [ei, put_raw hS2 h3 cd.1 cd.2 (by omega) (by omega)]
        simp (disch := omega) only [↓CLX_rt, w32_eq, Int.add_assoc]
    · refine ⟨⟨hs.1, fun k k0 k1 => ?_⟩, ?_⟩
      · rw [hs.2 k k0 k1]
        by_cases e2 : (4 ≤ k ∧ k < 196) ∧ (x ≤ (k - 4) % 16 ∧ (k - 4) % 16 < x + w) ∧ y ≤ (k - 4) / 16 ∧ ((k - 4) / 16 < y + j ∨ ((k - 4) / 16 = y + j ∧ (k - 4) % 16 < x + w))
        · rw [if_pos e2, if_pos (by omega)]
        · rw [if_neg e2, if_neg (by omega)]
      · simp (disch := omega) only [LX7_paint_93, BX7_paint_93, w32_eq, Int.le_refl, ↓reduceIte, Int.add_assoc]
  · refine ⟨0, _, ?_, Or.inr ⟨e, MOk.thr ho.1 ho.2.1 2⟩⟩
    rw [if_neg (fun k => e (hz.mp k))]
    rfl
theorem mpaint_rt (hI : MIv μ c u h tx fed fa) {x y w q t : Int} : ∃ v ν, FX7_paint 105 x y w q t μ = RT v ν ∧ ((isCe (h 0) x y ∧ isPa (h 0) x y w q t ∧ v = dotsAll (paintR (h 0) x y w q t) ∧ MCh μ ν u h (paintR (h 0) x y w q t) tx fed fa) ∨ (¬ isCe (h 0) x y ∧ MOk μ ν c u h tx fed fa 1) ∨ (isCe (h 0) x y ∧ ¬ isPa (h 0) x y w q t ∧ MOk μ ν c u h tx fed fa 2)) := by
  have ho := hI.o
  have hc := ho.1.1
  have h0 := ho.2.2
  have hr1 := hc.ok.1
  unfold FX7_paint BX7_paint_0 BX7_paint_64 BX7_paint_72
  rw [hI.1.1.p7_0, hc.1.k7, isCell_rt hc]
  simp only [CL, ↓CLX_rt]
  rw [hc.1.k7, right_rt hc.1 h0 (by decide)]
  by_cases e : isCe (h 0) x y
  · rw [if_pos e]
    simp only [↓CLX_rt]
    have fin : ∀ (z : Prop) [Decidable z], (z ↔ isPa (h 0) x y w q t) → ∃ v ξ, BX7_paint_65 105 x y w q t (b2 z) 105 (mUp μ 105 0 0) = RT v ξ ∧ ((isCe (h 0) x y ∧ isPa (h 0) x y w q t ∧ v = dotsAll (paintR (h 0) x y w q t) ∧ MCh μ ξ u h (paintR (h 0) x y w q t) tx fed fa) ∨ (¬ isCe (h 0) x y ∧ MOk μ ξ c u h tx fed fa 1) ∨ (isCe (h 0) x y ∧ ¬ isPa (h 0) x y w q t ∧ MOk μ ξ c u h tx fed fa 2)) := fun z _ hz => by
      obtain ⟨v, ξ, e1, e2⟩ := mpaint_65 ho e hz
      rcases e2 with ⟨k1, k2, k3⟩ | ⟨k1, k2⟩
      · exact ⟨v, ξ, e1, Or.inl ⟨e, k1, k2, k3⟩⟩
      · exact ⟨v, ξ, e1, Or.inr (Or.inr ⟨e, k1, k2⟩)⟩
    have finf : ¬ isPa (h 0) x y w q t → ∃ v ξ, BX7_paint_65 105 x y w q t 0 105 (mUp μ 105 0 0) = RT v ξ ∧ ((isCe (h 0) x y ∧ isPa (h 0) x y w q t ∧ v = dotsAll (paintR (h 0) x y w q t) ∧ MCh μ ξ u h (paintR (h 0) x y w q t) tx fed fa) ∨ (¬ isCe (h 0) x y ∧ MOk μ ξ c u h tx fed fa 1) ∨ (isCe (h 0) x y ∧ ¬ isPa (h 0) x y w q t ∧ MOk μ ξ c u h tx fed fa 2)) := fun hn => by
      have := fin False ⟨fun k => k.elim, hn⟩
      rw [b2_f (fun k => k)] at this
      exact this
    rw [if_neg (by decide), hc.1.k7, wide_rt hc]
    simp only [↓CLX_rt]
    rw [isIn_rt, w32_eq (by omega) (by omega)]
    simp only [↓CLX_rt]
    by_cases q1 : 1 ≤ w ∧ w ≤ h 0 0 - x
    · rw [b2_t q1, if_neg (by decide), hc.1.k7, high_rt hc]
      simp only [↓CLX_rt]
      rw [isIn_rt, w32_eq (by omega) (by omega)]
      simp only [↓CLX_rt]
      by_cases q2 : 1 ≤ q ∧ q ≤ h 0 1 - y
      · rw [b2_t q2, if_neg (by decide), isIn_rt]
        simp only [↓CLX_rt]
        by_cases q3 : 0 ≤ t ∧ t ≤ 100
        · rw [b2_t q3, if_neg (by decide)]
          have := fin True ⟨fun _ => ⟨q1, q2, q3⟩, fun _ => trivial⟩
          rw [b2_t trivial] at this
          exact this
        · rw [b2_f q3, if_pos rfl]
          exact finf fun k => q3 k.2.2
      · rw [b2_f q2, if_pos rfl]
        exact finf fun k => q2 k.2.1
    · rw [b2_f q1, if_pos rfl]
      exact finf fun k => q1 k.1
  · refine ⟨0, _, ?_, Or.inr (Or.inl ⟨e, MOk.thr ho.1 ho.2.1 1⟩)⟩
    rw [if_neg e]
    rfl
theorem mdirty_rt (hI : MIv μ c u h tx fed fa) {p : Int} : ∃ v ν, FX7_dirty 105 p μ = RT v ν ∧ ((isPl (h 0) p ∧ v = wipedOf (h 0) p ∧ MCh μ ν u h (dirtyR (h 0) p) tx fed fa) ∨ (¬ isPl (h 0) p ∧ MOk μ ν c u h tx fed fa 1)) := by
  have ho := hI.o
  have hc := ho.1.1
  have h0 := ho.2.2
  unfold FX7_dirty BX7_dirty_0
  rw [hI.1.1.p7_0, hc.1.k7, isPlate_rt hc]
  simp only [CL, ↓CLX_rt]
  rw [hc.1.k7, right_rt hc.1 h0 (by decide)]
  by_cases e : isPl (h 0) p
  · obtain ⟨s1, e1, hI1, f1, z1, h10, -⟩ := change_rt ho.1
    have hc1 := hI1.1
    have hS1 := hc1.1
    have hr : okRow (h 0) := hc1.ok
    have hr2 := hr.2.1
    have cd := hc1.2.1
    generalize hd : (c + 1) % 9 = d at *
    rw [if_pos e]
    simp only [↓CLX_rt]
    rw [if_pos (by decide), hc.1.k7, e1]
    simp only [↓CLX_rt]
    rw [hS1.k7, mwipedOf_rt hc1 e]
    simp only [↓CLX_rt]
    refine lpR (fun n k s => LX7_dirty_32 n 105 p (wipedOf (h 0) p) k s) (fun k s => 0 ≤ k ∧ (∀ z j, ¬ (z = 106 ∧ 5100 * d ≤ j ∧ j < 5100 * d + 5100) → s z j = s1 z j) ∧ ∀ j, 0 ≤ j → j < 5100 → s 106 (5100 * d + j) = if 210 + 1226 * p ≤ j ∧ j < 210 + 1226 * p + k then 0 else h 0 j) 12 (fun R => ∃ v ν, R = RT v ν ∧ ((isPl (h 0) p ∧ v = wipedOf (h 0) p ∧ MCh μ ν u h (dirtyR (h 0) p) tx fed fa) ∨ (¬ isPl (h 0) p ∧ MOk μ ν c u h tx fed fa 1))) (fun n k s k1 hs => ?_) (fun n s hs => ?_) FU 0 s1 (by omega) (by rw [show ((FU : Nat) : Int) = 20000 from rfl]; omega) ⟨Int.le_refl _, fun _ _ _ => rfl, fun j j0 j1 => by rw [if_neg (by omega)]; exact hc1.at0 j0 j1⟩
    · obtain ⟨k0, g1, g2⟩ := hs
      have hS2 : MSh s := hS1.fr fun z j hz => g1 z j (by unfold MSt at hz; omega)
      have h3 : s 105 3 = d := by rw [g1 _ _ (by omega), hc1.2.2.1.1]
      have k7 := @MSh.k7 s hS2
      have kk : ¬ 12 ≤ k := by omega
      refine ⟨mUp s 106 (5100 * d + (196 + 1226 * p + (14 + k))) 0, ⟨by omega, fun z j hz => by rw [mUp_ne _ _ (by omega)]; exact g1 z j hz, fun j j0 j1 => ?_⟩, ?_⟩
      · by_cases e9 : j = 196 + 1226 * p + (14 + k)
        · rw [e9, mUp_same, if_pos (by omega)]
        · rw [mUp_ne _ _ (by omega), g2 j j0 j1]
          by_cases e2 : 210 + 1226 * p ≤ j ∧ j < 210 + 1226 * p + k
          · rw [if_pos e2, if_pos (by omega)]
          · rw [if_neg e2, if_neg (by omega)]
      · simp (disch := omega) only [LX7_dirty_32, BX7_dirty_32, kk, ↓reduceIte, ↓k7, CL, ↓w32_eq (z := 14 + k)]
        rw [puts_raw hS2 h3 cd.1 cd.2 e.1 (by omega) (by omega) (by omega)]
        simp (disch := omega) only [↓CLX_rt, w32_eq]
    · obtain ⟨k0, g1, g2⟩ := hs
      have hI2 : MIv s d (uUp u) (push (dirtyR (h 0) p) h) tx fed fa := hI1.set (Or.inl (by rw [g1 _ _ (by omega)]; exact h10)) g1 (fun j j0 j1 => by
        rw [g2 j j0 j1]
        unfold dirtyR
        by_cases e9 : 210 + 1226 * p ≤ j ∧ j ≤ 221 + 1226 * p
        · rw [if_pos e9, if_pos (by omega)]
        · rw [if_neg e9, if_neg (by omega)]) (dirtyR_ok hr e.1)
      refine ⟨wipedOf (h 0) p, s, ?_, Or.inl ⟨e, rfl, ⟨d, hI2, fun z k hz => by rw [g1 z k (by omega), f1 z k hz, ho.2.1 z k hz], by rw [g1 _ _ (by omega), z1, h0]⟩⟩⟩
      simp only [LX7_dirty_32, BX7_dirty_32, Int.le_refl, ↓reduceIte]
  · refine ⟨0, _, ?_, Or.inr ⟨e, MOk.thr ho.1 ho.2.1 1⟩⟩
    rw [if_neg e]
    rfl
theorem bc_aw {r : Row} (hr : okRow r) (p y : Int) : bc (awN r p y (r 0).toNat) = su (fun x => b2 (spotAt r p x y)) (r 0) := by
  have hr1 := hr.1
  have ha := awN_bt r p y (r 0).toNat (by omega)
  unfold bc
  have h3 := su_split (fun i => bt (awN r p y (r 0).toNat) i) (a := r 0) (by omega) (16 - r 0).toNat
  rw [Int.toNat_of_nonneg (by omega), show r 0 + (16 - r 0) = 16 by omega] at h3
  rw [h3, su_ext (g := fun x => b2 (spotAt r p x y)) (n := r 0) fun i i0 i1 => by rw [ha.2 i i0 (by omega), if_pos (by omega)], su_ext (g := fun _ => 0) (n := 16 - r 0) fun i i0 i1 => by rw [ha.2 (r 0 + i) (by omega) (by omega), if_neg (by omega)]]
  have hz : su (fun _ => 0) (16 - r 0) = 0 := sm_zero _
  omega
theorem bOr_0b {v : Int} (h0 : 0 ≤ v) (h1 : v < 65536) : bOr v 0 = v := by
  have h := bOr_nat (k := 16) (by decide) (m := v.toNat) (n := 0) (by omega) (by omega)
  rw [Int.toNat_of_nonneg h0] at h
  rw [show ((0 : Nat) : Int) = 0 from rfl] at h
  rw [h, Nat.or_zero]
  omega
theorem mclean_rt (hI : MIv μ c u h tx fed fa) {p : Int} : ∃ v ν, FX7_clean 105 p μ = RT v ν ∧ ((isPl (h 0) p ∧ v = spotsO (h 0) p ∧ MCh μ ν u h (cleanR (h 0) p) tx fed fa) ∨ (¬ isPl (h 0) p ∧ MOk μ ν c u h tx fed fa 1)) := by
  have ho := hI.o
  have hc := ho.1.1
  have h0 := ho.2.2
  unfold FX7_clean BX7_clean_0
  rw [hI.1.1.p7_0, hc.1.k7, isPlate_rt hc]
  simp only [CL, ↓CLX_rt]
  rw [hc.1.k7, right_rt hc.1 h0 (by decide)]
  by_cases e : isPl (h 0) p
  · obtain ⟨s0, e0, hz0⟩ := lays_p hc ho.1.2.2
    have ho1 := ho.tl hz0.tl
    have hcz := hz0.2.1
    have hr := hcz.ok
    have hr1 := hr.1
    have hr2 := hr.2.1
    have p4 : p < 4 := by omega
    rw [if_pos e]
    simp only [↓CLX_rt]
    rw [if_pos (by decide), hc.1.k7, e0]
    simp only [↓CLX_rt]
    -- the memory while away is filled
    have hM : ∀ s : Mem, (∀ z k, ¬ (z = 114 ∧ 0 ≤ k) → s z k = s0 z k) → Mc s c u h ∧ MIk s (h 0) := fun s hs => ⟨hcz.fr fun z k hz => hs z k (by omega), fun x y x0 x1 y0 y1 => by rw [hs _ _ (by omega)]; exact hz0.2.2.1.1 x y x0 x1 y0 y1⟩
    have hsp : ∀ y, su (fun y => su (fun x => b2 (spotAt (h 0) p x y)) (h 0 0)) y = su (fun y => bc (awN (h 0) p y (h 0 0).toNat)) y := fun y => su_ext fun y' _ _ => (bc_aw hr p y').symm
    refine dblR (fun n y0 y1 y2 y3 ν => LX7_clean_28 n y0 y1 y2 y3 ν) (fun k s y => k 105 p (su (fun y => bc (awN (h 0) p y (h 0 0).toNat)) y) y s) (fun k n s y x => LX7_clean_46 k n 105 p (su (fun y => bc (awN (h 0) p y (h 0 0).toNat)) y) y x (mUp s 114 y (awN (h 0) p y x.toNat))) (h 0 0) (h 0 1) (fun x y s => (∀ z k, ¬ (z = 114 ∧ 0 ≤ k) → s z k = s0 z k) ∧ (∀ j, 0 ≤ j → j < y → s 114 j = awN (h 0) p j (h 0 0).toNat) ∧ (x = h 0 0 → s 114 y = awN (h 0) p y (h 0 0).toNat)) (fun R => ∃ v ν, R = RT v ν ∧ ((isPl (h 0) p ∧ v = spotsO (h 0) p ∧ MCh μ ν u h (cleanR (h 0) p) tx fed fa) ∨ (¬ isPl (h 0) p ∧ MOk μ ν c u h tx fed fa 1))) (by omega) (by omega) (fun n s y y0 y1 hs => ?_) (fun n s hs => ?_) (fun k n s y x y0 y1 x0 x1 hs => ?_) (fun k n s y y0 y1 hs => ?_) FU 0 s0 (Int.le_refl _) (by omega) (by rw [show ((FU : Nat) : Int) = 20000 from rfl]; omega) ⟨fun _ _ _ => rfl, fun j j0 j1 => by omega, fun k => by omega⟩
    · obtain ⟨hc2, hI2⟩ := hM s hs.1
      have hS2 := hc2.1
      have k7 := @MSh.k7 s hS2
      have hy : ¬ h 0 1 ≤ y := by omega
      simp (disch := omega) only [LX7_clean_28, BX7_clean_28, ↓k7, ↓CL, ↓high_rt_c hc2, hy, ↓reduceIte, ↓hS2.g7_23, ↓hS2.s114]
      rfl
    · obtain ⟨hc2, hI2⟩ := hM s hs.1
      have hS2 := hc2.1
      have k7 := @MSh.k7 s hS2
      have hI3 : MIv s c u h tx fed fa := ⟨hc2, ⟨ho1.1.2.1.1, ⟨by rw [hs.1 _ _ (by omega)]; exact ho1.1.2.1.2.1.1, by rw [hs.1 _ _ (by omega)]; exact ho1.1.2.1.2.1.2⟩, fun k k0 k1 => by rw [hs.1 _ _ (by omega)]; exact ho1.1.2.1.2.2 k k0 k1⟩, Or.inr ⟨by rw [hs.1 _ _ (by omega)]; exact hz0.2.2.2, hz0.2.2.1.fr hr fun z k _ _ _ => hs.1 _ _ (by omega)⟩⟩
      obtain ⟨s1, e1, hI1, f1, z1, h10, hf1⟩ := change_rt hI3
      have hc1 := hI1.1
      have hS1 := hc1.1
      have cd := hc1.2.1
      generalize hd : (c + 1) % 9 = d at *
      simp (disch := omega) only [LX7_clean_28, BX7_clean_28, ↓k7, ↓CL, ↓high_rt_c hc2, Int.le_refl, ↓reduceIte]
      rw [e1]
      simp only [↓CLX_rt]
      rw [← hsp]
      have haw : ∀ j, 0 ≤ j → j < h 0 1 → s1 114 j = awN (h 0) p j (h 0 0).toNat := fun j j0 j1 => by
        rw [hf1 _ _ (by omega)]
        exact hs.2.1 j j0 j1
      refine lpR (fun n k s => LX7_clean_113 n 105 p (spotsO (h 0) p) k s) (fun k s => 0 ≤ k ∧ (∀ z j, ¬ (z = 106 ∧ 5100 * d ≤ j ∧ j < 5100 * d + 5100) → s z j = s1 z j) ∧ ∀ j, 0 ≤ j → j < 5100 → s 106 (5100 * d + j) = if 210 + 1226 * p ≤ j ∧ j < 210 + 1226 * p + k then bOr (h 0 j) (awN (h 0) p (j - 210 - 1226 * p) (h 0 0).toNat) else h 0 j) (h 0 1) (fun R => ∃ v ν, R = RT v ν ∧ ((isPl (h 0) p ∧ v = spotsO (h 0) p ∧ MCh μ ν u h (cleanR (h 0) p) tx fed fa) ∨ (¬ isPl (h 0) p ∧ MOk μ ν c u h tx fed fa 1))) (fun n k s k1 ht => ?_) (fun n s ht => ?_) FU 0 s1 (by omega) (by rw [show ((FU : Nat) : Int) = 20000 from rfl]; omega) ⟨Int.le_refl _, fun _ _ _ => rfl, fun j j0 j1 => by rw [if_neg (by omega)]; exact hc1.at0 j0 j1⟩
      · obtain ⟨k0, g1, g2⟩ := ht
        have hS4 : MSh s := hS1.fr fun z j hz => g1 z j (by unfold MSt at hz; omega)
        have h3 : s 105 3 = d := by rw [g1 _ _ (by omega), hc1.2.2.1.1]
        have k74 := @MSh.k7 s hS4
        have hv1 : s 106 (5100 * d + 1) = h 0 1 := by rw [g2 1 (by omega) (by omega), if_neg (by omega)]
        have hhigh : FX7_high 105 s = RT (h 0 1) s := by
          unfold FX7_high BX7_high_0
          rw [hS4.k7, get_raw hS4 h3 cd.1 cd.2 (by omega) (by omega), hv1]
          rfl
        have hof : FX7_of 105 p (14 + k) s = RT (rO (h 0) p (14 + k)) s := by
          have e9 : w32 (w32 (196 + w32 (1226 * p)) + (14 + k)) = 196 + 1226 * p + (14 + k) := by rw [w32_eq (z := 1226 * p) (by omega) (by omega), w32_eq (z := 196 + _) (by omega) (by omega), w32_eq (by omega) (by omega)]
          unfold FX7_of BX7_of_0
          rw [hS4.k7, e9, get_raw hS4 h3 cd.1 cd.2 (by omega) (by omega), g2 _ (by omega) (by omega), if_neg (by omega)]
          rfl
        have va : s 114 k = awN (h 0) p k (h 0 0).toNat := by rw [g1 _ _ (by omega)]; exact haw k k0 k1
        have kk : ¬ h 0 1 ≤ k := by omega
        refine ⟨mUp s 106 (5100 * d + (196 + 1226 * p + (14 + k))) (bOr (rO (h 0) p (14 + k)) (awN (h 0) p k (h 0 0).toNat)), ⟨by omega, fun z j hz => by rw [mUp_ne _ _ (by omega)]; exact g1 z j hz, fun j j0 j1 => ?_⟩, ?_⟩
        · by_cases e9 : j = 196 + 1226 * p + (14 + k)
          · rw [e9, mUp_same, if_pos (by omega), show 196 + 1226 * p + (14 + k) - 210 - 1226 * p = k by omega]
            rfl
          · rw [mUp_ne _ _ (by omega), g2 j j0 j1]
            by_cases e2 : 210 + 1226 * p ≤ j ∧ j < 210 + 1226 * p + k
            · rw [if_pos e2, if_pos (by omega)]
            · rw [if_neg e2, if_neg (by omega)]
        · have hw14 : w32 (14 + k) = 14 + k := w32_eq (by omega) (by omega)
          simp (disch := omega) only [LX7_clean_113, BX7_clean_113, ↓k74, CL, hhigh, CLX_rt, kk, ↓reduceIte, hw14, hof, ↓hS4.g7_23, ↓hS4.l114, va, puts_raw hS4 h3 cd.1 cd.2 e.1 p4 (show 0 ≤ 14 + k by omega) (show 14 + k < 1226 by omega), w32_eq]
      · obtain ⟨k0, g1, g2⟩ := ht
        have hI2 : MIv s d (uUp u) (push (cleanR (h 0) p) h) tx fed fa := hI1.set (Or.inl (by rw [g1 _ _ (by omega)]; exact h10)) g1 (fun j j0 j1 => by rw [g2 j j0 j1]; rfl) (cleanR_ok hr e.1 e.2)
        have k74 := @MSh.k7 s hI2.1.1
        have hhigh := high_rt hI2.1
        have hv1 : push (cleanR (h 0) p) h 0 1 = h 0 1 := (cleanR_w hr).lo e.1 (by omega)
        rw [hv1] at hhigh
        refine ⟨spotsO (h 0) p, s, ?_, Or.inl ⟨e, rfl, ⟨d, hI2, fun z k hz => by rw [g1 z k (by omega), f1 z k hz, hs.1 z k (by omega), ho1.2.1 z k hz], by rw [g1 _ _ (by omega), z1, hs.1 _ _ (by omega), ho1.2.2]⟩⟩⟩
        simp only [LX7_clean_113, BX7_clean_113, ↓k74, CL, hhigh, CLX_rt, Int.le_refl, ↓reduceIte]
    · have ha := awN_bt (h 0) p y x.toNat (by omega)
      obtain ⟨hc2, hI2⟩ := hM (mUp s 114 y (awN (h 0) p y x.toNat)) (fun z k hz => by rw [mUp_ne _ _ (by omega)]; exact hs.1 z k hz)
      have hS2 := hc2.1
      have k7 := @MSh.k7 _ hS2
      have hx : ¬ h 0 0 ≤ x := by omega
      have hxt : ((x.toNat : Nat) : Int) = x := by omega
      have ev : mUp s 114 y (awN (h 0) p y x.toNat) 114 y = awN (h 0) p y x.toNat := mUp_same _ _ _ _
      have e9 : awN (h 0) p y (x + 1).toNat = if spotAt (h 0) p x y then bOr (awN (h 0) p y x.toNat) (bShl 1 x) else awN (h 0) p y x.toNat := by rw [show (x + 1).toNat = x.toNat + 1 by omega, awN, hxt]
      have em : ∀ v, mUp (mUp s 114 y (awN (h 0) p y x.toNat)) 114 y v = mUp s 114 y v := fun v => by
        funext a k
        rw [mUp_at, mUp_at, mUp_at]
        by_cases q : a = 114 ∧ k = y
        · rw [if_pos q, if_pos q]
        · rw [if_neg q, if_neg q, if_neg q]
      refine ⟨if x + 1 = h 0 0 then mUp s 114 y (awN (h 0) p y (x + 1).toNat) else s, ⟨fun z k hz => ?_, fun j j0 j1 => ?_, fun k => ?_⟩, ?_⟩
      · split
        · rw [mUp_ne _ _ (by omega)]; exact hs.1 z k hz
        · exact hs.1 z k hz
      · split
        · rw [mUp_ne _ _ (by omega)]; exact hs.2.1 j j0 j1
        · exact hs.2.1 j j0 j1
      · rw [if_pos k, mUp_same, k]
      · have er : mUp (if x + 1 = h 0 0 then mUp s 114 y (awN (h 0) p y (x + 1).toNat) else s) 114 y (awN (h 0) p y (x + 1).toNat) = mUp s 114 y (awN (h 0) p y (x + 1).toNat) := by
          split
          · funext a k
            rw [mUp_at, mUp_at]
            by_cases q : a = 114 ∧ k = y
            · rw [if_pos q, if_pos q]
            · rw [if_neg q, if_neg q]
          · rfl
        rw [er, e9]
        simp (disch := omega) only [LX7_clean_46, BX7_clean_46, BX7_clean_81, ↓k7, ↓CL, ↓wide_rt_c hc2, hx, ↓reduceIte, ↓hS2.g7_23, ↓hS2.l114, ev, ↓mspot_rt_c hc2 hI2]
        by_cases q : spotAt (h 0) p x y
        · rw [b2_t q, if_neg (by decide), if_pos q, hS2.s114 (by omega) (by omega), em, w32_eq (by omega) (by omega)]
        · rw [b2_f q, if_pos rfl, if_neg q, bOr_0b ha.1.1 ha.1.2, hS2.s114 (by omega) (by omega), em, w32_eq (by omega) (by omega)]
    · have ha := awN_bt (h 0) p y (h 0 0).toNat (by omega)
      have hsame : mUp s 114 y (awN (h 0) p y (h 0 0).toNat) = s := by
        funext a k
        rw [mUp_at]
        by_cases q : a = 114 ∧ k = y
        · rw [if_pos q, q.1, q.2, hs.2.2 rfl]
        · rw [if_neg q]
      obtain ⟨hc2, hI2⟩ := hM s hs.1
      have hS2 := hc2.1
      have k7 := @MSh.k7 s hS2
      have ev := hs.2.2 rfl
      have hb := su_le (f := fun y => bc (awN (h 0) p y (h 0 0).toNat)) (n := y) (B := 16) y0 fun i _ _ => by
        have ha := awN_bt (h 0) p i (h 0 0).toNat (by omega)
        exact bc_le ha.1.1 ha.1.2
      have hb2 := bc_le ha.1.1 ha.1.2
      refine ⟨⟨hs.1, fun j j0 j1 => ?_, fun k => by omega⟩, ?_⟩
      · by_cases q : j = y
        · rw [q, ev]
        · exact hs.2.1 j j0 (by omega)
      · show LX7_clean_46 k (n + 1) 105 p _ y (h 0 0) (mUp s 114 y (awN (h 0) p y (h 0 0).toNat)) = _
        rw [hsame]
        simp (disch := omega) only [LX7_clean_46, BX7_clean_46, ↓k7, ↓CL, ↓wide_rt_c hc2, Int.le_refl, ↓reduceIte, ↓hS2.g7_23, ↓hS2.l114, ev, ↓bits_rt_c ha.1.1 ha.1.2, ↓LT_eq, w32_eq]
        rw [su_s _ y0]
  · refine ⟨0, _, ?_, Or.inr ⟨e, MOk.thr ho.1 ho.2.1 1⟩⟩
    rw [if_neg e]
    rfl
/-- ink alone differs -/
def InkS (r r' : Row) : Prop := ∀ j, (∀ p, 0 ≤ p → p < 4 → j ≠ 196 + 1226 * p + 12) → r' j = r j
theorem InkS.o {r r' : Row} (hi : InkS r r') {q k : Int} (q0 : 0 ≤ q) (q1 : q < 4) (k0 : 0 ≤ k) (k1 : k < 1226) (hk : k ≠ 12) : rO r' q k = rO r q k := hi _ fun p _ _ => by omega
theorem InkS.lo {r r' : Row} (hi : InkS r r') {j : Int} (hj : j < 196) : r' j = r j := hi _ fun p _ _ => by omega
theorem InkS.cd {r r' : Row} (hi : InkS r r') {q : Int} (q0 : 0 ≤ q) (q1 : q < 4) : CdS r r' q := fun k hk => hi.o q0 q1 (by omega) (by omega) (by omega)
theorem InkS.rk {r r' : Row} (hi : InkS r r') {q x y : Int} (q0 : 0 ≤ q) (q1 : q < 4) : rkAt r' q x y = rkAt r q x y ∧ rQ r' q = rQ r q := by
  have h7 := hi.o q0 q1 (show (0 : Int) ≤ 7 by omega) (by omega) (by omega)
  have h8 := hi.o q0 q1 (show (0 : Int) ≤ 8 by omega) (by omega) (by omega)
  have h9 := hi.o q0 q1 (show (0 : Int) ≤ 9 by omega) (by omega) (by omega)
  have ha := hi.o q0 q1 (show (0 : Int) ≤ 10 by omega) (by omega) (by omega)
  have hb := hi.o q0 q1 (show (0 : Int) ≤ 11 by omega) (by omega) (by omega)
  have hq : rQ r' q = rQ r q := by unfold rQ; rw [h7, h8]
  refine ⟨?_, hq⟩
  unfold rkAt
  rw [h7, h8, h9, ha, hb, hq]
theorem InkS.tn {r r' : Row} (hi : InkS r r') (hr : okRow r) {q x y : Int} (hq : isPl r q) (x1 : x < 16) (y1 : y < 12) : tnOn r' q x y = tnOn r q x y := by
  have hr2 := hr.2.1
  exact tnOn_ext (hi.cd hq.1 (by omega)) (hi.lo (by omega)) (hr.2.2.2.2 q hq.1 hq.2).2.2.2.2.2.1.2.1
theorem InkS.iks {r r' : Row} (hi : InkS r r') (hr : okRow r) {x y : Int} (x1 : x < 16) (y0 : 0 ≤ y) (y1 : y < 12) : ∀ n : Nat, (n : Int) ≤ r 2 → ik r' x y n = ik r x y n
  | 0, _ => rfl
  | n + 1, hn => by
    have hr2 := hr.2.1
    have ih := InkS.iks hi hr x1 y0 y1 n (by omega)
    have h1 := hi.rk (q := n) (x := x) (y := y) (by omega) (by omega)
    have h2 := hi.tn hr (q := n) (x := x) (y := y) ⟨by omega, by omega⟩ x1 y1
    have h3 := hi.o (q := n) (k := 14 + y) (by omega) (by omega) (by omega) (by omega) (by omega)
    have h4 := hi.lo (j := 3) (by omega)
    show (if (rkAt r' n x y * 100 < tnOn r' n x y * rQ r' n * rQ r' n) ∧ ¬ bt (rO r' n (14 + y)) x = 1 ∧ bc (ik r' x y n) < r' 3 then bOr (ik r' x y n) (bShl 1 n) else ik r' x y n) = (if (rkAt r n x y * 100 < tnOn r n x y * rQ r n * rQ r n) ∧ ¬ bt (rO r n (14 + y)) x = 1 ∧ bc (ik r x y n) < r 3 then bOr (ik r x y n) (bShl 1 n) else ik r x y n)
    rw [ih, h1.1, h1.2, h2, h3, h4]
theorem InkS.ikAs {r r' : Row} (hi : InkS r r') (hr : okRow r) {x y : Int} (x1 : x < 16) (y0 : 0 ≤ y) (y1 : y < 12) : ikA r' x y = ikA r x y := by
  have hr2 := hr.2.1
  unfold ikA
  rw [hi.lo (j := 2) (by omega)]
  exact hi.iks hr x1 y0 y1 _ (by omega)
theorem InkS.dots {r r' : Row} (hi : InkS r r') (hr : okRow r) (q : Int) : dotsOf r' q = dotsOf r q := by
  have hr1 := hr.1
  have e0 : r' 0 = r 0 := hi.lo (by omega)
  have e1 : r' 1 = r 1 := hi.lo (by omega)
  have e : su2 (fun x y => b2 (dotAt r' q x y)) (r' 0) (r' 1) = su2 (fun x y => b2 (dotAt r q x y)) (r' 0) (r' 1) := su2_ext fun x y x0 x1 y0 y1 => b2_c (by
    have ek := hi.ikAs hr (x := x) (y := y) (by omega) y0 (by omega)
    constructor
    · rintro ⟨a, b⟩
      rw [ek] at b
      exact ⟨by omega, b⟩
    · rintro ⟨a, b⟩
      rw [← ek] at b
      exact ⟨by omega, b⟩)
  unfold dotsOf
  rw [e, e0, e1]
theorem InkS.laid {r r' : Row} (hi : InkS r r') (hr : okRow r) (hl : Laid μ r) : Laid μ r' := by
  have hr1 := hr.1
  have hr2 := hr.2.1
  have e0 : r' 0 = r 0 := hi.lo (by omega)
  have e1 : r' 1 = r 1 := hi.lo (by omega)
  have e2 : r' 2 = r 2 := hi.lo (by omega)
  refine ⟨fun x y x0 x1 y0 y1 => ?_, fun q q0 q1 x y x0 x1 y0 y1 => ?_, fun q q0 q1 x y x0 x1 y0 y1 => ?_⟩
  · rw [e0] at x1; rw [e1] at y1
    rw [hi.ikAs hr (by omega) y0 (by omega)]
    exact hl.1 x y x0 x1 y0 y1
  · rw [e0] at x1; rw [e1] at y1; rw [e2] at q1
    rw [(hi.rk q0 (by omega)).1]
    exact hl.2.1 q q0 q1 x y x0 x1 y0 y1
  · rw [e0] at x1; rw [e1] at y1; rw [e2] at q1
    rw [hi.tn hr ⟨q0, q1⟩ (by omega) (by omega)]
    exact hl.2.2 q q0 q1 x y x0 x1 y0 y1
def prI (r : Row) (m i : Int) : Row := fun j => if 208 ≤ j ∧ (j - 208) % 1226 = 0 ∧ (j - 208) / 1226 < i then r j - m * dotsOf r ((j - 208) / 1226) else r j
theorem prI_ink {r : Row} {m i : Int} (hi : i ≤ 4) : InkS r (prI r m i) := fun j hj => if_neg fun k => hj ((j - 208) / 1226) (by omega) (by omega) (by omega)
theorem prI_at {r : Row} {m i q : Int} (q0 : 0 ≤ q) : rO (prI r m i) q 12 = if q < i then rO r q 12 - m * dotsOf r q else rO r q 12 := by
  have e : (196 + 1226 * q + 12 - 208) / 1226 = q := by omega
  show (if 208 ≤ 196 + 1226 * q + 12 ∧ (196 + 1226 * q + 12 - 208) % 1226 = 0 ∧ (196 + 1226 * q + 12 - 208) / 1226 < i then _ else _) = _
  rw [e]
  by_cases q1 : q < i
  · rw [if_pos q1, if_pos (by omega)]
    rfl
  · rw [if_neg q1, if_neg (by omega)]
    rfl
theorem prI_ok {r : Row} (hr : okRow r) {m i : Int} (hi : i ≤ r 2) (m0 : 0 ≤ m) (m1 : m ≤ cpV r) : okRow (prI r m i) := by
  have hr2 := hr.2.1
  have hk := prI_ink (r := r) (m := m) (i := i) (by omega)
  refine (show FldS r (prI r m i) from fun j hj => hk j fun p p0 p1 => hj p 12 p0 p1 (by omega) (by omega)).ok hr fun q q0 q1 => ?_
  have ho := (hr.2.2.2.2 q q0 q1).f
  have hp := press_fit hr m0 m1 q0 q1
  unfold okFld
  rw [hk.o (k := 7) q0 (by omega) (by omega) (by omega) (by omega), hk.o (k := 8) q0 (by omega) (by omega) (by omega) (by omega), hk.o (k := 9) q0 (by omega) (by omega) (by omega) (by omega), hk.o (k := 10) q0 (by omega) (by omega) (by omega) (by omega), hk.o (k := 11) q0 (by omega) (by omega) (by omega) (by omega), prI_at q0]
  refine ⟨ho.1, ho.2.1, ho.2.2.1, ?_⟩
  have := ho.2.2.2
  split <;> omega
theorem mpress_rt (hI : MIv μ c u h tx fed fa) {k : Int} : ∃ v ν, FX7_press 105 k μ = RT v ν ∧ (((1 ≤ k ∧ k ≤ 1000) ∧ 0 ≤ cpV (h 0) ∧ v = mn k (cpV (h 0)) ∧ MCh μ ν u h (pressR (h 0) (mn k (cpV (h 0)))) tx fed fa) ∨ (¬ (1 ≤ k ∧ k ≤ 1000) ∧ MOk μ ν c u h tx fed fa 1) ∨ ((1 ≤ k ∧ k ≤ 1000) ∧ ¬ 0 ≤ cpV (h 0) ∧ MOk μ ν c u h tx fed fa 2)) := by
  have ho := hI.o
  have hc := ho.1.1
  have h0 := ho.2.2
  unfold FX7_press BX7_press_0
  rw [hI.1.1.p7_0, isIn_rt]
  simp only [CL, ↓CLX_rt]
  rw [hc.1.k7, right_rt hc.1 h0 (by decide)]
  by_cases e : 1 ≤ k ∧ k ≤ 1000
  · obtain ⟨s0, e0, hz0⟩ := possible_rt hc ho.1.2.2
    have ho1 := ho.tl hz0
    have hcz := hz0.2.1
    have hcl := cpN_le hc.ok (h 0 2).toNat (by have := hc.ok.2.1; omega)
    have hcl : -1 ≤ cpV (h 0) ∧ cpV (h 0) ≤ 99999 := hcl
    rw [if_pos e]
    simp only [↓CLX_rt]
    rw [if_pos (by decide), hc.1.k7, e0]
    simp only [↓CLX_rt]
    by_cases q : 0 ≤ cpV (h 0)
    · have q1 : ¬ cpV (h 0) = -1 := by omega
      obtain ⟨s1, e1, hI1, f1, z1, h10, -⟩ := change_rt ho1.1
      have hc1 := hI1.1
      have hS1 := hc1.1
      have hr : okRow (h 0) := hc1.ok
      have hr2 := hr.2.1
      have cd := hc1.2.1
      have hm := mn_le (a := k) (b := cpV (h 0))
      have hm0 : 0 ≤ mn k (cpV (h 0)) := by omega
      generalize hd : (c + 1) % 9 = d at *
      have hright := right_rt hcz.1 ho1.2.2 (q := True) (k := 2) (by decide)
      rw [b2_t trivial, if_pos trivial] at hright
      rw [if_neg q1]
      unfold BX7_press_39
      rw [hcz.1.k7, hright]
      simp only [CL, ↓CLX_rt]
      rw [if_pos (by decide), min_rt]
      simp only [↓CLX_rt]
      rw [hcz.1.k7, e1]
      simp only [↓CLX_rt]
      generalize hme : mn k (cpV (h 0)) = m at *
      refine lpR (fun n i s => LX7_press_61 n 105 m i s) (fun i s => 0 ≤ i ∧ MIv s d (uUp u) (push (prI (h 0) m i) h) tx fed fa ∧ MFr μ s ∧ s 105 0 = 0) (h 0 2) (fun R => ∃ v ν, R = RT v ν ∧ (((1 ≤ k ∧ k ≤ 1000) ∧ 0 ≤ cpV (h 0) ∧ v = m ∧ MCh μ ν u h (pressR (h 0) m) tx fed fa) ∨ (¬ (1 ≤ k ∧ k ≤ 1000) ∧ MOk μ ν c u h tx fed fa 1) ∨ ((1 ≤ k ∧ k ≤ 1000) ∧ ¬ 0 ≤ cpV (h 0) ∧ MOk μ ν c u h tx fed fa 2))) (fun n i s i1 hs => ?_) (fun n s hs => ?_) FU 0 s1 hr2.1 (by rw [show ((FU : Nat) : Int) = 20000 from rfl]; omega) ⟨Int.le_refl _, ?_, fun z j hz => by rw [f1 z j hz, ho1.2.1 z j hz], by rw [z1, ho1.2.2]⟩
      · obtain ⟨i0, g1, g2, g3⟩ := hs
        have hci := g1.1
        have hki : InkS (h 0) (prI (h 0) m i) := prI_ink (by omega)
        have e2 : push (prI (h 0) m i) h 0 2 = h 0 2 := (show prI (h 0) m i 2 = h 0 2 from hki.lo (by omega))
        obtain ⟨ν, ed, hz⟩ := mdots_rt (p := i) hci g1.2.2
        have hdd : dotsOf (push (prI (h 0) m i) h 0) i = dotsOf (h 0) i := hki.dots hr i
        rw [hdd] at ed
        have hc2 := hz.2.1
        have hS2 := hc2.1
        have k7 := @MSh.k7 s hci.1
        have k72 := @MSh.k7 ν hS2
        have hpl := mplates_rt hci
        rw [e2] at hpl
        have hx : ¬ h 0 2 ≤ i := by omega
        have hof := of_rt hci (p := i) (k := 12) i0 (by omega) (by omega) (by omega)
        have hov : rO (push (prI (h 0) m i) h 0) i 12 = rO (h 0) i 12 := by
          show rO (prI (h 0) m i) i 12 = _
          rw [prI_at i0, if_neg (by omega)]
        rw [hov] at hof
        have hpf := press_fit hr hm0 hm.2.1 i0 i1
        have hin := (hr.2.2.2.2 i i0 i1).2.2.2.1
        have hI2 := g1.lz hz.tl
        have hok : okRow (prI (h 0) m (i + 1)) := prI_ok hr (by omega) hm0 hm.2.1
        have hki2 : InkS (prI (h 0) m i) (prI (h 0) m (i + 1)) := fun j hj => by rw [hki j hj, prI_ink (by omega) j hj]
        have hput := puts_raw hS2 hc2.2.2.1.1 cd.1 cd.2 (p := i) (k := 12) (v := w32 (rO (h 0) i 12 - w32 (m * dotsOf (h 0) i))) i0 (by omega) (by omega) (by omega)
        have hw : w32 (rO (h 0) i 12 - w32 (m * dotsOf (h 0) i)) = rO (h 0) i 12 - m * dotsOf (h 0) i := by rw [w32_eq (z := m * _) (by omega) (by omega), w32_eq (by omega) (by omega)]
        refine ⟨mUp ν 106 (5100 * d + (196 + 1226 * i + 12)) (rO (h 0) i 12 - m * dotsOf (h 0) i), ⟨by omega, ?_, fun z j hz' => by rw [mUp_ne _ _ (by omega), hI2.2.1 z j hz', g2 z j hz'], by rw [mUp_ne _ _ (by omega), hI2.2.2, g3]⟩, ?_⟩
        · refine hI2.1.set ?_ (fun z j hz => mUp_ne _ _ (by omega)) (fun j j0 j1 => ?_) hok
          · refine Or.inr ⟨by rw [mUp_ne _ _ (by omega)]; exact hz.2.2.2, ?_⟩
            have hl : Laid ν (prI (h 0) m i) := hz.2.2.1
            exact (hki2.laid hci.ok hl).fr hok fun z j _ _ _ => mUp_ne _ _ (by omega)
          · by_cases e9 : j = 196 + 1226 * i + 12
            · rw [e9, mUp_same]
              have := prI_at (r := h 0) (m := m) (i := i + 1) i0
              rw [if_pos (by omega)] at this
              exact this.symm
            · rw [mUp_ne _ _ (by omega), hc2.at0 j0 j1]
              show prI (h 0) m i j = prI (h 0) m (i + 1) j
              unfold prI
              by_cases e8 : 208 ≤ j ∧ (j - 208) % 1226 = 0 ∧ (j - 208) / 1226 < i
              · rw [if_pos e8, if_pos (by omega)]
              · rw [if_neg e8, if_neg (by omega)]
        · rw [hw] at hput
          simp (disch := omega) only [LX7_press_61, BX7_press_61, ↓k7, CL, hpl, CLX_rt, hx, ↓reduceIte, hof, ed, ↓k72, hw, hput, w32_eq]
      · obtain ⟨i0, g1, g2, g3⟩ := hs
        have hci := g1.1
        have hki : InkS (h 0) (prI (h 0) m (h 0 2)) := prI_ink (by omega)
        have e2 : push (prI (h 0) m (h 0 2)) h 0 2 = h 0 2 := (show prI (h 0) m (h 0 2) 2 = h 0 2 from hki.lo (by omega))
        have hpl := mplates_rt hci
        rw [e2] at hpl
        have k7 := @MSh.k7 s hci.1
        refine ⟨m, s, ?_, Or.inl ⟨e, q, rfl, ⟨d, g1, g2, g3⟩⟩⟩
        simp (disch := omega) only [LX7_press_61, BX7_press_61, ↓k7, CL, hpl, CLX_rt, Int.le_refl, ↓reduceIte]
      · have hp0 : prI (h 0) m 0 = h 0 := by
          funext j
          exact if_neg (by omega)
        rw [hp0]
        exact hI1
    · have q1 : cpV (h 0) = -1 := by omega
      have hright := right_rt hcz.1 ho1.2.2 (q := False) (k := 2) (by decide)
      rw [b2_f (fun z => z), if_neg (fun z => z)] at hright
      refine ⟨0, _, ?_, Or.inr (Or.inr ⟨e, q, MOk.thr ho1.1 ho1.2.1 2⟩)⟩
      rw [if_pos q1]
      unfold BX7_press_39
      rw [hcz.1.k7, hright]
      rfl
  · refine ⟨0, _, ?_, Or.inr (Or.inl ⟨e, MOk.thr ho.1 ho.2.1 1⟩)⟩
    rw [if_neg e]
    rfl
end MA2
