/-! the law asks all cells -/
section PRA
variable {μ ν : Mem} {c u fed fa L e cap T x y k : Int} {h : Int → Row} {tx : Int → Int} {X : Int → Prop} {ids : List Int}
theorem su2_swap {f : Int → Int → Int → Int} {w q n : Int} : su2 (fun x y => su (fun p => f p x y) n) w q = su (fun p => su2 (fun x y => f p x y) w q) n := by
  have e1 : (fun y => su (fun x => su (fun p => f p x y) n) w) = fun y => su (fun p => su (fun x => f p x y) w) n := funext fun y => su_swap
  unfold su2
  rw [e1, su_swap]
theorem bc_dots {r : Row} (hr : okRow r) (x0 : 0 ≤ x) (x1 : x < r 0) (y0 : 0 ≤ y) (y1 : y < r 1) : bc (ikA r x y) = su (fun p => b2 (dotAt r p x y)) (r 2) := by
  have hr2 := hr.2.1
  have hik : 0 ≤ ikA r x y ∧ ikA r x y < 16 := ik_16 r x y (r 2).toNat (by omega)
  have hbt : ∀ p, 0 ≤ p → p < 4 → bt (ikA r x y) p = if p < r 2 then b2 (putAt r p x y) else 0 := fun p p0 p1 => by
    have := ik_bt r x y (r 2).toNat (by omega) p p0 (by omega)
    rw [Int.toNat_of_nonneg hr2.1] at this
    exact this
  have hs := su_split (fun p => bt (ikA r x y) p) (a := r 2) hr2.1 (4 - r 2).toNat
  rw [Int.toNat_of_nonneg (by omega), show r 2 + (4 - r 2) = 4 by omega] at hs
  rw [bc_4 hik.1 hik.2, hs]
  have e1 : su (fun p => bt (ikA r x y) p) (r 2) = su (fun p => b2 (dotAt r p x y)) (r 2) := su_ext fun p p0 p1 => by
    have e5 := hbt p p0 (by omega)
    rw [if_pos p1] at e5
    exact e5.trans (b2_c (dotAt_put hr p0 p1 x0 x1 y0 y1).symm)
  have e2 : su (fun i => bt (ikA r x y) (r 2 + i)) (4 - r 2) = su (fun _ => 0) (4 - r 2) := su_ext fun p p0 p1 => by
    rw [hbt _ (by omega) (by omega), if_neg (by omega)]
  have e3 : su (fun _ => (0 : Int)) (4 - r 2) = 0 := sm_zero _
  rw [e1, e2, e3]
  omega
theorem dots_all {r : Row} (hr : okRow r) : su2 (fun x y => bc (ikA r x y)) (r 0) (r 1) = dotsAll r := by
  rw [su2_ext (g := fun x y => su (fun p => b2 (dotAt r p x y)) (r 2)) (fun x y x0 x1 y0 y1 => bc_dots hr x0 x1 y0 y1), su2_swap]
  rfl
theorem printed_rt (hI : CIc μ c u h tx fed fa) (hM : Mtc μ X (h 0) L e cap ids T) : ∃ ν, FL_isPrinted 1 L T (h 0 3) μ = RT 1 ν ∧ CIc ν c u h tx fed fa ∧ UpFr μ ν := by
  have hr := hI.1.cur.1
  have hr1 := hr.1
  have hr2 := hr.2.1
  have hik : ∀ x y, 0 ≤ bc (ikA (h 0) x y) ∧ bc (ikA (h 0) x y) ≤ 16 := fun x y => by
    have h1 : 0 ≤ ikA (h 0) x y ∧ ikA (h 0) x y < 16 := ik_16 (h 0) x y (h 0 2).toNat (by omega)
    exact bc_le h1.1 (by omega)
  have hgo := dblR (fun n x0 x1 x2 x3 x4 x5 ν => LL_isPrinted_6 n x0 x1 x2 x3 x4 x5 ν) (fun k (s : Int × Mem) y => k 1 L T (h 0 3) s.1 y s.2) (fun k n (s : Int × Mem) y x => LL_isPrinted_16 k n 1 L T (h 0 3) s.1 y x s.2) (h 0 0) (h 0 1) (fun x y (s : Int × Mem) => s.1 = su2 (fun x y => bc (ikA (h 0) x y)) (h 0 0) y + su (fun x => bc (ikA (h 0) x y)) x ∧ CIc s.2 c u h tx fed fa ∧ UpFr μ s.2) (fun R => ∃ ν, R = RT 1 ν ∧ CIc ν c u h tx fed fa ∧ UpFr μ ν) (by omega) (by omega) (fun n s y y0 y1 hs => ?_) (fun n s hs => ?_) (fun k n s y x y0 y1 x0 x1 hs => ?_) (fun k n s y y0 y1 hs => ?_) FU 0 (0, μ) (Int.le_refl _) (by omega) (by rw [show ((FU : Nat) : Int) = 20000 from rfl]; omega) ⟨by rw [su_0]; rfl, hI, UpFr.rf hI.1.1⟩
  · exact hgo
  · have hT := (hM.ng hs.2.2.ng).2.2.2.1
    show BL_isPrinted_6 _ 1 L T (h 0 3) s.1 y s.2 = _
    unfold BL_isPrinted_6
    rw [LN_of hT.1.2.2.1 hT.1.2.2.2, if_neg (by omega)]
  · have hT := (hM.ng hs.2.2.ng).2.2.2.1
    obtain ⟨ν, e1, i1, -, f1⟩ := state_rt hs.2.1 (w := 4) (by omega) (by omega)
    refine ⟨ν, ?_, i1, hs.2.2.tr f1⟩
    have ha : stV (h 0) 4 = s.1 := by
      rw [hs.1, su_0, Int.add_zero, dots_all hr]
      rfl
    show BL_isPrinted_6 _ 1 L T (h 0 3) s.1 (h 0 1) s.2 = _
    unfold BL_isPrinted_6
    rw [LN_of hT.1.2.2.1 hT.1.2.2.2, if_pos (Int.le_refl _), hs.2.1.1.1.k6, e1]
    simp only [CL, CLX_rt]
    rw [if_neg (fun w => w ha)]
    rfl
  · have b1 := su2_le (f := fun x y => bc (ikA (h 0) x y)) (w := h 0 0) (h := y) (B := 16) (by omega) y0 (fun x y _ _ _ _ => hik x y)
    have b2 := su_le (f := fun x => bc (ikA (h 0) x y)) (n := x) (B := 16) x0 (fun x _ _ => hik x y)
    have b3 := mul_le_of (a := y) (b := h 0 0 * 16) (c := 12) (d := 256) y0 (by omega) (by omega) (by omega)
    obtain ⟨ν, e1, i1, f1⟩ := ce_step (k6 := k) (all := s.1) hs.2.1 (hM.ng hs.2.2.ng) ⟨⟨x0, x1⟩, y0, y1⟩ (by rw [hs.1]; omega) (by rw [hs.1]; omega) n
    refine ⟨(s.1 + bc (ikA (h 0) x y), ν), ⟨?_, i1, hs.2.2.tr f1⟩, e1⟩
    show s.1 + bc (ikA (h 0) x y) = _
    rw [su_s _ x0, hs.1]
    omega
  · have hT := (hM.ng hs.2.2.ng).2.2.2.1
    have hTy := (hT.2 y y0 y1).1
    refine ⟨⟨?_, hs.2⟩, ?_⟩
    · rw [hs.1, su_0, Int.add_zero]
      unfold su2
      rw [su_s _ y0]
    · show BL_isPrinted_16 k _ 1 L T (h 0 3) s.1 y (h 0 0) s.2 = _
      unfold BL_isPrinted_16
      rw [AL_go hT.1.2.2.1 hT.1.2.2.2 y0 y1 hTy.1, LN_of hTy.2.1 hTy.2.2, if_pos (Int.le_refl _), w32_eq (by omega) (by omega)]
end PRA
