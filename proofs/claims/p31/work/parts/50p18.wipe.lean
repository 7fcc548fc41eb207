/-! the component's face: clean, dirty -/
def WipS (r r' : Row) (p : Int) : Prop := ∀ j, ¬ (210 + 1226 * p ≤ j ∧ j ≤ 221 + 1226 * p) → r' j = r j
section WIP
variable {r r' : Row} {p : Int}
theorem WipS.lo (h : WipS r r' p) (p0 : 0 ≤ p) {j : Int} (hj : j < 196) : r' j = r j := h j (by omega)
theorem WipS.o (h : WipS r r' p) {q k : Int} (k0 : 0 ≤ k) (k1 : k < 1226) (hk : ¬ (q = p ∧ 14 ≤ k ∧ k ≤ 25)) : rO r' q k = rO r q k := h _ (by omega)
theorem WipS.cd (h : WipS r r' p) (q : Int) : CdS r r' q := fun k hk => h.o (by omega) (by omega) (by omega)
theorem WipS.ok (h : WipS r r' p) (p0 : 0 ≤ p) (hr : okRow r) (hw : ∀ y, 0 ≤ y → y < r 1 → (0 ≤ rO r' p (14 + y) ∧ rO r' p (14 + y) < 65536) ∧ ∀ x, r 0 ≤ x → x < 16 → bt (rO r' p (14 + y)) x = 0) : okRow r' := by
  obtain ⟨a, b, d, e, f⟩ := hr
  refine ⟨by rw [h.lo p0 (by omega), h.lo p0 (by omega)]; exact a, by rw [h.lo p0 (by omega)]; exact b, by rw [h.lo p0 (by omega)]; exact d, fun x y x0 x1 y0 y1 => ?_, fun q q0 q1 => ?_⟩
  · rw [h.lo p0 (by omega)] at x1 y1
    have : rT r' x y = rT r x y := h.lo p0 (by omega)
    rw [this]
    exact e x y x0 x1 y0 y1
  · rw [h.lo p0 (by omega)] at q1
    obtain ⟨q1', q2, q3, q4, g5, g6, g7, g8, g9⟩ := f q q0 q1
    refine ⟨?_, ?_, ?_, ?_, fun y y0 y1 => ?_, g6.ext (h.cd q), ?_, ?_, fun j j0 j1 => ?_⟩
    · rw [h.o (k := 7) (by omega) (by omega) (by omega), h.o (k := 8) (by omega) (by omega) (by omega)]; exact q1'
    · rw [h.o (k := 9) (by omega) (by omega) (by omega)]; exact q2
    · rw [h.o (k := 10) (by omega) (by omega) (by omega), h.o (k := 11) (by omega) (by omega) (by omega)]; exact q3
    · rw [h.o (k := 12) (by omega) (by omega) (by omega)]; exact q4
    · rw [h.lo p0 (by omega)] at y1
      rw [h.lo p0 (j := 0) (by omega)]
      by_cases e : q = p
      · rw [e]
        exact hw y y0 y1
      · rw [h.o (by omega) (by omega) (by omega)]
        exact g5 y y0 y1
    · rw [h.o (k := 0) (by omega) (by omega) (by omega)]; exact g7
    · rw [h.o (k := 0) (by omega) (by omega) (by omega)]; exact g8
    · rw [h.o (k := 0) (by omega) (by omega) (by omega)] at j1
      rw [h.o (by omega) (by omega) (by omega)]
      exact g9 j j0 j1
theorem WipS.sht {μ ν : Mem} {d : Int} (h : WipS r r' p) (p0 : 0 ≤ p) (hr : okRow r) (hT : Sht μ d r) (hfr : ∀ z k, ¬ (z = 28 + 8 * d ∧ 0 ≤ k) → ν z k = μ z k) (d0 : 0 ≤ d) (d1 : d < 10) (hb : ∀ x y, 0 ≤ x → x < r 0 → 0 ≤ y → y < r 1 → (0 ≤ ν (28 + 8 * d) (y * r 0 + x) ∧ ν (28 + 8 * d) (y * r 0 + x) < 16) ∧ ∀ q, 0 ≤ q → q < 4 → bt (ν (28 + 8 * d) (y * r 0 + x)) q = if q < r 2 then bt (rO r' q (14 + y)) x else 0) : Sht ν d r' := by
  have hr1 := hr.1
  refine ⟨⟨?_, ?_, ?_, ?_⟩, fun x y x0 x1 y0 y1 => ?_, fun x y x0 x1 y0 y1 => ?_, fun q q0 q1 => ?_⟩
  · rw [hfr _ _ (by omega), h.lo p0 (by omega), hT.1.1]
  · rw [hfr _ _ (by omega), h.lo p0 (by omega), hT.1.2.1]
  · rw [hfr _ _ (by omega), h.lo p0 (by omega), hT.1.2.2.1]
  · rw [hfr _ _ (by omega), h.lo p0 (by omega), hT.1.2.2.2]
  · rw [h.lo p0 (by omega)] at x1 y1
    have : rT r' x y = rT r x y := h.lo p0 (by omega)
    rw [hfr _ _ (by omega), h.lo p0 (j := 0) (by omega), this]
    exact hT.2.1 x y x0 x1 y0 y1
  · rw [h.lo p0 (by omega)] at x1 y1
    rw [h.lo p0 (j := 0) (by omega), h.lo p0 (j := 2) (by omega)]
    exact hb x y x0 x1 y0 y1
  · rw [h.lo p0 (by omega)] at q1
    have hk := hr.2.2.2.2 q q0 q1
    obtain ⟨q1', q2, q3, q4, q5⟩ := hT.2.2.2 q q0 q1
    have hcd := h.cd q
    refine ⟨?_, ?_, ?_, fun e => ?_, fun e => ?_⟩
    · rw [hfr _ _ (by omega), nmO_ext hcd hk.2.2.2.2.2.2.2.1, q1']
    · rw [hfr _ _ (by omega), hfr _ _ (by omega), hfr _ _ (by omega), h.o (k := 7) (by omega) (by omega) (by omega), h.o (k := 8) (by omega) (by omega) (by omega), h.o (k := 9) (by omega) (by omega) (by omega)]
      exact q2
    · rw [hfr _ _ (by omega), hfr _ _ (by omega), hfr _ _ (by omega), h.o (k := 10) (by omega) (by omega) (by omega), h.o (k := 11) (by omega) (by omega) (by omega), h.o (k := 12) (by omega) (by omega) (by omega)]
      exact q3
    · rw [h.o (k := 13) (by omega) (by omega) (by omega)] at e
      rw [hfr _ _ (by omega), q4 e]
    · rw [h.o (k := 13) (by omega) (by omega) (by omega)] at e
      rw [hfr _ _ (by omega)]
      exact ((q5 e).ext hcd hk.2.2.2.2.2.1.2.1).fr (fun a k a0 a1 => hfr _ _ (by omega)) (by rw [hfr _ _ (by omega)]; exact Int.le_refl _)
end WIP
def awN (r : Row) (p y : Int) : Nat → Int
  | 0 => 0
  | n + 1 => if spotAt r p n y then bOr (awN r p y n) (bShl 1 n) else awN r p y n
theorem awN_bt (r : Row) (p y : Int) : ∀ n : Nat, n ≤ 16 → (0 ≤ awN r p y n ∧ awN r p y n < 65536) ∧ ∀ i : Int, 0 ≤ i → i < 31 → bt (awN r p y n) i = if i < n then b2 (spotAt r p i y) else 0
  | 0, _ => ⟨by show (0 : Int) ≤ 0 ∧ (0 : Int) < 65536; omega, fun i i0 i1 => by rw [if_neg (by omega)]; exact bt_zero i0 i1⟩
  | n + 1, hn => by
    obtain ⟨h1, h2⟩ := awN_bt r p y n (by omega)
    have hb := bOr_bt (k := 16) (by decide) h1.1 (by omega) (show (0 : Int) ≤ n by omega) (by omega)
    rw [awN]
    by_cases e : spotAt r p n y
    · rw [if_pos e]
      refine ⟨⟨hb.1.1, by have := hb.1.2; omega⟩, fun i i0 i1 => ?_⟩
      rw [hb.2 i i0 i1, h2 i i0 i1]
      by_cases e2 : i = n
      · subst e2
        rw [if_pos rfl, if_pos (by omega), b2_t e]
      · rw [if_neg e2]
        by_cases e3 : i < n
        · rw [if_pos e3, if_pos (by omega)]
        · rw [if_neg e3, if_neg (by omega)]
    · rw [if_neg e]
      refine ⟨h1, fun i i0 i1 => ?_⟩
      rw [h2 i i0 i1]
      by_cases e2 : i = n
      · subst e2
        rw [if_neg (by omega), if_pos (by omega), b2_f e]
      · by_cases e3 : i < n
        · rw [if_pos e3, if_pos (by omega)]
        · rw [if_neg e3, if_neg (by omega)]
def cleanR (r : Row) (p : Int) : Row := fun j => if 210 + 1226 * p ≤ j ∧ j < 210 + 1226 * p + r 1 then bOr (r j) (awN r p (j - 210 - 1226 * p) (r 0).toNat) else r j
def dirtyR (r : Row) (p : Int) : Row := fun j => if 210 + 1226 * p ≤ j ∧ j ≤ 221 + 1226 * p then 0 else r j
theorem cleanR_at {r : Row} {p y : Int} (y0 : 0 ≤ y) (y1 : y < r 1) : rO (cleanR r p) p (14 + y) = bOr (rO r p (14 + y)) (awN r p y (r 0).toNat) := by
  show (if 210 + 1226 * p ≤ 196 + 1226 * p + (14 + y) ∧ 196 + 1226 * p + (14 + y) < 210 + 1226 * p + r 1 then bOr (rO r p (14 + y)) (awN r p (196 + 1226 * p + (14 + y) - 210 - 1226 * p) (r 0).toNat) else _) = _
  rw [if_pos (by omega), show 196 + 1226 * p + (14 + y) - 210 - 1226 * p = y by omega]
theorem dirtyR_at {r : Row} {p y : Int} (y0 : 0 ≤ y) (y1 : y < 12) : rO (dirtyR r p) p (14 + y) = 0 := if_pos (by omega)
theorem cleanR_w {r : Row} {p : Int} (hr : okRow r) : WipS r (cleanR r p) p := fun j hj => if_neg (by have := hr.1; omega)
theorem dirtyR_w {r : Row} {p : Int} : WipS r (dirtyR r p) p := fun j hj => if_neg hj
theorem cleanR_bt {r : Row} {p x y : Int} (hr : okRow r) (p0 : 0 ≤ p) (p1 : p < r 2) (y0 : 0 ≤ y) (y1 : y < r 1) (x0 : 0 ≤ x) (x1 : x < 31) : bt (rO (cleanR r p) p (14 + y)) x = if x < r 0 ∧ spotAt r p x y then 1 else bt (rO r p (14 + y)) x := by
  have ho := (hr.2.2.2.2 p p0 p1).2.2.2.2.1 y y0 y1
  have hr1 := hr.1
  have ha := awN_bt r p y (r 0).toNat (by omega)
  rw [cleanR_at y0 y1, (bOr_bt2 ho.1.1 ho.1.2 ha.1.1 ha.1.2).2 x x0 x1, ha.2 x x0 x1]
  by_cases e : x < r 0 ∧ spotAt r p x y
  · have hc : x < ((r 0).toNat : Int) := by omega
    rw [if_pos hc, b2_t e.2, if_pos rfl, if_pos e]
  · rw [if_neg (c := x < r 0 ∧ spotAt r p x y) e]
    by_cases e2 : x < ((r 0).toNat : Int)
    · rw [if_pos e2, b2_f (fun k => e ⟨by omega, k⟩), if_neg (by omega)]
    · rw [if_neg e2, if_neg (by omega)]
theorem cleanR_ok {r : Row} {p : Int} (hr : okRow r) (p0 : 0 ≤ p) (p1 : p < r 2) : okRow (cleanR r p) := by
  refine (cleanR_w hr).ok p0 hr fun y y0 y1 => ⟨?_, fun x x0 x1 => ?_⟩
  · have ho := (hr.2.2.2.2 p p0 p1).2.2.2.2.1 y y0 y1
    have ha := awN_bt r p y (r 0).toNat (by have := hr.1; omega)
    rw [cleanR_at y0 y1]
    exact (bOr_bt2 ho.1.1 ho.1.2 ha.1.1 ha.1.2).1
  · have ho := (hr.2.2.2.2 p p0 p1).2.2.2.2.1 y y0 y1
    have hr1 := hr.1
    rw [cleanR_bt hr p0 p1 y0 y1 (by omega) (by omega), if_neg (by omega)]
    exact ho.2 x x0 x1
theorem dirtyR_ok {r : Row} {p : Int} (hr : okRow r) (p0 : 0 ≤ p) : okRow (dirtyR r p) := by
  have hr1 := hr.1
  refine dirtyR_w.ok p0 hr fun y y0 y1 => ?_
  rw [dirtyR_at y0 (by omega)]
  exact ⟨by omega, fun x x0 x1 => bt_zero (by omega) (by omega)⟩
section WIP2
variable {μ : Mem} {c u fed fa : Int} {h : Int → Row} {tx : Int → Int}
theorem cells2_rt (hS : CSh μ) {c w q : Int} (c0 : 0 ≤ c) (c1 : c < 10) (hw : μ (25 + 8 * c) 0 = w) (hh : μ (25 + 8 * c) 1 = q) (hw1 : 1 ≤ w ∧ w ≤ 16) (hq1 : 1 ≤ q ∧ q ≤ 12) : FX5_cells (25 + 8 * c) μ = RT (q * w) μ := by
  have h2 := mul_le_of (a := w) (b := q) (c := 16) (d := 12) (by omega) (by omega) (by omega) (by omega)
  simp (disch := omega) only [FX5_cells, BX5_cells_0, ↓hS.g6_0, ↓hS.g6_1, ↓hS.g6_2, ↓hS.g6_3, ↓hS.g6_4, ↓hS.g6_5, ↓hS.g6_7, ↓hS.g6_8, ↓hS.k6, ↓hS.g2_0, ↓hS.g2_1, ↓hS.g2_2, ↓hS.g2_3, ↓hS.g2_4, ↓hS.g2_5, ↓hS.g2_6, ↓hS.g2_7, ↓hS.k2, ↓hS.g3_0, ↓hS.g3_1, ↓hS.g3_2, ↓hS.g3_3, ↓hS.g3_4, ↓hS.k3, ↓hS.g4_0, ↓hS.g4_1, ↓hS.g4_3, ↓hS.g4_5, ↓hS.g4_6, ↓hS.g4_7, ↓hS.g4_8, ↓hS.g4_9, ↓hS.g4_10, ↓hS.g4_12, ↓hS.g4_11, ↓hS.k4, ↓hS.g5_0, ↓hS.g5_1, ↓hS.g5_2, ↓hS.g5_3, ↓hS.g5_4, ↓hS.g5_5, ↓hS.g5_6, ↓hS.k5, ↓hS.g1_0, ↓hS.g1_1, ↓hS.g1_2, ↓hS.g1_3, ↓hS.g1_4, ↓hS.g1_5, ↓hS.g1_6, ↓hS.g1_7, ↓hS.k1, ↓hS.l3, ↓hS.n3, ↓hS.l26, ↓hS.n26, ↓hS.l5, ↓hS.n5, ↓hS.l12, ↓hS.n12, ↓hS.l6, ↓hS.n6, ↓hS.l10, ↓hS.n10, ↓hS.l11, ↓hS.n11, ↓hS.l13, ↓hS.n13, ↓hS.l14, ↓hS.n14, ↓hS.l16, ↓hS.n16, ↓hS.l24, ↓hS.n24, ↓hS.l27, ↓hS.n27, ↓hS.l28, ↓hS.n28, ↓hS.l2, ↓hS.n2, hw, hh, w32_eq]
  rw [Int.mul_comm]
theorem cells2_rt_c (hS : CSh μ) {c w q : Int} (c0 : 0 ≤ c) (c1 : c < 10) (hw : μ (25 + 8 * c) 0 = w) (hh : μ (25 + 8 * c) 1 = q) (hw1 : 1 ≤ w ∧ w ≤ 16) (hq1 : 1 ≤ q ∧ q ≤ 12) {K : Int → Mem → Rz} {X : Int → Int → Mem → Rz} : CLX (FX5_cells (25 + 8 * c) μ) K X = K (q * w) μ := by
  rw [cells2_rt hS c0 c1 hw hh hw1 hq1]
  rfl
end WIP2

