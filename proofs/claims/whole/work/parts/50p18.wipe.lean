/-! the component's face: clean, dirty -/
def WipS (r r' : Row) (p : Int) : Prop := ∀ j, ¬ (210 + 1226 * p ≤ j ∧ j ≤ 221 + 1226 * p) → r' j = r j
section WIP
variable {r r' : Row} {p : Int}
theorem WipS.lo (h : WipS r r' p) (p0 : 0 ≤ p) {j : Int} (hj : j < 196) : r' j = r j := h j (by omega)
theorem WipS.o (h : WipS r r' p) {q k : Int} (k0 : 0 ≤ k) (k1 : k < 1226) (hk : ¬ (q = p ∧ 14 ≤ k ∧ k ≤ 25)) : rO r' q k = rO r q k := h _ (by omega)
theorem WipS.cd (h : WipS r r' p) (q : Int) : CdS r r' q := fun k hk => h.o (by omega) (by omega) (by omega)
theorem WipS.ok (h : WipS r r' p) (p0 : 0 ≤ p) (hr : okRow r) (hw : ∀ y, 0 ≤ y → y < r 1 → (0 ≤ rO r' p (14 + y) ∧ rO r' p (14 + y) < 65536) ∧ ∀ x, r 0 ≤ x → x < 16 → bt (rO r' p (14 + y)) x = 0) : okRow r' := by
  obtain ⟨a, b, d, e, f⟩ := hr
  refine ⟨by rw [h.lo p0 (by omega), h.lo p0 (by omega)]; exact a, by rw [h.lo p0 (by omega)]; exact b, by rw [h.lo p0 (by omega)]; exact d, fun x y x0 x1 y0 y1 => ?_, fun q q0 q1 => ?_⟩
  · rw [h.lo p0 (by omega)] at x1 y1
    have : rT r' x y = rT r x y := h.lo p0 (by omega)
    rw [this]
    exact e x y x0 x1 y0 y1
  · rw [h.lo p0 (by omega)] at q1
    obtain ⟨q1', q2, q3, q4, g5, g6, g7, g8, g9⟩ := f q q0 q1
    refine ⟨?_, ?_, ?_, ?_, fun y y0 y1 => ?_, g6.ext (h.cd q), ?_, ?_, fun j j0 j1 => ?_⟩
    · rw [h.o (k := 7) (by omega) (by omega) (by omega), h.o (k := 8) (by omega) (by omega) (by omega)]; exact q1'
    · rw [h.o (k := 9) (by omega) (by omega) (by omega)]; exact q2
    · rw [h.o (k := 10) (by omega) (by omega) (by omega), h.o (k := 11) (by omega) (by omega) (by omega)]; exact q3
    · rw [h.o (k := 12) (by omega) (by omega) (by omega)]; exact q4
    · rw [h.lo p0 (by omega)] at y1
      rw [h.lo p0 (j := 0) (by omega)]
      by_cases e : q = p
      · rw [e]
        exact hw y y0 y1
      · rw [h.o (by omega) (by omega) (by omega)]
        exact g5 y y0 y1
    · rw [h.o (k := 0) (by omega) (by omega) (by omega)]; exact g7
    · rw [h.o (k := 0) (by omega) (by omega) (by omega)]; exact g8
    · rw [h.o (k := 0) (by omega) (by omega) (by omega)] at j1
      rw [h.o (by omega) (by omega) (by omega)]
      exact g9 j j0 j1
theorem WipS.sht {μ ν : Mem} {d : Int} (h : WipS r r' p) (p0 : 0 ≤ p) (hr : okRow r) (hT : Sht μ d r) (hfr : ∀ z k, ¬ (z = 28 + 8 * d ∧ 0 ≤ k) → ν z k = μ z k) (d0 : 0 ≤ d) (d1 : d < 10) (hb : ∀ x y, 0 ≤ x → x < r 0 → 0 ≤ y → y < r 1 → (0 ≤ ν (28 + 8 * d) (y * r 0 + x) ∧ ν (28 + 8 * d) (y * r 0 + x) < 16) ∧ ∀ q, 0 ≤ q → q < 4 → bt (ν (28 + 8 * d) (y * r 0 + x)) q = if q < r 2 then bt (rO r' q (14 + y)) x else 0) : Sht ν d r' := by
  have hr1 := hr.1
  refine ⟨⟨?_, ?_, ?_, ?_⟩, fun x y x0 x1 y0 y1 => ?_, fun x y x0 x1 y0 y1 => ?_, fun q q0 q1 => ?_⟩
  · rw [hfr _ _ (by omega), h.lo p0 (by omega), hT.1.1]
  · rw [hfr _ _ (by omega), h.lo p0 (by omega), hT.1.2.1]
  · rw [hfr _ _ (by omega), h.lo p0 (by omega), hT.1.2.2.1]
  · rw [hfr _ _ (by omega), h.lo p0 (by omega), hT.1.2.2.2]
  · rw [h.lo p0 (by omega)] at x1 y1
    have : rT r' x y = rT r x y := h.lo p0 (by omega)
    rw [hfr _ _ (by omega), h.lo p0 (j := 0) (by omega), this]
    exact hT.2.1 x y x0 x1 y0 y1
  · rw [h.lo p0 (by omega)] at x1 y1
    rw [h.lo p0 (j := 0) (by omega), h.lo p0 (j := 2) (by omega)]
    exact hb x y x0 x1 y0 y1
  · rw [h.lo p0 (by omega)] at q1
    have hk := hr.2.2.2.2 q q0 q1
    obtain ⟨q1', q2, q3, q4, q5⟩ := hT.2.2.2 q q0 q1
    have hcd := h.cd q
    refine ⟨?_, ?_, ?_, fun e => ?_, fun e => ?_⟩
    · rw [hfr _ _ (by omega), nmO_ext hcd hk.2.2.2.2.2.2.2.1, q1']
    · rw [hfr _ _ (by omega), hfr _ _ (by omega), hfr _ _ (by omega), h.o (k := 7) (by omega) (by omega) (by omega), h.o (k := 8) (by omega) (by omega) (by omega), h.o (k := 9) (by omega) (by omega) (by omega)]
      exact q2
    · rw [hfr _ _ (by omega), hfr _ _ (by omega), hfr _ _ (by omega), h.o (k := 10) (by omega) (by omega) (by omega), h.o (k := 11) (by omega) (by omega) (by omega), h.o (k := 12) (by omega) (by omega) (by omega)]
      exact q3
    · rw [h.o (k := 13) (by omega) (by omega) (by omega)] at e
      rw [hfr _ _ (by omega), q4 e]
    · rw [h.o (k := 13) (by omega) (by omega) (by omega)] at e
      rw [hfr _ _ (by omega)]
      exact ((q5 e).ext hcd hk.2.2.2.2.2.1.2.1).fr (fun a k a0 a1 => hfr _ _ (by omega)) (by rw [hfr _ _ (by omega)]; exact Int.le_refl _)
end WIP
def awN (r : Row) (p y : Int) : Nat → Int
  | 0 => 0
  | n + 1 => if spotAt r p n y then bOr (awN r p y n) (bShl 1 n) else awN r p y n
theorem awN_bt (r : Row) (p y : Int) : ∀ n : Nat, n ≤ 16 → (0 ≤ awN r p y n ∧ awN r p y n < 65536) ∧ ∀ i : Int, 0 ≤ i → i < 31 → bt (awN r p y n) i = if i < n then b2 (spotAt r p i y) else 0
  | 0, _ => ⟨by show (0 : Int) ≤ 0 ∧ (0 : Int) < 65536; omega, fun i i0 i1 => by rw [if_neg (by omega)]; exact bt_zero i0 i1⟩
  | n + 1, hn => by
    obtain ⟨h1, h2⟩ := awN_bt r p y n (by omega)
    have hb := bOr_bt (k := 16) (by decide) h1.1 (by omega) (show (0 : Int) ≤ n by omega) (by omega)
    rw [awN]
    by_cases e : spotAt r p n y
    · rw [if_pos e]
      refine ⟨⟨hb.1.1, by have := hb.1.2; omega⟩, fun i i0 i1 => ?_⟩
      rw [hb.2 i i0 i1, h2 i i0 i1]
      by_cases e2 : i = n
      · subst e2
        rw [if_pos rfl, if_pos (by omega), b2_t e]
      · rw [if_neg e2]
        by_cases e3 : i < n
        · rw [if_pos e3, if_pos (by omega)]
        · rw [if_neg e3, if_neg (by omega)]
    · rw [if_neg e]
      refine ⟨h1, fun i i0 i1 => ?_⟩
      rw [h2 i i0 i1]
      by_cases e2 : i = n
      · subst e2
        rw [if_neg (by omega), if_pos (by omega), b2_f e]
      · by_cases e3 : i < n
        · rw [if_pos e3, if_pos (by omega)]
        · rw [if_neg e3, if_neg (by omega)]
def cleanR (r : Row) (p : Int) : Row := fun j => if 210 + 1226 * p ≤ j ∧ j < 210 + 1226 * p + r 1 then bOr (r j) (awN r p (j - 210 - 1226 * p) (r 0).toNat) else r j
def dirtyR (r : Row) (p : Int) : Row := fun j => if 210 + 1226 * p ≤ j ∧ j ≤ 221 + 1226 * p then 0 else r j
theorem cleanR_at {r : Row} {p y : Int} (y0 : 0 ≤ y) (y1 : y < r 1) : rO (cleanR r p) p (14 + y) = bOr (rO r p (14 + y)) (awN r p y (r 0).toNat) := by
  show (if 210 + 1226 * p ≤ 196 + 1226 * p + (14 + y) ∧ 196 + 1226 * p + (14 + y) < 210 + 1226 * p + r 1 then bOr (rO r p (14 + y)) (awN r p (196 + 1226 * p + (14 + y) - 210 - 1226 * p) (r 0).toNat) else _) = _
  rw [if_pos (by omega), show 196 + 1226 * p + (14 + y) - 210 - 1226 * p = y by omega]
theorem dirtyR_at {r : Row} {p y : Int} (y0 : 0 ≤ y) (y1 : y < 12) : rO (dirtyR r p) p (14 + y) = 0 := if_pos (by omega)
theorem cleanR_w {r : Row} {p : Int} (hr : okRow r) : WipS r (cleanR r p) p := fun j hj => if_neg (by have := hr.1; omega)
theorem dirtyR_w {r : Row} {p : Int} : WipS r (dirtyR r p) p := fun j hj => if_neg hj
theorem cleanR_bt {r : Row} {p x y : Int} (hr : okRow r) (p0 : 0 ≤ p) (p1 : p < r 2) (y0 : 0 ≤ y) (y1 : y < r 1) (x0 : 0 ≤ x) (x1 : x < 31) : bt (rO (cleanR r p) p (14 + y)) x = if x < r 0 ∧ spotAt r p x y then 1 else bt (rO r p (14 + y)) x := by
  have ho := (hr.2.2.2.2 p p0 p1).2.2.2.2.1 y y0 y1
  have hr1 := hr.1
  have ha := awN_bt r p y (r 0).toNat (by omega)
  rw [cleanR_at y0 y1, (bOr_bt2 ho.1.1 ho.1.2 ha.1.1 ha.1.2).2 x x0 x1, ha.2 x x0 x1]
  by_cases e : x < r 0 ∧ spotAt r p x y
  · have hc : x < ((r 0).toNat : Int) := by omega
    rw [if_pos hc, b2_t e.2, if_pos rfl, if_pos e]
  · rw [if_neg (c := x < r 0 ∧ spotAt r p x y) e]
    by_cases e2 : x < ((r 0).toNat : Int)
    · rw [if_pos e2, b2_f (fun k => e ⟨by omega, k⟩), if_neg (by omega)]
    · rw [if_neg e2, if_neg (by omega)]
theorem cleanR_ok {r : Row} {p : Int} (hr : okRow r) (p0 : 0 ≤ p) (p1 : p < r 2) : okRow (cleanR r p) := by
  refine (cleanR_w hr).ok p0 hr fun y y0 y1 => ⟨?_, fun x x0 x1 => ?_⟩
  · have ho := (hr.2.2.2.2 p p0 p1).2.2.2.2.1 y y0 y1
    have ha := awN_bt r p y (r 0).toNat (by have := hr.1; omega)
    rw [cleanR_at y0 y1]
    exact (bOr_bt2 ho.1.1 ho.1.2 ha.1.1 ha.1.2).1
  · have ho := (hr.2.2.2.2 p p0 p1).2.2.2.2.1 y y0 y1
    have hr1 := hr.1
    rw [cleanR_bt hr p0 p1 y0 y1 (by omega) (by omega), if_neg (by omega)]
    exact ho.2 x x0 x1
theorem dirtyR_ok {r : Row} {p : Int} (hr : okRow r) (p0 : 0 ≤ p) : okRow (dirtyR r p) := by
  have hr1 := hr.1
  refine dirtyR_w.ok p0 hr fun y y0 y1 => ?_
  rw [dirtyR_at y0 (by omega)]
  exact ⟨by omega, fun x x0 x1 => bt_zero (by omega) (by omega)⟩
section WIP2
variable {μ : Mem} {c u fed fa : Int} {h : Int → Row} {tx : Int → Int}
theorem clean_rt (hI : CIc μ c u h tx fed fa) {p : Int} (hp : isPl (h 0) p) : ∃ ν, FX6_clean 1 p μ = RT (spotsO (h 0) p) ν ∧ ChP μ ν u h (cleanR (h 0) p) tx fed fa := by
  obtain ⟨ν0, e0, hI0, hK0, hF0, -⟩ := upd_rt hI
  obtain ⟨μ1, e1, hI1, h7, hf⟩ := startChange_rt hI0
  obtain ⟨⟨hS, ⟨c0, c1⟩, ⟨a1, a2, a3⟩, u0, b', d⟩, hB, hP⟩ := id hI1
  have hS0 := hI.1.1
  have ha0 := hI.1.2.2.1
  have hcur := hI1.1.cur
  have hr : okRow (h 0) := hcur.1
  have hT : Sht μ1 ((c + 1) % 10) (h 0) := hcur.2
  have hr1 := hr.1
  have hr2 := hr.2.1
  generalize hd : (c + 1) % 10 = d at *
  have hcf : CFr μ μ1 := ⟨fun z j h1 h2 => by rw [hf _ _ (by omega), hF0.2 _ _ (by omega)], by rw [hf _ _ (by omega), hF0.2 _ _ (by omega)]; exact Int.le_refl _, by rw [hf _ _ (by omega), hF0.2 _ _ (by omega)]; omega, by rw [hf _ _ (by omega), hF0.2 _ _ (by omega)]; omega⟩
  have estart : FX6_clean 1 p μ = LX6_clean_24 FU 1 p 0 0 μ1 := by
    unfold FX6_clean BX6_clean_0
    rw [hS0.k6, reqP_ok hI hp]
    simp (disch := omega) only [CL, ↓CLX_rt, ↓hS0.g6_6 ha0.2.1, ↓hS0.g6_0, ↓hS0.g6_1, ↓hS0.g6_2, ↓hS0.g6_3, ↓hS0.g6_4, ↓hS0.g6_5, ↓hS0.g6_7, ↓hS0.g6_8, ↓hS0.k6, ↓hS0.g2_0, ↓hS0.g2_1, ↓hS0.g2_2, ↓hS0.g2_3, ↓hS0.g2_4, ↓hS0.g2_5, ↓hS0.g2_6, ↓hS0.g2_7, ↓hS0.k2, ↓hS0.g3_0, ↓hS0.g3_1, ↓hS0.g3_2, ↓hS0.g3_3, ↓hS0.g3_4, ↓hS0.k3, ↓hS0.g4_0, ↓hS0.g4_1, ↓hS0.g4_3, ↓hS0.g4_5, ↓hS0.g4_6, ↓hS0.g4_7, ↓hS0.g4_8, ↓hS0.g4_9, ↓hS0.g4_10, ↓hS0.g4_12, ↓hS0.g4_11, ↓hS0.k4, ↓hS0.g5_0, ↓hS0.g5_1, ↓hS0.g5_2, ↓hS0.g5_3, ↓hS0.g5_4, ↓hS0.g5_5, ↓hS0.g5_6, ↓hS0.k5, ↓hS0.g1_0, ↓hS0.g1_1, ↓hS0.g1_2, ↓hS0.g1_3, ↓hS0.g1_4, ↓hS0.g1_5, ↓hS0.g1_6, ↓hS0.g1_7, ↓hS0.k1, ↓hS0.l3, ↓hS0.n3, ↓hS0.l26, ↓hS0.n26, ↓hS0.l5, ↓hS0.n5, ↓hS0.l12, ↓hS0.n12, ↓hS0.l6, ↓hS0.n6, ↓hS0.l10, ↓hS0.n10, ↓hS0.l11, ↓hS0.n11, ↓hS0.l13, ↓hS0.n13, ↓hS0.l14, ↓hS0.n14, ↓hS0.l16, ↓hS0.n16, ↓hS0.l24, ↓hS0.n24, ↓hS0.l27, ↓hS0.n27, ↓hS0.l28, ↓hS0.n28, ↓hS0.l2, ↓hS0.n2]
    rw [e0]
    simp only [↓CLX_rt]
    rw [hI0.1.1.k6, e1]
    rfl
  rw [estart]
  have hPI : PI μ1 (h 0) := fun x y x0 x1 y0 y1 => by
    rw [hf _ _ (by omega)]
    exact hK0.2.1 x y x0 x1 y0 y1
  refine dblR (fun n y0 y1 y2 y3 ν => LX6_clean_24 n y0 y1 y2 y3 ν) (fun k (s : Int × Mem) y => k 1 p s.1 y s.2) (fun k n s y x => LX6_clean_38 k n 1 p s.1 y x s.2) (h 0 0) (h 0 1) (fun x y s => s.1 = su2 (fun x y => b2 (spotAt (h 0) p x y)) (h 0 0) y + su (fun x => b2 (spotAt (h 0) p x y)) x ∧ (∀ z k, ¬ (z = 28 + 8 * d ∧ 0 ≤ k) → s.2 z k = μ1 z k) ∧ ∀ x' y', 0 ≤ x' → x' < h 0 0 → 0 ≤ y' → y' < h 0 1 → s.2 (28 + 8 * d) (y' * h 0 0 + x') = if (y' < y ∨ (y' = y ∧ x' < x)) ∧ spotAt (h 0) p x' y' then bOr (μ1 (28 + 8 * d) (y' * h 0 0 + x')) (bShl 1 p) else μ1 (28 + 8 * d) (y' * h 0 0 + x')) (fun R => ∃ ν, R = RT (spotsO (h 0) p) ν ∧ ChP μ ν u h (cleanR (h 0) p) tx fed fa) (by omega) (by omega) (fun n s y y0 y1 hs => ?_) (fun n s hs => ?_) (fun k n s y x y0 y1 x0 x1 hs => ?_) (fun k n s y y0 y1 hs => ?_) FU 0 (0, μ1) (Int.le_refl _) (by omega) (by rw [show ((FU : Nat) : Int) = 20000 from rfl]; omega) ⟨rfl, fun _ _ _ => rfl, fun x' y' _ _ _ _ => by rw [if_neg (by omega)]⟩
  · obtain ⟨cnt, s⟩ := s
    obtain ⟨g1, g2, g3⟩ := hs
    have g2 : ∀ z k, ¬ (z = 28 + 8 * d ∧ 0 ≤ k) → s z k = μ1 z k := g2
    have hS2 : CSh s := hS.fr fun z k hs => g2 z k (by unfold CSt at hs; omega)
    have b6 : s 1 6 = 25 + 8 * d := by rw [g2 _ _ (by omega), a2]
    have gh : s (25 + 8 * d) 1 = h 0 1 := by rw [g2 _ _ (by omega), hT.1.2.1]
    have hy : ¬ h 0 1 ≤ y := by omega
    simp (disch := omega) only [LX6_clean_24, BX6_clean_24, ↓hS2.g6_6 b6, ↓hS2.g6_0, ↓hS2.g6_1, ↓hS2.g6_2, ↓hS2.g6_3, ↓hS2.g6_4, ↓hS2.g6_5, ↓hS2.g6_7, ↓hS2.g6_8, ↓hS2.k6, ↓hS2.g2_0, ↓hS2.g2_1, ↓hS2.g2_2, ↓hS2.g2_3, ↓hS2.g2_4, ↓hS2.g2_5, ↓hS2.g2_6, ↓hS2.g2_7, ↓hS2.k2, ↓hS2.g3_0, ↓hS2.g3_1, ↓hS2.g3_2, ↓hS2.g3_3, ↓hS2.g3_4, ↓hS2.k3, ↓hS2.g4_0, ↓hS2.g4_1, ↓hS2.g4_3, ↓hS2.g4_5, ↓hS2.g4_6, ↓hS2.g4_7, ↓hS2.g4_8, ↓hS2.g4_9, ↓hS2.g4_10, ↓hS2.g4_12, ↓hS2.g4_11, ↓hS2.k4, ↓hS2.g5_0, ↓hS2.g5_1, ↓hS2.g5_2, ↓hS2.g5_3, ↓hS2.g5_4, ↓hS2.g5_5, ↓hS2.g5_6, ↓hS2.k5, ↓hS2.g1_0, ↓hS2.g1_1, ↓hS2.g1_2, ↓hS2.g1_3, ↓hS2.g1_4, ↓hS2.g1_5, ↓hS2.g1_6, ↓hS2.g1_7, ↓hS2.k1, ↓hS2.l3, ↓hS2.n3, ↓hS2.l26, ↓hS2.n26, ↓hS2.l5, ↓hS2.n5, ↓hS2.l12, ↓hS2.n12, ↓hS2.l6, ↓hS2.n6, ↓hS2.l10, ↓hS2.n10, ↓hS2.l11, ↓hS2.n11, ↓hS2.l13, ↓hS2.n13, ↓hS2.l14, ↓hS2.n14, ↓hS2.l16, ↓hS2.n16, ↓hS2.l24, ↓hS2.n24, ↓hS2.l27, ↓hS2.n27, ↓hS2.l28, ↓hS2.n28, ↓hS2.l2, ↓hS2.n2, gh, hy, ↓reduceIte]
  · obtain ⟨cnt, s⟩ := s
    obtain ⟨g1, g2, g3⟩ := hs
    have g1 : cnt = su2 (fun x y => b2 (spotAt (h 0) p x y)) (h 0 0) (h 0 1) + su (fun x => b2 (spotAt (h 0) p x (h 0 1))) 0 := g1
    have g2 : ∀ z k, ¬ (z = 28 + 8 * d ∧ 0 ≤ k) → s z k = μ1 z k := g2
    have g3 : ∀ x' y', 0 ≤ x' → x' < h 0 0 → 0 ≤ y' → y' < h 0 1 → s (28 + 8 * d) (y' * h 0 0 + x') = if (y' < h 0 1 ∨ (y' = h 0 1 ∧ x' < 0)) ∧ spotAt (h 0) p x' y' then bOr (μ1 (28 + 8 * d) (y' * h 0 0 + x')) (bShl 1 p) else μ1 (28 + 8 * d) (y' * h 0 0 + x') := g3
    have hS2 : CSh s := hS.fr fun z k hs => g2 z k (by unfold CSt at hs; omega)
    have b6 : s 1 6 = 25 + 8 * d := by rw [g2 _ _ (by omega), a2]
    have gh : s (25 + 8 * d) 1 = h 0 1 := by rw [g2 _ _ (by omega), hT.1.2.1]
    rw [su_0, Int.add_zero] at g1
    refine ⟨s, ?_, ⟨d, hI1.set h7 hS2 (fun z k hz => g2 z k (by omega)) (cleanR_ok hr hp.1 hp.2) ((cleanR_w hr).sht hp.1 hr hT g2 c0 c1 fun x y x0 x1 y0 y1 => ?_) (fun hP => hP.ext hr ((cleanR_w hr).lo hp.1 (by omega)) ((cleanR_w hr).lo hp.1 (by omega)) ((cleanR_w hr).lo hp.1 (by omega)) (fun x y x0 x1 y0 y1 => (cleanR_w hr).lo hp.1 (by omega)) (fun q _ _ => (cleanR_w hr).cd q))⟩, fun z j k1 k2 => by rw [g2 _ _ (by omega)]; exact hcf.1 z j k1 k2, by rw [g2 _ _ (by omega)]; exact hcf.2.1, by rw [g2 _ _ (by omega)]; exact hcf.2.2.1, by rw [g2 _ _ (by omega)]; exact hcf.2.2.2⟩
    · simp (disch := omega) only [LX6_clean_24, BX6_clean_24, ↓hS2.g6_6 b6, ↓hS2.g6_0, ↓hS2.g6_1, ↓hS2.g6_2, ↓hS2.g6_3, ↓hS2.g6_4, ↓hS2.g6_5, ↓hS2.g6_7, ↓hS2.g6_8, ↓hS2.k6, ↓hS2.g2_0, ↓hS2.g2_1, ↓hS2.g2_2, ↓hS2.g2_3, ↓hS2.g2_4, ↓hS2.g2_5, ↓hS2.g2_6, ↓hS2.g2_7, ↓hS2.k2, ↓hS2.g3_0, ↓hS2.g3_1, ↓hS2.g3_2, ↓hS2.g3_3, ↓hS2.g3_4, ↓hS2.k3, ↓hS2.g4_0, ↓hS2.g4_1, ↓hS2.g4_3, ↓hS2.g4_5, ↓hS2.g4_6, ↓hS2.g4_7, ↓hS2.g4_8, ↓hS2.g4_9, ↓hS2.g4_10, ↓hS2.g4_12, ↓hS2.g4_11, ↓hS2.k4, ↓hS2.g5_0, ↓hS2.g5_1, ↓hS2.g5_2, ↓hS2.g5_3, ↓hS2.g5_4, ↓hS2.g5_5, ↓hS2.g5_6, ↓hS2.k5, ↓hS2.g1_0, ↓hS2.g1_1, ↓hS2.g1_2, ↓hS2.g1_3, ↓hS2.g1_4, ↓hS2.g1_5, ↓hS2.g1_6, ↓hS2.g1_7, ↓hS2.k1, ↓hS2.l3, ↓hS2.n3, ↓hS2.l26, ↓hS2.n26, ↓hS2.l5, ↓hS2.n5, ↓hS2.l12, ↓hS2.n12, ↓hS2.l6, ↓hS2.n6, ↓hS2.l10, ↓hS2.n10, ↓hS2.l11, ↓hS2.n11, ↓hS2.l13, ↓hS2.n13, ↓hS2.l14, ↓hS2.n14, ↓hS2.l16, ↓hS2.n16, ↓hS2.l24, ↓hS2.n24, ↓hS2.l27, ↓hS2.n27, ↓hS2.l28, ↓hS2.n28, ↓hS2.l2, ↓hS2.n2, gh, Int.le_refl, ↓reduceIte]
      rw [g1]
      rfl
    · have hw := hT.2.2.1 x y x0 x1 y0 y1
      have hb := bOr_bt (k := 4) (by decide) hw.1.1 hw.1.2 hp.1 (show p < ((4 : Nat) : Int) by omega)
      rw [g3 x y x0 x1 y0 y1]
      by_cases e : spotAt (h 0) p x y
      · rw [if_pos ⟨Or.inl y1, e⟩]
        refine ⟨⟨hb.1.1, by have := hb.1.2; omega⟩, fun q q0 q1 => ?_⟩
        rw [hb.2 q q0 (by omega)]
        by_cases e2 : q = p
        · rw [if_pos e2, e2, if_pos hp.2, cleanR_bt hr hp.1 hp.2 y0 y1 x0 (by omega), if_pos ⟨x1, e⟩]
        · rw [if_neg e2, hw.2 q q0 q1, (cleanR_w hr).o (by omega) (by omega) (by omega)]
      · rw [if_neg (fun k => e k.2)]
        refine ⟨hw.1, fun q q0 q1 => ?_⟩
        rw [hw.2 q q0 q1]
        by_cases e2 : q = p
        · rw [e2, cleanR_bt hr hp.1 hp.2 y0 y1 x0 (by omega), if_neg (c := x < h 0 0 ∧ spotAt (h 0) p x y) (fun k => e k.2)]
        · rw [(cleanR_w hr).o (by omega) (by omega) (by omega)]
  · obtain ⟨cnt, s⟩ := s
    obtain ⟨g1, g2, g3⟩ := hs
    have g1 : cnt = su2 (fun x y => b2 (spotAt (h 0) p x y)) (h 0 0) y + su (fun x => b2 (spotAt (h 0) p x y)) x := g1
    have g2 : ∀ z k, ¬ (z = 28 + 8 * d ∧ 0 ≤ k) → s z k = μ1 z k := g2
    have g3 : ∀ x' y', 0 ≤ x' → x' < h 0 0 → 0 ≤ y' → y' < h 0 1 → s (28 + 8 * d) (y' * h 0 0 + x') = if (y' < y ∨ (y' = y ∧ x' < x)) ∧ spotAt (h 0) p x' y' then bOr (μ1 (28 + 8 * d) (y' * h 0 0 + x')) (bShl 1 p) else μ1 (28 + 8 * d) (y' * h 0 0 + x') := g3
    have hS2 : CSh s := hS.fr fun z k hs => g2 z k (by unfold CSt at hs; omega)
    have b6 : s 1 6 = 25 + 8 * d := by rw [g2 _ _ (by omega), a2]
    have gw : s (25 + 8 * d) 0 = h 0 0 := by rw [g2 _ _ (by omega), hT.1.1]
    have gh : s (25 + 8 * d) 1 = h 0 1 := by rw [g2 _ _ (by omega), hT.1.2.1]
    have hPI2 : PI s (h 0) := fun x y x0 x1 y0 y1 => by
      rw [g2 _ _ (by omega)]
      exact hPI x y x0 x1 y0 y1
    have hcc := cell_lt (show h 0 0 ≤ 16 by omega) (show h 0 1 ≤ 12 by omega) x0 x1 y0 y1
    have hx : ¬ h 0 0 ≤ x := by omega
    have q1 := su2_le (f := fun x y => b2 (spotAt (h 0) p x y)) (w := h 0 0) (h := y) (B := 1) (by omega) y0 fun _ _ _ _ _ _ => b2_0
    have q2 := su_le (f := fun x => b2 (spotAt (h 0) p x y)) (n := x) (B := 1) x0 fun _ _ _ => b2_0
    have q3 := mul_le_of (a := y) (b := h 0 0 * 1) (c := 12) (d := 16) (by omega) (by omega) (by omega) (by omega)
    have hv := g3 x y x0 x1 y0 y1
    rw [if_neg (by omega)] at hv
    by_cases e : spotAt (h 0) p x y
    · refine ⟨(cnt + 1, mUp s (28 + 8 * d) (y * h 0 0 + x) (bOr (μ1 (28 + 8 * d) (y * h 0 0 + x)) (bShl 1 p))), ⟨?_, fun z k hz => ?_, fun x' y' x0' x1' y0' y1' => ?_⟩, ?_⟩
      · show cnt + 1 = _
        rw [su_s _ x0, b2_t e, g1]
        omega
      · show mUp s _ _ _ z k = _
        rw [mUp_ne _ _ (by omega)]
        exact g2 z k hz
      · show mUp s _ _ _ _ _ = _
        by_cases e2 : x' = x ∧ y' = y
        · rw [e2.1, e2.2, mUp_same, if_pos ⟨by omega, e⟩]
        · rw [mUp_ne _ _ (fun k => e2 (cell_inj x0' x1' x0 x1 k.2)), g3 x' y' x0' x1' y0' y1']
          by_cases e3 : (y' < y ∨ (y' = y ∧ x' < x)) ∧ spotAt (h 0) p x' y'
          · rw [if_pos e3, if_pos ⟨by omega, e3.2⟩]
          · rw [if_neg e3, if_neg (fun k => e3 ⟨by omega, k.2⟩)]
      · simp (disch := omega) only [LX6_clean_38, BX6_clean_38, BX6_clean_95, ↓hS2.g6_6 b6, ↓hS2.g6_0, ↓hS2.g6_1, ↓hS2.g6_2, ↓hS2.g6_3, ↓hS2.g6_4, ↓hS2.g6_5, ↓hS2.g6_7, ↓hS2.g6_8, ↓hS2.k6, ↓hS2.g2_0, ↓hS2.g2_1, ↓hS2.g2_2, ↓hS2.g2_3, ↓hS2.g2_4, ↓hS2.g2_5, ↓hS2.g2_6, ↓hS2.g2_7, ↓hS2.k2, ↓hS2.g3_0, ↓hS2.g3_1, ↓hS2.g3_2, ↓hS2.g3_3, ↓hS2.g3_4, ↓hS2.k3, ↓hS2.g4_0, ↓hS2.g4_1, ↓hS2.g4_3, ↓hS2.g4_5, ↓hS2.g4_6, ↓hS2.g4_7, ↓hS2.g4_8, ↓hS2.g4_9, ↓hS2.g4_10, ↓hS2.g4_12, ↓hS2.g4_11, ↓hS2.k4, ↓hS2.g5_0, ↓hS2.g5_1, ↓hS2.g5_2, ↓hS2.g5_3, ↓hS2.g5_4, ↓hS2.g5_5, ↓hS2.g5_6, ↓hS2.k5, ↓hS2.g1_0, ↓hS2.g1_1, ↓hS2.g1_2, ↓hS2.g1_3, ↓hS2.g1_4, ↓hS2.g1_5, ↓hS2.g1_6, ↓hS2.g1_7, ↓hS2.k1, ↓hS2.l3, ↓hS2.n3, ↓hS2.l26, ↓hS2.n26, ↓hS2.l5, ↓hS2.n5, ↓hS2.l12, ↓hS2.n12, ↓hS2.l6, ↓hS2.n6, ↓hS2.l10, ↓hS2.n10, ↓hS2.l11, ↓hS2.n11, ↓hS2.l13, ↓hS2.n13, ↓hS2.l14, ↓hS2.n14, ↓hS2.l16, ↓hS2.n16, ↓hS2.l24, ↓hS2.n24, ↓hS2.l27, ↓hS2.n27, ↓hS2.l28, ↓hS2.n28, ↓hS2.l2, ↓hS2.n2, gw, hx, ↓reduceIte, ↓CL, ↓isSpot_rt_c hS2 c0 c1 hr ⟨gw, gh⟩ hPI2, b2_t e, (by decide : ¬ (1 : Int) = 0), ↓idx_rt_c hS2 c0 c1 gw, hv, ↓hS2.s28 c0 c1, w32_eq]
    · refine ⟨(cnt, s), ⟨?_, g2, fun x' y' x0' x1' y0' y1' => ?_⟩, ?_⟩
      · show cnt = _
        rw [su_s _ x0, b2_f e, g1]
        omega
      · show s _ _ = _
        rw [g3 x' y' x0' x1' y0' y1']
        by_cases e2 : x' = x ∧ y' = y
        · rw [e2.1, e2.2, if_neg (fun k => e k.2), if_neg (fun k => e k.2)]
        · by_cases e3 : (y' < y ∨ (y' = y ∧ x' < x)) ∧ spotAt (h 0) p x' y'
          · rw [if_pos e3, if_pos ⟨by omega, e3.2⟩]
          · rw [if_neg e3, if_neg (fun k => e3 ⟨by omega, k.2⟩)]
      · simp (disch := omega) only [LX6_clean_38, BX6_clean_38, BX6_clean_95, ↓hS2.g6_6 b6, ↓hS2.g6_0, ↓hS2.g6_1, ↓hS2.g6_2, ↓hS2.g6_3, ↓hS2.g6_4, ↓hS2.g6_5, ↓hS2.g6_7, ↓hS2.g6_8, ↓hS2.k6, ↓hS2.g2_0, ↓hS2.g2_1, ↓hS2.g2_2, ↓hS2.g2_3, ↓hS2.g2_4, ↓hS2.g2_5, ↓hS2.g2_6, ↓hS2.g2_7, ↓hS2.k2, ↓hS2.g3_0, ↓hS2.g3_1, ↓hS2.g3_2, ↓hS2.g3_3, ↓hS2.g3_4, ↓hS2.k3, ↓hS2.g4_0, ↓hS2.g4_1, ↓hS2.g4_3, ↓hS2.g4_5, ↓hS2.g4_6, ↓hS2.g4_7, ↓hS2.g4_8, ↓hS2.g4_9, ↓hS2.g4_10, ↓hS2.g4_12, ↓hS2.g4_11, ↓hS2.k4, ↓hS2.g5_0, ↓hS2.g5_1, ↓hS2.g5_2, ↓hS2.g5_3, ↓hS2.g5_4, ↓hS2.g5_5, ↓hS2.g5_6, ↓hS2.k5, ↓hS2.g1_0, ↓hS2.g1_1, ↓hS2.g1_2, ↓hS2.g1_3, ↓hS2.g1_4, ↓hS2.g1_5, ↓hS2.g1_6, ↓hS2.g1_7, ↓hS2.k1, ↓hS2.l3, ↓hS2.n3, ↓hS2.l26, ↓hS2.n26, ↓hS2.l5, ↓hS2.n5, ↓hS2.l12, ↓hS2.n12, ↓hS2.l6, ↓hS2.n6, ↓hS2.l10, ↓hS2.n10, ↓hS2.l11, ↓hS2.n11, ↓hS2.l13, ↓hS2.n13, ↓hS2.l14, ↓hS2.n14, ↓hS2.l16, ↓hS2.n16, ↓hS2.l24, ↓hS2.n24, ↓hS2.l27, ↓hS2.n27, ↓hS2.l28, ↓hS2.n28, ↓hS2.l2, ↓hS2.n2, gw, hx, ↓reduceIte, ↓CL, ↓isSpot_rt_c hS2 c0 c1 hr ⟨gw, gh⟩ hPI2, b2_f e, w32_eq]
  · obtain ⟨cnt, s⟩ := s
    obtain ⟨g1, g2, g3⟩ := hs
    have g1 : cnt = su2 (fun x y => b2 (spotAt (h 0) p x y)) (h 0 0) y + su (fun x => b2 (spotAt (h 0) p x y)) (h 0 0) := g1
    have g2 : ∀ z k, ¬ (z = 28 + 8 * d ∧ 0 ≤ k) → s z k = μ1 z k := g2
    have hS2 : CSh s := hS.fr fun z k hs => g2 z k (by unfold CSt at hs; omega)
    have b6 : s 1 6 = 25 + 8 * d := by rw [g2 _ _ (by omega), a2]
    have gw : s (25 + 8 * d) 0 = h 0 0 := by rw [g2 _ _ (by omega), hT.1.1]
    refine ⟨⟨?_, g2, fun x' y' x0' x1' y0' y1' => ?_⟩, ?_⟩
    · show cnt = _
      rw [g1, su_0, Int.add_zero]
      unfold su2
      rw [su_s _ y0]
    · rw [g3 x' y' x0' x1' y0' y1']
      by_cases e3 : (y' < y ∨ (y' = y ∧ x' < h 0 0)) ∧ spotAt (h 0) p x' y'
      · rw [if_pos e3, if_pos ⟨by omega, e3.2⟩]
      · rw [if_neg e3, if_neg (fun k => e3 ⟨by omega, k.2⟩)]
    · simp (disch := omega) only [LX6_clean_38, BX6_clean_38, ↓hS2.g6_6 b6, ↓hS2.g6_0, ↓hS2.g6_1, ↓hS2.g6_2, ↓hS2.g6_3, ↓hS2.g6_4, ↓hS2.g6_5, ↓hS2.g6_7, ↓hS2.g6_8, ↓hS2.k6, ↓hS2.g2_0, ↓hS2.g2_1, ↓hS2.g2_2, ↓hS2.g2_3, ↓hS2.g2_4, ↓hS2.g2_5, ↓hS2.g2_6, ↓hS2.g2_7, ↓hS2.k2, ↓hS2.g3_0, ↓hS2.g3_1, ↓hS2.g3_2, ↓hS2.g3_3, ↓hS2.g3_4, ↓hS2.k3, ↓hS2.g4_0, ↓hS2.g4_1, ↓hS2.g4_3, ↓hS2.g4_5, ↓hS2.g4_6, ↓hS2.g4_7, ↓hS2.g4_8, ↓hS2.g4_9, ↓hS2.g4_10, ↓hS2.g4_12, ↓hS2.g4_11, ↓hS2.k4, ↓hS2.g5_0, ↓hS2.g5_1, ↓hS2.g5_2, ↓hS2.g5_3, ↓hS2.g5_4, ↓hS2.g5_5, ↓hS2.g5_6, ↓hS2.k5, ↓hS2.g1_0, ↓hS2.g1_1, ↓hS2.g1_2, ↓hS2.g1_3, ↓hS2.g1_4, ↓hS2.g1_5, ↓hS2.g1_6, ↓hS2.g1_7, ↓hS2.k1, ↓hS2.l3, ↓hS2.n3, ↓hS2.l26, ↓hS2.n26, ↓hS2.l5, ↓hS2.n5, ↓hS2.l12, ↓hS2.n12, ↓hS2.l6, ↓hS2.n6, ↓hS2.l10, ↓hS2.n10, ↓hS2.l11, ↓hS2.n11, ↓hS2.l13, ↓hS2.n13, ↓hS2.l14, ↓hS2.n14, ↓hS2.l16, ↓hS2.n16, ↓hS2.l24, ↓hS2.n24, ↓hS2.l27, ↓hS2.n27, ↓hS2.l28, ↓hS2.n28, ↓hS2.l2, ↓hS2.n2, gw, Int.le_refl, ↓reduceIte, w32_eq]
theorem clean_no (hI : CIc μ c u h tx fed fa) {p : Int} (hp : ¬ isPl (h 0) p) : FX6_clean 1 p μ = TH 1 μ := by
  unfold FX6_clean BX6_clean_0
  rw [hI.1.1.k6, reqP_no hI hp]
  rfl
theorem cells2_rt (hS : CSh μ) {c w q : Int} (c0 : 0 ≤ c) (c1 : c < 10) (hw : μ (25 + 8 * c) 0 = w) (hh : μ (25 + 8 * c) 1 = q) (hw1 : 1 ≤ w ∧ w ≤ 16) (hq1 : 1 ≤ q ∧ q ≤ 12) : FX5_cells (25 + 8 * c) μ = RT (q * w) μ := by
  have h2 := mul_le_of (a := w) (b := q) (c := 16) (d := 12) (by omega) (by omega) (by omega) (by omega)
  simp (disch := omega) only [FX5_cells, BX5_cells_0, ↓hS.g6_0, ↓hS.g6_1, ↓hS.g6_2, ↓hS.g6_3, ↓hS.g6_4, ↓hS.g6_5, ↓hS.g6_7, ↓hS.g6_8, ↓hS.k6, ↓hS.g2_0, ↓hS.g2_1, ↓hS.g2_2, ↓hS.g2_3, ↓hS.g2_4, ↓hS.g2_5, ↓hS.g2_6, ↓hS.g2_7, ↓hS.k2, ↓hS.g3_0, ↓hS.g3_1, ↓hS.g3_2, ↓hS.g3_3, ↓hS.g3_4, ↓hS.k3, ↓hS.g4_0, ↓hS.g4_1, ↓hS.g4_3, ↓hS.g4_5, ↓hS.g4_6, ↓hS.g4_7, ↓hS.g4_8, ↓hS.g4_9, ↓hS.g4_10, ↓hS.g4_12, ↓hS.g4_11, ↓hS.k4, ↓hS.g5_0, ↓hS.g5_1, ↓hS.g5_2, ↓hS.g5_3, ↓hS.g5_4, ↓hS.g5_5, ↓hS.g5_6, ↓hS.k5, ↓hS.g1_0, ↓hS.g1_1, ↓hS.g1_2, ↓hS.g1_3, ↓hS.g1_4, ↓hS.g1_5, ↓hS.g1_6, ↓hS.g1_7, ↓hS.k1, ↓hS.l3, ↓hS.n3, ↓hS.l26, ↓hS.n26, ↓hS.l5, ↓hS.n5, ↓hS.l12, ↓hS.n12, ↓hS.l6, ↓hS.n6, ↓hS.l10, ↓hS.n10, ↓hS.l11, ↓hS.n11, ↓hS.l13, ↓hS.n13, ↓hS.l14, ↓hS.n14, ↓hS.l16, ↓hS.n16, ↓hS.l24, ↓hS.n24, ↓hS.l27, ↓hS.n27, ↓hS.l28, ↓hS.n28, ↓hS.l2, ↓hS.n2, hw, hh, w32_eq]
  rw [Int.mul_comm]
theorem cells2_rt_c (hS : CSh μ) {c w q : Int} (c0 : 0 ≤ c) (c1 : c < 10) (hw : μ (25 + 8 * c) 0 = w) (hh : μ (25 + 8 * c) 1 = q) (hw1 : 1 ≤ w ∧ w ≤ 16) (hq1 : 1 ≤ q ∧ q ≤ 12) {K : Int → Mem → Rz} {X : Int → Int → Mem → Rz} : CLX (FX5_cells (25 + 8 * c) μ) K X = K (q * w) μ := by
  rw [cells2_rt hS c0 c1 hw hh hw1 hq1]
  rfl
theorem dirty_rt (hI : CIc μ c u h tx fed fa) {p : Int} (hp : isPl (h 0) p) : ∃ ν, FX6_dirty 1 p μ = RT (wipedOf (h 0) p) ν ∧ ChP μ ν u h (dirtyR (h 0) p) tx fed fa := by
  obtain ⟨μ1, e1, hI1, h7, hf⟩ := startChange_rt hI
  obtain ⟨⟨hS, ⟨c0, c1⟩, ⟨a1, a2, a3⟩, u0, b', d⟩, hB, hP⟩ := id hI1
  have hS0 := hI.1.1
  have hcur := hI1.1.cur
  have hr : okRow (h 0) := hcur.1
  have hT : Sht μ1 ((c + 1) % 10) (h 0) := hcur.2
  have hr1 := hr.1
  have hr2 := hr.2.1
  generalize hd : (c + 1) % 10 = d at *
  have hcf := SC_cfr (μ := μ) hf
  have hN := mul_le_of (a := h 0 1) (b := h 0 0) (c := 12) (d := 16) (by omega) (by omega) (by omega) (by omega)
  have hv1 : ∀ i, 0 ≤ i → i < h 0 1 * h 0 0 → 0 ≤ μ1 (28 + 8 * d) i ∧ μ1 (28 + 8 * d) i < 16 := fun i i0 i1 => by
    obtain ⟨x', y', k1, k2, k3, k4, rfl⟩ := cell_of (w := h 0 0) (by omega) i0 i1
    exact (hT.2.2.1 x' y' k1 k2 k3 k4).1
  have etot : su (fun i => b2 (bt (μ1 (28 + 8 * d) i) p = 1)) (h 0 1 * h 0 0) = wipedOf (h 0) p := by
    rw [su_cells hr]
    unfold wipedOf
    rw [su_ext (g := fun y => su (fun x => bt (rO (h 0) p (14 + y)) x) (h 0 0)) fun y y0 y1 => wiped_row hr hp.1 hp.2 y0 y1]
    refine su2_ext (g := fun x y => bt (rO (h 0) p (14 + y)) x) fun x y x0 x1 y0 y1 => ?_
    have hw := hT.2.2.1 x y x0 x1 y0 y1
    have h9 := hw.2 p hp.1 (by omega)
    rw [if_pos hp.2] at h9
    have h01 := bt_01 hw.1.1 (by omega) hp.1 (show p < 31 by omega)
    rw [← h9]
    rcases h01 with q | q
    · rw [q]; rfl
    · rw [q]; rfl
  unfold FX6_dirty BX6_dirty_0
  rw [hS0.k6, reqP_ok hI hp]
  simp only [CL, ↓CLX_rt]
  rw [hS0.k6, e1]
  simp only [↓CLX_rt]
  refine lpR (fun n i (s : Int × Mem) => LX6_dirty_13 n 1 p s.1 i s.2) (fun i s => 0 ≤ i ∧ s.1 = su (fun i => b2 (bt (μ1 (28 + 8 * d) i) p = 1)) i ∧ (∀ z k, ¬ (z = 28 + 8 * d ∧ 0 ≤ k) → s.2 z k = μ1 z k) ∧ ∀ j, 0 ≤ j → j < h 0 1 * h 0 0 → if j < i then (0 ≤ s.2 (28 + 8 * d) j ∧ s.2 (28 + 8 * d) j < 16) ∧ ∀ q, 0 ≤ q → q < 4 → bt (s.2 (28 + 8 * d) j) q = if q = p then 0 else bt (μ1 (28 + 8 * d) j) q else s.2 (28 + 8 * d) j = μ1 (28 + 8 * d) j) (h 0 1 * h 0 0) (fun R => ∃ ν, R = RT (wipedOf (h 0) p) ν ∧ ChP μ ν u h (dirtyR (h 0) p) tx fed fa) (fun n i s i1 hs => ?_) (fun n s hs => ?_) FU 0 (0, μ1) hN.1 (by rw [show ((FU : Nat) : Int) = 20000 from rfl]; omega) ⟨Int.le_refl _, rfl, fun _ _ _ => rfl, fun j j0 j1 => by rw [if_neg (by omega)]⟩
  · obtain ⟨cnt, s⟩ := s
    obtain ⟨i0, g1, g2, g3⟩ := hs
    have g1 : cnt = su (fun i => b2 (bt (μ1 (28 + 8 * d) i) p = 1)) i := g1
    have g2 : ∀ z k, ¬ (z = 28 + 8 * d ∧ 0 ≤ k) → s z k = μ1 z k := g2
    have g3 : ∀ j, 0 ≤ j → j < h 0 1 * h 0 0 → if j < i then (0 ≤ s (28 + 8 * d) j ∧ s (28 + 8 * d) j < 16) ∧ ∀ q, 0 ≤ q → q < 4 → bt (s (28 + 8 * d) j) q = if q = p then 0 else bt (μ1 (28 + 8 * d) j) q else s (28 + 8 * d) j = μ1 (28 + 8 * d) j := g3
    have hS2 : CSh s := hS.fr fun z k hs => g2 z k (by unfold CSt at hs; omega)
    have b6 : s 1 6 = 25 + 8 * d := by rw [g2 _ _ (by omega), a2]
    have gw : s (25 + 8 * d) 0 = h 0 0 := by rw [g2 _ _ (by omega), hT.1.1]
    have gh : s (25 + 8 * d) 1 = h 0 1 := by rw [g2 _ _ (by omega), hT.1.2.1]
    have hx : ¬ h 0 1 * h 0 0 ≤ i := by omega
    have q2 := su_le (f := fun i => b2 (bt (μ1 (28 + 8 * d) i) p = 1)) (n := i) (B := 1) i0 fun _ _ _ => b2_0
    have hv := g3 i i0 i1
    rw [if_neg (by omega)] at hv
    have hvv := hv1 i i0 i1
    have hb := bOff hvv.1 hvv.2 hp.1 (show p < 4 by omega)
    by_cases e : bt (μ1 (28 + 8 * d) i) p = 1
    · refine ⟨(cnt + 1, mUp s (28 + 8 * d) i (bAnd (μ1 (28 + 8 * d) i) (bXor (bShl 1 p) (-1)))), ⟨by omega, ?_, fun z k hz => ?_, fun j j0 j1 => ?_⟩, ?_⟩
      · show cnt + 1 = _
        rw [su_s _ i0, b2_t e, g1]
      · show mUp s _ _ _ z k = _
        rw [mUp_ne _ _ (by omega)]
        exact g2 z k hz
      · have g9 := g3 j j0 j1
        by_cases e2 : j = i
        · subst e2
          rw [if_pos (by omega)]
          show (0 ≤ mUp s _ _ _ _ _ ∧ mUp s _ _ _ _ _ < 16) ∧ ∀ q, 0 ≤ q → q < 4 → bt (mUp s _ _ _ _ _) q = _
          rw [mUp_same]
          exact hb
        · by_cases e3 : j < i
          · rw [if_pos e3] at g9
            rw [if_pos (by omega)]
            show (0 ≤ mUp s _ _ _ _ _ ∧ mUp s _ _ _ _ _ < 16) ∧ ∀ q, 0 ≤ q → q < 4 → bt (mUp s _ _ _ _ _) q = _
            rw [mUp_ne _ _ (by omega)]
            exact g9
          · rw [if_neg e3] at g9
            rw [if_neg (by omega)]
            show mUp s _ _ _ _ _ = _
            rw [mUp_ne _ _ (by omega)]
            exact g9
      · simp (disch := omega) only [LX6_dirty_13, BX6_dirty_13, BX6_dirty_56, ↓hS2.g6_6 b6, ↓hS2.g6_0, ↓hS2.g6_1, ↓hS2.g6_2, ↓hS2.g6_3, ↓hS2.g6_4, ↓hS2.g6_5, ↓hS2.g6_7, ↓hS2.g6_8, ↓hS2.k6, ↓hS2.g2_0, ↓hS2.g2_1, ↓hS2.g2_2, ↓hS2.g2_3, ↓hS2.g2_4, ↓hS2.g2_5, ↓hS2.g2_6, ↓hS2.g2_7, ↓hS2.k2, ↓hS2.g3_0, ↓hS2.g3_1, ↓hS2.g3_2, ↓hS2.g3_3, ↓hS2.g3_4, ↓hS2.k3, ↓hS2.g4_0, ↓hS2.g4_1, ↓hS2.g4_3, ↓hS2.g4_5, ↓hS2.g4_6, ↓hS2.g4_7, ↓hS2.g4_8, ↓hS2.g4_9, ↓hS2.g4_10, ↓hS2.g4_12, ↓hS2.g4_11, ↓hS2.k4, ↓hS2.g5_0, ↓hS2.g5_1, ↓hS2.g5_2, ↓hS2.g5_3, ↓hS2.g5_4, ↓hS2.g5_5, ↓hS2.g5_6, ↓hS2.k5, ↓hS2.g1_0, ↓hS2.g1_1, ↓hS2.g1_2, ↓hS2.g1_3, ↓hS2.g1_4, ↓hS2.g1_5, ↓hS2.g1_6, ↓hS2.g1_7, ↓hS2.k1, ↓hS2.l3, ↓hS2.n3, ↓hS2.l26, ↓hS2.n26, ↓hS2.l5, ↓hS2.n5, ↓hS2.l12, ↓hS2.n12, ↓hS2.l6, ↓hS2.n6, ↓hS2.l10, ↓hS2.n10, ↓hS2.l11, ↓hS2.n11, ↓hS2.l13, ↓hS2.n13, ↓hS2.l14, ↓hS2.n14, ↓hS2.l16, ↓hS2.n16, ↓hS2.l24, ↓hS2.n24, ↓hS2.l27, ↓hS2.n27, ↓hS2.l28, ↓hS2.n28, ↓hS2.l2, ↓hS2.n2, ↓CL, ↓cells2_rt_c hS2 c0 c1 gw gh ⟨hr1.1, hr1.2.1⟩ ⟨hr1.2.2.1, hr1.2.2.2⟩, hx, ↓reduceIte, ↓isCleaned_rt_c hS2 c0 c1, hv, b2_t e, (by decide : ¬ (1 : Int) = 0), ↓hS2.s28 c0 c1, w32_eq]
    · have h0 : bt (μ1 (28 + 8 * d) i) p = 0 := by
        rcases bt_01 hvv.1 (by omega) hp.1 (show p < 31 by omega) with q | q
        · exact q
        · exact absurd q e
      refine ⟨(cnt, s), ⟨by omega, ?_, g2, fun j j0 j1 => ?_⟩, ?_⟩
      · show cnt = _
        rw [su_s _ i0, b2_f e, g1, Int.add_zero]
      · have g9 := g3 j j0 j1
        by_cases e2 : j = i
        · subst e2
          rw [if_pos (by omega)]
          show (0 ≤ s _ _ ∧ s _ _ < 16) ∧ ∀ q, 0 ≤ q → q < 4 → bt (s _ _) q = _
          rw [hv]
          refine ⟨hvv, fun q q0 q1 => ?_⟩
          by_cases e4 : q = p
          · rw [if_pos e4, e4, h0]
          · rw [if_neg e4]
        · by_cases e3 : j < i
          · rw [if_pos e3] at g9
            rw [if_pos (by omega)]
            exact g9
          · rw [if_neg e3] at g9
            rw [if_neg (by omega)]
            exact g9
      · simp (disch := omega) only [LX6_dirty_13, BX6_dirty_13, BX6_dirty_56, ↓hS2.g6_6 b6, ↓hS2.g6_0, ↓hS2.g6_1, ↓hS2.g6_2, ↓hS2.g6_3, ↓hS2.g6_4, ↓hS2.g6_5, ↓hS2.g6_7, ↓hS2.g6_8, ↓hS2.k6, ↓hS2.g2_0, ↓hS2.g2_1, ↓hS2.g2_2, ↓hS2.g2_3, ↓hS2.g2_4, ↓hS2.g2_5, ↓hS2.g2_6, ↓hS2.g2_7, ↓hS2.k2, ↓hS2.g3_0, ↓hS2.g3_1, ↓hS2.g3_2, ↓hS2.g3_3, ↓hS2.g3_4, ↓hS2.k3, ↓hS2.g4_0, ↓hS2.g4_1, ↓hS2.g4_3, ↓hS2.g4_5, ↓hS2.g4_6, ↓hS2.g4_7, ↓hS2.g4_8, ↓hS2.g4_9, ↓hS2.g4_10, ↓hS2.g4_12, ↓hS2.g4_11, ↓hS2.k4, ↓hS2.g5_0, ↓hS2.g5_1, ↓hS2.g5_2, ↓hS2.g5_3, ↓hS2.g5_4, ↓hS2.g5_5, ↓hS2.g5_6, ↓hS2.k5, ↓hS2.g1_0, ↓hS2.g1_1, ↓hS2.g1_2, ↓hS2.g1_3, ↓hS2.g1_4, ↓hS2.g1_5, ↓hS2.g1_6, ↓hS2.g1_7, ↓hS2.k1, ↓hS2.l3, ↓hS2.n3, ↓hS2.l26, ↓hS2.n26, ↓hS2.l5, ↓hS2.n5, ↓hS2.l12, ↓hS2.n12, ↓hS2.l6, ↓hS2.n6, ↓hS2.l10, ↓hS2.n10, ↓hS2.l11, ↓hS2.n11, ↓hS2.l13, ↓hS2.n13, ↓hS2.l14, ↓hS2.n14, ↓hS2.l16, ↓hS2.n16, ↓hS2.l24, ↓hS2.n24, ↓hS2.l27, ↓hS2.n27, ↓hS2.l28, ↓hS2.n28, ↓hS2.l2, ↓hS2.n2, ↓CL, ↓cells2_rt_c hS2 c0 c1 gw gh ⟨hr1.1, hr1.2.1⟩ ⟨hr1.2.2.1, hr1.2.2.2⟩, hx, ↓reduceIte, ↓isCleaned_rt_c hS2 c0 c1, hv, b2_f e, w32_eq]
  · obtain ⟨cnt, s⟩ := s
    obtain ⟨i0, g1, g2, g3⟩ := hs
    have g1 : cnt = su (fun i => b2 (bt (μ1 (28 + 8 * d) i) p = 1)) (h 0 1 * h 0 0) := g1
    have g2 : ∀ z k, ¬ (z = 28 + 8 * d ∧ 0 ≤ k) → s z k = μ1 z k := g2
    have hS2 : CSh s := hS.fr fun z k hs => g2 z k (by unfold CSt at hs; omega)
    have b6 : s 1 6 = 25 + 8 * d := by rw [g2 _ _ (by omega), a2]
    have gw : s (25 + 8 * d) 0 = h 0 0 := by rw [g2 _ _ (by omega), hT.1.1]
    have gh : s (25 + 8 * d) 1 = h 0 1 := by rw [g2 _ _ (by omega), hT.1.2.1]
    refine ⟨s, ?_, ⟨d, hI1.set h7 hS2 (fun z k hz => g2 z k (by omega)) (dirtyR_ok hr hp.1) (dirtyR_w.sht hp.1 hr hT g2 c0 c1 fun x y x0 x1 y0 y1 => ?_) (fun hP => hP.ext hr (dirtyR_w.lo hp.1 (by omega)) (dirtyR_w.lo hp.1 (by omega)) (dirtyR_w.lo hp.1 (by omega)) (fun x y x0 x1 y0 y1 => dirtyR_w.lo hp.1 (by omega)) (fun q _ _ => dirtyR_w.cd q))⟩, fun z j k1 k2 => by rw [g2 _ _ (by omega)]; exact hcf.1 z j k1 k2, by rw [g2 _ _ (by omega)]; exact hcf.2.1, by rw [g2 _ _ (by omega)]; exact hcf.2.2.1, by rw [g2 _ _ (by omega)]; exact hcf.2.2.2⟩
    · simp (disch := omega) only [LX6_dirty_13, BX6_dirty_13, ↓hS2.g6_6 b6, ↓hS2.g6_0, ↓hS2.g6_1, ↓hS2.g6_2, ↓hS2.g6_3, ↓hS2.g6_4, ↓hS2.g6_5, ↓hS2.g6_7, ↓hS2.g6_8, ↓hS2.k6, ↓hS2.g2_0, ↓hS2.g2_1, ↓hS2.g2_2, ↓hS2.g2_3, ↓hS2.g2_4, ↓hS2.g2_5, ↓hS2.g2_6, ↓hS2.g2_7, ↓hS2.k2, ↓hS2.g3_0, ↓hS2.g3_1, ↓hS2.g3_2, ↓hS2.g3_3, ↓hS2.g3_4, ↓hS2.k3, ↓hS2.g4_0, ↓hS2.g4_1, ↓hS2.g4_3, ↓hS2.g4_5, ↓hS2.g4_6, ↓hS2.g4_7, ↓hS2.g4_8, ↓hS2.g4_9, ↓hS2.g4_10, ↓hS2.g4_12, ↓hS2.g4_11, ↓hS2.k4, ↓hS2.g5_0, ↓hS2.g5_1, ↓hS2.g5_2, ↓hS2.g5_3, ↓hS2.g5_4, ↓hS2.g5_5, ↓hS2.g5_6, ↓hS2.k5, ↓hS2.g1_0, ↓hS2.g1_1, ↓hS2.g1_2, ↓hS2.g1_3, ↓hS2.g1_4, ↓hS2.g1_5, ↓hS2.g1_6, ↓hS2.g1_7, ↓hS2.k1, ↓hS2.l3, ↓hS2.n3, ↓hS2.l26, ↓hS2.n26, ↓hS2.l5, ↓hS2.n5, ↓hS2.l12, ↓hS2.n12, ↓hS2.l6, ↓hS2.n6, ↓hS2.l10, ↓hS2.n10, ↓hS2.l11, ↓hS2.n11, ↓hS2.l13, ↓hS2.n13, ↓hS2.l14, ↓hS2.n14, ↓hS2.l16, ↓hS2.n16, ↓hS2.l24, ↓hS2.n24, ↓hS2.l27, ↓hS2.n27, ↓hS2.l28, ↓hS2.n28, ↓hS2.l2, ↓hS2.n2, ↓CL, ↓cells2_rt_c hS2 c0 c1 gw gh ⟨hr1.1, hr1.2.1⟩ ⟨hr1.2.2.1, hr1.2.2.2⟩, Int.le_refl, ↓reduceIte]
      rw [g1, etot]
    · have hcc := cell_lt (show h 0 0 ≤ 16 by omega) (show h 0 1 ≤ 12 by omega) x0 x1 y0 y1
      have g9 := g3 (y * h 0 0 + x) hcc.2.2.1 hcc.2.2.2.1
      rw [if_pos hcc.2.2.2.1] at g9
      have g9 : (0 ≤ s (28 + 8 * d) (y * h 0 0 + x) ∧ s (28 + 8 * d) (y * h 0 0 + x) < 16) ∧ ∀ q, 0 ≤ q → q < 4 → bt (s (28 + 8 * d) (y * h 0 0 + x)) q = if q = p then 0 else bt (μ1 (28 + 8 * d) (y * h 0 0 + x)) q := g9
      refine ⟨g9.1, fun q q0 q1 => ?_⟩
      rw [g9.2 q q0 q1, (hT.2.2.1 x y x0 x1 y0 y1).2 q q0 q1]
      by_cases e : q = p
      · rw [if_pos e, e, if_pos hp.2, dirtyR_at y0 (by omega), bt_zero x0 (by omega)]
      · rw [if_neg e, dirtyR_w.o (by omega) (by omega) (by omega)]
theorem dirty_no (hI : CIc μ c u h tx fed fa) {p : Int} (hp : ¬ isPl (h 0) p) : FX6_dirty 1 p μ = TH 1 μ := by
  unfold FX6_dirty BX6_dirty_0
  rw [hI.1.1.k6, reqP_no hI hp]
  rfl
end WIP2
