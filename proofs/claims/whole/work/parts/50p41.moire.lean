/-! the component: moire, greatest, worst, bestTurn, covered -/
/-- a loop in a loop that starts and ends where the outer one says -/
theorem dblV {K σ : Type} (lo : Nat → K) (ap : K → σ → Int → Rz) (Li : K → Nat → σ → Int → Int → Rz) (st en : Int → Int) (h : Int) (J : Int → σ → Prop) (I : Int → Int → σ → Prop) (Q : Rz → Prop) (hse : ∀ y, 0 ≤ y → y < h → st y ≤ en y ∧ en y - st y < 20000)
    (ho : ∀ (n : Nat) (s : σ) (y : Int), 0 ≤ y → y < h → J y s → I (st y) y s ∧ ap (lo (n + 1)) s y = Li (lo n) FU s y (st y))
    (hoe : ∀ (n : Nat) (s : σ), J h s → Q (ap (lo (n + 1)) s h))
    (hi : ∀ (k : K) (n : Nat) (s : σ) (y x : Int), 0 ≤ y → y < h → st y ≤ x → x < en y → I x y s → ∃ s', I (x + 1) y s' ∧ Li k (n + 1) s y x = Li k n s' y (x + 1))
    (hie : ∀ (k : K) (n : Nat) (s : σ) (y : Int), 0 ≤ y → y < h → I (en y) y s → J (y + 1) s ∧ Li k (n + 1) s y (en y) = ap k s (y + 1)) :
    ∀ (n : Nat) (y : Int) (s : σ), 0 ≤ y → y ≤ h → h - y < n → J y s → Q (ap (lo n) s y)
  | 0, y, s, _, h1, h2, _ => by omega
  | n + 1, y, s, h0, h1, h2, hs => by
    by_cases e : y = h
    · subst e; exact hoe n s hs
    · obtain ⟨g0, g1⟩ := ho n s y h0 (by omega) hs
      rw [g1]
      have hz := hse y h0 (by omega)
      have hin : ∀ (m : Nat) (x : Int) (s : σ), st y ≤ x → x ≤ en y → en y - x < m → I x y s → Q (Li (lo n) m s y x) := by
        intro m
        induction m with
        | zero => intro x s _ h1 h2 _; omega
        | succ m ih =>
          intro x s x0 x1 x2 hx
          by_cases e2 : x = en y
          · rw [e2] at hx ⊢
            obtain ⟨g1, g2⟩ := hie (lo n) m s y h0 (by omega) hx
            rw [g2]
            exact dblV lo ap Li st en h J I Q hse ho hoe hi hie n (y + 1) s (by omega) (by omega) (by omega) g1
          · obtain ⟨s', g1, g2⟩ := hi (lo n) m s y x h0 (by omega) x0 (by omega) hx
            rw [g2]
            exact ih (x + 1) s' (by omega) (by omega) (by omega) g1
      exact hin FU (st y) s (Int.le_refl _) hz.1 (by rw [show ((FU : Nat) : Int) = 20000 from rfl]; omega) g0
def mvR (r : Row) (i j : Int) : Int := mv (rO r i 7) (rO r i 8) (rO r j 7) (rO r j 8)
/-- the greatest moire of the screen a, b with the plates other than p -/
def gmx (r : Row) (p a b : Int) : Nat → Int
  | 0 => 0
  | n + 1 => if (n : Int) = p then gmx r p a b n else mx (gmx r p a b n) (mv a b (rO r n 7) (rO r n 8))
def gm (r : Row) (p a b : Int) : Int := gmx r p a b (r 2).toNat
/-- the two plates of the greatest moire -/
def wStep (r : Row) (s : Int × Int) (i j : Int) : Int × Int := if s.1 = -1 ∨ mvR r s.1 s.2 < mvR r i j then (i, j) else s
def wJ (r : Row) (i : Int) (s : Int × Int) : Nat → Int × Int
  | 0 => s
  | n + 1 => wStep r (wJ r i s n) i (i + 1 + n)
def wI (r : Row) : Nat → Int × Int
  | 0 => (-1, -1)
  | n + 1 => wJ r n (wI r n) (r 2 - (n + 1)).toNat
def wV (r : Row) (k : Int) : Int := if k = 0 then (wI r (r 2).toNat).1 else (wI r (r 2).toNat).2
/-- the best of the turns 1 .. n + 1 -/
def bT (r : Row) (p : Int) : Nat → Int
  | 0 => 1
  | n + 1 => if gm r p (bT r p n / 4) (bT r p n % 4) ≤ gm r p (((n : Int) + 2) / 4) (((n : Int) + 2) % 4) then bT r p n else n + 2
def bTV (r : Row) (p : Int) : Int := if r 2 = 1 then 10 * rO r p 7 + rO r p 8 else 10 * (bT r p 14 / 4) + bT r p 14 % 4
theorem ok78 {r : Row} (hr : okRow r) {p : Int} (p0 : 0 ≤ p) (p1 : p < r 2) : (0 ≤ rO r p 7 ∧ rO r p 7 ≤ 3) ∧ 0 ≤ rO r p 8 ∧ rO r p 8 ≤ 3 := by
  have h := (hr.2.2.2.2 p p0 p1).1
  exact ⟨⟨h.1, h.2.1⟩, h.2.2.1, h.2.2.2.1⟩
theorem mvR_v {r : Row} (hr : okRow r) {i j : Int} (i0 : 0 ≤ i) (i1 : i < r 2) (j0 : 0 ≤ j) (j1 : j < r 2) : Mv (mvR r i j) := Mv_mv (ok78 hr i0 i1).1 (ok78 hr i0 i1).2 (ok78 hr j0 j1).1 (ok78 hr j0 j1).2
theorem gmx_v {r : Row} (hr : okRow r) {p a b : Int} (ha : 0 ≤ a ∧ a ≤ 3) (hb : 0 ≤ b ∧ b ≤ 3) : ∀ n : Nat, n ≤ r 2 → Mv (gmx r p a b n)
  | 0, _ => Mv.zero
  | n + 1, h => by
    unfold gmx
    have h1 := gmx_v hr (p := p) ha hb n (by omega)
    split
    · exact h1
    · exact Mv_mx h1 (Mv_mv ha hb (ok78 hr (show (0 : Int) ≤ n by omega) (by omega)).1 (ok78 hr (show (0 : Int) ≤ n by omega) (by omega)).2)
theorem gm_v {r : Row} (hr : okRow r) {p a b : Int} (ha : 0 ≤ a ∧ a ≤ 3) (hb : 0 ≤ b ∧ b ≤ 3) : Mv (gm r p a b) := gmx_v hr ha hb _ (by have := hr.2.1; omega)
def wOk (r : Row) (s : Int × Int) : Prop := s = (-1, -1) ∨ ((0 ≤ s.1 ∧ s.1 < r 2) ∧ 0 ≤ s.2 ∧ s.2 < r 2)
theorem wStep_ok {r : Row} {s : Int × Int} {i j : Int} (h : wOk r s) (i0 : 0 ≤ i) (i1 : i < r 2) (j0 : 0 ≤ j) (j1 : j < r 2) : wOk r (wStep r s i j) := by
  unfold wStep
  split
  · exact Or.inr ⟨⟨i0, i1⟩, j0, j1⟩
  · exact h
theorem wJ_ok {r : Row} {s : Int × Int} {i : Int} (h : wOk r s) (i0 : 0 ≤ i) : ∀ n : Nat, i + 1 + n ≤ r 2 → wOk r (wJ r i s n)
  | 0, _ => h
  | n + 1, e => wStep_ok (wJ_ok h i0 n (by omega)) i0 (by omega) (by omega) (by omega)
theorem wI_ok {r : Row} : ∀ n : Nat, (n : Int) ≤ r 2 → wOk r (wI r n)
  | 0, _ => Or.inl rfl
  | n + 1, e => wJ_ok (wI_ok n (by omega)) (by omega) _ (by omega)
theorem bT_le {r : Row} {p : Int} : ∀ n : Nat, 1 ≤ bT r p n ∧ bT r p n ≤ n + 1
  | 0 => by unfold bT; omega
  | n + 1 => by
    have h := bT_le (r := r) (p := p) n
    unfold bT
    split <;> omega
theorem d4 {t : Int} (h : 0 ≤ t ∧ t ≤ 15) : (0 ≤ t / 4 ∧ t / 4 ≤ 3) ∧ 0 ≤ t % 4 ∧ t % 4 ≤ 3 := by omega
section MOI
variable {μ : Mem} {c u p fed fa : Int} {h : Int → Row} {r : Row} {tx : Int → Int}
theorem moireWith_rt (hS : CSh μ) (c0 : 0 ≤ c) (c1 : c < 10) (p0 : 0 ≤ p) (p1 : p < r 2) (hr : okRow r) (hT : Sht μ c r) {a b : Int} (ha : 0 ≤ a ∧ a ≤ 3) (hb : 0 ≤ b ∧ b ≤ 3) : FX6_moireWith (29 + 8 * c + p) a b μ = RT (mv a b (rO r p 7) (rO r p 8)) μ := by
  have hr2 := hr.2.1
  have hpl := (hT.2.2.2 p p0 p1).2.1
  have hw := w32_sq ha hb
  have e1 : w32 (w32 (a * a) + w32 (b * b)) = a * a + b * b := by rw [w32_eq (z := a * a) (by omega) (by omega), w32_eq (z := b * b) (by omega) (by omega), w32_eq (by omega) (by omega)]
  have p4 : p < 4 := by omega
  have h8 := mv_dd ha hb (ok78 hr p0 p1).1 (ok78 hr p0 p1).2 (fun t => RT t μ)
  unfold FX6_moireWith BX6_moireWith_0
  simp (disch := omega) only [BX6_moireWith_76, ↓LT_eq, e1, ↓hS.g6_0, ↓hS.g6_1, ↓hS.g6_2, ↓hS.g6_3, ↓hS.g6_4, ↓hS.g6_5, ↓hS.g6_7, ↓hS.g6_8, ↓hS.k6, ↓hS.g2_0, ↓hS.g2_1, ↓hS.g2_2, ↓hS.g2_3, ↓hS.g2_4, ↓hS.g2_5, ↓hS.g2_6, ↓hS.g2_7, ↓hS.k2, ↓hS.g3_0, ↓hS.g3_1, ↓hS.g3_2, ↓hS.g3_3, ↓hS.g3_4, ↓hS.k3, ↓hS.g4_0, ↓hS.g4_1, ↓hS.g4_3, ↓hS.g4_5, ↓hS.g4_6, ↓hS.g4_7, ↓hS.g4_8, ↓hS.g4_9, ↓hS.g4_10, ↓hS.g4_12, ↓hS.g4_11, ↓hS.k4, ↓hS.g5_0, ↓hS.g5_1, ↓hS.g5_2, ↓hS.g5_3, ↓hS.g5_4, ↓hS.g5_5, ↓hS.g5_6, ↓hS.k5, ↓hS.g1_0, ↓hS.g1_1, ↓hS.g1_2, ↓hS.g1_3, ↓hS.g1_4, ↓hS.g1_5, ↓hS.g1_6, ↓hS.g1_7, ↓hS.k1, ↓hS.l3, ↓hS.n3, ↓hS.l26, ↓hS.n26, ↓hS.l5, ↓hS.n5, ↓hS.l12, ↓hS.n12, ↓hS.l6, ↓hS.n6, ↓hS.l10, ↓hS.n10, ↓hS.l11, ↓hS.n11, ↓hS.l13, ↓hS.n13, ↓hS.l14, ↓hS.n14, ↓hS.l16, ↓hS.n16, ↓hS.l24, ↓hS.n24, ↓hS.l27, ↓hS.n27, ↓hS.l28, ↓hS.n28, ↓hS.l2, ↓hS.n2, ↓CL, ↓pS_rt_c hS c0 c1 p0 p1 hr hT, hpl.1, hpl.2.1]
  exact h8
theorem moireWith_rt_c (hS : CSh μ) (c0 : 0 ≤ c) (c1 : c < 10) (p0 : 0 ≤ p) (p1 : p < r 2) (hr : okRow r) (hT : Sht μ c r) {a b : Int} (ha : 0 ≤ a ∧ a ≤ 3) (hb : 0 ≤ b ∧ b ≤ 3) {K : Int → Mem → Rz} {X : Int → Int → Mem → Rz} : CLX (FX6_moireWith (29 + 8 * c + p) a b μ) K X = K (mv a b (rO r p 7) (rO r p 8)) μ := by
  rw [moireWith_rt hS c0 c1 p0 p1 hr hT ha hb]
  rfl
theorem greatest_rt (hI : CIc μ c u h tx fed fa) {q a b : Int} (ha : 0 ≤ a ∧ a ≤ 3) (hb : 0 ≤ b ∧ b ≤ 3) : FX6_greatestMoire 1 q a b μ = RT (gm (h 0) q a b) μ := by
  obtain ⟨⟨hS, ⟨c0, c1⟩, ⟨a1, a2, a3⟩, u0, b', d'⟩, hB, hP⟩ := id hI
  have hr := hI.1.cur.1
  have hT := hI.1.cur.2
  have hr2 := hr.2.1
  unfold FX6_greatestMoire BX6_greatestMoire_0
  have hm := lp (fun n x s => LX6_greatestMoire_6 n 1 q a b s x μ) (fun x => gmx (h 0) q a b x.toNat) (h 0 2) (RT (gm (h 0) q a b) μ) (fun n x x0 x1 => ?_) (fun n => ?_) FU 0 (Int.le_refl _) hr2.1 (by rw [show ((FU : Nat) : Int) = 20000 from rfl]; omega)
  · exact hm
  · have hx : ¬ h 0 2 ≤ x := by omega
    have hv := gmx_v hr (p := q) ha hb x.toNat (by omega)
    have hv2 := Mv_mv ha hb (ok78 hr x0 x1).1 (ok78 hr x0 x1).2
    have e1 : (x + 1).toNat = x.toNat + 1 := by omega
    have e2 : ((x.toNat : Nat) : Int) = x := by omega
    show LX6_greatestMoire_6 (n + 1) 1 q a b (gmx (h 0) q a b x.toNat) x μ = LX6_greatestMoire_6 n 1 q a b (gmx (h 0) q a b (x + 1).toNat) (x + 1) μ
    rw [e1, gmx, e2]
    by_cases e : x = q
    · subst e
      simp (disch := omega) only [LX6_greatestMoire_6, BX6_greatestMoire_6, BX6_greatestMoire_58, ↓hS.g6_6 a2, ↓hS.g6_0, ↓hS.g6_1, ↓hS.g6_2, ↓hS.g6_3, ↓hS.g6_4, ↓hS.g6_5, ↓hS.g6_7, ↓hS.g6_8, ↓hS.k6, ↓hS.g2_0, ↓hS.g2_1, ↓hS.g2_2, ↓hS.g2_3, ↓hS.g2_4, ↓hS.g2_5, ↓hS.g2_6, ↓hS.g2_7, ↓hS.k2, ↓hS.g3_0, ↓hS.g3_1, ↓hS.g3_2, ↓hS.g3_3, ↓hS.g3_4, ↓hS.k3, ↓hS.g4_0, ↓hS.g4_1, ↓hS.g4_3, ↓hS.g4_5, ↓hS.g4_6, ↓hS.g4_7, ↓hS.g4_8, ↓hS.g4_9, ↓hS.g4_10, ↓hS.g4_12, ↓hS.g4_11, ↓hS.k4, ↓hS.g5_0, ↓hS.g5_1, ↓hS.g5_2, ↓hS.g5_3, ↓hS.g5_4, ↓hS.g5_5, ↓hS.g5_6, ↓hS.k5, ↓hS.g1_0, ↓hS.g1_1, ↓hS.g1_2, ↓hS.g1_3, ↓hS.g1_4, ↓hS.g1_5, ↓hS.g1_6, ↓hS.g1_7, ↓hS.k1, ↓hS.l3, ↓hS.n3, ↓hS.l26, ↓hS.n26, ↓hS.l5, ↓hS.n5, ↓hS.l12, ↓hS.n12, ↓hS.l6, ↓hS.n6, ↓hS.l10, ↓hS.n10, ↓hS.l11, ↓hS.n11, ↓hS.l13, ↓hS.n13, ↓hS.l14, ↓hS.n14, ↓hS.l16, ↓hS.n16, ↓hS.l24, ↓hS.n24, ↓hS.l27, ↓hS.n27, ↓hS.l28, ↓hS.n28, ↓hS.l2, ↓hS.n2, hT.1.2.2.2, hx, ↓reduceIte, w32_eq]
    · have estep : LX6_greatestMoire_6 (n + 1) 1 q a b (gmx (h 0) q a b x.toNat) x μ = if dCmp .l (mv a b (rO (h 0) x 7) (rO (h 0) x 8)) (gmx (h 0) q a b x.toNat) ≤ 0 then LX6_greatestMoire_6 n 1 q a b (gmx (h 0) q a b x.toNat) (x + 1) μ else LX6_greatestMoire_6 n 1 q a b (mv a b (rO (h 0) x 7) (rO (h 0) x 8)) (x + 1) μ := by
        simp (disch := omega) only [LX6_greatestMoire_6, BX6_greatestMoire_6, BX6_greatestMoire_58, BX6_greatestMoire_56, ↓hS.g6_6 a2, ↓hS.g6_0, ↓hS.g6_1, ↓hS.g6_2, ↓hS.g6_3, ↓hS.g6_4, ↓hS.g6_5, ↓hS.g6_7, ↓hS.g6_8, ↓hS.k6, ↓hS.g2_0, ↓hS.g2_1, ↓hS.g2_2, ↓hS.g2_3, ↓hS.g2_4, ↓hS.g2_5, ↓hS.g2_6, ↓hS.g2_7, ↓hS.k2, ↓hS.g3_0, ↓hS.g3_1, ↓hS.g3_2, ↓hS.g3_3, ↓hS.g3_4, ↓hS.k3, ↓hS.g4_0, ↓hS.g4_1, ↓hS.g4_3, ↓hS.g4_5, ↓hS.g4_6, ↓hS.g4_7, ↓hS.g4_8, ↓hS.g4_9, ↓hS.g4_10, ↓hS.g4_12, ↓hS.g4_11, ↓hS.k4, ↓hS.g5_0, ↓hS.g5_1, ↓hS.g5_2, ↓hS.g5_3, ↓hS.g5_4, ↓hS.g5_5, ↓hS.g5_6, ↓hS.k5, ↓hS.g1_0, ↓hS.g1_1, ↓hS.g1_2, ↓hS.g1_3, ↓hS.g1_4, ↓hS.g1_5, ↓hS.g1_6, ↓hS.g1_7, ↓hS.k1, ↓hS.l3, ↓hS.n3, ↓hS.l26, ↓hS.n26, ↓hS.l5, ↓hS.n5, ↓hS.l12, ↓hS.n12, ↓hS.l6, ↓hS.n6, ↓hS.l10, ↓hS.n10, ↓hS.l11, ↓hS.n11, ↓hS.l13, ↓hS.n13, ↓hS.l14, ↓hS.n14, ↓hS.l16, ↓hS.n16, ↓hS.l24, ↓hS.n24, ↓hS.l27, ↓hS.n27, ↓hS.l28, ↓hS.n28, ↓hS.l2, ↓hS.n2, hT.1.2.2.2, hx, ↓reduceIte, e, w32_eq, ↓CL, ↓moireWith_rt_c hS c0 c1 x0 x1 hr hT ha hb]
      rw [estep, if_neg e]
      unfold mx
      by_cases e3 : gmx (h 0) q a b x.toNat < mv a b (rO (h 0) x 7) (rO (h 0) x 8)
      · rw [if_pos e3, if_neg (fun k => absurd ((hv2.le hv).mp k) (by omega))]
      · rw [if_neg e3, if_pos ((hv2.le hv).mpr (by omega))]
  · show LX6_greatestMoire_6 (n + 1) 1 q a b (gmx (h 0) q a b (h 0 2).toNat) (h 0 2) μ = _
    simp (disch := omega) only [LX6_greatestMoire_6, BX6_greatestMoire_6, ↓hS.g6_6 a2, ↓hS.g6_0, ↓hS.g6_1, ↓hS.g6_2, ↓hS.g6_3, ↓hS.g6_4, ↓hS.g6_5, ↓hS.g6_7, ↓hS.g6_8, ↓hS.k6, ↓hS.g2_0, ↓hS.g2_1, ↓hS.g2_2, ↓hS.g2_3, ↓hS.g2_4, ↓hS.g2_5, ↓hS.g2_6, ↓hS.g2_7, ↓hS.k2, ↓hS.g3_0, ↓hS.g3_1, ↓hS.g3_2, ↓hS.g3_3, ↓hS.g3_4, ↓hS.k3, ↓hS.g4_0, ↓hS.g4_1, ↓hS.g4_3, ↓hS.g4_5, ↓hS.g4_6, ↓hS.g4_7, ↓hS.g4_8, ↓hS.g4_9, ↓hS.g4_10, ↓hS.g4_12, ↓hS.g4_11, ↓hS.k4, ↓hS.g5_0, ↓hS.g5_1, ↓hS.g5_2, ↓hS.g5_3, ↓hS.g5_4, ↓hS.g5_5, ↓hS.g5_6, ↓hS.k5, ↓hS.g1_0, ↓hS.g1_1, ↓hS.g1_2, ↓hS.g1_3, ↓hS.g1_4, ↓hS.g1_5, ↓hS.g1_6, ↓hS.g1_7, ↓hS.k1, ↓hS.l3, ↓hS.n3, ↓hS.l26, ↓hS.n26, ↓hS.l5, ↓hS.n5, ↓hS.l12, ↓hS.n12, ↓hS.l6, ↓hS.n6, ↓hS.l10, ↓hS.n10, ↓hS.l11, ↓hS.n11, ↓hS.l13, ↓hS.n13, ↓hS.l14, ↓hS.n14, ↓hS.l16, ↓hS.n16, ↓hS.l24, ↓hS.n24, ↓hS.l27, ↓hS.n27, ↓hS.l28, ↓hS.n28, ↓hS.l2, ↓hS.n2, hT.1.2.2.2, Int.le_refl, ↓reduceIte]
    rfl
theorem greatest_rt_c (hI : CIc μ c u h tx fed fa) {q a b : Int} (ha : 0 ≤ a ∧ a ≤ 3) (hb : 0 ≤ b ∧ b ≤ 3) {K : Int → Mem → Rz} {X : Int → Int → Mem → Rz} : CLX (FX6_greatestMoire 1 q a b μ) K X = K (gm (h 0) q a b) μ := by
  rw [greatest_rt hI ha hb]
  rfl
theorem moire_rt (hI : CIc μ c u h tx fed fa) {p q : Int} (hp : isPl (h 0) p) (hq : isPl (h 0) q) : FX6_moire 1 p q μ = RT (mvR (h 0) p q) μ := by
  obtain ⟨⟨hS, ⟨c0, c1⟩, ⟨a1, a2, a3⟩, u0, b', d'⟩, hB, hP⟩ := id hI
  have hr := hI.1.cur.1
  have hT := hI.1.cur.2
  have hr2 := hr.2.1
  have hpl := (hT.2.2.2 p hp.1 hp.2).2.1
  have hpo := ok78 hr hp.1 hp.2
  have e2c : ∀ (K : Int → Mem → Rz) (X : Int → Int → Mem → Rz), CLX (FX6_requirePlate 1 p μ) K X = K 0 μ := fun K X => by rw [reqP_ok hI hp]; rfl
  have e3c : ∀ (K : Int → Mem → Rz) (X : Int → Int → Mem → Rz), CLX (FX6_requirePlate 1 q μ) K X = K 0 μ := fun K X => by rw [reqP_ok hI hq]; rfl
  simp (disch := omega) only [FX6_moire, BX6_moire_0, ↓CL, ↓e2c, ↓e3c, ↓hS.g6_6 a2, ↓hS.g6_0, ↓hS.g6_1, ↓hS.g6_2, ↓hS.g6_3, ↓hS.g6_4, ↓hS.g6_5, ↓hS.g6_7, ↓hS.g6_8, ↓hS.k6, ↓hS.g2_0, ↓hS.g2_1, ↓hS.g2_2, ↓hS.g2_3, ↓hS.g2_4, ↓hS.g2_5, ↓hS.g2_6, ↓hS.g2_7, ↓hS.k2, ↓hS.g3_0, ↓hS.g3_1, ↓hS.g3_2, ↓hS.g3_3, ↓hS.g3_4, ↓hS.k3, ↓hS.g4_0, ↓hS.g4_1, ↓hS.g4_3, ↓hS.g4_5, ↓hS.g4_6, ↓hS.g4_7, ↓hS.g4_8, ↓hS.g4_9, ↓hS.g4_10, ↓hS.g4_12, ↓hS.g4_11, ↓hS.k4, ↓hS.g5_0, ↓hS.g5_1, ↓hS.g5_2, ↓hS.g5_3, ↓hS.g5_4, ↓hS.g5_5, ↓hS.g5_6, ↓hS.k5, ↓hS.g1_0, ↓hS.g1_1, ↓hS.g1_2, ↓hS.g1_3, ↓hS.g1_4, ↓hS.g1_5, ↓hS.g1_6, ↓hS.g1_7, ↓hS.k1, ↓hS.l3, ↓hS.n3, ↓hS.l26, ↓hS.n26, ↓hS.l5, ↓hS.n5, ↓hS.l12, ↓hS.n12, ↓hS.l6, ↓hS.n6, ↓hS.l10, ↓hS.n10, ↓hS.l11, ↓hS.n11, ↓hS.l13, ↓hS.n13, ↓hS.l14, ↓hS.n14, ↓hS.l16, ↓hS.n16, ↓hS.l24, ↓hS.n24, ↓hS.l27, ↓hS.n27, ↓hS.l28, ↓hS.n28, ↓hS.l2, ↓hS.n2, hpl.1, hpl.2.1, ↓moireWith_rt_c hS c0 c1 hq.1 hq.2 hr hT hpo.1 hpo.2]
  rfl
theorem moire_no (hI : CIc μ c u h tx fed fa) {p q : Int} (hp : ¬ (isPl (h 0) p ∧ isPl (h 0) q)) : FX6_moire 1 p q μ = TH 1 μ := by
  obtain ⟨⟨hS, ⟨c0, c1⟩, ⟨a1, a2, a3⟩, u0, b', d'⟩, hB, hP⟩ := id hI
  by_cases e : isPl (h 0) p
  · have e2c : ∀ (K : Int → Mem → Rz) (X : Int → Int → Mem → Rz), CLX (FX6_requirePlate 1 p μ) K X = K 0 μ := fun K X => by rw [reqP_ok hI e]; rfl
    simp (disch := omega) only [FX6_moire, BX6_moire_0, ↓hS.g6_0, ↓hS.g6_1, ↓hS.g6_2, ↓hS.g6_3, ↓hS.g6_4, ↓hS.g6_5, ↓hS.g6_7, ↓hS.g6_8, ↓hS.k6, ↓hS.g2_0, ↓hS.g2_1, ↓hS.g2_2, ↓hS.g2_3, ↓hS.g2_4, ↓hS.g2_5, ↓hS.g2_6, ↓hS.g2_7, ↓hS.k2, ↓hS.g3_0, ↓hS.g3_1, ↓hS.g3_2, ↓hS.g3_3, ↓hS.g3_4, ↓hS.k3, ↓hS.g4_0, ↓hS.g4_1, ↓hS.g4_3, ↓hS.g4_5, ↓hS.g4_6, ↓hS.g4_7, ↓hS.g4_8, ↓hS.g4_9, ↓hS.g4_10, ↓hS.g4_12, ↓hS.g4_11, ↓hS.k4, ↓hS.g5_0, ↓hS.g5_1, ↓hS.g5_2, ↓hS.g5_3, ↓hS.g5_4, ↓hS.g5_5, ↓hS.g5_6, ↓hS.k5, ↓hS.g1_0, ↓hS.g1_1, ↓hS.g1_2, ↓hS.g1_3, ↓hS.g1_4, ↓hS.g1_5, ↓hS.g1_6, ↓hS.g1_7, ↓hS.k1, ↓hS.l3, ↓hS.n3, ↓hS.l26, ↓hS.n26, ↓hS.l5, ↓hS.n5, ↓hS.l12, ↓hS.n12, ↓hS.l6, ↓hS.n6, ↓hS.l10, ↓hS.n10, ↓hS.l11, ↓hS.n11, ↓hS.l13, ↓hS.n13, ↓hS.l14, ↓hS.n14, ↓hS.l16, ↓hS.n16, ↓hS.l24, ↓hS.n24, ↓hS.l27, ↓hS.n27, ↓hS.l28, ↓hS.n28, ↓hS.l2, ↓hS.n2, ↓CL, ↓e2c, reqP_no hI (fun k => hp ⟨e, k⟩)]
    rfl
  · simp (disch := omega) only [FX6_moire, BX6_moire_0, ↓hS.g6_0, ↓hS.g6_1, ↓hS.g6_2, ↓hS.g6_3, ↓hS.g6_4, ↓hS.g6_5, ↓hS.g6_7, ↓hS.g6_8, ↓hS.k6, ↓hS.g2_0, ↓hS.g2_1, ↓hS.g2_2, ↓hS.g2_3, ↓hS.g2_4, ↓hS.g2_5, ↓hS.g2_6, ↓hS.g2_7, ↓hS.k2, ↓hS.g3_0, ↓hS.g3_1, ↓hS.g3_2, ↓hS.g3_3, ↓hS.g3_4, ↓hS.k3, ↓hS.g4_0, ↓hS.g4_1, ↓hS.g4_3, ↓hS.g4_5, ↓hS.g4_6, ↓hS.g4_7, ↓hS.g4_8, ↓hS.g4_9, ↓hS.g4_10, ↓hS.g4_12, ↓hS.g4_11, ↓hS.k4, ↓hS.g5_0, ↓hS.g5_1, ↓hS.g5_2, ↓hS.g5_3, ↓hS.g5_4, ↓hS.g5_5, ↓hS.g5_6, ↓hS.k5, ↓hS.g1_0, ↓hS.g1_1, ↓hS.g1_2, ↓hS.g1_3, ↓hS.g1_4, ↓hS.g1_5, ↓hS.g1_6, ↓hS.g1_7, ↓hS.k1, ↓hS.l3, ↓hS.n3, ↓hS.l26, ↓hS.n26, ↓hS.l5, ↓hS.n5, ↓hS.l12, ↓hS.n12, ↓hS.l6, ↓hS.n6, ↓hS.l10, ↓hS.n10, ↓hS.l11, ↓hS.n11, ↓hS.l13, ↓hS.n13, ↓hS.l14, ↓hS.n14, ↓hS.l16, ↓hS.n16, ↓hS.l24, ↓hS.n24, ↓hS.l27, ↓hS.n27, ↓hS.l28, ↓hS.n28, ↓hS.l2, ↓hS.n2, ↓CL, reqP_no hI e]
    rfl
def gI (k : Int) (s : Int × Int) : Int := if s.1 = -1 then -1 else if k = 0 then s.1 else s.2
def gG (r : Row) (s : Int × Int) : Int := if s.1 = -1 then 13830554455654793216 else mvR r s.1 s.2
theorem worst_rt (hI : CIc μ c u h tx fed fa) {k : Int} : FX6_worst 1 k μ = RT (wV (h 0) k) μ := by
  obtain ⟨⟨hS, ⟨c0, c1⟩, ⟨a1, a2, a3⟩, u0, b', d'⟩, hB, hP⟩ := id hI
  have hr := hI.1.cur.1
  have hT := hI.1.cur.2
  have hr2 := hr.2.1
  unfold FX6_worst BX6_worst_0
  have hm := dblV (fun n y0 y1 y2 y3 y4 ξ => LX6_worst_9 n y0 y1 y2 y3 y4 ξ) (fun k' (s : Int × Int) y => k' 1 k s.1 s.2 y μ) (fun k' n s y x => LX6_worst_27 k' n 1 k s.1 s.2 y x μ) (fun y => y + 1) (fun _ => h 0 2) (h 0 2) (fun y s => s = (gI k (wI (h 0) y.toNat), gG (h 0) (wI (h 0) y.toNat))) (fun x y s => s = (gI k (wJ (h 0) y (wI (h 0) y.toNat) (x - (y + 1)).toNat), gG (h 0) (wJ (h 0) y (wI (h 0) y.toNat) (x - (y + 1)).toNat))) (fun R => R = RT (wV (h 0) k) μ) (fun y y0 y1 => by omega) (fun n s y y0 y1 hs => ⟨?_, ?_⟩) (fun n s hs => ?_) (fun k' n s y x y0 y1 x0 x1 hs => ?_) (fun k' n s y y0 y1 hs => ⟨?_, ?_⟩) FU 0 (-1, 13830554455654793216) (Int.le_refl _) hr2.1 (by rw [show ((FU : Nat) : Int) = 20000 from rfl]; omega) rfl
  · exact hm
  · rw [hs, show (y + 1 - (y + 1)).toNat = 0 by omega]
    rfl
  · have hx : ¬ h 0 2 ≤ y := by omega
    simp (disch := omega) only [LX6_worst_9, BX6_worst_9, ↓hS.g6_6 a2, ↓hS.g6_0, ↓hS.g6_1, ↓hS.g6_2, ↓hS.g6_3, ↓hS.g6_4, ↓hS.g6_5, ↓hS.g6_7, ↓hS.g6_8, ↓hS.k6, ↓hS.g2_0, ↓hS.g2_1, ↓hS.g2_2, ↓hS.g2_3, ↓hS.g2_4, ↓hS.g2_5, ↓hS.g2_6, ↓hS.g2_7, ↓hS.k2, ↓hS.g3_0, ↓hS.g3_1, ↓hS.g3_2, ↓hS.g3_3, ↓hS.g3_4, ↓hS.k3, ↓hS.g4_0, ↓hS.g4_1, ↓hS.g4_3, ↓hS.g4_5, ↓hS.g4_6, ↓hS.g4_7, ↓hS.g4_8, ↓hS.g4_9, ↓hS.g4_10, ↓hS.g4_12, ↓hS.g4_11, ↓hS.k4, ↓hS.g5_0, ↓hS.g5_1, ↓hS.g5_2, ↓hS.g5_3, ↓hS.g5_4, ↓hS.g5_5, ↓hS.g5_6, ↓hS.k5, ↓hS.g1_0, ↓hS.g1_1, ↓hS.g1_2, ↓hS.g1_3, ↓hS.g1_4, ↓hS.g1_5, ↓hS.g1_6, ↓hS.g1_7, ↓hS.k1, ↓hS.l3, ↓hS.n3, ↓hS.l26, ↓hS.n26, ↓hS.l5, ↓hS.n5, ↓hS.l12, ↓hS.n12, ↓hS.l6, ↓hS.n6, ↓hS.l10, ↓hS.n10, ↓hS.l11, ↓hS.n11, ↓hS.l13, ↓hS.n13, ↓hS.l14, ↓hS.n14, ↓hS.l16, ↓hS.n16, ↓hS.l24, ↓hS.n24, ↓hS.l27, ↓hS.n27, ↓hS.l28, ↓hS.n28, ↓hS.l2, ↓hS.n2, hT.1.2.2.2, hx, ↓reduceIte, w32_eq, LT_eq]
  · simp (disch := omega) only [LX6_worst_9, BX6_worst_9, ↓hS.g6_6 a2, ↓hS.g6_0, ↓hS.g6_1, ↓hS.g6_2, ↓hS.g6_3, ↓hS.g6_4, ↓hS.g6_5, ↓hS.g6_7, ↓hS.g6_8, ↓hS.k6, ↓hS.g2_0, ↓hS.g2_1, ↓hS.g2_2, ↓hS.g2_3, ↓hS.g2_4, ↓hS.g2_5, ↓hS.g2_6, ↓hS.g2_7, ↓hS.k2, ↓hS.g3_0, ↓hS.g3_1, ↓hS.g3_2, ↓hS.g3_3, ↓hS.g3_4, ↓hS.k3, ↓hS.g4_0, ↓hS.g4_1, ↓hS.g4_3, ↓hS.g4_5, ↓hS.g4_6, ↓hS.g4_7, ↓hS.g4_8, ↓hS.g4_9, ↓hS.g4_10, ↓hS.g4_12, ↓hS.g4_11, ↓hS.k4, ↓hS.g5_0, ↓hS.g5_1, ↓hS.g5_2, ↓hS.g5_3, ↓hS.g5_4, ↓hS.g5_5, ↓hS.g5_6, ↓hS.k5, ↓hS.g1_0, ↓hS.g1_1, ↓hS.g1_2, ↓hS.g1_3, ↓hS.g1_4, ↓hS.g1_5, ↓hS.g1_6, ↓hS.g1_7, ↓hS.k1, ↓hS.l3, ↓hS.n3, ↓hS.l26, ↓hS.n26, ↓hS.l5, ↓hS.n5, ↓hS.l12, ↓hS.n12, ↓hS.l6, ↓hS.n6, ↓hS.l10, ↓hS.n10, ↓hS.l11, ↓hS.n11, ↓hS.l13, ↓hS.n13, ↓hS.l14, ↓hS.n14, ↓hS.l16, ↓hS.n16, ↓hS.l24, ↓hS.n24, ↓hS.l27, ↓hS.n27, ↓hS.l28, ↓hS.n28, ↓hS.l2, ↓hS.n2, hT.1.2.2.2, Int.le_refl, ↓reduceIte]
    rw [hs]
    show RT (gI k (wI (h 0) (h 0 2).toNat)) μ = RT (wV (h 0) k) μ
    unfold gI wV
    rcases wI_ok (r := h 0) (h 0 2).toNat (by omega) with e | e
    · rw [e]
      simp
    · rw [if_neg (by omega)]
  · have hx : ¬ h 0 2 ≤ x := by omega
    have hy4 : y < 4 := by omega
    have hpo := ok78 hr y0 y1
    have hpl := (hT.2.2.2 y y0 y1).2.1
    have hx0 : 0 ≤ x := by omega
    have hW := wJ_ok (wI_ok (r := h 0) y.toNat (by omega)) y0 (x - (y + 1)).toNat (by omega)
    have e1 : (x + 1 - (y + 1)).toNat = (x - (y + 1)).toNat + 1 := by omega
    have e2 : y + 1 + (((x - (y + 1)).toNat : Nat) : Int) = x := by omega
    refine ⟨_, rfl, ?_⟩
    subst hs
    show LX6_worst_27 k' (n + 1) 1 k (gI k (wJ (h 0) y (wI (h 0) y.toNat) (x - (y + 1)).toNat)) (gG (h 0) (wJ (h 0) y (wI (h 0) y.toNat) (x - (y + 1)).toNat)) y x μ = LX6_worst_27 k' n 1 k (gI k (wJ (h 0) y (wI (h 0) y.toNat) (x + 1 - (y + 1)).toNat)) (gG (h 0) (wJ (h 0) y (wI (h 0) y.toNat) (x + 1 - (y + 1)).toNat)) y (x + 1) μ
    rw [e1, wJ, e2]
    generalize wJ (h 0) y (wI (h 0) y.toNat) (x - (y + 1)).toNat = W at hW ⊢
    have estep : LX6_worst_27 k' (n + 1) 1 k (gI k W) (gG (h 0) W) y x μ = if dCmp .l (mvR (h 0) y x) (gG (h 0) W) ≤ 0 then LX6_worst_27 k' n 1 k (gI k W) (gG (h 0) W) y (x + 1) μ else if k = 0 then LX6_worst_27 k' n 1 k y (mvR (h 0) y x) y (x + 1) μ else LX6_worst_27 k' n 1 k x (mvR (h 0) y x) y (x + 1) μ := by
      unfold mvR
      simp (disch := omega) only [LX6_worst_27, BX6_worst_27, BX6_worst_101, BX6_worst_102, ↓hS.g6_6 a2, ↓hS.g6_0, ↓hS.g6_1, ↓hS.g6_2, ↓hS.g6_3, ↓hS.g6_4, ↓hS.g6_5, ↓hS.g6_7, ↓hS.g6_8, ↓hS.k6, ↓hS.g2_0, ↓hS.g2_1, ↓hS.g2_2, ↓hS.g2_3, ↓hS.g2_4, ↓hS.g2_5, ↓hS.g2_6, ↓hS.g2_7, ↓hS.k2, ↓hS.g3_0, ↓hS.g3_1, ↓hS.g3_2, ↓hS.g3_3, ↓hS.g3_4, ↓hS.k3, ↓hS.g4_0, ↓hS.g4_1, ↓hS.g4_3, ↓hS.g4_5, ↓hS.g4_6, ↓hS.g4_7, ↓hS.g4_8, ↓hS.g4_9, ↓hS.g4_10, ↓hS.g4_12, ↓hS.g4_11, ↓hS.k4, ↓hS.g5_0, ↓hS.g5_1, ↓hS.g5_2, ↓hS.g5_3, ↓hS.g5_4, ↓hS.g5_5, ↓hS.g5_6, ↓hS.k5, ↓hS.g1_0, ↓hS.g1_1, ↓hS.g1_2, ↓hS.g1_3, ↓hS.g1_4, ↓hS.g1_5, ↓hS.g1_6, ↓hS.g1_7, ↓hS.k1, ↓hS.l3, ↓hS.n3, ↓hS.l26, ↓hS.n26, ↓hS.l5, ↓hS.n5, ↓hS.l12, ↓hS.n12, ↓hS.l6, ↓hS.n6, ↓hS.l10, ↓hS.n10, ↓hS.l11, ↓hS.n11, ↓hS.l13, ↓hS.n13, ↓hS.l14, ↓hS.n14, ↓hS.l16, ↓hS.n16, ↓hS.l24, ↓hS.n24, ↓hS.l27, ↓hS.n27, ↓hS.l28, ↓hS.n28, ↓hS.l2, ↓hS.n2, hT.1.2.2.2, hx, ↓reduceIte, w32_eq, ↓CL, hpl.1, hpl.2.1, ↓moireWith_rt_c hS c0 c1 hx0 x1 hr hT hpo.1 hpo.2]
    have hv := mvR_v hr y0 y1 hx0 x1
    rw [estep]
    unfold wStep
    by_cases eW : W.1 = -1
    · have e3 : gG (h 0) W = 13830554455654793216 := if_pos eW
      rw [if_pos (Or.inl eW), e3, (mT_one _ hv).1, if_neg (by omega)]
      unfold gI gG
      by_cases ek : k = 0
      · rw [if_pos ek, if_neg (show ¬ (y, x).1 = -1 by show ¬ y = -1; omega), if_pos ek, if_neg (show ¬ (y, x).1 = -1 by show ¬ y = -1; omega)]
      · rw [if_neg ek, if_neg (show ¬ (y, x).1 = -1 by show ¬ y = -1; omega), if_neg ek, if_neg (show ¬ (y, x).1 = -1 by show ¬ y = -1; omega)]
    · have e3 : gG (h 0) W = mvR (h 0) W.1 W.2 := if_neg eW
      have hW2 : (0 ≤ W.1 ∧ W.1 < h 0 2) ∧ 0 ≤ W.2 ∧ W.2 < h 0 2 := hW.resolve_left fun k => eW (by rw [k])
      have hv2 := mvR_v hr hW2.1.1 hW2.1.2 hW2.2.1 hW2.2.2
      by_cases e4 : mvR (h 0) W.1 W.2 < mvR (h 0) y x
      · rw [if_pos (Or.inr e4), e3, if_neg (fun q => absurd ((hv.le hv2).mp q) (by omega))]
        unfold gI gG
        by_cases ek : k = 0
        · rw [if_pos ek, if_neg (show ¬ (y, x).1 = -1 by show ¬ y = -1; omega), if_pos ek, if_neg (show ¬ (y, x).1 = -1 by show ¬ y = -1; omega)]
        · rw [if_neg ek, if_neg (show ¬ (y, x).1 = -1 by show ¬ y = -1; omega), if_neg ek, if_neg (show ¬ (y, x).1 = -1 by show ¬ y = -1; omega)]
      · rw [if_neg (show ¬ (W.1 = -1 ∨ mvR (h 0) W.1 W.2 < mvR (h 0) y x) from fun q => q.elim eW e4), e3, if_pos ((hv.le hv2).mpr (by omega))]
  · rw [show (y + 1).toNat = y.toNat + 1 by omega, wI, show ((y.toNat : Nat) : Int) = y by omega]
    exact hs
  · simp (disch := omega) only [LX6_worst_27, BX6_worst_27, ↓hS.g6_6 a2, ↓hS.g6_0, ↓hS.g6_1, ↓hS.g6_2, ↓hS.g6_3, ↓hS.g6_4, ↓hS.g6_5, ↓hS.g6_7, ↓hS.g6_8, ↓hS.k6, ↓hS.g2_0, ↓hS.g2_1, ↓hS.g2_2, ↓hS.g2_3, ↓hS.g2_4, ↓hS.g2_5, ↓hS.g2_6, ↓hS.g2_7, ↓hS.k2, ↓hS.g3_0, ↓hS.g3_1, ↓hS.g3_2, ↓hS.g3_3, ↓hS.g3_4, ↓hS.k3, ↓hS.g4_0, ↓hS.g4_1, ↓hS.g4_3, ↓hS.g4_5, ↓hS.g4_6, ↓hS.g4_7, ↓hS.g4_8, ↓hS.g4_9, ↓hS.g4_10, ↓hS.g4_12, ↓hS.g4_11, ↓hS.k4, ↓hS.g5_0, ↓hS.g5_1, ↓hS.g5_2, ↓hS.g5_3, ↓hS.g5_4, ↓hS.g5_5, ↓hS.g5_6, ↓hS.k5, ↓hS.g1_0, ↓hS.g1_1, ↓hS.g1_2, ↓hS.g1_3, ↓hS.g1_4, ↓hS.g1_5, ↓hS.g1_6, ↓hS.g1_7, ↓hS.k1, ↓hS.l3, ↓hS.n3, ↓hS.l26, ↓hS.n26, ↓hS.l5, ↓hS.n5, ↓hS.l12, ↓hS.n12, ↓hS.l6, ↓hS.n6, ↓hS.l10, ↓hS.n10, ↓hS.l11, ↓hS.n11, ↓hS.l13, ↓hS.n13, ↓hS.l14, ↓hS.n14, ↓hS.l16, ↓hS.n16, ↓hS.l24, ↓hS.n24, ↓hS.l27, ↓hS.n27, ↓hS.l28, ↓hS.n28, ↓hS.l2, ↓hS.n2, hT.1.2.2.2, Int.le_refl, ↓reduceIte, w32_eq]
def tS (r : Row) (p t : Int) : Int × Int := if t ≤ 1 then (-1, 0) else (10 * (bT r p (t - 2).toNat / 4) + bT r p (t - 2).toNat % 4, gm r p (bT r p (t - 2).toNat / 4) (bT r p (t - 2).toNat % 4))
theorem bestTurn_rt (hI : CIc μ c u h tx fed fa) (hp : isPl (h 0) p) : FX6_bestTurn 1 p μ = RT (bTV (h 0) p) μ := by
  obtain ⟨⟨hS, ⟨c0, c1⟩, ⟨a1, a2, a3⟩, u0, b', d'⟩, hB, hP⟩ := id hI
  have hr := hI.1.cur.1
  have hT := hI.1.cur.2
  have hr2 := hr.2.1
  have p4 : p < 4 := by omega
  have hpo := ok78 hr hp.1 hp.2
  have hpl := (hT.2.2.2 p hp.1 hp.2).2.1
  have e2c : ∀ (K : Int → Mem → Rz) (X : Int → Int → Mem → Rz), CLX (FX6_requirePlate 1 p μ) K X = K 0 μ := fun K X => by rw [reqP_ok hI hp]; rfl
  unfold bTV
  by_cases e : h 0 2 = 1
  · have e1 : ¬ 2 ≤ h 0 2 := by omega
    rw [if_pos e]
    simp (disch := omega) only [FX6_bestTurn, BX6_bestTurn_0, ↓CL, ↓e2c, ↓hS.g6_6 a2, ↓hS.g6_0, ↓hS.g6_1, ↓hS.g6_2, ↓hS.g6_3, ↓hS.g6_4, ↓hS.g6_5, ↓hS.g6_7, ↓hS.g6_8, ↓hS.k6, ↓hS.g2_0, ↓hS.g2_1, ↓hS.g2_2, ↓hS.g2_3, ↓hS.g2_4, ↓hS.g2_5, ↓hS.g2_6, ↓hS.g2_7, ↓hS.k2, ↓hS.g3_0, ↓hS.g3_1, ↓hS.g3_2, ↓hS.g3_3, ↓hS.g3_4, ↓hS.k3, ↓hS.g4_0, ↓hS.g4_1, ↓hS.g4_3, ↓hS.g4_5, ↓hS.g4_6, ↓hS.g4_7, ↓hS.g4_8, ↓hS.g4_9, ↓hS.g4_10, ↓hS.g4_12, ↓hS.g4_11, ↓hS.k4, ↓hS.g5_0, ↓hS.g5_1, ↓hS.g5_2, ↓hS.g5_3, ↓hS.g5_4, ↓hS.g5_5, ↓hS.g5_6, ↓hS.k5, ↓hS.g1_0, ↓hS.g1_1, ↓hS.g1_2, ↓hS.g1_3, ↓hS.g1_4, ↓hS.g1_5, ↓hS.g1_6, ↓hS.g1_7, ↓hS.k1, ↓hS.l3, ↓hS.n3, ↓hS.l26, ↓hS.n26, ↓hS.l5, ↓hS.n5, ↓hS.l12, ↓hS.n12, ↓hS.l6, ↓hS.n6, ↓hS.l10, ↓hS.n10, ↓hS.l11, ↓hS.n11, ↓hS.l13, ↓hS.n13, ↓hS.l14, ↓hS.n14, ↓hS.l16, ↓hS.n16, ↓hS.l24, ↓hS.n24, ↓hS.l27, ↓hS.n27, ↓hS.l28, ↓hS.n28, ↓hS.l2, ↓hS.n2, hpl.1, hpl.2.1, hT.1.2.2.2, e1, ↓reduceIte, w32_eq]
  have e1 : 2 ≤ h 0 2 := by omega
  rw [if_neg e]
  simp (disch := omega) only [FX6_bestTurn, BX6_bestTurn_0, ↓CL, ↓e2c, ↓hS.g6_6 a2, ↓hS.g6_0, ↓hS.g6_1, ↓hS.g6_2, ↓hS.g6_3, ↓hS.g6_4, ↓hS.g6_5, ↓hS.g6_7, ↓hS.g6_8, ↓hS.k6, ↓hS.g2_0, ↓hS.g2_1, ↓hS.g2_2, ↓hS.g2_3, ↓hS.g2_4, ↓hS.g2_5, ↓hS.g2_6, ↓hS.g2_7, ↓hS.k2, ↓hS.g3_0, ↓hS.g3_1, ↓hS.g3_2, ↓hS.g3_3, ↓hS.g3_4, ↓hS.k3, ↓hS.g4_0, ↓hS.g4_1, ↓hS.g4_3, ↓hS.g4_5, ↓hS.g4_6, ↓hS.g4_7, ↓hS.g4_8, ↓hS.g4_9, ↓hS.g4_10, ↓hS.g4_12, ↓hS.g4_11, ↓hS.k4, ↓hS.g5_0, ↓hS.g5_1, ↓hS.g5_2, ↓hS.g5_3, ↓hS.g5_4, ↓hS.g5_5, ↓hS.g5_6, ↓hS.k5, ↓hS.g1_0, ↓hS.g1_1, ↓hS.g1_2, ↓hS.g1_3, ↓hS.g1_4, ↓hS.g1_5, ↓hS.g1_6, ↓hS.g1_7, ↓hS.k1, ↓hS.l3, ↓hS.n3, ↓hS.l26, ↓hS.n26, ↓hS.l5, ↓hS.n5, ↓hS.l12, ↓hS.n12, ↓hS.l6, ↓hS.n6, ↓hS.l10, ↓hS.n10, ↓hS.l11, ↓hS.n11, ↓hS.l13, ↓hS.n13, ↓hS.l14, ↓hS.n14, ↓hS.l16, ↓hS.n16, ↓hS.l24, ↓hS.n24, ↓hS.l27, ↓hS.n27, ↓hS.l28, ↓hS.n28, ↓hS.l2, ↓hS.n2, hT.1.2.2.2, e1, ↓reduceIte]
  have hm := dblV (fun n y0 y1 y2 y3 y4 ξ => LX6_bestTurn_52 n y0 y1 y2 y3 y4 ξ) (fun k' (s : Int × Int) y => k' 1 p s.1 s.2 y μ) (fun k' n s y x => LX6_bestTurn_70 k' n 1 p s.1 s.2 y x μ) (fun y => if y = 0 then 1 else 0) (fun _ => 4) 4 (fun y s => s = tS (h 0) p (4 * y)) (fun x y s => s = tS (h 0) p (4 * y + x)) (fun R => R = RT (10 * (bT (h 0) p 14 / 4) + bT (h 0) p 14 % 4) μ) (fun y y0 y1 => by split <;> omega) (fun n s y y0 y1 hs => ⟨?_, ?_⟩) (fun n s hs => ?_) (fun k' n s y x y0 y1 x0 x1 hs => ?_) (fun k' n s y y0 y1 hs => ⟨?_, ?_⟩) FU 0 (-1, 0) (Int.le_refl _) (by omega) (by rw [show ((FU : Nat) : Int) = 20000 from rfl]; omega) rfl
  · exact hm
  · rw [hs]
    by_cases ey : y = 0
    · rw [ey]
      rfl
    · rw [if_neg ey, Int.add_zero]
  · by_cases ey : y = 0
    · have hx : ¬ 3 < y := by omega
      simp (disch := omega) only [LX6_bestTurn_52, BX6_bestTurn_52, BX6_bestTurn_68, ey, hx, ↓reduceIte, not_true_eq_false, Int.reduceLT]
    · have hx : ¬ 3 < y := by omega
      simp (disch := omega) only [LX6_bestTurn_52, BX6_bestTurn_52, BX6_bestTurn_68, ey, hx, ↓reduceIte, not_false_eq_true]
  · simp (disch := omega) only [LX6_bestTurn_52, BX6_bestTurn_52, ↓reduceIte, Int.reduceLT]
    rw [hs]
    rfl
  · have hx : ¬ 3 < x := by omega
    have hx0 : 0 ≤ x := by
      split at x0 <;> omega
    have ht : 1 ≤ 4 * y + x := by
      split at x0 <;> omega
    have hg := greatest_rt (q := p) hI (show 0 ≤ y ∧ y ≤ 3 by omega) (show 0 ≤ x ∧ x ≤ 3 by omega)
    have hgv := gm_v hr (p := p) (show 0 ≤ y ∧ y ≤ 3 by omega) (show 0 ≤ x ∧ x ≤ 3 by omega)
    have ew : w32 (w32 (10 * y) + x) = 10 * y + x := by rw [w32_eq (z := 10 * y) (by omega) (by omega), w32_eq (by omega) (by omega)]
    have estep : LX6_bestTurn_70 k' (n + 1) 1 p s.1 s.2 y x μ = if s.1 < 0 then LX6_bestTurn_70 k' n 1 p (10 * y + x) (gm (h 0) p y x) y (x + 1) μ else if 0 ≤ dCmp .g (gm (h 0) p y x) s.2 then LX6_bestTurn_70 k' n 1 p s.1 s.2 y (x + 1) μ else LX6_bestTurn_70 k' n 1 p (10 * y + x) (gm (h 0) p y x) y (x + 1) μ := by
      simp (disch := omega) only [LX6_bestTurn_70, BX6_bestTurn_70, BX6_bestTurn_98, BX6_bestTurn_110, ↓hS.g6_0, ↓hS.g6_1, ↓hS.g6_2, ↓hS.g6_3, ↓hS.g6_4, ↓hS.g6_5, ↓hS.g6_7, ↓hS.g6_8, ↓hS.k6, ↓hS.g2_0, ↓hS.g2_1, ↓hS.g2_2, ↓hS.g2_3, ↓hS.g2_4, ↓hS.g2_5, ↓hS.g2_6, ↓hS.g2_7, ↓hS.k2, ↓hS.g3_0, ↓hS.g3_1, ↓hS.g3_2, ↓hS.g3_3, ↓hS.g3_4, ↓hS.k3, ↓hS.g4_0, ↓hS.g4_1, ↓hS.g4_3, ↓hS.g4_5, ↓hS.g4_6, ↓hS.g4_7, ↓hS.g4_8, ↓hS.g4_9, ↓hS.g4_10, ↓hS.g4_12, ↓hS.g4_11, ↓hS.k4, ↓hS.g5_0, ↓hS.g5_1, ↓hS.g5_2, ↓hS.g5_3, ↓hS.g5_4, ↓hS.g5_5, ↓hS.g5_6, ↓hS.k5, ↓hS.g1_0, ↓hS.g1_1, ↓hS.g1_2, ↓hS.g1_3, ↓hS.g1_4, ↓hS.g1_5, ↓hS.g1_6, ↓hS.g1_7, ↓hS.k1, ↓hS.l3, ↓hS.n3, ↓hS.l26, ↓hS.n26, ↓hS.l5, ↓hS.n5, ↓hS.l12, ↓hS.n12, ↓hS.l6, ↓hS.n6, ↓hS.l10, ↓hS.n10, ↓hS.l11, ↓hS.n11, ↓hS.l13, ↓hS.n13, ↓hS.l14, ↓hS.n14, ↓hS.l16, ↓hS.n16, ↓hS.l24, ↓hS.n24, ↓hS.l27, ↓hS.n27, ↓hS.l28, ↓hS.n28, ↓hS.l2, ↓hS.n2, hx, ↓reduceIte, ew, w32_eq, ↓CL, hg, CLX_rt, LT_eq]
    refine ⟨_, rfl, ?_⟩
    subst hs
    show LX6_bestTurn_70 k' (n + 1) 1 p (tS (h 0) p (4 * y + x)).1 (tS (h 0) p (4 * y + x)).2 y x μ = LX6_bestTurn_70 k' n 1 p (tS (h 0) p (4 * y + (x + 1))).1 (tS (h 0) p (4 * y + (x + 1))).2 y (x + 1) μ
    rw [estep]
    by_cases e5 : 4 * y + x = 1
    · have ey : y = 0 := by omega
      have ex : x = 1 := by omega
      subst ey ex
      rfl
    · have hB := bT_le (r := h 0) (p := p) (4 * y + x - 2).toNat
      have e6 : (4 * y + (x + 1) - 2).toNat = (4 * y + x - 2).toNat + 1 := by omega
      have e7 : (((4 * y + x - 2).toNat : Nat) : Int) + 2 = 4 * y + x := by omega
      have e8 : (4 * y + x) / 4 = y := by omega
      have e9 : (4 * y + x) % 4 = x := by omega
      have hd := d4 (t := bT (h 0) p (4 * y + x - 2).toNat) (by omega)
      have hgb := gm_v hr (p := p) hd.1 hd.2
      unfold tS
      rw [if_neg (show ¬ 4 * y + x ≤ 1 by omega), if_neg (show ¬ 4 * y + (x + 1) ≤ 1 by omega), e6, bT, e7, e8, e9]
      generalize bT (h 0) p (4 * y + x - 2).toNat = B at hB hd hgb ⊢
      dsimp only
      rw [if_neg (by omega)]
      by_cases e10 : gm (h 0) p (B / 4) (B % 4) ≤ gm (h 0) p y x
      · rw [if_pos ((hgv.ge hgb).mpr e10), if_pos e10]
      · rw [if_neg (fun q => e10 ((hgv.ge hgb).mp q)), if_neg e10, e8, e9]
  · rw [hs]
    rw [show 4 * y + 4 = 4 * (y + 1) by omega]
  · simp (disch := omega) only [LX6_bestTurn_70, BX6_bestTurn_70, ↓reduceIte, Int.reduceLT, w32_eq]
theorem bestTurn_no (hI : CIc μ c u h tx fed fa) (hp : ¬ isPl (h 0) p) : FX6_bestTurn 1 p μ = TH 1 μ := by
  obtain ⟨⟨hS, ⟨c0, c1⟩, ⟨a1, a2, a3⟩, u0, b', d'⟩, hB, hP⟩ := id hI
  simp (disch := omega) only [FX6_bestTurn, BX6_bestTurn_0, ↓hS.g6_0, ↓hS.g6_1, ↓hS.g6_2, ↓hS.g6_3, ↓hS.g6_4, ↓hS.g6_5, ↓hS.g6_7, ↓hS.g6_8, ↓hS.k6, ↓hS.g2_0, ↓hS.g2_1, ↓hS.g2_2, ↓hS.g2_3, ↓hS.g2_4, ↓hS.g2_5, ↓hS.g2_6, ↓hS.g2_7, ↓hS.k2, ↓hS.g3_0, ↓hS.g3_1, ↓hS.g3_2, ↓hS.g3_3, ↓hS.g3_4, ↓hS.k3, ↓hS.g4_0, ↓hS.g4_1, ↓hS.g4_3, ↓hS.g4_5, ↓hS.g4_6, ↓hS.g4_7, ↓hS.g4_8, ↓hS.g4_9, ↓hS.g4_10, ↓hS.g4_12, ↓hS.g4_11, ↓hS.k4, ↓hS.g5_0, ↓hS.g5_1, ↓hS.g5_2, ↓hS.g5_3, ↓hS.g5_4, ↓hS.g5_5, ↓hS.g5_6, ↓hS.k5, ↓hS.g1_0, ↓hS.g1_1, ↓hS.g1_2, ↓hS.g1_3, ↓hS.g1_4, ↓hS.g1_5, ↓hS.g1_6, ↓hS.g1_7, ↓hS.k1, ↓hS.l3, ↓hS.n3, ↓hS.l26, ↓hS.n26, ↓hS.l5, ↓hS.n5, ↓hS.l12, ↓hS.n12, ↓hS.l6, ↓hS.n6, ↓hS.l10, ↓hS.n10, ↓hS.l11, ↓hS.n11, ↓hS.l13, ↓hS.n13, ↓hS.l14, ↓hS.n14, ↓hS.l16, ↓hS.n16, ↓hS.l24, ↓hS.n24, ↓hS.l27, ↓hS.n27, ↓hS.l28, ↓hS.n28, ↓hS.l2, ↓hS.n2, ↓CL, reqP_no hI hp]
  rfl
def cvV (r : Row) (p : Int) : Int := fDiv (fOf (dotsOf r p)) (fOf (r 1 * r 0))
theorem cv_ok {r : Row} (hr : okRow r) (p : Int) : fOk (FP.fdiv (fBits (fOf (dotsOf r p))) (fBits (fOf (r 1 * r 0)))) = true ∧ dOk (FP.f2d (fBits (cvV r p))) = true ∧ dCmp .l (dOfF (cvV r p)) (dOfF (cvV r p)) = 0 ∧ ¬ fCmp .l (fOf (r 1 * r 0)) 0 ≤ 0 := by
  have hr1 := hr.1
  have h := su2_le (f := fun x y => b2 (dotAt r p x y)) (w := r 0) (h := r 1) (B := 1) (by omega) (by omega) fun x y _ _ _ _ => b2_0
  rw [Int.mul_one] at h
  exact fv_ok (by omega) (by omega) (by omega) (by omega) h.1 h.2
theorem cv_fd {r : Row} (hr : okRow r) (p : Int) (K : Int → Rz) : FD (fOf (dotsOf r p)) (fOf (r 1 * r 0)) K = K (cvV r p) := if_pos (cv_ok hr p).1
theorem covered_rt (hI : CIc μ c u h tx fed fa) (hp : isPl (h 0) p) : ∃ ν, FX6_covered 1 p μ = RT (cvV (h 0) p) ν ∧ RdP μ ν c u h tx fed fa := by
  obtain ⟨⟨hS, ⟨c0, c1⟩, ⟨a1, a2, a3⟩, u0, b, d⟩, hB, hP⟩ := id hI
  obtain ⟨ν, e1, hI2, hK, hF, -⟩ := upd_rt hI
  obtain ⟨⟨hS2, -, ⟨-, b2, -⟩, -, -, -⟩, -, -⟩ := id hI2
  have hr := hI2.1.cur.1
  have hT := hI2.1.cur.2
  have e1c : ∀ (K : Int → Mem → Rz) (X : Int → Int → Mem → Rz), CLX (FX2_update 4 (25 + 8 * c) μ) K X = K 0 ν := fun K X => by rw [e1]; rfl
  have e2c : ∀ (K : Int → Mem → Rz) (X : Int → Int → Mem → Rz), CLX (FX6_requirePlate 1 p μ) K X = K 0 μ := fun K X => by rw [reqP_ok hI hp]; rfl
  have hr2 := hr.2.1
  have p4 : p < 4 := by have := hp.2; omega
  have p0 := hp.1
  have hv := cv_ok hr p
  refine ⟨ν, ?_, hI2, hK, hF⟩
  simp (disch := omega) only [FX6_covered, BX6_covered_0, BX6_covered_47, ↓hS.g6_6 a2, ↓hS.g6_0, ↓hS.g6_1, ↓hS.g6_2, ↓hS.g6_3, ↓hS.g6_4, ↓hS.g6_5, ↓hS.g6_7, ↓hS.g6_8, ↓hS.k6, ↓hS.g2_0, ↓hS.g2_1, ↓hS.g2_2, ↓hS.g2_3, ↓hS.g2_4, ↓hS.g2_5, ↓hS.g2_6, ↓hS.g2_7, ↓hS.k2, ↓hS.g3_0, ↓hS.g3_1, ↓hS.g3_2, ↓hS.g3_3, ↓hS.g3_4, ↓hS.k3, ↓hS.g4_0, ↓hS.g4_1, ↓hS.g4_3, ↓hS.g4_5, ↓hS.g4_6, ↓hS.g4_7, ↓hS.g4_8, ↓hS.g4_9, ↓hS.g4_10, ↓hS.g4_12, ↓hS.g4_11, ↓hS.k4, ↓hS.g5_0, ↓hS.g5_1, ↓hS.g5_2, ↓hS.g5_3, ↓hS.g5_4, ↓hS.g5_5, ↓hS.g5_6, ↓hS.k5, ↓hS.g1_0, ↓hS.g1_1, ↓hS.g1_2, ↓hS.g1_3, ↓hS.g1_4, ↓hS.g1_5, ↓hS.g1_6, ↓hS.g1_7, ↓hS.k1, ↓hS.l3, ↓hS.n3, ↓hS.l26, ↓hS.n26, ↓hS.l5, ↓hS.n5, ↓hS.l12, ↓hS.n12, ↓hS.l6, ↓hS.n6, ↓hS.l10, ↓hS.n10, ↓hS.l11, ↓hS.n11, ↓hS.l13, ↓hS.n13, ↓hS.l14, ↓hS.n14, ↓hS.l16, ↓hS.n16, ↓hS.l24, ↓hS.n24, ↓hS.l27, ↓hS.n27, ↓hS.l28, ↓hS.n28, ↓hS.l2, ↓hS.n2, ↓CL, ↓e1c, ↓e2c, ↓hS2.g6_6 b2, ↓hS2.g6_0, ↓hS2.g6_1, ↓hS2.g6_2, ↓hS2.g6_3, ↓hS2.g6_4, ↓hS2.g6_5, ↓hS2.g6_7, ↓hS2.g6_8, ↓hS2.k6, ↓hS2.g2_0, ↓hS2.g2_1, ↓hS2.g2_2, ↓hS2.g2_3, ↓hS2.g2_4, ↓hS2.g2_5, ↓hS2.g2_6, ↓hS2.g2_7, ↓hS2.k2, ↓hS2.g3_0, ↓hS2.g3_1, ↓hS2.g3_2, ↓hS2.g3_3, ↓hS2.g3_4, ↓hS2.k3, ↓hS2.g4_0, ↓hS2.g4_1, ↓hS2.g4_3, ↓hS2.g4_5, ↓hS2.g4_6, ↓hS2.g4_7, ↓hS2.g4_8, ↓hS2.g4_9, ↓hS2.g4_10, ↓hS2.g4_12, ↓hS2.g4_11, ↓hS2.k4, ↓hS2.g5_0, ↓hS2.g5_1, ↓hS2.g5_2, ↓hS2.g5_3, ↓hS2.g5_4, ↓hS2.g5_5, ↓hS2.g5_6, ↓hS2.k5, ↓hS2.g1_0, ↓hS2.g1_1, ↓hS2.g1_2, ↓hS2.g1_3, ↓hS2.g1_4, ↓hS2.g1_5, ↓hS2.g1_6, ↓hS2.g1_7, ↓hS2.k1, ↓hS2.l3, ↓hS2.n3, ↓hS2.l26, ↓hS2.n26, ↓hS2.l5, ↓hS2.n5, ↓hS2.l12, ↓hS2.n12, ↓hS2.l6, ↓hS2.n6, ↓hS2.l10, ↓hS2.n10, ↓hS2.l11, ↓hS2.n11, ↓hS2.l13, ↓hS2.n13, ↓hS2.l14, ↓hS2.n14, ↓hS2.l16, ↓hS2.n16, ↓hS2.l24, ↓hS2.n24, ↓hS2.l27, ↓hS2.n27, ↓hS2.l28, ↓hS2.n28, ↓hS2.l2, ↓hS2.n2, ↓cells_rt_c hS2 c0 c1 hr hT, ↓LT_eq, hv.2.2.2, ↓reduceIte, hK.2.2.1 p hp.1 hp.2]
  exact cv_fd hr p _
theorem covered_no (hI : CIc μ c u h tx fed fa) (hp : ¬ isPl (h 0) p) : FX6_covered 1 p μ = TH 1 μ := by
  obtain ⟨⟨hS, ⟨c0, c1⟩, ⟨a1, a2, a3⟩, u0, b', d'⟩, hB, hP⟩ := id hI
  simp (disch := omega) only [FX6_covered, BX6_covered_0, ↓hS.g6_0, ↓hS.g6_1, ↓hS.g6_2, ↓hS.g6_3, ↓hS.g6_4, ↓hS.g6_5, ↓hS.g6_7, ↓hS.g6_8, ↓hS.k6, ↓hS.g2_0, ↓hS.g2_1, ↓hS.g2_2, ↓hS.g2_3, ↓hS.g2_4, ↓hS.g2_5, ↓hS.g2_6, ↓hS.g2_7, ↓hS.k2, ↓hS.g3_0, ↓hS.g3_1, ↓hS.g3_2, ↓hS.g3_3, ↓hS.g3_4, ↓hS.k3, ↓hS.g4_0, ↓hS.g4_1, ↓hS.g4_3, ↓hS.g4_5, ↓hS.g4_6, ↓hS.g4_7, ↓hS.g4_8, ↓hS.g4_9, ↓hS.g4_10, ↓hS.g4_12, ↓hS.g4_11, ↓hS.k4, ↓hS.g5_0, ↓hS.g5_1, ↓hS.g5_2, ↓hS.g5_3, ↓hS.g5_4, ↓hS.g5_5, ↓hS.g5_6, ↓hS.k5, ↓hS.g1_0, ↓hS.g1_1, ↓hS.g1_2, ↓hS.g1_3, ↓hS.g1_4, ↓hS.g1_5, ↓hS.g1_6, ↓hS.g1_7, ↓hS.k1, ↓hS.l3, ↓hS.n3, ↓hS.l26, ↓hS.n26, ↓hS.l5, ↓hS.n5, ↓hS.l12, ↓hS.n12, ↓hS.l6, ↓hS.n6, ↓hS.l10, ↓hS.n10, ↓hS.l11, ↓hS.n11, ↓hS.l13, ↓hS.n13, ↓hS.l14, ↓hS.n14, ↓hS.l16, ↓hS.n16, ↓hS.l24, ↓hS.n24, ↓hS.l27, ↓hS.n27, ↓hS.l28, ↓hS.n28, ↓hS.l2, ↓hS.n2, ↓CL, reqP_no hI hp]
  rfl
end MOI
