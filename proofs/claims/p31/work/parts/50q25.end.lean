/-! the end of the law, step by step -/
section ENA
variable {x0 x1 x2 x3 x4 x5 x6 x7 x8 t v v1 v2 v3 z1 z2 z3 p s1 s2 : Int} {μ u1 u2 u3 u4 u5 u6 u7 : Mem}
theorem en9_ab (h : 0 ≤ v) (e : FL_isPrinted t x7 x6 x4 μ = RT 1 u1) : EN9 x4 x6 x7 t v μ = some (0, 1, u1) := by
  unfold EN9
  rw [if_neg (by omega), e, CLZ_rt, if_neg (by decide), BL_law_715, RTL, if_pos (by decide)]
theorem en8_ab (h : v = x4) (e : FL_isPrinted t x7 x6 4 μ = RT 1 u1) (k : u1 t (-1) = 6 + 1) (e2 : FX6_undo t u1 = RT v2 u2) : EN8 x4 x6 x7 t v μ = EN9 x4 x6 x7 t v2 u2 := by
  unfold EN8
  rw [if_neg (fun w => w h), e, CLZ_rt, if_neg (by decide), KD_go k, e2, CLZ_rt]
theorem en7_ab (e : FL_isPrinted t x7 x6 x4 μ = RT 1 u1) (k : u1 t (-1) = 6 + 1) (e2 : FX6_limit t 4 u1 = RT v2 u2) : EN7 x4 x6 x7 t μ = EN8 x4 x6 x7 t v2 u2 := by
  unfold EN7
  rw [e, CLZ_rt, if_neg (by decide), KD_go k, e2, CLZ_rt]
theorem en6_ab {a b dx dy v9 : Int} (k1 : μ s1 (-1) = 8 + 1) (g1 : μ s1 3 = v) (n1 : ∀ K, NWn 8 7 μ K = K s2 u1) (k2 : u1 s1 (-1) = 8 + 1) (g2 : u1 s1 0 = a) (g3 : u1 s1 1 = b) (k3 : u1 s2 (-1) = 8 + 1) (e1 : FX8_init s2 a b z1 u1 = RT 0 u2) (k4 : u2 s1 (-1) = 8 + 1) (g4 : u2 s1 4 = dx) (g5 : u2 s1 5 = dy) (k5 : u2 s2 (-1) = 8 + 1) (h5 : s2 < -21) (hne : s1 ≠ s2) (k6 : mUp (mUp u2 s2 4 dx) s2 5 dy x7 (-1) = 11 + 1) (e2 : FJx4a65c_set_bcc79 x7 p s2 (mUp (mUp u2 s2 4 dx) s2 5 dy) = RT v9 u3) : EN6 x4 x6 x7 t p s1 z1 v μ = EN7 x4 x6 x7 t u3 := by
  unfold EN6
  rw [GF_go k1 g1, if_pos rfl, n1, GF_go k2 g2, GF_go k2 g3, KD_go k3, e1, CLZ_rt, GF_go k4 g4, PF_l h5 k5, GF_go (ci := 8) (k := 5) (v := dy) (by rw [mUp_ne _ _ (fun w => hne w.1)]; exact k4) (by rw [mUp_ne _ _ (fun w => hne w.1)]; exact g5), PF_l h5 (by rw [mUp_ne _ _ (by omega)]; exact k5), KD_go k6, e2, CLZ_rt]
theorem en5_ab (h : v = 1) (c1 : FL_cell x0 7 μ = RT v1 μ) (b1 : FL_bound v1 4 μ = RT z1 μ) (k : μ t (-1) = 6 + 1) (e : FX6_shape t p z1 μ = RT v2 u1) : EN5 x0 x4 x6 x7 t p s1 v μ = EN6 x4 x6 x7 t p s1 z1 v2 u1 := by
  unfold EN5
  rw [if_pos (by omega), c1, CLZ_rt, b1, CLZ_rt, KD_go k, e, CLZ_rt]
theorem en4b_ab (k : μ t (-1) = 6 + 1) (e1 : FX6_paint t z1 z2 1 1 z3 μ = RT v u1) (k1 : u1 t (-1) = 6 + 1) (e2 : FX6_state t 4 u1 = RT v u2) (e3 : FL_isPrinted t x7 x6 x4 u2 = RT 1 u3) : EN4b x0 x4 x6 x7 t p s1 z1 z2 z3 μ = EN5 x0 x4 x6 x7 t p s1 1 u3 := by
  unfold EN4b
  rw [KD_go k, e1, CLZ_rt, KD_go k1, e2, CLZ_rt, if_neg (fun w => w rfl), e3, CLZ_rt]
theorem en4_ab (h : v = 1) (c1 : FL_cell x0 6 μ = RT v1 μ) (b1 : FL_bound v1 x1 μ = RT z1 μ) (b2 : FL_bound (bShr v1 4) x2 μ = RT z2 μ) (b3 : FL_bound (bShr v1 8) 101 μ = RT z3 μ) (e : ∀ K : Mem → Rz, (AL 7 x6 z2 μ fun a => AS 1 a z1 z3 μ K) = K u1) : EN4 x0 x1 x2 x4 x6 x7 t p s1 v μ = EN4b x0 x4 x6 x7 t p s1 z1 z2 z3 u1 := by
  unfold EN4
  rw [if_pos (by omega), c1, CLZ_rt, b1, CLZ_rt, c1, CLZ_rt, b2, CLZ_rt, c1, CLZ_rt, b3, CLZ_rt, e]
theorem en3b_ab {dx dy : Int} (k1 : μ s1 (-1) = 8 + 1) (g1 : μ s1 4 = dx) (g2 : μ s1 5 = dy) (k : μ t (-1) = 6 + 1) (e1 : FX6_shift t p dx dy μ = RT v u1) (k2 : u1 t (-1) = 6 + 1) (e2 : FX6_state t 4 u1 = RT v u2) (e3 : FL_isPrinted t x7 x6 x4 u2 = RT 1 u3) : EN3b x0 x1 x2 x4 x6 x7 t p s1 μ = EN4 x0 x1 x2 x4 x6 x7 t p s1 1 u3 := by
  unfold EN3b
  rw [GF_go k1 g1, GF_go k1 g2, KD_go k, e1, CLZ_rt, KD_go k2, e2, CLZ_rt, if_neg (fun w => w rfl), e3, CLZ_rt]
theorem en3_ab {dx dy : Int} (h : v = 1) (c1 : FL_cell x0 5 μ = RT v1 μ) (b1 : FL_bound v1 x3 μ = RT p μ) (k1 : μ x7 (-1) = 11 + 1) (g1 : FJx4a65c_get_915e3 x7 p μ = RT s1 μ) (k2 : μ s1 (-1) = 8 + 1) (hs : s1 < -21) (b2 : FL_bound (bShr v1 3) 18 μ = RT dx μ) (c2 : FL_cell x0 5 (mUp μ s1 4 dx) = RT v1 (mUp μ s1 4 dx)) (b3 : FL_bound (bShr v1 8) 18 (mUp μ s1 4 dx) = RT dy (mUp μ s1 4 dx)) : EN3 x0 x1 x2 x3 x4 x6 x7 t v μ = EN3b x0 x1 x2 x4 x6 x7 t p s1 (mUp (mUp μ s1 4 dx) s1 5 dy) := by
  unfold EN3
  rw [if_pos (by omega), c1, CLZ_rt, b1, CLZ_rt, KD_go k1, g1, CLZ_rt, KD_go k2, c1, CLZ_rt, b2, CLZ_rt, PF_l hs k2, c2, CLZ_rt, b3, CLZ_rt, PF_l hs (by rw [mUp_ne _ _ (by omega)]; exact k2)]
theorem en2_ab (h : v = x3) (e : FL_isPrinted t x7 x6 x4 μ = RT 1 u1) : EN2 x0 x1 x2 x3 x4 x6 x7 t v μ = EN3 x0 x1 x2 x3 x4 x6 x7 t 1 u1 := by
  unfold EN2
  rw [if_neg (fun w => w h), e, CLZ_rt]
theorem en1_ab (k : μ x5 (-1) = 10 + 1) (e1 : FJ4_toString_0e30d x5 μ = RT v u1) (e2 : FL_read t v u1 = RT v2 u2) : EN1 x0 x1 x2 x3 x4 x5 x6 x7 t μ = EN2 x0 x1 x2 x3 x4 x6 x7 t v2 u2 := by
  unfold EN1
  rw [KD_go k, e1, CLZ_rt, e2, CLZ_rt]
theorem en0_ab (n1 : ∀ K, NW 6 9 μ K = K t u1) (k : u1 t (-1) = 6 + 1) (e1 : FX6_init t u1 = RT 0 u2) : EN0 x0 x1 x2 x3 x4 x5 x6 x7 μ = EN1 x0 x1 x2 x3 x4 x5 x6 x7 t u2 := by
  unfold EN0
  rw [n1, KD_go k, e1, CLZ_rt]
end ENA
section ENB
variable {μ ν : Mem} {n u c s c' s' L e cap T p a b sh dx dy x y z t k lim many w hh : Int} {h : Int → Row} {ids : List Int} {sc : Int → Int} {X P : Int → Prop} {r r' : Row}
theorem push_0 : push r h 0 = r := if_pos rfl
theorem push_1 : push r h (0 + 1) = h 0 := by
  unfold push
  rw [if_neg (by omega)]
  rfl
theorem Pcs.k6 (hP : Pcs sc n u h c s μ) : μ 1 (-1) = 7 := by
  obtain ⟨⟨g, tx, fed, fa, h1⟩, -⟩ := hP
  exact h1.1.1.1.1
theorem Pcs.ok (hP : Pcs sc n u h c s μ) : okRow (h 0) := by
  obtain ⟨⟨g, tx, fed, fa, h1⟩, -⟩ := hP
  exact h1.1.cur.1
theorem Pcs.u0 (hP : Pcs sc n u h c s μ) : 0 ≤ u ∧ u ≤ 8 := by
  obtain ⟨⟨g, tx, fed, fa, h1⟩, -⟩ := hP
  exact h1.1.2.2.2.1
theorem uUp_1 (hu : 0 ≤ u ∧ u ≤ 8) : 1 ≤ uUp u := by
  unfold uUp mn
  split <;> omega
/-- from the new shape on -/
theorem end_7 (hP : Pcs sc n u h c s μ) (hM : Mtc μ X (h 0) L e cap ids T) (hl : h 0 3 = lim) : ∃ ν, EN7 lim T L 1 μ = some (0, 1, ν) ∧ ν 0 1 ≤ c + 10 ∧ ν 0 2 ≤ s + 3000 := by
  have hu := hP.u0
  obtain ⟨u1, e1, P1, M1⟩ := pc_printed hP hM
  rw [hl] at e1
  obtain ⟨u2, e2, P2, N2⟩ := pc_call (F := fun μ => FX6_limit 1 4 μ) (v := h 0 3) (r' := limR (h 0) 4) P1 (fun g tx fed fa hI => limit_rt hI (by omega))
  have M2 : Mtc u2 X (push (limR (h 0) 4) h 0) L e cap ids T := by
    rw [push_0]
    exact (M1.limit).ng N2
  obtain ⟨u3, e3, P3, M3⟩ := pc_printed P2 M2
  have hl4 : push (limR (h 0) 4) h 0 3 = 4 := by
    rw [push_0]
    rfl
  rw [hl4] at e3
  obtain ⟨u4, e4, P4, N4⟩ := pc_undo P3 (uUp_1 hu)
  have M4 : Mtc u4 X ((fun j => push (limR (h 0) 4) h (j + 1)) 0) L e cap ids T := by
    show Mtc u4 X (push (limR (h 0) 4) h (0 + 1)) L e cap ids T
    rw [push_1]
    exact ((M1.ng N2).ng (by
      obtain ⟨⟨g, tx, fed, fa, h1⟩, -⟩ := P2
      exact ⟨fun z k hz => rfl, rfl⟩)).ng (by
      exact ⟨fun z k hz => by
        rw [N4.1 z k hz]
        exact (e3n e3 P2 M2 z k hz), by rw [N4.2]; exact (e3m e3 P2 M2)⟩)
  sorry
end ENB
