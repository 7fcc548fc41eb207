/-! the end of the law, step by step -/
section ENA
variable {x0 x1 x2 x3 x4 x5 x6 x7 x8 t v v1 v2 v3 z1 z2 z3 p s1 s2 : Int} {μ u1 u2 u3 u4 u5 u6 u7 : Mem}
theorem en9_ab (h : 0 ≤ v) (e : FL_isPrinted t x7 x6 x4 μ = RT 1 u1) : EN9 x4 x6 x7 t v μ = some (0, 1, u1) := by
  unfold EN9
  rw [if_neg (by omega), e, CLZ_rt, if_neg (by decide), BL_law_715, RTL, if_pos (by decide)]
theorem en8_ab (h : v = x4) (e : FL_isPrinted t x7 x6 4 μ = RT 1 u1) (k : u1 t (-1) = 6 + 1) (e2 : FX6_undo t u1 = RT v2 u2) : EN8 x4 x6 x7 t v μ = EN9 x4 x6 x7 t v2 u2 := by
  unfold EN8
  rw [if_neg (fun w => w h), e, CLZ_rt, if_neg (by decide), KD_go k, e2, CLZ_rt]
theorem en7_ab (e : FL_isPrinted t x7 x6 x4 μ = RT 1 u1) (k : u1 t (-1) = 6 + 1) (e2 : FX6_limit t 4 u1 = RT v2 u2) : EN7 x4 x6 x7 t μ = EN8 x4 x6 x7 t v2 u2 := by
  unfold EN7
  rw [e, CLZ_rt, if_neg (by decide), KD_go k, e2, CLZ_rt]
theorem en6_ab {a b dx dy v9 : Int} (k1 : μ s1 (-1) = 8 + 1) (g1 : μ s1 3 = v) (n1 : ∀ K, NWn 8 7 μ K = K s2 u1) (k2 : u1 s1 (-1) = 8 + 1) (g2 : u1 s1 0 = a) (g3 : u1 s1 1 = b) (k3 : u1 s2 (-1) = 8 + 1) (e1 : FX8_init s2 a b z1 u1 = RT 0 u2) (k4 : u2 s1 (-1) = 8 + 1) (g4 : u2 s1 4 = dx) (g5 : u2 s1 5 = dy) (k5 : u2 s2 (-1) = 8 + 1) (h5 : s2 < -21) (hne : s1 ≠ s2) (k6 : mUp (mUp u2 s2 4 dx) s2 5 dy x7 (-1) = 11 + 1) (e2 : FJx4a65c_set_bcc79 x7 p s2 (mUp (mUp u2 s2 4 dx) s2 5 dy) = RT v9 u3) : EN6 x4 x6 x7 t p s1 z1 v μ = EN7 x4 x6 x7 t u3 := by
  unfold EN6
  rw [GF_go k1 g1, if_pos rfl, n1, GF_go k2 g2, GF_go k2 g3, KD_go k3, e1, CLZ_rt, GF_go k4 g4, PF_l h5 k5, GF_go (ci := 8) (k := 5) (v := dy) (by rw [mUp_ne _ _ (fun w => hne w.1)]; exact k4) (by rw [mUp_ne _ _ (fun w => hne w.1)]; exact g5), PF_l h5 (by rw [mUp_ne _ _ (by omega)]; exact k5), KD_go k6, e2, CLZ_rt]
theorem en5_ab (h : v = 1) (c1 : FL_cell x0 7 μ = RT v1 μ) (b1 : FL_bound v1 4 μ = RT z1 μ) (k : μ t (-1) = 6 + 1) (e : FX6_shape t p z1 μ = RT v2 u1) : EN5 x0 x4 x6 x7 t p s1 v μ = EN6 x4 x6 x7 t p s1 z1 v2 u1 := by
  unfold EN5
  rw [if_pos (by omega), c1, CLZ_rt, b1, CLZ_rt, KD_go k, e, CLZ_rt]
theorem en4b_ab (k : μ t (-1) = 6 + 1) (e1 : FX6_paint t z1 z2 1 1 z3 μ = RT v u1) (k1 : u1 t (-1) = 6 + 1) (e2 : FX6_state t 4 u1 = RT v u2) (e3 : FL_isPrinted t x7 x6 x4 u2 = RT 1 u3) : EN4b x0 x4 x6 x7 t p s1 z1 z2 z3 μ = EN5 x0 x4 x6 x7 t p s1 1 u3 := by
  unfold EN4b
  rw [KD_go k, e1, CLZ_rt, KD_go k1, e2, CLZ_rt, if_neg (fun w => w rfl), e3, CLZ_rt]
theorem en4_ab (h : v = 1) (c1 : FL_cell x0 6 μ = RT v1 μ) (b1 : FL_bound v1 x1 μ = RT z1 μ) (b2 : FL_bound (bShr v1 4) x2 μ = RT z2 μ) (b3 : FL_bound (bShr v1 8) 101 μ = RT z3 μ) (e : ∀ K : Mem → Rz, (AL 7 x6 z2 μ fun a => AS 1 a z1 z3 μ K) = K u1) : EN4 x0 x1 x2 x4 x6 x7 t p s1 v μ = EN4b x0 x4 x6 x7 t p s1 z1 z2 z3 u1 := by
  unfold EN4
  rw [if_pos (by omega), c1, CLZ_rt, b1, CLZ_rt, c1, CLZ_rt, b2, CLZ_rt, c1, CLZ_rt, b3, CLZ_rt, e]
theorem en3b_ab {dx dy : Int} (k1 : μ s1 (-1) = 8 + 1) (g1 : μ s1 4 = dx) (g2 : μ s1 5 = dy) (k : μ t (-1) = 6 + 1) (e1 : FX6_shift t p dx dy μ = RT v u1) (k2 : u1 t (-1) = 6 + 1) (e2 : FX6_state t 4 u1 = RT v u2) (e3 : FL_isPrinted t x7 x6 x4 u2 = RT 1 u3) : EN3b x0 x1 x2 x4 x6 x7 t p s1 μ = EN4 x0 x1 x2 x4 x6 x7 t p s1 1 u3 := by
  unfold EN3b
  rw [GF_go k1 g1, GF_go k1 g2, KD_go k, e1, CLZ_rt, KD_go k2, e2, CLZ_rt, if_neg (fun w => w rfl), e3, CLZ_rt]
theorem en3_ab {dx dy : Int} (h : v = 1) (c1 : FL_cell x0 5 μ = RT v1 μ) (b1 : FL_bound v1 x3 μ = RT p μ) (k1 : μ x7 (-1) = 11 + 1) (g1 : FJx4a65c_get_915e3 x7 p μ = RT s1 μ) (k2 : μ s1 (-1) = 8 + 1) (hs : s1 < -21) (b2 : FL_bound (bShr v1 3) 18 μ = RT dx μ) (c2 : FL_cell x0 5 (mUp μ s1 4 dx) = RT v1 (mUp μ s1 4 dx)) (b3 : FL_bound (bShr v1 8) 18 (mUp μ s1 4 dx) = RT dy (mUp μ s1 4 dx)) : EN3 x0 x1 x2 x3 x4 x6 x7 t v μ = EN3b x0 x1 x2 x4 x6 x7 t p s1 (mUp (mUp μ s1 4 dx) s1 5 dy) := by
  unfold EN3
  rw [if_pos (by omega), c1, CLZ_rt, b1, CLZ_rt, KD_go k1, g1, CLZ_rt, KD_go k2, c1, CLZ_rt, b2, CLZ_rt, PF_l hs k2, c2, CLZ_rt, b3, CLZ_rt, PF_l hs (by rw [mUp_ne _ _ (by omega)]; exact k2)]
theorem en2_ab (h : v = x3) (e : FL_isPrinted t x7 x6 x4 μ = RT 1 u1) : EN2 x0 x1 x2 x3 x4 x6 x7 t v μ = EN3 x0 x1 x2 x3 x4 x6 x7 t 1 u1 := by
  unfold EN2
  rw [if_neg (fun w => w h), e, CLZ_rt]
theorem en1_ab (k : μ x5 (-1) = 10 + 1) (e1 : FJ4_toString_0e30d x5 μ = RT v u1) (e2 : FL_read t v u1 = RT v2 u2) : EN1 x0 x1 x2 x3 x4 x5 x6 x7 t μ = EN2 x0 x1 x2 x3 x4 x6 x7 t v2 u2 := by
  unfold EN1
  rw [KD_go k, e1, CLZ_rt, e2, CLZ_rt]
theorem en0_ab (n1 : ∀ K, NW 6 9 μ K = K t u1) (k : u1 t (-1) = 6 + 1) (e1 : FX6_init t u1 = RT 0 u2) : EN0 x0 x1 x2 x3 x4 x5 x6 x7 μ = EN1 x0 x1 x2 x3 x4 x5 x6 x7 t u2 := by
  unfold EN0
  rw [n1, KD_go k, e1, CLZ_rt]
end ENA
section ENB
variable {μ ν : Mem} {n u c s c' s' L e cap T p a b sh dx dy x y z t k lim many w hh : Int} {h : Int → Row} {ids : List Int} {sc : Int → Int} {X P : Int → Prop} {r r' : Row}
theorem push_0 : push r h 0 = r := if_pos rfl
theorem push_1 : push r h (0 + 1) = h 0 := by
  unfold push
  rw [if_neg (by omega)]
  rfl
theorem Pcs.k6 (hP : Pcs sc n u h c s μ) : μ 1 (-1) = 7 := by
  obtain ⟨⟨g, tx, fed, fa, h1⟩, -⟩ := hP
  exact h1.1.1.1.1
theorem Pcs.ok (hP : Pcs sc n u h c s μ) : okRow (h 0) := by
  obtain ⟨⟨g, tx, fed, fa, h1⟩, -⟩ := hP
  exact h1.1.cur.1
theorem Pcs.u0 (hP : Pcs sc n u h c s μ) : 0 ≤ u ∧ u ≤ 8 := by
  obtain ⟨⟨g, tx, fed, fa, h1⟩, -⟩ := hP
  exact h1.1.2.2.2.1
theorem uUp_1 (hu : 0 ≤ u ∧ u ≤ 8) : 1 ≤ uUp u := by
  unfold uUp mn
  split <;> omega
/-- from the new shape on -/
theorem end_7 (hP : Pcs sc n u h c s μ) (hM : Mtc μ X (h 0) L e cap ids T) (hl : h 0 3 = lim) : ∃ ν, EN7 lim T L 1 μ = some (0, 1, ν) ∧ ν 0 1 ≤ c + 10 ∧ ν 0 2 ≤ s + 3000 := by
  have hu := hP.u0
  obtain ⟨u1, e1, P1, M1, N1⟩ := pc_printed hP hM
  rw [hl] at e1
  obtain ⟨u2, e2, P2, N2⟩ := pc_call (F := fun μ => FX6_limit 1 4 μ) (v := h 0 3) (r' := limR (h 0) 4) P1 (fun g tx fed fa hI => limit_rt hI (by omega))
  have M2 : Mtc u2 X (push (limR (h 0) 4) h 0) L e cap ids T := by
    rw [push_0]
    exact (M1.limit).ng N2
  obtain ⟨u3, e3, P3, M3, N3⟩ := pc_printed P2 M2
  have hl4 : push (limR (h 0) 4) h 0 3 = 4 := by
    rw [push_0]
    rfl
  rw [hl4] at e3
  obtain ⟨u4, e4, P4, N4⟩ := pc_undo P3 (uUp_1 hu)
  have M4 : Mtc u4 X ((fun j => push (limR (h 0) 4) h (j + 1)) 0) L e cap ids T := by
    show Mtc u4 X (push (limR (h 0) 4) h (0 + 1)) L e cap ids T
    rw [push_1]
    exact ((M1.ng N2).ng N3).ng N4
  obtain ⟨u5, e5, P5, -, -⟩ := pc_printed P4 M4
  have hl5 : push (limR (h 0) 4) h (0 + 1) 3 = lim := by rw [push_1, hl]
  rw [hl5] at e5
  have hu1 := uUp_1 hu
  refine ⟨u5, ?_, P5.2.2.1, P5.2.2.2⟩
  rw [en7_ab e1 P1.k6 e2, en8_ab hl e3 P3.k6 e4, en9_ab (by omega) e5]
/-- from the tone on -/
theorem end_5 (hP : Pcs sc n u h c s μ) (hM : Mtc μ (fun z => z = L ∨ z = e) (h 0) L e cap ids T) (hl : h 0 3 = lim) (p0 : 0 ≤ p) (p1 : p < h 0 2) : ∃ ν, EN5 (-21) lim T L 1 p (gt ids p) 1 μ = some (0, 1, ν) ∧ ν 0 1 ≤ c + 721 ∧ ν 0 2 ≤ s + 206007 := by
  have hr := hP.ok
  have hz := bnd_le (v := cel sc n 7) (m := 4) (by omega)
  obtain ⟨u1, e1, P1, N1⟩ := pc_call (F := fun μ => FX6_shape 1 p (bnd (cel sc n 7) 4) μ) (v := rO (h 0) p 9) (r' := setO (h 0) p 9 (bnd (cel sc n 7) 4)) hP (fun g tx fed fa hI => shape_rt hI ⟨p0, p1⟩ (by omega))
  have M1 := hM.ng N1
  obtain ⟨ν, ν1, ν2, a1, a2, ⟨a3, a4, a5⟩, a6, ⟨a7, a7'⟩, ⟨a8, a9, a10⟩, a11, a12, a13, a14, P2, ids', M2⟩ := Mtc.shape P1 M1 hr p0 p1 (z := bnd (cel sc n 7) 4) (by omega)
  have hk := (M1.2.2.1 p p0 p1).kd
  have M2' : Mtc ν2 (fun z => z = L ∨ z = e) (push (setO (h 0) p 9 (bnd (cel sc n 7) 4)) h 0) L e cap ids' T := by
    rw [push_0]
    exact M2
  have hl2 : push (setO (h 0) p 9 (bnd (cel sc n 7) 4)) h 0 3 = lim := by
    rw [push_0, setO_j (by omega), hl]
  obtain ⟨ν3, e3, b1, b2⟩ := end_7 P2 M2' hl2
  refine ⟨ν3, ?_, by omega, by omega⟩
  rw [en5_ab rfl (cell_law hP.2.1 (by omega)) (bound_rt (by omega)) hP.k6 e1, en6_ab hk.1.2.2 hk.2.1.2.2 a1 a3 a4 a5 a2 a6 a8 a9 a10 a7 a7' a11 a13 a14]
  exact e3
/-- from the first print on -/
theorem end_3 (hP : Pcs sc n u h c s μ) (hM : Mtc μ (fun z => z = L ∨ z = e) (h 0) L e cap ids T) (hl : h 0 3 = lim) (h2 : h 0 2 = many) (h0 : h 0 0 = w) (h1 : h 0 1 = hh) (hm : 1 ≤ many) (hd : ∀ i j, 0 ≤ i → i < j → j < many → gt ids j < gt ids i) : ∃ ν, EN3 (-21) w hh many lim T L 1 1 μ = some (0, 1, ν) ∧ ν 0 1 ≤ c + 741 ∧ ν 0 2 ≤ s + 212007 := by
  have hr := hP.ok
  have hr1 := hr.1
  have hF := hP.2.1
  have hp := bnd_le (v := cel sc n 5) (m := many) (by omega)
  have hdx := bnd_le (v := bShr (cel sc n 5) 3) (m := 18) (by omega)
  have hdy := bnd_le (v := bShr (cel sc n 5) 8) (m := 18) (by omega)
  generalize ep : bnd (cel sc n 5) many = p at hp
  generalize ex : bnd (bShr (cel sc n 5) 3) 18 = dx at hdx
  generalize ey : bnd (bShr (cel sc n 5) 8) 18 = dy at hdy
  have hk := (hM.2.2.1 p hp.1 (by omega)).kd
  obtain ⟨M1, f1⟩ := hM.shift (dx' := dx) (dy' := dy) hr (by rw [h2]; exact hd) hp.1 (by omega : p < h 0 2)
  have P1 := hP.fl f1 (fun z w => by omega)
  have f0 := FrL.up (μ := μ) (a := gt ids p) (k := 4) (w := dx) (P := fun z => z = gt ids p) (by omega) (by omega) rfl
  have F0 := hF.fl f0 (fun z w => by omega)
  obtain ⟨u2, e2, P2, N2⟩ := pc_call (F := fun μ => FX6_shift 1 p dx dy μ) (v := dotsAll (setO (setO (h 0) p 10 dx) p 11 dy)) (r' := setO (setO (h 0) p 10 dx) p 11 dy) P1 (fun g tx fed fa hI => shift_rt hI ⟨hp.1, by omega⟩ (by omega) (by omega))
  obtain ⟨u3, e3, P3, N3⟩ := pc_state P2
  rw [push_0] at e3
  have M3 : Mtc u3 (fun z => z = L ∨ z = e) (push (setO (setO (h 0) p 10 dx) p 11 dy) h 0) L e cap ids T := by
    rw [push_0]
    exact (M1.ng N2).ng N3
  obtain ⟨u4, e4, P4, M4, N4⟩ := pc_printed P3 M3
  have hj : ∀ j, j < 196 → setO (setO (h 0) p 10 dx) p 11 dy j = h 0 j := fun j hj => by rw [setO_j (by omega), setO_j (by omega)]
  rw [push_0, hj 3 (by omega), hl] at e4
  have hr4 : okRow (setO (setO (h 0) p 10 dx) p 11 dy) := by
    have := P4.ok
    rw [push_0] at this
    exact this
  rw [push_0] at M4
  have hx := bnd_le (v := cel sc n 6) (m := w) (by omega)
  have hy := bnd_le (v := bShr (cel sc n 6) 4) (m := hh) (by omega)
  have ht := bnd_le (v := bShr (cel sc n 6) 8) (m := 101) (by omega)
  generalize eX : bnd (cel sc n 6) w = x at hx
  generalize eY : bnd (bShr (cel sc n 6) 4) hh = y at hy
  generalize eT : bnd (bShr (cel sc n 6) 8) 101 = t at ht
  obtain ⟨e5, M5, f5⟩ := M4.paint (t := t) hr4 hx.1 (by rw [hj 0 (by omega)]; omega) hy.1 (by rw [hj 1 (by omega)]; omega)
  have hTT := M4.2.2.2.1.1
  have P5 := P4.fl f5 (fun z w => by omega)
  obtain ⟨u6, e6, P6, N6⟩ := pc_call (F := fun μ => FX6_paint 1 x y 1 1 t μ) (v := dotsAll (paintR (setO (setO (h 0) p 10 dx) p 11 dy) x y 1 1 t)) (r' := paintR (setO (setO (h 0) p 10 dx) p 11 dy) x y 1 1 t) P5 (fun g tx fed fa hI => by
    have := paint_rt hI (x := x) (y := y) (w := 1) (q := 1) (t := t) (by unfold isCe; rw [push_0, hj 0 (by omega), hj 1 (by omega)]; omega) (by unfold isPa; rw [push_0, hj 0 (by omega), hj 1 (by omega)]; omega)
    rw [push_0] at this
    exact this)
  obtain ⟨u7, e7, P7, N7⟩ := pc_state P6
  rw [push_0] at e7
  have M7 : Mtc u7 (fun z => z = L ∨ z = e) (push (paintR (setO (setO (h 0) p 10 dx) p 11 dy) x y 1 1 t) (push (setO (setO (h 0) p 10 dx) p 11 dy) h) 0) L e cap ids T := by
    rw [push_0]
    exact (M5.ng N6).ng N7
  obtain ⟨u8, e8, P8, M8, N8⟩ := pc_printed P7 M7
  have hl8 : push (paintR (setO (setO (h 0) p 10 dx) p 11 dy) x y 1 1 t) (push (setO (setO (h 0) p 10 dx) p 11 dy) h) 0 3 = lim := by rw [push_0, paintR_ne (by omega), hj 3 (by omega), hl]
  rw [hl8] at e8
  obtain ⟨ν, e9, b1, b2⟩ := end_5 (lim := lim) P8 M8 hl8 hp.1 (by rw [push_0, paintR_ne (by omega), hj 2 (by omega)]; omega)
  have k4 := (M1.2.2.1 p hp.1 (by rw [hj 2 (by omega)]; omega)).kd
  have hb9 := bound_rt (v := cel sc n 5) (m := many) (μ := μ) (by omega)
  rw [ep] at hb9
  have hb10 := bound_rt (v := bShr (cel sc n 5) 3) (m := 18) (μ := μ) (by omega)
  rw [ex] at hb10
  have hb11 := bound_rt (v := bShr (cel sc n 5) 8) (m := 18) (μ := mUp μ (gt ids p) 4 dx) (by omega)
  rw [ey] at hb11
  have hb12 := bound_rt (v := cel sc n 6) (m := w) (μ := u4) (by omega)
  rw [eX] at hb12
  have hb13 := bound_rt (v := bShr (cel sc n 6) 4) (m := hh) (μ := u4) (by omega)
  rw [eY] at hb13
  have hb14 := bound_rt (v := bShr (cel sc n 6) 8) (m := 101) (μ := u4) (by omega)
  rw [eT] at hb14
  have h00 : 0 < μ 0 0 := by
    obtain ⟨⟨g, tx, fed, fa, q1⟩, -⟩ := hP
    have := q1.1.2.2.2.2.2
    omega
  refine ⟨ν, ?_, by omega, by omega⟩
  rw [en3_ab rfl (cell_law hF (by omega)) hb9 hM.1.1.2.2.1 (get_rt hM.1 h00 hp.1 (by have := hM.2.1; omega)) hk.1.2.2 hk.1.1 hb10 (cell_law F0 (by omega)) hb11, en3b_ab k4.1.2.2 (by rw [mUp_ne _ _ (by omega), mUp_same]) (mUp_same _ _ _ _) P1.k6 e2 P2.k6 e3 e4, en4_ab rfl (cell_law P4.2.1 (by omega)) hb12 hb13 hb14 e5, en4b_ab P5.k6 e6 P6.k6 e7 e8]
  exact e9
end ENB
