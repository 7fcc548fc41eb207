/-! the reference's making, and the whole law -/
section INR
variable {μ : Mem}
theorem init7_rt {s : Int} {tx : Int → Int} (hn : At μ 106 105 s) (h : μ 105 (-1) = 8) (hz : ∀ k, 0 ≤ k → μ 105 k = 0) : ∃ ν, FX7_init 105 μ = RT 0 ν ∧ MIv ν 0 0 (fun _ => newR 8 8) tx 0 (-1) ∧ At ν 115 114 (s + 54266) ∧ ∀ z k, z ≠ 0 → z < 105 → ν z k = μ z k := by
  obtain ⟨μ1, e1, t1, ⟨v1, w1, y1⟩, f1⟩ := NA_go (t := 1) (len := 45900) hn (by omega) (by omega) (by omega)
  obtain ⟨μ2, e2, t2, v2, f2⟩ := PF_go (ci := 7) (a := 105) (k := 1) (v := 106) t1 (by omega) (by simp (disch := omega) only [f1, h]; decide)
  obtain ⟨μ3, e3, t3, ⟨v3, w3, y3⟩, f3⟩ := NA_go (t := 1) (len := 5100) t2 (by omega) (by omega) (by omega)
  obtain ⟨μ4, e4, t4, v4, f4⟩ := PF_go (ci := 7) (a := 105) (k := 2) (v := 107) t3 (by omega) (by simp (disch := omega) only [f1, f2, f3, h]; decide)
  obtain ⟨μ5, e5, t5, ⟨v5, w5, y5⟩, f5⟩ := NA_go (t := 1) (len := 324) t4 (by omega) (by omega) (by omega)
  obtain ⟨μ6, e6, t6, v6, f6⟩ := PF_go (ci := 7) (a := 105) (k := 5) (v := 108) t5 (by omega) (by simp (disch := omega) only [f1, f2, f3, f4, f5, h]; decide)
  obtain ⟨μ7, e7, t7, ⟨v7, w7, y7⟩, f7⟩ := NA_go (t := 2) (len := 602) t6 (by omega) (by omega) (by omega)
  obtain ⟨μ8, e8, t8, v8, f8⟩ := PF_go (ci := 7) (a := 105) (k := 6) (v := 109) t7 (by omega) (by simp (disch := omega) only [f1, f2, f3, f4, f5, f6, f7, h]; decide)
  obtain ⟨μ9, e9, t9, ⟨v9, w9, y9⟩, f9⟩ := NA_go (t := 1) (len := 768) t8 (by omega) (by omega) (by omega)
  obtain ⟨μa, ea, ta, va, fa⟩ := PF_go (ci := 7) (a := 105) (k := 7) (v := 110) t9 (by omega) (by simp (disch := omega) only [f1, f2, f3, f4, f5, f6, f7, f8, f9, h]; decide)
  obtain ⟨μb, eb, tb, ⟨vb, wb, yb⟩, fb⟩ := NA_go (t := 1) (len := 768) ta (by omega) (by omega) (by omega)
  obtain ⟨μc, ec, tc, vc, fc⟩ := PF_go (ci := 7) (a := 105) (k := 8) (v := 111) tb (by omega) (by simp (disch := omega) only [f1, f2, f3, f4, f5, f6, f7, f8, f9, fa, fb, h]; decide)
  obtain ⟨μd, ed, td, ⟨vd, wd, yd⟩, fd⟩ := NA_go (t := 1) (len := 192) tc (by omega) (by omega) (by omega)
  obtain ⟨μe, ee, te, ve, fe⟩ := PF_go (ci := 7) (a := 105) (k := 9) (v := 112) td (by omega) (by simp (disch := omega) only [f1, f2, f3, f4, f5, f6, f7, f8, f9, fa, fb, fc, fd, h]; decide)
  obtain ⟨μf, ef, tf, ⟨vf, wf, yf⟩, ff⟩ := NA_go (t := 1) (len := 600) te (by omega) (by omega) (by omega)
  obtain ⟨μg, eg, tg, vg, fg⟩ := PF_go (ci := 7) (a := 105) (k := 11) (v := 113) tf (by omega) (by simp (disch := omega) only [f1, f2, f3, f4, f5, f6, f7, f8, f9, fa, fb, fc, fd, fe, ff, h]; decide)
  obtain ⟨μh, eh, th, vh, fh⟩ := PF_go (ci := 7) (a := 105) (k := 16) (v := -1) tg (by omega) (by simp (disch := omega) only [f1, f2, f3, f4, f5, f6, f7, f8, f9, fa, fb, fc, fd, fe, ff, fg, h]; decide)
  obtain ⟨μi, ei, ti, ⟨vi, wi, yi⟩, fi⟩ := NA_go (t := 1) (len := 12) th (by omega) (by omega) (by omega)
  obtain ⟨μj, ej, tj, vj, fj⟩ := PF_go (ci := 7) (a := 105) (k := 23) (v := 114) ti (by omega) (by simp (disch := omega) only [f1, f2, f3, f4, f5, f6, f7, f8, f9, fa, fb, fc, fd, fe, ff, fg, fh, fi, h]; decide)
  have eI : FX7_init 105 μ = KD 7 105 μj (CL (FX7_begins 105 8 8 μj) fun _ u130 => LX7_init_98 FU 105 0 u130) := by
    unfold FX7_init BX7_init_0
    rw [if_pos (by decide), e1]
    show (PF 7 1 105 106 _ _) = _
    rw [e2, e3]
    show (PF 7 2 105 107 _ _) = _
    rw [e4, e5]
    show (PF 7 5 105 108 _ _) = _
    rw [e6, e7]
    show (PF 7 6 105 109 _ _) = _
    rw [e8, e9]
    show (PF 7 7 105 110 _ _) = _
    rw [ea, eb]
    show (PF 7 8 105 111 _ _) = _
    rw [ec, ed]
    show (PF 7 9 105 112 _ _) = _
    rw [ee, ef]
    show (PF 7 11 105 113 _ _) = _
    rw [eg, eh, ei]
    show (PF 7 23 105 114 _ _) = _
    rw [ej]
  have b1 : μj 105 (-1) = 8 ∧ μj 105 1 = 106 ∧ μj 105 2 = 107 ∧ μj 105 5 = 108 ∧ μj 105 6 = 109 ∧ μj 105 7 = 110 ∧ μj 105 8 = 111 ∧ μj 105 9 = 112 ∧ μj 105 11 = 113 ∧ μj 105 23 = 114 ∧ μj 105 3 = 0 ∧ μj 105 4 = 0 ∧ μj 105 10 = 0 ∧ μj 105 12 = 0 ∧ μj 105 16 = -1 := by
    simp (disch := omega) only [f1, f2, f3, f4, f5, f6, f7, f8, f9, fa, fb, fc, fd, fe, ff, fg, fh, fi, fj, h, hz, v2, v4, v6, v8, va, vc, ve, vg, vh, vj, and_self]
  have b6 : μj 106 (-1) = 21 ∧ μj 106 (-2) = 45900 := by
    refine ⟨?_, ?_⟩
    · simp (disch := omega) only [f2, f3, f4, f5, f6, f7, f8, f9, fa, fb, fc, fd, fe, ff, fg, fh, fi, fj]; exact v1
    · simp (disch := omega) only [f2, f3, f4, f5, f6, f7, f8, f9, fa, fb, fc, fd, fe, ff, fg, fh, fi, fj]; exact w1
  have b7 : μj 107 (-1) = 21 ∧ μj 107 (-2) = 5100 := by
    refine ⟨?_, ?_⟩
    · simp (disch := omega) only [f4, f5, f6, f7, f8, f9, fa, fb, fc, fd, fe, ff, fg, fh, fi, fj]; exact v3
    · simp (disch := omega) only [f4, f5, f6, f7, f8, f9, fa, fb, fc, fd, fe, ff, fg, fh, fi, fj]; exact w3
  have b8 : μj 108 (-1) = 21 ∧ μj 108 (-2) = 324 := by
    refine ⟨?_, ?_⟩
    · simp (disch := omega) only [f6, f7, f8, f9, fa, fb, fc, fd, fe, ff, fg, fh, fi, fj]; exact v5
    · simp (disch := omega) only [f6, f7, f8, f9, fa, fb, fc, fd, fe, ff, fg, fh, fi, fj]; exact w5
  have b9 : μj 109 (-1) = 22 ∧ μj 109 (-2) = 602 := by
    refine ⟨?_, ?_⟩
    · simp (disch := omega) only [f8, f9, fa, fb, fc, fd, fe, ff, fg, fh, fi, fj]; exact v7
    · simp (disch := omega) only [f8, f9, fa, fb, fc, fd, fe, ff, fg, fh, fi, fj]; exact w7
  have b10 : μj 110 (-1) = 21 ∧ μj 110 (-2) = 768 := by
    refine ⟨?_, ?_⟩
    · simp (disch := omega) only [fa, fb, fc, fd, fe, ff, fg, fh, fi, fj]; exact v9
    · simp (disch := omega) only [fa, fb, fc, fd, fe, ff, fg, fh, fi, fj]; exact w9
  have b11 : μj 111 (-1) = 21 ∧ μj 111 (-2) = 768 := by
    refine ⟨?_, ?_⟩
    · simp (disch := omega) only [fc, fd, fe, ff, fg, fh, fi, fj]; exact vb
    · simp (disch := omega) only [fc, fd, fe, ff, fg, fh, fi, fj]; exact wb
  have b12 : μj 112 (-1) = 21 ∧ μj 112 (-2) = 192 := by
    refine ⟨?_, ?_⟩
    · simp (disch := omega) only [fe, ff, fg, fh, fi, fj]; exact vd
    · simp (disch := omega) only [fe, ff, fg, fh, fi, fj]; exact wd
  have b13 : μj 113 (-1) = 21 ∧ μj 113 (-2) = 600 := by
    refine ⟨?_, ?_⟩
    · simp (disch := omega) only [fg, fh, fi, fj]; exact vf
    · simp (disch := omega) only [fg, fh, fi, fj]; exact wf
  have b14 : μj 114 (-1) = 21 ∧ μj 114 (-2) = 12 := by
    refine ⟨?_, ?_⟩
    · simp (disch := omega) only [fj]; exact vi
    · simp (disch := omega) only [fj]; exact wi
  have bz : ∀ z k, z ≠ 0 → z < 105 → μj z k = μ z k := fun z k h1 h2 => by
    simp (disch := omega) only [f1, f2, f3, f4, f5, f6, f7, f8, f9, fa, fb, fc, fd, fe, ff, fg, fh, fi, fj]
  have tE : At μj 115 114 (s + 54266) := by
    obtain ⟨q1, q2, q3⟩ := tj
    exact ⟨by omega, by omega, by omega⟩
  have hM : MSh μj := ⟨b1.1, b1.2.1, b1.2.2.1, b1.2.2.2.1, b1.2.2.2.2.1, b1.2.2.2.2.2.1, b1.2.2.2.2.2.2.1, b1.2.2.2.2.2.2.2.1, b1.2.2.2.2.2.2.2.2.1, b1.2.2.2.2.2.2.2.2.2.1, b6.1, b6.2, b7.1, b7.2, b8.1, b8.2, b9.1, b9.2, b10.1, b10.2, b11.1, b11.2, b12.1, b12.2, b13.1, b13.2, b14.1, b14.2⟩
  rw [eI]
  clear e1 e2 e3 e4 e5 e6 e7 e8 e9 ea eb ec ed ee ef eg eh ei ej t1 t2 t3 t4 t5 t6 t7 t8 t9 ta tb tc td te tf tg th ti tj eI f1 f2 f3 f4 f5 f6 f7 f8 f9 fa fb fc fd fe ff fg fh fi fj v1 v2 v3 v4 v5 v6 v7 v8 v9 va vb vc vd ve vf vg vh vi vj w1 w3 w5 w7 w9 wb wd wf wi y1 y3 y5 y7 y9 yb yd yf yi
  obtain ⟨η, g1, g2, g3⟩ := begins_rt (w := 8) (h := 8) hM
  have hMη : MSh η := hM.fr fun a k hs => g3 a k (by unfold MSt at hs; omega)
  rw [hM.k7]
  simp only [CL]
  rw [g1]
  simp only [CLX_rt]
  refine lpR (fun m i ζ => LX7_init_98 m 105 i ζ) (fun x ζ => 0 ≤ x ∧ (∀ k, 0 ≤ k → k < x → ζ 106 k = newR 8 8 k) ∧ ∀ z k, ¬ (z = 106 ∧ 0 ≤ k) → ζ z k = η z k) 5100 (fun R => ∃ ν, R = RT 0 ν ∧ MIv ν 0 0 (fun _ => newR 8 8) tx 0 (-1) ∧ At ν 115 114 (s + 54266) ∧ ∀ z k, z ≠ 0 → z < 105 → ν z k = μ z k) (fun m x ζ x1 hI => ?_) (fun m ζ hI => ?_) FU 0 η (by omega) (by rw [show ((FU : Nat) : Int) = 20000 from rfl]; omega) ⟨Int.le_refl _, fun k k0 k1 => by omega, fun _ _ _ => rfl⟩
  · obtain ⟨x0, hv, hf⟩ := hI
    have hS : MSh ζ := hMη.fr fun a k hs => hf a k (by unfold MSt at hs; omega)
    refine ⟨mUp ζ 106 x (newR 8 8 x), ⟨by omega, fun k k0 k1 => ?_, fun z k hz => by rw [mUp_ne _ _ (by omega)]; exact hf z k hz⟩, ?_⟩
    · by_cases e : k = x
      · subst e
        exact mUp_same _ _ _ _
      · rw [mUp_ne _ _ (by omega)]
        exact hv k k0 (by omega)
    · have w1 : w32 (x + 1) = x + 1 := w32_eq (by omega) (by omega)
      have hq : ζ 107 x = newR 8 8 x := by rw [hf _ _ (by omega)]; exact g2 x x0 x1
      have q6 : ζ 106 (-1) = 21 ∧ ζ 106 (-2) = 45900 := by
        rw [hf _ _ (by omega), hf _ _ (by omega), g3 _ _ (by omega), g3 _ _ (by omega)]
        exact b6
      have q7 : ζ 107 (-1) = 21 ∧ ζ 107 (-2) = 5100 := by
        rw [hf _ _ (by omega), hf _ _ (by omega), g3 _ _ (by omega), g3 _ _ (by omega)]
        exact b7
      show BX7_init_98 _ 105 x ζ = _
      unfold BX7_init_98
      rw [if_neg (by omega), hS.g7_1, hS.g7_2]
      unfold AL
      rw [if_pos ⟨by rw [q7.1]; decide, x0, by rw [q7.2]; omega⟩, hq]
      unfold AS
      refine (if_pos ⟨by decide, by rw [q6.1]; decide, x0, by rw [q6.2]; omega⟩).trans ?_
      rw [w1]
  · obtain ⟨x0, hv, hf⟩ := hI
    have hS : MSh ζ := hMη.fr fun a k hs => hf a k (by unfold MSt at hs; omega)
    have hz1 : ∀ z k, z ≠ 106 → z ≠ 107 → ζ z k = μj z k := fun z k h1 h2 => by rw [hf _ _ (by omega), g3 _ _ (by omega)]
    refine ⟨ζ, ?_, ⟨⟨hS, by omega, ⟨?_, ?_⟩, by omega, fun j j0 j1 => ⟨newR_ok (by omega) (by omega) (by omega) (by omega), fun k k0 k1 => ?_⟩⟩, ⟨by omega, ⟨?_, ?_⟩, fun k k0 k1 => by omega⟩, Or.inl ?_⟩, tE.fr fun k => hz1 _ _ (by omega) (by omega), fun z k h1 h2 => by rw [hz1 _ _ (by omega) (by omega)]; exact bz z k h1 h2⟩
    · show BX7_init_98 _ 105 5100 ζ = _
      unfold BX7_init_98
      rw [if_pos (by omega)]
    · rw [hz1 _ _ (by omega) (by omega)]
      simp only [b1]
    · rw [hz1 _ _ (by omega) (by omega)]
      simp only [b1]
    · have e : (0 : Int) - j = 0 := by omega
      rw [e, show 5100 * ((0 : Int) % 9) + k = k by omega]
      exact hv k k0 k1
    · rw [hz1 _ _ (by omega) (by omega)]
      simp only [b1]
    · rw [hz1 _ _ (by omega) (by omega)]
      simp only [b1]
    · rw [hz1 _ _ (by omega) (by omega)]
      simp only [b1]
theorem law_all {sc : Int → Int} {L : Int} (hsc : ∀ k, i32 (sc k)) (hL0 : 0 ≤ L) (hLm : L ≤ 3072) (hn : At μ 1 0 0) : ∃ μ', FL_law sc L μ = some (0, 1, μ') ∧ μ' 0 1 ≤ 601024 ∧ μ' 0 2 ≤ 7293034 := by
  obtain ⟨μ1, e1, t1, ⟨v1, y1⟩, f1⟩ := NW_go (ci := 6) (sz := 9) hn (by omega)
  have v1 : μ1 1 (-1) = 7 := v1
  obtain ⟨μ2, e2, ⟨hS, ⟨p1, p2, p4, p5, p6⟩, ps, pt, ⟨p46, p47⟩, pq⟩, t2⟩ := init6_rt (μ := μ1) t1 v1
  obtain ⟨μ3, e3, t3, ⟨v3, y3⟩, f3⟩ := NW_go (ci := 7) (sz := 24) t2 (by omega)
  have v3 : μ3 105 (-1) = 8 := v3
  obtain ⟨μ4, e4, hm, t4, f4⟩ := init7_rt (tx := fun _ => 0) t3 v3 y3
  obtain ⟨μ5, e5, t5, ⟨v5, w5, y5⟩, f5⟩ := NA_go (t := 2) (len := 1) t4 (by omega) (by omega) (by omega)
  obtain ⟨μ6, e6, t6, ⟨v6, w6, y6⟩, f6⟩ := NA_go (t := 3) (len := 1) t5 (by omega) (by omega) (by omega)
  have hf : ∀ z k, z ≠ 0 → z < 105 → μ6 z k = μ2 z k := fun z k h1 h2 => by
    rw [f6 _ _ h1 (by omega), f5 _ _ h1 (by omega), f4 _ _ h1 h2, f3 _ _ h1 (by omega)]
  have hS6 : CSh μ6 := hS.fr fun a k hs => hf a k (by unfold CSt at hs; omega) (by unfold CSt at hs; omega)
  have h0 : okRow (newR 8 8) := newR_ok (by omega) (by omega) (by omega) (by omega)
  have hT : Sht μ6 0 (newR 8 8) := newR_sht (by
    have e : (25 : Int) + 8 * 0 = 25 := by decide
    rw [e]
    simp (disch := omega) only [hf]
    exact ps) (by omega) (by omega) (by omega) (by omega) (fun k k0 k1 => by
    have e : (27 : Int) + 8 * 0 = 27 := by decide
    rw [e, hf _ _ (by omega) (by omega)]
    exact (pt k k0).1) (fun k k0 k1 => by
    have e : (28 : Int) + 8 * 0 = 28 := by decide
    rw [e, hf _ _ (by omega) (by omega)]
    exact (pt k k0).2)
  have hc : CIc μ6 0 0 (fun _ => newR 8 8) (fun _ => 0) 0 (-1) := by
    refine ⟨⟨hS6, by omega, ⟨?_, ?_, ?_⟩, by omega, fun j j0 j1 => ⟨h0, ?_⟩, ?_⟩, ⟨by omega, ⟨?_, ?_, by unfold i32; omega⟩, fun k k0 k1 => by omega⟩, ⟨Or.inl ?_, Or.inl ?_⟩, fun q => ?_, fun q => ?_, fun p p0 p1 => Or.inl ?_⟩
    · rw [hf _ _ (by omega) (by omega)]; exact p4
    · rw [hf _ _ (by omega) (by omega)]; exact p6
    · rw [hf _ _ (by omega) (by omega)]; exact p5
    · have e : ((0 : Int) - j) % 10 = 0 := by omega
      rw [e]
      exact hT
    · have := t6.1
      omega
    · rw [hf _ _ (by omega) (by omega)]; exact p1
    · rw [hf _ _ (by omega) (by omega)]; exact p2
    · rw [hf _ _ (by omega) (by omega)]; exact p46
    · rw [hf _ _ (by omega) (by omega)]; exact p47
    · rw [hf _ _ (by omega) (by omega), p46] at q
      omega
    · rw [hf _ _ (by omega) (by omega), p47] at q
      omega
    · rw [hf _ _ (by omega) (by omega)]; exact pq p p0 p1
  have hm6 : MIv μ6 0 0 (fun _ => newR 8 8) (fun _ => 0) 0 (-1) := hm.far fun z k h1 h2 => by
    rw [f6 _ _ (by omega) (by omega), f5 _ _ (by omega) (by omega)]
  have hLI : LIv μ6 0 (fun _ => newR 8 8) (fun _ => 0) 0 (-1) := by
    refine ⟨⟨0, hc⟩, ⟨0, hm6⟩, ⟨?_, ?_, ?_, ?_⟩, fun k => ⟨Int.le_refl _, show (0 : Int) ≤ 255 by decide⟩⟩
    · rw [f6 _ _ (by omega) (by omega)]; exact v5
    · rw [f6 _ _ (by omega) (by omega)]; exact w5
    · exact v6
    · exact w6
  obtain ⟨μ', g1, g2, g3⟩ := law_loop hsc hLm FU 0 μ6 0 _ _ 0 (-1) (Int.le_refl _) hL0 (by have : ((FU : Nat) : Int) = 20000 := rfl; omega) hLI
  obtain ⟨q1, q2, q3⟩ := t6
  refine ⟨μ', ?_, by omega, by omega⟩
  unfold FL_law BL_law_0
  rw [e1, KD_go v1, e2]
  simp only [CLX_rt]
  rw [e3, KD_go v3, e4]
  simp only [CLX_rt]
  rw [e5, e6]
  exact g1
end INR
