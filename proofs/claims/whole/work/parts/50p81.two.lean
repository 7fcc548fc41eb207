/-! the law: the two sides of every call -/
abbrev X1 : Int → Int → Mem → Rz := fun e _ ν => if e = 1 then (RT 1 ν) else none
abbrev X2 : Int → Int → Mem → Rz := fun e _ ν => if e = 2 then (RT 1 ν) else none
abbrev X12 : Int → Int → Mem → Rz := fun e _ ν => if e = 1 then (RT 1 ν) else (if e = 2 then (RT 2 ν) else none)
abbrev X14 : Int → Int → Mem → Rz := fun e _ ν => if e = 1 then (RT 1 ν) else (if e = 4 then (RT 2 ν) else none)
abbrev X23 : Int → Int → Mem → Rz := fun e _ ν => if e = 2 then (RT 1 ν) else (if e = 3 then (RT 2 ν) else none)
abbrev Any : Int → Prop := fun _ => True
section TWO
variable {μ : Mem} {c u fed fa : Int} {h : Int → Row} {tx : Int → Int} {R6 : Rz} {X : Int → Int → Mem → Rz} {FM : Mem → Rz} {ok : Int → Prop}
theorem two_r {v : Int} (hb : Byt tx) (hx : ∃ ν, R6 = RT v ν ∧ RdP μ ν c u h tx fed fa) (hok : ok v) (hM : ∀ ξ d, MIv ξ d u h tx fed fa → ∃ b ζ, FM ξ = RT b ζ ∧ b = v ∧ MOk ξ ζ d u h tx fed fa 0) : Two μ u h tx fed fa R6 X FM ok := by
  obtain ⟨ν, e1, e2, -, e3⟩ := hx
  refine Or.inl ⟨v, ν, e1, e3.cfr, hok, fun ξ d hm => ?_⟩
  obtain ⟨b, ζ, f1, f2, f3⟩ := hM ξ d hm
  exact ⟨ζ, d, c, u, h, tx, fed, fa, e2, hb, by rw [f1, f2], f3⟩
theorem two_s {v : Int} (hb : Byt tx) (hI : CIc μ c u h tx fed fa) (hx : R6 = RT v μ) (hok : ok v) (hM : ∀ ξ d, MIv ξ d u h tx fed fa → ∃ b ζ, FM ξ = RT b ζ ∧ b = v ∧ MOk ξ ζ d u h tx fed fa 0) : Two μ u h tx fed fa R6 X FM ok := by
  refine Or.inl ⟨v, μ, hx, CFr.rf, hok, fun ξ d hm => ?_⟩
  obtain ⟨b, ζ, f1, f2, f3⟩ := hM ξ d hm
  exact ⟨ζ, d, c, u, h, tx, fed, fa, hI, hb, by rw [f1, f2], f3⟩
theorem two_n {e k : Int} (hI : CIc μ c u h tx fed fa) (hx : R6 = TH e μ) (he : e ≠ 0) (hk : k ≠ 0) (hX : ∀ v ν, X e v ν = RT k ν) (hM : ∀ ξ d, MIv ξ d u h tx fed fa → ∃ b ζ, FM ξ = RT b ζ ∧ MOk ξ ζ d u h tx fed fa k) : Two μ u h tx fed fa R6 X FM ok := by
  refine Or.inr ⟨e, μ, c, k, hx, he, hI, hI.thr.2, hk, hX, fun ξ d hm => ?_⟩
  obtain ⟨b, ζ, f1, f2⟩ := hM ξ d hm
  exact ⟨b, ζ, d, f1, f2⟩
theorem two_c {v : Int} {r' : Row} (hb : Byt tx) (hx : ∃ ν, R6 = RT v ν ∧ ChP μ ν u h r' tx fed fa) (hok : ok v) (hM : ∀ ξ d, MIv ξ d u h tx fed fa → ∃ b ζ, FM ξ = RT b ζ ∧ b = v ∧ MCh ξ ζ u h r' tx fed fa) : Two μ u h tx fed fa R6 X FM ok := by
  obtain ⟨ν, e1, ⟨c', e2⟩, e3⟩ := hx
  refine Or.inl ⟨v, ν, e1, e3, hok, fun ξ d hm => ?_⟩
  obtain ⟨b, ζ, f1, f2, d', f3⟩ := hM ξ d hm
  exact ⟨ζ, d', c', _, _, tx, fed, fa, e2, hb, by rw [f1, f2], f3⟩
theorem two_state {w : Int} (hI : CIc μ c u h tx fed fa) (hb : Byt tx) : Two μ u h tx fed fa (FX6_state 1 w μ) X2 (fun ξ => FX7_state 105 w ξ) Any := by
  by_cases hw : 0 ≤ w ∧ w ≤ 8
  · refine two_r hb (state_rt hI hw.1 hw.2) trivial fun ξ d hm => ?_
    obtain ⟨b, ζ, e1, e2, e3⟩ := mstate_rt hm (w := w)
    rw [if_pos hw] at e3
    exact ⟨b, ζ, e1, e2 hw, e3⟩
  · refine two_n hI (state_no hw) (by decide) (show (1 : Int) ≠ 0 by decide) (fun v ν => by first | rfl | simp) fun ξ d hm => ?_
    obtain ⟨b, ζ, e1, -, e3⟩ := mstate_rt hm (w := w)
    rw [if_neg hw] at e3
    exact ⟨b, ζ, e1, e3⟩
theorem two_find {n : Int} (hI : CIc μ c u h tx fed fa) (hb : Byt tx) : Two μ u h tx fed fa (FX6_find 1 n μ) X2 (fun ξ => FX7_find 105 n ξ) Any := by
  by_cases hw : 0 ≤ n ∧ n ≤ fed
  · refine two_s hb hI (find_rt hI hb hw) trivial fun ξ d hm => ?_
    obtain ⟨b, ζ, e1, e2, e3⟩ := mfind_rt hm hb (n := n)
    rw [if_pos hw] at e3
    exact ⟨b, ζ, e1, e2 hw, e3⟩
  · refine two_n hI (find_no hI hw) (by decide) (show (1 : Int) ≠ 0 by decide) (fun v ν => by first | rfl | simp) fun ξ d hm => ?_
    obtain ⟨b, ζ, e1, -, e3⟩ := mfind_rt hm hb (n := n)
    rw [if_neg hw] at e3
    exact ⟨b, ζ, e1, e3⟩
theorem two_plate {p w : Int} (hI : CIc μ c u h tx fed fa) (hb : Byt tx) : Two μ u h tx fed fa (FX6_plate 1 p w μ) X12 (fun ξ => FX7_plate 105 p w ξ) Any := by
  by_cases hp : isPl (h 0) p
  · by_cases hw : 0 ≤ w ∧ w ≤ 10
    · refine two_r hb (plate_rt hI hp hw.1 hw.2) trivial fun ξ d hm => ?_
      obtain ⟨b, ζ, e1, e2, e3⟩ := mplate_rt hm (p := p) (w := w)
      rw [if_pos hp, if_pos hw] at e3
      exact ⟨b, ζ, e1, e2 ⟨hp, hw⟩, e3⟩
    · refine two_n hI (plate_n2 hI hp hw) (by decide) (show (2 : Int) ≠ 0 by decide) (fun v ν => by first | rfl | simp) fun ξ d hm => ?_
      obtain ⟨b, ζ, e1, -, e3⟩ := mplate_rt hm (p := p) (w := w)
      rw [if_pos hp, if_neg hw] at e3
      exact ⟨b, ζ, e1, e3⟩
  · refine two_n hI (plate_n1 hI hp) (by decide) (show (1 : Int) ≠ 0 by decide) (fun v ν => by first | rfl | simp) fun ξ d hm => ?_
    obtain ⟨b, ζ, e1, -, e3⟩ := mplate_rt hm (p := p) (w := w)
    rw [if_neg hp] at e3
    exact ⟨b, ζ, e1, e3⟩
theorem two_cell {p x y w : Int} (hI : CIc μ c u h tx fed fa) (hb : Byt tx) : Two μ u h tx fed fa (FX6_cell 1 p x y w μ) X12 (fun ξ => FX7_cell 105 p x y w ξ) Any := by
  by_cases hp : isPl (h 0) p ∧ isCe (h 0) x y
  · by_cases hw : 0 ≤ w ∧ w ≤ 4
    · refine two_r hb (cell_rt hI hp.1 hp.2 hw.1 hw.2) trivial fun ξ d hm => ?_
      obtain ⟨b, ζ, e1, e2, e3⟩ := mcell_rt hm (p := p) (x := x) (y := y) (w := w)
      rw [if_pos hp, if_pos hw] at e3
      exact ⟨b, ζ, e1, e2 ⟨hp.1, hp.2, hw⟩, e3⟩
    · refine two_n hI (cell_n2 hI hp.1 hp.2 hw) (by decide) (show (2 : Int) ≠ 0 by decide) (fun v ν => by first | rfl | simp) fun ξ d hm => ?_
      obtain ⟨b, ζ, e1, -, e3⟩ := mcell_rt hm (p := p) (x := x) (y := y) (w := w)
      rw [if_pos hp, if_neg hw] at e3
      exact ⟨b, ζ, e1, e3⟩
  · refine two_n hI (cell_n1 hI hp) (by decide) (show (1 : Int) ≠ 0 by decide) (fun v ν => by first | rfl | simp) fun ξ d hm => ?_
    obtain ⟨b, ζ, e1, -, e3⟩ := mcell_rt hm (p := p) (x := x) (y := y) (w := w)
    rw [if_neg hp] at e3
    exact ⟨b, ζ, e1, e3⟩
theorem two_tone {x y : Int} (hI : CIc μ c u h tx fed fa) (hb : Byt tx) : Two μ u h tx fed fa (FX6_tone 1 x y μ) X1 (fun ξ => FX7_tone 105 x y ξ) Any := by
  by_cases hp : isCe (h 0) x y
  · refine two_s hb hI (tone_rt hI hp) trivial fun ξ d hm => ?_
    obtain ⟨b, ζ, e1, e2, e3⟩ := mtoneF_rt hm (x := x) (y := y)
    rw [if_pos hp] at e3
    exact ⟨b, ζ, e1, e2 hp, e3⟩
  · refine two_n hI (tone_no hI hp) (by decide) (show (1 : Int) ≠ 0 by decide) (fun v ν => by first | rfl | simp) fun ξ d hm => ?_
    obtain ⟨b, ζ, e1, -, e3⟩ := mtoneF_rt hm (x := x) (y := y)
    rw [if_neg hp] at e3
    exact ⟨b, ζ, e1, e3⟩
theorem two_inks {x y : Int} (hI : CIc μ c u h tx fed fa) (hb : Byt tx) : Two μ u h tx fed fa (FX6_inks 1 x y μ) X1 (fun ξ => FX7_inks 105 x y ξ) Any := by
  by_cases hp : isCe (h 0) x y
  · refine two_r hb (inks_rt hI hp) trivial fun ξ d hm => ?_
    obtain ⟨b, ζ, e1, e2, e3⟩ := minks_rt hm (x := x) (y := y)
    rw [if_pos hp] at e3
    exact ⟨b, ζ, e1, e2 hp, e3⟩
  · refine two_n hI (inks_no hI hp) (by decide) (show (1 : Int) ≠ 0 by decide) (fun v ν => by first | rfl | simp) fun ξ d hm => ?_
    obtain ⟨b, ζ, e1, -, e3⟩ := minks_rt hm (x := x) (y := y)
    rw [if_neg hp] at e3
    exact ⟨b, ζ, e1, e3⟩
theorem two_why {p x y : Int} (hI : CIc μ c u h tx fed fa) (hb : Byt tx) : Two μ u h tx fed fa (FX6_why 1 p x y μ) X1 (fun ξ => FX7_why 105 p x y ξ) Any := by
  by_cases hp : isPl (h 0) p ∧ isCe (h 0) x y
  · refine two_r hb (why_rt hI hp.1 hp.2) trivial fun ξ d hm => ?_
    obtain ⟨b, ζ, e1, e2, e3⟩ := mwhy_rt hm (p := p) (x := x) (y := y)
    rw [if_pos hp] at e3
    exact ⟨b, ζ, e1, e2 hp, e3⟩
  · refine two_n hI (why_no hI hp) (by decide) (show (1 : Int) ≠ 0 by decide) (fun v ν => by first | rfl | simp) fun ξ d hm => ?_
    obtain ⟨b, ζ, e1, -, e3⟩ := mwhy_rt hm (p := p) (x := x) (y := y)
    rw [if_neg hp] at e3
    exact ⟨b, ζ, e1, e3⟩
theorem two_off {p b : Int} (hI : CIc μ c u h tx fed fa) (hb : Byt tx) : Two μ u h tx fed fa (FX6_off 1 p b μ) X14 (fun ξ => FX7_off 105 p b ξ) Any := by
  by_cases hp : isPl (h 0) p
  · by_cases hw : 0 ≤ b ∧ b < blks (h 0) p
    · refine two_r hb (off_rt hI hp hw.1 hw.2) trivial fun ξ d hm => ?_
      obtain ⟨v, ζ, e1, e2, e3⟩ := moff_rt hm (p := p) (b := b)
      rw [if_pos hp, if_pos hw] at e3
      exact ⟨v, ζ, e1, e2 ⟨hp, hw⟩, e3⟩
    · refine two_n hI (off_n2 hI hp hw) (by decide) (show (2 : Int) ≠ 0 by decide) (fun v ν => by first | rfl | simp) fun ξ d hm => ?_
      obtain ⟨v, ζ, e1, -, e3⟩ := moff_rt hm (p := p) (b := b)
      rw [if_pos hp, if_neg hw] at e3
      exact ⟨v, ζ, e1, e3⟩
  · refine two_n hI (off_n1 hI hp) (by decide) (show (1 : Int) ≠ 0 by decide) (fun v ν => by first | rfl | simp) fun ξ d hm => ?_
    obtain ⟨v, ζ, e1, -, e3⟩ := moff_rt hm (p := p) (b := b)
    rw [if_neg hp] at e3
    exact ⟨v, ζ, e1, e3⟩
abbrev DOk (v : Int) : Prop := dOk (FP.f2d (fBits v)) = true ∧ dCmp .l (dOfF v) (dOfF v) = 0
theorem two_covered {p : Int} (hI : CIc μ c u h tx fed fa) (hb : Byt tx) : Two μ u h tx fed fa (FX6_covered 1 p μ) X1 (fun ξ => FX7_covered 105 p ξ) DOk := by
  by_cases hp : isPl (h 0) p
  · have hk := cv_ok hI.1.cur.1 p
    refine two_r hb (covered_rt hI hp) ⟨hk.2.1, hk.2.2.1⟩ fun ξ d hm => ?_
    obtain ⟨v, ζ, e1, e2, e3⟩ := mcovered_rt hm (p := p)
    rw [if_pos hp] at e3
    exact ⟨v, ζ, e1, e2 hp, e3⟩
  · refine two_n hI (covered_no hI hp) (by decide) (show (1 : Int) ≠ 0 by decide) (fun v ν => by first | rfl | simp) fun ξ d hm => ?_
    obtain ⟨v, ζ, e1, -, e3⟩ := mcovered_rt hm (p := p)
    rw [if_neg hp] at e3
    exact ⟨v, ζ, e1, e3⟩
theorem two_moire {p q : Int} (hI : CIc μ c u h tx fed fa) (hb : Byt tx) : Two μ u h tx fed fa (FX6_moire 1 p q μ) X1 (fun ξ => FX7_moire 105 p q ξ) Mv := by
  by_cases hp : isPl (h 0) p ∧ isPl (h 0) q
  · refine two_s hb hI (moire_rt hI hp.1 hp.2) (mvR_v hI.1.cur.1 hp.1.1 hp.1.2 hp.2.1 hp.2.2) fun ξ d hm => ?_
    obtain ⟨v, ζ, e1, e2, e3⟩ := mmoire_rt hm (i := p) (j := q)
    rw [if_pos hp] at e3
    exact ⟨v, ζ, e1, e2 hp, e3⟩
  · refine two_n hI (moire_no hI hp) (by decide) (show (1 : Int) ≠ 0 by decide) (fun v ν => by first | rfl | simp) fun ξ d hm => ?_
    obtain ⟨v, ζ, e1, -, e3⟩ := mmoire_rt hm (i := p) (j := q)
    rw [if_neg hp] at e3
    exact ⟨v, ζ, e1, e3⟩
theorem two_bestTurn {p : Int} (hI : CIc μ c u h tx fed fa) (hb : Byt tx) : Two μ u h tx fed fa (FX6_bestTurn 1 p μ) X1 (fun ξ => FX7_bestTurn 105 p ξ) Any := by
  by_cases hp : isPl (h 0) p
  · refine two_s hb hI (bestTurn_rt hI hp) trivial fun ξ d hm => ?_
    obtain ⟨v, ζ, e1, e2, e3⟩ := mbestTurn_rt hm (p := p)
    rw [if_pos hp] at e3
    exact ⟨v, ζ, e1, e2 hp, e3⟩
  · refine two_n hI (bestTurn_no hI hp) (by decide) (show (1 : Int) ≠ 0 by decide) (fun v ν => by first | rfl | simp) fun ξ d hm => ?_
    obtain ⟨v, ζ, e1, -, e3⟩ := mbestTurn_rt hm (p := p)
    rw [if_neg hp] at e3
    exact ⟨v, ζ, e1, e3⟩
theorem two_cellsWith {w : Int} (hI : CIc μ c u h tx fed fa) (hb : Byt tx) : Two μ u h tx fed fa (FX6_cellsWith 1 w μ) X2 (fun ξ => FX7_cellsWith 105 w ξ) Any := by
  by_cases hw : 0 ≤ w ∧ w ≤ 4
  · refine two_r hb (cellsWith_rt hI hw.1 hw.2) trivial fun ξ d hm => ?_
    obtain ⟨b, ζ, e1, e2, e3⟩ := mcellsWith_rt hm (w := w)
    rw [if_pos hw] at e3
    exact ⟨b, ζ, e1, e2 hw, e3⟩
  · refine two_n hI (cellsWith_no hw) (by decide) (show (1 : Int) ≠ 0 by decide) (fun v ν => by first | rfl | simp) fun ξ d hm => ?_
    obtain ⟨b, ζ, e1, -, e3⟩ := mcellsWith_rt hm (w := w)
    rw [if_neg hw] at e3
    exact ⟨b, ζ, e1, e3⟩
end TWO
