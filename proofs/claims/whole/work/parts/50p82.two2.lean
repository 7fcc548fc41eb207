section TWA
variable {μ : Mem} {c u fed fa : Int} {h : Int → Row} {tx : Int → Int}
theorem two_turn {p a b : Int} (hI : CIc μ c u h tx fed fa) (hb : Byt tx) : Two μ u h tx fed fa (FX6_turn 1 p a b μ) X12 (fun ξ => FX7_turn 105 p a b ξ) Any := by
  by_cases hp : isPl (h 0) p
  · by_cases hw : (0 ≤ a ∧ a ≤ 3) ∧ (0 ≤ b ∧ b ≤ 3) ∧ 0 < a + b
    · refine two_c hb (turn_rt hI hp hw.1 hw.2.1 hw.2.2) trivial fun ξ d hm => ?_
      obtain ⟨v, ζ, e1, ⟨-, -, e2, e3⟩ | ⟨e2, -⟩ | ⟨-, e2, -⟩⟩ := mturn_rt hm (p := p) (a := a) (b := b)
      · exact ⟨v, ζ, e1, e2, e3⟩
      · exact absurd hp e2
      · exact absurd hw e2
    · refine two_n hI (turn_n2 hI hp hw) (by decide) (show (2 : Int) ≠ 0 by decide) (fun v ν => by first | rfl | simp) fun ξ d hm => ?_
      obtain ⟨v, ζ, e1, ⟨-, e2, -⟩ | ⟨e2, -⟩ | ⟨-, -, e3⟩⟩ := mturn_rt hm (p := p) (a := a) (b := b)
      · exact absurd e2 hw
      · exact absurd hp e2
      · exact ⟨v, ζ, e1, e3⟩
  · refine two_n hI (turn_n1 hI hp) (by decide) (show (1 : Int) ≠ 0 by decide) (fun v ν => by first | rfl | simp) fun ξ d hm => ?_
    obtain ⟨v, ζ, e1, ⟨e2, -⟩ | ⟨-, e3⟩ | ⟨e2, -⟩⟩ := mturn_rt hm (p := p) (a := a) (b := b)
    · exact absurd e2 hp
    · exact ⟨v, ζ, e1, e3⟩
    · exact absurd e2 hp
theorem two_shape {p a : Int} (hI : CIc μ c u h tx fed fa) (hb : Byt tx) : Two μ u h tx fed fa (FX6_shape 1 p a μ) X12 (fun ξ => FX7_shape 105 p a ξ) Any := by
  by_cases hp : isPl (h 0) p
  · by_cases hw : 0 ≤ a ∧ a ≤ 3
    · refine two_c hb (shape_rt hI hp hw) trivial fun ξ d hm => ?_
      obtain ⟨v, ζ, e1, ⟨-, -, e2, e3⟩ | ⟨e2, -⟩ | ⟨-, e2, -⟩⟩ := mshape_rt hm (p := p) (a := a)
      · exact ⟨v, ζ, e1, e2, e3⟩
      · exact absurd hp e2
      · exact absurd hw e2
    · refine two_n hI (shape_n2 hI hp hw) (by decide) (show (2 : Int) ≠ 0 by decide) (fun v ν => by first | rfl | simp) fun ξ d hm => ?_
      obtain ⟨v, ζ, e1, ⟨-, e2, -⟩ | ⟨e2, -⟩ | ⟨-, -, e3⟩⟩ := mshape_rt hm (p := p) (a := a)
      · exact absurd e2 hw
      · exact absurd hp e2
      · exact ⟨v, ζ, e1, e3⟩
  · refine two_n hI (shape_n1 hI hp) (by decide) (show (1 : Int) ≠ 0 by decide) (fun v ν => by first | rfl | simp) fun ξ d hm => ?_
    obtain ⟨v, ζ, e1, ⟨e2, -⟩ | ⟨-, e3⟩ | ⟨e2, -⟩⟩ := mshape_rt hm (p := p) (a := a)
    · exact absurd e2 hp
    · exact ⟨v, ζ, e1, e3⟩
    · exact absurd e2 hp
theorem two_fill {p a : Int} (hI : CIc μ c u h tx fed fa) (hb : Byt tx) : Two μ u h tx fed fa (FX6_fill 1 p a μ) X12 (fun ξ => FX7_fill 105 p a ξ) Any := by
  by_cases hp : isPl (h 0) p
  · by_cases hw : 1 ≤ a ∧ a ≤ 9999
    · refine two_c hb (fill_rt6 hI hp hw) trivial fun ξ d hm => ?_
      obtain ⟨v, ζ, e1, ⟨-, -, e2, e3⟩ | ⟨e2, -⟩ | ⟨-, e2, -⟩⟩ := mfill_rt hm (p := p) (a := a)
      · exact ⟨v, ζ, e1, e2, e3⟩
      · exact absurd hp e2
      · exact absurd hw e2
    · refine two_n hI (fill_n2 hI hp hw) (by decide) (show (2 : Int) ≠ 0 by decide) (fun v ν => by first | rfl | simp) fun ξ d hm => ?_
      obtain ⟨v, ζ, e1, ⟨-, e2, -⟩ | ⟨e2, -⟩ | ⟨-, -, e3⟩⟩ := mfill_rt hm (p := p) (a := a)
      · exact absurd e2 hw
      · exact absurd hp e2
      · exact ⟨v, ζ, e1, e3⟩
  · refine two_n hI (fill_n1 hI hp) (by decide) (show (1 : Int) ≠ 0 by decide) (fun v ν => by first | rfl | simp) fun ξ d hm => ?_
    obtain ⟨v, ζ, e1, ⟨e2, -⟩ | ⟨-, e3⟩ | ⟨e2, -⟩⟩ := mfill_rt hm (p := p) (a := a)
    · exact absurd e2 hp
    · exact ⟨v, ζ, e1, e3⟩
    · exact absurd e2 hp
theorem two_shift {p a b : Int} (hI : CIc μ c u h tx fed fa) (hb : Byt tx) : Two μ u h tx fed fa (FX6_shift 1 p a b μ) X12 (fun ξ => FX7_shift 105 p a b ξ) Any := by
  by_cases hp : isPl (h 0) p
  · by_cases hw : (0 ≤ a ∧ a ≤ 17) ∧ 0 ≤ b ∧ b ≤ 17
    · refine two_c hb (shift_rt hI hp hw.1 hw.2) trivial fun ξ d hm => ?_
      obtain ⟨v, ζ, e1, ⟨-, -, e2, e3⟩ | ⟨e2, -⟩ | ⟨-, e2, -⟩⟩ := mshift_rt hm (p := p) (a := a) (b := b)
      · exact ⟨v, ζ, e1, e2, e3⟩
      · exact absurd hp e2
      · exact absurd hw e2
    · refine two_n hI (shift_n2 hI hp hw) (by decide) (show (2 : Int) ≠ 0 by decide) (fun v ν => by first | rfl | simp) fun ξ d hm => ?_
      obtain ⟨v, ζ, e1, ⟨-, e2, -⟩ | ⟨e2, -⟩ | ⟨-, -, e3⟩⟩ := mshift_rt hm (p := p) (a := a) (b := b)
      · exact absurd e2 hw
      · exact absurd hp e2
      · exact ⟨v, ζ, e1, e3⟩
  · refine two_n hI (shift_n1 hI hp) (by decide) (show (1 : Int) ≠ 0 by decide) (fun v ν => by first | rfl | simp) fun ξ d hm => ?_
    obtain ⟨v, ζ, e1, ⟨e2, -⟩ | ⟨-, e3⟩ | ⟨e2, -⟩⟩ := mshift_rt hm (p := p) (a := a) (b := b)
    · exact absurd e2 hp
    · exact ⟨v, ζ, e1, e3⟩
    · exact absurd e2 hp
theorem two_limit {a : Int} (hI : CIc μ c u h tx fed fa) (hb : Byt tx) : Two μ u h tx fed fa (FX6_limit 1 a μ) X2 (fun ξ => FX7_limit 105 a ξ) Any := by
  by_cases hw : 1 ≤ a ∧ a ≤ 4
  · refine two_c hb (limit_rt hI hw) trivial fun ξ d hm => ?_
    obtain ⟨v, ζ, e1, ⟨-, e2, e3⟩ | ⟨e2, -⟩⟩ := mlimit_rt hm (a := a)
    · exact ⟨v, ζ, e1, e2, e3⟩
    · exact absurd hw e2
  · refine two_n hI (limit_no hw) (by decide) (show (1 : Int) ≠ 0 by decide) (fun v ν => by first | rfl | simp) fun ξ d hm => ?_
    obtain ⟨v, ζ, e1, ⟨e2, -⟩ | ⟨-, e3⟩⟩ := mlimit_rt hm (a := a)
    · exact absurd e2 hw
    · exact ⟨v, ζ, e1, e3⟩
theorem two_clean {p : Int} (hI : CIc μ c u h tx fed fa) (hb : Byt tx) : Two μ u h tx fed fa (FX6_clean 1 p μ) X1 (fun ξ => FX7_clean 105 p ξ) Any := by
  by_cases hw : isPl (h 0) p
  · refine two_c hb (clean_rt hI hw) trivial fun ξ d hm => ?_
    obtain ⟨v, ζ, e1, ⟨-, e2, e3⟩ | ⟨e2, -⟩⟩ := mclean_rt hm (p := p)
    · exact ⟨v, ζ, e1, e2, e3⟩
    · exact absurd hw e2
  · refine two_n hI (clean_no hI hw) (by decide) (show (1 : Int) ≠ 0 by decide) (fun v ν => by first | rfl | simp) fun ξ d hm => ?_
    obtain ⟨v, ζ, e1, ⟨e2, -⟩ | ⟨-, e3⟩⟩ := mclean_rt hm (p := p)
    · exact absurd e2 hw
    · exact ⟨v, ζ, e1, e3⟩
theorem two_dirty {p : Int} (hI : CIc μ c u h tx fed fa) (hb : Byt tx) : Two μ u h tx fed fa (FX6_dirty 1 p μ) X1 (fun ξ => FX7_dirty 105 p ξ) Any := by
  by_cases hw : isPl (h 0) p
  · refine two_c hb (dirty_rt hI hw) trivial fun ξ d hm => ?_
    obtain ⟨v, ζ, e1, ⟨-, e2, e3⟩ | ⟨e2, -⟩⟩ := mdirty_rt hm (p := p)
    · exact ⟨v, ζ, e1, e2, e3⟩
    · exact absurd hw e2
  · refine two_n hI (dirty_no hI hw) (by decide) (show (1 : Int) ≠ 0 by decide) (fun v ν => by first | rfl | simp) fun ξ d hm => ?_
    obtain ⟨v, ζ, e1, ⟨e2, -⟩ | ⟨-, e3⟩⟩ := mdirty_rt hm (p := p)
    · exact absurd e2 hw
    · exact ⟨v, ζ, e1, e3⟩
theorem two_paint {x y w q t : Int} (hI : CIc μ c u h tx fed fa) (hb : Byt tx) : Two μ u h tx fed fa (FX6_paint 1 x y w q t μ) X12 (fun ξ => FX7_paint 105 x y w q t ξ) Any := by
  by_cases hp : isCe (h 0) x y
  · by_cases hw : isPa (h 0) x y w q t
    · refine two_c hb (paint_rt hI hp hw) trivial fun ξ d hm => ?_
      obtain ⟨v, ζ, e1, ⟨-, -, e2, e3⟩ | ⟨e2, -⟩ | ⟨-, e2, -⟩⟩ := mpaint_rt hm (x := x) (y := y) (w := w) (q := q) (t := t)
      · exact ⟨v, ζ, e1, e2, e3⟩
      · exact absurd hp e2
      · exact absurd hw e2
    · refine two_n hI (paint_n2 hI hp hw) (by decide) (show (2 : Int) ≠ 0 by decide) (fun v ν => by first | rfl | simp) fun ξ d hm => ?_
      obtain ⟨v, ζ, e1, ⟨-, e2, -⟩ | ⟨e2, -⟩ | ⟨-, -, e3⟩⟩ := mpaint_rt hm (x := x) (y := y) (w := w) (q := q) (t := t)
      · exact absurd e2 hw
      · exact absurd hp e2
      · exact ⟨v, ζ, e1, e3⟩
  · refine two_n hI (paint_n1 hI hp) (by decide) (show (1 : Int) ≠ 0 by decide) (fun v ν => by first | rfl | simp) fun ξ d hm => ?_
    obtain ⟨v, ζ, e1, ⟨e2, -⟩ | ⟨-, e3⟩ | ⟨e2, -⟩⟩ := mpaint_rt hm (x := x) (y := y) (w := w) (q := q) (t := t)
    · exact absurd e2 hp
    · exact ⟨v, ζ, e1, e3⟩
    · exact absurd e2 hp
theorem two_press {k : Int} (hI : CIc μ c u h tx fed fa) (hb : Byt tx) : Two μ u h tx fed fa (FX6_press 1 k μ) X23 (fun ξ => FX7_press 105 k ξ) Any := by
  by_cases hp : 1 ≤ k ∧ k ≤ 1000
  · by_cases hw : 0 ≤ cpV (h 0)
    · refine two_c hb (press_rt hI hp hw) trivial fun ξ d hm => ?_
      obtain ⟨v, ζ, e1, ⟨-, -, e2, e3⟩ | ⟨e2, -⟩ | ⟨-, e2, -⟩⟩ := mpress_rt hm (k := k)
      · exact ⟨v, ζ, e1, e2, e3⟩
      · exact absurd hp e2
      · exact absurd hw e2
    · obtain ⟨ν, e1, e2, -, e3⟩ := press_n2 hI hp hw
      refine Or.inr ⟨3, ν, c, 2, e1, by decide, e2, ?_, by decide, fun v ν => by first | rfl | simp, fun ξ d hm => ?_⟩
      · have ht := (CIc.thr e2).2
        have hc := e3.cfr
        have z0 := e3.2 0 0 (by omega)
        have z1 := e3.2 0 1 (by omega)
        have z2 := e3.2 0 2 (by omega)
        refine ⟨fun a k h1 h2 => (ht.1 a k h1 h2).trans (hc.1 a k h1 h2), ?_, ?_, ?_⟩
        · have := ht.2
          omega
        · have := ht.2
          omega
        · have := ht.2
          omega
      · obtain ⟨v, ζ, e1, ⟨-, e2, -⟩ | ⟨e2, -⟩ | ⟨-, -, e3⟩⟩ := mpress_rt hm (k := k)
        · exact absurd e2 hw
        · exact absurd hp e2
        · exact ⟨v, ζ, d, e1, e3⟩
  · refine two_n hI (press_n1 hp) (by decide) (show (1 : Int) ≠ 0 by decide) (fun v ν => by first | rfl | simp) fun ξ d hm => ?_
    obtain ⟨v, ζ, e1, ⟨e2, -⟩ | ⟨-, e3⟩ | ⟨e2, -⟩⟩ := mpress_rt hm (k := k)
    · exact absurd e2 hp
    · exact ⟨v, ζ, e1, e3⟩
    · exact absurd e2 hp
end TWA
