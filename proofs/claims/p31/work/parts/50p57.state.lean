/-! both readers between two statements: the sheet in the making and the row in the making -/
def DrF (g : Int) (μ ν : Mem) : Prop := (∀ z k, ¬ (z = 0 ∨ z = 23 ∨ z = 24 ∨ (25 + 8 * g ≤ z ∧ z ≤ 32 + 8 * g)) → z < μ 0 0 → ν z k = μ z k) ∧ μ 0 0 ≤ ν 0 0
def MD (ξ ζ : Mem) : Prop := ∀ z k, ¬ ((z = 105 ∧ 14 ≤ k ∧ k ≤ 22) ∨ (z = 107 ∧ 0 ≤ k)) → ζ z k = ξ z k
/-- both stand at s: the sheet g is what the row read says, with room left -/
def Dr (U1 U2 : Int) (μ ξ : Mem) (tx : Int → Int) (L s g : Int) : Prop := (Rd μ tx L s ∧ Md ξ tx L s) ∧ (0 ≤ g ∧ g < 10 ∧ μ 23 4 = 25 + 8 * g) ∧ (Sht μ g (ξ 107) ∧ okRow (ξ 107)) ∧ (∀ k, 196 + 1226 * ξ 107 2 ≤ k → k < 5100 → ξ 107 k = 0) ∧ (μ 23 5 = ξ 105 21 ∧ μ 23 6 = ξ 105 22) ∧ (μ 23 1 = -1 ∧ ξ 105 16 = -1) ∧ (117 ≤ μ 0 0 ∧ μ 0 1 ≤ U1 + 2 * ξ 107 2 ∧ μ 0 2 ≤ U2 + 2 * ξ 107 2 + s)
/-- the component's fault -/
def Fe (U1 U2 g : Int) (μ ν : Mem) (c a : Int) : Prop := (ν 23 0 = c ∧ ν 23 1 = a ∧ -6 ≤ c ∧ c ≤ -2 ∧ 0 ≤ a ∧ a ≤ 600) ∧ DrF g μ ν ∧ CSh ν ∧ ν 0 1 ≤ U1 + 8 ∧ ν 0 2 ≤ U2 + 700
def SimS (q U1 U2 g : Int) (μ ξ : Mem) (tx : Int → Int) (L s : Int) (Rc Rm : Rz) : Prop := (∃ ν ζ s', Rc = RT 1 ν ∧ Rm = RT 1 ζ ∧ Dr U1 U2 ν ζ tx L s' g ∧ s + q ≤ s' ∧ DrF g μ ν ∧ MD ξ ζ) ∨ (∃ ν ζ c a, Rc = RT 0 ν ∧ Rm = RT 0 ζ ∧ Fe U1 U2 g μ ν c a ∧ Fm ξ ζ c a)
theorem mUp_107 (ζ : Mem) (p k v : Int) : mUp ζ 107 (196 + 1226 * p + k) v 107 = setO (ζ 107) p k v := by
  funext j
  by_cases e : j = 196 + 1226 * p + k
  · rw [e, mUp_same]
    exact (if_pos rfl).symm
  · rw [mUp_ne _ _ (by omega)]
    exact (if_neg e).symm
theorem mUp_107l (ζ : Mem) (v : Int) : mUp ζ 107 3 v 107 = limR (ζ 107) v := by
  funext j
  by_cases e : j = 3
  · rw [e, mUp_same]
    rfl
  · rw [mUp_ne _ _ (by omega)]
    exact (if_neg e).symm
section STT
variable {μ ξ ν ζ : Mem} {L s g U1 U2 : Int} {tx : Int → Int}
theorem DrF.rf : DrF g μ μ := ⟨fun _ _ _ _ => rfl, Int.le_refl _⟩
theorem DrF.tr {η : Mem} (h1 : DrF g μ ν) (h2 : DrF g ν η) : DrF g μ η := ⟨fun z k h h' => (h2.1 z k h (by have := h1.2; omega)).trans (h1.1 z k h h'), Int.le_trans h1.2 h2.2⟩
theorem MD.tr {η : Mem} (h1 : MD ξ ζ) (h2 : MD ζ η) : MD ξ η := fun z k h => (h2 z k h).trans (h1 z k h)
theorem MD.rf : MD ξ ξ := fun _ _ _ => rfl
theorem RdS.df (h : RdF μ ν) : DrF g μ ν := ⟨fun z k hz _ => h z k (by omega), by rw [h _ _ (by omega)]; exact Int.le_refl _⟩
theorem RmT.md (h : RmT ξ ζ) : MD ξ ζ := fun z k hz => h z k (by omega)
theorem Fm.md {c a : Int} (h1 : MD ξ ζ) {η : Mem} (h2 : Fm ζ η c a) : Fm ξ η c a := ⟨h2.1, fun z k h => (h2.2 z k h).trans (h1 z k h)⟩
theorem Fe.df {c a : Int} (h1 : DrF g μ ν) {η : Mem} (h2 : Fe U1 U2 g ν η c a) : Fe U1 U2 g μ η c a := ⟨h2.1, h1.tr h2.2.1, h2.2.2⟩
/-- reading alone -/
theorem Dr.t {s' : Int} (h : Dr U1 U2 μ ξ tx L s g) (hR : Rd ν tx L s') (hM : Md ζ tx L s') (hs : s ≤ s') (f1 : RdS μ ν) (f2 : RmT ξ ζ) : Dr U1 U2 ν ζ tx L s' g := by
  obtain ⟨-, ⟨b1, b2, b3⟩, ⟨c1, c2⟩, d, ⟨e1, e2⟩, ⟨i1, i2⟩, j1, j2, j3⟩ := h
  have e : ζ 107 = ξ 107 := by
    funext k
    exact f2 _ _ (by omega)
  refine ⟨⟨hR, hM⟩, ⟨b1, b2, by rw [f1 _ _ (by omega)]; exact b3⟩, ⟨by rw [e]; exact c1.fr c2 (fun a k _ _ _ => f1 a k (by omega)) (fun a k _ _ => f1 a k (by omega)) (by rw [f1 _ _ (by omega)]; exact Int.le_refl _), by rw [e]; exact c2⟩, by rw [e]; exact d, ⟨by rw [f1 _ _ (by omega), f2 _ _ (by omega)]; exact e1, by rw [f1 _ _ (by omega), f2 _ _ (by omega)]; exact e2⟩, ⟨by rw [f1 _ _ (by omega)]; exact i1, by rw [f2 _ _ (by omega)]; exact i2⟩, by rw [f1 _ _ (by omega)]; exact j1, by rw [f1 _ _ (by omega), e]; exact j2, by rw [f1 _ _ (by omega), e]; omega⟩
/-- a fault of the component where it stands at a -/
theorem Dr_fl {c a : Int} (h : Dr U1 U2 μ ξ tx L s g) (hR : Rd ν tx L a) (f1 : RdS μ ν) (c0 : -6 ≤ c) (c1 : c ≤ -2) : Fe U1 U2 g μ (fl ν c a) c a := by
  have ha := hR.2.1.1
  have hL := hR.1.2.1
  have hr2 := h.2.2.1.2.2.1
  have hs := h.1.1.2.1.1
  obtain ⟨j1, j2, j3⟩ := h.2.2.2.2.2.2
  have hne : ∀ z k, z ≠ 23 → fl ν c a z k = ν z k := fun z k hz => by unfold fl; rw [mUp_ne _ _ (by omega), mUp_ne _ _ (by omega)]
  refine ⟨⟨by unfold fl; rw [mUp_ne _ _ (by omega), mUp_same], mUp_same _ _ _ _, c0, c1, by omega, by omega⟩, ⟨fun z k hz _ => by rw [hne _ _ (by omega)]; exact f1 z k (by omega), by rw [hne _ _ (by omega), f1 _ _ (by omega)]; exact Int.le_refl _⟩, ?_, by rw [hne _ _ (by omega), f1 _ _ (by omega)]; omega, by rw [hne _ _ (by omega), f1 _ _ (by omega)]; omega⟩
  show CSh (mUp (mUp ν 23 0 c) 23 1 a)
  exact (hR.1.1.up (by unfold CSt; omega)).up (by unfold CSt; omega)
end STT

