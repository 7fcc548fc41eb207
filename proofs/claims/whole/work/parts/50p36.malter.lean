/-! the reference's face: changes -/
section MAL
variable {μ : Mem} {c u p fed fa : Int} {h : Int → Row} {tx : Int → Int}
theorem get_raw (hS : MSh μ) (h3 : μ 105 3 = c) (c0 : 0 ≤ c) (c1 : c < 9) {k : Int} (k0 : 0 ≤ k) (k1 : k < 5100) : FX7_get 105 k μ = RT (μ 106 (5100 * c + k)) μ := by
  have e : w32 (w32 (5100 * c) + k) = 5100 * c + k := by rw [w32_eq (z := 5100 * c) (by omega) (by omega), w32_eq (by omega) (by omega)]
  unfold FX7_get BX7_get_0
  rw [hS.g7_1, hS.g7_3, h3, e, hS.l106 (by omega) (by omega)]
theorem put_raw (hS : MSh μ) (h3 : μ 105 3 = c) (c0 : 0 ≤ c) (c1 : c < 9) {k v : Int} (k0 : 0 ≤ k) (k1 : k < 5100) : FX7_put 105 k v μ = RT 0 (mUp μ 106 (5100 * c + k) v) := by
  have e : w32 (w32 (5100 * c) + k) = 5100 * c + k := by rw [w32_eq (z := 5100 * c) (by omega) (by omega), w32_eq (by omega) (by omega)]
  unfold FX7_put BX7_put_0
  rw [hS.g7_1, hS.g7_3, h3, e, hS.s106 (by omega) (by omega)]
theorem puts_raw (hS : MSh μ) (h3 : μ 105 3 = c) (c0 : 0 ≤ c) (c1 : c < 9) {p k v : Int} (p0 : 0 ≤ p) (p1 : p < 4) (k0 : 0 ≤ k) (k1 : k < 1226) : FX7_puts 105 p k v μ = RT 0 (mUp μ 106 (5100 * c + (196 + 1226 * p + k)) v) := by
  have e : w32 (w32 (196 + w32 (1226 * p)) + k) = 196 + 1226 * p + k := by rw [w32_eq (z := 1226 * p) (by omega) (by omega), w32_eq (z := 196 + _) (by omega) (by omega), w32_eq (by omega) (by omega)]
  unfold FX7_puts BX7_puts_0
  rw [hS.k7, e, put_raw hS h3 c0 c1 (by omega) (by omega)]
  rfl
theorem change_rt (hI : MIv μ c u h tx fed fa) : ∃ ν, FX7_change 105 μ = RT 0 ν ∧ MIv ν ((c + 1) % 9) (uUp u) (push (h 0) h) tx fed fa ∧ MFr μ ν ∧ ν 105 0 = μ 105 0 ∧ ν 105 10 = 0 ∧ ∀ z k, ¬ ((z = 105 ∧ (k = 3 ∨ k = 4 ∨ k = 10)) ∨ (z = 106 ∧ 0 ≤ k)) → ν z k = μ z k := by
  obtain ⟨hc, hB, hl⟩ := id hI
  obtain ⟨hS, ⟨c0, c1⟩, ⟨h3, h4⟩, u0, hR⟩ := id hc
  have hd := Int.emod_nonneg (c + 1) (show (9 : Int) ≠ 0 by omega)
  have hd1 := Int.emod_lt_of_pos (c + 1) (show (0 : Int) < 9 by omega)
  have hne : (c + 1) % 9 ≠ c := by omega
  have hu := uUp_le u0
  have e1 : w32 (c + 1) = c + 1 := w32_eq (by omega) (by omega)
  have e2 : (c + 1).tmod 9 = (c + 1) % 9 := tmod_small (by omega)
  unfold FX7_change BX7_change_0
  rw [hS.g7_3, h3, e1, RM_of (by omega), e2]
  generalize hdd : (c + 1) % 9 = d at *
  refine lpR (fun n k s => LX7_change_12 n 105 d k s) (fun k s => 0 ≤ k ∧ (∀ z j, ¬ (z = 106 ∧ 5100 * d ≤ j ∧ j < 5100 * d + 5100) → s z j = μ z j) ∧ ∀ j, 0 ≤ j → j < k → s 106 (5100 * d + j) = h 0 j) 5100 (fun R => ∃ ν, R = RT 0 ν ∧ MIv ν d (uUp u) (push (h 0) h) tx fed fa ∧ MFr μ ν ∧ ν 105 0 = μ 105 0 ∧ ν 105 10 = 0 ∧ ∀ z k, ¬ ((z = 105 ∧ (k = 3 ∨ k = 4 ∨ k = 10)) ∨ (z = 106 ∧ 0 ≤ k)) → ν z k = μ z k) (fun n k s k1 hs => ?_) (fun n s hs => ?_) FU 0 μ (by omega) (by rw [show ((FU : Nat) : Int) = 20000 from rfl]; omega) ⟨Int.le_refl _, fun _ _ _ => rfl, fun j j0 j1 => by omega⟩
  · obtain ⟨k0, g1, g2⟩ := hs
    have hS2 : MSh s := hS.fr fun z j hz => g1 z j (by unfold MSt at hz; omega)
    have kk : ¬ 5100 ≤ k := by omega
    have hv : s 106 (5100 * c + k) = h 0 k := by rw [g1 _ _ (by omega)]; exact hc.at0 k0 k1
    have hg := get_raw hS2 (by rw [g1 _ _ (by omega), h3]) c0 c1 k0 k1
    have ei : w32 (w32 (5100 * d) + k) = 5100 * d + k := by rw [w32_eq (z := 5100 * d) (by omega) (by omega), w32_eq (by omega) (by omega)]
    have k7 := @MSh.k7 s hS2
    refine ⟨mUp s 106 (5100 * d + k) (h 0 k), ⟨by omega, fun z j hz => by rw [mUp_ne _ _ (by omega)]; exact g1 z j hz, fun j j0 j1 => ?_⟩, ?_⟩
    · by_cases e : j = k
      · rw [e, mUp_same]
      · rw [mUp_ne _ _ (by omega)]
        exact g2 j j0 (by omega)
    · simp (disch := omega) only [LX7_change_12, BX7_change_12, kk, ↓reduceIte, ↓hS2.g7_1, ↓k7, CL]
      rw [hg]
      simp only [↓CLX_rt]
      rw [ei, hS2.s106 (by omega) (by omega), hv, w32_eq (by omega) (by omega)]
  · obtain ⟨k0, g1, g2⟩ := hs
    have hS2 : MSh s := hS.fr fun z j hz => g1 z j (by unfold MSt at hz; omega)
    have hS3 : MSh (mUp s 105 3 d) := hS2.up (by unfold MSt; omega)
    have hS4 : MSh (mUp (mUp s 105 3 d) 105 4 (uUp u)) := hS3.up (by unfold MSt; omega)
    have hS5 : MSh (mUp (mUp (mUp s 105 3 d) 105 4 (uUp u)) 105 10 0) := hS4.up (by unfold MSt; omega)
    have u4 : mUp s 105 3 d 105 4 = u := by rw [mUp_ne _ _ (by omega), g1 _ _ (by omega), h4]
    have hfr : ∀ z k, ¬ ((z = 105 ∧ (k = 3 ∨ k = 4 ∨ k = 10)) ∨ (z = 106 ∧ 5100 * d ≤ k ∧ k < 5100 * d + 5100)) → mUp (mUp (mUp s 105 3 d) 105 4 (uUp u)) 105 10 0 z k = μ z k := fun z k hz => by
      rw [mUp_ne _ _ (by omega), mUp_ne _ _ (by omega), mUp_ne _ _ (by omega), g1 _ _ (by omega)]
    refine ⟨mUp (mUp (mUp s 105 3 d) 105 4 (uUp u)) 105 10 0, ?_, ⟨⟨hS5, ⟨hd, hd1⟩, ⟨by simp (disch := omega) only [mUp_ne, mUp_same], by simp (disch := omega) only [mUp_ne, mUp_same]⟩, ⟨hu.1, hu.2.1⟩, fun j j0 j1 => ?_⟩, ⟨hB.1, ⟨by rw [hfr _ _ (by omega), hB.2.1.1], by rw [hfr _ _ (by omega), hB.2.1.2]⟩, fun k k0 k1 => by rw [hfr _ _ (by omega)]; exact hB.2.2 k k0 k1⟩, Or.inl (mUp_same _ _ _ _)⟩, fun z k hz => hfr z k (by omega), hfr _ _ (by omega), mUp_same _ _ _ _, fun z k hz => hfr z k (by omega)⟩
    · simp (disch := omega) only [LX7_change_12, BX7_change_12, BX7_change_70, Int.le_refl, ↓reduceIte, ↓hS2.p7_3, ↓hS3.g7_4]
      rw [u4]
      have hz : uUp u = if 8 ≤ u then u else u + 1 := by
        unfold uUp mn
        split <;> split <;> omega
      clear hfr hS5
      generalize uUp u = U at *
      by_cases e : 8 ≤ u
      · rw [if_pos e] at hz ⊢
        rw [hS3.p7_4, ← hz, hS4.z7_10 (Or.inl rfl)]
      · rw [if_neg e] at hz ⊢
        rw [hS3.p7_4, w32_eq (by omega) (by omega), ← hz, hS4.z7_10 (Or.inl rfl)]
    · unfold push
      by_cases e : j = 0
      · rw [if_pos e, e, Int.sub_zero, Int.emod_eq_of_lt hd hd1]
        refine ⟨hc.ok, fun k k0 k1 => ?_⟩
        rw [mUp_ne _ _ (by omega), mUp_ne _ _ (by omega), mUp_ne _ _ (by omega)]
        exact g2 k k0 k1
      · rw [if_neg e, show (d - j) % 9 = (c - (j - 1)) % 9 by omega]
        obtain ⟨b1, b2⟩ := hR (j - 1) (by omega) (by omega)
        refine ⟨b1, fun k k0 k1 => ?_⟩
        rw [hfr _ _ (by omega)]
        exact b2 k k0 k1
/-- the current row is replaced -/
theorem MIv.set {r r' : Row} {ν : Mem} (hI : MIv μ c u (push r h) tx fed fa) (hl : MFl ν r') (hf : ∀ z k, ¬ (z = 106 ∧ 5100 * c ≤ k ∧ k < 5100 * c + 5100) → ν z k = μ z k) (hr : ∀ k, 0 ≤ k → k < 5100 → ν 106 (5100 * c + k) = r' k) (ho : okRow r') : MIv ν c u (push r' h) tx fed fa := by
  obtain ⟨⟨hS, ⟨c0, c1⟩, ⟨h3, h4⟩, u0, hR⟩, hB, _⟩ := hI
  refine ⟨⟨hS.fr fun z k hz => hf z k (by unfold MSt at hz; omega), ⟨c0, c1⟩, ⟨by rw [hf _ _ (by omega), h3], by rw [hf _ _ (by omega), h4]⟩, u0, fun j j0 j1 => ?_⟩, ⟨hB.1, ⟨by rw [hf _ _ (by omega), hB.2.1.1], by rw [hf _ _ (by omega), hB.2.1.2]⟩, fun k k0 k1 => by rw [hf _ _ (by omega)]; exact hB.2.2 k k0 k1⟩, hl⟩
  by_cases e : j = 0
  · subst e
    rw [Int.sub_zero, Int.emod_eq_of_lt c0 c1]
    exact ⟨ho, hr⟩
  · have hb := hR j j0 j1
    have e1 : push r h j = h (j - 1) := if_neg e
    have e2 : push r' h j = h (j - 1) := if_neg e
    rw [e1] at hb
    rw [e2]
    refine ⟨hb.1, fun k k0 k1 => ?_⟩
    rw [hf _ _ (by omega)]
    exact hb.2 k k0 k1
/-- what a change of the reference leaves behind -/
def MCh (μ ν : Mem) (u : Int) (h : Int → Row) (r' : Row) (tx : Int → Int) (fed fa : Int) : Prop := ∃ d, MOk μ ν d (uUp u) (push r' h) tx fed fa 0
theorem setO_row {r : Row} {d p k v : Int} {s : Mem} (hr : ∀ j, 0 ≤ j → j < 5100 → s 106 (5100 * d + j) = r j) {j : Int} (j0 : 0 ≤ j) (j1 : j < 5100) : mUp s 106 (5100 * d + (196 + 1226 * p + k)) v 106 (5100 * d + j) = setO r p k v j := by
  unfold setO
  by_cases e : j = 196 + 1226 * p + k
  · rw [if_pos e, e, mUp_same]
  · rw [if_neg e, mUp_ne _ _ (by omega)]
    exact hr j j0 j1
theorem FldS.set {r : Row} {p k v : Int} (hp : 0 ≤ p) (p1 : p < 4) (k0 : 7 ≤ k) (k1 : k ≤ 12) : FldS r (setO r p k v) := fun j hj => setO_j (hj p k hp p1 k0 k1)
theorem FldS.tr {a b d : Row} (h1 : FldS a b) (h2 : FldS b d) : FldS a d := fun j hj => (h2 j hj).trans (h1 j hj)
theorem setO_ok {r : Row} (hr : okRow r) {p k v : Int} (hp : isPl r p) (k0 : 7 ≤ k) (k1 : k ≤ 12) (hf : okFld (setO r p k v) p) : okRow (setO r p k v) := by
  have hr2 := hr.2.1
  refine (FldS.set hp.1 (by omega) k0 k1).ok hr fun q q0 q1 => ?_
  by_cases e : q = p
  · rw [e]; exact hf
  · have ho := (hr.2.2.2.2 q q0 q1).f
    unfold okFld
    simp (disch := omega) only [setO_ne]
    exact ho
/-- one field is put after a change began -/
theorem MIv.put1 {r : Row} (hI : MIv μ c u (push r h) tx fed fa) (h10 : μ 105 10 = 0) {p k v : Int} (ho : okRow (setO r p k v)) (p0 : 0 ≤ p) (p1 : p < 4) (k0 : 0 ≤ k) (k1 : k < 1226) : MIv (mUp μ 106 (5100 * c + (196 + 1226 * p + k)) v) c u (push (setO r p k v) h) tx fed fa :=
  hI.set (Or.inl (by rw [mUp_ne _ _ (by omega)]; exact h10)) (fun z j hz => mUp_ne _ _ (by omega)) (fun j j0 j1 => setO_row (fun j j0 j1 => hI.1.at0 j0 j1) j0 j1) ho
theorem mturn_48 {ν : Mem} (ho : MOk μ ν c u h tx fed fa 0) (hp : isPl (h 0) p) {a b : Int} {q : Prop} [Decidable q] (hq : q ↔ ((0 ≤ a ∧ a ≤ 3) ∧ (0 ≤ b ∧ b ≤ 3) ∧ 0 < a + b)) : ∃ v ξ, BX7_turn_48 105 p a b (b2 q) 105 ν = RT v ξ ∧ ((((0 ≤ a ∧ a ≤ 3) ∧ (0 ≤ b ∧ b ≤ 3) ∧ 0 < a + b) ∧ v = a * a + b * b ∧ MCh μ ξ u h (setO (setO (h 0) p 7 a) p 8 b) tx fed fa) ∨ (¬ ((0 ≤ a ∧ a ≤ 3) ∧ (0 ≤ b ∧ b ≤ 3) ∧ 0 < a + b) ∧ MOk μ ξ c u h tx fed fa 2)) := by
  have hc := ho.1.1
  have h0 := ho.2.2
  unfold BX7_turn_48 BX7_turn_55
  rw [hc.1.k7, right_rt hc.1 h0 (by decide)]
  by_cases e : (0 ≤ a ∧ a ≤ 3) ∧ (0 ≤ b ∧ b ≤ 3) ∧ 0 < a + b
  · obtain ⟨s, e1, hI1, f1, z1, h10, -⟩ := change_rt ho.1
    have hc1 := hI1.1
    have hS1 := hc1.1
    have hr : okRow (h 0) := hc1.ok
    have hr2 := hr.2.1
    have p4 : p < 4 := by omega
    have cd := hc1.2.1
    generalize hd : (c + 1) % 9 = d at *
    have hS2 : MSh (mUp s 106 (5100 * d + (196 + 1226 * p + 7)) a) := hS1.up (by unfold MSt; omega)
    have hok : okRow (setO (setO (h 0) p 7 a) p 8 b) := by
      refine ((FldS.set hp.1 p4 (by omega) (by omega)).tr (FldS.set hp.1 p4 (by omega) (by omega))).ok hr fun q q0 q1 => ?_
      have ho := (hr.2.2.2.2 q q0 q1).f
      unfold okFld
      by_cases e9 : q = p
      · subst e9
        rw [setO_ne (k' := 7) (by omega), setO_at, setO_at, setO_ne (k' := 9) (by omega), setO_ne (k' := 9) (by omega), setO_ne (k' := 10) (by omega), setO_ne (k' := 10) (by omega), setO_ne (k' := 11) (by omega), setO_ne (k' := 11) (by omega), setO_ne (k' := 12) (by omega), setO_ne (k' := 12) (by omega)]
        exact ⟨⟨e.1.1, e.1.2, e.2.1.1, e.2.1.2, e.2.2⟩, ho.2⟩
      · simp (disch := omega) only [setO_ne]
        exact ho
    have hI3 : MIv (mUp (mUp s 106 (5100 * d + (196 + 1226 * p + 7)) a) 106 (5100 * d + (196 + 1226 * p + 8)) b) d (uUp u) (push (setO (setO (h 0) p 7 a) p 8 b) h) tx fed fa := by
      refine hI1.set (Or.inl (by rw [mUp_ne _ _ (by omega), mUp_ne _ _ (by omega)]; exact h10)) (fun z j hz => by rw [mUp_ne _ _ (by omega), mUp_ne _ _ (by omega)]) (fun j j0 j1 => setO_row (fun j j0 j1 => setO_row (fun j j0 j1 => hc1.at0 j0 j1) j0 j1) j0 j1) hok
    have hsq := square_rt hI3.1 (p := p) (show isPl (setO (setO (h 0) p 7 a) p 8 b) p from ⟨hp.1, by rw [setO_j (by omega), setO_j (by omega)]; exact hp.2⟩)
    have hv : rQ (push (setO (setO (h 0) p 7 a) p 8 b) h 0) p = a * a + b * b := by
      show rQ (setO (setO (h 0) p 7 a) p 8 b) p = _
      unfold rQ
      rw [setO_ne (k' := 7) (by omega), setO_at, setO_at]
    rw [hv] at hsq
    refine ⟨a * a + b * b, _, ?_, Or.inl ⟨e, rfl, ⟨d, hI3, ?_, ?_⟩⟩⟩
    · rw [if_pos (hq.mpr e)]
      simp only [CL, ↓CLX_rt]
      rw [if_pos (by decide), hc.1.k7, e1]
      simp only [↓CLX_rt]
      rw [hS1.k7, puts_raw hS1 hc1.2.2.1.1 cd.1 cd.2 hp.1 p4 (by omega) (by omega)]
      simp only [↓CLX_rt]
      rw [hS2.k7, puts_raw hS2 (by rw [mUp_ne _ _ (by omega), hc1.2.2.1.1]) cd.1 cd.2 hp.1 p4 (by omega) (by omega)]
      simp only [↓CLX_rt]
      rw [hI3.1.1.k7, hsq]
      rfl
    · exact fun z k hz => by rw [mUp_ne _ _ (by omega), mUp_ne _ _ (by omega), f1 z k hz, ho.2.1 z k hz]
    · rw [mUp_ne _ _ (by omega), mUp_ne _ _ (by omega), z1, h0]
  · refine ⟨0, _, ?_, Or.inr ⟨e, MOk.thr ho.1 ho.2.1 2⟩⟩
    rw [if_neg (fun k => e (hq.mp k))]
    rfl
theorem mturn_rt (hI : MIv μ c u h tx fed fa) {p a b : Int} : ∃ v ν, FX7_turn 105 p a b μ = RT v ν ∧ ((isPl (h 0) p ∧ ((0 ≤ a ∧ a ≤ 3) ∧ (0 ≤ b ∧ b ≤ 3) ∧ 0 < a + b) ∧ v = a * a + b * b ∧ MCh μ ν u h (setO (setO (h 0) p 7 a) p 8 b) tx fed fa) ∨ (¬ isPl (h 0) p ∧ MOk μ ν c u h tx fed fa 1) ∨ (isPl (h 0) p ∧ ¬ ((0 ≤ a ∧ a ≤ 3) ∧ (0 ≤ b ∧ b ≤ 3) ∧ 0 < a + b) ∧ MOk μ ν c u h tx fed fa 2)) := by
  have ho := hI.o
  have hc := ho.1.1
  have h0 := ho.2.2
  unfold FX7_turn BX7_turn_0 BX7_turn_47 BX7_turn_55
  rw [hI.1.1.p7_0, hc.1.k7, isPlate_rt hc]
  simp only [CL, ↓CLX_rt]
  rw [hc.1.k7, right_rt hc.1 h0 (by decide)]
  by_cases e : isPl (h 0) p
  · rw [if_pos e]
    simp only [↓CLX_rt]
    rw [if_neg (by decide), isIn_rt]
    simp only [↓CLX_rt]
    have fin : ∀ (q : Prop) [Decidable q], (q ↔ ((0 ≤ a ∧ a ≤ 3) ∧ (0 ≤ b ∧ b ≤ 3) ∧ 0 < a + b)) → ∃ v ξ, BX7_turn_48 105 p a b (b2 q) 105 (mUp μ 105 0 0) = RT v ξ ∧ ((isPl (h 0) p ∧ ((0 ≤ a ∧ a ≤ 3) ∧ (0 ≤ b ∧ b ≤ 3) ∧ 0 < a + b) ∧ v = a * a + b * b ∧ MCh μ ξ u h (setO (setO (h 0) p 7 a) p 8 b) tx fed fa) ∨ (¬ isPl (h 0) p ∧ MOk μ ξ c u h tx fed fa 1) ∨ (isPl (h 0) p ∧ ¬ ((0 ≤ a ∧ a ≤ 3) ∧ (0 ≤ b ∧ b ≤ 3) ∧ 0 < a + b) ∧ MOk μ ξ c u h tx fed fa 2)) := fun q _ hq => by
      obtain ⟨v, ξ, e1, e2⟩ := mturn_48 ho e hq
      rcases e2 with ⟨k1, k2, k3⟩ | ⟨k1, k2⟩
      · exact ⟨v, ξ, e1, Or.inl ⟨e, k1, k2, k3⟩⟩
      · exact ⟨v, ξ, e1, Or.inr (Or.inr ⟨e, k1, k2⟩)⟩
    by_cases q1 : 0 ≤ a ∧ a ≤ 3
    · rw [b2_t q1, if_neg (by decide), isIn_rt]
      simp only [↓CLX_rt]
      by_cases q2 : 0 ≤ b ∧ b ≤ 3
      · rw [b2_t q2, if_neg (by decide), w32_eq (by omega) (by omega)]
        by_cases q3 : a + b ≤ 0
        · rw [if_pos q3]
          have := fin False ⟨fun k => k.elim, fun k => by omega⟩
          rw [b2_f (fun k => k)] at this
          exact this
        · rw [if_neg q3]
          have := fin True ⟨fun _ => ⟨q1, q2, by omega⟩, fun _ => trivial⟩
          rw [b2_t trivial] at this
          exact this
      · rw [b2_f q2, if_pos rfl]
        have := fin False ⟨fun k => k.elim, fun k => q2 k.2.1⟩
        rw [b2_f (fun k => k)] at this
        exact this
    · rw [b2_f q1, if_pos rfl]
      have := fin False ⟨fun k => k.elim, fun k => q1 k.1⟩
      rw [b2_f (fun k => k)] at this
      exact this
  · refine ⟨0, _, ?_, Or.inr (Or.inl ⟨e, MOk.thr ho.1 ho.2.1 1⟩)⟩
    rw [if_neg e]
    rfl
theorem mshape_rt (hI : MIv μ c u h tx fed fa) {p a : Int} : ∃ v ν, FX7_shape 105 p a μ = RT v ν ∧ ((isPl (h 0) p ∧ (0 ≤ a ∧ a ≤ 3) ∧ v = rO (h 0) p 9 ∧ MCh μ ν u h (setO (h 0) p 9 a) tx fed fa) ∨ (¬ isPl (h 0) p ∧ MOk μ ν c u h tx fed fa 1) ∨ (isPl (h 0) p ∧ ¬ (0 ≤ a ∧ a ≤ 3) ∧ MOk μ ν c u h tx fed fa 2)) := by
  have ho := hI.o
  have hc := ho.1.1
  have h0 := ho.2.2
  unfold FX7_shape BX7_shape_0 BX7_shape_32
  rw [hI.1.1.p7_0, hc.1.k7, isPlate_rt hc]
  simp only [CL, ↓CLX_rt]
  rw [hc.1.k7, right_rt hc.1 h0 (by decide)]
  by_cases e : isPl (h 0) p
  · rw [if_pos e]
    simp only [↓CLX_rt]
    rw [if_neg (by decide), isIn_rt]
    simp only [↓CLX_rt]
    rw [hc.1.k7, right_rt hc.1 h0 (by decide)]
    by_cases q1 : 0 ≤ a ∧ a ≤ 3
    · obtain ⟨s, e1, hI1, f1, z1, h10, -⟩ := change_rt ho.1
      have hc1 := hI1.1
      have hS1 := hc1.1
      have hr : okRow (h 0) := hc1.ok
      have hr2 := hr.2.1
      have p4 : p < 4 := by omega
      have cd := hc1.2.1
      generalize hd : (c + 1) % 9 = d at *
      have hok : okRow (setO (h 0) p 9 a) := setO_ok hr e (by omega) (by omega) (by
        have ho := (hr.2.2.2.2 p e.1 e.2).f
        unfold okFld
        rw [setO_at]
        simp (disch := omega) only [setO_ne]
        exact ⟨ho.1, q1, ho.2.2⟩)
      refine ⟨rO (h 0) p 9, _, ?_, Or.inl ⟨e, q1, rfl, ⟨d, hI1.put1 h10 hok e.1 p4 (by omega) (by omega), ?_, ?_⟩⟩⟩
      · rw [if_pos q1]
        simp only [↓CLX_rt]
        rw [if_pos (by decide), hc.1.k7, e1]
        simp only [↓CLX_rt]
        rw [hS1.k7, of_rt hc1 e.1 p4 (by omega) (by omega)]
        simp only [↓CLX_rt]
        rw [hS1.k7, puts_raw hS1 hc1.2.2.1.1 cd.1 cd.2 e.1 p4 (by omega) (by omega)]
        rfl
      · exact fun z k hz => by rw [mUp_ne _ _ (by omega), f1 z k hz, ho.2.1 z k hz]
      · rw [mUp_ne _ _ (by omega), z1, h0]
    · refine ⟨0, _, ?_, Or.inr (Or.inr ⟨e, q1, MOk.thr ho.1 ho.2.1 2⟩)⟩
      rw [if_neg q1]
      rfl
  · refine ⟨0, _, ?_, Or.inr (Or.inl ⟨e, MOk.thr ho.1 ho.2.1 1⟩)⟩
    rw [if_neg e]
    rfl
theorem mfill_rt (hI : MIv μ c u h tx fed fa) {p a : Int} : ∃ v ν, FX7_fill 105 p a μ = RT v ν ∧ ((isPl (h 0) p ∧ (1 ≤ a ∧ a ≤ 9999) ∧ v = mn (rO (h 0) p 12 + a) 99999 ∧ MCh μ ν u h (setO (h 0) p 12 (mn (rO (h 0) p 12 + a) 99999)) tx fed fa) ∨ (¬ isPl (h 0) p ∧ MOk μ ν c u h tx fed fa 1) ∨ (isPl (h 0) p ∧ ¬ (1 ≤ a ∧ a ≤ 9999) ∧ MOk μ ν c u h tx fed fa 2)) := by
  have ho := hI.o
  have hc := ho.1.1
  have h0 := ho.2.2
  unfold FX7_fill BX7_fill_0 BX7_fill_34
  rw [hI.1.1.p7_0, hc.1.k7, isPlate_rt hc]
  simp only [CL, ↓CLX_rt]
  rw [hc.1.k7, right_rt hc.1 h0 (by decide)]
  by_cases e : isPl (h 0) p
  · rw [if_pos e]
    simp only [↓CLX_rt]
    rw [if_neg (by decide), isIn_rt]
    simp only [↓CLX_rt]
    rw [hc.1.k7, right_rt hc.1 h0 (by decide)]
    by_cases q1 : 1 ≤ a ∧ a ≤ 9999
    · obtain ⟨s, e1, hI1, f1, z1, h10, -⟩ := change_rt ho.1
      have hc1 := hI1.1
      have hS1 := hc1.1
      have hr : okRow (h 0) := hc1.ok
      have hr2 := hr.2.1
      have p4 : p < 4 := by omega
      have cd := hc1.2.1
      generalize hd : (c + 1) % 9 = d at *
      have hof := (hr.2.2.2.2 p e.1 e.2).f
      have hm := mn_le (a := rO (h 0) p 12 + a) (b := 99999)
      have hme : mn 99999 (w32 (rO (h 0) p 12 + a)) = mn (rO (h 0) p 12 + a) 99999 := by
        rw [w32_eq (by have := hof.2.2.2; omega) (by have := hof.2.2.2; omega)]
        unfold mn
        split <;> split <;> omega
      have hok : okRow (setO (h 0) p 12 (mn (rO (h 0) p 12 + a) 99999)) := setO_ok hr e (by omega) (by omega) (by
        unfold okFld
        rw [setO_at]
        simp (disch := omega) only [setO_ne]
        exact ⟨hof.1, hof.2.1, hof.2.2.1, by have := hof.2.2.2; omega, hm.2.1⟩)
      have hI2 := hI1.put1 h10 hok e.1 p4 (by omega) (by omega)
      have hv := of_rt hI2.1 e.1 p4 (show (0 : Int) ≤ 12 by omega) (by omega)
      have hv2 : rO (push (setO (h 0) p 12 (mn (rO (h 0) p 12 + a) 99999)) h 0) p 12 = mn (rO (h 0) p 12 + a) 99999 := setO_at _ _ _ _
      rw [hv2] at hv
      refine ⟨mn (rO (h 0) p 12 + a) 99999, _, ?_, Or.inl ⟨e, q1, rfl, ⟨d, hI2, ?_, ?_⟩⟩⟩
      · rw [if_pos q1]
        simp only [↓CLX_rt]
        rw [if_pos (by decide), hc.1.k7, e1]
        simp only [↓CLX_rt]
        rw [hS1.k7, of_rt hc1 e.1 p4 (by omega) (by omega)]
        simp only [↓CLX_rt]
        rw [min_rt]
        simp only [↓CLX_rt]
        show KD 7 105 s (CLX (FX7_puts 105 p 12 (mn 99999 (w32 (rO (h 0) p 12 + a))) s) _ _) = _
        rw [hme, hS1.k7, puts_raw hS1 hc1.2.2.1.1 cd.1 cd.2 e.1 p4 (by omega) (by omega)]
        simp only [↓CLX_rt]
        rw [hI2.1.1.k7, hv]
        rfl
      · exact fun z k hz => by rw [mUp_ne _ _ (by omega), f1 z k hz, ho.2.1 z k hz]
      · rw [mUp_ne _ _ (by omega), z1, h0]
    · refine ⟨0, _, ?_, Or.inr (Or.inr ⟨e, q1, MOk.thr ho.1 ho.2.1 2⟩)⟩
      rw [if_neg q1]
      rfl
  · refine ⟨0, _, ?_, Or.inr (Or.inl ⟨e, MOk.thr ho.1 ho.2.1 1⟩)⟩
    rw [if_neg e]
    rfl
theorem mlimit_rt (hI : MIv μ c u h tx fed fa) {a : Int} : ∃ v ν, FX7_limit 105 a μ = RT v ν ∧ (((1 ≤ a ∧ a ≤ 4) ∧ v = h 0 3 ∧ MCh μ ν u h (limR (h 0) a) tx fed fa) ∨ (¬ (1 ≤ a ∧ a ≤ 4) ∧ MOk μ ν c u h tx fed fa 1)) := by
  have ho := hI.o
  have hc := ho.1.1
  have h0 := ho.2.2
  unfold FX7_limit BX7_limit_0
  rw [hI.1.1.p7_0, isIn_rt]
  simp only [CL, ↓CLX_rt]
  rw [hc.1.k7, right_rt hc.1 h0 (by decide)]
  by_cases q1 : 1 ≤ a ∧ a ≤ 4
  · obtain ⟨s, e1, hI1, f1, z1, h10, -⟩ := change_rt ho.1
    have hc1 := hI1.1
    have hS1 := hc1.1
    have hr : okRow (h 0) := hc1.ok
    have cd := hc1.2.1
    generalize hd : (c + 1) % 9 = d at *
    have hI2 : MIv (mUp s 106 (5100 * d + 3) a) d (uUp u) (push (limR (h 0) a) h) tx fed fa := hI1.set (Or.inl (by rw [mUp_ne _ _ (by omega)]; exact h10)) (fun z j hz => mUp_ne _ _ (by omega)) (fun j j0 j1 => by
      unfold limR
      by_cases e : j = 3
      · rw [if_pos e, e, mUp_same]
      · rw [if_neg e, mUp_ne _ _ (by omega)]
        exact hc1.at0 j0 j1) (limR_ok hr q1)
    refine ⟨h 0 3, _, ?_, Or.inl ⟨q1, rfl, ⟨d, hI2, ?_, ?_⟩⟩⟩
    · rw [if_pos q1]
      simp only [↓CLX_rt]
      rw [if_pos (by decide), hc.1.k7, e1]
      simp only [↓CLX_rt]
      rw [hS1.k7, get_rt hc1 (by omega) (by omega)]
      simp only [↓CLX_rt]
      rw [hS1.k7, put_raw hS1 hc1.2.2.1.1 cd.1 cd.2 (by omega) (by omega)]
      rfl
    · exact fun z k hz => by rw [mUp_ne _ _ (by omega), f1 z k hz, ho.2.1 z k hz]
    · rw [mUp_ne _ _ (by omega), z1, h0]
  · refine ⟨0, _, ?_, Or.inr ⟨q1, MOk.thr ho.1 ho.2.1 1⟩⟩
    rw [if_neg q1]
    rfl
theorem mshift_44 {ν : Mem} (ho : MOk μ ν c u h tx fed fa 0) (hp : isPl (h 0) p) {a b : Int} {q : Prop} [Decidable q] (hq : q ↔ ((0 ≤ a ∧ a ≤ 17) ∧ 0 ≤ b ∧ b ≤ 17)) : ∃ v ξ, BX7_shift_44 105 p a b (b2 q) 105 ν = RT v ξ ∧ ((((0 ≤ a ∧ a ≤ 17) ∧ 0 ≤ b ∧ b ≤ 17) ∧ v = dotsAll (setO (setO (h 0) p 10 a) p 11 b) ∧ MCh μ ξ u h (setO (setO (h 0) p 10 a) p 11 b) tx fed fa) ∨ (¬ ((0 ≤ a ∧ a ≤ 17) ∧ 0 ≤ b ∧ b ≤ 17) ∧ MOk μ ξ c u h tx fed fa 2)) := by
  have hc := ho.1.1
  have h0 := ho.2.2
  unfold BX7_shift_44 BX7_shift_51
  rw [hc.1.k7, right_rt hc.1 h0 (by decide)]
  by_cases e : (0 ≤ a ∧ a ≤ 17) ∧ 0 ≤ b ∧ b ≤ 17
  · obtain ⟨s, e1, hI1, f1, z1, h10, -⟩ := change_rt ho.1
    have hc1 := hI1.1
    have hS1 := hc1.1
    have hr : okRow (h 0) := hc1.ok
    have hr2 := hr.2.1
    have p4 : p < 4 := by omega
    have cd := hc1.2.1
    generalize hd : (c + 1) % 9 = d at *
    have hS2 : MSh (mUp s 106 (5100 * d + (196 + 1226 * p + 10)) a) := hS1.up (by unfold MSt; omega)
    have hok : okRow (setO (setO (h 0) p 10 a) p 11 b) := by
      refine ((FldS.set hp.1 p4 (by omega) (by omega)).tr (FldS.set hp.1 p4 (by omega) (by omega))).ok hr fun q q0 q1 => ?_
      have ho := (hr.2.2.2.2 q q0 q1).f
      unfold okFld
      by_cases e9 : q = p
      · subst e9
        simp (disch := omega) only [setO_ne, setO_at]
        exact ⟨ho.1, ho.2.1, ⟨e.1.1, e.1.2, e.2.1, e.2.2⟩, ho.2.2.2⟩
      · simp (disch := omega) only [setO_ne]
        exact ho
    have hI3 : MIv (mUp (mUp s 106 (5100 * d + (196 + 1226 * p + 10)) a) 106 (5100 * d + (196 + 1226 * p + 11)) b) d (uUp u) (push (setO (setO (h 0) p 10 a) p 11 b) h) tx fed fa := by
      refine hI1.set (Or.inl (by rw [mUp_ne _ _ (by omega), mUp_ne _ _ (by omega)]; exact h10)) (fun z j hz => by rw [mUp_ne _ _ (by omega), mUp_ne _ _ (by omega)]) (fun j j0 j1 => setO_row (fun j j0 j1 => setO_row (fun j j0 j1 => hc1.at0 j0 j1) j0 j1) j0 j1) hok
    have ho3 : MOk μ (mUp (mUp s 106 (5100 * d + (196 + 1226 * p + 10)) a) 106 (5100 * d + (196 + 1226 * p + 11)) b) d (uUp u) (push (setO (setO (h 0) p 10 a) p 11 b) h) tx fed fa 0 := ⟨hI3, fun z k hz => by rw [mUp_ne _ _ (by omega), mUp_ne _ _ (by omega), f1 z k hz, ho.2.1 z k hz], by rw [mUp_ne _ _ (by omega), mUp_ne _ _ (by omega), z1, h0]⟩
    obtain ⟨ξ, e3, hz⟩ := allDots_rt hI3.1 hI3.2.2
    refine ⟨dotsAll (setO (setO (h 0) p 10 a) p 11 b), ξ, ?_, Or.inl ⟨e, rfl, ⟨d, ho3.tl hz⟩⟩⟩
    rw [if_pos (hq.mpr e)]
    simp only [CL, ↓CLX_rt]
    rw [if_pos (by decide), hc.1.k7, e1]
    simp only [↓CLX_rt]
    rw [hS1.k7, puts_raw hS1 hc1.2.2.1.1 cd.1 cd.2 hp.1 p4 (by omega) (by omega)]
    simp only [↓CLX_rt]
    rw [hS2.k7, puts_raw hS2 (by rw [mUp_ne _ _ (by omega), hc1.2.2.1.1]) cd.1 cd.2 hp.1 p4 (by omega) (by omega)]
    simp only [↓CLX_rt]
    rw [hI3.1.1.k7, e3]
    rfl
  · refine ⟨0, _, ?_, Or.inr ⟨e, MOk.thr ho.1 ho.2.1 2⟩⟩
    rw [if_neg (fun k => e (hq.mp k))]
    rfl
theorem mshift_rt (hI : MIv μ c u h tx fed fa) {p a b : Int} : ∃ v ν, FX7_shift 105 p a b μ = RT v ν ∧ ((isPl (h 0) p ∧ ((0 ≤ a ∧ a ≤ 17) ∧ 0 ≤ b ∧ b ≤ 17) ∧ v = dotsAll (setO (setO (h 0) p 10 a) p 11 b) ∧ MCh μ ν u h (setO (setO (h 0) p 10 a) p 11 b) tx fed fa) ∨ (¬ isPl (h 0) p ∧ MOk μ ν c u h tx fed fa 1) ∨ (isPl (h 0) p ∧ ¬ ((0 ≤ a ∧ a ≤ 17) ∧ 0 ≤ b ∧ b ≤ 17) ∧ MOk μ ν c u h tx fed fa 2)) := by
  have ho := hI.o
  have hc := ho.1.1
  have h0 := ho.2.2
  unfold FX7_shift BX7_shift_0 BX7_shift_43 BX7_shift_51
  rw [hI.1.1.p7_0, hc.1.k7, isPlate_rt hc]
  simp only [CL, ↓CLX_rt]
  rw [hc.1.k7, right_rt hc.1 h0 (by decide)]
  by_cases e : isPl (h 0) p
  · rw [if_pos e]
    simp only [↓CLX_rt]
    rw [if_neg (by decide), isIn_rt]
    simp only [↓CLX_rt]
    have fin : ∀ (q : Prop) [Decidable q], (q ↔ ((0 ≤ a ∧ a ≤ 17) ∧ 0 ≤ b ∧ b ≤ 17)) → ∃ v ξ, BX7_shift_44 105 p a b (b2 q) 105 (mUp μ 105 0 0) = RT v ξ ∧ ((isPl (h 0) p ∧ ((0 ≤ a ∧ a ≤ 17) ∧ 0 ≤ b ∧ b ≤ 17) ∧ v = dotsAll (setO (setO (h 0) p 10 a) p 11 b) ∧ MCh μ ξ u h (setO (setO (h 0) p 10 a) p 11 b) tx fed fa) ∨ (¬ isPl (h 0) p ∧ MOk μ ξ c u h tx fed fa 1) ∨ (isPl (h 0) p ∧ ¬ ((0 ≤ a ∧ a ≤ 17) ∧ 0 ≤ b ∧ b ≤ 17) ∧ MOk μ ξ c u h tx fed fa 2)) := fun q _ hq => by
      obtain ⟨v, ξ, e1, e2⟩ := mshift_44 ho e hq
      rcases e2 with ⟨k1, k2, k3⟩ | ⟨k1, k2⟩
      · exact ⟨v, ξ, e1, Or.inl ⟨e, k1, k2, k3⟩⟩
      · exact ⟨v, ξ, e1, Or.inr (Or.inr ⟨e, k1, k2⟩)⟩
    by_cases q1 : 0 ≤ a ∧ a ≤ 17
    · rw [b2_t q1, if_neg (by decide), isIn_rt]
      simp only [↓CLX_rt]
      by_cases q2 : 0 ≤ b ∧ b ≤ 17
      · rw [b2_t q2, if_neg (by decide)]
        have := fin True ⟨fun _ => ⟨q1, q2⟩, fun _ => trivial⟩
        rw [b2_t trivial] at this
        exact this
      · rw [b2_f q2, if_pos rfl]
        have := fin False ⟨fun k => k.elim, fun k => q2 k.2⟩
        rw [b2_f (fun k => k)] at this
        exact this
    · rw [b2_f q1, if_pos rfl]
      have := fin False ⟨fun k => k.elim, fun k => q1 k.1⟩
      rw [b2_f (fun k => k)] at this
      exact this
  · refine ⟨0, _, ?_, Or.inr (Or.inl ⟨e, MOk.thr ho.1 ho.2.1 1⟩)⟩
    rw [if_neg e]
    rfl
theorem mundo_rt (hI : MIv μ c u h tx fed fa) : ∃ ν d, FX7_undo 105 μ = RT (if u = 0 then -1 else u - 1) ν ∧ MOk μ ν d (if u = 0 then 0 else u - 1) (if u = 0 then h else fun j => h (j + 1)) tx fed fa 0 := by
  have ho := hI.o
  have hc := ho.1.1
  have h0 := ho.2.2
  obtain ⟨hS, ⟨c0, c1⟩, ⟨h3, h4⟩, u0, hR⟩ := id hc
  have hB := ho.1.2.1
  unfold FX7_undo BX7_undo_0
  rw [hI.1.1.p7_0, hS.g7_4, h4]
  by_cases e : u = 0
  · rw [if_pos e, if_pos e, if_pos e, if_neg (fun k => k e)]
    refine ⟨_, c, rfl, ?_⟩
    rw [e] at ho
    exact ho
  · rw [if_neg e, if_neg e, if_neg e, if_pos e]
    have hf0 := ho.2.1
    generalize mUp μ 105 0 0 = ν at *
    have hd := Int.emod_nonneg (c + 8) (show (9 : Int) ≠ 0 by omega)
    have hd1 := Int.emod_lt_of_pos (c + 8) (show (0 : Int) < 9 by omega)
    have hS1 : MSh (mUp ν 105 4 (u - 1)) := hS.up (by unfold MSt; omega)
    have hS2 : MSh (mUp (mUp ν 105 4 (u - 1)) 105 3 ((c + 8) % 9)) := hS1.up (by unfold MSt; omega)
    have hS3 : MSh (mUp (mUp (mUp ν 105 4 (u - 1)) 105 3 ((c + 8) % 9)) 105 10 0) := hS2.up (by unfold MSt; omega)
    have e1 : w32 (u - 1) = u - 1 := w32_eq (by omega) (by omega)
    have e2 : w32 (w32 (c + 9) - 1) = c + 8 := by rw [w32_eq (z := c + 9) (by omega) (by omega), w32_eq (by omega) (by omega)]; omega
    have e3 : (c + 8).tmod 9 = (c + 8) % 9 := tmod_small (by omega)
    have v3 : mUp ν 105 4 (u - 1) 105 3 = c := by rw [mUp_ne _ _ (by omega), h3]
    have v4 : mUp (mUp (mUp ν 105 4 (u - 1)) 105 3 ((c + 8) % 9)) 105 10 0 105 4 = u - 1 := by simp (disch := omega) only [mUp_ne, mUp_same]
    have hfr : ∀ z k, ¬ (z = 105 ∧ (k = 3 ∨ k = 4 ∨ k = 10)) → mUp (mUp (mUp ν 105 4 (u - 1)) 105 3 ((c + 8) % 9)) 105 10 0 z k = ν z k := fun z k hz => by simp (disch := omega) only [mUp_ne]
    refine ⟨mUp (mUp (mUp ν 105 4 (u - 1)) 105 3 ((c + 8) % 9)) 105 10 0, (c + 8) % 9, ?_, ⟨⟨hS3, ⟨hd, hd1⟩, ⟨by simp (disch := omega) only [mUp_ne, mUp_same], v4⟩, by omega, fun j j0 j1 => ?_⟩, ⟨hB.1, ⟨by rw [hfr _ _ (by omega), hB.2.1.1], by rw [hfr _ _ (by omega), hB.2.1.2]⟩, fun k k0 k1 => by rw [hfr _ _ (by omega)]; exact hB.2.2 k k0 k1⟩, Or.inl (mUp_same _ _ _ _)⟩, fun z k hz => by rw [hfr _ _ (by omega), hf0 z k hz], by rw [hfr _ _ (by omega), h0]⟩
    · rw [hS.g7_4, h4, e1, hS.p7_4, hS1.g7_3, v3, e2, RM_of (by omega), e3, hS1.p7_3, hS2.z7_10 (Or.inl rfl), hS3.g7_4, v4]
    · rw [show ((c + 8) % 9 - j) % 9 = (c - (j + 1)) % 9 by omega]
      obtain ⟨b1, b2⟩ := hR (j + 1) (by omega) (by omega)
      exact ⟨b1, fun k k0 k1 => by rw [hfr _ _ (by omega)]; exact b2 k k0 k1⟩
theorem four_rt (hS : MSh μ) {v : Int} (f0 : 0 ≤ fed) (f1 : fed + 4 ≤ 600) (h1 : μ 105 12 = fed) : ∃ ν, FX7_four 105 v μ = RT 0 ν ∧ (∀ z k, ¬ ((z = 105 ∧ k = 12) ∨ (z = 113 ∧ fed ≤ k ∧ k < fed + 4)) → ν z k = μ z k) ∧ ν 105 12 = fed + 4 ∧ ∀ j, 0 ≤ j → j < 4 → ν 113 (fed + j) = tb v (24 - 8 * j) := by
  unfold FX7_four BX7_four_0
  refine lpR (fun n i s => LX7_four_3 n 105 v (24 - 8 * i) s) (fun i ν => 0 ≤ i ∧ (∀ z k, ¬ ((z = 105 ∧ k = 12) ∨ (z = 113 ∧ fed ≤ k ∧ k < fed + 4)) → ν z k = μ z k) ∧ ν 105 12 = fed + i ∧ ∀ j, 0 ≤ j → j < i → ν 113 (fed + j) = tb v (24 - 8 * j)) 4 (fun R => ∃ ν, R = RT 0 ν ∧ (∀ z k, ¬ ((z = 105 ∧ k = 12) ∨ (z = 113 ∧ fed ≤ k ∧ k < fed + 4)) → ν z k = μ z k) ∧ ν 105 12 = fed + 4 ∧ ∀ j, 0 ≤ j → j < 4 → ν 113 (fed + j) = tb v (24 - 8 * j)) (fun n i s i1 hs => ?_) (fun n s hs => ?_) FU 0 μ (by omega) (by rw [show ((FU : Nat) : Int) = 20000 from rfl]; omega) ⟨Int.le_refl _, fun _ _ _ => rfl, by omega, fun j j0 j1 => by omega⟩
  · obtain ⟨i0, g1, g2, g3⟩ := hs
    have hS2 : MSh s := hS.fr fun z k hz => g1 z k (by unfold MSt at hz; omega)
    have hS3 : MSh (mUp s 113 (fed + i) (tb v (24 - 8 * i))) := hS2.up (by unfold MSt; omega)
    have k1 : ¬ 24 - 8 * i < 0 := by omega
    have ew : w32 (24 - 8 * i + -8) = 24 - 8 * (i + 1) := by rw [w32_eq (by omega) (by omega)]; omega
    have e11 : mUp s 113 (fed + i) (tb v (24 - 8 * i)) 105 12 = fed + i := by rw [mUp_ne _ _ (by omega), g2]
    refine ⟨mUp (mUp s 113 (fed + i) (tb v (24 - 8 * i))) 105 12 (fed + i + 1), ⟨by omega, fun z k hz => ?_, ?_, fun j j0 j1 => ?_⟩, ?_⟩
    · rw [mUp_ne _ _ (by omega), mUp_ne _ _ (by omega)]
      exact g1 z k hz
    · rw [mUp_same]
      omega
    · rw [mUp_ne _ _ (by omega)]
      by_cases e : j = i
      · rw [e, mUp_same]
      · rw [mUp_ne _ _ (by omega)]
        exact g3 j j0 (by omega)
    · have etb : bAnd (bShr v (24 - 8 * i)) 255 = tb v (24 - 8 * i) := rfl
      simp only [LX7_four_3, BX7_four_3, k1, ↓reduceIte, ↓hS2.g7_11, ↓hS2.g7_12, g2]
      rw [hS2.s113 (by omega) (by omega), etb, hS3.g7_12, e11, hS3.p7_12, ew, w32_eq (by omega) (by omega)]
  · obtain ⟨i0, g1, g2, g3⟩ := hs
    refine ⟨s, ?_, g1, g2, g3⟩
    have k1 : (24 : Int) - 8 * 4 < 0 := by omega
    simp only [LX7_four_3, BX7_four_3, k1, ↓reduceIte]
theorem four_go {ν : Mem} {t : Int} (ho : MOk μ ν c u h tx fed fa t) {v : Int} (f1 : fed + 4 ≤ 600) : ∃ ξ, FX7_four 105 v ν = RT 0 ξ ∧ MOk μ ξ c u h (put4 tx fed v) (fed + 4) fa t := by
  obtain ⟨⟨hc, hB, hl⟩, hf, h0⟩ := ho
  have hB0 := hB.1
  obtain ⟨ξ, e, g1, g2, g3⟩ := four_rt (fed := fed) (v := v) hc.1 hB0.1 f1 hB.2.1.1
  refine ⟨ξ, e, ⟨hc.fr fun z k hz => g1 z k (by omega), ⟨⟨by omega, f1⟩, ⟨g2, by rw [g1 _ _ (by omega), hB.2.1.2]⟩, fun k k0 k1 => ?_⟩, hl.fr hc.ok (g1 _ _ (by omega)) fun z k _ _ _ => g1 _ _ (by omega)⟩, fun z k hz => by rw [g1 _ _ (by omega), hf z k hz], by rw [g1 _ _ (by omega), h0]⟩
  unfold put4
  by_cases e2 : fed ≤ k ∧ k < fed + 4
  · rw [if_pos e2]
    have := g3 (k - fed) (by omega) (by omega)
    rw [show fed + (k - fed) = k by omega] at this
    exact this
  · rw [if_neg e2, g1 _ _ (by omega)]
    exact hB.2.2 k k0 (by omega)
theorem mappend_rt (hI : MIv μ c u h tx fed fa) {w0 w1 w2 w3 w4 : Int} : ∃ ν, FX7_append 105 w0 w1 w2 w3 w4 μ = RT (if fed ≤ 580 then fed + 20 else -1) ν ∧ MOk μ ν c u h (if fed ≤ 580 then put20 tx fed w0 w1 w2 w3 w4 else tx) (if fed ≤ 580 then fed + 20 else fed) fa 0 := by
  have ho := hI.o
  have hS := ho.1.1.1
  have hB := ho.1.2.1
  have hB0 := hB.1
  unfold FX7_append BX7_append_0
  rw [hI.1.1.p7_0, hS.g7_12, hB.2.1.1, w32_eq (by omega) (by omega)]
  by_cases e : fed ≤ 580
  · obtain ⟨ν1, e1, i1⟩ := four_go ho (v := w0) (by omega)
    obtain ⟨ν2, e2, i2⟩ := four_go i1 (v := w1) (by omega)
    obtain ⟨ν3, e3, i3⟩ := four_go i2 (v := w2) (by omega)
    obtain ⟨ν4, e4, i4⟩ := four_go i3 (v := w3) (by omega)
    obtain ⟨ν5, e5, i5⟩ := four_go i4 (v := w4) (by omega)
    rw [if_pos e, if_pos e, if_pos e, if_pos (by omega)]
    refine ⟨ν5, ?_, ?_⟩
    · rw [hS.k7, e1]
      simp only [CL, ↓CLX_rt]
      rw [i1.1.1.1.k7, e2]
      simp only [↓CLX_rt]
      rw [i2.1.1.1.k7, e3]
      simp only [↓CLX_rt]
      rw [i3.1.1.1.k7, e4]
      simp only [↓CLX_rt]
      rw [i4.1.1.1.k7, e5]
      simp only [↓CLX_rt]
      rw [i5.1.1.1.g7_12, i5.1.2.1.2.1.1]
      congr 1
      omega
    · rw [show fed + 20 = fed + 4 + 4 + 4 + 4 + 4 by omega]
      unfold put20
      rw [show fed + 8 = fed + 4 + 4 by omega, show fed + 12 = fed + 4 + 4 + 4 by omega, show fed + 16 = fed + 4 + 4 + 4 + 4 by omega]
      exact i5
  · rw [if_neg e, if_neg e, if_neg e, if_neg (by omega)]
    exact ⟨_, rfl, ho⟩
end MAL
