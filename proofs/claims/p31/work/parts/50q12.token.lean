/-! pieces of the text: where they end, what stands there -/
section SHL
variable {μ : Mem} {L s g : Int} {tx : Int → Int}
theorem Sht_lim {r : Row} (hr : okRow r) (hT : Sht μ g r) (g0 : 0 ≤ g) (g1 : g < 10) {v : Int} : Sht (mUp μ (25 + 8 * g) 2 v) g (limR r v) := by
  have hr1 := hr.1
  have hr2 := hr.2.1
  refine ⟨⟨?_, ?_, ?_, ?_⟩, fun x y x0 x1 y0 y1 => ?_, fun x y x0 x1 y0 y1 => ?_, fun p p0 p1 => ?_⟩
  · rw [mUp_ne _ _ (by omega), limR_ne (by omega), hT.1.1]
  · rw [mUp_ne _ _ (by omega), limR_ne (by omega), hT.1.2.1]
  · rw [mUp_same]; rfl
  · rw [mUp_ne _ _ (by omega), limR_ne (by omega), hT.1.2.2.2]
  · rw [limR_ne (by omega)] at x1 y1
    have : rT (limR r v) x y = rT r x y := limR_ne (by omega)
    rw [mUp_ne _ _ (by omega), limR_ne (j := 0) (by omega), this]
    exact hT.2.1 x y x0 x1 y0 y1
  · rw [limR_ne (by omega)] at x1 y1
    have h3 := hT.2.2.1 x y x0 x1 y0 y1
    rw [mUp_ne _ _ (by omega), limR_ne (j := 0) (by omega)]
    refine ⟨h3.1, fun p p0 p1 => ?_⟩
    rw [limR_ne (j := 2) (by omega), limR_o p0 (by omega)]
    exact h3.2 p p0 p1
  · rw [limR_ne (by omega)] at p1
    have hk := hr.2.2.2.2 p p0 p1
    have hcd : CdS r (limR r v) p := limR_cd p0
    obtain ⟨q1, q2, q3, q4, q5⟩ := hT.2.2.2 p p0 p1
    have h13 : rO (limR r v) p 13 = rO r p 13 := limR_o p0 (by omega)
    refine ⟨?_, ?_, ?_, fun e => ?_, fun e => ?_⟩
    · rw [mUp_ne _ _ (by omega), nmO_ext hcd hk.2.2.2.2.2.2.2.1, q1]
    · simp (disch := omega) only [mUp_ne, limR_o p0]
      exact q2
    · simp (disch := omega) only [mUp_ne, limR_o p0]
      exact q3
    · rw [h13] at e
      rw [mUp_ne _ _ (by omega), q4 e]
    · rw [h13] at e
      rw [mUp_ne _ _ (by omega)]
      exact ((q5 e).ext hcd hk.2.2.2.2.2.1.2.1).fr (fun a k a0 a1 => mUp_ne _ _ (by omega)) (by rw [mUp_ne _ _ (by omega)]; exact Int.le_refl _)
theorem wd_c {w : Int} (w0 : 0 ≤ w) (w1 : w < 13) (h : wd tx L w s) : tx s = strCh w 0 := by
  have h1 := h.2.2
  have hl := strLen_le w0 w1
  rw [show (strLen w).toNat = (strLen w - 1).toNat + 1 by omega, mt] at h1
  have h2 := (Bool.and_eq_true_iff.mp h1).1
  have h3 := of_decide_eq_true h2
  rw [Int.add_zero] at h3
  exact h3
theorem packedHere_rt (h : Rd μ tx L s) (htx : ∀ k, 0 ≤ tx k ∧ tx k ≤ 255) (hl : en tx L s - s ≤ 6) : FX6_packedName 2 s (en tx L s) μ = RT (pk (fun j => tx (s + j)) (en tx L s - s).toNat) μ := by
  have he := en_le h.2.1
  have hp := h.2.1.1
  have hL := h.1.2.1
  have hS := h.1.1
  have hq := packed_rt (μ := μ) (a := 2) (n := 600) (s := s) (m := (en tx L s - s).toNat) hS.2.1.1 hS.2.1.2 hp.1 (by omega) (by omega) (by omega) (fun j => tx (s + j)) (fun j _ _ => htx (s + j)) (fun j j0 j1 => (h.1.2.2 (s + j) (by omega) (by omega)).1)
  rw [show s + (((en tx L s - s).toNat : Nat) : Int) = en tx L s by omega] at hq
  exact hq
end SHL
section TKN
variable {μ ν : Mem} {L s e g w : Int} {tx : Int → Int}
theorem run_to {lo hi : Int} : ∀ (d : Nat) (a : Int), e - a = d → e ≤ L → (∀ k, a ≤ k → k < e → lo ≤ tx k ∧ tx k ≤ hi) → ¬ (e < L ∧ lo ≤ tx e ∧ tx e ≤ hi) → run lo hi tx L a = e
  | 0, a, h1, h2, _, h4 => by
    have : a = e := by omega
    rw [this, run_e h4]
  | d + 1, a, h1, h2, h3, h4 => by
    rw [run_s ⟨by omega, h3 a (Int.le_refl _) (by omega)⟩]
    exact run_to d (a + 1) (by omega) h2 (fun k k0 k1 => h3 k (by omega) k1) h4
theorem tok_w (h0 : s < e) (h1 : e ≤ L) (ha : ∀ k, s ≤ k → k < e → 97 ≤ tx k ∧ tx k ≤ 122) (he : ¬ (e < L ∧ 97 ≤ tx e ∧ tx e ≤ 122)) : kd tx L s = 2 ∧ en tx L s = e := by
  have hs := ha s (Int.le_refl _) h0
  refine ⟨?_, ?_⟩
  · unfold kd
    rw [if_neg (by omega), if_pos hs]
  · unfold en
    rw [if_neg (by omega), if_pos hs]
    exact run_to (e - s).toNat s (by omega) h1 ha he
theorem tok_d (h0 : s < e) (h1 : e ≤ L) (ha : ∀ k, s ≤ k → k < e → 48 ≤ tx k ∧ tx k ≤ 57) (he : ¬ (e < L ∧ 48 ≤ tx e ∧ tx e ≤ 57)) : kd tx L s = 1 ∧ en tx L s = e := by
  have hs := ha s (Int.le_refl _) h0
  refine ⟨?_, ?_⟩
  · unfold kd
    rw [if_neg (by omega), if_neg (by omega), if_pos hs]
  · unfold en
    rw [if_neg (by omega), if_neg (by omega), if_pos hs]
    exact run_to (e - s).toNat s (by omega) h1 ha he
theorem tok_s (h0 : s < L) (hs : tx s = 59) : sg tx L s 59 ∧ en tx L s = s + 1 := by
  refine ⟨⟨?_, hs⟩, ?_⟩
  · unfold kd
    rw [if_neg (by omega), if_neg (by omega), if_neg (by omega)]
  · unfold en
    rw [if_neg (by omega), if_neg (by omega), if_neg (by omega)]
theorem nx_a (he : en tx L s = e) (h : ¬ (e < L ∧ tx e = 32)) : nx tx L s = e := by
  unfold nx sk
  rw [he, run_e (by omega)]
theorem nx_b (he : en tx L s = e) (h1 : e < L) (h : tx e = 32) (h2 : ¬ (e + 1 < L ∧ tx (e + 1) = 32)) : nx tx L s = e + 1 := by
  unfold nx sk
  rw [he, run_s (by omega), run_e (by omega)]
/-- one digit -/
theorem tok_1 (h1 : s + 1 ≤ L) {z : Int} (hz : 0 ≤ z ∧ z ≤ 9) (hs : tx s = 48 + z) (he : ¬ (s + 1 < L ∧ 48 ≤ tx (s + 1) ∧ tx (s + 1) ≤ 57)) : kd tx L s = 1 ∧ en tx L s = s + 1 ∧ num tx L s = z := by
  have h := tok_d (tx := tx) (L := L) (s := s) (e := s + 1) (by omega) h1 (fun k k0 k1 => by rw [show k = s by omega]; omega) he
  refine ⟨h.1, h.2, ?_⟩
  unfold num
  rw [h.2, show (s + 1 - s).toNat = 1 by omega, nv, nv, if_neg (by omega)]
  show 10 * 0 + tx (s + ((0 : Nat) : Int)) - 48 = z
  rw [show s + ((0 : Nat) : Int) = s by omega]
  omega
theorem mt_all : ∀ (d : Nat) (x : Int), (∀ j, x ≤ j → j < x + d → tx (s + j) = strCh w j) → mt tx w s d x = true
  | 0, _, _ => rfl
  | d + 1, x, h => by
    rw [mt, mt_all d (x + 1) (fun j j0 j1 => h j (by omega) (by omega)), decide_eq_true (h x (Int.le_refl _) (by omega))]
    rfl
/-- a word that is known -/
theorem tok_k (w0 : 0 ≤ w) (w1 : w < 13) (h1 : s + strLen w ≤ L) (ha : ∀ j, 0 ≤ j → j < strLen w → tx (s + j) = strCh w j) (he : ¬ (s + strLen w < L ∧ 97 ≤ tx (s + strLen w) ∧ tx (s + strLen w) ≤ 122)) : wd tx L w s ∧ en tx L s = s + strLen w := by
  have hl := strLen_le w0 w1
  have h := tok_w (tx := tx) (L := L) (s := s) (e := s + strLen w) (by omega) h1 (fun k k0 k1 => by
    have e1 := ha (k - s) (by omega) (by omega)
    rw [show s + (k - s) = k by omega] at e1
    rw [e1]
    exact strCh_le w0 w1 (by omega) (by omega)) he
  exact ⟨⟨h.1, by rw [h.2]; omega, mt_all _ _ (fun j j0 j1 => ha j j0 (by omega))⟩, h.2⟩
theorem not_wd {v : Int} (v0 : 0 ≤ v) (v1 : v < 13) (h : tx s ≠ strCh v 0) : ¬ wd tx L v s := fun q => h (wd_c v0 v1 q)
end TKN
