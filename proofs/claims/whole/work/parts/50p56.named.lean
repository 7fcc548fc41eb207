/-! both readers at a name -/
section NAM
variable {μ ξ ν ζ : Mem} {L s p g : Int} {tx : Int → Int}
theorem named_rt (hT : Mt ξ tx L) (hr : okRow (ξ 107)) (htx : ∀ k, 0 ≤ tx k ∧ tx k ≤ 255) {n : Int} (s0 : 0 ≤ s) (n0 : 0 ≤ n) (n1 : n ≤ 6) (hs : s + n ≤ L) : FX7_named 105 s n ξ = RT (fdV (ξ 107) (pk (fun j => tx (s + j)) n.toNat)) ξ := by
  obtain ⟨hS, ⟨t3, t4, t5⟩, hf, hb⟩ := id hT
  have hr2 := hr.2.1
  unfold FX7_named BX7_named_0 fdV
  have hgo : ∀ (k m : Nat) (p : Int), 0 ≤ p → p + k = ξ 107 2 → k < m → LX7_named_2 m 105 s n p ξ = RT (fdA (ξ 107) (pk (fun j => tx (s + j)) n.toNat) k p) ξ := by
    intro k
    induction k with
    | zero =>
      intro m p p0 hp hk
      obtain ⟨m, rfl⟩ : ∃ q, m = q + 1 := ⟨m - 1, by omega⟩
      have k1 : ξ 107 2 ≤ p := by omega
      rw [LX7_named_2, BX7_named_2, hS.g7_2, hS.l107 (by omega) (by omega), if_pos k1]
      rfl
    | succ k ih =>
      intro m p p0 hp hk
      obtain ⟨m, rfl⟩ : ∃ q, m = q + 1 := ⟨m - 1, by omega⟩
      have k1 : ¬ ξ 107 2 ≤ p := by omega
      have hpl : isPl (ξ 107) p := ⟨p0, by omega⟩
      have hnm := nm_iff (f := fun j => tx (s + j)) hr hpl (fun j => htx (s + j)) n0
      have ihn := ih m (p + 1) (by omega) (by omega) (by omega)
      have eB : w32 (196 + w32 (1226 * p)) = 196 + 1226 * p := by rw [w32_eq (z := 1226 * p) (by omega) (by omega), w32_eq (by omega) (by omega)]
      have hw1 : w32 (p + 1) = p + 1 := w32_eq (by omega) (by omega)
      rw [LX7_named_2, BX7_named_2, hS.g7_2, hS.l107 (by omega) (by omega), if_neg k1, LT_eq, eB, hS.g7_2, w32_eq (z := 196 + 1226 * p + 0) (by omega) (by omega), hS.l107 (by omega) (by omega), fdA]
      have hin0 : ∀ (K : Int → Int → Int → Int → Mem → Rz) (j : Int) (m : Nat), LX7_named_46 K (m + 1) 105 s n p (196 + 1226 * p) 0 j ξ = K 105 s n (p + 1) ξ := fun K j m => by
        unfold LX7_named_46 BX7_named_46 BX7_named_94
        by_cases q : n ≤ j
        · rw [if_pos q, if_pos rfl, hw1]
        · rw [if_neg q, if_pos rfl, if_pos rfl, hw1]
      have q0 : ξ 107 (196 + 1226 * p + 0) = rO (ξ 107) p 0 := rfl
      rw [q0]
      by_cases q1 : rO (ξ 107) p 0 = n
      · rw [if_neg (fun k => k q1)]
        have hin1 : ∀ (K : Int → Int → Int → Int → Mem → Rz) (t : Nat) (j : Int) (m : Nat), 0 ≤ j → j + t = n → t + 1 < m → (∀ i, 0 ≤ i → i < j → rO (ξ 107) p (1 + i) = tx (s + i)) → LX7_named_46 K m 105 s n p (196 + 1226 * p) 1 j ξ = if nmO (ξ 107) p = pk (fun j => tx (s + j)) n.toNat then RT p ξ else K 105 s n (p + 1) ξ := by
          intro K t
          induction t with
          | zero =>
            intro j m j0 hj hm hall
            obtain ⟨m, rfl⟩ : ∃ q, m = q + 1 := ⟨m - 1, by omega⟩
            rw [if_pos (hnm.mpr ⟨q1, fun i i0 i1 => hall i i0 (by omega)⟩)]
            unfold LX7_named_46 BX7_named_46 BX7_named_94
            rw [if_pos (by omega), if_neg (by decide)]
          | succ t iht =>
            intro j m j0 hj hm hall
            obtain ⟨m, rfl⟩ : ∃ q, m = q + 1 := ⟨m - 1, by omega⟩
            have vt := (hb (s + j) (by omega) (by omega)).1
            have vr : ξ 107 (196 + 1226 * p + 1 + j) = rO (ξ 107) p (1 + j) := by
              unfold rO
              rw [show 196 + 1226 * p + (1 + j) = 196 + 1226 * p + 1 + j by omega]
            unfold LX7_named_46 BX7_named_46 BX7_named_86
            rw [if_neg (by omega), if_neg (by decide), hS.g7_2, w32_eq (z := 196 + 1226 * p + 1) (by omega) (by omega), w32_eq (z := 196 + 1226 * p + 1 + j) (by omega) (by omega), hS.l107 (by omega) (by omega), hS.g7_11, w32_eq (z := s + j) (by omega) (by omega), hS.l113 (by omega) (by omega), vt, vr, w32_eq (z := j + 1) (by omega) (by omega)]
            by_cases q2 : rO (ξ 107) p (1 + j) = tx (s + j)
            · rw [if_neg (fun k => k q2)]
              exact iht (j + 1) m (by omega) (by omega) (by omega) fun i i0 i1 => by
                by_cases e9 : i = j
                · rw [e9, q2]
                · exact hall i i0 (by omega)
            · obtain ⟨m, rfl⟩ : ∃ q, m = q + 1 := ⟨m - 1, by omega⟩
              rw [if_pos q2, if_neg (fun k => q2 ((hnm.mp k).2 j j0 (by omega)))]
              exact hin0 _ _ _
        unfold BX7_named_41
        rw [hin1 _ n.toNat 0 FU (Int.le_refl _) (by omega) (by show n.toNat + 1 < 20000; omega) (fun i i0 i1 => by omega)]
        by_cases q3 : nmO (ξ 107) p = pk (fun j => tx (s + j)) n.toNat
        · rw [if_pos q3, if_pos q3]
        · rw [if_neg q3, if_neg q3]
          exact ihn
      · rw [if_pos q1, if_neg (fun k => q1 (hnm.mp k).1)]
        unfold BX7_named_41
        rw [show FU = 19999 + 1 from rfl, hin0]
        exact ihn
  exact hgo (ξ 107 2).toNat FU 0 (Int.le_refl _) (by omega) (by show (ξ 107 2).toNat < 20000; omega)
/-- the component's packed name of the piece, and its plate -/
theorem packedHere_rt (h : Rd μ tx L s) (htx : ∀ k, 0 ≤ tx k ∧ tx k ≤ 255) (hl : en tx L s - s ≤ 6) : FX6_packedName 2 s (en tx L s) μ = RT (pk (fun j => tx (s + j)) (en tx L s - s).toNat) μ := by
  have he := en_le h.2.1
  have hp := h.2.1.1
  have hL := h.1.2.1
  have hS := h.1.1
  have hq := packed_rt (μ := μ) (a := 2) (n := 600) (s := s) (m := (en tx L s - s).toNat) hS.2.1.1 hS.2.1.2 hp.1 (by omega) (by omega) (by omega) (fun j => tx (s + j)) (fun j _ _ => htx (s + j)) (fun j j0 j1 => (h.1.2.2 (s + j) (by omega) (by omega)).1)
  rw [show s + (((en tx L s - s).toNat : Nat) : Int) = en tx L s by omega] at hq
  exact hq
theorem fdV_le {r : Row} (hr : 0 ≤ r 2) {v : Int} : -1 ≤ fdV r v ∧ fdV r v < r 2 := by
  have h : ∀ (k : Nat) (p : Int), 0 ≤ p → p + k = r 2 → -1 ≤ fdA r v k p ∧ fdA r v k p < r 2 := by
    intro k
    induction k with
    | zero =>
      intro p p0 hp
      rw [fdA]
      omega
    | succ k ih =>
      intro p p0 hp
      rw [fdA]
      split
      · omega
      · exact ih (p + 1) (by omega) (by omega)
  exact h (r 2).toNat 0 (Int.le_refl _) (by omega)
end NAM
