/-! the component reads the law's whole text -/
def Hdr (tx : Int → Int) (w h lim : Int) : Prop := (∀ j, 0 ≤ j → j < 7 → tx j = strCh 0 j) ∧ tx 7 = 32 ∧ tx 8 = 48 + w ∧ tx 9 = 32 ∧ tx 10 = 48 + h ∧ tx 11 = 59 ∧ (∀ j, 0 ≤ j → j < 5 → tx (12 + j) = strCh 4 j) ∧ tx 17 = 32 ∧ tx 18 = 48 + lim ∧ tx 19 = 59 ∧ ∀ j, 0 ≤ j → j < 5 → tx (20 + j) = strCh 1 j
def Rws (tx : Int → Int) (w n : Int) (dig : Int → Int → Int) : Prop := ∀ y, 0 ≤ y → y < n → tx (25 + y * (w + 1)) = 32 ∧ ∀ x, 0 ≤ x → x < w → tx (26 + y * (w + 1) + x) = 48 + dig x y
def Plf (tx : Int → Int) (q k a b sh : Int) : Prop := (∀ j, 0 ≤ j → j < 5 → tx (q + j) = strCh 2 j) ∧ tx (q + 5) = 32 ∧ tx (q + 6) = 97 + k ∧ tx (q + 7) = 32 ∧ tx (q + 8) = 48 + a ∧ tx (q + 9) = 32 ∧ tx (q + 10) = 48 + b ∧ tx (q + 11) = 32 ∧ (∀ j, 0 ≤ j → j < strLen (9 + sh) → tx (q + 12 + j) = strCh (9 + sh) j) ∧ tx (q + 12 + strLen (9 + sh)) = 59
def RowF (r : Row) (w h lim k : Int) (dig : Int → Int → Int) (A B S : Int → Int) : Prop := (r 0 = w ∧ r 1 = h ∧ r 3 = lim ∧ r 2 = k) ∧ (∀ x y, 0 ≤ x → x < w → 0 ≤ y → y < h → rT r x y = 11 * dig x y) ∧ ∀ p, 0 ≤ p → p < k → (rO r p 7 = A p ∧ rO r p 8 = B p ∧ rO r p 9 = S p) ∧ (rO r p 10 = 0 ∧ rO r p 11 = 0 ∧ rO r p 13 = 0) ∧ (∀ y, 0 ≤ y → y < 12 → rO r p (14 + y) = 0) ∧ nmO r p = 353 + p
section RDT
variable {μ0 μ ν : Mem} {L s s1 s2 g w h lim k i q a b sh ht hl ht' hl' many : Int} {tx : Int → Int} {r r' : Row} {dig : Int → Int → Int} {A B S Pos : Int → Int}
theorem st_tones (hR : Rd μ tx L s) (h1 : wd tx L 1 s) (e : FX4_readTones 23 μ = RT 1 ν) : FX4_readStatement 23 μ = RT 1 ν := by
  unfold FX4_readStatement BX4_readStatement_0
  rw [hR.1.1.k4, isWord_rt hR (by omega) (by omega), b2_t h1]
  simp only [CL, CLX_rt]
  rw [if_neg (by decide), hR.1.1.k4, e]
  rfl
theorem st_plate (hR : Rd μ tx L s) (h1 : ¬ wd tx L 1 s) (h2 : wd tx L 2 s) (e : FX4_readPlate 23 μ = RT 1 ν) : FX4_readStatement 23 μ = RT 1 ν := by
  unfold FX4_readStatement BX4_readStatement_0
  rw [hR.1.1.k4, isWord_rt hR (by omega) (by omega), b2_f h1]
  simp only [CL, CLX_rt, ↓reduceIte]
  rw [hR.1.1.k4, isWord_rt hR (by omega) (by omega), b2_t h2]
  simp only [CLX_rt]
  rw [if_neg (by decide), hR.1.1.k4, e]
  rfl
theorem st_limit (hR : Rd μ tx L s) (h1 : ¬ wd tx L 1 s) (h2 : ¬ wd tx L 2 s) (h3 : ¬ wd tx L 3 s) (h4 : wd tx L 4 s) (e : FX4_readLimit 23 μ = RT 1 ν) : FX4_readStatement 23 μ = RT 1 ν := by
  unfold FX4_readStatement BX4_readStatement_0
  rw [hR.1.1.k4, isWord_rt hR (by omega) (by omega), b2_f h1]
  simp only [CL, CLX_rt, ↓reduceIte]
  rw [hR.1.1.k4, isWord_rt hR (by omega) (by omega), b2_f h2]
  simp only [CLX_rt, ↓reduceIte]
  rw [hR.1.1.k4, isWord_rt hR (by omega) (by omega), b2_f h3]
  simp only [CLX_rt, ↓reduceIte]
  rw [hR.1.1.k4, isWord_rt hR (by omega) (by omega), b2_t h4]
  simp only [CLX_rt]
  rw [if_neg (by decide), hR.1.1.k4, e]
  rfl
theorem st_go (hD : Dq μ0 g μ tx L s r ht hl) (i0 : 0 ≤ i) (hi : i < L) (hkd : kd tx L s ≠ 0) (e1 : FX4_readStatement 23 μ = RT 1 ν) (hD1 : Dq μ0 g ν tx L s1 r' ht' hl') (hs : sg tx L s1 59) (hn : nx tx L s1 = s2) (n : Nat) : ∃ ξ, LX4_read_61 (n + 1) 23 i μ = LX4_read_61 n 23 (i + 1) ξ ∧ Dq μ0 g ξ tx L s2 r' ht' hl' := by
  obtain ⟨ξ, k1, k2, k3⟩ := (takeSign_rt hD1.1 (c := 59) (by omega) (by omega)).1 hs
  rw [hn] at k2
  have hL := hD.1.1.2.1
  refine ⟨ξ, ?_, hD1.st k2 k3.toS⟩
  show BX4_read_61 _ 23 i μ = _
  unfold BX4_read_61
  rw [hD.1.1.1.g4_3, hL.2.1, if_neg (by omega), hD.1.1.1.g4_7, hD.1.2.2.2.1, if_neg hkd, hD.1.1.1.k4, e1]
  simp only [CL, CLX_rt]
  rw [if_neg (by decide), hD1.1.1.1.k4, k1]
  simp only [CLX_rt]
  rw [if_pos (by decide), w32_eq (by omega) (by omega)]
theorem chs : strCh 0 0 = 112 ∧ strCh 1 0 = 116 ∧ strCh 2 0 = 112 ∧ strCh 3 0 = 105 ∧ strCh 4 0 = 108 ∧ strCh 5 0 = 99 ∧ strCh 9 0 = 114 ∧ strCh 10 0 = 108 ∧ strCh 11 0 = 100 ∧ strCh 12 0 = 115 := by decide
theorem lens : strLen 0 = 7 ∧ strLen 1 = 5 ∧ strLen 2 = 5 ∧ strLen 4 = 5 := by decide
theorem shp_of (hsh : 0 ≤ sh ∧ sh ≤ 3) (h : wd tx L (9 + sh) s) (hs : tx s = strCh (9 + sh) 0) : shp tx L s = sh := by
  obtain ⟨-, -, -, -, -, -, c9, c10, c11, c12⟩ := chs
  have h4 : sh = 0 ∨ sh = 1 ∨ sh = 2 ∨ sh = 3 := by omega
  unfold shp
  rcases h4 with e | e | e | e
  · subst e
    have h' : wd tx L 9 s := h
    rw [if_pos h']
  · subst e
    have h' : wd tx L 10 s := h
    have hs' : tx s = strCh 10 0 := hs
    rw [if_neg (not_wd (by omega) (by omega) (by omega)), if_pos h']
  · subst e
    have h' : wd tx L 11 s := h
    have hs' : tx s = strCh 11 0 := hs
    rw [if_neg (not_wd (by omega) (by omega) (by omega)), if_neg (not_wd (by omega) (by omega) (by omega)), if_pos h']
  · subst e
    have h' : wd tx L 12 s := h
    have hs' : tx s = strCh 12 0 := hs
    rw [if_neg (not_wd (by omega) (by omega) (by omega)), if_neg (not_wd (by omega) (by omega) (by omega)), if_neg (not_wd (by omega) (by omega) (by omega)), if_pos h']
/-- one plate with its sign -/
theorem plate_go (hD : Dq μ0 g μ tx L q r ht hl) (htx : ∀ k, 0 ≤ tx k ∧ tx k ≤ 255) (hP : Plf tx q k a b sh) (hk : k = r 2) (hk3 : k < 4) (hnm : ∀ p, 0 ≤ p → p < r 2 → nmO r p = 353 + p) (ha : 0 ≤ a ∧ a ≤ 3) (hb : 0 ≤ b ∧ b ≤ 3) (hab : 0 < a + b) (hsh : 0 ≤ sh ∧ sh ≤ 3) (hL : q + 13 + strLen (9 + sh) ≤ L) (he : ¬ (q + 13 + strLen (9 + sh) < L ∧ tx (q + 13 + strLen (9 + sh)) = 32)) (i0 : 0 ≤ i) (hi : i < L) (n : Nat) : ∃ ξ, LX4_read_61 (n + 1) 23 i μ = LX4_read_61 n 23 (i + 1) ξ ∧ Dq μ0 g ξ tx L (q + 13 + strLen (9 + sh)) (plR r (97 + k) a b sh) ht hl := by
  obtain ⟨p0, p5, p6, p7, p8, p9, p10, p11, p12, p13⟩ := hP
  obtain ⟨c0, c1, c2, c3, c4, c5, c9, c10, c11, c12⟩ := chs
  obtain ⟨l0, l1, l2, l4⟩ := lens
  have hr2 := hD.2.2.1.2.2.1
  have hq := hD.1.2.1.1
  have hsl := strLen_le (w := 9 + sh) (by omega) (by omega)
  have hs0 : tx (q + 12) = strCh (9 + sh) 0 := by
    have := p12 0 (Int.le_refl _) (by omega)
    rw [Int.add_zero] at this
    exact this
  have hsl0 := strCh_le (w := 9 + sh) (k := 0) (by omega) (by omega) (Int.le_refl _) (by omega)
  obtain ⟨a1, a2⟩ := tok_k (tx := tx) (L := L) (s := q) (w := 2) (by omega) (by omega) (by rw [l2]; omega) (by rw [l2]; exact p0) (by rw [l2, p5]; omega)
  rw [l2] at a2
  have a3 := nx_b a2 (by omega) p5 (by rw [show q + 5 + 1 = q + 6 by omega]; omega)
  rw [show q + 5 + 1 = q + 6 by omega] at a3
  obtain ⟨b1, b2⟩ := tok_w (tx := tx) (L := L) (s := q + 6) (e := q + 7) (by omega) (by omega) (fun j j0 j1 => by rw [show j = q + 6 by omega, p6]; omega) (by rw [p7]; omega)
  have b3 := nx_b b2 (by omega) p7 (by rw [show q + 7 + 1 = q + 8 by omega]; omega)
  rw [show q + 7 + 1 = q + 8 by omega] at b3
  obtain ⟨d1, d2, d3⟩ := tok_1 (tx := tx) (L := L) (s := q + 8) (z := a) (by omega) (by omega) p8 (by rw [show q + 8 + 1 = q + 9 by omega, p9]; omega)
  have d4 := nx_b d2 (by omega) (by rw [show q + 8 + 1 = q + 9 by omega]; exact p9) (by rw [show q + 8 + 1 + 1 = q + 10 by omega]; omega)
  rw [show q + 8 + 1 + 1 = q + 10 by omega] at d4
  obtain ⟨f1, f2, f3⟩ := tok_1 (tx := tx) (L := L) (s := q + 10) (z := b) (by omega) (by omega) p10 (by rw [show q + 10 + 1 = q + 11 by omega, p11]; omega)
  have f4 := nx_b f2 (by omega) (by rw [show q + 10 + 1 = q + 11 by omega]; exact p11) (by rw [show q + 10 + 1 + 1 = q + 12 by omega]; omega)
  rw [show q + 10 + 1 + 1 = q + 12 by omega] at f4
  obtain ⟨g1, g2⟩ := tok_k (tx := tx) (L := L) (s := q + 12) (w := 9 + sh) (by omega) (by omega) (by omega) p12 (by rw [p13]; omega)
  have g3 := nx_a g2 (by rw [p13]; omega)
  have hshp : shp tx L (q + 12) = sh := shp_of hsh g1 hs0
  obtain ⟨h1, h2⟩ := tok_s (tx := tx) (L := L) (s := q + 12 + strLen (9 + sh)) (by omega) p13
  have h3 := nx_a (e := q + 13 + strLen (9 + sh)) (by rw [h2]; omega) he
  obtain ⟨ν, e1, D1⟩ := plate_st hD htx (by omega) a3 b1 (by rw [b2]; omega) p6 (by omega) (fun p p0 p1 => by rw [hnm p p0 p1]; omega) b3 d1 d3 ha d4 f1 f3 hb hab f4 hshp hsh g3 (not_wd (by omega) (by omega) (by rw [p13, c5]; omega))
  have hq0 : tx q = strCh 2 0 := by
    have := p0 0 (Int.le_refl _) (by omega)
    rw [Int.add_zero] at this
    exact this
  exact st_go hD i0 hi (by rw [a1.1]; decide) (st_plate hD.1 (not_wd (by omega) (by omega) (by rw [hq0, c2, c1]; omega)) a1 e1) D1 h1 h3 n
/-- all plates -/
theorem plates_go (htx : ∀ k, 0 ≤ tx k ∧ tx k ≤ 255) (hm : many ≤ 4) (hP : ∀ k, 0 ≤ k → k < many → Plf tx (Pos k) k (A k) (B k) (S k)) (hA : ∀ k, 0 ≤ k → k < many → (0 ≤ A k ∧ A k ≤ 3) ∧ (0 ≤ B k ∧ B k ≤ 3) ∧ 0 < A k + B k ∧ 0 ≤ S k ∧ S k ≤ 3) (hPos : ∀ k, 0 ≤ k → k < many → Pos (k + 1) = Pos k + 13 + strLen (9 + S k) ∧ Pos (k + 1) ≤ L) (hL : Pos many = L) (hL9 : 20 ≤ L) : ∀ (m n : Nat) (k : Int) (μ : Mem) (r : Row), k + m = many → m < n → 0 ≤ k → Dq μ0 g μ tx L (Pos k) r 1 1 → RowF r w h lim k dig A B S → ∃ ν r', LX4_read_61 n 23 (2 + k) μ = RT 1 ν ∧ Dq μ0 g ν tx L L r' 1 1 ∧ RowF r' w h lim many dig A B S
  | m, 0, k, μ, r, _, h2, _, _, _ => by omega
  | 0, n + 1, k, μ, r, h1, h2, k0, hD, hF => by
    have ek : k = many := by omega
    rw [ek, hL] at hD
    rw [ek] at hF
    refine ⟨μ, r, ?_, hD, hF⟩
    have hkd : kd tx L L = 0 := if_pos (Int.le_refl _)
    show BX4_read_61 _ 23 (2 + k) μ = _
    unfold BX4_read_61 BX4_read_101
    rw [hD.1.1.1.g4_3, hD.1.1.2.1.2.1, if_neg (by omega), hD.1.1.1.g4_7, hD.1.2.2.2.1, hkd, if_pos rfl]
    rfl
  | m + 1, n + 1, k, μ, r, h1, h2, k0, hD, hF => by
    obtain ⟨x1, x2, x3, x4⟩ := hA k k0 (by omega)
    have hp := hPos k k0 (by omega)
    have hsl := strLen_le (w := 9 + S k) (by omega) (by omega)
    have hr := hD.2.2.1.2
    have hr2 := hr.2.1
    obtain ⟨⟨f0, f1, f3, f2⟩, ft, fp⟩ := id hF
    obtain ⟨ξ, e1, D1⟩ := plate_go hD htx (hP k k0 (by omega)) f2.symm (by omega) (fun p p0 p1 => (fp p p0 (by omega)).2.2.2) x1 x2 x3 x4 (by omega) (by
      rw [← hp.1]
      intro w
      by_cases e : k + 1 = many
      · rw [e, hL] at w
        omega
      · have := (hP (k + 1) (by omega) (by omega)).1 0 (Int.le_refl _) (by omega)
        rw [Int.add_zero, chs.2.2.1] at this
        omega) (i := 2 + k) (by omega) (by omega) n
    rw [← hp.1] at D1
    have hF1 : RowF (plR r (97 + k) (A k) (B k) (S k)) w h lim (k + 1) dig A B S := by
      refine ⟨⟨by rw [plR_ne (by omega) (by omega)]; exact f0, by rw [plR_ne (by omega) (by omega)]; exact f1, by rw [plR_ne (by omega) (by omega)]; exact f3, by rw [plR_2, f2]⟩, fun x y x0 x1 y0 y1 => ?_, fun p p0 p1 => ?_⟩
      · have hr1 := hr.1
        rw [← ft x y x0 x1 y0 y1]
        exact plR_ne (by omega) (by omega)
      · by_cases e : p = k
        · have e2 : p = r 2 := by omega
          have o : ∀ j, 0 ≤ j → j < 1226 → rO (plR r (97 + k) (A k) (B k) (S k)) p j = if j = 0 then 1 else if j = 1 then 97 + k else if j = 7 then A k else if j = 8 then B k else if j = 9 then S k else if j = 12 then 1000 else 0 := fun j j0 j1 => by rw [e2]; exact plR_o hr2.1 j0 j1
          refine ⟨⟨by rw [o 7 (by omega) (by omega), if_neg (by omega), if_neg (by omega), if_pos rfl, e], by rw [o 8 (by omega) (by omega), if_neg (by omega), if_neg (by omega), if_neg (by omega), if_pos rfl, e], by rw [o 9 (by omega) (by omega), if_neg (by omega), if_neg (by omega), if_neg (by omega), if_neg (by omega), if_pos rfl, e]⟩, ⟨by rw [o 10 (by omega) (by omega), if_neg (by omega), if_neg (by omega), if_neg (by omega), if_neg (by omega), if_neg (by omega), if_neg (by omega)], by rw [o 11 (by omega) (by omega), if_neg (by omega), if_neg (by omega), if_neg (by omega), if_neg (by omega), if_neg (by omega), if_neg (by omega)], by rw [o 13 (by omega) (by omega), if_neg (by omega), if_neg (by omega), if_neg (by omega), if_neg (by omega), if_neg (by omega), if_neg (by omega)]⟩, fun y y0 y1 => by rw [o (14 + y) (by omega) (by omega), if_neg (by omega), if_neg (by omega), if_neg (by omega), if_neg (by omega), if_neg (by omega), if_neg (by omega)], ?_⟩
          rw [e2, nm_new hr2.1]
          omega
        · obtain ⟨u1, u2, u3, u4⟩ := fp p p0 (by omega)
          have o : ∀ j, 0 ≤ j → j < 1226 → rO (plR r (97 + k) (A k) (B k) (S k)) p j = rO r p j := fun j j0 j1 => plR_old p0 (by omega) j0 j1
          refine ⟨⟨by rw [o 7 (by omega) (by omega)]; exact u1.1, by rw [o 8 (by omega) (by omega)]; exact u1.2.1, by rw [o 9 (by omega) (by omega)]; exact u1.2.2⟩, ⟨by rw [o 10 (by omega) (by omega)]; exact u2.1, by rw [o 11 (by omega) (by omega)]; exact u2.2.1, by rw [o 13 (by omega) (by omega)]; exact u2.2.2⟩, fun y y0 y1 => by rw [o (14 + y) (by omega) (by omega)]; exact u3 y y0 y1, by rw [nm_old hr p0 (by omega)]; exact u4⟩
    obtain ⟨ν, r', g1, g2, g3⟩ := plates_go htx hm hP hA hPos hL hL9 m n (k + 1) ξ _ (by omega) (by omega) (by omega) D1 hF1
    refine ⟨ν, r', ?_, g2, g3⟩
    rw [e1, show 2 + k + 1 = 2 + (k + 1) by omega]
    exact g1
end RDT
