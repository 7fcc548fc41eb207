/-! the text in the making -/
/-- R stays while b grows -/
def Stb (b : Int) (R : Mem → Prop) : Prop := ∀ (μ ν : Mem) (P : Int → Prop) (c s : Int), R μ → μ b (-1) = 11 → FrL c s P μ ν → (∀ z, P z → z = b ∨ μ z (-1) = 20) → R ν
def Core (sc : Int → Int) (n b : Int) (R : Mem → Prop) (c s : Int) (l : List Int) (μ : Mem) : Prop := Fx sc n μ ∧ μ 0 0 = 1 ∧ (μ 0 1 ≤ c ∧ μ 0 2 ≤ s) ∧ (∃ v cp, Sb μ b v cp l) ∧ R μ
section COR
variable {μ ν : Mem} {n b c s : Int} {l m : List Int} {sc : Int → Int} {R : Mem → Prop}
theorem Core.app (hC : Core sc n b R c s l μ) (hR : Stb b R) {F : Mem → Rz} (hA : ∀ v cp, Sb μ b v cp l → ∃ ν, F μ = RT b ν ∧ Apd μ ν b v (l ++ m)) : ∃ ν, F μ = RT b ν ∧ Core sc n b R (c + 1) (s + 602) (l ++ m) ν := by
  obtain ⟨hF, h0, ⟨c1, c2⟩, ⟨v, cp, hS⟩, hr⟩ := hC
  obtain ⟨ν, e1, v', cp', hS', -, f⟩ := hA v cp hS
  have hb := hS.1.1
  have hv := hS.2.1.1
  refine ⟨ν, e1, hF.fl f (fun z w => by omega), by rw [f.2.1]; exact h0, ⟨by have := f.2.2.2.1; omega, by have := f.2.2.2.2; omega⟩, ⟨v', cp', hS'⟩, hR μ ν _ _ _ hr hS.1.2.2.1 f (fun z w => ?_)⟩
  rcases w with w | w
  · exact Or.inl w
  · right
    rw [w]
    exact hS.2.1.2.2.1
theorem Core.str (hC : Core sc n b R c s l μ) (hR : Stb b R) (i : Nat) (hi : i < 9) (hl : (l.length : Int) + (fBytes i).length ≤ 300) : ∃ ν, FJ4_append_15ec4 b (-(2 + 2 * (i : Int))) μ = RT b ν ∧ Core sc n b R (c + 1) (s + 602) (l ++ fBytes i) ν :=
  hC.app (F := fun μ => FJ4_append_15ec4 b (-(2 + 2 * (i : Int))) μ) hR (fun v cp hS => appS_rt hS (hC.1.2.2.2.1 i hi) hl (by have := hS.2.1.1; omega))
theorem Core.ch (hC : Core sc n b R c s l μ) (hR : Stb b R) {z : Int} (hz : 0 ≤ z ∧ z < 128) (hl : (l.length : Int) + 1 ≤ 300) : ∃ ν, FJ4_append_cf468 b z μ = RT b ν ∧ Core sc n b R (c + 1) (s + 602) (l ++ [z]) ν :=
  hC.app (F := fun μ => FJ4_append_cf468 b z μ) hR (fun v cp hS => appC_rt hS hz hl)
theorem Core.dg (hC : Core sc n b R c s l μ) (hR : Stb b R) {z : Int} (hz : 0 ≤ z ∧ z ≤ 9) (hl : (l.length : Int) + 1 ≤ 300) : ∃ ν, FJ4_append_bf812 b z μ = RT b ν ∧ Core sc n b R (c + 1) (s + 602) (l ++ [48 + z]) ν :=
  hC.app (F := fun μ => FJ4_append_bf812 b z μ) hR (fun v cp hS => appI_rt hC.1.2.1 hS hz hl hC.1.2.2.2.2)
theorem Core.bk (hC : Core sc n b R c s l μ) : μ b (-1) = 11 := by
  obtain ⟨-, -, -, ⟨v, cp, hS⟩, -⟩ := hC
  exact hS.1.2.2.1
theorem Core.len (hC : Core sc n b R c s l μ) : True := trivial
theorem len_s {z : Int} : ((l ++ [z]).length : Int) = l.length + 1 := by rw [List.length_append, List.length_singleton]; omega
theorem gt_e {z : Int} : gt (l ++ [z]) l.length = z := by
  rw [gt_r (Int.le_refl _), Int.sub_self]
  rfl
end COR
/-- the rows of tones so far: x of row y are there; -1: not even its space -/
def Rtx (l : List Int) (w h lim : Int) (dig : Int → Int → Int) (y x : Int) : Prop := (l.length : Int) = 25 + y * (w + 1) + (x + 1) ∧ Hdr (gt l) w h lim ∧ Rws (gt l) w y dig ∧ (0 ≤ x → gt l (25 + y * (w + 1)) = 32) ∧ ∀ x', 0 ≤ x' → x' < x → gt l (26 + y * (w + 1) + x') = 48 + dig x' y
def Rtn (T w h : Int) (dig : Int → Int → Int) (y x : Int) (μ : Mem) : Prop := ∃ f, Tns μ T w h f ∧ ∀ x' y', 0 ≤ x' → x' < w → 0 ≤ y' → y' < y ∨ (y' = y ∧ x' < x) → f x' y' = 11 * dig x' y'
section ROW
variable {μ ν : Mem} {n b c s w h lim many T y x : Int} {l m : List Int} {sc : Int → Int} {dig : Int → Int → Int}
theorem Rtn.st (h0 : 0 ≤ h) : Stb b (Rtn T w h dig y x) := fun μ ν P c s hr hb f hP => by
  obtain ⟨g, hT, hg⟩ := hr
  refine ⟨g, hT.fr h0 f (fun z w => ?_), hg⟩
  rcases hP z w with e | e
  · rw [e, hb]; omega
  · rw [e]; omega
theorem Rtx.sp (hX : Rtx l w h lim dig y (-1)) (hw : 0 ≤ w) (y0 : 0 ≤ y) : Rtx (l ++ [32]) w h lim dig y 0 := by
  obtain ⟨h1, h2, h3, -, -⟩ := hX
  have hy : 0 ≤ y * (w + 1) := Int.mul_nonneg y0 (by omega)
  have e : ∀ k, 0 ≤ k → k < 25 + y * (w + 1) → gt (l ++ [32]) k = gt l k := fun k k0 k1 => gt_l k0 (by omega)
  refine ⟨by rw [len_s]; omega, h2.ext (fun k k0 k1 => e k k0 (by omega)), h3.ext hw e, fun _ => ?_, fun x' x0 x1 => by omega⟩
  rw [show 25 + y * (w + 1) = l.length by omega]
  exact gt_e
theorem Rtx.dg (hX : Rtx l w h lim dig y x) (hw : 0 ≤ w) (y0 : 0 ≤ y) (x0 : 0 ≤ x) : Rtx (l ++ [48 + dig x y]) w h lim dig y (x + 1) := by
  obtain ⟨h1, h2, h3, h4, h5⟩ := hX
  have hy : 0 ≤ y * (w + 1) := Int.mul_nonneg y0 (by omega)
  have e : ∀ k, 0 ≤ k → k < 25 + y * (w + 1) + (x + 1) → gt (l ++ [48 + dig x y]) k = gt l k := fun k k0 k1 => gt_l k0 (by omega)
  refine ⟨by rw [len_s]; omega, h2.ext (fun k k0 k1 => e k k0 (by omega)), h3.ext hw (fun k k0 k1 => e k k0 (by omega)), fun _ => by rw [e _ (by omega) (by omega)]; exact h4 x0, fun x' x'0 x'1 => ?_⟩
  by_cases q : x' = x
  · rw [q, show 26 + y * (w + 1) + x = l.length by omega]
    exact gt_e
  · rw [e _ (by omega) (by omega)]
    exact h5 x' x'0 (by omega)
theorem Rtx.nx (hX : Rtx l w h lim dig y w) (hw : 0 ≤ w) : Rtx l w h lim dig (y + 1) (-1) := by
  obtain ⟨h1, h2, h3, h4, h5⟩ := hX
  refine ⟨by rw [Int.add_mul, Int.one_mul]; omega, h2, fun y' y0 y1 => ?_, fun q => by omega, fun x' x0 x1 => by omega⟩
  by_cases q : y' = y
  · rw [q]
    exact ⟨h4 hw, fun x x0 x1 => h5 x x0 x1⟩
  · exact h3 y' y0 (by omega)
/-- the digits of one row -/
theorem cells_go {k122 : Int → Int → Int → Int → Int → Int → Int → Int → Mem → Rz} (hw : 1 ≤ w ∧ w ≤ 8) (hh : 1 ≤ h ∧ h ≤ 6) (y0 : 0 ≤ y) (y1 : y < h) (hd : ∀ x y, dig x y = dgt (cel sc n 1) x y) : ∀ (m q : Nat) (x c s : Int) (μ : Mem) (l : List Int), x + m = w → m < q → 0 ≤ x → Core sc n b (Rtn T w h dig y x) c s l μ → Rtx l w h lim dig y x → ∃ ν l', LL_law_139 k122 q (-21) w h many lim b T y x μ = k122 (-21) w h many lim b T (y + 1) ν ∧ Core sc n b (Rtn T w h dig y w) (c + m) (s + 602 * m) l' ν ∧ Rtx l' w h lim dig y w
  | m, 0, x, c, s, μ, l, _, h2, _, _, _ => by omega
  | 0, q + 1, x, c, s, μ, l, h1, h2, x0, hC, hX => by
    have ex : x = w := by omega
    rw [ex] at hC hX
    refine ⟨μ, l, ?_, by simpa using hC, hX⟩
    show BL_law_139 k122 _ (-21) w h many lim b T y x μ = _
    unfold BL_law_139
    rw [if_pos (by omega), w32_eq (by omega) (by omega)]
  | m + 1, q + 1, x, c, s, μ, l, h1, h2, x0, hC, hX => by
    have hdl : 0 ≤ dig x y ∧ dig x y ≤ 9 := by rw [hd]; exact dgt_le
    have hyw : y * (w + 1) ≤ 5 * 9 := (mul_le_of (a := y) (b := w + 1) (c := 5) (d := 9) y0 (by omega) (by omega) (by omega)).2
    have hlen := hX.1
    obtain ⟨hF, h0, hc, ⟨v, cp, hS⟩, g, hT, hg⟩ := id hC
    obtain ⟨p1, p2, p3, p4⟩ := hT.put (z := 11 * dig x y) x0 (show x < w by omega) y0 y1
    have hty := hT.1
    have hC1 : Core sc n b (Rtn T w h dig y (x + 1)) c s l (mUp μ (T - 1 - y) x (11 * dig x y)) := by
      refine ⟨hF.fl p3 (fun z w => by omega), by rw [mUp_ne _ _ (by omega)]; exact h0, by rw [mUp_ne _ _ (by omega), mUp_ne _ _ (by omega)]; exact hc, ⟨v, cp, hS.fr p3 (fun e => ?_) (fun e => ?_)⟩, _, p2, fun x' y' x'0 x'1 y'0 hxy => ?_⟩
      · have := hS.1.2.2.1
        rw [e] at this
        omega
      · have := hS.2.1.2.2.1
        rw [e] at this
        omega
      · show (if x' = x ∧ y' = y then 11 * dig x y else g x' y') = _
        by_cases e : x' = x ∧ y' = y
        · rw [if_pos e, e.1, e.2]
        · rw [if_neg e]
          exact hg x' y' x'0 x'1 y'0 (by omega)
    obtain ⟨ν, e1, hC2⟩ := hC1.dg (Rtn.st (by omega)) hdl (by omega)
    obtain ⟨ν', l', e2, hC3, hX3⟩ := cells_go (k122 := k122) hw hh y0 y1 hd m q (x + 1) (c + 1) (s + 602) ν (l ++ [48 + dig x y]) (by omega) (by omega) (by omega) hC2 (hX.dg (by omega) y0 x0)
    refine ⟨ν', l', ?_, by rw [show c + ((m + 1 : Nat) : Int) = c + 1 + m by omega, show s + 602 * ((m + 1 : Nat) : Int) = s + 602 + 602 * m by omega]; exact hC3, hX3⟩
    rw [← e2]
    show BL_law_139 k122 _ (-21) w h many lim b T y x μ = _
    unfold BL_law_139
    rw [if_neg (by omega), cell_law hF (by omega)]
    simp only [CLZ, CLX_rt]
    rw [toneOf_rt, ← hd]
    simp only [CLX_rt]
    rw [w32_eq (z := 11 * dig x y) (by omega) (by omega), p1, KD_go hC1.bk, e1]
    simp only [CLX_rt]
    rw [w32_eq (by omega) (by omega)]
/-- all rows -/
theorem rows_go (hw : 1 ≤ w ∧ w ≤ 8) (hh : 1 ≤ h ∧ h ≤ 6) (hd : ∀ x y, dig x y = dgt (cel sc n 1) x y) : ∀ (m q : Nat) (y c s : Int) (μ : Mem) (l : List Int), y + m = h → m < q → 0 ≤ y → Core sc n b (Rtn T w h dig y (-1)) c s l μ → Rtx l w h lim dig y (-1) → ∃ ν l' k, LL_law_122 q (-21) w h many lim b T y μ = BL_law_122 k (-21) w h many lim b T h ν ∧ Core sc n b (Rtn T w h dig h (-1)) (c + 9 * m) (s + 602 * 9 * m) l' ν ∧ Rtx l' w h lim dig h (-1)
  | m, 0, y, c, s, μ, l, _, h2, _, _, _ => by omega
  | 0, q + 1, y, c, s, μ, l, h1, h2, y0, hC, hX => by
    have ey : y = h := by omega
    rw [ey] at hC hX
    exact ⟨μ, l, _, by rw [ey]; rfl, by simpa using hC, hX⟩
  | m + 1, q + 1, y, c, s, μ, l, h1, h2, y0, hC, hX => by
    have hyw : y * (w + 1) ≤ 5 * 9 := (mul_le_of (a := y) (b := w + 1) (c := 5) (d := 9) y0 (by omega) (by omega) (by omega)).2
    have hlen := hX.1
    have hC0 : Core sc n b (Rtn T w h dig y 0) c s l μ := by
      obtain ⟨a1, a2, a3, a4, g, hT, hg⟩ := hC
      exact ⟨a1, a2, a3, a4, g, hT, fun x' y' x0 x1 y'0 hxy => hg x' y' x0 x1 y'0 (by omega)⟩
    obtain ⟨ν1, e1, hC1⟩ := hC0.ch (Rtn.st (by omega)) (z := 32) (by omega) (by omega)
    obtain ⟨ν2, l2, e2, hC2, hX2⟩ := cells_go (k122 := fun y0 y1 y2 y3 y4 y5 y6 y7 ν => LL_law_122 q y0 y1 y2 y3 y4 y5 y6 y7 ν) (many := many) hw hh y0 (by omega) hd w.toNat FU 0 (c + 1) (s + 602) ν1 (l ++ [32]) (by omega) (by rw [show FU = 20000 from rfl]; omega) (Int.le_refl _) hC1 (hX.sp (by omega) y0)
    have hC3 : Core sc n b (Rtn T w h dig (y + 1) (-1)) (c + 9) (s + 602 * 9) l2 ν2 := by
      obtain ⟨a1, a2, ⟨a3, a3'⟩, a4, g, hT, hg⟩ := hC2
      refine ⟨a1, a2, ⟨?_, ?_⟩, a4, g, hT, fun x' y' x0 x1 y'0 hxy => hg x' y' x0 x1 y'0 (by omega)⟩
      · omega
      · omega
    obtain ⟨ν3, l3, k, e3, hC4, hX4⟩ := rows_go hw hh hd m q (y + 1) (c + 9) (s + 602 * 9) ν2 l2 (by omega) (by omega) (by omega) hC3 (hX2.nx (by omega))
    refine ⟨ν3, l3, k, ?_, ?_, hX4⟩
    · rw [← e3, ← e2]
      show BL_law_122 _ (-21) w h many lim b T y μ = _
      unfold BL_law_122
      rw [if_neg (by omega), KD_go hC0.bk, e1]
      simp only [CLZ, CLX_rt]
    · rw [show c + 9 * ((m + 1 : Nat) : Int) = c + 9 + 9 * m by omega, show s + 602 * 9 * ((m + 1 : Nat) : Int) = s + 602 * 9 + 602 * 9 * m by omega]
      exact hC4
end ROW
