/-! the law's screens and plates -/
def Trn (sc : Int → Int) (n k : Int) : Int := 1 + bnd (cel sc n (2 + k)) 15
def Shp (sc : Int → Int) (n k : Int) : Int := bnd (bShr (cel sc n (2 + k)) 5) 4
def PosN (S : Int → Int) (p0 : Int) : Nat → Int
  | 0 => p0
  | k + 1 => PosN S p0 k + 13 + strLen (9 + S k)
def Pos (S : Int → Int) (p0 k : Int) : Int := PosN S p0 k.toNat
/-- the list L holds k screens -/
def Rsc (L : Int) (A B S : Int → Int) (k : Int) (μ : Mem) : Prop := ∃ e cap ids, Al μ L e cap ids ∧ (ids.length : Int) = k ∧ (∀ p, 0 ≤ p → p < k → Scn μ (fun z => z = L ∨ z = e) (gt ids p) (A p) (B p) (S p) 0 0) ∧ ∀ i j, 0 ≤ i → i < j → j < k → gt ids j < gt ids i
def Rtt (T w h L : Int) (dig : Int → Int → Int) (A B S : Int → Int) (k : Int) (μ : Mem) : Prop := Tns μ T w h (fun x y => 11 * dig x y) ∧ Rsc L A B S k μ
/-- the text has k plates -/
def Ptx (l : List Int) (w h lim : Int) (dig : Int → Int → Int) (A B S : Int → Int) (k : Int) : Prop := (l.length : Int) = Pos S (26 + h * (w + 1)) k ∧ Hdr (gt l) w h lim ∧ Rws (gt l) w h dig ∧ gt l (25 + h * (w + 1)) = 59 ∧ ∀ p, 0 ≤ p → p < k → Plf (gt l) (Pos S (26 + h * (w + 1)) p) p (A p) (B p) (S p)
section PLS
variable {μ ν : Mem} {n b c s w h lim many T L y x k : Int} {l m : List Int} {sc : Int → Int} {dig : Int → Int → Int} {A B S : Int → Int}
theorem Pos_s {p0 : Int} (k0 : 0 ≤ k) : Pos S p0 (k + 1) = Pos S p0 k + 13 + strLen (9 + S k) := by
  unfold Pos
  rw [show (k + 1).toNat = k.toNat + 1 by omega, PosN, Int.toNat_of_nonneg k0]
theorem Pos_le {p0 : Int} (hS : ∀ k, 0 ≤ S k ∧ S k ≤ 3) : ∀ d : Nat, p0 + 14 * d ≤ Pos S p0 d ∧ Pos S p0 d ≤ p0 + 20 * d
  | 0 => by
    show p0 + 14 * 0 ≤ p0 ∧ p0 ≤ p0 + 20 * 0
    omega
  | d + 1 => by
    have h1 := Pos_le (p0 := p0) hS d
    have h2 := strLen_le (w := 9 + S d) (by have := hS d; omega) (by have := hS d; omega)
    have h3 := Pos_s (S := S) (p0 := p0) (k := d) (by omega)
    rw [show ((d + 1 : Nat) : Int) = (d : Int) + 1 by omega, h3]
    omega
theorem Pos_ge {p0 : Int} (hS : ∀ k, 0 ≤ S k ∧ S k ≤ 3) (k0 : 0 ≤ k) : p0 + 14 * k ≤ Pos S p0 k ∧ Pos S p0 k ≤ p0 + 20 * k := by
  have := Pos_le (p0 := p0) hS k.toNat
  rw [Int.toNat_of_nonneg k0] at this
  exact this
/-- later places lie further on -/
theorem Pos_mono {p0 i : Int} (hS : ∀ k, 0 ≤ S k ∧ S k ≤ 3) (i0 : 0 ≤ i) : ∀ d : Nat, Pos S p0 i ≤ Pos S p0 (i + d)
  | 0 => by simp
  | d + 1 => by
    have h1 := Pos_mono (p0 := p0) hS i0 d
    have h2 := strLen_le (w := 9 + S (i + d)) (by have := hS (i + d); omega) (by have := hS (i + d); omega)
    have h3 := Pos_s (S := S) (p0 := p0) (k := i + d) (by omega)
    rw [show i + ((d + 1 : Nat) : Int) = i + d + 1 by omega, h3]
    omega
theorem Rtt.st (h0 : 0 ≤ h) : Stb b (Rtt T w h L dig A B S k) := fun μ ν P c s hr hb f hP => by
  obtain ⟨hT, e, cap, ids, hA, hl, hSc, hd⟩ := hr
  have hk : ∀ z, P z → μ z (-1) = 11 ∨ μ z (-1) = 20 := fun z w => by
    rcases hP z w with q | q
    · rw [q]; exact Or.inl hb
    · exact Or.inr q
  refine ⟨hT.fr h0 f (fun z w => ?_), e, cap, ids, hA.fr f (fun w => ?_) (fun w => ?_), hl, fun p p0 p1 => (hSc p p0 p1).fr f (fun z w => Or.inr ?_) (fun z w => ?_), hd⟩
  · have := hk z w; omega
  · have h1 := hk _ w
    have h2 := hA.1.2.2.1
    omega
  · have h1 := hk _ w
    have h2 := hA.2.2.1.2.1
    omega
  · have := hk z w; omega
  · have := hk z w; omega
/-- one more screen -/
theorem screen_go (hC : Core sc n b (Rtt T w h L dig A B S k) c s l μ) (h0 : 0 ≤ h) (k0 : 0 ≤ k) (k1 : k ≤ 10) (ha : 0 ≤ A k ∧ A k ≤ 3) (hb : 0 ≤ B k ∧ B k ≤ 3) (hab : 0 < A k + B k) (hsh : 0 ≤ S k ∧ S k ≤ 3) : ∃ ν ν2, (∀ K, NWn 8 7 μ K = K (μ 0 3) ν) ∧ ν (μ 0 3) (-1) = 9 ∧ (∃ ν1, FX8_init (μ 0 3) (A k) (B k) (S k) ν = RT 0 ν1 ∧ ν1 L (-1) = 12 ∧ FJx4a65c_add_9ea2d L (μ 0 3) ν1 = RT 1 ν2) ∧ Core sc n b (Rtt T w h L dig A B S (k + 1)) (c + 702) (s + 200607) l ν2 := by
  obtain ⟨hF, h00, ⟨c1, c2⟩, ⟨v, cp, hSb⟩, hT, e, cap, ids, hA, hl, hSc, hd⟩ := hC
  have h3 := hF.2.2.2.2
  obtain ⟨ν, e1, ⟨g1, g2⟩, g3, f1⟩ := NWn_go (ci := 8) (sz := 7) h3
  have hF1 := hF.fl f1 (fun z w => w.elim)
  obtain ⟨ν1, e2, hN, f2⟩ := scr_rt (μ := ν) (s := μ 0 3) hF1.1 (by rw [f1.2.1]; omega) (by omega) g1 g2 ha hb hab hsh
  have fA : FrL 701 200007 NoP μ ν1 := (f1.tr (Q := NoP) (f2.le (P := fun z => z = μ 0 3) (Q := fun z => z = μ 0 3) (Int.le_refl _) (Int.le_refl _) (fun _ _ _ w => w)) (fun _ _ _ w => w) (fun z _ hz w => by omega)).le (by omega) (by omega) (fun _ _ _ w => w)
  have hA1 := hA.fr fA id id
  have hF2 := hF.fl fA (fun z w => w.elim)
  have r1 := fA.2.2.1
  have hEl : Elt ν1 (μ 0 3) := by
    obtain ⟨o, e', cap', ids', ks, q1, -⟩ := hN
    exact ⟨q1.1.1, q1.1.2.1, Or.inr q1.1.2.2⟩
  obtain ⟨ν2, e3, e', cap', hA2, he, f3⟩ := add_rt hA1 (by omega) hEl
  have hLx := hA1.1.2.2.1
  have hex := hA1.2.2.1.2.1
  have hae := hA.1
  have hee := hA.2.2.1.1
  have hkd : ∀ z, (z = L ∨ (z = e ∧ z < -21)) → ν1 z (-1) = 12 ∨ ν1 z (-1) = 22 := fun z w => by
    rcases w with w | w
    · rw [w]; exact Or.inl hLx
    · rw [w.1]; exact Or.inr hex
  have hSc1 : ∀ p, 0 ≤ p → p < k → Scn ν1 (fun z => z = L ∨ z = e ∨ z = e') (gt ids p) (A p) (B p) (S p) 0 0 := fun p p0 p1 => ((hSc p p0 p1).fr fA (fun z w => w.elim) (fun z w => w.elim)).wk (fun z z0 zl w => by
    rcases w with w | w | w
    · exact Or.inl w
    · exact Or.inr w
    · rcases he with q | q
      · exact Or.inr (w.trans q)
      · omega)
  have hN1 : Scn ν1 (fun z => z = L ∨ z = e ∨ z = e') (μ 0 3) (A k) (B k) (S k) 0 0 := hN.wk (fun z z0 zl w => by
    rcases w with w | w | w
    · omega
    · omega
    · rcases he with q | q
      · omega
      · omega)
  have hX2 : ∀ sN a b sh, Scn ν1 (fun z => z = L ∨ z = e ∨ z = e') sN a b sh 0 0 → Scn ν2 (fun z => z = L ∨ z = e') sN a b sh 0 0 := fun sN a b sh hq => (hq.fr f3 (fun z w => Or.inl (by
    rcases w with w | w
    · exact Or.inl w
    · exact Or.inr (Or.inl w.1))) (fun z w => by have := hkd z w; omega)).wk (fun z _ _ w => by
    rcases w with w | w
    · exact Or.inl w
    · exact Or.inr (Or.inr w))
  have hln : ((insL ids ids.length (μ 0 3)).length : Int) = ids.length + 1 := insL_len (by omega) (Int.le_refl _)
  have hgt : ∀ p, 0 ≤ p → p < k → gt (insL ids ids.length (μ 0 3)) p = gt ids p := fun p p0 p1 => by rw [gt_ins (by omega) (Int.le_refl _) p0, if_pos (by omega)]
  have hgk : gt (insL ids ids.length (μ 0 3)) k = μ 0 3 := by rw [gt_ins (by omega) (Int.le_refl _) k0, if_neg (by omega), if_pos (by omega)]
  refine ⟨ν, ν2, e1, g1, ⟨ν1, e2, hLx, e3⟩, hF2.fl f3 (fun z w => by omega), by rw [f3.2.1, fA.2.1]; exact h00, ⟨by have := f3.2.2.2.1; have := fA.2.2.2.1; omega, by have := f3.2.2.2.2; have := fA.2.2.2.2; omega⟩, ⟨v, cp, (hSb.fr fA id id).fr f3 (fun w => ?_) (fun w => ?_)⟩, (hT.fr h0 fA (fun z w => w.elim)).fr h0 f3 (fun z w => by have := hkd z w; omega), e', cap', _, hA2, by rw [hln, hl], fun p p0 p1 => ?_, fun i j i0 ij jk => ?_⟩
  · have h1 := hkd _ w
    have h2 := (hSb.fr fA id id).1.2.2.1
    omega
  · have h1 := hkd _ w
    have h2 := (hSb.fr fA id id).2.1.2.2.1
    omega
  · by_cases q : p = k
    · rw [q, hgk]
      exact hX2 _ _ _ _ hN1
    · rw [hgt p p0 (by omega)]
      exact hX2 _ _ _ _ (hSc1 p p0 (by omega))
  · by_cases q : j = k
    · rw [q, hgk, hgt i i0 (by omega)]
      obtain ⟨o9, e9, c9, i9, k9, q1, -⟩ := hSc i i0 (by omega)
      have := q1.1.2.1
      omega
    · rw [hgt j (by omega) (by omega), hgt i i0 (by omega)]
      exact hd i j i0 ij (by omega)
end PLS
