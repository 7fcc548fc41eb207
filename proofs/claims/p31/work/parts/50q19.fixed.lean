/-! what the law stands on: its fixed objects, its numbers out of the script, frames of all it makes -/
def cel (sc : Int → Int) (n k : Int) : Int := if n ≤ k then 0 else sc k
def bnd (v n : Int) : Int := (bAnd v 2147483647).tmod n
def dgt (v x y : Int) : Int := bnd (w32 (w32 (bShr v ((w32 (x + w32 (3 * y))).tmod 17) + w32 (7 * x)) + w32 (5 * y))) 10
def Fx (sc : Int → Int) (n : Int) (μ : Mem) : Prop := Em μ ∧ Dg μ ∧ (μ (-21) (-1) = 21 ∧ μ (-21) (-2) = n ∧ ∀ k, 0 ≤ k → k < n → μ (-21) k = sc k) ∧ (∀ i : Nat, i < 9 → Str μ (-(2 + 2 * (i : Int))) (-(3 + 2 * (i : Int))) (fBytes i)) ∧ μ 0 3 < -21
section FIX
variable {μ ν ξ : Mem} {c q s a b sh x y z k n v w h t e cap dx dy : Int} {l m ids : List Int} {P X : Int → Prop} {sc : Int → Int} {f : Int → Int → Int}
theorem Str.ng (hx : Str μ x y l) (f : NgF μ ν) : Str ν x y l := by
  obtain ⟨⟨a1, a2, a3, a4, a5⟩, ⟨b1, b2, b3, b4⟩, d, e⟩ := hx
  have r : ∀ z k, z < 0 → ν z k = μ z k := f.1
  have g := f.2
  exact ⟨⟨by omega, a2, by rw [r _ _ a2]; exact a3, by rw [r _ _ a2]; exact a4, by rw [r _ _ a2]; exact a5⟩, ⟨by omega, b2, by rw [r _ _ b2]; exact b3, by rw [r _ _ b2]; exact b4⟩, d, fun k k0 k1 => by rw [r _ _ b2]; exact e k k0 k1⟩
theorem Sb.ng (hs : Sb μ b v cap l) (f : NgF μ ν) : Sb ν b v cap l := by
  obtain ⟨⟨a0, a1, a2, a3, a4, a5⟩, ⟨b0, b1, b2, b3⟩, d, d2, e⟩ := hs
  have r : ∀ z k, z < 0 → ν z k = μ z k := f.1
  have g := f.2
  have hb : b < 0 := by omega
  have hv : v < 0 := by omega
  exact ⟨⟨a0, by omega, by rw [r _ _ hb]; exact a2, by rw [r _ _ hb]; exact a3, by rw [r _ _ hb]; exact a4, by rw [r _ _ hb]; exact a5⟩, ⟨b0, by omega, by rw [r _ _ hv]; exact b2, by rw [r _ _ hv]; exact b3⟩, d, fun k k0 k1 => by rw [r _ _ hv]; exact d2 k k0 k1, fun k k0 k1 => by rw [r _ _ hv]; exact e k k0 k1⟩
theorem Em.ng (he : Em μ) (f : NgF μ ν) : Em ν := ⟨by rw [f.1 _ _ (by omega)]; exact he.1, by rw [f.1 _ _ (by omega)]; exact he.2⟩
theorem Fx.fn (hF : Fx sc n μ) (f : FN c q P μ ν) (hP : ∀ z, P z → z < -21) : Fx sc n ν := by
  obtain ⟨e1, d1, ⟨s1, s2, s3⟩, t, h3⟩ := hF
  have r : ∀ z k, z < 0 → -22 < z → ν z k = μ z k := fun z k h1 h2 => f.1 z k h1 (by omega) (fun w => by have := hP z w.2; omega)
  have g := f.2.1
  refine ⟨⟨by rw [r _ _ (by omega) (by omega)]; exact e1.1, by rw [r _ _ (by omega) (by omega)]; exact e1.2⟩, ⟨by rw [r _ _ (by omega) (by omega)]; exact d1.1, by rw [r _ _ (by omega) (by omega)]; exact d1.2.1, fun j j0 j1 => by rw [r _ _ (by omega) (by omega)]; exact d1.2.2 j j0 j1⟩, ⟨by rw [r _ _ (by omega) (by omega)]; exact s1, by rw [r _ _ (by omega) (by omega)]; exact s2, fun k k0 k1 => by rw [r _ _ (by omega) (by omega)]; exact s3 k k0 k1⟩, fun i hi => ?_, by omega⟩
  have ht := t i hi
  obtain ⟨f1, f2⟩ := f.h
  exact (ht.fr f1 (fun w => by have := hP _ w; omega) (fun w => by have := hP _ w; omega)).ng f2
theorem Fx.fl (hF : Fx sc n μ) (f : FrL c q P μ ν) (hP : ∀ z, P z → z < -21) : Fx sc n ν := hF.fn f.fn hP
theorem Fx.nf (hF : Fx sc n μ) (f : NgF μ ν) : Fx sc n ν := hF.fn (c := ν 0 1 - μ 0 1) (q := ν 0 2 - μ 0 2) (P := NoP) ⟨fun z k hz _ _ => f.1 z k hz, by rw [f.2]; exact Int.le_refl _, by omega, by omega⟩ (fun z w => w.elim)
theorem Al.fn (hA : Al μ a e cap l) (f : FN c q P μ ν) (h1 : ¬ P a) (h2 : ¬ P e) : Al ν a e cap l := (hA.fr f.h.1 h1 h2).ng f.h.2
theorem Scn.fn (hS : Scn μ X s a b sh dx dy) (f : FN c q P μ ν) (hP : ∀ z, P z → X z ∨ (μ z (-1) ≠ 9 ∧ μ z (-1) ≠ 12 ∧ μ z (-1) ≠ 22)) (hP8 : ∀ z, P z → μ z (-1) ≠ 8) : Scn ν X s a b sh dx dy := (hS.fr f.h.1 hP hP8).ng f.h.2
theorem Sb.fn (hs : Sb μ b v cap l) (f : FN c q P μ ν) (h1 : ¬ P b) (h2 : ¬ P v) : Sb ν b v cap l := (hs.fr f.h.1 h1 h2).ng f.h.2
theorem Tns.fr (hT : Tns μ t w h f) (h0 : 0 ≤ h) (g : FrL c q P μ ν) (hP : ∀ z, P z → μ z (-1) ≠ 21 ∧ μ z (-1) ≠ 27) : Tns ν t w h f := by
  obtain ⟨⟨a0, a1, a2, a3⟩, b⟩ := hT
  have g3 := g.2.2.1
  have r : ∀ k, ν t k = μ t k := fun k => g.1 t k (by omega) (by omega) (fun w => (hP t w.2).2 a2)
  refine ⟨⟨a0, by omega, by rw [r]; exact a2, by rw [r]; exact a3⟩, fun y y0 y1 => ?_⟩
  obtain ⟨⟨b1, b2, b3⟩, b4⟩ := b y y0 y1
  have r2 : ∀ k, ν (t - 1 - y) k = μ (t - 1 - y) k := fun k => g.1 (t - 1 - y) k (by omega) (by omega) (fun w => (hP _ w.2).1 b2)
  exact ⟨⟨by rw [r]; exact b1, by rw [r2]; exact b2, by rw [r2]; exact b3⟩, fun x x0 x1 => by rw [r2]; exact b4 x x0 x1⟩
theorem Tns.fn (hT : Tns μ t w h f) (h0 : 0 ≤ h) (g : FN c q P μ ν) (hP : ∀ z, P z → μ z (-1) ≠ 21 ∧ μ z (-1) ≠ 27) : Tns ν t w h f := (hT.fr h0 g.h.1 hP).ng g.h.2
theorem Tns.ext {f' : Int → Int → Int} (hT : Tns μ t w h f) (e : ∀ x y, 0 ≤ x → x < w → 0 ≤ y → y < h → f x y = f' x y) : Tns μ t w h f' := ⟨hT.1, fun y y0 y1 => ⟨(hT.2 y y0 y1).1, fun x x0 x1 => by rw [← e x y x0 x1 y0 y1]; exact (hT.2 y y0 y1).2 x x0 x1⟩⟩
/-- one tone is written -/
theorem Tns.put (hT : Tns μ t w h f) {z : Int} (x0 : 0 ≤ x) (x1 : x < w) (y0 : 0 ≤ y) (y1 : y < h) : (∀ K : Mem → Rz, (AL 7 t y μ fun a => AS 1 a x z μ K) = K (mUp μ (t - 1 - y) x z)) ∧ Tns (mUp μ (t - 1 - y) x z) t w h (fun x' y' => if x' = x ∧ y' = y then z else f x' y') ∧ FrL 0 0 (fun w => w = t - 1 - y) μ (mUp μ (t - 1 - y) x z) ∧ μ (t - 1 - y) (-1) = 21 := by
  obtain ⟨⟨a0, a1, a2, a3⟩, b⟩ := id hT
  obtain ⟨⟨b1, b2, b3⟩, b4⟩ := b y y0 y1
  refine ⟨fun K => ?_, ⟨⟨a0, by rw [mUp_ne _ _ (by omega)]; exact a1, by rw [mUp_ne _ _ (by omega)]; exact a2, by rw [mUp_ne _ _ (by omega)]; exact a3⟩, fun y' y'0 y'1 => ?_⟩, FrL.up (by omega) x0 rfl, b2⟩
  · rw [AL_go a2 a3 y0 y1 b1, AS_l (n := w) (by omega) b2 b3 x0 x1]
  · obtain ⟨⟨d1, d2, d3⟩, d4⟩ := b y' y'0 y'1
    refine ⟨⟨by rw [mUp_ne _ _ (by omega)]; exact d1, by rw [mUp_ne _ _ (by omega)]; exact d2, by rw [mUp_ne _ _ (by omega)]; exact d3⟩, fun x' x'0 x'1 => ?_⟩
    show mUp μ (t - 1 - y) x z (t - 1 - y') x' = if x' = x ∧ y' = y then z else f x' y'
    by_cases e : x' = x ∧ y' = y
    · rw [if_pos e, e.1, e.2, mUp_same]
    · rw [if_neg e, mUp_ne _ _ (by omega)]
      exact d4 x' x'0 x'1
/-- new int[h][w] -/
theorem NMn_go (h3 : μ 0 3 < -21) (hh : 1 ≤ h ∧ h ≤ 100) (hw : 1 ≤ w ∧ w ≤ 100) : ∃ ν, (∀ K, NMn h w μ K = K (μ 0 3) ν) ∧ Tns ν (μ 0 3) w h (fun _ _ => 0) ∧ FrL (1 + h) (h + h * w) NoP μ ν := by
  have e3 : mMulN μ h w 0 3 = μ 0 3 - 1 - h := by
    unfold mMulN
    rw [if_neg (by omega), if_neg (by omega), if_pos (by omega)]
  refine ⟨mMulN μ h w, fun K => if_pos ⟨h3, hh, hw⟩, ⟨⟨h3, by omega, ?_, ?_⟩, fun y y0 y1 => ⟨⟨?_, ?_, ?_⟩, fun x x0 x1 => ?_⟩⟩, ⟨fun z k h0 h1 _ => ?_, ?_, by omega, ?_, ?_⟩⟩
  · unfold mMulN
    rw [if_pos rfl, if_pos rfl]
  · unfold mMulN
    rw [if_pos rfl, if_neg (by omega), if_pos rfl]
  · unfold mMulN
    rw [if_pos rfl, if_neg (by omega), if_neg (by omega), if_pos (by omega)]
  · unfold mMulN
    rw [if_neg (by omega), if_pos (by omega), if_pos rfl]
  · unfold mMulN
    rw [if_neg (by omega), if_pos (by omega), if_neg (by omega), if_pos rfl]
  · unfold mMulN
    rw [if_neg (by omega), if_pos (by omega), if_neg (by omega), if_neg (by omega)]
  · unfold mMulN
    rw [if_neg (by omega), if_neg (by omega), if_neg (by omega), if_neg (by omega), if_neg (by omega)]
  · unfold mMulN
    rw [if_neg (by omega), if_neg (by omega), if_neg (by omega), if_neg (by omega), if_neg (by omega)]
  · unfold mMulN
    rw [if_neg (by omega), if_neg (by omega), if_neg (by omega), if_pos (by omega)]
    omega
  · unfold mMulN
    rw [if_neg (by omega), if_neg (by omega), if_neg (by omega), if_neg (by omega), if_pos (by omega)]
    omega
theorem cell_law (hF : Fx sc n μ) (k0 : 0 ≤ k) : FL_cell (-21) k μ = RT (cel sc n k) μ := by
  obtain ⟨-, -, ⟨s1, s2, s3⟩, -⟩ := hF
  unfold FL_cell BL_cell_0 BL_cell_13 cel
  rw [LN_of s1 s2]
  by_cases e : n ≤ k
  · rw [if_pos e, if_pos e]
  · rw [if_neg e, if_neg e, AL_go s1 s2 k0 (by omega) (s3 k k0 (by omega))]
theorem bAnd_31 (v : Int) : 0 ≤ bAnd v 2147483647 := by
  show 0 ≤ ((Int32.ofInt v).toBitVec &&& (Int32.ofInt 2147483647).toBitVec).toInt
  have h1 : ((Int32.ofInt v).toBitVec &&& (Int32.ofInt 2147483647).toBitVec).toNat = ((v % 4294967296).toNat) % 2147483648 := by
    rw [BitVec.toNat_and, bv_nat_of, bv_nat_of, show ((2147483647 : Int) % 4294967296).toNat = 2 ^ 31 - 1 from rfl, Nat.and_two_pow_sub_one_eq_mod]
  rw [bv_int h1 (Nat.mod_lt _ (by decide))]
  omega
theorem bnd_le {m : Int} (hm : 0 < m) : 0 ≤ bnd v m ∧ bnd v m < m := by
  unfold bnd
  rw [tmod_small (bAnd_31 v)]
  exact ⟨Int.emod_nonneg _ (by omega), Int.emod_lt_of_pos _ hm⟩
theorem bound_rt {m : Int} (hm : 0 < m) : FL_bound v m μ = RT (bnd v m) μ := by
  unfold FL_bound BL_bound_0
  rw [RM_of (by omega)]
  rfl
theorem dgt_le : 0 ≤ dgt v x y ∧ dgt v x y ≤ 9 := by
  have := bnd_le (v := w32 (w32 (bShr v ((w32 (x + w32 (3 * y))).tmod 17) + w32 (7 * x)) + w32 (5 * y))) (m := 10) (by omega)
  unfold dgt
  omega
theorem toneOf_rt : FL_toneOf v x y μ = RT (dgt v x y) μ := by
  unfold FL_toneOf BL_toneOf_0
  rw [RM_of (by omega), bound_rt (by omega)]
  rfl
theorem shapeOf_rt (hsh : 0 ≤ sh ∧ sh ≤ 3) : FL_shapeOf sh μ = RT (-(2 + 2 * sh)) μ := by
  have h4 : sh = 0 ∨ sh = 1 ∨ sh = 2 ∨ sh = 3 := by omega
  unfold FL_shapeOf BL_shapeOf_0 BL_shapeOf_31
  rcases h4 with e | e | e | e <;> subst e <;> rfl
/-- another text that says the same so far -/
theorem Hdr.ext {tx tx' : Int → Int} {lim : Int} (hd : Hdr tx w h lim) (e : ∀ k, 0 ≤ k → k < 25 → tx' k = tx k) : Hdr tx' w h lim := by
  obtain ⟨p0, p7, p8, p9, p10, p11, p12, p17, p18, p19, p20⟩ := hd
  exact ⟨fun j j0 j1 => by rw [e _ (by omega) (by omega)]; exact p0 j j0 j1, by rw [e _ (by omega) (by omega)]; exact p7, by rw [e _ (by omega) (by omega)]; exact p8, by rw [e _ (by omega) (by omega)]; exact p9, by rw [e _ (by omega) (by omega)]; exact p10, by rw [e _ (by omega) (by omega)]; exact p11, fun j j0 j1 => by rw [e _ (by omega) (by omega)]; exact p12 j j0 j1, by rw [e _ (by omega) (by omega)]; exact p17, by rw [e _ (by omega) (by omega)]; exact p18, by rw [e _ (by omega) (by omega)]; exact p19, fun j j0 j1 => by rw [e _ (by omega) (by omega)]; exact p20 j j0 j1⟩
theorem Rws.ext {tx tx' : Int → Int} {dig : Int → Int → Int} (hr : Rws tx w n dig) (w0 : 0 ≤ w) (e : ∀ k, 0 ≤ k → k < 25 + n * (w + 1) → tx' k = tx k) : Rws tx' w n dig := fun y y0 y1 => by
  have h1 : (y + 1) * (w + 1) ≤ n * (w + 1) := Int.mul_le_mul_of_nonneg_right (by omega) (by omega)
  have h2 : 0 ≤ y * (w + 1) := Int.mul_nonneg y0 (by omega)
  rw [Int.add_mul, Int.one_mul] at h1
  exact ⟨by rw [e _ (by omega) (by omega)]; exact (hr y y0 y1).1, fun x x0 x1 => by rw [e _ (by omega) (by omega)]; exact (hr y y0 y1).2 x x0 x1⟩
theorem Plf.ext {tx tx' : Int → Int} {p : Int} (hp : Plf tx p k a b sh) (p0 : 0 ≤ p) (hsh : 0 ≤ sh ∧ sh ≤ 3) (e : ∀ k, 0 ≤ k → k < p + 13 + strLen (9 + sh) → tx' k = tx k) : Plf tx' p k a b sh := by
  have hsl := strLen_le (w := 9 + sh) (by omega) (by omega)
  obtain ⟨q0, q5, q6, q7, q8, q9, q10, q11, q12, q13⟩ := hp
  exact ⟨fun j j0 j1 => by rw [e _ (by omega) (by omega)]; exact q0 j j0 j1, by rw [e _ (by omega) (by omega)]; exact q5, by rw [e _ (by omega) (by omega)]; exact q6, by rw [e _ (by omega) (by omega)]; exact q7, by rw [e _ (by omega) (by omega)]; exact q8, by rw [e _ (by omega) (by omega)]; exact q9, by rw [e _ (by omega) (by omega)]; exact q10, by rw [e _ (by omega) (by omega)]; exact q11, fun j j0 j1 => by rw [e _ (by omega) (by omega)]; exact q12 j j0 j1, by rw [e _ (by omega) (by omega)]; exact q13⟩
end FIX
