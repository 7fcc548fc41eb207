/-! loops that count, sums, and what the document says of a row of the picture's data, in whole numbers -/
/-- the state at each count is known: the loop ends as it does at its bound -/
theorem lp {σ : Type} (L : Nat → Int → σ → Rz) (S : Int → σ) (w : Int) (R : Rz) (hs : ∀ (n : Nat) (x : Int), 0 ≤ x → x < w → L (n + 1) x (S x) = L n (x + 1) (S (x + 1))) (he : ∀ n : Nat, L (n + 1) w (S w) = R) : ∀ (n : Nat) (x : Int), 0 ≤ x → x ≤ w → w - x < n → L n x (S x) = R
  | 0, x, _, h1, h2 => by omega
  | n + 1, x, h0, h1, h2 => by
    by_cases h : x = w
    · rw [h]; exact he n
    · rw [hs n x h0 (by omega)]
      exact lp L S w R hs he n (x + 1) (by omega) (by omega) (by omega)
/-- the same with a relation, from any start -/
theorem lpR {σ : Type} (L : Nat → Int → σ → Rz) (I : Int → σ → Prop) (w : Int) (Q : Rz → Prop) (hs : ∀ (n : Nat) (x : Int) (s : σ), x < w → I x s → ∃ s', I (x + 1) s' ∧ L (n + 1) x s = L n (x + 1) s') (he : ∀ (n : Nat) (s : σ), I w s → Q (L (n + 1) w s)) : ∀ (n : Nat) (x : Int) (s : σ), x ≤ w → w - x < n → I x s → Q (L n x s)
  | 0, x, s, h1, h2, _ => by omega
  | n + 1, x, s, h1, h2, hi => by
    by_cases h : x = w
    · subst h; exact he n s hi
    · obtain ⟨s', h3, h4⟩ := hs n x s (by omega) hi
      rw [h4]
      exact lpR L I w Q hs he n (x + 1) s' (by omega) (by omega) h3
def sm (f : Int → Int) : Nat → Int
  | 0 => 0
  | n + 1 => sm f n + f n
/-- the sum of f 0 .. f (n - 1) -/
def su (f : Int → Int) (n : Int) : Int := sm f n.toNat
theorem su_0 (f : Int → Int) : su f 0 = 0 := rfl
theorem su_s (f : Int → Int) {n : Int} (h : 0 ≤ n) : su f (n + 1) = su f n + f n := by
  unfold su
  rw [show (n + 1).toNat = n.toNat + 1 by omega, sm, Int.toNat_of_nonneg h]
theorem sm_ext {f g : Int → Int} : ∀ n : Nat, (∀ i : Int, 0 ≤ i → i < n → f i = g i) → sm f n = sm g n
  | 0, _ => rfl
  | n + 1, h => by
    rw [sm, sm, sm_ext n fun i h1 h2 => h i h1 (by omega), h n (by omega) (by omega)]
theorem su_ext {f g : Int → Int} {n : Int} (h : ∀ i : Int, 0 ≤ i → i < n → f i = g i) : su f n = su g n := sm_ext _ fun i h1 h2 => h i h1 (by omega)
theorem sm_le {f : Int → Int} {B : Int} : ∀ n : Nat, (∀ i : Int, 0 ≤ i → i < n → 0 ≤ f i ∧ f i ≤ B) → 0 ≤ sm f n ∧ sm f n ≤ n * B
  | 0, _ => by simp [sm]
  | n + 1, h => by
    have h1 := sm_le n fun i h1 h2 => h i h1 (by omega)
    have h2 := h n (by omega) (by omega)
    have h3 : ((n + 1 : Nat) : Int) * B = n * B + B := by rw [Int.natCast_succ, Int.add_mul, Int.one_mul]
    rw [sm, h3]
    omega
theorem su_le {f : Int → Int} {n B : Int} (hn : 0 ≤ n) (h : ∀ i : Int, 0 ≤ i → i < n → 0 ≤ f i ∧ f i ≤ B) : 0 ≤ su f n ∧ su f n ≤ n * B := by
  have h1 := sm_le (f := f) (B := B) n.toNat fun i h1 h2 => h i h1 (by omega)
  rw [Int.toNat_of_nonneg hn] at h1
  exact h1
theorem su_mono {f : Int → Int} {n m : Int} (hn : 0 ≤ n) (hm : n ≤ m) (h : ∀ i : Int, 0 ≤ i → i < m → 0 ≤ f i) : su f n ≤ su f m := by
  obtain ⟨d, hd⟩ : ∃ d : Nat, m = n + d := ⟨(m - n).toNat, by omega⟩
  subst hd
  clear hm
  induction d with
  | zero => simp
  | succ d ih =>
    have h1 := ih fun i h1 h2 => h i h1 (by omega)
    have h2 := h (n + d) (by omega) (by omega)
    rw [show n + ((d + 1 : Nat) : Int) = n + d + 1 by omega, su_s f (by omega)]
    omega
theorem sm_add {f g : Int → Int} : ∀ n : Nat, sm (fun i => f i + g i) n = sm f n + sm g n
  | 0 => by simp [sm]
  | n + 1 => by
    rw [sm, sm, sm, sm_add n]
    omega
theorem su_add {f g : Int → Int} {n : Int} : su (fun i => f i + g i) n = su f n + su g n := sm_add _
theorem sm_zero : ∀ n : Nat, sm (fun _ => 0) n = 0
  | 0 => rfl
  | n + 1 => by rw [sm, sm_zero n]; rfl
theorem sm_swap {f : Int → Int → Int} (m : Nat) : ∀ n : Nat, sm (fun y => sm (fun x => f x y) m) n = sm (fun x => sm (fun y => f x y) n) m
  | 0 => by
    show 0 = sm (fun _ => 0) m
    rw [sm_zero]
  | n + 1 => by
    rw [sm, sm_swap m n, ← sm_add]
    rfl
theorem su_swap {f : Int → Int → Int} {m n : Int} : su (fun y => su (fun x => f x y) m) n = su (fun x => su (fun y => f x y) n) m := sm_swap _ _
theorem su_split (f : Int → Int) {a : Int} (ha : 0 ≤ a) : ∀ b : Nat, su f (a + b) = su f a + su (fun i => f (a + i)) b
  | 0 => by simp [su_0]
  | b + 1 => by
    rw [show a + ((b + 1 : Nat) : Int) = a + b + 1 by omega, su_s f (by omega), su_split f ha b, show ((b + 1 : Nat) : Int) = (b : Int) + 1 by omega, su_s _ (by omega)]
    omega
/-- a sum row by row -/
def su2 (f : Int → Int → Int) (w h : Int) : Int := su (fun y => su (fun x => f x y) w) h
theorem su2_rows (f : Int → Int) {w : Int} (hw : 0 ≤ w) : ∀ h : Nat, su f (h * w) = su2 (fun x y => f (y * w + x)) w h
  | 0 => by simp [su2, su_0]
  | h + 1 => by
    unfold su2
    rw [show ((h + 1 : Nat) : Int) = (h : Int) + 1 by omega, su_s _ (by omega), Int.add_mul, Int.one_mul]
    have hn : (0 : Int) ≤ h * w := Int.mul_nonneg (by omega) hw
    have h1 := su_split f hn w.toNat
    rw [Int.toNat_of_nonneg hw] at h1
    rw [h1, su2_rows f hw h]
    rfl
theorem su2_ext {f g : Int → Int → Int} {w h : Int} (e : ∀ x y, 0 ≤ x → x < w → 0 ≤ y → y < h → f x y = g x y) : su2 f w h = su2 g w h := su_ext fun y h1 h2 => su_ext fun x h3 h4 => e x y h3 h4 h1 h2
theorem su2_le {f : Int → Int → Int} {w h B : Int} (hw : 0 ≤ w) (hh : 0 ≤ h) (e : ∀ x y, 0 ≤ x → x < w → 0 ≤ y → y < h → 0 ≤ f x y ∧ f x y ≤ B) : 0 ≤ su2 f w h ∧ su2 f w h ≤ h * (w * B) := su_le hh fun y h1 h2 => su_le hw fun x h3 h4 => e x y h3 h4 h1 h2
/-! a place of the picture in one row -/
theorem mul_le_of {a b c d : Int} (h0 : 0 ≤ a) (h1 : a ≤ c) (h2 : 0 ≤ b) (h3 : b ≤ d) : 0 ≤ a * b ∧ a * b ≤ c * d := ⟨Int.mul_nonneg h0 h2, Int.mul_le_mul h1 h3 h2 (by omega)⟩
theorem cell_lt {w h x y : Int} (hw : w ≤ 16) (hh : h ≤ 12) (x0 : 0 ≤ x) (x1 : x < w) (y0 : 0 ≤ y) (y1 : y < h) : 0 ≤ y * w ∧ y * w ≤ 176 ∧ 0 ≤ y * w + x ∧ y * w + x < h * w ∧ h * w ≤ 192 := by
  have h1 := mul_le_of y0 (show y ≤ 11 by omega) (show 0 ≤ w by omega) hw
  have h2 := mul_le_of (show 0 ≤ h by omega) hh (show 0 ≤ w by omega) hw
  have h3 : (y + 1) * w ≤ h * w := Int.mul_le_mul_of_nonneg_right (by omega) (by omega)
  rw [Int.add_mul, Int.one_mul] at h3
  omega
theorem cell_inj {w x y x' y' : Int} (x0 : 0 ≤ x) (x1 : x < w) (x0' : 0 ≤ x') (x1' : x' < w) (h : y * w + x = y' * w + x') : x = x' ∧ y = y' := by
  have hy : y = y' := by
    have h1 : (y * w + x) / w = y := by rw [Int.add_comm, Int.add_mul_ediv_right _ _ (by omega), Int.ediv_eq_zero_of_lt x0 x1]; omega
    have h2 : (y' * w + x') / w = y' := by rw [Int.add_comm, Int.add_mul_ediv_right _ _ (by omega), Int.ediv_eq_zero_of_lt x0' x1']; omega
    rw [← h1, ← h2, h]
  subst hy
  exact ⟨by omega, rfl⟩
/-- every place of a row of h * w is one of the cells -/
theorem cell_of {w h i : Int} (hw : 0 < w) (h0 : 0 ≤ i) (h1 : i < h * w) : ∃ x y, 0 ≤ x ∧ x < w ∧ 0 ≤ y ∧ y < h ∧ i = y * w + x := by
  refine ⟨i % w, i / w, Int.emod_nonneg _ (by omega), Int.emod_lt_of_pos _ hw, Int.ediv_nonneg h0 (by omega), Int.ediv_lt_of_lt_mul hw h1, ?_⟩
  rw [Int.mul_comm]
  exact (Int.mul_ediv_add_emod i w).symm
/-! the row -/
abbrev Row : Type := Int → Int
def rO (r : Row) (p k : Int) : Int := r (196 + 1226 * p + k)
def rT (r : Row) (x y : Int) : Int := r (4 + 16 * y + x)
def rQ (r : Row) (p : Int) : Int := rO r p 7 * rO r p 7 + rO r p 8 * rO r p 8
def ab (z : Int) : Int := if z < 0 then -z else z
def mx (a b : Int) : Int := if a < b then b else a
def cl (lo hi z : Int) : Int := if z < lo then lo else if hi < z then hi else z
def mShape (sh s t : Int) : Int := if sh = 0 then s * s + t * t else if sh = 1 then s else if sh = 2 then s + t else mx s t
/-- the measure of a place of the screen a, b -/
def mAt (sh a b x y : Int) : Int := mShape sh (ab (2 * ((a * x + b * y) % (a * a + b * b)) - (a * a + b * b))) (ab (2 * ((a * y - b * x) % (a * a + b * b)) - (a * a + b * b)))
def mK (sh a b k : Int) : Int := mAt sh a b (k % (a * a + b * b)) (k / (a * a + b * b))
/-- the rank of a place: how many are ahead of it -/
def rk (sh a b k : Int) : Int := su (fun j => if mK sh a b j < mK sh a b k ∨ (mK sh a b j = mK sh a b k ∧ j < k) then 1 else 0) ((a * a + b * b) * (a * a + b * b))
def rkAt (r : Row) (p x y : Int) : Int := rk (rO r p 9) (rO r p 7) (rO r p 8) (rQ r p * ((y + rO r p 11) % rQ r p) + (x + rO r p 10) % rQ r p)
def cOp (r : Row) (p k : Int) : Int := rO r p (26 + 2 * k)
def cV (r : Row) (p k : Int) : Int := rO r p (26 + 2 * k + 1)
def opv (op a b : Int) : Int := cl (-1000000) 1000000 (if op = 2 then a + b else if op = 3 then a - b else if op = 4 then a * b else if b = 0 then 0 else a.tdiv b)
def val (op v tn x y p : Int) : Int := if op = 0 then v else if v = 0 then tn else if v = 1 then x else if v = 2 then y else p
/-- how many results are open behind k codes, and their values -/
def sd (r : Row) (p : Int) : Nat → Int
  | 0 => 0
  | k + 1 => if cOp r p k ≤ 1 then sd r p k + 1 else sd r p k - 1
def sv (r : Row) (p x y : Int) : Nat → Int → Int
  | 0, _ => 0
  | k + 1, i => if cOp r p k ≤ 1 then (if i = sd r p k then val (cOp r p k) (cV r p k) (rT r x y) x y p else sv r p x y k i) else if i = sd r p k - 2 then opv (cOp r p k) (sv r p x y k (sd r p k - 2)) (sv r p x y k (sd r p k - 1)) else sv r p x y k i
def tnOn (r : Row) (p x y : Int) : Int := if rO r p 13 = 0 then rT r x y else cl 0 100 (sv r p x y (rO r p 13).toNat 0)
abbrev dark (r : Row) (p x y : Int) : Prop := rkAt r p x y * 100 < tnOn r p x y * rQ r p * rQ r p
/-- one bit of a number -/
def bt (v i : Int) : Int := bAnd (bShr v i) 1
def bc (v : Int) : Int := su (fun i => bt v i) 16
abbrev wiped (r : Row) (p x y : Int) : Prop := bt (rO r p (14 + y)) x = 1
/-- the set of the plates below p whose dots the cell has -/
def ik (r : Row) (x y : Int) : Nat → Int
  | 0 => 0
  | p + 1 => if dark r p x y ∧ ¬ wiped r p x y ∧ bc (ik r x y p) < r 3 then bOr (ik r x y p) (bShl 1 p) else ik r x y p
def ikA (r : Row) (x y : Int) : Int := ik r x y (r 2).toNat
abbrev dotAt (r : Row) (p x y : Int) : Prop := (0 ≤ x ∧ x < r 0 ∧ 0 ≤ y ∧ y < r 1) ∧ bt (ikA r x y) p = 1
abbrev spotAt (r : Row) (p x y : Int) : Prop := dotAt r p x y ∧ ¬ dotAt r p (x - 1) y ∧ ¬ dotAt r p (x + 1) y ∧ ¬ dotAt r p x (y - 1) ∧ ¬ dotAt r p x (y + 1)
def b2 (q : Prop) [Decidable q] : Int := if q then 1 else 0
def dotsOf (r : Row) (p : Int) : Int := su2 (fun x y => b2 (dotAt r p x y)) (r 0) (r 1)
def spotsO (r : Row) (p : Int) : Int := su2 (fun x y => b2 (spotAt r p x y)) (r 0) (r 1)
def dotsAll (r : Row) : Int := su (fun p => dotsOf r p) (r 2)
def having (r : Row) (n : Int) : Int := su2 (fun x y => b2 (bc (ikA r x y) = n)) (r 0) (r 1)
def tonesAll (r : Row) : Int := su2 (fun x y => rT r x y) (r 0) (r 1)
def wipedOf (r : Row) (p : Int) : Int := su (fun y => bc (rO r p (14 + y))) (r 1)
def wipedAll (r : Row) : Int := su (fun p => wipedOf r p) (r 2)
def sumOn (r : Row) (p : Int) : Int := su2 (fun x y => tnOn r p x y) (r 0) (r 1)
def blks (r : Row) (p : Int) : Int := r 0 / rQ r p * (r 1 / rQ r p)
def offO (r : Row) (p left top : Int) : Int := su2 (fun i j => 100 * b2 (dotAt r p (left + i) (top + j)) - tnOn r p (left + i) (top + j)) (rQ r p) (rQ r p)
/-- what the codes of a plate keep to -/
def okCodes (r : Row) (p : Int) : Prop := 0 ≤ rO r p 13 ∧ rO r p 13 ≤ 600 ∧ (∀ k : Nat, (k : Int) < rO r p 13 → (0 ≤ cOp r p k ∧ cOp r p k ≤ 5) ∧ (cOp r p k = 0 → 0 ≤ cV r p k ∧ cV r p k ≤ 9999) ∧ (cOp r p k = 1 → 0 ≤ cV r p k ∧ cV r p k ≤ 3) ∧ (2 ≤ cOp r p k → 2 ≤ sd r p k) ∧ 0 ≤ sd r p k ∧ sd r p (k + 1) ≤ 11) ∧ (0 < rO r p 13 → 1 ≤ sd r p (rO r p 13).toNat)
def okPlate (r : Row) (p : Int) : Prop := (0 ≤ rO r p 7 ∧ rO r p 7 ≤ 3 ∧ 0 ≤ rO r p 8 ∧ rO r p 8 ≤ 3 ∧ 0 < rO r p 7 + rO r p 8) ∧ (0 ≤ rO r p 9 ∧ rO r p 9 ≤ 3) ∧ (0 ≤ rO r p 10 ∧ rO r p 10 ≤ 17 ∧ 0 ≤ rO r p 11 ∧ rO r p 11 ≤ 17) ∧ (0 ≤ rO r p 12 ∧ rO r p 12 ≤ 99999) ∧ (∀ y, 0 ≤ y → y < r 1 → (0 ≤ rO r p (14 + y) ∧ rO r p (14 + y) < 65536) ∧ ∀ x, r 0 ≤ x → x < 16 → bt (rO r p (14 + y)) x = 0) ∧ okCodes r p ∧ (1 ≤ rO r p 0 ∧ rO r p 0 ≤ 6 ∧ ∀ j, 0 ≤ j → j < rO r p 0 → 97 ≤ rO r p (1 + j) ∧ rO r p (1 + j) ≤ 122)
/-- what a row of data keeps to -/
def okRow (r : Row) : Prop := (1 ≤ r 0 ∧ r 0 ≤ 16 ∧ 1 ≤ r 1 ∧ r 1 ≤ 12) ∧ (0 ≤ r 2 ∧ r 2 ≤ 4) ∧ (1 ≤ r 3 ∧ r 3 ≤ 4) ∧ (∀ x y, 0 ≤ x → x < r 0 → 0 ≤ y → y < r 1 → 0 ≤ rT r x y ∧ rT r x y ≤ 100) ∧ ∀ p, 0 ≤ p → p < r 2 → okPlate r p
theorem b2_0 {q : Prop} [Decidable q] : 0 ≤ b2 q ∧ b2 q ≤ 1 := by
  unfold b2
  split <;> omega
theorem b2_t {q : Prop} [Decidable q] (h : q) : b2 q = 1 := if_pos h
theorem b2_f {q : Prop} [Decidable q] (h : ¬ q) : b2 q = 0 := if_neg h
/-! a loop in a loop -/
theorem dblR {K σ : Type} (lo : Nat → K) (ap : K → σ → Int → Rz) (Li : K → Nat → σ → Int → Int → Rz) (w h : Int) (I : Int → Int → σ → Prop) (Q : Rz → Prop) (hw : 0 ≤ w) (hw2 : w < 5200)
    (ho : ∀ (n : Nat) (s : σ) (y : Int), 0 ≤ y → y < h → I 0 y s → ap (lo (n + 1)) s y = Li (lo n) FU s y 0)
    (hoe : ∀ (n : Nat) (s : σ), I 0 h s → Q (ap (lo (n + 1)) s h))
    (hi : ∀ (k : K) (n : Nat) (s : σ) (y x : Int), 0 ≤ y → y < h → 0 ≤ x → x < w → I x y s → ∃ s', I (x + 1) y s' ∧ Li k (n + 1) s y x = Li k n s' y (x + 1))
    (hie : ∀ (k : K) (n : Nat) (s : σ) (y : Int), 0 ≤ y → y < h → I w y s → I 0 (y + 1) s ∧ Li k (n + 1) s y w = ap k s (y + 1)) :
    ∀ (n : Nat) (y : Int) (s : σ), 0 ≤ y → y ≤ h → h - y < n → I 0 y s → Q (ap (lo n) s y)
  | 0, y, s, _, h1, h2, _ => by omega
  | n + 1, y, s, h0, h1, h2, hs => by
    by_cases e : y = h
    · subst e; exact hoe n s hs
    · rw [ho n s y h0 (by omega) hs]
      have hin : ∀ (m : Nat) (x : Int) (s : σ), 0 ≤ x → x ≤ w → w - x < m → I x y s → Q (Li (lo n) m s y x) := by
        intro m
        induction m with
        | zero => intro x s _ h1 h2 _; omega
        | succ m ih =>
          intro x s x0 x1 x2 hx
          by_cases e2 : x = w
          · subst e2
            obtain ⟨g1, g2⟩ := hie (lo n) m s y h0 (by omega) hx
            rw [g2]
            exact dblR lo ap Li x h I Q hw hw2 ho hoe hi hie n (y + 1) s (by omega) (by omega) (by omega) g1
          · obtain ⟨s', g1, g2⟩ := hi (lo n) m s y x h0 (by omega) x0 (by omega) hx
            rw [g2]
            exact ih (x + 1) s' (by omega) (by omega) (by omega) g1
      exact hin FU 0 s (Int.le_refl _) hw (by rw [show ((FU : Nat) : Int) = 20000 from rfl]; omega) hs
/-- the same, where a sum is counted up -/
theorem dblS {K : Type} (lo : Nat → K) (ap : K → Int → Int → Rz) (Li : K → Nat → Int → Int → Int → Rz) (w h B : Int) (g : Int → Int → Int) (R : Int → Rz) (hw : 0 ≤ w) (hw2 : w ≤ 16) (hh : 0 ≤ h) (hh2 : h ≤ 12) (hB : 0 ≤ B)
    (hg : ∀ x y, 0 ≤ x → x < w → 0 ≤ y → y < h → 0 ≤ g x y ∧ g x y ≤ B)
    (ho : ∀ (n : Nat) (s y : Int), 0 ≤ y → y < h → ap (lo (n + 1)) s y = Li (lo n) FU s y 0)
    (hoe : ∀ (n : Nat) (s : Int), ap (lo (n + 1)) s h = R s)
    (hi : ∀ (k : K) (n : Nat) (s y x : Int), 0 ≤ y → y < h → 0 ≤ x → x < w → 0 ≤ s → s ≤ 192 * B → 0 ≤ g x y → g x y ≤ B → Li k (n + 1) s y x = Li k n (s + g x y) y (x + 1))
    (hie : ∀ (k : K) (n : Nat) (s y : Int), 0 ≤ y → y < h → Li k (n + 1) s y w = ap k s (y + 1)) :
    ∀ n : Nat, h < n → ap (lo n) 0 0 = R (su2 g w h) := by
  intro n hn
  refine dblR lo ap Li w h (fun x y s => s = su2 g w y + su (fun x => g x y) x) (fun r => r = R (su2 g w h)) hw (by omega) (fun n s y h0 h1 _ => ho n s y h0 h1) (fun n s hs => ?_) (fun k n s y x y0 y1 x0 x1 hs => ⟨s + g x y, ?_, ?_⟩) (fun k n s y y0 y1 hs => ⟨?_, hie k n s y y0 y1⟩) n 0 0 (Int.le_refl _) hh (by omega) rfl
  · rw [hoe, hs, su_0, Int.add_zero]
  · rw [su_s _ x0, hs]
    omega
  · have h1 := su2_le (f := g) (w := w) (h := y) (B := B) hw y0 fun x' y' a1 a2 a3 a4 => hg x' y' a1 a2 a3 (by omega)
    have h2 := su_le (f := fun x => g x y) (n := x) (B := B) x0 fun x' a1 a2 => hg x' y a1 (by omega) y0 y1
    have h3 : 0 ≤ w * B ∧ w * B ≤ 16 * B := ⟨Int.mul_nonneg hw hB, Int.mul_le_mul_of_nonneg_right hw2 hB⟩
    have h4 : y * (w * B) ≤ 11 * (w * B) := Int.mul_le_mul_of_nonneg_right (by omega) h3.1
    have h5 : x * B ≤ 16 * B := Int.mul_le_mul_of_nonneg_right (by omega) hB
    exact hi k n s y x y0 y1 x0 x1 (by omega) (by omega) (hg x y x0 x1 y0 y1).1 (hg x y x0 x1 y0 y1).2
  · rw [hs, su_0, Int.add_zero]
    unfold su2
    rw [su_s _ y0]
/-- one loop that counts a sum up -/
theorem sglS (L : Nat → Int → Int → Rz) (w B : Int) (g : Int → Int) (R : Int → Rz) (hw : 0 ≤ w) (hw2 : w ≤ 600) (hB : 0 ≤ B)
    (hg : ∀ x, 0 ≤ x → x < w → 0 ≤ g x ∧ g x ≤ B)
    (hi : ∀ (n : Nat) (s x : Int), 0 ≤ x → x < w → 0 ≤ s → s ≤ 600 * B → 0 ≤ g x → g x ≤ B → L (n + 1) s x = L n (s + g x) (x + 1))
    (hie : ∀ (n : Nat) (s : Int), L (n + 1) s w = R s) : ∀ n : Nat, w < n → L n 0 0 = R (su g w) := by
  intro n hn
  have h := lp (fun n x s => L n s x) (fun x => su g x) w (R (su g w)) (fun n x x0 x1 => ?_) (fun n => hie n _) n 0 (Int.le_refl _) hw (by omega)
  · exact h
  · have h1 := su_le (f := g) (n := x) (B := B) x0 fun i a1 a2 => hg i a1 (by omega)
    have h2 : x * B ≤ 600 * B := Int.mul_le_mul_of_nonneg_right (by omega) hB
    show L (n + 1) (su g x) x = L n (su g (x + 1)) (x + 1)
    rw [su_s _ x0]
    exact hi n _ x x0 x1 h1.1 (by omega) (hg x x0 x1).1 (hg x x0 x1).2
theorem sm_abs {f : Int → Int} {B : Int} : ∀ n : Nat, (∀ i : Int, 0 ≤ i → i < n → -B ≤ f i ∧ f i ≤ B) → -(n * B) ≤ sm f n ∧ sm f n ≤ n * B
  | 0, _ => by simp [sm]
  | n + 1, h => by
    have h1 := sm_abs n fun i h1 h2 => h i h1 (by omega)
    have h2 := h n (by omega) (by omega)
    have h3 : ((n + 1 : Nat) : Int) * B = n * B + B := by rw [Int.natCast_succ, Int.add_mul, Int.one_mul]
    rw [sm, h3]
    omega
theorem su_abs {f : Int → Int} {n B : Int} (hn : 0 ≤ n) (h : ∀ i : Int, 0 ≤ i → i < n → -B ≤ f i ∧ f i ≤ B) : -(n * B) ≤ su f n ∧ su f n ≤ n * B := by
  have h1 := sm_abs (f := f) (B := B) n.toNat fun i h1 h2 => h i h1 (by omega)
  rw [Int.toNat_of_nonneg hn] at h1
  exact h1
/-- a sum with a sign -/
theorem dblT {K : Type} (lo : Nat → K) (ap : K → Int → Int → Rz) (Li : K → Nat → Int → Int → Int → Rz) (w h B : Int) (g : Int → Int → Int) (R : Int → Rz) (hw : 0 ≤ w) (hw2 : w ≤ 20) (hh : 0 ≤ h) (hh2 : h ≤ 20) (hB : 0 ≤ B)
    (hg : ∀ x y, 0 ≤ x → x < w → 0 ≤ y → y < h → -B ≤ g x y ∧ g x y ≤ B)
    (ho : ∀ (n : Nat) (s y : Int), 0 ≤ y → y < h → ap (lo (n + 1)) s y = Li (lo n) FU s y 0)
    (hoe : ∀ (n : Nat) (s : Int), ap (lo (n + 1)) s h = R s)
    (hi : ∀ (k : K) (n : Nat) (s y x : Int), 0 ≤ y → y < h → 0 ≤ x → x < w → -(400 * B) ≤ s → s ≤ 400 * B → Li k (n + 1) s y x = Li k n (s + g x y) y (x + 1))
    (hie : ∀ (k : K) (n : Nat) (s y : Int), 0 ≤ y → y < h → Li k (n + 1) s y w = ap k s (y + 1)) :
    ∀ n : Nat, h < n → ap (lo n) 0 0 = R (su2 g w h) := by
  intro n hn
  refine dblR lo ap Li w h (fun x y s => s = su2 g w y + su (fun x => g x y) x) (fun r => r = R (su2 g w h)) hw (by omega) (fun n s y h0 h1 _ => ho n s y h0 h1) (fun n s hs => ?_) (fun k n s y x y0 y1 x0 x1 hs => ⟨s + g x y, ?_, ?_⟩) (fun k n s y y0 y1 hs => ⟨?_, hie k n s y y0 y1⟩) n 0 0 (Int.le_refl _) hh (by omega) rfl
  · rw [hoe, hs, su_0, Int.add_zero]
  · rw [su_s _ x0, hs]
    omega
  · have h1 : -(y * (w * B)) ≤ su2 g w y ∧ su2 g w y ≤ y * (w * B) := su_abs y0 fun y' a3 a4 => su_abs hw fun x' a1 a2 => hg x' y' a1 a2 a3 (by omega)
    have h2 := su_abs (f := fun x => g x y) (n := x) (B := B) x0 fun x' a1 a2 => hg x' y a1 (by omega) y0 y1
    have h3 : 0 ≤ w * B ∧ w * B ≤ 20 * B := ⟨Int.mul_nonneg hw hB, Int.mul_le_mul_of_nonneg_right hw2 hB⟩
    have h4 : y * (w * B) ≤ 19 * (w * B) := Int.mul_le_mul_of_nonneg_right (by omega) h3.1
    have h5 : x * B ≤ 20 * B := Int.mul_le_mul_of_nonneg_right (by omega) hB
    exact hi k n s y x y0 y1 x0 x1 (by omega) (by omega)
  · rw [hs, su_0, Int.add_zero]
    unfold su2
    rw [su_s _ y0]

