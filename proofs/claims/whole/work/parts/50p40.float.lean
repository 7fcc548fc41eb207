/-! the floating numbers that can come up: moire's values, and the covered part -/
def mNum (P Q : Int) : Int := w32 (w32 (w32 (P * P) * Q) * Q)
def mDen (a b c d P Q : Int) : Int := w32 (w32 (w32 (w32 (a * Q) - w32 (c * P)) * w32 (w32 (a * Q) - w32 (c * P))) + w32 (w32 (w32 (b * Q) - w32 (d * P)) * w32 (w32 (b * Q) - w32 (d * P))))
/-- moire of the screens a, b and c, d, as its bits -/
def mv (a b c d : Int) : Int := if mDen a b c d (a * a + b * b) (c * c + d * d) = 0 then 0 else dDiv (dOf (mNum (a * a + b * b) (c * c + d * d))) (dOf (mDen a b c d (a * a + b * b) (c * c + d * d)))
def mTab : List Int := [0, 4602678819172646912, 4605380978949069210, 4606281698874543309, 4607682818758614130, 4608308318706860032, 4608533498688228557, 4608914572502852214, 4609884578576439706, 4609997168567123968, 4611686018427387904, 4612248968380809216, 4612811918334230528, 4613418172130222710, 4615288898129284301, 4616189618054758400, 4616752568008179712, 4617315517961601024, 4617540697942969549, 4618019205403377664, 4618191217889145287, 4619480710090144532, 4619792497756654797, 4620693217682128896, 4621819117588971520, 4622044297570340045, 4622776132509787750, 4623226492472524800, 4624296097384025293, 4625267186053677056, 4625759767262920704, 4626322717216342016, 4627026404658118656, 4628011567076605952, 4628926360750915584, 4629770785681047552, 4630263366890291200, 4630826316843712512, 4631530004285489152, 4632233691727265792, 4634766966517661696, 4635646575819882496, 4636033603912859648, 4637018766331346944, 4638777984935788544, 4642437159633027072]
def q4 : List Int := [0, 1, 2, 3]
theorem q4_of {a : Int} (h : 0 ≤ a ∧ a ≤ 3) : a ∈ q4 := by
  rcases (show a = 0 ∨ a = 1 ∨ a = 2 ∨ a = 3 by omega) with rfl | rfl | rfl | rfl <;> decide
theorem mv_all : ∀ a ∈ q4, ∀ b ∈ q4, ∀ c ∈ q4, ∀ d ∈ q4, mv a b c d ∈ mTab ∧ (mDen a b c d (a * a + b * b) (c * c + d * d) = 0 ∨ dOk (FP.ddiv (dBits (dOf (mNum (a * a + b * b) (c * c + d * d)))) (dBits (dOf (mDen a b c d (a * a + b * b) (c * c + d * d))))) = true) := by decide +kernel
theorem mT_cmp : ∀ x ∈ mTab, ∀ y ∈ mTab, dCmp .l x y = (if x < y then -1 else if x = y then 0 else 1) ∧ dCmp .g x y = (if x < y then -1 else if x = y then 0 else 1) ∧ dMx x y = (if x < y then y else x) := by decide +kernel
theorem mT_one : ∀ x ∈ mTab, dCmp .l x 13830554455654793216 = 1 ∧ FP.dIsNaN (dBits x) = false ∧ 0 ≤ x := by decide +kernel
def Mv (x : Int) : Prop := x ∈ mTab
theorem Mv.le {x y : Int} (hx : Mv x) (hy : Mv y) : dCmp .l x y ≤ 0 ↔ x ≤ y := by
  rw [(mT_cmp x hx y hy).1]
  split
  · omega
  · split <;> omega
theorem Mv.ge {x y : Int} (hx : Mv x) (hy : Mv y) : 0 ≤ dCmp .g x y ↔ y ≤ x := by
  rw [(mT_cmp x hx y hy).2.1]
  split
  · omega
  · split <;> omega
theorem Mv.gt {x y : Int} (hx : Mv x) (hy : Mv y) : 0 < dCmp .g x y ↔ y < x := by
  rw [(mT_cmp x hx y hy).2.1]
  split
  · omega
  · split <;> omega
theorem Mv.eq {x : Int} (hx : Mv x) : dCmp .l x x = 0 := by
  rw [(mT_cmp x hx x hx).1, if_neg (by omega), if_pos rfl]
theorem Mv.dmx {x y : Int} (hx : Mv x) (hy : Mv y) (K : Int → Rz) : DMX x y K = K (mx x y) := by
  unfold DMX
  rw [if_pos ⟨(mT_one x hx).2.1, (mT_one y hy).2.1⟩, (mT_cmp x hx y hy).2.2]
  rfl
theorem Mv_mx {x y : Int} (hx : Mv x) (hy : Mv y) : Mv (mx x y) := by
  unfold mx
  split <;> assumption
theorem Mv.zero : Mv 0 := by unfold Mv; decide
theorem Mv_mv {a b c d : Int} (ha : 0 ≤ a ∧ a ≤ 3) (hb : 0 ≤ b ∧ b ≤ 3) (hc : 0 ≤ c ∧ c ≤ 3) (hd : 0 ≤ d ∧ d ≤ 3) : Mv (mv a b c d) := (mv_all a (q4_of ha) b (q4_of hb) c (q4_of hc) d (q4_of hd)).1
/-- how both sides come by it -/
theorem mv_dd {a b c d : Int} (ha : 0 ≤ a ∧ a ≤ 3) (hb : 0 ≤ b ∧ b ≤ 3) (hc : 0 ≤ c ∧ c ≤ 3) (hd : 0 ≤ d ∧ d ≤ 3) (K : Int → Rz) : (if ¬ mDen a b c d (a * a + b * b) (c * c + d * d) = 0 then DD (dOf (mNum (a * a + b * b) (c * c + d * d))) (dOf (mDen a b c d (a * a + b * b) (c * c + d * d))) K else K 0) = K (mv a b c d) := by
  have h := (mv_all a (q4_of ha) b (q4_of hb) c (q4_of hc) d (q4_of hd)).2
  unfold mv
  by_cases e : mDen a b c d (a * a + b * b) (c * c + d * d) = 0
  · rw [if_neg (fun k => k e), if_pos e]
  · rw [if_pos e, if_neg e]
    unfold DD
    rw [if_pos (h.resolve_left e)]
/-! the covered part -/
def fvOk (n m : Nat) : Bool := fOk (FP.fdiv (fBits (fOf n)) (fBits (fOf m))) && dOk (FP.f2d (fBits (fDiv (fOf n) (fOf m)))) && decide (dCmp .l (dOfF (fDiv (fOf n) (fOf m))) (dOfF (fDiv (fOf n) (fOf m))) = 0)
theorem fv_0 : ∀ m ∈ [1, 2, 3, 4, 5, 6, 7, 8, 9, 10, 11, 12, 13, 14, 15, 16, 18, 20, 21, 22, 24, 25, 26, 27, 28, 30, 32, 33, 35, 36, 39], (∀ n ∈ List.range (m + 1), fvOk n m = true) ∧ ¬ fCmp .l (fOf m) 0 ≤ 0 := by decide +kernel
theorem fv_1 : ∀ m ∈ [40, 42, 44, 45, 48, 49, 50, 52, 54, 55, 56, 60], (∀ n ∈ List.range (m + 1), fvOk n m = true) ∧ ¬ fCmp .l (fOf m) 0 ≤ 0 := by decide +kernel
theorem fv_2 : ∀ m ∈ [63, 64, 65, 66, 70, 72, 75, 77], (∀ n ∈ List.range (m + 1), fvOk n m = true) ∧ ¬ fCmp .l (fOf m) 0 ≤ 0 := by decide +kernel
theorem fv_3 : ∀ m ∈ [78, 80, 81, 84, 88, 90, 91], (∀ n ∈ List.range (m + 1), fvOk n m = true) ∧ ¬ fCmp .l (fOf m) 0 ≤ 0 := by decide +kernel
theorem fv_4 : ∀ m ∈ [96, 98, 99, 100, 104, 105], (∀ n ∈ List.range (m + 1), fvOk n m = true) ∧ ¬ fCmp .l (fOf m) 0 ≤ 0 := by decide +kernel
theorem fv_5 : ∀ m ∈ [108, 110, 112, 117, 120], (∀ n ∈ List.range (m + 1), fvOk n m = true) ∧ ¬ fCmp .l (fOf m) 0 ≤ 0 := by decide +kernel
theorem fv_6 : ∀ m ∈ [121, 126, 128, 130], (∀ n ∈ List.range (m + 1), fvOk n m = true) ∧ ¬ fCmp .l (fOf m) 0 ≤ 0 := by decide +kernel
theorem fv_7 : ∀ m ∈ [132, 135, 140, 143], (∀ n ∈ List.range (m + 1), fvOk n m = true) ∧ ¬ fCmp .l (fOf m) 0 ≤ 0 := by decide +kernel
theorem fv_8 : ∀ m ∈ [144, 150, 154, 156], (∀ n ∈ List.range (m + 1), fvOk n m = true) ∧ ¬ fCmp .l (fOf m) 0 ≤ 0 := by decide +kernel
theorem fv_9 : ∀ m ∈ [160, 165, 168], (∀ n ∈ List.range (m + 1), fvOk n m = true) ∧ ¬ fCmp .l (fOf m) 0 ≤ 0 := by decide +kernel
theorem fv_10 : ∀ m ∈ [176, 180, 192], (∀ n ∈ List.range (m + 1), fvOk n m = true) ∧ ¬ fCmp .l (fOf m) 0 ≤ 0 := by decide +kernel
def fvM : List Nat := ([1, 2, 3, 4, 5, 6, 7, 8, 9, 10, 11, 12, 13, 14, 15, 16, 18, 20, 21, 22, 24, 25, 26, 27, 28, 30, 32, 33, 35, 36, 39] ++ ([40, 42, 44, 45, 48, 49, 50, 52, 54, 55, 56, 60] ++ ([63, 64, 65, 66, 70, 72, 75, 77] ++ ([78, 80, 81, 84, 88, 90, 91] ++ ([96, 98, 99, 100, 104, 105] ++ ([108, 110, 112, 117, 120] ++ ([121, 126, 128, 130] ++ ([132, 135, 140, 143] ++ ([144, 150, 154, 156] ++ ([160, 165, 168] ++ ([176, 180, 192])))))))))))
theorem fv_all : ∀ m ∈ fvM, (∀ n ∈ List.range (m + 1), fvOk n m = true) ∧ ¬ fCmp .l (fOf m) 0 ≤ 0 := by
  intro m hm
  unfold fvM at hm
  rcases List.mem_append.mp hm with hm | hm
  · exact fv_0 m hm
  rcases List.mem_append.mp hm with hm | hm
  · exact fv_1 m hm
  rcases List.mem_append.mp hm with hm | hm
  · exact fv_2 m hm
  rcases List.mem_append.mp hm with hm | hm
  · exact fv_3 m hm
  rcases List.mem_append.mp hm with hm | hm
  · exact fv_4 m hm
  rcases List.mem_append.mp hm with hm | hm
  · exact fv_5 m hm
  rcases List.mem_append.mp hm with hm | hm
  · exact fv_6 m hm
  rcases List.mem_append.mp hm with hm | hm
  · exact fv_7 m hm
  rcases List.mem_append.mp hm with hm | hm
  · exact fv_8 m hm
  rcases List.mem_append.mp hm with hm | hm
  · exact fv_9 m hm
  exact fv_10 m hm
theorem fvM_of : ∀ w ∈ List.range 17, ∀ h ∈ List.range 13, w = 0 ∨ h = 0 ∨ h * w ∈ fvM := by decide +kernel
/-- the part covered: no fault on either side -/
theorem fv_ok {n w h : Int} (w0 : 1 ≤ w) (w1 : w ≤ 16) (h0 : 1 ≤ h) (h1 : h ≤ 12) (n0 : 0 ≤ n) (n1 : n ≤ h * w) : fOk (FP.fdiv (fBits (fOf n)) (fBits (fOf (h * w)))) = true ∧ dOk (FP.f2d (fBits (fDiv (fOf n) (fOf (h * w))))) = true ∧ dCmp .l (dOfF (fDiv (fOf n) (fOf (h * w)))) (dOfF (fDiv (fOf n) (fOf (h * w)))) = 0 ∧ ¬ fCmp .l (fOf (h * w)) 0 ≤ 0 := by
  have e := (fvM_of w.toNat (List.mem_range.mpr (by omega)) h.toNat (List.mem_range.mpr (by omega))).resolve_left (by omega) |>.resolve_left (by omega)
  have hm : ((h.toNat * w.toNat : Nat) : Int) = h * w := by
    rw [Int.natCast_mul, Int.toNat_of_nonneg (by omega), Int.toNat_of_nonneg (by omega)]
  have h2 := fv_all _ e
  have h3 := h2.1 n.toNat (List.mem_range.mpr (by omega))
  have h4 := h2.2
  unfold fvOk at h3
  simp only [Bool.and_eq_true, decide_eq_true_eq] at h3
  rw [hm, Int.toNat_of_nonneg n0] at h3
  rw [hm] at h4
  exact ⟨h3.1.1, h3.1.2, h3.2, h4⟩
