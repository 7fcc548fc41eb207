/-! the small memory: objects by numbers: 1, 2, .. those that the component makes, -22, -23, .. those that the law makes, -1 .. -21 fixed ones that nobody writes (an empty Object[], nine String constants with their bytes, a table of digits, the script); row -1: the kind, row -2: an array's length; row 0 of 0: the component's next number; 0 1 and 0 2: cells and slots made so far; 0 3: the law's next number -/
abbrev Mem : Type := Int → Int → Int
abbrev AV : Type := Nat × Int
abbrev Rz : Type := Option (Int × Int × Mem)
/-- the classes' numbers, the first address of the run's own cells, the array classes, the string constants' addresses, an unknown static -/
abbrev Gc : Type := va_G × Nat × (Nat → ClassId) × (Nat → Nat) × Option Nat
def gD (G : Gc) : va_G := G.1
def gB (G : Gc) : Nat := G.2.1
def gA (G : Gc) : Nat → ClassId := G.2.2.1
def gK (G : Gc) : Nat → Nat := G.2.2.2.1
def gO (G : Gc) : Option Nat := G.2.2.2.2
def mUp (μ : Mem) (a k v : Int) : Mem := fun a' k' => if a' = a ∧ k' = k then v else μ a' k'
theorem mUp_same (μ : Mem) (a k v : Int) : mUp μ a k v a k = v := by simp [mUp]
theorem mUp_ne (μ : Mem) {a k a' k' : Int} (v : Int) (h : ¬ (a' = a ∧ k' = k)) : mUp μ a k v a' k' = μ a' k' := by simp [mUp, h]
def cvR (ρ : Int → Nat) (z : Int) : Value := if z = 0 then .null else .ref (ρ z)
/-- tags: 0 int, 1 long, 2 reference, 3 float, 4 double, 5 a string constant, 6 the unknown static, 7 an address that nobody uses -/
def cv (G : Gc) (ρ : Int → Nat) (x : AV) : Value := match x.1 with
  | 0 => .int (Int32.ofInt x.2)
  | 1 => .long (Int64.ofInt x.2)
  | 2 => cvR ρ x.2
  | 3 => .float (fBits x.2)
  | 4 => .double (dBits x.2)
  | 5 => .ref (gK G x.2.toNat)
  | 6 => va_rf (gO G)
  | _ => .ref x.2.toNat
def nStr : Int := 28
/-- what bounds the numbers in use -/
def bd (μ : Mem) : Int × Int := (μ 0 0, μ 0 3)
def vok (n : Int × Int) (x : AV) : Prop := match x.1 with
  | 0 => i32 x.2
  | 1 => i64 x.2
  | 2 => n.2 < x.2 ∧ x.2 < n.1
  | 3 => 0 ≤ x.2 ∧ x.2 < 4294967296
  | 4 => 0 ≤ x.2 ∧ x.2 < 18446744073709551616
  | 5 => 0 ≤ x.2 ∧ x.2 < nStr
  | _ => True
def catA (t : Nat) : Nat := if t = 1 ∨ t = 4 then 2 else 1
theorem cv_cat (G : Gc) (ρ : Int → Nat) (x : AV) : (cv G ρ x).category = catA x.1 := by
  obtain ⟨t, z⟩ := x
  match t with
  | 0 => rfl
  | 1 => rfl
  | 2 =>
    show (cvR ρ z).category = 1
    unfold cvR
    split <;> rfl
  | 3 => rfl
  | 4 => rfl
  | 5 => rfl
  | 6 =>
    show (va_rf (gO G)).category = 1
    cases gO G <;> rfl
  | n + 7 =>
    have : catA (n + 7) = 1 := by
      unfold catA
      rw [if_neg (by omega)]
    rw [this]
    rfl
theorem vok_mono {n n' : Int × Int} (h : n.1 ≤ n'.1 ∧ n'.2 ≤ n.2) {x : AV} (hx : vok n x) : vok n' x := by
  obtain ⟨t, z⟩ := x
  match t, hx with
  | 0, hx => exact hx
  | 1, hx => exact hx
  | 2, hx => exact ⟨Int.lt_of_le_of_lt h.2 hx.1, Int.lt_of_lt_of_le hx.2 h.1⟩
  | 3, hx => exact hx
  | 4, hx => exact hx
  | 5, hx => exact hx
  | 6, _ => trivial
  | _ + 7, _ => trivial
/-- ρ' says of the numbers in use what ρ says -/
def Ext (n : Int × Int) (ρ ρ' : Int → Nat) : Prop := ∀ a, a ≠ 0 → n.2 < a → a < n.1 → ρ' a = ρ a
theorem Ext.rf {n : Int × Int} {ρ : Int → Nat} : Ext n ρ ρ := fun _ _ _ _ => rfl
theorem Ext.tr {n n' : Int × Int} {ρ ρ' ρ'' : Int → Nat} (h : Ext n ρ ρ') (h' : Ext n' ρ' ρ'') (hn : n.1 ≤ n'.1 ∧ n'.2 ≤ n.2) : Ext n ρ ρ'' := fun a h1 h2 h3 => (h' a h1 (by omega) (by omega)).trans (h a h1 h2 h3)
theorem cv_ext {G : Gc} {n : Int × Int} {ρ ρ' : Int → Nat} (h : Ext n ρ ρ') {x : AV} (hx : vok n x) : cv G ρ' x = cv G ρ x := by
  obtain ⟨t, z⟩ := x
  match t, hx with
  | 0, _ => rfl
  | 1, _ => rfl
  | 2, hx =>
    show cvR ρ' z = cvR ρ z
    unfold cvR
    split
    · rfl
    · next hz => rw [h z hz hx.1 hx.2]
  | 3, _ => rfl
  | 4, _ => rfl
  | 5, _ => rfl
  | 6, _ => rfl
  | _ + 7, _ => rfl
/-- the tag of a class's field -/
def ftg (ci k : Nat) : Nat := match ci with
  | 0 => 2
  | 1 => if k = 0 then 1 else if k = 7 then 2 else 0
  | 2 => if k < 6 then 2 else 0
  | 3 => if k = 4 then 2 else 0
  | 4 => if k = 2 ∨ k = 4 ∨ k = 11 then 2 else 0
  | 5 => if k < 4 then 0 else 2
  | 6 => if k = 0 ∨ k = 3 ∨ k = 6 ∨ k = 7 ∨ k = 8 then 2 else 0
  | 7 => 0
  | 8 => if k = 6 then 2 else 0
  | 9 => if k = 0 then 2 else 0
  | 10 => if k = 0 then 2 else 0
  | _ => if k = 1 then 2 else 0
def nfl (ci : Nat) : Nat := match ci with
  | 0 => 1
  | 1 => 8
  | 2 => 8
  | 3 => 5
  | 4 => 13
  | 5 => 7
  | 6 => 9
  | 7 => 3
  | 8 => 7
  | 9 => 4
  | 10 => 4
  | _ => 3
/-- arrays: 0 byte, 1 int, 2 Object, 3 (none), 4 Sheet, 5 Plate, 6 Screen, 7 int[] -/
def etg (t : Nat) : Nat := match t with
  | 0 => 0
  | 1 => 0
  | 3 => 0
  | _ => 2
def ety (t : Nat) : FieldType := match t with
  | 0 => .byte
  | 1 => .int
  | 2 => .object "java/lang/Object"
  | 3 => .byte
  | 4 => .object "TonePlates$Sheet"
  | 5 => .object "TonePlates$Plate"
  | 6 => .object "TonePlates$Screen"
  | _ => .array .int
/-- the cell of an object of the class ci at number a -/
def isO (G : Gc) (ρ : Int → Nat) (μ : Mem) (H : Heap) (a : Int) (ci : Nat) : Prop :=
  t_OB (ρ a) ((gD G).1 ci) (nfl ci) ((gD G).2 ci) H (fun k => cv G ρ (ftg ci k, μ a k)) ∧ ∀ k : Nat, k < nfl ci → vok (bd μ) (ftg ci k, μ a k)
/-- the cell of an array -/
def isA (G : Gc) (ρ : Int → Nat) (μ : Mem) (H : Heap) (a : Int) (t : Nat) : Prop :=
  0 ≤ μ a (-2) ∧ μ a (-2) < 536870912 ∧ H[ρ a]? = some (arrV (gA G t) (μ a (-2)).toNat (fun k => cv G ρ (etg t, μ a k))) ∧ ∀ k : Nat, (k : Int) < μ a (-2) → vok (bd μ) (etg t, μ a k)
def okC (G : Gc) (ρ : Int → Nat) (μ : Mem) (H : Heap) (a : Int) : Prop :=
  (∃ ci : Nat, ci < 12 ∧ μ a (-1) = ci + 1 ∧ isO G ρ μ H a ci) ∨ (∃ t : Nat, t < 8 ∧ μ a (-1) = t + 20 ∧ isA G ρ μ H a t)
/-- the numbers of the run's own objects -/
def own (a : Int) : Prop := 0 < a ∨ a < -21
/-- an array that nobody writes, as far as the start knows it -/
def isW (G : Gc) (ρ : Int → Nat) (μ : Mem) (H : Heap) (a : Int) (t : Nat) : Prop :=
  0 ≤ μ a (-2) ∧ μ a (-2) < 536870912 ∧ (∃ cell : Cell, H[ρ a]? = some cell ∧ (cell.cls = gA G t ∨ (t = 1 ∧ cell.cls = gA G 11)) ∧ (cell.vm ≠ .unknown ∧ cell.vm.isStatics = false) ∧ cell.slots.size = (μ a (-2)).toNat ∧ ∀ k : Nat, (k : Int) < μ a (-2) → cell.slots[k]? = some (cv G ρ (etg t, μ a k))) ∧ ∀ k : Nat, (k : Int) < μ a (-2) → vok (bd μ) (etg t, μ a k)
/-- a String that nobody writes: two of its fields -/
def isS (G : Gc) (ρ : Int → Nat) (μ : Mem) (H : Heap) (a : Int) : Prop :=
  (∃ cell : Cell, H[ρ a]? = some cell ∧ cell.cls = (gD G).1 9 ∧ (cell.vm ≠ .unknown ∧ cell.vm.isStatics = false) ∧ ∀ k : Nat, k < 2 → cell.slots[(gD G).2 9 k]? = some (cv G ρ (ftg 9 k, μ a k))) ∧ ∀ k : Nat, k < 2 → vok (bd μ) (ftg 9 k, μ a k)
def okF (G : Gc) (ρ : Int → Nat) (μ : Mem) (H : Heap) (a : Int) : Prop := ¬ own a ∧ ((μ a (-1) = 10 ∧ isS G ρ μ H a) ∨ ∃ t : Nat, t < 3 ∧ μ a (-1) = t + 20 ∧ isW G ρ μ H a t)
def okG (G : Gc) (ρ : Int → Nat) (μ : Mem) (H : Heap) (a : Int) : Prop := okC G ρ μ H a ∨ okF G ρ μ H a
def GP (G : Gc) (ρ : Int → Nat) (μ : Mem) (H : Heap) : Prop :=
  (0 < μ 0 0 ∧ μ 0 3 < -21 ∧ ∀ k : Nat, 0 < k → k ≤ 21 → ρ (-(k : Int)) = gK G (100 + k)) ∧ μ 0 (-1) = 0 ∧ (∀ a, a ≠ 0 → μ 0 3 < a → a < μ 0 0 → ((own a → gB G ≤ ρ a) ∧ (¬ own a → ρ a < gB G)) ∧ okG G ρ μ H a) ∧ ∀ a b, own a → own b → μ 0 3 < a → a < μ 0 0 → μ 0 3 < b → b < μ 0 0 → ρ a = ρ b → a = b
theorem okC.lt {G : Gc} {ρ : Int → Nat} {μ : Mem} {H : Heap} {a : Int} (h : okC G ρ μ H a) : ρ a < H.size := by
  rcases h with ⟨ci, -, -, ⟨cell, h1, -⟩, -⟩ | ⟨t, -, -, -, -, h1, -⟩
  · exact (Array.getElem?_eq_some_iff.mp h1).1
  · exact (Array.getElem?_eq_some_iff.mp h1).1
theorem okC.kept {G : Gc} {ρ : Int → Nat} {μ : Mem} {H H1 : Heap} {a : Int} (h : okC G ρ μ H a) (hq : H1[ρ a]? = H[ρ a]?) : okC G ρ μ H1 a := by
  rcases h with ⟨ci, h1, h2, h3, h4⟩ | ⟨t, h1, h2, h3, h5, h4, h6⟩
  · exact Or.inl ⟨ci, h1, h2, h3.kept hq, h4⟩
  · exact Or.inr ⟨t, h1, h2, h3, h5, by rw [hq]; exact h4, h6⟩
theorem okG.lt {G : Gc} {ρ : Int → Nat} {μ : Mem} {H : Heap} {a : Int} (h : okG G ρ μ H a) : ρ a < H.size := by
  rcases h with h | ⟨-, ⟨-, ⟨cell, h1, -⟩, -⟩ | ⟨t, -, -, -, -, ⟨cell, h1, -⟩, -⟩⟩
  · exact h.lt
  · exact (Array.getElem?_eq_some_iff.mp h1).1
  · exact (Array.getElem?_eq_some_iff.mp h1).1
theorem okG.kept {G : Gc} {ρ : Int → Nat} {μ : Mem} {H H1 : Heap} {a : Int} (h : okG G ρ μ H a) (hq : H1[ρ a]? = H[ρ a]?) : okG G ρ μ H1 a := by
  rcases h with h | ⟨hn, ⟨e, ⟨cell, h1, h2⟩, h3⟩ | ⟨t, ht, e, g1, g2, ⟨cell, h1, h2⟩, h3⟩⟩
  · exact Or.inl (h.kept hq)
  · exact Or.inr ⟨hn, Or.inl ⟨e, ⟨cell, by rw [hq]; exact h1, h2⟩, h3⟩⟩
  · exact Or.inr ⟨hn, Or.inr ⟨t, ht, e, g1, g2, ⟨cell, by rw [hq]; exact h1, h2⟩, h3⟩⟩
/-- the same cell, told by other rows that say the same -/
theorem okF.sim {G : Gc} {ρ ρ' : Int → Nat} {μ ν : Mem} {H : Heap} {a : Int} (h : okF G ρ μ H a) (hr : ρ' a = ρ a) (hc : ∀ x : AV, vok (bd μ) x → cv G ρ' x = cv G ρ x) (hk : ∀ k, ν a k = μ a k) (hn : ∀ x : AV, vok (bd μ) x → vok (bd ν) x) : okF G ρ' ν H a := by
  rcases h with ⟨ho, ⟨e, ⟨cell, h1, h2, h4, h5⟩, h3⟩ | ⟨t, ht, e, g1, g2, ⟨cell, h1, h2, h4, h5, h6⟩, h3⟩⟩
  · refine ⟨ho, Or.inl ⟨by rw [hk]; exact e, ⟨cell, by rw [hr]; exact h1, h2, h4, fun k hk2 => ?_⟩, fun k hk2 => by rw [hk]; exact hn _ (h3 k hk2)⟩⟩
    rw [hk, hc _ (h3 k hk2)]
    exact h5 k hk2
  · refine ⟨ho, Or.inr ⟨t, ht, by rw [hk]; exact e, by rw [hk]; exact g1, by rw [hk]; exact g2, ⟨cell, by rw [hr]; exact h1, h2, h4, by rw [hk]; exact h5, fun k hk2 => ?_⟩, fun k hk2 => by rw [hk] at hk2 ⊢; exact hn _ (h3 k hk2)⟩⟩
    rw [hk] at hk2 ⊢
    rw [hc _ (h3 k hk2)]
    exact h6 k hk2
theorem GP.kept {G : Gc} {ρ : Int → Nat} {μ : Mem} {H H1 : Heap} (h : GP G ρ μ H) (hq : ∀ q : Nat, q < H.size → H1[q]? = H[q]?) : GP G ρ μ H1 :=
  ⟨h.1, h.2.1, fun a h0 h1 h2 => ⟨(h.2.2.1 a h0 h1 h2).1, (h.2.2.1 a h0 h1 h2).2.kept (hq _ (h.2.2.1 a h0 h1 h2).2.lt)⟩, h.2.2.2⟩
/-- a number with a kind is one of the made ones -/
theorem GP.in {G : Gc} {ρ : Int → Nat} {μ : Mem} {H : Heap} (h : GP G ρ μ H) {a : Int} (hv : vok (bd μ) (2, a)) (hk : μ a (-1) ≠ 0) : a ≠ 0 ∧ μ 0 3 < a ∧ a < μ 0 0 :=
  ⟨fun e => by rw [e] at hk; exact hk h.2.1, hv.1, hv.2⟩
theorem GP.obj {G : Gc} {ρ : Int → Nat} {μ : Mem} {H : Heap} (h : GP G ρ μ H) {a : Int} {ci : Nat} (ho : own a ∨ ci ≠ 9) (hv : vok (bd μ) (2, a)) (hc : ci < 12) (hk : μ a (-1) = ci + 1) : a ≠ 0 ∧ (μ 0 3 < a ∧ a < μ 0 0) ∧ (own a → gB G ≤ ρ a) ∧ isO G ρ μ H a ci := by
  obtain ⟨h1, h2⟩ := h.in hv (by omega)
  obtain ⟨h3, h4⟩ := h.2.2.1 a h1 h2.1 h2.2
  refine ⟨h1, h2, h3.1, ?_⟩
  rcases h4 with (⟨c2, -, e, h5⟩ | ⟨t, _, e, -⟩) | ⟨hn, ⟨e, -⟩ | ⟨t, -, e, -⟩⟩
  · have : c2 = ci := by omega
    rw [← this]
    exact h5
  · omega
  · rcases ho with ho | ho
    · exact absurd ho hn
    · omega
  · omega
/-- an object, read -/
theorem GP.objw {G : Gc} {ρ : Int → Nat} {μ : Mem} {H : Heap} (h : GP G ρ μ H) {a : Int} {ci : Nat} (hv : vok (bd μ) (2, a)) (hc : ci < 12) (hk : μ a (-1) = ci + 1) : a ≠ 0 ∧ (μ 0 3 < a ∧ a < μ 0 0) ∧ (∃ cell : Cell, H[ρ a]? = some cell ∧ cell.cls = (gD G).1 ci ∧ (cell.vm ≠ .unknown ∧ cell.vm.isStatics = false) ∧ ∀ k : Nat, k < nfl ci → (ci = 9 → k < 2) → cell.slots[(gD G).2 ci k]? = some (cv G ρ (ftg ci k, μ a k))) ∧ ∀ k : Nat, k < nfl ci → (ci = 9 → k < 2) → vok (bd μ) (ftg ci k, μ a k) := by
  obtain ⟨h1, h2⟩ := h.in hv (by omega)
  obtain ⟨h3, h4⟩ := h.2.2.1 a h1 h2.1 h2.2
  refine ⟨h1, h2, ?_⟩
  rcases h4 with (⟨c2, -, e, ⟨cell, q1, q2, q3, q4⟩, q5⟩ | ⟨t, _, e, -⟩) | ⟨hn, ⟨e, ⟨cell, q1, q2, q3, q4⟩, q5⟩ | ⟨t, -, e, -⟩⟩
  · have : c2 = ci := by omega
    subst this
    exact ⟨⟨cell, q1, q2, ⟨by rw [q3]; exact fun h => (by cases h), by rw [q3]; rfl⟩, fun k k1 _ => q4 k k1⟩, fun k k1 _ => q5 k k1⟩
  · omega
  · have : ci = 9 := by omega
    subst this
    exact ⟨⟨cell, q1, q2, q3, fun k _ k2 => q4 k (k2 rfl)⟩, fun k _ k2 => q5 k (k2 rfl)⟩
  · omega
theorem GP.arr {G : Gc} {ρ : Int → Nat} {μ : Mem} {H : Heap} (h : GP G ρ μ H) {a : Int} {t : Nat} (ho : own a ∨ 2 < t) (hv : vok (bd μ) (2, a)) (hk : μ a (-1) = t + 20) : a ≠ 0 ∧ (μ 0 3 < a ∧ a < μ 0 0) ∧ (own a → gB G ≤ ρ a) ∧ isA G ρ μ H a t := by
  obtain ⟨h1, h2⟩ := h.in hv (by omega)
  obtain ⟨h3, h4⟩ := h.2.2.1 a h1 h2.1 h2.2
  refine ⟨h1, h2, h3.1, ?_⟩
  rcases h4 with (⟨c2, _, e, h5⟩ | ⟨t2, _, e, h5⟩) | ⟨hn, ⟨e, -⟩ | ⟨t2, h6, e, -⟩⟩
  · omega
  · have : t2 = t := by omega
    rw [← this]
    exact h5
  · omega
  · rcases ho with ho | ho
    · exact absurd ho hn
    · omega
/-- an array, read -/
theorem GP.arrw {G : Gc} {ρ : Int → Nat} {μ : Mem} {H : Heap} (h : GP G ρ μ H) {a : Int} {t : Nat} (hv : vok (bd μ) (2, a)) (hk : μ a (-1) = t + 20) : a ≠ 0 ∧ (μ 0 3 < a ∧ a < μ 0 0) ∧ isW G ρ μ H a t := by
  obtain ⟨h1, h2⟩ := h.in hv (by omega)
  obtain ⟨h3, h4⟩ := h.2.2.1 a h1 h2.1 h2.2
  refine ⟨h1, h2, ?_⟩
  rcases h4 with (⟨c2, _, e, h5⟩ | ⟨t2, _, e, h5, h6, h7, h8⟩) | ⟨hn, ⟨e, -⟩ | ⟨t2, _, e, h5⟩⟩
  · omega
  · have : t2 = t := by omega
    subst this
    exact ⟨h5, h6, ⟨_, h7, Or.inl rfl, ⟨fun h => (by cases h), rfl⟩, arrV_size _ _ _, fun k hk9 => arrV_read _ _ (by omega)⟩, h8⟩
  · omega
  · have : t2 = t := by omega
    subst this
    exact h5
theorem cvR_pos {ρ : Int → Nat} {a : Int} (h : a ≠ 0) : cvR ρ a = .ref (ρ a) := by
  unfold cvR
  rw [if_neg h]
/-- another number in use lies elsewhere than an own one -/
theorem GP.ne {G : Gc} {ρ : Int → Nat} {μ : Mem} {H : Heap} (h : GP G ρ μ H) {a b : Int} (ha : own a) (han : μ 0 3 < a ∧ a < μ 0 0) (hb0 : b ≠ 0) (hb : μ 0 3 < b ∧ b < μ 0 0) (hba : b ≠ a) : ρ b ≠ ρ a := fun e => by
  by_cases ho : own b
  · exact hba (h.2.2.2 b a ho ha hb.1 hb.2 han.1 han.2 e)
  · have h1 := (h.2.2.1 b hb0 hb.1 hb.2).1.2 ho
    have h2 := (h.2.2.1 a (by unfold own at ha; omega) han.1 han.2).1.1 ha
    omega
/-- one row of a cell is written, the cell's address alone changes -/
theorem GP.put {G : Gc} {ρ : Int → Nat} {μ : Mem} {H H1 : Heap} (h : GP G ρ μ H) {a k v : Int} (ho : own a) (han : μ 0 3 < a ∧ a < μ 0 0) (hk : 0 ≤ k) (hq : ∀ q : Nat, q ≠ ρ a → H1[q]? = H[q]?) (hc : okC G ρ (mUp μ a k v) H1 a) : GP G ρ (mUp μ a k v) H1 := by
  have ha : a ≠ 0 := by unfold own at ho; omega
  have e00 : mUp μ a k v 0 0 = μ 0 0 := mUp_ne μ v (by omega)
  have e03 : mUp μ a k v 0 3 = μ 0 3 := mUp_ne μ v (by omega)
  have e1 : mUp μ a k v 0 (-1) = μ 0 (-1) := mUp_ne μ v (by omega)
  have eb : bd (mUp μ a k v) = bd μ := by unfold bd; rw [e00, e03]
  refine ⟨⟨by rw [e00]; exact h.1.1, by rw [e03]; exact h.1.2.1, h.1.2.2⟩, by rw [e1]; exact h.2.1, fun b hb0 hb hbn => ?_, fun b c hb hc h1 h2 h3 h4 => ?_⟩
  · rw [e00] at hbn
    rw [e03] at hb
    refine ⟨(h.2.2.1 b hb0 hb hbn).1, ?_⟩
    by_cases hba : b = a
    · rw [hba]; exact Or.inl hc
    · have hne : ρ b ≠ ρ a := h.ne ho han hb0 ⟨hb, hbn⟩ hba
      have h0 := ((h.2.2.1 b hb0 hb hbn).2).kept (hq (ρ b) hne)
      have er : ∀ j, mUp μ a k v b j = μ b j := fun j => mUp_ne μ v (fun e => hba e.1)
      rcases h0 with (⟨ci, h1, h2, h3, h4⟩ | ⟨t, h1, h2, h3, h5, h4, h6⟩) | h0
      · refine Or.inl (Or.inl ⟨ci, h1, by rw [er]; exact h2, ?_, fun j hj => ?_⟩)
        · simp only [er]
          exact h3
        · rw [er, eb]
          exact h4 j hj
      · refine Or.inl (Or.inr ⟨t, h1, by rw [er]; exact h2, by rw [er]; exact h3, by rw [er]; exact h5, ?_, fun j hj => ?_⟩)
        · simp only [er]
          exact h4
        · rw [er] at hj
          rw [er, eb]
          exact h6 j hj
      · exact Or.inr (h0.sim rfl (fun _ _ => rfl) er (fun x hx => by rw [eb]; exact hx))
  · rw [e00] at h2 h4
    rw [e03] at h1 h3
    exact h.2.2.2 b c hb hc h1 h2 h3 h4
/-! what the text of a method is made of -/
def CLX (r : Rz) (K : Int → Mem → Rz) (X : Int → Int → Mem → Rz) : Rz := match r with
  | none => none
  | some (x, v, μ) => if x = 0 then K v μ else X x v μ
/-- an exception goes on -/
abbrev CL (r : Rz) (K : Int → Mem → Rz) : Rz := CLX r K (fun x v μ => some (x, v, μ))
/-- no exception may come -/
abbrev CLZ (r : Rz) (K : Int → Mem → Rz) : Rz := CLX r K (fun _ _ _ => none)
def GF (ci k a : Int) (μ : Mem) (K : Int → Rz) : Rz := if μ a (-1) = ci + 1 then K (μ a k) else none
def PF (ci k a v : Int) (μ : Mem) (K : Mem → Rz) : Rz := if (0 < a ∨ a < -21) ∧ μ a (-1) = ci + 1 then K (mUp μ a k v) else none
def PZ (ci k a v : Int) (μ : Mem) (K : Mem → Rz) : Rz := if (0 < a ∨ a < -21) ∧ μ a (-1) = ci + 1 ∧ (v = 0 ∨ v = 1) then K (mUp μ a k v) else none
def AL (t a i : Int) (μ : Mem) (K : Int → Rz) : Rz := if μ a (-1) = t + 20 ∧ 0 ≤ i ∧ i < μ a (-2) then K (μ a i) else none
def AS (t a i v : Int) (μ : Mem) (K : Mem → Rz) : Rz := if (0 < a ∨ a < -21) ∧ μ a (-1) = t + 20 ∧ 0 ≤ i ∧ i < μ a (-2) then K (mUp μ a i v) else none
def ASB (a i v : Int) (μ : Mem) (K : Mem → Rz) : Rz := if (0 < a ∨ a < -21) ∧ μ a (-1) = 20 ∧ 0 ≤ i ∧ i < μ a (-2) then K (mUp μ a i (w8 v)) else none
/-- an object of any kind, or null, into an Object[] -/
def ASO (a i v : Int) (μ : Mem) (K : Mem → Rz) : Rz := if (0 < a ∨ a < -21) ∧ μ a (-1) = 22 ∧ 0 ≤ i ∧ i < μ a (-2) ∧ (μ v (-1) = 8 ∨ μ v (-1) = 9) then K (mUp μ a i v) else none
def ASR (t ci a i v : Int) (μ : Mem) (K : Mem → Rz) : Rz := if (0 < a ∨ a < -21) ∧ μ a (-1) = t + 20 ∧ 0 ≤ i ∧ i < μ a (-2) ∧ μ v (-1) = ci + 1 then K (mUp μ a i v) else none
def LN (t a : Int) (μ : Mem) (K : Int → Rz) : Rz := if μ a (-1) = t + 20 then K (μ a (-2)) else none
def KD (ci a : Int) (μ : Mem) (r : Rz) : Rz := if μ a (-1) = ci + 1 then r else none
def DV (a b : Int) (K : Int → Rz) : Rz := if b = 0 then none else K (w32 (a.tdiv b))
def RM (a b : Int) (K : Int → Rz) : Rz := if b = 0 then none else K (a.tmod b)
def LD (a b : Int) (K : Int → Rz) : Rz := if b = 0 then none else K (w64 (a.tdiv b))
def mNew (μ : Mem) (kd len sz : Int) : Mem := fun a k => if a = μ 0 0 then (if k = -1 then kd else if k = -2 then len else 0) else if a = 0 ∧ k = 0 then μ 0 0 + 1 else if a = 0 ∧ k = 1 then μ 0 1 + 1 else if a = 0 ∧ k = 2 then μ 0 2 + sz else μ a k
def NW (ci n : Int) (μ : Mem) (K : Int → Mem → Rz) : Rz := if 0 < μ 0 0 then K (μ 0 0) (mNew μ (ci + 1) 0 n) else none
/-- made by the law -/
def mNewN (μ : Mem) (kd len sz : Int) : Mem := fun a k => if a = μ 0 3 then (if k = -1 then kd else if k = -2 then len else 0) else if a = 0 ∧ k = 3 then μ 0 3 - 1 else if a = 0 ∧ k = 1 then μ 0 1 + 1 else if a = 0 ∧ k = 2 then μ 0 2 + sz else μ a k
def NWn (ci n : Int) (μ : Mem) (K : Int → Mem → Rz) : Rz := if μ 0 3 < -21 then K (μ 0 3) (mNewN μ (ci + 1) 0 n) else none
def NAn (t n : Int) (μ : Mem) (K : Int → Mem → Rz) : Rz := if μ 0 3 < -21 ∧ 0 ≤ n ∧ n < 100000 then K (μ 0 3) (mNewN μ (t + 20) n n) else none
def PB (ci k a v : Int) (μ : Mem) (K : Mem → Rz) : Rz := if (0 < a ∨ a < -21) ∧ μ a (-1) = ci + 1 ∧ (v = 0 ∨ v = 1) then K (mUp μ a k v) else none
/-- a cast: null goes through, or the object is of the kind kd -/
def CC (kd a : Int) (μ : Mem) (r : Rz) : Rz := if a = 0 ∨ μ a (-1) = kd then r else none
/-- two references are one: own ones, or the empty array -/
def AQ (a b : Int) (r1 r2 : Rz) : Rz := if ((0 < a ∨ a < -21) ∨ a = -1) ∧ ((0 < b ∨ b < -21) ∨ b = -1) then (if a = b then r1 else r2) else none
def NU (μ : Mem) (r : Rz) : Rz := if 0 < μ 0 0 then r else none
def NA (t n : Int) (μ : Mem) (K : Int → Mem → Rz) : Rz := if 0 < μ 0 0 ∧ 0 ≤ n ∧ n < 100000 then K (μ 0 0) (mNew μ (t + 20) n n) else none
def mThr (μ : Mem) : Mem := fun a k => if a = 0 ∧ k = 1 then μ 0 1 + 1 else if a = 0 ∧ k = 2 then μ 0 2 + 6 else μ a k
def TH (x : Int) (μ : Mem) : Rz := some (x, 0, mThr μ)
def RT (v : Int) (μ : Mem) : Rz := some (0, v, μ)
def dOk (u : UInt64) : Bool := decide (u &&& 0x7fffffffffffffff ≤ 0x7ff0000000000000)
def fOk (u : UInt32) : Bool := decide (u &&& 0x7fffffff ≤ 0x7f800000)
def DD (a b : Int) (K : Int → Rz) : Rz := if dOk (FP.ddiv (dBits a) (dBits b)) = true then K (dDiv a b) else none
def FD (a b : Int) (K : Int → Rz) : Rz := if fOk (FP.fdiv (fBits a) (fBits b)) = true then K (fDiv a b) else none
def DF (a : Int) (K : Int → Rz) : Rz := if dOk (FP.f2d (fBits a)) = true then K (dOfF a) else none
/-- a switch from the number lo on -/
def SW (x lo : Int) (rs : List Rz) (d : Rz) : Rz := match rs with
  | [] => d
  | r :: rs => if x = lo then r else SW x (lo + 1) rs d
