/-! the small memory of the start -/
def fRow (i : Nat) (k : Int) : Int := if k = -1 then 20 else if k = -2 then ((fBytes i).length : Int) else gt (fBytes i) k
def sRow (y : Int) (k : Int) : Int := if k = -1 then 10 else if k = 0 then y else 0
def mu0 (L : Nat) (sc : Int → Int) : Mem := fun a k => if a = 0 then (if k = 0 then 1 else if k = 3 then -22 else 0) else if a = -1 then (if k = -1 then 22 else 0) else if a = -20 then (if k = -1 then 20 else if k = -2 then 100 else 48 + k % 10) else if a = -21 then (if k = -1 then 21 else if k = -2 then L else sc k) else if a % 2 = 0 then sRow (a - 1) k else fRow ((-a - 3) / 2).toNat k
def rho0 (G : Gc) : Int → Nat := fun a => gK G (100 + (-a).toNat)
section MU0
variable {L : Nat} {sc : Int → Int} {G : Gc} {s : State}
theorem mu0_1 (k : Int) : mu0 L sc (-1) k = if k = -1 then 22 else 0 := by
  unfold mu0
  rw [if_neg (by omega), if_pos rfl]
theorem mu0_20 (k : Int) : mu0 L sc (-20) k = if k = -1 then 20 else if k = -2 then 100 else 48 + k % 10 := by
  unfold mu0
  rw [if_neg (by omega), if_neg (by omega), if_pos rfl]
theorem mu0_21 (k : Int) : mu0 L sc (-21) k = if k = -1 then 21 else if k = -2 then (L : Int) else sc k := by
  unfold mu0
  rw [if_neg (by omega), if_neg (by omega), if_neg (by omega), if_pos rfl]
theorem mu0_s {i : Nat} (hi : i < 9) (k : Int) : mu0 L sc (-(2 + 2 * (i : Int))) k = sRow (-(3 + 2 * (i : Int))) k := by
  unfold mu0
  rw [if_neg (by omega), if_neg (by omega), if_neg (by omega), if_neg (by omega), if_pos (by omega), show -(2 + 2 * (i : Int)) - 1 = -(3 + 2 * (i : Int)) by omega]
theorem mu0_b {i : Nat} (hi : i < 9) (k : Int) : mu0 L sc (-(3 + 2 * (i : Int))) k = fRow i k := by
  unfold mu0
  rw [if_neg (by omega), if_neg (by omega), if_neg (by omega), if_neg (by omega), if_neg (by omega), show ((-(-(3 + 2 * (i : Int))) - 3) / 2).toNat = i by omega]
theorem gt_nat {l : List Int} (k : Nat) : gt l (k : Int) = l.getD k 0 := by
  unfold gt
  rw [Int.toNat_natCast]
theorem mu0_fx : Fx sc (L : Int) (mu0 L sc) := by
  refine ⟨⟨by rw [mu0_1]; rfl, by rw [mu0_1]; rfl⟩, ⟨by rw [mu0_20]; rfl, by rw [mu0_20]; rfl, fun j h0 h1 => by rw [mu0_20, if_neg (by omega), if_neg (by omega)]; omega⟩, ⟨by rw [mu0_21]; rfl, by rw [mu0_21]; rfl, fun k h0 h1 => by rw [mu0_21, if_neg (by omega), if_neg (by omega)]⟩, fun i hi => ⟨⟨?_, by omega, by rw [mu0_s hi]; rfl, by rw [mu0_s hi]; rfl, by rw [mu0_s hi]; rfl⟩, ⟨?_, by omega, by rw [mu0_b hi]; rfl, by rw [mu0_b hi]; rfl⟩, ?_, fun k h0 h1 => ?_⟩, ?_⟩
  · show (-22 : Int) < _
    omega
  · show (-22 : Int) < _
    omega
  · have := lt_7 i hi
    omega
  · obtain ⟨n, rfl⟩ := Int.eq_ofNat_of_zero_le h0
    have h := lt_8 i hi n (by omega)
    rw [mu0_b hi, gt_nat]
    refine ⟨?_, h⟩
    unfold fRow
    rw [if_neg (by omega), if_neg (by omega), gt_nat]
  · show (-22 : Int) < -21
    omega
theorem okF_str {ρ : Int → Nat} {μ : Mem} {H : Heap} {a y : Int} (ha : ¬ own a) (h1 : μ a (-1) = 10) (h0 : μ a 0 = y) (h2 : μ a 1 = 0) (hb : μ 0 3 < y ∧ y < μ 0 0) (hy : y ≠ 0) (hc : ∃ cell : Cell, H[ρ a]? = some cell ∧ cell.cls = (gD G).1 9 ∧ (cell.vm ≠ .unknown ∧ cell.vm.isStatics = false) ∧ cell.slots[(gD G).2 9 0]? = some (.ref (ρ y)) ∧ cell.slots[(gD G).2 9 1]? = some (.int 0)) : okF G ρ μ H a := by
  obtain ⟨cell, c1, c2, c3, c4, c5⟩ := hc
  refine ⟨ha, Or.inl ⟨h1, ⟨cell, c1, c2, c3, fun k hk => ?_⟩, fun k hk => ?_⟩⟩
  · match k, hk with
    | 0, _ =>
      show _ = some (cvR ρ (μ a 0))
      rw [h0]
      unfold cvR
      rw [if_neg hy]
      exact c4
    | 1, _ =>
      show _ = some (Value.int (Int32.ofInt (μ a 1)))
      rw [h2]
      exact c5
    | k + 2, h => omega
  · match k, hk with
    | 0, _ =>
      show μ 0 3 < μ a 0 ∧ μ a 0 < μ 0 0
      rw [h0]
      exact hb
    | 1, _ =>
      show i32 (μ a 1)
      rw [h2]
      unfold i32
      omega
    | k + 2, h => omega
theorem okF_arr {ρ : Int → Nat} {μ : Mem} {H : Heap} {t : Nat} {a : Int} {N : Nat} (ha : ¬ own a) (ht : t < 3) (h1 : μ a (-1) = t + 20) (h2 : μ a (-2) = N) (hN : N < 1000) (hc : ∃ cell : Cell, H[ρ a]? = some cell ∧ (cell.cls = gA G t ∨ (t = 1 ∧ cell.cls = gA G 11)) ∧ (cell.vm ≠ .unknown ∧ cell.vm.isStatics = false) ∧ cell.slots.size = N ∧ ∀ k : Nat, k < N → cell.slots[k]? = some (cv G ρ (etg t, μ a k))) (hv : ∀ k : Nat, k < N → vok (bd μ) (etg t, μ a k)) : okF G ρ μ H a := by
  obtain ⟨cell, c1, c2, c3, c4, c5⟩ := hc
  exact ⟨ha, Or.inr ⟨t, ht, h1, by omega, by omega, ⟨cell, c1, c2, c3, by rw [h2, Int.toNat_natCast]; exact c4, fun k hk => c5 k (by omega)⟩, fun k hk => hv k (by omega)⟩⟩
theorem gp_start (hsc : ∀ j, i32 (sc j)) (hL : L ≤ 260) (hlt : ∀ k : Nat, 0 < k → k ≤ 21 → gK G (100 + k) < gB G)
    (hs : ∀ i : Nat, i < 9 → ∃ cell : Cell, s.heap[gK G (102 + 2 * i)]? = some cell ∧ cell.cls = (gD G).1 9 ∧ (cell.vm ≠ .unknown ∧ cell.vm.isStatics = false) ∧ cell.slots[(gD G).2 9 0]? = some (.ref (gK G (103 + 2 * i))) ∧ cell.slots[(gD G).2 9 1]? = some (.int 0))
    (hb : ∀ i : Nat, i < 9 → ∃ cell : Cell, s.heap[gK G (103 + 2 * i)]? = some cell ∧ cell.cls = gA G 0 ∧ (cell.vm ≠ .unknown ∧ cell.vm.isStatics = false) ∧ cell.slots.size = (fBytes i).length ∧ ∀ j : Nat, j < (fBytes i).length → cell.slots[j]? = some (.int (Int32.ofInt ((fBytes i).getD j 0))))
    (he : ∃ cell : Cell, s.heap[gK G 101]? = some cell ∧ cell.cls = gA G 2 ∧ (cell.vm ≠ .unknown ∧ cell.vm.isStatics = false) ∧ cell.slots.size = 0)
    (hd : ∃ cell : Cell, s.heap[gK G 120]? = some cell ∧ cell.cls = gA G 0 ∧ (cell.vm ≠ .unknown ∧ cell.vm.isStatics = false) ∧ cell.slots.size = 100 ∧ ∀ j : Nat, j < 100 → cell.slots[j]? = some (.int (Int32.ofInt (48 + (j : Int) % 10))))
    (hx : ∃ cell : Cell, s.heap[gK G 121]? = some cell ∧ cell.cls = gA G 11 ∧ (cell.vm ≠ .unknown ∧ cell.vm.isStatics = false) ∧ cell.slots.size = L ∧ ∀ j : Nat, j < L → cell.slots[j]? = some (.int (Int32.ofInt (sc j)))) : GP G (rho0 G) (mu0 L sc) s.heap := by
  have hr : ∀ k : Nat, rho0 G (-(k : Int)) = gK G (100 + k) := fun k => by
    unfold rho0
    rw [Int.neg_neg, Int.toNat_natCast]
  refine ⟨⟨by show (0 : Int) < 1; omega, by show (-22 : Int) < -21; omega, fun k h0 h1 => hr k⟩, rfl, fun a h0 h1 h2 => ?_, fun a b ha hb h1 h2 => ?_⟩
  · have h1 : (-22 : Int) < a := h1
    have h2 : a < 1 := h2
    have hn : ¬ own a := fun w => by
      have w : 0 < a ∨ a < -21 := w
      omega
    refine ⟨⟨fun w => absurd w hn, fun _ => ?_⟩, Or.inr ?_⟩
    · have e : a = -(((-a).toNat : Nat) : Int) := by omega
      rw [e, hr]
      exact hlt _ (by omega) (by omega)
    · have hcase : a = -1 ∨ a = -20 ∨ a = -21 ∨ (∃ i : Nat, i < 9 ∧ a = -(2 + 2 * (i : Int))) ∨ ∃ i : Nat, i < 9 ∧ a = -(3 + 2 * (i : Int)) := by
        by_cases e1 : a = -1
        · exact Or.inl e1
        by_cases e2 : a = -20
        · exact Or.inr (Or.inl e2)
        by_cases e3 : a = -21
        · exact Or.inr (Or.inr (Or.inl e3))
        by_cases e4 : a % 2 = 0
        · exact Or.inr (Or.inr (Or.inr (Or.inl ⟨((-a - 2) / 2).toNat, by omega, by omega⟩)))
        · exact Or.inr (Or.inr (Or.inr (Or.inr ⟨((-a - 3) / 2).toNat, by omega, by omega⟩)))
      rcases hcase with rfl | rfl | rfl | ⟨i, hi, rfl⟩ | ⟨i, hi, rfl⟩
      · obtain ⟨cell, c1, c2, c3, c4⟩ := he
        exact okF_arr (t := 2) (N := 0) hn (by omega) (by rw [mu0_1]; rfl) (by rw [mu0_1]; rfl) (by omega) ⟨cell, by rw [show rho0 G (-1) = gK G 101 from hr 1]; exact c1, Or.inl c2, c3, c4, fun k hk => absurd hk (Nat.not_lt_zero k)⟩ (fun k hk => absurd hk (Nat.not_lt_zero k))
      · obtain ⟨cell, c1, c2, c3, c4, c5⟩ := hd
        have hk : ∀ k : Nat, mu0 L sc (-20) (k : Int) = 48 + (k : Int) % 10 := fun k => by rw [mu0_20, if_neg (by omega), if_neg (by omega)]
        refine okF_arr (t := 0) (N := 100) hn (by omega) (by rw [mu0_20]; rfl) (by rw [mu0_20]; rfl) (by omega) ⟨cell, by rw [show rho0 G (-20) = gK G 120 from hr 20]; exact c1, Or.inl c2, c3, c4, fun k hk1 => ?_⟩ (fun k hk1 => ?_)
        · rw [hk]
          exact c5 k hk1
        · rw [hk]
          show i32 _
          unfold i32
          omega
      · obtain ⟨cell, c1, c2, c3, c4, c5⟩ := hx
        have hk : ∀ k : Nat, mu0 L sc (-21) (k : Int) = sc k := fun k => by rw [mu0_21, if_neg (by omega), if_neg (by omega)]
        refine okF_arr (t := 1) (N := L) hn (by omega) (by rw [mu0_21]; rfl) (by rw [mu0_21]; rfl) (by omega) ⟨cell, by rw [show rho0 G (-21) = gK G 121 from hr 21]; exact c1, Or.inr ⟨rfl, c2⟩, c3, c4, fun k hk1 => ?_⟩ (fun k hk1 => ?_)
        · rw [hk]
          exact c5 k hk1
        · rw [hk]
          exact hsc k
      · obtain ⟨cell, c1, c2, c3, c4, c5⟩ := hs i hi
        refine okF_str (y := -(3 + 2 * (i : Int))) hn (by rw [mu0_s hi]; rfl) (by rw [mu0_s hi]; rfl) (by rw [mu0_s hi]; rfl) ⟨?_, ?_⟩ (by omega) ⟨cell, ?_, c2, c3, ?_, c5⟩
        · show (-22 : Int) < _
          omega
        · show _ < (1 : Int)
          omega
        · have e := hr (2 + 2 * i)
          rw [show (-(((2 + 2 * i : Nat)) : Int)) = -(2 + 2 * (i : Int)) by omega, show 100 + (2 + 2 * i) = 102 + 2 * i by omega] at e
          rw [e]
          exact c1
        · have e := hr (3 + 2 * i)
          rw [show (-(((3 + 2 * i : Nat)) : Int)) = -(3 + 2 * (i : Int)) by omega, show 100 + (3 + 2 * i) = 103 + 2 * i by omega] at e
          rw [e]
          exact c4
      · obtain ⟨cell, c1, c2, c3, c4, c5⟩ := hb i hi
        have h100 := lt_7 i hi
        have hk : ∀ k : Nat, mu0 L sc (-(3 + 2 * (i : Int))) (k : Int) = (fBytes i).getD k 0 := fun k => by
          rw [mu0_b hi]
          unfold fRow
          rw [if_neg (by omega), if_neg (by omega), gt_nat]
        refine okF_arr (t := 0) (N := (fBytes i).length) hn (by omega) (by rw [mu0_b hi]; rfl) (by rw [mu0_b hi]; rfl) (by omega) ⟨cell, ?_, Or.inl c2, c3, c4, fun k hk1 => ?_⟩ (fun k hk1 => ?_)
        · have e := hr (3 + 2 * i)
          rw [show (-(((3 + 2 * i : Nat)) : Int)) = -(3 + 2 * (i : Int)) by omega, show 100 + (3 + 2 * i) = 103 + 2 * i by omega] at e
          rw [e]
          exact c1
        · rw [hk]
          exact c5 k hk1
        · have h := lt_8 i hi k hk1
          rw [hk]
          show i32 _
          unfold i32
          omega
  · have h1 : (-22 : Int) < a := h1
    have h2 : a < 1 := h2
    have w : 0 < a ∨ a < -21 := ha
    omega
end MU0
section STA
variable {s : State} {args : Array Value}
/-- an array class of the start -/
theorem ar_prim {ty : FieldType} (h : (Cond.arrayClass ty).before args s = true) (ht : ∀ C, ty ≠ .object C) : ∃ cA, ArrOfT s cA ty ∧ va_RA s cA ty := by
  obtain ⟨cA, kA, comp, h1, h2, h3⟩ := Cond.arrayClass_spec h
  refine ⟨cA, fun n z => ⟨fun k h => (by cases h), kA, h2, comp, h3⟩, ?_⟩
  cases ty with
  | object C => exact absurd rfl (ht C)
  | _ => exact h1
theorem ar_obj {C : String} (h : (Cond.arrayOver (.object C)).before args s = true) : ∃ cA, ArrOfT s cA (.object C) ∧ va_RA s cA (.object C) := by
  obtain ⟨comp, cA, kA, h1, -, h3, h4, h5⟩ := Cond.arrayOver_spec h
  exact ⟨cA, fun n z => ⟨fun k h => (by cases h), kA, h3, comp, h4⟩, kA, comp, h3, h4, h1, h5⟩
theorem ar_arr (h : (Cond.arrayOver (.array .int)).before args s = true) : ∃ cA, ArrOfT s cA (.array .int) ∧ va_RA s cA (.array .int) := by
  obtain ⟨comp, cA, kA, h1, h3, h4, h5⟩ := Cond.arrayOver_specA h
  exact ⟨cA, fun n z => ⟨fun k h => (by cases h), kA, h3, comp, h4⟩, h5⟩
theorem start_cx {b L : Nat} {xs : Nat → Int32} (hL : L ≤ 260) (hts : ∀ w ∈ lw_tbl, w.before args s = true) (hX : va_X b L xs s s.heap) (hbl : b < s.heap.size) (hgv : (Jvm.Cond.and given_1 narrow_1).before args s = true) : ∃ G : Gc, CxP G s ∧ gB G = s.heap.size ∧ gK G 121 = b ∧ GP G (rho0 G) (mu0 L (fun j => (xs j.toNat).toInt)) s.heap := by
  have hs := flat_of_before _ hgv
  have hall := all_hts hts
  have hA : ∀ a : Nat, a < s.heap.size → ¬ (fun q : Nat => s.heap.size ≤ q) a := fun a h1 h2 => absurd h1 (Nat.not_lt.mpr h2)
  have h0 : ∀ i : Nat, ∃ q : Nat × Nat, i < 13 → (stT i).eval args s none [] s = some (.ref q.1) ∧ va_O "java/lang/String" q.1 (fun q : Nat => s.heap.size ≤ q) s s.heap ∧ va_OF "java/lang/String" "coder" "B" (.int 0) q.1 (fun q : Nat => s.heap.size ≤ q) s s.heap ∧ va_OF "java/lang/String" "value" "[B" (.ref q.2) q.1 (fun q : Nat => s.heap.size ≤ q) s s.heap ∧ va_T .byte q.2 (wBytes i).length (fun j => .int (Int32.ofInt ((wBytes i).getD j 0))) (fun q : Nat => s.heap.size ≤ q) s s.heap := by
    intro i
    by_cases hi : i < 13
    · have e1 := hs _ (st_1 i hi)
      obtain ⟨a, c, cA, kA, q1, q2, q3, q4, q5, q6, -⟩ := Cond.exactly_spec e1
      obtain ⟨t, ht, hT⟩ := va_Tof (f := fun j => .int (Int32.ofInt ((wBytes i).getD j 0))) (st_7 i hi) (hs _ (st_3 i hi)) (va_eqt (hs _ (st_4 i hi))) (fun j hj => va_eqt (hs _ (st_5 i hi j hj))) hA
      exact ⟨(a, t), fun _ => ⟨q1, va_Oof e1 q1 hA, vk_OFof q1 (va_eqt (hs _ (st_2 i hi))) hA, vk_OFof q1 ht hA, hT⟩⟩
    · exact ⟨(0, 0), fun h => absurd h hi⟩
  obtain ⟨ad, had⟩ := Classical.axiomOfChoice h0
  obtain ⟨⟨p1, p2, p3⟩, ⟨p4, p5⟩, ⟨p6, p7⟩⟩ := sw_6
  obtain ⟨⟨p8, p9⟩, ⟨p10, p11⟩⟩ := sw_6a
  obtain ⟨⟨r1, r2, r3, r4, r7⟩, ⟨r5, r6⟩⟩ := sw_7
  obtain ⟨t1, t2, t3, t4⟩ := st_s
  obtain ⟨d1, d2, d3, d4, d5⟩ := dg_1
  obtain ⟨⟨n0, n1, n2, n3, n4, n5⟩, ⟨n6, n7, n8, n9, n10, n11⟩⟩ := sw_8
  obtain ⟨c0, i0, k0⟩ := u_known hall inX0 (hts _ n0)
  obtain ⟨c1, i1, k1⟩ := u_known hall inX1 (hts _ n1)
  obtain ⟨c2, i2, k2⟩ := u_known hall inX2 (hts _ n2)
  obtain ⟨c3, i3, k3⟩ := u_known hall inX3 (hts _ n3)
  obtain ⟨c4, i4, k4⟩ := u_known hall inX4 (hts _ n4)
  obtain ⟨c5, i5, k5⟩ := u_known hall inX5 (hts _ n5)
  obtain ⟨c6, i6, k6⟩ := u_known hall inX6 (hts _ n6)
  obtain ⟨c7, i7, k7⟩ := u_known hall inX7 (hts _ n7)
  obtain ⟨c8, i8, k8⟩ := u_known hall inX8 (hts _ n8)
  obtain ⟨c9, i9, k9⟩ := u_known hall inJ0 (hts _ n9)
  obtain ⟨c10, i10, k10⟩ := u_known hall inJ4 (hts _ n10)
  obtain ⟨c11, i11, k11⟩ := u_known hall inJx4a65c (hts _ n11)
  obtain ⟨a0, g0⟩ := ar_prim (hts _ r5) (by intro C h; cases h)
  obtain ⟨a1, g1⟩ := ar_prim (hts _ r6) (by intro C h; cases h)
  obtain ⟨a2, g2⟩ := ar_obj (hts _ r7)
  obtain ⟨a4, g4⟩ := ar_obj (hts _ r1)
  obtain ⟨a5, g5⟩ := ar_obj (hts _ r2)
  obtain ⟨a6, g6⟩ := ar_obj (hts _ r3)
  obtain ⟨a7, g7⟩ := ar_arr (hts _ r4)
  have l0 : ∀ i : Nat, ∃ q : Nat × Nat, i < 9 → (ltT i).eval args s none [] s = some (.ref q.1) ∧ (∃ cell : Cell, s.heap[q.1]? = some cell ∧ cell.cls = c9 ∧ (cell.vm ≠ .unknown ∧ cell.vm.isStatics = false) ∧ cell.slots[i9 0]? = some (.ref q.2) ∧ cell.slots[i9 1]? = some (.int 0)) ∧ ∃ cell : Cell, s.heap[q.2]? = some cell ∧ cell.cls = a0 ∧ (cell.vm ≠ .unknown ∧ cell.vm.isStatics = false) ∧ cell.slots.size = (fBytes i).length ∧ ∀ j : Nat, j < (fBytes i).length → cell.slots[j]? = some (.int (Int32.ofInt ((fBytes i).getD j 0))) := by
    intro i
    by_cases hi : i < 9
    · have e1 := hs _ (lt_1 i hi)
      obtain ⟨a, c, cA, kA, q1, -⟩ := Cond.exactly_spec e1
      obtain ⟨t, ht, hT⟩ := st_arr (f := fun j => .int (Int32.ofInt ((fBytes i).getD j 0))) (Nat.lt_trans (lt_7 i hi) (by decide)) (va_eqt (hs _ (lt_4 i hi))) (fun j hj => va_eqt (hs _ (lt_5 i hi j hj))) (hs _ (lt_6 i hi)) (va_nm_byte g0.2)
      exact ⟨(a, t), fun _ => ⟨q1, st_str e1 q1 ht (va_eqt (hs _ (lt_2 i hi))) k9, hT⟩⟩
    · exact ⟨(0, 0), fun h => absurd h hi⟩
  obtain ⟨bd, hbd⟩ := Classical.axiomOfChoice l0
  obtain ⟨dg, hdg, hdgc⟩ := st_arr (N := 100) (f := fun j => .int (Int32.ofInt (48 + (j : Int) % 10))) (by decide) (va_eqt (hs _ d2)) (fun j hj => va_eqt (hs _ (dg_2 j hj))) (hs _ d1) (va_nm_byte g0.2)
  obtain ⟨em, hem, ec, hec1, hec2, hec3, hec4, -⟩ := st_arr (N := 0) (f := fun _ => .int 0) (by decide) (va_eqt (hs _ d4)) (fun j hj => absurd hj (Nat.not_lt_zero j)) (hs _ d3) (va_nmO g2.2 (by decide +kernel))
  obtain ⟨mi, hmi⟩ := va_Mi.of (hs _ d5)
  obtain ⟨scr, x1, x2, x3, x4, x5⟩ := hX
  obtain ⟨o, ho⟩ : ∃ o : Option Nat, va_Z "jdk/internal/util/Preconditions" "SIOOBE_FORMATTER" "Ljava/util/function/BiFunction;" (va_rf o) (fun q : Nat => s.heap.size ≤ q) s s.heap := by
    rcases va_Zqof (hts _ p6) (hts _ p7) (hs _ t4) hA with h | ⟨t, h⟩
    · exact ⟨none, h⟩
    · exact ⟨some t, h⟩
  obtain ⟨gk, hk, hl, hmk, hek, hdk, hbk⟩ : ∃ gk : Nat → Nat, (∀ i, i < 13 → gk i = (ad i).1 ∧ gk (i + 13) = (ad i).2) ∧ (∀ i, i < 9 → gk (102 + 2 * i) = (bd i).1 ∧ gk (103 + 2 * i) = (bd i).2) ∧ gk 27 = mi ∧ gk 101 = em ∧ gk 120 = dg ∧ gk 121 = b := by
    refine ⟨fun k => if k < 13 then (ad k).1 else if k < 26 then (ad (k - 13)).2 else if k = 27 then mi else if k = 101 then em else if k = 120 then dg else if k = 121 then b else if k % 2 = 0 then (bd ((k - 102) / 2)).1 else (bd ((k - 103) / 2)).2, fun i hi => ⟨if_pos hi, ?_⟩, fun i hi => ⟨?_, ?_⟩, rfl, rfl, rfl, rfl⟩
    · show (if i + 13 < 13 then _ else if i + 13 < 26 then (ad (i + 13 - 13)).2 else _) = _
      rw [if_neg (by omega), if_pos (by omega), Nat.add_sub_cancel]
    · show (if 102 + 2 * i < 13 then _ else if 102 + 2 * i < 26 then _ else if 102 + 2 * i = 27 then _ else if 102 + 2 * i = 101 then _ else if 102 + 2 * i = 120 then _ else if 102 + 2 * i = 121 then _ else if (102 + 2 * i) % 2 = 0 then (bd ((102 + 2 * i - 102) / 2)).1 else _) = _
      rw [if_neg (by omega), if_neg (by omega), if_neg (by omega), if_neg (by omega), if_neg (by omega), if_neg (by omega), if_pos (by omega), show (102 + 2 * i - 102) / 2 = i by omega]
    · show (if 103 + 2 * i < 13 then _ else if 103 + 2 * i < 26 then _ else if 103 + 2 * i = 27 then _ else if 103 + 2 * i = 101 then _ else if 103 + 2 * i = 120 then _ else if 103 + 2 * i = 121 then _ else if (103 + 2 * i) % 2 = 0 then _ else (bd ((103 + 2 * i - 103) / 2)).2) = _
      rw [if_neg (by omega), if_neg (by omega), if_neg (by omega), if_neg (by omega), if_neg (by omega), if_neg (by omega), if_neg (by omega), show (103 + 2 * i - 103) / 2 = i by omega]
  refine ⟨((fun k => match k with | 0 => c0 | 1 => c1 | 2 => c2 | 3 => c3 | 4 => c4 | 5 => c5 | 6 => c6 | 7 => c7 | 8 => c8 | 9 => c9 | 10 => c10 | _ => c11, fun k => match k with | 0 => i0 | 1 => i1 | 2 => i2 | 3 => i3 | 4 => i4 | 5 => i5 | 6 => i6 | 7 => i7 | 8 => i8 | 9 => i9 | 10 => i10 | _ => i11), s.heap.size, (fun t => match t with | 0 => a0 | 1 => a1 | 2 => a2 | 3 => a0 | 4 => a4 | 5 => a5 | 6 => a6 | 7 => a7 | _ => scr.cls), gk, o), ⟨⟨⟨fun k q hq => ?_, fun k q hq => ?_⟩, Nat.le_refl _, ?_⟩, ⟨vx_Zqof (hts _ p1) (hts _ p3) (hs _ t1) hA, vx_Zqof (hts _ p2) (hts _ p3) (hs _ t2) hA⟩, ⟨va_Zof (hts _ p4) (hts _ p5) (va_eqi (hs _ t3)) hA, ho, ?_, ?_⟩, fun i hi => ?_, fun q hq => ?_, fun q hq => ?_, fun w hw => va_Nw.of (sw_3 w hw).2 (hts _ (sw_3 w hw).1), fun q hq => va_Nw.of rfl (hts _ (sw_4 q hq)), fun q hq => ?_, va_AO.of (hts _ r1), va_AO.of (hts _ r2), va_AO.of (hts _ r3), hts _ r4, fun x hx => va_Nw.of rfl (hts _ (sw_5 x hx)), va_AO.of (hts _ r7), ?_, va_Dc.of (hts _ sw_5o), fun w hw => va_Nw.of (sw_3f w hw).2 (hts _ (sw_3f w hw).1)⟩, rfl, hbk, ?_⟩
  · match k, hq with
    | 0, hq => cases hq; exact k0
    | 1, hq => cases hq; exact k1
    | 2, hq => cases hq; exact k2
    | 3, hq => cases hq; exact k3
    | 4, hq => cases hq; exact k4
    | 5, hq => cases hq; exact k5
    | 6, hq => cases hq; exact k6
    | 7, hq => cases hq; exact k7
    | 8, hq => cases hq; exact k8
    | 9, hq => cases hq; exact k9
    | 10, hq => cases hq; exact k10
    | 11, hq => cases hq; exact k11
    | k + 12, hq => cases hq
  · match k, hq with
    | 0, hq => cases hq; exact g0
    | 1, hq => cases hq; exact g1
    | 2, hq => cases hq; exact g2
    | 3, hq => cases hq; exact g0
    | 4, hq => cases hq; exact g4
    | 5, hq => cases hq; exact g5
    | 6, hq => cases hq; exact g6
    | 7, hq => cases hq; exact g7
    | k + 8, hq => cases hq
  · exact fun n z => ⟨fun k h => (by cases h), x2.2⟩
  · show va_Z _ _ _ (.ref (gk 101)) _ s s.heap
    rw [hek]
    exact va_Zof (hts _ p8) (hts _ p9) hem hA
  · show va_Z _ _ _ (.ref (gk 120)) _ s s.heap
    rw [hdk]
    exact va_Zof (hts _ p10) (hts _ p11) hdg hA
  · show va_O _ (gk i) _ s s.heap ∧ va_OF _ _ _ _ (gk i) _ s s.heap ∧ va_OF _ _ _ (.ref (gk (i + 13))) (gk i) _ s s.heap ∧ va_T _ (gk (i + 13)) _ _ _ s s.heap
    rw [(hk i hi).1, (hk i hi).2]
    exact (had i hi).2
  · obtain ⟨hi, f1, f2⟩ := st_w q hq
    show vk_R q.1 q.2.1 q.2.2.1 (gk q.2.2.2) s
    rw [(hk _ hi).1]
    refine vk_R.of (A := args) (hts _ (sw_1 q hq)) ?_
    rw [f1, f2]
    exact (had q.2.2.2 hi).1
  · obtain ⟨a, c, cA, kA, q1, -⟩ := Cond.exactly_spec (hs _ (st_9 q hq))
    exact ⟨a, vk_R.of (A := args) (hts _ (sw_2 q hq)) q1⟩
  · obtain ⟨i, hi, f0, f1, f2⟩ := lt_w q hq
    show vk_R q.1 q.2.1 q.2.2.1 (gk (100 + q.2.2.2)) s
    rw [f0, show 100 + (2 + 2 * i) = 102 + 2 * i by omega, (hl i hi).1]
    refine vk_R.of (A := args) (hts _ (sw_2l q hq)) ?_
    rw [f1, f2]
    exact (hbd i hi).1
  · show va_Mi _ (gk 27) s
    rw [hmk]
    exact hmi
  · have hsz : ∀ {q : Nat} {cell : Cell}, s.heap[q]? = some cell → q < s.heap.size := fun h => (Array.getElem?_eq_some_iff.mp h).1
    refine gp_start (fun j => ⟨Int32.le_toInt _, Int32.toInt_lt _⟩) hL (fun k h0 h1 => ?_) (fun i hi => ?_) (fun i hi => ?_) ?_ ?_ ?_
    · show gk (100 + k) < s.heap.size
      by_cases e1 : k = 1
      · rw [e1, show 100 + 1 = 101 from rfl, hek]
        exact hsz hec1
      by_cases e2 : k = 20
      · rw [e2, show 100 + 20 = 120 from rfl, hdk]
        obtain ⟨dc, w, -⟩ := hdgc
        exact hsz w
      by_cases e3 : k = 21
      · rw [e3, show 100 + 21 = 121 from rfl, hbk]
        exact hbl
      by_cases e4 : k % 2 = 0
      · obtain ⟨-, ⟨dc, w, -⟩, -⟩ := hbd ((k - 2) / 2) (by omega)
        rw [show 100 + k = 102 + 2 * ((k - 2) / 2) by omega, (hl _ (by omega)).1]
        exact hsz w
      · obtain ⟨-, -, dc, w, -⟩ := hbd ((k - 3) / 2) (by omega)
        rw [show 100 + k = 103 + 2 * ((k - 3) / 2) by omega, (hl _ (by omega)).2]
        exact hsz w
    · show ∃ cell : Cell, s.heap[gk (102 + 2 * i)]? = some cell ∧ cell.cls = c9 ∧ (cell.vm ≠ .unknown ∧ cell.vm.isStatics = false) ∧ cell.slots[i9 0]? = some (.ref (gk (103 + 2 * i))) ∧ cell.slots[i9 1]? = some (.int 0)
      rw [(hl i hi).1, (hl i hi).2]
      exact (hbd i hi).2.1
    · show ∃ cell : Cell, s.heap[gk (103 + 2 * i)]? = some cell ∧ cell.cls = a0 ∧ _
      rw [(hl i hi).2]
      exact (hbd i hi).2.2
    · show ∃ cell : Cell, s.heap[gk 101]? = some cell ∧ cell.cls = a2 ∧ _
      rw [hek]
      exact ⟨ec, hec1, hec2, hec3, hec4⟩
    · show ∃ cell : Cell, s.heap[gk 120]? = some cell ∧ cell.cls = a0 ∧ _
      rw [hdk]
      exact hdgc
    · show ∃ cell : Cell, s.heap[gk 121]? = some cell ∧ cell.cls = scr.cls ∧ _
      rw [hbk]
      refine ⟨scr, x1, rfl, ⟨x3, ?_⟩, x4, fun j hj => ?_⟩
      · cases hv : scr.vm with
        | statics k => exact absurd hv (x2.1 k)
        | _ => rfl
      · rw [x5 j hj]
        show some (Value.int (xs j)) = some (Value.int (Int32.ofInt (xs ((j : Int)).toNat).toInt))
        rw [Int.toNat_natCast, Int32.ofInt_toInt]
end STA
