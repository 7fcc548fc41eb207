/-! the start: what the tables and the statement give of it -/
def stO (i : Nat) : Nat := [66, 89, 94, 99, 104, 141, 191, 193, 195, 197, 199, 201, 203].getD i 0
def stM (i : Nat) : Nat := [266, 253, 223, 248, 261, 242, 214, 219, 221, 234, 236, 238, 240].getD i 0
def stW (i : Nat) : String := ["picture", "tones", "plate", "ink", "limit", "curve", "tone", "x", "y", "round", "line", "diamond", "square"].getD i ""
abbrev stT (i : Nat) : Term := .string "TonePlates$SetupReader" (stO i)
abbrev stVal (i : Nat) : Term := .field (stT i) "java/lang/String" "value" "[B"
abbrev stF : List Cond := flatC (Cond.and given_1 narrow_1)
theorem st_1 : ∀ i, i < 13 → Cond.exactly (stT i) "java/lang/String" ∈ stF := by decide +kernel
theorem st_2 : ∀ i, i < 13 → Cond.eq (.field (stT i) "java/lang/String" "coder" "B") (.int 0) ∈ stF := by decide +kernel
theorem st_3 : ∀ i, i < 13 → Cond.arrayOf (stVal i) .byte ∈ stF := by decide +kernel
theorem st_4 : ∀ i, i < 13 → Cond.eq (.length (stVal i)) (.int (Int32.ofNat (wBytes i).length)) ∈ stF := by decide +kernel
theorem st_5 : ∀ i, i < 13 → ∀ j, j < (wBytes i).length → Cond.eq (.elem (stVal i) (.int (Int32.ofNat j))) (.int (Int32.ofInt ((wBytes i).getD j 0))) ∈ stF := by decide +kernel
theorem st_6 : ∀ i, i < 13 → Cond.eq (stT i) (.string "TonePlatesModel" (stM i)) ∈ stF := by decide +kernel
theorem st_7 : ∀ i, i < 13 → (wBytes i).length < 2 ^ 31 := by decide +kernel
theorem st_8 : ∀ q ∈ lw_nocast, Cond.not (.castable q.1 q.2) ∈ stF := by decide +kernel
theorem st_9 : ∀ q ∈ msgs, Cond.exactly (.string q.1 q.2.1) "java/lang/String" ∈ stF := by decide +kernel
theorem st_w : ∀ q ∈ wrds, (q.2.2.2 < 13 ∧ q.2.2.1 = stW q.2.2.2) ∧ ((q.1 = "TonePlates$SetupReader" ∧ q.2.1 = stO q.2.2.2) ∨ (q.1 = "TonePlatesModel" ∧ q.2.1 = stM q.2.2.2)) := by decide +kernel
theorem sw_1 : ∀ q ∈ wrds, Cond.stringRef q.1 q.2.1 q.2.2.1 ∈ lw_tbl := by decide +kernel
theorem sw_2 : ∀ q ∈ msgs, Cond.stringRef q.1 q.2.1 q.2.2 ∈ lw_tbl := by decide +kernel
theorem sw_3 : ∀ w ∈ lw_nest, w ∈ lw_tbl ∧ w.onTables = true := by decide +kernel
theorem sw_4 : ∀ q ∈ lw_cast, Cond.castable q.1 q.2 ∈ lw_tbl := by decide +kernel
theorem sw_5 : ∀ x ∈ lw_decl, Cond.declares x ∈ lw_tbl := by decide +kernel
theorem sw_6 : (Cond.laysStatic Bundle.tN "UNASSIGNED_STACK" Bundle.steD ∈ lw_tbl ∧ Cond.laysStatic Bundle.tN "SUPPRESSED_SENTINEL" Bundle.listD ∈ lw_tbl ∧ Cond.initialized Bundle.tN ∈ lw_tbl) ∧ (Cond.laysStatic "java/lang/String" "COMPACT_STRINGS" "Z" ∈ lw_tbl ∧ Cond.initialized "java/lang/String" ∈ lw_tbl) ∧ (Cond.laysStatic "jdk/internal/util/Preconditions" "SIOOBE_FORMATTER" "Ljava/util/function/BiFunction;" ∈ lw_tbl ∧ Cond.initialized "jdk/internal/util/Preconditions" ∈ lw_tbl) ∧ (Cond.laysStatic "java/lang/Math" "negativeZeroDoubleBits" "J" ∈ lw_tbl ∧ Cond.initialized "java/lang/Math" ∈ lw_tbl) := by decide +kernel
theorem sw_7 : (Cond.arrayOver (.object "TonePlates$Sheet") ∈ lw_tbl ∧ Cond.arrayOver (.object "TonePlates$Plate") ∈ lw_tbl ∧ Cond.arrayOver (.object "TonePlates$Screen") ∈ lw_tbl ∧ Cond.arrayOver (.array .int) ∈ lw_tbl) ∧ (Cond.arrayClass .byte ∈ lw_tbl ∧ Cond.arrayClass .int ∈ lw_tbl ∧ Cond.arrayClass .long ∈ lw_tbl ∧ Cond.arrayClass .double ∈ lw_tbl) := by decide +kernel
theorem sw_8 : Cond.instantiable RX0 1 ∈ lw_tbl ∧ Cond.instantiable RX1 8 ∈ lw_tbl ∧ Cond.instantiable RX2 8 ∈ lw_tbl ∧ Cond.instantiable RX3 5 ∈ lw_tbl ∧ Cond.instantiable RX4 13 ∈ lw_tbl ∧ Cond.instantiable RX5 7 ∈ lw_tbl ∧ Cond.instantiable RX6 9 ∈ lw_tbl ∧ Cond.instantiable RX7 24 ∈ lw_tbl := by decide +kernel
theorem st_s : Cond.isRef (.static Bundle.tN "UNASSIGNED_STACK" Bundle.steD) ∈ stF ∧ Cond.isRef (.static Bundle.tN "SUPPRESSED_SENTINEL" Bundle.listD) ∈ stF ∧ Cond.eq (.static "java/lang/String" "COMPACT_STRINGS" "Z") (.int 1) ∈ stF ∧ Cond.isRef (.static "jdk/internal/util/Preconditions" "SIOOBE_FORMATTER" "Ljava/util/function/BiFunction;") ∈ stF ∧ Cond.eq (.static "java/lang/Math" "negativeZeroDoubleBits" "J") (.long (-9223372036854775808)) ∈ stF := by decide +kernel
section STA
variable {s : State} {args : Array Value}
/-- an array class of the start -/
theorem ar_prim {ty : FieldType} (h : (Cond.arrayClass ty).before args s = true) (ht : ∀ C, ty ≠ .object C) : ∃ cA, ArrOfT s cA ty ∧ va_RA s cA ty := by
  obtain ⟨cA, kA, comp, h1, h2, h3⟩ := Cond.arrayClass_spec h
  refine ⟨cA, fun n z => ⟨fun k h => (by cases h), kA, h2, comp, h3⟩, ?_⟩
  cases ty with
  | object C => exact absurd rfl (ht C)
  | _ => exact h1
theorem ar_obj {C : String} (h : (Cond.arrayOver (.object C)).before args s = true) : ∃ cA, ArrOfT s cA (.object C) ∧ va_RA s cA (.object C) := by
  obtain ⟨comp, cA, kA, h1, -, h3, h4, h5⟩ := Cond.arrayOver_spec h
  exact ⟨cA, fun n z => ⟨fun k h => (by cases h), kA, h3, comp, h4⟩, kA, comp, h3, h4, h1, h5⟩
theorem ar_arr (h : (Cond.arrayOver (.array .int)).before args s = true) : ∃ cA, ArrOfT s cA (.array .int) ∧ va_RA s cA (.array .int) := by
  obtain ⟨comp, cA, kA, h1, h3, h4, h5⟩ := Cond.arrayOver_specA h
  exact ⟨cA, fun n z => ⟨fun k h => (by cases h), kA, h3, comp, h4⟩, h5⟩
theorem start_cx {b : Nat} (hts : ∀ w ∈ lw_tbl, w.before args s = true) (hgv : (Jvm.Cond.and given_1 narrow_1).before args s = true) : ∃ G : Gc, CxP G s ∧ gB G = s.heap.size ∧ gK G 26 = b := by
  have hs := flat_of_before _ hgv
  have hA : ∀ a : Nat, a < s.heap.size → ¬ (fun q : Nat => s.heap.size ≤ q) a := fun a h1 h2 => absurd h1 (Nat.not_lt.mpr h2)
  have h0 : ∀ i : Nat, ∃ q : Nat × Nat, i < 13 → (stT i).eval args s none [] s = some (.ref q.1) ∧ va_O "java/lang/String" q.1 (fun q : Nat => s.heap.size ≤ q) s s.heap ∧ va_OF "java/lang/String" "coder" "B" (.int 0) q.1 (fun q : Nat => s.heap.size ≤ q) s s.heap ∧ va_OF "java/lang/String" "value" "[B" (.ref q.2) q.1 (fun q : Nat => s.heap.size ≤ q) s s.heap ∧ va_T .byte q.2 (wBytes i).length (fun j => .int (Int32.ofInt ((wBytes i).getD j 0))) (fun q : Nat => s.heap.size ≤ q) s s.heap := by
    intro i
    by_cases hi : i < 13
    · have e1 := hs _ (st_1 i hi)
      obtain ⟨a, c, cA, kA, q1, q2, q3, q4, q5, q6, -⟩ := Cond.exactly_spec e1
      obtain ⟨t, ht, hT⟩ := va_Tof (f := fun j => .int (Int32.ofInt ((wBytes i).getD j 0))) (st_7 i hi) (hs _ (st_3 i hi)) (va_eqt (hs _ (st_4 i hi))) (fun j hj => va_eqt (hs _ (st_5 i hi j hj))) hA
      exact ⟨(a, t), fun _ => ⟨q1, va_Oof e1 q1 hA, vk_OFof q1 (va_eqt (hs _ (st_2 i hi))) hA, vk_OFof q1 ht hA, hT⟩⟩
    · exact ⟨(0, 0), fun h => absurd h hi⟩
  obtain ⟨ad, had⟩ := Classical.axiomOfChoice h0
  obtain ⟨gk, hk, hkb⟩ : ∃ gk : Nat → Nat, (∀ i, i < 13 → gk i = (ad i).1 ∧ gk (i + 13) = (ad i).2) ∧ gk 26 = b := by
    refine ⟨fun k => if k < 13 then (ad k).1 else if k < 26 then (ad (k - 13)).2 else b, fun i hi => ⟨if_pos hi, ?_⟩, rfl⟩
    show (if i + 13 < 13 then (ad (i + 13)).1 else if i + 13 < 26 then (ad (i + 13 - 13)).2 else b) = _
    rw [if_neg (by omega), if_pos (by omega), Nat.add_sub_cancel]
  obtain ⟨⟨p1, p2, p3⟩, ⟨p4, p5⟩, ⟨p6, p7⟩, ⟨p8, p9⟩⟩ := sw_6
  obtain ⟨⟨r1, r2, r3, r4⟩, ⟨r5, r6, r7, r8⟩⟩ := sw_7
  obtain ⟨t1, t2, t3, t4, t5⟩ := st_s
  obtain ⟨n0, n1, n2, n3, n4, n5, n6, n7⟩ := sw_8
  obtain ⟨c0, i0, k0⟩ := u_known (fun w h => hts w (lw_all_tbl h)) inX0 (hts _ n0)
  obtain ⟨c1, i1, k1⟩ := u_known (fun w h => hts w (lw_all_tbl h)) inX1 (hts _ n1)
  obtain ⟨c2, i2, k2⟩ := u_known (fun w h => hts w (lw_all_tbl h)) inX2 (hts _ n2)
  obtain ⟨c3, i3, k3⟩ := u_known (fun w h => hts w (lw_all_tbl h)) inX3 (hts _ n3)
  obtain ⟨c4, i4, k4⟩ := u_known (fun w h => hts w (lw_all_tbl h)) inX4 (hts _ n4)
  obtain ⟨c5, i5, k5⟩ := u_known (fun w h => hts w (lw_all_tbl h)) inX5 (hts _ n5)
  obtain ⟨c6, i6, k6⟩ := u_known (fun w h => hts w (lw_all_tbl h)) inX6 (hts _ n6)
  obtain ⟨c7, i7, k7⟩ := u_known (fun w h => hts w (lw_all_tbl h)) inX7 (hts _ n7)
  obtain ⟨a0, g0⟩ := ar_prim (hts _ r5) (by intro C h; cases h)
  obtain ⟨a1, g1⟩ := ar_prim (hts _ r6) (by intro C h; cases h)
  obtain ⟨a2, g2⟩ := ar_prim (hts _ r7) (by intro C h; cases h)
  obtain ⟨a3, g3⟩ := ar_prim (hts _ r8) (by intro C h; cases h)
  obtain ⟨a4, g4⟩ := ar_obj (hts _ r1)
  obtain ⟨a5, g5⟩ := ar_obj (hts _ r2)
  obtain ⟨a6, g6⟩ := ar_obj (hts _ r3)
  obtain ⟨a7, g7⟩ := ar_arr (hts _ r4)
  obtain ⟨o, ho⟩ : ∃ o : Option Nat, va_Z "jdk/internal/util/Preconditions" "SIOOBE_FORMATTER" "Ljava/util/function/BiFunction;" (va_rf o) (fun q : Nat => s.heap.size ≤ q) s s.heap := by
    rcases va_Zqof (hts _ p6) (hts _ p7) (hs _ t4) hA with h | ⟨t, h⟩
    · exact ⟨none, h⟩
    · exact ⟨some t, h⟩
  refine ⟨((fun k => match k with | 0 => c0 | 1 => c1 | 2 => c2 | 3 => c3 | 4 => c4 | 5 => c5 | 6 => c6 | _ => c7, fun k => match k with | 0 => i0 | 1 => i1 | 2 => i2 | 3 => i3 | 4 => i4 | 5 => i5 | 6 => i6 | _ => i7), s.heap.size, (fun t => match t with | 0 => a0 | 1 => a1 | 2 => a2 | 3 => a3 | 4 => a4 | 5 => a5 | 6 => a6 | _ => a7), gk, o), ⟨⟨⟨fun k q hq => ?_, fun k q hq => ?_⟩, Nat.le_refl _⟩, ⟨vx_Zqof (hts _ p1) (hts _ p3) (hs _ t1) hA, vx_Zqof (hts _ p2) (hts _ p3) (hs _ t2) hA⟩, ⟨va_Zof (hts _ p4) (hts _ p5) (va_eqi (hs _ t3)) hA, ho, va_Zof (hts _ p8) (hts _ p9) (va_eql (hs _ t5)) hA⟩, fun i hi => ?_, fun q hq => ?_, fun q hq => ?_, fun w hw => va_Nw.of (sw_3 w hw).2 (hts _ (sw_3 w hw).1), fun q hq => va_Nw.of rfl (hts _ (sw_4 q hq)), fun q hq => va_Nc.of (hs _ (st_8 q hq)), va_AO.of (hts _ r1), va_AO.of (hts _ r2), va_AO.of (hts _ r3), hts _ r4, fun x hx => va_Nw.of rfl (hts _ (sw_5 x hx))⟩, rfl, hkb⟩
  · match k, hq with
    | 0, hq => cases hq; exact k0
    | 1, hq => cases hq; exact k1
    | 2, hq => cases hq; exact k2
    | 3, hq => cases hq; exact k3
    | 4, hq => cases hq; exact k4
    | 5, hq => cases hq; exact k5
    | 6, hq => cases hq; exact k6
    | 7, hq => cases hq; exact k7
    | k + 8, hq => cases hq
  · match k, hq with
    | 0, hq => cases hq; exact g0
    | 1, hq => cases hq; exact g1
    | 2, hq => cases hq; exact g2
    | 3, hq => cases hq; exact g3
    | 4, hq => cases hq; exact g4
    | 5, hq => cases hq; exact g5
    | 6, hq => cases hq; exact g6
    | 7, hq => cases hq; exact g7
    | k + 8, hq => cases hq
  · show va_O _ (gk i) _ s s.heap ∧ va_OF _ _ _ _ (gk i) _ s s.heap ∧ va_OF _ _ _ (.ref (gk (i + 13))) (gk i) _ s s.heap ∧ va_T _ (gk (i + 13)) _ _ _ s s.heap
    rw [(hk i hi).1, (hk i hi).2]
    exact (had i hi).2
  · obtain ⟨⟨hi, e1⟩, h⟩ := st_w q hq
    have hv := (had q.2.2.2 hi).1
    show vk_R q.1 q.2.1 q.2.2.1 (gk q.2.2.2) s
    rw [(hk _ hi).1]
    refine vk_R.of (A := args) (hts _ (sw_1 q hq)) ?_
    rcases h with ⟨f1, f2⟩ | ⟨f1, f2⟩
    · rw [f1, f2]
      exact hv
    · rw [f1, f2]
      exact va_eqR (hs _ (st_6 q.2.2.2 hi)) hv
  · obtain ⟨a, c, cA, kA, q1, -⟩ := Cond.exactly_spec (hs _ (st_9 q hq))
    exact ⟨a, vk_R.of (A := args) (hts _ (sw_2 q hq)) q1⟩
end STA
