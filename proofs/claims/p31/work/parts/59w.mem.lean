/-! the start: what the tables and the statement give of it -/
def stO (i : Nat) : Nat := [66, 89, 94, 99, 104, 141, 191, 193, 195, 197, 199, 201, 203].getD i 0
def stW (i : Nat) : String := ["picture", "tones", "plate", "ink", "limit", "curve", "tone", "x", "y", "round", "line", "diamond", "square"].getD i ""
def lwO (i : Nat) : Nat := [34, 36, 38, 40, 92, 100, 102, 104, 129].getD i 0
abbrev stT (i : Nat) : Term := .string "TonePlates$SetupReader" (stO i)
abbrev stVal (i : Nat) : Term := .field (stT i) "java/lang/String" "value" "[B"
abbrev ltT (i : Nat) : Term := .string "TonePlatesLaw" (lwO i)
abbrev ltVal (i : Nat) : Term := .field (ltT i) "java/lang/String" "value" "[B"
abbrev dgT : Term := .static "java/lang/Integer" "DigitOnes" "[B"
abbrev emT : Term := .static "java/util/ArrayList" "DEFAULTCAPACITY_EMPTY_ELEMENTDATA" "[Ljava/lang/Object;"
abbrev stF : List Cond := flatC (Cond.and given_1 narrow_1)
theorem st_1 : ∀ i, i < 13 → Cond.exactly (stT i) "java/lang/String" ∈ stF := by decide +kernel
theorem st_2 : ∀ i, i < 13 → Cond.eq (.field (stT i) "java/lang/String" "coder" "B") (.int 0) ∈ stF := by decide +kernel
theorem st_3 : ∀ i, i < 13 → Cond.arrayOf (stVal i) .byte ∈ stF := by decide +kernel
theorem st_4 : ∀ i, i < 13 → Cond.eq (.length (stVal i)) (.int (Int32.ofNat (wBytes i).length)) ∈ stF := by decide +kernel
theorem st_5_0 : ∀ j, j < (wBytes 0).length → Cond.eq (.elem (stVal 0) (.int (Int32.ofNat j))) (.int (Int32.ofInt ((wBytes 0).getD j 0))) ∈ stF := by decide +kernel
theorem st_5_1 : ∀ j, j < (wBytes 1).length → Cond.eq (.elem (stVal 1) (.int (Int32.ofNat j))) (.int (Int32.ofInt ((wBytes 1).getD j 0))) ∈ stF := by decide +kernel
theorem st_5_2 : ∀ j, j < (wBytes 2).length → Cond.eq (.elem (stVal 2) (.int (Int32.ofNat j))) (.int (Int32.ofInt ((wBytes 2).getD j 0))) ∈ stF := by decide +kernel
theorem st_5_3 : ∀ j, j < (wBytes 3).length → Cond.eq (.elem (stVal 3) (.int (Int32.ofNat j))) (.int (Int32.ofInt ((wBytes 3).getD j 0))) ∈ stF := by decide +kernel
theorem st_5_4 : ∀ j, j < (wBytes 4).length → Cond.eq (.elem (stVal 4) (.int (Int32.ofNat j))) (.int (Int32.ofInt ((wBytes 4).getD j 0))) ∈ stF := by decide +kernel
theorem st_5_5 : ∀ j, j < (wBytes 5).length → Cond.eq (.elem (stVal 5) (.int (Int32.ofNat j))) (.int (Int32.ofInt ((wBytes 5).getD j 0))) ∈ stF := by decide +kernel
theorem st_5_6 : ∀ j, j < (wBytes 6).length → Cond.eq (.elem (stVal 6) (.int (Int32.ofNat j))) (.int (Int32.ofInt ((wBytes 6).getD j 0))) ∈ stF := by decide +kernel
theorem st_5_7 : ∀ j, j < (wBytes 7).length → Cond.eq (.elem (stVal 7) (.int (Int32.ofNat j))) (.int (Int32.ofInt ((wBytes 7).getD j 0))) ∈ stF := by decide +kernel
theorem st_5_8 : ∀ j, j < (wBytes 8).length → Cond.eq (.elem (stVal 8) (.int (Int32.ofNat j))) (.int (Int32.ofInt ((wBytes 8).getD j 0))) ∈ stF := by decide +kernel
theorem st_5_9 : ∀ j, j < (wBytes 9).length → Cond.eq (.elem (stVal 9) (.int (Int32.ofNat j))) (.int (Int32.ofInt ((wBytes 9).getD j 0))) ∈ stF := by decide +kernel
theorem st_5_10 : ∀ j, j < (wBytes 10).length → Cond.eq (.elem (stVal 10) (.int (Int32.ofNat j))) (.int (Int32.ofInt ((wBytes 10).getD j 0))) ∈ stF := by decide +kernel
theorem st_5_11 : ∀ j, j < (wBytes 11).length → Cond.eq (.elem (stVal 11) (.int (Int32.ofNat j))) (.int (Int32.ofInt ((wBytes 11).getD j 0))) ∈ stF := by decide +kernel
theorem st_5_12 : ∀ j, j < (wBytes 12).length → Cond.eq (.elem (stVal 12) (.int (Int32.ofNat j))) (.int (Int32.ofInt ((wBytes 12).getD j 0))) ∈ stF := by decide +kernel
theorem st_5 : ∀ i, i < 13 → ∀ j, j < (wBytes i).length → Cond.eq (.elem (stVal i) (.int (Int32.ofNat j))) (.int (Int32.ofInt ((wBytes i).getD j 0))) ∈ stF := by
  intro i hi
  match i, hi with
  | 0, _ => exact st_5_0
  | 1, _ => exact st_5_1
  | 2, _ => exact st_5_2
  | 3, _ => exact st_5_3
  | 4, _ => exact st_5_4
  | 5, _ => exact st_5_5
  | 6, _ => exact st_5_6
  | 7, _ => exact st_5_7
  | 8, _ => exact st_5_8
  | 9, _ => exact st_5_9
  | 10, _ => exact st_5_10
  | 11, _ => exact st_5_11
  | 12, _ => exact st_5_12
  | i + 13, h => omega
theorem st_7 : ∀ i, i < 13 → (wBytes i).length < 2 ^ 31 := by decide +kernel
theorem st_9 : ∀ q ∈ msgs, Cond.exactly (.string q.1 q.2.1) "java/lang/String" ∈ stF := by decide +kernel
theorem st_w : ∀ q ∈ wrds, q.2.2.2 < 13 ∧ q.1 = "TonePlates$SetupReader" ∧ q.2.1 = stO q.2.2.2 := by decide +kernel
theorem lt_1 : ∀ i, i < 9 → Cond.exactly (ltT i) "java/lang/String" ∈ stF := by decide +kernel
theorem lt_2 : ∀ i, i < 9 → Cond.eq (.field (ltT i) "java/lang/String" "coder" "B") (.int 0) ∈ stF := by decide +kernel
theorem lt_4 : ∀ i, i < 9 → Cond.eq (.length (ltVal i)) (.int (Int32.ofNat (fBytes i).length)) ∈ stF := by decide +kernel
theorem lt_5_0 : ∀ j, j < (fBytes 0).length → Cond.eq (.elem (ltVal 0) (.int (Int32.ofNat j))) (.int (Int32.ofInt ((fBytes 0).getD j 0))) ∈ stF := by decide +kernel
theorem lt_5_1 : ∀ j, j < (fBytes 1).length → Cond.eq (.elem (ltVal 1) (.int (Int32.ofNat j))) (.int (Int32.ofInt ((fBytes 1).getD j 0))) ∈ stF := by decide +kernel
theorem lt_5_2 : ∀ j, j < (fBytes 2).length → Cond.eq (.elem (ltVal 2) (.int (Int32.ofNat j))) (.int (Int32.ofInt ((fBytes 2).getD j 0))) ∈ stF := by decide +kernel
theorem lt_5_3 : ∀ j, j < (fBytes 3).length → Cond.eq (.elem (ltVal 3) (.int (Int32.ofNat j))) (.int (Int32.ofInt ((fBytes 3).getD j 0))) ∈ stF := by decide +kernel
theorem lt_5_4 : ∀ j, j < (fBytes 4).length → Cond.eq (.elem (ltVal 4) (.int (Int32.ofNat j))) (.int (Int32.ofInt ((fBytes 4).getD j 0))) ∈ stF := by decide +kernel
theorem lt_5_5 : ∀ j, j < (fBytes 5).length → Cond.eq (.elem (ltVal 5) (.int (Int32.ofNat j))) (.int (Int32.ofInt ((fBytes 5).getD j 0))) ∈ stF := by decide +kernel
theorem lt_5_6 : ∀ j, j < (fBytes 6).length → Cond.eq (.elem (ltVal 6) (.int (Int32.ofNat j))) (.int (Int32.ofInt ((fBytes 6).getD j 0))) ∈ stF := by decide +kernel
theorem lt_5_7 : ∀ j, j < (fBytes 7).length → Cond.eq (.elem (ltVal 7) (.int (Int32.ofNat j))) (.int (Int32.ofInt ((fBytes 7).getD j 0))) ∈ stF := by decide +kernel
theorem lt_5_8 : ∀ j, j < (fBytes 8).length → Cond.eq (.elem (ltVal 8) (.int (Int32.ofNat j))) (.int (Int32.ofInt ((fBytes 8).getD j 0))) ∈ stF := by decide +kernel
theorem lt_5 : ∀ i, i < 9 → ∀ j, j < (fBytes i).length → Cond.eq (.elem (ltVal i) (.int (Int32.ofNat j))) (.int (Int32.ofInt ((fBytes i).getD j 0))) ∈ stF := by
  intro i hi
  match i, hi with
  | 0, _ => exact lt_5_0
  | 1, _ => exact lt_5_1
  | 2, _ => exact lt_5_2
  | 3, _ => exact lt_5_3
  | 4, _ => exact lt_5_4
  | 5, _ => exact lt_5_5
  | 6, _ => exact lt_5_6
  | 7, _ => exact lt_5_7
  | 8, _ => exact lt_5_8
  | i + 9, h => omega
theorem lt_6 : ∀ i, i < 9 → Cond.exactly (ltVal i) "[B" ∈ stF := by decide +kernel
theorem lt_7 : ∀ i, i < 9 → (fBytes i).length < 100 := by decide +kernel
theorem lt_8 : ∀ i, i < 9 → ∀ j, j < (fBytes i).length → 0 ≤ (fBytes i).getD j 0 ∧ (fBytes i).getD j 0 < 128 := by decide +kernel
theorem lt_w : ∀ q ∈ lwds, ∃ i, i < 9 ∧ q.2.2.2 = 2 + 2 * i ∧ q.1 = "TonePlatesLaw" ∧ q.2.1 = lwO i := by
  intro q hq
  unfold lwds at hq
  simp only [List.mem_cons, List.not_mem_nil, or_false] at hq
  rcases hq with rfl | rfl | rfl | rfl | rfl | rfl | rfl | rfl | rfl
  · exact ⟨0, by decide, rfl, rfl, rfl⟩
  · exact ⟨1, by decide, rfl, rfl, rfl⟩
  · exact ⟨2, by decide, rfl, rfl, rfl⟩
  · exact ⟨3, by decide, rfl, rfl, rfl⟩
  · exact ⟨4, by decide, rfl, rfl, rfl⟩
  · exact ⟨5, by decide, rfl, rfl, rfl⟩
  · exact ⟨6, by decide, rfl, rfl, rfl⟩
  · exact ⟨7, by decide, rfl, rfl, rfl⟩
  · exact ⟨8, by decide, rfl, rfl, rfl⟩
theorem dg_1 : Cond.exactly dgT "[B" ∈ stF ∧ Cond.eq (.length dgT) (.int 100) ∈ stF ∧ Cond.exactly emT "[Ljava/lang/Object;" ∈ stF ∧ Cond.eq (.length emT) (.int 0) ∈ stF ∧ Cond.isRef (.mirror "[Ljava/lang/Object;") ∈ stF := by decide +kernel
theorem dg_2 : ∀ j, j < 100 → Cond.eq (.elem dgT (.int (Int32.ofNat j))) (.int (Int32.ofInt (48 + (j : Int) % 10))) ∈ stF := by decide +kernel
theorem sw_1 : ∀ q ∈ wrds, Cond.stringRef q.1 q.2.1 q.2.2.1 ∈ lw_tbl := by decide +kernel
theorem sw_2 : ∀ q ∈ msgs, Cond.stringRef q.1 q.2.1 q.2.2 ∈ lw_tbl := by decide +kernel
theorem sw_2l : ∀ q ∈ lwds, Cond.stringRef q.1 q.2.1 q.2.2.1 ∈ lw_tbl := by decide +kernel
theorem sw_3 : ∀ w ∈ lw_nest, w ∈ lw_tbl ∧ w.onTables = true := by decide +kernel
theorem sw_3f : ∀ w ∈ lw_fnest, w ∈ lw_tbl ∧ w.onTables = true := by decide +kernel
theorem sw_4 : ∀ q ∈ lw_cast, Cond.castable q.1 q.2 ∈ lw_tbl := by decide +kernel
theorem sw_5 : ∀ x ∈ lw_decl, Cond.declares x ∈ lw_tbl := by decide +kernel
theorem sw_5o : Cond.declares ⟨"java/lang/Object", "getClass", "()Ljava/lang/Class;"⟩ ∈ lw_tbl := by decide +kernel
theorem sw_6 : (Cond.laysStatic Bundle.tN "UNASSIGNED_STACK" Bundle.steD ∈ lw_tbl ∧ Cond.laysStatic Bundle.tN "SUPPRESSED_SENTINEL" Bundle.listD ∈ lw_tbl ∧ Cond.initialized Bundle.tN ∈ lw_tbl) ∧ (Cond.laysStatic "java/lang/String" "COMPACT_STRINGS" "Z" ∈ lw_tbl ∧ Cond.initialized "java/lang/String" ∈ lw_tbl) ∧ (Cond.laysStatic "jdk/internal/util/Preconditions" "SIOOBE_FORMATTER" "Ljava/util/function/BiFunction;" ∈ lw_tbl ∧ Cond.initialized "jdk/internal/util/Preconditions" ∈ lw_tbl) := by decide +kernel
theorem sw_6a : (Cond.laysStatic "java/util/ArrayList" "DEFAULTCAPACITY_EMPTY_ELEMENTDATA" "[Ljava/lang/Object;" ∈ lw_tbl ∧ Cond.initialized "java/util/ArrayList" ∈ lw_tbl) ∧ (Cond.laysStatic "java/lang/Integer" "DigitOnes" "[B" ∈ lw_tbl ∧ Cond.initialized "java/lang/Integer" ∈ lw_tbl) := by decide +kernel
theorem sw_7 : (Cond.arrayOver (.object "TonePlates$Sheet") ∈ lw_tbl ∧ Cond.arrayOver (.object "TonePlates$Plate") ∈ lw_tbl ∧ Cond.arrayOver (.object "TonePlates$Screen") ∈ lw_tbl ∧ Cond.arrayOver (.array .int) ∈ lw_tbl ∧ Cond.arrayOver (.object "java/lang/Object") ∈ lw_tbl) ∧ (Cond.arrayClass .byte ∈ lw_tbl ∧ Cond.arrayClass .int ∈ lw_tbl) := by decide +kernel
theorem sw_8 : (Cond.instantiable RX0 1 ∈ lw_tbl ∧ Cond.instantiable RX1 8 ∈ lw_tbl ∧ Cond.instantiable RX2 8 ∈ lw_tbl ∧ Cond.instantiable RX3 5 ∈ lw_tbl ∧ Cond.instantiable RX4 13 ∈ lw_tbl ∧ Cond.instantiable RX5 7 ∈ lw_tbl) ∧ (Cond.instantiable RX6 9 ∈ lw_tbl ∧ Cond.instantiable RX7 3 ∈ lw_tbl ∧ Cond.instantiable RX8 7 ∈ lw_tbl ∧ Cond.instantiable RJ0 4 ∈ lw_tbl ∧ Cond.instantiable RJ4 4 ∈ lw_tbl ∧ Cond.instantiable RJx4a65c 3 ∈ lw_tbl) := by decide +kernel
theorem st_s : Cond.isRef (.static Bundle.tN "UNASSIGNED_STACK" Bundle.steD) ∈ stF ∧ Cond.isRef (.static Bundle.tN "SUPPRESSED_SENTINEL" Bundle.listD) ∈ stF ∧ Cond.eq (.static "java/lang/String" "COMPACT_STRINGS" "Z") (.int 1) ∈ stF ∧ Cond.isRef (.static "jdk/internal/util/Preconditions" "SIOOBE_FORMATTER" "Ljava/util/function/BiFunction;") ∈ stF := by decide +kernel
