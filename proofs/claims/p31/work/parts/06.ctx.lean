/-! what a method's walk rests on besides the small memory: the tables' words, the classes, statics and string constants of the start -/
/-- private methods of AbstractStringBuilder, called on a StringBuilder: what the tables' words give of them -/
def lw_sub : List Cond := [.selects RJ4 yJ5_ensureCapacityInternal_d00df yJ5_ensureCapacityInternal_d00df, .selects RJ4 yJ5_newCapacity_0f7a4 yJ5_newCapacity_0f7a4, .selects RJ4 yJ5_putStringAt_47b60 yJ5_putStringAt_47b60, .selects RJ4 yJ5_inflateIfNeededFor_a7421 yJ5_inflateIfNeededFor_a7421]
def lw_all : List Cond := (lw_sub ++ lw_tbl).filter goodWord
theorem lw_allOf {w : Cond} (h : w ∈ lw_tbl) (g : goodWord w = true) : w ∈ lw_all := List.mem_filter.mpr ⟨List.mem_append_right _ h, g⟩
theorem lw_allSub {w : Cond} (h : w ∈ lw_sub) (g : goodWord w = true) : w ∈ lw_all := List.mem_filter.mpr ⟨List.mem_append_left _ h, g⟩
theorem lw_all_tbl {w : Cond} (h : w ∈ lw_all) : w ∈ lw_sub ∨ w ∈ lw_tbl := List.mem_append.mp (List.mem_filter.mp h).1
theorem lw_all_good {w : Cond} (h : w ∈ lw_all) : goodWord w = true := (List.mem_filter.mp h).2
theorem good_all {c0 c1 : Cond} (h : c1 ∈ lw_all) : GoodIn lw_all (c1 :: lw_all) := fun w hw => by
  have hm : w ∈ lw_all := by
    rcases List.mem_cons.mp hw with e | e
    · rw [e]; exact h
    · exact e
  exact ⟨hm, good_of_word (lw_all_good hm)⟩
theorem good_app {l : List Cond} {c1 : Cond} (hl : ∀ w ∈ l, w ∈ lw_all) (h : c1 ∈ lw_all) : GoodIn lw_all (l ++ (c1 :: lw_all)) := fun w hw => by
  rcases List.mem_append.mp hw with e | e
  · exact ⟨hl w e, good_of_word (lw_all_good (hl w e))⟩
  · exact good_all (c0 := c1) h w e
/-- the links of nest mates -/
def lw_nest : List Cond := [.methodLinkNest RX2 44 yX3_init "TonePlates", .methodLinkNest RX6 41 yX4_init "TonePlates", .methodLinkNest RX5 37 yX1_init "TonePlates", .methodLinkNest RX0 23 yX6_limited "TonePlates", .methodLinkNest RX3 46 yX6_remainder "TonePlates", .methodLinkNest RX4 129 yX6_packedName "TonePlates"]
/-- the links of fields of nest mates -/
def lw_fnest : List Cond := [.fieldLinkNest "TonePlatesLaw$Screen" 67 "TonePlatesLaw$Place" "x" "I" "TonePlatesLaw", .fieldLinkNest "TonePlatesLaw$Screen" 73 "TonePlatesLaw$Place" "y" "I" "TonePlatesLaw", .fieldLinkNest "TonePlatesLaw" 160 "TonePlatesLaw$Screen" "a" "I" "TonePlatesLaw", .fieldLinkNest "TonePlatesLaw" 163 "TonePlatesLaw$Screen" "b" "I" "TonePlatesLaw", .fieldLinkNest "TonePlatesLaw" 60 "TonePlatesLaw$Screen" "p" "I" "TonePlatesLaw", .fieldLinkNest "TonePlatesLaw" 158 "TonePlatesLaw$Screen" "shape" "I" "TonePlatesLaw", .fieldLinkNest "TonePlatesLaw" 143 "TonePlatesLaw$Screen" "dx" "I" "TonePlatesLaw", .fieldLinkNest "TonePlatesLaw" 146 "TonePlatesLaw$Screen" "dy" "I" "TonePlatesLaw"]
def lw_cast : List (String × String) := [("java/lang/IllegalArgumentException", "java/lang/IllegalArgumentException"), ("java/lang/IndexOutOfBoundsException", "java/lang/IndexOutOfBoundsException"), ("[B", "java/lang/Cloneable"), ("TonePlatesLaw$Place", "java/lang/Object"), ("TonePlatesLaw$Screen", "java/lang/Object")]
def lw_decl : List MethodName := [Bundle.initS "java/lang/RuntimeException", Bundle.initS "java/lang/Exception", Bundle.initS Bundle.tN]
def msgs : List (String × Nat × String) := [("TonePlates", 83, "what is 0 to 8"), ("TonePlates", 279, "no such cell"), ("TonePlates", 232, "the rectangle does not lie within the picture"), ("TonePlates", 234, "tone is 0 to 100"), ("TonePlates", 276, "no such plate"), ("TonePlates", 241, "shape is 0 to 3"), ("TonePlates", 243, "dx and dy are 0 to 17"), ("TonePlates", 245, "dots is 1 to 4"), ("TonePlates", 272, "the buffer has not so many bytes"), ("TonePlates", 181, "what is 0 to 4")]
/-- the words of the parsers: class, entry, text, number of the text -/
def wrds : List (String × Nat × String × Nat) := [("TonePlates$SetupReader", 66, "picture", 0), ("TonePlates$SetupReader", 89, "tones", 1), ("TonePlates$SetupReader", 94, "plate", 2), ("TonePlates$SetupReader", 197, "round", 9), ("TonePlates$SetupReader", 199, "line", 10), ("TonePlates$SetupReader", 201, "diamond", 11), ("TonePlates$SetupReader", 203, "square", 12), ("TonePlates$SetupReader", 141, "curve", 5), ("TonePlates$SetupReader", 191, "tone", 6), ("TonePlates$SetupReader", 193, "x", 7), ("TonePlates$SetupReader", 195, "y", 8), ("TonePlates$SetupReader", 99, "ink", 3), ("TonePlates$SetupReader", 104, "limit", 4)]
/-- the law's own String constants: class, entry, text, number (without its sign) -/
def lwds : List (String × Nat × String × Nat) := [("TonePlatesLaw", 34, "round", 2), ("TonePlatesLaw", 36, "line", 4), ("TonePlatesLaw", 38, "diamond", 6), ("TonePlatesLaw", 40, "square", 8), ("TonePlatesLaw", 92, "picture ", 10), ("TonePlatesLaw", 100, " ", 12), ("TonePlatesLaw", 102, ";limit ", 14), ("TonePlatesLaw", 104, ";tones", 16), ("TonePlatesLaw", 129, "plate ", 18)]
def tysG (G : Gc) : List (ClassId × FieldType) := [(gA G 0, ety 0), (gA G 1, ety 1), (gA G 2, ety 2), (gA G 3, ety 3), (gA G 4, ety 4), (gA G 5, ety 5), (gA G 6, ety 6), (gA G 7, ety 7)]
theorem tysG_at (G : Gc) {t : Nat} (h : t < 8) : (tysG G)[t]? = some (gA G t, ety t) := by
  match t, h with
  | 0, _ => rfl
  | 1, _ => rfl
  | 2, _ => rfl
  | 3, _ => rfl
  | 4, _ => rfl
  | 5, _ => rfl
  | 6, _ => rfl
  | 7, _ => rfl
  | t + 8, h => omega
/-- the classes of the small memory, in its order -/
abbrev vwC : List vw_C := [(RX0, TX0, 1), (RX1, TX1, 8), (RX2, TX2, 8), (RX3, TX3, 5), (RX4, TX4, 13), (RX5, TX5, 7), (RX6, TX6, 9), (RX7, TX7, 3), (RX8, TX8, 7), (RJ0, TJ0, 4), (RJ4, TJ4, 4), (RJx4a65c, TJx4a65c, 3)]
def bA (G : Gc) : Nat → Prop := fun q => gB G ≤ q
def va_AOI (U : State) : Prop := (Cond.arrayOver (.array .int)).before #[] U = true
theorem va_AOI.use {A : Array Value} {U : State} (h : va_AOI U) : (Cond.arrayOver (.array .int)).before A U = true := h
theorem va_AOI.moved {u U : State} (hvm : u.vm.Alike U.vm) (h : va_AOI u) : va_AOI U := by
  have h1 : (Cond.arrayOver (.array .int)).before #[] (u.setVm U.vm) = true := by
    rw [Cond.arrayOver_setVmC hvm]
    exact h
  exact h1
/-- the string constants, 13 of them, and their values behind them -/
def StrP (G : Gc) (s : State) (H : Heap) : Prop := ∀ i : Nat, i < 13 → va_O "java/lang/String" (gK G i) (bA G) s H ∧ va_OF "java/lang/String" "coder" "B" (.int 0) (gK G i) (bA G) s H ∧ va_OF "java/lang/String" "value" "[B" (.ref (gK G (i + 13))) (gK G i) (bA G) s H ∧ va_T .byte (gK G (i + 13)) (wBytes i).length (fun j => .int (Int32.ofInt ((wBytes i).getD j 0))) (bA G) s H
def CxP (G : Gc) (s : State) : Prop :=
  (va_K (gD G) vwC (tysG G) s ∧ gB G ≤ s.heap.size ∧ ArrOfT s (gA G 11) .int) ∧
  (vx_Zq Bundle.tN "UNASSIGNED_STACK" Bundle.steD (bA G) s s.heap ∧ vx_Zq Bundle.tN "SUPPRESSED_SENTINEL" Bundle.listD (bA G) s s.heap) ∧
  (va_Z "java/lang/String" "COMPACT_STRINGS" "Z" (.int 1) (bA G) s s.heap ∧ va_Z "jdk/internal/util/Preconditions" "SIOOBE_FORMATTER" "Ljava/util/function/BiFunction;" (va_rf (gO G)) (bA G) s s.heap ∧ va_Z "java/util/ArrayList" "DEFAULTCAPACITY_EMPTY_ELEMENTDATA" "[Ljava/lang/Object;" (.ref (gK G 101)) (bA G) s s.heap ∧ va_Z "java/lang/Integer" "DigitOnes" "[B" (.ref (gK G 120)) (bA G) s s.heap) ∧
  StrP G s s.heap ∧
  (∀ q ∈ wrds, vk_R q.1 q.2.1 q.2.2.1 (gK G q.2.2.2) s) ∧ (∀ q ∈ msgs, ∃ sa, vk_R q.1 q.2.1 q.2.2 sa s) ∧
  (∀ w ∈ lw_nest, va_Nw w s) ∧ (∀ q ∈ lw_cast, va_Nw (.castable q.1 q.2) s) ∧ (∀ q ∈ lwds, vk_R q.1 q.2.1 q.2.2.1 (gK G (100 + q.2.2.2)) s) ∧
  (va_AO "TonePlates$Sheet" s ∧ va_AO "TonePlates$Plate" s ∧ va_AO "TonePlates$Screen" s ∧ va_AOI s ∧ (∀ x ∈ lw_decl, va_Nw (.declares x) s) ∧ va_AO "java/lang/Object" s ∧ va_Mi "[Ljava/lang/Object;" (gK G 27) s ∧ va_Dc s ∧ ∀ w ∈ lw_fnest, va_Nw w s)
theorem CxP.warm {G : Gc} {s U : State} (hW : s.WarmedH U.vm) (hsz : s.heap.size ≤ U.heap.size) (hq : ∀ q : Nat, q < s.heap.size → ¬ bA G q → U.heap[q]? = s.heap[q]?) (h : CxP G s) : CxP G U := by
  have hvm := hW.alike
  obtain ⟨⟨a1, a2, a3⟩, ⟨b1, b2⟩, ⟨c1, c2, c3, c4⟩, d, e, f, g, i, j, k1, k2, k3, k4, k5, k6, k7, k8, k9⟩ := h
  refine ⟨⟨a1.moved hvm, Nat.le_trans a2 hsz, arrOfT_moved hvm a3⟩, ⟨(b1.moved hvm).kept hq, (b2.moved hvm).kept hq⟩, ⟨(c1.moved hvm).kept hq, (c2.moved hvm).kept hq, (c3.moved hvm).kept hq, (c4.moved hvm).kept hq⟩, fun n hn => ?_, fun q hq => (e q hq).warm hW, fun q hq => ?_, fun w hw => ?_, fun q hq => (i q hq).warmC hW, fun q hq => (j q hq).warm hW, k1.moved hvm, k2.moved hvm, k3.moved hvm, k4.moved hvm, fun x hx => (k5 x hx).warmD hW, k6.moved hvm, k7.moved hvm, k8.moved hvm, fun w hw => ?_⟩
  · obtain ⟨d1, d2, d3, d4⟩ := d n hn
    exact ⟨(d1.moved hvm).kept hq, (d2.moved hvm).kept hq, (d3.moved hvm).kept hq, (d4.moved hvm).kept hq⟩
  · obtain ⟨sa, h1⟩ := f q hq
    exact ⟨sa, h1.warm hW⟩
  · have h1 := g w hw
    unfold lw_nest at hw
    simp only [List.mem_cons, List.not_mem_nil, or_false] at hw
    rcases hw with rfl | rfl | rfl | rfl | rfl | rfl <;> exact h1.warmM hW
  · have h1 := k9 w hw
    unfold lw_fnest at hw
    simp only [List.mem_cons, List.not_mem_nil, or_false] at hw
    rcases hw with rfl | rfl | rfl | rfl | rfl | rfl | rfl | rfl <;> exact h1.warmF hW
theorem CxP.call {G : Gc} {U : State} {g : JFrame} {mk : MethodId} {a : Array Value} (h : CxP G U) : CxP G (U.calling g mk a) :=
  CxP.warm (s := U) (U := U.calling g mk a) (State.WarmedH.refl U) (Nat.le_refl _) (fun _ _ _ => rfl) h
/-! the judgement V: from pc, with the named locals and the stack, over the small memory μ, the method comes to the result r -/
abbrev Gam : Type := Program × Launch × Env × Room × State × MethodId × Array Value × List Frame × Method × Code × (Int → Int → Mem → State → Prop) × Gc × (Int → Nat) × Mem
/-- of a method: its class, code, locals, depth of calls, the tag of its answer (9 nothing, 10 the law's own), its type, whether it is a constructor, its table of handlers -/
abbrev Kap : Type := String × ByteArray × Nat × Nat × Nat × Option FieldType × Bool × List ExceptionTableEntry
abbrev kW (κ : Kap) : String := κ.1
abbrev kC (κ : Kap) : ByteArray := κ.2.1
abbrev kN (κ : Kap) : Nat := κ.2.2.1
abbrev kD (κ : Kap) : Nat := κ.2.2.2.1
abbrev kR (κ : Kap) : Nat := κ.2.2.2.2.1
abbrev kT (κ : Kap) : Option FieldType := κ.2.2.2.2.2.1
abbrev kI (κ : Kap) : Bool := κ.2.2.2.2.2.2.1
abbrev kH (κ : Kap) : List ExceptionTableEntry := κ.2.2.2.2.2.2.2
def excN (x : Int) : String := if x = 1 then "java/lang/IndexOutOfBoundsException" else if x = 2 then "java/lang/IllegalArgumentException" else if x = 3 then "java/lang/IllegalStateException" else "java/util/NoSuchElementException"
def rvO (G : Gc) (ρ : Int → Nat) (rt : Nat) (v : Int) : Option Value := if rt = 9 then none else some (cv G ρ (rt, v))
def QcF (G : Gc) (ρ0 : Int → Nat) (μ0 : Mem) (rt : Nat) (x v : Int) (μ' : Mem) : Array Value → State → Outcome → State → Prop := fun _ st oc t => (x = 0 ∧ ∃ ρ' : Int → Nat, Ext (bd μ0) ρ0 ρ' ∧ oc = .returned (rvO G ρ' rt v) ∧ GP G ρ' μ' t.heap ∧ (rt ≠ 9 → vok (bd μ') (rt, v))) ∧ va_F (bA G) st t
def XcF (G : Gc) (ρ0 : Int → Nat) (μ0 : Mem) (x : Int) (μ' : Mem) : String → State → State → Prop := fun E st t => (E = excN x ∧ x ≠ 0 ∧ ∃ ρ' : Int → Nat, Ext (bd μ0) ρ0 ρ' ∧ GP G ρ' μ' t.heap) ∧ va_F (bA G) st t
def QM (below : List Frame) (args : Array Value) (s : State) (G : Gc) (ρ0 : Int → Nat) (μ0 : Mem) (rt : Nat) : Int → Int → Mem → State → Prop := fun x v μ' => vx_MQ below (QcF G ρ0 μ0 rt x v μ') (XcF G ρ0 μ0 x μ') args s (μ' 0 1 - μ0 0 1).toNat (μ' 0 2 - μ0 0 2).toNat (bA G)
def Ok (Γ : Gam) (κ : Kap) : Prop := match Γ with
  | (p, l, e, R, s, m, args, below, meth, c, Q, G, ρ0, μ0) => p.tables.exec = Jvm.exec ∧ c.code = kC κ ∧ c.maxLocals = kN κ ∧ s.vm.findClass (kW κ) = some m.cls ∧ (∀ w ∈ lw_all, w.before args s = true) ∧ CxP G s ∧ meth.locks = false ∧ l.stackTraces = false ∧ kD κ ≤ R.frames ∧ 60 * kD κ ≤ R.locals ∧
    (kR κ ≠ 10 → Q = QM below args s G ρ0 μ0 (kR κ) ∧ meth.sig.returnType = kT κ) ∧ (kI κ = true → meth.name = "<init>") ∧ (kR κ ≠ 10 → c.exceptionTable.toList = kH κ)
def V (Γ : Gam) (κ : Kap) (pc : Nat) (lv : List (Nat × AV)) (st : List AV) (μ : Mem) (r : Rz) : Prop := match Γ with
  | (p, l, e, R, s, m, args, below, meth, c, Q, G, ρ0, μ0) => ∀ x v μ', r = some (x, v, μ') → (μ 0 0 ≤ μ' 0 0 ∧ μ 0 1 ≤ μ' 0 1 ∧ μ 0 2 ≤ μ' 0 2 ∧ μ' 0 3 ≤ μ 0 3) ∧
    (Ok (p, l, e, R, s, m, args, below, meth, c, Q, G, ρ0, μ0) κ → (μ0 0 0 ≤ μ 0 0 ∧ μ 0 3 ≤ μ0 0 3) → μ0 0 1 ≤ μ 0 1 → μ0 0 2 ≤ μ 0 2 → (μ' 0 1 - μ0 0 1).toNat ≤ R.cells → (μ' 0 2 - μ0 0 2).toNat ≤ R.slots →
      ∀ (ρ : Int → Nat) (H : Heap) (locs : List Loc) (ls : Array Slot), lv_has ls (kN κ) (lv.map fun q => (q.1, cv G ρ q.2)) → (∀ q ∈ lv, vok (bd μ) q.2) → (∀ q ∈ st, vok (bd μ) q) → GP G ρ μ H → va_S (fun q => gB G ≤ q) s.heap H locs → Ext (bd μ0) ρ0 ρ →
        W p l e R s m args below meth c H locs (μ 0 1 - μ0 0 1).toNat (μ 0 2 - μ0 0 2).toNat (Q x v μ') (F0 m pc ls (st.map (cv G ρ))))
