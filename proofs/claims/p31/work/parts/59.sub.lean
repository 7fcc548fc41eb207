/-! private methods of AbstractStringBuilder, called on a StringBuilder -/
theorem sub_in : ∀ w ∈ lw_sub, ∃ y : MethodName, w = Cond.selects RJ4 y y ∧ y.cls = "java/lang/AbstractStringBuilder" ∧ Cond.privateMethod y ∈ lw_tbl ∧ Cond.instanceMethod y ∈ lw_tbl := by
  intro w hw
  unfold lw_sub at hw
  simp only [List.mem_cons, List.not_mem_nil, or_false] at hw
  rcases hw with rfl | rfl | rfl | rfl
  · exact ⟨_, rfl, rfl, by decide +kernel, by decide +kernel⟩
  · exact ⟨_, rfl, rfl, by decide +kernel, by decide +kernel⟩
  · exact ⟨_, rfl, rfl, by decide +kernel, by decide +kernel⟩
  · exact ⟨_, rfl, rfl, by decide +kernel, by decide +kernel⟩
theorem sub_w : Cond.instantiable RJ4 4 ∈ lw_tbl ∧ Cond.selects RJ4 ⟨"java/lang/AbstractStringBuilder", "isLatin1", "()Z"⟩ yJ5_isLatin1_aae02 ∈ lw_tbl := by decide +kernel
theorem sub_sel {y : MethodName} {s : State} {args : Array Value} (hy : y.cls = "java/lang/AbstractStringBuilder") (hts : ∀ w ∈ lw_tbl, w.before args s = true) (hpriv : Cond.privateMethod y ∈ lw_tbl) (hinst : Cond.instanceMethod y ∈ lw_tbl) : (Cond.selects RJ4 y y).before args s = true := by
  obtain ⟨c, k, hc, -⟩ := Cond.instantiable_spec (hts _ sub_w.1)
  obtain ⟨mk, methM, hnamed, hmethM, -, -⟩ := Cond.instanceMethod_spec (hts _ hinst)
  have hfound : s.methodFound? y.cls y.name y.desc = some mk := State.methodFound?_of_named hnamed (by rw [hy]; exact ⟨by decide +kernel, by decide +kernel⟩)
  have hsel : selectMethod {} s.vm c mk = .method mk := selectMethod_private hmethM (Cond.privateMethod_at (hts _ hpriv) mk methM hnamed hmethM)
  obtain ⟨c2, r2, m2, g1, g2, g3, g4, mk2, g5, g6⟩ := Cond.selects_spec (hts _ sub_w.2)
  have e1 := findClass_of_methodNamed g3
  have e2 := findClass_of_methodNamed hnamed
  rw [hy] at e2
  have e : m2.cls = mk.cls := Option.some.inj (e1.symm.trans e2)
  rw [e] at g5
  simp only [Cond.before, Cond.holds, Cond.value, hc, hfound, hnamed, hsel, g5]
  simp
  exact g6
theorem all_hts {s : State} {args : Array Value} (hts : ∀ w ∈ lw_tbl, w.before args s = true) : ∀ w ∈ lw_all, w.before args s = true := by
  intro w h
  rcases lw_all_tbl h with h | h
  · obtain ⟨y, rfl, h1, h2, h3⟩ := sub_in w h
    exact sub_sel h1 hts h2 h3
  · exact hts w h
/-! arrays and Strings that the start gives -/
theorem st_arr {args : Array Value} {s : State} {tm : Term} {cA : ClassId} {nm : String} {N : Nat} {f : Nat → Value} (hN : N < 2 ^ 31) (hlen : (Term.length tm).eval args s none [] s = some (.int (Int32.ofNat N))) (hel : ∀ j : Nat, j < N → (Term.elem tm (.int (Int32.ofNat j))).eval args s none [] s = some (f j)) (hex : (Cond.exactly tm nm).before args s = true) (hc : s.vm.findClass nm = some cA) : ∃ t : Nat, tm.eval args s none [] s = some (.ref t) ∧ ∃ cell : Cell, s.heap[t]? = some cell ∧ cell.cls = cA ∧ (cell.vm ≠ .unknown ∧ cell.vm.isStatics = false) ∧ cell.slots.size = N ∧ ∀ j : Nat, j < N → cell.slots[j]? = some (f j) := by
  obtain ⟨t, cell, ht, hat, hv⟩ := Term.length_spec hlen
  have hsz : cell.slots.size < 2 ^ 31 := by
    have hv2 := hlen
    simp only [Term.eval, ht, hat, Option.bind_eq_bind, Option.bind_some] at hv2
    by_cases hlt : cell.slots.size < 2147483648
    · exact hlt
    · simp [hlt] at hv2
  obtain ⟨hcell, hkn, hst, -⟩ := State.arrayAt?_spec hat
  obtain ⟨a2, c2, cell2, k2, q1, q2, q3, q4, q5, q6, -⟩ := Cond.exactly_spec hex
  cases ht.symm.trans q1
  cases hcell.symm.trans q3
  have hN2 : cell.slots.size = N := by
    have e : Int32.ofNat N = Int32.ofNat cell.slots.size := Value.int.inj hv
    have e2 := congrArg Int32.toInt e
    rw [Int32.toInt_ofNat_small hN, Int32.toInt_ofNat_small hsz] at e2
    exact (Int.ofNat.inj e2).symm
  refine ⟨t, ht, cell, hcell, by rw [q6]; exact Option.some.inj (q2.symm.trans hc), ⟨hkn, hst⟩, hN2, fun j hj => ?_⟩
  obtain ⟨a, i, cell3, h1, h2, h3, h4, h5⟩ := Term.elem_spec (hel j hj)
  cases ht.symm.trans h1
  cases hat.symm.trans h3
  have hi : i = Int32.ofNat j := by
    have e : (Term.int (Int32.ofNat j)).eval args s none [] s = some (.int (Int32.ofNat j)) := rfl
    cases h2.symm.trans e
    rfl
  have hc : i.toNatClampNeg = j := by rw [hi]; exact Int32.toNatClampNeg_ofNat_of_lt (Nat.lt_trans hj hN)
  rw [hc] at h5
  exact h5
theorem st_str {args : Array Value} {s : State} {t : Term} {a v : Nat} {cC : ClassId} {iS : Nat → Nat} (hex : (Cond.exactly t "java/lang/String").before args s = true) (ht : t.eval args s none [] s = some (.ref a)) (hval : (Term.field t "java/lang/String" "value" "[B").eval args s none [] s = some (.ref v)) (hco : (Term.field t "java/lang/String" "coder" "B").eval args s none [] s = some (.int 0)) (hK : u_Kn s RJ0 TJ0 4 cC iS) : ∃ cell : Cell, s.heap[a]? = some cell ∧ cell.cls = cC ∧ (cell.vm ≠ .unknown ∧ cell.vm.isStatics = false) ∧ cell.slots[iS 0]? = some (.ref v) ∧ cell.slots[iS 1]? = some (.int 0) := by
  obtain ⟨a2, c2, cell, k2, q1, q2, q3, q4, q5, q6, -⟩ := Cond.exactly_spec hex
  cases ht.symm.trans q1
  obtain ⟨cf, kf, fi, fd, g1, g2⟩ := hK.1 0 (by decide)
  obtain ⟨-, cell2, e1, e2, e3, -, e5⟩ := Term.field_spec (show s.fieldFound? "java/lang/String" "value" "[B" = some (cf, kf, fi, fd) from g1) ht hval
  obtain ⟨cf', kf', fi', fd', g3, g4⟩ := hK.1 1 (by decide)
  obtain ⟨-, cell3, f1, f2, f3, -, f5⟩ := Term.field_spec (show s.fieldFound? "java/lang/String" "coder" "B" = some (cf', kf', fi', fd') from g3) ht hco
  cases q3.symm.trans e1
  cases q3.symm.trans f1
  refine ⟨cell, q3, ?_, ⟨e2, e3⟩, by rw [← g2]; exact e5, by rw [← g4]; exact f5⟩
  rw [q6]
  exact Option.some.inj (q2.symm.trans hK.2.1)
