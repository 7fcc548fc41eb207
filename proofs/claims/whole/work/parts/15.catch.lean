/-! handlers, switches -/
section VCATCH
variable {Γ : Gam} {κ : Kap} {pc : Nat} {lv : List (Nat × AV)} {st : List AV} {μ : Mem} {r : Rz}
/-- caught by a row of this method's table; the rows ahead name other classes -/
theorem VX_catch (hR : kR κ ≠ 10) {x1 : Int} {name : String} (pre : List ExceptionTableEntry) (x : ExceptionTableEntry) (suf : List ExceptionTableEntry) (hH : kH κ = pre ++ x :: suf) (hpass : ∀ z ∈ pre, z.catchType ≠ 0 ∧ ∃ nm : String, Cond.classLink (kW κ) z.catchType nm ∈ lw_all ∧ (excN x1, nm) ∈ lw_nocast)
    (hcov : covers x pc = true) (h0 : x.catchType ≠ 0) (hlink : Cond.classLink (kW κ) x.catchType name ∈ lw_all) (hcast : (excN x1, name) ∈ lw_cast) (k : ∀ q : Int, V Γ κ x.handlerPc lv [(7, q)] μ r) : VX Γ κ pc lv x1 μ r := by
  obtain ⟨p, l, e, R, s, m, args, below, meth, c, Q, G, ρ0, μ0⟩ := Γ
  intro x' v μ' hr
  refine ⟨(k 0 x' v μ' hr).1, fun O a1 a2 a3 a4 a5 ρ H locs ls rest q9 ce9 b1 b2 b4 b5 b6 hce hcv hcl => ?_⟩
  have hk := (k (q9 : Int) x' v μ' hr).2 O a1 a2 a3 a4 a5 ρ H locs ls b1 b2 (fun q hq => by rw [List.mem_singleton.mp hq]; trivial) b4 b5 b6
  obtain ⟨hx, hb, hml, hown, hts, hcx, hlk, htr, hfr, hlo, hrt, hin9, htab⟩ := O
  refine vx_catch hown pre x suf ((htab hR).trans hH) (fun z hz => ?_) hcov h0 (hts _ hlink) (va_Nw.use rfl (hcx.2.2.2.2.2.2.2.1 _ hcast)) hce hcv hcl hk
  obtain ⟨z0, nm, z1, z2⟩ := hpass z hz
  exact Or.inr ⟨z0, nm, hts _ z1, hcx.2.2.2.2.2.2.2.2.1 _ z2⟩
/-- the static call of a method with handlers -/
theorem V_callSX {d' idx : Nat} {y : MethodName} {bytes : ByteArray} {mL : Nat} {ret : Option FieldType} {hh : List (Nat × Nat × Nat × Nat)} {rt n : Nat} {ys st0 : List AV} {K : Int → Mem → Rz} {X : Int → Int → Mem → Rz} (hM : Con d' y (.codeWith y bytes mL ret hh) rt ys μ r) (hy : Cond.codeWith y bytes mL ret hh ∈ lw_all ∧ Cond.initialized y.cls ∈ lw_all ∧ (y.cls ≠ "java/lang/invoke/MethodHandle" ∧ y.cls ≠ "java/lang/invoke/VarHandle" ∧ (parseMethodDescriptor y.desc).map (fun d => d.parameters.length) = some n) ∧ mL ≤ 41) (hs : Cond.static y ∈ lw_all) (hl : Cond.methodLink (kW κ) idx y ∈ lw_all) (hst : st = ys.reverse ++ st0) (hn : ys.length = n) (hD : d' + 1 ≤ kD κ) (hc : (st0.map fun q => catA q.1).sum ≤ 8) (hdg : decode (kC κ) pc = .ok (.invokestatic idx, 3))
    (kx : ∀ x1 v1 μ1, x1 ≠ 0 → VX Γ κ pc lv x1 μ1 (X x1 v1 μ1)) (k : ∀ v μ1, V Γ κ (pc + 3) lv (rcons rt v st0) μ1 (K v μ1)) : V Γ κ pc lv st μ (CLX r K X) := by
  refine V_callG hM (st_ok hst) ?_ kx k
  obtain ⟨p, l, e, R, s, m, args, below, meth, c, Q, G, ρ0, μ0⟩ := Γ
  intro O ρ H locs ls ce sl mc ms x1 v1 μ1 hsz hxs hgp hMet hpre hf
  obtain ⟨hx, hb, hml, hown, hts, hcx, hlk, htr, hfr, hlo, hrt, hin9, htab⟩ := O
  have cw := vx_cwSW (R := R) (args := args) (own := kW κ) (index := idx) (mc := mc) (ms := ms) (rm := { frames := d', cells := mc, slots := ms, locals := 60 * d' }) n hts (y := y) (bytes := bytes) (maxL := mL) (ret := ret) (hh := hh) (ws := .codeWith y bytes mL ret hh :: lw_all) (good_app (l := [.methodLink (kW κ) idx y, .static y, .initialized y.cls]) (fun w hw => by
    simp only [List.mem_cons, List.not_mem_nil, or_false] at hw
    rcases hw with rfl | rfl | rfl
    · exact hl
    · exact hs
    · exact hy.2.1) hy.1) rfl rfl rfl hy.2.2.1 ⟨by show d' + 1 ≤ _; omega, by show 8 + (mL + 11) + 60 * d' ≤ _; have := hy.2.2.2; omega⟩
  exact vx_runSX (g := F0 m pc ls (st.map (cv G ρ))) ⟨hx, hb, hml, hown, hts⟩ hMet cw ⟨blind, hpre⟩ rfl (by rw [List.length_map]; exact hn) hsz (st_split hst) (by show 2 * 0 + _ ≤ 8; rw [cat_sum]; omega) hdg hf
theorem Con_introH (κ : Kap) {y : MethodName} {hh : List (Nat × Nat × Nat × Nat)} {xs : List AV} {μ : Mem} {r : Rz} (hy : plainName y.cls = true) (hcls : y.cls = kW κ) (hI : kI κ = true → y.name = "<init>") (hR : kR κ ≠ 10) (hH : kH κ = tableOf hh) (hlen : (xs.map fun q => catA q.1).sum ≤ kN κ) (hV : ∀ Γ, V Γ κ 0 (lvE 0 xs) [] μ r) : Con (kD κ) y (.codeWith y (kC κ) (kN κ) (kT κ) hh) (kR κ) xs μ r := by
  intro Γ l hl x v μ' hr
  refine ⟨?_, fun G ρ => ?_⟩
  · have h := hV Γ
    obtain ⟨p, l, e, R, s, m, args, below, meth, c, Q, G, ρ0, μ0⟩ := Γ
    exact (h x v μ' hr).1
  refine vx_ofWH (cc := kC κ) (maxL := kN κ) (ret := kT κ) (hh := hh) hy rfl ?_
  intro p e s m args below meth c s₁ B hml hv
  obtain ⟨rfl, hcx, hgp, hok⟩ := hv
  have hts0 := atoms_spec (ws := Cond.codeWith y (kC κ) (kN κ) (kT κ) hh :: lw_all) B.pre
  have htab := vx_table (x := y) B (hts0 _ List.mem_cons_self)
  have hown : s.vm.findClass y.cls = some m.cls := findClass_of_methodNamed B.named
  rw [hcls] at hown
  obtain ⟨-, h2⟩ := hV (p, l, e, (headSpec (Cond.codeWith y (kC κ) (kN κ) (kT κ) hh :: lw_all) { frames := kD κ, cells := (μ' 0 1 - μ 0 1).toNat, slots := (μ' 0 2 - μ 0 2).toNat, locals := 60 * kD κ }).room, s, m, (xs.map (cv G ρ)).toArray, below, meth, c, QM below (xs.map (cv G ρ)).toArray s G ρ μ (kR κ), G, ρ, μ) x v μ' hr
  have hl9 := lv_entry (xs.map (cv G ρ)) (n := kN κ) (by rw [lg_len]; exact hlen)
  rw [lg_entry_eq]
  have h3 := h2 ⟨B.exec, B.bytes, hml, hown, fun w hw => hts0 w (List.mem_cons_of_mem _ hw), hcx, B.notSynchronized, hl, Nat.le_refl _, Nat.le_refl _, fun _ => ⟨rfl, B.returns⟩, fun h => (name_of_methodNamed B.named B.method).1.trans (hI h), fun _ => by rw [hH]; exact htab⟩ (Int.le_refl _) (Int.le_refl _) (Int.le_refl _) (Nat.le_refl _) (Nat.le_refl _) ρ s.heap [] _ (by rw [lvE_map] at hl9; exact hl9) (lvE_ok xs 0 hok) (fun q hq => by cases hq) hgp va_S.rf Ext.rf
  rw [Int.sub_self, Int.sub_self] at h3
  exact h3
/-- the arms of a switch -/
def SWok (Γ : Gam) (κ : Kap) (pc : Nat) (lv : List (Nat × AV)) (st : List AV) (μ : Mem) : List Int → List Rz → Prop
  | [], [] => True
  | o :: os, r :: rs => (∃ tgt : Nat, (pc : Int) + o = (tgt : Int) ∧ V Γ κ tgt lv st μ r) ∧ SWok Γ κ pc lv st μ os rs
  | _, _ => False
theorem SW_arm {pc0 : Nat} {x : Int} {d : Rz} : ∀ (os : List Int) (rs : List Rz) (lo : Int), SWok Γ κ pc0 lv st μ os rs → (((x < lo ∨ lo + os.length - 1 < x) ∧ SW x lo rs d = d) ∨ (¬ x < lo ∧ ¬ lo + os.length - 1 < x ∧ ∃ o tgt, os[(x - lo).toNat]? = some o ∧ (pc0 : Int) + o = ((tgt : Nat) : Int) ∧ V Γ κ tgt lv st μ (SW x lo rs d)))
  | [], [], lo, _ => Or.inl ⟨by show x < lo ∨ lo + ((0 : Nat) : Int) - 1 < x; omega, rfl⟩
  | o :: os, r :: rs, lo, h => by
    obtain ⟨⟨tgt, h1, h2⟩, h3⟩ := h
    have e : ((o :: os).length : Int) = os.length + 1 := by rw [List.length_cons]; omega
    rw [e]
    by_cases hx : x = lo
    · refine Or.inr ⟨by omega, by omega, o, tgt, ?_, h1, ?_⟩
      · rw [hx, Int.sub_self]
        rfl
      · unfold SW
        rw [if_pos hx]
        exact h2
    · have hs : SW x lo (r :: rs) d = SW x (lo + 1) rs d := by
        rw [SW, if_neg hx]
      rcases SW_arm (x := x) (d := d) os rs (lo + 1) h3 with ⟨g1, g2⟩ | ⟨g1, g2, o', t', g3, g4, g5⟩
      · exact Or.inl ⟨by omega, by rw [hs, g2]⟩
      · refine Or.inr ⟨by omega, by omega, o', t', ?_, g4, by rw [hs]; exact g5⟩
        rw [show (x - lo).toNat = (x - (lo + 1)).toNat + 1 by omega, List.getElem?_cons_succ]
        exact g3
  | [], _ :: _, _, h => False.elim h
  | _ :: _, [], _, h => False.elim h
theorem V_tsw {dflt lo hi : Int} {os : List Int} {len : Nat} {x : Int} {rs : List Rz} {d : Rz} (hdg : decode (kC κ) pc = .ok (.tableswitch dflt lo hi os.toArray, len)) (hhi : lo + os.length - 1 = hi) {tgt : Nat} (ht : (pc : Int) + dflt = (tgt : Int)) (kd : V Γ κ tgt lv st μ d) (ks : SWok Γ κ pc lv st μ os rs) : V Γ κ pc lv ((0, x) :: st) μ (SW x lo rs d) := by
  rcases SW_arm (x := x) (d := d) os rs lo ks with ⟨g1, g2⟩ | ⟨g1, g2, o, t', g3, g4, g5⟩
  · rw [g2]
    refine V_pure (pc' := tgt) (lv' := lv) (st' := st) ?_ (fun b _ => b) (fun _ b => ok_tl b) kd
    obtain ⟨p, l, e, R, s, m, args, below, meth, c, Q, G, ρ0, μ0⟩ := Γ
    intro O
    obtain ⟨hx, hb, hml, hown, hts, hcx, hlk, htr, hfr, hlo, hrt, hin9, htab⟩ := O
    intro ρ H locs ls ce sl Q' b1 b2 b3 b5 kk
    refine lv_tableOut hx hb hdg ?_ ht (kk ls b1)
    rw [oi_to (ok_hd b3), ← hhi]
    exact g1
  · refine V_pure (pc' := t') (lv' := lv) (st' := st) ?_ (fun b _ => b) (fun _ b => ok_tl b) g5
    obtain ⟨p, l, e, R, s, m, args, below, meth, c, Q, G, ρ0, μ0⟩ := Γ
    intro O
    obtain ⟨hx, hb, hml, hown, hts, hcx, hlk, htr, hfr, hlo, hrt, hin9, htab⟩ := O
    intro ρ H locs ls ce sl Q' b1 b2 b3 b5 kk
    refine lv_tableIn hx hb hdg ?_ ?_ (off := o) ?_ g4 (kk ls b1)
    · rw [oi_to (ok_hd b3)]
      exact g1
    · rw [oi_to (ok_hd b3), ← hhi]
      exact g2
    · rw [oi_to (ok_hd b3), List.getElem?_toArray]
      exact g3
end VCATCH
/-! a value that is named -/
