/-! contracts of methods, calls, returns, throws -/
def Con (d : Nat) (y : MethodName) (hd : Cond) (rt : Nat) (xs : List AV) (μ : Mem) (r : Rz) : Prop := ∀ (Γ : Gam) (l : Launch), l.stackTraces = false → ∀ x v μ', r = some (x, v, μ') → (μ 0 0 ≤ μ' 0 0 ∧ μ 0 1 ≤ μ' 0 1 ∧ μ 0 2 ≤ μ' 0 2 ∧ μ' 0 3 ≤ μ 0 3) ∧ ∀ (G : Gc) (ρ : Int → Nat),
  vx_Met l y (hd :: lw_all) ({ frames := d, cells := (μ' 0 1 - μ 0 1).toNat, slots := (μ' 0 2 - μ 0 2).toNat, locals := 60 * d }) (va_Pc (xs.map (cv G ρ)) (fun U => CxP G U ∧ GP G ρ μ U.heap ∧ ∀ q ∈ xs, vok (bd μ) q)) (QcF G ρ μ rt x v μ') (XcF G ρ μ x μ') (μ' 0 1 - μ 0 1).toNat (μ' 0 2 - μ 0 2).toNat (bA G)
def lvE : Nat → List AV → List (Nat × AV)
  | _, [] => []
  | i, x :: xs => (i, x) :: lvE (i + catA x.1) xs
theorem lvE_map (G : Gc) (ρ : Int → Nat) : ∀ (xs : List AV) (i : Nat), lv_args i (xs.map (cv G ρ)) = (lvE i xs).map fun q => (q.1, cv G ρ q.2)
  | [], _ => rfl
  | x :: xs, i => by
    show (i, cv G ρ x) :: lv_args (if (cv G ρ x).category = 2 then i + 2 else i + 1) (xs.map (cv G ρ)) = (i, cv G ρ x) :: (lvE (i + catA x.1) xs).map fun q => (q.1, cv G ρ q.2)
    congr 1
    rw [← lvE_map G ρ xs (i + catA x.1), cv_cat]
    congr 1
    unfold catA
    split <;> simp
theorem lvE_ok {n : Int × Int} : ∀ (xs : List AV) (i : Nat), (∀ q ∈ xs, vok n q) → ∀ q ∈ lvE i xs, vok n q.2
  | [], _, _ => fun q hq => by cases hq
  | x :: xs, i, h => fun q hq => by
    rcases List.mem_cons.mp hq with e | e
    · rw [e]; exact h x List.mem_cons_self
    · exact lvE_ok xs _ (fun q hq => h q (List.mem_cons_of_mem _ hq)) q e
theorem lg_len (G : Gc) (ρ : Int → Nat) : ∀ xs : List AV, (lg_sl (xs.map (cv G ρ))).length = (xs.map fun q => catA q.1).sum
  | [] => rfl
  | x :: xs => by
    have ih := lg_len G ρ xs
    unfold lg_sl at ih ⊢
    rw [List.map_cons, List.flatMap_cons, List.length_append, ih, List.map_cons, List.sum_cons]
    congr 1
    have hc := cv_cat G ρ x
    unfold catA at hc ⊢
    split at hc <;> simp [hc, *]
theorem vy_ofW {l : Launch} {y : MethodName} {ws ws' : List Cond} {rm : Room} {Pc : Array Value → State → Prop} {Qc : Array Value → State → Outcome → State → Prop} {XC : String → State → State → Prop} {mc ms : Nat} {free : Addr → Prop} {cc : ByteArray} {maxL : Nat} {ret : Option FieldType}
    (hy : plainFor y = true) (hw : ws = Cond.code y cc maxL ret :: ws')
    (body : ∀ p e s m args below meth c s₁, BodyLoose p l y (headSpec ws rm) cc maxL ret e s m args below meth c s₁ → c.maxLocals = maxL → (∀ x ∈ c.exceptionTable.toList, False) → Pc args s →
      W p l e (headSpec ws rm).room s m args below meth c s.heap [] 0 0 (vx_MQ below Qc XC args s mc ms free) (entryFrame m args maxL)) : vx_Met l y ws rm Pc Qc XC mc ms free := by
  refine MetFree.of_bodySF (code := cc) (maxLocals := maxL) (ret := ret) hy ?_ ?_
  · intro args s m h hn
    obtain ⟨meth, c, h1, h2, h3, h4, h5, h6, -, -⟩ := Cond.code_spec hn (atoms_spec (ws := ws) h _ (by rw [hw]; exact List.mem_cons_self))
    exact ⟨meth, c, h1, h2, h3, h4, h5, h6⟩
  · intro p e s m args below meth c s₁ B hml hP _
    have hh0 : s₁.heap = s.heap := by rw [B.state]; rfl
    have ht : ∀ x ∈ c.exceptionTable.toList, False := by
      obtain ⟨meth9, c9, h1, h2, -, -, -, -, h7, -⟩ := Cond.code_spec B.named (atoms_spec (ws := ws) B.pre _ (by rw [hw]; exact List.mem_cons_self))
      cases Option.some.inj (h1.symm.trans B.method)
      cases Option.some.inj (h2.symm.trans (Stand.of_body B).code)
      intro x hx
      rw [Array.isEmpty_iff.mp h7] at hx
      cases hx
    obtain ⟨t, a1, o, b1, b2, b3⟩ := body p e s m args below meth c s₁ B hml ht hP s₁ hh0 (Stand.of_body B)
    exact ⟨t, o, a1, b1, b2, b3⟩
theorem Con_intro (κ : Kap) {y : MethodName} {xs : List AV} {μ : Mem} {r : Rz} (hy : plainFor y = true) (hcls : y.cls = kW κ) (hI : kI κ = true → y.name = "<init>") (hR : kR κ ≠ 10) (hH : kH κ = []) (hlen : (xs.map fun q => catA q.1).sum ≤ kN κ) (hV : ∀ Γ, V Γ κ 0 (lvE 0 xs) [] μ r) : Con (kD κ) y (.code y (kC κ) (kN κ) (kT κ)) (kR κ) xs μ r := by
  intro Γ l hl x v μ' hr
  refine ⟨?_, fun G ρ => ?_⟩
  · have h := hV Γ
    obtain ⟨p, l, e, R, s, m, args, below, meth, c, Q, G, ρ0, μ0⟩ := Γ
    exact (h x v μ' hr).1
  refine vy_ofW (cc := kC κ) (maxL := kN κ) (ret := kT κ) hy rfl ?_
  intro p e s m args below meth c s₁ B hml htab hv
  obtain ⟨rfl, hcx, hgp, hok⟩ := hv
  have hts0 := atoms_spec (ws := Cond.code y (kC κ) (kN κ) (kT κ) :: lw_all) B.pre
  have hown : s.vm.findClass y.cls = some m.cls := findClass_of_methodNamed B.named
  rw [hcls] at hown
  obtain ⟨-, h2⟩ := hV (p, l, e, (headSpec (Cond.code y (kC κ) (kN κ) (kT κ) :: lw_all) { frames := kD κ, cells := (μ' 0 1 - μ 0 1).toNat, slots := (μ' 0 2 - μ 0 2).toNat, locals := 60 * kD κ }).room, s, m, (xs.map (cv G ρ)).toArray, below, meth, c, QM below (xs.map (cv G ρ)).toArray s G ρ μ (kR κ), G, ρ, μ) x v μ' hr
  have hl9 := lv_entry (xs.map (cv G ρ)) (n := kN κ) (by rw [lg_len]; exact hlen)
  rw [lg_entry_eq]
  have h3 := h2 ⟨B.exec, B.bytes, hml, hown, fun w hw => hts0 w (List.mem_cons_of_mem _ hw), hcx, B.notSynchronized, hl, Nat.le_refl _, Nat.le_refl _, fun _ => ⟨rfl, B.returns⟩, fun h => (name_of_methodNamed B.named B.method).1.trans (hI h), fun _ => by rw [hH]; exact List.eq_nil_iff_forall_not_mem.mpr htab⟩ ⟨Int.le_refl _, Int.le_refl _⟩ (Int.le_refl _) (Int.le_refl _) (Nat.le_refl _) (Nat.le_refl _) ρ s.heap [] _ (by rw [lvE_map] at hl9; exact hl9) (lvE_ok xs 0 hok) (fun q hq => by cases hq) hgp va_S.rf Ext.rf
  rw [Int.sub_self, Int.sub_self] at h3
  exact h3
theorem mThr_00 (μ : Mem) : mThr μ 0 0 = μ 0 0 := by unfold mThr; rw [if_neg (by omega), if_neg (by omega)]
theorem mThr_03 (μ : Mem) : mThr μ 0 3 = μ 0 3 := by unfold mThr; rw [if_neg (by omega), if_neg (by omega)]
theorem GP.thr {G : Gc} {ρ : Int → Nat} {μ : Mem} {H : Heap} (h : GP G ρ μ H) : GP G ρ (mThr μ) H := by
  have e0 := mThr_00 μ
  have e3 := mThr_03 μ
  have e1 : ∀ a k, a ≠ 0 → mThr μ a k = μ a k := fun a k ha => by unfold mThr; rw [if_neg (by omega), if_neg (by omega)]
  refine ⟨⟨by rw [e0]; exact h.1.1, by rw [e3]; exact h.1.2.1, h.1.2.2⟩, ?_, fun a h0 h1 h2 => ?_, fun a b ha hb h1 h2 h3 h4 => ?_⟩
  · show mThr μ 0 (-1) = 0
    unfold mThr
    rw [if_neg (by omega), if_neg (by omega)]
    exact h.2.1
  · rw [e0] at h2
    rw [e3] at h1
    obtain ⟨g1, g2⟩ := h.2.2.1 a h0 h1 h2
    exact ⟨g1, g2.ext rfl Ext.rf (fun k => e1 a k h0) (by rw [e0, e3]; omega)⟩
  · rw [e0] at h2 h4
    rw [e3] at h1 h3
    exact h.2.2.2 a b ha hb h1 h2 h3 h4
section VCALL
variable {Γ : Gam} {κ : Kap} {pc : Nat} {lv : List (Nat × AV)} {st : List AV} {μ : Mem} {r : Rz}
/-! returns -/
theorem V_vreturn (hR : kR κ = 9) (hT : kT κ = none) (hdg : decode (kC κ) pc = .ok (.return_, 1)) : V Γ κ pc lv [] μ (RT 0 μ) := by
  obtain ⟨p, l, e, R, s, m, args, below, meth, c, Q, G, ρ0, μ0⟩ := Γ
  intro x v μ' hr
  cases hr
  refine ⟨⟨Int.le_refl _, Int.le_refl _, Int.le_refl _, Int.le_refl _⟩, fun O a1 a2 a3 a4 a5 ρ H locs ls b1 b2 b3 b4 b5 b6 => ?_⟩
  obtain ⟨hx, hb, hml, hown, hts, hcx, hlk, htr, hfr, hlo, hrt, hin9, htab⟩ := O
  obtain ⟨hQ, hret⟩ := hrt (by omega)
  rw [hQ]
  refine vx_ret (W.vret hx hb (hret.trans hT) (fun t ht hW => ⟨⟨rfl, ρ, b6, ?_, by rw [ht]; exact b4, fun h => absurd hR h⟩, b5.F ht⟩) b5.2.2 hdg hlk)
  unfold rvO
  rw [if_pos hR]
theorem V_ireturn (hR : kR κ = 0) (hT : kT κ = some .int) {v : Int} (hdg : decode (kC κ) pc = .ok (.ireturn, 1)) : V Γ κ pc lv [(0, v)] μ (RT v μ) := by
  obtain ⟨p, l, e, R, s, m, args, below, meth, c, Q, G, ρ0, μ0⟩ := Γ
  intro x v μ' hr
  cases hr
  refine ⟨⟨Int.le_refl _, Int.le_refl _, Int.le_refl _, Int.le_refl _⟩, fun O a1 a2 a3 a4 a5 ρ H locs ls b1 b2 b3 b4 b5 b6 => ?_⟩
  obtain ⟨hx, hb, hml, hown, hts, hcx, hlk, htr, hfr, hlo, hrt, hin9, htab⟩ := O
  obtain ⟨hQ, hret⟩ := hrt (by omega)
  rw [hQ, hR]
  exact vx_ret (W.iret hx hb (hret.trans hT) (fun t ht hW => ⟨⟨rfl, ρ, b6, rfl, by rw [ht]; exact b4, fun _ => ok_hd b3⟩, b5.F ht⟩) b5.2.2 hdg hlk)
theorem V_zreturnG (hR : kR κ = 0) {ty : FieldType} (hT : kT κ = some ty) {v : Int} {q : Prop} [Decidable q] (hn : q → narrow ty (.int (Int32.ofInt v)) = .int (Int32.ofInt v)) (hdg : decode (kC κ) pc = .ok (.ireturn, 1)) : V Γ κ pc lv [(0, v)] μ (if q then some (0, v, μ) else none) := by
  by_cases h0 : q
  · rw [if_pos h0]
    have hn := hn h0
    obtain ⟨p, l, e, R, s, m, args, below, meth, c, Q, G, ρ0, μ0⟩ := Γ
    intro x v μ' hr
    cases hr
    refine ⟨⟨Int.le_refl _, Int.le_refl _, Int.le_refl _, Int.le_refl _⟩, fun O a1 a2 a3 a4 a5 ρ H locs ls b1 b2 b3 b4 b5 b6 => ?_⟩
    obtain ⟨hx, hb, hml, hown, hts, hcx, hlk, htr, hfr, hlo, hrt, hin9, htab⟩ := O
    obtain ⟨hQ, hret⟩ := hrt (by omega)
    rw [hQ, hR]
    exact vx_ret (W.zret hx hb (hret.trans hT) hn (fun t ht hW => ⟨⟨rfl, ρ, b6, rfl, by rw [ht]; exact b4, fun _ => ok_hd b3⟩, b5.F ht⟩) b5.2.2 hdg hlk)
  · rw [if_neg h0]
    exact V_none
theorem V_zreturn (hR : kR κ = 0) (hT : kT κ = some .boolean) {v : Int} (hdg : decode (kC κ) pc = .ok (.ireturn, 1)) : V Γ κ pc lv [(0, v)] μ (RTZ v μ) := by
  refine V_zreturnG hR hT (fun h => ?_) hdg
  rcases h with rfl | rfl <;> decide
theorem V_creturn (hR : kR κ = 0) (hT : kT κ = some .char) {v : Int} (hdg : decode (kC κ) pc = .ok (.ireturn, 1)) : V Γ κ pc lv [(0, v)] μ (RTC v μ) := by
  refine V_zreturnG hR hT (fun h => ?_) hdg
  have := (pk_charN (q := v.toNat) (by omega)).1
  unfold nI at this
  rw [← Int32.ofInt_eq_ofNat, show ((v.toNat : Nat) : Int) = v by omega] at this
  exact this
theorem V_breturn (hR : kR κ = 0) (hT : kT κ = some .byte) {v : Int} (hdg : decode (kC κ) pc = .ok (.ireturn, 1)) : V Γ κ pc lv [(0, v)] μ (RTB v μ) := by
  refine V_zreturnG hR hT (fun h => ?_) hdg
  rw [narrow_byte, oi_b, w8_eq h.1 h.2]
theorem V_lreturn (hR : kR κ = 1) (hT : kT κ = some .long) {v : Int} (hdg : decode (kC κ) pc = .ok (.lreturn, 1)) : V Γ κ pc lv [(1, v)] μ (RT v μ) := by
  obtain ⟨p, l, e, R, s, m, args, below, meth, c, Q, G, ρ0, μ0⟩ := Γ
  intro x v μ' hr
  cases hr
  refine ⟨⟨Int.le_refl _, Int.le_refl _, Int.le_refl _, Int.le_refl _⟩, fun O a1 a2 a3 a4 a5 ρ H locs ls b1 b2 b3 b4 b5 b6 => ?_⟩
  obtain ⟨hx, hb, hml, hown, hts, hcx, hlk, htr, hfr, hlo, hrt, hin9, htab⟩ := O
  obtain ⟨hQ, hret⟩ := hrt (by omega)
  rw [hQ, hR]
  exact vx_ret (W.lret hx hb (hret.trans hT) (fun t ht hW => ⟨⟨rfl, ρ, b6, rfl, by rw [ht]; exact b4, fun _ => ok_hd b3⟩, b5.F ht⟩) b5.2.2 hdg hlk)
theorem V_freturn (hR : kR κ = 3) (hT : kT κ = some .float) {v : Int} (hdg : decode (kC κ) pc = .ok (.freturn, 1)) : V Γ κ pc lv [(3, v)] μ (RT v μ) := by
  obtain ⟨p, l, e, R, s, m, args, below, meth, c, Q, G, ρ0, μ0⟩ := Γ
  intro x v μ' hr
  cases hr
  refine ⟨⟨Int.le_refl _, Int.le_refl _, Int.le_refl _, Int.le_refl _⟩, fun O a1 a2 a3 a4 a5 ρ H locs ls b1 b2 b3 b4 b5 b6 => ?_⟩
  obtain ⟨hx, hb, hml, hown, hts, hcx, hlk, htr, hfr, hlo, hrt, hin9, htab⟩ := O
  obtain ⟨hQ, hret⟩ := hrt (by omega)
  rw [hQ, hR]
  exact vx_ret (W.fret hx hb (hret.trans hT) (fun t ht hW => ⟨⟨rfl, ρ, b6, rfl, by rw [ht]; exact b4, fun _ => ok_hd b3⟩, b5.F ht⟩) b5.2.2 hdg hlk)
theorem V_dreturn (hR : kR κ = 4) (hT : kT κ = some .double) {v : Int} (hdg : decode (kC κ) pc = .ok (.dreturn, 1)) : V Γ κ pc lv [(4, v)] μ (RT v μ) := by
  obtain ⟨p, l, e, R, s, m, args, below, meth, c, Q, G, ρ0, μ0⟩ := Γ
  intro x v μ' hr
  cases hr
  refine ⟨⟨Int.le_refl _, Int.le_refl _, Int.le_refl _, Int.le_refl _⟩, fun O a1 a2 a3 a4 a5 ρ H locs ls b1 b2 b3 b4 b5 b6 => ?_⟩
  obtain ⟨hx, hb, hml, hown, hts, hcx, hlk, htr, hfr, hlo, hrt, hin9, htab⟩ := O
  obtain ⟨hQ, hret⟩ := hrt (by omega)
  rw [hQ, hR]
  exact vx_ret (W.dret hx hb (hret.trans hT) (fun t ht hW => ⟨⟨rfl, ρ, b6, rfl, by rw [ht]; exact b4, fun _ => ok_hd b3⟩, b5.F ht⟩) b5.2.2 hdg hlk)
theorem V_areturn (hR : kR κ = 2) {ty : FieldType} (hT : kT κ = some ty) (hty : (∃ n, ty = .object n) ∨ ∃ t, ty = .array t) {v : Int} (hdg : decode (kC κ) pc = .ok (.areturn, 1)) : V Γ κ pc lv [(2, v)] μ (RT v μ) := by
  obtain ⟨p, l, e, R, s, m, args, below, meth, c, Q, G, ρ0, μ0⟩ := Γ
  intro x v μ' hr
  cases hr
  refine ⟨⟨Int.le_refl _, Int.le_refl _, Int.le_refl _, Int.le_refl _⟩, fun O a1 a2 a3 a4 a5 ρ H locs ls b1 b2 b3 b4 b5 b6 => ?_⟩
  obtain ⟨hx, hb, hml, hown, hts, hcx, hlk, htr, hfr, hlo, hrt, hin9, htab⟩ := O
  obtain ⟨hQ, hret⟩ := hrt (by omega)
  rw [hQ, hR]
  exact vx_ret (W.aret hx hb (hret.trans hT) hty (cv_ref (t := 2) rfl G ρ v) (fun t ht hW => ⟨⟨rfl, ρ, b6, rfl, by rw [ht]; exact b4, fun _ => ok_hd b3⟩, b5.F ht⟩) b5.2.2 hdg hlk)
end VCALL
