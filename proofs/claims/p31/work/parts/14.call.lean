/-! calls -/
/-- an exception of the number x1 has come out of what stands at pc -/
def VX (Γ : Gam) (κ : Kap) (pc : Nat) (lv : List (Nat × AV)) (x1 : Int) (μ : Mem) (r : Rz) : Prop := match Γ with
  | (p, l, e, R, s, m, args, below, meth, c, Q, G, ρ0, μ0) => ∀ x v μ', r = some (x, v, μ') → (μ 0 0 ≤ μ' 0 0 ∧ μ 0 1 ≤ μ' 0 1 ∧ μ 0 2 ≤ μ' 0 2 ∧ μ' 0 3 ≤ μ 0 3) ∧
    (Ok (p, l, e, R, s, m, args, below, meth, c, Q, G, ρ0, μ0) κ → (μ0 0 0 ≤ μ 0 0 ∧ μ 0 3 ≤ μ0 0 3) → μ0 0 1 ≤ μ 0 1 → μ0 0 2 ≤ μ 0 2 → (μ' 0 1 - μ0 0 1).toNat ≤ R.cells → (μ' 0 2 - μ0 0 2).toNat ≤ R.slots →
      ∀ (ρ : Int → Nat) (H : Heap) (locs : List Loc) (ls : Array Slot) (rest : List Value) (q9 : Addr) (ce9 : Cell), lv_has ls (kN κ) (lv.map fun q => (q.1, cv G ρ q.2)) → (∀ q ∈ lv, vok (bd μ) q.2) → GP G ρ μ H → va_S (fun q => gB G ≤ q) s.heap H locs → Ext (bd μ0) ρ0 ρ →
        H[q9]? = some ce9 → ce9.vm = .none → s.vm.findClass (excN x1) = some ce9.cls →
        vx_W p l e R s m args below meth c H locs (μ 0 1 - μ0 0 1).toNat (μ 0 2 - μ0 0 2).toNat (Q x v μ') (F0 m pc ls rest) q9)
section VCALLS
variable {Γ : Gam} {κ : Kap} {pc : Nat} {lv : List (Nat × AV)} {st : List AV} {μ : Mem} {r : Rz}
theorem VX_none {x1 : Int} : VX Γ κ pc lv x1 μ none := by
  obtain ⟨p, l, e, R, s, m, args, below, meth, c, Q, G, ρ0, μ0⟩ := Γ
  intro x v μ' hr
  cases hr
theorem VX_out (hH : kH κ = []) (hR : kR κ ≠ 10) {x1 v1 : Int} (hx1 : x1 ≠ 0) : VX Γ κ pc lv x1 μ (some (x1, v1, μ)) := by
  obtain ⟨p, l, e, R, s, m, args, below, meth, c, Q, G, ρ0, μ0⟩ := Γ
  intro x v μ' hr
  cases hr
  refine ⟨⟨Int.le_refl _, Int.le_refl _, Int.le_refl _, Int.le_refl _⟩, fun O a1 a2 a3 a4 a5 ρ H locs ls rest q9 ce9 b1 b2 b4 b5 b6 hce hcv hcl => ?_⟩
  obtain ⟨hx, hb, hml, hown, hts, hcx, hlk, htr, hfr, hlo, hrt, hin9, htab⟩ := O
  rw [(hrt hR).1]
  exact vx_out (no_handler hH (htab hR) _) hlk hce hcv hcl (fun t ht hW => ⟨⟨rfl, hx1, ρ, b6, by rw [ht]; exact b4⟩, b5.F ht⟩) b5.2.2 (Nat.le_refl _) (Nat.le_refl _)
/-- the walk of a call, whatever its kind -/
theorem V_callG {d' : Nat} {y : MethodName} {hd : Cond} {rt : Nat} {xs : List AV} {st0 : List AV} {K : Int → Mem → Rz} {X : Int → Int → Mem → Rz} (hM : Con d' y hd rt xs μ r)
    (hok : (∀ q ∈ st, vok (bd μ) q) → (∀ q ∈ xs, vok (bd μ) q) ∧ ∀ q ∈ st0, vok (bd μ) q)
    (h : match Γ with
      | (p, l, e, R, s, m, args, below, meth, c, Q, G, ρ0, μ0) => Ok (p, l, e, R, s, m, args, below, meth, c, Q, G, ρ0, μ0) κ → ∀ (ρ : Int → Nat) (H : Heap) (locs : List Loc) (ls : Array Slot) (ce sl mc ms : Nat) (x1 v1 : Int) (μ1 : Mem), ls.size = kN κ → (∀ q ∈ xs, vok (bd μ) q) → GP G ρ μ H →
        vx_Met l y (hd :: lw_all) ({ frames := d', cells := mc, slots := ms, locals := 60 * d' }) (va_Pc (xs.map (cv G ρ)) (fun U => CxP G U ∧ GP G ρ μ U.heap ∧ ∀ q ∈ xs, vok (bd μ) q)) (QcF G ρ μ rt x1 v1 μ1) (XcF G ρ μ x1 μ1) mc ms (bA G) →
        (∀ U : State, U.heap = H → s.WarmedH U.vm → va_Pc (xs.map (cv G ρ)) (fun U => CxP G U ∧ GP G ρ μ U.heap ∧ ∀ q ∈ xs, vok (bd μ) q) (xs.map (cv G ρ)).toArray U) → ce + mc ≤ R.cells ∧ sl + ms ≤ R.slots →
        vx_Run p l e R s m args below meth c H locs ce sl mc ms (F0 m pc ls (st.map (cv G ρ))) (st0.map (cv G ρ)) (QcF G ρ μ rt x1 v1 μ1 (xs.map (cv G ρ)).toArray) (XcF G ρ μ x1 μ1) (bA G))
    (kx : ∀ x1 v1 μ1, x1 ≠ 0 → VX Γ κ pc lv x1 μ1 (X x1 v1 μ1))
    (k : ∀ v μ1, V Γ κ (pc + 3) lv (rcons rt v st0) μ1 (K v μ1)) : V Γ κ pc lv st μ (CLX r K X) := by
  have hM := hM Γ
  obtain ⟨p, l, e, R, s, m, args, below, meth, c, Q, G, ρ0, μ0⟩ := Γ
  intro x v μ' hr
  unfold CLX at hr
  cases hr1 : r with
  | none => rw [hr1] at hr; cases hr
  | some q =>
    obtain ⟨x1, v1, μ1⟩ := q
    rw [hr1] at hr
    dsimp only at hr
    have hm := (hM { l with flags := [noTraceFlag] } (by first | rfl | decide) x1 v1 μ1 hr1).1
    have base : ∀ (hmono : μ1 0 0 ≤ μ' 0 0 ∧ μ1 0 1 ≤ μ' 0 1 ∧ μ1 0 2 ≤ μ' 0 2 ∧ μ' 0 3 ≤ μ1 0 3) (O : Ok (p, l, e, R, s, m, args, below, meth, c, Q, G, ρ0, μ0) κ) (_ : μ0 0 0 ≤ μ 0 0 ∧ μ 0 3 ≤ μ0 0 3) (_ : μ0 0 1 ≤ μ 0 1) (_ : μ0 0 2 ≤ μ 0 2) (_ : (μ' 0 1 - μ0 0 1).toNat ≤ R.cells) (_ : (μ' 0 2 - μ0 0 2).toNat ≤ R.slots)
        (kx : x1 ≠ 0 → ∀ (ρ : Int → Nat) (H : Heap) (locs : List Loc) (ls : Array Slot) (rest : List Value) (q9 : Addr) (ce9 : Cell), lv_has ls (kN κ) (lv.map fun q => (q.1, cv G ρ q.2)) → (∀ q ∈ lv, vok (bd μ1) q.2) → GP G ρ μ1 H → va_S (fun q => gB G ≤ q) s.heap H locs → Ext (bd μ0) ρ0 ρ →
          H[q9]? = some ce9 → ce9.vm = .none → s.vm.findClass (excN x1) = some ce9.cls → vx_W p l e R s m args below meth c H locs (μ1 0 1 - μ0 0 1).toNat (μ1 0 2 - μ0 0 2).toNat (Q x v μ') (F0 m pc ls rest) q9)
        (kk : x1 = 0 → ∀ (ρ : Int → Nat) (H : Heap) (locs : List Loc) (ls : Array Slot), lv_has ls (kN κ) (lv.map fun q => (q.1, cv G ρ q.2)) → (∀ q ∈ lv, vok (bd μ1) q.2) → (∀ q ∈ rcons rt v1 st0, vok (bd μ1) q) → GP G ρ μ1 H → va_S (fun q => gB G ≤ q) s.heap H locs → Ext (bd μ0) ρ0 ρ → W p l e R s m args below meth c H locs (μ1 0 1 - μ0 0 1).toNat (μ1 0 2 - μ0 0 2).toNat (Q x v μ') (F0 m (pc + 3) ls ((rcons rt v1 st0).map (cv G ρ))))
        (ρ : Int → Nat) (H : Heap) (locs : List Loc) (ls : Array Slot), lv_has ls (kN κ) (lv.map fun q => (q.1, cv G ρ q.2)) → (∀ q ∈ lv, vok (bd μ) q.2) → (∀ q ∈ st, vok (bd μ) q) → GP G ρ μ H → va_S (fun q => gB G ≤ q) s.heap H locs → Ext (bd μ0) ρ0 ρ →
        W p l e R s m args below meth c H locs (μ 0 1 - μ0 0 1).toNat (μ 0 2 - μ0 0 2).toNat (Q x v μ') (F0 m pc ls (st.map (cv G ρ))) := by
      intro hmono O a1 a2 a3 a4 a5 kx kk ρ H locs ls b1 b2 b3 b4 b5 b6
      obtain ⟨hxs, hst0⟩ := hok b3
      obtain ⟨hx, hb, hml, hown, hts, hcx, hlk, htr, hfr, hlo, hrt, hin9, htab⟩ := id O
      have hMet := (hM l htr x1 v1 μ1 hr1).2 G ρ
      have e1 : (μ 0 1 - μ0 0 1).toNat + (μ1 0 1 - μ 0 1).toNat = (μ1 0 1 - μ0 0 1).toNat := by omega
      have e2 : (μ 0 2 - μ0 0 2).toNat + (μ1 0 2 - μ 0 2).toNat = (μ1 0 2 - μ0 0 2).toNat := by omega
      have hRun := h O ρ H locs ls (μ 0 1 - μ0 0 1).toNat (μ 0 2 - μ0 0 2).toNat _ _ x1 v1 μ1 b1.1 hxs b4 hMet (fun U hU hW => ⟨rfl, CxP.warm hW (by rw [hU]; exact b5.1) (fun q h1 h2 => by rw [hU]; exact b5.2.1 q h1 h2) hcx, by rw [hU]; exact b4, hxs⟩) ⟨by rw [e1]; omega, by rw [e2]; omega⟩
      have e4 : ∀ ρ', Ext (bd μ) ρ ρ' → (lv.map fun q => (q.1, cv G ρ q.2)) = lv.map fun q => (q.1, cv G ρ' q.2) := fun ρ' hE => List.map_congr_left (fun q hq => by rw [cv_ext hE (b2 q hq)])
      refine call_go hRun b5 (fun h1 ρ' H1 locs1 q9 ce9 hE hgp hS1 hce hcv hcl => ?_) (fun h1 ρ' H1 locs1 hE hgp hS1 hv1 => ?_)
      · rw [e1, e2]
        exact kx h1 ρ' H1 locs1 ls _ q9 ce9 (by rw [← e4 ρ' hE]; exact b1) (fun q hq => vok_bd ⟨hm.1, hm.2.2.2⟩ (b2 q hq)) hgp hS1 (b6.tr hE a1) hce hcv hcl
      · rw [e1, e2]
        have e3 : st0.map (cv G ρ) = st0.map (cv G ρ') := List.map_congr_left (fun q hq => (cv_ext hE (hst0 q hq)).symm)
        rw [e3, rcons_map]
        refine kk h1 ρ' H1 locs1 ls (by rw [← e4 ρ' hE]; exact b1) (fun q hq => vok_bd ⟨hm.1, hm.2.2.2⟩ (b2 q hq)) (fun q hq => ?_) hgp hS1 (b6.tr hE a1)
        unfold rcons at hq
        by_cases h9 : rt = 9
        · rw [if_pos h9] at hq
          exact vok_bd ⟨hm.1, hm.2.2.2⟩ (hst0 q hq)
        · rw [if_neg h9] at hq
          rcases List.mem_cons.mp hq with e | e
          · rw [e]; exact hv1 h9
          · exact vok_bd ⟨hm.1, hm.2.2.2⟩ (hst0 q e)
    by_cases hx1 : x1 = 0
    · rw [if_pos hx1] at hr
      obtain ⟨k1, k2⟩ := k v1 μ1 x v μ' hr
      refine ⟨by omega, fun O a1 a2 a3 a4 a5 => base k1 O a1 a2 a3 a4 a5 (fun h => absurd hx1 h) (fun _ => k2 O (by omega) (by omega) (by omega) a4 a5)⟩
    · rw [if_neg hx1] at hr
      obtain ⟨k1, k2⟩ := kx x1 v1 μ1 hx1 x v μ' hr
      exact ⟨by omega, fun O a1 a2 a3 a4 a5 => base k1 O a1 a2 a3 a4 a5 (fun _ => k2 O (by omega) (by omega) (by omega) a4 a5) (fun h => absurd h hx1)⟩
/-- what a method's callers ask of the tables -/
def Mth (y : MethodName) (bytes : ByteArray) (mL : Nat) (ret : Option FieldType) (n : Nat) : Prop := Cond.code y bytes mL ret ∈ lw_all ∧ Cond.initialized y.cls ∈ lw_all ∧ (y.cls ≠ "java/lang/invoke/MethodHandle" ∧ y.cls ≠ "java/lang/invoke/VarHandle" ∧ (parseMethodDescriptor y.desc).map (fun d => d.parameters.length) = some n) ∧ mL ≤ 41
theorem mth_good {y : MethodName} {bytes : ByteArray} {mL : Nat} {ret : Option FieldType} {n : Nat} (hy : Mth y bytes mL ret n) : GoodIn lw_all (Cond.code y bytes mL ret :: lw_all) := good_all (c0 := Cond.code y bytes mL ret) hy.1
theorem st_split {G : Gc} {ρ : Int → Nat} {ys st0 : List AV} (h : st = ys.reverse ++ st0) : st.map (cv G ρ) = (ys.map (cv G ρ)).reverse ++ st0.map (cv G ρ) := by
  rw [h, List.map_append, List.map_reverse]
theorem st_ok {n : Int × Int} {ys st0 : List AV} (h : st = ys.reverse ++ st0) (hs : ∀ q ∈ st, vok n q) : (∀ q ∈ ys, vok n q) ∧ ∀ q ∈ st0, vok n q :=
  ⟨fun q hq => hs q (by rw [h]; exact List.mem_append_left _ (List.mem_reverse.mpr hq)), fun q hq => hs q (by rw [h]; exact List.mem_append_right _ hq)⟩
theorem V_callS {d' idx : Nat} {y : MethodName} {bytes : ByteArray} {mL : Nat} {ret : Option FieldType} {rt n : Nat} {ys st0 : List AV} {K : Int → Mem → Rz} {X : Int → Int → Mem → Rz} (hM : Con d' y (.code y bytes mL ret) rt ys μ r) (hy : Mth y bytes mL ret n) (hs : Cond.static y ∈ lw_all) (hl : Cond.methodLink (kW κ) idx y ∈ lw_all) (hst : st = ys.reverse ++ st0) (hn : ys.length = n) (hD : d' + 1 ≤ kD κ) (hc : (st0.map fun q => catA q.1).sum ≤ 8) (hdg : decode (kC κ) pc = .ok (.invokestatic idx, 3))
    (kx : ∀ x1 v1 μ1, x1 ≠ 0 → VX Γ κ pc lv x1 μ1 (X x1 v1 μ1)) (k : ∀ v μ1, V Γ κ (pc + 3) lv (rcons rt v st0) μ1 (K v μ1)) : V Γ κ pc lv st μ (CLX r K X) := by
  refine V_callG hM (st_ok hst) ?_ kx k
  obtain ⟨p, l, e, R, s, m, args, below, meth, c, Q, G, ρ0, μ0⟩ := Γ
  intro O ρ H locs ls ce sl mc ms x1 v1 μ1 hsz hxs hgp hMet hpre hf
  obtain ⟨hx, hb, hml, hown, hts, hcx, hlk, htr, hfr, hlo, hrt, hin9, htab⟩ := O
  have cw := va_cwS (R := R) (args := args) (own := kW κ) (index := idx) (mc := mc) (ms := ms) (rm := { frames := d', cells := mc, slots := ms, locals := 60 * d' }) n hts (y := y) (bytes := bytes) (maxL := mL) (ret := ret) (ws := .code y bytes mL ret :: lw_all) (good_app (l := [.methodLink (kW κ) idx y, .static y, .initialized y.cls]) (fun w hw => by
    simp only [List.mem_cons, List.not_mem_nil, or_false] at hw
    rcases hw with rfl | rfl | rfl
    · exact hl
    · exact hs
    · exact hy.2.1) hy.1) rfl rfl rfl hy.2.2.1 ⟨by show d' + 1 ≤ _; omega, by show 8 + (mL + 11) + 60 * d' ≤ _; have := hy.2.2.2; omega⟩
  exact vx_runS (g := F0 m pc ls (st.map (cv G ρ))) ⟨hx, hb, hml, hown, hts⟩ hMet cw ⟨blind, hpre⟩ rfl (by rw [List.length_map]; exact hn) hsz (st_split hst) (by show 2 * 0 + _ ≤ 8; rw [cat_sum]; omega) hdg hf
theorem V_callSN {d' idx : Nat} {y : MethodName} {host : String} {bytes : ByteArray} {mL : Nat} {ret : Option FieldType} {rt n : Nat} {ys st0 : List AV} {K : Int → Mem → Rz} {X : Int → Int → Mem → Rz} (hM : Con d' y (.code y bytes mL ret) rt ys μ r) (hy : Mth y bytes mL ret n) (hs : Cond.static y ∈ lw_all) (hl : Cond.methodLinkNest (kW κ) idx y host ∈ lw_nest) (hst : st = ys.reverse ++ st0) (hn : ys.length = n) (hD : d' + 1 ≤ kD κ) (hc : (st0.map fun q => catA q.1).sum ≤ 8) (hdg : decode (kC κ) pc = .ok (.invokestatic idx, 3))
    (kx : ∀ x1 v1 μ1, x1 ≠ 0 → VX Γ κ pc lv x1 μ1 (X x1 v1 μ1)) (k : ∀ v μ1, V Γ κ (pc + 3) lv (rcons rt v st0) μ1 (K v μ1)) : V Γ κ pc lv st μ (CLX r K X) := by
  refine V_callG hM (st_ok hst) ?_ kx k
  obtain ⟨p, l, e, R, s, m, args, below, meth, c, Q, G, ρ0, μ0⟩ := Γ
  intro O ρ H locs ls ce sl mc ms x1 v1 μ1 hsz hxs hgp hMet hpre hf
  obtain ⟨hx, hb, hml, hown, hts, hcx, hlk, htr, hfr, hlo, hrt, hin9, htab⟩ := O
  have hN := hcx.2.2.2.2.2.2.1 _ hl
  have cw := va_cnB (R := R) (args := args) (own := kW κ) (index := idx) (mc := mc) (ms := ms) (rm := { frames := d', cells := mc, slots := ms, locals := 60 * d' }) n hts (y := y) (bytes := bytes) (maxL := mL) (ret := ret) (mth_good hy) rfl rfl rfl hN (hts _ hy.2.1) hy.2.2.1 ⟨by show d' + 1 ≤ _; omega, by show 8 + (mL + 11) + 60 * d' ≤ _; have := hy.2.2.2; omega⟩
  exact vx_runSN (g := F0 m pc ls (st.map (cv G ρ))) ⟨hx, hb, hml, hown, hts⟩ hMet ⟨cw, hts _ hs, trivial⟩ ⟨blind, hpre⟩ rfl (by rw [List.length_map]; exact hn) hsz (st_split hst) (by show 2 * 0 + _ ≤ 8; rw [cat_sum]; omega) hdg hf
theorem V_callV {ci : Nat} {C : String} {T : u_T} {N : Nat} (hcl : vwC[ci]? = some (C, T, N)) (h8 : ci < 12) {d' idx : Nat} {y : MethodName} {bytes : ByteArray} {mL : Nat} {ret : Option FieldType} {rt n : Nat} {a : Int} {ys st0 : List AV} {K : Int → Mem → Rz} {X : Int → Int → Mem → Rz} (hM : Con d' y (.code y bytes mL ret) rt ((2, a) :: ys) μ r) (hy : Mth y bytes mL ret n) (hyC : y.cls = C) (hs : Cond.instanceMethod y ∈ lw_all ∧ Cond.selects C y y ∈ lw_all) (hl : Cond.methodLink (kW κ) idx y ∈ lw_all) (hst : st = ys.reverse ++ (2, a) :: st0) (hn : ys.length = n) (hD : d' + 1 ≤ kD κ) (hc : (st0.map fun q => catA q.1).sum ≤ 8) (hdg : decode (kC κ) pc = .ok (.invokevirtual idx, 3))
    (kx : ∀ x1 v1 μ1, x1 ≠ 0 → VX Γ κ pc lv x1 μ1 (X x1 v1 μ1)) (k : ∀ v μ1, V Γ κ (pc + 3) lv (rcons rt v st0) μ1 (K v μ1)) : V Γ κ pc lv st μ (KD ci a μ (CLX r K X)) := by
  refine V_KD (fun hk => ?_)
  refine V_callG hM (fun h => ?_) ?_ kx k
  · obtain ⟨h1, h2⟩ := st_ok hst h
    exact ⟨ok_cons (ok_hd h2) h1, ok_tl h2⟩
  obtain ⟨p, l, e, R, s, m, args, below, meth, c, Q, G, ρ0, μ0⟩ := Γ
  intro O ρ H locs ls ce sl mc ms x1 v1 μ1 hsz hxs hgp hMet hpre hf
  obtain ⟨hx, hb, hml, hown, hts, hcx, hlk, htr, hfr, hlo, hrt, hin9, htab⟩ := O
  obtain ⟨a0, a1, ⟨cell, q1, q2, q3, q4⟩, -⟩ := hgp.objw (hxs _ List.mem_cons_self) h8 hk
  have ea : cv G ρ (2, a) = .ref (ρ a) := cvR_pos a0
  have em : ((2, a) :: ys).map (cv G ρ) = .ref (ρ a) :: ys.map (cv G ρ) := by rw [List.map_cons, ea]
  have cw := cwV (R := R) (args := args) (own := kW κ) (C := C) (index := idx) (mc := mc) (ms := ms) (rm := { frames := d', cells := mc, slots := ms, locals := 60 * d' }) n hts (y := y) (bytes := bytes) (maxL := mL) (ret := ret) (ws := .code y bytes mL ret :: lw_all) (good_app (l := [.methodLink (kW κ) idx y, .instanceMethod y, .selects C y y, .initialized C]) (fun w hw => by
    simp only [List.mem_cons, List.not_mem_nil, or_false] at hw
    rcases hw with rfl | rfl | rfl | rfl
    · exact hl
    · exact hs.1
    · exact hs.2
    · rw [← hyC]; exact hy.2.1) hy.1) rfl rfl rfl ⟨hyC, hy.2.2.1⟩ ⟨by show d' + 1 ≤ _; omega, by show 8 + (mL + 11) + 60 * d' ≤ _; have := hy.2.2.2; omega⟩
  have hfc := (hcx.1.1.1 ci _ hcl).2.1
  rw [em] at hMet hpre ⊢
  exact vx_runV (g := F0 m pc ls (st.map (cv G ρ))) (b := ρ a) ⟨hx, hb, hml, hown, hts⟩ hMet cw ⟨by rw [← em]; exact blind, ⟨cell, q1, q3.2, by rw [q2]; exact hfc⟩, hpre⟩ rfl (by rw [List.length_map]; exact hn) hsz (by show st.map (cv G ρ) = _; rw [st_split hst, List.map_cons, ea]) (by show 2 * 0 + _ ≤ 8; rw [cat_sum]; omega) hdg hf
theorem V_callU {ci : Nat} {C : String} {T : u_T} {N : Nat} (hcl : vwC[ci]? = some (C, T, N)) (h8 : ci < 12) {d' idx : Nat} {y : MethodName} {bytes : ByteArray} {mL : Nat} {ret : Option FieldType} {rt n : Nat} {a : Int} {ys st0 : List AV} {K : Int → Mem → Rz} {X : Int → Int → Mem → Rz} (hM : Con d' y (.code y bytes mL ret) rt ((2, a) :: ys) μ r) (hy : Mth y bytes mL ret n) (hs : Cond.instanceMethod y ∈ lw_all ∧ Cond.selects C y y ∈ lw_all) (hsm : Cond.sameMethod y.cls y.cls y.name y.desc ∈ lw_all) (hl : Cond.methodLink (kW κ) idx y ∈ lw_all) (hst : st = ys.reverse ++ (2, a) :: st0) (hn : ys.length = n) (hD : d' + 1 ≤ kD κ) (hc : (st0.map fun q => catA q.1).sum ≤ 8) (hdg : decode (kC κ) pc = .ok (.invokevirtual idx, 3))
    (kx : ∀ x1 v1 μ1, x1 ≠ 0 → VX Γ κ pc lv x1 μ1 (X x1 v1 μ1)) (k : ∀ v μ1, V Γ κ (pc + 3) lv (rcons rt v st0) μ1 (K v μ1)) : V Γ κ pc lv st μ (KD ci a μ (CLX r K X)) := by
  refine V_KD (fun hk => ?_)
  refine V_callG hM (fun h => ?_) ?_ kx k
  · obtain ⟨h1, h2⟩ := st_ok hst h
    exact ⟨ok_cons (ok_hd h2) h1, ok_tl h2⟩
  obtain ⟨p, l, e, R, s, m, args, below, meth, c, Q, G, ρ0, μ0⟩ := Γ
  intro O ρ H locs ls ce sl mc ms x1 v1 μ1 hsz hxs hgp hMet hpre hf
  obtain ⟨hx, hb, hml, hown, hts, hcx, hlk, htr, hfr, hlo, hrt, hin9, htab⟩ := O
  obtain ⟨a0, a1, ⟨cell, q1, q2, q3, q4⟩, -⟩ := hgp.objw (hxs _ List.mem_cons_self) h8 hk
  have ea : cv G ρ (2, a) = .ref (ρ a) := cvR_pos a0
  have em : ((2, a) :: ys).map (cv G ρ) = .ref (ρ a) :: ys.map (cv G ρ) := by rw [List.map_cons, ea]
  have cw := va_cwU (R := R) (args := args) (own := kW κ) (C := C) (owner := y.cls) (index := idx) (mc := mc) (ms := ms) (rm := { frames := d', cells := mc, slots := ms, locals := 60 * d' }) n hts (x := y) (y := y) (bytes := bytes) (maxL := mL) (ret := ret) (ws := .code y bytes mL ret :: lw_all) (good_app (l := [.methodLink (kW κ) idx y, .sameMethod y.cls y.cls y.name y.desc, .selects C y y, .instanceMethod y, .initialized y.cls]) (fun w hw => by
    simp only [List.mem_cons, List.not_mem_nil, or_false] at hw
    rcases hw with rfl | rfl | rfl | rfl | rfl
    · exact hl
    · exact hsm
    · exact hs.2
    · exact hs.1
    · exact hy.2.1) hy.1) rfl rfl rfl rfl hy.2.2.1 ⟨by show d' + 1 ≤ _; omega, by show 8 + (mL + 11) + 60 * d' ≤ _; have := hy.2.2.2; omega⟩
  have hfc := (hcx.1.1.1 ci _ hcl).2.1
  rw [em] at hMet hpre ⊢
  exact vx_runU (g := F0 m pc ls (st.map (cv G ρ))) (b := ρ a) ⟨hx, hb, hml, hown, hts⟩ hMet cw ⟨by rw [← em]; exact blind, ⟨cell, q1, q3.2, by rw [q2]; exact hfc⟩, hpre⟩ rfl (by rw [List.length_map]; exact hn) hsz (by show st.map (cv G ρ) = _; rw [st_split hst, List.map_cons, ea]) (by show 2 * 0 + _ ≤ 8; rw [cat_sum]; omega) hdg hf
theorem V_callO {ci : Nat} {C : String} {T : u_T} {N : Nat} (hcl : vwC[ci]? = some (C, T, N)) (h8 : ci < 12) {d' idx : Nat} {x y : MethodName} {b0 : ByteArray} {m0 : Nat} {r0 : Option FieldType} {bytes : ByteArray} {mL : Nat} {ret : Option FieldType} {rt n : Nat} {a : Int} {ys st0 : List AV} {K : Int → Mem → Rz} {X : Int → Int → Mem → Rz} (hM : Con d' y (.code y bytes mL ret) rt ((2, a) :: ys) μ r) (hy : Mth y bytes mL ret n) (hs : Cond.instanceMethod y ∈ lw_all ∧ Cond.selects C x y ∈ lw_all) (hsm : Cond.sameMethod x.cls x.cls x.name x.desc ∈ lw_all) (hxi : Cond.instanceMethod x ∈ lw_all) (h0 : Cond.code x b0 m0 r0 ∈ lw_all) (hxd : x.cls ≠ "java/lang/invoke/MethodHandle" ∧ x.cls ≠ "java/lang/invoke/VarHandle" ∧ (parseMethodDescriptor x.desc).map (fun d => d.parameters.length) = some n) (hl : Cond.methodLink (kW κ) idx x ∈ lw_all) (hst : st = ys.reverse ++ (2, a) :: st0) (hn : ys.length = n) (hD : d' + 1 ≤ kD κ) (hc : (st0.map fun q => catA q.1).sum ≤ 8) (hdg : decode (kC κ) pc = .ok (.invokevirtual idx, 3))
    (kx : ∀ x1 v1 μ1, x1 ≠ 0 → VX Γ κ pc lv x1 μ1 (X x1 v1 μ1)) (k : ∀ v μ1, V Γ κ (pc + 3) lv (rcons rt v st0) μ1 (K v μ1)) : V Γ κ pc lv st μ (KD ci a μ (CLX r K X)) := by
  refine V_KD (fun hk => ?_)
  refine V_callG hM (fun h => ?_) ?_ kx k
  · obtain ⟨h1, h2⟩ := st_ok hst h
    exact ⟨ok_cons (ok_hd h2) h1, ok_tl h2⟩
  obtain ⟨p, l, e, R, s, m, args, below, meth, c, Q, G, ρ0, μ0⟩ := Γ
  intro O ρ H locs ls ce sl mc ms x1 v1 μ1 hsz hxs hgp hMet hpre hf
  obtain ⟨hx, hb, hml, hown, hts, hcx, hlk, htr, hfr, hlo, hrt, hin9, htab⟩ := O
  obtain ⟨a0, a1, ⟨cell, q1, q2, q3, q4⟩, -⟩ := hgp.objw (hxs _ List.mem_cons_self) h8 hk
  have ea : cv G ρ (2, a) = .ref (ρ a) := cvR_pos a0
  have em : ((2, a) :: ys).map (cv G ρ) = .ref (ρ a) :: ys.map (cv G ρ) := by rw [List.map_cons, ea]
  have cw := va_cwO (R := R) (args := args) (own := kW κ) (C := C) (owner := x.cls) (index := idx) (mc := mc) (ms := ms) (rm := { frames := d', cells := mc, slots := ms, locals := 60 * d' }) n hts (x := x) (y := y) (bytes := bytes) (maxL := mL) (ret := ret) (ws := .code y bytes mL ret :: lw_all) (good_app (l := [.methodLink (kW κ) idx x, .sameMethod x.cls x.cls x.name x.desc, .instanceMethod ⟨x.cls, x.name, x.desc⟩, .selects C x y, .instanceMethod y, .initialized y.cls]) (fun w hw => by
    simp only [List.mem_cons, List.not_mem_nil, or_false] at hw
    rcases hw with rfl | rfl | rfl | rfl | rfl | rfl
    · exact hl
    · exact hsm
    · exact hxi
    · exact hs.2
    · exact hs.1
    · exact hy.2.1) hy.1) rfl rfl rfl (b0 := b0) (m0 := m0) (r0 := r0) h0 hxd ⟨by show d' + 1 ≤ _; omega, by show 8 + (mL + 11) + 60 * d' ≤ _; have := hy.2.2.2; omega⟩
  have hfc := (hcx.1.1.1 ci _ hcl).2.1
  rw [em] at hMet hpre ⊢
  exact vx_runU (g := F0 m pc ls (st.map (cv G ρ))) (b := ρ a) ⟨hx, hb, hml, hown, hts⟩ hMet cw ⟨by rw [← em]; exact blind, ⟨cell, q1, q3.2, by rw [q2]; exact hfc⟩, hpre⟩ rfl (by rw [List.length_map]; exact hn) hsz (by show st.map (cv G ρ) = _; rw [st_split hst, List.map_cons, ea]) (by show 2 * 0 + _ ≤ 8; rw [cat_sum]; omega) hdg hf
theorem V_callP {ci : Nat} {C : String} {T : u_T} {N : Nat} (hcl : vwC[ci]? = some (C, T, N)) (h8 : ci < 12) {d' idx : Nat} {y : MethodName} {bytes : ByteArray} {mL : Nat} {ret : Option FieldType} {rt n : Nat} {a : Int} {ys st0 : List AV} {K : Int → Mem → Rz} {X : Int → Int → Mem → Rz} (hM : Con d' y (.code y bytes mL ret) rt ((2, a) :: ys) μ r) (hy : Mth y bytes mL ret n) (hs : Cond.instanceMethod y ∈ lw_all) (hsm : Cond.sameMethod y.cls y.cls y.name y.desc ∈ lw_all) (hsup : Cond.superclass (kW κ) y.cls ∈ lw_all) (hyn : y.name ≠ "<init>") (hl : Cond.methodLink (kW κ) idx y ∈ lw_all) (hst : st = ys.reverse ++ (2, a) :: st0) (hn : ys.length = n) (hD : d' + 1 ≤ kD κ) (hc : (st0.map fun q => catA q.1).sum ≤ 8) (hdg : decode (kC κ) pc = .ok (.invokespecial idx, 3))
    (kx : ∀ x1 v1 μ1, x1 ≠ 0 → VX Γ κ pc lv x1 μ1 (X x1 v1 μ1)) (k : ∀ v μ1, V Γ κ (pc + 3) lv (rcons rt v st0) μ1 (K v μ1)) : V Γ κ pc lv st μ (KD ci a μ (CLX r K X)) := by
  refine V_KD (fun hk => ?_)
  refine V_callG hM (fun h => ?_) ?_ kx k
  · obtain ⟨h1, h2⟩ := st_ok hst h
    exact ⟨ok_cons (ok_hd h2) h1, ok_tl h2⟩
  obtain ⟨p, l, e, R, s, m, args, below, meth, c, Q, G, ρ0, μ0⟩ := Γ
  intro O ρ H locs ls ce sl mc ms x1 v1 μ1 hsz hxs hgp hMet hpre hf
  obtain ⟨hx, hb, hml, hown, hts, hcx, hlk, htr, hfr, hlo, hrt, hin9, htab⟩ := O
  obtain ⟨a0, a1, ⟨cell, q1, q2, q3, q4⟩, -⟩ := hgp.objw (hxs _ List.mem_cons_self) h8 hk
  have ea : cv G ρ (2, a) = .ref (ρ a) := cvR_pos a0
  have em : ((2, a) :: ys).map (cv G ρ) = .ref (ρ a) :: ys.map (cv G ρ) := by rw [List.map_cons, ea]
  have cw := va_cwSU (R := R) (args := args) (own := kW κ) (index := idx) (mc := mc) (ms := ms) (rm := { frames := d', cells := mc, slots := ms, locals := 60 * d' }) n hts (y := y) (bytes := bytes) (maxL := mL) (ret := ret) (ws := .code y bytes mL ret :: lw_all) (good_app (l := [.methodLink (kW κ) idx y, .sameMethod y.cls y.cls y.name y.desc, .superclass (kW κ) y.cls, .instanceMethod y, .initialized y.cls]) (fun w hw => by
    simp only [List.mem_cons, List.not_mem_nil, or_false] at hw
    rcases hw with rfl | rfl | rfl | rfl | rfl
    · exact hl
    · exact hsm
    · exact hsup
    · exact hs
    · exact hy.2.1) hy.1) rfl rfl rfl ⟨hyn, hy.2.2.1.2.2⟩ ⟨by show d' + 1 ≤ _; omega, by show 8 + (mL + 11) + 60 * d' ≤ _; have := hy.2.2.2; omega⟩
  have hfc := (hcx.1.1.1 ci _ hcl).2.1
  rw [em] at hMet hpre ⊢
  exact vx_runSU (hcx.1.1.1 ci _ hcl).2 (g := F0 m pc ls (st.map (cv G ρ))) (b := ρ a) ⟨hx, hb, hml, hown, hts⟩ hMet cw ⟨by rw [← em]; exact blind, ⟨cell, q1, q3.2, by rw [q2]; exact hfc⟩, hpre⟩ rfl (by rw [List.length_map]; exact hn) hsz (by show st.map (cv G ρ) = _; rw [st_split hst, List.map_cons, ea]) (by show 2 * 0 + _ ≤ 8; rw [cat_sum]; omega) hdg hf
theorem V_callI {ci : Nat} (h8 : ci < 12) {d' idx : Nat} {y : MethodName} {bytes : ByteArray} {mL : Nat} {rt n : Nat} {a : Int} {ys st0 : List AV} {K : Int → Mem → Rz} {X : Int → Int → Mem → Rz} (hM : Con d' y (.code y bytes mL none) rt ((2, a) :: ys) μ r) (hy : Mth y bytes mL none n) (hyI : y.name = "<init>") (hs : Cond.instanceMethod y ∈ lw_all) (hl : Cond.methodLink (kW κ) idx y ∈ lw_all) (hst : st = ys.reverse ++ (2, a) :: st0) (hn : ys.length = n) (hD : d' + 1 ≤ kD κ) (hc : (st0.map fun q => catA q.1).sum ≤ 8) (hdg : decode (kC κ) pc = .ok (.invokespecial idx, 3))
    (kx : ∀ x1 v1 μ1, x1 ≠ 0 → VX Γ κ pc lv x1 μ1 (X x1 v1 μ1)) (k : ∀ v μ1, V Γ κ (pc + 3) lv (rcons rt v st0) μ1 (K v μ1)) : V Γ κ pc lv st μ (KD ci a μ (CLX r K X)) := by
  refine V_KD (fun hk => ?_)
  refine V_callG hM (fun h => ?_) ?_ kx k
  · obtain ⟨h1, h2⟩ := st_ok hst h
    exact ⟨ok_cons (ok_hd h2) h1, ok_tl h2⟩
  obtain ⟨p, l, e, R, s, m, args, below, meth, c, Q, G, ρ0, μ0⟩ := Γ
  intro O ρ H locs ls ce sl mc ms x1 v1 μ1 hsz hxs hgp hMet hpre hf
  obtain ⟨hx, hb, hml, hown, hts, hcx, hlk, htr, hfr, hlo, hrt, hin9, htab⟩ := O
  obtain ⟨a0, a1, ⟨cell, q1, q2, q3, q4⟩, -⟩ := hgp.objw (hxs _ List.mem_cons_self) h8 hk
  have ea : cv G ρ (2, a) = .ref (ρ a) := cvR_pos a0
  have em : ((2, a) :: ys).map (cv G ρ) = .ref (ρ a) :: ys.map (cv G ρ) := by rw [List.map_cons, ea]
  have cw := cwI (R := R) (args := args) (own := kW κ) (index := idx) (mc := mc) (ms := ms) (rm := { frames := d', cells := mc, slots := ms, locals := 60 * d' }) n hts (y := y) (bytes := bytes) (maxL := mL) (mth_good hy) rfl rfl rfl (hts _ hy.2.1) (hts _ hl) (hts _ hs) hyI hy.2.2.1 ⟨by show d' + 1 ≤ _; omega, by show 8 + (mL + 11) + 60 * d' ≤ _; have := hy.2.2.2; omega⟩
  rw [em] at hMet hpre ⊢
  exact vx_runI (g := F0 m pc ls (st.map (cv G ρ))) (b := ρ a) ⟨hx, hb, hml, hown, hts⟩ hMet cw ⟨by rw [← em]; exact blind, hpre⟩ rfl (by rw [List.length_map]; exact hn) hsz (by show st.map (cv G ρ) = _; rw [st_split hst, List.map_cons, ea]) (by show 2 * 0 + _ ≤ 8; rw [cat_sum]; omega) hdg hf
theorem V_callIN {ci : Nat} (h8 : ci < 12) {d' idx : Nat} {y : MethodName} {host : String} {bytes : ByteArray} {mL : Nat} {rt n : Nat} {a : Int} {ys st0 : List AV} {K : Int → Mem → Rz} {X : Int → Int → Mem → Rz} (hM : Con d' y (.code y bytes mL none) rt ((2, a) :: ys) μ r) (hy : Mth y bytes mL none n) (hyI : y.name = "<init>") (hs : Cond.instanceMethod y ∈ lw_all) (hl : Cond.methodLinkNest (kW κ) idx y host ∈ lw_nest) (hst : st = ys.reverse ++ (2, a) :: st0) (hn : ys.length = n) (hD : d' + 1 ≤ kD κ) (hc : (st0.map fun q => catA q.1).sum ≤ 8) (hdg : decode (kC κ) pc = .ok (.invokespecial idx, 3))
    (kx : ∀ x1 v1 μ1, x1 ≠ 0 → VX Γ κ pc lv x1 μ1 (X x1 v1 μ1)) (k : ∀ v μ1, V Γ κ (pc + 3) lv (rcons rt v st0) μ1 (K v μ1)) : V Γ κ pc lv st μ (KD ci a μ (CLX r K X)) := by
  refine V_KD (fun hk => ?_)
  refine V_callG hM (fun h => ?_) ?_ kx k
  · obtain ⟨h1, h2⟩ := st_ok hst h
    exact ⟨ok_cons (ok_hd h2) h1, ok_tl h2⟩
  obtain ⟨p, l, e, R, s, m, args, below, meth, c, Q, G, ρ0, μ0⟩ := Γ
  intro O ρ H locs ls ce sl mc ms x1 v1 μ1 hsz hxs hgp hMet hpre hf
  obtain ⟨hx, hb, hml, hown, hts, hcx, hlk, htr, hfr, hlo, hrt, hin9, htab⟩ := O
  obtain ⟨a0, a1, ⟨cell, q1, q2, q3, q4⟩, -⟩ := hgp.objw (hxs _ List.mem_cons_self) h8 hk
  have ea : cv G ρ (2, a) = .ref (ρ a) := cvR_pos a0
  have em : ((2, a) :: ys).map (cv G ρ) = .ref (ρ a) :: ys.map (cv G ρ) := by rw [List.map_cons, ea]
  have hN := hcx.2.2.2.2.2.2.1 _ hl
  have cw := va_cnB (R := R) (args := args) (own := kW κ) (index := idx) (mc := mc) (ms := ms) (rm := { frames := d', cells := mc, slots := ms, locals := 60 * d' }) n hts (y := y) (bytes := bytes) (maxL := mL) (ret := none) (mth_good hy) rfl rfl rfl hN (hts _ hy.2.1) hy.2.2.1 ⟨by show d' + 1 ≤ _; omega, by show 8 + (mL + 11) + 60 * d' ≤ _; have := hy.2.2.2; omega⟩
  rw [em] at hMet hpre ⊢
  exact vx_runIN (g := F0 m pc ls (st.map (cv G ρ))) (b := ρ a) ⟨hx, hb, hml, hown, hts⟩ hMet ⟨cw, hyI, hts _ hs⟩ ⟨by rw [← em]; exact blind, hpre⟩ rfl (by rw [List.length_map]; exact hn) hsz (by show st.map (cv G ρ) = _; rw [st_split hst, List.map_cons, ea]) (by show 2 * 0 + _ ≤ 8; rw [cat_sum]; omega) hdg hf
end VCALLS
