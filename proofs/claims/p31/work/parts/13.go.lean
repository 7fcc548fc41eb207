abbrev excChain : List String := ["java/lang/RuntimeException", "java/lang/Exception"]
/-! throws, calls, switches -/
theorem no_handler {κ : Kap} (hH : kH κ = []) {c : Code} (htab : c.exceptionTable.toList = kH κ) (pc : Nat) : ∀ x ∈ c.exceptionTable.toList, covers x pc = false := fun x hx => by
  rw [htab, hH] at hx
  cases hx
/-- what a throw of the class cls by the entry ic asks of the tables -/
def thrOk (own : String) (ik ic : Nat) (cls : String) : Prop := (Cond.classLink own ik cls ∈ lw_all ∧ Cond.initialized cls ∈ lw_all ∧ Bundle.fit cls = true ∧ (cls, cls) ∈ lw_cast) ∧ (∀ w ∈ (vx_atS own ic cls excChain).filter goodWord, w ∈ lw_all) ∧ (∀ w ∈ (vx_atS own ic cls excChain).filter (fun w => !goodWord w), w ∈ Cond.castable cls cls :: lw_decl.map Cond.declares) ∧ (∀ w ∈ Cond.classLink own ik cls :: Cond.initialized cls :: vx_atS own ic cls excChain, vx_ot w = true)
theorem thr_use {G : Gc} {s : State} {args : Array Value} {cls : String} (hcx : CxP G s) (hcast : va_Nw (.castable cls cls) s) : ∀ w ∈ Cond.castable cls cls :: lw_decl.map Cond.declares, w.before args s = true := fun w hw => by
  rcases List.mem_cons.mp hw with e | e
  · rw [e]; exact va_Nw.use rfl hcast
  · obtain ⟨x, hx, rfl⟩ := List.mem_map.mp e
    exact va_Nw.use rfl (hcx.2.2.2.2.2.2.2.2.2.2.2.2.2.1 x hx)
section VGO
variable {Γ : Gam} {κ : Kap} {pc : Nat} {lv : List (Nat × AV)} {st : List AV} {μ : Mem} {r : Rz}
theorem V_throw (x : Int) (hx0 : x ≠ 0) {ik ic is : Nat} {tx cls : String} (he : excN x = cls) (ht : thrOk (kW κ) ik ic cls) (hms : (kW κ, is, tx) ∈ msgs) (hH : kH κ = []) (hR : kR κ ≠ 10) (hd : 6 ≤ kD κ)
    (d0 : decode (kC κ) pc = .ok (.new ik, 3)) (d3 : decode (kC κ) (pc + 3) = .ok (.dup, 1)) (d4 : decode (kC κ) (pc + 4) = .ok (.ldc is, 2)) (d6 : decode (kC κ) (pc + 6) = .ok (.invokespecial ic, 3)) (d9 : decode (kC κ) (pc + 9) = .ok (.athrow, 1)) : V Γ κ pc lv [] μ (TH x μ) := by
  obtain ⟨p, l, e, R, s, m, args, below, meth, c, Q, G, ρ0, μ0⟩ := Γ
  intro x' v μ' hr
  cases hr
  have m0 : mThr μ 0 0 = μ 0 0 := by unfold mThr; rw [if_neg (by omega), if_neg (by omega)]
  have m1 : mThr μ 0 1 = μ 0 1 + 1 := by unfold mThr; rw [if_pos ⟨rfl, rfl⟩]
  have m2 : mThr μ 0 2 = μ 0 2 + 6 := by unfold mThr; rw [if_neg (by omega), if_pos ⟨rfl, rfl⟩]
  refine ⟨by rw [m0, m1, m2, mThr_03]; omega, fun O a1 a2 a3 a4 a5 ρ H locs ls b1 b2 b3 b4 b5 b6 => ?_⟩
  obtain ⟨hx, hb, hml, hown, hts, hcx, hlk, htr, hfr, hlo, hrt, hin9, htab⟩ := O
  obtain ⟨hQ, hret⟩ := hrt hR
  obtain ⟨⟨t1, t2, t3, t4⟩, t5, t6, t7⟩ := ht
  obtain ⟨sa, hsa⟩ := hcx.2.2.2.2.2.1 _ hms
  rw [m1] at a4
  rw [m2] at a5
  rw [hQ]
  unfold QM
  have hcast := hcx.2.2.2.2.2.2.2.1 _ t4
  refine vx_throwS (names := excChain) (cls := cls) (A := bA G) hx hb htr hown t3 (by decide) (hts _ t1) (hts _ t2) hsa ?_ t7 hcx.2.1.1 hcx.2.1.2 b5 (b1.1.trans hml.symm) d0 d3 d4 d6 d9 (no_handler hH (htab hR) _) (by show 5 < R.frames; omega) (by show 0 + (13 * 3 + 43) ≤ R.locals; omega) (by omega) (by omega) hlk ?_ b5.2.2 (by rw [m1]; omega) (by rw [m2]; omega)
  · exact vx_hat (B := Cond.castable cls cls :: lw_decl.map Cond.declares) (fun w hw => hts w (t5 w hw)) t6 (thr_use hcx hcast)
  · intro t hW hz hq
    exact ⟨⟨he.symm, hx0, ρ, b6, (b4.kept hq).thr⟩, Nat.le_trans b5.1 hz, fun q h1 h2 => (hq q (Nat.lt_of_lt_of_le h1 b5.1)).trans (b5.2.1 q h1 h2)⟩
theorem V_throwW (x : Int) (hx0 : x ≠ 0) {ik ic is : Nat} {tx cls : String} (he : excN x = cls) (ht : thrOk (kW κ) ik ic cls) (hms : (kW κ, is, tx) ∈ msgs) (hH : kH κ = []) (hR : kR κ ≠ 10) (hd : 6 ≤ kD κ)
    (d0 : decode (kC κ) pc = .ok (.new ik, 3)) (d3 : decode (kC κ) (pc + 3) = .ok (.dup, 1)) (d4 : decode (kC κ) (pc + 4) = .ok (.ldc_w is, 3)) (d7 : decode (kC κ) (pc + 7) = .ok (.invokespecial ic, 3)) (d10 : decode (kC κ) (pc + 10) = .ok (.athrow, 1)) : V Γ κ pc lv [] μ (TH x μ) := by
  obtain ⟨p, l, e, R, s, m, args, below, meth, c, Q, G, ρ0, μ0⟩ := Γ
  intro x' v μ' hr
  cases hr
  have m0 : mThr μ 0 0 = μ 0 0 := by unfold mThr; rw [if_neg (by omega), if_neg (by omega)]
  have m1 : mThr μ 0 1 = μ 0 1 + 1 := by unfold mThr; rw [if_pos ⟨rfl, rfl⟩]
  have m2 : mThr μ 0 2 = μ 0 2 + 6 := by unfold mThr; rw [if_neg (by omega), if_pos ⟨rfl, rfl⟩]
  refine ⟨by rw [m0, m1, m2, mThr_03]; omega, fun O a1 a2 a3 a4 a5 ρ H locs ls b1 b2 b3 b4 b5 b6 => ?_⟩
  obtain ⟨hx, hb, hml, hown, hts, hcx, hlk, htr, hfr, hlo, hrt, hin9, htab⟩ := O
  obtain ⟨hQ, hret⟩ := hrt hR
  obtain ⟨⟨t1, t2, t3, t4⟩, t5, t6, t7⟩ := ht
  obtain ⟨sa, hsa⟩ := hcx.2.2.2.2.2.1 _ hms
  rw [m1] at a4
  rw [m2] at a5
  rw [hQ]
  unfold QM
  have hcast := hcx.2.2.2.2.2.2.2.1 _ t4
  refine vx_throwSW (names := excChain) (cls := cls) (A := bA G) hx hb htr hown t3 (by decide) (hts _ t1) (hts _ t2) hsa ?_ t7 hcx.2.1.1 hcx.2.1.2 b5 (b1.1.trans hml.symm) d0 d3 d4 d7 d10 (no_handler hH (htab hR) _) (by show 5 < R.frames; omega) (by show 0 + (13 * 3 + 43) ≤ R.locals; omega) (by omega) (by omega) hlk ?_ b5.2.2 (by rw [m1]; omega) (by rw [m2]; omega)
  · exact vx_hat (B := Cond.castable cls cls :: lw_decl.map Cond.declares) (fun w hw => hts w (t5 w hw)) t6 (thr_use hcx hcast)
  · intro t hW hz hq
    exact ⟨⟨he.symm, hx0, ρ, b6, (b4.kept hq).thr⟩, Nat.le_trans b5.1 hz, fun q h1 h2 => (hq q (Nat.lt_of_lt_of_le h1 b5.1)).trans (b5.2.1 q h1 h2)⟩
/-- behind a call's run -/
theorem call_go {p : Program} {l : Launch} {e : Env} {R : Room} {s : State} {m : MethodId} {args : Array Value} {below : List Frame} {meth : Method} {c : Code} {H : Heap} {locs : List Loc} {ce sl mc ms pc : Nat} {Q : State → Prop} {G : Gc} {ρ : Int → Nat} {μ μ1 : Mem} {rt : Nat} {x1 v1 : Int} {a : Array Value} {ls : Array Slot} {stk rest : List Value}
    (hr : vx_Run p l e R s m args below meth c H locs ce sl mc ms (F0 m pc ls stk) rest (QcF G ρ μ rt x1 v1 μ1 a) (XcF G ρ μ x1 μ1) (bA G)) (hS : va_S (bA G) s.heap H locs)
    (kx : x1 ≠ 0 → ∀ (ρ' : Int → Nat) (H1 : Heap) (locs1 : List Loc) (q9 : Addr) (ce9 : Cell), Ext (bd μ) ρ ρ' → GP G ρ' μ1 H1 → va_S (bA G) s.heap H1 locs1 → H1[q9]? = some ce9 → ce9.vm = .none → s.vm.findClass (excN x1) = some ce9.cls → vx_W p l e R s m args below meth c H1 locs1 (ce + mc) (sl + ms) Q (F0 m pc ls rest) q9)
    (kk : x1 = 0 → ∀ (ρ' : Int → Nat) (H1 : Heap) (locs1 : List Loc), Ext (bd μ) ρ ρ' → GP G ρ' μ1 H1 → va_S (bA G) s.heap H1 locs1 → (rt ≠ 9 → vok (bd μ1) (rt, v1)) → W p l e R s m args below meth c H1 locs1 (ce + mc) (sl + ms) Q (F0 m (pc + 3) ls ((rvO G ρ' rt v1).toList ++ rest))) : W p l e R s m args below meth c H locs ce sl Q (F0 m pc ls stk) := by
  intro T hT X
  rcases hr T hT X with ⟨v, st₀, t, T', L, h0, X', hL, e1, e2, ⟨⟨hx, ρ', h1, h2, h3, h4⟩, hF⟩, stp⟩ | ⟨q, st₀, t, T', L, E, ce9, h0, X', hL, e1, e2, ⟨⟨hE, hx, ρ', h1, h3⟩, hF⟩, hce, hcv, hcl, stp⟩
  · cases h2
    obtain ⟨k1, k2, k3⟩ := vx_keep h0 e1 hS (fun _ _ h => h) (fun _ h => h) hL hF
    obtain ⟨t2, a1, b1⟩ := kk hx ρ' T'.heap (locs ++ L) h1 (by rw [e1]; exact h3) k3 h4 T' rfl X'
    exact ⟨t2, stp t2 a1, b1⟩
  · obtain ⟨k1, k2, k3⟩ := vx_keep h0 e1 hS (fun _ _ h => h) (fun _ h => h) hL hF
    obtain ⟨t2, a1, b1⟩ := kx hx ρ' T'.heap (locs ++ L) q ce9 h1 (by rw [e1]; exact h3) k3 (by rw [e1]; exact hce) hcv (by rw [← hE]; exact hcl) T' rfl X'
    exact ⟨t2, stp.trans a1, b1⟩
def rcons (rt : Nat) (v : Int) (st : List AV) : List AV := if rt = 9 then st else (rt, v) :: st
theorem rcons_map (G : Gc) (ρ : Int → Nat) (rt : Nat) (v : Int) (st : List AV) : (rvO G ρ rt v).toList ++ st.map (cv G ρ) = (rcons rt v st).map (cv G ρ) := by
  unfold rvO rcons
  split <;> rfl
theorem blind {G : Gc} {ρ : Int → Nat} {μ : Mem} {xs : List AV} : FrameBlind (va_Pc (xs.map (cv G ρ)) (fun U => CxP G U ∧ GP G ρ μ U.heap ∧ ∀ q ∈ xs, vok (bd μ) q)) := fun a U g mk h => ⟨h.1, h.2.1.call, h.2.2.1, h.2.2.2⟩
theorem cat_sum (G : Gc) (ρ : Int → Nat) (st : List AV) : (st.map (cv G ρ)).map (fun v => v.category) = st.map fun q => catA q.1 := by
  rw [List.map_map]
  exact List.map_congr_left (fun q _ => cv_cat G ρ q)
end VGO
