/-! the string constants' own methods, the script, the law's end -/
def SCH (i j : Int) (K : Int → Rz) : Rz := if 0 ≤ j ∧ j < strLen i then K (strCh i j) else none
theorem Con_none {d : Nat} {y : MethodName} {hd : Cond} {rt : Nat} {xs : List AV} {μ : Mem} : Con d y hd rt xs μ none := fun _ _ _ _ _ _ h => by cases h
theorem wB_all : ∀ k : Nat, (wBytes k).length ≤ 7 ∧ (wBytes k).all (fun z => decide (97 ≤ z ∧ z ≤ 122)) = true := by
  intro k
  unfold wBytes
  split <;> decide
theorem strLen_ok (i : Int) : 0 ≤ strLen i ∧ strLen i ≤ 7 := by
  have := (wB_all i.toNat).1
  unfold strLen
  omega
theorem strCh_ok {i j : Int} (h0 : 0 ≤ j) (h1 : j < strLen i) : 97 ≤ strCh i j ∧ strCh i j ≤ 122 := by
  unfold strLen at h1
  have hlt : j.toNat < (wBytes i.toNat).length := by omega
  have h := List.all_eq_true.mp (wB_all i.toNat).2 ((wBytes i.toNat)[j.toNat]) (List.getElem_mem hlt)
  unfold strCh
  rw [List.getD_eq_getElem?_getD, List.getElem?_eq_getElem hlt, Option.getD_some]
  exact of_decide_eq_true h
theorem vok5 {n : Int × Int} {z : Int} (h : 0 ≤ z ∧ z < 27) : vok n (5, z) := show 0 ≤ z ∧ z < 28 by omega
section VSTR
variable {Γ : Gam} {κ : Kap} {pc : Nat} {lv : List (Nat × AV)} {st : List AV} {μ : Mem} {r : Rz}
theorem V_LT {t : Nat} {z : Int} {K : Int → Rz} (h : ∀ x, V Γ κ pc lv ((t, x) :: st) μ (K x)) : V Γ κ pc lv ((t, z) :: st) μ (LT z K) := h z
theorem V_ldcsW {i : Nat} {tx : String} {w : Nat} (hw : (kW κ, i, tx, w) ∈ wrds) (hdg : decode (kC κ) pc = .ok (.ldc_w i, 3)) (h13 : w < 13) (k : V Γ κ (pc + 3) lv ((5, (w : Int)) :: st) μ r) : V Γ κ pc lv st μ r := by
  refine V_pure (pc' := pc + 3) (lv' := lv) (st' := (5, (w : Int)) :: st) ?_ (fun b _ => b) (fun _ b3 => ok_cons (show 0 ≤ (w : Int) ∧ (w : Int) < nStr by unfold nStr; omega) b3) k
  obtain ⟨p, l, e, R, s, m, args, below, meth, c, Q, G, ρ0, μ0⟩ := Γ
  intro O
  obtain ⟨hx, hb, hml, hown, hts, hcx, hlk, htr, hfr, hlo, hrt, hin9, htab⟩ := O
  intro ρ H locs ls ce sl Q' b1 b2 b3 b5 kk
  have h := hcx.2.2.2.2.1 _ hw
  intro T hT X
  obtain ⟨t, a1, b1⟩ := kk ls b1 T hT X
  exact ⟨t, X.ldcStringW hx hown (text := tx) (a := gK G w) h.1 h.2 (g := F0 m pc ls (st.map (cv G ρ))) rfl (by rw [hb]; exact hdg) t a1, b1⟩
theorem V_strVal {i : Int} (hi : 0 ≤ i ∧ i < 13) {idx : Nat} (hlink : Cond.fieldLink (kW κ) idx RJ0 "value" "[B" ∈ lw_all) (hdg : decode (kC κ) pc = .ok (.getfield idx, 3)) (k : V Γ κ (pc + 3) lv ((5, i + 13) :: st) μ r) : V Γ κ pc lv ((5, i) :: st) μ r := by
  refine V_pure (pc' := pc + 3) (lv' := lv) (st' := (5, i + 13) :: st) ?_ (fun b _ => b) (fun _ b3 => ok_cons (vok5 ⟨by omega, by omega⟩) (ok_tl b3)) k
  obtain ⟨p, l, e, R, s, m, args, below, meth, c, Q, G, ρ0, μ0⟩ := Γ
  intro O
  obtain ⟨hx, hb, hml, hown, hts, hcx, hlk, htr, hfr, hlo, hrt, hin9, htab⟩ := O
  intro ρ H locs ls ce sl Q' b1 b2 b3 b5 kk
  obtain ⟨d1, d2, d3, d4⟩ := hcx.2.2.2.1 i.toNat (by omega)
  have e : (i + 13).toNat = i.toNat + 13 := by omega
  have hk := kk ls b1
  rw [List.map_cons, show cv G ρ (5, i + 13) = .ref (gK G (i + 13).toNat) from rfl, e] at hk
  exact vk_getf (q := gK G i.toNat) hx hb d3 b5 hown (hts _ hlink) (fun _ h => h) hdg hk
theorem V_strCod {i : Int} (hi : 0 ≤ i ∧ i < 13) {idx : Nat} (hlink : Cond.fieldLink (kW κ) idx RJ0 "coder" "B" ∈ lw_all) (hdg : decode (kC κ) pc = .ok (.getfield idx, 3)) (k : V Γ κ (pc + 3) lv ((0, 0) :: st) μ r) : V Γ κ pc lv ((5, i) :: st) μ r := by
  refine V_pure (pc' := pc + 3) (lv' := lv) (st' := (0, 0) :: st) ?_ (fun b _ => b) (fun _ b3 => ok_cons i32_0 (ok_tl b3)) k
  obtain ⟨p, l, e, R, s, m, args, below, meth, c, Q, G, ρ0, μ0⟩ := Γ
  intro O
  obtain ⟨hx, hb, hml, hown, hts, hcx, hlk, htr, hfr, hlo, hrt, hin9, htab⟩ := O
  intro ρ H locs ls ce sl Q' b1 b2 b3 b5 kk
  obtain ⟨d1, d2, d3, d4⟩ := hcx.2.2.2.1 i.toNat (by omega)
  exact vk_getf (q := gK G i.toNat) hx hb d2 b5 hown (hts _ hlink) (fun _ h => h) hdg (kk ls b1)
theorem V_strAlen {i : Int} (hi : 0 ≤ i ∧ i < 13) (hdg : decode (kC κ) pc = .ok (.arraylength, 1)) (k : V Γ κ (pc + 1) lv ((0, strLen i) :: st) μ r) : V Γ κ pc lv ((5, i + 13) :: st) μ r := by
  refine V_pure (pc' := pc + 1) (lv' := lv) (st' := (0, strLen i) :: st) ?_ (fun b _ => b) (fun _ b3 => ok_cons (show i32 (strLen i) by have := strLen_ok i; unfold i32; omega) (ok_tl b3)) k
  obtain ⟨p, l, e, R, s, m, args, below, meth, c, Q, G, ρ0, μ0⟩ := Γ
  intro O
  obtain ⟨hx, hb, hml, hown, hts, hcx, hlk, htr, hfr, hlo, hrt, hin9, htab⟩ := O
  intro ρ H locs ls ce sl Q' b1 b2 b3 b5 kk
  obtain ⟨d1, d2, d3, d4⟩ := hcx.2.2.2.1 i.toNat (by omega)
  have e : (i + 13).toNat = i.toNat + 13 := by omega
  rw [List.map_cons, show cv G ρ (5, i + 13) = .ref (gK G (i + 13).toNat) from rfl, e]
  exact va_tlen hx hb d4 b5 (v := Int32.ofInt (strLen i)) (by unfold strLen; rw [Int32.ofInt_eq_ofNat]) hdg (kk ls b1)
theorem V_strBald {i j : Int} (hi : 0 ≤ i ∧ i < 13) (hj : 0 ≤ j ∧ j < strLen i) (hdg : decode (kC κ) pc = .ok (.baload, 1)) (k : V Γ κ (pc + 1) lv ((0, strCh i j) :: st) μ r) : V Γ κ pc lv ((0, j) :: (5, i + 13) :: st) μ r := by
  refine V_pure (pc' := pc + 1) (lv' := lv) (st' := (0, strCh i j) :: st) ?_ (fun b _ => b) (fun _ b3 => ok_cons (show i32 (strCh i j) by have := strCh_ok hj.1 hj.2; unfold i32; omega) (ok_tl (ok_tl b3))) k
  obtain ⟨p, l, e, R, s, m, args, below, meth, c, Q, G, ρ0, μ0⟩ := Γ
  intro O
  obtain ⟨hx, hb, hml, hown, hts, hcx, hlk, htr, hfr, hlo, hrt, hin9, htab⟩ := O
  intro ρ H locs ls ce sl Q' b1 b2 b3 b5 kk
  obtain ⟨d1, d2, d3, d4⟩ := hcx.2.2.2.1 i.toNat (by omega)
  have e : (i + 13).toNat = i.toNat + 13 := by omega
  obtain ⟨x1, x2⟩ := ix_ok (ok_hd b3) hj.1 hj.2
  rw [List.map_cons, List.map_cons, show cv G ρ (5, i + 13) = .ref (gK G (i + 13).toNat) from rfl, e]
  refine va_tb hx hb d4 b5 (i := Int32.ofInt j) (v := .int (Int32.ofInt (strCh i j))) ?_ ?_ hdg (kk ls b1)
  · intro h
    refine x1 (h.imp id fun q => ?_)
    unfold strLen
    rw [Int.toNat_natCast]
    exact q
  · show Value.int (Int32.ofInt ((wBytes i.toNat).getD (Int32.ofInt j).toNatClampNeg 0)) = _
    rw [x2]
    rfl
/-- a call of a string constant's method -/
theorem V_callVs {d' idx : Nat} {y : MethodName} {bytes : ByteArray} {mL : Nat} {ret : Option FieldType} {rt n : Nat} {a : Int} (ha : 0 ≤ a ∧ a < 13) {ys st0 : List AV} {K : Int → Mem → Rz} {X : Int → Int → Mem → Rz} (hM : Con d' y (.code y bytes mL ret) rt ((5, a) :: ys) μ r) (hy : Mth y bytes mL ret n) (hyC : y.cls = RJ0) (hs : Cond.instanceMethod y ∈ lw_all ∧ Cond.selects RJ0 y y ∈ lw_all) (hl : Cond.methodLink (kW κ) idx y ∈ lw_all) (hst : st = ys.reverse ++ (5, a) :: st0) (hn : ys.length = n) (hD : d' + 1 ≤ kD κ) (hc : (st0.map fun q => catA q.1).sum ≤ 8) (hdg : decode (kC κ) pc = .ok (.invokevirtual idx, 3))
    (kx : ∀ x1 v1 μ1, x1 ≠ 0 → VX Γ κ pc lv x1 μ1 (X x1 v1 μ1)) (k : ∀ v μ1, V Γ κ (pc + 3) lv (rcons rt v st0) μ1 (K v μ1)) : V Γ κ pc lv st μ (CLX r K X) := by
  refine V_callG hM (fun h => ?_) ?_ kx k
  · obtain ⟨h1, h2⟩ := st_ok hst h
    exact ⟨ok_cons (ok_hd h2) h1, ok_tl h2⟩
  obtain ⟨p, l, e, R, s, m, args, below, meth, c, Q, G, ρ0, μ0⟩ := Γ
  intro O ρ H locs ls ce sl mc ms x1 v1 μ1 hsz hxs hgp hMet hpre hf
  obtain ⟨hx, hb, hml, hown, hts, hcx, hlk, htr, hfr, hlo, hrt, hin9, htab⟩ := O
  have ea : cv G ρ (5, a) = .ref (gK G a.toNat) := rfl
  have em : ((5, a) :: ys).map (cv G ρ) = .ref (gK G a.toNat) :: ys.map (cv G ρ) := by rw [List.map_cons, ea]
  have cw := cwV (R := R) (args := args) (own := kW κ) (C := RJ0) (index := idx) (mc := mc) (ms := ms) (rm := { frames := d', cells := mc, slots := ms, locals := 60 * d' }) n hts (y := y) (bytes := bytes) (maxL := mL) (ret := ret) (ws := .code y bytes mL ret :: lw_all) (good_app (l := [.methodLink (kW κ) idx y, .instanceMethod y, .selects RJ0 y y, .initialized RJ0]) (fun w hw => by
    simp only [List.mem_cons, List.not_mem_nil, or_false] at hw
    rcases hw with rfl | rfl | rfl | rfl
    · exact hl
    · exact hs.1
    · exact hs.2
    · rw [← hyC]; exact hy.2.1) hy.1) rfl rfl rfl ⟨hyC, hy.2.2.1⟩ ⟨by show d' + 1 ≤ _; omega, by show 8 + (mL + 11) + 60 * d' ≤ _; have := hy.2.2.2; omega⟩
  rw [em] at hMet hpre ⊢
  have hrecv := hpre { s with heap := H } rfl (State.WarmedH.refl s)
  obtain ⟨cell, q1, q2, q3, -⟩ := (hrecv.2.1.2.2.2.1 a.toNat (by omega)).1
  exact vx_runV (g := F0 m pc ls (st.map (cv G ρ))) (b := gK G a.toNat) ⟨hx, hb, hml, hown, hts⟩ hMet cw ⟨by rw [← em]; exact blind, ⟨cell, q1, q2, q3⟩, hpre⟩ rfl (by rw [List.length_map]; exact hn) hsz (by show st.map (cv G ρ) = _; rw [st_split hst, List.map_cons, ea]) (by show 2 * 0 + _ ≤ 8; rw [cat_sum]; omega) hdg hf
end VSTR
abbrev KJcoder : Kap := (RJ0, cJ0_coder_7d493, 1, 1, 0, some .byte, false, [])
theorem con_coder {i : Int} (hi : 0 ≤ i ∧ i < 13) (μ : Mem) : Con 1 yJ0_coder_7d493 (.code yJ0_coder_7d493 cJ0_coder_7d493 1 (some .byte)) 0 [(5, i)] μ (some (0, 0, μ)) := by
  refine Con_intro KJcoder (plainFor_of_name (by decide)) rfl (fun h => by cases h) (by decide) rfl (Nat.le_of_ble_eq_true rfl) (fun Γ => ?_)
  show V Γ KJcoder 0 [(0, (5, i))] [] μ _
  refine V_getCompact (pc := 0) wd_724 dJ0_coder_7d493_0 ?_
  rw [show (some (0, 0, μ) : Rz) = if (1 : Int) = 0 then none else some (0, 0, μ) from (if_neg (by decide)).symm]
  refine V_if_eq (pc := 3) (tgt := 13) dJ0_coder_7d493_3 rfl V_none ?_
  refine V_aload_n (pc := 6) dJ0_coder_7d493_6 0 rfl rfl ?_
  refine V_strCod (pc := 7) hi wd_1184 dJ0_coder_7d493_7 ?_
  refine V_goto (pc := 10) (tgt := 14) dJ0_coder_7d493_10 rfl ?_
  exact V_breturn (pc := 14) rfl rfl dJ0_coder_7d493_14
theorem bShr_0 {z : Int} (h : 0 ≤ z ∧ z ≤ 7) : bShr z 0 = z := by
  have : ∀ n : Fin 8, bShr (n : Nat) 0 = (n : Nat) := by decide
  have h2 := this ⟨z.toNat, by omega⟩
  have e : ((z.toNat : Nat) : Int) = z := by omega
  simpa only [e] using h2
abbrev KJlength : Kap := (RJ0, cJ0_length_8abf5, 1, 2, 0, some .int, false, [])
theorem con_strLen {i : Int} (hi : 0 ≤ i ∧ i < 13) (μ : Mem) : Con 2 yJ0_length_8abf5 (.code yJ0_length_8abf5 cJ0_length_8abf5 1 (some .int)) 0 [(5, i)] μ (some (0, strLen i, μ)) := by
  have e : (some (0, strLen i, μ) : Rz) = CL (some (0, 0, μ)) (fun v ν => RT (bShr (strLen i) v) ν) := by
    show some (0, strLen i, μ) = some (0, bShr (strLen i) 0, μ)
    rw [bShr_0 (strLen_ok i)]
  rw [e]
  refine Con_intro KJlength (plainFor_of_name (by decide)) rfl (fun h => by cases h) (by decide) rfl (Nat.le_of_ble_eq_true rfl) (fun Γ => ?_)
  show V Γ KJlength 0 [(0, (5, i))] [] μ _
  refine V_aload_n (pc := 0) dJ0_length_8abf5_0 0 rfl rfl ?_
  refine V_strVal (pc := 1) hi wd_1183 dJ0_length_8abf5_1 ?_
  refine V_strAlen (pc := 4) hi dJ0_length_8abf5_4 ?_
  refine V_aload_n (pc := 5) dJ0_length_8abf5_5 0 rfl rfl ?_
  refine V_callVs (pc := 6) hi (con_coder hi μ) mth_J0_coder_7d493 rfl ⟨wd_721, wd_722⟩ wd_720 (st0 := [(0, strLen i)]) rfl rfl (by decide) (Nat.le_of_ble_eq_true rfl) dJ0_length_8abf5_6 (fun _ _ _ h => VX_out rfl (by decide) h) fun v ν => ?_
  refine V_ishr (pc := 9) dJ0_length_8abf5_9 ?_
  exact V_ireturn (pc := 10) rfl rfl dJ0_length_8abf5_10
abbrev KJlatin : Kap := (RJ0, cJ0_isLatin1_aae02, 1, 1, 0, some .boolean, false, [])
theorem con_latin {i : Int} (hi : 0 ≤ i ∧ i < 13) (μ : Mem) : Con 1 yJ0_isLatin1_aae02 (.code yJ0_isLatin1_aae02 cJ0_isLatin1_aae02 1 (some .boolean)) 0 [(5, i)] μ (some (0, 1, μ)) := by
  refine Con_intro KJlatin (plainFor_of_name (by decide)) rfl (fun h => by cases h) (by decide) rfl (Nat.le_of_ble_eq_true rfl) (fun Γ => ?_)
  show V Γ KJlatin 0 [(0, (5, i))] [] μ _
  refine V_getCompact (pc := 0) wd_724 dJ0_isLatin1_aae02_0 ?_
  rw [show (some (0, 1, μ) : Rz) = if (1 : Int) = 0 then none else some (0, 1, μ) from (if_neg (by decide)).symm]
  refine V_if_eq (pc := 3) (tgt := 17) dJ0_isLatin1_aae02_3 rfl V_none ?_
  refine V_aload_n (pc := 6) dJ0_isLatin1_aae02_6 0 rfl rfl ?_
  refine V_strCod (pc := 7) hi wd_1184 dJ0_isLatin1_aae02_7 ?_
  rw [show (some (0, 1, μ) : Rz) = if ¬ (0 : Int) = 0 then none else some (0, 1, μ) from (if_neg (by decide)).symm]
  refine V_if_ne (pc := 10) (tgt := 17) dJ0_isLatin1_aae02_10 rfl V_none ?_
  refine V_iconst (pc := 13) dJ0_isLatin1_aae02_13 ⟨by decide, by decide⟩ ?_
  refine V_goto (pc := 14) (tgt := 18) dJ0_isLatin1_aae02_14 rfl ?_
  exact V_zreturn (pc := 18) rfl rfl dJ0_isLatin1_aae02_18
abbrev KJpre : Kap := (RJ3, cJ3_checkIndex_8e157, 3, 1, 0, some .int, false, [])
theorem con_pre {j n : Int} (h : 0 ≤ j ∧ j < n) (μ : Mem) : Con 1 yJ3_checkIndex_8e157 (.code yJ3_checkIndex_8e157 cJ3_checkIndex_8e157 3 (some .int)) 0 [(0, j), (0, n), (6, 0)] μ (some (0, j, μ)) := by
  refine Con_intro KJpre (plainFor_of_name (by decide)) rfl (fun h => by cases h) (by decide) rfl (Nat.le_of_ble_eq_true rfl) (fun Γ => ?_)
  show V Γ KJpre 0 [(0, (0, j)), (1, (0, n)), (2, (6, 0))] [] μ _
  refine V_iload_n (pc := 0) dJ3_checkIndex_8e157_0 0 rfl ?_
  rw [show (some (0, j, μ) : Rz) = if j < 0 then none else some (0, j, μ) from (if_neg (by omega)).symm]
  refine V_if_lt (pc := 1) (tgt := 9) dJ3_checkIndex_8e157_1 rfl V_none ?_
  refine V_iload_n (pc := 4) dJ3_checkIndex_8e157_4 0 rfl ?_
  refine V_iload_n (pc := 5) dJ3_checkIndex_8e157_5 1 rfl ?_
  rw [show (some (0, j, μ) : Rz) = if j < n then some (0, j, μ) else none from (if_pos h.2).symm]
  refine V_icmp_lt (pc := 6) (tgt := 16) dJ3_checkIndex_8e157_6 rfl ?_ V_none
  refine V_iload_n (pc := 16) dJ3_checkIndex_8e157_16 0 rfl ?_
  exact V_ireturn (pc := 17) rfl rfl dJ3_checkIndex_8e157_17
abbrev KJcheck : Kap := (RJ0, cJ0_checkIndex_df160, 2, 2, 9, none, false, [])
theorem con_check {j n : Int} (h : 0 ≤ j ∧ j < n) (μ : Mem) : Con 2 yJ0_checkIndex_df160 (.code yJ0_checkIndex_df160 cJ0_checkIndex_df160 2 none) 9 [(0, j), (0, n)] μ (some (0, 0, μ)) := by
  rw [show (some (0, 0, μ) : Rz) = CL (some (0, j, μ)) (fun _ ν => RT 0 ν) from rfl]
  refine Con_intro KJcheck (plainFor_of_name (by decide)) rfl (fun h => by cases h) (by decide) rfl (Nat.le_of_ble_eq_true rfl) (fun Γ => ?_)
  show V Γ KJcheck 0 [(0, (0, j)), (1, (0, n))] [] μ _
  refine V_iload_n (pc := 0) dJ0_checkIndex_df160_0 0 rfl ?_
  refine V_iload_n (pc := 1) dJ0_checkIndex_df160_1 1 rfl ?_
  refine V_getFormatter (pc := 2) wd_740 dJ0_checkIndex_df160_2 ?_
  refine V_callS (pc := 5) (con_pre h μ) mth_J3_checkIndex_8e157 wd_609 wd_742 (st0 := []) rfl rfl (by decide) (Nat.le_of_ble_eq_true rfl) dJ0_checkIndex_df160_5 (fun _ _ _ h => VX_out rfl (by decide) h) fun v ν => ?_
  refine V_pop (pc := 8) rfl dJ0_checkIndex_df160_8 ?_
  exact V_vreturn (pc := 9) rfl rfl dJ0_checkIndex_df160_9
theorem chr_ok {z : Int} (h : 97 ≤ z ∧ z ≤ 122) : bC (bAnd z 255) = z := by
  have : ∀ n : Fin 26, bC (bAnd ((n : Nat) + 97) 255) = (n : Nat) + 97 := by decide
  have h2 := this ⟨(z - 97).toNat, by omega⟩
  have e : (((z - 97).toNat : Nat) : Int) + 97 = z := by omega
  simpa only [e] using h2
abbrev KJch1 : Kap := (RJ1, cJ1_charAt_3b067, 2, 3, 0, some .char, false, [])
theorem con_ch1 {i j : Int} (hi : 0 ≤ i ∧ i < 13) (hj : 0 ≤ j ∧ j < strLen i) (μ : Mem) : Con 3 yJ1_charAt_3b067 (.code yJ1_charAt_3b067 cJ1_charAt_3b067 2 (some .char)) 0 [(5, i + 13), (0, j)] μ (some (0, strCh i j, μ)) := by
  have h9 := strCh_ok hj.1 hj.2
  have e : (some (0, strCh i j, μ) : Rz) = CL (some (0, 0, μ)) (fun _ ν => RTC (bC (bAnd (strCh i j) 255)) ν) := by
    show _ = RTC (bC (bAnd (strCh i j) 255)) μ
    rw [chr_ok h9]
    unfold RTC
    rw [if_pos (by omega)]
  rw [e]
  refine Con_intro KJch1 (plainFor_of_name (by decide)) rfl (fun h => by cases h) (by decide) rfl (Nat.le_of_ble_eq_true rfl) (fun Γ => ?_)
  show V Γ KJch1 0 [(0, (5, i + 13)), (1, (0, j))] [] μ _
  refine V_iload_n (pc := 0) dJ1_charAt_3b067_0 1 rfl ?_
  refine V_aload_n (pc := 1) dJ1_charAt_3b067_1 0 rfl rfl ?_
  refine V_strAlen (pc := 2) hi dJ1_charAt_3b067_2 ?_
  refine V_callS (pc := 3) (con_check hj μ) mth_J0_checkIndex_df160 wd_738 wd_737 (st0 := []) rfl rfl (by decide) (Nat.le_of_ble_eq_true rfl) dJ1_charAt_3b067_3 (fun _ _ _ h => VX_out rfl (by decide) h) fun v ν => ?_
  refine V_aload_n (pc := 6) dJ1_charAt_3b067_6 0 rfl rfl ?_
  refine V_iload_n (pc := 7) dJ1_charAt_3b067_7 1 rfl ?_
  refine V_strBald (pc := 8) hi hj dJ1_charAt_3b067_8 ?_
  refine V_sipush (pc := 9) dJ1_charAt_3b067_9 ⟨by decide, by decide⟩ (by decide) ?_
  refine V_iand (pc := 12) dJ1_charAt_3b067_12 ?_
  refine V_i2c (pc := 13) dJ1_charAt_3b067_13 ?_
  exact V_creturn (pc := 14) rfl rfl dJ1_charAt_3b067_14
abbrev KJch0 : Kap := (RJ0, cJ0_charAt_5068e, 2, 4, 0, some .char, false, [])
theorem con_strCh {i j : Int} (hi : 0 ≤ i ∧ i < 13) (hj : 0 ≤ j ∧ j < strLen i) (μ : Mem) : Con 4 yJ0_charAt_5068e (.code yJ0_charAt_5068e cJ0_charAt_5068e 2 (some .char)) 0 [(5, i), (0, j)] μ (some (0, strCh i j, μ)) := by
  have h9 := strCh_ok hj.1 hj.2
  have e : (some (0, strCh i j, μ) : Rz) = CL (some (0, 1, μ)) (fun x ν => if x = 0 then none else CL (some (0, strCh i j, ν)) (fun v ν => RTC v ν)) := by
    show _ = RTC (strCh i j) μ
    unfold RTC
    rw [if_pos (by omega)]
  rw [e]
  refine Con_intro KJch0 (plainFor_of_name (by decide)) rfl (fun h => by cases h) (by decide) rfl (Nat.le_of_ble_eq_true rfl) (fun Γ => ?_)
  show V Γ KJch0 0 [(0, (5, i)), (1, (0, j))] [] μ _
  refine V_aload_n (pc := 0) dJ0_charAt_5068e_0 0 rfl rfl ?_
  refine V_callVs (pc := 1) hi (con_latin hi μ) mth_J0_isLatin1_aae02 rfl ⟨wd_731, wd_732⟩ wd_730 (st0 := []) rfl rfl (by decide) (Nat.le_of_ble_eq_true rfl) dJ0_charAt_5068e_1 (fun _ _ _ h => VX_out rfl (by decide) h) fun v ν => ?_
  refine V_if_eq (pc := 4) (tgt := 16) dJ0_charAt_5068e_4 rfl V_none ?_
  refine V_aload_n (pc := 7) dJ0_charAt_5068e_7 0 rfl rfl ?_
  refine V_strVal (pc := 8) hi wd_1183 dJ0_charAt_5068e_8 ?_
  refine V_iload_n (pc := 11) dJ0_charAt_5068e_11 1 rfl ?_
  refine V_callS (pc := 12) (con_ch1 hi hj ν) mth_J1_charAt_3b067 wd_735 wd_734 (st0 := []) rfl rfl (by decide) (Nat.le_of_ble_eq_true rfl) dJ0_charAt_5068e_12 (fun _ _ _ h => VX_out rfl (by decide) h) fun v ν => ?_
  exact V_creturn (pc := 15) rfl rfl dJ0_charAt_5068e_15
section VSTR2
variable {Γ : Gam} {κ : Kap} {pc : Nat} {lv : List (Nat × AV)} {st : List AV} {μ : Mem} {r : Rz}
theorem V_strLen {idx : Nat} {i : Int} {K : Int → Rz} (hl : Cond.methodLink (kW κ) idx yJ0_length_8abf5 ∈ lw_all) (hD : 3 ≤ kD κ) (hH : kH κ = []) (hR : kR κ ≠ 10) (hc : (st.map fun q => catA q.1).sum ≤ 8) (hdg : decode (kC κ) pc = .ok (.invokevirtual idx, 3)) (k : ∀ v, V Γ κ (pc + 3) lv ((0, v) :: st) μ (K v)) : V Γ κ pc lv ((5, i) :: st) μ (STL i K) := by
  unfold STL
  by_cases hi : 0 ≤ i ∧ i < 13
  · rw [if_pos hi]
    have e : K (strLen i) = CL (some (0, strLen i, μ)) (fun v ν => @ite _ (ν = μ) (Classical.propDecidable _) (K v) none) := by
      show _ = @ite _ (μ = μ) (Classical.propDecidable _) (K (strLen i)) none
      rw [if_pos rfl]
    rw [e]
    refine V_callVs hi (con_strLen hi μ) mth_J0_length_8abf5 rfl ⟨wd_717, wd_718⟩ hl (st0 := st) rfl rfl (by omega) hc hdg (fun _ _ _ h => VX_out hH hR h) fun v ν => ?_
    show V Γ κ (pc + 3) lv ((0, v) :: st) ν (@ite _ (ν = μ) (Classical.propDecidable _) (K v) none)
    by_cases h : ν = μ
    · rw [if_pos h, h]; exact k v
    · rw [if_neg h]; exact V_none
  · rw [if_neg hi]
    exact V_none
theorem V_strCh {idx : Nat} {i j : Int} {K : Int → Rz} (hl : Cond.methodLink (kW κ) idx yJ0_charAt_5068e ∈ lw_all) (hD : 5 ≤ kD κ) (hH : kH κ = []) (hR : kR κ ≠ 10) (hc : (st.map fun q => catA q.1).sum ≤ 8) (hdg : decode (kC κ) pc = .ok (.invokevirtual idx, 3)) (k : ∀ v, V Γ κ (pc + 3) lv ((0, v) :: st) μ (K v)) : V Γ κ pc lv ((0, j) :: (5, i) :: st) μ (STC i j K) := by
  unfold STC
  by_cases hi : (0 ≤ i ∧ i < 13) ∧ 0 ≤ j ∧ j < strLen i
  · rw [if_pos hi]
    have e : K (strCh i j) = CL (some (0, strCh i j, μ)) (fun v ν => @ite _ (ν = μ) (Classical.propDecidable _) (K v) none) := by
      show _ = @ite _ (μ = μ) (Classical.propDecidable _) (K (strCh i j)) none
      rw [if_pos rfl]
    rw [e]
    refine V_callVs hi.1 (con_strCh hi.1 hi.2 μ) mth_J0_charAt_5068e rfl ⟨wd_727, wd_728⟩ hl (st0 := st) rfl rfl (by omega) hc hdg (fun _ _ _ h => VX_out hH hR h) fun v ν => ?_
    show V Γ κ (pc + 3) lv ((0, v) :: st) ν (@ite _ (ν = μ) (Classical.propDecidable _) (K v) none)
    by_cases h : ν = μ
    · rw [if_pos h, h]; exact k v
    · rw [if_neg h]; exact V_none
  · rw [if_neg hi]
    exact V_none
/-! tested indices -/
theorem V_chk0 {idx : Nat} {i n : Int} (hl : Cond.methodLink (kW κ) idx yJ0_checkIndex_df160 ∈ lw_all) (hD : 3 ≤ kD κ) (hH : kH κ = []) (hR : kR κ ≠ 10) (hc : (st.map fun q => catA q.1).sum ≤ 8) (hdg : decode (kC κ) pc = .ok (.invokestatic idx, 3)) (k : V Γ κ (pc + 3) lv st μ r) : V Γ κ pc lv ((0, n) :: (0, i) :: st) μ (CHK i n r) := by
  unfold CHK
  by_cases hi : 0 ≤ i ∧ i < n
  · rw [if_pos hi]
    have e : r = CL (some (0, 0, μ)) (fun _ ν => @ite _ (ν = μ) (Classical.propDecidable _) r none) := by
      show _ = @ite _ (μ = μ) (Classical.propDecidable _) r none
      rw [if_pos rfl]
    rw [e]
    refine V_callS (con_check hi μ) mth_J0_checkIndex_df160 wd_738 hl (st0 := st) rfl rfl (by omega) hc hdg (fun _ _ _ h => VX_out hH hR h) fun v ν => ?_
    show V Γ κ (pc + 3) lv st ν (@ite _ (ν = μ) (Classical.propDecidable _) r none)
    by_cases h : ν = μ
    · rw [if_pos h, h]; exact k
    · rw [if_neg h]; exact V_none
  · rw [if_neg hi]
    exact V_none
end VSTR2
theorem con_preN {j n : Int} (h : 0 ≤ j ∧ j < n) (μ : Mem) : Con 1 yJ3_checkIndex_8e157 (.code yJ3_checkIndex_8e157 cJ3_checkIndex_8e157 3 (some .int)) 0 [(0, j), (0, n), (2, 0)] μ (some (0, j, μ)) := by
  refine Con_intro KJpre (plainFor_of_name (by decide)) rfl (fun h => by cases h) (by decide) rfl (Nat.le_of_ble_eq_true rfl) (fun Γ => ?_)
  show V Γ KJpre 0 [(0, (0, j)), (1, (0, n)), (2, (2, 0))] [] μ _
  refine V_iload_n (pc := 0) dJ3_checkIndex_8e157_0 0 rfl ?_
  rw [show (some (0, j, μ) : Rz) = if j < 0 then none else some (0, j, μ) from (if_neg (by omega)).symm]
  refine V_if_lt (pc := 1) (tgt := 9) dJ3_checkIndex_8e157_1 rfl V_none ?_
  refine V_iload_n (pc := 4) dJ3_checkIndex_8e157_4 0 rfl ?_
  refine V_iload_n (pc := 5) dJ3_checkIndex_8e157_5 1 rfl ?_
  rw [show (some (0, j, μ) : Rz) = if j < n then some (0, j, μ) else none from (if_pos h.2).symm]
  refine V_icmp_lt (pc := 6) (tgt := 16) dJ3_checkIndex_8e157_6 rfl ?_ V_none
  refine V_iload_n (pc := 16) dJ3_checkIndex_8e157_16 0 rfl ?_
  exact V_ireturn (pc := 17) rfl rfl dJ3_checkIndex_8e157_17
abbrev KJchk15 : Kap := (RJ15, cJ15_checkIndex_7cf53, 2, 2, 0, some .int, false, [])
theorem con_chk15 {j n : Int} (h : 0 ≤ j ∧ j < n) (μ : Mem) : Con 2 yJ15_checkIndex_7cf53 (.code yJ15_checkIndex_7cf53 cJ15_checkIndex_7cf53 2 (some .int)) 0 [(0, j), (0, n)] μ (NU μ (some (0, j, μ))) := by
  rw [show (some (0, j, μ) : Rz) = CL (some (0, j, μ)) (fun v ν => RT v ν) from rfl]
  refine Con_intro KJchk15 (plainFor_of_name (by decide)) rfl (fun h => by cases h) (by decide) rfl (Nat.le_of_ble_eq_true rfl) (fun Γ => ?_)
  show V Γ KJchk15 0 [(0, (0, j)), (1, (0, n))] [] μ _
  refine V_iload_n (pc := 0) dJ15_checkIndex_7cf53_0 0 rfl ?_
  refine V_iload_n (pc := 1) dJ15_checkIndex_7cf53_1 1 rfl ?_
  refine V_NU fun h0 => ?_
  refine V_null (pc := 2) dJ15_checkIndex_7cf53_2 h0 ?_
  refine V_callS (pc := 3) (con_preN h μ) mth_J3_checkIndex_8e157 wd_609 wd_608 (st0 := []) rfl rfl (by decide) (Nat.le_of_ble_eq_true rfl) dJ15_checkIndex_7cf53_3 (fun _ _ _ h => VX_out rfl (by decide) h) fun v ν => ?_
  exact V_ireturn (pc := 6) rfl rfl dJ15_checkIndex_7cf53_6
section VSTR3
variable {Γ : Gam} {κ : Kap} {pc : Nat} {lv : List (Nat × AV)} {st : List AV} {μ : Mem} {r : Rz}
theorem V_chk15 {idx : Nat} {i n : Int} (hl : Cond.methodLink (kW κ) idx yJ15_checkIndex_7cf53 ∈ lw_all) (hD : 3 ≤ kD κ) (hH : kH κ = []) (hR : kR κ ≠ 10) (hc : (st.map fun q => catA q.1).sum ≤ 8) (hdg : decode (kC κ) pc = .ok (.invokestatic idx, 3)) (k : V Γ κ (pc + 3) lv ((0, i) :: st) μ r) : V Γ κ pc lv ((0, n) :: (0, i) :: st) μ (CHK i n (NU μ r)) := by
  unfold CHK
  by_cases hi : 0 ≤ i ∧ i < n
  · rw [if_pos hi]
    have e : NU μ r = CL (NU μ (some (0, i, μ))) (fun v ν => @ite _ (v = i ∧ ν = μ) (Classical.propDecidable _) r none) := by
      unfold NU
      by_cases h0 : 0 < μ 0 0
      · rw [if_pos h0, if_pos h0]
        show _ = @ite _ (i = i ∧ μ = μ) (Classical.propDecidable _) r none
        rw [if_pos ⟨rfl, rfl⟩]
      · rw [if_neg h0, if_neg h0]
        rfl
    rw [e]
    refine V_callS (con_chk15 hi μ) mth_J15_checkIndex_7cf53 wd_606 hl (st0 := st) rfl rfl (by omega) hc hdg (fun _ _ _ h => VX_out hH hR h) fun v ν => ?_
    show V Γ κ (pc + 3) lv ((0, v) :: st) ν (@ite _ (v = i ∧ ν = μ) (Classical.propDecidable _) r none)
    by_cases h : v = i ∧ ν = μ
    · rw [if_pos h, h.1, h.2]; exact k
    · rw [if_neg h]; exact V_none
  · rw [if_neg hi]
    exact V_none
/-! the law's end -/
def LW (Γ : Gam) : Prop := match Γ with
  | (p, l, e, R, s, m, args, below, meth, c, Q, G, ρ0, μ0) => ∀ (pc : Nat) (H : Heap) (locs : List Loc) (ce sl : Nat) (ls : Array Slot) (x : Int) (μ' : Mem), (∀ q ∈ locs, gB G ≤ q.base) → ce ≤ R.cells → sl ≤ R.slots → decode c.code pc = .ok (.ireturn, 1) → W p l e R s m args below meth c H locs ce sl (Q x 1 μ') (F0 m pc ls [.int 1])
theorem V_lawret {v : Int} (hS : LW Γ) (hR : kR κ = 10) (hdg : decode (kC κ) pc = .ok (.ireturn, 1)) : V Γ κ pc lv [(0, v)] μ (RTL v μ) := by
  unfold RTL
  by_cases hv : v = 1
  · rw [if_pos hv, hv]
    obtain ⟨p, l, e, R, s, m, args, below, meth, c, Q, G, ρ0, μ0⟩ := Γ
    intro x v μ' hr
    cases hr
    refine ⟨⟨Int.le_refl _, Int.le_refl _, Int.le_refl _, Int.le_refl _⟩, fun O a1 a2 a3 a4 a5 ρ H locs ls b1 b2 b3 b4 b5 b6 => ?_⟩
    obtain ⟨hx, hb, hml, hown, hts, hcx, hlk, htr, hfr, hlo, hrt, hin9, htab⟩ := O
    exact hS pc H locs _ _ ls 0 μ b5.2.2 a4 a5 (by rw [hb]; exact hdg)
  · rw [if_neg hv]
    exact V_none
end VSTR3
