/-! rows of the judgement V, one an instruction -/
def stv (i : Nat) (x : AV) (lv : List (Nat × AV)) : List (Nat × AV) := (i, x) :: lv.filter (fun q => !(q.1 == i) && !(q.1 + 1 == i && catA q.2.1 == 2))
def stw (i : Nat) (x : AV) (lv : List (Nat × AV)) : List (Nat × AV) := (i, x) :: lv.filter (fun q => !(q.1 == i) && (!(q.1 == i + 1) && !(q.1 + 1 == i && catA q.2.1 == 2)))
theorem stv_map (G : Gc) (ρ : Int → Nat) (i : Nat) (x : AV) (lv : List (Nat × AV)) : (i, cv G ρ x) :: (lv.map fun q => (q.1, cv G ρ q.2)).filter (fun q => !(q.1 == i) && !(q.1 + 1 == i && q.2.category == 2)) = (stv i x lv).map fun q => (q.1, cv G ρ q.2) := by
  unfold stv
  rw [List.map_cons, List.filter_map]
  congr 2
  refine List.filter_congr (fun q _ => ?_)
  simp only [Function.comp, cv_cat]
theorem stw_map (G : Gc) (ρ : Int → Nat) (i : Nat) (x : AV) (lv : List (Nat × AV)) : (i, cv G ρ x) :: (lv.map fun q => (q.1, cv G ρ q.2)).filter (fun q => !(q.1 == i) && (!(q.1 == i + 1) && !(q.1 + 1 == i && q.2.category == 2))) = (stw i x lv).map fun q => (q.1, cv G ρ q.2) := by
  unfold stw
  rw [List.map_cons, List.filter_map]
  congr 2
  refine List.filter_congr (fun q _ => ?_)
  simp only [Function.comp, cv_cat]
theorem stv_ok {i : Nat} {x : AV} {lv : List (Nat × AV)} {n : Int × Int} (hx : vok n x) (h : ∀ q ∈ lv, vok n q.2) : ∀ q ∈ stv i x lv, vok n q.2 := fun q hq => by
  rcases List.mem_cons.mp hq with e | e
  · rw [e]; exact hx
  · exact h q (List.mem_filter.mp e).1
theorem stw_ok {i : Nat} {x : AV} {lv : List (Nat × AV)} {n : Int × Int} (hx : vok n x) (h : ∀ q ∈ lv, vok n q.2) : ∀ q ∈ stw i x lv, vok n q.2 := fun q hq => by
  rcases List.mem_cons.mp hq with e | e
  · rw [e]; exact hx
  · exact h q (List.mem_filter.mp e).1
theorem lvm_at {G : Gc} {ρ : Int → Nat} {lv : List (Nat × AV)} {j i : Nat} {x : AV} (h : lv[j]? = some (i, x)) : (lv.map fun q => (q.1, cv G ρ q.2))[j]? = some (i, cv G ρ x) := by
  rw [List.getElem?_map, h]
  rfl
theorem lvm_ok {n : Int × Int} {lv : List (Nat × AV)} {j i : Nat} {x : AV} (h : lv[j]? = some (i, x)) (hl : ∀ q ∈ lv, vok n q.2) : vok n x := hl _ (List.mem_of_getElem? h)
theorem ok_cons {n : Int × Int} {x : AV} {st : List AV} (hx : vok n x) (h : ∀ q ∈ st, vok n q) : ∀ q ∈ x :: st, vok n q := fun q hq => by
  rcases List.mem_cons.mp hq with e | e
  · rw [e]; exact hx
  · exact h q e
theorem ok_tl {n : Int × Int} {x : AV} {st : List AV} (h : ∀ q ∈ x :: st, vok n q) : ∀ q ∈ st, vok n q := fun q hq => h q (List.mem_cons_of_mem _ hq)
theorem ok_hd {n : Int × Int} {x : AV} {st : List AV} (h : ∀ q ∈ x :: st, vok n q) : vok n x := h x List.mem_cons_self
section VROWS
variable {Γ : Gam} {κ : Kap} {pc : Nat} {lv : List (Nat × AV)} {st : List AV} {μ : Mem} {r r1 r2 : Rz}
/-- nothing but the stack and the locals moves -/
theorem V_pure {pc' : Nat} {lv' : List (Nat × AV)} {st' : List AV}
    (h : match Γ with
      | (p, l, e, R, s, m, args, below, meth, c, Q, G, ρ0, μ0) => Ok (p, l, e, R, s, m, args, below, meth, c, Q, G, ρ0, μ0) κ → ∀ (ρ : Int → Nat) (H : Heap) (locs : List Loc) (ls : Array Slot) (ce sl : Nat) (Q' : State → Prop), lv_has ls (kN κ) (lv.map fun q => (q.1, cv G ρ q.2)) → (∀ q ∈ lv, vok (bd μ) q.2) → (∀ q ∈ st, vok (bd μ) q) → va_S (fun q => gB G ≤ q) s.heap H locs →
        (∀ ls' : Array Slot, lv_has ls' (kN κ) (lv'.map fun q => (q.1, cv G ρ q.2)) → W p l e R s m args below meth c H locs ce sl Q' (F0 m pc' ls' (st'.map (cv G ρ)))) → W p l e R s m args below meth c H locs ce sl Q' (F0 m pc ls (st.map (cv G ρ))))
    (hl : (∀ q ∈ lv, vok (bd μ) q.2) → (∀ q ∈ st, vok (bd μ) q) → ∀ q ∈ lv', vok (bd μ) q.2) (hs : (∀ q ∈ lv, vok (bd μ) q.2) → (∀ q ∈ st, vok (bd μ) q) → ∀ q ∈ st', vok (bd μ) q)
    (k : V Γ κ pc' lv' st' μ r) : V Γ κ pc lv st μ r := by
  obtain ⟨p, l, e, R, s, m, args, below, meth, c, Q, G, ρ0, μ0⟩ := Γ
  intro x v μ' hr
  obtain ⟨k1, k2⟩ := k x v μ' hr
  refine ⟨k1, fun O a1 a2 a3 a4 a5 ρ H locs ls b1 b2 b3 b4 b5 b6 => ?_⟩
  exact h O ρ H locs ls _ _ _ b1 b2 b3 b5 (fun ls' b1' => k2 O a1 a2 a3 a4 a5 ρ H locs ls' b1' (hl b2 b3) (hs b2 b3) b4 b5 b6)
/-- a branch -/
theorem V_br {q : Prop} [Decidable q] {pc1 pc2 : Nat} {st' : List AV}
    (h : match Γ with
      | (p, l, e, R, s, m, args, below, meth, c, Q, G, ρ0, μ0) => Ok (p, l, e, R, s, m, args, below, meth, c, Q, G, ρ0, μ0) κ → ∀ (ρ : Int → Nat) (H : Heap) (locs : List Loc) (ls : Array Slot) (ce sl : Nat) (Q' : State → Prop), (∀ q ∈ st, vok (bd μ) q) →
        (q → W p l e R s m args below meth c H locs ce sl Q' (F0 m pc1 ls (st'.map (cv G ρ)))) → (¬ q → W p l e R s m args below meth c H locs ce sl Q' (F0 m pc2 ls (st'.map (cv G ρ)))) → W p l e R s m args below meth c H locs ce sl Q' (F0 m pc ls (st.map (cv G ρ))))
    (hs : (∀ q ∈ st, vok (bd μ) q) → ∀ q ∈ st', vok (bd μ) q)
    (k1 : V Γ κ pc1 lv st' μ r1) (k2 : V Γ κ pc2 lv st' μ r2) : V Γ κ pc lv st μ (if q then r1 else r2) := by
  obtain ⟨p, l, e, R, s, m, args, below, meth, c, Q, G, ρ0, μ0⟩ := Γ
  intro x v μ' hr
  by_cases hq : q
  · rw [if_pos hq] at hr
    obtain ⟨j1, j2⟩ := k1 x v μ' hr
    refine ⟨j1, fun O a1 a2 a3 a4 a5 ρ H locs ls b1 b2 b3 b4 b5 b6 => ?_⟩
    exact h O ρ H locs ls _ _ _ b3 (fun _ => j2 O a1 a2 a3 a4 a5 ρ H locs ls b1 b2 (hs b3) b4 b5 b6) (fun n => absurd hq n)
  · rw [if_neg hq] at hr
    obtain ⟨j1, j2⟩ := k2 x v μ' hr
    refine ⟨j1, fun O a1 a2 a3 a4 a5 ρ H locs ls b1 b2 b3 b4 b5 b6 => ?_⟩
    exact h O ρ H locs ls _ _ _ b3 (fun y => absurd y hq) (fun _ => j2 O a1 a2 a3 a4 a5 ρ H locs ls b1 b2 (hs b3) b4 b5 b6)
theorem V_none : V Γ κ pc lv st μ none := by
  obtain ⟨p, l, e, R, s, m, args, below, meth, c, Q, G, ρ0, μ0⟩ := Γ
  intro x v μ' hr
  cases hr
/-- fewer locals, by their places -/
def lpick (lv : List (Nat × AV)) (ks : List Nat) : List (Nat × AV) := ks.filterMap (fun k => lv[k]?)
theorem V_sub {lv' : List (Nat × AV)} (ks : List Nat) (h : lpick lv ks = lv') (k : V Γ κ pc lv' st μ r) : V Γ κ pc lv st μ r := by
  have hm : ∀ q ∈ lv', q ∈ lv := fun q hq => by
    rw [← h] at hq
    obtain ⟨i, -, hi⟩ := List.mem_filterMap.mp hq
    exact List.mem_of_getElem? hi
  refine V_pure (pc' := pc) (lv' := lv') (st' := st) ?_ (fun b _ q hq => b q (hm q hq)) (fun _ b => b) k
  obtain ⟨p, l, e, R, s, m, args, below, meth, c, Q, G, ρ0, μ0⟩ := Γ
  intro O ρ H locs ls ce sl Q' b1 b2 b3 b5 kk
  refine kk ls ⟨b1.1, b1.2.1, fun q hq => ?_⟩
  obtain ⟨q0, h0, rfl⟩ := List.mem_map.mp hq
  exact b1.2.2 _ (List.mem_map.mpr ⟨q0, hm q0 h0, rfl⟩)

theorem V_iload_n {i : Fin 4} (hdg : decode (kC κ) pc = .ok (.iload_n i, 1)) (j : Nat) {z : Int} (hj : lv[j]? = some ((i : Nat), (0, z))) (k : V Γ κ (pc + 1) lv ((0, z) :: st) μ r) : V Γ κ pc lv st μ r := by
  refine V_pure (pc' := pc + 1) (lv' := lv) (st' := ((0, z) :: st)) ?_ (fun b _ => b) (fun b b3 => ok_cons (lvm_ok hj b) b3) k
  obtain ⟨p, l, e, R, s, m, args, below, meth, c, Q, G, ρ0, μ0⟩ := Γ
  intro O
  obtain ⟨hx, hb, hml, hown, hts, hcx, hlk, htr, hfr, hlo, hrt, hin9, htab⟩ := O
  intro ρ H locs ls ce sl Q' b1 b2 b3 b5 kk
  exact lv_iload_n hx hb hdg rfl (lv_at b1 j (lvm_at hj)) (kk ls b1)
theorem V_iload {i : Nat} (hdg : decode (kC κ) pc = .ok (.iload i, 2)) (j : Nat) {z : Int} (hj : lv[j]? = some (i, (0, z))) (k : V Γ κ (pc + 2) lv ((0, z) :: st) μ r) : V Γ κ pc lv st μ r := by
  refine V_pure (pc' := pc + 2) (lv' := lv) (st' := ((0, z) :: st)) ?_ (fun b _ => b) (fun b b3 => ok_cons (lvm_ok hj b) b3) k
  obtain ⟨p, l, e, R, s, m, args, below, meth, c, Q, G, ρ0, μ0⟩ := Γ
  intro O
  obtain ⟨hx, hb, hml, hown, hts, hcx, hlk, htr, hfr, hlo, hrt, hin9, htab⟩ := O
  intro ρ H locs ls ce sl Q' b1 b2 b3 b5 kk
  exact lv_iload hx hb hdg (lv_at b1 j (lvm_at hj)) (kk ls b1)
theorem V_lload_n {i : Fin 4} (hdg : decode (kC κ) pc = .ok (.lload_n i, 1)) (j : Nat) {z : Int} (hj : lv[j]? = some ((i : Nat), (1, z))) (k : V Γ κ (pc + 1) lv ((1, z) :: st) μ r) : V Γ κ pc lv st μ r := by
  refine V_pure (pc' := pc + 1) (lv' := lv) (st' := ((1, z) :: st)) ?_ (fun b _ => b) (fun b b3 => ok_cons (lvm_ok hj b) b3) k
  obtain ⟨p, l, e, R, s, m, args, below, meth, c, Q, G, ρ0, μ0⟩ := Γ
  intro O
  obtain ⟨hx, hb, hml, hown, hts, hcx, hlk, htr, hfr, hlo, hrt, hin9, htab⟩ := O
  intro ρ H locs ls ce sl Q' b1 b2 b3 b5 kk
  exact lv_lload_n hx hb hdg rfl (lv_at b1 j (lvm_at hj)) (kk ls b1)
theorem V_lload {i : Nat} (hdg : decode (kC κ) pc = .ok (.lload i, 2)) (j : Nat) {z : Int} (hj : lv[j]? = some (i, (1, z))) (k : V Γ κ (pc + 2) lv ((1, z) :: st) μ r) : V Γ κ pc lv st μ r := by
  refine V_pure (pc' := pc + 2) (lv' := lv) (st' := ((1, z) :: st)) ?_ (fun b _ => b) (fun b b3 => ok_cons (lvm_ok hj b) b3) k
  obtain ⟨p, l, e, R, s, m, args, below, meth, c, Q, G, ρ0, μ0⟩ := Γ
  intro O
  obtain ⟨hx, hb, hml, hown, hts, hcx, hlk, htr, hfr, hlo, hrt, hin9, htab⟩ := O
  intro ρ H locs ls ce sl Q' b1 b2 b3 b5 kk
  exact lv_lload hx hb hdg (lv_at b1 j (lvm_at hj)) (kk ls b1)
theorem V_fload_n {i : Fin 4} (hdg : decode (kC κ) pc = .ok (.fload_n i, 1)) (j : Nat) {z : Int} (hj : lv[j]? = some ((i : Nat), (3, z))) (k : V Γ κ (pc + 1) lv ((3, z) :: st) μ r) : V Γ κ pc lv st μ r := by
  refine V_pure (pc' := pc + 1) (lv' := lv) (st' := ((3, z) :: st)) ?_ (fun b _ => b) (fun b b3 => ok_cons (lvm_ok hj b) b3) k
  obtain ⟨p, l, e, R, s, m, args, below, meth, c, Q, G, ρ0, μ0⟩ := Γ
  intro O
  obtain ⟨hx, hb, hml, hown, hts, hcx, hlk, htr, hfr, hlo, hrt, hin9, htab⟩ := O
  intro ρ H locs ls ce sl Q' b1 b2 b3 b5 kk
  exact lv_fload_n hx hb hdg rfl (lv_at b1 j (lvm_at hj)) (kk ls b1)
theorem V_fload {i : Nat} (hdg : decode (kC κ) pc = .ok (.fload i, 2)) (j : Nat) {z : Int} (hj : lv[j]? = some (i, (3, z))) (k : V Γ κ (pc + 2) lv ((3, z) :: st) μ r) : V Γ κ pc lv st μ r := by
  refine V_pure (pc' := pc + 2) (lv' := lv) (st' := ((3, z) :: st)) ?_ (fun b _ => b) (fun b b3 => ok_cons (lvm_ok hj b) b3) k
  obtain ⟨p, l, e, R, s, m, args, below, meth, c, Q, G, ρ0, μ0⟩ := Γ
  intro O
  obtain ⟨hx, hb, hml, hown, hts, hcx, hlk, htr, hfr, hlo, hrt, hin9, htab⟩ := O
  intro ρ H locs ls ce sl Q' b1 b2 b3 b5 kk
  exact lv_fload hx hb hdg (lv_at b1 j (lvm_at hj)) (kk ls b1)
theorem V_dload_n {i : Fin 4} (hdg : decode (kC κ) pc = .ok (.dload_n i, 1)) (j : Nat) {z : Int} (hj : lv[j]? = some ((i : Nat), (4, z))) (k : V Γ κ (pc + 1) lv ((4, z) :: st) μ r) : V Γ κ pc lv st μ r := by
  refine V_pure (pc' := pc + 1) (lv' := lv) (st' := ((4, z) :: st)) ?_ (fun b _ => b) (fun b b3 => ok_cons (lvm_ok hj b) b3) k
  obtain ⟨p, l, e, R, s, m, args, below, meth, c, Q, G, ρ0, μ0⟩ := Γ
  intro O
  obtain ⟨hx, hb, hml, hown, hts, hcx, hlk, htr, hfr, hlo, hrt, hin9, htab⟩ := O
  intro ρ H locs ls ce sl Q' b1 b2 b3 b5 kk
  exact lv_dload_n hx hb hdg rfl (lv_at b1 j (lvm_at hj)) (kk ls b1)
theorem V_dload {i : Nat} (hdg : decode (kC κ) pc = .ok (.dload i, 2)) (j : Nat) {z : Int} (hj : lv[j]? = some (i, (4, z))) (k : V Γ κ (pc + 2) lv ((4, z) :: st) μ r) : V Γ κ pc lv st μ r := by
  refine V_pure (pc' := pc + 2) (lv' := lv) (st' := ((4, z) :: st)) ?_ (fun b _ => b) (fun b b3 => ok_cons (lvm_ok hj b) b3) k
  obtain ⟨p, l, e, R, s, m, args, below, meth, c, Q, G, ρ0, μ0⟩ := Γ
  intro O
  obtain ⟨hx, hb, hml, hown, hts, hcx, hlk, htr, hfr, hlo, hrt, hin9, htab⟩ := O
  intro ρ H locs ls ce sl Q' b1 b2 b3 b5 kk
  exact lv_dload hx hb hdg (lv_at b1 j (lvm_at hj)) (kk ls b1)
def rtg (t : Nat) : Bool := t == 2 || (t == 5 || (t == 6 || t == 7))
theorem cv_ref {t : Nat} (h : rtg t = true) (G : Gc) (ρ : Int → Nat) (z : Int) : cv G ρ (t, z) = .null ∨ ∃ a : Nat, cv G ρ (t, z) = .ref a := by
  simp only [rtg, Bool.or_eq_true, beq_iff_eq] at h
  rcases h with rfl | rfl | rfl | rfl
  · show cvR ρ z = .null ∨ ∃ a : Nat, cvR ρ z = .ref a
    unfold cvR
    split
    · exact Or.inl rfl
    · exact Or.inr ⟨_, rfl⟩
  · exact Or.inr ⟨_, rfl⟩
  · show va_rf (gO G) = .null ∨ ∃ a : Nat, va_rf (gO G) = .ref a
    cases gO G with
    | none => exact Or.inl rfl
    | some a => exact Or.inr ⟨a, rfl⟩
  · exact Or.inr ⟨_, rfl⟩
theorem V_aload_n {i : Fin 4} (hdg : decode (kC κ) pc = .ok (.aload_n i, 1)) (j : Nat) {t : Nat} {z : Int} (ht : rtg t = true) (hj : lv[j]? = some ((i : Nat), (t, z))) (k : V Γ κ (pc + 1) lv ((t, z) :: st) μ r) : V Γ κ pc lv st μ r := by
  refine V_pure (pc' := pc + 1) (lv' := lv) (st' := ((t, z) :: st)) ?_ (fun b _ => b) (fun b b3 => ok_cons (lvm_ok hj b) b3) k
  obtain ⟨p, l, e, R, s, m, args, below, meth, c, Q, G, ρ0, μ0⟩ := Γ
  intro O
  obtain ⟨hx, hb, hml, hown, hts, hcx, hlk, htr, hfr, hlo, hrt, hin9, htab⟩ := O
  intro ρ H locs ls ce sl Q' b1 b2 b3 b5 kk
  have h1 := lv_at b1 j (lvm_at (G := G) (ρ := ρ) hj)
  have h2 := kk ls b1
  rw [List.map_cons] at h2
  rcases cv_ref ht G ρ z with h | ⟨a, h⟩
  · rw [h] at h1 h2
    exact lv_aload_nN hx hb hdg rfl h1 h2
  · rw [h] at h1 h2
    exact lv_aload_n hx hb hdg rfl h1 h2
theorem V_aload {i : Nat} (hdg : decode (kC κ) pc = .ok (.aload i, 2)) (j : Nat) {t : Nat} {z : Int} (ht : rtg t = true) (hj : lv[j]? = some (i, (t, z))) (k : V Γ κ (pc + 2) lv ((t, z) :: st) μ r) : V Γ κ pc lv st μ r := by
  refine V_pure (pc' := pc + 2) (lv' := lv) (st' := ((t, z) :: st)) ?_ (fun b _ => b) (fun b b3 => ok_cons (lvm_ok hj b) b3) k
  obtain ⟨p, l, e, R, s, m, args, below, meth, c, Q, G, ρ0, μ0⟩ := Γ
  intro O
  obtain ⟨hx, hb, hml, hown, hts, hcx, hlk, htr, hfr, hlo, hrt, hin9, htab⟩ := O
  intro ρ H locs ls ce sl Q' b1 b2 b3 b5 kk
  have h1 := lv_at b1 j (lvm_at (G := G) (ρ := ρ) hj)
  have h2 := kk ls b1
  rw [List.map_cons] at h2
  rcases cv_ref ht G ρ z with h | ⟨a, h⟩
  · rw [h] at h1 h2
    exact lv_aloadN hx hb hdg h1 h2
  · rw [h] at h1 h2
    exact lv_aload hx hb hdg h1 h2
theorem V_istore_n {i : Fin 4} (hdg : decode (kC κ) pc = .ok (.istore_n i, 1)) {z : Int} (hn : (i : Nat) < kN κ) {lv' : List (Nat × AV)} (hl : stv (i : Nat) (0, z) lv = lv') (k : V Γ κ (pc + 1) lv' st μ r) : V Γ κ pc lv ((0, z) :: st) μ r := by
  refine V_pure (pc' := pc + 1) (lv' := lv') (st' := st) ?_ (fun b b3 => by rw [← hl]; exact stv_ok (ok_hd b3) b) (fun _ b3 => ok_tl b3) k
  obtain ⟨p, l, e, R, s, m, args, below, meth, c, Q, G, ρ0, μ0⟩ := Γ
  intro O
  obtain ⟨hx, hb, hml, hown, hts, hcx, hlk, htr, hfr, hlo, hrt, hin9, htab⟩ := O
  intro ρ H locs ls ce sl Q' b1 b2 b3 b5 kk
  subst hl
  exact lv_istore_n hx hb hdg rfl b1 hn (stv_map G ρ _ (0, z) lv) (fun ls' b1' => kk ls' b1')
theorem V_istore {i : Nat} (hdg : decode (kC κ) pc = .ok (.istore i, 2)) {z : Int} (hn : i < kN κ) {lv' : List (Nat × AV)} (hl : stv i (0, z) lv = lv') (k : V Γ κ (pc + 2) lv' st μ r) : V Γ κ pc lv ((0, z) :: st) μ r := by
  refine V_pure (pc' := pc + 2) (lv' := lv') (st' := st) ?_ (fun b b3 => by rw [← hl]; exact stv_ok (ok_hd b3) b) (fun _ b3 => ok_tl b3) k
  obtain ⟨p, l, e, R, s, m, args, below, meth, c, Q, G, ρ0, μ0⟩ := Γ
  intro O
  obtain ⟨hx, hb, hml, hown, hts, hcx, hlk, htr, hfr, hlo, hrt, hin9, htab⟩ := O
  intro ρ H locs ls ce sl Q' b1 b2 b3 b5 kk
  subst hl
  exact lv_istore hx hb hdg b1 hn (stv_map G ρ _ (0, z) lv) (fun ls' b1' => kk ls' b1')
theorem V_fstore_n {i : Fin 4} (hdg : decode (kC κ) pc = .ok (.fstore_n i, 1)) {z : Int} (hn : (i : Nat) < kN κ) {lv' : List (Nat × AV)} (hl : stv (i : Nat) (3, z) lv = lv') (k : V Γ κ (pc + 1) lv' st μ r) : V Γ κ pc lv ((3, z) :: st) μ r := by
  refine V_pure (pc' := pc + 1) (lv' := lv') (st' := st) ?_ (fun b b3 => by rw [← hl]; exact stv_ok (ok_hd b3) b) (fun _ b3 => ok_tl b3) k
  obtain ⟨p, l, e, R, s, m, args, below, meth, c, Q, G, ρ0, μ0⟩ := Γ
  intro O
  obtain ⟨hx, hb, hml, hown, hts, hcx, hlk, htr, hfr, hlo, hrt, hin9, htab⟩ := O
  intro ρ H locs ls ce sl Q' b1 b2 b3 b5 kk
  subst hl
  exact lv_fstore_n hx hb hdg rfl b1 hn (stv_map G ρ _ (3, z) lv) (fun ls' b1' => kk ls' b1')
theorem V_fstore {i : Nat} (hdg : decode (kC κ) pc = .ok (.fstore i, 2)) {z : Int} (hn : i < kN κ) {lv' : List (Nat × AV)} (hl : stv i (3, z) lv = lv') (k : V Γ κ (pc + 2) lv' st μ r) : V Γ κ pc lv ((3, z) :: st) μ r := by
  refine V_pure (pc' := pc + 2) (lv' := lv') (st' := st) ?_ (fun b b3 => by rw [← hl]; exact stv_ok (ok_hd b3) b) (fun _ b3 => ok_tl b3) k
  obtain ⟨p, l, e, R, s, m, args, below, meth, c, Q, G, ρ0, μ0⟩ := Γ
  intro O
  obtain ⟨hx, hb, hml, hown, hts, hcx, hlk, htr, hfr, hlo, hrt, hin9, htab⟩ := O
  intro ρ H locs ls ce sl Q' b1 b2 b3 b5 kk
  subst hl
  exact lv_fstore hx hb hdg b1 hn (stv_map G ρ _ (3, z) lv) (fun ls' b1' => kk ls' b1')
theorem V_lstore_n {i : Fin 4} (hdg : decode (kC κ) pc = .ok (.lstore_n i, 1)) {z : Int} (hn : (i : Nat) + 1 < kN κ) {lv' : List (Nat × AV)} (hl : stw (i : Nat) (1, z) lv = lv') (k : V Γ κ (pc + 1) lv' st μ r) : V Γ κ pc lv ((1, z) :: st) μ r := by
  refine V_pure (pc' := pc + 1) (lv' := lv') (st' := st) ?_ (fun b b3 => by rw [← hl]; exact stw_ok (ok_hd b3) b) (fun _ b3 => ok_tl b3) k
  obtain ⟨p, l, e, R, s, m, args, below, meth, c, Q, G, ρ0, μ0⟩ := Γ
  intro O
  obtain ⟨hx, hb, hml, hown, hts, hcx, hlk, htr, hfr, hlo, hrt, hin9, htab⟩ := O
  intro ρ H locs ls ce sl Q' b1 b2 b3 b5 kk
  subst hl
  exact lv_lstore_n hx hb hdg rfl b1 hn (stw_map G ρ _ (1, z) lv) (fun ls' b1' => kk ls' b1')
theorem V_lstore {i : Nat} (hdg : decode (kC κ) pc = .ok (.lstore i, 2)) {z : Int} (hn : i + 1 < kN κ) {lv' : List (Nat × AV)} (hl : stw i (1, z) lv = lv') (k : V Γ κ (pc + 2) lv' st μ r) : V Γ κ pc lv ((1, z) :: st) μ r := by
  refine V_pure (pc' := pc + 2) (lv' := lv') (st' := st) ?_ (fun b b3 => by rw [← hl]; exact stw_ok (ok_hd b3) b) (fun _ b3 => ok_tl b3) k
  obtain ⟨p, l, e, R, s, m, args, below, meth, c, Q, G, ρ0, μ0⟩ := Γ
  intro O
  obtain ⟨hx, hb, hml, hown, hts, hcx, hlk, htr, hfr, hlo, hrt, hin9, htab⟩ := O
  intro ρ H locs ls ce sl Q' b1 b2 b3 b5 kk
  subst hl
  exact lv_lstore hx hb hdg b1 hn (stw_map G ρ _ (1, z) lv) (fun ls' b1' => kk ls' b1')
theorem V_dstore_n {i : Fin 4} (hdg : decode (kC κ) pc = .ok (.dstore_n i, 1)) {z : Int} (hn : (i : Nat) + 1 < kN κ) {lv' : List (Nat × AV)} (hl : stw (i : Nat) (4, z) lv = lv') (k : V Γ κ (pc + 1) lv' st μ r) : V Γ κ pc lv ((4, z) :: st) μ r := by
  refine V_pure (pc' := pc + 1) (lv' := lv') (st' := st) ?_ (fun b b3 => by rw [← hl]; exact stw_ok (ok_hd b3) b) (fun _ b3 => ok_tl b3) k
  obtain ⟨p, l, e, R, s, m, args, below, meth, c, Q, G, ρ0, μ0⟩ := Γ
  intro O
  obtain ⟨hx, hb, hml, hown, hts, hcx, hlk, htr, hfr, hlo, hrt, hin9, htab⟩ := O
  intro ρ H locs ls ce sl Q' b1 b2 b3 b5 kk
  subst hl
  exact lv_dstore_n hx hb hdg rfl b1 hn (stw_map G ρ _ (4, z) lv) (fun ls' b1' => kk ls' b1')
theorem V_dstore {i : Nat} (hdg : decode (kC κ) pc = .ok (.dstore i, 2)) {z : Int} (hn : i + 1 < kN κ) {lv' : List (Nat × AV)} (hl : stw i (4, z) lv = lv') (k : V Γ κ (pc + 2) lv' st μ r) : V Γ κ pc lv ((4, z) :: st) μ r := by
  refine V_pure (pc' := pc + 2) (lv' := lv') (st' := st) ?_ (fun b b3 => by rw [← hl]; exact stw_ok (ok_hd b3) b) (fun _ b3 => ok_tl b3) k
  obtain ⟨p, l, e, R, s, m, args, below, meth, c, Q, G, ρ0, μ0⟩ := Γ
  intro O
  obtain ⟨hx, hb, hml, hown, hts, hcx, hlk, htr, hfr, hlo, hrt, hin9, htab⟩ := O
  intro ρ H locs ls ce sl Q' b1 b2 b3 b5 kk
  subst hl
  exact lv_dstore hx hb hdg b1 hn (stw_map G ρ _ (4, z) lv) (fun ls' b1' => kk ls' b1')
theorem V_astore_n {i : Fin 4} (hdg : decode (kC κ) pc = .ok (.astore_n i, 1)) {t : Nat} {z : Int} (ht : rtg t = true) (hn : (i : Nat) < kN κ) {lv' : List (Nat × AV)} (hl : stv (i : Nat) (t, z) lv = lv') (k : V Γ κ (pc + 1) lv' st μ r) : V Γ κ pc lv ((t, z) :: st) μ r := by
  refine V_pure (pc' := pc + 1) (lv' := lv') (st' := st) ?_ (fun b b3 => by rw [← hl]; exact stv_ok (ok_hd b3) b) (fun _ b3 => ok_tl b3) k
  obtain ⟨p, l, e, R, s, m, args, below, meth, c, Q, G, ρ0, μ0⟩ := Γ
  intro O
  obtain ⟨hx, hb, hml, hown, hts, hcx, hlk, htr, hfr, hlo, hrt, hin9, htab⟩ := O
  intro ρ H locs ls ce sl Q' b1 b2 b3 b5 kk
  subst hl
  have h1 := stv_map G ρ (i : Nat) (t, z) lv
  rw [List.map_cons]
  rcases cv_ref ht G ρ z with h | ⟨a, h⟩
  · rw [h] at h1 ⊢
    exact lv_astore_nN hx hb hdg rfl b1 hn h1 (fun ls' b1' => kk ls' b1')
  · rw [h] at h1 ⊢
    exact lv_astore_n hx hb hdg rfl b1 hn h1 (fun ls' b1' => kk ls' b1')
theorem V_astore {i : Nat} (hdg : decode (kC κ) pc = .ok (.astore i, 2)) {t : Nat} {z : Int} (ht : rtg t = true) (hn : i < kN κ) {lv' : List (Nat × AV)} (hl : stv i (t, z) lv = lv') (k : V Γ κ (pc + 2) lv' st μ r) : V Γ κ pc lv ((t, z) :: st) μ r := by
  refine V_pure (pc' := pc + 2) (lv' := lv') (st' := st) ?_ (fun b b3 => by rw [← hl]; exact stv_ok (ok_hd b3) b) (fun _ b3 => ok_tl b3) k
  obtain ⟨p, l, e, R, s, m, args, below, meth, c, Q, G, ρ0, μ0⟩ := Γ
  intro O
  obtain ⟨hx, hb, hml, hown, hts, hcx, hlk, htr, hfr, hlo, hrt, hin9, htab⟩ := O
  intro ρ H locs ls ce sl Q' b1 b2 b3 b5 kk
  subst hl
  have h1 := stv_map G ρ i (t, z) lv
  rw [List.map_cons]
  rcases cv_ref ht G ρ z with h | ⟨a, h⟩
  · rw [h] at h1 ⊢
    exact lv_astoreN hx hb hdg b1 hn h1 (fun ls' b1' => kk ls' b1')
  · rw [h] at h1 ⊢
    exact lv_astore hx hb hdg b1 hn h1 (fun ls' b1' => kk ls' b1')
theorem V_iinc {i : Nat} {n : Int} (hdg : decode (kC κ) pc = .ok (.iinc i n, 3)) (j : Nat) {z : Int} (hj : lv[j]? = some (i, (0, z))) (hn : i < kN κ) {lv' : List (Nat × AV)} (hl : stv i (0, w32 (z + n)) lv = lv') (k : V Γ κ (pc + 3) lv' st μ r) : V Γ κ pc lv st μ r := by
  refine V_pure (pc' := pc + 3) (lv' := lv') (st' := st) ?_ (fun b _ => by rw [← hl]; exact stv_ok (w32_i _) b) (fun _ b3 => b3) k
  obtain ⟨p, l, e, R, s, m, args, below, meth, c, Q, G, ρ0, μ0⟩ := Γ
  intro O
  obtain ⟨hx, hb, hml, hown, hts, hcx, hlk, htr, hfr, hlo, hrt, hin9, htab⟩ := O
  intro ρ H locs ls ce sl Q' b1 b2 b3 b5 kk
  subst hl
  exact lv_iinc (v := Int32.ofInt (w32 (z + n))) hx hb hdg b1 (lvm_at hj) (oi_add z n) hn (stv_map G ρ i (0, w32 (z + n)) lv) (fun ls' b1' => kk ls' b1')
theorem V_iconst {n : Int} (hdg : decode (kC κ) pc = .ok (.iconst n, 1)) (hn : i32 n) (k : V Γ κ (pc + 1) lv ((0, n) :: st) μ r) : V Γ κ pc lv st μ r := by
  refine V_pure (pc' := pc + 1) (lv' := lv) (st' := ((0, n) :: st)) ?_ (fun b _ => b) (fun _ b3 => ok_cons hn b3) k
  obtain ⟨p, l, e, R, s, m, args, below, meth, c, Q, G, ρ0, μ0⟩ := Γ
  intro O
  obtain ⟨hx, hb, hml, hown, hts, hcx, hlk, htr, hfr, hlo, hrt, hin9, htab⟩ := O
  intro ρ H locs ls ce sl Q' b1 b2 b3 b5 kk
  exact lv_iconst hx hb hdg rfl (kk ls b1)
theorem V_bipush {n : Int} (hdg : decode (kC κ) pc = .ok (.bipush n, 2)) (hn : i32 n) (hv : (Int8.ofInt n).toInt32 = Int32.ofInt n) (k : V Γ κ (pc + 2) lv ((0, n) :: st) μ r) : V Γ κ pc lv st μ r := by
  refine V_pure (pc' := pc + 2) (lv' := lv) (st' := ((0, n) :: st)) ?_ (fun b _ => b) (fun _ b3 => ok_cons hn b3) k
  obtain ⟨p, l, e, R, s, m, args, below, meth, c, Q, G, ρ0, μ0⟩ := Γ
  intro O
  obtain ⟨hx, hb, hml, hown, hts, hcx, hlk, htr, hfr, hlo, hrt, hin9, htab⟩ := O
  intro ρ H locs ls ce sl Q' b1 b2 b3 b5 kk
  exact lv_bipush hx hb hdg hv (kk ls b1)
theorem V_sipush {n : Int} (hdg : decode (kC κ) pc = .ok (.sipush n, 3)) (hn : i32 n) (hv : (Int16.ofInt n).toInt32 = Int32.ofInt n) (k : V Γ κ (pc + 3) lv ((0, n) :: st) μ r) : V Γ κ pc lv st μ r := by
  refine V_pure (pc' := pc + 3) (lv' := lv) (st' := ((0, n) :: st)) ?_ (fun b _ => b) (fun _ b3 => ok_cons hn b3) k
  obtain ⟨p, l, e, R, s, m, args, below, meth, c, Q, G, ρ0, μ0⟩ := Γ
  intro O
  obtain ⟨hx, hb, hml, hown, hts, hcx, hlk, htr, hfr, hlo, hrt, hin9, htab⟩ := O
  intro ρ H locs ls ce sl Q' b1 b2 b3 b5 kk
  exact lv_sipush hx hb hdg hv (kk ls b1)
theorem V_lconst {n : Fin 2} {z : Int} (hdg : decode (kC κ) pc = .ok (.lconst n, 1)) (hn : i64 z) (hv : Int64.ofNat (n : Nat) = Int64.ofInt z) (k : V Γ κ (pc + 1) lv ((1, z) :: st) μ r) : V Γ κ pc lv st μ r := by
  refine V_pure (pc' := pc + 1) (lv' := lv) (st' := ((1, z) :: st)) ?_ (fun b _ => b) (fun _ b3 => ok_cons hn b3) k
  obtain ⟨p, l, e, R, s, m, args, below, meth, c, Q, G, ρ0, μ0⟩ := Γ
  intro O
  obtain ⟨hx, hb, hml, hown, hts, hcx, hlk, htr, hfr, hlo, hrt, hin9, htab⟩ := O
  intro ρ H locs ls ce sl Q' b1 b2 b3 b5 kk
  exact lv_lconst hx hb hdg hv (kk ls b1)
theorem V_dconst0 (hdg : decode (kC κ) pc = .ok (.dconst 0, 1)) (k : V Γ κ (pc + 1) lv ((4, 0) :: st) μ r) : V Γ κ pc lv st μ r := by
  refine V_pure (pc' := pc + 1) (lv' := lv) (st' := ((4, 0) :: st)) ?_ (fun b _ => b) (fun _ b3 => ok_cons ⟨by decide, by decide⟩ b3) k
  obtain ⟨p, l, e, R, s, m, args, below, meth, c, Q, G, ρ0, μ0⟩ := Γ
  intro O
  obtain ⟨hx, hb, hml, hown, hts, hcx, hlk, htr, hfr, hlo, hrt, hin9, htab⟩ := O
  intro ρ H locs ls ce sl Q' b1 b2 b3 b5 kk
  exact lv_dconst0 hx hb hdg (kk ls b1)
theorem V_fconst0 (hdg : decode (kC κ) pc = .ok (.fconst 0, 1)) (k : V Γ κ (pc + 1) lv ((3, 0) :: st) μ r) : V Γ κ pc lv st μ r := by
  refine V_pure (pc' := pc + 1) (lv' := lv) (st' := ((3, 0) :: st)) ?_ (fun b _ => b) (fun _ b3 => ok_cons ⟨by decide, by decide⟩ b3) k
  obtain ⟨p, l, e, R, s, m, args, below, meth, c, Q, G, ρ0, μ0⟩ := Γ
  intro O
  obtain ⟨hx, hb, hml, hown, hts, hcx, hlk, htr, hfr, hlo, hrt, hin9, htab⟩ := O
  intro ρ H locs ls ce sl Q' b1 b2 b3 b5 kk
  exact lv_fconst0 hx hb hdg (kk ls b1)
theorem V_ldc {i : Nat} {w : Int32} {z : Int} (hdg : decode (kC κ) pc = .ok (.ldc i, 2)) (hw : Cond.constant (kW κ) i w ∈ lw_all) (hn : i32 z) (hv : Int32.ofInt z = w) (k : V Γ κ (pc + 2) lv ((0, z) :: st) μ r) : V Γ κ pc lv st μ r := by
  refine V_pure (pc' := pc + 2) (lv' := lv) (st' := ((0, z) :: st)) ?_ (fun b _ => b) (fun _ b3 => ok_cons hn b3) k
  obtain ⟨p, l, e, R, s, m, args, below, meth, c, Q, G, ρ0, μ0⟩ := Γ
  intro O
  obtain ⟨hx, hb, hml, hown, hts, hcx, hlk, htr, hfr, hlo, hrt, hin9, htab⟩ := O
  intro ρ H locs ls ce sl Q' b1 b2 b3 b5 kk
  subst hv
  exact lv_ldc hx hb hown (hts _ hw) hdg (kk ls b1)
theorem V_ldcw {i : Nat} {w : Int32} {z : Int} (hdg : decode (kC κ) pc = .ok (.ldc_w i, 3)) (hw : Cond.constant (kW κ) i w ∈ lw_all) (hn : i32 z) (hv : Int32.ofInt z = w) (k : V Γ κ (pc + 3) lv ((0, z) :: st) μ r) : V Γ κ pc lv st μ r := by
  refine V_pure (pc' := pc + 3) (lv' := lv) (st' := ((0, z) :: st)) ?_ (fun b _ => b) (fun _ b3 => ok_cons hn b3) k
  obtain ⟨p, l, e, R, s, m, args, below, meth, c, Q, G, ρ0, μ0⟩ := Γ
  intro O
  obtain ⟨hx, hb, hml, hown, hts, hcx, hlk, htr, hfr, hlo, hrt, hin9, htab⟩ := O
  intro ρ H locs ls ce sl Q' b1 b2 b3 b5 kk
  subst hv
  exact lv_ldcw hx hb hown (hts _ hw) hdg (kk ls b1)
theorem V_ldc2 {i : Nat} {w : Int64} {z : Int} (hdg : decode (kC κ) pc = .ok (.ldc2_w i, 3)) (hw : Cond.constantLong (kW κ) i w ∈ lw_all) (hn : i64 z) (hv : Int64.ofInt z = w) (k : V Γ κ (pc + 3) lv ((1, z) :: st) μ r) : V Γ κ pc lv st μ r := by
  refine V_pure (pc' := pc + 3) (lv' := lv) (st' := ((1, z) :: st)) ?_ (fun b _ => b) (fun _ b3 => ok_cons hn b3) k
  obtain ⟨p, l, e, R, s, m, args, below, meth, c, Q, G, ρ0, μ0⟩ := Γ
  intro O
  obtain ⟨hx, hb, hml, hown, hts, hcx, hlk, htr, hfr, hlo, hrt, hin9, htab⟩ := O
  intro ρ H locs ls ce sl Q' b1 b2 b3 b5 kk
  subst hv
  exact lv_ldc2 hx hb hown (hts _ hw) hdg (kk ls b1)
theorem V_ldc2d {i : Nat} {w : UInt64} {z : Int} (hdg : decode (kC κ) pc = .ok (.ldc2_w i, 3)) (hw : Cond.constantDouble (kW κ) i w ∈ lw_all) (hn : 0 ≤ z ∧ z < 18446744073709551616) (hv : dBits z = w) (k : V Γ κ (pc + 3) lv ((4, z) :: st) μ r) : V Γ κ pc lv st μ r := by
  refine V_pure (pc' := pc + 3) (lv' := lv) (st' := ((4, z) :: st)) ?_ (fun b _ => b) (fun _ b3 => ok_cons hn b3) k
  obtain ⟨p, l, e, R, s, m, args, below, meth, c, Q, G, ρ0, μ0⟩ := Γ
  intro O
  obtain ⟨hx, hb, hml, hown, hts, hcx, hlk, htr, hfr, hlo, hrt, hin9, htab⟩ := O
  intro ρ H locs ls ce sl Q' b1 b2 b3 b5 kk
  subst hv
  exact lv_ldc2d hx hb hown (hts _ hw) hdg (kk ls b1)
theorem V_iadd {a b : Int} (hdg : decode (kC κ) pc = .ok (.iadd, 1)) (k : V Γ κ (pc + 1) lv ((0, w32 (a + b)) :: st) μ r) : V Γ κ pc lv ((0, b) :: (0, a) :: st) μ r := by
  refine V_pure (pc' := pc + 1) (lv' := lv) (st' := ((0, w32 (a + b)) :: st)) ?_ (fun b _ => b) (fun _ b3 => ok_cons (w32_i _) (ok_tl (ok_tl b3))) k
  obtain ⟨p, l, e, R, s, m, args, below, meth, c, Q, G, ρ0, μ0⟩ := Γ
  intro O
  obtain ⟨hx, hb, hml, hown, hts, hcx, hlk, htr, hfr, hlo, hrt, hin9, htab⟩ := O
  intro ρ H locs ls ce sl Q' b1 b2 b3 b5 kk
  have h2 := kk ls b1
  rw [List.map_cons, show cv G ρ (0, w32 (a + b)) = .int (Int32.ofInt (w32 (a + b))) from rfl, ← oi_add] at h2
  exact lv_iadd hx hb hdg h2
theorem V_isub {a b : Int} (hdg : decode (kC κ) pc = .ok (.isub, 1)) (k : V Γ κ (pc + 1) lv ((0, w32 (a - b)) :: st) μ r) : V Γ κ pc lv ((0, b) :: (0, a) :: st) μ r := by
  refine V_pure (pc' := pc + 1) (lv' := lv) (st' := ((0, w32 (a - b)) :: st)) ?_ (fun b _ => b) (fun _ b3 => ok_cons (w32_i _) (ok_tl (ok_tl b3))) k
  obtain ⟨p, l, e, R, s, m, args, below, meth, c, Q, G, ρ0, μ0⟩ := Γ
  intro O
  obtain ⟨hx, hb, hml, hown, hts, hcx, hlk, htr, hfr, hlo, hrt, hin9, htab⟩ := O
  intro ρ H locs ls ce sl Q' b1 b2 b3 b5 kk
  have h2 := kk ls b1
  rw [List.map_cons, show cv G ρ (0, w32 (a - b)) = .int (Int32.ofInt (w32 (a - b))) from rfl, ← oi_sub] at h2
  exact lv_isub hx hb hdg h2
theorem V_imul {a b : Int} (hdg : decode (kC κ) pc = .ok (.imul, 1)) (k : V Γ κ (pc + 1) lv ((0, w32 (a * b)) :: st) μ r) : V Γ κ pc lv ((0, b) :: (0, a) :: st) μ r := by
  refine V_pure (pc' := pc + 1) (lv' := lv) (st' := ((0, w32 (a * b)) :: st)) ?_ (fun b _ => b) (fun _ b3 => ok_cons (w32_i _) (ok_tl (ok_tl b3))) k
  obtain ⟨p, l, e, R, s, m, args, below, meth, c, Q, G, ρ0, μ0⟩ := Γ
  intro O
  obtain ⟨hx, hb, hml, hown, hts, hcx, hlk, htr, hfr, hlo, hrt, hin9, htab⟩ := O
  intro ρ H locs ls ce sl Q' b1 b2 b3 b5 kk
  have h2 := kk ls b1
  rw [List.map_cons, show cv G ρ (0, w32 (a * b)) = .int (Int32.ofInt (w32 (a * b))) from rfl, ← oi_mul] at h2
  exact lv_imul hx hb hdg h2
theorem V_ineg {a : Int} (hdg : decode (kC κ) pc = .ok (.ineg, 1)) (k : V Γ κ (pc + 1) lv ((0, w32 (-a)) :: st) μ r) : V Γ κ pc lv ((0, a) :: st) μ r := by
  refine V_pure (pc' := pc + 1) (lv' := lv) (st' := ((0, w32 (-a)) :: st)) ?_ (fun b _ => b) (fun _ b3 => ok_cons (w32_i _) (ok_tl b3)) k
  obtain ⟨p, l, e, R, s, m, args, below, meth, c, Q, G, ρ0, μ0⟩ := Γ
  intro O
  obtain ⟨hx, hb, hml, hown, hts, hcx, hlk, htr, hfr, hlo, hrt, hin9, htab⟩ := O
  intro ρ H locs ls ce sl Q' b1 b2 b3 b5 kk
  have h2 := kk ls b1
  rw [List.map_cons, show cv G ρ (0, w32 (-a)) = .int (Int32.ofInt (w32 (-a))) from rfl, ← oi_neg] at h2
  exact lv_ineg hx hb hdg h2
theorem V_iand {a b : Int} (hdg : decode (kC κ) pc = .ok (.iand, 1)) (k : V Γ κ (pc + 1) lv ((0, bAnd a b) :: st) μ r) : V Γ κ pc lv ((0, b) :: (0, a) :: st) μ r := by
  refine V_pure (pc' := pc + 1) (lv' := lv) (st' := ((0, bAnd a b) :: st)) ?_ (fun b _ => b) (fun _ b3 => ok_cons (i32_to _) (ok_tl (ok_tl b3))) k
  obtain ⟨p, l, e, R, s, m, args, below, meth, c, Q, G, ρ0, μ0⟩ := Γ
  intro O
  obtain ⟨hx, hb, hml, hown, hts, hcx, hlk, htr, hfr, hlo, hrt, hin9, htab⟩ := O
  intro ρ H locs ls ce sl Q' b1 b2 b3 b5 kk
  have h2 := kk ls b1
  rw [List.map_cons, show cv G ρ (0, bAnd a b) = .int (Int32.ofInt (bAnd a b)) from rfl, bAnd, oi_of] at h2
  exact lv_iand hx hb hdg h2
theorem V_ior {a b : Int} (hdg : decode (kC κ) pc = .ok (.ior, 1)) (k : V Γ κ (pc + 1) lv ((0, bOr a b) :: st) μ r) : V Γ κ pc lv ((0, b) :: (0, a) :: st) μ r := by
  refine V_pure (pc' := pc + 1) (lv' := lv) (st' := ((0, bOr a b) :: st)) ?_ (fun b _ => b) (fun _ b3 => ok_cons (i32_to _) (ok_tl (ok_tl b3))) k
  obtain ⟨p, l, e, R, s, m, args, below, meth, c, Q, G, ρ0, μ0⟩ := Γ
  intro O
  obtain ⟨hx, hb, hml, hown, hts, hcx, hlk, htr, hfr, hlo, hrt, hin9, htab⟩ := O
  intro ρ H locs ls ce sl Q' b1 b2 b3 b5 kk
  have h2 := kk ls b1
  rw [List.map_cons, show cv G ρ (0, bOr a b) = .int (Int32.ofInt (bOr a b)) from rfl, bOr, oi_of] at h2
  exact lv_ior hx hb hdg h2
theorem V_ixor {a b : Int} (hdg : decode (kC κ) pc = .ok (.ixor, 1)) (k : V Γ κ (pc + 1) lv ((0, bXor a b) :: st) μ r) : V Γ κ pc lv ((0, b) :: (0, a) :: st) μ r := by
  refine V_pure (pc' := pc + 1) (lv' := lv) (st' := ((0, bXor a b) :: st)) ?_ (fun b _ => b) (fun _ b3 => ok_cons (i32_to _) (ok_tl (ok_tl b3))) k
  obtain ⟨p, l, e, R, s, m, args, below, meth, c, Q, G, ρ0, μ0⟩ := Γ
  intro O
  obtain ⟨hx, hb, hml, hown, hts, hcx, hlk, htr, hfr, hlo, hrt, hin9, htab⟩ := O
  intro ρ H locs ls ce sl Q' b1 b2 b3 b5 kk
  have h2 := kk ls b1
  rw [List.map_cons, show cv G ρ (0, bXor a b) = .int (Int32.ofInt (bXor a b)) from rfl, bXor, oi_of] at h2
  exact lv_ixor hx hb hdg h2
theorem V_ishl {a b : Int} (hdg : decode (kC κ) pc = .ok (.ishl, 1)) (k : V Γ κ (pc + 1) lv ((0, bShl a b) :: st) μ r) : V Γ κ pc lv ((0, b) :: (0, a) :: st) μ r := by
  refine V_pure (pc' := pc + 1) (lv' := lv) (st' := ((0, bShl a b) :: st)) ?_ (fun b _ => b) (fun _ b3 => ok_cons (i32_to _) (ok_tl (ok_tl b3))) k
  obtain ⟨p, l, e, R, s, m, args, below, meth, c, Q, G, ρ0, μ0⟩ := Γ
  intro O
  obtain ⟨hx, hb, hml, hown, hts, hcx, hlk, htr, hfr, hlo, hrt, hin9, htab⟩ := O
  intro ρ H locs ls ce sl Q' b1 b2 b3 b5 kk
  have h2 := kk ls b1
  rw [List.map_cons, show cv G ρ (0, bShl a b) = .int (Int32.ofInt (bShl a b)) from rfl, bShl, oi_of] at h2
  exact lv_ishl hx hb hdg h2
theorem V_ishr {a b : Int} (hdg : decode (kC κ) pc = .ok (.ishr, 1)) (k : V Γ κ (pc + 1) lv ((0, bShr a b) :: st) μ r) : V Γ κ pc lv ((0, b) :: (0, a) :: st) μ r := by
  refine V_pure (pc' := pc + 1) (lv' := lv) (st' := ((0, bShr a b) :: st)) ?_ (fun b _ => b) (fun _ b3 => ok_cons (i32_to _) (ok_tl (ok_tl b3))) k
  obtain ⟨p, l, e, R, s, m, args, below, meth, c, Q, G, ρ0, μ0⟩ := Γ
  intro O
  obtain ⟨hx, hb, hml, hown, hts, hcx, hlk, htr, hfr, hlo, hrt, hin9, htab⟩ := O
  intro ρ H locs ls ce sl Q' b1 b2 b3 b5 kk
  have h2 := kk ls b1
  rw [List.map_cons, show cv G ρ (0, bShr a b) = .int (Int32.ofInt (bShr a b)) from rfl, bShr, oi_of] at h2
  exact lv_ishr hx hb hdg h2
theorem V_iushr {a b : Int} (hdg : decode (kC κ) pc = .ok (.iushr, 1)) (k : V Γ κ (pc + 1) lv ((0, bUsh a b) :: st) μ r) : V Γ κ pc lv ((0, b) :: (0, a) :: st) μ r := by
  refine V_pure (pc' := pc + 1) (lv' := lv) (st' := ((0, bUsh a b) :: st)) ?_ (fun b _ => b) (fun _ b3 => ok_cons (i32_to _) (ok_tl (ok_tl b3))) k
  obtain ⟨p, l, e, R, s, m, args, below, meth, c, Q, G, ρ0, μ0⟩ := Γ
  intro O
  obtain ⟨hx, hb, hml, hown, hts, hcx, hlk, htr, hfr, hlo, hrt, hin9, htab⟩ := O
  intro ρ H locs ls ce sl Q' b1 b2 b3 b5 kk
  have h2 := kk ls b1
  rw [List.map_cons, show cv G ρ (0, bUsh a b) = .int (Int32.ofInt (bUsh a b)) from rfl, bUsh, oi_of] at h2
  exact lv_iushr hx hb hdg rfl h2
theorem V_ladd {a b : Int} (hdg : decode (kC κ) pc = .ok (.ladd, 1)) (k : V Γ κ (pc + 1) lv ((1, w64 (a + b)) :: st) μ r) : V Γ κ pc lv ((1, b) :: (1, a) :: st) μ r := by
  refine V_pure (pc' := pc + 1) (lv' := lv) (st' := ((1, w64 (a + b)) :: st)) ?_ (fun b _ => b) (fun _ b3 => ok_cons (w64_i _) (ok_tl (ok_tl b3))) k
  obtain ⟨p, l, e, R, s, m, args, below, meth, c, Q, G, ρ0, μ0⟩ := Γ
  intro O
  obtain ⟨hx, hb, hml, hown, hts, hcx, hlk, htr, hfr, hlo, hrt, hin9, htab⟩ := O
  intro ρ H locs ls ce sl Q' b1 b2 b3 b5 kk
  have h2 := kk ls b1
  rw [List.map_cons, show cv G ρ (1, w64 (a + b)) = .long (Int64.ofInt (w64 (a + b))) from rfl, ← lo_add] at h2
  exact lv_ladd hx hb hdg h2
theorem V_lsub {a b : Int} (hdg : decode (kC κ) pc = .ok (.lsub, 1)) (k : V Γ κ (pc + 1) lv ((1, w64 (a - b)) :: st) μ r) : V Γ κ pc lv ((1, b) :: (1, a) :: st) μ r := by
  refine V_pure (pc' := pc + 1) (lv' := lv) (st' := ((1, w64 (a - b)) :: st)) ?_ (fun b _ => b) (fun _ b3 => ok_cons (w64_i _) (ok_tl (ok_tl b3))) k
  obtain ⟨p, l, e, R, s, m, args, below, meth, c, Q, G, ρ0, μ0⟩ := Γ
  intro O
  obtain ⟨hx, hb, hml, hown, hts, hcx, hlk, htr, hfr, hlo, hrt, hin9, htab⟩ := O
  intro ρ H locs ls ce sl Q' b1 b2 b3 b5 kk
  have h2 := kk ls b1
  rw [List.map_cons, show cv G ρ (1, w64 (a - b)) = .long (Int64.ofInt (w64 (a - b))) from rfl, ← lo_sub] at h2
  exact lv_lsub hx hb hdg h2
theorem V_lmul {a b : Int} (hdg : decode (kC κ) pc = .ok (.lmul, 1)) (k : V Γ κ (pc + 1) lv ((1, w64 (a * b)) :: st) μ r) : V Γ κ pc lv ((1, b) :: (1, a) :: st) μ r := by
  refine V_pure (pc' := pc + 1) (lv' := lv) (st' := ((1, w64 (a * b)) :: st)) ?_ (fun b _ => b) (fun _ b3 => ok_cons (w64_i _) (ok_tl (ok_tl b3))) k
  obtain ⟨p, l, e, R, s, m, args, below, meth, c, Q, G, ρ0, μ0⟩ := Γ
  intro O
  obtain ⟨hx, hb, hml, hown, hts, hcx, hlk, htr, hfr, hlo, hrt, hin9, htab⟩ := O
  intro ρ H locs ls ce sl Q' b1 b2 b3 b5 kk
  have h2 := kk ls b1
  rw [List.map_cons, show cv G ρ (1, w64 (a * b)) = .long (Int64.ofInt (w64 (a * b))) from rfl, ← lo_mul] at h2
  exact lv_lmul hx hb hdg h2
theorem V_lcmp {a b : Int} (hdg : decode (kC κ) pc = .ok (.lcmp, 1)) (k : V Γ κ (pc + 1) lv ((0, cLong a b) :: st) μ r) : V Γ κ pc lv ((1, b) :: (1, a) :: st) μ r := by
  refine V_pure (pc' := pc + 1) (lv' := lv) (st' := ((0, cLong a b) :: st)) ?_ (fun b _ => b) (fun _ b3 => ok_cons (cLong_i _ _) (ok_tl (ok_tl b3))) k
  obtain ⟨p, l, e, R, s, m, args, below, meth, c, Q, G, ρ0, μ0⟩ := Γ
  intro O
  obtain ⟨hx, hb, hml, hown, hts, hcx, hlk, htr, hfr, hlo, hrt, hin9, htab⟩ := O
  intro ρ H locs ls ce sl Q' b1 b2 b3 b5 kk
  have h2 := kk ls b1
  rw [List.map_cons, show cv G ρ (0, cLong a b) = .int (Int32.ofInt (cLong a b)) from rfl, ← lg_cmp_c (ok_hd (ok_tl b3)) (ok_hd b3)] at h2
  exact W.lcmp hx hb hdg h2
theorem V_i2l {a : Int} (hdg : decode (kC κ) pc = .ok (.i2l, 1)) (k : V Γ κ (pc + 1) lv ((1, a) :: st) μ r) : V Γ κ pc lv ((0, a) :: st) μ r := by
  refine V_pure (pc' := pc + 1) (lv' := lv) (st' := ((1, a) :: st)) ?_ (fun b _ => b) (fun _ b3 => ok_cons (i64_of32 (ok_hd b3)) (ok_tl b3)) k
  obtain ⟨p, l, e, R, s, m, args, below, meth, c, Q, G, ρ0, μ0⟩ := Γ
  intro O
  obtain ⟨hx, hb, hml, hown, hts, hcx, hlk, htr, hfr, hlo, hrt, hin9, htab⟩ := O
  intro ρ H locs ls ce sl Q' b1 b2 b3 b5 kk
  exact lv_i2l hx hb hdg (oi_l (ok_hd b3)) (kk ls b1)
theorem V_l2i {a : Int} (hdg : decode (kC κ) pc = .ok (.l2i, 1)) (k : V Γ κ (pc + 1) lv ((0, w32 a) :: st) μ r) : V Γ κ pc lv ((1, a) :: st) μ r := by
  refine V_pure (pc' := pc + 1) (lv' := lv) (st' := ((0, w32 a) :: st)) ?_ (fun b _ => b) (fun _ b3 => ok_cons (w32_i _) (ok_tl b3)) k
  obtain ⟨p, l, e, R, s, m, args, below, meth, c, Q, G, ρ0, μ0⟩ := Γ
  intro O
  obtain ⟨hx, hb, hml, hown, hts, hcx, hlk, htr, hfr, hlo, hrt, hin9, htab⟩ := O
  intro ρ H locs ls ce sl Q' b1 b2 b3 b5 kk
  exact lv_l2i hx hb hdg (lo_i a) (kk ls b1)
theorem V_i2b {a : Int} (hdg : decode (kC κ) pc = .ok (.i2b, 1)) (k : V Γ κ (pc + 1) lv ((0, w8 a) :: st) μ r) : V Γ κ pc lv ((0, a) :: st) μ r := by
  refine V_pure (pc' := pc + 1) (lv' := lv) (st' := ((0, w8 a) :: st)) ?_ (fun b _ => b) (fun _ b3 => ok_cons (show i32 (w8 a) by have := w8_i a; unfold i32; omega) (ok_tl b3)) k
  obtain ⟨p, l, e, R, s, m, args, below, meth, c, Q, G, ρ0, μ0⟩ := Γ
  intro O
  obtain ⟨hx, hb, hml, hown, hts, hcx, hlk, htr, hfr, hlo, hrt, hin9, htab⟩ := O
  intro ρ H locs ls ce sl Q' b1 b2 b3 b5 kk
  exact lv_i2b hx hb hdg (oi_b a) (kk ls b1)
theorem V_i2c {a : Int} (hdg : decode (kC κ) pc = .ok (.i2c, 1)) (k : V Γ κ (pc + 1) lv ((0, bC a) :: st) μ r) : V Γ κ pc lv ((0, a) :: st) μ r := by
  refine V_pure (pc' := pc + 1) (lv' := lv) (st' := ((0, bC a) :: st)) ?_ (fun b _ => b) (fun _ b3 => ok_cons (i32_to _) (ok_tl b3)) k
  obtain ⟨p, l, e, R, s, m, args, below, meth, c, Q, G, ρ0, μ0⟩ := Γ
  intro O
  obtain ⟨hx, hb, hml, hown, hts, hcx, hlk, htr, hfr, hlo, hrt, hin9, htab⟩ := O
  intro ρ H locs ls ce sl Q' b1 b2 b3 b5 kk
  exact lv_i2c hx hb hdg (by rw [bC, oi_of]) (kk ls b1)
theorem V_i2f {a : Int} (hdg : decode (kC κ) pc = .ok (.i2f, 1)) (k : V Γ κ (pc + 1) lv ((3, fOf a) :: st) μ r) : V Γ κ pc lv ((0, a) :: st) μ r := by
  refine V_pure (pc' := pc + 1) (lv' := lv) (st' := ((3, fOf a) :: st)) ?_ (fun b _ => b) (fun _ b3 => ok_cons (fI_ok _) (ok_tl b3)) k
  obtain ⟨p, l, e, R, s, m, args, below, meth, c, Q, G, ρ0, μ0⟩ := Γ
  intro O
  obtain ⟨hx, hb, hml, hown, hts, hcx, hlk, htr, hfr, hlo, hrt, hin9, htab⟩ := O
  intro ρ H locs ls ce sl Q' b1 b2 b3 b5 kk
  have h2 := kk ls b1
  rw [List.map_cons, show cv G ρ (3, fOf a) = .float (fBits (fOf a)) from rfl, fOf, fBits_I] at h2
  exact lv_i2f hx hb hdg h2
theorem V_i2d {a : Int} (hdg : decode (kC κ) pc = .ok (.i2d, 1)) (k : V Γ κ (pc + 1) lv ((4, dOf a) :: st) μ r) : V Γ κ pc lv ((0, a) :: st) μ r := by
  refine V_pure (pc' := pc + 1) (lv' := lv) (st' := ((4, dOf a) :: st)) ?_ (fun b _ => b) (fun _ b3 => ok_cons (dI_ok _) (ok_tl b3)) k
  obtain ⟨p, l, e, R, s, m, args, below, meth, c, Q, G, ρ0, μ0⟩ := Γ
  intro O
  obtain ⟨hx, hb, hml, hown, hts, hcx, hlk, htr, hfr, hlo, hrt, hin9, htab⟩ := O
  intro ρ H locs ls ce sl Q' b1 b2 b3 b5 kk
  have h2 := kk ls b1
  rw [List.map_cons, show cv G ρ (4, dOf a) = .double (dBits (dOf a)) from rfl, dOf, dBits_I] at h2
  exact lv_i2d hx hb hdg h2
theorem V_fcmp {op : CmpOp} {a b : Int} (hdg : decode (kC κ) pc = .ok (.fcmp op, 1)) (k : V Γ κ (pc + 1) lv ((0, fCmp op a b) :: st) μ r) : V Γ κ pc lv ((3, b) :: (3, a) :: st) μ r := by
  refine V_pure (pc' := pc + 1) (lv' := lv) (st' := ((0, fCmp op a b) :: st)) ?_ (fun b _ => b) (fun _ b3 => ok_cons (i32_to _) (ok_tl (ok_tl b3))) k
  obtain ⟨p, l, e, R, s, m, args, below, meth, c, Q, G, ρ0, μ0⟩ := Γ
  intro O
  obtain ⟨hx, hb, hml, hown, hts, hcx, hlk, htr, hfr, hlo, hrt, hin9, htab⟩ := O
  intro ρ H locs ls ce sl Q' b1 b2 b3 b5 kk
  have h2 := kk ls b1
  rw [List.map_cons, show cv G ρ (0, fCmp op a b) = .int (Int32.ofInt (fCmp op a b)) from rfl, fCmp, oi_of] at h2
  exact lv_fcmp hx hb hdg h2
theorem V_dcmp {op : CmpOp} {a b : Int} (hdg : decode (kC κ) pc = .ok (.dcmp op, 1)) (k : V Γ κ (pc + 1) lv ((0, dCmp op a b) :: st) μ r) : V Γ κ pc lv ((4, b) :: (4, a) :: st) μ r := by
  refine V_pure (pc' := pc + 1) (lv' := lv) (st' := ((0, dCmp op a b) :: st)) ?_ (fun b _ => b) (fun _ b3 => ok_cons (i32_to _) (ok_tl (ok_tl b3))) k
  obtain ⟨p, l, e, R, s, m, args, below, meth, c, Q, G, ρ0, μ0⟩ := Γ
  intro O
  obtain ⟨hx, hb, hml, hown, hts, hcx, hlk, htr, hfr, hlo, hrt, hin9, htab⟩ := O
  intro ρ H locs ls ce sl Q' b1 b2 b3 b5 kk
  have h2 := kk ls b1
  rw [List.map_cons, show cv G ρ (0, dCmp op a b) = .int (Int32.ofInt (dCmp op a b)) from rfl, dCmp, oi_of] at h2
  exact lv_dcmp hx hb hdg h2
theorem V_dup {x : AV} (hc : catA x.1 = 1) (hdg : decode (kC κ) pc = .ok (.dup, 1)) (k : V Γ κ (pc + 1) lv (x :: x :: st) μ r) : V Γ κ pc lv (x :: st) μ r := by
  refine V_pure (pc' := pc + 1) (lv' := lv) (st' := (x :: x :: st)) ?_ (fun b _ => b) (fun _ b3 => ok_cons (ok_hd b3) b3) k
  obtain ⟨p, l, e, R, s, m, args, below, meth, c, Q, G, ρ0, μ0⟩ := Γ
  intro O
  obtain ⟨hx, hb, hml, hown, hts, hcx, hlk, htr, hfr, hlo, hrt, hin9, htab⟩ := O
  intro ρ H locs ls ce sl Q' b1 b2 b3 b5 kk
  exact lv_dup hx hb hdg (by rw [cv_cat]; exact hc) (kk ls b1)
theorem V_pop {x : AV} (hc : catA x.1 = 1) (hdg : decode (kC κ) pc = .ok (.pop, 1)) (k : V Γ κ (pc + 1) lv st μ r) : V Γ κ pc lv (x :: st) μ r := by
  refine V_pure (pc' := pc + 1) (lv' := lv) (st' := st) ?_ (fun b _ => b) (fun _ b3 => ok_tl b3) k
  obtain ⟨p, l, e, R, s, m, args, below, meth, c, Q, G, ρ0, μ0⟩ := Γ
  intro O
  obtain ⟨hx, hb, hml, hown, hts, hcx, hlk, htr, hfr, hlo, hrt, hin9, htab⟩ := O
  intro ρ H locs ls ce sl Q' b1 b2 b3 b5 kk
  exact lv_pop hx hb hdg (by rw [cv_cat]; exact hc) (kk ls b1)
theorem V_dup2 {x y : AV} (hc : catA x.1 = 1) (hc2 : catA y.1 = 1) (hdg : decode (kC κ) pc = .ok (.dup2, 1)) (k : V Γ κ (pc + 1) lv (x :: y :: x :: y :: st) μ r) : V Γ κ pc lv (x :: y :: st) μ r := by
  refine V_pure (pc' := pc + 1) (lv' := lv) (st' := (x :: y :: x :: y :: st)) ?_ (fun b _ => b) (fun _ b3 => ok_cons (ok_hd b3) (ok_cons (ok_hd (ok_tl b3)) b3)) k
  obtain ⟨p, l, e, R, s, m, args, below, meth, c, Q, G, ρ0, μ0⟩ := Γ
  intro O
  obtain ⟨hx, hb, hml, hown, hts, hcx, hlk, htr, hfr, hlo, hrt, hin9, htab⟩ := O
  intro ρ H locs ls ce sl Q' b1 b2 b3 b5 kk
  exact lv_dup2_11 hx hb hdg (by rw [cv_cat]; exact hc) (by rw [cv_cat]; exact hc2) (kk ls b1)
theorem V_goto {off : Int} {tgt : Nat} (hdg : decode (kC κ) pc = .ok (.goto off, 3)) (ht : (pc : Int) + off = (tgt : Int)) (k : V Γ κ (tgt) lv st μ r) : V Γ κ pc lv st μ r := by
  refine V_pure (pc' := tgt) (lv' := lv) (st' := st) ?_ (fun b _ => b) (fun _ b3 => b3) k
  obtain ⟨p, l, e, R, s, m, args, below, meth, c, Q, G, ρ0, μ0⟩ := Γ
  intro O
  obtain ⟨hx, hb, hml, hown, hts, hcx, hlk, htr, hfr, hlo, hrt, hin9, htab⟩ := O
  intro ρ H locs ls ce sl Q' b1 b2 b3 b5 kk
  exact lv_goto hx hb hdg ht (kk ls b1)
theorem V_icmp_eq {a b : Int} {off : Int} {tgt : Nat} (hdg : decode (kC κ) pc = .ok (.if_icmp .eq off, 3)) (ht : (pc : Int) + off = (tgt : Int)) (k1 : V Γ κ tgt lv st μ r1) (k2 : V Γ κ (pc + 3) lv st μ r2) : V Γ κ pc lv ((0, b) :: (0, a) :: st) μ (if a = b then r1 else r2) := by
  refine V_br (pc1 := tgt) (pc2 := pc + 3) (st' := st) ?_ (fun b3 => ok_tl (ok_tl b3)) k1 k2
  obtain ⟨p, l, e, R, s, m, args, below, meth, c, Q, G, ρ0, μ0⟩ := Γ
  intro O
  obtain ⟨hx, hb, -⟩ := O
  intro ρ H locs ls ce sl Q' b3 j1 j2
  have ha : i32 a := ok_hd (ok_tl b3)
  have hb9 : i32 b := ok_hd b3
  refine lv_icmp_eq (x := Int32.ofInt a) (y := Int32.ofInt b) hx hb hdg ht (fun h => j1 ?_) (fun h => j2 (fun h9 => h ?_))
  · first | exact (oi_eq ha hb9).mp h | exact fun e => h ((oi_eq ha hb9).mpr e) | exact (oi_lt ha hb9).mp h | exact (oi_le ha hb9).mp h | exact (oi_lt hb9 ha).mp h | exact (oi_le hb9 ha).mp h
  · first | exact (oi_eq ha hb9).mpr h9 | exact fun e => h9 ((oi_eq ha hb9).mp e) | exact (oi_lt ha hb9).mpr h9 | exact (oi_le ha hb9).mpr h9 | exact (oi_lt hb9 ha).mpr h9 | exact (oi_le hb9 ha).mpr h9
theorem V_if_eq {a : Int} {off : Int} {tgt : Nat} (hdg : decode (kC κ) pc = .ok (.ifCond .eq off, 3)) (ht : (pc : Int) + off = (tgt : Int)) (k1 : V Γ κ tgt lv st μ r1) (k2 : V Γ κ (pc + 3) lv st μ r2) : V Γ κ pc lv ((0, a) :: st) μ (if a = 0 then r1 else r2) := by
  refine V_br (pc1 := tgt) (pc2 := pc + 3) (st' := st) ?_ (fun b3 => ok_tl b3) k1 k2
  obtain ⟨p, l, e, R, s, m, args, below, meth, c, Q, G, ρ0, μ0⟩ := Γ
  intro O
  obtain ⟨hx, hb, -⟩ := O
  intro ρ H locs ls ce sl Q' b3 j1 j2
  have ha : i32 a := ok_hd b3
  have hb9 : i32 0 := i32_0
  refine lv_if_eq (x := Int32.ofInt a) hx hb hdg ht (fun h => j1 ?_) (fun h => j2 (fun h9 => h ?_)) <;> rw [← oi_0] at h
  · first | exact (oi_eq ha hb9).mp h | exact fun e => h ((oi_eq ha hb9).mpr e) | exact (oi_lt ha hb9).mp h | exact (oi_le ha hb9).mp h | exact (oi_lt hb9 ha).mp h | exact (oi_le hb9 ha).mp h
  · rw [← oi_0]
    first | exact (oi_eq ha hb9).mpr h9 | exact fun e => h9 ((oi_eq ha hb9).mp e) | exact (oi_lt ha hb9).mpr h9 | exact (oi_le ha hb9).mpr h9 | exact (oi_lt hb9 ha).mpr h9 | exact (oi_le hb9 ha).mpr h9
theorem V_icmp_lt {a b : Int} {off : Int} {tgt : Nat} (hdg : decode (kC κ) pc = .ok (.if_icmp .lt off, 3)) (ht : (pc : Int) + off = (tgt : Int)) (k1 : V Γ κ tgt lv st μ r1) (k2 : V Γ κ (pc + 3) lv st μ r2) : V Γ κ pc lv ((0, b) :: (0, a) :: st) μ (if a < b then r1 else r2) := by
  refine V_br (pc1 := tgt) (pc2 := pc + 3) (st' := st) ?_ (fun b3 => ok_tl (ok_tl b3)) k1 k2
  obtain ⟨p, l, e, R, s, m, args, below, meth, c, Q, G, ρ0, μ0⟩ := Γ
  intro O
  obtain ⟨hx, hb, -⟩ := O
  intro ρ H locs ls ce sl Q' b3 j1 j2
  have ha : i32 a := ok_hd (ok_tl b3)
  have hb9 : i32 b := ok_hd b3
  refine lv_icmp_lt (x := Int32.ofInt a) (y := Int32.ofInt b) hx hb hdg ht (fun h => j1 ?_) (fun h => j2 (fun h9 => h ?_))
  · first | exact (oi_eq ha hb9).mp h | exact fun e => h ((oi_eq ha hb9).mpr e) | exact (oi_lt ha hb9).mp h | exact (oi_le ha hb9).mp h | exact (oi_lt hb9 ha).mp h | exact (oi_le hb9 ha).mp h
  · first | exact (oi_eq ha hb9).mpr h9 | exact fun e => h9 ((oi_eq ha hb9).mp e) | exact (oi_lt ha hb9).mpr h9 | exact (oi_le ha hb9).mpr h9 | exact (oi_lt hb9 ha).mpr h9 | exact (oi_le hb9 ha).mpr h9
theorem V_if_lt {a : Int} {off : Int} {tgt : Nat} (hdg : decode (kC κ) pc = .ok (.ifCond .lt off, 3)) (ht : (pc : Int) + off = (tgt : Int)) (k1 : V Γ κ tgt lv st μ r1) (k2 : V Γ κ (pc + 3) lv st μ r2) : V Γ κ pc lv ((0, a) :: st) μ (if a < 0 then r1 else r2) := by
  refine V_br (pc1 := tgt) (pc2 := pc + 3) (st' := st) ?_ (fun b3 => ok_tl b3) k1 k2
  obtain ⟨p, l, e, R, s, m, args, below, meth, c, Q, G, ρ0, μ0⟩ := Γ
  intro O
  obtain ⟨hx, hb, -⟩ := O
  intro ρ H locs ls ce sl Q' b3 j1 j2
  have ha : i32 a := ok_hd b3
  have hb9 : i32 0 := i32_0
  refine lv_if_lt (x := Int32.ofInt a) hx hb hdg ht (fun h => j1 ?_) (fun h => j2 (fun h9 => h ?_)) <;> rw [← oi_0] at h
  · first | exact (oi_eq ha hb9).mp h | exact fun e => h ((oi_eq ha hb9).mpr e) | exact (oi_lt ha hb9).mp h | exact (oi_le ha hb9).mp h | exact (oi_lt hb9 ha).mp h | exact (oi_le hb9 ha).mp h
  · rw [← oi_0]
    first | exact (oi_eq ha hb9).mpr h9 | exact fun e => h9 ((oi_eq ha hb9).mp e) | exact (oi_lt ha hb9).mpr h9 | exact (oi_le ha hb9).mpr h9 | exact (oi_lt hb9 ha).mpr h9 | exact (oi_le hb9 ha).mpr h9
theorem V_icmp_ge {a b : Int} {off : Int} {tgt : Nat} (hdg : decode (kC κ) pc = .ok (.if_icmp .ge off, 3)) (ht : (pc : Int) + off = (tgt : Int)) (k1 : V Γ κ tgt lv st μ r1) (k2 : V Γ κ (pc + 3) lv st μ r2) : V Γ κ pc lv ((0, b) :: (0, a) :: st) μ (if b ≤ a then r1 else r2) := by
  refine V_br (pc1 := tgt) (pc2 := pc + 3) (st' := st) ?_ (fun b3 => ok_tl (ok_tl b3)) k1 k2
  obtain ⟨p, l, e, R, s, m, args, below, meth, c, Q, G, ρ0, μ0⟩ := Γ
  intro O
  obtain ⟨hx, hb, -⟩ := O
  intro ρ H locs ls ce sl Q' b3 j1 j2
  have ha : i32 a := ok_hd (ok_tl b3)
  have hb9 : i32 b := ok_hd b3
  refine lv_icmp_ge (x := Int32.ofInt a) (y := Int32.ofInt b) hx hb hdg ht (fun h => j1 ?_) (fun h => j2 (fun h9 => h ?_))
  · first | exact (oi_eq ha hb9).mp h | exact fun e => h ((oi_eq ha hb9).mpr e) | exact (oi_lt ha hb9).mp h | exact (oi_le ha hb9).mp h | exact (oi_lt hb9 ha).mp h | exact (oi_le hb9 ha).mp h
  · first | exact (oi_eq ha hb9).mpr h9 | exact fun e => h9 ((oi_eq ha hb9).mp e) | exact (oi_lt ha hb9).mpr h9 | exact (oi_le ha hb9).mpr h9 | exact (oi_lt hb9 ha).mpr h9 | exact (oi_le hb9 ha).mpr h9
theorem V_if_ge {a : Int} {off : Int} {tgt : Nat} (hdg : decode (kC κ) pc = .ok (.ifCond .ge off, 3)) (ht : (pc : Int) + off = (tgt : Int)) (k1 : V Γ κ tgt lv st μ r1) (k2 : V Γ κ (pc + 3) lv st μ r2) : V Γ κ pc lv ((0, a) :: st) μ (if 0 ≤ a then r1 else r2) := by
  refine V_br (pc1 := tgt) (pc2 := pc + 3) (st' := st) ?_ (fun b3 => ok_tl b3) k1 k2
  obtain ⟨p, l, e, R, s, m, args, below, meth, c, Q, G, ρ0, μ0⟩ := Γ
  intro O
  obtain ⟨hx, hb, -⟩ := O
  intro ρ H locs ls ce sl Q' b3 j1 j2
  have ha : i32 a := ok_hd b3
  have hb9 : i32 0 := i32_0
  refine lv_if_ge (x := Int32.ofInt a) hx hb hdg ht (fun h => j1 ?_) (fun h => j2 (fun h9 => h ?_)) <;> rw [← oi_0] at h
  · first | exact (oi_eq ha hb9).mp h | exact fun e => h ((oi_eq ha hb9).mpr e) | exact (oi_lt ha hb9).mp h | exact (oi_le ha hb9).mp h | exact (oi_lt hb9 ha).mp h | exact (oi_le hb9 ha).mp h
  · rw [← oi_0]
    first | exact (oi_eq ha hb9).mpr h9 | exact fun e => h9 ((oi_eq ha hb9).mp e) | exact (oi_lt ha hb9).mpr h9 | exact (oi_le ha hb9).mpr h9 | exact (oi_lt hb9 ha).mpr h9 | exact (oi_le hb9 ha).mpr h9
theorem V_icmp_gt {a b : Int} {off : Int} {tgt : Nat} (hdg : decode (kC κ) pc = .ok (.if_icmp .gt off, 3)) (ht : (pc : Int) + off = (tgt : Int)) (k1 : V Γ κ tgt lv st μ r1) (k2 : V Γ κ (pc + 3) lv st μ r2) : V Γ κ pc lv ((0, b) :: (0, a) :: st) μ (if b < a then r1 else r2) := by
  refine V_br (pc1 := tgt) (pc2 := pc + 3) (st' := st) ?_ (fun b3 => ok_tl (ok_tl b3)) k1 k2
  obtain ⟨p, l, e, R, s, m, args, below, meth, c, Q, G, ρ0, μ0⟩ := Γ
  intro O
  obtain ⟨hx, hb, -⟩ := O
  intro ρ H locs ls ce sl Q' b3 j1 j2
  have ha : i32 a := ok_hd (ok_tl b3)
  have hb9 : i32 b := ok_hd b3
  refine lv_icmp_gt (x := Int32.ofInt a) (y := Int32.ofInt b) hx hb hdg ht (fun h => j1 ?_) (fun h => j2 (fun h9 => h ?_))
  · first | exact (oi_eq ha hb9).mp h | exact fun e => h ((oi_eq ha hb9).mpr e) | exact (oi_lt ha hb9).mp h | exact (oi_le ha hb9).mp h | exact (oi_lt hb9 ha).mp h | exact (oi_le hb9 ha).mp h
  · first | exact (oi_eq ha hb9).mpr h9 | exact fun e => h9 ((oi_eq ha hb9).mp e) | exact (oi_lt ha hb9).mpr h9 | exact (oi_le ha hb9).mpr h9 | exact (oi_lt hb9 ha).mpr h9 | exact (oi_le hb9 ha).mpr h9
theorem V_if_gt {a : Int} {off : Int} {tgt : Nat} (hdg : decode (kC κ) pc = .ok (.ifCond .gt off, 3)) (ht : (pc : Int) + off = (tgt : Int)) (k1 : V Γ κ tgt lv st μ r1) (k2 : V Γ κ (pc + 3) lv st μ r2) : V Γ κ pc lv ((0, a) :: st) μ (if 0 < a then r1 else r2) := by
  refine V_br (pc1 := tgt) (pc2 := pc + 3) (st' := st) ?_ (fun b3 => ok_tl b3) k1 k2
  obtain ⟨p, l, e, R, s, m, args, below, meth, c, Q, G, ρ0, μ0⟩ := Γ
  intro O
  obtain ⟨hx, hb, -⟩ := O
  intro ρ H locs ls ce sl Q' b3 j1 j2
  have ha : i32 a := ok_hd b3
  have hb9 : i32 0 := i32_0
  refine lv_if_gt (x := Int32.ofInt a) hx hb hdg ht (fun h => j1 ?_) (fun h => j2 (fun h9 => h ?_)) <;> rw [← oi_0] at h
  · first | exact (oi_eq ha hb9).mp h | exact fun e => h ((oi_eq ha hb9).mpr e) | exact (oi_lt ha hb9).mp h | exact (oi_le ha hb9).mp h | exact (oi_lt hb9 ha).mp h | exact (oi_le hb9 ha).mp h
  · rw [← oi_0]
    first | exact (oi_eq ha hb9).mpr h9 | exact fun e => h9 ((oi_eq ha hb9).mp e) | exact (oi_lt ha hb9).mpr h9 | exact (oi_le ha hb9).mpr h9 | exact (oi_lt hb9 ha).mpr h9 | exact (oi_le hb9 ha).mpr h9
theorem V_icmp_le {a b : Int} {off : Int} {tgt : Nat} (hdg : decode (kC κ) pc = .ok (.if_icmp .le off, 3)) (ht : (pc : Int) + off = (tgt : Int)) (k1 : V Γ κ tgt lv st μ r1) (k2 : V Γ κ (pc + 3) lv st μ r2) : V Γ κ pc lv ((0, b) :: (0, a) :: st) μ (if a ≤ b then r1 else r2) := by
  refine V_br (pc1 := tgt) (pc2 := pc + 3) (st' := st) ?_ (fun b3 => ok_tl (ok_tl b3)) k1 k2
  obtain ⟨p, l, e, R, s, m, args, below, meth, c, Q, G, ρ0, μ0⟩ := Γ
  intro O
  obtain ⟨hx, hb, -⟩ := O
  intro ρ H locs ls ce sl Q' b3 j1 j2
  have ha : i32 a := ok_hd (ok_tl b3)
  have hb9 : i32 b := ok_hd b3
  refine lv_icmp_le (x := Int32.ofInt a) (y := Int32.ofInt b) hx hb hdg ht (fun h => j1 ?_) (fun h => j2 (fun h9 => h ?_))
  · first | exact (oi_eq ha hb9).mp h | exact fun e => h ((oi_eq ha hb9).mpr e) | exact (oi_lt ha hb9).mp h | exact (oi_le ha hb9).mp h | exact (oi_lt hb9 ha).mp h | exact (oi_le hb9 ha).mp h
  · first | exact (oi_eq ha hb9).mpr h9 | exact fun e => h9 ((oi_eq ha hb9).mp e) | exact (oi_lt ha hb9).mpr h9 | exact (oi_le ha hb9).mpr h9 | exact (oi_lt hb9 ha).mpr h9 | exact (oi_le hb9 ha).mpr h9
theorem V_if_le {a : Int} {off : Int} {tgt : Nat} (hdg : decode (kC κ) pc = .ok (.ifCond .le off, 3)) (ht : (pc : Int) + off = (tgt : Int)) (k1 : V Γ κ tgt lv st μ r1) (k2 : V Γ κ (pc + 3) lv st μ r2) : V Γ κ pc lv ((0, a) :: st) μ (if a ≤ 0 then r1 else r2) := by
  refine V_br (pc1 := tgt) (pc2 := pc + 3) (st' := st) ?_ (fun b3 => ok_tl b3) k1 k2
  obtain ⟨p, l, e, R, s, m, args, below, meth, c, Q, G, ρ0, μ0⟩ := Γ
  intro O
  obtain ⟨hx, hb, -⟩ := O
  intro ρ H locs ls ce sl Q' b3 j1 j2
  have ha : i32 a := ok_hd b3
  have hb9 : i32 0 := i32_0
  refine lv_if_le (x := Int32.ofInt a) hx hb hdg ht (fun h => j1 ?_) (fun h => j2 (fun h9 => h ?_)) <;> rw [← oi_0] at h
  · first | exact (oi_eq ha hb9).mp h | exact fun e => h ((oi_eq ha hb9).mpr e) | exact (oi_lt ha hb9).mp h | exact (oi_le ha hb9).mp h | exact (oi_lt hb9 ha).mp h | exact (oi_le hb9 ha).mp h
  · rw [← oi_0]
    first | exact (oi_eq ha hb9).mpr h9 | exact fun e => h9 ((oi_eq ha hb9).mp e) | exact (oi_lt ha hb9).mpr h9 | exact (oi_le ha hb9).mpr h9 | exact (oi_lt hb9 ha).mpr h9 | exact (oi_le hb9 ha).mpr h9
theorem V_icmp_ne {a b : Int} {off : Int} {tgt : Nat} (hdg : decode (kC κ) pc = .ok (.if_icmp .ne off, 3)) (ht : (pc : Int) + off = (tgt : Int)) (k1 : V Γ κ tgt lv st μ r1) (k2 : V Γ κ (pc + 3) lv st μ r2) : V Γ κ pc lv ((0, b) :: (0, a) :: st) μ (if ¬ a = b then r1 else r2) := by
  refine V_br (pc1 := tgt) (pc2 := pc + 3) (st' := st) ?_ (fun b3 => ok_tl (ok_tl b3)) k1 k2
  obtain ⟨p, l, e, R, s, m, args, below, meth, c, Q, G, ρ0, μ0⟩ := Γ
  intro O
  obtain ⟨hx, hb, -⟩ := O
  intro ρ H locs ls ce sl Q' b3 j1 j2
  have ha : i32 a := ok_hd (ok_tl b3)
  have hb9 : i32 b := ok_hd b3
  exact lv_icmp_ne (x := Int32.ofInt a) (y := Int32.ofInt b) hx hb hdg ht (fun h => j1 (fun e => h ((oi_eq ha hb9).mpr e))) (fun h => j2 (fun n => n ((oi_eq ha hb9).mp h)))
theorem V_if_ne {a : Int} {off : Int} {tgt : Nat} (hdg : decode (kC κ) pc = .ok (.ifCond .ne off, 3)) (ht : (pc : Int) + off = (tgt : Int)) (k1 : V Γ κ tgt lv st μ r1) (k2 : V Γ κ (pc + 3) lv st μ r2) : V Γ κ pc lv ((0, a) :: st) μ (if ¬ a = 0 then r1 else r2) := by
  refine V_br (pc1 := tgt) (pc2 := pc + 3) (st' := st) ?_ (fun b3 => ok_tl b3) k1 k2
  obtain ⟨p, l, e, R, s, m, args, below, meth, c, Q, G, ρ0, μ0⟩ := Γ
  intro O
  obtain ⟨hx, hb, -⟩ := O
  intro ρ H locs ls ce sl Q' b3 j1 j2
  have ha : i32 a := ok_hd b3
  have hb9 : i32 0 := i32_0
  exact lv_if_ne (x := Int32.ofInt a) hx hb hdg ht (fun h => j1 (fun e => h (by rw [← oi_0, oi_eq ha hb9]; exact e))) (fun h => j2 (fun n => n (by rw [← oi_0, oi_eq ha hb9] at h; exact h)))
theorem V_ifnonnull {a : Int} {off : Int} {tgt : Nat} (hdg : decode (kC κ) pc = .ok (.ifnonnull off, 3)) (ht : (pc : Int) + off = (tgt : Int)) (k1 : V Γ κ tgt lv st μ r1) (k2 : V Γ κ (pc + 3) lv st μ r2) : V Γ κ pc lv ((2, a) :: st) μ (if ¬ a = 0 then r1 else r2) := by
  refine V_br (pc1 := tgt) (pc2 := pc + 3) (st' := st) ?_ (fun b3 => ok_tl b3) k1 k2
  obtain ⟨p, l, e, R, s, m, args, below, meth, c, Q, G, ρ0, μ0⟩ := Γ
  intro O
  obtain ⟨hx, hb, -⟩ := O
  intro ρ H locs ls ce sl Q' b3 j1 j2
  rw [List.map_cons, show cv G ρ (2, a) = cvR ρ a from rfl]
  by_cases h : a = 0
  · rw [show cvR ρ a = .null by unfold cvR; rw [if_pos h]]
    exact lv_ifnonnullN hx hb hdg (j2 (fun n => n h))
  · rw [show cvR ρ a = .ref (ρ a) by unfold cvR; rw [if_neg h]]
    exact lv_ifnonnull hx hb hdg ht (j1 h)
theorem V_idiv {a b : Int} {K : Int → Rz} (hdg : decode (kC κ) pc = .ok (.idiv, 1)) (k : ∀ z, V Γ κ (pc + 1) lv ((0, z) :: st) μ (K z)) : V Γ κ pc lv ((0, b) :: (0, a) :: st) μ (DV a b K) := by
  unfold DV
  by_cases h0 : b = 0
  · rw [if_pos h0]
    exact V_none
  · rw [if_neg h0]
    refine V_pure (pc' := pc + 1) (st' := (0, w32 (a.tdiv b)) :: st) ?_ (fun b _ => b) (fun _ b3 => ok_cons (w32_i _) (ok_tl (ok_tl b3))) (k _)
    obtain ⟨p, l, e, R, s, m, args, below, meth, c, Q, G, ρ0, μ0⟩ := Γ
    intro O
    obtain ⟨hx, hb, -⟩ := O
    intro ρ H locs ls ce sl Q' b1 b2 b3 b5 kk
    have h2 := kk ls b1
    rw [List.map_cons, show cv G ρ (0, w32 (a.tdiv b)) = .int (Int32.ofInt (w32 (a.tdiv b))) from rfl, ← oi_div (ok_hd (ok_tl b3)) (ok_hd b3)] at h2
    exact lv_idiv hx hb hdg (fun e => h0 (by rw [← oi_0, oi_eq (ok_hd b3) i32_0] at e; exact e)) h2
theorem V_irem {a b : Int} {K : Int → Rz} (hdg : decode (kC κ) pc = .ok (.irem, 1)) (k : ∀ z, V Γ κ (pc + 1) lv ((0, z) :: st) μ (K z)) : V Γ κ pc lv ((0, b) :: (0, a) :: st) μ (RM a b K) := by
  unfold RM
  by_cases h0 : b = 0
  · rw [if_pos h0]
    exact V_none
  · rw [if_neg h0]
    refine V_pure (pc' := pc + 1) (st' := (0, a.tmod b) :: st) ?_ (fun b _ => b) (fun _ b3 => ok_cons (tmod_i (ok_hd (ok_tl b3))) (ok_tl (ok_tl b3))) (k _)
    obtain ⟨p, l, e, R, s, m, args, below, meth, c, Q, G, ρ0, μ0⟩ := Γ
    intro O
    obtain ⟨hx, hb, -⟩ := O
    intro ρ H locs ls ce sl Q' b1 b2 b3 b5 kk
    have h2 := kk ls b1
    rw [List.map_cons, show cv G ρ (0, a.tmod b) = .int (Int32.ofInt (a.tmod b)) from rfl, ← oi_rem (ok_hd (ok_tl b3)) (ok_hd b3)] at h2
    exact lv_irem hx hb hdg (fun e => h0 (by rw [← oi_0, oi_eq (ok_hd b3) i32_0] at e; exact e)) h2
theorem V_ldiv {a b : Int} {K : Int → Rz} (hdg : decode (kC κ) pc = .ok (.ldiv, 1)) (k : ∀ z, V Γ κ (pc + 1) lv ((1, z) :: st) μ (K z)) : V Γ κ pc lv ((1, b) :: (1, a) :: st) μ (LD a b K) := by
  unfold LD
  by_cases h0 : b = 0
  · rw [if_pos h0]
    exact V_none
  · rw [if_neg h0]
    refine V_pure (pc' := pc + 1) (st' := (1, w64 (a.tdiv b)) :: st) ?_ (fun b _ => b) (fun _ b3 => ok_cons (w64_i _) (ok_tl (ok_tl b3))) (k _)
    obtain ⟨p, l, e, R, s, m, args, below, meth, c, Q, G, ρ0, μ0⟩ := Γ
    intro O
    obtain ⟨hx, hb, -⟩ := O
    intro ρ H locs ls ce sl Q' b1 b2 b3 b5 kk
    have h2 := kk ls b1
    rw [List.map_cons, show cv G ρ (1, w64 (a.tdiv b)) = .long (Int64.ofInt (w64 (a.tdiv b))) from rfl, ← lo_div (ok_hd (ok_tl b3)) (ok_hd b3)] at h2
    exact lv_ldiv hx hb hdg (fun e => h0 (by rw [← lo_0, lo_eq (ok_hd b3) i64_0] at e; exact e)) h2
theorem V_ddiv {a b : Int} {K : Int → Rz} (hdg : decode (kC κ) pc = .ok (.ddiv, 1)) (k : ∀ z, V Γ κ (pc + 1) lv ((4, z) :: st) μ (K z)) : V Γ κ pc lv ((4, b) :: (4, a) :: st) μ (DD a b K) := by
  unfold DD
  by_cases h0 : dOk (FP.ddiv (dBits a) (dBits b)) = true
  · rw [if_pos h0]
    refine V_pure (pc' := pc + 1) (st' := (4, dDiv a b) :: st) ?_ (fun b _ => b) (fun _ b3 => ok_cons (dI_ok _) (ok_tl (ok_tl b3))) (k _)
    obtain ⟨p, l, e, R, s, m, args, below, meth, c, Q, G, ρ0, μ0⟩ := Γ
    intro O
    obtain ⟨hx, hb, -⟩ := O
    intro ρ H locs ls ce sl Q' b1 b2 b3 b5 kk
    have h2 := kk ls b1
    rw [List.map_cons, show cv G ρ (4, dDiv a b) = .double (dBits (dDiv a b)) from rfl, dDiv, dBits_I] at h2
    exact lv_ddiv hx hb hdg (show vf_n64 _ by unfold vf_n64; exact of_decide_eq_true h0) h2
  · rw [if_neg h0]
    exact V_none
theorem V_fdiv {a b : Int} {K : Int → Rz} (hdg : decode (kC κ) pc = .ok (.fdiv, 1)) (k : ∀ z, V Γ κ (pc + 1) lv ((3, z) :: st) μ (K z)) : V Γ κ pc lv ((3, b) :: (3, a) :: st) μ (FD a b K) := by
  unfold FD
  by_cases h0 : fOk (FP.fdiv (fBits a) (fBits b)) = true
  · rw [if_pos h0]
    refine V_pure (pc' := pc + 1) (st' := (3, fDiv a b) :: st) ?_ (fun b _ => b) (fun _ b3 => ok_cons (fI_ok _) (ok_tl (ok_tl b3))) (k _)
    obtain ⟨p, l, e, R, s, m, args, below, meth, c, Q, G, ρ0, μ0⟩ := Γ
    intro O
    obtain ⟨hx, hb, -⟩ := O
    intro ρ H locs ls ce sl Q' b1 b2 b3 b5 kk
    have h2 := kk ls b1
    rw [List.map_cons, show cv G ρ (3, fDiv a b) = .float (fBits (fDiv a b)) from rfl, fDiv, fBits_I] at h2
    exact lv_fdiv hx hb hdg (show vf_n32 _ by unfold vf_n32; exact of_decide_eq_true h0) h2
  · rw [if_neg h0]
    exact V_none
theorem V_f2d {a : Int} {K : Int → Rz} (hdg : decode (kC κ) pc = .ok (.f2d, 1)) (k : ∀ z, V Γ κ (pc + 1) lv ((4, z) :: st) μ (K z)) : V Γ κ pc lv ((3, a) :: st) μ (DF a K) := by
  unfold DF
  by_cases h0 : dOk (FP.f2d (fBits a)) = true
  · rw [if_pos h0]
    refine V_pure (pc' := pc + 1) (st' := (4, dOfF a) :: st) ?_ (fun b _ => b) (fun _ b3 => ok_cons (dI_ok _) (ok_tl b3)) (k _)
    obtain ⟨p, l, e, R, s, m, args, below, meth, c, Q, G, ρ0, μ0⟩ := Γ
    intro O
    obtain ⟨hx, hb, -⟩ := O
    intro ρ H locs ls ce sl Q' b1 b2 b3 b5 kk
    have h2 := kk ls b1
    rw [List.map_cons, show cv G ρ (4, dOfF a) = .double (dBits (dOfF a)) from rfl, dOfF, dBits_I] at h2
    exact lv_f2d hx hb hdg (show vf_n64 _ by unfold vf_n64; exact of_decide_eq_true h0) h2
  · rw [if_neg h0]
    exact V_none
end VROWS
