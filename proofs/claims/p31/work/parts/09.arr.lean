/-! rows of V over arrays, and what makes cells -/
section VARR
variable {Γ : Gam} {κ : Kap} {pc : Nat} {lv : List (Nat × AV)} {st : List AV} {μ : Mem} {r : Rz}
theorem arr_known {G : Gc} {s : State} (hcx : CxP G s) {t : Nat} (ht : t < 8) (N : Nat) (f : Nat → Value) : s.isArrayOf (arrV (gA G t) N f) (ety t) := (hcx.1.1.2 t _ (tysG_at G ht)).1 N f
theorem isA_put {G : Gc} {ρ : Int → Nat} {μ : Mem} {H H1 : Heap} {a i z : Int} {t : Nat} {x : Value} (h : isA G ρ μ H a t) (ha : a ≠ 0) (h0 : 0 ≤ i) (h1 : i < μ a (-2)) (hx : x = cv G ρ (etg t, z)) (hz : vok (bd μ) (etg t, z)) (e : H1[ρ a]? = some ((arrV (gA G t) (μ a (-2)).toNat (fun k => cv G ρ (etg t, μ a k))).setSlot i.toNat x)) : isA G ρ (mUp μ a i z) H1 a t := by
  obtain ⟨g1, g2, g3, g4⟩ := h
  have e2 : mUp μ a i z a (-2) = μ a (-2) := mUp_ne _ _ (by omega)
  refine ⟨by rw [e2]; exact g1, by rw [e2]; exact g2, ?_, fun k hk => ?_⟩
  · rw [e, e2, arrV_store]
    refine congrArg (fun f => some (arrV _ _ f)) (funext fun j => ?_)
    unfold updV
    by_cases hj : j = i.toNat
    · rw [if_pos hj, hx, show ((j : Nat) : Int) = i by omega, mUp_same]
    · rw [if_neg hj, mUp_ne _ _ (by omega)]
  · rw [e2] at hk
    rw [bd_up ha]
    by_cases hj : (k : Int) = i
    · rw [hj, mUp_same]
      exact hz
    · rw [mUp_ne _ _ (by omega)]
      exact g4 k hk
theorem arr_w {G : Gc} {s : State} (hcx : CxP G s) {t : Nat} (ht : t < 8) {cell : Cell} (h : cell.cls = gA G t ∨ (t = 1 ∧ cell.cls = gA G 11)) (hv : cell.vm ≠ .unknown ∧ cell.vm.isStatics = false) : s.isArrayOf cell (ety t) := by
  rcases h with h | ⟨h1, h⟩
  · obtain ⟨-, kA, hkA, cm, hkk⟩ := arr_known hcx ht 0 (fun _ => .null)
    exact ⟨fun k h => by have h2 := hv.2; rw [h] at h2; simp [VmData.isStatics] at h2, kA, by rw [h]; exact hkA, cm, hkk⟩
  · subst h1
    obtain ⟨-, kA, hkA, cm, hkk⟩ := hcx.1.2.2 0 (fun _ => .null)
    exact ⟨fun k h => by have h2 := hv.2; rw [h] at h2; simp [VmData.isStatics] at h2, kA, by rw [h]; exact hkA, cm, hkk⟩
theorem V_iaload {a i : Int} {K : Int → Rz} (hdg : decode (kC κ) pc = .ok (.iaload, 1)) (k : ∀ z, V Γ κ (pc + 1) lv ((0, z) :: st) μ (K z)) : V Γ κ pc lv ((0, i) :: (2, a) :: st) μ (AL 1 a i μ K) := by
  unfold AL
  by_cases h0 : μ a (-1) = 1 + 20 ∧ 0 ≤ i ∧ i < μ a (-2)
  · rw [if_pos h0]
    refine V_read ?_ (k (μ a i))
    obtain ⟨p, l, e, R, s, m, args, below, meth, c, Q, G, ρ0, μ0⟩ := Γ
    intro O
    obtain ⟨hx, hb, hml, hown, hts, hcx, hlk, htr, hfr, hlo, hrt, hin9, htab⟩ := O
    intro ρ H locs ls ce sl Q' b3 b4 b5 kk
    obtain ⟨g1, g2, g4, g5, ⟨cell, g6, w1, w2, w3, w4⟩, g7⟩ := b4.arrw (t := 1) (ok_hd (ok_tl b3)) h0.1
    obtain ⟨x1, x2⟩ := ix_ok (ok_hd b3) h0.2.1 h0.2.2
    have hz : ((i.toNat : Nat) : Int) = i := by omega
    have kk := kk (ok_cons (by have := g7 i.toNat (by omega); rw [hz] at this; exact this) (ok_tl (ok_tl b3)))
    rw [List.map_cons, List.map_cons, show cv G ρ (2, a) = cvR ρ a from rfl, cvR_pos g1]
    refine W.iald (j := Int32.ofInt i) (v := cv G ρ (0, μ a i)) hx hb g6 (arr_w hcx (t := 1) (by omega) w1 w2) w2.1 (by rw [w3]; exact x1) ?_ rfl rfl hdg kk
    rw [x2, w4 _ (by omega), hz]
    rfl
  · rw [if_neg h0]
    exact V_none
theorem V_baload {a i : Int} {K : Int → Rz} (hdg : decode (kC κ) pc = .ok (.baload, 1)) (k : ∀ z, V Γ κ (pc + 1) lv ((0, z) :: st) μ (K z)) : V Γ κ pc lv ((0, i) :: (2, a) :: st) μ (AL 0 a i μ K) := by
  unfold AL
  by_cases h0 : μ a (-1) = 0 + 20 ∧ 0 ≤ i ∧ i < μ a (-2)
  · rw [if_pos h0]
    refine V_read ?_ (k (μ a i))
    obtain ⟨p, l, e, R, s, m, args, below, meth, c, Q, G, ρ0, μ0⟩ := Γ
    intro O
    obtain ⟨hx, hb, hml, hown, hts, hcx, hlk, htr, hfr, hlo, hrt, hin9, htab⟩ := O
    intro ρ H locs ls ce sl Q' b3 b4 b5 kk
    obtain ⟨g1, g2, g4, g5, ⟨cell, g6, w1, w2, w3, w4⟩, g7⟩ := b4.arrw (t := 0) (ok_hd (ok_tl b3)) h0.1
    obtain ⟨x1, x2⟩ := ix_ok (ok_hd b3) h0.2.1 h0.2.2
    have hz : ((i.toNat : Nat) : Int) = i := by omega
    have kk := kk (ok_cons (by have := g7 i.toNat (by omega); rw [hz] at this; exact this) (ok_tl (ok_tl b3)))
    rw [List.map_cons, List.map_cons, show cv G ρ (2, a) = cvR ρ a from rfl, cvR_pos g1]
    refine W.bald (j := Int32.ofInt i) (v := cv G ρ (0, μ a i)) hx hb g6 (arr_w hcx (t := 0) (by omega) w1 w2) w2.1 (by rw [w3]; exact x1) ?_ rfl rfl hdg kk
    rw [x2, w4 _ (by omega), hz]
    rfl
  · rw [if_neg h0]
    exact V_none
theorem V_aaload (t : Nat) (h8 : t < 8) (hr : (ety t).isReference = true) (he : etg t = 2) {a i : Int} {K : Int → Rz} (hdg : decode (kC κ) pc = .ok (.aaload, 1)) (k : ∀ z, V Γ κ (pc + 1) lv ((2, z) :: st) μ (K z)) : V Γ κ pc lv ((0, i) :: (2, a) :: st) μ (AL t a i μ K) := by
  unfold AL
  by_cases h0 : μ a (-1) = (t : Int) + 20 ∧ 0 ≤ i ∧ i < μ a (-2)
  · rw [if_pos h0]
    refine V_read ?_ (k (μ a i))
    obtain ⟨p, l, e, R, s, m, args, below, meth, c, Q, G, ρ0, μ0⟩ := Γ
    intro O
    obtain ⟨hx, hb, hml, hown, hts, hcx, hlk, htr, hfr, hlo, hrt, hin9, htab⟩ := O
    intro ρ H locs ls ce sl Q' b3 b4 b5 kk
    obtain ⟨g1, g2, g4, g5, ⟨cell, g6, w1, w2, w3, w4⟩, g7⟩ := b4.arrw (t := t) (ok_hd (ok_tl b3)) h0.1
    obtain ⟨x1, x2⟩ := ix_ok (ok_hd b3) h0.2.1 h0.2.2
    have hz : ((i.toNat : Nat) : Int) = i := by omega
    have kk := kk (ok_cons (by have := g7 i.toNat (by omega); rw [hz, he] at this; exact this) (ok_tl (ok_tl b3)))
    rw [List.map_cons, List.map_cons, show cv G ρ (2, a) = cvR ρ a from rfl, cvR_pos g1]
    refine W.aald (j := Int32.ofInt i) (v := cv G ρ (2, μ a i)) hx hb g6 (arr_w hcx h8 w1 w2) hr w2.1 (by rw [w3]; exact x1) ?_ rfl rfl hdg kk
    rw [x2, w4 _ (by omega), hz, he]
  · rw [if_neg h0]
    exact V_none
theorem V_iastore {a i z : Int} {K : Mem → Rz} (hdg : decode (kC κ) pc = .ok (.iastore, 1)) (k : ∀ ν, V Γ κ (pc + 1) lv st ν (K ν)) : V Γ κ pc lv ((0, z) :: (0, i) :: (2, a) :: st) μ (AS 1 a i z μ K) := by
  unfold AS
  by_cases h0 : (0 < a ∨ a < -21) ∧ μ a (-1) = 1 + 20 ∧ 0 ≤ i ∧ i < μ a (-2)
  · rw [if_pos h0]
    refine V_write h0.1 ?_ (fun b3 => ok_tl (ok_tl (ok_tl b3))) (k (mUp μ a i z))
    obtain ⟨p, l, e, R, s, m, args, below, meth, c, Q, G, ρ0, μ0⟩ := Γ
    intro O
    obtain ⟨hx, hb, hml, hown, hts, hcx, hlk, htr, hfr, hlo, hrt, hin9, htab⟩ := O
    intro ρ H locs ls ce sl Q' b3 b4 b5 kk
    obtain ⟨g1, g2, g3, g4⟩ := b4.arr (t := 1) (Or.inl h0.1) (ok_hd (ok_tl (ok_tl b3))) h0.2.1
    obtain ⟨x1, x2⟩ := ix_ok (ok_hd (ok_tl b3)) h0.2.2.1 h0.2.2.2
    rw [List.map_cons, List.map_cons, List.map_cons, show cv G ρ (2, a) = cvR ρ a from rfl, cvR_pos g1]
    refine W.iast (j := Int32.ofInt i) (x := Int32.ofInt z) hx hb g4.2.2.1 (arr_known hcx (t := 1) (by omega) _ _) (fun q => by cases q) (by rw [arrV_size]; exact x1) rfl rfl hdg fun H' e1 e2 e3 => ?_
    rw [x2] at e1
    exact kk H' _ (b4.put h0.1 g2 h0.2.2.1 e3 (Or.inr ⟨1, by omega, by rw [mUp_ne _ _ (by omega)]; exact h0.2.1, isA_put g4 g1 h0.2.2.1 h0.2.2.2 rfl (ok_hd b3) e1⟩)) (va_S.put (A := fun q => gB G ≤ q) b5 e2 e3 (g3 h0.1))
  · rw [if_neg h0]
    exact V_none
theorem V_bastore {a i z : Int} {K : Mem → Rz} (hdg : decode (kC κ) pc = .ok (.bastore, 1)) (k : ∀ ν, V Γ κ (pc + 1) lv st ν (K ν)) : V Γ κ pc lv ((0, z) :: (0, i) :: (2, a) :: st) μ (ASB a i z μ K) := by
  unfold ASB
  by_cases h0 : (0 < a ∨ a < -21) ∧ μ a (-1) = 20 ∧ 0 ≤ i ∧ i < μ a (-2)
  · rw [if_pos h0]
    refine V_write h0.1 ?_ (fun b3 => ok_tl (ok_tl (ok_tl b3))) (k (mUp μ a i (w8 z)))
    obtain ⟨p, l, e, R, s, m, args, below, meth, c, Q, G, ρ0, μ0⟩ := Γ
    intro O
    obtain ⟨hx, hb, hml, hown, hts, hcx, hlk, htr, hfr, hlo, hrt, hin9, htab⟩ := O
    intro ρ H locs ls ce sl Q' b3 b4 b5 kk
    obtain ⟨g1, g2, g3, g4⟩ := b4.arr (t := 0) (Or.inl h0.1) (ok_hd (ok_tl (ok_tl b3))) h0.2.1
    obtain ⟨x1, x2⟩ := ix_ok (ok_hd (ok_tl b3)) h0.2.2.1 h0.2.2.2
    rw [List.map_cons, List.map_cons, List.map_cons, show cv G ρ (2, a) = cvR ρ a from rfl, cvR_pos g1]
    refine W.bast (j := Int32.ofInt i) (x := Int32.ofInt z) hx hb g4.2.2.1 (arr_known hcx (t := 0) (by omega) _ _) (fun q => by cases q) (by rw [arrV_size]; exact x1) rfl rfl hdg fun H' e1 e2 e3 => ?_
    rw [x2] at e1
    exact kk H' _ (b4.put h0.1 g2 h0.2.2.1 e3 (Or.inr ⟨0, by omega, by rw [mUp_ne _ _ (by omega)]; exact h0.2.1, isA_put g4 g1 h0.2.2.1 h0.2.2.2 (by rw [narrow_byte, oi_b]; rfl) (show i32 (w8 z) by have := w8_i z; unfold i32; omega) e1⟩)) (va_S.put (A := fun q => gB G ≤ q) b5 e2 e3 (g3 h0.1))
  · rw [if_neg h0]
    exact V_none
theorem V_alen (t : Nat) (h8 : t < 8) {a : Int} {K : Int → Rz} (hdg : decode (kC κ) pc = .ok (.arraylength, 1)) (k : ∀ z, V Γ κ (pc + 1) lv ((0, z) :: st) μ (K z)) : V Γ κ pc lv ((2, a) :: st) μ (LN t a μ K) := by
  unfold LN
  by_cases h0 : μ a (-1) = (t : Int) + 20
  · rw [if_pos h0]
    refine V_read ?_ (k (μ a (-2)))
    obtain ⟨p, l, e, R, s, m, args, below, meth, c, Q, G, ρ0, μ0⟩ := Γ
    intro O
    obtain ⟨hx, hb, hml, hown, hts, hcx, hlk, htr, hfr, hlo, hrt, hin9, htab⟩ := O
    intro ρ H locs ls ce sl Q' b3 b4 b5 kk
    obtain ⟨g1, g2, g4, g5, ⟨cell, g6, w1, w2, w3, w4⟩, g7⟩ := b4.arrw (t := t) (ok_hd b3) h0
    have kk := kk (ok_cons (show i32 (μ a (-2)) by unfold i32; omega) (ok_tl b3))
    rw [List.map_cons, show cv G ρ (2, a) = cvR ρ a from rfl, cvR_pos g1]
    refine W.alen (n := Int32.ofInt (μ a (-2))) hx hb g6 (arr_w hcx h8 w1 w2) ?_ rfl rfl hdg kk
    rw [w3]
    show Int32.ofNat _ = _
    rw [← Int32.ofInt_eq_ofNat]
    congr 1
    omega
  · rw [if_neg h0]
    exact V_none
end VARR
