/-! rows of V: more -/
/-- one cell changes, at rows of its own -/
theorem GP.upd {G : Gc} {ρ : Int → Nat} {μ ν : Mem} {H H1 : Heap} (h : GP G ρ μ H) {a : Int} (ho : own a) (han : μ 0 3 < a ∧ a < μ 0 0) (hν : ∀ b k, b ≠ a → ν b k = μ b k) (hq : ∀ q : Nat, q ≠ ρ a → H1[q]? = H[q]?) (hc : okC G ρ ν H1 a) : GP G ρ ν H1 := by
  have ha := own_ne ho
  have e0 : ∀ k, ν 0 k = μ 0 k := fun k => hν 0 k (by omega)
  refine ⟨⟨by rw [e0]; exact h.1.1, by rw [e0]; exact h.1.2.1, h.1.2.2⟩, by rw [e0]; exact h.2.1, fun b hb0 hb hbn => ?_, fun b c hb hc h1 h2 h3 h4 => ?_⟩
  · rw [e0] at hb hbn
    refine ⟨(h.2.2.1 b hb0 hb hbn).1, ?_⟩
    by_cases hba : b = a
    · rw [hba]; exact Or.inl hc
    · exact (((h.2.2.1 b hb0 hb hbn).2).kept (hq (ρ b) (h.ne ho han hb0 ⟨hb, hbn⟩ hba))).ext rfl Ext.rf (fun k => hν b k hba) (by rw [e0, e0]; omega)
  · rw [e0] at h1 h2 h3 h4
    exact h.2.2.2 b c hb hc h1 h2 h3 h4
theorem arrV_new9 (c : ClassId) (N : Nat) (v : Value) : Jvm.Free.Multi.innerC c N v = arrV c N (fun _ => v) := by
  unfold Jvm.Free.Multi.innerC arrV
  congr 1
  refine Array.ext (by simp) (fun j h7 h8 => by simp)
theorem vr_outer9 (c : ClassId) (N h0 : Nat) : ∀ i : Nat, Jvm.Free.Multi.outerC c N h0 i = arrV c N (fun j => if j < i then .ref (h0 + 1 + j) else .null)
  | 0 => by
    show ({ cls := c, slots := Array.replicate N .null, vm := .none } : Cell) = _
    rw [arrV_new]
    refine congrArg (arrV c N) (funext fun j => ?_)
    simp
  | i + 1 => by
    show (Jvm.Free.Multi.outerC c N h0 i).setSlot i (.ref (h0 + 1 + i)) = _
    rw [vr_outer9 c N h0 i, arrV_store]
    refine congrArg (arrV c N) (funext fun j => ?_)
    by_cases e : j = i
    · subst e
      simp [updV]
    · by_cases h : j < i
      · simp [updV, e, h, Nat.lt_succ_of_lt h]
      · simp [updV, e, h, show ¬ j < i + 1 by omega]
section VMORE
variable {Γ : Gam} {κ : Kap} {pc : Nat} {lv : List (Nat × AV)} {st : List AV} {μ : Mem} {r : Rz}
theorem V_NU (k : 0 < μ 0 0 → V Γ κ pc lv st μ r) : V Γ κ pc lv st μ (NU μ r) := by
  unfold NU
  by_cases h : 0 < μ 0 0
  · rw [if_pos h]; exact k h
  · rw [if_neg h]; exact V_none
theorem V_ldcs {i : Nat} {tx : String} {w : Nat} (hw : (kW κ, i, tx, w) ∈ wrds) (hdg : decode (kC κ) pc = .ok (.ldc i, 2)) (h13 : w < 13) (k : V Γ κ (pc + 2) lv ((5, (w : Int)) :: st) μ r) : V Γ κ pc lv st μ r := by
  refine V_pure (pc' := pc + 2) (lv' := lv) (st' := (5, (w : Int)) :: st) ?_ (fun b _ => b) (fun _ b3 => ok_cons (show 0 ≤ (w : Int) ∧ (w : Int) < nStr by unfold nStr; omega) b3) k
  obtain ⟨p, l, e, R, s, m, args, below, meth, c, Q, G, ρ0, μ0⟩ := Γ
  intro O
  obtain ⟨hx, hb, hml, hown, hts, hcx, hlk, htr, hfr, hlo, hrt, hin9, htab⟩ := O
  intro ρ H locs ls ce sl Q' b1 b2 b3 b5 kk
  have h := hcx.2.2.2.2.1 _ hw
  exact va_ldcS (q := gK G w) hx hb hown h hdg (kk ls b1)
theorem V_getCompact {i : Nat} (hlink : Cond.fieldLink (kW κ) i "java/lang/String" "COMPACT_STRINGS" "Z" ∈ lw_all) (hdg : decode (kC κ) pc = .ok (.getstatic i, 3)) (k : V Γ κ (pc + 3) lv ((0, 1) :: st) μ r) : V Γ κ pc lv st μ r := by
  refine V_pure (pc' := pc + 3) (lv' := lv) (st' := (0, 1) :: st) ?_ (fun b _ => b) (fun _ b3 => ok_cons (show i32 1 by unfold i32; omega) b3) k
  obtain ⟨p, l, e, R, s, m, args, below, meth, c, Q, G, ρ0, μ0⟩ := Γ
  intro O
  obtain ⟨hx, hb, hml, hown, hts, hcx, hlk, htr, hfr, hlo, hrt, hin9, htab⟩ := O
  intro ρ H locs ls ce sl Q' b1 b2 b3 b5 kk
  exact va_gets hx hb hcx.2.2.1.1 b5 hown (hts _ hlink) (fun _ h => h) hdg (kk ls b1)
theorem V_getFormatter {i : Nat} (hlink : Cond.fieldLink (kW κ) i "jdk/internal/util/Preconditions" "SIOOBE_FORMATTER" "Ljava/util/function/BiFunction;" ∈ lw_all) (hdg : decode (kC κ) pc = .ok (.getstatic i, 3)) (k : V Γ κ (pc + 3) lv ((6, 0) :: st) μ r) : V Γ κ pc lv st μ r := by
  refine V_pure (pc' := pc + 3) (lv' := lv) (st' := (6, 0) :: st) ?_ (fun b _ => b) (fun _ b3 => ok_cons trivial b3) k
  obtain ⟨p, l, e, R, s, m, args, below, meth, c, Q, G, ρ0, μ0⟩ := Γ
  intro O
  obtain ⟨hx, hb, hml, hown, hts, hcx, hlk, htr, hfr, hlo, hrt, hin9, htab⟩ := O
  intro ρ H locs ls ce sl Q' b1 b2 b3 b5 kk
  exact va_gets hx hb hcx.2.2.1.2.1 b5 hown (hts _ hlink) (fun _ h => h) hdg (kk ls b1)
theorem V_getEmpty {i : Nat} (hlink : Cond.fieldLink (kW κ) i "java/util/ArrayList" "DEFAULTCAPACITY_EMPTY_ELEMENTDATA" "[Ljava/lang/Object;" ∈ lw_all) (hdg : decode (kC κ) pc = .ok (.getstatic i, 3)) (k : V Γ κ (pc + 3) lv ((2, -1) :: st) μ r) : V Γ κ pc lv st μ r := by
  refine V_read (pc' := pc + 3) (st' := (2, -1) :: st) ?_ k
  obtain ⟨p, l, e, R, s, m, args, below, meth, c, Q, G, ρ0, μ0⟩ := Γ
  intro O
  obtain ⟨hx, hb, hml, hown, hts, hcx, hlk, htr, hfr, hlo, hrt, hin9, htab⟩ := O
  intro ρ H locs ls ce sl Q' b3 b4 b5 kk
  have hk := kk (ok_cons (show μ 0 3 < -1 ∧ -1 < μ 0 0 from ⟨by have := b4.1.2.1; omega, by have := b4.1.1; omega⟩) b3)
  have hρ : ρ (-1) = gK G 101 := b4.1.2.2 1 (by decide) (by decide)
  rw [List.map_cons, show cv G ρ (2, -1) = cvR ρ (-1) from rfl, cvR_pos (by decide), hρ] at hk
  exact va_gets hx hb hcx.2.2.1.2.2.1 b5 hown (hts _ hlink) (fun _ h => h) hdg hk
theorem V_getDigits {i : Nat} (hlink : Cond.fieldLink (kW κ) i "java/lang/Integer" "DigitOnes" "[B" ∈ lw_all) (hdg : decode (kC κ) pc = .ok (.getstatic i, 3)) (k : V Γ κ (pc + 3) lv ((2, -20) :: st) μ r) : V Γ κ pc lv st μ r := by
  refine V_read (pc' := pc + 3) (st' := (2, -20) :: st) ?_ k
  obtain ⟨p, l, e, R, s, m, args, below, meth, c, Q, G, ρ0, μ0⟩ := Γ
  intro O
  obtain ⟨hx, hb, hml, hown, hts, hcx, hlk, htr, hfr, hlo, hrt, hin9, htab⟩ := O
  intro ρ H locs ls ce sl Q' b3 b4 b5 kk
  have hk := kk (ok_cons (show μ 0 3 < -20 ∧ -20 < μ 0 0 from ⟨by have := b4.1.2.1; omega, by have := b4.1.1; omega⟩) b3)
  have hρ : ρ (-20) = gK G 120 := b4.1.2.2 20 (by decide) (by decide)
  rw [List.map_cons, show cv G ρ (2, -20) = cvR ρ (-20) from rfl, cvR_pos (by decide), hρ] at hk
  exact va_gets hx hb hcx.2.2.1.2.2.2 b5 hown (hts _ hlink) (fun _ h => h) hdg hk
theorem V_ldcF {i : Nat} {tx : String} {w : Nat} (hw : (kW κ, i, tx, w) ∈ lwds) (hw1 : 0 < w ∧ w ≤ 21) (hdg : decode (kC κ) pc = .ok (.ldc i, 2)) (k : V Γ κ (pc + 2) lv ((2, -(w : Int)) :: st) μ r) : V Γ κ pc lv st μ r := by
  refine V_read (pc' := pc + 2) (st' := (2, -(w : Int)) :: st) ?_ k
  obtain ⟨p, l, e, R, s, m, args, below, meth, c, Q, G, ρ0, μ0⟩ := Γ
  intro O
  obtain ⟨hx, hb, hml, hown, hts, hcx, hlk, htr, hfr, hlo, hrt, hin9, htab⟩ := O
  intro ρ H locs ls ce sl Q' b3 b4 b5 kk
  have hk := kk (ok_cons (show μ 0 3 < -(w : Int) ∧ -(w : Int) < μ 0 0 from ⟨by have := b4.1.2.1; omega, by have := b4.1.1; omega⟩) b3)
  have hρ : ρ (-(w : Int)) = gK G (100 + w) := b4.1.2.2 w hw1.1 hw1.2
  rw [List.map_cons, show cv G ρ (2, -(w : Int)) = cvR ρ (-(w : Int)) from rfl, cvR_pos (by omega), hρ] at hk
  exact va_ldcS (q := gK G (100 + w)) hx hb hown (hcx.2.2.2.2.2.2.2.2.1 _ hw) hdg hk
/-- the class object of Object[] -/
theorem V_ldcM {i : Nat} (hlink : Cond.classLink (kW κ) i "[Ljava/lang/Object;" ∈ lw_all) (hdg : decode (kC κ) pc = .ok (.ldc i, 2)) (k : V Γ κ (pc + 2) lv ((5, 27) :: st) μ r) : V Γ κ pc lv st μ r := by
  refine V_pure (pc' := pc + 2) (lv' := lv) (st' := (5, 27) :: st) ?_ (fun b _ => b) (fun _ b3 => ok_cons (show (0 : Int) ≤ 27 ∧ (27 : Int) < nStr by decide) b3) k
  obtain ⟨p, l, e, R, s, m, args, below, meth, c, Q, G, ρ0, μ0⟩ := Γ
  intro O
  obtain ⟨hx, hb, hml, hown, hts, hcx, hlk, htr, hfr, hlo, hrt, hin9, htab⟩ := O
  intro ρ H locs ls ce sl Q' b1 b2 b3 b5 kk
  exact va_ldcM hx hb hown (hts _ hlink) hcx.2.2.2.2.2.2.2.2.2.2.2.2.2.2.2.1 hdg (kk ls b1)
/-- two references of one number -/
theorem V_acmpM {t : Nat} {z z2 : Int} {off : Int} (hr : rtg t = true) (hdg : decode (kC κ) pc = .ok (.if_acmp .ne off, 3)) {tgt : Nat} (ht : (pc : Int) + off = (tgt : Int)) (k : V Γ κ (pc + 3) lv st μ r) : V Γ κ pc lv ((t, z2) :: (t, z) :: st) μ (if z = z2 then r else none) := by
  by_cases hz : z = z2
  · rw [if_pos hz]
    subst hz
    refine V_pure (pc' := pc + 3) (lv' := lv) (st' := st) ?_ (fun b _ => b) (fun _ b3 => ok_tl (ok_tl b3)) k
    obtain ⟨p, l, e, R, s, m, args, below, meth, c, Q, G, ρ0, μ0⟩ := Γ
    intro O
    obtain ⟨hx, hb, -⟩ := O
    intro ρ H locs ls ce sl Q' b1 b2 b3 b5 kk
    have hk := kk ls b1
    rw [List.map_cons, List.map_cons]
    rcases cv_ref hr G ρ z with h | ⟨a, h⟩
    · rw [h]
      exact lv_acmp_ne (rx := none) (ry := none) hx hb hdg ht (fun h => absurd rfl h) (fun _ => hk)
    · rw [h]
      exact lv_acmp_ne (rx := some a) (ry := some a) hx hb hdg ht (fun h => absurd rfl h) (fun _ => hk)
  · rw [if_neg hz]
    exact V_none
theorem V_acmpQ {a b : Int} {off : Int} {r1 r2 : Rz} (hdg : decode (kC κ) pc = .ok (.if_acmp .eq off, 3)) {tgt : Nat} (ht : (pc : Int) + off = (tgt : Int)) (k1 : V Γ κ tgt lv st μ r1) (k2 : V Γ κ (pc + 3) lv st μ r2) : V Γ κ pc lv ((2, b) :: (2, a) :: st) μ (AQ a b r1 r2) := by
  unfold AQ
  by_cases h0 : ((0 < a ∨ a < -21) ∨ a = -1) ∧ ((0 < b ∨ b < -21) ∨ b = -1)
  · rw [if_pos h0]
    by_cases hab : a = b
    · rw [if_pos hab]
      refine V_read (pc' := tgt) (st' := st) ?_ k1
      obtain ⟨p, l, e, R, s, m, args, below, meth, c, Q, G, ρ0, μ0⟩ := Γ
      intro O
      obtain ⟨hx, hb, -⟩ := O
      intro ρ H locs ls ce sl Q' b3 b4 b5 kk
      rw [List.map_cons, List.map_cons, show cv G ρ (2, b) = cvR ρ b from rfl, show cv G ρ (2, a) = cvR ρ a from rfl, cvR_pos (by omega), cvR_pos (by omega), hab]
      exact lv_acmp_eq (rx := some (ρ b)) (ry := some (ρ b)) hx hb hdg ht (fun _ => kk (ok_tl (ok_tl b3))) (fun h => absurd rfl h)
    · rw [if_neg hab]
      refine V_read (pc' := pc + 3) (st' := st) ?_ k2
      obtain ⟨p, l, e, R, s, m, args, below, meth, c, Q, G, ρ0, μ0⟩ := Γ
      intro O
      obtain ⟨hx, hb, -⟩ := O
      intro ρ H locs ls ce sl Q' b3 b4 b5 kk
      have vb : μ 0 3 < b ∧ b < μ 0 0 := ok_hd b3
      have va : μ 0 3 < a ∧ a < μ 0 0 := ok_hd (ok_tl b3)
      have hne : ρ a ≠ ρ b := by
        by_cases ha : own a
        · exact (b4.ne ha va (by omega) vb (fun h => hab h.symm)).symm
        · have hbo : own b := by
            unfold own at ha ⊢
            omega
          exact b4.ne hbo vb (by omega) va hab
      rw [List.map_cons, List.map_cons, show cv G ρ (2, b) = cvR ρ b from rfl, show cv G ρ (2, a) = cvR ρ a from rfl, cvR_pos (by omega), cvR_pos (by omega)]
      exact lv_acmp_eq (rx := some (ρ a)) (ry := some (ρ b)) hx hb hdg ht (fun h => absurd (Option.some.inj h) hne) (fun _ => kk (ok_tl (ok_tl b3)))
  · rw [if_neg h0]
    exact V_none
/-- a cast to the object's own class -/
theorem V_ccO (ci : Nat) (h8 : ci < 12) {C : String} {T : u_T} {N : Nat} (hcl : vwC[ci]? = some (C, T, N)) {idx : Nat} {a : Int} (hlink : Cond.classLink (kW κ) idx C ∈ lw_all) (hdg : decode (kC κ) pc = .ok (.checkcast idx, 3)) (k : V Γ κ (pc + 3) lv ((2, a) :: st) μ r) : V Γ κ pc lv ((2, a) :: st) μ (KD ci a μ r) := by
  refine V_KD fun hk => ?_
  refine V_read (pc' := pc + 3) (st' := (2, a) :: st) ?_ k
  obtain ⟨p, l, e, R, s, m, args, below, meth, c, Q, G, ρ0, μ0⟩ := Γ
  intro O
  obtain ⟨hx, hb, hml, hown, hts, hcx, hlk, htr, hfr, hlo, hrt, hin9, htab⟩ := O
  intro ρ H locs ls ce sl Q' b3 b4 b5 kk
  obtain ⟨g1, g2, ⟨cell, q1, q2, q3, q4⟩, g5⟩ := b4.objw (ok_hd b3) h8 hk
  have hcls := (hcx.1.1.1 ci _ hcl).2
  have hkk := kk b3
  rw [List.map_cons, show cv G ρ (2, a) = cvR ρ a from rfl, cvR_pos g1] at hkk ⊢
  exact va_castS hx hb hown (hts _ hlink) hcls ⟨cell, q1, q3.2, by rw [q2]; exact hcls.1⟩ hdg hkk
/-- a cast of a byte[] -/
theorem V_ccB {idx : Nat} {a : Int} (hlink : Cond.classLink (kW κ) idx "[B" ∈ lw_all) (hdg : decode (kC κ) pc = .ok (.checkcast idx, 3)) (k : V Γ κ (pc + 3) lv ((2, a) :: st) μ r) : V Γ κ pc lv ((2, a) :: st) μ (KD 19 a μ r) := by
  refine V_KD fun hk => ?_
  refine V_read (pc' := pc + 3) (st' := (2, a) :: st) ?_ k
  obtain ⟨p, l, e, R, s, m, args, below, meth, c, Q, G, ρ0, μ0⟩ := Γ
  intro O
  obtain ⟨hx, hb, hml, hown, hts, hcx, hlk, htr, hfr, hlo, hrt, hin9, htab⟩ := O
  intro ρ H locs ls ce sl Q' b3 b4 b5 kk
  obtain ⟨g1, g2, g4, g5, ⟨cell, g6, w1, w2, w3, w4⟩, g7⟩ := b4.arrw (t := 0) (ok_hd b3) (by rw [hk]; rfl)
  have hc9 : cell.cls = gA G 0 := by rcases w1 with h | h; exact h; omega
  have hnm : s.vm.findClass "[B" = some (gA G 0) := va_nm_byte (hcx.1.1.2 0 _ (tysG_at G (by omega))).2
  have hkk := kk b3
  rw [List.map_cons, show cv G ρ (2, a) = cvR ρ a from rfl, cvR_pos g1] at hkk ⊢
  intro T hT X
  obtain ⟨vm', X', st9⟩ := X.checkcastYes hx hown (hts _ hlink) (by rw [hT]; exact g6) w2.2 hnm (by rw [hc9]; exact va_asg _ _) (g := F0 m pc ls (.ref (ρ a) :: st.map (cv G ρ))) rfl rfl (by rw [hb]; exact hdg)
  obtain ⟨t, a1, b1⟩ := hkk (T.setVm vm') hT X'
  exact ⟨t, st9 t a1, b1⟩
/-- getClass() of an Object[] -/
theorem V_getC (hd : 1 ≤ kD κ) {i : Nat} {a : Int} (h1 : Cond.methodLink (kW κ) i ⟨"java/lang/Object", "getClass", "()Ljava/lang/Class;"⟩ ∈ lw_all) (h2 : Cond.selects "[Ljava/lang/Object;" ⟨"java/lang/Object", "getClass", "()Ljava/lang/Class;"⟩ ⟨"java/lang/Object", "getClass", "()Ljava/lang/Class;"⟩ ∈ lw_all) (h3 : Cond.instanceMethod ⟨"java/lang/Object", "getClass", "()Ljava/lang/Class;"⟩ ∈ lw_all) (h4 : Cond.native ⟨"java/lang/Object", "getClass", "()Ljava/lang/Class;"⟩ ∈ lw_all) (hw : (st.map fun q => catA q.1).sum ≤ 8) (hdg : decode (kC κ) pc = .ok (.invokevirtual i, 3)) (k : V Γ κ (pc + 3) lv ((5, 27) :: st) μ r) : V Γ κ pc lv ((2, a) :: st) μ (KD 21 a μ r) := by
  refine V_KD fun hk => ?_
  obtain ⟨p, l, e, R, s, m, args, below, meth, c, Q, G, ρ0, μ0⟩ := Γ
  intro x v μ' hr
  obtain ⟨k1, k2⟩ := k x v μ' hr
  refine ⟨k1, fun O a1 a2 a3 a4 a5 ρ H locs ls b1 b2 b3 b4 b5 b6 => ?_⟩
  obtain ⟨hx, hb, hml, hown, hts, hcx, hlk, htr, hfr, hlo, hrt, hin9, htab⟩ := id O
  obtain ⟨g1, g2, g4, g5, ⟨cell, g6, w1, w2, w3, w4⟩, g7⟩ := b4.arrw (t := 2) (ok_hd b3) (by rw [hk]; rfl)
  have hc9 : cell.cls = gA G 2 := by rcases w1 with h | h; exact h; omega
  have hkk := k2 O a1 a2 a3 a4 a5 ρ H locs ls b1 b2 (ok_cons (show (0 : Int) ≤ 27 ∧ (27 : Int) < nStr by decide) (ok_tl b3)) b4 b5 b6
  have hnm : s.vm.findClass "[Ljava/lang/Object;" = some (gA G 2) := va_nmO (C := "java/lang/Object") (hcx.1.1.2 2 _ (tysG_at G (by omega))).2 (by decide +kernel)
  have hs : (st.map (cv G ρ)).map (fun v => v.category) = st.map fun q => catA q.1 := by
    rw [List.map_map]
    exact List.map_congr_left (fun q _ => cv_cat G ρ q)
  rw [List.map_cons, show cv G ρ (2, a) = cvR ρ a from rfl, cvR_pos g1]
  exact va_getC hx hb (hml.trans b1.1.symm) hown (hts _ h1) (va_Dc.use hcx.2.2.2.2.2.2.2.2.2.2.2.2.2.2.2.2.1) (hts _ h2) (hts _ h3) (hts _ h4) hcx.2.2.2.2.2.2.2.2.2.2.2.2.2.2.2.1 ⟨_, g6, w2.2, by rw [hc9]; exact hnm⟩ (by omega) (by rw [hs]; omega) hdg hkk
theorem V_objInit (hd : 1 ≤ kD κ) {i : Nat} {a : Int} (h1 : Cond.methodLink (kW κ) i Lib.objectInit ∈ lw_all) (h2 : Cond.instanceMethod Lib.objectInit ∈ lw_all) (h3 : Cond.code Lib.objectInit ⟨#[0xb1]⟩ 1 none ∈ lw_all) (hw : (st.map fun q => catA q.1).sum ≤ 8) (hdg : decode (kC κ) pc = .ok (.invokespecial i, 3)) {ci : Int} (k : V Γ κ (pc + 3) lv st μ r) : V Γ κ pc lv ((2, a) :: st) μ (if 0 < a then r else none) := by
  by_cases h0 : 0 < a
  · rw [if_pos h0]
    refine V_pure (pc' := pc + 3) (lv' := lv) (st' := st) ?_ (fun b _ => b) (fun _ b3 => ok_tl b3) k
    obtain ⟨p, l, e, R, s, m, args, below, meth, c, Q, G, ρ0, μ0⟩ := Γ
    intro O
    obtain ⟨hx, hb, hml, hown, hts, hcx, hlk, htr, hfr, hlo, hrt, hin9, htab⟩ := O
    intro ρ H locs ls ce sl Q' b1 b2 b3 b5 kk
    have h9 := kk ls b1
    have hs : (st.map (cv G ρ)).map (fun v => v.category) = st.map fun q => catA q.1 := by
      rw [List.map_map]
      exact List.map_congr_left (fun q _ => cv_cat G ρ q)
    rw [List.map_cons, show cv G ρ (2, a) = cvR ρ a from rfl, cvR_pos (by omega)]
    refine W.objInit hx hb hown (hts _ h1) (hts _ h2) (hts _ h3) rfl (b1.1.trans hml.symm) rfl hdg (by omega) ?_ h9
    show 2 * 0 + _ + 12 ≤ _
    rw [hs]
    omega
  · rw [if_neg h0]
    exact V_none
theorem V_objInitN (hd : 1 ≤ kD κ) {i : Nat} {a : Int} (h1 : Cond.methodLink (kW κ) i Lib.objectInit ∈ lw_all) (h2 : Cond.instanceMethod Lib.objectInit ∈ lw_all) (h3 : Cond.code Lib.objectInit ⟨#[0xb1]⟩ 1 none ∈ lw_all) (hw : (st.map fun q => catA q.1).sum ≤ 8) (hdg : decode (kC κ) pc = .ok (.invokespecial i, 3)) {ci : Int} (k : V Γ κ (pc + 3) lv st μ r) : V Γ κ pc lv ((2, a) :: st) μ (if a < -21 then r else none) := by
  by_cases h0 : a < -21
  · rw [if_pos h0]
    refine V_pure (pc' := pc + 3) (lv' := lv) (st' := st) ?_ (fun b _ => b) (fun _ b3 => ok_tl b3) k
    obtain ⟨p, l, e, R, s, m, args, below, meth, c, Q, G, ρ0, μ0⟩ := Γ
    intro O
    obtain ⟨hx, hb, hml, hown, hts, hcx, hlk, htr, hfr, hlo, hrt, hin9, htab⟩ := O
    intro ρ H locs ls ce sl Q' b1 b2 b3 b5 kk
    have h9 := kk ls b1
    have hs : (st.map (cv G ρ)).map (fun v => v.category) = st.map fun q => catA q.1 := by
      rw [List.map_map]
      exact List.map_congr_left (fun q _ => cv_cat G ρ q)
    rw [List.map_cons, show cv G ρ (2, a) = cvR ρ a from rfl, cvR_pos (by omega)]
    refine W.objInit hx hb hown (hts _ h1) (hts _ h2) (hts _ h3) rfl (b1.1.trans hml.symm) rfl hdg (by omega) ?_ h9
    show 2 * 0 + _ + 12 ≤ _
    rw [hs]
    omega
  · rw [if_neg h0]
    exact V_none
theorem V_aastore (t ci : Nat) (h8 : t < 8) (hc8 : ci < 12) (he : etg t = 2) {C : String} {T : u_T} {N : Nat} (hC : ety t = .object C) (hcl : vwC[ci]? = some (C, T, N)) {a i z : Int} {K : Mem → Rz} (hdg : decode (kC κ) pc = .ok (.aastore, 1)) (k : ∀ ν, V Γ κ (pc + 1) lv st ν (K ν)) : V Γ κ pc lv ((2, z) :: (0, i) :: (2, a) :: st) μ (ASR t ci a i z μ K) := by
  unfold ASR
  by_cases h0 : (0 < a ∨ a < -21) ∧ μ a (-1) = (t : Int) + 20 ∧ 0 ≤ i ∧ i < μ a (-2) ∧ μ z (-1) = (ci : Int) + 1
  · rw [if_pos h0]
    refine V_write h0.1 ?_ (fun b3 => ok_tl (ok_tl (ok_tl b3))) (k (mUp μ a i z))
    obtain ⟨p, l, e, R, s, m, args, below, meth, c, Q, G, ρ0, μ0⟩ := Γ
    intro O
    obtain ⟨hx, hb, hml, hown, hts, hcx, hlk, htr, hfr, hlo, hrt, hin9, htab⟩ := O
    intro ρ H locs ls ce sl Q' b3 b4 b5 kk
    obtain ⟨g1, g2, g3, g4⟩ := b4.arr (t := t) (Or.inl h0.1) (ok_hd (ok_tl (ok_tl b3))) h0.2.1
    obtain ⟨y1, y2, ⟨cellV, q1, q2, q3, q4⟩, y5⟩ := b4.objw (ok_hd b3) hc8 h0.2.2.2.2
    obtain ⟨x1, x2⟩ := ix_ok (ok_hd (ok_tl b3)) h0.2.2.1 h0.2.2.2.1
    have hcls := (hcx.1.1.1 ci _ hcl).2
    have h4 : va_RA s (gA G t) (ety t) := (hcx.1.1.2 t _ (tysG_at G h8)).2
    rw [hC] at h4
    obtain ⟨kA, comp, k1, k2, k3, -⟩ := h4
    have hcomp : comp = (gD G).1 ci := Option.some.inj (k3.symm.trans hcls.1)
    subst hcomp
    obtain ⟨kC, hkC, -⟩ := hcls.2
    rw [List.map_cons, List.map_cons, List.map_cons, show cv G ρ (2, a) = cvR ρ a from rfl, show cv G ρ (2, z) = cvR ρ z from rfl, cvR_pos g1, cvR_pos y1]
    refine W.aast (j := Int32.ofInt i) hx hb g4.2.2.1 (fun q h => by cases h) (fun h => by cases h) k1 k2 rfl hkC ⟨fun h => x1 (Or.inl h), by rw [arrV_size, x2]; omega⟩ q1 (fun q h => by have h2 := q3.2; rw [h] at h2; simp [VmData.isStatics] at h2) (by rw [q2]; exact hkC) (by rw [q2]; exact va_assign hcls) rfl rfl hdg fun H' e1 e2 e3 => ?_
    rw [x2] at e1
    exact kk H' _ (b4.put h0.1 g2 h0.2.2.1 e3 (Or.inr ⟨t, h8, by rw [mUp_ne _ _ (by omega)]; exact h0.2.1, isA_put g4 g1 h0.2.2.1 h0.2.2.2.1 (by rw [he]; exact (cvR_pos y1).symm) (by rw [he]; exact ok_hd b3) e1⟩)) (va_S.put (A := fun q => gB G ≤ q) b5 e2 e3 (g3 h0.1))
  · rw [if_neg h0]
    exact V_none
/-- into an Object[] -/
theorem V_aastoreO {a i z : Int} {K : Mem → Rz} (hdg : decode (kC κ) pc = .ok (.aastore, 1)) (k : ∀ ν, V Γ κ (pc + 1) lv st ν (K ν)) : V Γ κ pc lv ((2, z) :: (0, i) :: (2, a) :: st) μ (ASO a i z μ K) := by
  unfold ASO
  by_cases h0 : (0 < a ∨ a < -21) ∧ μ a (-1) = 22 ∧ 0 ≤ i ∧ i < μ a (-2) ∧ (μ z (-1) = 8 ∨ μ z (-1) = 9)
  · rw [if_pos h0]
    refine V_write h0.1 ?_ (fun b3 => ok_tl (ok_tl (ok_tl b3))) (k (mUp μ a i z))
    obtain ⟨p, l, e, R, s, m, args, below, meth, c, Q, G, ρ0, μ0⟩ := Γ
    intro O
    obtain ⟨hx, hb, hml, hown, hts, hcx, hlk, htr, hfr, hlo, hrt, hin9, htab⟩ := O
    intro ρ H locs ls ce sl Q' b3 b4 b5 kk
    obtain ⟨g1, g2, g3, g4⟩ := b4.arr (t := 2) (Or.inl h0.1) (ok_hd (ok_tl (ok_tl b3))) (by rw [h0.2.1]; rfl)
    obtain ⟨C, cC, y1, cellV, q1, q2, q3, hfc, hca⟩ : ∃ (C : String) (cC : ClassId), z ≠ 0 ∧ ∃ cellV : Cell, H[ρ z]? = some cellV ∧ cellV.cls = cC ∧ cellV.vm = .none ∧ s.vm.findClass C = some cC ∧ va_Nw (.castable C "java/lang/Object") s := by
      rcases h0.2.2.2.2 with hz | hz
      · obtain ⟨y1, y2, y3, ⟨cellV, q1, q2, q3, q4⟩, y5⟩ := b4.obj (ci := 7) (Or.inr (by omega)) (ok_hd b3) (by omega) (by rw [hz]; rfl)
        exact ⟨_, _, y1, cellV, q1, q2, q3, (hcx.1.1.1 7 _ (show vwC[7]? = some (RX7, TX7, 3) from rfl)).2.1, hcx.2.2.2.2.2.2.2.1 ("TonePlatesLaw$Place", "java/lang/Object") (by decide)⟩
      · obtain ⟨y1, y2, y3, ⟨cellV, q1, q2, q3, q4⟩, y5⟩ := b4.obj (ci := 8) (Or.inr (by omega)) (ok_hd b3) (by omega) (by rw [hz]; rfl)
        exact ⟨_, _, y1, cellV, q1, q2, q3, (hcx.1.1.1 8 _ (show vwC[8]? = some (RX8, TX8, 7) from rfl)).2.1, hcx.2.2.2.2.2.2.2.1 ("TonePlatesLaw$Screen", "java/lang/Object") (by decide)⟩
    obtain ⟨x1, x2⟩ := ix_ok (ok_hd (ok_tl b3)) h0.2.2.1 h0.2.2.2.1
    have h4 : va_RA s (gA G 2) (.object "java/lang/Object") := (hcx.1.1.2 2 _ (tysG_at G (by omega))).2
    obtain ⟨kA, comp, k1, k2, k3, -⟩ := h4
    obtain ⟨kE, hkE, -⟩ := Vm.findClass_spec k3
    obtain ⟨kC, hkC, -⟩ := Vm.findClass_spec hfc
    rw [List.map_cons, List.map_cons, List.map_cons, show cv G ρ (2, a) = cvR ρ a from rfl, show cv G ρ (2, z) = cvR ρ z from rfl, cvR_pos g1, cvR_pos y1]
    refine W.aast (j := Int32.ofInt i) hx hb g4.2.2.1 (fun q h => by cases h) (fun h => by cases h) k1 k2 rfl hkE ⟨fun h => x1 (Or.inl h), by rw [arrV_size, x2]; omega⟩ q1 (fun q h => by rw [q3] at h; cases h) (by rw [q2]; exact hkC) (by rw [q2]; exact vb_asgC hca _ _ k3 hfc) rfl rfl hdg fun H' e1 e2 e3 => ?_
    rw [x2] at e1
    exact kk H' _ (b4.put h0.1 g2 h0.2.2.1 e3 (Or.inr ⟨2, by omega, by rw [mUp_ne _ _ (by omega)]; exact h0.2.1, isA_put g4 g1 h0.2.2.1 h0.2.2.2.1 ((cvR_pos y1).symm) (ok_hd b3) e1⟩)) (va_S.put (A := fun q => gB G ≤ q) b5 e2 e3 (g3 h0.1))
  · rw [if_neg h0]
    exact V_none
theorem V_acopy (hd : 1 ≤ kD κ) {i : Nat} {src sp dst dp n : Int} {K : Mem → Rz} (h1 : Cond.methodLink (kW κ) i arraycopyName ∈ lw_all) (h2 : Cond.native arraycopyName ∈ lw_all) (h3 : Cond.static arraycopyName ∈ lw_all) (h4 : Cond.initialized "java/lang/System" ∈ lw_all) (hw : (st.map fun q => catA q.1).sum + (nativeFrameWords "java/lang/System" "arraycopy" 5 + 11) ≤ 60) (hdg : decode (kC κ) pc = .ok (.invokestatic i, 3)) (k : ∀ ν, V Γ κ (pc + 3) lv st ν (K ν)) : V Γ κ pc lv ((0, n) :: (0, dp) :: (2, dst) :: (0, sp) :: (2, src) :: st) μ (ACP src sp dst dp n μ K) := by
  unfold ACP
  by_cases h0 : (0 < dst ∧ 0 < src) ∧ src ≠ dst ∧ μ src (-1) = 21 ∧ μ dst (-1) = 21 ∧ 0 ≤ sp ∧ 0 ≤ dp ∧ 0 ≤ n ∧ sp + n ≤ μ src (-2) ∧ dp + n ≤ μ dst (-2)
  · rw [if_pos h0]
    obtain ⟨⟨c1, csr⟩, c2, c3, c4, c5, c6, c7, c8, c9⟩ := h0
    have kk0 := k (mCpy μ src sp dst dp n)
    obtain ⟨p, l, e, R, s, m, args, below, meth, c, Q, G, ρ0, μ0⟩ := Γ
    intro x v μ' hr
    obtain ⟨k1, k2⟩ := kk0 x v μ' hr
    have hν : ∀ b j, b ≠ dst → mCpy μ src sp dst dp n b j = μ b j := fun b j hb => by
      unfold mCpy
      rw [if_neg (fun q => hb q.1)]
    have hneg : ∀ j, j < 0 → mCpy μ src sp dst dp n dst j = μ dst j := fun j hj => by
      unfold mCpy
      rw [if_neg (by omega)]
    have hbd : bd (mCpy μ src sp dst dp n) = bd μ := by
      unfold bd
      rw [hν 0 0 (by omega), hν 0 3 (by omega)]
    simp only [fun j => hν 0 j (by omega), hbd] at k1 k2
    refine ⟨k1, fun O a1 a2 a3 a4 a5 ρ H locs ls b1 b2 b3 b4 b5 b6 => ?_⟩
    obtain ⟨hx, hb, hml, hown, hts, hcx, hlk, htr, hfr, hlo, hrt, hin9, htab⟩ := id O
    have v0 : i32 n := ok_hd b3
    have v1 : i32 dp := ok_hd (ok_tl b3)
    have v2 : vok (bd μ) (2, dst) := ok_hd (ok_tl (ok_tl b3))
    have v3 : i32 sp := ok_hd (ok_tl (ok_tl (ok_tl b3)))
    have v4 : vok (bd μ) (2, src) := ok_hd (ok_tl (ok_tl (ok_tl (ok_tl b3))))
    have hst0 := ok_tl (ok_tl (ok_tl (ok_tl (ok_tl b3))))
    obtain ⟨s1, s2, s3, s4, s5, s6, s7⟩ := b4.arr (t := 1) (Or.inl (Or.inl csr)) v4 (by rw [c3]; rfl)
    obtain ⟨d1, d2, d3, d4, d5, d6, d7⟩ := b4.arr (t := 1) (Or.inl (Or.inl c1)) v2 (by rw [c4]; rfl)
    have en : ∀ z, i32 z → 0 ≤ z → (Int32.ofInt z).toNatClampNeg = z.toNat ∧ ¬ Int32.ofInt z < 0 ∧ (Int32.ofInt z).toInt = z := fun z hz h9 => by
      refine ⟨by show (Int32.ofInt z).toInt.toNat = _; rw [oi_to hz], ?_, oi_to hz⟩
      rw [← oi_0, oi_lt hz i32_0]
      omega
    obtain ⟨n1, n2, n3⟩ := en n v0 c7
    obtain ⟨p1, p2, p3⟩ := en sp v3 c5
    obtain ⟨t1, t2, t3⟩ := en dp v1 c6
    have hs : (st.map (cv G ρ)).map (fun v => v.category) = st.map fun q => catA q.1 := by
      rw [List.map_map]
      exact List.map_congr_left (fun q _ => cv_cat G ρ q)
    rw [List.map_cons, List.map_cons, List.map_cons, List.map_cons, List.map_cons, show cv G ρ (2, dst) = cvR ρ dst from rfl, show cv G ρ (2, src) = cvR ρ src from rfl, cvR_pos s1, cvR_pos d1]
    intro T hT X
    obtain ⟨-, kA, hkA, cmA, hkkA⟩ := arr_known hcx (t := 1) (by omega) (μ src (-2)).toNat (fun k => cv G ρ (etg 1, μ src k))
    obtain ⟨-, kB, hkB, cmB, hkkB⟩ := arr_known hcx (t := 1) (by omega) (μ dst (-2)).toNat (fun k => cv G ρ (etg 1, μ dst k))
    obtain ⟨vm', X', step⟩ := X.arraycopy hx hown (hts _ h1) (hts _ h2) (hts _ h3) (hts _ h4) (src := ρ src) (dst := ρ dst) (cs := arrV (gA G 1) (μ src (-2)).toNat (fun k => cv G ρ (etg 1, μ src k))) (cd := arrV (gA G 1) (μ dst (-2)).toNat (fun k => cv G ρ (etg 1, μ dst k))) (srcPos := Int32.ofInt sp) (destPos := Int32.ofInt dp) (n := Int32.ofInt n) (by rw [hT]; exact s6) (by rw [hT]; exact d6)
      (fun _ h => by cases h) (fun _ h => by cases h) (fun h => by cases h) (fun h => by cases h) hkA hkB hkkA hkkB (by simp [ety]) p2 t2 n2
      (by rw [p3, n3, arrV_size]; omega) (by rw [t3, n3, arrV_size]; omega)
      (fun vm₁ _ j hj => by
        rw [n1] at hj
        have e9 : (arrV (gA G 1) (μ src (-2)).toNat (fun k => cv G ρ (etg 1, μ src k))).slots.getD ((Int32.ofInt sp).toNatClampNeg + j) .null = .int (Int32.ofInt (μ src (((Int32.ofInt sp).toNatClampNeg + j : Nat) : Int))) := by
          rw [Array.getD_eq_getD_getElem?, arrV_read _ _ (by rw [p1]; omega)]
          rfl
        refine ⟨?_, ?_⟩
        · rw [e9]
          rfl
        · rw [e9]
          exact trivial)
      (g := F0 m pc ls (.int (Int32.ofInt n) :: .int (Int32.ofInt dp) :: .ref (ρ dst) :: .int (Int32.ofInt sp) :: .ref (ρ src) :: st.map (cv G ρ))) rfl (b1.1.trans hml.symm) (rest := st.map (cv G ρ)) rfl (by rw [hb]; exact hdg) (by omega) (by show 2 * 0 + _ + _ ≤ _; rw [hs]; omega)
    have e1 : copied (arrV (gA G 1) (μ src (-2)).toNat (fun k => cv G ρ (etg 1, μ src k))) (arrV (gA G 1) (μ dst (-2)).toNat (fun k => cv G ρ (etg 1, μ dst k))) (Int32.ofInt sp) (Int32.ofInt dp) (Int32.ofInt n) = arrV (gA G 1) (μ dst (-2)).toNat (fun k => cv G ρ (etg 1, mCpy μ src sp dst dp n dst k)) := by
      refine (va_copied (fun z : Int32 => Value.int z) (gA G 1) (gA G 1) (fun k => Int32.ofInt (μ src k)) (fun k => Int32.ofInt (μ dst k)) (show (Int32.ofInt sp).toNatClampNeg + (Int32.ofInt n).toNatClampNeg ≤ (μ src (-2)).toNat by rw [p1, n1]; omega)).trans (congrArg (arrV _ _) (funext fun k => ?_))
      show Value.int _ = .int (Int32.ofInt _)
      congr 1
      unfold va_cpy mCpy
      rw [p1, t1, n1]
      by_cases h8 : dp.toNat ≤ k ∧ k < dp.toNat + n.toNat
      · rw [if_pos h8, if_pos ⟨rfl, by omega, by omega⟩]
        have h7 : (((sp.toNat + (k - dp.toNat) : Nat)) : Int) = sp + ((k : Int) - dp) := by omega
        show Int32.ofInt (μ src (((sp.toNat + (k - dp.toNat) : Nat)) : Int)) = Int32.ofInt (μ src (sp + ((k : Int) - dp)))
        rw [h7]
      · rw [if_neg h8, if_neg (by omega)]
    rw [e1] at X' step
    have hl : ρ dst < H.size := (Array.getElem?_eq_some_iff.mp d6).1
    have hheap : ((T.setVm vm').setCell (ρ dst) (arrV (gA G 1) (μ dst (-2)).toNat (fun k => cv G ρ (etg 1, mCpy μ src sp dst dp n dst k)))).heap = H.setIfInBounds (ρ dst) (arrV (gA G 1) (μ dst (-2)).toNat (fun k => cv G ρ (etg 1, mCpy μ src sp dst dp n dst k))) := by rw [← hT]; rfl
    have oq : ∀ q : Nat, q ≠ ρ dst → (H.setIfInBounds (ρ dst) (arrV (gA G 1) (μ dst (-2)).toNat (fun k => cv G ρ (etg 1, mCpy μ src sp dst dp n dst k))))[q]? = H[q]? := fun q hq => by simp [Array.getElem?_setIfInBounds, Ne.symm hq]
    have hc : okC G ρ (mCpy μ src sp dst dp n) (H.setIfInBounds (ρ dst) (arrV (gA G 1) (μ dst (-2)).toNat (fun k => cv G ρ (etg 1, mCpy μ src sp dst dp n dst k)))) dst := by
      have l2 := hneg (-2) (by omega)
      refine Or.inr ⟨1, by omega, by rw [hneg (-1) (by omega), c4]; rfl, by rw [l2]; exact d4, by rw [l2]; exact d5, ?_, fun j hj => ?_⟩
      · rw [l2]
        simp [Array.getElem?_setIfInBounds, hl]
      · rw [l2] at hj
        rw [hbd]
        unfold mCpy
        by_cases h8 : dp ≤ (j : Int) ∧ (j : Int) < dp + n
        · rw [if_pos ⟨rfl, h8⟩]
          have := s7 (sp + ((j : Int) - dp)).toNat (by omega)
          rw [show (((sp + ((j : Int) - dp)).toNat : Nat) : Int) = sp + ((j : Int) - dp) by omega] at this
          exact this
        · rw [if_neg (fun q => h8 q.2)]
          exact d7 j hj
    obtain ⟨t, z1, z2⟩ := k2 O a1 a2 a3 a4 a5 ρ _ _ ls b1 b2 hst0 (b4.upd (Or.inl c1) d2 hν oq hc) ⟨by simp; exact b5.1, fun q g1 g2 => by
        rw [oq q (fun e => g2 (by rw [e]; exact d3 (Or.inl c1)))]
        exact b5.2.1 q g1 g2, fun q hq => by
        rcases List.mem_append.mp hq with h | h
        · exact b5.2.2 q h
        · obtain ⟨z, -, hz⟩ := List.mem_map.mp h
          rw [← hz]
          exact d3 (Or.inl c1)⟩ b6 _ hheap X'
    exact ⟨t, step t z1, z2⟩
  · rw [if_neg h0]
    exact V_none
theorem fits_b {z : Int} (h : -128 ≤ z ∧ z < 128) : fits .byte (.int (Int32.ofInt z)) = true := by
  show (decide ((-128 : Int32) ≤ Int32.ofInt z) && decide (Int32.ofInt z ≤ 127)) = true
  have e1 : (-128 : Int32) = Int32.ofInt (-128) := by decide
  have e2 : (127 : Int32) = Int32.ofInt 127 := by decide
  have hz : i32 z := by unfold i32; omega
  rw [e1, e2, decide_eq_true ((oi_le (by unfold i32; omega) hz).mpr h.1), decide_eq_true ((oi_le hz (by unfold i32; omega)).mpr (by omega))]
  rfl
theorem V_acopyB (hd : 1 ≤ kD κ) {i : Nat} {src sp dst dp n : Int} {K : Mem → Rz} (h1 : Cond.methodLink (kW κ) i arraycopyName ∈ lw_all) (h2 : Cond.native arraycopyName ∈ lw_all) (h3 : Cond.static arraycopyName ∈ lw_all) (h4 : Cond.initialized "java/lang/System" ∈ lw_all) (hw : (st.map fun q => catA q.1).sum + (nativeFrameWords "java/lang/System" "arraycopy" 5 + 11) ≤ 60) (hdg : decode (kC κ) pc = .ok (.invokestatic i, 3)) (k : ∀ ν, V Γ κ (pc + 3) lv st ν (K ν)) : V Γ κ pc lv ((0, n) :: (0, dp) :: (2, dst) :: (0, sp) :: (2, src) :: st) μ (ACK src sp dst dp n μ K) := by
  unfold ACK
  by_cases h0 : (0 < dst ∨ dst < -21) ∧ μ src (-1) = 20 ∧ μ dst (-1) = 20 ∧ 0 ≤ sp ∧ 0 ≤ dp ∧ 0 ≤ n ∧ (sp + n ≤ μ src (-2) ∧ dp + n ≤ μ dst (-2)) ∧ (List.range n.toNat).all (fun j => isB (μ src (sp + j))) = true
  · rw [if_pos h0]
    obtain ⟨c1, c3, c4, c5, c6, c7, ⟨c8, c9⟩, cE⟩ := h0
    have kk0 := k (mCpy μ src sp dst dp n)
    obtain ⟨p, l, e, R, s, m, args, below, meth, c, Q, G, ρ0, μ0⟩ := Γ
    intro x v μ' hr
    obtain ⟨k1, k2⟩ := kk0 x v μ' hr
    have hν : ∀ b j, b ≠ dst → mCpy μ src sp dst dp n b j = μ b j := fun b j hb => by
      unfold mCpy
      rw [if_neg (fun q => hb q.1)]
    have hneg : ∀ j, j < 0 → mCpy μ src sp dst dp n dst j = μ dst j := fun j hj => by
      unfold mCpy
      rw [if_neg (by omega)]
    have hbd : bd (mCpy μ src sp dst dp n) = bd μ := by
      unfold bd
      rw [hν 0 0 (by omega), hν 0 3 (by omega)]
    simp only [fun j => hν 0 j (by omega), hbd] at k1 k2
    refine ⟨k1, fun O a1 a2 a3 a4 a5 ρ H locs ls b1 b2 b3 b4 b5 b6 => ?_⟩
    obtain ⟨hx, hb, hml, hown, hts, hcx, hlk, htr, hfr, hlo, hrt, hin9, htab⟩ := id O
    have v0 : i32 n := ok_hd b3
    have v1 : i32 dp := ok_hd (ok_tl b3)
    have v2 : vok (bd μ) (2, dst) := ok_hd (ok_tl (ok_tl b3))
    have v3 : i32 sp := ok_hd (ok_tl (ok_tl (ok_tl b3)))
    have v4 : vok (bd μ) (2, src) := ok_hd (ok_tl (ok_tl (ok_tl (ok_tl b3))))
    have hst0 := ok_tl (ok_tl (ok_tl (ok_tl (ok_tl b3))))
    obtain ⟨s1, s2, s4, s5, ⟨cs, s6, w1, w2, w3, w4⟩, s7⟩ := b4.arrw (t := 0) v4 (by rw [c3]; rfl)
    have hsl : cs.slots = (arrV (gA G 0) (μ src (-2)).toNat (fun k => cv G ρ (etg 0, μ src k))).slots := by
      refine Array.ext_getElem? fun k => ?_
      by_cases hk9 : (k : Int) < μ src (-2)
      · rw [w4 k hk9, arrV_read _ _ (by omega)]
      · rw [Array.getElem?_eq_none (by omega), Array.getElem?_eq_none (by rw [arrV_size]; omega)]
    obtain ⟨d1, d2, d3, d4, d5, d6, d7⟩ := b4.arr (t := 0) (Or.inl c1) v2 (by rw [c4]; rfl)
    have en : ∀ z, i32 z → 0 ≤ z → (Int32.ofInt z).toNatClampNeg = z.toNat ∧ ¬ Int32.ofInt z < 0 ∧ (Int32.ofInt z).toInt = z := fun z hz h9 => by
      refine ⟨by show (Int32.ofInt z).toInt.toNat = _; rw [oi_to hz], ?_, oi_to hz⟩
      rw [← oi_0, oi_lt hz i32_0]
      omega
    obtain ⟨n1, n2, n3⟩ := en n v0 c7
    obtain ⟨p1, p2, p3⟩ := en sp v3 c5
    obtain ⟨t1, t2, t3⟩ := en dp v1 c6
    have hs : (st.map (cv G ρ)).map (fun v => v.category) = st.map fun q => catA q.1 := by
      rw [List.map_map]
      exact List.map_congr_left (fun q _ => cv_cat G ρ q)
    rw [List.map_cons, List.map_cons, List.map_cons, List.map_cons, List.map_cons, show cv G ρ (2, dst) = cvR ρ dst from rfl, show cv G ρ (2, src) = cvR ρ src from rfl, cvR_pos s1, cvR_pos d1]
    intro T hT X
    obtain ⟨-, kA, hkA, cmA, hkkA⟩ := arr_w hcx (t := 0) (by omega) w1 w2
    obtain ⟨-, kB, hkB, cmB, hkkB⟩ := arr_known hcx (t := 0) (by omega) (μ dst (-2)).toNat (fun k => cv G ρ (etg 0, μ dst k))
    obtain ⟨vm', X', step⟩ := X.arraycopy hx hown (hts _ h1) (hts _ h2) (hts _ h3) (hts _ h4) (src := ρ src) (dst := ρ dst) (cs := cs) (cd := arrV (gA G 0) (μ dst (-2)).toNat (fun k => cv G ρ (etg 0, μ dst k))) (srcPos := Int32.ofInt sp) (destPos := Int32.ofInt dp) (n := Int32.ofInt n) (by rw [hT]; exact s6) (by rw [hT]; exact d6)
      (fun _ h => by have h2 := w2.2; rw [h] at h2; simp [VmData.isStatics] at h2) (fun _ h => by cases h) w2.1 (fun h => by cases h) hkA hkB hkkA hkkB (by simp [ety]) p2 t2 n2
      (by rw [p3, n3, w3]; omega) (by rw [t3, n3, arrV_size]; omega)
      (fun vm₁ _ j hj => by
        rw [n1] at hj
        have e9 : cs.slots.getD ((Int32.ofInt sp).toNatClampNeg + j) .null = .int (Int32.ofInt (μ src (((Int32.ofInt sp).toNatClampNeg + j : Nat) : Int))) := by
          rw [Array.getD_eq_getD_getElem?, w4 _ (by rw [p1]; omega)]
          rfl
        refine ⟨?_, ?_⟩
        · rw [e9]
          have hel := List.all_eq_true.mp cE j (List.mem_range.mpr hj)
          unfold isB at hel
          have hel := of_decide_eq_true hel
          rw [show (((Int32.ofInt sp).toNatClampNeg + j : Nat) : Int) = sp + j by rw [p1]; omega]
          exact fits_b hel
        · rw [e9]
          exact trivial)
      (g := F0 m pc ls (.int (Int32.ofInt n) :: .int (Int32.ofInt dp) :: .ref (ρ dst) :: .int (Int32.ofInt sp) :: .ref (ρ src) :: st.map (cv G ρ))) rfl (b1.1.trans hml.symm) (rest := st.map (cv G ρ)) rfl (by rw [hb]; exact hdg) (by omega) (by show 2 * 0 + _ + _ ≤ _; rw [hs]; omega)
    have e1 : copied cs (arrV (gA G 0) (μ dst (-2)).toNat (fun k => cv G ρ (etg 0, μ dst k))) (Int32.ofInt sp) (Int32.ofInt dp) (Int32.ofInt n) = arrV (gA G 0) (μ dst (-2)).toNat (fun k => cv G ρ (etg 0, mCpy μ src sp dst dp n dst k)) := by
      have ecs : copied cs (arrV (gA G 0) (μ dst (-2)).toNat (fun k => cv G ρ (etg 0, μ dst k))) (Int32.ofInt sp) (Int32.ofInt dp) (Int32.ofInt n) = copied (arrV (gA G 0) (μ src (-2)).toNat (fun k => cv G ρ (etg 0, μ src k))) (arrV (gA G 0) (μ dst (-2)).toNat (fun k => cv G ρ (etg 0, μ dst k))) (Int32.ofInt sp) (Int32.ofInt dp) (Int32.ofInt n) := by
        unfold copied Cell.stretch
        rw [hsl]
      rw [ecs]
      refine (va_copied (fun z : Int32 => Value.int z) (gA G 0) (gA G 0) (fun k => Int32.ofInt (μ src k)) (fun k => Int32.ofInt (μ dst k)) (show (Int32.ofInt sp).toNatClampNeg + (Int32.ofInt n).toNatClampNeg ≤ (μ src (-2)).toNat by rw [p1, n1]; omega)).trans (congrArg (arrV _ _) (funext fun k => ?_))
      show Value.int _ = .int (Int32.ofInt _)
      congr 1
      unfold va_cpy mCpy
      rw [p1, t1, n1]
      by_cases h8 : dp.toNat ≤ k ∧ k < dp.toNat + n.toNat
      · rw [if_pos h8, if_pos ⟨rfl, by omega, by omega⟩]
        have h7 : (((sp.toNat + (k - dp.toNat) : Nat)) : Int) = sp + ((k : Int) - dp) := by omega
        show Int32.ofInt (μ src (((sp.toNat + (k - dp.toNat) : Nat)) : Int)) = Int32.ofInt (μ src (sp + ((k : Int) - dp)))
        rw [h7]
      · rw [if_neg h8, if_neg (by omega)]
    rw [e1] at X' step
    have hl : ρ dst < H.size := (Array.getElem?_eq_some_iff.mp d6).1
    have hheap : ((T.setVm vm').setCell (ρ dst) (arrV (gA G 0) (μ dst (-2)).toNat (fun k => cv G ρ (etg 0, mCpy μ src sp dst dp n dst k)))).heap = H.setIfInBounds (ρ dst) (arrV (gA G 0) (μ dst (-2)).toNat (fun k => cv G ρ (etg 0, mCpy μ src sp dst dp n dst k))) := by rw [← hT]; rfl
    have oq : ∀ q : Nat, q ≠ ρ dst → (H.setIfInBounds (ρ dst) (arrV (gA G 0) (μ dst (-2)).toNat (fun k => cv G ρ (etg 0, mCpy μ src sp dst dp n dst k))))[q]? = H[q]? := fun q hq => by simp [Array.getElem?_setIfInBounds, Ne.symm hq]
    have hc : okC G ρ (mCpy μ src sp dst dp n) (H.setIfInBounds (ρ dst) (arrV (gA G 0) (μ dst (-2)).toNat (fun k => cv G ρ (etg 0, mCpy μ src sp dst dp n dst k)))) dst := by
      have l2 := hneg (-2) (by omega)
      refine Or.inr ⟨0, by omega, by rw [hneg (-1) (by omega), c4]; rfl, by rw [l2]; exact d4, by rw [l2]; exact d5, ?_, fun j hj => ?_⟩
      · rw [l2]
        simp [Array.getElem?_setIfInBounds, hl]
      · rw [l2] at hj
        rw [hbd]
        unfold mCpy
        by_cases h8 : dp ≤ (j : Int) ∧ (j : Int) < dp + n
        · rw [if_pos ⟨rfl, h8⟩]
          have := s7 (sp + ((j : Int) - dp)).toNat (by omega)
          rw [show (((sp + ((j : Int) - dp)).toNat : Nat) : Int) = sp + ((j : Int) - dp) by omega] at this
          exact this
        · rw [if_neg (fun q => h8 q.2)]
          exact d7 j hj
    obtain ⟨t, z1, z2⟩ := k2 O a1 a2 a3 a4 a5 ρ _ _ ls b1 b2 hst0 (b4.upd c1 d2 hν oq hc) ⟨by simp; exact b5.1, fun q g1 g2 => by
        rw [oq q (fun e => g2 (by rw [e]; exact d3 c1))]
        exact b5.2.1 q g1 g2, fun q hq => by
        rcases List.mem_append.mp hq with h | h
        · exact b5.2.2 q h
        · obtain ⟨z, -, hz⟩ := List.mem_map.mp h
          rw [← hz]
          exact d3 c1⟩ b6 _ hheap X'
    exact ⟨t, step t z1, z2⟩
  · rw [if_neg h0]
    exact V_none
theorem V_acopyQ (hd : 1 ≤ kD κ) {i : Nat} {src sp dst dp n : Int} {K : Mem → Rz} (h1 : Cond.methodLink (kW κ) i arraycopyName ∈ lw_all) (h2 : Cond.native arraycopyName ∈ lw_all) (h3 : Cond.static arraycopyName ∈ lw_all) (h4 : Cond.initialized "java/lang/System" ∈ lw_all) (hw : (st.map fun q => catA q.1).sum + (nativeFrameWords "java/lang/System" "arraycopy" 5 + 11) ≤ 60) (hdg : decode (kC κ) pc = .ok (.invokestatic i, 3)) (k : ∀ ν, V Γ κ (pc + 3) lv st ν (K ν)) : V Γ κ pc lv ((0, n) :: (0, dp) :: (2, dst) :: (0, sp) :: (2, src) :: st) μ (ACQ src sp dst dp n μ K) := by
  unfold ACQ
  by_cases h0 : ((0 < dst ∨ dst < -21) ∧ (0 < src ∨ src < -21)) ∧ μ src (-1) = 22 ∧ μ dst (-1) = 22 ∧ (0 ≤ sp ∧ 0 ≤ dp ∧ 0 ≤ n ∧ sp + n ≤ μ src (-2) ∧ dp + n ≤ μ dst (-2)) ∧ (List.range n.toNat).all (fun j => isEl μ (μ src (sp + j))) = true
  · rw [if_pos h0]
    obtain ⟨⟨c1, csr⟩, c3, c4, ⟨c5, c6, c7, c8, c9⟩, cE⟩ := h0
    have kk0 := k (mCpy μ src sp dst dp n)
    obtain ⟨p, l, e, R, s, m, args, below, meth, c, Q, G, ρ0, μ0⟩ := Γ
    intro x v μ' hr
    obtain ⟨k1, k2⟩ := kk0 x v μ' hr
    have hν : ∀ b j, b ≠ dst → mCpy μ src sp dst dp n b j = μ b j := fun b j hb => by
      unfold mCpy
      rw [if_neg (fun q => hb q.1)]
    have hneg : ∀ j, j < 0 → mCpy μ src sp dst dp n dst j = μ dst j := fun j hj => by
      unfold mCpy
      rw [if_neg (by omega)]
    have hbd : bd (mCpy μ src sp dst dp n) = bd μ := by
      unfold bd
      rw [hν 0 0 (by omega), hν 0 3 (by omega)]
    simp only [fun j => hν 0 j (by omega), hbd] at k1 k2
    refine ⟨k1, fun O a1 a2 a3 a4 a5 ρ H locs ls b1 b2 b3 b4 b5 b6 => ?_⟩
    obtain ⟨hx, hb, hml, hown, hts, hcx, hlk, htr, hfr, hlo, hrt, hin9, htab⟩ := id O
    have v0 : i32 n := ok_hd b3
    have v1 : i32 dp := ok_hd (ok_tl b3)
    have v2 : vok (bd μ) (2, dst) := ok_hd (ok_tl (ok_tl b3))
    have v3 : i32 sp := ok_hd (ok_tl (ok_tl (ok_tl b3)))
    have v4 : vok (bd μ) (2, src) := ok_hd (ok_tl (ok_tl (ok_tl (ok_tl b3))))
    have hst0 := ok_tl (ok_tl (ok_tl (ok_tl (ok_tl b3))))
    obtain ⟨s1, s2, s3, s4, s5, s6, s7⟩ := b4.arr (t := 2) (Or.inl csr) v4 (by rw [c3]; rfl)
    obtain ⟨d1, d2, d3, d4, d5, d6, d7⟩ := b4.arr (t := 2) (Or.inl c1) v2 (by rw [c4]; rfl)
    have en : ∀ z, i32 z → 0 ≤ z → (Int32.ofInt z).toNatClampNeg = z.toNat ∧ ¬ Int32.ofInt z < 0 ∧ (Int32.ofInt z).toInt = z := fun z hz h9 => by
      refine ⟨by show (Int32.ofInt z).toInt.toNat = _; rw [oi_to hz], ?_, oi_to hz⟩
      rw [← oi_0, oi_lt hz i32_0]
      omega
    obtain ⟨n1, n2, n3⟩ := en n v0 c7
    obtain ⟨p1, p2, p3⟩ := en sp v3 c5
    obtain ⟨t1, t2, t3⟩ := en dp v1 c6
    have hs : (st.map (cv G ρ)).map (fun v => v.category) = st.map fun q => catA q.1 := by
      rw [List.map_map]
      exact List.map_congr_left (fun q _ => cv_cat G ρ q)
    rw [List.map_cons, List.map_cons, List.map_cons, List.map_cons, List.map_cons, show cv G ρ (2, dst) = cvR ρ dst from rfl, show cv G ρ (2, src) = cvR ρ src from rfl, cvR_pos s1, cvR_pos d1]
    intro T hT X
    obtain ⟨-, kA, hkA, cmA, hkkA⟩ := arr_known hcx (t := 2) (by omega) (μ src (-2)).toNat (fun k => cv G ρ (etg 2, μ src k))
    obtain ⟨-, kB, hkB, cmB, hkkB⟩ := arr_known hcx (t := 2) (by omega) (μ dst (-2)).toNat (fun k => cv G ρ (etg 2, μ dst k))
    obtain ⟨vm', X', step⟩ := X.arraycopy hx hown (hts _ h1) (hts _ h2) (hts _ h3) (hts _ h4) (src := ρ src) (dst := ρ dst) (cs := arrV (gA G 2) (μ src (-2)).toNat (fun k => cv G ρ (etg 2, μ src k))) (cd := arrV (gA G 2) (μ dst (-2)).toNat (fun k => cv G ρ (etg 2, μ dst k))) (srcPos := Int32.ofInt sp) (destPos := Int32.ofInt dp) (n := Int32.ofInt n) (by rw [hT]; exact s6) (by rw [hT]; exact d6)
      (fun _ h => by cases h) (fun _ h => by cases h) (fun h => by cases h) (fun h => by cases h) hkA hkB hkkA hkkB (by simp [ety]) p2 t2 n2
      (by rw [p3, n3, arrV_size]; omega) (by rw [t3, n3, arrV_size]; omega)
      (fun vm₁ hal j hj => by
        rw [n1] at hj
        have e9 : (arrV (gA G 2) (μ src (-2)).toNat (fun k => cv G ρ (etg 2, μ src k))).slots.getD ((Int32.ofInt sp).toNatClampNeg + j) .null = cvR ρ (μ src (sp + j)) := by
          rw [Array.getD_eq_getD_getElem?, arrV_read _ _ (by rw [p1]; omega), p1, show ((sp.toNat + j : Nat) : Int) = sp + j by omega]
          rfl
        rw [e9]
        have hel := List.all_eq_true.mp cE j (List.mem_range.mpr hj)
        unfold isEl at hel
        have hel := of_decide_eq_true hel
        have hv := s7 (sp + j).toNat (by omega)
        rw [show (((sp + j).toNat : Nat) : Int) = sp + j by omega] at hv
        generalize μ src (sp + j) = z at hel hv ⊢
        by_cases hz0 : z = 0
        · rw [show cvR ρ z = .null by unfold cvR; rw [if_pos hz0]]
          exact ⟨rfl, trivial⟩
        · obtain ⟨C, cC, cellV, q1, q2, q3, hfc, hca⟩ : ∃ (C : String) (cC : ClassId), ∃ cellV : Cell, H[ρ z]? = some cellV ∧ cellV.cls = cC ∧ cellV.vm = .none ∧ s.vm.findClass C = some cC ∧ va_Nw (.castable C "java/lang/Object") s := by
            rcases hel with hz | hz | hz
            · exact absurd hz hz0
            · obtain ⟨y1, y2, y3, ⟨cellV, q1, q2, q3, q4⟩, y5⟩ := b4.obj (ci := 7) (Or.inr (by omega)) hv (by omega) (by rw [hz]; rfl)
              exact ⟨_, _, cellV, q1, q2, q3, (hcx.1.1.1 7 _ (show vwC[7]? = some (RX7, TX7, 3) from rfl)).2.1, hcx.2.2.2.2.2.2.2.1 ("TonePlatesLaw$Place", "java/lang/Object") (by decide)⟩
            · obtain ⟨y1, y2, y3, ⟨cellV, q1, q2, q3, q4⟩, y5⟩ := b4.obj (ci := 8) (Or.inr (by omega)) hv (by omega) (by rw [hz]; rfl)
              exact ⟨_, _, cellV, q1, q2, q3, (hcx.1.1.1 8 _ (show vwC[8]? = some (RX8, TX8, 7) from rfl)).2.1, hcx.2.2.2.2.2.2.2.1 ("TonePlatesLaw$Screen", "java/lang/Object") (by decide)⟩
          subst q2
          rw [cvR_pos hz0]
          obtain ⟨kA9, comp9, r1, r2, r3, -⟩ := (hcx.1.1.2 2 _ (tysG_at G (by omega))).2
          cases hkB.symm.trans r1
          cases hkkB.symm.trans r2
          obtain ⟨kC, hkC, -⟩ := Vm.findClass_spec hfc
          obtain ⟨kE, hkE, -⟩ := Vm.findClass_spec r3
          obtain ⟨kC', hkC', -⟩ := hal.2.2 _ _ hkC
          obtain ⟨kE', hkE', -⟩ := hal.2.2 _ _ hkE
          refine ⟨rfl, cellV, (show T.heap[ρ z]? = some cellV by rw [hT]; exact q1), (fun q h => by rw [q3] at h; cases h), ⟨kC', hkC'⟩, ?_, ?_⟩
          · exact ⟨kE', hkE'⟩
          · show vm₁.assignable _ _ = true
            rw [hal.assignable]
            exact vb_asgC hca _ _ r3 hfc)
      (g := F0 m pc ls (.int (Int32.ofInt n) :: .int (Int32.ofInt dp) :: .ref (ρ dst) :: .int (Int32.ofInt sp) :: .ref (ρ src) :: st.map (cv G ρ))) rfl (b1.1.trans hml.symm) (rest := st.map (cv G ρ)) rfl (by rw [hb]; exact hdg) (by omega) (by show 2 * 0 + _ + _ ≤ _; rw [hs]; omega)
    have e1 : copied (arrV (gA G 2) (μ src (-2)).toNat (fun k => cv G ρ (etg 2, μ src k))) (arrV (gA G 2) (μ dst (-2)).toNat (fun k => cv G ρ (etg 2, μ dst k))) (Int32.ofInt sp) (Int32.ofInt dp) (Int32.ofInt n) = arrV (gA G 2) (μ dst (-2)).toNat (fun k => cv G ρ (etg 2, mCpy μ src sp dst dp n dst k)) := by
      refine (va_copied (fun z : Int => cvR ρ z) (gA G 2) (gA G 2) (fun k => μ src k) (fun k => μ dst k) (show (Int32.ofInt sp).toNatClampNeg + (Int32.ofInt n).toNatClampNeg ≤ (μ src (-2)).toNat by rw [p1, n1]; omega)).trans (congrArg (arrV _ _) (funext fun k => ?_))
      show cvR ρ _ = cvR ρ _
      congr 1
      unfold va_cpy mCpy
      rw [p1, t1, n1]
      by_cases h8 : dp.toNat ≤ k ∧ k < dp.toNat + n.toNat
      · rw [if_pos h8, if_pos ⟨rfl, by omega, by omega⟩]
        have h7 : (((sp.toNat + (k - dp.toNat) : Nat)) : Int) = sp + ((k : Int) - dp) := by omega
        show μ src (((sp.toNat + (k - dp.toNat) : Nat)) : Int) = μ src (sp + ((k : Int) - dp))
        rw [h7]
      · rw [if_neg h8, if_neg (by omega)]
    rw [e1] at X' step
    have hl : ρ dst < H.size := (Array.getElem?_eq_some_iff.mp d6).1
    have hheap : ((T.setVm vm').setCell (ρ dst) (arrV (gA G 2) (μ dst (-2)).toNat (fun k => cv G ρ (etg 2, mCpy μ src sp dst dp n dst k)))).heap = H.setIfInBounds (ρ dst) (arrV (gA G 2) (μ dst (-2)).toNat (fun k => cv G ρ (etg 2, mCpy μ src sp dst dp n dst k))) := by rw [← hT]; rfl
    have oq : ∀ q : Nat, q ≠ ρ dst → (H.setIfInBounds (ρ dst) (arrV (gA G 2) (μ dst (-2)).toNat (fun k => cv G ρ (etg 2, mCpy μ src sp dst dp n dst k))))[q]? = H[q]? := fun q hq => by simp [Array.getElem?_setIfInBounds, Ne.symm hq]
    have hc : okC G ρ (mCpy μ src sp dst dp n) (H.setIfInBounds (ρ dst) (arrV (gA G 2) (μ dst (-2)).toNat (fun k => cv G ρ (etg 2, mCpy μ src sp dst dp n dst k)))) dst := by
      have l2 := hneg (-2) (by omega)
      refine Or.inr ⟨2, by omega, by rw [hneg (-1) (by omega), c4]; rfl, by rw [l2]; exact d4, by rw [l2]; exact d5, ?_, fun j hj => ?_⟩
      · rw [l2]
        simp [Array.getElem?_setIfInBounds, hl]
      · rw [l2] at hj
        rw [hbd]
        unfold mCpy
        by_cases h8 : dp ≤ (j : Int) ∧ (j : Int) < dp + n
        · rw [if_pos ⟨rfl, h8⟩]
          have := s7 (sp + ((j : Int) - dp)).toNat (by omega)
          rw [show (((sp + ((j : Int) - dp)).toNat : Nat) : Int) = sp + ((j : Int) - dp) by omega] at this
          exact this
        · rw [if_neg (fun q => h8 q.2)]
          exact d7 j hj
    obtain ⟨t, z1, z2⟩ := k2 O a1 a2 a3 a4 a5 ρ _ _ ls b1 b2 hst0 (b4.upd c1 d2 hν oq hc) ⟨by simp; exact b5.1, fun q g1 g2 => by
        rw [oq q (fun e => g2 (by rw [e]; exact d3 c1))]
        exact b5.2.1 q g1 g2, fun q hq => by
        rcases List.mem_append.mp hq with h | h
        · exact b5.2.2 q h
        · obtain ⟨z, -, hz⟩ := List.mem_map.mp h
          rw [← hz]
          exact d3 c1⟩ b6 _ hheap X'
    exact ⟨t, step t z1, z2⟩
  · rw [if_neg h0]
    exact V_none
end VMORE
