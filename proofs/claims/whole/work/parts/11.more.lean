/-! rows of V: more -/
/-- one cell changes, at rows of its own -/
theorem GP.upd {G : Gc} {ρ : Int → Nat} {μ ν : Mem} {H H1 : Heap} (h : GP G ρ μ H) {a : Int} (ha : 0 < a) (han : a < μ 0 0) (hν : ∀ b k, b ≠ a → ν b k = μ b k) (hq : ∀ q : Nat, q ≠ ρ a → H1[q]? = H[q]?) (hc : okC G ρ ν H1 a) : GP G ρ ν H1 := by
  have e0 : ∀ k, ν 0 k = μ 0 k := fun k => hν 0 k (by omega)
  refine ⟨by rw [e0]; exact h.1, by rw [e0]; exact h.2.1, fun b hb hbn => ?_, fun b c hb hbn hc hcn => ?_⟩
  · rw [e0] at hbn
    refine ⟨(h.2.2.1 b hb hbn).1, ?_⟩
    by_cases hba : b = a
    · rw [hba]; exact hc
    · have hne : ρ b ≠ ρ a := fun e => hba (h.2.2.2 b a hb hbn ha han e)
      exact (((h.2.2.1 b hb hbn).2).kept (hq (ρ b) hne)).ext rfl Ext.rf (fun k => hν b k hba) (by rw [e0]; exact Int.le_refl _)
  · rw [e0] at hbn hcn
    exact h.2.2.2 b c hb hbn hc hcn
def rhoM (ρ : Int → Nat) (n : Int) (h : Nat) : Int → Nat := fun a => if n ≤ a then h + (a - n).toNat else ρ a
def negZ : Int := -9223372036854775808
theorem negZ_ok {n : Int} : vok n (1, negZ) := show i64 negZ by unfold i64 negZ; omega
theorem arrV_new9 (c : ClassId) (N : Nat) (v : Value) : Jvm.Free.Multi.innerC c N v = arrV c N (fun _ => v) := by
  unfold Jvm.Free.Multi.innerC arrV
  congr 1
  refine Array.ext (by simp) (fun j h7 h8 => by simp)
theorem vr_outer9 (c : ClassId) (N h0 : Nat) : ∀ i : Nat, Jvm.Free.Multi.outerC c N h0 i = arrV c N (fun j => if j < i then .ref (h0 + 1 + j) else .null)
  | 0 => by
    show ({ cls := c, slots := Array.replicate N .null, vm := .none } : Cell) = _
    rw [arrV_new]
    refine congrArg (arrV c N) (funext fun j => ?_)
    simp
  | i + 1 => by
    show (Jvm.Free.Multi.outerC c N h0 i).setSlot i (.ref (h0 + 1 + i)) = _
    rw [vr_outer9 c N h0 i, arrV_store]
    refine congrArg (arrV c N) (funext fun j => ?_)
    by_cases e : j = i
    · subst e
      simp [updV]
    · by_cases h : j < i
      · simp [updV, e, h, Nat.lt_succ_of_lt h]
      · simp [updV, e, h, show ¬ j < i + 1 by omega]
section VMORE
variable {Γ : Gam} {κ : Kap} {pc : Nat} {lv : List (Nat × AV)} {st : List AV} {μ : Mem} {r : Rz}
theorem V_NU (k : 0 < μ 0 0 → V Γ κ pc lv st μ r) : V Γ κ pc lv st μ (NU μ r) := by
  unfold NU
  by_cases h : 0 < μ 0 0
  · rw [if_pos h]; exact k h
  · rw [if_neg h]; exact V_none
theorem V_ldcs {i : Nat} {tx : String} {w : Nat} (hw : (kW κ, i, tx, w) ∈ wrds) (hdg : decode (kC κ) pc = .ok (.ldc i, 2)) (h13 : w < 13) (k : V Γ κ (pc + 2) lv ((5, (w : Int)) :: st) μ r) : V Γ κ pc lv st μ r := by
  refine V_pure (pc' := pc + 2) (lv' := lv) (st' := (5, (w : Int)) :: st) ?_ (fun b _ => b) (fun _ b3 => ok_cons (show 0 ≤ (w : Int) ∧ (w : Int) < nStr by unfold nStr; omega) b3) k
  obtain ⟨p, l, e, R, s, m, args, below, meth, c, Q, G, ρ0, μ0⟩ := Γ
  intro O
  obtain ⟨hx, hb, hml, hown, hts, hcx, hlk, htr, hfr, hlo, hrt, hin9, htab⟩ := O
  intro ρ H locs ls ce sl Q' b1 b2 b3 b5 kk
  have h := hcx.2.2.2.2.1 _ hw
  exact va_ldcS (q := gK G w) hx hb hown h hdg (kk ls b1)
theorem V_getCompact {i : Nat} (hlink : Cond.fieldLink (kW κ) i "java/lang/String" "COMPACT_STRINGS" "Z" ∈ lw_all) (hdg : decode (kC κ) pc = .ok (.getstatic i, 3)) (k : V Γ κ (pc + 3) lv ((0, 1) :: st) μ r) : V Γ κ pc lv st μ r := by
  refine V_pure (pc' := pc + 3) (lv' := lv) (st' := (0, 1) :: st) ?_ (fun b _ => b) (fun _ b3 => ok_cons (show i32 1 by unfold i32; omega) b3) k
  obtain ⟨p, l, e, R, s, m, args, below, meth, c, Q, G, ρ0, μ0⟩ := Γ
  intro O
  obtain ⟨hx, hb, hml, hown, hts, hcx, hlk, htr, hfr, hlo, hrt, hin9, htab⟩ := O
  intro ρ H locs ls ce sl Q' b1 b2 b3 b5 kk
  exact va_gets hx hb hcx.2.2.1.1 b5 hown (hts _ hlink) (fun _ h => h) hdg (kk ls b1)
theorem V_getFormatter {i : Nat} (hlink : Cond.fieldLink (kW κ) i "jdk/internal/util/Preconditions" "SIOOBE_FORMATTER" "Ljava/util/function/BiFunction;" ∈ lw_all) (hdg : decode (kC κ) pc = .ok (.getstatic i, 3)) (k : V Γ κ (pc + 3) lv ((6, 0) :: st) μ r) : V Γ κ pc lv st μ r := by
  refine V_pure (pc' := pc + 3) (lv' := lv) (st' := (6, 0) :: st) ?_ (fun b _ => b) (fun _ b3 => ok_cons trivial b3) k
  obtain ⟨p, l, e, R, s, m, args, below, meth, c, Q, G, ρ0, μ0⟩ := Γ
  intro O
  obtain ⟨hx, hb, hml, hown, hts, hcx, hlk, htr, hfr, hlo, hrt, hin9, htab⟩ := O
  intro ρ H locs ls ce sl Q' b1 b2 b3 b5 kk
  exact va_gets hx hb hcx.2.2.1.2.1 b5 hown (hts _ hlink) (fun _ h => h) hdg (kk ls b1)
theorem V_getNegZero {i : Nat} (hlink : Cond.fieldLink (kW κ) i "java/lang/Math" "negativeZeroDoubleBits" "J" ∈ lw_all) (hdg : decode (kC κ) pc = .ok (.getstatic i, 3)) (k : V Γ κ (pc + 3) lv ((1, negZ) :: st) μ r) : V Γ κ pc lv st μ r := by
  refine V_pure (pc' := pc + 3) (lv' := lv) (st' := (1, negZ) :: st) ?_ (fun b _ => b) (fun _ b3 => ok_cons negZ_ok b3) k
  obtain ⟨p, l, e, R, s, m, args, below, meth, c, Q, G, ρ0, μ0⟩ := Γ
  intro O
  obtain ⟨hx, hb, hml, hown, hts, hcx, hlk, htr, hfr, hlo, hrt, hin9, htab⟩ := O
  intro ρ H locs ls ce sl Q' b1 b2 b3 b5 kk
  exact va_gets hx hb hcx.2.2.1.2.2 b5 hown (hts _ hlink) (fun _ h => h) hdg (kk ls b1)
def dRaw (a : Int) : Int := (dBits a).toInt64.toInt
theorem V_d2l (hd : 1 ≤ kD κ) {i : Nat} {a : Int} (h1 : Cond.methodLink (kW κ) i ⟨"java/lang/Double", "doubleToRawLongBits", "(D)J"⟩ ∈ lw_all) (h2 : Cond.native ⟨"java/lang/Double", "doubleToRawLongBits", "(D)J"⟩ ∈ lw_all) (h3 : Cond.static ⟨"java/lang/Double", "doubleToRawLongBits", "(D)J"⟩ ∈ lw_all) (h4 : Cond.initialized "java/lang/Double" ∈ lw_all) (hw : (st.map fun q => catA q.1).sum ≤ 8) (hdg : decode (kC κ) pc = .ok (.invokestatic i, 3)) (k : V Γ κ (pc + 3) lv ((1, dRaw a) :: st) μ r) : V Γ κ pc lv ((4, a) :: st) μ r := by
  refine V_pure (pc' := pc + 3) (lv' := lv) (st' := (1, dRaw a) :: st) ?_ (fun b _ => b) (fun _ b3 => ok_cons (i64_to _) (ok_tl b3)) k
  obtain ⟨p, l, e, R, s, m, args, below, meth, c, Q, G, ρ0, μ0⟩ := Γ
  intro O
  obtain ⟨hx, hb, hml, hown, hts, hcx, hlk, htr, hfr, hlo, hrt, hin9, htab⟩ := O
  intro ρ H locs ls ce sl Q' b1 b2 b3 b5 kk
  have h9 := kk ls b1
  rw [List.map_cons, show cv G ρ (1, dRaw a) = .long (Int64.ofInt (dRaw a)) from rfl, dRaw, lo_of] at h9
  have hs : (st.map (cv G ρ)).map (fun v => v.category) = st.map fun q => catA q.1 := by
    rw [List.map_map]
    exact List.map_congr_left (fun q _ => cv_cat G ρ q)
  exact vn_d2l hx hb (hml.trans b1.1.symm) hown (hts _ h1) (hts _ h2) (hts _ h3) (hts _ h4) (by omega) (by rw [hs]; omega) hdg h9
theorem V_objInit (hd : 1 ≤ kD κ) {i : Nat} {a : Int} (h1 : Cond.methodLink (kW κ) i Lib.objectInit ∈ lw_all) (h2 : Cond.instanceMethod Lib.objectInit ∈ lw_all) (h3 : Cond.code Lib.objectInit ⟨#[0xb1]⟩ 1 none ∈ lw_all) (hw : (st.map fun q => catA q.1).sum ≤ 8) (hdg : decode (kC κ) pc = .ok (.invokespecial i, 3)) {ci : Int} (k : V Γ κ (pc + 3) lv st μ r) : V Γ κ pc lv ((2, a) :: st) μ (if 0 < a then r else none) := by
  by_cases h0 : 0 < a
  · rw [if_pos h0]
    refine V_pure (pc' := pc + 3) (lv' := lv) (st' := st) ?_ (fun b _ => b) (fun _ b3 => ok_tl b3) k
    obtain ⟨p, l, e, R, s, m, args, below, meth, c, Q, G, ρ0, μ0⟩ := Γ
    intro O
    obtain ⟨hx, hb, hml, hown, hts, hcx, hlk, htr, hfr, hlo, hrt, hin9, htab⟩ := O
    intro ρ H locs ls ce sl Q' b1 b2 b3 b5 kk
    have h9 := kk ls b1
    have hs : (st.map (cv G ρ)).map (fun v => v.category) = st.map fun q => catA q.1 := by
      rw [List.map_map]
      exact List.map_congr_left (fun q _ => cv_cat G ρ q)
    rw [List.map_cons, show cv G ρ (2, a) = cvR ρ a from rfl, cvR_pos h0]
    refine W.objInit hx hb hown (hts _ h1) (hts _ h2) (hts _ h3) rfl (b1.1.trans hml.symm) rfl hdg (by omega) ?_ h9
    show 2 * 0 + _ + 12 ≤ _
    rw [hs]
    omega
  · rw [if_neg h0]
    exact V_none
theorem V_aastore (t ci : Nat) (h8 : t < 8) (hc8 : ci < 8) (he : etg t = 2) {C : String} {T : u_T} {N : Nat} (hC : ety t = .object C) (hcl : vwCl[ci]? = some (C, T, N)) {a i z : Int} {K : Mem → Rz} (hdg : decode (kC κ) pc = .ok (.aastore, 1)) (k : ∀ ν, V Γ κ (pc + 1) lv st ν (K ν)) : V Γ κ pc lv ((2, z) :: (0, i) :: (2, a) :: st) μ (ASR t ci a i z μ K) := by
  unfold ASR
  by_cases h0 : 0 < a ∧ μ a (-1) = (t : Int) + 20 ∧ 0 ≤ i ∧ i < μ a (-2) ∧ μ z (-1) = (ci : Int) + 1
  · rw [if_pos h0]
    refine V_write h0.1 ?_ (fun b3 => ok_tl (ok_tl (ok_tl b3))) (k (mUp μ a i z))
    obtain ⟨p, l, e, R, s, m, args, below, meth, c, Q, G, ρ0, μ0⟩ := Γ
    intro O
    obtain ⟨hx, hb, hml, hown, hts, hcx, hlk, htr, hfr, hlo, hrt, hin9, htab⟩ := O
    intro ρ H locs ls ce sl Q' b3 b4 b5 kk
    obtain ⟨g1, g2, g3, g4⟩ := b4.arr (t := t) (ok_hd (ok_tl (ok_tl b3))) h0.2.1
    obtain ⟨y1, y2, y3, ⟨cellV, q1, q2, q3, q4⟩, y5⟩ := b4.obj (ok_hd b3) hc8 h0.2.2.2.2
    obtain ⟨x1, x2⟩ := ix_ok (ok_hd (ok_tl b3)) h0.2.2.1 h0.2.2.2.1
    have hcls := (hcx.1.1.1 ci _ hcl).2
    have h4 : va_RA s (gA G t) (ety t) := (hcx.1.1.2 t _ (tysG_at G h8)).2
    rw [hC] at h4
    obtain ⟨kA, comp, k1, k2, k3, -⟩ := h4
    have hcomp : comp = (gD G).1 ci := Option.some.inj (k3.symm.trans hcls.1)
    subst hcomp
    obtain ⟨kC, hkC, -⟩ := hcls.2
    rw [List.map_cons, List.map_cons, List.map_cons, show cv G ρ (2, a) = cvR ρ a from rfl, show cv G ρ (2, z) = cvR ρ z from rfl, cvR_pos g1, cvR_pos y1]
    refine W.aast (j := Int32.ofInt i) hx hb g4.2.2.1 (fun q h => by cases h) (fun h => by cases h) k1 k2 rfl hkC ⟨fun h => x1 (Or.inl h), by rw [arrV_size, x2]; omega⟩ q1 (fun q h => by rw [q3] at h; cases h) (by rw [q2]; exact hkC) (by rw [q2]; exact va_assign hcls) rfl rfl hdg fun H' e1 e2 e3 => ?_
    rw [x2] at e1
    exact kk H' _ (b4.put g1 g2 h0.2.2.1 e3 (Or.inr ⟨t, h8, by rw [mUp_ne _ _ (by omega)]; exact h0.2.1, isA_put g4 g1 h0.2.2.1 h0.2.2.2.1 (by rw [he]; exact (cvR_pos y1).symm) (by rw [he]; exact ok_hd b3) e1⟩)) (va_S.put (A := fun q => gB G ≤ q) b5 e2 e3 g3)
  · rw [if_neg h0]
    exact V_none
theorem V_acopy (hd : 1 ≤ kD κ) {i : Nat} {src sp dst dp n : Int} {K : Mem → Rz} (h1 : Cond.methodLink (kW κ) i arraycopyName ∈ lw_all) (h2 : Cond.native arraycopyName ∈ lw_all) (h3 : Cond.static arraycopyName ∈ lw_all) (h4 : Cond.initialized "java/lang/System" ∈ lw_all) (hw : (st.map fun q => catA q.1).sum + (nativeFrameWords "java/lang/System" "arraycopy" 5 + 11) ≤ 60) (hdg : decode (kC κ) pc = .ok (.invokestatic i, 3)) (k : ∀ ν, V Γ κ (pc + 3) lv st ν (K ν)) : V Γ κ pc lv ((0, n) :: (0, dp) :: (2, dst) :: (0, sp) :: (2, src) :: st) μ (ACP src sp dst dp n μ K) := by
  unfold ACP
  by_cases h0 : 0 < dst ∧ src ≠ dst ∧ μ src (-1) = 21 ∧ μ dst (-1) = 21 ∧ 0 ≤ sp ∧ 0 ≤ dp ∧ 0 ≤ n ∧ sp + n ≤ μ src (-2) ∧ dp + n ≤ μ dst (-2)
  · rw [if_pos h0]
    obtain ⟨c1, c2, c3, c4, c5, c6, c7, c8, c9⟩ := h0
    have kk0 := k (mCpy μ src sp dst dp n)
    obtain ⟨p, l, e, R, s, m, args, below, meth, c, Q, G, ρ0, μ0⟩ := Γ
    intro x v μ' hr
    obtain ⟨k1, k2⟩ := kk0 x v μ' hr
    have hν : ∀ b j, b ≠ dst → mCpy μ src sp dst dp n b j = μ b j := fun b j hb => by
      unfold mCpy
      rw [if_neg (fun q => hb q.1)]
    have hneg : ∀ j, j < 0 → mCpy μ src sp dst dp n dst j = μ dst j := fun j hj => by
      unfold mCpy
      rw [if_neg (by omega)]
    simp only [fun j => hν 0 j (by omega)] at k1 k2
    refine ⟨k1, fun O a1 a2 a3 a4 a5 ρ H locs ls b1 b2 b3 b4 b5 b6 => ?_⟩
    obtain ⟨hx, hb, hml, hown, hts, hcx, hlk, htr, hfr, hlo, hrt, hin9, htab⟩ := id O
    have v0 : i32 n := ok_hd b3
    have v1 : i32 dp := ok_hd (ok_tl b3)
    have v2 : vok (μ 0 0) (2, dst) := ok_hd (ok_tl (ok_tl b3))
    have v3 : i32 sp := ok_hd (ok_tl (ok_tl (ok_tl b3)))
    have v4 : vok (μ 0 0) (2, src) := ok_hd (ok_tl (ok_tl (ok_tl (ok_tl b3))))
    have hst0 := ok_tl (ok_tl (ok_tl (ok_tl (ok_tl b3))))
    obtain ⟨s1, s2, s3, s4, s5, s6, s7⟩ := b4.arr (t := 1) v4 (by rw [c3]; rfl)
    obtain ⟨d1, d2, d3, d4, d5, d6, d7⟩ := b4.arr (t := 1) v2 (by rw [c4]; rfl)
    have en : ∀ z, i32 z → 0 ≤ z → (Int32.ofInt z).toNatClampNeg = z.toNat ∧ ¬ Int32.ofInt z < 0 ∧ (Int32.ofInt z).toInt = z := fun z hz h9 => by
      refine ⟨by show (Int32.ofInt z).toInt.toNat = _; rw [oi_to hz], ?_, oi_to hz⟩
      rw [← oi_0, oi_lt hz i32_0]
      omega
    obtain ⟨n1, n2, n3⟩ := en n v0 c7
    obtain ⟨p1, p2, p3⟩ := en sp v3 c5
    obtain ⟨t1, t2, t3⟩ := en dp v1 c6
    have hs : (st.map (cv G ρ)).map (fun v => v.category) = st.map fun q => catA q.1 := by
      rw [List.map_map]
      exact List.map_congr_left (fun q _ => cv_cat G ρ q)
    rw [List.map_cons, List.map_cons, List.map_cons, List.map_cons, List.map_cons, show cv G ρ (2, dst) = cvR ρ dst from rfl, show cv G ρ (2, src) = cvR ρ src from rfl, cvR_pos s1, cvR_pos d1]
    intro T hT X
    obtain ⟨-, kA, hkA, cmA, hkkA⟩ := arr_known hcx (t := 1) (by omega) (μ src (-2)).toNat (fun k => cv G ρ (etg 1, μ src k))
    obtain ⟨-, kB, hkB, cmB, hkkB⟩ := arr_known hcx (t := 1) (by omega) (μ dst (-2)).toNat (fun k => cv G ρ (etg 1, μ dst k))
    obtain ⟨vm', X', step⟩ := X.arraycopy hx hown (hts _ h1) (hts _ h2) (hts _ h3) (hts _ h4) (src := ρ src) (dst := ρ dst) (cs := arrV (gA G 1) (μ src (-2)).toNat (fun k => cv G ρ (etg 1, μ src k))) (cd := arrV (gA G 1) (μ dst (-2)).toNat (fun k => cv G ρ (etg 1, μ dst k))) (srcPos := Int32.ofInt sp) (destPos := Int32.ofInt dp) (n := Int32.ofInt n) (by rw [hT]; exact s6) (by rw [hT]; exact d6)
      (fun _ h => by cases h) (fun _ h => by cases h) (fun h => by cases h) (fun h => by cases h) hkA hkB hkkA hkkB (by simp [ety]) p2 t2 n2
      (by rw [p3, n3, arrV_size]; omega) (by rw [t3, n3, arrV_size]; omega)
      (fun vm₁ _ j hj => by
        rw [n1] at hj
        have e9 : (arrV (gA G 1) (μ src (-2)).toNat (fun k => cv G ρ (etg 1, μ src k))).slots.getD ((Int32.ofInt sp).toNatClampNeg + j) .null = .int (Int32.ofInt (μ src (((Int32.ofInt sp).toNatClampNeg + j : Nat) : Int))) := by
          rw [Array.getD_eq_getD_getElem?, arrV_read _ _ (by rw [p1]; omega)]
          rfl
        refine ⟨?_, ?_⟩
        · rw [e9]
          rfl
        · rw [e9]
          exact trivial)
      (g := F0 m pc ls (.int (Int32.ofInt n) :: .int (Int32.ofInt dp) :: .ref (ρ dst) :: .int (Int32.ofInt sp) :: .ref (ρ src) :: st.map (cv G ρ))) rfl (b1.1.trans hml.symm) (rest := st.map (cv G ρ)) rfl (by rw [hb]; exact hdg) (by omega) (by show 2 * 0 + _ + _ ≤ _; rw [hs]; omega)
    have e1 : copied (arrV (gA G 1) (μ src (-2)).toNat (fun k => cv G ρ (etg 1, μ src k))) (arrV (gA G 1) (μ dst (-2)).toNat (fun k => cv G ρ (etg 1, μ dst k))) (Int32.ofInt sp) (Int32.ofInt dp) (Int32.ofInt n) = arrV (gA G 1) (μ dst (-2)).toNat (fun k => cv G ρ (etg 1, mCpy μ src sp dst dp n dst k)) := by
      refine (va_copied (fun z : Int32 => Value.int z) (gA G 1) (gA G 1) (fun k => Int32.ofInt (μ src k)) (fun k => Int32.ofInt (μ dst k)) (show (Int32.ofInt sp).toNatClampNeg + (Int32.ofInt n).toNatClampNeg ≤ (μ src (-2)).toNat by rw [p1, n1]; omega)).trans (congrArg (arrV _ _) (funext fun k => ?_))
      show Value.int _ = .int (Int32.ofInt _)
      congr 1
      unfold va_cpy mCpy
      rw [p1, t1, n1]
      by_cases h8 : dp.toNat ≤ k ∧ k < dp.toNat + n.toNat
      · rw [if_pos h8, if_pos ⟨rfl, by omega, by omega⟩]
        have h7 : (((sp.toNat + (k - dp.toNat) : Nat)) : Int) = sp + ((k : Int) - dp) := by omega
        show Int32.ofInt (μ src (((sp.toNat + (k - dp.toNat) : Nat)) : Int)) = Int32.ofInt (μ src (sp + ((k : Int) - dp)))
        rw [h7]
      · rw [if_neg h8, if_neg (by omega)]
    rw [e1] at X' step
    have hl : ρ dst < H.size := (Array.getElem?_eq_some_iff.mp d6).1
    have hheap : ((T.setVm vm').setCell (ρ dst) (arrV (gA G 1) (μ dst (-2)).toNat (fun k => cv G ρ (etg 1, mCpy μ src sp dst dp n dst k)))).heap = H.setIfInBounds (ρ dst) (arrV (gA G 1) (μ dst (-2)).toNat (fun k => cv G ρ (etg 1, mCpy μ src sp dst dp n dst k))) := by rw [← hT]; rfl
    have oq : ∀ q : Nat, q ≠ ρ dst → (H.setIfInBounds (ρ dst) (arrV (gA G 1) (μ dst (-2)).toNat (fun k => cv G ρ (etg 1, mCpy μ src sp dst dp n dst k))))[q]? = H[q]? := fun q hq => by simp [Array.getElem?_setIfInBounds, Ne.symm hq]
    have hc : okC G ρ (mCpy μ src sp dst dp n) (H.setIfInBounds (ρ dst) (arrV (gA G 1) (μ dst (-2)).toNat (fun k => cv G ρ (etg 1, mCpy μ src sp dst dp n dst k)))) dst := by
      have l2 := hneg (-2) (by omega)
      refine Or.inr ⟨1, by omega, by rw [hneg (-1) (by omega), c4]; rfl, by rw [l2]; exact d4, by rw [l2]; exact d5, ?_, fun j hj => ?_⟩
      · rw [l2]
        simp [Array.getElem?_setIfInBounds, hl]
      · rw [l2] at hj
        rw [hν 0 0 (by omega)]
        unfold mCpy
        by_cases h8 : dp ≤ (j : Int) ∧ (j : Int) < dp + n
        · rw [if_pos ⟨rfl, h8⟩]
          have := s7 (sp + ((j : Int) - dp)).toNat (by omega)
          rw [show (((sp + ((j : Int) - dp)).toNat : Nat) : Int) = sp + ((j : Int) - dp) by omega] at this
          exact this
        · rw [if_neg (fun q => h8 q.2)]
          exact d7 j hj
    obtain ⟨t, z1, z2⟩ := k2 O a1 a2 a3 a4 a5 ρ _ _ ls b1 b2 hst0 (b4.upd d1 d2 hν oq hc) ⟨by simp; exact b5.1, fun q g1 g2 => by
        rw [oq q (fun e => g2 (by rw [e]; exact d3))]
        exact b5.2.1 q g1 g2, fun q hq => by
        rcases List.mem_append.mp hq with h | h
        · exact b5.2.2 q h
        · obtain ⟨z, -, hz⟩ := List.mem_map.mp h
          rw [← hz]
          exact d3⟩ b6 _ hheap X'
    exact ⟨t, step t z1, z2⟩
  · rw [if_neg h0]
    exact V_none
theorem V_multi {i : Nat} {n k : Int} {K : Int → Mem → Rz} (h1 : Cond.classLink (kW κ) i "[[I" ∈ lw_all) (h2 : Cond.arrayClass .int ∈ lw_all) (hdg : decode (kC κ) pc = .ok (.multianewarray i 2, 4)) (kk : ∀ z ν, V Γ κ (pc + 4) lv ((2, z) :: st) ν (K z ν)) : V Γ κ pc lv ((0, k) :: (0, n) :: st) μ (NM n k μ K) := by
  unfold NM
  by_cases h0 : 0 < μ 0 0 ∧ n = 4 ∧ k = 192
  · rw [if_pos h0]
    obtain ⟨hp, rfl, rfl⟩ := h0
    have kk0 := kk (μ 0 0) (mMul μ)
    obtain ⟨p, l, e, R, s, m, args, below, meth, c, Q, G, ρ0, μ0⟩ := Γ
    intro x v μ' hr
    obtain ⟨k1, k2⟩ := kk0 x v μ' hr
    have m00 : mMul μ 0 0 = μ 0 0 + 5 := by
      unfold mMul
      rw [if_neg (by omega), if_neg (by omega), if_pos ⟨rfl, rfl⟩]
    have m01 : mMul μ 0 1 = μ 0 1 + 5 := by
      unfold mMul
      rw [if_neg (by omega), if_neg (by omega), if_neg (by omega), if_pos ⟨rfl, rfl⟩]
    have m02 : mMul μ 0 2 = μ 0 2 + 772 := by
      unfold mMul
      rw [if_neg (by omega), if_neg (by omega), if_neg (by omega), if_neg (by omega), if_pos ⟨rfl, rfl⟩]
    have mold : ∀ a j, a ≠ 0 → ¬ (μ 0 0 ≤ a ∧ a ≤ μ 0 0 + 4) → mMul μ a j = μ a j := fun a j h1 h2 => by
      unfold mMul
      rw [if_neg (by omega), if_neg (by omega), if_neg (by omega), if_neg (by omega), if_neg (by omega)]
    rw [m00, m01, m02] at k1 k2
    refine ⟨by omega, fun O a1 a2 a3 a4 a5 ρ H locs ls b1 b2 b3 b4 b5 b6 => ?_⟩
    obtain ⟨hx, hb, hml, hown, hts, hcx, hlk, htr, hfr, hlo, hrt, hin9, htab⟩ := id O
    have hst0 := ok_tl (ok_tl b3)
    intro T hT X
    have q4 : (Int32.ofInt 4).toNatClampNeg = 4 := by decide
    have q192 : (Int32.ofInt 192).toNatClampNeg = 192 := by decide
    obtain ⟨vm₁, cA, comp, -, fA, fC, hO, -, X', step⟩ := X.multianewarray2F hx hown (hts _ h1) hcx.2.2.2.2.2.2.2.2.2.2.2.2.1.use (hts _ h2) (n := Int32.ofInt 4) (k := Int32.ofInt 192) (rest := st.map (cv G ρ)) (g := F0 m pc ls (((0, 192) :: (0, 4) :: st).map (cv G ρ))) rfl (by rw [hb]; exact hdg) rfl (by decide) (by decide) (by decide) (by decide) (by decide) rfl rfl (by rw [q4]; omega) (by rw [q4, q192]; omega)
    rw [q4, q192] at X' step
    generalize hF : Jvm.Free.Multi.fill (T.setVm vm₁) cA comp 4 192 (defaultValue .int) 4 = F at X' step
    have hTh : (T.setVm vm₁).heap = H := hT
    obtain ⟨f1, f2, -, -⟩ := Jvm.Free.Multi.fill_facts (T.setVm vm₁) cA comp 4 192 (defaultValue .int) 4
    rw [hF, hTh] at f1 f2
    have hold : ∀ x : Nat, x < H.size → F.heap[x]? = H[x]? := fun x hx => by
      have := Jvm.Free.Multi.fill_old (T.setVm vm₁) cA comp 4 192 (defaultValue .int) (a := x) (by rw [hTh]; exact hx) 4
      rw [hF, hTh] at this
      exact this
    have hrow : ∀ j : Nat, j < 4 → F.heap[H.size + 1 + j]? = some (Jvm.Free.Multi.innerC comp 192 (defaultValue .int)) := fun j hj => by
      have := Jvm.Free.Multi.fill_inner (T.setVm vm₁) cA comp 4 192 (defaultValue .int) 4 j hj
      rw [hF, hTh] at this
      exact this
    have hcA : cA = gA G 7 := by
      have h4 : va_RA s (gA G 7) (ety 7) := (hcx.1.1.2 7 _ (tysG_at G (by omega))).2
      have h5 : s.vm.findClass ("[" ++ (FieldType.array .int).toString) = some (gA G 7) := h4
      exact Option.some.inj (fA.symm.trans h5)
    have hcy : comp = gA G 1 := by
      have h4 : va_RA s (gA G 1) (ety 1) := (hcx.1.1.2 1 _ (tysG_at G (by omega))).2
      have h5 : s.vm.findClass ("[" ++ FieldType.int.toString) = some (gA G 1) := h4
      have h6 : s.vm.findClass (FieldType.array .int).toString = some (gA G 1) := h5
      exact Option.some.inj (fC.symm.trans h6)
    subst hcA
    subst hcy
    have hB : gB G ≤ H.size := Nat.le_trans hcx.1.2 b5.1
    have rlo : ∀ a, a < μ 0 0 → rhoM ρ (μ 0 0) H.size a = ρ a := fun a h => by unfold rhoM; rw [if_neg (by omega)]
    have rhi : ∀ a, μ 0 0 ≤ a → rhoM ρ (μ 0 0) H.size a = H.size + (a - μ 0 0).toNat := fun a h => by unfold rhoM; rw [if_pos h]
    have hE : Ext (μ 0 0) ρ (rhoM ρ (μ 0 0) H.size) := fun a _ h => rlo a h
    have hout : okC G (rhoM ρ (μ 0 0) H.size) (mMul μ) F.heap (μ 0 0) := by
      have e1 : mMul μ (μ 0 0) (-1) = 27 := by unfold mMul; rw [if_pos rfl, if_pos rfl]
      have e2 : mMul μ (μ 0 0) (-2) = 4 := by unfold mMul; rw [if_pos rfl, if_neg (by omega), if_pos rfl]
      have e3 : ∀ j : Nat, mMul μ (μ 0 0) j = if (j : Int) < 4 then μ 0 0 + 1 + j else 0 := fun j => by
        unfold mMul
        rw [if_pos rfl, if_neg (by omega), if_neg (by omega)]
        by_cases hj : (j : Int) < 4
        · rw [if_pos ⟨by omega, hj⟩, if_pos hj]
        · rw [if_neg (by omega), if_neg hj]
      refine Or.inr ⟨7, by omega, e1, by rw [e2]; omega, by rw [e2]; omega, ?_, fun j hj => ?_⟩
      · rw [rhi _ (Int.le_refl _), Int.sub_self, e2]
        show F.heap[H.size + 0]? = _
        rw [Nat.add_zero, f2]
        refine congrArg some ((vr_outer9 (gA G 7) 4 H.size 4).trans (congrArg (arrV _ _) (funext fun j => ?_)))
        show _ = cvR (rhoM ρ (μ 0 0) H.size) (mMul μ (μ 0 0) j)
        rw [e3]
        by_cases hj : j < 4
        · rw [if_pos hj, if_pos (by omega), cvR_pos (by omega), rhi _ (by omega)]
          exact congrArg Value.ref (show (H.size + 1 + j : Nat) = H.size + (μ 0 0 + 1 + (j : Int) - μ 0 0).toNat by omega)
        · rw [if_neg hj, if_neg (by omega)]
          rfl
      · rw [e2] at hj
        rw [e3, if_pos hj, m00]
        show 0 ≤ μ 0 0 + 1 + (j : Int) ∧ μ 0 0 + 1 + (j : Int) < μ 0 0 + 5
        omega
    have hinn : ∀ a, μ 0 0 < a → a ≤ μ 0 0 + 4 → okC G (rhoM ρ (μ 0 0) H.size) (mMul μ) F.heap a := fun a ha1 ha2 => by
      have e1 : mMul μ a (-1) = 21 := by unfold mMul; rw [if_neg (by omega), if_pos ⟨ha1, ha2⟩, if_pos rfl]
      have e2 : mMul μ a (-2) = 192 := by unfold mMul; rw [if_neg (by omega), if_pos ⟨ha1, ha2⟩, if_neg (by omega), if_pos rfl]
      have e3 : ∀ j : Nat, mMul μ a j = 0 := fun j => by
        unfold mMul
        rw [if_neg (by omega), if_pos ⟨ha1, ha2⟩, if_neg (by omega), if_neg (by omega)]
      refine Or.inr ⟨1, by omega, e1, by rw [e2]; omega, by rw [e2]; omega, ?_, fun j _ => by rw [e3]; exact i32_0⟩
      rw [rhi _ (by omega), e2, show H.size + (a - μ 0 0).toNat = H.size + 1 + (a - μ 0 0 - 1).toNat by omega, hrow _ (by omega)]
      refine congrArg some (Eq.trans (b := arrV (gA G 1) 192 (fun _ => .int 0)) ?_ (congrArg (arrV _ _) (funext fun j => ?_)))
      · exact arrV_new9 (gA G 1) 192 (.int 0)
      · rw [e3]
        show Value.int 0 = .int (Int32.ofInt 0)
        rw [oi_0]
    have hGP : GP G (rhoM ρ (μ 0 0) H.size) (mMul μ) F.heap := by
      refine ⟨by rw [m00]; omega, ?_, fun a ha han => ?_, fun a b ha han hb2 hbn hab => ?_⟩
      · unfold mMul
        rw [if_neg (by omega), if_neg (by omega), if_neg (by omega), if_neg (by omega), if_neg (by omega)]
        exact b4.2.1
      · rw [m00] at han
        by_cases h9 : a < μ 0 0
        · obtain ⟨y1, y2⟩ := b4.2.2.1 a ha h9
          rw [rlo a h9]
          exact ⟨y1, (y2.kept (hold _ y2.lt)).ext (rlo a h9) hE (fun j => mold a j (by omega) (by omega)) (by rw [m00]; omega)⟩
        · by_cases h8 : a = μ 0 0
          · rw [h8]
            exact ⟨by rw [rhi _ (Int.le_refl _)]; omega, hout⟩
          · exact ⟨by rw [rhi _ (by omega)]; omega, hinn a (by omega) (by omega)⟩
      · rw [m00] at han hbn
        by_cases h9 : a < μ 0 0 <;> by_cases h8 : b < μ 0 0
        · rw [rlo a h9, rlo b h8] at hab
          exact b4.2.2.2 a b ha h9 hb2 h8 hab
        · exfalso
          have := (b4.2.2.1 a ha h9).2.lt
          rw [rlo a h9, rhi b (by omega)] at hab
          omega
        · exfalso
          have := (b4.2.2.1 b hb2 h8).2.lt
          rw [rlo b h8, rhi a (by omega)] at hab
          omega
        · rw [rhi a (by omega), rhi b (by omega)] at hab
          omega
    have c1 : (μ 0 1 - μ0 0 1).toNat + 1 + 4 = (μ 0 1 + 5 - μ0 0 1).toNat := by omega
    have c2 : (μ 0 2 - μ0 0 2).toNat + 4 + 4 * 192 = (μ 0 2 + 772 - μ0 0 2).toNat := by omega
    rw [c1, c2] at X'
    have e3 : Value.ref H.size :: st.map (cv G ρ) = ((2, μ 0 0) :: st).map (cv G (rhoM ρ (μ 0 0) H.size)) := by
      rw [List.map_cons]
      congr 1
      · show _ = cvR (rhoM ρ (μ 0 0) H.size) (μ 0 0)
        rw [cvR_pos hp, rhi _ (Int.le_refl _)]
        exact congrArg Value.ref (show (H.size : Nat) = H.size + (μ 0 0 - μ 0 0).toNat by omega)
      · exact List.map_congr_left (fun q hq => (cv_ext hE (hst0 q hq)).symm)
    have e4 : (lv.map fun q => (q.1, cv G ρ q.2)) = lv.map fun q => (q.1, cv G (rhoM ρ (μ 0 0) H.size) q.2) := List.map_congr_left (fun q hq => by rw [cv_ext hE (b2 q hq)])
    obtain ⟨t, z1, z2⟩ := k2 O (by omega) (by omega) (by omega) a4 a5 (rhoM ρ (μ 0 0) H.size) F.heap locs ls (by rw [← e4]; exact b1) (fun q hq => vok_mono (by omega) (b2 q hq)) (ok_cons (show 0 ≤ μ 0 0 ∧ μ 0 0 < μ 0 0 + 5 by omega) (fun q hq => vok_mono (by omega) (hst0 q hq))) hGP ⟨by rw [f1]; have := b5.1; omega, fun q g1 g2 => (hold q (Nat.lt_of_lt_of_le g1 b5.1)).trans (b5.2.1 q g1 g2), b5.2.2⟩ (b6.tr hE a1) F rfl X'
    rw [← e3] at z1
    refine ⟨t, step t ?_, z2⟩
    rw [show T.heap.size = H.size by rw [hT]]
    exact z1
  · rw [if_neg h0]
    exact V_none
end VMORE
