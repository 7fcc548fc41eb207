/-! rows of V that read or write the small memory -/
theorem own_ne {a : Int} (h : own a) : a ≠ 0 := by unfold own at h; omega
theorem bd_up {μ : Mem} {a k v : Int} (h : a ≠ 0) : bd (mUp μ a k v) = bd μ := by
  unfold bd
  rw [mUp_ne μ v (by omega), mUp_ne μ v (by omega)]
theorem vok_bd {μ ν : Mem} {x : AV} (h : μ 0 0 ≤ ν 0 0 ∧ ν 0 3 ≤ μ 0 3) (hx : vok (bd μ) x) : vok (bd ν) x := vok_mono h hx
theorem ix_ok {i len : Int} (hi : i32 i) (h0 : 0 ≤ i) (h1 : i < len) : ¬ (Int32.ofInt i < 0 ∨ len.toNat ≤ (Int32.ofInt i).toNatClampNeg) ∧ (Int32.ofInt i).toNatClampNeg = i.toNat := by
  have e : (Int32.ofInt i).toNatClampNeg = i.toNat := by
    show (Int32.ofInt i).toInt.toNat = i.toNat
    rw [oi_to hi]
  refine ⟨?_, e⟩
  rintro (h | h)
  · rw [← oi_0, oi_lt hi i32_0] at h
    omega
  · rw [e] at h
    omega
def cmpT (t : Nat) (ty : FieldType) : Bool := match ty with
  | .int => t == 0
  | .long => t == 1
  | .object _ => t == 2
  | .array _ => t == 2
  | _ => false
theorem cmpT_ok {t : Nat} {ty : FieldType} (h : cmpT t ty = true) (G : Gc) (ρ : Int → Nat) (z : Int) : narrow ty (cv G ρ (t, z)) = cv G ρ (t, z) ∧ fits ty (cv G ρ (t, z)) = true := by
  cases ty <;> simp only [cmpT, beq_iff_eq, Bool.false_eq_true] at h
  · subst h
    exact ⟨rfl, rfl⟩
  · subst h
    exact ⟨rfl, rfl⟩
  · subst h
    show narrow _ (cvR ρ z) = cvR ρ z ∧ fits _ (cvR ρ z) = true
    unfold cvR
    split <;> exact ⟨rfl, rfl⟩
  · subst h
    show narrow _ (cvR ρ z) = cvR ρ z ∧ fits _ (cvR ρ z) = true
    unfold cvR
    split <;> exact ⟨rfl, rfl⟩
theorem va_apa {G : Gc} {s : State} {args : Array Value} {C : String} {T : u_T} {N ci : Nat} (hts : ∀ w ∈ lw_all, w.before args s = true) (hin : ∀ w ∈ u_ws C T N, w ∈ lw_all) (ty : Nat → FieldType) (hty : ∀ k, k < N → parseFieldDescriptor (T k).2.2.1 = some (ty k)) (hnm : ∀ a, a < N → ∀ b, b < N → a ≠ b → (T a).2.1 ≠ (T b).2.1) (hK : va_K (gD G) vwC (tysG G) s) (hc : vwC[ci]? = some (C, T, N)) : ∀ x y, x < N → y < N → x ≠ y → ((gD G).2 ci) x ≠ ((gD G).2 ci) y :=
  va_apart (own := C) hts hin ty hty hnm hK hc
section VHEAP
variable {Γ : Gam} {κ : Kap} {pc : Nat} {lv : List (Nat × AV)} {st : List AV} {μ : Mem} {r : Rz}
theorem V_KD {ci a : Int} (k : μ a (-1) = ci + 1 → V Γ κ pc lv st μ r) : V Γ κ pc lv st μ (KD ci a μ r) := by
  unfold KD
  by_cases h : μ a (-1) = ci + 1
  · rw [if_pos h]; exact k h
  · rw [if_neg h]; exact V_none
/-- a read of the memory -/
theorem V_read {pc' : Nat} {st' : List AV}
    (h : match Γ with
      | (p, l, e, R, s, m, args, below, meth, c, Q, G, ρ0, μ0) => Ok (p, l, e, R, s, m, args, below, meth, c, Q, G, ρ0, μ0) κ → ∀ (ρ : Int → Nat) (H : Heap) (locs : List Loc) (ls : Array Slot) (ce sl : Nat) (Q' : State → Prop), (∀ q ∈ st, vok (bd μ) q) → GP G ρ μ H → va_S (fun q => gB G ≤ q) s.heap H locs →
        ((∀ q ∈ st', vok (bd μ) q) → W p l e R s m args below meth c H locs ce sl Q' (F0 m pc' ls (st'.map (cv G ρ)))) → W p l e R s m args below meth c H locs ce sl Q' (F0 m pc ls (st.map (cv G ρ))))
    (k : V Γ κ pc' lv st' μ r) : V Γ κ pc lv st μ r := by
  obtain ⟨p, l, e, R, s, m, args, below, meth, c, Q, G, ρ0, μ0⟩ := Γ
  intro x v μ' hr
  obtain ⟨k1, k2⟩ := k x v μ' hr
  refine ⟨k1, fun O a1 a2 a3 a4 a5 ρ H locs ls b1 b2 b3 b4 b5 b6 => ?_⟩
  exact h O ρ H locs ls _ _ _ b3 b4 b5 (fun b3' => k2 O a1 a2 a3 a4 a5 ρ H locs ls b1 b2 b3' b4 b5 b6)
/-- a write of the memory -/
theorem V_write {pc' : Nat} {st' : List AV} {a j z : Int} (ha : own a)
    (h : match Γ with
      | (p, l, e, R, s, m, args, below, meth, c, Q, G, ρ0, μ0) => Ok (p, l, e, R, s, m, args, below, meth, c, Q, G, ρ0, μ0) κ → ∀ (ρ : Int → Nat) (H : Heap) (locs : List Loc) (ls : Array Slot) (ce sl : Nat) (Q' : State → Prop), (∀ q ∈ st, vok (bd μ) q) → GP G ρ μ H → va_S (fun q => gB G ≤ q) s.heap H locs →
        (∀ (H1 : Heap) (locs1 : List Loc), GP G ρ (mUp μ a j z) H1 → va_S (fun q => gB G ≤ q) s.heap H1 locs1 → W p l e R s m args below meth c H1 locs1 ce sl Q' (F0 m pc' ls (st'.map (cv G ρ)))) → W p l e R s m args below meth c H locs ce sl Q' (F0 m pc ls (st.map (cv G ρ))))
    (hs : (∀ q ∈ st, vok (bd μ) q) → ∀ q ∈ st', vok (bd μ) q)
    (k : V Γ κ pc' lv st' (mUp μ a j z) r) : V Γ κ pc lv st μ r := by
  obtain ⟨p, l, e, R, s, m, args, below, meth, c, Q, G, ρ0, μ0⟩ := Γ
  intro x v μ' hr
  obtain ⟨k1, k2⟩ := k x v μ' hr
  have h0 : a ≠ 0 := own_ne ha
  have e0 : ∀ i, mUp μ a j z 0 i = μ 0 i := fun i => mUp_ne μ z (by omega)
  simp only [e0, bd_up h0] at k1 k2
  refine ⟨k1, fun O a1 a2 a3 a4 a5 ρ H locs ls b1 b2 b3 b4 b5 b6 => ?_⟩
  exact h O ρ H locs ls _ _ _ b3 b4 b5 (fun H1 locs1 b4' b5' => k2 O a1 a2 a3 a4 a5 ρ H1 locs1 ls b1 b2 (hs b3) b4' b5' b6)
theorem V_null (hdg : decode (kC κ) pc = .ok (.aconst_null, 1)) (h0 : 0 < μ 0 0) (k : V Γ κ (pc + 1) lv ((2, 0) :: st) μ r) : V Γ κ pc lv st μ r := by
  refine V_read (pc' := pc + 1) (st' := ((2, 0) :: st)) ?_ k
  obtain ⟨p, l, e, R, s, m, args, below, meth, c, Q, G, ρ0, μ0⟩ := Γ
  intro O
  obtain ⟨hx, hb, -⟩ := O
  intro ρ H locs ls ce sl Q' b3 b4 b5 kk
  exact lv_null hx hb hdg (kk (ok_cons (show μ 0 3 < 0 ∧ 0 < μ 0 0 from ⟨by have := b4.1.2.1; omega, h0⟩) b3))
theorem V_getf (ci : Nat) {C : String} {T : u_T} {N : Nat} {idx : Nat} {a : Int} {K : Int → Rz} (hcl : vwC[ci]? = some (C, T, N)) (h8 : ci < 12) (hN : nfl ci = N) (hin : ∀ w ∈ u_ws C T N, w ∈ lw_all) (kf : Nat) (hk : kf < N) {ref : String} (hlink : Cond.fieldLink (kW κ) idx ref (T kf).2.1 (T kf).2.2.1 ∈ lw_all) (href : (T kf).1 = ref) {t : Nat} (ht : ftg ci kf = t) (hdg : decode (kC κ) pc = .ok (.getfield idx, 3))
    (k : ∀ z, V Γ κ (pc + 3) lv ((t, z) :: st) μ (K z)) (hkf : ci = 9 → kf < 2 := by omega) : V Γ κ pc lv ((2, a) :: st) μ (GF ci kf a μ K) := by
  unfold GF
  by_cases h0 : μ a (-1) = (ci : Int) + 1
  · rw [if_pos h0]
    refine V_read ?_ (k (μ a kf))
    obtain ⟨p, l, e, R, s, m, args, below, meth, c, Q, G, ρ0, μ0⟩ := Γ
    intro O
    obtain ⟨hx, hb, hml, hown, hts, hcx, hlk, htr, hfr, hlo, hrt, hin9, htab⟩ := O
    intro ρ H locs ls ce sl Q' b3 b4 b5 kk
    obtain ⟨g1, g2, ⟨cell, q1, q2, q3, q4⟩, g5⟩ := b4.objw (ok_hd b3) h8 h0
    subst ht
    subst hN
    have kk := kk (ok_cons (g5 kf hk hkf) (ok_tl b3))
    obtain ⟨hS, hfc, kC, hkC, hkind⟩ := hcx.1.1.1 ci _ hcl
    obtain ⟨cf, kf', fi, f, hi, hsl⟩ := hS kf hk
    rw [List.map_cons, show cv G ρ (2, a) = cvR ρ a from rfl, cvR_pos g1]
    refine W.getf hx hb hown (hts _ hlink) (by rw [← href]; exact hi) (u_facts hfc hkC (u_lays hts hin hk) hi).1 q1 q3.1 (v := cv G ρ (ftg ci kf, μ a kf)) ?_ rfl rfl hdg kk
    rw [hsl, q4 kf hk hkf]
  · rw [if_neg h0]
    exact V_none
theorem V_putf (ci : Nat) {C : String} {T : u_T} {N : Nat} {idx : Nat} {a z : Int} {K : Mem → Rz} (hcl : vwC[ci]? = some (C, T, N)) (h8 : ci < 12) (hN : nfl ci = N) (hin : ∀ w ∈ u_ws C T N, w ∈ lw_all) (ty0 : Nat → FieldType) (hty : ∀ k, k < N → parseFieldDescriptor (T k).2.2.1 = some (ty0 k)) (hnm : ∀ a, a < N → ∀ b, b < N → a ≠ b → (T a).2.1 ≠ (T b).2.1) (kf : Nat) (hk : kf < N) {ref : String} (hlink : Cond.fieldLink (kW κ) idx ref (T kf).2.1 (T kf).2.2.1 ∈ lw_all) (href : (T kf).1 = ref) (hfin : (T kf).2.2.2 = false) {t : Nat} (ht : ftg ci kf = t) (hcm : cmpT t (ty0 kf) = true) (hdg : decode (kC κ) pc = .ok (.putfield idx, 3))
    (k : ∀ ν, V Γ κ (pc + 3) lv st ν (K ν)) : V Γ κ pc lv ((t, z) :: (2, a) :: st) μ (PF ci kf a z μ K) := by
  unfold PF
  by_cases h0 : (0 < a ∨ a < -21) ∧ μ a (-1) = (ci : Int) + 1
  · rw [if_pos h0]
    refine V_write h0.1 ?_ (fun b3 => ok_tl (ok_tl b3)) (k (mUp μ a kf z))
    obtain ⟨p, l, e, R, s, m, args, below, meth, c, Q, G, ρ0, μ0⟩ := Γ
    intro O
    obtain ⟨hx, hb, hml, hown, hts, hcx, hlk, htr, hfr, hlo, hrt, hin9, htab⟩ := O
    intro ρ H locs ls ce sl Q' b3 b4 b5 kk
    obtain ⟨g1, g2, g3, ⟨cell, q1, q2, q3, q4⟩, g5⟩ := b4.obj (Or.inl h0.1) (ok_hd (ok_tl b3)) h8 h0.2
    subst ht
    subst hN
    have hap := va_apa hts hin ty0 hty hnm hcx.1.1 hcl
    obtain ⟨hS, hfc, kC, hkC, hkind⟩ := hcx.1.1.1 ci _ hcl
    obtain ⟨cf, kf', fi, f, hi, hsl⟩ := hS kf hk
    have hlay := hts _ (hin _ (u_in_lay hk))
    unfold u_lay at hlay
    rw [if_neg (by rw [hfin]; decide)] at hlay
    have hst := (u_facts hfc hkC (u_lays hts hin hk) hi).1
    obtain ⟨hn, hfit⟩ := cmpT_ok hcm G ρ z
    have h6 := u_store hfc hkC hkind hlay hi (hty kf hk) hn hfit
    rw [List.map_cons, List.map_cons, show cv G ρ (2, a) = cvR ρ a from rfl, cvR_pos g1]
    refine W.putK hx hb (f := f) ⟨hown, hts _ hlink, ⟨_, _, _, by rw [← href]; exact hi⟩, hst⟩ (by rw [q2]; exact h6) q1 q3 (by rw [hsl]; exact k2_hasslot (q4 kf hk)) rfl rfl hdg fun H' e1 e2 e3 => ?_
    rw [hsl] at e1 ⊢
    refine kk H' _ (b4.put h0.1 g2 (by omega) e3 (Or.inl ⟨ci, h8, by rw [mUp_ne _ _ (by omega)]; exact h0.2, ?_, fun j hj => ?_⟩)) (va_S.put (A := fun q => gB G ≤ q) b5 e2 e3 (g3 h0.1))
    · refine t_OB.to (V := updV (fun k => cv G ρ (ftg ci k, μ a k)) kf (cv G ρ (ftg ci kf, z))) ⟨_, e1, q2, q3, t_set q4 hap hk _⟩ (fun j _ => ?_)
      unfold updV mUp
      by_cases e9 : j = kf
      · subst e9
        simp
      · have e8 : ¬ ((j : Int) = (kf : Int)) := by omega
        simp [e9, e8]
    · rw [bd_up g1]
      by_cases e9 : j = kf
      · subst e9
        rw [mUp_same]
        exact ok_hd b3
      · rw [mUp_ne _ _ (by omega)]
        exact g5 j hj
  · rw [if_neg h0]
    exact V_none
theorem V_putfF (hki : kI κ = true) (ci : Nat) {C : String} {T : u_T} {N : Nat} {idx : Nat} {a z : Int} {K : Mem → Rz} (hcl : vwC[ci]? = some (C, T, N)) (h8 : ci < 12) (hN : nfl ci = N) (hin : ∀ w ∈ u_ws C T N, w ∈ lw_all) (ty0 : Nat → FieldType) (hty : ∀ k, k < N → parseFieldDescriptor (T k).2.2.1 = some (ty0 k)) (hnm : ∀ a, a < N → ∀ b, b < N → a ≠ b → (T a).2.1 ≠ (T b).2.1) (kf : Nat) (hk : kf < N) {ref : String} (hlink : Cond.fieldLink (kW κ) idx ref (T kf).2.1 (T kf).2.2.1 ∈ lw_all) (href : (T kf).1 = ref) (hfin : (T kf).2.2.2 = true) (hdecl : (T kf).1 = kW κ) {t : Nat} (ht : ftg ci kf = t) (hcm : cmpT t (ty0 kf) = true) (hdg : decode (kC κ) pc = .ok (.putfield idx, 3))
    (k : ∀ ν, V Γ κ (pc + 3) lv st ν (K ν)) : V Γ κ pc lv ((t, z) :: (2, a) :: st) μ (PF ci kf a z μ K) := by
  unfold PF
  by_cases h0 : (0 < a ∨ a < -21) ∧ μ a (-1) = (ci : Int) + 1
  · rw [if_pos h0]
    refine V_write h0.1 ?_ (fun b3 => ok_tl (ok_tl b3)) (k (mUp μ a kf z))
    obtain ⟨p, l, e, R, s, m, args, below, meth, c, Q, G, ρ0, μ0⟩ := Γ
    intro O
    obtain ⟨hx, hb, hml, hown, hts, hcx, hlk, htr, hfr, hlo, hrt, hin9, htab⟩ := O
    intro ρ H locs ls ce sl Q' b3 b4 b5 kk
    obtain ⟨g1, g2, g3, ⟨cell, q1, q2, q3, q4⟩, g5⟩ := b4.obj (Or.inl h0.1) (ok_hd (ok_tl b3)) h8 h0.2
    subst ht
    subst hN
    have hap := va_apa hts hin ty0 hty hnm hcx.1.1 hcl
    obtain ⟨hS, hfc, kC, hkC, hkind⟩ := hcx.1.1.1 ci _ hcl
    obtain ⟨cf, kf', fi, f, hi, hsl⟩ := hS kf hk
    have hlay := hts _ (hin _ (u_in_lay hk))
    unfold u_lay at hlay
    rw [if_pos hfin] at hlay
    have hst := (u_facts hfc hkC (u_lays hts hin hk) hi).1
    have hcf : m.cls = cf := by
      obtain ⟨_, _, c', _, _, _, -, -, hf', -, -, -, hown2, -⟩ := Cond.laysFinal_spec hlay
      have e1 : c' = cf := by have := hi.symm.trans hf'; simp at this; exact this.1.symm
      rw [hdecl] at hown2
      rw [← e1]; exact Option.some.inj (hown.symm.trans hown2)
    obtain ⟨hn, hfit⟩ := cmpT_ok hcm G ρ z
    have h6 := u_fits hfc hkC hkind (Or.inr hlay) hi (hty kf hk) hn hfit
    rw [List.map_cons, List.map_cons, show cv G ρ (2, a) = cvR ρ a from rfl, cvR_pos g1]
    refine W.putFinK hx hb hown (hts _ hlink) (by rw [← href]; exact hi) hst hcf (hin9 hki) (by rw [q2]; exact h6) q1 q3 (by rw [hsl]; exact k2_hasslot (q4 kf hk)) rfl rfl hdg fun H' e1 e2 e3 => ?_
    rw [hsl] at e1 ⊢
    refine kk H' _ (b4.put h0.1 g2 (by omega) e3 (Or.inl ⟨ci, h8, by rw [mUp_ne _ _ (by omega)]; exact h0.2, ?_, fun j hj => ?_⟩)) (va_S.put (A := fun q => gB G ≤ q) b5 e2 e3 (g3 h0.1))
    · refine t_OB.to (V := updV (fun k => cv G ρ (ftg ci k, μ a k)) kf (cv G ρ (ftg ci kf, z))) ⟨_, e1, q2, q3, t_set q4 hap hk _⟩ (fun j _ => ?_)
      unfold updV mUp
      by_cases e9 : j = kf
      · subst e9
        simp
      · have e8 : ¬ ((j : Int) = (kf : Int)) := by omega
        simp [e9, e8]
    · rw [bd_up g1]
      by_cases e9 : j = kf
      · subst e9
        rw [mUp_same]
        exact ok_hd b3
      · rw [mUp_ne _ _ (by omega)]
        exact g5 j hj
  · rw [if_neg h0]
    exact V_none
theorem V_putz (ci : Nat) {C : String} {T : u_T} {N : Nat} {idx : Nat} {a z : Int} {K : Mem → Rz} (hcl : vwC[ci]? = some (C, T, N)) (h8 : ci < 12) (hN : nfl ci = N) (hin : ∀ w ∈ u_ws C T N, w ∈ lw_all) (ty0 : Nat → FieldType) (hty : ∀ k, k < N → parseFieldDescriptor (T k).2.2.1 = some (ty0 k)) (hnm : ∀ a, a < N → ∀ b, b < N → a ≠ b → (T a).2.1 ≠ (T b).2.1) (kf : Nat) (hk : kf < N) {ref : String} (hlink : Cond.fieldLink (kW κ) idx ref (T kf).2.1 (T kf).2.2.1 ∈ lw_all) (href : (T kf).1 = ref) (hfin : (T kf).2.2.2 = false) (ht : ftg ci kf = 0) (hcm : ty0 kf = .boolean) (hdg : decode (kC κ) pc = .ok (.putfield idx, 3))
    (k : ∀ ν, V Γ κ (pc + 3) lv st ν (K ν)) : V Γ κ pc lv ((0, z) :: (2, a) :: st) μ (PZ ci kf a z μ K) := by
  unfold PZ
  by_cases h0 : (0 < a ∨ a < -21) ∧ μ a (-1) = (ci : Int) + 1 ∧ (z = 0 ∨ z = 1)
  · rw [if_pos h0]
    refine V_write h0.1 ?_ (fun b3 => ok_tl (ok_tl b3)) (k (mUp μ a kf z))
    obtain ⟨p, l, e, R, s, m, args, below, meth, c, Q, G, ρ0, μ0⟩ := Γ
    intro O
    obtain ⟨hx, hb, hml, hown, hts, hcx, hlk, htr, hfr, hlo, hrt, hin9, htab⟩ := O
    intro ρ H locs ls ce sl Q' b3 b4 b5 kk
    obtain ⟨g1, g2, g3, ⟨cell, q1, q2, q3, q4⟩, g5⟩ := b4.obj (Or.inl h0.1) (ok_hd (ok_tl b3)) h8 h0.2.1
    subst hN
    have hap := va_apa hts hin ty0 hty hnm hcx.1.1 hcl
    obtain ⟨hS, hfc, kC, hkC, hkind⟩ := hcx.1.1.1 ci _ hcl
    obtain ⟨cf, kf', fi, f, hi, hsl⟩ := hS kf hk
    have hlay := hts _ (hin _ (u_in_lay hk))
    unfold u_lay at hlay
    rw [if_neg (by rw [hfin]; decide)] at hlay
    have hst := (u_facts hfc hkC (u_lays hts hin hk) hi).1
    have hnf : narrow .boolean (cv G ρ (0, z)) = cv G ρ (0, z) ∧ fits .boolean (cv G ρ (0, z)) = true := by
      rcases h0.2.2 with rfl | rfl
      · exact ⟨show narrow .boolean (.int (Int32.ofInt 0)) = .int (Int32.ofInt 0) by decide, show fits .boolean (.int (Int32.ofInt 0)) = true by decide⟩
      · exact ⟨show narrow .boolean (.int (Int32.ofInt 1)) = .int (Int32.ofInt 1) by decide, show fits .boolean (.int (Int32.ofInt 1)) = true by decide⟩
    have hty' := hty kf hk
    rw [hcm] at hty'
    have h6 := u_store hfc hkC hkind hlay hi hty' hnf.1 hnf.2
    rw [List.map_cons, List.map_cons, show cv G ρ (2, a) = cvR ρ a from rfl, cvR_pos g1]
    refine W.putK hx hb (f := f) ⟨hown, hts _ hlink, ⟨_, _, _, by rw [← href]; exact hi⟩, hst⟩ (by rw [q2]; exact h6) q1 q3 (by rw [hsl]; exact k2_hasslot (q4 kf hk)) rfl rfl hdg fun H' e1 e2 e3 => ?_
    rw [hsl] at e1 ⊢
    refine kk H' _ (b4.put h0.1 g2 (by omega) e3 (Or.inl ⟨ci, h8, by rw [mUp_ne _ _ (by omega)]; exact h0.2.1, ?_, fun j hj => ?_⟩)) (va_S.put (A := fun q => gB G ≤ q) b5 e2 e3 (g3 h0.1))
    · refine t_OB.to (V := updV (fun k => cv G ρ (ftg ci k, μ a k)) kf (cv G ρ (0, z))) ⟨_, e1, q2, q3, t_set q4 hap hk _⟩ (fun j _ => ?_)
      unfold updV mUp
      by_cases e9 : j = kf
      · subst e9
        simp [ht]
      · have e8 : ¬ ((j : Int) = (kf : Int)) := by omega
        simp [e9, e8]
    · rw [bd_up g1]
      by_cases e9 : j = kf
      · subst e9
        rw [mUp_same, ht]
        exact ok_hd b3
      · rw [mUp_ne _ _ (by omega)]
        exact g5 j hj
  · rw [if_neg h0]
    exact V_none
theorem V_getfN (ci : Nat) {C : String} {T : u_T} {N : Nat} {idx : Nat} {a : Int} {K : Int → Rz} (hcl : vwC[ci]? = some (C, T, N)) (h8 : ci < 12) (hN : nfl ci = N) (hin : ∀ w ∈ u_ws C T N, w ∈ lw_all) (kf : Nat) (hk : kf < N) {ref host : String} (hlink : Cond.fieldLinkNest (kW κ) idx ref (T kf).2.1 (T kf).2.2.1 host ∈ lw_fnest) (href : (T kf).1 = ref) {t : Nat} (ht : ftg ci kf = t) (hdg : decode (kC κ) pc = .ok (.getfield idx, 3))
    (k : ∀ z, V Γ κ (pc + 3) lv ((t, z) :: st) μ (K z)) (hkf : ci = 9 → kf < 2 := by omega) : V Γ κ pc lv ((2, a) :: st) μ (GF ci kf a μ K) := by
  unfold GF
  by_cases h0 : μ a (-1) = (ci : Int) + 1
  · rw [if_pos h0]
    refine V_read ?_ (k (μ a kf))
    obtain ⟨p, l, e, R, s, m, args, below, meth, c, Q, G, ρ0, μ0⟩ := Γ
    intro O
    obtain ⟨hx, hb, hml, hown, hts, hcx, hlk, htr, hfr, hlo, hrt, hin9, htab⟩ := O
    intro ρ H locs ls ce sl Q' b3 b4 b5 kk
    obtain ⟨g1, g2, ⟨cell, q1, q2, q3, q4⟩, g5⟩ := b4.objw (ok_hd b3) h8 h0
    subst ht
    subst hN
    have kk := kk (ok_cons (g5 kf hk hkf) (ok_tl b3))
    obtain ⟨hS, hfc, kC, hkC, hkind⟩ := hcx.1.1.1 ci _ hcl
    obtain ⟨cf, kf', fi, f, hi, hsl⟩ := hS kf hk
    rw [List.map_cons, show cv G ρ (2, a) = cvR ρ a from rfl, cvR_pos g1]
    refine va_Wgetf hx hb hown (va_Nw.use rfl (hcx.2.2.2.2.2.2.2.2.2.2.2.2.2.2.2.2.2 _ hlink)) (by rw [← href]; exact hi) (u_facts hfc hkC (u_lays hts hin hk) hi).1 q1 q3.1 (v := cv G ρ (ftg ci kf, μ a kf)) ?_ rfl rfl hdg kk
    rw [hsl, q4 kf hk hkf]
  · rw [if_neg h0]
    exact V_none
theorem V_putfN (ci : Nat) {C : String} {T : u_T} {N : Nat} {idx : Nat} {a z : Int} {K : Mem → Rz} (hcl : vwC[ci]? = some (C, T, N)) (h8 : ci < 12) (hN : nfl ci = N) (hin : ∀ w ∈ u_ws C T N, w ∈ lw_all) (ty0 : Nat → FieldType) (hty : ∀ k, k < N → parseFieldDescriptor (T k).2.2.1 = some (ty0 k)) (hnm : ∀ a, a < N → ∀ b, b < N → a ≠ b → (T a).2.1 ≠ (T b).2.1) (kf : Nat) (hk : kf < N) {ref host : String} (hlink : Cond.fieldLinkNest (kW κ) idx ref (T kf).2.1 (T kf).2.2.1 host ∈ lw_fnest) (href : (T kf).1 = ref) (hfin : (T kf).2.2.2 = false) {t : Nat} (ht : ftg ci kf = t) (hcm : cmpT t (ty0 kf) = true) (hdg : decode (kC κ) pc = .ok (.putfield idx, 3))
    (k : ∀ ν, V Γ κ (pc + 3) lv st ν (K ν)) : V Γ κ pc lv ((t, z) :: (2, a) :: st) μ (PF ci kf a z μ K) := by
  unfold PF
  by_cases h0 : (0 < a ∨ a < -21) ∧ μ a (-1) = (ci : Int) + 1
  · rw [if_pos h0]
    refine V_write h0.1 ?_ (fun b3 => ok_tl (ok_tl b3)) (k (mUp μ a kf z))
    obtain ⟨p, l, e, R, s, m, args, below, meth, c, Q, G, ρ0, μ0⟩ := Γ
    intro O
    obtain ⟨hx, hb, hml, hown, hts, hcx, hlk, htr, hfr, hlo, hrt, hin9, htab⟩ := O
    intro ρ H locs ls ce sl Q' b3 b4 b5 kk
    obtain ⟨g1, g2, g3, ⟨cell, q1, q2, q3, q4⟩, g5⟩ := b4.obj (Or.inl h0.1) (ok_hd (ok_tl b3)) h8 h0.2
    subst ht
    subst hN
    have hap := va_apa hts hin ty0 hty hnm hcx.1.1 hcl
    obtain ⟨hS, hfc, kC, hkC, hkind⟩ := hcx.1.1.1 ci _ hcl
    obtain ⟨cf, kf', fi, f, hi, hsl⟩ := hS kf hk
    have hlay := hts _ (hin _ (u_in_lay hk))
    unfold u_lay at hlay
    rw [if_neg (by rw [hfin]; decide)] at hlay
    have hst := (u_facts hfc hkC (u_lays hts hin hk) hi).1
    obtain ⟨hn, hfit⟩ := cmpT_ok hcm G ρ z
    have h6 := u_store hfc hkC hkind hlay hi (hty kf hk) hn hfit
    rw [List.map_cons, List.map_cons, show cv G ρ (2, a) = cvR ρ a from rfl, cvR_pos g1]
    refine va_WputK hx hb (f := f) hown (va_Nw.use rfl (hcx.2.2.2.2.2.2.2.2.2.2.2.2.2.2.2.2.2 _ hlink)) (by rw [← href]; exact hi) hst (by rw [q2]; exact h6) q1 q3 (by rw [hsl]; exact k2_hasslot (q4 kf hk)) rfl rfl hdg fun H' e1 e2 e3 => ?_
    rw [hsl] at e1 ⊢
    refine kk H' _ (b4.put h0.1 g2 (by omega) e3 (Or.inl ⟨ci, h8, by rw [mUp_ne _ _ (by omega)]; exact h0.2, ?_, fun j hj => ?_⟩)) (va_S.put (A := fun q => gB G ≤ q) b5 e2 e3 (g3 h0.1))
    · refine t_OB.to (V := updV (fun k => cv G ρ (ftg ci k, μ a k)) kf (cv G ρ (ftg ci kf, z))) ⟨_, e1, q2, q3, t_set q4 hap hk _⟩ (fun j _ => ?_)
      unfold updV mUp
      by_cases e9 : j = kf
      · subst e9
        simp
      · have e8 : ¬ ((j : Int) = (kf : Int)) := by omega
        simp [e9, e8]
    · rw [bd_up g1]
      by_cases e9 : j = kf
      · subst e9
        rw [mUp_same]
        exact ok_hd b3
      · rw [mUp_ne _ _ (by omega)]
        exact g5 j hj
  · rw [if_neg h0]
    exact V_none
theorem V_getfS (ci : Nat) {C : String} {T : u_T} {N : Nat} {idx : Nat} {a : Int} {K : Int → Rz} (hcl : vwC[ci]? = some (C, T, N)) (h8 : ci < 12) (hN : nfl ci = N) (hin : ∀ w ∈ u_ws C T N, w ∈ lw_all) (kf : Nat) (hk : kf < N) {ref : String} (hlink : Cond.fieldLink (kW κ) idx ref (T kf).2.1 (T kf).2.2.1 ∈ lw_all) (hsame : Cond.sameField ref (T kf).1 (T kf).2.1 (T kf).2.2.1 ∈ lw_all) {t : Nat} (ht : ftg ci kf = t) (hdg : decode (kC κ) pc = .ok (.getfield idx, 3))
    (k : ∀ z, V Γ κ (pc + 3) lv ((t, z) :: st) μ (K z)) (hkf : ci = 9 → kf < 2 := by omega) : V Γ κ pc lv ((2, a) :: st) μ (GF ci kf a μ K) := by
  unfold GF
  by_cases h0 : μ a (-1) = (ci : Int) + 1
  · rw [if_pos h0]
    refine V_read ?_ (k (μ a kf))
    obtain ⟨p, l, e, R, s, m, args, below, meth, c, Q, G, ρ0, μ0⟩ := Γ
    intro O
    obtain ⟨hx, hb, hml, hown, hts, hcx, hlk, htr, hfr, hlo, hrt, hin9, htab⟩ := O
    intro ρ H locs ls ce sl Q' b3 b4 b5 kk
    obtain ⟨g1, g2, ⟨cell, q1, q2, q3, q4⟩, g5⟩ := b4.objw (ok_hd b3) h8 h0
    subst ht
    subst hN
    have kk := kk (ok_cons (g5 kf hk hkf) (ok_tl b3))
    obtain ⟨hS, hfc, kC, hkC, hkind⟩ := hcx.1.1.1 ci _ hcl
    obtain ⟨cf, kf', fi, f, hi, hsl⟩ := hS kf hk
    rw [List.map_cons, show cv G ρ (2, a) = cvR ρ a from rfl, cvR_pos g1]
    refine W.getf hx hb hown (hts _ hlink) (u_same (hts _ hsame) _ hi) (u_facts hfc hkC (u_lays hts hin hk) hi).1 q1 q3.1 (v := cv G ρ (ftg ci kf, μ a kf)) ?_ rfl rfl hdg kk
    rw [hsl, q4 kf hk hkf]
  · rw [if_neg h0]
    exact V_none
theorem V_putfS (ci : Nat) {C : String} {T : u_T} {N : Nat} {idx : Nat} {a z : Int} {K : Mem → Rz} (hcl : vwC[ci]? = some (C, T, N)) (h8 : ci < 12) (hN : nfl ci = N) (hin : ∀ w ∈ u_ws C T N, w ∈ lw_all) (ty0 : Nat → FieldType) (hty : ∀ k, k < N → parseFieldDescriptor (T k).2.2.1 = some (ty0 k)) (hnm : ∀ a, a < N → ∀ b, b < N → a ≠ b → (T a).2.1 ≠ (T b).2.1) (kf : Nat) (hk : kf < N) {ref : String} (hlink : Cond.fieldLink (kW κ) idx ref (T kf).2.1 (T kf).2.2.1 ∈ lw_all) (hsame : Cond.sameField ref (T kf).1 (T kf).2.1 (T kf).2.2.1 ∈ lw_all) (hfin : (T kf).2.2.2 = false) {t : Nat} (ht : ftg ci kf = t) (hcm : cmpT t (ty0 kf) = true) (hdg : decode (kC κ) pc = .ok (.putfield idx, 3))
    (k : ∀ ν, V Γ κ (pc + 3) lv st ν (K ν)) : V Γ κ pc lv ((t, z) :: (2, a) :: st) μ (PF ci kf a z μ K) := by
  unfold PF
  by_cases h0 : (0 < a ∨ a < -21) ∧ μ a (-1) = (ci : Int) + 1
  · rw [if_pos h0]
    refine V_write h0.1 ?_ (fun b3 => ok_tl (ok_tl b3)) (k (mUp μ a kf z))
    obtain ⟨p, l, e, R, s, m, args, below, meth, c, Q, G, ρ0, μ0⟩ := Γ
    intro O
    obtain ⟨hx, hb, hml, hown, hts, hcx, hlk, htr, hfr, hlo, hrt, hin9, htab⟩ := O
    intro ρ H locs ls ce sl Q' b3 b4 b5 kk
    obtain ⟨g1, g2, g3, ⟨cell, q1, q2, q3, q4⟩, g5⟩ := b4.obj (Or.inl h0.1) (ok_hd (ok_tl b3)) h8 h0.2
    subst ht
    subst hN
    have hap := va_apa hts hin ty0 hty hnm hcx.1.1 hcl
    obtain ⟨hS, hfc, kC, hkC, hkind⟩ := hcx.1.1.1 ci _ hcl
    obtain ⟨cf, kf', fi, f, hi, hsl⟩ := hS kf hk
    have hlay := hts _ (hin _ (u_in_lay hk))
    unfold u_lay at hlay
    rw [if_neg (by rw [hfin]; decide)] at hlay
    have hst := (u_facts hfc hkC (u_lays hts hin hk) hi).1
    obtain ⟨hn, hfit⟩ := cmpT_ok hcm G ρ z
    have h6 := u_store hfc hkC hkind hlay hi (hty kf hk) hn hfit
    rw [List.map_cons, List.map_cons, show cv G ρ (2, a) = cvR ρ a from rfl, cvR_pos g1]
    refine W.putK hx hb (f := f) ⟨hown, hts _ hlink, ⟨_, _, _, u_same (hts _ hsame) _ hi⟩, hst⟩ (by rw [q2]; exact h6) q1 q3 (by rw [hsl]; exact k2_hasslot (q4 kf hk)) rfl rfl hdg fun H' e1 e2 e3 => ?_
    rw [hsl] at e1 ⊢
    refine kk H' _ (b4.put h0.1 g2 (by omega) e3 (Or.inl ⟨ci, h8, by rw [mUp_ne _ _ (by omega)]; exact h0.2, ?_, fun j hj => ?_⟩)) (va_S.put (A := fun q => gB G ≤ q) b5 e2 e3 (g3 h0.1))
    · refine t_OB.to (V := updV (fun k => cv G ρ (ftg ci k, μ a k)) kf (cv G ρ (ftg ci kf, z))) ⟨_, e1, q2, q3, t_set q4 hap hk _⟩ (fun j _ => ?_)
      unfold updV mUp
      by_cases e9 : j = kf
      · subst e9
        simp
      · have e8 : ¬ ((j : Int) = (kf : Int)) := by omega
        simp [e9, e8]
    · rw [bd_up g1]
      by_cases e9 : j = kf
      · subst e9
        rw [mUp_same]
        exact ok_hd b3
      · rw [mUp_ne _ _ (by omega)]
        exact g5 j hj
  · rw [if_neg h0]
    exact V_none
theorem V_putb (ci : Nat) {C : String} {T : u_T} {N : Nat} {idx : Nat} {a z : Int} {K : Mem → Rz} (hcl : vwC[ci]? = some (C, T, N)) (h8 : ci < 12) (hN : nfl ci = N) (hin : ∀ w ∈ u_ws C T N, w ∈ lw_all) (ty0 : Nat → FieldType) (hty : ∀ k, k < N → parseFieldDescriptor (T k).2.2.1 = some (ty0 k)) (hnm : ∀ a, a < N → ∀ b, b < N → a ≠ b → (T a).2.1 ≠ (T b).2.1) (kf : Nat) (hk : kf < N) {ref : String} (hlink : Cond.fieldLink (kW κ) idx ref (T kf).2.1 (T kf).2.2.1 ∈ lw_all) (href : (T kf).1 = ref) (hfin : (T kf).2.2.2 = false) (ht : ftg ci kf = 0) (hcm : ty0 kf = .byte) (hdg : decode (kC κ) pc = .ok (.putfield idx, 3))
    (k : ∀ ν, V Γ κ (pc + 3) lv st ν (K ν)) : V Γ κ pc lv ((0, z) :: (2, a) :: st) μ (PB ci kf a z μ K) := by
  unfold PB
  by_cases h0 : (0 < a ∨ a < -21) ∧ μ a (-1) = (ci : Int) + 1 ∧ (z = 0 ∨ z = 1)
  · rw [if_pos h0]
    refine V_write h0.1 ?_ (fun b3 => ok_tl (ok_tl b3)) (k (mUp μ a kf z))
    obtain ⟨p, l, e, R, s, m, args, below, meth, c, Q, G, ρ0, μ0⟩ := Γ
    intro O
    obtain ⟨hx, hb, hml, hown, hts, hcx, hlk, htr, hfr, hlo, hrt, hin9, htab⟩ := O
    intro ρ H locs ls ce sl Q' b3 b4 b5 kk
    obtain ⟨g1, g2, g3, ⟨cell, q1, q2, q3, q4⟩, g5⟩ := b4.obj (Or.inl h0.1) (ok_hd (ok_tl b3)) h8 h0.2.1
    subst hN
    have hap := va_apa hts hin ty0 hty hnm hcx.1.1 hcl
    obtain ⟨hS, hfc, kC, hkC, hkind⟩ := hcx.1.1.1 ci _ hcl
    obtain ⟨cf, kf', fi, f, hi, hsl⟩ := hS kf hk
    have hlay := hts _ (hin _ (u_in_lay hk))
    unfold u_lay at hlay
    rw [if_neg (by rw [hfin]; decide)] at hlay
    have hst := (u_facts hfc hkC (u_lays hts hin hk) hi).1
    have hnf : narrow .byte (cv G ρ (0, z)) = cv G ρ (0, z) ∧ fits .byte (cv G ρ (0, z)) = true := by
      rcases h0.2.2 with rfl | rfl
      · exact ⟨show narrow .byte (.int (Int32.ofInt 0)) = .int (Int32.ofInt 0) by decide, show fits .byte (.int (Int32.ofInt 0)) = true by decide⟩
      · exact ⟨show narrow .byte (.int (Int32.ofInt 1)) = .int (Int32.ofInt 1) by decide, show fits .byte (.int (Int32.ofInt 1)) = true by decide⟩
    have hty' := hty kf hk
    rw [hcm] at hty'
    have h6 := u_store hfc hkC hkind hlay hi hty' hnf.1 hnf.2
    rw [List.map_cons, List.map_cons, show cv G ρ (2, a) = cvR ρ a from rfl, cvR_pos g1]
    refine W.putK hx hb (f := f) ⟨hown, hts _ hlink, ⟨_, _, _, by rw [← href]; exact hi⟩, hst⟩ (by rw [q2]; exact h6) q1 q3 (by rw [hsl]; exact k2_hasslot (q4 kf hk)) rfl rfl hdg fun H' e1 e2 e3 => ?_
    rw [hsl] at e1 ⊢
    refine kk H' _ (b4.put h0.1 g2 (by omega) e3 (Or.inl ⟨ci, h8, by rw [mUp_ne _ _ (by omega)]; exact h0.2.1, ?_, fun j hj => ?_⟩)) (va_S.put (A := fun q => gB G ≤ q) b5 e2 e3 (g3 h0.1))
    · refine t_OB.to (V := updV (fun k => cv G ρ (ftg ci k, μ a k)) kf (cv G ρ (0, z))) ⟨_, e1, q2, q3, t_set q4 hap hk _⟩ (fun j _ => ?_)
      unfold updV mUp
      by_cases e9 : j = kf
      · subst e9
        simp [ht]
      · have e8 : ¬ ((j : Int) = (kf : Int)) := by omega
        simp [e9, e8]
    · rw [bd_up g1]
      by_cases e9 : j = kf
      · subst e9
        rw [mUp_same, ht]
        exact ok_hd b3
      · rw [mUp_ne _ _ (by omega)]
        exact g5 j hj
  · rw [if_neg h0]
    exact V_none
theorem V_putbF (hki : kI κ = true) (ci : Nat) {C : String} {T : u_T} {N : Nat} {idx : Nat} {a z : Int} {K : Mem → Rz} (hcl : vwC[ci]? = some (C, T, N)) (h8 : ci < 12) (hN : nfl ci = N) (hin : ∀ w ∈ u_ws C T N, w ∈ lw_all) (ty0 : Nat → FieldType) (hty : ∀ k, k < N → parseFieldDescriptor (T k).2.2.1 = some (ty0 k)) (hnm : ∀ a, a < N → ∀ b, b < N → a ≠ b → (T a).2.1 ≠ (T b).2.1) (kf : Nat) (hk : kf < N) {ref : String} (hlink : Cond.fieldLink (kW κ) idx ref (T kf).2.1 (T kf).2.2.1 ∈ lw_all) (href : (T kf).1 = ref) (hfin : (T kf).2.2.2 = true) (hdecl : (T kf).1 = kW κ) (ht : ftg ci kf = 0) (hcm : ty0 kf = .byte) (hdg : decode (kC κ) pc = .ok (.putfield idx, 3))
    (k : ∀ ν, V Γ κ (pc + 3) lv st ν (K ν)) : V Γ κ pc lv ((0, z) :: (2, a) :: st) μ (PB ci kf a z μ K) := by
  unfold PB
  by_cases h0 : (0 < a ∨ a < -21) ∧ μ a (-1) = (ci : Int) + 1 ∧ (z = 0 ∨ z = 1)
  · rw [if_pos h0]
    refine V_write h0.1 ?_ (fun b3 => ok_tl (ok_tl b3)) (k (mUp μ a kf z))
    obtain ⟨p, l, e, R, s, m, args, below, meth, c, Q, G, ρ0, μ0⟩ := Γ
    intro O
    obtain ⟨hx, hb, hml, hown, hts, hcx, hlk, htr, hfr, hlo, hrt, hin9, htab⟩ := O
    intro ρ H locs ls ce sl Q' b3 b4 b5 kk
    obtain ⟨g1, g2, g3, ⟨cell, q1, q2, q3, q4⟩, g5⟩ := b4.obj (Or.inl h0.1) (ok_hd (ok_tl b3)) h8 h0.2.1
    subst hN
    have hap := va_apa hts hin ty0 hty hnm hcx.1.1 hcl
    obtain ⟨hS, hfc, kC, hkC, hkind⟩ := hcx.1.1.1 ci _ hcl
    obtain ⟨cf, kf', fi, f, hi, hsl⟩ := hS kf hk
    have hlay := hts _ (hin _ (u_in_lay hk))
    unfold u_lay at hlay
    rw [if_pos hfin] at hlay
    have hst := (u_facts hfc hkC (u_lays hts hin hk) hi).1
    have hcf : m.cls = cf := by
      obtain ⟨_, _, c', _, _, _, -, -, hf', -, -, -, hown2, -⟩ := Cond.laysFinal_spec hlay
      have e1 : c' = cf := by have := hi.symm.trans hf'; simp at this; exact this.1.symm
      rw [hdecl] at hown2
      rw [← e1]; exact Option.some.inj (hown.symm.trans hown2)
    have hnf : narrow .byte (cv G ρ (0, z)) = cv G ρ (0, z) ∧ fits .byte (cv G ρ (0, z)) = true := by
      rcases h0.2.2 with rfl | rfl
      · exact ⟨show narrow .byte (.int (Int32.ofInt 0)) = .int (Int32.ofInt 0) by decide, show fits .byte (.int (Int32.ofInt 0)) = true by decide⟩
      · exact ⟨show narrow .byte (.int (Int32.ofInt 1)) = .int (Int32.ofInt 1) by decide, show fits .byte (.int (Int32.ofInt 1)) = true by decide⟩
    have hty' := hty kf hk
    rw [hcm] at hty'
    have h6 := u_fits hfc hkC hkind (Or.inr hlay) hi hty' hnf.1 hnf.2
    rw [List.map_cons, List.map_cons, show cv G ρ (2, a) = cvR ρ a from rfl, cvR_pos g1]
    refine W.putFinK hx hb hown (hts _ hlink) (by rw [← href]; exact hi) hst hcf (hin9 hki) (by rw [q2]; exact h6) q1 q3 (by rw [hsl]; exact k2_hasslot (q4 kf hk)) rfl rfl hdg fun H' e1 e2 e3 => ?_
    rw [hsl] at e1 ⊢
    refine kk H' _ (b4.put h0.1 g2 (by omega) e3 (Or.inl ⟨ci, h8, by rw [mUp_ne _ _ (by omega)]; exact h0.2.1, ?_, fun j hj => ?_⟩)) (va_S.put (A := fun q => gB G ≤ q) b5 e2 e3 (g3 h0.1))
    · refine t_OB.to (V := updV (fun k => cv G ρ (ftg ci k, μ a k)) kf (cv G ρ (0, z))) ⟨_, e1, q2, q3, t_set q4 hap hk _⟩ (fun j _ => ?_)
      unfold updV mUp
      by_cases e9 : j = kf
      · subst e9
        simp [ht]
      · have e8 : ¬ ((j : Int) = (kf : Int)) := by omega
        simp [e9, e8]
    · rw [bd_up g1]
      by_cases e9 : j = kf
      · subst e9
        rw [mUp_same, ht]
        exact ok_hd b3
      · rw [mUp_ne _ _ (by omega)]
        exact g5 j hj
  · rw [if_neg h0]
    exact V_none
end VHEAP
