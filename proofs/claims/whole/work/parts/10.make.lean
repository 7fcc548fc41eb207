/-! rows of V that make cells -/
def rhoN (ρ : Int → Nat) (n : Int) (h : Nat) : Int → Nat := fun a => if a = n then h else ρ a
theorem rhoN_ext {ρ : Int → Nat} {n : Int} {h : Nat} : Ext n ρ (rhoN ρ n h) := fun a _ h2 => by
  unfold rhoN
  rw [if_neg (by omega)]
theorem mNew_00 {μ : Mem} (h : 0 < μ 0 0) (kd len sz : Int) : mNew μ kd len sz 0 0 = μ 0 0 + 1 := by
  unfold mNew
  rw [if_neg (by omega), if_pos ⟨rfl, rfl⟩]
theorem mNew_01 {μ : Mem} (h : 0 < μ 0 0) (kd len sz : Int) : mNew μ kd len sz 0 1 = μ 0 1 + 1 := by
  unfold mNew
  rw [if_neg (by omega), if_neg (by omega), if_pos ⟨rfl, rfl⟩]
theorem mNew_02 {μ : Mem} (h : 0 < μ 0 0) (kd len sz : Int) : mNew μ kd len sz 0 2 = μ 0 2 + sz := by
  unfold mNew
  rw [if_neg (by omega), if_neg (by omega), if_neg (by omega), if_pos ⟨rfl, rfl⟩]
theorem mNew_old {μ : Mem} {a : Int} (h1 : a ≠ μ 0 0) (h2 : a ≠ 0) (kd len sz k : Int) : mNew μ kd len sz a k = μ a k := by
  unfold mNew
  rw [if_neg h1, if_neg (by omega), if_neg (by omega), if_neg (by omega)]
theorem mNew_kd (μ : Mem) (kd len sz : Int) : mNew μ kd len sz (μ 0 0) (-1) = kd := by
  unfold mNew
  rw [if_pos rfl, if_pos rfl]
theorem mNew_len (μ : Mem) (kd len sz : Int) : mNew μ kd len sz (μ 0 0) (-2) = len := by
  unfold mNew
  rw [if_pos rfl, if_neg (by omega), if_pos rfl]
theorem mNew_at (μ : Mem) (kd len sz : Int) {k : Int} (h : 0 ≤ k) : mNew μ kd len sz (μ 0 0) k = 0 := by
  unfold mNew
  rw [if_pos rfl, if_neg (by omega), if_neg (by omega)]
theorem okC.ext {G : Gc} {ρ ρ' : Int → Nat} {μ ν : Mem} {H : Heap} {a : Int} (h : okC G ρ μ H a) (ha : ρ' a = ρ a) (hE : Ext (μ 0 0) ρ ρ') (hr : ∀ k, ν a k = μ a k) (hn : μ 0 0 ≤ ν 0 0) : okC G ρ' ν H a := by
  rcases h with ⟨ci, h1, h2, h3, h4⟩ | ⟨t, h1, h2, h3, h5, h4, h6⟩
  · refine Or.inl ⟨ci, h1, by rw [hr]; exact h2, ?_, fun k hk => by rw [hr]; exact vok_mono hn (h4 k hk)⟩
    rw [ha]
    exact t_OB.to h3 (fun j hj => by rw [hr]; exact (cv_ext hE (h4 j hj)).symm)
  · refine Or.inr ⟨t, h1, by rw [hr]; exact h2, by rw [hr]; exact h3, by rw [hr]; exact h5, ?_, fun k hk => ?_⟩
    · rw [ha, h4, hr]
      have hz : ∀ j : Nat, j < (μ a (-2)).toNat → cv G ρ (etg t, μ a j) = cv G ρ' (etg t, ν a j) := fun j hj => by
        rw [hr]
        exact (cv_ext hE (h6 j (by omega))).symm
      unfold arrV
      congr 2
      refine Array.ext (by simp) (fun j h7 h8 => ?_)
      simp only [Array.getElem_ofFn]
      exact hz j (by simpa using h7)
    · rw [hr] at hk ⊢
      exact vok_mono hn (h6 k hk)
theorem GP.mk {G : Gc} {ρ : Int → Nat} {μ : Mem} {H H1 : Heap} {kd len sz : Int} (h : GP G ρ μ H) (hB : gB G ≤ H.size) (hq : ∀ q : Nat, q < H.size → H1[q]? = H[q]?) (hc : okC G (rhoN ρ (μ 0 0) H.size) (mNew μ kd len sz) H1 (μ 0 0)) : GP G (rhoN ρ (μ 0 0) H.size) (mNew μ kd len sz) H1 := by
  have e0 := mNew_00 h.1 kd len sz
  have hat : rhoN ρ (μ 0 0) H.size (μ 0 0) = H.size := by unfold rhoN; rw [if_pos rfl]
  have hne : ∀ a, a ≠ μ 0 0 → rhoN ρ (μ 0 0) H.size a = ρ a := fun a ha => by unfold rhoN; rw [if_neg ha]
  refine ⟨by rw [e0]; have := h.1; omega, ?_, fun a ha han => ?_, fun a b ha han hb hbn hab => ?_⟩
  · show mNew μ kd len sz 0 (-1) = 0
    unfold mNew
    have := h.1
    rw [if_neg (by omega), if_neg (by omega), if_neg (by omega), if_neg (by omega)]
    exact h.2.1
  · by_cases e : a = μ 0 0
    · rw [e, hat]
      exact ⟨hB, hc⟩
    · rw [e0] at han
      obtain ⟨g1, g2⟩ := h.2.2.1 a ha (by omega)
      rw [hne a e]
      exact ⟨g1, (g2.kept (hq _ g2.lt)).ext (hne a e) rhoN_ext (fun k => mNew_old e (by omega) kd len sz k) (by rw [e0]; omega)⟩
  · rw [e0] at han hbn
    by_cases e : a = μ 0 0 <;> by_cases e' : b = μ 0 0
    · rw [e, e']
    · exfalso
      have hl := (h.2.2.1 b hb (by omega)).2.lt
      rw [e, hat, hne b e'] at hab
      omega
    · exfalso
      have hl := (h.2.2.1 a ha (by omega)).2.lt
      rw [e', hat, hne a e] at hab
      omega
    · rw [hne a e, hne b e'] at hab
      exact h.2.2.2 a b ha (by omega) hb (by omega) hab
def dfl (t : Nat) (ty : FieldType) : Bool := match ty with
  | .int => t == 0
  | .boolean => t == 0
  | .long => t == 1
  | .object _ => t == 2
  | .array _ => t == 2
  | _ => false
theorem dfl_ok {t : Nat} {ty : FieldType} (h : dfl t ty = true) (G : Gc) (ρ : Int → Nat) : defaultValue ty = cv G ρ (t, 0) := by
  cases ty <;> simp only [dfl, beq_iff_eq, Bool.false_eq_true] at h <;> subst h
  · show Value.int 0 = .int (Int32.ofInt 0)
    rw [oi_0]
  · show Value.long 0 = .long (Int64.ofInt 0)
    rw [lo_0]
  · show Value.int 0 = .int (Int32.ofInt 0)
    rw [oi_0]
  · rfl
  · rfl
theorem vok_0 (n : Int) (h : 0 < n) (t : Nat) : vok n (t, 0) := by
  match t with
  | 0 => exact i32_0
  | 1 => exact i64_0
  | 2 => exact ⟨Int.le_refl 0, h⟩
  | 3 => exact ⟨by decide, by decide⟩
  | 4 => exact ⟨by decide, by decide⟩
  | 5 => exact ⟨by decide, by decide⟩
  | 6 => trivial
  | _ + 7 => trivial
section VMAKE
variable {Γ : Gam} {κ : Kap} {pc : Nat} {lv : List (Nat × AV)} {st : List AV} {μ : Mem} {r : Rz}
theorem V_make {pc' : Nat} {st0 : List AV} {kd len sz : Int} (hz : 0 ≤ sz)
    (h : match Γ with
      | (p, l, e, R, s, m, args, below, meth, c, Q, G, ρ0, μ0) => Ok (p, l, e, R, s, m, args, below, meth, c, Q, G, ρ0, μ0) κ → ∀ (ρ : Int → Nat) (H : Heap) (locs : List Loc) (ls : Array Slot) (ce sl : Nat) (Q' : State → Prop), (∀ q ∈ st, vok (μ 0 0) q) → GP G ρ μ H → va_S (fun q => gB G ≤ q) s.heap H locs → ce + 1 ≤ R.cells → sl + sz.toNat ≤ R.slots →
        (∀ H1 : Heap, (∀ q : Nat, q < H.size → H1[q]? = H[q]?) → H1.size = H.size + 1 → okC G (rhoN ρ (μ 0 0) H.size) (mNew μ kd len sz) H1 (μ 0 0) → W p l e R s m args below meth c H1 locs (ce + 1) (sl + sz.toNat) Q' (F0 m pc' ls (.ref H.size :: st0.map (cv G ρ)))) → W p l e R s m args below meth c H locs ce sl Q' (F0 m pc ls (st.map (cv G ρ))))
    (hs : (∀ q ∈ st, vok (μ 0 0) q) → ∀ q ∈ st0, vok (μ 0 0) q)
    (k : 0 < μ 0 0 → V Γ κ pc' lv ((2, μ 0 0) :: st0) (mNew μ kd len sz) r) (hp : 0 < μ 0 0) : V Γ κ pc lv st μ r := by
  obtain ⟨p, l, e, R, s, m, args, below, meth, c, Q, G, ρ0, μ0⟩ := Γ
  intro x v μ' hr
  obtain ⟨k1, k2⟩ := k hp x v μ' hr
  rw [mNew_00 hp, mNew_01 hp, mNew_02 hp] at k1 k2
  refine ⟨by omega, fun O a1 a2 a3 a4 a5 ρ H locs ls b1 b2 b3 b4 b5 b6 => ?_⟩
  have hcx : CxP G s := O.2.2.2.2.2.1
  refine h O ρ H locs ls _ _ _ b3 b4 b5 (by omega) (by omega) (fun H1 q1 q2 q3 => ?_)
  have hE : Ext (μ 0 0) ρ (rhoN ρ (μ 0 0) H.size) := rhoN_ext
  have hB : gB G ≤ H.size := Nat.le_trans hcx.1.2 b5.1
  have e1 : (μ 0 1 - μ0 0 1).toNat + 1 = (μ 0 1 + 1 - μ0 0 1).toNat := by omega
  have e2 : (μ 0 2 - μ0 0 2).toNat + sz.toNat = (μ 0 2 + sz - μ0 0 2).toNat := by omega
  have e3 : Value.ref H.size :: st0.map (cv G ρ) = ((2, μ 0 0) :: st0).map (cv G (rhoN ρ (μ 0 0) H.size)) := by
    rw [List.map_cons]
    congr 1
    · show _ = cvR (rhoN ρ (μ 0 0) H.size) (μ 0 0)
      rw [cvR_pos hp]
      unfold rhoN
      rw [if_pos rfl]
    · exact List.map_congr_left (fun q hq => (cv_ext hE (hs b3 q hq)).symm)
  have e4 : (lv.map fun q => (q.1, cv G ρ q.2)) = lv.map fun q => (q.1, cv G (rhoN ρ (μ 0 0) H.size) q.2) := List.map_congr_left (fun q hq => by rw [cv_ext hE (b2 q hq)])
  rw [e1, e2, e3]
  refine k2 O (by omega) (by omega) (by omega) a4 a5 _ H1 locs ls (by rw [← e4]; exact b1) (fun q hq => vok_mono (by omega) (b2 q hq)) (ok_cons (show 0 ≤ μ 0 0 ∧ μ 0 0 < μ 0 0 + 1 by omega) (fun q hq => vok_mono (by omega) (hs b3 q hq))) (b4.mk hB q1 q3) ⟨by rw [q2]; exact Nat.le_trans b5.1 (by omega), fun q h1 h2 => (q1 q (Nat.lt_of_lt_of_le h1 b5.1)).trans (b5.2.1 q h1 h2), b5.2.2⟩ (b6.tr hE a1)
theorem V_new (ci : Nat) {C : String} {T : u_T} {N : Nat} {idx : Nat} {n : Int} {K : Int → Mem → Rz} (hcl : vwCl[ci]? = some (C, T, N)) (h8 : ci < 8) (hN : nfl ci = N) (hn : (N : Int) = n) (hin : ∀ w ∈ u_ws C T N, w ∈ lw_all) (ty0 : Nat → FieldType) (hty : ∀ k, k < N → parseFieldDescriptor (T k).2.2.1 = some (ty0 k)) (hdf : ∀ k, k < N → dfl (ftg ci k) (ty0 k) = true) (hlink : Cond.classLink (kW κ) idx C ∈ lw_all) (hinst : Cond.instantiable C N ∈ lw_all) (hini : Cond.initialized C ∈ lw_all) (hdg : decode (kC κ) pc = .ok (.new idx, 3))
    (k : ∀ z ν, V Γ κ (pc + 3) lv ((2, z) :: st) ν (K z ν)) : V Γ κ pc lv st μ (NW ci n μ K) := by
  unfold NW
  by_cases hp : 0 < μ 0 0
  · rw [if_pos hp]
    refine V_make (pc' := pc + 3) (st0 := st) (kd := ci + 1) (len := 0) (sz := n) (by omega) ?_ (fun b => b) (fun _ => k _ _) hp
    obtain ⟨p, l, e, R, s, m, args, below, meth, c, Q, G, ρ0, μ0⟩ := Γ
    intro O
    obtain ⟨hx, hb, hml, hown, hts, hcx, hlk, htr, hfr, hlo, hrt, hin9, htab⟩ := O
    intro ρ H locs ls ce sl Q' b3 b4 b5 h1 h2 kk
    subst hN
    have hKn := hcx.1.1.1 ci _ hcl
    have hnn : n.toNat = nfl ci := by omega
    rw [hnn] at h2 kk
    refine W.newcK hx hb hown (hts _ hlink) (hts _ hinst) (hts _ hini) rfl hdg h1 h2 hKn.2.1 rfl fun H1 kC hkC e1 z1 o1 => ?_
    refine kk H1 o1 z1 (Or.inl ⟨ci, h8, mNew_kd _ _ _ _, ?_, fun j hj => ?_⟩)
    · rw [show rhoN ρ (μ 0 0) H.size (μ 0 0) = H.size by unfold rhoN; rw [if_pos rfl]]
      refine t_OB.to (u_born ty0 hts hin hKn hkC e1 hty) (fun j hj => ?_)
      rw [mNew_at _ _ _ _ (by omega)]
      exact dfl_ok (hdf j hj) G _
    · rw [mNew_at _ _ _ _ (by omega), mNew_00 hp]
      exact vok_0 _ (by omega) _
  · rw [if_neg hp]
    exact V_none
theorem isA_new {G : Gc} {ρ : Int → Nat} {μ : Mem} {H1 : Heap} {h : Nat} {t : Nat} {n : Int} {dv : Value} (hp : 0 < μ 0 0) (h0 : 0 ≤ n) (h1 : n < 100000) (hdv : ∀ ρ', dv = cv G ρ' (etg t, 0)) (e : H1[h]? = some (arrV (gA G t) n.toNat (fun _ => dv))) : isA G (rhoN ρ (μ 0 0) h) (mNew μ (t + 20) n n) H1 (μ 0 0) t := by
  have e2 := mNew_len μ (t + 20) n n
  refine ⟨by rw [e2]; exact h0, by rw [e2]; omega, ?_, fun k hk => ?_⟩
  · rw [show rhoN ρ (μ 0 0) h (μ 0 0) = h by unfold rhoN; rw [if_pos rfl], e, e2]
    refine congrArg (fun f => some (arrV _ _ f)) (funext fun j => ?_)
    rw [mNew_at _ _ _ _ (by omega)]
    exact hdv _
  · rw [mNew_at _ _ _ _ (by omega), mNew_00 hp]
    exact vok_0 _ (by omega) _
theorem V_newarray (t : Nat) (h8 : t < 4) {at9 : ArrayType} (hat : newarray.typeOf at9 = ety t) {n : Int} {K : Int → Mem → Rz} (hac : Cond.arrayClass (ety t) ∈ lw_all) (hdg : decode (kC κ) pc = .ok (.newarray at9, 2))
    (k : ∀ z ν, V Γ κ (pc + 2) lv ((2, z) :: st) ν (K z ν)) : V Γ κ pc lv ((0, n) :: st) μ (NA t n μ K) := by
  unfold NA
  by_cases hp : 0 < μ 0 0 ∧ 0 ≤ n ∧ n < 100000
  · rw [if_pos hp]
    obtain ⟨hp, h0, h1⟩ := hp
    refine V_make (pc' := pc + 2) (st0 := st) (kd := t + 20) (len := n) (sz := n) h0 ?_ (fun b => ok_tl b) (fun _ => k _ _) hp
    obtain ⟨p, l, e, R, s, m, args, below, meth, c, Q, G, ρ0, μ0⟩ := Γ
    intro O
    obtain ⟨hx, hb, hml, hown, hts, hcx, hlk, htr, hfr, hlo, hrt, hin9, htab⟩ := O
    intro ρ H locs ls ce sl Q' b3 b4 b5 h2 h3 kk
    have hi : i32 n := ok_hd b3
    have hcb : n.toNat * componentBytes (newarray.typeOf at9) ≤ 536870912 := by
      rw [hat]
      have : componentBytes (ety t) ≤ 8 := by
        rcases (by omega : t = 0 ∨ t = 1 ∨ t = 2 ∨ t = 3) with rfl | rfl | rfl | rfl <;> decide
      calc n.toNat * componentBytes (ety t) ≤ 100000 * 8 := Nat.mul_le_mul (by omega) this
        _ ≤ 536870912 := by decide
    refine va_newaK (n := Int32.ofInt n) (N := n.toNat) hx hb (by rw [hat]; exact hts _ hac) rfl hdg rfl ?_ ?_ hcb h2 h3 rfl fun H1 cA e1 z1 o1 hAr hNm => ?_
    · rw [← oi_0, oi_lt hi i32_0]
      omega
    · show (Int32.ofInt n).toInt.toNat = _
      rw [oi_to hi]
    · rw [hat] at e1 hNm
      have hcA : cA = gA G t := by
        have h4 : va_RA s (gA G t) (ety t) := (hcx.1.1.2 t _ (tysG_at G (by omega))).2
        have h5 : s.vm.findClass ("[" ++ (ety t).toString) = some (gA G t) := by
          rcases (by omega : t = 0 ∨ t = 1 ∨ t = 2 ∨ t = 3) with rfl | rfl | rfl | rfl <;> exact h4
        exact Option.some.inj (hNm.symm.trans h5)
      subst hcA
      refine kk H1 o1 z1 (Or.inr ⟨t, by omega, mNew_kd _ _ _ _, isA_new hp h0 h1 (fun ρ' => ?_) e1⟩)
      rcases (by omega : t = 0 ∨ t = 1 ∨ t = 2 ∨ t = 3) with rfl | rfl | rfl | rfl
      · show Value.int 0 = .int (Int32.ofInt 0)
        rw [oi_0]
      · show Value.int 0 = .int (Int32.ofInt 0)
        rw [oi_0]
      · show Value.long 0 = .long (Int64.ofInt 0)
        rw [lo_0]
      · rfl
  · rw [if_neg hp]
    exact V_none
theorem V_anewarray (t : Nat) (h8 : t < 8) {C : String} (hC : ety t = .object C) (he : etg t = 2) {idx : Nat} {n : Int} {K : Int → Mem → Rz} (hlink : Cond.classLink (kW κ) idx C ∈ lw_all) (hao : ∀ (G : Gc) (s : State), CxP G s → va_AO C s) (hdg : decode (kC κ) pc = .ok (.anewarray idx, 3))
    (k : ∀ z ν, V Γ κ (pc + 3) lv ((2, z) :: st) ν (K z ν)) : V Γ κ pc lv ((0, n) :: st) μ (NA t n μ K) := by
  unfold NA
  by_cases hp : 0 < μ 0 0 ∧ 0 ≤ n ∧ n < 100000
  · rw [if_pos hp]
    obtain ⟨hp, h0, h1⟩ := hp
    refine V_make (pc' := pc + 3) (st0 := st) (kd := t + 20) (len := n) (sz := n) h0 ?_ (fun b => ok_tl b) (fun _ => k _ _) hp
    obtain ⟨p, l, e, R, s, m, args, below, meth, c, Q, G, ρ0, μ0⟩ := Γ
    intro O
    obtain ⟨hx, hb, hml, hown, hts, hcx, hlk, htr, hfr, hlo, hrt, hin9, htab⟩ := O
    intro ρ H locs ls ce sl Q' b3 b4 b5 h2 h3 kk
    have hi : i32 n := ok_hd b3
    have hN : (Int32.ofInt n).toNatClampNeg = n.toNat := by
      show (Int32.ofInt n).toInt.toNat = _
      rw [oi_to hi]
    refine W.anew (n := Int32.ofInt n) hx hb hown (hts _ hlink) (va_AO.use (hao G s hcx)) rfl hdg rfl ?_ (by rw [hN]; omega) h2 (by rw [hN]; exact h3) fun cA kA comp f1 f2 f3 f4 => ?_
    · rw [← oi_0, oi_lt hi i32_0]
      omega
    · rw [hN]
      have hcA : cA = gA G t := by
        have h4 : va_RA s (gA G t) (ety t) := (hcx.1.1.2 t _ (tysG_at G h8)).2
        rw [hC] at h4
        obtain ⟨_, _, -, -, -, h5⟩ := h4
        exact Option.some.inj (f1.symm.trans h5)
      subst hcA
      refine kk _ (fun q hq => ?_) (by rw [Array.size_push]) (Or.inr ⟨t, h8, mNew_kd _ _ _ _, isA_new (dv := .null) hp h0 h1 (fun ρ' => by rw [he]; rfl) ?_⟩)
      · rw [Array.getElem?_push, if_neg (Nat.ne_of_lt hq)]
      · rw [Array.getElem?_push_size, ← arrV_new]
  · rw [if_neg hp]
    exact V_none
end VMAKE
