/-! rows of V that make cells: by the component (numbers upward), by the law (numbers downward) -/
def rhoN (ρ : Int → Nat) (n : Int) (h : Nat) : Int → Nat := fun a => if a = n then h else ρ a
/-- the memory ν has the number n0 more -/
def Mk (μ ν : Mem) (n0 : Int) : Prop := (own n0 ∧ ¬ (μ 0 3 < n0 ∧ n0 < μ 0 0)) ∧ (∀ a, ν 0 3 < a → a < ν 0 0 → a ≠ n0 → μ 0 3 < a ∧ a < μ 0 0) ∧ (ν 0 3 < n0 ∧ n0 < ν 0 0) ∧ (∀ a k, a ≠ 0 → a ≠ n0 → ν a k = μ a k) ∧ ν 0 (-1) = μ 0 (-1)
theorem rhoN_ext {ρ : Int → Nat} {μ ν : Mem} {n : Int} {h : Nat} (hM : Mk μ ν n) : Ext (bd μ) ρ (rhoN ρ n h) := fun a _ h1 h2 => by
  unfold rhoN
  have h3 := hM.1.2
  have h1' : μ 0 3 < a := h1
  have h2' : a < μ 0 0 := h2
  rw [if_neg (by intro e; rw [e] at h1' h2'; exact h3 ⟨h1', h2'⟩)]
theorem mNew_00 {μ : Mem} (h : 0 < μ 0 0) (kd len sz : Int) : mNew μ kd len sz 0 0 = μ 0 0 + 1 := by
  unfold mNew
  rw [if_neg (by omega), if_pos ⟨rfl, rfl⟩]
theorem mNew_01 {μ : Mem} (h : 0 < μ 0 0) (kd len sz : Int) : mNew μ kd len sz 0 1 = μ 0 1 + 1 := by
  unfold mNew
  rw [if_neg (by omega), if_neg (by omega), if_pos ⟨rfl, rfl⟩]
theorem mNew_02 {μ : Mem} (h : 0 < μ 0 0) (kd len sz : Int) : mNew μ kd len sz 0 2 = μ 0 2 + sz := by
  unfold mNew
  rw [if_neg (by omega), if_neg (by omega), if_neg (by omega), if_pos ⟨rfl, rfl⟩]
theorem mNew_03 {μ : Mem} (h : 0 < μ 0 0) (kd len sz : Int) : mNew μ kd len sz 0 3 = μ 0 3 := by
  unfold mNew
  rw [if_neg (by omega), if_neg (by omega), if_neg (by omega), if_neg (by omega)]
theorem mNew_old {μ : Mem} {a : Int} (h1 : a ≠ μ 0 0) (h2 : a ≠ 0) (kd len sz k : Int) : mNew μ kd len sz a k = μ a k := by
  unfold mNew
  rw [if_neg h1, if_neg (by omega), if_neg (by omega), if_neg (by omega)]
theorem mNew_kd (μ : Mem) (kd len sz : Int) : mNew μ kd len sz (μ 0 0) (-1) = kd := by
  unfold mNew
  rw [if_pos rfl, if_pos rfl]
theorem mNew_len (μ : Mem) (kd len sz : Int) : mNew μ kd len sz (μ 0 0) (-2) = len := by
  unfold mNew
  rw [if_pos rfl, if_neg (by omega), if_pos rfl]
theorem mNew_at (μ : Mem) (kd len sz : Int) {k : Int} (h : 0 ≤ k) : mNew μ kd len sz (μ 0 0) k = 0 := by
  unfold mNew
  rw [if_pos rfl, if_neg (by omega), if_neg (by omega)]
theorem mNew_Mk {μ : Mem} (h : 0 < μ 0 0) (h3 : μ 0 3 < -21) (kd len sz : Int) : Mk μ (mNew μ kd len sz) (μ 0 0) := by
  unfold Mk own
  rw [mNew_00 h, mNew_03 h]
  refine ⟨⟨Or.inl h, by omega⟩, fun a h1 h2 h3 => by omega, by omega, fun a k h1 h2 => mNew_old h2 h1 kd len sz k, ?_⟩
  unfold mNew
  rw [if_neg (by omega), if_neg (by omega), if_neg (by omega), if_neg (by omega)]
theorem mNewN_00 {μ : Mem} (h : μ 0 3 < -21) (kd len sz : Int) : mNewN μ kd len sz 0 0 = μ 0 0 := by
  unfold mNewN
  rw [if_neg (by omega), if_neg (by omega), if_neg (by omega), if_neg (by omega)]
theorem mNewN_01 {μ : Mem} (h : μ 0 3 < -21) (kd len sz : Int) : mNewN μ kd len sz 0 1 = μ 0 1 + 1 := by
  unfold mNewN
  rw [if_neg (by omega), if_neg (by omega), if_pos ⟨rfl, rfl⟩]
theorem mNewN_02 {μ : Mem} (h : μ 0 3 < -21) (kd len sz : Int) : mNewN μ kd len sz 0 2 = μ 0 2 + sz := by
  unfold mNewN
  rw [if_neg (by omega), if_neg (by omega), if_neg (by omega), if_pos ⟨rfl, rfl⟩]
theorem mNewN_03 {μ : Mem} (h : μ 0 3 < -21) (kd len sz : Int) : mNewN μ kd len sz 0 3 = μ 0 3 - 1 := by
  unfold mNewN
  rw [if_neg (by omega), if_pos ⟨rfl, rfl⟩]
theorem mNewN_old {μ : Mem} {a : Int} (h1 : a ≠ μ 0 3) (h2 : a ≠ 0) (kd len sz k : Int) : mNewN μ kd len sz a k = μ a k := by
  unfold mNewN
  rw [if_neg h1, if_neg (by omega), if_neg (by omega), if_neg (by omega)]
theorem mNewN_kd (μ : Mem) (kd len sz : Int) : mNewN μ kd len sz (μ 0 3) (-1) = kd := by
  unfold mNewN
  rw [if_pos rfl, if_pos rfl]
theorem mNewN_len (μ : Mem) (kd len sz : Int) : mNewN μ kd len sz (μ 0 3) (-2) = len := by
  unfold mNewN
  rw [if_pos rfl, if_neg (by omega), if_pos rfl]
theorem mNewN_at (μ : Mem) (kd len sz : Int) {k : Int} (h : 0 ≤ k) : mNewN μ kd len sz (μ 0 3) k = 0 := by
  unfold mNewN
  rw [if_pos rfl, if_neg (by omega), if_neg (by omega)]
theorem mNewN_Mk {μ : Mem} (h0 : 0 < μ 0 0) (h : μ 0 3 < -21) (kd len sz : Int) : Mk μ (mNewN μ kd len sz) (μ 0 3) := by
  unfold Mk own
  rw [mNewN_00 h, mNewN_03 h]
  refine ⟨⟨Or.inr h, by omega⟩, fun a h1 h2 h3 => by omega, by omega, fun a k h1 h2 => mNewN_old h2 h1 kd len sz k, ?_⟩
  unfold mNewN
  rw [if_neg (by omega), if_neg (by omega), if_neg (by omega), if_neg (by omega)]
theorem okC.ext {G : Gc} {ρ ρ' : Int → Nat} {μ ν : Mem} {H : Heap} {a : Int} (h : okC G ρ μ H a) (ha : ρ' a = ρ a) (hE : Ext (bd μ) ρ ρ') (hr : ∀ k, ν a k = μ a k) (hn : μ 0 0 ≤ ν 0 0 ∧ ν 0 3 ≤ μ 0 3) : okC G ρ' ν H a := by
  rcases h with ⟨ci, h1, h2, h3, h4⟩ | ⟨t, h1, h2, h3, h5, h4, h6⟩
  · refine Or.inl ⟨ci, h1, by rw [hr]; exact h2, ?_, fun k hk => by rw [hr]; exact vok_mono hn (h4 k hk)⟩
    rw [ha]
    exact t_OB.to h3 (fun j hj => by rw [hr]; exact (cv_ext hE (h4 j hj)).symm)
  · refine Or.inr ⟨t, h1, by rw [hr]; exact h2, by rw [hr]; exact h3, by rw [hr]; exact h5, ?_, fun k hk => ?_⟩
    · rw [ha, h4, hr]
      have hz : ∀ j : Nat, j < (μ a (-2)).toNat → cv G ρ (etg t, μ a j) = cv G ρ' (etg t, ν a j) := fun j hj => by
        rw [hr]
        exact (cv_ext hE (h6 j (by omega))).symm
      unfold arrV
      congr 2
      refine Array.ext (by simp) (fun j h7 h8 => ?_)
      simp only [Array.getElem_ofFn]
      exact hz j (by simpa using h7)
    · rw [hr] at hk ⊢
      exact vok_mono hn (h6 k hk)
theorem okG.ext {G : Gc} {ρ ρ' : Int → Nat} {μ ν : Mem} {H : Heap} {a : Int} (h : okG G ρ μ H a) (hr : ρ' a = ρ a) (hE : Ext (bd μ) ρ ρ') (hk : ∀ k, ν a k = μ a k) (hn : μ 0 0 ≤ ν 0 0 ∧ ν 0 3 ≤ μ 0 3) : okG G ρ' ν H a := by
  rcases h with h | h
  · exact Or.inl (h.ext hr hE hk hn)
  · exact Or.inr (h.sim hr (fun x hx => cv_ext hE hx) hk (fun x hx => vok_mono hn hx))
theorem rhoN_at {ρ : Int → Nat} {n : Int} {h : Nat} : rhoN ρ n h n = h := if_pos rfl
theorem rhoN_ne {ρ : Int → Nat} {n a : Int} {h : Nat} (ha : a ≠ n) : rhoN ρ n h a = ρ a := if_neg ha
theorem GP.mk {G : Gc} {ρ : Int → Nat} {μ ν : Mem} {H H1 : Heap} {n0 : Int} (h : GP G ρ μ H) (hM : Mk μ ν n0) (hm : μ 0 0 ≤ ν 0 0 ∧ ν 0 3 ≤ μ 0 3) (hB : gB G ≤ H.size) (hq : ∀ q : Nat, q < H.size → H1[q]? = H[q]?) (hc : okC G (rhoN ρ n0 H.size) ν H1 n0) : GP G (rhoN ρ n0 H.size) ν H1 := by
  have hE : Ext (bd μ) ρ (rhoN ρ n0 H.size) := rhoN_ext hM
  obtain ⟨⟨m1, m2⟩, m3, m4, m5, m6⟩ := hM
  refine ⟨⟨Int.lt_of_lt_of_le h.1.1 hm.1, Int.lt_of_le_of_lt hm.2 h.1.2.1, fun k k0 k1 => ?_⟩, by rw [m6]; exact h.2.1, fun a ha0 ha han => ?_, fun a b ha hb h1 h2 h3 h4 hab => ?_⟩
  · rw [rhoN_ne (by unfold own at m1; omega)]
    exact h.1.2.2 k k0 k1
  · by_cases e : a = n0
    · rw [e, rhoN_at]
      exact ⟨⟨fun _ => hB, fun z => absurd m1 z⟩, Or.inl hc⟩
    · obtain ⟨r1, r2⟩ := m3 a ha han e
      obtain ⟨g1, g2⟩ := h.2.2.1 a ha0 r1 r2
      rw [rhoN_ne e]
      exact ⟨g1, (g2.kept (hq _ g2.lt)).ext (rhoN_ne e) hE (fun k => m5 a k ha0 e) hm⟩
  · by_cases e : a = n0 <;> by_cases e' : b = n0
    · rw [e, e']
    · exfalso
      obtain ⟨r1, r2⟩ := m3 b h3 h4 e'
      have hl := (h.2.2.1 b (own_ne hb) r1 r2).2.lt
      rw [e, rhoN_at, rhoN_ne e'] at hab
      omega
    · exfalso
      obtain ⟨r1, r2⟩ := m3 a h1 h2 e
      have hl := (h.2.2.1 a (own_ne ha) r1 r2).2.lt
      rw [e', rhoN_at, rhoN_ne e] at hab
      omega
    · obtain ⟨r1, r2⟩ := m3 a h1 h2 e
      obtain ⟨r3, r4⟩ := m3 b h3 h4 e'
      rw [rhoN_ne e, rhoN_ne e'] at hab
      exact h.2.2.2 a b ha hb r1 r2 r3 r4 hab
def dfl (t : Nat) (ty : FieldType) : Bool := match ty with
  | .int => t == 0
  | .byte => t == 0
  | .boolean => t == 0
  | .long => t == 1
  | .object _ => t == 2
  | .array _ => t == 2
  | _ => false
theorem dfl_ok {t : Nat} {ty : FieldType} (h : dfl t ty = true) (G : Gc) (ρ : Int → Nat) : defaultValue ty = cv G ρ (t, 0) := by
  cases ty <;> simp only [dfl, beq_iff_eq, Bool.false_eq_true] at h <;> subst h
  · show Value.int 0 = .int (Int32.ofInt 0)
    rw [oi_0]
  · show Value.int 0 = .int (Int32.ofInt 0)
    rw [oi_0]
  · show Value.long 0 = .long (Int64.ofInt 0)
    rw [lo_0]
  · show Value.int 0 = .int (Int32.ofInt 0)
    rw [oi_0]
  · rfl
  · rfl
theorem vok_0 (n : Int × Int) (h : n.2 < 0 ∧ 0 < n.1) (t : Nat) : vok n (t, 0) := by
  match t with
  | 0 => exact i32_0
  | 1 => exact i64_0
  | 2 => exact h
  | 3 => exact ⟨by decide, by decide⟩
  | 4 => exact ⟨by decide, by decide⟩
  | 5 => exact ⟨by decide, by decide⟩
  | 6 => trivial
  | _ + 7 => trivial
section VMAKE
variable {Γ : Gam} {κ : Kap} {pc : Nat} {lv : List (Nat × AV)} {st : List AV} {μ ν : Mem} {r : Rz}
theorem V_make {pc' : Nat} {st0 : List AV} {n0 sz : Int} (hz : 0 ≤ sz) (hm : (μ 0 0 ≤ ν 0 0 ∧ ν 0 3 ≤ μ 0 3) ∧ ν 0 1 = μ 0 1 + 1 ∧ ν 0 2 = μ 0 2 + sz) (hM : 0 < μ 0 0 → μ 0 3 < -21 → Mk μ ν n0)
    (h : match Γ with
      | (p, l, e, R, s, m, args, below, meth, c, Q, G, ρ0, μ0) => Ok (p, l, e, R, s, m, args, below, meth, c, Q, G, ρ0, μ0) κ → ∀ (ρ : Int → Nat) (H : Heap) (locs : List Loc) (ls : Array Slot) (ce sl : Nat) (Q' : State → Prop), ls.size = kN κ → (∀ q ∈ st, vok (bd μ) q) → GP G ρ μ H → va_S (fun q => gB G ≤ q) s.heap H locs → ce + 1 ≤ R.cells → sl + sz.toNat ≤ R.slots →
        (∀ H1 : Heap, (∀ q : Nat, q < H.size → H1[q]? = H[q]?) → H1.size = H.size + 1 → okC G (rhoN ρ n0 H.size) ν H1 n0 → W p l e R s m args below meth c H1 locs (ce + 1) (sl + sz.toNat) Q' (F0 m pc' ls (.ref H.size :: st0.map (cv G ρ)))) → W p l e R s m args below meth c H locs ce sl Q' (F0 m pc ls (st.map (cv G ρ))))
    (hs : (∀ q ∈ st, vok (bd μ) q) → ∀ q ∈ st0, vok (bd μ) q)
    (k : V Γ κ pc' lv ((2, n0) :: st0) ν r) : V Γ κ pc lv st μ r := by
  obtain ⟨p, l, e, R, s, m, args, below, meth, c, Q, G, ρ0, μ0⟩ := Γ
  intro x v μ' hr
  obtain ⟨k1, k2⟩ := k x v μ' hr
  obtain ⟨hm0, hm1, hm2⟩ := hm
  rw [hm1, hm2] at k1 k2
  refine ⟨by omega, fun O a1 a2 a3 a4 a5 ρ H locs ls b1 b2 b3 b4 b5 b6 => ?_⟩
  have hMk := hM b4.1.1 b4.1.2.1
  have hcx : CxP G s := O.2.2.2.2.2.1
  refine h O ρ H locs ls _ _ _ b1.1 b3 b4 b5 (by omega) (by omega) (fun H1 q1 q2 q3 => ?_)
  have hE : Ext (bd μ) ρ (rhoN ρ n0 H.size) := rhoN_ext hMk
  have hB : gB G ≤ H.size := Nat.le_trans hcx.1.2.1 b5.1
  have e1 : (μ 0 1 - μ0 0 1).toNat + 1 = (μ 0 1 + 1 - μ0 0 1).toNat := by omega
  have e2 : (μ 0 2 - μ0 0 2).toNat + sz.toNat = (μ 0 2 + sz - μ0 0 2).toNat := by omega
  have e3 : Value.ref H.size :: st0.map (cv G ρ) = ((2, n0) :: st0).map (cv G (rhoN ρ n0 H.size)) := by
    rw [List.map_cons]
    congr 1
    · show _ = cvR (rhoN ρ n0 H.size) n0
      rw [cvR_pos (own_ne hMk.1.1), rhoN_at]
    · exact List.map_congr_left (fun q hq => (cv_ext hE (hs b3 q hq)).symm)
  have e4 : (lv.map fun q => (q.1, cv G ρ q.2)) = lv.map fun q => (q.1, cv G (rhoN ρ n0 H.size) q.2) := List.map_congr_left (fun q hq => by rw [cv_ext hE (b2 q hq)])
  rw [e1, e2, e3]
  refine k2 O (by omega) (by omega) (by omega) a4 a5 _ H1 locs ls (by rw [← e4]; exact b1) (fun q hq => vok_bd hm0 (b2 q hq)) (ok_cons (show ν 0 3 < n0 ∧ n0 < ν 0 0 from hMk.2.2.1) (fun q hq => vok_bd hm0 (hs b3 q hq))) (b4.mk hMk hm0 hB q1 q3) ⟨by rw [q2]; exact Nat.le_trans b5.1 (by omega), fun q h1 h2 => (q1 q (Nat.lt_of_lt_of_le h1 b5.1)).trans (b5.2.1 q h1 h2), b5.2.2⟩ (b6.tr hE a1)
theorem V_newG (ci : Nat) {C : String} {T : u_T} {N : Nat} {idx : Nat} {n n0 : Int} (hcl : vwC[ci]? = some (C, T, N)) (h8 : ci < 12) (hN : nfl ci = N) (hn : (N : Int) = n) (hin : ∀ w ∈ u_ws C T N, w ∈ lw_all) (ty0 : Nat → FieldType) (hty : ∀ k, k < N → parseFieldDescriptor (T k).2.2.1 = some (ty0 k)) (hdf : ∀ k, k < N → dfl (ftg ci k) (ty0 k) = true) (hlink : Cond.classLink (kW κ) idx C ∈ lw_all) (hinst : Cond.instantiable C N ∈ lw_all) (hini : Cond.initialized C ∈ lw_all) (hdg : decode (kC κ) pc = .ok (.new idx, 3))
    (hm : (μ 0 0 ≤ ν 0 0 ∧ ν 0 3 ≤ μ 0 3) ∧ ν 0 1 = μ 0 1 + 1 ∧ ν 0 2 = μ 0 2 + n) (hM : 0 < μ 0 0 → μ 0 3 < -21 → Mk μ ν n0) (hk0 : ν n0 (-1) = ci + 1) (hk1 : ∀ j : Int, 0 ≤ j → ν n0 j = 0)
    (k : V Γ κ (pc + 3) lv ((2, n0) :: st) ν r) : V Γ κ pc lv st μ r := by
  refine V_make (pc' := pc + 3) (st0 := st) (n0 := n0) (sz := n) (by omega) hm hM ?_ (fun b => b) k
  obtain ⟨p, l, e, R, s, m, args, below, meth, c, Q, G, ρ0, μ0⟩ := Γ
  intro O
  obtain ⟨hx, hb, hml, hown, hts, hcx, hlk, htr, hfr, hlo, hrt, hin9, htab⟩ := O
  intro ρ H locs ls ce sl Q' b1 b3 b4 b5 h1 h2 kk
  subst hN
  have hKn := hcx.1.1.1 ci _ hcl
  have hnn : n.toNat = nfl ci := by omega
  rw [hnn] at h2 kk
  refine W.newcK hx hb hown (hts _ hlink) (hts _ hinst) (hts _ hini) rfl hdg h1 h2 hKn.2.1 rfl fun H1 kC hkC e1 z1 o1 => ?_
  refine kk H1 o1 z1 (Or.inl ⟨ci, h8, hk0, ?_, fun j hj => ?_⟩)
  · rw [rhoN_at]
    refine t_OB.to (u_born ty0 hts hin hKn hkC e1 hty) (fun j hj => ?_)
    rw [hk1 _ (by omega)]
    exact dfl_ok (hdf j hj) G _
  · rw [hk1 _ (by omega)]
    exact vok_0 _ (show ν 0 3 < 0 ∧ 0 < ν 0 0 from ⟨by have := b4.1.2.1; omega, by have := b4.1.1; omega⟩) _
theorem V_new (ci : Nat) {C : String} {T : u_T} {N : Nat} {idx : Nat} {n : Int} {K : Int → Mem → Rz} (hcl : vwC[ci]? = some (C, T, N)) (h8 : ci < 12) (hN : nfl ci = N) (hn : (N : Int) = n) (hin : ∀ w ∈ u_ws C T N, w ∈ lw_all) (ty0 : Nat → FieldType) (hty : ∀ k, k < N → parseFieldDescriptor (T k).2.2.1 = some (ty0 k)) (hdf : ∀ k, k < N → dfl (ftg ci k) (ty0 k) = true) (hlink : Cond.classLink (kW κ) idx C ∈ lw_all) (hinst : Cond.instantiable C N ∈ lw_all) (hini : Cond.initialized C ∈ lw_all) (hdg : decode (kC κ) pc = .ok (.new idx, 3))
    (k : ∀ z ν, V Γ κ (pc + 3) lv ((2, z) :: st) ν (K z ν)) : V Γ κ pc lv st μ (NW ci n μ K) := by
  unfold NW
  by_cases hp : 0 < μ 0 0
  · rw [if_pos hp]
    exact V_newG ci hcl h8 hN hn hin ty0 hty hdf hlink hinst hini hdg ⟨by rw [mNew_00 hp, mNew_03 hp]; omega, mNew_01 hp _ _ _, mNew_02 hp _ _ _⟩ (fun _ h3 => mNew_Mk hp h3 _ _ _) (mNew_kd _ _ _ _) (fun j hj => mNew_at _ _ _ _ hj) (k _ _)
  · rw [if_neg hp]
    exact V_none
theorem V_newN (ci : Nat) {C : String} {T : u_T} {N : Nat} {idx : Nat} {n : Int} {K : Int → Mem → Rz} (hcl : vwC[ci]? = some (C, T, N)) (h8 : ci < 12) (hN : nfl ci = N) (hn : (N : Int) = n) (hin : ∀ w ∈ u_ws C T N, w ∈ lw_all) (ty0 : Nat → FieldType) (hty : ∀ k, k < N → parseFieldDescriptor (T k).2.2.1 = some (ty0 k)) (hdf : ∀ k, k < N → dfl (ftg ci k) (ty0 k) = true) (hlink : Cond.classLink (kW κ) idx C ∈ lw_all) (hinst : Cond.instantiable C N ∈ lw_all) (hini : Cond.initialized C ∈ lw_all) (hdg : decode (kC κ) pc = .ok (.new idx, 3))
    (k : ∀ z ν, V Γ κ (pc + 3) lv ((2, z) :: st) ν (K z ν)) : V Γ κ pc lv st μ (NWn ci n μ K) := by
  unfold NWn
  by_cases hp : μ 0 3 < -21
  · rw [if_pos hp]
    exact V_newG ci hcl h8 hN hn hin ty0 hty hdf hlink hinst hini hdg ⟨by rw [mNewN_00 hp, mNewN_03 hp]; omega, mNewN_01 hp _ _ _, mNewN_02 hp _ _ _⟩ (fun h0 _ => mNewN_Mk h0 hp _ _ _) (mNewN_kd _ _ _ _) (fun j hj => mNewN_at _ _ _ _ hj) (k _ _)
  · rw [if_neg hp]
    exact V_none
theorem isA_new {G : Gc} {ρ : Int → Nat} {H1 : Heap} {h : Nat} {t : Nat} {n n0 : Int} {dv : Value} (hp : ν 0 3 < 0 ∧ 0 < ν 0 0) (h0 : 0 ≤ n) (h1 : n < 100000) (hk1 : ν n0 (-2) = n) (hk2 : ∀ j : Int, 0 ≤ j → ν n0 j = 0) (hdv : ∀ ρ', dv = cv G ρ' (etg t, 0)) (e : H1[h]? = some (arrV (gA G t) n.toNat (fun _ => dv))) : isA G (rhoN ρ n0 h) ν H1 n0 t := by
  refine ⟨by rw [hk1]; exact h0, by rw [hk1]; omega, ?_, fun k hk => ?_⟩
  · rw [rhoN_at, e, hk1]
    refine congrArg (fun f => some (arrV _ _ f)) (funext fun j => ?_)
    rw [hk2 _ (by omega)]
    exact hdv _
  · rw [hk2 _ (by omega)]
    exact vok_0 _ hp _
theorem V_newarrayG (t : Nat) (h8 : t < 2) {at9 : ArrayType} (hat : newarray.typeOf at9 = ety t) {n n0 : Int} (hac : Cond.arrayClass (ety t) ∈ lw_all) (hdg : decode (kC κ) pc = .ok (.newarray at9, 2)) (h0 : 0 ≤ n) (h1 : n < 100000)
    (hm : (μ 0 0 ≤ ν 0 0 ∧ ν 0 3 ≤ μ 0 3) ∧ ν 0 1 = μ 0 1 + 1 ∧ ν 0 2 = μ 0 2 + n) (hM : 0 < μ 0 0 → μ 0 3 < -21 → Mk μ ν n0) (hk0 : ν n0 (-1) = t + 20) (hk1 : ν n0 (-2) = n) (hk2 : ∀ j : Int, 0 ≤ j → ν n0 j = 0)
    (k : V Γ κ (pc + 2) lv ((2, n0) :: st) ν r) : V Γ κ pc lv ((0, n) :: st) μ r := by
  refine V_make (pc' := pc + 2) (st0 := st) (n0 := n0) (sz := n) h0 hm hM ?_ (fun b => ok_tl b) k
  obtain ⟨p, l, e, R, s, m, args, below, meth, c, Q, G, ρ0, μ0⟩ := Γ
  intro O
  obtain ⟨hx, hb, hml, hown, hts, hcx, hlk, htr, hfr, hlo, hrt, hin9, htab⟩ := O
  intro ρ H locs ls ce sl Q' b1 b3 b4 b5 h2 h3 kk
  have hi : i32 n := ok_hd b3
  have hcb : n.toNat * componentBytes (newarray.typeOf at9) ≤ 536870912 := by
    rw [hat]
    have : componentBytes (ety t) ≤ 8 := by
      rcases (by omega : t = 0 ∨ t = 1) with rfl | rfl <;> decide
    calc n.toNat * componentBytes (ety t) ≤ 100000 * 8 := Nat.mul_le_mul (by omega) this
      _ ≤ 536870912 := by decide
  refine va_newaK (n := Int32.ofInt n) (N := n.toNat) hx hb (by rw [hat]; exact hts _ hac) rfl hdg rfl ?_ ?_ hcb h2 h3 rfl fun H1 cA e1 z1 o1 hAr hNm => ?_
  · rw [← oi_0, oi_lt hi i32_0]
    omega
  · show (Int32.ofInt n).toInt.toNat = _
    rw [oi_to hi]
  · rw [hat] at e1 hNm
    have hcA : cA = gA G t := by
      have h4 : va_RA s (gA G t) (ety t) := (hcx.1.1.2 t _ (tysG_at G (by omega))).2
      have h5 : s.vm.findClass ("[" ++ (ety t).toString) = some (gA G t) := by
        rcases (by omega : t = 0 ∨ t = 1) with rfl | rfl <;> exact h4
      exact Option.some.inj (hNm.symm.trans h5)
    subst hcA
    refine kk H1 o1 z1 (Or.inr ⟨t, by omega, hk0, isA_new ⟨by have := b4.1.2.1; omega, by have := b4.1.1; omega⟩ h0 h1 hk1 hk2 (fun ρ' => ?_) e1⟩)
    rcases (by omega : t = 0 ∨ t = 1) with rfl | rfl
    · show Value.int 0 = .int (Int32.ofInt 0)
      rw [oi_0]
    · show Value.int 0 = .int (Int32.ofInt 0)
      rw [oi_0]
theorem V_newarray (t : Nat) (h8 : t < 2) {at9 : ArrayType} (hat : newarray.typeOf at9 = ety t) {n : Int} {K : Int → Mem → Rz} (hac : Cond.arrayClass (ety t) ∈ lw_all) (hdg : decode (kC κ) pc = .ok (.newarray at9, 2))
    (k : ∀ z ν, V Γ κ (pc + 2) lv ((2, z) :: st) ν (K z ν)) : V Γ κ pc lv ((0, n) :: st) μ (NA t n μ K) := by
  unfold NA
  by_cases hp : 0 < μ 0 0 ∧ 0 ≤ n ∧ n < 100000
  · rw [if_pos hp]
    obtain ⟨hp, h0, h1⟩ := hp
    exact V_newarrayG t h8 hat hac hdg h0 h1 ⟨by rw [mNew_00 hp, mNew_03 hp]; omega, mNew_01 hp _ _ _, mNew_02 hp _ _ _⟩ (fun _ h3 => mNew_Mk hp h3 _ _ _) (mNew_kd _ _ _ _) (mNew_len _ _ _ _) (fun j hj => mNew_at _ _ _ _ hj) (k _ _)
  · rw [if_neg hp]
    exact V_none
theorem V_newarrayN (t : Nat) (h8 : t < 2) {at9 : ArrayType} (hat : newarray.typeOf at9 = ety t) {n : Int} {K : Int → Mem → Rz} (hac : Cond.arrayClass (ety t) ∈ lw_all) (hdg : decode (kC κ) pc = .ok (.newarray at9, 2))
    (k : ∀ z ν, V Γ κ (pc + 2) lv ((2, z) :: st) ν (K z ν)) : V Γ κ pc lv ((0, n) :: st) μ (NAn t n μ K) := by
  unfold NAn
  by_cases hp : μ 0 3 < -21 ∧ 0 ≤ n ∧ n < 100000
  · rw [if_pos hp]
    obtain ⟨hp, h0, h1⟩ := hp
    exact V_newarrayG t h8 hat hac hdg h0 h1 ⟨by rw [mNewN_00 hp, mNewN_03 hp]; omega, mNewN_01 hp _ _ _, mNewN_02 hp _ _ _⟩ (fun h0 _ => mNewN_Mk h0 hp _ _ _) (mNewN_kd _ _ _ _) (mNewN_len _ _ _ _) (fun j hj => mNewN_at _ _ _ _ hj) (k _ _)
  · rw [if_neg hp]
    exact V_none
theorem V_anewarrayG (t : Nat) (h8 : t < 8) {C : String} (hC : ety t = .object C) (he : etg t = 2) {idx : Nat} {n n0 : Int} (hlink : Cond.classLink (kW κ) idx C ∈ lw_all) (hao : ∀ (G : Gc) (s : State), CxP G s → va_AO C s) (hdg : decode (kC κ) pc = .ok (.anewarray idx, 3)) (h0 : 0 ≤ n) (h1 : n < 100000)
    (hm : (μ 0 0 ≤ ν 0 0 ∧ ν 0 3 ≤ μ 0 3) ∧ ν 0 1 = μ 0 1 + 1 ∧ ν 0 2 = μ 0 2 + n) (hM : 0 < μ 0 0 → μ 0 3 < -21 → Mk μ ν n0) (hk0 : ν n0 (-1) = t + 20) (hk1 : ν n0 (-2) = n) (hk2 : ∀ j : Int, 0 ≤ j → ν n0 j = 0)
    (k : V Γ κ (pc + 3) lv ((2, n0) :: st) ν r) : V Γ κ pc lv ((0, n) :: st) μ r := by
  refine V_make (pc' := pc + 3) (st0 := st) (n0 := n0) (sz := n) h0 hm hM ?_ (fun b => ok_tl b) k
  obtain ⟨p, l, e, R, s, m, args, below, meth, c, Q, G, ρ0, μ0⟩ := Γ
  intro O
  obtain ⟨hx, hb, hml, hown, hts, hcx, hlk, htr, hfr, hlo, hrt, hin9, htab⟩ := O
  intro ρ H locs ls ce sl Q' b1 b3 b4 b5 h2 h3 kk
  have hi : i32 n := ok_hd b3
  have hN : (Int32.ofInt n).toNatClampNeg = n.toNat := by
    show (Int32.ofInt n).toInt.toNat = _
    rw [oi_to hi]
  refine W.anew (n := Int32.ofInt n) hx hb hown (hts _ hlink) (va_AO.use (hao G s hcx)) rfl hdg rfl ?_ (by rw [hN]; omega) h2 (by rw [hN]; exact h3) fun cA kA comp f1 f2 f3 f4 => ?_
  · rw [← oi_0, oi_lt hi i32_0]
    omega
  · rw [hN]
    have hcA : cA = gA G t := by
      have h4 : va_RA s (gA G t) (ety t) := (hcx.1.1.2 t _ (tysG_at G h8)).2
      rw [hC] at h4
      obtain ⟨_, _, -, -, -, h5⟩ := h4
      exact Option.some.inj (f1.symm.trans h5)
    subst hcA
    refine kk _ (fun q hq => ?_) (by rw [Array.size_push]) (Or.inr ⟨t, h8, hk0, isA_new (dv := .null) ⟨by have := b4.1.2.1; omega, by have := b4.1.1; omega⟩ h0 h1 hk1 hk2 (fun ρ' => by rw [he]; rfl) ?_⟩)
    · rw [Array.getElem?_push, if_neg (Nat.ne_of_lt hq)]
    · rw [Array.getElem?_push_size, ← arrV_new]
theorem V_anewarray (t : Nat) (h8 : t < 8) {C : String} (hC : ety t = .object C) (he : etg t = 2) {idx : Nat} {n : Int} {K : Int → Mem → Rz} (hlink : Cond.classLink (kW κ) idx C ∈ lw_all) (hao : ∀ (G : Gc) (s : State), CxP G s → va_AO C s) (hdg : decode (kC κ) pc = .ok (.anewarray idx, 3))
    (k : ∀ z ν, V Γ κ (pc + 3) lv ((2, z) :: st) ν (K z ν)) : V Γ κ pc lv ((0, n) :: st) μ (NA t n μ K) := by
  unfold NA
  by_cases hp : 0 < μ 0 0 ∧ 0 ≤ n ∧ n < 100000
  · rw [if_pos hp]
    obtain ⟨hp, h0, h1⟩ := hp
    exact V_anewarrayG t h8 hC he hlink hao hdg h0 h1 ⟨by rw [mNew_00 hp, mNew_03 hp]; omega, mNew_01 hp _ _ _, mNew_02 hp _ _ _⟩ (fun _ h3 => mNew_Mk hp h3 _ _ _) (mNew_kd _ _ _ _) (mNew_len _ _ _ _) (fun j hj => mNew_at _ _ _ _ hj) (k _ _)
  · rw [if_neg hp]
    exact V_none
theorem V_anewarrayN (t : Nat) (h8 : t < 8) {C : String} (hC : ety t = .object C) (he : etg t = 2) {idx : Nat} {n : Int} {K : Int → Mem → Rz} (hlink : Cond.classLink (kW κ) idx C ∈ lw_all) (hao : ∀ (G : Gc) (s : State), CxP G s → va_AO C s) (hdg : decode (kC κ) pc = .ok (.anewarray idx, 3))
    (k : ∀ z ν, V Γ κ (pc + 3) lv ((2, z) :: st) ν (K z ν)) : V Γ κ pc lv ((0, n) :: st) μ (NAn t n μ K) := by
  unfold NAn
  by_cases hp : μ 0 3 < -21 ∧ 0 ≤ n ∧ n < 100000
  · rw [if_pos hp]
    obtain ⟨hp, h0, h1⟩ := hp
    exact V_anewarrayG t h8 hC he hlink hao hdg h0 h1 ⟨by rw [mNewN_00 hp, mNewN_03 hp]; omega, mNewN_01 hp _ _ _, mNewN_02 hp _ _ _⟩ (fun h0 _ => mNewN_Mk h0 hp _ _ _) (mNewN_kd _ _ _ _) (mNewN_len _ _ _ _) (fun j hj => mNewN_at _ _ _ _ hj) (k _ _)
  · rw [if_neg hp]
    exact V_none
end VMAKE
