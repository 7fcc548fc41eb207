/-! new int[n][k], by the component and by the law; a byte[] that is cloned -/
/-- the numbers gg 0 .. gg n are new: gg 0 the outer row, the others the inner ones; dd tells a number's place -/
def rhoD (ρ : Int → Nat) (dd : Int → Int) (n : Int) (h : Nat) : Int → Nat := fun a => if 0 ≤ dd a ∧ dd a ≤ n then h + (dd a).toNat else ρ a
def MkM (μ ν : Mem) (dd gg : Int → Int) (n k : Int) : Prop :=
  ((∀ a, gg (dd a) = a) ∧ ∀ i, dd (gg i) = i) ∧ (∀ i, 0 ≤ i → i ≤ n → own (gg i) ∧ ¬ (μ 0 3 < gg i ∧ gg i < μ 0 0) ∧ (ν 0 3 < gg i ∧ gg i < ν 0 0)) ∧
  (∀ a, ν 0 3 < a → a < ν 0 0 → (0 ≤ dd a ∧ dd a ≤ n) ∨ (μ 0 3 < a ∧ a < μ 0 0)) ∧ (∀ a j, a ≠ 0 → ¬ (0 ≤ dd a ∧ dd a ≤ n) → ν a j = μ a j) ∧ ν 0 (-1) = μ 0 (-1) ∧
  (ν (gg 0) (-1) = 27 ∧ ν (gg 0) (-2) = n ∧ ∀ j : Nat, ν (gg 0) j = if (j : Int) < n then gg (1 + j) else 0) ∧
  ∀ i, 1 ≤ i → i ≤ n → ν (gg i) (-1) = 21 ∧ ν (gg i) (-2) = k ∧ ∀ j : Nat, ν (gg i) j = 0
section VMULTI
variable {Γ : Gam} {κ : Kap} {pc : Nat} {lv : List (Nat × AV)} {st : List AV} {μ ν : Mem} {r : Rz}
theorem V_multiG {i : Nat} {n k : Int} {dd gg : Int → Int} (hn : 1 ≤ n ∧ n ≤ 1000) (hk : 1 ≤ k ∧ k ≤ 1000) (hm : (μ 0 0 ≤ ν 0 0 ∧ ν 0 3 ≤ μ 0 3) ∧ ν 0 1 = μ 0 1 + 1 + n ∧ ν 0 2 = μ 0 2 + n + n * k) (hM : 0 < μ 0 0 → μ 0 3 < -21 → MkM μ ν dd gg n k) (h1 : Cond.classLink (kW κ) i "[[I" ∈ lw_all) (h2 : Cond.arrayClass .int ∈ lw_all) (hdg : decode (kC κ) pc = .ok (.multianewarray i 2, 4)) (kk0 : V Γ κ (pc + 4) lv ((2, gg 0) :: st) ν r) : V Γ κ pc lv ((0, k) :: (0, n) :: st) μ r := by
  obtain ⟨p, l, e, R, s, m, args, below, meth, c, Q, G, ρ0, μ0⟩ := Γ
  intro x v μ' hr
  obtain ⟨k1, k2⟩ := kk0 x v μ' hr
  obtain ⟨m00, m01, m02⟩ := hm
  have hnk : 0 ≤ n * k := Int.mul_nonneg (by omega) (by omega)
  rw [m01, m02] at k1 k2
  refine ⟨by omega, fun O a1 a2 a3 a4 a5 ρ H locs ls b1 b2 b3 b4 b5 b6 => ?_⟩
  obtain ⟨⟨hgd, hdgg⟩, hfresh, hrange, hold9, h0m1, ⟨ho1, ho2, ho3⟩, hin⟩ := hM b4.1.1 b4.1.2.1
  obtain ⟨hx, hb, hml, hown, hts, hcx, hlk, htr, hfr, hlo, hrt, hin9, htab⟩ := id O
  have hst0 := ok_tl (ok_tl b3)
  intro T hT X
  have hin32 : i32 n := by unfold i32; omega
  have hik32 : i32 k := by unfold i32; omega
  have qn : (Int32.ofInt n).toNatClampNeg = n.toNat := by
    show (Int32.ofInt n).toInt.toNat = n.toNat
    rw [oi_to hin32]
  have qk : (Int32.ofInt k).toNatClampNeg = k.toNat := by
    show (Int32.ofInt k).toInt.toNat = k.toNat
    rw [oi_to hik32]
  have en0 : ¬ Int32.ofInt n < 0 := by
    rw [← oi_0, oi_lt hin32 i32_0]
    omega
  have ek0 : ¬ Int32.ofInt k < 0 := by
    rw [← oi_0, oi_lt hik32 i32_0]
    omega
  have hnkN : ((n.toNat * k.toNat : Nat) : Int) = n * k := by
    rw [Int.natCast_mul, Int.toNat_of_nonneg (by omega), Int.toNat_of_nonneg (by omega)]
  have hcb : componentBytes .int = 4 := by decide
  obtain ⟨vm₁, cA, comp, -, fA, fC, hO, -, X', step⟩ := X.multianewarray2F hx hown (hts _ h1) hcx.2.2.2.2.2.2.2.2.2.2.2.2.1.use (hts _ h2) (n := Int32.ofInt n) (k := Int32.ofInt k) (rest := st.map (cv G ρ)) (g := F0 m pc ls (((0, k) :: (0, n) :: st).map (cv G ρ))) rfl (by rw [hb]; exact hdg) rfl en0 ek0 (by rw [qn]; omega) (by rw [qk, hcb]; omega) (by rw [qk]; omega) rfl rfl (by rw [qn]; omega) (by rw [qn, qk]; omega)
  rw [qn, qk] at X' step
  generalize hF : Jvm.Free.Multi.fill (T.setVm vm₁) cA comp n.toNat k.toNat (defaultValue .int) n.toNat = F at X' step
  have hTh : (T.setVm vm₁).heap = H := hT
  obtain ⟨f1, f2, -, -⟩ := Jvm.Free.Multi.fill_facts (T.setVm vm₁) cA comp n.toNat k.toNat (defaultValue .int) n.toNat
  rw [hF, hTh] at f1 f2
  have hold : ∀ x : Nat, x < H.size → F.heap[x]? = H[x]? := fun x hx => by
    have := Jvm.Free.Multi.fill_old (T.setVm vm₁) cA comp n.toNat k.toNat (defaultValue .int) (a := x) (by rw [hTh]; exact hx) n.toNat
    rw [hF, hTh] at this
    exact this
  have hrow : ∀ j : Nat, j < n.toNat → F.heap[H.size + 1 + j]? = some (Jvm.Free.Multi.innerC comp k.toNat (defaultValue .int)) := fun j hj => by
    have := Jvm.Free.Multi.fill_inner (T.setVm vm₁) cA comp n.toNat k.toNat (defaultValue .int) n.toNat j hj
    rw [hF, hTh] at this
    exact this
  have hcA : cA = gA G 7 := by
    have h4 : va_RA s (gA G 7) (ety 7) := (hcx.1.1.2 7 _ (tysG_at G (by omega))).2
    have h5 : s.vm.findClass ("[" ++ (FieldType.array .int).toString) = some (gA G 7) := h4
    exact Option.some.inj (fA.symm.trans h5)
  have hcy : comp = gA G 1 := by
    have h4 : va_RA s (gA G 1) (ety 1) := (hcx.1.1.2 1 _ (tysG_at G (by omega))).2
    have h5 : s.vm.findClass ("[" ++ FieldType.int.toString) = some (gA G 1) := h4
    have h6 : s.vm.findClass (FieldType.array .int).toString = some (gA G 1) := h5
    exact Option.some.inj (fC.symm.trans h6)
  subst hcA
  subst hcy
  have hB : gB G ≤ H.size := Nat.le_trans hcx.1.2.1 b5.1
  have rlo : ∀ a, ¬ (0 ≤ dd a ∧ dd a ≤ n) → rhoD ρ dd n H.size a = ρ a := fun a h => by unfold rhoD; rw [if_neg h]
  have rhi : ∀ a, 0 ≤ dd a → dd a ≤ n → rhoD ρ dd n H.size a = H.size + (dd a).toNat := fun a h h' => by unfold rhoD; rw [if_pos ⟨h, h'⟩]
  have rg : ∀ i, 0 ≤ i → i ≤ n → rhoD ρ dd n H.size (gg i) = H.size + i.toNat := fun i h h' => by rw [rhi _ (by rw [hdgg]; exact h) (by rw [hdgg]; exact h'), hdgg]
  have hnotin : ∀ a, μ 0 3 < a → a < μ 0 0 → ¬ (0 ≤ dd a ∧ dd a ≤ n) := fun a h h' hd => (hfresh (dd a) hd.1 hd.2).2.1 (by rw [hgd]; exact ⟨h, h'⟩)
  have hE : Ext (bd μ) ρ (rhoD ρ dd n H.size) := fun a _ h h' => rlo a (hnotin a h h')
  have hne0 : ∀ i, 0 ≤ i → i ≤ n → gg i ≠ 0 := fun i h h' => own_ne (hfresh i h h').1
  have hout : okC G (rhoD ρ dd n H.size) ν F.heap (gg 0) := by
    refine Or.inr ⟨7, by omega, ho1, by rw [ho2]; omega, by rw [ho2]; omega, ?_, fun j hj => ?_⟩
    · rw [rg 0 (by omega) (by omega), ho2]
      show F.heap[H.size + 0]? = _
      rw [Nat.add_zero, f2]
      refine congrArg some ((vr_outer9 (gA G 7) n.toNat H.size n.toNat).trans (congrArg (arrV _ _) (funext fun j => ?_)))
      show _ = cvR (rhoD ρ dd n H.size) (ν (gg 0) j)
      rw [ho3]
      by_cases hj : j < n.toNat
      · rw [if_pos hj, if_pos (by omega), cvR_pos (hne0 _ (by omega) (by omega)), rg _ (by omega) (by omega)]
        exact congrArg Value.ref (show (H.size + 1 + j : Nat) = H.size + (1 + (j : Int)).toNat by omega)
      · rw [if_neg hj, if_neg (by omega)]
        rfl
    · rw [ho2] at hj
      rw [ho3, if_pos hj]
      exact (hfresh (1 + (j : Int)) (by omega) (by omega)).2.2
  have hinn : ∀ i, 1 ≤ i → i ≤ n → okC G (rhoD ρ dd n H.size) ν F.heap (gg i) := fun i h h' => by
    obtain ⟨e1, e2, e3⟩ := hin i h h'
    refine Or.inr ⟨1, by omega, e1, by rw [e2]; omega, by rw [e2]; omega, ?_, fun j _ => by rw [e3]; exact i32_0⟩
    rw [rg i (by omega) h', e2, show H.size + i.toNat = H.size + 1 + (i - 1).toNat by omega, hrow _ (by omega)]
    refine congrArg some (Eq.trans (b := arrV (gA G 1) k.toNat (fun _ => .int 0)) ?_ (congrArg (arrV _ _) (funext fun j => ?_)))
    · exact arrV_new9 (gA G 1) k.toNat (.int 0)
    · rw [e3]
      show Value.int 0 = .int (Int32.ofInt 0)
      rw [oi_0]
  have hGP : GP G (rhoD ρ dd n H.size) ν F.heap := by
    refine ⟨⟨Int.lt_of_lt_of_le b4.1.1 m00.1, Int.lt_of_le_of_lt m00.2 b4.1.2.1, fun k k0 k1 => ?_⟩, by rw [h0m1]; exact b4.2.1, fun a ha0 ha han => ?_, fun a b ha hb2 h1 h2 h3 h4 hab => ?_⟩
    · rw [rlo _ (fun hd => by
        have := (hfresh _ hd.1 hd.2).1
        rw [hgd] at this
        unfold own at this
        omega)]
      exact b4.1.2.2 k k0 k1
    · rcases hrange a ha han with hd | hr9
      · have e9 : a = gg (dd a) := (hgd a).symm
        refine ⟨⟨fun _ => by rw [rhi a hd.1 hd.2]; omega, fun ho => absurd (by rw [e9]; exact (hfresh _ hd.1 hd.2).1) ho⟩, ?_⟩
        by_cases hz : dd a = 0
        · rw [e9, hz]; exact Or.inl hout
        · rw [e9]; exact Or.inl (hinn _ (by omega) hd.2)
      · obtain ⟨y1, y2⟩ := b4.2.2.1 a ha0 hr9.1 hr9.2
        have hno := hnotin a hr9.1 hr9.2
        rw [rlo a hno]
        exact ⟨y1, (y2.kept (hold _ y2.lt)).ext (rlo a hno) hE (fun j => hold9 a j ha0 hno) m00⟩
    · rcases hrange a h1 h2 with hd | hr9 <;> rcases hrange b h3 h4 with hd' | hr9'
      · rw [rhi a hd.1 hd.2, rhi b hd'.1 hd'.2] at hab
        rw [← hgd a, ← hgd b, show dd a = dd b by omega]
      · exfalso
        have := (b4.2.2.1 b (own_ne hb2) hr9'.1 hr9'.2).2.lt
        rw [rhi a hd.1 hd.2, rlo b (hnotin b hr9'.1 hr9'.2)] at hab
        omega
      · exfalso
        have := (b4.2.2.1 a (own_ne ha) hr9.1 hr9.2).2.lt
        rw [rhi b hd'.1 hd'.2, rlo a (hnotin a hr9.1 hr9.2)] at hab
        omega
      · rw [rlo a (hnotin a hr9.1 hr9.2), rlo b (hnotin b hr9'.1 hr9'.2)] at hab
        exact b4.2.2.2 a b ha hb2 hr9.1 hr9.2 hr9'.1 hr9'.2 hab
  have c1 : (μ 0 1 - μ0 0 1).toNat + 1 + n.toNat = (μ 0 1 + 1 + n - μ0 0 1).toNat := by omega
  have c2 : (μ 0 2 - μ0 0 2).toNat + n.toNat + n.toNat * k.toNat = (μ 0 2 + n + n * k - μ0 0 2).toNat := by omega
  rw [c1, c2] at X'
  have e3 : Value.ref H.size :: st.map (cv G ρ) = ((2, gg 0) :: st).map (cv G (rhoD ρ dd n H.size)) := by
    rw [List.map_cons]
    congr 1
    · show _ = cvR (rhoD ρ dd n H.size) (gg 0)
      rw [cvR_pos (hne0 0 (by omega) (by omega)), rg 0 (by omega) (by omega)]
      rfl
    · exact List.map_congr_left (fun q hq => (cv_ext hE (hst0 q hq)).symm)
  have e4 : (lv.map fun q => (q.1, cv G ρ q.2)) = lv.map fun q => (q.1, cv G (rhoD ρ dd n H.size) q.2) := List.map_congr_left (fun q hq => by rw [cv_ext hE (b2 q hq)])
  obtain ⟨t, z1, z2⟩ := k2 O (by omega) (by omega) (by omega) a4 a5 (rhoD ρ dd n H.size) F.heap locs ls (by rw [← e4]; exact b1) (fun q hq => vok_bd m00 (b2 q hq)) (ok_cons (hfresh 0 (by omega) (by omega)).2.2 (fun q hq => vok_bd m00 (hst0 q hq))) hGP ⟨by rw [f1]; have := b5.1; omega, fun q g1 g2 => (hold q (Nat.lt_of_lt_of_le g1 b5.1)).trans (b5.2.1 q g1 g2), b5.2.2⟩ (b6.tr hE a1) F rfl X'
  rw [← e3] at z1
  refine ⟨t, step t ?_, z2⟩
  rw [show T.heap.size = H.size by rw [hT]]
  exact z1
theorem V_multi {i : Nat} {n k : Int} {K : Int → Mem → Rz} (h1 : Cond.classLink (kW κ) i "[[I" ∈ lw_all) (h2 : Cond.arrayClass .int ∈ lw_all) (hdg : decode (kC κ) pc = .ok (.multianewarray i 2, 4)) (kk : ∀ z ν, V Γ κ (pc + 4) lv ((2, z) :: st) ν (K z ν)) : V Γ κ pc lv ((0, k) :: (0, n) :: st) μ (NM n k μ K) := by
  unfold NM
  by_cases h0 : 0 < μ 0 0 ∧ n = 4 ∧ k = 192
  · rw [if_pos h0]
    obtain ⟨hp, rfl, rfl⟩ := h0
    have m00 : mMul μ 0 0 = μ 0 0 + 5 := by
      unfold mMul
      rw [if_neg (by omega), if_neg (by omega), if_pos ⟨rfl, rfl⟩]
    have m01 : mMul μ 0 1 = μ 0 1 + 5 := by
      unfold mMul
      rw [if_neg (by omega), if_neg (by omega), if_neg (by omega), if_pos ⟨rfl, rfl⟩]
    have m02 : mMul μ 0 2 = μ 0 2 + 772 := by
      unfold mMul
      rw [if_neg (by omega), if_neg (by omega), if_neg (by omega), if_neg (by omega), if_pos ⟨rfl, rfl⟩]
    have m03 : mMul μ 0 3 = μ 0 3 := by
      unfold mMul
      rw [if_neg (by omega), if_neg (by omega), if_neg (by omega), if_neg (by omega), if_neg (by omega)]
    have hk : V Γ κ (pc + 4) lv ((2, μ 0 0 + 0) :: st) (mMul μ) (K (μ 0 0) (mMul μ)) := by
      rw [Int.add_zero]
      exact kk _ _
    refine V_multiG (ν := mMul μ) (dd := fun a => a - μ 0 0) (gg := fun i => μ 0 0 + i) (by omega) (by omega) ⟨by omega, by omega, by omega⟩ (fun _ h3 => ?_) h1 h2 hdg hk
    refine ⟨⟨fun a => by show μ 0 0 + (a - μ 0 0) = a; omega, fun i => by show μ 0 0 + i - μ 0 0 = i; omega⟩, fun i i0 i1 => ?_, fun a ha hb => ?_, fun a j ha hd => ?_, ?_, ⟨?_, ?_, fun j => ?_⟩, fun i i0 i1 => ⟨?_, ?_, fun j => ?_⟩⟩
    · rw [m00, m03]
      unfold own
      dsimp only
      omega
    · rw [m00] at hb
      rw [m03] at ha
      dsimp only
      omega
    · dsimp only at hd
      unfold mMul
      rw [if_neg (by omega), if_neg (by omega), if_neg (by omega), if_neg (by omega), if_neg (by omega)]
    · unfold mMul
      rw [if_neg (by omega), if_neg (by omega), if_neg (by omega), if_neg (by omega), if_neg (by omega)]
    · unfold mMul
      dsimp only
      rw [if_pos (by omega), if_pos rfl]
    · unfold mMul
      dsimp only
      rw [if_pos (by omega), if_neg (by omega), if_pos rfl]
    · unfold mMul
      dsimp only
      rw [if_pos (by omega), if_neg (by omega), if_neg (by omega)]
      by_cases hj : (j : Int) < 4
      · rw [if_pos ⟨by omega, hj⟩, if_pos hj]
        omega
      · rw [if_neg (by omega), if_neg hj]
    · unfold mMul
      dsimp only
      rw [if_neg (by omega), if_pos (by omega), if_pos rfl]
    · unfold mMul
      dsimp only
      rw [if_neg (by omega), if_pos (by omega), if_neg (by omega), if_pos rfl]
    · unfold mMul
      dsimp only
      rw [if_neg (by omega), if_pos (by omega), if_neg (by omega), if_neg (by omega)]
  · rw [if_neg h0]
    exact V_none
theorem V_multiN {i : Nat} {n k : Int} {K : Int → Mem → Rz} (h1 : Cond.classLink (kW κ) i "[[I" ∈ lw_all) (h2 : Cond.arrayClass .int ∈ lw_all) (hdg : decode (kC κ) pc = .ok (.multianewarray i 2, 4)) (kk : ∀ z ν, V Γ κ (pc + 4) lv ((2, z) :: st) ν (K z ν)) : V Γ κ pc lv ((0, k) :: (0, n) :: st) μ (NMn n k μ K) := by
  unfold NMn
  by_cases h0 : μ 0 3 < -21 ∧ (1 ≤ n ∧ n ≤ 100) ∧ 1 ≤ k ∧ k ≤ 100
  · rw [if_pos h0]
    obtain ⟨hp, hn, hk9⟩ := h0
    have m00 : mMulN μ n k 0 0 = μ 0 0 := by
      unfold mMulN
      rw [if_neg (by omega), if_neg (by omega), if_neg (by omega), if_neg (by omega), if_neg (by omega)]
    have m03 : mMulN μ n k 0 3 = μ 0 3 - 1 - n := by
      unfold mMulN
      rw [if_neg (by omega), if_neg (by omega), if_pos ⟨rfl, rfl⟩]
    have m01 : mMulN μ n k 0 1 = μ 0 1 + 1 + n := by
      unfold mMulN
      rw [if_neg (by omega), if_neg (by omega), if_neg (by omega), if_pos ⟨rfl, rfl⟩]
    have m02 : mMulN μ n k 0 2 = μ 0 2 + n + n * k := by
      unfold mMulN
      rw [if_neg (by omega), if_neg (by omega), if_neg (by omega), if_neg (by omega), if_pos ⟨rfl, rfl⟩]
    have hk : V Γ κ (pc + 4) lv ((2, μ 0 3 - 0) :: st) (mMulN μ n k) (K (μ 0 3) (mMulN μ n k)) := by
      rw [Int.sub_zero]
      exact kk _ _
    refine V_multiG (ν := mMulN μ n k) (dd := fun a => μ 0 3 - a) (gg := fun i => μ 0 3 - i) (by omega) (by omega) ⟨by omega, m01, m02⟩ (fun h00 _ => ?_) h1 h2 hdg hk
    refine ⟨⟨fun a => by show μ 0 3 - (μ 0 3 - a) = a; omega, fun i => by show μ 0 3 - (μ 0 3 - i) = i; omega⟩, fun i i0 i1 => ?_, fun a ha hb => ?_, fun a j ha hd => ?_, ?_, ⟨?_, ?_, fun j => ?_⟩, fun i i0 i1 => ⟨?_, ?_, fun j => ?_⟩⟩
    · rw [m00, m03]
      unfold own
      dsimp only
      omega
    · rw [m00] at hb
      rw [m03] at ha
      dsimp only
      omega
    · dsimp only at hd
      unfold mMulN
      rw [if_neg (by omega), if_neg (by omega), if_neg (by omega), if_neg (by omega), if_neg (by omega)]
    · unfold mMulN
      rw [if_neg (by omega), if_neg (by omega), if_neg (by omega), if_neg (by omega), if_neg (by omega)]
    · unfold mMulN
      dsimp only
      rw [if_pos (by omega), if_pos rfl]
    · unfold mMulN
      dsimp only
      rw [if_pos (by omega), if_neg (by omega), if_pos rfl]
    · unfold mMulN
      dsimp only
      rw [if_pos (by omega), if_neg (by omega), if_neg (by omega)]
      by_cases hj : (j : Int) < n
      · rw [if_pos ⟨by omega, hj⟩, if_pos hj]
        omega
      · rw [if_neg (by omega), if_neg hj]
    · unfold mMulN
      dsimp only
      rw [if_neg (by omega), if_pos (by omega), if_pos rfl]
    · unfold mMulN
      dsimp only
      rw [if_neg (by omega), if_pos (by omega), if_neg (by omega), if_pos rfl]
    · unfold mMulN
      dsimp only
      rw [if_neg (by omega), if_pos (by omega), if_neg (by omega), if_neg (by omega)]
  · rw [if_neg h0]
    exact V_none
theorem mCln_Mk (h0 : 0 < μ 0 0) (h : μ 0 3 < -21) (a : Int) : Mk μ (mCln μ a) (μ 0 3) := by
  have m00 : mCln μ a 0 0 = μ 0 0 := by
    unfold mCln
    rw [if_neg (by omega), if_neg (by omega), if_neg (by omega), if_neg (by omega)]
  have m03 : mCln μ a 0 3 = μ 0 3 - 1 := by
    unfold mCln
    rw [if_neg (by omega), if_pos ⟨rfl, rfl⟩]
  unfold Mk own
  rw [m00, m03]
  refine ⟨⟨Or.inr h, by omega⟩, fun a h1 h2 h3 => by omega, by omega, fun b k h1 h2 => ?_, ?_⟩
  · unfold mCln
    rw [if_neg h2, if_neg (by omega), if_neg (by omega), if_neg (by omega)]
  · unfold mCln
    rw [if_neg (by omega), if_neg (by omega), if_neg (by omega), if_neg (by omega)]
theorem V_clone (hd : 1 ≤ kD κ) {i : Nat} {a : Int} {K : Int → Mem → Rz} (h1 : Cond.methodLink (kW κ) i ⟨"[B", "clone", "()Ljava/lang/Object;"⟩ ∈ lw_all) (h2 : Cond.sameMethod "[B" "java/lang/Object" "clone" "()Ljava/lang/Object;" ∈ lw_all) (h3 : Cond.native ⟨"java/lang/Object", "clone", "()Ljava/lang/Object;"⟩ ∈ lw_all) (h4 : Cond.instanceMethod ⟨"java/lang/Object", "clone", "()Ljava/lang/Object;"⟩ ∈ lw_all) (h5 : Cond.selects "[B" ⟨"[B", "clone", "()Ljava/lang/Object;"⟩ ⟨"java/lang/Object", "clone", "()Ljava/lang/Object;"⟩ ∈ lw_all) (hw : (st.map fun q => catA q.1).sum ≤ 8) (hdg : decode (kC κ) pc = .ok (.invokevirtual i, 3)) (k : ∀ z ν, V Γ κ (pc + 3) lv ((2, z) :: st) ν (K z ν)) : V Γ κ pc lv ((2, a) :: st) μ (CLN a μ K) := by
  unfold CLN
  by_cases h0 : (μ 0 3 < -21 ∧ (0 < a ∨ a < -21)) ∧ μ a (-1) = 20 ∧ 0 ≤ μ a (-2) ∧ (List.range (μ a (-2)).toNat).all (fun j => isB (μ a j)) = true
  · rw [if_pos h0]
    obtain ⟨⟨hp, hao⟩, hka, hlen, hE⟩ := h0
    have m00 : mCln μ a 0 0 = μ 0 0 := by
      unfold mCln
      rw [if_neg (by omega), if_neg (by omega), if_neg (by omega), if_neg (by omega)]
    have m03 : mCln μ a 0 3 = μ 0 3 - 1 := by
      unfold mCln
      rw [if_neg (by omega), if_pos ⟨rfl, rfl⟩]
    have m01 : mCln μ a 0 1 = μ 0 1 + 1 := by
      unfold mCln
      rw [if_neg (by omega), if_neg (by omega), if_pos ⟨rfl, rfl⟩]
    have m02 : mCln μ a 0 2 = μ 0 2 + μ a (-2) := by
      unfold mCln
      rw [if_neg (by omega), if_neg (by omega), if_neg (by omega), if_pos ⟨rfl, rfl⟩]
    have mat : ∀ j, mCln μ a (μ 0 3) j = μ a j := fun j => by
      unfold mCln
      rw [if_pos rfl]
    refine V_make (pc' := pc + 3) (st0 := st) (n0 := μ 0 3) (sz := μ a (-2)) hlen ⟨by omega, m01, m02⟩ (fun h0 h3 => mCln_Mk h0 h3 a) ?_ (fun b => ok_tl b) (k _ _)
    obtain ⟨p, l, e, R, s, m, args, below, meth, c, Q, G, ρ0, μ0⟩ := Γ
    intro O
    obtain ⟨hx, hb, hml, hown, hts, hcx, hlk, htr, hfr, hlo, hrt, hin9, htab⟩ := O
    intro ρ H locs ls ce sl Q' b1 b3 b4 b5 q1 q2 kk
    obtain ⟨g1, g2, g3, g4, g5, g6, g7⟩ := b4.arr (t := 0) (Or.inl hao) (ok_hd b3) (by rw [hka]; rfl)
    have hnm : s.vm.findClass "[B" = some (gA G 0) := va_nm_byte (hcx.1.1.2 0 _ (tysG_at G (by omega))).2
    obtain ⟨c0, t0', f1, f2, f3⟩ := Cond.castable_spec (va_Nw.use (A := args) rfl (hcx.2.2.2.2.2.2.2.1 ("[B", "java/lang/Cloneable") (by decide)))
    cases hnm.symm.trans f1
    have hs : (st.map (cv G ρ)).map (fun v => v.category) = st.map fun q => catA q.1 := by
      rw [List.map_map]
      exact List.map_congr_left (fun q _ => cv_cat G ρ q)
    rw [List.map_cons, show cv G ρ (2, a) = cvR ρ a from rfl, cvR_pos g1]
    intro T hT X
    obtain ⟨-, kA, hkA, comp, hkind⟩ := State.isArrayOf_alike X.warmed.alike (arr_known hcx (t := 0) (by omega) 0 (fun _ => .null))
    obtain ⟨-, kS, hkS, compS, hkindS⟩ := arr_known hcx (t := 0) (by omega) 0 (fun _ => .null)
    have hsz : (arrV (gA G 0) (μ a (-2)).toNat (fun k => cv G ρ (etg 0, μ a k))).slots.size = (μ a (-2)).toNat := arrV_size _ _ _
    obtain ⟨vm', X', st9⟩ := X.cloneArray hx hown (hts _ h1) (hts _ h2) (hts _ h3) (hts _ h4) (hts _ h5) (a := ρ a) (cell := arrV (gA G 0) (μ a (-2)).toNat (fun k => cv G ρ (etg 0, μ a k))) (by rw [hT]; exact g6) (fun k h => by cases h) (fun h => by cases h) hnm f2 f3
      (fun i9 v9 hv => by
        have hi9 : i9 < (μ a (-2)).toNat := by
          by_cases hlt : i9 < (μ a (-2)).toNat
          · exact hlt
          · rw [Array.getElem?_eq_none (by rw [hsz]; omega)] at hv
            cases hv
        rw [arrV_read _ _ hi9] at hv
        have hel := List.all_eq_true.mp hE i9 (List.mem_range.mpr hi9)
        unfold isB at hel
        have hfb := fits_b (of_decide_eq_true hel)
        cases hv
        have hk' : T.vm.classes[gA G 0]? = some kA := hkA
        have hkind' : kA.kind = .array comp .byte := hkind
        show T.fitsSlot (gA G 0) _ _ _ = true
        simp [State.fitsSlot, State.slotType?, hk', hkind']
        exact hfb)
      (g := F0 m pc ls (.ref (ρ a) :: st.map (cv G ρ))) rfl (b1.trans hml.symm) rfl (by rw [hb]; exact hdg) (by omega) (by show 2 * 0 + _ + 14 ≤ _; rw [hs]; omega) q1 (by rw [hsz]; exact q2) (hloader := Vm.clonesLoader_of_array hkS hkindS)
    rw [hsz] at X'
    have hok : okC G (rhoN ρ (μ 0 3) H.size) (mCln μ a) (H.push (arrV (gA G 0) (μ a (-2)).toNat (fun k => cv G ρ (etg 0, μ a k)))) (μ 0 3) := by
      refine Or.inr ⟨0, by omega, by rw [mat, hka]; rfl, by rw [mat]; exact g4, by rw [mat]; exact g5, ?_, fun j hj => ?_⟩
      · rw [rhoN_at, Array.getElem?_push_size, mat]
        refine congrArg some (congrArg (arrV _ _) (funext fun j => ?_))
        rw [mat]
        rfl
      · rw [mat] at hj ⊢
        exact g7 j hj
    obtain ⟨t, z1, z2⟩ := kk (H.push (arrV (gA G 0) (μ a (-2)).toNat (fun k => cv G ρ (etg 0, μ a k)))) (fun q hq => by rw [Array.getElem?_push, if_neg (Nat.ne_of_lt hq)]) (by rw [Array.size_push]) hok _ (by rw [← hT]; rfl) X'
    refine ⟨t, st9 t ?_, z2⟩
    rw [show T.heap.size = H.size by rw [hT]]
    exact z1
  · rw [if_neg h0]
    exact V_none
end VMULTI
