/-! bytes of a word; names in one number -/
theorem bShr_int {v : Int} (hv : i32 v) {k : Nat} (hk : k < 31) : bShr v k = v / ((2 ^ k : Nat) : Int) := by
  show (BitVec.sshiftRight' (Int32.ofInt v).toBitVec ((Int32.ofInt (k : Int) &&& 31).toBitVec.smod 32)).toInt = _
  rw [BitVec.toInt_sshiftRight', sh_amt ⟨k, hk⟩, Int.shiftRight_eq_div_pow]
  show (Int32.ofInt v).toInt / _ = _
  rw [oi_to hv]
theorem bv_nat_of (v : Int) : (Int32.ofInt v).toBitVec.toNat = (v % 4294967296).toNat := by
  show (BitVec.ofInt 32 v).toNat = _
  rw [BitVec.toNat_ofInt]
  rfl
theorem bAnd_255 (v : Int) : bAnd v 255 = v % 256 := by
  show ((Int32.ofInt v).toBitVec &&& (Int32.ofInt 255).toBitVec).toInt = _
  have h1 : ((Int32.ofInt v).toBitVec &&& (Int32.ofInt 255).toBitVec).toNat = (v % 256).toNat := by
    rw [BitVec.toNat_and, bv_nat_of, bv_nat_of, show ((255 : Int) % 4294967296).toNat = 2 ^ 8 - 1 from rfl, Nat.and_two_pow_sub_one_eq_mod]
    omega
  rw [bv_int h1 (by omega)]
  omega
theorem bUsh_w8 {v : Int} {k : Nat} (hk : k < 31) : w8 (bUsh v k) = w8 ((v % 4294967296) / ((2 ^ k : Nat) : Int)) := by
  have e : bUsh v k = (((Int32.ofInt v).toUInt32 >>> ((Int32.ofInt (k : Int)).toUInt32 &&& Int32.toUInt32 31)).toBitVec).toInt := rfl
  have h1 : ((Int32.ofInt v).toUInt32 >>> ((Int32.ofInt (k : Int)).toUInt32 &&& Int32.toUInt32 31)).toBitVec.toNat = (v % 4294967296).toNat / 2 ^ k := by
    show ((Int32.ofInt v).toUInt32 >>> ((Int32.ofInt (k : Int)).toUInt32 &&& Int32.toUInt32 31)).toNat = _
    rw [UInt32.toNat_shiftRight, us_amt ⟨k, hk⟩, Nat.shiftRight_eq_div_pow]
    show (Int32.ofInt v).toBitVec.toNat / _ = _
    rw [bv_nat_of]
  rw [e, BitVec.toInt_eq_toNat_bmod, h1]
  unfold w8
  rw [Int.bmod_bmod_of_dvd (by decide)]
  congr 1
  rw [Int.natCast_ediv, Int.toNat_of_nonneg (by omega)]
def tb (v s : Int) : Int := bAnd (bShr v s) 255
theorem tb_le (v s : Int) : 0 ≤ tb v s ∧ tb v s ≤ 255 := by
  unfold tb
  rw [bAnd_255]
  omega
theorem w8_w8 (z : Int) : w8 (w8 z) = w8 z := by
  unfold w8
  exact Int.bmod_bmod
theorem w8_emod {a b : Int} (h : a % 256 = b % 256) : w8 a = w8 b := by
  unfold w8
  have e1 : (a % 256).bmod 256 = a.bmod 256 := Int.emod_bmod a 256
  have e2 : (b % 256).bmod 256 = b.bmod 256 := Int.emod_bmod b 256
  rw [← e1, h, e2]
theorem tb_w8 {v : Int} (hv : i32 v) {j : Int} (j0 : 0 ≤ j) (j1 : j < 4) : w8 (w8 (bUsh v (24 - 8 * j))) = w8 (tb v (24 - 8 * j)) := by
  rw [w8_w8]
  unfold tb
  rw [bAnd_255]
  rcases (show j = 0 ∨ j = 1 ∨ j = 2 ∨ j = 3 by omega) with rfl | rfl | rfl | rfl
  · have h1 := bUsh_w8 (v := v) (k := 24) (by omega)
    have h2 := bShr_int hv (k := 24) (by omega)
    show w8 (bUsh v ((24 : Nat) : Int)) = w8 (bShr v ((24 : Nat) : Int) % 256)
    rw [h1, h2]
    exact w8_emod (by rw [show ((2 ^ 24 : Nat) : Int) = 16777216 from rfl]; omega)
  · have h1 := bUsh_w8 (v := v) (k := 16) (by omega)
    have h2 := bShr_int hv (k := 16) (by omega)
    show w8 (bUsh v ((16 : Nat) : Int)) = w8 (bShr v ((16 : Nat) : Int) % 256)
    rw [h1, h2]
    exact w8_emod (by rw [show ((2 ^ 16 : Nat) : Int) = 65536 from rfl]; omega)
  · have h1 := bUsh_w8 (v := v) (k := 8) (by omega)
    have h2 := bShr_int hv (k := 8) (by omega)
    show w8 (bUsh v ((8 : Nat) : Int)) = w8 (bShr v ((8 : Nat) : Int) % 256)
    rw [h1, h2]
    exact w8_emod (by rw [show ((2 ^ 8 : Nat) : Int) = 256 from rfl]; omega)
  · have h1 := bUsh_w8 (v := v) (k := 0) (by omega)
    have h2 := bShr_int hv (k := 0) (by omega)
    show w8 (bUsh v ((0 : Nat) : Int)) = w8 (bShr v ((0 : Nat) : Int) % 256)
    rw [h1, h2]
    exact w8_emod (by rw [show ((2 ^ 0 : Nat) : Int) = 1 from rfl]; omega)
/-- a byte as the component keeps it, back again -/
theorem byte_255 {t : Int} (h0 : 0 ≤ t) (h1 : t ≤ 255) : bAnd (w8 t) 255 = t := by
  rw [bAnd_255]
  have e : w8 t % 256 = t % 256 := Int.bmod_emod
  rw [e]
  omega
def put4 (tx : Int → Int) (f v : Int) : Int → Int := fun k => if f ≤ k ∧ k < f + 4 then tb v (24 - 8 * (k - f)) else tx k
def put20 (tx : Int → Int) (f w0 w1 w2 w3 w4 : Int) : Int → Int := put4 (put4 (put4 (put4 (put4 tx f w0) (f + 4) w1) (f + 8) w2) (f + 12) w3) (f + 16) w4
def pk (f : Int → Int) : Nat → Int
  | 0 => 1
  | j + 1 => pk f j * 256 + f j
theorem pk_pos {f : Int → Int} : ∀ n : Nat, (∀ j : Int, 0 ≤ j → j < n → 0 ≤ f j ∧ f j ≤ 255) → 1 ≤ pk f n
  | 0, _ => by show (1 : Int) ≤ 1; omega
  | n + 1, h => by
    have h1 := pk_pos n fun j j0 j1 => h j j0 (by omega)
    have h2 := h n (by omega) (by omega)
    rw [pk]
    omega
theorem pkb_lt {f : Int → Int} : ∀ n : Nat, n ≤ 6 → (∀ j : Int, 0 ≤ j → j < n → 0 ≤ f j ∧ f j ≤ 255) → pk f n < ((2 ^ (8 * n + 1) : Nat) : Int)
  | 0, _, _ => by show (1 : Int) < 2; omega
  | n + 1, hn, h => by
    have h1 := pkb_lt n (by omega) fun j j0 j1 => h j j0 (by omega)
    have h2 := h n (by omega) (by omega)
    have h3 : (2 : Nat) ^ (8 * (n + 1) + 1) = 2 ^ (8 * n + 1) * 256 := by
      rw [show 8 * (n + 1) + 1 = (8 * n + 1) + 8 by omega, Nat.pow_add]
    rw [pk, h3]
    omega
theorem pkb_le {f : Int → Int} {n : Nat} (hn : n ≤ 6) (h : ∀ j : Int, 0 ≤ j → j < n → 0 ≤ f j ∧ f j ≤ 255) : 1 ≤ pk f n ∧ pk f n < 562949953421312 := by
  have h1 := pkb_lt n hn h
  have h2 : (2 : Nat) ^ (8 * n + 1) ≤ 2 ^ 49 := Nat.pow_le_pow_right (by decide) (by omega)
  have h3 : (2 : Nat) ^ 49 = 562949953421312 := by decide
  exact ⟨pk_pos n h, by omega⟩
theorem pk_inj {f g : Int → Int} : ∀ n m : Nat, (∀ j : Int, 0 ≤ j → j < n → 0 ≤ f j ∧ f j ≤ 255) → (∀ j : Int, 0 ≤ j → j < m → 0 ≤ g j ∧ g j ≤ 255) → pk f n = pk g m → n = m ∧ ∀ j : Int, 0 ≤ j → j < n → f j = g j
  | 0, 0, _, _, _ => ⟨rfl, fun j _ _ => by omega⟩
  | n + 1, 0, hf, _, h => by
    have h1 := pk_pos n fun j j0 j1 => hf j j0 (by omega)
    have h2 := hf n (by omega) (by omega)
    rw [pk, pk] at h
    omega
  | 0, m + 1, _, hg, h => by
    have h1 := pk_pos m fun j j0 j1 => hg j j0 (by omega)
    have h2 := hg m (by omega) (by omega)
    rw [pk, pk] at h
    omega
  | n + 1, m + 1, hf, hg, h => by
    have h2 := hf n (by omega) (by omega)
    have h3 := hg m (by omega) (by omega)
    rw [pk, pk] at h
    obtain ⟨e, h4⟩ := pk_inj n m (fun j j0 j1 => hf j j0 (by omega)) (fun j j0 j1 => hg j j0 (by omega)) (by omega)
    subst e
    refine ⟨rfl, fun j j0 j1 => ?_⟩
    by_cases e : j = n
    · rw [e]; omega
    · exact h4 j j0 (by omega)
theorem pk_ext {f g : Int → Int} : ∀ n : Nat, (∀ j : Int, 0 ≤ j → j < n → f j = g j) → pk f n = pk g n
  | 0, _ => rfl
  | n + 1, h => by rw [pk, pk, pk_ext n fun j j0 j1 => h j j0 (by omega), h n (by omega) (by omega)]
theorem pkN_pk (r : Row) (p : Int) : ∀ n : Nat, pkN r p n = pk (fun j => rO r p (1 + j)) n
  | 0 => rfl
  | n + 1 => by rw [pkN, pk, pkN_pk r p n]
theorem nmO_pk (r : Row) (p : Int) : nmO r p = pk (fun j => rO r p (1 + j)) (rO r p 0).toNat := pkN_pk r p _
/-- the plate with a name, from a place on -/
def fdA (r : Row) (v : Int) : Nat → Int → Int
  | 0, _ => -1
  | k + 1, p => if nmO r p = v then p else fdA r v k (p + 1)
def fdV (r : Row) (v : Int) : Int := fdA r v (r 2).toNat 0
section TXT
variable {μ : Mem} {c u fed fa : Int} {h : Int → Row} {tx : Int → Int}
theorem appendWord_rt (hS : CSh μ) {v : Int} (hv : i32 v) (f0 : 0 ≤ fed) (f1 : fed + 4 ≤ 600) (h1 : μ 1 1 = fed) : ∃ ν, FX6_appendWord 1 v μ = RT 0 ν ∧ (∀ z k, ¬ ((z = 1 ∧ k = 1) ∨ (z = 2 ∧ fed ≤ k ∧ k < fed + 4)) → ν z k = μ z k) ∧ ν 1 1 = fed + 4 ∧ ∀ j, 0 ≤ j → j < 4 → ν 2 (fed + j) = w8 (tb v (24 - 8 * j)) := by
  unfold FX6_appendWord BX6_appendWord_0
  refine lpR (fun n i s => LX6_appendWord_3 n 1 v (24 - 8 * i) s) (fun i ν => 0 ≤ i ∧ (∀ z k, ¬ ((z = 1 ∧ k = 1) ∨ (z = 2 ∧ fed ≤ k ∧ k < fed + 4)) → ν z k = μ z k) ∧ ν 1 1 = fed + i ∧ ∀ j, 0 ≤ j → j < i → ν 2 (fed + j) = w8 (tb v (24 - 8 * j))) 4 (fun R => ∃ ν, R = RT 0 ν ∧ (∀ z k, ¬ ((z = 1 ∧ k = 1) ∨ (z = 2 ∧ fed ≤ k ∧ k < fed + 4)) → ν z k = μ z k) ∧ ν 1 1 = fed + 4 ∧ ∀ j, 0 ≤ j → j < 4 → ν 2 (fed + j) = w8 (tb v (24 - 8 * j))) (fun n i s i1 hs => ?_) (fun n s hs => ?_) FU 0 μ (by omega) (by rw [show ((FU : Nat) : Int) = 20000 from rfl]; omega) ⟨Int.le_refl _, fun _ _ _ => rfl, by omega, fun j j0 j1 => by omega⟩
  · obtain ⟨i0, g1, g2, g3⟩ := hs
    have hS2 : CSh s := hS.fr fun z k hz => g1 z k (by unfold CSt at hz; omega)
    have hS3 : CSh (mUp s 2 (fed + i) (w8 (w8 (bUsh v (24 - 8 * i))))) := hS2.up (by unfold CSt; omega)
    have k1 : ¬ 24 - 8 * i < 0 := by omega
    have k2 : ¬ 600 ≤ fed + i := by omega
    have ew : w32 (24 - 8 * i + -8) = 24 - 8 * (i + 1) := by rw [w32_eq (by omega) (by omega)]; omega
    have e11 : mUp s 2 (fed + i) (w8 (w8 (bUsh v (24 - 8 * i)))) 1 1 = fed + i := by rw [mUp_ne _ _ (by omega), g2]
    refine ⟨mUp (mUp s 2 (fed + i) (w8 (w8 (bUsh v (24 - 8 * i))))) 1 1 (fed + i + 1), ⟨by omega, fun z k hz => ?_, ?_, fun j j0 j1 => ?_⟩, ?_⟩
    · rw [mUp_ne _ _ (by omega), mUp_ne _ _ (by omega)]
      exact g1 z k hz
    · rw [mUp_same]
      omega
    · rw [mUp_ne _ _ (by omega)]
      by_cases e : j = i
      · rw [e, mUp_same, tb_w8 hv i0 (by omega)]
      · rw [mUp_ne _ _ (by omega)]
        exact g3 j j0 (by omega)
    · simp (disch := omega) only [LX6_appendWord_3, BX6_appendWord_3, k1, ↓reduceIte, ↓hS2.g6_0, ↓hS2.g6_1, ↓hS2.g6_2, ↓hS2.g6_3, ↓hS2.g6_4, ↓hS2.g6_5, ↓hS2.g6_7, ↓hS2.g6_8, ↓hS2.k6, ↓hS2.g2_0, ↓hS2.g2_1, ↓hS2.g2_2, ↓hS2.g2_3, ↓hS2.g2_4, ↓hS2.g2_5, ↓hS2.g2_6, ↓hS2.g2_7, ↓hS2.k2, ↓hS2.g3_0, ↓hS2.g3_1, ↓hS2.g3_2, ↓hS2.g3_3, ↓hS2.g3_4, ↓hS2.k3, ↓hS2.g4_0, ↓hS2.g4_1, ↓hS2.g4_3, ↓hS2.g4_5, ↓hS2.g4_6, ↓hS2.g4_7, ↓hS2.g4_8, ↓hS2.g4_9, ↓hS2.g4_10, ↓hS2.g4_12, ↓hS2.g4_11, ↓hS2.k4, ↓hS2.g5_0, ↓hS2.g5_1, ↓hS2.g5_2, ↓hS2.g5_3, ↓hS2.g5_4, ↓hS2.g5_5, ↓hS2.g5_6, ↓hS2.k5, ↓hS2.g1_0, ↓hS2.g1_1, ↓hS2.g1_2, ↓hS2.g1_3, ↓hS2.g1_4, ↓hS2.g1_5, ↓hS2.g1_6, ↓hS2.g1_7, ↓hS2.k1, ↓hS2.l3, ↓hS2.n3, ↓hS2.l26, ↓hS2.n26, ↓hS2.l5, ↓hS2.n5, ↓hS2.l12, ↓hS2.n12, ↓hS2.l6, ↓hS2.n6, ↓hS2.l10, ↓hS2.n10, ↓hS2.l11, ↓hS2.n11, ↓hS2.l13, ↓hS2.n13, ↓hS2.l14, ↓hS2.n14, ↓hS2.l16, ↓hS2.n16, ↓hS2.l24, ↓hS2.n24, ↓hS2.l27, ↓hS2.n27, ↓hS2.l28, ↓hS2.n28, ↓hS2.l2, ↓hS2.n2, g2, k2]
      rw [hS2.s2 (by omega) (by omega), hS3.g6_1, e11, hS3.p6_1, ew, w32_eq (by omega) (by omega)]
  · obtain ⟨i0, g1, g2, g3⟩ := hs
    refine ⟨s, ?_, g1, g2, g3⟩
    have k1 : (24 : Int) - 8 * 4 < 0 := by omega
    simp only [LX6_appendWord_3, BX6_appendWord_3, BX6_appendWord_46, k1, ↓reduceIte]
theorem append_go (hI : CIc μ c u h tx fed fa) {v : Int} (hv : i32 v) (f1 : fed + 4 ≤ 600) : ∃ ν, FX6_appendWord 1 v μ = RT 0 ν ∧ CIc ν c u h (put4 tx fed v) (fed + 4) fa ∧ (∀ z k, 3 ≤ z ∨ z ≤ 0 → ν z k = μ z k) := by
  obtain ⟨hc, hB, hP⟩ := hI
  have hB0 := hB.1
  obtain ⟨ν, e, g1, g2, g3⟩ := appendWord_rt (fed := fed) hc.1 hv hB.1.1 f1 hB.2.1.1
  have hS2 : CSh ν := hc.1.fr fun z k hz => g1 z k (by unfold CSt at hz; omega)
  refine ⟨ν, e, ⟨?_, ⟨⟨by have := hB.1; omega, f1⟩, ⟨g2, by rw [g1 _ _ (by omega), hB.2.1.2.1], hB.2.1.2.2⟩, fun k k0 k1 => ?_⟩, hP.fr hc.cur.1 fun z k h1 h2 h3 => g1 _ _ (by omega)⟩, fun z k hz => g1 _ _ (by omega)⟩
  · obtain ⟨s, c0, ⟨a1, a2, a3⟩, u0, b, d⟩ := id hc
    exact ⟨hS2, c0, ⟨by rw [g1 _ _ (by omega), a1], by rw [g1 _ _ (by omega), a2], by rw [g1 _ _ (by omega), a3]⟩, u0, fun j j0 j1 => ⟨(b j j0 j1).1, (b j j0 j1).2.fr (b j j0 j1).1 (fun a k h1 h2 h3 => g1 _ _ (by omega)) (fun a k h1 h2 => g1 _ _ (by omega)) (by rw [g1 _ _ (by omega)]; exact Int.le_refl _)⟩, by rw [g1 _ _ (by omega)]; exact d⟩
  · unfold put4
    by_cases e2 : fed ≤ k ∧ k < fed + 4
    · rw [if_pos e2]
      have := g3 (k - fed) (by omega) (by omega)
      rw [show fed + (k - fed) = k by omega] at this
      exact this
    · rw [if_neg e2, g1 _ _ (by omega)]
      exact hB.2.2 k k0 (by omega)
theorem append_rt (hI : CIc μ c u h tx fed fa) {w0 w1 w2 w3 w4 : Int} (h0 : i32 w0) (h1 : i32 w1) (h2 : i32 w2) (h3 : i32 w3) (h4 : i32 w4) (f1 : fed ≤ 580) : ∃ ν, FX6_append 1 w0 w1 w2 w3 w4 μ = RT (fed + 20) ν ∧ CIc ν c u h (put20 tx fed w0 w1 w2 w3 w4) (fed + 20) fa ∧ CFr μ ν := by
  obtain ⟨ν1, e1, i1, g1⟩ := append_go hI h0 (by omega)
  obtain ⟨ν2, e2, i2, g2⟩ := append_go i1 h1 (by omega)
  obtain ⟨ν3, e3, i3, g3⟩ := append_go i2 h2 (by omega)
  obtain ⟨ν4, e4, i4, g4⟩ := append_go i3 h3 (by omega)
  obtain ⟨ν5, e5, i5, g5⟩ := append_go i4 h4 (by omega)
  have hg : ∀ z k, 3 ≤ z ∨ z ≤ 0 → ν5 z k = μ z k := fun z k hz => by rw [g5 z k hz, g4 z k hz, g3 z k hz, g2 z k hz, g1 z k hz]
  refine ⟨ν5, ?_, ?_, ⟨fun z k a1 => hg z k (by omega), by rw [hg _ _ (by omega)]; exact Int.le_refl _, by rw [hg _ _ (by omega)]; omega, by rw [hg _ _ (by omega)]; omega⟩⟩
  · have hS := hI.1.1
    have hS1 := i1.1.1
    have hS2 := i2.1.1
    have hS3 := i3.1.1
    have hS4 := i4.1.1
    have hS5 := i5.1.1
    unfold FX6_append BX6_append_0
    rw [hS.g6_1, hI.2.1.2.1.1, if_pos f1, hS.k6, e1]
    simp only [CL, ↓CLX_rt]
    rw [hS1.k6, e2]
    simp only [↓CLX_rt]
    rw [hS2.k6, e3]
    simp only [↓CLX_rt]
    rw [hS3.k6, e4]
    simp only [↓CLX_rt]
    rw [hS4.k6, e5]
    simp only [↓CLX_rt]
    rw [hS5.g6_1, i5.2.1.2.1.1]
    congr 1
    omega
  · rw [show fed + 20 = fed + 4 + 4 + 4 + 4 + 4 by omega]
    unfold put20
    rw [show fed + 8 = fed + 4 + 4 by omega, show fed + 12 = fed + 4 + 4 + 4 by omega, show fed + 16 = fed + 4 + 4 + 4 + 4 by omega]
    exact i5
theorem append_no (hI : CIc μ c u h tx fed fa) {w0 w1 w2 w3 w4 : Int} (f1 : ¬ fed ≤ 580) : FX6_append 1 w0 w1 w2 w3 w4 μ = RT (-1) μ := by
  unfold FX6_append BX6_append_0
  rw [hI.1.1.g6_1, hI.2.1.2.1.1, if_neg f1]
theorem packed_rt {a n s : Int} {m : Nat} (h1 : μ a (-1) = 20) (h2 : μ a (-2) = n) (s0 : 0 ≤ s) (hn : s + m ≤ n) (hn2 : n ≤ 1000) (hm : m ≤ 6) (f : Int → Int) (hf : ∀ j : Int, 0 ≤ j → j < m → 0 ≤ f j ∧ f j ≤ 255) (hv : ∀ j : Int, 0 ≤ j → j < m → μ a (s + j) = w8 (f j)) : FX6_packedName a s (s + m) μ = RT (pk f m) μ := by
  unfold FX6_packedName BX6_packedName_0
  have hgo := lp (fun k i v => LX6_packedName_5 k a (s + m) v (s + i) μ) (fun i => pk f i.toNat) m (RT (pk f m) μ) (fun k i i0 i1 => ?_) (fun k => ?_) FU 0 (Int.le_refl _) (by omega) (by rw [show ((FU : Nat) : Int) = 20000 from rfl]; omega)
  · rw [Int.add_zero] at hgo
    exact hgo
  · have k1 : ¬ s + m ≤ s + i := by omega
    have k2 : ¬ n ≤ s + i := by omega
    have hb := pkb_le (f := f) (n := i.toNat) (by omega) fun j j0 j1 => hf j j0 (by omega)
    have hfi := hf i i0 i1
    have ev : bAnd (μ a (s + i)) 255 = f i := by rw [hv i i0 i1, byte_255 hfi.1 hfi.2]
    have e9 : pk f (i + 1).toNat = pk f i.toNat * 256 + f i := by rw [show (i + 1).toNat = i.toNat + 1 by omega, pk, show ((i.toNat : Nat) : Int) = i by omega]
    rw [e9]
    simp (disch := omega) only [LX6_packedName_5, BX6_packedName_5, k1, ↓reduceIte, ↓LN_of (t := 0) h1 h2, k2, ↓AL_of (t := 0) h1 h2, ↓LT_eq, ev, w64_eq, w32_eq, Int.add_assoc]
  · simp only [LX6_packedName_5, BX6_packedName_5, BX6_packedName_40, Int.le_refl, ↓reduceIte]
    rw [Int.toNat_natCast]
theorem indexOf_rt (hS : CSh μ) {r : Row} (c0 : 0 ≤ c) (c1 : c < 10) (hr2 : 0 ≤ r 2 ∧ r 2 ≤ 4) (hN : μ (25 + 8 * c) 3 = r 2) (hn : ∀ p, 0 ≤ p → p < r 2 → μ (29 + 8 * c + p) 0 = nmO r p) {v : Int} : FX5_indexOfName (25 + 8 * c) v μ = RT (fdV r v) μ := by
  unfold FX5_indexOfName BX5_indexOfName_0 fdV
  have hgo : ∀ (k : Nat) (n : Nat) (p : Int), 0 ≤ p → p + k = r 2 → k < n → LX5_indexOfName_2 n (25 + 8 * c) v p μ = RT (fdA r v k p) μ := by
    intro k
    induction k with
    | zero =>
      intro n p p0 hp hk
      obtain ⟨n, rfl⟩ : ∃ q, n = q + 1 := ⟨n - 1, by omega⟩
      have k1 : r 2 ≤ p := by omega
      simp (disch := omega) only [LX5_indexOfName_2, BX5_indexOfName_2, ↓hS.g6_0, ↓hS.g6_1, ↓hS.g6_2, ↓hS.g6_3, ↓hS.g6_4, ↓hS.g6_5, ↓hS.g6_7, ↓hS.g6_8, ↓hS.k6, ↓hS.g2_0, ↓hS.g2_1, ↓hS.g2_2, ↓hS.g2_3, ↓hS.g2_4, ↓hS.g2_5, ↓hS.g2_6, ↓hS.g2_7, ↓hS.k2, ↓hS.g3_0, ↓hS.g3_1, ↓hS.g3_2, ↓hS.g3_3, ↓hS.g3_4, ↓hS.k3, ↓hS.g4_0, ↓hS.g4_1, ↓hS.g4_3, ↓hS.g4_5, ↓hS.g4_6, ↓hS.g4_7, ↓hS.g4_8, ↓hS.g4_9, ↓hS.g4_10, ↓hS.g4_12, ↓hS.g4_11, ↓hS.k4, ↓hS.g5_0, ↓hS.g5_1, ↓hS.g5_2, ↓hS.g5_3, ↓hS.g5_4, ↓hS.g5_5, ↓hS.g5_6, ↓hS.k5, ↓hS.g1_0, ↓hS.g1_1, ↓hS.g1_2, ↓hS.g1_3, ↓hS.g1_4, ↓hS.g1_5, ↓hS.g1_6, ↓hS.g1_7, ↓hS.k1, ↓hS.l3, ↓hS.n3, ↓hS.l26, ↓hS.n26, ↓hS.l5, ↓hS.n5, ↓hS.l12, ↓hS.n12, ↓hS.l6, ↓hS.n6, ↓hS.l10, ↓hS.n10, ↓hS.l11, ↓hS.n11, ↓hS.l13, ↓hS.n13, ↓hS.l14, ↓hS.n14, ↓hS.l16, ↓hS.n16, ↓hS.l24, ↓hS.n24, ↓hS.l27, ↓hS.n27, ↓hS.l28, ↓hS.n28, ↓hS.l2, ↓hS.n2, hN, k1, ↓reduceIte]
      rfl
    | succ k ih =>
      intro n p p0 hp hk
      obtain ⟨n, rfl⟩ : ∃ q, n = q + 1 := ⟨n - 1, by omega⟩
      have k1 : ¬ r 2 ≤ p := by omega
      simp (disch := omega) only [LX5_indexOfName_2, BX5_indexOfName_2, ↓hS.g6_0, ↓hS.g6_1, ↓hS.g6_2, ↓hS.g6_3, ↓hS.g6_4, ↓hS.g6_5, ↓hS.g6_7, ↓hS.g6_8, ↓hS.k6, ↓hS.g2_0, ↓hS.g2_1, ↓hS.g2_2, ↓hS.g2_3, ↓hS.g2_4, ↓hS.g2_5, ↓hS.g2_6, ↓hS.g2_7, ↓hS.k2, ↓hS.g3_0, ↓hS.g3_1, ↓hS.g3_2, ↓hS.g3_3, ↓hS.g3_4, ↓hS.k3, ↓hS.g4_0, ↓hS.g4_1, ↓hS.g4_3, ↓hS.g4_5, ↓hS.g4_6, ↓hS.g4_7, ↓hS.g4_8, ↓hS.g4_9, ↓hS.g4_10, ↓hS.g4_12, ↓hS.g4_11, ↓hS.k4, ↓hS.g5_0, ↓hS.g5_1, ↓hS.g5_2, ↓hS.g5_3, ↓hS.g5_4, ↓hS.g5_5, ↓hS.g5_6, ↓hS.k5, ↓hS.g1_0, ↓hS.g1_1, ↓hS.g1_2, ↓hS.g1_3, ↓hS.g1_4, ↓hS.g1_5, ↓hS.g1_6, ↓hS.g1_7, ↓hS.k1, ↓hS.l3, ↓hS.n3, ↓hS.l26, ↓hS.n26, ↓hS.l5, ↓hS.n5, ↓hS.l12, ↓hS.n12, ↓hS.l6, ↓hS.n6, ↓hS.l10, ↓hS.n10, ↓hS.l11, ↓hS.n11, ↓hS.l13, ↓hS.n13, ↓hS.l14, ↓hS.n14, ↓hS.l16, ↓hS.n16, ↓hS.l24, ↓hS.n24, ↓hS.l27, ↓hS.n27, ↓hS.l28, ↓hS.n28, ↓hS.l2, ↓hS.n2, hN, k1, ↓reduceIte, hn p p0 (by omega), cLong_z, w32_eq]
      rw [fdA]
      by_cases e : nmO r p = v
      · rw [if_neg (fun k => k e), if_pos e]
      · rw [if_pos e, if_neg e]
        exact ih n (p + 1) (by omega) (by omega) (by omega)
  exact hgo (r 2).toNat FU 0 (Int.le_refl _) (by omega) (by show (r 2).toNat < 20000; omega)
def fnV (r : Row) (tx : Int → Int) (n : Int) : Int := if 1 ≤ n ∧ n ≤ 6 then fdV r (pk tx n.toNat) else -1
theorem reqB_ok (hI : CIc μ c u h tx fed fa) {n : Int} (hn : 0 ≤ n ∧ n ≤ fed) : FX6_requireBuffered 1 n μ = RT 0 μ := by
  unfold FX6_requireBuffered BX6_requireBuffered_0
  rw [if_neg (by omega), hI.1.1.g6_1, hI.2.1.2.1.1, if_pos hn.2]
theorem reqB_no (hI : CIc μ c u h tx fed fa) {n : Int} (hn : ¬ (0 ≤ n ∧ n ≤ fed)) : FX6_requireBuffered 1 n μ = TH 2 μ := by
  unfold FX6_requireBuffered BX6_requireBuffered_0 BX6_requireBuffered_12
  by_cases h1 : n < 0
  · rw [if_pos h1]
  · rw [if_neg h1, hI.1.1.g6_1, hI.2.1.2.1.1, if_neg (by omega)]
end TXT

