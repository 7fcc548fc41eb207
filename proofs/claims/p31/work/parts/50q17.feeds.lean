/-! the law feeds its text, twenty bytes at a time -/
/-- as FrL, where the component works too -/
def FN (c s : Int) (P : Int → Prop) (μ ν : Mem) : Prop := (∀ z k, z < 0 → μ 0 3 < z → ¬ (0 ≤ k ∧ P z) → ν z k = μ z k) ∧ (ν 0 3 ≤ μ 0 3 ∧ ν 0 1 ≤ μ 0 1 + c ∧ ν 0 2 ≤ μ 0 2 + s)
def hyb (μ ν : Mem) : Mem := fun z k => if z < 0 ∨ (z = 0 ∧ 1 ≤ k) then ν z k else μ z k
section FNS
variable {μ ν ξ : Mem} {c s c' s' : Int} {P P' Q : Int → Prop}
theorem FN.h (f : FN c s P μ ν) : FrL c s P μ (hyb μ ν) ∧ NgF (hyb μ ν) ν := by
  obtain ⟨f1, f2, f3, f4⟩ := f
  have e3 : hyb μ ν 0 3 = ν 0 3 := if_pos (by omega)
  refine ⟨⟨fun z k h0 h1 h2 => ?_, if_neg (by omega), by rw [e3]; exact f2, ?_, ?_⟩, fun z k hz => (if_pos (Or.inl hz)).symm, e3.symm⟩
  · by_cases hz : z < 0
    · have e : hyb μ ν z k = ν z k := if_pos (Or.inl hz)
      rw [e]
      exact f1 z k hz h1 h2
    · exact if_neg (by omega)
  · have e : hyb μ ν 0 1 = ν 0 1 := if_pos (by omega)
    rw [e]
    exact f3
  · have e : hyb μ ν 0 2 = ν 0 2 := if_pos (by omega)
    rw [e]
    exact f4
theorem FrL.fn (f : FrL c s P μ ν) : FN c s P μ ν := ⟨fun z k hz h1 h2 => f.1 z k (by omega) h1 h2, f.2.2⟩
theorem FN.tr (h : FN c s P μ ν) (h' : FN c' s' P' ν ξ) (hP : ∀ z, z < 0 → μ 0 3 < z → P z → Q z) (hQ : ∀ z, z < 0 → μ 0 3 < z → P' z → Q z) : FN (c + c') (s + s') Q μ ξ := by
  obtain ⟨f, a2, a3, a4⟩ := h
  obtain ⟨g, b2, b3, b4⟩ := h'
  exact ⟨fun z k h0 h1 h2 => by
    rw [g z k h0 (by omega) (fun e => h2 ⟨e.1, hQ z h0 h1 e.2⟩), f z k h0 h1 (fun e => h2 ⟨e.1, hP z h0 h1 e.2⟩)], by omega, by omega, by omega⟩
theorem FN.le (h : FN c s P μ ν) (hc : c ≤ c') (hs : s ≤ s') (hP : ∀ z, z < 0 → μ 0 3 < z → P z → Q z) : FN c' s' Q μ ν := by
  obtain ⟨f, a2, a3, a4⟩ := h
  exact ⟨fun z k h0 h1 h2 => f z k h0 h1 (fun e => h2 ⟨e.1, hP z h0 h1 e.2⟩), a2, by omega, by omega⟩
theorem CFr.fn (f : CFr μ ν) : FN 10 3000 NoP μ ν := ⟨fun z k hz _ _ => f.1 z k (Or.inl hz), by rw [f.1 0 3 (Or.inr ⟨rfl, rfl⟩)]; exact Int.le_refl _, f.2.2.1, f.2.2.2⟩
theorem UpFr.fn (f : UpFr μ ν) : FN 0 0 NoP μ ν := ⟨fun z k hz _ _ => f.2 z k (by omega), by rw [f.2 _ _ (by omega)]; exact Int.le_refl _, by rw [f.2 _ _ (by omega)]; omega, by rw [f.2 _ _ (by omega)]; omega⟩
end FNS
/-- a word from bytes -/
def pv (f : Int → Int) (a : Int) : Nat → Int
  | 0 => 0
  | m + 1 => pv f a m * 256 + f (a + m)
section PVS
variable {μ ν ξ : Mem} {c u fed fa i x y k w n a : Int} {h : Int → Row} {tx f : Int → Int} {l : List Int}
theorem CIc.fl (hI : CIc μ c u h tx fed fa) (f : ∀ z k, 0 < z → ν z k = μ z k) (f0 : ν 0 0 = μ 0 0) : CIc ν c u h tx fed fa := by
  obtain ⟨hc, hB, hP⟩ := hI
  have hS : CSh ν := hc.1.fr fun a k hs => f a k (by unfold CSt at hs; omega)
  exact ⟨hc.fr hS (fun k k0 => f _ _ (by omega)) (fun a k h1 h2 h3 => f _ _ (by omega)) (fun a k h1 h2 => f _ _ (by omega)) (by rw [f0]; exact Int.le_refl _), ⟨hB.1, ⟨by rw [f _ _ (by omega)]; exact hB.2.1.1, by rw [f _ _ (by omega)]; exact hB.2.1.2.1, hB.2.1.2.2⟩, fun k k0 k1 => by rw [f _ _ (by omega)]; exact hB.2.2 k k0 k1⟩, hP.fr hc.cur.1 fun z k h1 h2 h3 => f z k (by omega)⟩
theorem FrL.ci {cc ss : Int} {P : Int → Prop} (hI : CIc μ c u h tx fed fa) (g : FrL cc ss P μ ν) (h3 : μ 0 3 < 0) (hP : ∀ z, P z → z < 0) : CIc ν c u h tx fed fa := hI.fl (fun z k hz => g.1 z k (by omega) (by omega) (fun e => by have := hP z e.2; omega)) g.2.1
theorem pv_le (hf : ∀ k, 0 ≤ f k ∧ f k < 128) : 0 ≤ pv f a 1 ∧ pv f a 1 < 128 ∧ 0 ≤ pv f a 2 ∧ pv f a 2 < 32768 ∧ 0 ≤ pv f a 3 ∧ pv f a 3 < 8388608 ∧ 0 ≤ pv f a 4 ∧ pv f a 4 < 2147483648 := by
  have h0 := hf (a + ((0 : Nat) : Int))
  have h1 := hf (a + ((1 : Nat) : Int))
  have h2 := hf (a + ((2 : Nat) : Int))
  have h3 := hf (a + ((3 : Nat) : Int))
  simp only [pv]
  omega
theorem pv_step {v z : Int} (v0 : 0 ≤ v) (v1 : v < 8388608) (z0 : 0 ≤ z) (z1 : z < 128) : bOr (bShl v 8) z = v * 256 + z := by
  have e1 : bShl v 8 = v * 256 := by
    have := bShl_nat (m := v.toNat) (k := 8) (by omega) (by omega)
    rw [Int.toNat_of_nonneg v0, show (((8 : Nat)) : Int) = 8 from rfl] at this
    rw [this]
    omega
  have e2 := bOr_nat (m := v.toNat * 256) (n := z.toNat) (k := 31) (by omega) (by show _ < 2147483648; omega) (by show _ < 2147483648; omega)
  have e3 : v.toNat * 256 ||| z.toNat = v.toNat * 256 + z.toNat := by
    have := Nat.two_pow_add_eq_or_of_lt (b := z.toNat) (i := 8) (by show _ < 256; omega) v.toNat
    rw [show (2 : Nat) ^ 8 = 256 from rfl, Nat.mul_comm] at this
    exact this.symm
  rw [e3] at e2
  rw [e1, show v * 256 = ((v.toNat * 256 : Nat) : Int) by omega, show z = ((z.toNat : Nat) : Int) by omega, e2]
  omega
/-- the bytes of a word -/
theorem pv_tb (hf : ∀ k, 0 ≤ f k ∧ f k < 128) {j : Int} (j0 : 0 ≤ j) (j1 : j < 4) : tb (pv f a 4) (24 - 8 * j) = f (a + j) := by
  have h0 := hf (a + ((0 : Nat) : Int))
  have h1 := hf (a + ((1 : Nat) : Int))
  have h2 := hf (a + ((2 : Nat) : Int))
  have h3 := hf (a + ((3 : Nat) : Int))
  have hb := pv_le (a := a) hf
  have hv : i32 (pv f a 4) := by unfold i32; omega
  have e4 : pv f a 4 = (((0 * 256 + f (a + ((0 : Nat) : Int))) * 256 + f (a + ((1 : Nat) : Int))) * 256 + f (a + ((2 : Nat) : Int))) * 256 + f (a + ((3 : Nat) : Int)) := rfl
  unfold tb
  have h4 : j = 0 ∨ j = 1 ∨ j = 2 ∨ j = 3 := by omega
  rcases h4 with e | e | e | e
  · subst e
    have := bShr_int hv (k := 24) (by omega)
    rw [show (((24 : Nat)) : Int) = 24 from rfl] at this
    rw [show (24 : Int) - 8 * 0 = 24 from rfl, this, bAnd_255, e4, show (((2 ^ 24 : Nat)) : Int) = 16777216 from rfl, show a + 0 = a + ((0 : Nat) : Int) from rfl]
    omega
  · subst e
    have := bShr_int hv (k := 16) (by omega)
    rw [show (((16 : Nat)) : Int) = 16 from rfl] at this
    rw [show (24 : Int) - 8 * 1 = 16 from rfl, this, bAnd_255, e4, show (((2 ^ 16 : Nat)) : Int) = 65536 from rfl, show a + 1 = a + ((1 : Nat) : Int) from rfl]
    omega
  · subst e
    have := bShr_int hv (k := 8) (by omega)
    rw [show (((8 : Nat)) : Int) = 8 from rfl] at this
    rw [show (24 : Int) - 8 * 2 = 8 from rfl, this, bAnd_255, e4, show (((2 ^ 8 : Nat)) : Int) = 256 from rfl, show a + 2 = a + ((2 : Nat) : Int) from rfl]
    omega
  · subst e
    have := bShr_int hv (k := 0) (by omega)
    rw [show (((0 : Nat)) : Int) = 0 from rfl] at this
    rw [show (24 : Int) - 8 * 3 = 0 from rfl, this, bAnd_255, e4, show (((2 ^ 0 : Nat)) : Int) = 1 from rfl, show a + 3 = a + ((3 : Nat) : Int) from rfl]
    omega
theorem put4_at {p v k : Int} : put4 tx p v k = if p ≤ k ∧ k < p + 4 then tb v (24 - 8 * (k - p)) else tx k := rfl
theorem put20_at (hf : ∀ k, 0 ≤ f k ∧ f k < 128) (k : Int) : put20 tx i (pv f i 4) (pv f (i + 4) 4) (pv f (i + 8) 4) (pv f (i + 12) 4) (pv f (i + 16) 4) k = if i ≤ k ∧ k < i + 20 then f k else tx k := by
  have ht : ∀ p, p ≤ k → k < p + 4 → tb (pv f p 4) (24 - 8 * (k - p)) = f k := fun p h1 h2 => by
    rw [pv_tb hf (by omega) (by omega), show p + (k - p) = k by omega]
  unfold put20
  rw [put4_at, put4_at, put4_at, put4_at, put4_at]
  by_cases q4 : i + 16 ≤ k ∧ k < i + 16 + 4
  · rw [if_pos q4, if_pos (by omega), ht _ q4.1 q4.2]
  rw [if_neg q4]
  by_cases q3 : i + 12 ≤ k ∧ k < i + 12 + 4
  · rw [if_pos q3, if_pos (by omega), ht _ q3.1 q3.2]
  rw [if_neg q3]
  by_cases q2 : i + 8 ≤ k ∧ k < i + 8 + 4
  · rw [if_pos q2, if_pos (by omega), ht _ q2.1 q2.2]
  rw [if_neg q2]
  by_cases q1 : i + 4 ≤ k ∧ k < i + 4 + 4
  · rw [if_pos q1, if_pos (by omega), ht _ q1.1 q1.2]
  rw [if_neg q1]
  by_cases q0 : i ≤ k ∧ k < i + 4
  · rw [if_pos q0, if_pos (by omega), ht _ q0.1 q0.2]
  · rw [if_neg q0, if_neg (by omega)]
def clp (z : Int) : Nat := if z < 0 then 0 else if 4 < z then 4 else z.toNat
/-- the byte at k, spaces behind the end -/
def byt (l : List Int) (k : Int) : Int := if k < l.length then gt l k else 32
theorem chunk_go {k4 : Int → Int → Int → Int → Mem → Rz} (hx : Str μ x y l) (h3 : μ 0 3 < -21) (hf : ∀ k, 0 ≤ byt l k ∧ byt l k < 128) (i0 : 0 ≤ i) (i1 : i ≤ 400) : ∃ σ, (∀ R, (NAn 1 5 μ fun t103 u104 => LL_feeds_20 k4 FU 1 x i t103 0 u104) = R ↔ BL_feeds_20 k4 (fun y0 y1 y3 y4 y5 ν => LL_feeds_20 k4 19979 y0 y1 y3 y4 y5 ν) 1 x i (μ 0 3) 20 σ = R) ∧ FrL 1 5 NoP μ σ ∧ σ 0 3 = μ 0 3 - 1 ∧ (σ (μ 0 3) (-1) = 21 ∧ σ (μ 0 3) (-2) = 5) ∧ ∀ q, 0 ≤ q → q < 5 → σ (μ 0 3) q = pv (byt l) (i + 4 * q) 4 := by
  obtain ⟨μ1, e1, ⟨g1, g2, g3⟩, g4, f1⟩ := NAn_go (t := 1) h3 (len := 5) (by omega) (by omega)
  have hstep : ∀ (d : Nat) (n : Nat) (k : Int) (σ : Mem), k + d = 20 → n = 19979 + d + 1 → 0 ≤ k → FrL 1 5 NoP μ σ → σ 0 3 = μ 0 3 - 1 → (σ (μ 0 3) (-1) = 21 ∧ σ (μ 0 3) (-2) = 5) → (∀ q, 0 ≤ q → q < 5 → σ (μ 0 3) q = pv (byt l) (i + 4 * q) (clp (k - 4 * q))) → ∃ σ', LL_feeds_20 k4 n 1 x i (μ 0 3) k σ = BL_feeds_20 k4 (fun y0 y1 y3 y4 y5 ν => LL_feeds_20 k4 19979 y0 y1 y3 y4 y5 ν) 1 x i (μ 0 3) 20 σ' ∧ FrL 1 5 NoP μ σ' ∧ σ' 0 3 = μ 0 3 - 1 ∧ (σ' (μ 0 3) (-1) = 21 ∧ σ' (μ 0 3) (-2) = 5) ∧ ∀ q, 0 ≤ q → q < 5 → σ' (μ 0 3) q = pv (byt l) (i + 4 * q) 4 := by
    intro d
    induction d with
    | zero =>
      intro n k σ h1 h2 k0 f h03 hk hw
      obtain rfl : n = 19979 + 1 := by omega
      obtain rfl : k = 20 := by omega
      refine ⟨σ, rfl, f, h03, hk, fun q q0 q1 => ?_⟩
      rw [hw q q0 q1]
      unfold clp
      by_cases e : 4 < 20 - 4 * q
      · rw [if_neg (by omega), if_pos e]
      · rw [if_neg (by omega), if_neg e, show (20 - 4 * q).toNat = 4 by omega]
    | succ d ih =>
      intro n k σ h1 h2 k0 f h03 hk hw
      obtain ⟨n, rfl⟩ : ∃ n', n = n' + 1 := ⟨n - 1, by omega⟩
      have hxσ := hx.fr f id id
      have hL := hxσ.2.2.1
      have hq0 : 0 ≤ k / 4 ∧ k / 4 < 5 ∧ k - 4 * (k / 4) = k % 4 ∧ 0 ≤ k % 4 ∧ k % 4 < 4 := by omega
      have hv := hw (k / 4) hq0.1 hq0.2.1
      have hcl : clp (k - 4 * (k / 4)) = (k % 4).toNat := by
        unfold clp
        rw [hq0.2.2.1, if_neg (by omega), if_neg (by omega)]
      rw [hcl] at hv
      have hbnd := pv_le (a := i + 4 * (k / 4)) hf
      have hvb : 0 ≤ pv (byt l) (i + 4 * (k / 4)) (k % 4).toNat ∧ pv (byt l) (i + 4 * (k / 4)) (k % 4).toNat < 8388608 := by
        have h4 : (k % 4).toNat = 0 ∨ (k % 4).toNat = 1 ∨ (k % 4).toNat = 2 ∨ (k % 4).toNat = 3 := by omega
        rcases h4 with e | e | e | e <;> rw [e]
        · show (0 : Int) ≤ 0 ∧ (0 : Int) < 8388608
          omega
        · omega
        · omega
        · omega
      have hbk := hf (i + k)
      have hps := pv_step hvb.1 hvb.2 hbk.1 hbk.2
      have hpn : pv (byt l) (i + 4 * (k / 4)) (k % 4).toNat * 256 + byt l (i + k) = pv (byt l) (i + 4 * (k / 4)) ((k % 4).toNat + 1) := by
        show _ = pv (byt l) (i + 4 * (k / 4)) (k % 4).toNat * 256 + byt l (i + 4 * (k / 4) + (((k % 4).toNat : Nat) : Int))
        congr 2
        omega
      have hdv : w32 (k.tdiv 4) = k / 4 := by rw [Int.tdiv_eq_ediv_of_nonneg k0, w32_eq (by omega) (by omega)]
      have e0 : LL_feeds_20 k4 (n + 1) 1 x i (μ 0 3) k σ = LL_feeds_20 k4 n 1 x i (μ 0 3) (k + 1) (mUp σ (μ 0 3) (k / 4) (pv (byt l) (i + 4 * (k / 4)) ((k % 4).toNat + 1))) := by
        show BL_feeds_20 k4 _ 1 x i (μ 0 3) k σ = _
        unfold BL_feeds_20 BL_feeds_67
        rw [if_neg (by omega), DV_of (by omega), DV_of (by omega), hdv, AL_go (n := 5) hk.1 hk.2 hq0.1 hq0.2.1 hv, KD_go hxσ.1.2.2.1, slen_rt hxσ]
        simp only [CL, CLX_rt]
        rw [w32_eq (z := i + k) (by omega) (by omega), w32_eq (z := k + 1) (by omega) (by omega)]
        by_cases q : (l.length : Int) ≤ i + k
        · have hb : byt l (i + k) = 32 := if_neg (by omega)
          rw [hb] at hps hpn
          rw [if_pos q, AS_l (n := 5) h3 hk.1 hk.2 hq0.1 hq0.2.1, hps, hpn]
        · have hb : byt l (i + k) = gt l (i + k) := if_pos (by omega)
          rw [hb] at hps hpn
          rw [if_neg q, KD_go hxσ.1.2.2.1, charAt_rt hxσ (by omega) (by omega)]
          simp only [CLX_rt]
          rw [AS_l (n := 5) h3 hk.1 hk.2 hq0.1 hq0.2.1, hps, hpn]
      have f2 : FrL 1 5 NoP μ (mUp σ (μ 0 3) (k / 4) (pv (byt l) (i + 4 * (k / 4)) ((k % 4).toNat + 1))) := by
        have := f.tr (Q := fun z => z = μ 0 3) (FrL.up (μ := σ) (a := μ 0 3) (k := k / 4) (w := pv (byt l) (i + 4 * (k / 4)) ((k % 4).toNat + 1)) (P := fun z => z = μ 0 3) (by omega) (by omega) rfl) (fun _ _ _ e => e.elim) (fun _ _ _ e => e)
        exact this.le (by omega) (by omega) (fun z _ h e => by omega)
      obtain ⟨σ', i1, i2, i3, i4, i5⟩ := ih n (k + 1) (mUp σ (μ 0 3) (k / 4) (pv (byt l) (i + 4 * (k / 4)) ((k % 4).toNat + 1))) (by omega) (by omega) (by omega) f2 (by rw [mUp_ne _ _ (by omega)]; exact h03) ⟨by rw [mUp_ne _ _ (by omega)]; exact hk.1, by rw [mUp_ne _ _ (by omega)]; exact hk.2⟩ (fun q q0 q1 => by
        by_cases e : q = k / 4
        · have e9 : clp (k + 1 - 4 * (k / 4)) = (k % 4).toNat + 1 := by
            unfold clp
            rw [if_neg (by omega), if_neg (by omega)]
            omega
          rw [e, mUp_same, e9]
        · rw [mUp_ne _ _ (fun w => e w.2), hw q q0 q1]
          congr 1
          unfold clp
          by_cases e1 : k - 4 * q < 0
          · rw [if_pos e1]
            by_cases e2 : k + 1 - 4 * q < 0
            · rw [if_pos e2]
            · rw [if_neg e2, if_neg (by omega)]
              omega
          · rw [if_neg e1, if_neg (by omega : ¬ k + 1 - 4 * q < 0)]
            by_cases e2 : 4 < k - 4 * q
            · rw [if_pos e2, if_pos (by omega)]
            · rw [if_neg e2, if_pos (by omega : 4 < k + 1 - 4 * q)]
              omega)
      exact ⟨σ', e0.trans i1, i2, i3, i4, i5⟩
  obtain ⟨σ', i1, i2, i3, i4, i5⟩ := hstep 20 FU 0 μ1 (by omega) rfl (Int.le_refl _) f1 g4 ⟨g1, g2⟩ (fun q q0 q1 => by
    have e9 : clp (0 - 4 * q) = 0 := by
      unfold clp
      by_cases e : 0 - 4 * q < 0
      · rw [if_pos e]
      · rw [if_neg e, if_neg (by omega)]
        omega
    rw [g3 q q0, e9]
    rfl)
  exact ⟨σ', fun R => by rw [e1, i1], i2, i3, i4, i5⟩
end PVS
