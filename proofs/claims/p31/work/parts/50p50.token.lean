/-! the text that is read: runs of bytes, and the component's next piece of it -/
def rn (lo hi : Int) (tx : Int → Int) (L : Int) : Nat → Int → Int
  | 0, a => a
  | n + 1, a => if a < L ∧ lo ≤ tx a ∧ tx a ≤ hi then rn lo hi tx L n (a + 1) else a
/-- behind the bytes from lo to hi that begin at a -/
def run (lo hi : Int) (tx : Int → Int) (L a : Int) : Int := rn lo hi tx L (L - a).toNat a
section RUN
variable {lo hi L a : Int} {tx : Int → Int}
theorem run_e (h : ¬ (a < L ∧ lo ≤ tx a ∧ tx a ≤ hi)) : run lo hi tx L a = a := by
  unfold run
  cases (L - a).toNat with
  | zero => rfl
  | succ n => rw [rn, if_neg h]
theorem run_s (h : a < L ∧ lo ≤ tx a ∧ tx a ≤ hi) : run lo hi tx L a = run lo hi tx L (a + 1) := by
  unfold run
  rw [show (L - a).toNat = (L - (a + 1)).toNat + 1 by omega, rn, if_pos h]
theorem rn_all : ∀ (n : Nat) (a : Int), L - a ≤ n → (a ≤ rn lo hi tx L n a ∧ (a ≤ L → rn lo hi tx L n a ≤ L)) ∧ (¬ (rn lo hi tx L n a < L ∧ lo ≤ tx (rn lo hi tx L n a) ∧ tx (rn lo hi tx L n a) ≤ hi)) ∧ ∀ k, a ≤ k → k < rn lo hi tx L n a → lo ≤ tx k ∧ tx k ≤ hi
  | 0, a, h => by
    unfold rn
    exact ⟨⟨Int.le_refl _, id⟩, fun k => by omega, fun k h1 h2 => by omega⟩
  | n + 1, a, h => by
    unfold rn
    by_cases e : a < L ∧ lo ≤ tx a ∧ tx a ≤ hi
    · obtain ⟨⟨h1, h2⟩, h3, h4⟩ := rn_all n (a + 1) (by omega)
      rw [if_pos e]
      refine ⟨⟨by omega, fun _ => h2 (by omega)⟩, h3, fun k k0 k1 => ?_⟩
      by_cases ek : k = a
      · rw [ek]; exact e.2
      · exact h4 k (by omega) k1
    · rw [if_neg e]
      exact ⟨⟨Int.le_refl _, id⟩, e, fun k h1 h2 => by omega⟩
theorem run_ge : a ≤ run lo hi tx L a := (rn_all _ a (by omega)).1.1
theorem run_le (h : a ≤ L) : run lo hi tx L a ≤ L := (rn_all _ a (by omega)).1.2 h
theorem run_at : ¬ (run lo hi tx L a < L ∧ lo ≤ tx (run lo hi tx L a) ∧ tx (run lo hi tx L a) ≤ hi) := (rn_all _ a (by omega)).2.1
theorem run_in {k : Int} (h1 : a ≤ k) (h2 : k < run lo hi tx L a) : lo ≤ tx k ∧ tx k ≤ hi := (rn_all _ a (by omega)).2.2 k h1 h2
theorem run_mid {b : Int} (h1 : a ≤ b) (h2 : b ≤ run lo hi tx L a) (hL : a ≤ L) : run lo hi tx L b = run lo hi tx L a := by
  obtain ⟨d, hd⟩ : ∃ d : Nat, b = a + d := ⟨(b - a).toNat, by omega⟩
  subst hd
  have hl := run_le (lo := lo) (hi := hi) (tx := tx) hL
  clear h1
  induction d with
  | zero => simp
  | succ d ih =>
    have h3 := ih (by omega)
    have h4 := run_in (lo := lo) (hi := hi) (tx := tx) (L := L) (a := a) (k := a + d) (by omega) (by omega)
    rw [← h3, show a + ((d + 1 : Nat) : Int) = a + d + 1 by omega, ← run_s ⟨by omega, h4⟩]
end RUN
abbrev sk (tx : Int → Int) (L a : Int) : Int := run 32 32 tx L a
def kd (tx : Int → Int) (L s : Int) : Int := if L ≤ s then 0 else if 97 ≤ tx s ∧ tx s ≤ 122 then 2 else if 48 ≤ tx s ∧ tx s ≤ 57 then 1 else 3
def en (tx : Int → Int) (L s : Int) : Int := if L ≤ s then s else if 97 ≤ tx s ∧ tx s ≤ 122 then run 97 122 tx L s else if 48 ≤ tx s ∧ tx s ≤ 57 then run 48 57 tx L s else s + 1
/-- where the next piece begins -/
def nx (tx : Int → Int) (L s : Int) : Int := sk tx L (en tx L s)
/-- a piece can begin at s -/
def Pc (tx : Int → Int) (L s : Int) : Prop := (0 ≤ s ∧ s ≤ L) ∧ ¬ (s < L ∧ 32 ≤ tx s ∧ tx s ≤ 32)
section PCS
variable {L s a : Int} {tx : Int → Int}
theorem sk_pc (h0 : 0 ≤ a) (h1 : a ≤ L) : Pc tx L (sk tx L a) := ⟨⟨Int.le_trans h0 run_ge, run_le h1⟩, run_at⟩
theorem Pc.sk (h : Pc tx L s) : sk tx L s = s := run_e h.2
theorem en_le (h : Pc tx L s) : s ≤ en tx L s ∧ en tx L s ≤ L ∧ (s < L → s < en tx L s) := by
  unfold en
  have h1 := h.1
  by_cases e : L ≤ s
  · rw [if_pos e]; omega
  · rw [if_neg e]
    by_cases e1 : 97 ≤ tx s ∧ tx s ≤ 122
    · rw [if_pos e1, run_s ⟨by omega, e1⟩]
      have h2 := run_ge (lo := 97) (hi := 122) (tx := tx) (L := L) (a := s + 1)
      have h3 := run_le (lo := 97) (hi := 122) (tx := tx) (L := L) (a := s + 1) (by omega)
      omega
    · rw [if_neg e1]
      by_cases e2 : 48 ≤ tx s ∧ tx s ≤ 57
      · rw [if_pos e2, run_s ⟨by omega, e2⟩]
        have h2 := run_ge (lo := 48) (hi := 57) (tx := tx) (L := L) (a := s + 1)
        have h3 := run_le (lo := 48) (hi := 57) (tx := tx) (L := L) (a := s + 1) (by omega)
        omega
      · rw [if_neg e2]; omega
theorem nx_pc (h : Pc tx L s) : Pc tx L (nx tx L s) := by
  have h1 := en_le h
  have h2 := h.1
  exact sk_pc (by omega) h1.2.1
theorem nx_gt (h : Pc tx L s) (hs : s < L) : s < nx tx L s := by
  have h1 := (en_le h).2.2 hs
  have h2 := run_ge (lo := 32) (hi := 32) (tx := tx) (L := L) (a := en tx L s)
  show s < run 32 32 tx L (en tx L s)
  omega
end PCS
/-- the text in the component's hands -/
def Tb (μ : Mem) (tx : Int → Int) (L : Int) : Prop := CSh μ ∧ (μ 23 2 = 2 ∧ μ 23 3 = L ∧ 0 ≤ L ∧ L ≤ 600) ∧ ∀ k, 0 ≤ k → k < L → μ 2 k = w8 (tx k) ∧ 0 ≤ tx k ∧ tx k ≤ 255
theorem w8_c {z : Int} (h : 0 ≤ z ∧ z ≤ 255) : (w8 z = z ∧ z < 128) ∨ (w8 z = z - 256 ∧ 128 ≤ z) := by
  unfold w8
  rw [Int.bmod_def]
  split <;> omega
/-- the reader's own numbers alone change -/
def RdF (μ ν : Mem) : Prop := ∀ z k, ¬ (z = 23 ∧ (k = 0 ∨ k = 1 ∨ k = 7 ∨ k = 8 ∨ k = 9 ∨ k = 10)) → ν z k = μ z k
def RdT (μ ν : Mem) : Prop := ∀ z k, ¬ (z = 23 ∧ (k = 7 ∨ k = 8 ∨ k = 9)) → ν z k = μ z k
section TKN
variable {μ : Mem} {L s : Int} {tx : Int → Int}
theorem RdF.rf : RdF μ μ := fun _ _ _ => rfl
theorem RdF.tr {ν ξ : Mem} (h1 : RdF μ ν) (h2 : RdF ν ξ) : RdF μ ξ := fun z k h => (h2 z k h).trans (h1 z k h)
theorem RdF.up {ν : Mem} (h1 : RdF μ ν) {k v : Int} (hk : k = 0 ∨ k = 1 ∨ k = 7 ∨ k = 8 ∨ k = 9 ∨ k = 10) : RdF μ (mUp ν 23 k v) := fun z j h => (mUp_ne _ _ (by omega)).trans (h1 z j h)
theorem Tb.rf {ν : Mem} (h : Tb μ tx L) (f : RdF μ ν) : Tb ν tx L := by
  obtain ⟨h1, ⟨h2, h3, h4⟩, h5⟩ := h
  exact ⟨h1.fr fun a k hs => f a k (by unfold CSt at hs; omega), ⟨by rw [f _ _ (by omega)]; exact h2, by rw [f _ _ (by omega)]; exact h3, h4⟩, fun k k0 k1 => by rw [f _ _ (by omega)]; exact h5 k k0 k1⟩
theorem RdT.f {ν : Mem} (h : RdT μ ν) : RdF μ ν := fun z k hk => h z k (by omega)
theorem RdT.rf : RdT μ μ := fun _ _ _ => rfl
theorem RdT.tr {ν ξ : Mem} (h1 : RdT μ ν) (h2 : RdT ν ξ) : RdT μ ξ := fun z k h => (h2 z k h).trans (h1 z k h)
theorem RdT.up {ν : Mem} (h1 : RdT μ ν) {k v : Int} (hk : k = 7 ∨ k = 8 ∨ k = 9) : RdT μ (mUp ν 23 k v) := fun z j h => (mUp_ne _ _ (by omega)).trans (h1 z j h)
theorem takeRun_rt (hT : Tb μ tx L) {lo hi k : Int} (s0 : 0 ≤ s) (s1 : s < L) (e8 : μ 23 8 = s) (hlo : 0 ≤ lo) (hhi : hi ≤ 127) (e9 : lo ≤ tx s ∧ tx s ≤ hi → μ 23 9 = s + 1) : ∃ ν, FX4_takeRun 23 lo hi k μ = RT 0 ν ∧ ν 23 7 = (if lo ≤ tx s ∧ tx s ≤ hi then k else μ 23 7) ∧ ν 23 9 = (if lo ≤ tx s ∧ tx s ≤ hi then run lo hi tx L s else μ 23 9) ∧ ν 23 8 = s ∧ RdT μ ν := by
  obtain ⟨hS, ⟨t2, t3, t4, t5⟩, hb⟩ := id hT
  obtain ⟨b1, b2⟩ := hb s s0 s1
  have hw := w8_c b2
  by_cases e : lo ≤ tx s ∧ tx s ≤ hi
  · have q1 : ¬ w8 (tx s) < lo := by omega
    have q2 : w8 (tx s) ≤ hi := by omega
    have hS2 : CSh (mUp μ 23 7 k) := hS.up (by unfold CSt; omega)
    simp (disch := omega) only [FX4_takeRun, BX4_takeRun_0, ↓hS.g6_0, ↓hS.g6_1, ↓hS.g6_2, ↓hS.g6_3, ↓hS.g6_4, ↓hS.g6_5, ↓hS.g6_7, ↓hS.g6_8, ↓hS.k6, ↓hS.g2_0, ↓hS.g2_1, ↓hS.g2_2, ↓hS.g2_3, ↓hS.g2_4, ↓hS.g2_5, ↓hS.g2_6, ↓hS.g2_7, ↓hS.k2, ↓hS.g3_0, ↓hS.g3_1, ↓hS.g3_2, ↓hS.g3_3, ↓hS.g3_4, ↓hS.k3, ↓hS.g4_0, ↓hS.g4_1, ↓hS.g4_3, ↓hS.g4_5, ↓hS.g4_6, ↓hS.g4_7, ↓hS.g4_8, ↓hS.g4_9, ↓hS.g4_10, ↓hS.g4_12, ↓hS.g4_11, ↓hS.k4, ↓hS.g5_0, ↓hS.g5_1, ↓hS.g5_2, ↓hS.g5_3, ↓hS.g5_4, ↓hS.g5_5, ↓hS.g5_6, ↓hS.k5, ↓hS.g1_0, ↓hS.g1_1, ↓hS.g1_2, ↓hS.g1_3, ↓hS.g1_4, ↓hS.g1_5, ↓hS.g1_6, ↓hS.g1_7, ↓hS.k1, ↓hS.l3, ↓hS.n3, ↓hS.l26, ↓hS.n26, ↓hS.l5, ↓hS.n5, ↓hS.l12, ↓hS.n12, ↓hS.l6, ↓hS.n6, ↓hS.l10, ↓hS.n10, ↓hS.l11, ↓hS.n11, ↓hS.l13, ↓hS.n13, ↓hS.l14, ↓hS.n14, ↓hS.l16, ↓hS.n16, ↓hS.l24, ↓hS.n24, ↓hS.l27, ↓hS.n27, ↓hS.l28, ↓hS.n28, ↓hS.l2, ↓hS.n2, ↓hS.g4_2 t2, e8, b1, q1, q2, ↓reduceIte, ↓hS.p6_1, ↓hS.z6_1, ↓hS.p6_2, ↓hS.z6_2, ↓hS.p6_4, ↓hS.z6_4, ↓hS.p6_5, ↓hS.z6_5, ↓hS.p6_6, ↓hS.p2_6, ↓hS.z2_6, ↓hS.p2_7, ↓hS.z2_7, ↓hS.p3_0, ↓hS.z3_0, ↓hS.p3_1, ↓hS.z3_1, ↓hS.p3_2, ↓hS.z3_2, ↓hS.p3_3, ↓hS.z3_3, ↓hS.p4_0, ↓hS.z4_0, ↓hS.p4_1, ↓hS.z4_1, ↓hS.p4_3, ↓hS.z4_3, ↓hS.p4_5, ↓hS.z4_5, ↓hS.p4_6, ↓hS.z4_6, ↓hS.p4_7, ↓hS.z4_7, ↓hS.p4_8, ↓hS.z4_8, ↓hS.p4_9, ↓hS.z4_9, ↓hS.p4_10, ↓hS.z4_10, ↓hS.p4_12, ↓hS.z4_12, ↓hS.p4_2, ↓hS.p4_4, ↓hS.p5_0, ↓hS.z5_0, ↓hS.p5_1, ↓hS.z5_1, ↓hS.p5_2, ↓hS.z5_2, ↓hS.p5_3, ↓hS.z5_3, ↓hS.p1_0, ↓hS.z1_0, ↓hS.p1_1, ↓hS.z1_1, ↓hS.p1_2, ↓hS.z1_2, ↓hS.p1_3, ↓hS.z1_3, ↓hS.p1_4, ↓hS.z1_4, ↓hS.p1_5, ↓hS.z1_5, ↓hS.p1_6, ↓hS.z1_6, ↓hS.p1_7, ↓hS.z1_7, ↓hS.s6, ↓hS.s10, ↓hS.s11, ↓hS.s13, ↓hS.s14, ↓hS.s16, ↓hS.s24, ↓hS.s27, ↓hS.s28, ↓hS.s2, e]
    rw [run_s ⟨s1, e⟩]
    have hF : RdT μ (mUp μ 23 7 k) := RdT.rf.up (by omega)
    have hf := run_ge (lo := lo) (hi := hi) (tx := tx) (L := L) (a := s + 1)
    have hl := run_le (lo := lo) (hi := hi) (tx := tx) (L := L) (a := s + 1) (by omega)
    refine lpR (fun n x ν => LX4_takeRun_32 n 23 lo hi ν) (fun x ν => s + 1 ≤ x ∧ ν 23 9 = x ∧ ν 23 7 = k ∧ ν 23 8 = s ∧ RdT μ ν) (run lo hi tx L (s + 1)) (fun R => ∃ ν, R = RT 0 ν ∧ ν 23 7 = (if True then k else μ 23 7) ∧ ν 23 9 = (if True then run lo hi tx L (s + 1) else μ 23 9) ∧ ν 23 8 = s ∧ RdT μ ν) (fun n x ν x1 hs => ?_) (fun n ν hs => ?_) FU (s + 1) (mUp μ 23 7 k) hf (by rw [show ((FU : Nat) : Int) = 20000 from rfl]; omega) ⟨Int.le_refl _, by rw [mUp_ne _ _ (by omega)]; exact e9 e, mUp_same _ _ _ _, by rw [mUp_ne _ _ (by omega)]; exact e8, hF⟩
    · obtain ⟨g0, g9, g7, g8, gF⟩ := hs
      obtain ⟨hSν, ⟨u2, u3, -⟩, hbν⟩ := hT.rf gF.f
      have hin := run_in (lo := lo) (hi := hi) (tx := tx) (L := L) g0 x1
      obtain ⟨c1, c2⟩ := hbν x (by omega) (by omega)
      have hw2 := w8_c c2
      have r1 : ¬ w8 (tx x) < lo := by omega
      have r2 : ¬ hi < w8 (tx x) := by omega
      have r3 : ¬ L ≤ x := by omega
      refine ⟨mUp ν 23 9 (x + 1), ⟨by omega, mUp_same _ _ _ _, by rw [mUp_ne _ _ (by omega)]; exact g7, by rw [mUp_ne _ _ (by omega)]; exact g8, gF.up (by omega)⟩, ?_⟩
      simp (disch := omega) only [LX4_takeRun_32, BX4_takeRun_32, ↓hSν.g6_0, ↓hSν.g6_1, ↓hSν.g6_2, ↓hSν.g6_3, ↓hSν.g6_4, ↓hSν.g6_5, ↓hSν.g6_7, ↓hSν.g6_8, ↓hSν.k6, ↓hSν.g2_0, ↓hSν.g2_1, ↓hSν.g2_2, ↓hSν.g2_3, ↓hSν.g2_4, ↓hSν.g2_5, ↓hSν.g2_6, ↓hSν.g2_7, ↓hSν.k2, ↓hSν.g3_0, ↓hSν.g3_1, ↓hSν.g3_2, ↓hSν.g3_3, ↓hSν.g3_4, ↓hSν.k3, ↓hSν.g4_0, ↓hSν.g4_1, ↓hSν.g4_3, ↓hSν.g4_5, ↓hSν.g4_6, ↓hSν.g4_7, ↓hSν.g4_8, ↓hSν.g4_9, ↓hSν.g4_10, ↓hSν.g4_12, ↓hSν.g4_11, ↓hSν.k4, ↓hSν.g5_0, ↓hSν.g5_1, ↓hSν.g5_2, ↓hSν.g5_3, ↓hSν.g5_4, ↓hSν.g5_5, ↓hSν.g5_6, ↓hSν.k5, ↓hSν.g1_0, ↓hSν.g1_1, ↓hSν.g1_2, ↓hSν.g1_3, ↓hSν.g1_4, ↓hSν.g1_5, ↓hSν.g1_6, ↓hSν.g1_7, ↓hSν.k1, ↓hSν.l3, ↓hSν.n3, ↓hSν.l26, ↓hSν.n26, ↓hSν.l5, ↓hSν.n5, ↓hSν.l12, ↓hSν.n12, ↓hSν.l6, ↓hSν.n6, ↓hSν.l10, ↓hSν.n10, ↓hSν.l11, ↓hSν.n11, ↓hSν.l13, ↓hSν.n13, ↓hSν.l14, ↓hSν.n14, ↓hSν.l16, ↓hSν.n16, ↓hSν.l24, ↓hSν.n24, ↓hSν.l27, ↓hSν.n27, ↓hSν.l28, ↓hSν.n28, ↓hSν.l2, ↓hSν.n2, ↓hSν.g4_2 u2, g9, u3, c1, r1, r2, r3, ↓reduceIte, ↓hSν.p6_1, ↓hSν.z6_1, ↓hSν.p6_2, ↓hSν.z6_2, ↓hSν.p6_4, ↓hSν.z6_4, ↓hSν.p6_5, ↓hSν.z6_5, ↓hSν.p6_6, ↓hSν.p2_6, ↓hSν.z2_6, ↓hSν.p2_7, ↓hSν.z2_7, ↓hSν.p3_0, ↓hSν.z3_0, ↓hSν.p3_1, ↓hSν.z3_1, ↓hSν.p3_2, ↓hSν.z3_2, ↓hSν.p3_3, ↓hSν.z3_3, ↓hSν.p4_0, ↓hSν.z4_0, ↓hSν.p4_1, ↓hSν.z4_1, ↓hSν.p4_3, ↓hSν.z4_3, ↓hSν.p4_5, ↓hSν.z4_5, ↓hSν.p4_6, ↓hSν.z4_6, ↓hSν.p4_7, ↓hSν.z4_7, ↓hSν.p4_8, ↓hSν.z4_8, ↓hSν.p4_9, ↓hSν.z4_9, ↓hSν.p4_10, ↓hSν.z4_10, ↓hSν.p4_12, ↓hSν.z4_12, ↓hSν.p4_2, ↓hSν.p4_4, ↓hSν.p5_0, ↓hSν.z5_0, ↓hSν.p5_1, ↓hSν.z5_1, ↓hSν.p5_2, ↓hSν.z5_2, ↓hSν.p5_3, ↓hSν.z5_3, ↓hSν.p1_0, ↓hSν.z1_0, ↓hSν.p1_1, ↓hSν.z1_1, ↓hSν.p1_2, ↓hSν.z1_2, ↓hSν.p1_3, ↓hSν.z1_3, ↓hSν.p1_4, ↓hSν.z1_4, ↓hSν.p1_5, ↓hSν.z1_5, ↓hSν.p1_6, ↓hSν.z1_6, ↓hSν.p1_7, ↓hSν.z1_7, ↓hSν.s6, ↓hSν.s10, ↓hSν.s11, ↓hSν.s13, ↓hSν.s14, ↓hSν.s16, ↓hSν.s24, ↓hSν.s27, ↓hSν.s28, ↓hSν.s2, w32_eq]
    · obtain ⟨g0, g9, g7, g8, gF⟩ := hs
      obtain ⟨hSν, ⟨u2, u3, -⟩, hbν⟩ := hT.rf gF.f
      refine ⟨ν, ?_, by rw [if_pos trivial]; exact g7, by rw [if_pos trivial]; exact g9, g8, gF⟩
      have hat := run_at (lo := lo) (hi := hi) (tx := tx) (L := L) (a := s + 1)
      generalize run lo hi tx L (s + 1) = x at g9 hat hl hf
      by_cases r3 : L ≤ x
      · simp (disch := omega) only [LX4_takeRun_32, BX4_takeRun_32, BX4_takeRun_82, ↓hSν.g6_0, ↓hSν.g6_1, ↓hSν.g6_2, ↓hSν.g6_3, ↓hSν.g6_4, ↓hSν.g6_5, ↓hSν.g6_7, ↓hSν.g6_8, ↓hSν.k6, ↓hSν.g2_0, ↓hSν.g2_1, ↓hSν.g2_2, ↓hSν.g2_3, ↓hSν.g2_4, ↓hSν.g2_5, ↓hSν.g2_6, ↓hSν.g2_7, ↓hSν.k2, ↓hSν.g3_0, ↓hSν.g3_1, ↓hSν.g3_2, ↓hSν.g3_3, ↓hSν.g3_4, ↓hSν.k3, ↓hSν.g4_0, ↓hSν.g4_1, ↓hSν.g4_3, ↓hSν.g4_5, ↓hSν.g4_6, ↓hSν.g4_7, ↓hSν.g4_8, ↓hSν.g4_9, ↓hSν.g4_10, ↓hSν.g4_12, ↓hSν.g4_11, ↓hSν.k4, ↓hSν.g5_0, ↓hSν.g5_1, ↓hSν.g5_2, ↓hSν.g5_3, ↓hSν.g5_4, ↓hSν.g5_5, ↓hSν.g5_6, ↓hSν.k5, ↓hSν.g1_0, ↓hSν.g1_1, ↓hSν.g1_2, ↓hSν.g1_3, ↓hSν.g1_4, ↓hSν.g1_5, ↓hSν.g1_6, ↓hSν.g1_7, ↓hSν.k1, ↓hSν.l3, ↓hSν.n3, ↓hSν.l26, ↓hSν.n26, ↓hSν.l5, ↓hSν.n5, ↓hSν.l12, ↓hSν.n12, ↓hSν.l6, ↓hSν.n6, ↓hSν.l10, ↓hSν.n10, ↓hSν.l11, ↓hSν.n11, ↓hSν.l13, ↓hSν.n13, ↓hSν.l14, ↓hSν.n14, ↓hSν.l16, ↓hSν.n16, ↓hSν.l24, ↓hSν.n24, ↓hSν.l27, ↓hSν.n27, ↓hSν.l28, ↓hSν.n28, ↓hSν.l2, ↓hSν.n2, g9, u3, r3, ↓reduceIte]
      · obtain ⟨c1, c2⟩ := hbν x (by omega) (by omega)
        have hw2 := w8_c c2
        by_cases r1 : w8 (tx x) < lo
        · simp (disch := omega) only [LX4_takeRun_32, BX4_takeRun_32, BX4_takeRun_82, ↓hSν.g6_0, ↓hSν.g6_1, ↓hSν.g6_2, ↓hSν.g6_3, ↓hSν.g6_4, ↓hSν.g6_5, ↓hSν.g6_7, ↓hSν.g6_8, ↓hSν.k6, ↓hSν.g2_0, ↓hSν.g2_1, ↓hSν.g2_2, ↓hSν.g2_3, ↓hSν.g2_4, ↓hSν.g2_5, ↓hSν.g2_6, ↓hSν.g2_7, ↓hSν.k2, ↓hSν.g3_0, ↓hSν.g3_1, ↓hSν.g3_2, ↓hSν.g3_3, ↓hSν.g3_4, ↓hSν.k3, ↓hSν.g4_0, ↓hSν.g4_1, ↓hSν.g4_3, ↓hSν.g4_5, ↓hSν.g4_6, ↓hSν.g4_7, ↓hSν.g4_8, ↓hSν.g4_9, ↓hSν.g4_10, ↓hSν.g4_12, ↓hSν.g4_11, ↓hSν.k4, ↓hSν.g5_0, ↓hSν.g5_1, ↓hSν.g5_2, ↓hSν.g5_3, ↓hSν.g5_4, ↓hSν.g5_5, ↓hSν.g5_6, ↓hSν.k5, ↓hSν.g1_0, ↓hSν.g1_1, ↓hSν.g1_2, ↓hSν.g1_3, ↓hSν.g1_4, ↓hSν.g1_5, ↓hSν.g1_6, ↓hSν.g1_7, ↓hSν.k1, ↓hSν.l3, ↓hSν.n3, ↓hSν.l26, ↓hSν.n26, ↓hSν.l5, ↓hSν.n5, ↓hSν.l12, ↓hSν.n12, ↓hSν.l6, ↓hSν.n6, ↓hSν.l10, ↓hSν.n10, ↓hSν.l11, ↓hSν.n11, ↓hSν.l13, ↓hSν.n13, ↓hSν.l14, ↓hSν.n14, ↓hSν.l16, ↓hSν.n16, ↓hSν.l24, ↓hSν.n24, ↓hSν.l27, ↓hSν.n27, ↓hSν.l28, ↓hSν.n28, ↓hSν.l2, ↓hSν.n2, ↓hSν.g4_2 u2, g9, u3, c1, r1, r3, ↓reduceIte]
        · have r2 : hi < w8 (tx x) := by omega
          simp (disch := omega) only [LX4_takeRun_32, BX4_takeRun_32, BX4_takeRun_82, ↓hSν.g6_0, ↓hSν.g6_1, ↓hSν.g6_2, ↓hSν.g6_3, ↓hSν.g6_4, ↓hSν.g6_5, ↓hSν.g6_7, ↓hSν.g6_8, ↓hSν.k6, ↓hSν.g2_0, ↓hSν.g2_1, ↓hSν.g2_2, ↓hSν.g2_3, ↓hSν.g2_4, ↓hSν.g2_5, ↓hSν.g2_6, ↓hSν.g2_7, ↓hSν.k2, ↓hSν.g3_0, ↓hSν.g3_1, ↓hSν.g3_2, ↓hSν.g3_3, ↓hSν.g3_4, ↓hSν.k3, ↓hSν.g4_0, ↓hSν.g4_1, ↓hSν.g4_3, ↓hSν.g4_5, ↓hSν.g4_6, ↓hSν.g4_7, ↓hSν.g4_8, ↓hSν.g4_9, ↓hSν.g4_10, ↓hSν.g4_12, ↓hSν.g4_11, ↓hSν.k4, ↓hSν.g5_0, ↓hSν.g5_1, ↓hSν.g5_2, ↓hSν.g5_3, ↓hSν.g5_4, ↓hSν.g5_5, ↓hSν.g5_6, ↓hSν.k5, ↓hSν.g1_0, ↓hSν.g1_1, ↓hSν.g1_2, ↓hSν.g1_3, ↓hSν.g1_4, ↓hSν.g1_5, ↓hSν.g1_6, ↓hSν.g1_7, ↓hSν.k1, ↓hSν.l3, ↓hSν.n3, ↓hSν.l26, ↓hSν.n26, ↓hSν.l5, ↓hSν.n5, ↓hSν.l12, ↓hSν.n12, ↓hSν.l6, ↓hSν.n6, ↓hSν.l10, ↓hSν.n10, ↓hSν.l11, ↓hSν.n11, ↓hSν.l13, ↓hSν.n13, ↓hSν.l14, ↓hSν.n14, ↓hSν.l16, ↓hSν.n16, ↓hSν.l24, ↓hSν.n24, ↓hSν.l27, ↓hSν.n27, ↓hSν.l28, ↓hSν.n28, ↓hSν.l2, ↓hSν.n2, ↓hSν.g4_2 u2, g9, u3, c1, r1, r2, r3, ↓reduceIte]
  · refine ⟨μ, ?_, by rw [if_neg e], by rw [if_neg e], e8, RdT.rf⟩
    by_cases q1 : w8 (tx s) < lo
    · simp (disch := omega) only [FX4_takeRun, BX4_takeRun_0, BX4_takeRun_26, ↓hS.g6_0, ↓hS.g6_1, ↓hS.g6_2, ↓hS.g6_3, ↓hS.g6_4, ↓hS.g6_5, ↓hS.g6_7, ↓hS.g6_8, ↓hS.k6, ↓hS.g2_0, ↓hS.g2_1, ↓hS.g2_2, ↓hS.g2_3, ↓hS.g2_4, ↓hS.g2_5, ↓hS.g2_6, ↓hS.g2_7, ↓hS.k2, ↓hS.g3_0, ↓hS.g3_1, ↓hS.g3_2, ↓hS.g3_3, ↓hS.g3_4, ↓hS.k3, ↓hS.g4_0, ↓hS.g4_1, ↓hS.g4_3, ↓hS.g4_5, ↓hS.g4_6, ↓hS.g4_7, ↓hS.g4_8, ↓hS.g4_9, ↓hS.g4_10, ↓hS.g4_12, ↓hS.g4_11, ↓hS.k4, ↓hS.g5_0, ↓hS.g5_1, ↓hS.g5_2, ↓hS.g5_3, ↓hS.g5_4, ↓hS.g5_5, ↓hS.g5_6, ↓hS.k5, ↓hS.g1_0, ↓hS.g1_1, ↓hS.g1_2, ↓hS.g1_3, ↓hS.g1_4, ↓hS.g1_5, ↓hS.g1_6, ↓hS.g1_7, ↓hS.k1, ↓hS.l3, ↓hS.n3, ↓hS.l26, ↓hS.n26, ↓hS.l5, ↓hS.n5, ↓hS.l12, ↓hS.n12, ↓hS.l6, ↓hS.n6, ↓hS.l10, ↓hS.n10, ↓hS.l11, ↓hS.n11, ↓hS.l13, ↓hS.n13, ↓hS.l14, ↓hS.n14, ↓hS.l16, ↓hS.n16, ↓hS.l24, ↓hS.n24, ↓hS.l27, ↓hS.n27, ↓hS.l28, ↓hS.n28, ↓hS.l2, ↓hS.n2, ↓hS.g4_2 t2, e8, b1, q1, ↓reduceIte]
    · have q2 : ¬ w8 (tx s) ≤ hi := by omega
      simp (disch := omega) only [FX4_takeRun, BX4_takeRun_0, BX4_takeRun_26, ↓hS.g6_0, ↓hS.g6_1, ↓hS.g6_2, ↓hS.g6_3, ↓hS.g6_4, ↓hS.g6_5, ↓hS.g6_7, ↓hS.g6_8, ↓hS.k6, ↓hS.g2_0, ↓hS.g2_1, ↓hS.g2_2, ↓hS.g2_3, ↓hS.g2_4, ↓hS.g2_5, ↓hS.g2_6, ↓hS.g2_7, ↓hS.k2, ↓hS.g3_0, ↓hS.g3_1, ↓hS.g3_2, ↓hS.g3_3, ↓hS.g3_4, ↓hS.k3, ↓hS.g4_0, ↓hS.g4_1, ↓hS.g4_3, ↓hS.g4_5, ↓hS.g4_6, ↓hS.g4_7, ↓hS.g4_8, ↓hS.g4_9, ↓hS.g4_10, ↓hS.g4_12, ↓hS.g4_11, ↓hS.k4, ↓hS.g5_0, ↓hS.g5_1, ↓hS.g5_2, ↓hS.g5_3, ↓hS.g5_4, ↓hS.g5_5, ↓hS.g5_6, ↓hS.k5, ↓hS.g1_0, ↓hS.g1_1, ↓hS.g1_2, ↓hS.g1_3, ↓hS.g1_4, ↓hS.g1_5, ↓hS.g1_6, ↓hS.g1_7, ↓hS.k1, ↓hS.l3, ↓hS.n3, ↓hS.l26, ↓hS.n26, ↓hS.l5, ↓hS.n5, ↓hS.l12, ↓hS.n12, ↓hS.l6, ↓hS.n6, ↓hS.l10, ↓hS.n10, ↓hS.l11, ↓hS.n11, ↓hS.l13, ↓hS.n13, ↓hS.l14, ↓hS.n14, ↓hS.l16, ↓hS.n16, ↓hS.l24, ↓hS.n24, ↓hS.l27, ↓hS.n27, ↓hS.l28, ↓hS.n28, ↓hS.l2, ↓hS.n2, ↓hS.g4_2 t2, e8, b1, q1, q2, ↓reduceIte]
/-- the next piece stands at s -/
def Rd (μ : Mem) (tx : Int → Int) (L s : Int) : Prop := Tb μ tx L ∧ Pc tx L s ∧ μ 23 8 = s ∧ μ 23 7 = kd tx L s ∧ μ 23 9 = en tx L s
theorem advance_rt (hT : Tb μ tx L) {a : Int} (a0 : 0 ≤ a) (a1 : a ≤ L) (e9 : μ 23 9 = a) : ∃ ν, FX4_advance 23 μ = RT 0 ν ∧ Rd ν tx L (sk tx L a) ∧ RdT μ ν := by
  obtain ⟨hS, ⟨t2, t3, t4, t5⟩, hb⟩ := id hT
  have hp := sk_pc (tx := tx) a0 a1
  have hg : a ≤ sk tx L a := run_ge
  have hl : sk tx L a ≤ L := run_le a1
  have hp1 := hp.1
  simp (disch := omega) only [FX4_advance, BX4_advance_0, ↓hS.g6_0, ↓hS.g6_1, ↓hS.g6_2, ↓hS.g6_3, ↓hS.g6_4, ↓hS.g6_5, ↓hS.g6_7, ↓hS.g6_8, ↓hS.k6, ↓hS.g2_0, ↓hS.g2_1, ↓hS.g2_2, ↓hS.g2_3, ↓hS.g2_4, ↓hS.g2_5, ↓hS.g2_6, ↓hS.g2_7, ↓hS.k2, ↓hS.g3_0, ↓hS.g3_1, ↓hS.g3_2, ↓hS.g3_3, ↓hS.g3_4, ↓hS.k3, ↓hS.g4_0, ↓hS.g4_1, ↓hS.g4_3, ↓hS.g4_5, ↓hS.g4_6, ↓hS.g4_7, ↓hS.g4_8, ↓hS.g4_9, ↓hS.g4_10, ↓hS.g4_12, ↓hS.g4_11, ↓hS.k4, ↓hS.g5_0, ↓hS.g5_1, ↓hS.g5_2, ↓hS.g5_3, ↓hS.g5_4, ↓hS.g5_5, ↓hS.g5_6, ↓hS.k5, ↓hS.g1_0, ↓hS.g1_1, ↓hS.g1_2, ↓hS.g1_3, ↓hS.g1_4, ↓hS.g1_5, ↓hS.g1_6, ↓hS.g1_7, ↓hS.k1, ↓hS.l3, ↓hS.n3, ↓hS.l26, ↓hS.n26, ↓hS.l5, ↓hS.n5, ↓hS.l12, ↓hS.n12, ↓hS.l6, ↓hS.n6, ↓hS.l10, ↓hS.n10, ↓hS.l11, ↓hS.n11, ↓hS.l13, ↓hS.n13, ↓hS.l14, ↓hS.n14, ↓hS.l16, ↓hS.n16, ↓hS.l24, ↓hS.n24, ↓hS.l27, ↓hS.n27, ↓hS.l28, ↓hS.n28, ↓hS.l2, ↓hS.n2, ↓hS.p6_1, ↓hS.z6_1, ↓hS.p6_2, ↓hS.z6_2, ↓hS.p6_4, ↓hS.z6_4, ↓hS.p6_5, ↓hS.z6_5, ↓hS.p6_6, ↓hS.p2_6, ↓hS.z2_6, ↓hS.p2_7, ↓hS.z2_7, ↓hS.p3_0, ↓hS.z3_0, ↓hS.p3_1, ↓hS.z3_1, ↓hS.p3_2, ↓hS.z3_2, ↓hS.p3_3, ↓hS.z3_3, ↓hS.p4_0, ↓hS.z4_0, ↓hS.p4_1, ↓hS.z4_1, ↓hS.p4_3, ↓hS.z4_3, ↓hS.p4_5, ↓hS.z4_5, ↓hS.p4_6, ↓hS.z4_6, ↓hS.p4_7, ↓hS.z4_7, ↓hS.p4_8, ↓hS.z4_8, ↓hS.p4_9, ↓hS.z4_9, ↓hS.p4_10, ↓hS.z4_10, ↓hS.p4_12, ↓hS.z4_12, ↓hS.p4_2, ↓hS.p4_4, ↓hS.p5_0, ↓hS.z5_0, ↓hS.p5_1, ↓hS.z5_1, ↓hS.p5_2, ↓hS.z5_2, ↓hS.p5_3, ↓hS.z5_3, ↓hS.p1_0, ↓hS.z1_0, ↓hS.p1_1, ↓hS.z1_1, ↓hS.p1_2, ↓hS.z1_2, ↓hS.p1_3, ↓hS.z1_3, ↓hS.p1_4, ↓hS.z1_4, ↓hS.p1_5, ↓hS.z1_5, ↓hS.p1_6, ↓hS.z1_6, ↓hS.p1_7, ↓hS.z1_7, ↓hS.s6, ↓hS.s10, ↓hS.s11, ↓hS.s13, ↓hS.s14, ↓hS.s16, ↓hS.s24, ↓hS.s27, ↓hS.s28, ↓hS.s2, e9]
  refine lpR (fun n x ν => LX4_advance_8 n 23 ν) (fun x ν => a ≤ x ∧ ν 23 8 = x ∧ RdT μ ν) (sk tx L a) (fun R => ∃ ν, R = RT 0 ν ∧ Rd ν tx L (sk tx L a) ∧ RdT μ ν) (fun n x ν x1 hs => ?_) (fun n ν hs => ?_) FU a (mUp μ 23 8 a) hg (by rw [show ((FU : Nat) : Int) = 20000 from rfl]; omega) ⟨Int.le_refl _, mUp_same _ _ _ _, RdT.rf.up (by omega)⟩
  · obtain ⟨g0, g8, gF⟩ := hs
    obtain ⟨hSν, ⟨u2, u3, -⟩, hbν⟩ := hT.rf gF.f
    have hin := run_in (lo := 32) (hi := 32) (tx := tx) (L := L) g0 x1
    obtain ⟨c1, c2⟩ := hbν x (by omega) (by omega)
    have hw2 := w8_c c2
    have r1 : w8 (tx x) = 32 := by omega
    have r3 : ¬ L ≤ x := by omega
    refine ⟨mUp ν 23 8 (x + 1), ⟨by omega, mUp_same _ _ _ _, gF.up (by omega)⟩, ?_⟩
    simp (disch := omega) only [LX4_advance_8, BX4_advance_8, ↓hSν.g6_0, ↓hSν.g6_1, ↓hSν.g6_2, ↓hSν.g6_3, ↓hSν.g6_4, ↓hSν.g6_5, ↓hSν.g6_7, ↓hSν.g6_8, ↓hSν.k6, ↓hSν.g2_0, ↓hSν.g2_1, ↓hSν.g2_2, ↓hSν.g2_3, ↓hSν.g2_4, ↓hSν.g2_5, ↓hSν.g2_6, ↓hSν.g2_7, ↓hSν.k2, ↓hSν.g3_0, ↓hSν.g3_1, ↓hSν.g3_2, ↓hSν.g3_3, ↓hSν.g3_4, ↓hSν.k3, ↓hSν.g4_0, ↓hSν.g4_1, ↓hSν.g4_3, ↓hSν.g4_5, ↓hSν.g4_6, ↓hSν.g4_7, ↓hSν.g4_8, ↓hSν.g4_9, ↓hSν.g4_10, ↓hSν.g4_12, ↓hSν.g4_11, ↓hSν.k4, ↓hSν.g5_0, ↓hSν.g5_1, ↓hSν.g5_2, ↓hSν.g5_3, ↓hSν.g5_4, ↓hSν.g5_5, ↓hSν.g5_6, ↓hSν.k5, ↓hSν.g1_0, ↓hSν.g1_1, ↓hSν.g1_2, ↓hSν.g1_3, ↓hSν.g1_4, ↓hSν.g1_5, ↓hSν.g1_6, ↓hSν.g1_7, ↓hSν.k1, ↓hSν.l3, ↓hSν.n3, ↓hSν.l26, ↓hSν.n26, ↓hSν.l5, ↓hSν.n5, ↓hSν.l12, ↓hSν.n12, ↓hSν.l6, ↓hSν.n6, ↓hSν.l10, ↓hSν.n10, ↓hSν.l11, ↓hSν.n11, ↓hSν.l13, ↓hSν.n13, ↓hSν.l14, ↓hSν.n14, ↓hSν.l16, ↓hSν.n16, ↓hSν.l24, ↓hSν.n24, ↓hSν.l27, ↓hSν.n27, ↓hSν.l28, ↓hSν.n28, ↓hSν.l2, ↓hSν.n2, ↓hSν.g4_2 u2, g8, u3, c1, r1, r3, ↓reduceIte, ↓hSν.p6_1, ↓hSν.z6_1, ↓hSν.p6_2, ↓hSν.z6_2, ↓hSν.p6_4, ↓hSν.z6_4, ↓hSν.p6_5, ↓hSν.z6_5, ↓hSν.p6_6, ↓hSν.p2_6, ↓hSν.z2_6, ↓hSν.p2_7, ↓hSν.z2_7, ↓hSν.p3_0, ↓hSν.z3_0, ↓hSν.p3_1, ↓hSν.z3_1, ↓hSν.p3_2, ↓hSν.z3_2, ↓hSν.p3_3, ↓hSν.z3_3, ↓hSν.p4_0, ↓hSν.z4_0, ↓hSν.p4_1, ↓hSν.z4_1, ↓hSν.p4_3, ↓hSν.z4_3, ↓hSν.p4_5, ↓hSν.z4_5, ↓hSν.p4_6, ↓hSν.z4_6, ↓hSν.p4_7, ↓hSν.z4_7, ↓hSν.p4_8, ↓hSν.z4_8, ↓hSν.p4_9, ↓hSν.z4_9, ↓hSν.p4_10, ↓hSν.z4_10, ↓hSν.p4_12, ↓hSν.z4_12, ↓hSν.p4_2, ↓hSν.p4_4, ↓hSν.p5_0, ↓hSν.z5_0, ↓hSν.p5_1, ↓hSν.z5_1, ↓hSν.p5_2, ↓hSν.z5_2, ↓hSν.p5_3, ↓hSν.z5_3, ↓hSν.p1_0, ↓hSν.z1_0, ↓hSν.p1_1, ↓hSν.z1_1, ↓hSν.p1_2, ↓hSν.z1_2, ↓hSν.p1_3, ↓hSν.z1_3, ↓hSν.p1_4, ↓hSν.z1_4, ↓hSν.p1_5, ↓hSν.z1_5, ↓hSν.p1_6, ↓hSν.z1_6, ↓hSν.p1_7, ↓hSν.z1_7, ↓hSν.s6, ↓hSν.s10, ↓hSν.s11, ↓hSν.s13, ↓hSν.s14, ↓hSν.s16, ↓hSν.s24, ↓hSν.s27, ↓hSν.s28, ↓hSν.s2, w32_eq, not_true_eq_false]
  · obtain ⟨g0, g8, gF⟩ := hs
    have hTν := hT.rf gF.f
    obtain ⟨hSν, ⟨u2, u3, -⟩, hbν⟩ := id hTν
    generalize sk tx L a = s at hp hg hl hp1 g8 ⊢
    by_cases r3 : L ≤ s
    · have hS2 : CSh (mUp ν 23 7 0) := hSν.up (by unfold CSt; omega)
      have r4 : ¬ s < L := by omega
      refine ⟨mUp (mUp ν 23 7 0) 23 9 s, ?_, ⟨hTν.rf ((RdF.rf.up (by omega)).up (by omega)), hp, ?_, ?_, ?_⟩, (gF.up (by omega)).up (by omega)⟩
      · simp (disch := omega) only [LX4_advance_8, BX4_advance_8, BX4_advance_46, ↓hSν.g6_0, ↓hSν.g6_1, ↓hSν.g6_2, ↓hSν.g6_3, ↓hSν.g6_4, ↓hSν.g6_5, ↓hSν.g6_7, ↓hSν.g6_8, ↓hSν.k6, ↓hSν.g2_0, ↓hSν.g2_1, ↓hSν.g2_2, ↓hSν.g2_3, ↓hSν.g2_4, ↓hSν.g2_5, ↓hSν.g2_6, ↓hSν.g2_7, ↓hSν.k2, ↓hSν.g3_0, ↓hSν.g3_1, ↓hSν.g3_2, ↓hSν.g3_3, ↓hSν.g3_4, ↓hSν.k3, ↓hSν.g4_0, ↓hSν.g4_1, ↓hSν.g4_3, ↓hSν.g4_5, ↓hSν.g4_6, ↓hSν.g4_7, ↓hSν.g4_8, ↓hSν.g4_9, ↓hSν.g4_10, ↓hSν.g4_12, ↓hSν.g4_11, ↓hSν.k4, ↓hSν.g5_0, ↓hSν.g5_1, ↓hSν.g5_2, ↓hSν.g5_3, ↓hSν.g5_4, ↓hSν.g5_5, ↓hSν.g5_6, ↓hSν.k5, ↓hSν.g1_0, ↓hSν.g1_1, ↓hSν.g1_2, ↓hSν.g1_3, ↓hSν.g1_4, ↓hSν.g1_5, ↓hSν.g1_6, ↓hSν.g1_7, ↓hSν.k1, ↓hSν.l3, ↓hSν.n3, ↓hSν.l26, ↓hSν.n26, ↓hSν.l5, ↓hSν.n5, ↓hSν.l12, ↓hSν.n12, ↓hSν.l6, ↓hSν.n6, ↓hSν.l10, ↓hSν.n10, ↓hSν.l11, ↓hSν.n11, ↓hSν.l13, ↓hSν.n13, ↓hSν.l14, ↓hSν.n14, ↓hSν.l16, ↓hSν.n16, ↓hSν.l24, ↓hSν.n24, ↓hSν.l27, ↓hSν.n27, ↓hSν.l28, ↓hSν.n28, ↓hSν.l2, ↓hSν.n2, ↓hSν.g4_2 u2, g8, u3, r3, r4, ↓reduceIte, ↓hSν.p6_1, ↓hSν.z6_1, ↓hSν.p6_2, ↓hSν.z6_2, ↓hSν.p6_4, ↓hSν.z6_4, ↓hSν.p6_5, ↓hSν.z6_5, ↓hSν.p6_6, ↓hSν.p2_6, ↓hSν.z2_6, ↓hSν.p2_7, ↓hSν.z2_7, ↓hSν.p3_0, ↓hSν.z3_0, ↓hSν.p3_1, ↓hSν.z3_1, ↓hSν.p3_2, ↓hSν.z3_2, ↓hSν.p3_3, ↓hSν.z3_3, ↓hSν.p4_0, ↓hSν.z4_0, ↓hSν.p4_1, ↓hSν.z4_1, ↓hSν.p4_3, ↓hSν.z4_3, ↓hSν.p4_5, ↓hSν.z4_5, ↓hSν.p4_6, ↓hSν.z4_6, ↓hSν.p4_7, ↓hSν.z4_7, ↓hSν.p4_8, ↓hSν.z4_8, ↓hSν.p4_9, ↓hSν.z4_9, ↓hSν.p4_10, ↓hSν.z4_10, ↓hSν.p4_12, ↓hSν.z4_12, ↓hSν.p4_2, ↓hSν.p4_4, ↓hSν.p5_0, ↓hSν.z5_0, ↓hSν.p5_1, ↓hSν.z5_1, ↓hSν.p5_2, ↓hSν.z5_2, ↓hSν.p5_3, ↓hSν.z5_3, ↓hSν.p1_0, ↓hSν.z1_0, ↓hSν.p1_1, ↓hSν.z1_1, ↓hSν.p1_2, ↓hSν.z1_2, ↓hSν.p1_3, ↓hSν.z1_3, ↓hSν.p1_4, ↓hSν.z1_4, ↓hSν.p1_5, ↓hSν.z1_5, ↓hSν.p1_6, ↓hSν.z1_6, ↓hSν.p1_7, ↓hSν.z1_7, ↓hSν.s6, ↓hSν.s10, ↓hSν.s11, ↓hSν.s13, ↓hSν.s14, ↓hSν.s16, ↓hSν.s24, ↓hSν.s27, ↓hSν.s28, ↓hSν.s2, ↓hS2.g6_0, ↓hS2.g6_1, ↓hS2.g6_2, ↓hS2.g6_3, ↓hS2.g6_4, ↓hS2.g6_5, ↓hS2.g6_7, ↓hS2.g6_8, ↓hS2.k6, ↓hS2.g2_0, ↓hS2.g2_1, ↓hS2.g2_2, ↓hS2.g2_3, ↓hS2.g2_4, ↓hS2.g2_5, ↓hS2.g2_6, ↓hS2.g2_7, ↓hS2.k2, ↓hS2.g3_0, ↓hS2.g3_1, ↓hS2.g3_2, ↓hS2.g3_3, ↓hS2.g3_4, ↓hS2.k3, ↓hS2.g4_0, ↓hS2.g4_1, ↓hS2.g4_3, ↓hS2.g4_5, ↓hS2.g4_6, ↓hS2.g4_7, ↓hS2.g4_8, ↓hS2.g4_9, ↓hS2.g4_10, ↓hS2.g4_12, ↓hS2.g4_11, ↓hS2.k4, ↓hS2.g5_0, ↓hS2.g5_1, ↓hS2.g5_2, ↓hS2.g5_3, ↓hS2.g5_4, ↓hS2.g5_5, ↓hS2.g5_6, ↓hS2.k5, ↓hS2.g1_0, ↓hS2.g1_1, ↓hS2.g1_2, ↓hS2.g1_3, ↓hS2.g1_4, ↓hS2.g1_5, ↓hS2.g1_6, ↓hS2.g1_7, ↓hS2.k1, ↓hS2.l3, ↓hS2.n3, ↓hS2.l26, ↓hS2.n26, ↓hS2.l5, ↓hS2.n5, ↓hS2.l12, ↓hS2.n12, ↓hS2.l6, ↓hS2.n6, ↓hS2.l10, ↓hS2.n10, ↓hS2.l11, ↓hS2.n11, ↓hS2.l13, ↓hS2.n13, ↓hS2.l14, ↓hS2.n14, ↓hS2.l16, ↓hS2.n16, ↓hS2.l24, ↓hS2.n24, ↓hS2.l27, ↓hS2.n27, ↓hS2.l28, ↓hS2.n28, ↓hS2.l2, ↓hS2.n2, ↓hS2.p6_1, ↓hS2.z6_1, ↓hS2.p6_2, ↓hS2.z6_2, ↓hS2.p6_4, ↓hS2.z6_4, ↓hS2.p6_5, ↓hS2.z6_5, ↓hS2.p6_6, ↓hS2.p2_6, ↓hS2.z2_6, ↓hS2.p2_7, ↓hS2.z2_7, ↓hS2.p3_0, ↓hS2.z3_0, ↓hS2.p3_1, ↓hS2.z3_1, ↓hS2.p3_2, ↓hS2.z3_2, ↓hS2.p3_3, ↓hS2.z3_3, ↓hS2.p4_0, ↓hS2.z4_0, ↓hS2.p4_1, ↓hS2.z4_1, ↓hS2.p4_3, ↓hS2.z4_3, ↓hS2.p4_5, ↓hS2.z4_5, ↓hS2.p4_6, ↓hS2.z4_6, ↓hS2.p4_7, ↓hS2.z4_7, ↓hS2.p4_8, ↓hS2.z4_8, ↓hS2.p4_9, ↓hS2.z4_9, ↓hS2.p4_10, ↓hS2.z4_10, ↓hS2.p4_12, ↓hS2.z4_12, ↓hS2.p4_2, ↓hS2.p4_4, ↓hS2.p5_0, ↓hS2.z5_0, ↓hS2.p5_1, ↓hS2.z5_1, ↓hS2.p5_2, ↓hS2.z5_2, ↓hS2.p5_3, ↓hS2.z5_3, ↓hS2.p1_0, ↓hS2.z1_0, ↓hS2.p1_1, ↓hS2.z1_1, ↓hS2.p1_2, ↓hS2.z1_2, ↓hS2.p1_3, ↓hS2.z1_3, ↓hS2.p1_4, ↓hS2.z1_4, ↓hS2.p1_5, ↓hS2.z1_5, ↓hS2.p1_6, ↓hS2.z1_6, ↓hS2.p1_7, ↓hS2.z1_7, ↓hS2.s6, ↓hS2.s10, ↓hS2.s11, ↓hS2.s13, ↓hS2.s14, ↓hS2.s16, ↓hS2.s24, ↓hS2.s27, ↓hS2.s28, ↓hS2.s2, mUp_ne]
      · rw [mUp_ne _ _ (by omega), mUp_ne _ _ (by omega)]; exact g8
      · rw [mUp_ne _ _ (by omega), mUp_same, kd, if_pos r3]
      · rw [mUp_same, en, if_pos r3]
    · obtain ⟨c1, c2⟩ := hbν s (by omega) (by omega)
      have hw2 := w8_c c2
      have r4 : s < L := by omega
      have r1 : ¬ w8 (tx s) = 32 := by
        have := hp.2
        omega
      have hS2 : CSh (mUp ν 23 7 3) := hSν.up (by unfold CSt; omega)
      have hF3 : RdT ν (mUp (mUp ν 23 7 3) 23 9 (s + 1)) := (RdT.rf.up (by omega)).up (by omega)
      have hT3 := hTν.rf hF3.f
      have f8 : mUp (mUp ν 23 7 3) 23 9 (s + 1) 23 8 = s := by rw [mUp_ne _ _ (by omega), mUp_ne _ _ (by omega)]; exact g8
      have f7 : mUp (mUp ν 23 7 3) 23 9 (s + 1) 23 7 = 3 := by rw [mUp_ne _ _ (by omega), mUp_same]
      have f9 : mUp (mUp ν 23 7 3) 23 9 (s + 1) 23 9 = s + 1 := mUp_same _ _ _ _
      have estep : LX4_advance_8 (n + 1) 23 ν = CLX (FX4_takeRun 23 97 122 2 (mUp (mUp ν 23 7 3) 23 9 (s + 1))) (fun _ u107 => KD 4 23 u107 (CL (FX4_takeRun 23 48 57 1 u107) fun _ u109 => RT 0 u109)) (fun e m ν => some (e, m, ν)) := by
        simp (disch := omega) only [LX4_advance_8, BX4_advance_8, BX4_advance_46, ↓hSν.g6_0, ↓hSν.g6_1, ↓hSν.g6_2, ↓hSν.g6_3, ↓hSν.g6_4, ↓hSν.g6_5, ↓hSν.g6_7, ↓hSν.g6_8, ↓hSν.k6, ↓hSν.g2_0, ↓hSν.g2_1, ↓hSν.g2_2, ↓hSν.g2_3, ↓hSν.g2_4, ↓hSν.g2_5, ↓hSν.g2_6, ↓hSν.g2_7, ↓hSν.k2, ↓hSν.g3_0, ↓hSν.g3_1, ↓hSν.g3_2, ↓hSν.g3_3, ↓hSν.g3_4, ↓hSν.k3, ↓hSν.g4_0, ↓hSν.g4_1, ↓hSν.g4_3, ↓hSν.g4_5, ↓hSν.g4_6, ↓hSν.g4_7, ↓hSν.g4_8, ↓hSν.g4_9, ↓hSν.g4_10, ↓hSν.g4_12, ↓hSν.g4_11, ↓hSν.k4, ↓hSν.g5_0, ↓hSν.g5_1, ↓hSν.g5_2, ↓hSν.g5_3, ↓hSν.g5_4, ↓hSν.g5_5, ↓hSν.g5_6, ↓hSν.k5, ↓hSν.g1_0, ↓hSν.g1_1, ↓hSν.g1_2, ↓hSν.g1_3, ↓hSν.g1_4, ↓hSν.g1_5, ↓hSν.g1_6, ↓hSν.g1_7, ↓hSν.k1, ↓hSν.l3, ↓hSν.n3, ↓hSν.l26, ↓hSν.n26, ↓hSν.l5, ↓hSν.n5, ↓hSν.l12, ↓hSν.n12, ↓hSν.l6, ↓hSν.n6, ↓hSν.l10, ↓hSν.n10, ↓hSν.l11, ↓hSν.n11, ↓hSν.l13, ↓hSν.n13, ↓hSν.l14, ↓hSν.n14, ↓hSν.l16, ↓hSν.n16, ↓hSν.l24, ↓hSν.n24, ↓hSν.l27, ↓hSν.n27, ↓hSν.l28, ↓hSν.n28, ↓hSν.l2, ↓hSν.n2, ↓hSν.g4_2 u2, g8, u3, c1, r1, r3, r4, ↓reduceIte, ↓hSν.p6_1, ↓hSν.z6_1, ↓hSν.p6_2, ↓hSν.z6_2, ↓hSν.p6_4, ↓hSν.z6_4, ↓hSν.p6_5, ↓hSν.z6_5, ↓hSν.p6_6, ↓hSν.p2_6, ↓hSν.z2_6, ↓hSν.p2_7, ↓hSν.z2_7, ↓hSν.p3_0, ↓hSν.z3_0, ↓hSν.p3_1, ↓hSν.z3_1, ↓hSν.p3_2, ↓hSν.z3_2, ↓hSν.p3_3, ↓hSν.z3_3, ↓hSν.p4_0, ↓hSν.z4_0, ↓hSν.p4_1, ↓hSν.z4_1, ↓hSν.p4_3, ↓hSν.z4_3, ↓hSν.p4_5, ↓hSν.z4_5, ↓hSν.p4_6, ↓hSν.z4_6, ↓hSν.p4_7, ↓hSν.z4_7, ↓hSν.p4_8, ↓hSν.z4_8, ↓hSν.p4_9, ↓hSν.z4_9, ↓hSν.p4_10, ↓hSν.z4_10, ↓hSν.p4_12, ↓hSν.z4_12, ↓hSν.p4_2, ↓hSν.p4_4, ↓hSν.p5_0, ↓hSν.z5_0, ↓hSν.p5_1, ↓hSν.z5_1, ↓hSν.p5_2, ↓hSν.z5_2, ↓hSν.p5_3, ↓hSν.z5_3, ↓hSν.p1_0, ↓hSν.z1_0, ↓hSν.p1_1, ↓hSν.z1_1, ↓hSν.p1_2, ↓hSν.z1_2, ↓hSν.p1_3, ↓hSν.z1_3, ↓hSν.p1_4, ↓hSν.z1_4, ↓hSν.p1_5, ↓hSν.z1_5, ↓hSν.p1_6, ↓hSν.z1_6, ↓hSν.p1_7, ↓hSν.z1_7, ↓hSν.s6, ↓hSν.s10, ↓hSν.s11, ↓hSν.s13, ↓hSν.s14, ↓hSν.s16, ↓hSν.s24, ↓hSν.s27, ↓hSν.s28, ↓hSν.s2, ↓hS2.g6_0, ↓hS2.g6_1, ↓hS2.g6_2, ↓hS2.g6_3, ↓hS2.g6_4, ↓hS2.g6_5, ↓hS2.g6_7, ↓hS2.g6_8, ↓hS2.k6, ↓hS2.g2_0, ↓hS2.g2_1, ↓hS2.g2_2, ↓hS2.g2_3, ↓hS2.g2_4, ↓hS2.g2_5, ↓hS2.g2_6, ↓hS2.g2_7, ↓hS2.k2, ↓hS2.g3_0, ↓hS2.g3_1, ↓hS2.g3_2, ↓hS2.g3_3, ↓hS2.g3_4, ↓hS2.k3, ↓hS2.g4_0, ↓hS2.g4_1, ↓hS2.g4_3, ↓hS2.g4_5, ↓hS2.g4_6, ↓hS2.g4_7, ↓hS2.g4_8, ↓hS2.g4_9, ↓hS2.g4_10, ↓hS2.g4_12, ↓hS2.g4_11, ↓hS2.k4, ↓hS2.g5_0, ↓hS2.g5_1, ↓hS2.g5_2, ↓hS2.g5_3, ↓hS2.g5_4, ↓hS2.g5_5, ↓hS2.g5_6, ↓hS2.k5, ↓hS2.g1_0, ↓hS2.g1_1, ↓hS2.g1_2, ↓hS2.g1_3, ↓hS2.g1_4, ↓hS2.g1_5, ↓hS2.g1_6, ↓hS2.g1_7, ↓hS2.k1, ↓hS2.l3, ↓hS2.n3, ↓hS2.l26, ↓hS2.n26, ↓hS2.l5, ↓hS2.n5, ↓hS2.l12, ↓hS2.n12, ↓hS2.l6, ↓hS2.n6, ↓hS2.l10, ↓hS2.n10, ↓hS2.l11, ↓hS2.n11, ↓hS2.l13, ↓hS2.n13, ↓hS2.l14, ↓hS2.n14, ↓hS2.l16, ↓hS2.n16, ↓hS2.l24, ↓hS2.n24, ↓hS2.l27, ↓hS2.n27, ↓hS2.l28, ↓hS2.n28, ↓hS2.l2, ↓hS2.n2, ↓hS2.p6_1, ↓hS2.z6_1, ↓hS2.p6_2, ↓hS2.z6_2, ↓hS2.p6_4, ↓hS2.z6_4, ↓hS2.p6_5, ↓hS2.z6_5, ↓hS2.p6_6, ↓hS2.p2_6, ↓hS2.z2_6, ↓hS2.p2_7, ↓hS2.z2_7, ↓hS2.p3_0, ↓hS2.z3_0, ↓hS2.p3_1, ↓hS2.z3_1, ↓hS2.p3_2, ↓hS2.z3_2, ↓hS2.p3_3, ↓hS2.z3_3, ↓hS2.p4_0, ↓hS2.z4_0, ↓hS2.p4_1, ↓hS2.z4_1, ↓hS2.p4_3, ↓hS2.z4_3, ↓hS2.p4_5, ↓hS2.z4_5, ↓hS2.p4_6, ↓hS2.z4_6, ↓hS2.p4_7, ↓hS2.z4_7, ↓hS2.p4_8, ↓hS2.z4_8, ↓hS2.p4_9, ↓hS2.z4_9, ↓hS2.p4_10, ↓hS2.z4_10, ↓hS2.p4_12, ↓hS2.z4_12, ↓hS2.p4_2, ↓hS2.p4_4, ↓hS2.p5_0, ↓hS2.z5_0, ↓hS2.p5_1, ↓hS2.z5_1, ↓hS2.p5_2, ↓hS2.z5_2, ↓hS2.p5_3, ↓hS2.z5_3, ↓hS2.p1_0, ↓hS2.z1_0, ↓hS2.p1_1, ↓hS2.z1_1, ↓hS2.p1_2, ↓hS2.z1_2, ↓hS2.p1_3, ↓hS2.z1_3, ↓hS2.p1_4, ↓hS2.z1_4, ↓hS2.p1_5, ↓hS2.z1_5, ↓hS2.p1_6, ↓hS2.z1_6, ↓hS2.p1_7, ↓hS2.z1_7, ↓hS2.s6, ↓hS2.s10, ↓hS2.s11, ↓hS2.s13, ↓hS2.s14, ↓hS2.s16, ↓hS2.s24, ↓hS2.s27, ↓hS2.s28, ↓hS2.s2, mUp_ne, not_false_eq_true, w32_eq, (hT3.1).k4, CL]
      generalize mUp (mUp ν 23 7 3) 23 9 (s + 1) = ν3 at hF3 hT3 f8 f7 f9 estep
      obtain ⟨ν4, e4, m7, m9, m8, mF⟩ := takeRun_rt hT3 (lo := 97) (hi := 122) (k := 2) hp1.1 r4 f8 (by omega) (by omega) (fun _ => f9)
      have hT4 := hT3.rf mF.f
      obtain ⟨ν5, e5, n7, n9, n8, nF⟩ := takeRun_rt hT4 (lo := 48) (hi := 57) (k := 1) hp1.1 r4 m8 (by omega) (by omega) (fun q => by rw [m9, if_neg (by omega), f9])
      refine ⟨ν5, ?_, ⟨hT4.rf nF.f, hp, n8, ?_, ?_⟩, ((gF.tr hF3).tr mF).tr nF⟩
      · show LX4_advance_8 (n + 1) 23 ν = _
        rw [estep, e4]
        simp only [CLX_rt, hT4.1.k4, CL, e5]
      · rw [n7, m7, f7, kd, if_neg r3]
        by_cases q1 : 97 ≤ tx s ∧ tx s ≤ 122
        · rw [if_pos q1, if_pos q1, if_neg (by omega)]
        · rw [if_neg q1, if_neg q1]
      · rw [n9, m9, f9, en, if_neg r3]
        by_cases q1 : 97 ≤ tx s ∧ tx s ≤ 122
        · rw [if_pos q1, if_pos q1, if_neg (by omega)]
        · rw [if_neg q1, if_neg q1]
end TKN
theorem b2_c {p q : Prop} [Decidable p] [Decidable q] (h : p ↔ q) : b2 p = b2 q := by
  by_cases e : p
  · rw [b2_t e, b2_t (h.mp e)]
  · rw [b2_f e, b2_f (fun k => e (h.mpr k))]
