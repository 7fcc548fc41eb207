/-! the reference's reading: the next piece -/
/-- the text in the reference's hands, no fault yet -/
def Mt (ξ : Mem) (tx : Int → Int) (L : Int) : Prop := MSh ξ ∧ (ξ 105 13 = L ∧ 0 ≤ L ∧ L ≤ 600) ∧ ξ 105 15 = 0 ∧ ∀ k, 0 ≤ k → k < L → ξ 113 k = tx k ∧ 0 ≤ tx k ∧ tx k ≤ 255
/-- the next piece stands at s -/
def Md (ξ : Mem) (tx : Int → Int) (L s : Int) : Prop := Mt ξ tx L ∧ Pc tx L s ∧ (0 ≤ ξ 105 14 ∧ ξ 105 14 ≤ L) ∧ sk tx L (ξ 105 14) = s
def RmH (ξ ν : Mem) : Prop := ∀ z k, ¬ (z = 105 ∧ k = 14) → ν z k = ξ z k
def RmT (ξ ν : Mem) : Prop := ∀ z k, ¬ (z = 105 ∧ (k = 14 ∨ k = 17 ∨ k = 18)) → ν z k = ξ z k
/-- a fault: its code and its place -/
def Me (ξ ν : Mem) (c s : Int) : Prop := (∀ z k, ¬ (z = 105 ∧ 14 ≤ k ∧ k ≤ 18) → ν z k = ξ z k) ∧ ν 105 15 = c ∧ ν 105 16 = s
def hc (tx : Int → Int) (L s : Int) : Int := if s < L then tx s else -1
section MPI
variable {ξ : Mem} {L s : Int} {tx : Int → Int}
theorem RmH.rf : RmH ξ ξ := fun _ _ _ => rfl
theorem RmH.t {ν : Mem} (h : RmH ξ ν) : RmT ξ ν := fun z k hk => h z k (by omega)
theorem RmH.tr {ν ζ : Mem} (h1 : RmH ξ ν) (h2 : RmH ν ζ) : RmH ξ ζ := fun z k h => (h2 z k h).trans (h1 z k h)
theorem RmT.tr {ν ζ : Mem} (h1 : RmT ξ ν) (h2 : RmT ν ζ) : RmT ξ ζ := fun z k h => (h2 z k h).trans (h1 z k h)
theorem RmH.up {ν : Mem} (h1 : RmH ξ ν) {v : Int} : RmH ξ (mUp ν 105 14 v) := fun z j h => (mUp_ne _ _ (by omega)).trans (h1 z j h)
theorem RmT.up {ν : Mem} (h1 : RmT ξ ν) {k v : Int} (hk : k = 14 ∨ k = 17 ∨ k = 18) : RmT ξ (mUp ν 105 k v) := fun z j h => (mUp_ne _ _ (by omega)).trans (h1 z j h)
theorem Mt.fr {ν : Mem} (h : Mt ξ tx L) (f : RmT ξ ν) : Mt ν tx L := by
  obtain ⟨h1, ⟨h2, h4⟩, h3, h5⟩ := h
  exact ⟨h1.fr fun a k hs => f a k (by unfold MSt at hs; omega), ⟨by rw [f _ _ (by omega)]; exact h2, h4⟩, by rw [f _ _ (by omega)]; exact h3, fun k k0 k1 => by rw [f _ _ (by omega)]; exact h5 k k0 k1⟩
theorem Md.at (h : Mt ξ tx L) (hp : Pc tx L s) (e : ξ 105 14 = s) : Md ξ tx L s := ⟨h, hp, by rw [e]; exact hp.1, by rw [e]; exact hp.sk⟩
theorem here_rt (h : Md ξ tx L s) : ∃ ν, FX7_here 105 ξ = RT (hc tx L s) ν ∧ Md ν tx L s ∧ RmH ξ ν ∧ ν 105 14 = s := by
  obtain ⟨hT, hp, ha, hsk⟩ := id h
  obtain ⟨hS, ⟨t3, t4, t5⟩, hf, hb⟩ := id hT
  generalize hq : ξ 105 14 = a at ha hsk
  have hg : a ≤ sk tx L a := run_ge
  have hl : sk tx L a ≤ L := run_le ha.2
  unfold FX7_here
  refine lpR (fun n x ν => LX7_here_0 n 105 ν) (fun x ν => a ≤ x ∧ ν 105 14 = x ∧ RmH ξ ν) (sk tx L a) (fun R => ∃ ν, R = RT (hc tx L s) ν ∧ Md ν tx L s ∧ RmH ξ ν ∧ ν 105 14 = s) (fun n x ν x1 hs => ?_) (fun n ν hs => ?_) FU a ξ hg (by rw [show ((FU : Nat) : Int) = 20000 from rfl]; omega) ⟨Int.le_refl _, hq, RmH.rf⟩
  · obtain ⟨g0, g8, gF⟩ := hs
    obtain ⟨hSν, ⟨u3, -⟩, -, hbν⟩ := hT.fr gF.t
    have hin := run_in (lo := 32) (hi := 32) (tx := tx) (L := L) g0 x1
    obtain ⟨c1, c2⟩ := hbν x (by omega) (by omega)
    have r1 : tx x = 32 := by omega
    have r3 : ¬ L ≤ x := by omega
    refine ⟨mUp ν 105 14 (x + 1), ⟨by omega, mUp_same _ _ _ _, gF.up⟩, ?_⟩
    simp (disch := omega) only [LX7_here_0, BX7_here_0, ↓hSν.g7_0, ↓hSν.g7_1, ↓hSν.g7_2, ↓hSν.g7_3, ↓hSν.g7_4, ↓hSν.g7_5, ↓hSν.g7_6, ↓hSν.g7_7, ↓hSν.g7_8, ↓hSν.g7_9, ↓hSν.g7_10, ↓hSν.g7_11, ↓hSν.g7_12, ↓hSν.g7_13, ↓hSν.g7_14, ↓hSν.g7_15, ↓hSν.g7_16, ↓hSν.g7_17, ↓hSν.g7_18, ↓hSν.g7_19, ↓hSν.g7_20, ↓hSν.g7_21, ↓hSν.g7_22, ↓hSν.g7_23, ↓hSν.k7, ↓hSν.l106, ↓hSν.n106, ↓hSν.l107, ↓hSν.n107, ↓hSν.l108, ↓hSν.n108, ↓hSν.l109, ↓hSν.n109, ↓hSν.l110, ↓hSν.n110, ↓hSν.l111, ↓hSν.n111, ↓hSν.l112, ↓hSν.n112, ↓hSν.l113, ↓hSν.n113, ↓hSν.l114, ↓hSν.n114, g8, u3, c1, r1, r3, ↓reduceIte, ↓hSν.p7_0, ↓hSν.z7_0, ↓hSν.p7_3, ↓hSν.z7_3, ↓hSν.p7_4, ↓hSν.z7_4, ↓hSν.p7_10, ↓hSν.z7_10, ↓hSν.p7_12, ↓hSν.z7_12, ↓hSν.p7_13, ↓hSν.z7_13, ↓hSν.p7_14, ↓hSν.z7_14, ↓hSν.p7_15, ↓hSν.z7_15, ↓hSν.p7_16, ↓hSν.z7_16, ↓hSν.p7_17, ↓hSν.z7_17, ↓hSν.p7_18, ↓hSν.z7_18, ↓hSν.p7_19, ↓hSν.z7_19, ↓hSν.p7_20, ↓hSν.z7_20, ↓hSν.p7_21, ↓hSν.z7_21, ↓hSν.p7_22, ↓hSν.z7_22, ↓hSν.s106, ↓hSν.s107, ↓hSν.s108, ↓hSν.s109, ↓hSν.s110, ↓hSν.s111, ↓hSν.s112, ↓hSν.s113, ↓hSν.s114, w32_eq, not_true_eq_false]
  · obtain ⟨g0, g8, gF⟩ := hs
    rw [hsk] at g8
    have hTν := hT.fr gF.t
    obtain ⟨hSν, ⟨u3, -⟩, -, hbν⟩ := id hTν
    refine ⟨ν, ?_, Md.at hTν hp g8, gF, g8⟩
    have hp1 := hp.1
    by_cases r3 : L ≤ s
    · simp (disch := omega) only [LX7_here_0, BX7_here_0, BX7_here_38, BX7_here_62, ↓hSν.g7_0, ↓hSν.g7_1, ↓hSν.g7_2, ↓hSν.g7_3, ↓hSν.g7_4, ↓hSν.g7_5, ↓hSν.g7_6, ↓hSν.g7_7, ↓hSν.g7_8, ↓hSν.g7_9, ↓hSν.g7_10, ↓hSν.g7_11, ↓hSν.g7_12, ↓hSν.g7_13, ↓hSν.g7_14, ↓hSν.g7_15, ↓hSν.g7_16, ↓hSν.g7_17, ↓hSν.g7_18, ↓hSν.g7_19, ↓hSν.g7_20, ↓hSν.g7_21, ↓hSν.g7_22, ↓hSν.g7_23, ↓hSν.k7, ↓hSν.l106, ↓hSν.n106, ↓hSν.l107, ↓hSν.n107, ↓hSν.l108, ↓hSν.n108, ↓hSν.l109, ↓hSν.n109, ↓hSν.l110, ↓hSν.n110, ↓hSν.l111, ↓hSν.n111, ↓hSν.l112, ↓hSν.n112, ↓hSν.l113, ↓hSν.n113, ↓hSν.l114, ↓hSν.n114, g8, u3, r3, ↓reduceIte]
      rw [hc, if_neg (by omega)]
    · obtain ⟨c1, c2⟩ := hbν s (by omega) (by omega)
      have r1 : ¬ tx s = 32 := by
        have := hp.2
        omega
      simp (disch := omega) only [LX7_here_0, BX7_here_0, BX7_here_38, BX7_here_62, ↓hSν.g7_0, ↓hSν.g7_1, ↓hSν.g7_2, ↓hSν.g7_3, ↓hSν.g7_4, ↓hSν.g7_5, ↓hSν.g7_6, ↓hSν.g7_7, ↓hSν.g7_8, ↓hSν.g7_9, ↓hSν.g7_10, ↓hSν.g7_11, ↓hSν.g7_12, ↓hSν.g7_13, ↓hSν.g7_14, ↓hSν.g7_15, ↓hSν.g7_16, ↓hSν.g7_17, ↓hSν.g7_18, ↓hSν.g7_19, ↓hSν.g7_20, ↓hSν.g7_21, ↓hSν.g7_22, ↓hSν.g7_23, ↓hSν.k7, ↓hSν.l106, ↓hSν.n106, ↓hSν.l107, ↓hSν.n107, ↓hSν.l108, ↓hSν.n108, ↓hSν.l109, ↓hSν.n109, ↓hSν.l110, ↓hSν.n110, ↓hSν.l111, ↓hSν.n111, ↓hSν.l112, ↓hSν.n112, ↓hSν.l113, ↓hSν.n113, ↓hSν.l114, ↓hSν.n114, g8, u3, c1, r1, r3, ↓reduceIte, not_false_eq_true]
      rw [hc, if_pos (by omega)]
theorem fails_rt (hT : Mt ξ tx L) (c a : Int) : FX7_fails 105 c a ξ = RT 0 (mUp (mUp ξ 105 15 c) 105 16 a) := by
  have hS := hT.1
  have h0 := hT.2.2.1
  have hS2 : MSh (mUp ξ 105 15 c) := hS.up (by unfold MSt; omega)
  simp (disch := omega) only [FX7_fails, BX7_fails_0, ↓hS.g7_0, ↓hS.g7_1, ↓hS.g7_2, ↓hS.g7_3, ↓hS.g7_4, ↓hS.g7_5, ↓hS.g7_6, ↓hS.g7_7, ↓hS.g7_8, ↓hS.g7_9, ↓hS.g7_10, ↓hS.g7_11, ↓hS.g7_12, ↓hS.g7_13, ↓hS.g7_14, ↓hS.g7_15, ↓hS.g7_16, ↓hS.g7_17, ↓hS.g7_18, ↓hS.g7_19, ↓hS.g7_20, ↓hS.g7_21, ↓hS.g7_22, ↓hS.g7_23, ↓hS.k7, ↓hS.l106, ↓hS.n106, ↓hS.l107, ↓hS.n107, ↓hS.l108, ↓hS.n108, ↓hS.l109, ↓hS.n109, ↓hS.l110, ↓hS.n110, ↓hS.l111, ↓hS.n111, ↓hS.l112, ↓hS.n112, ↓hS.l113, ↓hS.n113, ↓hS.l114, ↓hS.n114, ↓hS.p7_0, ↓hS.z7_0, ↓hS.p7_3, ↓hS.z7_3, ↓hS.p7_4, ↓hS.z7_4, ↓hS.p7_10, ↓hS.z7_10, ↓hS.p7_12, ↓hS.z7_12, ↓hS.p7_13, ↓hS.z7_13, ↓hS.p7_14, ↓hS.z7_14, ↓hS.p7_15, ↓hS.z7_15, ↓hS.p7_16, ↓hS.z7_16, ↓hS.p7_17, ↓hS.z7_17, ↓hS.p7_18, ↓hS.z7_18, ↓hS.p7_19, ↓hS.z7_19, ↓hS.p7_20, ↓hS.z7_20, ↓hS.p7_21, ↓hS.z7_21, ↓hS.p7_22, ↓hS.z7_22, ↓hS.s106, ↓hS.s107, ↓hS.s108, ↓hS.s109, ↓hS.s110, ↓hS.s111, ↓hS.s112, ↓hS.s113, ↓hS.s114, h0, ↓reduceIte, ↓hS2.p7_0, ↓hS2.z7_0, ↓hS2.p7_3, ↓hS2.z7_3, ↓hS2.p7_4, ↓hS2.z7_4, ↓hS2.p7_10, ↓hS2.z7_10, ↓hS2.p7_12, ↓hS2.z7_12, ↓hS2.p7_13, ↓hS2.z7_13, ↓hS2.p7_14, ↓hS2.z7_14, ↓hS2.p7_15, ↓hS2.z7_15, ↓hS2.p7_16, ↓hS2.z7_16, ↓hS2.p7_17, ↓hS2.z7_17, ↓hS2.p7_18, ↓hS2.z7_18, ↓hS2.p7_19, ↓hS2.z7_19, ↓hS2.p7_20, ↓hS2.z7_20, ↓hS2.p7_21, ↓hS2.z7_21, ↓hS2.p7_22, ↓hS2.z7_22, ↓hS2.s106, ↓hS2.s107, ↓hS2.s108, ↓hS2.s109, ↓hS2.s110, ↓hS2.s111, ↓hS2.s112, ↓hS2.s113, ↓hS2.s114]
  rfl
theorem fails_me {ν : Mem} (f : RmT ξ ν) (c a : Int) : Me ξ (mUp (mUp ν 105 15 c) 105 16 a) c a := ⟨fun z k hk => by rw [mUp_ne _ _ (by omega), mUp_ne _ _ (by omega)]; exact f z k (by omega), by rw [mUp_ne _ _ (by omega), mUp_same], mUp_same _ _ _ _⟩
theorem isDigit_rt {v : Int} : FX7_isDigit v ξ = RT (b2 (48 ≤ v ∧ v ≤ 57)) ξ := by
  unfold FX7_isDigit BX7_isDigit_0 BX7_isDigit_16 BX7_isDigit_17
  by_cases h1 : v < 48
  · rw [if_pos h1, b2_f (by omega)]; rfl
  · rw [if_neg h1]
    by_cases h2 : 57 < v
    · rw [if_pos h2, b2_f (by omega)]; rfl
    · rw [if_neg h2, b2_t (by omega)]; rfl
theorem isDigit_rt_c {v : Int} {K : Int → Mem → Rz} {X : Int → Int → Mem → Rz} : CLX (FX7_isDigit v ξ) K X = K (b2 (48 ≤ v ∧ v ≤ 57)) ξ := by
  rw [isDigit_rt]
  rfl
theorem isLetter_rt {v : Int} : FX7_isLetter v ξ = RT (b2 (97 ≤ v ∧ v ≤ 122)) ξ := by
  unfold FX7_isLetter BX7_isLetter_0 BX7_isLetter_16 BX7_isLetter_17
  by_cases h1 : v < 97
  · rw [if_pos h1, b2_f (by omega)]; rfl
  · rw [if_neg h1]
    by_cases h2 : 122 < v
    · rw [if_pos h2, b2_f (by omega)]; rfl
    · rw [if_neg h2, b2_t (by omega)]; rfl
theorem isLetter_rt_c {v : Int} {K : Int → Mem → Rz} {X : Int → Int → Mem → Rz} : CLX (FX7_isLetter v ξ) K X = K (b2 (97 ≤ v ∧ v ≤ 122)) ξ := by
  rw [isLetter_rt]
  rfl
theorem hc_d : (48 ≤ hc tx L s ∧ hc tx L s ≤ 57) ↔ kd tx L s = 1 := by
  unfold hc kd
  by_cases e : L ≤ s
  · rw [if_neg (by omega), if_pos e]; omega
  · rw [if_pos (by omega), if_neg e]
    by_cases e1 : 97 ≤ tx s ∧ tx s ≤ 122
    · rw [if_pos e1]; omega
    · rw [if_neg e1]
      by_cases e2 : 48 ≤ tx s ∧ tx s ≤ 57
      · rw [if_pos e2]; omega
      · rw [if_neg e2]; omega
theorem hc_c {c : Int} (c0 : 0 ≤ c) (c1 : c < 48) : hc tx L s = c ↔ sg tx L s c := by
  unfold hc sg kd
  by_cases e : L ≤ s
  · rw [if_neg (by omega), if_pos e]; omega
  · rw [if_pos (by omega), if_neg e]
    by_cases e1 : 97 ≤ tx s ∧ tx s ≤ 122
    · rw [if_pos e1]; omega
    · rw [if_neg e1]
      by_cases e2 : 48 ≤ tx s ∧ tx s ≤ 57
      · rw [if_pos e2]; omega
      · rw [if_neg e2]; omega
theorem hc_59 : hc tx L s = 59 ↔ sg tx L s 59 := by
  unfold hc sg kd
  by_cases e : L ≤ s
  · rw [if_neg (by omega), if_pos e]; omega
  · rw [if_pos (by omega), if_neg e]
    by_cases e1 : 97 ≤ tx s ∧ tx s ≤ 122
    · rw [if_pos e1]; omega
    · rw [if_neg e1]
      by_cases e2 : 48 ≤ tx s ∧ tx s ≤ 57
      · rw [if_pos e2]; omega
      · rw [if_neg e2]; omega
theorem letters_rt (h : Md ξ tx L s) : ∃ ν, FX7_letters 105 ξ = RT (run 97 122 tx L s - s) ν ∧ Md ν tx L s ∧ RmH ξ ν ∧ ν 105 14 = s := by
  obtain ⟨ν, e1, h1, h2, h3⟩ := here_rt h
  have hp := h.2.1.1
  have hg : s ≤ run 97 122 tx L s := run_ge
  have hl : run 97 122 tx L s ≤ L := run_le hp.2
  have hat := run_at (lo := 97) (hi := 122) (tx := tx) (L := L) (a := s)
  obtain ⟨hS, ⟨t3, t4, t5⟩, hf, hb⟩ := id h1.1
  refine ⟨ν, ?_, h1, h2, h3⟩
  unfold FX7_letters BX7_letters_0
  rw [h.1.1.k7, e1]
  simp only [CL, CLX_rt]
  have hm := lp (fun n x (_ : Unit) => LX7_letters_7 n 105 x ν) (fun _ => ()) (run 97 122 tx L s - s) (RT (run 97 122 tx L s - s) ν) (fun n x x0 x1 => ?_) (fun n => ?_) FU 0 (Int.le_refl _) (by omega) (by rw [show ((FU : Nat) : Int) = 20000 from rfl]; omega)
  · exact hm
  · have hin := run_in (lo := 97) (hi := 122) (tx := tx) (L := L) (a := s) (k := s + x) (by omega) (by omega)
    obtain ⟨c1, c2⟩ := hb (s + x) (by omega) (by omega)
    have r3 : ¬ L ≤ s + x := by omega
    have r1 : b2 (97 ≤ tx (s + x) ∧ tx (s + x) ≤ 122) = 1 := b2_t hin
    simp (disch := omega) only [LX7_letters_7, BX7_letters_7, ↓hS.g7_0, ↓hS.g7_1, ↓hS.g7_2, ↓hS.g7_3, ↓hS.g7_4, ↓hS.g7_5, ↓hS.g7_6, ↓hS.g7_7, ↓hS.g7_8, ↓hS.g7_9, ↓hS.g7_10, ↓hS.g7_11, ↓hS.g7_12, ↓hS.g7_13, ↓hS.g7_14, ↓hS.g7_15, ↓hS.g7_16, ↓hS.g7_17, ↓hS.g7_18, ↓hS.g7_19, ↓hS.g7_20, ↓hS.g7_21, ↓hS.g7_22, ↓hS.g7_23, ↓hS.k7, ↓hS.l106, ↓hS.n106, ↓hS.l107, ↓hS.n107, ↓hS.l108, ↓hS.n108, ↓hS.l109, ↓hS.n109, ↓hS.l110, ↓hS.n110, ↓hS.l111, ↓hS.n111, ↓hS.l112, ↓hS.n112, ↓hS.l113, ↓hS.n113, ↓hS.l114, ↓hS.n114, h3, t3, c1, r3, ↓reduceIte, w32_eq, ↓CL, ↓isLetter_rt_c, r1, Int.reduceEq]
  · generalize run 97 122 tx L s = e at hg hl hat ⊢
    have ex : s + (e - s) = e := by omega
    by_cases r3 : L ≤ e
    · simp (disch := omega) only [LX7_letters_7, BX7_letters_7, BX7_letters_43, ↓hS.g7_0, ↓hS.g7_1, ↓hS.g7_2, ↓hS.g7_3, ↓hS.g7_4, ↓hS.g7_5, ↓hS.g7_6, ↓hS.g7_7, ↓hS.g7_8, ↓hS.g7_9, ↓hS.g7_10, ↓hS.g7_11, ↓hS.g7_12, ↓hS.g7_13, ↓hS.g7_14, ↓hS.g7_15, ↓hS.g7_16, ↓hS.g7_17, ↓hS.g7_18, ↓hS.g7_19, ↓hS.g7_20, ↓hS.g7_21, ↓hS.g7_22, ↓hS.g7_23, ↓hS.k7, ↓hS.l106, ↓hS.n106, ↓hS.l107, ↓hS.n107, ↓hS.l108, ↓hS.n108, ↓hS.l109, ↓hS.n109, ↓hS.l110, ↓hS.n110, ↓hS.l111, ↓hS.n111, ↓hS.l112, ↓hS.n112, ↓hS.l113, ↓hS.n113, ↓hS.l114, ↓hS.n114, h3, t3, w32_eq, ex, r3, ↓reduceIte]
    · obtain ⟨c1, c2⟩ := hb e (by omega) (by omega)
      have r1 : b2 (97 ≤ tx e ∧ tx e ≤ 122) = 0 := b2_f (by omega)
      simp (disch := omega) only [LX7_letters_7, BX7_letters_7, BX7_letters_43, ↓hS.g7_0, ↓hS.g7_1, ↓hS.g7_2, ↓hS.g7_3, ↓hS.g7_4, ↓hS.g7_5, ↓hS.g7_6, ↓hS.g7_7, ↓hS.g7_8, ↓hS.g7_9, ↓hS.g7_10, ↓hS.g7_11, ↓hS.g7_12, ↓hS.g7_13, ↓hS.g7_14, ↓hS.g7_15, ↓hS.g7_16, ↓hS.g7_17, ↓hS.g7_18, ↓hS.g7_19, ↓hS.g7_20, ↓hS.g7_21, ↓hS.g7_22, ↓hS.g7_23, ↓hS.k7, ↓hS.l106, ↓hS.n106, ↓hS.l107, ↓hS.n107, ↓hS.l108, ↓hS.n108, ↓hS.l109, ↓hS.n109, ↓hS.l110, ↓hS.n110, ↓hS.l111, ↓hS.n111, ↓hS.l112, ↓hS.n112, ↓hS.l113, ↓hS.n113, ↓hS.l114, ↓hS.n114, h3, t3, w32_eq, ex, c1, r3, ↓reduceIte, ↓CL, ↓isLetter_rt_c, r1]
theorem lt_2 (hp : Pc tx L s) : (kd tx L s = 2 → run 97 122 tx L s - s = en tx L s - s ∧ 0 < en tx L s - s) ∧ (¬ kd tx L s = 2 → run 97 122 tx L s - s = 0) := by
  refine ⟨fun e => ?_, fun e => ?_⟩
  · have h1 := kd_2 e
    have h2 := (en_le hp).2.2 h1.1
    rw [h1.2.2.2] at h2 ⊢
    omega
  · rw [run_e]
    · omega
    · intro k
      apply e
      unfold kd
      rw [if_neg (by omega), if_pos k.2]
theorem takes_17 {ν : Mem} (hT : Mt ν tx L) {w : Int} (w0 : 0 ≤ w) (w1 : w < 13) (h8 : ν 105 14 = s) (s0 : 0 ≤ s) (s1 : s + strLen w ≤ L) : ∀ (d : Nat) (x : Int) (n : Nat), strLen w - x = d → d < n → 0 ≤ x → LX7_takes_17 n 105 w (strLen w) x ν = if mt tx w s d x = true then RT 1 (mUp ν 105 14 (s + strLen w)) else RT 0 ν
  | d, x, 0, _, h, _ => by omega
  | 0, x, n + 1, hd, hn, x0 => by
    have hS := hT.1
    have hl := strLen_le w0 w1
    have hL := hT.2.1
    rw [if_pos (show mt tx w s 0 x = true from rfl)]
    have r1 : strLen w ≤ x := by omega
    simp (disch := omega) only [LX7_takes_17, BX7_takes_17, r1, ↓reduceIte, ↓hS.g7_0, ↓hS.g7_1, ↓hS.g7_2, ↓hS.g7_3, ↓hS.g7_4, ↓hS.g7_5, ↓hS.g7_6, ↓hS.g7_7, ↓hS.g7_8, ↓hS.g7_9, ↓hS.g7_10, ↓hS.g7_11, ↓hS.g7_12, ↓hS.g7_13, ↓hS.g7_14, ↓hS.g7_15, ↓hS.g7_16, ↓hS.g7_17, ↓hS.g7_18, ↓hS.g7_19, ↓hS.g7_20, ↓hS.g7_21, ↓hS.g7_22, ↓hS.g7_23, ↓hS.k7, ↓hS.l106, ↓hS.n106, ↓hS.l107, ↓hS.n107, ↓hS.l108, ↓hS.n108, ↓hS.l109, ↓hS.n109, ↓hS.l110, ↓hS.n110, ↓hS.l111, ↓hS.n111, ↓hS.l112, ↓hS.n112, ↓hS.l113, ↓hS.n113, ↓hS.l114, ↓hS.n114, ↓hS.p7_0, ↓hS.z7_0, ↓hS.p7_3, ↓hS.z7_3, ↓hS.p7_4, ↓hS.z7_4, ↓hS.p7_10, ↓hS.z7_10, ↓hS.p7_12, ↓hS.z7_12, ↓hS.p7_13, ↓hS.z7_13, ↓hS.p7_14, ↓hS.z7_14, ↓hS.p7_15, ↓hS.z7_15, ↓hS.p7_16, ↓hS.z7_16, ↓hS.p7_17, ↓hS.z7_17, ↓hS.p7_18, ↓hS.z7_18, ↓hS.p7_19, ↓hS.z7_19, ↓hS.p7_20, ↓hS.z7_20, ↓hS.p7_21, ↓hS.z7_21, ↓hS.p7_22, ↓hS.z7_22, ↓hS.s106, ↓hS.s107, ↓hS.s108, ↓hS.s109, ↓hS.s110, ↓hS.s111, ↓hS.s112, ↓hS.s113, ↓hS.s114, h8, w32_eq]
    rfl
  | d + 1, x, n + 1, hd, hn, x0 => by
    have ih := takes_17 hT w0 w1 h8 s0 s1 d (x + 1) n (by omega) (by omega) (by omega)
    obtain ⟨hS, ⟨t3, t4, t5⟩, hf, hb⟩ := id hT
    have hl := strLen_le w0 w1
    obtain ⟨b1, b2'⟩ := hb (s + x) (by omega) (by omega)
    have r1 : ¬ strLen w ≤ x := by omega
    have r2 : x < strLen w := by omega
    by_cases e : tx (s + x) = strCh w x
    · have e3 : (mt tx w s (d + 1) x = true) = (mt tx w s d (x + 1) = true) := by rw [mt]; simp [e]
      simp only [e3]
      rw [← ih]
      simp (disch := omega) only [LX7_takes_17, BX7_takes_17, ↓STC_of w0 w1, ↓hS.g7_0, ↓hS.g7_1, ↓hS.g7_2, ↓hS.g7_3, ↓hS.g7_4, ↓hS.g7_5, ↓hS.g7_6, ↓hS.g7_7, ↓hS.g7_8, ↓hS.g7_9, ↓hS.g7_10, ↓hS.g7_11, ↓hS.g7_12, ↓hS.g7_13, ↓hS.g7_14, ↓hS.g7_15, ↓hS.g7_16, ↓hS.g7_17, ↓hS.g7_18, ↓hS.g7_19, ↓hS.g7_20, ↓hS.g7_21, ↓hS.g7_22, ↓hS.g7_23, ↓hS.k7, ↓hS.l106, ↓hS.n106, ↓hS.l107, ↓hS.n107, ↓hS.l108, ↓hS.n108, ↓hS.l109, ↓hS.n109, ↓hS.l110, ↓hS.n110, ↓hS.l111, ↓hS.n111, ↓hS.l112, ↓hS.n112, ↓hS.l113, ↓hS.n113, ↓hS.l114, ↓hS.n114, h8, b1, e, r1, ↓reduceIte, w32_eq]
    · rw [if_neg (by rw [mt]; simp [e])]
      simp (disch := omega) only [LX7_takes_17, BX7_takes_17, ↓STC_of w0 w1, ↓hS.g7_0, ↓hS.g7_1, ↓hS.g7_2, ↓hS.g7_3, ↓hS.g7_4, ↓hS.g7_5, ↓hS.g7_6, ↓hS.g7_7, ↓hS.g7_8, ↓hS.g7_9, ↓hS.g7_10, ↓hS.g7_11, ↓hS.g7_12, ↓hS.g7_13, ↓hS.g7_14, ↓hS.g7_15, ↓hS.g7_16, ↓hS.g7_17, ↓hS.g7_18, ↓hS.g7_19, ↓hS.g7_20, ↓hS.g7_21, ↓hS.g7_22, ↓hS.g7_23, ↓hS.k7, ↓hS.l106, ↓hS.n106, ↓hS.l107, ↓hS.n107, ↓hS.l108, ↓hS.n108, ↓hS.l109, ↓hS.n109, ↓hS.l110, ↓hS.n110, ↓hS.l111, ↓hS.n111, ↓hS.l112, ↓hS.n112, ↓hS.l113, ↓hS.n113, ↓hS.l114, ↓hS.n114, h8, b1, e, r1, ↓reduceIte, w32_eq]
      rfl
theorem takes_rt (h : Md ξ tx L s) {w : Int} (w0 : 0 ≤ w) (w1 : w < 13) : (wd tx L w s → ∃ ν, FX7_takes 105 w ξ = RT 1 ν ∧ Md ν tx L (nx tx L s) ∧ RmH ξ ν ∧ ν 105 14 = en tx L s) ∧ (¬ wd tx L w s → ∃ ν, FX7_takes 105 w ξ = RT 0 ν ∧ Md ν tx L s ∧ RmH ξ ν ∧ ν 105 14 = s) := by
  obtain ⟨ν, e1, h1, h2, h3⟩ := letters_rt h
  have hp := h.2.1.1
  have hl := strLen_le w0 w1
  have hlt := lt_2 h.2.1
  have hel := en_le h.2.1
  have hstart : FX7_takes 105 w ξ = if run 97 122 tx L s - s = strLen w then LX7_takes_17 FU 105 w (run 97 122 tx L s - s) 0 ν else RTZ 0 ν := by
    unfold FX7_takes BX7_takes_0
    rw [h.1.1.k7, e1]
    simp only [CL, CLX_rt]
    rw [STL_of w0 w1]
  refine ⟨fun e => ?_, fun e => ?_⟩
  · obtain ⟨q1, q2, q3⟩ := e
    have hr := (hlt.1 q1).1
    refine ⟨mUp ν 105 14 (en tx L s), ?_, ?_, h2.up, mUp_same _ _ _ _⟩
    · rw [hstart, hr, q2, if_pos rfl, takes_17 h1.1 w0 w1 h3 hp.1 (by omega) (strLen w).toNat 0 FU (by omega) (by have : FU = 20000 := rfl; omega) (Int.le_refl _), if_pos q3, show s + strLen w = en tx L s by omega]
    · have hTν : Mt (mUp ν 105 14 (en tx L s)) tx L := h1.1.fr (RmH.rf.up).t
      exact ⟨hTν, nx_pc h.2.1, by rw [mUp_same]; omega, by rw [mUp_same]; rfl⟩
  · refine ⟨ν, ?_, h1, h2, h3⟩
    rw [hstart]
    by_cases q : run 97 122 tx L s - s = strLen w
    · rw [if_pos q]
      by_cases q1 : kd tx L s = 2
      · have hr := (hlt.1 q1).1
        rw [q, takes_17 h1.1 w0 w1 h3 hp.1 (by omega) (strLen w).toNat 0 FU (by omega) (by have : FU = 20000 := rfl; omega) (Int.le_refl _), if_neg (fun k => e ⟨q1, by omega, k⟩)]
      · have := hlt.2 q1
        omega
    · rw [if_neg q]
      rfl
theorem sign_rt (h : Md ξ tx L s) {c : Int} (hcc : hc tx L s = c ↔ sg tx L s c) : (sg tx L s c → ∃ ν, FX7_sign 105 c ξ = RT 1 ν ∧ Md ν tx L (nx tx L s) ∧ RmH ξ ν) ∧ (¬ sg tx L s c → ∃ ν, FX7_sign 105 c ξ = RT 0 ν ∧ Me ξ ν (-2) s) := by
  obtain ⟨ν, e1, h1, h2, h3⟩ := here_rt h
  have hp := h.2.1.1
  have hS := h1.1.1
  have hL := h.1.2.1
  refine ⟨fun e => ?_, fun e => ?_⟩
  · have e2 := kd_3 e.1
    refine ⟨mUp ν 105 14 (en tx L s), ?_, ⟨h1.1.fr (RmH.rf.up).t, nx_pc h.2.1, by rw [mUp_same]; omega, by rw [mUp_same]; rfl⟩, h2.up⟩
    unfold FX7_sign BX7_sign_0
    rw [h.1.1.k7, e1]
    simp only [CL, CLX_rt]
    rw [if_pos (hcc.mpr e), hS.g7_14, hS.p7_14, h3, w32_eq (by omega) (by omega), e2.2.1]
    rfl
  · refine ⟨_, ?_, fails_me h2.t (-2) s⟩
    unfold FX7_sign BX7_sign_0
    rw [h.1.1.k7, e1]
    simp only [CL, CLX_rt]
    rw [if_neg (fun k => e (hcc.mp k)), hS.g7_14, hS.k7, h3, fails_rt h1.1]
    rfl
theorem reads_rt (h : Md ξ tx L s) {lo hi : Int} : (kd tx L s = 1 → lo ≤ num tx L s ∧ num tx L s ≤ hi → ∃ ν, FX7_reads 105 lo hi ξ = RT 1 ν ∧ Md ν tx L (nx tx L s) ∧ RmT ξ ν ∧ ν 105 17 = num tx L s ∧ ν 105 18 = s) ∧ (kd tx L s = 1 → ¬ (lo ≤ num tx L s ∧ num tx L s ≤ hi) → ∃ ν, FX7_reads 105 lo hi ξ = RT 0 ν ∧ Me ξ ν (-3) s) ∧ (¬ kd tx L s = 1 → ∃ ν, FX7_reads 105 lo hi ξ = RT 0 ν ∧ Me ξ ν (-2) s) := by
  obtain ⟨ν, e1, h1, h2, h3⟩ := here_rt h
  have hp := h.2.1.1
  have hS := h1.1.1
  have hL := h.1.2.1
  have hel := en_le h.2.1
  have hd := hc_d (tx := tx) (L := L) (s := s)
  have key : kd tx L s = 1 → ∃ ζ, FX7_reads 105 lo hi ξ = BX7_reads_113 105 lo hi ζ ∧ RmT ξ ζ ∧ Mt ζ tx L ∧ ζ 105 14 = en tx L s ∧ ζ 105 17 = num tx L s ∧ ζ 105 18 = s := by
    intro e
    have e2 := kd_1 e
    have hS2 : MSh (mUp ν 105 18 s) := hS.up (by unfold MSt; omega)
    have estart : FX7_reads 105 lo hi ξ = LX7_reads_34 FU 105 lo hi (mUp (mUp ν 105 18 s) 105 17 0) := by
      unfold FX7_reads BX7_reads_0
      rw [h.1.1.k7, e1]
      simp only [CL, CLX_rt]
      rw [isDigit_rt, b2_t (hd.mpr e)]
      simp only [CLX_rt]
      rw [if_pos (by decide), hS.g7_14, h3, hS.p7_18, hS2.p7_17]
    rw [estart]
    refine lpR (fun n x ζ => LX7_reads_34 n 105 lo hi ζ) (fun x ζ => s ≤ x ∧ RmT ξ ζ ∧ ζ 105 14 = x ∧ ζ 105 17 = nv tx s (x - s).toNat ∧ ζ 105 18 = s) (en tx L s) (fun R => ∃ ζ, R = BX7_reads_113 105 lo hi ζ ∧ RmT ξ ζ ∧ Mt ζ tx L ∧ ζ 105 14 = en tx L s ∧ ζ 105 17 = num tx L s ∧ ζ 105 18 = s) (fun n x ζ x1 hs => ?_) (fun n ζ hs => ?_) FU s _ hel.1 (by rw [show ((FU : Nat) : Int) = 20000 from rfl]; omega) ⟨Int.le_refl _, (h2.t.up (by omega)).up (by omega), by rw [mUp_ne _ _ (by omega), mUp_ne _ _ (by omega)]; exact h3, by rw [mUp_same, show (s - s).toNat = 0 by omega]; rfl, by rw [mUp_ne _ _ (by omega), mUp_same]⟩
    · obtain ⟨g0, gF, g14, g17, g18⟩ := hs
      have hTζ := h.1.fr gF
      obtain ⟨hSζ, ⟨t3, t4, t5⟩, hf, hb⟩ := id hTζ
      have hin := run_in (lo := 48) (hi := 57) (tx := tx) (L := L) (a := s) (k := x) g0 (by omega)
      obtain ⟨c1, c2⟩ := hb x (by omega) (by omega)
      have r3 : ¬ L ≤ x := by omega
      have r1 : b2 (48 ≤ tx x ∧ tx x ≤ 57) = 1 := b2_t hin
      have e3 : (x + 1 - s).toNat = (x - s).toNat + 1 := by omega
      have e4 : s + (((x - s).toNat : Nat) : Int) = x := by omega
      have hnv := nv_le e h.2.1 (x - s).toNat (by omega)
      refine ⟨mUp (mUp ζ 105 17 (nv tx s (x + 1 - s).toNat)) 105 14 (x + 1), ⟨by omega, (gF.up (by omega)).up (by omega), mUp_same _ _ _ _, by rw [mUp_ne _ _ (by omega), mUp_same], by rw [mUp_ne _ _ (by omega), mUp_ne _ _ (by omega)]; exact g18⟩, ?_⟩
      rw [e3, nv, e4]
      have hS3 : ∀ v, MSh (mUp ζ 105 17 v) := fun v => hSζ.up (by unfold MSt; omega)
      have hne : ∀ v, mUp ζ 105 17 v 105 14 = x := fun v => by rw [mUp_ne _ _ (by omega)]; exact g14
      have e97 : ∀ v, BX7_reads_97 (fun y0 y1 y2 ν => LX7_reads_34 n y0 y1 y2 ν) 105 lo hi v 105 ζ = LX7_reads_34 n 105 lo hi (mUp (mUp ζ 105 17 v) 105 14 (x + 1)) := fun v => by
        unfold BX7_reads_97
        rw [hSζ.p7_17, (hS3 v).g7_14, (hS3 v).p7_14, hne v, w32_eq (by omega) (by omega)]
      have ew : ∀ v, 0 ≤ v → v ≤ 100000 → w32 (w32 (w32 (10 * v) + tx x) - 48) = 10 * v + tx x - 48 := fun v v0 v1 => by rw [w32_eq (z := 10 * v) (by omega) (by omega), w32_eq (z := 10 * v + tx x) (by omega) (by omega), w32_eq (by omega) (by omega)]
      by_cases q : 100000 < nv tx s (x - s).toNat
      · have q2 : ¬ nv tx s (x - s).toNat ≤ 100000 := by omega
        rw [if_pos q]
        simp (disch := omega) only [LX7_reads_34, BX7_reads_34, ↓hSζ.g7_0, ↓hSζ.g7_1, ↓hSζ.g7_2, ↓hSζ.g7_3, ↓hSζ.g7_4, ↓hSζ.g7_5, ↓hSζ.g7_6, ↓hSζ.g7_7, ↓hSζ.g7_8, ↓hSζ.g7_9, ↓hSζ.g7_10, ↓hSζ.g7_11, ↓hSζ.g7_12, ↓hSζ.g7_13, ↓hSζ.g7_14, ↓hSζ.g7_15, ↓hSζ.g7_16, ↓hSζ.g7_17, ↓hSζ.g7_18, ↓hSζ.g7_19, ↓hSζ.g7_20, ↓hSζ.g7_21, ↓hSζ.g7_22, ↓hSζ.g7_23, ↓hSζ.k7, ↓hSζ.l106, ↓hSζ.n106, ↓hSζ.l107, ↓hSζ.n107, ↓hSζ.l108, ↓hSζ.n108, ↓hSζ.l109, ↓hSζ.n109, ↓hSζ.l110, ↓hSζ.n110, ↓hSζ.l111, ↓hSζ.n111, ↓hSζ.l112, ↓hSζ.n112, ↓hSζ.l113, ↓hSζ.n113, ↓hSζ.l114, ↓hSζ.n114, g14, g17, t3, c1, r3, ↓reduceIte, w32_eq, ↓CL, ↓isDigit_rt_c, r1, Int.reduceEq, q2, e97]
      · have q2 : nv tx s (x - s).toNat ≤ 100000 := by omega
        rw [if_neg q]
        simp (disch := omega) only [LX7_reads_34, BX7_reads_34, ↓hSζ.g7_0, ↓hSζ.g7_1, ↓hSζ.g7_2, ↓hSζ.g7_3, ↓hSζ.g7_4, ↓hSζ.g7_5, ↓hSζ.g7_6, ↓hSζ.g7_7, ↓hSζ.g7_8, ↓hSζ.g7_9, ↓hSζ.g7_10, ↓hSζ.g7_11, ↓hSζ.g7_12, ↓hSζ.g7_13, ↓hSζ.g7_14, ↓hSζ.g7_15, ↓hSζ.g7_16, ↓hSζ.g7_17, ↓hSζ.g7_18, ↓hSζ.g7_19, ↓hSζ.g7_20, ↓hSζ.g7_21, ↓hSζ.g7_22, ↓hSζ.g7_23, ↓hSζ.k7, ↓hSζ.l106, ↓hSζ.n106, ↓hSζ.l107, ↓hSζ.n107, ↓hSζ.l108, ↓hSζ.n108, ↓hSζ.l109, ↓hSζ.n109, ↓hSζ.l110, ↓hSζ.n110, ↓hSζ.l111, ↓hSζ.n111, ↓hSζ.l112, ↓hSζ.n112, ↓hSζ.l113, ↓hSζ.n113, ↓hSζ.l114, ↓hSζ.n114, g14, g17, t3, c1, r3, ↓reduceIte, ↓CL, ↓isDigit_rt_c, r1, Int.reduceEq, q2, e97, ew]
    · obtain ⟨g0, gF, g14, g17, g18⟩ := hs
      have hTζ := h.1.fr gF
      obtain ⟨hSζ, ⟨t3, t4, t5⟩, hf, hb⟩ := id hTζ
      refine ⟨ζ, ?_, gF, hTζ, g14, g17, g18⟩
      have hat := run_at (lo := 48) (hi := 57) (tx := tx) (L := L) (a := s)
      rw [← e2.2.2.2] at hat
      generalize en tx L s = x at g14 hat hel
      by_cases r3 : L ≤ x
      · simp (disch := omega) only [LX7_reads_34, BX7_reads_34, ↓hSζ.g7_0, ↓hSζ.g7_1, ↓hSζ.g7_2, ↓hSζ.g7_3, ↓hSζ.g7_4, ↓hSζ.g7_5, ↓hSζ.g7_6, ↓hSζ.g7_7, ↓hSζ.g7_8, ↓hSζ.g7_9, ↓hSζ.g7_10, ↓hSζ.g7_11, ↓hSζ.g7_12, ↓hSζ.g7_13, ↓hSζ.g7_14, ↓hSζ.g7_15, ↓hSζ.g7_16, ↓hSζ.g7_17, ↓hSζ.g7_18, ↓hSζ.g7_19, ↓hSζ.g7_20, ↓hSζ.g7_21, ↓hSζ.g7_22, ↓hSζ.g7_23, ↓hSζ.k7, ↓hSζ.l106, ↓hSζ.n106, ↓hSζ.l107, ↓hSζ.n107, ↓hSζ.l108, ↓hSζ.n108, ↓hSζ.l109, ↓hSζ.n109, ↓hSζ.l110, ↓hSζ.n110, ↓hSζ.l111, ↓hSζ.n111, ↓hSζ.l112, ↓hSζ.n112, ↓hSζ.l113, ↓hSζ.n113, ↓hSζ.l114, ↓hSζ.n114, g14, t3, r3, ↓reduceIte]
      · obtain ⟨c1, c2⟩ := hb x (by omega) (by omega)
        have r1 : b2 (48 ≤ tx x ∧ tx x ≤ 57) = 0 := b2_f (by omega)
        simp (disch := omega) only [LX7_reads_34, BX7_reads_34, ↓hSζ.g7_0, ↓hSζ.g7_1, ↓hSζ.g7_2, ↓hSζ.g7_3, ↓hSζ.g7_4, ↓hSζ.g7_5, ↓hSζ.g7_6, ↓hSζ.g7_7, ↓hSζ.g7_8, ↓hSζ.g7_9, ↓hSζ.g7_10, ↓hSζ.g7_11, ↓hSζ.g7_12, ↓hSζ.g7_13, ↓hSζ.g7_14, ↓hSζ.g7_15, ↓hSζ.g7_16, ↓hSζ.g7_17, ↓hSζ.g7_18, ↓hSζ.g7_19, ↓hSζ.g7_20, ↓hSζ.g7_21, ↓hSζ.g7_22, ↓hSζ.g7_23, ↓hSζ.k7, ↓hSζ.l106, ↓hSζ.n106, ↓hSζ.l107, ↓hSζ.n107, ↓hSζ.l108, ↓hSζ.n108, ↓hSζ.l109, ↓hSζ.n109, ↓hSζ.l110, ↓hSζ.n110, ↓hSζ.l111, ↓hSζ.n111, ↓hSζ.l112, ↓hSζ.n112, ↓hSζ.l113, ↓hSζ.n113, ↓hSζ.l114, ↓hSζ.n114, g14, t3, c1, r3, ↓reduceIte, ↓CL, ↓isDigit_rt_c, r1]
  refine ⟨fun e e2 => ?_, fun e e2 => ?_, fun e => ?_⟩
  · obtain ⟨ζ, k1, k2, k3, k4, k5, k6⟩ := key e
    refine ⟨ζ, ?_, ⟨k3, nx_pc h.2.1, by omega, by rw [k4]; rfl⟩, k2, k5, k6⟩
    rw [k1, BX7_reads_113, k3.1.g7_17, k5, isIn_rt, b2_t e2]
    simp only [CL, CLX_rt]
    rw [if_pos (by decide)]
    rfl
  · obtain ⟨ζ, k1, k2, k3, k4, k5, k6⟩ := key e
    refine ⟨_, ?_, fails_me k2 (-3) s⟩
    rw [k1, BX7_reads_113, k3.1.g7_17, k5, isIn_rt, b2_f e2]
    simp only [CL, CLX_rt]
    rw [if_neg (by decide), k3.1.g7_18, k6, k3.1.k7, fails_rt k3]
    rfl
  · refine ⟨_, ?_, fails_me h2.t (-2) s⟩
    unfold FX7_reads BX7_reads_0
    rw [h.1.1.k7, e1]
    simp only [CL, CLX_rt]
    rw [isDigit_rt, b2_f (fun k => e (hd.mp k))]
    simp only [CLX_rt]
    rw [if_neg (by decide), hS.g7_14, h3, hS.k7, fails_rt h1.1]
    rfl
end MPI
