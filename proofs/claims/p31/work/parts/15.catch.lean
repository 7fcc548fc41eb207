/-! switches -/
section VCATCH
variable {Γ : Gam} {κ : Kap} {pc : Nat} {lv : List (Nat × AV)} {st : List AV} {μ : Mem} {r : Rz}
/-- the arms of a switch -/
def SWok (Γ : Gam) (κ : Kap) (pc : Nat) (lv : List (Nat × AV)) (st : List AV) (μ : Mem) : List Int → List Rz → Prop
  | [], [] => True
  | o :: os, r :: rs => (∃ tgt : Nat, (pc : Int) + o = (tgt : Int) ∧ V Γ κ tgt lv st μ r) ∧ SWok Γ κ pc lv st μ os rs
  | _, _ => False
theorem SW_arm {pc0 : Nat} {x : Int} {d : Rz} : ∀ (os : List Int) (rs : List Rz) (lo : Int), SWok Γ κ pc0 lv st μ os rs → (((x < lo ∨ lo + os.length - 1 < x) ∧ SW x lo rs d = d) ∨ (¬ x < lo ∧ ¬ lo + os.length - 1 < x ∧ ∃ o tgt, os[(x - lo).toNat]? = some o ∧ (pc0 : Int) + o = ((tgt : Nat) : Int) ∧ V Γ κ tgt lv st μ (SW x lo rs d)))
  | [], [], lo, _ => Or.inl ⟨by show x < lo ∨ lo + ((0 : Nat) : Int) - 1 < x; omega, rfl⟩
  | o :: os, r :: rs, lo, h => by
    obtain ⟨⟨tgt, h1, h2⟩, h3⟩ := h
    have e : ((o :: os).length : Int) = os.length + 1 := by rw [List.length_cons]; omega
    rw [e]
    by_cases hx : x = lo
    · refine Or.inr ⟨by omega, by omega, o, tgt, ?_, h1, ?_⟩
      · rw [hx, Int.sub_self]
        rfl
      · unfold SW
        rw [if_pos hx]
        exact h2
    · have hs : SW x lo (r :: rs) d = SW x (lo + 1) rs d := by
        rw [SW, if_neg hx]
      rcases SW_arm (x := x) (d := d) os rs (lo + 1) h3 with ⟨g1, g2⟩ | ⟨g1, g2, o', t', g3, g4, g5⟩
      · exact Or.inl ⟨by omega, by rw [hs, g2]⟩
      · refine Or.inr ⟨by omega, by omega, o', t', ?_, g4, by rw [hs]; exact g5⟩
        rw [show (x - lo).toNat = (x - (lo + 1)).toNat + 1 by omega, List.getElem?_cons_succ]
        exact g3
  | [], _ :: _, _, h => False.elim h
  | _ :: _, [], _, h => False.elim h
theorem V_tsw {dflt lo hi : Int} {os : List Int} {len : Nat} {x : Int} {rs : List Rz} {d : Rz} (hdg : decode (kC κ) pc = .ok (.tableswitch dflt lo hi os.toArray, len)) (hhi : lo + os.length - 1 = hi) {tgt : Nat} (ht : (pc : Int) + dflt = (tgt : Int)) (kd : V Γ κ tgt lv st μ d) (ks : SWok Γ κ pc lv st μ os rs) : V Γ κ pc lv ((0, x) :: st) μ (SW x lo rs d) := by
  rcases SW_arm (x := x) (d := d) os rs lo ks with ⟨g1, g2⟩ | ⟨g1, g2, o, t', g3, g4, g5⟩
  · rw [g2]
    refine V_pure (pc' := tgt) (lv' := lv) (st' := st) ?_ (fun b _ => b) (fun _ b => ok_tl b) kd
    obtain ⟨p, l, e, R, s, m, args, below, meth, c, Q, G, ρ0, μ0⟩ := Γ
    intro O
    obtain ⟨hx, hb, hml, hown, hts, hcx, hlk, htr, hfr, hlo, hrt, hin9, htab⟩ := O
    intro ρ H locs ls ce sl Q' b1 b2 b3 b5 kk
    refine lv_tableOut hx hb hdg ?_ ht (kk ls b1)
    rw [oi_to (ok_hd b3), ← hhi]
    exact g1
  · refine V_pure (pc' := t') (lv' := lv) (st' := st) ?_ (fun b _ => b) (fun _ b => ok_tl b) g5
    obtain ⟨p, l, e, R, s, m, args, below, meth, c, Q, G, ρ0, μ0⟩ := Γ
    intro O
    obtain ⟨hx, hb, hml, hown, hts, hcx, hlk, htr, hfr, hlo, hrt, hin9, htab⟩ := O
    intro ρ H locs ls ce sl Q' b1 b2 b3 b5 kk
    refine lv_tableIn hx hb hdg ?_ ?_ (off := o) ?_ g4 (kk ls b1)
    · rw [oi_to (ok_hd b3)]
      exact g1
    · rw [oi_to (ok_hd b3), ← hhi]
      exact g2
    · rw [oi_to (ok_hd b3), List.getElem?_toArray]
      exact g3
end VCATCH
/-! a value that is named -/
