/-! one more row of V -/
theorem V_dup_x1 {Γ : Gam} {κ : Kap} {pc : Nat} {lv : List (Nat × AV)} {st : List AV} {μ : Mem} {r : Rz} {x y : AV} (hc : catA x.1 = 1) (hc2 : catA y.1 = 1) (hdg : decode (kC κ) pc = .ok (.dup_x1, 1)) (k : V Γ κ (pc + 1) lv (x :: y :: x :: st) μ r) : V Γ κ pc lv (x :: y :: st) μ r := by
  refine V_pure (pc' := pc + 1) (lv' := lv) (st' := (x :: y :: x :: st)) ?_ (fun b _ => b) (fun _ b3 => ok_cons (ok_hd b3) (ok_cons (ok_hd (ok_tl b3)) (ok_cons (ok_hd b3) (ok_tl (ok_tl b3))))) k
  obtain ⟨p, l, e, R, s, m, args, below, meth, c, Q, G, ρ0, μ0⟩ := Γ
  intro O
  obtain ⟨hx, hb, hml, hown, hts, hcx, hlk, htr, hfr, hlo, hrt, hin9, htab⟩ := O
  intro ρ H locs ls ce sl Q' b1 b2 b3 b5 kk
  exact lv_dup_x1 hx hb hdg (by rw [cv_cat]; exact hc) (by rw [cv_cat]; exact hc2) (kk ls b1)
