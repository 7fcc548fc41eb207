/-! the law's loop: one round -/
section LBD
variable {μ : Mem} {u fed fa : Int} {h : Int → Row} {tx : Int → Int}
theorem go_long {R6 : Rz} {X : Int → Int → Mem → Rz} {FM : Mem → Rz} {K : Mem → Rz} (hL : LIv μ u h tx fed fa) (hT : Two μ u h tx fed fa R6 X FM Any) : Nxt μ K (CLZ (KD 6 1 μ (CLX R6 (fun t u => AS 2 115 0 t u fun u' => RT 0 u') X)) fun k u1 => KD 7 105 u1 (CLZ (FM u1) fun b u2 => KD 7 105 u2 (CLZ (FX7_thrown 105 u2) fun t u3 => if t = k then (if ¬ k = 0 then K u3 else AL 2 115 0 u3 fun o => if cLong o b = 0 then K u3 else RTL 0 u3) else RTL 0 u3))) := by
  obtain ⟨a1, a2, a3, a4⟩ := hL.2.2.1
  refine go_any (q := 115) (w := fun v => v) (W := fun v ν G => AS 2 115 0 v ν G) (C := fun b u3 => AL 2 115 0 u3 fun o => if cLong o b = 0 then K u3 else RTL 0 u3) (Z := fun u => RTL 0 u) hL (Or.inl rfl) hT (fun v ν G _ g1 g2 => ?_) (fun v ν _ g1 g2 g3 => ?_)
  · show AS 2 115 0 v ν G = _
    unfold AS
    rw [if_pos (by rw [g1, g2, a1, a2]; decide)]
  · show (AL 2 115 0 ν fun o => if cLong o v = 0 then K ν else RTL 0 ν) = _
    unfold AL
    rw [if_pos (by rw [g1, g2, a1, a2]; decide), g3]
    refine if_pos ?_
    unfold cLong
    rw [if_neg (by omega), if_pos rfl]
theorem go_dbl {R6 : Rz} {X : Int → Int → Mem → Rz} {FM : Mem → Rz} {K : Mem → Rz} (hL : LIv μ u h tx fed fa) (hT : Two μ u h tx fed fa R6 X FM Mv) : Nxt μ K (CLZ (KD 6 1 μ (CLX R6 (fun t u => AS 3 116 0 t u fun u' => RT 0 u') X)) fun k u1 => KD 7 105 u1 (CLZ (FM u1) fun b u2 => KD 7 105 u2 (CLZ (FX7_thrown 105 u2) fun t u3 => if t = k then (if ¬ k = 0 then K u3 else AL 3 116 0 u3 fun t294 => if dCmp .l t294 b = 0 then K u3 else (AL 3 116 0 u3 fun t295 => AL 3 116 0 u3 fun t296 => if dCmp .l t295 t296 = 0 then RTL 0 u3 else (if ¬ dCmp .l b b = 0 then K u3 else RTL 0 u3))) else RTL 0 u3))) := by
  obtain ⟨a1, a2, a3, a4⟩ := hL.2.2.1
  refine go_any (q := 116) (w := fun v => v) (W := fun v ν G => AS 3 116 0 v ν G) (C := fun b u3 => AL 3 116 0 u3 fun t294 => if dCmp .l t294 b = 0 then K u3 else (AL 3 116 0 u3 fun t295 => AL 3 116 0 u3 fun t296 => if dCmp .l t295 t296 = 0 then RTL 0 u3 else (if ¬ dCmp .l b b = 0 then K u3 else RTL 0 u3))) (Z := fun u => RTL 0 u) hL (Or.inr rfl) hT (fun v ν G _ g1 g2 => ?_) (fun v ν hv g1 g2 g3 => ?_)
  · show AS 3 116 0 v ν G = _
    unfold AS
    rw [if_pos (by rw [g1, g2, a3, a4]; decide)]
  · have e : ∀ K, AL 3 116 0 ν K = K v := fun K => by
      unfold AL
      rw [if_pos (by rw [g1, g2, a3, a4]; decide), g3]
    simp only [e]
    rw [if_pos hv.eq]
theorem go_cov {R6 : Rz} {X : Int → Int → Mem → Rz} {FM : Mem → Rz} {K : Mem → Rz} (hL : LIv μ u h tx fed fa) (hT : Two μ u h tx fed fa R6 X FM DOk) : Nxt μ K (CLZ (KD 6 1 μ (CLX R6 (fun t u => DF t fun t' => AS 3 116 0 t' u fun u' => RT 0 u') X)) fun k u1 => KD 7 105 u1 (CLZ (FM u1) fun b u2 => KD 7 105 u2 (CLZ (FX7_thrown 105 u2) fun t u3 => if t = k then (if ¬ k = 0 then K u3 else AL 3 116 0 u3 fun t276 => DF b fun t277 => if dCmp .l t276 t277 = 0 then K u3 else (AL 3 116 0 u3 fun t278 => AL 3 116 0 u3 fun t279 => if dCmp .l t278 t279 = 0 then RTL 0 u3 else (if ¬ fCmp .l b b = 0 then K u3 else RTL 0 u3))) else RTL 0 u3))) := by
  obtain ⟨a1, a2, a3, a4⟩ := hL.2.2.1
  refine go_any (q := 116) (w := fun v => dOfF v) (W := fun v ν G => DF v fun t' => AS 3 116 0 t' ν G) (C := fun b u3 => AL 3 116 0 u3 fun t276 => DF b fun t277 => if dCmp .l t276 t277 = 0 then K u3 else (AL 3 116 0 u3 fun t278 => AL 3 116 0 u3 fun t279 => if dCmp .l t278 t279 = 0 then RTL 0 u3 else (if ¬ fCmp .l b b = 0 then K u3 else RTL 0 u3))) (Z := fun u => RTL 0 u) hL (Or.inr rfl) hT (fun v ν G hv g1 g2 => ?_) (fun v ν hv g1 g2 g3 => ?_)
  · show (DF v fun t' => AS 3 116 0 t' ν G) = _
    unfold DF AS
    rw [if_pos hv.1]
    exact if_pos (by rw [g1, g2, a3, a4]; decide)
  · have e : ∀ K, AL 3 116 0 ν K = K (dOfF v) := fun K => by
      unfold AL
      rw [if_pos (by rw [g1, g2, a3, a4]; decide), g3]
    have e2 : ∀ K, DF v K = K (dOfF v) := fun K => by
      unfold DF
      rw [if_pos hv.1]
    simp only [e, e2]
    rw [if_pos hv.2]
theorem SW_cons {P : Rz → Prop} {x lo : Int} {r d : Rz} {rs : List Rz} (h1 : P r) (h2 : P (SW x (lo + 1) rs d)) : P (SW x lo (r :: rs) d) := by
  unfold SW
  split
  · exact h1
  · exact h2
theorem SW_nil {P : Rz → Prop} {x lo : Int} {d : Rz} (h1 : P d) : P (SW x lo [] d) := h1
theorem go_one {R6 : Rz} {FM : Mem → Rz} {K : Mem → Rz} (hL : LIv μ u h tx fed fa) (hT : Onw μ u h tx fed fa R6 FM) : Nxt μ K (KD 6 1 μ (CLZ R6 fun a u1 => KD 7 105 u1 (CLZ (FM u1) fun b u2 => if a = b then K u2 else RTL 0 u2))) :=
  go_two (C := fun a b u2 => if a = b then K u2 else RTL 0 u2) hL hT fun v ν => if_pos rfl
theorem law_body {sc : Int → Int} {L i : Int} {k28 : Int → Int → Int → Int → Int → Mem → Rz} (hsc : ∀ k, i32 (sc k)) (hL : LIv μ u h tx fed fa) (i0 : 0 ≤ i) (i1 : i + 6 ≤ L) (hLm : L ≤ 3072) : Nxt μ (fun ν => k28 1 105 115 116 (w32 (i + 6)) ν) (BL_law_28 sc L k28 1 105 115 116 i μ) := by
  obtain ⟨⟨c, hc⟩, hm, -, hb⟩ := id hL
  have e0 : ∀ K, SC1 sc L i K = K (sc i) := fun K => if_pos ⟨i0, by omega⟩
  have ej : ∀ (j : Int) (K : Int → Rz), 0 ≤ j → j ≤ 5 → SC1 sc L (w32 (i + j)) K = K (sc (i + j)) := fun j K j0 j1 => by
    rw [w32_eq (by omega) (by omega)]
    exact if_pos ⟨by omega, by omega⟩
  have e1 := fun K => ej 1 K (by omega) (by omega)
  have e2 := fun K => ej 2 K (by omega) (by omega)
  have e3 := fun K => ej 3 K (by omega) (by omega)
  have e4 := fun K => ej 4 K (by omega) (by omega)
  have e5 := fun K => ej 5 K (by omega) (by omega)
  unfold BL_law_28
  rw [w32_eq (z := L - 6) (by omega) (by omega), if_neg (by omega), e0]
  refine SW_cons (P := Nxt μ (fun ν => k28 1 105 115 116 (w32 (i + 6)) ν)) ?_ ?_
  · simp only [e1, e2, e3, e4, e5]
    exact go_one hL (onw_append (hsc _) (hsc _) (hsc _) (hsc _) (hsc _) hc hb)
  refine SW_cons (P := Nxt μ (fun ν => k28 1 105 115 116 (w32 (i + 6)) ν)) ?_ ?_
  · simp only [e1, e2, e3, e4, e5]
    exact go_long hL (two_load hc hb hm)
  refine SW_cons (P := Nxt μ (fun ν => k28 1 105 115 116 (w32 (i + 6)) ν)) ?_ ?_
  · exact go_one hL (onw_errorOffset hc hb)
  refine SW_cons (P := Nxt μ (fun ν => k28 1 105 115 116 (w32 (i + 6)) ν)) ?_ ?_
  · simp only [e1, e2, e3, e4, e5]
    exact go_long hL (two_state hc hb)
  refine SW_cons (P := Nxt μ (fun ν => k28 1 105 115 116 (w32 (i + 6)) ν)) ?_ ?_
  · simp only [e1, e2, e3, e4, e5]
    exact go_long hL (two_find hc hb)
  refine SW_cons (P := Nxt μ (fun ν => k28 1 105 115 116 (w32 (i + 6)) ν)) ?_ ?_
  · simp only [e1, e2, e3, e4, e5]
    exact go_long hL (two_plate hc hb)
  refine SW_cons (P := Nxt μ (fun ν => k28 1 105 115 116 (w32 (i + 6)) ν)) ?_ ?_
  · simp only [e1, e2, e3, e4, e5]
    exact go_long hL (two_cell hc hb)
  refine SW_cons (P := Nxt μ (fun ν => k28 1 105 115 116 (w32 (i + 6)) ν)) ?_ ?_
  · simp only [e1, e2, e3, e4, e5]
    exact go_long hL (two_tone hc hb)
  refine SW_cons (P := Nxt μ (fun ν => k28 1 105 115 116 (w32 (i + 6)) ν)) ?_ ?_
  · simp only [e1, e2, e3, e4, e5]
    exact go_long hL (two_inks hc hb)
  refine SW_cons (P := Nxt μ (fun ν => k28 1 105 115 116 (w32 (i + 6)) ν)) ?_ ?_
  · simp only [e1, e2, e3, e4, e5]
    exact go_long hL (two_why hc hb)
  refine SW_cons (P := Nxt μ (fun ν => k28 1 105 115 116 (w32 (i + 6)) ν)) ?_ ?_
  · simp only [e1, e2, e3, e4, e5]
    exact go_long hL (two_off hc hb)
  refine SW_cons (P := Nxt μ (fun ν => k28 1 105 115 116 (w32 (i + 6)) ν)) ?_ ?_
  · simp only [e1, e2, e3, e4, e5]
    exact go_cov hL (two_covered hc hb)
  refine SW_cons (P := Nxt μ (fun ν => k28 1 105 115 116 (w32 (i + 6)) ν)) ?_ ?_
  · simp only [e1, e2, e3, e4, e5]
    exact go_dbl hL (two_moire hc hb)
  refine SW_cons (P := Nxt μ (fun ν => k28 1 105 115 116 (w32 (i + 6)) ν)) ?_ ?_
  · simp only [e1, BL_law_1052]
    by_cases z : sc (i + 1) = 0
    · simp only [z, ↓reduceIte]
      exact go_one hL (onw_worst hc hb)
    · simp only [z, ↓reduceIte]
      exact go_one hL (onw_worst hc hb)
  refine SW_cons (P := Nxt μ (fun ν => k28 1 105 115 116 (w32 (i + 6)) ν)) ?_ ?_
  · simp only [e1, e2, e3, e4, e5]
    exact go_long hL (two_bestTurn hc hb)
  refine SW_cons (P := Nxt μ (fun ν => k28 1 105 115 116 (w32 (i + 6)) ν)) ?_ ?_
  · exact go_one hL (onw_copies hc hb)
  refine SW_cons (P := Nxt μ (fun ν => k28 1 105 115 116 (w32 (i + 6)) ν)) ?_ ?_
  · simp only [e1, e2, e3, e4, e5]
    exact go_long hL (two_cellsWith hc hb)
  refine SW_cons (P := Nxt μ (fun ν => k28 1 105 115 116 (w32 (i + 6)) ν)) ?_ ?_
  · simp only [e1, e2, e3, e4, e5]
    exact go_long hL (two_paint hc hb)
  refine SW_cons (P := Nxt μ (fun ν => k28 1 105 115 116 (w32 (i + 6)) ν)) ?_ ?_
  · simp only [e1, e2, e3, e4, e5]
    exact go_long hL (two_turn hc hb)
  refine SW_cons (P := Nxt μ (fun ν => k28 1 105 115 116 (w32 (i + 6)) ν)) ?_ ?_
  · simp only [e1, e2, e3, e4, e5]
    exact go_long hL (two_shape hc hb)
  refine SW_cons (P := Nxt μ (fun ν => k28 1 105 115 116 (w32 (i + 6)) ν)) ?_ ?_
  · simp only [e1, e2, e3, e4, e5]
    exact go_long hL (two_shift hc hb)
  refine SW_cons (P := Nxt μ (fun ν => k28 1 105 115 116 (w32 (i + 6)) ν)) ?_ ?_
  · simp only [e1, e2, e3, e4, e5]
    exact go_long hL (two_limit hc hb)
  refine SW_cons (P := Nxt μ (fun ν => k28 1 105 115 116 (w32 (i + 6)) ν)) ?_ ?_
  · simp only [e1, e2, e3, e4, e5]
    exact go_long hL (two_clean hc hb)
  refine SW_cons (P := Nxt μ (fun ν => k28 1 105 115 116 (w32 (i + 6)) ν)) ?_ ?_
  · simp only [e1, e2, e3, e4, e5]
    exact go_long hL (two_dirty hc hb)
  refine SW_cons (P := Nxt μ (fun ν => k28 1 105 115 116 (w32 (i + 6)) ν)) ?_ ?_
  · simp only [e1, e2, e3, e4, e5]
    exact go_long hL (two_fill hc hb)
  refine SW_cons (P := Nxt μ (fun ν => k28 1 105 115 116 (w32 (i + 6)) ν)) ?_ ?_
  · simp only [e1, e2, e3, e4, e5]
    exact go_long hL (two_press hc hb)
  refine SW_cons (P := Nxt μ (fun ν => k28 1 105 115 116 (w32 (i + 6)) ν)) ?_ ?_
  · exact go_one hL (onw_undo hc hb)
  refine SW_cons (P := Nxt μ (fun ν => k28 1 105 115 116 (w32 (i + 6)) ν)) ?_ ?_
  · refine go_two (C := fun a b u2 => if cLong a b = 0 then BL_law_1854 sc L k28 1 105 115 116 i u2 else RTL 0 u2) hL (onw_checksum hc hb) fun v ν => ?_
    refine if_pos ?_
    unfold cLong
    rw [if_neg (by omega), if_pos rfl]
  · exact ⟨μ, u, h, tx, fed, fa, rfl, hL, by omega, by omega⟩
end LBD
