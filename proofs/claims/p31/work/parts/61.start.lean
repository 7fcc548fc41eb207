/-! the law from its entry -/
theorem law_ok {p : Program} {l : Launch} {e : Env} {s : State} {m : MethodId} {below : List Frame} {meth : Method} {c : Code} {b L : Nat} {xs : Nat → Int32} {G : Gc} {ρ0 : Int → Nat} {μ0 : Mem} (hflags : l.flags = flags0) (C0 : lw_At p s m meth c b L xs) (hcx : CxP G s) : Ok (p, l, e, room_1, s, m, #[Value.ref b], below, meth, c, fun _ _ _ => lw_Z below #[Value.ref b] s, G, ρ0, μ0) KL_law := by
  obtain ⟨hx, hb, hr, hml, hown, hts, hX, hbl, hlocks, hgv⟩ := id C0
  have ht : l.stackTraces = false := by
    unfold Launch.stackTraces
    rw [hflags]
    decide
  exact ⟨hx, hb, hml, hown, all_hts hts, hcx, hlocks, ht, Nat.le_of_ble_eq_true rfl, Nat.le_of_ble_eq_true rfl, fun h => absurd rfl h, fun h => absurd h (by decide), fun h => absurd rfl h⟩
theorem law_lw {p : Program} {l : Launch} {e : Env} {s : State} {m : MethodId} {below : List Frame} {meth : Method} {c : Code} {b L : Nat} {xs : Nat → Int32} {G : Gc} {ρ0 : Int → Nat} {μ0 : Mem} (C0 : lw_At p s m meth c b L xs) (hG1 : gB G = s.heap.size) : LW (p, l, e, room_1, s, m, #[Value.ref b], below, meth, c, fun _ _ _ => lw_Z below #[Value.ref b] s, G, ρ0, μ0) := by
  obtain ⟨hx, hb, hr, hml, hown, hts, hX, hbl, hlocks, hgv⟩ := id C0
  intro pc H locs ce sl ls x μ' hlocs hce hsl hd
  rw [hG1] at hlocs
  refine va_forget (fun q hq => hlocs q hq) ?_
  refine W.widen (k := 642670) (n := 7173687) hce hsl ?_
  exact lw_ret hx hb hr hlocks (by rw [← hb]; exact hd)
/-- from the entry, for every script of at most 260 ints, the law comes to its end with true -/
theorem whole_start {p : Program} {e : Env} {s : State} {m : MethodId} {below : List Frame} {meth : Method} {c : Code} (l : Launch) (hflags : l.flags = flags0) {b L : Nat} {xs : Nat → Int32} (hL : L ≤ 260) (C0 : lw_At p s m meth c b L xs) : W p l e room_1 s m #[Value.ref b] below meth c s.heap [] 0 0 (lw_Z below #[Value.ref b] s) (entryFrame m ([Value.ref b] : List Value).toArray 16) := by
  obtain ⟨hx, hb, hr, hml, hown, hts, hX, hbl, hlocks, hgv⟩ := id C0
  have hl := lv_entry ([.ref b]) (n := 16) (Nat.le_of_ble_eq_true rfl)
  rw [lg_entry_eq]
  generalize (lg_sl ([.ref b]) ++ List.replicate (16 - (lg_sl ([.ref b])).length) Slot.unset).toArray = ls at hl ⊢
  have hl : lv_has ls 16 [(0, .ref b)] := hl
  obtain ⟨G, hcx, hG1, hG2, hgp⟩ := start_cx hL hts hX hbl hgv
  obtain ⟨ν, e1, e2, e3⟩ := law_all (sc := fun j => (xs j.toNat).toInt) (n := (L : Int)) (μ := mu0 L (fun j => (xs j.toNat).toInt)) mu0_fx rfl rfl rfl
  generalize hmu : mu0 L (fun j => (xs j.toNat).toInt) = μ0 at e1 hgp
  have q0 : μ0 0 0 = 1 := by rw [← hmu]; rfl
  have q1 : μ0 0 1 = 0 := by rw [← hmu]; rfl
  have q2 : μ0 0 2 = 0 := by rw [← hmu]; rfl
  have q3 : μ0 0 3 = -22 := by rw [← hmu]; rfl
  have hV := VBL_law_0 (Γ := (p, l, e, room_1, s, m, #[Value.ref b], below, meth, c, fun _ _ _ => lw_Z below #[Value.ref b] s, G, rho0 G, μ0)) (law_lw C0 hG1) (-21) μ0
  have hcell : (ν 0 1 - μ0 0 1).toNat ≤ room_1.cells := by
    show _ ≤ 642670
    omega
  have hslot : (ν 0 2 - μ0 0 2).toNat ≤ room_1.slots := by
    show _ ≤ 7173687
    omega
  have hr21 : rho0 G (-21) = b := hG2
  have hk := (hV 0 1 ν e1).2 (law_ok hflags C0 hcx) ⟨Int.le_refl _, Int.le_refl _⟩ (Int.le_refl _) (Int.le_refl _) hcell hslot (rho0 G) s.heap [] ls (by
    show lv_has ls 16 [(0, cvR (rho0 G) (-21))]
    unfold cvR
    rw [if_neg (by omega), hr21]
    exact hl) (fun q hq => by
    cases hq with
    | head => show μ0 0 3 < -21 ∧ (-21 : Int) < μ0 0 0; omega
    | tail _ h => cases h) (fun q hq => by cases hq) hgp va_S.rf Ext.rf
  rw [q1, q2] at hk
  exact hk
