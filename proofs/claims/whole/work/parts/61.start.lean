/-! the law from its entry -/
theorem law_ok {p : Program} {l : Launch} {e : Env} {s : State} {m : MethodId} {below : List Frame} {meth : Method} {c : Code} {b L : Nat} {xs : Nat → Int32} {G : Gc} {μ0 : Mem} (hflags : l.flags = flags0) (C0 : lw_At p s m meth c b L xs) (hcx : CxP G s) : Ok (p, l, e, room_1, s, m, #[Value.ref b], below, meth, c, fun _ _ _ => lw_Z below #[Value.ref b] s, G, fun _ => 0, μ0) KL_law := by
  obtain ⟨hx, hb, hr, hml, hown, hts, hX, hbl, hlocks, hgv⟩ := id C0
  have ht : l.stackTraces = false := by
    unfold Launch.stackTraces
    rw [hflags]
    decide
  exact ⟨hx, hb, hml, hown, fun w h => hts w (lw_all_tbl h), hcx, hlocks, ht, Nat.le_of_ble_eq_true rfl, Nat.le_of_ble_eq_true rfl, fun h => absurd rfl h, fun h => absurd h (by decide), fun h => absurd rfl h⟩
theorem law_sc {p : Program} {l : Launch} {e : Env} {s : State} {m : MethodId} {below : List Frame} {meth : Method} {c : Code} {b L : Nat} {xs : Nat → Int32} {G : Gc} {μ0 : Mem} (hL : L ≤ 3072) (C0 : lw_At p s m meth c b L xs) (hG1 : gB G = s.heap.size) (hG2 : gK G 26 = b) : SC (p, l, e, room_1, s, m, #[Value.ref b], below, meth, c, fun _ _ _ => lw_Z below #[Value.ref b] s, G, fun _ => 0, μ0) (fun j => (xs j.toNat).toInt) L := by
  obtain ⟨hx, hb, hr, hml, hown, hts, hX, hbl, hlocks, hgv⟩ := id C0
  have hd0 := Drawn.sameBut.refl s.drawn lw_cs
  refine ⟨by omega, by omega, fun j => ⟨Int32.le_toInt _, Int32.toInt_lt _⟩, ?_, by rw [hG2]; exact hbl, by rw [hG1, hG2]; exact Nat.not_le.mpr hbl, fun pc H locs ce sl ls x μ' hlocs hce hsl hd => ?_⟩
  · rw [hG2, Int.toNat_natCast]
    obtain ⟨scr, h1, h2, h3, h4, h5⟩ := hX
    refine ⟨scr, h1, h2, h3, h4, fun j hj => ?_⟩
    rw [h5 j hj]
    show some (Value.int (xs j)) = some (Value.int (Int32.ofInt (xs ((j : Int)).toNat).toInt))
    rw [Int.toNat_natCast, Int32.ofInt_toInt]
  · rw [hG1] at hlocs
    refine W.base ?_
    refine va_forget (fun q hq => hlocs q hq) ?_
    refine W.widen (k := 601024) (n := 7293034) hce hsl ?_
    exact lw_ret hd0 hx hb hr hlocks (by rw [← hb]; exact hd)
def mu0 : Mem := fun a k => if a = 0 ∧ k = 0 then 1 else 0
/-- from the entry, for every script of at most 3072 ints, the law comes to its end with true -/
theorem whole_start {p : Program} {e : Env} {s : State} {m : MethodId} {below : List Frame} {meth : Method} {c : Code} (l : Launch) (hflags : l.flags = flags0) {b L : Nat} {xs : Nat → Int32} (hL : L ≤ 3072) (C0 : lw_At p s m meth c b L xs) : W p l e room_1 s m #[Value.ref b] below meth c s.heap [] 0 0 (lw_Z below #[Value.ref b] s) (entryFrame m ([Value.ref b] : List Value).toArray 9) := by
  obtain ⟨hx, hb, hr, hml, hown, hts, hX, hbl, hlocks, hgv⟩ := id C0
  have hl := lv_entry ([.ref b]) (n := 9) (Nat.le_of_ble_eq_true rfl)
  rw [lg_entry_eq]
  generalize (lg_sl ([.ref b]) ++ List.replicate (9 - (lg_sl ([.ref b])).length) Slot.unset).toArray = ls at hl ⊢
  have hl : lv_has ls 9 [(0, .ref b)] := hl
  obtain ⟨G, hcx, hG1, hG2⟩ := start_cx (b := b) hts hgv
  obtain ⟨μ', e1, e2, e3⟩ := law_all (sc := fun j => (xs j.toNat).toInt) (L := (L : Int)) (μ := mu0) (fun j => ⟨Int32.le_toInt _, Int32.toInt_lt _⟩) (by omega) (by omega) ⟨rfl, rfl, rfl⟩
  have hV := VBL_law_0 (Γ := (p, l, e, room_1, s, m, #[Value.ref b], below, meth, c, fun _ _ _ => lw_Z below #[Value.ref b] s, G, fun _ => 0, mu0)) (law_sc hL C0 hG1 hG2) mu0
  have h1 : (mu0 0 1 : Int) = 0 := rfl
  have h2 : (mu0 0 2 : Int) = 0 := rfl
  have hcell : (μ' 0 1 - mu0 0 1).toNat ≤ room_1.cells := by
    show _ ≤ 601024
    omega
  have hslot : (μ' 0 2 - mu0 0 2).toNat ≤ room_1.slots := by
    show _ ≤ 7293034
    omega
  have hk := (hV 0 1 μ' e1).2 (law_ok hflags C0 hcx) (Int.le_refl _) (Int.le_refl _) (Int.le_refl _) hcell hslot (fun _ => 0) s.heap [] ls (by
    show lv_has ls 9 [(0, .ref (gK G 26))]
    rw [hG2]
    exact hl) (fun q hq => by
    cases hq with
    | head => show (0 : Int) ≤ 26 ∧ (26 : Int) < nStr; unfold nStr; decide
    | tail _ h => cases h) (fun q hq => by cases hq) ⟨by decide, rfl, fun a a0 a1 => absurd a1 (by show ¬ a < 1; omega), fun a b a0 a1 => absurd a1 (by show ¬ a < 1; omega)⟩ va_S.rf Ext.rf
  exact hk
