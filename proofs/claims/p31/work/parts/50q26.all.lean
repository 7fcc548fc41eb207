/-! the whole law -/
section WHL
variable {μ ν : Mem} {n b c s w h lim many T L : Int} {l : List Int} {sc : Int → Int} {dig : Int → Int → Int} {A B S : Int → Int}
theorem comp_start {D : Int} (hn : At D μ 1 c s) : ∃ u1 u2, (∀ K, NW 6 9 μ K = K 1 u1) ∧ u1 1 (-1) = 7 ∧ FX6_init 1 u1 = RT 0 u2 ∧ NgF μ u2 ∧ (u2 0 1 = c + 104 ∧ u2 0 2 = s + 8459) ∧ CIc u2 0 0 (fun _ => newR 8 8) (fun _ => 0) 0 (-1) := by
  obtain ⟨u1, e1, t1, ⟨v1, y1⟩, f1⟩ := NW_go (ci := 6) (sz := 9) hn (by omega)
  have v1 : u1 1 (-1) = 7 := v1
  have t1 : At D u1 2 (c + 1) (s + 9) := t1
  obtain ⟨u2, e2, ⟨hS, ⟨p1, p2, p4, p5, p6⟩, ps, pt, ⟨p46, p47⟩, pq⟩, t2, fn⟩ := init6_rt t1 v1
  obtain ⟨q0, q1, q2, q3⟩ := t2
  obtain ⟨r0, r1, r2, r3⟩ := hn
  have h0 : okRow (newR 8 8) := newR_ok (by omega) (by omega) (by omega) (by omega)
  have hT : Sht u2 0 (newR 8 8) := newR_sht (by
    have e : (25 : Int) + 8 * 0 = 25 := by decide
    rw [e]
    exact ps) (by omega) (by omega) (by omega) (by omega) (fun k k0 k1 => by
    have e : (27 : Int) + 8 * 0 = 27 := by decide
    rw [e]
    exact (pt k k0).1) (fun k k0 k1 => by
    have e : (28 : Int) + 8 * 0 = 28 := by decide
    rw [e]
    exact (pt k k0).2)
  refine ⟨u1, u2, e1, v1, e2, ⟨fun z k hz => by rw [fn z k hz, f1 z k (by omega) (by omega)], by rw [q3, r3]⟩, ⟨by omega, by omega⟩, ?_⟩
  refine ⟨⟨hS, by omega, ⟨p4, p6, p5⟩, by omega, fun j j0 j1 => ⟨h0, ?_⟩, by omega⟩, ⟨by omega, ⟨p1, p2, by unfold i32; omega⟩, fun k k0 k1 => by omega⟩, ⟨Or.inl p46, Or.inl p47⟩, fun q => by omega, fun q => by omega, fun p p0 p1 => Or.inl (pq p p0 p1)⟩
  have e : ((0 : Int) - j) % 10 = 0 := by omega
  rw [e]
  exact hT
theorem end_0 (hC : Core sc n b (Rtt T w h L dig A B S many) c s l μ) (hX : Ptx l w h lim dig A B S many) (hw : 1 ≤ w ∧ w ≤ 8) (hh : 1 ≤ h ∧ h ≤ 6) (hl : 1 ≤ lim ∧ lim ≤ 4) (hm : 1 ≤ many ∧ many ≤ 3) (hd : ∀ x y, 0 ≤ dig x y ∧ dig x y ≤ 9) (hA : A = fun k => Trn sc n k / 4) (hB : B = fun k => Trn sc n k % 4) (hS : S = Shp sc n) : ∃ ν, EN0 (-21) w h many lim b T L μ = some (0, 1, ν) ∧ ν 0 1 ≤ c + 2000 ∧ ν 0 2 ≤ s + 300000 := by
  obtain ⟨hF, h00, ⟨c1, c2⟩, ⟨v, cp, hSb⟩, hT, e, cap, ids, hAl, hlen, hSc, hds⟩ := id hC
  have hS3 := shp_le hS
  have hyw := mul_le_of (a := h) (b := w + 1) (c := 6) (d := 9) (by omega) (by omega) (by omega) (by omega)
  have hpl := Pos_ge (S := S) (p0 := 26 + h * (w + 1)) (k := many) hS3 (by omega)
  obtain ⟨x1, x2, x3, x4, x5⟩ := hX
  obtain ⟨u1, u2, e1, k1, e2, N2, ⟨d1, d2⟩, I2⟩ := comp_start (μ := μ) (D := μ 0 3) (c := μ 0 1) (s := μ 0 2) ⟨h00, rfl, rfl, rfl⟩
  have F2 := hF.nf N2
  have h3 : u2 0 3 < -21 := F2.2.2.2.2
  have hSb2 := hSb.ng N2
  obtain ⟨u3, y, e3, S3, y3, f3⟩ := sbStr_rt hSb2 (by have := I2.1.2.2.2.2.2; omega) (by omega)
  have F3 := F2.fl f3 (fun z w => w.elim)
  have I3 := f3.ci I2 (by omega) (fun z w => w.elim)
  obtain ⟨u4, r, tx', e4, I4, R4, f4⟩ := lread_rt (Pos := Pos S (26 + h * (w + 1))) I3 S3 F3.2.2.2.2 x2 ⟨hw.1, by omega⟩ ⟨hh.1, by omega⟩ hl x3 hd x4 ⟨hm.1, by omega⟩ x5 (fun k k0 k1 => by
    have ht := trn_le (sc := sc) (n := n) (k := k)
    have := hS3 k
    have eA : A k = Trn sc n k / 4 := by rw [hA]
    have eB : B k = Trn sc n k % 4 := by rw [hB]
    rw [eA, eB]
    omega) (fun k k0 k1 => ⟨Pos_s k0, by
    have hmn := Pos_mono (S := S) (p0 := 26 + h * (w + 1)) (i := k + 1) hS3 (by omega) (many - (k + 1)).toNat
    rw [show k + 1 + (((many - (k + 1)).toNat : Nat) : Int) = many by omega] at hmn
    omega⟩) rfl x1.symm
  have F4 := F3.fn f4 (fun z w => w.elim)
  obtain ⟨⟨r0, r1, r3, r2⟩, rt, rp⟩ := id R4
  have hr := I4.1.cur.1
  have M4 : Mtc u4 (fun z => z = L ∨ z = e) (push r (fun _ => newR 8 8) 0) L e cap ids T := by
    rw [push_0]
    refine ⟨((hAl.ng N2).fr f3 id id).fn f4 id id, by rw [r2]; exact hlen, fun p p0 p1 => ?_, ?_, fun p p0 p1 => ?_⟩
    · rw [r2] at p1
      obtain ⟨⟨q7, q8, q9⟩, ⟨q10, q11, q13⟩, -⟩ := rp p p0 p1
      rw [q7, q8, q9, q10, q11]
      exact (((hSc p p0 p1).ng N2).fr f3 (fun z w => w.elim) (fun z w => w.elim)).fn f4 (fun z w => w.elim) (fun z w => w.elim)
    · rw [r0, r1]
      exact ((((hT.ng N2).fr (by omega) f3 (fun z w => w.elim)).fn (by omega) f4 (fun z w => w.elim))).ext (fun x y a0 a1 b0 b1 => (rt x y a0 a1 b0 b1).symm)
    · rw [r2] at p1
      obtain ⟨-, ⟨-, -, q13⟩, q14, -⟩ := rp p p0 p1
      refine ⟨q13, fun x y a0 a1 b0 b1 => ?_⟩
      rw [r0] at a1
      rw [r1] at b1
      unfold wiped
      rw [q14 y b0 (by omega), bt_00 x a0 (by omega)]
      omega
  have P4 : Pcs sc n (uUp 0) (push r (fun _ => newR 8 8)) (c + 600) (s + 80000) u4 := by
    refine ⟨⟨_, _, _, _, I4⟩, F4, ?_, ?_⟩
    · have := f4.2.2.1
      have := f3.2.2.2.1
      omega
    · have := f4.2.2.2
      have := f3.2.2.2.2
      omega
  obtain ⟨u5, e5, P5, M5, N5⟩ := pc_printed P4 M4
  rw [push_0, r3] at e5
  obtain ⟨ν, e6, b1, b2⟩ := end_3 (lim := lim) (many := many) (w := w) (hh := h) P5 M5 (by rw [push_0]; exact r3) (by rw [push_0]; exact r2) (by rw [push_0]; exact r0) (by rw [push_0]; exact r1) hm.1 hds
  refine ⟨ν, ?_, by omega, by omega⟩
  rw [en0_ab e1 k1 e2, en1_ab hSb2.1.2.2.1 e3 e4, en2_ab rfl e5]
  exact e6
theorem mid_ab {k122 : Int → Int → Int → Int → Int → Int → Int → Int → Mem → Rz} {x0 : Int} {u1 u2 u3 : Mem} (k : μ b (-1) = 10 + 1) (e1 : FJ4_append_cf468 b 59 μ = RT b u1) (n1 : ∀ K, NWn 11 3 u1 K = K L u2) (k2 : u2 L (-1) = 11 + 1) (e2 : FJx4a65c_init_da8c8 L u2 = RT 0 u3) : BL_law_122 k122 x0 w h many lim b T h μ = LL_law_212 FU x0 w h many lim b T L 0 u3 := by
  unfold BL_law_122
  rw [if_pos (Int.le_refl _), KD_go k, e1, CLZ_rt, n1, KD_go k2, e2, CLZ_rt]
/-- from the text's rows on -/
theorem mid_law {k122 : Int → Int → Int → Int → Int → Int → Int → Int → Mem → Rz} (hC : Core sc n b (Rtn T w h dig h (-1)) c s l μ) (hX : Rtx l w h lim dig h (-1)) (hw : 1 ≤ w ∧ w ≤ 8) (hh : 1 ≤ h ∧ h ≤ 6) (hl : 1 ≤ lim ∧ lim ≤ 4) (hm : 1 ≤ many ∧ many ≤ 3) (hd : ∀ x y, 0 ≤ dig x y ∧ dig x y ≤ 9) : ∃ ν, BL_law_122 k122 (-21) w h many lim b T h μ = some (0, 1, ν) ∧ ν 0 1 ≤ c + 6000 ∧ ν 0 2 ≤ s + 1500000 := by
  have hyw := mul_le_of (a := h) (b := w + 1) (c := 6) (d := 9) (by omega) (by omega) (by omega) (by omega)
  have hlen := hX.1
  obtain ⟨u1, e1, C1⟩ := hC.ch (Rtn.st (by omega)) (z := 59) (by omega) (by omega)
  obtain ⟨F1, h001, ⟨c1, c2⟩, ⟨v, cp, S1⟩, g, T1, hg⟩ := C1
  obtain ⟨u2, e2, ⟨g1, g2⟩, g3, f2⟩ := NWn_go (ci := 11) (sz := 3) F1.2.2.2.2
  have h3 := F1.2.2.2.2
  have F2 := F1.fl f2 (fun z w => w.elim)
  obtain ⟨u3, e3, A3, f3⟩ := alInit_rt F2.1 (a := u1 0 3) (by omega) h3 g1 g2
  have fA : FrL 1 3 NoP u1 u3 := (f2.tr (Q := NoP) f3 (fun _ _ _ w => w) (fun z _ hz w => by omega)).le (by omega) (by omega) (fun _ _ _ w => w)
  have C3 : Core sc n b (Rtt T w h (u1 0 3) dig (fun k => Trn sc n k / 4) (fun k => Trn sc n k % 4) (Shp sc n) 0) (c + 2) (s + 605) (l ++ [59]) u3 := by
    refine ⟨F1.fl fA (fun z w => w.elim), by rw [fA.2.1]; exact h001, ⟨by have := fA.2.2.2.1; omega, by have := fA.2.2.2.2; omega⟩, ⟨v, cp, S1.fr fA id id⟩, (T1.fr (by omega) fA (fun z w => w.elim)).ext (fun x y a0 a1 b0 b1 => hg x y a0 a1 b0 (by omega)), -1, 0, [], A3, rfl, fun p p0 p1 => by omega, fun i j i0 ij jk => by omega⟩
  have X3 : Ptx (l ++ [59]) w h lim dig (fun k => Trn sc n k / 4) (fun k => Trn sc n k % 4) (Shp sc n) 0 := by
    obtain ⟨q1, q2, q3, -⟩ := hX
    refine ⟨?_, q2.ext (fun k k0 k1 => gt_l k0 (by omega)), q3.ext (by omega) (fun k k0 k1 => gt_l k0 (by omega)), ?_, fun p p0 p1 => by omega⟩
    · rw [len_s]
      show _ = 26 + h * (w + 1)
      omega
    · rw [show 25 + h * (w + 1) = l.length by omega]
      exact gt_e
  obtain ⟨u4, l4, kk, e4, C4, X4⟩ := plates_law (many := many) hw hh (by omega) rfl rfl rfl many.toNat FU 0 (c + 2) (s + 605) u3 (l ++ [59]) (by omega) (by rw [show FU = 20000 from rfl]; omega) (Int.le_refl _) C3 X3
  obtain ⟨ν, e5, b1, b2⟩ := end_0 C4 X4 hw hh hl hm hd rfl rfl rfl
  refine ⟨ν, ?_, by omega, by omega⟩
  rw [mid_ab hC.bk e1 e2 g1 e3, e4, law_cut, if_pos (Int.le_refl _)]
  exact e5
theorem hd_ab {x0 v z1 z2 z3 z4 p q x : Int} {u1 u2 u3 u4 u5 u6 u7 u8 u9 u10 u11 u12 u13 : Mem} (c1 : FL_cell x0 0 μ = RT v μ) (b1 : FL_bound v 8 μ = RT z1 μ) (w1 : w32 (1 + z1) = w) (b2 : FL_bound (bShr v 4) 6 μ = RT z2 μ) (w2 : w32 (1 + z2) = h) (b3 : FL_bound (bShr v 8) 3 μ = RT z3 μ) (w3 : w32 (1 + z3) = many) (b4 : FL_bound (bShr v 12) 4 μ = RT z4 μ) (w4 : w32 (1 + z4) = lim) (n1 : ∀ K, NWn 10 4 μ K = K p u1) (n2 : ∀ K, NWn 10 4 u1 K = K q u2) (k0 : u2 q (-1) = 10 + 1) (i1 : FJ4_init_da8c8 q u2 = RT 0 u3) (k1 : u3 q (-1) = 10 + 1) (a1 : FJ4_append_15ec4 q (-10) u3 = RT q u4) (k2 : u4 q (-1) = 10 + 1) (a2 : FJ4_append_bf812 q w u4 = RT q u5) (k3 : u5 q (-1) = 10 + 1) (a3 : FJ4_append_15ec4 q (-12) u5 = RT q u6) (k4 : u6 q (-1) = 10 + 1) (a4 : FJ4_append_bf812 q h u6 = RT q u7) (k5 : u7 q (-1) = 10 + 1) (a5 : FJ4_append_15ec4 q (-14) u7 = RT q u8) (k6 : u8 q (-1) = 10 + 1) (a6 : FJ4_append_bf812 q lim u8 = RT q u9) (k7 : u9 q (-1) = 10 + 1) (a7 : FJ4_append_15ec4 q (-16) u9 = RT q u10) (k8 : u10 q (-1) = 10 + 1) (a8 : FJ4_toString_0e30d q u10 = RT x u11) (k9 : u11 p (-1) = 10 + 1) (a9 : FJ4_init_a7421 p x u11 = RT 0 u12) (n3 : ∀ K, NMn h w u12 K = K T u13) : FL_law x0 μ = LL_law_122 FU x0 w h many lim p T 0 u13 := by
  unfold FL_law BL_law_0
  rw [c1, CLZ_rt, b1, CLZ_rt, LT_eq, w1, c1, CLZ_rt, b2, CLZ_rt, LT_eq, w2, c1, CLZ_rt, b3, CLZ_rt, LT_eq, w3, c1, CLZ_rt, b4, CLZ_rt, LT_eq, w4, n1, n2, KD_go k0, i1, CLZ_rt, KD_go k1, a1, CLZ_rt, KD_go k2, a2, CLZ_rt, KD_go k3, a3, CLZ_rt, KD_go k4, a4, CLZ_rt, KD_go k5, a5, CLZ_rt, KD_go k6, a6, CLZ_rt, KD_go k7, a7, CLZ_rt, KD_go k8, a8, CLZ_rt, KD_go k9, a9, CLZ_rt, n3]
/-- the other StringBuilder waits -/
def Raw (p : Int) (μ : Mem) : Prop := (p < -21 ∧ μ 0 3 < p ∧ μ p (-1) = 11) ∧ ∀ k, 0 ≤ k → μ p k = 0
theorem Raw.st {p : Int} (hpb : p ≠ b) : Stb b (Raw p) := fun μ ν P c s hr hb f hP => by
  obtain ⟨⟨a0, a1, a2⟩, a3⟩ := hr
  have hn : ¬ P p := fun w => by
    rcases hP p w with q | q
    · exact hpb q
    · omega
  exact ⟨⟨a0, by have := f.2.2.1; omega, by rw [f.kind (by omega) a1 (by omega)]; exact a2⟩, fun k k0 => by rw [f.1 _ _ (by omega) a1 (fun w => hn w.2)]; exact a3 k k0⟩
def hdB (w h lim : Int) : List Int := [] ++ fBytes 4 ++ [48 + w] ++ fBytes 5 ++ [48 + h] ++ fBytes 6 ++ [48 + lim] ++ fBytes 7
theorem hdB_of : ((hdB w h lim).length : Int) = 25 ∧ Hdr (gt (hdB w h lim)) w h lim := by
  refine ⟨rfl, fun j j0 j1 => ?_, rfl, rfl, rfl, rfl, rfl, fun j j0 j1 => ?_, rfl, rfl, rfl, fun j j0 j1 => ?_⟩
  · have h5 : j = 0 ∨ j = 1 ∨ j = 2 ∨ j = 3 ∨ j = 4 ∨ j = 5 ∨ j = 6 := by omega
    rcases h5 with u | u | u | u | u | u | u <;> subst u <;> rfl
  · have h5 : j = 0 ∨ j = 1 ∨ j = 2 ∨ j = 3 ∨ j = 4 := by omega
    rcases h5 with u | u | u | u | u <;> subst u <;> rfl
  · have h5 : j = 0 ∨ j = 1 ∨ j = 2 ∨ j = 3 ∨ j = 4 := by omega
    rcases h5 with u | u | u | u | u <;> subst u <;> rfl
theorem law_all (hF : Fx sc n μ) (h00 : μ 0 0 = 1) (c1 : μ 0 1 = 0) (c2 : μ 0 2 = 0) : ∃ ν, FL_law (-21) μ = some (0, 1, ν) ∧ ν 0 1 ≤ 10000 ∧ ν 0 2 ≤ 2000000 := by
  have h3 := hF.2.2.2.2
  have q1 := bnd_le (v := cel sc n 0) (m := 8) (by omega)
  have q2 := bnd_le (v := bShr (cel sc n 0) 4) (m := 6) (by omega)
  have q3 := bnd_le (v := bShr (cel sc n 0) 8) (m := 3) (by omega)
  have q4 := bnd_le (v := bShr (cel sc n 0) 12) (m := 4) (by omega)
  have hb1 := bound_rt (v := cel sc n 0) (m := 8) (μ := μ) (by omega)
  have hb2 := bound_rt (v := bShr (cel sc n 0) 4) (m := 6) (μ := μ) (by omega)
  have hb3 := bound_rt (v := bShr (cel sc n 0) 8) (m := 3) (μ := μ) (by omega)
  have hb4 := bound_rt (v := bShr (cel sc n 0) 12) (m := 4) (μ := μ) (by omega)
  have hc0 := cell_law (k := 0) hF (Int.le_refl _)
  generalize bnd (cel sc n 0) 8 = z1 at q1 hb1
  generalize bnd (bShr (cel sc n 0) 4) 6 = z2 at q2 hb2
  generalize bnd (bShr (cel sc n 0) 8) 3 = z3 at q3 hb3
  generalize bnd (bShr (cel sc n 0) 12) 4 = z4 at q4 hb4
  obtain ⟨u1, e1, ⟨g1, y1⟩, d1, f1⟩ := NWn_go (μ := μ) (ci := 10) (sz := 4) h3
  have F1 := hF.fl f1 (fun z w => w.elim)
  obtain ⟨u2, e2, ⟨g2, y2⟩, d2, f2⟩ := NWn_go (μ := u1) (ci := 10) (sz := 4) F1.2.2.2.2
  have F2 := F1.fl f2 (fun z w => w.elim)
  obtain ⟨u3, e3, S3, f3⟩ := sbInit_rt (μ := u2) (b := u1 0 3) (by omega) F1.2.2.2.2 g2 y2
  have hR : Stb (u1 0 3) (Raw (μ 0 3)) := Raw.st (by omega)
  have C3 : Core sc n (u1 0 3) (Raw (μ 0 3)) 3 24 [] u3 := by
    refine ⟨F2.fl f3 (fun z w => by omega), by rw [f3.2.1, f2.2.1, f1.2.1]; exact h00, ⟨by have := f3.2.2.2.1; have := f2.2.2.2.1; have := f1.2.2.2.1; omega, by have := f3.2.2.2.2; have := f2.2.2.2.2; have := f1.2.2.2.2; omega⟩, ⟨_, _, S3⟩, ⟨h3, by have := f3.2.2.1; have := f2.2.2.1; omega, ?_⟩, fun k k0 => ?_⟩
    · rw [f3.1 _ _ (by omega) (by omega) (fun w => by omega), f2.1 _ _ (by omega) (by omega) (fun w => w.2)]
      exact g1
    · rw [f3.1 _ _ (by omega) (by omega) (fun w => by omega), f2.1 _ _ (by omega) (by omega) (fun w => w.2)]
      exact y1 k k0
  obtain ⟨u4, e4, C4⟩ := C3.str hR 4 (by omega) (by decide)
  obtain ⟨u5, e5, C5⟩ := C4.dg hR (z := 1 + z1) (by omega) (show ((([] ++ fBytes 4 : List Int).length : Nat) : Int) + 1 ≤ 300 by decide)
  obtain ⟨u6, e6, C6⟩ := C5.str hR 5 (by omega) (by rw [len_s]; show (8 : Int) + 1 + 1 ≤ 300; omega)
  obtain ⟨u7, e7, C7⟩ := C6.dg hR (z := 1 + z2) (by omega) (by rw [ln_app, len_s]; show (8 : Int) + 1 + 1 + 1 ≤ 300; omega)
  obtain ⟨u8, e8, C8⟩ := C7.str hR 6 (by omega) (by rw [len_s, ln_app, len_s]; show (8 : Int) + 1 + 1 + 1 + 7 ≤ 300; omega)
  obtain ⟨u9, e9, C9⟩ := C8.dg hR (z := 1 + z4) (by omega) (by rw [ln_app, len_s, ln_app, len_s]; show (8 : Int) + 1 + 1 + 1 + 7 + 1 ≤ 300; omega)
  obtain ⟨u10, e10, C10⟩ := C9.str hR 7 (by omega) (by rw [len_s, ln_app, len_s, ln_app, len_s]; show (8 : Int) + 1 + 1 + 1 + 7 + 1 + 6 ≤ 300; omega)
  have C10' : Core sc n (u1 0 3) (Raw (μ 0 3)) (3 + 1 + 1 + 1 + 1 + 1 + 1 + 1) (24 + 602 + 602 + 602 + 602 + 602 + 602 + 602) (hdB (1 + z1) (1 + z2) (1 + z4)) u10 := C10
  obtain ⟨hlen, hH⟩ := hdB_of (w := 1 + z1) (h := 1 + z2) (lim := 1 + z4)
  obtain ⟨F10, h010, ⟨r1, r2⟩, ⟨v, cp, S10⟩, R10⟩ := id C10'
  obtain ⟨u11, y, e11, S11, y11, f11⟩ := sbStr_rt S10 (by omega) (by omega)
  have F11 := F10.fl f11 (fun z w => w.elim)
  have R11 : Raw (μ 0 3) u11 := hR _ _ _ _ _ R10 S10.1.2.2.1 f11 (fun z w => w.elim)
  obtain ⟨u12, v12, cp12, e12, S12, hv12, f12⟩ := sbOf_rt S11 (by omega) R11.1.2.1 R11.1.1 R11.1.2.2 R11.2
  have F12 := F11.fl f12 (fun z w => by omega)
  obtain ⟨u13, e13, T13, f13⟩ := NMn_go (h := 1 + z2) (w := 1 + z1) F12.2.2.2.2 (by omega) (by omega)
  have hzz := mul_le_of (a := 1 + z2) (b := 1 + z1) (c := 6) (d := 8) (by omega) (by omega) (by omega) (by omega)
  have C13 : Core sc n (μ 0 3) (Rtn (u12 0 3) (1 + z1) (1 + z2) (fun x y => dgt (cel sc n 1) x y) 0 (-1)) 30 7000 (hdB (1 + z1) (1 + z2) (1 + z4)) u13 := by
    refine ⟨F12.fl f13 (fun z w => w.elim), by rw [f13.2.1, f12.2.1, f11.2.1]; exact h010, ⟨by have := f13.2.2.2.1; have := f12.2.2.2.1; have := f11.2.2.2.1; omega, by have := f13.2.2.2.2; have := f12.2.2.2.2; have := f11.2.2.2.2; omega⟩, ⟨_, _, S12.fr f13 id id⟩, _, T13, fun x' y' a0 a1 b0 hxy => by omega⟩
  have X13 : Rtx (hdB (1 + z1) (1 + z2) (1 + z4)) (1 + z1) (1 + z2) (1 + z4) (fun x y => dgt (cel sc n 1) x y) 0 (-1) := ⟨by rw [hlen, Int.zero_mul]; omega, hH, fun y y0 y1 => by omega, fun q => by omega, fun x' a0 a1 => by omega⟩
  obtain ⟨u14, l14, kk, e14, C14, X14⟩ := rows_go (many := 1 + z3) (by omega) (by omega) (fun x y => rfl) (1 + z2).toNat FU 0 30 7000 u13 _ (by omega) (by rw [show FU = 20000 from rfl]; omega) (Int.le_refl _) C13 X13
  obtain ⟨ν, e15, b1, b2⟩ := mid_law (k122 := kk) (many := 1 + z3) C14 X14 (by omega) (by omega) (by omega) (by omega) (fun x y => dgt_le)
  refine ⟨ν, ?_, by omega, by omega⟩
  rw [hd_ab hc0 hb1 (w32_eq (by omega) (by omega)) hb2 (w32_eq (by omega) (by omega)) hb3 (w32_eq (by omega) (by omega)) hb4 (w32_eq (by omega) (by omega)) e1 e2 g2 e3 C3.bk e4 C4.bk e5 C5.bk e6 C6.bk e7 C7.bk e8 C8.bk e9 C9.bk e10 C10'.bk e11 R11.1.2.2 e12 e13, e14]
  exact e15
end WHL
