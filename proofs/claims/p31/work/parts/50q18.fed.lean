/-! the whole text, fed and loaded -/
section FED
variable {μ ν ξ : Mem} {c u fed fa i x y k n w h lim many : Int} {hh : Int → Row} {tx : Int → Int} {l : List Int} {dig : Int → Int → Int} {A B S Pos : Int → Int}
theorem byt_le (hx : Str μ x y l) (k0 : 0 ≤ k) : 0 ≤ byt l k ∧ byt l k < 128 := by
  unfold byt
  by_cases e : k < l.length
  · rw [if_pos e]
    exact (hx.2.2.2 k k0 e).2
  · rw [if_neg e]
    omega
theorem byt_all (hx : Str μ x y l) (k : Int) : 0 ≤ byt l k ∧ byt l k < 128 := by
  by_cases k0 : 0 ≤ k
  · exact byt_le hx k0
  · by_cases e : k < l.length
    · have e2 : byt l k = gt l k := if_pos e
      have e3 : gt l k = gt l 0 := by
        unfold gt
        rw [show k.toNat = 0 by omega]
        rfl
      by_cases e4 : (0 : Int) < l.length
      · have := (hx.2.2.2 0 (Int.le_refl _) e4).2
        omega
      · have e5 : gt l 0 = 0 := by
          have : l = [] := List.length_eq_zero_iff.mp (by omega)
          rw [this]
          rfl
        omega
    · have e2 : byt l k = 32 := if_neg e
      omega
theorem feeds_go (hx0 : Str μ x y l) (h30 : μ 0 3 < -21) (hi0 : CIc μ c u hh tx 0 fa) : ∀ (m n : Nat) (i : Int) (σ : Mem) (tx' : Int → Int), (l.length : Int) - i ≤ 20 * m → m < n → 0 ≤ i → i ≤ l.length + 19 → i % 20 = 0 → CIc σ c u hh tx' i fa → (∀ k, 0 ≤ k → k < i → tx' k = byt l k) → FN i (151 * i) NoP μ σ → ∃ ν tx' fed', LL_feeds_4 n 1 x i i σ = RT fed' ν ∧ (0 ≤ fed' ∧ (l.length : Int) ≤ fed' ∧ fed' ≤ l.length + 19) ∧ CIc ν c u hh tx' fed' fa ∧ (∀ k, 0 ≤ k → k < fed' → tx' k = byt l k) ∧ FN fed' (151 * fed') NoP μ ν
  | m, 0, i, σ, tx', _, h2, _, _, _, _, _, _ => by omega
  | m, n + 1, i, σ, tx', h1, h2, i0, i1, i9, hI, ht, f => by
    obtain ⟨fh1, fh2⟩ := f.h
    have hx : Str σ x y l := by
      have a := hx0.fr fh1 id id
      obtain ⟨⟨a1, a2, a3, a4, a5⟩, ⟨b1, b2, b3, b4⟩, d, e⟩ := a
      have r : ∀ z k, z < 0 → σ z k = hyb μ σ z k := fh2.1
      have g := fh2.2
      exact ⟨⟨by omega, a2, by rw [r _ _ a2]; exact a3, by rw [r _ _ a2]; exact a4, by rw [r _ _ a2]; exact a5⟩, ⟨by omega, b2, by rw [r _ _ b2]; exact b3, by rw [r _ _ b2]; exact b4⟩, d, fun k k0 k1 => by rw [r _ _ b2]; exact e k k0 k1⟩
    have h3 : σ 0 3 < -21 := by have := f.2.1; omega
    have hL := hx.2.2.1
    by_cases q : (l.length : Int) ≤ i
    · refine ⟨σ, tx', i, ?_, ⟨i0, q, i1⟩, hI, ht, f⟩
      show BL_feeds_4 _ 1 x i i σ = _
      unfold BL_feeds_4
      rw [KD_go hx.1.2.2.1, slen_rt hx]
      simp only [CL, CLX_rt]
      rw [if_pos q]
    · obtain ⟨m, rfl⟩ : ∃ m', m = m' + 1 := ⟨m - 1, by omega⟩
      have hf := byt_all hx
      obtain ⟨σ1, e1, f1, g3, ⟨g1, g2⟩, gw⟩ := chunk_go (k4 := fun y0 y1 y2 y3 ν => LL_feeds_4 n y0 y1 y2 y3 ν) hx h3 hf i0 (by omega)
      have hI1 := f1.ci hI (by omega) (fun z w => w.elim)
      have hp : ∀ a, i32 (pv (byt l) a 4) := fun a => by
        have := pv_le (a := a) hf
        unfold i32
        omega
      obtain ⟨ν1, e2, hI2, f2⟩ := append_rt hI1 (hp i) (hp (i + 4)) (hp (i + 8)) (hp (i + 12)) (hp (i + 16)) (by omega)
      have ht2 : ∀ k, 0 ≤ k → k < i + 20 → put20 tx' i (pv (byt l) i 4) (pv (byt l) (i + 4) 4) (pv (byt l) (i + 8) 4) (pv (byt l) (i + 12) 4) (pv (byt l) (i + 16) 4) k = byt l k := fun k k0 k1 => by
        rw [put20_at hf]
        by_cases e : i ≤ k
        · rw [if_pos ⟨e, k1⟩]
        · rw [if_neg (by omega)]
          exact ht k k0 (by omega)
      have f3 : FN (i + 20) (151 * (i + 20)) NoP μ ν1 := ((f.tr (Q := NoP) f1.fn (fun _ _ _ e => e) (fun _ _ _ e => e)).tr (Q := NoP) f2.fn (fun _ _ _ e => e) (fun _ _ _ e => e)).le (by omega) (by omega) (fun _ _ _ e => e)
      have e3 : LL_feeds_4 (n + 1) 1 x i i σ = LL_feeds_4 n 1 x (i + 20) (i + 20) ν1 := by
        show BL_feeds_4 _ 1 x i i σ = _
        unfold BL_feeds_4
        rw [KD_go hx.1.2.2.1, slen_rt hx]
        simp only [CL, CLX_rt]
        rw [if_neg q]
        refine (e1 _).mpr ?_
        unfold BL_feeds_20
        rw [if_pos (by omega), AL_go (n := 5) g1 g2 (by omega) (by omega) (gw 0 (by omega) (by omega)), AL_go (n := 5) g1 g2 (by omega) (by omega) (gw 1 (by omega) (by omega)), AL_go (n := 5) g1 g2 (by omega) (by omega) (gw 2 (by omega) (by omega)), AL_go (n := 5) g1 g2 (by omega) (by omega) (gw 3 (by omega) (by omega)), AL_go (n := 5) g1 g2 (by omega) (by omega) (gw 4 (by omega) (by omega)), hI1.1.1.k6, show i + 4 * 0 = i by omega, show i + 4 * 1 = i + 4 by omega, show i + 4 * 2 = i + 8 by omega, show i + 4 * 3 = i + 12 by omega, show i + 4 * 4 = i + 16 by omega, e2]
        simp only [CL, CLX_rt]
        rw [w32_eq (by omega) (by omega)]
      obtain ⟨ν, tx2, fed', a1, a2, a3, a4, a5⟩ := feeds_go hx0 h30 hi0 m n (i + 20) ν1 _ (by omega) (by omega) (by omega) (by omega) (by omega) hI2 ht2 f3
      exact ⟨ν, tx2, fed', e3.trans a1, a2, a3, a4, a5⟩
theorem lread_rt (hI : CIc μ c u hh tx 0 fa) (hx : Str μ x y l) (h3 : μ 0 3 < -21) (hH : Hdr (gt l) w h lim) (hw : 1 ≤ w ∧ w ≤ 9) (hhh : 1 ≤ h ∧ h ≤ 9) (hlim : 1 ≤ lim ∧ lim ≤ 4) (hRw : Rws (gt l) w h dig) (hdig : ∀ x y, 0 ≤ dig x y ∧ dig x y ≤ 9) (hQ : gt l (25 + h * (w + 1)) = 59) (hm : 1 ≤ many ∧ many ≤ 4) (hP : ∀ k, 0 ≤ k → k < many → Plf (gt l) (Pos k) k (A k) (B k) (S k)) (hA : ∀ k, 0 ≤ k → k < many → (0 ≤ A k ∧ A k ≤ 3) ∧ (0 ≤ B k ∧ B k ≤ 3) ∧ 0 < A k + B k ∧ 0 ≤ S k ∧ S k ≤ 3) (hPos : ∀ k, 0 ≤ k → k < many → Pos (k + 1) = Pos k + 13 + strLen (9 + S k) ∧ Pos (k + 1) ≤ l.length) (hP0 : Pos 0 = 26 + h * (w + 1)) (hPL : Pos many = l.length) : ∃ η r tx', FL_read 1 x μ = RT many η ∧ CIc η ((c + 1) % 10) (uUp u) (push r hh) tx' 0 (-1) ∧ RowF r w h lim many dig A B S ∧ FN 400 60000 NoP μ η := by
  have hL := hx.2.2.1
  obtain ⟨ν1, tx1, fed', e1, ⟨q0, q1, q2⟩, hI1, ht1, f1⟩ := feeds_go hx h3 hI 20 FU 0 μ tx (by omega) (by rw [show FU = 20000 from rfl]; omega) (Int.le_refl _) (by omega) (by omega) hI (fun k k0 k1 => by omega) (FrL.rf.fn)
  have hg : ∀ k, 0 ≤ gt l k ∧ gt l k ≤ 255 := fun k => by
    by_cases e : k < l.length
    · have h9 := byt_all hx k
      have e2 : byt l k = gt l k := if_pos e
      omega
    · have e5 : gt l k = 0 := by
        unfold gt
        rw [List.getD_eq_getElem?_getD, List.getElem?_eq_none (by omega)]
        rfl
      omega
  have hS1 : CSh (mUp ν1 1 1 0) := hI1.1.1.up (by unfold CSt; omega)
  have c0 := hI1.1.2.1
  have hgm := Int.emod_nonneg (c + 1) (show (10 : Int) ≠ 0 by omega)
  have hgm1 := Int.emod_lt_of_pos (c + 1) (show (0 : Int) < 10 by omega)
  obtain ⟨ν2, r, e2, D2, F2⟩ := read_rt (μ := mUp ν1 1 1 0) (g := (c + 1) % 10) (L := l.length) (tx := gt l) hS1 hgm hgm1 (by rw [mUp_ne _ _ (by omega)]; exact hI1.1.2.2.2.2.2) (by omega) (fun k k0 k1 => by
    rw [mUp_ne _ _ (by omega), hI1.2.1.2.2 k k0 (by omega), ht1 k k0 (by omega)]
    congr 1
    exact if_pos k1) hg hH hw hhh hlim hRw hdig hQ hm hP hA hPos hP0 hPL
  obtain ⟨η, e3, hI3, f3⟩ := cload_ok (n := l.length) hI1 (by omega) e2 D2
  refine ⟨η, r, tx1, ?_, hI3, F2, ?_⟩
  · obtain ⟨fh1, fh2⟩ := f1.h
    have hx1 : Str ν1 x y l := by
      have a := hx.fr fh1 id id
      obtain ⟨⟨a1, a2, a3, a4, a5⟩, ⟨b1, b2, b3, b4⟩, d, e⟩ := a
      have r : ∀ z k, z < 0 → ν1 z k = hyb μ ν1 z k := fh2.1
      have g := fh2.2
      exact ⟨⟨by omega, a2, by rw [r _ _ a2]; exact a3, by rw [r _ _ a2]; exact a4, by rw [r _ _ a2]; exact a5⟩, ⟨by omega, b2, by rw [r _ _ b2]; exact b3, by rw [r _ _ b2]; exact b4⟩, d, fun k k0 k1 => by rw [r _ _ b2]; exact e k k0 k1⟩
    unfold FL_read BL_read_0 BL_read_21 FL_feeds BL_feeds_0
    rw [e1]
    simp only [CL, CLX_rt]
    rw [if_pos q0, KD_go hx1.1.2.2.1, slen_rt hx1]
    simp only [CLX_rt]
    rw [hI1.1.1.k6, e3]
    simp only [CLX_rt]
    rw [F2.1.2.2.2]
  · have f4 : FN 0 0 NoP ν1 η := by
      obtain ⟨-, -, -, -, -, hf⟩ := D2
      have r : ∀ z k, z ≤ 0 → η z k = ν1 z k := fun z k hz => by rw [f3 _ _ (by omega) (by omega), hf _ _ (by omega), mUp_ne _ _ (by omega)]
      exact ⟨fun z k hz _ _ => r z k (by omega), by rw [r _ _ (Int.le_refl _)]; exact Int.le_refl _, by rw [r _ _ (Int.le_refl _)]; omega, by rw [r _ _ (Int.le_refl _)]; omega⟩
    exact (f1.tr (Q := NoP) f4 (fun _ _ _ e => e) (fun _ _ _ e => e)).le (by omega) (by omega) (fun _ _ _ e => e)
end FED
