/-! the component's face: off, checksum -/
def offV (r : Row) (p b : Int) : Int := offO r p (b % (r 0 / rQ r p) * rQ r p) (b / (r 0 / rQ r p) * rQ r p)
def jn (s v : Int) : Int := w64 (w64 (31 * s) + v)
def cs1 (r : Row) : Nat → Int
  | 0 => 0
  | n + 1 => jn (cs1 r n) (stV r n)
def cs2 (r : Row) (s p : Int) : Nat → Int
  | 0 => s
  | n + 1 => jn (cs2 r s p n) (plV r p n)
def cs3 (r : Row) : Nat → Int
  | 0 => cs1 r 9
  | n + 1 => cs2 r (cs3 r n) n 11
def cs4 (r : Row) : Nat → Int
  | 0 => cs3 r (r 2).toNat
  | n + 1 => jn (jn (cs4 r n) (rT r ((n : Int) % r 0) ((n : Int) / r 0))) (ikA r ((n : Int) % r 0) ((n : Int) / r 0))
def csV (r : Row) : Int := cs4 r (r 1 * r 0).toNat
section SUM2
variable {μ : Mem} {c u fed fa : Int} {h : Int → Row} {tx : Int → Int}
/-- the block's place -/
theorem blk_at {r : Row} (hr : okRow r) {p b : Int} (hp : isPl r p) (b0 : 0 ≤ b) (b1 : b < blks r p) : 1 ≤ r 0 / rQ r p ∧ (0 ≤ b % (r 0 / rQ r p) * rQ r p ∧ b % (r 0 / rQ r p) * rQ r p + rQ r p ≤ r 0) ∧ (0 ≤ b / (r 0 / rQ r p) * rQ r p ∧ b / (r 0 / rQ r p) * rQ r p + rQ r p ≤ r 1) := by
  have hr1 := hr.1
  have hq := rQ_le (hr.2.2.2.2 p hp.1 hp.2)
  have hA : r 0 / rQ r p * rQ r p ≤ r 0 := Int.ediv_mul_le _ (by omega)
  have hB : r 1 / rQ r p * rQ r p ≤ r 1 := Int.ediv_mul_le _ (by omega)
  have hA0 : 0 ≤ r 0 / rQ r p := Int.ediv_nonneg (by omega) (by omega)
  have hB0 : 0 ≤ r 1 / rQ r p := Int.ediv_nonneg (by omega) (by omega)
  unfold blks at b1
  generalize r 0 / rQ r p = A at *
  generalize r 1 / rQ r p = B at *
  have hA1 : 1 ≤ A := by
    rcases Int.lt_or_le A 1 with q | q
    · have : A = 0 := by omega
      rw [this, Int.zero_mul] at b1
      omega
    · exact q
  have m0 := Int.emod_nonneg b (show A ≠ 0 by omega)
  have m1 := Int.emod_lt_of_pos b (show 0 < A by omega)
  have d0 : 0 ≤ b / A := Int.ediv_nonneg b0 (by omega)
  have d1 : b / A < B := Int.ediv_lt_of_lt_mul (by omega) (by rw [Int.mul_comm]; exact b1)
  have x1 : (b % A + 1) * rQ r p ≤ A * rQ r p := Int.mul_le_mul_of_nonneg_right (by omega) (by omega)
  have x2 : (b / A + 1) * rQ r p ≤ B * rQ r p := Int.mul_le_mul_of_nonneg_right (by omega) (by omega)
  rw [Int.add_mul, Int.one_mul] at x1 x2
  exact ⟨hA1, ⟨Int.mul_nonneg m0 (by omega), by omega⟩, Int.mul_nonneg d0 (by omega), by omega⟩
end SUM2

