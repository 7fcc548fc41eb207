/-! the statement plate, side by side: its end -/
section PLE
variable {μ ξ ν ζ : Mem} {L s s' g U1 U2 p q nm a b sh : Int} {tx : Int → Int}
/-- the reference's cells while a plate is read -/
def PF' (p : Int) (ξ ζ : Mem) : Prop := ∀ z k, ¬ ((z = 105 ∧ (k = 14 ∨ k = 17 ∨ k = 18 ∨ k = 19 ∨ k = 20)) ∨ (z = 107 ∧ 196 + 1226 * p ≤ k ∧ k < 196 + 1226 * p + 1226)) → ζ z k = ξ z k
end PLE

