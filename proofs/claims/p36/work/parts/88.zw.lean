section
variable {n : Nat → Int32} {g : Nat → Nat → Int32} {T : Z2.Tr}
/-- what lays leaves: c pages of tier t, ending at e -/
def Z2.LyP (g g' : Nat → Nat → Int32) (t c : Nat) (e : Nat → Nat) : Prop := g' 14 = upd (g 14) t (zI c) ∧ (∀ q, q < c → g' 15 (400 * t + q) = zI (e q - st e q)) ∧ (∀ x, ¬ (400 * t ≤ x ∧ x < 400 * t + 400) → g' 15 x = g 15 x) ∧ ∀ k, k ≠ 14 → k ≠ 15 → g' k = g k
end
