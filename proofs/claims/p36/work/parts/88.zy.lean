section
variable {n : Nat → Int32} {g : Nat → Nat → Int32} {T : Z2.Tr}
/-- what waits in the reference -/
def Z2.WG (g : Nat → Nat → Int32) (w : Nat) (wk : Nat → Key) (wv : Nat → Int32) : Prop := (∀ i, i < w → g 20 i = zI (wk i).length) ∧ (∀ i, i < w → KA g 21 (12 * i) (wk i)) ∧ ∀ i, i < w → g 22 i = wv i
end
