def Z2.cR (c : Option Nat) : Int32 := match c with | none => -2 | some j => zI j
def Z2.CuR (g : Nat → Nat → Int32) (cu : Nat → Option Nat) : Prop := ∀ i, i < 4 → g 18 i = cR (cu i)
theorem Z2.zI_ne_m2 {j : Nat} (h : j < 2147483648) : ¬ zI j = (-2 : Int32) := fun e => by
  have := congrArg Int32.toInt e
  rw [zI_toInt h] at this
  have e1 : (-2 : Int32).toInt = -2 := rfl
  omega
section
variable {n : Nat → Int32} {g : Nat → Nat → Int32} {T : Z2.Tr} {cu : Nat → Option Nat} {ky : Z2.Key}
end
