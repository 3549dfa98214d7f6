def Z2.cnt (p : Nat → Bool) : Nat → Nat
  | 0 => 0
  | k + 1 => cnt p k + (if p k = true then 1 else 0)
section
variable {n : Nat → Int32} {g : Nat → Nat → Int32} {T : Z2.Tr} {ky : Z2.Key}
end
