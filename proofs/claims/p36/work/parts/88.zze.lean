/-- a byte of a long, counted from its end -/
def Z2.kbyte (w : Int64) (k : Nat) : Int32 := Int64.toInt32 ((lushr w ((8 : Int32) * zI k)) &&& (127 : Int64))
def Z2.kyOf (w : Int64) (c : Nat) : Key := (List.range c).map (fun j => kbyte w (c - 1 - j))
theorem Z2.kyOf_len (w : Int64) (c : Nat) : (kyOf w c).length = c := by unfold kyOf; rw [List.length_map, List.length_range]
theorem Z2.kyOf_get (w : Int64) (c : Nat) {j : Nat} (h : j < c) : (kyOf w c).getD j 0 = kbyte w (c - 1 - j) := by
  unfold kyOf
  rw [List.getD_eq_getElem?_getD, List.getElem?_map, List.getElem?_range h]
  rfl
section
variable {n : Nat → Int32} {g : Nat → Nat → Int32} {T : Z2.Tr} {ky : Z2.Key}
end
