theorem Z2.at_eq (t q : Nat) : (400 : Int32) * zI t + zI q = zI (400 * t + q) := by rw [show (400 : Int32) * zI t = zI (400 * t) from zI_mul 400 t, zI_add]
theorem Z2.k12 (i : Nat) : (12 : Int32) * zI i = zI (12 * i) := zI_mul 12 i
theorem Z2.rd {g : Nat → Nat → Int32} {k i N : Nat} {P : Int32 → Prop} (hi : i < N) (hb : N ≤ 10000) (hP : P (g k i)) : vp_in (zI i) N ∧ ∀ v : Int32, v = g k (zI i).toNatClampNeg → P v := ⟨in_i hi (by omega), fun v e => by rw [e, zI_clamp (by omega)]; exact hP⟩
theorem Z2.st_succ (e : Nat → Nat) (q : Nat) : st e (q + 1) = e q := by unfold st; rw [if_neg (by omega), Nat.add_sub_cancel]
section
variable {n : Nat → Int32} {g : Nat → Nat → Int32} {T : Z2.Tr}
end
