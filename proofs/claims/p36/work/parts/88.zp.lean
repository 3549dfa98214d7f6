section
variable {n : Nat → Int32} {g : Nat → Nat → Int32} {T : Z2.Tr}
theorem Z2.upd_same (l : Nat → Int32) (i : Nat) (x : Int32) : upd l i x i = x := if_pos rfl
theorem Z2.upd_ne (l : Nat → Int32) {i j : Nat} (x : Int32) (h : j ≠ i) : upd l i x j = l j := if_neg h
theorem Z2.at0 (q : Nat) : (400 : Int32) * 0 + zI q = zI q := by
  have := at_eq 0 q
  rw [Nat.mul_zero, Nat.zero_add] at this; exact this
/-- what a call of the reference that changes pages leaves -/
def Z2.Kp (n n' : Nat → Int32) (g g' : Nat → Nat → Int32) : Prop := (∀ k, k ≠ 6 → k ≠ 7 → k ≠ 8 → k ≠ 13 → n' k = n k) ∧ (∀ k, k ≠ 14 → k ≠ 15 → k ≠ 16 → k ≠ 17 → g' k = g k)
theorem Z2.Kp.refl (n : Nat → Int32) (g : Nat → Nat → Int32) : Kp n n g g := ⟨fun _ _ _ _ _ => rfl, fun _ _ _ _ _ => rfl⟩
theorem Z2.Kp.trans {n n' n'' : Nat → Int32} {g g' g'' : Nat → Nat → Int32} (h : Kp n n' g g') (k : Kp n' n'' g' g'') : Kp n n'' g g'' := ⟨fun x a b c d => (k.1 x a b c d).trans (h.1 x a b c d), fun x a b c d => (k.2 x a b c d).trans (h.2 x a b c d)⟩
/-- the counters -/
def Z2.CT (n : Nat → Int32) (T : Tr) : Prop := n 6 = zI T.c0 ∧ n 7 = zI T.c1 ∧ n 8 = zI T.c2
end
