theorem Z2.st_subF (l : Nat → Nat) (a q : Nat) : st (subF l a) q = if a < q then st l q - 1 else st l q := by
  unfold st subF
  by_cases z : q = 0
  · rw [if_pos z, if_pos z, if_neg (by omega)]
  · rw [if_neg z, if_neg z]
    by_cases y : a ≤ q - 1
    · rw [if_pos y, if_pos (by omega)]
    · rw [if_neg y, if_neg (by omega)]
theorem Z2.st_del (l : Nat → Nat) (i q : Nat) : st (del l i) q = if q ≤ i then st l q else l q := by
  unfold st del
  by_cases z : q = 0
  · rw [if_pos z, if_pos z, if_pos (by omega)]
  · rw [if_neg z, if_neg z]
    by_cases y : q - 1 < i
    · rw [if_pos y, if_pos (by omega)]
    · rw [if_neg y, if_neg (by omega), show q - 1 + 1 = q by omega]
def Z2.shD (S : Nat → Key) (l y : Nat) : Nat → Key := fun i => if l ≤ i ∧ i < y then S (i + 1) else S i
theorem Z2.shD_step (S : Nat → Key) {l y : Nat} (hy : l ≤ y) : ∀ i, stt (shD S l y) y (S (y + 1)) i = shD S l (y + 1) i := fun i => by
  unfold stt shD
  by_cases z : i = y
  · rw [if_pos z, if_pos (by omega), z]
  · rw [if_neg z]
    by_cases w : l ≤ i ∧ i < y
    · rw [if_pos w, if_pos (by omega)]
    · rw [if_neg w, if_neg (by omega)]
section
variable {n : Nat → Int32} {g : Nat → Nat → Int32} {T : Z2.Tr}
/-- what joins leaves -/
def Z2.JoP (g g' : Nat → Nat → Int32) (t l m : Nat) : Prop := g' 14 = upd (g 14) t (zI (m - 1)) ∧ (∀ q, q + 1 < m → g' 15 (400 * t + q) = if q < l then g 15 (400 * t + q) else if q = l then g 15 (400 * t + l) + g 15 (400 * t + (l + 1)) else g 15 (400 * t + (q + 1))) ∧ (∀ x, ¬ (400 * t ≤ x ∧ x < 400 * t + m) → g' 15 x = g 15 x) ∧ (∀ k, k ≠ 14 → k ≠ 15 → k ≠ 16 → k ≠ 17 → g' k = g k) ∧ (t ≠ 0 → g' 16 = g 16 ∧ g' 17 = g 17) ∧ (t = 0 → ∀ S : Nat → Key, SP g 400 S → (∀ i, i < 400 → (S i).length ≤ 12) → SP g' 400 (shD S l (m - 1)))
end
