def Z2.EP (g : Nat → Nat → Int32) (i : Nat) (k : Key) (v : Int32) : Prop := g 10 i = zI k.length ∧ KA g 11 (12 * i) k ∧ g 12 i = v
def Z2.EntP (g g' : Nat → Nat → Int32) (to fr : Nat) : Prop := g' 10 = upd (g 10) to (g 10 fr) ∧ g' 12 = upd (g 12) to (g 12 fr) ∧ (∀ j, j < 12 → g' 11 (12 * to + j) = g 11 (12 * fr + j)) ∧ (∀ x, ¬ (12 * to ≤ x ∧ x < 12 * to + 12) → g' 11 x = g 11 x) ∧ ∀ k, k ≠ 10 → k ≠ 11 → k ≠ 12 → g' k = g k
theorem Z2.EntP.put {g g' : Nat → Nat → Int32} {to fr : Nat} (P : EntP g g' to fr) {k : Key} {v : Int32} (h : EP g fr k v) (hk : k.length ≤ 12) : EP g' to k v := by
  obtain ⟨p1, p2, p3, p4, p5⟩ := P
  obtain ⟨h1, h2, h3⟩ := h
  refine ⟨by rw [p1, upd_same]; exact h1, fun j hj => ?_, by rw [p2, upd_same]; exact h3⟩
  rw [p3 j (by omega)]; exact h2 j hj
theorem Z2.EntP.keep {g g' : Nat → Nat → Int32} {to fr i : Nat} (P : EntP g g' to fr) {k : Key} {v : Int32} (h : EP g i k v) (hk : k.length ≤ 12) (hi : i ≠ to) : EP g' i k v := by
  obtain ⟨p1, p2, p3, p4, p5⟩ := P
  obtain ⟨h1, h2, h3⟩ := h
  refine ⟨by rw [p1, upd_ne _ _ hi]; exact h1, fun j hj => ?_, by rw [p2, upd_ne _ _ hi]; exact h3⟩
  rw [p4 _ (by omega)]; exact h2 j hj
section
variable {n : Nat → Int32} {g : Nat → Nat → Int32} {T : Z2.Tr}
theorem Z2.MT.ep (M : MT n g T) {i : Nat} (hi : i < T.n) : EP g i (T.ks i) (T.vs i) := ⟨M.sz i hi, M.kb i hi, M.vs i hi⟩
/-- what put and the removals leave -/
def Z2.Kq (n n' : Nat → Int32) (g g' : Nat → Nat → Int32) : Prop := (∀ k, k ≠ 0 → k ≠ 6 → k ≠ 7 → k ≠ 8 → k ≠ 9 → k ≠ 13 → n' k = n k) ∧ (∀ k, k ≠ 10 → k ≠ 11 → k ≠ 12 → k ≠ 14 → k ≠ 15 → k ≠ 16 → k ≠ 17 → k ≠ 18 → g' k = g k)
end
