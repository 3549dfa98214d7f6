section
variable {n : Nat → Int32} {g : Nat → Nat → Int32} {T : Z2.Tr}
/-- every leaf's place holds some key -/
theorem Z2.SP.total {ns : Nat} {S : Nat → Key} (H : SP g ns S) (hv : ∀ i, i < ns → (S i).length ≤ 12) : ∃ S2 : Nat → Key, SP g 400 S2 ∧ (∀ i, i < ns → S2 i = S i) ∧ ∀ i, i < 400 → (S2 i).length ≤ 12 := by
  obtain ⟨h1, h2, h3⟩ := H
  refine ⟨fun i => if i < ns then S i else (List.range (g 16 i).toNatClampNeg).map (fun j => g 17 (12 * i + j)), ⟨fun i hi => ?_, fun i hi => ?_, h3⟩, fun i hi => if_pos hi, fun i hi => ?_⟩
  · dsimp only [Tr.mk_cap, Tr.mk_n, Tr.mk_ks, Tr.mk_vs, Tr.mk_h, Tr.mk_m, Tr.mk_E, Tr.mk_S, Tr.mk_c0, Tr.mk_c1, Tr.mk_c2]
    by_cases z : i < ns
    · rw [if_pos z]; exact h1 i z
    · rw [if_neg z, List.length_map, List.length_range]
      obtain ⟨q, q1, q2⟩ := h3 i hi
      rw [q2, zI_clamp (by omega)]
  · dsimp only [Tr.mk_cap, Tr.mk_n, Tr.mk_ks, Tr.mk_vs, Tr.mk_h, Tr.mk_m, Tr.mk_E, Tr.mk_S, Tr.mk_c0, Tr.mk_c1, Tr.mk_c2]
    by_cases z : i < ns
    · rw [if_pos z]; exact h2 i z
    · rw [if_neg z]
      intro j hj
      rw [List.length_map, List.length_range] at hj
      rw [List.getD_eq_getElem?_getD, List.getElem?_map, List.getElem?_range hj]
      rfl
  · dsimp only [Tr.mk_cap, Tr.mk_n, Tr.mk_ks, Tr.mk_vs, Tr.mk_h, Tr.mk_m, Tr.mk_E, Tr.mk_S, Tr.mk_c0, Tr.mk_c1, Tr.mk_c2]
    by_cases z : i < ns
    · rw [if_pos z]; exact hv i z
    · rw [if_neg z, List.length_map, List.length_range]
      obtain ⟨q, q1, q2⟩ := h3 i hi
      rw [q2, zI_clamp (by omega)]; exact q1
theorem Z2.SP.congr {ns ns' : Nat} {S S' : Nat → Key} (H : SP g ns S) (hn : ns' ≤ ns) (h : ∀ i, i < ns' → S i = S' i) : SP g ns' S' := by
  obtain ⟨h1, h2, h3⟩ := H
  refine ⟨fun i hi => ?_, fun i hi => ?_, h3⟩
  · rw [← h i hi]; exact h1 i (by omega)
  · rw [← h i hi]; exact h2 i (by omega)
theorem Z2.SP.same {g' : Nat → Nat → Int32} {ns : Nat} {S : Nat → Key} (H : SP g ns S) (h6 : g' 16 = g 16) (h7 : g' 17 = g 17) : SP g' ns S := by
  obtain ⟨h1, h2, h3⟩ := H
  refine ⟨fun i hi => by rw [h6]; exact h1 i hi, fun i hi j hj => by rw [h7]; exact h2 i hi j hj, fun i hi => by rw [h6]; exact h3 i hi⟩
/-- S with the places from p + 1 on to m shifted by one -/
def Z2.shS (S : Nat → Key) (m p : Nat) : Nat → Key := fun i => if p < i ∧ i ≤ m then S (i - 1) else S i
theorem Z2.shS_step (S : Nat → Key) {m p : Nat} (hp : p + 1 ≤ m) : ∀ i, stt (shS S m (p + 1)) (p + 1) (S p) i = shS S m p i := fun i => by
  unfold stt shS
  by_cases z : i = p + 1
  · rw [if_pos z, if_pos (by omega), z, Nat.add_sub_cancel]
  · rw [if_neg z]
    by_cases y : p + 1 < i ∧ i ≤ m
    · rw [if_pos y, if_pos (by omega)]
    · rw [if_neg y, if_neg (by omega)]
/-- what comes leaves of the rows of pages -/
def Z2.CoP (g g' : Nat → Nat → Int32) (t p m : Nat) (v : Int32) : Prop := g' 14 = upd (g 14) t (zI (m + 1)) ∧ (∀ q, q ≤ m → g' 15 (400 * t + q) = if q ≤ p then g 15 (400 * t + q) else if q = p + 1 then v else g 15 (400 * t + (q - 1))) ∧ (∀ x, ¬ (400 * t ≤ x ∧ x ≤ 400 * t + m) → g' 15 x = g 15 x) ∧ (∀ k, k ≠ 14 → k ≠ 15 → k ≠ 16 → k ≠ 17 → g' k = g k) ∧ (t ≠ 0 → g' 16 = g 16 ∧ g' 17 = g 17) ∧ (t = 0 → ∀ S : Nat → Key, SP g 400 S → (∀ i, i < 400 → (S i).length ≤ 12) → SP g' 400 (shS S m p))
/-- parts, but for what the page above gets -/
def Z2.PaP (g g' : Nat → Nat → Int32) (T : Tr) (t p c : Nat) : Prop := g' 14 = upd (g 14) t (zI (T.m t + 1)) ∧ (∀ q, q ≤ T.m t → g' 15 (400 * t + q) = zI (ins (T.E t) p c q - st (ins (T.E t) p c) q)) ∧ (∀ x, ¬ (400 * t ≤ x ∧ x ≤ 400 * t + T.m t) → g' 15 x = g 15 x) ∧ (∀ k, k ≠ 14 → k ≠ 15 → k ≠ 16 → k ≠ 17 → g' k = g k) ∧ SP g' ((if t = 0 then T.m 0 + 1 else T.m 0) - 1) (if t = 0 then ins T.S p (sp (T.ks (c - 1)) (T.ks c)) else T.S)
end
