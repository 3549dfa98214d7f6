theorem Z2.Tr.split_Et (T : Tr) {t p : Nat} (ht : t < T.h) : (T.split t p).E t = ins (T.E t) p (T.cutS t p) := by
  show stt (stt (T.rise t).E t (ins ((T.rise t).E t) p (T.cutS t p))) (t + 1) _ t = _
  rw [stt_ne _ _ (by omega), stt_same, T.rise_E ht]
theorem Z2.Tr.split_Eu (T : Tr) (t p : Nat) : (T.split t p).E (t + 1) = addF ((T.rise t).E (t + 1)) ((T.rise t).par t p) := stt_same _ _ _
theorem Z2.Tr.split_Ene (T : Tr) {t p u : Nat} (hu : u < T.h) (h1 : u ≠ t) (h2 : u ≠ t + 1) : (T.split t p).E u = T.E u := by
  show stt (stt (T.rise t).E t (ins ((T.rise t).E t) p (T.cutS t p))) (t + 1) _ u = _
  rw [stt_ne _ _ h2, stt_ne _ _ h1, T.rise_E hu]
theorem Z2.Tr.split_S (T : Tr) (t p : Nat) : (T.split t p).S = if t = 0 then ins T.S p (sp (T.ks (T.cutS t p - 1)) (T.ks (T.cutS t p))) else T.S := by
  show (if t = 0 then ins (T.rise t).S p (sp ((T.rise t).ks (T.cutS t p - 1)) ((T.rise t).ks (T.cutS t p))) else (T.rise t).S) = _
  rw [T.rise_S, T.rise_ks]
theorem Z2.Tr.split_c (T : Tr) (t p : Nat) : (T.split t p).c0 = T.c0 + 1 ∧ (T.split t p).c1 = T.c1 ∧ (T.split t p).c2 = T.c2 := by
  show (T.rise t).c0 + 1 = T.c0 + 1 ∧ (T.rise t).c1 = T.c1 ∧ (T.rise t).c2 = T.c2
  unfold Tr.rise
  split <;> exact ⟨rfl, rfl, rfl⟩
section
variable {n : Nat → Int32} {g : Nat → Nat → Int32} {T : Z2.Tr}
end
