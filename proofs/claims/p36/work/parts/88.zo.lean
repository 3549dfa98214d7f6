section
variable {n : Nat → Int32} {g : Nat → Nat → Int32} {T : Z2.Tr}
theorem Z2.lf_first (T : Tr) (I : T.IM) {t q : Nat} (ht : t + 1 < T.h) (hq : q < T.m (t + 1)) : Tr.lf T.E (t + 1) q = Tr.lf T.E t (st (T.E (t + 1)) q) := by
  cases q with
  | zero => rfl
  | succ q =>
    rw [st_succ]
    exact Tr.lf_up T t q (by have := I.E_pos ht (i := q) (by omega); omega)
/-- what setting a separator leaves -/
def Z2.SetsP (g g' : Nat → Nat → Int32) (leaf k2 a c : Nat) : Prop := (∀ k, k ≠ 16 → k ≠ 17 → g' k = g k) ∧ g' 16 = upd (g 16) leaf (zI c) ∧ (∀ j, j < c → g' 17 (12 * leaf + j) = g k2 (a + j)) ∧ (∀ x, ¬ (12 * leaf ≤ x ∧ x < 12 * leaf + c) → g' 17 x = g 17 x)
/-- the reference with separators S for the first ns leaves -/
def Z2.SP (g : Nat → Nat → Int32) (ns : Nat) (S : Nat → Key) : Prop := (∀ i, i < ns → g 16 i = zI (S i).length) ∧ (∀ i, i < ns → KA g 17 (12 * i) (S i)) ∧ (∀ i, i < 400 → ∃ q, q ≤ 12 ∧ g 16 i = zI q)
theorem Z2.SetsP.sp {g' : Nat → Nat → Int32} {leaf k2 a c ns : Nat} {S : Nat → Key} {x : Key} (h : SetsP g g' leaf k2 a c) (H : SP g ns S) (hv : ∀ i, i < ns → (S i).length ≤ 12) (hc : c = x.length) (hc12 : c ≤ 12) (hx : KA g k2 a x) : SP g' ns (stt S leaf x) := by
  obtain ⟨p1, p2, p3, p4⟩ := h
  obtain ⟨h1, h2, h3⟩ := H
  refine ⟨fun i hi => ?_, fun i hi => ?_, fun i hi => ?_⟩
  · rw [p2]
    unfold upd stt
    by_cases z : i = leaf
    · rw [if_pos z, if_pos z, hc]
    · rw [if_neg z, if_neg z]; exact h1 i hi
  · unfold stt
    by_cases z : i = leaf
    · rw [if_pos z, z]
      intro j hj
      rw [p3 j (by omega)]; exact hx j hj
    · rw [if_neg z]
      intro j hj
      have := hv i hi
      rw [p4 _ (by omega)]; exact h2 i hi j hj
  · rw [p2]
    unfold upd
    by_cases z : i = leaf
    · rw [if_pos z]; exact ⟨c, hc12, rfl⟩
    · rw [if_neg z]; exact h3 i hi
theorem Z2.MT.sp (M : MT n g T) : SP g (T.m 0 - 1) T.S := ⟨fun i hi => M.ss i (by omega), fun i hi => M.sb i (by omega), M.jk⟩
/-- a tree whose pages or separators differ, by what changed -/
theorem Z2.MT.mk2 {n' : Nat → Int32} {g' : Nat → Nat → Int32} {U : Tr} (cap : n' 5 = zI U.cap) (cn : n' 9 = zI U.n) (ch : n' 13 = zI U.h) (sz : ∀ i, i < U.n → g' 10 i = zI (U.ks i).length) (kb : ∀ i, i < U.n → KA g' 11 (12 * i) (U.ks i)) (vs : ∀ i, i < U.n → g' 12 i = U.vs i) (m : ∀ t, t < U.h → g' 14 t = zI (U.m t)) (pt : ∀ t, t < U.h → ∀ q, q < U.m t → g' 15 (400 * t + q) = zI (U.E t q - st (U.E t) q)) (s : SP g' (U.m 0 - 1) U.S) : MT n' g' U :=
  ⟨cap, cn, ch, sz, kb, vs, m, pt, fun i hi => s.1 i (by omega), fun i hi => s.2.1 i (by omega), s.2.2⟩
end
