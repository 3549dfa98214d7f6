/-! the model's world: m the object, ad k the array of its field k, n its numbers, g its arrays -/
def mAI : List Nat := [2, 4, 10, 11, 12, 14, 15, 16, 17, 18, 20, 21, 22, 27, 28, 29, 30, 31, 32, 33]
def mlen (k : Nat) : Nat := match k with
  | 2 => 12
  | 4 => 12
  | 10 => 300
  | 11 => 3600
  | 12 => 300
  | 14 => 12
  | 15 => 4800
  | 16 => 400
  | 17 => 4800
  | 18 => 4
  | 20 => 300
  | 21 => 3600
  | 22 => 300
  | 27 => 300
  | 28 => 3600
  | 29 => 300
  | 30 => 12
  | 31 => 4800
  | 32 => 400
  | 33 => 4800
  | _ => 0
def mfs (ad : Nat → Nat) (n : Nat → Int32) : List Value := [.int (n 0), .int (n 1), .ref (ad 2), .int (n 3), .ref (ad 4), .int (n 5), .int (n 6), .int (n 7), .int (n 8), .int (n 9), .ref (ad 10), .ref (ad 11), .ref (ad 12), .int (n 13), .ref (ad 14), .ref (ad 15), .ref (ad 16), .ref (ad 17), .ref (ad 18), .int (n 19), .ref (ad 20), .ref (ad 21), .ref (ad 22), .int (n 23), .int (n 24), .int (n 25), .int (n 26), .ref (ad 27), .ref (ad 28), .ref (ad 29), .ref (ad 30), .ref (ad 31), .ref (ad 32), .ref (ad 33)]
def mf (m : Nat) (ad : Nat → Nat) (n : Nat → Int32) (g : Nat → Nat → Int32) : FT := fun a => if a = m then some (.inr (12, mfs ad n)) else match mAI.find? (fun k => ad k == a) with
  | some k => some (.inl (1, mlen k, .inl (g k)))
  | none => none
def MAd (m : Nat) (ad : Nat → Nat) : Prop := (∀ i, i ∈ mAI → ∀ j, j ∈ mAI → ad i = ad j → i = j) ∧ ∀ i, i ∈ mAI → ad i ≠ m
def mup (g : Nat → Nat → Int32) (k i : Nat) (x : Int32) : Nat → Nat → Int32 := fun j => if j = k then upd (g k) i x else g j
theorem mf_obj {m : Nat} {ad : Nat → Nat} {n : Nat → Int32} {g : Nat → Nat → Int32} : mf m ad n g m = some (.inr (12, mfs ad n)) := by simp [mf]
theorem mf_find {m : Nat} {ad : Nat → Nat} (had : MAd m ad) (k : Nat) (hk : k ∈ mAI) : mAI.find? (fun j => ad j == ad k) = some k := by
  cases h : mAI.find? (fun j => ad j == ad k) with
  | none =>
    have h1 := List.find?_eq_none.mp h k hk
    simp at h1
  | some j =>
    have h1 := List.find?_some h
    have h2 := List.mem_of_find?_eq_some h
    have h3 : ad j = ad k := by simpa using h1
    rw [had.1 j h2 k hk h3]
theorem mf_arr {m : Nat} {ad : Nat → Nat} (had : MAd m ad) {n : Nat → Int32} {g : Nat → Nat → Int32} (k : Nat) (hk : k ∈ mAI) : mf m ad n g (ad k) = some (.inl (1, mlen k, .inl (g k))) := by
  unfold mf
  rw [if_neg (had.2 k hk), mf_find had k hk]
theorem mf_put {m : Nat} {ad : Nat → Nat} {n : Nat → Int32} {g : Nat → Nat → Int32} (k : Nat) (v : Int32) (h : (mfs ad n).set k (.int v) = mfs ad (upd n k v)) : fup (mf m ad n g) m (.inr (12, (mfs ad n).set k (.int v))) = mf m ad (upd n k v) g := by
  funext a
  by_cases ha : a = m
  · subst ha
    rw [fup_self, mf_obj, h]
  · rw [fup_ne _ _ ha]
    simp only [mf, if_neg ha]
theorem mf_st {m : Nat} {ad : Nat → Nat} (had : MAd m ad) {n : Nat → Int32} {g : Nat → Nat → Int32} (k : Nat) (hk : k ∈ mAI) {i : Nat} {x : Int32} : fup (mf m ad n g) (ad k) (.inl (1, mlen k, .inl (upd (g k) i x))) = mf m ad n (mup g k i x) := by
  funext a
  by_cases ha : a = ad k
  · subst ha
    rw [fup_self, mf_arr had k hk]
    simp [mup]
  · rw [fup_ne _ _ ha]
    unfold mf
    by_cases hm : a = m
    · rw [if_pos hm, if_pos hm]
    · rw [if_neg hm, if_neg hm]
      cases h : mAI.find? (fun j => ad j == a) with
      | none => rfl
      | some j =>
        have h1 := List.find?_some h
        have h3 : ad j = a := by simpa using h1
        have hj : j ≠ k := fun z => ha (by rw [← h3, z])
        simp [mup, hj]
