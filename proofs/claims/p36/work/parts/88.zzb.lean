def Z2.cuDel (cu : Nat → Option Nat) (pos : Nat) : Nat → Option Nat := fun i => match cu i with | none => none | some j => some (if j ≤ pos then j else j - 1)
def Z2.cuIns (cu : Nat → Option Nat) (pos : Nat) : Nat → Option Nat := fun i => match cu i with | none => none | some j => some (if j < pos then j else j + 1)
def Z2.Tr.remN : Nat → Tr → Nat → Tr
  | 0, T, _ => T
  | k + 1, T, p => (Tr.remN k T p).remove p
def Z2.cuDelN : Nat → (Nat → Option Nat) → Nat → (Nat → Option Nat)
  | 0, cu, _ => cu
  | k + 1, cu, p => cuDel (cuDelN k cu p) p
theorem Z2.cuDel_le {cu : Nat → Option Nat} {N pos : Nat} (hb : ∀ i j, i < 4 → cu i = some j → j ≤ N) (hp : pos < N) : ∀ i j, i < 4 → cuDel cu pos i = some j → j ≤ N - 1 := fun i j hi h => by
  have a := fun j => hb i j hi
  unfold cuDel at h
  generalize cu i = c at *
  cases c with
  | none => cases h
  | some q =>
    have := a q rfl
    have h : some (if q ≤ pos then q else q - 1) = some j := h
    injection h with h
    by_cases y : q ≤ pos
    · rw [if_pos y] at h; omega
    · rw [if_neg y] at h; omega
theorem Z2.cuIns_le {cu : Nat → Option Nat} {N pos : Nat} (hb : ∀ i j, i < 4 → cu i = some j → j ≤ N) : ∀ i j, i < 4 → cuIns cu pos i = some j → j ≤ N + 1 := fun i j hi h => by
  have a := fun j => hb i j hi
  unfold cuIns at h
  generalize cu i = c at *
  cases c with
  | none => cases h
  | some q =>
    have := a q rfl
    have h : some (if q < pos then q else q + 1) = some j := h
    injection h with h
    by_cases y : q < pos
    · rw [if_pos y] at h; omega
    · rw [if_neg y] at h; omega
theorem Z2.CuR.del {g g' : Nat → Nat → Int32} {cu : Nat → Option Nat} {N pos : Nat} (C : CuR g cu) (hN : N ≤ 300) (hb : ∀ i j, i < 4 → cu i = some j → j ≤ N) (hp : pos < 1000) (h : ∀ i, i < 4 → g' 18 i = if g 18 i ≤ zI pos then g 18 i else g 18 i - 1) : CuR g' (cuDel cu pos) := fun i hi => by
  rw [h i hi, C i hi]
  have a := fun j => hb i j hi
  unfold cuDel
  generalize cu i = c at *
  cases c with
  | none =>
    have : (-2 : Int32) ≤ zI pos := by rw [Int32.le_iff_toInt_le, zI_toInt (by omega)]; have e1 : (-2 : Int32).toInt = -2 := rfl; omega
    exact if_pos this
  | some q =>
    have := a q rfl
    show (if zI q ≤ zI pos then zI q else zI q - 1) = zI (if q ≤ pos then q else q - 1)
    by_cases y : q ≤ pos
    · rw [if_pos y, if_pos ((zI_le (by omega) (by omega)).mpr y)]
    · rw [if_neg y, if_neg (fun z => y ((zI_le (by omega) (by omega)).mp z))]
      exact zI_sub (show 1 ≤ q by omega)
theorem Z2.CuR.ins {g g' : Nat → Nat → Int32} {cu : Nat → Option Nat} {N pos : Nat} (C : CuR g cu) (hN : N ≤ 300) (hb : ∀ i j, i < 4 → cu i = some j → j ≤ N) (hp : pos < 1000) (h : ∀ i, i < 4 → g' 18 i = if g 18 i < zI pos then g 18 i else g 18 i + 1) : CuR g' (cuIns cu pos) := fun i hi => by
  rw [h i hi, C i hi]
  have a := fun j => hb i j hi
  unfold cuIns
  generalize cu i = c at *
  cases c with
  | none =>
    have : (-2 : Int32) < zI pos := by rw [Int32.lt_iff_toInt_lt, zI_toInt (by omega)]; have e1 : (-2 : Int32).toInt = -2 := rfl; omega
    exact if_pos this
  | some q =>
    have := a q rfl
    show (if zI q < zI pos then zI q else zI q + 1) = zI (if q < pos then q else q + 1)
    by_cases y : q < pos
    · rw [if_pos y, if_pos ((zI_lt (by omega) (by omega)).mpr y)]
    · rw [if_neg y, if_neg (fun z => y ((zI_lt (by omega) (by omega)).mp z))]
      exact zI_add q 1
theorem Z2.BT.remove {T : Tr} (B : BT T) {pos : Nat} (hp : pos < T.n) : BT (T.remove pos) ∧ (T.remove pos).n = T.n - 1 ∧ (T.remove pos).ks = del T.ks pos ∧ (T.remove pos).vs = del T.vs pos ∧ (T.remove pos).cap = T.cap ∧ (T.remove pos).m 0 ≤ T.m 0 := by
  obtain ⟨a, b, c, d⟩ := Tr.remove_spec B.im hp
  have m4 := B.m4
  have h12 := B.h12
  exact ⟨BT.mk a (by omega) (by omega), b.n, b.ks, b.vs, b.cap, c⟩
theorem Z2.BT.remN {T : Tr} (B : BT T) {p : Nat} : ∀ k, k + p ≤ T.n → BT (Tr.remN k T p) ∧ (Tr.remN k T p).n = T.n - k ∧ (∀ i, (Tr.remN k T p).ks i = if i < p then T.ks i else T.ks (i + k)) ∧ (∀ i, (Tr.remN k T p).vs i = if i < p then T.vs i else T.vs (i + k)) ∧ (Tr.remN k T p).cap = T.cap ∧ (Tr.remN k T p).m 0 ≤ T.m 0 := by
  intro k
  induction k with
  | zero => intro _; exact ⟨B, rfl, fun i => by split <;> rfl, fun i => by split <;> rfl, rfl, Nat.le_refl _⟩
  | succ k ih =>
    intro hk
    obtain ⟨a1, a2, a3, a4, a5, a6⟩ := ih (by omega)
    obtain ⟨b1, b2, b3, b4, b5, b6⟩ := a1.remove (pos := p) (by rw [a2]; omega)
    refine ⟨b1, ?_, fun i => ?_, fun i => ?_, b5.trans a5, Nat.le_trans b6 a6⟩
    · show ((Tr.remN k T p).remove p).n = _
      rw [b2, a2]; omega
    · show ((Tr.remN k T p).remove p).ks i = _
      rw [b3]
      by_cases y : i < p
      · rw [del_lt _ y, a3, if_pos y, if_pos y]
      · rw [del_ge _ (by omega), a3, if_neg (by omega), if_neg y, show i + 1 + k = i + (k + 1) by omega]
    · show ((Tr.remN k T p).remove p).vs i = _
      rw [b4]
      by_cases y : i < p
      · rw [del_lt _ y, a4, if_pos y, if_pos y]
      · rw [del_ge _ (by omega), a4, if_neg (by omega), if_neg y, show i + 1 + k = i + (k + 1) by omega]
theorem Z2.cuDelN_le {cu : Nat → Option Nat} {N p : Nat} (hb : ∀ i j, i < 4 → cu i = some j → j ≤ N) : ∀ k, k + p ≤ N → ∀ i j, i < 4 → cuDelN k cu p i = some j → j ≤ N - k := by
  intro k
  induction k with
  | zero => intro _; exact hb
  | succ k ih =>
    intro hk i j hi h
    have := cuDel_le (N := N - k) (pos := p) (ih (by omega)) (by omega) i j hi h
    omega
section
variable {n : Nat → Int32} {g : Nat → Nat → Int32} {T : Z2.Tr} {cu : Nat → Option Nat} {ky bd : Z2.Key}
end
