def Z2.fL : Nat → Nat := fun k => match k with | 0 => 5 | 1 => 9 | 2 => 10 | 3 => 11 | 4 => 12 | 5 => 13 | 6 => 14 | 7 => 15 | 8 => 16 | _ => 17
def Z2.fS : Nat → Nat := fun k => match k with | 0 => 24 | 1 => 25 | 2 => 27 | 3 => 28 | 4 => 29 | 5 => 26 | 6 => 30 | 7 => 31 | 8 => 32 | _ => 33
/-- a key's bytes from a place on -/
def Z2.KA (g : Nat → Nat → Int32) (k a : Nat) (x : Key) : Prop := ∀ i, i < x.length → g k (a + i) = x.getD i 0
abbrev Z2.MTf (F : Nat → Nat) (n : Nat → Int32) (g : Nat → Nat → Int32) (T : Tr) : Prop := (n (F 0) = zI T.cap) ∧ (n (F 1) = zI T.n) ∧ (n (F 5) = zI T.h) ∧ (∀ i, i < T.n → g (F 2) i = zI (T.ks i).length) ∧ (∀ i, i < T.n → KA g (F 3) (12 * i) (T.ks i)) ∧ (∀ i, i < T.n → g (F 4) i = T.vs i) ∧ (∀ t, t < T.h → g (F 6) t = zI (T.m t)) ∧ (∀ t, t < T.h → ∀ q, q < T.m t → g (F 7) (400 * t + q) = zI (T.E t q - st (T.E t) q)) ∧ (∀ i, i + 1 < T.m 0 → g (F 8) i = zI (T.S i).length) ∧ (∀ i, i + 1 < T.m 0 → KA g (F 9) (12 * i) (T.S i)) ∧ (∀ i, i < 400 → ∃ q, q ≤ 12 ∧ g (F 8) i = zI q)
theorem Z2.MTf.mk {F : Nat → Nat} {n : Nat → Int32} {g : Nat → Nat → Int32} {T : Tr} (cap : n (F 0) = zI T.cap) (cn : n (F 1) = zI T.n) (ch : n (F 5) = zI T.h) (sz : ∀ i, i < T.n → g (F 2) i = zI (T.ks i).length) (kb : ∀ i, i < T.n → KA g (F 3) (12 * i) (T.ks i)) (vs : ∀ i, i < T.n → g (F 4) i = T.vs i) (m : ∀ t, t < T.h → g (F 6) t = zI (T.m t)) (pt : ∀ t, t < T.h → ∀ q, q < T.m t → g (F 7) (400 * t + q) = zI (T.E t q - st (T.E t) q)) (ss : ∀ i, i + 1 < T.m 0 → g (F 8) i = zI (T.S i).length) (sb : ∀ i, i + 1 < T.m 0 → KA g (F 9) (12 * i) (T.S i)) (jk : ∀ i, i < 400 → ∃ q, q ≤ 12 ∧ g (F 8) i = zI q) : MTf F n g T := ⟨cap, cn, ch, sz, kb, vs, m, pt, ss, sb, jk⟩
theorem Z2.MTf.cap {F : Nat → Nat} {n : Nat → Int32} {g : Nat → Nat → Int32} {T : Tr} (h9 : MTf F n g T) : n (F 0) = zI T.cap := h9.1
theorem Z2.MTf.cn {F : Nat → Nat} {n : Nat → Int32} {g : Nat → Nat → Int32} {T : Tr} (h9 : MTf F n g T) : n (F 1) = zI T.n := h9.2.1
theorem Z2.MTf.ch {F : Nat → Nat} {n : Nat → Int32} {g : Nat → Nat → Int32} {T : Tr} (h9 : MTf F n g T) : n (F 5) = zI T.h := h9.2.2.1
theorem Z2.MTf.sz {F : Nat → Nat} {n : Nat → Int32} {g : Nat → Nat → Int32} {T : Tr} (h9 : MTf F n g T) : ∀ i, i < T.n → g (F 2) i = zI (T.ks i).length := h9.2.2.2.1
theorem Z2.MTf.kb {F : Nat → Nat} {n : Nat → Int32} {g : Nat → Nat → Int32} {T : Tr} (h9 : MTf F n g T) : ∀ i, i < T.n → KA g (F 3) (12 * i) (T.ks i) := h9.2.2.2.2.1
theorem Z2.MTf.vs {F : Nat → Nat} {n : Nat → Int32} {g : Nat → Nat → Int32} {T : Tr} (h9 : MTf F n g T) : ∀ i, i < T.n → g (F 4) i = T.vs i := h9.2.2.2.2.2.1
theorem Z2.MTf.m {F : Nat → Nat} {n : Nat → Int32} {g : Nat → Nat → Int32} {T : Tr} (h9 : MTf F n g T) : ∀ t, t < T.h → g (F 6) t = zI (T.m t) := h9.2.2.2.2.2.2.1
theorem Z2.MTf.pt {F : Nat → Nat} {n : Nat → Int32} {g : Nat → Nat → Int32} {T : Tr} (h9 : MTf F n g T) : ∀ t, t < T.h → ∀ q, q < T.m t → g (F 7) (400 * t + q) = zI (T.E t q - st (T.E t) q) := h9.2.2.2.2.2.2.2.1
theorem Z2.MTf.ss {F : Nat → Nat} {n : Nat → Int32} {g : Nat → Nat → Int32} {T : Tr} (h9 : MTf F n g T) : ∀ i, i + 1 < T.m 0 → g (F 8) i = zI (T.S i).length := h9.2.2.2.2.2.2.2.2.1
theorem Z2.MTf.sb {F : Nat → Nat} {n : Nat → Int32} {g : Nat → Nat → Int32} {T : Tr} (h9 : MTf F n g T) : ∀ i, i + 1 < T.m 0 → KA g (F 9) (12 * i) (T.S i) := h9.2.2.2.2.2.2.2.2.2.1
theorem Z2.MTf.jk {F : Nat → Nat} {n : Nat → Int32} {g : Nat → Nat → Int32} {T : Tr} (h9 : MTf F n g T) : ∀ i, i < 400 → ∃ q, q ≤ 12 ∧ g (F 8) i = zI q := h9.2.2.2.2.2.2.2.2.2.2
abbrev Z2.MT := MTf fL
abbrev Z2.BT (T : Tr) : Prop := (T.IM) ∧ (T.m 0 ≤ 400) ∧ (T.h ≤ 12)
theorem Z2.BT.mk {T : Tr} (im : T.IM) (m4 : T.m 0 ≤ 400) (h12 : T.h ≤ 12) : BT T := ⟨im, m4, h12⟩
theorem Z2.BT.im {T : Tr} (h9 : BT T) : T.IM := h9.1
theorem Z2.BT.m4 {T : Tr} (h9 : BT T) : T.m 0 ≤ 400 := h9.2.1
theorem Z2.BT.h12 {T : Tr} (h9 : BT T) : T.h ≤ 12 := h9.2.2
theorem Z2.BT.m {T : Tr} (B : BT T) {t : Nat} (h : t < T.h) : T.m t ≤ 400 := Nat.le_trans (B.im.m_le0 h) B.m4
theorem Z2.BT.E {T : Tr} (B : BT T) {t q : Nat} (h : t < T.h) (hq : q < T.m t) : T.E t q ≤ 400 := by
  cases t with
  | zero => have := B.im.le_n hq; have := B.im.n3; omega
  | succ t => have := B.im.le_m h hq; have := B.m (t := t) (by omega); omega
theorem Z2.BT.st {T : Tr} (B : BT T) {t q : Nat} (h : t < T.h) (hq : q ≤ T.m t) : st (T.E t) q ≤ 400 := by
  unfold Z2.st; split
  · omega
  · exact B.E h (by omega)
section
variable {n : Nat → Int32} {g : Nat → Nat → Int32}
theorem Z2.zI_sub_toInt {a b : Nat} (ha : a < 10000) (hb : b < 10000) : (zI a - zI b).toInt = (a : Int) - b := by
  rw [Int32.toInt_sub, zI_toInt (by omega), zI_toInt (by omega), Int.bmod_eq_of_le (by omega) (by omega)]
end
