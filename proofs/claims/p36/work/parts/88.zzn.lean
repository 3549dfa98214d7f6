def Z2.MW (n : Nat → Int32) (g : Nat → Nat → Int32) (T U : Tr) (sv : Bool) (cu : Nat → Option Nat) (ky bd : Key) (w : Nat) (wk : Nat → Key) (wv : Nat → Int32) : Prop :=
  MT n g T ∧ CT n T ∧ n 23 = (if sv = true then 1 else 0) ∧ (sv = true → MTf fS n g U) ∧ n 1 = zI ky.length ∧ KA g 2 0 ky ∧ n 3 = zI bd.length ∧ KA g 4 0 bd ∧ CuR g cu ∧ WG g w wk wv ∧ n 19 = zI w
/-- what holds after c calls -/
def Z2.INV (c : Nat) (T U : Tr) (sv : Bool) (cu : Nat → Option Nat) (ky bd : Key) (w : Nat) (wk : Nat → Key) : Prop :=
  T.IM ∧ T.Pot (2 * c + 4) ∧ (2 * T.m 0 ≤ c + 2 ∨ (2 * T.m 0 ≤ c + 3 ∧ ∃ i, i < T.n ∧ T.ks i = ky)) ∧ (∀ i j, i < 4 → cu i = some j → j ≤ T.n) ∧ VK ky ∧ VK bd ∧ w ≤ 300 ∧ (∀ i, i < w → VK (wk i)) ∧ (∀ i j, i < j → j < w → klt (wk i) (wk j)) ∧ (2 * w ≤ c ∨ (2 * w ≤ c + 1 ∧ 0 < w ∧ wk (w - 1) = ky)) ∧ (sv = true → U.IM ∧ U.Pot (2 * c + 4) ∧ 2 * U.m 0 ≤ c + 3)
def Z2.ST (zd xo oo c : Nat) (f : FT) (n : Nat → Int32) (g : Nat → Nat → Int32) (bc bs : Nat) : Prop :=
  (512 - c) * 1100 ≤ bc ∧ (512 - c) * 13900 ≤ bs ∧ ∃ (o : OW) (ad ad2 : Nat → Nat) (ca ia ra la ka ba : Nat) (T U : Tr) (sv : Bool) (cu : Nat → Option Nat) (ky bd : Key) (w : Nat) (wk : Nat → Key) (wv : Nat → Int32), CX zd f o xo oo ad ad2 ca ia ra la ka ba T U sv cu ky bd w wk wv ∧ MW n g T U sv cu ky bd w wk wv ∧ INV c T U sv cu ky bd w wk
theorem Z2.Tr.Pot.wide {T : Tr} {B B' : Nat} (h : T.Pot B) (hB : B ≤ B') : T.Pot B' := by
  obtain ⟨Q, a, b⟩ := h
  exact ⟨Q, a, Nat.le_trans b (Nat.add_le_add_right hB _)⟩
theorem Z2.Tr.Pot.h11 {T : Tr} {B : Nat} (I : T.IM) (h : T.Pot B) (hB : B ≤ 1030) : T.h ≤ 11 := by
  rcases Nat.lt_or_ge T.h 12 with g | g
  · omega
  · have h1 := I.h1
    have a := h.m I (T.h - 1) (by omega)
    rw [I.top, Nat.one_mul] at a
    have b : 2 ^ 11 ≤ 2 ^ (T.h - 1) := Nat.pow_le_pow_right (by decide) (by omega)
    have e : 2 ^ 11 = 2048 := rfl
    omega
section
variable {n n' : Nat → Int32} {g g' : Nat → Nat → Int32} {T U : Z2.Tr} {sv : Bool} {cu : Nat → Option Nat} {ky ky' bd bd' : Z2.Key} {w : Nat} {wk : Nat → Z2.Key} {wv : Nat → Int32} {c : Nat}
theorem Z2.MTf.same {F : Nat → Nat} (M : MTf F n g T) (e0 : n' (F 0) = n (F 0)) (e1 : n' (F 1) = n (F 1)) (e5 : n' (F 5) = n (F 5)) (h2 : g' (F 2) = g (F 2)) (h3 : g' (F 3) = g (F 3)) (h4 : g' (F 4) = g (F 4)) (h6 : g' (F 6) = g (F 6)) (h7 : g' (F 7) = g (F 7)) (h8 : g' (F 8) = g (F 8)) (h9 : g' (F 9) = g (F 9)) : MTf F n' g' T :=
  MTf.mk (e0.trans M.cap) (e1.trans M.cn) (e5.trans M.ch) (fun i hi => by rw [h2]; exact M.sz i hi) (fun i hi j hj => by rw [h3]; exact M.kb i hi j hj) (fun i hi => by rw [h4]; exact M.vs i hi) (fun t ht => by rw [h6]; exact M.m t ht) (fun t ht q hq => by rw [h7]; exact M.pt t ht q hq) (fun i hi => by rw [h8]; exact M.ss i hi) (fun i hi j hj => by rw [h9]; exact M.sb i hi j hj) (fun i hi => by rw [h8]; exact M.jk i hi)
/-- thrown alone is written -/
theorem Z2.MW.n0 (M : MW n g T U sv cu ky bd w wk wv) (v : Int32) : MW (upd n 0 v) g T U sv cu ky bd w wk wv := by
  obtain ⟨m1, m2, m3, m4, m5, m6, m7, m8, m9, m10, m11⟩ := M
  exact ⟨m1.same rfl rfl rfl rfl rfl rfl rfl rfl rfl rfl, m2, m3, fun h => (m4 h).same rfl rfl rfl rfl rfl rfl rfl rfl rfl rfl, m5, m6, m7, m8, m9, m10, m11⟩
/-- the key is another -/
theorem Z2.MW.key (M : MW n g T U sv cu ky bd w wk wv) (hk : KA g' 2 0 ky') (hg : ∀ k, k ≠ 2 → g' k = g k) : MW (upd (upd n 1 (zI ky'.length)) 0 0) g' T U sv cu ky' bd w wk wv := by
  obtain ⟨m1, m2, m3, m4, m5, m6, m7, m8, m9, m10, m11⟩ := M
  refine ⟨m1.same rfl rfl rfl (hg _ (by decide)) (hg _ (by decide)) (hg _ (by decide)) (hg _ (by decide)) (hg _ (by decide)) (hg _ (by decide)) (hg _ (by decide)), m2, m3, fun h => (m4 h).same rfl rfl rfl (hg _ (by decide)) (hg _ (by decide)) (hg _ (by decide)) (hg _ (by decide)) (hg _ (by decide)) (hg _ (by decide)) (hg _ (by decide)), rfl, hk, m7, fun i hi => by rw [hg 4 (by decide)]; exact m8 i hi, fun i hi => by rw [hg 18 (by decide)]; exact m9 i hi, ⟨fun i hi => by rw [hg 20 (by decide)]; exact m10.1 i hi, fun i hi j hj => by rw [hg 21 (by decide)]; exact m10.2.1 i hi j hj, fun i hi => by rw [hg 22 (by decide)]; exact m10.2.2 i hi⟩, m11⟩
theorem Z2.INV.bt (V : INV c T U sv cu ky bd w wk) (hc : c ≤ 512) : BT T ∧ T.h ≤ 11 ∧ T.m 0 ≤ 300 ∧ sumTo T.m T.h ≤ 1300 := by
  obtain ⟨v1, v2, v3, -⟩ := V
  have h := v2.h11 v1 (by omega)
  have m : T.m 0 ≤ 300 := by rcases v3 with z | z <;> omega
  exact ⟨BT.mk v1 (by omega) (by omega), h, m, v2.sum v1 (by omega) m (by omega)⟩
/-- nothing but a call more -/
theorem Z2.INV.next (V : INV c T U sv cu ky bd w wk) : INV (c + 1) T U sv cu ky bd w wk := by
  obtain ⟨v1, v2, v3, v4, v5, v6, v7, v8, v9, v10, v11⟩ := V
  refine ⟨v1, v2.wide (by omega), ?_, v4, v5, v6, v7, v8, v9, ?_, fun h => ?_⟩
  · rcases v3 with z | z
    · exact Or.inl (by omega)
    · exact Or.inl (by omega)
  · rcases v10 with z | z
    · exact Or.inl (by omega)
    · exact Or.inl (by omega)
  · obtain ⟨a, b, d⟩ := v11 h
    exact ⟨a, b.wide (by omega), by omega⟩
/-- a call more, another key -/
theorem Z2.INV.key (V : INV c T U sv cu ky bd w wk) (hk : VK ky') (hb : VK bd') : INV (c + 1) T U sv cu ky' bd' w wk := by
  obtain ⟨v1, v2, v3, v4, v5, v6, v7, v8, v9, v10, v11⟩ := V.next
  refine ⟨v1, v2, Or.inl ?_, v4, hk, hb, v7, v8, v9, Or.inl ?_, v11⟩
  · obtain ⟨-, -, u3, -⟩ := V
    rcases u3 with z | z <;> omega
  · obtain ⟨-, -, -, -, -, -, -, -, -, u10, -⟩ := V
    rcases u10 with z | z <;> omega
end
