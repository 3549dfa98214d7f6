section
variable {zd : Nat} {f f' : FT} {o o' : Z2.OW} {xo oo : Nat} {ad ad2 : Nat → Nat} {ca ia ra la ka ba : Nat} {T T2 U : Z2.Tr} {sv : Bool} {cu cu2 : Nat → Option Nat} {ky bd : Z2.Key} {w : Nat} {wk : Nat → Z2.Key} {wv : Nat → Int32} {n n' : Nat → Int32} {g g' : Nat → Nat → Int32} {c L bc bs : Nat} {xs : Nat → Int32} {y4 : Int32}
theorem Z2.MW.cus (M : MW n g T U sv cu ky bd w wk wv) (hC : CuR g' cu2) (hg : ∀ k, k ≠ 18 → g' k = g k) : MW (upd n 0 0) g' T U sv cu2 ky bd w wk wv := by
  obtain ⟨m1, m2, m3, m4, m5, m6, m7, m8, m9, m10, m11⟩ := M
  exact ⟨m1.same rfl rfl rfl (hg _ (by decide)) (hg _ (by decide)) (hg _ (by decide)) (hg _ (by decide)) (hg _ (by decide)) (hg _ (by decide)) (hg _ (by decide)), m2, m3, fun h => (m4 h).same rfl rfl rfl (hg _ (by decide)) (hg _ (by decide)) (hg _ (by decide)) (hg _ (by decide)) (hg _ (by decide)) (hg _ (by decide)) (hg _ (by decide)), m5, fun i hi => by rw [hg 2 (by decide)]; exact m6 i hi, m7, fun i hi => by rw [hg 4 (by decide)]; exact m8 i hi, hC, ⟨fun i hi => by rw [hg 20 (by decide)]; exact m10.1 i hi, fun i hi j hj => by rw [hg 21 (by decide)]; exact m10.2.1 i hi j hj, fun i hi => by rw [hg 22 (by decide)]; exact m10.2.2 i hi⟩, m11⟩
theorem Z2.INV.cus (V : INV c T U sv cu ky bd w wk) (hb : ∀ i j, i < 4 → cu2 i = some j → j ≤ T.n) : INV (c + 1) T U sv cu2 ky bd w wk := by
  obtain ⟨v1, v2, v3, v4, v5, v6, v7, v8, v9, v10, v11⟩ := V.next
  exact ⟨v1, v2, v3, hb, v5, v6, v7, v8, v9, v10, v11⟩
theorem Z2.cuPut_le {N i : Nat} {q : Option Nat} (hb : ∀ i j, i < 4 → cu i = some j → j ≤ N) (hq : ∀ j, q = some j → j ≤ N) : ∀ u j, u < 4 → stt cu i q u = some j → j ≤ N := fun u j hu e => by
  unfold stt at e
  by_cases y : u = i
  · rw [if_pos y] at e; exact hq j e
  · rw [if_neg y] at e; exact hb u j hu e
end
