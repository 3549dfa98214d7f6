section
variable {zd : Nat} {f f' : FT} {o o' : Z2.OW} {xo oo : Nat} {ad ad2 : Nat → Nat} {ca ia ra la ka ba : Nat} {T T2 U : Z2.Tr} {sv : Bool} {cu cu2 : Nat → Option Nat} {ky bd : Z2.Key} {w : Nat} {wk : Nat → Z2.Key} {wv : Nat → Int32} {n n' : Nat → Int32} {g g' : Nat → Nat → Int32} {c L bc bs : Nat} {xs : Nat → Int32} {y4 : Int32}
theorem Z2.xin (hy : y4 = zI (4 * c)) (hL : 4 * c + 4 ≤ L) (h2 : L ≤ 2048) (d : Nat) (hd : d < 4) : vp_in (y4 + zI d) L := by
  rw [hy, zI_add]; exact in_i (by omega) (by omega)
theorem Z2.MW.kq (M : MW n g T U sv cu ky bd w wk wv) (a : MT n' g' T2) (b : CT n' T2) (q : Kq n n' g g') (hc : CuR g' cu2) : MW n' g' T2 U sv cu2 ky bd w wk wv := by
  obtain ⟨m1, m2, m3, m4, m5, m6, m7, m8, m9, m10, m11⟩ := M
  obtain ⟨q1, q2⟩ := q
  have nn : ∀ k, k ≠ 0 → k ≠ 6 → k ≠ 7 → k ≠ 8 → k ≠ 9 → k ≠ 13 → n' k = n k := q1
  have gg : ∀ k, (k < 10 ∨ 18 < k) → g' k = g k := fun k hk => q2 k (by omega) (by omega) (by omega) (by omega) (by omega) (by omega) (by omega) (by omega)
  refine ⟨a, b, by rw [nn 23 (by decide) (by decide) (by decide) (by decide) (by decide) (by decide)]; exact m3, fun h => (m4 h).same (nn _ (by decide) (by decide) (by decide) (by decide) (by decide) (by decide)) (nn _ (by decide) (by decide) (by decide) (by decide) (by decide) (by decide)) (nn _ (by decide) (by decide) (by decide) (by decide) (by decide) (by decide)) (gg _ (by decide)) (gg _ (by decide)) (gg _ (by decide)) (gg _ (by decide)) (gg _ (by decide)) (gg _ (by decide)) (gg _ (by decide)), by rw [nn 1 (by decide) (by decide) (by decide) (by decide) (by decide) (by decide)]; exact m5, fun i hi => by rw [gg 2 (by decide)]; exact m6 i hi, by rw [nn 3 (by decide) (by decide) (by decide) (by decide) (by decide) (by decide)]; exact m7, fun i hi => by rw [gg 4 (by decide)]; exact m8 i hi, hc, ⟨fun i hi => by rw [gg 20 (by decide)]; exact m10.1 i hi, fun i hi j hj => by rw [gg 21 (by decide)]; exact m10.2.1 i hi j hj, fun i hi => by rw [gg 22 (by decide)]; exact m10.2.2 i hi⟩, by rw [nn 19 (by decide) (by decide) (by decide) (by decide) (by decide) (by decide)]; exact m11⟩
theorem Z2.INV.rem (V : INV c T U sv cu ky bd w wk) (hc : c ≤ 512) {pos : Nat} (hp : pos < T.n) : INV (c + 1) (T.remove pos) U sv (cuDel cu pos) ky bd w wk := by
  obtain ⟨B, -⟩ := V.bt hc
  obtain ⟨b1, b2, b3, b4, b5, b6⟩ := B.remove hp
  obtain ⟨v1, v2, v3, v4, v5, v6, v7, v8, v9, v10, v11⟩ := V.next
  obtain ⟨-, u2, u3, u4, -⟩ := V
  refine ⟨b1.im, (u2.remove B.im hp).wide (by omega), Or.inl ?_, fun i j hi e => ?_, v5, v6, v7, v8, v9, v10, v11⟩
  · rcases u3 with z | z <;> omega
  · rw [b2]; exact cuDel_le u4 hp i j hi e
theorem Z2.Tr.Pot.remN {B : Nat} (P : T.Pot B) (I : BT T) {p : Nat} : ∀ k, k + p ≤ T.n → (Tr.remN k T p).Pot B := by
  intro k
  induction k with
  | zero => intro _; exact P
  | succ k ih =>
    intro hk
    obtain ⟨a1, a2, -⟩ := I.remN (p := p) k (by omega)
    exact (ih (by omega)).remove a1.im (by rw [a2]; omega)
theorem Z2.INV.remN (V : INV c T U sv cu ky bd w wk) (hc : c ≤ 512) {k p : Nat} (hk : k + p ≤ T.n) : INV (c + 1) (Tr.remN k T p) U sv (cuDelN k cu p) ky bd w wk := by
  obtain ⟨B, -⟩ := V.bt hc
  obtain ⟨b1, b2, b3, b4, b5, b6⟩ := B.remN (p := p) k hk
  obtain ⟨v1, v2, v3, v4, v5, v6, v7, v8, v9, v10, v11⟩ := V.next
  obtain ⟨-, u2, u3, u4, -⟩ := V
  refine ⟨b1.im, (u2.remN B k hk).wide (by omega), Or.inl ?_, fun i j hi e => ?_, v5, v6, v7, v8, v9, v10, v11⟩
  · rcases u3 with z | z <;> omega
  · rw [b2]; exact cuDelN_le u4 k hk i j hi e
end
