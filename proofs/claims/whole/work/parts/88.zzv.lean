/-! the law's cases: save -/
section
variable {zd : Nat} {f f' : FT} {o o' : Z2.OW} {xo oo : Nat} {ad ad2 : Nat → Nat} {ca ia ra la ka ba : Nat} {T T2 U : Z2.Tr} {sv : Bool} {cu cu2 : Nat → Option Nat} {ky bd : Z2.Key} {w : Nat} {wk : Nat → Z2.Key} {wv : Nat → Int32} {n n' : Nat → Int32} {g g' : Nat → Nat → Int32} {c L bc bs : Nat} {xs : Nat → Int32} {y4 : Int32}
theorem Z2.law31 (hy : y4 = zI (4 * c)) (hL : 4 * c + 4 ≤ L) (h2 : L ≤ 2048) (S : ST zd xo oo c f n g bc bs) {C : Int32 × FT × (Nat → Int32) × (Nat → Nat → Int32) × Nat × Nat → Prop} (hC : ∀ f' n' g' bc' bs', ST zd xo oo (c + 1) f' n' g' bc' bs' → C (y4, f', n', g', bc', bs')) : wp_law_c31 zd xs L xo oo y4 f n g bc bs C := by
  have hc : c < 512 := by omega
  obtain ⟨s1, s2, o, ad, ad2, ca, ia, ra, la, ka, ba, T, U, sv, cu, ky, bd, w, wk, wv, W, M, V⟩ := S
  obtain ⟨B, h11, m300, sum⟩ := V.bt (by omega)
  obtain ⟨m1, m2, m3, m4, m5, m6, m7, m8, m9, m10, m11⟩ := id M
  have vk := V.2.2.2.2.1
  have vb := V.2.2.2.2.2.1
  have hn := B.im.n3
  have hb := V.2.2.2.1
  have hb3 : ∀ i j, i < 4 → cu i = some j → j ≤ 300 := fun i j hi e => Nat.le_trans (hb i j hi e) hn
  refine ⟨1100, 13900, room s1 hc, room s2 hc, W.is, s_X8_save W B.im m300 (by omega) sum (by omega) (by omega) (fun f1 o1 W1 => s9_save m1 B (fun n' g' q1 q2 q3 q4 q5 => ⟨fun _ => hC _ _ _ _ _ (ST.pk hc s1 s2 W1 ?_ ?_), fun z => absurd rfl z⟩))⟩
  · have nn : ∀ k, k < 23 → k ≠ 0 → n' k = n k := fun k a b => q4 k b (by omega) (by omega) (by omega) (by omega)
    refine ⟨m1.same (nn _ (by decide) (by decide)) (nn _ (by decide) (by decide)) (nn _ (by decide) (by decide)) (q5 _ (by decide)) (q5 _ (by decide)) (q5 _ (by decide)) (q5 _ (by decide)) (q5 _ (by decide)) (q5 _ (by decide)) (q5 _ (by decide)), ?_, by rw [q3]; rfl, fun _ => q1, by rw [nn 1 (by decide) (by decide)]; exact m5, fun i hi => by rw [q5 2 (by decide)]; exact m6 i hi, by rw [nn 3 (by decide) (by decide)]; exact m7, fun i hi => by rw [q5 4 (by decide)]; exact m8 i hi, fun i hi => by rw [q5 18 (by decide)]; exact m9 i hi, ⟨fun i hi => by rw [q5 20 (by decide)]; exact m10.1 i hi, fun i hi j hj => by rw [q5 21 (by decide)]; exact m10.2.1 i hi j hj, fun i hi => by rw [q5 22 (by decide)]; exact m10.2.2 i hi⟩, by rw [nn 19 (by decide) (by decide)]; exact m11⟩
    obtain ⟨t1, t2, t3⟩ := m2
    exact ⟨by rw [nn 6 (by decide) (by decide)]; exact t1, by rw [nn 7 (by decide) (by decide)]; exact t2, by rw [nn 8 (by decide) (by decide)]; exact t3⟩
  · obtain ⟨v1, v2, v3, v4, v5, v6, v7, v8, v9, v10, v11⟩ := V.next
    exact ⟨v1, v2, v3, v4, v5, v6, v7, v8, v9, v10, fun _ => ⟨v1, v2, by rcases v3 with z | z <;> omega⟩⟩
end
