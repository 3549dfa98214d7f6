/-! the law's cases: restore -/
section
variable {zd : Nat} {f f' : FT} {o o' : Z2.OW} {xo oo : Nat} {ad ad2 : Nat → Nat} {ca ia ra la ka ba : Nat} {T T2 U : Z2.Tr} {sv : Bool} {cu cu2 : Nat → Option Nat} {ky bd : Z2.Key} {w : Nat} {wk : Nat → Z2.Key} {wv : Nat → Int32} {n n' : Nat → Int32} {g g' : Nat → Nat → Int32} {c L bc bs : Nat} {xs : Nat → Int32} {y4 : Int32}
theorem Z2.law32 (hy : y4 = zI (4 * c)) (hL : 4 * c + 4 ≤ L) (h2 : L ≤ 2048) (S : ST zd xo oo c f n g bc bs) {C : Int32 × FT × (Nat → Int32) × (Nat → Nat → Int32) × Nat × Nat → Prop} (hC : ∀ f' n' g' bc' bs', ST zd xo oo (c + 1) f' n' g' bc' bs' → C (y4, f', n', g', bc', bs')) : wp_law_c32 zd xs L xo oo y4 f n g bc bs C := by
  have hc : c < 512 := by omega
  obtain ⟨s1, s2, o, ad, ad2, ca, ia, ra, la, ka, ba, T, U, sv, cu, ky, bd, w, wk, wv, W, M, V⟩ := S
  obtain ⟨B, h11, m300, sum⟩ := V.bt (by omega)
  obtain ⟨m1, m2, m3, m4, m5, m6, m7, m8, m9, m10, m11⟩ := id M
  have vk := V.2.2.2.2.1
  have vb := V.2.2.2.2.2.1
  have hn := B.im.n3
  have hb := V.2.2.2.1
  have hb3 : ∀ i j, i < 4 → cu i = some j → j ≤ 300 := fun i j hi e => Nat.le_trans (hb i j hi e) hn
  have hU : sv = true → U.IM ∧ U.m 0 ≤ 300 ∧ U.h ≤ 12 ∧ sumTo U.m U.h ≤ 1300 := fun h => by
    obtain ⟨a, b, d⟩ := V.2.2.2.2.2.2.2.2.2.2 h
    have e := b.h11 a (by omega)
    exact ⟨a, by omega, by omega, b.sum a (by omega) (by omega) (by omega)⟩
  refine ⟨1100, 13900, room s1 hc, room s2 hc, 1100, 13900, Nat.le_refl _, Nat.le_refl _, W.is, s_X8_restore W hU (by omega) (by omega) (fun h => ⟨rfl, ?_⟩) (fun h f1 o1 W1 => ?_)⟩
  · have e23 : n 23 = 0 := by rw [m3, h]; rfl
    refine ⟨fun z => absurd e23 z, fun _ => ?_⟩
    rintro n1 rfl
    exact lawE (r := 1) rfl (by decide) (hC _ _ _ _ _ (ST.pk hc s1 s2 W (M.n0 1) V.next))
  · obtain ⟨u1, u2, u3, u4⟩ := hU h
    obtain ⟨-, p2, p3⟩ := V.2.2.2.2.2.2.2.2.2.2 h
    refine W1.sJ (fun f2 W2 O2 => s9_restore (m4 h) (BT.mk u1 (by omega) u3) (by rw [m3, h]; rfl) (fun n' g' q1 q2 q3 q4 q5 => lawA q2 O2 (hC _ _ _ _ _ (ST.pk hc s1 s2 W2 ?_ ?_))))
    · have nn : ∀ k, k ≠ 0 → k ≠ 5 → k ≠ 9 → k ≠ 13 → n' k = n k := q3
      refine ⟨MTf.mk q1.cap q1.cn q1.ch q1.sz q1.kb q1.vs q1.m q1.pt q1.ss q1.sb q1.jk, ?_, by rw [nn 23 (by decide) (by decide) (by decide) (by decide)]; exact m3, fun h => (m4 h).same (nn _ (by decide) (by decide) (by decide) (by decide)) (nn _ (by decide) (by decide) (by decide) (by decide)) (nn _ (by decide) (by decide) (by decide) (by decide)) (q4 _ (by decide)) (q4 _ (by decide)) (q4 _ (by decide)) (q4 _ (by decide)) (q4 _ (by decide)) (q4 _ (by decide)) (q4 _ (by decide)), by rw [nn 1 (by decide) (by decide) (by decide) (by decide)]; exact m5, fun i hi => by rw [q4 2 (by decide)]; exact m6 i hi, by rw [nn 3 (by decide) (by decide) (by decide) (by decide)]; exact m7, fun i hi => by rw [q4 4 (by decide)]; exact m8 i hi, q5, ⟨fun i hi => by rw [q4 20 (by decide)]; exact m10.1 i hi, fun i hi j hj => by rw [q4 21 (by decide)]; exact m10.2.1 i hi j hj, fun i hi => by rw [q4 22 (by decide)]; exact m10.2.2 i hi⟩, by rw [nn 19 (by decide) (by decide) (by decide) (by decide)]; exact m11⟩
      obtain ⟨t1, t2, t3⟩ := m2
      exact ⟨by rw [nn 6 (by decide) (by decide) (by decide) (by decide)]; exact t1, by rw [nn 7 (by decide) (by decide) (by decide) (by decide)]; exact t2, by rw [nn 8 (by decide) (by decide) (by decide) (by decide)]; exact t3⟩
    · obtain ⟨v1, v2, v3, v4, v5, v6, v7, v8, v9, v10, v11⟩ := V.next
      refine ⟨⟨u1.cap, u1.n3, u1.vk, u1.srt, u1.h1, u1.m1, u1.mono, u1.last, u1.strict, u1.one, u1.lastT, u1.top, u1.svk, u1.ssrt, u1.sl, u1.sr⟩, (p2.same rfl (fun _ _ => rfl) (fun _ _ _ => rfl)).wide (by omega), Or.inl (by show 2 * U.m 0 ≤ _; omega), fun i j _ e => (by cases e), v5, v6, v7, v8, v9, v10, v11⟩
end
