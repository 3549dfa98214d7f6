/-! the law's cases: the key, removals, cursors -/
section
variable {zd : Nat} {f f' : FT} {o o' : Z2.OW} {xo oo : Nat} {ad ad2 : Nat → Nat} {ca ia ra la ka ba : Nat} {T T2 U : Z2.Tr} {sv : Bool} {cu cu2 : Nat → Option Nat} {ky bd : Z2.Key} {w : Nat} {wk : Nat → Z2.Key} {wv : Nat → Int32} {n n' : Nat → Int32} {g g' : Nat → Nat → Int32} {c L bc bs : Nat} {xs : Nat → Int32} {y4 : Int32}
theorem Z2.xin (hy : y4 = zI (4 * c)) (hL : 4 * c + 4 ≤ L) (h2 : L ≤ 2048) (d : Nat) (hd : d < 4) : vp_in (y4 + zI d) L := by
  rw [hy, zI_add]; exact in_i (by omega) (by omega)
theorem Z2.MW.kq (M : MW n g T U sv cu ky bd w wk wv) (a : MT n' g' T2) (b : CT n' T2) (q : Kq n n' g g') (hc : CuR g' cu2) : MW n' g' T2 U sv cu2 ky bd w wk wv := by
  obtain ⟨m1, m2, m3, m4, m5, m6, m7, m8, m9, m10, m11⟩ := M
  obtain ⟨q1, q2⟩ := q
  have nn : ∀ k, k ≠ 0 → k ≠ 6 → k ≠ 7 → k ≠ 8 → k ≠ 9 → k ≠ 13 → n' k = n k := q1
  have gg : ∀ k, (k < 10 ∨ 18 < k) → g' k = g k := fun k hk => q2 k (by omega) (by omega) (by omega) (by omega) (by omega) (by omega) (by omega) (by omega)
  refine ⟨a, b, by rw [nn 23 (by decide) (by decide) (by decide) (by decide) (by decide) (by decide)]; exact m3, fun h => (m4 h).same (nn _ (by decide) (by decide) (by decide) (by decide) (by decide) (by decide)) (nn _ (by decide) (by decide) (by decide) (by decide) (by decide) (by decide)) (nn _ (by decide) (by decide) (by decide) (by decide) (by decide) (by decide)) (gg _ (by decide)) (gg _ (by decide)) (gg _ (by decide)) (gg _ (by decide)) (gg _ (by decide)) (gg _ (by decide)) (gg _ (by decide)), by rw [nn 1 (by decide) (by decide) (by decide) (by decide) (by decide) (by decide)]; exact m5, fun i hi => by rw [gg 2 (by decide)]; exact m6 i hi, by rw [nn 3 (by decide) (by decide) (by decide) (by decide) (by decide) (by decide)]; exact m7, fun i hi => by rw [gg 4 (by decide)]; exact m8 i hi, hc, ⟨fun i hi => by rw [gg 20 (by decide)]; exact m10.1 i hi, fun i hi j hj => by rw [gg 21 (by decide)]; exact m10.2.1 i hi j hj, fun i hi => by rw [gg 22 (by decide)]; exact m10.2.2 i hi⟩, by rw [nn 19 (by decide) (by decide) (by decide) (by decide) (by decide) (by decide)]; exact m11⟩
theorem Z2.INV.rem (V : INV c T U sv cu ky bd w wk) (hc : c ≤ 512) {pos : Nat} (hp : pos < T.n) : INV (c + 1) (T.remove pos) U sv (cuDel cu pos) ky bd w wk := by
  obtain ⟨B, -⟩ := V.bt hc
  obtain ⟨b1, b2, b3, b4, b5, b6⟩ := B.remove hp
  obtain ⟨v1, v2, v3, v4, v5, v6, v7, v8, v9, v10, v11⟩ := V.next
  obtain ⟨-, u2, u3, u4, -⟩ := V
  refine ⟨b1.im, (u2.remove B.im hp).wide (by omega), Or.inl ?_, fun i j hi e => ?_, v5, v6, v7, v8, v9, v10, v11⟩
  · rcases u3 with z | z <;> omega
  · rw [b2]; exact cuDel_le u4 hp i j hi e
theorem Z2.Tr.Pot.remN {B : Nat} (P : T.Pot B) (I : BT T) {p : Nat} : ∀ k, k + p ≤ T.n → (Tr.remN k T p).Pot B := by
  intro k
  induction k with
  | zero => intro _; exact P
  | succ k ih =>
    intro hk
    obtain ⟨a1, a2, -⟩ := I.remN (p := p) k (by omega)
    exact (ih (by omega)).remove a1.im (by rw [a2]; omega)
theorem Z2.INV.remN (V : INV c T U sv cu ky bd w wk) (hc : c ≤ 512) {k p : Nat} (hk : k + p ≤ T.n) : INV (c + 1) (Tr.remN k T p) U sv (cuDelN k cu p) ky bd w wk := by
  obtain ⟨B, -⟩ := V.bt hc
  obtain ⟨b1, b2, b3, b4, b5, b6⟩ := B.remN (p := p) k hk
  obtain ⟨v1, v2, v3, v4, v5, v6, v7, v8, v9, v10, v11⟩ := V.next
  obtain ⟨-, u2, u3, u4, -⟩ := V
  refine ⟨b1.im, (u2.remN B k hk).wide (by omega), Or.inl ?_, fun i j hi e => ?_, v5, v6, v7, v8, v9, v10, v11⟩
  · rcases u3 with z | z <;> omega
  · rw [b2]; exact cuDelN_le u4 k hk i j hi e
theorem Z2.law3 (hy : y4 = zI (4 * c)) (hL : 4 * c + 4 ≤ L) (h2 : L ≤ 2048) (S : ST zd xo oo c f n g bc bs) {C : Int32 × FT × (Nat → Int32) × (Nat → Nat → Int32) × Nat × Nat → Prop} (hC : ∀ f' n' g' bc' bs', ST zd xo oo (c + 1) f' n' g' bc' bs' → C (y4, f', n', g', bc', bs')) : wp_law_c3 zd xs L xo oo y4 f n g bc bs C := by
  have hc : c < 512 := by omega
  obtain ⟨s1, s2, o, ad, ad2, ca, ia, ra, la, ka, ba, T, U, sv, cu, ky, bd, w, wk, wv, W, M, V⟩ := S
  obtain ⟨B, h11, m300, sum⟩ := V.bt (by omega)
  obtain ⟨m1, m2, m3, m4, m5, m6, m7, m8, m9, m10, m11⟩ := id M
  have vk := V.2.2.2.2.1
  have vb := V.2.2.2.2.2.1
  have hn := B.im.n3
  have hb := V.2.2.2.1
  have hb3 : ∀ i j, i < 4 → cu i = some j → j ≤ 300 := fun i j hi e => Nat.le_trans (hb i j hi e) hn
  refine ⟨xin hy hL h2 1 (by omega), ?_⟩
  rintro v rfl
  refine ⟨1100, 13900, room s1 hc, room s2 hc, 1100, 13900, Nat.le_refl _, Nat.le_refl _, W.is, s_X8_keyByte W (by omega) (by omega) (fun e => ⟨rfl, ?_⟩) (fun i hi e => ?_)⟩
  · refine ⟨xin hy hL h2 1 (by omega), fun v hv => by
    rw [hv]
    exact s9_keyByte m5 vk.1 m6 (fun _ => lawE (r := 1) rfl (by decide) (hC _ _ _ _ _ (ST.pk hc s1 s2 W (M.n0 1) V.next))) (fun i hi e2 => absurd e2 (e i hi))⟩
  · refine W.sJ (fun f2 W2 O2 => ⟨xin hy hL h2 1 (by omega), fun v hv => by
    rw [hv]
    exact s9_keyByte m5 vk.1 m6 (fun y => absurd e (y i hi)) (fun i2 hi2 e2 => by
      have ei : i2 = i := by rw [e] at e2; rw [zI_inj (by have := vk.1; omega) (by have := vk.1; omega)] at e2; exact e2.symm
      subst ei
      exact lawA rfl O2 (hC _ _ _ _ _ (ST.pk hc s1 s2 W2 (M.n0 0) V.next)))⟩)
theorem Z2.law12 (hy : y4 = zI (4 * c)) (hL : 4 * c + 4 ≤ L) (h2 : L ≤ 2048) (S : ST zd xo oo c f n g bc bs) {C : Int32 × FT × (Nat → Int32) × (Nat → Nat → Int32) × Nat × Nat → Prop} (hC : ∀ f' n' g' bc' bs', ST zd xo oo (c + 1) f' n' g' bc' bs' → C (y4, f', n', g', bc', bs')) : wp_law_c12 zd xs L xo oo y4 f n g bc bs C := by
  have hc : c < 512 := by omega
  obtain ⟨s1, s2, o, ad, ad2, ca, ia, ra, la, ka, ba, T, U, sv, cu, ky, bd, w, wk, wv, W, M, V⟩ := S
  obtain ⟨B, h11, m300, sum⟩ := V.bt (by omega)
  obtain ⟨m1, m2, m3, m4, m5, m6, m7, m8, m9, m10, m11⟩ := id M
  have vk := V.2.2.2.2.1
  have vb := V.2.2.2.2.2.1
  have hn := B.im.n3
  have hb := V.2.2.2.1
  have hb3 : ∀ i j, i < 4 → cu i = some j → j ≤ 300 := fun i j hi e => Nat.le_trans (hb i j hi e) hn
  refine ⟨xin hy hL h2 1 (by omega), ?_⟩
  rintro v rfl
  refine ⟨1100, 13900, room s1 hc, room s2 hc, 1100, 13900, Nat.le_refl _, Nat.le_refl _, W.is, s_X8_select W hn (by omega) (by omega) (fun e => ⟨rfl, ?_⟩) (fun i hi e f1 ka1 W1 => ?_)⟩
  · refine ⟨xin hy hL h2 1 (by omega), fun v hv => by
    rw [hv]
    exact s9_select m1 B (fun _ => lawE (r := 1) rfl (by decide) (hC _ _ _ _ _ (ST.pk hc s1 s2 W (M.n0 1) V.next))) (fun i hi e2 => absurd e2 (e i hi))⟩
  · refine W1.sJ (fun f2 W2 O2 => ⟨xin hy hL h2 1 (by omega), fun v hv => by
    rw [hv]
    exact s9_select m1 B (fun y => absurd e (y i hi)) (fun i2 hi2 e2 g' hk hg => by
      have ei : i2 = i := by rw [e] at e2; rw [zI_inj (by omega) (by omega)] at e2; exact e2.symm
      subst ei
      exact lawA rfl O2 (hC _ _ _ _ _ (ST.pk hc s1 s2 W2 (M.key hk hg) (V.key (B.im.vk i2 hi2) vb))))⟩)
theorem Z2.law8 (hy : y4 = zI (4 * c)) (hL : 4 * c + 4 ≤ L) (h2 : L ≤ 2048) (S : ST zd xo oo c f n g bc bs) {C : Int32 × FT × (Nat → Int32) × (Nat → Nat → Int32) × Nat × Nat → Prop} (hC : ∀ f' n' g' bc' bs', ST zd xo oo (c + 1) f' n' g' bc' bs' → C (y4, f', n', g', bc', bs')) : wp_law_c8 zd xs L xo oo y4 f n g bc bs C := by
  have hc : c < 512 := by omega
  obtain ⟨s1, s2, o, ad, ad2, ca, ia, ra, la, ka, ba, T, U, sv, cu, ky, bd, w, wk, wv, W, M, V⟩ := S
  obtain ⟨B, h11, m300, sum⟩ := V.bt (by omega)
  obtain ⟨m1, m2, m3, m4, m5, m6, m7, m8, m9, m10, m11⟩ := id M
  have vk := V.2.2.2.2.1
  have vb := V.2.2.2.2.2.1
  have hn := B.im.n3
  have hb := V.2.2.2.1
  have hb3 : ∀ i j, i < 4 → cu i = some j → j ≤ 300 := fun i j hi e => Nat.le_trans (hb i j hi e) hn
  refine ⟨1100, 13900, room s1 hc, room s2 hc, 1100, 13900, Nat.le_refl _, Nat.le_refl _, W.is, s_X8_remove W B.im B.m4 hb3 (by omega) (by omega) (fun y => ⟨rfl, ?_⟩) (fun a b f1 W1 => ?_)⟩
  · exact s9_remove m1 B m2 m6 vk m5 (fun _ => lawE (r := 1) rfl (by decide) (hC _ _ _ _ _ (ST.pk hc s1 s2 W (M.n0 1) V.next))) (fun a b => absurd ⟨a, b⟩ y)
  · exact W1.sJ (fun f2 W2 O2 => s9_remove m1 B m2 m6 vk m5 (fun y => absurd ⟨a, b⟩ y) (fun _ _ n' g' q1 q2 q3 q4 q5 => lawA q4 O2 (hC _ _ _ _ _ (ST.pk hc s1 s2 W2 (M.kq q1 q2 q3 (m9.del hn hb (by omega) q5)) (V.rem (by omega) a)))))
theorem Z2.law9 (hy : y4 = zI (4 * c)) (hL : 4 * c + 4 ≤ L) (h2 : L ≤ 2048) (S : ST zd xo oo c f n g bc bs) {C : Int32 × FT × (Nat → Int32) × (Nat → Nat → Int32) × Nat × Nat → Prop} (hC : ∀ f' n' g' bc' bs', ST zd xo oo (c + 1) f' n' g' bc' bs' → C (y4, f', n', g', bc', bs')) : wp_law_c9 zd xs L xo oo y4 f n g bc bs C := by
  have hc : c < 512 := by omega
  obtain ⟨s1, s2, o, ad, ad2, ca, ia, ra, la, ka, ba, T, U, sv, cu, ky, bd, w, wk, wv, W, M, V⟩ := S
  obtain ⟨B, h11, m300, sum⟩ := V.bt (by omega)
  obtain ⟨m1, m2, m3, m4, m5, m6, m7, m8, m9, m10, m11⟩ := id M
  have vk := V.2.2.2.2.1
  have vb := V.2.2.2.2.2.1
  have hn := B.im.n3
  have hb := V.2.2.2.1
  have hb3 : ∀ i j, i < 4 → cu i = some j → j ≤ 300 := fun i j hi e => Nat.le_trans (hb i j hi e) hn
  have l1 : T.less ky ≤ T.n := ff_le _ _
  have l2 : T.less bd ≤ T.n := ff_le _ _
  exact ⟨W.is, s_X8_removeRange W B hb (fun f1 W1 => s9_removeRange m1 B m2 m9 hb m6 vk m5 m8 vb m7 (fun n' g' q1 q2 q3 q4 q5 => ⟨fun _ => hC _ _ _ _ _ (ST.pk0 s1 s2 W1 (M.kq q1 q2 q3 q5) (V.remN (by omega) (by omega))), fun z => absurd rfl z⟩))⟩
end
