/-! the law's cases: keys -/
section
variable {zd : Nat} {f f' : FT} {o o' : Z2.OW} {xo oo : Nat} {ad ad2 : Nat → Nat} {ca ia ra la ka ba : Nat} {T T2 U : Z2.Tr} {sv : Bool} {cu cu2 : Nat → Option Nat} {ky bd : Z2.Key} {w : Nat} {wk : Nat → Z2.Key} {wv : Nat → Int32} {n n' : Nat → Int32} {g g' : Nat → Nat → Int32} {c L bc bs : Nat} {xs : Nat → Int32} {y4 : Int32}
theorem Z2.law0 (hy : y4 = zI (4 * c)) (hL : 4 * c + 4 ≤ L) (h2 : L ≤ 2048) (S : ST zd xo oo c f n g bc bs) {C : Int32 × FT × (Nat → Int32) × (Nat → Nat → Int32) × Nat × Nat → Prop} (hC : ∀ f' n' g' bc' bs', ST zd xo oo (c + 1) f' n' g' bc' bs' → C (y4, f', n', g', bc', bs')) : wp_law_c0 zd xs L xo oo y4 f n g bc bs C := by
  have hc : c < 512 := by omega
  obtain ⟨s1, s2, o, ad, ad2, ca, ia, ra, la, ka, ba, T, U, sv, cu, ky, bd, w, wk, wv, W, M, V⟩ := S
  obtain ⟨B, h11, m300, sum⟩ := V.bt (by omega)
  obtain ⟨m1, m2, m3, m4, m5, m6, m7, m8, m9, m10, m11⟩ := id M
  have vk := V.2.2.2.2.1
  have vb := V.2.2.2.2.2.1
  have hn := B.im.n3
  have hb := V.2.2.2.1
  have hb3 : ∀ i j, i < 4 → cu i = some j → j ≤ 300 := fun i j hi e => Nat.le_trans (hb i j hi e) hn
  refine ⟨xin hy hL h2 1 (by omega), ?_⟩
  rintro v1 rfl
  refine ⟨1100, 13900, room s1 hc, room s2 hc, 1100, 13900, Nat.le_refl _, Nat.le_refl _, W.is, s_X8_feed W (by omega) (by omega) (fun e => Or.inl ⟨rfl, ?_⟩) (fun a b l => Or.inr ⟨rfl, ?_⟩) (fun a b l f1 o1 ka1 W1 => ?_)⟩
  · exact ⟨xin hy hL h2 1 (by omega), fun u1 hu1 => by
    rw [hu1]
    exact s9_feed m5 vk.1 (fun _ => lawE (r := 1) rfl (by decide) (hC _ _ _ _ _ (ST.pk hc s1 s2 W (M.n0 1) V.next))) (fun a b _ => absurd ⟨a, b⟩ e) (fun a b _ => absurd ⟨a, b⟩ e)⟩
  · exact ⟨xin hy hL h2 1 (by omega), fun u1 hu1 => by
    rw [hu1]
    exact s9_feed m5 vk.1 (fun y => absurd ⟨a, b⟩ y) (fun _ _ _ => lawE (r := 2) rfl (by decide) (hC _ _ _ _ _ (ST.pk hc s1 s2 W (M.n0 2) V.next))) (fun _ _ l2 => absurd l (by omega))⟩
  · refine W1.sJ (fun f2 W2 O2 => ?_)
    have hK := fun x => M.key (m6.snoc x) (fun k hk => mup_ne _ _ _ hk)
    simp only [List.length_append] at hK
    exact ⟨xin hy hL h2 1 (by omega), fun u1 hu1 => by
    rw [hu1]
    exact s9_feed m5 vk.1 (fun y => absurd ⟨a, b⟩ y) (fun _ _ l2 => absurd l (by omega)) (fun _ _ _ => lawA rfl O2 (hC _ _ _ _ _ (ST.pk hc s1 s2 W2 (hK _) (V.key W1.2.2.2.2.2.2.2.2.1.v vb))))⟩
theorem Z2.law2 (hy : y4 = zI (4 * c)) (hL : 4 * c + 4 ≤ L) (h2 : L ≤ 2048) (S : ST zd xo oo c f n g bc bs) {C : Int32 × FT × (Nat → Int32) × (Nat → Nat → Int32) × Nat × Nat → Prop} (hC : ∀ f' n' g' bc' bs', ST zd xo oo (c + 1) f' n' g' bc' bs' → C (y4, f', n', g', bc', bs')) : wp_law_c2 zd xs L xo oo y4 f n g bc bs C := by
  have hc : c < 512 := by omega
  obtain ⟨s1, s2, o, ad, ad2, ca, ia, ra, la, ka, ba, T, U, sv, cu, ky, bd, w, wk, wv, W, M, V⟩ := S
  obtain ⟨B, h11, m300, sum⟩ := V.bt (by omega)
  obtain ⟨m1, m2, m3, m4, m5, m6, m7, m8, m9, m10, m11⟩ := id M
  have vk := V.2.2.2.2.1
  have vb := V.2.2.2.2.2.1
  have hn := B.im.n3
  have hb := V.2.2.2.1
  have hb3 : ∀ i j, i < 4 → cu i = some j → j ≤ 300 := fun i j hi e => Nat.le_trans (hb i j hi e) hn
  refine ⟨xin hy hL h2 1 (by omega), ?_⟩
  rintro v1 rfl
  refine ⟨1100, 13900, room s1 hc, room s2 hc, 1100, 13900, Nat.le_refl _, Nat.le_refl _, W.is, s_X8_cutKey W (by omega) (by omega) (fun e => ⟨rfl, ?_⟩) (fun i hi e f1 o1 ka1 W1 => ?_)⟩
  · exact ⟨xin hy hL h2 1 (by omega), fun u1 hu1 => by
    rw [hu1]
    exact s9_cutKey m5 vk.1 (fun _ => lawE (r := 1) rfl (by decide) (hC _ _ _ _ _ (ST.pk hc s1 s2 W (M.n0 1) V.next))) (fun i hi e2 => absurd e2 (e i hi))⟩
  · refine W1.sJ (fun f2 W2 O2 => ?_)
    exact ⟨xin hy hL h2 1 (by omega), fun u1 hu1 => by
    rw [hu1]
    exact s9_cutKey m5 vk.1 (fun y => absurd e (y i hi)) (fun i2 hi2 e2 => by
      have lk := vk.1
      have ei : i2 = i := by rw [e] at e2; rw [zI_inj (by omega) (by omega)] at e2; exact e2.symm
      subst ei
      have hK := M.key (g' := g) (ky' := ky.take i2) (fun q hq => by
        rw [List.length_take] at hq
        rw [take_getD _ _ _ (by omega)]; exact m6 q (by omega)) (fun _ _ => rfl)
      rw [List.length_take, Nat.min_eq_left hi2] at hK
      exact lawA rfl O2 (hC _ _ _ _ _ (ST.pk hc s1 s2 W2 hK (V.key W1.2.2.2.2.2.2.2.2.1.v vb))))⟩
theorem Z2.law4 (hy : y4 = zI (4 * c)) (hL : 4 * c + 4 ≤ L) (h2 : L ≤ 2048) (S : ST zd xo oo c f n g bc bs) {C : Int32 × FT × (Nat → Int32) × (Nat → Nat → Int32) × Nat × Nat → Prop} (hC : ∀ f' n' g' bc' bs', ST zd xo oo (c + 1) f' n' g' bc' bs' → C (y4, f', n', g', bc', bs')) : wp_law_c4 zd xs L xo oo y4 f n g bc bs C := by
  have hc : c < 512 := by omega
  obtain ⟨s1, s2, o, ad, ad2, ca, ia, ra, la, ka, ba, T, U, sv, cu, ky, bd, w, wk, wv, W, M, V⟩ := S
  obtain ⟨B, h11, m300, sum⟩ := V.bt (by omega)
  obtain ⟨m1, m2, m3, m4, m5, m6, m7, m8, m9, m10, m11⟩ := id M
  have vk := V.2.2.2.2.1
  have vb := V.2.2.2.2.2.1
  have hn := B.im.n3
  have hb := V.2.2.2.1
  have hb3 : ∀ i j, i < 4 → cu i = some j → j ≤ 300 := fun i j hi e => Nat.le_trans (hb i j hi e) hn
  refine ⟨W.is, s_X8_swapBound W (fun f1 W1 => s9_swapBound (fun g' hg a b => ⟨fun _ => hC _ _ _ _ _ (ST.pk0 s1 s2 W1 ?_ (V.key vb vk)), fun z => absurd m7.symm z⟩))⟩
  refine ⟨m1.same rfl rfl rfl (hg _ (by decide) (by decide)) (hg _ (by decide) (by decide)) (hg _ (by decide) (by decide)) (hg _ (by decide) (by decide)) (hg _ (by decide) (by decide)) (hg _ (by decide) (by decide)) (hg _ (by decide) (by decide)), m2, m3, fun h => (m4 h).same rfl rfl rfl (hg _ (by decide) (by decide)) (hg _ (by decide) (by decide)) (hg _ (by decide) (by decide)) (hg _ (by decide) (by decide)) (hg _ (by decide) (by decide)) (hg _ (by decide) (by decide)) (hg _ (by decide) (by decide)), m7, fun q hq => ?_, m5, fun q hq => ?_, fun i hi => by rw [hg 18 (by decide) (by decide)]; exact m9 i hi, ⟨fun i hi => by rw [hg 20 (by decide) (by decide)]; exact m10.1 i hi, fun i hi j hj => by rw [hg 21 (by decide) (by decide)]; exact m10.2.1 i hi j hj, fun i hi => by rw [hg 22 (by decide) (by decide)]; exact m10.2.2 i hi⟩, m11⟩
  · rw [a _ (by have := vb.1; omega)]; exact m8 q hq
  · rw [b _ (by have := vk.1; omega)]; exact m6 q hq
end
