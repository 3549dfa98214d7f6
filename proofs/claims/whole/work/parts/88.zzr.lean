/-! the law's cases: cursors, keys -/
section
variable {zd : Nat} {f f' : FT} {o o' : Z2.OW} {xo oo : Nat} {ad ad2 : Nat → Nat} {ca ia ra la ka ba : Nat} {T T2 U : Z2.Tr} {sv : Bool} {cu cu2 : Nat → Option Nat} {ky bd : Z2.Key} {w : Nat} {wk : Nat → Z2.Key} {wv : Nat → Int32} {n n' : Nat → Int32} {g g' : Nat → Nat → Int32} {c L bc bs : Nat} {xs : Nat → Int32} {y4 : Int32}
theorem Z2.MW.cus (M : MW n g T U sv cu ky bd w wk wv) (hC : CuR g' cu2) (hg : ∀ k, k ≠ 18 → g' k = g k) : MW (upd n 0 0) g' T U sv cu2 ky bd w wk wv := by
  obtain ⟨m1, m2, m3, m4, m5, m6, m7, m8, m9, m10, m11⟩ := M
  exact ⟨m1.same rfl rfl rfl (hg _ (by decide)) (hg _ (by decide)) (hg _ (by decide)) (hg _ (by decide)) (hg _ (by decide)) (hg _ (by decide)) (hg _ (by decide)), m2, m3, fun h => (m4 h).same rfl rfl rfl (hg _ (by decide)) (hg _ (by decide)) (hg _ (by decide)) (hg _ (by decide)) (hg _ (by decide)) (hg _ (by decide)) (hg _ (by decide)), m5, fun i hi => by rw [hg 2 (by decide)]; exact m6 i hi, m7, fun i hi => by rw [hg 4 (by decide)]; exact m8 i hi, hC, ⟨fun i hi => by rw [hg 20 (by decide)]; exact m10.1 i hi, fun i hi j hj => by rw [hg 21 (by decide)]; exact m10.2.1 i hi j hj, fun i hi => by rw [hg 22 (by decide)]; exact m10.2.2 i hi⟩, m11⟩
theorem Z2.INV.cus (V : INV c T U sv cu ky bd w wk) (hb : ∀ i j, i < 4 → cu2 i = some j → j ≤ T.n) : INV (c + 1) T U sv cu2 ky bd w wk := by
  obtain ⟨v1, v2, v3, v4, v5, v6, v7, v8, v9, v10, v11⟩ := V.next
  exact ⟨v1, v2, v3, hb, v5, v6, v7, v8, v9, v10, v11⟩
theorem Z2.cuPut_le {N i : Nat} {q : Option Nat} (hb : ∀ i j, i < 4 → cu i = some j → j ≤ N) (hq : ∀ j, q = some j → j ≤ N) : ∀ u j, u < 4 → stt cu i q u = some j → j ≤ N := fun u j hu e => by
  unfold stt at e
  by_cases y : u = i
  · rw [if_pos y] at e; exact hq j e
  · rw [if_neg y] at e; exact hb u j hu e
theorem Z2.law25 (hy : y4 = zI (4 * c)) (hL : 4 * c + 4 ≤ L) (h2 : L ≤ 2048) (S : ST zd xo oo c f n g bc bs) {C : Int32 × FT × (Nat → Int32) × (Nat → Nat → Int32) × Nat × Nat → Prop} (hC : ∀ f' n' g' bc' bs', ST zd xo oo (c + 1) f' n' g' bc' bs' → C (y4, f', n', g', bc', bs')) : wp_law_c25 zd xs L xo oo y4 f n g bc bs C := by
  have hc : c < 512 := by omega
  obtain ⟨s1, s2, o, ad, ad2, ca, ia, ra, la, ka, ba, T, U, sv, cu, ky, bd, w, wk, wv, W, M, V⟩ := S
  obtain ⟨B, h11, m300, sum⟩ := V.bt (by omega)
  obtain ⟨m1, m2, m3, m4, m5, m6, m7, m8, m9, m10, m11⟩ := id M
  have vk := V.2.2.2.2.1
  have vb := V.2.2.2.2.2.1
  have hn := B.im.n3
  have hb := V.2.2.2.1
  have hb3 : ∀ i j, i < 4 → cu i = some j → j ≤ 300 := fun i j hi e => Nat.le_trans (hb i j hi e) hn
  refine ⟨xin hy hL h2 1 (by omega), ?_⟩
  rintro v1 rfl
  refine ⟨1100, 13900, room s1 hc, room s2 hc, 1100, 13900, Nat.le_refl _, Nat.le_refl _, W.is, s_X8_retreat W hn hb (by omega) (by omega) (fun e => Or.inl ⟨rfl, ?_⟩) (fun i hi e hc0 => Or.inr (Or.inl ⟨rfl, ?_⟩)) (fun i hi e hc0 => Or.inr (Or.inr ⟨rfl, ?_⟩)) (fun i j hi e hc0 hj f1 W1 => ?_)⟩
  · exact ⟨xin hy hL h2 1 (by omega), fun u1 hu1 => by
    rw [hu1]
    exact s9_retreat m1 hn m9 hb (fun _ => lawE (r := 1) rfl (by decide) (hC _ _ _ _ _ (ST.pk hc s1 s2 W (M.n0 1) V.next))) (fun i2 hi2 e2 _ => absurd e2 (e i2 hi2)) (fun i2 hi2 e2 _ => absurd e2 (e i2 hi2)) (fun i2 j2 hi2 e2 _ _ => absurd e2 (e i2 hi2))⟩
  · exact ⟨xin hy hL h2 1 (by omega), fun u1 hu1 => by
    rw [hu1]
    exact s9_retreat m1 hn m9 hb (fun y => absurd e (y i hi)) (fun i2 hi2 e2 h2c => by
      have ei : i2 = i := by rw [e] at e2; rw [zI_inj (by omega) (by omega)] at e2; exact e2.symm
      subst ei
      exact lawE (r := 2) rfl (by decide) (hC _ _ _ _ _ (ST.pk hc s1 s2 W (M.n0 2) V.next))) (fun i2 hi2 e2 h2c => by
      have ei : i2 = i := by rw [e] at e2; rw [zI_inj (by omega) (by omega)] at e2; exact e2.symm
      subst ei
      rw [hc0] at h2c; cases h2c) (fun i2 j2 hi2 e2 h2c hj2 => by
      have ei : i2 = i := by rw [e] at e2; rw [zI_inj (by omega) (by omega)] at e2; exact e2.symm
      subst ei
      rw [hc0] at h2c; cases h2c)⟩
  · exact ⟨xin hy hL h2 1 (by omega), fun u1 hu1 => by
    rw [hu1]
    exact s9_retreat m1 hn m9 hb (fun y => absurd e (y i hi)) (fun i2 hi2 e2 h2c => by
      have ei : i2 = i := by rw [e] at e2; rw [zI_inj (by omega) (by omega)] at e2; exact e2.symm
      subst ei
      rw [hc0] at h2c; cases h2c) (fun i2 hi2 e2 h2c => by
      have ei : i2 = i := by rw [e] at e2; rw [zI_inj (by omega) (by omega)] at e2; exact e2.symm
      subst ei
      exact lawE (r := 3) rfl (by decide) (hC _ _ _ _ _ (ST.pk hc s1 s2 W (M.n0 3) V.next))) (fun i2 j2 hi2 e2 h2c hj2 => by
      have ei : i2 = i := by rw [e] at e2; rw [zI_inj (by omega) (by omega)] at e2; exact e2.symm
      subst ei
      rw [hc0] at h2c; injection h2c with h2c; omega)⟩
  · refine W1.sJ (fun f2 W2 O2 => ?_)
    exact ⟨xin hy hL h2 1 (by omega), fun u1 hu1 => by
    rw [hu1]
    exact s9_retreat m1 hn m9 hb (fun y => absurd e (y i hi)) (fun i2 hi2 e2 h2c => by
      have ei : i2 = i := by rw [e] at e2; rw [zI_inj (by omega) (by omega)] at e2; exact e2.symm
      subst ei
      rw [hc0] at h2c; cases h2c) (fun i2 hi2 e2 h2c => by
      have ei : i2 = i := by rw [e] at e2; rw [zI_inj (by omega) (by omega)] at e2; exact e2.symm
      subst ei
      rw [hc0] at h2c; injection h2c with h2c; omega) (fun i2 j2 hi2 e2 h2c hj2 => by
      have ei : i2 = i := by rw [e] at e2; rw [zI_inj (by omega) (by omega)] at e2; exact e2.symm
      subst ei
      have ej : j2 = j := by rw [hc0] at h2c; injection h2c with h2c; omega
      subst ej
      exact lawA rfl O2 (hC _ _ _ _ _ (ST.pk hc s1 s2 W2 (M.cus (m9.put i2 (some j2)) (fun k hk => mup_ne _ _ _ hk)) (V.cus (cuPut_le hb (fun q hq => by injection hq with hq; omega))))))⟩
theorem Z2.law26 (hy : y4 = zI (4 * c)) (hL : 4 * c + 4 ≤ L) (h2 : L ≤ 2048) (S : ST zd xo oo c f n g bc bs) {C : Int32 × FT × (Nat → Int32) × (Nat → Nat → Int32) × Nat × Nat → Prop} (hC : ∀ f' n' g' bc' bs', ST zd xo oo (c + 1) f' n' g' bc' bs' → C (y4, f', n', g', bc', bs')) : wp_law_c26 zd xs L xo oo y4 f n g bc bs C := by
  have hc : c < 512 := by omega
  obtain ⟨s1, s2, o, ad, ad2, ca, ia, ra, la, ka, ba, T, U, sv, cu, ky, bd, w, wk, wv, W, M, V⟩ := S
  obtain ⟨B, h11, m300, sum⟩ := V.bt (by omega)
  obtain ⟨m1, m2, m3, m4, m5, m6, m7, m8, m9, m10, m11⟩ := id M
  have vk := V.2.2.2.2.1
  have vb := V.2.2.2.2.2.1
  have hn := B.im.n3
  have hb := V.2.2.2.1
  have hb3 : ∀ i j, i < 4 → cu i = some j → j ≤ 300 := fun i j hi e => Nat.le_trans (hb i j hi e) hn
  refine ⟨xin hy hL h2 1 (by omega), ?_⟩
  rintro v1 rfl
  refine ⟨1100, 13900, room s1 hc, room s2 hc, 1100, 13900, Nat.le_refl _, Nat.le_refl _, W.is, s_X8_current W hn hb (by omega) (by omega) (fun e => Or.inl ⟨rfl, ?_⟩) (fun i hi e hc0 => Or.inr (Or.inl ⟨rfl, ?_⟩)) (fun i hi e hc0 => Or.inr (Or.inr ⟨rfl, ?_⟩)) (fun i j hi e hc0 hj f1 ka1 W1 => ?_)⟩
  · exact ⟨xin hy hL h2 1 (by omega), fun u1 hu1 => by
    rw [hu1]
    exact s9_current m1 B m9 hb (fun _ => lawE (r := 1) rfl (by decide) (hC _ _ _ _ _ (ST.pk hc s1 s2 W (M.n0 1) V.next))) (fun i2 hi2 e2 _ => absurd e2 (e i2 hi2)) (fun i2 hi2 e2 _ => absurd e2 (e i2 hi2)) (fun i2 j2 hi2 e2 _ _ g' hk hg => absurd e2 (e i2 hi2))⟩
  · exact ⟨xin hy hL h2 1 (by omega), fun u1 hu1 => by
    rw [hu1]
    exact s9_current m1 B m9 hb (fun y => absurd e (y i hi)) (fun i2 hi2 e2 h2c => by
      have ei : i2 = i := by rw [e] at e2; rw [zI_inj (by omega) (by omega)] at e2; exact e2.symm
      subst ei
      exact lawE (r := 2) rfl (by decide) (hC _ _ _ _ _ (ST.pk hc s1 s2 W (M.n0 2) V.next))) (fun i2 hi2 e2 h2c => by
      have ei : i2 = i := by rw [e] at e2; rw [zI_inj (by omega) (by omega)] at e2; exact e2.symm
      subst ei
      rw [hc0] at h2c; cases h2c) (fun i2 j2 hi2 e2 h2c hj2 g' hk hg => by
      have ei : i2 = i := by rw [e] at e2; rw [zI_inj (by omega) (by omega)] at e2; exact e2.symm
      subst ei
      rw [hc0] at h2c; cases h2c)⟩
  · exact ⟨xin hy hL h2 1 (by omega), fun u1 hu1 => by
    rw [hu1]
    exact s9_current m1 B m9 hb (fun y => absurd e (y i hi)) (fun i2 hi2 e2 h2c => by
      have ei : i2 = i := by rw [e] at e2; rw [zI_inj (by omega) (by omega)] at e2; exact e2.symm
      subst ei
      rw [hc0] at h2c; cases h2c) (fun i2 hi2 e2 h2c => by
      have ei : i2 = i := by rw [e] at e2; rw [zI_inj (by omega) (by omega)] at e2; exact e2.symm
      subst ei
      exact lawE (r := 3) rfl (by decide) (hC _ _ _ _ _ (ST.pk hc s1 s2 W (M.n0 3) V.next))) (fun i2 j2 hi2 e2 h2c hj2 g' hk hg => by
      have ei : i2 = i := by rw [e] at e2; rw [zI_inj (by omega) (by omega)] at e2; exact e2.symm
      subst ei
      rw [hc0] at h2c; injection h2c with h2c; omega)⟩
  · refine W1.sJ (fun f2 W2 O2 => ?_)
    exact ⟨xin hy hL h2 1 (by omega), fun u1 hu1 => by
    rw [hu1]
    exact s9_current m1 B m9 hb (fun y => absurd e (y i hi)) (fun i2 hi2 e2 h2c => by
      have ei : i2 = i := by rw [e] at e2; rw [zI_inj (by omega) (by omega)] at e2; exact e2.symm
      subst ei
      rw [hc0] at h2c; cases h2c) (fun i2 hi2 e2 h2c => by
      have ei : i2 = i := by rw [e] at e2; rw [zI_inj (by omega) (by omega)] at e2; exact e2.symm
      subst ei
      rw [hc0] at h2c; injection h2c with h2c; omega) (fun i2 j2 hi2 e2 h2c hj2 g' hk hg => by
      have ei : i2 = i := by rw [e] at e2; rw [zI_inj (by omega) (by omega)] at e2; exact e2.symm
      subst ei
      have ej : j2 = j := by rw [hc0] at h2c; injection h2c with h2c; omega
      subst ej
      exact lawA rfl O2 (hC _ _ _ _ _ (ST.pk hc s1 s2 W2 (M.key hk hg) (V.key (B.im.vk j2 hj2) vb))))⟩
theorem Z2.law27 (hy : y4 = zI (4 * c)) (hL : 4 * c + 4 ≤ L) (h2 : L ≤ 2048) (S : ST zd xo oo c f n g bc bs) {C : Int32 × FT × (Nat → Int32) × (Nat → Nat → Int32) × Nat × Nat → Prop} (hC : ∀ f' n' g' bc' bs', ST zd xo oo (c + 1) f' n' g' bc' bs' → C (y4, f', n', g', bc', bs')) : wp_law_c27 zd xs L xo oo y4 f n g bc bs C := by
  have hc : c < 512 := by omega
  obtain ⟨s1, s2, o, ad, ad2, ca, ia, ra, la, ka, ba, T, U, sv, cu, ky, bd, w, wk, wv, W, M, V⟩ := S
  obtain ⟨B, h11, m300, sum⟩ := V.bt (by omega)
  obtain ⟨m1, m2, m3, m4, m5, m6, m7, m8, m9, m10, m11⟩ := id M
  have vk := V.2.2.2.2.1
  have vb := V.2.2.2.2.2.1
  have hn := B.im.n3
  have hb := V.2.2.2.1
  have hb3 : ∀ i j, i < 4 → cu i = some j → j ≤ 300 := fun i j hi e => Nat.le_trans (hb i j hi e) hn
  refine ⟨xin hy hL h2 1 (by omega), ?_⟩
  rintro v1 rfl
  refine ⟨1100, 13900, room s1 hc, room s2 hc, 1100, 13900, Nat.le_refl _, Nat.le_refl _, W.is, s_X8_removeAt W B.im B.m4 hb (by omega) (by omega) (fun e => Or.inl ⟨rfl, ?_⟩) (fun i hi e hc0 => Or.inr (Or.inl ⟨rfl, ?_⟩)) (fun i hi e hc0 => Or.inr (Or.inr ⟨rfl, ?_⟩)) (fun i j hi e hc0 hj f1 W1 => ?_)⟩
  · exact ⟨xin hy hL h2 1 (by omega), fun u1 hu1 => by
    rw [hu1]
    exact s9_removeAt m1 B m2 m9 hb (fun _ => lawE (r := 1) rfl (by decide) (hC _ _ _ _ _ (ST.pk hc s1 s2 W (M.n0 1) V.next))) (fun i2 hi2 e2 _ => absurd e2 (e i2 hi2)) (fun i2 hi2 e2 _ => absurd e2 (e i2 hi2)) (fun i2 j2 hi2 e2 _ _ n' g' q1 q2 q3 q4 q5 => absurd e2 (e i2 hi2))⟩
  · exact ⟨xin hy hL h2 1 (by omega), fun u1 hu1 => by
    rw [hu1]
    exact s9_removeAt m1 B m2 m9 hb (fun y => absurd e (y i hi)) (fun i2 hi2 e2 h2c => by
      have ei : i2 = i := by rw [e] at e2; rw [zI_inj (by omega) (by omega)] at e2; exact e2.symm
      subst ei
      exact lawE (r := 2) rfl (by decide) (hC _ _ _ _ _ (ST.pk hc s1 s2 W (M.n0 2) V.next))) (fun i2 hi2 e2 h2c => by
      have ei : i2 = i := by rw [e] at e2; rw [zI_inj (by omega) (by omega)] at e2; exact e2.symm
      subst ei
      rw [hc0] at h2c; cases h2c) (fun i2 j2 hi2 e2 h2c hj2 n' g' q1 q2 q3 q4 q5 => by
      have ei : i2 = i := by rw [e] at e2; rw [zI_inj (by omega) (by omega)] at e2; exact e2.symm
      subst ei
      rw [hc0] at h2c; cases h2c)⟩
  · exact ⟨xin hy hL h2 1 (by omega), fun u1 hu1 => by
    rw [hu1]
    exact s9_removeAt m1 B m2 m9 hb (fun y => absurd e (y i hi)) (fun i2 hi2 e2 h2c => by
      have ei : i2 = i := by rw [e] at e2; rw [zI_inj (by omega) (by omega)] at e2; exact e2.symm
      subst ei
      rw [hc0] at h2c; cases h2c) (fun i2 hi2 e2 h2c => by
      have ei : i2 = i := by rw [e] at e2; rw [zI_inj (by omega) (by omega)] at e2; exact e2.symm
      subst ei
      exact lawE (r := 3) rfl (by decide) (hC _ _ _ _ _ (ST.pk hc s1 s2 W (M.n0 3) V.next))) (fun i2 j2 hi2 e2 h2c hj2 n' g' q1 q2 q3 q4 q5 => by
      have ei : i2 = i := by rw [e] at e2; rw [zI_inj (by omega) (by omega)] at e2; exact e2.symm
      subst ei
      rw [hc0] at h2c; injection h2c with h2c; omega)⟩
  · refine W1.sJ (fun f2 W2 O2 => ?_)
    exact ⟨xin hy hL h2 1 (by omega), fun u1 hu1 => by
    rw [hu1]
    exact s9_removeAt m1 B m2 m9 hb (fun y => absurd e (y i hi)) (fun i2 hi2 e2 h2c => by
      have ei : i2 = i := by rw [e] at e2; rw [zI_inj (by omega) (by omega)] at e2; exact e2.symm
      subst ei
      rw [hc0] at h2c; cases h2c) (fun i2 hi2 e2 h2c => by
      have ei : i2 = i := by rw [e] at e2; rw [zI_inj (by omega) (by omega)] at e2; exact e2.symm
      subst ei
      rw [hc0] at h2c; injection h2c with h2c; omega) (fun i2 j2 hi2 e2 h2c hj2 n' g' q1 q2 q3 q4 q5 => by
      have ei : i2 = i := by rw [e] at e2; rw [zI_inj (by omega) (by omega)] at e2; exact e2.symm
      subst ei
      have ej : j2 = j := by rw [hc0] at h2c; injection h2c with h2c; omega
      subst ej
      exact lawA q4 O2 (hC _ _ _ _ _ (ST.pk hc s1 s2 W2 (M.kq q1 q2 q3 q5) (V.rem (by omega) hj2))))⟩
end
