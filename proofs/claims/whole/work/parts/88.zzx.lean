/-! the law's cases: open, close, advance -/
theorem Z2.ite01 (p : Prop) [Decidable p] : (if p then (1 : Int32) else 0) = 0 ∨ (if p then (1 : Int32) else 0) = 1 := by
  by_cases h : p
  · rw [if_pos h]; exact Or.inr rfl
  · rw [if_neg h]; exact Or.inl rfl
theorem Z2.ite10 (p : Prop) [Decidable p] : (if p then (0 : Int32) else 1) = 0 ∨ (if p then (0 : Int32) else 1) = 1 := by
  by_cases h : p
  · rw [if_pos h]; exact Or.inl rfl
  · rw [if_neg h]; exact Or.inr rfl
section
variable {zd : Nat} {f f' : FT} {o o' : Z2.OW} {xo oo : Nat} {ad ad2 : Nat → Nat} {ca ia ra la ka ba : Nat} {T T2 U : Z2.Tr} {sv : Bool} {cu cu2 : Nat → Option Nat} {ky bd : Z2.Key} {w : Nat} {wk : Nat → Z2.Key} {wv : Nat → Int32} {n n' : Nat → Int32} {g g' : Nat → Nat → Int32} {c L bc bs : Nat} {xs : Nat → Int32} {y4 : Int32}
theorem Z2.s01x (W : CX zd f o xo oo ad ad2 ca ia ra la ka ba T U sv cu ky bd w wk wv) {r : Int32} (hr : r = 0 ∨ r = 1) {K : FT → Prop} (hK : ∀ f', CX zd f' o xo oo ad ad2 ca ia ra la ka ba T U sv cu ky bd w wk wv → OV f' oo (Int32.toInt64 r) → K f') : (r = (0 : Int32) → sJ f oo (0 : Int32) (0 : Int64) K) ∧ (¬ (r = (0 : Int32)) → sJ f oo (0 : Int32) (1 : Int64) K) := by
  rcases hr with rfl | rfl
  · exact ⟨fun _ => W.sJ hK, fun z => absurd rfl z⟩
  · exact ⟨fun z => absurd z (by decide), fun _ => W.sJ hK⟩
theorem Z2.lawB {r a : Int32} (ha : a = r) (hr : r = 0 ∨ r = 1) (hn : n 0 = 0) (ho : OV f oo (Int32.toInt64 r)) {P : Prop} (hP : P) : (n 0 = (0 : Int32) → ((¬ (0 : Int32) = (0 : Int32) → P) ∧ ((0 : Int32) = (0 : Int32) → aJ f oo (0 : Int32) fun v => ((a = (0 : Int32) → (((lg_cmp v (0 : Int64)) = (0 : Int32) → P) ∧ (¬ ((lg_cmp v (0 : Int64)) = (0 : Int32)) → False))) ∧ (¬ (a = (0 : Int32)) → (((lg_cmp v (1 : Int64)) = (0 : Int32) → P) ∧ (¬ ((lg_cmp v (1 : Int64)) = (0 : Int32)) → False))))))) ∧ (¬ (n 0 = (0 : Int32)) → False) := by
  subst ha
  refine ⟨fun _ => ⟨fun z => absurd rfl z, fun _ => ho.aJ ?_⟩, fun z => absurd hn z⟩
  rcases hr with rfl | rfl
  · exact ⟨fun _ => ⟨fun _ => hP, fun z => absurd (lg_self _) z⟩, fun z => absurd rfl z⟩
  · exact ⟨fun z => absurd z (by decide), fun _ => ⟨fun _ => hP, fun z => absurd (lg_self _) z⟩⟩
theorem Z2.law22 (hy : y4 = zI (4 * c)) (hL : 4 * c + 4 ≤ L) (h2 : L ≤ 2048) (S : ST zd xo oo c f n g bc bs) {C : Int32 × FT × (Nat → Int32) × (Nat → Nat → Int32) × Nat × Nat → Prop} (hC : ∀ f' n' g' bc' bs', ST zd xo oo (c + 1) f' n' g' bc' bs' → C (y4, f', n', g', bc', bs')) : wp_law_c22 zd xs L xo oo y4 f n g bc bs C := by
  have hc : c < 512 := by omega
  obtain ⟨s1, s2, o, ad, ad2, ca, ia, ra, la, ka, ba, T, U, sv, cu, ky, bd, w, wk, wv, W, M, V⟩ := S
  obtain ⟨B, h11, m300, sum⟩ := V.bt (by omega)
  obtain ⟨m1, m2, m3, m4, m5, m6, m7, m8, m9, m10, m11⟩ := id M
  have vk := V.2.2.2.2.1
  have vb := V.2.2.2.2.2.1
  have hn := B.im.n3
  have hb := V.2.2.2.1
  have hb3 : ∀ i j, i < 4 → cu i = some j → j ≤ 300 := fun i j hi e => Nat.le_trans (hb i j hi e) hn
  refine ⟨xin hy hL h2 1 (by omega), ?_⟩
  rintro v1 rfl
  refine ⟨1100, 13900, room s1 hc, room s2 hc, 1100, 13900, Nat.le_refl _, Nat.le_refl _, W.is, s_X8_open W B.im (by omega) (by omega) (fun e => ⟨rfl, ?_⟩) (fun i hi e f1 W1 => ?_)⟩
  · exact ⟨xin hy hL h2 1 (by omega), fun u1 hu1 => by
    rw [hu1]
    exact s9_open m1 B m6 vk m5 (fun _ => lawE (r := 1) rfl (by decide) (hC _ _ _ _ _ (ST.pk hc s1 s2 W (M.n0 1) V.next))) (fun i2 hi2 e2 => absurd e2 (e i2 hi2))⟩
  · refine s01x W1 (by exact ite01 _) (fun f2 W2 O2 => ?_)
    exact ⟨xin hy hL h2 1 (by omega), fun u1 hu1 => by
    rw [hu1]
    exact s9_open m1 B m6 vk m5 (fun y => absurd e (y i hi)) (fun i2 hi2 e2 => by
      have ei : i2 = i := by rw [e] at e2; rw [zI_inj (by omega) (by omega)] at e2; exact e2.symm
      subst ei
      have ll : T.less ky ≤ T.n := ff_le _ _
      exact lawB rfl (by exact ite01 _) rfl O2 (hC _ _ _ _ _ (ST.pk hc s1 s2 W2 (M.cus (m9.put i2 (some (T.less ky))) (fun k hk => mup_ne _ _ _ hk)) (V.cus (cuPut_le hb (fun q hq => by injection hq with hq; omega))))))⟩
theorem Z2.law23 (hy : y4 = zI (4 * c)) (hL : 4 * c + 4 ≤ L) (h2 : L ≤ 2048) (S : ST zd xo oo c f n g bc bs) {C : Int32 × FT × (Nat → Int32) × (Nat → Nat → Int32) × Nat × Nat → Prop} (hC : ∀ f' n' g' bc' bs', ST zd xo oo (c + 1) f' n' g' bc' bs' → C (y4, f', n', g', bc', bs')) : wp_law_c23 zd xs L xo oo y4 f n g bc bs C := by
  have hc : c < 512 := by omega
  obtain ⟨s1, s2, o, ad, ad2, ca, ia, ra, la, ka, ba, T, U, sv, cu, ky, bd, w, wk, wv, W, M, V⟩ := S
  obtain ⟨B, h11, m300, sum⟩ := V.bt (by omega)
  obtain ⟨m1, m2, m3, m4, m5, m6, m7, m8, m9, m10, m11⟩ := id M
  have vk := V.2.2.2.2.1
  have vb := V.2.2.2.2.2.1
  have hn := B.im.n3
  have hb := V.2.2.2.1
  have hb3 : ∀ i j, i < 4 → cu i = some j → j ≤ 300 := fun i j hi e => Nat.le_trans (hb i j hi e) hn
  refine ⟨xin hy hL h2 1 (by omega), ?_⟩
  rintro v1 rfl
  refine ⟨1100, 13900, room s1 hc, room s2 hc, 1100, 13900, Nat.le_refl _, Nat.le_refl _, W.is, s_X8_close W hb3 (by omega) (by omega) (fun e => ⟨rfl, ?_⟩) (fun i hi e f1 W1 => ?_)⟩
  · exact ⟨xin hy hL h2 1 (by omega), fun u1 hu1 => by
    rw [hu1]
    exact s9_close m9 hb3 (fun _ => lawE (r := 1) rfl (by decide) (hC _ _ _ _ _ (ST.pk hc s1 s2 W (M.n0 1) V.next))) (fun i2 hi2 e2 => absurd e2 (e i2 hi2))⟩
  · refine s01x W1 (by exact ite10 _) (fun f2 W2 O2 => ?_)
    exact ⟨xin hy hL h2 1 (by omega), fun u1 hu1 => by
    rw [hu1]
    exact s9_close m9 hb3 (fun y => absurd e (y i hi)) (fun i2 hi2 e2 => by
      have ei : i2 = i := by rw [e] at e2; rw [zI_inj (by omega) (by omega)] at e2; exact e2.symm
      subst ei
      exact lawB rfl (by exact ite10 _) rfl O2 (hC _ _ _ _ _ (ST.pk hc s1 s2 W2 (M.cus (m9.put i2 none) (fun k hk => mup_ne _ _ _ hk)) (V.cus (cuPut_le hb (fun q hq => by cases hq))))))⟩
theorem Z2.law24 (hy : y4 = zI (4 * c)) (hL : 4 * c + 4 ≤ L) (h2 : L ≤ 2048) (S : ST zd xo oo c f n g bc bs) {C : Int32 × FT × (Nat → Int32) × (Nat → Nat → Int32) × Nat × Nat → Prop} (hC : ∀ f' n' g' bc' bs', ST zd xo oo (c + 1) f' n' g' bc' bs' → C (y4, f', n', g', bc', bs')) : wp_law_c24 zd xs L xo oo y4 f n g bc bs C := by
  have hc : c < 512 := by omega
  obtain ⟨s1, s2, o, ad, ad2, ca, ia, ra, la, ka, ba, T, U, sv, cu, ky, bd, w, wk, wv, W, M, V⟩ := S
  obtain ⟨B, h11, m300, sum⟩ := V.bt (by omega)
  obtain ⟨m1, m2, m3, m4, m5, m6, m7, m8, m9, m10, m11⟩ := id M
  have vk := V.2.2.2.2.1
  have vb := V.2.2.2.2.2.1
  have hn := B.im.n3
  have hb := V.2.2.2.1
  have hb3 : ∀ i j, i < 4 → cu i = some j → j ≤ 300 := fun i j hi e => Nat.le_trans (hb i j hi e) hn
  refine ⟨xin hy hL h2 1 (by omega), ?_⟩
  rintro v1 rfl
  refine ⟨1100, 13900, room s1 hc, room s2 hc, 1100, 13900, Nat.le_refl _, Nat.le_refl _, W.is, s_X8_advance W hn hb (by omega) (by omega) (fun e => Or.inl ⟨rfl, ?_⟩) (fun i hi e hc0 => Or.inr (Or.inl ⟨rfl, ?_⟩)) (fun i hi e hc0 => Or.inr (Or.inr ⟨rfl, ?_⟩)) (fun i j hi e hc0 hj f1 W1 => ?_)⟩
  · exact ⟨xin hy hL h2 1 (by omega), fun u1 hu1 => by
    rw [hu1]
    exact s9_advance hn m1.cn m9 hb (fun _ => lawE (r := 1) rfl (by decide) (hC _ _ _ _ _ (ST.pk hc s1 s2 W (M.n0 1) V.next))) (fun i2 hi2 e2 _ => absurd e2 (e i2 hi2)) (fun i2 hi2 e2 _ => absurd e2 (e i2 hi2)) (fun i2 j2 hi2 e2 _ _ => absurd e2 (e i2 hi2))⟩
  · exact ⟨xin hy hL h2 1 (by omega), fun u1 hu1 => by
    rw [hu1]
    exact s9_advance hn m1.cn m9 hb (fun y => absurd e (y i hi)) (fun i2 hi2 e2 h2c => by
      have ei : i2 = i := by rw [e] at e2; rw [zI_inj (by omega) (by omega)] at e2; exact e2.symm
      subst ei
      exact lawE (r := 2) rfl (by decide) (hC _ _ _ _ _ (ST.pk hc s1 s2 W (M.n0 2) V.next))) (fun i2 hi2 e2 h2c => by
      have ei : i2 = i := by rw [e] at e2; rw [zI_inj (by omega) (by omega)] at e2; exact e2.symm
      subst ei
      rw [hc0] at h2c; cases h2c) (fun i2 j2 hi2 e2 h2c hj2 => by
      have ei : i2 = i := by rw [e] at e2; rw [zI_inj (by omega) (by omega)] at e2; exact e2.symm
      subst ei
      rw [hc0] at h2c; cases h2c)⟩
  · exact ⟨xin hy hL h2 1 (by omega), fun u1 hu1 => by
    rw [hu1]
    exact s9_advance hn m1.cn m9 hb (fun y => absurd e (y i hi)) (fun i2 hi2 e2 h2c => by
      have ei : i2 = i := by rw [e] at e2; rw [zI_inj (by omega) (by omega)] at e2; exact e2.symm
      subst ei
      rw [hc0] at h2c; cases h2c) (fun i2 hi2 e2 h2c => by
      have ei : i2 = i := by rw [e] at e2; rw [zI_inj (by omega) (by omega)] at e2; exact e2.symm
      subst ei
      exact lawE (r := 3) rfl (by decide) (hC _ _ _ _ _ (ST.pk hc s1 s2 W (M.n0 3) V.next))) (fun i2 j2 hi2 e2 h2c hj2 => by
      have ei : i2 = i := by rw [e] at e2; rw [zI_inj (by omega) (by omega)] at e2; exact e2.symm
      subst ei
      rw [hc0] at h2c; injection h2c with h2c; omega)⟩
  · refine s01x W1 (by exact ite01 _) (fun f2 W2 O2 => ?_)
    exact ⟨xin hy hL h2 1 (by omega), fun u1 hu1 => by
    rw [hu1]
    exact s9_advance hn m1.cn m9 hb (fun y => absurd e (y i hi)) (fun i2 hi2 e2 h2c => by
      have ei : i2 = i := by rw [e] at e2; rw [zI_inj (by omega) (by omega)] at e2; exact e2.symm
      subst ei
      rw [hc0] at h2c; cases h2c) (fun i2 hi2 e2 h2c => by
      have ei : i2 = i := by rw [e] at e2; rw [zI_inj (by omega) (by omega)] at e2; exact e2.symm
      subst ei
      rw [hc0] at h2c; injection h2c with h2c; omega) (fun i2 j2 hi2 e2 h2c hj2 => by
      have ei : i2 = i := by rw [e] at e2; rw [zI_inj (by omega) (by omega)] at e2; exact e2.symm
      subst ei
      have ej : j2 = j := by rw [hc0] at h2c; injection h2c with h2c; omega
      subst ej
      exact lawB rfl (by exact ite01 _) rfl O2 (hC _ _ _ _ _ (ST.pk hc s1 s2 W2 (M.cus (m9.put i2 (some (j2 + 1))) (fun k hk => mup_ne _ _ _ hk)) (V.cus (cuPut_le hb (fun q hq => by injection hq with hq; omega))))))⟩
end
