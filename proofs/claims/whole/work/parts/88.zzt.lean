/-! the law's cases: setKey, separator -/
section
variable {zd : Nat} {f f' : FT} {o o' : Z2.OW} {xo oo : Nat} {ad ad2 : Nat → Nat} {ca ia ra la ka ba : Nat} {T T2 U : Z2.Tr} {sv : Bool} {cu cu2 : Nat → Option Nat} {ky bd : Z2.Key} {w : Nat} {wk : Nat → Z2.Key} {wv : Nat → Int32} {n n' : Nat → Int32} {g g' : Nat → Nat → Int32} {c L bc bs : Nat} {xs : Nat → Int32} {y4 : Int32}
theorem Z2.law1 (hy : y4 = zI (4 * c)) (hL : 4 * c + 4 ≤ L) (h2 : L ≤ 2048) (S : ST zd xo oo c f n g bc bs) {C : Int32 × FT × (Nat → Int32) × (Nat → Nat → Int32) × Nat × Nat → Prop} (hC : ∀ f' n' g' bc' bs', ST zd xo oo (c + 1) f' n' g' bc' bs' → C (y4, f', n', g', bc', bs')) : wp_law_c1 zd xs L xo oo y4 f n g bc bs C := by
  have hc : c < 512 := by omega
  obtain ⟨s1, s2, o, ad, ad2, ca, ia, ra, la, ka, ba, T, U, sv, cu, ky, bd, w, wk, wv, W, M, V⟩ := S
  obtain ⟨B, h11, m300, sum⟩ := V.bt (by omega)
  obtain ⟨m1, m2, m3, m4, m5, m6, m7, m8, m9, m10, m11⟩ := id M
  have vk := V.2.2.2.2.1
  have vb := V.2.2.2.2.2.1
  have hn := B.im.n3
  have hb := V.2.2.2.1
  have hb3 : ∀ i j, i < 4 → cu i = some j → j ≤ 300 := fun i j hi e => Nat.le_trans (hb i j hi e) hn
  refine ⟨xin hy hL h2 1 (by omega), ?_⟩
  rintro v1 rfl
  refine ⟨xin hy hL h2 2 (by omega), ?_⟩
  rintro v2 rfl
  refine ⟨xin hy hL h2 3 (by omega), ?_⟩
  rintro v3 rfl
  refine ⟨1100, 13900, room s1 hc, room s2 hc, 1100, 13900, Nat.le_refl _, Nat.le_refl _, W.is, s_X8_setKey W (by omega) (by omega) (fun e => ⟨rfl, ?_⟩) (fun i hi e f1 o1 ka1 W1 => ?_)⟩
  · exact ⟨xin hy hL h2 1 (by omega), fun u1 hu1 => by
    rw [hu1]
    exact ⟨xin hy hL h2 2 (by omega), fun u2 hu2 => by
    rw [hu2]
    exact ⟨xin hy hL h2 3 (by omega), fun u3 hu3 => by
    rw [hu3]
    exact s9_setKey (fun _ => lawE (r := 1) rfl (by decide) (hC _ _ _ _ _ (ST.pk hc s1 s2 W (M.n0 1) V.next))) (fun i hi e2 _ _ _ => absurd e2 (e i hi))⟩⟩⟩
  · refine W1.sJ (fun f2 W2 O2 => ?_)
    exact ⟨xin hy hL h2 1 (by omega), fun u1 hu1 => by
    rw [hu1]
    exact ⟨xin hy hL h2 2 (by omega), fun u2 hu2 => by
    rw [hu2]
    exact ⟨xin hy hL h2 3 (by omega), fun u3 hu3 => by
    rw [hu3]
    exact s9_setKey (fun y => absurd e (y i hi)) (fun i2 hi2 e2 g' hk hg => by
      have ei : i2 = i := by rw [e] at e2; rw [zI_inj (by omega) (by omega)] at e2; exact e2.symm
      subst ei
      have hK := M.key hk hg
      rw [kyOf_len] at hK
      exact lawA rfl O2 (hC _ _ _ _ _ (ST.pk hc s1 s2 W2 hK (V.key W1.2.2.2.2.2.2.2.2.1.v vb))))⟩⟩⟩
theorem Z2.law19 (hy : y4 = zI (4 * c)) (hL : 4 * c + 4 ≤ L) (h2 : L ≤ 2048) (S : ST zd xo oo c f n g bc bs) {C : Int32 × FT × (Nat → Int32) × (Nat → Nat → Int32) × Nat × Nat → Prop} (hC : ∀ f' n' g' bc' bs', ST zd xo oo (c + 1) f' n' g' bc' bs' → C (y4, f', n', g', bc', bs')) : wp_law_c19 zd xs L xo oo y4 f n g bc bs C := by
  have hc : c < 512 := by omega
  obtain ⟨s1, s2, o, ad, ad2, ca, ia, ra, la, ka, ba, T, U, sv, cu, ky, bd, w, wk, wv, W, M, V⟩ := S
  obtain ⟨B, h11, m300, sum⟩ := V.bt (by omega)
  obtain ⟨m1, m2, m3, m4, m5, m6, m7, m8, m9, m10, m11⟩ := id M
  have vk := V.2.2.2.2.1
  have vb := V.2.2.2.2.2.1
  have hn := B.im.n3
  have hb := V.2.2.2.1
  have hb3 : ∀ i j, i < 4 → cu i = some j → j ≤ 300 := fun i j hi e => Nat.le_trans (hb i j hi e) hn
  refine ⟨xin hy hL h2 1 (by omega), ?_⟩
  rintro v1 rfl
  refine ⟨xin hy hL h2 2 (by omega), ?_⟩
  rintro v2 rfl
  refine ⟨xin hy hL h2 3 (by omega), ?_⟩
  rintro v3 rfl
  refine ⟨1100, 13900, room s1 hc, room s2 hc, 1100, 13900, Nat.le_refl _, Nat.le_refl _, W.is, s_X8_separator W B (by omega) (by omega) (fun e => Or.inl ⟨rfl, ?_⟩) (fun i p hi e hp e1 hh2 => Or.inr ⟨rfl, ?_⟩) (fun i p k hi e hp e1 ht hk e3 f1 ka1 W1 => ?_)⟩
  · exact ⟨xin hy hL h2 1 (by omega), fun u1 hu1 => by
    rw [hu1]
    exact ⟨xin hy hL h2 2 (by omega), fun u2 hu2 => by
    rw [hu2]
    exact ⟨xin hy hL h2 3 (by omega), fun u3 hu3 => by
    rw [hu3]
    exact s9_separator m1 B (fun _ => lawE (r := 1) rfl (by decide) (hC _ _ _ _ _ (ST.pk hc s1 s2 W (M.n0 1) V.next))) (fun i p hi e2 hp e3 _ => (e i p hi e2 hp e3).elim) (fun i p k hi e2 hp e3 _ _ _ _ _ _ => (e i p hi e2 hp e3).elim)⟩⟩⟩
  · exact ⟨xin hy hL h2 1 (by omega), fun u1 hu1 => by
    rw [hu1]
    exact ⟨xin hy hL h2 2 (by omega), fun u2 hu2 => by
    rw [hu2]
    exact ⟨xin hy hL h2 3 (by omega), fun u3 hu3 => by
    rw [hu3]
    exact s9_separator m1 B (fun y => (y i p hi e hp e1).elim) (fun _ _ _ _ _ _ _ => lawE (r := 2) rfl (by decide) (hC _ _ _ _ _ (ST.pk hc s1 s2 W (M.n0 2) V.next))) (fun i2 p2 k hi2 e2 hp2 e4 ht hk e5 g' _ _ => by
      have ei : i2 = i := by rw [e] at e2; rw [zI_inj (by omega) (by omega)] at e2; exact e2.symm
      subst ei
      have hm := B.m (t := T.h - 1 - i2) (by omega)
      have ep : p2 = p := by rw [e1] at e4; rw [zI_inj (by omega) (by omega)] at e4; exact e4.symm
      subst ep
      rcases hh2 with z | z
      · omega
      · exact absurd e5 (z k hk))⟩⟩⟩
  · refine W1.sJ (fun f2 W2 O2 => ?_)
    exact ⟨xin hy hL h2 1 (by omega), fun u1 hu1 => by
    rw [hu1]
    exact ⟨xin hy hL h2 2 (by omega), fun u2 hu2 => by
    rw [hu2]
    exact ⟨xin hy hL h2 3 (by omega), fun u3 hu3 => by
    rw [hu3]
    exact s9_separator m1 B (fun y => (y i p hi e hp e1).elim) (fun i2 p2 hi2 e2 hp2 e4 hh2 => by
      have ei : i2 = i := by rw [e] at e2; rw [zI_inj (by omega) (by omega)] at e2; exact e2.symm
      subst ei
      have hm := B.m (t := T.h - 1 - i2) (by omega)
      have ep : p2 = p := by rw [e1] at e4; rw [zI_inj (by omega) (by omega)] at e4; exact e4.symm
      subst ep
      rcases hh2 with z | z
      · omega
      · exact absurd e3 (z k hk)) (fun i2 p2 k2 hi2 e2 hp2 e4 ht2 hk2 e5 g' hq hg => by
      have ei : i2 = i := by rw [e] at e2; rw [zI_inj (by omega) (by omega)] at e2; exact e2.symm
      subst ei
      have hm := B.m (t := T.h - 1 - i2) (by omega)
      have ep : p2 = p := by rw [e1] at e4; rw [zI_inj (by omega) (by omega)] at e4; exact e4.symm
      subst ep
      have hE := B.E (t := T.h - 1 - i2) (by omega) hp2
      have ek : k2 = k := by rw [e3] at e5; rw [zI_inj (by omega) (by omega)] at e5; exact e5.symm
      subst ek
      exact lawA rfl O2 (hC _ _ _ _ _ (ST.pk hc s1 s2 W2 (M.key hq hg) (V.key W1.2.2.2.2.2.2.2.2.1.v vb))))⟩⟩⟩
end
