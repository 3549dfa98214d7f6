/-! the law's cases: distance -/
section
variable {zd : Nat} {f f' : FT} {o o' : Z2.OW} {xo oo : Nat} {ad ad2 : Nat → Nat} {ca ia ra la ka ba : Nat} {T T2 U : Z2.Tr} {sv : Bool} {cu cu2 : Nat → Option Nat} {ky bd : Z2.Key} {w : Nat} {wk : Nat → Z2.Key} {wv : Nat → Int32} {n n' : Nat → Int32} {g g' : Nat → Nat → Int32} {c L bc bs : Nat} {xs : Nat → Int32} {y4 : Int32}
theorem Z2.law28 (hy : y4 = zI (4 * c)) (hL : 4 * c + 4 ≤ L) (h2 : L ≤ 2048) (S : ST zd xo oo c f n g bc bs) {C : Int32 × FT × (Nat → Int32) × (Nat → Nat → Int32) × Nat × Nat → Prop} (hC : ∀ f' n' g' bc' bs', ST zd xo oo (c + 1) f' n' g' bc' bs' → C (y4, f', n', g', bc', bs')) : wp_law_c28 zd xs L xo oo y4 f n g bc bs C := by
  have hc : c < 512 := by omega
  obtain ⟨s1, s2, o, ad, ad2, ca, ia, ra, la, ka, ba, T, U, sv, cu, ky, bd, w, wk, wv, W, M, V⟩ := S
  obtain ⟨B, h11, m300, sum⟩ := V.bt (by omega)
  obtain ⟨m1, m2, m3, m4, m5, m6, m7, m8, m9, m10, m11⟩ := id M
  have vk := V.2.2.2.2.1
  have vb := V.2.2.2.2.2.1
  have hn := B.im.n3
  have hb := V.2.2.2.1
  have hb3 : ∀ i j, i < 4 → cu i = some j → j ≤ 300 := fun i j hi e => Nat.le_trans (hb i j hi e) hn
  refine ⟨xin hy hL h2 1 (by omega), ?_⟩
  rintro v1 rfl
  refine ⟨xin hy hL h2 2 (by omega), ?_⟩
  rintro v2 rfl
  refine ⟨1100, 13900, room s1 hc, room s2 hc, 1100, 13900, Nat.le_refl _, Nat.le_refl _, W.is, s_X8_distance W hb3 (by omega) (by omega) (fun e => Or.inl ⟨rfl, ?_⟩) (fun i q hi hq e e1 hh2 => Or.inr ⟨rfl, ?_⟩) (fun i q a b hi hq e e1 ha hb2 => ?_)⟩
  · exact ⟨xin hy hL h2 1 (by omega), fun u1 hu1 => by
    rw [hu1]
    exact ⟨xin hy hL h2 2 (by omega), fun u2 hu2 => by
    rw [hu2]
    exact s9_distance m9 hb3 (fun _ => lawE (r := 1) rfl (by decide) (hC _ _ _ _ _ (ST.pk hc s1 s2 W (M.n0 1) V.next))) (fun i q hi hq e2 e4 _ => by
      rcases e with y | y
      · exact absurd e2 (y i hi)
      · exact absurd e4 (y q hq)) (fun i q a b hi hq e2 e4 _ _ => by
      rcases e with y | y
      · exact absurd e2 (y i hi)
      · exact absurd e4 (y q hq))⟩⟩
  · exact ⟨xin hy hL h2 1 (by omega), fun u1 hu1 => by
    rw [hu1]
    exact ⟨xin hy hL h2 2 (by omega), fun u2 hu2 => by
    rw [hu2]
    exact s9_distance m9 hb3 (fun y => by
      rcases y with y | y
      · exact absurd e (y i hi)
      · exact absurd e1 (y q hq)) (fun i2 q2 hi2 hq2 e2 e4 _ => lawE (r := 2) rfl (by decide) (hC _ _ _ _ _ (ST.pk hc s1 s2 W (M.n0 2) V.next))) (fun i2 q2 a b hi2 hq2 e2 e4 ha hb2 => by
      have ei : i2 = i := by rw [e] at e2; rw [zI_inj (by omega) (by omega)] at e2; exact e2.symm
      subst ei
      have eq : q2 = q := by rw [e1] at e4; rw [zI_inj (by omega) (by omega)] at e4; exact e4.symm
      subst eq
      rcases hh2 with z | z
      · rw [ha] at z; cases z
      · rw [hb2] at z; cases z)⟩⟩
  · refine W.sJ (fun f2 W2 O2 => ?_)
    exact ⟨xin hy hL h2 1 (by omega), fun u1 hu1 => by
    rw [hu1]
    exact ⟨xin hy hL h2 2 (by omega), fun u2 hu2 => by
    rw [hu2]
    exact s9_distance m9 hb3 (fun y => by
      rcases y with y | y
      · exact absurd e (y i hi)
      · exact absurd e1 (y q hq)) (fun i2 q2 hi2 hq2 e2 e4 hh2 => by
      have ei : i2 = i := by rw [e] at e2; rw [zI_inj (by omega) (by omega)] at e2; exact e2.symm
      subst ei
      have eq : q2 = q := by rw [e1] at e4; rw [zI_inj (by omega) (by omega)] at e4; exact e4.symm
      subst eq
      rcases hh2 with z | z
      · rw [ha] at z; cases z
      · rw [hb2] at z; cases z) (fun i2 q2 a2 b2 hi2 hq2 e2 e4 ha3 hb4 => by
      have ei : i2 = i := by rw [e] at e2; rw [zI_inj (by omega) (by omega)] at e2; exact e2.symm
      subst ei
      have eq : q2 = q := by rw [e1] at e4; rw [zI_inj (by omega) (by omega)] at e4; exact e4.symm
      subst eq
      have ea : a2 = a := by rw [ha] at ha3; injection ha3 with h; exact h.symm
      have eb : b2 = b := by rw [hb2] at hb4; injection hb4 with h; exact h.symm
      subst ea eb
      exact lawA rfl O2 (hC _ _ _ _ _ (ST.pk hc s1 s2 W2 (M.n0 0) V.next)))⟩⟩
end
