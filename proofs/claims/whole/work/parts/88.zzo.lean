/-! the law's cases: reading -/
theorem Z2.lg_self (x : Int64) : lg_cmp x x = 0 := by
  unfold lg_cmp
  rw [if_neg (Int64.lt_irrefl), if_pos rfl]
section
variable {zd : Nat} {f f' : FT} {o o' : Z2.OW} {xo oo : Nat} {ad ad2 : Nat → Nat} {ca ia ra la ka ba : Nat} {T U : Z2.Tr} {sv : Bool} {cu cu2 : Nat → Option Nat} {ky bd : Z2.Key} {w : Nat} {wk : Nat → Z2.Key} {wv : Nat → Int32} {n n' : Nat → Int32} {g g' : Nat → Nat → Int32} {c L bc bs : Nat} {xs : Nat → Int32} {y4 : Int32}
theorem Z2.lawA {a : Int32} (hn : n 0 = 0) (ho : OV f oo (Int32.toInt64 a)) {P : Prop} (hP : P) : (n 0 = (0 : Int32) → ((¬ (0 : Int32) = (0 : Int32) → P) ∧ ((0 : Int32) = (0 : Int32) → aJ f oo (0 : Int32) fun v => (((lg_cmp v (Int32.toInt64 a)) = (0 : Int32) → P) ∧ (¬ ((lg_cmp v (Int32.toInt64 a)) = (0 : Int32)) → False))))) ∧ (¬ (n 0 = (0 : Int32)) → False) :=
  ⟨fun _ => ⟨fun z => absurd rfl z, fun _ => ho.aJ ⟨fun _ => hP, fun z => absurd (lg_self _) z⟩⟩, fun z => absurd hn z⟩
theorem Z2.lawE {r : Int32} (hn : n 0 = r) (hr : r ≠ 0) {P Q : Prop} (hP : P) : (n 0 = r → ((¬ r = (0 : Int32) → P) ∧ (r = (0 : Int32) → Q))) ∧ (¬ (n 0 = r) → False) :=
  ⟨fun _ => ⟨fun _ => hP, fun z => absurd z hr⟩, fun z => absurd hn z⟩
theorem Z2.room1 {c b k : Nat} (h : (512 - c) * k ≤ b) (hc : c < 512) : (512 - (c + 1)) * k ≤ b - k := by
  have e : 512 - c = (512 - (c + 1)) + 1 := by omega
  rw [e, Nat.add_mul, Nat.one_mul] at h
  exact Nat.le_sub_of_add_le h
theorem Z2.room0 {c b k : Nat} (h : (512 - c) * k ≤ b) : (512 - (c + 1)) * k ≤ b := Nat.le_trans (Nat.mul_le_mul_right k (by omega)) h
theorem Z2.room {c b k : Nat} (h : (512 - c) * k ≤ b) (hc : c < 512) : k ≤ b := by
  have := Nat.mul_le_mul_right k (show 1 ≤ 512 - c by omega)
  rw [Nat.one_mul] at this
  exact Nat.le_trans this h
theorem Z2.ST.pk (hc : c < 512) (s1 : (512 - c) * 1100 ≤ bc) (s2 : (512 - c) * 13900 ≤ bs) (W : CX zd f o xo oo ad ad2 ca ia ra la ka ba T U sv cu ky bd w wk wv) (M : MW n g T U sv cu ky bd w wk wv) (V : INV (c + 1) T U sv cu ky bd w wk) : ST zd xo oo (c + 1) f n g (bc - 1100) (bs - 13900) :=
  ⟨room1 s1 hc, room1 s2 hc, o, ad, ad2, ca, ia, ra, la, ka, ba, T, U, sv, cu, ky, bd, w, wk, wv, W, M, V⟩
theorem Z2.ST.pk0 (s1 : (512 - c) * 1100 ≤ bc) (s2 : (512 - c) * 13900 ≤ bs) (W : CX zd f o xo oo ad ad2 ca ia ra la ka ba T U sv cu ky bd w wk wv) (M : MW n g T U sv cu ky bd w wk wv) (V : INV (c + 1) T U sv cu ky bd w wk) : ST zd xo oo (c + 1) f n g bc bs :=
  ⟨room0 s1, room0 s2, o, ad, ad2, ca, ia, ra, la, ka, ba, T, U, sv, cu, ky, bd, w, wk, wv, W, M, V⟩
theorem Z2.law7 (S : ST zd xo oo c f n g bc bs) (hc : c < 512) {C : Int32 × FT × (Nat → Int32) × (Nat → Nat → Int32) × Nat × Nat → Prop} (hC : ∀ f' n' g' bc' bs', ST zd xo oo (c + 1) f' n' g' bc' bs' → C (y4, f', n', g', bc', bs')) : wp_law_c7 zd xs L xo oo y4 f n g bc bs C := by
  obtain ⟨s1, s2, o, ad, ad2, ca, ia, ra, la, ka, ba, T, U, sv, cu, ky, bd, w, wk, wv, W, M, V⟩ := S
  obtain ⟨B, h11, m300, sum⟩ := V.bt (by omega)
  obtain ⟨m1, m2, m3, m4, m5, m6, m7, m8, m9, m10, m11⟩ := id M
  have vk := V.2.2.2.2.1
  refine ⟨1100, 13900, room s1 hc, room s2 hc, 1100, 13900, Nat.le_refl _, Nat.le_refl _, W.is, s_X8_get W B.im (by omega) (by omega) (fun a b => ?_) (fun y => ⟨rfl, ?_⟩)⟩
  · exact W.sJ (fun f1 W1 O1 => s9_get m1 B m6 vk m5 (fun y => absurd ⟨a, b⟩ y) (fun _ _ => lawA rfl O1 (hC _ _ _ _ _ (ST.pk hc s1 s2 W1 (M.n0 0) V.next))))
  · exact s9_get m1 B m6 vk m5 (fun _ => lawE (r := 1) rfl (by decide) (hC _ _ _ _ _ (ST.pk hc s1 s2 W (M.n0 1) V.next))) (fun a b => absurd ⟨a, b⟩ y)
theorem Z2.law10 (S : ST zd xo oo c f n g bc bs) (hc : c < 512) {C : Int32 × FT × (Nat → Int32) × (Nat → Nat → Int32) × Nat × Nat → Prop} (hC : ∀ f' n' g' bc' bs', ST zd xo oo (c + 1) f' n' g' bc' bs' → C (y4, f', n', g', bc', bs')) : wp_law_c10 zd xs L xo oo y4 f n g bc bs C := by
  obtain ⟨s1, s2, o, ad, ad2, ca, ia, ra, la, ka, ba, T, U, sv, cu, ky, bd, w, wk, wv, W, M, V⟩ := S
  refine ⟨W.is, s_X8_size W ?_⟩
  rintro n1 rfl
  have e : n 9 = zI T.n := M.1.cn
  exact ⟨fun _ => hC _ _ _ _ _ (ST.pk0 s1 s2 W (M.n0 0) V.next), fun z => absurd e.symm z⟩
theorem Z2.law11 (S : ST zd xo oo c f n g bc bs) (hc : c < 512) {C : Int32 × FT × (Nat → Int32) × (Nat → Nat → Int32) × Nat × Nat → Prop} (hC : ∀ f' n' g' bc' bs', ST zd xo oo (c + 1) f' n' g' bc' bs' → C (y4, f', n', g', bc', bs')) : wp_law_c11 zd xs L xo oo y4 f n g bc bs C := by
  obtain ⟨s1, s2, o, ad, ad2, ca, ia, ra, la, ka, ba, T, U, sv, cu, ky, bd, w, wk, wv, W, M, V⟩ := S
  obtain ⟨B, h11, m300, sum⟩ := V.bt (by omega)
  obtain ⟨m1, m2, m3, m4, m5, m6, m7, m8, m9, m10, m11⟩ := id M
  exact ⟨W.is, s_X8_rank W B.im (s9_rank m1 B m6 V.2.2.2.2.1 m5 ⟨fun _ => hC _ _ _ _ _ (ST.pk0 s1 s2 W (M.n0 0) V.next), fun z => absurd rfl z⟩)⟩
theorem Z2.law14 (S : ST zd xo oo c f n g bc bs) (hc : c < 512) {C : Int32 × FT × (Nat → Int32) × (Nat → Nat → Int32) × Nat × Nat → Prop} (hC : ∀ f' n' g' bc' bs', ST zd xo oo (c + 1) f' n' g' bc' bs' → C (y4, f', n', g', bc', bs')) : wp_law_c14 zd xs L xo oo y4 f n g bc bs C := by
  obtain ⟨s1, s2, o, ad, ad2, ca, ia, ra, la, ka, ba, T, U, sv, cu, ky, bd, w, wk, wv, W, M, V⟩ := S
  obtain ⟨B, h11, m300, sum⟩ := V.bt (by omega)
  obtain ⟨m1, m2, m3, m4, m5, m6, m7, m8, m9, m10, m11⟩ := id M
  exact ⟨W.is, s_X8_countPrefix W B.im (s9_countPrefix m1 B m6 V.2.2.2.2.1 m5 ⟨fun _ => hC _ _ _ _ _ (ST.pk0 s1 s2 W (M.n0 0) V.next), fun z => absurd rfl z⟩)⟩
theorem Z2.law15 (S : ST zd xo oo c f n g bc bs) (hc : c < 512) {C : Int32 × FT × (Nat → Int32) × (Nat → Nat → Int32) × Nat × Nat → Prop} (hC : ∀ f' n' g' bc' bs', ST zd xo oo (c + 1) f' n' g' bc' bs' → C (y4, f', n', g', bc', bs')) : wp_law_c15 zd xs L xo oo y4 f n g bc bs C := by
  obtain ⟨s1, s2, o, ad, ad2, ca, ia, ra, la, ka, ba, T, U, sv, cu, ky, bd, w, wk, wv, W, M, V⟩ := S
  refine ⟨W.is, s_X8_height W ?_⟩
  rintro n1 rfl
  have e : n 13 = zI T.h := M.1.ch
  exact ⟨fun _ => hC _ _ _ _ _ (ST.pk0 s1 s2 W (M.n0 0) V.next), fun z => absurd e.symm z⟩
theorem Z2.law13 (S : ST zd xo oo c f n g bc bs) (hc : c < 512) {C : Int32 × FT × (Nat → Int32) × (Nat → Nat → Int32) × Nat × Nat → Prop} (hC : ∀ f' n' g' bc' bs', ST zd xo oo (c + 1) f' n' g' bc' bs' → C (y4, f', n', g', bc', bs')) : wp_law_c13 zd xs L xo oo y4 f n g bc bs C := by
  obtain ⟨s1, s2, o, ad, ad2, ca, ia, ra, la, ka, ba, T, U, sv, cu, ky, bd, w, wk, wv, W, M, V⟩ := S
  obtain ⟨B, h11, m300, sum⟩ := V.bt (by omega)
  obtain ⟨m1, m2, m3, m4, m5, m6, m7, m8, m9, m10, m11⟩ := id M
  have vk := V.2.2.2.2.1
  refine ⟨1100, 13900, room s1 hc, room s2 hc, 1100, 13900, Nat.le_refl _, Nat.le_refl _, W.is, s_X8_floor W B.im (by omega) (by omega) (fun a b => ⟨rfl, ?_⟩) (fun i hi e1 e2 f1 ka1 W1 => ?_)⟩
  · exact s9_floor m1 B m6 vk m5 (fun _ _ => lawE (r := 1) rfl (by decide) (hC _ _ _ _ _ (ST.pk hc s1 s2 W (M.n0 1) V.next))) (fun i g' _ _ z => absurd (z a) b)
  · refine W1.sJ (fun f2 W2 O2 => s9_floor m1 B m6 vk m5 (fun a b => absurd (e2 a) b) (fun i2 g' hi2 e3 e4 hk hg => ?_))
    have ei : i2 = i := e3.trans e1.symm
    subst ei
    exact lawA rfl O2 (hC _ _ _ _ _ (ST.pk hc s1 s2 W2 (M.key hk hg) (V.key (B.im.vk i2 hi2) V.2.2.2.2.2.1)))
end
