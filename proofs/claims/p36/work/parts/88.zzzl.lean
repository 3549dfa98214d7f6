/-! p36: the law's walk -/
section
variable {zd : Nat} {f : FT} {xo : Nat} {T U : Z2.Tr} {cu cu2 cu3 : Nat → Option Nat} {ky bd : Z2.Key} {k k2 b L bc bs mc ms : Nat} {xs : Nat → Int32} {K : Prop}
theorem Z2.w509 {i : Nat} (hi : i < U.n) (W : CP zd f xo T U true cu ky bd) (V : PV k T cu) (V2 : PV k2 U cu3) (hk : k ≤ 250) (hk2 : k2 ≤ k) (c1 : 310 ≤ bc) (c2 : 11100 ≤ bs) (hK : K) : wp_L_law_509 zd xs L xo (zI U.n) (zI i) (U.vs i) f bc bs K := by
  refine ⟨300, 11000, by omega, by omega, W.is, p_restore W V V2 hk hk2 (by omega) (by omega) (fun f1 W1 V1 => ⟨fun y => absurd rfl y, fun _ => ⟨1, 6, by omega, by omega, W1.is, p_close 2 (by decide) W1 V1 hk rfl (by omega) (by omega) (fun f2 W2 V2 => ⟨fun y => absurd rfl y, fun _ => ⟨1, 6, by omega, by omega, W2.is, p_close 0 (by decide) W2 V2 hk rfl (by omega) (by omega) (fun f3 W3 V3 => ⟨fun y => absurd rfl y, fun _ => ⟨W3.is, p_size W3 ⟨fun y => absurd rfl y, fun _ => ⟨1, 6, by omega, by omega, W3.is, p_select (T := Tr.mk U.cap U.n U.ks U.vs U.h U.m U.E U.S T.c0 T.c1 T.c2) i hi W3 V3 hk (by omega) (by omega) (fun f4 W4 => ⟨fun _ => ⟨W4.is, p_occupancy W4 V3 hk (fun r hr => ⟨fun y => absurd y hr, fun _ => ⟨1, 6, by omega, by omega, W4.is, p_statistic 3 (Or.inl rfl) W4 V3 hk (by omega) (by omega) (fun r3 h3 => ⟨fun y => absurd y h3, fun _ => ⟨1, 6, by omega, by omega, W4.is, p_statistic 4 (Or.inr rfl) W4 V3 hk (by omega) (by omega) (fun r4 h4 => ⟨fun y => absurd y h4, fun _ => hK⟩)⟩⟩)⟩⟩)⟩, fun y => absurd rfl y⟩)⟩⟩⟩⟩)⟩⟩)⟩⟩)⟩
theorem Z2.w475 {i q : Nat} {y11 z0 : Int32} (hi : i < U.n) (W : CP zd f xo T U true cu ky bd) (V : PV k T cu) (V2 : PV k2 U cu3) (hk : k ≤ 240) (hk2 : k2 ≤ k) (h2 : cu 2 = some q) (h3 : cu 3 = some q) (hq : q < T.n) (hl : (y11 = 1 ∧ q + 1 = T.n) ∨ (y11 = 0 ∧ q + 1 < T.n ∧ z0 = T.vs (q + 1))) (c1 : 330 ≤ bc) (c2 : 11200 ≤ bs) (hK : K) : wp_L_law_475 zd xs L xo (zI U.n) (zI i) (U.vs i) y11 z0 f bc bs K := by
  obtain ⟨B, -⟩ := V.bt (by omega)
  obtain ⟨b1, b2, b3, b4, b5, b6⟩ := B.remove hq
  refine ⟨3, 18, by omega, by omega, W.is, p_removeAt 2 (by decide) h2 hq W V hk (by omega) (by omega) (fun r f1 W1 V1 => ⟨5, 30, by omega, by omega, W1.is, p_distance 2 3 (by decide) (by decide) (cuDel_at h2) (cuDel_at h3) W1 V1 (by omega) (by omega) (by omega) ⟨fun y => absurd (Int32.sub_self _) y, fun _ => ?_⟩⟩)⟩
  rcases hl with ⟨rfl, e⟩ | ⟨rfl, e, rfl⟩
  · exact ⟨fun _ => w509 hi W1 V1 V2 (by omega) (by omega) (by omega) (by omega) hK, fun y => absurd y (by decide)⟩
  · refine ⟨fun y => absurd rfl y, fun _ => ⟨3, 18, by omega, by omega, W1.is, p_current 3 (by decide) (cuDel_at h3) (by omega) W1 V1 (by omega) (by omega) (by omega) (fun f2 W2 => ⟨fun _ => w509 hi W2 V1 V2 (by omega) (by omega) (by omega) (by omega) hK, fun y => absurd ?_ y⟩)⟩⟩
    rw [b4]
    exact del_ge _ (Nat.le_refl _)
theorem Z2.w454 {i p : Nat} {y0 : Int32} (hi : i < U.n) (hp : p < 1000) (W : CP zd f xo T U true cu ky bd) (V : PV k T cu) (V2 : PV k2 U cu3) (hk : k ≤ 240) (hk2 : k2 ≤ k) (h2 : cu 2 = some (p / 2)) (h3 : cu 3 = some (p / 2)) (hq : p / 2 < T.n) (hl : (y0 = 1 ∧ p / 2 + 1 = T.n) ∨ (y0 = 0 ∧ p / 2 + 1 < T.n)) (c1 : 340 ≤ bc) (c2 : 11300 ≤ bs) (hK : K) : wp_L_law_454 zd xs L xo (zI U.n) (zI i) (U.vs i) (zI p) y0 f bc bs K := by
  rcases hl with ⟨rfl, e⟩ | ⟨rfl, e⟩
  · exact ⟨fun y => absurd y (by decide), fun _ => w475 hi W V V2 hk hk2 h2 h3 hq (Or.inl ⟨rfl, e⟩) (by omega) (by omega) hK⟩
  · refine ⟨fun _ => ⟨by decide, 1, 6, by omega, by omega, W.is, ?_⟩, fun y => absurd rfl y⟩
    rw [show (2 : Int32) = zI 2 from rfl, zI_div (by omega) (by omega), show (1 : Int32) = zI 1 from rfl, zI_add]
    exact p_select (p / 2 + 1) e W V (by omega) (by omega) (by omega) (fun f1 W1 => w475 hi W1 V V2 hk hk2 h2 h3 hq (Or.inr ⟨rfl, e, rfl⟩) (by omega) (by omega) hK)
/-- after the second row of puts -/
theorem Z2.w297 {i p : Nat} (hi : i < U.n) (W : CP zd f xo T U true cu ky bd) (V : PV k T cu) (V2 : PV k2 U cu3) (hk : k ≤ 130) (hk2 : k2 ≤ k) (h2 : cu 2 = some p) (hp : p < T.n) (hn : U.n ≤ T.n) (c1 : 400 ≤ bc) (c2 : 12000 ≤ bs) (hK : K) {C : Int32 × FT × Nat × Nat → Prop} {y2 y9 : Int32} (hle : y2 ≤ y9) : wp_L_law_263 zd xs L b xo y2 (zI U.n) (zI i) (U.vs i) (zI U.n) K C (y9, f, bc, bs) := by
  have vn := V.n (by omega)
  have hpk := V.2.2.2.1
  refine ⟨fun _ => ⟨fun y => absurd rfl y, fun _ => ⟨3, 18, by omega, by omega, W.is, p_current 2 (by decide) h2 hp W V (by omega) (by omega) (by omega) (fun f1 W1 => ⟨1, 6, by omega, by omega, W1.is, p_get hp W1 V (by omega) (by omega) ⟨fun _ => ⟨W1.is, p_rank hp W1 V ⟨1, 6, by omega, by omega, W1.is, p_open 3 (by decide) W1 V (by omega) (by omega) (fun f2 W2 Va => ?_)⟩⟩, fun y => absurd rfl y⟩⟩)⟩⟩, fun y => absurd hle y⟩
  rw [less_key V.1 hp] at W2 Va
  have g2 : stt cu 3 (some p) 2 = some p := by rw [stt_ne _ _ (by decide)]; exact h2
  have g3 : stt cu 3 (some p) 3 = some p := stt_same _ _ _
  generalize stt cu 3 (some p) = cv at *
  refine ⟨5, 30, by omega, by omega, W2.is, p_distance 2 3 (by decide) (by decide) g2 g3 W2 Va (by omega) (by omega) (by omega) ⟨fun y => absurd (Int32.sub_self _) y, fun _ => ⟨W2.is, p_size W2 ⟨fun _ => ⟨W2.is, p_size W2 ⟨by decide, 1, 6, by omega, by omega, W2.is, ?_⟩⟩, fun y => absurd ((zI_le (by omega) (by omega)).mpr hn) y⟩⟩⟩⟩
  have e2 : zI p / (2 : Int32) = zI (p / 2) := by rw [show (2 : Int32) = zI 2 from rfl, zI_div (by omega) (by omega)]
  simp only [e2]
  refine p_select (p / 2) (by omega) W2 Va (by omega) (by omega) (by omega) (fun f3 W3 => ⟨W3.is, p_swap W3 (fun r4 f4 W4 => ⟨1, 6, by omega, by omega, W4.is, p_select p hp W4 Va (by omega) (by omega) (by omega) (fun f5 W5 => ⟨W5.is, p_removeRange hp (by omega) W5 Va (by omega) (by omega) (fun f6 W6 V6 => ?_)⟩)⟩)⟩)
  obtain ⟨B, -⟩ := Va.bt (by omega)
  obtain ⟨-, r2, -⟩ := B.remN (p := p / 2) (p - p / 2) (by omega)
  have d2 := cuDelN_at (q := p / 2) (d := p - p / 2) (i := 2) (cu := cv) (by rw [show p / 2 + (p - p / 2) = p by omega]; exact g2) (p - p / 2) (Nat.le_refl _)
  have d3 := cuDelN_at (q := p / 2) (d := p - p / 2) (i := 3) (cu := cv) (by rw [show p / 2 + (p - p / 2) = p by omega]; exact g3) (p - p / 2) (Nat.le_refl _)
  rw [Nat.sub_self, Nat.add_zero] at d2 d3
  generalize cuDelN (p - p / 2) cv (p / 2) = c6 at *
  generalize Tr.remN (p - p / 2) T (p / 2) = T6 at *
  have hq : p / 2 < T6.n := by omega
  have e3 : zI T6.n = zI T.n - zI p + zI (p / 2) := by rw [zI_sub (by omega), zI_add, r2, show T.n - (p - p / 2) = T.n - p + p / 2 by omega]
  refine ⟨by decide, fun y => y (zI_sub (by omega)).symm, fun _ => ⟨W6.is, p_size W6 ⟨by decide, fun _ => ⟨3, 18, by omega, by omega, W6.is, p_current 2 (by decide) d2 hq W6 V6 (by omega) (by omega) (by omega) (fun f7 W7 => ⟨W7.is, p_rank hq W7 V6 ⟨by decide, fun y => absurd rfl y, fun _ => ⟨5, 30, by omega, by omega, W7.is, p_distance 2 3 (by decide) (by decide) d2 d3 W7 V6 (by omega) (by omega) (by omega) ⟨fun _ => ⟨by decide, W7.is, p_size W7 ?_⟩, fun y => absurd (Int32.sub_self _) y⟩⟩⟩⟩)⟩, fun y => absurd e3 y⟩⟩⟩
  have e4 : zI T6.n - (1 : Int32) = zI (T6.n - 1) := zI_sub (a := T6.n) (b := 1) (by omega)
  rw [e4]
  refine ⟨fun y => w454 hi (by omega) W7 V6 V2 (by omega) (by omega) d2 d3 hq (Or.inr ⟨rfl, ?_⟩) (by omega) (by omega) hK, fun y => w454 hi (by omega) W7 V6 V2 (by omega) (by omega) d2 d3 hq (Or.inl ⟨rfl, ?_⟩) (by omega) (by omega) hK⟩
  · rw [zI_inj (by omega) (by omega)] at y; omega
  · rw [zI_inj (by omega) (by omega)] at y; omega
set_option maxRecDepth 20000 in
theorem Z2.w263 {i m : Nat} (hi : i < U.n) (hm : m < 64) (hL : L ≤ 260) (W : CP zd f xo T U true cu ky bd) (V : PV 63 T cu) (V2 : PV 63 U cu3) (h2 : ∃ p, p < T.n ∧ cu 2 = some p) (hn : U.n ≤ T.n) (c1 : 7400 ≤ bc) (c2 : 605000 ≤ bs) (hK : K) : ∃ n, loopW (wp_L_law_263 zd xs L b xo (zI m) (zI U.n) (zI i) (U.vs i) (zI U.n) K) n ((0 : Int32), f, bc, bs) := by
  obtain ⟨p, hp, h2⟩ := h2
  refine loopW_of (fun s => ∃ (j : Nat) (f : FT) (T : Tr) (cu : Nat → Option Nat) (ky : Key) (p bc bs : Nat), s = (zI j, f, bc, bs) ∧ j ≤ m ∧ CP zd f xo T U true cu ky bd ∧ PV (63 + j) T cu ∧ U.n ≤ T.n ∧ p < T.n ∧ cu 2 = some p ∧ (63 - j) * 110 + 400 ≤ bc ∧ (63 - j) * 9400 + 12000 ≤ bs) (fun s => 100 - s.1.toNatClampNeg) ?_ _ ⟨0, f, T, cu, ky, p, bc, bs, rfl, by omega, W, V, hn, hp, h2, by omega, by omega⟩
  rintro C _ ⟨j, f, T, cu, ky, p, bc, bs, rfl, hj, W, V, hn, hp, h2, c1, c2⟩ hC
  by_cases y : m ≤ j
  · exact w297 hi W V V2 (by omega) (by omega) h2 hp hn (by omega) (by omega) hK ((zI_le (by omega) (by omega)).mpr y)
  · refine ⟨fun z => absurd ((zI_le (by omega) (by omega)).mp z) y, fun _ => s_L_number hL (by omega) (fun r => ⟨10, 65, by omega, by omega, s_L_key W (by omega) (by omega) (fun f1 ky1 W1 => ⟨100, 9300, by omega, by omega, W1.is, s_X8_putP W1 V (by omega) (by omega) (by omega) (fun r2 f2 T2 cu2 W2 V2' hn2 hcu _ => ?_)⟩)⟩)⟩
    rintro v rfl
    rw [show (1 : Int32) = zI 1 from rfl, zI_add]
    obtain ⟨p', hp', e'⟩ := hcu 2 p h2 hp
    refine hC _ ⟨j + 1, f2, T2, cu2, ky1, p', _, _, rfl, by omega, W2, V2', by omega, hp', e', by omega, by omega⟩ ?_
    show 100 - (zI (j + 1)).toNatClampNeg < 100 - (zI j).toNatClampNeg
    rw [zI_clamp (by omega), zI_clamp (by omega)]
    omega
set_option maxRecDepth 20000 in
theorem Z2.w151 {m : Nat} (hm : m < 64) (hL : L ≤ 260) (W : CP zd f xo T U false cu ky bd) (V : PV 63 T cu) (h0 : cu 0 = some T.n) (c1 : 8330 ≤ bc) (c2 : 621900 ≤ bs) (hK : K) : ∃ n, loopW (wp_L_law_151 zd xs L b xo (zI m) (zI T.n) K) n (zI T.n - (1 : Int32), f, bc, bs) := by
  have hn : T.n ≤ 63 := V.2.2.2.1
  refine loopW_of (fun s => ∃ (i : Nat) (f : FT) (cu : Nat → Option Nat) (ky : Key) (bc bs : Nat), s = (zI i - (1 : Int32), f, bc, bs) ∧ i ≤ T.n ∧ CP zd f xo T U false cu ky bd ∧ PV 63 T cu ∧ cu 0 = some i ∧ i * 5 + 8000 ≤ bc ∧ i * 30 + 620000 ≤ bs) (fun s => (s.1 + 1).toNatClampNeg) ?_ _ ⟨T.n, f, cu, ky, bc, bs, rfl, Nat.le_refl _, W, V, h0, by omega, by omega⟩
  rintro C _ ⟨i, f, cu, ky, bc, bs, rfl, hi, W, V, h0, c1, c2⟩ hC
  cases i with
  | zero =>
    refine ⟨fun _ => ⟨fun y => ?_, fun y => ?_⟩, fun z => (z (by decide)).elim⟩
    · have hp : 0 < T.n := by
        rcases Nat.eq_zero_or_pos T.n with e | e
        · rw [e] at y; exact absurd rfl y
        · exact e
      refine s_L_at (i := 0) hL (by omega) (fun r => ⟨y, ?_⟩)
      rintro v rfl
      obtain ⟨j, hj, ej⟩ := pk_andE (r >>> ((10 : Int32) &&& 31)) (m := 63) 6 (by decide)
      have hj : j < 64 := hj
      have ej : (r >>> ((10 : Int32) &&& 31)) &&& (63 : Int32) = zI j := ej
      have q1 := Nat.div_mul_le_self j T.n
      rw [ej, zI_div (by omega) (by omega), zI_mul, zI_sub q1]
      have q2 : j - j / T.n * T.n < T.n := by
        have a := Nat.div_add_mod j T.n
        have b := Nat.mod_lt j hp
        rw [Nat.mul_comm] at a
        omega
      generalize j - j / T.n * T.n = q at q2 ⊢
      refine ⟨1, 6, by omega, by omega, W.is, p_select q q2 W V (by omega) (by omega) (by omega) (fun f1 W1 => ⟨1, 6, by omega, by omega, W1.is, p_open 2 (by decide) W1 V (by omega) (by omega) (fun f2 W2 V2 => ⟨300, 11000, by omega, by omega, W2.is, p_save W2 V2 (by omega) (by omega) (by omega) (fun f3 W3 => ?_)⟩)⟩)⟩
      rw [less_key V.1 q2] at W3 V2
      exact w263 q2 hm hL W3 V2 V ⟨q, q2, stt_same _ _ _⟩ (Nat.le_refl _) (by omega) (by omega) hK
    · have hz : T.n = 0 := zI_lit (a := T.n) (b := 0) y (by omega) (by omega)
      refine ⟨1080, 13100, by omega, by omega, W.is, p_load0 W V (by omega) (by omega) (fun f1 T1 W1 V1 eh en => ⟨fun y => absurd rfl y, fun _ => ⟨W1.is, p_height W1 ?_⟩⟩)⟩
      rw [eh]
      refine ⟨fun y => absurd rfl y, fun _ => ⟨1, 6, by omega, by omega, W1.is, p_close 0 (by decide) W1 V1 (by omega) rfl (by omega) (by omega) (fun f2 W2 V2 => ⟨fun y => absurd rfl y, fun _ => ⟨300, 11000, by omega, by omega, W2.is, p_save W2 V2 (by omega) (by omega) (by omega) (fun f3 W3 => ?_)⟩⟩)⟩⟩
      rw [en]
      exact ⟨fun y => absurd rfl y, fun _ => hK⟩
  | succ i =>
    have e : zI (i + 1) - (1 : Int32) = zI i := zI_sub (a := i + 1) (b := 1) (by omega)
    rw [e]
    refine ⟨fun z => absurd z (zI_neg (by omega)), fun _ => ⟨3, 18, by omega, by omega, W.is, p_retreat 0 (by decide) h0 (by omega) W V (by omega) (by omega) (by omega) (fun f1 W1 V1 => ⟨1, 6, by omega, by omega, W1.is, p_select i (by omega) W1 V1 (by omega) (by omega) (by omega) (fun f2 W2 => ⟨fun _ => ?_, fun z => absurd rfl z⟩)⟩)⟩⟩
    rintro v rfl
    rw [← Int32.sub_eq_add_neg]
    refine hC _ ⟨i, f2, _, _, _, _, rfl, by omega, W2, V1, stt_same _ _ _, by omega, by omega⟩ ?_
    show (zI i - 1 + 1).toNatClampNeg < (zI (i + 1) - 1 + 1).toNatClampNeg
    rw [Int32.sub_add_cancel, Int32.sub_add_cancel, zI_clamp (by omega), zI_clamp (by omega)]
    omega
set_option maxRecDepth 20000 in
theorem Z2.w83 {m : Nat} (hm : m < 64) (hL : L ≤ 260) (W : CP zd f xo T U false cu ky bd) (V : PV 63 T cu) (h0 : cu 0 = some 0) (h1 : cu 1 = some 0) (c1 : 9100 ≤ bc) (c2 : 626000 ≤ bs) (hK : K) : ∃ n, loopW (wp_L_law_83 zd xs L b xo (zI m) (zI T.n) K) n ((0 : Int32), (if 0 < T.n then 1 else 0), f, bc, bs) := by
  have hn : T.n ≤ 63 := V.2.2.2.1
  refine loopW_of (fun s => ∃ (i : Nat) (f : FT) (cu : Nat → Option Nat) (ky : Key) (bc bs : Nat), s = (zI i, (if i < T.n then (1 : Int32) else 0), f, bc, bs) ∧ i ≤ T.n ∧ CP zd f xo T U false cu ky bd ∧ PV 63 T cu ∧ cu 0 = some i ∧ cu 1 = some 0 ∧ (T.n - i) * 10 + 8400 ≤ bc ∧ (T.n - i) * 50 + 622000 ≤ bs) (fun s => 100 - s.1.toNatClampNeg) ?_ _ ⟨0, f, cu, ky, bc, bs, rfl, Nat.zero_le _, W, V, h0, h1, by omega, by omega⟩
  rintro C _ ⟨i, f, cu, ky, bc, bs, rfl, hi, W, V, h0, h1, c1, c2⟩ hC
  by_cases hs : i < T.n
  · rw [if_pos hs]
    refine ⟨fun z => absurd z (by decide), fun _ => ⟨3, 18, by omega, by omega, W.is, p_current 0 (by decide) h0 hs W V (by omega) (by omega) (by omega) (fun f1 W1 => ⟨1, 6, by omega, by omega, W1.is, p_select i hs W1 V (by omega) (by omega) (by omega) (fun f2 W2 => ⟨fun _ => ⟨3, 18, by omega, by omega, W2.is, p_advance 0 (by decide) h0 hs W2 V (by omega) (by omega) (by omega) (fun f3 W3 V3 => ?_)⟩, fun z => absurd rfl z⟩)⟩)⟩⟩
    rintro v rfl
    rw [show (1 : Int32) = zI 1 from rfl, zI_add]
    refine hC _ ⟨i + 1, f3, _, _, _, _, rfl, by omega, W3, V3, stt_same _ _ _, by rw [stt_ne _ _ (by decide)]; exact h1, by omega, by omega⟩ ?_
    show 100 - (zI (i + 1)).toNatClampNeg < 100 - (zI i).toNatClampNeg
    rw [zI_clamp (by omega), zI_clamp (by omega)]
    omega
  · have e : i = T.n := by omega
    subst e
    rw [if_neg hs]
    have d1 : zI T.n - zI 0 = zI T.n := zI_sub (Nat.zero_le _)
    have d2 : zI 0 - zI T.n = -(zI T.n) := Int32.zero_sub _
    refine ⟨fun _ => ⟨fun z => absurd rfl z, fun _ => ⟨5, 30, by omega, by omega, W.is, p_distance 1 0 (by decide) (by decide) h1 h0 W V (by omega) (by omega) (by omega) ⟨fun z => absurd d1 z, fun _ => ⟨5, 30, by omega, by omega, W.is, p_distance 0 1 (by decide) (by decide) h0 h1 W V (by omega) (by omega) (by omega) ⟨fun _ => ?_, fun z => absurd d2 z⟩⟩⟩⟩⟩, fun z => absurd rfl z⟩
    rintro v rfl
    exact w151 hm hL W V h0 (by omega) (by omega) hK
theorem Z2.w64 {m : Nat} (hm : m < 64) (hL : L ≤ 260) (W : CP zd f xo T U false cu ky bd) (V : PV 63 T cu) (h0 : cu 0 = some 0) (h1 : cu 1 = some 0) (c1 : 9100 ≤ bc) (c2 : 626000 ≤ bs) (hK : K) {z0 : Int32} (hz : z0 = if 0 < T.n then 1 else 0) : wp_L_law_64 zd xs L b xo (zI m) (zI T.n) z0 (if 0 < T.n then 1 else 0) f bc bs K := by
  subst hz
  have a := w83 (L := L) (b := b) (xs := xs) (K := K) hm hL W V h0 h1 c1 c2 hK
  refine ⟨fun _ => ⟨fun z => ?_, fun z => ?_⟩, fun z => absurd rfl z⟩
  · have hn : T.n = 0 := by
      have hn : T.n ≤ 63 := V.2.2.2.1
      rw [show (0 : Int32) = zI 0 from rfl, zI_le (by omega) (by omega)] at z; omega
    rw [if_neg (show ¬ 0 < T.n by omega)] at a
    exact a
  · have hn : 0 < T.n := by
      have hn : T.n ≤ 63 := V.2.2.2.1
      rw [show (0 : Int32) = zI 0 from rfl, zI_le (by omega) (by omega)] at z; omega
    rw [if_pos hn] at a
    exact a
theorem Z2.w39 {m : Nat} (hm : m < 64) (hL : L ≤ 260) (W : CP zd f xo T U false cu ky bd) (V : PV 63 T cu) (e0 : ky = []) (h0 : cu 0 = some 0) (h3 : cu 3 = none) (c1 : 9200 ≤ bc) (c2 : 626100 ≤ bs) (hK : K) {z0 : Int32} (hz : z0 = if 0 < T.n then 1 else 0) : wp_L_law_39 zd xs L b xo (zI m) (zI T.n) z0 (if 0 < T.n then 1 else 0) f bc bs K := by
  subst hz e0
  refine ⟨fun z => absurd rfl z, fun _ => ⟨1, 6, by omega, by omega, W.is, p_close 3 (by decide) W V (by omega) h3 (by omega) (by omega) (fun f1 W1 V1 => ⟨fun z => absurd rfl z, fun _ => ⟨1, 6, by omega, by omega, W1.is, p_open 1 (by decide) W1 V1 (by omega) (by omega) (fun f2 W2 V2 => ?_)⟩⟩)⟩⟩
  rw [less_nil V.1] at W2 V2 ⊢
  have g0 : stt (stt cu 3 none) 1 (some 0) 0 = some 0 := by rw [stt_ne _ _ (by decide), stt_ne _ _ (by decide)]; exact h0
  have g1 : stt (stt cu 3 none) 1 (some 0) 1 = some 0 := stt_same _ _ _
  refine ⟨fun z => w64 hm hL W2 V2 g0 g1 (by omega) (by omega) hK ?_, fun z => w64 hm hL W2 V2 g0 g1 (by omega) (by omega) hK ?_⟩
  · have hn : T.n ≤ 63 := V.2.2.2.1
    rw [show (0 : Int32) = zI 0 from rfl, zI_le (by omega) (by omega)] at z
    rw [if_neg (by omega)]
  · have hn : T.n ≤ 63 := V.2.2.2.1
    rw [show (0 : Int32) = zI 0 from rfl, zI_le (by omega) (by omega)] at z
    rw [if_pos (by omega)]
theorem Z2.s_L_law (hL : L ≤ 260) (b1 : 24000 ≤ mc) (b2 : 1700000 ≤ ms) (hK : K) : wp_L_law zd xs L b f mc ms K := by
  refine ⟨14000, 1000000, by omega, by omega, s_L_build hL (by omega) (by omega) (fun f1 xo T ky cu hcu W V => s_L_at (i := 0) hL (by omega) (fun r => ?_))⟩
  rintro v rfl
  obtain ⟨m, hm, em⟩ := pk_andE r (m := 63) 6 (by decide)
  have hm : m < 64 := hm
  have em : r &&& (63 : Int32) = zI m := em
  rw [em]
  have hn : T.n ≤ 63 := V.2.2.2.1
  refine ⟨W.is, p_size W ⟨2, 13, by omega, by omega, W.is, s_X8_cut0 W (by omega) (by omega) (fun f2 W2 => ⟨1, 6, by omega, by omega, W2.is, p_open 0 (by decide) W2 V (by omega) (by omega) (fun f3 W3 V3 => ?_)⟩)⟩⟩
  rw [less_nil V.1] at W3 V3 ⊢
  have g0 : stt cu 0 (some 0) 0 = some 0 := stt_same _ _ _
  have g3 : stt cu 0 (some 0) 3 = none := by rw [stt_ne _ _ (by decide)]; exact hcu 3
  refine ⟨fun z => w39 hm hL W3 V3 rfl g0 g3 (by omega) (by omega) hK ?_, fun z => w39 hm hL W3 V3 rfl g0 g3 (by omega) (by omega) hK ?_⟩
  · rw [show (0 : Int32) = zI 0 from rfl, zI_le (by omega) (by omega)] at z
    rw [if_neg (by omega)]
  · rw [show (0 : Int32) = zI 0 from rfl, zI_le (by omega) (by omega)] at z
    rw [if_pos (by omega)]
end
