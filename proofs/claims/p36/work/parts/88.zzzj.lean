/-! p36: the law's own methods -/
section
variable {zd : Nat} {f : FT} {xo : Nat} {T U : Z2.Tr} {sv : Bool} {cu cu2 : Nat → Option Nat} {ky bd : Z2.Key} {k b L bc bs mc ms : Nat} {xs : Nat → Int32}
theorem Z2.CP.is (W : CP zd f xo T U sv cu ky bd) : isO f xo 11 := by
  obtain ⟨o, ad, ad2, ca, ia, ra, la, ka, ba, W⟩ := W
  exact W.is
theorem Z2.CP.vk (W : CP zd f xo T U sv cu ky bd) : VK ky := by
  obtain ⟨o, ad, ad2, ca, ia, ra, la, ka, ba, W⟩ := W
  obtain ⟨b, g, -, -, -, -, -, h⟩ := W.2.2.2.2.2.2.2.2.1
  exact h
theorem Z2.s_L_at {i : Nat} (hL : L ≤ 260) (hi : i < 1000) {K : Int32 → Prop} (hK : ∀ v, K v) : wp_L_at xs L b (zI i) f K := by
  rintro v rfl
  refine ⟨fun _ => hK _, fun y => ⟨in_i ?_ (by omega), fun v _ => hK v⟩⟩
  have y : ¬ (zI L ≤ zI i) := y
  rw [zI_le (by omega) (by omega)] at y
  omega
theorem Z2.s_L_number {i : Nat} (hL : L ≤ 260) (hi : i < 900) {K : Int32 → Prop} (hK : ∀ v, K v) : wp_L_number xs L b (zI i) f K := by
  refine ⟨by decide, ?_⟩
  have h1 : i / 6 * 6 ≤ i := Nat.div_mul_le_self i 6
  rw [show (6 : Int32) = zI 6 from rfl, zI_div (by omega) (by omega), zI_mul, zI_sub h1, show (1 : Int32) = zI 1 from rfl, zI_add]
  exact s_L_at hL (by omega) (fun v => ⟨by decide, by decide, hK _⟩)
theorem Z2.s_X8_cut0 (W : CP zd f xo T U sv cu ky bd) (b1 : 2 ≤ mc) (b2 : 13 ≤ ms) {K : Int32 → FT → Prop} {KX : String → FT → Prop} (h0 : ∀ f', CP zd f' xo T U sv cu [] bd → K (zI ky.length) f') : wp_X8_cutKey xo (0 : Int32) f mc ms K KX := by
  obtain ⟨o, ad, ad2, ca, ia, ra, la, ka, ba, W⟩ := W
  refine s_X8_cutKey W b1 b2 (fun e => absurd rfl (e 0 (Nat.zero_le _))) (fun i hi e f' o' ka' W' => h0 f' ?_)
  have hv : ky.length ≤ 12 := (CP.vk ⟨o, ad, ad2, ca, ia, ra, la, ka, ba, W⟩).1
  rw [show (0 : Int32) = zI 0 from rfl, zI_inj (by omega) (by omega)] at e
  subst e
  exact ⟨o', ad, ad2, ca, ia, ra, la, ka', ba, W'⟩
theorem Z2.s_L_key {x : Int32} (W : CP zd f xo T U sv cu ky bd) (b1 : 10 ≤ mc) (b2 : 65 ≤ ms) {K : FT → Prop} (hK : ∀ f' ky', CP zd f' xo T U sv cu ky' bd → K f') : wp_L_key xo x f mc ms K := by
  refine ⟨2, 13, by omega, by omega, W.is, s_X8_cut0 W (by omega) (by omega) (fun f1 W1 => ?_)⟩
  rintro v rfl
  obtain ⟨j, hj, ej⟩ := pk_andE x (m := 3) 2 (by decide)
  have hj : j < 4 := hj
  have ej : x &&& (3 : Int32) = zI j := ej
  rw [ej, show (1 : Int32) = zI 1 from rfl, zI_add]
  refine loopW_of (fun s => ∃ (i : Nat) (f : FT) (ky : Key) (bc bs : Nat), s = (zI i, f, bc, bs) ∧ i ≤ 1 + j ∧ CP zd f xo T U sv cu ky bd ∧ ky.length = i ∧ (4 - i) * 2 ≤ bc ∧ (4 - i) * 13 ≤ bs) (fun s => 10 - s.1.toNatClampNeg) ?_ _ ⟨0, f1, [], _, _, rfl, by omega, W1, rfl, by omega, by omega⟩
  rintro C _ ⟨i, f, ky, bc, bs, rfl, hi, W, hl, c1, c2⟩ hC
  refine ⟨fun _ => hK f ky W, fun y => ?_⟩
  rw [zI_le (by omega) (by omega)] at y
  obtain ⟨u, hu, eu⟩ := pk_andE (x >>> (((2 : Int32) + ((2 : Int32) * zI i)) &&& 31)) (m := 3) 2 (by decide)
  have hu : u < 4 := hu
  have eu : (x >>> (((2 : Int32) + ((2 : Int32) * zI i)) &&& 31)) &&& (3 : Int32) = zI u := eu
  refine ⟨2, 13, by omega, by omega, W.is, ?_⟩
  rw [eu, show (9 : Int32) = zI 9 from rfl, zI_mul]
  have q1 : (0 : Int32) ≤ zI (u * 9) := by rw [show (0 : Int32) = zI 0 from rfl, zI_le (by omega) (by omega)]; omega
  have q2 : zI (u * 9) ≤ 127 := by rw [show (127 : Int32) = zI 127 from rfl, zI_le (by omega) (by omega)]; omega
  obtain ⟨o, ad, ad2, ca, ia, ra, la, ka, ba, W⟩ := W
  refine s_X8_feed W (by omega) (by omega) (fun e => absurd ⟨q1, q2⟩ e) (fun _ _ e => absurd e (by omega)) (fun _ _ _ f' o' ka' W' => ?_)
  rintro v8 rfl
  rw [show (1 : Int32) = zI 1 from rfl, zI_add]
  refine hC _ ⟨i + 1, f', _, _, _, rfl, by omega, ⟨o', ad, ad2, ca, ia, ra, la, ka', ba, W'⟩, by simp [hl], by omega, by omega⟩ ?_
  show 10 - (zI (i + 1)).toNatClampNeg < 10 - (zI i).toNatClampNeg
  rw [zI_clamp (by omega), zI_clamp (by omega)]
  omega
/-- put: the entry comes or its value is another; the cursors stay at theirs -/
theorem Z2.s_X8_putP {v : Int32} (W : CP zd f xo T U sv cu ky bd) (V : PV k T cu) (hk : k ≤ 200) (b1 : 100 ≤ mc) (b2 : 9300 ≤ ms) {K : Int32 → FT → Prop} {KX : String → FT → Prop} (h0 : ∀ r f' T' cu', CP zd f' xo T' U sv cu' ky bd → PV (k + 1) T' cu' → T.n ≤ T'.n → (∀ i j, cu i = some j → j < T.n → ∃ j', j' < T'.n ∧ cu' i = some j') → (∀ i, cu i = none → cu' i = none) → K r f') : wp_X8_put zd xo v f mc ms K KX := by
  obtain ⟨B, h11, m3, -⟩ := V.bt (by omega)
  have vk := W.vk
  obtain ⟨o, ad, ad2, ca, ia, ra, la, ka, ba, W⟩ := W
  have vn := V.2.2.2.1
  have vc := V.2.2.2.2.1
  refine s_X8_put W B.im m3 h11 (fun i j hi e => by have := vc i j hi e; omega) b1 b2 (fun e1 e2 f' W' => ?_) (fun _ e => absurd e (by omega)) (fun y hn f' o' W' => ?_)
  · exact h0 0 f' _ cu ⟨o, ad, ad2, ca, ia, ra, la, ka, ba, W'⟩ ((V.old _).wide (Nat.le_succ _)) (Nat.le_refl _) (fun i j e hj => ⟨j, hj, e⟩) (fun _ e => e)
  · obtain ⟨V', en⟩ := V.inz vk v hn y
    refine h0 1 f' _ _ ⟨o', ad, ad2, ca, ia, ra, la, ka, ba, W'⟩ V' (by omega) (fun i j e hj => ?_) (fun i e => ?_)
    · rw [en]
      exact cuIns_at e hj
    · unfold cuIns
      rw [e]
set_option maxRecDepth 20000 in
theorem Z2.s_L_build (hL : L ≤ 260) (b1 : 14000 ≤ mc) (b2 : 1000000 ≤ ms) {K : Nat → FT → Prop} (hK : ∀ f' xo T ky cu, (∀ i, cu i = none) → CP zd f' xo T T00 false cu ky [] → PV 63 T cu → K xo f') : wp_L_build zd xs L b f mc ms K := by
  refine nO_o (o := fun _ => none) (w := 303) (by omega) (by omega) (fun xo f1 o1 Z _ => ⟨200, 1000, by omega, by omega, s_X8_init Z (by decide) (by decide) (fun f2 o2 X => ?_)⟩)
  obtain ⟨d1, d2, ca, ia, ra, la, ka, x1, x2, x3, x4, x5, x6, x7, x8, x9⟩ := X
  have W : CX zd f2 o2 xo 0 d1 d2 ca ia ra la ka ka T00 T00 false (fun _ => none) [] [] 0 wk0 wv0 := ⟨x1, x2, x3, x4, x5.congr (fun _ _ => rfl), x6, x7, x8, x9, x9, trivial⟩
  refine s_L_at (i := 0) hL (by omega) (fun r0 => ⟨1, 6, by omega, by omega, W.is, ?_⟩)
  obtain ⟨j, hj, ej⟩ := pk_andE (r0 >>> ((6 : Int32) &&& 31)) (m := 15) 4 (by decide)
  have hj : j < 16 := hj
  have ej : (r0 >>> ((6 : Int32) &&& 31)) &&& (15 : Int32) = zI j := ej
  rw [ej, show (64 : Int32) = zI 64 from rfl, zI_add]
  have V0 : PV 0 T00 (fun _ => none) := ⟨T00_im, T00_pot, Nat.le_refl _, Nat.le_refl _, fun i j _ e => (by cases e), Nat.le_refl _, Nat.le_refl _⟩
  have q1 : (64 : Int32) ≤ zI (64 + j) := by rw [show (64 : Int32) = zI 64 from rfl, zI_le (by omega) (by omega)]; omega
  have q2 : zI (64 + j) ≤ 200 := by rw [show (200 : Int32) = zI 200 from rfl, zI_le (by omega) (by omega)]; omega
  refine s_X8_setCapacity W (Nat.zero_le _) (by omega) (by omega) (fun e => absurd ⟨q1, q2⟩ e) (fun _ _ e => absurd e (Nat.lt_irrefl _)) (fun c c1 c2 _ _ f3 W3 => ?_)
  have V3 := V0.cap c ⟨c1, c2⟩
  have W3 : CP zd f3 xo _ T00 false (fun _ => none) [] [] := ⟨_, _, _, _, _, _, _, _, _, W3⟩
  generalize (Tr.mk c T00.n T00.ks T00.vs T00.h T00.m T00.E T00.S T00.c0 T00.c1 T00.c2) = T3 at W3 V3
  refine s_L_at (i := 0) hL (by omega) (fun r1 => ?_)
  rintro v35 rfl
  obtain ⟨m, hm, em⟩ := pk_andE r1 (m := 63) 6 (by decide)
  have hm : m < 64 := hm
  have em : r1 &&& (63 : Int32) = zI m := em
  rw [em]
  refine loopW_of (fun s => ∃ (i : Nat) (f : FT) (T : Tr) (ky : Key) (cu : Nat → Option Nat) (bc bs : Nat), s = (zI i, f, bc, bs) ∧ i ≤ m ∧ (∀ i, cu i = none) ∧ CP zd f xo T T00 false cu ky [] ∧ PV i T cu ∧ (63 - i) * 110 ≤ bc ∧ (63 - i) * 9400 ≤ bs) (fun s => 100 - s.1.toNatClampNeg) ?_ _ ⟨0, f3, T3, [], fun _ => none, _, _, rfl, by omega, fun _ => rfl, W3, V3, by omega, by omega⟩
  rintro C _ ⟨i, f, T, ky, cu, bc, bs, rfl, hi, hcu, W, V, c1, c2⟩ hC
  refine ⟨fun _ => hK f xo T ky cu hcu W (V.wide (by omega)), fun y => ?_⟩
  rw [zI_le (by omega) (by omega)] at y
  refine s_L_number hL (by omega) (fun r2 => ⟨10, 65, by omega, by omega, s_L_key W (by omega) (by omega) (fun f4 ky4 W4 => ⟨100, 9300, by omega, by omega, W4.is, s_X8_putP W4 V (by omega) (by omega) (by omega) (fun r f5 T5 cu5 W5 V5 _ _ hc5 => ?_)⟩)⟩)
  rintro v15 rfl
  rw [show (1 : Int32) = zI 1 from rfl, zI_add]
  refine hC _ ⟨i + 1, f5, T5, ky4, cu5, _, _, rfl, by omega, fun i => hc5 i (hcu i), W5, V5, by omega, by omega⟩ ?_
  show 100 - (zI (i + 1)).toNatClampNeg < 100 - (zI i).toNatClampNeg
  rw [zI_clamp (by omega), zI_clamp (by omega)]
  omega
end
