section
variable {zd : Nat} {f f' : FT} {o o' : Z2.OW} {xo oo : Nat} {ad ad2 : Nat → Nat} {ca ia ra la ka ba : Nat} {T U : Z2.Tr} {sv : Bool} {cu : Nat → Option Nat} {ky bd : Z2.Key} {w : Nat} {wk : Nat → Z2.Key} {wv : Nat → Int32} {mc ms : Nat}
theorem Z2.zI_0le {i : Nat} (h : i < 2147483648) : (0 : Int32) ≤ zI i := by rw [show (0 : Int32) = zI 0 from rfl, zI_le (by omega) h]; omega
theorem Z2.s_X8_cutKey (W : CX zd f o xo oo ad ad2 ca ia ra la ka ba T U sv cu ky bd w wk wv) (b1 : 2 ≤ mc) (b2 : 13 ≤ ms) {x : Int32} {K : Int32 → FT → Prop} {KX : String → FT → Prop} (h1 : (∀ i, i ≤ ky.length → x ≠ zI i) → KX "java/lang/IllegalArgumentException" f) (h0 : ∀ i, i ≤ ky.length → x = zI i → ∀ f' o' ka', CX zd f' o' xo oo ad ad2 ca ia ra la ka' ba T U sv cu (ky.take i) bd w wk wv → K (zI ky.length) f') : wp_X8_cutKey xo x f mc ms K KX := by
  have W2 := W
  obtain ⟨x1, x2, x3, x4, x5, x6, x7, x8, x9, x10, x11⟩ := W
  have lk := x9.v.1
  refine gA_i x1 rfl ⟨x9.o, s_X3_length x9 ⟨fun z => ⟨by omega, by omega, h1 (fun i hi e => ?_)⟩, fun z => ⟨fun y => ?_, fun y => ⟨by omega, by omega, h1 (fun i hi e => y ?_)⟩⟩⟩⟩
  · rw [e] at z; exact absurd z (zI_neg (by omega))
  · obtain ⟨i, hi, e⟩ := asZ (by omega) (Int32.not_lt.mp z) y
    subst e
    refine gA_i x1 rfl ⟨2, 13, b1, b2, x9.o, s_X3_prefix x9 hi (by omega) (by omega) (fun q f1 o1 hk F => ?_)⟩
    have W1 := W2.fr F (fun q _ h => h)
    refine pV_g W1.1 (by simp) (fun f2 e2 n2 => ?_)
    exact h0 i hi rfl f2 o1 q (W1.obj (sv2 := sv) e2 n2 hk W1.2.2.2.2.2.2.2.2.2.1)
  · rw [e, zI_le (by omega) (by omega)]; exact hi
theorem Z2.kby_get (x : Key) {i : Nat} (h : i < x.length) : kby x i = x.getD i 0 := by
  unfold kby; rw [if_pos h]
theorem Z2.s_X8_swapBound (W : CX zd f o xo oo ad ad2 ca ia ra la ka ba T U sv cu ky bd w wk wv) {K : Int32 → FT → Prop} (h0 : ∀ f', CX zd f' o xo oo ad ad2 ca ia ra la ba ka T U sv cu bd ky w wk wv → K (zI bd.length) f') : wp_X8_swapBound xo f K := by
  have W2 := W
  obtain ⟨x1, x2, x3, x4, x5, x6, x7, x8, x9, x10, x11⟩ := W
  refine gA_i x1 rfl (gA_i x1 rfl (pV_g x1 (by simp) (fun f2 e2 n2 => ?_)))
  have W3 := W2.obj (sv2 := sv) e2 n2 x10 x10
  refine pV_g W3.1 (by simp) (fun f3 e3 n3 => ?_)
  have F3 : Fr (fun q => q = 303) f o f3 o := (Fr.one x1 e2 x2 n2).trans (Fr.one W3.1 e3 x2 n3)
  have W4 := W3.obj (sv2 := sv) (ky2 := bd) (bd2 := ky) e3 n3 W3.2.2.2.2.2.2.2.2.1 (x9.fr (Fr.one x1 e2 x2 n2))
  exact gA_i W4.1 rfl ⟨W4.2.2.2.2.2.2.2.2.1.o, s_X3_length W4.2.2.2.2.2.2.2.2.1 (h0 f3 W4)⟩
theorem Z2.s_X8_rank (W : CX zd f o xo oo ad ad2 ca ia ra la ka ba T U sv cu ky bd w wk wv) (I : T.IM) {K : Int32 → Prop} (hK : K (zI (T.less ky))) : wp_X8_rank xo f K := by
  obtain ⟨x1, x2, x3, x4, x5, x6, x7, x8, x9, x10, x11⟩ := W
  obtain ⟨c, R⟩ := x3.keysR
  refine gA_i x1 rfl (gA_i x3.1 rfl (gA_i x1 rfl ⟨R.o, s_X4_countBelow R x9 I.srt 0 ?_⟩))
  rw [Tr.less_ff]; exact hK
theorem Z2.s_X8_size (W : CX zd f o xo oo ad ad2 ca ia ra la ka ba T U sv cu ky bd w wk wv) {K : Int32 → Prop} (hK : K (zI T.n)) : wp_X8_size xo f K := by
  obtain ⟨x1, x2, x3, x4, x5, x6, x7, x8, x9, x10, x11⟩ := W
  obtain ⟨c, R⟩ := x3.keysR
  exact gA_i x1 rfl (gA_i x3.1 rfl ⟨R.o, s_X4_count R hK⟩)
theorem Z2.s_X8_height (W : CX zd f o xo oo ad ad2 ca ia ra la ka ba T U sv cu ky bd w wk wv) {K : Int32 → Prop} (hK : K (zI T.h)) : wp_X8_height xo f K := by
  obtain ⟨x1, x2, x3, x4, x5, x6, x7, x8, x9, x10, x11⟩ := W
  exact gA_i x1 rfl (gI_i x3.1 rfl hK)
/-- a key of the tree becomes the key, its value is answered -/
theorem Z2.CX.keyIs (W : CX zd f o xo oo ad ad2 ca ia ra la ka ba T U sv cu ky bd w wk wv) {i : Nat} (hi : i < T.n) {K : Int32 → FT → Prop} (h0 : ∀ f' ka', CX zd f' o xo oo ad ad2 ca ia ra la ka' ba T U sv cu (T.ks i) bd w wk wv → K (T.vs i) f') : gA f xo 11 0 fun a_8 => gA f a_8 10 0 fun a_10 => isO f a_10 7 ∧ wp_X4_at a_10 (zI i) f (fun a_12 => pV f xo 11 7 (.ref a_12) fun f_14 => gA f_14 xo 11 0 fun a_15 => gA f_14 a_15 10 1 fun a_17 => isO f_14 a_17 5 ∧ wp_X2_at a_17 (zI i) f_14 (fun r_19 => K r_19 f_14)) := by
  have W2 := W
  obtain ⟨x1, x2, x3, x4, x5, x6, x7, x8, x9, x10, x11⟩ := W
  obtain ⟨c, R⟩ := x3.keysR
  refine gA_i x1 rfl (gA_i x3.1 rfl ⟨R.o, s_X4_at R hi (fun a hk => pV_g x1 (by simp) (fun f2 e2 n2 => ?_))⟩)
  have W3 := W2.obj (sv2 := sv) e2 n2 hk x10
  obtain ⟨c2, V⟩ := W3.2.2.1.valsR
  exact gA_i W3.1 rfl (gA_i W3.2.2.1.1 rfl ⟨V.is, s_X2_at V hi (h0 f2 a W3)⟩)
theorem Z2.s_X8_select (W : CX zd f o xo oo ad ad2 ca ia ra la ka ba T U sv cu ky bd w wk wv) (hn : T.n ≤ 300) (b1 : 1 ≤ mc) (b2 : 6 ≤ ms) {x : Int32} {K : Int32 → FT → Prop} {KX : String → FT → Prop} (h1 : (∀ i, i < T.n → x ≠ zI i) → KX "java/lang/IndexOutOfBoundsException" f) (h0 : ∀ i, i < T.n → x = zI i → ∀ f' ka', CX zd f' o xo oo ad ad2 ca ia ra la ka' ba T U sv cu (T.ks i) bd w wk wv → K (T.vs i) f') : wp_X8_select xo x f mc ms K KX := by
  have W2 := W
  obtain ⟨x1, x2, x3, x4, x5, x6, x7, x8, x9, x10, x11⟩ := W
  obtain ⟨c, R⟩ := x3.keysR
  refine ⟨fun z => ⟨b1, b2, h1 (fun i hi e => ?_)⟩, fun z => gA_i x1 rfl (gA_i x3.1 rfl ⟨R.o, s_X4_count R ⟨fun y => ?_, fun y => ⟨b1, b2, h1 (fun i hi e => y ?_)⟩⟩⟩)⟩
  · rw [e] at z; exact absurd z (zI_neg (by omega))
  · obtain ⟨i, hi, e⟩ := asZ (by omega) (Int32.not_lt.mp z) (Int32.le_of_lt y)
    subst e
    rw [zI_lt (by omega) (by omega)] at y
    exact W2.keyIs y (h0 i y rfl)
  · rw [e, zI_lt (by omega) (by omega)]; exact hi
end
