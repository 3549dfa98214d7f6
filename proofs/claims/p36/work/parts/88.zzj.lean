section
variable {zd : Nat} {f f' : FT} {o o' : Z2.OW} {xo oo : Nat} {ad ad2 : Nat → Nat} {ca ia ra la ka ba : Nat} {T U : Z2.Tr} {sv : Bool} {cu cu2 : Nat → Option Nat} {ky bd : Z2.Key} {w : Nat} {wk : Nat → Z2.Key} {wv : Nat → Int32} {mc ms : Nat}
/-- the cursors are closed -/
theorem Z2.CX.closeAll (W : CX zd f o xo oo ad ad2 ca ia ra la ka ba T U sv cu ky bd w wk wv) {K : FT → Prop} (hK : ∀ f', CX zd f' o xo oo ad ad2 ca ia ra la ka ba T U sv (fun _ => none) ky bd w wk wv → K f') : wp_X0_closeAll ca f K :=
  s_X0_closeAll W.2.2.2.2.1 (fun f1 C1 F1 => hK f1 (W.cur (cu2 := fun _ => none) C1 F1 (fun _ _ => rfl)))
/-- the tree is another: of region 0 only -/
theorem Z2.CX.tree {T2 : Tr} (W : CX zd f o xo oo ad ad2 ca ia ra la ka ba T U sv cu ky bd w wk wv) (H : TT zd f' o' 0 ad T2) (F : Fr (fun q => q / 100 = 0) f o f' o') (e0 : T2.c0 = T.c0) (e1 : T2.c1 = T.c1) (e2 : T2.c2 = T.c2) : CX zd f' o' xo oo ad ad2 ca ia ra la ka ba T2 U sv cu ky bd w wk wv := by
  obtain ⟨x1, x2, x3, x4, x5, x6, x7, x8, x9, x10, x11⟩ := W
  obtain ⟨p1, p2⟩ := F.get x1 (fun q e => by rw [x2] at e; cases e; omega)
  have x6' := x6.fr F (by omega)
  have x7' := x7.frA F (by omega)
  rw [← e0, ← e1] at x6'
  rw [← e2] at x7'
  exact ⟨p1, p2.trans x2, H, x4.fr F (fun q hq => by omega), x5.fr F (by omega), x6', x7', x8.fr F (fun q hq => by omega), x9.fr F, x10.fr F, x11.fr F (by omega)⟩
theorem Z2.s_X8_load (W : CX zd f o xo oo ad ad2 ca ia ra la ka ba T U sv cu ky bd w wk wv) (hc : 64 ≤ T.cap ∧ T.cap ≤ 200) (hw : w ≤ 300) (hv : ∀ i, i < w → VK (wk i)) (hs : ∀ i j, i < j → j < w → klt (wk i) (wk j)) (b1 : 1080 ≤ mc) (b2 : 13100 ≤ ms) {x : Int32} {K : Int32 → FT → Prop} {KX : String → FT → Prop} (h1 : ¬ ((40 : Int32) ≤ x ∧ x ≤ 100) → KX "java/lang/IllegalArgumentException" f) (h0 : ∀ fill, 40 ≤ fill → fill ≤ 100 → x = zI fill → ∀ f' o', CX zd f' o' xo oo ad ad2 ca ia ra la ka ba (T.load w wk wv (T.cap * fill / 100)) U sv (fun _ => none) ky bd 0 wk wv → K (zI (sumTo (T.load w wk wv (T.cap * fill / 100)).m (T.load w wk wv (T.cap * fill / 100)).h)) f') : wp_X8_load zd xo x f mc ms K KX := by
  have W2 := W
  obtain ⟨x1, x2, x3, x4, x5, x6, x7, x8, x9, x10, x11⟩ := W
  refine ⟨fun z => ⟨by omega, by omega, h1 (fun y => absurd y.1 (Int32.not_le.mpr z))⟩, fun z => ⟨fun y => ?_, fun y => ⟨by omega, by omega, h1 (fun v => y v.2)⟩⟩⟩
  have z := Int32.not_lt.mp z
  obtain ⟨fill, hq, e⟩ := asZ (N := 100) (by decide) (Int32.le_trans (show (0 : Int32) ≤ 40 by decide) z) y
  subst e
  rw [show (40 : Int32) = zI 40 from rfl, zI_le (by omega) (by omega)] at z
  have hcf : T.cap * fill ≤ 200 * 100 := Nat.mul_le_mul hc.2 hq
  refine gA_i x1 rfl (gA_i x1 rfl (gA_i x1 rfl (gI_i x3.1 rfl ⟨by decide, mc, ms, Nat.le_refl _, Nat.le_refl _, x8.is, ?_⟩)))
  rw [zI_mul, show (100 : Int32) = zI 100 from rfl, zI_div (by omega) (by omega)]
  refine s_X5_build x3 hc x8 hw hv hs (by omega) b1 b2 (fun f1 o1 H1 F1 => ?_)
  obtain ⟨c0, c1, c2⟩ := Tr.load_c T w wk wv (T.cap * fill / 100)
  have W1 := W2.tree H1 F1 c0 c1 c2
  obtain ⟨y1, y2, y3, y4, y5, y6, y7, ⟨kr, ir, ck, ci, z1, z2, z3, z4⟩, y9, y10, y11⟩ := W1
  refine gA_i y1 rfl ⟨⟨_, z1⟩, gA_i z1 rfl ⟨z3.o, s_X4_empty z3 (fun f2 R2 F2 => ?_)⟩⟩
  obtain ⟨p1, p2⟩ := F2.get z1 (fun q e => by rw [z2] at e; cases e; omega)
  have V2 := z4.fr F2 (by omega)
  refine gA_i p1 rfl ⟨V2.is, s_X2_empty V2 (fun f3 V3 F3 => ?_)⟩
  have F23 : Fr (fun q => q = 250 ∨ q = 201) f1 o1 f3 o1 := (F2.mono (fun q hq => Or.inl hq)).trans (F3.mono (fun q hq => Or.inr hq))
  obtain ⟨p3, p4⟩ := F23.get y1 (fun q e => by rw [y2] at e; cases e; omega)
  obtain ⟨p5, p6⟩ := F23.get z1 (fun q e => by rw [z2] at e; cases e; omega)
  have W3 : CX zd f3 o1 xo oo ad ad2 ca ia ra la ka ba (T.load w wk wv (T.cap * fill / 100)) U sv cu ky bd 0 wk wv := ⟨p3, y2, y3.fr F23 (fun q hq => by omega), y4.fr F23 (fun q hq => by omega), y5.fr F23 (by omega), y6.fr F23 (by omega), y7.frA F23 (by omega), ⟨kr, ir, _, _, p5, z2, (R2 wk).fr F3 (by omega) (by omega), V3 wv⟩, y9.fr F23, y10.fr F23, y11.fr F23 (by omega)⟩
  refine gA_i W3.1 rfl ⟨W3.2.2.2.2.1.is, W3.closeAll (fun f4 W4 => ?_)⟩
  exact gA_i W4.1 rfl ⟨W4.2.2.1.is, TT.allPages W4.2.2.1 (h0 fill z hq rfl f4 o1 W4)⟩
theorem Z2.s_X8_save (W : CX zd f o xo oo ad ad2 ca ia ra la ka ba T U sv cu ky bd w wk wv) (I : T.IM) (hm : T.m 0 ≤ 300) (hh : T.h ≤ 12) (hsum : sumTo T.m T.h ≤ 1300) (b1 : 300 ≤ mc) (b2 : 11000 ≤ ms) {K : Int32 → FT → Prop} (h0 : ∀ f' o', CX zd f' o' xo oo ad ad2 ca ia ra la ka ba T T true cu ky bd w wk wv → K (zI T.n) f') : wp_X8_saveSnapshot zd xo f mc ms K := by
  have W2 := W
  obtain ⟨x1, x2, x3, x4, x5, x6, x7, x8, x9, x10, x11⟩ := W
  refine gA_i x1 rfl (gA_i x1 rfl ⟨mc, ms, Nat.le_refl _, Nat.le_refl _, x4.is, s_X7_copyFrom (by decide) x4 x3 I hm hh hsum b1 b2 (fun f1 o1 H1 F1 => ?_)⟩)
  obtain ⟨p1, p2⟩ := F1.get x1 (fun q e => by rw [x2] at e; cases e; omega)
  have W1 : CX zd f1 o1 xo oo ad ad2 ca ia ra la ka ba T T sv cu ky bd w wk wv := ⟨p1, p2.trans x2, x3.fr F1 (fun q hq => by omega), H1, x5.fr F1 (by omega), x6.fr F1 (by omega), x7.frA F1 (by omega), x8.fr F1 (fun q hq => by omega), x9.fr F1, x10.fr F1, x11.fr F1 (by omega)⟩
  refine pV_g W1.1 (by simp) (fun f2 e2 n2 => ?_)
  have W3 := W1.obj (sv2 := true) e2 n2 W1.2.2.2.2.2.2.2.2.1 W1.2.2.2.2.2.2.2.2.2.1
  obtain ⟨c, R⟩ := W3.2.2.1.keysR
  exact gA_i W3.1 rfl (gA_i W3.2.2.1.1 rfl ⟨R.o, s_X4_count R (h0 f2 o1 W3)⟩)
theorem Z2.s_X8_restore (W : CX zd f o xo oo ad ad2 ca ia ra la ka ba T U sv cu ky bd w wk wv) (hU : sv = true → U.IM ∧ U.m 0 ≤ 300 ∧ U.h ≤ 12 ∧ sumTo U.m U.h ≤ 1300) (b1 : 300 ≤ mc) (b2 : 11000 ≤ ms) {K : Int32 → FT → Prop} {KX : String → FT → Prop} (h1 : sv = false → KX "java/lang/IllegalStateException" f) (h0 : sv = true → ∀ f' o', CX zd f' o' xo oo ad ad2 ca ia ra la ka ba (Tr.mk U.cap U.n U.ks U.vs U.h U.m U.E U.S T.c0 T.c1 T.c2) U sv (fun _ => none) ky bd w wk wv → K (zI U.n) f') : wp_X8_restoreSnapshot zd xo f mc ms K KX := by
  have W2 := W
  obtain ⟨x1, x2, x3, x4, x5, x6, x7, x8, x9, x10, x11⟩ := W
  cases sv with
  | false => exact gI_i x1 rfl ⟨fun y => absurd rfl y, fun _ => ⟨by omega, by omega, h1 rfl⟩⟩
  | true =>
    obtain ⟨u1, u2, u3, u4⟩ := hU rfl
    refine gI_i x1 rfl ⟨fun _ => ?_, fun y => absurd y (by decide)⟩
    refine gA_i x1 rfl (gA_i x1 rfl ⟨mc, ms, Nat.le_refl _, Nat.le_refl _, x3.is, s_X7_copyFrom (by decide) x3 x4 u1 u2 u3 u4 b1 b2 (fun f1 o1 H1 F1 => ?_)⟩)
    have W1 := W2.tree (T2 := Tr.mk U.cap U.n U.ks U.vs U.h U.m U.E U.S T.c0 T.c1 T.c2) H1 F1 rfl rfl rfl
    refine gA_i W1.1 rfl ⟨W1.2.2.2.2.1.is, W1.closeAll (fun f2 W3 => ?_)⟩
    obtain ⟨c, R⟩ := W3.2.2.1.keysR
    exact gA_i W3.1 rfl (gA_i W3.2.2.1.1 rfl ⟨R.o, s_X4_count R (h0 rfl f2 o1 W3)⟩)
end
