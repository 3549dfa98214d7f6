def Z2.cC (c : Option Nat) : Int32 := match c with | none => -1 | some j => zI j
def Z2.OO (_ : FT) (_ : OW) (_ : Nat) : Prop := True
def Z2.OV (f : FT) (oo : Nat) (v : Int64) : Prop := ∃ g : Nat → Int64, f oo = some (.inl (3, 1, .inr (.inl g))) ∧ g 0 = v
/-- the class's object: tree T, saved tree U, cursors, key, bound, what waits -/
def Z2.CX (zd : Nat) (f : FT) (o : OW) (xo oo : Nat) (ad ad2 : Nat → Nat) (ca ia ra la ka ba : Nat) (T U : Tr) (sv : Bool) (cu : Nat → Option Nat) (ky bd : Key) (w : Nat) (wk : Nat → Key) (wv : Nat → Int32) : Prop :=
  f xo = some (.inr (11, [.ref (ad 6), .ref (ad2 6), .ref ca, .ref ia, .ref ra, .ref la, .int (if sv = true then 1 else 0), .ref ka, .ref ba])) ∧ o xo = some 303 ∧ TT zd f o 0 ad T ∧ TT zd f o 1 ad2 U ∧ CU f o 300 ca (fun i => cC (cu i)) ∧ IN f o ia (ad 6) ca T.c0 T.c1 ∧ RM f o ra (ad 6) ca T.c2 ∧ LD zd f o la w wk wv ∧ KY f o ka ky ∧ KY f o ba bd ∧ OO f o oo
def Z2.CW (zd : Nat) (f : FT) (o : OW) (xo oo : Nat) (T U : Tr) (sv : Bool) (cu : Nat → Option Nat) (ky bd : Key) (w : Nat) (wk : Nat → Key) (wv : Nat → Int32) : Prop :=
  ∃ (ad ad2 : Nat → Nat) (ca ia ra la ka ba : Nat), CX zd f o xo oo ad ad2 ca ia ra la ka ba T U sv cu ky bd w wk wv
theorem Z2.OO.fr {R : Nat → Prop} {f f' : FT} {o o' : OW} {oo : Nat} (h : OO f o oo) (F : Fr R f o f' o') (hR : ¬ R 304) : OO f' o' oo := trivial
theorem Z2.RM.frA {R : Nat → Prop} {f f' : FT} {o o' : OW} {a tr cu c2 : Nat} (h : RM f o a tr cu c2) (F : Fr R f o f' o') (hR : ¬ R 302) : RM f' o' a tr cu c2 := by
  obtain ⟨p1, p2⟩ := F.get h.1 (fun q e => by rw [h.2] at e; cases e; exact hR)
  exact ⟨p1, p2.trans h.2⟩
section
variable {zd : Nat} {f f' : FT} {o o' : Z2.OW} {xo oo : Nat} {ad ad2 : Nat → Nat} {ca ia ra la ka ba : Nat} {T U : Z2.Tr} {sv : Bool} {cu : Nat → Option Nat} {ky bd : Z2.Key} {w : Nat} {wk : Nat → Z2.Key} {wv : Nat → Int32} {mc ms : Nat}
theorem Z2.CX.is (W : CX zd f o xo oo ad ad2 ca ia ra la ka ba T U sv cu ky bd w wk wv) : isO f xo 11 := ⟨_, W.1⟩
theorem Z2.CX.fr {R : Nat → Prop} (W : CX zd f o xo oo ad ad2 ca ia ra la ka ba T U sv cu ky bd w wk wv) (F : Fr R f o f' o') (hR : ∀ q, q < 305 → ¬ R q) : CX zd f' o' xo oo ad ad2 ca ia ra la ka ba T U sv cu ky bd w wk wv := by
  obtain ⟨x1, x2, x3, x4, x5, x6, x7, x8, x9, x10, x11⟩ := W
  obtain ⟨p1, p2⟩ := F.get x1 (fun q e => by rw [x2] at e; cases e; exact hR _ (by omega))
  exact ⟨p1, p2.trans x2, x3.fr F (fun q hq => hR q (by omega)), x4.fr F (fun q hq => hR q (by omega)), x5.fr F (hR _ (by omega)), x6.fr F (hR _ (by omega)), x7.frA F (hR _ (by omega)), x8.fr F (fun q hq => hR q (by omega)), x9.fr F, x10.fr F, x11.fr F (hR _ (by omega))⟩
/-- the class's own object is written -/
theorem Z2.CX.obj {sv2 : Bool} {ka2 ba2 : Nat} {ky2 bd2 : Key} (W : CX zd f o xo oo ad ad2 ca ia ra la ka ba T U sv cu ky bd w wk wv) (h1 : f' xo = some (.inr (11, [.ref (ad 6), .ref (ad2 6), .ref ca, .ref ia, .ref ra, .ref la, .int (if sv2 = true then 1 else 0), .ref ka2, .ref ba2]))) (n : ∀ b, b ≠ xo → f' b = f b) (hk : KY f o ka2 ky2) (hb : KY f o ba2 bd2) : CX zd f' o xo oo ad ad2 ca ia ra la ka2 ba2 T U sv2 cu ky2 bd2 w wk wv := by
  obtain ⟨x1, x2, x3, x4, x5, x6, x7, x8, x9, x10, x11⟩ := W
  have F : Fr (fun q => q = 303) f o f' o := Fr.one x1 h1 x2 n
  exact ⟨h1, x2, x3.fr F (fun q hq => by omega), x4.fr F (fun q hq => by omega), x5.fr F (by omega), x6.fr F (by omega), x7.frA F (by omega), x8.fr F (fun q hq => by omega), hk.fr F, hb.fr F, x11.fr F (by omega)⟩
theorem Z2.s_X4_find {r c q n kaa : Nat} {l : Nat → Key} {k : Key} (h : KR zd f o q r n l c) (hk : KY f o kaa k) (hs : ∀ i j, i < j → j < n → klt (l i) (l j)) {K : Int32 → Prop} (h0 : ff (fun i => dec (klt (l i) k)) n < n → l (ff (fun i => dec (klt (l i) k)) n) = k → K (zI (ff (fun i => dec (klt (l i) k)) n))) (h1 : ¬ (ff (fun i => dec (klt (l i) k)) n < n ∧ l (ff (fun i => dec (klt (l i) k)) n) = k) → K (-1)) : wp_X4_find r kaa f K := by
  have hn := h.le
  have e : ff (fun i => dec (klt (l i) k ∨ (l i = k ∧ (0 : Int32) ≠ 0))) n = ff (fun i => dec (klt (l i) k)) n := ff_congr (fun i hi => dec_congr ⟨fun h => h.elim id (fun y => absurd rfl y.2), Or.inl⟩)
  have hp := ff_le (fun i => dec (klt (l i) k)) n
  obtain ⟨a, q2, ad3, k3, y1, y2, y3, -⟩ := id h
  refine ⟨h.o, s_X4_countBelow h hk hs 0 ?_⟩
  rw [e]
  generalize ff (fun i => dec (klt (l i) k)) n = p at *
  have bad : ¬ (p < n ∧ l p = k) → wp_X4_find_34 (zI p) f K := fun y => ⟨fun _ => h1 y, fun z => absurd rfl z⟩
  refine gA_i y1 rfl ⟨y3.o, s_AL_size y3 ⟨fun z => ?_, fun z => ⟨h.o, ?_⟩⟩⟩
  · rw [zI_le (by omega) (by omega)] at z
    exact bad (fun y => by omega)
  · rw [zI_le (by omega) (by omega)] at z
    refine s_X4_at h (by omega) (fun aa hka => ⟨hka.o, s_X3_compareWith hka hk (fun rr r1 r2 => ⟨fun c => bad (fun y => c (r2.mpr y.2)), fun c => ⟨fun y => absurd y (by decide), fun _ => h0 (by omega) (r2.mp c)⟩⟩)⟩)
theorem Z2.s_X8_positionOfKey (W : CX zd f o xo oo ad ad2 ca ia ra la ka ba T U sv cu ky bd w wk wv) (I : T.IM) (b1 : 1 ≤ mc) (b2 : 6 ≤ ms) {K : Int32 → FT → Prop} {KX : String → FT → Prop} (h0 : T.less ky < T.n → T.ks (T.less ky) = ky → K (zI (T.less ky)) f) (h1 : ¬ (T.less ky < T.n ∧ T.ks (T.less ky) = ky) → KX "java/util/NoSuchElementException" f) : wp_X8_positionOfKey xo f mc ms K KX := by
  have hl : T.less ky ≤ T.n := ff_le _ _
  have hn := I.n3
  obtain ⟨x1, x2, x3, x4, x5, x6, x7, x8, x9, x10, x11⟩ := W
  obtain ⟨c, R⟩ := x3.keysR
  refine gA_i x1 rfl (gA_i x3.1 rfl (gA_i x1 rfl ⟨R.o, s_X4_find R x9 I.srt (fun a b => ⟨fun _ => h0 a b, fun z => absurd ?_ z⟩) (fun y => ⟨fun z => absurd z (by decide), fun _ => ⟨b1, b2, h1 y⟩⟩)⟩))
  show (0 : Int32) ≤ zI (T.less ky)
  rw [show (0 : Int32) = zI 0 from rfl, zI_le (by omega) (by omega)]; omega
theorem Z2.s_X8_get (W : CX zd f o xo oo ad ad2 ca ia ra la ka ba T U sv cu ky bd w wk wv) (I : T.IM) (b1 : 1 ≤ mc) (b2 : 6 ≤ ms) {K : Int32 → FT → Prop} {KX : String → FT → Prop} (h0 : T.less ky < T.n → T.ks (T.less ky) = ky → K (T.vs (T.less ky)) f) (h1 : ¬ (T.less ky < T.n ∧ T.ks (T.less ky) = ky) → KX "java/util/NoSuchElementException" f) : wp_X8_get xo f mc ms K KX := by
  have W2 := W
  obtain ⟨x1, x2, x3, x4, x5, x6, x7, x8, x9, x10, x11⟩ := W
  obtain ⟨c, R⟩ := x3.valsR
  refine gA_i x1 rfl (gA_i x3.1 rfl ⟨1, 6, b1, b2, W2.is, s_X8_positionOfKey W2 I (by omega) (by omega) (fun a b => ⟨R.is, s_X2_at R a (h0 a b)⟩) h1⟩)
theorem Z2.s_X8_feed (W : CX zd f o xo oo ad ad2 ca ia ra la ka ba T U sv cu ky bd w wk wv) (b1 : 2 ≤ mc) (b2 : 13 ≤ ms) {x : Int32} {K : Int32 → FT → Prop} {KX : String → FT → Prop} (h1 : ¬ (0 ≤ x ∧ x ≤ 127) → KX "java/lang/IllegalArgumentException" f) (h2 : 0 ≤ x → x ≤ 127 → ky.length = 12 → KX "java/lang/IllegalStateException" f) (h0 : 0 ≤ x → x ≤ 127 → ky.length < 12 → ∀ f' o' ka', CX zd f' o' xo oo ad ad2 ca ia ra la ka' ba T U sv cu (ky ++ [x]) bd w wk wv → K (zI (ky.length + 1)) f') : wp_X8_feed xo x f mc ms K KX := by
  have W2 := W
  obtain ⟨x1, x2, x3, x4, x5, x6, x7, x8, x9, x10, x11⟩ := W
  have lk := x9.v.1
  refine ⟨fun z => ⟨by omega, by omega, h1 (fun y => absurd y.1 (Int32.not_le.mpr z))⟩, fun z => ⟨fun y => ?_, fun y => ⟨by omega, by omega, h1 (fun v => y v.2)⟩⟩⟩
  have z := Int32.not_lt.mp z
  refine gA_i x1 rfl ⟨x9.o, s_X3_length x9 ⟨fun u => ?_, fun u => ⟨by omega, by omega, h2 z y ?_⟩⟩⟩
  · rw [show (12 : Int32) = zI 12 from rfl, zI_lt (by omega) (by omega)] at u
    refine gA_i x1 rfl ⟨2, 13, b1, b2, x9.o, s_X3_withByte x9 u z y (by omega) (by omega) (fun q f1 o1 hk F => ?_)⟩
    have W1 := W2.fr F (fun q _ h => h)
    refine pV_g W1.1 (by simp) (fun f2 e2 n2 => ?_)
    have W3 := W1.obj (sv2 := sv) e2 n2 hk W1.2.2.2.2.2.2.2.2.2.1
    refine gA_i W3.1 rfl ⟨W3.2.2.2.2.2.2.2.2.1.o, s_X3_length W3.2.2.2.2.2.2.2.2.1 ?_⟩
    have el : (ky ++ [x]).length = ky.length + 1 := by rw [List.length_append]; rfl
    rw [el]
    exact h0 z y u f2 o1 q W3
  · rw [show (12 : Int32) = zI 12 from rfl, zI_lt (by omega) (by omega)] at u; omega
end
