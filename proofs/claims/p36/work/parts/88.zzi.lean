theorem Z2.cC_del (cu : Nat → Option Nat) (pos : Nat) (hb : ∀ i j, i < 4 → cu i = some j → j ≤ 300) (hp : pos < 1000) {i : Nat} (hi : i < 4) : (if cC (cu i) ≤ zI pos then cC (cu i) else cC (cu i) - 1) = cC (cuDel cu pos i) := by
  have a := fun j => hb i j hi
  unfold cuDel
  generalize cu i = c at *
  cases c with
  | none =>
    have : (-1 : Int32) ≤ zI pos := by rw [Int32.le_iff_toInt_le, zI_toInt (by omega)]; have e1 : (-1 : Int32).toInt = -1 := rfl; omega
    exact if_pos this
  | some q =>
    have := a q rfl
    show (if zI q ≤ zI pos then zI q else zI q - 1) = zI (if q ≤ pos then q else q - 1)
    by_cases y : q ≤ pos
    · rw [if_pos y, if_pos ((zI_le (by omega) (by omega)).mpr y)]
    · rw [if_neg y, if_neg (fun z => y ((zI_le (by omega) (by omega)).mp z))]
      exact zI_sub (show 1 ≤ q by omega)
theorem Z2.cC_ins (cu : Nat → Option Nat) (pos : Nat) (hb : ∀ i j, i < 4 → cu i = some j → j ≤ 300) (hp : pos < 1000) {i : Nat} (hi : i < 4) : (if cC (cu i) < zI pos then cC (cu i) else cC (cu i) + 1) = cC (cuIns cu pos i) := by
  have a := fun j => hb i j hi
  unfold cuIns
  generalize cu i = c at *
  cases c with
  | none =>
    have : (-1 : Int32) < zI pos := by rw [Int32.lt_iff_toInt_lt, zI_toInt (by omega)]; have e1 : (-1 : Int32).toInt = -1 := rfl; omega
    exact if_pos this
  | some q =>
    have := a q rfl
    show (if zI q < zI pos then zI q else zI q + 1) = zI (if q < pos then q else q + 1)
    by_cases y : q < pos
    · rw [if_pos y, if_pos ((zI_lt (by omega) (by omega)).mpr y)]
    · rw [if_neg y, if_neg (fun z => y ((zI_lt (by omega) (by omega)).mp z))]
      exact zI_add q 1
theorem Z2.Tr.IM.fresh {T : Tr} (I : T.IM) {k : Key} (h : ¬ (T.less k < T.n ∧ T.ks (T.less k) = k)) : ∀ i, i < T.n → T.ks i ≠ k := fun i hi e => by
  obtain ⟨l1, l2, l3⟩ := Tr.IM.less_at I k
  rcases Nat.lt_or_ge i (T.less k) with g | g
  · have := l2 i g
    rw [e] at this
    exact klt_irrefl _ this
  · rcases Nat.lt_or_eq_of_le g with g2 | g2
    · have := I.srt (T.less k) i g2 hi
      rw [e] at this
      exact l3 _ (Nat.le_refl _) (by omega) this
    · exact h ⟨by omega, by rw [g2]; exact e⟩
section
variable {zd : Nat} {f f' : FT} {o o' : Z2.OW} {xo oo : Nat} {ad ad2 : Nat → Nat} {ca ia ra la ka ba : Nat} {T U : Z2.Tr} {sv : Bool} {cu cu2 : Nat → Option Nat} {ky bd : Z2.Key} {w : Nat} {wk : Nat → Z2.Key} {wv : Nat → Int32} {mc ms : Nat}
theorem Z2.CX.rem (W : CX zd f o xo oo ad ad2 ca ia ra la ka ba T U sv cu ky bd w wk wv) (I : T.IM) (hm : T.m 0 ≤ 400) (hb : ∀ i j, i < 4 → cu i = some j → j ≤ 300) {pos : Nat} (hp : pos < T.n) {K : Int32 → FT → Prop} (hK : ∀ f', CX zd f' o xo oo ad ad2 ca ia ra la ka ba (T.remove pos) U sv (cuDel cu pos) ky bd w wk wv → K (T.vs pos) f') : wp_X6_removeEntry ra (zI pos) f K := by
  have hn := I.n3
  obtain ⟨x1, x2, x3, x4, x5, x6, x7, x8, x9, x10, x11⟩ := W
  refine s_X6_removeEntry x3 x7 x5 I hm hp (fun f1 H1 N1 C1 F1 => hK f1 ?_)
  have nR : ∀ q, 100 ≤ q → q ≠ 302 → q ≠ 300 → ¬ RL q := fun q a b c z => by
    rcases z with z | z | z <;> omega
  obtain ⟨p1, p2⟩ := F1.get x1 (fun q e => by rw [x2] at e; cases e; exact nR _ (by omega) (by omega) (by omega))
  obtain ⟨e0, e1⟩ := Tr.remove_c T pos
  have x6' := x6.fr F1 (nR _ (by omega) (by omega) (by omega))
  rw [← e0, ← e1] at x6'
  exact ⟨p1, x2, H1, x4.fr F1 (fun q hq => nR q (by omega) (by omega) (by omega)), C1.congr (fun i hi => cC_del cu pos hb (by omega) hi), x6', N1, x8.fr F1 (fun q hq => nR q (by omega) (by omega) (by omega)), x9.fr F1, x10.fr F1, x11.fr F1 (nR _ (by omega) (by omega) (by omega))⟩
theorem Z2.s_X8_removeAt (W : CX zd f o xo oo ad ad2 ca ia ra la ka ba T U sv cu ky bd w wk wv) (I : T.IM) (hm : T.m 0 ≤ 400) (hb : ∀ i j, i < 4 → cu i = some j → j ≤ T.n) {x : Int32} (b1 : 3 ≤ mc) (b2 : 18 ≤ ms) {K : Int32 → FT → Prop} {KX : String → FT → Prop} (h1 : (∀ i, i < 4 → x ≠ zI i) → KX "java/lang/IllegalArgumentException" f) (h2 : ∀ i, i < 4 → x = zI i → cu i = none → KX "java/lang/IllegalStateException" f) (h3 : ∀ i, i < 4 → x = zI i → cu i = some T.n → KX "java/util/NoSuchElementException" f) (h0 : ∀ i j, i < 4 → x = zI i → cu i = some j → j < T.n → ∀ f', CX zd f' o xo oo ad ad2 ca ia ra la ka ba (T.remove j) U sv (cuDel cu j) ky bd w wk wv → K (T.vs j) f') : wp_X8_removeAt xo x f mc ms K KX := by
  have hn := I.n3
  refine gA_i W.1 rfl ⟨3, 18, b1, b2, W.is, s_X8_entryOfCursor W hn hb (by omega) (by omega) h1 h2 h3 (fun i j hi e hc hj => ⟨W.2.2.2.2.2.2.1.is, W.rem I hm (fun i j hi e => Nat.le_trans (hb i j hi e) hn) hj (h0 i j hi e hc hj)⟩)⟩
theorem Z2.s_X8_removeRange (W : CX zd f o xo oo ad ad2 ca ia ra la ka ba T U sv cu ky bd w wk wv) (B : BT T) (hb : ∀ i j, i < 4 → cu i = some j → j ≤ T.n) {K : Int32 → FT → Prop} (h0 : ∀ f', CX zd f' o xo oo ad ad2 ca ia ra la ka ba (Tr.remN (T.less ky - T.less bd) T (T.less bd)) U sv (cuDelN (T.less ky - T.less bd) cu (T.less bd)) ky bd w wk wv → K (zI (T.less ky - T.less bd)) f') : wp_X8_removeRange xo f K := by
  have W2 := W
  obtain ⟨x1, x2, x3, x4, x5, x6, x7, x8, x9, x10, x11⟩ := W
  obtain ⟨c, R⟩ := x3.keysR
  have hn := B.im.n3
  have l1 : T.less ky ≤ T.n := ff_le _ _
  have l2 : T.less bd ≤ T.n := ff_le _ _
  refine gA_i x1 rfl (gA_i x3.1 rfl (gA_i x1 rfl ⟨R.o, s_X4_countBelow R x10 B.im.srt 0 (gA_i x1 rfl (gA_i x3.1 rfl (gA_i x1 rfl ⟨R.o, s_X4_countBelow R x9 B.im.srt 0 ?_⟩)))⟩))
  rw [Tr.less_ff, Tr.less_ff]
  generalize T.less ky = L at *
  generalize T.less bd = p at *
  rintro v rfl
  have ej : ∀ d : Int32, d = zI L - zI p → (∀ j, j ≤ L - p → (d ≤ zI j ↔ L - p ≤ j)) ∧ jmax d 0 = zI (L - p) := fun d hd => by
    rcases Nat.lt_or_ge L p with g | g
    · have e1 : d.toInt = (L : Int) - p := by
        rw [hd, show zI L - zI p = -(zI (p - L)) from by
          rw [← zI_sub (show L ≤ p by omega)]; exact (Int32.neg_sub).symm]
        rw [Int32.toInt_neg, zI_toInt (by omega), Int.bmod_eq_of_le (by omega) (by omega)]; omega
      refine ⟨fun j hj => ?_, ?_⟩
      · rw [Int32.le_iff_toInt_le, e1, zI_toInt (by omega)]; omega
      · unfold jmax
        have : d < 0 := by rw [Int32.lt_iff_toInt_lt, e1]; have e0 : (0 : Int32).toInt = 0 := rfl; omega
        rw [if_pos this, show L - p = 0 by omega]; rfl
    · rw [zI_sub g] at hd
      subst hd
      refine ⟨fun j hj => zI_le (by omega) (by omega), ?_⟩
      unfold jmax
      rw [if_neg (zI_neg (by omega))]
  obtain ⟨ej1, ej2⟩ := ej _ rfl
  generalize zI L - zI p = d at *
  refine loopW_of (fun s => ∃ j f1, s = (zI j, f1) ∧ j ≤ L - p ∧ CX zd f1 o xo oo ad ad2 ca ia ra la ka ba (Tr.remN j T p) U sv (cuDelN j cu p) ky bd w wk wv) (fun s => 400 - s.1.toNatClampNeg) ?_ _ ⟨0, f, rfl, Nat.zero_le _, W2⟩
  rintro C s ⟨j, f1, rfl, hj, W1⟩ hC
  refine ⟨fun y => ?_, fun y => ?_⟩
  · have := (ej1 j hj).mp y
    have e : j = L - p := by omega
    subst e
    rintro v rfl
    rw [ej2]; exact h0 f1 W1
  · have hlt : j < L - p := by
      rcases Nat.lt_or_ge j (L - p) with g | g
      · exact g
      · exact absurd ((ej1 j hj).mpr g) y
    obtain ⟨r1, r2, r3, r4, r5, r6⟩ := B.remN (p := p) j (by omega)
    have hb1 := cuDelN_le (p := p) hb j (by omega)
    refine gA_i W1.1 rfl ⟨W1.2.2.2.2.2.2.1.is, W1.rem r1.im r1.m4 (fun i q hi e => by have := hb1 i q hi e; omega) (by rw [r2]; omega) (fun f2 W3 => ?_)⟩
    rintro v rfl
    rw [show zI j + 1 = zI (j + 1) from zI_add j 1]
    refine hC _ ⟨j + 1, f2, rfl, by omega, W3⟩ ?_
    show 400 - (zI (j + 1)).toNatClampNeg < 400 - (zI j).toNatClampNeg
    rw [zI_clamp (by omega), zI_clamp (by omega)]; omega
theorem Z2.s_X8_put (W : CX zd f o xo oo ad ad2 ca ia ra la ka ba T U sv cu ky bd w wk wv) (I : T.IM) (hm : T.m 0 ≤ 300) (hh : T.h ≤ 11) (hb : ∀ i j, i < 4 → cu i = some j → j ≤ 300) (b1 : 100 ≤ mc) (b2 : 9300 ≤ ms) {v : Int32} {K : Int32 → FT → Prop} {KX : String → FT → Prop}
    (hold : T.less ky < T.n → T.ks (T.less ky) = ky → ∀ f', CX zd f' o xo oo ad ad2 ca ia ra la ka ba (Tr.mk T.cap T.n T.ks (stt T.vs (T.less ky) v) T.h T.m T.E T.S T.c0 T.c1 T.c2) U sv cu ky bd w wk wv → K 0 f')
    (hfull : ¬ (T.less ky < T.n ∧ T.ks (T.less ky) = ky) → T.n = 300 → KX "java/lang/IllegalStateException" f)
    (hnew : ¬ (T.less ky < T.n ∧ T.ks (T.less ky) = ky) → T.n < 300 → ∀ f' o', CX zd f' o' xo oo ad ad2 ca ia ra la ka ba (T.insert ky v) U sv (cuIns cu (T.less ky)) ky bd w wk wv → K 1 f') : wp_X8_put zd xo v f mc ms K KX := by
  have hn := I.n3
  have hl : T.less ky ≤ T.n := ff_le _ _
  obtain ⟨x1, x2, x3, x4, x5, x6, x7, x8, x9, x10, x11⟩ := W
  obtain ⟨c, R⟩ := x3.keysR
  obtain ⟨cv, V⟩ := x3.valsR
  refine gA_i x1 rfl (gA_i x3.1 rfl (gA_i x1 rfl ⟨R.o, s_X4_find R x9 I.srt (fun a b => ⟨fun z => absurd z (zI_neg (Nat.lt_of_lt_of_le a (by omega))), fun _ => ?_⟩) (fun y => ⟨fun _ => ?_, fun z => absurd (by decide) z⟩)⟩))
  · refine gA_i x1 rfl (gA_i x3.1 rfl ⟨V.is, s_X2_replace V a v (fun f1 V1 F1 => ?_)⟩)
    obtain ⟨p1, p2⟩ := F1.get x1 (fun q e => by rw [x2] at e; cases e; omega)
    exact hold a b f1 ⟨p1, x2, x3.valsW V1 F1, x4.fr F1 (fun q hq => by omega), x5.fr F1 (by omega), x6.fr F1 (by omega), x7.frA F1 (by omega), x8.fr F1 (fun q hq => by omega), x9.fr F1, x10.fr F1, x11.fr F1 (by omega)⟩
  · have y : ¬ (T.less ky < T.n ∧ T.ks (T.less ky) = ky) := y
    refine gA_i x1 rfl (gA_i x3.1 rfl ⟨R.o, s_X4_count R ⟨fun z => ?_, fun z => ⟨by omega, by omega, hfull y ?_⟩⟩⟩)
    · rw [show (300 : Int32) = zI 300 from rfl, zI_lt (by omega) (by omega)] at z
      refine gA_i x1 rfl (gA_i x1 rfl ⟨mc, ms, Nat.le_refl _, Nat.le_refl _, x6.is, s_X1_insert x3 x6 x5 I x9 z (I.fresh y) hm hh v b1 b2 (fun f1 o1 H1 N1 C1 F1 => ?_)⟩)
      have nR : ∀ q, 100 ≤ q → q ≠ 301 → q ≠ 300 → ¬ RJ q := fun q a b c z => by
        rcases z with z | z | z <;> omega
      obtain ⟨p1, p2⟩ := F1.get x1 (fun q e => by rw [x2] at e; cases e; exact nR _ (by omega) (by omega) (by omega))
      have x7' := x7.frA F1 (nR _ (by omega) (by omega) (by omega))
      rw [← Tr.insert_c2 T ky v] at x7'
      exact hnew y z f1 o1 ⟨p1, p2.trans x2, H1, x4.fr F1 (fun q hq => nR q (by omega) (by omega) (by omega)), C1.congr (fun i hi => cC_ins cu _ hb (by omega) hi), N1, x7', x8.fr F1 (fun q hq => nR q (by omega) (by omega) (by omega)), x9.fr F1, x10.fr F1, x11.fr F1 (nR _ (by omega) (by omega) (by omega))⟩
    · rw [show (300 : Int32) = zI 300 from rfl, zI_lt (by omega) (by omega)] at z; omega
theorem Z2.s_X8_setCapacity (W : CX zd f o xo oo ad ad2 ca ia ra la ka ba T U sv cu ky bd w wk wv) (hn : T.n ≤ 300) (b1 : 1 ≤ mc) (b2 : 6 ≤ ms) {x : Int32} {K : Int32 → FT → Prop} {KX : String → FT → Prop} (h1 : ¬ (64 ≤ x ∧ x ≤ 200) → KX "java/lang/IllegalArgumentException" f) (h2 : 64 ≤ x → x ≤ 200 → 0 < T.n → KX "java/lang/IllegalStateException" f) (h0 : ∀ c, 64 ≤ c → c ≤ 200 → x = zI c → T.n = 0 → ∀ f', CX zd f' o xo oo ad ad2 ca ia ra la ka ba (Tr.mk c T.n T.ks T.vs T.h T.m T.E T.S T.c0 T.c1 T.c2) U sv cu ky bd w wk wv → K (zI T.cap) f') : wp_X8_setCapacity xo x f mc ms K KX := by
  obtain ⟨x1, x2, x3, x4, x5, x6, x7, x8, x9, x10, x11⟩ := W
  obtain ⟨c, R⟩ := x3.keysR
  refine ⟨fun z => ⟨b1, b2, h1 (fun y => absurd y.1 (Int32.not_le.mpr z))⟩, fun z => ⟨fun y => ?_, fun y => ⟨b1, b2, h1 (fun v => y v.2)⟩⟩⟩
  have z := Int32.not_lt.mp z
  refine gA_i x1 rfl (gA_i x3.1 rfl ⟨R.o, s_X4_count R ⟨fun u => ?_, fun u => ⟨b1, b2, h2 z y ?_⟩⟩⟩)
  · rw [show (0 : Int32) = zI 0 from rfl, zI_le (by omega) (by omega)] at u
    obtain ⟨q, hq, e⟩ := asZ (N := 200) (by decide) (Int32.le_trans (show (0 : Int32) ≤ 64 by decide) z) y
    subst e
    rw [show (64 : Int32) = zI 64 from rfl, zI_le (by omega) (by omega)] at z
    refine gA_i x1 rfl (gI_i x3.1 rfl (gA_i x1 rfl (pV_g x3.1 (by simp) (fun f1 e1 n1 => ?_))))
    have F1 : Fr (fun q => q = 100 * 0 + 5) f o f1 o := Fr.one x3.1 e1 x3.2.1 n1
    obtain ⟨p1, p2⟩ := F1.get x1 (fun q e => by rw [x2] at e; cases e; omega)
    exact h0 q z hq rfl (by omega) f1 ⟨p1, x2, x3.numW (cap' := q) (h' := T.h) (Nat.le_refl _) e1 F1, x4.fr F1 (fun q hq => by omega), x5.fr F1 (by omega), x6.fr F1 (by omega), x7.frA F1 (by omega), x8.fr F1 (fun q hq => by omega), x9.fr F1, x10.fr F1, x11.fr F1 (by omega)⟩
  · rw [show (0 : Int32) = zI 0 from rfl, zI_le (by omega) (by omega)] at u; omega
end
