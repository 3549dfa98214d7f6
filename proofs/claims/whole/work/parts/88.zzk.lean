/-! the class's face: pages, statistics -/
section
variable {zd : Nat} {f f' : FT} {o o' : Z2.OW} {xo oo : Nat} {ad ad2 : Nat → Nat} {ca ia ra la ka ba : Nat} {T U : Z2.Tr} {sv : Bool} {cu cu2 : Nat → Option Nat} {ky bd : Z2.Key} {w : Nat} {wk : Nat → Z2.Key} {wv : Nat → Int32} {mc ms : Nat}
theorem Z2.s_X8_tierOf (W : CX zd f o xo oo ad ad2 ca ia ra la ka ba T U sv cu ky bd w wk wv) {i : Nat} (hi : i < T.h) {K : Int32 → Prop} (hK : K (zI (T.h - 1 - i))) : wp_X8_tierOf xo (zI i) f K := by
  refine gA_i W.1 rfl (gI_i W.2.2.1.1 rfl ?_)
  rw [show zI T.h - 1 = zI (T.h - 1) from zI_sub (show 1 ≤ T.h by omega), zI_sub (show i ≤ T.h - 1 by omega)]
  exact hK
theorem Z2.s_X8_levelIn (W : CX zd f o xo oo ad ad2 ca ia ra la ka ba T U sv cu ky bd w wk wv) (B : BT T) {i : Nat} (hi : i < T.h) {K : FT → Prop} {KX : String → FT → Prop} (hK : K f) : wp_X8_refuseMissingLevel xo (zI i) f mc ms K KX := by
  have hh := B.h12
  refine ⟨fun y => absurd y (zI_neg (by omega)), fun y => gA_i W.1 rfl (gI_i W.2.2.1.1 rfl ⟨fun u => hK, fun u => absurd ?_ u⟩)⟩
  rw [zI_lt (by omega) (by omega)]; exact hi
theorem Z2.s_X8_levelOut (W : CX zd f o xo oo ad ad2 ca ia ra la ka ba T U sv cu ky bd w wk wv) (B : BT T) {x : Int32} (b1 : 1 ≤ mc) (b2 : 6 ≤ ms) (hx : ∀ i, i < T.h → x ≠ zI i) {K : FT → Prop} {KX : String → FT → Prop} (hK : KX "java/lang/IndexOutOfBoundsException" f) : wp_X8_refuseMissingLevel xo x f mc ms K KX := by
  have hh := B.h12
  refine ⟨fun y => ⟨b1, b2, hK⟩, fun y => gA_i W.1 rfl (gI_i W.2.2.1.1 rfl ⟨fun u => ?_, fun u => ⟨b1, b2, hK⟩⟩)⟩
  obtain ⟨i, hi, e⟩ := asZ (by omega) (Int32.not_lt.mp y) (Int32.le_of_lt u)
  rw [e, zI_lt (by omega) (by omega)] at u
  exact absurd e (hx i u)
theorem Z2.s_X8_refusePage (W : CX zd f o xo oo ad ad2 ca ia ra la ka ba T U sv cu ky bd w wk wv) (B : BT T) {x z : Int32} (b1 : 1 ≤ mc) (b2 : 6 ≤ ms) {K : FT → Prop} {KX : String → FT → Prop} (h1 : (∀ i p, i < T.h → x = zI i → p < T.m (T.h - 1 - i) → z = zI p → False) → KX "java/lang/IndexOutOfBoundsException" f) (h0 : ∀ i p, i < T.h → x = zI i → p < T.m (T.h - 1 - i) → z = zI p → K f) : wp_X8_refuseMissingPage xo x z f mc ms K KX := by
  have hh := B.h12
  by_cases hx : ∃ i, i < T.h ∧ x = zI i
  · obtain ⟨i, hi, e⟩ := hx
    subst e
    have hm := B.m (t := T.h - 1 - i) (by omega)
    refine ⟨0, 0, Nat.zero_le _, Nat.zero_le _, W.is, s_X8_levelIn W B hi ⟨fun v => ⟨by omega, by omega, h1 (fun i2 p hi2 e hp e2 => ?_)⟩, fun v => ?_⟩⟩
    · have := B.m (t := T.h - 1 - i2) (by omega)
      rw [e2] at v; exact absurd v (zI_neg (by omega))
    · refine gA_i W.1 rfl ⟨W.is, s_X8_tierOf W hi ⟨W.2.2.1.is, s_X7_pageTotal W.2.2.1 (by omega) ⟨fun q => ?_, fun q => ⟨by omega, by omega, h1 (fun i2 p hi2 e2 hp e3 => q ?_)⟩⟩⟩⟩
      · obtain ⟨p, hp, e2⟩ := asZ (by omega) (Int32.not_lt.mp v) (Int32.le_of_lt q)
        rw [e2, zI_lt (by omega) (by omega)] at q
        exact h0 i p hi rfl q e2
      · rw [zI_inj (by omega) (by omega)] at e2
        subst e2
        rw [e3, zI_lt (by omega) (by omega)]; exact hp
  · exact ⟨1, 6, b1, b2, W.is, s_X8_levelOut W B (by omega) (by omega) (fun i hi e => hx ⟨i, hi, e⟩) (h1 (fun i p hi e _ _ => hx ⟨i, hi, e⟩))⟩
theorem Z2.s_X8_pageCount (W : CX zd f o xo oo ad ad2 ca ia ra la ka ba T U sv cu ky bd w wk wv) (B : BT T) {x : Int32} (b1 : 1 ≤ mc) (b2 : 6 ≤ ms) {K : Int32 → FT → Prop} {KX : String → FT → Prop} (h1 : (∀ i, i < T.h → x ≠ zI i) → KX "java/lang/IndexOutOfBoundsException" f) (h0 : ∀ i, i < T.h → x = zI i → K (zI (T.m (T.h - 1 - i))) f) : wp_X8_pageCount xo x f mc ms K KX := by
  have hh := B.h12
  by_cases hx : ∃ i, i < T.h ∧ x = zI i
  · obtain ⟨i, hi, e⟩ := hx
    subst e
    exact ⟨0, 0, Nat.zero_le _, Nat.zero_le _, W.is, s_X8_levelIn W B hi (gA_i W.1 rfl ⟨W.is, s_X8_tierOf W hi ⟨W.2.2.1.is, s_X7_pageTotal W.2.2.1 (by omega) (h0 i hi rfl)⟩⟩)⟩
  · exact ⟨1, 6, b1, b2, W.is, s_X8_levelOut W B (by omega) (by omega) (fun i hi e => hx ⟨i, hi, e⟩) (h1 (fun i hi e => hx ⟨i, hi, e⟩))⟩
theorem Z2.s_X8_pageSize (W : CX zd f o xo oo ad ad2 ca ia ra la ka ba T U sv cu ky bd w wk wv) (B : BT T) {x z : Int32} (b1 : 1 ≤ mc) (b2 : 6 ≤ ms) {K : Int32 → FT → Prop} {KX : String → FT → Prop} (h1 : (∀ i p, i < T.h → x = zI i → p < T.m (T.h - 1 - i) → z = zI p → False) → KX "java/lang/IndexOutOfBoundsException" f) (h0 : ∀ i p, i < T.h → x = zI i → p < T.m (T.h - 1 - i) → z = zI p → K (zI (T.pgs (T.h - 1 - i) p)) f) : wp_X8_pageSize xo x z f mc ms K KX := by
  refine ⟨1, 6, b1, b2, W.is, s_X8_refusePage W B (by omega) (by omega) h1 (fun i p hi e hp e2 => ?_)⟩
  replace h0 := h0 i p hi e hp e2
  subst e e2
  exact gA_i W.1 rfl ⟨W.is, s_X8_tierOf W hi ⟨W.2.2.1.is, TT.pageBytes W.2.2.1 B.im (by omega) hp h0⟩⟩
theorem Z2.s_X8_pageFanout (W : CX zd f o xo oo ad ad2 ca ia ra la ka ba T U sv cu ky bd w wk wv) (B : BT T) {x z : Int32} (b1 : 1 ≤ mc) (b2 : 6 ≤ ms) {K : Int32 → FT → Prop} {KX : String → FT → Prop} (h1 : (∀ i p, i < T.h → x = zI i → p < T.m (T.h - 1 - i) → z = zI p → False) → KX "java/lang/IndexOutOfBoundsException" f) (h0 : ∀ i p, i < T.h → x = zI i → p < T.m (T.h - 1 - i) → z = zI p → K (zI (T.E (T.h - 1 - i) p - st (T.E (T.h - 1 - i)) p)) f) : wp_X8_pageFanout xo x z f mc ms K KX := by
  refine ⟨1, 6, b1, b2, W.is, s_X8_refusePage W B (by omega) (by omega) h1 (fun i p hi e hp e2 => ?_)⟩
  replace h0 := h0 i p hi e hp e2
  subst e e2
  have d1 := (TT.ends B.im (t := T.h - 1 - i) (by omega) hp).1
  refine gA_i W.1 rfl ⟨W.is, s_X8_tierOf W hi ⟨W.2.2.1.is, s_X7_endOf W.2.2.1 (by omega) hp ?_⟩⟩
  refine gA_i W.1 rfl ⟨W.is, s_X8_tierOf W hi ⟨W.2.2.1.is, s_X7_startOf W.2.2.1 (by omega) (Nat.le_of_lt hp) ?_⟩⟩
  rw [zI_sub d1]; exact h0
theorem Z2.s_X8_separator (W : CX zd f o xo oo ad ad2 ca ia ra la ka ba T U sv cu ky bd w wk wv) (B : BT T) {x z u : Int32} (b1 : 2 ≤ mc) (b2 : 12 ≤ ms) {K : Int32 → FT → Prop} {KX : String → FT → Prop} (h1 : (∀ i p, i < T.h → x = zI i → p < T.m (T.h - 1 - i) → z = zI p → False) → KX "java/lang/IndexOutOfBoundsException" f)
    (h2 : ∀ i p, i < T.h → x = zI i → p < T.m (T.h - 1 - i) → z = zI p → (T.h - 1 - i = 0 ∨ ∀ k, k + 2 ≤ T.E (T.h - 1 - i) p - st (T.E (T.h - 1 - i)) p → u ≠ zI k) → KX "java/util/NoSuchElementException" f)
    (h0 : ∀ i p k, i < T.h → x = zI i → p < T.m (T.h - 1 - i) → z = zI p → 0 < T.h - 1 - i → k + 2 ≤ T.E (T.h - 1 - i) p - st (T.E (T.h - 1 - i)) p → u = zI k → ∀ f' ka', CX zd f' o xo oo ad ad2 ca ia ra la ka' ba T U sv cu (T.S (sx T.E (T.h - 1 - i - 1) (st (T.E (T.h - 1 - i)) p + k))) bd w wk wv → K (zI (T.S (sx T.E (T.h - 1 - i - 1) (st (T.E (T.h - 1 - i)) p + k))).length) f') : wp_X8_separator xo x z u f mc ms K KX := by
  have hh := B.h12
  refine ⟨1, 6, by omega, by omega, W.is, s_X8_refusePage W B (by omega) (by omega) h1 (fun i p hi e hp e2 => ?_)⟩
  replace h0 := fun k => h0 i p k hi e hp e2
  replace h2 := h2 i p hi e hp e2
  subst e e2
  have hm := B.m (t := T.h - 1 - i) (by omega)
  obtain ⟨d1, d2, d3⟩ := TT.ends B.im (t := T.h - 1 - i) (by omega) hp
  refine ⟨W.is, s_X8_tierOf W hi ?_⟩
  generalize hT : T.h - 1 - i = t at *
  have H := W.2.2.1
  refine gA_i W.1 rfl ⟨H.is, s_X7_endOf H (by omega) hp (gA_i W.1 rfl ⟨H.is, s_X7_startOf H (by omega) (Nat.le_of_lt hp) ?_⟩)⟩
  rw [zI_sub d1]
  rintro v rfl
  refine ⟨fun y => ?_, fun y => ⟨fun q => ⟨by omega, by omega, h2 (Or.inr (fun k hk e => ?_))⟩, fun q => ⟨fun r => ?_, fun r => ⟨by omega, by omega, h2 (Or.inr (fun k hk e => r ?_))⟩⟩⟩⟩
  · rw [show (0 : Int32) = zI 0 from rfl, zI_inj (by omega) (by omega)] at y
    exact ⟨by omega, by omega, h2 (Or.inl y)⟩
  · have d4 := B.E (t := t) (by omega) hp
    rw [e] at q; exact absurd q (zI_neg (by omega))
  · rw [show (0 : Int32) = zI 0 from rfl, zI_inj (by omega) (by omega)] at y
    have d3 := d3 (by omega)
    have d4 := B.E (t := t) (by omega) hp
    rw [if_neg y] at d2
    rw [show zI (T.E t p - st (T.E t) p) - 1 = zI (T.E t p - st (T.E t) p - 1) from zI_sub (show 1 ≤ T.E t p - st (T.E t) p by omega)] at r
    obtain ⟨k, hk, e⟩ := asZ (by omega) (Int32.not_lt.mp q) (Int32.le_of_lt r)
    rw [e, zI_lt (by omega) (by omega)] at r
    replace h0 := h0 k (by omega) (by omega) e
    subst e
    refine gA_i W.1 rfl (gA_i W.1 rfl ⟨H.is, s_X7_startOf H (by omega) (Nat.le_of_lt hp) ⟨H.is, ?_⟩⟩)
    rw [show zI t - 1 = zI (t - 1) from zI_sub (show 1 ≤ t by omega), zI_add]
    refine s_X7_separatorAfter H (by omega) (Tr.IM.chn B.im (t - 1) _ (by omega) (by omega)) (fun a hk => pV_g W.1 (by simp) (fun f2 e2 n2 => ?_))
    have W3 := W.obj (sv2 := sv) e2 n2 hk W.2.2.2.2.2.2.2.2.2.1
    exact gA_i W3.1 rfl ⟨W3.2.2.2.2.2.2.2.2.1.o, s_X3_length W3.2.2.2.2.2.2.2.2.1 (h0 f2 a W3)⟩
  · have d4 := B.E (t := t) (by omega) hp
    rw [e, show zI (T.E t p - st (T.E t) p) - 1 = zI (T.E t p - st (T.E t) p - 1) from zI_sub (show 1 ≤ T.E t p - st (T.E t) p by omega), zI_lt (by omega) (by omega)]; omega
theorem Z2.s_X8_bytesOfTiers (W : CX zd f o xo oo ad ad2 ca ia ra la ka ba T U sv cu ky bd w wk wv) (B : BT T) {N : Nat} (hN : N ≤ T.h) {K : Int32 → Prop} (hK : K (zI (sumTo (fun t => sumTo (fun p => T.pgs t p) (T.m t)) N))) : wp_X8_bytesOfTiers xo (zI N) f K := by
  have hh := B.h12
  have H := W.2.2.1
  refine loopW_of (fun s => ∃ t, s = (zI (sumTo (fun t => sumTo (fun p => T.pgs t p) (T.m t)) t), zI t) ∧ t ≤ N) (fun s => 20 - s.2.toNatClampNeg) ?_ _ ⟨0, rfl, Nat.zero_le _⟩
  rintro C s ⟨t, rfl, ht⟩ hC
  refine ⟨fun z => ?_, fun z => ?_⟩
  · rw [zI_le (by omega) (by omega)] at z
    rw [show t = N by omega]; exact hK
  · rw [zI_le (by omega) (by omega)] at z
    have hm := B.m (t := t) (by omega)
    refine loopW_of (fun s => ∃ p, s = (zI (sumTo (fun t => sumTo (fun p => T.pgs t p) (T.m t)) t + sumTo (fun p => T.pgs t p) p), zI p) ∧ p ≤ T.m t) (fun s => 500 - s.2.toNatClampNeg) ?_ _ ⟨0, rfl, Nat.zero_le _⟩
    rintro C2 s ⟨p, rfl, hp⟩ hC2
    refine gA_i W.1 rfl ⟨H.is, s_X7_pageTotal H (by omega) ⟨fun y => ?_, fun y => ?_⟩⟩
    · rw [zI_le (by omega) (by omega)] at y
      rintro v rfl
      rw [show zI t + 1 = zI (t + 1) from zI_add t 1, show p = T.m t by omega]
      refine hC _ ⟨t + 1, rfl, by omega⟩ ?_
      show 20 - (zI (t + 1)).toNatClampNeg < 20 - (zI t).toNatClampNeg
      rw [zI_clamp (by omega), zI_clamp (by omega)]; omega
    · rw [zI_le (by omega) (by omega)] at y
      refine gA_i W.1 rfl ⟨H.is, TT.pageBytes H B.im (by omega) (by omega) ?_⟩
      rw [zI_add]
      rintro v rfl u rfl
      rw [show zI p + 1 = zI (p + 1) from zI_add p 1]
      refine hC2 _ ⟨p + 1, by rw [Nat.add_assoc]; rfl, by omega⟩ ?_
      show 500 - (zI (p + 1)).toNatClampNeg < 500 - (zI p).toNatClampNeg
      rw [zI_clamp (by omega), zI_clamp (by omega)]; omega
theorem Z2.s_X8_statistic (W : CX zd f o xo oo ad ad2 ca ia ra la ka ba T U sv cu ky bd w wk wv) (B : BT T) {x : Int32} (b1 : 1 ≤ mc) (b2 : 6 ≤ ms) {K : Int32 → FT → Prop} {KX : String → FT → Prop} (h1 : (x ≠ 0 ∧ x ≠ 1 ∧ x ≠ 2 ∧ x ≠ 3 ∧ x ≠ 4) → KX "java/lang/IllegalArgumentException" f) (k0 : x = 0 → K (zI (sumTo (fun t => sumTo (fun p => T.pgs t p) (T.m t)) T.h)) f) (k1 : x = 1 → K (zI (sumTo T.m T.h)) f) (k2 : x = 2 → K (zI T.c0) f) (k3 : x = 3 → K (zI T.c1) f) (k4 : x = 4 → K (zI T.c2) f) : wp_X8_statistic xo x f mc ms K KX := by
  have H := W.2.2.1
  refine ⟨fun x0 => ⟨fun x1 => ⟨fun x2 => ⟨fun x3 => ⟨fun x4 => ⟨b1, b2, h1 ⟨x0, x1, x2, x3, x4⟩⟩, fun x4 => gA_i W.1 rfl (gI_i W.2.2.2.2.2.2.1.1 rfl (k4 x4))⟩, fun x3 => gA_i W.1 rfl (gI_i W.2.2.2.2.2.1.1 rfl (k3 x3))⟩, fun x2 => gA_i W.1 rfl (gI_i W.2.2.2.2.2.1.1 rfl (k2 x2))⟩, fun x1 => gA_i W.1 rfl ⟨H.is, TT.allPages H (k1 x1)⟩⟩, fun x0 => gA_i W.1 rfl (gI_i H.1 rfl ⟨W.is, s_X8_bytesOfTiers W B (Nat.le_refl _) (k0 x0)⟩)⟩
end
