def Z2.TS (zd : Nat) (f : FT) (o : OW) (i : Nat) (ad : Nat → Nat) (cap h nk : Nat) (ks : Nat → Key) (nv : Nat) (vs : Nat → Int32) (ns : Nat) (S : Nat → Key) (m : Nat → Nat) (E : Nat → Nat → Nat) : Prop :=
  f (ad 6) = some (.inr (10, [.ref (ad 0), .ref (ad 1), .ref (ad 2), .ref (ad 3), .ref (ad 4), .ref (ad 5), .int (zI h), .int (zI cap)])) ∧ o (ad 6) = some (100 * i + 5) ∧ (∃ c, KR zd f o (100 * i) (ad 0) nk ks c) ∧ (∃ c, IR f o (100 * i + 1) (ad 1) nv vs c) ∧ (∃ c, KR zd f o (100 * i + 2) (ad 2) ns S c) ∧ (∃ c, IR f o (100 * i + 4) (ad 4) 0 (fun _ => 0) c) ∧ KY f o (ad 5) [] ∧ ∃ (hh : Nat) (ta : Nat → Nat) (c : Nat), AR zd f o (100 * i + 3) (ad 3) hh ta c ∧ h ≤ hh ∧ hh ≤ 12 ∧ ∀ t, t < hh → ∃ (n : Nat) (l : Nat → Int32) (c : Nat), IR f o (100 * i + 10 + t) (ta t) n l c ∧ (t < h → n = m t ∧ ∀ p, p < n → l p = zI (E t p))
section
variable {zd : Nat} {f f' : FT} {o o' : Z2.OW} {i : Nat} {ad : Nat → Nat} {cap h nk nv ns : Nat} {ks : Nat → Z2.Key} {vs : Nat → Int32} {S : Nat → Z2.Key} {m : Nat → Nat} {E : Nat → Nat → Nat}
theorem Z2.TS.fr {R : Nat → Prop} (H : TS zd f o i ad cap h nk ks nv vs ns S m E) (F : Fr R f o f' o') (hR : ∀ q, q / 100 = i → ¬ R q) : TS zd f' o' i ad cap h nk ks nv vs ns S m E := by
  obtain ⟨x1, x2, ⟨ck, xk⟩, ⟨cv, xv⟩, ⟨cs, xs⟩, ⟨cn, xn⟩, xy, hh, ta, ca, xa, hle, h12, xt⟩ := H
  obtain ⟨p1, p2⟩ := F.get x1 (fun r e => by rw [x2] at e; cases e; exact hR _ (by omega))
  exact ⟨p1, p2.trans x2, ⟨_, xk.fr F (hR _ (by omega)) (hR _ (by omega))⟩, ⟨_, xv.fr F (hR _ (by omega))⟩, ⟨_, xs.fr F (hR _ (by omega)) (hR _ (by omega))⟩, ⟨_, xn.fr F (hR _ (by omega))⟩, xy.fr F, hh, ta, ca, xa.fr F (hR _ (by omega)), hle, h12, fun t ht => by
    obtain ⟨n, l, c, y1, y2⟩ := xt t ht
    exact ⟨n, l, c, y1.fr F (hR _ (by omega)), y2⟩⟩
theorem Z2.TS.is (H : TS zd f o i ad cap h nk ks nv vs ns S m E) : isO f (ad 6) 10 := ⟨_, H.1⟩
theorem Z2.TS.keysW (H : TS zd f o i ad cap h nk ks nv vs ns S m E) {n' c' : Nat} {l' : Nat → Key} (K' : KR zd f' o' (100 * i) (ad 0) n' l' c') (F : Fr (fun q => q = 100 * i + 50) f o f' o') : TS zd f' o' i ad cap h n' l' nv vs ns S m E := by
  obtain ⟨x1, x2, ⟨ck, xk⟩, ⟨cv, xv⟩, ⟨cs, xs⟩, ⟨cn, xn⟩, xy, hh, ta, ca, xa, hle, h12, xt⟩ := H
  obtain ⟨p1, p2⟩ := F.get x1 (fun r e => by rw [x2] at e; cases e; omega)
  exact ⟨p1, p2.trans x2, ⟨_, K'⟩, ⟨_, xv.fr F (by omega)⟩, ⟨_, xs.fr F (by omega) (by omega)⟩, ⟨_, xn.fr F (by omega)⟩, xy.fr F, hh, ta, ca, xa.fr F (by omega), hle, h12, fun t ht => by
    obtain ⟨n, l, c, y1, y2⟩ := xt t ht
    exact ⟨n, l, c, y1.fr F (by omega), y2⟩⟩
theorem Z2.TS.valsW (H : TS zd f o i ad cap h nk ks nv vs ns S m E) {n' c' : Nat} {l' : Nat → Int32} (K' : IR f' o' (100 * i + 1) (ad 1) n' l' c') (F : Fr (fun q => q = 100 * i + 1) f o f' o') : TS zd f' o' i ad cap h nk ks n' l' ns S m E := by
  obtain ⟨x1, x2, ⟨ck, xk⟩, ⟨cv, xv⟩, ⟨cs, xs⟩, ⟨cn, xn⟩, xy, hh, ta, ca, xa, hle, h12, xt⟩ := H
  obtain ⟨p1, p2⟩ := F.get x1 (fun r e => by rw [x2] at e; cases e; omega)
  exact ⟨p1, p2.trans x2, ⟨_, xk.fr F (by omega) (by omega)⟩, ⟨_, K'⟩, ⟨_, xs.fr F (by omega) (by omega)⟩, ⟨_, xn.fr F (by omega)⟩, xy.fr F, hh, ta, ca, xa.fr F (by omega), hle, h12, fun t ht => by
    obtain ⟨n, l, c, y1, y2⟩ := xt t ht
    exact ⟨n, l, c, y1.fr F (by omega), y2⟩⟩
theorem Z2.TS.sepsW (H : TS zd f o i ad cap h nk ks nv vs ns S m E) {n' c' : Nat} {l' : Nat → Key} (K' : KR zd f' o' (100 * i + 2) (ad 2) n' l' c') (F : Fr (fun q => q = 100 * i + 2 + 50) f o f' o') : TS zd f' o' i ad cap h nk ks nv vs n' l' m E := by
  obtain ⟨x1, x2, ⟨ck, xk⟩, ⟨cv, xv⟩, ⟨cs, xs⟩, ⟨cn, xn⟩, xy, hh, ta, ca, xa, hle, h12, xt⟩ := H
  obtain ⟨p1, p2⟩ := F.get x1 (fun r e => by rw [x2] at e; cases e; omega)
  exact ⟨p1, p2.trans x2, ⟨_, xk.fr F (by omega) (by omega)⟩, ⟨_, xv.fr F (by omega)⟩, ⟨_, K'⟩, ⟨_, xn.fr F (by omega)⟩, xy.fr F, hh, ta, ca, xa.fr F (by omega), hle, h12, fun t ht => by
    obtain ⟨n, l, c, y1, y2⟩ := xt t ht
    exact ⟨n, l, c, y1.fr F (by omega), y2⟩⟩
theorem Z2.TS.keysR (H : TS zd f o i ad cap h nk ks nv vs ns S m E) : ∃ c, KR zd f o (100 * i) (ad 0) nk ks c := H.2.2.1
theorem Z2.TS.valsR (H : TS zd f o i ad cap h nk ks nv vs ns S m E) : ∃ c, IR f o (100 * i + 1) (ad 1) nv vs c := H.2.2.2.1
theorem Z2.TS.sepsR (H : TS zd f o i ad cap h nk ks nv vs ns S m E) : ∃ c, KR zd f o (100 * i + 2) (ad 2) ns S c := H.2.2.2.2.1
theorem Z2.TS.congr (H : TS zd f o i ad cap h nk ks nv vs ns S m E) {m' : Nat → Nat} {E' : Nat → Nat → Nat} (hm : ∀ t, t < h → m t = m' t) (hE : ∀ t, t < h → ∀ p, p < m t → E t p = E' t p) : TS zd f o i ad cap h nk ks nv vs ns S m' E' := by
  obtain ⟨x1, x2, xk, xv, xs, xn, xy, hh, ta, ca, xa, hle, h12, xt⟩ := H
  refine ⟨x1, x2, xk, xv, xs, xn, xy, hh, ta, ca, xa, hle, h12, fun t ht => ?_⟩
  obtain ⟨n, l, c, y1, y2⟩ := xt t ht
  refine ⟨n, l, c, y1, fun z => ?_⟩
  obtain ⟨z1, z2⟩ := y2 z
  exact ⟨z1.trans (hm t z), fun p hp => by rw [z2 p hp, hE t z p (by omega)]⟩
/-- the tier total and the capacity, written -/
theorem Z2.TS.numW (H : TS zd f o i ad cap h nk ks nv vs ns S m E) {cap' h' : Nat} (hh : h' ≤ h) (e : f' (ad 6) = some (.inr (10, [.ref (ad 0), .ref (ad 1), .ref (ad 2), .ref (ad 3), .ref (ad 4), .ref (ad 5), .int (zI h'), .int (zI cap')]))) (F : Fr (fun q => q = 100 * i + 5) f o f' o) : TS zd f' o i ad cap' h' nk ks nv vs ns S m E := by
  obtain ⟨x1, x2, ⟨ck, xk⟩, ⟨cv, xv⟩, ⟨cs, xs⟩, ⟨cn, xn⟩, xy, hh, ta, ca, xa, hle, h12, xt⟩ := H
  exact ⟨e, x2, ⟨_, xk.fr F (by omega) (by omega)⟩, ⟨_, xv.fr F (by omega)⟩, ⟨_, xs.fr F (by omega) (by omega)⟩, ⟨_, xn.fr F (by omega)⟩, xy.fr F, hh, ta, ca, xa.fr F (by omega), by omega, h12, fun t ht => by
    obtain ⟨n, l, c, y1, y2⟩ := xt t ht
    exact ⟨n, l, c, y1.fr F (by omega), fun z => y2 (by omega)⟩⟩
theorem Z2.TS.h12 (H : TS zd f o i ad cap h nk ks nv vs ns S m E) : h ≤ 12 := by
  obtain ⟨x1, x2, xk, xv, xs, xn, xy, hh, ta, ca, xa, hle, h12, xt⟩ := H; omega
/-- a tier's row: how it is read, what stays when it is written -/
theorem Z2.TS.tier (H : TS zd f o i ad cap h nk ks nv vs ns S m E) {t : Nat} (ht : t < h) : ∃ r c, IR f o (100 * i + 10 + t) r (m t) (fun p => zI (E t p)) c ∧ (∀ (f' : FT) (o' : OW) (m' : Nat) (e' : Nat → Nat) (c' : Nat), IR f' o' (100 * i + 10 + t) r m' (fun p => zI (e' p)) c' → Fr (fun q => q = 100 * i + 10 + t) f o f' o' → TS zd f' o' i ad cap h nk ks nv vs ns S (stt m t m') (stt E t e')) ∧ (∀ K : Nat → Prop, K r → wp_X7_tier (ad 6) (zI t) f K) := by
  obtain ⟨x1, x2, ⟨ck, xk⟩, ⟨cv, xv⟩, ⟨cs, xs⟩, ⟨cn, xn⟩, xy, hh, ta, ca, xa, hle, h12, xt⟩ := H
  obtain ⟨n, l, c, y1, y2⟩ := xt t (by omega)
  obtain ⟨y3, y4⟩ := y2 ht
  subst y3
  refine ⟨ta t, c, y1.congr y4, fun f' o' m' e' c' I F => ?_, fun K hK => ?_⟩
  · obtain ⟨p1, p2⟩ := F.get x1 (fun r e => by rw [x2] at e; cases e; omega)
    refine ⟨p1, p2.trans x2, ⟨_, xk.fr F (by omega) (by omega)⟩, ⟨_, xv.fr F (by omega)⟩, ⟨_, xs.fr F (by omega) (by omega)⟩, ⟨_, xn.fr F (by omega)⟩, xy.fr F, hh, ta, ca, xa.fr F (by omega), hle, h12, fun u hu => ?_⟩
    by_cases z : u = t
    · subst z
      exact ⟨m', _, c', I, fun _ => ⟨(stt_same _ _ _).symm, fun p _ => by rw [stt_same]⟩⟩
    · obtain ⟨n, l, c, w1, w2⟩ := xt u hu
      refine ⟨n, l, c, w1.fr F (by omega), fun g => ?_⟩
      rw [stt_ne _ _ z, stt_ne _ _ z]; exact w2 g
  · refine ⟨fun z => absurd z (zI_neg (by omega)), fun _ => gA_i x1 rfl ⟨xa.o, s_AL_size xa ⟨fun z => ?_, fun _ => gA_i x1 rfl ⟨xa.o, s_AL_get xa (by omega) ⟨y1.is, hK⟩⟩⟩⟩⟩
    rw [zI_le (by omega) (by omega)] at z; omega
theorem Z2.TS.m4 (H : TS zd f o i ad cap h nk ks nv vs ns S m E) {t : Nat} (ht : t < h) : m t ≤ 4096 := by
  obtain ⟨r, c, I, -⟩ := H.tier ht
  have := I.le; omega
theorem Z2.TS.n4 (H : TS zd f o i ad cap h nk ks nv vs ns S m E) : nk ≤ 450 ∧ ns ≤ 450 := by
  obtain ⟨c, h1⟩ := H.keysR
  obtain ⟨d, h2⟩ := H.sepsR
  exact ⟨h1.le, h2.le⟩
theorem Z2.s_X7_pageTotal (H : TS zd f o i ad cap h nk ks nv vs ns S m E) {t : Nat} (ht : t < h) {K : Int32 → Prop} (hK : K (zI (m t))) : wp_X7_pageTotal (ad 6) (zI t) f K := by
  obtain ⟨r, c, I, -, ht⟩ := H.tier ht
  exact ⟨H.is, ht _ ⟨I.is, s_X2_count I hK⟩⟩
theorem Z2.s_X7_endOf (H : TS zd f o i ad cap h nk ks nv vs ns S m E) {t p : Nat} (ht : t < h) (hp : p < m t) {K : Int32 → Prop} (hK : K (zI (E t p))) : wp_X7_endOf (ad 6) (zI t) (zI p) f K := by
  obtain ⟨r, c, I, -, ht⟩ := H.tier ht
  exact ⟨H.is, ht _ ⟨I.is, s_X2_at I hp hK⟩⟩
theorem Z2.s_X7_startOf (H : TS zd f o i ad cap h nk ks nv vs ns S m E) {t p : Nat} (ht : t < h) (hp : p ≤ m t) {K : Int32 → Prop} (hK : K (zI (st (E t) p))) : wp_X7_startOf (ad 6) (zI t) (zI p) f K := by
  have hm := H.m4 ht
  obtain ⟨r, c, I, -, ht⟩ := H.tier ht
  refine ⟨fun z => ?_, fun z => ⟨H.is, ht _ ⟨I.is, ?_⟩⟩⟩
  · rw [show (0 : Int32) = zI 0 from rfl, zI_le (by omega) (by omega)] at z
    have : p = 0 := by omega
    subst this; exact hK
  · rw [show (0 : Int32) = zI 0 from rfl, zI_le (by omega) (by omega)] at z
    rw [show zI p - 1 = zI (p - 1) from zI_sub (show 1 ≤ p by omega)]
    refine s_X2_at I (by omega) ?_
    unfold st at hK; rw [if_neg (by omega)] at hK; exact hK
theorem Z2.s_X7_parentOf (H : TS zd f o i ad cap h nk ks nv vs ns S m E) {t p : Nat} (ht : t + 1 < h) (hp : p < 100000) (hE : ∀ q, q < m (t + 1) → E (t + 1) q < 100000) (hm : ∀ q r, q ≤ r → r < m (t + 1) → E (t + 1) q ≤ E (t + 1) r) {K : Int32 → Prop} (hK : K (zI (ff (fun q => decide (E (t + 1) q ≤ p)) (m (t + 1))))) : wp_X7_parentOf (ad 6) (zI t) (zI p) f K := by
  obtain ⟨r, c, I, -, ht⟩ := H.tier ht
  refine ⟨H.is, ?_⟩
  rw [show zI t + 1 = zI (t + 1) from zI_add t 1]
  exact ht _ ⟨I.is, s_X2_countNotAbove I hp hE hm hK⟩
/-- the way down from a page to its last leaf -/
def Z2.chn (m : Nat → Nat) (E : Nat → Nat → Nat) (ns : Nat) : Nat → Nat → Prop
  | 0, p => p < ns
  | t + 1, p => p < m (t + 1) ∧ 1 ≤ E (t + 1) p ∧ chn m E ns t (E (t + 1) p - 1)
theorem Z2.s_X7_separatorAfter (H : TS zd f o i ad cap h nk ks nv vs ns S m E) {t p : Nat} (ht : t < h) (hc : chn m E ns t p) {K : Nat → Prop} (hK : ∀ a, KY f o a (S (sx E t p)) → K a) : wp_X7_separatorAfter (ad 6) (zI t) (zI p) f K := by
  have h12 := H.h12
  obtain ⟨cs, hs⟩ := H.sepsR
  have hns := hs.le
  refine loopW_of (fun s => ∃ q u, s = (zI q, zI u) ∧ u ≤ t ∧ chn m E ns u q ∧ sx E u q = sx E t p) (fun s => s.2.toNatClampNeg) ?_ _ ⟨p, t, rfl, Nat.le_refl _, hc, rfl⟩
  rintro C s ⟨q, u, rfl, hu, hq, he⟩ hC
  refine ⟨fun z => ?_, fun z => ?_⟩
  · rw [show (0 : Int32) = zI 0 from rfl, zI_le (by omega) (by omega)] at z
    have : u = 0 := by omega
    subst this
    refine gA_i H.1 rfl ⟨hs.o, s_X4_at hs hq (fun a ha => hK a ?_)⟩
    rw [← he]; exact ha
  · rw [show (0 : Int32) = zI 0 from rfl, zI_le (by omega) (by omega)] at z
    obtain ⟨u, rfl⟩ : ∃ v, u = v + 1 := ⟨u - 1, by omega⟩
    obtain ⟨q1, q2, q3⟩ := hq
    obtain ⟨r, c, I, -, hr⟩ := H.tier (t := u + 1) (by omega)
    refine ⟨H.is, hr _ ⟨I.is, s_X2_at I q1 ?_⟩⟩
    rintro v rfl w rfl
    rw [show zI (E (u + 1) q) - 1 = zI (E (u + 1) q - 1) from zI_sub q2, zI_pred (by omega), Nat.add_sub_cancel]
    refine hC _ ⟨_, u, rfl, by omega, q3, he⟩ ?_
    rw [zI_clamp (by omega), zI_clamp (by omega)]; omega
theorem Z2.s_span100 {ad6 : Nat} {x1 y4 : Int32} {fx acc e j b0 o8 : Nat} {k bk : Key} (h1 : KY f o b0 k) (h2 : KY f o o8 bk) {K : Int32 → Prop} {C : Int32 × Nat × Int32 → Prop} (hC : C (zI (acc + (fx + (k.length - sh k bk))), b0, zI (j + 1))) : wp_X7_spanBytes_100 ad6 x1 y4 (zI fx) (zI e) (zI acc) o8 (zI j) b0 f K C := by
  refine ⟨h1.o, s_X3_length h1 ⟨h1.o, s_X3_sharedWith h1 h2 ?_⟩⟩
  rintro v rfl w rfl
  have := sh_le_left k bk
  rw [zI_add fx, zI_sub (show sh k bk ≤ fx + k.length by omega), zI_add, show zI j + 1 = zI (j + 1) from zI_add j 1, show fx + k.length - sh k bk = fx + (k.length - sh k bk) by omega]
  exact hC
theorem Z2.s_span67 (H : TS zd f o i ad cap h nk ks nv vs ns S m E) {x1 y4 : Int32} {fx a e tot : Nat} {k : Nat → Key} (hae : a ≤ e) (he : e < 100000) (htot : tot < 2147483648)
    (hg : ∀ j, a ≤ j → j < e → ∀ (P : Nat → Prop), (∀ q, KY f o q (k j) → P q) → (y4 = 0 → isO f (ad 6) 10 ∧ wp_X7_separatorAfter (ad 6) (x1 - 1) (zI j) f P) ∧ (¬ y4 = 0 → gA f (ad 6) 10 0 fun a_10 => isO f a_10 7 ∧ wp_X4_at a_10 (zI j) f P)) {K : Int32 → Prop} (hK : K (zI tot)) {base nk0 : Nat} (hb : KY f o nk0 []) (htb : tot = base + cbi fx k (e - a) a []) : ∃ n, loopW (wp_X7_spanBytes_67 (ad 6) x1 y4 (zI fx) (zI e) f K) n (zI base, nk0, zI a) := by
  refine loopW_of (fun s => ∃ j acc oo bk, s = (zI acc, oo, zI j) ∧ a ≤ j ∧ j ≤ e ∧ KY f o oo bk ∧ acc + cbi fx k (e - j) j bk = tot) (fun s => e - s.2.2.toNatClampNeg) ?_ _ ⟨a, base, nk0, [], rfl, Nat.le_refl _, hae, hb, htb.symm⟩
  rintro C s ⟨j, acc, oo, bk, rfl, j1, j2, ho, hs⟩ hC
  refine ⟨fun z => ?_, fun z => ?_⟩
  · rw [zI_le (by omega) (by omega)] at z
    have : j = e := by omega
    subst this
    rw [Nat.sub_self] at hs
    have hs : acc + 0 = tot := hs
    rw [show acc = tot by omega]; exact hK
  · rw [zI_le (by omega) (by omega)] at z
    have en : e - j = (e - (j + 1)) + 1 := by omega
    rw [en] at hs
    have hs : acc + (fx + ((k j).length - sh (k j) bk) + cbi fx k (e - (j + 1)) (j + 1) (k j)) = tot := hs
    refine hg j j1 (by omega) _ (fun q hq => s_span100 hq ho (hC _ ⟨j + 1, _, q, k j, rfl, by omega, by omega, hq, by omega⟩ ?_))
    show e - (zI (j + 1)).toNatClampNeg < e - (zI j).toNatClampNeg
    rw [zI_clamp (by omega), zI_clamp (by omega)]; omega
theorem Z2.s_span_leaf (H : TS zd f o i ad cap h nk ks nv vs ns S m E) {a b : Nat} (hab : a ≤ b) (hb : b ≤ nk) {K : Int32 → Prop} (hK : K (zI (8 + cbi 7 ks (b - a) a []))) : wp_X7_spanBytes (ad 6) (zI 0) (zI a) (zI b) f K := by
  obtain ⟨c, hk⟩ := H.keysR
  have hn := hk.le
  have hl := cbi_le (f := 7) (k := ks) (b - a) a [] (fun j h1 h2 => (hk.v (i := j) (by omega)).1)
  refine ⟨fun z => absurd rfl z, fun _ => ⟨fun z => absurd z (by decide), fun _ => ⟨fun z => absurd z (by decide), fun _ => ⟨fun z => absurd z (by decide), fun _ => gA_i H.1 rfl ?_⟩⟩⟩⟩
  refine s_span67 H (fx := 7) (base := 8) (k := ks) hab (by omega) (by omega) (fun j h1 h2 P hP => ⟨fun z => absurd z (by decide), fun _ => gA_i H.1 rfl ⟨hk.o, s_X4_at hk (by omega) hP⟩⟩) hK H.2.2.2.2.2.2.1 rfl
theorem Z2.s_span_inner (H : TS zd f o i ad cap h nk ks nv vs ns S m E) {t a b : Nat} (ht : t < h) (h1 : 1 ≤ t) (hab : a ≤ b) (hb : 1 ≤ b) (hb2 : b < 10000) (hch : ∀ j, a ≤ j → j + 1 < b → chn m E ns (t - 1) j) {K : Int32 → Prop} (hK : K (zI (8 + 4 * (b - a) + cbi 3 (fun j => S (sx E (t - 1) j)) (b - 1 - a) a []))) : wp_X7_spanBytes (ad 6) (zI t) (zI a) (zI b) f K := by
  have h12 := H.h12
  have ht0 : ¬ zI t = 0 := fun z => by rw [show (0 : Int32) = zI 0 from rfl, zI_inj (by omega) (by omega)] at z; omega
  obtain ⟨cs, hs⟩ := H.sepsR
  have hns : ∀ (u : Nat) (j : Nat), chn m E ns u j → sx E u j < ns := by
    intro u
    induction u with
    | zero => exact fun j hj => hj
    | succ u ih => exact fun j hj => ih _ hj.2.2
  have hl := cbi_le (f := 3) (k := fun j => S (sx E (t - 1) j)) (b - 1 - a) a [] (fun j h1 h2 => (hs.v (i := sx E (t - 1) j) (hns _ _ (hch j h1 (by omega)))).1)
  refine ⟨fun _ => ⟨fun _ => ⟨fun _ => ⟨fun _ => gA_i H.1 rfl ?_, fun z => absurd rfl z⟩, fun z => absurd rfl z⟩, fun z => absurd rfl z⟩, fun z => absurd z ht0⟩
  rw [zI_sub hab, show (4 : Int32) = zI 4 from rfl, show (8 : Int32) = zI 8 from rfl, zI_mul, zI_add, show zI b - 1 = zI (b - 1) from zI_sub hb]
  rcases Nat.lt_or_ge (b - 1) a with g | g
  · -- no separator at all
    have e0 : b - 1 - a = 0 := by omega
    rw [e0] at hK
    refine loopW_of (fun s => s = (zI (8 + 4 * (b - a)), ad 5, zI a)) (fun _ => 0) ?_ _ rfl
    rintro C s rfl hC
    exact ⟨fun _ => hK, fun z => absurd ((zI_le (by omega) (by omega)).mpr (by omega)) z⟩
  · refine s_span67 H (fx := 3) (base := 8 + 4 * (b - a)) (k := fun j => S (sx E (t - 1) j)) g (by omega) (by omega) (fun j j1 j2 P hP => ⟨fun _ => ⟨H.is, ?_⟩, fun z => absurd rfl z⟩) hK H.2.2.2.2.2.2.1 rfl
    rw [show zI t - 1 = zI (t - 1) from zI_sub h1]
    exact s_X7_separatorAfter H (by omega) (hch j j1 (by omega)) hP
end
/-- the class holds this tree -/
def Z2.TT (zd : Nat) (f : FT) (o : OW) (i : Nat) (ad : Nat → Nat) (T : Tr) : Prop := TS zd f o i ad T.cap T.h T.n T.ks T.n T.vs (T.m 0 - 1) T.S T.m T.E
theorem Z2.Tr.IM.chn {T : Tr} (I : T.IM) : ∀ (t p : Nat), t < T.h → p + 1 < T.m t → Z2.chn T.m T.E (T.m 0 - 1) t p := by
  intro t
  induction t with
  | zero => intro p ht hp; show p < T.m 0 - 1; omega
  | succ t ih =>
    intro p ht hp
    have h1 := I.E_pos ht (i := p) (by omega)
    have h2 := I.strict (t + 1) (by omega) ht p (p + 1) (by omega) hp
    have h3 := I.le_m ht hp
    exact ⟨by omega, by omega, ih _ (by omega) (by omega)⟩
section
variable {zd : Nat} {f : FT} {o : Z2.OW} {i : Nat} {ad : Nat → Nat} {T : Z2.Tr}
theorem Z2.TT.span (H : TT zd f o i ad T) (I : T.IM) {t a b : Nat} (ht : t < T.h) (hab : a ≤ b) (hb : b ≤ if t = 0 then T.n else T.m (t - 1)) (h1 : 1 ≤ t → 1 ≤ b) {K : Int32 → Prop} (hK : K (zI (T.psz t a b))) : wp_X7_spanBytes (ad 6) (zI t) (zI a) (zI b) f K := by
  unfold Tr.psz at hK
  rcases Nat.eq_zero_or_pos t with z | z
  · subst z
    rw [if_pos rfl] at hK hb
    exact s_span_leaf H hab hb hK
  · rw [if_neg (by omega)] at hK hb
    have hm := H.m4 (t := t - 1) (by omega)
    exact s_span_inner H ht z hab (h1 z) (by omega) (fun j j1 j2 => I.chn (t - 1) j (by omega) (by omega)) hK
theorem Z2.TT.ends (I : T.IM) {t p : Nat} (ht : t < T.h) (hp : p < T.m t) : st (T.E t) p ≤ T.E t p ∧ T.E t p ≤ (if t = 0 then T.n else T.m (t - 1)) ∧ (1 ≤ t → st (T.E t) p < T.E t p) := by
  cases t with
  | zero => exact ⟨I.st_le hp, by rw [if_pos rfl]; exact I.le_n hp, fun h => by omega⟩
  | succ t => exact ⟨Nat.le_of_lt (I.st_lt (by omega) ht hp), by rw [if_neg (by omega)]; exact I.le_m ht hp, fun _ => I.st_lt (by omega) ht hp⟩
theorem Z2.TT.pageBytes (H : TT zd f o i ad T) (I : T.IM) {t p : Nat} (ht : t < T.h) (hp : p < T.m t) {K : Int32 → Prop} (hK : K (zI (T.pgs t p))) : wp_X7_pageBytes (ad 6) (zI t) (zI p) f K := by
  obtain ⟨e1, e2, e3⟩ := TT.ends I ht hp
  exact ⟨H.is, s_X7_startOf H ht (by omega) ⟨H.is, s_X7_endOf H ht hp ⟨H.is, TT.span H I ht e1 e2 (fun z => by have := e3 z; omega) hK⟩⟩⟩
theorem Z2.TT.E4 (H : TT zd f o i ad T) (I : T.IM) {t p : Nat} (ht : t < T.h) (hp : p < T.m t) : T.E t p ≤ 4096 ∧ T.m t ≤ 4096 := by
  obtain ⟨e1, e2, e3⟩ := TT.ends I ht hp
  refine ⟨?_, H.m4 ht⟩
  have hn := I.n3
  split at e2
  · omega
  · have := H.m4 (t := t - 1) (by omega); omega
theorem Z2.TT.parentOf (H : TT zd f o i ad T) (I : T.IM) {t p : Nat} (ht : t + 1 < T.h) (hp : p < T.m t) {K : Int32 → Prop} (hK : K (zI (T.par t p))) : wp_X7_parentOf (ad 6) (zI t) (zI p) f K := by
  have hm := H.m4 (t := t) (by omega)
  exact s_X7_parentOf H ht (by omega) (fun q hq => by have := (TT.E4 H I ht hq).1; omega) (fun q r h1 h2 => I.high ht h1 h2) hK
/-- adj, as the class asks it -/
theorem Z2.Tr.IM.adjL {T : Tr} (I : T.IM) {t p : Nat} (hp : p < T.m t) : (0 < p ∧ T.adj t (p - 1) = true) ↔ (t + 1 < T.h ∧ st (T.E (t + 1)) (T.par t p) < p) := by
  constructor
  · rintro ⟨h0, ha⟩
    obtain ⟨h1, h2, h3⟩ := I.adj_iff ha
    obtain ⟨q1, q2, q3⟩ := I.pr h2 (p := p - 1) (by omega)
    rw [show p - 1 + 1 = p by omega] at h3
    rw [h3] at q2
    exact ⟨h2, by omega⟩
  · rintro ⟨h1, h2⟩
    obtain ⟨q1, q2, q3⟩ := I.pr h1 hp
    refine ⟨by omega, ?_⟩
    unfold Tr.adj
    rw [decide_eq_true_eq, show p - 1 + 1 = p by omega]
    exact ⟨by omega, h1, I.pg_eq (t := t + 1) q1 (by omega) (by omega) h1⟩
theorem Z2.Tr.IM.adjR {T : Tr} (I : T.IM) {t p : Nat} (hp : p < T.m t) : T.adj t p = true ↔ (t + 1 < T.h ∧ p + 1 < T.E (t + 1) (T.par t p)) := by
  constructor
  · intro ha
    obtain ⟨h1, h2, h3⟩ := I.adj_iff ha
    obtain ⟨q1, q2, q3⟩ := I.pr h2 (p := p + 1) h1
    rw [← h3] at q3
    exact ⟨h2, q3⟩
  · rintro ⟨h1, h2⟩
    obtain ⟨q1, q2, q3⟩ := I.pr h1 hp
    have hle := I.le_m h1 q1
    unfold Tr.adj
    rw [decide_eq_true_eq]
    exact ⟨by omega, h1, (I.pg_eq (t := t + 1) q1 (by omega) h2 h1).symm⟩
theorem Z2.TT.hasLeft (H : TT zd f o i ad T) (I : T.IM) {t p : Nat} (ht : t < T.h) (hp : p < T.m t) {K : Int32 → Prop} (h1 : (0 < p ∧ T.adj t (p - 1) = true) → K 1) (h0 : ¬ (0 < p ∧ T.adj t (p - 1) = true) → K 0) : wp_X7_hasLeftSibling (ad 6) (zI t) (zI p) f K := by
  have h12 := H.h12
  have hm := H.m4 ht
  rw [I.adjL hp] at h1 h0
  refine gI_i H.1 rfl ?_
  rw [show zI t + 1 = zI (t + 1) from zI_add t 1]
  refine ⟨fun z => ?_, fun z => ⟨H.is, ?_⟩⟩
  · rw [zI_le (by omega) (by omega)] at z
    exact h0 (fun y => by omega)
  · rw [zI_le (by omega) (by omega)] at z
    obtain ⟨q1, q2, q3⟩ := I.pr (t := t) (by omega) hp
    refine TT.parentOf H I (by omega) hp ⟨H.is, s_X7_startOf H (by omega) (by omega) ⟨fun y => ?_, fun y => ?_⟩⟩
    · rw [zI_le (by omega) (by omega)] at y
      exact h0 (fun x => by omega)
    · rw [zI_le (by omega) (by omega)] at y
      exact h1 ⟨by omega, by omega⟩
theorem Z2.TT.hasRight (H : TT zd f o i ad T) (I : T.IM) {t p : Nat} (ht : t < T.h) (hp : p < T.m t) {K : Int32 → Prop} (h1 : T.adj t p = true → K 1) (h0 : ¬ T.adj t p = true → K 0) : wp_X7_hasRightSibling (ad 6) (zI t) (zI p) f K := by
  have h12 := H.h12
  have hm := H.m4 ht
  rw [I.adjR hp] at h1 h0
  refine gI_i H.1 rfl ?_
  rw [show zI t + 1 = zI (t + 1) from zI_add t 1]
  refine ⟨fun z => ?_, fun z => ⟨H.is, ?_⟩⟩
  · rw [zI_le (by omega) (by omega)] at z
    exact h0 (fun y => by omega)
  · rw [zI_le (by omega) (by omega)] at z
    obtain ⟨q1, q2, q3⟩ := I.pr (t := t) (by omega) hp
    have e4 := (TT.E4 H I (t := t + 1) (by omega) q1).1
    refine TT.parentOf H I (by omega) hp ⟨H.is, s_X7_endOf H (by omega) q1 ?_⟩
    rw [show zI p + 1 = zI (p + 1) from zI_add p 1]
    refine ⟨fun y => ?_, fun y => ?_⟩
    · rw [zI_le (by omega) (by omega)] at y
      exact h0 (fun x => by omega)
    · rw [zI_le (by omega) (by omega)] at y
      exact h1 ⟨by omega, by omega⟩
/-- a sum over the tiers -/
def Z2.sumTo (g : Nat → Nat) : Nat → Nat
  | 0 => 0
  | k + 1 => sumTo g k + g k
theorem Z2.sumTo_mono {g : Nat → Nat} : ∀ {a b : Nat}, a ≤ b → sumTo g a ≤ sumTo g b := by
  intro a b h
  induction b with
  | zero => have : a = 0 := by omega
            subst this; exact Nat.le_refl _
  | succ b ih =>
    rcases Nat.lt_or_ge b a with z | z
    · have : a = b + 1 := by omega
      subst this; exact Nat.le_refl _
    · exact Nat.le_trans (ih z) (Nat.le_add_right _ _)
theorem Z2.sumTo_le {g : Nat → Nat} {B : Nat} : ∀ (a : Nat), (∀ k, k < a → g k ≤ B) → sumTo g a ≤ a * B := by
  intro a
  induction a with
  | zero => intro _; exact Nat.zero_le _
  | succ a ih =>
    intro h
    have h1 := ih (fun k hk => h k (by omega))
    have h2 := h a (by omega)
    rw [Nat.succ_mul]
    exact Nat.add_le_add h1 h2
theorem Z2.TT.allPages (H : TT zd f o i ad T) {K : Int32 → Prop} (hK : K (zI (sumTo T.m T.h))) : wp_X7_allPages (ad 6) f K := by
  have h12 := H.h12
  refine loopW_of (fun s => ∃ t, s = (zI (sumTo T.m t), zI t) ∧ t ≤ T.h) (fun s => T.h - s.2.toNatClampNeg) ?_ _ ⟨0, rfl, Nat.zero_le _⟩
  rintro C s ⟨t, rfl, ht⟩ hC
  refine gI_i H.1 rfl ⟨fun z => ?_, fun z => ⟨H.is, ?_⟩⟩
  · rw [zI_le (by omega) (by omega)] at z
    rw [show t = T.h by omega]; exact hK
  · rw [zI_le (by omega) (by omega)] at z
    refine s_X7_pageTotal H (by omega) ?_
    rintro v rfl w rfl
    rw [zI_add, show zI t + 1 = zI (t + 1) from zI_add t 1]
    refine hC _ ⟨t + 1, rfl, by omega⟩ ?_
    show T.h - (zI (t + 1)).toNatClampNeg < T.h - (zI t).toNatClampNeg
    rw [zI_clamp (by omega), zI_clamp (by omega)]; omega
theorem Z2.s_X7_shortest {h nk nv ns cap : Nat} {ks : Nat → Key} {vs : Nat → Int32} {S : Nat → Key} {m : Nat → Nat} {E : Nat → Nat → Nat} {mc ms : Nat} (H : TS zd f o i ad cap h nk ks nv vs ns S m E) {c : Nat} (h1 : 1 ≤ c) (hc : c < nk) (hlt : klt (ks (c - 1)) (ks c)) (b1 : 2 ≤ mc) (b2 : 13 ≤ ms) {K : Nat → FT → Prop} (hK : ∀ q f' o', KY f' o' q (sp (ks (c - 1)) (ks c)) → Fr (fun _ => False) f o f' o' → K q f') : wp_X7_shortestBefore (ad 6) (zI c) f mc ms K := by
  obtain ⟨ck, hk⟩ := H.keysR
  have hn := hk.le
  refine gA_i H.1 rfl ⟨hk.o, s_X4_at hk hc (fun a ha => gA_i H.1 rfl ⟨hk.o, ?_⟩)⟩
  rw [show zI c - 1 = zI (c - 1) from zI_sub h1]
  refine s_X4_at hk (by omega) (fun b hb => ⟨ha.o, s_X3_sharedWith ha hb ⟨mc, ms, Nat.le_refl _, Nat.le_refl _, ha.o, ?_⟩⟩)
  have hl := sp_len hlt
  have hle : (sp (ks (c - 1)) (ks c)).length ≤ (ks c).length := by unfold sp; rw [List.length_take]; omega
  rw [show zI (sh (ks c) (ks (c - 1))) + 1 = zI (sh (ks c) (ks (c - 1)) + 1) from zI_add _ 1]
  exact s_X3_prefix ha (by omega) b1 b2 hK
end
