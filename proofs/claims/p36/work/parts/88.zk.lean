def Z2.RA (zd : Nat) (f : FT) (o : OW) (i : Nat) (ad : Nat → Nat) (t r : Nat) : Prop := ∃ (hh : Nat) (ta : Nat → Nat) (c : Nat), AR zd f o (100 * i + 3) (ad 3) hh ta c ∧ t < hh ∧ ta t = r
theorem Z2.AR.inj {zd : Nat} {f : FT} {o : OW} {w a n n' c c' : Nat} {l l' : Nat → Nat} (h : AR zd f o w a n l c) (h' : AR zd f o w a n' l' c') : n = n' ∧ ∀ i, i < n → l i = l' i := by
  have hn := h.le
  have hn' := h'.le
  obtain ⟨m, b, x1, x2, x3, x4, x5⟩ := h
  obtain ⟨m', b', y1, y2, y3, y4, y5⟩ := h'
  rw [x1] at y1
  have e := Option.some.inj y1
  simp only [Sum.inr.injEq, Prod.mk.injEq, List.cons.injEq, Value.int.injEq, Value.ref.injEq, and_true, true_and] at e
  obtain ⟨rfl, rfl, e3⟩ := e
  rw [zI_inj (by omega) (by omega)] at e3
  subst e3
  refine ⟨rfl, fun i hi => ?_⟩
  rcases x5 with ⟨-, x5⟩ | ⟨-, -, -, g, x8, x9⟩
  · omega
  · rcases y5 with ⟨-, y5⟩ | ⟨-, -, -, g', y8, y9⟩
    · omega
    · rw [x8] at y8
      have e := Option.some.inj y8
      simp only [Sum.inl.injEq, Prod.mk.injEq, Sum.inr.injEq, true_and] at e
      obtain ⟨-, rfl⟩ := e
      have := (x9 i hi).symm.trans (y9 i hi)
      exact Option.some.inj this
section
variable {zd : Nat} {f f' : FT} {o o' : Z2.OW} {i : Nat} {ad : Nat → Nat} {cap h nk nv ns : Nat} {ks : Nat → Z2.Key} {vs : Nat → Int32} {S : Nat → Z2.Key} {m : Nat → Nat} {E : Nat → Nat → Nat}
theorem Z2.RA.fr {R : Nat → Prop} {t r : Nat} (h : RA zd f o i ad t r) (F : Fr R f o f' o') (hR : ¬ R (100 * i + 3)) : RA zd f' o' i ad t r := by
  obtain ⟨hh, ta, c, h1, h2⟩ := h; exact ⟨hh, ta, c, h1.fr F hR, h2⟩
theorem Z2.TS.row (H : TS zd f o i ad cap h nk ks nv vs ns S m E) {t r : Nat} (ra : RA zd f o i ad t r) (ht : t < h) : ∃ c, IR f o (100 * i + 10 + t) r (m t) (fun p => zI (E t p)) c ∧ (∀ (f' : FT) (o' : OW) (m' : Nat) (e' : Nat → Nat) (c' : Nat), IR f' o' (100 * i + 10 + t) r m' (fun p => zI (e' p)) c' → Fr (fun q => q = 100 * i + 10 + t) f o f' o' → TS zd f' o' i ad cap h nk ks nv vs ns S (stt m t m') (stt E t e')) := by
  obtain ⟨x1, x2, ⟨ck, xk⟩, ⟨cv, xv⟩, ⟨cs, xs⟩, ⟨cn, xn⟩, xy, hh, ta, ca, xa, hle, h12, xt⟩ := H
  obtain ⟨hh', ta', ca', xa', ht', hr⟩ := ra
  obtain ⟨rfl, he⟩ := xa.inj xa'
  have hr2 : ta t = r := (he t ht').trans hr
  obtain ⟨n, l, c, y1, y2⟩ := xt t (by omega)
  obtain ⟨y3, y4⟩ := y2 ht
  subst y3
  subst hr2
  refine ⟨c, y1.congr y4, fun f' o' m' e' c' I F => ?_⟩
  obtain ⟨p1, p2⟩ := F.get x1 (fun r e => by rw [x2] at e; cases e; omega)
  refine ⟨p1, p2.trans x2, ⟨_, xk.fr F (by omega) (by omega)⟩, ⟨_, xv.fr F (by omega)⟩, ⟨_, xs.fr F (by omega) (by omega)⟩, ⟨_, xn.fr F (by omega)⟩, xy.fr F, hh, ta, ca, xa.fr F (by omega), hle, h12, fun u hu => ?_⟩
  by_cases z : u = t
  · subst z
    exact ⟨m', _, c', I, fun _ => ⟨(stt_same _ _ _).symm, fun p _ => by rw [stt_same]⟩⟩
  · obtain ⟨n, l, c, w1, w2⟩ := xt u hu
    refine ⟨n, l, c, w1.fr F (by omega), fun g => ?_⟩
    rw [stt_ne _ _ z, stt_ne _ _ z]; exact w2 g
theorem Z2.s_addTier29 (H : TS zd f o i ad cap h nk ks nv vs ns S m E) {r bc bs : Nat} (ra : RA zd f o i ad h r) {K : Nat → FT → Prop} (hK : ∀ f', TS zd f' o i ad cap (h + 1) nk ks nv vs ns S (stt m h 0) E → RA zd f' o i ad h r → Fr (fun q => q / 100 = i) f o f' o → K r f') : wp_X7_addTier_29 zd (ad 6) f bc bs K := by
  obtain ⟨x1, x2, ⟨ck, xk⟩, ⟨cv, xv⟩, ⟨cs, xs⟩, ⟨cn, xn⟩, xy, hh, ta, ca, xa, hle, h12, xt⟩ := id H
  obtain ⟨hh', ta', ca', xa', ht', hr⟩ := id ra
  obtain ⟨e1, he⟩ := xa.inj xa'
  subst e1
  have hr2 : ta h = r := (he h ht').trans hr
  obtain ⟨n, l, c, y1, -⟩ := xt h ht'
  rw [hr2] at y1
  refine gI_i x1 rfl ⟨H.is, fun z => absurd z (zI_neg (by omega)), fun _ => gA_i x1 rfl ⟨xa.o, s_AL_size xa ⟨fun z => ?_, fun _ => gA_i x1 rfl ⟨xa.o, s_AL_get xa ht' ?_⟩⟩⟩⟩
  · rw [zI_le (by omega) (by omega)] at z; omega
  · rw [hr2]
    refine ⟨y1.is, y1.is, s_X2_empty y1 (fun f1 e1 F1 => ?_)⟩
    obtain ⟨p1, -⟩ := F1.get x1 (fun r' e => by rw [x2] at e; cases e; omega)
    refine gI_i p1 rfl (pV_g p1 (by simp) (fun f2 e2 n2 => ?_))
    have F2 : Fr (fun q => q = 100 * i + 5) f1 o f2 o := Fr.one p1 e2 x2 n2
    rw [show zI h + 1 = zI (h + 1) from zI_add h 1] at e2
    refine hK f2 ⟨e2, x2, ⟨_, (xk.fr F1 (by omega) (by omega)).fr F2 (by omega) (by omega)⟩, ⟨_, (xv.fr F1 (by omega)).fr F2 (by omega)⟩, ⟨_, (xs.fr F1 (by omega) (by omega)).fr F2 (by omega) (by omega)⟩, ⟨_, (xn.fr F1 (by omega)).fr F2 (by omega)⟩, (xy.fr F1).fr F2, hh, ta, ca, (xa.fr F1 (by omega)).fr F2 (by omega), ht', h12, fun u hu => ?_⟩ ((ra.fr F1 (by omega)).fr F2 (by omega)) ((F1.mono (fun q hq => by omega)).trans (F2.mono (fun q hq => by omega)))
    by_cases z : u = h
    · subst z
      rw [hr2]
      exact ⟨0, fun _ => 0, c, (e1 _).fr F2 (by omega), fun _ => ⟨(stt_same _ _ _).symm, fun p hp => absurd hp (Nat.not_lt_zero p)⟩⟩
    · obtain ⟨n, l, c, w1, w2⟩ := xt u hu
      refine ⟨n, l, c, (w1.fr F1 (by omega)).fr F2 (by omega), fun g => ?_⟩
      rw [stt_ne _ _ z]; exact w2 (by omega)
theorem Z2.s_X7_addTier (H : TS zd f o i ad cap h nk ks nv vs ns S m E) {mc ms : Nat} (h12 : h < 12) (b1 : 3 ≤ mc) (b2 : 36 ≤ ms) {K : Nat → FT → Prop} (hK : ∀ r f' o', TS zd f' o' i ad cap (h + 1) nk ks nv vs ns S (stt m h 0) E → RA zd f' o' i ad h r → Fr (fun q => q / 100 = i) f o f' o' → K r f') : wp_X7_addTier zd (ad 6) f mc ms K := by
  obtain ⟨x1, x2, ⟨ck, xk⟩, ⟨cv, xv⟩, ⟨cs, xs⟩, ⟨cn, xn⟩, xy, hh, ta, ca, xa, hle, h12', xt⟩ := id H
  refine gI_i x1 rfl (gA_i x1 rfl ⟨xa.o, s_AL_size xa ⟨fun z => ?_, fun z => gA_i x1 rfl (nO_g (by omega) (by omega) (fun q f1 hq e1 n1 => ?_))⟩⟩)
  · rw [zI_lt (by omega) (by omega)] at z
    exact s_addTier29 H ⟨hh, ta, ca, xa, z, rfl⟩ (fun f' a b c => hK _ f' o a b c)
  · rw [zI_lt (by omega) (by omega)] at z
    have ehh : hh = h := by omega
    subst ehh
    have F1 : Fr (fun q => q / 100 = i) f o f1 (oup o q (some (100 * i + 10 + hh))) := fun a ha => by
      have hne : a ≠ q := fun z => ha (z ▸ hq)
      exact ⟨by rw [n1 a hne]; exact ha, oup_ne _ _ hne, fun _ => n1 a hne⟩
    have F1' : Fr (fun _ => False) f o f1 (oup o q (some (100 * i + 10 + hh))) := fun a ha => by
      have hne : a ≠ q := fun z => ha (z ▸ hq)
      exact ⟨by rw [n1 a hne]; exact ha, oup_ne _ _ hne, fun _ => n1 a hne⟩
    refine ⟨1, 16, by omega, by omega, s_X2_init (o := oup o q (some (100 * i + 10 + hh))) (w := 100 * i + 10 + hh) e1 (oup_self _ _ _) (Nat.le_refl _) (Nat.le_refl _) (fun f2 o2 I2 F2 => ?_)⟩
    have xa2 := (xa.fr F1' (fun z => z)).fr F2 (by omega)
    refine ⟨1, 18, by omega, by omega, xa2.o, s_AL_add xa2 (by omega) (fun j hj => ?_) ((I2 (fun _ => 0)).ok (by omega)) (fun _ => Nat.le_refl _) (fun _ => by unfold ga; split <;> omega) (fun f3 o3 A3 F3 => ?_)⟩
    · obtain ⟨n, l, c, w1, -⟩ := xt j hj
      exact ((w1.fr F1' (fun z => z)).fr F2 (by omega)).ok (by omega)
    · have F23 : Fr (fun q => q / 100 = i) f1 (oup o q (some (100 * i + 10 + hh))) f3 o3 := (F2.mono (fun q hq => by omega)).trans (F3.mono (fun q hq => by omega))
      obtain ⟨p1, p2⟩ := F1'.get x1 (fun r e z => z)
      obtain ⟨q1, q2⟩ := F2.get p1 (fun r e => by rw [p2, x2] at e; cases e; omega)
      obtain ⟨r1, r2⟩ := F3.get q1 (fun r e => by rw [q2, p2, x2] at e; cases e; omega)
      have H3 : TS zd f3 o3 i ad cap hh nk ks nv vs ns S m E := by
        refine ⟨r1, r2.trans (q2.trans (p2.trans x2)), ⟨_, ((xk.fr F1' (fun z => z) (fun z => z)).fr F2 (by omega) (by omega)).fr F3 (by omega) (by omega)⟩, ⟨_, ((xv.fr F1' (fun z => z)).fr F2 (by omega)).fr F3 (by omega)⟩, ⟨_, ((xs.fr F1' (fun z => z) (fun z => z)).fr F2 (by omega) (by omega)).fr F3 (by omega) (by omega)⟩, ⟨_, ((xn.fr F1' (fun z => z)).fr F2 (by omega)).fr F3 (by omega)⟩, ((xy.fr F1').fr F2).fr F3, hh + 1, _, _, A3, by omega, by omega, fun u hu => ?_⟩
        by_cases z : u = hh
        · subst z
          rw [stt_same]
          exact ⟨0, fun _ => 0, 16, (I2 _).fr F3 (by omega), fun g => absurd g (Nat.lt_irrefl _)⟩
        · rw [stt_ne _ _ z]
          obtain ⟨n, l, c, w1, w2⟩ := xt u (by omega)
          exact ⟨n, l, c, ((w1.fr F1' (fun z => z)).fr F2 (by omega)).fr F3 (by omega), w2⟩
      exact s_addTier29 H3 ⟨_, _, _, A3, by omega, rfl⟩ (fun f' a b c => hK _ f' o3 a b ((F1.trans F23).trans c))
end
def Z2.IN (f : FT) (o : OW) (a tr cu : Nat) (c0 c1 : Nat) : Prop := f a = some (.inr (4, [.ref tr, .ref cu, .int (zI c0), .int (zI c1)])) ∧ o a = some 301
theorem Z2.IN.fr {R : Nat → Prop} {f f' : FT} {o o' : OW} {a tr cu c0 c1 : Nat} (h : IN f o a tr cu c0 c1) (F : Fr R f o f' o') (hR : ¬ R 301) : IN f' o' a tr cu c0 c1 := by
  obtain ⟨p1, p2⟩ := F.get h.1 (fun q e => by rw [h.2] at e; cases e; exact hR)
  exact ⟨p1, p2.trans h.2⟩
theorem Z2.IN.is {f : FT} {o : OW} {a tr cu c0 c1 : Nat} (h : IN f o a tr cu c0 c1) : isO f a 4 := ⟨_, h.1⟩
def Z2.RI : Nat → Prop := fun q => q / 100 = 0 ∨ q = 301
theorem Z2.stt_self {α : Type} (l : Nat → α) (t : Nat) (u : Nat) : stt l t (l t) u = l u := by
  unfold stt
  split
  · rename_i e; rw [e]
  · rfl
section
variable {zd : Nat} {f : FT} {o : Z2.OW} {ad : Nat → Nat} {T : Z2.Tr} {a cu mc ms : Nat}
theorem Z2.s_X1_moveBoundary (H : TT zd f o 0 ad T) (N : IN f o a (ad 6) cu T.c0 T.c1) (I : T.IM) {l c : Nat} (hl : l + 1 < T.m 0) (h1 : 1 ≤ c) (hc : c < T.n) (b1 : 2 ≤ mc) (b2 : 13 ≤ ms) {K : FT → Prop} (hK : ∀ f' o', TT zd f' o' 0 ad (T.moveB l c) → IN f' o' a (ad 6) cu (T.moveB l c).c0 (T.moveB l c).c1 → Fr RI f o f' o' → K f') : wp_X1_moveBoundary a (zI l) (zI c) f mc ms K := by
  have hh := I.h1
  obtain ⟨r, cr, Ir, lens, rd⟩ := H.tier (t := 0) (by omega)
  refine gA_i N.1 rfl ⟨H.is, rd _ ⟨Ir.is, s_X2_replace Ir (by omega) _ (fun f1 I1 F1 => ?_)⟩⟩
  have H1 := lens f1 o (T.m 0) (stt (T.E 0) l c) cr (I1.congr (fun p hp => by unfold stt; split <;> rfl)) F1
  have N1 := N.fr F1 (by omega)
  refine gA_i N1.1 rfl (gA_i H1.1 rfl (gA_i N1.1 rfl ⟨mc, ms, Nat.le_refl _, Nat.le_refl _, H1.is, s_X7_shortest H1 h1 hc (I.srt _ _ (by omega) hc) b1 b2 (fun q f2 o2 K2 F2 => ?_)⟩))
  have H2 := H1.fr F2 (fun _ _ z => z)
  have N2 := N1.fr F2 (fun z => z)
  obtain ⟨cs, R2⟩ := H2.sepsR
  refine ⟨R2.o, s_X4_replace R2 K2 (by omega) (fun f3 R3 F3 => ?_)⟩
  have H3 := H2.sepsW R3 F3
  have N3 := N2.fr F3 (by omega)
  refine gI_i N3.1 rfl (pV_g N3.1 (by simp) (fun f4 e4 n4 => ?_))
  have F4 : Fr (fun q => q = 301) f3 o2 f4 o2 := Fr.one N3.1 e4 N3.2 n4
  rw [show zI T.c1 + 1 = zI (T.c1 + 1) from zI_add _ 1] at e4
  refine hK f4 o2 ?_ ⟨e4, N3.2⟩ ((((F1.mono (fun q hq => ?_)).trans (F2.mono (fun q hq => hq.elim))).trans (F3.mono (fun q hq => ?_))).trans (F4.mono (fun q hq => Or.inr hq)))
  · exact (H3.fr F4 (fun q hq z => by omega)).congr (m' := T.m) (fun t ht => stt_self _ _ t) (fun t ht p hp => rfl)
  · left; omega
  · left; omega
theorem Z2.s_X1_giveLeft67 (H : TT zd f o 0 ad T) (N : IN f o a (ad 6) cu T.c0 T.c1) (I : T.IM) {p bc bs : Nat} (hp : p < T.m 0) (ha : 0 < p ∧ T.adj 0 (p - 1) = true) (hf : st (T.E 0) p + 2 ≤ T.E 0 p) (b1 : 2 ≤ bc) (b2 : 13 ≤ bs) {K : Int32 → FT → Prop} (hK0 : T.giveL p = none → K 0 f) (hK : ∀ f' o' T', T.giveL p = some T' → TT zd f' o' 0 ad T' → IN f' o' a (ad 6) cu T'.c0 T'.c1 → Fr RI f o f' o' → K 1 f') : wp_X1_giveLeft_67 a (zI p) (zI (T.cutL p)) f bc bs K := by
  have hh := I.h1
  obtain ⟨c1, c2⟩ := I.cutL_in hp hf
  obtain ⟨e1, e2, e3⟩ := TT.ends I (t := 0) (p := p - 1) (by omega) (by omega)
  obtain ⟨g1, g2, g3⟩ := TT.ends I (t := 0) (p := p) (by omega) hp
  rw [if_pos rfl] at e2 g2
  have hn := I.n3
  have hps := I.psz0_le (a := st (T.E 0) (p - 1)) (b := T.cutL p) (by omega)
  have hst : T.E 0 (p - 1) = st (T.E 0) p := by unfold st; rw [if_neg (by omega)]
  refine gA_i N.1 rfl (gA_i N.1 rfl ⟨H.is, ?_⟩)
  rw [show zI p - 1 = zI (p - 1) from zI_sub (show 1 ≤ p by omega)]
  refine s_X7_startOf H (t := 0) (by omega) (by omega) ⟨H.is, TT.span H I (t := 0) (by omega) (by omega) (by rw [if_pos rfl]; omega) (fun z => by omega) (gA_i N.1 rfl (gI_i H.1 rfl ⟨fun z => ?_, fun z => ?_⟩))⟩
  · have hcap := I.cap
    rw [zI_le (by omega) (by omega)] at z
    have eg : T.giveL p = some (T.moveB (p - 1) (T.cutL p)) := by unfold Tr.giveL; rw [if_pos ⟨ha.1, ha.2, z⟩]
    exact ⟨bc, bs, Nat.le_refl _, Nat.le_refl _, N.is, s_X1_moveBoundary H N I (by omega) (by omega) (by omega) b1 b2 (fun f' o' a b c => hK f' o' _ eg a b c)⟩
  · have hcap := I.cap
    rw [zI_le (by omega) (by omega)] at z
    exact hK0 (by unfold Tr.giveL; rw [if_neg (fun y => z y.2.2)])
theorem Z2.s_X1_giveLeft (H : TT zd f o 0 ad T) (N : IN f o a (ad 6) cu T.c0 T.c1) (I : T.IM) {p : Nat} (hp : p < T.m 0) (hf : st (T.E 0) p + 2 ≤ T.E 0 p) (b1 : 2 ≤ mc) (b2 : 13 ≤ ms) {K : Int32 → FT → Prop} (hK0 : T.giveL p = none → K 0 f) (hK : ∀ f' o' T', T.giveL p = some T' → TT zd f' o' 0 ad T' → IN f' o' a (ad 6) cu T'.c0 T'.c1 → Fr RI f o f' o' → K 1 f') : wp_X1_giveLeft a (zI p) f mc ms K := by
  have hh := I.h1
  obtain ⟨g1, g2, g3⟩ := TT.ends I (t := 0) (p := p) (by omega) hp
  rw [if_pos rfl] at g2
  have hn := I.n3
  have hcap := I.cap
  refine gA_i N.1 rfl ⟨H.is, TT.hasLeft H I (t := 0) (by omega) hp (fun ha => ⟨fun _ => ?_, fun z => absurd z (by decide)⟩) (fun ha => ⟨fun z => absurd rfl z, fun _ => hK0 (by unfold Tr.giveL; rw [if_neg (fun y => ha ⟨y.1, y.2.1⟩)])⟩)⟩
  refine gA_i N.1 rfl ⟨H.is, s_X7_endOf H (t := 0) (by omega) hp (gA_i N.1 rfl ⟨H.is, s_X7_startOf H (t := 0) (by omega) (by omega) ?_⟩)⟩
  rintro v rfl
  rw [show zI (st (T.E 0) p) + 1 = zI (st (T.E 0) p + 1) from zI_add _ 1]
  refine loopW_of (fun s => ∃ j, s = (zI (st (T.E 0) p + 1 + j), f, mc, ms) ∧ j ≤ T.E 0 p - (st (T.E 0) p + 1) ∧ ∀ k, k < j → T.cap < T.psz 0 (st (T.E 0) p + 1 + k) (T.E 0 p)) (fun s => T.E 0 p - s.1.toNatClampNeg) ?_ _ ⟨0, rfl, Nat.zero_le _, fun k hk => absurd hk (Nat.not_lt_zero k)⟩
  rintro C s ⟨j, rfl, hj, hk⟩ hC
  have fin : (j < T.E 0 p - (st (T.E 0) p + 1) → ¬ T.cap < T.psz 0 (st (T.E 0) p + 1 + j) (T.E 0 p)) → wp_X1_giveLeft_67 a (zI p) (zI (st (T.E 0) p + 1 + j)) f mc ms K := fun hz => by
    have e : T.cutL p = st (T.E 0) p + 1 + j := by
      unfold Tr.cutL
      rw [ff_eq hj (fun k h => decide_eq_true (hk k h)) (fun h => decide_eq_false (hz h))]
    rw [← e]
    exact s_X1_giveLeft67 H N I hp ha hf b1 b2 hK0 hK
  refine ⟨fun z => ?_, fun z => gA_i N.1 rfl ⟨H.is, ?_⟩⟩
  · rw [zI_le (by omega) (by omega)] at z
    exact fin (fun h => by omega)
  · rw [zI_le (by omega) (by omega)] at z
    have hps := I.psz0_le (a := st (T.E 0) p + 1 + j) (b := T.E 0 p) (by omega)
    refine TT.span H I (t := 0) (by omega) (by omega) (by rw [if_pos rfl]; omega) (fun z => by omega) (gA_i N.1 rfl (gI_i H.1 rfl ⟨fun y => ?_, fun y => ?_⟩))
    · rw [zI_le (by omega) (by omega)] at y
      exact fin (fun _ => by omega)
    · rw [zI_le (by omega) (by omega)] at y
      rintro v rfl
      rw [show zI (st (T.E 0) p + 1 + j) + 1 = zI (st (T.E 0) p + 1 + (j + 1)) from zI_add _ 1]
      refine hC _ ⟨j + 1, rfl, by omega, fun k hk' => ?_⟩ ?_
      · by_cases e : k = j
        · rw [e]; omega
        · exact hk k (by omega)
      · show T.E 0 p - (zI (st (T.E 0) p + 1 + (j + 1))).toNatClampNeg < T.E 0 p - (zI (st (T.E 0) p + 1 + j)).toNatClampNeg
        rw [zI_clamp (by omega), zI_clamp (by omega)]; omega
theorem Z2.s_X1_giveRight67 (H : TT zd f o 0 ad T) (N : IN f o a (ad 6) cu T.c0 T.c1) (I : T.IM) {p bc bs : Nat} (hp : p < T.m 0) (ha : T.adj 0 p = true) (hf : st (T.E 0) p + 2 ≤ T.E 0 p) (b1 : 2 ≤ bc) (b2 : 13 ≤ bs) {K : Int32 → FT → Prop} (hK0 : T.giveR p = none → K 0 f) (hK : ∀ f' o' T', T.giveR p = some T' → TT zd f' o' 0 ad T' → IN f' o' a (ad 6) cu T'.c0 T'.c1 → Fr RI f o f' o' → K 1 f') : wp_X1_giveRight_67 a (zI p) (zI (T.cutR p)) f bc bs K := by
  have hh := I.h1
  obtain ⟨c1, c2⟩ := I.cutR_in hp hf
  obtain ⟨hl, -, -⟩ := I.adj_iff ha
  obtain ⟨e1, e2, e3⟩ := TT.ends I (t := 0) (p := p + 1) (by omega) hl
  obtain ⟨g1, g2, g3⟩ := TT.ends I (t := 0) (p := p) (by omega) hp
  rw [if_pos rfl] at e2 g2
  have hn := I.n3
  have hps := I.psz0_le (a := T.cutR p) (b := T.E 0 (p + 1)) (by omega)
  have hst : T.E 0 p = st (T.E 0) (p + 1) := by unfold st; rw [if_neg (by omega), Nat.add_sub_cancel]
  refine gA_i N.1 rfl (gA_i N.1 rfl ⟨H.is, ?_⟩)
  rw [show zI p + 1 = zI (p + 1) from zI_add _ 1]
  refine s_X7_endOf H (t := 0) (by omega) hl ⟨H.is, TT.span H I (t := 0) (by omega) (by omega) (by rw [if_pos rfl]; omega) (fun z => by omega) (gA_i N.1 rfl (gI_i H.1 rfl ⟨fun z => ?_, fun z => ?_⟩))⟩
  · have hcap := I.cap
    rw [zI_le (by omega) (by omega)] at z
    have eg : T.giveR p = some (T.moveB p (T.cutR p)) := by unfold Tr.giveR; rw [if_pos ⟨ha, z⟩]
    exact ⟨bc, bs, Nat.le_refl _, Nat.le_refl _, N.is, s_X1_moveBoundary H N I (by omega) (by omega) (by omega) b1 b2 (fun f' o' a b c => hK f' o' _ eg a b c)⟩
  · have hcap := I.cap
    rw [zI_le (by omega) (by omega)] at z
    exact hK0 (by unfold Tr.giveR; rw [if_neg (fun y => z y.2)])
theorem Z2.s_X1_giveRight (H : TT zd f o 0 ad T) (N : IN f o a (ad 6) cu T.c0 T.c1) (I : T.IM) {p : Nat} (hp : p < T.m 0) (hf : st (T.E 0) p + 2 ≤ T.E 0 p) (b1 : 2 ≤ mc) (b2 : 13 ≤ ms) {K : Int32 → FT → Prop} (hK0 : T.giveR p = none → K 0 f) (hK : ∀ f' o' T', T.giveR p = some T' → TT zd f' o' 0 ad T' → IN f' o' a (ad 6) cu T'.c0 T'.c1 → Fr RI f o f' o' → K 1 f') : wp_X1_giveRight a (zI p) f mc ms K := by
  have hh := I.h1
  obtain ⟨g1, g2, g3⟩ := TT.ends I (t := 0) (p := p) (by omega) hp
  rw [if_pos rfl] at g2
  have hn := I.n3
  have hcap := I.cap
  refine gA_i N.1 rfl ⟨H.is, TT.hasRight H I (t := 0) (by omega) hp (fun ha => ⟨fun _ => ?_, fun z => absurd z (by decide)⟩) (fun ha => ⟨fun z => absurd rfl z, fun _ => hK0 (by unfold Tr.giveR; rw [if_neg (fun y => ha y.1)])⟩)⟩
  refine gA_i N.1 rfl ⟨H.is, s_X7_startOf H (t := 0) (by omega) (by omega) (gA_i N.1 rfl ⟨H.is, s_X7_endOf H (t := 0) (by omega) hp ?_⟩)⟩
  rintro v rfl
  rw [show zI (T.E 0 p) - 1 = zI (T.E 0 p - 1) from zI_sub (show 1 ≤ T.E 0 p by omega)]
  refine loopW_of (fun s => ∃ j, s = (zI (T.E 0 p - 1 - j), f, mc, ms) ∧ j ≤ T.E 0 p - 1 - st (T.E 0) p ∧ ∀ k, k < j → T.cap < T.psz 0 (st (T.E 0) p) (T.E 0 p - 1 - k)) (fun s => s.1.toNatClampNeg) ?_ _ ⟨0, rfl, Nat.zero_le _, fun k hk => absurd hk (Nat.not_lt_zero k)⟩
  rintro C s ⟨j, rfl, hj, hk⟩ hC
  have fin : (j < T.E 0 p - 1 - st (T.E 0) p → ¬ T.cap < T.psz 0 (st (T.E 0) p) (T.E 0 p - 1 - j)) → wp_X1_giveRight_67 a (zI p) (zI (T.E 0 p - 1 - j)) f mc ms K := fun hz => by
    have e : T.cutR p = T.E 0 p - 1 - j := by
      unfold Tr.cutR
      rw [ff_eq hj (fun k h => decide_eq_true (hk k h)) (fun h => decide_eq_false (hz h))]
    rw [← e]
    exact s_X1_giveRight67 H N I hp ha hf b1 b2 hK0 hK
  refine ⟨fun z => ?_, fun z => gA_i N.1 rfl ⟨H.is, ?_⟩⟩
  · rw [zI_le (by omega) (by omega)] at z
    exact fin (fun h => by omega)
  · rw [zI_le (by omega) (by omega)] at z
    have hps := I.psz0_le (a := st (T.E 0) p) (b := T.E 0 p - 1 - j) (by omega)
    refine TT.span H I (t := 0) (by omega) (by omega) (by rw [if_pos rfl]; omega) (fun z => by omega) (gA_i N.1 rfl (gI_i H.1 rfl ⟨fun y => ?_, fun y => ?_⟩))
    · rw [zI_le (by omega) (by omega)] at y
      exact fin (fun _ => by omega)
    · rw [zI_le (by omega) (by omega)] at y
      rintro v rfl
      rw [zI_pred (by omega), show T.E 0 p - 1 - j - 1 = T.E 0 p - 1 - (j + 1) by omega]
      refine hC _ ⟨j + 1, rfl, by omega, fun k hk' => ?_⟩ ?_
      · by_cases e : k = j
        · rw [e]; omega
        · exact hk k (by omega)
      · show (zI (T.E 0 p - 1 - (j + 1))).toNatClampNeg < (zI (T.E 0 p - 1 - j)).toNatClampNeg
        rw [zI_clamp (by omega), zI_clamp (by omega)]; omega
end
