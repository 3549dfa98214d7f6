theorem Z2.KR.congr {zd : Nat} {f : FT} {o : OW} {w r n c : Nat} {l l' : Nat → Key} (h : KR zd f o w r n l c) (e : ∀ i, i < n → l i = l' i) : KR zd f o w r n l' c := by
  obtain ⟨a, q, ad, k, h1, h2, h3, h4, h5⟩ := h
  exact ⟨a, q, ad, k, h1, h2, h3, fun i hi => by rw [← e i hi]; exact h4 i hi, h5⟩
theorem Z2.KR.c10 {zd : Nat} {f : FT} {o : OW} {w r n c : Nat} {l : Nat → Key} (h : KR zd f o w r n l c) : n ≤ c ∧ c ≤ 450 ∧ (c = 0 ∨ 10 ≤ c) := by
  obtain ⟨a, q, ad, k, h1, h2, h3, h4, h5⟩ := h; exact h3.c10
theorem Z2.chn_congr {m m' : Nat → Nat} {E E' : Nat → Nat → Nat} {ns : Nat} : ∀ (t p : Nat), (∀ u, u ≤ t → m u = m' u ∧ E u = E' u) → chn m E ns t p → chn m' E' ns t p := by
  intro t
  induction t with
  | zero => intro p _ h; exact h
  | succ t ih =>
    intro p h hc
    obtain ⟨h1, h2, h3⟩ := hc
    obtain ⟨e1, e2⟩ := h (t + 1) (Nat.le_refl _)
    refine ⟨by rw [← e1]; exact h1, by rw [← e2]; exact h2, ?_⟩
    rw [← e2]
    exact ih _ (fun u hu => h u (by omega)) h3
def Z2.LD (zd : Nat) (f : FT) (o : OW) (a w : Nat) (wk : Nat → Key) (wv : Nat → Int32) : Prop := ∃ kr ir ck ci, f a = some (.inr (8, [.ref kr, .ref ir])) ∧ o a = some 202 ∧ KR zd f o 200 kr w wk ck ∧ IR f o 201 ir w wv ci
theorem Z2.LD.fr {R : Nat → Prop} {zd : Nat} {f f' : FT} {o o' : OW} {a w : Nat} {wk : Nat → Key} {wv : Nat → Int32} (h : LD zd f o a w wk wv) (F : Fr R f o f' o') (hR : ∀ q, q / 100 = 2 → ¬ R q) : LD zd f' o' a w wk wv := by
  obtain ⟨kr, ir, ck, ci, h1, h2, h3, h4⟩ := h
  obtain ⟨p1, p2⟩ := F.get h1 (fun q e => by rw [h2] at e; cases e; exact hR _ (by omega))
  exact ⟨kr, ir, ck, ci, p1, p2.trans h2, h3.fr F (hR _ (by omega)) (hR _ (by omega)), h4.fr F (hR _ (by omega))⟩
theorem Z2.LD.is {zd : Nat} {f : FT} {o : OW} {a w : Nat} {wk : Nat → Key} {wv : Nat → Int32} (h : LD zd f o a w wk wv) : isO f a 8 := by
  obtain ⟨kr, ir, ck, ci, h1, -⟩ := h; exact ⟨_, h1⟩
section
variable {zd : Nat} {f : FT} {o : Z2.OW} {ad : Nat → Nat} {T : Z2.Tr} {a mc ms : Nat}
/-- the tiers above the leaves -/
theorem Z2.s_X5_build84 {R : Tr} {limit : Nat} {K : FT → Prop} (hK : ∀ f' o', TT zd f' o' 0 ad R → Fr (fun q => q / 100 = 0) f o f' o' → K f') (H : TT zd f o 0 ad T) (L : T.LM) (hm : T.m 0 ≤ 301) (hlim : limit < 10000) (hh : T.h = 1) (hR : Tr.tiers limit 299 T 1 = R) (hld : isO f a 8) (hoa : o a = some 202) (b1 : 99 ≤ mc) (b2 : 8 * T.m 0 + 660 ≤ ms) : ∃ n, loopW (wp_X5_build_84 zd a (ad 6) (zI limit) K) n (1, f, mc, ms) := by
  refine loopW_of (fun s => ∃ t f1 o1 U bc bs, s = (zI t, f1, bc, bs) ∧ U.h = t ∧ TT zd f1 o1 0 ad U ∧ U.LM ∧ U.m 0 ≤ 301 ∧ Tr.tiers limit (300 - t) U t = R ∧ Fr (fun q => q / 100 = 0) f o f1 o1 ∧ 9 * (12 - t) ≤ bc ∧ 8 * U.m (t - 1) + 60 * (12 - t) ≤ bs) (fun s => 300 - s.1.toNatClampNeg) ?_ _ ⟨1, f, o, T, mc, ms, rfl, hh, H, L, hm, hR, Fr.refl _ _ _, by omega, by rw [Nat.sub_self]; omega⟩
  rintro C s ⟨t, f1, o1, U, bc, bs, rfl, ht, H1, L1, hm1, hR1, F1, c1, c2⟩ hC
  have h10 := L1.h10 hm1
  have h1 := L1.h1
  have hmt := L1.m_le0 (t := t - 1) (by omega)
  have et : zI t - 1 = zI (t - 1) := zI_sub (show 1 ≤ t by omega)
  have ek : 300 - t = (299 - t) + 1 := by omega
  refine ⟨fun z => ?_, fun z => ⟨H1.is, ?_⟩⟩
  · rw [show (300 : Int32) = zI 300 from rfl, zI_le (by omega) (by omega)] at z; omega
  · rw [et]
    rw [ek] at hR1
    have hR1 : (if 1 < U.m (t - 1) then Tr.tiers limit (299 - t) (U.tier t (U.m (t - 1)) 2 limit) (t + 1) else U) = R := hR1
    refine s_X7_pageTotal H1 (by omega) ⟨fun y => ?_, fun y => ⟨H1.is, ?_⟩⟩
    · rw [show (1 : Int32) = zI 1 from rfl, zI_le (by omega) (by omega)] at y
      rw [if_neg (by omega)] at hR1
      subst hR1
      exact hK f1 o1 H1 F1
    · rw [show (1 : Int32) = zI 1 from rfl, zI_le (by omega) (by omega)] at y
      rw [if_pos (by omega)] at hR1
      refine s_X7_pageTotal H1 (by omega) ?_
      obtain ⟨LT, lt⟩ := Tr.tier_LM L1 limit (by rw [ht]; omega)
      rw [ht] at LT lt
      have hv := LT.halve (t := t - 1) (by show t - 1 + 1 < t + 1; omega)
      have e1 : (U.tier t (U.m (t - 1)) 2 limit).m (t - 1) = U.m (t - 1) := stt_ne U.m _ (by omega)
      have e0 : (U.tier t (U.m (t - 1)) 2 limit).m 0 = U.m 0 := stt_ne U.m _ (by omega)
      rw [e1, show t - 1 + 1 = t by omega] at hv
      have hld1 : isO f1 a 8 := by
        obtain ⟨vs, hv⟩ := hld
        obtain ⟨p1, -⟩ := F1.get hv (fun q e => by rw [hoa] at e; cases e; omega)
        exact ⟨_, p1⟩
      have H1' : TS zd f1 o1 0 ad U.cap t U.n U.ks U.n U.vs (U.m 0 - 1) U.S U.m U.E := by rw [← ht]; exact H1
      have hns := H1.n4
      have hvS : ∀ j, j + 1 < U.m (t - 1) → (U.S (sx U.E (t - 1) j)).length ≤ 12 := fun j hj => (L1.svk _ (L1.sx_in (by omega) hj)).1
      have psz : ∀ a b, U.psz t a b = 8 + 4 * (b - a) + cbi 3 (fun i => U.S (sx U.E (t - 1) i)) (b - 1 - a) a [] := fun a b => if_neg (by omega)
      refine ⟨9, 40 + 4 * U.m (t - 1), by omega, by omega, hld1, s_X5_stackTier H1' (F := U.psz t) (least := 2) (by omega) (by omega) (by omega) hlim (by omega) (fun x b hab hb => ?_) (fun f2 o2 c e H2 x b P hab hb hP => ?_) (Nat.le_refl _) (Nat.le_refl _) (fun f2 o2 c' e' hs H2 F2 => ?_)⟩
      · rw [psz]
        have := cbi_le (f := 3) (k := fun i => U.S (sx U.E (t - 1) i)) (b - 1 - x) x [] (fun j j1 j2 => hvS j (by omega))
        omega
      · have esx : ∀ j, sx (stt U.E t e) (t - 1) j = sx U.E (t - 1) j := fun j => sx_congr _ _ (fun u hu => stt_ne _ _ (by omega))
        refine s_span_inner H2 (t := t) (by omega) (by omega) (by omega) (by omega) (by omega) (fun j j1 j2 => ?_) ?_
        · exact chn_congr _ _ (fun u hu => ⟨(stt_ne _ _ (by omega)).symm, (stt_ne _ _ (by omega)).symm⟩) (L1.chn (t - 1) j (by omega) (by omega))
        · have ef : (fun j => U.S (sx (stt U.E t e) (t - 1) j)) = fun j => U.S (sx U.E (t - 1) j) := funext fun j => by rw [esx]
          rw [ef, ← psz]; exact hP
      · rintro v rfl
        rw [show zI t + 1 = zI (t + 1) from zI_add t 1]
        have eT : U.tier t (U.m (t - 1)) 2 limit = Tr.mk U.cap U.n U.ks U.vs (t + 1) (stt U.m t c') (stt U.E t e') U.S U.c0 U.c1 U.c2 := by
          unfold Tr.tier; rw [hs]
        have HT : TT zd f2 o2 0 ad (U.tier t (U.m (t - 1)) 2 limit) := by
          unfold TT
          rw [e0, eT]; exact H2
        refine hC _ ⟨t + 1, f2, o2, _, _, _, rfl, rfl, HT, LT, by omega, by rw [show 300 - (t + 1) = 299 - t by omega]; exact hR1, F1.trans F2, by omega, ?_⟩ ?_
        · rw [Nat.add_sub_cancel]; omega
        · show 300 - (zI (t + 1)).toNatClampNeg < 300 - (zI t).toNatClampNeg
          rw [zI_clamp (by omega), zI_clamp (by omega)]; omega
theorem Z2.s_X5_build (H : TT zd f o 0 ad T) (hc : 64 ≤ T.cap ∧ T.cap ≤ 200) {w limit : Nat} {wk : Nat → Key} {wv : Nat → Int32} (D : LD zd f o a w wk wv) (hw : w ≤ 300) (hv : ∀ i, i < w → VK (wk i)) (hs : ∀ i j, i < j → j < w → klt (wk i) (wk j)) (hlim : limit < 10000) (b1 : 1080 ≤ mc) (b2 : 13100 ≤ ms) {K : FT → Prop} (hK : ∀ f' o', TT zd f' o' 0 ad (T.load w wk wv limit) → Fr (fun q => q / 100 = 0) f o f' o' → K f') : wp_X5_build zd a (ad 6) (zI limit) f mc ms K := by
  have D0 := D
  obtain ⟨kr, ir, ck, ci, x1, x2, x3, x4⟩ := D
  obtain ⟨c0, R0⟩ := H.keysR
  have r0 := R0.c10
  refine gA_i H.1 rfl (gA_i x1 rfl ⟨60, 1810, by omega, by omega, R0.o, s_X4_copyFrom R0 x3 ⟨by omega, by omega⟩ hw (by omega) (fun _ => by omega) (fun f1 o1 c1 R1 F1 => ?_)⟩)
  have H1 := H.keysW R1 F1
  have D1 := D0.fr F1 (fun q hq => by omega)
  obtain ⟨kr1, ir1, ck1, ci1, y1, y2, y3, y4⟩ := D1
  obtain ⟨cv, V1⟩ := H1.valsR
  have v1 := V1.le
  refine gA_i H1.1 rfl (gA_i y1 rfl ⟨5, 1200, by omega, by omega, V1.is, s_X2_copyFrom V1 y4 (by omega) (by omega) (by have : 2 ^ 5 = 32 := rfl; omega) (fun _ => by omega) (fun f2 o2 c2 V2 _ F2 => ?_)⟩)
  have H2 := H1.valsW V2 F2
  obtain ⟨cs, S2⟩ := H2.sepsR
  refine gA_i H2.1 rfl ⟨S2.o, s_X4_empty S2 (fun f3 S3 F3 => ?_)⟩
  have H3 := H2.sepsW (S3 (fun i => sp (wk (T.E 0 i - 1)) (wk (T.E 0 i)))) F3
  refine pV_g H3.1 (by simp) (fun f4 e4 n4 => ?_)
  have F4 : Fr (fun q => q = 100 * 0 + 5) f3 o2 f4 o2 := Fr.one H3.1 e4 H3.2.1 n4
  have H4 := H3.numW (cap' := T.cap) (h' := 0) (Nat.zero_le _) e4 F4
  have F04 : Fr (fun q => q / 100 = 0) f o f4 o2 := (((F1.mono (fun q hq => by omega)).trans (F2.mono (fun q hq => by omega))).trans (F3.mono (fun q hq => by omega))).trans (F4.mono (fun q hq => by omega))
  have D4 := D0.fr F04 (fun q hq z => by omega)
  obtain ⟨kr4, ir4, ck4, ci4, z1, z2, z3, z4⟩ := id D4
  refine gA_i z1 rfl ⟨z3.o, s_X4_count z3 ⟨9, 1240, by omega, by omega, D4.is, ?_⟩⟩
  have psz : ∀ a b, (Tr.mk T.cap w wk wv T.h T.m T.E T.S T.c0 T.c1 T.c2).psz 0 a b = 8 + cbi 7 wk (b - a) a [] := fun a b => if_pos rfl
  refine s_X5_stackTier H4 (F := (Tr.mk T.cap w wk wv T.h T.m T.E T.S T.c0 T.c1 T.c2).psz 0) (least := 1) (by omega) (by omega) (by omega) hlim (by omega) (fun x b hab hb => ?_) (fun f5 o5 c e H5 x b P hab hb hP => ?_) (Nat.le_refl _) (by omega) (fun f5 o5 c' e' hst H5 F5 => ?_)
  · rw [psz]
    have := cbi_le (f := 7) (k := wk) (b - x) x [] (fun j j1 j2 => (hv j (by omega)).1)
    omega
  · rw [psz] at hP
    exact s_span_leaf H5 (by omega) hb hP
  · -- the leaves stand
    obtain ⟨LM, lm1, lm2⟩ := Tr.load_LM (T := T) hc (limit := limit) (wv := wv) hw hv hs
    have St := stk_spec ((Tr.mk T.cap w wk wv T.h T.m T.E T.S T.c0 T.c1 T.c2).psz 0) 1 limit (by omega) w 0 0 0 (T.E 0) (Nat.le_refl _) (fun h => by omega) (fun _ => rfl) (fun h => by omega) (fun x y _ h => by omega) (fun j h => by omega) c' e' hst
    obtain ⟨s1, s2, s3, s4, s5⟩ := St
    rw [Nat.zero_add] at s3 s4
    have eT : Tr.seps (Tr.tier (Tr.mk T.cap w wk wv T.h T.m T.E T.S T.c0 T.c1 T.c2) 0 w 1 limit) = Tr.mk T.cap w wk wv 1 (stt T.m 0 c') (stt T.E 0 e') (fun i => sp (wk (e' i - 1)) (wk (e' i))) T.c0 T.c1 T.c2 := by
      have e1 : Tr.tier (Tr.mk T.cap w wk wv T.h T.m T.E T.S T.c0 T.c1 T.c2) 0 w 1 limit = Tr.mk T.cap w wk wv 1 (stt T.m 0 c') (stt T.E 0 e') T.S T.c0 T.c1 T.c2 := by
        unfold Tr.tier
        have : stk ((Tr.mk T.cap w wk wv T.h T.m T.E T.S T.c0 T.c1 T.c2).psz 0) 1 limit w 0 0 0 ((Tr.mk T.cap w wk wv T.h T.m T.E T.S T.c0 T.c1 T.c2).E 0) = (c', e') := hst
        rw [this]; rfl
      rw [e1]
      unfold Tr.seps
      show Tr.mk T.cap w wk wv 1 (stt T.m 0 c') (stt T.E 0 e') (fun i => sp (wk (stt T.E 0 e' 0 i - 1)) (wk (stt T.E 0 e' 0 i))) T.c0 T.c1 T.c2 = _
      simp only [stt_same]
    have em0 : (Tr.seps (Tr.tier (Tr.mk T.cap w wk wv T.h T.m T.E T.S T.c0 T.c1 T.c2) 0 w 1 limit)).m 0 = c' := by rw [eT]; show stt T.m 0 c' 0 = c'; exact stt_same _ _ _
    rw [em0] at lm1 lm2
    have hge : ∀ j, j < c' → 0 < w → j + 1 ≤ e' j := by
      intro j
      induction j with
      | zero => intro h hw; exact s4 hw
      | succ j ih => intro h hw; have := s2 j (j + 1) (by omega) h; have := ih (by omega) hw; omega
    have hcw : 1 < c' → 0 < w := fun g => by have := s2 (c' - 2) (c' - 1) (by omega) (by omega); omega
    have hle : ∀ i, i + 1 < c' → 1 ≤ e' i ∧ e' i < w := fun i hi => by
      have := hge i (by omega) (hcw (by omega))
      have := s2 i (c' - 1) (by omega) (by omega)
      omega
    have hc300 : c' ≤ 300 := by
      rcases lm2 with g | g
      · omega
      · omega
    have m0 : stt T.m 0 c' 0 = c' := stt_same _ _ _
    obtain ⟨c5, S5⟩ := H5.sepsR
    have s5c := S5.c10
    refine loopW_of (fun s => ∃ k f6 o6 c6 bc bs, s = (zI k, f6, bc, bs) ∧ 1 ≤ k ∧ k ≤ c' ∧ TS zd f6 o6 0 ad T.cap 1 w wk w wv (k - 1) (fun i => sp (wk (e' i - 1)) (wk (e' i))) (stt T.m 0 c') (stt T.E 0 e') ∧ KR zd f6 o6 (100 * 0 + 2) (ad 2) (k - 1) (fun i => sp (wk (e' i - 1)) (wk (e' i))) c6 ∧ Fr (fun q => q / 100 = 0) f o f6 o6 ∧ 3 * (c' - k) + 99 ≤ bc ∧ 8 * c' + 660 + 13 * (c' - k) ≤ bs ∧ (c6 < c' → 8 * c' + 660 + 13 * (c' - k) + (6 * c' + 10) ≤ bs + 4 * c6)) (fun s => 400 - s.1.toNatClampNeg) ?_ _ ⟨1, f5, o5, c5, _, _, rfl, Nat.le_refl _, by omega, ?_, S5.congr (fun i hi => absurd hi (Nat.not_lt_zero i)), F04.trans F5, by omega, by omega, fun _ => by omega⟩
    · rintro C s ⟨k, f6, o6, c6, bc, bs, rfl, k1, k2, H6, S6, F6, g1, g2, g3⟩ hC
      have D6 := D0.fr F6 (fun q hq z => by omega)
      refine ⟨H6.is, s_X7_pageTotal H6 (t := 0) (by omega) ?_⟩
      rw [m0]
      refine ⟨fun z => ?_, fun z => gA_i H6.1 rfl ⟨H6.is, ?_⟩⟩
      · rw [zI_le (by omega) (by omega)] at z
        have ek : k = c' := by omega
        subst ek
        have HT : TT zd f6 o6 0 ad (Tr.seps (Tr.tier (Tr.mk T.cap w wk wv T.h T.m T.E T.S T.c0 T.c1 T.c2) 0 w 1 limit)) := by
          unfold TT
          rw [em0, eT]; exact H6
        obtain ⟨kr6, ir6, ck6, ci6, w1, w2, -, -⟩ := id D6
        exact s_X5_build84 (fun f7 o7 H7 F7 => hK f7 o7 H7 (F6.trans F7)) HT LM (by omega) hlim (by rw [eT]; rfl) rfl ⟨_, w1⟩ w2 (by omega) (by rw [em0]; omega)
      · rw [zI_le (by omega) (by omega)] at z
        refine s_X7_startOf H6 (t := 0) (by omega) (by rw [m0]; omega) ?_
        have est : st (stt T.E 0 e' 0) k = e' (k - 1) := by
          rw [stt_same]; unfold st; rw [if_neg (by omega)]
        rw [est]
        obtain ⟨q1, q2⟩ := hle (k - 1) (by omega)
        refine ⟨2, 13, by omega, by omega, H6.is, s_X7_shortest H6 q1 q2 (hs _ _ (by omega) q2) (Nat.le_refl _) (Nat.le_refl _) (fun kq f7 o7 K7 F7 => ?_)⟩
        have H7 := H6.fr F7 (fun _ _ z => z)
        have S7 := S6.fr F7 (fun z => z) (fun z => z)
        have s7 := S7.c10
        have hcost : (if k - 1 = c6 then ga c6 else 0) ≤ bs - 13 := by
          by_cases y : k - 1 = c6
          · rw [if_pos y]
            have := g3 (by omega)
            unfold ga; split <;> omega
          · rw [if_neg y]; omega
        refine ⟨1, (if k - 1 = c6 then ga c6 else 0), by omega, hcost, S7.o, s_X4_append S7 K7 (by omega) (fun _ => Nat.le_refl _) (fun y => by rw [if_pos y, y]; exact Nat.le_refl _) (fun f8 o8 S8 F8 => ?_)⟩
        rintro v rfl
        rw [show zI k + 1 = zI (k + 1) from zI_add k 1]
        have S8' := S8.congr (l' := fun i => sp (wk (e' i - 1)) (wk (e' i))) (fun i hi => by
          unfold stt
          by_cases y : i = k - 1
          · rw [if_pos y, y]
          · rw [if_neg y])
        have H8 := H7.sepsW S8' F8
        rw [show k - 1 + 1 = k by omega] at S8' H8
        refine hC _ ⟨k + 1, f8, o8, gc (k - 1) c6, _, _, rfl, by omega, by omega, H8, S8', (F6.trans (F7.mono (fun q z => z.elim))).trans (F8.mono (fun q hq => by omega)), by omega, ?_, ?_⟩ ?_
        · by_cases y : k - 1 = c6
          · rw [if_pos y]
            have := g3 (by omega)
            unfold ga; split <;> omega
          · rw [if_neg y]; omega
        · unfold gc
          by_cases y : k - 1 = c6
          · rw [if_pos y, if_pos y]
            have := g3 (by omega)
            unfold ga; split <;> omega
          · rw [if_neg y, if_neg y]
            intro h; have := g3 h; omega
        · show 400 - (zI (k + 1)).toNatClampNeg < 400 - (zI k).toNatClampNeg
          rw [zI_clamp (by omega), zI_clamp (by omega)]; omega
    · have S5' := S5.congr (l' := fun i => sp (wk (e' i - 1)) (wk (e' i))) (fun i hi => absurd hi (Nat.not_lt_zero i))
      exact H5.sepsW S5' (Fr.refl _ _ _)
/-- a tree is made the same as another -/
theorem Z2.s_X7_copyFrom {i j : Nat} {ad2 : Nat → Nat} {U : Tr} (hij : i ≠ j) (H : TT zd f o i ad T) (H2 : TT zd f o j ad2 U) (I : U.IM) (hm : U.m 0 ≤ 300) (hh : U.h ≤ 12) (hsum : sumTo U.m U.h ≤ 1300) (b1 : 300 ≤ mc) (b2 : 11000 ≤ ms) {K : FT → Prop} (hK : ∀ f' o', TT zd f' o' i ad U → Fr (fun q => q / 100 = i) f o f' o' → K f') : wp_X7_copyFrom zd (ad 6) (ad2 6) f mc ms K := by
  have hn := I.n3
  obtain ⟨c0, R0⟩ := H.keysR
  obtain ⟨d0, Q0⟩ := H2.keysR
  refine gA_i H.1 rfl (gA_i H2.1 rfl ⟨60, 1810, by omega, by omega, R0.o, s_X4_copyFrom R0 Q0 ⟨by omega, by omega⟩ hn (by omega) (fun _ => by omega) (fun f1 o1 c1 R1 F1 => ?_)⟩)
  have H1 := H.keysW R1 F1
  have G1 := H2.fr F1 (fun q hq => by omega)
  obtain ⟨cv, V1⟩ := H1.valsR
  obtain ⟨dv, W1⟩ := G1.valsR
  have v1 := V1.le
  refine gA_i H1.1 rfl (gA_i G1.1 rfl ⟨5, 1200, by omega, by omega, V1.is, s_X2_copyFrom V1 W1 (by omega) (by omega) (by have : 2 ^ 5 = 32 := rfl; omega) (fun _ => by omega) (fun f2 o2 c2 V2 _ F2 => ?_)⟩)
  have H2' := H1.valsW V2 F2
  have G2 := G1.fr F2 (fun q hq => by omega)
  obtain ⟨cs, S2⟩ := H2'.sepsR
  obtain ⟨ds, P2⟩ := G2.sepsR
  refine gA_i H2'.1 rfl (gA_i G2.1 rfl ⟨60, 1810, by omega, by omega, S2.o, s_X4_copyFrom S2 P2 ⟨by omega, by omega⟩ (by omega) (by omega) (fun _ => by omega) (fun f3 o3 c3 S3 F3 => ?_)⟩)
  have H3 := H2'.sepsW S3 F3
  have G3 := G2.fr F3 (fun q hq => by omega)
  refine gI_i G3.1 rfl (pV_g H3.1 (by simp) (fun f4 e4 n4 => pV_g e4 (by simp) (fun f5 e5 n5 => ?_)))
  have F4 : Fr (fun q => q = 100 * i + 5) f3 o3 f4 o3 := Fr.one H3.1 e4 H3.2.1 n4
  have H4 := H3.numW (cap' := U.cap) (h' := T.h) (Nat.le_refl _) e4 F4
  have F5 : Fr (fun q => q = 100 * i + 5) f4 o3 f5 o3 := Fr.one e4 e5 H3.2.1 n5
  have H5 := H4.numW (cap' := U.cap) (h' := 0) (Nat.zero_le _) e5 F5
  have G5 := (G3.fr F4 (fun q hq => by omega)).fr F5 (fun q hq => by omega)
  have F05 : Fr (fun q => q / 100 = i) f o f5 o3 := ((((F1.mono (fun q hq => by omega)).trans (F2.mono (fun q hq => by omega))).trans (F3.mono (fun q hq => by omega))).trans (F4.mono (fun q hq => by omega))).trans (F5.mono (fun q hq => by omega))
  have H5' : TS zd f5 o3 i ad U.cap 0 U.n U.ks U.n U.vs (U.m 0 - 1) U.S U.m U.E := H5.congr (fun t ht => absurd ht (Nat.not_lt_zero t)) (fun t ht => absurd ht (Nat.not_lt_zero t))
  refine loopW_of (fun s => ∃ t f6 o6 bc bs, s = (zI t, f6, bc, bs) ∧ t ≤ U.h ∧ TS zd f6 o6 i ad U.cap t U.n U.ks U.n U.vs (U.m 0 - 1) U.S U.m U.E ∧ TT zd f6 o6 j ad2 U ∧ Fr (fun q => q / 100 = i) f o f6 o6 ∧ 8 * (12 - t) ≤ bc ∧ 36 * (12 - t) + 4 * (1300 - sumTo U.m t) ≤ bs) (fun s => 20 - s.1.toNatClampNeg) ?_ _ ⟨0, f5, o3, _, _, rfl, Nat.zero_le _, H5', G5, F05, by omega, by show 36 * (12 - 0) + 4 * (1300 - 0) ≤ _; omega⟩
  rintro C s ⟨t, f6, o6, bc, bs, rfl, ht, H6, G6, F6, g1, g2⟩ hC
  refine gI_i G6.1 rfl ⟨fun z => ?_, fun z => ?_⟩
  · rw [zI_le (by omega) (by omega)] at z
    have : t = U.h := by omega
    rw [this] at H6
    exact hK f6 o6 H6 F6
  · rw [zI_le (by omega) (by omega)] at z
    have hst : sumTo U.m (t + 1) = sumTo U.m t + U.m t := rfl
    have hst2 : sumTo U.m (t + 1) ≤ sumTo U.m U.h := sumTo_mono (by omega)
    refine ⟨3, 36, by omega, by omega, H6.is, s_X7_addTier H6 (by omega) (Nat.le_refl _) (Nat.le_refl _) (fun r f7 o7 H7 ra7 F7 => ?_)⟩
    have G7 := G6.fr F7 (fun q hq z => by omega)
    obtain ⟨r2, cr2, I2, -, rd2⟩ := G7.tier (t := t) (by omega)
    obtain ⟨cr, I7, lens⟩ := H7.row ra7 (by omega)
    have i7 := I7.le
    have mt := I.m_le0 (t := t) (by omega)
    refine ⟨G7.is, rd2 _ ⟨5, 4 * U.m t, by omega, by omega, I7.is, s_X2_copyFrom I7 I2 (by omega) (by omega) (by have : 2 ^ 5 = 32 := rfl; omega) (fun _ => by omega) (fun f8 o8 c8 I8 _ F8 => ?_)⟩⟩
    rintro v rfl
    rw [show zI t + 1 = zI (t + 1) from zI_add t 1]
    have H8 := lens f8 o8 (U.m t) (U.E t) c8 I8 F8
    have H8' : TS zd f8 o8 i ad U.cap (t + 1) U.n U.ks U.n U.vs (U.m 0 - 1) U.S U.m U.E := H8.congr (fun u hu => by
      unfold stt
      by_cases y : u = t
      · rw [if_pos y, y]
      · rw [if_neg y, if_neg y]) (fun u hu p hp => by rw [stt_self])
    refine hC _ ⟨t + 1, f8, o8, _, _, rfl, by omega, H8', G7.fr F8 (fun q hq z => by omega), (F6.trans F7).trans (F8.mono (fun q hq => by omega)), by omega, by omega⟩ ?_
    show 20 - (zI (t + 1)).toNatClampNeg < 20 - (zI t).toNatClampNeg
    rw [zI_clamp (by omega), zI_clamp (by omega)]; omega
end
/-- by weights: a level has few pages the higher it is -/
theorem Z2.Tr.Pot.m {T : Tr} {B : Nat} (I : T.IM) (h : T.Pot B) : ∀ t, t < T.h → T.m t * 2 ^ t ≤ B := by
  obtain ⟨Q, w, hb⟩ := h
  have h1 := I.h1
  have up : ∀ j, j + 1 ≤ T.h → Q (T.h - 1 - j) (T.m (T.h - 1 - j)) ≤ B + Q (T.h - 1 - j) 0 := by
    intro j
    induction j with
    | zero => intro _; rw [Nat.sub_zero, I.top]; exact hb
    | succ j ih =>
      intro hj
      have a := ih (by omega)
      obtain ⟨t, ht⟩ : ∃ t, T.h - 1 - j = t + 1 := ⟨T.h - 1 - j - 1, by omega⟩
      rw [ht] at a
      rw [show T.h - 1 - (j + 1) = t by omega]
      have htl : t + 1 < T.h := by omega
      have sum : ∀ q, q ≤ T.m (t + 1) → Q t (st (T.E (t + 1)) q) + Q (t + 1) 0 ≤ Q t 0 + Q (t + 1) q := by
        intro q
        induction q with
        | zero => intro _; exact Nat.le_refl _
        | succ q ih2 =>
          intro hq
          have b := ih2 (by omega)
          have c := w.sum t htl q (by omega)
          rw [st_succ]; omega
      have s := sum (T.m (t + 1)) (Nat.le_refl _)
      have hm1 := I.m1 (t + 1) htl
      have hl := I.lastT t htl
      have est : st (T.E (t + 1)) (T.m (t + 1)) = T.m t := by unfold st; rw [if_neg (by omega)]; exact hl
      rw [est] at s; omega
  intro t ht
  have a := up (T.h - 1 - t) (by omega)
  rw [show T.h - 1 - (T.h - 1 - t) = t by omega] at a
  have b := w.le ht (a := 0) (T.m t) (Nat.zero_le _) (Nat.le_refl _)
  rw [Nat.sub_zero] at b
  rw [Nat.mul_comm]; omega
theorem Z2.Tr.Pot.sum {T : Tr} {B : Nat} (I : T.IM) (h : T.Pot B) (hB : B ≤ 1030) (hm : T.m 0 ≤ 300) (hh : T.h ≤ 12) : sumTo T.m T.h ≤ 1300 := by
  have hmt : ∀ t, t < T.h → T.m t ≤ (fun t => min 300 (1030 / 2 ^ t)) t := fun t ht => by
    have a := h.m I t ht
    have b := I.m_le0 ht
    refine Nat.le_min.mpr ⟨by omega, ?_⟩
    rw [Nat.le_div_iff_mul_le (Nat.two_pow_pos t)]; omega
  have go : ∀ k, k ≤ T.h → sumTo T.m k ≤ sumTo (fun t => min 300 (1030 / 2 ^ t)) k := by
    intro k
    induction k with
    | zero => intro _; exact Nat.le_refl _
    | succ k ih => intro hk; exact Nat.add_le_add (ih (by omega)) (hmt k (by omega))
  have a := go T.h (Nat.le_refl _)
  have b : sumTo (fun t => min 300 (1030 / 2 ^ t)) T.h ≤ sumTo (fun t => min 300 (1030 / 2 ^ t)) 12 := sumTo_mono hh
  have c : sumTo (fun t => min 300 (1030 / 2 ^ t)) 12 ≤ 1300 := by decide
  omega

