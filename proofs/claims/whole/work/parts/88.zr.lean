/-! the reference: parts, grows -/
theorem Z2.Tr.split_Et (T : Tr) {t p : Nat} (ht : t < T.h) : (T.split t p).E t = ins (T.E t) p (T.cutS t p) := by
  show stt (stt (T.rise t).E t (ins ((T.rise t).E t) p (T.cutS t p))) (t + 1) _ t = _
  rw [stt_ne _ _ (by omega), stt_same, T.rise_E ht]
theorem Z2.Tr.split_Eu (T : Tr) (t p : Nat) : (T.split t p).E (t + 1) = addF ((T.rise t).E (t + 1)) ((T.rise t).par t p) := stt_same _ _ _
theorem Z2.Tr.split_Ene (T : Tr) {t p u : Nat} (hu : u < T.h) (h1 : u ≠ t) (h2 : u ≠ t + 1) : (T.split t p).E u = T.E u := by
  show stt (stt (T.rise t).E t (ins ((T.rise t).E t) p (T.cutS t p))) (t + 1) _ u = _
  rw [stt_ne _ _ h2, stt_ne _ _ h1, T.rise_E hu]
theorem Z2.Tr.split_S (T : Tr) (t p : Nat) : (T.split t p).S = if t = 0 then ins T.S p (sp (T.ks (T.cutS t p - 1)) (T.ks (T.cutS t p))) else T.S := by
  show (if t = 0 then ins (T.rise t).S p (sp ((T.rise t).ks (T.cutS t p - 1)) ((T.rise t).ks (T.cutS t p))) else (T.rise t).S) = _
  rw [T.rise_S, T.rise_ks]
theorem Z2.Tr.split_c (T : Tr) (t p : Nat) : (T.split t p).c0 = T.c0 + 1 ∧ (T.split t p).c1 = T.c1 ∧ (T.split t p).c2 = T.c2 := by
  show (T.rise t).c0 + 1 = T.c0 + 1 ∧ (T.rise t).c1 = T.c1 ∧ (T.rise t).c2 = T.c2
  unfold Tr.rise
  split <;> exact ⟨rfl, rfl, rfl⟩
section
variable {n : Nat → Int32} {g : Nat → Nat → Int32} {T : Z2.Tr}
theorem Z2.s9_parts (M : MT n g T) (B : BT T) (Q : CT n T) {t p : Nat} (ht : t < T.h) (hh : t + 1 = T.h → T.h ≤ 11) (hp : p < T.m t) (hf : st (T.E t) p + 2 ≤ T.E t p) (hm : T.m t + 1 ≤ 400) {K : (Nat → Int32) → (Nat → Nat → Int32) → Prop} (hK : ∀ n' g', MT n' g' (T.split t p) → CT n' (T.split t p) → Kp n n' g g' → K n' g') : wp_X9_parts (zI t) (zI p) n g K := by
  have h12 := B.h12
  have hs := B.im.h1
  obtain ⟨g1, g2, g3⟩ := TT.ends B.im ht hp
  have e4 := B.E ht hp
  obtain ⟨c1, c2⟩ := Tr.IM.cutS_in hf
  have like := T.like_split t p
  have eh : n 13 = zI T.h := M.ch
  have ecn := T.split_c t p
  refine s9_half M B ht hp hf ?_
  show vp_in ((400 : Int32) * zI t + zI p) (mlen 15) ∧ _
  rw [at_eq]
  refine rd (show 400 * t + p < 4800 by omega) (by decide) ?_
  rw [show g 15 (400 * t + p) = zI (T.E t p - st (T.E t) p) from M.pt t ht p hp]
  rintro v rfl
  rw [zI_sub (show T.cutS t p - st (T.E t) p ≤ T.E t p - st (T.E t) p by omega), show T.E t p - st (T.E t) p - (T.cutS t p - st (T.E t) p) = T.E t p - T.cutS t p by omega, eh, show zI T.h - 1 = zI (T.h - 1) from zI_sub hs]
  have nn : ∀ k, k ≠ 6 → upd n 6 (n 6 + 1) k = n k := fun k hk => upd_ne _ _ hk
  have n6 : upd n 6 (n 6 + 1) 6 = zI (T.c0 + 1) := by rw [upd_same, Q.1]; exact zI_add _ 1
  refine ⟨fun z => ?_, fun z => ?_⟩
  · rw [zI_le (by omega) (by omega)] at z
    have hr : t + 1 = T.h := by omega
    have hp0 : p = 0 := by
      have := B.im.top
      rw [show T.h - 1 = t by omega] at this; omega
    have er : T.rise t = Tr.mk T.cap T.n T.ks T.vs (T.h + 1) (stt T.m (t + 1) 1) (stt T.E (t + 1) (fun _ => 1)) T.S T.c0 T.c1 T.c2 := if_pos hr
    have epar : (T.rise t).par t p = 0 := by
      rw [er]
      show ff (fun q => decide (stt T.E (t + 1) (fun _ => 1) (t + 1) q ≤ p)) (stt T.m (t + 1) 1 (t + 1)) = 0
      rw [stt_same, stt_same]
      exact ff_eq (by omega) (fun i hi => absurd hi (Nat.not_lt_zero i)) (fun _ => decide_eq_false (by omega))
    have eEu : (T.split t p).E (t + 1) = fun _ => 2 := by
      rw [T.split_Eu, epar, er]
      show addF (stt T.E (t + 1) (fun _ => 1) (t + 1)) 0 = _
      rw [stt_same]
      funext k
      unfold addF; rw [if_pos (Nat.zero_le k)]
    have emu : (T.split t p).m (t + 1) = 1 := by
      show stt (T.rise t).m t ((T.rise t).m t + 1) (t + 1) = 1
      rw [stt_ne _ _ (by omega), er]
      exact stt_same _ _ _
    have eh2 : (T.split t p).h = T.h + 1 := by rw [T.split_h, if_pos hr]
    refine s9_parts43 M B ht hp c1 c2 hm (fun g5 P => s9_parts83r (h := T.h) (by have := hh hr; omega) (by rw [nn 13 (by decide)]; exact eh) (fun g6 k1 k2 k3 => ?_))
    obtain ⟨q1, q2, q3, q4, q5⟩ := P
    refine hK _ g6 (MT.mk2 ?_ ?_ ?_ (fun i hi => ?_) (fun i hi => ?_) (fun i hi => ?_) (fun u hu => ?_) (fun u hu q hq => ?_) ?_) ⟨?_, ?_, ?_⟩ ⟨fun k a b c d => ?_, fun k a b c d => ?_⟩
    · rw [upd_ne _ _ (by decide), nn 5 (by decide), like.cap]; exact M.cap
    · rw [upd_ne _ _ (by decide), nn 9 (by decide), like.n]; exact M.cn
    · rw [upd_same, eh2]
    · rw [like.n] at hi
      rw [k1 10 (by decide) (by decide), q4 10 (by decide) (by decide) (by decide) (by decide), like.ks]; exact M.sz i hi
    · rw [like.n] at hi
      intro j hj
      rw [like.ks] at hj ⊢
      rw [k1 11 (by decide) (by decide), q4 11 (by decide) (by decide) (by decide) (by decide)]; exact M.kb i hi j hj
    · rw [like.n] at hi
      rw [k1 12 (by decide) (by decide), q4 12 (by decide) (by decide) (by decide) (by decide), like.vs]; exact M.vs i hi
    · rw [k2]
      by_cases y : u = T.h
      · subst y; rw [upd_same, ← hr, emu]; rfl
      · rw [upd_ne _ _ y, q1]
        by_cases x : u = t
        · subst x; rw [upd_same, T.split_m ht]
        · rw [upd_ne _ _ x, T.split_mne (by omega) x]; exact M.m u (by omega)
    · rw [k3]
      by_cases y : u = T.h
      · subst y
        rw [← hr, emu] at hq
        have : q = 0 := by omega
        subst this
        rw [Nat.add_zero, upd_same, ← hr, eEu]; rfl
      · by_cases x : u = t
        · subst x
          rw [T.split_m ht] at hq
          rw [upd_ne _ _ (by omega), q2 q (by omega), T.split_Et ht]
        · rw [T.split_mne (by omega) x] at hq
          have := B.m (t := u) (by omega)
          rw [upd_ne _ _ (by omega), q3 _ (by omega), T.split_Ene (by omega) x (by omega)]
          exact M.pt u (by omega) q hq
    · rw [T.split_S]
      have e : (T.split t p).m 0 = if t = 0 then T.m 0 + 1 else T.m 0 := by
        by_cases x : t = 0
        · subst x; rw [if_pos rfl, T.split_m ht]
        · rw [if_neg x, T.split_mne (by omega) (by omega)]
      rw [e]
      exact q5.same (k1 16 (by decide) (by decide)) (k1 17 (by decide) (by decide))
    · rw [upd_ne _ _ (by decide), n6, ecn.1]
    · rw [upd_ne _ _ (by decide), nn 7 (by decide), ecn.2.1]; exact Q.2.1
    · rw [upd_ne _ _ (by decide), nn 8 (by decide), ecn.2.2]; exact Q.2.2
    · rw [upd_ne _ _ d, nn k a]
    · rw [k1 k a b, q4 k a b c d]
  · rw [zI_le (by omega) (by omega)] at z
    have er : T.rise t = T := if_neg (by omega)
    have eh2 : (T.split t p).h = T.h := by rw [T.split_h, if_neg (by omega)]
    obtain ⟨r1, r2, r3⟩ := B.im.pr (t := t) (by omega) hp
    have hm1 := B.m (t := t + 1) (by omega)
    have eEu : (T.split t p).E (t + 1) = addF (T.E (t + 1)) (T.par t p) := by rw [T.split_Eu, er]
    rw [show zI t + 1 = zI (t + 1) from zI_add t 1]
    refine s9_pageOf M B (t := t + 1) (by omega) (by rw [if_neg (by omega), Nat.add_sub_cancel]; exact hp) ?_
    have e15a : g 15 (400 * (t + 1) + T.par t p) = zI (T.E (t + 1) (T.par t p) - st (T.E (t + 1)) (T.par t p)) := M.pt (t + 1) (by omega) _ r1
    refine s9_parts43 M B ht hp c1 c2 hm (fun g5 P => ?_)
    obtain ⟨q1, q2, q3, q4, q5⟩ := P
    show wp_X9_parts_83 (zI t) (zI (T.par t p)) _ g5 K
    refine s9_parts83 (by omega) (by omega) ⟨_, by rw [q3 _ (by omega)]; exact e15a⟩ (fun g6 k1 k2 => ?_)
    rw [q3 _ (by omega), e15a] at k2
    refine hK _ g6 (MT.mk2 ?_ ?_ ?_ (fun i hi => ?_) (fun i hi => ?_) (fun i hi => ?_) (fun u hu => ?_) (fun u hu q hq => ?_) ?_) ⟨?_, ?_, ?_⟩ ⟨fun k a b c d => ?_, fun k a b c d => ?_⟩
    · rw [nn 5 (by decide), like.cap]; exact M.cap
    · rw [nn 9 (by decide), like.n]; exact M.cn
    · rw [nn 13 (by decide), eh2]; exact eh
    · rw [like.n] at hi
      rw [k1 10 (by decide), q4 10 (by decide) (by decide) (by decide) (by decide), like.ks]; exact M.sz i hi
    · rw [like.n] at hi
      intro j hj
      rw [like.ks] at hj ⊢
      rw [k1 11 (by decide), q4 11 (by decide) (by decide) (by decide) (by decide)]; exact M.kb i hi j hj
    · rw [like.n] at hi
      rw [k1 12 (by decide), q4 12 (by decide) (by decide) (by decide) (by decide), like.vs]; exact M.vs i hi
    · rw [eh2] at hu
      rw [k1 14 (by decide), q1]
      by_cases x : u = t
      · subst x; rw [upd_same, T.split_m ht]
      · rw [upd_ne _ _ x, T.split_mne hu x]; exact M.m u hu
    · rw [eh2] at hu
      rw [k2]
      by_cases x : u = t
      · subst x
        rw [T.split_m ht] at hq
        rw [upd_ne _ _ (by omega), q2 q (by omega), T.split_Et ht]
      · rw [T.split_mne hu x] at hq
        have hmu := B.m (t := u) hu
        by_cases y : u = t + 1
        · subst y
          rw [eEu, st_addF]
          have hle := (TT.ends B.im hu hq).1
          have e15q : g 15 (400 * (t + 1) + q) = zI (T.E (t + 1) q - st (T.E (t + 1)) q) := M.pt (t + 1) hu q hq
          unfold addF
          rcases Nat.lt_trichotomy q (T.par t p) with w | w | w
          · rw [upd_ne _ _ (by omega), q3 _ (by omega), if_neg (by omega), if_neg (by omega)]; exact e15q
          · rw [w, upd_same, if_pos (Nat.le_refl _), if_neg (Nat.lt_irrefl _)]
            rw [show zI (T.E (t + 1) (T.par t p) - st (T.E (t + 1)) (T.par t p)) + 1 = zI (T.E (t + 1) (T.par t p) - st (T.E (t + 1)) (T.par t p) + 1) from zI_add _ 1]
            congr 1; omega
          · rw [upd_ne _ _ (by omega), q3 _ (by omega), if_pos (by omega), if_pos w, e15q]
            congr 1; omega
        · rw [upd_ne _ _ (by omega), q3 _ (by omega), T.split_Ene hu x y]
          exact M.pt u hu q hq
    · rw [T.split_S]
      have e : (T.split t p).m 0 = if t = 0 then T.m 0 + 1 else T.m 0 := by
        by_cases x : t = 0
        · subst x; rw [if_pos rfl, T.split_m ht]
        · rw [if_neg x, T.split_mne (by omega) (by omega)]
      rw [e]
      exact q5.same (k1 16 (by decide)) (k1 17 (by decide))
    · rw [n6, ecn.1]
    · rw [nn 7 (by decide), ecn.2.1]; exact Q.2.1
    · rw [nn 8 (by decide), ecn.2.2]; exact Q.2.2
    · exact nn k a
    · rw [k1 k b, q4 k a b c d]
theorem Z2.s9_up (tiers : Nat) {R : Tr} {K : (Nat → Int32) → (Nat → Nat → Int32) → Prop} {n0 : Nat → Int32} {g0 : Nat → Nat → Int32} (hK : ∀ n' g', MT n' g' R → CT n' R → Kp n0 n' g0 g' → K n' g') {p : Nat} (M : MT n g T) (B : BT T) (Q : CT n T) (P : Kp n0 n g0 g) (hm : T.m 0 ≤ 301) (h2 : 1 < tiers) (hh : T.h = tiers) (h11 : tiers ≤ 11) (hp : p < T.m 0) (hR : Tr.up (tiers - 1) T 1 p = R) : wp_X9_grows_66 0 (zI (T.par 0 p)) n g K := by
  refine loopW_of (fun s => ∃ z q t n1 g1 T1, s = (z, zI q, zI t, n1, g1) ∧ MT n1 g1 T1 ∧ CT n1 T1 ∧ Kp n0 n1 g0 g1 ∧ 1 ≤ t ∧ t ≤ tiers ∧ ((z = 1 ∧ T1 = R) ∨ (z = 0 ∧ BT T1 ∧ T1.m 0 ≤ 301 ∧ T1.h = tiers ∧ ∃ p, p < T1.m (t - 1) ∧ q = T1.par (t - 1) p ∧ Tr.up (tiers - t) T1 t p = R))) (fun s => 2 * (13 - s.2.2.1.toNatClampNeg) - s.1.toNatClampNeg) ?_ _ ⟨0, T.par 0 p, 1, n, g, T, rfl, M, Q, P, Nat.le_refl _, by omega, Or.inr ⟨rfl, B, hm, hh, p, hp, rfl, hR⟩⟩
  rintro C s ⟨z, q, t, n1, g1, T1, rfl, M1, Q1, P1, t1, t2, hz⟩ hC
  rcases hz with ⟨rfl, rfl⟩ | ⟨rfl, B1, hm1, hh1, p, hp1, rfl, hR1⟩
  · exact ⟨fun _ => hK n1 g1 M1 Q1 P1, fun x => absurd x (by decide)⟩
  · have hcap := B1.im.cap
    have eh : n1 13 = zI T1.h := M1.ch
    have ec : n1 5 = zI T1.cap := M1.cap
    refine ⟨fun x => absurd rfl x, fun _ => ⟨fun x => ?_, fun x => ?_⟩⟩
    · rw [eh, zI_le (by omega) (by omega)] at x
      have : tiers - t = 0 := by omega
      rw [this] at hR1
      have hR1 : T1 = R := hR1
      subst hR1
      exact hK n1 g1 M1 Q1 P1
    · rw [eh, zI_le (by omega) (by omega)] at x
      have q1 := B1.im.pr (t := t - 1) (by omega) hp1
      rw [show t - 1 + 1 = t by omega] at q1
      obtain ⟨e1, e2, e3⟩ := TT.ends B1.im (t := t) (by omega) q1.1
      have hps : T1.pgs t (T1.par (t - 1) p) ≤ 8000 := B1.im.psz_le B1.m4 (a := st (T1.E t) (T1.par (t - 1) p)) (t := t) (by omega) e2
      have hu : tiers - t = (tiers - (t + 1)) + 1 := by omega
      refine s9_sizeOfPage M1 B1 (t := t) (by omega) q1.1 ⟨fun y => ?_, fun y => ?_⟩
      · rw [ec, zI_lt (by omega) (by omega)] at y
        have hf := B1.im.full (t := t) (by omega) q1.1 y
        have hmt := B1.im.m_le0 (t := t) (by omega)
        have hu2 : Tr.up (tiers - (t + 1)) (T1.split t (T1.par (t - 1) p)) (t + 1) (T1.par (t - 1) p) = R := by
          rw [← hR1, hu]
          show _ = (if T1.pgs t (T1.par (t - 1) p) ≤ T1.cap then T1 else Tr.up (tiers - (t + 1)) (T1.split t (T1.par (t - 1) p)) (t + 1) (T1.par (t - 1) p))
          rw [if_neg (by omega)]
        have hsh := T1.split_h t (T1.par (t - 1) p)
        rw [eh, show zI T1.h - 1 = zI (T1.h - 1) from zI_sub B1.im.h1]
        refine ⟨fun w => ?_, fun w => ?_⟩
        · rw [zI_inj (by omega) (by omega)] at w
          refine s9_parts M1 B1 Q1 (t := t) (by omega) (fun _ => by omega) q1.1 (by omega) (by omega) (fun n2 g2 M2 Q2 P2 => ⟨fun _ => ?_, fun v => absurd rfl v⟩)
          rw [show zI t + 1 = zI (t + 1) from zI_add t 1]
          rw [if_neg (by omega)] at hsh
          have I2 := B1.im.split (t := t) (by omega) q1.1 (by omega)
          have em : (T1.split t (T1.par (t - 1) p)).m 0 = T1.m 0 := T1.split_mne (by omega) (by omega)
          have B2 : BT (T1.split t (T1.par (t - 1) p)) := BT.mk I2 (by omega) (by omega)
          have hq2 : T1.par (t - 1) p < (T1.split t (T1.par (t - 1) p)).m t := by rw [T1.split_m (by omega)]; have := q1.1; omega
          refine s9_pageOf M2 B2 (t := t + 1) (by omega) (by rw [if_neg (by omega), Nat.add_sub_cancel]; exact hq2) ?_
          rintro v rfl
          rw [show zI t + 1 = zI (t + 1) from zI_add t 1]
          refine hC _ ⟨0, _, t + 1, n2, g2, _, rfl, M2, Q2, P1.trans P2, by omega, by omega, Or.inr ⟨rfl, B2, by omega, by omega, _, by rw [Nat.add_sub_cancel]; exact hq2, by rw [Nat.add_sub_cancel]; rfl, hu2⟩⟩ ?_
          show 2 * (13 - (zI (t + 1)).toNatClampNeg) - (0 : Int32).toNatClampNeg < 2 * (13 - (zI t).toNatClampNeg) - (0 : Int32).toNatClampNeg
          rw [zI_clamp (by omega), zI_clamp (by omega)]
          have : (0 : Int32).toNatClampNeg = 0 := rfl
          omega
        · rw [zI_inj (by omega) (by omega)] at w
          refine s9_parts M1 B1 Q1 (t := t) (by omega) (fun _ => by omega) q1.1 (by omega) (by omega) (fun n2 g2 M2 Q2 P2 => ⟨fun v => absurd v (by decide), fun _ => ?_⟩)
          rintro v rfl
          rw [show zI t + 1 = zI (t + 1) from zI_add t 1]
          have hu3 : T1.split t (T1.par (t - 1) p) = R := by
            rw [← hu2, show tiers - (t + 1) = 0 by omega]; rfl
          refine hC _ ⟨1, 0, t + 1, n2, g2, _, rfl, M2, Q2, P1.trans P2, by omega, by omega, Or.inl ⟨rfl, hu3⟩⟩ ?_
          show 2 * (13 - (zI (t + 1)).toNatClampNeg) - (1 : Int32).toNatClampNeg < 2 * (13 - (zI t).toNatClampNeg) - (0 : Int32).toNatClampNeg
          rw [zI_clamp (by omega), zI_clamp (by omega)]
          have : (0 : Int32).toNatClampNeg = 0 := rfl
          omega
      · rw [ec, zI_lt (by omega) (by omega)] at y
        have : T1 = R := by
          rw [← hR1, hu]
          show _ = (if T1.pgs t (T1.par (t - 1) p) ≤ T1.cap then T1 else Tr.up (tiers - (t + 1)) (T1.split t (T1.par (t - 1) p)) (t + 1) (T1.par (t - 1) p))
          rw [if_pos (by omega)]
        subst this
        exact hK n1 g1 M1 Q1 P1
theorem Z2.s9_grows (M : MT n g T) (B : BT T) (Q : CT n T) (hm : T.m 0 ≤ 300) (h11 : T.h ≤ 11) {p : Nat} (hp : p < T.m 0) {K : (Nat → Int32) → (Nat → Nat → Int32) → Prop} (hK : ∀ n' g', MT n' g' (T.grow p) → CT n' (T.grow p) → Kp n n' g g' → K n' g') : wp_X9_grows (zI p) n g K := by
  have hs := B.im.h1
  have hcap := B.im.cap
  have eh : n 13 = zI T.h := M.ch
  have ec : n 5 = zI T.cap := M.cap
  obtain ⟨e1, e2, e3⟩ := TT.ends B.im (t := 0) (by omega) hp
  have hps : T.pgs 0 p ≤ 8000 := B.im.psz_le B.m4 (a := st (T.E 0) p) (t := 0) (by omega) e2
  refine s9_sizeOfPage M B (t := 0) (by omega) hp ⟨fun z => ?_, fun z => ?_⟩
  · rw [ec, zI_lt (by omega) (by omega)] at z
    have hf := B.im.full (t := 0) (by omega) hp z
    have eG : T.grow p = Tr.up (T.h - 1) (T.eases p) 1 p := by unfold Tr.grow; rw [if_neg (by omega)]
    have ⟨es1, es2, es3, es4, es5, es6, es7⟩ := Tr.eases_spec B.im hp z
    rw [eG] at hK
    have go1 : T.h ≠ 1 → ∀ n2 g2, MT n2 g2 (T.eases p) → CT n2 (T.eases p) → Kp n n2 g g2 → wp_X9_grows_52 (zI p) 0 n2 g2 K := fun h1 n2 g2 M2 Q2 P2 => by
      have eh2 := es7 (by omega)
      have B2 : BT (T.eases p) := BT.mk es1 (by omega) (by omega)
      refine ⟨fun _ => s9_pageOf M2 B2 (t := 1) (by omega) (by rw [if_neg (by omega)]; show p < (T.eases p).m 0; omega) ?_, fun x => absurd rfl x⟩
      exact s9_up T.h (fun n' g' a b c => hK n' g' a b c) M2 B2 Q2 P2 (by omega) (by omega) eh2 h11 (by omega) rfl
    have go2 : T.h = 1 → ∀ n2 g2, MT n2 g2 (T.eases p) → CT n2 (T.eases p) → Kp n n2 g g2 → wp_X9_grows_52 (zI p) 1 n2 g2 K := fun h1 n2 g2 M2 Q2 P2 => by
      refine ⟨fun x => absurd x (by decide), fun _ => ?_⟩
      refine loopW_of (fun s => s = (1, 0, 1, n2, g2)) (fun _ => 0) ?_ _ rfl
      rintro C s rfl hC
      rw [h1] at hK
      exact ⟨fun _ => hK n2 g2 M2 Q2 P2, fun x => absurd x (by decide)⟩
    have go : ∀ z0 : Int32, (∀ n2 g2, MT n2 g2 (T.eases p) → CT n2 (T.eases p) → Kp n n2 g g2 → wp_X9_grows_52 (zI p) z0 n2 g2 K) → wp_X9_grows_27 (zI p) z0 n g K := fun z0 hgo => by
      refine s9_givesL M B Q hp (by omega) (fun x0 => ⟨fun y => absurd rfl y, fun _ => ?_⟩) (fun n2 g2 T2 x2 M2 Q2 P2 => ⟨fun _ => ?_, fun y => absurd y (by decide)⟩)
      · refine s9_givesR M B Q hp (by omega) (fun x3 => ⟨fun y => absurd rfl y, fun _ => ?_⟩) (fun n2 g2 T2 x2 M2 Q2 P2 => ⟨fun _ => ?_, fun y => absurd y (by decide)⟩)
        · have ee : T.eases p = T.split 0 p := by unfold Tr.eases; rw [x0, x3]
          rw [ee] at hgo
          exact s9_parts M B Q (t := 0) (by omega) (fun _ => h11) hp (by omega) (by omega) hgo
        · have ee : T.eases p = T2 := by unfold Tr.eases; rw [x0, x2]
          rw [ee] at hgo
          exact hgo n2 g2 M2 Q2 P2
      · have ee : T.eases p = T2 := by unfold Tr.eases; rw [x2]
        rw [ee] at hgo
        exact hgo n2 g2 M2 Q2 P2
    rw [eh]
    refine ⟨fun y => go 0 (go1 (fun x => y (by rw [x]; rfl))), fun y => go 1 (go2 ?_)⟩
    rw [show (1 : Int32) = zI 1 from rfl, zI_inj (by omega) (by omega)] at y
    exact y
  · rw [ec, zI_lt (by omega) (by omega)] at z
    have eG : T.grow p = T := by unfold Tr.grow; rw [if_pos (by omega)]
    rw [eG] at hK
    exact hK n g M Q (Kp.refl n g)
end
