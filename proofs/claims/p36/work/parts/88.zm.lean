def Z2.RJ : Nat → Prop := fun q => q / 100 = 0 ∨ q = 301 ∨ q = 300
theorem Z2.RI_RJ : ∀ q, RI q → RJ q := fun q h => by
  rcases h with h | h
  · exact Or.inl h
  · exact Or.inr (Or.inl h)
theorem Z2.Tr.less_ff (T : Tr) (k : Key) : ff (fun i => dec (klt (T.ks i) k ∨ (T.ks i = k ∧ (0 : Int32) ≠ 0))) T.n = T.less k := ff_congr (fun i hi => dec_congr ⟨fun h => h.elim id (fun y => absurd rfl y.2), Or.inl⟩)
theorem Z2.Tr.leafOf_ff (T : Tr) (k : Key) : ff (fun i => dec (klt (T.S i) k ∨ (T.S i = k ∧ (1 : Int32) ≠ 0))) (T.m 0 - 1) = T.leafOf k := ff_congr (fun i hi => dec_congr ⟨fun h => by
    rcases h with h | ⟨h, -⟩
    · exact klt_asymm h
    · rw [h]; exact klt_irrefl k, fun h => by
    rcases klt_tri (T.S i) k with g | g | g
    · exact Or.inl g
    · exact Or.inr ⟨g, by decide⟩
    · exact absurd g h⟩)
section
variable {zd : Nat} {f : FT} {o : Z2.OW} {ad : Nat → Nat} {T : Z2.Tr} {a cu kv mc ms : Nat} {p : Nat → Int32} {k : Z2.Key}
theorem Z2.s_X1_addToLeaf (H : TT zd f o 0 ad T) (N : IN f o a (ad 6) cu T.c0 T.c1) (U : CU f o 300 cu p) (I : T.IM) (hk : KY f o kv k) (hn : T.n < 300) (v : Int32) (b1 : 2 ≤ mc) (b2 : 1050 ≤ ms) {K : Int32 → FT → Prop}
    (hK : ∀ f' o', TT zd f' o' 0 ad (T.leafPut (T.less k) (T.leafOf k) k v) → IN f' o' a (ad 6) cu T.c0 T.c1 → CU f' o' 300 cu (fun i => if p i < zI (T.less k) then p i else p i + 1) → Fr RJ f o f' o' → K (zI (T.leafOf k)) f') : wp_X1_addToLeaf zd a kv v f mc ms K := by
  have hh := I.h1
  obtain ⟨l1, l2, l3⟩ := I.less_at k
  obtain ⟨f1', f2', f3'⟩ := I.leaf_at k
  obtain ⟨ck, Rk⟩ := H.keysR
  obtain ⟨cs, Rs⟩ := H.sepsR
  refine gA_i N.1 rfl (gA_i H.1 rfl ⟨Rk.o, s_X4_countBelow Rk hk (fun i j h1 h2 => I.srt i j h1 h2) 0 (gA_i N.1 rfl (gA_i H.1 rfl ⟨Rs.o, s_X4_countBelow Rs hk (fun i j h1 h2 => I.ssrt i j h1 (by omega)) 1 (gA_i N.1 rfl (gA_i H.1 rfl ?_))⟩))⟩)
  rw [T.less_ff k, T.leafOf_ff k]
  refine ⟨1, 450, by omega, by omega, Rk.o, s_X4_insert Rk hk l1 (by omega) (fun _ => Nat.le_refl _) (fun _ => by unfold ga; split <;> omega) (fun f1 o1 R1 F1 => ?_)⟩
  have H1 := H.keysW R1 F1
  have N1 := N.fr F1 (by omega)
  have U1 := U.fr F1 (by omega)
  obtain ⟨cv, V1⟩ := H1.valsR
  refine gA_i N1.1 rfl (gA_i H1.1 rfl ⟨1, 600, by omega, by omega, V1.is, s_X2_insert V1 l1 (by omega) v (fun e => ⟨Nat.le_refl _, by omega⟩) (fun f2 o2 V2 F2 => ?_)⟩)
  have H2 := H1.valsW V2 F2
  have N2 := N1.fr F2 (by omega)
  have U2 := U1.fr F2 (by omega)
  obtain ⟨r, cr, Ir, lens, rd⟩ := H2.tier (t := 0) (by omega)
  have m4 := H2.m4 (t := 0) (by omega)
  refine gA_i N2.1 rfl ⟨H2.is, rd _ ⟨Ir.is, s_X2_addFrom Ir (by omega) 1 (fun f3 I3 F3 => ?_)⟩⟩
  have H3 := lens f3 o2 (T.m 0) (addF (T.E 0) (T.leafOf k)) _ (I3.congr (fun q hq => by
    unfold addF
    by_cases z : T.leafOf k ≤ q
    · rw [if_pos z, if_pos z]; exact zI_add _ 1
    · rw [if_neg z, if_neg z])) F3
  have N3 := N2.fr F3 (by omega)
  have U3 := U2.fr F3 (by omega)
  refine gA_i N3.1 rfl ⟨U3.is, s_X0_entryAdded U3 _ (fun f4 U4 F4 => ?_)⟩
  refine hK f4 o2 ?_ (N3.fr F4 (by omega)) U4 ((((F1.mono (fun q hq => ?_)).trans (F2.mono (fun q hq => ?_))).trans (F3.mono (fun q hq => ?_))).trans (F4.mono (fun q hq => Or.inr (Or.inr hq))))
  · exact (H3.fr F4 (fun q hq z => by omega)).congr (m' := T.m) (fun t ht => stt_self _ _ t) (fun t ht q hq => rfl)
  · left; omega
  · left; omega
  · left; omega
theorem Z2.s_X1_up (tiers : Nat) {R : Tr} {K : FT → Prop} (hK : ∀ f' o', TT zd f' o' 0 ad R → IN f' o' a (ad 6) cu R.c0 R.c1 → Fr RI f o f' o' → K f') (b1 : 7 * tiers ≤ mc) (b2 : 640 * tiers ≤ ms) {p : Nat} (ht : 1 ≤ tiers) (H : TT zd f o 0 ad T) (N : IN f o a (ad 6) cu T.c0 T.c1) (I : T.IM) (hm : T.m 0 ≤ 301) (hh : tiers ≤ T.h) (hh2 : 1 < tiers → T.h = tiers ∧ tiers ≤ 11) (hp : p < T.m 0) (hR : Tr.up (tiers - 1) T 1 p = R) : wp_X1_insert_58 zd a (zI p) (zI tiers) f mc ms K := by
  refine loopW_of (fun s => ∃ p t f1 o1 T1 bc bs, s = (zI p, zI t, f1, bc, bs) ∧ 1 ≤ t ∧ t ≤ tiers ∧ TT zd f1 o1 0 ad T1 ∧ IN f1 o1 a (ad 6) cu T1.c0 T1.c1 ∧ T1.IM ∧ T1.m 0 ≤ 301 ∧ tiers ≤ T1.h ∧ (t < tiers → T1.h = tiers ∧ tiers ≤ 11) ∧ p < T1.m (t - 1) ∧ Tr.up (tiers - t) T1 t p = R ∧ Fr RI f o f1 o1 ∧ 7 * (tiers - t) ≤ bc ∧ 640 * (tiers - t) ≤ bs) (fun s => tiers - s.2.1.toNatClampNeg) ?_ _ ⟨p, 1, f, o, T, mc, ms, rfl, Nat.le_refl _, ht, H, N, I, hm, hh, hh2, hp, hR, Fr.refl _ _ _, by omega, by omega⟩
  rintro C s ⟨p, t, f1, o1, T1, bc, bs, rfl, t1, t2, H1, N1, I1, hm1, hh1, hh3, hp1, hR1, F1, c1, c2⟩ hC
  have h12 := H1.h12
  refine ⟨fun z => ?_, fun z => gA_i N1.1 rfl ⟨H1.is, ?_⟩⟩
  · rw [zI_le (by omega) (by omega)] at z
    have : t = tiers := by omega
    subst this
    rw [Nat.sub_self] at hR1
    have hR1 : T1 = R := hR1
    subst hR1
    exact hK f1 o1 H1 N1 F1
  · rw [zI_le (by omega) (by omega)] at z
    obtain ⟨e1, e2⟩ := hh3 (by omega)
    rw [show zI t - 1 = zI (t - 1) from zI_sub t1]
    have et : t - 1 + 1 = t := by omega
    have q1 := I1.pr (t := t - 1) (by omega) hp1
    rw [et] at q1
    refine TT.parentOf H1 I1 (t := t - 1) (by omega) hp1 (gA_i N1.1 rfl ⟨H1.is, TT.pageBytes H1 I1 (by omega) q1.1 (gA_i N1.1 rfl (gI_i H1.1 rfl ⟨fun y => ?_, fun y => ?_⟩))⟩)
    · have hcap := I1.cap
      obtain ⟨g1, g2, g3⟩ := TT.ends I1 (t := t) (by omega) q1.1
      have hps := I1.psz_le (by omega) (a := st (T1.E t) (T1.par (t - 1) p)) (t := t) (by omega) g2
      have hps : T1.pgs t (T1.par (t - 1) p) ≤ 8000 := hps
      rw [zI_lt (by omega) (by omega)] at y
      have hf := I1.full (t := t) (by omega) q1.1 y
      have hmt := I1.m_le0 (t := t) (by omega)
      have hu : Tr.up (tiers - (t + 1)) (T1.split t (T1.par (t - 1) p)) (t + 1) (T1.par (t - 1) p) = R := by
        rw [← hR1, show tiers - t = (tiers - (t + 1)) + 1 by omega]
        show _ = (if T1.pgs t (T1.par (t - 1) p) ≤ T1.cap then T1 else Tr.up (tiers - (t + 1)) (T1.split t (T1.par (t - 1) p)) (t + 1) (T1.par (t - 1) p))
        rw [if_neg (by omega)]
      refine ⟨7, 640, by omega, by omega, N1.is, s_X1_split H1 N1 I1 hm1 (t := t) (by omega) (fun _ => by omega) q1.1 (by omega) (by omega) (by rw [if_neg (by omega)]; omega) (fun f2 o2 H2 N2 F2 => ?_)⟩
      rintro v rfl
      rw [show zI t + 1 = zI (t + 1) from zI_add t 1]
      have hsh := T1.split_h t (T1.par (t - 1) p)
      refine hC _ ⟨_, t + 1, f2, o2, _, _, _, rfl, by omega, by omega, H2, N2, I1.split (by omega) q1.1 (by omega), ?_, ?_, ?_, ?_, hu, F1.trans F2, by omega, by omega⟩ ?_
      · rw [T1.split_mne (by omega) (by omega)]; exact hm1
      · rw [hsh]; split <;> omega
      · intro g
        rw [hsh, if_neg (by omega)]; exact ⟨e1, e2⟩
      · rw [Nat.add_sub_cancel, T1.split_m (by omega)]; have := q1.1; omega
      · show tiers - (zI (t + 1)).toNatClampNeg < tiers - (zI t).toNatClampNeg
        rw [zI_clamp (by omega), zI_clamp (by omega)]; omega
    · have hcap := I1.cap
      obtain ⟨g1, g2, g3⟩ := TT.ends I1 (t := t) (by omega) q1.1
      have hps := I1.psz_le (by omega) (a := st (T1.E t) (T1.par (t - 1) p)) (t := t) (by omega) g2
      have hps : T1.pgs t (T1.par (t - 1) p) ≤ 8000 := hps
      rw [zI_lt (by omega) (by omega)] at y
      have hu : T1 = R := by
        rw [← hR1, show tiers - t = (tiers - (t + 1)) + 1 by omega]
        show _ = (if T1.pgs t (T1.par (t - 1) p) ≤ T1.cap then T1 else Tr.up (tiers - (t + 1)) (T1.split t (T1.par (t - 1) p)) (t + 1) (T1.par (t - 1) p))
        rw [if_pos (by omega)]
      subst hu
      exact hK f1 o1 H1 N1 F1
theorem Z2.s_X1_insert (H : TT zd f o 0 ad T) (N : IN f o a (ad 6) cu T.c0 T.c1) (U : CU f o 300 cu p) (I : T.IM) (hk : KY f o kv k) (hn : T.n < 300) (hnew : ∀ i, i < T.n → T.ks i ≠ k) (hm : T.m 0 ≤ 300) (hh : T.h ≤ 11) (v : Int32) (b1 : 100 ≤ mc) (b2 : 9300 ≤ ms) {K : FT → Prop}
    (hK : ∀ f' o', TT zd f' o' 0 ad (T.insert k v) → IN f' o' a (ad 6) cu (T.insert k v).c0 (T.insert k v).c1 → CU f' o' 300 cu (fun i => if p i < zI (T.less k) then p i else p i + 1) → Fr RJ f o f' o' → K f') : wp_X1_insert zd a kv v f mc ms K := by
  have hs := I.h1
  have hv := hk.v
  have J := I.leafPut hv v hn hnew
  have hl := (I.leaf_at k).1
  have hcap := I.cap
  refine ⟨2, 1050, by omega, by omega, N.is, s_X1_addToLeaf H N U I hk hn v (Nat.le_refl _) (Nat.le_refl _) (fun f1 o1 H1 N1 U1 F1 => gA_i N1.1 rfl ⟨H1.is, TT.pageBytes H1 J (t := 0) (by show 0 < T.h; omega) hl (gA_i N1.1 rfl (gI_i H1.1 rfl ⟨fun z => ?_, fun z => ?_⟩))⟩)⟩
  · -- the leaf is too large
    have eT : T.insert k v = (T.leafPut (T.less k) (T.leafOf k) k v).grow (T.leafOf k) := rfl
    rw [eT] at hK
    generalize hT1 : T.leafPut (T.less k) (T.leafOf k) k v = T1 at *
    have hm1 : T1.m 0 = T.m 0 := by rw [← hT1]; rfl
    have hh1 : T1.h = T.h := by rw [← hT1]; rfl
    have hc1 : T1.cap = T.cap := by rw [← hT1]; rfl
    have hc0' : T1.c0 = T.c0 := by rw [← hT1]; rfl
    have hc1' : T1.c1 = T.c1 := by rw [← hT1]; rfl
    rw [← hc0', ← hc1'] at N1
    rw [← hm1] at hl hm
    rw [← hh1] at hh hs
    obtain ⟨g1, g2, g3⟩ := TT.ends J (t := 0) (by omega) hl
    have hps := J.psz_le (by omega) (a := st (T1.E 0) (T.leafOf k)) (t := 0) (by omega) g2
    have hps : T1.pgs 0 (T.leafOf k) ≤ 8000 := hps
    rw [zI_lt (by omega) (by omega)] at z
    have hf := J.full (t := 0) (by omega) hl z
    have eG : T1.grow (T.leafOf k) = Tr.up (T1.h - 1) (T1.eases (T.leafOf k)) 1 (T.leafOf k) := by unfold Tr.grow; rw [if_neg (by omega)]
    have ⟨es1, es2, es3, es4, es5, es6, es7⟩ := Tr.eases_spec J hl z
    rw [eG] at hK
    -- what follows when room was made
    have go : ∀ f2 o2 bc bs, 77 ≤ bc → 7040 ≤ bs → TT zd f2 o2 0 ad (T1.eases (T.leafOf k)) → IN f2 o2 a (ad 6) cu (T1.eases (T.leafOf k)).c0 (T1.eases (T.leafOf k)).c1 → Fr RI f1 o1 f2 o2 → wp_X1_insert_58 zd a (zI (T.leafOf k)) (zI T1.h) f2 bc bs K := fun f2 o2 bc bs d1 d2 H2 N2 F2 =>
      s_X1_up T1.h (fun f3 o3 H3 N3 F3 => hK f3 o3 H3 N3 (U1.fr (F2.trans F3) (fun z => by rcases z with z | z <;> omega)) (F1.trans ((F2.trans F3).mono RI_RJ))) (by omega) (by omega) hs H2 N2 es1 (by omega) es5 (fun g => ⟨es7 g, by omega⟩) (by omega) rfl
    refine gA_i N1.1 rfl (gI_i H1.1 rfl ⟨2, 13, by omega, by omega, N1.is, s_X1_giveLeft H1 N1 J hl (by omega) (Nat.le_refl _) (Nat.le_refl _) (fun e0 => ⟨fun y => absurd rfl y, fun _ => ?_⟩) (fun f2 o2 T2 e2 H2 N2 F2 => ⟨fun _ => ?_, fun y => absurd y (by decide)⟩)⟩)
    · refine ⟨2, 13, by omega, by omega, N1.is, s_X1_giveRight H1 N1 J hl (by omega) (Nat.le_refl _) (Nat.le_refl _) (fun e3 => ⟨fun y => absurd rfl y, fun _ => ?_⟩) (fun f2 o2 T2 e2 H2 N2 F2 => ⟨fun _ => ?_, fun y => absurd y (by decide)⟩)⟩
      · have ee : T1.eases (T.leafOf k) = T1.split 0 (T.leafOf k) := by unfold Tr.eases; rw [e0, e3]
        rw [ee] at go
        refine ⟨7, 1101, by omega, by omega, N1.is, s_X1_split H1 N1 J (by omega) (t := 0) (by omega) (fun _ => by omega) hl (by omega) (Nat.le_refl _) (by rw [if_pos rfl]; omega) (fun f2 o2 H2 N2 F2 => go f2 o2 _ _ (by omega) (by omega) H2 N2 F2)⟩
      · have ee : T1.eases (T.leafOf k) = T2 := by unfold Tr.eases; rw [e0, e2]
        rw [ee] at go
        exact go f2 o2 _ _ (by omega) (by omega) H2 N2 F2
    · have ee : T1.eases (T.leafOf k) = T2 := by unfold Tr.eases; rw [e2]
      rw [ee] at go
      exact go f2 o2 _ _ (by omega) (by omega) H2 N2 F2
  · have hps : (T.leafPut (T.less k) (T.leafOf k) k v).pgs 0 (T.leafOf k) ≤ 8000 := J.psz_le (show T.m 0 ≤ 400 by omega) (t := 0) (show 0 < T.h by omega) (TT.ends J (t := 0) (show 0 < T.h by omega) hl).2.1
    have hc1 : (T.leafPut (T.less k) (T.leafOf k) k v).cap = T.cap := rfl
    rw [zI_lt (by omega) (by omega)] at z
    have e : T.insert k v = T.leafPut (T.less k) (T.leafOf k) k v := by
      show (T.leafPut (T.less k) (T.leafOf k) k v).grow (T.leafOf k) = _
      unfold Tr.grow; rw [if_pos (by omega)]
    rw [e] at hK
    exact hK f1 o1 H1 N1 U1 F1
end
def Z2.RM (f : FT) (o : OW) (a tr cu : Nat) (c2 : Nat) : Prop := f a = some (.inr (9, [.ref tr, .ref cu, .int (zI c2)])) ∧ o a = some 302
theorem Z2.RM.fr {R : Nat → Prop} {f f' : FT} {o o' : OW} {a tr cu c2 : Nat} (h : RM f o a tr cu c2) (F : Fr R f o f' o') (hR : ¬ R 302) : RM f' o' a tr cu c2 := by
  obtain ⟨p1, p2⟩ := F.get h.1 (fun q e => by rw [h.2] at e; cases e; exact hR)
  exact ⟨p1, p2.trans h.2⟩
theorem Z2.RM.is {f : FT} {o : OW} {a tr cu c2 : Nat} (h : RM f o a tr cu c2) : isO f a 9 := ⟨_, h.1⟩
def Z2.RK : Nat → Prop := fun q => q / 100 = 0 ∨ q = 302
def Z2.RL : Nat → Prop := fun q => q / 100 = 0 ∨ q = 302 ∨ q = 300
theorem Z2.RK_RL : ∀ q, RK q → RL q := fun q h => by
  rcases h with h | h
  · exact Or.inl h
  · exact Or.inr (Or.inl h)
section
variable {zd : Nat} {f : FT} {o : Z2.OW} {ad : Nat → Nat} {T : Z2.Tr} {a cu : Nat} {p : Nat → Int32}
theorem Z2.s_X6_merge (H : TT zd f o 0 ad T) (N : RM f o a (ad 6) cu T.c2) (I : T.IM) (hm : T.m 0 ≤ 400) {t l : Nat} (ha : T.adj t l = true) {K : Int32 → FT → Prop} (h0 : ¬ T.psz t (st (T.E t) l) (T.E t (l + 1)) ≤ T.cap → K 0 f)
    (h1 : T.psz t (st (T.E t) l) (T.E t (l + 1)) ≤ T.cap → ∀ f', TT zd f' o 0 ad (T.join t l) → RM f' o a (ad 6) cu (T.join t l).c2 → Fr RK f o f' o → K 1 f') : wp_X6_mergeWithNext a (zI t) (zI l) f K := by
  have h12 := H.h12
  have hcap := I.cap
  obtain ⟨l1, l2, l3⟩ := I.adj_iff ha
  obtain ⟨g1, g2, g3⟩ := TT.ends I (t := t) (p := l) (by omega) (by omega)
  obtain ⟨k1, k2, k3⟩ := TT.ends I (t := t) (p := l + 1) (by omega) l1
  have hst : T.E t l = st (T.E t) (l + 1) := by unfold st; rw [if_neg (by omega), Nat.add_sub_cancel]
  have hps := I.psz_le hm (a := st (T.E t) l) (b := T.E t (l + 1)) (t := t) (by omega) k2
  have hmt := I.m_le0 (t := t) (by omega)
  refine gA_i N.1 rfl ⟨H.is, s_X7_startOf H (by omega) (by omega) (gA_i N.1 rfl ⟨H.is, ?_⟩)⟩
  rw [show zI l + 1 = zI (l + 1) from zI_add l 1]
  refine s_X7_endOf H (by omega) l1 (gA_i N.1 rfl ⟨H.is, TT.span H I (by omega) (by omega) k2 (fun z => by have := k3 z; omega) (gA_i N.1 rfl (gI_i H.1 rfl ⟨fun z => ?_, fun z => ?_⟩))⟩)
  · rw [zI_le (by omega) (by omega)] at z
    have h1 := h1 z
    obtain ⟨r2, cr2, Ir2, lens2, rd2⟩ := H.tier (t := t + 1) l2
    obtain ⟨q1, q2, q3⟩ := I.pr l2 (p := l) (by omega)
    have m4 := H.m4 (t := t + 1) l2
    refine gA_i N.1 rfl ⟨H.is, ?_⟩
    rw [show zI t + 1 = zI (t + 1) from zI_add t 1]
    refine rd2 _ (gA_i N.1 rfl ⟨H.is, TT.parentOf H I l2 (by omega) ⟨Ir2.is, s_X2_addFrom Ir2 (by omega) (-1) (fun f1 I1 F1 => ?_)⟩⟩)
    have H1 := lens2 f1 o (T.m (t + 1)) (subF (T.E (t + 1)) (T.par t l)) _ (I1.congr (fun q hq => by
      unfold subF
      have := I.E_pos l2 hq
      by_cases z : T.par t l ≤ q
      · rw [if_pos z, if_pos z]; exact zI_pred (by omega)
      · rw [if_neg z, if_neg z])) F1
    have N1 := N.fr F1 (by omega)
    have e1 : (stt T.E (t + 1) (subF (T.E (t + 1)) (T.par t l))) t = T.E t := stt_ne _ _ (by omega)
    have e2 : (stt T.m (t + 1) (T.m (t + 1))) t = T.m t := stt_ne _ _ (by omega)
    obtain ⟨r, cr, Ir, lens, rd⟩ := H1.tier (t := t) (by omega)
    rw [e1, e2] at Ir
    refine gA_i N1.1 rfl ⟨H1.is, rd _ ⟨Ir.is, s_X2_delete Ir (show l < T.m t by omega) (fun f2 I2 F2 => ?_)⟩⟩
    have H2 := lens f2 o (T.m t - 1) (del (T.E t) l) _ (I2.congr (fun q hq => by
      unfold del
      split <;> rfl)) F2
    have N2 := N1.fr F2 (by omega)
    have F12 : Fr RK f o f2 o := (F1.mono (fun q hq => Or.inl (by omega))).trans (F2.mono (fun q hq => Or.inl (by omega)))
    have fin : ∀ f3 ns S, TS zd f3 o 0 ad T.cap T.h T.n T.ks T.n T.vs ns S (stt (stt T.m (t + 1) (T.m (t + 1))) t (T.m t - 1)) (stt (stt T.E (t + 1) (subF (T.E (t + 1)) (T.par t l))) t (del (T.E t) l)) → ns = (T.join t l).m 0 - 1 → S = (T.join t l).S → RM f3 o a (ad 6) cu T.c2 → Fr RK f o f3 o → wp_X6_mergeWithNext_96 a f3 K := fun f3 ns S H3 e1 e2 N3 F3 => by
      subst e1 e2
      refine gI_i N3.1 rfl (pV_g N3.1 (by simp) (fun f4 e4 n4 => ?_))
      have F4 : Fr (fun q => q = 302) f3 o f4 o := Fr.one N3.1 e4 N3.2 n4
      rw [show zI T.c2 + 1 = zI (T.c2 + 1) from zI_add _ 1] at e4
      refine h1 f4 ?_ ⟨e4, N3.2⟩ (F3.trans (F4.mono (fun q hq => Or.inr hq)))
      refine (H3.fr F4 (fun q hq z => by omega)).congr (fun u hu => ?_) (fun u hu q hq => ?_)
      · show _ = stt T.m t (T.m t - 1) u
        unfold stt
        by_cases z : u = t
        · rw [if_pos z, if_pos z]
        · rw [if_neg z, if_neg z]
          split
          · rename_i y; rw [y]
          · rfl
      · show _ = stt (stt T.E t (del (T.E t) l)) (t + 1) (subF (T.E (t + 1)) (T.par t l)) u q
        unfold stt
        by_cases z : u = t
        · rw [if_pos z, if_neg (by omega), if_pos z]
        · rw [if_neg z]
          by_cases y : u = t + 1
          · rw [if_pos y, if_pos y]
          · rw [if_neg y, if_neg y, if_neg z]
    refine ⟨fun y => ?_, fun y => ?_⟩
    · have t0 : t ≠ 0 := fun x => y (by rw [x]; rfl)
      refine fin f2 _ _ H2 ?_ ?_ N2 F12
      · show _ = stt T.m t (T.m t - 1) 0 - 1
        rw [stt_ne _ _ (by omega)]
      · exact (if_neg t0).symm
    · rw [show (0 : Int32) = zI 0 from rfl, zI_inj (by omega) (by omega)] at y
      subst y
      obtain ⟨cs, R2⟩ := H2.sepsR
      refine gA_i N2.1 rfl (gA_i H2.1 rfl ⟨R2.o, s_X4_delete R2 (show l < T.m 0 - 1 by omega) (fun f3 R3 F3 => ?_)⟩)
      refine fin f3 _ _ (H2.sepsW R3 F3) ?_ ?_ (N2.fr F3 (by omega)) (F12.trans (F3.mono (fun q hq => Or.inl (by omega))))
      · show _ = stt T.m 0 (T.m 0 - 1) 0 - 1
        rw [stt_same]
      · rfl
  · rw [zI_le (by omega) (by omega)] at z
    exact h0 z
theorem Z2.s_X6_mergeIfSmall (H : TT zd f o 0 ad T) (N : RM f o a (ad 6) cu T.c2) (I : T.IM) (hm : T.m 0 ≤ 400) {t p : Nat} (ht : t < T.h) (hp : p < T.m t) {K : Int32 → FT → Prop} (h0 : T.melt t p = none → K 0 f)
    (h1 : ∀ l, T.melt t p = some l → ∀ f', TT zd f' o 0 ad (T.join t l) → RM f' o a (ad 6) cu (T.join t l).c2 → Fr RK f o f' o → K 1 f') : wp_X6_mergeIfSmall a (zI t) (zI p) f K := by
  have h12 := H.h12
  have hcap := I.cap
  obtain ⟨g1, g2, g3⟩ := TT.ends I ht hp
  have hps := I.psz_le hm (a := st (T.E t) p) (t := t) ht g2
  have hps : T.pgs t p ≤ 8000 := hps
  have hmt := I.m_le0 (t := t) (by omega)
  refine gA_i N.1 rfl ⟨H.is, TT.pageBytes H I ht hp (gA_i N.1 rfl (gI_i H.1 rfl ⟨by decide, ?_⟩))⟩
  rw [show (2 : Int32) = zI 2 from rfl, zI_div (by omega) (by omega)]
  refine ⟨fun z => ?_, fun z => ?_⟩
  · rw [zI_lt (by omega) (by omega)] at z
    -- the right one
    have right : ¬ (0 < p ∧ T.adj t (p - 1) = true ∧ T.psz t (st (T.E t) (p - 1)) (T.E t p) ≤ T.cap) → wp_X6_mergeIfSmall_48 a (zI t) (zI p) f K := fun hl => by
      refine gA_i N.1 rfl ⟨H.is, TT.hasRight H I ht hp (fun ha => ⟨fun y => absurd y (by decide), fun _ => ⟨N.is, s_X6_merge H N I hm ha (fun y => ⟨fun _ => h0 ?_, fun x => absurd rfl x⟩) (fun y f' a b c => ⟨fun x => absurd x (by decide), fun _ => h1 p ?_ f' a b c⟩)⟩⟩) (fun ha => ⟨fun _ => h0 ?_, fun x => absurd rfl x⟩)⟩
      · unfold Tr.melt; rw [if_pos z, if_neg hl, if_neg (fun x => y x.2)]
      · unfold Tr.melt; rw [if_pos z, if_neg hl, if_pos ⟨ha, y⟩]
      · unfold Tr.melt; rw [if_pos z, if_neg hl, if_neg (fun x => ha x.1)]
    refine gA_i N.1 rfl ⟨H.is, TT.hasLeft H I ht hp (fun ha => ⟨fun y => absurd y (by decide), fun _ => ⟨N.is, ?_⟩⟩) (fun ha => ⟨fun _ => right (fun y => ha ⟨y.1, y.2.1⟩), fun x => absurd rfl x⟩)⟩
    rw [show zI p - 1 = zI (p - 1) from zI_sub (show 1 ≤ p by omega)]
    have ep : p - 1 + 1 = p := by omega
    refine s_X6_merge H N I hm ha.2 (fun y => ⟨fun _ => right (fun x => y ?_), fun x => absurd rfl x⟩) (fun y f' a b c => ⟨fun x => absurd x (by decide), fun _ => h1 (p - 1) ?_ f' a b c⟩)
    · rw [ep]; exact x.2.2
    · rw [ep] at y
      unfold Tr.melt; rw [if_pos z, if_pos ⟨ha.1, ha.2, y⟩]
  · rw [zI_lt (by omega) (by omega)] at z
    exact h0 (by unfold Tr.melt; rw [if_neg z])
theorem Z2.s_X6_coll (v : Int32) {R : Tr} {K : Int32 → FT → Prop} (hK : ∀ f', TT zd f' o 0 ad R → RM f' o a (ad 6) cu R.c2 → Fr RK f o f' o → K v f') (H : TT zd f o 0 ad T) (N : RM f o a (ad 6) cu T.c2) (I : T.IM) (hR : Tr.coll T.h T = R) : ∃ n, loopW (wp_X6_removeEntry_119 a v K) n f := by
  refine loopW_of (fun f1 => ∃ T1 k, TT zd f1 o 0 ad T1 ∧ RM f1 o a (ad 6) cu T1.c2 ∧ T1.IM ∧ T1.h ≤ k ∧ Tr.coll k T1 = R ∧ Fr RK f o f1 o) (fun f1 => match f1 (ad 6) with
    | some (.inr (_, [_, _, _, _, _, _, .int h, _])) => h.toNatClampNeg
    | _ => 0) ?_ _ ⟨T, T.h, H, N, I, Nat.le_refl _, hR, Fr.refl _ _ _⟩
  rintro C f1 ⟨T1, k, H1, N1, I1, hk, hR1, F1⟩ hC
  have h12 := H1.h12
  have h1 := I1.h1
  obtain ⟨k, rfl⟩ : ∃ j, k = j + 1 := ⟨k - 1, by omega⟩
  have hR1 : (if 1 < T1.h ∧ T1.E (T1.h - 1) 0 = 1 then Tr.coll k (Tr.mk T1.cap T1.n T1.ks T1.vs (T1.h - 1) T1.m T1.E T1.S T1.c0 T1.c1 T1.c2) else T1) = R := hR1
  refine gA_i N1.1 rfl (gI_i H1.1 rfl ⟨fun z => ?_, fun z => gA_i N1.1 rfl (gA_i N1.1 rfl (gI_i H1.1 rfl ⟨H1.is, ?_⟩))⟩)
  · rw [show (1 : Int32) = zI 1 from rfl, zI_le (by omega) (by omega)] at z
    rw [if_neg (by omega)] at hR1
    subst hR1
    exact hK f1 H1 N1 F1
  · rw [show (1 : Int32) = zI 1 from rfl, zI_le (by omega) (by omega)] at z
    rw [show zI T1.h - 1 = zI (T1.h - 1) from zI_sub h1, show (0 : Int32) = zI 0 from rfl]
    have hE := (TT.E4 H1 I1 (t := T1.h - 1) (p := 0) (by omega) (by rw [I1.top]; omega)).1
    refine s_X7_endOf H1 (by omega) (by rw [I1.top]; omega) ⟨fun y => ?_, fun y => ?_⟩
    · rw [if_neg (fun x => y (by rw [x.2]; rfl))] at hR1
      subst hR1
      exact hK f1 H1 N1 F1
    · rw [show (1 : Int32) = zI 1 from rfl, zI_inj (by omega) (by omega)] at y
      rw [if_pos ⟨by omega, y⟩] at hR1
      refine gA_i N1.1 rfl (gI_i H1.1 rfl (pV_g H1.1 (by simp) (fun f2 e2 n2 => ?_)))
      have F2 : Fr (fun q => q = 100 * 0 + 5) f1 o f2 o := Fr.one H1.1 e2 H1.2.1 n2
      rw [show zI T1.h - 1 = zI (T1.h - 1) from zI_sub h1] at e2
      refine hC _ ⟨Tr.mk T1.cap T1.n T1.ks T1.vs (T1.h - 1) T1.m T1.E T1.S T1.c0 T1.c1 T1.c2, k, H1.numW (show T1.h - 1 ≤ T1.h by omega) e2 F2, N1.fr F2 (by omega), I1.coll1 (by omega) y, ?_, hR1, F1.trans (F2.mono (fun q hq => Or.inl (by omega)))⟩ ?_
      · show T1.h - 1 ≤ k; omega
      · show (match f2 (ad 6) with
          | some (.inr (_, [_, _, _, _, _, _, .int h, _])) => h.toNatClampNeg
          | _ => 0) < (match f1 (ad 6) with
          | some (.inr (_, [_, _, _, _, _, _, .int h, _])) => h.toNatClampNeg
          | _ => 0)
        rw [e2, H1.1]
        show (zI (T1.h - 1)).toNatClampNeg < (zI T1.h).toNatClampNeg
        rw [zI_clamp (by omega), zI_clamp (by omega)]; omega
theorem Z2.s_X6_down (v : Int32) {R : Tr} {K : Int32 → FT → Prop} (hK : ∀ f', TT zd f' o 0 ad R → RM f' o a (ad 6) cu R.c2 → Fr RK f o f' o → K v f') {q : Nat} (H : TT zd f o 0 ad T) (N : RM f o a (ad 6) cu T.c2) (I : T.IM) (hm : T.m 0 ≤ 400) (hq : q < T.m 0) (hR : Tr.coll (Tr.down (T.h - 1) T 0 q).h (Tr.down (T.h - 1) T 0 q) = R) : ∃ n, loopW (wp_X6_removeEntry_71 a v K) n (zI q, 0, f) := by
  refine loopW_of (fun s => ∃ q t f1 T1, s = (zI q, zI t, f1) ∧ t + 1 ≤ T1.h ∧ TT zd f1 o 0 ad T1 ∧ RM f1 o a (ad 6) cu T1.c2 ∧ T1.IM ∧ T1.m 0 ≤ 400 ∧ q < T1.m t ∧ Tr.coll (Tr.down (T1.h - 1 - t) T1 t q).h (Tr.down (T1.h - 1 - t) T1 t q) = R ∧ Fr RK f o f1 o) (fun s => 20 - s.2.1.toNatClampNeg) ?_ _ ⟨q, 0, f, T, rfl, I.h1, H, N, I, hm, hq, hR, Fr.refl _ _ _⟩
  rintro C s ⟨q, t, f1, T1, rfl, ht, H1, N1, I1, hm1, hq1, hR1, F1⟩ hC
  have h12 := H1.h12
  have ends : Tr.down (T1.h - 1 - t) T1 t q = T1 → ∃ n, loopW (wp_X6_removeEntry_119 a v K) n f1 := fun e => by
    rw [e] at hR1
    exact s_X6_coll v (fun f' a b c => hK f' a b (F1.trans c)) H1 N1 I1 hR1
  refine gA_i N1.1 rfl (gI_i H1.1 rfl ⟨fun z => ?_, fun z => ?_⟩)
  · rw [show zI T1.h - 1 = zI (T1.h - 1) from zI_sub I1.h1, zI_le (by omega) (by omega)] at z
    exact ends (by rw [show T1.h - 1 - t = 0 by omega]; rfl)
  · rw [show zI T1.h - 1 = zI (T1.h - 1) from zI_sub I1.h1, zI_le (by omega) (by omega)] at z
    have en : T1.h - 1 - t = (T1.h - 1 - (t + 1)) + 1 := by omega
    refine gA_i N1.1 rfl ⟨H1.is, TT.parentOf H1 I1 (by omega) hq1 ⟨N1.is, s_X6_mergeIfSmall H1 N1 I1 hm1 (by omega) hq1 (fun e => ⟨fun y => absurd rfl y, fun _ => ends ?_⟩) (fun l e f2 H2 N2 F2 => ⟨fun _ => ?_, fun y => absurd y (by decide)⟩)⟩⟩
    · rw [en]; show (match T1.melt t q with
        | none => T1
        | some l => Tr.down (T1.h - 1 - (t + 1)) (T1.join t l) (t + 1) (T1.par t q)) = T1
      rw [e]
    · rintro v rfl
      rw [show zI t + 1 = zI (t + 1) from zI_add t 1]
      obtain ⟨m1, m2, m3⟩ := Tr.melt_spec I1 e
      rw [en] at hR1
      have ed : Tr.down (T1.h - 1 - (t + 1) + 1) T1 t q = Tr.down ((T1.join t l).h - 1 - (t + 1)) (T1.join t l) (t + 1) (T1.par t q) := by
        show (match T1.melt t q with
        | none => T1
        | some l => Tr.down (T1.h - 1 - (t + 1)) (T1.join t l) (t + 1) (T1.par t q)) = _
        rw [e]; rfl
      rw [ed] at hR1
      have hpr := I1.pr (t := t) (by omega) hq1
      have hmt : ∀ u, (T1.join t l).m u ≤ T1.m u := fun u => by
        show stt T1.m t (T1.m t - 1) u ≤ _
        unfold stt; split
        · rename_i x; rw [x]; omega
        · exact Nat.le_refl _
      refine hC _ ⟨_, t + 1, f2, T1.join t l, rfl, by show t + 1 + 1 ≤ T1.h; omega, H2, N2, I1.join m1, Nat.le_trans (hmt 0) hm1, ?_, hR1, F1.trans F2⟩ ?_
      · rw [Tr.join_mne _ (by omega)]; exact hpr.1
      · show 20 - (zI (t + 1)).toNatClampNeg < 20 - (zI t).toNatClampNeg
        rw [zI_clamp (by omega), zI_clamp (by omega)]; omega
theorem Z2.s_X6_removeEntry (H : TT zd f o 0 ad T) (N : RM f o a (ad 6) cu T.c2) (U : CU f o 300 cu p) (I : T.IM) (hm : T.m 0 ≤ 400) {pos : Nat} (hp : pos < T.n) {K : Int32 → FT → Prop}
    (hK : ∀ f', TT zd f' o 0 ad (T.remove pos) → RM f' o a (ad 6) cu (T.remove pos).c2 → CU f' o 300 cu (fun i => if p i ≤ zI pos then p i else p i - 1) → Fr RL f o f' o → K (T.vs pos) f') : wp_X6_removeEntry a (zI pos) f K := by
  have hs := I.h1
  have hn := I.n3
  obtain ⟨cv, V⟩ := H.valsR
  obtain ⟨r, cr, Ir, lens, rd⟩ := H.tier (t := 0) (by omega)
  have m4 := H.m4 (t := 0) (by omega)
  obtain ⟨g1, g2, g3⟩ := I.pg (t := 0) (x := pos) (by omega) (by rw [if_pos rfl]; exact hp)
  refine gA_i N.1 rfl (gA_i H.1 rfl ⟨V.is, s_X2_at V hp (gA_i N.1 rfl ⟨H.is, rd _ ⟨Ir.is, s_X2_countNotAbove Ir (by omega) (fun q hq => by have := I.le_n hq; omega) (fun q r h1 h2 => I.mono q r h1 h2) ?_⟩⟩)⟩)
  show gA f a 9 0 _
  obtain ⟨ck, Rk⟩ := H.keysR
  refine gA_i N.1 rfl (gA_i H.1 rfl ⟨Rk.o, s_X4_delete Rk hp (fun f1 R1 F1 => ?_)⟩)
  have H1 := H.keysW R1 F1
  have N1 := N.fr F1 (by omega)
  have U1 := U.fr F1 (by omega)
  obtain ⟨cv1, V1⟩ := H1.valsR
  refine gA_i N1.1 rfl (gA_i H1.1 rfl ⟨V1.is, s_X2_delete V1 hp (fun f2 V2 F2 => ?_)⟩)
  have H2 := H1.valsW V2 F2
  have N2 := N1.fr F2 (by omega)
  have U2 := U1.fr F2 (by omega)
  obtain ⟨r2, cr2, Ir2, lens2, rd2⟩ := H2.tier (t := 0) (by omega)
  refine gA_i N2.1 rfl ⟨H2.is, rd2 _ ⟨Ir2.is, ?_⟩⟩
  show wp_X2_addFrom r2 (zI (T.pgOf 0 pos)) (-1) f2 _
  refine s_X2_addFrom Ir2 (by omega) (-1) (fun f3 I3 F3 => ?_)
  have H3 := lens2 f3 o (T.m 0) (subF (T.E 0) (T.pgOf 0 pos)) _ (I3.congr (fun q hq => by
    unfold subF
    by_cases z : T.pgOf 0 pos ≤ q
    · rw [if_pos z, if_pos z]
      have := I.mono (T.pgOf 0 pos) q z hq
      exact zI_pred (by omega)
    · rw [if_neg z, if_neg z])) F3
  have N3 := N2.fr F3 (by omega)
  have U3 := U2.fr F3 (by omega)
  refine gA_i N3.1 rfl ⟨U3.is, s_X0_entryRemoved U3 _ (fun f4 U4 F4 => ?_)⟩
  have H4 : TT zd f4 o 0 ad (T.leafDel pos (T.pgOf 0 pos)) := (H3.fr F4 (fun q hq z => by omega)).congr (m' := T.m) (fun t ht => stt_self _ _ t) (fun t ht q hq => rfl)
  have N4 := N3.fr F4 (by omega)
  have F04 : Fr RL f o f4 o := (((F1.mono (fun q hq => Or.inl (by omega))).trans (F2.mono (fun q hq => Or.inl (by omega)))).trans (F3.mono (fun q hq => Or.inl (by omega)))).trans (F4.mono (fun q hq => Or.inr (Or.inr hq)))
  refine s_X6_down _ (fun f5 H5 N5 F5 => hK f5 H5 N5 (U4.fr F5 (fun z => by rcases z with z | z <;> omega)) (F04.trans (F5.mono RK_RL))) H4 N4 (I.leafDel hp) hm g1 rfl
end
