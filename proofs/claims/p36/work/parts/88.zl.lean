theorem Z2.Tr.IM.psz_le {T : Tr} (I : T.IM) (hm : T.m 0 ≤ 400) {t a b : Nat} (ht : t < T.h) (hb : b ≤ if t = 0 then T.n else T.m (t - 1)) : T.psz t a b ≤ 8000 := by
  have hn := I.n3
  rcases Nat.eq_zero_or_pos t with z | z
  · subst z
    rw [if_pos rfl] at hb
    have := I.psz0_le (a := a) hb
    omega
  · rw [if_neg (by omega)] at hb
    have := I.psz1_le (a := a) z ht hb
    have := I.m_le0 (t := t - 1) (by omega)
    omega
theorem Z2.jabs_dif {x y : Nat} (hx : x < 10000) (hy : y < 10000) : jabs (zI x - zI y) = zI (dif x y) := by
  have e := zI_sub_toInt hx hy
  have e0 : (0 : Int32).toInt = 0 := rfl
  unfold jabs dif
  split
  · rename_i g
    rw [Int32.le_iff_toInt_le, e, e0] at g
    rw [zI_sub (by omega), show x - y + (y - x) = x - y by omega]
  · rename_i g
    rw [Int32.le_iff_toInt_le, e, e0] at g
    rw [← Int32.toInt_inj, Int32.toInt_sub, e, e0, zI_toInt (by omega), Int.bmod_eq_of_le (by omega) (by omega)]
    omega
def Z2.lo : Option Nat → Int32
  | none => -1
  | some l => zI l
theorem Z2.dec_congr {p q : Prop} (h : p ↔ q) : dec p = dec q := by rw [propext h]
section
variable {zd : Nat} {f : FT} {o : Z2.OW} {ad : Nat → Nat} {T : Z2.Tr} {a cu mc ms : Nat}
theorem Z2.s_X1_evenCut (H : TT zd f o 0 ad T) (N : IN f o a (ad 6) cu T.c0 T.c1) (I : T.IM) (hm : T.m 0 ≤ 400) {t p : Nat} (ht : t < T.h) (hp : p < T.m t) (hf : st (T.E t) p + 2 ≤ T.E t p) {K : Int32 → Prop} (hK : K (zI (T.cutS t p))) : wp_X1_evenCut a (zI t) (zI p) f K := by
  obtain ⟨g1, g2, g3⟩ := TT.ends I ht hp
  obtain ⟨e4, m4⟩ := TT.E4 H I ht hp
  refine gA_i N.1 rfl ⟨H.is, s_X7_startOf H ht (by omega) (gA_i N.1 rfl ⟨H.is, s_X7_endOf H ht hp ?_⟩)⟩
  rintro v rfl w rfl
  rw [show zI (st (T.E t) p) + 1 = zI (st (T.E t) p + 1) from zI_add _ 1]
  unfold Tr.cutS Tr.evc at hK
  generalize hD : (fun c => dif (T.psz t (st (T.E t) p) c) (T.psz t c (T.E t p))) = D at hK
  refine loopW_of (fun s => ∃ b q c, s = (zI b, lo q, zI c) ∧ st (T.E t) p + 1 ≤ c ∧ c ≤ T.E t p ∧ eLoop D (T.E t p - c) c b q = eLoop D (T.E t p - (st (T.E t) p + 1)) (st (T.E t) p + 1) (st (T.E t) p + 1) none ∧ ∀ l, q = some l → l < 100000) (fun s => T.E t p - s.2.2.toNatClampNeg) ?_ _ ⟨_, none, _, rfl, Nat.le_refl _, by omega, rfl, fun l h => by cases h⟩
  rintro C s ⟨b, q, c, rfl, c1, c2, hs, hq⟩ hC
  refine ⟨fun z => ?_, fun z => gA_i N.1 rfl ⟨H.is, ?_⟩⟩
  · rw [zI_le (by omega) (by omega)] at z
    have : c = T.E t p := by omega
    subst this
    rw [Nat.sub_self] at hs
    have hs : b = _ := hs
    rw [hs]; exact hK
  · rw [zI_le (by omega) (by omega)] at z
    have p1 := I.psz_le hm (a := st (T.E t) p) (b := c) ht (by omega)
    have p2 := I.psz_le hm (a := c) (b := T.E t p) ht g2
    refine TT.span H I ht (by omega) (by omega) (fun _ => by omega) (gA_i N.1 rfl ⟨H.is, TT.span H I ht (by omega) (by omega) (fun _ => by omega) ?_⟩)
    rintro v rfl
    rw [jabs_dif (by omega) (by omega)]
    have eD : dif (T.psz t (st (T.E t) p) c) (T.psz t c (T.E t p)) = D c := by rw [← hD]
    have bD : D c < 100000 := by rw [← eD]; unfold dif; omega
    rw [eD]
    have en : T.E t p - c = (T.E t p - (c + 1)) + 1 := by omega
    rw [en] at hs
    have ms : T.E t p - (zI (c + 1)).toNatClampNeg < T.E t p - (zI c).toNatClampNeg := by rw [zI_clamp (by omega), zI_clamp (by omega)]; omega
    have take : eLoop D (T.E t p - (c + 1)) (c + 1) c (some (D c)) = eLoop D (T.E t p - (st (T.E t) p + 1)) (st (T.E t) p + 1) (st (T.E t) p + 1) none → wp_X1_evenCut_86 a (zI t) (zI (st (T.E t) p)) (zI (T.E t p)) (zI c) (zI (D c)) f K C := fun hs => by
      rintro v rfl
      rw [show zI c + 1 = zI (c + 1) from zI_add c 1]
      exact hC _ ⟨c, some (D c), c + 1, rfl, by omega, by omega, hs, fun l h => by cases h; exact bD⟩ ms
    cases q with
    | none => exact ⟨fun _ => take hs, fun y => absurd (by decide) y⟩
    | some l =>
      have hl := hq l rfl
      have hs : (if D c < l then eLoop D (T.E t p - (c + 1)) (c + 1) c (some (D c)) else eLoop D (T.E t p - (c + 1)) (c + 1) b (some l)) = _ := hs
      refine ⟨fun y => absurd y (zI_neg (by omega)), fun _ => ⟨fun y => ?_, fun y => ?_⟩⟩
      · have y : zI l ≤ zI (D c) := y
        rw [zI_le (by omega) (by omega)] at y
        rw [if_neg (by omega)] at hs
        rintro v rfl
        rw [show zI c + 1 = zI (c + 1) from zI_add c 1]
        exact hC _ ⟨b, some l, c + 1, rfl, by omega, by omega, hs, hq⟩ ms
      · have y : ¬ zI l ≤ zI (D c) := y
        rw [zI_le (by omega) (by omega)] at y
        rw [if_pos (by omega)] at hs
        exact take hs
theorem Z2.s_X1_split54 {U : Tr} {ns : Nat} {S : Nat → Key} (H : TS zd f o 0 ad U.cap U.h U.n U.ks U.n U.vs ns S U.m U.E) (N : IN f o a (ad 6) cu U.c0 U.c1) (I : U.IM) (hm : U.m 0 ≤ 400) {t p c : Nat} (ht : t + 1 < U.h) (hp : p < U.m t) (b1 : 1 ≤ mc) (b2 : 2 * U.m t ≤ ms) {K : FT → Prop}
    (hK : ∀ f' o', TS zd f' o' 0 ad U.cap U.h U.n U.ks U.n U.vs ns S (stt U.m t (U.m t + 1)) (stt (stt U.E t (ins (U.E t) p c)) (t + 1) (addF (U.E (t + 1)) (U.par t p))) → IN f' o' a (ad 6) cu (U.c0 + 1) U.c1 → Fr RI f o f' o' → K f') : wp_X1_split_54 zd a (zI t) (zI p) (zI c) f mc ms K := by
  have hmt := I.m_le0 (t := t) (by omega)
  have h12 := H.h12
  obtain ⟨r, cr, Ir, lens, rd⟩ := H.tier (t := t) (by omega)
  have hle := Ir.le
  refine gA_i N.1 rfl ⟨H.is, rd _ ⟨mc, ms, Nat.le_refl _, Nat.le_refl _, Ir.is, s_X2_insert Ir (by omega) (by omega) _ (fun e => ⟨b1, by omega⟩) (fun f1 o1 I1 F1 => ?_)⟩⟩
  have H1 := lens f1 o1 (U.m t + 1) (ins (U.E t) p c) _ (I1.congr (fun q hq => by
    unfold ins
    split
    · rfl
    · split <;> rfl)) F1
  have N1 := N.fr F1 (by omega)
  have e1 : (stt U.E t (ins (U.E t) p c)) (t + 1) = U.E (t + 1) := stt_ne _ _ (by omega)
  have e2 : (stt U.m t (U.m t + 1)) (t + 1) = U.m (t + 1) := stt_ne _ _ (by omega)
  obtain ⟨r2, cr2, Ir2, lens2, rd2⟩ := H1.tier (t := t + 1) ht
  rw [e1, e2] at Ir2
  obtain ⟨q1, q2, q3⟩ := I.pr ht hp
  refine gA_i N1.1 rfl ⟨H1.is, ?_⟩
  rw [show zI t + 1 = zI (t + 1) from zI_add t 1]
  refine rd2 _ (gA_i N1.1 rfl ⟨H1.is, s_X7_parentOf H1 ht (by omega) (fun q hq => ?_) (fun q r h1 h2 => ?_) ⟨Ir2.is, ?_⟩⟩)
  · rw [e1]; rw [e2] at hq
    have := I.le_m ht hq; omega
  · rw [e1]; rw [e2] at h2
    exact I.high ht h1 h2
  · rw [e1, e2]
    show wp_X2_addFrom r2 (zI (U.par t p)) 1 f1 _
    have m4 := H1.m4 (t := t + 1) ht
    rw [e2] at m4
    refine s_X2_addFrom Ir2 (by omega) 1 (fun f2 I2 F2 => ?_)
    have H2 := lens2 f2 o1 (U.m (t + 1)) (addF (U.E (t + 1)) (U.par t p)) _ (I2.congr (fun q hq => by
      unfold addF
      by_cases z : U.par t p ≤ q
      · rw [if_pos z, if_pos z]; exact zI_add _ 1
      · rw [if_neg z, if_neg z])) F2
    have N2 := N1.fr F2 (by omega)
    refine gI_i N2.1 rfl (pV_g N2.1 (by simp) (fun f3 e3 n3 => ?_))
    have F3 : Fr (fun q => q = 301) f2 o1 f3 o1 := Fr.one N2.1 e3 N2.2 n3
    rw [show zI U.c0 + 1 = zI (U.c0 + 1) from zI_add _ 1] at e3
    refine hK f3 o1 ?_ ⟨e3, N2.2⟩ (((F1.mono (fun q hq => ?_)).trans (F2.mono (fun q hq => ?_))).trans (F3.mono (fun q hq => Or.inr hq)))
    · refine (H2.fr F3 (fun q hq z => by omega)).congr (fun u hu => ?_) (fun u hu q hq => rfl)
      by_cases z : u = t + 1
      · subst z; rw [stt_same, e2]
      · rw [stt_ne _ _ z]
    · have := H1.h12; left; omega
    · have := H1.h12; left; omega
theorem Z2.s_X1_split31 {U : Tr} (H : TT zd f o 0 ad U) (N : IN f o a (ad 6) cu U.c0 U.c1) (I : U.IM) (hm : U.m 0 ≤ 301) {t p c : Nat} (ht : t + 1 < U.h) (hp : p < U.m t) (h1 : st (U.E t) p < c) (h2 : c < U.E t p) (b1 : 4 ≤ mc) (b2 : (if t = 0 then 463 else 0) + 2 * U.m t ≤ ms) {K : FT → Prop}
    (hK : ∀ f' o', TT zd f' o' 0 ad (U.cutAt t p c) → IN f' o' a (ad 6) cu (U.cutAt t p c).c0 (U.cutAt t p c).c1 → Fr RI f o f' o' → K f') : wp_X1_split_31 zd a (zI t) (zI p) (zI c) f mc ms K := by
  have h12 := H.h12
  have hn := I.n3
  refine ⟨fun z => ?_, fun z => ?_⟩
  · have t0 : t ≠ 0 := fun y => z (by rw [y]; rfl)
    rw [if_neg t0] at b2
    refine s_X1_split54 H N I (by omega) ht hp (by omega) (by omega) (fun f' o' H' N' F' => hK f' o' ?_ N' F')
    have e : (U.cutAt t p c).m 0 - 1 = U.m 0 - 1 := by
      show stt U.m t (U.m t + 1) 0 - 1 = _
      rw [stt_ne _ _ (by omega)]
    have e2 : (U.cutAt t p c).S = U.S := if_neg t0
    unfold TT
    rw [e, e2]
    exact H'
  · rw [show (0 : Int32) = zI 0 from rfl, zI_inj (by omega) (by omega)] at z
    subst z
    rw [if_pos rfl] at b2
    obtain ⟨g1, g2, g3⟩ := TT.ends I (t := 0) (by omega) hp
    rw [if_pos rfl] at g2
    refine gA_i N.1 rfl (gA_i H.1 rfl (gA_i N.1 rfl ⟨2, 13, by omega, by omega, H.is, s_X7_shortest H (by omega) (by omega) (I.srt _ _ (by omega) (by omega)) (by omega) (by omega) (fun q f1 o1 K1 F1 => ?_)⟩))
    have H1 := H.fr F1 (fun _ _ z => z)
    have N1 := N.fr F1 (fun z => z)
    obtain ⟨cs, R1⟩ := H1.sepsR
    have hp1 : p ≤ U.m 0 - 1 := by omega
    refine ⟨1, 450, by omega, by omega, R1.o, s_X4_insert R1 K1 hp1 (by omega) (fun _ => Nat.le_refl _) (fun _ => by unfold ga; split <;> omega) (fun f2 o2 R2 F2 => ?_)⟩
    have H2 := H1.sepsW R2 F2
    have N2 := N1.fr F2 (by omega)
    refine s_X1_split54 (U := U) H2 N2 I (by omega) ht hp (by omega) (by omega) (fun f' o' H' N' F' => hK f' o' ?_ N' (((F1.mono (fun q hq => hq.elim)).trans (F2.mono (fun q hq => ?_))).trans F'))
    · have e : (U.cutAt 0 p c).m 0 - 1 = U.m 0 - 1 + 1 := by
        show stt U.m 0 (U.m 0 + 1) 0 - 1 = _
        rw [stt_same]; omega
      unfold TT
      rw [e]
      exact H'
    · left; omega
theorem Z2.s_X1_split (H : TT zd f o 0 ad T) (N : IN f o a (ad 6) cu T.c0 T.c1) (I : T.IM) (hm : T.m 0 ≤ 301) {t p : Nat} (ht : t < T.h) (hh : t + 1 = T.h → T.h ≤ 11) (hp : p < T.m t) (hf : st (T.E t) p + 2 ≤ T.E t p) (b1 : 7 ≤ mc) (b2 : 36 + (if t = 0 then 463 else 0) + 2 * T.m t ≤ ms) {K : FT → Prop}
    (hK : ∀ f' o', TT zd f' o' 0 ad (T.split t p) → IN f' o' a (ad 6) cu (T.split t p).c0 (T.split t p).c1 → Fr RI f o f' o' → K f') : wp_X1_split zd a (zI t) (zI p) f mc ms K := by
  have h12 := H.h12
  have hs := I.h1
  obtain ⟨c1, c2⟩ := Tr.IM.cutS_in hf
  have em := T.rise_m (t := t) ht
  have eE := T.rise_E (t := t) ht
  refine ⟨N.is, s_X1_evenCut H N I (by omega) ht hp hf (gA_i N.1 rfl (gI_i H.1 rfl ⟨fun z => ?_, fun z => ?_⟩))⟩
  · rw [show zI T.h - 1 = zI (T.h - 1) from zI_sub hs, zI_inj (by omega) (by omega)] at z
    have e : T.rise t = T := if_neg (by omega)
    unfold Tr.split at hK
    rw [e] at hK
    exact s_X1_split31 H N I hm (by omega) hp c1 c2 (by omega) (by omega) hK
  · rw [show zI T.h - 1 = zI (T.h - 1) from zI_sub hs, zI_inj (by omega) (by omega)] at z
    have hr : t + 1 = T.h := by omega
    have I2 := I.rise t
    refine gA_i N.1 rfl ⟨3, 36, by omega, by omega, H.is, s_X7_addTier H (by omega) (Nat.le_refl _) (Nat.le_refl _) (fun r f1 o1 H1 ra F1 => ?_)⟩
    have N1 := N.fr F1 (by omega)
    obtain ⟨cr, Ir, lens⟩ := H1.row ra (by omega)
    rw [stt_same] at Ir
    have hle := Ir.le
    refine ⟨0, 0, Nat.zero_le _, Nat.zero_le _, Ir.is, s_X2_append Ir (by omega) _ (fun e => by omega) (fun f2 o2 I2' F2 => ?_)⟩
    have H2 := lens f2 o2 1 (fun _ => 1) _ (I2'.congr (fun q hq => by
      have : q = 0 := by omega
      subst this
      rw [stt_same]; rfl)) F2
    have N2 := N1.fr F2 (by omega)
    have er : T.rise t = Tr.mk T.cap T.n T.ks T.vs (T.h + 1) (stt T.m (t + 1) 1) (stt T.E (t + 1) (fun _ => 1)) T.S T.c0 T.c1 T.c2 := if_pos hr
    have e0 : (stt T.m (t + 1) 1) 0 = T.m 0 := stt_ne _ _ (by omega)
    have H3 : TT zd f2 o2 0 ad (T.rise t) := by
      unfold TT
      rw [er]
      show TS zd f2 o2 0 ad T.cap (T.h + 1) T.n T.ks T.n T.vs ((stt T.m (t + 1) 1) 0 - 1) T.S (stt T.m (t + 1) 1) (stt T.E (t + 1) (fun _ => 1))
      rw [e0]
      refine H2.congr (fun u hu => ?_) (fun u hu q hq => ?_)
      · rw [hr]
        unfold stt
        split <;> rfl
      · rw [hr]
    have N3 : IN f2 o2 a (ad 6) cu (T.rise t).c0 (T.rise t).c1 := by rw [er]; exact N2
    refine s_X1_split31 H3 N3 I2 ?_ ?_ ?_ ?_ ?_ (by omega) ?_ (fun f' o' a b c => hK f' o' a b (((F1.mono (fun q hq => Or.inl hq)).trans (F2.mono (fun q hq => Or.inl (by omega)))).trans c))
    · rw [T.rise_m (show 0 < T.h by omega)]; omega
    · rw [er]; show t + 1 < T.h + 1; omega
    · rw [em]; exact hp
    · rw [eE]; exact c1
    · rw [eE]; exact c2
    · rw [em]; omega
end
