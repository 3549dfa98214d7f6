theorem Z2.sx_congr {E E' : Nat → Nat → Nat} : ∀ (t p : Nat), (∀ u, u ≤ t → E u = E' u) → sx E t p = sx E' t p := by
  intro t
  induction t with
  | zero => intro p _; rfl
  | succ t ih =>
    intro p h
    show sx E t (E (t + 1) p - 1) = sx E' t (E' (t + 1) p - 1)
    rw [h (t + 1) (Nat.le_refl _)]
    exact ih _ (fun u hu => h u (by omega))
def Z2.Tr.cup (T : Tr) : Tr := Tr.mk T.cap T.n T.ks T.vs (T.h + 1) (stt T.m T.h 1) (stt T.E T.h (fun _ => T.m (T.h - 1))) T.S T.c0 T.c1 T.c2
theorem Z2.Tr.LM.cup {T : Tr} (L : T.LM) : T.cup.IM := by
  have hh := L.h1
  have mt : ∀ u, u < T.h → stt T.m T.h 1 u = T.m u := fun u hu => stt_ne _ _ (by omega)
  have Et : ∀ u, u < T.h → stt T.E T.h (fun _ => T.m (T.h - 1)) u = T.E u := fun u hu => stt_ne _ _ (by omega)
  unfold Tr.cup
  refine (Tr.IM.mk (cap := L.cap) (n3 := L.n3) (vk := L.vk) (srt := L.srt) (h1 := Nat.le_add_left 1 _) (m1 := ?_) (top := ?_) (mono := ?_) (last := ?_) (strict := ?_) (one := ?_) (lastT := ?_) (svk := ?_) (ssrt := ?_) (sl := ?_) (sr := ?_)) <;> dsimp only [Tr.mk_cap, Tr.mk_n, Tr.mk_ks, Tr.mk_vs, Tr.mk_h, Tr.mk_m, Tr.mk_E, Tr.mk_S, Tr.mk_c0, Tr.mk_c1, Tr.mk_c2]
  · intro u hu
    by_cases g : u = T.h
    · rw [g, stt_same]; exact Nat.le_refl 1
    · rw [mt u (by omega)]; exact L.m1 u (by omega)
  · rw [mt 0 (by omega), Et 0 (by omega)]; exact L.mono
  · rw [mt 0 (by omega), Et 0 (by omega)]; exact L.last
  · intro u h1 hu i j hij hj
    by_cases g : u = T.h
    · rw [g, stt_same] at hj; omega
    · rw [mt u (by omega)] at hj; rw [Et u (by omega)]; exact L.strict u h1 (by omega) i j hij hj
  · intro u h1 hu
    by_cases g : u = T.h
    · rw [g, stt_same]; exact L.m1 _ (by omega)
    · rw [Et u (by omega)]; exact L.one u h1 (by omega)
  · intro u hu
    by_cases g : u + 1 = T.h
    · rw [g, stt_same, mt u (by omega), show T.h - 1 = u by omega]
    · rw [Et (u + 1) (by omega), mt (u + 1) (by omega), mt u (by omega)]; exact L.lastT u (by omega)
  · rw [show T.h + 1 - 1 = T.h by omega, stt_same]
  · rw [mt 0 (by omega)]; exact L.svk
  · rw [mt 0 (by omega)]; exact L.ssrt
  · rw [mt 0 (by omega), Et 0 (by omega)]; exact L.sl
  · rw [mt 0 (by omega), Et 0 (by omega)]; exact L.sr
section
variable {T : Z2.Tr}
theorem Z2.Tr.LM.cm (L : T.LM) {u : Nat} (hu : u < T.h) : T.cup.m u = T.m u := stt_ne T.m _ (by omega)
theorem Z2.Tr.LM.cE (L : T.LM) {u : Nat} (hu : u < T.h) : T.cup.E u = T.E u := stt_ne T.E _ (by omega)
theorem Z2.Tr.LM.csx (L : T.LM) {t p : Nat} (ht : t < T.h) : sx T.cup.E t p = sx T.E t p := sx_congr t p (fun u hu => L.cE (by omega))
theorem Z2.Tr.LM.E_pos (L : T.LM) {t i : Nat} (ht : t + 1 < T.h) (h : i < T.m (t + 1)) : i + 1 ≤ T.E (t + 1) i := by
  have := L.cup.E_pos (t := t) (i := i) (by show t + 1 < T.h + 1; omega) (by rw [L.cm ht]; exact h)
  rw [L.cE ht] at this; exact this
theorem Z2.Tr.LM.le_m (L : T.LM) {t i : Nat} (ht : t + 1 < T.h) (h : i < T.m (t + 1)) : T.E (t + 1) i ≤ T.m t := by
  have := L.cup.le_m (t := t) (i := i) (by show t + 1 < T.h + 1; omega) (by rw [L.cm ht]; exact h)
  rw [L.cE ht, L.cm (by omega)] at this; exact this
theorem Z2.Tr.LM.m_le0 (L : T.LM) {t : Nat} (ht : t < T.h) : T.m t ≤ T.m 0 := by
  have := L.cup.m_le0 (t := t) (by show t < T.h + 1; omega)
  rw [L.cm ht, L.cm (by omega)] at this; exact this
theorem Z2.Tr.LM.sx_in (L : T.LM) {t p : Nat} (ht : t < T.h) (hp : p + 1 < T.m t) : sx T.E t p + 1 < T.m 0 := by
  have := L.cup.sx_in (t := t) (p := p) (by show t < T.h + 1; omega) (by rw [L.cm ht]; exact hp)
  have h1 := L.h1
  rw [L.csx ht, L.cm (by omega)] at this; exact this
theorem Z2.Tr.LM.le_n (L : T.LM) {q : Nat} (hq : q < T.m 0) : T.E 0 q ≤ T.n := by
  have h1 := L.h1
  have := L.cup.le_n (i := q) (by rw [L.cm (by omega)]; exact hq)
  rw [L.cE (by omega)] at this; exact this
theorem Z2.Tr.LM.st_le (L : T.LM) {t q : Nat} (ht : t < T.h) (hq : q < T.m t) : st (T.E t) q ≤ T.E t q := by
  have := (TT.ends L.cup (t := t) (p := q) (by show t < T.h + 1; omega) (by rw [L.cm ht]; exact hq)).1
  rw [L.cE ht] at this; exact this
theorem Z2.Tr.LM.chn (L : T.LM) : ∀ (t p : Nat), t < T.h → p + 1 < T.m t → Z2.chn T.m T.E (T.m 0 - 1) t p := by
  intro t
  induction t with
  | zero => intro p ht hp; show p < T.m 0 - 1; omega
  | succ t ih =>
    intro p ht hp
    have h1 := L.E_pos ht (i := p) (by omega)
    have h2 := L.strict (t + 1) (by omega) ht p (p + 1) (by omega) hp
    have h3 := L.le_m ht hp
    exact ⟨by omega, by omega, ih _ (by omega) (by omega)⟩
theorem Z2.Tr.LM.halve (L : T.LM) {t : Nat} (ht : t + 1 < T.h) : 2 * T.m (t + 1) ≤ T.m t + 1 := by
  have h1 := L.m1 (t + 1) ht
  have hge : ∀ q, q + 1 < T.m (t + 1) → 2 * (q + 1) ≤ T.E (t + 1) q := by
    intro q
    induction q with
    | zero => intro h; have := L.two t ht 0 h; unfold st at this; rw [if_pos rfl] at this; omega
    | succ q ih => intro h; have := L.two t ht (q + 1) h; rw [st_succ] at this; have := ih (by omega); omega
  have hl := L.lastT t ht
  rcases Nat.lt_or_ge 1 (T.m (t + 1)) with g | g
  · have a := hge (T.m (t + 1) - 2) (by omega)
    have b := L.strict (t + 1) (by omega) ht (T.m (t + 1) - 2) (T.m (t + 1) - 1) (by omega) (by omega)
    omega
  · have := L.m1 t (by omega); omega
theorem Z2.Tr.LM.h10 (L : T.LM) (hm : T.m 0 ≤ 301) : T.h ≤ 10 := by
  have h1 := L.h1
  have key : ∀ j, j + 2 ≤ T.h → 2 ^ j + 1 ≤ T.m (T.h - 2 - j) := by
    intro j
    induction j with
    | zero => intro h; have := L.more (T.h - 2) (by omega); show 1 + 1 ≤ T.m (T.h - 2); omega
    | succ j ih =>
      intro h
      have a := ih (by omega)
      have b := L.halve (t := T.h - 2 - (j + 1)) (by omega)
      rw [show T.h - 2 - (j + 1) + 1 = T.h - 2 - j by omega] at b
      rw [Nat.pow_succ]; omega
  rcases Nat.lt_or_ge 10 T.h with g | g
  · have a := key 9 (by omega)
    have b := L.m_le0 (t := T.h - 2 - 9) (by omega)
    have : 2 ^ 9 = 512 := rfl
    omega
  · exact g
end
section
variable {zd : Nat} {f f' : FT} {o o' : Z2.OW} {ad : Nat → Nat} {cap t nk nv ns : Nat} {ks : Nat → Z2.Key} {vs : Nat → Int32} {S : Nat → Z2.Key} {m : Nat → Nat} {E : Nat → Nat → Nat}
theorem Z2.s_X5_stackTier (H : TS zd f o 0 ad cap t nk ks nv vs ns S m E) {F : Nat → Nat → Nat} {total least limit mc ms a0 : Nat} (ht : t < 12) (hl : 1 ≤ least) (hl2 : least < 10) (hlim : limit < 10000) (htot : total ≤ 301) (hF : ∀ a b, a < b → b ≤ total → F a b < 100000)
    (hsp : ∀ f1 o1 c e, TS zd f1 o1 0 ad cap (t + 1) nk ks nv vs ns S (stt m t c) (stt E t e) → ∀ (a b : Nat) (K : Int32 → Prop), a < b → b ≤ total → K (zI (F a b)) → wp_X7_spanBytes (ad 6) (zI t) (zI a) (zI b) f1 K)
    (b1 : 9 ≤ mc) (b2 : 40 + 4 * total ≤ ms) {K : FT → Prop} (hK : ∀ f' o' c' e', stk F least limit total 0 0 0 (E t) = (c', e') → TS zd f' o' 0 ad cap (t + 1) nk ks nv vs ns S (stt m t c') (stt E t e') → Fr (fun q => q / 100 = 0) f o f' o' → K f') : wp_X5_stackTier zd a0 (ad 6) (zI total) (zI least) (zI limit) f mc ms K := by
  refine gI_i H.1 rfl ⟨3, 36, by omega, by omega, H.is, s_X7_addTier H ht (Nat.le_refl _) (Nat.le_refl _) (fun r f1 o1 H1 ra1 F1 => ?_)⟩
  have H1 : TS zd f1 o1 0 ad cap (t + 1) nk ks nv vs ns S (stt m t 0) (stt E t (E t)) := H1.congr (fun u hu => rfl) (fun u hu p hp => by rw [stt_self])
  obtain ⟨c1, I1, -⟩ := H1.row ra1 (by omega)
  rw [stt_same, stt_same] at I1
  have hle1 := I1.le
  refine loopW_of (fun s => ∃ st0 i f2 o2 c e c2 bc bs, s = (zI st0, zI i, f2, bc, bs) ∧ TS zd f2 o2 0 ad cap (t + 1) nk ks nv vs ns S (stt m t c) (stt E t e) ∧ RA zd f2 o2 0 ad t r ∧ IR f2 o2 (100 * 0 + 10 + t) r c (fun p => zI (e p)) c2 ∧ st0 ≤ i ∧ i ≤ total ∧ c ≤ i ∧ stk F least limit (total - i) i st0 c e = stk F least limit total 0 0 0 (E t) ∧ Fr (fun q => q / 100 = 0) f o f2 o2 ∧ total + 1 ≤ c2 * 2 ^ bc ∧ (c2 < total + 1 → 4 * (total + 1) ≤ bs + 2 * c2)) (fun s => 400 - s.2.1.toNatClampNeg) ?_ _ ⟨0, 0, f1, o1, 0, E t, c1, mc - 3, ms - 36, rfl, H1, ra1, I1, Nat.le_refl _, Nat.zero_le _, Nat.le_refl _, rfl, F1, ?_, fun _ => by omega⟩
  · rintro C s ⟨st0, i, f2, o2, c, e, c2, bc, bs, rfl, H2, ra2, I2, h1, h2, h3, hs, F2, g1, g2⟩ hC
    have hle := I2.le
    have hn := I2.le
    obtain ⟨-, -, lens⟩ := H2.row ra2 (by omega)
    -- one more page ends
    have app : ∀ (v : Nat) {P : FT → Prop} {ga gb : Nat}, ga = (if c = c2 then 1 else 0) → gb = (if c = c2 then c2 + c2 else 0) → (∀ f3 o3 c3, TS zd f3 o3 0 ad cap (t + 1) nk ks nv vs ns S (stt m t (c + 1)) (stt E t (stt e c v)) → RA zd f3 o3 0 ad t r → IR f3 o3 (100 * 0 + 10 + t) r (c + 1) (fun p => zI (stt e c v p)) c3 → Fr (fun q => q / 100 = 0) f o f3 o3 → c3 = gr c c2 → P f3) → wp_X2_append r (zI v) f2 ga gb P := fun v P ga gb e1 e2 hP => by
      refine s_X2_append I2 (by omega) _ (fun z => ?_) (fun f3 o3 I3 F3 => ?_)
      · rw [e1, e2, if_pos z, if_pos z]; exact ⟨Nat.le_refl _, Nat.le_refl _⟩
      · have I3' := I3.congr (l' := fun p => zI (stt e c v p)) (fun p hp => by unfold stt; split <;> rfl)
        refine hP f3 o3 _ ?_ (ra2.fr F3 (by omega)) I3' (F2.trans (F3.mono (fun q hq => by omega))) rfl
        have := lens f3 o3 _ _ _ I3' F3
        refine this.congr (fun u hu => ?_) (fun u hu p hp => ?_)
        · unfold stt; split <;> rfl
        · unfold stt; split <;> rfl
    have bud : (if c = c2 then 1 else 0) ≤ bc ∧ (if c = c2 then c2 + c2 else 0) ≤ bs := by
      by_cases z : c = c2
      · rw [if_pos z, if_pos z]
        have := g2 (by omega)
        refine ⟨?_, by omega⟩
        rcases Nat.eq_zero_or_pos bc with y | y
        · rw [y, Nat.pow_zero, Nat.mul_one] at g1; omega
        · exact y
      · rw [if_neg z, if_neg z]; exact ⟨Nat.zero_le _, Nat.zero_le _⟩
    have bud2 : total + 1 ≤ gr c c2 * 2 ^ (bc - (if c = c2 then 1 else 0)) ∧ (gr c c2 < total + 1 → 4 * (total + 1) ≤ bs - (if c = c2 then c2 + c2 else 0) + 2 * gr c c2) := by
      unfold gr
      by_cases z : c = c2
      · rw [if_pos z, if_pos z, if_pos z]
        have b := bud.1
        rw [if_pos z] at b
        have := g2 (by omega)
        refine ⟨?_, fun _ => by omega⟩
        have e : 2 ^ bc = 2 * 2 ^ (bc - 1) := by
          obtain ⟨y, hy⟩ : ∃ y, bc = y + 1 := ⟨bc - 1, by omega⟩
          rw [hy, Nat.add_sub_cancel, Nat.pow_succ]; omega
        rw [e] at g1
        calc total + 1 ≤ c2 * (2 * 2 ^ (bc - 1)) := g1
          _ = (c2 + c2) * 2 ^ (bc - 1) := by rw [← Nat.mul_assoc, Nat.mul_two]
      · rw [if_neg z, if_neg z, if_neg z, Nat.sub_zero, Nat.sub_zero]; exact ⟨g1, g2⟩
    refine ⟨fun z => ?_, fun z => ?_⟩
    · rw [zI_le (by omega) (by omega)] at z
      have ei : i = total := by omega
      subst ei
      rw [Nat.sub_self] at hs
      have hs : (c + 1, stt e c i) = _ := hs
      exact ⟨_, _, bud.1, bud.2, I2.is, app i rfl rfl (fun f3 o3 c3 H3 ra3 I3 F3 _ => hK f3 o3 _ _ hs.symm H3 F3)⟩
    · rw [zI_le (by omega) (by omega)] at z
      have en : total - i = (total - (i + 1)) + 1 := by omega
      rw [en] at hs
      have hs : (if least ≤ i - st0 ∧ limit < F st0 (i + 1) then stk F least limit (total - (i + 1)) (i + 1) i (c + 1) (stt e c i) else stk F least limit (total - (i + 1)) (i + 1) st0 c e) = _ := hs
      rw [zI_sub h1]
      have hlt : 400 - (zI (i + 1)).toNatClampNeg < 400 - (zI i).toNatClampNeg := by rw [zI_clamp (by omega), zI_clamp (by omega)]; omega
      have same : ¬ (least ≤ i - st0 ∧ limit < F st0 (i + 1)) → wp_X5_stackTier_61 zd (ad 6) (zI total) (zI least) (zI limit) (zI t) r (zI st0) (zI i) f2 bc bs K C := fun y => by
        rintro v rfl
        rw [show zI i + 1 = zI (i + 1) from zI_add i 1]
        rw [if_neg y] at hs
        exact hC _ ⟨st0, i + 1, f2, o2, c, e, c2, bc, bs, rfl, H2, ra2, I2, by omega, by omega, by omega, hs, F2, g1, g2⟩ hlt
      refine ⟨fun y => ?_, fun y => ⟨H2.is, ?_⟩⟩
      · rw [zI_lt (by omega) (by omega)] at y
        exact same (fun x => by omega)
      · rw [zI_lt (by omega) (by omega)] at y
        have hFb := hF st0 (i + 1) (by omega) (by omega)
        rw [show zI i + 1 = zI (i + 1) from zI_add i 1]
        refine hsp f2 o2 c e H2 st0 (i + 1) _ (by omega) (by omega) ⟨fun x => ?_, fun x => ?_⟩
        · rw [zI_le (by omega) (by omega)] at x
          exact same (fun w => by omega)
        · rw [zI_le (by omega) (by omega)] at x
          rw [if_pos ⟨by omega, by omega⟩] at hs
          refine ⟨_, _, bud.1, bud.2, I2.is, app i rfl rfl (fun f3 o3 c3 H3 ra3 I3 F3 e3 => ?_)⟩
          rintro v rfl
          rw [show zI i + 1 = zI (i + 1) from zI_add i 1]
          subst e3
          exact hC _ ⟨i, i + 1, f3, o3, c + 1, _, _, _, _, rfl, H3, ra3, I3, by omega, by omega, by omega, hs, F3, bud2.1, bud2.2⟩ hlt
  · have : 2 ^ 5 ≤ 2 ^ (mc - 3) := Nat.pow_le_pow_right (by omega) (by omega)
    have e5 : 2 ^ 5 = 32 := rfl
    calc total + 1 ≤ 16 * 32 := by omega
      _ ≤ c1 * 2 ^ (mc - 3) := Nat.mul_le_mul (by omega) (by omega)
end
