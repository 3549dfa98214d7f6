/-! the reference: lays, load -/
section
variable {n : Nat → Int32} {g : Nat → Nat → Int32} {T : Z2.Tr}
theorem Z2.s9_lastLeafL (M : MT n g T) (L : T.LM) (hm4 : T.m 0 ≤ 400) (hh : T.h ≤ 12) {t p : Nat} (ht : t < T.h) (hp : p < T.m t) {K : Int32 → Prop} (hK : K (zI (sx T.E t p))) : wp_X9_lastLeaf (zI t) (zI p) n g K := by
  have hm : T.m t ≤ 400 := Nat.le_trans (L.m_le0 ht) hm4
  rintro v rfl
  rw [show zI p + 1 = zI (p + 1) from zI_add p 1]
  refine loopW_of (fun s => ∃ q u, s = (zI (q + 1), zI u) ∧ u ≤ t ∧ q < T.m u ∧ sx T.E u q = sx T.E t p) (fun s => s.2.toNatClampNeg) ?_ _ ⟨p, t, rfl, Nat.le_refl _, hp, rfl⟩
  rintro C s ⟨q, u, rfl, hu, hq, he⟩ hC
  refine ⟨fun z => ?_, fun z => ?_⟩
  · rw [show (0 : Int32) = zI 0 from rfl, zI_le (by omega) (by omega)] at z
    have : u = 0 := by omega
    subst this
    rw [show zI (q + 1) - 1 = zI q from zI_sub (show 1 ≤ q + 1 by omega)]
    have he : q = sx T.E t p := he
    rw [he]; exact hK
  · rw [show (0 : Int32) = zI 0 from rfl, zI_le (by omega) (by omega)] at z
    obtain ⟨u, rfl⟩ : ∃ v, u = v + 1 := ⟨u - 1, by omega⟩
    have h1 := L.E_pos (t := u) (by omega) hq
    have h2 := L.le_m (t := u) (by omega) hq
    refine s9_firstOfG M (t := u + 1) (by omega) hh (Nat.le_trans (L.m_le0 (by omega)) hm4) (fun q hq => L.st_le (by omega) hq) (by omega) ?_
    rintro v rfl
    rw [st_succ, zI_pred (by omega), Nat.add_sub_cancel]
    refine hC _ ⟨T.E (u + 1) q - 1, u, ?_, by omega, by omega, he⟩ ?_
    · rw [show T.E (u + 1) q - 1 + 1 = T.E (u + 1) q by omega]
    · show (zI u).toNatClampNeg < (zI (u + 1)).toNatClampNeg
      rw [zI_clamp (by omega), zI_clamp (by omega)]; omega
theorem Z2.s9_innerSizeL (M : MT n g T) (L : T.LM) (hm4 : T.m 0 ≤ 400) (hh : T.h ≤ 12) {t a c : Nat} (ht : t < T.h) (h1 : 1 ≤ c) (hc : a + c ≤ T.m t) {K : Int32 → Prop} (hK : K (zI (8 + 4 * c + cbi 3 (fun j => T.S (sx T.E t j)) (c - 1) a []))) : wp_X9_innerSize (zI t) (zI a) (zI c) n g K := by
  have hm : T.m t ≤ 400 := Nat.le_trans (L.m_le0 ht) hm4
  have hsx : ∀ j, j + 1 < T.m t → sx T.E t j + 1 < T.m 0 := fun j hj => L.sx_in ht hj
  have hl := cbi_le (f := 3) (k := fun j => T.S (sx T.E t j)) (c - 1) a [] (fun j h1 h2 => (L.svk _ (hsx j (by omega))).1)
  generalize hT : 8 + 4 * c + cbi 3 (fun j => T.S (sx T.E t j)) (c - 1) a [] = tot at hK
  rintro v rfl
  rw [show (4 : Int32) = zI 4 from rfl, zI_mul, show (8 : Int32) = zI 8 from rfl, zI_add]
  refine loopW_of (fun s => ∃ acc k, s = (zI acc, if k = a then (-1 : Int32) else zI (sx T.E t (k - 1)), zI k) ∧ a ≤ k ∧ k + 1 ≤ a + c ∧ acc + cbi 3 (fun j => T.S (sx T.E t j)) (a + c - 1 - k) k (if k = a then [] else T.S (sx T.E t (k - 1))) = tot) (fun s => 500 - s.2.2.toNatClampNeg) ?_ _ ⟨_, a, by rw [if_pos rfl], Nat.le_refl _, by omega, by rw [if_pos rfl, show a + c - 1 - a = c - 1 by omega]; exact hT⟩
  rintro C s ⟨acc, k, rfl, k1, k2, hs⟩ hC
  show (zI a + zI c - 1 ≤ zI k → K (zI acc)) ∧ (¬ (zI a + zI c - 1 ≤ zI k) → _)
  rw [show zI a + zI c = zI (a + c) from zI_add a c, show zI (a + c) - 1 = zI (a + c - 1) from zI_sub (show 1 ≤ a + c by omega)]
  refine ⟨fun z => ?_, fun z => ?_⟩
  · rw [zI_le (by omega) (by omega)] at z
    rw [show a + c - 1 - k = 0 by omega] at hs
    have hs : acc + 0 = tot := hs
    rw [show acc = tot by omega]; exact hK
  · rw [zI_le (by omega) (by omega)] at z
    have en : a + c - 1 - k = (a + c - 1 - (k + 1)) + 1 := by omega
    rw [en] at hs
    have hs : acc + (3 + ((T.S (sx T.E t k)).length - sh (T.S (sx T.E t k)) (if k = a then [] else T.S (sx T.E t (k - 1)))) + cbi 3 (fun j => T.S (sx T.E t j)) (a + c - 1 - (k + 1)) (k + 1) (T.S (sx T.E t k))) = tot := hs
    have sk := hsx k (by omega)
    have ek : g 16 (sx T.E t k) = zI (T.S (sx T.E t k)).length := M.ss _ sk
    refine s9_lastLeafL M L hm4 hh ht (by omega) ?_
    have fin : ∀ z0 : Int32, z0 = zI (sh (T.S (sx T.E t k)) (if k = a then [] else T.S (sx T.E t (k - 1)))) → wp_X9_innerSize_78 (zI t) (zI a) (zI c) (zI acc) (zI k) (zI (sx T.E t k)) z0 n g K C := fun z0 e0 => by
      have := sh_le_left (T.S (sx T.E t k)) (if k = a then [] else T.S (sx T.E t (k - 1)))
      refine rd (show sx T.E t k < 400 by omega) (by decide) ?_
      rintro v rfl w rfl
      rw [ek, e0, show (3 : Int32) = zI 3 from rfl, zI_add, zI_sub (by omega), zI_add, show zI k + 1 = zI (k + 1) from zI_add k 1]
      refine hC _ ⟨_, k + 1, by rw [if_neg (show ¬ k + 1 = a by omega), Nat.add_sub_cancel], by omega, by omega, ?_⟩ ?_
      · rw [if_neg (show ¬ k + 1 = a by omega), Nat.add_sub_cancel]; omega
      · show 500 - (zI (k + 1)).toNatClampNeg < 500 - (zI k).toNatClampNeg
        rw [zI_clamp (by omega), zI_clamp (by omega)]; omega
    by_cases y : k = a
    · rw [if_pos y]
      refine ⟨fun x => absurd rfl x, fun _ => fin 0 ?_⟩
      rw [if_pos y, sh_nil]; rfl
    · rw [if_neg y]
      have sk1 := hsx (k - 1) (by omega)
      have ek1 : g 16 (sx T.E t (k - 1)) = zI (T.S (sx T.E t (k - 1))).length := M.ss _ sk1
      refine ⟨fun _ => ?_, fun x => ?_⟩
      · refine rd (show sx T.E t (k - 1) < 400 by omega) (by decide) (rd (show sx T.E t k < 400 by omega) (by decide) ?_)
        rw [ek, ek1, k12, k12]
        have v1 := (L.svk _ sk1).1
        have v2 := (L.svk _ sk).1
        refine s9_shared (M.sb _ sk1) (M.sb _ sk) v1 v2 (by decide) (by decide) (show 12 * sx T.E t (k - 1) + _ ≤ 4800 by omega) (show 12 * sx T.E t k + _ ≤ 4800 by omega) (by omega) (by omega) (fin _ ?_)
        rw [if_neg y, sh_comm]
      · exact absurd x (fun x => by
          have := congrArg Int32.toInt x
          rw [zI_toInt (by omega)] at this
          have e1 : (-1 : Int32).toInt = -1 := rfl
          omega)
/-- what lays leaves: c pages of tier t, ending at e -/
def Z2.LyP (g g' : Nat → Nat → Int32) (t c : Nat) (e : Nat → Nat) : Prop := g' 14 = upd (g 14) t (zI c) ∧ (∀ q, q < c → g' 15 (400 * t + q) = zI (e q - st e q)) ∧ (∀ x, ¬ (400 * t ≤ x ∧ x < 400 * t + 400) → g' 15 x = g 15 x) ∧ ∀ k, k ≠ 14 → k ≠ 15 → g' k = g k
theorem Z2.s9_lays {F : Nat → Nat → Nat} {t total limit : Nat} (ht : t < 12) (htot : total ≤ 400) (hlim : limit < 10000) (hF : ∀ a b, a < b → b ≤ total → F a b < 100000)
    (hsp : ∀ g1, (∀ k, k ≠ 14 → k ≠ 15 → g1 k = g k) → (∀ u, u ≠ t → g1 14 u = g 14 u) → (∀ x, ¬ (400 * t ≤ x ∧ x < 400 * t + 400) → g1 15 x = g 15 x) → ∀ (a c : Nat) (K : Int32 → Prop), 1 ≤ c → a + c ≤ total → K (zI (F a (a + c))) → wp_X9_partSize (zI t) (zI a) (zI c) n g1 K)
    {e0 : Nat → Nat} {K : (Nat → Int32) → (Nat → Nat → Int32) → Prop} (hK0 : total = 0 → K n (mup g 14 t 0)) (hK : ∀ g' c e, 0 < total → stk F (if t = 0 then 1 else 2) limit total 0 0 0 e0 = (c, e) → LyP g g' t c e → K n g') : wp_X9_lays (zI t) (zI total) (zI limit) n g K := by
  generalize hL : (if t = 0 then 1 else 2) = least at hK
  have hl1 : 1 ≤ least ∧ least ≤ 2 := by rw [← hL]; split <;> omega
  refine wr (show t < 12 from ht) (by decide) ?_
  rcases Nat.eq_zero_or_pos total with z0 | hpos
  · subst z0
    refine loopW_of (fun s => s = (zI 0, n, mup g 14 t 0)) (fun _ => 0) ?_ _ rfl
    rintro C s rfl hC
    exact ⟨fun _ => hK0 rfl, fun z => absurd (by decide) z⟩
  refine loopW_of (fun s => ∃ s0 g1 c e, s = (zI s0, n, g1) ∧ s0 ≤ total ∧ c ≤ s0 ∧ st e c = s0 ∧ LyP g g1 t c e ∧ (s0 < total → stk F least limit (total - s0) s0 s0 c e = stk F least limit total 0 0 0 e0) ∧ (s0 = total → (c, e) = stk F least limit total 0 0 0 e0)) (fun s => 400 - s.1.toNatClampNeg) ?_ _ ⟨0, _, 0, e0, rfl, Nat.zero_le _, Nat.le_refl _, rfl, ⟨mup_same _ _ _ _, fun q hq => absurd hq (Nat.not_lt_zero q), fun x _ => by rw [mup_ne _ _ _ (by decide)], fun k a b => mup_ne _ _ _ a⟩, fun _ => rfl, fun h => by omega⟩
  rintro C s ⟨s0, g1, c, e, rfl, h1, h2, h3, P, h4, h5⟩ hC
  obtain ⟨p1, p2, p3, p4⟩ := P
  refine ⟨fun z => ?_, fun z => ?_⟩
  · rw [zI_le (by omega) (by omega)] at z
    exact hK g1 c e hpos (h5 (by omega)).symm ⟨p1, p2, p3, p4⟩
  · rw [zI_le (by omega) (by omega)] at z
    have h4 := h4 (by omega)
    -- a page ends at i
    have fin : ∀ (k : Nat) {y6 : Int32}, 1 ≤ k → s0 + k ≤ total → (s0 + k < total → stk F least limit (total - (s0 + k)) (s0 + k) (s0 + k) (c + 1) (stt e c (s0 + k)) = stk F least limit total 0 0 0 e0) → (s0 + k = total → (c + 1, stt e c (s0 + k)) = stk F least limit total 0 0 0 e0) → wp_X9_lays_67 (zI t) (zI total) (zI limit) (zI s0) (zI k) n g1 K C := fun k _ k1 k2 k3 k4 => by
      refine rd (show t < 12 from ht) (by decide) ?_
      have e14 : g1 14 t = zI c := by rw [p1, upd_same]
      rw [e14]
      show vp_in ((400 : Int32) * zI t + zI c) (mlen 15) ∧ _
      rw [at_eq]
      refine wr (show 400 * t + c < 4800 by omega) (by decide) (rd (show t < 12 from ht) (by decide) ?_)
      rw [mup_ne _ _ _ (by decide), e14]
      refine wr (show t < 12 from ht) (by decide) ?_
      rintro v rfl
      rw [show zI c + 1 = zI (c + 1) from zI_add c 1, zI_add]
      refine hC _ ⟨s0 + k, _, c + 1, stt e c (s0 + k), rfl, k2, by omega, ?_, ⟨?_, fun q hq => ?_, fun x hx => ?_, fun k a b => ?_⟩, k3, k4⟩ ?_
      · unfold st; rw [if_neg (by omega), Nat.add_sub_cancel, stt_same]
      · rw [mup_same, mup_ne _ _ _ (by decide), p1]
        funext u
        unfold upd; split <;> rfl
      · rw [mup_ne _ _ _ (by decide), mup_same]
        have est : st (stt e c (s0 + k)) q = st e q := by
          unfold st; split
          · rfl
          · rw [stt_ne _ _ (by omega)]
        rw [est]
        by_cases y : q = c
        · rw [y, upd_same, stt_same, h3, show s0 + k - s0 = k by omega]
        · rw [upd_ne _ _ (by omega), stt_ne _ _ y]; exact p2 q (by omega)
      · rw [mup_ne _ _ _ (by decide), mup_same, upd_ne _ _ (by omega)]; exact p3 x hx
      · rw [mup_ne _ _ _ a, mup_ne _ _ _ b]; exact p4 k a b
      · show 400 - (zI (s0 + k)).toNatClampNeg < 400 - (zI s0).toNatClampNeg
        rw [zI_clamp (by omega), zI_clamp (by omega)]; omega
    have inner : wp_X9_lays_28 (zI t) (zI total) (zI limit) (zI s0) 0 (zI least) n g1 K C := by
      refine loopW_of (fun s => ∃ k, s = (zI k, n, g1) ∧ s0 + k ≤ total ∧ stk F least limit (total - (s0 + k)) (s0 + k) s0 c e = stk F least limit total 0 0 0 e0) (fun s => 500 - s.1.toNatClampNeg) ?_ _ ⟨0, rfl, by omega, h4⟩
      rintro C2 s ⟨k, rfl, k1, k2⟩ hC2
      have step : s0 + k < total → stk F least limit (total - (s0 + (k + 1))) (s0 + (k + 1)) s0 c e = stk F least limit total 0 0 0 e0 → wp_X9_lays_61 (zI t) (zI total) (zI limit) (zI s0) (zI least) (zI k) n g1 K C C2 := fun a b => by
        rintro v rfl
        rw [show zI k + 1 = zI (k + 1) from zI_add k 1]
        refine hC2 _ ⟨k + 1, rfl, by omega, b⟩ ?_
        show 500 - (zI (k + 1)).toNatClampNeg < 500 - (zI k).toNatClampNeg
        rw [zI_clamp (by omega), zI_clamp (by omega)]; omega
      show (zI total ≤ zI s0 + zI k → _) ∧ (¬ (zI total ≤ zI s0 + zI k) → _)
      rw [zI_add s0 k]
      refine ⟨fun y => ?_, fun y => ?_⟩
      · rw [zI_le (by omega) (by omega)] at y
        have ek : s0 + k = total := by omega
        rw [ek, Nat.sub_self] at k2
        have k2 : (c + 1, stt e c total) = _ := k2
        exact fin k (y6 := 0) (by omega) k1 (fun h => by omega) (fun _ => by rw [ek]; exact k2)
      · rw [zI_le (by omega) (by omega)] at y
        have en : total - (s0 + k) = (total - (s0 + (k + 1))) + 1 := by omega
        rw [en] at k2
        have k2 : (if least ≤ s0 + k - s0 ∧ limit < F s0 (s0 + k + 1) then stk F least limit (total - (s0 + (k + 1))) (s0 + k + 1) (s0 + k) (c + 1) (stt e c (s0 + k)) else stk F least limit (total - (s0 + (k + 1))) (s0 + k + 1) s0 c e) = _ := k2
        refine ⟨fun x => ?_, fun x => ?_⟩
        · rw [zI_lt (by omega) (by omega)] at x
          rw [if_neg (by omega)] at k2
          exact step (by omega) k2
        · rw [zI_lt (by omega) (by omega)] at x
          rw [show zI k + 1 = zI (k + 1) from zI_add k 1]
          have hFb := hF s0 (s0 + (k + 1)) (by omega) (by omega)
          refine hsp g1 p4 (fun u hu => by rw [p1, upd_ne _ _ hu]) p3 s0 (k + 1) _ (by omega) (by omega) ⟨fun w => ?_, fun w => ?_⟩
          · rw [zI_lt (by omega) (by omega)] at w
            rw [if_pos ⟨by omega, by rw [show s0 + k + 1 = s0 + (k + 1) by omega]; exact w⟩] at k2
            refine fin k (y6 := 0) (by omega) k1 (fun h => ?_) (fun h => by omega)
            rw [en]
            show (if least ≤ s0 + k - (s0 + k) ∧ limit < F (s0 + k) (s0 + k + 1) then _ else stk F least limit (total - (s0 + (k + 1))) (s0 + k + 1) (s0 + k) (c + 1) (stt e c (s0 + k))) = _
            rw [if_neg (by omega)]; exact k2
          · rw [zI_lt (by omega) (by omega)] at w
            rw [if_neg (fun v => w (by rw [show s0 + (k + 1) = s0 + k + 1 by omega]; exact v.2))] at k2
            exact step (by omega) k2
    refine ⟨fun y => ?_, fun y => ?_⟩
    · have t0 : t ≠ 0 := fun x => y (by rw [x]; rfl)
      rw [if_neg t0] at hL
      subst hL
      exact inner
    · rw [show (0 : Int32) = zI 0 from rfl, zI_inj (by omega) (by omega)] at y
      rw [if_pos y] at hL
      subst hL
      exact inner
theorem Z2.s9_pages (M : MT n g T) (hh : T.h ≤ 12) {K : Int32 → Prop} (hK : K (zI (sumTo T.m T.h))) : wp_X9_pages n g K := by
  have eh : n 13 = zI T.h := M.ch
  refine loopW_of (fun s => ∃ t, s = (zI (sumTo T.m t), zI t) ∧ t ≤ T.h) (fun s => 20 - s.2.toNatClampNeg) ?_ _ ⟨0, rfl, Nat.zero_le _⟩
  rintro C s ⟨t, rfl, ht⟩ hC
  refine ⟨fun z => ?_, fun z => ?_⟩
  · rw [eh, zI_le (by omega) (by omega)] at z
    rw [show t = T.h by omega]; exact hK
  · rw [eh, zI_le (by omega) (by omega)] at z
    refine rd (show t < 12 by omega) (by decide) ?_
    rw [show g 14 t = zI (T.m t) from M.m t (by omega), zI_add]
    rintro v rfl w rfl
    rw [show zI t + 1 = zI (t + 1) from zI_add t 1]
    refine hC _ ⟨t + 1, rfl, by omega⟩ ?_
    show 20 - (zI (t + 1)).toNatClampNeg < 20 - (zI t).toNatClampNeg
    rw [zI_clamp (by omega), zI_clamp (by omega)]; omega
theorem Z2.s9_closesAll {K : (Nat → Int32) → (Nat → Nat → Int32) → Prop} (hK : ∀ g', (∀ k, k ≠ 18 → g' k = g k) → (∀ i, i < 4 → g' 18 i = -2) → K n g') : wp_X9_closesAll n g K := by
  refine loopW_of (fun s => ∃ j g1, s = (zI j, n, g1) ∧ j ≤ 4 ∧ (∀ k, k ≠ 18 → g1 k = g k) ∧ ∀ i, i < j → g1 18 i = -2) (fun s => 20 - s.1.toNatClampNeg) ?_ _ ⟨0, g, rfl, Nat.zero_le _, fun _ _ => rfl, fun i hi => absurd hi (Nat.not_lt_zero i)⟩
  rintro C s ⟨j, g1, rfl, hj, p1, p2⟩ hC
  refine ⟨fun z => ?_, fun z => ?_⟩
  · rw [show (4 : Int32) = zI 4 from rfl, zI_le (by omega) (by omega)] at z
    exact hK g1 p1 (fun i hi => p2 i (by omega))
  · rw [show (4 : Int32) = zI 4 from rfl, zI_le (by omega) (by omega)] at z
    refine wr (show j < 4 by omega) (by decide) ?_
    rintro v rfl
    rw [show zI j + 1 = zI (j + 1) from zI_add j 1]
    refine hC _ ⟨j + 1, _, rfl, by omega, fun k hk => by rw [mup_ne _ _ _ hk]; exact p1 k hk, fun i hi => ?_⟩ ?_
    · rw [mup_same]
      by_cases y : i = j
      · rw [y, upd_same]
      · rw [upd_ne _ _ y]; exact p2 i (by omega)
    · show 20 - (zI (j + 1)).toNatClampNeg < 20 - (zI j).toNatClampNeg
      rw [zI_clamp (by omega), zI_clamp (by omega)]; omega
end
