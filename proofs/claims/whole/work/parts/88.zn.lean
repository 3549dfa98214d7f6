/-! the reference, read -/
theorem Z2.at_eq (t q : Nat) : (400 : Int32) * zI t + zI q = zI (400 * t + q) := by rw [show (400 : Int32) * zI t = zI (400 * t) from zI_mul 400 t, zI_add]
theorem Z2.k12 (i : Nat) : (12 : Int32) * zI i = zI (12 * i) := zI_mul 12 i
theorem Z2.rd {g : Nat → Nat → Int32} {k i N : Nat} {P : Int32 → Prop} (hi : i < N) (hb : N ≤ 10000) (hP : P (g k i)) : vp_in (zI i) N ∧ ∀ v : Int32, v = g k (zI i).toNatClampNeg → P v := ⟨in_i hi (by omega), fun v e => by rw [e, zI_clamp (by omega)]; exact hP⟩
theorem Z2.wr {g : Nat → Nat → Int32} {k i N : Nat} {v : Int32} {P : (Nat → Nat → Int32) → Prop} (hi : i < N) (hb : N ≤ 10000) (hP : P (mup g k i v)) : vp_in (zI i) N ∧ ∀ g' : Nat → Nat → Int32, g' = mup g k (zI i).toNatClampNeg v → P g' := ⟨in_i hi (by omega), fun g' e => by rw [e, zI_clamp (by omega)]; exact hP⟩
theorem Z2.st_succ (e : Nat → Nat) (q : Nat) : st e (q + 1) = e q := by unfold st; rw [if_neg (by omega), Nat.add_sub_cancel]
section
variable {n : Nat → Int32} {g : Nat → Nat → Int32} {T : Z2.Tr}
theorem Z2.s9_pageOf (M : MT n g T) (B : BT T) {t x : Nat} (ht : t < T.h) (hx : x < if t = 0 then T.n else T.m (t - 1)) {K : Int32 → Prop} (hK : K (zI (T.pgOf t x))) : wp_X9_pageOf (zI t) (zI x) n g K := by
  have hm := B.m ht
  have hh := B.h12
  obtain ⟨g1, g2, g3⟩ := B.im.pg ht hx
  have hE := B.E ht g1
  have hx400 : x < 400 := by omega
  refine loopW_of (fun s => ∃ q, s = (zI q, zI (x - st (T.E t) q)) ∧ q ≤ T.pgOf t x) (fun s => 400 - s.1.toNatClampNeg) ?_ _ ⟨0, rfl, Nat.zero_le _⟩
  rintro C s ⟨q, rfl, hq⟩ hC
  show vp_in ((400 : Int32) * zI t + zI q) (mlen 15) ∧ _
  rw [at_eq]
  have e2 : g 15 (400 * t + q) = zI (T.E t q - st (T.E t) q) := M.pt t ht q (by omega)
  have le := (TT.ends B.im ht (p := q) (by omega)).1
  have lE := B.E ht (q := q) (by omega)
  have lst : st (T.E t) q ≤ x := by
    rcases Nat.lt_or_eq_of_le hq with z | z
    · have := B.im.high (t := t) (p := q) (j := T.pgOf t x - 1) ht (by omega) (by omega)
      have e : st (T.E t) (T.pgOf t x) = T.E t (T.pgOf t x - 1) := by unfold st; rw [if_neg (by omega)]
      omega
    · rw [z]; exact g2
  refine rd (show 400 * t + q < 4800 by omega) (by decide) ⟨fun z => ?_, fun z => ?_⟩
  · rw [e2, zI_lt (by omega) (by omega)] at z
    have : T.pgOf t x = q := B.im.pg_eq (by omega) lst (by omega) ht
    rw [← this]; exact hK
  · rw [e2, zI_lt (by omega) (by omega)] at z
    show vp_in ((400 : Int32) * zI t + zI q) (mlen 15) ∧ _
    rw [at_eq]
    refine rd (show 400 * t + q < 4800 by omega) (by decide) ?_
    rintro v rfl w rfl
    rw [e2, zI_sub (by omega), show zI q + 1 = zI (q + 1) from zI_add q 1]
    have hne : q ≠ T.pgOf t x := fun e => by rw [e] at z le lst; omega
    refine hC _ ⟨q + 1, ?_, by omega⟩ ?_
    · rw [st_succ, show x - st (T.E t) q - (T.E t q - st (T.E t) q) = x - T.E t q by omega]
    · show 400 - (zI (q + 1)).toNatClampNeg < 400 - (zI q).toNatClampNeg
      rw [zI_clamp (by omega), zI_clamp (by omega)]; omega
theorem Z2.s9_areSiblings (M : MT n g T) (B : BT T) {t l : Nat} (ht : t < T.h) (hl : l < 400) {K : Int32 → Prop} (h1 : T.adj t l = true → K 1) (h0 : ¬ T.adj t l = true → K 0) : wp_X9_areSiblings (zI t) (zI l) n g K := by
  have hm := B.m ht
  have hh := B.h12
  have hs := B.im.h1
  have ea : T.adj t l = true ↔ (l + 1 < T.m t ∧ t + 1 < T.h ∧ T.par t l = T.par t (l + 1)) := by unfold Tr.adj; rw [decide_eq_true_eq]
  rw [ea] at h1 h0
  have em : g 14 t = zI (T.m t) := M.m t ht
  have eh : n 13 = zI T.h := M.ch
  refine ⟨fun z => absurd z (zI_neg (by omega)), fun _ => rd (show t < 12 by omega) (by decide) ?_⟩
  rw [em, show zI l + 1 = zI (l + 1) from zI_add l 1, eh, show zI T.h - 1 = zI (T.h - 1) from zI_sub hs, show zI t + 1 = zI (t + 1) from zI_add t 1]
  refine ⟨fun z => ?_, fun z => ⟨fun y => ?_, fun y => ?_⟩⟩
  · rw [zI_le (by omega) (by omega)] at z
    exact h0 (fun x => by omega)
  · rw [zI_le (by omega) (by omega)] at y
    exact h0 (fun x => by omega)
  · rw [zI_le (by omega) (by omega)] at z y
    refine s9_pageOf M B (t := t + 1) (by omega) (by rw [if_neg (by omega), Nat.add_sub_cancel]; omega) (s9_pageOf M B (t := t + 1) (by omega) (by rw [if_neg (by omega), Nat.add_sub_cancel]; omega) ⟨fun x => ?_, fun x => ?_⟩)
    · refine h0 (fun u => x ?_)
      show zI (T.par t l) = zI (T.par t (l + 1))
      rw [u.2.2]
    · have q1 := (B.im.pr (t := t) (p := l) (by omega) (by omega)).1
      have q2 := (B.im.pr (t := t) (p := l + 1) (by omega) (by omega)).1
      have q3 := B.m (t := t + 1) (by omega)
      have x : zI (T.par t l) = zI (T.par t (l + 1)) := x
      rw [zI_inj (by omega) (by omega)] at x
      exact h1 ⟨by omega, by omega, x⟩
theorem Z2.s9_leafSize (M : MT n g T) (hv : ∀ i, i < T.n → VK (T.ks i)) (hn : T.n ≤ 300) {a c : Nat} (hc : a + c ≤ T.n) {K : Int32 → Prop} (hK : K (zI (8 + cbi 7 T.ks c a []))) : wp_X9_leafSize (zI a) (zI c) n g K := by
  have hl := cbi_le (f := 7) (k := T.ks) c a [] (fun j h1 h2 => (hv j (by omega)).1)
  generalize hT : 8 + cbi 7 T.ks c a [] = tot at hK
  refine loopW_of (fun s => ∃ acc k, s = (zI acc, zI k) ∧ a ≤ k ∧ k ≤ a + c ∧ acc + cbi 7 T.ks (a + c - k) k (if k = a then [] else T.ks (k - 1)) = tot) (fun s => 400 - s.2.toNatClampNeg) ?_ _ ⟨8, a, rfl, Nat.le_refl _, by omega, by rw [if_pos rfl, show a + c - a = c by omega]; exact hT⟩
  rintro C s ⟨acc, k, rfl, k1, k2, hs⟩ hC
  show (zI a + zI c ≤ zI k → K (zI acc)) ∧ (¬ (zI a + zI c ≤ zI k) → _)
  rw [show zI a + zI c = zI (a + c) from zI_add a c]
  refine ⟨fun z => ?_, fun z => ?_⟩
  · rw [zI_le (by omega) (by omega)] at z
    rw [show a + c - k = 0 by omega] at hs
    have hs : acc + 0 = tot := hs
    rw [show acc = tot by omega]; exact hK
  · rw [zI_le (by omega) (by omega)] at z
    have en : a + c - k = (a + c - (k + 1)) + 1 := by omega
    rw [en] at hs
    have hs : acc + (7 + ((T.ks k).length - sh (T.ks k) (if k = a then [] else T.ks (k - 1))) + cbi 7 T.ks (a + c - (k + 1)) (k + 1) (T.ks k)) = tot := hs
    have ek : g 10 k = zI (T.ks k).length := M.sz k (by omega)
    have fin : ∀ z0 : Int32, z0 = zI (sh (T.ks k) (if k = a then [] else T.ks (k - 1))) → wp_X9_leafSize_63 (zI a) (zI c) (zI acc) (zI k) z0 n g K C := fun z0 e0 => by
      have := sh_le_left (T.ks k) (if k = a then [] else T.ks (k - 1))
      refine rd (show k < 300 by omega) (by decide) ?_
      rintro v rfl w rfl
      rw [ek, e0, show (7 : Int32) = zI 7 from rfl, zI_add, zI_sub (by omega), zI_add, show zI k + 1 = zI (k + 1) from zI_add k 1]
      refine hC _ ⟨_, k + 1, rfl, by omega, by omega, ?_⟩ ?_
      · rw [if_neg (show ¬ k + 1 = a by omega), Nat.add_sub_cancel]; omega
      · show 400 - (zI (k + 1)).toNatClampNeg < 400 - (zI k).toNatClampNeg
        rw [zI_clamp (by omega), zI_clamp (by omega)]; omega
    refine ⟨fun y => ?_, fun y => fin 0 ?_⟩
    · rw [zI_inj (by omega) (by omega)] at y
      rw [show zI k - 1 = zI (k - 1) from zI_sub (show 1 ≤ k by omega)]
      have ek1 : g 10 (k - 1) = zI (T.ks (k - 1)).length := M.sz (k - 1) (by omega)
      refine rd (show k - 1 < 300 by omega) (by decide) (rd (show k < 300 by omega) (by decide) ?_)
      rw [ek, ek1, k12, k12]
      have v1 := (hv (k - 1) (by omega)).1
      have v2 := (hv k (by omega)).1
      refine s9_shared (M.kb (k - 1) (by omega)) (M.kb k (by omega)) v1 v2 (by decide) (by decide) (show 12 * (k - 1) + _ ≤ 3600 by omega) (show 12 * k + _ ≤ 3600 by omega) (by omega) (by omega) (fin _ ?_)
      rw [if_neg y, sh_comm]
    · rw [zI_inj (by omega) (by omega)] at y
      rw [if_pos y, sh_nil]; rfl
theorem Z2.s9_lastLeaf (M : MT n g T) (B : BT T) {t p : Nat} (ht : t < T.h) (hp : p < T.m t) {K : Int32 → Prop} (hK : K (zI (sx T.E t p))) : wp_X9_lastLeaf (zI t) (zI p) n g K := by
  have hm := B.m ht
  have hh := B.h12
  rintro v rfl
  rw [show zI p + 1 = zI (p + 1) from zI_add p 1]
  refine loopW_of (fun s => ∃ q u, s = (zI (q + 1), zI u) ∧ u ≤ t ∧ q < T.m u ∧ sx T.E u q = sx T.E t p) (fun s => s.2.toNatClampNeg) ?_ _ ⟨p, t, rfl, Nat.le_refl _, hp, rfl⟩
  rintro C s ⟨q, u, rfl, hu, hq, he⟩ hC
  refine ⟨fun z => ?_, fun z => ?_⟩
  · rw [show (0 : Int32) = zI 0 from rfl, zI_le (by omega) (by omega)] at z
    have : u = 0 := by omega
    subst this
    rw [show zI (q + 1) - 1 = zI q from zI_sub (show 1 ≤ q + 1 by omega)]
    have he : q = sx T.E t p := he
    rw [he]; exact hK
  · rw [show (0 : Int32) = zI 0 from rfl, zI_le (by omega) (by omega)] at z
    obtain ⟨u, rfl⟩ : ∃ v, u = v + 1 := ⟨u - 1, by omega⟩
    have h1 := B.im.E_pos (t := u) (by omega) hq
    have h2 := B.im.le_m (t := u) (by omega) hq
    refine s9_firstOf M B (t := u + 1) (by omega) (by omega) ?_
    rintro v rfl
    rw [st_succ, zI_pred (by omega), Nat.add_sub_cancel]
    refine hC _ ⟨T.E (u + 1) q - 1, u, ?_, by omega, by omega, he⟩ ?_
    · rw [show T.E (u + 1) q - 1 + 1 = T.E (u + 1) q by omega]
    · show (zI u).toNatClampNeg < (zI (u + 1)).toNatClampNeg
      rw [zI_clamp (by omega), zI_clamp (by omega)]; omega
theorem Z2.s9_innerSize (M : MT n g T) (B : BT T) {t a c : Nat} (ht : t < T.h) (h1 : 1 ≤ c) (hc : a + c ≤ T.m t) {K : Int32 → Prop} (hK : K (zI (8 + 4 * c + cbi 3 (fun j => T.S (sx T.E t j)) (c - 1) a []))) : wp_X9_innerSize (zI t) (zI a) (zI c) n g K := by
  have hm := B.m ht
  have hh := B.h12
  have hm4 := B.m4
  have hsx : ∀ j, j + 1 < T.m t → sx T.E t j + 1 < T.m 0 := fun j hj => B.im.sx_in ht hj
  have hl := cbi_le (f := 3) (k := fun j => T.S (sx T.E t j)) (c - 1) a [] (fun j h1 h2 => (B.im.svk _ (hsx j (by omega))).1)
  generalize hT : 8 + 4 * c + cbi 3 (fun j => T.S (sx T.E t j)) (c - 1) a [] = tot at hK
  rintro v rfl
  rw [show (4 : Int32) = zI 4 from rfl, zI_mul, show (8 : Int32) = zI 8 from rfl, zI_add]
  refine loopW_of (fun s => ∃ acc k, s = (zI acc, if k = a then (-1 : Int32) else zI (sx T.E t (k - 1)), zI k) ∧ a ≤ k ∧ k + 1 ≤ a + c ∧ acc + cbi 3 (fun j => T.S (sx T.E t j)) (a + c - 1 - k) k (if k = a then [] else T.S (sx T.E t (k - 1))) = tot) (fun s => 500 - s.2.2.toNatClampNeg) ?_ _ ⟨_, a, by rw [if_pos rfl], Nat.le_refl _, by omega, by rw [if_pos rfl, show a + c - 1 - a = c - 1 by omega]; exact hT⟩
  rintro C s ⟨acc, k, rfl, k1, k2, hs⟩ hC
  show (zI a + zI c - 1 ≤ zI k → K (zI acc)) ∧ (¬ (zI a + zI c - 1 ≤ zI k) → _)
  rw [show zI a + zI c = zI (a + c) from zI_add a c, show zI (a + c) - 1 = zI (a + c - 1) from zI_sub (show 1 ≤ a + c by omega)]
  refine ⟨fun z => ?_, fun z => ?_⟩
  · rw [zI_le (by omega) (by omega)] at z
    rw [show a + c - 1 - k = 0 by omega] at hs
    have hs : acc + 0 = tot := hs
    rw [show acc = tot by omega]; exact hK
  · rw [zI_le (by omega) (by omega)] at z
    have en : a + c - 1 - k = (a + c - 1 - (k + 1)) + 1 := by omega
    rw [en] at hs
    have hs : acc + (3 + ((T.S (sx T.E t k)).length - sh (T.S (sx T.E t k)) (if k = a then [] else T.S (sx T.E t (k - 1)))) + cbi 3 (fun j => T.S (sx T.E t j)) (a + c - 1 - (k + 1)) (k + 1) (T.S (sx T.E t k))) = tot := hs
    have sk := hsx k (by omega)
    have ek : g 16 (sx T.E t k) = zI (T.S (sx T.E t k)).length := M.ss _ sk
    refine s9_lastLeaf M B ht (by omega) ?_
    have fin : ∀ z0 : Int32, z0 = zI (sh (T.S (sx T.E t k)) (if k = a then [] else T.S (sx T.E t (k - 1)))) → wp_X9_innerSize_78 (zI t) (zI a) (zI c) (zI acc) (zI k) (zI (sx T.E t k)) z0 n g K C := fun z0 e0 => by
      have := sh_le_left (T.S (sx T.E t k)) (if k = a then [] else T.S (sx T.E t (k - 1)))
      refine rd (show sx T.E t k < 400 by omega) (by decide) ?_
      rintro v rfl w rfl
      rw [ek, e0, show (3 : Int32) = zI 3 from rfl, zI_add, zI_sub (by omega), zI_add, show zI k + 1 = zI (k + 1) from zI_add k 1]
      refine hC _ ⟨_, k + 1, by rw [if_neg (show ¬ k + 1 = a by omega), Nat.add_sub_cancel], by omega, by omega, ?_⟩ ?_
      · rw [if_neg (show ¬ k + 1 = a by omega), Nat.add_sub_cancel]; omega
      · show 500 - (zI (k + 1)).toNatClampNeg < 500 - (zI k).toNatClampNeg
        rw [zI_clamp (by omega), zI_clamp (by omega)]; omega
    by_cases y : k = a
    · rw [if_pos y]
      refine ⟨fun x => absurd rfl x, fun _ => fin 0 ?_⟩
      rw [if_pos y, sh_nil]; rfl
    · rw [if_neg y]
      have sk1 := hsx (k - 1) (by omega)
      have ek1 : g 16 (sx T.E t (k - 1)) = zI (T.S (sx T.E t (k - 1))).length := M.ss _ sk1
      refine ⟨fun _ => ?_, fun x => ?_⟩
      · refine rd (show sx T.E t (k - 1) < 400 by omega) (by decide) (rd (show sx T.E t k < 400 by omega) (by decide) ?_)
        rw [ek, ek1, k12, k12]
        have v1 := (B.im.svk _ sk1).1
        have v2 := (B.im.svk _ sk).1
        refine s9_shared (M.sb _ sk1) (M.sb _ sk) v1 v2 (by decide) (by decide) (show 12 * sx T.E t (k - 1) + _ ≤ 4800 by omega) (show 12 * sx T.E t k + _ ≤ 4800 by omega) (by omega) (by omega) (fin _ ?_)
        rw [if_neg y, sh_comm]
      · exact absurd x (fun x => by
          have := congrArg Int32.toInt x
          rw [zI_toInt (by omega)] at this
          have e1 : (-1 : Int32).toInt = -1 := rfl
          omega)
theorem Z2.s9_partSize (M : MT n g T) (B : BT T) {t a c : Nat} (ht : t < T.h) (h1 : 1 ≤ t → 1 ≤ c) (hc : a + c ≤ if t = 0 then T.n else T.m (t - 1)) {K : Int32 → Prop} (hK : K (zI (T.psz t a (a + c)))) : wp_X9_partSize (zI t) (zI a) (zI c) n g K := by
  have hh := B.h12
  unfold Tr.psz at hK
  refine ⟨fun z => ?_, fun z => ?_⟩
  · have t0 : t ≠ 0 := fun x => z (by rw [x]; rfl)
    rw [if_neg t0] at hc hK
    rw [show zI t - 1 = zI (t - 1) from zI_sub (show 1 ≤ t by omega)]
    refine s9_innerSize M B (by omega) (h1 (by omega)) hc ?_
    rw [show a + c - a = c by omega, show a + c - 1 - a = c - 1 by omega] at hK
    exact hK
  · rw [show (0 : Int32) = zI 0 from rfl, zI_inj (by omega) (by omega)] at z
    subst z
    rw [if_pos rfl] at hc hK
    rw [show a + c - a = c by omega] at hK
    exact s9_leafSize M B.im.vk B.im.n3 hc hK
theorem Z2.s9_sizeOfPage (M : MT n g T) (B : BT T) {t p : Nat} (ht : t < T.h) (hp : p < T.m t) {K : Int32 → Prop} (hK : K (zI (T.pgs t p))) : wp_X9_sizeOfPage (zI t) (zI p) n g K := by
  have hh := B.h12
  have hm := B.m ht
  obtain ⟨e1, e2, e3⟩ := TT.ends B.im ht hp
  refine s9_firstOf M B ht (by omega) ?_
  show vp_in ((400 : Int32) * zI t + zI p) (mlen 15) ∧ _
  rw [at_eq]
  refine rd (show 400 * t + p < 4800 by omega) (by decide) ?_
  rw [show g 15 (400 * t + p) = zI (T.E t p - st (T.E t) p) from M.pt t ht p hp]
  refine s9_partSize M B ht (fun z => by have := e3 z; omega) (by omega) ?_
  rw [show st (T.E t) p + (T.E t p - st (T.E t) p) = T.E t p by omega]
  exact hK
end
