/-! the reference: pages, statistics -/
def Z2.cnt (p : Nat → Bool) : Nat → Nat
  | 0 => 0
  | k + 1 => cnt p k + (if p k = true then 1 else 0)
section
variable {n : Nat → Int32} {g : Nat → Nat → Int32} {T : Z2.Tr} {ky : Z2.Key}
theorem Z2.s9_isPage (M : MT n g T) (B : BT T) {x z : Int32} {K : Int32 → Prop} (h0 : (∀ i p, i < T.h → x = zI i → p < T.m (T.h - 1 - i) → z = zI p → False) → K 0) (h1 : ∀ i p, i < T.h → x = zI i → p < T.m (T.h - 1 - i) → z = zI p → K 1) : wp_X9_isPage x z n g K := by
  have hh := B.h12
  have hs := B.im.h1
  have e13 : n 13 - 1 = zI (T.h - 1) := by rw [show n 13 = zI T.h from M.ch]; exact zI_sub hs
  unfold wp_X9_isPage
  rw [e13]
  refine s9_in (fun w => ⟨fun _ => h0 (fun i p hi e _ _ => w ?_), fun y => absurd rfl y⟩) (fun a b => ⟨fun y => absurd y (by decide), fun _ => s9_in (fun w => absurd ⟨a, b⟩ w) (fun _ _ => ⟨fun y => absurd y (by decide), fun _ => ?_⟩)⟩)
  · rw [e, show (0 : Int32) = zI 0 from rfl, zI_le (by omega) (by omega), zI_le (by omega) (by omega)]; omega
  · obtain ⟨i, hi, e⟩ := asZ (by omega) a b
    subst e
    rw [zI_sub hi]
    have hm1 := B.im.m1 (T.h - 1 - i) (by omega)
    have hm := B.m (t := T.h - 1 - i) (by omega)
    refine ⟨by decide, rd (show T.h - 1 - i < 12 by omega) (by decide) ?_⟩
    rw [show g 14 (T.h - 1 - i) = zI (T.m (T.h - 1 - i)) from M.m _ (by omega), show zI (T.m (T.h - 1 - i)) - 1 = zI (T.m (T.h - 1 - i) - 1) from zI_sub hm1]
    refine s9_in (fun w => ⟨fun _ => h0 (fun i2 p hi2 e hp e2 => w ?_), fun y => absurd rfl y⟩) (fun c d => ⟨fun y => absurd y (by decide), fun _ => ?_⟩)
    · rw [zI_inj (by omega) (by omega)] at e
      subst e
      rw [e2, show (0 : Int32) = zI 0 from rfl, zI_le (by omega) (by omega), zI_le (by omega) (by omega)]; omega
    · obtain ⟨p, hp, e⟩ := asZ (by omega) c d
      exact h1 i p (by omega) rfl (by omega) e
theorem Z2.s9_pageCount (M : MT n g T) (B : BT T) {x : Int32} {K : Int32 → (Nat → Int32) → (Nat → Nat → Int32) → Prop} (h1 : (∀ i, i < T.h → x ≠ zI i) → K 0 (upd n 0 1) g) (h0 : ∀ i, i < T.h → x = zI i → K (zI (T.m (T.h - 1 - i))) (upd n 0 0) g) : wp_X9_pageCount x n g K := by
  have hh := B.h12
  have hs := B.im.h1
  have e13 : n 13 - 1 = zI (T.h - 1) := by rw [show n 13 = zI T.h from M.ch]; exact zI_sub hs
  unfold wp_X9_pageCount
  rw [e13]
  refine s9_in (fun w => ⟨fun _ => ?_, fun y => absurd rfl y⟩) (fun a b => ⟨fun y => absurd y (by decide), fun _ => ?_⟩)
  · rintro n1 rfl
    refine h1 (fun i hi e => w ?_)
    rw [e, show (0 : Int32) = zI 0 from rfl, zI_le (by omega) (by omega), zI_le (by omega) (by omega)]; omega
  · obtain ⟨i, hi, e⟩ := asZ (by omega) a b
    subst e
    rw [zI_sub hi]
    refine rd (show T.h - 1 - i < 12 by omega) (by decide) ?_
    rw [show g 14 (T.h - 1 - i) = zI (T.m (T.h - 1 - i)) from M.m _ (by omega)]
    rintro n1 rfl
    exact h0 i (by omega) rfl
theorem Z2.s9_pageSize (M : MT n g T) (B : BT T) {x z : Int32} {K : Int32 → (Nat → Int32) → (Nat → Nat → Int32) → Prop} (h1 : (∀ i p, i < T.h → x = zI i → p < T.m (T.h - 1 - i) → z = zI p → False) → K 0 (upd n 0 1) g) (h0 : ∀ i p, i < T.h → x = zI i → p < T.m (T.h - 1 - i) → z = zI p → K (zI (T.pgs (T.h - 1 - i) p)) (upd n 0 0) g) : wp_X9_pageSize x z n g K := by
  have hs := B.im.h1
  have e13 : n 13 - 1 = zI (T.h - 1) := by rw [show n 13 = zI T.h from M.ch]; exact zI_sub hs
  refine s9_isPage M B (fun w => ⟨fun _ => ?_, fun y => absurd rfl y⟩) (fun i p hi e hp e2 => ⟨fun y => absurd y (by decide), fun _ => ?_⟩)
  · rintro n1 rfl; exact h1 w
  · have h0 := h0 i p hi e hp e2
    rw [e13, e, e2, show zI (T.h - 1) - zI i = zI (T.h - 1 - i) from zI_sub (show i ≤ T.h - 1 by omega)]
    refine s9_sizeOfPage M B (by omega) hp ?_
    rintro n1 rfl
    exact h0
theorem Z2.s9_pageFanout (M : MT n g T) (B : BT T) {x z : Int32} {K : Int32 → (Nat → Int32) → (Nat → Nat → Int32) → Prop} (h1 : (∀ i p, i < T.h → x = zI i → p < T.m (T.h - 1 - i) → z = zI p → False) → K 0 (upd n 0 1) g) (h0 : ∀ i p, i < T.h → x = zI i → p < T.m (T.h - 1 - i) → z = zI p → K (zI (T.E (T.h - 1 - i) p - st (T.E (T.h - 1 - i)) p)) (upd n 0 0) g) : wp_X9_pageFanout x z n g K := by
  have hs := B.im.h1
  have hh := B.h12
  have e13 : n 13 - 1 = zI (T.h - 1) := by rw [show n 13 = zI T.h from M.ch]; exact zI_sub hs
  refine s9_isPage M B (fun w => ⟨fun _ => ?_, fun y => absurd rfl y⟩) (fun i p hi e hp e2 => ⟨fun y => absurd y (by decide), fun _ => ?_⟩)
  · rintro n1 rfl; exact h1 w
  · have h0 := h0 i p hi e hp e2
    have hm := B.m (t := T.h - 1 - i) (by omega)
    rw [e13, e, e2, show zI (T.h - 1) - zI i = zI (T.h - 1 - i) from zI_sub (show i ≤ T.h - 1 by omega)]
    show vp_in ((400 : Int32) * zI (T.h - 1 - i) + zI p) (mlen 15) ∧ _
    rw [at_eq]
    refine rd (show 400 * (T.h - 1 - i) + p < 4800 by omega) (by decide) ?_
    rw [show g 15 (400 * (T.h - 1 - i) + p) = zI (T.E (T.h - 1 - i) p - st (T.E (T.h - 1 - i)) p) from M.pt _ (by omega) p hp]
    rintro n1 rfl
    exact h0
theorem Z2.s9_sumOf (M : MT n g T) (B : BT T) {t : Nat} (ht : t < T.h) {K : Int32 → Prop} (hK : K (zI (sumTo (fun p => T.pgs t p) (T.m t)))) : wp_X9_sumOf (zI t) n g K := by
  have hm := B.m ht
  have hh := B.h12
  refine loopW_of (fun s => ∃ p, s = (zI (sumTo (fun p => T.pgs t p) p), zI p) ∧ p ≤ T.m t) (fun s => 500 - s.2.toNatClampNeg) ?_ _ ⟨0, rfl, Nat.zero_le _⟩
  rintro C s ⟨p, rfl, hp⟩ hC
  refine rd (show t < 12 by omega) (by decide) ?_
  rw [show g 14 t = zI (T.m t) from M.m t ht]
  refine ⟨fun z => ?_, fun z => ?_⟩
  · rw [zI_le (by omega) (by omega)] at z
    rw [show p = T.m t by omega]; exact hK
  · rw [zI_le (by omega) (by omega)] at z
    refine s9_sizeOfPage M B ht (by omega) ?_
    rw [zI_add]
    rintro v rfl w rfl
    rw [show zI p + 1 = zI (p + 1) from zI_add p 1]
    refine hC _ ⟨p + 1, rfl, by omega⟩ ?_
    show 500 - (zI (p + 1)).toNatClampNeg < 500 - (zI p).toNatClampNeg
    rw [zI_clamp (by omega), zI_clamp (by omega)]; omega
theorem Z2.s9_statistic (M : MT n g T) (B : BT T) (Q : CT n T) {x : Int32} {K : Int32 → (Nat → Int32) → (Nat → Nat → Int32) → Prop} (h1 : (x ≠ 0 ∧ x ≠ 1 ∧ x ≠ 2 ∧ x ≠ 3 ∧ x ≠ 4) → K 0 (upd n 0 1) g) (k0 : x = 0 → K (zI (sumTo (fun t => sumTo (fun p => T.pgs t p) (T.m t)) T.h)) (upd n 0 0) g) (k1 : x = 1 → K (zI (sumTo T.m T.h)) (upd n 0 0) g) (k2 : x = 2 → K (zI T.c0) (upd n 0 0) g) (k3 : x = 3 → K (zI T.c1) (upd n 0 0) g) (k4 : x = 4 → K (zI T.c2) (upd n 0 0) g) : wp_X9_statistic x n g K := by
  have hh := B.h12
  have eh : n 13 = zI T.h := M.ch
  have fin : ∀ v : Int32, K v (upd n 0 0) g → wp_X9_statistic_90 v n g K := fun v hv => by
    rintro n1 rfl; exact hv
  refine s9_in (fun w => ⟨fun y => absurd rfl y, fun _ => ?_⟩) (fun a b => ⟨fun _ => ?_, fun y => absurd y (by decide)⟩)
  · rintro n1 rfl
    refine h1 ⟨?_, ?_, ?_, ?_, ?_⟩ <;> (rintro rfl; exact w (by decide))
  · obtain ⟨i, hi, e⟩ := asZ (N := 4) (by decide) a b
    refine loopW_of (fun s => ∃ t, s = (zI (sumTo (fun t => sumTo (fun p => T.pgs t p) (T.m t)) t), zI t, n, g) ∧ t ≤ T.h) (fun s => 20 - s.2.1.toNatClampNeg) ?_ _ ⟨0, rfl, Nat.zero_le _⟩
    rintro C s ⟨t, rfl, ht⟩ hC
    refine ⟨fun z => ?_, fun z => ?_⟩
    · rw [eh, zI_le (by omega) (by omega)] at z
      have et : t = T.h := by omega
      subst et
      refine ⟨fun x0 => ⟨fun x1 => ⟨fun x2 => ⟨fun x3 => fin _ ?_, fun x3 => fin _ ?_⟩, fun x2 => fin _ ?_⟩, fun x1 => s9_pages M hh (fin _ (k1 x1))⟩, fun x0 => fin _ (k0 x0)⟩
      · have i4 : i = 4 := by
          rcases i with _ | _ | _ | _ | _ | i
          · exact absurd e x0
          · exact absurd e x1
          · exact absurd e x2
          · exact absurd e x3
          · rfl
          · omega
        rw [Q.2.2]
        subst i4; exact k4 e
      · rw [Q.2.1]; exact k3 x3
      · rw [Q.1]; exact k2 x2
    · rw [eh, zI_le (by omega) (by omega)] at z
      refine s9_sumOf M B (by omega) ?_
      rw [zI_add]
      rintro v rfl w rfl
      rw [show zI t + 1 = zI (t + 1) from zI_add t 1]
      refine hC _ ⟨t + 1, rfl, by omega⟩ ?_
      show 20 - (zI (t + 1)).toNatClampNeg < 20 - (zI t).toNatClampNeg
      rw [zI_clamp (by omega), zI_clamp (by omega)]; omega
theorem Z2.s9_countPrefix (M : MT n g T) (B : BT T) (hk : KA g 2 0 ky) (vx : VK ky) (N1 : n 1 = zI ky.length) {K : Int32 → (Nat → Int32) → (Nat → Nat → Int32) → Prop} (hK : K (zI (cnt (fun i => dec (sh (T.ks i) ky = ky.length)) T.n)) (upd n 0 0) g) : wp_X9_countPrefix n g K := by
  have hn := B.im.n3
  have N9 : n 9 = zI T.n := M.cn
  have lk := vx.1
  refine loopW_of (fun s => ∃ i, s = (zI (cnt (fun i => dec (sh (T.ks i) ky = ky.length)) i), zI i, n, g) ∧ i ≤ T.n) (fun s => 500 - s.2.1.toNatClampNeg) ?_ _ ⟨0, rfl, Nat.zero_le _⟩
  rintro C s ⟨i, rfl, hi⟩ hC
  refine ⟨fun z => ?_, fun z => ?_⟩
  · rw [N9, zI_le (by omega) (by omega)] at z
    rintro n1 rfl
    rw [show i = T.n by omega]; exact hK
  · rw [N9, zI_le (by omega) (by omega)] at z
    have v1 := (B.im.vk i (by omega)).1
    have hs := sh_le_left (T.ks i) ky
    refine rd (show i < 300 by omega) (by decide) ?_
    rw [show g 10 i = zI (T.ks i).length from M.sz i (by omega), k12, N1]
    have nx : ∀ (q : Nat) (d : Int32), d = zI q → q = (if dec (sh (T.ks i) ky = ky.length) = true then 1 else 0) → wp_X9_countPrefix_51 (zI i) d (zI (cnt (fun i => dec (sh (T.ks i) ky = ky.length)) i)) n g K C := fun q d hd hq => by
      rw [hd]
      rintro v rfl w rfl
      rw [zI_add, show zI i + 1 = zI (i + 1) from zI_add i 1]
      refine hC _ ⟨i + 1, by rw [hq]; rfl, by omega⟩ ?_
      show 500 - (zI (i + 1)).toNatClampNeg < 500 - (zI i).toNatClampNeg
      rw [zI_clamp (by omega), zI_clamp (by omega)]; omega
    refine s9_shared (k3 := 2) (b := 0) (M.kb i (by omega)) hk v1 lk (by decide) (by decide) (show 12 * i + _ ≤ 3600 by omega) (show 0 + _ ≤ 12 by omega) (by omega) (by omega) ⟨fun y => ?_, fun y => ?_⟩
    · rw [zI_inj (by omega) (by omega)] at y
      exact nx 0 0 rfl (by rw [if_neg (fun w => y ((dec_iff _).mp w))])
    · rw [zI_inj (by omega) (by omega)] at y
      exact nx 1 1 rfl (by rw [if_pos ((dec_iff _).mpr y)])
end
