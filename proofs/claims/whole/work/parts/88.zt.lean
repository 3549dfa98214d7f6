/-! the reference: joins, melts, removes -/
theorem Z2.st_subF (l : Nat → Nat) (a q : Nat) : st (subF l a) q = if a < q then st l q - 1 else st l q := by
  unfold st subF
  by_cases z : q = 0
  · rw [if_pos z, if_pos z, if_neg (by omega)]
  · rw [if_neg z, if_neg z]
    by_cases y : a ≤ q - 1
    · rw [if_pos y, if_pos (by omega)]
    · rw [if_neg y, if_neg (by omega)]
theorem Z2.st_del (l : Nat → Nat) (i q : Nat) : st (del l i) q = if q ≤ i then st l q else l q := by
  unfold st del
  by_cases z : q = 0
  · rw [if_pos z, if_pos z, if_pos (by omega)]
  · rw [if_neg z, if_neg z]
    by_cases y : q - 1 < i
    · rw [if_pos y, if_pos (by omega)]
    · rw [if_neg y, if_neg (by omega), show q - 1 + 1 = q by omega]
def Z2.shD (S : Nat → Key) (l y : Nat) : Nat → Key := fun i => if l ≤ i ∧ i < y then S (i + 1) else S i
theorem Z2.shD_step (S : Nat → Key) {l y : Nat} (hy : l ≤ y) : ∀ i, stt (shD S l y) y (S (y + 1)) i = shD S l (y + 1) i := fun i => by
  unfold stt shD
  by_cases z : i = y
  · rw [if_pos z, if_pos (by omega), z]
  · rw [if_neg z]
    by_cases w : l ≤ i ∧ i < y
    · rw [if_pos w, if_pos (by omega)]
    · rw [if_neg w, if_neg (by omega)]
section
variable {n : Nat → Int32} {g : Nat → Nat → Int32} {T : Z2.Tr}
theorem Z2.s9_joins116 {t m : Nat} (ht : t < 12) (hm1 : 1 ≤ m) (em : g 14 t = zI m) {K : (Nat → Int32) → (Nat → Nat → Int32) → Prop} (hK : ∀ g', (∀ k, k ≠ 14 → g' k = g k) → g' 14 = upd (g 14) t (zI (m - 1)) → K n g') : wp_X9_joins_116 (zI t) n g K := by
  refine rd (show t < 12 from ht) (by decide) (wr (show t < 12 from ht) (by decide) (hK _ (fun k hk => mup_ne _ _ _ hk) ?_))
  rw [mup_same, em, show zI m - 1 = zI (m - 1) from zI_sub hm1]
/-- what joins leaves -/
def Z2.JoP (g g' : Nat → Nat → Int32) (t l m : Nat) : Prop := g' 14 = upd (g 14) t (zI (m - 1)) ∧ (∀ q, q + 1 < m → g' 15 (400 * t + q) = if q < l then g 15 (400 * t + q) else if q = l then g 15 (400 * t + l) + g 15 (400 * t + (l + 1)) else g 15 (400 * t + (q + 1))) ∧ (∀ x, ¬ (400 * t ≤ x ∧ x < 400 * t + m) → g' 15 x = g 15 x) ∧ (∀ k, k ≠ 14 → k ≠ 15 → k ≠ 16 → k ≠ 17 → g' k = g k) ∧ (t ≠ 0 → g' 16 = g 16 ∧ g' 17 = g 17) ∧ (t = 0 → ∀ S : Nat → Key, SP g 400 S → (∀ i, i < 400 → (S i).length ≤ 12) → SP g' 400 (shD S l (m - 1)))
theorem Z2.s9_joins {t l m : Nat} (ht : t < 12) (hl : l + 1 < m) (hm : m ≤ 400) (em : g 14 t = zI m) (hS0 : t = 0 → ∃ S : Nat → Key, SP g 400 S ∧ ∀ i, i < 400 → (S i).length ≤ 12) {K : (Nat → Int32) → (Nat → Nat → Int32) → Prop} (hK : ∀ g', JoP g g' t l m → K n g') : wp_X9_joins (zI t) (zI (l + 1)) n g K := by
  have t0i : zI t = 0 ↔ t = 0 := by rw [show (0 : Int32) = zI 0 from rfl, zI_inj (by omega) (by omega)]
  unfold wp_X9_joins
  rw [show zI (l + 1) - 1 = zI l from zI_sub (show 1 ≤ l + 1 by omega)]
  show vp_in ((400 : Int32) * zI t + zI l) (mlen 15) ∧ ∀ v_33 : Int32, v_33 = g 15 ((400 : Int32) * zI t + zI l).toNatClampNeg → vp_in ((400 : Int32) * zI t + zI (l + 1)) (mlen 15) ∧ ∀ v_36 : Int32, v_36 = g 15 ((400 : Int32) * zI t + zI (l + 1)).toNatClampNeg → vp_in ((400 : Int32) * zI t + zI l) (mlen 15) ∧ ∀ g_38 : Nat → Nat → Int32, g_38 = mup g 15 ((400 : Int32) * zI t + zI l).toNatClampNeg (v_33 + v_36) → _
  rw [at_eq, at_eq]
  refine rd (show 400 * t + l < 4800 by omega) (by decide) (rd (show 400 * t + (l + 1) < 4800 by omega) (by decide) (wr (show 400 * t + l < 4800 by omega) (by decide) ?_))
  refine loopW_of (fun s => ∃ y g1, s = (zI y, n, g1) ∧ l + 1 ≤ y ∧ y + 1 ≤ m ∧ (∀ q, q < m → g1 15 (400 * t + q) = if q < l then g 15 (400 * t + q) else if q = l then g 15 (400 * t + l) + g 15 (400 * t + (l + 1)) else if q < y then g 15 (400 * t + (q + 1)) else g 15 (400 * t + q)) ∧ (∀ x, ¬ (400 * t ≤ x ∧ x < 400 * t + m) → g1 15 x = g 15 x) ∧ ∀ k, k ≠ 15 → g1 k = g k) (fun s => 500 - s.1.toNatClampNeg) ?_ _ ⟨l + 1, _, rfl, Nat.le_refl _, by omega, fun q hq => ?_, fun x hx => ?_, fun k hk => mup_ne _ _ _ hk⟩
  · rintro C s ⟨y, g1, rfl, y1, y2, p1, p2, p3⟩ hC
    refine rd (show t < 12 from ht) (by decide) ?_
    rw [p3 14 (by decide), em, show zI m - 1 = zI (m - 1) from zI_sub (show 1 ≤ m by omega)]
    refine ⟨fun z => ?_, fun z => ?_⟩
    · rw [zI_le (by omega) (by omega)] at z
      have ey : y = m - 1 := by omega
      rintro v rfl
      rw [show zI (l + 1) - 1 = zI l from zI_sub (show 1 ≤ l + 1 by omega)]
      have fin : ∀ g2, (∀ k, k ≠ 16 → k ≠ 17 → g2 k = g1 k) → (t ≠ 0 → g2 16 = g 16 ∧ g2 17 = g 17) → (t = 0 → ∀ S : Nat → Key, SP g 400 S → (∀ i, i < 400 → (S i).length ≤ 12) → SP g2 400 (shD S l (m - 1))) → wp_X9_joins_116 (zI t) n g2 K := fun g2 k1 k2 k3 => by
        refine s9_joins116 ht (m := m) (by omega) (by rw [k1 14 (by decide) (by decide), p3 14 (by decide)]; exact em) (fun g3 q1 q2 => hK g3 ⟨?_, fun q hq => ?_, fun x hx => ?_, fun k a b c d => ?_, fun t0 => ?_, fun t0 S hS hv => ?_⟩)
        · rw [q2, k1 14 (by decide) (by decide), p3 14 (by decide)]
        · rw [q1 15 (by decide), k1 15 (by decide) (by decide), p1 q (by omega)]
          by_cases w : q < l
          · rw [if_pos w, if_pos w]
          · rw [if_neg w, if_neg w]
            by_cases u : q = l
            · rw [if_pos u, if_pos u]
            · rw [if_neg u, if_neg u, if_pos (by omega)]
        · rw [q1 15 (by decide), k1 15 (by decide) (by decide)]; exact p2 x hx
        · rw [q1 k a, k1 k c d, p3 k b]
        · rw [q1 16 (by decide), q1 17 (by decide)]; exact k2 t0
        · exact (k3 t0 S hS hv).same (q1 16 (by decide)) (q1 17 (by decide))
      refine loopW_of (fun s => ∃ z g2, s = (zI z, n, g2) ∧ l ≤ z ∧ z + 1 ≤ m ∧ (∀ k, k ≠ 16 → k ≠ 17 → g2 k = g1 k) ∧ (t ≠ 0 → z = l ∧ g2 16 = g 16 ∧ g2 17 = g 17) ∧ (t = 0 → ∀ S : Nat → Key, SP g 400 S → (∀ i, i < 400 → (S i).length ≤ 12) → SP g2 400 (shD S l z))) (fun s => 500 - s.1.toNatClampNeg) ?_ _ ⟨l, g1, rfl, Nat.le_refl _, by omega, fun _ _ _ => rfl, fun _ => ⟨rfl, p3 16 (by decide), p3 17 (by decide)⟩, fun _ S hS hv => (hS.same (p3 16 (by decide)) (p3 17 (by decide))).congr (Nat.le_refl _) (fun i hi => by unfold shD; rw [if_neg (by omega)])⟩
      rintro C2 s ⟨z1, g2, rfl, z2, z3, k1, k2, k3⟩ hC2
      refine ⟨fun w => ?_, fun w => ?_⟩
      · have t0 : t ≠ 0 := fun e => w (t0i.mpr e)
        exact fin g2 k1 (fun _ => (k2 t0).2) (fun e => absurd e t0)
      · have t0 := t0i.mp w
        refine rd (show 0 < 12 by omega) (by decide) ?_
        have em2 : g2 14 0 = zI m := by rw [k1 14 (by decide) (by decide), p3 14 (by decide)]; rw [t0] at em; exact em
        rw [em2, show zI m - 1 = zI (m - 1) from zI_sub (show 1 ≤ m by omega)]
        refine ⟨fun u => ?_, fun u => ?_⟩
        · rw [zI_le (by omega) (by omega)] at u
          have ez : z1 = m - 1 := by omega
          rw [ez] at k3
          exact fin g2 k1 (fun t1 => absurd t0 t1) k3
        · rw [zI_le (by omega) (by omega)] at u
          rw [show zI z1 + 1 = zI (z1 + 1) from zI_add z1 1]
          obtain ⟨S0, s1, s2⟩ := hS0 t0
          have s3 := k3 t0 S0 s1 s2
          have es : shD S0 l z1 (z1 + 1) = S0 (z1 + 1) := by unfold shD; rw [if_neg (by omega)]
          have e16 : g2 16 (z1 + 1) = zI (S0 (z1 + 1)).length := by rw [← es]; exact s3.1 (z1 + 1) (by omega)
          have l12 := s2 (z1 + 1) (by omega)
          refine rd (show z1 + 1 < 400 by omega) (by decide) ?_
          rw [e16, k12]
          refine s9_sets (by omega) (by decide) (by decide) l12 (show 12 * (z1 + 1) + _ ≤ 4800 by omega) (fun _ => by omega) (fun g3 P3 => ?_)
          rintro v rfl
          refine hC2 _ ⟨z1 + 1, g3, rfl, by omega, by omega, fun k a b => by rw [P3.1 k a b]; exact k1 k a b, fun t1 => absurd t0 t1, fun _ S hS hv => ?_⟩ ?_
          · have s4 := k3 t0 S hS hv
            have es' : shD S l z1 (z1 + 1) = S (z1 + 1) := by unfold shD; rw [if_neg (by omega)]
            have ha := s4.2.1 (z1 + 1) (by omega)
            have hlen : (S0 (z1 + 1)).length = (S (z1 + 1)).length := by
              have a := s4.1 (z1 + 1) (by omega)
              rw [es', e16, zI_inj (by omega) (by have := hv (z1 + 1) (by omega); omega)] at a
              exact a
            rw [es'] at ha
            refine (P3.sp s4 (fun i hi => ?_) hlen l12 ha).congr (Nat.le_refl _) (fun i hi => shD_step S z2 i)
            unfold shD; split
            · exact hv (i + 1) (by omega)
            · exact hv i hi
          · show 500 - (zI (z1 + 1)).toNatClampNeg < 500 - (zI z1).toNatClampNeg
            rw [zI_clamp (by omega), zI_clamp (by omega)]; omega
    · rw [zI_le (by omega) (by omega)] at z
      rw [show zI y + 1 = zI (y + 1) from zI_add y 1]
      show vp_in ((400 : Int32) * zI t + zI (y + 1)) (mlen 15) ∧ ∀ v_26 : Int32, v_26 = g1 15 ((400 : Int32) * zI t + zI (y + 1)).toNatClampNeg → vp_in ((400 : Int32) * zI t + zI y) (mlen 15) ∧ ∀ g_28 : Nat → Nat → Int32, g_28 = mup g1 15 ((400 : Int32) * zI t + zI y).toNatClampNeg v_26 → _
      rw [at_eq, at_eq]
      refine rd (show 400 * t + (y + 1) < 4800 by omega) (by decide) (wr (show 400 * t + y < 4800 by omega) (by decide) ?_)
      rintro v rfl
      refine hC _ ⟨y + 1, _, rfl, by omega, by omega, fun q hq => ?_, fun x hx => ?_, fun k hk => by rw [mup_ne _ _ _ hk]; exact p3 k hk⟩ ?_
      · rw [mup_same]
        by_cases w : q = y
        · subst w
          rw [upd_same, p1 (q + 1) (by omega), if_neg (by omega), if_neg (by omega), if_neg (by omega), if_neg (by omega), if_neg (by omega), if_pos (by omega)]
        · rw [upd_ne _ _ (by omega), p1 q hq]
          by_cases u : q < y
          · rw [if_pos u, if_pos (show q < y + 1 by omega)]
          · rw [if_neg u, if_neg (show ¬ q < y + 1 by omega)]
      · rw [mup_same, upd_ne _ _ (by omega)]; exact p2 x hx
      · show 500 - (zI (y + 1)).toNatClampNeg < 500 - (zI y).toNatClampNeg
        rw [zI_clamp (by omega), zI_clamp (by omega)]; omega
  · rw [mup_same]
    by_cases w : q = l
    · rw [w, upd_same, if_neg (Nat.lt_irrefl _), if_pos rfl]
    · rw [upd_ne _ _ (by omega)]
      by_cases u : q < l
      · rw [if_pos u]
      · rw [if_neg u, if_neg w, if_neg (by omega)]
  · rw [mup_same, upd_ne _ _ (by omega)]
theorem Z2.s9_melts (M : MT n g T) (B : BT T) {t p : Nat} (ht : t < T.h) (hp : p < T.m t) {K : Int32 → Prop} (h0 : T.melt t p = none → K (-1)) (h1 : ∀ l, T.melt t p = some l → K (zI l)) : wp_X9_melts (zI t) (zI p) n g K := by
  have hh := B.h12
  have hs := B.im.h1
  have hm := B.m ht
  have hcap := B.im.cap
  have eh : n 13 = zI T.h := M.ch
  have ec : n 5 = zI T.cap := M.cap
  obtain ⟨e1, e2, e3⟩ := TT.ends B.im ht hp
  have hps : T.pgs t p ≤ 8000 := B.im.psz_le B.m4 (a := st (T.E t) p) ht e2
  refine ⟨by decide, ?_⟩
  rintro v rfl
  rw [eh, ec, show zI T.h - 1 = zI (T.h - 1) from zI_sub hs, show zI T.cap / (2 : Int32) = zI (T.cap / 2) from zI_div (a := T.cap) (b := 2) (by omega) (by omega)]
  refine ⟨fun z => ?_, fun z => s9_sizeOfPage M B ht hp ⟨fun y => ?_, fun y => ?_⟩⟩
  · rw [zI_inj (by omega) (by omega)] at z
    refine h0 ?_
    have a1 : ¬ T.adj t (p - 1) = true := fun x => by have := (B.im.adj_iff x).2.1; omega
    have a2 : ¬ T.adj t p = true := fun x => by have := (B.im.adj_iff x).2.1; omega
    unfold Tr.melt
    split
    · rw [if_neg (fun x => a1 x.2.1), if_neg (fun x => a2 x.1)]
    · rfl
  · rw [zI_lt (by omega) (by omega)] at y
    have sz : ∀ l, l + 1 < T.m t → T.psz t (st (T.E t) l) (T.E t (l + 1)) ≤ 8000 := fun l hl => B.im.psz_le B.m4 ht (TT.ends B.im ht hl).2.1
    have ask : ∀ (l : Nat) (z4 : Int32) {C : Int32 → Prop}, l < 400 → (T.adj t l = true → T.psz t (st (T.E t) l) (T.E t (l + 1)) ≤ T.cap → K (zI l)) → (¬ (T.adj t l = true ∧ T.psz t (st (T.E t) l) (T.E t (l + 1)) ≤ T.cap) → wp_X9_melts_113 (zI t) (zI p) z4 n g K C) → wp_X9_melts_50 (zI t) (zI p) z4 (zI l) n g K C := fun l z4 C hl a b => by
      refine s9_areSiblings M B ht hl (fun ha => ⟨fun x => absurd x (by decide), fun _ => ?_⟩) (fun ha => ⟨fun _ => b (fun x => ha x.1), fun x => absurd rfl x⟩)
      obtain ⟨l1, l2, l3⟩ := B.im.adj_iff ha
      obtain ⟨f1, f2, f3⟩ := TT.ends B.im ht (p := l) (by omega)
      obtain ⟨k1, k2, k3⟩ := TT.ends B.im ht l1
      have hst : T.E t l = st (T.E t) (l + 1) := (st_succ _ _).symm
      rw [st_succ] at k1 k3
      show vp_in ((400 : Int32) * zI t + zI l) (mlen 15) ∧ _
      rw [at_eq]
      refine rd (show 400 * t + l < 4800 by omega) (by decide) ?_
      rw [show zI l + 1 = zI (l + 1) from zI_add l 1]
      show vp_in ((400 : Int32) * zI t + zI (l + 1)) (mlen 15) ∧ _
      rw [at_eq]
      refine rd (show 400 * t + (l + 1) < 4800 by omega) (by decide) ?_
      rw [show g 15 (400 * t + l) = zI (T.E t l - st (T.E t) l) from M.pt t ht l (by omega), show g 15 (400 * t + (l + 1)) = zI (T.E t (l + 1) - T.E t l) by rw [hst]; exact M.pt t ht (l + 1) l1]
      rintro v rfl
      rw [zI_add]
      refine s9_firstOf M B ht (by omega) (s9_partSize M B ht (fun x => by have := k3 x; omega) (by omega) ?_)
      rw [show st (T.E t) l + (T.E t l - st (T.E t) l + (T.E t (l + 1) - T.E t l)) = T.E t (l + 1) by omega]
      have := sz l l1
      refine ⟨fun x => b (fun w => ?_), fun x => a ha ?_⟩
      · rw [ec, zI_lt (by omega) (by omega)] at x; omega
      · rw [ec, zI_lt (by omega) (by omega)] at x; omega
    -- 0, then 1, then the end
    have fin : ¬ (0 < p ∧ T.adj t (p - 1) = true ∧ T.psz t (st (T.E t) (p - 1)) (T.E t p) ≤ T.cap) → ¬ (T.adj t p = true ∧ T.psz t (st (T.E t) p) (T.E t (p + 1)) ≤ T.cap) → T.melt t p = none := fun a b => by
      unfold Tr.melt; rw [if_pos y, if_neg a, if_neg b]
    refine loopW_of (fun s => ∃ k, s = zI k ∧ k ≤ 2 ∧ (1 ≤ k → ¬ (0 < p ∧ T.adj t (p - 1) = true ∧ T.psz t (st (T.E t) (p - 1)) (T.E t p) ≤ T.cap)) ∧ (2 ≤ k → T.melt t p = none)) (fun s => 3 - s.toNatClampNeg) ?_ _ ⟨0, rfl, by omega, fun x => by omega, fun x => by omega⟩
    rintro C s ⟨k, rfl, hk, k1, k2⟩ hC
    have step : k + 1 ≤ 2 → (1 ≤ k + 1 → ¬ (0 < p ∧ T.adj t (p - 1) = true ∧ T.psz t (st (T.E t) (p - 1)) (T.E t p) ≤ T.cap)) → (2 ≤ k + 1 → T.melt t p = none) → wp_X9_melts_113 (zI t) (zI p) (zI k) n g K C := fun a b c => by
      rintro v rfl
      rw [show zI k + 1 = zI (k + 1) from zI_add k 1]
      refine hC _ ⟨k + 1, rfl, a, b, c⟩ ?_
      rw [zI_clamp (by omega), zI_clamp (by omega)]; omega
    refine ⟨fun z => ?_, fun z => ⟨fun w => ?_, fun w => ?_⟩⟩
    · rw [show (2 : Int32) = zI 2 from rfl, zI_le (by omega) (by omega)] at z
      exact h0 (k2 z)
    · rw [show (2 : Int32) = zI 2 from rfl, zI_le (by omega) (by omega)] at z
      rw [show (0 : Int32) = zI 0 from rfl, zI_inj (by omega) (by omega)] at w
      have hk1 : k = 1 := by omega
      have nl := k1 (by omega)
      refine ask p (zI k) (by omega) (fun a b => h1 p ?_) (fun a => step (by omega) (fun _ => nl) (fun _ => fin nl a))
      unfold Tr.melt; rw [if_pos y, if_neg nl, if_pos ⟨a, b⟩]
    · rw [show (0 : Int32) = zI 0 from rfl, zI_inj (by omega) (by omega)] at w
      rcases Nat.eq_zero_or_pos p with hp0 | hp0
      · rw [hp0]

        exact ⟨fun _ => ⟨fun _ => by rw [← hp0]; exact step (by omega) (fun _ x => by omega) (fun x => by omega), fun x => absurd rfl x⟩, fun x => absurd (by decide) x⟩
      · rw [show zI p - 1 = zI (p - 1) from zI_sub (show 1 ≤ p by omega)]
        have ep : p - 1 + 1 = p := by omega
        refine ask (p - 1) (zI k) (by omega) (fun a b => h1 (p - 1) ?_) (fun a => step (by omega) (fun _ x => a ⟨x.2.1, by rw [ep]; exact x.2.2⟩) (fun x => by omega))
        rw [ep] at b
        unfold Tr.melt; rw [if_pos y, if_pos ⟨hp0, a, b⟩]
  · rw [zI_lt (by omega) (by omega)] at y
    exact h0 (by unfold Tr.melt; rw [if_neg y])
/-- a merge with all that goes with it -/
theorem Z2.s9_join (M : MT n g T) (B : BT T) (Q : CT n T) {t l : Nat} (ha : T.adj t l = true) {y3 y4 : Int32} {K : Int32 → (Nat → Int32) → (Nat → Nat → Int32) → Prop} {C118 : Int32 × Int32 × Int32 × (Nat → Int32) × (Nat → Nat → Int32) → Prop} (hK : ∀ n' g', MT n' g' (T.join t l) → CT n' (T.join t l) → Kp n n' g g' → wp_X9_removes_214 y3 (zI (T.par t l)) 1 (zI t) n' g' K C118) : wp_X9_removes_153 y3 y4 (zI t) (zI l) 1 n g K C118 := by
  have hh := B.h12
  obtain ⟨l1, l2, l3⟩ := B.im.adj_iff ha
  have hm := B.m (t := t) (by omega)
  have hm1 := B.m (t := t + 1) l2
  obtain ⟨r1, r2, r3⟩ := B.im.pr l2 (p := l) (by omega)
  have hvS : ∀ i, i < T.m 0 - 1 → (T.S i).length ≤ 12 := fun i hi => (B.im.svk i (by omega)).1
  obtain ⟨S2, s1, s2, s3⟩ := M.sp.total hvS
  have hm4 := B.m4
  refine ⟨fun x => absurd x (by decide), fun _ => ?_⟩
  rw [show zI t + 1 = zI (t + 1) from zI_add t 1, show zI l + 1 = zI (l + 1) from zI_add l 1]
  refine s9_pageOf M B (t := t + 1) l2 (by rw [if_neg (by omega), Nat.add_sub_cancel]; omega) (s9_joins (m := T.m t) (by omega) l1 hm (M.m t (by omega)) (fun _ => ⟨S2, s1, s3⟩) (fun g5 P => ?_))
  obtain ⟨q1, q2, q3, q4, q5, q6⟩ := P
  show vp_in ((400 : Int32) * zI (t + 1) + zI (T.par t l)) (mlen 15) ∧ ∀ v_17 : Int32, v_17 = g5 15 ((400 : Int32) * zI (t + 1) + zI (T.par t l)).toNatClampNeg → vp_in ((400 : Int32) * zI (t + 1) + zI (T.par t l)) (mlen 15) ∧ ∀ g_19 : Nat → Nat → Int32, g_19 = mup g5 15 ((400 : Int32) * zI (t + 1) + zI (T.par t l)).toNatClampNeg (v_17 - 1) → _
  rw [at_eq]
  have e15a : g5 15 (400 * (t + 1) + T.par t l) = zI (T.E (t + 1) (T.par t l) - st (T.E (t + 1)) (T.par t l)) := by
    rw [q3 _ (by omega)]; exact M.pt (t + 1) l2 _ r1
  have hlt := B.im.st_lt (t := t + 1) (by omega) l2 r1
  refine rd (show 400 * (t + 1) + T.par t l < 4800 by omega) (by decide) (wr (show 400 * (t + 1) + T.par t l < 4800 by omega) (by decide) ?_)
  rw [e15a, show zI (T.E (t + 1) (T.par t l) - st (T.E (t + 1)) (T.par t l)) - 1 = zI (T.E (t + 1) (T.par t l) - st (T.E (t + 1)) (T.par t l) - 1) from zI_sub (show 1 ≤ T.E (t + 1) (T.par t l) - st (T.E (t + 1)) (T.par t l) by omega)]
  rintro n2 rfl
  have nn : ∀ k, k ≠ 8 → upd n 8 (n 8 + 1) k = n k := fun k hk => upd_ne _ _ hk
  have Ea : (T.join t l).E t = del (T.E t) l := by
    show stt (stt T.E t _) (t + 1) _ t = _
    rw [stt_ne _ _ (by omega), stt_same]
  have Eb : (T.join t l).E (t + 1) = subF (T.E (t + 1)) (T.par t l) := stt_same (stt T.E t _) (t + 1) _
  have Ec : ∀ u, u ≠ t → u ≠ t + 1 → (T.join t l).E u = T.E u := fun u g1 g2 => by
    show stt (stt T.E t _) (t + 1) _ u = _
    rw [stt_ne _ _ g2, stt_ne _ _ g1]
  have ma : (T.join t l).m t = T.m t - 1 := T.join_m t l
  have mb : ∀ u, u ≠ t → (T.join t l).m u = T.m u := fun u hu => T.join_mne hu
  refine hK _ _ (MT.mk2 (U := T.join t l) ?_ ?_ ?_ (fun i hi => ?_) (fun i hi => ?_) (fun i hi => ?_) (fun u hu => ?_) (fun u hu q hq => ?_) ?_) ⟨?_, ?_, ?_⟩ ⟨fun k a b c d => nn k c, fun k a b c d => ?_⟩
  · rw [nn 5 (by decide)]; exact M.cap
  · rw [nn 9 (by decide)]; exact M.cn
  · rw [nn 13 (by decide)]; exact M.ch
  · rw [mup_ne _ _ _ (by decide), q4 10 (by decide) (by decide) (by decide) (by decide)]; exact M.sz i hi
  · intro j hj; rw [mup_ne _ _ _ (by decide), q4 11 (by decide) (by decide) (by decide) (by decide)]; exact M.kb i hi j hj
  · rw [mup_ne _ _ _ (by decide), q4 12 (by decide) (by decide) (by decide) (by decide)]; exact M.vs i hi
  · have hu : u < T.h := hu
    rw [mup_ne _ _ _ (by decide), q1]
    by_cases x : u = t
    · subst x; rw [upd_same, ma]
    · rw [upd_ne _ _ x, mb u x]; exact M.m u hu
  · have hu : u < T.h := hu
    have hmu := B.m (t := u) hu
    rw [mup_same]
    by_cases x : u = t
    · subst x
      rw [ma] at hq
      rw [upd_ne _ _ (by omega), q2 q (by omega), Ea, st_del]
      have e15 : ∀ q, q < T.m u → g 15 (400 * u + q) = zI (T.E u q - st (T.E u) q) := fun q hq => M.pt u hu q hq
      have hle := fun q hq => (TT.ends B.im hu (p := q) hq).1
      rcases Nat.lt_trichotomy q l with w | w | w
      · rw [if_pos w, if_pos (by omega), del_lt _ w]; exact e15 q (by omega)
      · subst w
        rw [if_neg (Nat.lt_irrefl _), if_pos rfl, if_pos (Nat.le_refl _), del_ge _ (Nat.le_refl _), e15 q (by omega), e15 (q + 1) l1, zI_add, st_succ]
        have a := hle q (by omega)
        have b := hle (q + 1) l1
        rw [st_succ] at b
        congr 1; omega
      · rw [if_neg (by omega), if_neg (by omega), if_neg (by omega), del_ge _ (by omega), e15 (q + 1) (by omega), st_succ]
    · rw [mb u x] at hq
      by_cases y : u = t + 1
      · subst y
        rw [Eb, st_subF]
        have e15q : g5 15 (400 * (t + 1) + q) = zI (T.E (t + 1) q - st (T.E (t + 1)) q) := by
          rw [q3 _ (by omega)]; exact M.pt (t + 1) hu q hq
        have hle := (TT.ends B.im hu hq).1
        unfold subF
        rcases Nat.lt_trichotomy q (T.par t l) with w | w | w
        · rw [upd_ne _ _ (by omega), if_neg (by omega), if_neg (by omega)]; exact e15q
        · rw [w, upd_same, if_pos (Nat.le_refl _), if_neg (Nat.lt_irrefl _)]
          congr 1; omega
        · rw [upd_ne _ _ (by omega), if_pos (by omega), if_pos w, e15q]
          have h0 : 1 ≤ st (T.E (t + 1)) q := by
            have : st (T.E (t + 1)) q = T.E (t + 1) (q - 1) := by unfold st; rw [if_neg (by omega)]
            rw [this]
            have := B.im.E_pos (t := t) l2 (i := q - 1) (by omega)
            omega
          congr 1; omega
      · rw [upd_ne _ _ (by omega), q3 _ (by omega), Ec u x y]
        exact M.pt u hu q hq
  · by_cases x : t = 0
    · subst x
      have s5 := q6 rfl S2 s1 s3
      have e : (T.join 0 l).S = del T.S l := by
        show (if 0 = 0 then del T.S l else T.S) = _
        exact if_pos rfl
      rw [e, ma]
      refine (s5.same (mup_ne _ _ _ (by decide)) (mup_ne _ _ _ (by decide))).congr (by omega) (fun i hi => ?_)
      unfold shD del
      by_cases w : i < l
      · rw [if_neg (by omega), if_pos w]; exact s2 i (by omega)
      · rw [if_pos (by omega), if_neg w]; exact s2 (i + 1) (by omega)
    · have e : (T.join t l).S = T.S := if_neg x
      rw [e, mb 0 (by omega)]
      obtain ⟨z1, z2⟩ := q5 x
      exact M.sp.same (by rw [mup_ne _ _ _ (by decide)]; exact z1) (by rw [mup_ne _ _ _ (by decide)]; exact z2)
  · rw [nn 6 (by decide)]; exact Q.1
  · rw [nn 7 (by decide)]; exact Q.2.1
  · rw [upd_same, Q.2.2]; exact zI_add _ 1
  · rw [mup_ne _ _ _ b]; exact q4 k a b c d
theorem Z2.s9_coll (v : Int32) {R : Tr} {n0 : Nat → Int32} {g0 : Nat → Nat → Int32} {K : Int32 → (Nat → Int32) → (Nat → Nat → Int32) → Prop} (hK : ∀ n' , MT n' g R → CT n' R → Kp n0 n' g0 g → K v n' g) (M : MT n g T) (B : BT T) (Q : CT n T) (P : Kp n0 n g0 g) (hR : Tr.coll T.h T = R) : ∃ m, loopW (wp_X9_removes_220 v K) m (n, g) := by
  refine loopW_of (fun s => ∃ n1 T1 k, s = (n1, g) ∧ MT n1 g T1 ∧ BT T1 ∧ CT n1 T1 ∧ Kp n0 n1 g0 g ∧ T1.h ≤ k ∧ Tr.coll k T1 = R) (fun s => (s.1 13).toNatClampNeg) ?_ _ ⟨n, T, T.h, rfl, M, B, Q, P, Nat.le_refl _, hR⟩
  rintro C s ⟨n1, T1, k, rfl, M1, B1, Q1, P1, hk, hR1⟩ hC
  have h1 := B1.im.h1
  have hh := B1.h12
  have eh : n1 13 = zI T1.h := M1.ch
  obtain ⟨k, rfl⟩ : ∃ j, k = j + 1 := ⟨k - 1, by omega⟩
  have hR1 : (if 1 < T1.h ∧ T1.E (T1.h - 1) 0 = 1 then Tr.coll k (Tr.mk T1.cap T1.n T1.ks T1.vs (T1.h - 1) T1.m T1.E T1.S T1.c0 T1.c1 T1.c2) else T1) = R := hR1
  refine ⟨fun z => ?_, fun z => ?_⟩
  · rw [eh, show (1 : Int32) = zI 1 from rfl, zI_le (by omega) (by omega)] at z
    rw [if_neg (by omega)] at hR1
    subst hR1
    exact hK n1 M1 Q1 P1
  · rw [eh, show (1 : Int32) = zI 1 from rfl, zI_le (by omega) (by omega)] at z
    rw [eh, show zI T1.h - 1 = zI (T1.h - 1) from zI_sub h1]
    show vp_in ((400 : Int32) * zI (T1.h - 1) + 0) (mlen 15) ∧ _
    rw [show (400 : Int32) * zI (T1.h - 1) + 0 = zI (400 * (T1.h - 1)) from at_eq (T1.h - 1) 0]
    have e15 : g 15 (400 * (T1.h - 1)) = zI (T1.E (T1.h - 1) 0) := M1.pt (T1.h - 1) (by omega) 0 (by rw [B1.im.top]; omega)
    have hE := B1.E (t := T1.h - 1) (q := 0) (by omega) (by rw [B1.im.top]; omega)
    refine rd (show 400 * (T1.h - 1) < 4800 by omega) (by decide) ?_
    rw [e15]
    refine ⟨fun y => ?_, fun y => ?_⟩
    · rw [if_neg (fun x => y (by rw [x.2]; rfl))] at hR1
      subst hR1
      exact hK n1 M1 Q1 P1
    · rw [show (1 : Int32) = zI 1 from rfl, zI_inj (by omega) (by omega)] at y
      rw [if_pos ⟨by omega, y⟩] at hR1
      rintro n2 rfl
      have I2 := B1.im.coll1 (by omega) y
      refine hC _ ⟨_, Tr.mk T1.cap T1.n T1.ks T1.vs (T1.h - 1) T1.m T1.E T1.S T1.c0 T1.c1 T1.c2, k, rfl, MT.mk2 (U := Tr.mk T1.cap T1.n T1.ks T1.vs (T1.h - 1) T1.m T1.E T1.S T1.c0 T1.c1 T1.c2) ?_ ?_ (upd_same _ _ _) M1.sz M1.kb M1.vs (fun t ht => M1.m t (by have ht : t < T1.h - 1 := ht; omega)) (fun t ht q hq => M1.pt t (by have ht : t < T1.h - 1 := ht; omega) q hq) M1.sp, BT.mk I2 B1.m4 (by show T1.h - 1 ≤ 12; omega), ⟨?_, ?_, ?_⟩, P1.trans ⟨fun k a b c d => upd_ne _ _ d, fun _ _ _ _ _ => rfl⟩, by show T1.h - 1 ≤ k; omega, hR1⟩ ?_
      · rw [upd_ne _ _ (by decide)]; exact M1.cap
      · rw [upd_ne _ _ (by decide)]; exact M1.cn
      · rw [upd_ne _ _ (by decide)]; exact Q1.1
      · rw [upd_ne _ _ (by decide)]; exact Q1.2.1
      · rw [upd_ne _ _ (by decide)]; exact Q1.2.2
      · show (upd n1 13 (zI (T1.h - 1)) 13).toNatClampNeg < (n1 13).toNatClampNeg
        rw [upd_same, eh, zI_clamp (by omega), zI_clamp (by omega)]; omega
theorem Z2.s9_down (v : Int32) {R : Tr} {n0 : Nat → Int32} {g0 : Nat → Nat → Int32} {K : Int32 → (Nat → Int32) → (Nat → Nat → Int32) → Prop} (hK : ∀ n' g', MT n' g' R → CT n' R → Kp n0 n' g0 g' → K v n' g') (M : MT n g T) (B : BT T) (Q : CT n T) (P : Kp n0 n g0 g) {q : Nat} (hq : q < T.m 0) (hR : Tr.coll (Tr.down (T.h - 1) T 0 q).h (Tr.down (T.h - 1) T 0 q) = R) : ∃ m, loopW (wp_X9_removes_118 v K) m (zI q, 1, 0, n, g) := by
  refine loopW_of (fun s => ∃ q z t n1 g1 T1, s = (zI q, z, zI t, n1, g1) ∧ MT n1 g1 T1 ∧ BT T1 ∧ CT n1 T1 ∧ Kp n0 n1 g0 g1 ∧ t ≤ T1.h ∧ ((z = 0 ∧ Tr.coll T1.h T1 = R) ∨ (z = 1 ∧ t + 1 ≤ T1.h ∧ q < T1.m t ∧ Tr.coll (Tr.down (T1.h - 1 - t) T1 t q).h (Tr.down (T1.h - 1 - t) T1 t q) = R))) (fun s => 3 * (20 - s.2.2.1.toNatClampNeg) + s.2.1.toNatClampNeg) ?_ _ ⟨q, 1, 0, n, g, T, rfl, M, B, Q, P, Nat.zero_le _, Or.inr ⟨rfl, B.im.h1, hq, hR⟩⟩
  rintro C s ⟨q, z, t, n1, g1, T1, rfl, M1, B1, Q1, P1, ht0, hz⟩ hC
  have hh := B1.h12
  have eh : n1 13 = zI T1.h := M1.ch
  rcases hz with ⟨rfl, hR1⟩ | ⟨rfl, ht, hq1, hR1⟩
  · exact ⟨fun _ => s9_coll v (fun n' a b c => hK n' g1 a b c) M1 B1 Q1 P1 hR1, fun x => absurd rfl x⟩
  · refine ⟨fun x => absurd x (by decide), fun _ => ⟨fun x => ?_, fun x => ?_⟩⟩
    · rw [eh, zI_le (by omega) (by omega)] at x; omega
    · refine s9_melts M1 B1 (t := t) (by omega) hq1 (fun e => ⟨fun _ => ⟨fun _ => ?_, fun y => absurd rfl y⟩, fun y => absurd rfl y⟩) (fun l e => ⟨fun y => ?_, fun _ => ?_⟩)
      · rintro v1 rfl
        rw [show zI t + 1 = zI (t + 1) from zI_add t 1]
        have ed : Tr.down (T1.h - 1 - t) T1 t q = T1 := by
          cases hk : T1.h - 1 - t with
          | zero => rfl
          | succ k =>
            show (match T1.melt t q with
              | none => T1
              | some l => Tr.down k (T1.join t l) (t + 1) (T1.par t q)) = T1
            rw [e]
        rw [ed] at hR1
        refine hC _ ⟨q, 0, t + 1, n1, g1, T1, rfl, M1, B1, Q1, P1, ht, Or.inl ⟨rfl, hR1⟩⟩ ?_
        show 3 * (20 - (zI (t + 1)).toNatClampNeg) + (0 : Int32).toNatClampNeg < 3 * (20 - (zI t).toNatClampNeg) + (1 : Int32).toNatClampNeg
        rw [zI_clamp (by omega), zI_clamp (by omega)]
        have a : (0 : Int32).toNatClampNeg = 0 := rfl
        have b : (1 : Int32).toNatClampNeg = 1 := rfl
        omega
      · obtain ⟨m1, m2, m3⟩ := Tr.melt_spec B1.im e
        have := (B1.im.adj_iff m1).1
        have := B1.m (t := t) (by omega)
        have y1 := congrArg Int32.toInt y
        rw [zI_toInt (by omega)] at y1
        have e1 : (-1 : Int32).toInt = -1 := rfl
        omega
      · obtain ⟨m1, m2, m3⟩ := Tr.melt_spec B1.im e
        obtain ⟨a1, a2, a3⟩ := B1.im.adj_iff m1
        refine s9_join M1 B1 Q1 m1 (fun n2 g2 M2 Q2 P2 => ?_)
        rintro v1 rfl
        rw [show zI t + 1 = zI (t + 1) from zI_add t 1, ← m3]
        have hpr := B1.im.pr (t := t) a2 hq1
        have en : T1.h - 1 - t = (T1.h - 1 - (t + 1)) + 1 := by omega
        rw [en] at hR1
        have ed : Tr.down (T1.h - 1 - (t + 1) + 1) T1 t q = Tr.down ((T1.join t l).h - 1 - (t + 1)) (T1.join t l) (t + 1) (T1.par t q) := by
          show (match T1.melt t q with
          | none => T1
          | some l => Tr.down (T1.h - 1 - (t + 1)) (T1.join t l) (t + 1) (T1.par t q)) = _
          rw [e]; rfl
        rw [ed] at hR1
        have hmt : (T1.join t l).m 0 ≤ T1.m 0 := by
          show stt T1.m t (T1.m t - 1) 0 ≤ _
          unfold stt; split
          · rename_i x; rw [x]; omega
          · exact Nat.le_refl _
        have hm4 := B1.m4
        have B2 : BT (T1.join t l) := BT.mk (B1.im.join m1) (by omega) hh
        refine hC _ ⟨_, 1, t + 1, n2, g2, _, rfl, M2, B2, Q2, P1.trans P2, by show t + 1 ≤ T1.h; omega, Or.inr ⟨rfl, by show t + 1 + 1 ≤ T1.h; omega, ?_, hR1⟩⟩ ?_
        · rw [Tr.join_mne _ (by omega)]; exact hpr.1
        · show 3 * (20 - (zI (t + 1)).toNatClampNeg) + (1 : Int32).toNatClampNeg < 3 * (20 - (zI t).toNatClampNeg) + (1 : Int32).toNatClampNeg
          rw [zI_clamp (by omega), zI_clamp (by omega)]; omega
theorem Z2.s9_removes71 {pos q : Nat} {v : Int32} (M : MT n g T) (B : BT T) (Q : CT n T) (hq : q < T.m 0) {R : Tr} (hR : Tr.coll (Tr.down (T.h - 1) T 0 q).h (Tr.down (T.h - 1) T 0 q) = R) {K : Int32 → (Nat → Int32) → (Nat → Nat → Int32) → Prop} (hK : ∀ n' g', MT n' g' R → CT n' R → (∀ k, k ≠ 6 → k ≠ 7 → k ≠ 8 → k ≠ 13 → n' k = n k) → (∀ k, k ≠ 14 → k ≠ 15 → k ≠ 16 → k ≠ 17 → k ≠ 18 → g' k = g k) → (∀ i, i < 4 → g' 18 i = if g 18 i ≤ zI pos then g 18 i else g 18 i - 1) → K v n' g') : ∃ m, loopW (wp_X9_removes_71 (zI pos) (zI q) v K) m (0, n, g) := by
  refine loopW_of (fun s => ∃ j g1, s = (zI j, n, g1) ∧ j ≤ 4 ∧ (∀ i, i < 4 → g1 18 i = if i < j then (if g 18 i ≤ zI pos then g 18 i else g 18 i - 1) else g 18 i) ∧ ∀ k, k ≠ 18 → g1 k = g k) (fun s => 20 - s.1.toNatClampNeg) ?_ _ ⟨0, g, rfl, Nat.zero_le _, fun i hi => by rw [if_neg (by omega)], fun _ _ => rfl⟩
  rintro C s ⟨j, g1, rfl, hj, p1, p2⟩ hC
  refine ⟨fun z => ?_, fun z => ?_⟩
  · rw [show (4 : Int32) = zI 4 from rfl, zI_le (by omega) (by omega)] at z
    have M1 : MT n g1 T := by
      refine MT.mk2 M.cap M.cn M.ch (fun i hi => ?_) (fun i hi => ?_) (fun i hi => ?_) (fun t ht => ?_) (fun t ht q hq => ?_) (M.sp.same (p2 16 (by decide)) (p2 17 (by decide)))
      · rw [p2 10 (by decide)]; exact M.sz i hi
      · intro j hj; rw [p2 11 (by decide)]; exact M.kb i hi j hj
      · rw [p2 12 (by decide)]; exact M.vs i hi
      · rw [p2 14 (by decide)]; exact M.m t ht
      · rw [p2 15 (by decide)]; exact M.pt t ht q hq
    refine s9_down v (fun n2 g2 M2 Q2 P2 => hK n2 g2 M2 Q2 P2.1 (fun k a b c d e => ?_) (fun i hi => ?_)) M1 B Q (Kp.refl n g1) hq hR
    · rw [P2.2 k a b c d]; exact p2 k e
    · rw [P2.2 18 (by decide) (by decide) (by decide) (by decide), p1 i hi, if_pos (by omega)]
  · rw [show (4 : Int32) = zI 4 from rfl, zI_le (by omega) (by omega)] at z
    have e18 : g1 18 j = g 18 j := by rw [p1 j (by omega), if_neg (by omega)]
    have hlt : 20 - (zI (j + 1)).toNatClampNeg < 20 - (zI j).toNatClampNeg := by rw [zI_clamp (by omega), zI_clamp (by omega)]; omega
    have fin : ∀ z0 u : Int32, u - z0 = (if g 18 j ≤ zI pos then g 18 j else g 18 j - 1) → wp_X9_removes_101 (zI pos) (zI q) v (zI j) z0 u (zI j) 18 n g1 K C := fun z0 u e => by
      refine ⟨by decide, wr (show j < 4 by omega) (by decide) ?_⟩
      rintro v rfl
      rw [show zI j + 1 = zI (j + 1) from zI_add j 1, e]
      refine hC _ ⟨j + 1, _, rfl, by omega, fun i hi => ?_, fun k hk => by rw [mup_ne _ _ _ hk]; exact p2 k hk⟩ hlt
      rw [mup_same]
      by_cases y : i = j
      · rw [y, upd_same, if_pos (show j < j + 1 by omega)]
      · rw [upd_ne _ _ y, p1 i hi]
        by_cases w : i < j
        · rw [if_pos w, if_pos (show i < j + 1 by omega)]
        · rw [if_neg w, if_neg (show ¬ i < j + 1 by omega)]
    refine rd (show j < 4 by omega) (by decide) (rd (show j < 4 by omega) (by decide) ⟨fun y => fin 0 _ ?_, fun y => fin 1 _ ?_⟩)
    · rw [e18] at y ⊢
      rw [if_pos y, Int32.sub_zero]
    · rw [e18] at y ⊢
      rw [if_neg y]
theorem Z2.s9_removes (M : MT n g T) (B : BT T) (Q : CT n T) {pos : Nat} (hp : pos < T.n) {K : Int32 → (Nat → Int32) → (Nat → Nat → Int32) → Prop} (hK : ∀ n' g', MT n' g' (T.remove pos) → CT n' (T.remove pos) → Kq n n' g g' → n' 0 = n 0 → (∀ i, i < 4 → g' 18 i = if g 18 i ≤ zI pos then g 18 i else g 18 i - 1) → K (T.vs pos) n' g') : wp_X9_removes (zI pos) n g K := by
  have hn3 := B.im.n3
  have hs := B.im.h1
  have ecn : n 9 = zI T.n := M.cn
  obtain ⟨g1, g2, g3⟩ := B.im.pg (t := 0) (x := pos) (by omega) (by rw [if_pos rfl]; exact hp)
  have J := B.im.leafDel hp
  refine s9_pageOf M B (t := 0) (by omega) (by rw [if_pos rfl]; exact hp) (rd (show pos < 300 by omega) (by decide) ?_)
  rw [show g 12 pos = T.vs pos from M.vs pos hp]
  have eR : Tr.coll (Tr.down ((T.leafDel pos (T.pgOf 0 pos)).h - 1) (T.leafDel pos (T.pgOf 0 pos)) 0 (T.pgOf 0 pos)).h (Tr.down ((T.leafDel pos (T.pgOf 0 pos)).h - 1) (T.leafDel pos (T.pgOf 0 pos)) 0 (T.pgOf 0 pos)) = T.remove pos := rfl
  generalize T.pgOf 0 pos = leaf at *
  refine loopW_of (fun s => ∃ y g5, s = (zI y, n, g5) ∧ pos ≤ y ∧ y + 1 ≤ T.n ∧ (∀ i, i < T.n → (i < pos → EP g5 i (T.ks i) (T.vs i)) ∧ (pos ≤ i → i < y → EP g5 i (T.ks (i + 1)) (T.vs (i + 1))) ∧ (y ≤ i → EP g5 i (T.ks i) (T.vs i))) ∧ ∀ k, k ≠ 10 → k ≠ 11 → k ≠ 12 → g5 k = g k) (fun s => 400 - s.1.toNatClampNeg) ?_ _ ⟨pos, g, rfl, Nat.le_refl _, by omega, fun i hi => ⟨fun _ => M.ep hi, fun a b => by omega, fun _ => M.ep hi⟩, fun _ _ _ _ => rfl⟩
  rintro C s ⟨y, g5, rfl, y1, y2, p1, p2⟩ hC
  refine ⟨fun z => ?_, fun z => ?_⟩
  · rw [ecn, show zI T.n - 1 = zI (T.n - 1) from zI_sub (show 1 ≤ T.n by omega), zI_le (by omega) (by omega)] at z
    have ey : y = T.n - 1 := by omega
    rintro n2 rfl
    rw [ecn, show zI T.n - 1 = zI (T.n - 1) from zI_sub (show 1 ≤ T.n by omega)]
    show vp_in ((400 : Int32) * 0 + zI leaf) (mlen 15) ∧ _
    rw [at0]
    have hm0 := B.m4
    have e15 : g5 15 leaf = zI (T.E 0 leaf - st (T.E 0) leaf) := by
      rw [p2 15 (by decide) (by decide) (by decide)]
      have := M.pt 0 (by omega) leaf g1
      rw [Nat.mul_zero, Nat.zero_add] at this; exact this
    refine rd (show leaf < 4800 by omega) (by decide) (wr (show leaf < 4800 by omega) (by decide) ?_)
    rw [e15, show zI (T.E 0 leaf - st (T.E 0) leaf) - 1 = zI (T.E 0 leaf - st (T.E 0) leaf - 1) from zI_sub (show 1 ≤ T.E 0 leaf - st (T.E 0) leaf by omega)]
    have hB : BT (T.leafDel pos leaf) := BT.mk J B.m4 B.h12
    have k3 : ∀ k, k ≠ 10 → k ≠ 11 → k ≠ 12 → k ≠ 15 → mup g5 15 leaf (zI (T.E 0 leaf - st (T.E 0) leaf - 1)) k = g k := fun k a b c d => by
      rw [mup_ne _ _ _ d, p2 k a b c]
    have ek : ∀ i, i < T.n - 1 → EP g5 i (del T.ks pos i) (del T.vs pos i) := fun i hi => by
      obtain ⟨a, b, c⟩ := p1 i (by omega)
      by_cases w : i < pos
      · rw [del_lt _ w, del_lt _ w]; exact a w
      · rw [del_ge _ (by omega), del_ge _ (by omega)]; exact b (by omega) (by omega)
    have M3 : MT (upd n 9 (zI (T.n - 1))) (mup g5 15 leaf (zI (T.E 0 leaf - st (T.E 0) leaf - 1))) (T.leafDel pos leaf) := by
      refine MT.mk2 (U := T.leafDel pos leaf) ?_ (upd_same _ _ _) ?_ (fun i hi => ?_) (fun i hi => ?_) (fun i hi => ?_) (fun t ht => ?_) (fun t ht q hq => ?_) ?_
      · rw [upd_ne _ _ (by decide)]; exact M.cap
      · rw [upd_ne _ _ (by decide)]; exact M.ch
      · rw [mup_ne _ _ _ (by decide)]; exact (ek i hi).1
      · intro j hj; rw [mup_ne _ _ _ (by decide)]; exact (ek i hi).2.1 j hj
      · rw [mup_ne _ _ _ (by decide)]; exact (ek i hi).2.2
      · rw [k3 14 (by decide) (by decide) (by decide) (by decide)]; exact M.m t ht
      · show mup g5 15 leaf (zI (T.E 0 leaf - st (T.E 0) leaf - 1)) 15 (400 * t + q) = zI (stt T.E 0 (subF (T.E 0) leaf) t q - st (stt T.E 0 (subF (T.E 0) leaf) t) q)
        have hq : q < T.m t := hq
        have hmt := B.m (t := t) ht
        have e0 : g5 15 (400 * t + q) = zI (T.E t q - st (T.E t) q) := by
          rw [p2 15 (by decide) (by decide) (by decide)]; exact M.pt t ht q hq
        rw [mup_same]
        by_cases w : t = 0
        · subst w
          rw [stt_same, st_subF]
          have hle := (TT.ends B.im ht hq).1
          rw [Nat.mul_zero, Nat.zero_add] at e0 ⊢
          unfold subF
          rcases Nat.lt_trichotomy q leaf with w | w | w
          · rw [upd_ne _ _ (by omega), if_neg (by omega), if_neg (by omega)]; exact e0
          · rw [w, upd_same, if_pos (Nat.le_refl _), if_neg (Nat.lt_irrefl _)]
            rw [w] at hle
            congr 1; omega
          · rw [upd_ne _ _ (by omega), if_pos (by omega), if_pos w, e0]
            have h0 : T.E 0 leaf ≤ st (T.E 0) q := by
              have : st (T.E 0) q = T.E 0 (q - 1) := by unfold st; rw [if_neg (by omega)]
              rw [this]; exact B.im.mono leaf (q - 1) (by omega) (by omega)
            congr 1; omega
        · rw [stt_ne _ _ w, upd_ne _ _ (by omega)]; exact e0
      · exact M.sp.same (k3 16 (by decide) (by decide) (by decide) (by decide)) (k3 17 (by decide) (by decide) (by decide) (by decide))
    have Q3 : CT (upd n 9 (zI (T.n - 1))) (T.leafDel pos leaf) := ⟨by rw [upd_ne _ _ (by decide)]; exact Q.1, by rw [upd_ne _ _ (by decide)]; exact Q.2.1, by rw [upd_ne _ _ (by decide)]; exact Q.2.2⟩
    refine s9_removes71 M3 hB Q3 g1 eR (fun n4 g4 M4 Q4 a4 b4 c4 => hK n4 g4 M4 Q4 ⟨fun k a b c d e f => ?_, fun k a b c d e f h i => ?_⟩ ?_ (fun i hi => ?_))
    · rw [a4 k b c d f, upd_ne _ _ e]
    · rw [b4 k d e f h i, k3 k a b c e]
    · rw [a4 0 (by decide) (by decide) (by decide) (by decide), upd_ne _ _ (by decide)]
    · rw [c4 i hi, k3 18 (by decide) (by decide) (by decide) (by decide)]
  · rw [ecn, show zI T.n - 1 = zI (T.n - 1) from zI_sub (show 1 ≤ T.n by omega), zI_le (by omega) (by omega)] at z
    rw [show zI y + 1 = zI (y + 1) from zI_add y 1]
    refine s9_entryTo (by omega) (by omega) (by omega) (fun g6 P6 => ?_)
    rintro v1 rfl
    have vk : ∀ i, i < T.n → (T.ks i).length ≤ 12 := fun i hi => (B.im.vk i hi).1
    refine hC _ ⟨y + 1, g6, rfl, by omega, by omega, fun i hi => ⟨fun a => P6.keep ((p1 i hi).1 a) (vk i hi) (by omega), fun a b => ?_, fun a => P6.keep ((p1 i hi).2.2 (by omega)) (vk i hi) (by omega)⟩, fun k a b c => by rw [P6.2.2.2.2 k a b c]; exact p2 k a b c⟩ ?_
    · by_cases w : i = y
      · subst w
        exact P6.put ((p1 (i + 1) (by omega)).2.2 (by omega)) (vk (i + 1) (by omega))
      · exact P6.keep ((p1 i hi).2.1 a (by omega)) (vk (i + 1) (by omega)) w
    · show 400 - (zI (y + 1)).toNatClampNeg < 400 - (zI y).toNatClampNeg
      rw [zI_clamp (by omega), zI_clamp (by omega)]; omega
end
