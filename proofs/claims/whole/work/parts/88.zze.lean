/-! the reference: separator, setKey -/
/-- a byte of a long, counted from its end -/
def Z2.kbyte (w : Int64) (k : Nat) : Int32 := Int64.toInt32 ((lushr w ((8 : Int32) * zI k)) &&& (127 : Int64))
def Z2.kyOf (w : Int64) (c : Nat) : Key := (List.range c).map (fun j => kbyte w (c - 1 - j))
theorem Z2.kyOf_len (w : Int64) (c : Nat) : (kyOf w c).length = c := by unfold kyOf; rw [List.length_map, List.length_range]
theorem Z2.kyOf_get (w : Int64) (c : Nat) {j : Nat} (h : j < c) : (kyOf w c).getD j 0 = kbyte w (c - 1 - j) := by
  unfold kyOf
  rw [List.getD_eq_getElem?_getD, List.getElem?_map, List.getElem?_range h]
  rfl
section
variable {n : Nat → Int32} {g : Nat → Nat → Int32} {T : Z2.Tr} {ky : Z2.Key}
theorem Z2.s9_setKey {w : Int64} {x : Int32} {K : Int32 → (Nat → Int32) → (Nat → Nat → Int32) → Prop} (h1 : (∀ c, c ≤ 8 → x ≠ zI c) → K 0 (upd n 0 1) g) (h0 : ∀ c, c ≤ 8 → x = zI c → ∀ g', KA g' 2 0 (kyOf w c) → (∀ k, k ≠ 2 → g' k = g k) → K (zI (cnt (fun j => dec (kbyte w (c - 1 - j) = 0)) c)) (upd (upd n 1 (zI c)) 0 0) g') : wp_X9_setKey w x n g K := by
  refine s9_in (fun z => ⟨fun y => absurd rfl y, fun _ => ?_⟩) (fun a b => ⟨fun _ => ?_, fun y => absurd y (by decide)⟩)
  · rintro n1 rfl
    refine h1 (fun c hc e => z ?_)
    rw [e, show (0 : Int32) = zI 0 from rfl, show (8 : Int32) = zI 8 from rfl, zI_le (by omega) (by omega), zI_le (by omega) (by omega)]; omega
  · obtain ⟨c, hc, e⟩ := asZ (N := 8) (by decide) a b
    replace h0 := h0 c hc e
    subst e
    rintro n1 rfl
    refine loopW_of (fun s => ∃ j g1, s = (zI (cnt (fun j => dec (kbyte w (c - 1 - j) = 0)) j), zI j, upd n 1 (zI c), g1) ∧ j ≤ c ∧ (∀ i, i < j → g1 2 i = kbyte w (c - 1 - i)) ∧ ∀ k, k ≠ 2 → g1 k = g k) (fun s => 20 - s.2.1.toNatClampNeg) ?_ _ ⟨0, g, rfl, Nat.zero_le _, fun i hi => absurd hi (Nat.not_lt_zero i), fun _ _ => rfl⟩
    rintro C s ⟨j, g1, rfl, hj, p1, p2⟩ hC
    refine ⟨fun z => ?_, fun z => ?_⟩
    · rw [zI_le (by omega) (by omega)] at z
      have ej : j = c := by omega
      subst ej
      rintro n2 rfl
      refine h0 g1 (fun i hi => ?_) p2
      rw [kyOf_len] at hi
      rw [Nat.zero_add, p1 i hi, kyOf_get w _ hi]
    · rw [zI_le (by omega) (by omega)] at z
      refine wr (show j < 12 by omega) (by decide) (rd (show j < 12 by omega) (by decide) ?_)
      rw [mup_same, upd_same, show zI c - 1 = zI (c - 1) from zI_sub (show 1 ≤ c by omega), show zI (c - 1) - zI j = zI (c - 1 - j) from zI_sub (show j ≤ c - 1 by omega)]
      have nx : ∀ (q : Nat) (d : Int32), d = zI q → q = (if dec (kbyte w (c - 1 - j) = 0) = true then 1 else 0) → wp_X9_setKey_73 w (zI c) (zI j) d (zI (cnt (fun j => dec (kbyte w (c - 1 - j) = 0)) j)) (upd n 1 (zI c)) (mup g1 2 j (kbyte w (c - 1 - j))) K C := fun q d hd hq => by
        rw [hd]
        rintro v rfl u rfl
        rw [zI_add, show zI j + 1 = zI (j + 1) from zI_add j 1]
        refine hC _ ⟨j + 1, _, by rw [hq]; rfl, by omega, fun i hi => ?_, fun k hk => by rw [mup_ne _ _ _ hk]; exact p2 k hk⟩ ?_
        · rw [mup_same]
          by_cases y : i = j
          · rw [y, upd_same]
          · rw [upd_ne _ _ y]; exact p1 i (by omega)
        · show 20 - (zI (j + 1)).toNatClampNeg < 20 - (zI j).toNatClampNeg
          rw [zI_clamp (by omega), zI_clamp (by omega)]; omega
      refine ⟨fun y => nx 0 0 rfl ?_, fun y => nx 1 1 rfl ?_⟩
      · have y : ¬ kbyte w (c - 1 - j) = 0 := y
        rw [if_neg (fun v => y ((dec_iff _).mp v))]
      · have y : kbyte w (c - 1 - j) = 0 := y
        rw [if_pos ((dec_iff _).mpr y)]
theorem Z2.s9_separator (M : MT n g T) (B : BT T) {x z u : Int32} {K : Int32 → (Nat → Int32) → (Nat → Nat → Int32) → Prop} (h1 : (∀ i p, i < T.h → x = zI i → p < T.m (T.h - 1 - i) → z = zI p → False) → K 0 (upd n 0 1) g)
    (h2 : ∀ i p, i < T.h → x = zI i → p < T.m (T.h - 1 - i) → z = zI p → (T.h - 1 - i = 0 ∨ ∀ k, k + 2 ≤ T.E (T.h - 1 - i) p - st (T.E (T.h - 1 - i)) p → u ≠ zI k) → K 0 (upd n 0 2) g)
    (h0 : ∀ i p k, i < T.h → x = zI i → p < T.m (T.h - 1 - i) → z = zI p → 0 < T.h - 1 - i → k + 2 ≤ T.E (T.h - 1 - i) p - st (T.E (T.h - 1 - i)) p → u = zI k → ∀ g', KA g' 2 0 (T.S (sx T.E (T.h - 1 - i - 1) (st (T.E (T.h - 1 - i)) p + k))) → (∀ k, k ≠ 2 → g' k = g k) → K (zI (T.S (sx T.E (T.h - 1 - i - 1) (st (T.E (T.h - 1 - i)) p + k))).length) (upd (upd n 1 (zI (T.S (sx T.E (T.h - 1 - i - 1) (st (T.E (T.h - 1 - i)) p + k))).length)) 0 0) g') : wp_X9_separator x z u n g K := by
  have hs := B.im.h1
  have hh := B.h12
  have e13 : n 13 - 1 = zI (T.h - 1) := by rw [show n 13 = zI T.h from M.ch]; exact zI_sub hs
  refine s9_isPage M B (fun w => ⟨fun y => absurd rfl y, fun _ => ?_⟩) (fun i p hi e hp e2 => ⟨fun _ => ?_, fun y => absurd y (by decide)⟩)
  · rintro n1 rfl; exact h1 w
  · replace h0 := fun k => h0 i p k hi e hp e2
    replace h2 := h2 i p hi e hp e2
    have hm := B.m (t := T.h - 1 - i) (by omega)
    obtain ⟨d1, d2, d3⟩ := TT.ends B.im (t := T.h - 1 - i) (by omega) hp
    have bad : K 0 (upd n 0 2) g → wp_X9_separator_51 n g K := fun h => by rintro n1 rfl; exact h
    rw [e13, e, e2, show zI (T.h - 1) - zI i = zI (T.h - 1 - i) from zI_sub (show i ≤ T.h - 1 by omega)]
    generalize hT : T.h - 1 - i = t at *
    rintro v rfl
    refine ⟨fun y => ?_, fun y => ?_⟩
    · rw [show (0 : Int32) = zI 0 from rfl, zI_inj (by omega) (by omega)] at y
      exact bad (h2 (Or.inl y))
    · rw [show (0 : Int32) = zI 0 from rfl, zI_inj (by omega) (by omega)] at y
      have d3 := d3 (by omega)
      rw [if_neg y] at d2
      have hm2 := B.m (t := t - 1) (by omega)
      show vp_in ((400 : Int32) * zI t + zI p) (mlen 15) ∧ _
      rw [at_eq]
      refine rd (show 400 * t + p < 4800 by omega) (by decide) ?_
      rw [show g 15 (400 * t + p) = zI (T.E t p - st (T.E t) p) from M.pt t (by omega) p hp]
      refine s9_in (fun w => ⟨fun y => absurd rfl y, fun _ => bad (h2 (Or.inr (fun k hk e => w ?_)))⟩) (fun a b => ⟨fun _ => ?_, fun y => absurd y (by decide)⟩)
      · rw [e, show zI (T.E t p - st (T.E t) p) - 2 = zI (T.E t p - st (T.E t) p - 2) from zI_sub (show 2 ≤ T.E t p - st (T.E t) p by omega), show (0 : Int32) = zI 0 from rfl, zI_le (by omega) (by omega), zI_le (by omega) (by omega)]; omega
      · have h2c : 2 ≤ T.E t p - st (T.E t) p := by
          rcases Nat.lt_or_ge (T.E t p - st (T.E t) p) 2 with w | w
          · have : T.E t p - st (T.E t) p = 1 := by omega
            rw [this] at b
            exact absurd (Int32.le_trans a b) (by decide)
          · exact w
        rw [show zI (T.E t p - st (T.E t) p) - 2 = zI (T.E t p - st (T.E t) p - 2) from zI_sub h2c] at b
        obtain ⟨k, hk, e⟩ := asZ (by omega) a b
        replace h0 := h0 k (by omega) (by omega) e
        subst e
        refine s9_firstOf M B (by omega) (by omega) ?_
        rw [show zI t - 1 = zI (t - 1) from zI_sub (show 1 ≤ t by omega), zI_add]
        refine s9_lastLeaf M B (by omega) (by omega) ?_
        have hx := Tr.IM.sx_in B.im (t := t - 1) (p := st (T.E t) p + k) (by omega) (by omega)
        generalize sx T.E (t - 1) (st (T.E t) p + k) = l at *
        have m4 := B.m4
        have v1 := (B.im.svk l hx).1
        have es : g 16 l = zI (T.S l).length := M.ss l hx
        have ek : KA g 17 (12 * l) (T.S l) := M.sb l hx
        refine rd (show l < 400 by omega) (by decide) ?_
        rw [es]
        rintro n1 rfl
        refine loopW_of (fun s => ∃ j g1, s = (zI j, upd n 1 (zI (T.S l).length), g1) ∧ j ≤ (T.S l).length ∧ (∀ k, k ≠ 2 → g1 k = g k) ∧ ∀ q, q < j → g1 2 q = (T.S l).getD q 0) (fun s => 20 - s.1.toNatClampNeg) ?_ _ ⟨0, g, rfl, Nat.zero_le _, fun _ _ => rfl, fun q hq => absurd hq (Nat.not_lt_zero q)⟩
        rintro C s ⟨j, g1, rfl, hj, p1, p2⟩ hC
        have e1 : upd n 1 (zI (T.S l).length) 1 = zI (T.S l).length := upd_same _ _ _
        refine ⟨fun z => ?_, fun z => ?_⟩
        · rw [e1, zI_le (by omega) (by omega)] at z
          rw [e1]
          rintro n2 rfl
          exact h0 g1 (fun q hq => by rw [Nat.zero_add]; exact p2 q (by omega)) p1
        · rw [e1, zI_le (by omega) (by omega)] at z
          show vp_in ((12 : Int32) * zI l + zI j) (mlen 17) ∧ _
          rw [k12, zI_add]
          refine rd (show 12 * l + j < 4800 by omega) (by decide) (wr (show j < 12 by omega) (by decide) ?_)
          rw [p1 17 (by decide), ek j (by omega)]
          rintro v rfl
          rw [show zI j + 1 = zI (j + 1) from zI_add j 1]
          refine hC _ ⟨j + 1, _, rfl, by omega, fun k hk => by rw [mup_ne _ _ _ hk]; exact p1 k hk, fun q hq => ?_⟩ ?_
          · rw [mup_same]
            by_cases y : q = j
            · rw [y, upd_same]
            · rw [upd_ne _ _ y]; exact p2 q (by omega)
          · show 20 - (zI (j + 1)).toNatClampNeg < 20 - (zI j).toNatClampNeg
            rw [zI_clamp (by omega), zI_clamp (by omega)]; omega
end
