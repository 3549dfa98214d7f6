section
variable {n : Nat → Int32} {g : Nat → Nat → Int32} {T : Z2.Tr}
/-- what waits in the reference -/
def Z2.WG (g : Nat → Nat → Int32) (w : Nat) (wk : Nat → Key) (wv : Nat → Int32) : Prop := (∀ i, i < w → g 20 i = zI (wk i).length) ∧ (∀ i, i < w → KA g 21 (12 * i) (wk i)) ∧ ∀ i, i < w → g 22 i = wv i
/-- the leaves stand: separators, tiers -/
theorem Z2.s9_load156 {w limit : Nat} {wk : Nat → Key} {wv : Nat → Int32} (hc : 64 ≤ T.cap ∧ T.cap ≤ 200) (hw : w ≤ 300) (hv : ∀ i, i < w → VK (wk i)) (hs : ∀ i j, i < j → j < w → klt (wk i) (wk j)) (hlim : limit < 10000) {c' : Nat} {e' : Nat → Nat} (hst : stk ((Tr.mk T.cap w wk wv T.h T.m T.E T.S T.c0 T.c1 T.c2).psz 0) 1 limit w 0 0 0 (T.E 0) = (c', e'))
    (N5 : n 5 = zI T.cap) (N9 : n 9 = zI w) (N13 : n 13 = zI 1) (hsz : ∀ i, i < w → g 10 i = zI (wk i).length) (hkb : ∀ i, i < w → KA g 11 (12 * i) (wk i)) (hvs : ∀ i, i < w → g 12 i = wv i) (hm : g 14 0 = zI c') (hpt : ∀ q, q < c' → g 15 q = zI (e' q - st e' q)) (hj : ∀ i, i < 400 → ∃ q, q ≤ 12 ∧ g 16 i = zI q)
    {K : Int32 → (Nat → Int32) → (Nat → Nat → Int32) → Prop} (hK : ∀ n' g', MT n' g' (T.load w wk wv limit) → n' 0 = 0 → (∀ k, k ≠ 0 → k ≠ 13 → n' k = n k) → (∀ k, k ≠ 14 → k ≠ 15 → k ≠ 16 → k ≠ 17 → g' k = g k) → K (zI (sumTo (T.load w wk wv limit).m (T.load w wk wv limit).h)) n' g') : wp_X9_load_156 (zI limit) n g K := by
  obtain ⟨LM, lm1, lm2⟩ := Tr.load_LM (T := T) hc (limit := limit) (wv := wv) hw hv hs
  have St := stk_spec ((Tr.mk T.cap w wk wv T.h T.m T.E T.S T.c0 T.c1 T.c2).psz 0) 1 limit (by omega) w 0 0 0 (T.E 0) (Nat.le_refl _) (fun h => by omega) (fun _ => rfl) (fun h => by omega) (fun x y _ h => by omega) (fun j h => by omega) c' e' hst
  obtain ⟨s1, s2, s3, s4, s5⟩ := St
  rw [Nat.zero_add] at s3 s4
  have eT : Tr.seps (Tr.tier (Tr.mk T.cap w wk wv T.h T.m T.E T.S T.c0 T.c1 T.c2) 0 w 1 limit) = Tr.mk T.cap w wk wv 1 (stt T.m 0 c') (stt T.E 0 e') (fun i => sp (wk (e' i - 1)) (wk (e' i))) T.c0 T.c1 T.c2 := by
    have e1 : Tr.tier (Tr.mk T.cap w wk wv T.h T.m T.E T.S T.c0 T.c1 T.c2) 0 w 1 limit = Tr.mk T.cap w wk wv 1 (stt T.m 0 c') (stt T.E 0 e') T.S T.c0 T.c1 T.c2 := by
      unfold Tr.tier
      have : stk ((Tr.mk T.cap w wk wv T.h T.m T.E T.S T.c0 T.c1 T.c2).psz 0) 1 limit w 0 0 0 ((Tr.mk T.cap w wk wv T.h T.m T.E T.S T.c0 T.c1 T.c2).E 0) = (c', e') := hst
      rw [this]; rfl
    rw [e1]
    unfold Tr.seps
    show Tr.mk T.cap w wk wv 1 (stt T.m 0 c') (stt T.E 0 e') (fun i => sp (wk (stt T.E 0 e' 0 i - 1)) (wk (stt T.E 0 e' 0 i))) T.c0 T.c1 T.c2 = _
    simp only [stt_same]
  have em0 : (Tr.seps (Tr.tier (Tr.mk T.cap w wk wv T.h T.m T.E T.S T.c0 T.c1 T.c2) 0 w 1 limit)).m 0 = c' := by rw [eT]; show stt T.m 0 c' 0 = c'; exact stt_same _ _ _
  rw [em0] at lm1 lm2
  have hge : ∀ j, j < c' → 0 < w → j + 1 ≤ e' j := by
    intro j
    induction j with
    | zero => intro h hw; exact s4 hw
    | succ j ih => intro h hw; have := s2 j (j + 1) (by omega) h; have := ih (by omega) hw; omega
  have hcw : 1 < c' → 0 < w := fun g => by have := s2 (c' - 2) (c' - 1) (by omega) (by omega); omega
  have hle : ∀ i, i + 1 < c' → 1 ≤ e' i ∧ e' i < w := fun i hi => by
    have := hge i (by omega) (hcw (by omega))
    have := s2 i (c' - 1) (by omega) (by omega)
    omega
  have hstle : ∀ q, q < c' → st e' q ≤ e' q := fun q hq => by
    unfold st; split
    · omega
    · have := s2 (q - 1) q (by omega) hq; omega
  have hRR : Tr.tiers limit (300 - 1) (Tr.seps (Tr.tier (Tr.mk T.cap w wk wv T.h T.m T.E T.S T.c0 T.c1 T.c2) 0 w 1 limit)) 1 = T.load w wk wv limit := rfl
  rw [eT] at LM hRR
  obtain ⟨S0, z1, -, z3⟩ := SP.total (g := g) (ns := 0) (S := fun _ => []) ⟨fun i hi => absurd hi (Nat.not_lt_zero i), fun i hi => absurd hi (Nat.not_lt_zero i), hj⟩ (fun i hi => absurd hi (Nat.not_lt_zero i))
  have mkM : ∀ (g1 : Nat → Nat → Int32) (S : Nat → Key), (∀ k, k ≠ 16 → k ≠ 17 → g1 k = g k) → SP g1 (c' - 1) S → MT n g1 (Tr.mk T.cap w wk wv 1 (stt T.m 0 c') (stt T.E 0 e') S T.c0 T.c1 T.c2) := fun g1 S p s => by
    refine MT.mk2 N5 N9 N13 (fun i hi => by rw [p 10 (by decide) (by decide)]; exact hsz i hi) (fun i hi j hj => by rw [p 11 (by decide) (by decide)]; exact hkb i hi j hj) (fun i hi => by rw [p 12 (by decide) (by decide)]; exact hvs i hi) (fun t ht => ?_) (fun t ht q hq => ?_) ?_
    · have ht : t < 1 := ht
      have t0 : t = 0 := by omega
      subst t0
      show g1 14 0 = zI (stt T.m 0 c' 0)
      rw [p 14 (by decide) (by decide), stt_same]; exact hm
    · have ht : t < 1 := ht
      have t0 : t = 0 := by omega
      subst t0
      have hq : q < stt T.m 0 c' 0 := hq
      rw [stt_same] at hq
      show g1 15 (400 * 0 + q) = zI (stt T.E 0 e' 0 q - st (stt T.E 0 e' 0) q)
      rw [p 15 (by decide) (by decide), stt_same, Nat.mul_zero, Nat.zero_add]; exact hpt q hq
    · show SP g1 (stt T.m 0 c' 0 - 1) S
      rw [stt_same]; exact s
  refine loopW_of (fun s => ∃ j g1 S, s = (zI j, n, g1) ∧ j + 1 ≤ c' ∧ (∀ k, k ≠ 16 → k ≠ 17 → g1 k = g k) ∧ SP g1 400 S ∧ (∀ i, i < 400 → (S i).length ≤ 12) ∧ ∀ i, i < j → S i = sp (wk (e' i - 1)) (wk (e' i))) (fun s => 400 - s.1.toNatClampNeg) ?_ _ ⟨0, g, S0, rfl, by omega, fun _ _ _ => rfl, z1, z3, fun i hi => absurd hi (Nat.not_lt_zero i)⟩
  rintro C s ⟨j, g1, S, rfl, hjc, p1, p2, p3, p4⟩ hC
  have M1 := mkM g1 S p1 (p2.congr (show c' - 1 ≤ 400 by omega) (fun i _ => rfl))
  have e14 : g1 14 0 = zI c' := by rw [p1 14 (by decide) (by decide)]; exact hm
  refine rd (i := 0) (show 0 < 12 by decide) (by decide) ?_
  rw [e14, show zI c' - 1 = zI (c' - 1) from zI_sub s1]
  refine ⟨fun y => ?_, fun y => ?_⟩
  · rw [zI_le (by omega) (by omega)] at y
    have ej : j = c' - 1 := by omega
    have M2 := mkM g1 (fun i => sp (wk (e' i - 1)) (wk (e' i))) p1 (p2.congr (show c' - 1 ≤ 400 by omega) (fun i hi => p4 i (by omega)))
    refine s9_load181 M2 LM (by show stt T.m 0 c' 0 ≤ 301; rw [stt_same]; omega) hlim hRR (fun n' g' a b c d => hK n' g' a b c (fun k h14 h15 h16 h17 => by rw [d k h14 h15]; exact p1 k h16 h17))
  · rw [zI_le (by omega) (by omega)] at y
    have em : (Tr.mk T.cap w wk wv 1 (stt T.m 0 c') (stt T.E 0 e') S T.c0 T.c1 T.c2).m 0 = c' := by show stt T.m 0 c' 0 = c'; exact stt_same _ _ _
    have eE : (Tr.mk T.cap w wk wv 1 (stt T.m 0 c') (stt T.E 0 e') S T.c0 T.c1 T.c2).E 0 = e' := by show stt T.E 0 e' 0 = e'; exact stt_same _ _ _
    obtain ⟨q1, q2⟩ := hle j (by omega)
    refine s9_separates M1 (show 1 ≤ 12 by decide) (Nat.le_refl 1) (by rw [em]; omega) (fun q hq => by rw [eE]; rw [em] at hq; exact hstle q hq) hw hv (leaf := j) (by rw [em]; omega) (by rw [eE]; exact q1) (by rw [eE]; exact q2) (by rw [eE]; exact hs _ _ (by omega) q2) (fun g2 r1 r2 => ?_)
    rw [eE] at r2
    have r2 : SP g2 400 (stt S j (sp (wk (e' j - 1)) (wk (e' j)))) := r2 400 S p2 p3
    rintro v rfl
    rw [show zI j + 1 = zI (j + 1) from zI_add j 1]
    refine hC _ ⟨j + 1, g2, _, rfl, by omega, fun k a b => by rw [r1 k a b]; exact p1 k a b, r2, fun i hi => ?_, fun i hi => ?_⟩ ?_
    · unfold stt
      by_cases x : i = j
      · rw [if_pos x]; exact (VK_sp (hv _ q2)).1
      · rw [if_neg x]; exact p3 i hi
    · unfold stt
      by_cases x : i = j
      · rw [if_pos x, x]
      · rw [if_neg x]; exact p4 i (by omega)
    · show 400 - (zI (j + 1)).toNatClampNeg < 400 - (zI j).toNatClampNeg
      rw [zI_clamp (by omega), zI_clamp (by omega)]; omega
theorem Z2.s9_load (M : MT n g T) (Q : CT n T) (hc : 64 ≤ T.cap ∧ T.cap ≤ 200) {w fill : Nat} {wk : Nat → Key} {wv : Nat → Int32} (W : WG g w wk wv) (N19 : n 19 = zI w) (hw : w ≤ 300) (hv : ∀ i, i < w → VK (wk i)) (hs : ∀ i j, i < j → j < w → klt (wk i) (wk j)) (hf : 40 ≤ fill ∧ fill ≤ 100)
    {K : Int32 → (Nat → Int32) → (Nat → Nat → Int32) → Prop} (hK : ∀ n' g', MT n' g' (T.load w wk wv (T.cap * fill / 100)) → CT n' T → n' 0 = 0 → n' 19 = 0 → (∀ k, k ≠ 0 → k ≠ 9 → k ≠ 13 → k ≠ 19 → n' k = n k) → (∀ k, k < 10 ∨ 18 < k → g' k = g k) → (∀ i, i < 4 → g' 18 i = -2) → K (zI (sumTo (T.load w wk wv (T.cap * fill / 100)).m (T.load w wk wv (T.cap * fill / 100)).h)) n' g') : wp_X9_load (zI fill) n g K := by
  obtain ⟨w1, w2, w3⟩ := W
  have e19 : upd n 9 (n 19) 19 = zI w := N19
  have hcf : T.cap * fill ≤ 200 * 100 := Nat.mul_le_mul hc.2 hf.2
  have ok : ¬ zI fill < (40 : Int32) := by rw [show (40 : Int32) = zI 40 from rfl, zI_lt (by omega) (by omega)]; omega
  have ok2 : ¬ (100 : Int32) < zI fill := by rw [show (100 : Int32) = zI 100 from rfl, zI_lt (by omega) (by omega)]; omega
  refine ⟨fun z => absurd z ok, fun _ => ⟨fun z => absurd z ok2, fun _ => ⟨fun _ => ?_, fun z => absurd z (by decide)⟩⟩⟩
  rintro n1 rfl
  refine loopW_of (fun s => ∃ y g1, s = (zI y, upd n 9 (n 19), g1) ∧ y ≤ w ∧ (∀ i, i < y → g1 10 i = zI (wk i).length) ∧ (∀ i, i < y → KA g1 11 (12 * i) (wk i)) ∧ (∀ i, i < y → g1 12 i = wv i) ∧ (∀ k, k ≠ 10 → k ≠ 11 → k ≠ 12 → g1 k = g k)) (fun s => 400 - s.1.toNatClampNeg) ?_ _ ⟨0, g, rfl, Nat.zero_le _, fun i hi => absurd hi (Nat.not_lt_zero i), fun i hi => absurd hi (Nat.not_lt_zero i), fun i hi => absurd hi (Nat.not_lt_zero i), fun _ _ _ _ => rfl⟩
  rintro C s ⟨y, g1, rfl, hy, a1, a2, a3, a4⟩ hC
  refine ⟨fun z => ?_, fun z => ?_⟩
  · rw [e19, zI_le (by omega) (by omega)] at z
    have ey : y = w := by omega
    subst ey
    rintro n2 rfl
    refine s9_closesAll (fun g2 b1 b2 => ⟨by decide, ?_⟩)
    have e5 : upd (upd n 9 (n 19)) 19 0 5 = zI T.cap := M.cap
    intro v hv'
    rw [e5, zI_mul, show (100 : Int32) = zI 100 from rfl, zI_div (by omega) (by omega)] at hv'
    subst hv'
    rintro n4 rfl
    have e9 : upd (upd (upd n 9 (n 19)) 19 0) 13 1 9 = zI y := N19
    have hlim : T.cap * fill / 100 < 10000 := by omega
    generalize hL : T.cap * fill / 100 = limit at *
    have psz : ∀ a b, (Tr.mk T.cap y wk wv T.h T.m T.E T.S T.c0 T.c1 T.c2).psz 0 a b = 8 + cbi 7 wk (b - a) a [] := fun a b => if_pos rfl
    have hj : ∀ i, i < 400 → ∃ q, q ≤ 12 ∧ g2 16 i = zI q := fun i hi => by rw [b1 16 (by decide), a4 16 (by decide) (by decide) (by decide)]; exact M.jk i hi
    have h10 : ∀ i, i < y → g2 10 i = zI (wk i).length := fun i hi => by rw [b1 10 (by decide)]; exact a1 i hi
    have h11 : ∀ i, i < y → KA g2 11 (12 * i) (wk i) := fun i hi j hj => by rw [b1 11 (by decide)]; exact a2 i hi j hj
    have h12 : ∀ i, i < y → g2 12 i = wv i := fun i hi => by rw [b1 12 (by decide)]; exact a3 i hi
    have fin : ∀ (g3 : Nat → Nat → Int32) (c' : Nat) (e' : Nat → Nat), stk ((Tr.mk T.cap y wk wv T.h T.m T.E T.S T.c0 T.c1 T.c2).psz 0) 1 limit y 0 0 0 (T.E 0) = (c', e') → LyP g2 g3 0 c' e' → wp_X9_load_156 (zI limit) (upd (upd (upd n 9 (n 19)) 19 0) 13 1) g3 K := fun g3 c' e' hst P => by
      obtain ⟨r1, r2, r3, r4⟩ := P
      refine s9_load156 (n := upd (upd (upd n 9 (n 19)) 19 0) 13 1) (g := g3) hc hw hv hs hlim hst M.cap e9 rfl (fun i hi => by rw [r4 10 (by decide) (by decide)]; exact h10 i hi) (fun i hi j hj => by rw [r4 11 (by decide) (by decide)]; exact h11 i hi j hj) (fun i hi => by rw [r4 12 (by decide) (by decide)]; exact h12 i hi) (by rw [r1, upd_same]) (fun q hq => by have := r2 q hq; rw [Nat.mul_zero, Nat.zero_add] at this; exact this) (fun i hi => by rw [r4 16 (by decide) (by decide)]; exact hj i hi) (fun n' g' k1 k2 k3 k4 => hK n' g' k1 ⟨?_, ?_, ?_⟩ k2 ?_ (fun k x1 x2 x3 x4 => ?_) (fun k hk => ?_) (fun i hi => ?_))
      · rw [k3 6 (by decide) (by decide)]; exact Q.1
      · rw [k3 7 (by decide) (by decide)]; exact Q.2.1
      · rw [k3 8 (by decide) (by decide)]; exact Q.2.2
      · rw [k3 19 (by decide) (by decide)]; rfl
      · rw [k3 k x1 x3]; unfold upd; rw [if_neg x3, if_neg x4, if_neg x2]
      · rw [k4 k (by omega) (by omega) (by omega) (by omega), r4 k (by omega) (by omega), b1 k (by omega), a4 k (by omega) (by omega) (by omega)]
      · rw [k4 18 (by decide) (by decide) (by decide) (by decide), r4 18 (by decide) (by decide)]; exact b2 i hi
    rw [e9]
    refine s9_lays (t := 0) (F := (Tr.mk T.cap y wk wv T.h T.m T.E T.S T.c0 T.c1 T.c2).psz 0) (e0 := T.E 0) (by omega) (by omega) hlim (fun a b hab hb => ?_) (fun g3 q1 q2 q3 a c K2 hc1 hc2 hK2 => ⟨fun x => absurd rfl x, fun _ => ?_⟩) (fun y0 => ⟨fun x => ?_, fun _ => ?_⟩) (fun g3 c e hpos hst P => ⟨fun _ => fin g3 c e ?_ P, fun x => ?_⟩)
    · rw [psz]
      have := cbi_le (f := 7) (k := wk) (b - a) a [] (fun j j1 j2 => (hv j (by omega)).1)
      omega
    · rw [psz, show a + c - a = c by omega] at hK2
      exact s9_leafSizeG (fun i hi => by rw [q1 10 (by decide) (by decide)]; exact h10 i hi) (fun i hi j hj => by rw [q1 11 (by decide) (by decide)]; exact h11 i hi j hj) (fun i hi => by rw [q1 16 (by decide) (by decide)]; exact hj i hi) hv hw hc2 hK2
    · rw [e9, y0] at x; exact absurd rfl x
    · refine wr (i := 0) (show 0 < 12 by decide) (by decide) (wr (i := 0) (show 0 < 4800 by decide) (by decide) (fin _ 1 (stt (T.E 0) 0 0) ?_ ⟨?_, fun q hq => ?_, fun x hx => ?_, fun k a b => ?_⟩))
      · rw [y0]; rfl
      · rw [mup_ne _ _ _ (by decide), mup_same, mup_same]
        funext u; unfold upd; split <;> rfl
      · have q0 : q = 0 := by omega
        subst q0
        rw [mup_same, Nat.mul_zero, upd_same, stt_same]; rfl
      · rw [mup_same, upd_ne _ _ (by omega), mup_ne _ _ _ (by decide), mup_ne _ _ _ (by decide)]
      · rw [mup_ne _ _ _ b, mup_ne _ _ _ a, mup_ne _ _ _ a]
    · exact hst
    · rw [e9, show (0 : Int32) = zI 0 from rfl, zI_inj (by omega) (by omega)] at x; omega
  · rw [e19, zI_le (by omega) (by omega)] at z
    refine rd (show y < 300 by omega) (by decide) (wr (show y < 300 by omega) (by decide) (rd (show y < 300 by omega) (by decide) (wr (show y < 300 by omega) (by decide) ?_)))
    have x20 : g1 20 y = zI (wk y).length := by rw [a4 20 (by decide) (by decide) (by decide)]; exact w1 y (by omega)
    have x22 : mup g1 10 y (g1 20 y) 22 y = wv y := by rw [mup_ne _ _ _ (by decide), a4 22 (by decide) (by decide) (by decide)]; exact w3 y (by omega)
    rw [x22, x20]
    refine loopW_of (fun s => ∃ b g2, s = (zI b, upd n 9 (n 19), g2) ∧ b ≤ 12 ∧ (∀ k, k ≠ 11 → g2 k = mup (mup g1 10 y (zI (wk y).length)) 12 y (wv y) k) ∧ (∀ x, x < 12 * y → g2 11 x = g1 11 x) ∧ ∀ j, j < b → g2 11 (12 * y + j) = g 21 (12 * y + j)) (fun s => 20 - s.1.toNatClampNeg) ?_ _ ⟨0, _, rfl, Nat.zero_le _, fun _ _ => rfl, fun x _ => by rw [mup_ne _ _ _ (by decide), mup_ne _ _ _ (by decide)], fun j hj => absurd hj (Nat.not_lt_zero j)⟩
    rintro C2 s ⟨b, g2, rfl, hb, b1, b2, b3⟩ hC2
    refine ⟨fun z => ?_, fun z => ?_⟩
    · rw [show (12 : Int32) = zI 12 from rfl, zI_le (by omega) (by omega)] at z
      rintro v rfl
      rw [show zI y + 1 = zI (y + 1) from zI_add y 1]
      refine hC _ ⟨y + 1, g2, rfl, by omega, fun i hi => ?_, fun i hi j hj => ?_, fun i hi => ?_, fun k x1 x2 x3 => ?_⟩ ?_
      · rw [b1 10 (by decide), mup_ne _ _ _ (by decide), mup_same]
        by_cases x : i = y
        · rw [x, upd_same]
        · rw [upd_ne _ _ x]; exact a1 i (by omega)
      · have v1 := (hv i (by omega)).1
        by_cases x : i = y
        · rw [x] at hj v1 ⊢
          rw [b3 j (by omega)]; exact w2 y (by omega) j hj
        · rw [b2 _ (by omega)]; exact a2 i (by omega) j hj
      · rw [b1 12 (by decide), mup_same]
        by_cases x : i = y
        · rw [x, upd_same]
        · rw [upd_ne _ _ x, mup_ne _ _ _ (by decide)]; exact a3 i (by omega)
      · rw [b1 k x2, mup_ne _ _ _ x3, mup_ne _ _ _ x1]; exact a4 k x1 x2 x3
      · show 400 - (zI (y + 1)).toNatClampNeg < 400 - (zI y).toNatClampNeg
        rw [zI_clamp (by omega), zI_clamp (by omega)]; omega
    · rw [show (12 : Int32) = zI 12 from rfl, zI_le (by omega) (by omega)] at z
      show vp_in ((12 : Int32) * zI y + zI b) (mlen 21) ∧ _
      rw [k12, zI_add]
      refine rd (show 12 * y + b < 3600 by omega) (by decide) (wr (show 12 * y + b < 3600 by omega) (by decide) ?_)
      have x21 : g2 21 (12 * y + b) = g 21 (12 * y + b) := by rw [b1 21 (by decide), mup_ne _ _ _ (by decide), mup_ne _ _ _ (by decide), a4 21 (by decide) (by decide) (by decide)]
      rw [x21]
      rintro v rfl
      rw [show zI b + 1 = zI (b + 1) from zI_add b 1]
      refine hC2 _ ⟨b + 1, _, rfl, by omega, fun k hk => by rw [mup_ne _ _ _ hk]; exact b1 k hk, fun x hx => ?_, fun j hj => ?_⟩ ?_
      · rw [mup_same, upd_ne _ _ (by omega)]; exact b2 x hx
      · rw [mup_same]
        by_cases x : j = b
        · rw [x, upd_same]
        · rw [upd_ne _ _ (by omega)]; exact b3 j (by omega)
      · show 20 - (zI (b + 1)).toNatClampNeg < 20 - (zI b).toNatClampNeg
        rw [zI_clamp (by omega), zI_clamp (by omega)]; omega
theorem Z2.s9_loadBad {x : Int32} (h : ¬ ((40 : Int32) ≤ x ∧ x ≤ 100)) {K : Int32 → (Nat → Int32) → (Nat → Nat → Int32) → Prop} (hK : K 0 (upd n 0 1) g) : wp_X9_load x n g K := by
  have fin : ∀ r : Int32, r = 0 → ((¬ r = (0 : Int32) → ∀ n_65 : Nat → Int32, n_65 = upd n 9 (n 19) → ∃ n_66, loopW (wp_X9_load_27 x K) n_66 ((0 : Int32), n_65, g)) ∧ (r = (0 : Int32) → wp_X9_fails (1 : Int32) n g (fun r_67 n_69 g_70 => K r_67 n_69 g_70))) := fun r hr => ⟨fun z => absurd hr z, fun _ => by
    rintro n1 rfl; exact hK⟩
  refine ⟨fun _ => fin 0 rfl, fun z => ⟨fun _ => fin 0 rfl, fun y => absurd ⟨?_, ?_⟩ h⟩⟩
  · exact Int32.not_lt.mp z
  · exact Int32.not_lt.mp y
end
