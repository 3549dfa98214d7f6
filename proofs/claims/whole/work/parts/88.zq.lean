/-! the reference: comes, parts -/
section
variable {n : Nat → Int32} {g : Nat → Nat → Int32} {T : Z2.Tr}
/-- every leaf's place holds some key -/
theorem Z2.SP.total {ns : Nat} {S : Nat → Key} (H : SP g ns S) (hv : ∀ i, i < ns → (S i).length ≤ 12) : ∃ S2 : Nat → Key, SP g 400 S2 ∧ (∀ i, i < ns → S2 i = S i) ∧ ∀ i, i < 400 → (S2 i).length ≤ 12 := by
  obtain ⟨h1, h2, h3⟩ := H
  refine ⟨fun i => if i < ns then S i else (List.range (g 16 i).toNatClampNeg).map (fun j => g 17 (12 * i + j)), ⟨fun i hi => ?_, fun i hi => ?_, h3⟩, fun i hi => if_pos hi, fun i hi => ?_⟩
  · dsimp only [Tr.mk_cap, Tr.mk_n, Tr.mk_ks, Tr.mk_vs, Tr.mk_h, Tr.mk_m, Tr.mk_E, Tr.mk_S, Tr.mk_c0, Tr.mk_c1, Tr.mk_c2]
    by_cases z : i < ns
    · rw [if_pos z]; exact h1 i z
    · rw [if_neg z, List.length_map, List.length_range]
      obtain ⟨q, q1, q2⟩ := h3 i hi
      rw [q2, zI_clamp (by omega)]
  · dsimp only [Tr.mk_cap, Tr.mk_n, Tr.mk_ks, Tr.mk_vs, Tr.mk_h, Tr.mk_m, Tr.mk_E, Tr.mk_S, Tr.mk_c0, Tr.mk_c1, Tr.mk_c2]
    by_cases z : i < ns
    · rw [if_pos z]; exact h2 i z
    · rw [if_neg z]
      intro j hj
      rw [List.length_map, List.length_range] at hj
      rw [List.getD_eq_getElem?_getD, List.getElem?_map, List.getElem?_range hj]
      rfl
  · dsimp only [Tr.mk_cap, Tr.mk_n, Tr.mk_ks, Tr.mk_vs, Tr.mk_h, Tr.mk_m, Tr.mk_E, Tr.mk_S, Tr.mk_c0, Tr.mk_c1, Tr.mk_c2]
    by_cases z : i < ns
    · rw [if_pos z]; exact hv i z
    · rw [if_neg z, List.length_map, List.length_range]
      obtain ⟨q, q1, q2⟩ := h3 i hi
      rw [q2, zI_clamp (by omega)]; exact q1
theorem Z2.SP.congr {ns ns' : Nat} {S S' : Nat → Key} (H : SP g ns S) (hn : ns' ≤ ns) (h : ∀ i, i < ns' → S i = S' i) : SP g ns' S' := by
  obtain ⟨h1, h2, h3⟩ := H
  refine ⟨fun i hi => ?_, fun i hi => ?_, h3⟩
  · rw [← h i hi]; exact h1 i (by omega)
  · rw [← h i hi]; exact h2 i (by omega)
theorem Z2.SP.same {g' : Nat → Nat → Int32} {ns : Nat} {S : Nat → Key} (H : SP g ns S) (h6 : g' 16 = g 16) (h7 : g' 17 = g 17) : SP g' ns S := by
  obtain ⟨h1, h2, h3⟩ := H
  refine ⟨fun i hi => by rw [h6]; exact h1 i hi, fun i hi j hj => by rw [h7]; exact h2 i hi j hj, fun i hi => by rw [h6]; exact h3 i hi⟩
/-- S with the places from p + 1 on to m shifted by one -/
def Z2.shS (S : Nat → Key) (m p : Nat) : Nat → Key := fun i => if p < i ∧ i ≤ m then S (i - 1) else S i
theorem Z2.shS_step (S : Nat → Key) {m p : Nat} (hp : p + 1 ≤ m) : ∀ i, stt (shS S m (p + 1)) (p + 1) (S p) i = shS S m p i := fun i => by
  unfold stt shS
  by_cases z : i = p + 1
  · rw [if_pos z, if_pos (by omega), z, Nat.add_sub_cancel]
  · rw [if_neg z]
    by_cases y : p + 1 < i ∧ i ≤ m
    · rw [if_pos y, if_pos (by omega)]
    · rw [if_neg y, if_neg (by omega)]
/-- what comes leaves of the rows of pages -/
def Z2.CoP (g g' : Nat → Nat → Int32) (t p m : Nat) (v : Int32) : Prop := g' 14 = upd (g 14) t (zI (m + 1)) ∧ (∀ q, q ≤ m → g' 15 (400 * t + q) = if q ≤ p then g 15 (400 * t + q) else if q = p + 1 then v else g 15 (400 * t + (q - 1))) ∧ (∀ x, ¬ (400 * t ≤ x ∧ x ≤ 400 * t + m) → g' 15 x = g 15 x) ∧ (∀ k, k ≠ 14 → k ≠ 15 → k ≠ 16 → k ≠ 17 → g' k = g k) ∧ (t ≠ 0 → g' 16 = g 16 ∧ g' 17 = g 17) ∧ (t = 0 → ∀ S : Nat → Key, SP g 400 S → (∀ i, i < 400 → (S i).length ≤ 12) → SP g' 400 (shS S m p))
theorem Z2.s9_comes {t p m : Nat} (ht : t < 12) (hp : p < m) (hm : m < 400) (em : g 14 t = zI m) (v : Int32) (hS0 : t = 0 → ∃ S : Nat → Key, SP g 400 S ∧ ∀ i, i < 400 → (S i).length ≤ 12) {K : (Nat → Int32) → (Nat → Nat → Int32) → Prop} (hK : ∀ g', CoP g g' t p m v → K n g') : wp_X9_comes (zI t) (zI p) v n g K := by
  refine rd (show t < 12 from ht) (by decide) ?_
  rw [em]
  refine loopW_of (fun s => ∃ y g1, s = (zI y, n, g1) ∧ p + 1 ≤ y ∧ y ≤ m ∧ (∀ q, q ≤ m → g1 15 (400 * t + q) = if y < q then g 15 (400 * t + (q - 1)) else g 15 (400 * t + q)) ∧ (∀ x, ¬ (400 * t ≤ x ∧ x ≤ 400 * t + m) → g1 15 x = g 15 x) ∧ (∀ k, k ≠ 15 → k ≠ 16 → k ≠ 17 → g1 k = g k) ∧ (t ≠ 0 → g1 16 = g 16 ∧ g1 17 = g 17) ∧ (t = 0 → ∀ S : Nat → Key, SP g 400 S → (∀ i, i < 400 → (S i).length ≤ 12) → SP g1 400 (shS S m y))) (fun s => s.1.toNatClampNeg) ?_ _ ⟨m, g, rfl, by omega, Nat.le_refl _, fun q hq => by rw [if_neg (by omega)], fun _ _ => rfl, fun _ _ _ _ => rfl, fun _ => ⟨rfl, rfl⟩, fun _ S hS hv => hS.congr (Nat.le_refl _) (fun i hi => by unfold shS; rw [if_neg (by omega)])⟩
  rintro C s ⟨y, g1, rfl, y1, y2, p1, p2, p3, p4, p5⟩ hC
  have fin : ∀ g2, g2 15 = g1 15 → (∀ k, k ≠ 16 → k ≠ 17 → g2 k = g1 k) → y = p + 1 → (t ≠ 0 → g2 16 = g 16 ∧ g2 17 = g 17) → (t = 0 → ∀ S : Nat → Key, SP g 400 S → (∀ i, i < 400 → (S i).length ≤ 12) → SP g2 400 (shS S m p)) → wp_X9_comes_101 (zI t) (zI p) v n g2 K := fun g2 e15 ek ey q1 q2 => by
    subst ey
    refine rd (show t < 12 from ht) (by decide) (wr (show t < 12 from ht) (by decide) ?_)
    rw [show zI p + 1 = zI (p + 1) from zI_add p 1]
    show vp_in ((400 : Int32) * zI t + zI (p + 1)) (mlen 15) ∧ _
    rw [at_eq]
    have e14 : g2 14 = g 14 := (ek 14 (by decide) (by decide)).trans (p3 14 (by decide) (by decide) (by decide))
    refine wr (show 400 * t + (p + 1) < 4800 by omega) (by decide) (hK _ ⟨?_, fun q hq => ?_, fun x hx => ?_, fun k k1 k2 k3 k4 => ?_, fun t0 => ?_, fun t0 S hS hv => ?_⟩)
    · rw [mup_ne _ _ _ (by decide), mup_same, e14, em]
      show upd (g 14) t (zI m + 1) = _
      rw [show zI m + 1 = zI (m + 1) from zI_add m 1]
    · rw [mup_same, mup_ne _ _ _ (by decide), e15]
      by_cases z : q = p + 1
      · subst z
        rw [upd_same, if_neg (by omega), if_pos rfl]
      · rw [upd_ne _ _ (by omega), p1 q hq]
        by_cases w : q ≤ p
        · rw [if_neg (by omega), if_pos w]
        · rw [if_pos (by omega), if_neg w, if_neg z]
    · rw [mup_same, mup_ne _ _ _ (by decide), e15, upd_ne _ _ (by omega)]; exact p2 x hx
    · rw [mup_ne _ _ _ k2, mup_ne _ _ _ k1, ek k k3 k4, p3 k k2 k3 k4]
    · rw [mup_ne _ _ _ (by decide), mup_ne _ _ _ (by decide), mup_ne _ _ _ (by decide), mup_ne _ _ _ (by decide)]; exact q1 t0
    · exact (q2 t0 S hS hv).same (by rw [mup_ne _ _ _ (by decide), mup_ne _ _ _ (by decide)]) (by rw [mup_ne _ _ _ (by decide), mup_ne _ _ _ (by decide)])
  have t0i : zI t = 0 ↔ t = 0 := by rw [show (0 : Int32) = zI 0 from rfl, zI_inj (by omega) (by omega)]
  -- setting a place to what lies ahead of it
  have one : ∀ (g2 : Nat → Nat → Int32) (y : Nat) {P : (Nat → Int32) → (Nat → Nat → Int32) → Prop}, t = 0 → y < 400 → 1 ≤ y → y ≤ m → (∀ S : Nat → Key, SP g 400 S → (∀ i, i < 400 → (S i).length ≤ 12) → SP g2 400 (shS S m y)) → (∀ g3, (∀ k, k ≠ 16 → k ≠ 17 → g3 k = g2 k) → (∀ S : Nat → Key, SP g 400 S → (∀ i, i < 400 → (S i).length ≤ 12) → SP g3 400 (shS S m (y - 1))) → P n g3) → vp_in (zI (y - 1)) (mlen 16) ∧ ∀ w : Int32, w = g2 16 (zI (y - 1)).toNatClampNeg → wp_X9_sets (zI y) 17 (zI (12 * (y - 1))) w n g2 P := fun g2 y P t0 h4 h1 hy hs hP => by
    obtain ⟨S0, s1, s2⟩ := hS0 t0
    have s3 := hs S0 s1 s2
    have es : shS S0 m y (y - 1) = S0 (y - 1) := by unfold shS; rw [if_neg (by omega)]
    refine rd (show y - 1 < 400 by omega) (by decide) ?_
    have e16 : g2 16 (y - 1) = zI (S0 (y - 1)).length := by rw [← es]; exact s3.1 (y - 1) (by omega)
    have l12 := s2 (y - 1) (by omega)
    rw [e16]
    refine s9_sets h4 (by decide) (by decide) l12 (show 12 * (y - 1) + _ ≤ 4800 by omega) (fun _ => by omega) (fun g3 P3 => hP g3 P3.1 (fun S hS hv => ?_))
    have s4 := hs S hS hv
    have es' : shS S m y (y - 1) = S (y - 1) := by unfold shS; rw [if_neg (by omega)]
    have ha := s4.2.1 (y - 1) (by omega)
    have hlen : (S0 (y - 1)).length = (S (y - 1)).length := by
      have a := s4.1 (y - 1) (by omega)
      rw [es', e16, zI_inj (by omega) (by have := hv (y - 1) (by omega); omega)] at a
      exact a
    rw [es'] at ha
    refine (P3.sp s4 (fun i hi => ?_) hlen l12 ha).congr (Nat.le_refl _) (fun i hi => ?_)
    · unfold shS; split
      · exact hv (i - 1) (by omega)
      · exact hv i hi
    · have := shS_step S (m := m) (p := y - 1) (by omega) i
      rw [show y - 1 + 1 = y by omega] at this
      exact this
  refine ⟨fun z => ?_, fun z => ?_⟩
  · rw [show zI p + 1 = zI (p + 1) from zI_add p 1] at z ⊢
    rw [zI_le (by omega) (by omega)] at z
    have ey : y = p + 1 := by omega
    refine ⟨fun x => fin g1 rfl (fun _ _ _ => rfl) ey p4 (fun t0 => absurd (t0i.mpr t0) x), fun x => ?_⟩
    have t0 := t0i.mp x
    subst ey
    have o := one g1 (p + 1) (P := fun n_16 g_17 => wp_X9_comes_101 (zI t) (zI p) v n_16 g_17 K) t0 (by omega) (by omega) y2 (p5 t0) (fun g3 k1 k2 => fin g3 (k1 15 (by decide) (by decide)) k1 rfl (fun t1 => absurd t0 t1) (fun _ S hS hv => by have := k2 S hS hv; rw [Nat.add_sub_cancel] at this; exact this))
    rw [Nat.add_sub_cancel] at o
    rw [k12]
    exact o
  · rw [show zI p + 1 = zI (p + 1) from zI_add p 1, zI_le (by omega) (by omega)] at z
    have back : ∀ g3, g3 15 = upd (g1 15) (400 * t + y) (g1 15 (400 * t + (y - 1))) → (∀ k, k ≠ 15 → k ≠ 16 → k ≠ 17 → g3 k = g1 k) → (t ≠ 0 → g3 16 = g 16 ∧ g3 17 = g 17) → (t = 0 → ∀ S : Nat → Key, SP g 400 S → (∀ i, i < 400 → (S i).length ≤ 12) → SP g3 400 (shS S m (y - 1))) → wp_X9_comes_70 (zI t) (zI p) v (zI y) n g3 K C := fun g3 k15 k1 k2 k3 => by
      rintro w rfl
      rw [zI_pred (by omega)]
      refine hC _ ⟨y - 1, g3, rfl, by omega, by omega, fun q hq => ?_, fun x hx => ?_, fun k a b c => (k1 k a b c).trans (p3 k a b c), k2, k3⟩ ?_
      · rw [k15]
        by_cases w : q = y
        · subst w
          rw [upd_same, if_pos (by omega), p1 (q - 1) (by omega), if_neg (by omega)]
        · rw [upd_ne _ _ (by omega), p1 q hq]
          by_cases u : y < q
          · rw [if_pos u, if_pos (by omega)]
          · rw [if_neg u, if_neg (by omega)]
      · rw [k15, upd_ne _ _ (by omega)]; exact p2 x hx
      · show (zI (y - 1)).toNatClampNeg < (zI y).toNatClampNeg
        rw [zI_clamp (by omega), zI_clamp (by omega)]; omega
    rw [show zI y - 1 = zI (y - 1) from zI_sub (show 1 ≤ y by omega)]
    show vp_in ((400 : Int32) * zI t + zI (y - 1)) (mlen 15) ∧ ∀ v_21 : Int32, v_21 = g1 15 ((400 : Int32) * zI t + zI (y - 1)).toNatClampNeg → vp_in ((400 : Int32) * zI t + zI y) (mlen 15) ∧ ∀ g_23 : Nat → Nat → Int32, g_23 = mup g1 15 ((400 : Int32) * zI t + zI y).toNatClampNeg v_21 → _
    rw [at_eq, at_eq]
    refine rd (show 400 * t + (y - 1) < 4800 by omega) (by decide) (wr (show 400 * t + y < 4800 by omega) (by decide) ⟨fun x => ?_, fun x => ?_⟩)
    · have t0 : t ≠ 0 := fun e => x (t0i.mpr e)
      refine back _ (mup_same _ _ _ _) (fun k a b c => mup_ne _ _ _ a) (fun _ => ?_) (fun e => absurd e t0)
      rw [mup_ne _ _ _ (by decide), mup_ne _ _ _ (by decide)]; exact p4 t0
    · have t0 := t0i.mp x
      rw [k12]
      refine one _ y (P := fun n_29 g_30 => wp_X9_comes_70 (zI t) (zI p) v (zI y) n_29 g_30 K C) t0 (by omega) (by omega) y2 (fun S hS hv => (p5 t0 S hS hv).same (mup_ne _ _ _ (by decide)) (mup_ne _ _ _ (by decide))) (fun g3 k1 k2 => back g3 ?_ (fun k a b c => ?_) (fun t1 => absurd t0 t1) (fun _ => k2))
      · rw [k1 15 (by decide) (by decide), mup_same]
      · rw [k1 k b c, mup_ne _ _ _ a]
theorem Z2.s9_parts83 {t : Nat} (ht : t + 1 < 12) {ab : Nat} (hab : ab < 400) (e15 : ∃ v, g 15 (400 * (t + 1) + ab) = zI v) {K : (Nat → Int32) → (Nat → Nat → Int32) → Prop} (hK : ∀ g', (∀ k, k ≠ 15 → g' k = g k) → g' 15 = upd (g 15) (400 * (t + 1) + ab) (g 15 (400 * (t + 1) + ab) + 1) → K n g') : wp_X9_parts_83 (zI t) (zI ab) n g K := by
  refine ⟨fun _ => ?_, fun z => ?_⟩
  · rw [show zI t + 1 = zI (t + 1) from zI_add t 1]
    show vp_in ((400 : Int32) * zI (t + 1) + zI ab) (mlen 15) ∧ _
    rw [at_eq]
    exact rd (show 400 * (t + 1) + ab < 4800 by omega) (by decide) (wr (show 400 * (t + 1) + ab < 4800 by omega) (by decide) (hK _ (fun k hk => mup_ne _ _ _ hk) (mup_same _ _ _ _)))
  · have := congrArg Int32.toInt z
    rw [zI_toInt (by omega)] at this
    have e1 : (-1 : Int32).toInt = -1 := rfl
    omega
theorem Z2.s9_parts83r {t h : Nat} (hh : h < 12) (eh : n 13 = zI h) {K : (Nat → Int32) → (Nat → Nat → Int32) → Prop} (hK : ∀ g', (∀ k, k ≠ 14 → k ≠ 15 → g' k = g k) → g' 14 = upd (g 14) h 1 → g' 15 = upd (g 15) (400 * h) 2 → K (upd n 13 (zI (h + 1))) g') : wp_X9_parts_83 (zI t) (-1) n g K := by
  refine ⟨fun z => absurd rfl z, fun _ => ?_⟩
  rw [eh]
  refine wr (show h < 12 from hh) (by decide) ?_
  show vp_in ((400 : Int32) * zI h + 0) (mlen 15) ∧ _
  rw [show (400 : Int32) * zI h + 0 = zI (400 * h) from at_eq h 0]
  refine wr (show 400 * h < 4800 by omega) (by decide) ?_
  rw [show zI h + 1 = zI (h + 1) from zI_add h 1]
  rintro n1 rfl
  exact hK _ (fun k a b => by rw [mup_ne _ _ _ b, mup_ne _ _ _ a]) (by rw [mup_ne _ _ _ (by decide), mup_same]) (by rw [mup_same, mup_ne _ _ _ (by decide)])
/-- parts, but for what the page above gets -/
def Z2.PaP (g g' : Nat → Nat → Int32) (T : Tr) (t p c : Nat) : Prop := g' 14 = upd (g 14) t (zI (T.m t + 1)) ∧ (∀ q, q ≤ T.m t → g' 15 (400 * t + q) = zI (ins (T.E t) p c q - st (ins (T.E t) p c) q)) ∧ (∀ x, ¬ (400 * t ≤ x ∧ x ≤ 400 * t + T.m t) → g' 15 x = g 15 x) ∧ (∀ k, k ≠ 14 → k ≠ 15 → k ≠ 16 → k ≠ 17 → g' k = g k) ∧ SP g' ((if t = 0 then T.m 0 + 1 else T.m 0) - 1) (if t = 0 then ins T.S p (sp (T.ks (c - 1)) (T.ks c)) else T.S)
theorem Z2.s9_parts43 (M : MT n g T) (B : BT T) {t p c : Nat} (ht : t < T.h) (hp : p < T.m t) (h1 : st (T.E t) p < c) (h2 : c < T.E t p) (hm : T.m t + 1 ≤ 400) {z0 : Int32} {K : (Nat → Int32) → (Nat → Nat → Int32) → Prop} (hK : ∀ g', PaP g g' T t p c → wp_X9_parts_83 (zI t) z0 (upd n 6 (n 6 + 1)) g' K) : wp_X9_parts_43 (zI t) (zI p) (zI (c - st (T.E t) p)) (zI (T.E t p - c)) z0 n g K := by
  have hh := B.h12
  have hs := B.im.h1
  have hn := B.im.n3
  obtain ⟨g1, g2, g3⟩ := TT.ends B.im ht hp
  have e4 := B.E ht hp
  show vp_in ((400 : Int32) * zI t + zI p) (mlen 15) ∧ _
  rw [at_eq]
  have hvS : ∀ i, i < T.m 0 - 1 → (T.S i).length ≤ 12 := fun i hi => (B.im.svk i (by omega)).1
  obtain ⟨S2, s1, s2, s3⟩ := M.sp.total hvS
  refine wr (show 400 * t + p < 4800 by omega) (by decide) ?_
  have em : mup g 15 (400 * t + p) (zI (c - st (T.E t) p)) 14 t = zI (T.m t) := by rw [mup_ne _ _ _ (by decide)]; exact M.m t ht
  refine s9_comes (by omega) hp (by omega) em _ (fun _ => ⟨S2, s1.same (mup_ne _ _ _ (by decide)) (mup_ne _ _ _ (by decide)), s3⟩) (fun g5 P5 => ?_)
  obtain ⟨q1, q2, q3, q4, q5, q6⟩ := P5
  rintro n1 rfl
  have e15 : ∀ q, q < T.m t → g 15 (400 * t + q) = zI (T.E t q - st (T.E t) q) := fun q hq => M.pt t ht q hq
  have f14 : g5 14 = upd (g 14) t (zI (T.m t + 1)) := by rw [q1, mup_ne _ _ _ (by decide)]
  have f15 : ∀ q, q ≤ T.m t → g5 15 (400 * t + q) = zI (ins (T.E t) p c q - st (ins (T.E t) p c) q) := fun q hq => by
    rw [q2 q hq, st_ins, mup_same]
    by_cases z : q ≤ p
    · rw [if_pos z, if_pos z]
      by_cases y : q = p
      · subst y
        rw [upd_same, ins_eq]
      · rw [upd_ne _ _ (by omega), ins_lt _ _ (by omega)]; exact e15 q (by omega)
    · rw [if_neg z, if_neg z, ins_gt _ _ (by omega)]
      by_cases y : q = p + 1
      · subst y
        rw [if_pos rfl, if_pos rfl, Nat.add_sub_cancel]
      · rw [if_neg y, if_neg y, upd_ne _ _ (by omega)]; exact e15 (q - 1) (by omega)
  have f15' : ∀ x, ¬ (400 * t ≤ x ∧ x ≤ 400 * t + T.m t) → g5 15 x = g 15 x := fun x hx => by
    rw [q3 x hx, mup_same, upd_ne _ _ (by omega)]
  have fk : ∀ k, k ≠ 14 → k ≠ 15 → k ≠ 16 → k ≠ 17 → g5 k = g k := fun k a b c d => by rw [q4 k a b c d, mup_ne _ _ _ b]
  refine ⟨fun x => ?_, fun x => ?_⟩
  · have t0 : t ≠ 0 := fun y => x (by rw [y]; rfl)
    refine hK g5 ⟨f14, f15, f15', fk, ?_⟩
    rw [if_neg t0, if_neg t0]
    obtain ⟨r1, r2⟩ := q5 t0
    exact M.sp.same (by rw [r1, mup_ne _ _ _ (by decide)]) (by rw [r2, mup_ne _ _ _ (by decide)])
  · rw [show (0 : Int32) = zI 0 from rfl, zI_inj (by omega) (by omega)] at x
    subst x
    have s5 := q6 rfl S2 (s1.same (mup_ne _ _ _ (by decide)) (mup_ne _ _ _ (by decide))) s3
    have s5l : ∀ i, i < 400 → (shS S2 (T.m 0) p i).length ≤ 12 := fun i hi => by
      unfold shS; split
      · exact s3 (i - 1) (by omega)
      · exact s3 i hi
    rw [if_pos rfl] at g2
    -- the reference with the leaf parted and its own separators
    have M2 : MT (upd n 6 (n 6 + 1)) g5 (Tr.mk T.cap T.n T.ks T.vs T.h (stt T.m 0 (T.m 0 + 1)) (stt T.E 0 (ins (T.E 0) p c)) (shS S2 (T.m 0) p) T.c0 T.c1 T.c2) := by
      refine MT.mk2 (U := Tr.mk T.cap T.n T.ks T.vs T.h (stt T.m 0 (T.m 0 + 1)) (stt T.E 0 (ins (T.E 0) p c)) (shS S2 (T.m 0) p) T.c0 T.c1 T.c2) ?_ ?_ ?_ (fun i hi => ?_) (fun i hi => ?_) (fun i hi => ?_) (fun t ht => ?_) (fun t ht q hq => ?_) ?_
      · rw [upd_ne _ _ (by decide)]; exact M.cap
      · rw [upd_ne _ _ (by decide)]; exact M.cn
      · rw [upd_ne _ _ (by decide)]; exact M.ch
      · rw [fk 10 (by decide) (by decide) (by decide) (by decide)]; exact M.sz i hi
      · intro j hj; rw [fk 11 (by decide) (by decide) (by decide) (by decide)]; exact M.kb i hi j hj
      · rw [fk 12 (by decide) (by decide) (by decide) (by decide)]; exact M.vs i hi
      · show g5 14 t = zI (stt T.m 0 (T.m 0 + 1) t)
        rw [f14]
        unfold upd stt
        by_cases z : t = 0
        · rw [if_pos z, if_pos z]
        · rw [if_neg z, if_neg z]; exact M.m t ht
      · show g5 15 (400 * t + q) = zI (stt T.E 0 (ins (T.E 0) p c) t q - st (stt T.E 0 (ins (T.E 0) p c) t) q)
        have hq : q < stt T.m 0 (T.m 0 + 1) t := hq
        by_cases z : t = 0
        · subst z
          rw [stt_same] at hq
          rw [stt_same]; exact f15 q (by omega)
        · rw [stt_ne _ _ z] at hq
          have := B.m (t := t) ht
          rw [stt_ne _ _ z, f15' _ (by omega)]; exact M.pt t ht q hq
      · exact s5.congr (by show stt T.m 0 (T.m 0 + 1) 0 - 1 ≤ 400; rw [stt_same]; omega) (fun i hi => rfl)
    have eE : (Tr.mk T.cap T.n T.ks T.vs T.h (stt T.m 0 (T.m 0 + 1)) (stt T.E 0 (ins (T.E 0) p c)) (shS S2 (T.m 0) p) T.c0 T.c1 T.c2).E 0 p = c := by
      show stt T.E 0 (ins (T.E 0) p c) 0 p = c
      rw [stt_same, ins_eq]
    refine s9_separates M2 hh hs (by show stt T.m 0 (T.m 0 + 1) 0 ≤ 400; rw [stt_same]; omega) (fun q hq => ?_) hn B.im.vk (leaf := p) (by show p < stt T.m 0 (T.m 0 + 1) 0; rw [stt_same]; omega) (by rw [eE]; omega) (by rw [eE]; show c < T.n; omega) (by rw [eE]; exact B.im.srt _ _ (by omega) (by omega)) (fun g6 k1 k2 => ?_)
    · show st (stt T.E 0 (ins (T.E 0) p c) 0) q ≤ stt T.E 0 (ins (T.E 0) p c) 0 q
      have hq : q < stt T.m 0 (T.m 0 + 1) 0 := hq
      rw [stt_same] at hq
      rw [stt_same, st_ins]
      by_cases z : q ≤ p
      · rw [if_pos z]
        by_cases y : q = p
        · rw [y, ins_eq]; omega
        · rw [ins_lt _ _ (by omega)]; exact B.im.st_le (by omega)
      · rw [if_neg z, ins_gt _ _ (by omega)]
        by_cases y : q = p + 1
        · subst y; rw [if_pos rfl, Nat.add_sub_cancel]; omega
        · rw [if_neg y]; exact B.im.st_le (by omega)
    · rw [eE] at k2
      have s6 := k2 400 _ s5 s5l
      refine hK g6 ⟨?_, fun q hq => ?_, fun x hx => ?_, fun k a b c d => ?_, ?_⟩
      · rw [k1 14 (by decide) (by decide)]; exact f14
      · rw [k1 15 (by decide) (by decide)]; exact f15 q hq
      · rw [k1 15 (by decide) (by decide)]; exact f15' x hx
      · rw [k1 k c d]; exact fk k a b c d
      · rw [if_pos rfl, if_pos rfl]
        refine s6.congr (by omega) (fun i hi => ?_)
        show stt (shS S2 (T.m 0) p) p (sp (T.ks (c - 1)) (T.ks c)) i = _
        unfold stt ins shS
        by_cases z : i = p
        · rw [if_pos z, if_neg (by omega), if_pos z]
        · rw [if_neg z]
          by_cases y : i < p
          · rw [if_neg (by omega), if_pos y]; exact s2 i (by omega)
          · rw [if_pos (by omega), if_neg y, if_neg z]; exact s2 (i - 1) (by omega)
end
