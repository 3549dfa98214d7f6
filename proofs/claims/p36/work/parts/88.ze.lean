section
theorem Z2.stk_spec (f : Nat → Nat → Nat) (least limit : Nat) (hl : 1 ≤ least) : ∀ (k i s c : Nat) (e : Nat → Nat), s ≤ i → (0 < i → s < i) → (c = 0 → s = 0) → (0 < c → e (c - 1) = s ∧ 1 ≤ e 0) → (∀ x y, x < y → y < c → e x < e y) → (∀ j, j < c → st e j + least ≤ e j) →
    ∀ c' e', stk f least limit k i s c e = (c', e') → 1 ≤ c' ∧ (∀ x y, x < y → y < c' → e' x < e' y) ∧ e' (c' - 1) = i + k ∧ (0 < i + k → 1 ≤ e' 0) ∧ (∀ j, j + 1 < c' → st e' j + least ≤ e' j) := by
  intro k
  induction k with
  | zero =>
    intro i s c e h1 h2 h3 h4 h5 h6 c' e' he
    simp only [stk, Prod.mk.injEq] at he
    obtain ⟨rfl, rfl⟩ := he
    refine ⟨Nat.le_add_left _ _, fun x y hxy hy => ?_, by rw [Nat.add_sub_cancel, stt_same, Nat.add_zero], fun hp => ?_, fun j hj => ?_⟩
    · rw [stt_ne _ _ (by omega)]
      by_cases g : y = c
      · subst g
        rw [stt_same]
        have := (h4 (by omega)).1
        have hs := h2 (by
          have := (h4 (by omega)).2
          have h7 : e 0 ≤ e (y - 1) := by
            rcases Nat.eq_or_lt_of_le (Nat.zero_le (y - 1)) with z | z
            · rw [← z]; exact Nat.le_refl _
            · exact Nat.le_of_lt (h5 0 (y - 1) z (by omega))
          omega)
        have h8 : e x ≤ e (y - 1) := by
          rcases Nat.lt_or_ge x (y - 1) with z | z
          · exact Nat.le_of_lt (h5 x (y - 1) z (by omega))
          · rw [show x = y - 1 by omega]; exact Nat.le_refl _
        omega
      · rw [stt_ne _ _ g]; exact h5 x y hxy (by omega)
    · by_cases g : c = 0
      · subst g; rw [stt_same]; omega
      · rw [stt_ne _ _ (by omega)]; exact (h4 (by omega)).2
    · have := h6 j (by omega)
      rw [stt_ne _ _ (by omega)]
      unfold st at this ⊢
      split
      · rename_i g; rw [if_pos g] at this; exact this
      · rename_i g; rw [if_neg g] at this; rw [stt_ne _ _ (by omega)]; exact this
  | succ k ih =>
    intro i s c e h1 h2 h3 h4 h5 h6 c' e' he
    simp only [stk] at he
    rw [show i + (k + 1) = i + 1 + k by omega]
    split at he
    · rename_i g
      refine ih (i + 1) i (c + 1) (stt e c i) (by omega) (fun _ => by omega) (fun h => by omega) (fun _ => ⟨by rw [Nat.add_sub_cancel, stt_same], ?_⟩) (fun x y hxy hy => ?_) (fun j hj => ?_) c' e' he
      · by_cases z : c = 0
        · subst z; rw [stt_same]; omega
        · rw [stt_ne _ _ (by omega)]; exact (h4 (by omega)).2
      · rw [stt_ne _ _ (by omega)]
        by_cases z : y = c
        · subst z
          rw [stt_same]
          have := (h4 (by omega)).1
          have h8 : e x ≤ e (y - 1) := by
            rcases Nat.lt_or_ge x (y - 1) with z | z
            · exact Nat.le_of_lt (h5 x (y - 1) z (by omega))
            · rw [show x = y - 1 by omega]; exact Nat.le_refl _
          omega
        · rw [stt_ne _ _ z]; exact h5 x y hxy (by omega)
      · by_cases z : j = c
        · subst z
          rw [stt_same]
          unfold st
          split
          · rename_i y; have := h3 y; omega
          · rename_i y
            rw [stt_ne _ _ (by omega), (h4 (by omega)).1]; omega
        · have := h6 j (by omega)
          rw [stt_ne _ _ z]
          unfold st at this ⊢
          split
          · rename_i g; rw [if_pos g] at this; exact this
          · rename_i g; rw [if_neg g] at this; rw [stt_ne _ _ (by omega)]; exact this
    · exact ih (i + 1) s c e (by omega) (fun _ => by omega) h3 h4 h5 h6 c' e' he
/-- as IM, but the tiers above are still to be built -/
abbrev Z2.Tr.LM (T : Tr) : Prop := (64 ≤ T.cap ∧ T.cap ≤ 200) ∧ (T.n ≤ 300) ∧ (∀ i, i < T.n → VK (T.ks i)) ∧ (∀ i j, i < j → j < T.n → klt (T.ks i) (T.ks j)) ∧ (1 ≤ T.h) ∧ (∀ t, t < T.h → 1 ≤ T.m t) ∧ (∀ i j, i ≤ j → j < T.m 0 → T.E 0 i ≤ T.E 0 j) ∧ (T.E 0 (T.m 0 - 1) = T.n) ∧ (∀ t, 1 ≤ t → t < T.h → ∀ i j, i < j → j < T.m t → T.E t i < T.E t j) ∧ (∀ t, 1 ≤ t → t < T.h → 1 ≤ T.E t 0) ∧ (∀ t, t + 1 < T.h → T.E (t + 1) (T.m (t + 1) - 1) = T.m t) ∧ (∀ i, i + 1 < T.m 0 → VK (T.S i)) ∧ (∀ i j, i < j → j + 1 < T.m 0 → klt (T.S i) (T.S j)) ∧ (∀ i j, i + 1 < T.m 0 → j < T.E 0 i → klt (T.ks j) (T.S i)) ∧ (∀ i j, i + 1 < T.m 0 → T.E 0 i ≤ j → j < T.n → ¬ klt (T.ks j) (T.S i)) ∧ (∀ t, t + 1 < T.h → ∀ q, q + 1 < T.m (t + 1) → st (T.E (t + 1)) q + 2 ≤ T.E (t + 1) q) ∧ (∀ t, t + 1 < T.h → 1 < T.m t)
theorem Z2.Tr.LM.mk {T : Tr} (cap : 64 ≤ T.cap ∧ T.cap ≤ 200) (n3 : T.n ≤ 300) (vk : ∀ i, i < T.n → VK (T.ks i)) (srt : ∀ i j, i < j → j < T.n → klt (T.ks i) (T.ks j)) (h1 : 1 ≤ T.h) (m1 : ∀ t, t < T.h → 1 ≤ T.m t) (mono : ∀ i j, i ≤ j → j < T.m 0 → T.E 0 i ≤ T.E 0 j) (last : T.E 0 (T.m 0 - 1) = T.n) (strict : ∀ t, 1 ≤ t → t < T.h → ∀ i j, i < j → j < T.m t → T.E t i < T.E t j) (one : ∀ t, 1 ≤ t → t < T.h → 1 ≤ T.E t 0) (lastT : ∀ t, t + 1 < T.h → T.E (t + 1) (T.m (t + 1) - 1) = T.m t) (svk : ∀ i, i + 1 < T.m 0 → VK (T.S i)) (ssrt : ∀ i j, i < j → j + 1 < T.m 0 → klt (T.S i) (T.S j)) (sl : ∀ i j, i + 1 < T.m 0 → j < T.E 0 i → klt (T.ks j) (T.S i)) (sr : ∀ i j, i + 1 < T.m 0 → T.E 0 i ≤ j → j < T.n → ¬ klt (T.ks j) (T.S i)) (two : ∀ t, t + 1 < T.h → ∀ q, q + 1 < T.m (t + 1) → st (T.E (t + 1)) q + 2 ≤ T.E (t + 1) q) (more : ∀ t, t + 1 < T.h → 1 < T.m t) : Tr.LM T := ⟨cap, n3, vk, srt, h1, m1, mono, last, strict, one, lastT, svk, ssrt, sl, sr, two, more⟩
theorem Z2.Tr.LM.cap {T : Tr} (h9 : Tr.LM T) : 64 ≤ T.cap ∧ T.cap ≤ 200 := h9.1
theorem Z2.Tr.LM.n3 {T : Tr} (h9 : Tr.LM T) : T.n ≤ 300 := h9.2.1
theorem Z2.Tr.LM.vk {T : Tr} (h9 : Tr.LM T) : ∀ i, i < T.n → VK (T.ks i) := h9.2.2.1
theorem Z2.Tr.LM.srt {T : Tr} (h9 : Tr.LM T) : ∀ i j, i < j → j < T.n → klt (T.ks i) (T.ks j) := h9.2.2.2.1
theorem Z2.Tr.LM.h1 {T : Tr} (h9 : Tr.LM T) : 1 ≤ T.h := h9.2.2.2.2.1
theorem Z2.Tr.LM.m1 {T : Tr} (h9 : Tr.LM T) : ∀ t, t < T.h → 1 ≤ T.m t := h9.2.2.2.2.2.1
theorem Z2.Tr.LM.mono {T : Tr} (h9 : Tr.LM T) : ∀ i j, i ≤ j → j < T.m 0 → T.E 0 i ≤ T.E 0 j := h9.2.2.2.2.2.2.1
theorem Z2.Tr.LM.last {T : Tr} (h9 : Tr.LM T) : T.E 0 (T.m 0 - 1) = T.n := h9.2.2.2.2.2.2.2.1
theorem Z2.Tr.LM.strict {T : Tr} (h9 : Tr.LM T) : ∀ t, 1 ≤ t → t < T.h → ∀ i j, i < j → j < T.m t → T.E t i < T.E t j := h9.2.2.2.2.2.2.2.2.1
theorem Z2.Tr.LM.one {T : Tr} (h9 : Tr.LM T) : ∀ t, 1 ≤ t → t < T.h → 1 ≤ T.E t 0 := h9.2.2.2.2.2.2.2.2.2.1
theorem Z2.Tr.LM.lastT {T : Tr} (h9 : Tr.LM T) : ∀ t, t + 1 < T.h → T.E (t + 1) (T.m (t + 1) - 1) = T.m t := h9.2.2.2.2.2.2.2.2.2.2.1
theorem Z2.Tr.LM.svk {T : Tr} (h9 : Tr.LM T) : ∀ i, i + 1 < T.m 0 → VK (T.S i) := h9.2.2.2.2.2.2.2.2.2.2.2.1
theorem Z2.Tr.LM.ssrt {T : Tr} (h9 : Tr.LM T) : ∀ i j, i < j → j + 1 < T.m 0 → klt (T.S i) (T.S j) := h9.2.2.2.2.2.2.2.2.2.2.2.2.1
theorem Z2.Tr.LM.sl {T : Tr} (h9 : Tr.LM T) : ∀ i j, i + 1 < T.m 0 → j < T.E 0 i → klt (T.ks j) (T.S i) := h9.2.2.2.2.2.2.2.2.2.2.2.2.2.1
theorem Z2.Tr.LM.sr {T : Tr} (h9 : Tr.LM T) : ∀ i j, i + 1 < T.m 0 → T.E 0 i ≤ j → j < T.n → ¬ klt (T.ks j) (T.S i) := h9.2.2.2.2.2.2.2.2.2.2.2.2.2.2.1
theorem Z2.Tr.LM.two {T : Tr} (h9 : Tr.LM T) : ∀ t, t + 1 < T.h → ∀ q, q + 1 < T.m (t + 1) → st (T.E (t + 1)) q + 2 ≤ T.E (t + 1) q := h9.2.2.2.2.2.2.2.2.2.2.2.2.2.2.2.1
theorem Z2.Tr.LM.more {T : Tr} (h9 : Tr.LM T) : ∀ t, t + 1 < T.h → 1 < T.m t := h9.2.2.2.2.2.2.2.2.2.2.2.2.2.2.2.2
section
theorem Z2.Tr.LM.im {T : Tr} (L : T.LM) (h : T.m (T.h - 1) = 1) : T.IM :=
  ⟨L.cap, L.n3, L.vk, L.srt, L.h1, L.m1, L.mono, L.last, L.strict, L.one, L.lastT, h, L.svk, L.ssrt, L.sl, L.sr⟩
theorem Z2.Tr.tier_LM {T : Tr} (L : T.LM) (limit : Nat) (hm : 1 < T.m (T.h - 1)) : (T.tier T.h (T.m (T.h - 1)) 2 limit).LM ∧ (T.tier T.h (T.m (T.h - 1)) 2 limit).m T.h < T.m (T.h - 1) := by
  have hh := L.h1
  generalize hr : stk (T.psz T.h) 2 limit (T.m (T.h - 1)) 0 0 0 (T.E T.h) = r
  obtain ⟨c, e⟩ := r
  have S := stk_spec (T.psz T.h) 2 limit (by omega) (T.m (T.h - 1)) 0 0 0 (T.E T.h) (Nat.le_refl _) (fun h => by omega) (fun _ => rfl) (fun h => by omega) (fun x y _ h => by omega) (fun j h => by omega) c e hr
  obtain ⟨s1, s2, s3, s4, s5⟩ := S
  rw [Nat.zero_add] at s3 s4
  have hT : T.tier T.h (T.m (T.h - 1)) 2 limit = (Tr.mk T.cap T.n T.ks T.vs (T.h + 1) (stt T.m T.h c) (stt T.E T.h e) T.S T.c0 T.c1 T.c2) := by
    unfold tier; rw [hr]
  rw [hT]
  have hge : ∀ j, j + 1 < c → 2 * (j + 1) ≤ e j := by
    intro j
    induction j with
    | zero => intro h; have := s5 0 h; unfold st at this; rw [if_pos rfl] at this; omega
    | succ j ih => intro h; have := s5 (j + 1) h; unfold st at this; rw [if_neg (by omega), Nat.add_sub_cancel] at this; have := ih (by omega); omega
  have hlt : c < T.m (T.h - 1) := by
    rcases Nat.lt_or_ge 1 c with g | g
    · have a := hge (c - 2) (by omega)
      have b := s2 (c - 2) (c - 1) (by omega) (by omega)
      omega
    · omega
  have mt : ∀ u, u < T.h → stt T.m T.h c u = T.m u := fun u hu => stt_ne _ _ (by omega)
  have Et : ∀ u, u < T.h → stt T.E T.h e u = T.E u := fun u hu => stt_ne _ _ (by omega)
  refine ⟨(Tr.LM.mk (cap := L.cap) (n3 := L.n3) (vk := L.vk) (srt := L.srt) (h1 := Nat.le_add_left 1 _) (m1 := ?_) (mono := ?_) (last := ?_) (strict := ?_) (one := ?_) (lastT := ?_) (svk := ?_) (ssrt := ?_) (sl := ?_) (sr := ?_) (two := ?_) (more := ?_)), ?_⟩ <;> try dsimp only [Tr.mk_cap, Tr.mk_n, Tr.mk_ks, Tr.mk_vs, Tr.mk_h, Tr.mk_m, Tr.mk_E, Tr.mk_S, Tr.mk_c0, Tr.mk_c1, Tr.mk_c2]
  · intro u hu
    by_cases g : u = T.h
    · rw [g, stt_same]; exact s1
    · rw [mt u (by omega)]; exact L.m1 u (by omega)
  · rw [mt 0 (by omega), Et 0 (by omega)]; exact L.mono
  · rw [mt 0 (by omega), Et 0 (by omega)]; exact L.last
  · intro u h1 hu i j hij hj
    by_cases g : u = T.h
    · rw [g, stt_same] at hj ⊢; exact s2 i j hij hj
    · rw [mt u (by omega)] at hj; rw [Et u (by omega)]; exact L.strict u h1 (by omega) i j hij hj
  · intro u h1 hu
    by_cases g : u = T.h
    · rw [g, stt_same]; exact s4 (by omega)
    · rw [Et u (by omega)]; exact L.one u h1 (by omega)
  · intro u hu
    by_cases g : u + 1 = T.h
    · rw [g, stt_same, stt_same, mt u (by omega), s3, show T.h - 1 = u by omega]
    · rw [Et (u + 1) (by omega), mt (u + 1) (by omega), mt u (by omega)]; exact L.lastT u (by omega)
  · rw [mt 0 (by omega)]; exact L.svk
  · rw [mt 0 (by omega)]; exact L.ssrt
  · rw [mt 0 (by omega), Et 0 (by omega)]; exact L.sl
  · rw [mt 0 (by omega), Et 0 (by omega)]; exact L.sr
  · intro u hu q hq
    by_cases g : u + 1 = T.h
    · rw [g, stt_same] at hq ⊢; exact s5 q hq
    · rw [mt (u + 1) (by omega)] at hq; rw [Et (u + 1) (by omega)]; exact L.two u (by omega) q hq
  · intro u hu
    rw [mt u (by omega)]
    by_cases g : u + 1 = T.h
    · rw [show u = T.h - 1 by omega]; exact hm
    · exact L.more u (by omega)
  · rw [stt_same]; exact hlt
theorem Z2.Tr.tiers_spec {T : Tr} (L : T.LM) (limit k : Nat) (hk : T.m (T.h - 1) ≤ k + 1) : (tiers limit k T T.h).LM ∧ (tiers limit k T T.h).IM ∧ Like T (tiers limit k T T.h) ∧ (tiers limit k T T.h).m 0 = T.m 0 := by
  have hh := L.h1
  have hm := L.m1 (T.h - 1) (by omega)
  induction k generalizing T with
  | zero => exact ⟨L, L.im (by omega), Like.refl T, rfl⟩
  | succ k ih =>
    unfold tiers
    split
    · rename_i g
      obtain ⟨L', l'⟩ := tier_LM L limit g
      have e : (T.tier T.h (T.m (T.h - 1)) 2 limit).h = T.h + 1 := rfl
      obtain ⟨a1, a2, a3, a4⟩ := ih L' (by rw [e, Nat.add_sub_cancel]; omega) (by rw [e]; omega) (L'.m1 _ (by rw [e]; omega))
      rw [e] at a1 a2 a3 a4
      have e0 : (T.tier T.h (T.m (T.h - 1)) 2 limit).m 0 = T.m 0 := stt_ne T.m _ (by omega)
      exact ⟨a1, a2, ⟨a3.cap, a3.n, a3.ks, a3.vs⟩, a4.trans e0⟩
    · exact ⟨L, L.im (by omega), Like.refl T, rfl⟩
theorem Z2.Tr.load_LM {T : Tr} (hc : 64 ≤ T.cap ∧ T.cap ≤ 200) {w : Nat} {wk : Nat → Key} {wv : Nat → Int32} {limit : Nat} (hw : w ≤ 300) (hv : ∀ i, i < w → VK (wk i)) (hs : ∀ i j, i < j → j < w → klt (wk i) (wk j)) :
    (seps (tier (Tr.mk T.cap (w) (wk) (wv) T.h T.m T.E T.S T.c0 T.c1 T.c2) 0 w 1 limit)).LM ∧ (seps (tier (Tr.mk T.cap (w) (wk) (wv) T.h T.m T.E T.S T.c0 T.c1 T.c2) 0 w 1 limit)).m 0 ≤ w + 1 ∧ ((seps (tier (Tr.mk T.cap (w) (wk) (wv) T.h T.m T.E T.S T.c0 T.c1 T.c2) 0 w 1 limit)).m 0 ≤ w ∨ (seps (tier (Tr.mk T.cap (w) (wk) (wv) T.h T.m T.E T.S T.c0 T.c1 T.c2) 0 w 1 limit)).m 0 = 1) := by
  generalize hr : stk (psz (Tr.mk T.cap (w) (wk) (wv) T.h T.m T.E T.S T.c0 T.c1 T.c2) 0) 1 limit w 0 0 0 (T.E 0) = r
  obtain ⟨c, e⟩ := r
  have S := stk_spec (psz (Tr.mk T.cap (w) (wk) (wv) T.h T.m T.E T.S T.c0 T.c1 T.c2) 0) 1 limit (by omega) w 0 0 0 (T.E 0) (Nat.le_refl _) (fun h => by omega) (fun _ => rfl) (fun h => by omega) (fun x y _ h => by omega) (fun j h => by omega) c e hr
  obtain ⟨s1, s2, s3, s4, s5⟩ := S
  rw [Nat.zero_add] at s3 s4
  have hT : seps (tier (Tr.mk T.cap (w) (wk) (wv) T.h T.m T.E T.S T.c0 T.c1 T.c2) 0 w 1 limit) = (Tr.mk T.cap (w) (wk) (wv) (1) (stt T.m 0 c) (stt T.E 0 e) (fun i => sp (wk (stt T.E 0 e 0 i - 1)) (wk (stt T.E 0 e 0 i))) T.c0 T.c1 T.c2) := by
    unfold tier; dsimp only [Tr.mk_cap, Tr.mk_n, Tr.mk_ks, Tr.mk_vs, Tr.mk_h, Tr.mk_m, Tr.mk_E, Tr.mk_S, Tr.mk_c0, Tr.mk_c1, Tr.mk_c2]; rw [hr]; rfl
  rw [hT]
  simp only [stt_same]
  have hge : ∀ j, j < c → 0 < w → j + 1 ≤ e j := by
    intro j
    induction j with
    | zero => intro h hw; exact s4 hw
    | succ j ih => intro h hw; have := s2 j (j + 1) (by omega) h; have := ih (by omega) hw; omega
  have hcw : 1 < c → 0 < w := fun g => by have := s2 (c - 2) (c - 1) (by omega) (by omega); omega
  have hle : ∀ i, i + 1 < c → 1 ≤ e i ∧ e i < w := fun i hi => by
    have := hge i (by omega) (hcw (by omega))
    have := s2 i (c - 1) (by omega) (by omega)
    omega
  have hgt : ∀ i, i + 1 < c → klt (wk (e i - 1)) (wk (e i)) := fun i hi => by have := hle i hi; exact hs _ _ (by omega) (by omega)
  have hks : ∀ i j, i ≤ j → j < w → ¬ klt (wk j) (wk i) := fun i j h hj => by
    rcases Nat.lt_or_eq_of_le h with g | rfl
    · exact klt_asymm (hs i j g hj)
    · exact klt_irrefl _
  refine ⟨(Tr.LM.mk (cap := hc) (n3 := hw) (vk := hv) (srt := hs) (h1 := Nat.le_refl 1) (m1 := ?_) (mono := ?_) (last := ?_) (strict := ?_) (one := ?_) (lastT := ?_) (svk := ?_) (ssrt := ?_) (sl := ?_) (sr := ?_) (two := ?_) (more := ?_)), ?_, ?_⟩ <;> try simp only [Tr.mk_cap, Tr.mk_n, Tr.mk_ks, Tr.mk_vs, Tr.mk_h, Tr.mk_m, Tr.mk_E, Tr.mk_S, Tr.mk_c0, Tr.mk_c1, Tr.mk_c2, stt_same]
  · intro t ht
    have : t = 0 := by omega
    subst this; rw [stt_same]; exact s1
  · intro i j hij hj
    rcases Nat.lt_or_eq_of_le hij with g | rfl
    · exact Nat.le_of_lt (s2 i j g hj)
    · exact Nat.le_refl _
  · exact s3
  · intro t h1 h2; omega
  · intro t h1 h2; omega
  · intro t ht; omega
  · intro i hi; exact VK_sp (hv _ (hle i hi).2)
  · intro i j hij hj
    have a := hle i (by omega)
    have b := hle j hj
    have d := s2 i j hij (by omega)
    refine kle_klt (sp_le _ _) (kle_klt (hks (e i) (e j - 1) (by omega) (by omega)) (sp_gt (hgt j hj)))
  · intro i j hi hj
    have a := hle i hi
    exact kle_klt (hks j (e i - 1) (by omega) (by omega)) (sp_gt (hgt i hi))
  · intro i j hi hj hn
    exact kle_trans (sp_le (wk (e i - 1)) (wk (e i))) (hks (e i) j hj hn)
  · intro t ht; omega
  · intro t ht; omega
  · rcases Nat.lt_or_ge 1 c with g | g
    · have := hge (c - 1) (by omega) (hcw g); omega
    · omega
  · rcases Nat.lt_or_ge 1 c with g | g
    · left; have := hge (c - 1) (by omega) (hcw g); omega
    · right; omega
/-- leaves before a page -/
def Z2.Tr.lf (E : Nat → Nat → Nat) (t i : Nat) : Nat := if i = 0 then 0 else sx E t (i - 1) + 1
theorem Z2.Tr.lf_up (T : Tr) (t q : Nat) (h : 1 ≤ T.E (t + 1) q) : lf T.E (t + 1) (q + 1) = lf T.E t (T.E (t + 1) q) := by
  unfold lf; rw [if_neg (by omega), if_neg (by omega)]; rfl
theorem Z2.Tr.lf_succ (E : Nat → Nat → Nat) (t q : Nat) : lf E t (q + 1) = sx E t q + 1 := by unfold lf; rw [if_neg (by omega)]; rfl
theorem Z2.Tr.lf_0 (E : Nat → Nat → Nat) (x : Nat) : lf E 0 x = x := by
  cases x with
  | zero => rfl
  | succ x => rw [lf_succ]; rfl
theorem Z2.Tr.LM.pot {T : Tr} (L : T.LM) (h : T.m (T.h - 1) = 1) : T.Pot (3 * T.m 0) := by
  have I := L.im h
  have hh := L.h1
  have big : ∀ t, t < T.h → ∀ q, q + 1 < T.m t → lf T.E t q + 2 ^ t ≤ lf T.E t (q + 1) := by
    intro t
    induction t with
    | zero =>
      intro _ q _
      rw [lf_0, lf_0]; exact Nat.le_refl _
    | succ t ih =>
      intro ht q hq
      have hm := I.le_m (t := t) (i := q) ht (by omega)
      have h2 := L.two t ht q hq
      have hst : lf T.E (t + 1) q = lf T.E t (st (T.E (t + 1)) q) := by
        unfold st
        by_cases g : q = 0
        · subst g; rfl
        · rw [if_neg g, ← lf_up T t (q - 1) (by have := I.E_pos ht (i := q - 1) (by omega); omega), show q - 1 + 1 = q by omega]
      rw [hst, lf_up T t q (by omega)]
      have hlast : T.E (t + 1) q < T.m t := by
        have := I.strict (t + 1) (by omega) ht q (q + 1) (by omega) hq
        have := I.le_m (t := t) (i := q + 1) ht hq
        omega
      -- two parts at least
      have step : ∀ b, st (T.E (t + 1)) q + 2 ≤ b → b < T.m t → lf T.E t (st (T.E (t + 1)) q) + 2 ^ (t + 1) ≤ lf T.E t b := by
        intro b hb1 hb2
        induction b with
        | zero => omega
        | succ b ihb =>
          have i1 := ih (by omega) b (by omega)
          rcases Nat.lt_or_ge (st (T.E (t + 1)) q + 1) b with y | y
          · have := ihb (by omega) (by omega)
            have := Nat.two_pow_pos t
            omega
          · have hb : b = st (T.E (t + 1)) q + 1 := by omega
            have i0 := ih (by omega) (st (T.E (t + 1)) q) (by omega)
            rw [← hb] at i0
            rw [Nat.pow_succ]; omega
      exact step _ h2 hlast
  have lfl : ∀ t, t < T.h → lf T.E t (T.m t) = T.m 0 := fun t ht => by
    have := I.m1 t ht
    obtain ⟨x, hx⟩ : ∃ x, T.m t = x + 1 := ⟨T.m t - 1, by omega⟩
    have e := I.sx_last ht
    rw [hx, Nat.add_sub_cancel] at e
    rw [hx, lf_succ, e]
    have := I.m1 0 (by omega)
    omega
  have lfm : ∀ t, t < T.h → ∀ q, q < T.m t → lf T.E t q + 1 ≤ lf T.E t (q + 1) := fun t ht q hq => by
    rw [lf_succ]
    cases q with
    | zero => rw [show lf T.E t 0 = 0 from rfl]; omega
    | succ q =>
      rw [lf_succ]
      have := I.sx_lt ht (p := q) (q := q + 1) (by omega) hq
      omega
  refine ⟨fun t i => if t = 0 then i else lf T.E t i + (if T.m t ≤ i then 2 ^ t else 0), Tr.Wt.mk ?_ ?_ ?_, ?_⟩
  · intro x; simp
  · intro t ht q hq
    by_cases g : t = 0
    · subst g; simp
    · rw [if_neg g, if_neg g, if_neg (by omega)]
      split
      · have := lfm t ht q hq; omega
      · have := big t ht q (by omega); omega
  · intro t ht q hq
    have hst : lf T.E (t + 1) q = lf T.E t (st (T.E (t + 1)) q) := by
      unfold st
      by_cases g : q = 0
      · subst g; rfl
      · rw [if_neg g, ← lf_up T t (q - 1) (by have := I.E_pos ht (i := q - 1) (by omega); omega), show q - 1 + 1 = q by omega]
    have hup := lf_up T t q (by have := I.E_pos ht hq; omega)
    have h4 := I.st_lt (t := t + 1) (by omega) ht hq
    have h5 := I.le_m ht hq
    rw [if_neg (show ¬ t + 1 = 0 by omega), if_neg (show ¬ t + 1 = 0 by omega), if_neg (show ¬ T.m (t + 1) ≤ q by omega)]
    by_cases g : t = 0
    · subst g
      rw [if_pos rfl, if_pos rfl]
      have e0 : ∀ x, lf T.E 0 x = x := lf_0 T.E
      rw [e0] at hst hup
      rw [show (0 : Nat) + 1 = 1 from rfl] at *
      omega
    · rw [if_neg g, if_neg g, if_neg (show ¬ T.m t ≤ st (T.E (t + 1)) q by omega)]
      split
      · rename_i y
        have : q + 1 = T.m (t + 1) := by
          rcases Nat.lt_or_ge (q + 1) (T.m (t + 1)) with z | z
          · have := I.strict (t + 1) (by omega) ht q (q + 1) (by omega) z
            have := I.le_m (t := t) (i := q + 1) ht z
            omega
          · omega
        rw [if_pos (by omega), Nat.pow_succ]
        have := Nat.two_pow_pos t
        omega
      · omega
  · show (if T.h - 1 = 0 then 1 else lf T.E (T.h - 1) 1 + (if T.m (T.h - 1) ≤ 1 then 2 ^ (T.h - 1) else 0)) ≤ 3 * T.m 0 + (if T.h - 1 = 0 then 0 else lf T.E (T.h - 1) 0 + (if T.m (T.h - 1) ≤ 0 then 2 ^ (T.h - 1) else 0))
    have m0 := I.m1 0 (by omega)
    by_cases g : T.h - 1 = 0
    · rw [if_pos g, if_pos g]; omega
    · rw [if_neg g, if_neg g]
      have a := lfl (T.h - 1) (by omega)
      rw [h] at a ⊢
      rw [a, if_pos (Nat.le_refl 1), if_neg (by omega)]
      have mm := L.more (T.h - 2) (by omega)
      have b := big (T.h - 2) (by omega) 0 (by omega)
      have c := lfl (T.h - 2) (by omega)
      have d : lf T.E (T.h - 2) (0 + 1) ≤ lf T.E (T.h - 2) (T.m (T.h - 2)) := by
        have key : ∀ k, 1 + k ≤ T.m (T.h - 2) → lf T.E (T.h - 2) 1 ≤ lf T.E (T.h - 2) (1 + k) := by
          intro k
          induction k with
          | zero => intro _; exact Nat.le_refl _
          | succ k ihk => intro hk; have := ihk (by omega); have := lfm (T.h - 2) (by omega) (1 + k) (by omega); rw [show 1 + (k + 1) = 1 + k + 1 by omega]; omega
        have := key (T.m (T.h - 2) - 1) (by omega)
        rw [show 1 + (T.m (T.h - 2) - 1) = T.m (T.h - 2) by omega] at this
        exact this
      rw [show T.h - 1 = T.h - 2 + 1 by omega, Nat.pow_succ]
      omega
theorem Z2.Tr.load_spec {T : Tr} (hc : 64 ≤ T.cap ∧ T.cap ≤ 200) {w : Nat} {wk : Nat → Key} {wv : Nat → Int32} {limit : Nat} (hw : w ≤ 300) (hv : ∀ i, i < w → VK (wk i)) (hs : ∀ i j, i < j → j < w → klt (wk i) (wk j)) :
    (T.load w wk wv limit).IM ∧ (T.load w wk wv limit).Pot (3 * (T.load w wk wv limit).m 0) ∧ ((T.load w wk wv limit).m 0 ≤ w ∨ (T.load w wk wv limit).m 0 = 1) ∧ (T.load w wk wv limit).n = w ∧ (T.load w wk wv limit).ks = wk ∧ (T.load w wk wv limit).vs = wv ∧ (T.load w wk wv limit).cap = T.cap := by
  obtain ⟨L, m1, m2⟩ := load_LM (T := T) (wv := wv) (limit := limit) hc hw hv hs
  have e : (seps (tier (Tr.mk T.cap (w) (wk) (wv) T.h T.m T.E T.S T.c0 T.c1 T.c2) 0 w 1 limit)).h = 1 := rfl
  have a := tiers_spec L limit 299 (by rw [e]; show (seps (tier (Tr.mk T.cap (w) (wk) (wv) T.h T.m T.E T.S T.c0 T.c1 T.c2) 0 w 1 limit)).m 0 ≤ 300; omega)
  rw [e] at a
  obtain ⟨a1, a2, a3, a4⟩ := a
  refine ⟨a2, a1.pot a2.top, ?_, a3.n, a3.ks, a3.vs, a3.cap⟩
  unfold load; rw [a4]; exact m2
end
end
