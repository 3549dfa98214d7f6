section
theorem Z2.st_addF (l : Nat → Nat) (a q : Nat) : st (addF l a) q = if a < q then st l q + 1 else st l q := by
  unfold st addF
  split
  · rename_i e; subst e; simp
  · split
    · rw [if_pos (by omega)]
    · rw [if_neg (by omega)]
theorem Z2.st_ins (l : Nat → Nat) (p c q : Nat) : st (ins l p c) q = if q ≤ p then st l q else if q = p + 1 then c else st l (q - 1) := by
  unfold st ins
  split
  · rename_i e; subst e; simp
  · split
    · rw [if_pos (by omega)]
    · split
      · rw [if_neg (by omega), if_pos (by omega)]
      · rw [if_neg (by omega), if_neg (by omega), if_neg (by omega)]
section
theorem Z2.Tr.Pot.pos {T : Tr} {B : Nat} (I : T.IM) (h : T.Pot B) : 1 ≤ B := by
  have := h.high I
  have := Nat.two_pow_pos (T.h - 1)
  omega
/-- a page of a higher tier is parted -/
theorem Z2.Tr.Pot.cutIn {T : Tr} {B : Nat} (I : T.IM) (h : T.Pot B) {t p c : Nat} (ht : t + 1 + 1 < T.h) (hp : p < T.m (t + 1)) (h1 : st (T.E (t + 1)) p + 2 ≤ c) (h2 : c + 2 ≤ T.E (t + 1) p) : (T.cutAt (t + 1) p c).Pot B := by
  obtain ⟨q1, q2, q3⟩ := I.pr ht hp
  obtain ⟨Q, w, hb⟩ := h
  have hm := I.le_m (by omega) hp
  have Ea : (T.cutAt (t + 1) p c).E (t + 1) = ins (T.E (t + 1)) p c := by
    show stt (stt T.E (t + 1) _) (t + 1 + 1) _ (t + 1) = _
    rw [stt_ne _ _ (by omega), stt_same]
  have Eb : (T.cutAt (t + 1) p c).E (t + 1 + 1) = addF (T.E (t + 1 + 1)) (T.par (t + 1) p) := stt_same (stt T.E (t + 1) _) (t + 1 + 1) _
  have Ec : ∀ u, u ≠ t + 1 → u ≠ t + 1 + 1 → (T.cutAt (t + 1) p c).E u = T.E u := fun u g1 g2 => by
    show stt (stt T.E (t + 1) _) (t + 1 + 1) _ u = _
    rw [stt_ne _ _ g2, stt_ne _ _ g1]
  have ma : (T.cutAt (t + 1) p c).m (t + 1) = T.m (t + 1) + 1 := stt_same T.m (t + 1) _
  have mb : ∀ u, u ≠ t + 1 → (T.cutAt (t + 1) p c).m u = T.m u := fun u g => stt_ne T.m _ g
  have w1 := w.le (t := t) (a := st (T.E (t + 1)) p) (by omega) c (by omega) (by omega)
  have w2 := w.le (t := t) (a := c) (by omega) (T.E (t + 1) p) (by omega) hm
  have w3 := w.sum t (by omega) p hp
  have e1 : 2 ^ (t + 1) ≤ 2 ^ t * (c - st (T.E (t + 1)) p) := by
    rw [Nat.pow_succ]; exact Nat.mul_le_mul_left _ (by omega)
  have e2 : 2 ^ (t + 1) ≤ 2 ^ t * (T.E (t + 1) p - c) := by
    rw [Nat.pow_succ]; exact Nat.mul_le_mul_left _ (by omega)
  have e3 := Nat.two_pow_pos (t + 1)
  generalize hv : Q (t + 1) p + (Q t c - Q t (st (T.E (t + 1)) p)) = v
  refine ⟨fun u => if u = t + 1 then ins (Q (t + 1)) (p + 1) v else Q u, Tr.Wt.mk ?_ ?_ ?_, ?_⟩
  · intro x
    show (if 0 = t + 1 then ins (Q (t + 1)) (p + 1) v else Q 0) x = x
    rw [if_neg (by omega)]; exact w.q0 x
  · intro u hu q hq
    have hu : u < T.h := hu
    by_cases g : u = t + 1
    · subst g
      rw [ma] at hq
      rw [if_pos rfl]
      rcases Nat.lt_trichotomy q (p + 1) with z | z | z
      · rw [ins_lt _ _ z]
        rcases Nat.lt_or_ge (q + 1) (p + 1) with y | y
        · rw [ins_lt _ _ y]; exact w.inc _ hu q (by omega)
        · have : q = p := by omega
          subst this; rw [ins_eq]; omega
      · subst z
        rw [ins_eq, ins_gt _ _ (by omega), Nat.add_sub_cancel]; omega
      · rw [ins_gt _ _ z, ins_gt _ _ (by omega)]
        have := w.inc _ hu (q - 1) (by omega)
        rw [show q - 1 + 1 = q by omega] at this
        rw [Nat.add_sub_cancel]; exact this
    · rw [mb u g] at hq
      rw [if_neg g]; exact w.inc u hu q hq
  · intro u hu q hq
    have hu : u + 1 < T.h := hu
    by_cases g : u = t
    · subst g
      rw [ma] at hq
      rw [if_neg (by omega), if_pos rfl, Ea, st_ins]
      rcases Nat.lt_trichotomy q p with z | z | z
      · rw [ins_lt _ _ z, ins_lt _ _ (by omega), ins_lt _ _ (by omega), if_pos (by omega)]; exact w.sum u hu q (by omega)
      · subst z
        rw [ins_eq, ins_eq, ins_lt _ _ (by omega), if_pos (Nat.le_refl _)]; omega
      · by_cases y : q = p + 1
        · subst y
          rw [ins_gt _ _ (by omega), ins_eq, ins_gt _ _ (by omega), if_neg (by omega), if_pos rfl, Nat.add_sub_cancel, Nat.add_sub_cancel]; omega
        · rw [ins_gt _ _ (by omega), ins_gt _ _ (by omega), ins_gt _ _ (by omega), if_neg (by omega), if_neg y, Nat.add_sub_cancel]
          have := w.sum u hu (q - 1) (by omega)
          rw [show q - 1 + 1 = q by omega] at this; exact this
    · by_cases g2 : u = t + 1
      · subst g2
        rw [mb _ (by omega)] at hq
        rw [if_pos rfl, if_neg (by omega), Eb, st_addF]
        have s := w.sum (t + 1) hu q hq
        rcases Nat.lt_trichotomy q (T.par (t + 1) p) with y | y | y
        · have h3 := I.low ht q1 y
          have h4 := I.st_lt (t := t + 1 + 1) (by omega) hu hq
          rw [if_neg (by omega)]
          have e1 : addF (T.E (t + 1 + 1)) (T.par (t + 1) p) q = T.E (t + 1 + 1) q := if_neg (by omega)
          rw [e1, ins_lt _ _ (by omega), ins_lt _ _ (by omega)]; exact s
        · have e1 : addF (T.E (t + 1 + 1)) (T.par (t + 1) p) q = T.E (t + 1 + 1) q + 1 := if_pos (by omega)
          rw [← y] at q2 q3
          rw [if_neg (by omega), e1, ins_gt _ _ (by omega), ins_lt _ _ (by omega), Nat.add_sub_cancel]; exact s
        · have e1 : addF (T.E (t + 1 + 1)) (T.par (t + 1) p) q = T.E (t + 1 + 1) q + 1 := if_pos (by omega)
          have h3 := I.high ht (p := T.par (t + 1) p) (j := q - 1) (by omega) (by omega)
          have e3 : st (T.E (t + 1 + 1)) q = T.E (t + 1 + 1) (q - 1) := by unfold st; rw [if_neg (by omega)]
          have h4 := I.st_lt (t := t + 1 + 1) (by omega) hu hq
          rw [if_pos y, e1, ins_gt _ _ (by omega), ins_gt _ _ (by omega), Nat.add_sub_cancel, Nat.add_sub_cancel]; exact s
      · rw [mb (u + 1) (by omega)] at hq
        rw [Ec (u + 1) (by omega) (by omega), if_neg g2, if_neg (by omega)]
        exact w.sum u hu q hq
  · show (if T.h - 1 = t + 1 then ins (Q (t + 1)) (p + 1) v else Q (T.h - 1)) 1 ≤ B + (if T.h - 1 = t + 1 then ins (Q (t + 1)) (p + 1) v else Q (T.h - 1)) 0
    rw [if_neg (by omega)]; exact hb
/-- the page of a tier above a leaf -/
def Z2.Tr.anc (T : Tr) (p : Nat) : Nat → Nat
  | 0 => p
  | u + 1 => T.par u (T.anc p u)
theorem Z2.Tr.IM.anc_in {T : Tr} (I : T.IM) {p : Nat} (hp : p < T.m 0) : ∀ u, u < T.h → T.anc p u < T.m u := by
  intro u
  induction u with
  | zero => intro _; exact hp
  | succ u ih => intro hu; exact (I.pr hu (ih (by omega))).1
/-- a leaf is parted, not the root -/
theorem Z2.Tr.Pot.cutLeaf {T : Tr} {B : Nat} (I : T.IM) (h : T.Pot B) {p c : Nat} (ht : 1 < T.h) (hp : p < T.m 0) : (T.cutAt 0 p c).Pot (B + 1) := by
  obtain ⟨Q, w, hb⟩ := h
  have Eb : (T.cutAt 0 p c).E 1 = addF (T.E 1) (T.par 0 p) := stt_same (stt T.E 0 (ins (T.E 0) p c)) (0 + 1) _
  have Ec : ∀ u, u ≠ 0 → u ≠ 1 → (T.cutAt 0 p c).E u = T.E u := fun u g1 g2 => by
    show stt (stt T.E 0 (ins (T.E 0) p c)) (0 + 1) _ u = _
    rw [stt_ne _ _ g2, stt_ne _ _ g1]
  have mb : ∀ u, u ≠ 0 → (T.cutAt 0 p c).m u = T.m u := fun u g => stt_ne T.m _ g
  refine ⟨fun u i => if u = 0 then i else if T.anc p u < i then Q u i + 1 else Q u i, Tr.Wt.mk ?_ ?_ ?_, ?_⟩
  · intro x; simp
  · intro u hu q hq
    have hu : u < T.h := hu
    by_cases g : u = 0
    · subst g; simp
    · rw [mb u g] at hq
      rw [if_neg g, if_neg g]
      have := w.inc u hu q hq
      split <;> split <;> omega
  · intro u hu q hq
    have hu : u + 1 < T.h := hu
    rw [mb (u + 1) (by omega)] at hq
    have s := w.sum u hu q hq
    obtain ⟨r1, r2, r3⟩ := I.pr hu (I.anc_in hp u (by omega))
    have r0 : T.anc p (u + 1) = T.par u (T.anc p u) := rfl
    rw [← r0] at r1 r2 r3
    rw [if_neg (show ¬ u + 1 = 0 by omega), if_neg (show ¬ u + 1 = 0 by omega)]
    by_cases g : u = 0
    · subst g
      rw [if_pos rfl, if_pos rfl]
      rw [w.q0, w.q0] at s
      have e0 : T.anc p 1 = T.par 0 p := rfl
      rw [show (0 : Nat) + 1 = 1 from rfl] at *
      rw [Eb, st_addF, ← e0]
      unfold addF
      split <;> split <;> split <;> omega
    · rw [if_neg g, if_neg g, Ec (u + 1) (by omega) (by omega)]
      have hst := I.st_lt (t := u + 1) (by omega) hu hq
      rcases Nat.lt_trichotomy q (T.anc p (u + 1)) with z | z | z
      · have := I.low hu r1 z
        rw [if_neg (by omega), if_neg (by omega), if_neg (by omega), if_neg (by omega)]; exact s
      · rw [← z] at r2 r3
        rw [if_pos r3, if_neg (by omega), if_neg (by omega), if_pos (by omega)]; omega
      · have := I.high hu (p := T.anc p (u + 1)) (j := q - 1) (by omega) (by omega)
        have e3 : st (T.E (u + 1)) q = T.E (u + 1) (q - 1) := by unfold st; rw [if_neg (by omega)]
        rw [if_pos (by omega), if_pos z, if_pos (by omega), if_pos (by omega)]; omega
  · have := I.anc_in hp (T.h - 1) (by omega)
    rw [I.top] at this
    show (if T.h - 1 = 0 then 1 else if T.anc p (T.h - 1) < 1 then Q (T.h - 1) 1 + 1 else Q (T.h - 1) 1) ≤ B + 1 + (if T.h - 1 = 0 then 0 else if T.anc p (T.h - 1) < 0 then Q (T.h - 1) 0 + 1 else Q (T.h - 1) 0)
    rw [if_neg (by omega), if_pos (by omega), if_neg (by omega), if_neg (by omega)]; omega
/-- the root, too large, gets a page above it -/
theorem Z2.Tr.Pot.riseIn {T : Tr} {B : Nat} (I : T.IM) (h : T.Pot B) {t : Nat} (ht : t + 1 + 1 = T.h) (h4 : st (T.E (t + 1)) 0 + 4 ≤ T.E (t + 1) 0) : (T.rise (t + 1)).Pot B := by
  obtain ⟨Q, w, hb⟩ := h
  have e : T.rise (t + 1) = (Tr.mk T.cap T.n T.ks T.vs (T.h + 1) (stt T.m (t + 1 + 1) 1) (stt T.E (t + 1 + 1) (fun _ => 1)) T.S T.c0 T.c1 T.c2) := if_pos ht
  have hm : T.m (t + 1) = 1 := by have := I.top; rw [show T.h - 1 = t + 1 by omega] at this; exact this
  have w3 := w.sum t (by omega) 0 (by omega)
  have hmt := I.le_m (t := t) (i := 0) (by omega) (by omega)
  have w2 := w.le (t := t) (a := st (T.E (t + 1)) 0) (by omega) (T.E (t + 1) 0) (by omega) hmt
  have e2 : 2 ^ (t + 1 + 1) ≤ 2 ^ t * (T.E (t + 1) 0 - st (T.E (t + 1)) 0) := by
    rw [Nat.pow_succ, Nat.pow_succ, Nat.mul_assoc]; exact Nat.mul_le_mul_left _ (by omega)
  rw [Nat.zero_add] at w3
  have big : Q (t + 1) 0 + 2 ^ (t + 1 + 1) ≤ Q (t + 1) 1 := by omega
  rw [e]
  refine ⟨fun u => if u = t + 1 + 1 then Q (t + 1) else Q u, Tr.Wt.mk ?_ ?_ ?_, ?_⟩
  · intro x
    show (if 0 = t + 1 + 1 then Q (t + 1) else Q 0) x = x
    rw [if_neg (by omega)]; exact w.q0 x
  · intro u hu q hq
    have hu : u < T.h + 1 := hu
    have hq : q < stt T.m (t + 1 + 1) 1 u := hq
    by_cases g : u = t + 1 + 1
    · subst g
      rw [stt_same] at hq
      have : q = 0 := by omega
      subst this
      rw [if_pos rfl, Nat.zero_add]; exact big
    · rw [stt_ne _ _ g] at hq
      rw [if_neg g]; exact w.inc u (by omega) q hq
  · intro u hu q hq
    have hu : u + 1 < T.h + 1 := hu
    have hq : q < stt T.m (t + 1 + 1) 1 (u + 1) := hq
    show (if u = t + 1 + 1 then Q (t + 1) else Q u) (stt T.E (t + 1 + 1) (fun _ => 1) (u + 1) q) + (if u + 1 = t + 1 + 1 then Q (t + 1) else Q (u + 1)) q ≤ (if u = t + 1 + 1 then Q (t + 1) else Q u) (st (stt T.E (t + 1 + 1) (fun _ => 1) (u + 1)) q) + (if u + 1 = t + 1 + 1 then Q (t + 1) else Q (u + 1)) (q + 1)
    by_cases g : u = t + 1
    · subst g
      rw [stt_same] at hq ⊢
      have : q = 0 := by omega
      subst this
      rw [if_neg (by omega), if_pos rfl]
      show Q (t + 1) 1 + Q (t + 1) 0 ≤ Q (t + 1) 0 + Q (t + 1) (0 + 1)
      rw [Nat.zero_add]; omega
    · rw [stt_ne _ _ (by omega)] at hq ⊢
      rw [if_neg (by omega), if_neg (by omega)]
      exact w.sum u (by omega) q hq
  · show (if T.h + 1 - 1 = t + 1 + 1 then Q (t + 1) else Q (T.h + 1 - 1)) 1 ≤ B + (if T.h + 1 - 1 = t + 1 + 1 then Q (t + 1) else Q (T.h + 1 - 1)) 0
    rw [if_pos (by omega), show t + 1 = T.h - 1 by omega]; exact hb
/-- a leaf that is the root is parted -/
theorem Z2.Tr.Pot.cutRoot {T : Tr} {B : Nat} (I : T.IM) (h : T.Pot B) {c : Nat} (ht : T.h = 1) : ((T.rise 0).cutAt 0 0 c).Pot (B + 1) := by
  have hB := h.pos I
  have e : T.rise 0 = (Tr.mk T.cap T.n T.ks T.vs (T.h + 1) (stt T.m 1 1) (stt T.E 1 (fun _ => 1)) T.S T.c0 T.c1 T.c2) := if_pos (by omega)
  rw [e]
  have hp0 : (Tr.par (Tr.mk T.cap T.n T.ks T.vs (T.h + 1) (stt T.m 1 1) (stt T.E 1 (fun _ => 1)) T.S T.c0 T.c1 T.c2) 0 0) = 0 := by
    unfold par pgOf
    refine ff_eq (by omega) (fun i hi => by omega) (fun _ => ?_)
    show decide (stt T.E 1 (fun _ => 1) 1 0 ≤ 0) = false
    rw [stt_same]; rfl
  refine ⟨fun u i => if u = 0 then i else 2 * i, ⟨fun x => by simp, ?_, ?_⟩, ?_⟩
  · intro u hu q hq
    have hu : u < T.h + 1 := hu
    by_cases g : u = 0
    · subst g; simp
    · have : u = 1 := by omega
      subst this; simp; omega
  · intro u hu q hq
    have hu : u + 1 < T.h + 1 := hu
    have : u = 0 := by omega
    subst this
    have hq : q < stt (stt T.m 1 1) 0 (stt T.m 1 1 0 + 1) (0 + 1) := hq
    rw [stt_ne _ _ (by omega)] at hq
    have hq : q < stt T.m 1 1 1 := hq
    rw [stt_same] at hq
    have : q = 0 := by omega
    subst this
    show (stt (stt (stt T.E 1 (fun _ => 1)) 0 (ins (stt T.E 1 (fun _ => 1) 0) 0 c)) (0 + 1) (addF (stt T.E 1 (fun _ => 1) (0 + 1)) (Tr.par (Tr.mk T.cap T.n T.ks T.vs (T.h + 1) (stt T.m 1 1) (stt T.E 1 (fun _ => 1)) T.S T.c0 T.c1 T.c2) 0 0)) (0 + 1) 0) + 2 * 0 ≤ 0 + 2 * (0 + 1)
    rw [stt_same, hp0]
    unfold addF
    rw [if_pos (by omega)]
    show stt T.E 1 (fun _ => 1) 1 0 + 1 + 2 * 0 ≤ 0 + 2 * (0 + 1)
    rw [stt_same]
    omega
  · show (if T.h + 1 - 1 = 0 then 1 else 2 * 1) ≤ B + 1 + (if T.h + 1 - 1 = 0 then 0 else 2 * 0)
    rw [if_neg (by omega), if_neg (by omega)]; omega
theorem Z2.Tr.Pot.splitIn {T : Tr} {B : Nat} (I : T.IM) (h : T.Pot B) {t p : Nat} (ht : t + 1 < T.h) (hp : p < T.m (t + 1)) (hf : T.cap < T.pgs (t + 1) p) : (T.split (t + 1) p).Pot B := by
  obtain ⟨c1, c2⟩ := I.cutS_mid ht hp hf
  have f4 := I.full1 ht hp hf
  have J := I.rise (t + 1)
  have hh := T.rise_h (t + 1)
  have P : (T.rise (t + 1)).Pot B := by
    by_cases e : t + 1 + 1 = T.h
    · have hm : T.m (t + 1) = 1 := by have := I.top; rw [show T.h - 1 = t + 1 by omega] at this; exact this
      have : p = 0 := by omega
      subst this
      exact h.riseIn I e f4
    · have : T.rise (t + 1) = T := if_neg e
      rw [this]; exact h
  refine P.cutIn J ?_ ?_ ?_ ?_
  · rw [hh]; split <;> omega
  · rw [T.rise_m ht]; exact hp
  · rw [T.rise_E ht]; exact c1
  · rw [T.rise_E ht]; exact c2
theorem Z2.Tr.Pot.split0 {T : Tr} {B : Nat} (I : T.IM) (h : T.Pot B) {p : Nat} (hp : p < T.m 0) : (T.split 0 p).Pot (B + 1) := by
  have hh := I.h1
  by_cases e : T.h = 1
  · have hm : T.m 0 = 1 := by have := I.top; rw [show T.h - 1 = 0 by omega] at this; exact this
    have : p = 0 := by omega
    subst this
    exact h.cutRoot I e
  · have : T.rise 0 = T := if_neg (by omega)
    unfold split
    rw [this]
    exact h.cutLeaf I (by omega) hp
theorem Z2.Tr.Pot.up {T : Tr} {B : Nat} (I : T.IM) (h : T.Pot B) (k t p : Nat) (h1 : 1 ≤ t) (hk : t + k ≤ T.h) (hp : p < T.m (t - 1)) : (up k T t p).Pot B := by
  induction k generalizing T t p with
  | zero => exact h
  | succ k ih =>
    unfold Tr.up
    split
    · exact h
    · rename_i g
      obtain ⟨t', rfl⟩ : ∃ t', t = t' + 1 := ⟨t - 1, by omega⟩
      rw [Nat.add_sub_cancel] at *
      obtain ⟨q1, q2, q3⟩ := I.pr (t := t') (by omega) hp
      have hf := I.full1 (by omega) q1 (by omega)
      have J := I.split (by omega) q1 (by omega)
      have hh := T.split_h (t' + 1) (T.par t' p)
      have hm := T.split_m (t := t' + 1) (p := T.par t' p) (by omega)
      exact ih J (h.splitIn I (by omega) q1 (by omega)) (t' + 1 + 1) (T.par t' p) (by omega) (by rw [hh]; split <;> omega) (by rw [show t' + 1 + 1 - 1 = t' + 1 by omega, hm]; omega)
theorem Z2.Tr.Pot.moveB {T : Tr} {B : Nat} (h : T.Pot B) (l c : Nat) : (T.moveB l c).Pot B := h.same rfl (fun _ _ => rfl) (fun t h1 _ => stt_ne T.E _ (by omega))
theorem Z2.Tr.Pot.eases {T : Tr} {B : Nat} (I : T.IM) (h : T.Pot B) {p : Nat} (hp : p < T.m 0) : (T.eases p).Pot (B + 1) := by
  unfold Tr.eases
  split
  · rename_i x e
    unfold giveL at e
    split at e
    · cases e; exact (h.moveB _ _).mono (Nat.le_succ _)
    · cases e
  · split
    · rename_i x e
      unfold giveR at e
      split at e
      · cases e; exact (h.moveB _ _).mono (Nat.le_succ _)
      · cases e
    · exact h.split0 I hp
theorem Z2.Tr.Pot.grow {T : Tr} {B : Nat} (I : T.IM) (h : T.Pot B) {p : Nat} (hp : p < T.m 0) : (T.grow p).Pot (B + 1) := by
  have hh := I.h1
  unfold Tr.grow
  split
  · exact h.mono (Nat.le_succ _)
  · rename_i g
    obtain ⟨J, l, m1, m2, h1, h2, h3⟩ := eases_spec I hp (by omega)
    exact (h.eases I hp).up J (T.h - 1) 1 p (Nat.le_refl _) (by omega) (by show p < (T.eases p).m 0; omega)
theorem Z2.Tr.Pot.insert {T : Tr} {B : Nat} (I : T.IM) (h : T.Pot B) {k : Key} (hk : VK k) (v : Int32) (hn : T.n < 300) (hnew : ∀ i, i < T.n → T.ks i ≠ k) : (T.insert k v).Pot (B + 1) := by
  have J := I.leafPut hk v hn hnew
  have P : (T.leafPut (T.less k) (T.leafOf k) k v).Pot B := h.same rfl (fun _ _ => rfl) (fun t h1 _ => stt_ne T.E _ (by omega))
  exact P.grow J (p := T.leafOf k) (I.leaf_at k).1
theorem Z2.Tr.Pot.down {T : Tr} {B : Nat} (I : T.IM) (h : T.Pot B) (k t p : Nat) (hk : t + k < T.h) (hp : p < T.m t) : (down k T t p).Pot B := by
  induction k generalizing T t p with
  | zero => exact h
  | succ k ih =>
    unfold Tr.down
    split
    · exact h
    · rename_i l e
      obtain ⟨g1, g2, g3⟩ := melt_spec I e
      obtain ⟨q1, q2, q3⟩ := I.pr (t := t) (by omega) hp
      exact ih (I.join g1) (h.join I g1) (t + 1) (T.par t p) (by rw [join_h]; omega) (by rw [join_mne T (by omega)]; exact q1)
theorem Z2.Tr.Pot.coll {T : Tr} {B : Nat} (I : T.IM) (h : T.Pot B) (k : Nat) : (coll k T).Pot B := by
  induction k generalizing T with
  | zero => exact h
  | succ k ih =>
    unfold Tr.coll
    split
    · rename_i g
      refine ih (I.coll1 g.1 g.2) ?_
      obtain ⟨Q, w, hb⟩ := h
      refine ⟨Q, ⟨w.q0, fun t ht => w.inc t (by have : t < T.h - 1 := ht; omega), fun t ht => w.sum t (by have : t + 1 < T.h - 1 := ht; omega)⟩, ?_⟩
      show Q (T.h - 1 - 1) 1 ≤ B + Q (T.h - 1 - 1) 0
      have s := w.sum (T.h - 2) (by omega) 0 (by rw [show T.h - 2 + 1 = T.h - 1 by omega, I.top]; omega)
      rw [show T.h - 2 + 1 = T.h - 1 by omega, g.2] at s
      have e : st (T.E (T.h - 1)) 0 = 0 := rfl
      rw [e, Nat.zero_add] at s
      rw [show T.h - 1 - 1 = T.h - 2 by omega]; omega
    · exact h
theorem Z2.Tr.Pot.remove {T : Tr} {B : Nat} (I : T.IM) (h : T.Pot B) {pos : Nat} (hpos : pos < T.n) : (T.remove pos).Pot B := by
  have hh := I.h1
  obtain ⟨b1, b2, b3⟩ := I.pg (t := 0) (x := pos) (by omega) (by simpa using hpos)
  have J := I.leafDel hpos
  have P : (T.leafDel pos (T.pgOf 0 pos)).Pot B := h.same rfl (fun _ _ => rfl) (fun t h1 _ => stt_ne T.E _ (by omega))
  obtain ⟨a1, a2, a3, a4, a5⟩ := down_spec J (T.h - 1) 0 (T.pgOf 0 pos) (by show 0 + (T.h - 1) < T.h; omega) b1
  exact (P.down J (T.h - 1) 0 (T.pgOf 0 pos) (by show 0 + (T.h - 1) < T.h; omega) b1).coll a1 _
end
end
