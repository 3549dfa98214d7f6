section
section
theorem Z2.Tr.melt_spec {T : Tr} (I : T.IM) {t p l : Nat} (h : T.melt t p = some l) : T.adj t l = true ∧ (l = p ∨ l + 1 = p) ∧ T.par t p = T.par t l := by
  unfold melt at h
  split at h
  · split at h
    · rename_i g
      cases h
      refine ⟨g.2.1, Or.inr (by omega), ?_⟩
      have := (I.adj_iff g.2.1).2.2
      rw [this, show p - 1 + 1 = p by omega]
    · split at h
      · rename_i g
        cases h
        exact ⟨g.1, Or.inl rfl, rfl⟩
      · cases h
  · cases h
theorem Z2.Tr.join_h (T : Tr) (t l : Nat) : (T.join t l).h = T.h := rfl
theorem Z2.Tr.join_m (T : Tr) (t l : Nat) : (T.join t l).m t = T.m t - 1 := stt_same T.m t _
theorem Z2.Tr.join_mne (T : Tr) {t l u : Nat} (h : u ≠ t) : (T.join t l).m u = T.m u := stt_ne T.m _ h
theorem Z2.Tr.down_spec {T : Tr} (I : T.IM) (k t p : Nat) (hk : t + k < T.h) (hp : p < T.m t) : (down k T t p).IM ∧ Like T (down k T t p) ∧ (∀ u, u < t → (down k T t p).m u = T.m u) ∧ (down k T t p).m t ≤ T.m t ∧ (down k T t p).h = T.h := by
  induction k generalizing T t p with
  | zero => exact ⟨I, Like.refl T, fun _ _ => rfl, Nat.le_refl _, rfl⟩
  | succ k ih =>
    unfold down
    split
    · exact ⟨I, Like.refl T, fun _ _ => rfl, Nat.le_refl _, rfl⟩
    · rename_i l e
      obtain ⟨g1, g2, g3⟩ := melt_spec I e
      obtain ⟨q1, q2, q3⟩ := I.pr (t := t) (by omega) hp
      have J := I.join g1
      obtain ⟨a1, a2, a3, a4, a5⟩ := ih J (t + 1) (T.par t p) (by rw [join_h]; omega) (by rw [join_mne T (by omega)]; exact q1)
      refine ⟨a1, (T.like_join t l).trans a2, fun u hu => by rw [a3 u (by omega), join_mne T (by omega)], ?_, by rw [a5]; rfl⟩
      rw [a3 t (by omega), join_m]; omega
theorem Z2.Tr.coll_like (k : Nat) (T : Tr) : Like T (coll k T) ∧ (coll k T).m = T.m ∧ (coll k T).E = T.E ∧ (coll k T).h ≤ T.h := by
  induction k generalizing T with
  | zero => exact ⟨Like.refl T, rfl, rfl, Nat.le_refl _⟩
  | succ k ih =>
    unfold coll
    split
    · obtain ⟨a, b, c, d⟩ := ih ((Tr.mk T.cap T.n T.ks T.vs (T.h - 1) T.m T.E T.S T.c0 T.c1 T.c2) : Tr)
      exact ⟨⟨a.cap, a.n, a.ks, a.vs⟩, b, c, by have : (coll k (Tr.mk T.cap T.n T.ks T.vs (T.h - 1) T.m T.E T.S T.c0 T.c1 T.c2)).h ≤ T.h - 1 := d; omega⟩
    · exact ⟨Like.refl T, rfl, rfl, Nat.le_refl _⟩
theorem Z2.Tr.remove_spec {T : Tr} (I : T.IM) {pos : Nat} (hpos : pos < T.n) : (T.remove pos).IM ∧ Like (T.leafDel pos (T.pgOf 0 pos)) (T.remove pos) ∧ (T.remove pos).m 0 ≤ T.m 0 ∧ (T.remove pos).h ≤ T.h := by
  have hh := I.h1
  obtain ⟨b1, b2, b3⟩ := I.pg (t := 0) (x := pos) (by omega) (by simpa using hpos)
  have J := I.leafDel hpos
  obtain ⟨a1, a2, a3, a4, a5⟩ := down_spec J (T.h - 1) 0 (T.pgOf 0 pos) (by show 0 + (T.h - 1) < T.h; omega) b1
  obtain ⟨c1, c2, c3, c4⟩ := coll_like (down (T.h - 1) (T.leafDel pos (T.pgOf 0 pos)) 0 (T.pgOf 0 pos)).h (down (T.h - 1) (T.leafDel pos (T.pgOf 0 pos)) 0 (T.pgOf 0 pos))
  unfold remove
  refine ⟨a1.coll _, a2.trans c1, ?_, ?_⟩
  · rw [c2]; exact a4
  · refine Nat.le_trans c4 ?_
    rw [a5]; exact Nat.le_refl _
theorem Z2.Tr.insert_spec {T : Tr} (I : T.IM) {k : Key} (hk : VK k) (v : Int32) (hn : T.n < 300) (hnew : ∀ i, i < T.n → T.ks i ≠ k) : (T.insert k v).IM ∧ Like (T.leafPut (T.less k) (T.leafOf k) k v) (T.insert k v) ∧ (T.insert k v).m 0 ≤ T.m 0 + 1 ∧ (T.insert k v).h ≤ T.h + 1 := by
  have J := I.leafPut hk v hn hnew
  obtain ⟨a1, a2, a3, a4, a5⟩ := grow_spec J (p := T.leafOf k) (I.leaf_at k).1
  exact ⟨a1, a2, a4, a5⟩
abbrev Z2.Tr.Wt (T : Tr) (Q : Nat → Nat → Nat) : Prop := (∀ x, Q 0 x = x) ∧ (∀ t, t < T.h → ∀ q, q < T.m t → Q t q + 2 ^ t ≤ Q t (q + 1)) ∧ (∀ t, t + 1 < T.h → ∀ q, q < T.m (t + 1) → Q t (T.E (t + 1) q) + Q (t + 1) q ≤ Q t (st (T.E (t + 1)) q) + Q (t + 1) (q + 1))
theorem Z2.Tr.Wt.mk {T : Tr} {Q : Nat → Nat → Nat} (q0 : ∀ x, Q 0 x = x) (inc : ∀ t, t < T.h → ∀ q, q < T.m t → Q t q + 2 ^ t ≤ Q t (q + 1)) (sum : ∀ t, t + 1 < T.h → ∀ q, q < T.m (t + 1) → Q t (T.E (t + 1) q) + Q (t + 1) q ≤ Q t (st (T.E (t + 1)) q) + Q (t + 1) (q + 1)) : Tr.Wt T Q := ⟨q0, inc, sum⟩
theorem Z2.Tr.Wt.q0 {T : Tr} {Q : Nat → Nat → Nat} (h9 : Tr.Wt T Q) : ∀ x, Q 0 x = x := h9.1
theorem Z2.Tr.Wt.inc {T : Tr} {Q : Nat → Nat → Nat} (h9 : Tr.Wt T Q) : ∀ t, t < T.h → ∀ q, q < T.m t → Q t q + 2 ^ t ≤ Q t (q + 1) := h9.2.1
theorem Z2.Tr.Wt.sum {T : Tr} {Q : Nat → Nat → Nat} (h9 : Tr.Wt T Q) : ∀ t, t + 1 < T.h → ∀ q, q < T.m (t + 1) → Q t (T.E (t + 1) q) + Q (t + 1) q ≤ Q t (st (T.E (t + 1)) q) + Q (t + 1) (q + 1) := h9.2.2
def Z2.Tr.Pot (T : Tr) (B : Nat) : Prop := ∃ Q, T.Wt Q ∧ Q (T.h - 1) 1 ≤ B + Q (T.h - 1) 0
theorem Z2.Tr.Pot.high {T : Tr} {B : Nat} (I : T.IM) (h : T.Pot B) : 2 ^ (T.h - 1) ≤ B := by
  obtain ⟨Q, w, hb⟩ := h
  have := w.inc (T.h - 1) (by have := I.h1; omega) 0 (by rw [I.top]; omega)
  rw [Nat.zero_add] at this
  omega
theorem Z2.Tr.Pot.mono {T : Tr} {B C : Nat} (h : T.Pot B) (hc : B ≤ C) : T.Pot C := by
  obtain ⟨Q, w, hb⟩ := h
  exact ⟨Q, w, by omega⟩
theorem Z2.Tr.Pot.same {T U : Tr} {B : Nat} (h : T.Pot B) (hh : U.h = T.h) (hm : ∀ t, t < T.h → U.m t = T.m t) (hE : ∀ t, 1 ≤ t → t < T.h → U.E t = T.E t) : U.Pot B := by
  obtain ⟨Q, w, hb⟩ := h
  refine ⟨Q, ⟨w.q0, fun t ht q hq => ?_, fun t ht q hq => ?_⟩, by rw [hh]; exact hb⟩
  · rw [hh] at ht; rw [hm t ht] at hq; exact w.inc t ht q hq
  · rw [hh] at ht; rw [hm _ ht] at hq; rw [hE (t + 1) (by omega) ht]; exact w.sum t ht q hq
theorem Z2.Tr.Wt.le {T : Tr} {Q : Nat → Nat → Nat} (w : T.Wt Q) {t a : Nat} (ht : t < T.h) : ∀ b, a ≤ b → b ≤ T.m t → Q t a + 2 ^ t * (b - a) ≤ Q t b := by
  intro b hab hb
  induction b with
  | zero => have : a = 0 := by omega
            subst this; simp
  | succ b ih =>
    rcases Nat.lt_or_ge b a with g | g
    · have : a = b + 1 := by omega
      subst this; simp
    · have h1 := ih g (by omega)
      have h2 := w.inc t ht b (by omega)
      rw [show b + 1 - a = (b - a) + 1 by omega, Nat.mul_succ]; omega
theorem Z2.Tr.Pot.join {T : Tr} {B : Nat} (I : T.IM) (h : T.Pot B) {t l : Nat} (ha : T.adj t l = true) : (T.join t l).Pot B := by
  obtain ⟨hl, ht, hp⟩ := I.adj_iff ha
  obtain ⟨q1, q2, q3⟩ := I.pr ht (p := l) (by omega)
  obtain ⟨r1, r2, r3⟩ := I.pr ht (p := l + 1) hl
  rw [← hp] at r1 r2 r3
  obtain ⟨Q, w, hb⟩ := h
  have Ea : (T.join t l).E t = del (T.E t) l := by
    show stt (stt T.E t _) (t + 1) _ t = _
    rw [stt_ne _ _ (by omega), stt_same]
  have Eb : (T.join t l).E (t + 1) = subF (T.E (t + 1)) (T.par t l) := stt_same (stt T.E t _) (t + 1) _
  have Ec : ∀ u, u ≠ t → u ≠ t + 1 → (T.join t l).E u = T.E u := fun u g1 g2 => by
    show stt (stt T.E t _) (t + 1) _ u = _
    rw [stt_ne _ _ g2, stt_ne _ _ g1]
  have mb : ∀ u, u ≠ t → (T.join t l).m u = T.m u := fun u g => stt_ne T.m _ g
  refine ⟨fun u => if u = t ∧ t ≠ 0 then del (Q t) (l + 1) else Q u, ⟨?_, ?_, ?_⟩, ?_⟩
  · intro x
    try dsimp only [Tr.mk_cap, Tr.mk_n, Tr.mk_ks, Tr.mk_vs, Tr.mk_h, Tr.mk_m, Tr.mk_E, Tr.mk_S, Tr.mk_c0, Tr.mk_c1, Tr.mk_c2]
    rw [if_neg (by omega)]; exact w.q0 x
  · intro u hu q hq
    have hu : u < T.h := hu
    try dsimp only [Tr.mk_cap, Tr.mk_n, Tr.mk_ks, Tr.mk_vs, Tr.mk_h, Tr.mk_m, Tr.mk_E, Tr.mk_S, Tr.mk_c0, Tr.mk_c1, Tr.mk_c2]
    by_cases g : u = t
    · subst g
      rw [join_m] at hq
      by_cases z : u = 0
      · subst z
        rw [if_neg (by omega), w.q0, w.q0]; simp
      · rw [if_pos ⟨rfl, z⟩]
        have h1 := w.inc u hu q (by omega)
        have h2 := w.inc u hu (q + 1) (by omega)
        have h3 := Nat.two_pow_pos u
        unfold del
        split
        · split
          · exact h1
          · omega
        · split
          · omega
          · exact h2
    · rw [mb u g] at hq
      rw [if_neg (by omega)]
      exact w.inc u hu q hq
  · intro u hu q hq
    have hu : u + 1 < T.h := hu
    try dsimp only [Tr.mk_cap, Tr.mk_n, Tr.mk_ks, Tr.mk_vs, Tr.mk_h, Tr.mk_m, Tr.mk_E, Tr.mk_S, Tr.mk_c0, Tr.mk_c1, Tr.mk_c2]
    by_cases g : u + 1 = t
    · subst g
      rw [join_m] at hq
      rw [if_neg (show ¬ (u = u + 1 ∧ u + 1 ≠ 0) by omega), if_pos (show (u + 1 = u + 1 ∧ u + 1 ≠ 0) from ⟨rfl, by omega⟩), Ea]
      rcases Nat.lt_trichotomy q l with z | z | z
      · rw [del_lt _ z, del_lt _ (by omega), del_lt _ (by omega)]
        have := w.sum u hu q (by omega)
        unfold st at this ⊢
        split
        · rename_i e; rw [if_pos e] at this; exact this
        · rename_i e; rw [if_neg e] at this; rw [del_lt _ (by omega)]; exact this
      · subst z
        rw [del_ge _ (Nat.le_refl q), del_lt _ (by omega), del_ge _ (Nat.le_refl _)]
        have s1 := w.sum u hu q (by omega)
        have s2 := w.sum u hu (q + 1) (by omega)
        have e1 : st (del (T.E (u + 1)) q) q = st (T.E (u + 1)) q := by
          unfold st; split
          · rfl
          · rw [del_lt _ (by omega)]
        have e2 : st (T.E (u + 1)) (q + 1) = T.E (u + 1) q := by unfold st; rw [if_neg (by omega)]; rfl
        rw [e1]; rw [e2] at s2; omega
      · rw [del_ge _ (by omega), del_ge _ (by omega), del_ge _ (by omega)]
        have s2 := w.sum u hu (q + 1) (by omega)
        have e1 : st (del (T.E (u + 1)) l) q = st (T.E (u + 1)) (q + 1) := by
          unfold st; rw [if_neg (by omega), if_neg (by omega), del_ge _ (by omega)]
          rw [show q - 1 + 1 = q + 1 - 1 by omega]
        rw [e1]; exact s2
    · by_cases g2 : u = t
      · subst g2
        rw [mb (u + 1) (by omega)] at hq
        rw [Eb, if_neg (show ¬ (u + 1 = u ∧ u ≠ 0) by omega)]
        have s := w.sum u hu q hq
        by_cases z : u = 0
        · subst z
          rw [if_neg (by omega)]
          rw [w.q0, w.q0] at s ⊢
          have h4 := I.st_lt (t := 0 + 1) (by omega) hu hq
          rcases Nat.lt_trichotomy q (T.par 0 l) with y | y | y
          · have e1 : subF (T.E (0 + 1)) (T.par 0 l) q = T.E (0 + 1) q := if_neg (by omega)
            have e2 : st (subF (T.E (0 + 1)) (T.par 0 l)) q = st (T.E (0 + 1)) q := by
              unfold st; split
              · rfl
              · exact if_neg (by omega)
            rw [e1, e2]; exact s
          · have e1 : subF (T.E (0 + 1)) (T.par 0 l) q = T.E (0 + 1) q - 1 := if_pos (by omega)
            have e2 : st (subF (T.E (0 + 1)) (T.par 0 l)) q = st (T.E (0 + 1)) q := by
              unfold st; split
              · rfl
              · exact if_neg (by omega)
            rw [e1, e2]; omega
          · have e1 : subF (T.E (0 + 1)) (T.par 0 l) q = T.E (0 + 1) q - 1 := if_pos (by omega)
            have h3 := I.high ht (p := T.par 0 l) (j := q - 1) (by omega) (by omega)
            have e3 : st (T.E (0 + 1)) q = T.E (0 + 1) (q - 1) := by unfold st; rw [if_neg (by omega)]
            have e2 : st (subF (T.E (0 + 1)) (T.par 0 l)) q = st (T.E (0 + 1)) q - 1 := by
              rw [e3]
              unfold st; rw [if_neg (by omega)]
              exact if_pos (by omega)
            rw [e1, e2]; rw [e3] at h4 s ⊢; omega
        · rw [if_pos ⟨rfl, z⟩]
          rcases Nat.lt_trichotomy q (T.par u l) with y | y | y
          · have h3 := I.low ht q1 y
            have e1 : subF (T.E (u + 1)) (T.par u l) q = T.E (u + 1) q := if_neg (by omega)
            have e2 : st (subF (T.E (u + 1)) (T.par u l)) q = st (T.E (u + 1)) q := by
              unfold st; split
              · rfl
              · exact if_neg (by omega)
            have h4 := I.st_lt (t := u + 1) (by omega) hu hq
            rw [e1, e2, del_lt _ (by omega), del_lt _ (by omega)]; exact s
          · have e1 : subF (T.E (u + 1)) (T.par u l) q = T.E (u + 1) q - 1 := if_pos (by omega)
            have e2 : st (subF (T.E (u + 1)) (T.par u l)) q = st (T.E (u + 1)) q := by
              unfold st; split
              · rfl
              · exact if_neg (by omega)
            rw [← y] at q2 q3 r2 r3
            rw [e1, e2, del_ge _ (by omega), del_lt _ (by omega), show T.E (u + 1) q - 1 + 1 = T.E (u + 1) q by omega]; exact s
          · have e1 : subF (T.E (u + 1)) (T.par u l) q = T.E (u + 1) q - 1 := if_pos (by omega)
            have h3 := I.high ht (p := T.par u l) (j := q - 1) (by omega) (by omega)
            have e2 : st (subF (T.E (u + 1)) (T.par u l)) q = st (T.E (u + 1)) q - 1 := by
              unfold st; rw [if_neg (by omega), if_neg (by omega)]
              exact if_pos (by omega)
            have e3 : st (T.E (u + 1)) q = T.E (u + 1) (q - 1) := by unfold st; rw [if_neg (by omega)]
            have h4 := I.st_lt (t := u + 1) (by omega) hu hq
            rw [e3] at h4 s
            rw [e1, e2, e3, del_ge _ (by omega), del_ge _ (by omega), show T.E (u + 1) q - 1 + 1 = T.E (u + 1) q by omega, show T.E (u + 1) (q - 1) - 1 + 1 = T.E (u + 1) (q - 1) by omega]; exact s
      · rw [mb (u + 1) g] at hq
        rw [Ec (u + 1) g (by omega), if_neg (by omega), if_neg (by omega)]
        exact w.sum u hu q hq
  · show (if T.h - 1 = t ∧ t ≠ 0 then del (Q t) (l + 1) else Q (T.h - 1)) 1 ≤ B + (if T.h - 1 = t ∧ t ≠ 0 then del (Q t) (l + 1) else Q (T.h - 1)) 0
    rw [if_neg (by omega)]; exact hb
end
end
section
theorem Z2.eLoop_min (d : Nat → Nat) (k c b : Nat) (o : Option Nat) (hb : ∀ l, o = some l → l = d b) : (∀ l, o = some l → d (eLoop d k c b o) ≤ l) ∧ (∀ c', c ≤ c' → c' < c + k → d (eLoop d k c b o) ≤ d c') := by
  induction k generalizing c b o with
  | zero =>
    refine ⟨fun l hl => ?_, fun c' h1 h2 => by omega⟩
    simp only [eLoop]; rw [hb l hl]; exact Nat.le_refl _
  | succ k ih =>
    cases o with
    | none =>
      simp only [eLoop]
      obtain ⟨h1, h2⟩ := ih (c + 1) c (some (d c)) (fun l hl => by cases hl; rfl)
      refine ⟨fun l hl => (by cases hl), fun c' h3 h4 => ?_⟩
      rcases Nat.lt_or_eq_of_le h3 with g | g
      · exact h2 c' (by omega) (by omega)
      · rw [← g]; exact h1 _ rfl
    | some l =>
      simp only [eLoop]
      have e := hb l rfl
      split
      · rename_i hlt
        obtain ⟨h1, h2⟩ := ih (c + 1) c (some (d c)) (fun l hl => by cases hl; rfl)
        have h1 := h1 _ rfl
        refine ⟨fun l' hl => by cases hl; omega, fun c' h3 h4 => ?_⟩
        rcases Nat.lt_or_eq_of_le h3 with g | g
        · exact h2 c' (by omega) (by omega)
        · rw [← g]; exact h1
      · rename_i hlt
        obtain ⟨h1, h2⟩ := ih (c + 1) b (some l) (fun l' hl => by cases hl; exact e)
        have h1 := h1 _ rfl
        refine ⟨fun l' hl => by cases hl; exact h1, fun c' h3 h4 => ?_⟩
        rcases Nat.lt_or_eq_of_le h3 with g | g
        · exact h2 c' (by omega) (by omega)
        · rw [← g]; omega
theorem Z2.cbi_fresh (f : Nat) (k : Nat → Key) (n i : Nat) (b : Key) : cbi f k n i b ≤ cbi f k n i [] := by
  cases n with
  | zero => exact Nat.le_refl _
  | succ n => simp only [cbi, sh_nil]; omega
theorem Z2.cbi_last (f : Nat) (k : Nat → Key) (n i : Nat) (b : Key) (h : (k (i + n)).length ≤ 12) : cbi f k n i b + f ≤ cbi f k (n + 1) i b ∧ cbi f k (n + 1) i b ≤ cbi f k n i b + f + 12 := by
  induction n generalizing i b with
  | zero => simp only [cbi]; rw [Nat.add_zero] at h; omega
  | succ n ih =>
    have := ih (i + 1) (k i) (by rw [show i + 1 + n = i + (n + 1) by omega]; exact h)
    rw [cbi, cbi.eq_2 f k i b (n + 1)]; omega
section
theorem Z2.Tr.IM.cutS_mid {T : Tr} (I : T.IM) {t p : Nat} (ht : t + 1 < T.h) (hp : p < T.m (t + 1)) (h : T.cap < T.pgs (t + 1) p) : st (T.E (t + 1)) p + 2 ≤ T.cutS (t + 1) p ∧ T.cutS (t + 1) p + 2 ≤ T.E (t + 1) p := by
  have f4 := I.full1 ht hp h
  have hm := I.le_m ht hp
  have hc := I.cap
  have hlen : ∀ j, j + 1 < T.E (t + 1) p → (T.S (sx T.E t j)).length ≤ 12 := fun j hj => (I.svk _ (I.sx_in (t := t) (by omega) (by omega))).1
  obtain ⟨i1, i2⟩ := cutS_in (T := T) (t := t + 1) (p := p) (by omega)
  unfold pgs at h
  unfold cutS evc at *
  generalize hd : (fun c => dif (T.psz (t + 1) (st (T.E (t + 1)) p) c) (T.psz (t + 1) c (T.E (t + 1) p))) = d at *
  have hd : ∀ c, d c = dif (T.psz (t + 1) (st (T.E (t + 1)) p) c) (T.psz (t + 1) c (T.E (t + 1) p)) := fun c => by rw [← hd]
  generalize st (T.E (t + 1)) p = a at *
  generalize T.E (t + 1) p = b at *
  obtain ⟨-, hmin⟩ := eLoop_min d (b - (a + 1)) (a + 1) (a + 1) none (fun l hl => by cases hl)
  generalize eLoop d (b - (a + 1)) (a + 1) (a + 1) none = r at *
  have hp : ∀ x y, T.psz (t + 1) x y = 8 + 4 * (y - x) + cbi 3 (fun i => T.S (sx T.E t i)) (y - 1 - x) x [] := fun x y => by
    unfold psz; rw [if_neg (by omega)]; rfl
  generalize hk : (fun i => T.S (sx T.E t i)) = k at *
  have hlen : ∀ j, j + 1 < b → (k j).length ≤ 12 := fun j hj => by rw [← hk]; exact hlen j hj
  obtain ⟨n, rfl⟩ : ∃ n, b = a + n + 4 := ⟨b - a - 4, by omega⟩
  have e0 : T.psz (t + 1) a (a + n + 4) = 8 + 4 * (n + 4) + (3 + (k a).length + (cbi 3 k (n + 2) (a + 1) (k a))) := by
    rw [hp, show a + n + 4 - a = n + 4 by omega, show a + n + 4 - 1 - a = n + 2 + 1 by omega, cbi, sh_nil]; rfl
  have e0' : T.psz (t + 1) a (a + n + 4) = 8 + 4 * (n + 4) + cbi 3 k (n + 2 + 1) a [] := by
    rw [hp, show a + n + 4 - a = n + 4 by omega, show a + n + 4 - 1 - a = n + 2 + 1 by omega]
  -- left end
  have l1 : T.psz (t + 1) a (a + 1) = 12 := by rw [hp, show a + 1 - 1 - a = 0 by omega, show a + 1 - a = 1 by omega]; rfl
  have r1 : T.psz (t + 1) (a + 1) (a + n + 4) = 8 + 4 * (n + 3) + cbi 3 k (n + 2) (a + 1) [] := by rw [hp, show a + n + 4 - 1 - (a + 1) = n + 2 by omega, show a + n + 4 - (a + 1) = n + 3 by omega]
  have l2 : T.psz (t + 1) a (a + 2) = 16 + (3 + (k a).length) := by
    rw [hp, show a + 2 - 1 - a = 0 + 1 by omega, show a + 2 - a = 2 by omega, cbi, sh_nil]; rfl
  have r2 : T.psz (t + 1) (a + 2) (a + n + 4) = 8 + 4 * (n + 2) + cbi 3 k (n + 1) (a + 2) [] := by rw [hp, show a + n + 4 - 1 - (a + 2) = n + 1 by omega, show a + n + 4 - (a + 2) = n + 2 by omega]
  have k1 : cbi 3 k (n + 2) (a + 1) [] = 3 + (k (a + 1)).length + (3 + ((k (a + 2)).length - sh (k (a + 2)) (k (a + 1))) + cbi 3 k n (a + 3) (k (a + 2))) := by
    rw [show n + 2 = (n + 1) + 1 by omega, cbi, sh_nil, cbi]; rfl
  have k2 : cbi 3 k (n + 1) (a + 2) [] = 3 + (k (a + 2)).length + cbi 3 k n (a + 3) (k (a + 2)) := by
    rw [cbi, sh_nil]; rfl
  have k3 := cbi_fresh 3 k (n + 2) (a + 1) (k a)
  have k4 := sh_le_right (k (a + 2)) (k (a + 1))
  have k5 := hlen a (by omega)
  have d1 := hd (a + 1)
  have d2 := hd (a + 2)
  rw [l1, r1] at d1
  rw [l2, r2] at d2
  have m2 := hmin (a + 2) (by omega) (by omega)
  -- right end
  have q1 : T.psz (t + 1) (a + n + 3) (a + n + 4) = 12 := by rw [hp, show a + n + 4 - 1 - (a + n + 3) = 0 by omega, show a + n + 4 - (a + n + 3) = 1 by omega]; rfl
  have p1 : T.psz (t + 1) a (a + n + 3) = 8 + 4 * (n + 3) + cbi 3 k (n + 2) a [] := by rw [hp, show a + n + 3 - 1 - a = n + 2 by omega, show a + n + 3 - a = n + 3 by omega]
  have q2 : T.psz (t + 1) (a + n + 2) (a + n + 4) = 16 + (3 + (k (a + n + 2)).length) := by
    rw [hp, show a + n + 4 - 1 - (a + n + 2) = 0 + 1 by omega, show a + n + 4 - (a + n + 2) = 2 by omega, cbi, sh_nil]; rfl
  have p2 : T.psz (t + 1) a (a + n + 2) = 8 + 4 * (n + 2) + cbi 3 k (n + 1) a [] := by rw [hp, show a + n + 2 - 1 - a = n + 1 by omega, show a + n + 2 - a = n + 2 by omega]
  have d3 := hd (a + n + 3)
  have d4 := hd (a + n + 2)
  rw [q1, p1] at d3
  rw [q2, p2] at d4
  have m4 := hmin (a + n + 2) (by omega) (by omega)
  have j1 := cbi_last 3 k (n + 1) a [] (hlen _ (by omega))
  have j2 := cbi_last 3 k (n + 2) a [] (hlen _ (by omega))
  have k6 := hlen (a + n + 2) (by omega)
  rw [show n + 1 + 1 = n + 2 by omega] at j1
  constructor
  · rcases Nat.lt_or_ge r (a + 2) with g | g
    · have : r = a + 1 := by omega
      subst this
      rw [d1, d2] at m2
      unfold dif at m2
      omega
    · exact g
  · rcases Nat.lt_or_ge (a + n + 4) (r + 2) with g | g
    · have : r = a + n + 3 := by omega
      subst this
      rw [d3, d4] at m4
      unfold dif at m4
      omega
    · exact g
end
end
