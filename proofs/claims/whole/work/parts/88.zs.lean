/-! the reference: entries moved, put -/
def Z2.EP (g : Nat → Nat → Int32) (i : Nat) (k : Key) (v : Int32) : Prop := g 10 i = zI k.length ∧ KA g 11 (12 * i) k ∧ g 12 i = v
def Z2.EntP (g g' : Nat → Nat → Int32) (to fr : Nat) : Prop := g' 10 = upd (g 10) to (g 10 fr) ∧ g' 12 = upd (g 12) to (g 12 fr) ∧ (∀ j, j < 12 → g' 11 (12 * to + j) = g 11 (12 * fr + j)) ∧ (∀ x, ¬ (12 * to ≤ x ∧ x < 12 * to + 12) → g' 11 x = g 11 x) ∧ ∀ k, k ≠ 10 → k ≠ 11 → k ≠ 12 → g' k = g k
theorem Z2.EntP.put {g g' : Nat → Nat → Int32} {to fr : Nat} (P : EntP g g' to fr) {k : Key} {v : Int32} (h : EP g fr k v) (hk : k.length ≤ 12) : EP g' to k v := by
  obtain ⟨p1, p2, p3, p4, p5⟩ := P
  obtain ⟨h1, h2, h3⟩ := h
  refine ⟨by rw [p1, upd_same]; exact h1, fun j hj => ?_, by rw [p2, upd_same]; exact h3⟩
  rw [p3 j (by omega)]; exact h2 j hj
theorem Z2.EntP.keep {g g' : Nat → Nat → Int32} {to fr i : Nat} (P : EntP g g' to fr) {k : Key} {v : Int32} (h : EP g i k v) (hk : k.length ≤ 12) (hi : i ≠ to) : EP g' i k v := by
  obtain ⟨p1, p2, p3, p4, p5⟩ := P
  obtain ⟨h1, h2, h3⟩ := h
  refine ⟨by rw [p1, upd_ne _ _ hi]; exact h1, fun j hj => ?_, by rw [p2, upd_ne _ _ hi]; exact h3⟩
  rw [p4 _ (by omega)]; exact h2 j hj
section
variable {n : Nat → Int32} {g : Nat → Nat → Int32} {T : Z2.Tr}
theorem Z2.s9_entryTo {to fr : Nat} (h1 : to < 300) (h2 : fr < 300) (hne : to ≠ fr) {K : (Nat → Int32) → (Nat → Nat → Int32) → Prop} (hK : ∀ g', EntP g g' to fr → K n g') : wp_X9_entryTo (zI to) (zI fr) n g K := by
  refine rd (show fr < 300 from h2) (by decide) (wr (show to < 300 from h1) (by decide) (rd (show fr < 300 from h2) (by decide) (wr (show to < 300 from h1) (by decide) ?_)))
  refine loopW_of (fun s => ∃ j g1, s = (zI j, n, g1) ∧ j ≤ 12 ∧ g1 10 = upd (g 10) to (g 10 fr) ∧ g1 12 = upd (g 12) to (g 12 fr) ∧ (∀ i, i < j → g1 11 (12 * to + i) = g 11 (12 * fr + i)) ∧ (∀ x, ¬ (12 * to ≤ x ∧ x < 12 * to + j) → g1 11 x = g 11 x) ∧ ∀ k, k ≠ 10 → k ≠ 11 → k ≠ 12 → g1 k = g k) (fun s => 20 - s.1.toNatClampNeg) ?_ _ ⟨0, _, rfl, Nat.zero_le _, ?_, ?_, fun i hi => absurd hi (Nat.not_lt_zero i), fun x _ => ?_, fun k a b c => ?_⟩
  · rintro C s ⟨j, g1, rfl, hj, p1, p2, p3, p4, p5⟩ hC
    refine ⟨fun z => ?_, fun z => ?_⟩
    · rw [show (12 : Int32) = zI 12 from rfl, zI_le (by omega) (by omega)] at z
      have : j = 12 := by omega
      subst this
      exact hK g1 ⟨p1, p2, p3, p4, p5⟩
    · rw [show (12 : Int32) = zI 12 from rfl, zI_le (by omega) (by omega)] at z
      rw [k12, k12, zI_add, zI_add]
      refine rd (show 12 * fr + j < 3600 by omega) (by decide) (wr (show 12 * to + j < 3600 by omega) (by decide) ?_)
      rintro v rfl
      rw [show zI j + 1 = zI (j + 1) from zI_add j 1]
      refine hC _ ⟨j + 1, _, rfl, by omega, ?_, ?_, fun i hi => ?_, fun x hx => ?_, fun k a b c => ?_⟩ ?_
      · rw [mup_ne _ _ _ (by decide)]; exact p1
      · rw [mup_ne _ _ _ (by decide)]; exact p2
      · rw [mup_same]
        by_cases y : i = j
        · rw [y, upd_same]; exact p4 _ (by omega)
        · rw [upd_ne _ _ (by omega)]; exact p3 i (by omega)
      · rw [mup_same, upd_ne _ _ (by omega)]; exact p4 x (by omega)
      · rw [mup_ne _ _ _ b]; exact p5 k a b c
      · show 20 - (zI (j + 1)).toNatClampNeg < 20 - (zI j).toNatClampNeg
        rw [zI_clamp (by omega), zI_clamp (by omega)]; omega
  · rw [mup_ne _ _ _ (by decide), mup_same]
  · rw [mup_same, mup_ne _ _ _ (by decide)]
  · rw [mup_ne _ _ _ (by decide), mup_ne _ _ _ (by decide)]
  · rw [mup_ne _ _ _ c, mup_ne _ _ _ a]
theorem Z2.MT.ep (M : MT n g T) {i : Nat} (hi : i < T.n) : EP g i (T.ks i) (T.vs i) := ⟨M.sz i hi, M.kb i hi, M.vs i hi⟩
/-- what put and the removals leave -/
def Z2.Kq (n n' : Nat → Int32) (g g' : Nat → Nat → Int32) : Prop := (∀ k, k ≠ 0 → k ≠ 6 → k ≠ 7 → k ≠ 8 → k ≠ 9 → k ≠ 13 → n' k = n k) ∧ (∀ k, k ≠ 10 → k ≠ 11 → k ≠ 12 → k ≠ 14 → k ≠ 15 → k ≠ 16 → k ≠ 17 → k ≠ 18 → g' k = g k)
theorem Z2.s9_put172 {pos leaf : Nat} (hg : leaf < T.m 0) (M : MT n g T) (B : BT T) (Q : CT n T) (hm : T.m 0 ≤ 300) (h11 : T.h ≤ 11) {K : Int32 → (Nat → Int32) → (Nat → Nat → Int32) → Prop} (hK : ∀ n' g', MT n' g' (T.grow leaf) → CT n' (T.grow leaf) → (∀ k, k ≠ 0 → k ≠ 6 → k ≠ 7 → k ≠ 8 → k ≠ 13 → n' k = n k) → (∀ k, k ≠ 14 → k ≠ 15 → k ≠ 16 → k ≠ 17 → k ≠ 18 → g' k = g k) → (∀ i, i < 4 → g' 18 i = if g 18 i < zI pos then g 18 i else g 18 i + 1) → n' 0 = 0 → K 1 n' g') : ∃ m, loopW (wp_X9_put_172 (zI pos) (zI leaf) K) m (0, n, g) := by
  refine loopW_of (fun s => ∃ j g1, s = (zI j, n, g1) ∧ j ≤ 4 ∧ (∀ i, i < 4 → g1 18 i = if i < j then (if g 18 i < zI pos then g 18 i else g 18 i + 1) else g 18 i) ∧ ∀ k, k ≠ 18 → g1 k = g k) (fun s => 20 - s.1.toNatClampNeg) ?_ _ ⟨0, g, rfl, Nat.zero_le _, fun i hi => by rw [if_neg (by omega)], fun _ _ => rfl⟩
  rintro C s ⟨j, g1, rfl, hj, p1, p2⟩ hC
  refine ⟨fun z => ?_, fun z => ?_⟩
  · rw [show (4 : Int32) = zI 4 from rfl, zI_le (by omega) (by omega)] at z
    have M1 : MT n g1 T := by
      refine MT.mk2 M.cap M.cn M.ch (fun i hi => ?_) (fun i hi => ?_) (fun i hi => ?_) (fun t ht => ?_) (fun t ht q hq => ?_) (M.sp.same (p2 16 (by decide)) (p2 17 (by decide)))
      · rw [p2 10 (by decide)]; exact M.sz i hi
      · intro j hj; rw [p2 11 (by decide)]; exact M.kb i hi j hj
      · rw [p2 12 (by decide)]; exact M.vs i hi
      · rw [p2 14 (by decide)]; exact M.m t ht
      · rw [p2 15 (by decide)]; exact M.pt t ht q hq
    refine s9_grows M1 B Q hm h11 hg (fun n2 g2 M2 Q2 P2 => ?_)
    rintro n3 rfl
    refine ⟨Or.inr rfl, Or.inr rfl, hK _ g2 (MT.mk2 ?_ ?_ ?_ M2.sz M2.kb M2.vs M2.m M2.pt M2.sp) ⟨?_, ?_, ?_⟩ (fun k a b c d e => ?_) (fun k a b c d e => ?_) (fun i hi => ?_) (upd_same _ _ _)⟩
    · rw [upd_ne _ _ (by decide)]; exact M2.cap
    · rw [upd_ne _ _ (by decide)]; exact M2.cn
    · rw [upd_ne _ _ (by decide)]; exact M2.ch
    · rw [upd_ne _ _ (by decide)]; exact Q2.1
    · rw [upd_ne _ _ (by decide)]; exact Q2.2.1
    · rw [upd_ne _ _ (by decide)]; exact Q2.2.2
    · rw [upd_ne _ _ a]; exact P2.1 k b c d e
    · rw [P2.2 k a b c d]; exact p2 k e
    · rw [P2.2 18 (by decide) (by decide) (by decide) (by decide), p1 i hi, if_pos (by omega)]
  · rw [show (4 : Int32) = zI 4 from rfl, zI_le (by omega) (by omega)] at z
    have e18 : g1 18 j = g 18 j := by rw [p1 j (by omega), if_neg (by omega)]
    have hlt : 20 - (zI (j + 1)).toNatClampNeg < 20 - (zI j).toNatClampNeg := by rw [zI_clamp (by omega), zI_clamp (by omega)]; omega
    have fin : ∀ z0 v : Int32, v + z0 = (if g 18 j < zI pos then g 18 j else g 18 j + 1) → wp_X9_put_202 (zI pos) (zI leaf) (zI j) z0 v (zI j) 18 n g1 K C := fun z0 v e => by
      refine ⟨by decide, wr (show j < 4 by omega) (by decide) ?_⟩
      rintro v rfl
      rw [show zI j + 1 = zI (j + 1) from zI_add j 1, e]
      refine hC _ ⟨j + 1, _, rfl, by omega, fun i hi => ?_, fun k hk => by rw [mup_ne _ _ _ hk]; exact p2 k hk⟩ hlt
      rw [mup_same]
      by_cases y : i = j
      · rw [y, upd_same, if_pos (show j < j + 1 by omega)]
      · rw [upd_ne _ _ y, p1 i hi]
        by_cases w : i < j
        · rw [if_pos w, if_pos (show i < j + 1 by omega)]
        · rw [if_neg w, if_neg (show ¬ i < j + 1 by omega)]
    refine rd (show j < 4 by omega) (by decide) (rd (show j < 4 by omega) (by decide) ⟨fun y => fin 0 _ ?_, fun y => fin 1 _ ?_⟩)
    · rw [e18] at y ⊢
      rw [if_pos y, Int32.add_zero]
    · rw [e18] at y ⊢
      rw [if_neg y]
theorem Z2.s9_put (M : MT n g T) (B : BT T) (Q : CT n T) (hm : T.m 0 ≤ 300) (h11 : T.h ≤ 11) {x : Key} (hx : KA g 2 0 x) (vx : VK x) (hs : n 1 = zI x.length) (v : Int32) {K : Int32 → (Nat → Int32) → (Nat → Nat → Int32) → Prop}
    (hold : T.less x < T.n → T.ks (T.less x) = x → ∀ n' g', MT n' g' (Tr.mk T.cap T.n T.ks (stt T.vs (T.less x) v) T.h T.m T.E T.S T.c0 T.c1 T.c2) → (∀ k, k ≠ 0 → n' k = n k) → (∀ k, k ≠ 12 → g' k = g k) → n' 0 = 0 → K 0 n' g')
    (hfull : ¬ (T.less x < T.n ∧ T.ks (T.less x) = x) → T.n = 300 → K 0 (upd n 0 1) g)
    (hnew : ¬ (T.less x < T.n ∧ T.ks (T.less x) = x) → T.n < 300 → ∀ n' g', MT n' g' (T.insert x v) → CT n' (T.insert x v) → Kq n n' g g' → (∀ i, i < 4 → g' 18 i = if g 18 i < zI (T.less x) then g 18 i else g 18 i + 1) → n' 0 = 0 → K 1 n' g') : wp_X9_put v n g K := by
  have hn3 := B.im.n3
  have hh := B.im.h1
  have ecn : n 9 = zI T.n := M.cn
  obtain ⟨l1, l2, l3⟩ := B.im.less_at x
  have v12 := vx.1
  unfold wp_X9_put
  rw [hs]
  refine s9_less M B hx vx (by decide) (by decide) (s9_isThere M B l1 hx vx hs ⟨fun z => ?_, fun z => ?_⟩)
  · have hno : ¬ (T.less x < T.n ∧ T.ks (T.less x) = x) := fun y => by rw [if_pos y] at z; exact absurd z (by decide)
    refine ⟨fun y => ?_, fun y => ?_⟩
    · rw [ecn, show (300 : Int32) = zI 300 from rfl, zI_inj (by omega) (by omega)] at y
      have hn : T.n < 300 := by omega
      have hkn : ∀ i, i < T.n → T.ks i ≠ x := fun i hi e => by
        rcases Nat.lt_trichotomy i (T.less x) with w | w | w
        · have := l2 i w; rw [e] at this; exact klt_irrefl _ this
        · exact hno ⟨by omega, by rw [← w]; exact e⟩
        · have a := l3 (T.less x) (Nat.le_refl _) (by omega)
          have b := B.im.srt (T.less x) i w hi
          rw [e] at b; exact a b
      refine s9_leafFor M B hx vx (by decide) (by decide) ?_
      rintro v0 rfl
      rw [ecn]
      have J := B.im.leafPut vx v hn hkn
      have hl := (B.im.leaf_at x).1
      have hnew := hnew hno hn
      generalize hpos : T.less x = pos at *
      generalize hleaf : T.leafOf x = leaf at *
      have eG : T.insert x v = (T.leafPut pos leaf x v).grow leaf := by unfold Tr.insert; rw [hpos, hleaf]
      rw [eG] at hnew
      refine loopW_of (fun s => ∃ y g1, s = (zI y, n, g1) ∧ pos ≤ y ∧ y ≤ T.n ∧ (∀ i, i < y → EP g1 i (T.ks i) (T.vs i)) ∧ (∀ i, y < i → i ≤ T.n → EP g1 i (T.ks (i - 1)) (T.vs (i - 1))) ∧ ∀ k, k ≠ 10 → k ≠ 11 → k ≠ 12 → g1 k = g k) (fun s => s.1.toNatClampNeg) ?_ _ ⟨T.n, g, rfl, l1, Nat.le_refl _, fun i hi => M.ep hi, fun i a b => by omega, fun _ _ _ _ => rfl⟩
      rintro C s ⟨y1, g1, rfl, y2, y3, p1, p2, p3⟩ hC
      refine ⟨fun w => ?_, fun w => ?_⟩
      · rw [zI_le (by omega) (by omega)] at w
        have : y1 = pos := by omega
        subst this
        rintro n2 rfl
        rw [ecn, show zI T.n + 1 = zI (T.n + 1) from zI_add _ 1]
        refine wr (show y1 < 300 by omega) (by decide) (wr (show y1 < 300 by omega) (by decide) ?_)
        rw [upd_ne _ _ (by decide), hs]
        have ek : ∀ i, i ≤ T.n → i ≠ y1 → EP g1 i (ins T.ks y1 x i) (ins T.vs y1 v i) := fun i hi hne => by
          by_cases u : i < y1
          · rw [ins_lt _ _ u, ins_lt _ _ u]; exact p1 i u
          · rw [ins_gt _ _ (by omega), ins_gt _ _ (by omega)]; exact p2 i (by omega) hi
        have kl : ∀ i, i ≤ T.n → (ins T.ks y1 x i).length ≤ 12 := fun i hi => (J.vk i (by show i < T.n + 1; omega)).1
        refine loopW_of (fun s => ∃ j g2, s = (zI j, upd n 9 (zI (T.n + 1)), g2) ∧ j ≤ x.length ∧ g2 10 = upd (g1 10) y1 (zI x.length) ∧ g2 12 = upd (g1 12) y1 v ∧ (∀ i, i < j → g2 11 (12 * y1 + i) = x.getD i 0) ∧ (∀ u, ¬ (12 * y1 ≤ u ∧ u < 12 * y1 + j) → g2 11 u = g1 11 u) ∧ ∀ k, k ≠ 10 → k ≠ 11 → k ≠ 12 → g2 k = g1 k) (fun s => 20 - s.1.toNatClampNeg) ?_ _ ⟨0, _, rfl, Nat.zero_le _, ?_, ?_, fun i hi => absurd hi (Nat.not_lt_zero i), fun u _ => ?_, fun k a b c => ?_⟩
        · rintro C2 s ⟨j, g2, rfl, hj, r1, r2, r3, r4, r5⟩ hC2
          refine ⟨fun u => ?_, fun u => ?_⟩
          · rw [upd_ne _ _ (by decide), hs, zI_le (by omega) (by omega)] at u
            have : j = x.length := by omega
            subst this
            show vp_in ((400 : Int32) * 0 + zI leaf) (mlen 15) ∧ _
            have hm0 := B.m4
            have e15 : g2 15 leaf = zI (T.E 0 leaf - st (T.E 0) leaf) := by
              rw [r5 15 (by decide) (by decide) (by decide), p3 15 (by decide) (by decide) (by decide)]
              have := M.pt 0 (by omega) leaf hl
              rw [Nat.mul_zero, Nat.zero_add] at this; exact this
            rw [at0]
            refine rd (show leaf < 4800 by omega) (by decide) (wr (show leaf < 4800 by omega) (by decide) ?_)
            rw [e15, show zI (T.E 0 leaf - st (T.E 0) leaf) + 1 = zI (T.E 0 leaf - st (T.E 0) leaf + 1) from zI_add _ 1]
            have hB : BT (T.leafPut y1 leaf x v) := BT.mk J B.m4 B.h12
            have ek2 : ∀ i, i ≤ T.n → EP g2 i (ins T.ks y1 x i) (ins T.vs y1 v i) := fun i hi => by
              by_cases w : i = y1
              · subst w
                rw [ins_eq, ins_eq]
                exact ⟨by rw [r1, upd_same], fun j hj => r3 j hj, by rw [r2, upd_same]⟩
              · obtain ⟨a, b, c⟩ := ek i hi w
                have := kl i hi
                refine ⟨by rw [r1, upd_ne _ _ w]; exact a, fun j hj => ?_, by rw [r2, upd_ne _ _ w]; exact c⟩
                rw [r4 _ (by omega)]; exact b j hj
            have M3 : MT (upd n 9 (zI (T.n + 1))) (mup g2 15 leaf (zI (T.E 0 leaf - st (T.E 0) leaf + 1))) (T.leafPut y1 leaf x v) := by
              have k3 : ∀ k, k ≠ 10 → k ≠ 11 → k ≠ 12 → k ≠ 15 → mup g2 15 leaf (zI (T.E 0 leaf - st (T.E 0) leaf + 1)) k = g k := fun k a b c d => by
                rw [mup_ne _ _ _ d, r5 k a b c, p3 k a b c]
              refine MT.mk2 (U := T.leafPut y1 leaf x v) ?_ (upd_same _ _ _) ?_ (fun i hi => ?_) (fun i hi => ?_) (fun i hi => ?_) (fun t ht => ?_) (fun t ht q hq => ?_) ?_
              · rw [upd_ne _ _ (by decide)]; exact M.cap
              · rw [upd_ne _ _ (by decide)]; exact M.ch
              · have hi : i < T.n + 1 := hi
                rw [mup_ne _ _ _ (by decide)]; exact (ek2 i (by omega)).1
              · have hi : i < T.n + 1 := hi
                intro j hj; rw [mup_ne _ _ _ (by decide)]; exact (ek2 i (by omega)).2.1 j hj
              · have hi : i < T.n + 1 := hi
                rw [mup_ne _ _ _ (by decide)]; exact (ek2 i (by omega)).2.2
              · rw [k3 14 (by decide) (by decide) (by decide) (by decide)]; exact M.m t ht
              · show mup g2 15 leaf (zI (T.E 0 leaf - st (T.E 0) leaf + 1)) 15 (400 * t + q) = zI (stt T.E 0 (addF (T.E 0) leaf) t q - st (stt T.E 0 (addF (T.E 0) leaf) t) q)
                have hq : q < T.m t := hq
                have hmt := B.m (t := t) ht
                have e0 : g2 15 (400 * t + q) = zI (T.E t q - st (T.E t) q) := by
                  rw [r5 15 (by decide) (by decide) (by decide), p3 15 (by decide) (by decide) (by decide)]; exact M.pt t ht q hq
                rw [mup_same]
                by_cases w : t = 0
                · subst w
                  rw [stt_same, st_addF]
                  have hle := (TT.ends B.im ht hq).1
                  rw [Nat.mul_zero, Nat.zero_add] at e0 ⊢
                  unfold addF
                  rcases Nat.lt_trichotomy q leaf with w | w | w
                  · rw [upd_ne _ _ (by omega), if_neg (by omega), if_neg (by omega)]; exact e0
                  · rw [w, upd_same, if_pos (Nat.le_refl _), if_neg (Nat.lt_irrefl _)]
                    rw [w] at hle
                    congr 1; omega
                  · rw [upd_ne _ _ (by omega), if_pos (by omega), if_pos w, e0]
                    congr 1; omega
                · rw [stt_ne _ _ w, upd_ne _ _ (by omega)]; exact e0
              · exact M.sp.same (k3 16 (by decide) (by decide) (by decide) (by decide)) (k3 17 (by decide) (by decide) (by decide) (by decide))
            have Q3 : CT (upd n 9 (zI (T.n + 1))) (T.leafPut y1 leaf x v) := ⟨by rw [upd_ne _ _ (by decide)]; exact Q.1, by rw [upd_ne _ _ (by decide)]; exact Q.2.1, by rw [upd_ne _ _ (by decide)]; exact Q.2.2⟩
            refine s9_put172 (T := T.leafPut y1 leaf x v) hl M3 hB Q3 hm h11 (fun n4 g4 M4 Q4 a4 b4 c4 d4 => hnew n4 g4 M4 Q4 ⟨fun k a b c d e f => ?_, fun k a b c d e f h i => ?_⟩ (fun i hi => ?_) d4)
            · rw [a4 k a b c d f, upd_ne _ _ e]
            · rw [b4 k d e f h i, mup_ne _ _ _ e, r5 k a b c, p3 k a b c]
            · have e18 : mup g2 15 leaf (zI (T.E 0 leaf - st (T.E 0) leaf + 1)) 18 = g 18 := by
                rw [mup_ne _ _ _ (by decide), r5 18 (by decide) (by decide) (by decide), p3 18 (by decide) (by decide) (by decide)]
              rw [c4 i hi, e18]
          · rw [upd_ne _ _ (by decide), hs, zI_le (by omega) (by omega)] at u
            refine rd (show j < 12 by omega) (by decide) ?_
            rw [k12, zI_add, r5 2 (by decide) (by decide) (by decide), p3 2 (by decide) (by decide) (by decide)]
            refine wr (show 12 * y1 + j < 3600 by omega) (by decide) ?_
            rintro v1 rfl
            rw [show zI j + 1 = zI (j + 1) from zI_add j 1]
            have ex : g 2 j = x.getD j 0 := by have := hx j (by omega); rw [Nat.zero_add] at this; exact this
            refine hC2 _ ⟨j + 1, _, rfl, by omega, ?_, ?_, fun i hi => ?_, fun u hu => ?_, fun k a b c => ?_⟩ ?_
            · rw [mup_ne _ _ _ (by decide)]; exact r1
            · rw [mup_ne _ _ _ (by decide)]; exact r2
            · rw [mup_same]
              by_cases w : i = j
              · rw [w, upd_same, ex]
              · rw [upd_ne _ _ (by omega)]; exact r3 i (by omega)
            · rw [mup_same, upd_ne _ _ (by omega)]; exact r4 u (by omega)
            · rw [mup_ne _ _ _ b]; exact r5 k a b c
            · show 20 - (zI (j + 1)).toNatClampNeg < 20 - (zI j).toNatClampNeg
              rw [zI_clamp (by omega), zI_clamp (by omega)]; omega
        · rw [mup_ne _ _ _ (by decide), mup_same]
        · rw [mup_same, mup_ne _ _ _ (by decide)]
        · rw [mup_ne _ _ _ (by decide), mup_ne _ _ _ (by decide)]
        · rw [mup_ne _ _ _ c, mup_ne _ _ _ a]
      · rw [zI_le (by omega) (by omega)] at w
        rw [show zI y1 - 1 = zI (y1 - 1) from zI_sub (show 1 ≤ y1 by omega)]
        refine s9_entryTo (by omega) (by omega) (by omega) (fun g2 P2 => ?_)
        rintro v1 rfl
        rw [zI_pred (by omega)]
        refine hC _ ⟨y1 - 1, g2, rfl, by omega, by omega, fun i hi => P2.keep (p1 i (by omega)) (B.im.vk i (by omega)).1 (by omega), fun i a b => ?_, fun k a b c => by rw [P2.2.2.2.2 k a b c]; exact p3 k a b c⟩ ?_
        · by_cases u : i = y1
          · subst u
            exact P2.put (p1 (i - 1) (by omega)) (B.im.vk (i - 1) (by omega)).1
          · exact P2.keep (p2 i (by omega) b) (B.im.vk (i - 1) (by omega)).1 u
        · show (zI (y1 - 1)).toNatClampNeg < (zI y1).toNatClampNeg
          rw [zI_clamp (by omega), zI_clamp (by omega)]; omega
    · rw [ecn, show (300 : Int32) = zI 300 from rfl, zI_inj (by omega) (by omega)] at y
      rintro n2 rfl
      exact ⟨Or.inl rfl, hfull hno y⟩
  · have hyes : T.less x < T.n ∧ T.ks (T.less x) = x := by
      rcases Classical.em (T.less x < T.n ∧ T.ks (T.less x) = x) with y | y
      · exact y
      · rw [if_neg y] at z; exact absurd rfl z
    refine wr (show T.less x < 300 by omega) (by decide) ?_
    rintro n2 rfl
    refine ⟨Or.inl rfl, Or.inl rfl, hold hyes.1 hyes.2 _ _ ?_ (fun k hk => upd_ne _ _ hk) (fun k hk => mup_ne _ _ _ hk) (upd_same _ _ _)⟩
    refine MT.mk2 (U := Tr.mk T.cap T.n T.ks (stt T.vs (T.less x) v) T.h T.m T.E T.S T.c0 T.c1 T.c2) ?_ ?_ ?_ (fun i hi => ?_) (fun i hi => ?_) (fun i hi => ?_) (fun t ht => ?_) (fun t ht q hq => ?_) (M.sp.same (mup_ne _ _ _ (by decide)) (mup_ne _ _ _ (by decide)))
    · rw [upd_ne _ _ (by decide)]; exact M.cap
    · rw [upd_ne _ _ (by decide)]; exact M.cn
    · rw [upd_ne _ _ (by decide)]; exact M.ch
    · rw [mup_ne _ _ _ (by decide)]; exact M.sz i hi
    · intro j hj; rw [mup_ne _ _ _ (by decide)]; exact M.kb i hi j hj
    · show _ = stt T.vs (T.less x) v i
      rw [mup_same]
      unfold upd stt
      by_cases y : i = T.less x
      · rw [if_pos y, if_pos y]
      · rw [if_neg y, if_neg y]; exact M.vs i hi
    · rw [mup_ne _ _ _ (by decide)]; exact M.m t ht
    · rw [mup_ne _ _ _ (by decide)]; exact M.pt t ht q hq
end
