/-! the reference: gives, half -/
section
variable {n : Nat → Int32} {g : Nat → Nat → Int32} {T : Z2.Tr}
theorem Z2.mup_same (g : Nat → Nat → Int32) (k i : Nat) (x : Int32) : mup g k i x k = upd (g k) i x := if_pos rfl
theorem Z2.mup_ne (g : Nat → Nat → Int32) {k j : Nat} (i : Nat) (x : Int32) (h : j ≠ k) : mup g k i x j = g j := if_neg h
theorem Z2.upd_same (l : Nat → Int32) (i : Nat) (x : Int32) : upd l i x i = x := if_pos rfl
theorem Z2.upd_ne (l : Nat → Int32) {i j : Nat} (x : Int32) (h : j ≠ i) : upd l i x j = l j := if_neg h
/-- the reference after a leaf gave entries to a neighbour, but for the separator -/
theorem Z2.s9_gives206 (M : MT n g T) (B : BT T) {l c j1 j2 : Nat} {g2 : Nat → Nat → Int32} (hl : l + 1 < T.m 0) (h1 : st (T.E 0) l < c) (h2 : c < T.E 0 (l + 1)) (hg : ∀ k, k ≠ 15 → g2 k = g k) (hq : ∀ x, x ≠ l → x ≠ l + 1 → g2 15 x = g 15 x) (e1 : g2 15 l = zI j1) (e2 : g2 15 (l + 1) = zI j2) (f1 : j1 = c - st (T.E 0) l) (f2 : j2 = T.E 0 (l + 1) - c) {K : Int32 → (Nat → Int32) → (Nat → Nat → Int32) → Prop}
    (hK : ∀ n' g', MT n' g' (T.moveB l c) → n' 7 = n 7 + 1 → (∀ k, k ≠ 7 → n' k = n k) → (∀ k, k ≠ 15 → k ≠ 16 → k ≠ 17 → g' k = g k) → K 1 n' g') : wp_X9_gives_206 (zI l) n g2 K := by
  have hh := B.h12
  have hs := B.im.h1
  have hm4 := B.m4
  have I2 := B.im.moveB hl h1 h2
  have hn := B.im.n3
  have hEn := B.im.le_n hl
  have E0 : (T.moveB l c).E 0 = stt (T.E 0) l c := stt_same T.E 0 _
  have Et : ∀ t, t ≠ 0 → (T.moveB l c).E t = T.E t := fun t ht => stt_ne T.E _ ht
  have hmono := B.im.mono l (l + 1) (by omega) hl
  -- with the old separators
  have M2 : MT n g2 (Tr.mk T.cap T.n T.ks T.vs T.h T.m (T.moveB l c).E T.S T.c0 T.c1 T.c2) := by
    refine MT.mk2 (g' := g2) (U := Tr.mk T.cap T.n T.ks T.vs T.h T.m (T.moveB l c).E T.S T.c0 T.c1 T.c2) M.cap M.cn M.ch (fun i hi => ?_) (fun i hi => ?_) (fun i hi => ?_) (fun t ht => ?_) (fun t ht q hq' => ?_) ?_
    · rw [hg 10 (by decide)]; exact M.sz i hi
    · intro j hj; rw [hg 11 (by decide)]; exact M.kb i hi j hj
    · rw [hg 12 (by decide)]; exact M.vs i hi
    · rw [hg 14 (by decide)]; exact M.m t ht
    · show g2 15 (400 * t + q) = zI ((T.moveB l c).E t q - st ((T.moveB l c).E t) q)
      have hq' : q < T.m t := hq'
      have hm := B.m (t := t) ht
      cases t with
      | zero =>
        rw [E0, Nat.mul_zero, Nat.zero_add]
        by_cases z : q = l
        · subst z
          rw [e1, stt_same, f1]
          congr 2
          unfold st; split
          · rfl
          · rw [stt_ne _ _ (by omega)]
        · by_cases y : q = l + 1
          · subst y
            rw [e2, stt_ne _ _ (by omega), st_succ, stt_same, f2]
          · rw [hq q z y, stt_ne _ _ z]
            have := M.pt 0 ht q hq'
            rw [Nat.mul_zero, Nat.zero_add] at this
            rw [show g 15 q = zI (T.E 0 q - st (T.E 0) q) from this]
            congr 2
            unfold st; split
            · rfl
            · rw [stt_ne _ _ (by omega)]
      | succ t =>
        rw [Et _ (by omega), hq _ (by omega) (by omega)]
        exact M.pt (t + 1) ht q hq'
    · obtain ⟨s1, s2, s3⟩ := M.sp
      refine ⟨fun i hi => ?_, fun i hi => ?_, fun i hi => ?_⟩
      · rw [hg 16 (by decide)]; exact s1 i hi
      · intro j hj; rw [hg 17 (by decide)]; exact s2 i hi j hj
      · rw [hg 16 (by decide)]; exact s3 i hi
  have eE : (T.moveB l c).E 0 l = c := by rw [E0, stt_same]
  refine s9_separates M2 hh hs hm4 (fun q hq' => ?_) hn B.im.vk (leaf := l) (by show l < T.m 0; omega) (by rw [show (Tr.mk T.cap T.n T.ks T.vs T.h T.m (T.moveB l c).E T.S T.c0 T.c1 T.c2).E 0 l = c from eE]; omega) (by rw [show (Tr.mk T.cap T.n T.ks T.vs T.h T.m (T.moveB l c).E T.S T.c0 T.c1 T.c2).E 0 l = c from eE]; show c < T.n; omega) (by rw [show (Tr.mk T.cap T.n T.ks T.vs T.h T.m (T.moveB l c).E T.S T.c0 T.c1 T.c2).E 0 l = c from eE]; exact B.im.srt _ _ (by omega) (by omega)) (fun g3 k1 k2 => ?_)
  · exact I2.st_le hq'
  · rintro n4 rfl
    rw [show (Tr.mk T.cap T.n T.ks T.vs T.h T.m (T.moveB l c).E T.S T.c0 T.c1 T.c2).E 0 l = c from eE] at k2
    have hsp := k2 _ _ M2.sp (fun i hi => (B.im.svk i (by have hi : i < T.m 0 - 1 := hi; omega)).1)
    refine hK _ g3 ?_ (upd_same _ _ _) (fun k hk => upd_ne _ _ hk) (fun k h1 h2 h3 => by rw [k1 k h2 h3, hg k h1])
    refine MT.mk2 (U := T.moveB l c) ?_ ?_ ?_ (fun i hi => ?_) (fun i hi => ?_) (fun i hi => ?_) (fun t ht => ?_) (fun t ht q hq' => ?_) hsp
    · rw [upd_ne _ _ (by decide)]; exact M.cap
    · rw [upd_ne _ _ (by decide)]; exact M.cn
    · rw [upd_ne _ _ (by decide)]; exact M.ch
    · rw [k1 10 (by decide) (by decide)]; exact M2.sz i hi
    · intro j hj; rw [k1 11 (by decide) (by decide)]; exact M2.kb i hi j hj
    · rw [k1 12 (by decide) (by decide)]; exact M2.vs i hi
    · rw [k1 14 (by decide) (by decide)]; exact M2.m t ht
    · rw [k1 15 (by decide) (by decide)]; exact M2.pt t ht q hq'
theorem Z2.at0 (q : Nat) : (400 : Int32) * 0 + zI q = zI q := by
  have := at_eq 0 q
  rw [Nat.mul_zero, Nat.zero_add] at this; exact this
/-- what a call of the reference that changes pages leaves -/
def Z2.Kp (n n' : Nat → Int32) (g g' : Nat → Nat → Int32) : Prop := (∀ k, k ≠ 6 → k ≠ 7 → k ≠ 8 → k ≠ 13 → n' k = n k) ∧ (∀ k, k ≠ 14 → k ≠ 15 → k ≠ 16 → k ≠ 17 → g' k = g k)
theorem Z2.Kp.refl (n : Nat → Int32) (g : Nat → Nat → Int32) : Kp n n g g := ⟨fun _ _ _ _ _ => rfl, fun _ _ _ _ _ => rfl⟩
theorem Z2.Kp.trans {n n' n'' : Nat → Int32} {g g' g'' : Nat → Nat → Int32} (h : Kp n n' g g') (k : Kp n' n'' g' g'') : Kp n n'' g g'' := ⟨fun x a b c d => (k.1 x a b c d).trans (h.1 x a b c d), fun x a b c d => (k.2 x a b c d).trans (h.2 x a b c d)⟩
/-- the counters -/
def Z2.CT (n : Nat → Int32) (T : Tr) : Prop := n 6 = zI T.c0 ∧ n 7 = zI T.c1 ∧ n 8 = zI T.c2
theorem Z2.s9_givesL (M : MT n g T) (B : BT T) (Q : CT n T) {p : Nat} (hp : p < T.m 0) (hf : st (T.E 0) p + 2 ≤ T.E 0 p) {K : Int32 → (Nat → Int32) → (Nat → Nat → Int32) → Prop} (h0 : T.giveL p = none → K 0 n g) (h1 : ∀ n' g' T', T.giveL p = some T' → MT n' g' T' → CT n' T' → Kp n n' g g' → K 1 n' g') : wp_X9_gives (zI p) 1 n g K := by
  have hh := B.h12
  have hs := B.im.h1
  have hm4 := B.m4
  have hn := B.im.n3
  have hcap := B.im.cap
  have ecap : n 5 = zI T.cap := M.cap
  have hEp := B.im.le_n hp
  refine ⟨fun z => absurd z (by decide), fun _ => ?_⟩
  -- the neighbour's number may be -1
  have sib : ∀ {P : Int32 → Prop}, ((0 < p ∧ T.adj 0 (p - 1) = true) → P 1) → (¬ (0 < p ∧ T.adj 0 (p - 1) = true) → P 0) → wp_X9_areSiblings 0 (zI p - 1) n g P := fun {P} a b => by
    rcases Nat.eq_zero_or_pos p with z | z
    · subst z
      exact ⟨fun _ => b (fun y => by omega), fun y => absurd (by decide) y⟩
    · rw [show zI p - 1 = zI (p - 1) from zI_sub (show 1 ≤ p by omega), show (0 : Int32) = zI 0 from rfl]
      exact s9_areSiblings M B (by omega) (by omega) (fun y => a ⟨z, y⟩) (fun y => b (fun x => y x.2))
  refine sib (fun ha => ⟨fun _ => ?_, fun z => absurd z (by decide)⟩) (fun ha => ⟨fun z => absurd rfl z, fun _ => h0 (by unfold Tr.giveL; rw [if_neg (fun y => ha ⟨y.1, y.2.1⟩)])⟩)
  obtain ⟨c1, c2⟩ := B.im.cutL_in hp hf
  have hst : T.E 0 (p - 1) = st (T.E 0) p := by unfold st; rw [if_neg (by omega)]
  refine s9_firstOf M B (t := 0) (by omega) (by omega) ?_
  show vp_in ((400 : Int32) * 0 + zI p) (mlen 15) ∧ _
  rw [at0 p]
  have e15 : ∀ q, q < T.m 0 → g 15 q = zI (T.E 0 q - st (T.E 0) q) := fun q hq => by
    have := M.pt 0 (by omega) q hq
    rw [Nat.mul_zero, Nat.zero_add] at this; exact this
  refine rd (show p < 4800 by omega) (by decide) ?_
  rw [e15 p hp]
  refine loopW_of (fun s => ∃ j, s = (zI (1 + j), n, g) ∧ j ≤ T.E 0 p - (st (T.E 0) p + 1) ∧ ∀ k, k < j → T.cap < T.psz 0 (st (T.E 0) p + 1 + k) (T.E 0 p)) (fun s => 400 - s.1.toNatClampNeg) ?_ _ ⟨0, rfl, Nat.zero_le _, fun k hk => absurd hk (Nat.not_lt_zero k)⟩
  rintro C s ⟨j, rfl, hj, hk⟩ hC
  refine ⟨fun z => absurd z (by decide), fun _ => ?_⟩
  have hjb : 1 + j ≤ T.E 0 p - st (T.E 0) p := by omega
  have p1 := B.im.psz0_le (a := st (T.E 0) p + 1 + j) hEp
  rw [zI_add, zI_sub hjb]
  refine s9_leafSize M B.im.vk hn (by omega) ?_
  have eps : 8 + cbi 7 T.ks (T.E 0 p - st (T.E 0) p - (1 + j)) (st (T.E 0) p + (1 + j)) [] = T.psz 0 (st (T.E 0) p + 1 + j) (T.E 0 p) := by
    unfold Tr.psz
    rw [if_pos rfl, show T.E 0 p - st (T.E 0) p - (1 + j) = T.E 0 p - (st (T.E 0) p + 1 + j) by omega, show st (T.E 0) p + (1 + j) = st (T.E 0) p + 1 + j by omega]
  rw [eps]
  refine ⟨fun z => ⟨fun y => absurd y (by decide), fun _ => ?_⟩, fun z => ?_⟩
  · rw [ecap, zI_le (by omega) (by omega)] at z
    have ecut : T.cutL p = st (T.E 0) p + 1 + j := by
      unfold Tr.cutL
      rw [ff_eq hj (fun k h => decide_eq_true (hk k h)) (fun h => decide_eq_false (by omega))]
    rw [show zI p - 1 = zI (p - 1) from zI_sub (show 1 ≤ p by omega)]
    show vp_in ((400 : Int32) * 0 + zI (p - 1)) (mlen 15) ∧ _
    rw [at0 (p - 1)]
    refine rd (show p - 1 < 4800 by omega) (by decide) ?_
    rw [e15 (p - 1) (by omega)]
    rintro v rfl
    obtain ⟨e1, e2, e3⟩ := TT.ends B.im (t := 0) (p := p - 1) (by omega) (by omega)
    refine ⟨fun y => absurd y (by decide), fun _ => s9_firstOf M B (t := 0) (by omega) (by omega) ?_⟩
    rw [zI_add]
    have p2 := B.im.psz0_le (a := st (T.E 0) (p - 1)) (b := T.cutL p) (by omega)
    refine s9_leafSize M B.im.vk hn (by omega) ?_
    have eps2 : 8 + cbi 7 T.ks (T.E 0 (p - 1) - st (T.E 0) (p - 1) + (1 + j)) (st (T.E 0) (p - 1)) [] = T.psz 0 (st (T.E 0) (p - 1)) (T.cutL p) := by
      unfold Tr.psz
      rw [if_pos rfl, show T.E 0 (p - 1) - st (T.E 0) (p - 1) + (1 + j) = T.cutL p - st (T.E 0) (p - 1) by omega]
    rw [eps2]
    refine ⟨fun y => ?_, fun y => ?_⟩
    · rw [ecap, zI_le (by omega) (by omega)] at y
      have eg : T.giveL p = some (T.moveB (p - 1) (T.cutL p)) := by unfold Tr.giveL; rw [if_pos ⟨ha.1, ha.2, y⟩]
      show vp_in ((400 : Int32) * 0 + zI p) (mlen 15) ∧ _
      rw [at0 p]
      refine rd (show p < 4800 by omega) (by decide) (wr (show p < 4800 by omega) (by decide) ?_)
      show vp_in ((400 : Int32) * 0 + zI (p - 1)) (mlen 15) ∧ _
      rw [at0 (p - 1)]
      refine rd (show p - 1 < 4800 by omega) (by decide) (wr (show p - 1 < 4800 by omega) (by decide) ⟨fun x => absurd x (by decide), fun _ => ?_⟩)
      have ep : p - 1 + 1 = p := by omega
      rw [show zI p - 1 = zI (p - 1) from zI_sub (show 1 ≤ p by omega)]
      refine s9_gives206 M B (l := p - 1) (c := T.cutL p) (j1 := T.E 0 (p - 1) - st (T.E 0) (p - 1) + (1 + j)) (j2 := T.E 0 p - st (T.E 0) p - (1 + j)) (by omega) (by omega) (by rw [ep]; exact c2) (fun k hk => by rw [mup_ne _ _ _ hk, mup_ne _ _ _ hk]) (fun x h1 h2 => by
        rw [mup_same, upd_ne _ _ (by omega), mup_same, upd_ne _ _ (by omega)]) ?_ ?_ (by omega) (by rw [ep]; omega) (fun n' g' M' q1 q2 q3 => h1 n' g' _ eg M' ⟨?_, ?_, ?_⟩ ⟨fun k a b c d => q2 k b, fun k a b c d => q3 k b c d⟩)
      · rw [mup_same, upd_same, mup_same, upd_ne _ _ (by omega), e15 (p - 1) (by omega), zI_add]
      · rw [ep, mup_same, upd_ne _ _ (by omega), mup_same, upd_same, e15 p hp, zI_sub hjb]
      · rw [q2 6 (by decide)]; exact Q.1
      · rw [q1, Q.2.1]; exact zI_add _ 1
      · rw [q2 8 (by decide)]; exact Q.2.2
    · rw [ecap, zI_le (by omega) (by omega)] at y
      exact h0 (by unfold Tr.giveL; rw [if_neg (fun x => y x.2.2)])
  · rw [ecap, zI_le (by omega) (by omega)] at z
    rintro v rfl
    have hj2 : j < T.E 0 p - (st (T.E 0) p + 1) := by
      rcases Nat.lt_or_ge j (T.E 0 p - (st (T.E 0) p + 1)) with y | y
      · exact y
      · exfalso
        have : T.psz 0 (st (T.E 0) p + 1 + j) (T.E 0 p) ≤ 8 := by
          have := B.im.psz0_le (a := st (T.E 0) p + 1 + j) hEp; omega
        omega
    rw [show zI (1 + j) + 1 = zI (1 + (j + 1)) from zI_add _ 1]
    refine hC _ ⟨j + 1, rfl, by omega, fun k hk' => ?_⟩ ?_
    · by_cases e : k = j
      · rw [e]; omega
      · exact hk k (by omega)
    · show 400 - (zI (1 + (j + 1))).toNatClampNeg < 400 - (zI (1 + j)).toNatClampNeg
      rw [zI_clamp (by omega), zI_clamp (by omega)]; omega
theorem Z2.s9_givesR (M : MT n g T) (B : BT T) (Q : CT n T) {p : Nat} (hp : p < T.m 0) (hf : st (T.E 0) p + 2 ≤ T.E 0 p) {K : Int32 → (Nat → Int32) → (Nat → Nat → Int32) → Prop} (h0 : T.giveR p = none → K 0 n g) (h1 : ∀ n' g' T', T.giveR p = some T' → MT n' g' T' → CT n' T' → Kp n n' g g' → K 1 n' g') : wp_X9_gives (zI p) 0 n g K := by
  have hh := B.h12
  have hs := B.im.h1
  have hm4 := B.m4
  have hn := B.im.n3
  have hcap := B.im.cap
  have ecap : n 5 = zI T.cap := M.cap
  have hEp := B.im.le_n hp
  refine ⟨fun _ => ?_, fun z => absurd rfl z⟩
  refine s9_areSiblings M B (t := 0) (by omega) (by omega) (fun ha => ⟨fun _ => ?_, fun z => absurd z (by decide)⟩) (fun ha => ⟨fun z => absurd rfl z, fun _ => h0 (by unfold Tr.giveR; rw [if_neg (fun y => ha y.1)])⟩)
  obtain ⟨c1, c2⟩ := B.im.cutR_in hp hf
  obtain ⟨hl, -, -⟩ := B.im.adj_iff ha
  have hst : T.E 0 p = st (T.E 0) (p + 1) := by rw [st_succ]
  refine s9_firstOf M B (t := 0) (by omega) (by omega) ?_
  show vp_in ((400 : Int32) * 0 + zI p) (mlen 15) ∧ _
  rw [at0 p]
  have e15 : ∀ q, q < T.m 0 → g 15 q = zI (T.E 0 q - st (T.E 0) q) := fun q hq => by
    have := M.pt 0 (by omega) q hq
    rw [Nat.mul_zero, Nat.zero_add] at this; exact this
  refine rd (show p < 4800 by omega) (by decide) ?_
  rw [e15 p hp]
  refine loopW_of (fun s => ∃ j, s = (zI (1 + j), n, g) ∧ j ≤ T.E 0 p - 1 - st (T.E 0) p ∧ ∀ k, k < j → T.cap < T.psz 0 (st (T.E 0) p) (T.E 0 p - 1 - k)) (fun s => 400 - s.1.toNatClampNeg) ?_ _ ⟨0, rfl, Nat.zero_le _, fun k hk => absurd hk (Nat.not_lt_zero k)⟩
  rintro C s ⟨j, rfl, hj, hk⟩ hC
  refine ⟨fun _ => ?_, fun z => absurd rfl z⟩
  have hjb : 1 + j ≤ T.E 0 p - st (T.E 0) p := by omega
  have p1 := B.im.psz0_le (a := st (T.E 0) p) (b := T.E 0 p - 1 - j) (by omega)
  rw [zI_sub hjb]
  refine s9_leafSize M B.im.vk hn (by omega) ?_
  have eps : 8 + cbi 7 T.ks (T.E 0 p - st (T.E 0) p - (1 + j)) (st (T.E 0) p) [] = T.psz 0 (st (T.E 0) p) (T.E 0 p - 1 - j) := by
    unfold Tr.psz
    rw [if_pos rfl, show T.E 0 p - st (T.E 0) p - (1 + j) = T.E 0 p - 1 - j - st (T.E 0) p by omega]
  rw [eps]
  refine ⟨fun z => ⟨fun _ => ?_, fun y => absurd rfl y⟩, fun z => ?_⟩
  · rw [ecap, zI_le (by omega) (by omega)] at z
    have ecut : T.cutR p = T.E 0 p - 1 - j := by
      unfold Tr.cutR
      rw [ff_eq hj (fun k h => decide_eq_true (hk k h)) (fun h => decide_eq_false (by omega))]
    rw [show zI p + 1 = zI (p + 1) from zI_add p 1]
    show vp_in ((400 : Int32) * 0 + zI (p + 1)) (mlen 15) ∧ _
    rw [at0 (p + 1)]
    refine rd (show p + 1 < 4800 by omega) (by decide) ?_
    rw [e15 (p + 1) hl]
    rintro v rfl
    obtain ⟨e1, e2, e3⟩ := TT.ends B.im (t := 0) (p := p + 1) (by omega) hl
    rw [if_pos rfl] at e2
    rw [zI_add, zI_add, zI_sub (show 1 + j ≤ st (T.E 0) p + (T.E 0 p - st (T.E 0) p) by omega)]
    have p2 := B.im.psz0_le (a := T.cutR p) (b := T.E 0 (p + 1)) (by omega)
    refine ⟨fun _ => s9_leafSize M B.im.vk hn (by omega) ?_, fun y => absurd rfl y⟩
    have eps2 : 8 + cbi 7 T.ks (T.E 0 (p + 1) - st (T.E 0) (p + 1) + (1 + j)) (st (T.E 0) p + (T.E 0 p - st (T.E 0) p) - (1 + j)) [] = T.psz 0 (T.cutR p) (T.E 0 (p + 1)) := by
      unfold Tr.psz
      rw [if_pos rfl, show T.E 0 (p + 1) - st (T.E 0) (p + 1) + (1 + j) = T.E 0 (p + 1) - T.cutR p by omega, show st (T.E 0) p + (T.E 0 p - st (T.E 0) p) - (1 + j) = T.cutR p by omega]
    rw [eps2]
    refine ⟨fun y => ?_, fun y => ?_⟩
    · rw [ecap, zI_le (by omega) (by omega)] at y
      have eg : T.giveR p = some (T.moveB p (T.cutR p)) := by unfold Tr.giveR; rw [if_pos ⟨ha, y⟩]
      show vp_in ((400 : Int32) * 0 + zI p) (mlen 15) ∧ _
      rw [at0 p]
      refine rd (show p < 4800 by omega) (by decide) (wr (show p < 4800 by omega) (by decide) ?_)
      show vp_in ((400 : Int32) * 0 + zI (p + 1)) (mlen 15) ∧ _
      rw [at0 (p + 1)]
      refine rd (show p + 1 < 4800 by omega) (by decide) (wr (show p + 1 < 4800 by omega) (by decide) ⟨fun _ => ?_, fun x => absurd rfl x⟩)
      refine s9_gives206 M B (l := p) (c := T.cutR p) (j1 := T.E 0 p - st (T.E 0) p - (1 + j)) (j2 := T.E 0 (p + 1) - st (T.E 0) (p + 1) + (1 + j)) hl (by omega) (by omega) (fun k hk => by rw [mup_ne _ _ _ hk, mup_ne _ _ _ hk]) (fun x h1 h2 => by
        rw [mup_same, upd_ne _ _ (by omega), mup_same, upd_ne _ _ (by omega)]) ?_ ?_ (by omega) (by omega) (fun n' g' M' q1 q2 q3 => h1 n' g' _ eg M' ⟨?_, ?_, ?_⟩ ⟨fun k a b c d => q2 k b, fun k a b c d => q3 k b c d⟩)
      · rw [mup_same, upd_ne _ _ (by omega), mup_same, upd_same, e15 p hp, zI_sub hjb]
      · rw [mup_same, upd_same, mup_same, upd_ne _ _ (by omega), e15 (p + 1) hl, zI_add]
      · rw [q2 6 (by decide)]; exact Q.1
      · rw [q1, Q.2.1]; exact zI_add _ 1
      · rw [q2 8 (by decide)]; exact Q.2.2
    · rw [ecap, zI_le (by omega) (by omega)] at y
      exact h0 (by unfold Tr.giveR; rw [if_neg (fun x => y x.2)])
  · rw [ecap, zI_le (by omega) (by omega)] at z
    rintro v rfl
    have hj2 : j < T.E 0 p - 1 - st (T.E 0) p := by
      rcases Nat.lt_or_ge j (T.E 0 p - 1 - st (T.E 0) p) with y | y
      · exact y
      · exfalso
        have : T.psz 0 (st (T.E 0) p) (T.E 0 p - 1 - j) ≤ 8 := by
          have := B.im.psz0_le (a := st (T.E 0) p) (b := T.E 0 p - 1 - j) (by omega); omega
        omega
    rw [show zI (1 + j) + 1 = zI (1 + (j + 1)) from zI_add _ 1]
    refine hC _ ⟨j + 1, rfl, by omega, fun k hk' => ?_⟩ ?_
    · by_cases e : k = j
      · rw [e]; omega
      · exact hk k (by omega)
    · show 400 - (zI (1 + (j + 1))).toNatClampNeg < 400 - (zI (1 + j)).toNatClampNeg
      rw [zI_clamp (by omega), zI_clamp (by omega)]; omega
/-- half: how many parts stay -/
theorem Z2.s9_half (M : MT n g T) (B : BT T) {t p : Nat} (ht : t < T.h) (hp : p < T.m t) (hf : st (T.E t) p + 2 ≤ T.E t p) {K : Int32 → Prop} (hK : K (zI (T.cutS t p - st (T.E t) p))) : wp_X9_half (zI t) (zI p) n g K := by
  have hh := B.h12
  have hm := B.m ht
  obtain ⟨g1, g2, g3⟩ := TT.ends B.im ht hp
  have e4 := B.E ht hp
  refine s9_firstOf M B ht (by omega) ?_
  show vp_in ((400 : Int32) * zI t + zI p) (mlen 15) ∧ _
  rw [at_eq]
  refine rd (show 400 * t + p < 4800 by omega) (by decide) ?_
  rw [show g 15 (400 * t + p) = zI (T.E t p - st (T.E t) p) from M.pt t ht p hp]
  unfold Tr.cutS Tr.evc at hK
  generalize hD : (fun c => dif (T.psz t (st (T.E t) p) c) (T.psz t c (T.E t p))) = D at hK
  generalize hA : st (T.E t) p = A at *
  generalize hB : T.E t p = F at *
  refine loopW_of (fun s => ∃ b q c, s = (zI b, lo q, zI c) ∧ 1 ≤ c ∧ c ≤ F - A ∧ 1 ≤ b ∧ eLoop D (F - (A + c)) (A + c) (A + b) q = eLoop D (F - (A + 1)) (A + 1) (A + 1) none ∧ ∀ l, q = some l → l < 100000) (fun s => 500 - s.2.2.toNatClampNeg) ?_ _ ⟨1, none, 1, rfl, Nat.le_refl _, by omega, Nat.le_refl _, rfl, fun l h => by cases h⟩
  rintro C s ⟨b, q, c, rfl, c1, c2, hb, hs, hq⟩ hC
  refine ⟨fun z => ?_, fun z => ?_⟩
  · rw [zI_le (by omega) (by omega)] at z
    rw [show F - (A + c) = 0 by omega] at hs
    have hs : A + b = _ := hs
    rw [← hs, show A + b - A = b by omega] at hK
    exact hK
  · rw [zI_le (by omega) (by omega)] at z
    have p1 := B.im.psz_le B.m4 (a := A) (b := A + c) ht (by omega)
    have p2 := B.im.psz_le B.m4 (a := A + c) (b := F) ht g2
    refine s9_partSize M B ht (fun _ => c1) (by omega) ?_
    rw [zI_add, zI_sub (show c ≤ F - A by omega)]
    refine s9_partSize M B ht (fun _ => by omega) (by omega) ?_
    rw [show A + c + (F - A - c) = F by omega]
    have eD : dif (T.psz t A (A + c)) (T.psz t (A + c) F) = D (A + c) := by rw [← hD]
    have bD : D (A + c) < 100000 := by rw [← eD]; unfold dif; omega
    have en : F - (A + c) = (F - (A + (c + 1))) + 1 := by omega
    rw [en] at hs
    have ms : 500 - (zI (c + 1)).toNatClampNeg < 500 - (zI c).toNatClampNeg := by rw [zI_clamp (by omega), zI_clamp (by omega)]; omega
    have go : wp_X9_half_73 (zI t) (zI A) (zI (F - A)) (zI b) (lo q) (zI c) (zI (D (A + c))) n g K C := by
      have take : eLoop D (F - (A + (c + 1))) (A + c + 1) (A + c) (some (D (A + c))) = eLoop D (F - (A + 1)) (A + 1) (A + 1) none → wp_X9_half_88 (zI t) (zI A) (zI (F - A)) (zI c) (zI (D (A + c))) n g K C := fun hs => by
        rintro v rfl
        rw [show zI c + 1 = zI (c + 1) from zI_add c 1]
        exact hC _ ⟨c, some (D (A + c)), c + 1, rfl, by omega, by omega, c1, hs, fun l h => by cases h; exact bD⟩ ms
      cases q with
      | none => exact ⟨fun _ => take hs, fun y => absurd rfl y⟩
      | some l =>
        have hl := hq l rfl
        have hs : (if D (A + c) < l then eLoop D (F - (A + (c + 1))) (A + c + 1) (A + c) (some (D (A + c))) else eLoop D (F - (A + (c + 1))) (A + c + 1) (A + b) (some l)) = _ := hs
        refine ⟨fun y => ?_, fun _ => ⟨fun y => ?_, fun y => ?_⟩⟩
        · have y : zI l = -1 := y
          have := congrArg Int32.toInt y
          rw [zI_toInt (by omega)] at this
          have e1 : (-1 : Int32).toInt = -1 := rfl
          omega
        · have y : zI l ≤ zI (D (A + c)) := y
          rw [zI_le (by omega) (by omega)] at y
          rw [if_neg (by omega)] at hs
          rintro v rfl
          rw [show zI c + 1 = zI (c + 1) from zI_add c 1]
          exact hC _ ⟨b, some l, c + 1, rfl, by omega, by omega, hb, hs, hq⟩ ms
        · have y : ¬ zI l ≤ zI (D (A + c)) := y
          rw [zI_le (by omega) (by omega)] at y
          rw [if_pos (by omega)] at hs
          exact take hs
    have ej := jabs_dif (x := T.psz t A (A + c)) (y := T.psz t (A + c) F) (by omega) (by omega)
    rw [eD] at ej
    rintro v rfl
    unfold jabs at ej
    refine ⟨fun y => ?_, fun y => ?_⟩
    · rw [if_pos y] at ej
      rw [ej]; exact go
    · rw [if_neg y] at ej
      rw [show -(zI (T.psz t A (A + c)) - zI (T.psz t (A + c) F)) = 0 - (zI (T.psz t A (A + c)) - zI (T.psz t (A + c) F)) from (Int32.zero_sub _).symm, ej]
      exact go
end
