section
theorem Z2.ins_lt {α : Type} (l : Nat → α) {i p : Nat} (v : α) (h : i < p) : ins l p v i = l i := if_pos h
theorem Z2.ins_eq {α : Type} (l : Nat → α) (p : Nat) (v : α) : ins l p v p = v := by unfold ins; rw [if_neg (by omega), if_pos rfl]
theorem Z2.ins_gt {α : Type} (l : Nat → α) {i p : Nat} (v : α) (h : p < i) : ins l p v i = l (i - 1) := by unfold ins; rw [if_neg (by omega), if_neg (by omega)]
theorem Z2.del_lt {α : Type} (l : Nat → α) {i p : Nat} (h : i < p) : del l p i = l i := if_pos h
theorem Z2.del_ge {α : Type} (l : Nat → α) {i p : Nat} (h : p ≤ i) : del l p i = l (i + 1) := if_neg (by omega)
theorem Z2.ins_rel {α : Type} {R : α → α → Prop} {l : Nat → α} {p N : Nat} {v : α} (hp : p ≤ N) (h1 : ∀ i, i < p → R (l i) v) (h2 : ∀ j, p ≤ j → j < N → R v (l j)) (hR : ∀ i j, i < j → j < N → R (l i) (l j)) (i j : Nat) (hij : i < j) (hj : j < N + 1) : R (ins l p v i) (ins l p v j) := by
  rcases Nat.lt_trichotomy i p with a | a | a
  · rw [ins_lt l v a]
    rcases Nat.lt_trichotomy j p with b | b | b
    · rw [ins_lt l v b]; exact hR i j hij (by omega)
    · subst b; rw [ins_eq]; exact h1 i a
    · rw [ins_gt l v b]; exact hR i (j - 1) (by omega) (by omega)
  · subst a
    rw [ins_eq, ins_gt l v hij]; exact h2 (j - 1) (by omega) (by omega)
  · rw [ins_gt l v a, ins_gt l v (by omega)]; exact hR (i - 1) (j - 1) (by omega) (by omega)
theorem Z2.del_rel {α : Type} {R : α → α → Prop} {l : Nat → α} {p N : Nat} (hR : ∀ i j, i < j → j < N → R (l i) (l j)) (i j : Nat) (hij : i < j) (hj : j + 1 < N) : R (del l p i) (del l p j) := by
  rcases Nat.lt_or_ge i p with a | a
  · rw [del_lt l a]
    rcases Nat.lt_or_ge j p with b | b
    · rw [del_lt l b]; exact hR i j hij (by omega)
    · rw [del_ge l b]; exact hR i (j + 1) (by omega) (by omega)
  · rw [del_ge l a, del_ge l (by omega)]; exact hR (i + 1) (j + 1) (by omega) (by omega)
theorem Z2.addF_lt {l : Nat → Nat} {i j q : Nat} (h : l i < l j) (hij : i < j) : addF l q i < addF l q j := by
  unfold addF; split <;> split <;> omega
theorem Z2.addF_le {l : Nat → Nat} {i j q : Nat} (h : l i ≤ l j) (hij : i ≤ j) : addF l q i ≤ addF l q j := by
  unfold addF; split <;> split <;> omega
section
variable {T : Z2.Tr}
theorem Z2.Tr.IM.low (I : T.IM) {t p i : Nat} (ht : t < T.h) (hp : p < T.m t) (hi : i < p) : T.E t i ≤ st (T.E t) p := by
  unfold st; rw [if_neg (by omega)]
  cases t with
  | zero => exact I.mono _ _ (by omega) (by omega)
  | succ t =>
    rcases Nat.lt_or_ge i (p - 1) with g | g
    · exact Nat.le_of_lt (I.strict (t + 1) (by omega) (by omega) _ _ g (by omega))
    · rw [show i = p - 1 by omega]; exact Nat.le_refl _
theorem Z2.Tr.IM.high (I : T.IM) {t p j : Nat} (ht : t < T.h) (hp : p ≤ j) (hj : j < T.m t) : T.E t p ≤ T.E t j := by
  cases t with
  | zero => exact I.mono _ _ hp hj
  | succ t =>
    rcases Nat.lt_or_ge p j with g | g
    · exact Nat.le_of_lt (I.strict (t + 1) (by omega) (by omega) _ _ g (by omega))
    · rw [show p = j by omega]; exact Nat.le_refl _
theorem Z2.Tr.IM.cutAt (I : T.IM) {t p c : Nat} (ht : t + 1 < T.h) (hp : p < T.m t) (h1 : st (T.E t) p < c) (h2 : c < T.E t p) : (T.cutAt t p c).IM := by
  obtain ⟨q1, q2, q3⟩ := I.pr ht hp
  have Ea : (T.cutAt t p c).E t = ins (T.E t) p c := by
    show stt (stt T.E t _) (t + 1) _ t = _
    rw [stt_ne _ _ (by omega), stt_same]
  have Eb : (T.cutAt t p c).E (t + 1) = addF (T.E (t + 1)) (T.par t p) := stt_same (stt T.E t _) (t + 1) _
  have Ec : ∀ u, u ≠ t → u ≠ t + 1 → (T.cutAt t p c).E u = T.E u := fun u g1 g2 => by
    show stt (stt T.E t _) (t + 1) _ u = _
    rw [stt_ne _ _ g2, stt_ne _ _ g1]
  have ma : (T.cutAt t p c).m t = T.m t + 1 := stt_same T.m t _
  have mb : ∀ u, u ≠ t → (T.cutAt t p c).m u = T.m u := fun u g => stt_ne T.m _ g
  have hh : (T.cutAt t p c).h = T.h := rfl
  have hn : (T.cutAt t p c).n = T.n := rfl
  have hk : (T.cutAt t p c).ks = T.ks := rfl
  have hlow : ∀ i, i < p → T.E t i ≤ st (T.E t) p := fun i hi => I.low (by omega) hp hi
  have hhigh : ∀ j, p ≤ j → j < T.m t → T.E t p ≤ T.E t j := fun j g1 g2 => I.high (by omega) g1 g2
  have hS : t ≠ 0 → (T.cutAt t p c).S = T.S := fun g => if_neg g
  refine (Tr.IM.mk (cap := I.cap) (n3 := I.n3) (vk := I.vk) (srt := I.srt) (h1 := I.h1) (m1 := ?_) (top := ?_) (mono := ?_) (last := ?_) (strict := ?_) (one := ?_) (lastT := ?_) (svk := ?_) (ssrt := ?_) (sl := ?_) (sr := ?_))
  · intro u hu
    by_cases g : u = t
    · rw [g, ma]; omega
    · rw [mb u g]; exact I.m1 u hu
  · intro i j hij hj
    by_cases g : t = 0
    · subst g
      rw [ma] at hj; rw [Ea]
      rcases Nat.lt_or_eq_of_le hij with z | rfl
      · exact ins_rel (R := fun a b => a ≤ b) (N := T.m 0) (by omega) (fun i hi => by have := hlow i hi; omega) (fun j h3 h4 => by have := hhigh j h3 h4; omega) (fun i j h3 h4 => I.mono i j (by omega) h4) i j z hj
      · exact Nat.le_refl _
    · rw [mb 0 (by omega)] at hj; rw [Ec 0 (by omega) (by omega)]; exact I.mono i j hij hj
  · by_cases g : t = 0
    · subst g
      rw [ma, Ea, hn, ins_gt _ _ (by omega)]
      exact I.last
    · rw [mb 0 (by omega), Ec 0 (by omega) (by omega)]; exact I.last
  · intro u h1' hu i j hij hj
    by_cases g : u = t
    · subst g
      rw [ma] at hj; rw [Ea]
      exact ins_rel (R := fun a b => a < b) (N := T.m u) (by omega) (fun i hi => by have := hlow i hi; omega) (fun j h3 h4 => by have := hhigh j h3 h4; omega) (fun i j h3 h4 => I.strict u h1' (by omega) i j h3 h4) i j hij hj
    · by_cases g2 : u = t + 1
      · subst g2
        rw [mb _ g] at hj; rw [Eb]
        exact addF_lt (I.strict (t + 1) h1' hu i j hij hj) hij
      · rw [mb u g] at hj; rw [Ec u g g2]; exact I.strict u h1' hu i j hij hj
  · intro u h1' hu
    by_cases g : u = t
    · subst g
      rw [Ea]; unfold ins
      split
      · exact I.one u h1' (by omega)
      · split
        · omega
        · omega
    · by_cases g2 : u = t + 1
      · subst g2
        rw [Eb]; unfold addF
        have := I.one (t + 1) h1' hu
        split <;> omega
      · rw [Ec u g g2]; exact I.one u h1' hu
  · intro u hu
    have hu : u + 1 < T.h := hu
    by_cases g : u = t
    · subst g
      rw [Eb, mb (u + 1) (by omega), ma]
      unfold addF
      rw [if_pos (by omega), I.lastT u hu]
    · by_cases g2 : u + 1 = t
      · subst g2
        rw [Ea, ma, mb u g, ins_gt _ _ (by omega)]
        exact I.lastT u hu
      · rw [Ec (u + 1) g2 (by omega), mb (u + 1) g2, mb u g]; exact I.lastT u hu
  · rw [hh, mb (T.h - 1) (by omega)]; exact I.top
  all_goals
    by_cases g : t = 0
    case neg =>
      first
        | (intro i hi; rw [mb 0 (by omega)] at hi; rw [hS g]; exact I.svk i hi)
        | (intro i j hij hj; rw [mb 0 (by omega)] at hj; rw [hS g]; exact I.ssrt i j hij hj)
        | (intro i j hi hj; rw [mb 0 (by omega)] at hi; rw [Ec 0 (by omega) (by omega)] at hj; rw [hS g]; exact I.sl i j hi hj)
        | (intro i j hi hj hn; rw [mb 0 (by omega)] at hi; rw [Ec 0 (by omega) (by omega)] at hj; rw [hS g]; exact I.sr i j hi hj hn)
    case pos =>
      subst g
      have hS0 : (T.cutAt 0 p c).S = ins T.S p (sp (T.ks (c - 1)) (T.ks c)) := by
        show (if (0 : Nat) = 0 then ins T.S p (sp (T.ks (c - 1)) (T.ks c)) else T.S) = _
        rw [if_pos rfl]
      have hcn : c < T.n := Nat.lt_of_lt_of_le h2 (I.le_n hp)
      have hc : klt (T.ks (c - 1)) (T.ks c) := I.srt _ _ (by omega) (by omega)
      first
        | (intro i hi; rw [ma] at hi; rw [hS0]; unfold ins
           split
           · exact I.svk i (by omega)
           · split
             · exact VK_sp (I.vk c hcn)
             · exact I.svk (i - 1) (by omega))
        | (intro i j hij hj; rw [ma] at hj; rw [hS0]
           exact ins_rel (R := klt) (N := T.m 0 - 1) (by omega) (fun i hi => kle_klt (I.sr i (c - 1) (by omega) (by have := hlow i hi; omega) (by omega)) (sp_gt hc)) (fun j hj hm => kle_klt (sp_le _ _) (I.sl j c (by omega) (Nat.lt_of_lt_of_le h2 (I.mono _ _ hj (by omega))))) (fun i j h3 h4 => I.ssrt i j h3 (by omega)) i j hij (by omega))
        | (intro i j hi hj; rw [ma] at hi; rw [Ea] at hj; rw [hS0, hk]
           rcases Nat.lt_trichotomy i p with a | a | a
           · rw [ins_lt _ _ a] at hj ⊢; exact I.sl i j (by omega) hj
           · subst a
             rw [ins_eq] at hj ⊢
             exact kle_klt (klt_mono I (i := j) (j := c - 1) (by omega) (by omega)) (sp_gt hc)
           · rw [ins_gt _ _ a] at hj ⊢; exact I.sl (i - 1) j (by omega) hj)
        | (intro i j hi hj hnn; rw [ma] at hi; rw [Ea] at hj; rw [hn] at hnn; rw [hS0, hk]
           rcases Nat.lt_trichotomy i p with a | a | a
           · rw [ins_lt _ _ a] at hj ⊢; exact I.sr i j (by omega) hj hnn
           · subst a
             rw [ins_eq] at hj ⊢
             exact kle_trans (sp_le (T.ks (c - 1)) (T.ks c)) (klt_mono I hj hnn)
           · rw [ins_gt _ _ a] at hj ⊢; exact I.sr (i - 1) j (by omega) hj hnn)
theorem Z2.Tr.IM.adj_iff (I : T.IM) {t l : Nat} (h : T.adj t l = true) : l + 1 < T.m t ∧ t + 1 < T.h ∧ T.par t l = T.par t (l + 1) := by
  unfold Tr.adj at h; simpa using h
theorem Z2.Tr.IM.join (I : T.IM) {t l : Nat} (h : T.adj t l = true) : (T.join t l).IM := by
  obtain ⟨hl, ht, hp⟩ := I.adj_iff h
  obtain ⟨q1, q2, q3⟩ := I.pr ht (p := l) (by omega)
  obtain ⟨r1, r2, r3⟩ := I.pr ht (p := l + 1) hl
  rw [← hp] at r1 r2 r3
  have Ea : (T.join t l).E t = del (T.E t) l := by
    show stt (stt T.E t _) (t + 1) _ t = _
    rw [stt_ne _ _ (by omega), stt_same]
  have Eb : (T.join t l).E (t + 1) = subF (T.E (t + 1)) (T.par t l) := stt_same (stt T.E t _) (t + 1) _
  have Ec : ∀ u, u ≠ t → u ≠ t + 1 → (T.join t l).E u = T.E u := fun u g1 g2 => by
    show stt (stt T.E t _) (t + 1) _ u = _
    rw [stt_ne _ _ g2, stt_ne _ _ g1]
  have ma : (T.join t l).m t = T.m t - 1 := stt_same T.m t _
  have mb : ∀ u, u ≠ t → (T.join t l).m u = T.m u := fun u g => stt_ne T.m _ g
  have hh : (T.join t l).h = T.h := rfl
  have hn : (T.join t l).n = T.n := rfl
  have hk : (T.join t l).ks = T.ks := rfl
  have hS : t ≠ 0 → (T.join t l).S = T.S := fun g => if_neg g
  have hlow : ∀ i, i < T.par t l → T.E (t + 1) i ≤ st (T.E (t + 1)) (T.par t l) := fun i hi => I.low ht q1 hi
  refine (Tr.IM.mk (cap := I.cap) (n3 := I.n3) (vk := I.vk) (srt := I.srt) (h1 := I.h1) (m1 := ?_) (top := ?_) (mono := ?_) (last := ?_) (strict := ?_) (one := ?_) (lastT := ?_) (svk := ?_) (ssrt := ?_) (sl := ?_) (sr := ?_))
  · intro u hu
    by_cases g : u = t
    · rw [g, ma]; omega
    · rw [mb u g]; exact I.m1 u hu
  · intro i j hij hj
    by_cases g : t = 0
    · subst g
      rw [ma] at hj; rw [Ea]
      rcases Nat.lt_or_eq_of_le hij with z | rfl
      · exact del_rel (R := fun a b => a ≤ b) (N := T.m 0) (fun i j h3 h4 => I.mono i j (by omega) h4) i j z (by omega)
      · exact Nat.le_refl _
    · rw [mb 0 (by omega)] at hj; rw [Ec 0 (by omega) (by omega)]; exact I.mono i j hij hj
  · by_cases g : t = 0
    · subst g
      rw [ma, Ea, hn, del_ge _ (by omega), show T.m 0 - 1 - 1 + 1 = T.m 0 - 1 by omega]
      exact I.last
    · rw [mb 0 (by omega), Ec 0 (by omega) (by omega)]; exact I.last
  · intro u h1' hu i j hij hj
    by_cases g : u = t
    · subst g
      rw [ma] at hj; rw [Ea]
      exact del_rel (R := fun a b => a < b) (N := T.m u) (fun i j h3 h4 => I.strict u h1' (by omega) i j h3 h4) i j hij (by omega)
    · by_cases g2 : u = t + 1
      · subst g2
        rw [mb _ g] at hj; rw [Eb]
        have s := I.strict (t + 1) h1' hu i j hij hj
        unfold subF
        split
        · have := I.high ht (p := T.par t l) (j := i) (by omega) (by omega)
          split
          · omega
          · omega
        · split
          · have := hlow i (by omega)
            have := I.high ht (p := T.par t l) (j := j) (by omega) hj
            omega
          · exact s
      · rw [mb u g] at hj; rw [Ec u g g2]; exact I.strict u h1' hu i j hij hj
  · intro u h1' hu
    by_cases g : u = t
    · subst g
      rw [Ea]
      rcases Nat.lt_or_ge 0 l with z | z
      · rw [del_lt _ z]; exact I.one u h1' (by omega)
      · rw [del_ge _ z]
        have := I.strict u h1' (by omega) 0 1 (by omega) (by omega)
        show 1 ≤ T.E u 1
        omega
    · by_cases g2 : u = t + 1
      · subst g2
        rw [Eb]; unfold subF
        have := I.one (t + 1) h1' hu
        split
        · rename_i z
          have z : T.par t l = 0 := by omega
          rw [z] at r3; omega
        · omega
      · rw [Ec u g g2]; exact I.one u h1' hu
  · intro u hu
    have hu : u + 1 < T.h := hu
    by_cases g : u = t
    · subst g
      rw [Eb, mb (u + 1) (by omega), ma]
      unfold subF
      rw [if_pos (by omega), I.lastT u hu]
    · by_cases g2 : u + 1 = t
      · subst g2
        rw [Ea, ma, mb u g, del_ge _ (by omega), show T.m (u + 1) - 1 - 1 + 1 = T.m (u + 1) - 1 by omega]
        exact I.lastT u hu
      · rw [Ec (u + 1) g2 (by omega), mb (u + 1) g2, mb u g]; exact I.lastT u hu
  · rw [hh, mb (T.h - 1) (by omega)]; exact I.top
  all_goals
    by_cases g : t = 0
    case neg =>
      first
        | (intro i hi; rw [mb 0 (by omega)] at hi; rw [hS g]; exact I.svk i hi)
        | (intro i j hij hj; rw [mb 0 (by omega)] at hj; rw [hS g]; exact I.ssrt i j hij hj)
        | (intro i j hi hj; rw [mb 0 (by omega)] at hi; rw [Ec 0 (by omega) (by omega)] at hj; rw [hS g]; exact I.sl i j hi hj)
        | (intro i j hi hj hn; rw [mb 0 (by omega)] at hi; rw [Ec 0 (by omega) (by omega)] at hj; rw [hS g]; exact I.sr i j hi hj hn)
    case pos =>
      subst g
      have hS0 : (T.join 0 l).S = del T.S l := by
        show (if (0 : Nat) = 0 then del T.S l else T.S) = _
        rw [if_pos rfl]
      first
        | (intro i hi; rw [ma] at hi; rw [hS0]; unfold del
           split
           · exact I.svk i (by omega)
           · exact I.svk (i + 1) (by omega))
        | (intro i j hij hj; rw [ma] at hj; rw [hS0]
           exact del_rel (R := klt) (N := T.m 0 - 1) (fun i j h3 h4 => I.ssrt i j h3 (by omega)) i j hij (by omega))
        | (intro i j hi hj; rw [ma] at hi; rw [Ea] at hj; rw [hS0, hk]
           rcases Nat.lt_or_ge i l with a | a
           · rw [del_lt _ a] at hj ⊢; exact I.sl i j (by omega) hj
           · rw [del_ge _ a] at hj ⊢; exact I.sl (i + 1) j (by omega) hj)
        | (intro i j hi hj hnn; rw [ma] at hi; rw [Ea] at hj; rw [hn] at hnn; rw [hS0, hk]
           rcases Nat.lt_or_ge i l with a | a
           · rw [del_lt _ a] at hj ⊢; exact I.sr i j (by omega) hj hnn
           · rw [del_ge _ a] at hj ⊢; exact I.sr (i + 1) j (by omega) hj hnn)
theorem Z2.Tr.IM.coll1 (I : T.IM) (h1 : 1 < T.h) (h2 : T.E (T.h - 1) 0 = 1) : ((Tr.mk T.cap T.n T.ks T.vs (T.h - 1) T.m T.E T.S T.c0 T.c1 T.c2) : Tr).IM := by
  refine (Tr.IM.mk (cap := I.cap) (n3 := I.n3) (vk := I.vk) (srt := I.srt) (h1 := ?_) (m1 := ?_) (top := ?_) (mono := I.mono) (last := I.last) (strict := ?_) (one := ?_) (lastT := ?_) (svk := I.svk) (ssrt := I.ssrt) (sl := I.sl) (sr := I.sr)) <;> dsimp only [Tr.mk_cap, Tr.mk_n, Tr.mk_ks, Tr.mk_vs, Tr.mk_h, Tr.mk_m, Tr.mk_E, Tr.mk_S, Tr.mk_c0, Tr.mk_c1, Tr.mk_c2]
  · omega
  · intro t ht; exact I.m1 t (by omega)
  · intro t g ht; exact I.strict t g (by omega)
  · intro t g ht; exact I.one t g (by omega)
  · intro t ht; exact I.lastT t (by omega)
  · have a := I.lastT (T.h - 2) (by omega)
    have b := I.top
    rw [show T.h - 2 + 1 = T.h - 1 by omega, b, h2] at a
    rw [show T.h - 1 - 1 = T.h - 2 by omega]; exact a.symm
theorem Z2.Tr.IM.coll (I : T.IM) (k : Nat) : (Tr.coll k T).IM := by
  induction k generalizing T with
  | zero => exact I
  | succ k ih =>
    unfold Tr.coll
    split
    · rename_i h; exact ih (I.coll1 h.1 h.2)
    · exact I
/-- where a new entry comes -/
theorem Z2.Tr.IM.less_at (I : T.IM) (k : Key) : T.less k ≤ T.n ∧ (∀ i, i < T.less k → klt (T.ks i) k) ∧ (∀ i, T.less k ≤ i → i < T.n → ¬ klt (T.ks i) k) := by
  refine ⟨ff_le _ _, fun i hi => (dec_iff _).mp (ff_lt (p := fun i => dec (klt (T.ks i) k)) (n := T.n) hi), fun i h1 h2 => ?_⟩
  have := ff_at (p := fun i => dec (klt (T.ks i) k)) (n := T.n) (by unfold Tr.less at h1; omega)
  have : ¬ klt (T.ks (T.less k)) k := (dec_not _).mp this
  exact fun z => this (kle_klt (klt_mono I h1 h2) z)
theorem Z2.Tr.IM.leaf_at (I : T.IM) (k : Key) : T.leafOf k < T.m 0 ∧ (∀ i, i < T.leafOf k → ¬ klt k (T.S i)) ∧ (∀ i, T.leafOf k ≤ i → i + 1 < T.m 0 → klt k (T.S i)) := by
  have h1 := I.m1 0 (by have := I.h1; omega)
  have h2 := ff_le (fun i => dec (¬ klt k (T.S i))) (T.m 0 - 1)
  refine ⟨by unfold Tr.leafOf; omega, fun i hi => (dec_iff _).mp (ff_lt (p := fun i => dec (¬ klt k (T.S i))) (n := T.m 0 - 1) hi), fun i h1 h2 => ?_⟩
  have := ff_at (p := fun i => dec (¬ klt k (T.S i))) (n := T.m 0 - 1) (by unfold Tr.leafOf at h1; omega)
  have : klt k (T.S (T.leafOf k)) := Classical.byContradiction ((dec_not _).mp this)
  rcases Nat.lt_or_eq_of_le h1 with g | g
  · exact klt_trans this (I.ssrt _ _ g h2)
  · rw [← g]; exact this
theorem Z2.Tr.IM.pos_leaf (I : T.IM) (k : Key) : (∀ i, i < T.leafOf k → T.E 0 i ≤ T.less k) ∧ (∀ i, T.leafOf k ≤ i → i < T.m 0 → T.less k ≤ T.E 0 i) := by
  obtain ⟨a1, a2, a3⟩ := I.less_at k
  obtain ⟨b1, b2, b3⟩ := I.leaf_at k
  constructor
  · intro i hi
    rcases Nat.lt_or_ge (T.less k) (T.E 0 i) with g | g
    · have := I.le_n (i := i) (by omega)
      exact absurd (klt_kle (I.sl i (T.less k) (by omega) g) (b2 i hi)) (a3 _ (Nat.le_refl _) (by omega))
    · exact g
  · intro i hi hm
    rcases Nat.lt_or_ge (T.E 0 i) (T.less k) with g | g
    · rcases Nat.lt_or_ge (i + 1) (T.m 0) with z | z
      · exact absurd (klt_trans (a2 _ g) (b3 i hi z)) (I.sr i _ z (Nat.le_refl _) (by omega))
      · have := I.last
        rw [show T.m 0 - 1 = i by omega] at this; omega
    · exact g
theorem Z2.Tr.IM.leafPut (I : T.IM) {k : Key} (hk : VK k) (v : Int32) (hn : T.n < 300) (hnew : ∀ i, i < T.n → T.ks i ≠ k) : (T.leafPut (T.less k) (T.leafOf k) k v).IM := by
  obtain ⟨a1, a2, a3⟩ := I.less_at k
  obtain ⟨b1, b2, b3⟩ := I.leaf_at k
  obtain ⟨c1, c2⟩ := I.pos_leaf k
  have a4 : ∀ i, T.less k ≤ i → i < T.n → klt k (T.ks i) := fun i h1 h2 => by
    rcases klt_tri k (T.ks i) with g | g | g
    · exact g
    · exact absurd g.symm (hnew i h2)
    · exact absurd g (a3 i h1 h2)
  generalize T.less k = pos at *
  generalize T.leafOf k = leaf at *
  have hh := I.h1
  have E0 : (T.leafPut pos leaf k v).E 0 = addF (T.E 0) leaf := stt_same T.E 0 _
  have Et : ∀ t, 1 ≤ t → (T.leafPut pos leaf k v).E t = T.E t := fun t ht => stt_ne T.E _ (by omega)
  have hks : (T.leafPut pos leaf k v).ks = ins T.ks pos k := rfl
  refine (Tr.IM.mk (cap := I.cap) (n3 := ?_) (vk := ?_) (srt := ?_) (h1 := I.h1) (m1 := I.m1) (top := I.top) (mono := ?_) (last := ?_) (strict := ?_) (one := ?_) (lastT := ?_) (svk := I.svk) (ssrt := I.ssrt) (sl := ?_) (sr := ?_))
  · show T.n + 1 ≤ 300; omega
  · intro i hi
    have hi : i < T.n + 1 := hi
    rw [hks]; unfold ins
    split
    · exact I.vk i (by omega)
    · split
      · exact hk
      · exact I.vk (i - 1) (by omega)
  · intro i j hij hj
    exact ins_rel (R := klt) (N := T.n) a1 a2 a4 I.srt i j hij hj
  · intro i j hij hj
    rw [E0]; exact addF_le (I.mono i j hij hj) hij
  · rw [E0]
    show addF (T.E 0) leaf (T.m 0 - 1) = T.n + 1
    unfold addF; rw [if_pos (by omega), I.last]
  · intro t h1 ht; rw [Et t h1]; exact I.strict t h1 ht
  · intro t h1 ht; rw [Et t h1]; exact I.one t h1 ht
  · intro t ht; rw [Et (t + 1) (by omega)]; exact I.lastT t ht
  · intro i j hi hj
    have hi : i + 1 < T.m 0 := hi
    rw [E0] at hj
    show klt (ins T.ks pos k j) (T.S i)
    unfold addF at hj
    by_cases g : leaf ≤ i
    · rw [if_pos g] at hj
      have := c2 i g (by omega)
      unfold ins
      split
      · exact I.sl i j hi (by omega)
      · split
        · exact b3 i g hi
        · exact I.sl i (j - 1) hi (by omega)
    · rw [if_neg g] at hj
      have := c1 i (by omega)
      rw [ins_lt _ _ (by omega)]
      exact I.sl i j hi hj
  · intro i j hi hj hnn
    have hi : i + 1 < T.m 0 := hi
    have hnn : j < T.n + 1 := hnn
    rw [E0] at hj
    show ¬ klt (ins T.ks pos k j) (T.S i)
    unfold addF at hj
    by_cases g : leaf ≤ i
    · rw [if_pos g] at hj
      have := c2 i g (by omega)
      rw [ins_gt _ _ (by omega)]
      exact I.sr i (j - 1) hi (by omega) (by omega)
    · rw [if_neg g] at hj
      have := c1 i (by omega)
      unfold ins
      split
      · exact I.sr i j hi hj (by omega)
      · split
        · exact b2 i (by omega)
        · exact I.sr i (j - 1) hi (by omega) (by omega)
theorem Z2.Tr.IM.leafDel (I : T.IM) {pos : Nat} (hpos : pos < T.n) : (T.leafDel pos (T.pgOf 0 pos)).IM := by
  have hh := I.h1
  obtain ⟨b1, b2, b3⟩ := I.pg (t := 0) (x := pos) (by omega) (by simpa using hpos)
  have c1 : ∀ i, i < T.pgOf 0 pos → T.E 0 i ≤ pos := fun i hi => Nat.le_trans (I.low (by omega) b1 hi) b2
  have c2 : ∀ i, T.pgOf 0 pos ≤ i → i < T.m 0 → pos < T.E 0 i := fun i hi hm => Nat.lt_of_lt_of_le b3 (I.high (by omega) hi hm)
  generalize T.pgOf 0 pos = leaf at *
  have E0 : (T.leafDel pos leaf).E 0 = subF (T.E 0) leaf := stt_same T.E 0 _
  have Et : ∀ t, 1 ≤ t → (T.leafDel pos leaf).E t = T.E t := fun t ht => stt_ne T.E _ (by omega)
  have hks : (T.leafDel pos leaf).ks = del T.ks pos := rfl
  have hnn : (T.leafDel pos leaf).n = T.n - 1 := rfl
  refine (Tr.IM.mk (cap := I.cap) (n3 := ?_) (vk := ?_) (srt := ?_) (h1 := I.h1) (m1 := I.m1) (top := I.top) (mono := ?_) (last := ?_) (strict := ?_) (one := ?_) (lastT := ?_) (svk := I.svk) (ssrt := I.ssrt) (sl := ?_) (sr := ?_))
  · have := I.n3; rw [hnn]; omega
  · intro i hi
    rw [hnn] at hi
    rw [hks]; unfold del
    split
    · exact I.vk i (by omega)
    · exact I.vk (i + 1) (by omega)
  · intro i j hij hj
    rw [hnn] at hj
    exact del_rel (R := klt) (N := T.n) I.srt i j hij (by omega)
  · intro i j hij hj
    have hj : j < T.m 0 := hj
    rw [E0]
    have := I.mono i j hij hj
    unfold subF
    split
    · split
      · omega
      · omega
    · split
      · have := c1 i (by omega)
        have := c2 j (by omega) hj
        omega
      · exact this
  · rw [E0]
    show subF (T.E 0) leaf (T.m 0 - 1) = T.n - 1
    unfold subF; rw [if_pos (by omega), I.last]
  · intro t h1 ht; rw [Et t h1]; exact I.strict t h1 ht
  · intro t h1 ht; rw [Et t h1]; exact I.one t h1 ht
  · intro t ht; rw [Et (t + 1) (by omega)]; exact I.lastT t ht
  · intro i j hi hj
    have hi : i + 1 < T.m 0 := hi
    rw [E0] at hj
    show klt (del T.ks pos j) (T.S i)
    unfold subF at hj
    by_cases g : leaf ≤ i
    · rw [if_pos g] at hj
      have := c2 i g (by omega)
      unfold del
      split
      · exact I.sl i j hi (by omega)
      · exact I.sl i (j + 1) hi (by omega)
    · rw [if_neg g] at hj
      have := c1 i (by omega)
      rw [del_lt _ (by omega)]
      exact I.sl i j hi hj
  · intro i j hi hj hnn'
    have hi : i + 1 < T.m 0 := hi
    rw [hnn] at hnn'
    rw [E0] at hj
    show ¬ klt (del T.ks pos j) (T.S i)
    unfold subF at hj
    by_cases g : leaf ≤ i
    · rw [if_pos g] at hj
      have := c2 i g (by omega)
      rw [del_ge _ (by omega)]
      exact I.sr i (j + 1) hi (by omega) (by omega)
    · rw [if_neg g] at hj
      have := c1 i (by omega)
      unfold del
      split
      · exact I.sr i j hi hj (by omega)
      · exact I.sr i (j + 1) hi (by omega) (by omega)
end
end
section
theorem Z2.cbi_le {f : Nat} {k : Nat → Key} (n i : Nat) (b : Key) (h : ∀ j, i ≤ j → j < i + n → (k j).length ≤ 12) : cbi f k n i b ≤ (f + 12) * n := by
  induction n generalizing i b with
  | zero => simp [cbi]
  | succ n ih =>
    simp only [cbi]
    have h1 := h i (Nat.le_refl _) (by omega)
    have h2 := ih (i + 1) (k i) (fun j h3 h4 => h j (by omega) (by omega))
    rw [Nat.mul_succ]; omega
theorem Z2.cbi_congr {f : Nat} {k k' : Nat → Key} (n i : Nat) (b : Key) (h : ∀ j, i ≤ j → j < i + n → k j = k' j) : cbi f k n i b = cbi f k' n i b := by
  induction n generalizing i b with
  | zero => rfl
  | succ n ih =>
    simp only [cbi]
    rw [h i (Nat.le_refl _) (by omega), ih (i + 1) _ (fun j h3 h4 => h j (by omega) (by omega))]
theorem Z2.eLoop_in (d : Nat → Nat) (k c b : Nat) (o : Option Nat) : eLoop d k c b o = b ∨ (c ≤ eLoop d k c b o ∧ eLoop d k c b o < c + k) := by
  induction k generalizing c b o with
  | zero => exact Or.inl rfl
  | succ k ih =>
    cases o with
    | none =>
      simp only [eLoop]
      rcases ih (c + 1) c (some (d c)) with h | h
      · right; rw [h]; omega
      · right; omega
    | some l =>
      simp only [eLoop]
      split
      · rcases ih (c + 1) c (some (d c)) with h | h
        · right; rw [h]; omega
        · right; omega
      · rcases ih (c + 1) b (some l) with h | h
        · left; exact h
        · right; omega
section
theorem Z2.Tr.cutAt_cap (T : Tr) (t p c : Nat) : (T.cutAt t p c).cap = T.cap := rfl
theorem Z2.Tr.rise_cap (T : Tr) (t : Nat) : (T.rise t).cap = T.cap := by unfold rise; split <;> rfl
theorem Z2.Tr.rise_m (T : Tr) {t u : Nat} (h : u < T.h) : (T.rise t).m u = T.m u := by
  unfold rise; split
  · exact stt_ne T.m _ (by omega)
  · rfl
theorem Z2.Tr.rise_E (T : Tr) {t u : Nat} (h : u < T.h) : (T.rise t).E u = T.E u := by
  unfold rise; split
  · exact stt_ne T.E _ (by omega)
  · rfl
theorem Z2.Tr.rise_h (T : Tr) (t : Nat) : (T.rise t).h = if t + 1 = T.h then T.h + 1 else T.h := by
  unfold rise; split <;> rfl
theorem Z2.Tr.rise_ks (T : Tr) (t : Nat) : (T.rise t).ks = T.ks := by unfold rise; split <;> rfl
theorem Z2.Tr.rise_n (T : Tr) (t : Nat) : (T.rise t).n = T.n := by unfold rise; split <;> rfl
theorem Z2.Tr.rise_vs (T : Tr) (t : Nat) : (T.rise t).vs = T.vs := by unfold rise; split <;> rfl
theorem Z2.Tr.rise_S (T : Tr) (t : Nat) : (T.rise t).S = T.S := by unfold rise; split <;> rfl
section
variable {T : Z2.Tr}
theorem Z2.Tr.IM.E_pos (I : T.IM) {t i : Nat} (ht : t + 1 < T.h) (h : i < T.m (t + 1)) : i + 1 ≤ T.E (t + 1) i := by
  induction i with
  | zero => exact I.one (t + 1) (by omega) ht
  | succ i ih =>
    have := ih (by omega)
    have := I.strict (t + 1) (by omega) ht i (i + 1) (by omega) h
    omega
theorem Z2.Tr.IM.m_le (I : T.IM) {t : Nat} (ht : t + 1 < T.h) : T.m (t + 1) ≤ T.m t := by
  have h1 := I.m1 (t + 1) ht
  have := I.E_pos ht (i := T.m (t + 1) - 1) (by omega)
  rw [I.lastT t ht] at this; omega
theorem Z2.Tr.IM.m_le0 (I : T.IM) {t : Nat} (ht : t < T.h) : T.m t ≤ T.m 0 := by
  induction t with
  | zero => exact Nat.le_refl _
  | succ t ih => exact Nat.le_trans (I.m_le ht) (ih (by omega))
theorem Z2.Tr.IM.sx_lt (I : T.IM) {t : Nat} (ht : t < T.h) : ∀ {p q : Nat}, p < q → q < T.m t → sx T.E t p < sx T.E t q := by
  induction t with
  | zero => intro p q h _; exact h
  | succ t ih =>
    intro p q h hq
    have h1 := I.E_pos ht (i := p) (by omega)
    have h2 := I.strict (t + 1) (by omega) ht p q h hq
    have h3 := I.le_m ht hq
    exact ih (by omega) (by omega) (by omega)
theorem Z2.Tr.IM.sx_last (I : T.IM) {t : Nat} (ht : t < T.h) : sx T.E t (T.m t - 1) = T.m 0 - 1 := by
  induction t with
  | zero => rfl
  | succ t ih =>
    show sx T.E t (T.E (t + 1) (T.m (t + 1) - 1) - 1) = _
    rw [I.lastT t ht]; exact ih (by omega)
theorem Z2.Tr.IM.sx_in (I : T.IM) {t p : Nat} (ht : t < T.h) (hp : p + 1 < T.m t) : sx T.E t p + 1 < T.m 0 := by
  have := I.sx_lt ht (p := p) (q := T.m t - 1) (by omega) (by omega)
  rw [I.sx_last ht] at this; omega
theorem Z2.Tr.IM.sx_in' (I : T.IM) {t p : Nat} (ht : t < T.h) (hp : p < T.m t) : sx T.E t p < T.m 0 := by
  rcases Nat.lt_or_ge (p + 1) (T.m t) with g | g
  · have := I.sx_in ht g; omega
  · have h1 := I.m1 0 (by have := I.h1; omega)
    have := I.sx_last ht
    rw [show T.m t - 1 = p by omega] at this; omega
theorem Z2.Tr.IM.psz0_le (I : T.IM) {a b : Nat} (hb : b ≤ T.n) : T.psz 0 a b ≤ 8 + 19 * (b - a) := by
  unfold psz; rw [if_pos rfl]
  have := cbi_le (f := 7) (k := T.ks) (b - a) a [] (fun j h1 h2 => (I.vk j (by omega)).1)
  omega
theorem Z2.Tr.IM.psz1_le (I : T.IM) {t a b : Nat} (h1 : 1 ≤ t) (ht : t < T.h) (hb : b ≤ T.m (t - 1)) : T.psz t a b ≤ 8 + 4 * (b - a) + 15 * (b - 1 - a) := by
  unfold psz; rw [if_neg (by omega)]
  have := cbi_le (f := 3) (k := fun i => T.S (sx T.E (t - 1) i)) (b - 1 - a) a [] (fun j h3 h4 => (I.svk _ (I.sx_in (t := t - 1) (by omega) (by omega))).1)
  omega
theorem Z2.Tr.IM.full0 (I : T.IM) {p : Nat} (hp : p < T.m 0) (h : T.cap < T.pgs 0 p) : st (T.E 0) p + 3 ≤ T.E 0 p := by
  have := I.psz0_le (a := st (T.E 0) p) (I.le_n hp)
  have := I.cap
  unfold pgs at h; omega
theorem Z2.Tr.IM.full1 (I : T.IM) {t p : Nat} (ht : t + 1 < T.h) (hp : p < T.m (t + 1)) (h : T.cap < T.pgs (t + 1) p) : st (T.E (t + 1)) p + 4 ≤ T.E (t + 1) p := by
  have := I.psz1_le (t := t + 1) (a := st (T.E (t + 1)) p) (b := T.E (t + 1) p) (by omega) ht (I.le_m ht hp)
  have := I.cap
  unfold pgs at h; omega
theorem Z2.Tr.IM.full (I : T.IM) {t p : Nat} (ht : t < T.h) (hp : p < T.m t) (h : T.cap < T.pgs t p) : st (T.E t) p + 3 ≤ T.E t p := by
  cases t with
  | zero => exact I.full0 hp h
  | succ t => have := I.full1 ht hp h; omega
theorem Z2.Tr.IM.cutS_in {T : Tr} {t p : Nat} (h : st (T.E t) p + 2 ≤ T.E t p) : st (T.E t) p < T.cutS t p ∧ T.cutS t p < T.E t p := by
  unfold cutS evc
  rcases eLoop_in (fun c => dif (T.psz t (st (T.E t) p) c) (T.psz t c (T.E t p))) (T.E t p - (st (T.E t) p + 1)) (st (T.E t) p + 1) (st (T.E t) p + 1) none with g | g <;> omega
theorem Z2.Tr.IM.cutL_in (I : T.IM) {p : Nat} (hp : p < T.m 0) (h : st (T.E 0) p + 2 ≤ T.E 0 p) : st (T.E 0) p < T.cutL p ∧ T.cutL p < T.E 0 p := by
  have hn := I.le_n hp
  have hc := I.cap
  unfold cutL
  have : ff (fun j => decide (T.cap < T.psz 0 (st (T.E 0) p + 1 + j) (T.E 0 p))) (T.E 0 p - (st (T.E 0) p + 1)) < T.E 0 p - (st (T.E 0) p + 1) := by
    rcases Nat.lt_or_ge (ff (fun j => decide (T.cap < T.psz 0 (st (T.E 0) p + 1 + j) (T.E 0 p))) (T.E 0 p - (st (T.E 0) p + 1))) (T.E 0 p - (st (T.E 0) p + 1)) with g | g
    · exact g
    · have e := ff_lt (p := fun j => decide (T.cap < T.psz 0 (st (T.E 0) p + 1 + j) (T.E 0 p))) (n := T.E 0 p - (st (T.E 0) p + 1)) (i := T.E 0 p - (st (T.E 0) p + 1) - 1) (by omega)
      have e := of_decide_eq_true e
      have := I.psz0_le (a := st (T.E 0) p + 1 + (T.E 0 p - (st (T.E 0) p + 1) - 1)) hn
      omega
  omega
theorem Z2.Tr.IM.cutR_in (I : T.IM) {p : Nat} (hp : p < T.m 0) (h : st (T.E 0) p + 2 ≤ T.E 0 p) : st (T.E 0) p < T.cutR p ∧ T.cutR p < T.E 0 p := by
  have hn := I.le_n hp
  have hc := I.cap
  unfold cutR
  have : ff (fun j => decide (T.cap < T.psz 0 (st (T.E 0) p) (T.E 0 p - 1 - j))) (T.E 0 p - 1 - st (T.E 0) p) < T.E 0 p - 1 - st (T.E 0) p := by
    rcases Nat.lt_or_ge (ff (fun j => decide (T.cap < T.psz 0 (st (T.E 0) p) (T.E 0 p - 1 - j))) (T.E 0 p - 1 - st (T.E 0) p)) (T.E 0 p - 1 - st (T.E 0) p) with g | g
    · exact g
    · have e := ff_lt (p := fun j => decide (T.cap < T.psz 0 (st (T.E 0) p) (T.E 0 p - 1 - j))) (n := T.E 0 p - 1 - st (T.E 0) p) (i := T.E 0 p - 1 - st (T.E 0) p - 1) (by omega)
      have e := of_decide_eq_true e
      have := I.psz0_le (T := T) (a := st (T.E 0) p) (b := T.E 0 p - 1 - (T.E 0 p - 1 - st (T.E 0) p - 1)) (by omega)
      omega
  omega
theorem Z2.Tr.IM.split (I : T.IM) {t p : Nat} (ht : t < T.h) (hp : p < T.m t) (h : st (T.E t) p + 2 ≤ T.E t p) : (T.split t p).IM := by
  have J := I.rise t
  obtain ⟨h1, h2⟩ := cutS_in h
  have hh := T.rise_h t
  refine J.cutAt (t := t) (p := p) (c := T.cutS t p) ?_ ?_ ?_ ?_
  · rw [hh]; split <;> omega
  · rw [T.rise_m ht]; exact hp
  · rw [T.rise_E ht]; exact h1
  · rw [T.rise_E ht]; exact h2
end
/-- what stays when pages are mended -/
abbrev Z2.Tr.Like (T U : Tr) : Prop := (U.cap = T.cap) ∧ (U.n = T.n) ∧ (U.ks = T.ks) ∧ (U.vs = T.vs)
theorem Z2.Tr.Like.mk {T U : Tr} (cap : U.cap = T.cap) (n : U.n = T.n) (ks : U.ks = T.ks) (vs : U.vs = T.vs) : Tr.Like T U := ⟨cap, n, ks, vs⟩
theorem Z2.Tr.Like.cap {T U : Tr} (h9 : Tr.Like T U) : U.cap = T.cap := h9.1
theorem Z2.Tr.Like.n {T U : Tr} (h9 : Tr.Like T U) : U.n = T.n := h9.2.1
theorem Z2.Tr.Like.ks {T U : Tr} (h9 : Tr.Like T U) : U.ks = T.ks := h9.2.2.1
theorem Z2.Tr.Like.vs {T U : Tr} (h9 : Tr.Like T U) : U.vs = T.vs := h9.2.2.2
theorem Z2.Tr.Like.refl (T : Tr) : Like T T := ⟨rfl, rfl, rfl, rfl⟩
theorem Z2.Tr.Like.trans {T U V : Tr} (a : Like T U) (b : Like U V) : Like T V := ⟨b.cap.trans a.cap, b.n.trans a.n, b.ks.trans a.ks, b.vs.trans a.vs⟩
theorem Z2.Tr.like_split (T : Tr) (t p : Nat) : Like T (T.split t p) := ⟨T.rise_cap t, T.rise_n t, T.rise_ks t, T.rise_vs t⟩
theorem Z2.Tr.like_join (T : Tr) (t l : Nat) : Like T (T.join t l) := ⟨rfl, rfl, rfl, rfl⟩
theorem Z2.Tr.like_moveB (T : Tr) (l c : Nat) : Like T (T.moveB l c) := ⟨rfl, rfl, rfl, rfl⟩
theorem Z2.Tr.split_h (T : Tr) (t p : Nat) : (T.split t p).h = if t + 1 = T.h then T.h + 1 else T.h := T.rise_h t
theorem Z2.Tr.split_m (T : Tr) {t p : Nat} (ht : t < T.h) : (T.split t p).m t = T.m t + 1 := by
  show stt (T.rise t).m t _ t = _
  rw [stt_same, T.rise_m ht]
theorem Z2.Tr.split_mne (T : Tr) {t p u : Nat} (hu : u < T.h) (h : u ≠ t) : (T.split t p).m u = T.m u := by
  show stt (T.rise t).m t _ u = _
  rw [stt_ne _ _ h, T.rise_m hu]
theorem Z2.Tr.up_spec {T : Tr} (I : T.IM) (k t p : Nat) (h1 : 1 ≤ t) (hk : t + k ≤ T.h) (hp : p < T.m (t - 1)) : (up k T t p).IM ∧ Like T (up k T t p) ∧ (∀ u, u < t → (up k T t p).m u = T.m u) ∧ T.h ≤ (up k T t p).h ∧ (up k T t p).h ≤ T.h + 1 := by
  induction k generalizing T t p with
  | zero => exact ⟨I, Like.refl T, fun _ _ => rfl, Nat.le_refl _, Nat.le_succ _⟩
  | succ k ih =>
    unfold up
    split
    · exact ⟨I, Like.refl T, fun _ _ => rfl, Nat.le_refl _, Nat.le_succ _⟩
    · rename_i g
      obtain ⟨t', rfl⟩ : ∃ t', t = t' + 1 := ⟨t - 1, by omega⟩
      rw [Nat.add_sub_cancel] at *
      obtain ⟨q1, q2, q3⟩ := I.pr (t := t') (by omega) hp
      have hf := I.full1 (by omega) q1 (by omega)
      have J := I.split (by omega) q1 (by omega)
      have hh := T.split_h (t' + 1) (T.par t' p)
      have hm := T.split_m (t := t' + 1) (p := T.par t' p) (by omega)
      obtain ⟨a1, a2, a3, a4, a5⟩ := ih J (t' + 1 + 1) (T.par t' p) (by omega) (by rw [hh]; split <;> omega) (by rw [show t' + 1 + 1 - 1 = t' + 1 by omega, hm]; omega)
      refine ⟨a1, (T.like_split _ _).trans a2, fun u hu => ?_, ?_, ?_⟩
      · rw [a3 u (by omega), T.split_mne (by omega) (by omega)]
      · rw [hh] at a4; split at a4 <;> omega
      · rw [hh] at a5
        split at a5
        · -- a root was split: k = 0
          rename_i e
          have : k = 0 := by omega
          subst this
          rw [show up 0 (T.split (t' + 1) (T.par t' p)) (t' + 1 + 1) (T.par t' p) = T.split (t' + 1) (T.par t' p) from rfl, hh, if_pos e]
          exact Nat.le_refl _
        · omega
theorem Z2.Tr.eases_spec {T : Tr} (I : T.IM) {p : Nat} (hp : p < T.m 0) (hf : T.cap < T.pgs 0 p) : (T.eases p).IM ∧ Like T (T.eases p) ∧ T.m 0 ≤ (T.eases p).m 0 ∧ (T.eases p).m 0 ≤ T.m 0 + 1 ∧ T.h ≤ (T.eases p).h ∧ (T.eases p).h ≤ T.h + 1 ∧ (1 < T.h → (T.eases p).h = T.h) := by
  have f := I.full0 hp hf
  have hh := I.h1
  have hst := I.st_le hp
  have moves : ∀ l c, (T.moveB l c).IM → (T.moveB l c).IM ∧ Like T (T.moveB l c) ∧ T.m 0 ≤ (T.moveB l c).m 0 ∧ (T.moveB l c).m 0 ≤ T.m 0 + 1 ∧ T.h ≤ (T.moveB l c).h ∧ (T.moveB l c).h ≤ T.h + 1 ∧ (1 < T.h → (T.moveB l c).h = T.h) :=
    fun l c J => ⟨J, T.like_moveB l c, Nat.le_refl _, Nat.le_succ _, Nat.le_refl _, Nat.le_succ _, fun _ => rfl⟩
  unfold eases
  split
  · rename_i x e
    unfold giveL at e
    split at e
    · rename_i g
      cases e
      obtain ⟨g1, g2, g3⟩ := I.adj_iff g.2.1
      obtain ⟨c1, c2⟩ := I.cutL_in hp (by omega)
      refine moves _ _ (I.moveB (by omega) ?_ ?_)
      · have := I.low (by omega) hp (i := p - 1) (by omega)
        have := I.st_le (i := p - 1) (by omega)
        omega
      · rw [show p - 1 + 1 = p by omega]; exact c2
    · cases e
  · split
    · rename_i x e
      unfold giveR at e
      split at e
      · rename_i g
        cases e
        obtain ⟨g1, g2, g3⟩ := I.adj_iff g.1
        obtain ⟨c1, c2⟩ := I.cutR_in hp (by omega)
        exact moves _ _ (I.moveB g1 c1 (Nat.lt_of_lt_of_le c2 (I.mono _ _ (by omega) g1)))
      · cases e
    · have hs := T.split_h 0 p
      have hm := T.split_m (t := 0) (p := p) (by omega)
      refine ⟨I.split (by omega) hp (by omega), T.like_split 0 p, by omega, by omega, ?_, ?_, ?_⟩
      · rw [hs]; split <;> omega
      · rw [hs]; split <;> omega
      · intro _; rw [hs, if_neg (by omega)]
theorem Z2.Tr.grow_spec {T : Tr} (I : T.IM) {p : Nat} (hp : p < T.m 0) : (T.grow p).IM ∧ Like T (T.grow p) ∧ T.m 0 ≤ (T.grow p).m 0 ∧ (T.grow p).m 0 ≤ T.m 0 + 1 ∧ (T.grow p).h ≤ T.h + 1 := by
  have hh := I.h1
  unfold grow
  split
  · exact ⟨I, Like.refl T, Nat.le_refl _, Nat.le_succ _, Nat.le_succ _⟩
  · rename_i g
    obtain ⟨J, l, m1, m2, h1, h2, h3⟩ := eases_spec I hp (by omega)
    obtain ⟨a1, a2, a3, a4, a5⟩ := up_spec J (T.h - 1) 1 p (Nat.le_refl _) (by omega) (by show p < (T.eases p).m 0; omega)
    refine ⟨a1, l.trans a2, by rw [a3 0 (by omega)]; exact m1, by rw [a3 0 (by omega)]; exact m2, ?_⟩
    by_cases e : 1 < T.h
    · rw [h3 e] at a5; exact a5
    · have e : T.h - 1 = 0 := by omega
      rw [e]; exact h2
end
end
