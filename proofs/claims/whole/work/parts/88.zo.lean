/-! the reference: the leaf for a key -/
section
variable {n : Nat → Int32} {g : Nat → Nat → Int32} {T : Z2.Tr}
theorem Z2.lf_first (T : Tr) (I : T.IM) {t q : Nat} (ht : t + 1 < T.h) (hq : q < T.m (t + 1)) : Tr.lf T.E (t + 1) q = Tr.lf T.E t (st (T.E (t + 1)) q) := by
  cases q with
  | zero => rfl
  | succ q =>
    rw [st_succ]
    exact Tr.lf_up T t q (by have := I.E_pos ht (i := q) (by omega); omega)
theorem Z2.s9_leafFor (M : MT n g T) (B : BT T) {k : Nat} {x : Key} (hx : KA g k 0 x) (vx : VK x) (hk : k ∈ mAI) (hl : 12 ≤ mlen k) {K : Int32 → Prop} (hK : K (zI (T.leafOf x))) : wp_X9_leafFor k (zI x.length) n g K := by
  have hh := B.h12
  have hs := B.im.h1
  have eh : n 13 = zI T.h := M.ch
  obtain ⟨l1, l2, l3⟩ := B.im.leaf_at x
  have hm4 := B.m4
  rintro v rfl
  rw [eh, show zI T.h - 1 = zI (T.h - 1) from zI_sub hs]
  refine loopW_of (fun s => ∃ q u, s = (zI q, zI u) ∧ u < T.h ∧ q < T.m u ∧ Tr.lf T.E u q ≤ T.leafOf x ∧ T.leafOf x ≤ sx T.E u q) (fun s => s.2.toNatClampNeg) ?_ _ ⟨0, T.h - 1, rfl, by omega, by rw [B.im.top]; omega, Nat.zero_le _, ?_⟩
  · rintro C s ⟨q, u, rfl, hu, hq, hlo, hhi⟩ hC
    refine ⟨fun z => ?_, fun z => ?_⟩
    · rw [show (0 : Int32) = zI 0 from rfl, zI_le (by omega) (by omega)] at z
      have : u = 0 := by omega
      subst this
      rw [Tr.lf_0] at hlo
      have hhi : T.leafOf x ≤ q := hhi
      rw [show q = T.leafOf x by omega]; exact hK
    · rw [show (0 : Int32) = zI 0 from rfl, zI_le (by omega) (by omega)] at z
      obtain ⟨u, rfl⟩ : ∃ v, u = v + 1 := ⟨u - 1, by omega⟩
      have hm := B.m (t := u) (by omega)
      have hm1 := B.m (t := u + 1) (by omega)
      obtain ⟨e1, e2, e3⟩ := TT.ends B.im (t := u + 1) hu hq
      rw [if_neg (by omega), Nat.add_sub_cancel] at e2
      have e3 := e3 (by omega)
      refine s9_firstOf M B hu (by omega) ?_
      rw [lf_first T B.im hu hq] at hlo
      have hhi : T.leafOf x ≤ sx T.E u (T.E (u + 1) q - 1) := hhi
      refine loopW_of (fun s => ∃ c p, s = (zI c, zI p) ∧ st (T.E (u + 1)) q ≤ c ∧ c ≤ p ∧ p + 1 ≤ T.E (u + 1) q ∧ Tr.lf T.E u c ≤ T.leafOf x ∧ (c < p → T.leafOf x ≤ sx T.E u c)) (fun s => 500 - s.2.toNatClampNeg) ?_ _ ⟨_, _, rfl, Nat.le_refl _, Nat.le_refl _, by omega, hlo, fun h => by omega⟩
      rintro C2 s ⟨c, p, rfl, c1, c2, c3, c4, c5⟩ hC2
      show vp_in ((400 : Int32) * zI (u + 1) + zI q) (mlen 15) ∧ _
      rw [at_eq]
      refine rd (show 400 * (u + 1) + q < 4800 by omega) (by decide) ?_
      rw [show g 15 (400 * (u + 1) + q) = zI (T.E (u + 1) q - st (T.E (u + 1)) q) from M.pt (u + 1) hu q hq, zI_add, show st (T.E (u + 1)) q + (T.E (u + 1) q - st (T.E (u + 1)) q) = T.E (u + 1) q by omega, show zI (T.E (u + 1) q) - 1 = zI (T.E (u + 1) q - 1) from zI_sub (show 1 ≤ T.E (u + 1) q by omega), show zI (u + 1) - 1 = zI u from zI_sub (show 1 ≤ u + 1 by omega)]
      refine ⟨fun y => ?_, fun y => ?_⟩
      · rw [zI_le (by omega) (by omega)] at y
        rintro v rfl
        rw [zI_pred (by omega), Nat.add_sub_cancel]
        refine hC _ ⟨c, u, rfl, by omega, by omega, c4, ?_⟩ ?_
        · rcases Nat.lt_or_ge c p with w | w
          · exact c5 w
          · rw [show c = T.E (u + 1) q - 1 by omega]; exact hhi
        · show (zI u).toNatClampNeg < (zI (u + 1)).toNatClampNeg
          rw [zI_clamp (by omega), zI_clamp (by omega)]; omega
      · rw [zI_le (by omega) (by omega)] at y
        have sxl := B.im.sx_in (t := u) (p := p) (by omega) (by omega)
        refine s9_lastLeaf M B (t := u) (by omega) (by omega) (rd (show sx T.E u p < 400 by omega) (by decide) ?_)
        have vS := B.im.svk _ sxl
        have v1 := vS.1
        have v2 := vx.1
        rw [show g 16 (sx T.E u p) = zI (T.S (sx T.E u p)).length from M.ss _ sxl, k12, show (0 : Int32) = zI 0 from rfl]
        refine s9_compare (M.sb _ sxl) hx vS vx (by decide) hk (show 12 * sx T.E u p + _ ≤ 4800 by omega) (by omega) (by omega) (by omega) (fun r r1 r2 => ⟨fun w => ?_, fun w => ?_⟩)
        · -- the separator is greater
          have hgt : klt x (T.S (sx T.E u p)) := by
            rcases klt_tri (T.S (sx T.E u p)) x with a | a | a
            · have := r1.mpr a
              rw [Int32.lt_iff_toInt_lt] at this
              have w : (0 : Int32) < r := w
              rw [Int32.lt_iff_toInt_lt] at w; omega
            · have := r2.mpr a
              rw [this] at w
              exact absurd w (i32_lt_irrefl _)
            · exact a
          rintro v rfl w rfl
          rw [show zI c + zI 0 = zI c from zI_add c 0, show zI p + 1 = zI (p + 1) from zI_add p 1]
          have hle : T.leafOf x ≤ sx T.E u p := by
            rcases Nat.lt_or_ge (sx T.E u p) (T.leafOf x) with a | a
            · exact absurd hgt (l2 _ a)
            · exact a
          refine hC2 _ ⟨c, p + 1, rfl, c1, by omega, by omega, c4, fun _ => ?_⟩ ?_
          · rcases Nat.lt_or_eq_of_le c2 with a | a
            · exact c5 a
            · rw [a]; exact hle
          · show 500 - (zI (p + 1)).toNatClampNeg < 500 - (zI p).toNatClampNeg
            rw [zI_clamp (by omega), zI_clamp (by omega)]; omega
        · have hng : ¬ klt x (T.S (sx T.E u p)) := fun a => by
            have w : ¬ (0 : Int32) < r := w
            rw [Int32.lt_iff_toInt_lt] at w
            have e0 : (0 : Int32).toInt = 0 := rfl
            have h1 : ¬ r < 0 := fun b => klt_asymm a (r1.mp b)
            have h2 : ¬ r = 0 := fun b => klt_irrefl x (by have := r2.mp b; rw [this] at a; exact a)
            rw [Int32.lt_iff_toInt_lt] at h1
            rw [← Int32.toInt_inj] at h2
            omega
          have hlt : sx T.E u p < T.leafOf x := by
            rcases Nat.lt_or_ge (sx T.E u p) (T.leafOf x) with a | a
            · exact a
            · exact absurd (l3 _ a sxl) hng
          have ecp : c = p := by
            rcases Nat.lt_or_eq_of_le c2 with a | a
            · have := c5 a
              have := B.im.sx_lt (t := u) (by omega) a (by omega)
              omega
            · exact a
          subst ecp
          rintro v rfl w rfl
          rw [show zI c + 1 = zI (c + 1) from zI_add c 1]
          refine hC2 _ ⟨c + 1, c + 1, rfl, by omega, Nat.le_refl _, by omega, ?_, fun h => by omega⟩ ?_
          · rw [Tr.lf_succ]; exact hlt
          · show 500 - (zI (c + 1)).toNatClampNeg < 500 - (zI c).toNatClampNeg
            rw [zI_clamp (by omega), zI_clamp (by omega)]; omega
  · have := B.im.sx_last (t := T.h - 1) (by omega)
    rw [B.im.top] at this
    have this : sx T.E (T.h - 1) 0 = T.m 0 - 1 := this
    rw [this]; omega
/-! the reference: sets -/
/-- what setting a separator leaves -/
def Z2.SetsP (g g' : Nat → Nat → Int32) (leaf k2 a c : Nat) : Prop := (∀ k, k ≠ 16 → k ≠ 17 → g' k = g k) ∧ g' 16 = upd (g 16) leaf (zI c) ∧ (∀ j, j < c → g' 17 (12 * leaf + j) = g k2 (a + j)) ∧ (∀ x, ¬ (12 * leaf ≤ x ∧ x < 12 * leaf + c) → g' 17 x = g 17 x)
theorem Z2.s9_sets {leaf k2 a c : Nat} (hl : leaf < 400) (hk : k2 ∈ mAI) (hk2 : k2 ≠ 16) (hc : c ≤ 12) (ha : a + c ≤ mlen k2) (hd : k2 = 17 → a + c ≤ 12 * leaf ∨ 12 * leaf + c ≤ a) {K : (Nat → Int32) → (Nat → Nat → Int32) → Prop} (hK : ∀ g', SetsP g g' leaf k2 a c → K n g') : wp_X9_sets (zI leaf) k2 (zI a) (zI c) n g K := by
  have hml : mlen k2 ≤ 5000 := by
    have : ∀ k, k ∈ mAI → mlen k ≤ 5000 := by decide
    exact this k2 hk
  refine wr (show leaf < 400 from hl) (by decide) ?_
  refine loopW_of (fun s => ∃ j g1, s = (zI j, n, g1) ∧ j ≤ c ∧ (∀ k, k ≠ 16 → k ≠ 17 → g1 k = g k) ∧ g1 16 = upd (g 16) leaf (zI c) ∧ (∀ i, i < j → g1 17 (12 * leaf + i) = g k2 (a + i)) ∧ (∀ x, ¬ (12 * leaf ≤ x ∧ x < 12 * leaf + j) → g1 17 x = g 17 x)) (fun s => 20 - s.1.toNatClampNeg) ?_ _ ⟨0, _, rfl, Nat.zero_le _, fun k h1 h2 => if_neg h1, if_pos rfl, fun i hi => absurd hi (Nat.not_lt_zero i), fun x _ => rfl⟩
  rintro C s ⟨j, g1, rfl, hj, p1, p2, p3, p4⟩ hC
  refine ⟨fun z => ?_, fun z => ?_⟩
  · rw [zI_le (by omega) (by omega)] at z
    have : j = c := by omega
    subst this
    exact hK g1 ⟨p1, p2, p3, p4⟩
  · rw [zI_le (by omega) (by omega)] at z
    rw [zI_add, k12, zI_add]
    refine ⟨hk, rd (show a + j < mlen k2 by omega) (by omega) (wr (show 12 * leaf + j < 4800 by omega) (by decide) ?_)⟩
    rintro v rfl
    rw [show zI j + 1 = zI (j + 1) from zI_add j 1]
    have ev : g1 k2 (a + j) = g k2 (a + j) := by
      by_cases z : k2 = 17
      · rw [z]; exact p4 _ (by have := hd z; omega)
      · rw [p1 k2 hk2 z]
    refine hC _ ⟨j + 1, _, rfl, by omega, fun k h1 h2 => ?_, ?_, fun i hi => ?_, fun x hx => ?_⟩ ?_
    · show (if k = 17 then _ else g1 k) = _
      rw [if_neg h2]; exact p1 k h1 h2
    · exact p2
    · show (if (17 : Nat) = 17 then upd (g1 17) (12 * leaf + j) (g1 k2 (a + j)) else g1 17) (12 * leaf + i) = _
      rw [if_pos rfl]
      unfold upd
      by_cases y : i = j
      · rw [if_pos (by omega), y]; exact ev
      · rw [if_neg (by omega)]; exact p3 i (by omega)
    · show (if (17 : Nat) = 17 then upd (g1 17) (12 * leaf + j) (g1 k2 (a + j)) else g1 17) x = _
      rw [if_pos rfl]
      unfold upd
      rw [if_neg (by omega)]; exact p4 x (by omega)
    · show 20 - (zI (j + 1)).toNatClampNeg < 20 - (zI j).toNatClampNeg
      rw [zI_clamp (by omega), zI_clamp (by omega)]; omega
/-- the reference with separators S for the first ns leaves -/
def Z2.SP (g : Nat → Nat → Int32) (ns : Nat) (S : Nat → Key) : Prop := (∀ i, i < ns → g 16 i = zI (S i).length) ∧ (∀ i, i < ns → KA g 17 (12 * i) (S i)) ∧ (∀ i, i < 400 → ∃ q, q ≤ 12 ∧ g 16 i = zI q)
theorem Z2.SetsP.sp {g' : Nat → Nat → Int32} {leaf k2 a c ns : Nat} {S : Nat → Key} {x : Key} (h : SetsP g g' leaf k2 a c) (H : SP g ns S) (hv : ∀ i, i < ns → (S i).length ≤ 12) (hc : c = x.length) (hc12 : c ≤ 12) (hx : KA g k2 a x) : SP g' ns (stt S leaf x) := by
  obtain ⟨p1, p2, p3, p4⟩ := h
  obtain ⟨h1, h2, h3⟩ := H
  refine ⟨fun i hi => ?_, fun i hi => ?_, fun i hi => ?_⟩
  · rw [p2]
    unfold upd stt
    by_cases z : i = leaf
    · rw [if_pos z, if_pos z, hc]
    · rw [if_neg z, if_neg z]; exact h1 i hi
  · unfold stt
    by_cases z : i = leaf
    · rw [if_pos z, z]
      intro j hj
      rw [p3 j (by omega)]; exact hx j hj
    · rw [if_neg z]
      intro j hj
      have := hv i hi
      rw [p4 _ (by omega)]; exact h2 i hi j hj
  · rw [p2]
    unfold upd
    by_cases z : i = leaf
    · rw [if_pos z]; exact ⟨c, hc12, rfl⟩
    · rw [if_neg z]; exact h3 i hi
theorem Z2.MT.sp (M : MT n g T) : SP g (T.m 0 - 1) T.S := ⟨fun i hi => M.ss i (by omega), fun i hi => M.sb i (by omega), M.jk⟩
/-- a tree whose pages or separators differ, by what changed -/
theorem Z2.MT.mk2 {n' : Nat → Int32} {g' : Nat → Nat → Int32} {U : Tr} (cap : n' 5 = zI U.cap) (cn : n' 9 = zI U.n) (ch : n' 13 = zI U.h) (sz : ∀ i, i < U.n → g' 10 i = zI (U.ks i).length) (kb : ∀ i, i < U.n → KA g' 11 (12 * i) (U.ks i)) (vs : ∀ i, i < U.n → g' 12 i = U.vs i) (m : ∀ t, t < U.h → g' 14 t = zI (U.m t)) (pt : ∀ t, t < U.h → ∀ q, q < U.m t → g' 15 (400 * t + q) = zI (U.E t q - st (U.E t) q)) (s : SP g' (U.m 0 - 1) U.S) : MT n' g' U :=
  ⟨cap, cn, ch, sz, kb, vs, m, pt, fun i hi => s.1 i (by omega), fun i hi => s.2.1 i (by omega), s.2.2⟩
/-- separates: with T's entries, firsts of leaves as T has them -/
theorem Z2.s9_separates (M : MT n g T) (hh : T.h ≤ 12) (h1 : 1 ≤ T.h) (hm : T.m 0 ≤ 400) (hle : ∀ q, q < T.m 0 → st (T.E 0) q ≤ T.E 0 q) (hn : T.n ≤ 300) (hv : ∀ i, i < T.n → VK (T.ks i)) {leaf : Nat} (hl : leaf < T.m 0) (hc1 : 1 ≤ T.E 0 leaf) (hc2 : T.E 0 leaf < T.n) (hlt : klt (T.ks (T.E 0 leaf - 1)) (T.ks (T.E 0 leaf))) {K : (Nat → Int32) → (Nat → Nat → Int32) → Prop}
    (hK : ∀ g', (∀ k, k ≠ 16 → k ≠ 17 → g' k = g k) → (∀ ns S, SP g ns S → (∀ i, i < ns → (S i).length ≤ 12) → SP g' ns (stt S leaf (sp (T.ks (T.E 0 leaf - 1)) (T.ks (T.E 0 leaf))))) → K n g') : wp_X9_separates (zI leaf) n g K := by
  have e1 : zI leaf + 1 = zI (leaf + 1) := zI_add leaf 1
  unfold wp_X9_separates
  rw [e1]
  refine s9_firstOfG M (t := 0) (by omega) hh hm hle (by omega) ?_
  rw [st_succ]
  generalize hE : T.E 0 leaf = c at *
  rw [show zI c - 1 = zI (c - 1) from zI_sub hc1]
  refine rd (show c - 1 < 300 by omega) (by decide) (rd (show c < 300 by omega) (by decide) ?_)
  rw [show g 10 (c - 1) = zI (T.ks (c - 1)).length from M.sz _ (by omega), show g 10 c = zI (T.ks c).length from M.sz _ hc2, k12, k12]
  have v1 := (hv (c - 1) (by omega)).1
  have v2 := (hv c hc2).1
  refine s9_shared (M.kb _ (by omega)) (M.kb _ hc2) v1 v2 (by decide) (by decide) (show 12 * (c - 1) + _ ≤ 3600 by omega) (show 12 * c + _ ≤ 3600 by omega) (by omega) (by omega) ?_
  rintro v rfl
  have hsl := sp_len hlt
  have hsl2 : (sp (T.ks (c - 1)) (T.ks c)).length ≤ (T.ks c).length := by unfold sp; rw [List.length_take]; omega
  rw [sh_comm, show zI (sh (T.ks c) (T.ks (c - 1))) + 1 = zI (sh (T.ks c) (T.ks (c - 1)) + 1) from zI_add _ 1, ← hsl]
  refine s9_sets (by omega) (by decide) (by decide) (by omega) (show 12 * c + _ ≤ 3600 by omega) (fun z => by cases z) (fun g' P => hK g' P.1 (fun ns S H hv => P.sp H hv rfl (by omega) (fun j hj => ?_)))
  have : (sp (T.ks (c - 1)) (T.ks c)).getD j 0 = (T.ks c).getD j 0 := take_getD _ _ _ (by rw [hsl] at hj; exact hj)
  rw [this]
  exact M.kb c hc2 j (by omega)
end
