/-! the reference: keys and cursors -/
def Z2.cR (c : Option Nat) : Int32 := match c with | none => -2 | some j => zI j
def Z2.CuR (g : Nat → Nat → Int32) (cu : Nat → Option Nat) : Prop := ∀ i, i < 4 → g 18 i = cR (cu i)
theorem Z2.zI_ne_m2 {j : Nat} (h : j < 2147483648) : ¬ zI j = (-2 : Int32) := fun e => by
  have := congrArg Int32.toInt e
  rw [zI_toInt h] at this
  have e1 : (-2 : Int32).toInt = -2 := rfl
  omega
section
variable {n : Nat → Int32} {g : Nat → Nat → Int32} {T : Z2.Tr} {cu : Nat → Option Nat} {ky : Z2.Key}
theorem Z2.s9_isCursor {x : Int32} {K : Int32 → Prop} (h0 : (∀ i, i < 4 → x ≠ zI i) → K 0) (h1 : ∀ i, i < 4 → x = zI i → K 1) : wp_X9_isCursor x n g K := by
  refine s9_in (fun z => ⟨Or.inl rfl, h0 (fun i hi e => z ?_)⟩) (fun a b => ⟨Or.inr rfl, ?_⟩)
  · rw [e, show (0 : Int32) = zI 0 from rfl, show (3 : Int32) = zI 3 from rfl, zI_le (by omega) (by omega), zI_le (by omega) (by omega)]; omega
  · obtain ⟨i, hi, e⟩ := asZ (N := 3) (by decide) a b
    exact h1 i (by omega) e
theorem Z2.s9_lacks (hn : T.n ≤ 300) (N9 : n 9 = zI T.n) (C : CuR g cu) (hb : ∀ i j, i < 4 → cu i = some j → j ≤ T.n) {x : Int32} {K : Int32 → Prop} (h1 : (∀ i, i < 4 → x ≠ zI i) → K 1) (h2 : ∀ i, i < 4 → x = zI i → cu i = none → K 2) (h3 : ∀ i, i < 4 → x = zI i → cu i = some T.n → K 3) (h0 : ∀ i j, i < 4 → x = zI i → cu i = some j → j < T.n → K 0) : wp_X9_lacks x n g K := by
  refine s9_isCursor (fun z => ⟨fun y => absurd rfl y, fun _ => h1 z⟩) (fun i hi e => ⟨fun _ => ?_, fun y => absurd y (by decide)⟩)
  subst e
  refine rd (show i < 4 from hi) (by decide) ?_
  rw [C i hi]
  have hbi := fun j => hb i j hi
  have e2 := h2 i hi rfl
  have e3 := h3 i hi rfl
  have e0 := fun j => h0 i j hi rfl
  have hC := C i hi
  generalize cu i = c at *
  cases c with
  | none => exact ⟨fun y => absurd rfl y, fun _ => e2 rfl⟩
  | some j =>
    have hj := hbi j rfl
    refine ⟨fun _ => rd (show i < 4 from hi) (by decide) ?_, fun y => absurd y (zI_ne_m2 (show j < 2147483648 by omega))⟩
    rw [hC, N9]
    refine ⟨fun y => ?_, fun y => ?_⟩
    · have y : ¬ zI j = zI T.n := y
      rw [zI_inj (by omega) (by omega)] at y
      exact e0 j rfl (by omega)
    · have y : zI j = zI T.n := y
      rw [zI_inj (by omega) (by omega)] at y
      exact e3 (by rw [y])
theorem Z2.s9_keyIs (M : MT n g T) (hn : T.n ≤ 300) (hv : ∀ i, i < T.n → VK (T.ks i)) {i : Nat} (hi : i < T.n) {K : Int32 → (Nat → Int32) → (Nat → Nat → Int32) → Prop} (hK : ∀ g', KA g' 2 0 (T.ks i) → (∀ k, k ≠ 2 → g' k = g k) → K (T.vs i) (upd (upd n 1 (zI (T.ks i).length)) 0 0) g') : wp_X9_keyIs (zI i) n g K := by
  have v1 := (hv i hi).1
  have es : g 10 i = zI (T.ks i).length := M.sz i hi
  have ev : g 12 i = T.vs i := M.vs i hi
  have ek : KA g 11 (12 * i) (T.ks i) := M.kb i hi
  refine rd (show i < 300 by omega) (by decide) ?_
  rw [es]
  rintro n1 rfl
  refine loopW_of (fun s => ∃ j g1, s = (zI j, upd n 1 (zI (T.ks i).length), g1) ∧ j ≤ (T.ks i).length ∧ (∀ k, k ≠ 2 → g1 k = g k) ∧ ∀ q, q < j → g1 2 q = (T.ks i).getD q 0) (fun s => 20 - s.1.toNatClampNeg) ?_ _ ⟨0, g, rfl, Nat.zero_le _, fun _ _ => rfl, fun q hq => absurd hq (Nat.not_lt_zero q)⟩
  rintro C s ⟨j, g1, rfl, hj, p1, p2⟩ hC
  have e1 : upd n 1 (zI (T.ks i).length) 1 = zI (T.ks i).length := upd_same _ _ _
  refine ⟨fun z => ?_, fun z => ?_⟩
  · rw [e1, zI_le (by omega) (by omega)] at z
    refine rd (show i < 300 by omega) (by decide) ?_
    rw [p1 12 (by decide), ev]
    rintro n2 rfl
    exact hK g1 (fun q hq => by rw [Nat.zero_add]; exact p2 q (by omega)) p1
  · rw [e1, zI_le (by omega) (by omega)] at z
    show vp_in ((12 : Int32) * zI i + zI j) (mlen 11) ∧ _
    rw [k12, zI_add]
    refine rd (show 12 * i + j < 3600 by omega) (by decide) (wr (show j < 12 by omega) (by decide) ?_)
    rw [p1 11 (by decide), ek j (by omega)]
    rintro v rfl
    rw [show zI j + 1 = zI (j + 1) from zI_add j 1]
    refine hC _ ⟨j + 1, _, rfl, by omega, fun k hk => by rw [mup_ne _ _ _ hk]; exact p1 k hk, fun q hq => ?_⟩ ?_
    · rw [mup_same]
      by_cases y : q = j
      · rw [y, upd_same]
      · rw [upd_ne _ _ y]; exact p2 q (by omega)
    · show 20 - (zI (j + 1)).toNatClampNeg < 20 - (zI j).toNatClampNeg
      rw [zI_clamp (by omega), zI_clamp (by omega)]; omega
theorem Z2.KA.snoc (h : KA g 2 0 ky) (x : Int32) : KA (mup g 2 ky.length x) 2 0 (ky ++ [x]) := fun i hi => by
  rw [List.length_append] at hi
  have hi : i < ky.length + 1 := hi
  rw [mup_same, Nat.zero_add]
  by_cases y : i = ky.length
  · rw [y, upd_same, List.getD_eq_getElem?_getD, List.getElem?_append_right (Nat.le_refl _), Nat.sub_self]; rfl
  · have := h i (by omega)
    rw [Nat.zero_add] at this
    rw [upd_ne _ _ y, this, List.getD_eq_getElem?_getD, List.getD_eq_getElem?_getD, List.getElem?_append_left (by omega)]
theorem Z2.s9_feed (N1 : n 1 = zI ky.length) (hl : ky.length ≤ 12) {x : Int32} {K : Int32 → (Nat → Int32) → (Nat → Nat → Int32) → Prop} (h1 : ¬ (0 ≤ x ∧ x ≤ 127) → K 0 (upd n 0 1) g) (h2 : 0 ≤ x → x ≤ 127 → ky.length = 12 → K 0 (upd n 0 2) g) (h0 : 0 ≤ x → x ≤ 127 → ky.length < 12 → K (zI (ky.length + 1)) (upd (upd n 1 (zI (ky.length + 1))) 0 0) (mup g 2 ky.length x)) : wp_X9_feed x n g K := by
  refine s9_in (fun z => ⟨fun y => absurd rfl y, fun _ => ?_⟩) (fun a b => ⟨fun _ => ⟨fun y => ?_, fun y => ?_⟩, fun y => absurd y (by decide)⟩)
  · rintro n1 rfl; exact h1 z
  · rw [N1, show (12 : Int32) = zI 12 from rfl, zI_inj (by omega) (by omega)] at y
    rw [N1]
    refine wr (show ky.length < 12 by omega) (by decide) ?_
    rw [show zI ky.length + 1 = zI (ky.length + 1) from zI_add _ 1]
    rintro n1 rfl n2 rfl
    exact h0 a b (by omega)
  · rw [N1, show (12 : Int32) = zI 12 from rfl, zI_inj (by omega) (by omega)] at y
    rintro n1 rfl; exact h2 a b y
theorem Z2.s9_keyByte (N1 : n 1 = zI ky.length) (hl : ky.length ≤ 12) (hk : KA g 2 0 ky) {x : Int32} {K : Int32 → (Nat → Int32) → (Nat → Nat → Int32) → Prop} (h1 : (∀ i, i < ky.length → x ≠ zI i) → K 0 (upd n 0 1) g) (h0 : ∀ i, i < ky.length → x = zI i → K (ky.getD i 0) (upd n 0 0) g) : wp_X9_keyByte x n g K := by
  refine s9_in (fun z => ⟨fun _ => ?_, fun y => absurd rfl y⟩) (fun a b => ⟨fun y => absurd y (by decide), fun _ => ?_⟩)
  · rintro n1 rfl
    refine h1 (fun i hi e => z ?_)
    rw [e, N1, show zI ky.length - 1 = zI (ky.length - 1) from zI_sub (show 1 ≤ ky.length by omega), show (0 : Int32) = zI 0 from rfl, zI_le (by omega) (by omega), zI_le (by omega) (by omega)]; omega
  · rcases Nat.eq_zero_or_pos ky.length with z | z
    · rw [N1, z] at b
      exact absurd (Int32.le_trans a b) (by decide)
    · rw [N1, show zI ky.length - 1 = zI (ky.length - 1) from zI_sub (show 1 ≤ ky.length by omega)] at b
      obtain ⟨i, hi, e⟩ := asZ (by omega) a b
      subst e
      refine rd (show i < 12 by omega) (by decide) ?_
      have := hk i (by omega)
      rw [Nat.zero_add] at this
      rw [this]
      rintro n1 rfl
      exact h0 i (by omega) rfl
theorem Z2.s9_cutKey (N1 : n 1 = zI ky.length) (hl : ky.length ≤ 12) {x : Int32} {K : Int32 → (Nat → Int32) → (Nat → Nat → Int32) → Prop} (h1 : (∀ i, i ≤ ky.length → x ≠ zI i) → K 0 (upd n 0 1) g) (h0 : ∀ i, i ≤ ky.length → x = zI i → K (zI ky.length) (upd (upd n 1 (zI i)) 0 0) g) : wp_X9_cutKey x n g K := by
  refine s9_in (fun z => ⟨fun y => absurd rfl y, fun _ => ?_⟩) (fun a b => ⟨fun _ => ?_, fun y => absurd y (by decide)⟩)
  · rintro n1 rfl
    refine h1 (fun i hi e => z ?_)
    rw [e, N1, show (0 : Int32) = zI 0 from rfl, zI_le (by omega) (by omega), zI_le (by omega) (by omega)]; omega
  · rw [N1] at b
    obtain ⟨i, hi, e⟩ := asZ (by omega) a b
    subst e
    rintro v rfl n1 rfl n2 rfl
    rw [N1]
    exact h0 i hi rfl
theorem Z2.s9_swapBound {K : Int32 → (Nat → Int32) → (Nat → Nat → Int32) → Prop} (hK : ∀ g', (∀ k, k ≠ 2 → k ≠ 4 → g' k = g k) → (∀ i, i < 12 → g' 2 i = g 4 i) → (∀ i, i < 12 → g' 4 i = g 2 i) → K (n 3) (upd (upd (upd n 1 (n 3)) 3 (n 1)) 0 0) g') : wp_X9_swapBound n g K := by
  refine loopW_of (fun s => ∃ j g1, s = (zI j, n, g1) ∧ j ≤ 12 ∧ (∀ k, k ≠ 2 → k ≠ 4 → g1 k = g k) ∧ (∀ i, g1 2 i = if i < j then g 4 i else g 2 i) ∧ ∀ i, g1 4 i = if i < j then g 2 i else g 4 i) (fun s => 20 - s.1.toNatClampNeg) ?_ _ ⟨0, g, rfl, Nat.zero_le _, fun _ _ _ => rfl, fun i => by rw [if_neg (Nat.not_lt_zero i)], fun i => by rw [if_neg (Nat.not_lt_zero i)]⟩
  rintro C s ⟨j, g1, rfl, hj, p1, p2, p3⟩ hC
  refine ⟨fun z => ?_, fun z => ?_⟩
  · rw [show (12 : Int32) = zI 12 from rfl, zI_le (by omega) (by omega)] at z
    rintro v rfl n1 rfl n2 rfl n3 rfl
    exact hK g1 p1 (fun i hi => by rw [p2, if_pos (by omega)]) (fun i hi => by rw [p3, if_pos (by omega)])
  · rw [show (12 : Int32) = zI 12 from rfl, zI_le (by omega) (by omega)] at z
    refine rd (show j < 12 by omega) (by decide) (rd (show j < 12 by omega) (by decide) (wr (show j < 12 by omega) (by decide) (wr (show j < 12 by omega) (by decide) ?_)))
    rw [p2, if_neg (Nat.lt_irrefl j), p3, if_neg (Nat.lt_irrefl j)]
    rintro v rfl
    rw [show zI j + 1 = zI (j + 1) from zI_add j 1]
    refine hC _ ⟨j + 1, _, rfl, by omega, fun k a b => by rw [mup_ne _ _ _ b, mup_ne _ _ _ a]; exact p1 k a b, fun i => ?_, fun i => ?_⟩ ?_
    · rw [mup_ne _ _ _ (by decide), mup_same]
      by_cases y : i = j
      · rw [y, upd_same, if_pos (by omega)]
      · rw [upd_ne _ _ y, p2]
        by_cases x : i < j
        · rw [if_pos x, if_pos (by omega)]
        · rw [if_neg x, if_neg (by omega)]
    · rw [mup_same]
      by_cases y : i = j
      · rw [y, upd_same, if_pos (by omega)]
      · rw [upd_ne _ _ y, mup_ne _ _ _ (by decide), p3]
        by_cases x : i < j
        · rw [if_pos x, if_pos (by omega)]
        · rw [if_neg x, if_neg (by omega)]
    · show 20 - (zI (j + 1)).toNatClampNeg < 20 - (zI j).toNatClampNeg
      rw [zI_clamp (by omega), zI_clamp (by omega)]; omega
theorem Z2.s9_get (M : MT n g T) (B : BT T) (hk : KA g 2 0 ky) (vx : VK ky) (N1 : n 1 = zI ky.length) {K : Int32 → (Nat → Int32) → (Nat → Nat → Int32) → Prop} (h1 : ¬ (T.less ky < T.n ∧ T.ks (T.less ky) = ky) → K 0 (upd n 0 1) g) (h0 : T.less ky < T.n → T.ks (T.less ky) = ky → K (T.vs (T.less ky)) (upd n 0 0) g) : wp_X9_get n g K := by
  have hl : T.less ky ≤ T.n := ff_le _ _
  have hn := B.im.n3
  unfold wp_X9_get
  rw [N1]
  refine s9_less M B hk vx (by decide) (by decide) (s9_isThere M B hl hk vx N1 ?_)
  by_cases y : T.less ky < T.n ∧ T.ks (T.less ky) = ky
  · rw [if_pos y]
    refine ⟨fun z => absurd z (by decide), fun _ => rd (show T.less ky < 300 by omega) (by decide) ?_⟩
    rw [show g 12 (T.less ky) = T.vs (T.less ky) from M.vs _ y.1]
    rintro n1 rfl
    exact h0 y.1 y.2
  · rw [if_neg y]
    refine ⟨fun _ => ?_, fun z => absurd rfl z⟩
    rintro n1 rfl
    exact h1 y
theorem Z2.s9_rank (M : MT n g T) (B : BT T) (hk : KA g 2 0 ky) (vx : VK ky) (N1 : n 1 = zI ky.length) {K : Int32 → (Nat → Int32) → (Nat → Nat → Int32) → Prop} (hK : K (zI (T.less ky)) (upd n 0 0) g) : wp_X9_rank n g K := by
  unfold wp_X9_rank
  rw [N1]
  refine s9_less M B hk vx (by decide) (by decide) ?_
  rintro n1 rfl
  exact hK
theorem Z2.s9_floor (M : MT n g T) (B : BT T) (hk : KA g 2 0 ky) (vx : VK ky) (N1 : n 1 = zI ky.length) {K : Int32 → (Nat → Int32) → (Nat → Nat → Int32) → Prop} (h1 : T.less ky = 0 → ¬ (0 < T.n ∧ T.ks 0 = ky) → K 0 (upd n 0 1) g)
    (h0 : ∀ i g', i < T.n → (i = if T.less ky < T.n ∧ T.ks (T.less ky) = ky then T.less ky else T.less ky - 1) → (T.less ky = 0 → 0 < T.n ∧ T.ks 0 = ky) → KA g' 2 0 (T.ks i) → (∀ k, k ≠ 2 → g' k = g k) → K (T.vs i) (upd (upd n 1 (zI (T.ks i).length)) 0 0) g') : wp_X9_floor n g K := by
  have hl : T.less ky ≤ T.n := ff_le _ _
  have hn := B.im.n3
  unfold wp_X9_floor
  rw [N1]
  refine s9_less M B hk vx (by decide) (by decide) (s9_isThere M B hl hk vx N1 ?_)
  by_cases y : T.less ky < T.n ∧ T.ks (T.less ky) = ky
  · rw [if_pos y]
    refine ⟨fun z => absurd z (by decide), fun _ => ⟨fun _ => ?_, fun z => absurd ?_ z⟩⟩
    · exact s9_keyIs M hn B.im.vk y.1 (fun g' a b => h0 _ g' y.1 (by rw [if_pos y]) (fun z => by rw [z] at y; exact y) a b)
    · rw [show (0 : Int32) = zI 0 from rfl, zI_le (by omega) (by omega)]; omega
  · rw [if_neg y]
    refine ⟨fun _ => ?_, fun z => absurd rfl z⟩
    rcases Nat.eq_zero_or_pos (T.less ky) with x | x
    · rw [x] at y
      rw [x]
      refine ⟨fun z => absurd z (by decide), fun _ => ?_⟩
      rintro n1 rfl
      exact h1 x y
    · rw [show zI (T.less ky) - 1 = zI (T.less ky - 1) from zI_sub (show 1 ≤ T.less ky by omega)]
      refine ⟨fun _ => ?_, fun z => absurd ?_ z⟩
      · exact s9_keyIs M hn B.im.vk (by omega) (fun g' a b => h0 _ g' (by omega) (by rw [if_neg y]) (fun z => by omega) a b)
      · rw [show (0 : Int32) = zI 0 from rfl, zI_le (by omega) (by omega)]; omega
end
