/-! the reference: removals, cursors that move -/
def Z2.cuDel (cu : Nat → Option Nat) (pos : Nat) : Nat → Option Nat := fun i => match cu i with | none => none | some j => some (if j ≤ pos then j else j - 1)
def Z2.cuIns (cu : Nat → Option Nat) (pos : Nat) : Nat → Option Nat := fun i => match cu i with | none => none | some j => some (if j < pos then j else j + 1)
def Z2.Tr.remN : Nat → Tr → Nat → Tr
  | 0, T, _ => T
  | k + 1, T, p => (Tr.remN k T p).remove p
def Z2.cuDelN : Nat → (Nat → Option Nat) → Nat → (Nat → Option Nat)
  | 0, cu, _ => cu
  | k + 1, cu, p => cuDel (cuDelN k cu p) p
theorem Z2.cuDel_le {cu : Nat → Option Nat} {N pos : Nat} (hb : ∀ i j, i < 4 → cu i = some j → j ≤ N) (hp : pos < N) : ∀ i j, i < 4 → cuDel cu pos i = some j → j ≤ N - 1 := fun i j hi h => by
  have a := fun j => hb i j hi
  unfold cuDel at h
  generalize cu i = c at *
  cases c with
  | none => cases h
  | some q =>
    have := a q rfl
    have h : some (if q ≤ pos then q else q - 1) = some j := h
    injection h with h
    by_cases y : q ≤ pos
    · rw [if_pos y] at h; omega
    · rw [if_neg y] at h; omega
theorem Z2.cuIns_le {cu : Nat → Option Nat} {N pos : Nat} (hb : ∀ i j, i < 4 → cu i = some j → j ≤ N) : ∀ i j, i < 4 → cuIns cu pos i = some j → j ≤ N + 1 := fun i j hi h => by
  have a := fun j => hb i j hi
  unfold cuIns at h
  generalize cu i = c at *
  cases c with
  | none => cases h
  | some q =>
    have := a q rfl
    have h : some (if q < pos then q else q + 1) = some j := h
    injection h with h
    by_cases y : q < pos
    · rw [if_pos y] at h; omega
    · rw [if_neg y] at h; omega
theorem Z2.CuR.del {g g' : Nat → Nat → Int32} {cu : Nat → Option Nat} {N pos : Nat} (C : CuR g cu) (hN : N ≤ 300) (hb : ∀ i j, i < 4 → cu i = some j → j ≤ N) (hp : pos < 1000) (h : ∀ i, i < 4 → g' 18 i = if g 18 i ≤ zI pos then g 18 i else g 18 i - 1) : CuR g' (cuDel cu pos) := fun i hi => by
  rw [h i hi, C i hi]
  have a := fun j => hb i j hi
  unfold cuDel
  generalize cu i = c at *
  cases c with
  | none =>
    have : (-2 : Int32) ≤ zI pos := by rw [Int32.le_iff_toInt_le, zI_toInt (by omega)]; have e1 : (-2 : Int32).toInt = -2 := rfl; omega
    exact if_pos this
  | some q =>
    have := a q rfl
    show (if zI q ≤ zI pos then zI q else zI q - 1) = zI (if q ≤ pos then q else q - 1)
    by_cases y : q ≤ pos
    · rw [if_pos y, if_pos ((zI_le (by omega) (by omega)).mpr y)]
    · rw [if_neg y, if_neg (fun z => y ((zI_le (by omega) (by omega)).mp z))]
      exact zI_sub (show 1 ≤ q by omega)
theorem Z2.CuR.ins {g g' : Nat → Nat → Int32} {cu : Nat → Option Nat} {N pos : Nat} (C : CuR g cu) (hN : N ≤ 300) (hb : ∀ i j, i < 4 → cu i = some j → j ≤ N) (hp : pos < 1000) (h : ∀ i, i < 4 → g' 18 i = if g 18 i < zI pos then g 18 i else g 18 i + 1) : CuR g' (cuIns cu pos) := fun i hi => by
  rw [h i hi, C i hi]
  have a := fun j => hb i j hi
  unfold cuIns
  generalize cu i = c at *
  cases c with
  | none =>
    have : (-2 : Int32) < zI pos := by rw [Int32.lt_iff_toInt_lt, zI_toInt (by omega)]; have e1 : (-2 : Int32).toInt = -2 := rfl; omega
    exact if_pos this
  | some q =>
    have := a q rfl
    show (if zI q < zI pos then zI q else zI q + 1) = zI (if q < pos then q else q + 1)
    by_cases y : q < pos
    · rw [if_pos y, if_pos ((zI_lt (by omega) (by omega)).mpr y)]
    · rw [if_neg y, if_neg (fun z => y ((zI_lt (by omega) (by omega)).mp z))]
      exact zI_add q 1
theorem Z2.BT.remove {T : Tr} (B : BT T) {pos : Nat} (hp : pos < T.n) : BT (T.remove pos) ∧ (T.remove pos).n = T.n - 1 ∧ (T.remove pos).ks = del T.ks pos ∧ (T.remove pos).vs = del T.vs pos ∧ (T.remove pos).cap = T.cap ∧ (T.remove pos).m 0 ≤ T.m 0 := by
  obtain ⟨a, b, c, d⟩ := Tr.remove_spec B.im hp
  have m4 := B.m4
  have h12 := B.h12
  exact ⟨BT.mk a (by omega) (by omega), b.n, b.ks, b.vs, b.cap, c⟩
theorem Z2.BT.remN {T : Tr} (B : BT T) {p : Nat} : ∀ k, k + p ≤ T.n → BT (Tr.remN k T p) ∧ (Tr.remN k T p).n = T.n - k ∧ (∀ i, (Tr.remN k T p).ks i = if i < p then T.ks i else T.ks (i + k)) ∧ (∀ i, (Tr.remN k T p).vs i = if i < p then T.vs i else T.vs (i + k)) ∧ (Tr.remN k T p).cap = T.cap ∧ (Tr.remN k T p).m 0 ≤ T.m 0 := by
  intro k
  induction k with
  | zero => intro _; exact ⟨B, rfl, fun i => by split <;> rfl, fun i => by split <;> rfl, rfl, Nat.le_refl _⟩
  | succ k ih =>
    intro hk
    obtain ⟨a1, a2, a3, a4, a5, a6⟩ := ih (by omega)
    obtain ⟨b1, b2, b3, b4, b5, b6⟩ := a1.remove (pos := p) (by rw [a2]; omega)
    refine ⟨b1, ?_, fun i => ?_, fun i => ?_, b5.trans a5, Nat.le_trans b6 a6⟩
    · show ((Tr.remN k T p).remove p).n = _
      rw [b2, a2]; omega
    · show ((Tr.remN k T p).remove p).ks i = _
      rw [b3]
      by_cases y : i < p
      · rw [del_lt _ y, a3, if_pos y, if_pos y]
      · rw [del_ge _ (by omega), a3, if_neg (by omega), if_neg y, show i + 1 + k = i + (k + 1) by omega]
    · show ((Tr.remN k T p).remove p).vs i = _
      rw [b4]
      by_cases y : i < p
      · rw [del_lt _ y, a4, if_pos y, if_pos y]
      · rw [del_ge _ (by omega), a4, if_neg (by omega), if_neg y, show i + 1 + k = i + (k + 1) by omega]
theorem Z2.cuDelN_le {cu : Nat → Option Nat} {N p : Nat} (hb : ∀ i j, i < 4 → cu i = some j → j ≤ N) : ∀ k, k + p ≤ N → ∀ i j, i < 4 → cuDelN k cu p i = some j → j ≤ N - k := by
  intro k
  induction k with
  | zero => intro _; exact hb
  | succ k ih =>
    intro hk i j hi h
    have := cuDel_le (N := N - k) (pos := p) (ih (by omega)) (by omega) i j hi h
    omega
section
variable {n : Nat → Int32} {g : Nat → Nat → Int32} {T : Z2.Tr} {cu : Nat → Option Nat} {ky bd : Z2.Key}
theorem Z2.s9_remove (M : MT n g T) (B : BT T) (Q : CT n T) (hk : KA g 2 0 ky) (vx : VK ky) (N1 : n 1 = zI ky.length) {K : Int32 → (Nat → Int32) → (Nat → Nat → Int32) → Prop} (h1 : ¬ (T.less ky < T.n ∧ T.ks (T.less ky) = ky) → K 0 (upd n 0 1) g) (h0 : T.less ky < T.n → T.ks (T.less ky) = ky → ∀ n' g', MT n' g' (T.remove (T.less ky)) → CT n' (T.remove (T.less ky)) → Kq n n' g g' → n' 0 = 0 → (∀ i, i < 4 → g' 18 i = if g 18 i ≤ zI (T.less ky) then g 18 i else g 18 i - 1) → K (T.vs (T.less ky)) n' g') : wp_X9_remove n g K := by
  have hl : T.less ky ≤ T.n := ff_le _ _
  have hn := B.im.n3
  unfold wp_X9_remove
  rw [N1]
  refine s9_less M B hk vx (by decide) (by decide) (s9_isThere M B hl hk vx N1 ?_)
  by_cases y : T.less ky < T.n ∧ T.ks (T.less ky) = ky
  · rw [if_pos y]
    refine ⟨fun z => absurd z (by decide), fun _ => s9_removes M B Q y.1 (fun n' g' a b c _ e => ?_)⟩
    rintro n2 rfl
    exact h0 y.1 y.2 _ g' (MTf.mk a.cap a.cn a.ch a.sz a.kb a.vs a.m a.pt a.ss a.sb a.jk) b ⟨fun k x0 x1 x2 x3 x4 x5 => by unfold upd; rw [if_neg x0]; exact c.1 k x0 x1 x2 x3 x4 x5, c.2⟩ rfl e
  · rw [if_neg y]
    refine ⟨fun _ => ?_, fun z => absurd rfl z⟩
    rintro n1 rfl
    exact h1 y
theorem Z2.s9_removeRange (M : MT n g T) (B : BT T) (Q : CT n T) (C : CuR g cu) (hb : ∀ i j, i < 4 → cu i = some j → j ≤ T.n) (hk : KA g 2 0 ky) (vx : VK ky) (N1 : n 1 = zI ky.length) (hk4 : KA g 4 0 bd) (vb : VK bd) (N3 : n 3 = zI bd.length) {K : Int32 → (Nat → Int32) → (Nat → Nat → Int32) → Prop} (hK : ∀ n' g', MT n' g' (Tr.remN (T.less ky - T.less bd) T (T.less bd)) → CT n' (Tr.remN (T.less ky - T.less bd) T (T.less bd)) → Kq n n' g g' → n' 0 = 0 → CuR g' (cuDelN (T.less ky - T.less bd) cu (T.less bd)) → K (zI (T.less ky - T.less bd)) n' g') : wp_X9_removeRange n g K := by
  obtain ⟨l1, l2, l3⟩ := Tr.IM.less_at B.im ky
  obtain ⟨q1, q2, q3⟩ := Tr.IM.less_at B.im bd
  have hn := B.im.n3
  unfold wp_X9_removeRange
  rw [N3]
  refine s9_less M B hk4 vb (by decide) (by decide) ?_
  generalize hp : T.less bd = p at *
  generalize hL : T.less ky = L at *
  refine loopW_of (fun s => ∃ j n1 g1, s = (zI j, n1, g1) ∧ j ≤ L - p ∧ MT n1 g1 (Tr.remN j T p) ∧ CT n1 (Tr.remN j T p) ∧ Kq n n1 g g1 ∧ CuR g1 (cuDelN j cu p)) (fun s => 400 - s.1.toNatClampNeg) ?_ _ ⟨0, n, g, rfl, Nat.zero_le _, M, Q, ⟨fun _ _ _ _ _ _ _ => rfl, fun _ _ _ _ _ _ _ _ _ => rfl⟩, C⟩
  rintro W s ⟨j, n1, g1, rfl, hj, M1, Q1, F1, C1⟩ hW
  obtain ⟨r1, r2, r3, r4, r5, r6⟩ := B.remN (p := p) j (by omega)
  have e9 : n1 9 = zI (Tr.remN j T p).n := M1.cn
  have hb1 := cuDelN_le (p := p) hb j (by omega)
  have fin : j = L - p → wp_X9_removeRange_51 (zI j) n1 g1 K := fun e => by
    subst e
    rintro n2 rfl
    exact hK _ g1 (MTf.mk M1.cap M1.cn M1.ch M1.sz M1.kb M1.vs M1.m M1.pt M1.ss M1.sb M1.jk) Q1 ⟨fun k x0 x1 x2 x3 x4 x5 => by unfold upd; rw [if_neg x0]; exact F1.1 k x0 x1 x2 x3 x4 x5, F1.2⟩ rfl C1
  refine ⟨fun z => ?_, fun z => ?_⟩
  · rw [e9, r2, zI_le (by omega) (by omega)] at z
    exact fin (by omega)
  · rw [e9, r2, zI_le (by omega) (by omega)] at z
    have x1 : n1 1 = zI ky.length := by rw [F1.1 1 (by decide) (by decide) (by decide) (by decide) (by decide) (by decide)]; exact N1
    have x2 : KA g1 2 0 ky := fun i hi => by rw [F1.2 2 (by decide) (by decide) (by decide) (by decide) (by decide) (by decide) (by decide) (by decide)]; exact hk i hi
    rw [x1]
    refine s9_against M1 r1 (i := p) (by rw [r2]; omega) x2 vx (by decide) (by decide) (fun r hr1 hr2 => ?_)
    have ek : (Tr.remN j T p).ks p = T.ks (p + j) := by rw [r3, if_neg (Nat.lt_irrefl p)]
    rw [ek] at hr1
    refine ⟨fun y => fin ?_, fun y => ?_⟩
    · have hnl : ¬ klt (T.ks (p + j)) ky := fun h => Int32.not_le.mpr (hr1.mpr h) y
      rcases Nat.lt_or_ge j (L - p) with w | w
      · exact absurd (l2 (p + j) (by omega)) hnl
      · omega
    · have hlt : klt (T.ks (p + j)) ky := hr1.mp (Int32.not_le.mp y)
      have hjL : j < L - p := by
        rcases Nat.lt_or_ge (p + j) L with w | w
        · omega
        · exact absurd hlt (l3 _ w (by omega))
      refine s9_removes M1 r1 Q1 (pos := p) (by rw [r2]; omega) (fun n' g' a b c _ e => ?_)
      rintro v rfl
      rw [show zI j + 1 = zI (j + 1) from zI_add j 1]
      refine hW _ ⟨j + 1, n', g', rfl, by omega, a, b, ⟨fun k x0 x1 x2 x3 x4 x5 => (c.1 k x0 x1 x2 x3 x4 x5).trans (F1.1 k x0 x1 x2 x3 x4 x5), fun k x0 x1 x2 x3 x4 x5 x6 x7 => (c.2 k x0 x1 x2 x3 x4 x5 x6 x7).trans (F1.2 k x0 x1 x2 x3 x4 x5 x6 x7)⟩, C1.del (N := T.n - j) (by omega) hb1 (by omega) e⟩ ?_
      show 400 - (zI (j + 1)).toNatClampNeg < 400 - (zI j).toNatClampNeg
      rw [zI_clamp (by omega), zI_clamp (by omega)]; omega
theorem Z2.s9_select (M : MT n g T) (B : BT T) {x : Int32} {K : Int32 → (Nat → Int32) → (Nat → Nat → Int32) → Prop} (h1 : (∀ i, i < T.n → x ≠ zI i) → K 0 (upd n 0 1) g) (h0 : ∀ i, i < T.n → x = zI i → ∀ g', KA g' 2 0 (T.ks i) → (∀ k, k ≠ 2 → g' k = g k) → K (T.vs i) (upd (upd n 1 (zI (T.ks i).length)) 0 0) g') : wp_X9_select x n g K := by
  have hn := B.im.n3
  have e9 : n 9 = zI T.n := M.cn
  refine s9_in (fun z => ⟨fun _ => ?_, fun y => absurd rfl y⟩) (fun a b => ⟨fun y => absurd y (by decide), fun _ => ?_⟩)
  · rintro n1 rfl
    refine h1 (fun i hi e => z ?_)
    rw [e, e9, show zI T.n - 1 = zI (T.n - 1) from zI_sub (show 1 ≤ T.n by omega), show (0 : Int32) = zI 0 from rfl, zI_le (by omega) (by omega), zI_le (by omega) (by omega)]; omega
  · rcases Nat.eq_zero_or_pos T.n with z | z
    · rw [e9, z] at b
      exact absurd (Int32.le_trans a b) (by decide)
    · rw [e9, show zI T.n - 1 = zI (T.n - 1) from zI_sub (show 1 ≤ T.n by omega)] at b
      obtain ⟨i, hi, e⟩ := asZ (by omega) a b
      subst e
      exact s9_keyIs M hn B.im.vk (by omega) (h0 i (by omega) rfl)
end
