/-! the reference: cursors, what waits -/
section
variable {n : Nat → Int32} {g : Nat → Nat → Int32} {T : Z2.Tr} {cu : Nat → Option Nat} {ky : Z2.Key}
theorem Z2.CuR.put (C : CuR g cu) (i : Nat) (c : Option Nat) : CuR (mup g 18 i (cR c)) (stt cu i c) := fun q hq => by
  rw [mup_same]
  by_cases y : q = i
  · rw [y, upd_same, stt_same]
  · rw [upd_ne _ _ y, stt_ne _ _ y]; exact C q hq
theorem Z2.s9_open (M : MT n g T) (B : BT T) (hk : KA g 2 0 ky) (vx : VK ky) (N1 : n 1 = zI ky.length) {x : Int32} {K : Int32 → (Nat → Int32) → (Nat → Nat → Int32) → Prop} (h1 : (∀ i, i < 4 → x ≠ zI i) → K 0 (upd n 0 1) g) (h0 : ∀ i, i < 4 → x = zI i → K (if T.less ky < T.n then 1 else 0) (upd n 0 0) (mup g 18 i (zI (T.less ky)))) : wp_X9_open x n g K := by
  have hl : T.less ky ≤ T.n := ff_le _ _
  have hn := B.im.n3
  have e9 : n 9 = zI T.n := M.cn
  refine s9_isCursor (fun z => ⟨fun y => absurd rfl y, fun _ => ?_⟩) (fun i hi e => ⟨fun _ => ?_, fun y => absurd y (by decide)⟩)
  · rintro n1 rfl; exact ⟨Or.inl rfl, h1 z⟩
  · replace h0 := h0 i hi e
    subst e
    rw [N1]
    refine s9_less M B hk vx (by decide) (by decide) (wr (show i < 4 from hi) (by decide) (rd (show i < 4 from hi) (by decide) ?_))
    rw [mup_same, upd_same, e9]
    refine ⟨fun z => ?_, fun z => ?_⟩
    · rw [zI_le (by omega) (by omega)] at z
      rw [if_neg (show ¬ T.less ky < T.n by omega)] at h0
      rintro n1 rfl; exact ⟨Or.inl rfl, Or.inl rfl, h0⟩
    · rw [zI_le (by omega) (by omega)] at z
      rw [if_pos (show T.less ky < T.n by omega)] at h0
      rintro n1 rfl; exact ⟨Or.inr rfl, Or.inr rfl, h0⟩
theorem Z2.s9_close (C : CuR g cu) (hb : ∀ i j, i < 4 → cu i = some j → j ≤ 300) {x : Int32} {K : Int32 → (Nat → Int32) → (Nat → Nat → Int32) → Prop} (h1 : (∀ i, i < 4 → x ≠ zI i) → K 0 (upd n 0 1) g) (h0 : ∀ i, i < 4 → x = zI i → K (if cu i = none then 0 else 1) (upd n 0 0) (mup g 18 i (-2))) : wp_X9_close x n g K := by
  refine s9_isCursor (fun z => ⟨fun y => absurd rfl y, fun _ => ?_⟩) (fun i hi e => ⟨fun _ => ?_, fun y => absurd y (by decide)⟩)
  · rintro n1 rfl; exact ⟨Or.inl rfl, h1 z⟩
  · replace h0 := h0 i hi e
    subst e
    refine rd (show i < 4 from hi) (by decide) ?_
    rw [C i hi]
    have a := fun j => hb i j hi
    generalize cu i = c at *
    cases c with
    | none =>
      rw [if_pos rfl] at h0
      refine ⟨fun _ => wr (show i < 4 from hi) (by decide) ?_, fun y => absurd rfl y⟩
      rintro n1 rfl; exact ⟨Or.inl rfl, Or.inl rfl, h0⟩
    | some j =>
      have := a j rfl
      rw [if_neg (by intro h; cases h)] at h0
      refine ⟨fun y => absurd y (zI_ne_m2 (show j < 2147483648 by omega)), fun _ => wr (show i < 4 from hi) (by decide) ?_⟩
      rintro n1 rfl; exact ⟨Or.inr rfl, Or.inr rfl, h0⟩
theorem Z2.s9_advance (hn : T.n ≤ 300) (N9 : n 9 = zI T.n) (C : CuR g cu) (hb : ∀ i j, i < 4 → cu i = some j → j ≤ T.n) {x : Int32} {K : Int32 → (Nat → Int32) → (Nat → Nat → Int32) → Prop} (h1 : (∀ i, i < 4 → x ≠ zI i) → K 0 (upd n 0 1) g) (h2 : ∀ i, i < 4 → x = zI i → cu i = none → K 0 (upd n 0 2) g) (h3 : ∀ i, i < 4 → x = zI i → cu i = some T.n → K 0 (upd n 0 3) g) (h0 : ∀ i j, i < 4 → x = zI i → cu i = some j → j < T.n → K (if j + 1 < T.n then 1 else 0) (upd n 0 0) (mup g 18 i (zI (j + 1)))) : wp_X9_advance x n g K := by
  have bad : ∀ r : Int32, r ≠ 0 → K 0 (upd n 0 r) g → ((r = (0 : Int32) → vp_in x (mlen 18) ∧ ∀ v_8 : Int32, v_8 = g 18 (x).toNatClampNeg → vp_in x (mlen 18) ∧ ∀ g_10 : Nat → Nat → Int32, g_10 = mup g 18 (x).toNatClampNeg (v_8 + (1 : Int32)) → vp_in x (mlen 18) ∧ ∀ v_12 : Int32, v_12 = g_10 18 (x).toNatClampNeg → (((n 9) ≤ v_12 → wp_X9_advance_45 (0 : Int32) n g_10 K) ∧ (¬ ((n 9) ≤ v_12) → wp_X9_advance_45 (1 : Int32) n g_10 K))) ∧ (¬ (r = (0 : Int32)) → wp_X9_not r n g (fun r_14 n_16 g_17 => isB r_14 ∧ K r_14 n_16 g_17))) := fun r hr hK => ⟨fun y => absurd y hr, fun _ => by
    rintro n1 rfl; exact ⟨Or.inl rfl, hK⟩⟩
  refine s9_lacks hn N9 C hb (fun z => bad 1 (by decide) (h1 z)) (fun i hi e c => bad 2 (by decide) (h2 i hi e c)) (fun i hi e c => bad 3 (by decide) (h3 i hi e c)) (fun i j hi e c hj => ⟨fun _ => ?_, fun y => absurd rfl y⟩)
  replace h0 := h0 i j hi e c hj
  subst e
  refine rd (show i < 4 from hi) (by decide) (wr (show i < 4 from hi) (by decide) (rd (show i < 4 from hi) (by decide) ?_))
  have ev : g 18 i + 1 = zI (j + 1) := by rw [C i hi, c]; exact zI_add j 1
  rw [ev, mup_same, upd_same, N9]
  refine ⟨fun z => ?_, fun z => ?_⟩
  · rw [zI_le (by omega) (by omega)] at z
    rw [if_neg (show ¬ j + 1 < T.n by omega)] at h0
    rintro n1 rfl; exact ⟨Or.inl rfl, Or.inl rfl, h0⟩
  · rw [zI_le (by omega) (by omega)] at z
    rw [if_pos (show j + 1 < T.n by omega)] at h0
    rintro n1 rfl; exact ⟨Or.inr rfl, Or.inr rfl, h0⟩
theorem Z2.s9_retreat (M : MT n g T) (hn : T.n ≤ 300) (C : CuR g cu) (hb : ∀ i j, i < 4 → cu i = some j → j ≤ T.n) {x : Int32} {K : Int32 → (Nat → Int32) → (Nat → Nat → Int32) → Prop} (h1 : (∀ i, i < 4 → x ≠ zI i) → K 0 (upd n 0 1) g) (h2 : ∀ i, i < 4 → x = zI i → cu i = none → K 0 (upd n 0 2) g) (h3 : ∀ i, i < 4 → x = zI i → cu i = some 0 → K 0 (upd n 0 3) g) (h0 : ∀ i j, i < 4 → x = zI i → cu i = some (j + 1) → j < T.n → K (T.vs j) (upd n 0 0) (mup g 18 i (zI j))) : wp_X9_retreat x n g K := by
  have N9 : n 9 = zI T.n := M.cn
  have go : ∀ (i j : Nat) (r : Int32), i < 4 → x = zI i → cu i = some j → r ≠ 1 → r ≠ 2 → ((r = (1 : Int32) → wp_X9_retreat_16 r n g K) ∧
 (¬ (r = (1 : Int32)) → ((¬ r = (2 : Int32) → vp_in x (mlen 18) ∧ ∀ v_9 : Int32, v_9 = g 18 (x).toNatClampNeg → ((¬ v_9 = (0 : Int32) → vp_in x (mlen 18) ∧ ∀ v_12 : Int32, v_12 = g 18 (x).toNatClampNeg → vp_in x (mlen 18) ∧ ∀ g_14 : Nat → Nat → Int32, g_14 = mup g 18 (x).toNatClampNeg (v_12 - (1 : Int32)) → vp_in x (mlen 18) ∧ ∀ v_16 : Int32, v_16 = g_14 18 (x).toNatClampNeg → vp_in v_16 (mlen 12) ∧ ∀ v_18 : Int32, v_18 = g_14 12 (v_16).toNatClampNeg → wp_X9_done v_18 n g_14 (fun r_19 n_21 g_22 => K r_19 n_21 g_22)) ∧
 (v_9 = (0 : Int32) → wp_X9_fails (3 : Int32) n g (fun r_23 n_25 g_26 => K r_23 n_25 g_26)))) ∧
 (r = (2 : Int32) → wp_X9_retreat_16 r n g K)))) := fun i j r hi e c r1 r2 => by
    refine ⟨fun y => absurd y r1, fun _ => ⟨fun _ => ?_, fun y => absurd y r2⟩⟩
    have hj := hb i j hi c
    replace h3 := h3 i hi e
    replace h0 := fun q => h0 i q hi e
    subst e
    have ev : g 18 i = zI j := by rw [C i hi, c]; rfl
    refine rd (show i < 4 from hi) (by decide) ?_
    rw [ev]
    refine ⟨fun y => ?_, fun y => ?_⟩
    · rw [show (0 : Int32) = zI 0 from rfl, zI_inj (by omega) (by omega)] at y
      obtain ⟨q, rfl⟩ : ∃ q, j = q + 1 := ⟨j - 1, by omega⟩
      refine rd (show i < 4 from hi) (by decide) (wr (show i < 4 from hi) (by decide) (rd (show i < 4 from hi) (by decide) ?_))
      rw [ev, show zI (q + 1) - 1 = zI q from zI_sub (show 1 ≤ q + 1 by omega), mup_same, upd_same]
      refine rd (show q < 300 by omega) (by decide) ?_
      rw [mup_ne _ _ _ (by decide), show g 12 q = T.vs q from M.vs q (by omega)]
      rintro n1 rfl
      exact h0 q c (by omega)
    · rw [show (0 : Int32) = zI 0 from rfl, zI_inj (by omega) (by omega)] at y
      subst y
      rintro n1 rfl
      exact h3 c
  refine s9_lacks hn N9 C hb (fun z => ⟨fun _ => ?_, fun y => absurd rfl y⟩) (fun i hi e c => ⟨fun y => absurd y (by decide), fun _ => ⟨fun y => absurd rfl y, fun _ => ?_⟩⟩) (fun i hi e c => go i _ 3 hi e c (by decide) (by decide)) (fun i j hi e c hj => go i _ 0 hi e c (by decide) (by decide))
  · rintro n1 rfl; exact h1 z
  · rintro n1 rfl; exact h2 i hi e c
theorem Z2.s9_current (M : MT n g T) (B : BT T) (C : CuR g cu) (hb : ∀ i j, i < 4 → cu i = some j → j ≤ T.n) {x : Int32} {K : Int32 → (Nat → Int32) → (Nat → Nat → Int32) → Prop} (h1 : (∀ i, i < 4 → x ≠ zI i) → K 0 (upd n 0 1) g) (h2 : ∀ i, i < 4 → x = zI i → cu i = none → K 0 (upd n 0 2) g) (h3 : ∀ i, i < 4 → x = zI i → cu i = some T.n → K 0 (upd n 0 3) g) (h0 : ∀ i j, i < 4 → x = zI i → cu i = some j → j < T.n → ∀ g', KA g' 2 0 (T.ks j) → (∀ k, k ≠ 2 → g' k = g k) → K (T.vs j) (upd (upd n 1 (zI (T.ks j).length)) 0 0) g') : wp_X9_current x n g K := by
  have hn := B.im.n3
  have bad : ∀ r : Int32, r ≠ 0 → K 0 (upd n 0 r) g → ((r = (0 : Int32) → vp_in x (mlen 18) ∧ ∀ v_4 : Int32, v_4 = g 18 (x).toNatClampNeg → wp_X9_keyIs v_4 n g (fun r_5 n_7 g_8 => K r_5 n_7 g_8)) ∧ (¬ (r = (0 : Int32)) → wp_X9_fails r n g (fun r_9 n_11 g_12 => K r_9 n_11 g_12))) := fun r hr hK => ⟨fun y => absurd y hr, fun _ => by
    rintro n1 rfl; exact hK⟩
  refine s9_lacks hn M.cn C hb (fun z => bad 1 (by decide) (h1 z)) (fun i hi e c => bad 2 (by decide) (h2 i hi e c)) (fun i hi e c => bad 3 (by decide) (h3 i hi e c)) (fun i j hi e c hj => ⟨fun _ => ?_, fun y => absurd rfl y⟩)
  replace h0 := h0 i j hi e c hj
  subst e
  refine rd (show i < 4 from hi) (by decide) ?_
  rw [C i hi, c]
  exact s9_keyIs M hn B.im.vk hj h0
theorem Z2.s9_removeAt (M : MT n g T) (B : BT T) (Q : CT n T) (C : CuR g cu) (hb : ∀ i j, i < 4 → cu i = some j → j ≤ T.n) {x : Int32} {K : Int32 → (Nat → Int32) → (Nat → Nat → Int32) → Prop} (h1 : (∀ i, i < 4 → x ≠ zI i) → K 0 (upd n 0 1) g) (h2 : ∀ i, i < 4 → x = zI i → cu i = none → K 0 (upd n 0 2) g) (h3 : ∀ i, i < 4 → x = zI i → cu i = some T.n → K 0 (upd n 0 3) g) (h0 : ∀ i j, i < 4 → x = zI i → cu i = some j → j < T.n → ∀ n' g', MT n' g' (T.remove j) → CT n' (T.remove j) → Kq n n' g g' → n' 0 = 0 → CuR g' (cuDel cu j) → K (T.vs j) n' g') : wp_X9_removeAt x n g K := by
  have hn := B.im.n3
  have bad : ∀ r : Int32, r ≠ 0 → K 0 (upd n 0 r) g → ((r = (0 : Int32) → vp_in x (mlen 18) ∧ ∀ v_4 : Int32, v_4 = g 18 (x).toNatClampNeg → wp_X9_removes v_4 n g (fun r_5 n_7 g_8 => wp_X9_done r_5 n_7 g_8 (fun r_9 n_11 g_12 => K r_9 n_11 g_12))) ∧ (¬ (r = (0 : Int32)) → wp_X9_fails r n g (fun r_13 n_15 g_16 => K r_13 n_15 g_16))) := fun r hr hK => ⟨fun y => absurd y hr, fun _ => by
    rintro n1 rfl; exact hK⟩
  refine s9_lacks hn M.cn C hb (fun z => bad 1 (by decide) (h1 z)) (fun i hi e c => bad 2 (by decide) (h2 i hi e c)) (fun i hi e c => bad 3 (by decide) (h3 i hi e c)) (fun i j hi e c hj => ⟨fun _ => ?_, fun y => absurd rfl y⟩)
  replace h0 := h0 i j hi e c hj
  subst e
  refine rd (show i < 4 from hi) (by decide) ?_
  rw [C i hi, c]
  refine s9_removes M B Q hj (fun n' g' a b c2 _ e => ?_)
  rintro n2 rfl
  exact h0 _ g' (MTf.mk a.cap a.cn a.ch a.sz a.kb a.vs a.m a.pt a.ss a.sb a.jk) b ⟨fun k x0 x1 x2 x3 x4 x5 => by unfold upd; rw [if_neg x0]; exact c2.1 k x0 x1 x2 x3 x4 x5, c2.2⟩ rfl (C.del hn hb (by omega) e)
theorem Z2.s9_distance (C : CuR g cu) (hb : ∀ i j, i < 4 → cu i = some j → j ≤ 300) {x z : Int32} {K : Int32 → (Nat → Int32) → (Nat → Nat → Int32) → Prop} (h1 : (∀ i, i < 4 → x ≠ zI i) ∨ (∀ i, i < 4 → z ≠ zI i) → K 0 (upd n 0 1) g) (h2 : ∀ i q, i < 4 → q < 4 → x = zI i → z = zI q → cu i = none ∨ cu q = none → K 0 (upd n 0 2) g) (h0 : ∀ i q a b, i < 4 → q < 4 → x = zI i → z = zI q → cu i = some a → cu q = some b → K (zI b - zI a) (upd n 0 0) g) : wp_X9_distance x z n g K := by
  refine s9_isCursor (fun y => ⟨fun _ => ?_, fun y => absurd rfl y⟩) (fun i hi e => ⟨fun y => absurd y (by decide), fun _ => s9_isCursor (fun y => ⟨fun y => absurd rfl y, fun _ => ?_⟩) (fun q hq e2 => ⟨fun _ => ?_, fun y => absurd y (by decide)⟩)⟩)
  · rintro n1 rfl; exact h1 (Or.inl y)
  · rintro n1 rfl; exact h1 (Or.inr y)
  · replace h2 := h2 i q hi hq e e2
    replace h0 := fun a b => h0 i q a b hi hq e e2
    subst e e2
    refine rd (show i < 4 from hi) (by decide) ?_
    have e1 := C i hi
    have e2 := C q hq
    have b1 := fun j => hb i j hi
    have b2 := fun j => hb q j hq
    generalize cu i = c at *
    generalize cu q = d at *
    rw [e1]
    cases c with
    | none =>
      refine ⟨fun _ => ?_, fun y => absurd rfl y⟩
      rintro n1 rfl; exact h2 (Or.inl rfl)
    | some a =>
      have := b1 a rfl
      refine ⟨fun y => absurd y (zI_ne_m2 (show a < 2147483648 by omega)), fun _ => rd (show q < 4 from hq) (by decide) ?_⟩
      rw [e2]
      cases d with
      | none =>
        refine ⟨fun y => absurd rfl y, fun _ => ?_⟩
        rintro n1 rfl; exact h2 (Or.inr rfl)
      | some b =>
        have := b2 b rfl
        refine ⟨fun _ => rd (show q < 4 from hq) (by decide) (rd (show i < 4 from hi) (by decide) ?_), fun y => absurd y (zI_ne_m2 (show b < 2147483648 by omega))⟩
        rw [e1, e2]
        rintro n1 rfl; exact h0 a b rfl rfl
theorem Z2.s9_setCapacity (N9 : n 9 = zI T.n) (N5 : n 5 = zI T.cap) (hn : T.n ≤ 300) {x : Int32} {K : Int32 → (Nat → Int32) → (Nat → Nat → Int32) → Prop} (h1 : ¬ (64 ≤ x ∧ x ≤ 200) → K 0 (upd n 0 1) g) (h2 : 64 ≤ x → x ≤ 200 → 0 < T.n → K 0 (upd n 0 2) g) (h0 : ∀ c, 64 ≤ c → c ≤ 200 → x = zI c → T.n = 0 → K (zI T.cap) (upd (upd n 5 (zI c)) 0 0) g) : wp_X9_setCapacity x n g K := by
  refine s9_in (fun z => ⟨fun y => absurd rfl y, fun _ => ?_⟩) (fun a b => ⟨fun _ => ⟨fun y => ?_, fun y => ?_⟩, fun y => absurd y (by decide)⟩)
  · rintro n1 rfl; exact h1 z
  · rw [N9, show (0 : Int32) = zI 0 from rfl, zI_le (by omega) (by omega)] at y
    obtain ⟨c, hc, e⟩ := asZ (N := 200) (by decide) (Int32.le_trans (show (0 : Int32) ≤ 64 by decide) a) b
    rw [e, show (64 : Int32) = zI 64 from rfl, zI_le (by omega) (by omega)] at a
    rw [N5]
    rintro v rfl n1 rfl n2 rfl
    have := h0 c a hc e (by omega)
    rw [← e] at this
    exact this
  · rw [N9, show (0 : Int32) = zI 0 from rfl, zI_le (by omega) (by omega)] at y
    rintro n1 rfl; exact h2 a b (by omega)
theorem Z2.s9_queue {w : Nat} {wk : Nat → Key} {wv : Nat → Int32} (W : WG g w wk wv) (N19 : n 19 = zI w) (hw : w ≤ 300) (hv : ∀ i, i < w → VK (wk i)) (hk : KA g 2 0 ky) (vx : VK ky) (N1 : n 1 = zI ky.length) {v : Int32} {K : Int32 → (Nat → Int32) → (Nat → Nat → Int32) → Prop} (h1 : w = 300 ∨ (0 < w ∧ ¬ klt (wk (w - 1)) ky) → K 0 (upd n 0 1) g) (h0 : w < 300 → (0 < w → klt (wk (w - 1)) ky) → ∀ g', WG g' (w + 1) (stt wk w ky) (stt wv w v) → (∀ k, k ≠ 20 → k ≠ 21 → k ≠ 22 → g' k = g k) → K (zI (w + 1)) (upd (upd n 19 (zI (w + 1))) 0 0) g') : wp_X9_queue v n g K := by
  obtain ⟨w1, w2, w3⟩ := W
  have lk := vx.1
  have bad : K 0 (upd n 0 1) g → wp_X9_queue_66 n g K := fun h => by rintro n1 rfl; exact h
  have good : (0 < w → klt (wk (w - 1)) ky) → wp_X9_queue_51 v 1 n g K := fun h => by
    refine ⟨fun y => ?_, fun y => ⟨fun _ => ?_, fun y => absurd y (by decide)⟩⟩
    · rw [N19, show (300 : Int32) = zI 300 from rfl, zI_inj (by omega) (by omega)] at y
      exact bad (h1 (Or.inl y))
    · rw [N19, show (300 : Int32) = zI 300 from rfl, zI_inj (by omega) (by omega)] at y
      rw [N19]
      refine wr (show w < 300 by omega) (by decide) (wr (show w < 300 by omega) (by decide) ?_)
      rw [N1]
      refine loopW_of (fun s => ∃ j g1, s = (zI j, n, g1) ∧ j ≤ ky.length ∧ (∀ k, k ≠ 21 → g1 k = mup (mup g 20 w (zI ky.length)) 22 w v k) ∧ (∀ x, ¬ (12 * w ≤ x ∧ x < 12 * w + j) → g1 21 x = g 21 x) ∧ ∀ i, i < j → g1 21 (12 * w + i) = ky.getD i 0) (fun s => 20 - s.1.toNatClampNeg) ?_ _ ⟨0, _, rfl, Nat.zero_le _, fun _ _ => rfl, fun x _ => by rw [mup_ne _ _ _ (by decide), mup_ne _ _ _ (by decide)], fun i hi => absurd hi (Nat.not_lt_zero i)⟩
      rintro C s ⟨j, g1, rfl, hj, p1, p2, p3⟩ hC
      refine ⟨fun z => ?_, fun z => ?_⟩
      · rw [N1, zI_le (by omega) (by omega)] at z
        rintro n1 rfl n2 rfl
        rw [N19, show zI w + 1 = zI (w + 1) from zI_add w 1]
        refine h0 (by omega) h g1 ⟨fun i hi => ?_, fun i hi q hq => ?_, fun i hi => ?_⟩ (fun k x0 x1 x2 => by rw [p1 k x1, mup_ne _ _ _ x2, mup_ne _ _ _ x0])
        · rw [p1 20 (by decide), mup_ne _ _ _ (by decide), mup_same]
          by_cases x : i = w
          · rw [x, upd_same, stt_same]
          · rw [upd_ne _ _ x, stt_ne _ _ x]; exact w1 i (by omega)
        · by_cases x : i = w
          · subst x
            rw [stt_same] at hq ⊢
            exact p3 q (by omega)
          · rw [stt_ne _ _ x] at hq ⊢
            have := (hv i (by omega)).1
            rw [p2 _ (by omega)]; exact w2 i (by omega) q hq
        · rw [p1 22 (by decide), mup_same]
          by_cases x : i = w
          · rw [x, upd_same, stt_same]
          · rw [upd_ne _ _ x, stt_ne _ _ x, mup_ne _ _ _ (by decide)]; exact w3 i (by omega)
      · rw [N1, zI_le (by omega) (by omega)] at z
        refine rd (show j < 12 by omega) (by decide) ?_
        show vp_in ((12 : Int32) * n 19 + zI j) (mlen 21) ∧ _
        rw [N19, k12, zI_add]
        refine wr (show 12 * w + j < 3600 by omega) (by decide) ?_
        have x2 : g1 2 j = ky.getD j 0 := by
          have := hk j (by omega)
          rw [Nat.zero_add] at this
          rw [p1 2 (by decide), mup_ne _ _ _ (by decide), mup_ne _ _ _ (by decide)]; exact this
        rw [x2]
        rintro q rfl
        rw [show zI j + 1 = zI (j + 1) from zI_add j 1]
        refine hC _ ⟨j + 1, _, rfl, by omega, fun k hk => by rw [mup_ne _ _ _ hk]; exact p1 k hk, fun x hx => ?_, fun i hi => ?_⟩ ?_
        · rw [mup_same, upd_ne _ _ (by omega)]; exact p2 x (by omega)
        · rw [mup_same]
          by_cases x : i = j
          · rw [x, upd_same]
          · rw [upd_ne _ _ (by omega)]; exact p3 i (by omega)
        · show 20 - (zI (j + 1)).toNatClampNeg < 20 - (zI j).toNatClampNeg
          rw [zI_clamp (by omega), zI_clamp (by omega)]; omega
  refine ⟨fun y => ?_, fun y => ?_⟩
  · rw [N19, show (0 : Int32) = zI 0 from rfl, zI_inj (by omega) (by omega)] at y
    exact good (fun z => by omega)
  · rw [N19, show (0 : Int32) = zI 0 from rfl, zI_inj (by omega) (by omega)] at y
    rw [N19, show zI w - 1 = zI (w - 1) from zI_sub (show 1 ≤ w by omega)]
    refine rd (show w - 1 < 300 by omega) (by decide) ?_
    rw [w1 (w - 1) (by omega), k12, N1]
    have v1 := hv (w - 1) (by omega)
    have l1 := v1.1
    refine s9_compare (k3 := 2) (b := 0) (w2 (w - 1) (by omega)) hk v1 vx (by decide) (by decide) (show 12 * (w - 1) + _ ≤ 3600 by omega) (show 0 + _ ≤ 12 by omega) (by omega) (by omega) (fun r hr1 hr2 => ⟨fun z => ?_, fun z => ?_⟩)
    · have hnl : ¬ klt (wk (w - 1)) ky := fun h => Int32.not_le.mpr (hr1.mpr h) z
      refine ⟨fun _ => bad (h1 (Or.inr ⟨by omega, hnl⟩)), fun _ => ⟨fun x => absurd rfl x, fun _ => bad (h1 (Or.inr ⟨by omega, hnl⟩))⟩⟩
    · exact good (fun _ => hr1.mp (Int32.not_le.mp z))
end
