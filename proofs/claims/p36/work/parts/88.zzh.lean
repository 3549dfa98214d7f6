theorem Z2.Tr.rise_c2 (T : Tr) (t : Nat) : (T.rise t).c2 = T.c2 := by unfold Tr.rise; split <;> rfl
theorem Z2.Tr.up_c2 : ∀ (k : Nat) (T : Tr) (t p : Nat), (Tr.up k T t p).c2 = T.c2 := by
  intro k
  induction k with
  | zero => intro T t p; rfl
  | succ k ih =>
    intro T t p
    unfold Tr.up
    split
    · rfl
    · rw [ih]; exact Tr.rise_c2 T t
theorem Z2.Tr.eases_c2 (T : Tr) (p : Nat) : (T.eases p).c2 = T.c2 := by
  unfold Tr.eases
  have e1 : ∀ x, T.giveL p = some x → x.c2 = T.c2 := fun x h => by
    unfold Tr.giveL at h
    split at h
    · injection h with h; rw [← h]; rfl
    · cases h
  have e2 : ∀ x, T.giveR p = some x → x.c2 = T.c2 := fun x h => by
    unfold Tr.giveR at h
    split at h
    · injection h with h; rw [← h]; rfl
    · cases h
  generalize T.giveL p = a at *
  cases a with
  | some x => exact e1 x rfl
  | none =>
    show (match T.giveR p with | some x => x | none => T.split 0 p).c2 = T.c2
    generalize T.giveR p = b at *
    cases b with
    | some x => exact e2 x rfl
    | none => exact Tr.rise_c2 T 0
theorem Z2.Tr.insert_c2 (T : Tr) (k : Key) (v : Int32) : (T.insert k v).c2 = T.c2 := by
  unfold Tr.insert Tr.grow
  split
  · rfl
  · rw [Tr.up_c2, Tr.eases_c2]; rfl
theorem Z2.Tr.down_c : ∀ (k : Nat) (T : Tr) (t p : Nat), (Tr.down k T t p).c0 = T.c0 ∧ (Tr.down k T t p).c1 = T.c1 := by
  intro k
  induction k with
  | zero => intro T t p; exact ⟨rfl, rfl⟩
  | succ k ih =>
    intro T t p
    unfold Tr.down
    generalize T.melt t p = a
    cases a with
    | none => exact ⟨rfl, rfl⟩
    | some l => exact ih (T.join t l) (t + 1) (T.par t p)
theorem Z2.Tr.coll_c : ∀ (k : Nat) (T : Tr), (Tr.coll k T).c0 = T.c0 ∧ (Tr.coll k T).c1 = T.c1 := by
  intro k
  induction k with
  | zero => intro T; exact ⟨rfl, rfl⟩
  | succ k ih =>
    intro T
    unfold Tr.coll
    split
    · exact ih _
    · exact ⟨rfl, rfl⟩
theorem Z2.Tr.remove_c (T : Tr) (pos : Nat) : (T.remove pos).c0 = T.c0 ∧ (T.remove pos).c1 = T.c1 := by
  have a := Tr.coll_c (Tr.down (T.h - 1) (T.leafDel pos (T.pgOf 0 pos)) 0 (T.pgOf 0 pos)).h (Tr.down (T.h - 1) (T.leafDel pos (T.pgOf 0 pos)) 0 (T.pgOf 0 pos))
  have b := Tr.down_c (T.h - 1) (T.leafDel pos (T.pgOf 0 pos)) 0 (T.pgOf 0 pos)
  exact ⟨a.1.trans b.1, a.2.trans b.2⟩
theorem Z2.Tr.tiers_c (limit : Nat) : ∀ (k : Nat) (T : Tr) (t : Nat), (Tr.tiers limit k T t).c0 = T.c0 ∧ (Tr.tiers limit k T t).c1 = T.c1 ∧ (Tr.tiers limit k T t).c2 = T.c2 := by
  intro k
  induction k with
  | zero => intro T t; exact ⟨rfl, rfl, rfl⟩
  | succ k ih =>
    intro T t
    unfold Tr.tiers
    split
    · exact ih _ _
    · exact ⟨rfl, rfl, rfl⟩
theorem Z2.Tr.load_c (T : Tr) (w : Nat) (wk : Nat → Key) (wv : Nat → Int32) (limit : Nat) : (T.load w wk wv limit).c0 = T.c0 ∧ (T.load w wk wv limit).c1 = T.c1 ∧ (T.load w wk wv limit).c2 = T.c2 := Tr.tiers_c limit 299 _ 1
section
variable {zd : Nat} {f f' : FT} {o o' : Z2.OW} {xo oo : Nat} {ad ad2 : Nat → Nat} {ca ia ra la ka ba : Nat} {T U : Z2.Tr} {sv : Bool} {cu cu2 : Nat → Option Nat} {ky bd : Z2.Key} {w : Nat} {wk : Nat → Z2.Key} {wv : Nat → Int32} {mc ms : Nat}
theorem Z2.CX.cur (W : CX zd f o xo oo ad ad2 ca ia ra la ka ba T U sv cu ky bd w wk wv) {p : Nat → Int32} (h : CU f' o 300 ca p) (F : Fr (fun q => q = 300) f o f' o) (e : ∀ i, i < 4 → p i = cC (cu2 i)) : CX zd f' o xo oo ad ad2 ca ia ra la ka ba T U sv cu2 ky bd w wk wv := by
  obtain ⟨x1, x2, x3, x4, x5, x6, x7, x8, x9, x10, x11⟩ := W
  obtain ⟨p1, p2⟩ := F.get x1 (fun q e => by rw [x2] at e; cases e; omega)
  exact ⟨p1, x2, x3.fr F (fun q hq => by omega), x4.fr F (fun q hq => by omega), h.congr e, x6.fr F (by omega), x7.frA F (by omega), x8.fr F (fun q hq => by omega), x9.fr F, x10.fr F, x11.fr F (by omega)⟩
theorem Z2.cC_stt (cu : Nat → Option Nat) (i : Nat) (c : Option Nat) (q : Nat) : stt (fun i => cC (cu i)) i (cC c) q = cC (stt cu i c q) := by
  unfold stt; split <;> rfl
theorem Z2.s_X8_refuse {x : Int32} (b1 : 1 ≤ mc) (b2 : 6 ≤ ms) {K : FT → Prop} {KX : String → FT → Prop} (h1 : (∀ i, i < 4 → x ≠ zI i) → KX "java/lang/IllegalArgumentException" f) (h0 : ∀ i, i < 4 → x = zI i → K f) : wp_X8_refuseMissingCursor xo x f mc ms K KX := by
  refine ⟨fun z => ⟨b1, b2, h1 (fun i hi e => ?_)⟩, fun z => ⟨fun y => ?_, fun y => ⟨b1, b2, h1 (fun i hi e => y ?_)⟩⟩⟩
  · rw [e] at z; exact absurd z (zI_neg (by omega))
  · obtain ⟨i, hi, e⟩ := asZ (N := 4) (by decide) (Int32.not_lt.mp z) (Int32.le_of_lt y)
    rw [e, show (4 : Int32) = zI 4 from rfl, zI_lt (by omega) (by omega)] at y
    exact h0 i y e
  · rw [e, show (4 : Int32) = zI 4 from rfl, zI_lt (by omega) (by omega)]; exact hi
theorem Z2.zI_ne_m1 {j : Nat} (h : j < 2147483648) : ¬ zI j = (-1 : Int32) := fun e => by
  have := congrArg Int32.toInt e
  rw [zI_toInt h] at this
  have e1 : (-1 : Int32).toInt = -1 := rfl
  omega
theorem Z2.s_X8_placeOfCursor (W : CX zd f o xo oo ad ad2 ca ia ra la ka ba T U sv cu ky bd w wk wv) (hb : ∀ i j, i < 4 → cu i = some j → j ≤ 300) {x : Int32} (b1 : 2 ≤ mc) (b2 : 12 ≤ ms) {K : Int32 → FT → Prop} {KX : String → FT → Prop} (h1 : (∀ i, i < 4 → x ≠ zI i) → KX "java/lang/IllegalArgumentException" f) (h2 : ∀ i, i < 4 → x = zI i → cu i = none → KX "java/lang/IllegalStateException" f) (h0 : ∀ i j, i < 4 → x = zI i → cu i = some j → K (zI j) f) : wp_X8_placeOfCursor xo x f mc ms K KX := by
  have W2 := W
  obtain ⟨x1, x2, x3, x4, x5, x6, x7, x8, x9, x10, x11⟩ := W
  refine ⟨1, 6, by omega, by omega, W2.is, s_X8_refuse (by omega) (by omega) h1 (fun i hi e => ?_)⟩
  replace h2 := h2 i hi e
  replace h0 := fun j => h0 i j hi e
  subst e
  refine gA_i x1 rfl ⟨x5.is, s_X0_placeOf x5 hi ?_⟩
  have hbi := fun j => hb i j hi
  generalize cu i = c at *
  cases c with
  | none => exact ⟨fun y => absurd rfl y, fun _ => ⟨by omega, by omega, h2 rfl⟩⟩
  | some j =>
    have := hbi j rfl
    exact ⟨fun _ => h0 j rfl, fun y => absurd y (zI_ne_m1 (show j < 2147483648 by omega))⟩
theorem Z2.s_X8_entryOfCursor (W : CX zd f o xo oo ad ad2 ca ia ra la ka ba T U sv cu ky bd w wk wv) (hn : T.n ≤ 300) (hb : ∀ i j, i < 4 → cu i = some j → j ≤ T.n) {x : Int32} (b1 : 3 ≤ mc) (b2 : 18 ≤ ms) {K : Int32 → FT → Prop} {KX : String → FT → Prop} (h1 : (∀ i, i < 4 → x ≠ zI i) → KX "java/lang/IllegalArgumentException" f) (h2 : ∀ i, i < 4 → x = zI i → cu i = none → KX "java/lang/IllegalStateException" f) (h3 : ∀ i, i < 4 → x = zI i → cu i = some T.n → KX "java/util/NoSuchElementException" f) (h0 : ∀ i j, i < 4 → x = zI i → cu i = some j → j < T.n → K (zI j) f) : wp_X8_entryOfCursor xo x f mc ms K KX := by
  have W2 := W
  obtain ⟨x1, x2, x3, x4, x5, x6, x7, x8, x9, x10, x11⟩ := W
  obtain ⟨c, R⟩ := x3.keysR
  refine ⟨2, 12, by omega, by omega, W2.is, s_X8_placeOfCursor W2 (fun i j hi e => Nat.le_trans (hb i j hi e) hn) (by omega) (by omega) h1 h2 (fun i j hi e hc => ?_)⟩
  have hj := hb i j hi hc
  refine gA_i x1 rfl (gA_i x3.1 rfl ⟨R.o, s_X4_count R ⟨fun y => ?_, fun y => ⟨by omega, by omega, h3 i hi e ?_⟩⟩⟩)
  · rw [zI_lt (by omega) (by omega)] at y
    exact h0 i j hi e hc y
  · rw [zI_lt (by omega) (by omega)] at y
    rw [hc, show j = T.n by omega]
theorem Z2.s_X8_open (W : CX zd f o xo oo ad ad2 ca ia ra la ka ba T U sv cu ky bd w wk wv) (I : T.IM) {x : Int32} (b1 : 1 ≤ mc) (b2 : 6 ≤ ms) {K : Int32 → FT → Prop} {KX : String → FT → Prop} (h1 : (∀ i, i < 4 → x ≠ zI i) → KX "java/lang/IllegalArgumentException" f) (h0 : ∀ i, i < 4 → x = zI i → ∀ f', CX zd f' o xo oo ad ad2 ca ia ra la ka ba T U sv (stt cu i (some (T.less ky))) ky bd w wk wv → K (if T.less ky < T.n then 1 else 0) f') : wp_X8_open xo x f mc ms K KX := by
  have W2 := W
  obtain ⟨x1, x2, x3, x4, x5, x6, x7, x8, x9, x10, x11⟩ := W
  obtain ⟨c, R⟩ := x3.keysR
  have hl : T.less ky ≤ T.n := ff_le _ _
  have hn := I.n3
  refine ⟨1, 6, b1, b2, W2.is, s_X8_refuse (by omega) (by omega) h1 (fun i hi e => ?_)⟩
  replace h0 := h0 i hi e
  subst e
  refine gA_i x1 rfl (gA_i x3.1 rfl (gA_i x1 rfl ⟨R.o, s_X4_countBelow R x9 I.srt 0 ?_⟩))
  rw [Tr.less_ff]
  refine gA_i x1 rfl ⟨x5.is, s_X0_place x5 hi _ (fun f1 C1 F1 => ?_)⟩
  have W3 := W2.cur (cu2 := stt cu i (some (T.less ky))) C1 F1 (fun q _ => cC_stt cu i (some (T.less ky)) q)
  obtain ⟨c3, R3⟩ := W3.2.2.1.keysR
  replace h0 := h0 f1 W3
  refine gA_i W3.1 rfl (gA_i W3.2.2.1.1 rfl ⟨R3.o, s_X4_count R3 ⟨fun y => ?_, fun y => ?_⟩⟩)
  · rw [zI_le (by omega) (by omega)] at y
    rw [if_neg (by omega)] at h0; exact h0
  · rw [zI_le (by omega) (by omega)] at y
    rw [if_pos (by omega)] at h0; exact h0
theorem Z2.s_X8_close (W : CX zd f o xo oo ad ad2 ca ia ra la ka ba T U sv cu ky bd w wk wv) (hb : ∀ i j, i < 4 → cu i = some j → j ≤ 300) {x : Int32} (b1 : 1 ≤ mc) (b2 : 6 ≤ ms) {K : Int32 → FT → Prop} {KX : String → FT → Prop} (h1 : (∀ i, i < 4 → x ≠ zI i) → KX "java/lang/IllegalArgumentException" f) (h0 : ∀ i, i < 4 → x = zI i → ∀ f', CX zd f' o xo oo ad ad2 ca ia ra la ka ba T U sv (stt cu i none) ky bd w wk wv → K (if cu i = none then 0 else 1) f') : wp_X8_close xo x f mc ms K KX := by
  have W2 := W
  obtain ⟨x1, x2, x3, x4, x5, x6, x7, x8, x9, x10, x11⟩ := W
  refine ⟨1, 6, b1, b2, W2.is, s_X8_refuse (by omega) (by omega) h1 (fun i hi e => ?_)⟩
  replace h0 := h0 i hi e
  subst e
  refine gA_i x1 rfl ⟨x5.is, s_X0_placeOf x5 hi ?_⟩
  have go : ∀ z : Int32, isB z → (∀ f', CX zd f' o xo oo ad ad2 ca ia ra la ka ba T U sv (stt cu i none) ky bd w wk wv → K z f') → wp_X8_close_22 xo (zI i) z f (mc - 1) (ms - 6) K KX := fun z hz hK => by
    refine gA_i x1 rfl ⟨x5.is, s_X0_place x5 hi _ (fun f1 C1 F1 => ⟨hz, hK f1 (W2.cur (cu2 := stt cu i none) C1 F1 (fun q _ => cC_stt cu i none q))⟩)⟩
  have hbi := fun j => hb i j hi
  have key : ∀ c, cu i = c → (cC c = -1 → wp_X8_close_22 xo (zI i) 0 f (mc - 1) (ms - 6) K KX) ∧ (¬ cC c = -1 → wp_X8_close_22 xo (zI i) 1 f (mc - 1) (ms - 6) K KX) := fun c hc => by
    cases c with
    | none => exact ⟨fun _ => go 0 (Or.inl rfl) (fun f' h => by have := h0 f' h; rw [if_pos hc] at this; exact this), fun y => absurd rfl y⟩
    | some j =>
      have := hbi j hc
      exact ⟨fun y => absurd y (zI_ne_m1 (show j < 2147483648 by omega)), fun _ => go 1 (Or.inr rfl) (fun f' h => by have := h0 f' h; rw [if_neg (by rw [hc]; intro z; cases z)] at this; exact this)⟩
  exact key _ rfl
theorem Z2.s_X8_advance (W : CX zd f o xo oo ad ad2 ca ia ra la ka ba T U sv cu ky bd w wk wv) (hn : T.n ≤ 300) (hb : ∀ i j, i < 4 → cu i = some j → j ≤ T.n) {x : Int32} (b1 : 3 ≤ mc) (b2 : 18 ≤ ms) {K : Int32 → FT → Prop} {KX : String → FT → Prop} (h1 : (∀ i, i < 4 → x ≠ zI i) → KX "java/lang/IllegalArgumentException" f) (h2 : ∀ i, i < 4 → x = zI i → cu i = none → KX "java/lang/IllegalStateException" f) (h3 : ∀ i, i < 4 → x = zI i → cu i = some T.n → KX "java/util/NoSuchElementException" f) (h0 : ∀ i j, i < 4 → x = zI i → cu i = some j → j < T.n → ∀ f', CX zd f' o xo oo ad ad2 ca ia ra la ka ba T U sv (stt cu i (some (j + 1))) ky bd w wk wv → K (if j + 1 < T.n then 1 else 0) f') : wp_X8_advance xo x f mc ms K KX := by
  have W2 := W
  obtain ⟨x1, x2, x3, x4, x5, x6, x7, x8, x9, x10, x11⟩ := W
  refine ⟨3, 18, b1, b2, W2.is, s_X8_entryOfCursor W2 hn hb (by omega) (by omega) h1 h2 h3 (fun i j hi e hc hj => ?_)⟩
  replace h0 := h0 i j hi e hc hj
  subst e
  rw [show zI j + 1 = zI (j + 1) from zI_add j 1]
  refine gA_i x1 rfl ⟨x5.is, s_X0_place x5 hi _ (fun f1 C1 F1 => ?_)⟩
  have W3 := W2.cur (cu2 := stt cu i (some (j + 1))) C1 F1 (fun q _ => cC_stt cu i (some (j + 1)) q)
  obtain ⟨c3, R3⟩ := W3.2.2.1.keysR
  replace h0 := h0 f1 W3
  refine gA_i W3.1 rfl (gA_i W3.2.2.1.1 rfl ⟨R3.o, s_X4_count R3 ⟨fun y => ?_, fun y => ?_⟩⟩)
  · rw [zI_le (by omega) (by omega)] at y
    rw [if_neg (by omega)] at h0; exact h0
  · rw [zI_le (by omega) (by omega)] at y
    rw [if_pos (by omega)] at h0; exact h0
theorem Z2.s_X8_retreat (W : CX zd f o xo oo ad ad2 ca ia ra la ka ba T U sv cu ky bd w wk wv) (hn : T.n ≤ 300) (hb : ∀ i j, i < 4 → cu i = some j → j ≤ T.n) {x : Int32} (b1 : 3 ≤ mc) (b2 : 18 ≤ ms) {K : Int32 → FT → Prop} {KX : String → FT → Prop} (h1 : (∀ i, i < 4 → x ≠ zI i) → KX "java/lang/IllegalArgumentException" f) (h2 : ∀ i, i < 4 → x = zI i → cu i = none → KX "java/lang/IllegalStateException" f) (h3 : ∀ i, i < 4 → x = zI i → cu i = some 0 → KX "java/util/NoSuchElementException" f) (h0 : ∀ i j, i < 4 → x = zI i → cu i = some (j + 1) → j < T.n → ∀ f', CX zd f' o xo oo ad ad2 ca ia ra la ka ba T U sv (stt cu i (some j)) ky bd w wk wv → K (T.vs j) f') : wp_X8_retreat xo x f mc ms K KX := by
  have W2 := W
  obtain ⟨x1, x2, x3, x4, x5, x6, x7, x8, x9, x10, x11⟩ := W
  refine ⟨2, 12, by omega, by omega, W2.is, s_X8_placeOfCursor W2 (fun i j hi e => Nat.le_trans (hb i j hi e) hn) (by omega) (by omega) h1 h2 (fun i j hi e hc => ?_)⟩
  have hj := hb i j hi hc
  refine ⟨fun y => ?_, fun y => ⟨by omega, by omega, h3 i hi e ?_⟩⟩
  · rw [show (0 : Int32) = zI 0 from rfl, zI_lt (by omega) (by omega)] at y
    obtain ⟨q, rfl⟩ : ∃ q, j = q + 1 := ⟨j - 1, by omega⟩
    replace h0 := h0 i q hi e hc (by omega)
    subst e
    rw [show zI (q + 1) - 1 = zI q from zI_sub (show 1 ≤ q + 1 by omega)]
    refine gA_i x1 rfl ⟨x5.is, s_X0_place x5 hi _ (fun f1 C1 F1 => ?_)⟩
    have W3 := W2.cur (cu2 := stt cu i (some q)) C1 F1 (fun u _ => cC_stt cu i (some q) u)
    obtain ⟨c3, V3⟩ := W3.2.2.1.valsR
    exact gA_i W3.1 rfl (gA_i W3.2.2.1.1 rfl ⟨V3.is, s_X2_at V3 (show q < T.n by omega) (h0 f1 W3)⟩)
  · rw [show (0 : Int32) = zI 0 from rfl, zI_lt (by omega) (by omega)] at y
    rw [hc, show j = 0 by omega]
theorem Z2.s_X8_current (W : CX zd f o xo oo ad ad2 ca ia ra la ka ba T U sv cu ky bd w wk wv) (hn : T.n ≤ 300) (hb : ∀ i j, i < 4 → cu i = some j → j ≤ T.n) {x : Int32} (b1 : 3 ≤ mc) (b2 : 18 ≤ ms) {K : Int32 → FT → Prop} {KX : String → FT → Prop} (h1 : (∀ i, i < 4 → x ≠ zI i) → KX "java/lang/IllegalArgumentException" f) (h2 : ∀ i, i < 4 → x = zI i → cu i = none → KX "java/lang/IllegalStateException" f) (h3 : ∀ i, i < 4 → x = zI i → cu i = some T.n → KX "java/util/NoSuchElementException" f) (h0 : ∀ i j, i < 4 → x = zI i → cu i = some j → j < T.n → ∀ f' ka', CX zd f' o xo oo ad ad2 ca ia ra la ka' ba T U sv cu (T.ks j) bd w wk wv → K (T.vs j) f') : wp_X8_current xo x f mc ms K KX :=
  ⟨3, 18, b1, b2, W.is, s_X8_entryOfCursor W hn hb (by omega) (by omega) h1 h2 h3 (fun i j hi e hc hj => W.keyIs hj (h0 i j hi e hc hj))⟩
theorem Z2.s_X8_distance (W : CX zd f o xo oo ad ad2 ca ia ra la ka ba T U sv cu ky bd w wk wv) (hb : ∀ i j, i < 4 → cu i = some j → j ≤ 300) {x z : Int32} (b1 : 5 ≤ mc) (b2 : 30 ≤ ms) {K : Int32 → FT → Prop} {KX : String → FT → Prop} (h1 : (∀ i, i < 4 → x ≠ zI i) ∨ (∀ i, i < 4 → z ≠ zI i) → KX "java/lang/IllegalArgumentException" f) (h2 : ∀ i q, i < 4 → q < 4 → x = zI i → z = zI q → cu i = none ∨ cu q = none → KX "java/lang/IllegalStateException" f) (h0 : ∀ i q a b, i < 4 → q < 4 → x = zI i → z = zI q → cu i = some a → cu q = some b → K (zI b - zI a) f) : wp_X8_distance xo x z f mc ms K KX := by
  refine ⟨1, 6, by omega, by omega, W.is, s_X8_refuse (by omega) (by omega) (fun y => h1 (Or.inr y)) (fun q hq eq => ?_)⟩
  refine ⟨2, 12, by omega, by omega, W.is, s_X8_placeOfCursor W hb (by omega) (by omega) (fun y => h1 (Or.inl y)) (fun i hi e c => h2 i q hi hq e eq (Or.inl c)) (fun i a hi e hc => ?_)⟩
  refine ⟨2, 12, by omega, by omega, W.is, s_X8_placeOfCursor W hb (by omega) (by omega) (fun y => absurd eq (y q hq)) (fun q2 hq2 e2 c => h2 i q2 hi hq2 e e2 (Or.inr c)) (fun q2 b hq2 e2 hc2 => h0 i q2 a b hi hq2 e e2 hc hc2)⟩
end
