/-! p36: the law's body -/
section
variable {zd : Nat} {f : FT} {xo : Nat} {T U : Z2.Tr} {sv : Bool} {cu cu2 : Nat → Option Nat} {ky bd : Z2.Key} {k b L bc bs mc ms : Nat} {xs : Nat → Int32}
theorem Z2.PV.n (V : PV k T cu) (hk : k ≤ 250) : T.n ≤ 250 := by have := V.2.2.2.1; omega
theorem Z2.PV.c (V : PV k T cu) : ∀ i j, i < 4 → cu i = some j → j ≤ T.n := V.2.2.2.2.1
theorem Z2.zI_lit {a b : Nat} (h : zI a = zI b) (ha : a < 100000) (hb : b < 100000) : a = b := (zI_inj (by omega) (by omega)).mp h
theorem Z2.p_open (c : Nat) (hc : c < 4) (W : CP zd f xo T U sv cu ky bd) (V : PV k T cu) (b1 : 1 ≤ mc) (b2 : 6 ≤ ms) {K : Int32 → FT → Prop} {KX : String → FT → Prop} (h0 : ∀ f', CP zd f' xo T U sv (stt cu c (some (T.less ky))) ky bd → PV k T (stt cu c (some (T.less ky))) → K (if T.less ky < T.n then 1 else 0) f') : wp_X8_open xo (zI c) f mc ms K KX := by
  obtain ⟨o, ad, ad2, ca, ia, ra, la, ka, ba, W⟩ := W
  refine s_X8_open W V.1 b1 b2 (fun e => absurd rfl (e c hc)) (fun i hi e f' W' => ?_)
  obtain rfl := zI_lit e (by omega) (by omega)
  exact h0 f' ⟨o, ad, ad2, ca, ia, ra, la, ka, ba, W'⟩ (V.cus (stt_cu V.c (ff_le _ _)))
theorem Z2.p_close (c : Nat) (hc : c < 4) (W : CP zd f xo T U sv cu ky bd) (V : PV k T cu) (hk : k ≤ 250) (e : cu c = none) (b1 : 1 ≤ mc) (b2 : 6 ≤ ms) {K : Int32 → FT → Prop} {KX : String → FT → Prop} (h0 : ∀ f', CP zd f' xo T U sv (stt cu c none) ky bd → PV k T (stt cu c none) → K 0 f') : wp_X8_close xo (zI c) f mc ms K KX := by
  have hn := V.n hk
  obtain ⟨o, ad, ad2, ca, ia, ra, la, ka, ba, W⟩ := W
  refine s_X8_close W (fun i j hi e => by have := V.c i j hi e; omega) b1 b2 (fun e => absurd rfl (e c hc)) (fun i hi e2 f' W' => ?_)
  obtain rfl := zI_lit e2 (by omega) (by omega)
  rw [if_pos e]
  exact h0 f' ⟨o, ad, ad2, ca, ia, ra, la, ka, ba, W'⟩ (V.cus (stt_cun V.c))
theorem Z2.p_select (c : Nat) (hc : c < T.n) (W : CP zd f xo T U sv cu ky bd) (V : PV k T cu) (hk : k ≤ 250) (b1 : 1 ≤ mc) (b2 : 6 ≤ ms) {K : Int32 → FT → Prop} {KX : String → FT → Prop} (h0 : ∀ f', CP zd f' xo T U sv cu (T.ks c) bd → K (T.vs c) f') : wp_X8_select xo (zI c) f mc ms K KX := by
  have hn := V.n hk
  obtain ⟨o, ad, ad2, ca, ia, ra, la, ka, ba, W⟩ := W
  refine s_X8_select W (by omega) b1 b2 (fun e => absurd rfl (e c hc)) (fun i hi e f' ka' W' => ?_)
  obtain rfl := zI_lit e (by omega) (by omega)
  exact h0 f' ⟨o, ad, ad2, ca, ia, ra, la, ka', ba, W'⟩
theorem Z2.p_current (c : Nat) (hc : c < 4) {j : Nat} (e : cu c = some j) (hj : j < T.n) (W : CP zd f xo T U sv cu ky bd) (V : PV k T cu) (hk : k ≤ 250) (b1 : 3 ≤ mc) (b2 : 18 ≤ ms) {K : Int32 → FT → Prop} {KX : String → FT → Prop} (h0 : ∀ f', CP zd f' xo T U sv cu (T.ks j) bd → K (T.vs j) f') : wp_X8_current xo (zI c) f mc ms K KX := by
  have hn := V.n hk
  obtain ⟨o, ad, ad2, ca, ia, ra, la, ka, ba, W⟩ := W
  refine s_X8_current W (by omega) V.c b1 b2 (fun e => absurd rfl (e c hc)) (fun i hi e2 e3 => ?_) (fun i hi e2 e3 => ?_) (fun i q hi e2 e3 hq f' ka' W' => ?_)
  · obtain rfl := zI_lit e2 (by omega) (by omega)
    rw [e] at e3; cases e3
  · obtain rfl := zI_lit e2 (by omega) (by omega)
    rw [e] at e3; cases e3; omega
  · obtain rfl := zI_lit e2 (by omega) (by omega)
    rw [e] at e3; cases e3
    exact h0 f' ⟨o, ad, ad2, ca, ia, ra, la, ka', ba, W'⟩
theorem Z2.p_advance (c : Nat) (hc : c < 4) {j : Nat} (e : cu c = some j) (hj : j < T.n) (W : CP zd f xo T U sv cu ky bd) (V : PV k T cu) (hk : k ≤ 250) (b1 : 3 ≤ mc) (b2 : 18 ≤ ms) {K : Int32 → FT → Prop} {KX : String → FT → Prop} (h0 : ∀ f', CP zd f' xo T U sv (stt cu c (some (j + 1))) ky bd → PV k T (stt cu c (some (j + 1))) → K (if j + 1 < T.n then 1 else 0) f') : wp_X8_advance xo (zI c) f mc ms K KX := by
  have hn := V.n hk
  obtain ⟨o, ad, ad2, ca, ia, ra, la, ka, ba, W⟩ := W
  refine s_X8_advance W (by omega) V.c b1 b2 (fun e => absurd rfl (e c hc)) (fun i hi e2 e3 => ?_) (fun i hi e2 e3 => ?_) (fun i q hi e2 e3 hq f' W' => ?_)
  · obtain rfl := zI_lit e2 (by omega) (by omega)
    rw [e] at e3; cases e3
  · obtain rfl := zI_lit e2 (by omega) (by omega)
    rw [e] at e3; cases e3; omega
  · obtain rfl := zI_lit e2 (by omega) (by omega)
    rw [e] at e3; cases e3
    exact h0 f' ⟨o, ad, ad2, ca, ia, ra, la, ka, ba, W'⟩ (V.cus (stt_cu V.c (by omega)))
theorem Z2.p_retreat (c : Nat) (hc : c < 4) {j : Nat} (e : cu c = some (j + 1)) (hj : j < T.n) (W : CP zd f xo T U sv cu ky bd) (V : PV k T cu) (hk : k ≤ 250) (b1 : 3 ≤ mc) (b2 : 18 ≤ ms) {K : Int32 → FT → Prop} {KX : String → FT → Prop} (h0 : ∀ f', CP zd f' xo T U sv (stt cu c (some j)) ky bd → PV k T (stt cu c (some j)) → K (T.vs j) f') : wp_X8_retreat xo (zI c) f mc ms K KX := by
  have hn := V.n hk
  obtain ⟨o, ad, ad2, ca, ia, ra, la, ka, ba, W⟩ := W
  refine s_X8_retreat W (by omega) V.c b1 b2 (fun e => absurd rfl (e c hc)) (fun i hi e2 e3 => ?_) (fun i hi e2 e3 => ?_) (fun i q hi e2 e3 hq f' W' => ?_)
  · obtain rfl := zI_lit e2 (by omega) (by omega)
    rw [e] at e3; cases e3
  · obtain rfl := zI_lit e2 (by omega) (by omega)
    rw [e] at e3; cases e3
  · obtain rfl := zI_lit e2 (by omega) (by omega)
    rw [e] at e3; cases e3
    exact h0 f' ⟨o, ad, ad2, ca, ia, ra, la, ka, ba, W'⟩ (V.cus (stt_cu V.c (by omega)))
theorem Z2.p_distance (c d : Nat) (hc : c < 4) (hd : d < 4) {x y : Nat} (e1 : cu c = some x) (e2 : cu d = some y) (W : CP zd f xo T U sv cu ky bd) (V : PV k T cu) (hk : k ≤ 250) (b1 : 5 ≤ mc) (b2 : 30 ≤ ms) {K : Int32 → FT → Prop} {KX : String → FT → Prop} (h0 : K (zI y - zI x) f) : wp_X8_distance xo (zI c) (zI d) f mc ms K KX := by
  have hn := V.n hk
  obtain ⟨o, ad, ad2, ca, ia, ra, la, ka, ba, W⟩ := W
  refine s_X8_distance W (fun i j hi e => by have := V.c i j hi e; omega) b1 b2 (fun e => e.elim (fun e => absurd rfl (e c hc)) (fun e => absurd rfl (e d hd))) (fun i q hi hq g1 g2 g3 => ?_) (fun i q a b hi hq g1 g2 g3 g4 => ?_)
  · obtain rfl := zI_lit g1 (by omega) (by omega)
    obtain rfl := zI_lit g2 (by omega) (by omega)
    rcases g3 with g | g
    · rw [e1] at g; cases g
    · rw [e2] at g; cases g
  · obtain rfl := zI_lit g1 (by omega) (by omega)
    obtain rfl := zI_lit g2 (by omega) (by omega)
    rw [e1] at g3; cases g3
    rw [e2] at g4; cases g4
    exact h0
theorem Z2.p_get {i : Nat} (hi : i < T.n) (W : CP zd f xo T U sv cu (T.ks i) bd) (V : PV k T cu) (b1 : 1 ≤ mc) (b2 : 6 ≤ ms) {K : Int32 → FT → Prop} {KX : String → FT → Prop} (h0 : K (T.vs i) f) : wp_X8_get xo f mc ms K KX := by
  have e := less_key V.1 hi
  obtain ⟨o, ad, ad2, ca, ia, ra, la, ka, ba, W⟩ := W
  refine s_X8_get W V.1 b1 b2 (fun _ _ => ?_) (fun y => absurd ⟨by rw [e]; exact hi, by rw [e]⟩ y)
  rw [e]; exact h0
theorem Z2.p_rank {i : Nat} (hi : i < T.n) (W : CP zd f xo T U sv cu (T.ks i) bd) (V : PV k T cu) {K : Int32 → Prop} (h0 : K (zI i)) : wp_X8_rank xo f K := by
  have e := less_key V.1 hi
  obtain ⟨o, ad, ad2, ca, ia, ra, la, ka, ba, W⟩ := W
  refine s_X8_rank W V.1 ?_
  rw [e]; exact h0
theorem Z2.p_size (W : CP zd f xo T U sv cu ky bd) {K : Int32 → Prop} (h0 : K (zI T.n)) : wp_X8_size xo f K := by
  obtain ⟨o, ad, ad2, ca, ia, ra, la, ka, ba, W⟩ := W
  exact s_X8_size W h0
theorem Z2.p_height (W : CP zd f xo T U sv cu ky bd) {K : Int32 → Prop} (h0 : K (zI T.h)) : wp_X8_height xo f K := by
  obtain ⟨o, ad, ad2, ca, ia, ra, la, ka, ba, W⟩ := W
  exact s_X8_height W h0
theorem Z2.p_swap (W : CP zd f xo T U sv cu ky bd) {K : Int32 → FT → Prop} (h0 : ∀ r f', CP zd f' xo T U sv cu bd ky → K r f') : wp_X8_swapBound xo f K := by
  obtain ⟨o, ad, ad2, ca, ia, ra, la, ka, ba, W⟩ := W
  exact s_X8_swapBound W (fun f' W' => h0 _ f' ⟨o, ad, ad2, ca, ia, ra, la, ba, ka, W'⟩)
theorem Z2.p_removeRange {i q : Nat} (hi : i < T.n) (hq : q ≤ i) (W : CP zd f xo T U sv cu (T.ks i) (T.ks q)) (V : PV k T cu) (hk : k ≤ 200) (hk2 : k + (i - q) ≤ 250) {K : Int32 → FT → Prop} (h0 : ∀ f', CP zd f' xo (Tr.remN (i - q) T q) U sv (cuDelN (i - q) cu q) (T.ks i) (T.ks q) → PV (k + (i - q)) (Tr.remN (i - q) T q) (cuDelN (i - q) cu q) → K (zI (i - q)) f') : wp_X8_removeRange xo f K := by
  obtain ⟨B, -⟩ := V.bt (by omega)
  have e1 := less_key V.1 hi
  have e2 := less_key V.1 (i := q) (by omega)
  obtain ⟨o, ad, ad2, ca, ia, ra, la, ka, ba, W⟩ := W
  refine s_X8_removeRange W B V.c (fun f' W' => ?_)
  rw [e1, e2] at W' ⊢
  exact h0 f' ⟨o, ad, ad2, ca, ia, ra, la, ka, ba, W'⟩ (V.remN (i - q) hk2 (by omega))
theorem Z2.p_removeAt (c : Nat) (hc : c < 4) {j : Nat} (e : cu c = some j) (hj : j < T.n) (W : CP zd f xo T U sv cu ky bd) (V : PV k T cu) (hk : k ≤ 240) (b1 : 3 ≤ mc) (b2 : 18 ≤ ms) {K : Int32 → FT → Prop} {KX : String → FT → Prop} (h0 : ∀ r f', CP zd f' xo (T.remove j) U sv (cuDel cu j) ky bd → PV (k + 1) (T.remove j) (cuDel cu j) → K r f') : wp_X8_removeAt xo (zI c) f mc ms K KX := by
  have hn := V.n (by omega)
  obtain ⟨B, -, m3, -⟩ := V.bt (by omega)
  obtain ⟨o, ad, ad2, ca, ia, ra, la, ka, ba, W⟩ := W
  refine s_X8_removeAt W V.1 (by omega) V.c b1 b2 (fun e => absurd rfl (e c hc)) (fun i hi e2 e3 => ?_) (fun i hi e2 e3 => ?_) (fun i q hi e2 e3 hq f' W' => ?_)
  · obtain rfl := zI_lit e2 (by omega) (by omega)
    rw [e] at e3; cases e3
  · obtain rfl := zI_lit e2 (by omega) (by omega)
    rw [e] at e3; cases e3; omega
  · obtain rfl := zI_lit e2 (by omega) (by omega)
    rw [e] at e3; cases e3
    exact h0 _ f' ⟨o, ad, ad2, ca, ia, ra, la, ka, ba, W'⟩ (V.rem (by omega) hj)
theorem Z2.p_save (W : CP zd f xo T U sv cu ky bd) (V : PV k T cu) (hk : k ≤ 250) (b1 : 300 ≤ mc) (b2 : 11000 ≤ ms) {K : Int32 → FT → Prop} (h0 : ∀ f', CP zd f' xo T T true cu ky bd → K (zI T.n) f') : wp_X8_saveSnapshot zd xo f mc ms K := by
  obtain ⟨B, h11, m3, sum⟩ := V.bt hk
  obtain ⟨o, ad, ad2, ca, ia, ra, la, ka, ba, W⟩ := W
  exact s_X8_save W V.1 m3 (by omega) sum b1 b2 (fun f' o' W' => h0 f' ⟨o', ad, ad2, ca, ia, ra, la, ka, ba, W'⟩)
theorem Z2.p_restore {k2 : Nat} {cu3 : Nat → Option Nat} (W : CP zd f xo T U true cu ky bd) (V : PV k T cu) (V2 : PV k2 U cu3) (hk : k ≤ 250) (hk2 : k2 ≤ k) (b1 : 300 ≤ mc) (b2 : 11000 ≤ ms) {K : Int32 → FT → Prop} {KX : String → FT → Prop} (h0 : ∀ f', CP zd f' xo (Tr.mk U.cap U.n U.ks U.vs U.h U.m U.E U.S T.c0 T.c1 T.c2) U true (fun _ => none) ky bd → PV k (Tr.mk U.cap U.n U.ks U.vs U.h U.m U.E U.S T.c0 T.c1 T.c2) (fun _ => none) → K (zI U.n) f') : wp_X8_restoreSnapshot zd xo f mc ms K KX := by
  obtain ⟨B, h11, m3, sum⟩ := V2.bt (by omega)
  obtain ⟨v1, v2, v3, v4, v5, v6, v7⟩ := V
  obtain ⟨u1, u2, u3, u4, u5, u6, u7⟩ := V2
  obtain ⟨o, ad, ad2, ca, ia, ra, la, ka, ba, W⟩ := W
  refine s_X8_restore W (fun _ => ⟨u1, m3, by omega, sum⟩) b1 b2 (fun e => by cases e) (fun _ f' o' W' => h0 f' ⟨o', ad, ad2, ca, ia, ra, la, ka, ba, W'⟩ ?_)
  exact ⟨⟨u1.cap, u1.n3, u1.vk, u1.srt, u1.h1, u1.m1, u1.mono, u1.last, u1.strict, u1.one, u1.lastT, u1.top, u1.svk, u1.ssrt, u1.sl, u1.sr⟩, (u2.same rfl (fun _ _ => rfl) (fun _ _ _ => rfl)).wide (by omega), by show U.m 0 ≤ _; omega, by show U.n ≤ _; omega, fun i j _ e => (by cases e), v6, v7⟩
theorem Z2.p_statistic (c : Nat) (hc : c = 3 ∨ c = 4) (W : CP zd f xo T U sv cu ky bd) (V : PV k T cu) (hk : k ≤ 250) (b1 : 1 ≤ mc) (b2 : 6 ≤ ms) {K : Int32 → FT → Prop} {KX : String → FT → Prop} (h0 : ∀ r, ¬ r < (0 : Int32) → K r f) : wp_X8_statistic xo (zI c) f mc ms K KX := by
  obtain ⟨B, -⟩ := V.bt hk
  obtain ⟨-, -, -, -, -, v6, v7⟩ := V
  obtain ⟨o, ad, ad2, ca, ia, ra, la, ka, ba, W⟩ := W
  have n1 : ¬ zI T.c1 < 0 := zI_neg (by omega)
  have n2 : ¬ zI T.c2 < 0 := zI_neg (by omega)
  rcases hc with rfl | rfl
  · exact s_X8_statistic W B b1 b2 (fun e => absurd rfl e.2.2.2.1) (fun e => absurd e (by decide)) (fun e => absurd e (by decide)) (fun e => absurd e (by decide)) (fun _ => h0 _ n1) (fun e => absurd e (by decide))
  · exact s_X8_statistic W B b1 b2 (fun e => absurd rfl e.2.2.2.2) (fun e => absurd e (by decide)) (fun e => absurd e (by decide)) (fun e => absurd e (by decide)) (fun e => absurd e (by decide)) (fun _ => h0 _ n2)
theorem Z2.rawbits_pos {x : UInt64} {c : Nat} {q : Int} (X : NZ x c q) : ¬ lg_cmp (rawbits x) 0 ≤ 0 := by
  have c1 := X.1
  have c2 := X.2.1
  have x3 := X.2.2.1
  have x4 := X.2.2.2.1
  have hn := X.nat
  have h : (0 : Int64) < rawbits x := by
    rw [Int64.lt_iff_toInt_lt]
    have e : (rawbits x).toInt = (x.toNat : Int) := by
      show (x.toInt64).toInt = _
      rw [show x.toInt64.toInt = x.toBitVec.toInt from rfl, BitVec.toInt_eq_toNat_of_lt (by show 2 * x.toNat < 2 ^ 64; omega)]
      rfl
    rw [e, show (0 : Int64).toInt = 0 from rfl]
    omega
  unfold lg_cmp
  rw [if_pos h]
  decide
theorem Z2.p_occupancy (W : CP zd f xo T U sv cu ky bd) (V : PV k T cu) (hk : k ≤ 250) {K : Int64 → Prop} (h0 : ∀ r, ¬ lg_cmp r 0 ≤ 0 → K r) : wp_X8_occupancyBits xo f K := by
  obtain ⟨B, -, m3, -⟩ := V.bt hk
  obtain ⟨o, ad, ad2, ca, ia, ra, la, ka, ba, W⟩ := W
  refine s_X8_occupancyBits W B (h0 _ ?_)
  have h1 := B.im.m1 0 (by have := B.im.h1; omega)
  have hc := B.im.cap
  obtain ⟨l1, l2⟩ := leafBytes B
  obtain ⟨-, -, -, a, q, X, -⟩ := occ_ok l1 l2 h1 (by omega) (show 1 ≤ T.cap by omega) (by omega)
  exact rawbits_pos X
theorem Z2.p_load0 (W : CP zd f xo T U sv cu ky bd) (V : PV k T cu) (b1 : 1080 ≤ mc) (b2 : 13100 ≤ ms) {K : Int32 → FT → Prop} {KX : String → FT → Prop} (h0 : ∀ f' T', CP zd f' xo T' U sv (fun _ => none) ky bd → PV k T' (fun _ => none) → T'.h = 1 → T'.n = 0 → K 1 f') : wp_X8_load zd xo (50 : Int32) f mc ms K KX := by
  obtain ⟨v1, v2, v3, v4, v5, v6, v7⟩ := V
  obtain ⟨o, ad, ad2, ca, ia, ra, la, ka, ba, W⟩ := W
  refine s_X8_load W v1.cap (by omega) (fun i hi => absurd hi (Nat.not_lt_zero i)) (fun i j _ hj => absurd hj (Nat.not_lt_zero j)) b1 b2 (fun e => absurd ⟨by decide, by decide⟩ e) (fun fill _ _ _ f' o' W' => ?_)
  generalize T.cap * fill / 100 = lim at W' ⊢
  obtain ⟨a1, a2, a3, a4, -⟩ := Tr.load_spec (T := T) (w := 0) (wk := wk0) (wv := wv0) (limit := lim) v1.cap (by omega) (fun i hi => absurd hi (Nat.not_lt_zero i)) (fun i j _ hj => absurd hj (Nat.not_lt_zero j))
  obtain ⟨-, e1, e2⟩ := Tr.load_c T 0 wk0 wv0 lim
  have eh : (T.load 0 wk0 wv0 lim).h = 1 := by
    have e : T.load 0 wk0 wv0 lim = Tr.seps (Tr.tier (Tr.mk T.cap 0 wk0 wv0 T.h T.m T.E T.S T.c0 T.c1 T.c2) 0 0 1 lim) := by
      show Tr.tiers lim (298 + 1) (Tr.seps (Tr.tier (Tr.mk T.cap 0 wk0 wv0 T.h T.m T.E T.S T.c0 T.c1 T.c2) 0 0 1 lim)) 1 = _
      unfold Tr.tiers
      exact if_neg (Nat.lt_irrefl 1)
    rw [e]; rfl
  generalize T.load 0 wk0 wv0 lim = T' at *
  have m1 := a1.m1 0 (by omega)
  have m0 : T'.m 0 = 1 := by rcases a3 with z | z <;> omega
  have es : sumTo T'.m T'.h = 1 := by
    rw [eh]
    show 0 + T'.m 0 = 1
    rw [m0]
  rw [es]
  exact h0 f' T' ⟨o', ad, ad2, ca, ia, ra, la, ka, ba, W'⟩ ⟨a1, a2.wide (by omega), by omega, by omega, fun i j _ e => (by cases e), by omega, by omega⟩ eh a4
end
