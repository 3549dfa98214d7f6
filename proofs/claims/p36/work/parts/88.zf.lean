section
abbrev Z2.zI (n : Nat) : Int32 := Int32.ofNat n
theorem Z2.zI_toInt {n : Nat} (h : n < 2147483648) : (zI n).toInt = n := Int32.toInt_ofNat_of_lt h
theorem Z2.zI_clamp {n : Nat} (h : n < 2147483648) : (zI n).toNatClampNeg = n := by
  unfold Int32.toNatClampNeg; rw [zI_toInt h]; simp
theorem Z2.zI_lt {a b : Nat} (ha : a < 2147483648) (hb : b < 2147483648) : zI a < zI b ↔ a < b := by
  rw [Int32.lt_iff_toInt_lt, zI_toInt ha, zI_toInt hb]; omega
theorem Z2.zI_le {a b : Nat} (ha : a < 2147483648) (hb : b < 2147483648) : zI a ≤ zI b ↔ a ≤ b := by
  rw [Int32.le_iff_toInt_le, zI_toInt ha, zI_toInt hb]; omega
theorem Z2.zI_inj {a b : Nat} (ha : a < 2147483648) (hb : b < 2147483648) : zI a = zI b ↔ a = b := by
  rw [← Int32.toInt_inj, zI_toInt ha, zI_toInt hb]; omega
theorem Z2.zI_add (a b : Nat) : zI a + zI b = zI (a + b) := (Int32.ofNat_add a b).symm
theorem Z2.zI_mul (a b : Nat) : zI a * zI b = zI (a * b) := (Int32.ofNat_mul a b).symm
theorem Z2.zI_sub {a b : Nat} (h : b ≤ a) : zI a - zI b = zI (a - b) := by
  have e : zI a = zI (a - b) + zI b := by rw [zI_add, Nat.sub_add_cancel h]
  rw [e, Int32.add_sub_cancel]
theorem Z2.zI_div {a b : Nat} (ha : a < 2147483648) (hb : b < 2147483648) : zI a / zI b = zI (a / b) := by
  have hle : a / b ≤ a := Nat.div_le_self a b
  rw [← Int32.toInt_inj, Int32.toInt_div, zI_toInt ha, zI_toInt hb, zI_toInt (by omega)]
  rw [Int.tdiv_eq_ediv_of_nonneg (by omega), ← Int.natCast_ediv]
  generalize a / b = q at *
  rw [Int.bmod_eq_of_le (by omega) (by omega)]
theorem Z2.zI_0 : (0 : Int32) = zI 0 := rfl
theorem Z2.zI_pred {a : Nat} (h : 1 ≤ a) : zI a + (-1) = zI (a - 1) := by
  rw [show (-1 : Int32) = -(zI 1) from rfl, ← Int32.sub_eq_add_neg, zI_sub h]
theorem Z2.zI_neg {a : Nat} (ha : a < 2147483648) : ¬ zI a < 0 := by
  rw [zI_0, zI_lt ha (by decide)]; omega
theorem Z2.toInt_1 : (1 : Int32).toInt = 1 := rfl
end
theorem Z2.gA_i {f : FT} {a ci k v : Nat} {fs : List Value} {K : Nat → Prop} (h : f a = some (.inr (ci, fs))) (hk : fs[k]? = some (.ref v)) (hK : K v) : gA f a ci k K := ⟨fs, v, h, hk, hK⟩
theorem Z2.gI_i {f : FT} {a ci k : Nat} {v : Int32} {fs : List Value} {K : Int32 → Prop} (h : f a = some (.inr (ci, fs))) (hk : fs[k]? = some (.int v)) (hK : K v) : gI f a ci k K := ⟨fs, v, h, hk, hK⟩
theorem Z2.pV_i {f : FT} {a ci k : Nat} {v : Value} {fs : List Value} {K : FT → Prop} (h : f a = some (.inr (ci, fs))) (hk : k < fs.length) (hK : K (fup f a (.inr (ci, fs.set k v)))) : pV f a ci k v K := ⟨fs, h, hk, fun f1 h1 => h1 ▸ hK⟩
theorem Z2.isO_i {f : FT} {a ci : Nat} {fs : List Value} (h : f a = some (.inr (ci, fs))) : isO f a ci := ⟨fs, h⟩
theorem Z2.aL_i {f : FT} {a t n : Nat} {x : (Nat → Int32) ⊕ (Nat → Int64) ⊕ (Nat → UInt32) ⊕ (Nat → UInt64) ⊕ (Nat → Option Nat)} {K : Int32 → Prop} (h : f a = some (.inl (t, n, x))) (ht : t < 4) (hK : K (zI n)) : aL f a K := ⟨t, (n, x), h, ht, fun _ hv => hv ▸ hK⟩
theorem Z2.in_i {i n : Nat} (h : i < n) (hb : i < 2147483648) : vp_in (zI i) n := by
  rintro (g | g)
  · exact zI_neg hb g
  · rw [zI_clamp hb] at g; omega
theorem Z2.aI_i {f : FT} {a t n i : Nat} {g : Nat → Int32} {K : Int32 → Prop} (h : f a = some (.inl (t, n, .inl g))) (hi : i < n) (hb : i < 2147483648) (hK : K (g i)) : aI f a t (zI i) K := ⟨n, g, h, in_i hi hb, fun _ hv => by rw [hv, zI_clamp hb]; exact hK⟩
theorem Z2.sI_i {f : FT} {a n i : Nat} {x : Int32} {g : Nat → Int32} {K : FT → Prop} (h : f a = some (.inl (1, n, .inl g))) (hi : i < n) (hb : i < 2147483648) (hK : K (fup f a (.inl (1, n, .inl (upd g i x))))) : sI f a (zI i) x K := ⟨n, g, h, in_i hi hb, fun _ hv => by rw [hv, zI_clamp hb]; exact hK⟩
theorem Z2.aA_i {f : FT} {a n i v : Nat} {g : Nat → Option Nat} {K : Nat → Prop} (h : f a = some (.inl (2, n, .inr (.inr (.inr (.inr g)))))) (hi : i < n) (hb : i < 2147483648) (hg : g i = some v) (hK : K v) : aA f a (zI i) K := ⟨n, g, v, h, in_i hi hb, by rw [zI_clamp hb]; exact hg, hK⟩
abbrev Z2.OW := Nat → Option Nat
def Z2.oup (o : OW) (a : Nat) (r : Option Nat) : OW := fun b => if b = a then r else o b
def Z2.Fr (R : Nat → Prop) (f : FT) (o : OW) (f' : FT) (o' : OW) : Prop := ∀ a, f a ≠ none → f' a ≠ none ∧ o' a = o a ∧ ((∀ r, o a = some r → ¬ R r) → f' a = f a)
theorem Z2.Fr.refl (R : Nat → Prop) (f : FT) (o : OW) : Fr R f o f o := fun _ h => ⟨h, rfl, fun _ => rfl⟩
theorem Z2.Fr.trans {R : Nat → Prop} {f f' f'' : FT} {o o' o'' : OW} (h : Fr R f o f' o') (g : Fr R f' o' f'' o'') : Fr R f o f'' o'' := fun a ha => by
  obtain ⟨h1, h2, h3⟩ := h a ha
  obtain ⟨g1, g2, g3⟩ := g a h1
  exact ⟨g1, g2.trans h2, fun k => (g3 (by rw [h2]; exact k)).trans (h3 k)⟩
theorem Z2.Fr.mono {R S : Nat → Prop} {f f' : FT} {o o' : OW} (h : Fr R f o f' o') (hs : ∀ r, R r → S r) : Fr S f o f' o' := fun a ha => by
  obtain ⟨h1, h2, h3⟩ := h a ha
  exact ⟨h1, h2, fun k => h3 (fun r e c => k r e (hs r c))⟩
theorem Z2.Fr.up {R : Nat → Prop} {f : FT} {o : OW} {a r : Nat} (e : fE) (ho : o a = some r) (hR : R r) : Fr R f o (fup f a e) o := fun b hb => by
  by_cases g : b = a
  · subst g
    exact ⟨by rw [fup_self]; exact Option.some_ne_none _, rfl, fun k => absurd hR (k r ho)⟩
  · exact ⟨by rw [fup_ne f e g]; exact hb, rfl, fun _ => fup_ne f e g⟩
theorem Z2.Fr.new {R : Nat → Prop} {f : FT} {o : OW} {q : Nat} (e : fE) (r : Option Nat) (hq : f q = none) : Fr R f o (fup f q e) (oup o q r) := fun b hb => by
  have g : b ≠ q := fun z => hb (z ▸ hq)
  exact ⟨by rw [fup_ne f e g]; exact hb, by unfold oup; rw [if_neg g], fun _ => fup_ne f e g⟩
theorem Z2.Fr.get {R : Nat → Prop} {f f' : FT} {o o' : OW} (h : Fr R f o f' o') {a : Nat} {e : fE} (ha : f a = some e) (hr : ∀ r, o a = some r → ¬ R r) : f' a = some e ∧ o' a = o a := by
  obtain ⟨h1, h2, h3⟩ := h a (by rw [ha]; exact Option.some_ne_none _)
  exact ⟨(h3 hr).trans ha, h2⟩
/-- a key -/
def Z2.KY (f : FT) (o : OW) (a : Nat) (k : Key) : Prop := ∃ (b : Nat) (g : Nat → Int32), f a = some (.inr (6, [.ref b])) ∧ f b = some (.inl (0, k.length, .inl g)) ∧ (∀ i, i < k.length → g i = k.getD i 0) ∧ o a = none ∧ o b = none ∧ VK k
theorem Z2.KY.fr {R : Nat → Prop} {f f' : FT} {o o' : OW} {a : Nat} {k : Key} (h : KY f o a k) (F : Fr R f o f' o') : KY f' o' a k := by
  obtain ⟨b, g, h1, h2, h3, h4, h5, h6⟩ := h
  obtain ⟨p1, p2⟩ := F.get h1 (fun r e => by rw [h4] at e; cases e)
  obtain ⟨q1, q2⟩ := F.get h2 (fun r e => by rw [h5] at e; cases e)
  exact ⟨b, g, p1, q1, h3, p2.trans h4, q2.trans h5, h6⟩
/-- a row of ints: its n first cells, in an array of c -/
def Z2.IR (f : FT) (o : OW) (w r n : Nat) (l : Nat → Int32) (c : Nat) : Prop := ∃ (b : Nat) (g : Nat → Int32), f r = some (.inr (5, [.ref b, .int (zI n)])) ∧ f b = some (.inl (1, c, .inl g)) ∧ (∀ i, i < n → g i = l i) ∧ n ≤ c ∧ c ≤ 4096 ∧ 16 ≤ c ∧ o r = some w ∧ o b = some w
theorem Z2.IR.fr {R : Nat → Prop} {f f' : FT} {o o' : OW} {w r n c : Nat} {l : Nat → Int32} (h : IR f o w r n l c) (F : Fr R f o f' o') (hR : ¬ R w) : IR f' o' w r n l c := by
  obtain ⟨b, g, h1, h2, h3, h4, h5, h5', h6, h7⟩ := h
  obtain ⟨p1, p2⟩ := F.get h1 (fun q e => by rw [h6] at e; cases e; exact hR)
  obtain ⟨q1, q2⟩ := F.get h2 (fun q e => by rw [h7] at e; cases e; exact hR)
  exact ⟨b, g, p1, q1, h3, h4, h5, h5', p2.trans h6, q2.trans h7⟩
/-- an ArrayList of n elements in region r; c: the length of its array -/
def Z2.AR (zd : Nat) (f : FT) (o : OW) (r a n : Nat) (l : Nat → Nat) (c : Nat) : Prop := ∃ (m : Int32) (b : Nat), f a = some (.inr (2, [.int m, .ref b, .int (zI n)])) ∧ o a = some r ∧ n ≤ c ∧ c ≤ 450 ∧ ((b = zd ∧ c = 0) ∨ (b ≠ zd ∧ 10 ≤ c ∧ o b = some r ∧ ∃ g : Nat → Option Nat, f b = some (.inl (2, c, .inr (.inr (.inr (.inr g))))) ∧ (∀ i, i < n → g i = some (l i))))
theorem Z2.AR.fr {R : Nat → Prop} {zd : Nat} {f f' : FT} {o o' : OW} {r a n c : Nat} {l : Nat → Nat} (h : AR zd f o r a n l c) (F : Fr R f o f' o') (hR : ¬ R r) : AR zd f' o' r a n l c := by
  obtain ⟨m, b, h1, h2, h3, h4, h5⟩ := h
  obtain ⟨p1, p2⟩ := F.get h1 (fun q e => by rw [h2] at e; cases e; exact hR)
  refine ⟨m, b, p1, p2.trans h2, h3, h4, ?_⟩
  rcases h5 with h5 | ⟨h5, h6, h7, g, h8, h9⟩
  · exact Or.inl h5
  · obtain ⟨q1, q2⟩ := F.get h8 (fun q e => by rw [h7] at e; cases e; exact hR)
    exact Or.inr ⟨h5, h6, q2.trans h7, g, q1, h9⟩
/-- a row of keys -/
def Z2.KR (zd : Nat) (f : FT) (o : OW) (w r n : Nat) (l : Nat → Key) (c : Nat) : Prop := ∃ (a q : Nat) (ad : Nat → Nat) (k : Key), f r = some (.inr (7, [.ref a, .ref q])) ∧ o r = some w ∧ AR zd f o (w + 50) a n ad c ∧ (∀ i, i < n → KY f o (ad i) (l i)) ∧ KY f o q k
theorem Z2.KR.fr {R : Nat → Prop} {zd : Nat} {f f' : FT} {o o' : OW} {w r n c : Nat} {l : Nat → Key} (h : KR zd f o w r n l c) (F : Fr R f o f' o') (hR : ¬ R w) (hR2 : ¬ R (w + 50)) : KR zd f' o' w r n l c := by
  obtain ⟨a, q, ad, k, h1, h2, h3, h4, h5⟩ := h
  obtain ⟨p1, p2⟩ := F.get h1 (fun q e => by rw [h2] at e; cases e; exact hR)
  exact ⟨a, q, ad, k, p1, p2.trans h2, h3.fr F hR2, fun i hi => (h4 i hi).fr F, h5.fr F⟩
theorem Z2.s_X3_sharedWith {f : FT} {o : OW} {a b : Nat} {x y : Key} (hx : KY f o a x) (hy : KY f o b y) {K : Int32 → Prop} (hK : K (zI (sh x y))) : wp_X3_sharedWith a b f K := by
  obtain ⟨p, g, x1, x2, x3, -, -, x6⟩ := hx
  obtain ⟨q, h, y1, y2, y3, -, -, y6⟩ := hy
  have lx := x6.1
  have ly := y6.1
  have sx := sh_le_left x y
  have sy := sh_le_right x y
  unfold wp_X3_sharedWith
  refine loopW_of (fun s => ∃ i, s = zI i ∧ i ≤ sh x y) (fun s => 13 - s.toNatClampNeg) ?_ _ ⟨0, rfl, Nat.zero_le _⟩
  rintro C s ⟨i, rfl, hi⟩ hC
  unfold wp_X3_sharedWith_2
  refine gA_i x1 rfl (aL_i x2 (by decide) ⟨fun c => ?_, fun c => gA_i y1 rfl (aL_i y2 (by decide) ⟨fun d => ?_, fun d => ?_⟩)⟩)
  · rw [zI_le (by omega) (by omega)] at c
    rw [show i = sh x y by omega]; exact hK
  · rw [zI_le (by omega) (by omega)] at d
    rw [show i = sh x y by omega]; exact hK
  · rw [zI_le (by omega) (by omega)] at c d
    refine gA_i x1 rfl (aI_i x2 (by omega) (by omega) (gA_i y1 rfl (aI_i y2 (by omega) (by omega) ⟨fun e => ?_, fun e => ?_⟩)))
    · rw [x3 i (by omega), y3 i (by omega)] at e
      rcases Nat.lt_or_ge i (sh x y) with z | z
      · exact absurd (sh_same x y i z) e
      · rw [show i = sh x y by omega]; exact hK
    · rw [x3 i (by omega), y3 i (by omega)] at e
      rintro v rfl
      have z : i < sh x y := by
        rcases Nat.lt_or_ge i (sh x y) with z | z
        · exact z
        · have z : i = sh x y := by omega
          rw [z] at e c d
          exact absurd e (sh_stop x y (by omega) (by omega))
      refine hC _ ⟨i + 1, zI_add i 1, by omega⟩ ?_
      rw [show zI i + 1 = zI (i + 1) from zI_add i 1]
      rw [zI_clamp (by omega), zI_clamp (by omega)]; omega

theorem Z2.s_X3_byteAt {f : FT} {o : OW} {a i : Nat} {x : Key} (hx : KY f o a x) (hi : i < 1000) {K : Int32 → Prop} (hK : K (kby x i)) : wp_X3_byteAt a (zI i) f K := by
  obtain ⟨p, g, x1, x2, x3, -, -, x6⟩ := hx
  have lx := x6.1
  unfold wp_X3_byteAt
  refine ⟨fun c => absurd c (zI_neg (by omega)), fun _ => gA_i x1 rfl (aL_i x2 (by decide) ⟨fun c => ?_, fun c => gA_i x1 rfl ?_⟩)⟩
  · rw [zI_le (by omega) (by omega)] at c
    unfold kby at hK
    rw [if_neg (by omega)] at hK; exact hK
  · rw [zI_le (by omega) (by omega)] at c
    refine aI_i x2 (by omega) (by omega) ?_
    unfold kby at hK
    rw [if_pos (by omega)] at hK
    rw [x3 i (by omega)]; exact hK
theorem Z2.kby_in {x : Key} (h : VK x) (i : Nat) : -1 ≤ (kby x i).toInt ∧ (kby x i).toInt ≤ 127 := by
  unfold kby
  split
  · rename_i g
    have e : x.getD i 0 = x[i] := by simp [g]
    rw [e]
    obtain ⟨h1, h2⟩ := h.2 x[i] (List.getElem_mem g)
    rw [Int32.le_iff_toInt_le] at h1 h2
    have : (0 : Int32).toInt = 0 := rfl
    have : (127 : Int32).toInt = 127 := rfl
    omega
  · have : (-1 : Int32).toInt = -1 := rfl
    omega
theorem Z2.sub_small {a b : Int32} (ha : -1000 ≤ a.toInt ∧ a.toInt ≤ 1000) (hb : -1000 ≤ b.toInt ∧ b.toInt ≤ 1000) : (a - b).toInt = a.toInt - b.toInt := by
  rw [Int32.toInt_sub, Int.bmod_eq_of_le (by omega) (by omega)]
theorem Z2.VK_pos {x : Key} (h : VK x) : ∀ b ∈ x, (0 : Int32) ≤ b := fun b hb => (h.2 b hb).1
theorem Z2.s_X3_compareWith {f : FT} {o : OW} {a b : Nat} {x y : Key} (hx : KY f o a x) (hy : KY f o b y) {K : Int32 → Prop} (hK : ∀ r : Int32, (r < 0 ↔ klt x y) → (r = 0 ↔ x = y) → K r) : wp_X3_compareWith a b f K := by
  have vx : VK x := by obtain ⟨_, _, _, _, _, _, _, v⟩ := hx; exact v
  have vy : VK y := by obtain ⟨_, _, _, _, _, _, _, v⟩ := hy; exact v
  have ox : isO f a 6 := by obtain ⟨_, _, v, _⟩ := hx; exact ⟨_, v⟩
  have oy : isO f b 6 := by obtain ⟨_, _, v, _⟩ := hy; exact ⟨_, v⟩
  have sx := sh_le_left x y
  have lx := vx.1
  unfold wp_X3_compareWith
  refine ⟨ox, s_X3_sharedWith hx hy ⟨ox, s_X3_byteAt hx (by omega) ⟨oy, s_X3_byteAt hy (by omega) (hK _ ?_ ?_)⟩⟩⟩
  · rw [klt_iff x y (VK_pos vx) (VK_pos vy), Int32.lt_iff_toInt_lt, Int32.lt_iff_toInt_lt]
    have h1 := kby_in vx (sh x y)
    have h2 := kby_in vy (sh x y)
    rw [sub_small (by omega) (by omega)]
    have : (0 : Int32).toInt = 0 := rfl
    omega
  · rw [keq_iff x y (VK_pos vx) (VK_pos vy), ← Int32.toInt_inj, ← Int32.toInt_inj]
    have h1 := kby_in vx (sh x y)
    have h2 := kby_in vy (sh x y)
    rw [sub_small (by omega) (by omega)]
    have : (0 : Int32).toInt = 0 := rfl
    omega
theorem Z2.AR.o {zd : Nat} {f : FT} {o : OW} {r a n c : Nat} {l : Nat → Nat} (h : AR zd f o r a n l c) : isO f a 2 := by
  obtain ⟨m, b, h1, -⟩ := h; exact ⟨_, h1⟩
theorem Z2.AR.le {zd : Nat} {f : FT} {o : OW} {r a n c : Nat} {l : Nat → Nat} (h : AR zd f o r a n l c) : n ≤ 450 := by
  obtain ⟨m, b, h1, h2, h3, h4, -⟩ := h; omega
theorem Z2.s_AL_size {zd : Nat} {f : FT} {o : OW} {r a n c : Nat} {l : Nat → Nat} (h : AR zd f o r a n l c) {K : Int32 → Prop} (hK : K (zI n)) : wp_Jx4a65c_size_8abf5 a f K := by
  obtain ⟨m, b, h1, -⟩ := h
  exact gI_i h1 rfl hK
theorem Z2.s_check {i n : Nat} {f : FT} (hi : i < n) (hn : n < 2147483648) {K : Int32 → Prop} (hK : K (zI i)) : wp_J15_checkIndex_7cf53 (zI i) (zI n) f K :=
  ⟨fun c => zI_neg (by omega) c, fun _ => ⟨fun _ => hK, fun c => c ((zI_lt (by omega) hn).mpr hi)⟩⟩
theorem Z2.s_AL_data {zd : Nat} {f : FT} {o : OW} {r a n c i : Nat} {l : Nat → Nat} (h : AR zd f o r a n l c) (hi : i < n) {K : Nat → Prop} (hK : K (l i)) : wp_Jx4a65c_elementData_915e3 a (zI i) f K := by
  have hn := h.le
  obtain ⟨m, b, h1, h2, h3, h4, h5⟩ := h
  rcases h5 with ⟨-, h5⟩ | ⟨-, -, -, g, h6, h7⟩
  · omega
  · exact gA_i h1 rfl (aA_i h6 (by omega) (by omega) (h7 i hi) hK)
theorem Z2.s_AL_get {zd : Nat} {f : FT} {o : OW} {r a n c i : Nat} {l : Nat → Nat} (h : AR zd f o r a n l c) (hi : i < n) {K : Nat → Prop} (hK : K (l i)) : wp_Jx4a65c_get_915e3 a (zI i) f K := by
  have hn := h.le
  have ho := h.o
  have hd := s_AL_data h hi hK
  obtain ⟨m, b, h1, h2, h3, h4, h5⟩ := h
  exact gI_i h1 rfl (s_check hi (by omega) ⟨ho, hd⟩)
theorem Z2.KY.o {f : FT} {o : OW} {a : Nat} {k : Key} (h : KY f o a k) : isO f a 6 := by obtain ⟨_, _, v, _⟩ := h; exact ⟨_, v⟩
theorem Z2.KY.v {f : FT} {o : OW} {a : Nat} {k : Key} (h : KY f o a k) : VK k := by obtain ⟨_, _, _, _, _, _, _, v⟩ := h; exact v
theorem Z2.KR.le {zd : Nat} {f : FT} {o : OW} {w r n c : Nat} {l : Nat → Key} (h : KR zd f o w r n l c) : n ≤ 450 := by
  obtain ⟨a, q, ad, k, h1, h2, h3, -⟩ := h; exact h3.le
theorem Z2.KR.o {zd : Nat} {f : FT} {o : OW} {w r n c : Nat} {l : Nat → Key} (h : KR zd f o w r n l c) : isO f r 7 := by
  obtain ⟨a, q, ad, k, h1, -⟩ := h; exact ⟨_, h1⟩
theorem Z2.KR.v {zd : Nat} {f : FT} {o : OW} {w r n c i : Nat} {l : Nat → Key} (h : KR zd f o w r n l c) (hi : i < n) : VK (l i) := by
  obtain ⟨a, q, ad, k, h1, h2, h3, h4, -⟩ := h; exact (h4 i hi).v
theorem Z2.s_X4_count {zd : Nat} {f : FT} {o : OW} {w r n c : Nat} {l : Nat → Key} (h : KR zd f o w r n l c) {K : Int32 → Prop} (hK : K (zI n)) : wp_X4_count r f K := by
  obtain ⟨a, q, ad, k, h1, h2, h3, -⟩ := h
  exact gA_i h1 rfl ⟨h3.o, s_AL_size h3 hK⟩
theorem Z2.s_X4_at {zd : Nat} {f : FT} {o : OW} {w r n c i : Nat} {l : Nat → Key} (h : KR zd f o w r n l c) (hi : i < n) {K : Nat → Prop} (hK : ∀ a, KY f o a (l i) → K a) : wp_X4_at r (zI i) f K := by
  have hn := h.le
  obtain ⟨a, q, ad, k, h1, h2, h3, h4, h5⟩ := h
  refine ⟨fun c => absurd c (zI_neg (by omega)), fun _ => gA_i h1 rfl ⟨h3.o, s_AL_size h3 ⟨fun c => ?_, fun _ => gA_i h1 rfl ⟨h3.o, s_AL_get h3 hi ⟨(h4 i hi).o, hK _ (h4 i hi)⟩⟩⟩⟩⟩
  rw [zI_le (by omega) (by omega)] at c; omega
/-- the binary search: how many keys a test holds of that holds of all before one that it holds of -/
theorem Z2.s_X4_countBelow {zd : Nat} {f : FT} {o : OW} {w r n c ka : Nat} {l : Nat → Key} (h : KR zd f o w r n l c) {k : Key} (hk : KY f o ka k) (hs : ∀ i j, i < j → j < n → klt (l i) (l j)) (x2 : Int32) {K : Int32 → Prop}
    (hK : K (zI (ff (fun i => dec (klt (l i) k ∨ (l i = k ∧ x2 ≠ 0))) n))) : wp_X4_countBelow r ka x2 f K := by
  have hn := h.le
  obtain ⟨a, q, ad, k0, h1, h2, h3, h4, h5⟩ := id h
  have P : ∀ i j, i ≤ j → j < n → (klt (l j) k ∨ (l j = k ∧ x2 ≠ 0)) → (klt (l i) k ∨ (l i = k ∧ x2 ≠ 0)) := fun i j hij hj hp => by
    rcases Nat.lt_or_eq_of_le hij with g | rfl
    · left
      rcases hp with hp | ⟨hp, -⟩
      · exact klt_trans (hs i j g hj) hp
      · rw [← hp]; exact hs i j g hj
    · exact hp
  refine gA_i h1 rfl ⟨h3.o, s_AL_size h3 ?_⟩
  refine loopW_of (fun s => ∃ lo hi, s = (zI lo, zI hi) ∧ lo ≤ hi ∧ hi ≤ n ∧ (∀ i, i < lo → klt (l i) k ∨ (l i = k ∧ x2 ≠ 0)) ∧ (∀ i, hi ≤ i → i < n → ¬ (klt (l i) k ∨ (l i = k ∧ x2 ≠ 0)))) (fun s => s.2.toNatClampNeg - s.1.toNatClampNeg) ?_ _ ⟨0, n, rfl, Nat.zero_le _, Nat.le_refl _, fun i hi => by omega, fun i h1 h2 => by omega⟩
  rintro C s ⟨lo, hi, rfl, e1, e2, e3, e4⟩ hC
  refine ⟨fun c => ?_, fun c => ⟨by decide, ?_⟩⟩
  · rw [zI_le (by omega) (by omega)] at c
    have e : ff (fun i => dec (klt (l i) k ∨ (l i = k ∧ x2 ≠ 0))) n = lo := ff_eq (by omega) (fun i hi => dec_t (e3 i hi)) (fun hl => dec_f (e4 lo (by omega) hl))
    rw [e] at hK; exact hK
  · rw [zI_le (by omega) (by omega)] at c
    rintro v rfl
    have em : (zI lo + zI hi) / (2 : Int32) = zI ((lo + hi) / 2) := by rw [zI_add, show (2 : Int32) = zI 2 from rfl, zI_div (by omega) (by omega)]
    rw [em]
    generalize hm : (lo + hi) / 2 = m
    have m1 : lo ≤ m := by omega
    have m2 : m < hi := by omega
    have up : (klt (l m) k ∨ (l m = k ∧ x2 ≠ 0)) → wp_X4_countBelow_51 r ka x2 (zI hi) (zI m) f K C := fun hp => by
      rintro v rfl
      rw [show zI m + 1 = zI (m + 1) from zI_add m 1]
      refine hC _ ⟨m + 1, hi, rfl, by omega, e2, fun i hi' => P i m (by omega) (by omega) hp, e4⟩ ?_
      rw [zI_clamp (by omega), zI_clamp (by omega), zI_clamp (by omega)]; omega
    have dn : ¬ (klt (l m) k ∨ (l m = k ∧ x2 ≠ 0)) → wp_X4_countBelow_59 r ka x2 (zI lo) (zI m) f K C := fun hp => by
      refine hC _ ⟨lo, m, rfl, m1, by omega, e3, fun i h1 h2 hq => hp (P m i h1 h2 hq)⟩ ?_
      rw [zI_clamp (by omega), zI_clamp (by omega), zI_clamp (by omega)]; omega
    refine ⟨h.o, s_X4_at h (by omega) (fun aa hka => ⟨hka.o, s_X3_compareWith hka hk (fun rr r1 r2 => ⟨fun c1 => up (Or.inl (r1.mp c1)), fun c1 => ⟨fun c2 => dn ?_, fun c2 => ⟨fun c3 => dn ?_, fun c3 => up (Or.inr ⟨r2.mp c2, c3⟩)⟩⟩⟩)⟩)⟩
    · rintro (hp | ⟨hp, -⟩)
      · exact c1 (r1.mpr hp)
      · exact c2 (r2.mpr hp)
    · rintro (hp | ⟨-, hp⟩)
      · exact c1 (r1.mpr hp)
      · exact hp c3

theorem Z2.upd_stt (g : Nat → Int32) (i : Nat) (v : Int32) : upd g i v = stt g i v := rfl
theorem Z2.oup_ne (o : OW) {a q : Nat} (r : Option Nat) (h : a ≠ q) : oup o q r a = o a := if_neg h
theorem Z2.oup_self (o : OW) (q : Nat) (r : Option Nat) : oup o q r q = r := if_pos rfl
theorem Z2.IR.is {f : FT} {o : OW} {w r n c : Nat} {l : Nat → Int32} (h : IR f o w r n l c) : isO f r 5 := by obtain ⟨b, g, h1, -⟩ := h; exact ⟨_, h1⟩
theorem Z2.IR.le {f : FT} {o : OW} {w r n c : Nat} {l : Nat → Int32} (h : IR f o w r n l c) : n ≤ c ∧ c ≤ 4096 ∧ 16 ≤ c := by obtain ⟨b, g, h1, h2, h3, h4, h5, h6, -⟩ := h; exact ⟨h4, h5, h6⟩
theorem Z2.IR.congr {f : FT} {o : OW} {w r n c : Nat} {l l' : Nat → Int32} (h : IR f o w r n l c) (e : ∀ i, i < n → l i = l' i) : IR f o w r n l' c := by
  obtain ⟨b, g, h1, h2, h3, h4⟩ := h; exact ⟨b, g, h1, h2, fun i hi => (h3 i hi).trans (e i hi), h4⟩
theorem Z2.s_X2_count {f : FT} {o : OW} {w r n c : Nat} {l : Nat → Int32} (h : IR f o w r n l c) {K : Int32 → Prop} (hK : K (zI n)) : wp_X2_count r f K := by
  obtain ⟨b, g, h1, -⟩ := h
  exact gI_i h1 rfl hK
theorem Z2.s_X2_at {f : FT} {o : OW} {w r n c i : Nat} {l : Nat → Int32} (h : IR f o w r n l c) (hi : i < n) {K : Int32 → Prop} (hK : K (l i)) : wp_X2_at r (zI i) f K := by
  obtain ⟨b, g, h1, h2, h3, h4, h5, -⟩ := h
  refine ⟨fun c => absurd c (zI_neg (by omega)), fun _ => gI_i h1 rfl ⟨fun c => ?_, fun _ => gA_i h1 rfl (aL_i h2 (by decide) ⟨fun c => ?_, fun _ => gA_i h1 rfl (aI_i h2 (by omega) (by omega) (by rw [h3 i hi]; exact hK))⟩)⟩⟩
  · rw [zI_le (by omega) (by omega)] at c; omega
  · rw [zI_le (by omega) (by omega)] at c; omega
/-- behind the last cell: 0 -/
theorem Z2.s_X2_at_out {f : FT} {o : OW} {w r n c i : Nat} {l : Nat → Int32} (h : IR f o w r n l c) (hi : n ≤ i) (hb : i < 2147483648) {K : Int32 → Prop} (hK : K 0) : wp_X2_at r (zI i) f K := by
  obtain ⟨b, g, h1, h2, h3, h4, h5, -⟩ := h
  exact ⟨fun _ => hK, fun _ => gI_i h1 rfl ⟨fun _ => hK, fun c => absurd ((zI_le (by omega) hb).mpr hi) c⟩⟩
/-- the search in a row of numbers that never fall -/
theorem Z2.s_X2_countNotAbove {f : FT} {o : OW} {w r n c x : Nat} {e : Nat → Nat} (h : IR f o w r n (fun i => zI (e i)) c) (hx : x < 100000) (he : ∀ i, i < n → e i < 100000) (hm : ∀ i j, i ≤ j → j < n → e i ≤ e j) {K : Int32 → Prop} (hK : K (zI (ff (fun i => decide (e i ≤ x)) n))) : wp_X2_countNotAbove r (zI x) f K := by
  obtain ⟨b, g, h1, h2, h3, h4, h5, -⟩ := id h
  refine gI_i h1 rfl ?_
  refine loopW_of (fun s => ∃ lo hi, s = (zI lo, zI hi) ∧ lo ≤ hi ∧ hi ≤ n ∧ (∀ i, i < lo → e i ≤ x) ∧ (∀ i, hi ≤ i → i < n → ¬ e i ≤ x)) (fun s => s.2.toNatClampNeg - s.1.toNatClampNeg) ?_ _ ⟨0, n, rfl, Nat.zero_le _, Nat.le_refl _, fun i hi => by omega, fun i h1 h2 => by omega⟩
  rintro C s ⟨lo, hi, rfl, e1, e2, e3, e4⟩ hC
  refine ⟨fun c => ?_, fun c => ⟨by decide, ?_⟩⟩
  · rw [zI_le (by omega) (by omega)] at c
    have e : ff (fun i => decide (e i ≤ x)) n = lo := ff_eq (by omega) (fun i hi => decide_eq_true (e3 i hi)) (fun hl => decide_eq_false (e4 lo (by omega) hl))
    rw [e] at hK; exact hK
  · rw [zI_le (by omega) (by omega)] at c
    rintro v rfl
    have em : (zI lo + zI hi) / (2 : Int32) = zI ((lo + hi) / 2) := by rw [zI_add, show (2 : Int32) = zI 2 from rfl, zI_div (by omega) (by omega)]
    rw [em]
    generalize hm' : (lo + hi) / 2 = m
    have m1 : lo ≤ m := by omega
    have m2 : m < hi := by omega
    have em := he m (by omega)
    refine ⟨h.is, s_X2_at h (by omega) ⟨fun c => ?_, fun c => ?_⟩⟩
    · rw [zI_lt (by omega) (by omega)] at c
      refine hC _ ⟨lo, m, rfl, m1, by omega, e3, fun i h1 h2 hq => ?_⟩ ?_
      · have := hm m i h1 h2; omega
      · rw [zI_clamp (by omega), zI_clamp (by omega), zI_clamp (by omega)]; omega
    · rw [zI_lt (by omega) (by omega)] at c
      rintro v rfl
      rw [show zI m + 1 = zI (m + 1) from zI_add m 1]
      refine hC _ ⟨m + 1, hi, rfl, by omega, e2, fun i hi' => ?_, e4⟩ ?_
      · have := hm i m (by omega) (by omega); omega
      · rw [zI_clamp (by omega), zI_clamp (by omega), zI_clamp (by omega)]; omega
theorem Z2.s_X2_replace {f : FT} {o : OW} {w r n c i : Nat} {l : Nat → Int32} (h : IR f o w r n l c) (hi : i < n) (v : Int32) {K : FT → Prop} (hK : ∀ f', IR f' o w r n (stt l i v) c → Fr (fun q => q = w) f o f' o → K f') : wp_X2_replace r (zI i) v f K := by
  obtain ⟨b, g, h1, h2, h3, h4, h5, h5', h6, h7⟩ := h
  refine ⟨fun c => absurd c (zI_neg (by omega)), fun _ => gI_i h1 rfl ⟨fun c => ?_, fun _ => gA_i h1 rfl (aL_i h2 (by decide) ⟨fun c => ?_, fun _ => gA_i h1 rfl (sI_i h2 (by omega) (by omega) (hK _ ?_ (Fr.up _ h7 rfl)))⟩)⟩⟩
  · rw [zI_le (by omega) (by omega)] at c; omega
  · rw [zI_le (by omega) (by omega)] at c; omega
  · refine ⟨b, stt g i v, ?_, fup_self _ _ _, fun j hj => ?_, h4, h5, h5', h6, h7⟩
    · rw [fup_ne _ _ (fun e => by rw [e, h2] at h1; cases h1)]; exact h1
    · unfold stt; split
      · rfl
      · exact h3 j hj
theorem Z2.s_X2_empty {f : FT} {o : OW} {w r n c : Nat} {l : Nat → Int32} (h : IR f o w r n l c) {K : FT → Prop} (hK : ∀ f', (∀ l', IR f' o w r 0 l' c) → Fr (fun q => q = w) f o f' o → K f') : wp_X2_empty r f K := by
  obtain ⟨b, g, h1, h2, h3, h4, h5, h5', h6, h7⟩ := h
  refine pV_i h1 (by simp) (hK _ (fun l' => ⟨b, g, fup_self _ _ _, ?_, fun i hi => absurd hi (Nat.not_lt_zero i), Nat.zero_le _, h5, h5', h6, h7⟩) (Fr.up _ h6 rfl))
  rw [fup_ne _ _ (fun e => by rw [e, h1] at h2; cases h2)]; exact h2
/-- the cells from i on are raised by d -/
theorem Z2.s_X2_addFrom {f : FT} {o : OW} {w r n c i : Nat} {l : Nat → Int32} (h : IR f o w r n l c) (hi : i < 2147483648) (d : Int32) {K : FT → Prop} (hK : ∀ f', IR f' o w r n (fun k => if i ≤ k then l k + d else l k) c → Fr (fun q => q = w) f o f' o → K f') : wp_X2_addFrom r (zI i) d f K := by
  have hle := h.le
  rintro v rfl
  have e : jmax (zI i) 0 = zI i := by unfold jmax; rw [if_neg (zI_neg hi)]
  rw [e]
  refine loopW_of (fun s => ∃ k f1, s = (zI k, f1) ∧ i ≤ k ∧ k < 2147483648 ∧ IR f1 o w r n (fun j => if i ≤ j ∧ j < k then l j + d else l j) c ∧ Fr (fun q => q = w) f o f1 o) (fun s => n - s.1.toNatClampNeg) ?_ _ ⟨i, f, rfl, Nat.le_refl _, hi, h.congr (fun j hj => by rw [if_neg (by omega)]), Fr.refl _ _ _⟩
  rintro C s ⟨k, f1, rfl, hk, hk2, hI, hF⟩ hC
  obtain ⟨b, g, h1, h2, h3, h4, h5, h5', h6, h7⟩ := id hI
  have fin : n ≤ k → K f1 := fun hnk => hK f1 (hI.congr (fun j hj => by
    by_cases z : i ≤ j
    · rw [if_pos ⟨z, by omega⟩, if_pos z]
    · rw [if_neg (by omega), if_neg z])) hF
  refine gI_i h1 rfl ⟨fun c => ?_, fun c => ?_⟩
  · rw [zI_le (by omega) (by omega)] at c; exact fin c
  · rw [zI_le (by omega) (by omega)] at c
    refine gA_i h1 rfl (aL_i h2 (by decide) ⟨fun d => ?_, fun _ => gA_i h1 rfl (aI_i h2 (by omega) (by omega) (sI_i h2 (by omega) (by omega) ?_))⟩)
    · rw [zI_le (by omega) (by omega)] at d; omega
    · rintro v rfl
      rw [show zI k + 1 = zI (k + 1) from zI_add k 1]
      refine hC _ ⟨k + 1, _, rfl, by omega, by omega, ⟨b, upd g k (g k + d), ?_, fup_self _ _ _, fun j hj => ?_, h4, h5, h5', h6, h7⟩, hF.trans (Fr.up _ h7 rfl)⟩ ?_
      · rw [fup_ne _ _ (fun e => by rw [e, h2] at h1; cases h1)]; exact h1
      · unfold upd
        dsimp only at h3 ⊢
        by_cases z : j = k
        · subst z
          rw [if_pos rfl, if_pos ⟨hk, by omega⟩, h3 j hj, if_neg (by omega)]
        · rw [if_neg z, h3 j hj]
          by_cases y : i ≤ j ∧ j < k
          · rw [if_pos y, if_pos ⟨y.1, by omega⟩]
          · rw [if_neg y, if_neg (by omega)]
      · rw [zI_clamp (by omega), zI_clamp (by omega)]; omega
theorem Z2.s_X2_delete {f : FT} {o : OW} {w r n c i : Nat} {l : Nat → Int32} (h : IR f o w r n l c) (hi : i < n) {K : FT → Prop} (hK : ∀ f', IR f' o w r (n - 1) (del l i) c → Fr (fun q => q = w) f o f' o → K f') : wp_X2_delete r (zI i) f K := by
  have hle := h.le
  obtain ⟨b, g, h1, h2, h3, h4, h5, h5', h6, h7⟩ := id h
  have hbr : b ≠ r := fun e => by rw [e, h1] at h2; cases h2
  refine ⟨fun c => absurd c (zI_neg (by omega)), fun _ => gI_i h1 rfl ⟨fun c => ?_, fun _ => gI_i h1 rfl (gA_i h1 rfl (aL_i h2 (by decide) ⟨fun _ => gI_i h1 rfl (pV_i h1 (by simp) ?_), fun c => ?_⟩))⟩⟩
  · rw [zI_le (by omega) (by omega)] at c; omega
  · rw [show zI n - 1 = zI (n - 1) from zI_sub (show 1 ≤ n by omega)]
    refine loopW_of (fun s => ∃ k f1 g1, s = (zI k, f1) ∧ i ≤ k ∧ k ≤ n - 1 ∧ f1 r = some (.inr (5, [.ref b, .int (zI (n - 1))])) ∧ f1 b = some (.inl (1, c, .inl g1)) ∧ (∀ j, j < n → g1 j = if i ≤ j ∧ j < k then l (j + 1) else l j) ∧ Fr (fun q => q = w) f o f1 o) (fun s => n - s.1.toNatClampNeg) ?_ _ ⟨i, _, g, rfl, Nat.le_refl _, by omega, fup_self _ _ _, ?_, fun j hj => by rw [if_neg (by omega)]; exact h3 j hj, Fr.up _ h6 rfl⟩
    · rintro C s ⟨k, f1, g1, rfl, k1, k2, w1, w2, w3, hF⟩ hC
      refine gI_i w1 rfl ⟨fun c => ?_, fun c => ?_⟩
      · rw [zI_le (by omega) (by omega)] at c
        refine hK f1 ⟨b, g1, w1, w2, fun j hj => ?_, by omega, h5, h5', h6, h7⟩ hF
        rw [w3 j (by omega)]
        unfold del
        by_cases z : j < i
        · rw [if_neg (by omega), if_pos z]
        · rw [if_pos (by omega), if_neg z]
      · rw [zI_le (by omega) (by omega)] at c
        refine gA_i w1 rfl (gA_i w1 rfl ?_)
        rw [show zI k + 1 = zI (k + 1) from zI_add k 1]
        refine aI_i w2 (by omega) (by omega) (sI_i w2 (by omega) (by omega) ?_)
        rintro v rfl
        refine hC _ ⟨k + 1, _, _, rfl, by omega, by omega, ?_, fup_self _ _ _, fun j hj => ?_, hF.trans (Fr.up _ h7 rfl)⟩ ?_
        · rw [fup_ne _ _ (Ne.symm hbr)]; exact w1
        · unfold upd
          by_cases z : j = k
          · subst z
            rw [if_pos rfl, if_pos ⟨k1, by omega⟩, w3 (j + 1) (by omega), if_neg (by omega)]
          · rw [if_neg z, w3 j hj]
            by_cases y : i ≤ j ∧ j < k
            · rw [if_pos y, if_pos ⟨y.1, by omega⟩]
            · rw [if_neg y, if_neg (by omega)]
        · rw [zI_clamp (by omega), zI_clamp (by omega)]; omega
    · rw [fup_ne _ _ hbr]; exact h2
  · exact absurd ((zI_le (by omega) (by omega)).mpr h4) c

