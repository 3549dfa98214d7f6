theorem Z2.pV_g {f : FT} {a ci k : Nat} {v : Value} {fs : List Value} {K : FT → Prop} (h : f a = some (.inr (ci, fs))) (hk : k < fs.length) (hK : ∀ f', f' a = some (.inr (ci, fs.set k v)) → (∀ b, b ≠ a → f' b = f b) → K f') : pV f a ci k v K := pV_i h hk (hK _ (fup_self _ _ _) (fun _ hb => fup_ne _ _ hb))
theorem Z2.nO_g {f : FT} {ci N bc bs : Nat} {fs : List Value} {K : Nat → FT → Prop} (h1 : 1 ≤ bc) (h2 : N ≤ bs) (hK : ∀ q f', f q = none → f' q = some (.inr (ci, fs)) → (∀ b, b ≠ q → f' b = f b) → K q f') : nO f ci fs N bc bs K := by
  refine ⟨h1, h2, ?_⟩
  rintro q hq f1 rfl
  exact hK q _ hq (fup_self _ _ _) (fun _ hb => fup_ne _ _ hb)
theorem Z2.nA_g {f : FT} {t n bc bs : Nat} {K : Nat → Nat → FT → Prop} (hn : n ≤ 100000000) (h1 : 1 ≤ bc) (h2 : n ≤ bs) (hK : ∀ q f', f q = none → f' q = some (.inl (t, n, .inl fun _ => 0)) → (∀ b, b ≠ q → f' b = f b) → K n q f') : nA f t (zI n) bc bs K := by
  refine ⟨zI_neg (by omega), n, zI_clamp (by omega), h1, h2, hn, ?_⟩
  rintro q hq f1 rfl
  exact hK q _ hq (fup_self _ _ _) (fun _ hb => fup_ne _ _ hb)
theorem Z2.ne_of_some {f : FT} {a q : Nat} {e : fE} (h : f a = some e) (hq : f q = none) : a ≠ q := fun z => by rw [z, hq] at h; cases h
theorem Z2.VK_nil : VK [] := ⟨by simp, fun _ h => by cases h⟩
def Z2.okE (f : FT) (o : OW) (w y : Nat) : Prop := ∃ ci vs, f y = some (.inr (ci, vs)) ∧ (ci = 5 ∨ ci = 6) ∧ ∀ r, o y = some r → ¬ r = w
theorem Z2.okE.fr {f f' : FT} {o o' : OW} {w y : Nat} (h : okE f o w y) (F : Fr (fun q => q = w) f o f' o') : okE f' o' w y := by
  obtain ⟨ci, vs, h1, h2, h3⟩ := h
  obtain ⟨p1, p2⟩ := F.get h1 h3
  exact ⟨ci, vs, p1, h2, fun r e => h3 r (by rw [← p2]; exact e)⟩
theorem Z2.okE.e {f : FT} {o : OW} {w y : Nat} (h : okE f o w y) : ∃ ci vs, f y = some (.inr (ci, vs)) ∧ (ci = 5 ∨ ci = 6) := by
  obtain ⟨ci, vs, h1, h2, h3⟩ := h; exact ⟨ci, vs, h1, h2⟩
theorem Z2.KY.ok {f : FT} {o : OW} {a w : Nat} {k : Key} (h : KY f o a k) : okE f o w a := by
  obtain ⟨b, g, h1, h2, h3, h4, -⟩ := h; exact ⟨6, _, h1, Or.inr rfl, fun r e => by rw [h4] at e; cases e⟩
theorem Z2.IR.ok {f : FT} {o : OW} {w w2 r n c : Nat} {l : Nat → Int32} (h : IR f o w r n l c) (hw : w ≠ w2) : okE f o w2 r := by
  obtain ⟨b, g, h1, h2, h3, h4, h5, h6, h7, h8⟩ := h; exact ⟨5, _, h1, Or.inl rfl, fun r e => by rw [h7] at e; cases e; exact hw⟩
theorem Z2.AR.c10 {zd : Nat} {f : FT} {o : OW} {w a n c : Nat} {l : Nat → Nat} (h : AR zd f o w a n l c) : n ≤ c ∧ c ≤ 450 ∧ (c = 0 ∨ 10 ≤ c) := by
  obtain ⟨m, b, x1, x2, x3, x4, x5⟩ := h
  refine ⟨x3, x4, ?_⟩
  rcases x5 with ⟨-, x5⟩ | ⟨-, x5, -⟩
  · exact Or.inl x5
  · exact Or.inr x5
def Z2.AB (zd : Nat) (f : FT) (o : OW) (w a n : Nat) (l : Nat → Nat) (c b : Nat) (g : Nat → Option Nat) : Prop := ∃ m : Int32, f a = some (.inr (2, [.int m, .ref b, .int (zI n)])) ∧ o a = some w ∧ n ≤ c ∧ c ≤ 450 ∧ b ≠ zd ∧ 10 ≤ c ∧ o b = some w ∧ f b = some (.inl (2, c, .inr (.inr (.inr (.inr g))))) ∧ (∀ i, i < n → g i = some (l i))
theorem Z2.AB.ar {zd : Nat} {f : FT} {o : OW} {w a n c b : Nat} {l : Nat → Nat} {g : Nat → Option Nat} (h : AB zd f o w a n l c b g) : AR zd f o w a n l c := by
  obtain ⟨m, x1, x2, x3, x4, x5, x6, x7, x8, x9⟩ := h
  exact ⟨m, b, x1, x2, x3, x4, Or.inr ⟨x5, x6, x7, g, x8, x9⟩⟩
def Z2.ga (c : Nat) : Nat := if c = 0 then 10 else c + c / 2
def Z2.gc (n c : Nat) : Nat := if n = c then ga c else c
theorem Z2.shr1 : ∀ c, c < 512 → zI c >>> ((1 : Int32) &&& 31) = zI (c / 2) := by decide +kernel
theorem Z2.s_newLength {c : Nat} (h1 : 10 ≤ c) (h2 : c ≤ 1000) {f : FT} {K : Int32 → Prop} (hK : K (zI (c + c / 2))) : wp_J8_newLength_cabcc (zI c) (zI (c + 1) - zI c) (zI (c / 2)) f K := by
  rintro v rfl u rfl
  have e : jmax (zI (c + 1) - zI c) (zI (c / 2)) = zI (c / 2) := by
    rw [zI_sub (by omega), show c + 1 - c = 1 by omega]; unfold jmax; rw [if_pos (by rw [zI_lt (by omega) (by omega)]; omega)]
  rw [e, zI_add]
  refine ⟨fun z => ?_, fun _ => ⟨fun z => ?_, fun _ => hK⟩⟩
  · rw [show (0 : Int32) = zI 0 from rfl, zI_le (by omega) (by omega)] at z; omega
  · rw [show (2147483639 : Int32) = zI 2147483639 from rfl, zI_lt (by omega) (by omega)] at z; omega
theorem Z2.s_AL_grow {zd : Nat} {f : FT} {o : OW} {w a n mc ms : Nat} {l : Nat → Nat} (h : AR zd f o w a n l n) (hn : n ≤ 300) (hE : ∀ i, i < n → okE f o w (l i)) (h1 : 1 ≤ mc) (h2 : ga n ≤ ms) {K : Nat → FT → Prop} (hK : ∀ q f' o' g, AB zd f' o' w a n l (ga n) q g → Fr (fun q => q = w) f o f' o' → K q f') : wp_Jx4a65c_grow_d5877 zd a f mc ms K := by
  have ho := h.o
  obtain ⟨m, b, x1, x2, x3, x4, x5⟩ := h
  refine gI_i x1 rfl ⟨mc, ms, Nat.le_refl _, Nat.le_refl _, ho, gA_i x1 rfl ⟨fun hz => ?_, fun hz => ?_⟩⟩
  · rcases x5 with ⟨-, hc⟩ | ⟨hne, -⟩
    · subst hc
      refine ⟨fun z => absurd z (by decide), fun _ => gA_i x1 rfl ⟨fun _ => ?_, fun z => absurd hz z⟩⟩
      rintro v rfl
      refine ⟨by decide, 10, by decide, h1, h2, by omega, ?_⟩
      rintro q hq hqz f1 rfl
      have hqa : a ≠ q := fun e => by rw [← e, x1] at hq; cases hq
      refine pV_i ((fup_ne _ _ hqa).trans x1) (by simp) (hK q _ (oup o q (some w)) (fun _ => none) ⟨m, fup_self _ _ _, by rw [oup_ne _ _ hqa]; exact x2, Nat.zero_le _, by decide, hqz, by decide, oup_self _ _ _, by rw [fup_ne _ _ (Ne.symm hqa)]; exact fup_self _ _ _, fun i hi => absurd hi (Nat.not_lt_zero i)⟩ ?_)
      exact (Fr.new _ (some w) hq).trans (Fr.up _ (by rw [oup_ne _ _ hqa]; exact x2) rfl)
    · exact absurd hz hne
  · rcases x5 with ⟨hb, -⟩ | ⟨-, hc, hob, g, x6, x7⟩
    · exact absurd hb hz
    have eg : ga n = n + n / 2 := if_neg (by omega)
    rw [eg] at hK h2
    refine aL_i x6 (by decide) ⟨fun _ => ?_, fun z => absurd ?_ z⟩
    · unfold wp_Jx4a65c_grow_92f84_20
      rw [shr1 n (by omega), show zI n + 1 = zI (n + 1) from zI_add n 1]
      refine s_newLength hc (by omega) (gA_i x1 rfl ⟨mc, ms, Nat.le_refl _, Nat.le_refl _, ⟨_, x6⟩, mc, ms, Nat.le_refl _, Nat.le_refl _, ?_⟩)
      refine ⟨zI_neg (by omega), n + n / 2, zI_clamp (by omega), h1, h2, by omega, ?_⟩
      rintro q hq hqz f1 rfl
      have hqa : a ≠ q := fun e => by rw [← e, x1] at hq; cases hq
      have hqb : b ≠ q := fun e => by rw [← e, x6] at hq; cases hq
      refine aL_i ((fup_ne _ _ hqb).trans x6) (by decide) ?_
      rintro v rfl
      have e : jmin (zI n) (zI (n + n / 2)) = zI n := by unfold jmin; rw [if_neg (by rw [zI_lt (by omega) (by omega)]; omega)]
      rw [e]
      refine ⟨n, n + n / 2, g, fun _ => none, (fup_ne _ _ hqb).trans x6, fup_self _ _ _, by decide, by decide, zI_neg (by omega), ?_, ?_, ?_, ?_⟩
      · rw [zI_clamp (by omega)]; show 0 + n ≤ n; omega
      · rw [zI_clamp (by omega)]; show 0 + n ≤ n + n / 2; omega
      · intro i hi y hy
        rw [zI_clamp (by omega)] at hi
        have hy : g (0 + i) = some y := hy
        rw [Nat.zero_add, x7 i hi] at hy
        obtain rfl : l i = y := Option.some.inj hy
        exact ((hE i hi).fr (Fr.new _ (some w) hq)).e
      · rintro f1 rfl
        rw [zI_clamp (by omega)]
        have y1 : ∀ e1 e2, fup (fup f q e1) q e2 a = some (.inr (2, [.int m, .ref b, .int (zI n)])) := fun e1 e2 => by
          rw [fup_ne _ _ hqa, fup_ne _ _ hqa]; exact x1
        refine pV_i (y1 _ _) (by simp) (hK q _ (oup o q (some w)) _ ⟨m, fup_self _ _ _, by rw [oup_ne _ _ hqa]; exact x2, by omega, by omega, hqz, by omega, oup_self _ _ _, by rw [fup_ne _ _ (Ne.symm hqa)]; exact fup_self _ _ _, fun i hi => ?_⟩ ?_)
        · unfold va_cpy
          show (if 0 ≤ i ∧ i < 0 + n then g (0 + (i - 0)) else none) = _
          rw [if_pos (by omega), show 0 + (i - 0) = i by omega, x7 i hi]
        · refine ((Fr.new (R := fun q => q = w) _ (some w) hq).trans (Fr.up (R := fun q => q = w) (r := w) _ (oup_self _ _ _) rfl)).trans (Fr.up (R := fun q => q = w) _ (by rw [oup_ne _ _ hqa]; exact x2) rfl)
    · rw [show (0 : Int32) = zI 0 from rfl, zI_lt (by omega) (by omega)]; omega
theorem Z2.s_AL_add38 {zd : Nat} {f : FT} {o : OW} {w a n c b i v bc bs : Nat} {l : Nat → Nat} {g : Nat → Option Nat} (h : AB zd f o w a n l c b g) (hi : i ≤ n) (hc : n < c) (hE : ∀ i, i < n → okE f o w (l i)) (hv : okE f o w v) {K : FT → Prop} (hK : ∀ f', AR zd f' o w a (n + 1) (ins l i v) c → Fr (fun q => q = w) f o f' o → K f') : wp_Jx4a65c_add_7a177_38 zd a (zI i) v (zI n) b f bc bs K := by
  obtain ⟨m, x1, x2, x3, x4, x5, x6, x7, x8, x9⟩ := h
  have hba : b ≠ a := fun e => by rw [e, x1] at x8; cases x8
  unfold wp_Jx4a65c_add_7a177_38
  rw [show zI i + 1 = zI (i + 1) from zI_add i 1, zI_sub hi]
  refine ⟨c, c, g, g, x8, x8, zI_neg (by omega), zI_neg (by omega), zI_neg (by omega), ?_, ?_, ?_, ?_⟩
  · rw [zI_clamp (by omega), zI_clamp (by omega)]; omega
  · rw [zI_clamp (by omega), zI_clamp (by omega)]; omega
  · intro j hj y hy
    rw [zI_clamp (by omega)] at hj hy
    rw [x9 (i + j) (by omega)] at hy
    obtain rfl := Option.some.inj hy
    exact (hE (i + j) (by omega)).e
  · rintro f1 rfl
    obtain ⟨ci, vs, v1, v2, -⟩ := hv
    have hvb : v ≠ b := fun e => by rw [e, x8] at v1; cases v1
    refine ⟨c, _, ci, vs, fup_self _ _ _, in_i (by omega) (by omega), (fup_ne _ _ hvb).trans v1, v2, ?_⟩
    rintro f1 rfl
    have y1 : ∀ e1 e2, fup (fup f b e1) b e2 a = some (.inr (2, [.int m, .ref b, .int (zI n)])) := fun e1 e2 => by
      rw [fup_ne _ _ (Ne.symm hba), fup_ne _ _ (Ne.symm hba)]; exact x1
    rw [show zI n + 1 = zI (n + 1) from zI_add n 1]
    refine pV_i (y1 _ _) (by simp) (hK _ ⟨m, b, fup_self _ _ _, x2, hc, x4, Or.inr ⟨x5, x6, x7, _, by rw [fup_ne _ _ hba]; exact fup_self _ _ _, fun j hj => ?_⟩⟩ ?_)
    · rw [zI_clamp (show i < 2147483648 by omega), zI_clamp (show i + 1 < 2147483648 by omega), zI_clamp (show n - i < 2147483648 by omega)]
      unfold va_up va_cpy ins
      by_cases z : j = i
      · rw [if_pos z, if_neg (by omega), if_pos z]
      · rw [if_neg z]
        by_cases y : j < i
        · rw [if_neg (by omega), if_pos y]; exact x9 j (by omega)
        · rw [if_pos (by omega), if_neg y, if_neg z, x9 _ (by omega)]; congr 2; omega
    · exact ((Fr.up (R := fun q => q = w) _ x7 rfl).trans (Fr.up (R := fun q => q = w) _ x7 rfl)).trans (Fr.up (R := fun q => q = w) _ x2 rfl)
theorem Z2.AR.ab {zd : Nat} {f : FT} {o : OW} {w a n c : Nat} {l : Nat → Nat} (h : AR zd f o w a n l c) {m : Int32} {b : Nat} (x1 : f a = some (.inr (2, [.int m, .ref b, .int (zI n)]))) (hc : 0 < c) : ∃ g, AB zd f o w a n l c b g := by
  obtain ⟨m', b', y1, y2, y3, y4, y5⟩ := h
  rw [x1] at y1
  have e := Option.some.inj y1
  simp only [Sum.inr.injEq, Prod.mk.injEq, List.cons.injEq, Value.int.injEq, Value.ref.injEq, and_true, true_and] at e
  obtain ⟨rfl, rfl⟩ := e
  rcases y5 with ⟨-, y5⟩ | ⟨y5, y6, y7, g, y8, y9⟩
  · omega
  · exact ⟨g, m, x1, y2, y3, y4, y5, y6, y7, y8, y9⟩
theorem Z2.AR.at0 {zd : Nat} {f : FT} {o : OW} {w a n c : Nat} {l : Nat → Nat} (h : AR zd f o w a n l c) {m : Int32} {b : Nat} (x1 : f a = some (.inr (2, [.int m, .ref b, .int (zI n)]))) : (c = 0 → b = zd) ∧ (0 < c → b ≠ zd ∧ ∃ g, f b = some (.inl (2, c, .inr (.inr (.inr (.inr g)))))) := by
  obtain ⟨m', b', y1, y2, y3, y4, y5⟩ := h
  rw [x1] at y1
  have e := Option.some.inj y1
  simp only [Sum.inr.injEq, Prod.mk.injEq, List.cons.injEq, Value.int.injEq, Value.ref.injEq, and_true, true_and] at e
  obtain ⟨rfl, rfl⟩ := e
  rcases y5 with ⟨y5, y6⟩ | ⟨y5, y6, y7, g, y8, y9⟩
  · exact ⟨fun _ => y5, fun z => by omega⟩
  · exact ⟨fun z => by omega, fun _ => ⟨y5, g, y8⟩⟩
/-- the count of changes goes up -/
theorem Z2.AR.mod {zd : Nat} {f f1 : FT} {o : OW} {w a n c : Nat} {l : Nat → Nat} {m m2 : Int32} {b : Nat} (h : AR zd f o w a n l c) (x1 : f a = some (.inr (2, [.int m, .ref b, .int (zI n)]))) (e1 : f1 a = some (.inr (2, [.int m2, .ref b, .int (zI n)]))) (n1 : ∀ x, x ≠ a → f1 x = f x) : AR zd f1 o w a n l c ∧ Fr (fun q => q = w) f o f1 o := by
  obtain ⟨m', b', y1, y2, y3, y4, y5⟩ := h
  rw [x1] at y1
  have e := Option.some.inj y1
  simp only [Sum.inr.injEq, Prod.mk.injEq, List.cons.injEq, Value.int.injEq, Value.ref.injEq, and_true, true_and] at e
  obtain ⟨rfl, rfl⟩ := e
  refine ⟨⟨m2, b, e1, y2, y3, y4, ?_⟩, fun x hx => ?_⟩
  · rcases y5 with y5 | ⟨y5, y6, y7, g, y8, y9⟩
    · exact Or.inl y5
    · refine Or.inr ⟨y5, y6, y7, g, ?_, y9⟩
      rw [n1 b (fun e => by rw [e, x1] at y8; cases y8)]; exact y8
  · by_cases y : x = a
    · subst y; exact ⟨by rw [e1]; exact Option.some_ne_none _, rfl, fun k => absurd rfl (k w y2)⟩
    · exact ⟨by rw [n1 x y]; exact hx, rfl, fun _ => n1 x y⟩
/-- the length that the list's own array shows -/
theorem Z2.AR.aLz {zd : Nat} {f : FT} {o : OW} {w a n c : Nat} {l : Nat → Nat} (h : AR zd f o w a n l c) {m : Int32} {b : Nat} (x1 : f a = some (.inr (2, [.int m, .ref b, .int (zI n)]))) {K : Int32 → Prop} (hK : K (zI c)) : aLz zd f b K := by
  obtain ⟨h1, h2⟩ := h.at0 x1
  refine ⟨fun z => ?_, fun z => ?_⟩
  · rcases Nat.eq_zero_or_pos c with y | y
    · subst y; exact hK
    · exact absurd z (h2 y).1
  · rcases Nat.eq_zero_or_pos c with y | y
    · exact absurd (h1 y) z
    · obtain ⟨-, g, hg⟩ := h2 y
      exact aL_i hg (by decide) hK
theorem Z2.s_AL_add_i {zd : Nat} {f : FT} {o : OW} {w a n c i v mc ms : Nat} {l : Nat → Nat} (h : AR zd f o w a n l c) (hi : i ≤ n) (hn : n ≤ 300) (hE : ∀ i, i < n → okE f o w (l i)) (hv : okE f o w v) (h1 : n = c → 1 ≤ mc) (h2 : n = c → ga n ≤ ms) {K : FT → Prop} (hK : ∀ f' o', AR zd f' o' w a (n + 1) (ins l i v) (gc n c) → Fr (fun q => q = w) f o f' o' → K f') : wp_Jx4a65c_add_7a177 zd a (zI i) v f mc ms K := by
  have ho := h.o
  have hle : n ≤ c ∧ c ≤ 450 := by obtain ⟨m, b, x1, x2, x3, x4, x5⟩ := id h; exact ⟨x3, x4⟩
  obtain ⟨m, b, x1, -⟩ := id h
  refine ⟨ho, gI_i x1 rfl ⟨fun z => ?_, fun _ => ⟨fun _ => gI_i x1 rfl (pV_g x1 (by simp) (fun f1 e1 n1 => ?_)), fun z => z ?_⟩⟩⟩
  · rw [zI_lt (by omega) (by omega)] at z; omega
  · obtain ⟨A1, F1⟩ := h.mod x1 e1 n1
    have E1 : ∀ i, i < n → okE f1 o w (l i) := fun i hi => (hE i hi).fr F1
    have V1 := hv.fr F1
    refine gI_i e1 rfl (gA_i e1 rfl (A1.aLz e1 ⟨fun z => ?_, fun z => ?_⟩))
    · have hnc : n ≠ c := fun e => z (by rw [e])
      obtain ⟨g, B⟩ := A1.ab e1 (by omega)
      refine s_AL_add38 B hi (by omega) E1 V1 (fun f'' A F3 => hK f'' o ?_ (F1.trans F3))
      unfold gc; rw [if_neg hnc]; exact A
    · rw [zI_inj (by omega) (by omega)] at z
      subst z
      refine ⟨mc, ms, Nat.le_refl _, Nat.le_refl _, ⟨_, e1⟩, s_AL_grow A1 hn E1 (h1 rfl) (h2 rfl) (fun q f' o' g B F2 => ?_)⟩
      have h10 := A1.c10
      refine s_AL_add38 B hi ?_ (fun i hi => (E1 i hi).fr F2) (V1.fr F2) (fun f'' A F3 => hK f'' o' ?_ ((F1.trans F2).trans F3))
      · unfold ga; split <;> omega
      · unfold gc; rw [if_pos rfl]; exact A
  · rw [show (0 : Int32) = zI 0 from rfl, zI_le (by omega) (by omega)]; omega
theorem Z2.s_AL_add11 {zd : Nat} {f : FT} {o : OW} {w a n c b v bc bs : Nat} {l : Nat → Nat} {g : Nat → Option Nat} (h : AB zd f o w a n l c b g) (hc : n < c) (hv : okE f o w v) {K : FT → Prop} (hK : ∀ f', AR zd f' o w a (n + 1) (stt l n v) c → Fr (fun q => q = w) f o f' o → K f') : wp_Jx4a65c_add_72be8_11 zd a v (zI n) b f bc bs K := by
  obtain ⟨m, x1, x2, x3, x4, x5, x6, x7, x8, x9⟩ := h
  have hba : b ≠ a := fun e => by rw [e, x1] at x8; cases x8
  obtain ⟨ci, vs, v1, v2, -⟩ := hv
  refine ⟨c, g, ci, vs, x8, in_i (by omega) (by omega), v1, v2, ?_⟩
  rintro f1 rfl
  have y1 : ∀ e1, fup f b e1 a = some (.inr (2, [.int m, .ref b, .int (zI n)])) := fun e1 => by
    rw [fup_ne _ _ (Ne.symm hba)]; exact x1
  rw [show zI n + 1 = zI (n + 1) from zI_add n 1]
  refine pV_i (y1 _) (by simp) (hK _ ⟨m, b, fup_self _ _ _, x2, hc, x4, Or.inr ⟨x5, x6, x7, _, by rw [fup_ne _ _ hba]; exact fup_self _ _ _, fun j hj => ?_⟩⟩ ((Fr.up (R := fun q => q = w) _ x7 rfl).trans (Fr.up (R := fun q => q = w) _ x2 rfl)))
  rw [zI_clamp (show n < 2147483648 by omega)]
  unfold va_up stt
  by_cases z : j = n
  · rw [if_pos z, if_pos z]
  · rw [if_neg z, if_neg z]; exact x9 j (by omega)
theorem Z2.s_AL_add {zd : Nat} {f : FT} {o : OW} {w a n c v mc ms : Nat} {l : Nat → Nat} (h : AR zd f o w a n l c) (hn : n ≤ 300) (hE : ∀ i, i < n → okE f o w (l i)) (hv : okE f o w v) (h1 : n = c → 1 ≤ mc) (h2 : n = c → ga n ≤ ms) {K : Int32 → FT → Prop} (hK : ∀ f' o', AR zd f' o' w a (n + 1) (stt l n v) (gc n c) → Fr (fun q => q = w) f o f' o' → K 1 f') : wp_Jx4a65c_add_9ea2d zd a v f mc ms K := by
  have ho := h.o
  have hle : n ≤ c ∧ c ≤ 450 := by obtain ⟨m, b, x1, x2, x3, x4, x5⟩ := id h; exact ⟨x3, x4⟩
  obtain ⟨m, b, x1, -⟩ := id h
  refine gI_i x1 rfl (pV_g x1 (by simp) (fun f1 e1 n1 => ?_))
  obtain ⟨A1, F1⟩ := h.mod x1 e1 n1
  have E1 : ∀ i, i < n → okE f1 o w (l i) := fun i hi => (hE i hi).fr F1
  have V1 := hv.fr F1
  refine gA_i e1 rfl (gI_i e1 rfl ⟨mc, ms, Nat.le_refl _, Nat.le_refl _, ⟨_, e1⟩, A1.aLz e1 ⟨fun z => ?_, fun z => ?_⟩⟩)
  · have hnc : n ≠ c := fun e => z (by rw [e])
    obtain ⟨g, B⟩ := A1.ab e1 (by omega)
    refine s_AL_add11 B (by omega) V1 (fun f'' A F3 => hK f'' o ?_ (F1.trans F3))
    unfold gc; rw [if_neg hnc]; exact A
  · rw [zI_inj (by omega) (by omega)] at z
    subst z
    refine ⟨mc, ms, Nat.le_refl _, Nat.le_refl _, ⟨_, e1⟩, s_AL_grow A1 hn E1 (h1 rfl) (h2 rfl) (fun q f' o' g B F2 => ?_)⟩
    have h10 := A1.c10
    refine s_AL_add11 B ?_ (V1.fr F2) (fun f'' A F3 => hK f'' o' ?_ ((F1.trans F2).trans F3))
    · unfold ga; split <;> omega
    · unfold gc; rw [if_pos rfl]; exact A
theorem Z2.s_AL_set {zd : Nat} {f : FT} {o : OW} {w a n c i v : Nat} {l : Nat → Nat} (h : AR zd f o w a n l c) (hi : i < n) (hv : okE f o w v) {K : Nat → FT → Prop} (hK : ∀ q f', AR zd f' o w a n (stt l i v) c → Fr (fun q => q = w) f o f' o → K q f') : wp_Jx4a65c_set_bcc79 a (zI i) v f K := by
  have ho := h.o
  have hn := h.le
  obtain ⟨m, b, x1, -⟩ := id h
  obtain ⟨g, B⟩ := h.ab x1 (by obtain ⟨m, b, x1, x2, x3, x4, x5⟩ := id h; omega)
  refine gI_i x1 rfl (s_check hi (by omega) ⟨ho, s_AL_data h hi (gA_i x1 rfl ?_)⟩)
  obtain ⟨m', z1, x2, x3, x4, x5, x6, x7, x8, x9⟩ := B
  have hba : b ≠ a := fun e => by rw [e, x1] at x8; cases x8
  obtain ⟨ci, vs, v1, v2, -⟩ := hv
  refine ⟨c, g, ci, vs, x8, in_i (by omega) (by omega), v1, v2, ?_⟩
  rintro f1 rfl
  refine hK _ _ ⟨m, b, by rw [fup_ne _ _ (Ne.symm hba)]; exact x1, x2, x3, x4, Or.inr ⟨x5, x6, x7, _, fup_self _ _ _, fun j hj => ?_⟩⟩ (Fr.up _ x7 rfl)
  rw [zI_clamp (show i < 2147483648 by omega)]
  unfold va_up stt
  by_cases z : j = i
  · rw [if_pos z, if_pos z]
  · rw [if_neg z, if_neg z]; exact x9 j (by omega)
theorem Z2.s_AL_rem34 {zd : Nat} {f : FT} {o : OW} {w a n c b : Nat} {m : Int32} {l : Nat → Nat} {g : Nat → Option Nat} (x1 : f a = some (.inr (2, [.int m, .ref b, .int (zI (n + 1))]))) (x2 : o a = some w) (x3 : n < c) (x4 : c ≤ 450) (x5 : b ≠ zd) (x6 : 10 ≤ c) (x7 : o b = some w) (x8 : f b = some (.inl (2, c, .inr (.inr (.inr (.inr g)))))) (x9 : ∀ i, i < n → g i = some (l i)) {K : FT → Prop} (hK : ∀ f', AR zd f' o w a n l c → Fr (fun q => q = w) f o f' o → K f') : wp_Jx4a65c_fastRemove_b59b0_34 a b (zI n) f K := by
  have hba : b ≠ a := fun e => by rw [e, x1] at x8; cases x8
  refine pV_i x1 (by simp) ?_
  have y8 : ∀ e1, fup f a e1 b = some (.inl (2, c, .inr (.inr (.inr (.inr g))))) := fun e1 => by rw [fup_ne _ _ hba]; exact x8
  refine ⟨c, g, y8 _, in_i (by omega) (by omega), ?_⟩
  rintro f1 rfl
  refine hK _ ⟨m, b, by rw [fup_ne _ _ (Ne.symm hba)]; exact fup_self _ _ _, x2, by omega, x4, Or.inr ⟨x5, x6, x7, _, fup_self _ _ _, fun j hj => ?_⟩⟩ ((Fr.up (R := fun q => q = w) _ x2 rfl).trans (Fr.up (R := fun q => q = w) _ x7 rfl))
  rw [zI_clamp (show n < 2147483648 by omega)]
  unfold va_up
  rw [if_neg (by omega)]; exact x9 j hj
theorem Z2.s_AL_remove {zd : Nat} {f : FT} {o : OW} {w a n c i : Nat} {l : Nat → Nat} (h : AR zd f o w a n l c) (hi : i < n) (hE : ∀ i, i < n → okE f o w (l i)) {K : Nat → FT → Prop} (hK : ∀ q f', AR zd f' o w a (n - 1) (del l i) c → Fr (fun q => q = w) f o f' o → K q f') : wp_Jx4a65c_remove_915e3 a (zI i) f K := by
  have ho := h.o
  have hn := h.le
  obtain ⟨m, b, x1, -⟩ := id h
  obtain ⟨g, B⟩ := h.ab x1 (by obtain ⟨m, b, x1, x2, x3, x4, x5⟩ := id h; omega)
  obtain ⟨m', z1, x2, x3, x4, x5, x6, x7, x8, x9⟩ := B
  have hba : b ≠ a := fun e => by rw [e, x1] at x8; cases x8
  refine gI_i x1 rfl (s_check hi (by omega) (gA_i x1 rfl (aA_i x8 (by omega) (by omega) (x9 i hi) ⟨ho, gI_i x1 rfl (pV_g x1 (by simp) (fun f1 e1 n1 => ?_))⟩)))
  have F1 : Fr (fun q => q = w) f o f1 o := (h.mod x1 e1 n1).2
  have E1 : ∀ i, i < n → okE f1 o w (l i) := fun i hi => (hE i hi).fr F1
  have y8 : f1 b = some (.inl (2, c, .inr (.inr (.inr (.inr g))))) := by rw [n1 b hba]; exact x8
  refine gI_i e1 rfl ?_
  rintro v rfl
  rw [show zI n - 1 = zI (n - 1) from zI_sub (show 1 ≤ n by omega)]
  have en : zI n = zI (n - 1 + 1) := by rw [show n - 1 + 1 = n by omega]
  rw [en] at e1
  refine ⟨fun z => ?_, fun z => ?_⟩
  · rw [zI_le (by omega) (by omega)] at z
    refine s_AL_rem34 e1 x2 (by omega) x4 x5 x6 x7 y8 (l := del l i) (fun j hj => ?_) (fun f' A F => hK _ f' A (F1.trans F))
    unfold del; rw [if_pos (by omega)]; exact x9 j (by omega)
  · rw [zI_le (by omega) (by omega)] at z
    rw [show zI i + 1 = zI (i + 1) from zI_add i 1, zI_sub (show i ≤ n - 1 by omega)]
    refine ⟨c, c, g, g, y8, y8, zI_neg (by omega), zI_neg (by omega), zI_neg (by omega), ?_, ?_, ?_, ?_⟩
    · rw [zI_clamp (by omega), zI_clamp (by omega)]; omega
    · rw [zI_clamp (by omega), zI_clamp (by omega)]; omega
    · intro j hj y hy
      rw [zI_clamp (by omega)] at hj hy
      rw [x9 (i + 1 + j) (by omega)] at hy
      obtain rfl := Option.some.inj hy
      exact (E1 (i + 1 + j) (by omega)).e
    · rintro f2 rfl
      refine s_AL_rem34 (m := m + 1) (l := del l i) ?_ x2 (show n - 1 < c by omega) x4 x5 x6 x7 (fup_self _ _ _) (fun j hj => ?_) (fun f' A F => hK _ f' A ((F1.trans (Fr.up (R := fun q => q = w) _ x7 rfl)).trans F))
      · rw [fup_ne _ _ (Ne.symm hba)]; exact e1
      · rw [zI_clamp (show i < 2147483648 by omega), zI_clamp (show i + 1 < 2147483648 by omega), zI_clamp (show n - 1 - i < 2147483648 by omega)]
        unfold va_cpy del
        by_cases y : j < i
        · rw [if_neg (by omega), if_pos y]; exact x9 j (by omega)
        · rw [if_pos (by omega), if_neg y, x9 _ (by omega)]; congr 2; omega
theorem Z2.s_AL_clear {zd : Nat} {f : FT} {o : OW} {w a n c : Nat} {l : Nat → Nat} (h : AR zd f o w a n l c) {K : FT → Prop} (hK : ∀ f', (∀ l', AR zd f' o w a 0 l' c) → Fr (fun q => q = w) f o f' o → K f') : wp_Jx4a65c_clear_da8c8 a f K := by
  have hn := h.le
  obtain ⟨m, b, x1, x2, x3, x4, x5⟩ := id h
  have e2 : ∀ e1, fup (fup f a e1) a (.inr (2, [.int (m + 1), .ref b, .int 0])) a = some (.inr (2, [.int (m + 1), .ref b, .int 0])) := fun e1 => fup_self _ _ _
  refine gI_i x1 rfl (pV_i x1 (by simp) (gA_i (fup_self _ _ _) rfl (gI_i (fup_self _ _ _) rfl (pV_i (fup_self _ _ _) (by simp) ?_))))
  have F0 : ∀ e1 e2, Fr (fun q => q = w) f o (fup (fup f a e1) a e2) o := fun e1 e2 => (Fr.up (R := fun q => q = w) _ x2 rfl).trans (Fr.up (R := fun q => q = w) _ x2 rfl)
  refine loopW_of (fun s => ∃ k f1, s = (zI k, f1) ∧ k ≤ n ∧ f1 a = some (.inr (2, [.int (m + 1), .ref b, .int (zI 0)])) ∧ Fr (fun q => q = w) f o f1 o ∧ ((b = zd ∧ c = 0) ∨ (b ≠ zd ∧ 10 ≤ c ∧ o b = some w ∧ ∃ g, f1 b = some (.inl (2, c, .inr (.inr (.inr (.inr g)))))))) (fun s => n - s.1.toNatClampNeg) ?_ _ ⟨0, _, rfl, Nat.zero_le _, fup_self _ _ _, F0 _ _, ?_⟩
  · rintro C s ⟨k, f1, rfl, hk, y1, F1, y2⟩ hC
    refine ⟨fun z => ?_, fun z => ?_⟩
    · refine hK f1 (fun l' => ⟨m + 1, b, y1, x2, Nat.zero_le _, x4, ?_⟩) F1
      rcases y2 with y2 | ⟨y2, y3, y4, g, y5⟩
      · exact Or.inl y2
      · exact Or.inr ⟨y2, y3, y4, g, y5, fun i hi => absurd hi (Nat.not_lt_zero i)⟩
    · rw [zI_le (by omega) (by omega)] at z
      rcases y2 with y2 | ⟨y2, y3, y4, g, y5⟩
      · omega
      · refine ⟨c, g, y5, in_i (by omega) (by omega), ?_⟩
        rintro f2 rfl v rfl
        have hba : b ≠ a := fun e => by rw [e, y1] at y5; cases y5
        rw [show zI k + 1 = zI (k + 1) from zI_add k 1]
        refine hC _ ⟨k + 1, _, rfl, by omega, by rw [fup_ne _ _ (Ne.symm hba)]; exact y1, F1.trans (Fr.up (R := fun q => q = w) _ y4 rfl), Or.inr ⟨y2, y3, y4, _, fup_self _ _ _⟩⟩ ?_
        rw [zI_clamp (by omega), zI_clamp (by omega)]; omega
  · rcases x5 with x5 | ⟨y2, y3, y4, g, y5, -⟩
    · exact Or.inl x5
    · have hba : b ≠ a := fun e => by rw [e, x1] at y5; cases y5
      exact Or.inr ⟨y2, y3, y4, g, by rw [fup_ne _ _ hba, fup_ne _ _ hba]; exact y5⟩
theorem Z2.KR.put {zd : Nat} {f f' : FT} {o o' : OW} {w r a q n' c' : Nat} {ad' : Nat → Nat} {l' : Nat → Key} {k : Key} (x1 : f r = some (.inr (7, [.ref a, .ref q]))) (x2 : o r = some w) (x5 : KY f o q k) (F : Fr (fun q => q = w + 50) f o f' o') (A : AR zd f' o' (w + 50) a n' ad' c') (E : ∀ i, i < n' → KY f' o' (ad' i) (l' i)) : KR zd f' o' w r n' l' c' := by
  obtain ⟨p1, p2⟩ := F.get x1 (fun r' e => by rw [x2] at e; cases e; omega)
  exact ⟨a, q, ad', k, p1, p2.trans x2, A, E, x5.fr F⟩
theorem Z2.s_X4_insert {zd : Nat} {f : FT} {o : OW} {w r n c i kv mc ms : Nat} {l : Nat → Key} {k : Key} (h : KR zd f o w r n l c) (hk : KY f o kv k) (hi : i ≤ n) (hn : n ≤ 300) (h1 : n = c → 1 ≤ mc) (h2 : n = c → ga n ≤ ms) {K : FT → Prop} (hK : ∀ f' o', KR zd f' o' w r (n + 1) (ins l i k) (gc n c) → Fr (fun q => q = w + 50) f o f' o' → K f') : wp_X4_insert zd r (zI i) kv f mc ms K := by
  obtain ⟨a, q, ad, k0, x1, x2, x3, x4, x5⟩ := h
  refine ⟨fun z => absurd z (zI_neg (by omega)), fun _ => gA_i x1 rfl ⟨x3.o, s_AL_size x3 ⟨fun z => ?_, fun _ => gA_i x1 rfl ⟨mc, ms, Nat.le_refl _, Nat.le_refl _, x3.o, ?_⟩⟩⟩⟩
  · rw [zI_lt (by omega) (by omega)] at z; omega
  · refine s_AL_add_i x3 hi hn (fun j hj => (x4 j hj).ok) hk.ok h1 h2 (fun f' o' A F => hK f' o' (KR.put x1 x2 x5 F A (fun j hj => ?_)) F)
    unfold ins
    by_cases y : j < i
    · rw [if_pos y, if_pos y]; exact (x4 j (by omega)).fr F
    · rw [if_neg y, if_neg y]
      by_cases z : j = i
      · rw [if_pos z, if_pos z]; exact hk.fr F
      · rw [if_neg z, if_neg z]; exact (x4 (j - 1) (by omega)).fr F
theorem Z2.s_X4_append {zd : Nat} {f : FT} {o : OW} {w r n c kv mc ms : Nat} {l : Nat → Key} {k : Key} (h : KR zd f o w r n l c) (hk : KY f o kv k) (hn : n ≤ 300) (h1 : n = c → 1 ≤ mc) (h2 : n = c → ga n ≤ ms) {K : FT → Prop} (hK : ∀ f' o', KR zd f' o' w r (n + 1) (stt l n k) (gc n c) → Fr (fun q => q = w + 50) f o f' o' → K f') : wp_X4_append zd r kv f mc ms K := by
  obtain ⟨a, q, ad, k0, x1, x2, x3, x4, x5⟩ := h
  refine gA_i x1 rfl ⟨mc, ms, Nat.le_refl _, Nat.le_refl _, x3.o, s_AL_add x3 hn (fun j hj => (x4 j hj).ok) hk.ok h1 h2 (fun f' o' A F => hK f' o' (KR.put x1 x2 x5 F A (fun j hj => ?_)) F)⟩
  unfold stt
  by_cases z : j = n
  · rw [if_pos z, if_pos z]; exact hk.fr F
  · rw [if_neg z, if_neg z]; exact (x4 j (by omega)).fr F
theorem Z2.s_X4_replace {zd : Nat} {f : FT} {o : OW} {w r n c i kv : Nat} {l : Nat → Key} {k : Key} (h : KR zd f o w r n l c) (hk : KY f o kv k) (hi : i < n) {K : FT → Prop} (hK : ∀ f', KR zd f' o w r n (stt l i k) c → Fr (fun q => q = w + 50) f o f' o → K f') : wp_X4_replace r (zI i) kv f K := by
  have hn := h.le
  obtain ⟨a, q, ad, k0, x1, x2, x3, x4, x5⟩ := h
  refine ⟨fun z => absurd z (zI_neg (by omega)), fun _ => gA_i x1 rfl ⟨x3.o, s_AL_size x3 ⟨fun z => ?_, fun _ => gA_i x1 rfl ⟨x3.o, ?_⟩⟩⟩⟩
  · rw [zI_le (by omega) (by omega)] at z; omega
  · refine s_AL_set x3 hi hk.ok (fun _ f' A F => hK f' (KR.put x1 x2 x5 F A (fun j hj => ?_)) F)
    unfold stt
    by_cases z : j = i
    · rw [if_pos z, if_pos z]; exact hk.fr F
    · rw [if_neg z, if_neg z]; exact (x4 j (by omega)).fr F
theorem Z2.s_X4_delete {zd : Nat} {f : FT} {o : OW} {w r n c i : Nat} {l : Nat → Key} (h : KR zd f o w r n l c) (hi : i < n) {K : FT → Prop} (hK : ∀ f', KR zd f' o w r (n - 1) (del l i) c → Fr (fun q => q = w + 50) f o f' o → K f') : wp_X4_delete r (zI i) f K := by
  have hn := h.le
  obtain ⟨a, q, ad, k0, x1, x2, x3, x4, x5⟩ := h
  refine ⟨fun z => absurd z (zI_neg (by omega)), fun _ => gA_i x1 rfl ⟨x3.o, s_AL_size x3 ⟨fun z => ?_, fun _ => gA_i x1 rfl ⟨x3.o, ?_⟩⟩⟩⟩
  · rw [zI_le (by omega) (by omega)] at z; omega
  · refine s_AL_remove x3 hi (fun j hj => (x4 j hj).ok) (fun _ f' A F => hK f' (KR.put x1 x2 x5 F A (fun j hj => ?_)) F)
    unfold del
    by_cases z : j < i
    · rw [if_pos z, if_pos z]; exact (x4 j (by omega)).fr F
    · rw [if_neg z, if_neg z]; exact (x4 (j + 1) (by omega)).fr F
theorem Z2.s_X4_empty {zd : Nat} {f : FT} {o : OW} {w r n c : Nat} {l : Nat → Key} (h : KR zd f o w r n l c) {K : FT → Prop} (hK : ∀ f', (∀ l', KR zd f' o w r 0 l' c) → Fr (fun q => q = w + 50) f o f' o → K f') : wp_X4_empty r f K := by
  obtain ⟨a, q, ad, k0, x1, x2, x3, x4, x5⟩ := h
  exact gA_i x1 rfl ⟨x3.o, s_AL_clear x3 (fun f' A F => hK f' (fun l' => KR.put x1 x2 x5 F (A ad) (fun j hj => absurd hj (Nat.not_lt_zero j))) F)⟩
theorem Z2.s_X4_copyFrom {zd : Nat} {f : FT} {o : OW} {w w2 r s n n2 c c2 mc ms : Nat} {l l2 : Nat → Key} (h : KR zd f o w r n l c) (h2 : KR zd f o w2 s n2 l2 c2) (hw : w2 ≠ w + 50 ∧ w2 ≠ w) (hn : n2 ≤ 300) (hbc : n2 ≤ c + 5 * mc) (hbs : c < n2 → 6 * n2 + 10 ≤ ms + 4 * c) {K : FT → Prop} (hK : ∀ f' o' c', KR zd f' o' w r n2 l2 c' → Fr (fun q => q = w + 50) f o f' o' → K f') : wp_X4_copyFrom zd r s f mc ms K := by
  obtain ⟨a, q, ad, k0, x1, x2, x3, x4, x5⟩ := h
  refine gA_i x1 rfl ⟨x3.o, s_AL_clear x3 (fun f0 A0 F0 => ?_)⟩
  have R0 : KR zd f0 o w r 0 l2 c := KR.put x1 x2 x5 F0 (A0 ad) (fun j hj => absurd hj (Nat.not_lt_zero j))
  refine loopW_of (fun st => ∃ k f1 o1 c1 bc bs, st = (zI k, f1, bc, bs) ∧ k ≤ n2 ∧ KR zd f1 o1 w r k l2 c1 ∧ Fr (fun q => q = w + 50) f o f1 o1 ∧ n2 ≤ c1 + 5 * bc ∧ (c1 < n2 → 6 * n2 + 10 ≤ bs + 4 * c1)) (fun st => n2 - st.1.toNatClampNeg) ?_ _ ⟨0, f0, o, c, mc, ms, rfl, Nat.zero_le _, R0, F0, hbc, hbs⟩
  rintro C st ⟨k, f1, o1, c1, bc, bs, rfl, hk, R, F, gb, gs⟩ hC
  have S := h2.fr F (by omega) (by omega)
  obtain ⟨a', q', ad', k', y1, y2, y3, y4, y5⟩ := id R
  obtain ⟨b', p', bd', j', z1, z2, z3, z4, z5⟩ := S
  refine gA_i z1 rfl ⟨z3.o, s_AL_size z3 ⟨fun cc => ?_, fun cc => gA_i y1 rfl (gA_i z1 rfl ⟨z3.o, ?_⟩)⟩⟩
  · rw [zI_le (by omega) (by omega)] at cc
    have : k = n2 := by omega
    subst this
    exact hK f1 o1 c1 R F
  · rw [zI_le (by omega) (by omega)] at cc
    refine s_AL_get z3 (show k < n2 by omega) ⟨(z4 k (by omega)).o, ?_⟩
    obtain ⟨h1, h2, h3⟩ := y3.c10
    by_cases z : k = c1
    · have gs := gs (by omega)
      refine ⟨1, ga c1, by omega, by unfold ga; split <;> omega, y3.o, s_AL_add y3 (by omega) (fun j hj => (y4 j hj).ok) (z4 k (by omega)).ok (fun _ => Nat.le_refl _) (fun _ => by rw [z]; exact Nat.le_refl _) (fun f' o' A G => ?_)⟩
      rintro v rfl
      rw [show zI k + 1 = zI (k + 1) from zI_add k 1]
      have eg : gc k c1 = ga c1 := if_pos z
      rw [eg] at A
      refine hC _ ⟨k + 1, f', o', ga c1, bc - 1, bs - ga c1, rfl, by omega, KR.put y1 y2 y5 G A (fun j hj => ?_), F.trans G, ?_, ?_⟩ ?_
      · unfold stt
        by_cases y : j = k
        · rw [if_pos y, y]; exact (z4 k (by omega)).fr G
        · rw [if_neg y]; exact (y4 j (by omega)).fr G
      · unfold ga; split <;> omega
      · unfold ga; split <;> omega
      · rw [zI_clamp (by omega), zI_clamp (by omega)]; omega
    · refine ⟨0, 0, Nat.zero_le _, Nat.zero_le _, y3.o, s_AL_add y3 (by omega) (fun j hj => (y4 j hj).ok) (z4 k (by omega)).ok (fun y => absurd y z) (fun y => absurd y z) (fun f' o' A G => ?_)⟩
      rintro v rfl
      rw [show zI k + 1 = zI (k + 1) from zI_add k 1]
      have eg : gc k c1 = c1 := if_neg z
      rw [eg] at A
      refine hC _ ⟨k + 1, f', o', c1, bc - 0, bs - 0, rfl, by omega, KR.put y1 y2 y5 G A (fun j hj => ?_), F.trans G, gb, gs⟩ ?_
      · unfold stt
        by_cases y : j = k
        · rw [if_pos y, y]; exact (z4 k (by omega)).fr G
        · rw [if_neg y]; exact (y4 j (by omega)).fr G
      · rw [zI_clamp (by omega), zI_clamp (by omega)]; omega
theorem Z2.s_X4_init {zd : Nat} {f : FT} {o : OW} {w r mc ms : Nat} {v0 v1 : Value} (h : f r = some (.inr (7, [v0, v1]))) (ho : o r = some w) (h1 : 3 ≤ mc) (h2 : 4 ≤ ms) {K : FT → Prop} (hK : ∀ f' o', (∀ l, KR zd f' o' w r 0 l 0) → Fr (fun q => q = w) f o f' o' → K f') : wp_X4_init zd r f mc ms K := by
  refine nO_g (by omega) (by omega) (fun q1 f1 hq1 a1 n1 => pV_g a1 (by simp) (fun f2 a2 n2 => pV_g a2 (by simp) (fun f3 a3 n3 => ?_)))
  have hr1 := ne_of_some h hq1
  have r3 : f3 r = some (.inr (7, [v0, v1])) := by rw [n3 r hr1, n2 r hr1, n1 r hr1]; exact h
  refine pV_g r3 (by simp) (fun f4 r4 n4 => nO_g (by omega) (by omega) (fun q9 f5 hq9 b5 n5 => nA_g (n := 0) (by omega) (by omega) (by omega) (fun p f6 hp c6 n6 => pV_g (fs := [.null]) ?_ (by simp) (fun f7 b7 n7 => pV_g (fs := [.ref q1, v1]) ?_ (by simp) (fun f8 r8 n8 => ?_)))))
  · rw [n6 q9 (ne_of_some b5 hp)]; exact b5
  · have hr9 := ne_of_some r4 hq9
    have e5 : f5 r = some (.inr (7, [.ref q1, v1])) := by rw [n5 r hr9]; exact r4
    rw [n7 r hr9, n6 r (ne_of_some e5 hp)]; exact e5
  · have hr9 := ne_of_some r4 hq9
    have e5 : f5 r = some (.inr (7, [.ref q1, v1])) := by rw [n5 r hr9]; exact r4
    have hrp := ne_of_some e5 hp
    have a4 : f4 q1 = some (.inr (2, [.int 0, .ref zd, .int 0])) := by rw [n4 q1 (Ne.symm hr1)]; exact a3
    have h19 := ne_of_some a4 hq9
    have a5 : f5 q1 = some (.inr (2, [.int 0, .ref zd, .int 0])) := by rw [n5 q1 h19]; exact a4
    have h1p := ne_of_some a5 hp
    have h9p := ne_of_some b5 hp
    have f9 : f q9 = none := by rw [n4 q9 (Ne.symm hr9), n3 q9 (Ne.symm h19), n2 q9 (Ne.symm h19), n1 q9 (Ne.symm h19)] at hq9; exact hq9
    have fp : f p = none := by rw [n5 p (Ne.symm h9p), n4 p (Ne.symm hrp), n3 p (Ne.symm h1p), n2 p (Ne.symm h1p), n1 p (Ne.symm h1p)] at hp; exact hp
    refine hK f8 (oup (oup (oup o q1 (some (w + 50))) q9 none) p none) (fun l => ⟨q1, q9, fun _ => 0, [], r8, ?_, ⟨0, zd, ?_, ?_, Nat.le_refl _, by omega, Or.inl ⟨rfl, rfl⟩⟩, fun i hi => absurd hi (Nat.not_lt_zero i), ⟨p, fun _ => 0, ?_, ?_, fun i hi => absurd hi (Nat.not_lt_zero i), ?_, ?_, VK_nil⟩⟩) (fun x hx => ?_)
    · rw [oup_ne _ _ hrp, oup_ne _ _ hr9, oup_ne _ _ hr1]; exact ho
    · rw [n8 q1 (Ne.symm hr1), n7 q1 h19, n6 q1 h1p]; exact a5
    · rw [oup_ne _ _ h1p, oup_ne _ _ h19]; exact oup_self _ _ _
    · rw [n8 q9 (Ne.symm hr9)]; exact b7
    · rw [n8 p (Ne.symm hrp), n7 p (Ne.symm h9p)]; exact c6
    · rw [oup_ne _ _ h9p]; exact oup_self _ _ _
    · exact oup_self _ _ _
    · have x1 : x ≠ q1 := fun e => hx (e ▸ hq1)
      have x9 : x ≠ q9 := fun e => hx (e ▸ f9)
      have xp : x ≠ p := fun e => hx (e ▸ fp)
      by_cases xr : x = r
      · subst xr
        refine ⟨by rw [r8]; exact Option.some_ne_none _, by rw [oup_ne _ _ xp, oup_ne _ _ x9, oup_ne _ _ x1], fun k => absurd rfl (k w ho)⟩
      · have e : f8 x = f x := by rw [n8 x xr, n7 x x9, n6 x xp, n5 x x9, n4 x xr, n3 x x1, n2 x x1, n1 x x1]
        exact ⟨by rw [e]; exact hx, by rw [oup_ne _ _ xp, oup_ne _ _ x9, oup_ne _ _ x1], fun _ => e⟩

def Z2.CU (f : FT) (o : OW) (w a : Nat) (p : Nat → Int32) : Prop := ∃ (b : Nat) (g : Nat → Int32), f a = some (.inr (3, [.ref b])) ∧ f b = some (.inl (1, 4, .inl g)) ∧ (∀ i, i < 4 → g i = p i) ∧ o a = some w ∧ o b = some w
theorem Z2.CU.fr {R : Nat → Prop} {f f' : FT} {o o' : OW} {w a : Nat} {p : Nat → Int32} (h : CU f o w a p) (F : Fr R f o f' o') (hR : ¬ R w) : CU f' o' w a p := by
  obtain ⟨b, g, h1, h2, h3, h4, h5⟩ := h
  obtain ⟨p1, p2⟩ := F.get h1 (fun q e => by rw [h4] at e; cases e; exact hR)
  obtain ⟨q1, q2⟩ := F.get h2 (fun q e => by rw [h5] at e; cases e; exact hR)
  exact ⟨b, g, p1, q1, h3, p2.trans h4, q2.trans h5⟩
theorem Z2.CU.is {f : FT} {o : OW} {w a : Nat} {p : Nat → Int32} (h : CU f o w a p) : isO f a 3 := by obtain ⟨b, g, h1, -⟩ := h; exact ⟨_, h1⟩
theorem Z2.CU.congr {f : FT} {o : OW} {w a : Nat} {p p' : Nat → Int32} (h : CU f o w a p) (e : ∀ i, i < 4 → p i = p' i) : CU f o w a p' := by
  obtain ⟨b, g, h1, h2, h3, h4⟩ := h; exact ⟨b, g, h1, h2, fun i hi => (h3 i hi).trans (e i hi), h4⟩
theorem Z2.s_fill {f : FT} {o : OW} {w b c : Nat} {g : Nat → Int32} (v : Int32) (h : f b = some (.inl (1, c, .inl g))) (hc : c < 2147483648) (ho : o b = some w) {K : FT → Prop} (hK : ∀ f' g', f' b = some (.inl (1, c, .inl g')) → (∀ i, i < c → g' i = v) → (∀ x, x ≠ b → f' x = f x) → K f') : wp_J7_fill_53178 b v f K := by
  refine aL_i h (by decide) ?_
  refine loopW_of (fun st => ∃ k f1 g1, st = (zI k, f1) ∧ k ≤ c ∧ f1 b = some (.inl (1, c, .inl g1)) ∧ (∀ i, i < k → g1 i = v) ∧ (∀ x, x ≠ b → f1 x = f x)) (fun st => c - st.1.toNatClampNeg) ?_ _ ⟨0, f, g, rfl, Nat.zero_le _, h, fun i hi => absurd hi (Nat.not_lt_zero i), fun _ _ => rfl⟩
  rintro C st ⟨k, f1, g1, rfl, hk, e1, e2, e3⟩ hC
  refine ⟨fun z => ?_, fun z => ?_⟩
  · rw [zI_le (by omega) (by omega)] at z
    exact hK f1 g1 e1 (fun i hi => e2 i (by omega)) e3
  · rw [zI_le (by omega) (by omega)] at z
    refine sI_i e1 (by omega) (by omega) ?_
    rintro u rfl
    rw [show zI k + 1 = zI (k + 1) from zI_add k 1]
    refine hC _ ⟨k + 1, _, _, rfl, by omega, fup_self _ _ _, fun i hi => ?_, fun x hx => (fup_ne _ _ hx).trans (e3 x hx)⟩ ?_
    · unfold upd
      by_cases y : i = k
      · rw [if_pos y]
      · rw [if_neg y]; exact e2 i (by omega)
    · rw [zI_clamp (by omega), zI_clamp (by omega)]; omega
theorem Z2.Fr.one {f f' : FT} {o : OW} {w b : Nat} {e e' : fE} (hb : f b = some e) (hb' : f' b = some e') (ho : o b = some w) (n : ∀ x, x ≠ b → f' x = f x) : Fr (fun q => q = w) f o f' o := fun x hx => by
  by_cases y : x = b
  · subst y; exact ⟨by rw [hb']; exact Option.some_ne_none _, rfl, fun k => absurd rfl (k w ho)⟩
  · exact ⟨by rw [n x y]; exact hx, rfl, fun _ => n x y⟩
theorem Z2.s_X0_closeAll {f : FT} {o : OW} {w a : Nat} {p : Nat → Int32} (h : CU f o w a p) {K : FT → Prop} (hK : ∀ f', CU f' o w a (fun _ => -1) → Fr (fun q => q = w) f o f' o → K f') : wp_X0_closeAll a f K := by
  obtain ⟨b, g, h1, h2, h3, h4, h5⟩ := h
  have hab : a ≠ b := fun e => by rw [e, h2] at h1; cases h1
  refine gA_i h1 rfl (s_fill _ h2 (by omega) h5 (fun f' g' e1 e2 e3 => hK f' ⟨b, g', by rw [e3 a hab]; exact h1, e1, e2, h4, h5⟩ (Fr.one h2 e1 h5 e3)))
theorem Z2.s_X0_place {f : FT} {o : OW} {w a i : Nat} {p : Nat → Int32} (h : CU f o w a p) (hi : i < 4) (v : Int32) {K : FT → Prop} (hK : ∀ f', CU f' o w a (stt p i v) → Fr (fun q => q = w) f o f' o → K f') : wp_X0_place a (zI i) v f K := by
  obtain ⟨b, g, h1, h2, h3, h4, h5⟩ := h
  have hab : a ≠ b := fun e => by rw [e, h2] at h1; cases h1
  refine ⟨fun z => absurd z (zI_neg (by omega)), fun _ => gA_i h1 rfl (aL_i h2 (by decide) ⟨fun z => ?_, fun _ => gA_i h1 rfl (sI_i h2 (by omega) (by omega) (hK _ ⟨b, _, by rw [fup_ne _ _ hab]; exact h1, fup_self _ _ _, fun j hj => ?_, h4, h5⟩ (Fr.up _ h5 rfl)))⟩)⟩
  · rw [zI_le (by omega) (by omega)] at z; omega
  · unfold upd stt; split
    · rfl
    · exact h3 j hj
theorem Z2.s_X0_placeOf {f : FT} {o : OW} {w a i : Nat} {p : Nat → Int32} (h : CU f o w a p) (hi : i < 4) {K : Int32 → Prop} (hK : K (p i)) : wp_X0_placeOf a (zI i) f K := by
  obtain ⟨b, g, h1, h2, h3, h4, h5⟩ := h
  refine ⟨fun z => absurd z (zI_neg (by omega)), fun _ => gA_i h1 rfl (aL_i h2 (by decide) ⟨fun z => ?_, fun _ => gA_i h1 rfl (aI_i h2 (by omega) (by omega) (by rw [h3 i hi]; exact hK))⟩)⟩
  rw [zI_le (by omega) (by omega)] at z; omega
def Z2.adv (p q : Nat → Int32) (k : Nat) : Nat → Int32 := fun i => if i < k then q i else p i
theorem Z2.adv_lt (p q : Nat → Int32) {k i : Nat} (h : i < k) : adv p q k i = q i := if_pos h
theorem Z2.adv_ge (p q : Nat → Int32) {k i : Nat} (h : k ≤ i) : adv p q k i = p i := if_neg (by omega)
theorem Z2.adv_step (p q : Nat → Int32) (k i : Nat) : adv p q (k + 1) i = if i = k then q k else adv p q k i := by
  unfold adv
  by_cases u : i = k
  · rw [if_pos u, if_pos (by omega), u]
  · rw [if_neg u]
    by_cases u2 : i < k
    · rw [if_pos u2, if_pos (by omega)]
    · rw [if_neg u2, if_neg (by omega)]
theorem Z2.s_X0_entryAdded {f : FT} {o : OW} {w a : Nat} {p : Nat → Int32} (h : CU f o w a p) (x : Int32) {K : FT → Prop} (hK : ∀ f', CU f' o w a (fun i => if p i < x then p i else p i + 1) → Fr (fun q => q = w) f o f' o → K f') : wp_X0_entryAdded a x f K := by
  obtain ⟨q, hq⟩ : ∃ q : Nat → Int32, q = fun i => if p i < x then p i else p i + 1 := ⟨_, rfl⟩
  have hq2 : ∀ i, q i = if p i < x then p i else p i + 1 := fun i => by rw [hq]
  rw [← hq] at hK
  refine loopW_of (fun st => ∃ k f1, st = (zI k, f1) ∧ k ≤ 4 ∧ CU f1 o w a (adv p q k) ∧ Fr (fun q => q = w) f o f1 o) (fun st => 4 - st.1.toNatClampNeg) ?_ _ ⟨0, f, rfl, by omega, h.congr (fun i _ => rfl), Fr.refl _ _ _⟩
  rintro C st ⟨k, f1, rfl, hk, U, F⟩ hC
  have U2 := U
  obtain ⟨b, g, h1, h2, h3, h4, h5⟩ := U
  have hab : a ≠ b := fun e => by rw [e, h2] at h1; cases h1
  refine gA_i h1 rfl (aL_i h2 (by decide) ⟨fun z => ?_, fun z => gA_i h1 rfl ?_⟩)
  · rw [zI_le (by omega) (by omega)] at z
    exact hK f1 (U2.congr (fun i hi => adv_lt p q (by omega))) F
  · rw [zI_le (by omega) (by omega)] at z
    have e3 : g k = p k := (h3 k (by omega)).trans (adv_ge p q (Nat.le_refl k))
    have hlt : 4 - (zI (k + 1)).toNatClampNeg < 4 - (zI k).toNatClampNeg := by rw [zI_clamp (by omega), zI_clamp (by omega)]; omega
    refine aI_i h2 (by omega) (by omega) ⟨fun y => ?_, fun y => gA_i h1 rfl (aI_i h2 (by omega) (by omega) (sI_i h2 (by omega) (by omega) ?_))⟩
    · rw [e3] at y
      rintro v rfl
      rw [show zI k + 1 = zI (k + 1) from zI_add k 1]
      refine hC _ ⟨k + 1, f1, rfl, by omega, U2.congr (fun i hi => ?_), F⟩ hlt
      rw [adv_step]
      by_cases u : i = k
      · rw [if_pos u, u, adv_ge p q (Nat.le_refl k), hq2, if_pos y]
      · rw [if_neg u]
    · rw [e3] at y
      rintro v rfl
      rw [show zI k + 1 = zI (k + 1) from zI_add k 1]
      refine hC _ ⟨k + 1, _, rfl, by omega, ⟨b, _, by rw [fup_ne _ _ hab]; exact h1, fup_self _ _ _, fun i hi => ?_, h4, h5⟩, F.trans (Fr.up _ h5 rfl)⟩ hlt
      rw [adv_step]
      unfold upd
      by_cases u : i = k
      · rw [if_pos u, if_pos u, hq2, if_neg y, e3]
      · rw [if_neg u, if_neg u]; exact h3 i hi
theorem Z2.s_X0_entryRemoved {f : FT} {o : OW} {w a : Nat} {p : Nat → Int32} (h : CU f o w a p) (x : Int32) {K : FT → Prop} (hK : ∀ f', CU f' o w a (fun i => if p i ≤ x then p i else p i - 1) → Fr (fun q => q = w) f o f' o → K f') : wp_X0_entryRemoved a x f K := by
  obtain ⟨q, hq⟩ : ∃ q : Nat → Int32, q = fun i => if p i ≤ x then p i else p i - 1 := ⟨_, rfl⟩
  have hq2 : ∀ i, q i = if p i ≤ x then p i else p i - 1 := fun i => by rw [hq]
  rw [← hq] at hK
  refine loopW_of (fun st => ∃ k f1, st = (zI k, f1) ∧ k ≤ 4 ∧ CU f1 o w a (adv p q k) ∧ Fr (fun q => q = w) f o f1 o) (fun st => 4 - st.1.toNatClampNeg) ?_ _ ⟨0, f, rfl, by omega, h.congr (fun i _ => rfl), Fr.refl _ _ _⟩
  rintro C st ⟨k, f1, rfl, hk, U, F⟩ hC
  have U2 := U
  obtain ⟨b, g, h1, h2, h3, h4, h5⟩ := U
  have hab : a ≠ b := fun e => by rw [e, h2] at h1; cases h1
  refine gA_i h1 rfl (aL_i h2 (by decide) ⟨fun z => ?_, fun z => gA_i h1 rfl ?_⟩)
  · rw [zI_le (by omega) (by omega)] at z
    exact hK f1 (U2.congr (fun i hi => adv_lt p q (by omega))) F
  · rw [zI_le (by omega) (by omega)] at z
    have e3 : g k = p k := (h3 k (by omega)).trans (adv_ge p q (Nat.le_refl k))
    have hlt : 4 - (zI (k + 1)).toNatClampNeg < 4 - (zI k).toNatClampNeg := by rw [zI_clamp (by omega), zI_clamp (by omega)]; omega
    refine aI_i h2 (by omega) (by omega) ⟨fun y => ?_, fun y => gA_i h1 rfl (aI_i h2 (by omega) (by omega) (sI_i h2 (by omega) (by omega) ?_))⟩
    · rw [e3] at y
      rintro v rfl
      rw [show zI k + 1 = zI (k + 1) from zI_add k 1]
      refine hC _ ⟨k + 1, f1, rfl, by omega, U2.congr (fun i hi => ?_), F⟩ hlt
      rw [adv_step]
      by_cases u : i = k
      · rw [if_pos u, u, adv_ge p q (Nat.le_refl k), hq2, if_pos y]
      · rw [if_neg u]
    · rw [e3] at y
      rintro v rfl
      rw [show zI k + 1 = zI (k + 1) from zI_add k 1]
      refine hC _ ⟨k + 1, _, rfl, by omega, ⟨b, _, by rw [fup_ne _ _ hab]; exact h1, fup_self _ _ _, fun i hi => ?_, h4, h5⟩, F.trans (Fr.up _ h5 rfl)⟩ hlt
      rw [adv_step]
      unfold upd
      by_cases u : i = k
      · rw [if_pos u, if_pos u, hq2, if_neg y, e3]
      · rw [if_neg u, if_neg u]; exact h3 i hi
theorem Z2.s_X0_init {f : FT} {o : OW} {w r mc ms : Nat} {v0 : Value} (h : f r = some (.inr (3, [v0]))) (ho : o r = some w) (h1 : 1 ≤ mc) (h2 : 4 ≤ ms) {K : FT → Prop} (hK : ∀ f' o', CU f' o' w r (fun _ => -1) → Fr (fun q => q = w) f o f' o' → K f') : wp_X0_init r f mc ms K := by
  refine nA_g (n := 4) (by omega) h1 h2 (fun q f1 hq b1 n1 => ?_)
  have hrq := ne_of_some h hq
  refine pV_g (fs := [v0]) (by rw [n1 r hrq]; exact h) (by simp) (fun f2 r2 n2 => gA_i r2 rfl ?_)
  have b2 : f2 q = some (.inl (1, 4, .inl fun _ => 0)) := by rw [n2 q (Ne.symm hrq)]; exact b1
  have oq : oup o q (some w) q = some w := oup_self _ _ _
  refine s_fill _ b2 (by omega) oq (fun f3 g3 b3 e3 n3 => hK f3 (oup o q (some w)) ⟨q, g3, by rw [n3 r hrq]; exact r2, b3, e3, by rw [oup_ne _ _ hrq]; exact ho, oq⟩ (fun x hx => ?_))
  have xq : x ≠ q := fun e => hx (e ▸ hq)
  by_cases xr : x = r
  · subst xr
    exact ⟨by rw [n3 x xq, r2]; exact Option.some_ne_none _, oup_ne _ _ xq, fun k => absurd rfl (k w ho)⟩
  · have e : f3 x = f x := by rw [n3 x xq, n2 x xr, n1 x xq]
    exact ⟨by rw [e]; exact hx, oup_ne _ _ xq, fun _ => e⟩

