/-- a longer copy of an array of ints -/
theorem Z2.s_copyOf_int {f : FT} {a c m mc ms : Nat} {g : Nat → Int32} (h : f a = some (.inl (1, c, .inl g))) (hc : c < m) (hm : m ≤ 1000000) (h1 : 1 ≤ mc) (h2 : m ≤ ms) {K : Nat → FT → Prop} (hK : ∀ (q : Nat) (g' : Nat → Int32) (f' : FT), f q = none → (∀ i, i < c → g' i = g i) → f' q = some (.inl (1, m, .inl g')) → (∀ b, b ≠ q → f' b = f b) → K q f') : wp_J7_copyOf_59c91 a (zI m) f mc ms K := by
  refine aL_i h (by decide) ⟨fun _ => ?_, fun e => ?_⟩
  · refine ⟨zI_neg (by omega), m, zI_clamp (by omega), h1, h2, by omega, ?_⟩
    rintro q hq f1 rfl
    have hqa : a ≠ q := fun e => by rw [← e, h] at hq; cases hq
    refine aL_i ((fup_ne _ _ hqa).trans h) (by decide) ?_
    rintro v rfl
    have e : jmin (zI c) (zI m) = zI c := by unfold jmin; rw [if_neg (by rw [zI_lt (by omega) (by omega)]; omega)]
    rw [e]
    refine ⟨c, m, g, _, (fup_ne _ _ hqa).trans h, fup_self _ _ _, by decide, by decide, zI_neg (by omega), ?_, ?_, fun _ _ => rfl, ?_⟩
    · rw [zI_clamp (by omega)]; exact Nat.le_of_eq (Nat.zero_add c)
    · rw [zI_clamp (by omega)]; show 0 + c ≤ m; omega
    · rintro f1 rfl
      refine hK q _ _ hq (fun i hi => ?_) (fup_self _ _ _) (fun b hb => by rw [fup_ne _ _ hb, fup_ne _ _ hb])
      rw [zI_clamp (by omega)]
      unfold va_cpy
      show (if 0 ≤ i ∧ i < 0 + c then g (0 + (i - 0)) else 0) = g i
      rw [if_pos (by omega)]; congr 1; omega
  · rw [zI_inj (by omega) (by omega)] at e; omega
/-- the row's array is full: what its length is then -/
def Z2.gr (n c : Nat) : Nat := if n = c then c + c else c
theorem Z2.s_X2_insert_45 {f : FT} {o : OW} {w r n c i bc bs : Nat} {l : Nat → Int32} (h : IR f o w r n l c) (hi : i ≤ n) (hn : n < c) (v : Int32) {K : FT → Prop} (hK : ∀ f', IR f' o w r (n + 1) (ins l i v) c → Fr (fun q => q = w) f o f' o → K f') : wp_X2_insert_45 r (zI i) v f bc bs K := by
  have hle := h.le
  obtain ⟨b, g, h1, h2, h3, h4, h5, h5', h6, h7⟩ := id h
  have hbr : b ≠ r := fun e => by rw [e, h1] at h2; cases h2
  refine ⟨fun cc => absurd cc (zI_neg (by omega)), fun _ => gI_i h1 rfl ⟨fun cc => ?_, fun _ => gI_i h1 rfl (gA_i h1 rfl (aL_i h2 (by decide) ⟨fun _ => gI_i h1 rfl ?_, fun cc => ?_⟩))⟩⟩
  · rw [zI_lt (by omega) (by omega)] at cc; omega
  · refine loopW_of (fun s => ∃ k f1 g1 bc bs, s = (zI k, f1, bc, bs) ∧ i ≤ k ∧ k ≤ n ∧ f1 r = some (.inr (5, [.ref b, .int (zI n)])) ∧ f1 b = some (.inl (1, c, .inl g1)) ∧ (∀ j, j < n + 1 → (j ≠ k → g1 j = if k < j then l (j - 1) else l j)) ∧ Fr (fun q => q = w) f o f1 o) (fun s => s.1.toNatClampNeg) ?_ _ ⟨n, f, g, bc, bs, rfl, hi, Nat.le_refl _, h1, h2, fun j hj hk => by rw [if_neg (by omega)]; exact h3 j (by omega), Fr.refl _ _ _⟩
    rintro C s ⟨k, f1, g1, bc, bs, rfl, k1, k2, w1, w2, w3, hF⟩ hC
    refine ⟨fun cc => ?_, fun cc => ?_⟩
    · rw [zI_le (by omega) (by omega)] at cc
      refine gA_i w1 rfl (sI_i w2 (by omega) (by omega) ?_)
      have e1 : fup f1 b (.inl (1, c, .inl (upd g1 i v))) r = some (.inr (5, [.ref b, .int (zI n)])) := by rw [fup_ne _ _ (Ne.symm hbr)]; exact w1
      refine gI_i e1 rfl (pV_i e1 (by simp) ?_)
      rw [show zI n + 1 = zI (n + 1) from zI_add n 1]
      refine hK _ ⟨b, upd g1 i v, fup_self _ _ _, by rw [fup_ne _ _ hbr]; exact fup_self _ _ _, fun j hj => ?_, hn, h5, h5', h6, h7⟩ ((hF.trans (Fr.up _ h7 rfl)).trans (Fr.up _ h6 rfl))
      have hik : i = k := by omega
      subst hik
      unfold upd ins
      by_cases z : j = i
      · rw [if_pos z, if_neg (by omega), if_pos z]
      · rw [if_neg z, w3 j hj z]
        by_cases y : j < i
        · rw [if_neg (by omega), if_pos y]
        · rw [if_pos (by omega), if_neg y, if_neg z]
    · rw [zI_le (by omega) (by omega)] at cc
      refine gA_i w1 rfl (gA_i w1 rfl ?_)
      rw [show zI k - 1 = zI (k - 1) from zI_sub (show 1 ≤ k by omega)]
      refine aI_i w2 (by omega) (by omega) (sI_i w2 (by omega) (by omega) ?_)
      rintro w rfl
      rw [zI_pred (by omega)]
      refine hC _ ⟨k - 1, _, _, bc, bs, rfl, by omega, by omega, ?_, fup_self _ _ _, fun j hj hjk => ?_, hF.trans (Fr.up _ h7 rfl)⟩ ?_
      · rw [fup_ne _ _ (Ne.symm hbr)]; exact w1
      · unfold upd
        by_cases z : j = k
        · subst z
          rw [if_pos rfl, if_pos (by omega), w3 (j - 1) (by omega) (by omega), if_neg (by omega)]
        · rw [if_neg z, w3 j hj z]
          by_cases y : k < j
          · rw [if_pos y, if_pos (by omega)]
          · rw [if_neg y, if_neg (by omega)]
      · rw [zI_clamp (by omega), zI_clamp (by omega)]; omega
  · rw [zI_lt (by omega) (by omega)] at cc; omega
theorem Z2.s_X2_insert {f : FT} {o : OW} {w r n c i mc ms : Nat} {l : Nat → Int32} (h : IR f o w r n l c) (hi : i ≤ n) (hn : n < 2048) (v : Int32) (hb : n = c → 1 ≤ mc ∧ c + c ≤ ms) {K : FT → Prop} (hK : ∀ f' o', IR f' o' w r (n + 1) (ins l i v) (gr n c) → Fr (fun q => q = w) f o f' o' → K f') : wp_X2_insert r (zI i) v f mc ms K := by
  have hle := h.le
  obtain ⟨b, g, h1, h2, h3, h4, h5, h5', h6, h7⟩ := id h
  have hbr : b ≠ r := fun e => by rw [e, h1] at h2; cases h2
  refine gI_i h1 rfl (gA_i h1 rfl (aL_i h2 (by decide) ⟨fun cc => ?_, fun cc => gA_i h1 rfl (aL_i h2 (by decide) ⟨fun dd => ?_, fun dd => ?_⟩)⟩))
  · rw [zI_lt (by omega) (by omega)] at cc
    refine s_X2_insert_45 h hi cc v (fun f' hI hF => hK f' o ?_ hF)
    unfold gr; rw [if_neg (by omega)]; exact hI
  · rw [show (4096 : Int32) = zI 4096 from rfl, zI_le (by omega) (by omega)] at dd
    rw [zI_lt (by omega) (by omega)] at cc
    omega
  · rw [zI_lt (by omega) (by omega)] at cc
    have hnc : n = c := by omega
    obtain ⟨b1, b2⟩ := hb hnc
    refine gA_i h1 rfl (gA_i h1 rfl (aL_i h2 (by decide) (gA_i h1 rfl (aL_i h2 (by decide) ⟨1, c + c, b1, b2, ?_⟩))))
    rw [show zI c + zI c = zI (c + c) from zI_add c c]
    refine s_copyOf_int h2 (by omega) (by omega) (Nat.le_refl _) (Nat.le_refl _) (fun q g' f' hq hg' hfq hfo => ?_)
    have hqr : r ≠ q := fun e => by rw [← e, h1] at hq; cases hq
    have e1 : f' r = some (.inr (5, [.ref b, .int (zI n)])) := (hfo r hqr).trans h1
    refine pV_i e1 (by simp) ?_
    have F : Fr (fun q => q = w) f o (fup f' r (.inr (5, ([.ref b, .int (zI n)] : List Value).set 0 (.ref q)))) (oup o q (some w)) := by
      refine Fr.trans (f' := f') (o' := oup o q (some w)) (fun x hx => ?_) (Fr.up _ (by rw [oup_ne _ _ hqr]; exact h6) rfl)
      have hxq : x ≠ q := fun e => hx (e ▸ hq)
      exact ⟨by rw [hfo x hxq]; exact hx, oup_ne _ _ hxq, fun _ => hfo x hxq⟩
    have I : IR (fup f' r (.inr (5, ([.ref b, .int (zI n)] : List Value).set 0 (.ref q)))) (oup o q (some w)) w r n l (c + c) :=
      ⟨q, g', fup_self _ _ _, by rw [fup_ne _ _ (Ne.symm hqr)]; exact hfq, fun j hj => (hg' j (by omega)).trans (h3 j hj), by omega, by omega, by omega, by rw [oup_ne _ _ hqr]; exact h6, oup_self _ _ _⟩
    refine s_X2_insert_45 I hi (by omega) v (fun f2 hI hF => hK f2 (oup o q (some w)) ?_ (F.trans hF))
    unfold gr; rw [if_pos hnc]; exact hI
theorem Z2.s_X2_append {f : FT} {o : OW} {w r n c mc ms : Nat} {l : Nat → Int32} (h : IR f o w r n l c) (hn : n < 2048) (v : Int32) (hb : n = c → 1 ≤ mc ∧ c + c ≤ ms) {K : FT → Prop} (hK : ∀ f' o', IR f' o' w r (n + 1) (stt l n v) (gr n c) → Fr (fun q => q = w) f o f' o' → K f') : wp_X2_append r v f mc ms K := by
  have ho := h.is
  obtain ⟨b, g, h1, -⟩ := id h
  refine gI_i h1 rfl ⟨mc, ms, Nat.le_refl _, Nat.le_refl _, ho, s_X2_insert h (Nat.le_refl _) hn v hb (fun f' o' hI hF => hK f' o' (hI.congr (fun j hj => ?_)) hF)⟩
  unfold ins stt
  by_cases z : j = n
  · rw [if_neg (by omega), if_pos z, if_pos z]
  · rw [if_pos (by omega), if_neg z]
/-- a row is made the same as another: what its array's length is then -/
def Z2.grT (c n c' : Nat) : Prop := (n ≤ c → c' = c) ∧ (c < n → 2 * c ≤ c' ∧ n ≤ c' ∧ c' < 2 * n)
theorem Z2.s_X2_copyFrom {f : FT} {o : OW} {w w2 r s n c n2 c2 mc ms : Nat} {l l2 : Nat → Int32} (h : IR f o w r n l c) (h2 : IR f o w2 s n2 l2 c2) (hrs : w ≠ w2) (hn : n2 < 2048) (hbc : n2 ≤ c * 2 ^ mc) (hbs : c < n2 → 4 * n2 ≤ ms + 2 * c) {K : FT → Prop} (hK : ∀ f' o' c', IR f' o' w r n2 l2 c' → grT c n2 c' → Fr (fun q => q = w) f o f' o' → K f') : wp_X2_copyFrom r s f mc ms K := by
  have hle := h.le
  obtain ⟨b, g, h1, h2', h3, h4, h5, h5', h6, h7⟩ := id h
  have hbr : b ≠ r := fun e => by rw [e, h1] at h2'; cases h2'
  refine pV_i h1 (by simp) ?_
  have F0 : Fr (fun q => q = w) f o (fup f r (.inr (5, ([.ref b, .int (zI n)] : List Value).set 1 (.int 0)))) o := Fr.up _ h6 rfl
  have I0 : IR (fup f r (.inr (5, ([.ref b, .int (zI n)] : List Value).set 1 (.int 0)))) o w r 0 l2 c := ⟨b, g, fup_self _ _ _, by rw [fup_ne _ _ hbr]; exact h2', fun j hj => absurd hj (Nat.not_lt_zero j), Nat.zero_le _, h5, h5', h6, h7⟩
  refine loopW_of (fun st => ∃ k f1 o1 c1 bc bs, st = (zI k, f1, bc, bs) ∧ k ≤ n2 ∧ IR f1 o1 w r k l2 c1 ∧ Fr (fun q => q = w) f o f1 o1 ∧ n2 ≤ c1 * 2 ^ bc ∧ (c1 < n2 → 4 * n2 ≤ bs + 2 * c1) ∧ (c1 = c ∨ (c < n2 ∧ 2 * c ≤ c1 ∧ c1 < 2 * n2))) (fun st => n2 - st.1.toNatClampNeg) ?_ _ ⟨0, _, o, c, mc, ms, rfl, Nat.zero_le _, I0, F0, hbc, hbs, Or.inl rfl⟩
  rintro C st ⟨k, f1, o1, c1, bc, bs, rfl, hk, I, F, gc, gs, gg⟩ hC
  have S := h2.fr F (Ne.symm hrs)
  have hS := S.is
  have hI := I.is
  have hIl := I.le
  have hSl := S.le
  obtain ⟨b3, g3, s1, s2⟩ := id S
  refine gI_i s1 rfl ⟨fun cc => ?_, fun cc => ?_⟩
  · rw [zI_le (by omega) (by omega)] at cc
    have : k = n2 := by omega
    subst this
    refine hK f1 o1 c1 I ⟨fun z => ?_, fun z => ?_⟩ F
    · rcases gg with gg | gg
      · exact gg
      · omega
    · rcases gg with gg | gg
      · omega
      · omega
  · rw [zI_le (by omega) (by omega)] at cc
    refine ⟨hS, s_X2_at S (by omega) ?_⟩
    by_cases z : k = c1
    · have gs := gs (by omega)
      have hbc1 : 1 ≤ bc := by
        rcases Nat.eq_zero_or_pos bc with y | y
        · rw [y, Nat.pow_zero, Nat.mul_one] at gc; omega
        · exact y
      refine ⟨1, c1 + c1, hbc1, by omega, hI, s_X2_append I (by omega) _ (fun _ => ⟨Nat.le_refl _, Nat.le_refl _⟩) (fun f' o' J G => ?_)⟩
      rintro v rfl
      rw [show zI k + 1 = zI (k + 1) from zI_add k 1]
      have eg : gr k c1 = c1 + c1 := if_pos z
      rw [eg] at J
      refine hC _ ⟨k + 1, f', o', c1 + c1, bc - 1, bs - (c1 + c1), rfl, by omega, J.congr (fun j hj => ?_), F.trans G, ?_, fun _ => by omega, Or.inr (by omega)⟩ ?_
      · unfold stt; split
        · rename_i y; rw [y]
        · rfl
      · have : 2 ^ bc = 2 * 2 ^ (bc - 1) := by
          obtain ⟨y, hy⟩ : ∃ y, bc = y + 1 := ⟨bc - 1, by omega⟩
          rw [hy, Nat.add_sub_cancel, Nat.pow_succ]; omega
        rw [this] at gc
        calc n2 ≤ c1 * (2 * 2 ^ (bc - 1)) := gc
          _ = (c1 + c1) * 2 ^ (bc - 1) := by rw [← Nat.mul_assoc, Nat.mul_two]
      · rw [zI_clamp (by omega), zI_clamp (by omega)]; omega
    · refine ⟨0, 0, Nat.zero_le _, Nat.zero_le _, hI, s_X2_append I (by omega) _ (fun y => absurd y z) (fun f' o' J G => ?_)⟩
      rintro v rfl
      rw [show zI k + 1 = zI (k + 1) from zI_add k 1]
      have eg : gr k c1 = c1 := if_neg z
      rw [eg] at J
      refine hC _ ⟨k + 1, f', o', c1, bc - 0, bs - 0, rfl, by omega, J.congr (fun j hj => ?_), F.trans G, gc, gs, gg⟩ ?_
      · unfold stt; split
        · rename_i y; rw [y]
        · rfl
      · rw [zI_clamp (by omega), zI_clamp (by omega)]; omega
/-- a new row -/
theorem Z2.s_X2_init {f : FT} {o : OW} {w r mc ms : Nat} {v0 v1 : Value} (h : f r = some (.inr (5, [v0, v1]))) (ho : o r = some w) (h1 : 1 ≤ mc) (h2 : 16 ≤ ms) {K : FT → Prop} (hK : ∀ f' o', (∀ l, IR f' o' w r 0 l 16) → Fr (fun q => q = w) f o f' o' → K f') : wp_X2_init r f mc ms K := by
  refine ⟨by decide, 16, rfl, h1, h2, by decide, ?_⟩
  rintro q hq f1 rfl
  have hqr : r ≠ q := fun e => by rw [← e, h] at hq; cases hq
  have e1 : fup f q (.inl (1, (16, .inl fun _ => 0))) r = some (.inr (5, [v0, v1])) := (fup_ne _ _ hqr).trans h
  refine pV_i e1 (by simp) (pV_i (fup_self _ _ _) (by simp) ?_)
  have ho' : oup o q (some w) r = some w := by rw [oup_ne _ _ hqr]; exact ho
  refine hK _ (oup o q (some w)) (fun l => ⟨q, fun _ => 0, fup_self _ _ _, ?_, fun j hj => absurd hj (Nat.not_lt_zero j), Nat.zero_le _, by decide, Nat.le_refl _, ho', oup_self _ _ _⟩) (((Fr.new (R := fun q => q = w) _ _ hq).trans (Fr.up (R := fun q => q = w) _ ho' rfl)).trans (Fr.up (R := fun q => q = w) _ ho' rfl))
  rw [fup_ne _ _ (Ne.symm hqr), fup_ne _ _ (Ne.symm hqr)]; exact fup_self _ _ _

theorem Z2.KY_fit {f : FT} {o : OW} {a : Nat} {k : Key} (h : KY f o a k) {b : Nat} {g : Nat → Int32} (h2 : ∀ i, i < k.length → g i = k.getD i 0) : ∀ i, i < k.length → fits .byte (.int (g i)) = true := fun i hi => by
  have e : k.getD i 0 = k[i] := by simp [hi]
  obtain ⟨h3, h4⟩ := h.v.2 k[i] (List.getElem_mem hi)
  rw [h2 i hi, e]
  rw [Int32.le_iff_toInt_le] at h3 h4
  have : (0 : Int32).toInt = 0 := rfl
  have : (127 : Int32).toInt = 127 := rfl
  have : (-128 : Int32).toInt = -128 := rfl
  simp only [fits, Bool.and_eq_true, decide_eq_true_eq]
  rw [Int32.le_iff_toInt_le, Int32.le_iff_toInt_le]; omega
theorem Z2.s_copyOf_byte {f : FT} {a c m mc ms : Nat} {g : Nat → Int32} (h : f a = some (.inl (0, c, .inl g))) (hg : ∀ i, i < c → fits .byte (.int (g i)) = true) (hc : c ≤ 1000000) (hm : m ≤ 1000000) (h1 : 1 ≤ mc) (h2 : m ≤ ms) {K : Nat → FT → Prop} (hK : ∀ (q : Nat) (g' : Nat → Int32) (f' : FT), f q = none → (∀ i, i < m → i < c → g' i = g i) → f' q = some (.inl (0, m, .inl g')) → (∀ b, b ≠ q → f' b = f b) → K q f') : wp_J7_copyOf_9075b a (zI m) f mc ms K := by
  refine aL_i h (by decide) ⟨fun _ => ?_, fun e => ?_⟩
  · refine ⟨zI_neg (by omega), m, zI_clamp (by omega), h1, h2, by omega, ?_⟩
    rintro q hq f1 rfl
    have hqa : a ≠ q := fun e => by rw [← e, h] at hq; cases hq
    refine aL_i ((fup_ne _ _ hqa).trans h) (by decide) ?_
    rintro v rfl
    have e : jmin (zI c) (zI m) = zI (min c m) := by
      unfold jmin
      split
      · rename_i z; rw [zI_lt (by omega) (by omega)] at z; rw [Nat.min_eq_right (by omega)]
      · rename_i z; rw [zI_lt (by omega) (by omega)] at z; rw [Nat.min_eq_left (by omega)]
    rw [e]
    have hmin : min c m ≤ c ∧ min c m ≤ m := ⟨Nat.min_le_left _ _, Nat.min_le_right _ _⟩
    refine ⟨c, m, g, _, (fup_ne _ _ hqa).trans h, fup_self _ _ _, by decide, by decide, zI_neg (by omega), ?_, ?_, ?_, ?_⟩
    · rw [zI_clamp (by omega)]; show 0 + min c m ≤ c; omega
    · rw [zI_clamp (by omega)]; show 0 + min c m ≤ m; omega
    · intro i hi
      rw [zI_clamp (by omega)] at hi
      exact hg (0 + i) (by omega)
    · rintro f1 rfl
      refine hK q _ _ hq (fun i hi hic => ?_) (fup_self _ _ _) (fun b hb => by rw [fup_ne _ _ hb, fup_ne _ _ hb])
      rw [zI_clamp (by omega)]
      unfold va_cpy
      show (if 0 ≤ i ∧ i < 0 + min c m then g (0 + (i - 0)) else 0) = g i
      rw [if_pos (by omega)]; congr 1; omega
  · rw [zI_inj (by omega) (by omega)] at e
    subst e
    refine ⟨m, g, h, hg, h1, h2, ?_⟩
    rintro q hq f1 rfl
    exact ⟨⟨_, fup_self _ _ _⟩, hK q g _ hq (fun _ _ _ => rfl) (fup_self _ _ _) (fun b hb => fup_ne _ _ hb)⟩
theorem Z2.take_getD (x : Key) (n i : Nat) (h : i < n) : (x.take n).getD i 0 = x.getD i 0 := by
  rw [List.getD_eq_getElem?_getD, List.getD_eq_getElem?_getD, List.getElem?_take, if_pos h]
theorem Z2.s_X3_prefix {f : FT} {o : OW} {a n mc ms : Nat} {x : Key} (h : KY f o a x) (hn : n ≤ x.length) (h1 : 2 ≤ mc) (h2 : 13 ≤ ms) {K : Nat → FT → Prop} (hK : ∀ q f' o', KY f' o' q (x.take n) → Fr (fun _ => False) f o f' o' → K q f') : wp_X3_prefix a (zI n) f mc ms K := by
  have hv := h.v
  obtain ⟨b, g, x1, x2, x3, x4, x5, x6⟩ := id h
  have hfit := KY_fit h (b := b) x3
  have hl := hv.1
  refine ⟨by omega, by omega, ?_⟩
  rintro q hq f1 rfl
  have qa : a ≠ q := fun e => by rw [← e, x1] at hq; cases hq
  have qb : b ≠ q := fun e => by rw [← e, x2] at hq; cases hq
  have y1 : fup f q (.inr (6, [.null])) a = some (.inr (6, [.ref b])) := (fup_ne _ _ qa).trans x1
  have y2 : fup f q (.inr (6, [.null])) b = some (.inl (0, x.length, .inl g)) := (fup_ne _ _ qb).trans x2
  refine gA_i y1 rfl (gA_i y1 rfl (aL_i y2 (by decide) ?_))
  rintro v rfl w rfl
  have e1 : jmin (zI n) (zI x.length) = zI n := by unfold jmin; rw [if_neg (by rw [zI_lt (by omega) (by omega)]; omega)]
  have e2 : jmax (0 : Int32) (zI n) = zI n := by
    unfold jmax
    split
    · rfl
    · rename_i z
      rw [show (0 : Int32) = zI 0 from rfl, zI_lt (by omega) (by omega)] at z
      rw [show n = 0 by omega]; rfl
  rw [e1, e2]
  refine ⟨1, n, by omega, by omega, s_copyOf_byte y2 hfit (by omega) (by omega) (Nat.le_refl _) (Nat.le_refl _) (fun p g' f' hp hg' hfp hfo => ?_)⟩
  have pq : p ≠ q := fun e => by rw [e, fup_self] at hp; cases hp
  have hp0 : f p = none := by rw [fup_ne _ _ pq] at hp; exact hp
  have y3 : f' q = some (.inr (6, [.null])) := (hfo q (Ne.symm pq)).trans (fup_self _ _ _)
  refine pV_i y3 (by simp) (hK q _ (oup (oup o q none) p none) ⟨p, g', fup_self _ _ _, ?_, fun i hi => ?_, ?_, oup_self _ _ _, VK_take hv n⟩ (fun c hc => ?_))
  · rw [fup_ne _ _ pq, hfp, List.length_take, Nat.min_eq_left hn]
  · rw [List.length_take, Nat.min_eq_left hn] at hi
    rw [hg' i hi (by omega), take_getD x n i hi]; exact x3 i (by omega)
  · rw [oup_ne _ _ (Ne.symm pq)]; exact oup_self _ _ _
  · have c1 : c ≠ q := fun e => hc (e ▸ hq)
    have c2 : c ≠ p := fun e => hc (e ▸ hp0)
    refine ⟨?_, ?_, fun _ => ?_⟩
    · rw [fup_ne _ _ c1, hfo c c2, fup_ne _ _ c1]; exact hc
    · rw [oup_ne _ _ c2, oup_ne _ _ c1]
    · rw [fup_ne _ _ c1, hfo c c2, fup_ne _ _ c1]
theorem Z2.byte_keep {x : Int32} (h1 : (0 : Int32) ≤ x) (h2 : x ≤ 127) : x.toInt8.toInt32 = x := by
  rw [Int32.le_iff_toInt_le] at h1 h2
  have e1 : (0 : Int32).toInt = 0 := rfl
  have e2 : (127 : Int32).toInt = 127 := rfl
  rw [← Int32.toInt_inj, Int8.toInt_toInt32, Int32.toInt_toInt8, Int.bmod_eq_of_le (by omega) (by omega)]
theorem Z2.s_X3_withByte {f : FT} {o : OW} {a mc ms : Nat} {x : Key} {v : Int32} (h : KY f o a x) (hx : x.length < 12) (hv1 : (0 : Int32) ≤ v) (hv2 : v ≤ 127) (h1 : 2 ≤ mc) (h2 : 13 ≤ ms) {K : Nat → FT → Prop} (hK : ∀ q f' o', KY f' o' q (x ++ [v]) → Fr (fun _ => False) f o f' o' → K q f') : wp_X3_withByte a v f mc ms K := by
  have hv := h.v
  obtain ⟨b, g, x1, x2, x3, x4, x5, x6⟩ := id h
  have hfit := KY_fit h (b := b) x3
  refine gA_i x1 rfl (gA_i x1 rfl (aL_i x2 (by decide) ?_))
  rw [show zI x.length + 1 = zI (x.length + 1) from zI_add _ 1]
  refine ⟨1, x.length + 1, by omega, by omega, s_copyOf_byte x2 hfit (by omega) (by omega) (Nat.le_refl _) (Nat.le_refl _) (fun p g' f' hp hg' hfp hfo => ?_)⟩
  have pa : a ≠ p := fun e => by rw [← e, x1] at hp; cases hp
  have pb : b ≠ p := fun e => by rw [← e, x2] at hp; cases hp
  have y1 : f' a = some (.inr (6, [.ref b])) := (hfo a pa).trans x1
  have y2 : f' b = some (.inl (0, x.length, .inl g)) := (hfo b pb).trans x2
  refine gA_i y1 rfl (aL_i y2 (by decide) ⟨_, g', hfp, in_i (by omega) (by omega), ?_⟩)
  rintro f1 rfl
  rw [zI_clamp (by omega)]
  have ev : vp_nar .byte (i2b v) = v := by
    show (i2b v).toInt8.toInt32 = v
    unfold i2b; rw [byte_keep hv1 hv2, byte_keep hv1 hv2]
  rw [ev]
  refine ⟨by omega, by omega, ?_⟩
  rintro q hq f2 rfl
  have qp : q ≠ p := fun e => by rw [e, fup_self] at hq; cases hq
  have hq0 : f q = none := by rw [fup_ne _ _ qp, hfo q qp] at hq; exact hq
  refine pV_i (fup_self _ _ _) (by simp) (hK q _ (oup (oup o p none) q none) ⟨p, upd g' x.length v, fup_self _ _ _, ?_, fun i hi => ?_, oup_self _ _ _, ?_, ?_⟩ (fun c hc => ?_))
  · rw [fup_ne _ _ (Ne.symm qp), fup_ne _ _ (Ne.symm qp), fup_self, List.length_append]; rfl
  · rw [List.length_append] at hi
    have hi : i < x.length + 1 := hi
    unfold upd
    by_cases z : i = x.length
    · rw [if_pos z, z]; simp
    · rw [if_neg z, hg' i hi (by omega), x3 i (by omega)]
      rw [List.getD_eq_getElem?_getD, List.getD_eq_getElem?_getD, List.getElem?_append_left (by omega)]
  · rw [oup_ne _ _ (Ne.symm qp)]; exact oup_self _ _ _
  · refine ⟨by rw [List.length_append]; show x.length + 1 ≤ 12; omega, fun y hy => ?_⟩
    rcases List.mem_append.mp hy with z | z
    · exact hv.2 y z
    · rw [List.mem_singleton.mp z]; exact ⟨hv1, hv2⟩
  · have c1 : c ≠ q := fun e => hc (e ▸ hq0)
    have c2 : c ≠ p := fun e => hc (e ▸ hp)
    refine ⟨?_, ?_, fun _ => ?_⟩
    · rw [fup_ne _ _ c1, fup_ne _ _ c1, fup_ne _ _ c2, hfo c c2]; exact hc
    · rw [oup_ne _ _ c1, oup_ne _ _ c2]
    · rw [fup_ne _ _ c1, fup_ne _ _ c1, fup_ne _ _ c2, hfo c c2]
theorem Z2.s_X3_length {f : FT} {o : OW} {a : Nat} {x : Key} (h : KY f o a x) {K : Int32 → Prop} (hK : K (zI x.length)) : wp_X3_length a f K := by
  obtain ⟨b, g, x1, x2, -⟩ := h
  exact gA_i x1 rfl (aL_i x2 (by decide) hK)

