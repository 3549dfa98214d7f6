def Z2.OA (f : FT) (o : OW) (a w : Nat) (e : fE) : Prop := f a = some e ∧ o a = some w
theorem Z2.OA.fr {R : Nat → Prop} {f f' : FT} {o o' : OW} {a w : Nat} {e : fE} (h : OA f o a w e) (F : Fr R f o f' o') (hR : ¬ R w) : OA f' o' a w e := by
  obtain ⟨p1, p2⟩ := F.get h.1 (fun r e => by rw [h.2] at e; cases e; exact hR)
  exact ⟨p1, p2.trans h.2⟩
theorem Z2.nO_o {f : FT} {o : OW} {ci N bc bs w : Nat} {fs : List Value} {K : Nat → FT → Prop} (h1 : 1 ≤ bc) (h2 : N ≤ bs) (hK : ∀ q f' o', OA f' o' q w (.inr (ci, fs)) → (∀ R, Fr R f o f' o') → K q f') : nO f ci fs N bc bs K := by
  refine ⟨h1, h2, ?_⟩
  rintro q hq f1 rfl
  exact hK q _ (oup o q (some w)) ⟨fup_self _ _ _, oup_self _ _ _⟩ (fun R => Fr.new _ _ hq)
theorem Z2.pV_o {f : FT} {o : OW} {a ci k w : Nat} {v : Value} {fs : List Value} {K : FT → Prop} (h : OA f o a w (.inr (ci, fs))) (hk : k < fs.length) (hK : ∀ f', OA f' o a w (.inr (ci, fs.set k v)) → Fr (fun q => q = w) f o f' o → K f') : pV f a ci k v K :=
  pV_g h.1 hk (fun f' e n => hK f' ⟨e, h.2⟩ (Fr.one h.1 e h.2 n))
theorem Z2.s_newKey {f : FT} {o : OW} {bc bs : Nat} {K : Nat → Nat → FT → Prop} (h1 : 2 ≤ bc) (h2 : 1 ≤ bs) (hK : ∀ q f' o', KY f' o' q [] → (∀ R, Fr R f o f' o') → K 0 q f') : nO f 6 [.null] 1 bc bs fun q f2 => nA f2 0 (0 : Int32) (bc - 1) (bs - 1) fun n p f3 => wp_X3_init q p f3 (fun f4 => K n q f4) := by
  refine nO_g (by omega) (by omega) (fun q f1 hq b1 n1 => nA_g (n := 0) (by omega) (by omega) (by omega) (fun p f2 hp c2 n2 => ?_))
  have hqp := ne_of_some b1 hp
  have b2 : f2 q = some (.inr (6, [.null])) := by rw [n2 q hqp]; exact b1
  refine pV_g b2 (by simp) (fun f3 b3 n3 => ?_)
  have fp : f p = none := by rw [n1 p (Ne.symm hqp)] at hp; exact hp
  refine hK q f3 (oup (oup o q none) p none) ⟨p, fun _ => 0, b3, by rw [n3 p (Ne.symm hqp)]; exact c2, fun i hi => absurd hi (Nat.not_lt_zero i), by rw [oup_ne _ _ hqp]; exact oup_self _ _ _, oup_self _ _ _, VK_nil⟩ (fun R x hx => ?_)
  have xq : x ≠ q := fun e => hx (e ▸ hq)
  have xp : x ≠ p := fun e => hx (e ▸ fp)
  have e : f3 x = f x := by rw [n3 x xq, n2 x xp, n1 x xq]
  exact ⟨by rw [e]; exact hx, by rw [oup_ne _ _ xp, oup_ne _ _ xq], fun _ => e⟩
def Z2.T00 : Tr := Tr.mk 96 0 (fun _ => []) (fun _ => 0) 1 (stt (stt (fun _ => 0) 0 0) 0 1) (stt (fun _ _ => 0) 0 (fun _ => 0)) (fun _ => []) 0 0 0
def Z2.adr (a b c d e g h : Nat) : Nat → Nat := fun k => if k = 0 then a else if k = 1 then b else if k = 2 then c else if k = 3 then d else if k = 4 then e else if k = 5 then g else h
section
variable {zd : Nat} {f : FT} {o : Z2.OW} {mc ms : Nat}
theorem Z2.s_X7_init {i a0 : Nat} (Z : OA f o a0 (100 * i + 5) (.inr (10, [.null, .null, .null, .null, .null, .null, .int 0, .int 0]))) (b1 : 40 ≤ mc) (b2 : 300 ≤ ms) {K : FT → Prop} (hK : ∀ f' o' ad, ad 6 = a0 → TT zd f' o' i ad T00 → Fr (fun q => q / 100 = i) f o f' o' → K f') : wp_X7_init zd a0 f mc ms K := by
  refine nO_o (o := o) (w := 100 * i) (by omega) (by omega) (fun q1 f1 o1 A F => ?_)
  have Z := Z.fr (F (fun _ => False)) id
  have G : Fr (fun q => q / 100 = i) f o f1 o1 := F _
  refine ⟨3, 4, by omega, by omega, s_X4_init A.1 A.2 (by omega) (by omega) (fun f2 o2 kr F => ?_)⟩
  have Z := Z.fr F (by omega)
  have G := G.trans (F.mono (fun r e => by have e : r = 100 * i := e; show r / 100 = i; omega))
  have hk := kr (fun _ => [])
  refine pV_o Z (by simp) (fun f3 Z' F => ?_)
  have hk := hk.fr F (by omega) (by omega)
  have Z := Z'
  have G := G.trans (F.mono (fun r e => by have e : r = 100 * i + 5 := e; show r / 100 = i; omega))
  refine nO_o (o := o2) (w := 100 * i + 1) (by omega) (by omega) (fun q2 f4 o4 A F => ?_)
  have Z := Z.fr (F (fun _ => False)) id
  have hk := hk.fr (F (fun _ => False)) id id
  have G := G.trans (F _)
  refine ⟨1, 16, by omega, by omega, s_X2_init A.1 A.2 (by omega) (by omega) (fun f5 o5 kr F => ?_)⟩
  have Z := Z.fr F (by omega)
  have hk := hk.fr F (by omega) (by omega)
  have G := G.trans (F.mono (fun r e => by have e : r = 100 * i + 1 := e; show r / 100 = i; omega))
  have hv := kr (fun _ => 0)
  refine pV_o Z (by simp) (fun f6 Z' F => ?_)
  have hk := hk.fr F (by omega) (by omega)
  have hv := hv.fr F (by omega)
  have Z := Z'
  have G := G.trans (F.mono (fun r e => by have e : r = 100 * i + 5 := e; show r / 100 = i; omega))
  refine nO_o (o := o5) (w := 100 * i + 2) (by omega) (by omega) (fun q3 f7 o7 A F => ?_)
  have Z := Z.fr (F (fun _ => False)) id
  have hk := hk.fr (F (fun _ => False)) id id
  have hv := hv.fr (F (fun _ => False)) id
  have G := G.trans (F _)
  refine ⟨3, 4, by omega, by omega, s_X4_init A.1 A.2 (by omega) (by omega) (fun f8 o8 kr F => ?_)⟩
  have Z := Z.fr F (by omega)
  have hk := hk.fr F (by omega) (by omega)
  have hv := hv.fr F (by omega)
  have G := G.trans (F.mono (fun r e => by have e : r = 100 * i + 2 := e; show r / 100 = i; omega))
  have hs := kr (fun _ => [])
  refine pV_o Z (by simp) (fun f9 Z' F => ?_)
  have hk := hk.fr F (by omega) (by omega)
  have hv := hv.fr F (by omega)
  have hs := hs.fr F (by omega) (by omega)
  have Z := Z'
  have G := G.trans (F.mono (fun r e => by have e : r = 100 * i + 5 := e; show r / 100 = i; omega))
  refine nO_o (o := o8) (w := 100 * i + 3) (by omega) (by omega) (fun q4 f10 o10 A F => ?_)
  have Z := Z.fr (F (fun _ => False)) id
  have hk := hk.fr (F (fun _ => False)) id id
  have hv := hv.fr (F (fun _ => False)) id
  have hs := hs.fr (F (fun _ => False)) id id
  have G := G.trans (F _)
  refine pV_o A (by simp) (fun f11 A' F => ?_)
  have Z := Z.fr F (by omega)
  have hk := hk.fr F (by omega) (by omega)
  have hv := hv.fr F (by omega)
  have hs := hs.fr F (by omega) (by omega)
  have A := A'
  have G := G.trans (F.mono (fun r e => by have e : r = 100 * i + 3 := e; show r / 100 = i; omega))
  refine pV_o A (by simp) (fun f12 A' F => ?_)
  have Z := Z.fr F (by omega)
  have hk := hk.fr F (by omega) (by omega)
  have hv := hv.fr F (by omega)
  have hs := hs.fr F (by omega) (by omega)
  have A := A'
  have G := G.trans (F.mono (fun r e => by have e : r = 100 * i + 3 := e; show r / 100 = i; omega))
  have ht : AR zd f12 o10 (100 * i + 3) q4 0 (fun _ => 0) 0 := ⟨0, zd, A.1, A.2, Nat.le_refl _, by omega, Or.inl ⟨rfl, rfl⟩⟩
  refine pV_o Z (by simp) (fun f13 Z' F => ?_)
  have hk := hk.fr F (by omega) (by omega)
  have hv := hv.fr F (by omega)
  have hs := hs.fr F (by omega) (by omega)
  have ht := ht.fr F (by omega)
  have Z := Z'
  have G := G.trans (F.mono (fun r e => by have e : r = 100 * i + 5 := e; show r / 100 = i; omega))
  refine nO_o (o := o10) (w := 100 * i + 4) (by omega) (by omega) (fun q5 f14 o14 A F => ?_)
  have Z := Z.fr (F (fun _ => False)) id
  have hk := hk.fr (F (fun _ => False)) id id
  have hv := hv.fr (F (fun _ => False)) id
  have hs := hs.fr (F (fun _ => False)) id id
  have ht := ht.fr (F (fun _ => False)) id
  have G := G.trans (F _)
  refine ⟨1, 16, by omega, by omega, s_X2_init A.1 A.2 (by omega) (by omega) (fun f15 o15 kr F => ?_)⟩
  have Z := Z.fr F (by omega)
  have hk := hk.fr F (by omega) (by omega)
  have hv := hv.fr F (by omega)
  have hs := hs.fr F (by omega) (by omega)
  have ht := ht.fr F (by omega)
  have G := G.trans (F.mono (fun r e => by have e : r = 100 * i + 4 := e; show r / 100 = i; omega))
  have hn := kr (fun _ => 0)
  refine pV_o Z (by simp) (fun f16 Z' F => ?_)
  have hk := hk.fr F (by omega) (by omega)
  have hv := hv.fr F (by omega)
  have hs := hs.fr F (by omega) (by omega)
  have ht := ht.fr F (by omega)
  have hn := hn.fr F (by omega)
  have Z := Z'
  have G := G.trans (F.mono (fun r e => by have e : r = 100 * i + 5 := e; show r / 100 = i; omega))
  refine s_newKey (o := o15) (by omega) (by omega) (fun q6 f17 o17 hy F => ?_)
  have Z := Z.fr (F (fun _ => False)) id
  have hk := hk.fr (F (fun _ => False)) id id
  have hv := hv.fr (F (fun _ => False)) id
  have hs := hs.fr (F (fun _ => False)) id id
  have ht := ht.fr (F (fun _ => False)) id
  have hn := hn.fr (F (fun _ => False)) id
  have G := G.trans (F _)
  refine pV_o Z (by simp) (fun f18 Z' F => ?_)
  have hk := hk.fr F (by omega) (by omega)
  have hv := hv.fr F (by omega)
  have hs := hs.fr F (by omega) (by omega)
  have ht := ht.fr F (by omega)
  have hn := hn.fr F (by omega)
  have hy := hy.fr F
  have Z := Z'
  have G := G.trans (F.mono (fun r e => by have e : r = 100 * i + 5 := e; show r / 100 = i; omega))
  refine pV_o Z (by simp) (fun f19 Z' F => ?_)
  have hk := hk.fr F (by omega) (by omega)
  have hv := hv.fr F (by omega)
  have hs := hs.fr F (by omega) (by omega)
  have ht := ht.fr F (by omega)
  have hn := hn.fr F (by omega)
  have hy := hy.fr F
  have Z := Z'
  have G := G.trans (F.mono (fun r e => by have e : r = 100 * i + 5 := e; show r / 100 = i; omega))
  refine pV_o Z (by simp) (fun f20 Z' F => ?_)
  have hk := hk.fr F (by omega) (by omega)
  have hv := hv.fr F (by omega)
  have hs := hs.fr F (by omega) (by omega)
  have ht := ht.fr F (by omega)
  have hn := hn.fr F (by omega)
  have hy := hy.fr F
  have Z := Z'
  have G := G.trans (F.mono (fun r e => by have e : r = 100 * i + 5 := e; show r / 100 = i; omega))
  have H : TS zd f20 o17 i (adr q1 q2 q3 q4 q5 q6 a0) 96 0 0 (fun _ => []) 0 (fun _ => 0) 0 (fun _ => []) (fun _ => 0) (fun _ _ => 0) := ⟨Z.1, Z.2, ⟨_, hk⟩, ⟨_, hv⟩, ⟨_, hs⟩, ⟨_, hn⟩, hy, 0, fun _ => 0, 0, ht, Nat.le_refl _, by omega, fun t h => absurd h (Nat.not_lt_zero t)⟩
  refine ⟨3, 36, by omega, by omega, H.is, s_X7_addTier H (by omega) (by omega) (by omega) (fun r fa oa H2 ra Fa => ?_)⟩
  obtain ⟨c, I, up⟩ := H2.row ra (by omega)
  have I' : IR fa oa (100 * i + 10 + 0) r 0 (fun _ => 0) c := I
  have hc : 16 ≤ c := by obtain ⟨b, g, x1, x2, x3, x4, x5, x6, -⟩ := I'; exact x6
  refine ⟨0, 0, Nat.zero_le _, Nat.zero_le _, I'.is, s_X2_append I' (by omega) _ (fun e => by omega) (fun fb ob I2 Fb => ?_)⟩
  have J : IR fb ob (100 * i + 10 + 0) r 1 (fun p => zI ((fun _ => 0) p)) (gr 0 c) := I2.congr (fun j hj => by rw [show j = 0 by omega, stt_same]; rfl)
  exact hK fb ob (adr q1 q2 q3 q4 q5 q6 a0) rfl (up fb ob 1 (fun _ => 0) _ J Fb) ((G.trans Fa).trans (Fb.mono (fun r e => by have e : r = 100 * i + 10 + 0 := e; show r / 100 = i; omega)))
end
