section
variable {zd : Nat} {f : FT} {o : Z2.OW} {mc ms : Nat}
/-- the class's object, without the out array -/
def Z2.CX0 (zd : Nat) (f : FT) (o : OW) (xo : Nat) : Prop := ∃ (ad ad2 : Nat → Nat) (ca ia ra la ka : Nat), f xo = some (.inr (11, [.ref (ad 6), .ref (ad2 6), .ref ca, .ref ia, .ref ra, .ref la, .int 0, .ref ka, .ref ka])) ∧ o xo = some 303 ∧ TT zd f o 0 ad T00 ∧ TT zd f o 1 ad2 T00 ∧ CU f o 300 ca (fun _ => -1) ∧ IN f o ia (ad 6) ca 0 0 ∧ RM f o ra (ad 6) ca 0 ∧ LD zd f o la 0 (fun _ => []) (fun _ => 0) ∧ KY f o ka []
theorem Z2.s_X8_init {a0 : Nat} (Z : OA f o a0 303 (.inr (11, [.null, .null, .null, .null, .null, .null, .int 0, .null, .null]))) (b1 : 200 ≤ mc) (b2 : 1000 ≤ ms) {K : FT → Prop} (hK : ∀ f' o', CX0 zd f' o' a0 → K f') : wp_X8_init zd a0 f mc ms K := by
  refine nO_o (o := o) (w := 100 * 0 + 5) (by omega) (by omega) (fun qhT f1 o1 A F => ?_)
  have Z := Z.fr (F (fun _ => False)) id
  refine ⟨40, 300, by omega, by omega, s_X7_init (i := 0) A (by omega) (by omega) (fun f2 o2 adhT ehT hT F => ?_)⟩
  have Z := Z.fr F (by omega)
  refine pV_o Z (by simp) (fun f3 Z' F => ?_)
  have hT := hT.fr F (fun q hq => by omega)
  have Z := Z'
  refine nO_o (o := o2) (w := 100 * 1 + 5) (by omega) (by omega) (fun qhU f4 o4 A F => ?_)
  have Z := Z.fr (F (fun _ => False)) id
  have hT := hT.fr (F (fun _ => False)) (fun _ _ => id)
  refine ⟨40, 300, by omega, by omega, s_X7_init (i := 1) A (by omega) (by omega) (fun f5 o5 adhU ehU hU F => ?_)⟩
  have Z := Z.fr F (by omega)
  have hT := hT.fr F (fun q hq => by omega)
  refine pV_o Z (by simp) (fun f6 Z' F => ?_)
  have hT := hT.fr F (fun q hq => by omega)
  have hU := hU.fr F (fun q hq => by omega)
  have Z := Z'
  refine nO_o (o := o5) (w := 300) (by omega) (by omega) (fun q3 f7 o7 A F => ?_)
  have Z := Z.fr (F (fun _ => False)) id
  have hT := hT.fr (F (fun _ => False)) (fun _ _ => id)
  have hU := hU.fr (F (fun _ => False)) (fun _ _ => id)
  refine ⟨1, 4, by omega, by omega, s_X0_init A.1 A.2 (by omega) (by omega) (fun f8 o8 hc F => ?_)⟩
  have Z := Z.fr F (by omega)
  have hT := hT.fr F (fun q hq => by omega)
  have hU := hU.fr F (fun q hq => by omega)
  refine pV_o Z (by simp) (fun f9 Z' F => ?_)
  have hT := hT.fr F (fun q hq => by omega)
  have hU := hU.fr F (fun q hq => by omega)
  have hc := hc.fr F (by omega)
  have Z := Z'
  refine nO_o (o := o8) (w := 301) (by omega) (by omega) (fun q4 f10 o10 A F => ?_)
  have Z := Z.fr (F (fun _ => False)) id
  have hT := hT.fr (F (fun _ => False)) (fun _ _ => id)
  have hU := hU.fr (F (fun _ => False)) (fun _ _ => id)
  have hc := hc.fr (F (fun _ => False)) id
  refine gA_i Z.1 rfl ?_
  refine gA_i Z.1 rfl ?_
  refine pV_o A (by simp) (fun f11 A' F => ?_)
  have Z := Z.fr F (by omega)
  have hT := hT.fr F (fun q hq => by omega)
  have hU := hU.fr F (fun q hq => by omega)
  have hc := hc.fr F (by omega)
  have A := A'
  refine pV_o A (by simp) (fun f12 A' F => ?_)
  have Z := Z.fr F (by omega)
  have hT := hT.fr F (fun q hq => by omega)
  have hU := hU.fr F (fun q hq => by omega)
  have hc := hc.fr F (by omega)
  have A := A'
  refine pV_o A (by simp) (fun f13 A' F => ?_)
  have Z := Z.fr F (by omega)
  have hT := hT.fr F (fun q hq => by omega)
  have hU := hU.fr F (fun q hq => by omega)
  have hc := hc.fr F (by omega)
  have A := A'
  refine pV_o A (by simp) (fun f14 A' F => ?_)
  have Z := Z.fr F (by omega)
  have hT := hT.fr F (fun q hq => by omega)
  have hU := hU.fr F (fun q hq => by omega)
  have hc := hc.fr F (by omega)
  have A := A'
  have hi : IN f14 o10 q4 qhT q3 0 0 := A
  refine pV_o Z (by simp) (fun f15 Z' F => ?_)
  have hT := hT.fr F (fun q hq => by omega)
  have hU := hU.fr F (fun q hq => by omega)
  have hc := hc.fr F (by omega)
  have hi := hi.fr F (by omega)
  have Z := Z'
  refine nO_o (o := o10) (w := 302) (by omega) (by omega) (fun q5 f16 o16 A F => ?_)
  have Z := Z.fr (F (fun _ => False)) id
  have hT := hT.fr (F (fun _ => False)) (fun _ _ => id)
  have hU := hU.fr (F (fun _ => False)) (fun _ _ => id)
  have hc := hc.fr (F (fun _ => False)) id
  have hi := hi.fr (F (fun _ => False)) id
  refine gA_i Z.1 rfl ?_
  refine gA_i Z.1 rfl ?_
  refine pV_o A (by simp) (fun f17 A' F => ?_)
  have Z := Z.fr F (by omega)
  have hT := hT.fr F (fun q hq => by omega)
  have hU := hU.fr F (fun q hq => by omega)
  have hc := hc.fr F (by omega)
  have hi := hi.fr F (by omega)
  have A := A'
  refine pV_o A (by simp) (fun f18 A' F => ?_)
  have Z := Z.fr F (by omega)
  have hT := hT.fr F (fun q hq => by omega)
  have hU := hU.fr F (fun q hq => by omega)
  have hc := hc.fr F (by omega)
  have hi := hi.fr F (by omega)
  have A := A'
  refine pV_o A (by simp) (fun f19 A' F => ?_)
  have Z := Z.fr F (by omega)
  have hT := hT.fr F (fun q hq => by omega)
  have hU := hU.fr F (fun q hq => by omega)
  have hc := hc.fr F (by omega)
  have hi := hi.fr F (by omega)
  have A := A'
  have hr : RM f19 o16 q5 qhT q3 0 := A
  refine pV_o Z (by simp) (fun f20 Z' F => ?_)
  have hT := hT.fr F (fun q hq => by omega)
  have hU := hU.fr F (fun q hq => by omega)
  have hc := hc.fr F (by omega)
  have hi := hi.fr F (by omega)
  have hr := hr.fr F (by omega)
  have Z := Z'
  refine nO_o (o := o16) (w := 202) (by omega) (by omega) (fun q6 f21 o21 A F => ?_)
  have Z := Z.fr (F (fun _ => False)) id
  have hT := hT.fr (F (fun _ => False)) (fun _ _ => id)
  have hU := hU.fr (F (fun _ => False)) (fun _ _ => id)
  have hc := hc.fr (F (fun _ => False)) id
  have hi := hi.fr (F (fun _ => False)) id
  have hr := hr.fr (F (fun _ => False)) id
  have Y := A
  refine ⟨10, 100, by omega, by omega, ?_⟩
  refine nO_o (o := o21) (w := 200) (by omega) (by omega) (fun q7 f22 o22 A F => ?_)
  have Z := Z.fr (F (fun _ => False)) id
  have hT := hT.fr (F (fun _ => False)) (fun _ _ => id)
  have hU := hU.fr (F (fun _ => False)) (fun _ _ => id)
  have hc := hc.fr (F (fun _ => False)) id
  have hi := hi.fr (F (fun _ => False)) id
  have hr := hr.fr (F (fun _ => False)) id
  have Y := Y.fr (F (fun _ => False)) id
  refine ⟨3, 4, by omega, by omega, s_X4_init A.1 A.2 (by omega) (by omega) (fun f23 o23 kr F => ?_)⟩
  have Z := Z.fr F (by omega)
  have hT := hT.fr F (fun q hq => by omega)
  have hU := hU.fr F (fun q hq => by omega)
  have hc := hc.fr F (by omega)
  have hi := hi.fr F (by omega)
  have hr := hr.fr F (by omega)
  have Y := Y.fr F (by omega)
  have hk := kr (fun _ => [])
  refine pV_o Y (by simp) (fun f24 Y' F => ?_)
  have Z := Z.fr F (by omega)
  have hT := hT.fr F (fun q hq => by omega)
  have hU := hU.fr F (fun q hq => by omega)
  have hc := hc.fr F (by omega)
  have hi := hi.fr F (by omega)
  have hr := hr.fr F (by omega)
  have hk := hk.fr F (by omega) (by omega)
  have Y := Y'
  refine nO_o (o := o23) (w := 201) (by omega) (by omega) (fun q8 f25 o25 A F => ?_)
  have Z := Z.fr (F (fun _ => False)) id
  have hT := hT.fr (F (fun _ => False)) (fun _ _ => id)
  have hU := hU.fr (F (fun _ => False)) (fun _ _ => id)
  have hc := hc.fr (F (fun _ => False)) id
  have hi := hi.fr (F (fun _ => False)) id
  have hr := hr.fr (F (fun _ => False)) id
  have Y := Y.fr (F (fun _ => False)) id
  have hk := hk.fr (F (fun _ => False)) id id
  refine ⟨1, 16, by omega, by omega, s_X2_init A.1 A.2 (by omega) (by omega) (fun f26 o26 kr F => ?_)⟩
  have Z := Z.fr F (by omega)
  have hT := hT.fr F (fun q hq => by omega)
  have hU := hU.fr F (fun q hq => by omega)
  have hc := hc.fr F (by omega)
  have hi := hi.fr F (by omega)
  have hr := hr.fr F (by omega)
  have Y := Y.fr F (by omega)
  have hk := hk.fr F (by omega) (by omega)
  have hv := kr (fun _ => 0)
  refine pV_o Y (by simp) (fun f27 Y' F => ?_)
  have Z := Z.fr F (by omega)
  have hT := hT.fr F (fun q hq => by omega)
  have hU := hU.fr F (fun q hq => by omega)
  have hc := hc.fr F (by omega)
  have hi := hi.fr F (by omega)
  have hr := hr.fr F (by omega)
  have hk := hk.fr F (by omega) (by omega)
  have hv := hv.fr F (by omega)
  have Y := Y'
  have hl : LD zd f27 o26 q6 0 (fun _ => []) (fun _ => 0) := ⟨q7, q8, _, _, Y.1, Y.2, hk, hv⟩
  refine pV_o Z (by simp) (fun f28 Z' F => ?_)
  have hT := hT.fr F (fun q hq => by omega)
  have hU := hU.fr F (fun q hq => by omega)
  have hc := hc.fr F (by omega)
  have hi := hi.fr F (by omega)
  have hr := hr.fr F (by omega)
  have hl := hl.fr F (fun q hq => by omega)
  have Z := Z'
  refine pV_o Z (by simp) (fun f29 Z' F => ?_)
  have hT := hT.fr F (fun q hq => by omega)
  have hU := hU.fr F (fun q hq => by omega)
  have hc := hc.fr F (by omega)
  have hi := hi.fr F (by omega)
  have hr := hr.fr F (by omega)
  have hl := hl.fr F (fun q hq => by omega)
  have Z := Z'
  refine s_newKey (o := o26) (by omega) (by omega) (fun q9 f30 o30 hy F => ?_)
  have Z := Z.fr (F (fun _ => False)) id
  have hT := hT.fr (F (fun _ => False)) (fun _ _ => id)
  have hU := hU.fr (F (fun _ => False)) (fun _ _ => id)
  have hc := hc.fr (F (fun _ => False)) id
  have hi := hi.fr (F (fun _ => False)) id
  have hr := hr.fr (F (fun _ => False)) id
  have hl := hl.fr (F (fun _ => False)) (fun _ _ => id)
  refine pV_o Z (by simp) (fun f31 Z' F => ?_)
  have hT := hT.fr F (fun q hq => by omega)
  have hU := hU.fr F (fun q hq => by omega)
  have hc := hc.fr F (by omega)
  have hi := hi.fr F (by omega)
  have hr := hr.fr F (by omega)
  have hl := hl.fr F (fun q hq => by omega)
  have hy := hy.fr F
  have Z := Z'
  refine gA_i Z.1 rfl ?_
  refine pV_o Z (by simp) (fun f32 Z' F => ?_)
  have hT := hT.fr F (fun q hq => by omega)
  have hU := hU.fr F (fun q hq => by omega)
  have hc := hc.fr F (by omega)
  have hi := hi.fr F (by omega)
  have hr := hr.fr F (by omega)
  have hl := hl.fr F (fun q hq => by omega)
  have hy := hy.fr F
  have Z := Z'
  refine hK _ _ ⟨adhT, adhU, q3, q4, q5, q6, q9, ?_, Z.2, hT, hU, hc, ?_, ?_, hl, hy⟩
  · rw [ehT, ehU]; exact Z.1
  · rw [ehT]; exact hi
  · rw [ehT]; exact hr
end
