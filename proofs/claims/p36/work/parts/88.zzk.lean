section
variable {zd : Nat} {f f' : FT} {o o' : Z2.OW} {xo oo : Nat} {ad ad2 : Nat → Nat} {ca ia ra la ka ba : Nat} {T U : Z2.Tr} {sv : Bool} {cu cu2 : Nat → Option Nat} {ky bd : Z2.Key} {w : Nat} {wk : Nat → Z2.Key} {wv : Nat → Int32} {mc ms : Nat}
theorem Z2.s_X8_bytesOfTiers (W : CX zd f o xo oo ad ad2 ca ia ra la ka ba T U sv cu ky bd w wk wv) (B : BT T) {N : Nat} (hN : N ≤ T.h) {K : Int32 → Prop} (hK : K (zI (sumTo (fun t => sumTo (fun p => T.pgs t p) (T.m t)) N))) : wp_X8_bytesOfTiers xo (zI N) f K := by
  have hh := B.h12
  have H := W.2.2.1
  refine loopW_of (fun s => ∃ t, s = (zI (sumTo (fun t => sumTo (fun p => T.pgs t p) (T.m t)) t), zI t) ∧ t ≤ N) (fun s => 20 - s.2.toNatClampNeg) ?_ _ ⟨0, rfl, Nat.zero_le _⟩
  rintro C s ⟨t, rfl, ht⟩ hC
  refine ⟨fun z => ?_, fun z => ?_⟩
  · rw [zI_le (by omega) (by omega)] at z
    rw [show t = N by omega]; exact hK
  · rw [zI_le (by omega) (by omega)] at z
    have hm := B.m (t := t) (by omega)
    refine loopW_of (fun s => ∃ p, s = (zI (sumTo (fun t => sumTo (fun p => T.pgs t p) (T.m t)) t + sumTo (fun p => T.pgs t p) p), zI p) ∧ p ≤ T.m t) (fun s => 500 - s.2.toNatClampNeg) ?_ _ ⟨0, rfl, Nat.zero_le _⟩
    rintro C2 s ⟨p, rfl, hp⟩ hC2
    refine gA_i W.1 rfl ⟨H.is, s_X7_pageTotal H (by omega) ⟨fun y => ?_, fun y => ?_⟩⟩
    · rw [zI_le (by omega) (by omega)] at y
      rintro v rfl
      rw [show zI t + 1 = zI (t + 1) from zI_add t 1, show p = T.m t by omega]
      refine hC _ ⟨t + 1, rfl, by omega⟩ ?_
      show 20 - (zI (t + 1)).toNatClampNeg < 20 - (zI t).toNatClampNeg
      rw [zI_clamp (by omega), zI_clamp (by omega)]; omega
    · rw [zI_le (by omega) (by omega)] at y
      refine gA_i W.1 rfl ⟨H.is, TT.pageBytes H B.im (by omega) (by omega) ?_⟩
      rw [zI_add]
      rintro v rfl u rfl
      rw [show zI p + 1 = zI (p + 1) from zI_add p 1]
      refine hC2 _ ⟨p + 1, by rw [Nat.add_assoc]; rfl, by omega⟩ ?_
      show 500 - (zI (p + 1)).toNatClampNeg < 500 - (zI p).toNatClampNeg
      rw [zI_clamp (by omega), zI_clamp (by omega)]; omega
theorem Z2.s_X8_statistic (W : CX zd f o xo oo ad ad2 ca ia ra la ka ba T U sv cu ky bd w wk wv) (B : BT T) {x : Int32} (b1 : 1 ≤ mc) (b2 : 6 ≤ ms) {K : Int32 → FT → Prop} {KX : String → FT → Prop} (h1 : (x ≠ 0 ∧ x ≠ 1 ∧ x ≠ 2 ∧ x ≠ 3 ∧ x ≠ 4) → KX "java/lang/IllegalArgumentException" f) (k0 : x = 0 → K (zI (sumTo (fun t => sumTo (fun p => T.pgs t p) (T.m t)) T.h)) f) (k1 : x = 1 → K (zI (sumTo T.m T.h)) f) (k2 : x = 2 → K (zI T.c0) f) (k3 : x = 3 → K (zI T.c1) f) (k4 : x = 4 → K (zI T.c2) f) : wp_X8_statistic xo x f mc ms K KX := by
  have H := W.2.2.1
  refine ⟨fun x0 => ⟨fun x1 => ⟨fun x2 => ⟨fun x3 => ⟨fun x4 => ⟨b1, b2, h1 ⟨x0, x1, x2, x3, x4⟩⟩, fun x4 => gA_i W.1 rfl (gI_i W.2.2.2.2.2.2.1.1 rfl (k4 x4))⟩, fun x3 => gA_i W.1 rfl (gI_i W.2.2.2.2.2.1.1 rfl (k3 x3))⟩, fun x2 => gA_i W.1 rfl (gI_i W.2.2.2.2.2.1.1 rfl (k2 x2))⟩, fun x1 => gA_i W.1 rfl ⟨H.is, TT.allPages H (k1 x1)⟩⟩, fun x0 => gA_i W.1 rfl (gI_i H.1 rfl ⟨W.is, s_X8_bytesOfTiers W B (Nat.le_refl _) (k0 x0)⟩)⟩
end
