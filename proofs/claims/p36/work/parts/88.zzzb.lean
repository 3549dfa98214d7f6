theorem Z2.zI_toInt64 {u : Nat} (h : u < 2147483648) : Int32.toInt64 (zI u) = Int64.ofNat u := by
  apply Int64.toInt_inj.mp
  rw [Int32.toInt_toInt64, zI_toInt h, Int64.toInt_ofNat_of_lt (by omega)]
theorem Z2.glue {x : UInt64} {u D : Nat} (hu : u < 2048) (hD : D < 4503599627370496) (hx : x.toNat = u * 4503599627370496 + D) : ((Int32.toInt64 (zI u)) <<< ((52 : Int32).toInt64 &&& 63)) ||| (Int64.ofInt (D : Int)) = rawbits x := by
  rw [zI_toInt64 (by omega), show ((52 : Int32).toInt64 &&& 63) = (52 : Int64) from by decide]
  apply Int64.toBitVec_inj.mp
  rw [Int64.toBitVec_or, Int64.toBitVec_shiftLeft]
  apply BitVec.eq_of_toNat_eq
  have e1 : (rawbits x).toBitVec.toNat = x.toNat := rfl
  have e2 : (Int64.ofInt (D : Int)).toBitVec.toNat = D := by
    show (BitVec.ofInt 64 (D : Int)).toNat = D
    rw [BitVec.ofInt_natCast, BitVec.toNat_ofNat]
    exact Nat.mod_eq_of_lt (by omega)
  have e3 : (Int64.ofNat u).toBitVec.toNat = u := by
    show (BitVec.ofNat 64 u).toNat = u
    rw [BitVec.toNat_ofNat]
    exact Nat.mod_eq_of_lt (by omega)
  rw [BitVec.toNat_or, e1, e2, hx]
  have e4 : ((Int64.ofNat u).toBitVec <<< ((52 : Int64).toBitVec.smod 64)).toNat = u <<< 52 := by
    rw [show ((52 : Int64).toBitVec.smod 64) = (52 : BitVec 64) from by decide]
    show ((Int64.ofNat u).toBitVec <<< (52 : Nat)).toNat = _
    rw [BitVec.toNat_shiftLeft, e3]
    rw [Nat.shiftLeft_eq]
    exact Nat.mod_eq_of_lt (by omega)
  rw [e4, ← Nat.shiftLeft_add_eq_or_of_lt (i := 52) (by rw [p52]; exact hD), Nat.shiftLeft_eq, p52]
section
variable {f : FT} {K : Int64 → Prop}
theorem Z2.s_bits59 {x y : UInt64} {c u : Nat} {q : Int} (X : NZ x c (-52)) (Y : NZ y c q) (hu : (u : Int) = q + 1075) (hK : K (rawbits y)) {v : Int32} (hv : v + 1023 = zI u) : wp_X8_bitsOf_33 x v f K := by
  have c1 := X.1
  have c2 := X.2.1
  have y3 := Y.2.2.1
  have y4 := Y.2.2.2.1
  have hy : y.toNat = u * 4503599627370496 + (c - 4503599627370496) := by
    rw [Y.nat, show (q + 1074).toNat + 1 = u by omega]
  have eS : FP.dsub x FP.dconst1 = UInt64.ofNat (Jvm.FP.Core.encode Jvm.FP.Core.b64 (Jvm.FP.Core.roundRatio Jvm.FP.Core.b64 false (c - 4503599627370496) 1 (-52))) := by
    show UInt64.ofNat (Jvm.FP.Core.sub Jvm.FP.Core.b64 x.toNat FP.dconst1.toNat) = _
    unfold Jvm.FP.Core.sub
    rw [X.dec, nz_1.dec, show Jvm.FP.Core.negate (.fin false 4503599627370496 (-52)) = .fin true 4503599627370496 (-52) from rfl, fp_sub c1]
    rfl
  have fin : vf_n64 (FP.dsub x FP.dconst1) → vf_n64 (FP.dmul (FP.dsub x FP.dconst1) 4841369599423283200) → FP.d2l (FP.dmul (FP.dsub x FP.dconst1) 4841369599423283200) = Int64.ofInt ((c - 4503599627370496 : Nat) : Int) → wp_X8_bitsOf_33 x v f K := by
    intro a1 a2 a3
    refine ⟨a1, ?_⟩
    rintro d1 rfl
    refine ⟨a2, ?_⟩
    rintro d2 rfl
    rintro v3 rfl
    rw [a3, hv, glue (by omega) (by omega) hy]
    exact hK
  by_cases z : c = 4503599627370496
  · have e0 : FP.dsub x FP.dconst1 = 0 := by
      rw [eS, z]
      decide +kernel
    rw [e0] at fin
    refine fin (vf_le (by decide)) (by rw [show FP.dmul 0 4841369599423283200 = 0 by decide +kernel]; exact vf_le (by decide)) ?_
    rw [z]
    decide +kernel
  · obtain ⟨D, hD⟩ : ∃ D, c = D + 4503599627370496 := ⟨c - 4503599627370496, by omega⟩
    have eD : c - 4503599627370496 = D := by omega
    rw [eD] at eS
    have l1 : 2 ^ D.log2 ≤ D := Nat.log2_self_le (by omega)
    have l2 : D < 2 ^ (D.log2 + 1) := Nat.lt_log2_self
    have l3 : D.log2 < 52 := by
      have x : 2 ^ D.log2 < 2 ^ 52 := Nat.lt_of_le_of_lt l1 (by show D < 4503599627370496; omega)
      exact (Nat.pow_lt_pow_iff_right (by decide : 1 < 2)).mp x
    generalize D.log2 = l at l1 l2 l3
    obtain ⟨m, hm⟩ : ∃ m, 52 = l + m := ⟨52 - l, by omega⟩
    have p1 : 2 ^ l * 2 ^ m = 4503599627370496 := p52k hm.symm
    have p2 : 2 ^ (l + 1) * 2 ^ m = 9007199254740992 := p53k (by omega)
    have g1 : 4503599627370496 ≤ D * 2 ^ m := by rw [← p1]; exact Nat.mul_le_mul_right _ l1
    have g2 : D * 2 ^ m < 9007199254740992 := by rw [← p2]; exact Nat.mul_lt_mul_of_pos_right l2 (Nat.two_pow_pos m)
    have hk : Jvm.FP.Core.leading D 1 = (l : Int) := fp_lead_eq (by decide) (by rw [Nat.one_mul]; exact l1) (by rw [Nat.one_mul]; exact l2)
    have S : NZ (FP.dsub x FP.dconst1) (D * 2 ^ m) ((l : Int) - 104) := by
      refine ⟨g1, g2, by omega, by omega, ?_⟩
      rw [eS, fp_exact (c := D * 2 ^ m) (X := 1) (by omega) hk (by omega) (by omega) (by decide) (by rw [show (52 - (l : Int)).toNat = m by omega, Nat.mul_one]) (by rw [show ((l : Int) - 52).toNat = 0 by omega, Nat.pow_zero, Nat.mul_one]) g2, show (l : Int) + -52 - 52 = (l : Int) - 104 by omega]
    have P := nz_shift S nz_52 (by omega) (by omega)
    refine fin S.vf P.vf ?_
    rw [eD]
    refine d2l_fin P ?_ (by omega)
    rw [show ((l : Int) - 104 + 0 + 52).toNat = 0 by omega, show (-((l : Int) - 104 + 0 + 52)).toNat = m by omega, Nat.pow_zero, Nat.mul_one, Nat.mul_div_cancel _ (Nat.two_pow_pos m)]
theorem Z2.bv1 {u : Nat} (h : u < 2147483648) : (zI u - 1023).toInt = (u : Int) - 1023 := by
  rw [Int32.toInt_sub, zI_toInt h, show (1023 : Int32).toInt = 1023 from rfl]
  show Int.bmod _ 4294967296 = _
  rw [Int.bmod_def]
  split <;> omega
theorem Z2.bv2 {u : Nat} (h : u < 2147483648) : zI u - 1023 ≤ -1022 ↔ u ≤ 1 := by
  rw [Int32.le_iff_toInt_le, bv1 h, show (-1022 : Int32).toInt = -1022 from rfl]
  omega
theorem Z2.bv3 {u : Nat} (h : 1 ≤ u) : zI u - 1023 + (-1) = zI (u - 1) - 1023 := by
  rw [← zI_pred h]
  rw [Int32.sub_eq_add_neg, Int32.sub_eq_add_neg, Int32.add_assoc, Int32.add_assoc, Int32.add_comm (-1023) (-1)]
theorem Z2.cmp_ge {x y : UInt64} (h : FP.dcmp x y = some .gt ∨ FP.dcmp x y = some .eq) (o : Jvm.ClassFile.CmpOp) : 0 ≤ Op.cmpValue (FP.dcmp x y) o := by
  rcases h with h | h
  · rw [h]; show (0 : Int32) ≤ 1; decide
  · rw [h]; show (0 : Int32) ≤ 0; decide
theorem Z2.cmp_ge' {x y : UInt64} (h : FP.dcmp x y = some .gt ∨ FP.dcmp x y = some .eq) (o : Jvm.ClassFile.CmpOp) : ¬ Op.cmpValue (FP.dcmp x y) o < 0 := by
  rcases h with h | h
  · rw [h]; show ¬ (1 : Int32) < 0; decide
  · rw [h]; show ¬ (0 : Int32) < 0; decide
theorem Z2.cmp_lt {x y : UInt64} (h : FP.dcmp x y = some .lt) (o : Jvm.ClassFile.CmpOp) : Op.cmpValue (FP.dcmp x y) o < 0 := by
  rw [h]; show (-1 : Int32) < 0; decide
theorem Z2.cmp_lt' {x y : UInt64} (h : FP.dcmp x y = some .lt) (o : Jvm.ClassFile.CmpOp) : ¬ 0 ≤ Op.cmpValue (FP.dcmp x y) o := by
  rw [h]; show ¬ (0 : Int32) ≤ -1; decide
theorem Z2.s_bitsOf {y : UInt64} {c : Nat} {q : Int} (Y : NZ y c q) (hq : -52 ≤ q) (hK : K (rawbits y)) : wp_X8_bitsOf y f K := by
  have y3 := Y.2.2.1
  have y4 := Y.2.2.2.1
  refine loopW_of (fun s => ∃ (x : UInt64) (r : Int) (j : Nat), s = (x, zI j) ∧ NZ x c r ∧ r + j = q ∧ -52 ≤ r) (fun s => 5000 - s.2.toNatClampNeg) ?_ _ ⟨y, q, 0, rfl, Y, by omega, hq⟩
  rintro C _ ⟨x, r, j, rfl, X, hj, hr⟩ hC
  have x3 := X.2.2.1
  have x4 := X.2.2.2.1
  refine ⟨fun z => ?_, fun z => ?_⟩
  · have e : ¬ -51 ≤ r := fun g => cmp_ge' ((nz_cmp X nz_2).1 g) _ z
    have e2 : r = -52 := by omega
    subst e2
    exact s_bits59 X Y (u := j + 1023) (by omega) hK (by rw [show (1023 : Int32) = zI 1023 from rfl, zI_add])
  · have e : -51 ≤ r := by
      rcases Int.lt_or_le r (-51) with g | g
      · exact absurd (cmp_lt ((nz_cmp X nz_2).2 g) _) z
      · exact g
    refine ⟨fun w => ?_, fun w => ?_⟩
    · rw [show (1023 : Int32) = zI 1023 from rfl, zI_le (by omega) (by omega)] at w
      omega
    · have P := nz_half X (by omega)
      refine ⟨P.vf, ?_⟩
      rintro d rfl
      rintro v rfl
      rw [show (1 : Int32) = zI 1 from rfl, zI_add]
      refine hC _ ⟨_, r - 1, j + 1, rfl, P, by omega, by omega⟩ ?_
      show 5000 - (zI (j + 1)).toNatClampNeg < 5000 - (zI j).toNatClampNeg
      rw [zI_clamp (by omega), zI_clamp (by omega)]
      omega
end
