def Z2.NZ (x : UInt64) (c : Nat) (q : Int) : Prop := 4503599627370496 ≤ c ∧ c < 9007199254740992 ∧ -1074 ≤ q ∧ q ≤ 971 ∧ x = UInt64.ofNat (Jvm.FP.Core.encode Jvm.FP.Core.b64 (.fin false c q))
theorem Z2.fp_enc {c : Nat} {q : Int} (h1 : 4503599627370496 ≤ c) : Jvm.FP.Core.encode Jvm.FP.Core.b64 (.fin false c q) = ((q + 1074).toNat + 1) * 4503599627370496 + (c - 4503599627370496) := by
  unfold Jvm.FP.Core.encode Jvm.FP.Core.assemble
  dsimp only [Tr.mk_cap, Tr.mk_n, Tr.mk_ks, Tr.mk_vs, Tr.mk_h, Tr.mk_m, Tr.mk_E, Tr.mk_S, Tr.mk_c0, Tr.mk_c1, Tr.mk_c2]
  rw [fp_tails, fp_qmin, if_neg (by omega), show Bool.toNat false = 0 from rfl, Nat.zero_mul, Nat.zero_add, show q - -1074 = q + 1074 by omega]
theorem Z2.fp_toNat {c : Nat} {q : Int} (h1 : 4503599627370496 ≤ c) (h2 : c < 9007199254740992) (h4 : q ≤ 971) : (UInt64.ofNat (Jvm.FP.Core.encode Jvm.FP.Core.b64 (.fin false c q))).toNat = ((q + 1074).toNat + 1) * 4503599627370496 + (c - 4503599627370496) := by
  rw [fp_enc h1]
  exact UInt64.toNat_ofNat_of_lt' (by show _ < 18446744073709551616; omega)
theorem Z2.NZ.nat {x : UInt64} {c : Nat} {q : Int} (h : NZ x c q) : x.toNat = ((q + 1074).toNat + 1) * 4503599627370496 + (c - 4503599627370496) := by
  obtain ⟨h1, h2, h3, h4, rfl⟩ := h
  exact fp_toNat h1 h2 h4
theorem Z2.NZ.dec {x : UInt64} {c : Nat} {q : Int} (h : NZ x c q) : Jvm.FP.Core.decode Jvm.FP.Core.b64 x.toNat = .fin false c q := by
  have e := h.nat
  obtain ⟨h1, h2, h3, h4, -⟩ := h
  generalize x.toNat = N at e
  unfold Jvm.FP.Core.decode Jvm.FP.Core.fieldE Jvm.FP.Core.fieldT Jvm.FP.Core.fieldS
  rw [fp_tails, fp_exps, fp_qmin]
  have a1 : N / 4503599627370496 % 2048 = (q + 1074).toNat + 1 := by omega
  have a2 : N % 4503599627370496 = c - 4503599627370496 := by omega
  have a3 : N / 4503599627370496 / 2048 % 2 = 0 := by omega
  rw [a1, a2, a3, if_neg (by omega), if_neg (by omega), show 4503599627370496 + (c - 4503599627370496) = c by omega, show -1074 + ((((q + 1074).toNat + 1 : Nat) : Int) - 1) = q by omega]
  rfl
theorem Z2.vf_le {x : UInt64} (h : x.toNat ≤ 9218868437227405312) : vf_n64 x := by
  refine UInt64.le_iff_toNat_le.mpr ?_
  rw [UInt64.toNat_and]
  exact Nat.le_trans Nat.and_le_left (Nat.le_trans h (by decide))
theorem Z2.NZ.vf {x : UInt64} {c : Nat} {q : Int} (h : NZ x c q) : vf_n64 x := by
  have e := h.nat
  obtain ⟨h1, h2, h3, h4, -⟩ := h
  exact vf_le (by omega)
theorem Z2.nz_i2d {k : Nat} (h1 : 1 ≤ k) (h2 : k < 2147483648) : ∃ c q, NZ (FP.i2d (zI k)) c q ∧ -110 ≤ q ∧ q ≤ 60 := by
  have p : (2 : Nat) ^ 110 = 1298074214633706907132624082305024 := by decide +kernel
  obtain ⟨c, q, g1, g2, g3, g4, g5⟩ := fp_round (a := k) (d := 1) (e := 0) h1 (by decide) (by omega) (by decide) (by decide) (by decide)
  refine ⟨c, q, ⟨g2, g3, by omega, by omega, ?_⟩, by omega, by omega⟩
  show UInt64.ofNat (Jvm.FP.Core.fromInt Jvm.FP.Core.b64 (zI k).toInt) = _
  unfold Jvm.FP.Core.fromInt Jvm.FP.Core.ofInt Jvm.FP.Core.round
  rw [zI_toInt h2, Int.natAbs_natCast, decide_eq_false (by omega)]
  dsimp only [Tr.mk_cap, Tr.mk_n, Tr.mk_ks, Tr.mk_vs, Tr.mk_h, Tr.mk_m, Tr.mk_E, Tr.mk_S, Tr.mk_c0, Tr.mk_c1, Tr.mk_c2]
  rw [g1]
theorem Z2.nz_mul {x y : UInt64} {c d : Nat} {q r : Int} (X : NZ x c q) (Y : NZ y d r) (e1 : -800 ≤ q + r) (e2 : q + r ≤ 800) : ∃ c' q', NZ (FP.dmul x y) c' q' ∧ q + r - 110 ≤ q' ∧ q' ≤ q + r + 60 ∧ q + r + 52 ≤ q' := by
  have p : (2 : Nat) ^ 110 = 1298074214633706907132624082305024 := by decide +kernel
  have hm : c * d ≤ 9007199254740992 * 9007199254740992 := Nat.mul_le_mul (Nat.le_of_lt X.2.1) (Nat.le_of_lt Y.2.1)
  have hp : 0 < c * d := Nat.mul_pos (by have := X.1; omega) (by have := Y.1; omega)
  have l2 : 2 ^ 104 ≤ c * d := by
    rw [show (2 : Nat) ^ 104 = 4503599627370496 * 4503599627370496 by decide +kernel]
    exact Nat.mul_le_mul X.1 Y.1
  have hl : 104 ≤ Jvm.FP.Core.leading (c * d) 1 := by
    rcases fp_lead hp (show 0 < 1 by decide) with ⟨k, e, -, g⟩ | ⟨j, e, -, g⟩
    · rw [Nat.one_mul] at g
      have x := (Nat.pow_lt_pow_iff_right (by decide : 1 < 2)).mp (Nat.lt_of_le_of_lt l2 g)
      rw [e]; omega
    · have := Nat.mul_pos hp (Nat.two_pow_pos j)
      omega
  obtain ⟨c', q', g1, g2, g3, g4, g5⟩ := fp_round (a := c * d) (d := 1) (e := q + r) hp (by decide) (by omega) (by decide) e1 e2
  refine ⟨c', q', ⟨g2, g3, by omega, by omega, ?_⟩, by omega, by omega, by omega⟩
  show UInt64.ofNat (Jvm.FP.Core.mul Jvm.FP.Core.b64 x.toNat y.toNat) = _
  unfold Jvm.FP.Core.mul
  rw [X.dec, Y.dec]
  unfold Jvm.FP.Core.exactProduct Jvm.FP.Core.round
  dsimp only [Tr.mk_cap, Tr.mk_n, Tr.mk_ks, Tr.mk_vs, Tr.mk_h, Tr.mk_m, Tr.mk_E, Tr.mk_S, Tr.mk_c0, Tr.mk_c1, Tr.mk_c2]
  rw [show (false != false) = false from rfl, g1]
theorem Z2.nz_div {x y : UInt64} {c d : Nat} {q r : Int} (X : NZ x c q) (Y : NZ y d r) (e1 : -800 ≤ q - r) (e2 : q - r ≤ 800) : ∃ c' q', NZ (FP.ddiv x y) c' q' ∧ q - r - 110 ≤ q' ∧ q' ≤ q - r + 60 ∧ q - r - 53 ≤ q' := by
  have p : (2 : Nat) ^ 110 = 1298074214633706907132624082305024 := by decide +kernel
  have p2 : (2 : Nat) ^ 54 = 18014398509481984 := by decide +kernel
  have x1 := X.1
  have x2 := X.2.1
  have y1 := Y.1
  have y2 := Y.2.1
  have hl : -1 ≤ Jvm.FP.Core.leading c d := by
    rcases fp_lead (a := c) (d := d) (by omega) (by omega) with ⟨k, e, -, g⟩ | ⟨j, e, -, g⟩
    · rw [e]; omega
    · rw [e]
      cases j with
      | zero => omega
      | succ j =>
        have x := Nat.mul_le_mul_left c (show 2 ≤ 2 ^ (j + 1) by rw [Nat.pow_succ]; have := Nat.two_pow_pos j; omega)
        omega
  obtain ⟨c', q', g1, g2, g3, g4, g5⟩ := fp_round (a := c) (d := d) (e := q - r) (by omega) (by omega) (by omega) (by omega) e1 e2
  refine ⟨c', q', ⟨g2, g3, by omega, by omega, ?_⟩, by omega, by omega, by omega⟩
  show UInt64.ofNat (Jvm.FP.Core.div Jvm.FP.Core.b64 x.toNat y.toNat) = _
  unfold Jvm.FP.Core.div
  rw [X.dec, Y.dec]
  unfold Jvm.FP.Core.quotient
  dsimp only [Tr.mk_cap, Tr.mk_n, Tr.mk_ks, Tr.mk_vs, Tr.mk_h, Tr.mk_m, Tr.mk_E, Tr.mk_S, Tr.mk_c0, Tr.mk_c1, Tr.mk_c2]
  rw [if_neg (by omega), show (false != false) = false from rfl, g1]
theorem Z2.nz_i2dx {k : Nat} (h1 : 1 ≤ k) (h2 : k < 2147483648) : ∃ c, NZ (FP.i2d (zI k)) c ((k.log2 : Int) - 52) := by
  have l1 : 2 ^ k.log2 ≤ k := Nat.log2_self_le (by omega)
  have l2 : k < 2 ^ (k.log2 + 1) := Nat.lt_log2_self
  have l3 : k.log2 < 31 := by
    have x : 2 ^ k.log2 < 2 ^ 31 := Nat.lt_of_le_of_lt l1 h2
    exact (Nat.pow_lt_pow_iff_right (by decide : 1 < 2)).mp x
  generalize k.log2 = l at l1 l2 l3
  obtain ⟨m, hm⟩ : ∃ m, 52 = l + m := ⟨52 - l, by omega⟩
  have p1 : 2 ^ l * 2 ^ m = 4503599627370496 := p52k hm.symm
  have p2 : 2 ^ (l + 1) * 2 ^ m = 9007199254740992 := p53k (by omega)
  have g1 : 4503599627370496 ≤ k * 2 ^ m := by rw [← p1]; exact Nat.mul_le_mul_right _ l1
  have g2 : k * 2 ^ m < 9007199254740992 := by rw [← p2]; exact Nat.mul_lt_mul_of_pos_right l2 (Nat.two_pow_pos m)
  have hk : Jvm.FP.Core.leading k 1 = (l : Int) := fp_lead_eq (by decide) (by rw [Nat.one_mul]; exact l1) (by rw [Nat.one_mul]; exact l2)
  refine ⟨k * 2 ^ m, g1, g2, by omega, by omega, ?_⟩
  show UInt64.ofNat (Jvm.FP.Core.fromInt Jvm.FP.Core.b64 (zI k).toInt) = _
  unfold Jvm.FP.Core.fromInt Jvm.FP.Core.ofInt Jvm.FP.Core.round
  rw [zI_toInt h2, Int.natAbs_natCast, decide_eq_false (by omega)]
  dsimp only [Tr.mk_cap, Tr.mk_n, Tr.mk_ks, Tr.mk_vs, Tr.mk_h, Tr.mk_m, Tr.mk_E, Tr.mk_S, Tr.mk_c0, Tr.mk_c1, Tr.mk_c2]
  rw [fp_exact (c := k * 2 ^ m) (X := 1) (e := 0) (by omega) hk (by omega) (by omega) (by decide) (by rw [show (52 - (l : Int)).toNat = m by omega, Nat.mul_one]) (by rw [show ((l : Int) - 52).toNat = 0 by omega, Nat.pow_zero, Nat.mul_one]) g2, show (l : Int) + 0 - 52 = (l : Int) - 52 by omega]
theorem Z2.nz_100 : NZ 4636737291354636288 7036874417766400 (-46) := ⟨by decide, by decide, by decide, by decide, by decide +kernel⟩
theorem Z2.nz_1 : NZ FP.dconst1 4503599627370496 (-52) := ⟨by decide, by decide, by decide, by decide, by decide +kernel⟩
theorem Z2.nz_2 : NZ 4611686018427387904 4503599627370496 (-51) := ⟨by decide, by decide, by decide, by decide, by decide +kernel⟩
theorem Z2.nz_52 : NZ 4841369599423283200 4503599627370496 0 := ⟨by decide, by decide, by decide, by decide, by decide +kernel⟩
/-- a half -/
theorem Z2.nz_half {x : UInt64} {c : Nat} {q : Int} (X : NZ x c q) (h : -1074 ≤ q - 1) : NZ (FP.ddiv x 4611686018427387904) c (q - 1) := by
  have x1 := X.1
  have x2 := X.2.1
  have x4 := X.2.2.2.1
  refine ⟨x1, x2, h, by omega, ?_⟩
  show UInt64.ofNat (Jvm.FP.Core.div Jvm.FP.Core.b64 x.toNat (4611686018427387904 : UInt64).toNat) = _
  unfold Jvm.FP.Core.div
  rw [X.dec, nz_2.dec]
  unfold Jvm.FP.Core.quotient
  dsimp only [Tr.mk_cap, Tr.mk_n, Tr.mk_ks, Tr.mk_vs, Tr.mk_h, Tr.mk_m, Tr.mk_E, Tr.mk_S, Tr.mk_c0, Tr.mk_c1, Tr.mk_c2]
  rw [if_neg (by decide), show (false != false) = false from rfl]
  have hk : Jvm.FP.Core.leading c 4503599627370496 = ((0 : Nat) : Int) := fp_lead_eq (by decide) (by show 4503599627370496 * 1 ≤ c; omega) (by show c < 4503599627370496 * 2; omega)
  rw [fp_exact (c := c) (X := 4503599627370496) (by omega) hk (by omega) (by omega) (by decide) (by rw [show (52 - ((0 : Nat) : Int)).toNat = 52 by decide, p52]) (by rw [show (((0 : Nat) : Int) - 52).toNat = 0 by decide, Nat.pow_zero, Nat.mul_one]) x2, show ((0 : Nat) : Int) + (q - -51) - 52 = q - 1 by omega]
/-- times a power of two -/
theorem Z2.nz_shift {x y : UInt64} {c : Nat} {q r : Int} (X : NZ x c q) (Y : NZ y 4503599627370496 r) (h : -1074 ≤ q + r + 52) (h2 : q + r + 52 ≤ 971) : NZ (FP.dmul x y) c (q + r + 52) := by
  have x1 := X.1
  have x2 := X.2.1
  refine ⟨x1, x2, h, h2, ?_⟩
  show UInt64.ofNat (Jvm.FP.Core.mul Jvm.FP.Core.b64 x.toNat y.toNat) = _
  unfold Jvm.FP.Core.mul
  rw [X.dec, Y.dec]
  unfold Jvm.FP.Core.exactProduct Jvm.FP.Core.round
  dsimp only [Tr.mk_cap, Tr.mk_n, Tr.mk_ks, Tr.mk_vs, Tr.mk_h, Tr.mk_m, Tr.mk_E, Tr.mk_S, Tr.mk_c0, Tr.mk_c1, Tr.mk_c2]
  rw [show (false != false) = false from rfl]
  have p : (2 : Nat) ^ 104 = 4503599627370496 * 4503599627370496 := by decide +kernel
  have hk : Jvm.FP.Core.leading (c * 4503599627370496) 1 = ((104 : Nat) : Int) := fp_lead_eq (by decide) (by rw [p]; omega) (by rw [Nat.pow_succ, p]; omega)
  rw [fp_exact (c := c) (X := 4503599627370496) (by omega) hk (by omega) (by omega) (by decide) (by rw [show (52 - ((104 : Nat) : Int)).toNat = 0 by decide, Nat.pow_zero, Nat.mul_one]) (by rw [Nat.one_mul, show (((104 : Nat) : Int) - 52).toNat = 52 by decide, p52]) x2, show ((104 : Nat) : Int) + (q + r) - 52 = q + r + 52 by omega]
theorem Z2.icmp_lt {a b : Int} (h : a < b) : compare a b = .lt := by
  show compareOfLessAndEq a b = _
  unfold compareOfLessAndEq
  rw [if_pos h]
theorem Z2.icmp_eq {a b : Int} (h : a = b) : compare a b = .eq := by
  show compareOfLessAndEq a b = _
  unfold compareOfLessAndEq
  rw [if_neg (by omega), if_pos h]
theorem Z2.icmp_gt {a b : Int} (h : b < a) : compare a b = .gt := by
  show compareOfLessAndEq a b = _
  unfold compareOfLessAndEq
  rw [if_neg (by omega), if_neg (by omega)]
theorem Z2.nz_cmp {x y : UInt64} {c : Nat} {q r : Int} (X : NZ x c q) (Y : NZ y 4503599627370496 r) : (r ≤ q → FP.dcmp x y = some .gt ∨ FP.dcmp x y = some .eq) ∧ (q < r → FP.dcmp x y = some .lt) := by
  have x1 := X.1
  have x2 := X.2.1
  have e : FP.dcmp x y = some (compare ((c * 2 ^ (q - min q r).toNat : Nat) : Int) ((4503599627370496 * 2 ^ (r - min q r).toNat : Nat) : Int)) := by
    show Jvm.FP.Core.cmp Jvm.FP.Core.b64 x.toNat y.toNat = _
    unfold Jvm.FP.Core.cmp
    rw [X.dec, Y.dec]
    rfl
  rw [e]
  refine ⟨fun h => ?_, fun h => ?_⟩
  · rw [Int.min_eq_right h, show (r - r).toNat = 0 by omega, Nat.pow_zero, Nat.mul_one]
    have g : c ≤ c * 2 ^ (q - r).toNat := Nat.le_mul_of_pos_right _ (Nat.two_pow_pos _)
    rcases Nat.lt_or_ge 4503599627370496 (c * 2 ^ (q - r).toNat) with z | z
    · exact Or.inl (congrArg some (icmp_gt (by omega)))
    · exact Or.inr (congrArg some (icmp_eq (by omega)))
  · rw [Int.min_eq_left (by omega), show (q - q).toNat = 0 by omega, Nat.pow_zero, Nat.mul_one]
    obtain ⟨m, hm⟩ : ∃ m, (r - q).toNat = m + 1 := ⟨(r - q).toNat - 1, by omega⟩
    have g : 9007199254740992 ≤ 4503599627370496 * 2 ^ (r - q).toNat := by
      have := Nat.two_pow_pos m
      rw [hm, Nat.pow_succ]; omega
    exact congrArg some (icmp_lt (by omega))
/-- what is left of one -/
theorem Z2.fp_sub {c : Nat} (h1 : 4503599627370496 ≤ c) : Jvm.FP.Core.exactSum (.fin false c (-52)) (.fin true 4503599627370496 (-52)) = .fin false (c - 4503599627370496) (-52) := by
  have V : Jvm.FP.Core.sumUnits false c (-52) true 4503599627370496 (-52) (-52) = ((c - 4503599627370496 : Nat) : Int) := by
    show ((c * 2 ^ ((-52 : Int) - -52).toNat : Nat) : Int) + -((4503599627370496 * 2 ^ ((-52 : Int) - -52).toNat : Nat) : Int) = _
    rw [show ((-52 : Int) - -52).toNat = 0 by decide, Nat.pow_zero, Nat.mul_one, Nat.mul_one]
    omega
  show Jvm.FP.Core.Datum.fin (Jvm.FP.Core.sumSign false true (Jvm.FP.Core.sumUnits false c (-52) true 4503599627370496 (-52) (min (-52) (-52)))) (Jvm.FP.Core.sumUnits false c (-52) true 4503599627370496 (-52) (min (-52) (-52))).natAbs (min (-52) (-52)) = _
  rw [show min (-52 : Int) (-52) = -52 by decide, V, Int.natAbs_natCast]
  unfold Jvm.FP.Core.sumSign
  rw [decide_eq_false (by omega)]
  split <;> rfl
theorem Z2.d2l_fin {x : UInt64} {c D : Nat} {q : Int} (X : NZ x c q) (h : c * 2 ^ q.toNat / 2 ^ (-q).toNat = D) (hD : D < 4503599627370496) : FP.d2l x = Int64.ofInt (D : Int) := by
  show Jvm.FP.Core.toL (Jvm.FP.Core.decode Jvm.FP.Core.b64 x.toNat) = _
  rw [X.dec]
  show Int64.ofInt (max (-2 ^ 63) (min (2 ^ 63 - 1) ((c * 2 ^ q.toNat / 2 ^ (-q).toNat : Nat) : Int))) = _
  rw [h, Int.min_eq_right (by omega), Int.max_eq_right (by omega)]

