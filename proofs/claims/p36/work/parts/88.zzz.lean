theorem Z2.fp_tails : Jvm.FP.Core.b64.tails = 4503599627370496 := by decide +kernel
theorem Z2.fp_exps : Jvm.FP.Core.b64.exps = 2048 := by decide +kernel
theorem Z2.fp_qmin : Jvm.FP.Core.b64.qmin = -1074 := by decide +kernel
theorem Z2.fp_qmax : Jvm.FP.Core.b64.qmax = 971 := by decide +kernel
theorem Z2.fp_p53 : (2 : Nat) ^ Jvm.FP.Core.b64.p = 9007199254740992 := by decide +kernel
theorem Z2.p52 : (2 : Nat) ^ 52 = 4503599627370496 := by decide +kernel
theorem Z2.p53n : (2 : Nat) ^ 53 = 9007199254740992 := by decide +kernel
theorem Z2.p52k {k m : Nat} (h : k + m = 52) : 2 ^ k * 2 ^ m = 4503599627370496 := by rw [← Nat.pow_add, h, p52]
theorem Z2.p53k {k m : Nat} (h : k + m = 53) : 2 ^ k * 2 ^ m = 9007199254740992 := by rw [← Nat.pow_add, h, p53n]
theorem Z2.fp_lead {a d : Nat} (ha : 0 < a) (hd : 0 < d) : (∃ k : Nat, Jvm.FP.Core.leading a d = (k : Int) ∧ d * 2 ^ k ≤ a ∧ a < d * 2 ^ (k + 1)) ∨ (∃ j : Nat, Jvm.FP.Core.leading a d = -(j : Int) - 1 ∧ d ≤ a * 2 ^ (j + 1) ∧ a * 2 ^ j < d) := by
  have a1 : 2 ^ a.log2 ≤ a := Nat.log2_self_le (by omega)
  have a2 : a < 2 ^ (a.log2 + 1) := Nat.lt_log2_self
  have d1 : 2 ^ d.log2 ≤ d := Nat.log2_self_le (by omega)
  have d2 : d < 2 ^ (d.log2 + 1) := Nat.lt_log2_self
  unfold Jvm.FP.Core.leading
  dsimp only [Tr.mk_cap, Tr.mk_n, Tr.mk_ks, Tr.mk_vs, Tr.mk_h, Tr.mk_m, Tr.mk_E, Tr.mk_S, Tr.mk_c0, Tr.mk_c1, Tr.mk_c2]
  generalize a.log2 = la at *
  generalize d.log2 = ld at *
  rcases Nat.lt_or_ge la ld with h | h
  · obtain ⟨m, rfl⟩ : ∃ m, ld = la + m + 1 := ⟨ld - la - 1, by omega⟩
    rw [show ((la : Int) - ((la + m + 1 : Nat) : Int)).toNat = 0 by omega, show (-((la : Int) - ((la + m + 1 : Nat) : Int))).toNat = m + 1 by omega, Nat.pow_zero, Nat.mul_one]
    have e1 : 2 ^ (la + 1) * 2 ^ m = 2 ^ (la + m + 1) := by rw [← Nat.pow_add]; congr 1; omega
    have e2 : 2 ^ la * 2 ^ (m + 2) = 2 ^ (la + m + 1 + 1) := by rw [← Nat.pow_add]; congr 1
    by_cases g : d ≤ a * 2 ^ (m + 1)
    · rw [if_pos g]
      refine Or.inr ⟨m, by omega, g, ?_⟩
      have := Nat.mul_lt_mul_of_pos_right a2 (Nat.two_pow_pos m)
      omega
    · rw [if_neg g]
      refine Or.inr ⟨m + 1, by omega, ?_, by omega⟩
      have := Nat.mul_le_mul_right (2 ^ (m + 2)) a1
      show d ≤ a * 2 ^ (m + 2)
      omega
  · obtain ⟨m, rfl⟩ : ∃ m, la = ld + m := ⟨la - ld, by omega⟩
    rw [show (((ld + m : Nat) : Int) - (ld : Int)).toNat = m by omega, show (-(((ld + m : Nat) : Int) - (ld : Int))).toNat = 0 by omega, Nat.pow_zero, Nat.mul_one]
    have e1 : 2 ^ ld * 2 ^ (m + 1) = 2 ^ (ld + m + 1) := by rw [← Nat.pow_add]; congr 1
    by_cases g : d * 2 ^ m ≤ a
    · rw [if_pos g]
      refine Or.inl ⟨m, by omega, g, ?_⟩
      have := Nat.mul_le_mul_right (2 ^ (m + 1)) d1
      omega
    · rw [if_neg g]
      cases m with
      | zero =>
        rw [Nat.pow_zero, Nat.mul_one] at g
        refine Or.inr ⟨0, by omega, ?_, by omega⟩
        have e : 2 ^ (ld + 1) = 2 ^ ld * 2 := Nat.pow_succ 2 ld
        have a1 : 2 ^ ld ≤ a := a1
        show d ≤ a * 2
        omega
      | succ m =>
        refine Or.inl ⟨m, by omega, ?_, by omega⟩
        have := Nat.mul_lt_mul_of_pos_right d2 (Nat.two_pow_pos m)
        have e : 2 ^ (ld + 1) * 2 ^ m = 2 ^ (ld + (m + 1)) := by rw [← Nat.pow_add]; congr 1; omega
        omega
theorem Z2.fp_lead_eq {a d k : Nat} (hd : 0 < d) (h1 : d * 2 ^ k ≤ a) (h2 : a < d * 2 ^ (k + 1)) : Jvm.FP.Core.leading a d = (k : Int) := by
  have p := Nat.two_pow_pos k
  have hda : d ≤ a := Nat.le_trans (Nat.le_mul_of_pos_right d p) h1
  rcases fp_lead (a := a) (by omega) hd with ⟨k', e, g1, g2⟩ | ⟨j, e, g1, g2⟩
  · have x1 : 2 ^ k' < 2 ^ (k + 1) := Nat.lt_of_mul_lt_mul_left (a := d) (Nat.lt_of_le_of_lt g1 h2)
    have x2 : 2 ^ k < 2 ^ (k' + 1) := Nat.lt_of_mul_lt_mul_left (a := d) (Nat.lt_of_le_of_lt h1 g2)
    have y1 := (Nat.pow_lt_pow_iff_right (by decide : 1 < 2)).mp x1
    have y2 := (Nat.pow_lt_pow_iff_right (by decide : 1 < 2)).mp x2
    rw [e, show k' = k by omega]
  · have := Nat.le_mul_of_pos_right a (Nat.two_pow_pos j)
    omega
theorem Z2.fp_near {N D P Q : Nat} (hD : 0 < D) (h1 : D * P ≤ N) (h2 : N < D * Q) : P ≤ Jvm.FP.Core.nearest N D ∧ Jvm.FP.Core.nearest N D ≤ Q := by
  have a : P ≤ N / D := (Nat.le_div_iff_mul_le hD).mpr (by rw [Nat.mul_comm]; exact h1)
  have b : N / D < Q := (Nat.div_lt_iff_lt_mul hD).mpr (by rw [Nat.mul_comm]; exact h2)
  unfold Jvm.FP.Core.nearest
  split
  · omega
  · split
    · omega
    · omega
theorem Z2.fp_settle {c : Nat} {q : Int} (h1 : 4503599627370496 ≤ c) (h2 : c ≤ 9007199254740992) (hq : q ≤ 970) : ∃ c' q', Jvm.FP.Core.settle Jvm.FP.Core.b64 false c q = .fin false c' q' ∧ 4503599627370496 ≤ c' ∧ c' < 9007199254740992 ∧ (q' = q ∨ q' = q + 1) := by
  unfold Jvm.FP.Core.settle Jvm.FP.Core.bound
  rw [fp_p53, fp_tails, fp_qmax]
  by_cases h : c < 9007199254740992
  · rw [if_pos h, if_pos (by omega)]
    exact ⟨c, q, rfl, h1, h, Or.inl rfl⟩
  · rw [if_neg h, if_pos (by omega)]
    exact ⟨_, _, rfl, by omega, by omega, Or.inr rfl⟩
theorem Z2.fp_quant {a d : Nat} {e k : Int} (hk : Jvm.FP.Core.leading a d = k) (h : -1074 ≤ k + e - 52) : Jvm.FP.Core.quantum Jvm.FP.Core.b64 a d e = k + e - 52 := by
  unfold Jvm.FP.Core.quantum
  rw [hk, fp_qmin, show ((Jvm.FP.Core.b64.p : Nat) : Int) - 1 = 52 from rfl]
  exact Int.max_eq_right h
theorem Z2.fp_round {a d : Nat} {e : Int} (ha : 0 < a) (hd : 0 < d) (la : a < 2 ^ 110) (ld : d < 2 ^ 54) (e1 : -800 ≤ e) (e2 : e ≤ 800) : ∃ c q, Jvm.FP.Core.roundRatio Jvm.FP.Core.b64 false a d e = .fin false c q ∧ 4503599627370496 ≤ c ∧ c < 9007199254740992 ∧ e - 110 ≤ q ∧ q ≤ e + 60 ∧ Jvm.FP.Core.leading a d + e - 52 ≤ q := by
  have fin : ∀ k : Int, Jvm.FP.Core.leading a d = k → -56 ≤ k → k ≤ 110 → d * 2 ^ (k - 52).toNat * 4503599627370496 ≤ a * 2 ^ (52 - k).toNat → a * 2 ^ (52 - k).toNat < d * 2 ^ (k - 52).toNat * 9007199254740992 → ∃ c q, Jvm.FP.Core.roundRatio Jvm.FP.Core.b64 false a d e = .fin false c q ∧ 4503599627370496 ≤ c ∧ c < 9007199254740992 ∧ e - 110 ≤ q ∧ q ≤ e + 60 ∧ Jvm.FP.Core.leading a d + e - 52 ≤ q := by
    intro k hk k1 k2 h1 h2
    unfold Jvm.FP.Core.roundRatio Jvm.FP.Core.roundAt Jvm.FP.Core.unitsNum Jvm.FP.Core.unitsDen
    rw [if_neg (by omega), fp_quant hk (by omega), show e - (k + e - 52) = 52 - k by omega, show k + e - 52 - e = k - 52 by omega]
    obtain ⟨n1, n2⟩ := fp_near (Nat.mul_pos hd (Nat.two_pow_pos _)) h1 h2
    obtain ⟨c, q, g1, g2, g3, g4⟩ := fp_settle (q := k + e - 52) n1 n2 (by omega)
    exact ⟨c, q, g1, g2, g3, by omega, by omega, by omega⟩
  rcases fp_lead ha hd with ⟨k, e, g1, g2⟩ | ⟨j, e, g1, g2⟩
  · have k2 : k < 110 := by
      have x : 2 ^ k < 2 ^ 110 := Nat.lt_of_le_of_lt (Nat.le_trans (Nat.le_mul_of_pos_left _ hd) g1) la
      exact (Nat.pow_lt_pow_iff_right (by decide : 1 < 2)).mp x
    refine fin k e (by omega) (by omega) ?_ ?_
    · rcases Nat.lt_or_ge k 52 with h | h
      · obtain ⟨m, hm⟩ : ∃ m, 52 = k + m := ⟨52 - k, by omega⟩
        rw [show ((k : Int) - 52).toNat = 0 by omega, show (52 - (k : Int)).toNat = m by omega, Nat.pow_zero, Nat.mul_one]
        have x := Nat.mul_le_mul_right (2 ^ m) g1
        have y : 2 ^ k * 2 ^ m = 4503599627370496 := p52k hm.symm
        rw [Nat.mul_assoc, y] at x
        exact x
      · obtain ⟨m, rfl⟩ : ∃ m, k = m + 52 := ⟨k - 52, by omega⟩
        rw [show (((m + 52 : Nat) : Int) - 52).toNat = m by omega, show (52 - ((m + 52 : Nat) : Int)).toNat = 0 by omega, Nat.pow_zero, Nat.mul_one, Nat.mul_assoc, show 2 ^ m * 4503599627370496 = 2 ^ (m + 52) by rw [Nat.pow_add, p52]]
        exact g1
    · rcases Nat.lt_or_ge k 52 with h | h
      · obtain ⟨m, hm⟩ : ∃ m, 52 = k + m := ⟨52 - k, by omega⟩
        rw [show ((k : Int) - 52).toNat = 0 by omega, show (52 - (k : Int)).toNat = m by omega, Nat.pow_zero, Nat.mul_one]
        have x := Nat.mul_lt_mul_of_pos_right g2 (Nat.two_pow_pos m)
        have y : 2 ^ (k + 1) * 2 ^ m = 9007199254740992 := p53k (by omega)
        rw [Nat.mul_assoc, y] at x
        exact x
      · obtain ⟨m, rfl⟩ : ∃ m, k = m + 52 := ⟨k - 52, by omega⟩
        rw [show (((m + 52 : Nat) : Int) - 52).toNat = m by omega, show (52 - ((m + 52 : Nat) : Int)).toNat = 0 by omega, Nat.pow_zero, Nat.mul_one, Nat.mul_assoc, show 2 ^ m * 9007199254740992 = 2 ^ (m + 52 + 1) by rw [show m + 52 + 1 = m + 53 from rfl, Nat.pow_add, p53n]]
        exact g2
  · have j2 : j < 54 := by
      have x : 2 ^ j < 2 ^ 54 := Nat.lt_of_le_of_lt (Nat.le_mul_of_pos_left _ ha) (Nat.lt_trans g2 ld)
      exact (Nat.pow_lt_pow_iff_right (by decide : 1 < 2)).mp x
    refine fin _ e (by omega) (by omega) ?_ ?_
    · rw [show (-(j : Int) - 1 - 52).toNat = 0 by omega, show (52 - (-(j : Int) - 1)).toNat = j + 1 + 52 by omega, Nat.pow_zero, Nat.mul_one, Nat.pow_add 2 (j + 1) 52, ← Nat.mul_assoc, p52]
      exact Nat.mul_le_mul_right _ g1
    · rw [show (-(j : Int) - 1 - 52).toNat = 0 by omega, show (52 - (-(j : Int) - 1)).toNat = j + 53 by omega, Nat.pow_zero, Nat.mul_one, Nat.pow_add 2 j 53, ← Nat.mul_assoc, p53n]
      exact Nat.mul_lt_mul_of_pos_right g2 (by decide)
theorem Z2.fp_exact {a d c X : Nat} {e k : Int} (ha : a ≠ 0) (hk : Jvm.FP.Core.leading a d = k) (hq : -1074 ≤ k + e - 52) (hq2 : k + e - 52 ≤ 971) (hX : 0 < X) (h1 : a * 2 ^ (52 - k).toNat = c * X) (h2 : d * 2 ^ (k - 52).toNat = X) (c1 : c < 9007199254740992) : Jvm.FP.Core.roundRatio Jvm.FP.Core.b64 false a d e = .fin false c (k + e - 52) := by
  have hn : Jvm.FP.Core.nearest (c * X) X = c := by
    unfold Jvm.FP.Core.nearest
    rw [Nat.mul_mod_left, if_pos (by omega), Nat.mul_div_cancel _ hX]
  unfold Jvm.FP.Core.roundRatio Jvm.FP.Core.roundAt Jvm.FP.Core.unitsNum Jvm.FP.Core.unitsDen
  rw [if_neg ha, fp_quant hk hq, show e - (k + e - 52) = 52 - k by omega, show k + e - 52 - e = k - 52 by omega, h1, h2, hn]
  unfold Jvm.FP.Core.settle Jvm.FP.Core.bound
  rw [fp_p53, if_pos c1, fp_qmax, if_pos hq2]

