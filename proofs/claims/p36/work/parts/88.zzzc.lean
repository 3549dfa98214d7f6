theorem Z2.sumTo_bd {g : Nat → Nat} {b : Nat} : ∀ {k : Nat}, (∀ i, i < k → g i ≤ b) → sumTo g k ≤ b * k
  | 0, _ => Nat.zero_le _
  | k + 1, h => by
    have a := sumTo_bd (k := k) (fun i hi => h i (by omega))
    have c := h k (by omega)
    show sumTo g k + g k ≤ b * (k + 1)
    rw [Nat.mul_succ]; omega
theorem Z2.sumTo_lb {g : Nat → Nat} {b : Nat} : ∀ {k : Nat}, (∀ i, i < k → b ≤ g i) → b * k ≤ sumTo g k
  | 0, _ => Nat.le_refl _
  | k + 1, h => by
    have a := sumTo_lb (k := k) (fun i hi => h i (by omega))
    have c := h k (by omega)
    show b * (k + 1) ≤ sumTo g k + g k
    rw [Nat.mul_succ]; omega
theorem Z2.log2_bd {k : Nat} (h : 1 ≤ k) : 2 ^ k.log2 ≤ k ∧ k < 2 ^ (k.log2 + 1) := ⟨Nat.log2_self_le (by omega), Nat.lt_log2_self⟩
theorem Z2.log2_le8 {m s : Nat} (m1 : 1 ≤ m) (h : 8 * m ≤ s) : m.log2 + 3 ≤ s.log2 := by
  obtain ⟨a, -⟩ := log2_bd m1
  obtain ⟨-, b⟩ := log2_bd (show 1 ≤ s by omega)
  have x : 2 ^ (m.log2 + 3) < 2 ^ (s.log2 + 1) := by
    refine Nat.lt_of_le_of_lt (Nat.le_trans ?_ h) b
    rw [Nat.pow_add, Nat.mul_comm]
    exact Nat.mul_le_mul_left 8 a
  have := (Nat.pow_lt_pow_iff_right (by decide : 1 < 2)).mp x
  omega
theorem Z2.log2_c {c : Nat} (c1 : 1 ≤ c) (h : c < 256) : c.log2 ≤ 7 := by
  obtain ⟨a, -⟩ := log2_bd c1
  have x : 2 ^ c.log2 < 2 ^ 8 := Nat.lt_of_le_of_lt a h
  have := (Nat.pow_lt_pow_iff_right (by decide : 1 < 2)).mp x
  omega
def Z2.occQ (s m c : Nat) : UInt64 := FP.ddiv (FP.ddiv (FP.dmul (FP.i2d (zI s)) 4636737291354636288) (FP.i2d (zI m))) (FP.i2d (zI c))
theorem Z2.occ_ok {s m c : Nat} (s8 : 8 * m ≤ s) (s2 : s < 2147483648) (m1 : 1 ≤ m) (m2 : m < 2147483648) (c1 : 1 ≤ c) (c2 : c < 256) : vf_n64 (FP.dmul (FP.i2d (zI s)) 4636737291354636288) ∧ vf_n64 (FP.ddiv (FP.dmul (FP.i2d (zI s)) 4636737291354636288) (FP.i2d (zI m))) ∧ vf_n64 (occQ s m c) ∧ ∃ a q, NZ (occQ s m c) a q ∧ -52 ≤ q := by
  obtain ⟨a1, X1⟩ := nz_i2dx (show 1 ≤ s by omega) s2
  obtain ⟨a2, X2⟩ := nz_i2dx m1 m2
  obtain ⟨a3, X3⟩ := nz_i2dx c1 (show c < 2147483648 by omega)
  have k1 := log2_le8 m1 s8
  have k2 := log2_c c1 c2
  have k3 : s.log2 < 31 := by
    have x : 2 ^ s.log2 < 2 ^ 31 := Nat.lt_of_le_of_lt (log2_bd (show 1 ≤ s by omega)).1 s2
    exact (Nat.pow_lt_pow_iff_right (by decide : 1 < 2)).mp x
  obtain ⟨a4, q4, X4, b4, d4, e4⟩ := nz_mul X1 nz_100 (by omega) (by omega)
  obtain ⟨a5, q5, X5, b5, d5, e5⟩ := nz_div X4 X2 (by omega) (by omega)
  obtain ⟨a6, q6, X6, b6, d6, e6⟩ := nz_div X5 X3 (by omega) (by omega)
  exact ⟨X4.vf, X5.vf, X6.vf, a6, q6, X6, by omega⟩
theorem Z2.jmax1 {a : Nat} (h : 1 ≤ a) (h2 : a < 2147483648) : jmax (zI a) 1 = zI a := by
  unfold jmax
  rw [if_neg]
  rw [show (1 : Int32) = zI 1 from rfl, zI_lt h2 (by omega)]
  omega
section
variable {zd : Nat} {f f' : FT} {o o' : Z2.OW} {xo oo : Nat} {ad ad2 : Nat → Nat} {ca ia ra la ka ba : Nat} {T T2 U : Z2.Tr} {sv : Bool} {cu cu2 : Nat → Option Nat} {ky bd : Z2.Key} {w : Nat} {wk : Nat → Z2.Key} {wv : Nat → Int32} {n n' : Nat → Int32} {g g' : Nat → Nat → Int32} {c L bc bs : Nat} {xs : Nat → Int32} {y4 : Int32}
theorem Z2.leafBytes (B : BT T) : 8 * T.m 0 ≤ sumTo (fun p => T.pgs 0 p) (T.m 0) ∧ sumTo (fun p => T.pgs 0 p) (T.m 0) < 2147483648 := by
  have h0 := B.im.h1
  have h1 := B.im.m1 0 (by omega)
  have h4 := B.m4
  have a : 8 * T.m 0 ≤ sumTo (fun p => T.pgs 0 p) (T.m 0) := sumTo_lb (fun p hp => by
    show 8 ≤ T.psz 0 (st (T.E 0) p) (T.E 0 p)
    unfold Tr.psz
    rw [if_pos rfl]; omega)
  have d : sumTo (fun p => T.pgs 0 p) (T.m 0) ≤ 8000 * T.m 0 := sumTo_bd (fun p hp => by
    have x := B.im.mono p (T.m 0 - 1) (by omega) (by omega)
    rw [B.im.last] at x
    exact B.im.psz_le h4 (t := 0) (by omega) (by rw [if_pos rfl]; exact x))
  omega
theorem Z2.s_X8_occupancyBits (W : CX zd f o xo oo ad ad2 ca ia ra la ka ba T U sv cu ky bd w wk wv) (B : BT T) {K : Int64 → Prop} (hK : K (rawbits (occQ (sumTo (fun p => T.pgs 0 p) (T.m 0)) (T.m 0) T.cap))) : wp_X8_occupancyBits xo f K := by
  have H := W.2.2.1
  have h0 := B.im.h1
  have h1 := B.im.m1 0 (by omega)
  have h4 := B.m4
  have hc := B.im.cap
  obtain ⟨l1, l2⟩ := leafBytes B
  obtain ⟨v1, v2, v3, a, q, X, hq⟩ := occ_ok l1 l2 h1 (by omega) (show 1 ≤ T.cap by omega) (by omega)
  refine gA_i W.1 rfl ⟨H.is, s_X7_pageTotal H (t := 0) (by omega) ?_⟩
  rintro v rfl v5 rfl
  refine gA_i W.1 rfl (gI_i H.1 rfl ?_)
  rintro v11 rfl v12 rfl
  refine ⟨W.is, s_X8_bytesOfTiers W B (N := 1) (by omega) ?_⟩
  rw [show sumTo (fun t => sumTo (fun p => T.pgs t p) (T.m t)) 1 = sumTo (fun p => T.pgs 0 p) (T.m 0) from Nat.zero_add _, jmax1 h1 (by omega), jmax1 (show 1 ≤ T.cap by omega) (by omega)]
  refine ⟨v1, ?_⟩
  rintro d1 rfl
  refine ⟨v2, ?_⟩
  rintro d2 rfl
  refine ⟨v3, ?_⟩
  rintro d3 rfl
  exact s_bitsOf X hq hK
end
