theorem Z2.lushr_0 (w : Int64) : lushr w ((8 : Int32) * zI 0) = w := by
  have : w.toUInt64 >>> (((8 : Int32) * zI 0).toInt64.toUInt64 &&& Int64.toUInt64 63) = w.toUInt64 := by
    rw [← UInt64.toNat_inj, UInt64.toNat_shiftRight]; rfl
  show (w.toUInt64 >>> (((8 : Int32) * zI 0).toInt64.toUInt64 &&& Int64.toUInt64 63)).toInt64 = w
  rw [this]; rfl
theorem Z2.lushr_go (w : Int64) (s1 s2 s3 : UInt64) (h : s3.toNat % 64 = s1.toNat % 64 + s2.toNat % 64) : (((w.toUInt64 >>> s1).toInt64.toUInt64) >>> s2).toInt64 = (w.toUInt64 >>> s3).toInt64 := by
  have : (w.toUInt64 >>> s1) >>> s2 = w.toUInt64 >>> s3 := by
    rw [← UInt64.toNat_inj, UInt64.toNat_shiftRight, UInt64.toNat_shiftRight, UInt64.toNat_shiftRight, h, Nat.shiftRight_add]
  show ((w.toUInt64 >>> s1) >>> s2).toInt64 = _
  rw [this]
theorem Z2.lushr_step (w : Int64) : ∀ k, k < 7 → lushr (lushr w ((8 : Int32) * zI k)) 8 = lushr w ((8 : Int32) * zI (k + 1)) := by
  intro k hk
  rcases k with _ | _ | _ | _ | _ | _ | _ | k
  · exact lushr_go w _ _ _ rfl
  · exact lushr_go w _ _ _ rfl
  · exact lushr_go w _ _ _ rfl
  · exact lushr_go w _ _ _ rfl
  · exact lushr_go w _ _ _ rfl
  · exact lushr_go w _ _ _ rfl
  · exact lushr_go w _ _ _ rfl
  · omega
theorem Z2.kbyte_rng (w : Int64) (k : Nat) : (0 : Int32) ≤ kbyte w k ∧ kbyte w k ≤ 127 := by
  unfold kbyte
  generalize lushr w ((8 : Int32) * zI k) = x
  have h1 : (x.toBitVec &&& (127 : Int64).toBitVec).toNat ≤ 127 := by
    rw [BitVec.toNat_and]; exact Nat.and_le_right
  have e : (x &&& 127).toInt = ((x.toBitVec &&& (127 : Int64).toBitVec).toNat : Int) := BitVec.toInt_eq_toNat_of_lt (x := x.toBitVec &&& (127 : Int64).toBitVec) (by omega)
  have e2 : (Int64.toInt32 (x &&& 127)).toInt = ((x.toBitVec &&& (127 : Int64).toBitVec).toNat : Int) := by
    rw [Int64.toInt_toInt32, e, Int.bmod_eq_of_le (by omega) (by omega)]
  have z0 : (0 : Int32).toInt = 0 := rfl
  have z1 : (127 : Int32).toInt = 127 := rfl
  rw [Int32.le_iff_toInt_le, Int32.le_iff_toInt_le, e2, z0, z1]
  omega
theorem Z2.kyOf_VK (w : Int64) {c : Nat} (hc : c ≤ 8) : VK (kyOf w c) := by
  refine ⟨by rw [kyOf_len]; omega, fun b hb => ?_⟩
  unfold kyOf at hb
  rw [List.mem_map] at hb
  obtain ⟨j, -, rfl⟩ := hb
  exact kbyte_rng w _
theorem Z2.cnt_rev (p : Nat → Bool) (c : Nat) : ∀ k, k ≤ c → cnt (fun j => p (c - 1 - j)) k + cnt p (c - k) = cnt p c := by
  intro k
  induction k with
  | zero => intro _; show 0 + cnt p c = cnt p c; omega
  | succ k ih =>
    intro hk
    have := ih (by omega)
    rw [show c - k = (c - (k + 1)) + 1 by omega] at this
    have this : cnt (fun j => p (c - 1 - j)) k + (cnt p (c - (k + 1)) + (if p (c - (k + 1)) = true then 1 else 0)) = cnt p c := this
    show cnt (fun j => p (c - 1 - j)) k + (if p (c - 1 - k) = true then 1 else 0) + cnt p (c - (k + 1)) = cnt p c
    rw [show c - 1 - k = c - (k + 1) by omega]; omega
section
variable {zd : Nat} {f f' : FT} {o o' : Z2.OW} {xo oo : Nat} {ad ad2 : Nat → Nat} {ca ia ra la ka ba : Nat} {T U : Z2.Tr} {sv : Bool} {cu cu2 : Nat → Option Nat} {ky bd : Z2.Key} {w : Nat} {wk : Nat → Z2.Key} {wv : Nat → Int32} {mc ms : Nat}
end
