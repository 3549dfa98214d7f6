/-! the reference: small calls -/
theorem Z2.asZ {x : Int32} {N : Nat} (hN : N < 2147483648) (h0 : (0 : Int32) ≤ x) (h1 : x ≤ zI N) : ∃ i, i ≤ N ∧ x = zI i := by
  rw [Int32.le_iff_toInt_le] at h0 h1
  rw [zI_toInt hN] at h1
  have e0 : (0 : Int32).toInt = 0 := rfl
  rw [e0] at h0
  refine ⟨x.toInt.toNat, by omega, ?_⟩
  rw [← Int32.toInt_inj, zI_toInt (by omega)]; omega
section
variable {n : Nat → Int32} {g : Nat → Nat → Int32} {T : Z2.Tr}
theorem Z2.s9_in {x lo hi : Int32} {K : Int32 → Prop} (h0 : ¬ (lo ≤ x ∧ x ≤ hi) → K 0) (h1 : lo ≤ x → x ≤ hi → K 1) : wp_X9_in x lo hi n g K :=
  ⟨fun z => h0 (fun y => absurd y.1 (Int32.not_le.mpr z)), fun z => ⟨fun y => h0 (fun w => absurd w.2 (Int32.not_le.mpr y)), fun y => h1 (Int32.not_lt.mp z) (Int32.not_lt.mp y)⟩⟩
theorem Z2.s9_copy {k0 k1 N : Nat} (h0 : k0 ∈ mAI) (h1 : k1 ∈ mAI) (hne : k0 ≠ k1) (l0 : N ≤ mlen k0) (l1 : N ≤ mlen k1) (m0 : mlen k0 ≤ 10000) (m1 : mlen k1 ≤ 10000) {K : (Nat → Int32) → (Nat → Nat → Int32) → Prop} (hK : ∀ g', (∀ k, k ≠ k1 → g' k = g k) → (∀ i, i < N → g' k1 i = g k0 i) → K n g') : wp_X9_copy k0 k1 (zI N) n g K := by
  refine loopW_of (fun s => ∃ j g1, s = (zI j, n, g1) ∧ j ≤ N ∧ (∀ k, k ≠ k1 → g1 k = g k) ∧ ∀ i, i < j → g1 k1 i = g k0 i) (fun s => 10000 - s.1.toNatClampNeg) ?_ _ ⟨0, g, rfl, Nat.zero_le _, fun _ _ => rfl, fun i hi => absurd hi (Nat.not_lt_zero i)⟩
  rintro C s ⟨j, g1, rfl, hj, p1, p2⟩ hC
  refine ⟨fun z => ?_, fun z => ?_⟩
  · rw [zI_le (by omega) (by omega)] at z
    exact hK g1 p1 (fun i hi => p2 i (by omega))
  · rw [zI_le (by omega) (by omega)] at z
    refine ⟨h0, rd (show j < mlen k0 by omega) m0 ⟨h1, wr (show j < mlen k1 by omega) m1 ?_⟩⟩
    rintro v rfl
    rw [show zI j + 1 = zI (j + 1) from zI_add j 1]
    refine hC _ ⟨j + 1, _, rfl, by omega, fun k hk => by rw [mup_ne _ _ _ hk]; exact p1 k hk, fun i hi => ?_⟩ ?_
    · rw [mup_same]
      by_cases y : i = j
      · rw [y, upd_same, p1 k0 hne]
      · rw [upd_ne _ _ y]; exact p2 i (by omega)
    · show 10000 - (zI (j + 1)).toNatClampNeg < 10000 - (zI j).toNatClampNeg
      rw [zI_clamp (by omega), zI_clamp (by omega)]; omega
theorem Z2.MTf.copy {F F' : Nat → Nat} {n' : Nat → Int32} {g' : Nat → Nat → Int32} (M : MTf F n g T) (B : BT T) (e0 : n' (F' 0) = n (F 0)) (e1 : n' (F' 1) = n (F 1)) (e5 : n' (F' 5) = n (F 5)) (c2 : ∀ i, i < 300 → g' (F' 2) i = g (F 2) i) (c3 : ∀ i, i < 3600 → g' (F' 3) i = g (F 3) i) (c4 : ∀ i, i < 300 → g' (F' 4) i = g (F 4) i) (c6 : ∀ i, i < 12 → g' (F' 6) i = g (F 6) i) (c7 : ∀ i, i < 4800 → g' (F' 7) i = g (F 7) i) (c8 : ∀ i, i < 400 → g' (F' 8) i = g (F 8) i) (c9 : ∀ i, i < 4800 → g' (F' 9) i = g (F 9) i) : MTf F' n' g' T := by
  have hn := B.im.n3
  have hh := B.h12
  have hm := B.m4
  refine MTf.mk (e0.trans M.cap) (e1.trans M.cn) (e5.trans M.ch) (fun i hi => by rw [c2 i (by omega)]; exact M.sz i hi) (fun i hi j hj => ?_) (fun i hi => by rw [c4 i (by omega)]; exact M.vs i hi) (fun t ht => by rw [c6 t (by omega)]; exact M.m t ht) (fun t ht q hq => ?_) (fun i hi => by rw [c8 i (by omega)]; exact M.ss i hi) (fun i hi j hj => ?_) (fun i hi => by rw [c8 i hi]; exact M.jk i hi)
  · have := (B.im.vk i hi).1
    rw [c3 _ (by omega)]; exact M.kb i hi j hj
  · have := B.m ht
    rw [c7 _ (by omega)]; exact M.pt t ht q hq
  · have := (B.im.svk i hi).1
    rw [c9 _ (by omega)]; exact M.sb i hi j hj
theorem Z2.s9_save (M : MT n g T) (B : BT T) {K : Int32 → (Nat → Int32) → (Nat → Nat → Int32) → Prop} (hK : ∀ n' g', MTf fS n' g' T → n' 0 = 0 → n' 23 = 1 → (∀ k, k ≠ 0 → k ≠ 23 → k ≠ 24 → k ≠ 25 → k ≠ 26 → n' k = n k) → (∀ k, k < 27 → g' k = g k) → K (zI T.n) n' g') : wp_X9_saveSnapshot n g K := by
  rintro n1 rfl n2 rfl n3 rfl n4 rfl
  refine s9_copy (by decide) (by decide) (by decide) (by decide) (by decide) (by decide) (by decide) (fun g1 a1 b1 => ?_)
  refine s9_copy (by decide) (by decide) (by decide) (by decide) (by decide) (by decide) (by decide) (fun g2 a2 b2 => ?_)
  refine s9_copy (by decide) (by decide) (by decide) (by decide) (by decide) (by decide) (by decide) (fun g3 a3 b3 => ?_)
  refine s9_copy (by decide) (by decide) (by decide) (by decide) (by decide) (by decide) (by decide) (fun g4 a4 b4 => ?_)
  refine s9_copy (by decide) (by decide) (by decide) (by decide) (by decide) (by decide) (by decide) (fun g5 a5 b5 => ?_)
  refine s9_copy (by decide) (by decide) (by decide) (by decide) (by decide) (by decide) (by decide) (fun g6 a6 b6 => ?_)
  refine s9_copy (by decide) (by decide) (by decide) (by decide) (by decide) (by decide) (by decide) (fun g7 a7 b7 => ?_)
  rintro n5 rfl
  have q : ∀ k, k < 27 → g7 k = g k := fun k hk => by rw [a7 k (by omega), a6 k (by omega), a5 k (by omega), a4 k (by omega), a3 k (by omega), a2 k (by omega), a1 k (by omega)]
  have e9 : n 9 = zI T.n := M.cn
  have go : ∀ v, v = zI T.n → K v (upd (upd (upd (upd (upd n 23 1) 24 (upd n 23 1 5)) 25 (upd (upd n 23 1) 24 (upd n 23 1 5) 9)) 26 (upd (upd (upd n 23 1) 24 (upd n 23 1 5)) 25 (upd (upd n 23 1) 24 (upd n 23 1 5) 9) 13)) 0 0) g7 := by
    rintro v rfl
    refine hK _ g7 (MTf.copy (F := fL) M B rfl rfl rfl (fun i hi => ?_) (fun i hi => ?_) (fun i hi => ?_) (fun i hi => ?_) (fun i hi => ?_) (fun i hi => ?_) (fun i hi => ?_)) rfl rfl (fun k h0 h1 h2 h3 h4 => ?_) q
    · show g7 27 i = g 10 i
      rw [a7 27 (by decide), a6 27 (by decide), a5 27 (by decide), a4 27 (by decide), a3 27 (by decide), a2 27 (by decide)]; exact b1 i hi
    · show g7 28 i = g 11 i
      rw [a7 28 (by decide), a6 28 (by decide), a5 28 (by decide), a4 28 (by decide), a3 28 (by decide), b2 i hi, a1 11 (by decide)]
    · show g7 29 i = g 12 i
      rw [a7 29 (by decide), a6 29 (by decide), a5 29 (by decide), a4 29 (by decide), b3 i hi, a2 12 (by decide), a1 12 (by decide)]
    · show g7 30 i = g 14 i
      rw [a7 30 (by decide), a6 30 (by decide), a5 30 (by decide), b4 i hi, a3 14 (by decide), a2 14 (by decide), a1 14 (by decide)]
    · show g7 31 i = g 15 i
      rw [a7 31 (by decide), a6 31 (by decide), b5 i hi, a4 15 (by decide), a3 15 (by decide), a2 15 (by decide), a1 15 (by decide)]
    · show g7 32 i = g 16 i
      rw [a7 32 (by decide), b6 i hi, a5 16 (by decide), a4 16 (by decide), a3 16 (by decide), a2 16 (by decide), a1 16 (by decide)]
    · show g7 33 i = g 17 i
      rw [b7 i hi, a6 17 (by decide), a5 17 (by decide), a4 17 (by decide), a3 17 (by decide), a2 17 (by decide), a1 17 (by decide)]
    · unfold upd; rw [if_neg h0, if_neg h4, if_neg h3, if_neg h2, if_neg h1]
  exact go _ e9
theorem Z2.s9_restore {U : Tr} (M : MTf fS n g U) (B : BT U) (hs : n 23 = 1) {K : Int32 → (Nat → Int32) → (Nat → Nat → Int32) → Prop} (hK : ∀ n' g', MT n' g' U → n' 0 = 0 → (∀ k, k ≠ 0 → k ≠ 5 → k ≠ 9 → k ≠ 13 → n' k = n k) → (∀ k, k < 10 ∨ 18 < k → g' k = g k) → (∀ i, i < 4 → g' 18 i = -2) → K (zI U.n) n' g') : wp_X9_restoreSnapshot n g K := by
  refine ⟨fun _ => ?_, fun z => by rw [hs] at z; exact absurd z (by decide)⟩
  rintro n2 rfl n3 rfl n4 rfl
  refine s9_copy (by decide) (by decide) (by decide) (by decide) (by decide) (by decide) (by decide) (fun g1 a1 b1 => ?_)
  refine s9_copy (by decide) (by decide) (by decide) (by decide) (by decide) (by decide) (by decide) (fun g2 a2 b2 => ?_)
  refine s9_copy (by decide) (by decide) (by decide) (by decide) (by decide) (by decide) (by decide) (fun g3 a3 b3 => ?_)
  refine s9_copy (by decide) (by decide) (by decide) (by decide) (by decide) (by decide) (by decide) (fun g4 a4 b4 => ?_)
  refine s9_copy (by decide) (by decide) (by decide) (by decide) (by decide) (by decide) (by decide) (fun g5 a5 b5 => ?_)
  refine s9_copy (by decide) (by decide) (by decide) (by decide) (by decide) (by decide) (by decide) (fun g6 a6 b6 => ?_)
  refine s9_copy (by decide) (by decide) (by decide) (by decide) (by decide) (by decide) (by decide) (fun g7 a7 b7 => ?_)
  refine s9_closesAll (fun g8 a8 b8 => ?_)
  rintro n5 rfl
  have e9 : n 25 = zI U.n := M.cn
  have go : ∀ v, v = zI U.n → K v (upd (upd (upd (upd n 5 (n 24)) 9 (upd n 5 (n 24) 25)) 13 (upd (upd n 5 (n 24)) 9 (upd n 5 (n 24) 25) 26)) 0 0) g8 := by
    rintro v rfl
    refine hK _ g8 (MTf.copy (F := fS) M B rfl rfl rfl (fun i hi => ?_) (fun i hi => ?_) (fun i hi => ?_) (fun i hi => ?_) (fun i hi => ?_) (fun i hi => ?_) (fun i hi => ?_)) rfl (fun k h0 h1 h2 h3 => ?_) (fun k hk => ?_) b8
    · show g8 10 i = g 27 i
      rw [a8 10 (by decide), a7 10 (by decide), a6 10 (by decide), a5 10 (by decide), a4 10 (by decide), a3 10 (by decide), a2 10 (by decide)]; exact b1 i hi
    · show g8 11 i = g 28 i
      rw [a8 11 (by decide), a7 11 (by decide), a6 11 (by decide), a5 11 (by decide), a4 11 (by decide), a3 11 (by decide), b2 i hi, a1 28 (by decide)]
    · show g8 12 i = g 29 i
      rw [a8 12 (by decide), a7 12 (by decide), a6 12 (by decide), a5 12 (by decide), a4 12 (by decide), b3 i hi, a2 29 (by decide), a1 29 (by decide)]
    · show g8 14 i = g 30 i
      rw [a8 14 (by decide), a7 14 (by decide), a6 14 (by decide), a5 14 (by decide), b4 i hi, a3 30 (by decide), a2 30 (by decide), a1 30 (by decide)]
    · show g8 15 i = g 31 i
      rw [a8 15 (by decide), a7 15 (by decide), a6 15 (by decide), b5 i hi, a4 31 (by decide), a3 31 (by decide), a2 31 (by decide), a1 31 (by decide)]
    · show g8 16 i = g 32 i
      rw [a8 16 (by decide), a7 16 (by decide), b6 i hi, a5 32 (by decide), a4 32 (by decide), a3 32 (by decide), a2 32 (by decide), a1 32 (by decide)]
    · show g8 17 i = g 33 i
      rw [a8 17 (by decide), b7 i hi, a6 33 (by decide), a5 33 (by decide), a4 33 (by decide), a3 33 (by decide), a2 33 (by decide), a1 33 (by decide)]
    · unfold upd; rw [if_neg h0, if_neg h3, if_neg h2, if_neg h1]
    · rw [a8 k (by omega), a7 k (by omega), a6 k (by omega), a5 k (by omega), a4 k (by omega), a3 k (by omega), a2 k (by omega), a1 k (by omega)]
  exact go _ e9
end
