theorem Z2.asZ {x : Int32} {N : Nat} (hN : N < 2147483648) (h0 : (0 : Int32) ≤ x) (h1 : x ≤ zI N) : ∃ i, i ≤ N ∧ x = zI i := by
  rw [Int32.le_iff_toInt_le] at h0 h1
  rw [zI_toInt hN] at h1
  have e0 : (0 : Int32).toInt = 0 := rfl
  rw [e0] at h0
  refine ⟨x.toInt.toNat, by omega, ?_⟩
  rw [← Int32.toInt_inj, zI_toInt (by omega)]; omega
section
variable {n : Nat → Int32} {g : Nat → Nat → Int32} {T : Z2.Tr}
theorem Z2.MTf.copy {F F' : Nat → Nat} {n' : Nat → Int32} {g' : Nat → Nat → Int32} (M : MTf F n g T) (B : BT T) (e0 : n' (F' 0) = n (F 0)) (e1 : n' (F' 1) = n (F 1)) (e5 : n' (F' 5) = n (F 5)) (c2 : ∀ i, i < 300 → g' (F' 2) i = g (F 2) i) (c3 : ∀ i, i < 3600 → g' (F' 3) i = g (F 3) i) (c4 : ∀ i, i < 300 → g' (F' 4) i = g (F 4) i) (c6 : ∀ i, i < 12 → g' (F' 6) i = g (F 6) i) (c7 : ∀ i, i < 4800 → g' (F' 7) i = g (F 7) i) (c8 : ∀ i, i < 400 → g' (F' 8) i = g (F 8) i) (c9 : ∀ i, i < 4800 → g' (F' 9) i = g (F 9) i) : MTf F' n' g' T := by
  have hn := B.im.n3
  have hh := B.h12
  have hm := B.m4
  refine MTf.mk (e0.trans M.cap) (e1.trans M.cn) (e5.trans M.ch) (fun i hi => by rw [c2 i (by omega)]; exact M.sz i hi) (fun i hi j hj => ?_) (fun i hi => by rw [c4 i (by omega)]; exact M.vs i hi) (fun t ht => by rw [c6 t (by omega)]; exact M.m t ht) (fun t ht q hq => ?_) (fun i hi => by rw [c8 i (by omega)]; exact M.ss i hi) (fun i hi j hj => ?_) (fun i hi => by rw [c8 i hi]; exact M.jk i hi)
  · have := (B.im.vk i hi).1
    rw [c3 _ (by omega)]; exact M.kb i hi j hj
  · have := B.m ht
    rw [c7 _ (by omega)]; exact M.pt t ht q hq
  · have := (B.im.svk i hi).1
    rw [c9 _ (by omega)]; exact M.sb i hi j hj
end
