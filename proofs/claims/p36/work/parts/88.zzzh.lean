theorem Z2.T00_im : T00.IM := Tr.IM.mk (by decide) (by decide) (fun i h => absurd h (Nat.not_lt_zero i)) (fun i j _ h => absurd h (Nat.not_lt_zero j)) (Nat.le_refl _) (fun t ht => by
    have ht : t < 1 := ht
    rw [show t = 0 by omega]; decide) (fun i j _ _ => Nat.le_refl _) rfl (fun t h1 ht => absurd (show t < 1 from ht) (by omega)) (fun t h1 ht => absurd (show t < 1 from ht) (by omega)) (fun t ht => absurd (show t + 1 < 1 from ht) (by omega)) rfl (fun i h => absurd (show i + 1 < 1 from h) (by omega)) (fun i j _ h => absurd (show j + 1 < 1 from h) (by omega)) (fun i j h _ => absurd (show i + 1 < 1 from h) (by omega)) (fun i j h _ _ => absurd (show i + 1 < 1 from h) (by omega))
theorem Z2.T00_pot : T00.Pot 4 := ⟨fun _ x => x, Tr.Wt.mk (fun _ => rfl) (fun t ht q hq => by
    have ht : t < 1 := ht
    rw [show t = 0 by omega]; exact Nat.le_refl _) (fun t ht q hq => absurd (show t + 1 < 1 from ht) (by omega)), by decide⟩
theorem Z2.T00_inv : INV 0 T00 T00 false (fun _ => none) [] [] 0 (fun _ => []) :=
  ⟨T00_im, T00_pot, Or.inl (by decide), fun i j _ e => (by cases e), VK_nil, VK_nil, Nat.zero_le _, fun i h => absurd h (Nat.not_lt_zero i), fun i j _ h => absurd h (Nat.not_lt_zero j), Or.inl (Nat.le_refl _), fun h => (by cases h)⟩
