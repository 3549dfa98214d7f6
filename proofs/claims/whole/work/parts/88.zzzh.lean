/-! the start -/
theorem Z2.T00_im : T00.IM := Tr.IM.mk (by decide) (by decide) (fun i h => absurd h (Nat.not_lt_zero i)) (fun i j _ h => absurd h (Nat.not_lt_zero j)) (Nat.le_refl _) (fun t ht => by
    have ht : t < 1 := ht
    rw [show t = 0 by omega]; decide) (fun i j _ _ => Nat.le_refl _) rfl (fun t h1 ht => absurd (show t < 1 from ht) (by omega)) (fun t h1 ht => absurd (show t < 1 from ht) (by omega)) (fun t ht => absurd (show t + 1 < 1 from ht) (by omega)) rfl (fun i h => absurd (show i + 1 < 1 from h) (by omega)) (fun i j _ h => absurd (show j + 1 < 1 from h) (by omega)) (fun i j h _ => absurd (show i + 1 < 1 from h) (by omega)) (fun i j h _ _ => absurd (show i + 1 < 1 from h) (by omega))
theorem Z2.T00_pot : T00.Pot 4 := ⟨fun _ x => x, Tr.Wt.mk (fun _ => rfl) (fun t ht q hq => by
    have ht : t < 1 := ht
    rw [show t = 0 by omega]; exact Nat.le_refl _) (fun t ht q hq => absurd (show t + 1 < 1 from ht) (by omega)), by decide⟩
theorem Z2.T00_inv : INV 0 T00 T00 false (fun _ => none) [] [] 0 (fun _ => []) :=
  ⟨T00_im, T00_pot, Or.inl (by decide), fun i j _ e => (by cases e), VK_nil, VK_nil, Nat.zero_le _, fun i h => absurd h (Nat.not_lt_zero i), fun i j _ h => absurd h (Nat.not_lt_zero j), Or.inl (Nat.le_refl _), fun h => (by cases h)⟩
theorem Z2.T00_mw : MW n00 g00 T00 T00 false (fun _ => none) [] [] 0 (fun _ => []) (fun _ => 0) := by
  refine ⟨MTf.mk rfl rfl rfl (fun i h => absurd h (Nat.not_lt_zero i)) (fun i h => absurd h (Nat.not_lt_zero i)) (fun i h => absurd h (Nat.not_lt_zero i)) (fun t ht => ?_) (fun t ht q hq => ?_) (fun i h => absurd (show i + 1 < 1 from h) (by omega)) (fun i h => absurd (show i + 1 < 1 from h) (by omega)) (fun i h => ⟨0, by decide, rfl⟩), ⟨rfl, rfl, rfl⟩, rfl, fun h => (by cases h), rfl, fun i h => absurd h (Nat.not_lt_zero i), rfl, fun i h => absurd h (Nat.not_lt_zero i), fun i hi => ?_, ⟨fun i h => absurd h (Nat.not_lt_zero i), fun i h => absurd h (Nat.not_lt_zero i), fun i h => absurd h (Nat.not_lt_zero i)⟩, rfl⟩
  · have ht : t < 1 := ht
    obtain rfl : t = 0 := by omega
    rfl
  · have ht : t < 1 := ht
    obtain rfl : t = 0 := by omega
    have hq : q < 1 := hq
    obtain rfl : q = 0 := by omega
    rfl
  · rcases (show i = 0 ∨ i = 1 ∨ i = 2 ∨ i = 3 by omega) with rfl | rfl | rfl | rfl <;> rfl
theorem Z2.s_law0 {zd L : Nat} {xs : Nat → Int32} {f : FT} (h2 : L ≤ 2048) : wp_law_0 zd xs L f := by
  refine nO_o (o := fun _ => none) (w := 303) (by decide) (by decide) (fun xo f1 o1 Z _ => ⟨200, 1000, by decide, by decide, s_X8_init Z (by decide) (by decide) (fun fc oc X => nO_g (by decide) (by decide) (fun mo f2 hm em nm => ⟨40, 40000, by decide, by decide, s_X9_init (fc := fc) (fun q e h => ?_) hm em (by decide) (by decide) (fun f3 ad r1 r2 r3 => ⟨by decide, 1, rfl, by decide, by decide, by decide, ?_⟩)⟩))⟩)
  · rw [nm q (ne_of_some h hm)]; exact h
  · rintro oo ho f4 rfl
    have hco : fc oo = none := by
      cases c : fc oo with
      | none => rfl
      | some e => have a := r1 oo e c; rw [ho] at a; cases a
    have FO : Fr (fun _ => False) fc oc (fup fc oo (.inl (3, (1, .inr (.inl fun _ => 0))))) (oup oc oo (some 304)) := Fr.new _ _ hco
    obtain ⟨d1, d2, ca, ia, ra, la, ka, x1, x2, x3, x4, x5, x6, x7, x8, x9⟩ := X
    obtain ⟨y1, y2⟩ := FO.get x1 (fun _ _ => id)
    refine ⟨fup fc oo (.inl (3, (1, .inr (.inl fun _ => 0)))), ad, n00, g00, fun q e h => ?_, fun q e h => ?_, fun q => ?_, r3, s_law23 h2 ⟨by decide, by decide, oup oc oo (some 304), d1, d2, ca, ia, ra, la, ka, ka, T00, T00, false, fun _ => none, [], [], 0, fun _ => [], fun _ => 0, ⟨y1, y2.trans x2, x3.fr FO (fun _ _ => id), x4.fr FO (fun _ _ => id), (x5.fr FO id).congr (fun _ _ => rfl), x6.fr FO id, x7.fr FO id, x8.fr FO (fun _ _ => id), x9.fr FO, x9.fr FO, fun _ => 0, fup_self _ _ _, oup_self _ _ _⟩, T00_mw, T00_inv⟩⟩
    · by_cases z : q = oo
      · rw [z, fup_self] at h
        rw [z, fup_self]; exact h
      · rw [fup_ne _ _ z] at h
        rw [fup_ne _ _ z]; exact r1 q e h
    · have a := (r2 q e h).1
      rw [fup_ne _ _ (ne_of_some a ho)]; exact a
    · cases c : mf mo ad n00 g00 q with
      | none => exact Or.inr rfl
      | some e =>
        obtain ⟨a, b⟩ := r2 q e c
        rw [fup_ne _ _ (ne_of_some a ho)]
        exact Or.inl b
