theorem Z2.sh_full_nlt : ∀ (a k : Key), sh a k = k.length → ¬ klt a k := by
  intro a k
  induction k generalizing a with
  | nil => intro _; cases a <;> exact fun h => h
  | cons c k ih =>
    intro h
    cases a with
    | nil => exact absurd h (by show ¬ (0 = k.length + 1); omega)
    | cons d a =>
      have h : (if d = c then sh a k + 1 else 0) = k.length + 1 := h
      by_cases y : d = c
      · rw [if_pos y] at h
        rintro (g | ⟨-, g⟩)
        · rw [y] at g; exact Int32.lt_irrefl g
        · exact ih a (by omega) g
      · rw [if_neg y] at h; omega
theorem Z2.sh_past : ∀ (a b k : Key), ¬ klt a k → sh a k ≠ k.length → klt a b → sh b k ≠ k.length := by
  intro a b k
  induction k generalizing a b with
  | nil => intro _ h; exact absurd (by cases a <;> rfl) h
  | cons c k ih =>
    intro h1 h2 h3
    cases a with
    | nil => exact absurd trivial h1
    | cons d a =>
      cases b with
      | nil => exact h3.elim
      | cons e b =>
        have h2 : (if d = c then sh a k + 1 else 0) ≠ k.length + 1 := h2
        show (if e = c then sh b k + 1 else 0) ≠ k.length + 1
        by_cases y : e = c
        · rw [if_pos y]
          by_cases x : d = c
          · rw [if_pos x] at h2
            have g : klt a b := by
              rcases h3 with g | ⟨-, g⟩
              · rw [x, y] at g; exact (Int32.lt_irrefl g).elim
              · exact g
            have := ih a b (fun z => h1 (Or.inr ⟨x, z⟩)) (by omega) g
            omega
          · exfalso
            rcases h3 with g | ⟨g, -⟩
            · rw [y] at g; exact h1 (Or.inl g)
            · exact x (g.trans y)
        · rw [if_neg y]; omega
theorem Z2.cnt_range {p : Nat → Bool} {s e n : Nat} (h1 : s ≤ e) (a1 : ∀ i, i < s → i < n → p i = false) (a2 : ∀ i, s ≤ i → i < e → i < n → p i = true) (a3 : ∀ i, e ≤ i → i < n → p i = false) : ∀ k, k ≤ n → cnt p k = min k e - min k s := by
  intro k
  induction k with
  | zero => intro _; show 0 = _; omega
  | succ k ih =>
    intro hk
    have := ih (by omega)
    show cnt p k + (if p k = true then 1 else 0) = _
    rw [this]
    rcases Nat.lt_or_ge k s with g | g
    · rw [a1 k g (by omega), if_neg (by decide)]; omega
    · rcases Nat.lt_or_ge k e with g2 | g2
      · rw [a2 k g g2 (by omega), if_pos rfl]; omega
      · rw [a3 k g2 (by omega), if_neg (by decide)]; omega
section
variable {zd : Nat} {f f' : FT} {o o' : Z2.OW} {xo oo : Nat} {ad ad2 : Nat → Nat} {ca ia ra la ka ba : Nat} {T U : Z2.Tr} {sv : Bool} {cu cu2 : Nat → Option Nat} {ky bd : Z2.Key} {w : Nat} {wk : Nat → Z2.Key} {wv : Nat → Int32} {mc ms : Nat}
end
