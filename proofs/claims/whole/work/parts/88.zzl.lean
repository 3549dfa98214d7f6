/-! the class's face: countPrefix -/
theorem Z2.sh_full_nlt : ∀ (a k : Key), sh a k = k.length → ¬ klt a k := by
  intro a k
  induction k generalizing a with
  | nil => intro _; cases a <;> exact fun h => h
  | cons c k ih =>
    intro h
    cases a with
    | nil => exact absurd h (by show ¬ (0 = k.length + 1); omega)
    | cons d a =>
      have h : (if d = c then sh a k + 1 else 0) = k.length + 1 := h
      by_cases y : d = c
      · rw [if_pos y] at h
        rintro (g | ⟨-, g⟩)
        · rw [y] at g; exact Int32.lt_irrefl g
        · exact ih a (by omega) g
      · rw [if_neg y] at h; omega
theorem Z2.sh_past : ∀ (a b k : Key), ¬ klt a k → sh a k ≠ k.length → klt a b → sh b k ≠ k.length := by
  intro a b k
  induction k generalizing a b with
  | nil => intro _ h; exact absurd (by cases a <;> rfl) h
  | cons c k ih =>
    intro h1 h2 h3
    cases a with
    | nil => exact absurd trivial h1
    | cons d a =>
      cases b with
      | nil => exact h3.elim
      | cons e b =>
        have h2 : (if d = c then sh a k + 1 else 0) ≠ k.length + 1 := h2
        show (if e = c then sh b k + 1 else 0) ≠ k.length + 1
        by_cases y : e = c
        · rw [if_pos y]
          by_cases x : d = c
          · rw [if_pos x] at h2
            have g : klt a b := by
              rcases h3 with g | ⟨-, g⟩
              · rw [x, y] at g; exact (Int32.lt_irrefl g).elim
              · exact g
            have := ih a b (fun z => h1 (Or.inr ⟨x, z⟩)) (by omega) g
            omega
          · exfalso
            rcases h3 with g | ⟨g, -⟩
            · rw [y] at g; exact h1 (Or.inl g)
            · exact x (g.trans y)
        · rw [if_neg y]; omega
theorem Z2.cnt_range {p : Nat → Bool} {s e n : Nat} (h1 : s ≤ e) (a1 : ∀ i, i < s → i < n → p i = false) (a2 : ∀ i, s ≤ i → i < e → i < n → p i = true) (a3 : ∀ i, e ≤ i → i < n → p i = false) : ∀ k, k ≤ n → cnt p k = min k e - min k s := by
  intro k
  induction k with
  | zero => intro _; show 0 = _; omega
  | succ k ih =>
    intro hk
    have := ih (by omega)
    show cnt p k + (if p k = true then 1 else 0) = _
    rw [this]
    rcases Nat.lt_or_ge k s with g | g
    · rw [a1 k g (by omega), if_neg (by decide)]; omega
    · rcases Nat.lt_or_ge k e with g2 | g2
      · rw [a2 k g g2 (by omega), if_pos rfl]; omega
      · rw [a3 k g2 (by omega), if_neg (by decide)]; omega
section
variable {zd : Nat} {f f' : FT} {o o' : Z2.OW} {xo oo : Nat} {ad ad2 : Nat → Nat} {ca ia ra la ka ba : Nat} {T U : Z2.Tr} {sv : Bool} {cu cu2 : Nat → Option Nat} {ky bd : Z2.Key} {w : Nat} {wk : Nat → Z2.Key} {wv : Nat → Int32} {mc ms : Nat}
theorem Z2.s_X8_countPrefix (W : CX zd f o xo oo ad ad2 ca ia ra la ka ba T U sv cu ky bd w wk wv) (I : T.IM) {K : Int32 → Prop} (hK : K (zI (cnt (fun i => dec (sh (T.ks i) ky = ky.length)) T.n))) : wp_X8_countPrefix xo f K := by
  obtain ⟨x1, x2, x3, x4, x5, x6, x7, x8, x9, x10, x11⟩ := W
  obtain ⟨c, R⟩ := x3.keysR
  have hn := I.n3
  have lk := x9.v.1
  obtain ⟨l1, l2, l3⟩ := Tr.IM.less_at I ky
  refine gA_i x1 rfl (gA_i x3.1 rfl (gA_i x1 rfl ⟨R.o, s_X4_countBelow R x9 I.srt 0 ?_⟩))
  rw [Tr.less_ff]
  have fin : ∀ e, T.less ky ≤ e → e ≤ T.n → (∀ i, T.less ky ≤ i → i < e → sh (T.ks i) ky = ky.length) → (e < T.n → sh (T.ks e) ky ≠ ky.length) → K (zI e - zI (T.less ky)) := fun e e1 e2 e3 e4 => by
    have := cnt_range (p := fun i => dec (sh (T.ks i) ky = ky.length)) (s := T.less ky) (e := e) (n := T.n) e1 (fun i hi _ => dec_f (fun h => sh_full_nlt _ _ h (l2 i hi))) (fun i h1 h2 _ => dec_t (e3 i h1 h2)) (fun i h1 h2 => dec_f (fun h => by
      rcases Nat.lt_or_eq_of_le h1 with g | g
      · exact sh_past _ _ _ (l3 e e1 (by omega)) (e4 (by omega)) (I.srt e i g h2) h
      · rw [← g] at h h2; exact e4 h2 h)) T.n (Nat.le_refl _)
    rw [this, show min T.n e - min T.n (T.less ky) = e - T.less ky by omega] at hK
    rw [zI_sub e1]; exact hK
  refine loopW_of (fun s => ∃ e, s = zI e ∧ T.less ky ≤ e ∧ e ≤ T.n ∧ ∀ i, T.less ky ≤ i → i < e → sh (T.ks i) ky = ky.length) (fun s => 500 - s.toNatClampNeg) ?_ _ ⟨T.less ky, rfl, Nat.le_refl _, l1, fun i h1 h2 => absurd h1 (by omega)⟩
  rintro C s ⟨e, rfl, e1, e2, e3⟩ hC
  refine gA_i x1 rfl (gA_i x3.1 rfl ⟨R.o, s_X4_count R ⟨fun y => ?_, fun y => ?_⟩⟩)
  · rw [zI_le (by omega) (by omega)] at y
    exact fin e e1 e2 e3 (fun h => by omega)
  · rw [zI_le (by omega) (by omega)] at y
    have hs := sh_le_left (T.ks e) ky
    have v1 := (I.vk e (by omega)).1
    refine gA_i x1 rfl (gA_i x3.1 rfl ⟨R.o, s_X4_at R (by omega) (fun a hka => gA_i x1 rfl ⟨hka.o, s_X3_sharedWith hka x9 (gA_i x1 rfl ⟨x9.o, s_X3_length x9 ⟨fun z => ?_, fun z => ?_⟩⟩)⟩)⟩)
    · rw [zI_inj (by omega) (by omega)] at z
      exact fin e e1 e2 e3 (fun _ => z)
    · rw [zI_inj (by omega) (by omega)] at z
      rintro v rfl
      rw [show zI e + 1 = zI (e + 1) from zI_add e 1]
      refine hC _ ⟨e + 1, rfl, by omega, by omega, fun i h1 h2 => ?_⟩ ?_
      · rcases Nat.lt_or_eq_of_le (show i ≤ e by omega) with g | g
        · exact e3 i h1 g
        · rw [g]; exact z
      · show 500 - (zI (e + 1)).toNatClampNeg < 500 - (zI e).toNatClampNeg
        rw [zI_clamp (by omega), zI_clamp (by omega)]; omega
end
