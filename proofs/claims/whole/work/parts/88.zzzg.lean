/-! the loop over the script -/
section
variable {zd : Nat} {f f' : FT} {o o' : Z2.OW} {xo oo : Nat} {ad ad2 : Nat → Nat} {ca ia ra la ka ba : Nat} {T T2 U : Z2.Tr} {sv : Bool} {cu cu2 : Nat → Option Nat} {ky bd : Z2.Key} {w : Nat} {wk : Nat → Z2.Key} {wv : Nat → Int32} {n n' : Nat → Int32} {g g' : Nat → Nat → Int32} {c L bc bs : Nat} {xs : Nat → Int32} {y4 : Int32}
theorem Z2.ST.next (S : ST zd xo oo c f n g bc bs) : ST zd xo oo (c + 1) f n g bc bs := by
  obtain ⟨s1, s2, o, ad, ad2, ca, ia, ra, la, ka, ba, T, U, sv, cu, ky, bd, w, wk, wv, W, M, V⟩ := S
  exact ST.pk0 s1 s2 W M V.next
theorem Z2.s_law23 (h2 : L ≤ 2048) (S : ST zd xo oo 0 f n g bc bs) : ∃ t, loopW (wp_law_23 zd xs L xo oo) t ((0 : Int32), f, n, g, bc, bs) := by
  refine loopW_of (fun s => ∃ (c : Nat) (f : FT) (n : Nat → Int32) (g : Nat → Nat → Int32) (bc bs : Nat), s = (zI (4 * c), f, n, g, bc, bs) ∧ 4 * c ≤ 2048 ∧ ST zd xo oo c f n g bc bs) (fun s => 5000 - s.1.toNatClampNeg) ?_ _ ⟨0, f, n, g, bc, bs, rfl, by omega, S⟩
  rintro C _ ⟨c, f, n, g, bc, bs, rfl, hc, S⟩ hC
  rintro v0 rfl z
  have hL : 4 * c + 4 ≤ L := by
    have z := Int32.not_lt.mp z
    rw [Int32.le_iff_toInt_le, Int32.toInt_sub, zI_toInt (by omega)] at z
    have e : (Int32.ofNat L).toInt = (L : Int) := zI_toInt (by omega)
    rw [e, show (4 : Int32).toInt = 4 from rfl] at z
    have e2 : Int.bmod ((L : Int) - 4) (2 ^ 32) = (L : Int) - 4 := by
      show Int.bmod _ 4294967296 = _
      rw [Int.bmod_def]
      split <;> omega
    rw [e2] at z
    omega
  have nx : ∀ f' n' g' bc' bs', ST zd xo oo (c + 1) f' n' g' bc' bs' → wp_law_next C (zI (4 * c), f', n', g', bc', bs') := fun f' n' g' bc' bs' S' => by
    rintro v rfl
    rw [show zI (4 * c) + 4 = zI (4 * (c + 1)) from zI_add (4 * c) 4]
    refine hC _ ⟨c + 1, f', n', g', bc', bs', rfl, by omega, S'⟩ ?_
    show 5000 - (zI (4 * (c + 1))).toNatClampNeg < 5000 - (zI (4 * c)).toNatClampNeg
    rw [zI_clamp (by omega), zI_clamp (by omega)]
    omega
  refine ⟨in_i (by omega) (by omega), ?_⟩
  intro v1 _ v2 _
  exact ⟨fun _ => law0 rfl hL h2 S nx, fun _ => law1 rfl hL h2 S nx, fun _ => law2 rfl hL h2 S nx, fun _ => law3 rfl hL h2 S nx, fun _ => law4 rfl hL h2 S nx, fun _ => law5 rfl hL h2 S nx, fun _ => law6 rfl hL h2 S nx, fun _ => law7 S (by omega) nx, fun _ => law8 rfl hL h2 S nx, fun _ => law9 rfl hL h2 S nx, fun _ => law10 S (by omega) nx, fun _ => law11 S (by omega) nx, fun _ => law12 rfl hL h2 S nx, fun _ => law13 S (by omega) nx, fun _ => law14 S (by omega) nx, fun _ => law15 S (by omega) nx, fun _ => law16 rfl hL h2 S nx, fun _ => law17 rfl hL h2 S nx, fun _ => law18 rfl hL h2 S nx, fun _ => law19 rfl hL h2 S nx, fun _ => law20 rfl hL h2 S nx, fun _ => law21 S (by omega) nx, fun _ => law22 rfl hL h2 S nx, fun _ => law23 rfl hL h2 S nx, fun _ => law24 rfl hL h2 S nx, fun _ => law25 rfl hL h2 S nx, fun _ => law26 rfl hL h2 S nx, fun _ => law27 rfl hL h2 S nx, fun _ => law28 rfl hL h2 S nx, fun _ => law29 rfl hL h2 S nx, fun _ => law30 rfl hL h2 S nx, fun _ => law31 rfl hL h2 S nx, fun _ => law32 rfl hL h2 S nx, nx _ _ _ _ _ S.next⟩
end
