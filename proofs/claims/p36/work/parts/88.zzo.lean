theorem Z2.lg_self (x : Int64) : lg_cmp x x = 0 := by
  unfold lg_cmp
  rw [if_neg (Int64.lt_irrefl), if_pos rfl]
section
variable {zd : Nat} {f f' : FT} {o o' : Z2.OW} {xo oo : Nat} {ad ad2 : Nat → Nat} {ca ia ra la ka ba : Nat} {T U : Z2.Tr} {sv : Bool} {cu cu2 : Nat → Option Nat} {ky bd : Z2.Key} {w : Nat} {wk : Nat → Z2.Key} {wv : Nat → Int32} {n n' : Nat → Int32} {g g' : Nat → Nat → Int32} {c L bc bs : Nat} {xs : Nat → Int32} {y4 : Int32}
theorem Z2.lawE {r : Int32} (hn : n 0 = r) (hr : r ≠ 0) {P Q : Prop} (hP : P) : (n 0 = r → ((¬ r = (0 : Int32) → P) ∧ (r = (0 : Int32) → Q))) ∧ (¬ (n 0 = r) → False) :=
  ⟨fun _ => ⟨fun _ => hP, fun z => absurd z hr⟩, fun z => absurd hn z⟩
theorem Z2.room1 {c b k : Nat} (h : (512 - c) * k ≤ b) (hc : c < 512) : (512 - (c + 1)) * k ≤ b - k := by
  have e : 512 - c = (512 - (c + 1)) + 1 := by omega
  rw [e, Nat.add_mul, Nat.one_mul] at h
  exact Nat.le_sub_of_add_le h
theorem Z2.room0 {c b k : Nat} (h : (512 - c) * k ≤ b) : (512 - (c + 1)) * k ≤ b := Nat.le_trans (Nat.mul_le_mul_right k (by omega)) h
theorem Z2.room {c b k : Nat} (h : (512 - c) * k ≤ b) (hc : c < 512) : k ≤ b := by
  have := Nat.mul_le_mul_right k (show 1 ≤ 512 - c by omega)
  rw [Nat.one_mul] at this
  exact Nat.le_trans this h
theorem Z2.ST.pk (hc : c < 512) (s1 : (512 - c) * 1100 ≤ bc) (s2 : (512 - c) * 13900 ≤ bs) (W : CX zd f o xo oo ad ad2 ca ia ra la ka ba T U sv cu ky bd w wk wv) (M : MW n g T U sv cu ky bd w wk wv) (V : INV (c + 1) T U sv cu ky bd w wk) : ST zd xo oo (c + 1) f n g (bc - 1100) (bs - 13900) :=
  ⟨room1 s1 hc, room1 s2 hc, o, ad, ad2, ca, ia, ra, la, ka, ba, T, U, sv, cu, ky, bd, w, wk, wv, W, M, V⟩
theorem Z2.ST.pk0 (s1 : (512 - c) * 1100 ≤ bc) (s2 : (512 - c) * 13900 ≤ bs) (W : CX zd f o xo oo ad ad2 ca ia ra la ka ba T U sv cu ky bd w wk wv) (M : MW n g T U sv cu ky bd w wk wv) (V : INV (c + 1) T U sv cu ky bd w wk) : ST zd xo oo (c + 1) f n g bc bs :=
  ⟨room0 s1, room0 s2, o, ad, ad2, ca, ia, ra, la, ka, ba, T, U, sv, cu, ky, bd, w, wk, wv, W, M, V⟩
end
