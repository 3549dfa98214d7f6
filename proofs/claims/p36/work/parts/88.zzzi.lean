/-! p36: the state between the law's calls -/
def Z2.wk0 : Nat → Key := fun _ => []
def Z2.wv0 : Nat → Int32 := fun _ => 0
def Z2.CP (zd : Nat) (f : FT) (xo : Nat) (T U : Tr) (sv : Bool) (cu : Nat → Option Nat) (ky bd : Key) : Prop := ∃ (o : OW) (ad ad2 : Nat → Nat) (ca ia ra la ka ba : Nat), CX zd f o xo 0 ad ad2 ca ia ra la ka ba T U sv cu ky bd 0 wk0 wv0
/-- after k calls that change the entries -/
def Z2.PV (k : Nat) (T : Tr) (cu : Nat → Option Nat) : Prop := T.IM ∧ T.Pot (k + 4) ∧ T.m 0 ≤ k + 1 ∧ T.n ≤ k ∧ (∀ i j, i < 4 → cu i = some j → j ≤ T.n) ∧ T.c1 ≤ k ∧ T.c2 ≤ 12 * k
theorem Z2.Tr.rise_c1 (T : Tr) (t : Nat) : (T.rise t).c1 = T.c1 := by unfold Tr.rise; split <;> rfl
theorem Z2.Tr.up_c1 : ∀ (k : Nat) (T : Tr) (t p : Nat), (Tr.up k T t p).c1 = T.c1 := by
  intro k
  induction k with
  | zero => intro T t p; rfl
  | succ k ih =>
    intro T t p
    unfold Tr.up
    split
    · rfl
    · rw [ih]; exact Tr.rise_c1 T t
theorem Z2.Tr.eases_c1 (T : Tr) (p : Nat) : (T.eases p).c1 ≤ T.c1 + 1 := by
  unfold Tr.eases
  have e1 : ∀ x, T.giveL p = some x → x.c1 = T.c1 + 1 := fun x h => by
    unfold Tr.giveL at h
    split at h
    · injection h with h; rw [← h]; rfl
    · cases h
  have e2 : ∀ x, T.giveR p = some x → x.c1 = T.c1 + 1 := fun x h => by
    unfold Tr.giveR at h
    split at h
    · injection h with h; rw [← h]; rfl
    · cases h
  generalize T.giveL p = a at *
  cases a with
  | some x => exact Nat.le_of_eq (e1 x rfl)
  | none =>
    show (match T.giveR p with | some x => x | none => T.split 0 p).c1 ≤ T.c1 + 1
    generalize T.giveR p = b at *
    cases b with
    | some x => exact Nat.le_of_eq (e2 x rfl)
    | none => exact Nat.le_trans (Nat.le_of_eq (Tr.rise_c1 T 0)) (Nat.le_succ _)
theorem Z2.Tr.insert_c1 (T : Tr) (k : Key) (v : Int32) : (T.insert k v).c1 ≤ T.c1 + 1 := by
  unfold Tr.insert Tr.grow
  split
  · exact Nat.le_succ _
  · rw [Tr.up_c1]; exact Tr.eases_c1 _ _
theorem Z2.Tr.down_c2 : ∀ (k : Nat) (T : Tr) (t p : Nat), (Tr.down k T t p).c2 ≤ T.c2 + k := by
  intro k
  induction k with
  | zero => intro T t p; exact Nat.le_refl _
  | succ k ih =>
    intro T t p
    unfold Tr.down
    generalize T.melt t p = a
    cases a with
    | none => exact Nat.le_add_right _ _
    | some l =>
      have h : (T.join t l).c2 = T.c2 + 1 := rfl
      have := ih (T.join t l) (t + 1) (T.par t p)
      show (Tr.down k (T.join t l) (t + 1) (T.par t p)).c2 ≤ T.c2 + (k + 1)
      omega
theorem Z2.Tr.coll_c2 : ∀ (k : Nat) (T : Tr), (Tr.coll k T).c2 = T.c2 := by
  intro k
  induction k with
  | zero => intro T; rfl
  | succ k ih =>
    intro T
    unfold Tr.coll
    split
    · exact ih _
    · rfl
theorem Z2.Tr.remove_c2 (T : Tr) (pos : Nat) : (T.remove pos).c2 ≤ T.c2 + (T.h - 1) := by
  unfold Tr.remove
  dsimp only [Tr.mk_cap, Tr.mk_n, Tr.mk_ks, Tr.mk_vs, Tr.mk_h, Tr.mk_m, Tr.mk_E, Tr.mk_S, Tr.mk_c0, Tr.mk_c1, Tr.mk_c2]
  rw [Tr.coll_c2]
  exact Tr.down_c2 (T.h - 1) (T.leafDel pos (T.pgOf 0 pos)) 0 (T.pgOf 0 pos)
section
variable {T U : Z2.Tr} {cu cu2 : Nat → Option Nat} {ky bd : Z2.Key} {k : Nat}
theorem Z2.PV.bt (V : PV k T cu) (hk : k ≤ 250) : BT T ∧ T.h ≤ 11 ∧ T.m 0 ≤ 300 ∧ sumTo T.m T.h ≤ 1300 := by
  obtain ⟨v1, v2, v3, -⟩ := V
  have h := v2.h11 v1 (by omega)
  exact ⟨BT.mk v1 (by omega) (by omega), h, by omega, v2.sum v1 (by omega) (by omega) (by omega)⟩
theorem Z2.PV.wide {k2 : Nat} (V : PV k T cu) (h : k ≤ k2) : PV k2 T cu := by
  obtain ⟨v1, v2, v3, v4, v5, v6, v7⟩ := V
  exact ⟨v1, v2.wide (by omega), by omega, by omega, v5, by omega, by omega⟩
theorem Z2.PV.cus (V : PV k T cu) (hb : ∀ i j, i < 4 → cu2 i = some j → j ≤ T.n) : PV k T cu2 := by
  obtain ⟨v1, v2, v3, v4, v5, v6, v7⟩ := V
  exact ⟨v1, v2, v3, v4, hb, v6, v7⟩
theorem Z2.PV.old (V : PV k T cu) (v : Nat → Int32) : PV k (Tr.mk T.cap T.n T.ks v T.h T.m T.E T.S T.c0 T.c1 T.c2) cu := by
  obtain ⟨v1, v2, v3, v4, v5, v6, v7⟩ := V
  exact ⟨⟨v1.cap, v1.n3, v1.vk, v1.srt, v1.h1, v1.m1, v1.mono, v1.last, v1.strict, v1.one, v1.lastT, v1.top, v1.svk, v1.ssrt, v1.sl, v1.sr⟩, v2.same rfl (fun _ _ => rfl) (fun _ _ _ => rfl), v3, v4, v5, v6, v7⟩
theorem Z2.PV.cap (V : PV k T cu) (c : Nat) (hc : 64 ≤ c ∧ c ≤ 200) : PV k (Tr.mk c T.n T.ks T.vs T.h T.m T.E T.S T.c0 T.c1 T.c2) cu := by
  obtain ⟨v1, v2, v3, v4, v5, v6, v7⟩ := V
  exact ⟨⟨hc, v1.n3, v1.vk, v1.srt, v1.h1, v1.m1, v1.mono, v1.last, v1.strict, v1.one, v1.lastT, v1.top, v1.svk, v1.ssrt, v1.sl, v1.sr⟩, v2.same rfl (fun _ _ => rfl) (fun _ _ _ => rfl), v3, v4, v5, v6, v7⟩
theorem Z2.PV.inz (V : PV k T cu) (hk : VK ky) (v : Int32) (hn : T.n < 300) (y : ¬ (T.less ky < T.n ∧ T.ks (T.less ky) = ky)) : PV (k + 1) (T.insert ky v) (cuIns cu (T.less ky)) ∧ (T.insert ky v).n = T.n + 1 := by
  obtain ⟨v1, v2, v3, v4, v5, v6, v7⟩ := V
  have hnew := v1.fresh y
  obtain ⟨a1, a2, a3, a4⟩ := Tr.insert_spec v1 hk v hn hnew
  have en : (T.insert ky v).n = T.n + 1 := a2.n
  have e1 := Tr.insert_c1 T ky v
  have e2 := Tr.insert_c2 T ky v
  refine ⟨⟨a1, (v2.insert v1 hk v hn hnew).wide (by omega), by omega, by omega, fun i j hi e => ?_, by omega, by omega⟩, en⟩
  rw [en]; exact cuIns_le v5 i j hi e
theorem Z2.PV.rem (V : PV k T cu) (hk : k ≤ 250) {pos : Nat} (hp : pos < T.n) : PV (k + 1) (T.remove pos) (cuDel cu pos) := by
  obtain ⟨B, h11, -⟩ := V.bt hk
  obtain ⟨b1, b2, b3, b4, b5, b6⟩ := B.remove hp
  obtain ⟨v1, v2, v3, v4, v5, v6, v7⟩ := V
  obtain ⟨e0, e1⟩ := Tr.remove_c T pos
  have e2 := Tr.remove_c2 T pos
  refine ⟨b1.im, (v2.remove v1 hp).wide (by omega), by omega, by omega, fun i j hi e => ?_, by omega, by omega⟩
  rw [b2]; exact cuDel_le v5 hp i j hi e
theorem Z2.PV.remN (V : PV k T cu) {p : Nat} : ∀ d, k + d ≤ 250 → d + p ≤ T.n → PV (k + d) (Tr.remN d T p) (cuDelN d cu p) := by
  intro d
  induction d with
  | zero => intro _ _; exact V
  | succ d ih =>
    intro h1 h2
    have a := ih (by omega) (by omega)
    obtain ⟨B, -⟩ := V.bt (by omega)
    obtain ⟨b1, b2, -⟩ := B.remN (p := p) d (by omega)
    have c := a.rem (by omega) (pos := p) (by rw [b2]; omega)
    exact c
theorem Z2.klt_nil : ∀ k : Key, ¬ klt k []
  | [] => id
  | _ :: _ => id
theorem Z2.less_nil (I : T.IM) : T.less [] = 0 := by
  obtain ⟨-, h, -⟩ := I.less_at []
  rcases Nat.eq_zero_or_pos (T.less []) with e | e
  · exact e
  · exact absurd (h 0 e) (klt_nil _)
theorem Z2.less_key (I : T.IM) {i : Nat} (hi : i < T.n) : T.less (T.ks i) = i := by
  obtain ⟨-, h1, h2⟩ := I.less_at (T.ks i)
  rcases Nat.lt_trichotomy (T.less (T.ks i)) i with g | g | g
  · exact absurd (I.srt _ _ g hi) (h2 _ (Nat.le_refl _) (by omega))
  · exact g
  · exact absurd (h1 i g) (klt_irrefl _)
theorem Z2.cuDelN_at {q d i : Nat} (h : cu i = some (q + d)) : ∀ e, e ≤ d → cuDelN e cu q i = some (q + (d - e)) := by
  intro e
  induction e with
  | zero => intro _; exact h
  | succ e ih =>
    intro he
    show cuDel (cuDelN e cu q) q i = _
    unfold cuDel
    rw [ih (by omega)]
    show some (if q + (d - e) ≤ q then q + (d - e) else q + (d - e) - 1) = _
    rw [if_neg (by omega), show q + (d - e) - 1 = q + (d - (e + 1)) by omega]
theorem Z2.cuDel_at {q i : Nat} (h : cu i = some q) : cuDel cu q i = some q := by
  unfold cuDel
  rw [h]
  show some (if q ≤ q then q else q - 1) = _
  rw [if_pos (Nat.le_refl _)]
theorem Z2.cuIns_at {i j N pos : Nat} (h : cu i = some j) (hj : j < N) : ∃ j', j' < N + 1 ∧ cuIns cu pos i = some j' := by
  unfold cuIns
  rw [h]
  refine ⟨if j < pos then j else j + 1, ?_, rfl⟩
  split <;> omega
theorem Z2.stt_cu {i j N : Nat} (hb : ∀ i j, i < 4 → cu i = some j → j ≤ N) (hj : j ≤ N) : ∀ a b, a < 4 → stt cu i (some j) a = some b → b ≤ N := fun a b ha e => by
  by_cases z : a = i
  · rw [z, stt_same] at e; cases e; exact hj
  · rw [stt_ne _ _ z] at e; exact hb a b ha e
theorem Z2.stt_cun {i N : Nat} (hb : ∀ i j, i < 4 → cu i = some j → j ≤ N) : ∀ a b, a < 4 → stt cu i none a = some b → b ≤ N := fun a b ha e => by
  by_cases z : a = i
  · rw [z, stt_same] at e; cases e
  · rw [stt_ne _ _ z] at e; exact hb a b ha e
end
