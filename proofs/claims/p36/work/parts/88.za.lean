section
abbrev Z2.Key := List Int32
def Z2.sh : Key → Key → Nat
  | a :: x, b :: y => if a = b then sh x y + 1 else 0
  | _, _ => 0
def Z2.klt : Key → Key → Prop
  | [], [] => False
  | [], _ :: _ => True
  | _ :: _, [] => False
  | a :: x, b :: y => a < b ∨ (a = b ∧ klt x y)
noncomputable def Z2.dec (p : Prop) : Bool := @decide p (Classical.propDecidable p)
theorem Z2.dec_t {p : Prop} (h : p) : dec p = true := @decide_eq_true p (Classical.propDecidable p) h
theorem Z2.dec_f {p : Prop} (h : ¬ p) : dec p = false := @decide_eq_false p (Classical.propDecidable p) h
theorem Z2.dec_iff (p : Prop) : dec p = true ↔ p := ⟨fun h => @of_decide_eq_true p (Classical.propDecidable p) h, dec_t⟩
theorem Z2.dec_not (p : Prop) : dec p = false ↔ ¬ p := ⟨fun h => @of_decide_eq_false p (Classical.propDecidable p) h, dec_f⟩
def Z2.VK (k : Key) : Prop := k.length ≤ 12 ∧ ∀ b ∈ k, (0 : Int32) ≤ b ∧ b ≤ 127
theorem Z2.sh_comm (a b : Key) : sh a b = sh b a := by
  induction a generalizing b with
  | nil => cases b <;> rfl
  | cons x a ih =>
    cases b with
    | nil => rfl
    | cons y b =>
      simp only [sh, ih b]
      by_cases h : x = y
      · rw [if_pos h, if_pos h.symm]
      · rw [if_neg h, if_neg (fun z => h z.symm)]
theorem Z2.sh_le_left (a b : Key) : sh a b ≤ a.length := by
  induction a generalizing b with
  | nil => cases b <;> simp [sh]
  | cons x a ih =>
    cases b with
    | nil => simp [sh]
    | cons y b =>
      simp only [sh, List.length_cons]
      have := ih b
      split <;> omega
theorem Z2.sh_le_right (a b : Key) : sh a b ≤ b.length := by rw [sh_comm]; exact sh_le_left b a
theorem Z2.sh_nil (a : Key) : sh a [] = 0 := by cases a <;> rfl
theorem Z2.sh_same (a b : Key) : ∀ i, i < sh a b → a.getD i 0 = b.getD i 0 := by
  induction a generalizing b with
  | nil => intro i h; cases b <;> simp [sh] at h
  | cons x a ih =>
    cases b with
    | nil => intro i h; simp [sh] at h
    | cons y b =>
      intro i h
      simp only [sh] at h
      by_cases e : x = y
      · rw [if_pos e] at h
        cases i with
        | zero => simpa using e
        | succ i => simpa using ih b i (by omega)
      · rw [if_neg e] at h; omega
theorem Z2.sh_stop (a b : Key) (h1 : sh a b < a.length) (h2 : sh a b < b.length) : a.getD (sh a b) 0 ≠ b.getD (sh a b) 0 := by
  induction a generalizing b with
  | nil => simp at h1
  | cons x a ih =>
    cases b with
    | nil => simp at h2
    | cons y b =>
      simp only [sh] at h1 h2 ⊢
      by_cases e : x = y
      · rw [if_pos e] at h1 h2 ⊢
        simpa using ih b (by simpa using h1) (by simpa using h2)
      · rw [if_neg e]; simpa using e
/-- the scan that both programs do finds sh -/
theorem Z2.sh_eq {a b : Key} {k : Nat} (h1 : k ≤ a.length) (h2 : k ≤ b.length) (hs : ∀ i, i < k → a.getD i 0 = b.getD i 0) (hn : k < a.length → k < b.length → a.getD k 0 ≠ b.getD k 0) : sh a b = k := by
  have u := sh_le_left a b
  have v := sh_le_right a b
  rcases Nat.lt_trichotomy (sh a b) k with h | h | h
  · exact absurd (hs _ h) (sh_stop a b (by omega) (by omega))
  · exact h
  · exact absurd (sh_same a b k h) (hn (by omega) (by omega))
theorem Z2.i32_lt_irrefl (a : Int32) : ¬ a < a := fun h => by
  rw [Int32.lt_iff_toInt_lt] at h; omega
theorem Z2.i32_lt_trans {a b c : Int32} (h : a < b) (g : b < c) : a < c := by
  rw [Int32.lt_iff_toInt_lt] at *; omega
theorem Z2.i32_tri (a b : Int32) : a < b ∨ a = b ∨ b < a := by
  rw [Int32.lt_iff_toInt_lt, Int32.lt_iff_toInt_lt, ← Int32.toInt_inj]; omega
theorem Z2.klt_irrefl (a : Key) : ¬ klt a a := by
  induction a with
  | nil => exact fun h => h
  | cons x a ih =>
    rintro (h | h)
    · exact i32_lt_irrefl x h
    · exact ih h.2
theorem Z2.klt_trans {a b c : Key} : klt a b → klt b c → klt a c := by
  induction a generalizing b c with
  | nil =>
    intro h g
    cases c with
    | nil => cases b <;> exact g.elim
    | cons z c => trivial
  | cons x a ih =>
    intro h g
    cases b with
    | nil => exact h.elim
    | cons y b =>
      cases c with
      | nil => exact g.elim
      | cons z c =>
        rcases h with h | ⟨rfl, h⟩
        · rcases g with g | ⟨rfl, g⟩
          · exact Or.inl (i32_lt_trans h g)
          · exact Or.inl h
        · rcases g with g | ⟨rfl, g⟩
          · exact Or.inl g
          · exact Or.inr ⟨rfl, ih h g⟩
theorem Z2.klt_tri (a b : Key) : klt a b ∨ a = b ∨ klt b a := by
  induction a generalizing b with
  | nil => cases b with
    | nil => exact Or.inr (Or.inl rfl)
    | cons y b => exact Or.inl trivial
  | cons x a ih =>
    cases b with
    | nil => exact Or.inr (Or.inr trivial)
    | cons y b =>
      rcases i32_tri x y with h | rfl | h
      · exact Or.inl (Or.inl h)
      · rcases ih b with h | rfl | h
        · exact Or.inl (Or.inr ⟨rfl, h⟩)
        · exact Or.inr (Or.inl rfl)
        · exact Or.inr (Or.inr (Or.inr ⟨rfl, h⟩))
      · exact Or.inr (Or.inr (Or.inl h))
theorem Z2.klt_asymm {a b : Key} (h : klt a b) : ¬ klt b a := fun g => klt_irrefl a (klt_trans h g)
/-- a ≤ b, b < c -/
theorem Z2.kle_klt {a b c : Key} (h : ¬ klt b a) (g : klt b c) : klt a c := by
  rcases klt_tri a b with k | rfl | k
  · exact klt_trans k g
  · exact g
  · exact absurd k h
theorem Z2.klt_kle {a b c : Key} (h : klt a b) (g : ¬ klt c b) : klt a c := by
  rcases klt_tri b c with k | rfl | k
  · exact klt_trans h k
  · exact h
  · exact absurd k g
theorem Z2.kle_trans {a b c : Key} (h : ¬ klt b a) (g : ¬ klt c b) : ¬ klt c a := fun k => g (klt_kle k h)
/-- what the comparison of the class asks: the bytes at sh, -1 behind the last one -/
def Z2.kby (a : Key) (i : Nat) : Int32 := if i < a.length then a.getD i 0 else -1
theorem Z2.klt_iff (a b : Key) (ha : ∀ x ∈ a, (0 : Int32) ≤ x) (hb : ∀ x ∈ b, (0 : Int32) ≤ x) : klt a b ↔ kby a (sh a b) < kby b (sh a b) := by
  induction a generalizing b with
  | nil =>
    cases b with
    | nil => simp [klt, kby, sh]
    | cons y b =>
      have h := hb y (by simp)
      simp only [klt, kby, sh, true_iff]
      simp only [List.length_nil, Nat.lt_irrefl, if_false, List.length_cons, Nat.zero_lt_succ, if_true, List.getD_cons_zero]
      rw [Int32.le_iff_toInt_le] at h
      rw [Int32.lt_iff_toInt_lt]
      have : (0 : Int32).toInt = 0 := rfl
      have : (-1 : Int32).toInt = -1 := rfl
      omega
  | cons x a ih =>
    cases b with
    | nil =>
      have h := ha x (by simp)
      simp only [klt, kby, sh, false_iff]
      simp only [List.length_nil, Nat.lt_irrefl, if_false, List.length_cons, Nat.zero_lt_succ, if_true, List.getD_cons_zero]
      rw [Int32.le_iff_toInt_le] at h
      rw [Int32.lt_iff_toInt_lt]
      have : (0 : Int32).toInt = 0 := rfl
      have : (-1 : Int32).toInt = -1 := rfl
      omega
    | cons y b =>
      have ih := ih b (fun z hz => ha z (by simp [hz])) (fun z hz => hb z (by simp [hz]))
      simp only [klt, sh]
      by_cases e : x = y
      · subst e
        rw [if_pos rfl, ih]
        simp [kby, i32_lt_irrefl]
      · rw [if_neg e]
        simp [kby, e]
theorem Z2.keq_iff (a b : Key) (ha : ∀ x ∈ a, (0 : Int32) ≤ x) (hb : ∀ x ∈ b, (0 : Int32) ≤ x) : a = b ↔ kby a (sh a b) = kby b (sh a b) := by
  constructor
  · intro h; rw [h]
  · intro h
    rcases klt_tri a b with g | g | g
    · rw [klt_iff a b ha hb, h] at g; exact absurd g (i32_lt_irrefl _)
    · exact g
    · rw [klt_iff b a hb ha, sh_comm, h] at g; exact absurd g (i32_lt_irrefl _)
/-- the shortest prefix of b that is greater than a -/
def Z2.sp (a b : Key) : Key := b.take (sh b a + 1)
theorem Z2.sp_gt {a b : Key} (h : klt a b) : klt a (sp a b) := by
  unfold sp
  induction a generalizing b with
  | nil =>
    cases b with
    | nil => exact h.elim
    | cons y b => simp [klt]
  | cons x a ih =>
    cases b with
    | nil => exact h.elim
    | cons y b =>
      rcases h with h | ⟨rfl, h⟩
      · simp only [List.take_succ_cons]
        exact Or.inl h
      · simp only [sh, if_true, List.take_succ_cons]
        exact Or.inr ⟨rfl, ih h⟩
theorem Z2.take_not_klt (b : Key) (k : Nat) : ¬ klt b (b.take k) := by
  induction b generalizing k with
  | nil => simp [klt]
  | cons y b ih =>
    cases k with
    | zero => simp [klt]
    | succ k =>
      simp only [List.take_succ_cons]
      rintro (h | h)
      · exact i32_lt_irrefl y h
      · exact ih k h.2
theorem Z2.sp_le (a b : Key) : ¬ klt b (sp a b) := take_not_klt b _
theorem Z2.sp_len {a b : Key} (h : klt a b) : (sp a b).length = sh b a + 1 := by
  unfold sp
  rw [List.length_take]
  have := sh_le_left b a
  suffices sh b a ≠ b.length by omega
  intro e
  induction a generalizing b with
  | nil =>
    cases b with
    | nil => exact h.elim
    | cons y b => simp [sh] at e
  | cons x a ih =>
    cases b with
    | nil => exact h.elim
    | cons y b =>
      rcases h with h | ⟨rfl, h⟩
      · simp only [sh] at e
        rw [if_neg (fun z => i32_lt_irrefl _ (z ▸ h))] at e
        simp at e
      · simp only [sh, if_true, List.length_cons] at e
        exact ih h (sh_le_left b a) (by omega)
theorem Z2.VK_take {b : Key} (h : VK b) (k : Nat) : VK (b.take k) := ⟨by rw [List.length_take]; have := h.1; omega, fun x hx => h.2 x (List.mem_of_mem_take hx)⟩
theorem Z2.VK_sp {a b : Key} (h : VK b) : VK (sp a b) := VK_take h _
/-- keys that begin with p stand side by side -/
theorem Z2.sh_prefix_mid {p a b c : Key} (hp : sh a p = p.length) (hq : sh c p = p.length) (h1 : ¬ klt b a) (h2 : ¬ klt c b) : sh b p = p.length := by
  induction p generalizing a b c with
  | nil => rw [sh_nil]; rfl
  | cons z p ih =>
    cases a with
    | nil => simp [sh] at hp
    | cons x a =>
      cases c with
      | nil => simp [sh] at hq
      | cons w c =>
        simp only [sh] at hp hq
        have e1 : x = z := by
          by_cases e : x = z
          · exact e
          · rw [if_neg e] at hp; simp at hp
        have e2 : w = z := by
          by_cases e : w = z
          · exact e
          · rw [if_neg e] at hq; simp at hq
        subst e1; subst e2
        rw [if_pos rfl, List.length_cons] at hp hq
        cases b with
        | nil => exact absurd (trivial : klt [] (w :: a)) h1
        | cons y b =>
          have e3 : y = w := by
            rcases i32_tri y w with e | e | e
            · exact absurd (Or.inl e) h1
            · exact e
            · exact absurd (Or.inl e) h2
          subst e3
          simp only [sh, if_true, List.length_cons]
          rw [ih (a := a) (c := c) (by omega) (by omega) (fun z => h1 (Or.inr ⟨rfl, z⟩)) (fun z => h2 (Or.inr ⟨rfl, z⟩))]
/-- a key that begins with p isn't less than p; one greater than p that doesn't begin with it is greater than all that do -/
theorem Z2.sh_prefix_ge {p a : Key} (hp : sh a p = p.length) : ¬ klt a p := by
  induction p generalizing a with
  | nil => intro h; cases a <;> exact h.elim
  | cons z p ih =>
    cases a with
    | nil => simp [sh] at hp
    | cons x a =>
      simp only [sh] at hp
      by_cases e : x = z
      · subst e
        rw [if_pos rfl, List.length_cons] at hp
        rintro (h | h)
        · exact i32_lt_irrefl _ h
        · exact ih (by omega) h.2
      · rw [if_neg e] at hp; simp at hp
def Z2.ff (p : Nat → Bool) : Nat → Nat
  | 0 => 0
  | n + 1 => if ff p n = n ∧ p n = true then n + 1 else ff p n
theorem Z2.ff_spec (p : Nat → Bool) (n : Nat) : ff p n ≤ n ∧ (∀ i, i < ff p n → p i = true) ∧ (ff p n < n → p (ff p n) = false) := by
  induction n with
  | zero => simp [ff]
  | succ n ih =>
    obtain ⟨h1, h2, h3⟩ := ih
    simp only [ff]
    by_cases e : ff p n = n ∧ p n = true
    · rw [if_pos e]
      refine ⟨Nat.le_refl _, fun i hi => ?_, fun h => absurd h (Nat.lt_irrefl _)⟩
      by_cases g : i = n
      · rw [g]; exact e.2
      · exact h2 i (by omega)
    · rw [if_neg e]
      refine ⟨by omega, h2, fun _ => ?_⟩
      by_cases g : ff p n = n
      · have : ¬ p n = true := fun z => e ⟨g, z⟩
        rw [g]; simpa using this
      · exact h3 (by omega)
theorem Z2.ff_le (p : Nat → Bool) (n : Nat) : ff p n ≤ n := (ff_spec p n).1
theorem Z2.ff_lt {p : Nat → Bool} {n i : Nat} (h : i < ff p n) : p i = true := (ff_spec p n).2.1 i h
theorem Z2.ff_at {p : Nat → Bool} {n : Nat} (h : ff p n < n) : p (ff p n) = false := (ff_spec p n).2.2 h
theorem Z2.ff_eq {p : Nat → Bool} {n c : Nat} (h1 : c ≤ n) (h2 : ∀ i, i < c → p i = true) (h3 : c < n → p c = false) : ff p n = c := by
  rcases Nat.lt_trichotomy (ff p n) c with g | g | g
  · have := ff_at (p := p) (n := n) (by omega)
    rw [h2 _ g] at this; cases this
  · exact g
  · have := ff_lt g
    have l := ff_le p n
    rw [h3 (by omega)] at this; cases this
theorem Z2.ff_congr {p q : Nat → Bool} {n : Nat} (h : ∀ i, i < n → p i = q i) : ff p n = ff q n :=
  ff_eq (ff_le q n) (fun i hi => by rw [h i (Nat.lt_of_lt_of_le hi (ff_le q n))]; exact ff_lt hi) (fun hl => by rw [h _ hl]; exact ff_at hl)
end
section
def Z2.ins {α : Type} (l : Nat → α) (i : Nat) (v : α) : Nat → α := fun k => if k < i then l k else if k = i then v else l (k - 1)
def Z2.del {α : Type} (l : Nat → α) (i : Nat) : Nat → α := fun k => if k < i then l k else l (k + 1)
def Z2.stt {α : Type} (l : Nat → α) (i : Nat) (v : α) : Nat → α := fun k => if k = i then v else l k
def Z2.addF (l : Nat → Nat) (i : Nat) : Nat → Nat := fun k => if i ≤ k then l k + 1 else l k
def Z2.subF (l : Nat → Nat) (i : Nat) : Nat → Nat := fun k => if i ≤ k then l k - 1 else l k
/-- where a page begins -/
def Z2.st (e : Nat → Nat) (p : Nat) : Nat := if p = 0 then 0 else e (p - 1)
/-- coded bytes of n keys from i on -/
def Z2.cbi (f : Nat) (k : Nat → Key) : Nat → Nat → Key → Nat
  | 0, _, _ => 0
  | n + 1, i, b => f + ((k i).length - sh (k i) b) + cbi f k n (i + 1) (k i)
def Z2.Tr : Type := (Nat) × (Nat) × (Nat → Key) × (Nat → Int32) × (Nat) × (Nat → Nat) × (Nat → Nat → Nat) × (Nat → Key) × (Nat) × (Nat) × (Nat)
def Z2.Tr.mk (cap : Nat) (n : Nat) (ks : Nat → Key) (vs : Nat → Int32) (h : Nat) (m : Nat → Nat) (E : Nat → Nat → Nat) (S : Nat → Key) (c0 : Nat) (c1 : Nat) (c2 : Nat) : Tr := (cap, n, ks, vs, h, m, E, S, c0, c1, c2)
def Z2.Tr.cap (T : Tr) : Nat := T.1
def Z2.Tr.n (T : Tr) : Nat := T.2.1
def Z2.Tr.ks (T : Tr) : Nat → Key := T.2.2.1
def Z2.Tr.vs (T : Tr) : Nat → Int32 := T.2.2.2.1
def Z2.Tr.h (T : Tr) : Nat := T.2.2.2.2.1
def Z2.Tr.m (T : Tr) : Nat → Nat := T.2.2.2.2.2.1
def Z2.Tr.E (T : Tr) : Nat → Nat → Nat := T.2.2.2.2.2.2.1
def Z2.Tr.S (T : Tr) : Nat → Key := T.2.2.2.2.2.2.2.1
def Z2.Tr.c0 (T : Tr) : Nat := T.2.2.2.2.2.2.2.2.1
def Z2.Tr.c1 (T : Tr) : Nat := T.2.2.2.2.2.2.2.2.2.1
def Z2.Tr.c2 (T : Tr) : Nat := T.2.2.2.2.2.2.2.2.2.2
theorem Z2.Tr.mk_cap (cap : Nat) (n : Nat) (ks : Nat → Key) (vs : Nat → Int32) (h : Nat) (m : Nat → Nat) (E : Nat → Nat → Nat) (S : Nat → Key) (c0 : Nat) (c1 : Nat) (c2 : Nat) : (Tr.mk cap n ks vs h m E S c0 c1 c2).cap = cap := rfl
theorem Z2.Tr.mk_n (cap : Nat) (n : Nat) (ks : Nat → Key) (vs : Nat → Int32) (h : Nat) (m : Nat → Nat) (E : Nat → Nat → Nat) (S : Nat → Key) (c0 : Nat) (c1 : Nat) (c2 : Nat) : (Tr.mk cap n ks vs h m E S c0 c1 c2).n = n := rfl
theorem Z2.Tr.mk_ks (cap : Nat) (n : Nat) (ks : Nat → Key) (vs : Nat → Int32) (h : Nat) (m : Nat → Nat) (E : Nat → Nat → Nat) (S : Nat → Key) (c0 : Nat) (c1 : Nat) (c2 : Nat) : (Tr.mk cap n ks vs h m E S c0 c1 c2).ks = ks := rfl
theorem Z2.Tr.mk_vs (cap : Nat) (n : Nat) (ks : Nat → Key) (vs : Nat → Int32) (h : Nat) (m : Nat → Nat) (E : Nat → Nat → Nat) (S : Nat → Key) (c0 : Nat) (c1 : Nat) (c2 : Nat) : (Tr.mk cap n ks vs h m E S c0 c1 c2).vs = vs := rfl
theorem Z2.Tr.mk_h (cap : Nat) (n : Nat) (ks : Nat → Key) (vs : Nat → Int32) (h : Nat) (m : Nat → Nat) (E : Nat → Nat → Nat) (S : Nat → Key) (c0 : Nat) (c1 : Nat) (c2 : Nat) : (Tr.mk cap n ks vs h m E S c0 c1 c2).h = h := rfl
theorem Z2.Tr.mk_m (cap : Nat) (n : Nat) (ks : Nat → Key) (vs : Nat → Int32) (h : Nat) (m : Nat → Nat) (E : Nat → Nat → Nat) (S : Nat → Key) (c0 : Nat) (c1 : Nat) (c2 : Nat) : (Tr.mk cap n ks vs h m E S c0 c1 c2).m = m := rfl
theorem Z2.Tr.mk_E (cap : Nat) (n : Nat) (ks : Nat → Key) (vs : Nat → Int32) (h : Nat) (m : Nat → Nat) (E : Nat → Nat → Nat) (S : Nat → Key) (c0 : Nat) (c1 : Nat) (c2 : Nat) : (Tr.mk cap n ks vs h m E S c0 c1 c2).E = E := rfl
theorem Z2.Tr.mk_S (cap : Nat) (n : Nat) (ks : Nat → Key) (vs : Nat → Int32) (h : Nat) (m : Nat → Nat) (E : Nat → Nat → Nat) (S : Nat → Key) (c0 : Nat) (c1 : Nat) (c2 : Nat) : (Tr.mk cap n ks vs h m E S c0 c1 c2).S = S := rfl
theorem Z2.Tr.mk_c0 (cap : Nat) (n : Nat) (ks : Nat → Key) (vs : Nat → Int32) (h : Nat) (m : Nat → Nat) (E : Nat → Nat → Nat) (S : Nat → Key) (c0 : Nat) (c1 : Nat) (c2 : Nat) : (Tr.mk cap n ks vs h m E S c0 c1 c2).c0 = c0 := rfl
theorem Z2.Tr.mk_c1 (cap : Nat) (n : Nat) (ks : Nat → Key) (vs : Nat → Int32) (h : Nat) (m : Nat → Nat) (E : Nat → Nat → Nat) (S : Nat → Key) (c0 : Nat) (c1 : Nat) (c2 : Nat) : (Tr.mk cap n ks vs h m E S c0 c1 c2).c1 = c1 := rfl
theorem Z2.Tr.mk_c2 (cap : Nat) (n : Nat) (ks : Nat → Key) (vs : Nat → Int32) (h : Nat) (m : Nat → Nat) (E : Nat → Nat → Nat) (S : Nat → Key) (c0 : Nat) (c1 : Nat) (c2 : Nat) : (Tr.mk cap n ks vs h m E S c0 c1 c2).c2 = c2 := rfl
/-- the last leaf of a page -/
def Z2.sx (E : Nat → Nat → Nat) : Nat → Nat → Nat
  | 0, p => p
  | t + 1, p => sx E t (E (t + 1) p - 1)
section
def Z2.Tr.psz (T : Tr) (t a b : Nat) : Nat := if t = 0 then 8 + cbi 7 T.ks (b - a) a [] else 8 + 4 * (b - a) + cbi 3 (fun i => T.S (sx T.E (t - 1) i)) (b - 1 - a) a []
def Z2.Tr.pgs (T : Tr) (t p : Nat) : Nat := T.psz t (st (T.E t) p) (T.E t p)
def Z2.Tr.pgOf (T : Tr) (t x : Nat) : Nat := ff (fun q => decide (T.E t q ≤ x)) (T.m t)
def Z2.Tr.par (T : Tr) (t p : Nat) : Nat := T.pgOf (t + 1) p
def Z2.Tr.adj (T : Tr) (t l : Nat) : Bool := decide (l + 1 < T.m t ∧ t + 1 < T.h ∧ T.par t l = T.par t (l + 1))
def Z2.Tr.cutL (T : Tr) (p : Nat) : Nat := st (T.E 0) p + 1 + ff (fun j => decide (T.cap < T.psz 0 (st (T.E 0) p + 1 + j) (T.E 0 p))) (T.E 0 p - (st (T.E 0) p + 1))
def Z2.Tr.cutR (T : Tr) (p : Nat) : Nat := T.E 0 p - 1 - ff (fun j => decide (T.cap < T.psz 0 (st (T.E 0) p) (T.E 0 p - 1 - j))) (T.E 0 p - 1 - st (T.E 0) p)
def Z2.Tr.moveB (T : Tr) (l c : Nat) : Tr := (Tr.mk T.cap T.n T.ks T.vs T.h T.m (stt T.E 0 (stt (T.E 0) l c)) (stt T.S l (sp (T.ks (c - 1)) (T.ks c))) T.c0 (T.c1 + 1) T.c2)
def Z2.Tr.giveL (T : Tr) (p : Nat) : Option Tr := if 0 < p ∧ T.adj 0 (p - 1) = true ∧ T.psz 0 (st (T.E 0) (p - 1)) (T.cutL p) ≤ T.cap then some (T.moveB (p - 1) (T.cutL p)) else none
def Z2.Tr.giveR (T : Tr) (p : Nat) : Option Tr := if T.adj 0 p = true ∧ T.psz 0 (T.cutR p) (T.E 0 (p + 1)) ≤ T.cap then some (T.moveB p (T.cutR p)) else none
end
def Z2.dif (x y : Nat) : Nat := (x - y) + (y - x)
def Z2.eLoop (d : Nat → Nat) : Nat → Nat → Nat → Option Nat → Nat
  | 0, _, b, _ => b
  | k + 1, c, _, none => eLoop d k (c + 1) c (some (d c))
  | k + 1, c, b, some l => if d c < l then eLoop d k (c + 1) c (some (d c)) else eLoop d k (c + 1) b (some l)
section
def Z2.Tr.evc (T : Tr) (t a b : Nat) : Nat := eLoop (fun c => dif (T.psz t a c) (T.psz t c b)) (b - (a + 1)) (a + 1) (a + 1) none
def Z2.Tr.cutS (T : Tr) (t p : Nat) : Nat := T.evc t (st (T.E t) p) (T.E t p)
/-- a root gets a page above it -/
def Z2.Tr.rise (T : Tr) (t : Nat) : Tr := if t + 1 = T.h then (Tr.mk T.cap T.n T.ks T.vs (T.h + 1) (stt T.m (t + 1) 1) (stt T.E (t + 1) (fun _ => 1)) T.S T.c0 T.c1 T.c2) else T
def Z2.Tr.cutAt (T : Tr) (t p c : Nat) : Tr :=
  (Tr.mk T.cap T.n T.ks T.vs T.h (stt T.m t (T.m t + 1)) (stt (stt T.E t (ins (T.E t) p c)) (t + 1) (addF (T.E (t + 1)) (T.par t p))) (if t = 0 then ins T.S p (sp (T.ks (c - 1)) (T.ks c)) else T.S) (T.c0 + 1) T.c1 T.c2)
def Z2.Tr.split (T : Tr) (t p : Nat) : Tr := (T.rise t).cutAt t p (T.cutS t p)
def Z2.Tr.leafPut (T : Tr) (pos leaf : Nat) (k : Key) (v : Int32) : Tr := (Tr.mk T.cap (T.n + 1) (ins T.ks pos k) (ins T.vs pos v) T.h T.m (stt T.E 0 (addF (T.E 0) leaf)) T.S T.c0 T.c1 T.c2)
def Z2.Tr.up : Nat → Tr → Nat → Nat → Tr
  | 0, T, _, _ => T
  | k + 1, T, t, p => if T.pgs t (T.par (t - 1) p) ≤ T.cap then T else up k (T.split t (T.par (t - 1) p)) (t + 1) (T.par (t - 1) p)
def Z2.Tr.eases (T : Tr) (p : Nat) : Tr := match T.giveL p with
  | some x => x
  | none => match T.giveR p with
    | some x => x
    | none => T.split 0 p
def Z2.Tr.grow (T : Tr) (p : Nat) : Tr := if T.pgs 0 p ≤ T.cap then T else up (T.h - 1) (T.eases p) 1 p
/-- how many keys are less -/
noncomputable def Z2.Tr.less (T : Tr) (k : Key) : Nat := ff (fun i => dec (klt (T.ks i) k)) T.n
noncomputable def Z2.Tr.leafOf (T : Tr) (k : Key) : Nat := ff (fun i => dec (¬ klt k (T.S i))) (T.m 0 - 1)
noncomputable def Z2.Tr.insert (T : Tr) (k : Key) (v : Int32) : Tr := (T.leafPut (T.less k) (T.leafOf k) k v).grow (T.leafOf k)
def Z2.Tr.leafDel (T : Tr) (pos leaf : Nat) : Tr := (Tr.mk T.cap (T.n - 1) (del T.ks pos) (del T.vs pos) T.h T.m (stt T.E 0 (subF (T.E 0) leaf)) T.S T.c0 T.c1 T.c2)
def Z2.Tr.melt (T : Tr) (t p : Nat) : Option Nat :=
  if T.pgs t p < T.cap / 2 then
    if 0 < p ∧ T.adj t (p - 1) = true ∧ T.psz t (st (T.E t) (p - 1)) (T.E t p) ≤ T.cap then some (p - 1)
    else if T.adj t p = true ∧ T.psz t (st (T.E t) p) (T.E t (p + 1)) ≤ T.cap then some p else none
  else none
def Z2.Tr.join (T : Tr) (t l : Nat) : Tr :=
  (Tr.mk T.cap T.n T.ks T.vs T.h (stt T.m t (T.m t - 1)) (stt (stt T.E t (del (T.E t) l)) (t + 1) (subF (T.E (t + 1)) (T.par t l))) (if t = 0 then del T.S l else T.S) T.c0 T.c1 (T.c2 + 1))
def Z2.Tr.down : Nat → Tr → Nat → Nat → Tr
  | 0, T, _, _ => T
  | k + 1, T, t, p => match T.melt t p with
    | none => T
    | some l => down k (T.join t l) (t + 1) (T.par t p)
def Z2.Tr.coll : Nat → Tr → Tr
  | 0, T => T
  | k + 1, T => if 1 < T.h ∧ T.E (T.h - 1) 0 = 1 then coll k (Tr.mk T.cap T.n T.ks T.vs (T.h - 1) T.m T.E T.S T.c0 T.c1 T.c2) else T
def Z2.Tr.remove (T : Tr) (pos : Nat) : Tr := let T1 := down (T.h - 1) (T.leafDel pos (T.pgOf 0 pos)) 0 (T.pgOf 0 pos); coll T1.h T1
end
/-- pages stacked over parts: each as long as it may be -/
def Z2.stk (f : Nat → Nat → Nat) (least limit : Nat) : Nat → Nat → Nat → Nat → (Nat → Nat) → Nat × (Nat → Nat)
  | 0, i, _, c, e => (c + 1, stt e c i)
  | k + 1, i, s, c, e => if least ≤ i - s ∧ limit < f s (i + 1) then stk f least limit k (i + 1) i (c + 1) (stt e c i) else stk f least limit k (i + 1) s c e
section
def Z2.Tr.tier (T : Tr) (t total least limit : Nat) : Tr :=
  let r := stk (T.psz t) least limit total 0 0 0 (T.E t)
  (Tr.mk T.cap T.n T.ks T.vs (t + 1) (stt T.m t r.1) (stt T.E t r.2) T.S T.c0 T.c1 T.c2)
def Z2.Tr.tiers (limit : Nat) : Nat → Tr → Nat → Tr
  | 0, T, _ => T
  | k + 1, T, t => if 1 < T.m (t - 1) then tiers limit k (T.tier t (T.m (t - 1)) 2 limit) (t + 1) else T
def Z2.Tr.seps (T : Tr) : Tr := (Tr.mk T.cap T.n T.ks T.vs T.h T.m T.E (fun i => sp (T.ks (T.E 0 i - 1)) (T.ks (T.E 0 i))) T.c0 T.c1 T.c2)
def Z2.Tr.load (T : Tr) (w : Nat) (wk : Nat → Key) (wv : Nat → Int32) (limit : Nat) : Tr :=
  tiers limit 299 (seps (tier (Tr.mk T.cap (w) (wk) (wv) T.h T.m T.E T.S T.c0 T.c1 T.c2) 0 w 1 limit)) 1
/-- what holds of every tree, also while it is mended -/
abbrev Z2.Tr.IM (T : Tr) : Prop := (64 ≤ T.cap ∧ T.cap ≤ 200) ∧ (T.n ≤ 300) ∧ (∀ i, i < T.n → VK (T.ks i)) ∧ (∀ i j, i < j → j < T.n → klt (T.ks i) (T.ks j)) ∧ (1 ≤ T.h) ∧ (∀ t, t < T.h → 1 ≤ T.m t) ∧ (∀ i j, i ≤ j → j < T.m 0 → T.E 0 i ≤ T.E 0 j) ∧ (T.E 0 (T.m 0 - 1) = T.n) ∧ (∀ t, 1 ≤ t → t < T.h → ∀ i j, i < j → j < T.m t → T.E t i < T.E t j) ∧ (∀ t, 1 ≤ t → t < T.h → 1 ≤ T.E t 0) ∧ (∀ t, t + 1 < T.h → T.E (t + 1) (T.m (t + 1) - 1) = T.m t) ∧ (T.m (T.h - 1) = 1) ∧ (∀ i, i + 1 < T.m 0 → VK (T.S i)) ∧ (∀ i j, i < j → j + 1 < T.m 0 → klt (T.S i) (T.S j)) ∧ (∀ i j, i + 1 < T.m 0 → j < T.E 0 i → klt (T.ks j) (T.S i)) ∧ (∀ i j, i + 1 < T.m 0 → T.E 0 i ≤ j → j < T.n → ¬ klt (T.ks j) (T.S i))
theorem Z2.Tr.IM.mk {T : Tr} (cap : 64 ≤ T.cap ∧ T.cap ≤ 200) (n3 : T.n ≤ 300) (vk : ∀ i, i < T.n → VK (T.ks i)) (srt : ∀ i j, i < j → j < T.n → klt (T.ks i) (T.ks j)) (h1 : 1 ≤ T.h) (m1 : ∀ t, t < T.h → 1 ≤ T.m t) (mono : ∀ i j, i ≤ j → j < T.m 0 → T.E 0 i ≤ T.E 0 j) (last : T.E 0 (T.m 0 - 1) = T.n) (strict : ∀ t, 1 ≤ t → t < T.h → ∀ i j, i < j → j < T.m t → T.E t i < T.E t j) (one : ∀ t, 1 ≤ t → t < T.h → 1 ≤ T.E t 0) (lastT : ∀ t, t + 1 < T.h → T.E (t + 1) (T.m (t + 1) - 1) = T.m t) (top : T.m (T.h - 1) = 1) (svk : ∀ i, i + 1 < T.m 0 → VK (T.S i)) (ssrt : ∀ i j, i < j → j + 1 < T.m 0 → klt (T.S i) (T.S j)) (sl : ∀ i j, i + 1 < T.m 0 → j < T.E 0 i → klt (T.ks j) (T.S i)) (sr : ∀ i j, i + 1 < T.m 0 → T.E 0 i ≤ j → j < T.n → ¬ klt (T.ks j) (T.S i)) : Tr.IM T := ⟨cap, n3, vk, srt, h1, m1, mono, last, strict, one, lastT, top, svk, ssrt, sl, sr⟩
theorem Z2.Tr.IM.cap {T : Tr} (h9 : Tr.IM T) : 64 ≤ T.cap ∧ T.cap ≤ 200 := h9.1
theorem Z2.Tr.IM.n3 {T : Tr} (h9 : Tr.IM T) : T.n ≤ 300 := h9.2.1
theorem Z2.Tr.IM.vk {T : Tr} (h9 : Tr.IM T) : ∀ i, i < T.n → VK (T.ks i) := h9.2.2.1
theorem Z2.Tr.IM.srt {T : Tr} (h9 : Tr.IM T) : ∀ i j, i < j → j < T.n → klt (T.ks i) (T.ks j) := h9.2.2.2.1
theorem Z2.Tr.IM.h1 {T : Tr} (h9 : Tr.IM T) : 1 ≤ T.h := h9.2.2.2.2.1
theorem Z2.Tr.IM.m1 {T : Tr} (h9 : Tr.IM T) : ∀ t, t < T.h → 1 ≤ T.m t := h9.2.2.2.2.2.1
theorem Z2.Tr.IM.mono {T : Tr} (h9 : Tr.IM T) : ∀ i j, i ≤ j → j < T.m 0 → T.E 0 i ≤ T.E 0 j := h9.2.2.2.2.2.2.1
theorem Z2.Tr.IM.last {T : Tr} (h9 : Tr.IM T) : T.E 0 (T.m 0 - 1) = T.n := h9.2.2.2.2.2.2.2.1
theorem Z2.Tr.IM.strict {T : Tr} (h9 : Tr.IM T) : ∀ t, 1 ≤ t → t < T.h → ∀ i j, i < j → j < T.m t → T.E t i < T.E t j := h9.2.2.2.2.2.2.2.2.1
theorem Z2.Tr.IM.one {T : Tr} (h9 : Tr.IM T) : ∀ t, 1 ≤ t → t < T.h → 1 ≤ T.E t 0 := h9.2.2.2.2.2.2.2.2.2.1
theorem Z2.Tr.IM.lastT {T : Tr} (h9 : Tr.IM T) : ∀ t, t + 1 < T.h → T.E (t + 1) (T.m (t + 1) - 1) = T.m t := h9.2.2.2.2.2.2.2.2.2.2.1
theorem Z2.Tr.IM.top {T : Tr} (h9 : Tr.IM T) : T.m (T.h - 1) = 1 := h9.2.2.2.2.2.2.2.2.2.2.2.1
theorem Z2.Tr.IM.svk {T : Tr} (h9 : Tr.IM T) : ∀ i, i + 1 < T.m 0 → VK (T.S i) := h9.2.2.2.2.2.2.2.2.2.2.2.2.1
theorem Z2.Tr.IM.ssrt {T : Tr} (h9 : Tr.IM T) : ∀ i j, i < j → j + 1 < T.m 0 → klt (T.S i) (T.S j) := h9.2.2.2.2.2.2.2.2.2.2.2.2.2.1
theorem Z2.Tr.IM.sl {T : Tr} (h9 : Tr.IM T) : ∀ i j, i + 1 < T.m 0 → j < T.E 0 i → klt (T.ks j) (T.S i) := h9.2.2.2.2.2.2.2.2.2.2.2.2.2.2.1
theorem Z2.Tr.IM.sr {T : Tr} (h9 : Tr.IM T) : ∀ i j, i + 1 < T.m 0 → T.E 0 i ≤ j → j < T.n → ¬ klt (T.ks j) (T.S i) := h9.2.2.2.2.2.2.2.2.2.2.2.2.2.2.2
end
end
section
theorem Z2.stt_same {α : Type} (l : Nat → α) (i : Nat) (v : α) : stt l i v i = v := by simp [stt]
theorem Z2.stt_ne {α : Type} (l : Nat → α) {i k : Nat} (v : α) (h : k ≠ i) : stt l i v k = l k := by simp [stt, h]
theorem Z2.klt_mono {T : Tr} (I : T.IM) {i j : Nat} (h : i ≤ j) (hj : j < T.n) : ¬ klt (T.ks j) (T.ks i) := by
  rcases Nat.lt_or_eq_of_le h with g | rfl
  · exact klt_asymm (I.srt i j g hj)
  · exact klt_irrefl _
section
variable {T : Z2.Tr}
theorem Z2.Tr.IM.le_n (I : T.IM) {i : Nat} (h : i < T.m 0) : T.E 0 i ≤ T.n := by
  have := I.mono i (T.m 0 - 1) (by omega) (by omega)
  rw [I.last] at this; exact this
theorem Z2.Tr.IM.st_le (I : T.IM) {i : Nat} (h : i < T.m 0) : st (T.E 0) i ≤ T.E 0 i := by
  unfold st; split
  · omega
  · exact I.mono _ _ (by omega) h
theorem Z2.Tr.IM.le_m (I : T.IM) {t i : Nat} (ht : t + 1 < T.h) (h : i < T.m (t + 1)) : T.E (t + 1) i ≤ T.m t := by
  rw [← I.lastT t ht]
  rcases Nat.lt_or_ge i (T.m (t + 1) - 1) with g | g
  · exact Nat.le_of_lt (I.strict (t + 1) (by omega) ht _ _ g (by omega))
  · have : i = T.m (t + 1) - 1 := by omega
    rw [← this]; exact Nat.le_refl _
theorem Z2.Tr.IM.st_lt (I : T.IM) {t i : Nat} (h1 : 1 ≤ t) (ht : t < T.h) (h : i < T.m t) : st (T.E t) i < T.E t i := by
  unfold st; split
  · rename_i e; subst e; exact I.one t h1 ht
  · exact I.strict t h1 ht _ _ (by omega) h
/-- the page of a part: where it lies -/
theorem Z2.Tr.IM.pg (I : T.IM) {t x : Nat} (ht : t < T.h) (hx : x < (if t = 0 then T.n else T.m (t - 1))) : T.pgOf t x < T.m t ∧ st (T.E t) (T.pgOf t x) ≤ x ∧ x < T.E t (T.pgOf t x) := by
  have h1 := I.m1 t ht
  have hlast : T.E t (T.m t - 1) = (if t = 0 then T.n else T.m (t - 1)) := by
    cases t with
    | zero => simpa using I.last
    | succ t => simpa using I.lastT t ht
  have hlt : T.pgOf t x < T.m t := by
    rcases Nat.lt_or_ge (T.pgOf t x) (T.m t) with g | g
    · exact g
    · have e := ff_lt (p := fun q => decide (T.E t q ≤ x)) (n := T.m t) (i := T.m t - 1) (by unfold Tr.pgOf at g; omega)
      simp only [decide_eq_true_eq] at e
      omega
  refine ⟨hlt, ?_, ?_⟩
  · unfold st; split
    · omega
    · rename_i e
      have := ff_lt (p := fun q => decide (T.E t q ≤ x)) (n := T.m t) (i := T.pgOf t x - 1) (by unfold Tr.pgOf at e ⊢; omega)
      simpa using this
  · have := ff_at (p := fun q => decide (T.E t q ≤ x)) (n := T.m t) hlt
    simp only [decide_eq_false_iff_not, Nat.not_le] at this
    exact this
theorem Z2.Tr.IM.pg_eq (I : T.IM) {t x q : Nat} (hq : q < T.m t) (h0 : st (T.E t) q ≤ x) (h1 : x < T.E t q) (ht : t < T.h) : T.pgOf t x = q := by
  refine ff_eq (by omega) (fun i hi => ?_) (fun _ => by simpa using h1)
  simp only [decide_eq_true_eq]
  unfold st at h0
  rw [if_neg (by omega)] at h0
  refine Nat.le_trans ?_ h0
  cases t with
  | zero => exact I.mono _ _ (by omega) (by omega)
  | succ t =>
    rcases Nat.lt_or_ge i (q - 1) with g | g
    · exact Nat.le_of_lt (I.strict (t + 1) (by omega) ht _ _ g (by omega))
    · have : i = q - 1 := by omega
      rw [this]; exact Nat.le_refl _
theorem Z2.Tr.IM.pr (I : T.IM) {t p : Nat} (ht : t + 1 < T.h) (hp : p < T.m t) : T.par t p < T.m (t + 1) ∧ st (T.E (t + 1)) (T.par t p) ≤ p ∧ p < T.E (t + 1) (T.par t p) :=
  I.pg (t := t + 1) (x := p) ht (by simpa using hp)
theorem Z2.Tr.IM.moveB (I : T.IM) {l c : Nat} (hl : l + 1 < T.m 0) (h1 : st (T.E 0) l < c) (h2 : c < T.E 0 (l + 1)) : (T.moveB l c).IM := by
  have hn := I.le_n hl
  have hc : klt (T.ks (c - 1)) (T.ks c) := I.srt _ _ (by omega) (by omega)
  have E0 : (T.moveB l c).E 0 = stt (T.E 0) l c := stt_same T.E 0 _
  have Et : ∀ t, 1 ≤ t → (T.moveB l c).E t = T.E t := fun t ht => stt_ne T.E _ (by omega)
  have hlow : ∀ i, i < l → T.E 0 i ≤ st (T.E 0) l := fun i hi => by
    unfold st; rw [if_neg (by omega)]; exact I.mono _ _ (by omega) (by omega)
  refine (Tr.IM.mk (cap := I.cap) (n3 := I.n3) (vk := I.vk) (srt := I.srt) (h1 := I.h1) (m1 := I.m1) (top := I.top) (mono := ?_) (last := ?_) (strict := ?_) (one := ?_) (lastT := ?_) (svk := ?_) (ssrt := ?_) (sl := ?_) (sr := ?_))
  · intro i j hij hj
    rw [E0]
    have hj : j < T.m 0 := hj
    simp only [stt]
    split
    · split
      · exact Nat.le_refl _
      · have := I.mono (l + 1) j (by omega) hj; omega
    · split
      · have := hlow i (by omega); omega
      · exact I.mono i j hij hj
  · rw [E0]
    show stt (T.E 0) l c (T.m 0 - 1) = T.n
    rw [stt_ne _ _ (by omega)]; exact I.last
  · intro t h1 ht; rw [Et t h1]; exact I.strict t h1 ht
  · intro t h1 ht; rw [Et t h1]; exact I.one t h1 ht
  · intro t ht; rw [Et (t + 1) (by omega)]; exact I.lastT t ht
  · intro i hi
    show VK (stt T.S l (sp (T.ks (c - 1)) (T.ks c)) i)
    have hi : i + 1 < T.m 0 := hi
    unfold stt; split
    · exact VK_sp (I.vk c (by omega))
    · exact I.svk i hi
  · intro i j hij hj
    have hj : j + 1 < T.m 0 := hj
    show klt (stt T.S l _ i) (stt T.S l _ j)
    unfold stt
    split
    · rw [if_neg (by omega)]
      rename_i e; subst e
      have q1 : klt (T.ks c) (T.S j) := I.sl j c hj (Nat.lt_of_lt_of_le h2 (I.mono _ _ (by omega) (by omega)))
      exact kle_klt (sp_le _ _) q1
    · split
      · rename_i e; subst e
        exact kle_klt (I.sr i (c - 1) (by omega) (by have := hlow i hij; omega) (by omega)) (sp_gt hc)
      · exact I.ssrt i j hij hj
  · intro i j hi hj
    have hi : i + 1 < T.m 0 := hi
    rw [E0] at hj
    show klt (T.ks j) (stt T.S l _ i)
    unfold stt at hj ⊢
    split
    · rename_i e; rw [if_pos e] at hj
      exact kle_klt (klt_mono I (i := j) (j := c - 1) (by omega) (by omega)) (sp_gt hc)
    · rename_i e; rw [if_neg e] at hj; exact I.sl i j hi hj
  · intro i j hi hj hn'
    have hi : i + 1 < T.m 0 := hi
    have hn' : j < T.n := hn'
    rw [E0] at hj
    show ¬ klt (T.ks j) (stt T.S l _ i)
    unfold stt at hj ⊢
    split
    · rename_i e; rw [if_pos e] at hj
      exact kle_trans (sp_le (T.ks (c - 1)) (T.ks c)) (klt_mono I hj hn')
    · rename_i e; rw [if_neg e] at hj; exact I.sr i j hi hj hn'
theorem Z2.Tr.IM.rise (I : T.IM) (t : Nat) : (T.rise t).IM := by
  unfold Tr.rise
  split
  · rename_i e
    have hm : T.m t = 1 := by have := I.top; rw [show T.h - 1 = t by omega] at this; exact this
    have hh := I.h1
    have mt : ∀ u, u < T.h → stt T.m (t + 1) 1 u = T.m u := fun u hu => stt_ne _ _ (by omega)
    have Et : ∀ u, u < T.h → stt T.E (t + 1) (fun _ => 1) u = T.E u := fun u hu => stt_ne _ _ (by omega)
    refine (Tr.IM.mk (cap := I.cap) (n3 := I.n3) (vk := I.vk) (srt := I.srt) (h1 := Nat.le_add_left 1 _) (m1 := ?_) (top := ?_) (mono := ?_) (last := ?_) (strict := ?_) (one := ?_) (lastT := ?_) (svk := ?_) (ssrt := ?_) (sl := ?_) (sr := ?_)) <;> dsimp only [Tr.mk_cap, Tr.mk_n, Tr.mk_ks, Tr.mk_vs, Tr.mk_h, Tr.mk_m, Tr.mk_E, Tr.mk_S, Tr.mk_c0, Tr.mk_c1, Tr.mk_c2]
    · intro u hu
      by_cases g : u = t + 1
      · rw [g, stt_same]; exact Nat.le_refl 1
      · rw [mt u (by omega)]; exact I.m1 u (by omega)
    · rw [mt 0 (by omega), Et 0 (by omega)]; exact I.mono
    · rw [mt 0 (by omega), Et 0 (by omega)]; exact I.last
    · intro u h1 hu i j hij hj
      by_cases g : u = t + 1
      · rw [g, stt_same] at hj; omega
      · rw [mt u (by omega)] at hj; rw [Et u (by omega)]; exact I.strict u h1 (by omega) i j hij hj
    · intro u h1 hu
      by_cases g : u = t + 1
      · rw [g, stt_same]; exact Nat.le_refl 1
      · rw [Et u (by omega)]; exact I.one u h1 (by omega)
    · intro u hu
      by_cases g : u = t
      · rw [g, stt_same, mt t (by omega)]; exact hm.symm
      · rw [Et (u + 1) (by omega), mt (u + 1) (by omega), mt u (by omega)]; exact I.lastT u (by omega)
    · rw [show T.h + 1 - 1 = t + 1 by omega, stt_same]
    · rw [mt 0 (by omega)]; exact I.svk
    · rw [mt 0 (by omega)]; exact I.ssrt
    · rw [mt 0 (by omega), Et 0 (by omega)]; exact I.sl
    · rw [mt 0 (by omega), Et 0 (by omega)]; exact I.sr
  · exact I
end
end
