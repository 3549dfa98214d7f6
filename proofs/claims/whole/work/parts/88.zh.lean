/-! the reference: where its numbers stand -/
def Z2.fL : Nat → Nat := fun k => match k with | 0 => 5 | 1 => 9 | 2 => 10 | 3 => 11 | 4 => 12 | 5 => 13 | 6 => 14 | 7 => 15 | 8 => 16 | _ => 17
def Z2.fS : Nat → Nat := fun k => match k with | 0 => 24 | 1 => 25 | 2 => 27 | 3 => 28 | 4 => 29 | 5 => 26 | 6 => 30 | 7 => 31 | 8 => 32 | _ => 33
/-- a key's bytes from a place on -/
def Z2.KA (g : Nat → Nat → Int32) (k a : Nat) (x : Key) : Prop := ∀ i, i < x.length → g k (a + i) = x.getD i 0
abbrev Z2.MTf (F : Nat → Nat) (n : Nat → Int32) (g : Nat → Nat → Int32) (T : Tr) : Prop := (n (F 0) = zI T.cap) ∧ (n (F 1) = zI T.n) ∧ (n (F 5) = zI T.h) ∧ (∀ i, i < T.n → g (F 2) i = zI (T.ks i).length) ∧ (∀ i, i < T.n → KA g (F 3) (12 * i) (T.ks i)) ∧ (∀ i, i < T.n → g (F 4) i = T.vs i) ∧ (∀ t, t < T.h → g (F 6) t = zI (T.m t)) ∧ (∀ t, t < T.h → ∀ q, q < T.m t → g (F 7) (400 * t + q) = zI (T.E t q - st (T.E t) q)) ∧ (∀ i, i + 1 < T.m 0 → g (F 8) i = zI (T.S i).length) ∧ (∀ i, i + 1 < T.m 0 → KA g (F 9) (12 * i) (T.S i)) ∧ (∀ i, i < 400 → ∃ q, q ≤ 12 ∧ g (F 8) i = zI q)
theorem Z2.MTf.mk {F : Nat → Nat} {n : Nat → Int32} {g : Nat → Nat → Int32} {T : Tr} (cap : n (F 0) = zI T.cap) (cn : n (F 1) = zI T.n) (ch : n (F 5) = zI T.h) (sz : ∀ i, i < T.n → g (F 2) i = zI (T.ks i).length) (kb : ∀ i, i < T.n → KA g (F 3) (12 * i) (T.ks i)) (vs : ∀ i, i < T.n → g (F 4) i = T.vs i) (m : ∀ t, t < T.h → g (F 6) t = zI (T.m t)) (pt : ∀ t, t < T.h → ∀ q, q < T.m t → g (F 7) (400 * t + q) = zI (T.E t q - st (T.E t) q)) (ss : ∀ i, i + 1 < T.m 0 → g (F 8) i = zI (T.S i).length) (sb : ∀ i, i + 1 < T.m 0 → KA g (F 9) (12 * i) (T.S i)) (jk : ∀ i, i < 400 → ∃ q, q ≤ 12 ∧ g (F 8) i = zI q) : MTf F n g T := ⟨cap, cn, ch, sz, kb, vs, m, pt, ss, sb, jk⟩
theorem Z2.MTf.cap {F : Nat → Nat} {n : Nat → Int32} {g : Nat → Nat → Int32} {T : Tr} (h9 : MTf F n g T) : n (F 0) = zI T.cap := h9.1
theorem Z2.MTf.cn {F : Nat → Nat} {n : Nat → Int32} {g : Nat → Nat → Int32} {T : Tr} (h9 : MTf F n g T) : n (F 1) = zI T.n := h9.2.1
theorem Z2.MTf.ch {F : Nat → Nat} {n : Nat → Int32} {g : Nat → Nat → Int32} {T : Tr} (h9 : MTf F n g T) : n (F 5) = zI T.h := h9.2.2.1
theorem Z2.MTf.sz {F : Nat → Nat} {n : Nat → Int32} {g : Nat → Nat → Int32} {T : Tr} (h9 : MTf F n g T) : ∀ i, i < T.n → g (F 2) i = zI (T.ks i).length := h9.2.2.2.1
theorem Z2.MTf.kb {F : Nat → Nat} {n : Nat → Int32} {g : Nat → Nat → Int32} {T : Tr} (h9 : MTf F n g T) : ∀ i, i < T.n → KA g (F 3) (12 * i) (T.ks i) := h9.2.2.2.2.1
theorem Z2.MTf.vs {F : Nat → Nat} {n : Nat → Int32} {g : Nat → Nat → Int32} {T : Tr} (h9 : MTf F n g T) : ∀ i, i < T.n → g (F 4) i = T.vs i := h9.2.2.2.2.2.1
theorem Z2.MTf.m {F : Nat → Nat} {n : Nat → Int32} {g : Nat → Nat → Int32} {T : Tr} (h9 : MTf F n g T) : ∀ t, t < T.h → g (F 6) t = zI (T.m t) := h9.2.2.2.2.2.2.1
theorem Z2.MTf.pt {F : Nat → Nat} {n : Nat → Int32} {g : Nat → Nat → Int32} {T : Tr} (h9 : MTf F n g T) : ∀ t, t < T.h → ∀ q, q < T.m t → g (F 7) (400 * t + q) = zI (T.E t q - st (T.E t) q) := h9.2.2.2.2.2.2.2.1
theorem Z2.MTf.ss {F : Nat → Nat} {n : Nat → Int32} {g : Nat → Nat → Int32} {T : Tr} (h9 : MTf F n g T) : ∀ i, i + 1 < T.m 0 → g (F 8) i = zI (T.S i).length := h9.2.2.2.2.2.2.2.2.1
theorem Z2.MTf.sb {F : Nat → Nat} {n : Nat → Int32} {g : Nat → Nat → Int32} {T : Tr} (h9 : MTf F n g T) : ∀ i, i + 1 < T.m 0 → KA g (F 9) (12 * i) (T.S i) := h9.2.2.2.2.2.2.2.2.2.1
theorem Z2.MTf.jk {F : Nat → Nat} {n : Nat → Int32} {g : Nat → Nat → Int32} {T : Tr} (h9 : MTf F n g T) : ∀ i, i < 400 → ∃ q, q ≤ 12 ∧ g (F 8) i = zI q := h9.2.2.2.2.2.2.2.2.2.2
abbrev Z2.MT := MTf fL
abbrev Z2.BT (T : Tr) : Prop := (T.IM) ∧ (T.m 0 ≤ 400) ∧ (T.h ≤ 12)
theorem Z2.BT.mk {T : Tr} (im : T.IM) (m4 : T.m 0 ≤ 400) (h12 : T.h ≤ 12) : BT T := ⟨im, m4, h12⟩
theorem Z2.BT.im {T : Tr} (h9 : BT T) : T.IM := h9.1
theorem Z2.BT.m4 {T : Tr} (h9 : BT T) : T.m 0 ≤ 400 := h9.2.1
theorem Z2.BT.h12 {T : Tr} (h9 : BT T) : T.h ≤ 12 := h9.2.2
theorem Z2.BT.m {T : Tr} (B : BT T) {t : Nat} (h : t < T.h) : T.m t ≤ 400 := Nat.le_trans (B.im.m_le0 h) B.m4
theorem Z2.BT.E {T : Tr} (B : BT T) {t q : Nat} (h : t < T.h) (hq : q < T.m t) : T.E t q ≤ 400 := by
  cases t with
  | zero => have := B.im.le_n hq; have := B.im.n3; omega
  | succ t => have := B.im.le_m h hq; have := B.m (t := t) (by omega); omega
theorem Z2.BT.st {T : Tr} (B : BT T) {t q : Nat} (h : t < T.h) (hq : q ≤ T.m t) : st (T.E t) q ≤ 400 := by
  unfold Z2.st; split
  · omega
  · exact B.E h (by omega)
section
variable {n : Nat → Int32} {g : Nat → Nat → Int32}
theorem Z2.s9_shared {k0 a k3 b : Nat} {x y : Key} (hx : KA g k0 a x) (hy : KA g k3 b y) (lx : x.length ≤ 12) (ly : y.length ≤ 12) (h0 : k0 ∈ mAI) (h3 : k3 ∈ mAI) (ha : a + x.length ≤ mlen k0) (hb : b + y.length ≤ mlen k3) (ha' : a < 10000) (hb' : b < 10000) {K : Int32 → Prop} (hK : K (zI (sh x y))) : wp_X9_shared k0 (zI a) (zI x.length) k3 (zI b) (zI y.length) n g K := by
  have sx := sh_le_left x y
  have sy := sh_le_right x y
  refine loopW_of (fun s => ∃ i, s = zI i ∧ i ≤ sh x y) (fun s => 13 - s.toNatClampNeg) ?_ _ ⟨0, rfl, Nat.zero_le _⟩
  rintro C s ⟨i, rfl, hi⟩ hC
  refine ⟨fun c => ?_, fun c => ⟨fun d => ?_, fun d => ?_⟩⟩
  · rw [zI_le (by omega) (by omega)] at c
    rw [show i = sh x y by omega]; exact hK
  · rw [zI_le (by omega) (by omega)] at d
    rw [show i = sh x y by omega]; exact hK
  · rw [zI_le (by omega) (by omega)] at c d
    rw [zI_add, zI_add]
    refine ⟨h0, in_i (by omega) (by omega), ?_⟩
    rintro v rfl
    refine ⟨h3, in_i (by omega) (by omega), ?_⟩
    rintro w rfl
    rw [zI_clamp (by omega), zI_clamp (by omega), hx i (by omega), hy i (by omega)]
    refine ⟨fun e => ?_, fun e => ?_⟩
    · rcases Nat.lt_or_ge i (sh x y) with z | z
      · exact absurd (sh_same x y i z) e
      · rw [show i = sh x y by omega]; exact hK
    · rintro v rfl
      have z : i < sh x y := by
        rcases Nat.lt_or_ge i (sh x y) with z | z
        · exact z
        · have z : i = sh x y := by omega
          rw [z] at e c d
          exact absurd e (sh_stop x y (by omega) (by omega))
      rw [show zI i + 1 = zI (i + 1) from zI_add i 1]
      refine hC _ ⟨i + 1, rfl, by omega⟩ ?_
      rw [zI_clamp (by omega), zI_clamp (by omega)]; omega
theorem Z2.zI_sub_toInt {a b : Nat} (ha : a < 10000) (hb : b < 10000) : (zI a - zI b).toInt = (a : Int) - b := by
  rw [Int32.toInt_sub, zI_toInt (by omega), zI_toInt (by omega), Int.bmod_eq_of_le (by omega) (by omega)]
theorem Z2.s9_compare {k0 a k3 b : Nat} {x y : Key} (hx : KA g k0 a x) (hy : KA g k3 b y) (vx : VK x) (vy : VK y) (h0 : k0 ∈ mAI) (h3 : k3 ∈ mAI) (ha : a + x.length ≤ mlen k0) (hb : b + y.length ≤ mlen k3) (ha' : a < 10000) (hb' : b < 10000) {K : Int32 → Prop} (hK : ∀ r : Int32, (r < 0 ↔ klt x y) → (r = 0 ↔ x = y) → K r) : wp_X9_compare k0 (zI a) (zI x.length) k3 (zI b) (zI y.length) n g K := by
  have lx := vx.1
  have ly := vy.1
  have sx := sh_le_left x y
  have sy := sh_le_right x y
  have e0 : (0 : Int32).toInt = 0 := rfl
  have e1 : (-1 : Int32).toInt = -1 := rfl
  have k1 := klt_iff x y (VK_pos vx) (VK_pos vy)
  have k2 := keq_iff x y (VK_pos vx) (VK_pos vy)
  have b1 := kby_in vx (sh x y)
  have b2 := kby_in vy (sh x y)
  rw [Int32.lt_iff_toInt_lt] at k1
  rw [← Int32.toInt_inj] at k2
  have pos : ∀ (z : Key) (hz : VK z) (i : Nat), i < z.length → 0 ≤ (kby z i).toInt := fun z hz i hi => by
    unfold kby; rw [if_pos hi]
    have e : z.getD i 0 = z[i] := by simp [hi]
    rw [e]
    have := (hz.2 z[i] (List.getElem_mem hi)).1
    rw [Int32.le_iff_toInt_le] at this; omega
  have neg : ∀ (z : Key) (i : Nat), ¬ i < z.length → (kby z i).toInt = -1 := fun z i hi => by
    unfold kby; rw [if_neg hi]; exact e1
  refine s9_shared hx hy lx ly h0 h3 ha hb ha' hb' ⟨fun c => hK _ ?_ ?_, fun c => ⟨fun d => hK _ ?_ ?_, fun d => ?_⟩⟩
  · rw [zI_le (by omega) (by omega)] at c
    have n1 := neg x (sh x y) (by omega)
    rw [k1, Int32.lt_iff_toInt_lt, zI_sub_toInt (by omega) (by omega), n1, e0]
    by_cases z : sh x y < y.length
    · have := pos y vy _ z; omega
    · have := neg y _ z; omega
  · rw [zI_le (by omega) (by omega)] at c
    have n1 := neg x (sh x y) (by omega)
    rw [k2, ← Int32.toInt_inj, zI_sub_toInt (by omega) (by omega), n1, e0]
    by_cases z : sh x y < y.length
    · have := pos y vy _ z; omega
    · have := neg y _ z; omega
  · rw [zI_le (by omega) (by omega)] at c d
    have n1 := neg y (sh x y) (by omega)
    rw [k1, Int32.lt_iff_toInt_lt, zI_sub_toInt (by omega) (by omega), n1, e0]
    have := pos x vx _ (show sh x y < x.length by omega); omega
  · rw [zI_le (by omega) (by omega)] at c d
    have n1 := neg y (sh x y) (by omega)
    rw [k2, ← Int32.toInt_inj, zI_sub_toInt (by omega) (by omega), n1, e0]
    have := pos x vx _ (show sh x y < x.length by omega); omega
  · rw [zI_le (by omega) (by omega)] at c d
    rw [zI_add, zI_add]
    refine ⟨h0, in_i (by omega) (by omega), ?_⟩
    rintro v rfl
    refine ⟨h3, in_i (by omega) (by omega), ?_⟩
    rintro w rfl
    rw [zI_clamp (by omega), zI_clamp (by omega), hx _ (by omega), hy _ (by omega)]
    have p1 : kby x (sh x y) = x.getD (sh x y) 0 := if_pos (by omega)
    have p2 : kby y (sh x y) = y.getD (sh x y) 0 := if_pos (by omega)
    rw [← p1, ← p2]
    refine hK _ ?_ ?_
    · rw [k1, Int32.lt_iff_toInt_lt, sub_small (by omega) (by omega)]; omega
    · rw [k2, ← Int32.toInt_inj, sub_small (by omega) (by omega)]; omega
theorem Z2.s9_against {T : Tr} (M : MT n g T) (B : BT T) {i k : Nat} {x : Key} (hi : i < T.n) (hx : KA g k 0 x) (vx : VK x) (hk : k ∈ mAI) (hl : 12 ≤ mlen k) {K : Int32 → Prop} (hK : ∀ r : Int32, (r < 0 ↔ klt (T.ks i) x) → (r = 0 ↔ T.ks i = x) → K r) : wp_X9_against (zI i) k (zI x.length) n g K := by
  have hn := B.im.n3
  have vk := B.im.vk i hi
  have h1 := vk.1
  have h2 := vx.1
  refine ⟨in_i (show i < 300 by omega) (by omega), ?_⟩
  rintro v rfl
  rw [zI_clamp (by omega)]
  have e := M.sz i hi
  rw [show g 10 i = zI (T.ks i).length from e, show (12 : Int32) * zI i = zI (12 * i) from zI_mul 12 i, show (0 : Int32) = zI 0 from rfl]
  exact s9_compare (M.kb i hi) hx vk vx (by decide) hk (show 12 * i + (T.ks i).length ≤ 3600 by omega) (by omega) (by omega) (by omega) hK
theorem Z2.s9_less {T : Tr} (M : MT n g T) (B : BT T) {k : Nat} {x : Key} (hx : KA g k 0 x) (vx : VK x) (hk : k ∈ mAI) (hl : 12 ≤ mlen k) {K : Int32 → Prop} (hK : K (zI (T.less x))) : wp_X9_less k (zI x.length) n g K := by
  have hn := B.im.n3
  have e := M.cn
  have e : n 9 = zI T.n := e
  refine loopW_of (fun s => ∃ i, s = zI i ∧ i ≤ T.n ∧ ∀ j, j < i → klt (T.ks j) x) (fun s => T.n - s.toNatClampNeg) ?_ _ ⟨0, rfl, Nat.zero_le _, fun j hj => by omega⟩
  rintro C s ⟨i, rfl, hi, hj⟩ hC
  have fin : (i < T.n → ¬ klt (T.ks i) x) → K (zI i) := fun h => by
    have e : T.less x = i := ff_eq hi (fun j h' => dec_t (hj j h')) (fun h' => dec_f (h h'))
    rw [e] at hK; exact hK
  refine ⟨fun c => ?_, fun c => ?_⟩
  · rw [e, zI_le (by omega) (by omega)] at c
    exact fin (fun h => by omega)
  · rw [e, zI_le (by omega) (by omega)] at c
    refine s9_against M B (by omega) hx vx hk hl (fun r r1 r2 => ⟨fun d => fin (fun _ hlt => ?_), fun d => ?_⟩)
    · have := r1.mpr hlt
      rw [Int32.lt_iff_toInt_lt] at this
      rw [Int32.le_iff_toInt_le] at d; omega
    · rintro v rfl
      rw [show zI i + 1 = zI (i + 1) from zI_add i 1]
      refine hC _ ⟨i + 1, rfl, by omega, fun j h' => ?_⟩ ?_
      · by_cases z : j = i
        · rw [z]; refine r1.mp ?_
          rw [Int32.lt_iff_toInt_lt]
          rw [Int32.le_iff_toInt_le] at d; omega
        · exact hj j (by omega)
      · rw [zI_clamp (by omega), zI_clamp (by omega)]; omega
theorem Z2.s9_isThere {T : Tr} (M : MT n g T) (B : BT T) {i : Nat} {x : Key} (hi : i ≤ T.n) (hx : KA g 2 0 x) (vx : VK x) (hs : n 1 = zI x.length) {K : Int32 → Prop} (hK : K (if i < T.n ∧ T.ks i = x then 1 else 0)) : wp_X9_isThere (zI i) n g K := by
  have hn := B.im.n3
  have e : n 9 = zI T.n := M.cn
  refine ⟨fun c => ?_, fun c => ?_⟩
  · rw [e, zI_le (by omega) (by omega)] at c
    rw [if_neg (by omega)] at hK; exact hK
  · rw [e, zI_le (by omega) (by omega)] at c
    rw [hs]
    refine s9_against M B (by omega) hx vx (by decide) (by decide) (fun r r1 r2 => ⟨fun d => ?_, fun d => ?_⟩)
    · rw [if_neg (fun z => d (r2.mpr z.2))] at hK; exact hK
    · rw [if_pos ⟨by omega, r2.mp d⟩] at hK; exact hK
/-- the parts of the pages ahead -/
theorem Z2.s9_firstOfG {T : Tr} (M : MT n g T) {t p : Nat} (ht : t < T.h) (hh : T.h ≤ 12) (hm : T.m t ≤ 400) (hle : ∀ q, q < T.m t → Z2.st (T.E t) q ≤ T.E t q) (hp : p ≤ T.m t) {K : Int32 → Prop} (hK : K (zI (st (T.E t) p))) : wp_X9_firstOf (zI t) (zI p) n g K := by
  refine loopW_of (fun s => ∃ i, s = (zI (st (T.E t) i), zI i) ∧ i ≤ p) (fun s => p - s.2.toNatClampNeg) ?_ _ ⟨0, rfl, Nat.zero_le _⟩
  rintro C s ⟨i, rfl, hi⟩ hC
  refine ⟨fun c => ?_, fun c => ?_⟩
  · rw [zI_le (by omega) (by omega)] at c
    rw [show i = p by omega]; exact hK
  · rw [zI_le (by omega) (by omega)] at c
    show vp_in ((400 : Int32) * zI t + zI i) (mlen 15) ∧ _
    have e : (400 : Int32) * zI t + zI i = zI (400 * t + i) := by rw [show (400 : Int32) * zI t = zI (400 * t) from zI_mul 400 t, zI_add]
    rw [e]
    refine ⟨in_i (show 400 * t + i < 4800 by omega) (by omega), ?_⟩
    rintro v rfl w rfl
    rw [zI_clamp (by omega)]
    have e2 : g 15 (400 * t + i) = zI (T.E t i - st (T.E t) i) := M.pt t ht i (by omega)
    have le := hle i (by omega)
    rw [e2, zI_add, show st (T.E t) i + (T.E t i - st (T.E t) i) = T.E t i by omega]
    rintro v rfl
    rw [show zI i + 1 = zI (i + 1) from zI_add i 1]
    refine hC _ ⟨i + 1, ?_, by omega⟩ ?_
    · have : st (T.E t) (i + 1) = T.E t i := by unfold Z2.st; rw [if_neg (by omega)]; rfl
      rw [this]
    · rw [zI_clamp (by omega), zI_clamp (by omega)]; omega
theorem Z2.s9_firstOf {T : Tr} (M : MT n g T) (B : BT T) {t p : Nat} (ht : t < T.h) (hp : p ≤ T.m t) {K : Int32 → Prop} (hK : K (zI (st (T.E t) p))) : wp_X9_firstOf (zI t) (zI p) n g K :=
  s9_firstOfG M ht B.h12 (B.m ht) (fun q hq => by
    cases t with
    | zero => exact B.im.st_le hq
    | succ t => exact Nat.le_of_lt (B.im.st_lt (by omega) ht hq)) hp hK
end
