/-! the first state: the reference's object -/
def Z2.MJ (fc f : FT) (mo : Nat) (fs : List Value) (ad : Nat → Nat) (g : Nat → Nat → Int32) (D : List Nat) : Prop := (∀ q e, fc q = some e → f q = some e) ∧ fc mo = none ∧ f mo = some (.inr (12, fs)) ∧ (∀ k, k ∈ D → f (ad k) = some (.inl (1, mlen k, .inl (g k))) ∧ fc (ad k) = none ∧ ad k ≠ mo) ∧ (∀ i, i ∈ D → ∀ j, j ∈ D → ad i = ad j → i = j)
theorem Z2.MJ.arr {fc f : FT} {mo : Nat} {fs : List Value} {ad : Nat → Nat} {g : Nat → Nat → Int32} {D : List Nat} (J : MJ fc f mo fs ad g D) {k len : Nat} (hk : k ∉ D) (hl : mlen k = len) (hg : g k = fun _ => 0) (hn : len ≤ 100000000) {bc bs : Nat} (h1 : 1 ≤ bc) (h2 : len ≤ bs) {K : Nat → Nat → FT → Prop} (hK : ∀ q f', MJ fc f' mo fs (stt ad k q) g (k :: D) → K len q f') : nA f 1 (zI len) bc bs K := by
  obtain ⟨j1, j2, j3, j4, j5⟩ := J
  refine nA_g hn h1 h2 (fun q f' hq e n => hK q f' ⟨fun p x h => ?_, j2, ?_, fun u hu => ?_, fun u hu v hv h => ?_⟩)
  · have a := j1 p x h
    rw [n p (ne_of_some a hq)]; exact a
  · rw [n mo (ne_of_some j3 hq)]; exact j3
  · rcases List.mem_cons.mp hu with rfl | hu
    · rw [stt_same]
      refine ⟨by rw [e, hl, hg], ?_, fun z => ne_of_some j3 hq z.symm⟩
      cases c : fc q with
      | none => rfl
      | some x => have := j1 q x c; rw [hq] at this; cases this
    · have nk : u ≠ k := fun z => hk (z ▸ hu)
      rw [stt_ne _ _ nk]
      obtain ⟨a1, a2, a3⟩ := j4 u hu
      exact ⟨by rw [n _ (ne_of_some a1 hq)]; exact a1, a2, a3⟩
  · rcases List.mem_cons.mp hu with e1 | hu2
    · rcases List.mem_cons.mp hv with e2 | hv2
      · rw [e1, e2]
      · have nk : v ≠ k := fun z => hk (z ▸ hv2)
        rw [e1, stt_same, stt_ne _ _ nk] at h
        exact absurd h.symm (ne_of_some (j4 v hv2).1 hq)
    · have nk : u ≠ k := fun z => hk (z ▸ hu2)
      rcases List.mem_cons.mp hv with e2 | hv2
      · rw [e2, stt_same, stt_ne _ _ nk] at h
        exact absurd h (ne_of_some (j4 u hu2).1 hq)
      · have nk2 : v ≠ k := fun z => hk (z ▸ hv2)
        rw [stt_ne _ _ nk, stt_ne _ _ nk2] at h
        exact j5 u hu2 v hv2 h
theorem Z2.MJ.ref {fc f : FT} {mo : Nat} {fs : List Value} {ad : Nat → Nat} {g : Nat → Nat → Int32} {D : List Nat} (J : MJ fc f mo fs ad g D) {k : Nat} {v : Value} (hk : k < fs.length) {K : FT → Prop} (hK : ∀ f', MJ fc f' mo (fs.set k v) ad g D → K f') : pV f mo 12 k v K := by
  obtain ⟨j1, j2, j3, j4, j5⟩ := J
  refine pV_g j3 hk (fun f' e n => hK f' ⟨fun p x h => ?_, j2, e, fun u hu => ?_, j5⟩)
  · have a : p ≠ mo := ne_of_some h j2
    rw [n p a]; exact j1 p x h
  · obtain ⟨a1, a2, a3⟩ := j4 u hu
    exact ⟨by rw [n _ a3]; exact a1, a2, a3⟩
theorem Z2.MJ.st {fc f : FT} {mo : Nat} {fs : List Value} {ad : Nat → Nat} {g : Nat → Nat → Int32} {D : List Nat} (J : MJ fc f mo fs ad g D) {k i a : Nat} (hk : k ∈ D) (ha : ad k = a) (hi : i < mlen k) (hb : i < 2147483648) {x : Int32} {K : FT → Prop} (hK : ∀ f', MJ fc f' mo fs ad (mup g k i x) D → K f') : sI f a (zI i) x K := by
  subst ha
  obtain ⟨j1, j2, j3, j4, j5⟩ := J
  obtain ⟨a1, a2, a3⟩ := j4 k hk
  refine ⟨mlen k, g k, a1, in_i hi hb, ?_⟩
  rintro f1 rfl
  rw [zI_clamp hb]
  refine hK _ ⟨fun p y h => ?_, j2, ?_, fun u hu => ?_, j5⟩
  · have n : p ≠ ad k := ne_of_some h a2
    rw [fup_ne _ _ n]; exact j1 p y h
  · rw [fup_ne _ _ (Ne.symm a3)]; exact j3
  · obtain ⟨b1, b2, b3⟩ := j4 u hu
    refine ⟨?_, b2, b3⟩
    by_cases z : u = k
    · subst z
      rw [fup_self, mup_same]
    · have n : ad u ≠ ad k := fun e => z (j5 u hu k hk e)
      rw [fup_ne _ _ n, mup_ne _ _ _ z]; exact b1
theorem Z2.MJ.fin {fc f : FT} {mo : Nat} {fs : List Value} {ad : Nat → Nat} {n : Nat → Int32} {g : Nat → Nat → Int32} {D : List Nat} (J : MJ fc f mo fs ad g D) (hfs : fs = mfs ad n) (hD : ∀ k, k ∈ mAI → k ∈ D) : (∀ q e, mf mo ad n g q = some e → f q = some e ∧ fc q = none) ∧ MAd mo ad := by
  subst hfs
  obtain ⟨j1, j2, j3, j4, j5⟩ := J
  refine ⟨fun q e h => ?_, fun i hi j hj z => j5 i (hD i hi) j (hD j hj) z, fun i hi => (j4 i (hD i hi)).2.2⟩
  unfold mf at h
  by_cases z : q = mo
  · subst z
    rw [if_pos rfl] at h
    exact ⟨by rw [j3]; exact h, j2⟩
  · rw [if_neg z] at h
    cases c : mAI.find? (fun k => ad k == q) with
    | none => rw [c] at h; cases h
    | some k =>
      rw [c] at h
      have h1 := List.find?_some c
      have h2 := List.mem_of_find?_eq_some c
      have h3 : ad k = q := by simpa using h1
      obtain ⟨a1, a2, a3⟩ := j4 k (hD k h2)
      rw [h3] at a1 a2
      exact ⟨by rw [a1]; exact h, a2⟩
def Z2.fsl (v : Nat → Value) : List Value := [v 0, v 1, v 2, v 3, v 4, v 5, v 6, v 7, v 8, v 9, v 10, v 11, v 12, v 13, v 14, v 15, v 16, v 17, v 18, v 19, v 20, v 21, v 22, v 23, v 24, v 25, v 26, v 27, v 28, v 29, v 30, v 31, v 32, v 33]
theorem Z2.fsl_set (v : Nat → Value) (x : Value) : ∀ k, k < 34 → (fsl v).set k x = fsl (stt v k x)
  | 0, _ => rfl
  | 1, _ => rfl
  | 2, _ => rfl
  | 3, _ => rfl
  | 4, _ => rfl
  | 5, _ => rfl
  | 6, _ => rfl
  | 7, _ => rfl
  | 8, _ => rfl
  | 9, _ => rfl
  | 10, _ => rfl
  | 11, _ => rfl
  | 12, _ => rfl
  | 13, _ => rfl
  | 14, _ => rfl
  | 15, _ => rfl
  | 16, _ => rfl
  | 17, _ => rfl
  | 18, _ => rfl
  | 19, _ => rfl
  | 20, _ => rfl
  | 21, _ => rfl
  | 22, _ => rfl
  | 23, _ => rfl
  | 24, _ => rfl
  | 25, _ => rfl
  | 26, _ => rfl
  | 27, _ => rfl
  | 28, _ => rfl
  | 29, _ => rfl
  | 30, _ => rfl
  | 31, _ => rfl
  | 32, _ => rfl
  | 33, _ => rfl
  | k + 34, h => absurd h (by omega)
theorem Z2.MJ.put {fc f : FT} {mo : Nat} {v : Nat → Value} {ad : Nat → Nat} {g : Nat → Nat → Int32} {D : List Nat} (J : MJ fc f mo (fsl v) ad g D) (k : Nat) (x : Value) (hk : k < 34) {K : FT → Prop} (hK : ∀ f', MJ fc f' mo (fsl (stt v k x)) ad g D → K f') : pV f mo 12 k x K :=
  MJ.ref J hk (fun f' J2 => hK f' (by rw [fsl_set v x k hk] at J2; exact J2))
def Z2.v00 : Nat → Value := fun k => if k ∈ mAI then .null else .int 0
def Z2.n00 : Nat → Int32 := fun k => if k = 5 then 96 else if k = 13 then 1 else 0
def Z2.g00 : Nat → Nat → Int32 := mup (mup (mup (mup (mup (fun _ _ => 0) 18 0 (-2)) 18 1 (-2)) 18 2 (-2)) 18 3 (-2)) 14 0 1
theorem Z2.s_X9_init {fc f : FT} {mo mc ms : Nat} (hs : ∀ q e, fc q = some e → f q = some e) (hm : fc mo = none) (h : f mo = some (.inr (12, [.int 0, .int 0, .null, .int 0, .null, .int 0, .int 0, .int 0, .int 0, .int 0, .null, .null, .null, .int 0, .null, .null, .null, .null, .null, .int 0, .null, .null, .null, .int 0, .int 0, .int 0, .int 0, .null, .null, .null, .null, .null, .null, .null]))) (b1 : 40 ≤ mc) (b2 : 40000 ≤ ms) {K : FT → Prop} (hK : ∀ f' ad, (∀ q e, fc q = some e → f' q = some e) → (∀ q e, mf mo ad n00 g00 q = some e → f' q = some e ∧ fc q = none) → MAd mo ad → K f') : wp_X9_init mo f mc ms K := by
  have J : MJ fc f mo (fsl v00) (fun _ => 0) (fun _ _ => 0) [] := ⟨hs, hm, h, fun k hk => (by cases hk), fun i hi => (by cases hi)⟩
  refine J.arr (k := 2) (len := 12) (by decide) rfl rfl (by omega) (by omega) (by omega) (fun q2 f1 J => ?_)
  refine J.put _ _ (by decide) (fun f1 J => ?_)
  refine J.arr (k := 4) (len := 12) (by decide) rfl rfl (by omega) (by omega) (by omega) (fun q4 f1 J => ?_)
  refine J.put _ _ (by decide) (fun f1 J => ?_)
  refine J.put _ _ (by decide) (fun f1 J => ?_)
  refine J.arr (k := 10) (len := 300) (by decide) rfl rfl (by omega) (by omega) (by omega) (fun q10 f1 J => ?_)
  refine J.put _ _ (by decide) (fun f1 J => ?_)
  refine J.arr (k := 11) (len := 3600) (by decide) rfl rfl (by omega) (by omega) (by omega) (fun q11 f1 J => ?_)
  refine J.put _ _ (by decide) (fun f1 J => ?_)
  refine J.arr (k := 12) (len := 300) (by decide) rfl rfl (by omega) (by omega) (by omega) (fun q12 f1 J => ?_)
  refine J.put _ _ (by decide) (fun f1 J => ?_)
  refine J.put _ _ (by decide) (fun f1 J => ?_)
  refine J.arr (k := 14) (len := 12) (by decide) rfl rfl (by omega) (by omega) (by omega) (fun q14 f1 J => ?_)
  refine J.put _ _ (by decide) (fun f1 J => ?_)
  refine J.arr (k := 15) (len := 4800) (by decide) rfl rfl (by omega) (by omega) (by omega) (fun q15 f1 J => ?_)
  refine J.put _ _ (by decide) (fun f1 J => ?_)
  refine J.arr (k := 16) (len := 400) (by decide) rfl rfl (by omega) (by omega) (by omega) (fun q16 f1 J => ?_)
  refine J.put _ _ (by decide) (fun f1 J => ?_)
  refine J.arr (k := 17) (len := 4800) (by decide) rfl rfl (by omega) (by omega) (by omega) (fun q17 f1 J => ?_)
  refine J.put _ _ (by decide) (fun f1 J => ?_)
  refine J.arr (k := 18) (len := 4) (by decide) rfl rfl (by omega) (by omega) (by omega) (fun q18 f1 J => ?_)
  refine J.st (k := 18) (i := 0) (by decide) rfl (by decide) (by omega) (fun f1 J => ?_)
  refine J.st (k := 18) (i := 1) (by decide) rfl (by decide) (by omega) (fun f1 J => ?_)
  refine J.st (k := 18) (i := 2) (by decide) rfl (by decide) (by omega) (fun f1 J => ?_)
  refine J.st (k := 18) (i := 3) (by decide) rfl (by decide) (by omega) (fun f1 J => ?_)
  refine J.put _ _ (by decide) (fun f1 J => ?_)
  refine J.arr (k := 20) (len := 300) (by decide) rfl rfl (by omega) (by omega) (by omega) (fun q20 f1 J => ?_)
  refine J.put _ _ (by decide) (fun f1 J => ?_)
  refine J.arr (k := 21) (len := 3600) (by decide) rfl rfl (by omega) (by omega) (by omega) (fun q21 f1 J => ?_)
  refine J.put _ _ (by decide) (fun f1 J => ?_)
  refine J.arr (k := 22) (len := 300) (by decide) rfl rfl (by omega) (by omega) (by omega) (fun q22 f1 J => ?_)
  refine J.put _ _ (by decide) (fun f1 J => ?_)
  refine J.arr (k := 27) (len := 300) (by decide) rfl rfl (by omega) (by omega) (by omega) (fun q27 f1 J => ?_)
  refine J.put _ _ (by decide) (fun f1 J => ?_)
  refine J.arr (k := 28) (len := 3600) (by decide) rfl rfl (by omega) (by omega) (by omega) (fun q28 f1 J => ?_)
  refine J.put _ _ (by decide) (fun f1 J => ?_)
  refine J.arr (k := 29) (len := 300) (by decide) rfl rfl (by omega) (by omega) (by omega) (fun q29 f1 J => ?_)
  refine J.put _ _ (by decide) (fun f1 J => ?_)
  refine J.arr (k := 30) (len := 12) (by decide) rfl rfl (by omega) (by omega) (by omega) (fun q30 f1 J => ?_)
  refine J.put _ _ (by decide) (fun f1 J => ?_)
  refine J.arr (k := 31) (len := 4800) (by decide) rfl rfl (by omega) (by omega) (by omega) (fun q31 f1 J => ?_)
  refine J.put _ _ (by decide) (fun f1 J => ?_)
  refine J.arr (k := 32) (len := 400) (by decide) rfl rfl (by omega) (by omega) (by omega) (fun q32 f1 J => ?_)
  refine J.put _ _ (by decide) (fun f1 J => ?_)
  refine J.arr (k := 33) (len := 4800) (by decide) rfl rfl (by omega) (by omega) (by omega) (fun q33 f1 J => ?_)
  refine J.put _ _ (by decide) (fun f1 J => ?_)
  refine gA_i J.2.2.1 rfl ?_
  refine J.st (k := 14) (i := 0) (by decide) rfl (by decide) (by omega) (fun f1 J => ?_)
  obtain ⟨r1, r2⟩ := MJ.fin (n := n00) J rfl (by decide)
  exact hK _ _ J.1 r1 r2
