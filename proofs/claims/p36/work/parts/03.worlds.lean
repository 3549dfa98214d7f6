/-! worlds as functions: f says what lies at each address; G: the class ids of objects and arrays (0 byte, 1 int, 2 Object, 3 long) -/
abbrev fE : Type := (Nat × vp_A) ⊕ (Nat × List Value)
abbrev FT : Type := Nat → Option fE
abbrev GG : Type := va_G × (Nat → ClassId) × (Nat → Nat)
def fup (f : FT) (a : Nat) (e : fE) : FT := fun b => if b = a then some e else f b
theorem fup_self (f : FT) (a : Nat) (e : fE) : fup f a e a = some e := by simp [fup]
theorem fup_ne (f : FT) {a b : Nat} (e : fE) (h : b ≠ a) : fup f a e b = f b := by simp [fup, h]
def fTys (G : GG) : List (ClassId × FieldType) := [(G.2.1 0, .byte), (G.2.1 1, .int), (G.2.1 2, .object "java/lang/Object"), (G.2.1 3, .int)]
def fto (G : GG) : fE → va_E := fun e => match e with
  | .inl x => .inl (G.2.1 x.1, x.2)
  | .inr o => .inr o
def Fm (G : GG) (f : FT) (ws : va_W) : Prop := ∀ a e, (a, e) ∈ ws ↔ ∃ e', f a = some e' ∧ e = fto G e'
def Fw (G : GG) (A : Nat → Prop) (f : FT) (H : Heap) : Prop := ∃ ws : va_W, va_P G.1 vwCl ws H ∧ va_D A ws ∧ Fm G f ws
/-- what the tables say of casts, and the class object of Object[] -/
def FX (G : GG) (s : State) : Prop := va_Nw (.castable RX3 "java/lang/Object") s ∧ va_Nw (.castable RX2 "java/lang/Object") s ∧ va_Nw (.castable "[I" "java/lang/Cloneable") s ∧ va_Nw (.castable "[B" "java/lang/Cloneable") s ∧ va_Mi "[Ljava/lang/Object;" (G.2.2 1) s ∧ va_AO "java/lang/Object" s ∧ va_Dc s
theorem va_Nw.movedC {C T : String} {u U : State} (hvm : u.vm.Alike U.vm) (hZ : va_Nw (.castable C T) u) : va_Nw (.castable C T) U := va_tabs rfl (rfl : (u.setVm U.vm).vm = U.vm) (by rw [Cond.castable_setVm hvm]; exact hZ)
theorem FX.moved {G : GG} {u U : State} (hvm : u.vm.Alike U.vm) (h : FX G u) : FX G U := ⟨h.1.movedC hvm, h.2.1.movedC hvm, h.2.2.1.movedC hvm, h.2.2.2.1.movedC hvm, h.2.2.2.2.1.moved hvm, h.2.2.2.2.2.1.moved hvm, h.2.2.2.2.2.2.moved hvm⟩
def FK (G : GG) (s : State) : Prop := va_K G.1 vwCl (fTys G) s ∧ FX G s
/-- links of private members among the nest -/
def nestW : List Cond := [.fieldLinkNest RX1 34 "FrontCodedIndex$Tree" "capacity" "I" "FrontCodedIndex", .fieldLinkNest RX1 37 "FrontCodedIndex$Tree" "tierTotal" "I" "FrontCodedIndex", .fieldLinkNest RX1 54 "FrontCodedIndex$Tree" "keys" "LFrontCodedIndex$KeyRow;" "FrontCodedIndex", .fieldLinkNest RX1 64 "FrontCodedIndex$Tree" "separators" "LFrontCodedIndex$KeyRow;" "FrontCodedIndex", .fieldLinkNest RX1 71 "FrontCodedIndex$Tree" "values" "LFrontCodedIndex$IntRow;" "FrontCodedIndex", .fieldLinkNest RX5 50 "FrontCodedIndex$Tree" "keys" "LFrontCodedIndex$KeyRow;" "FrontCodedIndex", .fieldLinkNest RX5 57 "FrontCodedIndex$Tree" "values" "LFrontCodedIndex$IntRow;" "FrontCodedIndex", .fieldLinkNest RX5 61 "FrontCodedIndex$Tree" "separators" "LFrontCodedIndex$KeyRow;" "FrontCodedIndex", .fieldLinkNest RX5 64 "FrontCodedIndex$Tree" "tierTotal" "I" "FrontCodedIndex", .fieldLinkNest RX6 21 "FrontCodedIndex$Tree" "values" "LFrontCodedIndex$IntRow;" "FrontCodedIndex", .fieldLinkNest RX6 40 "FrontCodedIndex$Tree" "keys" "LFrontCodedIndex$KeyRow;" "FrontCodedIndex", .fieldLinkNest RX6 60 "FrontCodedIndex$Tree" "tierTotal" "I" "FrontCodedIndex", .fieldLinkNest RX6 77 "FrontCodedIndex$Tree" "capacity" "I" "FrontCodedIndex", .fieldLinkNest RX6 96 "FrontCodedIndex$Tree" "separators" "LFrontCodedIndex$KeyRow;" "FrontCodedIndex", .fieldLinkNest RX8 105 "FrontCodedIndex$Tree" "keys" "LFrontCodedIndex$KeyRow;" "FrontCodedIndex", .fieldLinkNest RX8 116 "FrontCodedIndex$Tree" "capacity" "I" "FrontCodedIndex", .fieldLinkNest RX8 124 "FrontCodedIndex$Tree" "values" "LFrontCodedIndex$IntRow;" "FrontCodedIndex", .fieldLinkNest RX8 171 "FrontCodedIndex$Tree" "tierTotal" "I" "FrontCodedIndex", .fieldLinkNest RX8 208 "FrontCodedIndex$Inserter" "splits" "I" "FrontCodedIndex", .fieldLinkNest RX8 211 "FrontCodedIndex$Inserter" "redistributions" "I" "FrontCodedIndex", .fieldLinkNest RX8 214 "FrontCodedIndex$Remover" "merges" "I" "FrontCodedIndex", .methodLinkNest RX5 11 yX4_init "FrontCodedIndex", .methodLinkNest RX5 20 yX2_init "FrontCodedIndex", .methodLinkNest RX7 11 yX4_init "FrontCodedIndex", .methodLinkNest RX7 20 yX2_init "FrontCodedIndex", .methodLinkNest RX8 44 yX5_init "FrontCodedIndex"]
theorem nestW_tab : ∀ w ∈ nestW, w.onTables = true := by decide +kernel
def FN (U : State) : Prop := ∀ w ∈ nestW, va_Nw w U
theorem FN.same {u U : State} (h : u.vm = U.vm) (hN : FN u) : FN U := fun w hw => va_Nw.same (nestW_tab w hw) h (hN w hw)
theorem FN.warm {s U : State} (hW : s.WarmedH U.vm) (h : FN s) : FN U := List.forall_mem_cons.mpr ⟨va_Nw.warmF hW (h _ (List.mem_of_getElem? (i := 0) rfl)), List.forall_mem_cons.mpr ⟨va_Nw.warmF hW (h _ (List.mem_of_getElem? (i := 1) rfl)), List.forall_mem_cons.mpr ⟨va_Nw.warmF hW (h _ (List.mem_of_getElem? (i := 2) rfl)), List.forall_mem_cons.mpr ⟨va_Nw.warmF hW (h _ (List.mem_of_getElem? (i := 3) rfl)), List.forall_mem_cons.mpr ⟨va_Nw.warmF hW (h _ (List.mem_of_getElem? (i := 4) rfl)), List.forall_mem_cons.mpr ⟨va_Nw.warmF hW (h _ (List.mem_of_getElem? (i := 5) rfl)), List.forall_mem_cons.mpr ⟨va_Nw.warmF hW (h _ (List.mem_of_getElem? (i := 6) rfl)), List.forall_mem_cons.mpr ⟨va_Nw.warmF hW (h _ (List.mem_of_getElem? (i := 7) rfl)), List.forall_mem_cons.mpr ⟨va_Nw.warmF hW (h _ (List.mem_of_getElem? (i := 8) rfl)), List.forall_mem_cons.mpr ⟨va_Nw.warmF hW (h _ (List.mem_of_getElem? (i := 9) rfl)), List.forall_mem_cons.mpr ⟨va_Nw.warmF hW (h _ (List.mem_of_getElem? (i := 10) rfl)), List.forall_mem_cons.mpr ⟨va_Nw.warmF hW (h _ (List.mem_of_getElem? (i := 11) rfl)), List.forall_mem_cons.mpr ⟨va_Nw.warmF hW (h _ (List.mem_of_getElem? (i := 12) rfl)), List.forall_mem_cons.mpr ⟨va_Nw.warmF hW (h _ (List.mem_of_getElem? (i := 13) rfl)), List.forall_mem_cons.mpr ⟨va_Nw.warmF hW (h _ (List.mem_of_getElem? (i := 14) rfl)), List.forall_mem_cons.mpr ⟨va_Nw.warmF hW (h _ (List.mem_of_getElem? (i := 15) rfl)), List.forall_mem_cons.mpr ⟨va_Nw.warmF hW (h _ (List.mem_of_getElem? (i := 16) rfl)), List.forall_mem_cons.mpr ⟨va_Nw.warmF hW (h _ (List.mem_of_getElem? (i := 17) rfl)), List.forall_mem_cons.mpr ⟨va_Nw.warmF hW (h _ (List.mem_of_getElem? (i := 18) rfl)), List.forall_mem_cons.mpr ⟨va_Nw.warmF hW (h _ (List.mem_of_getElem? (i := 19) rfl)), List.forall_mem_cons.mpr ⟨va_Nw.warmF hW (h _ (List.mem_of_getElem? (i := 20) rfl)), List.forall_mem_cons.mpr ⟨va_Nw.warmM hW (h _ (List.mem_of_getElem? (i := 21) rfl)), List.forall_mem_cons.mpr ⟨va_Nw.warmM hW (h _ (List.mem_of_getElem? (i := 22) rfl)), List.forall_mem_cons.mpr ⟨va_Nw.warmM hW (h _ (List.mem_of_getElem? (i := 23) rfl)), List.forall_mem_cons.mpr ⟨va_Nw.warmM hW (h _ (List.mem_of_getElem? (i := 24) rfl)), List.forall_mem_cons.mpr ⟨va_Nw.warmM hW (h _ (List.mem_of_getElem? (i := 25) rfl)), fun _ h9 => absurd h9 List.not_mem_nil⟩⟩⟩⟩⟩⟩⟩⟩⟩⟩⟩⟩⟩⟩⟩⟩⟩⟩⟩⟩⟩⟩⟩⟩⟩⟩
/-- ArrayList's static array of no elements, and the nest's links -/
def FZ (G : GG) (A : Nat → Prop) (U : State) (H : Heap) : Prop := va_Z "java/util/ArrayList" "DEFAULTCAPACITY_EMPTY_ELEMENTDATA" "[Ljava/lang/Object;" (.ref (G.2.2 0)) A U H ∧ FN U ∧ va_T (.object "java/lang/Object") (G.2.2 0) 0 (fun _ => .null) A U H ∧ ¬ A (G.2.2 0)
def fA (f : FT) (sz : Nat) : Nat → Prop := fun q => (∃ e, f q = some e) ∨ sz ≤ q
theorem Fm.at {G : GG} {f : FT} {ws : va_W} (h : Fm G f ws) {a : Nat} {e : fE} (he : f a = some e) : ∃ q0 : Nat, ws[q0]? = some (a, fto G e) := List.getElem?_of_mem ((h a (fto G e)).mpr ⟨e, he, rfl⟩)
theorem Fm.of {G : GG} {f : FT} {ws : va_W} (h : Fm G f ws) {a k : Nat} {e : va_E} (he : ws[k]? = some (a, e)) : ∃ e', f a = some e' ∧ e = fto G e' := (h a e).mp (List.mem_of_getElem? he)
theorem Fm.set {G : GG} {A : Nat → Prop} {f : FT} {ws : va_W} (h : Fm G f ws) (hD : va_D A ws) {a q0 : Nat} {e0 : va_E} (hq : ws[q0]? = some (a, e0)) (e : fE) : Fm G (fup f a e) (ws.set q0 (a, fto G e)) := by
  have hl : q0 < ws.length := (List.getElem?_eq_some_iff.mp hq).1
  intro b x
  by_cases hb : b = a
  · subst hb
    constructor
    · intro hm
      obtain ⟨k, hk⟩ := List.getElem?_of_mem hm
      rw [List.getElem?_set] at hk
      by_cases hkq : q0 = k
      · rw [if_pos hkq, if_pos (by omega)] at hk
        refine ⟨e, fup_self f b e, ?_⟩
        exact (congrArg Prod.snd (Option.some.inj hk)).symm
      · rw [if_neg hkq] at hk
        exact absurd (hD.1 q0 k _ _ hq hk rfl) hkq
    · rintro ⟨e', h1, h2⟩
      rw [fup_self] at h1
      cases h1
      subst h2
      refine List.mem_of_getElem? (i := q0) ?_
      rw [List.getElem?_set, if_pos rfl, if_pos hl]
  · constructor
    · intro hm
      obtain ⟨k, hk⟩ := List.getElem?_of_mem hm
      rw [List.getElem?_set] at hk
      by_cases hkq : q0 = k
      · rw [if_pos hkq, if_pos (by omega)] at hk
        exact absurd (congrArg Prod.fst (Option.some.inj hk)).symm hb
      · rw [if_neg hkq] at hk
        obtain ⟨e', h1, h2⟩ := h.of hk
        exact ⟨e', by rw [fup_ne f e hb]; exact h1, h2⟩
    · rintro ⟨e', h1, h2⟩
      rw [fup_ne f e hb] at h1
      obtain ⟨k, hk⟩ := h.at h1
      have hkq : q0 ≠ k := fun z => by
        subst z
        exact hb (congrArg Prod.fst (Option.some.inj (hk.symm.trans hq)))
      refine List.mem_of_getElem? (i := k) ?_
      rw [List.getElem?_set, if_neg hkq, hk, h2]
theorem Fm.push {G : GG} {A : Nat → Prop} {f : FT} {ws : va_W} (h : Fm G f ws) {q : Nat} (e : fE) (hD : va_D A (ws ++ [(q, fto G e)])) : f q = none ∧ Fm G (fup f q e) (ws ++ [(q, fto G e)]) := by
  have hlast : (ws ++ [(q, fto G e)])[ws.length]? = some (q, fto G e) := by simp
  have hn : f q = none := by
    cases hfq : f q with
    | none => rfl
    | some e' =>
      obtain ⟨k, hk⟩ := h.at hfq
      have hkl : k < ws.length := (List.getElem?_eq_some_iff.mp hk).1
      have hk2 : (ws ++ [(q, fto G e)])[k]? = some (q, fto G e') := by rw [List.getElem?_append_left hkl]; exact hk
      exact absurd (hD.1 k ws.length _ _ hk2 hlast rfl) (by omega)
  refine ⟨hn, fun b x => ?_⟩
  rw [List.mem_append, List.mem_singleton]
  by_cases hb : b = q
  · subst hb
    constructor
    · rintro (hm | hm)
      · obtain ⟨e', h1, -⟩ := (h b x).mp hm
        rw [hn] at h1
        cases h1
      · exact ⟨e, fup_self f b e, (congrArg Prod.snd hm)⟩
    · rintro ⟨e', h1, h2⟩
      rw [fup_self] at h1
      cases h1
      exact Or.inr (by rw [h2])
  · rw [fup_ne f e hb]
    constructor
    · rintro (hm | hm)
      · exact (h b x).mp hm
      · exact absurd (congrArg Prod.fst hm) hb
    · intro hm
      exact Or.inl ((h b x).mpr hm)
theorem Fw.in {G : GG} {A : Nat → Prop} {f : FT} {H : Heap} (h : Fw G A f H) {a : Nat} {e : fE} (he : f a = some e) : A a ∧ a < H.size := by
  obtain ⟨ws, hP, hD, hm⟩ := h
  obtain ⟨k, hk⟩ := hm.at he
  exact ⟨hD.2 k _ hk, (hP k _ hk).lt⟩
theorem Fw.weaken {G : GG} {A B : Nat → Prop} {f : FT} {H : Heap} (h : Fw G A f H) (hAB : ∀ q, (∃ e, f q = some e) → A q → B q) : Fw G B f H := by
  obtain ⟨ws, hP, hD, hm⟩ := h
  refine ⟨ws, hP, hD.weaken (fun k q hk => ?_), hm⟩
  obtain ⟨e', h1, -⟩ := hm.of (a := q.1) (e := q.2) hk
  exact hAB q.1 ⟨e', h1⟩
theorem Fw.self {G : GG} {A : Nat → Prop} {f : FT} {H : Heap} {sz : Nat} (h : Fw G A f H) : Fw G (fA f sz) f H := h.weaken (fun _ he _ => Or.inl he)
theorem Fw.free {G : GG} {A : Nat → Prop} {f : FT} {H0 H : Heap} {locs : List Loc} (h : Fw G A f H) (hS : va_S A H0 H locs) (hA : ∀ q, H0.size ≤ q → A q) : ∀ q, fA f H.size q → A q := by
  rintro q (⟨e, he⟩ | hq)
  · exact (h.in he).1
  · exact hA q (Nat.le_trans hS.1 hq)
theorem Fw.kept {G : GG} {A : Nat → Prop} {f : FT} {H H1 : Heap} (h : Fw G A f H) (hq : ∀ q e, f q = some e → H1[q]? = H[q]?) : Fw G A f H1 := by
  obtain ⟨ws, hP, hD, hm⟩ := h
  refine ⟨ws, hP.kept (fun k q hk => ?_), hD, hm⟩
  obtain ⟨e', h1, -⟩ := hm.of (a := q.1) (e := q.2) hk
  exact hq q.1 e' h1
theorem FK.moved {G : GG} {u U : State} (hvm : u.vm.Alike U.vm) (h : FK G u) : FK G U := ⟨va_K.moved hvm h.1, h.2.moved hvm⟩
section FWR
variable {p : Program} {l : Launch} {e : Env} {R : Room} {s : State} {m : MethodId} {args : Array Value} {below : List Frame} {meth : Method} {c : Code} {H : Heap} {locs : List Loc} {cells slots : Nat} {Q : State → Prop}
variable {G : GG} {A : Nat → Prop} {H0 : Heap} {f : FT} {cc : ByteArray} {pc a : Nat} {ls : Array Slot} {rest : List Value}
theorem fw_get (hexec : p.tables.exec = Jvm.exec) (hb : c.code = cc) {own ref C : String} {T : u_T} {N ci index : Nat} {Ts : List Cond} (hts : ∀ w ∈ Ts, w.before args s = true) (hin : ∀ w ∈ u_ws C T N, w ∈ Ts) (hown : s.vm.findClass own = some m.cls) (hK : FK G s) (hF : Fw G A f H) {fs : List Value} (he : f a = some (.inr (ci, fs))) (hc : vwCl[ci]? = some (C, T, N)) (k : Nat) (hk : k < N) (hlink : (Cond.fieldLink own index ref (T k).2.1 (T k).2.2.1).before args s = true) (hsame : ∀ x, s.fieldFound? (T k).1 (T k).2.1 (T k).2.2.1 = some x → s.fieldFound? ref (T k).2.1 (T k).2.2.1 = some x) {v : Value} (hv : fs[k]? = some v) (hdg : decode cc pc = .ok (.getfield index, 3))
    (kk : W p l e R s m args below meth c H locs cells slots Q (F0 m (pc + 3) ls (v :: rest))) : W p l e R s m args below meth c H locs cells slots Q (F0 m pc ls (.ref a :: rest)) := by
  obtain ⟨ws, hP, hD, hm⟩ := hF
  obtain ⟨q0, hq⟩ := hm.at he
  exact va_get hexec hb hts hin hown hK.1 hP q0 hq hc k hk hlink hsame hv hdg kk
theorem fw_getN (hexec : p.tables.exec = Jvm.exec) (hb : c.code = cc) {own ref C host : String} {T : u_T} {N ci index : Nat} {Ts : List Cond} (hts : ∀ w ∈ Ts, w.before args s = true) (hin : ∀ w ∈ u_ws C T N, w ∈ Ts) (hown : s.vm.findClass own = some m.cls) (hK : FK G s) (hF : Fw G A f H) {fs : List Value} (he : f a = some (.inr (ci, fs))) (hc : vwCl[ci]? = some (C, T, N)) (k : Nat) (hk : k < N) (hlink : (Cond.fieldLinkNest own index ref (T k).2.1 (T k).2.2.1 host).before args s = true) (hsame : ∀ x, s.fieldFound? (T k).1 (T k).2.1 (T k).2.2.1 = some x → s.fieldFound? ref (T k).2.1 (T k).2.2.1 = some x) {v : Value} (hv : fs[k]? = some v) (hdg : decode cc pc = .ok (.getfield index, 3))
    (kk : W p l e R s m args below meth c H locs cells slots Q (F0 m (pc + 3) ls (v :: rest))) : W p l e R s m args below meth c H locs cells slots Q (F0 m pc ls (.ref a :: rest)) := by
  obtain ⟨ws, hP, hD, hm⟩ := hF
  obtain ⟨q0, hq⟩ := hm.at he
  exact va_getN hexec hb hts hin hown hK.1 hP q0 hq hc k hk hlink hsame hv hdg kk
theorem fw_put (hexec : p.tables.exec = Jvm.exec) (hb : c.code = cc) {own ref C : String} {T : u_T} {N ci index : Nat} {Ts : List Cond} (hts : ∀ w ∈ Ts, w.before args s = true) (hin : ∀ w ∈ u_ws C T N, w ∈ Ts) (ty0 : Nat → FieldType) (hty : ∀ k, k < N → parseFieldDescriptor (T k).2.2.1 = some (ty0 k)) (hnm : ∀ a, a < N → ∀ b, b < N → a ≠ b → (T a).2.1 ≠ (T b).2.1) (hown : s.vm.findClass own = some m.cls) (hK : FK G s) (hF : Fw G A f H) (hS0 : va_S A H0 H locs) {fs : List Value} (he : f a = some (.inr (ci, fs))) (hc : vwCl[ci]? = some (C, T, N)) (k : Nat) (hk : k < N) (hlink : (Cond.fieldLink own index ref (T k).2.1 (T k).2.2.1).before args s = true) (hsame : ∀ x, s.fieldFound? (T k).1 (T k).2.1 (T k).2.2.1 = some x → s.fieldFound? ref (T k).2.1 (T k).2.2.1 = some x) (hfin : (T k).2.2.2 = false) {ty : FieldType} {v : Value} (hd : parseFieldDescriptor (T k).2.2.1 = some ty) (hn : narrow ty v = v) (hfit : fits ty v = true) (hl : k < fs.length)
    (hdg : decode cc pc = .ok (.putfield index, 3)) (kk : ∀ (H1 : Heap) (locs1 : List Loc), Fw G A (fup f a (.inr (ci, fs.set k v))) H1 → va_S A H0 H1 locs1 → W p l e R s m args below meth c H1 locs1 cells slots Q (F0 m (pc + 3) ls rest)) : W p l e R s m args below meth c H locs cells slots Q (F0 m pc ls (v :: .ref a :: rest)) := by
  obtain ⟨ws, hP, hD, hm⟩ := hF
  obtain ⟨q0, hq⟩ := hm.at he
  exact va_put hexec hb hts hin ty0 hty hnm hown hK.1 hP hD hS0 q0 hq hc k hk hlink hsame hfin hd hn hfit hl hdg (fun H1 locs1 hP1 hD1 hS1 => kk H1 locs1 ⟨_, hP1, hD1, hm.set hD hq (.inr (ci, fs.set k v))⟩ hS1)
theorem fw_putN (hexec : p.tables.exec = Jvm.exec) (hb : c.code = cc) {own ref C host : String} {T : u_T} {N ci index : Nat} {Ts : List Cond} (hts : ∀ w ∈ Ts, w.before args s = true) (hin : ∀ w ∈ u_ws C T N, w ∈ Ts) (ty0 : Nat → FieldType) (hty : ∀ k, k < N → parseFieldDescriptor (T k).2.2.1 = some (ty0 k)) (hnm : ∀ a, a < N → ∀ b, b < N → a ≠ b → (T a).2.1 ≠ (T b).2.1) (hown : s.vm.findClass own = some m.cls) (hK : FK G s) (hF : Fw G A f H) (hS0 : va_S A H0 H locs) {fs : List Value} (he : f a = some (.inr (ci, fs))) (hc : vwCl[ci]? = some (C, T, N)) (k : Nat) (hk : k < N) (hlink : (Cond.fieldLinkNest own index ref (T k).2.1 (T k).2.2.1 host).before args s = true) (hsame : ∀ x, s.fieldFound? (T k).1 (T k).2.1 (T k).2.2.1 = some x → s.fieldFound? ref (T k).2.1 (T k).2.2.1 = some x) (hfin : (T k).2.2.2 = false) {ty : FieldType} {v : Value} (hd : parseFieldDescriptor (T k).2.2.1 = some ty) (hn : narrow ty v = v) (hfit : fits ty v = true) (hl : k < fs.length)
    (hdg : decode cc pc = .ok (.putfield index, 3)) (kk : ∀ (H1 : Heap) (locs1 : List Loc), Fw G A (fup f a (.inr (ci, fs.set k v))) H1 → va_S A H0 H1 locs1 → W p l e R s m args below meth c H1 locs1 cells slots Q (F0 m (pc + 3) ls rest)) : W p l e R s m args below meth c H locs cells slots Q (F0 m pc ls (v :: .ref a :: rest)) := by
  obtain ⟨ws, hP, hD, hm⟩ := hF
  obtain ⟨q0, hq⟩ := hm.at he
  exact va_putN hexec hb hts hin ty0 hty hnm hown hK.1 hP hD hS0 q0 hq hc k hk hlink hsame hfin hd hn hfit hl hdg (fun H1 locs1 hP1 hD1 hS1 => kk H1 locs1 ⟨_, hP1, hD1, hm.set hD hq (.inr (ci, fs.set k v))⟩ hS1)
theorem fw_putF (hexec : p.tables.exec = Jvm.exec) (hb : c.code = cc) {own ref C : String} {T : u_T} {N ci index : Nat} {Ts : List Cond} (hts : ∀ w ∈ Ts, w.before args s = true) (hin : ∀ w ∈ u_ws C T N, w ∈ Ts) (ty0 : Nat → FieldType) (hty : ∀ k, k < N → parseFieldDescriptor (T k).2.2.1 = some (ty0 k)) (hnm : ∀ a, a < N → ∀ b, b < N → a ≠ b → (T a).2.1 ≠ (T b).2.1) (hown : s.vm.findClass own = some m.cls) (hK : FK G s) (hF : Fw G A f H) (hS0 : va_S A H0 H locs) {fs : List Value} (he : f a = some (.inr (ci, fs))) (hc : vwCl[ci]? = some (C, T, N)) (k : Nat) (hk : k < N) (hlink : (Cond.fieldLink own index ref (T k).2.1 (T k).2.2.1).before args s = true) (hsame : ∀ x, s.fieldFound? (T k).1 (T k).2.1 (T k).2.2.1 = some x → s.fieldFound? ref (T k).2.1 (T k).2.2.1 = some x) (hfin : (T k).2.2.2 = true) (hin2 : meth.name = "<init>") (hdecl : (T k).1 = own) {ty : FieldType} {v : Value} (hd : parseFieldDescriptor (T k).2.2.1 = some ty) (hn : narrow ty v = v) (hfit : fits ty v = true) (hl : k < fs.length)
    (hdg : decode cc pc = .ok (.putfield index, 3)) (kk : ∀ (H1 : Heap) (locs1 : List Loc), Fw G A (fup f a (.inr (ci, fs.set k v))) H1 → va_S A H0 H1 locs1 → W p l e R s m args below meth c H1 locs1 cells slots Q (F0 m (pc + 3) ls rest)) : W p l e R s m args below meth c H locs cells slots Q (F0 m pc ls (v :: .ref a :: rest)) := by
  obtain ⟨ws, hP, hD, hm⟩ := hF
  obtain ⟨q0, hq⟩ := hm.at he
  exact va_putF hexec hb hts hin ty0 hty hnm hown hK.1 hP hD hS0 q0 hq hc k hk hlink hsame hfin hin2 hdecl hd hn hfit hl hdg (fun H1 locs1 hP1 hD1 hS1 => kk H1 locs1 ⟨_, hP1, hD1, hm.set hD hq (.inr (ci, fs.set k v))⟩ hS1)
theorem fw_iald (hexec : p.tables.exec = Jvm.exec) (hb : c.code = cc) (hK : FK G s) (hF : Fw G A f H) {n : Nat} {g : Nat → Int32} (he : f a = some (.inl (1, n, .inl g))) {i : Int32} (hin : vp_in i n) (hdg : decode cc pc = .ok (.iaload, 1))
    (kk : W p l e R s m args below meth c H locs cells slots Q (F0 m (pc + 1) ls (.int (g i.toNatClampNeg) :: rest))) : W p l e R s m args below meth c H locs cells slots Q (F0 m pc ls (.int i :: .ref a :: rest)) := by
  obtain ⟨ws, hP, hD, hm⟩ := hF
  obtain ⟨q0, hq⟩ := hm.at he
  exact va_iald hexec hb hK.1 hP q0 1 hq rfl hin hdg kk
theorem fw_bald (hexec : p.tables.exec = Jvm.exec) (hb : c.code = cc) (hK : FK G s) (hF : Fw G A f H) {n : Nat} {g : Nat → Int32} (he : f a = some (.inl (0, n, .inl g))) {i : Int32} (hin : vp_in i n) (hdg : decode cc pc = .ok (.baload, 1))
    (kk : W p l e R s m args below meth c H locs cells slots Q (F0 m (pc + 1) ls (.int (g i.toNatClampNeg) :: rest))) : W p l e R s m args below meth c H locs cells slots Q (F0 m pc ls (.int i :: .ref a :: rest)) := by
  obtain ⟨ws, hP, hD, hm⟩ := hF
  obtain ⟨q0, hq⟩ := hm.at he
  exact va_bald hexec hb hK.1 hP q0 0 hq rfl hin hdg kk
theorem fw_aald (hexec : p.tables.exec = Jvm.exec) (hb : c.code = cc) (hK : FK G s) (hF : Fw G A f H) {n : Nat} {g : Nat → Option Nat} (he : f a = some (.inl (2, n, .inr (.inr (.inr (.inr g)))))) {i : Int32} (hin : vp_in i n) (hdg : decode cc pc = .ok (.aaload, 1))
    (kk : W p l e R s m args below meth c H locs cells slots Q (F0 m (pc + 1) ls (va_rf (g i.toNatClampNeg) :: rest))) : W p l e R s m args below meth c H locs cells slots Q (F0 m pc ls (.int i :: .ref a :: rest)) := by
  obtain ⟨ws, hP, hD, hm⟩ := hF
  obtain ⟨q0, hq⟩ := hm.at he
  exact va_aldq hexec hb hK.1 hP q0 2 hq rfl hin hdg kk
theorem fw_iast (hexec : p.tables.exec = Jvm.exec) (hb : c.code = cc) (hK : FK G s) (hF : Fw G A f H) (hS : va_S A H0 H locs) {n : Nat} {g : Nat → Int32} (he : f a = some (.inl (1, n, .inl g))) {i x : Int32} (hin : vp_in i n) (hdg : decode cc pc = .ok (.iastore, 1))
    (kk : ∀ (H1 : Heap) (locs1 : List Loc), Fw G A (fup f a (.inl (1, n, .inl (upd g i.toNatClampNeg x)))) H1 → va_S A H0 H1 locs1 → W p l e R s m args below meth c H1 locs1 cells slots Q (F0 m (pc + 1) ls rest)) : W p l e R s m args below meth c H locs cells slots Q (F0 m pc ls (.int x :: .int i :: .ref a :: rest)) := by
  obtain ⟨ws, hP, hD, hm⟩ := hF
  obtain ⟨q0, hq⟩ := hm.at he
  exact va_iast hexec hb hK.1 hP hD hS q0 1 hq rfl hin hdg (fun H1 locs1 hP1 hD1 hS1 => kk H1 locs1 ⟨_, hP1, hD1, hm.set hD hq (.inl (1, n, .inl (upd g i.toNatClampNeg x)))⟩ hS1)
theorem fw_bast (hexec : p.tables.exec = Jvm.exec) (hb : c.code = cc) (hK : FK G s) (hF : Fw G A f H) (hS : va_S A H0 H locs) {n : Nat} {g : Nat → Int32} (he : f a = some (.inl (0, n, .inl g))) {i x : Int32} (hin : vp_in i n) (hdg : decode cc pc = .ok (.bastore, 1))
    (kk : ∀ (H1 : Heap) (locs1 : List Loc), Fw G A (fup f a (.inl (0, n, .inl (upd g i.toNatClampNeg (vp_nar .byte x))))) H1 → va_S A H0 H1 locs1 → W p l e R s m args below meth c H1 locs1 cells slots Q (F0 m (pc + 1) ls rest)) : W p l e R s m args below meth c H locs cells slots Q (F0 m pc ls (.int x :: .int i :: .ref a :: rest)) := by
  obtain ⟨ws, hP, hD, hm⟩ := hF
  obtain ⟨q0, hq⟩ := hm.at he
  exact va_bast hexec hb hK.1 hP hD hS q0 0 hq rfl hin hdg (fun H1 locs1 hP1 hD1 hS1 => kk H1 locs1 ⟨_, hP1, hD1, hm.set hD hq (.inl (0, n, .inl (upd g i.toNatClampNeg (vp_nar .byte x))))⟩ hS1)
theorem fw_alen (hexec : p.tables.exec = Jvm.exec) (hb : c.code = cc) (hK : FK G s) (hF : Fw G A f H) {k : Nat} {x : vp_A} (he : f a = some (.inl (k, x))) (hk : k < 4) (hdg : decode cc pc = .ok (.arraylength, 1))
    (kk : W p l e R s m args below meth c H locs cells slots Q (F0 m (pc + 1) ls (.int (Int32.ofNat x.1) :: rest))) : W p l e R s m args below meth c H locs cells slots Q (F0 m pc ls (.ref a :: rest)) := by
  obtain ⟨ws, hP, hD, hm⟩ := hF
  obtain ⟨q0, hq⟩ := hm.at he
  have ht : ∃ ty, (fTys G)[k]? = some (G.2.1 k, ty) := by
    match k, hk with
    | 0, _ => exact ⟨_, rfl⟩
    | 1, _ => exact ⟨_, rfl⟩
    | 2, _ => exact ⟨_, rfl⟩
    | 3, _ => exact ⟨_, rfl⟩
  obtain ⟨ty, ht⟩ := ht
  exact va_alen hexec hb hK.1 hP q0 k hq ht rfl hdg kk
theorem fw_new (hexec : p.tables.exec = Jvm.exec) (hb : c.code = cc) {own C : String} {T : u_T} {N ci index : Nat} {Ts : List Cond} (hts : ∀ w ∈ Ts, w.before args s = true) (hin : ∀ w ∈ u_ws C T N, w ∈ Ts) (ty : Nat → FieldType) (hty : ∀ k, k < N → parseFieldDescriptor (T k).2.2.1 = some (ty k)) (hown : s.vm.findClass own = some m.cls) (hcl : (Cond.classLink own index C).before args s = true) (hinst : (Cond.instantiable C N).before args s = true) (hini : (Cond.initialized C).before args s = true)
    (hK : FK G s) (hF : Fw G A f H) (hS : va_S A H0 H locs) (hA : ∀ q, H0.size ≤ q → A q) (hc : vwCl[ci]? = some (C, T, N)) {fs : List Value} (hfs : ∀ j, j < N → defaultValue (ty j) = vp_V fs j) (hcells : cells + 1 ≤ R.cells) (hslots : slots + N ≤ R.slots) (hdg : decode cc pc = .ok (.new index, 3))
    (kk : ∀ (q : Nat) (H1 : Heap), f q = none → Fw G A (fup f q (.inr (ci, fs))) H1 → va_S A H0 H1 locs →
      W p l e R s m args below meth c H1 locs (cells + 1) (slots + N) Q (F0 m (pc + 3) ls (.ref q :: rest))) : W p l e R s m args below meth c H locs cells slots Q (F0 m pc ls rest) := by
  obtain ⟨ws, hP, hD, hm⟩ := hF
  refine va_new hexec hb hts hin ty hty hown hcl hinst hini hK.1 hP hD hS hA hc hfs hcells hslots hdg (fun q H1 hP1 hD1 hS1 => ?_)
  obtain ⟨hn, hm1⟩ := hm.push (.inr (ci, fs)) hD1
  exact kk q H1 hn ⟨_, hP1, hD1, hm1⟩ hS1
theorem fw_newa (hexec : p.tables.exec = Jvm.exec) (hb : c.code = cc) {atype : ArrayType} (harr : (Cond.arrayClass (newarray.typeOf atype)).before args s = true) {ty : FieldType} (hty : newarray.typeOf atype = ty) (t : Nat) (ht : (fTys G)[t]? = some (G.2.1 t, ty)) (hpr : ∀ (c1 c2 : ClassId), va_RA s c1 ty → va_RA s c2 ty → c1 = c2) (hK : FK G s) (hF : Fw G A f H) (hS : va_S A H0 H locs) (hA : ∀ q, H0.size ≤ q → A q)
    {n : Int32} {N' : Nat} {a0 : vp_A} (ha : ∀ cA : ClassId, vp_cell cA a0 = arrV cA N' (fun _ => defaultValue ty)) (hn : ¬ n < 0) (hN : n.toNatClampNeg = N') (hbytes : N' * componentBytes ty ≤ 536870912) (hcells : cells + 1 ≤ R.cells) (hslots : slots + N' ≤ R.slots) (hdg : decode cc pc = .ok (.newarray atype, 2))
    (kk : ∀ (q : Nat) (H1 : Heap), f q = none → Fw G A (fup f q (.inl (t, a0))) H1 → va_S A H0 H1 locs →
      W p l e R s m args below meth c H1 locs (cells + 1) (slots + N') Q (F0 m (pc + 2) ls (.ref q :: rest))) : W p l e R s m args below meth c H locs cells slots Q (F0 m pc ls (.int n :: rest)) := by
  obtain ⟨ws, hP, hD, hm⟩ := hF
  refine va_newa hexec hb harr hty hK.1 hP hD hS hA ha hn hN hbytes hcells hslots hdg (fun q cA H1 hK1 hP1 hD1 hS1 => ?_)
  have hlast : (fTys G ++ [(cA, ty)])[4]? = some (cA, ty) := rfl
  have e9 : cA = G.2.1 t := hpr _ _ (hK1.2 4 _ hlast).2 (hK.1.2 t _ ht).2
  subst e9
  obtain ⟨hn1, hm1⟩ := hm.push (.inl (t, a0)) hD1
  exact kk q H1 hn1 ⟨_, hP1, hD1, hm1⟩ hS1
end FWR
theorem va_RA_int {s : State} (c1 c2 : ClassId) (h1 : va_RA s c1 .int) (h2 : va_RA s c2 .int) : c1 = c2 := Option.some.inj (h1.symm.trans h2)
theorem va_RA_byte {s : State} (c1 c2 : ClassId) (h1 : va_RA s c1 .byte) (h2 : va_RA s c2 .byte) : c1 = c2 := Option.some.inj (h1.symm.trans h2)
theorem va_RA_long {s : State} (c1 c2 : ClassId) (h1 : va_RA s c1 .long) (h2 : va_RA s c2 .long) : c1 = c2 := Option.some.inj (h1.symm.trans h2)
def FP (G : GG) (as : List Value) (f : FT) (sz : Nat) : Array Value → State → Prop := va_Pc as (fun U => U.heap.size = sz ∧ Fw G (fun _ => True) f U.heap ∧ FK G U ∧ FZ G (fA f sz) U U.heap)
def FB (G : GG) (A : Nat → Prop) : FT → State → Prop := fun f t => Fw G A f t.heap ∧ FK G t
theorem FP.blind {G : GG} {as : List Value} {f : FT} {sz : Nat} : FrameBlind (FP G as f sz) := fun a U g mk q => by
  obtain ⟨q0, q1, qP, qK, qZ⟩ := q
  exact ⟨q0, q1, qP, FK.moved (u := U) (U := U.calling g mk a) (Vm.Alike.refl U.vm) qK, va_Z.moved (u := U) (U := U.calling g mk a) (Vm.Alike.refl U.vm) qZ.1, FN.same (u := U) (U := U.calling g mk a) rfl qZ.2.1, va_T.moved (u := U) (U := U.calling g mk a) (Vm.Alike.refl U.vm) qZ.2.2.1, qZ.2.2.2⟩
theorem FP.go {G : GG} {A : Nat → Prop} {as : List Value} {f : FT} {H : Heap} {locs : List Loc} {s : State} (hF : Fw G A f H) (hK : FK G s) (hZ : FZ G A s s.heap) (hS : va_S A s.heap H locs) (hfr : ∀ q, fA f H.size q → A q) : ∀ U : State, U.heap = H → s.WarmedH U.vm → FP G as f H.size as.toArray U := fun U hU hW => ⟨rfl, by rw [hU], by rw [hU]; exact hF.weaken (fun _ _ _ => trivial), FK.moved hW.alike hK, by rw [hU]; exact va_Z.moved hW.alike ((va_Z.kept hZ.1 (fun a h1 h2 => hS.2.1 a h1 h2)).narrow hfr), FN.warm hW hZ.2.1, by rw [hU]; exact ⟨va_T.moved hW.alike ((va_T.kept hZ.2.2.1 (fun a h1 h2 => hS.2.1 a h1 h2)).narrow hfr), fun h9 => hZ.2.2.2 (hfr _ h9)⟩⟩
theorem Fw.recv {G : GG} {A : Nat → Prop} {f : FT} {H : Heap} {s : State} (hK : FK G s) (hF : Fw G A f H) {b ci : Nat} {q : vw_C} {fs : List Value} (hc : vwCl[ci]? = some q) (he : f b = some (.inr (ci, fs))) : ∃ cell : Cell, H[b]? = some cell ∧ cell.vm.isStatics = false ∧ s.vm.findClass q.1 = some cell.cls := by
  obtain ⟨ws, hP, hD, hm⟩ := hF
  obtain ⟨q0, hq⟩ := hm.at he
  exact va_recv hK.1 hP hc hq
section FWC
variable {p : Program} {l : Launch} {e : Env} {R : Room} {s : State} {m : MethodId} {args : Array Value} {below : List Frame} {meth : Method} {c : Code} {H : Heap} {locs : List Loc} {cells slots : Nat} {Q : State → Prop}
variable {G : GG} {A : Nat → Prop} {H0 : Heap} {f : FT} {cc : ByteArray} {pc : Nat} {ls : Array Slot} {rest st0 As : List Value}
variable {y : MethodName} {bytes : ByteArray} {maxL nL mc ms n index : Nat} {ret : Option FieldType} {ws : List Cond} {rm : Room} {Ts : List Cond} {own C : String} {b : Addr}
theorem fw_cV_i (S : CallFix p m c cc nL s args Ts own) {post : Int32 → FT → Prop} (hM : Met l y ws rm (FP G (.ref b :: As) f H.size) (va_Qi post (FB G (fA f H.size)) (fA f H.size)) mc ms (fA f H.size)) (cw : CallW R s args own C index y bytes maxL ret ws rm mc ms n) {ci : Nat} {fs : List Value} {T : u_T} {N : Nat} (hc : vwCl[ci]? = some (C, T, N)) (he : f b = some (.inr (ci, fs))) (hK : FK G s) (hZ : FZ G A s s.heap) (hF : Fw G A f H) (hS : va_S A s.heap H locs) (hA : ∀ q, s.heap.size ≤ q → A q) (hn : As.length = n) (hsize : ls.size = nL) (hst : st0 = As.reverse ++ .ref b :: rest) (hW : (rest.map fun v => v.category).sum ≤ 8) (hdg : decode cc pc = .ok (.invokevirtual index, 3)) (hf : cells + mc ≤ R.cells ∧ slots + ms ≤ R.slots)
    (kk : ∀ (r : Int32) (f1 : FT) (H1 : Heap) (locs1 : List Loc), post r f1 → Fw G A f1 H1 → va_S A s.heap H1 locs1 → W p l e R s m args below meth c H1 locs1 (cells + mc) (slots + ms) Q (F0 m (pc + 3) ls (.int r :: rest))) : W p l e R s m args below meth c H locs cells slots Q (F0 m pc ls st0) := by
  have hfr := hF.free hS hA
  refine va_calli (va_runV S hM cw ⟨FP.blind, Fw.recv hK hF hc he, FP.go hF hK hZ hS hfr⟩ rfl hn hsize hst (lv_room hW) hdg hf) hS (fun q _ h => hfr q h) hfr (fun r u t H1 locs1 ht hvm hw hB hz1 hk1 hS1 => ?_)
  exact kk r u H1 locs1 hw (by rw [← ht]; exact hB.1.weaken (fun q _ h => hfr q h)) hS1
theorem fw_cV_l (S : CallFix p m c cc nL s args Ts own) {post : Int64 → FT → Prop} (hM : Met l y ws rm (FP G (.ref b :: As) f H.size) (va_Ql post (FB G (fA f H.size)) (fA f H.size)) mc ms (fA f H.size)) (cw : CallW R s args own C index y bytes maxL ret ws rm mc ms n) {ci : Nat} {fs : List Value} {T : u_T} {N : Nat} (hc : vwCl[ci]? = some (C, T, N)) (he : f b = some (.inr (ci, fs))) (hK : FK G s) (hZ : FZ G A s s.heap) (hF : Fw G A f H) (hS : va_S A s.heap H locs) (hA : ∀ q, s.heap.size ≤ q → A q) (hn : As.length = n) (hsize : ls.size = nL) (hst : st0 = As.reverse ++ .ref b :: rest) (hW : (rest.map fun v => v.category).sum ≤ 8) (hdg : decode cc pc = .ok (.invokevirtual index, 3)) (hf : cells + mc ≤ R.cells ∧ slots + ms ≤ R.slots)
    (kk : ∀ (r : Int64) (f1 : FT) (H1 : Heap) (locs1 : List Loc), post r f1 → Fw G A f1 H1 → va_S A s.heap H1 locs1 → W p l e R s m args below meth c H1 locs1 (cells + mc) (slots + ms) Q (F0 m (pc + 3) ls (.long r :: rest))) : W p l e R s m args below meth c H locs cells slots Q (F0 m pc ls st0) := by
  have hfr := hF.free hS hA
  refine va_calll (va_runV S hM cw ⟨FP.blind, Fw.recv hK hF hc he, FP.go hF hK hZ hS hfr⟩ rfl hn hsize hst (lv_room hW) hdg hf) hS (fun q _ h => hfr q h) hfr (fun r u t H1 locs1 ht hvm hw hB hz1 hk1 hS1 => ?_)
  exact kk r u H1 locs1 hw (by rw [← ht]; exact hB.1.weaken (fun q _ h => hfr q h)) hS1
theorem fw_cV_v (S : CallFix p m c cc nL s args Ts own) {post : FT → Prop} (hM : Met l y ws rm (FP G (.ref b :: As) f H.size) (va_Qv post (FB G (fA f H.size)) (fA f H.size)) mc ms (fA f H.size)) (cw : CallW R s args own C index y bytes maxL ret ws rm mc ms n) {ci : Nat} {fs : List Value} {T : u_T} {N : Nat} (hc : vwCl[ci]? = some (C, T, N)) (he : f b = some (.inr (ci, fs))) (hK : FK G s) (hZ : FZ G A s s.heap) (hF : Fw G A f H) (hS : va_S A s.heap H locs) (hA : ∀ q, s.heap.size ≤ q → A q) (hn : As.length = n) (hsize : ls.size = nL) (hst : st0 = As.reverse ++ .ref b :: rest) (hW : (rest.map fun v => v.category).sum ≤ 8) (hdg : decode cc pc = .ok (.invokevirtual index, 3)) (hf : cells + mc ≤ R.cells ∧ slots + ms ≤ R.slots)
    (kk : ∀ (f1 : FT) (H1 : Heap) (locs1 : List Loc), post f1 → Fw G A f1 H1 → va_S A s.heap H1 locs1 → W p l e R s m args below meth c H1 locs1 (cells + mc) (slots + ms) Q (F0 m (pc + 3) ls (rest))) : W p l e R s m args below meth c H locs cells slots Q (F0 m pc ls st0) := by
  have hfr := hF.free hS hA
  refine va_callv (va_runV S hM cw ⟨FP.blind, Fw.recv hK hF hc he, FP.go hF hK hZ hS hfr⟩ rfl hn hsize hst (lv_room hW) hdg hf) hS (fun q _ h => hfr q h) hfr (fun u t H1 locs1 ht hvm hw hB hz1 hk1 hS1 => ?_)
  exact kk u H1 locs1 hw (by rw [← ht]; exact hB.1.weaken (fun q _ h => hfr q h)) hS1
theorem fw_cV_q (S : CallFix p m c cc nL s args Ts own) {post : Option Nat → FT → Prop} (hM : Met l y ws rm (FP G (.ref b :: As) f H.size) (va_Qq post (FB G (fA f H.size)) (fA f H.size)) mc ms (fA f H.size)) (cw : CallW R s args own C index y bytes maxL ret ws rm mc ms n) {ci : Nat} {fs : List Value} {T : u_T} {N : Nat} (hc : vwCl[ci]? = some (C, T, N)) (he : f b = some (.inr (ci, fs))) (hK : FK G s) (hZ : FZ G A s s.heap) (hF : Fw G A f H) (hS : va_S A s.heap H locs) (hA : ∀ q, s.heap.size ≤ q → A q) (hn : As.length = n) (hsize : ls.size = nL) (hst : st0 = As.reverse ++ .ref b :: rest) (hW : (rest.map fun v => v.category).sum ≤ 8) (hdg : decode cc pc = .ok (.invokevirtual index, 3)) (hf : cells + mc ≤ R.cells ∧ slots + ms ≤ R.slots)
    (kk : ∀ (r : Option Nat) (f1 : FT) (H1 : Heap) (locs1 : List Loc), post r f1 → Fw G A f1 H1 → va_S A s.heap H1 locs1 → W p l e R s m args below meth c H1 locs1 (cells + mc) (slots + ms) Q (F0 m (pc + 3) ls (va_rf r :: rest))) : W p l e R s m args below meth c H locs cells slots Q (F0 m pc ls st0) := by
  have hfr := hF.free hS hA
  refine va_callq (va_runV S hM cw ⟨FP.blind, Fw.recv hK hF hc he, FP.go hF hK hZ hS hfr⟩ rfl hn hsize hst (lv_room hW) hdg hf) hS (fun q _ h => hfr q h) hfr (fun r u t H1 locs1 ht hvm hw hB hz1 hk1 hS1 => ?_)
  exact kk r u H1 locs1 hw (by rw [← ht]; exact hB.1.weaken (fun q _ h => hfr q h)) hS1
theorem fw_cS_i (S : CallFix p m c cc nL s args Ts own) {post : Int32 → FT → Prop} (hM : Met l y ws rm (FP G (As) f H.size) (va_Qi post (FB G (fA f H.size)) (fA f H.size)) mc ms (fA f H.size)) (cw : CallB R s args own index y bytes maxL ret ws rm mc ms n ∧ (Cond.static y).before args s = true) (hK : FK G s) (hZ : FZ G A s s.heap) (hF : Fw G A f H) (hS : va_S A s.heap H locs) (hA : ∀ q, s.heap.size ≤ q → A q) (hn : As.length = n) (hsize : ls.size = nL) (hst : st0 = As.reverse ++ rest) (hW : (rest.map fun v => v.category).sum ≤ 8) (hdg : decode cc pc = .ok (.invokestatic index, 3)) (hf : cells + mc ≤ R.cells ∧ slots + ms ≤ R.slots)
    (kk : ∀ (r : Int32) (f1 : FT) (H1 : Heap) (locs1 : List Loc), post r f1 → Fw G A f1 H1 → va_S A s.heap H1 locs1 → W p l e R s m args below meth c H1 locs1 (cells + mc) (slots + ms) Q (F0 m (pc + 3) ls (.int r :: rest))) : W p l e R s m args below meth c H locs cells slots Q (F0 m pc ls st0) := by
  have hfr := hF.free hS hA
  refine va_calli (va_runS S hM cw ⟨FP.blind, FP.go hF hK hZ hS hfr⟩ rfl hn hsize hst (lv_room hW) hdg hf) hS (fun q _ h => hfr q h) hfr (fun r u t H1 locs1 ht hvm hw hB hz1 hk1 hS1 => ?_)
  exact kk r u H1 locs1 hw (by rw [← ht]; exact hB.1.weaken (fun q _ h => hfr q h)) hS1
theorem fw_cS_l (S : CallFix p m c cc nL s args Ts own) {post : Int64 → FT → Prop} (hM : Met l y ws rm (FP G (As) f H.size) (va_Ql post (FB G (fA f H.size)) (fA f H.size)) mc ms (fA f H.size)) (cw : CallB R s args own index y bytes maxL ret ws rm mc ms n ∧ (Cond.static y).before args s = true) (hK : FK G s) (hZ : FZ G A s s.heap) (hF : Fw G A f H) (hS : va_S A s.heap H locs) (hA : ∀ q, s.heap.size ≤ q → A q) (hn : As.length = n) (hsize : ls.size = nL) (hst : st0 = As.reverse ++ rest) (hW : (rest.map fun v => v.category).sum ≤ 8) (hdg : decode cc pc = .ok (.invokestatic index, 3)) (hf : cells + mc ≤ R.cells ∧ slots + ms ≤ R.slots)
    (kk : ∀ (r : Int64) (f1 : FT) (H1 : Heap) (locs1 : List Loc), post r f1 → Fw G A f1 H1 → va_S A s.heap H1 locs1 → W p l e R s m args below meth c H1 locs1 (cells + mc) (slots + ms) Q (F0 m (pc + 3) ls (.long r :: rest))) : W p l e R s m args below meth c H locs cells slots Q (F0 m pc ls st0) := by
  have hfr := hF.free hS hA
  refine va_calll (va_runS S hM cw ⟨FP.blind, FP.go hF hK hZ hS hfr⟩ rfl hn hsize hst (lv_room hW) hdg hf) hS (fun q _ h => hfr q h) hfr (fun r u t H1 locs1 ht hvm hw hB hz1 hk1 hS1 => ?_)
  exact kk r u H1 locs1 hw (by rw [← ht]; exact hB.1.weaken (fun q _ h => hfr q h)) hS1
theorem fw_cS_v (S : CallFix p m c cc nL s args Ts own) {post : FT → Prop} (hM : Met l y ws rm (FP G (As) f H.size) (va_Qv post (FB G (fA f H.size)) (fA f H.size)) mc ms (fA f H.size)) (cw : CallB R s args own index y bytes maxL ret ws rm mc ms n ∧ (Cond.static y).before args s = true) (hK : FK G s) (hZ : FZ G A s s.heap) (hF : Fw G A f H) (hS : va_S A s.heap H locs) (hA : ∀ q, s.heap.size ≤ q → A q) (hn : As.length = n) (hsize : ls.size = nL) (hst : st0 = As.reverse ++ rest) (hW : (rest.map fun v => v.category).sum ≤ 8) (hdg : decode cc pc = .ok (.invokestatic index, 3)) (hf : cells + mc ≤ R.cells ∧ slots + ms ≤ R.slots)
    (kk : ∀ (f1 : FT) (H1 : Heap) (locs1 : List Loc), post f1 → Fw G A f1 H1 → va_S A s.heap H1 locs1 → W p l e R s m args below meth c H1 locs1 (cells + mc) (slots + ms) Q (F0 m (pc + 3) ls (rest))) : W p l e R s m args below meth c H locs cells slots Q (F0 m pc ls st0) := by
  have hfr := hF.free hS hA
  refine va_callv (va_runS S hM cw ⟨FP.blind, FP.go hF hK hZ hS hfr⟩ rfl hn hsize hst (lv_room hW) hdg hf) hS (fun q _ h => hfr q h) hfr (fun u t H1 locs1 ht hvm hw hB hz1 hk1 hS1 => ?_)
  exact kk u H1 locs1 hw (by rw [← ht]; exact hB.1.weaken (fun q _ h => hfr q h)) hS1
theorem fw_cS_q (S : CallFix p m c cc nL s args Ts own) {post : Option Nat → FT → Prop} (hM : Met l y ws rm (FP G (As) f H.size) (va_Qq post (FB G (fA f H.size)) (fA f H.size)) mc ms (fA f H.size)) (cw : CallB R s args own index y bytes maxL ret ws rm mc ms n ∧ (Cond.static y).before args s = true) (hK : FK G s) (hZ : FZ G A s s.heap) (hF : Fw G A f H) (hS : va_S A s.heap H locs) (hA : ∀ q, s.heap.size ≤ q → A q) (hn : As.length = n) (hsize : ls.size = nL) (hst : st0 = As.reverse ++ rest) (hW : (rest.map fun v => v.category).sum ≤ 8) (hdg : decode cc pc = .ok (.invokestatic index, 3)) (hf : cells + mc ≤ R.cells ∧ slots + ms ≤ R.slots)
    (kk : ∀ (r : Option Nat) (f1 : FT) (H1 : Heap) (locs1 : List Loc), post r f1 → Fw G A f1 H1 → va_S A s.heap H1 locs1 → W p l e R s m args below meth c H1 locs1 (cells + mc) (slots + ms) Q (F0 m (pc + 3) ls (va_rf r :: rest))) : W p l e R s m args below meth c H locs cells slots Q (F0 m pc ls st0) := by
  have hfr := hF.free hS hA
  refine va_callq (va_runS S hM cw ⟨FP.blind, FP.go hF hK hZ hS hfr⟩ rfl hn hsize hst (lv_room hW) hdg hf) hS (fun q _ h => hfr q h) hfr (fun r u t H1 locs1 ht hvm hw hB hz1 hk1 hS1 => ?_)
  exact kk r u H1 locs1 hw (by rw [← ht]; exact hB.1.weaken (fun q _ h => hfr q h)) hS1
theorem fw_cI_v (S : CallFix p m c cc nL s args Ts own) {post : FT → Prop} (hM : Met l y ws rm (FP G (.ref b :: As) f H.size) (va_Qv post (FB G (fA f H.size)) (fA f H.size)) mc ms (fA f H.size)) (cw : CallB R s args own index y bytes maxL none ws rm mc ms n ∧ y.name = "<init>" ∧ (Cond.instanceMethod y).before args s = true) (hK : FK G s) (hZ : FZ G A s s.heap) (hF : Fw G A f H) (hS : va_S A s.heap H locs) (hA : ∀ q, s.heap.size ≤ q → A q) (hn : As.length = n) (hsize : ls.size = nL) (hst : st0 = As.reverse ++ .ref b :: rest) (hW : (rest.map fun v => v.category).sum ≤ 8) (hdg : decode cc pc = .ok (.invokespecial index, 3)) (hf : cells + mc ≤ R.cells ∧ slots + ms ≤ R.slots)
    (kk : ∀ (f1 : FT) (H1 : Heap) (locs1 : List Loc), post f1 → Fw G A f1 H1 → va_S A s.heap H1 locs1 → W p l e R s m args below meth c H1 locs1 (cells + mc) (slots + ms) Q (F0 m (pc + 3) ls (rest))) : W p l e R s m args below meth c H locs cells slots Q (F0 m pc ls st0) := by
  have hfr := hF.free hS hA
  refine va_callv (va_runI S hM cw ⟨FP.blind, FP.go hF hK hZ hS hfr⟩ rfl hn hsize hst (lv_room hW) hdg hf) hS (fun q _ h => hfr q h) hfr (fun u t H1 locs1 ht hvm hw hB hz1 hk1 hS1 => ?_)
  exact kk u H1 locs1 hw (by rw [← ht]; exact hB.1.weaken (fun q _ h => hfr q h)) hS1
theorem fw_cV_i_p (S : CallFix p m c cc nL s args Ts own) {K : Int32 → Prop} (hM : Met l y ws rm (FP G (.ref b :: As) f H.size) (va_Qi (fun r f9 => K r ∧ f9 = f : Int32 → FT → Prop) (FB G (fA f H.size)) (fA f H.size)) mc ms (fA f H.size)) (cw : CallW R s args own C index y bytes maxL ret ws rm mc ms n) {ci : Nat} {fs : List Value} {T : u_T} {N : Nat} (hc : vwCl[ci]? = some (C, T, N)) (he : f b = some (.inr (ci, fs))) (hK : FK G s) (hZ : FZ G A s s.heap) (hF : Fw G A f H) (hS : va_S A s.heap H locs) (hA : ∀ q, s.heap.size ≤ q → A q) (hn : As.length = n) (hsize : ls.size = nL) (hst : st0 = As.reverse ++ .ref b :: rest) (hW : (rest.map fun v => v.category).sum ≤ 8) (hdg : decode cc pc = .ok (.invokevirtual index, 3)) (hf : cells + mc ≤ R.cells ∧ slots + ms ≤ R.slots)
    (kk : ∀ (r : Int32) (H1 : Heap) (locs1 : List Loc), K r → Fw G A f H1 → va_S A s.heap H1 locs1 → W p l e R s m args below meth c H1 locs1 (cells + mc) (slots + ms) Q (F0 m (pc + 3) ls (.int r :: rest))) : W p l e R s m args below meth c H locs cells slots Q (F0 m pc ls st0) := by
  refine fw_cV_i S hM cw hc he hK hZ hF hS hA hn hsize hst hW hdg hf (fun r f1 H1 locs1 hp hF1 hS1 => ?_)
  obtain ⟨hp, rfl⟩ := hp
  exact kk r H1 locs1 hp hF1 hS1
theorem fw_cV_l_p (S : CallFix p m c cc nL s args Ts own) {K : Int64 → Prop} (hM : Met l y ws rm (FP G (.ref b :: As) f H.size) (va_Ql (fun r f9 => K r ∧ f9 = f : Int64 → FT → Prop) (FB G (fA f H.size)) (fA f H.size)) mc ms (fA f H.size)) (cw : CallW R s args own C index y bytes maxL ret ws rm mc ms n) {ci : Nat} {fs : List Value} {T : u_T} {N : Nat} (hc : vwCl[ci]? = some (C, T, N)) (he : f b = some (.inr (ci, fs))) (hK : FK G s) (hZ : FZ G A s s.heap) (hF : Fw G A f H) (hS : va_S A s.heap H locs) (hA : ∀ q, s.heap.size ≤ q → A q) (hn : As.length = n) (hsize : ls.size = nL) (hst : st0 = As.reverse ++ .ref b :: rest) (hW : (rest.map fun v => v.category).sum ≤ 8) (hdg : decode cc pc = .ok (.invokevirtual index, 3)) (hf : cells + mc ≤ R.cells ∧ slots + ms ≤ R.slots)
    (kk : ∀ (r : Int64) (H1 : Heap) (locs1 : List Loc), K r → Fw G A f H1 → va_S A s.heap H1 locs1 → W p l e R s m args below meth c H1 locs1 (cells + mc) (slots + ms) Q (F0 m (pc + 3) ls (.long r :: rest))) : W p l e R s m args below meth c H locs cells slots Q (F0 m pc ls st0) := by
  refine fw_cV_l S hM cw hc he hK hZ hF hS hA hn hsize hst hW hdg hf (fun r f1 H1 locs1 hp hF1 hS1 => ?_)
  obtain ⟨hp, rfl⟩ := hp
  exact kk r H1 locs1 hp hF1 hS1
theorem fw_cV_v_p (S : CallFix p m c cc nL s args Ts own) {K : Prop} (hM : Met l y ws rm (FP G (.ref b :: As) f H.size) (va_Qv (fun f9 => K ∧ f9 = f : FT → Prop) (FB G (fA f H.size)) (fA f H.size)) mc ms (fA f H.size)) (cw : CallW R s args own C index y bytes maxL ret ws rm mc ms n) {ci : Nat} {fs : List Value} {T : u_T} {N : Nat} (hc : vwCl[ci]? = some (C, T, N)) (he : f b = some (.inr (ci, fs))) (hK : FK G s) (hZ : FZ G A s s.heap) (hF : Fw G A f H) (hS : va_S A s.heap H locs) (hA : ∀ q, s.heap.size ≤ q → A q) (hn : As.length = n) (hsize : ls.size = nL) (hst : st0 = As.reverse ++ .ref b :: rest) (hW : (rest.map fun v => v.category).sum ≤ 8) (hdg : decode cc pc = .ok (.invokevirtual index, 3)) (hf : cells + mc ≤ R.cells ∧ slots + ms ≤ R.slots)
    (kk : ∀ (H1 : Heap) (locs1 : List Loc), K → Fw G A f H1 → va_S A s.heap H1 locs1 → W p l e R s m args below meth c H1 locs1 (cells + mc) (slots + ms) Q (F0 m (pc + 3) ls (rest))) : W p l e R s m args below meth c H locs cells slots Q (F0 m pc ls st0) := by
  refine fw_cV_v S hM cw hc he hK hZ hF hS hA hn hsize hst hW hdg hf (fun f1 H1 locs1 hp hF1 hS1 => ?_)
  obtain ⟨hp, rfl⟩ := hp
  exact kk H1 locs1 hp hF1 hS1
theorem fw_cV_q_p (S : CallFix p m c cc nL s args Ts own) {K : Nat → Prop} (hM : Met l y ws rm (FP G (.ref b :: As) f H.size) (va_Qq (fun r f9 => ∃ q, r = some q ∧ K q ∧ f9 = f : Option Nat → FT → Prop) (FB G (fA f H.size)) (fA f H.size)) mc ms (fA f H.size)) (cw : CallW R s args own C index y bytes maxL ret ws rm mc ms n) {ci : Nat} {fs : List Value} {T : u_T} {N : Nat} (hc : vwCl[ci]? = some (C, T, N)) (he : f b = some (.inr (ci, fs))) (hK : FK G s) (hZ : FZ G A s s.heap) (hF : Fw G A f H) (hS : va_S A s.heap H locs) (hA : ∀ q, s.heap.size ≤ q → A q) (hn : As.length = n) (hsize : ls.size = nL) (hst : st0 = As.reverse ++ .ref b :: rest) (hW : (rest.map fun v => v.category).sum ≤ 8) (hdg : decode cc pc = .ok (.invokevirtual index, 3)) (hf : cells + mc ≤ R.cells ∧ slots + ms ≤ R.slots)
    (kk : ∀ (r : Nat) (H1 : Heap) (locs1 : List Loc), K r → Fw G A f H1 → va_S A s.heap H1 locs1 → W p l e R s m args below meth c H1 locs1 (cells + mc) (slots + ms) Q (F0 m (pc + 3) ls (.ref r :: rest))) : W p l e R s m args below meth c H locs cells slots Q (F0 m pc ls st0) := by
  refine fw_cV_q S hM cw hc he hK hZ hF hS hA hn hsize hst hW hdg hf (fun r f1 H1 locs1 hp hF1 hS1 => ?_)
  obtain ⟨q, rfl, hp, rfl⟩ := hp
  exact kk q H1 locs1 hp hF1 hS1
theorem fw_cV_q_w (S : CallFix p m c cc nL s args Ts own) {K : Nat → FT → Prop} (hM : Met l y ws rm (FP G (.ref b :: As) f H.size) (va_Qq (fun r f9 => ∃ q, r = some q ∧ K q f9 : Option Nat → FT → Prop) (FB G (fA f H.size)) (fA f H.size)) mc ms (fA f H.size)) (cw : CallW R s args own C index y bytes maxL ret ws rm mc ms n) {ci : Nat} {fs : List Value} {T : u_T} {N : Nat} (hc : vwCl[ci]? = some (C, T, N)) (he : f b = some (.inr (ci, fs))) (hK : FK G s) (hZ : FZ G A s s.heap) (hF : Fw G A f H) (hS : va_S A s.heap H locs) (hA : ∀ q, s.heap.size ≤ q → A q) (hn : As.length = n) (hsize : ls.size = nL) (hst : st0 = As.reverse ++ .ref b :: rest) (hW : (rest.map fun v => v.category).sum ≤ 8) (hdg : decode cc pc = .ok (.invokevirtual index, 3)) (hf : cells + mc ≤ R.cells ∧ slots + ms ≤ R.slots)
    (kk : ∀ (r : Nat) (f1 : FT) (H1 : Heap) (locs1 : List Loc), K r f1 → Fw G A f1 H1 → va_S A s.heap H1 locs1 → W p l e R s m args below meth c H1 locs1 (cells + mc) (slots + ms) Q (F0 m (pc + 3) ls (.ref r :: rest))) : W p l e R s m args below meth c H locs cells slots Q (F0 m pc ls st0) := by
  refine fw_cV_q S hM cw hc he hK hZ hF hS hA hn hsize hst hW hdg hf (fun r f1 H1 locs1 hp hF1 hS1 => ?_)
  obtain ⟨q, rfl, hp⟩ := hp
  exact kk q f1 H1 locs1 hp hF1 hS1
theorem fw_cS_i_p (S : CallFix p m c cc nL s args Ts own) {K : Int32 → Prop} (hM : Met l y ws rm (FP G (As) f H.size) (va_Qi (fun r f9 => K r ∧ f9 = f : Int32 → FT → Prop) (FB G (fA f H.size)) (fA f H.size)) mc ms (fA f H.size)) (cw : CallB R s args own index y bytes maxL ret ws rm mc ms n ∧ (Cond.static y).before args s = true) (hK : FK G s) (hZ : FZ G A s s.heap) (hF : Fw G A f H) (hS : va_S A s.heap H locs) (hA : ∀ q, s.heap.size ≤ q → A q) (hn : As.length = n) (hsize : ls.size = nL) (hst : st0 = As.reverse ++ rest) (hW : (rest.map fun v => v.category).sum ≤ 8) (hdg : decode cc pc = .ok (.invokestatic index, 3)) (hf : cells + mc ≤ R.cells ∧ slots + ms ≤ R.slots)
    (kk : ∀ (r : Int32) (H1 : Heap) (locs1 : List Loc), K r → Fw G A f H1 → va_S A s.heap H1 locs1 → W p l e R s m args below meth c H1 locs1 (cells + mc) (slots + ms) Q (F0 m (pc + 3) ls (.int r :: rest))) : W p l e R s m args below meth c H locs cells slots Q (F0 m pc ls st0) := by
  refine fw_cS_i S hM cw hK hZ hF hS hA hn hsize hst hW hdg hf (fun r f1 H1 locs1 hp hF1 hS1 => ?_)
  obtain ⟨hp, rfl⟩ := hp
  exact kk r H1 locs1 hp hF1 hS1
theorem fw_cS_l_p (S : CallFix p m c cc nL s args Ts own) {K : Int64 → Prop} (hM : Met l y ws rm (FP G (As) f H.size) (va_Ql (fun r f9 => K r ∧ f9 = f : Int64 → FT → Prop) (FB G (fA f H.size)) (fA f H.size)) mc ms (fA f H.size)) (cw : CallB R s args own index y bytes maxL ret ws rm mc ms n ∧ (Cond.static y).before args s = true) (hK : FK G s) (hZ : FZ G A s s.heap) (hF : Fw G A f H) (hS : va_S A s.heap H locs) (hA : ∀ q, s.heap.size ≤ q → A q) (hn : As.length = n) (hsize : ls.size = nL) (hst : st0 = As.reverse ++ rest) (hW : (rest.map fun v => v.category).sum ≤ 8) (hdg : decode cc pc = .ok (.invokestatic index, 3)) (hf : cells + mc ≤ R.cells ∧ slots + ms ≤ R.slots)
    (kk : ∀ (r : Int64) (H1 : Heap) (locs1 : List Loc), K r → Fw G A f H1 → va_S A s.heap H1 locs1 → W p l e R s m args below meth c H1 locs1 (cells + mc) (slots + ms) Q (F0 m (pc + 3) ls (.long r :: rest))) : W p l e R s m args below meth c H locs cells slots Q (F0 m pc ls st0) := by
  refine fw_cS_l S hM cw hK hZ hF hS hA hn hsize hst hW hdg hf (fun r f1 H1 locs1 hp hF1 hS1 => ?_)
  obtain ⟨hp, rfl⟩ := hp
  exact kk r H1 locs1 hp hF1 hS1
theorem fw_cS_v_p (S : CallFix p m c cc nL s args Ts own) {K : Prop} (hM : Met l y ws rm (FP G (As) f H.size) (va_Qv (fun f9 => K ∧ f9 = f : FT → Prop) (FB G (fA f H.size)) (fA f H.size)) mc ms (fA f H.size)) (cw : CallB R s args own index y bytes maxL ret ws rm mc ms n ∧ (Cond.static y).before args s = true) (hK : FK G s) (hZ : FZ G A s s.heap) (hF : Fw G A f H) (hS : va_S A s.heap H locs) (hA : ∀ q, s.heap.size ≤ q → A q) (hn : As.length = n) (hsize : ls.size = nL) (hst : st0 = As.reverse ++ rest) (hW : (rest.map fun v => v.category).sum ≤ 8) (hdg : decode cc pc = .ok (.invokestatic index, 3)) (hf : cells + mc ≤ R.cells ∧ slots + ms ≤ R.slots)
    (kk : ∀ (H1 : Heap) (locs1 : List Loc), K → Fw G A f H1 → va_S A s.heap H1 locs1 → W p l e R s m args below meth c H1 locs1 (cells + mc) (slots + ms) Q (F0 m (pc + 3) ls (rest))) : W p l e R s m args below meth c H locs cells slots Q (F0 m pc ls st0) := by
  refine fw_cS_v S hM cw hK hZ hF hS hA hn hsize hst hW hdg hf (fun f1 H1 locs1 hp hF1 hS1 => ?_)
  obtain ⟨hp, rfl⟩ := hp
  exact kk H1 locs1 hp hF1 hS1
theorem fw_cS_q_p (S : CallFix p m c cc nL s args Ts own) {K : Nat → Prop} (hM : Met l y ws rm (FP G (As) f H.size) (va_Qq (fun r f9 => ∃ q, r = some q ∧ K q ∧ f9 = f : Option Nat → FT → Prop) (FB G (fA f H.size)) (fA f H.size)) mc ms (fA f H.size)) (cw : CallB R s args own index y bytes maxL ret ws rm mc ms n ∧ (Cond.static y).before args s = true) (hK : FK G s) (hZ : FZ G A s s.heap) (hF : Fw G A f H) (hS : va_S A s.heap H locs) (hA : ∀ q, s.heap.size ≤ q → A q) (hn : As.length = n) (hsize : ls.size = nL) (hst : st0 = As.reverse ++ rest) (hW : (rest.map fun v => v.category).sum ≤ 8) (hdg : decode cc pc = .ok (.invokestatic index, 3)) (hf : cells + mc ≤ R.cells ∧ slots + ms ≤ R.slots)
    (kk : ∀ (r : Nat) (H1 : Heap) (locs1 : List Loc), K r → Fw G A f H1 → va_S A s.heap H1 locs1 → W p l e R s m args below meth c H1 locs1 (cells + mc) (slots + ms) Q (F0 m (pc + 3) ls (.ref r :: rest))) : W p l e R s m args below meth c H locs cells slots Q (F0 m pc ls st0) := by
  refine fw_cS_q S hM cw hK hZ hF hS hA hn hsize hst hW hdg hf (fun r f1 H1 locs1 hp hF1 hS1 => ?_)
  obtain ⟨q, rfl, hp, rfl⟩ := hp
  exact kk q H1 locs1 hp hF1 hS1
theorem fw_cS_q_w (S : CallFix p m c cc nL s args Ts own) {K : Nat → FT → Prop} (hM : Met l y ws rm (FP G (As) f H.size) (va_Qq (fun r f9 => ∃ q, r = some q ∧ K q f9 : Option Nat → FT → Prop) (FB G (fA f H.size)) (fA f H.size)) mc ms (fA f H.size)) (cw : CallB R s args own index y bytes maxL ret ws rm mc ms n ∧ (Cond.static y).before args s = true) (hK : FK G s) (hZ : FZ G A s s.heap) (hF : Fw G A f H) (hS : va_S A s.heap H locs) (hA : ∀ q, s.heap.size ≤ q → A q) (hn : As.length = n) (hsize : ls.size = nL) (hst : st0 = As.reverse ++ rest) (hW : (rest.map fun v => v.category).sum ≤ 8) (hdg : decode cc pc = .ok (.invokestatic index, 3)) (hf : cells + mc ≤ R.cells ∧ slots + ms ≤ R.slots)
    (kk : ∀ (r : Nat) (f1 : FT) (H1 : Heap) (locs1 : List Loc), K r f1 → Fw G A f1 H1 → va_S A s.heap H1 locs1 → W p l e R s m args below meth c H1 locs1 (cells + mc) (slots + ms) Q (F0 m (pc + 3) ls (.ref r :: rest))) : W p l e R s m args below meth c H locs cells slots Q (F0 m pc ls st0) := by
  refine fw_cS_q S hM cw hK hZ hF hS hA hn hsize hst hW hdg hf (fun r f1 H1 locs1 hp hF1 hS1 => ?_)
  obtain ⟨q, rfl, hp⟩ := hp
  exact kk q f1 H1 locs1 hp hF1 hS1
theorem fw_cI_v_p (S : CallFix p m c cc nL s args Ts own) {K : Prop} (hM : Met l y ws rm (FP G (.ref b :: As) f H.size) (va_Qv (fun f9 => K ∧ f9 = f : FT → Prop) (FB G (fA f H.size)) (fA f H.size)) mc ms (fA f H.size)) (cw : CallB R s args own index y bytes maxL none ws rm mc ms n ∧ y.name = "<init>" ∧ (Cond.instanceMethod y).before args s = true) (hK : FK G s) (hZ : FZ G A s s.heap) (hF : Fw G A f H) (hS : va_S A s.heap H locs) (hA : ∀ q, s.heap.size ≤ q → A q) (hn : As.length = n) (hsize : ls.size = nL) (hst : st0 = As.reverse ++ .ref b :: rest) (hW : (rest.map fun v => v.category).sum ≤ 8) (hdg : decode cc pc = .ok (.invokespecial index, 3)) (hf : cells + mc ≤ R.cells ∧ slots + ms ≤ R.slots)
    (kk : ∀ (H1 : Heap) (locs1 : List Loc), K → Fw G A f H1 → va_S A s.heap H1 locs1 → W p l e R s m args below meth c H1 locs1 (cells + mc) (slots + ms) Q (F0 m (pc + 3) ls (rest))) : W p l e R s m args below meth c H locs cells slots Q (F0 m pc ls st0) := by
  refine fw_cI_v S hM cw hK hZ hF hS hA hn hsize hst hW hdg hf (fun f1 H1 locs1 hp hF1 hS1 => ?_)
  obtain ⟨hp, rfl⟩ := hp
  exact kk H1 locs1 hp hF1 hS1
end FWC
/-! the words of the predicates -/
def loopW {σ : Type} (body : (σ → Prop) → σ → Prop) : Nat → σ → Prop
  | 0, _ => False
  | n + 1, s => body (loopW body n) s
theorem loopW_of {σ : Type} {body : (σ → Prop) → σ → Prop} (I : σ → Prop) (μ : σ → Nat) (hs : ∀ (C : σ → Prop) (s : σ), I s → (∀ s', I s' → μ s' < μ s → C s') → body C s) : ∀ s, I s → ∃ n, loopW body n s := by
  have key : ∀ (n : Nat) (s : σ), I s → μ s < n → loopW body n s := by
    intro n
    induction n with
    | zero => intro s _ h; exact absurd h (Nat.not_lt_zero _)
    | succ n ih =>
      intro s hI hlt
      exact hs _ s hI (fun s' hI' hm => ih s' hI' (by omega))
  exact fun s hI => ⟨μ s + 1, key _ s hI (Nat.lt_succ_self _)⟩
def isO (f : FT) (b ci : Nat) : Prop := ∃ fs : List Value, f b = some (.inr (ci, fs))
def isB (v : Int32) : Prop := v = 0 ∨ v = 1
theorem isB_nar {v : Int32} (h : isB v) : narrow .boolean (.int v) = .int v := by
  rcases h with rfl | rfl <;> decide
def gI (f : FT) (a ci k : Nat) (K : Int32 → Prop) : Prop := ∃ (fs : List Value) (v : Int32), f a = some (.inr (ci, fs)) ∧ fs[k]? = some (.int v) ∧ K v
def gA (f : FT) (a ci k : Nat) (K : Nat → Prop) : Prop := ∃ (fs : List Value) (v : Nat), f a = some (.inr (ci, fs)) ∧ fs[k]? = some (.ref v) ∧ K v
def pV (f : FT) (a ci k : Nat) (v : Value) (K : FT → Prop) : Prop := ∃ fs : List Value, f a = some (.inr (ci, fs)) ∧ k < fs.length ∧ ∀ f1, f1 = fup f a (.inr (ci, fs.set k v)) → K f1
def aL (f : FT) (a : Nat) (K : Int32 → Prop) : Prop := ∃ (t : Nat) (x : vp_A), f a = some (.inl (t, x)) ∧ t < 4 ∧ ∀ v, v = Int32.ofNat x.1 → K v
def aI (f : FT) (a t : Nat) (i : Int32) (K : Int32 → Prop) : Prop := ∃ (n : Nat) (g : Nat → Int32), f a = some (.inl (t, n, .inl g)) ∧ vp_in i n ∧ ∀ v, v = g i.toNatClampNeg → K v
def sI (f : FT) (a : Nat) (i x : Int32) (K : FT → Prop) : Prop := ∃ (n : Nat) (g : Nat → Int32), f a = some (.inl (1, n, .inl g)) ∧ vp_in i n ∧ ∀ f1, f1 = fup f a (.inl (1, n, .inl (upd g i.toNatClampNeg x))) → K f1
def sB (f : FT) (a : Nat) (i x : Int32) (K : FT → Prop) : Prop := ∃ (n : Nat) (g : Nat → Int32), f a = some (.inl (0, n, .inl g)) ∧ vp_in i n ∧ ∀ f1, f1 = fup f a (.inl (0, n, .inl (upd g i.toNatClampNeg (vp_nar .byte x)))) → K f1
def jmax (x y : Int32) : Int32 := if x < y then y else x
def jmin (x y : Int32) : Int32 := if y < x then y else x
def jabs (x : Int32) : Int32 := if 0 ≤ x then x else 0 - x
def i2b (x : Int32) : Int32 := x.toInt8.toInt32
def lushr (x : Int64) (y : Int32) : Int64 := (x.toUInt64 >>> (y.toInt64.toUInt64 &&& Int64.toUInt64 63)).toInt64
def nO (f : FT) (ci : Nat) (fs : List Value) (N bc bs : Nat) (K : Nat → FT → Prop) : Prop := 1 ≤ bc ∧ N ≤ bs ∧ ∀ q, f q = none → ∀ f1, f1 = fup f q (.inr (ci, fs)) → K q f1
def nA (f : FT) (t : Nat) (len : Int32) (bc bs : Nat) (K : Nat → Nat → FT → Prop) : Prop := ¬ len < 0 ∧ ∃ n : Nat, len.toNatClampNeg = n ∧ 1 ≤ bc ∧ n ≤ bs ∧ n ≤ 100000000 ∧ ∀ q, f q = none → ∀ f1, f1 = fup f q (.inl (t, (n, .inl fun _ => 0))) → K n q f1
