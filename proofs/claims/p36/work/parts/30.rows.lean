/-! rows for arrays of references, copies, casts, over worlds as functions -/
section FWA
variable {p : Program} {l : Launch} {e : Env} {R : Room} {s : State} {m : MethodId} {args : Array Value} {below : List Frame} {meth : Method} {c : Code} {H : Heap} {locs : List Loc} {cells slots : Nat} {Q : State → Prop}
variable {G : GG} {A : Nat → Prop} {H0 : Heap} {f : FT} {cc : ByteArray} {pc a : Nat} {ls : Array Slot} {rest : List Value}
theorem FK.obj {G : GG} {s : State} (hK : FK G s) {ci : Nat} (h : ci = 5 ∨ ci = 6) : ∃ r, vwCl[ci]? = some r ∧ va_Nw (.castable r.1 "java/lang/Object") s := by
  rcases h with rfl | rfl
  · exact ⟨_, rfl, hK.2.2.1⟩
  · exact ⟨_, rfl, hK.2.1⟩
theorem fw_aaldA (hexec : p.tables.exec = Jvm.exec) (hb : c.code = cc) (hK : FK G s) (hF : Fw G A f H) {n : Nat} {g : Nat → Option Nat} (he : f a = some (.inl (2, n, .inr (.inr (.inr (.inr g)))))) {i : Int32} (hin : vp_in i n) {v : Nat} (hv : g i.toNatClampNeg = some v) (hdg : decode cc pc = .ok (.aaload, 1))
    (kk : W p l e R s m args below meth c H locs cells slots Q (F0 m (pc + 1) ls (.ref v :: rest))) : W p l e R s m args below meth c H locs cells slots Q (F0 m pc ls (.int i :: .ref a :: rest)) := by
  refine fw_aald hexec hb hK hF he hin hdg ?_
  rw [hv]
  exact kk
theorem fw_aast (hexec : p.tables.exec = Jvm.exec) (hb : c.code = cc) (hK : FK G s) (hF : Fw G A f H) (hS : va_S A H0 H locs) {n : Nat} {g : Nat → Option Nat} (he : f a = some (.inl (2, n, .inr (.inr (.inr (.inr g)))))) {v ci : Nat} {vs : List Value} (hv : f v = some (.inr (ci, vs))) (hci : ci = 5 ∨ ci = 6) {i : Int32} (hin : vp_in i n) (hdg : decode cc pc = .ok (.aastore, 1))
    (kk : ∀ (H1 : Heap) (locs1 : List Loc), Fw G A (fup f a (.inl (2, n, .inr (.inr (.inr (.inr (va_up g i.toNatClampNeg (some v)))))))) H1 → va_S A H0 H1 locs1 → W p l e R s m args below meth c H1 locs1 cells slots Q (F0 m (pc + 1) ls rest)) : W p l e R s m args below meth c H locs cells slots Q (F0 m pc ls (.ref v :: .int i :: .ref a :: rest)) := by
  obtain ⟨r, hr, hca⟩ := hK.obj hci
  obtain ⟨ws, hP, hD, hm⟩ := hF
  obtain ⟨q0, hq⟩ := hm.at he
  obtain ⟨q1, hq1⟩ := hm.at hv
  exact va_astqO hexec hb hK.1 hP hD hS q0 2 q1 ci hq rfl hca hq1 hr hin hdg (fun H1 locs1 hP1 hD1 hS1 => kk H1 locs1 ⟨_, hP1, hD1, hm.set hD hq (.inl (2, n, .inr (.inr (.inr (.inr (va_up g i.toNatClampNeg (some v)))))))⟩ hS1)
theorem fw_aastN (hexec : p.tables.exec = Jvm.exec) (hb : c.code = cc) (hK : FK G s) (hF : Fw G A f H) (hS : va_S A H0 H locs) {n : Nat} {g : Nat → Option Nat} (he : f a = some (.inl (2, n, .inr (.inr (.inr (.inr g)))))) {i : Int32} (hin : vp_in i n) (hdg : decode cc pc = .ok (.aastore, 1))
    (kk : ∀ (H1 : Heap) (locs1 : List Loc), Fw G A (fup f a (.inl (2, n, .inr (.inr (.inr (.inr (va_up g i.toNatClampNeg none))))))) H1 → va_S A H0 H1 locs1 → W p l e R s m args below meth c H1 locs1 cells slots Q (F0 m (pc + 1) ls rest)) : W p l e R s m args below meth c H locs cells slots Q (F0 m pc ls (.null :: .int i :: .ref a :: rest)) := by
  obtain ⟨ws, hP, hD, hm⟩ := hF
  obtain ⟨q0, hq⟩ := hm.at he
  exact va_astqN hexec hb hK.1 hP hD hS q0 2 hq rfl hin hdg (fun H1 locs1 hP1 hD1 hS1 => kk H1 locs1 ⟨_, hP1, hD1, hm.set hD hq (.inl (2, n, .inr (.inr (.inr (.inr (va_up g i.toNatClampNeg none))))))⟩ hS1)
theorem va_RA_obj {s : State} {C : String} (c1 c2 : ClassId) (h1 : va_RA s c1 (.object C)) (h2 : va_RA s c2 (.object C)) : c1 = c2 := Option.some.inj ((va_nmO h1 rfl).symm.trans (va_nmO h2 rfl))
theorem fw_anew (hexec : p.tables.exec = Jvm.exec) (hb : c.code = cc) {own : String} {index : Nat} (hown : s.vm.findClass own = some m.cls) (hclink : (Cond.classLink own index "java/lang/Object").before args s = true) (hK : FK G s) (hF : Fw G A f H) (hS : va_S A H0 H locs) (hA : ∀ q, H0.size ≤ q → A q)
    {n : Int32} {N' : Nat} (hn : ¬ n < 0) (hN : n.toNatClampNeg = N') (hbytes : N' * 4 ≤ 536870912) (hcells : cells + 1 ≤ R.cells) (hslots : slots + N' ≤ R.slots) (hdg : decode cc pc = .ok (.anewarray index, 3))
    (kk : ∀ (q : Nat) (H1 : Heap), f q = none → Fw G A (fup f q (.inl (2, N', .inr (.inr (.inr (.inr (fun _ => none))))))) H1 → va_S A H0 H1 locs →
      W p l e R s m args below meth c H1 locs (cells + 1) (slots + N') Q (F0 m (pc + 3) ls (.ref q :: rest))) : W p l e R s m args below meth c H locs cells slots Q (F0 m pc ls (.int n :: rest)) := by
  obtain ⟨ws, hP, hD, hm⟩ := hF
  refine va_newq hexec hb hown hclink hK.2.2.2.2.2.2.1 hK.1 hP hD hS hA hn hN hbytes hcells hslots hdg (fun q cA H1 hK1 hP1 hD1 hS1 => ?_)
  have hlast : (fTys G ++ [(cA, .object "java/lang/Object")])[4]? = some (cA, .object "java/lang/Object") := rfl
  have ht : (fTys G)[2]? = some (G.2.1 2, .object "java/lang/Object") := rfl
  have e9 : cA = G.2.1 2 := va_RA_obj _ _ (hK1.2 4 _ hlast).2 (hK.1.2 2 _ ht).2
  subst e9
  obtain ⟨hn1, hm1⟩ := hm.push (.inl (2, N', .inr (.inr (.inr (.inr (fun _ => none)))))) hD1
  exact kk q H1 hn1 ⟨_, hP1, hD1, hm1⟩ hS1
theorem Fw.any (hK : FK G s) (hF : Fw G A f H) {y ci : Nat} {vs : List Value} (hv : f y = some (.inr (ci, vs))) (hci : ci = 5 ∨ ci = 6) : va_Any "java/lang/Object" s H y := by
  obtain ⟨r, hr, hca⟩ := hK.obj hci
  obtain ⟨cell, h1, h2, h3⟩ := Fw.recv hK hF hr hv
  obtain ⟨c0, t0, f1, f2, f3⟩ := Cond.castable_spec (va_Nw.use (A := #[]) rfl hca)
  have hcl := (hK.1.1 ci r hr).2
  obtain ⟨g1, kC, g2, -⟩ := hcl
  refine ⟨cell, h1, h2, ⟨kC, ?_⟩, fun comp hcomp => ?_⟩
  · rw [← Option.some.inj (h3.symm.trans g1)] at g2
    exact g2
  · rw [← Option.some.inj (f2.symm.trans hcomp), Option.some.inj (h3.symm.trans f1)]
    exact f3
theorem fw_copyR (hexec : p.tables.exec = Jvm.exec) (hb : c.code = cc) (hml : c.maxLocals = ls.size) {own : String} {index : Nat} (hown : s.vm.findClass own = some m.cls) (hlink : (Cond.methodLink own index arraycopyName).before args s = true) (hnat : (Cond.native arraycopyName).before args s = true) (hstat : (Cond.static arraycopyName).before args s = true) (hini : (Cond.initialized "java/lang/System").before args s = true)
    (hK : FK G s) (hF : Fw G A f H) (hS : va_S A H0 H locs) {a0 n0 n1 : Nat} {g0 g1 : Nat → Option Nat} (he0 : f a0 = some (.inl (2, n0, .inr (.inr (.inr (.inr g0)))))) (he1 : f a = some (.inl (2, n1, .inr (.inr (.inr (.inr g1))))))
    {sp dp n : Int32} (h1 : ¬ sp < 0) (h2 : ¬ dp < 0) (h3 : ¬ n < 0) (h4 : sp.toNatClampNeg + n.toNatClampNeg ≤ n0) (h5 : dp.toNatClampNeg + n.toNatClampNeg ≤ n1) (hel : ∀ i : Nat, i < n.toNatClampNeg → ∀ y : Nat, g0 (sp.toNatClampNeg + i) = some y → ∃ ci vs, f y = some (.inr (ci, vs)) ∧ (ci = 5 ∨ ci = 6))
    (hframes : 1 ≤ R.frames) (hlocals : (rest.map fun v => v.category).sum + (nativeFrameWords "java/lang/System" "arraycopy" 5 + 11) ≤ R.locals) (hdg : decode cc pc = .ok (.invokestatic index, 3))
    (kk : ∀ (H1 : Heap) (locs1 : List Loc), Fw G A (fup f a (.inl (2, n1, .inr (.inr (.inr (.inr (va_cpy g0 g1 sp.toNatClampNeg dp.toNatClampNeg n.toNatClampNeg))))))) H1 → va_S A H0 H1 locs1 → W p l e R s m args below meth c H1 locs1 cells slots Q (F0 m (pc + 3) ls rest)) : W p l e R s m args below meth c H locs cells slots Q (F0 m pc ls (.int n :: .int dp :: .ref a :: .int sp :: .ref a0 :: rest)) := by
  have hel' : ∀ i : Nat, i < n.toNatClampNeg → ∀ y : Nat, g0 (sp.toNatClampNeg + i) = some y → va_Any "java/lang/Object" s H y := fun i hi y hy => by
    obtain ⟨ci, vs, hv, hci⟩ := hel i hi y hy
    exact Fw.any hK hF hv hci
  obtain ⟨ws, hP, hD, hm⟩ := hF
  obtain ⟨q0, hq0⟩ := hm.at he0
  obtain ⟨q1, hq1⟩ := hm.at he1
  exact va_copyM hexec hb hml hown hlink hnat hstat hini hK.1 hP hD hS q0 q1 2 2 hq0 hq1 rfl rfl h1 h2 h3 h4 h5 hel' hframes hlocals hdg (fun H1 locs1 hP1 hD1 hS1 => kk H1 locs1 ⟨_, hP1, hD1, hm.set hD hq1 (.inl (2, n1, .inr (.inr (.inr (.inr (va_cpy g0 g1 sp.toNatClampNeg dp.toNatClampNeg n.toNatClampNeg))))))⟩ hS1)
theorem fw_copyP (hexec : p.tables.exec = Jvm.exec) (hb : c.code = cc) (hml : c.maxLocals = ls.size) {own : String} {index : Nat} (hown : s.vm.findClass own = some m.cls) (hlink : (Cond.methodLink own index arraycopyName).before args s = true) (hnat : (Cond.native arraycopyName).before args s = true) (hstat : (Cond.static arraycopyName).before args s = true) (hini : (Cond.initialized "java/lang/System").before args s = true)
    (hK : FK G s) (hF : Fw G A f H) (hS : va_S A H0 H locs) (t : Nat) {ty : FieldType} (ht : (fTys G)[t]? = some (G.2.1 t, ty)) (hprim : refKind ty = false) {a0 n0 n1 : Nat} {g0 g1 : Nat → Int32} (he0 : f a0 = some (.inl (t, n0, .inl g0))) (he1 : f a = some (.inl (t, n1, .inl g1)))
    {sp dp n : Int32} (h1 : ¬ sp < 0) (h2 : ¬ dp < 0) (h3 : ¬ n < 0) (h4 : sp.toNatClampNeg + n.toNatClampNeg ≤ n0) (h5 : dp.toNatClampNeg + n.toNatClampNeg ≤ n1) (hfit : ∀ i, i < n.toNatClampNeg → fits ty (.int (g0 (sp.toNatClampNeg + i))) = true)
    (hframes : 1 ≤ R.frames) (hlocals : (rest.map fun v => v.category).sum + (nativeFrameWords "java/lang/System" "arraycopy" 5 + 11) ≤ R.locals) (hdg : decode cc pc = .ok (.invokestatic index, 3))
    (kk : ∀ (H1 : Heap) (locs1 : List Loc), Fw G A (fup f a (.inl (t, n1, .inl (va_cpy g0 g1 sp.toNatClampNeg dp.toNatClampNeg n.toNatClampNeg)))) H1 → va_S A H0 H1 locs1 → W p l e R s m args below meth c H1 locs1 cells slots Q (F0 m (pc + 3) ls rest)) : W p l e R s m args below meth c H locs cells slots Q (F0 m pc ls (.int n :: .int dp :: .ref a :: .int sp :: .ref a0 :: rest)) := by
  obtain ⟨ws, hP, hD, hm⟩ := hF
  obtain ⟨q0, hq0⟩ := hm.at he0
  obtain ⟨q1, hq1⟩ := hm.at he1
  exact va_copyi hexec hb hml hown hlink hnat hstat hini hK.1 hP hD hS q0 q1 t t hq0 hq1 ht ht hprim h1 h2 h3 h4 h5 hfit hframes hlocals hdg (fun H1 locs1 hP1 hD1 hS1 => kk H1 locs1 ⟨_, hP1, hD1, hm.set hD hq1 (.inl (t, n1, .inl (va_cpy g0 g1 sp.toNatClampNeg dp.toNatClampNeg n.toNatClampNeg)))⟩ hS1)
theorem fw_castA (hexec : p.tables.exec = Jvm.exec) (hb : c.code = cc) {own nm : String} {index : Nat} (hown : s.vm.findClass own = some m.cls) (hlink : (Cond.classLink own index nm).before args s = true) (hF : Fw G A f H) {t : Nat} {x : vp_A} (he : f a = some (.inl (t, x))) (hnm : s.vm.findClass nm = some (G.2.1 t)) (hdg : decode cc pc = .ok (.checkcast index, 3))
    (k : W p l e R s m args below meth c H locs cells slots Q (F0 m (pc + 3) ls (.ref a :: rest))) : W p l e R s m args below meth c H locs cells slots Q (F0 m pc ls (.ref a :: rest)) := by
  obtain ⟨ws, hP, hD, hm⟩ := hF
  obtain ⟨q0, hq⟩ := hm.at he
  exact va_castA hexec hb hown hlink hP q0 hq hnm hdg k
theorem FK.nm0 (hK : FK G s) : s.vm.findClass "[B" = some (G.2.1 0) := (hK.1.2 0 (G.2.1 0, .byte) rfl).2
theorem FK.nm1 (hK : FK G s) : s.vm.findClass "[I" = some (G.2.1 1) := (hK.1.2 1 (G.2.1 1, .int) rfl).2
theorem FK.nm2 (hK : FK G s) : s.vm.findClass "[Ljava/lang/Object;" = some (G.2.1 2) := va_nmO (hK.1.2 2 (G.2.1 2, .object "java/lang/Object") rfl).2 rfl
theorem fw_clone (hexec : p.tables.exec = Jvm.exec) (hb : c.code = cc) (hml : c.maxLocals = ls.size) {own ad : String} {index : Nat} (hown : s.vm.findClass own = some m.cls)
    (hlink : (Cond.methodLink own index ⟨ad, "clone", "()Ljava/lang/Object;"⟩).before args s = true) (hsame : (Cond.sameMethod ad "java/lang/Object" "clone" "()Ljava/lang/Object;").before args s = true)
    (hnat : (Cond.native ⟨"java/lang/Object", "clone", "()Ljava/lang/Object;"⟩).before args s = true) (hinst : (Cond.instanceMethod ⟨"java/lang/Object", "clone", "()Ljava/lang/Object;"⟩).before args s = true)
    (hsel : (Cond.selects ad ⟨ad, "clone", "()Ljava/lang/Object;"⟩ ⟨"java/lang/Object", "clone", "()Ljava/lang/Object;"⟩).before args s = true) (hcl : va_Nw (.castable ad "java/lang/Cloneable") s)
    (hK : FK G s) (hF : Fw G A f H) (hS : va_S A H0 H locs) (hA : ∀ q, H0.size ≤ q → A q) (t : Nat) {x : vp_A} {ty : FieldType} (he : f a = some (.inl (t, x))) (ht : (fTys G)[t]? = some (G.2.1 t, ty))
    (hnm : s.vm.findClass ad = some (G.2.1 t)) (hfit : ∀ (i : Nat) (v : Value), (vp_cell (G.2.1 t) x).slots[i]? = some v → fits ty v = true)
    (hframes : 1 ≤ R.frames) (hlocals : (rest.map fun v => v.category).sum + 14 ≤ R.locals) (hcells : cells + 1 ≤ R.cells) (hslots : slots + x.1 ≤ R.slots) (hdg : decode cc pc = .ok (.invokevirtual index, 3))
    (kk : ∀ (q : Nat) (H1 : Heap), f q = none → Fw G A (fup f q (.inl (t, x))) H1 → va_S A H0 H1 locs →
      W p l e R s m args below meth c H1 locs (cells + 1) (slots + x.1) Q (F0 m (pc + 3) ls (.ref q :: rest))) : W p l e R s m args below meth c H locs cells slots Q (F0 m pc ls (.ref a :: rest)) := by
  obtain ⟨ws, hP, hD, hm⟩ := hF
  obtain ⟨q0, hq⟩ := hm.at he
  refine va_clone hexec hb hml hown hlink hsame hnat hinst hsel hcl hK.1 hP hD hS hA q0 t hq ht hnm hfit hframes hlocals hcells hslots hdg (fun q H1 hK1 hP1 hD1 hS1 => ?_)
  obtain ⟨hn1, hm1⟩ := hm.push (.inl (t, x)) hD1
  exact kk q H1 hn1 ⟨_, hP1, hD1, hm1⟩ hS1
theorem fits_arr {cA : ClassId} {n : Nat} {g : Nat → Int32} {ty : FieldType} (h : ∀ i, i < n → fits ty (.int (g i)) = true) (i : Nat) (v : Value) (hv : (vp_cell cA (n, .inl g)).slots[i]? = some v) : fits ty v = true := by
  have e : (vp_cell cA (n, .inl g)).slots = (arrV cA n (fun j => .int (g j))).slots := rfl
  rw [e] at hv
  have hlt : i < n := by
    have := (Array.getElem?_eq_some_iff.mp hv).1
    rw [arrV_size] at this
    exact this
  have h2 : (arrV cA n (fun j => Value.int (g j))).slots[i]? = some (.int (g i)) := by simp [arrV, hlt]
  rw [h2] at hv
  cases hv
  exact h i hlt
end FWA
def aA (f : FT) (a : Nat) (i : Int32) (K : Nat → Prop) : Prop := ∃ (n : Nat) (g : Nat → Option Nat) (v : Nat), f a = some (.inl (2, n, .inr (.inr (.inr (.inr g))))) ∧ vp_in i n ∧ g i.toNatClampNeg = some v ∧ K v
def sA (f : FT) (a : Nat) (i : Int32) (v : Nat) (K : FT → Prop) : Prop := ∃ (n : Nat) (g : Nat → Option Nat) (ci : Nat) (vs : List Value), f a = some (.inl (2, n, .inr (.inr (.inr (.inr g))))) ∧ vp_in i n ∧ f v = some (.inr (ci, vs)) ∧ (ci = 5 ∨ ci = 6) ∧ ∀ f1, f1 = fup f a (.inl (2, n, .inr (.inr (.inr (.inr (va_up g i.toNatClampNeg (some v))))))) → K f1
def sN (f : FT) (a : Nat) (i : Int32) (K : FT → Prop) : Prop := ∃ (n : Nat) (g : Nat → Option Nat), f a = some (.inl (2, n, .inr (.inr (.inr (.inr g))))) ∧ vp_in i n ∧ ∀ f1, f1 = fup f a (.inl (2, n, .inr (.inr (.inr (.inr (va_up g i.toNatClampNeg none)))))) → K f1
def nR (f : FT) (len : Int32) (bc bs : Nat) (K : Nat → Nat → FT → Prop) : Prop := ¬ len < 0 ∧ ∃ n : Nat, len.toNatClampNeg = n ∧ 1 ≤ bc ∧ n ≤ bs ∧ n ≤ 100000000 ∧ ∀ q, f q = none → ∀ f1, f1 = fup f q (.inl (2, (n, .inr (.inr (.inr (.inr (fun _ => none))))))) → K n q f1
def cR (f : FT) (a0 : Nat) (sp : Int32) (a : Nat) (dp n : Int32) (K : FT → Prop) : Prop := ∃ (n0 n1 : Nat) (g0 g1 : Nat → Option Nat), f a0 = some (.inl (2, n0, .inr (.inr (.inr (.inr g0))))) ∧ f a = some (.inl (2, n1, .inr (.inr (.inr (.inr g1))))) ∧ ¬ sp < 0 ∧ ¬ dp < 0 ∧ ¬ n < 0 ∧ sp.toNatClampNeg + n.toNatClampNeg ≤ n0 ∧ dp.toNatClampNeg + n.toNatClampNeg ≤ n1 ∧ (∀ i : Nat, i < n.toNatClampNeg → ∀ y : Nat, g0 (sp.toNatClampNeg + i) = some y → ∃ ci vs, f y = some (.inr (ci, vs)) ∧ (ci = 5 ∨ ci = 6)) ∧ ∀ f1, f1 = fup f a (.inl (2, n1, .inr (.inr (.inr (.inr (va_cpy g0 g1 sp.toNatClampNeg dp.toNatClampNeg n.toNatClampNeg)))))) → K f1
def cP (f : FT) (t : Nat) (ty : FieldType) (a0 : Nat) (sp : Int32) (a : Nat) (dp n : Int32) (K : FT → Prop) : Prop := ∃ (n0 n1 : Nat) (g0 g1 : Nat → Int32), f a0 = some (.inl (t, n0, .inl g0)) ∧ f a = some (.inl (t, n1, .inl g1)) ∧ ¬ sp < 0 ∧ ¬ dp < 0 ∧ ¬ n < 0 ∧ sp.toNatClampNeg + n.toNatClampNeg ≤ n0 ∧ dp.toNatClampNeg + n.toNatClampNeg ≤ n1 ∧ (∀ i, i < n.toNatClampNeg → fits ty (.int (g0 (sp.toNatClampNeg + i))) = true) ∧ ∀ f1, f1 = fup f a (.inl (t, n1, .inl (va_cpy g0 g1 sp.toNatClampNeg dp.toNatClampNeg n.toNatClampNeg))) → K f1
def cL (f : FT) (t : Nat) (ty : FieldType) (a bc bs : Nat) (K : Nat → Nat → FT → Prop) : Prop := ∃ (n : Nat) (g : Nat → Int32), f a = some (.inl (t, n, .inl g)) ∧ (∀ i, i < n → fits ty (.int (g i)) = true) ∧ 1 ≤ bc ∧ n ≤ bs ∧ ∀ q, f q = none → ∀ f1, f1 = fup f q (.inl (t, n, .inl g)) → K n q f1
def isA (f : FT) (b t : Nat) : Prop := ∃ x : vp_A, f b = some (.inl (t, x))
theorem Fw.recvA {G : GG} {A : Nat → Prop} {f : FT} {H : Heap} {s : State} {nm : String} {t b : Nat} {x : vp_A} (hnm : s.vm.findClass nm = some (G.2.1 t)) (hF : Fw G A f H) (he : f b = some (.inl (t, x))) : ∃ cell : Cell, H[b]? = some cell ∧ cell.vm.isStatics = false ∧ s.vm.findClass nm = some cell.cls := by
  obtain ⟨ws, hP, hD, hm⟩ := hF
  obtain ⟨q0, hq⟩ := hm.at he
  have h1 := hP q0 _ hq
  obtain ⟨n, d⟩ := x
  refine ⟨_, h1, ?_, ?_⟩
  · rcases d with d | d | d | d | d <;> rfl
  · rw [hnm]
    rcases d with d | d | d | d | d <;> rfl
section FWD
variable {p : Program} {l : Launch} {e : Env} {R : Room} {s : State} {m : MethodId} {args : Array Value} {below : List Frame} {meth : Method} {c : Code} {H : Heap} {locs : List Loc} {cells slots : Nat} {Q : State → Prop}
variable {G : GG} {A : Nat → Prop} {H0 : Heap} {f : FT} {cc : ByteArray} {pc : Nat} {ls : Array Slot} {rest st0 As : List Value}
variable {y : MethodName} {bytes : ByteArray} {maxL nL mc ms n index : Nat} {ret : Option FieldType} {ws : List Cond} {rm : Room} {Ts : List Cond} {own C host : String} {b : Addr}
theorem fw_cIN_v (S : CallFix p m c cc nL s args Ts own) {post : FT → Prop} (hM : Met l y ws rm (FP G (.ref b :: As) f H.size) (va_Qv post (FB G (fA f H.size)) (fA f H.size)) mc ms (fA f H.size)) (cw : va_CN R s args own index y host bytes maxL none ws rm mc ms n ∧ y.name = "<init>" ∧ (Cond.instanceMethod y).before args s = true) (hK : FK G s) (hZ : FZ G A s s.heap) (hF : Fw G A f H) (hS : va_S A s.heap H locs) (hA : ∀ q, s.heap.size ≤ q → A q) (hn : As.length = n) (hsize : ls.size = nL) (hst : st0 = As.reverse ++ .ref b :: rest) (hW : (rest.map fun v => v.category).sum ≤ 8) (hdg : decode cc pc = .ok (.invokespecial index, 3)) (hf : cells + mc ≤ R.cells ∧ slots + ms ≤ R.slots)
    (kk : ∀ (f1 : FT) (H1 : Heap) (locs1 : List Loc), post f1 → Fw G A f1 H1 → va_S A s.heap H1 locs1 → W p l e R s m args below meth c H1 locs1 (cells + mc) (slots + ms) Q (F0 m (pc + 3) ls (rest))) : W p l e R s m args below meth c H locs cells slots Q (F0 m pc ls st0) := by
  have hfr := hF.free hS hA
  refine va_callv (va_runIN S hM cw ⟨FP.blind, FP.go hF hK hZ hS hfr⟩ rfl hn hsize hst (lv_room hW) hdg hf) hS (fun q _ h => hfr q h) hfr (fun u t H1 locs1 ht hvm hw hB hz1 hk1 hS1 => ?_)
  exact kk u H1 locs1 hw (by rw [← ht]; exact hB.1.weaken (fun q _ h => hfr q h)) hS1
end FWD
def aLz (zd : Nat) (f : FT) (a : Nat) (K : Int32 → Prop) : Prop := (a = zd → K 0) ∧ (¬ a = zd → aL f a K)
theorem fw_alenz {p : Program} {l : Launch} {e : Env} {R : Room} {s : State} {m : MethodId} {args : Array Value} {below : List Frame} {meth : Method} {c : Code} {H : Heap} {locs : List Loc} {cells slots : Nat} {Q : State → Prop} {G : GG} {A : Nat → Prop} {f : FT} {cc : ByteArray} {pc a : Nat} {ls : Array Slot} {rest : List Value} (hexec : p.tables.exec = Jvm.exec) (hb : c.code = cc) (hK : FK G s) (hZ : FZ G A s s.heap) (hF : Fw G A f H) (hS : va_S A s.heap H locs) {zd : Nat} (hzd : G.2.2 0 = zd) {K : Int32 → Prop} (h : aLz zd f a K) (hdg : decode cc pc = .ok (.arraylength, 1))
    (kk : ∀ v : Int32, K v → W p l e R s m args below meth c H locs cells slots Q (F0 m (pc + 1) ls (.int v :: rest))) : W p l e R s m args below meth c H locs cells slots Q (F0 m pc ls (.ref a :: rest)) := by
  by_cases ha : a = zd
  · have h0 := h.1 ha
    rw [← hzd] at ha
    subst ha
    exact va_tlen hexec hb hZ.2.2.1 hS (v := 0) rfl hdg (kk 0 h0)
  · obtain ⟨t, x, he, ht, h1⟩ := h.2 ha
    exact fw_alen hexec hb hK hF he ht hdg (kk _ (h1 _ rfl))
/-- a new Object[]: never where ArrayList's static array lies -/
def nRz (zd : Nat) (f : FT) (len : Int32) (bc bs : Nat) (K : Nat → Nat → FT → Prop) : Prop := ¬ len < 0 ∧ ∃ n : Nat, len.toNatClampNeg = n ∧ 1 ≤ bc ∧ n ≤ bs ∧ n ≤ 100000000 ∧ ∀ q, f q = none → q ≠ zd → ∀ f1, f1 = fup f q (.inl (2, (n, .inr (.inr (.inr (.inr (fun _ => none))))))) → K n q f1
