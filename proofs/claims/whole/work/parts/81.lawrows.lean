/-! two worlds side by side: a call works in one, the other stays -/
def dj (f f2 : FT) : Prop := ∀ q : Nat, f q = none ∨ f2 q = none
theorem dj.symm {f f2 : FT} (h : dj f f2) : dj f2 f := fun q => (h q).symm
theorem dj.step {G : GG} {A : Nat → Prop} {f f1 f2 : FT} {H H1 : Heap} (h : dj f f2) (hF2 : Fw G A f2 H) (hF1 : Fw G (fA f H.size) f1 H1) : dj f1 f2 := by
  intro q
  cases h1 : f1 q with
  | none => exact Or.inl rfl
  | some e =>
    cases h2 : f2 q with
    | none => exact Or.inr rfl
    | some e2 =>
      rcases (hF1.in h1).1 with ⟨e3, h3⟩ | h3
      · rcases h q with h4 | h4
        · rw [h3] at h4; cases h4
        · rw [h2] at h4; cases h4
      · have := (hF2.in h2).2
        omega
theorem Fw.other {G : GG} {A : Nat → Prop} {f f2 : FT} {H H1 : Heap} (h : dj f f2) (hF2 : Fw G A f2 H) (hk : ∀ q : Nat, q < H.size → ¬ fA f H.size q → H1[q]? = H[q]?) : Fw G A f2 H1 := by
  refine hF2.kept (fun q e he => hk q (hF2.in he).2 ?_)
  rintro (⟨e3, h3⟩ | h3)
  · rcases h q with h4 | h4
    · rw [h3] at h4; cases h4
    · rw [he] at h4; cases h4
  · have := (hF2.in he).2
    omega
theorem FPL.blind {G : GG} {as : List Value} {f : FT} {sz : Nat} : FrameBlind (FPL G as f sz) := fun a U g mk q => by
  obtain ⟨q0, q1, qP, qK, qZ, qX, qN⟩ := q
  have h := FPX.blind (G := G) (as := as) (f := f) (sz := sz) a U g mk ⟨q0, q1, qP, qK, qZ, qX⟩
  obtain ⟨r0, r1, rP, rK, rZ, rX⟩ := h
  exact ⟨r0, r1, rP, rK, rZ, rX, FXN.moved (u := U) (U := U.calling g mk a) (Vm.Alike.refl U.vm) qN⟩
theorem FPL.go {G : GG} {A : Nat → Prop} {as : List Value} {f : FT} {H : Heap} {locs : List Loc} {s : State} (hF : Fw G A f H) (hK : FK G s) (hZ : FZ G A s s.heap) (hX : FX9 G A s s.heap) (hXN : FXN s) (hS : va_S A s.heap H locs) (hfr : ∀ q, fA f H.size q → A q) : ∀ U : State, U.heap = H → s.WarmedH U.vm → FPL G as f H.size as.toArray U := fun U hU hW => by
  obtain ⟨r0, r1, rP, rK, rZ, rX⟩ := FPX.go (as := as) hF hK hZ hX hS hfr U hU hW
  exact ⟨r0, r1, rP, rK, rZ, rX, FXN.moved hW.alike hXN⟩
section FWL
variable {p : Program} {l : Launch} {e : Env} {R : Room} {s : State} {m : MethodId} {args : Array Value} {below : List Frame} {meth : Method} {c : Code} {H : Heap} {locs : List Loc} {cells slots : Nat} {Q : State → Prop}
variable {G : GG} {A : Nat → Prop} {f f2 : FT} {cc : ByteArray} {pc : Nat} {ls : Array Slot} {rest st0 As : List Value}
variable {y : MethodName} {bytes : ByteArray} {maxL nL mc ms n index : Nat} {ret : Option FieldType} {ws : List Cond} {rm : Room} {Ts : List Cond} {own C : String} {b : Addr}
theorem fl_cV_i (S : CallFix p m c cc nL s args Ts own) {post : Int32 → FT → Prop} (hM : Met l y ws rm (FP G (.ref b :: As) f H.size) (va_Qi post (FB G (fA f H.size)) (fA f H.size)) mc ms (fA f H.size)) (cw : CallW R s args own C index y bytes maxL ret ws rm mc ms n) {ci : Nat} {fs : List Value} {T : u_T} {N : Nat} (hc : vwCl[ci]? = some (C, T, N)) (he : f b = some (.inr (ci, fs))) (hK : FK G s) (hZ : FZ G A s s.heap) (hF : Fw G A f H) (hF2 : Fw G A f2 H) (hd : dj f f2) (hS : va_S A s.heap H locs) (hA : ∀ q, s.heap.size ≤ q → A q) (hn : As.length = n) (hsize : ls.size = nL) (hst : st0 = As.reverse ++ .ref b :: rest) (hW : (rest.map fun v => v.category).sum ≤ 8) (hdg : decode cc pc = .ok (.invokevirtual index, 3)) (hf : cells + mc ≤ R.cells ∧ slots + ms ≤ R.slots)
    (kk : ∀ (r : Int32) (f1 : FT) (H1 : Heap) (locs1 : List Loc), post r f1 → Fw G A f1 H1 → Fw G A f2 H1 → dj f1 f2 → va_S A s.heap H1 locs1 → W p l e R s m args below meth c H1 locs1 (cells + mc) (slots + ms) Q (F0 m (pc + 3) ls (.int r :: rest))) : W p l e R s m args below meth c H locs cells slots Q (F0 m pc ls st0) := by
  have hfr := hF.free hS hA
  refine va_calli (va_runV S hM cw ⟨FP.blind, Fw.recv hK hF hc he, FP.go hF hK hZ hS hfr⟩ rfl hn hsize hst (lv_room hW) hdg hf) hS (fun q _ h => hfr q h) hfr (fun r u t H1 locs1 ht hvm hw hB hz1 hk1 hS1 => ?_)
  have hB1 := hB.1
  rw [ht] at hB1
  exact kk r u H1 locs1 hw (hB1.weaken (fun q _ h => hfr q h)) (Fw.other hd hF2 hk1) (hd.step hF2 hB1) hS1
theorem fl_cV_l (S : CallFix p m c cc nL s args Ts own) {post : Int64 → FT → Prop} (hM : Met l y ws rm (FP G (.ref b :: As) f H.size) (va_Ql post (FB G (fA f H.size)) (fA f H.size)) mc ms (fA f H.size)) (cw : CallW R s args own C index y bytes maxL ret ws rm mc ms n) {ci : Nat} {fs : List Value} {T : u_T} {N : Nat} (hc : vwCl[ci]? = some (C, T, N)) (he : f b = some (.inr (ci, fs))) (hK : FK G s) (hZ : FZ G A s s.heap) (hF : Fw G A f H) (hF2 : Fw G A f2 H) (hd : dj f f2) (hS : va_S A s.heap H locs) (hA : ∀ q, s.heap.size ≤ q → A q) (hn : As.length = n) (hsize : ls.size = nL) (hst : st0 = As.reverse ++ .ref b :: rest) (hW : (rest.map fun v => v.category).sum ≤ 8) (hdg : decode cc pc = .ok (.invokevirtual index, 3)) (hf : cells + mc ≤ R.cells ∧ slots + ms ≤ R.slots)
    (kk : ∀ (r : Int64) (f1 : FT) (H1 : Heap) (locs1 : List Loc), post r f1 → Fw G A f1 H1 → Fw G A f2 H1 → dj f1 f2 → va_S A s.heap H1 locs1 → W p l e R s m args below meth c H1 locs1 (cells + mc) (slots + ms) Q (F0 m (pc + 3) ls (.long r :: rest))) : W p l e R s m args below meth c H locs cells slots Q (F0 m pc ls st0) := by
  have hfr := hF.free hS hA
  refine va_calll (va_runV S hM cw ⟨FP.blind, Fw.recv hK hF hc he, FP.go hF hK hZ hS hfr⟩ rfl hn hsize hst (lv_room hW) hdg hf) hS (fun q _ h => hfr q h) hfr (fun r u t H1 locs1 ht hvm hw hB hz1 hk1 hS1 => ?_)
  have hB1 := hB.1
  rw [ht] at hB1
  exact kk r u H1 locs1 hw (hB1.weaken (fun q _ h => hfr q h)) (Fw.other hd hF2 hk1) (hd.step hF2 hB1) hS1
theorem fl_cI_v (S : CallFix p m c cc nL s args Ts own) {post : FT → Prop} (hM : Met l y ws rm (FP G (.ref b :: As) f H.size) (va_Qv post (FB G (fA f H.size)) (fA f H.size)) mc ms (fA f H.size)) (cw : CallB R s args own index y bytes maxL none ws rm mc ms n ∧ y.name = "<init>" ∧ (Cond.instanceMethod y).before args s = true) (hK : FK G s) (hZ : FZ G A s s.heap) (hF : Fw G A f H) (hF2 : Fw G A f2 H) (hd : dj f f2) (hS : va_S A s.heap H locs) (hA : ∀ q, s.heap.size ≤ q → A q) (hn : As.length = n) (hsize : ls.size = nL) (hst : st0 = As.reverse ++ .ref b :: rest) (hW : (rest.map fun v => v.category).sum ≤ 8) (hdg : decode cc pc = .ok (.invokespecial index, 3)) (hf : cells + mc ≤ R.cells ∧ slots + ms ≤ R.slots)
    (kk : ∀ (f1 : FT) (H1 : Heap) (locs1 : List Loc), post f1 → Fw G A f1 H1 → Fw G A f2 H1 → dj f1 f2 → va_S A s.heap H1 locs1 → W p l e R s m args below meth c H1 locs1 (cells + mc) (slots + ms) Q (F0 m (pc + 3) ls (rest))) : W p l e R s m args below meth c H locs cells slots Q (F0 m pc ls st0) := by
  have hfr := hF.free hS hA
  refine va_callv (va_runI S hM cw ⟨FP.blind, FP.go hF hK hZ hS hfr⟩ rfl hn hsize hst (lv_room hW) hdg hf) hS (fun q _ h => hfr q h) hfr (fun u t H1 locs1 ht hvm hw hB hz1 hk1 hS1 => ?_)
  have hB1 := hB.1
  rw [ht] at hB1
  exact kk u H1 locs1 hw (hB1.weaken (fun q _ h => hfr q h)) (Fw.other hd hF2 hk1) (hd.step hF2 hB1) hS1
theorem fl_cSX_i {hh : List (Nat × Nat × Nat × Nat)} (S : CallFix p m c cc nL s args Ts own) {post : Int32 → FT → Prop} (hM : vx_Met l y ws rm (FPL G As f H.size) (va_Qi post (FB G (fA f H.size)) (fA f H.size)) (FXC G (fA f H.size) (fun _ _ => False)) mc ms (fA f H.size)) (cw : vx_CSW R s args own index y bytes maxL ret hh ws rm mc ms n) (hK : FK G s) (hZ : FZ G A s s.heap) (hX : FX9 G A s s.heap) (hXN : FXN s) (hF : Fw G A f H) (hF2 : Fw G A f2 H) (hd : dj f f2) (hS : va_S A s.heap H locs) (hA : ∀ q, s.heap.size ≤ q → A q) (hn : As.length = n) (hsize : ls.size = nL) (hst : st0 = As.reverse ++ rest) (hW : (rest.map fun v => v.category).sum ≤ 8) (hdg : decode cc pc = .ok (.invokestatic index, 3)) (hf : cells + mc ≤ R.cells ∧ slots + ms ≤ R.slots)
    (kk : ∀ (r : Int32) (f1 : FT) (H1 : Heap) (locs1 : List Loc), post r f1 → Fw G A f1 H1 → Fw G A f2 H1 → dj f1 f2 → va_S A s.heap H1 locs1 → W p l e R s m args below meth c H1 locs1 (cells + mc) (slots + ms) Q (F0 m (pc + 3) ls (.int r :: rest))) : W p l e R s m args below meth c H locs cells slots Q (F0 m pc ls st0) := by
  have hfr := hF.free hS hA
  refine vx_calli (vx_runSX S hM cw ⟨FPL.blind, FPL.go hF hK hZ hX hXN hS hfr⟩ rfl hn hsize hst (lv_room hW) hdg hf) hS (fun q _ h => hfr q h) hfr (fun q _ h => hfr q h) (fun E ce q9 u t H1 locs1 ht hvm hp hB hz1 hk1 hS1 h5 h6 h7 => hp.elim) (fun r u t H1 locs1 ht hvm hw hB hz1 hk1 hS1 => ?_)
  have hB1 := hB.1
  rw [ht] at hB1
  exact kk r u H1 locs1 hw (hB1.weaken (fun q _ h => hfr q h)) (Fw.other hd hF2 hk1) (hd.step hF2 hB1) hS1
theorem cwSX {hh : List (Nat × Nat × Nat × Nat)} {ws' : List Cond} (n : Nat) (ht : ∀ w ∈ Ts, w.before args s = true) (hG : GoodIn Ts ws) (hw : ws = Cond.codeWith y bytes maxL ret hh :: ws') (hrc : rm.cells = mc) (hrs : rm.slots = ms) (hini : (Cond.initialized y.cls).before args s = true) (hl : (Cond.methodLink own index y).before args s = true) (hst : (Cond.static y).before args s = true)
    (hd : y.cls ≠ "java/lang/invoke/MethodHandle" ∧ y.cls ≠ "java/lang/invoke/VarHandle" ∧ (parseMethodDescriptor y.desc).map (fun d => d.parameters.length) = some n) (hR : rm.frames + 1 ≤ R.frames ∧ 8 + (maxL + 11) + rm.locals ≤ R.locals) : vx_CSW R s args own index y bytes maxL ret hh ws rm mc ms n := by
  have hc : Cond.codeWith y bytes maxL ret hh ∈ ws := by rw [hw]; exact List.mem_cons_self
  refine ⟨⟨hrc, hrs, hR.1, hR.2, pay_in ht hG, hc⟩, ht _ (hG _ hc).1, hini, ⟨hd.1, hd.2.1⟩, fun sig h => ?_, hl, hst⟩
  have h2 := hd.2.2
  rw [h] at h2
  exact (Option.some.inj h2).symm
end FWL
def aJ (f : FT) (a : Nat) (i : Int32) (K : Int64 → Prop) : Prop := ∃ (n : Nat) (g : Nat → Int64), f a = some (.inl (3, n, .inr (.inl g))) ∧ vp_in i n ∧ ∀ v, v = g i.toNatClampNeg → K v
theorem fw_lald {p : Program} {l : Launch} {e : Env} {R : Room} {s : State} {m : MethodId} {args : Array Value} {below : List Frame} {meth : Method} {c : Code} {H : Heap} {locs : List Loc} {cells slots : Nat} {Q : State → Prop} {G : GG} {A : Nat → Prop} {f : FT} {cc : ByteArray} {pc a : Nat} {ls : Array Slot} {rest : List Value} (hexec : p.tables.exec = Jvm.exec) (hb : c.code = cc) (hK : FK G s) (hF : Fw G A f H) {n : Nat} {g : Nat → Int64} (he : f a = some (.inl (3, n, .inr (.inl g)))) {i : Int32} (hin : vp_in i n) (hdg : decode cc pc = .ok (.laload, 1))
    (kk : W p l e R s m args below meth c H locs cells slots Q (F0 m (pc + 1) ls (.long (g i.toNatClampNeg) :: rest))) : W p l e R s m args below meth c H locs cells slots Q (F0 m pc ls (.int i :: .ref a :: rest)) := by
  obtain ⟨ws, hP, hD, hm⟩ := hF
  obtain ⟨q0, hq⟩ := hm.at he
  exact va_lald hexec hb hK.1 hP q0 3 hq rfl hin hdg kk
