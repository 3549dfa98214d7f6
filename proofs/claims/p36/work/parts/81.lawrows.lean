/-! the law's own methods: the script is read where it lies; a call of the class that doesn't throw -/
def FS (b L : Nat) (xs : Nat → Int32) (f : FT) (sz : Nat) (U : State) : Prop := va_X b L xs U U.heap ∧ b < sz ∧ f b = none
def FPS (G : GG) (b L : Nat) (xs : Nat → Int32) (as : List Value) (f : FT) (sz : Nat) : Array Value → State → Prop := fun a U => FP G as f sz a U ∧ FS b L xs f sz U
def FPXS (G : GG) (b L : Nat) (xs : Nat → Int32) (as : List Value) (f : FT) (sz : Nat) : Array Value → State → Prop := fun a U => FPX G as f sz a U ∧ FS b L xs f sz U
theorem FPS.blind {G : GG} {b L : Nat} {xs : Nat → Int32} {as : List Value} {f : FT} {sz : Nat} : FrameBlind (FPS G b L xs as f sz) := fun a U g mk q => ⟨FP.blind a U g mk q.1, va_X.moved (u := U) (U := U.calling g mk a) (Vm.Alike.refl U.vm) q.2.1, q.2.2⟩
theorem FPXS.blind {G : GG} {b L : Nat} {xs : Nat → Int32} {as : List Value} {f : FT} {sz : Nat} : FrameBlind (FPXS G b L xs as f sz) := fun a U g mk q => ⟨FPX.blind a U g mk q.1, va_X.moved (u := U) (U := U.calling g mk a) (Vm.Alike.refl U.vm) q.2.1, q.2.2⟩
theorem FS.go {G : GG} {A : Nat → Prop} {b L : Nat} {xs : Nat → Int32} {f : FT} {H : Heap} {locs : List Loc} {s : State} (hXs : va_X b L xs s s.heap) (hbl : b < s.heap.size) (hbA : ¬ A b) (hF : Fw G A f H) (hS : va_S A s.heap H locs) : ∀ U : State, U.heap = H → s.WarmedH U.vm → FS b L xs f H.size U := fun U hU hW => by
  refine ⟨by rw [hU]; exact va_X.moved hW.alike (va_X.kept hXs (hS.2.1 b hbl hbA)), Nat.lt_of_lt_of_le hbl hS.1, ?_⟩
  cases h : f b with
  | none => rfl
  | some e => exact absurd (hF.in h).1 hbA
theorem fA_not {f : FT} {sz b : Nat} (h1 : b < sz) (h2 : f b = none) : ¬ fA f sz b := fun h => by
  rcases h with ⟨e, h⟩ | h
  · rw [h2] at h; cases h
  · omega
section FWS
variable {p : Program} {l : Launch} {e : Env} {R : Room} {s : State} {m : MethodId} {args : Array Value} {below : List Frame} {meth : Method} {c : Code} {H : Heap} {locs : List Loc} {cells slots : Nat} {Q : State → Prop}
variable {G : GG} {A : Nat → Prop} {f : FT} {cc : ByteArray} {pc : Nat} {ls : Array Slot} {rest st0 As : List Value}
variable {y : MethodName} {bytes : ByteArray} {maxL nL mc ms n index : Nat} {ret : Option FieldType} {ws : List Cond} {rm : Room} {Ts : List Cond} {own C : String} {b bs L : Nat} {xs : Nat → Int32}
theorem fy_cV_i (S : CallFix p m c cc nL s args Ts own) {post : Int32 → FT → Prop} (hM : vx_Met l y ws rm (FPX G (.ref b :: As) f H.size) (va_Qi post (FB G (fA f H.size)) (fA f H.size)) (FXC G (fA f H.size) (fun _ _ => False)) mc ms (fA f H.size)) (cw : CallW R s args own C index y bytes maxL ret ws rm mc ms n) {ci : Nat} {fs : List Value} {T : u_T} {N : Nat} (hc : vwCl[ci]? = some (C, T, N)) (he : f b = some (.inr (ci, fs))) (hK : FK G s) (hZ : FZ G A s s.heap) (hX : FX9 G A s s.heap) (hF : Fw G A f H) (hS : va_S A s.heap H locs) (hA : ∀ q, s.heap.size ≤ q → A q) (hn : As.length = n) (hsize : ls.size = nL) (hst : st0 = As.reverse ++ .ref b :: rest) (hW : (rest.map fun v => v.category).sum ≤ 8) (hdg : decode cc pc = .ok (.invokevirtual index, 3)) (hf : cells + mc ≤ R.cells ∧ slots + ms ≤ R.slots)
    (kk : ∀ (r : Int32) (f1 : FT) (H1 : Heap) (locs1 : List Loc), post r f1 → Fw G A f1 H1 → va_S A s.heap H1 locs1 → W p l e R s m args below meth c H1 locs1 (cells + mc) (slots + ms) Q (F0 m (pc + 3) ls (.int r :: rest))) : W p l e R s m args below meth c H locs cells slots Q (F0 m pc ls st0) := by
  have hfr := hF.free hS hA
  refine vx_calli (vx_runV S hM cw ⟨FPX.blind, Fw.recv hK hF hc he, FPX.go hF hK hZ hX hS hfr⟩ rfl hn hsize hst (lv_room hW) hdg hf) hS (fun q _ h => hfr q h) hfr (fun q _ h => hfr q h) (fun E ce q9 u t H1 locs1 ht hvm hp hB hz1 hk1 hS1 h5 h6 h7 => hp.elim) (fun r u t H1 locs1 ht hvm hw hB hz1 hk1 hS1 => ?_)
  exact kk r u H1 locs1 hw (by rw [← ht]; exact hB.1.weaken (fun q _ h => hfr q h)) hS1
theorem fs_cS_i_p (S : CallFix p m c cc nL s args Ts own) {K : Int32 → Prop} (hM : Met l y ws rm (FPS G bs L xs As f H.size) (va_Qi (fun r f9 => K r ∧ f9 = f : Int32 → FT → Prop) (FB G (fA f H.size)) (fA f H.size)) mc ms (fA f H.size)) (cw : CallB R s args own index y bytes maxL ret ws rm mc ms n ∧ (Cond.static y).before args s = true) (hK : FK G s) (hZ : FZ G A s s.heap) (hXs : va_X bs L xs s s.heap) (hbl : bs < s.heap.size) (hbA : ¬ A bs) (hF : Fw G A f H) (hS : va_S A s.heap H locs) (hA : ∀ q, s.heap.size ≤ q → A q) (hn : As.length = n) (hsize : ls.size = nL) (hst : st0 = As.reverse ++ rest) (hW : (rest.map fun v => v.category).sum ≤ 8) (hdg : decode cc pc = .ok (.invokestatic index, 3)) (hf : cells + mc ≤ R.cells ∧ slots + ms ≤ R.slots)
    (kk : ∀ (r : Int32) (H1 : Heap) (locs1 : List Loc), K r → Fw G A f H1 → va_S A s.heap H1 locs1 → W p l e R s m args below meth c H1 locs1 (cells + mc) (slots + ms) Q (F0 m (pc + 3) ls (.int r :: rest))) : W p l e R s m args below meth c H locs cells slots Q (F0 m pc ls st0) := by
  have hfr := hF.free hS hA
  refine va_calli (va_runS S hM cw ⟨FPS.blind, fun U hU hW => ⟨FP.go hF hK hZ hS hfr U hU hW, FS.go hXs hbl hbA hF hS U hU hW⟩⟩ rfl hn hsize hst (lv_room hW) hdg hf) hS (fun q _ h => hfr q h) hfr (fun r u t H1 locs1 ht hvm hw hB hz1 hk1 hS1 => ?_)
  obtain ⟨hp, rfl⟩ := hw
  exact kk r H1 locs1 hp (by rw [← ht]; exact hB.1.weaken (fun q _ h => hfr q h)) hS1
theorem fs_cS_v (S : CallFix p m c cc nL s args Ts own) {post : FT → Prop} (hM : Met l y ws rm (FPX G As f H.size) (va_Qv post (FB G (fA f H.size)) (fA f H.size)) mc ms (fA f H.size)) (cw : CallB R s args own index y bytes maxL ret ws rm mc ms n ∧ (Cond.static y).before args s = true) (hK : FK G s) (hZ : FZ G A s s.heap) (hX : FX9 G A s s.heap) (hF : Fw G A f H) (hS : va_S A s.heap H locs) (hA : ∀ q, s.heap.size ≤ q → A q) (hn : As.length = n) (hsize : ls.size = nL) (hst : st0 = As.reverse ++ rest) (hW : (rest.map fun v => v.category).sum ≤ 8) (hdg : decode cc pc = .ok (.invokestatic index, 3)) (hf : cells + mc ≤ R.cells ∧ slots + ms ≤ R.slots)
    (kk : ∀ (f1 : FT) (H1 : Heap) (locs1 : List Loc), post f1 → Fw G A f1 H1 → va_S A s.heap H1 locs1 → W p l e R s m args below meth c H1 locs1 (cells + mc) (slots + ms) Q (F0 m (pc + 3) ls rest)) : W p l e R s m args below meth c H locs cells slots Q (F0 m pc ls st0) := by
  have hfr := hF.free hS hA
  refine va_callv (va_runS S hM cw ⟨FPX.blind, FPX.go hF hK hZ hX hS hfr⟩ rfl hn hsize hst (lv_room hW) hdg hf) hS (fun q _ h => hfr q h) hfr (fun u t H1 locs1 ht hvm hw hB hz1 hk1 hS1 => ?_)
  exact kk u H1 locs1 hw (by rw [← ht]; exact hB.1.weaken (fun q _ h => hfr q h)) hS1
theorem fs_cS_q (S : CallFix p m c cc nL s args Ts own) {K : Nat → FT → Prop} (hM : Met l y ws rm (FPXS G bs L xs As f H.size) (va_Qq (fun r f9 => ∃ q, r = some q ∧ K q f9 : Option Nat → FT → Prop) (FB G (fA f H.size)) (fA f H.size)) mc ms (fA f H.size)) (cw : CallB R s args own index y bytes maxL ret ws rm mc ms n ∧ (Cond.static y).before args s = true) (hK : FK G s) (hZ : FZ G A s s.heap) (hX : FX9 G A s s.heap) (hXs : va_X bs L xs s s.heap) (hbl : bs < s.heap.size) (hbA : ¬ A bs) (hF : Fw G A f H) (hS : va_S A s.heap H locs) (hA : ∀ q, s.heap.size ≤ q → A q) (hn : As.length = n) (hsize : ls.size = nL) (hst : st0 = As.reverse ++ rest) (hW : (rest.map fun v => v.category).sum ≤ 8) (hdg : decode cc pc = .ok (.invokestatic index, 3)) (hf : cells + mc ≤ R.cells ∧ slots + ms ≤ R.slots)
    (kk : ∀ (r : Nat) (f1 : FT) (H1 : Heap) (locs1 : List Loc), K r f1 → Fw G A f1 H1 → va_S A s.heap H1 locs1 → W p l e R s m args below meth c H1 locs1 (cells + mc) (slots + ms) Q (F0 m (pc + 3) ls (.ref r :: rest))) : W p l e R s m args below meth c H locs cells slots Q (F0 m pc ls st0) := by
  have hfr := hF.free hS hA
  refine va_callq (va_runS S hM cw ⟨FPXS.blind, fun U hU hW => ⟨FPX.go hF hK hZ hX hS hfr U hU hW, FS.go hXs hbl hbA hF hS U hU hW⟩⟩ rfl hn hsize hst (lv_room hW) hdg hf) hS (fun q _ h => hfr q h) hfr (fun r u t H1 locs1 ht hvm hw hB hz1 hk1 hS1 => ?_)
  obtain ⟨q, rfl, hp⟩ := hw
  exact kk q u H1 locs1 hp (by rw [← ht]; exact hB.1.weaken (fun q _ h => hfr q h)) hS1
end FWS
