theorem dX9_thrown_0 : decode cX9_thrown 0 = .ok (.aload_n 0, 1) := by decide +kernel
theorem dX9_thrown_1 : decode cX9_thrown 1 = .ok (.getfield 77, 3) := by decide +kernel
theorem dX9_thrown_4 : decode cX9_thrown 4 = .ok (.ireturn, 1) := by decide +kernel
def wp_X9_thrown  (n : Nat → Int32) (g : Nat → Nat → Int32) (K : Int32 → Prop) : Prop :=
  K (n 0)
set_option maxHeartbeats 4000000 in
set_option maxRecDepth 100000 in
theorem cc_X9_thrown (l : Launch) (G : GG) {mo : Nat} {ad : Nat → Nat} (had : MAd mo ad) {n : Nat → Int32} {g : Nat → Nat → Int32} {sz : Nat}  {K : Int32 → Prop} (h : wp_X9_thrown  n g K) : Met l yX9_thrown wsX9_thrown ({ frames := 0, cells := 0, slots := 0, locals := 0 } : Room) (FP G [.ref mo] (mf mo ad n g) sz) (va_Qi (fun r f9 => K r ∧ f9 = mf mo ad n g : Int32 → FT → Prop) (FB G (fA (mf mo ad n g) sz)) (fA (mf mo ad n g) sz)) 0 0 (fA (mf mo ad n g) sz) := by
  refine Met.ofW (cc := cX9_thrown) (maxL := 1) (ret := (some .int)) (by decide) rfl ?_
  intro p e s m args below meth c s₁ B hml hv
  obtain ⟨rfl, hsz, hF, hK, hZ⟩ := hv
  have hx := B.exec
  have hb := B.bytes
  have hr := B.returns
  have hts := atoms_spec (ws := wsX9_thrown) B.pre
  have hown : s.vm.findClass RX9 = some m.cls := findClass_of_methodNamed B.named
  have hlocks := B.notSynchronized
  subst hsz
  have hF := hF.self (sz := s.heap.size)
  generalize hAe : fA (mf mo ad n g) s.heap.size = A at hF hZ ⊢
  have hA : ∀ q : Nat, s.heap.size ≤ q → A q := fun q h => by rw [← hAe]; exact Or.inr h
  have hS : va_S A s.heap s.heap [] := va_S.rf
  have hin_X9 : ∀ w ∈ wsX90, w ∈ wsX9_thrown := by decide +kernel
  have hl := lv_entry ([.ref mo]) (n := 1) (Nat.le_of_ble_eq_true rfl)
  rw [lg_entry_eq]
  generalize (lg_sl ([.ref mo]) ++ List.replicate (1 - (lg_sl ([.ref mo])).length) Slot.unset).toArray = ls at hl ⊢
  have hl : lv_has ls 1 [(0, .ref mo)] := hl
  unfold wp_X9_thrown at h
  refine lv_aload_n hx hb dX9_thrown_0 rfl (lv_at hl 0 rfl) ?_
  refine fw_get (C := RX9) (T := TX9) (N := 34) hx hb hts hin_X9 hown hK hF mf_obj rfl 0 (by decide) (hts (.fieldLink RX9 77 "FrontCodedIndexModel" "thrown" "I") (by decide +kernel)) (fun _ h9 => h9) rfl dX9_thrown_1 ?_
  exact W.iret (v := (n 0)) hx hb hr (fun t ht hW => ⟨⟨(n 0), (mf mo ad n g), rfl, ⟨h, rfl⟩, by rw [ht]; exact hF, FK.moved hW.alike hK⟩, hS.F ht⟩) hS.2.2 dX9_thrown_4
