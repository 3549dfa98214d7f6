def rawbits (b : UInt64) : Int64 := b.toInt64
theorem dJxe99ae_isNaN_b9ae7_0 : decode cJxe99ae_isNaN_b9ae7 0 = .ok (.dload_n 0, 1) := by decide +kernel
theorem dJxe99ae_isNaN_b9ae7_1 : decode cJxe99ae_isNaN_b9ae7 1 = .ok (.dload_n 0, 1) := by decide +kernel
theorem dJxe99ae_isNaN_b9ae7_2 : decode cJxe99ae_isNaN_b9ae7 2 = .ok (.dcmp .l, 1) := by decide +kernel
theorem dJxe99ae_isNaN_b9ae7_3 : decode cJxe99ae_isNaN_b9ae7 3 = .ok (.ifCond .eq 7, 3) := by decide +kernel
theorem dJxe99ae_isNaN_b9ae7_6 : decode cJxe99ae_isNaN_b9ae7 6 = .ok (.iconst 1, 1) := by decide +kernel
theorem dJxe99ae_isNaN_b9ae7_7 : decode cJxe99ae_isNaN_b9ae7 7 = .ok (.goto 4, 3) := by decide +kernel
theorem dJxe99ae_isNaN_b9ae7_10 : decode cJxe99ae_isNaN_b9ae7 10 = .ok (.iconst 0, 1) := by decide +kernel
theorem dJxe99ae_isNaN_b9ae7_11 : decode cJxe99ae_isNaN_b9ae7 11 = .ok (.ireturn, 1) := by decide +kernel
def wp_Jxe99ae_isNaN_b9ae7 (d0 : UInt64)  (K : Int32 → Prop) : Prop :=
  (((Op.cmpValue (FP.dcmp d0 d0) .l) = (0 : Int32) → K (0 : Int32)) ∧
 (¬ ((Op.cmpValue (FP.dcmp d0 d0) .l) = (0 : Int32)) → K (1 : Int32)))
set_option maxHeartbeats 4000000 in
set_option maxRecDepth 100000 in
theorem cc_Jxe99ae_isNaN_b9ae7 (l : Launch) (G : GG) {f : FT} {sz : Nat} {d0 : UInt64} {K : Int32 → Prop} (h : wp_Jxe99ae_isNaN_b9ae7 d0  K) : Met l yJxe99ae_isNaN_b9ae7 wsJxe99ae_isNaN_b9ae7 ({ frames := 0, cells := 0, slots := 0, locals := 0 } : Room) (FP G [.double d0] f sz) (va_Qi (fun r f9 => K r ∧ f9 = f : Int32 → FT → Prop) (FB G (fA f sz)) (fA f sz)) 0 0 (fA f sz) := by
  refine Met.ofW (cc := cJxe99ae_isNaN_b9ae7) (maxL := 2) (ret := (some .boolean)) (by decide) rfl ?_
  intro p e s m args below meth c s₁ B hml hv
  obtain ⟨rfl, hsz, hF, hK, hZ⟩ := hv
  have hx := B.exec
  have hb := B.bytes
  have hr := B.returns
  have hts := atoms_spec (ws := wsJxe99ae_isNaN_b9ae7) B.pre
  have hown : s.vm.findClass RJxe99ae = some m.cls := findClass_of_methodNamed B.named
  have hlocks := B.notSynchronized
  subst hsz
  have hF := hF.self (sz := s.heap.size)
  generalize hAe : fA f s.heap.size = A at hF hZ ⊢
  have hA : ∀ q : Nat, s.heap.size ≤ q → A q := fun q h => by rw [← hAe]; exact Or.inr h
  have hS : va_S A s.heap s.heap [] := va_S.rf
  have hl := lv_entry ([.double d0]) (n := 2) (Nat.le_of_ble_eq_true rfl)
  rw [lg_entry_eq]
  generalize (lg_sl ([.double d0]) ++ List.replicate (2 - (lg_sl ([.double d0])).length) Slot.unset).toArray = ls at hl ⊢
  have hl : lv_has ls 2 [(0, .double d0)] := hl
  unfold wp_Jxe99ae_isNaN_b9ae7 at h
  refine lv_dload_n hx hb dJxe99ae_isNaN_b9ae7_0 rfl (lv_at hl 0 rfl) ?_
  refine lv_dload_n hx hb dJxe99ae_isNaN_b9ae7_1 rfl (lv_at hl 0 rfl) ?_
  refine lv_dcmp hx hb dJxe99ae_isNaN_b9ae7_2 ?_
  obtain ⟨h1, h2⟩ := h
  refine lv_if_eq (tgt := 10) hx hb dJxe99ae_isNaN_b9ae7_3 (by decide) (fun c_1 => ?_) (fun c_1 => ?_)
  · have h := h1 c_1
    refine lv_iconst (v := (0 : Int32)) hx hb dJxe99ae_isNaN_b9ae7_10 (by decide) ?_
    exact W.zret (v := (0 : Int32)) hx hb hr (by decide) (fun t ht hW => ⟨⟨(0 : Int32), f, rfl, ⟨h, rfl⟩, by rw [ht]; exact hF, FK.moved hW.alike hK⟩, hS.F ht⟩) hS.2.2 dJxe99ae_isNaN_b9ae7_11
  · have h := h2 c_1
    refine lv_iconst (v := (1 : Int32)) hx hb dJxe99ae_isNaN_b9ae7_6 (by decide) ?_
    refine lv_goto (tgt := 11) hx hb dJxe99ae_isNaN_b9ae7_7 (by decide) ?_
    exact W.zret (v := (1 : Int32)) hx hb hr (by decide) (fun t ht hW => ⟨⟨(1 : Int32), f, rfl, ⟨h, rfl⟩, by rw [ht]; exact hF, FK.moved hW.alike hK⟩, hS.F ht⟩) hS.2.2 dJxe99ae_isNaN_b9ae7_11
theorem dJxe99ae_doubleToLongBits_ccdee_0 : decode cJxe99ae_doubleToLongBits_ccdee 0 = .ok (.dload_n 0, 1) := by decide +kernel
theorem dJxe99ae_doubleToLongBits_ccdee_1 : decode cJxe99ae_doubleToLongBits_ccdee 1 = .ok (.invokestatic 122, 3) := by decide +kernel
theorem dJxe99ae_doubleToLongBits_ccdee_4 : decode cJxe99ae_doubleToLongBits_ccdee 4 = .ok (.ifCond .ne 8, 3) := by decide +kernel
theorem dJxe99ae_doubleToLongBits_ccdee_7 : decode cJxe99ae_doubleToLongBits_ccdee 7 = .ok (.dload_n 0, 1) := by decide +kernel
theorem dJxe99ae_doubleToLongBits_ccdee_8 : decode cJxe99ae_doubleToLongBits_ccdee 8 = .ok (.invokestatic 134, 3) := by decide +kernel
theorem dJxe99ae_doubleToLongBits_ccdee_11 : decode cJxe99ae_doubleToLongBits_ccdee 11 = .ok (.lreturn, 1) := by decide +kernel
theorem dJxe99ae_doubleToLongBits_ccdee_12 : decode cJxe99ae_doubleToLongBits_ccdee 12 = .ok (.ldc2_w 137, 3) := by decide +kernel
theorem dJxe99ae_doubleToLongBits_ccdee_15 : decode cJxe99ae_doubleToLongBits_ccdee 15 = .ok (.lreturn, 1) := by decide +kernel
set_option maxRecDepth 20000 in
theorem ggJxe99ae_doubleToLongBits_ccdee_Jxe99ae_isNaN_b9ae7 : GoodIn wsJxe99ae_doubleToLongBits_ccdee wsJxe99ae_isNaN_b9ae7 := goodIn_r _ [9] (by decide +kernel) (by decide +kernel)
def wp_Jxe99ae_doubleToLongBits_ccdee (d0 : UInt64)  (K : Int64 → Prop) : Prop :=
  wp_Jxe99ae_isNaN_b9ae7 d0  (fun r_1 => ((¬ r_1 = (0 : Int32) → K (9221120237041090560 : Int64)) ∧
 (r_1 = (0 : Int32) → K (rawbits d0))))
set_option maxHeartbeats 4000000 in
set_option maxRecDepth 100000 in
theorem cc_Jxe99ae_doubleToLongBits_ccdee (l : Launch) (G : GG) {f : FT} {sz : Nat} {d0 : UInt64} {K : Int64 → Prop} (h : wp_Jxe99ae_doubleToLongBits_ccdee d0  K) : Met l yJxe99ae_doubleToLongBits_ccdee wsJxe99ae_doubleToLongBits_ccdee ({ frames := 1, cells := 0, slots := 0, locals := 24 } : Room) (FP G [.double d0] f sz) (va_Ql (fun r f9 => K r ∧ f9 = f : Int64 → FT → Prop) (FB G (fA f sz)) (fA f sz)) 0 0 (fA f sz) := by
  refine Met.ofW (cc := cJxe99ae_doubleToLongBits_ccdee) (maxL := 2) (ret := (some .long)) (by decide) rfl ?_
  intro p e s m args below meth c s₁ B hml hv
  obtain ⟨rfl, hsz, hF, hK, hZ⟩ := hv
  have hx := B.exec
  have hb := B.bytes
  have hr := B.returns
  have hts := atoms_spec (ws := wsJxe99ae_doubleToLongBits_ccdee) B.pre
  have hown : s.vm.findClass RJxe99ae = some m.cls := findClass_of_methodNamed B.named
  have hlocks := B.notSynchronized
  subst hsz
  have hF := hF.self (sz := s.heap.size)
  generalize hAe : fA f s.heap.size = A at hF hZ ⊢
  have hA : ∀ q : Nat, s.heap.size ≤ q → A q := fun q h => by rw [← hAe]; exact Or.inr h
  have hS : va_S A s.heap s.heap [] := va_S.rf
  have hl := lv_entry ([.double d0]) (n := 2) (Nat.le_of_ble_eq_true rfl)
  rw [lg_entry_eq]
  generalize (lg_sl ([.double d0]) ++ List.replicate (2 - (lg_sl ([.double d0])).length) Slot.unset).toArray = ls at hl ⊢
  have hl : lv_has ls 2 [(0, .double d0)] := hl
  unfold wp_Jxe99ae_doubleToLongBits_ccdee at h
  refine lv_dload_n hx hb dJxe99ae_doubleToLongBits_ccdee_0 rfl (lv_at hl 0 rfl) ?_
  refine fw_cS_i_p (As := [.double d0]) (rest := []) ⟨hx, hb, hml, hown, hts⟩ (cc_Jxe99ae_isNaN_b9ae7 l G h) (⟨callB_of 1 hts ggJxe99ae_doubleToLongBits_ccdee_Jxe99ae_isNaN_b9ae7 rfl rfl rfl (hts (.initialized RJxe99ae) (by decide +kernel)) (hts (.methodLink RJxe99ae 122 yJxe99ae_isNaN_b9ae7) (by decide +kernel)) (by decide +kernel) ⟨Nat.le_of_ble_eq_true rfl, Nat.le_of_ble_eq_true rfl⟩, hts (.static yJxe99ae_isNaN_b9ae7) (by decide +kernel)⟩) hK hZ hF hS hA rfl hl.1 rfl (Nat.le_of_ble_eq_true rfl) dJxe99ae_doubleToLongBits_ccdee_1 ⟨Nat.zero_le _, Nat.zero_le _⟩ (fun r_1 H locs h hF hS => ?_)
  obtain ⟨h1, h2⟩ := h
  refine lv_if_ne (tgt := 12) hx hb dJxe99ae_doubleToLongBits_ccdee_4 (by decide) (fun c_2 => ?_) (fun c_2 => ?_)
  · have h := h1 c_2
    refine lv_ldc2 hx hb hown (hts (.constantLong RJxe99ae 137 (9221120237041090560 : Int64)) (by decide +kernel)) dJxe99ae_doubleToLongBits_ccdee_12 ?_
    exact W.lret (v := (9221120237041090560 : Int64)) hx hb hr (fun t ht hW => ⟨⟨(9221120237041090560 : Int64), f, rfl, ⟨h, rfl⟩, by rw [ht]; exact hF, FK.moved hW.alike hK⟩, hS.F ht⟩) hS.2.2 dJxe99ae_doubleToLongBits_ccdee_15
  · have h := h2 c_2
    refine lv_dload_n hx hb dJxe99ae_doubleToLongBits_ccdee_7 rfl (lv_at hl 0 rfl) ?_
    refine vn_d2l hx hb (hml.trans hl.1.symm) hown (hts (.methodLink RJxe99ae 134 ⟨"java/lang/Double", "doubleToRawLongBits", "(D)J"⟩) (by decide +kernel)) (hts (.native ⟨"java/lang/Double", "doubleToRawLongBits", "(D)J"⟩) (by decide +kernel)) (hts (.static ⟨"java/lang/Double", "doubleToRawLongBits", "(D)J"⟩) (by decide +kernel)) (hts (.initialized "java/lang/Double") (by decide +kernel)) (Nat.le_of_ble_eq_true rfl) (Nat.le_of_ble_eq_true rfl) dJxe99ae_doubleToLongBits_ccdee_8 ?_
    exact W.lret (v := (rawbits d0)) hx hb hr (fun t ht hW => ⟨⟨(rawbits d0), f, rfl, ⟨h, rfl⟩, by rw [ht]; exact hF, FK.moved hW.alike hK⟩, hS.F ht⟩) hS.2.2 dJxe99ae_doubleToLongBits_ccdee_11
theorem dX8_bitsOf_0 : decode cX8_bitsOf 0 = .ok (.dload_n 0, 1) := by decide +kernel
theorem dX8_bitsOf_1 : decode cX8_bitsOf 1 = .ok (.dstore_n 2, 1) := by decide +kernel
theorem dX8_bitsOf_2 : decode cX8_bitsOf 2 = .ok (.iconst 0, 1) := by decide +kernel
theorem dX8_bitsOf_3 : decode cX8_bitsOf 3 = .ok (.istore 4, 2) := by decide +kernel
theorem dX8_bitsOf_5 : decode cX8_bitsOf 5 = .ok (.dload_n 2, 1) := by decide +kernel
theorem dX8_bitsOf_6 : decode cX8_bitsOf 6 = .ok (.ldc2_w 281, 3) := by decide +kernel
theorem dX8_bitsOf_9 : decode cX8_bitsOf 9 = .ok (.dcmp .l, 1) := by decide +kernel
theorem dX8_bitsOf_10 : decode cX8_bitsOf 10 = .ok (.ifCond .lt 23, 3) := by decide +kernel
theorem dX8_bitsOf_13 : decode cX8_bitsOf 13 = .ok (.iload 4, 2) := by decide +kernel
theorem dX8_bitsOf_15 : decode cX8_bitsOf 15 = .ok (.sipush 1023, 3) := by decide +kernel
theorem dX8_bitsOf_18 : decode cX8_bitsOf 18 = .ok (.if_icmp .ge 15, 3) := by decide +kernel
theorem dX8_bitsOf_21 : decode cX8_bitsOf 21 = .ok (.dload_n 2, 1) := by decide +kernel
theorem dX8_bitsOf_22 : decode cX8_bitsOf 22 = .ok (.ldc2_w 281, 3) := by decide +kernel
theorem dX8_bitsOf_25 : decode cX8_bitsOf 25 = .ok (.ddiv, 1) := by decide +kernel
theorem dX8_bitsOf_26 : decode cX8_bitsOf 26 = .ok (.dstore_n 2, 1) := by decide +kernel
theorem dX8_bitsOf_27 : decode cX8_bitsOf 27 = .ok (.iinc 4 1, 3) := by decide +kernel
theorem dX8_bitsOf_30 : decode cX8_bitsOf 30 = .ok (.goto (-25), 3) := by decide +kernel
theorem dX8_bitsOf_33 : decode cX8_bitsOf 33 = .ok (.dload_n 2, 1) := by decide +kernel
theorem dX8_bitsOf_34 : decode cX8_bitsOf 34 = .ok (.dconst 1, 1) := by decide +kernel
theorem dX8_bitsOf_35 : decode cX8_bitsOf 35 = .ok (.dcmp .g, 1) := by decide +kernel
theorem dX8_bitsOf_36 : decode cX8_bitsOf 36 = .ok (.ifCond .ge 23, 3) := by decide +kernel
theorem dX8_bitsOf_39 : decode cX8_bitsOf 39 = .ok (.iload 4, 2) := by decide +kernel
theorem dX8_bitsOf_41 : decode cX8_bitsOf 41 = .ok (.sipush (-1022), 3) := by decide +kernel
theorem dX8_bitsOf_44 : decode cX8_bitsOf 44 = .ok (.if_icmp .le 15, 3) := by decide +kernel
theorem dX8_bitsOf_47 : decode cX8_bitsOf 47 = .ok (.dload_n 2, 1) := by decide +kernel
theorem dX8_bitsOf_48 : decode cX8_bitsOf 48 = .ok (.ldc2_w 281, 3) := by decide +kernel
theorem dX8_bitsOf_51 : decode cX8_bitsOf 51 = .ok (.dmul, 1) := by decide +kernel
theorem dX8_bitsOf_52 : decode cX8_bitsOf 52 = .ok (.dstore_n 2, 1) := by decide +kernel
theorem dX8_bitsOf_53 : decode cX8_bitsOf 53 = .ok (.iinc 4 (-1), 3) := by decide +kernel
theorem dX8_bitsOf_56 : decode cX8_bitsOf 56 = .ok (.goto (-23), 3) := by decide +kernel
theorem dX8_bitsOf_59 : decode cX8_bitsOf 59 = .ok (.dload_n 2, 1) := by decide +kernel
theorem dX8_bitsOf_60 : decode cX8_bitsOf 60 = .ok (.dconst 1, 1) := by decide +kernel
theorem dX8_bitsOf_61 : decode cX8_bitsOf 61 = .ok (.dsub, 1) := by decide +kernel
theorem dX8_bitsOf_62 : decode cX8_bitsOf 62 = .ok (.ldc2_w 283, 3) := by decide +kernel
theorem dX8_bitsOf_65 : decode cX8_bitsOf 65 = .ok (.dmul, 1) := by decide +kernel
theorem dX8_bitsOf_66 : decode cX8_bitsOf 66 = .ok (.d2l, 1) := by decide +kernel
theorem dX8_bitsOf_67 : decode cX8_bitsOf 67 = .ok (.lstore 5, 2) := by decide +kernel
theorem dX8_bitsOf_69 : decode cX8_bitsOf 69 = .ok (.iload 4, 2) := by decide +kernel
theorem dX8_bitsOf_71 : decode cX8_bitsOf 71 = .ok (.sipush 1023, 3) := by decide +kernel
theorem dX8_bitsOf_74 : decode cX8_bitsOf 74 = .ok (.iadd, 1) := by decide +kernel
theorem dX8_bitsOf_75 : decode cX8_bitsOf 75 = .ok (.i2l, 1) := by decide +kernel
theorem dX8_bitsOf_76 : decode cX8_bitsOf 76 = .ok (.bipush 52, 2) := by decide +kernel
theorem dX8_bitsOf_78 : decode cX8_bitsOf 78 = .ok (.lshl, 1) := by decide +kernel
theorem dX8_bitsOf_79 : decode cX8_bitsOf 79 = .ok (.lload 5, 2) := by decide +kernel
theorem dX8_bitsOf_81 : decode cX8_bitsOf 81 = .ok (.lor, 1) := by decide +kernel
theorem dX8_bitsOf_82 : decode cX8_bitsOf 82 = .ok (.lreturn, 1) := by decide +kernel
def wp_X8_bitsOf_59  (ud2 : UInt64) (y4 : Int32) (f : FT) (K : Int64 → Prop)  : Prop :=
  vf_n64 (FP.dsub ud2 FP.dconst1) ∧ ∀ d_1 : UInt64, d_1 = (FP.dsub ud2 FP.dconst1) → vf_n64 (FP.dmul d_1 (4841369599423283200 : UInt64)) ∧ ∀ d_2 : UInt64, d_2 = (FP.dmul d_1 (4841369599423283200 : UInt64)) → ∀ v_3 : Int64, v_3 = (FP.d2l d_2) → K (((Int32.toInt64 (y4 + (1023 : Int32))) <<< ((52 : Int32).toInt64 &&& 63)) ||| v_3)
def wp_X8_bitsOf_33  (f : FT) (K : Int64 → Prop)  (C33 : UInt64 × Int32 → Prop) : UInt64 × Int32 → Prop := fun s9 => match s9 with
  | (ud2, y4) => (((0 : Int32) ≤ (Op.cmpValue (FP.dcmp ud2 FP.dconst1) .g) → wp_X8_bitsOf_59 ud2 y4 f K) ∧
 (¬ ((0 : Int32) ≤ (Op.cmpValue (FP.dcmp ud2 FP.dconst1) .g)) → ((y4 ≤ (-1022 : Int32) → wp_X8_bitsOf_59 ud2 y4 f K) ∧
 (¬ (y4 ≤ (-1022 : Int32)) → vf_n64 (FP.dmul ud2 (4611686018427387904 : UInt64)) ∧ ∀ d_7 : UInt64, d_7 = (FP.dmul ud2 (4611686018427387904 : UInt64)) → ∀ v_8 : Int32, v_8 = y4 + (-1) → C33 (d_7, v_8)))))
def wp_X8_bitsOf_5  (f : FT) (K : Int64 → Prop)  (C5 : UInt64 × Int32 → Prop) : UInt64 × Int32 → Prop := fun s9 => match s9 with
  | (ud2, y4) => (((Op.cmpValue (FP.dcmp ud2 (4611686018427387904 : UInt64)) .l) < (0 : Int32) → ∃ n_11, loopW (wp_X8_bitsOf_33 f K) n_11 (ud2, y4)) ∧
 (¬ ((Op.cmpValue (FP.dcmp ud2 (4611686018427387904 : UInt64)) .l) < (0 : Int32)) → (((1023 : Int32) ≤ y4 → ∃ n_13, loopW (wp_X8_bitsOf_33 f K) n_13 (ud2, y4)) ∧
 (¬ ((1023 : Int32) ≤ y4) → vf_n64 (FP.ddiv ud2 (4611686018427387904 : UInt64)) ∧ ∀ d_14 : UInt64, d_14 = (FP.ddiv ud2 (4611686018427387904 : UInt64)) → ∀ v_15 : Int32, v_15 = y4 + 1 → C5 (d_14, v_15)))))
def wp_X8_bitsOf (d0 : UInt64) (f : FT) (K : Int64 → Prop) : Prop :=
  ∃ n_17, loopW (wp_X8_bitsOf_5 f K) n_17 (d0, (0 : Int32))
set_option maxHeartbeats 4000000 in
set_option maxRecDepth 100000 in
theorem cc_X8_bitsOf (l : Launch) (G : GG) {f : FT} {sz : Nat} {d0 : UInt64} {K : Int64 → Prop} (h : wp_X8_bitsOf d0 f K) : Met l yX8_bitsOf wsX8_bitsOf ({ frames := 0, cells := 0, slots := 0, locals := 0 } : Room) (FP G [.double d0] f sz) (va_Ql (fun r f9 => K r ∧ f9 = f : Int64 → FT → Prop) (FB G (fA f sz)) (fA f sz)) 0 0 (fA f sz) := by
  refine Met.ofW (cc := cX8_bitsOf) (maxL := 7) (ret := (some .long)) (by decide) rfl ?_
  intro p e s m args below meth c s₁ B hml hv
  obtain ⟨rfl, hsz, hF, hK, hZ⟩ := hv
  have hx := B.exec
  have hb := B.bytes
  have hr := B.returns
  have hts := atoms_spec (ws := wsX8_bitsOf) B.pre
  have hown : s.vm.findClass RX8 = some m.cls := findClass_of_methodNamed B.named
  have hlocks := B.notSynchronized
  subst hsz
  have hF := hF.self (sz := s.heap.size)
  generalize hAe : fA f s.heap.size = A at hF hZ ⊢
  have hA : ∀ q : Nat, s.heap.size ≤ q → A q := fun q h => by rw [← hAe]; exact Or.inr h
  have hS : va_S A s.heap s.heap [] := va_S.rf
  have J59 : ∀ (ud2 : UInt64) (y4 : Int32) (H : Heap) (locs : List Loc) (ls : Array Slot), wp_X8_bitsOf_59 ud2 y4 f K  → Fw G A f H → va_S A s.heap H locs → lv_has ls 7 [(2, .double ud2), (4, .int y4)] → W p l e ({ frames := 0, cells := 0, slots := 0, locals := 0 } : Room) s m ([.double d0] : List Value).toArray below meth c H locs 0 0 (MQ below (va_Ql (fun r f9 => K r ∧ f9 = f : Int64 → FT → Prop) (FB G A) A) ([.double d0] : List Value).toArray s 0 0 A) (F0 m 59 ls []) := by
    intro ud2 y4 H locs ls h hF hS hl
    unfold wp_X8_bitsOf_59 at h
    refine lv_dload_n hx hb dX8_bitsOf_59 rfl (lv_at hl 0 rfl) ?_
    refine lv_dconst1 hx hb dX8_bitsOf_60 ?_
    obtain ⟨hne, h⟩ := h
    refine lv_dsub hx hb dX8_bitsOf_61 hne ?_
    refine lv_topd (fun d_1 e_d_1 => ?_)
    have h := h d_1 e_d_1
    refine lv_ldc2d hx hb hown (hts (.constantDouble RX8 283 (4841369599423283200 : UInt64)) (by decide +kernel)) dX8_bitsOf_62 ?_
    obtain ⟨hne, h⟩ := h
    refine lv_dmul hx hb dX8_bitsOf_65 hne ?_
    refine lv_topd (fun d_2 e_d_2 => ?_)
    have h := h d_2 e_d_2
    refine lv_d2l hx hb dX8_bitsOf_66 ?_
    refine lv_topl (fun v_3 e_4 => ?_)
    have h := h v_3 e_4
    refine lv_lstore (lv' := [(5, .long v_3), (2, .double ud2), (4, .int y4)]) hx hb dX8_bitsOf_67 hl (by decide) rfl (fun ls hl => ?_)
    refine lv_iload hx hb dX8_bitsOf_69 (lv_at hl 2 rfl) ?_
    refine lv_sipush (v := (1023 : Int32)) hx hb dX8_bitsOf_71 (by decide) ?_
    refine lv_iadd hx hb dX8_bitsOf_74 ?_
    refine lv_i2l (v := (Int32.toInt64 (y4 + (1023 : Int32)))) hx hb dX8_bitsOf_75 rfl ?_
    refine lv_bipush (v := (52 : Int32)) hx hb dX8_bitsOf_76 (by decide) ?_
    refine lv_lshl (v := ((Int32.toInt64 (y4 + (1023 : Int32))) <<< ((52 : Int32).toInt64 &&& 63))) hx hb dX8_bitsOf_78 rfl ?_
    refine lv_lload hx hb dX8_bitsOf_79 (lv_at hl 0 rfl) ?_
    refine lv_lor hx hb dX8_bitsOf_81 ?_
    exact W.lret (v := (((Int32.toInt64 (y4 + (1023 : Int32))) <<< ((52 : Int32).toInt64 &&& 63)) ||| v_3)) hx hb hr (fun t ht hW => ⟨⟨(((Int32.toInt64 (y4 + (1023 : Int32))) <<< ((52 : Int32).toInt64 &&& 63)) ||| v_3), f, rfl, ⟨h, rfl⟩, by rw [ht]; exact hF, FK.moved hW.alike hK⟩, hS.F ht⟩) hS.2.2 dX8_bitsOf_82
  have L33 : ∀  (j9 : Nat) (ud2 : UInt64) (y4 : Int32) (H : Heap) (locs : List Loc) (ls : Array Slot), loopW (wp_X8_bitsOf_33  f K ) j9 (ud2, y4) → Fw G A f H → va_S A s.heap H locs → lv_has ls 7 [(2, .double ud2), (4, .int y4)] → W p l e ({ frames := 0, cells := 0, slots := 0, locals := 0 } : Room) s m ([.double d0] : List Value).toArray below meth c H locs 0 0 (MQ below (va_Ql (fun r f9 => K r ∧ f9 = f : Int64 → FT → Prop) (FB G A) A) ([.double d0] : List Value).toArray s 0 0 A) (F0 m 33 ls []) := by
    intro  j9
    induction j9 with
    | zero => intro ud2 y4 H locs ls h; exact h.elim
    | succ j9 ih33 =>
      intro ud2 y4 H locs ls h hF hS hl
      have h : wp_X8_bitsOf_33  f K  (loopW (wp_X8_bitsOf_33  f K ) j9) (ud2, y4) := h
      generalize loopW (wp_X8_bitsOf_33  f K ) j9 = C33 at ih33 h
      unfold wp_X8_bitsOf_33 at h
      refine lv_dload_n hx hb dX8_bitsOf_33 rfl (lv_at hl 0 rfl) ?_
      refine lv_dconst1 hx hb dX8_bitsOf_34 ?_
      refine lv_dcmp hx hb dX8_bitsOf_35 ?_
      obtain ⟨h1, h2⟩ := h
      refine lv_if_ge (tgt := 59) hx hb dX8_bitsOf_36 (by decide) (fun c_5 => ?_) (fun c_5 => ?_)
      · have h := h1 c_5
        exact J59 ud2 y4 _ _ _ h hF hS (lv_sub hl [0, 1] rfl)
      · have h := h2 c_5
        refine lv_iload hx hb dX8_bitsOf_39 (lv_at hl 1 rfl) ?_
        refine lv_sipush (v := (-1022 : Int32)) hx hb dX8_bitsOf_41 (by decide) ?_
        obtain ⟨h1, h2⟩ := h
        refine lv_icmp_le (tgt := 59) hx hb dX8_bitsOf_44 (by decide) (fun c_6 => ?_) (fun c_6 => ?_)
        · have h := h1 c_6
          exact J59 ud2 y4 _ _ _ h hF hS (lv_sub hl [0, 1] rfl)
        · have h := h2 c_6
          refine lv_dload_n hx hb dX8_bitsOf_47 rfl (lv_at hl 0 rfl) ?_
          refine lv_ldc2d hx hb hown (hts (.constantDouble RX8 281 (4611686018427387904 : UInt64)) (by decide +kernel)) dX8_bitsOf_48 ?_
          obtain ⟨hne, h⟩ := h
          refine lv_dmul hx hb dX8_bitsOf_51 hne ?_
          refine lv_topd (fun d_7 e_d_7 => ?_)
          have h := h d_7 e_d_7
          refine lv_dstore_n (lv' := [(2, .double d_7), (4, .int y4)]) hx hb dX8_bitsOf_52 rfl hl (by decide) rfl (fun ls hl => ?_)
          obtain ⟨v_8, e_9⟩ : ∃ y : Int32, y = y4 + (-1) := ⟨_, rfl⟩
          have h := h v_8 e_9
          refine lv_iinc (v := v_8) (lv' := [(4, .int v_8), (2, .double d_7)]) hx hb dX8_bitsOf_53 hl (k := 1) rfl (by rw [e_9]; rfl) (by decide) rfl (fun ls hl => ?_)
          refine lv_goto (tgt := 33) hx hb dX8_bitsOf_56 (by decide) ?_
          exact ih33 d_7 v_8 _ _ _ h hF hS (lv_sub hl [1, 0] rfl)
  have L5 : ∀  (j9 : Nat) (ud2 : UInt64) (y4 : Int32) (H : Heap) (locs : List Loc) (ls : Array Slot), loopW (wp_X8_bitsOf_5  f K ) j9 (ud2, y4) → Fw G A f H → va_S A s.heap H locs → lv_has ls 7 [(2, .double ud2), (4, .int y4)] → W p l e ({ frames := 0, cells := 0, slots := 0, locals := 0 } : Room) s m ([.double d0] : List Value).toArray below meth c H locs 0 0 (MQ below (va_Ql (fun r f9 => K r ∧ f9 = f : Int64 → FT → Prop) (FB G A) A) ([.double d0] : List Value).toArray s 0 0 A) (F0 m 5 ls []) := by
    intro  j9
    induction j9 with
    | zero => intro ud2 y4 H locs ls h; exact h.elim
    | succ j9 ih5 =>
      intro ud2 y4 H locs ls h hF hS hl
      have h : wp_X8_bitsOf_5  f K  (loopW (wp_X8_bitsOf_5  f K ) j9) (ud2, y4) := h
      generalize loopW (wp_X8_bitsOf_5  f K ) j9 = C5 at ih5 h
      unfold wp_X8_bitsOf_5 at h
      refine lv_dload_n hx hb dX8_bitsOf_5 rfl (lv_at hl 0 rfl) ?_
      refine lv_ldc2d hx hb hown (hts (.constantDouble RX8 281 (4611686018427387904 : UInt64)) (by decide +kernel)) dX8_bitsOf_6 ?_
      refine lv_dcmp hx hb dX8_bitsOf_9 ?_
      obtain ⟨h1, h2⟩ := h
      refine lv_if_lt (tgt := 33) hx hb dX8_bitsOf_10 (by decide) (fun c_10 => ?_) (fun c_10 => ?_)
      · have h := h1 c_10
        obtain ⟨n_11, h⟩ := h
        exact L33 n_11 ud2 y4 _ _ _ h hF hS (lv_sub hl [0, 1] rfl)
      · have h := h2 c_10
        refine lv_iload hx hb dX8_bitsOf_13 (lv_at hl 1 rfl) ?_
        refine lv_sipush (v := (1023 : Int32)) hx hb dX8_bitsOf_15 (by decide) ?_
        obtain ⟨h1, h2⟩ := h
        refine lv_icmp_ge (tgt := 33) hx hb dX8_bitsOf_18 (by decide) (fun c_12 => ?_) (fun c_12 => ?_)
        · have h := h1 c_12
          obtain ⟨n_13, h⟩ := h
          exact L33 n_13 ud2 y4 _ _ _ h hF hS (lv_sub hl [0, 1] rfl)
        · have h := h2 c_12
          refine lv_dload_n hx hb dX8_bitsOf_21 rfl (lv_at hl 0 rfl) ?_
          refine lv_ldc2d hx hb hown (hts (.constantDouble RX8 281 (4611686018427387904 : UInt64)) (by decide +kernel)) dX8_bitsOf_22 ?_
          obtain ⟨hne, h⟩ := h
          refine lv_ddiv hx hb dX8_bitsOf_25 hne ?_
          refine lv_topd (fun d_14 e_d_14 => ?_)
          have h := h d_14 e_d_14
          refine lv_dstore_n (lv' := [(2, .double d_14), (4, .int y4)]) hx hb dX8_bitsOf_26 rfl hl (by decide) rfl (fun ls hl => ?_)
          obtain ⟨v_15, e_16⟩ : ∃ y : Int32, y = y4 + 1 := ⟨_, rfl⟩
          have h := h v_15 e_16
          refine lv_iinc (v := v_15) (lv' := [(4, .int v_15), (2, .double d_14)]) hx hb dX8_bitsOf_27 hl (k := 1) rfl (by rw [e_16]; rfl) (by decide) rfl (fun ls hl => ?_)
          refine lv_goto (tgt := 5) hx hb dX8_bitsOf_30 (by decide) ?_
          exact ih5 d_14 v_15 _ _ _ h hF hS (lv_sub hl [1, 0] rfl)
  have hl := lv_entry ([.double d0]) (n := 7) (Nat.le_of_ble_eq_true rfl)
  rw [lg_entry_eq]
  generalize (lg_sl ([.double d0]) ++ List.replicate (7 - (lg_sl ([.double d0])).length) Slot.unset).toArray = ls at hl ⊢
  have hl : lv_has ls 7 [(0, .double d0)] := hl
  unfold wp_X8_bitsOf at h
  refine lv_dload_n hx hb dX8_bitsOf_0 rfl (lv_at hl 0 rfl) ?_
  refine lv_dstore_n (lv' := [(2, .double d0), (0, .double d0)]) hx hb dX8_bitsOf_1 rfl hl (by decide) rfl (fun ls hl => ?_)
  refine lv_iconst (v := (0 : Int32)) hx hb dX8_bitsOf_2 (by decide) ?_
  refine lv_istore (lv' := [(4, .int (0 : Int32)), (2, .double d0), (0, .double d0)]) hx hb dX8_bitsOf_3 hl (by decide) rfl (fun ls hl => ?_)
  obtain ⟨n_17, h⟩ := h
  exact L5 n_17 d0 (0 : Int32) _ _ _ h hF hS (lv_sub hl [1, 0] rfl)
theorem dX8_occupancyBits_0 : decode cX8_occupancyBits 0 = .ok (.aload_n 0, 1) := by decide +kernel
theorem dX8_occupancyBits_1 : decode cX8_occupancyBits 1 = .ok (.getfield 10, 3) := by decide +kernel
theorem dX8_occupancyBits_4 : decode cX8_occupancyBits 4 = .ok (.iconst 0, 1) := by decide +kernel
theorem dX8_occupancyBits_5 : decode cX8_occupancyBits 5 = .ok (.invokevirtual 179, 3) := by decide +kernel
theorem dX8_occupancyBits_8 : decode cX8_occupancyBits 8 = .ok (.iconst 1, 1) := by decide +kernel
theorem dX8_occupancyBits_9 : decode cX8_occupancyBits 9 = .ok (.invokestatic 153, 3) := by decide +kernel
theorem dX8_occupancyBits_12 : decode cX8_occupancyBits 12 = .ok (.i2d, 1) := by decide +kernel
theorem dX8_occupancyBits_13 : decode cX8_occupancyBits 13 = .ok (.dstore_n 1, 1) := by decide +kernel
theorem dX8_occupancyBits_14 : decode cX8_occupancyBits 14 = .ok (.aload_n 0, 1) := by decide +kernel
theorem dX8_occupancyBits_15 : decode cX8_occupancyBits 15 = .ok (.getfield 10, 3) := by decide +kernel
theorem dX8_occupancyBits_18 : decode cX8_occupancyBits 18 = .ok (.getfield 116, 3) := by decide +kernel
theorem dX8_occupancyBits_21 : decode cX8_occupancyBits 21 = .ok (.iconst 1, 1) := by decide +kernel
theorem dX8_occupancyBits_22 : decode cX8_occupancyBits 22 = .ok (.invokestatic 153, 3) := by decide +kernel
theorem dX8_occupancyBits_25 : decode cX8_occupancyBits 25 = .ok (.i2d, 1) := by decide +kernel
theorem dX8_occupancyBits_26 : decode cX8_occupancyBits 26 = .ok (.dstore_n 3, 1) := by decide +kernel
theorem dX8_occupancyBits_27 : decode cX8_occupancyBits 27 = .ok (.aload_n 0, 1) := by decide +kernel
theorem dX8_occupancyBits_28 : decode cX8_occupancyBits 28 = .ok (.iconst 1, 1) := by decide +kernel
theorem dX8_occupancyBits_29 : decode cX8_occupancyBits 29 = .ok (.invokevirtual 200, 3) := by decide +kernel
theorem dX8_occupancyBits_32 : decode cX8_occupancyBits 32 = .ok (.i2d, 1) := by decide +kernel
theorem dX8_occupancyBits_33 : decode cX8_occupancyBits 33 = .ok (.ldc2_w 217, 3) := by decide +kernel
theorem dX8_occupancyBits_36 : decode cX8_occupancyBits 36 = .ok (.dmul, 1) := by decide +kernel
theorem dX8_occupancyBits_37 : decode cX8_occupancyBits 37 = .ok (.dload_n 1, 1) := by decide +kernel
theorem dX8_occupancyBits_38 : decode cX8_occupancyBits 38 = .ok (.ddiv, 1) := by decide +kernel
theorem dX8_occupancyBits_39 : decode cX8_occupancyBits 39 = .ok (.dload_n 3, 1) := by decide +kernel
theorem dX8_occupancyBits_40 : decode cX8_occupancyBits 40 = .ok (.ddiv, 1) := by decide +kernel
theorem dX8_occupancyBits_41 : decode cX8_occupancyBits 41 = .ok (.invokestatic 219, 3) := by decide +kernel
theorem dX8_occupancyBits_44 : decode cX8_occupancyBits 44 = .ok (.lreturn, 1) := by decide +kernel
set_option maxRecDepth 20000 in
theorem ggX8_occupancyBits_X7_pageTotal : GoodIn wsX8_occupancyBits wsX7_pageTotal := goodIn_r _ [11, 12, 13, 14, 10, 15, 16, 17, 18, 19, 20, 21, 22, 23, 24, 25, 26, 27, 28, 29, 30, 31, 32, 33, 34, 35, 36, 37, 38, 39, 40, 41, 42, 43, 44, 45, 46, 47, 115, 116, 117, 118, 119, 120, 121, 122, 123, 124, 125, 126, 127] (by decide +kernel) (by decide +kernel)
set_option maxRecDepth 20000 in
theorem ggX8_occupancyBits_X8_bitsOf : GoodIn wsX8_occupancyBits wsX8_bitsOf := goodIn_r _ [103, 104, 105] (by decide +kernel) (by decide +kernel)
set_option maxRecDepth 20000 in
theorem ggX8_occupancyBits_X8_bytesOfTiers : GoodIn wsX8_occupancyBits wsX8_bytesOfTiers := goodIn_r _ [52, 1, 7, 8, 9, 10, 11, 12, 13, 14, 15, 16, 17, 18, 19, 20, 21, 22, 23, 24, 25, 26, 27, 28, 29, 30, 31, 32, 33, 34, 35, 36, 37, 38, 39, 40, 41, 42, 43, 44, 45, 46, 47, 53, 54, 55, 56, 57, 58, 59, 60, 61, 62, 63, 64, 65, 66, 67, 68, 69, 70, 71, 72, 73, 74, 75, 76, 77, 78, 79, 80, 81, 82, 83, 84, 85, 86, 87, 88, 89, 90, 91, 92, 93, 94, 95, 96, 97, 98, 99, 100, 106, 107, 108, 109, 110, 111, 112, 113, 114, 115, 116, 117, 118, 119, 120, 121, 122, 123, 124, 125, 126, 127, 128, 129, 130] (by decide +kernel) (by decide +kernel)
def wp_X8_occupancyBits (a0 : Nat) (f : FT) (K : Int64 → Prop) : Prop :=
  gA f a0 11 0 fun a_1 => isO f a_1 10 ∧ wp_X7_pageTotal a_1 (0 : Int32) f (fun r_3 => ∀ v_4 : Int32, v_4 = (jmax r_3 (1 : Int32)) → ∀ v_5 : UInt64, v_5 = (FP.i2d v_4) → gA f a0 11 0 fun a_7 => gI f a_7 10 7 fun v_9 => ∀ v_11 : Int32, v_11 = (jmax v_9 (1 : Int32)) → ∀ v_12 : UInt64, v_12 = (FP.i2d v_11) → isO f a0 11 ∧ wp_X8_bytesOfTiers a0 (1 : Int32) f (fun r_14 => vf_n64 (FP.dmul (FP.i2d r_14) (4636737291354636288 : UInt64)) ∧ ∀ d_15 : UInt64, d_15 = (FP.dmul (FP.i2d r_14) (4636737291354636288 : UInt64)) → vf_n64 (FP.ddiv d_15 v_5) ∧ ∀ d_16 : UInt64, d_16 = (FP.ddiv d_15 v_5) → vf_n64 (FP.ddiv d_16 v_12) ∧ ∀ d_17 : UInt64, d_17 = (FP.ddiv d_16 v_12) → wp_X8_bitsOf d_17 f (fun r_18 => K r_18)))
set_option maxHeartbeats 4000000 in
set_option maxRecDepth 100000 in
theorem cc_X8_occupancyBits (l : Launch) (G : GG) {f : FT} {sz : Nat} {a0 : Nat} {K : Int64 → Prop} (h : wp_X8_occupancyBits a0 f K) : Met l yX8_occupancyBits wsX8_occupancyBits ({ frames := 8, cells := 0, slots := 0, locals := 185 } : Room) (FP G [.ref a0] f sz) (va_Ql (fun r f9 => K r ∧ f9 = f : Int64 → FT → Prop) (FB G (fA f sz)) (fA f sz)) 0 0 (fA f sz) := by
  refine Met.ofW (cc := cX8_occupancyBits) (maxL := 5) (ret := (some .long)) (by decide) rfl ?_
  intro p e s m args below meth c s₁ B hml hv
  obtain ⟨rfl, hsz, hF, hK, hZ⟩ := hv
  have hx := B.exec
  have hb := B.bytes
  have hr := B.returns
  have hts := atoms_spec (ws := wsX8_occupancyBits) B.pre
  have hown : s.vm.findClass RX8 = some m.cls := findClass_of_methodNamed B.named
  have hlocks := B.notSynchronized
  subst hsz
  have hF := hF.self (sz := s.heap.size)
  generalize hAe : fA f s.heap.size = A at hF hZ ⊢
  have hA : ∀ q : Nat, s.heap.size ≤ q → A q := fun q h => by rw [← hAe]; exact Or.inr h
  have hS : va_S A s.heap s.heap [] := va_S.rf
  have hin_X7 : ∀ w ∈ wsX70, w ∈ wsX8_occupancyBits := by decide +kernel
  have hin_X8 : ∀ w ∈ wsX80, w ∈ wsX8_occupancyBits := by decide +kernel
  have hl := lv_entry ([.ref a0]) (n := 5) (Nat.le_of_ble_eq_true rfl)
  rw [lg_entry_eq]
  generalize (lg_sl ([.ref a0]) ++ List.replicate (5 - (lg_sl ([.ref a0])).length) Slot.unset).toArray = ls at hl ⊢
  have hl : lv_has ls 5 [(0, .ref a0)] := hl
  unfold wp_X8_occupancyBits at h
  refine lv_aload_n hx hb dX8_occupancyBits_0 rfl (lv_at hl 0 rfl) ?_
  obtain ⟨fs_2, a_1, he_fs_2, hv_fs_2, h⟩ := h
  refine fw_get (C := RX8) (T := TX8) (N := 9) hx hb hts hin_X8 hown hK hF he_fs_2 rfl 0 (by decide) (hts (.fieldLink RX8 10 "FrontCodedIndex" "tree" "LFrontCodedIndex$Tree;") (by decide +kernel)) (fun _ h9 => h9) hv_fs_2 dX8_occupancyBits_1 ?_
  refine lv_iconst (v := (0 : Int32)) hx hb dX8_occupancyBits_4 (by decide) ?_
  obtain ⟨⟨fs_r_3, hrc_r_3⟩, h⟩ := h
  refine fw_cV_i_p (As := [.int (0 : Int32)]) (rest := []) ⟨hx, hb, hml, hown, hts⟩ (cc_X7_pageTotal l G h) (⟨callB_of 1 hts ggX8_occupancyBits_X7_pageTotal rfl rfl rfl (hts (.initialized RX7) (by decide +kernel)) (hts (.methodLink RX8 179 yX7_pageTotal) (by decide +kernel)) (by decide +kernel) ⟨Nat.le_of_ble_eq_true rfl, Nat.le_of_ble_eq_true rfl⟩, hts (.instanceMethod yX7_pageTotal) (by decide +kernel), hts (.selects RX7 yX7_pageTotal yX7_pageTotal) (by decide +kernel)⟩) rfl hrc_r_3 hK hZ hF hS hA rfl hl.1 rfl (Nat.le_of_ble_eq_true rfl) dX8_occupancyBits_5 ⟨Nat.zero_le _, Nat.zero_le _⟩ (fun r_3 H locs h hF hS => ?_)
  refine lv_iconst (v := (1 : Int32)) hx hb dX8_occupancyBits_8 (by decide) ?_
  refine va_mmax hx hb (hml.trans hl.1.symm) hown (hts (.methodLink RX8 153 Lib.Math.max.name) (by decide +kernel)) (hts (.static Lib.Math.max.name) (by decide +kernel)) (hts (.initialized "java/lang/Math") (by decide +kernel)) (hts (.code Lib.Math.max.name Lib.Math.max.code 2 (some .int)) (by decide +kernel)) (Nat.le_of_ble_eq_true rfl) (Nat.le_of_ble_eq_true rfl) (Nat.zero_le _) (Nat.zero_le _) dX8_occupancyBits_9 ?_
  refine lv_topi (fun v_4 e_v_4 => ?_)
  have h := h v_4 e_v_4
  refine lv_i2d hx hb dX8_occupancyBits_12 ?_
  refine lv_topd (fun v_5 e_6 => ?_)
  have h := h v_5 e_6
  refine lv_dstore_n (lv' := [(1, .double v_5), (0, .ref a0)]) hx hb dX8_occupancyBits_13 rfl hl (by decide) rfl (fun ls hl => ?_)
  refine lv_aload_n hx hb dX8_occupancyBits_14 rfl (lv_at hl 1 rfl) ?_
  obtain ⟨fs_8, a_7, he_fs_8, hv_fs_8, h⟩ := h
  refine fw_get (C := RX8) (T := TX8) (N := 9) hx hb hts hin_X8 hown hK hF he_fs_8 rfl 0 (by decide) (hts (.fieldLink RX8 10 "FrontCodedIndex" "tree" "LFrontCodedIndex$Tree;") (by decide +kernel)) (fun _ h9 => h9) hv_fs_8 dX8_occupancyBits_15 ?_
  obtain ⟨fs_10, v_9, he_fs_10, hv_fs_10, h⟩ := h
  refine fw_getN (C := RX7) (T := TX7) (N := 8) hx hb hts hin_X7 hown hK hF he_fs_10 rfl 7 (by decide) (va_Nw.use rfl (hZ.2.1 (.fieldLinkNest RX8 116 "FrontCodedIndex$Tree" "capacity" "I" "FrontCodedIndex") (by decide +kernel))) (fun _ h9 => h9) hv_fs_10 dX8_occupancyBits_18 ?_
  refine lv_iconst (v := (1 : Int32)) hx hb dX8_occupancyBits_21 (by decide) ?_
  refine va_mmax hx hb (hml.trans hl.1.symm) hown (hts (.methodLink RX8 153 Lib.Math.max.name) (by decide +kernel)) (hts (.static Lib.Math.max.name) (by decide +kernel)) (hts (.initialized "java/lang/Math") (by decide +kernel)) (hts (.code Lib.Math.max.name Lib.Math.max.code 2 (some .int)) (by decide +kernel)) (Nat.le_of_ble_eq_true rfl) (Nat.le_of_ble_eq_true rfl) (Nat.zero_le _) (Nat.zero_le _) dX8_occupancyBits_22 ?_
  refine lv_topi (fun v_11 e_v_11 => ?_)
  have h := h v_11 e_v_11
  refine lv_i2d hx hb dX8_occupancyBits_25 ?_
  refine lv_topd (fun v_12 e_13 => ?_)
  have h := h v_12 e_13
  refine lv_dstore_n (lv' := [(3, .double v_12), (1, .double v_5), (0, .ref a0)]) hx hb dX8_occupancyBits_26 rfl hl (by decide) rfl (fun ls hl => ?_)
  refine lv_aload_n hx hb dX8_occupancyBits_27 rfl (lv_at hl 2 rfl) ?_
  refine lv_iconst (v := (1 : Int32)) hx hb dX8_occupancyBits_28 (by decide) ?_
  obtain ⟨⟨fs_r_14, hrc_r_14⟩, h⟩ := h
  refine fw_cV_i_p (As := [.int (1 : Int32)]) (rest := []) ⟨hx, hb, hml, hown, hts⟩ (cc_X8_bytesOfTiers l G h) (⟨callB_of 1 hts ggX8_occupancyBits_X8_bytesOfTiers rfl rfl rfl (hts (.initialized RX8) (by decide +kernel)) (hts (.methodLink RX8 200 yX8_bytesOfTiers) (by decide +kernel)) (by decide +kernel) ⟨Nat.le_of_ble_eq_true rfl, Nat.le_of_ble_eq_true rfl⟩, hts (.instanceMethod yX8_bytesOfTiers) (by decide +kernel), hts (.selects RX8 yX8_bytesOfTiers yX8_bytesOfTiers) (by decide +kernel)⟩) rfl hrc_r_14 hK hZ hF hS hA rfl hl.1 rfl (Nat.le_of_ble_eq_true rfl) dX8_occupancyBits_29 ⟨Nat.zero_le _, Nat.zero_le _⟩ (fun r_14 H locs h hF hS => ?_)
  refine lv_i2d hx hb dX8_occupancyBits_32 ?_
  refine lv_ldc2d hx hb hown (hts (.constantDouble RX8 217 (4636737291354636288 : UInt64)) (by decide +kernel)) dX8_occupancyBits_33 ?_
  obtain ⟨hne, h⟩ := h
  refine lv_dmul hx hb dX8_occupancyBits_36 hne ?_
  refine lv_topd (fun d_15 e_d_15 => ?_)
  have h := h d_15 e_d_15
  refine lv_dload_n hx hb dX8_occupancyBits_37 rfl (lv_at hl 1 rfl) ?_
  obtain ⟨hne, h⟩ := h
  refine lv_ddiv hx hb dX8_occupancyBits_38 hne ?_
  refine lv_topd (fun d_16 e_d_16 => ?_)
  have h := h d_16 e_d_16
  refine lv_dload_n hx hb dX8_occupancyBits_39 rfl (lv_at hl 0 rfl) ?_
  obtain ⟨hne, h⟩ := h
  refine lv_ddiv hx hb dX8_occupancyBits_40 hne ?_
  refine lv_topd (fun d_17 e_d_17 => ?_)
  have h := h d_17 e_d_17
  refine fw_cS_l_p (As := [.double d_17]) (rest := []) ⟨hx, hb, hml, hown, hts⟩ (cc_X8_bitsOf l G h) (⟨callB_of 1 hts ggX8_occupancyBits_X8_bitsOf rfl rfl rfl (hts (.initialized RX8) (by decide +kernel)) (hts (.methodLink RX8 219 yX8_bitsOf) (by decide +kernel)) (by decide +kernel) ⟨Nat.le_of_ble_eq_true rfl, Nat.le_of_ble_eq_true rfl⟩, hts (.static yX8_bitsOf) (by decide +kernel)⟩) hK hZ hF hS hA rfl hl.1 rfl (Nat.le_of_ble_eq_true rfl) dX8_occupancyBits_41 ⟨Nat.zero_le _, Nat.zero_le _⟩ (fun r_18 H locs h hF hS => ?_)
  exact W.lret (v := r_18) hx hb hr (fun t ht hW => ⟨⟨r_18, f, rfl, ⟨h, rfl⟩, by rw [ht]; exact hF, FK.moved hW.alike hK⟩, hS.F ht⟩) hS.2.2 dX8_occupancyBits_44
