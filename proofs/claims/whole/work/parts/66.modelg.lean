theorem dX9_thrown_0 : decode cX9_thrown 0 = .ok (.aload_n 0, 1) := by decide +kernel
theorem dX9_thrown_1 : decode cX9_thrown 1 = .ok (.getfield 77, 3) := by decide +kernel
theorem dX9_thrown_4 : decode cX9_thrown 4 = .ok (.ireturn, 1) := by decide +kernel
def wp_X9_thrown  (n : Nat → Int32) (g : Nat → Nat → Int32) (K : Int32 → Prop) : Prop :=
  K (n 0)
set_option maxHeartbeats 4000000 in
set_option maxRecDepth 100000 in
theorem cc_X9_thrown (l : Launch) (G : GG) {mo : Nat} {ad : Nat → Nat} (had : MAd mo ad) {n : Nat → Int32} {g : Nat → Nat → Int32} {sz : Nat}  {K : Int32 → Prop} (h : wp_X9_thrown  n g K) : Met l yX9_thrown wsX9_thrown ({ frames := 0, cells := 0, slots := 0, locals := 0 } : Room) (FP G [.ref mo] (mf mo ad n g) sz) (va_Qi (fun r f9 => K r ∧ f9 = mf mo ad n g : Int32 → FT → Prop) (FB G (fA (mf mo ad n g) sz)) (fA (mf mo ad n g) sz)) 0 0 (fA (mf mo ad n g) sz) := by
  refine Met.ofW (cc := cX9_thrown) (maxL := 1) (ret := (some .int)) (by decide) rfl ?_
  intro p e s m args below meth c s₁ B hml hv
  obtain ⟨rfl, hsz, hF, hK, hZ⟩ := hv
  have hx := B.exec
  have hb := B.bytes
  have hr := B.returns
  have hts := atoms_spec (ws := wsX9_thrown) B.pre
  have hown : s.vm.findClass RX9 = some m.cls := findClass_of_methodNamed B.named
  have hlocks := B.notSynchronized
  subst hsz
  have hF := hF.self (sz := s.heap.size)
  generalize hAe : fA (mf mo ad n g) s.heap.size = A at hF hZ ⊢
  have hA : ∀ q : Nat, s.heap.size ≤ q → A q := fun q h => by rw [← hAe]; exact Or.inr h
  have hS : va_S A s.heap s.heap [] := va_S.rf
  have hin_X9 : ∀ w ∈ wsX90, w ∈ wsX9_thrown := by decide +kernel
  have hl := lv_entry ([.ref mo]) (n := 1) (Nat.le_of_ble_eq_true rfl)
  rw [lg_entry_eq]
  generalize (lg_sl ([.ref mo]) ++ List.replicate (1 - (lg_sl ([.ref mo])).length) Slot.unset).toArray = ls at hl ⊢
  have hl : lv_has ls 1 [(0, .ref mo)] := hl
  unfold wp_X9_thrown at h
  refine lv_aload_n hx hb dX9_thrown_0 rfl (lv_at hl 0 rfl) ?_
  refine fw_get (C := RX9) (T := TX9) (N := 34) hx hb hts hin_X9 hown hK hF mf_obj rfl 0 (by decide) (hts (.fieldLink RX9 77 "FrontCodedIndexModel" "thrown" "I") (by decide +kernel)) (fun _ h9 => h9) rfl dX9_thrown_1 ?_
  exact W.iret (v := (n 0)) hx hb hr (fun t ht hW => ⟨⟨(n 0), (mf mo ad n g), rfl, ⟨h, rfl⟩, by rw [ht]; exact hF, FK.moved hW.alike hK⟩, hS.F ht⟩) hS.2.2 dX9_thrown_4
theorem dX9_occupancyBits_0 : decode cX9_occupancyBits 0 = .ok (.aload_n 0, 1) := by decide +kernel
theorem dX9_occupancyBits_1 : decode cX9_occupancyBits 1 = .ok (.iconst 0, 1) := by decide +kernel
theorem dX9_occupancyBits_2 : decode cX9_occupancyBits 2 = .ok (.putfield 77, 3) := by decide +kernel
theorem dX9_occupancyBits_5 : decode cX9_occupancyBits 5 = .ok (.aload_n 0, 1) := by decide +kernel
theorem dX9_occupancyBits_6 : decode cX9_occupancyBits 6 = .ok (.iconst 0, 1) := by decide +kernel
theorem dX9_occupancyBits_7 : decode cX9_occupancyBits 7 = .ok (.invokevirtual 213, 3) := by decide +kernel
theorem dX9_occupancyBits_10 : decode cX9_occupancyBits 10 = .ok (.i2d, 1) := by decide +kernel
theorem dX9_occupancyBits_11 : decode cX9_occupancyBits 11 = .ok (.ldc2_w 220, 3) := by decide +kernel
theorem dX9_occupancyBits_14 : decode cX9_occupancyBits 14 = .ok (.dmul, 1) := by decide +kernel
theorem dX9_occupancyBits_15 : decode cX9_occupancyBits 15 = .ok (.aload_n 0, 1) := by decide +kernel
theorem dX9_occupancyBits_16 : decode cX9_occupancyBits 16 = .ok (.getfield 32, 3) := by decide +kernel
theorem dX9_occupancyBits_19 : decode cX9_occupancyBits 19 = .ok (.iconst 0, 1) := by decide +kernel
theorem dX9_occupancyBits_20 : decode cX9_occupancyBits 20 = .ok (.iaload, 1) := by decide +kernel
theorem dX9_occupancyBits_21 : decode cX9_occupancyBits 21 = .ok (.i2d, 1) := by decide +kernel
theorem dX9_occupancyBits_22 : decode cX9_occupancyBits 22 = .ok (.ddiv, 1) := by decide +kernel
theorem dX9_occupancyBits_23 : decode cX9_occupancyBits 23 = .ok (.aload_n 0, 1) := by decide +kernel
theorem dX9_occupancyBits_24 : decode cX9_occupancyBits 24 = .ok (.getfield 16, 3) := by decide +kernel
theorem dX9_occupancyBits_27 : decode cX9_occupancyBits 27 = .ok (.i2d, 1) := by decide +kernel
theorem dX9_occupancyBits_28 : decode cX9_occupancyBits 28 = .ok (.ddiv, 1) := by decide +kernel
theorem dX9_occupancyBits_29 : decode cX9_occupancyBits 29 = .ok (.dstore_n 1, 1) := by decide +kernel
theorem dX9_occupancyBits_30 : decode cX9_occupancyBits 30 = .ok (.dload_n 1, 1) := by decide +kernel
theorem dX9_occupancyBits_31 : decode cX9_occupancyBits 31 = .ok (.invokestatic 222, 3) := by decide +kernel
theorem dX9_occupancyBits_34 : decode cX9_occupancyBits 34 = .ok (.lreturn, 1) := by decide +kernel
set_option maxRecDepth 20000 in
theorem ggX9_occupancyBits_Jxe99ae_doubleToLongBits_ccdee : GoodIn wsX9_occupancyBits wsJxe99ae_doubleToLongBits_ccdee := goodIn_r _ [48, 49, 50, 51, 52, 53, 54, 55, 47, 56] (by decide +kernel) (by decide +kernel)
set_option maxRecDepth 20000 in
theorem ggX9_occupancyBits_X9_sumOf : GoodIn wsX9_occupancyBits wsX9_sumOf := goodIn_r _ [9, 3, 10, 11, 12, 8, 13, 14, 15, 16, 17, 18, 19, 20, 21, 22, 23, 24, 25, 26, 27, 28, 29, 30, 31, 32, 33, 34, 35, 36, 37, 38, 39, 40, 41, 42, 43, 44, 57, 58, 59, 60, 61, 62, 63, 64, 65, 66, 67, 68, 69, 70, 71, 72, 73, 74, 75, 76, 77, 78, 79, 80, 81, 82, 83, 84, 85, 86, 87, 88, 89, 90] (by decide +kernel) (by decide +kernel)
def wp_X9_occupancyBits  (n : Nat → Int32) (g : Nat → Nat → Int32) (K : Int64 → (Nat → Int32) → (Nat → Nat → Int32) → Prop) : Prop :=
  ∀ n_1 : Nat → Int32, n_1 = upd n 0 (0 : Int32) → wp_X9_sumOf (0 : Int32) n_1 g (fun r_2 => vf_n64 (FP.dmul (FP.i2d r_2) (4636737291354636288 : UInt64)) ∧ ∀ d_3 : UInt64, d_3 = (FP.dmul (FP.i2d r_2) (4636737291354636288 : UInt64)) → vp_in (0 : Int32) (mlen 14) ∧ ∀ v_5 : Int32, v_5 = g 14 ((0 : Int32)).toNatClampNeg → vf_n64 (FP.ddiv d_3 (FP.i2d v_5)) ∧ ∀ d_6 : UInt64, d_6 = (FP.ddiv d_3 (FP.i2d v_5)) → vf_n64 (FP.ddiv d_6 (FP.i2d (n_1 5))) ∧ ∀ d_7 : UInt64, d_7 = (FP.ddiv d_6 (FP.i2d (n_1 5))) → wp_Jxe99ae_doubleToLongBits_ccdee d_7  (fun r_8 => K r_8 n_1 g))
set_option maxHeartbeats 4000000 in
set_option maxRecDepth 100000 in
theorem cc_X9_occupancyBits (l : Launch) (G : GG) {mo : Nat} {ad : Nat → Nat} (had : MAd mo ad) {n : Nat → Int32} {g : Nat → Nat → Int32} {sz : Nat}  {K : Int64 → (Nat → Int32) → (Nat → Nat → Int32) → Prop} (h : wp_X9_occupancyBits  n g K) : Met l yX9_occupancyBits wsX9_occupancyBits ({ frames := 7, cells := 0, slots := 0, locals := 165 } : Room) (FP G [.ref mo] (mf mo ad n g) sz) (va_Ql (fun r f9 => ∃ n9 g9, f9 = mf mo ad n9 g9 ∧ K r n9 g9 : Int64 → FT → Prop) (FB G (fA (mf mo ad n g) sz)) (fA (mf mo ad n g) sz)) 0 0 (fA (mf mo ad n g) sz) := by
  refine Met.ofW (cc := cX9_occupancyBits) (maxL := 3) (ret := (some .long)) (by decide) rfl ?_
  intro p e s m args below meth c s₁ B hml hv
  obtain ⟨rfl, hsz, hF, hK, hZ⟩ := hv
  have hx := B.exec
  have hb := B.bytes
  have hr := B.returns
  have hts := atoms_spec (ws := wsX9_occupancyBits) B.pre
  have hown : s.vm.findClass RX9 = some m.cls := findClass_of_methodNamed B.named
  have hlocks := B.notSynchronized
  subst hsz
  have hF := hF.self (sz := s.heap.size)
  generalize hAe : fA (mf mo ad n g) s.heap.size = A at hF hZ ⊢
  have hA : ∀ q : Nat, s.heap.size ≤ q → A q := fun q h => by rw [← hAe]; exact Or.inr h
  have hS : va_S A s.heap s.heap [] := va_S.rf
  have hin_X9 : ∀ w ∈ wsX90, w ∈ wsX9_occupancyBits := by decide +kernel
  have hl := lv_entry ([.ref mo]) (n := 3) (Nat.le_of_ble_eq_true rfl)
  rw [lg_entry_eq]
  generalize (lg_sl ([.ref mo]) ++ List.replicate (3 - (lg_sl ([.ref mo])).length) Slot.unset).toArray = ls at hl ⊢
  have hl : lv_has ls 3 [(0, .ref mo)] := hl
  unfold wp_X9_occupancyBits at h
  refine lv_aload_n hx hb dX9_occupancyBits_0 rfl (lv_at hl 0 rfl) ?_
  refine lv_iconst (v := (0 : Int32)) hx hb dX9_occupancyBits_1 (by decide) ?_
  refine fw_put (v := .int (0 : Int32)) (ty := .int) (C := RX9) (T := TX9) (N := 34) hx hb hts hin_X9 tyX9 tyX9_ok nmX9 hown hK hF hS mf_obj rfl 0 (by decide) (hts (.fieldLink RX9 77 "FrontCodedIndexModel" "thrown" "I") (by decide +kernel)) (fun _ h9 => h9) rfl (by decide +kernel) rfl rfl (show 0 < 34 by decide) dX9_occupancyBits_2 (fun H locs hF hS => ?_)
  rw [mf_put 0 (0 : Int32) rfl] at hF
  obtain ⟨n_1, hn_n_1⟩ : ∃ z, z = upd n 0 (0 : Int32) := ⟨_, rfl⟩
  rw [← hn_n_1] at hF; have h := h n_1 hn_n_1
  refine lv_aload_n hx hb dX9_occupancyBits_5 rfl (lv_at hl 0 rfl) ?_
  refine lv_iconst (v := (0 : Int32)) hx hb dX9_occupancyBits_6 (by decide) ?_
  refine fw_cV_i_p (As := [.int (0 : Int32)]) (rest := []) ⟨hx, hb, hml, hown, hts⟩ (cc_X9_sumOf l G had h) (⟨callB_of 1 hts ggX9_occupancyBits_X9_sumOf rfl rfl rfl (hts (.initialized RX9) (by decide +kernel)) (hts (.methodLink RX9 213 yX9_sumOf) (by decide +kernel)) (by decide +kernel) ⟨Nat.le_of_ble_eq_true rfl, Nat.le_of_ble_eq_true rfl⟩, hts (.instanceMethod yX9_sumOf) (by decide +kernel), hts (.selects RX9 yX9_sumOf yX9_sumOf) (by decide +kernel)⟩) rfl mf_obj hK hZ hF hS hA rfl hl.1 rfl (Nat.le_of_ble_eq_true rfl) dX9_occupancyBits_7 ⟨Nat.zero_le _, Nat.zero_le _⟩ (fun r_2 H locs h hF hS => ?_)
  refine lv_i2d hx hb dX9_occupancyBits_10 ?_
  refine lv_ldc2d hx hb hown (hts (.constantDouble RX9 220 (4636737291354636288 : UInt64)) (by decide +kernel)) dX9_occupancyBits_11 ?_
  obtain ⟨hne, h⟩ := h
  refine lv_dmul hx hb dX9_occupancyBits_14 hne ?_
  refine lv_topd (fun d_3 e_d_3 => ?_)
  have h := h d_3 e_d_3
  refine lv_aload_n hx hb dX9_occupancyBits_15 rfl (lv_at hl 0 rfl) ?_
  refine fw_get (C := RX9) (T := TX9) (N := 34) hx hb hts hin_X9 hown hK hF mf_obj rfl 14 (by decide) (hts (.fieldLink RX9 32 "FrontCodedIndexModel" "many" "[I") (by decide +kernel)) (fun _ h9 => h9) rfl dX9_occupancyBits_16 ?_
  refine lv_iconst (v := (0 : Int32)) hx hb dX9_occupancyBits_19 (by decide) ?_
  obtain ⟨hi_i_4, h⟩ := h
  refine fw_iald hx hb hK hF (mf_arr had 14 (by decide)) hi_i_4 dX9_occupancyBits_20 ?_
  refine lv_topi (fun v_5 e_v_5 => ?_)
  have h := h v_5 e_v_5
  refine lv_i2d hx hb dX9_occupancyBits_21 ?_
  obtain ⟨hne, h⟩ := h
  refine lv_ddiv hx hb dX9_occupancyBits_22 hne ?_
  refine lv_topd (fun d_6 e_d_6 => ?_)
  have h := h d_6 e_d_6
  refine lv_aload_n hx hb dX9_occupancyBits_23 rfl (lv_at hl 0 rfl) ?_
  refine fw_get (C := RX9) (T := TX9) (N := 34) hx hb hts hin_X9 hown hK hF mf_obj rfl 5 (by decide) (hts (.fieldLink RX9 16 "FrontCodedIndexModel" "capacity" "I") (by decide +kernel)) (fun _ h9 => h9) rfl dX9_occupancyBits_24 ?_
  refine lv_i2d hx hb dX9_occupancyBits_27 ?_
  obtain ⟨hne, h⟩ := h
  refine lv_ddiv hx hb dX9_occupancyBits_28 hne ?_
  refine lv_topd (fun d_7 e_d_7 => ?_)
  have h := h d_7 e_d_7
  refine lv_dstore_n (lv' := [(1, .double d_7), (0, .ref mo)]) hx hb dX9_occupancyBits_29 rfl hl (by decide) rfl (fun ls hl => ?_)
  refine lv_dload_n hx hb dX9_occupancyBits_30 rfl (lv_at hl 0 rfl) ?_
  refine fw_cS_l_p (As := [.double d_7]) (rest := []) ⟨hx, hb, hml, hown, hts⟩ (cc_Jxe99ae_doubleToLongBits_ccdee l G h) (⟨callB_of 1 hts ggX9_occupancyBits_Jxe99ae_doubleToLongBits_ccdee rfl rfl rfl (hts (.initialized RJxe99ae) (by decide +kernel)) (hts (.methodLink RX9 222 yJxe99ae_doubleToLongBits_ccdee) (by decide +kernel)) (by decide +kernel) ⟨Nat.le_of_ble_eq_true rfl, Nat.le_of_ble_eq_true rfl⟩, hts (.static yJxe99ae_doubleToLongBits_ccdee) (by decide +kernel)⟩) hK hZ hF hS hA rfl hl.1 rfl (Nat.le_of_ble_eq_true rfl) dX9_occupancyBits_31 ⟨Nat.zero_le _, Nat.zero_le _⟩ (fun r_8 H locs h hF hS => ?_)
  exact W.lret (v := r_8) hx hb hr (fun t ht hW => ⟨⟨r_8, (mf mo ad n_1 g), rfl, ⟨_, _, rfl, h⟩, by rw [ht]; exact hF, FK.moved hW.alike hK⟩, hS.F ht⟩) hS.2.2 dX9_occupancyBits_34
