theorem dX8_refuseMissingCursor_0 : decode cX8_refuseMissingCursor 0 = .ok (.iload_n 1, 1) := by decide +kernel
theorem dX8_refuseMissingCursor_1 : decode cX8_refuseMissingCursor 1 = .ok (.ifCond .lt 8, 3) := by decide +kernel
theorem dX8_refuseMissingCursor_4 : decode cX8_refuseMissingCursor 4 = .ok (.iload_n 1, 1) := by decide +kernel
theorem dX8_refuseMissingCursor_5 : decode cX8_refuseMissingCursor 5 = .ok (.iconst 4, 1) := by decide +kernel
theorem dX8_refuseMissingCursor_6 : decode cX8_refuseMissingCursor 6 = .ok (.if_icmp .lt 14, 3) := by decide +kernel
theorem dX8_refuseMissingCursor_9 : decode cX8_refuseMissingCursor 9 = .ok (.new 65, 3) := by decide +kernel
theorem dX8_refuseMissingCursor_12 : decode cX8_refuseMissingCursor 12 = .ok (.dup, 1) := by decide +kernel
theorem dX8_refuseMissingCursor_13 : decode cX8_refuseMissingCursor 13 = .ok (.ldc_w 278, 3) := by decide +kernel
theorem dX8_refuseMissingCursor_16 : decode cX8_refuseMissingCursor 16 = .ok (.invokespecial 69, 3) := by decide +kernel
theorem dX8_refuseMissingCursor_19 : decode cX8_refuseMissingCursor 19 = .ok (.athrow, 1) := by decide +kernel
theorem dX8_refuseMissingCursor_20 : decode cX8_refuseMissingCursor 20 = .ok (.return_, 1) := by decide +kernel
def wp_X8_refuseMissingCursor (a0 : Nat) (x1 : Int32) (f : FT) (mc ms : Nat) (K : FT → Prop) (KX : String → FT → Prop) : Prop :=
  ((x1 < (0 : Int32) → 1 ≤ mc ∧ 6 ≤ ms ∧ KX "java/lang/IllegalArgumentException" f) ∧
 (¬ (x1 < (0 : Int32)) → ((x1 < (4 : Int32) → K f) ∧
 (¬ (x1 < (4 : Int32)) → 1 ≤ mc ∧ 6 ≤ ms ∧ KX "java/lang/IllegalArgumentException" f))))
set_option maxHeartbeats 4000000 in
set_option maxRecDepth 100000 in
theorem cc_X8_refuseMissingCursor (l : Launch) (G : GG) {f : FT} {sz : Nat} {a0 : Nat} {x1 : Int32} {mc ms : Nat} {K : FT → Prop} {KX : String → FT → Prop} (hlt : l.stackTraces = false) (h : wp_X8_refuseMissingCursor a0 x1 f mc ms K KX) : vx_Met l yX8_refuseMissingCursor wsX8_refuseMissingCursor ({ frames := 6, cells := mc, slots := ms, locals := 90 } : Room) (FPX G [.ref a0, .int x1] f sz) (va_Qv (fun f9 => K f9 : FT → Prop) (FB G (fA f sz)) (fA f sz)) (FXC G (fA f sz) KX) mc ms (fA f sz) := by
  refine vx_ofW (cc := cX8_refuseMissingCursor) (maxL := 2) (ret := none) (by decide) rfl ?_
  intro p e s m args below meth c s₁ B hml hxt hv
  obtain ⟨rfl, hsz, hF, hK, hZ, hX⟩ := hv
  have hx := B.exec
  have hb := B.bytes
  have hr := B.returns
  have hts := atoms_spec (ws := wsX8_refuseMissingCursor) B.pre
  have hown : s.vm.findClass RX8 = some m.cls := findClass_of_methodNamed B.named
  have hlocks := B.notSynchronized
  subst hsz
  have hF := hF.self (sz := s.heap.size)
  generalize hAe : fA f s.heap.size = A at hF hZ hX ⊢
  have hA : ∀ q : Nat, s.heap.size ≤ q → A q := fun q h => by rw [← hAe]; exact Or.inr h
  have hS : va_S A s.heap s.heap [] := va_S.rf
  have hbc : 0 + mc ≤ mc := by omega
  have hbs : 0 + ms ≤ ms := by omega
  have hl := lv_entry ([.ref a0, .int x1]) (n := 2) (Nat.le_of_ble_eq_true rfl)
  rw [lg_entry_eq]
  generalize (lg_sl ([.ref a0, .int x1]) ++ List.replicate (2 - (lg_sl ([.ref a0, .int x1])).length) Slot.unset).toArray = ls at hl ⊢
  have hl : lv_has ls 2 [(0, .ref a0), (1, .int x1)] := hl
  unfold wp_X8_refuseMissingCursor at h
  refine lv_iload_n hx hb dX8_refuseMissingCursor_0 rfl (lv_at hl 1 rfl) ?_
  obtain ⟨h1, h2⟩ := h
  refine lv_if_lt (tgt := 9) hx hb dX8_refuseMissingCursor_1 (by decide) (fun c_1 => ?_) (fun c_1 => ?_)
  · have h := h1 c_1
    obtain ⟨hb1, hb2, h⟩ := h
    refine vx_throwSW hx hb hlt (own := RX8) (cls := "java/lang/IllegalArgumentException") (text := "there is no such cursor") (names := ["java/lang/RuntimeException", "java/lang/Exception"]) (ik := 65) (is := 278) (ic := 69) (sa := G.2.2 (100 + 278)) (A := A) hown (by decide) (by decide) (hts (.classLink RX8 65 "java/lang/IllegalArgumentException") (by decide +kernel)) (hts (.initialized "java/lang/IllegalArgumentException") (by decide +kernel)) (hX.1 (278, "there is no such cursor") (by decide +kernel)) (vx_hat (B := thrB) (fun w hw => hts w ((by decide +kernel : ∀ w ∈ (vx_atS RX8 69 "java/lang/IllegalArgumentException" ["java/lang/RuntimeException", "java/lang/Exception"]).filter goodWord, w ∈ wsX8_refuseMissingCursor) w hw)) (by decide +kernel) (fun w hw => va_Nw.use (thrB_tab w hw) (hX.2.1 w hw))) (by decide +kernel) hX.2.2.1 hX.2.2.2 hS (hl.1.trans hml.symm) dX8_refuseMissingCursor_9 dX8_refuseMissingCursor_12 dX8_refuseMissingCursor_13 dX8_refuseMissingCursor_16 dX8_refuseMissingCursor_19 (fun x hx => (hxt x hx).elim) (Nat.le_of_ble_eq_true rfl) (Nat.le_of_ble_eq_true rfl) (by show _ ≤ mc; omega) (by show _ ≤ ms; omega) hlocks (fun t hvm hz hk => ⟨(f, "java/lang/IllegalArgumentException"), h, ⟨rfl, hF.kept (fun q e9 he9 => hk q (hF.in he9).2), FK.moved hvm hK⟩, ⟨Nat.le_trans hS.1 hz, fun q h1 h2 => (hk q (Nat.lt_of_lt_of_le h1 hS.1)).trans (hS.2.1 q h1 h2)⟩⟩) hS.2.2 (by omega) (by omega)
  · have h := h2 c_1
    refine lv_iload_n hx hb dX8_refuseMissingCursor_4 rfl (lv_at hl 1 rfl) ?_
    refine lv_iconst (v := (4 : Int32)) hx hb dX8_refuseMissingCursor_5 (by decide) ?_
    obtain ⟨h1, h2⟩ := h
    refine lv_icmp_lt (tgt := 20) hx hb dX8_refuseMissingCursor_6 (by decide) (fun c_2 => ?_) (fun c_2 => ?_)
    · have h := h1 c_2
      refine vx_ret ?_
      refine W.widen (k := mc) (n := ms) (by omega) (by omega) ?_
      exact W.vret hx hb hr (fun t ht hW => ⟨⟨f, rfl, h, by rw [ht]; exact hF, FK.moved hW.alike hK⟩, hS.F ht⟩) hS.2.2 dX8_refuseMissingCursor_20
    · have h := h2 c_2
      obtain ⟨hb1, hb2, h⟩ := h
      refine vx_throwSW hx hb hlt (own := RX8) (cls := "java/lang/IllegalArgumentException") (text := "there is no such cursor") (names := ["java/lang/RuntimeException", "java/lang/Exception"]) (ik := 65) (is := 278) (ic := 69) (sa := G.2.2 (100 + 278)) (A := A) hown (by decide) (by decide) (hts (.classLink RX8 65 "java/lang/IllegalArgumentException") (by decide +kernel)) (hts (.initialized "java/lang/IllegalArgumentException") (by decide +kernel)) (hX.1 (278, "there is no such cursor") (by decide +kernel)) (vx_hat (B := thrB) (fun w hw => hts w ((by decide +kernel : ∀ w ∈ (vx_atS RX8 69 "java/lang/IllegalArgumentException" ["java/lang/RuntimeException", "java/lang/Exception"]).filter goodWord, w ∈ wsX8_refuseMissingCursor) w hw)) (by decide +kernel) (fun w hw => va_Nw.use (thrB_tab w hw) (hX.2.1 w hw))) (by decide +kernel) hX.2.2.1 hX.2.2.2 hS (hl.1.trans hml.symm) dX8_refuseMissingCursor_9 dX8_refuseMissingCursor_12 dX8_refuseMissingCursor_13 dX8_refuseMissingCursor_16 dX8_refuseMissingCursor_19 (fun x hx => (hxt x hx).elim) (Nat.le_of_ble_eq_true rfl) (Nat.le_of_ble_eq_true rfl) (by show _ ≤ mc; omega) (by show _ ≤ ms; omega) hlocks (fun t hvm hz hk => ⟨(f, "java/lang/IllegalArgumentException"), h, ⟨rfl, hF.kept (fun q e9 he9 => hk q (hF.in he9).2), FK.moved hvm hK⟩, ⟨Nat.le_trans hS.1 hz, fun q h1 h2 => (hk q (Nat.lt_of_lt_of_le h1 hS.1)).trans (hS.2.1 q h1 h2)⟩⟩) hS.2.2 (by omega) (by omega)
theorem dX8_placeOfCursor_0 : decode cX8_placeOfCursor 0 = .ok (.aload_n 0, 1) := by decide +kernel
theorem dX8_placeOfCursor_1 : decode cX8_placeOfCursor 1 = .ok (.iload_n 1, 1) := by decide +kernel
theorem dX8_placeOfCursor_2 : decode cX8_placeOfCursor 2 = .ok (.invokevirtual 225, 3) := by decide +kernel
theorem dX8_placeOfCursor_5 : decode cX8_placeOfCursor 5 = .ok (.aload_n 0, 1) := by decide +kernel
theorem dX8_placeOfCursor_6 : decode cX8_placeOfCursor 6 = .ok (.getfield 22, 3) := by decide +kernel
theorem dX8_placeOfCursor_9 : decode cX8_placeOfCursor 9 = .ok (.iload_n 1, 1) := by decide +kernel
theorem dX8_placeOfCursor_10 : decode cX8_placeOfCursor 10 = .ok (.invokevirtual 231, 3) := by decide +kernel
theorem dX8_placeOfCursor_13 : decode cX8_placeOfCursor 13 = .ok (.istore_n 2, 1) := by decide +kernel
theorem dX8_placeOfCursor_14 : decode cX8_placeOfCursor 14 = .ok (.iload_n 2, 1) := by decide +kernel
theorem dX8_placeOfCursor_15 : decode cX8_placeOfCursor 15 = .ok (.iconst (-1), 1) := by decide +kernel
theorem dX8_placeOfCursor_16 : decode cX8_placeOfCursor 16 = .ok (.if_icmp .ne 14, 3) := by decide +kernel
theorem dX8_placeOfCursor_19 : decode cX8_placeOfCursor 19 = .ok (.new 76, 3) := by decide +kernel
theorem dX8_placeOfCursor_22 : decode cX8_placeOfCursor 22 = .ok (.dup, 1) := by decide +kernel
theorem dX8_placeOfCursor_23 : decode cX8_placeOfCursor 23 = .ok (.ldc_w 280, 3) := by decide +kernel
theorem dX8_placeOfCursor_26 : decode cX8_placeOfCursor 26 = .ok (.invokespecial 80, 3) := by decide +kernel
theorem dX8_placeOfCursor_29 : decode cX8_placeOfCursor 29 = .ok (.athrow, 1) := by decide +kernel
theorem dX8_placeOfCursor_30 : decode cX8_placeOfCursor 30 = .ok (.iload_n 2, 1) := by decide +kernel
theorem dX8_placeOfCursor_31 : decode cX8_placeOfCursor 31 = .ok (.ireturn, 1) := by decide +kernel
set_option maxRecDepth 20000 in
theorem ggX8_placeOfCursor_X0_placeOf : GoodIn wsX8_placeOfCursor wsX0_placeOf := goodIn_r _ [15, 16, 26] (by decide +kernel) (by decide +kernel)
set_option maxRecDepth 20000 in
theorem ggX8_placeOfCursor_X8_refuseMissingCursor : GoodIn wsX8_placeOfCursor wsX8_refuseMissingCursor := goodIn_ca (goodIn_r _ [8, 9, 10] (by decide +kernel) (by decide +kernel)) (goodIn_sub (fun _ h => List.mem_cons_of_mem _ (List.mem_append_right _ h)) (by decide +kernel))
def wp_X8_placeOfCursor (a0 : Nat) (x1 : Int32) (f : FT) (mc ms : Nat) (K : Int32 → FT → Prop) (KX : String → FT → Prop) : Prop :=
  ∃ ga_3 gb_4 : Nat, ga_3 ≤ mc ∧ gb_4 ≤ ms ∧ isO f a0 11 ∧ wp_X8_refuseMissingCursor a0 x1 f ga_3 gb_4 (fun f_2 => gA f_2 a0 11 2 fun a_7 => isO f_2 a_7 3 ∧ wp_X0_placeOf a_7 x1 f_2 (fun r_9 => ((¬ r_9 = (-1 : Int32) → K r_9 f_2) ∧
 (r_9 = (-1 : Int32) → 1 ≤ (mc - ga_3) ∧ 6 ≤ (ms - gb_4) ∧ KX "java/lang/IllegalStateException" f_2)))) KX
set_option maxHeartbeats 4000000 in
set_option maxRecDepth 100000 in
theorem cc_X8_placeOfCursor (l : Launch) (G : GG) {f : FT} {sz : Nat} {a0 : Nat} {x1 : Int32} {mc ms : Nat} {K : Int32 → FT → Prop} {KX : String → FT → Prop} (hlt : l.stackTraces = false) (h : wp_X8_placeOfCursor a0 x1 f mc ms K KX) : vx_Met l yX8_placeOfCursor wsX8_placeOfCursor ({ frames := 7, cells := mc, slots := ms, locals := 111 } : Room) (FPX G [.ref a0, .int x1] f sz) (va_Qi (fun r f9 => K r f9 : Int32 → FT → Prop) (FB G (fA f sz)) (fA f sz)) (FXC G (fA f sz) KX) mc ms (fA f sz) := by
  refine vx_ofW (cc := cX8_placeOfCursor) (maxL := 3) (ret := (some .int)) (by decide) rfl ?_
  intro p e s m args below meth c s₁ B hml hxt hv
  obtain ⟨rfl, hsz, hF, hK, hZ, hX⟩ := hv
  have hx := B.exec
  have hb := B.bytes
  have hr := B.returns
  have hts := atoms_spec (ws := wsX8_placeOfCursor) B.pre
  have hown : s.vm.findClass RX8 = some m.cls := findClass_of_methodNamed B.named
  have hlocks := B.notSynchronized
  subst hsz
  have hF := hF.self (sz := s.heap.size)
  generalize hAe : fA f s.heap.size = A at hF hZ hX ⊢
  have hA : ∀ q : Nat, s.heap.size ≤ q → A q := fun q h => by rw [← hAe]; exact Or.inr h
  have hS : va_S A s.heap s.heap [] := va_S.rf
  have hin_X8 : ∀ w ∈ wsX80, w ∈ wsX8_placeOfCursor := by decide +kernel
  have hbc : 0 + mc ≤ mc := by omega
  have hbs : 0 + ms ≤ ms := by omega
  have hl := lv_entry ([.ref a0, .int x1]) (n := 3) (Nat.le_of_ble_eq_true rfl)
  rw [lg_entry_eq]
  generalize (lg_sl ([.ref a0, .int x1]) ++ List.replicate (3 - (lg_sl ([.ref a0, .int x1])).length) Slot.unset).toArray = ls at hl ⊢
  have hl : lv_has ls 3 [(0, .ref a0), (1, .int x1)] := hl
  unfold wp_X8_placeOfCursor at h
  refine lv_aload_n hx hb dX8_placeOfCursor_0 rfl (lv_at hl 0 rfl) ?_
  refine lv_iload_n hx hb dX8_placeOfCursor_1 rfl (lv_at hl 1 rfl) ?_
  obtain ⟨ga_3, gb_4, hga_ga_3, hgb_ga_3, h⟩ := h
  obtain ⟨⟨fs_u_1, hrc_u_1⟩, h⟩ := h
  refine fx_cV_v (As := [.int x1]) (rest := []) ⟨hx, hb, hml, hown, hts⟩ (cc_X8_refuseMissingCursor l G hlt h) (⟨callB_of 1 hts ggX8_placeOfCursor_X8_refuseMissingCursor rfl rfl rfl (hts (.initialized RX8) (by decide +kernel)) (hts (.methodLink RX8 225 yX8_refuseMissingCursor) (by decide +kernel)) (by decide +kernel) ⟨Nat.le_of_ble_eq_true rfl, Nat.le_of_ble_eq_true rfl⟩, hts (.instanceMethod yX8_refuseMissingCursor) (by decide +kernel), hts (.selects RX8 yX8_refuseMissingCursor yX8_refuseMissingCursor) (by decide +kernel)⟩) rfl hrc_u_1 hK hZ hX hF hS hA rfl hl.1 rfl (Nat.le_of_ble_eq_true rfl) dX8_placeOfCursor_2 ⟨by show _ ≤ mc; omega, by show _ ≤ ms; omega⟩ hxt hlocks (by omega) (by omega) (fun f_2 H locs h hF hS => ?_)
  obtain ⟨cs_5, hcs⟩ : ∃ z, z = (0 + ga_3) := ⟨_, rfl⟩; obtain ⟨sl_6, hsl⟩ : ∃ z, z = (0 + gb_4) := ⟨_, rfl⟩
  have hbc : cs_5 + (mc - ga_3) ≤ mc := by omega
  have hbs : sl_6 + (ms - gb_4) ≤ ms := by omega
  refine W.widen (k := cs_5) (n := sl_6) (by omega) (by omega) ?_
  clear hcs hsl
  refine lv_aload_n hx hb dX8_placeOfCursor_5 rfl (lv_at hl 0 rfl) ?_
  obtain ⟨fs_8, a_7, he_fs_8, hv_fs_8, h⟩ := h
  refine fw_get (C := RX8) (T := TX8) (N := 9) hx hb hts hin_X8 hown hK hF he_fs_8 rfl 2 (by decide) (hts (.fieldLink RX8 22 "FrontCodedIndex" "cursors" "LFrontCodedIndex$Cursors;") (by decide +kernel)) (fun _ h9 => h9) hv_fs_8 dX8_placeOfCursor_6 ?_
  refine lv_iload_n hx hb dX8_placeOfCursor_9 rfl (lv_at hl 1 rfl) ?_
  obtain ⟨⟨fs_r_9, hrc_r_9⟩, h⟩ := h
  refine fw_cV_i_p (As := [.int x1]) (rest := []) ⟨hx, hb, hml, hown, hts⟩ (cc_X0_placeOf l G h) (⟨callB_of 1 hts ggX8_placeOfCursor_X0_placeOf rfl rfl rfl (hts (.initialized RX0) (by decide +kernel)) (hts (.methodLink RX8 231 yX0_placeOf) (by decide +kernel)) (by decide +kernel) ⟨Nat.le_of_ble_eq_true rfl, Nat.le_of_ble_eq_true rfl⟩, hts (.instanceMethod yX0_placeOf) (by decide +kernel), hts (.selects RX0 yX0_placeOf yX0_placeOf) (by decide +kernel)⟩) rfl hrc_r_9 hK hZ hF hS hA rfl hl.1 rfl (Nat.le_of_ble_eq_true rfl) dX8_placeOfCursor_10 ⟨by show _ ≤ mc; omega, by show _ ≤ ms; omega⟩ (fun r_9 H locs h hF hS => ?_)
  simp only [Nat.add_zero]
  refine lv_istore_n (lv' := [(2, .int r_9), (0, .ref a0), (1, .int x1)]) hx hb dX8_placeOfCursor_13 rfl hl (by decide) rfl (fun ls hl => ?_)
  refine lv_iload_n hx hb dX8_placeOfCursor_14 rfl (lv_at hl 0 rfl) ?_
  refine lv_iconst (v := (-1 : Int32)) hx hb dX8_placeOfCursor_15 (by decide) ?_
  obtain ⟨h1, h2⟩ := h
  refine lv_icmp_ne (tgt := 30) hx hb dX8_placeOfCursor_16 (by decide) (fun c_10 => ?_) (fun c_10 => ?_)
  · have h := h1 c_10
    refine lv_iload_n hx hb dX8_placeOfCursor_30 rfl (lv_at hl 0 rfl) ?_
    refine vx_ret ?_
    refine W.widen (k := mc) (n := ms) (by omega) (by omega) ?_
    exact W.iret (v := r_9) hx hb hr (fun t ht hW => ⟨⟨r_9, f_2, rfl, h, by rw [ht]; exact hF, FK.moved hW.alike hK⟩, hS.F ht⟩) hS.2.2 dX8_placeOfCursor_31
  · have h := h2 c_10
    obtain ⟨hb1, hb2, h⟩ := h
    refine vx_throwSW hx hb hlt (own := RX8) (cls := "java/lang/IllegalStateException") (text := "the cursor is closed") (names := ["java/lang/RuntimeException", "java/lang/Exception"]) (ik := 76) (is := 280) (ic := 80) (sa := G.2.2 (100 + 280)) (A := A) hown (by decide) (by decide) (hts (.classLink RX8 76 "java/lang/IllegalStateException") (by decide +kernel)) (hts (.initialized "java/lang/IllegalStateException") (by decide +kernel)) (hX.1 (280, "the cursor is closed") (by decide +kernel)) (vx_hat (B := thrB) (fun w hw => hts w ((by decide +kernel : ∀ w ∈ (vx_atS RX8 80 "java/lang/IllegalStateException" ["java/lang/RuntimeException", "java/lang/Exception"]).filter goodWord, w ∈ wsX8_placeOfCursor) w hw)) (by decide +kernel) (fun w hw => va_Nw.use (thrB_tab w hw) (hX.2.1 w hw))) (by decide +kernel) hX.2.2.1 hX.2.2.2 hS (hl.1.trans hml.symm) dX8_placeOfCursor_19 dX8_placeOfCursor_22 dX8_placeOfCursor_23 dX8_placeOfCursor_26 dX8_placeOfCursor_29 (fun x hx => (hxt x hx).elim) (Nat.le_of_ble_eq_true rfl) (Nat.le_of_ble_eq_true rfl) (by show _ ≤ mc; omega) (by show _ ≤ ms; omega) hlocks (fun t hvm hz hk => ⟨(f_2, "java/lang/IllegalStateException"), h, ⟨rfl, hF.kept (fun q e9 he9 => hk q (hF.in he9).2), FK.moved hvm hK⟩, ⟨Nat.le_trans hS.1 hz, fun q h1 h2 => (hk q (Nat.lt_of_lt_of_le h1 hS.1)).trans (hS.2.1 q h1 h2)⟩⟩) hS.2.2 (by omega) (by omega)
theorem dX8_entryOfCursor_0 : decode cX8_entryOfCursor 0 = .ok (.aload_n 0, 1) := by decide +kernel
theorem dX8_entryOfCursor_1 : decode cX8_entryOfCursor 1 = .ok (.iload_n 1, 1) := by decide +kernel
theorem dX8_entryOfCursor_2 : decode cX8_entryOfCursor 2 = .ok (.invokevirtual 237, 3) := by decide +kernel
theorem dX8_entryOfCursor_5 : decode cX8_entryOfCursor 5 = .ok (.istore_n 2, 1) := by decide +kernel
theorem dX8_entryOfCursor_6 : decode cX8_entryOfCursor 6 = .ok (.iload_n 2, 1) := by decide +kernel
theorem dX8_entryOfCursor_7 : decode cX8_entryOfCursor 7 = .ok (.aload_n 0, 1) := by decide +kernel
theorem dX8_entryOfCursor_8 : decode cX8_entryOfCursor 8 = .ok (.getfield 10, 3) := by decide +kernel
theorem dX8_entryOfCursor_11 : decode cX8_entryOfCursor 11 = .ok (.getfield 105, 3) := by decide +kernel
theorem dX8_entryOfCursor_14 : decode cX8_entryOfCursor 14 = .ok (.invokevirtual 109, 3) := by decide +kernel
theorem dX8_entryOfCursor_17 : decode cX8_entryOfCursor 17 = .ok (.if_icmp .lt 14, 3) := by decide +kernel
theorem dX8_entryOfCursor_20 : decode cX8_entryOfCursor 20 = .ok (.new 163, 3) := by decide +kernel
theorem dX8_entryOfCursor_23 : decode cX8_entryOfCursor 23 = .ok (.dup, 1) := by decide +kernel
theorem dX8_entryOfCursor_24 : decode cX8_entryOfCursor 24 = .ok (.ldc_w 282, 3) := by decide +kernel
theorem dX8_entryOfCursor_27 : decode cX8_entryOfCursor 27 = .ok (.invokespecial 167, 3) := by decide +kernel
theorem dX8_entryOfCursor_30 : decode cX8_entryOfCursor 30 = .ok (.athrow, 1) := by decide +kernel
theorem dX8_entryOfCursor_31 : decode cX8_entryOfCursor 31 = .ok (.iload_n 2, 1) := by decide +kernel
theorem dX8_entryOfCursor_32 : decode cX8_entryOfCursor 32 = .ok (.ireturn, 1) := by decide +kernel
set_option maxRecDepth 20000 in
theorem ggX8_entryOfCursor_X4_count : GoodIn wsX8_entryOfCursor wsX4_count := goodIn_r _ [28, 29, 30, 31, 32, 33, 34, 35, 54, 55, 56, 57, 58] (by decide +kernel) (by decide +kernel)
set_option maxRecDepth 20000 in
theorem ggX8_entryOfCursor_X8_placeOfCursor : GoodIn wsX8_entryOfCursor wsX8_placeOfCursor := goodIn_ca (goodIn_ca (goodIn_r _ [8, 9, 10, 11, 12, 13, 14, 7, 15, 16, 17, 18, 19, 20, 21, 22, 23, 36, 37, 38, 39, 40, 41, 42, 43, 44, 53] (by decide +kernel) (by decide +kernel)) (goodIn_sub (fun _ h => List.mem_cons_of_mem _ (List.mem_append_left _ (List.mem_append_right _ h))) (by decide +kernel))) (goodIn_sub (fun _ h => List.mem_cons_of_mem _ (List.mem_append_right _ h)) (by decide +kernel))
def wp_X8_entryOfCursor (a0 : Nat) (x1 : Int32) (f : FT) (mc ms : Nat) (K : Int32 → FT → Prop) (KX : String → FT → Prop) : Prop :=
  ∃ ga_3 gb_4 : Nat, ga_3 ≤ mc ∧ gb_4 ≤ ms ∧ isO f a0 11 ∧ wp_X8_placeOfCursor a0 x1 f ga_3 gb_4 (fun r_1 f_2 => gA f_2 a0 11 0 fun a_7 => gA f_2 a_7 10 0 fun a_9 => isO f_2 a_9 7 ∧ wp_X4_count a_9 f_2 (fun r_11 => ((r_1 < r_11 → K r_1 f_2) ∧
 (¬ (r_1 < r_11) → 1 ≤ (mc - ga_3) ∧ 6 ≤ (ms - gb_4) ∧ KX "java/util/NoSuchElementException" f_2)))) KX
set_option maxHeartbeats 4000000 in
set_option maxRecDepth 100000 in
theorem cc_X8_entryOfCursor (l : Launch) (G : GG) {f : FT} {sz : Nat} {a0 : Nat} {x1 : Int32} {mc ms : Nat} {K : Int32 → FT → Prop} {KX : String → FT → Prop} (hlt : l.stackTraces = false) (h : wp_X8_entryOfCursor a0 x1 f mc ms K KX) : vx_Met l yX8_entryOfCursor wsX8_entryOfCursor ({ frames := 8, cells := mc, slots := ms, locals := 133 } : Room) (FPX G [.ref a0, .int x1] f sz) (va_Qi (fun r f9 => K r f9 : Int32 → FT → Prop) (FB G (fA f sz)) (fA f sz)) (FXC G (fA f sz) KX) mc ms (fA f sz) := by
  refine vx_ofW (cc := cX8_entryOfCursor) (maxL := 3) (ret := (some .int)) (by decide) rfl ?_
  intro p e s m args below meth c s₁ B hml hxt hv
  obtain ⟨rfl, hsz, hF, hK, hZ, hX⟩ := hv
  have hx := B.exec
  have hb := B.bytes
  have hr := B.returns
  have hts := atoms_spec (ws := wsX8_entryOfCursor) B.pre
  have hown : s.vm.findClass RX8 = some m.cls := findClass_of_methodNamed B.named
  have hlocks := B.notSynchronized
  subst hsz
  have hF := hF.self (sz := s.heap.size)
  generalize hAe : fA f s.heap.size = A at hF hZ hX ⊢
  have hA : ∀ q : Nat, s.heap.size ≤ q → A q := fun q h => by rw [← hAe]; exact Or.inr h
  have hS : va_S A s.heap s.heap [] := va_S.rf
  have hin_X7 : ∀ w ∈ wsX70, w ∈ wsX8_entryOfCursor := by decide +kernel
  have hin_X8 : ∀ w ∈ wsX80, w ∈ wsX8_entryOfCursor := by decide +kernel
  have hbc : 0 + mc ≤ mc := by omega
  have hbs : 0 + ms ≤ ms := by omega
  have hl := lv_entry ([.ref a0, .int x1]) (n := 3) (Nat.le_of_ble_eq_true rfl)
  rw [lg_entry_eq]
  generalize (lg_sl ([.ref a0, .int x1]) ++ List.replicate (3 - (lg_sl ([.ref a0, .int x1])).length) Slot.unset).toArray = ls at hl ⊢
  have hl : lv_has ls 3 [(0, .ref a0), (1, .int x1)] := hl
  unfold wp_X8_entryOfCursor at h
  refine lv_aload_n hx hb dX8_entryOfCursor_0 rfl (lv_at hl 0 rfl) ?_
  refine lv_iload_n hx hb dX8_entryOfCursor_1 rfl (lv_at hl 1 rfl) ?_
  obtain ⟨ga_3, gb_4, hga_ga_3, hgb_ga_3, h⟩ := h
  obtain ⟨⟨fs_r_1, hrc_r_1⟩, h⟩ := h
  refine fx_cV_i (As := [.int x1]) (rest := []) ⟨hx, hb, hml, hown, hts⟩ (cc_X8_placeOfCursor l G hlt h) (⟨callB_of 1 hts ggX8_entryOfCursor_X8_placeOfCursor rfl rfl rfl (hts (.initialized RX8) (by decide +kernel)) (hts (.methodLink RX8 237 yX8_placeOfCursor) (by decide +kernel)) (by decide +kernel) ⟨Nat.le_of_ble_eq_true rfl, Nat.le_of_ble_eq_true rfl⟩, hts (.instanceMethod yX8_placeOfCursor) (by decide +kernel), hts (.selects RX8 yX8_placeOfCursor yX8_placeOfCursor) (by decide +kernel)⟩) rfl hrc_r_1 hK hZ hX hF hS hA rfl hl.1 rfl (Nat.le_of_ble_eq_true rfl) dX8_entryOfCursor_2 ⟨by show _ ≤ mc; omega, by show _ ≤ ms; omega⟩ hxt hlocks (by omega) (by omega) (fun r_1 f_2 H locs h hF hS => ?_)
  obtain ⟨cs_5, hcs⟩ : ∃ z, z = (0 + ga_3) := ⟨_, rfl⟩; obtain ⟨sl_6, hsl⟩ : ∃ z, z = (0 + gb_4) := ⟨_, rfl⟩
  have hbc : cs_5 + (mc - ga_3) ≤ mc := by omega
  have hbs : sl_6 + (ms - gb_4) ≤ ms := by omega
  refine W.widen (k := cs_5) (n := sl_6) (by omega) (by omega) ?_
  clear hcs hsl
  refine lv_istore_n (lv' := [(2, .int r_1), (0, .ref a0), (1, .int x1)]) hx hb dX8_entryOfCursor_5 rfl hl (by decide) rfl (fun ls hl => ?_)
  refine lv_iload_n hx hb dX8_entryOfCursor_6 rfl (lv_at hl 0 rfl) ?_
  refine lv_aload_n hx hb dX8_entryOfCursor_7 rfl (lv_at hl 1 rfl) ?_
  obtain ⟨fs_8, a_7, he_fs_8, hv_fs_8, h⟩ := h
  refine fw_get (C := RX8) (T := TX8) (N := 9) hx hb hts hin_X8 hown hK hF he_fs_8 rfl 0 (by decide) (hts (.fieldLink RX8 10 "FrontCodedIndex" "tree" "LFrontCodedIndex$Tree;") (by decide +kernel)) (fun _ h9 => h9) hv_fs_8 dX8_entryOfCursor_8 ?_
  obtain ⟨fs_10, a_9, he_fs_10, hv_fs_10, h⟩ := h
  refine fw_getN (C := RX7) (T := TX7) (N := 8) hx hb hts hin_X7 hown hK hF he_fs_10 rfl 0 (by decide) (va_Nw.use rfl (hZ.2.1 (.fieldLinkNest RX8 105 "FrontCodedIndex$Tree" "keys" "LFrontCodedIndex$KeyRow;" "FrontCodedIndex") (by decide +kernel))) (fun _ h9 => h9) hv_fs_10 dX8_entryOfCursor_11 ?_
  obtain ⟨⟨fs_r_11, hrc_r_11⟩, h⟩ := h
  refine fw_cV_i_p (As := []) (rest := [.int r_1]) ⟨hx, hb, hml, hown, hts⟩ (cc_X4_count l G h) (⟨callB_of 0 hts ggX8_entryOfCursor_X4_count rfl rfl rfl (hts (.initialized RX4) (by decide +kernel)) (hts (.methodLink RX8 109 yX4_count) (by decide +kernel)) (by decide +kernel) ⟨Nat.le_of_ble_eq_true rfl, Nat.le_of_ble_eq_true rfl⟩, hts (.instanceMethod yX4_count) (by decide +kernel), hts (.selects RX4 yX4_count yX4_count) (by decide +kernel)⟩) rfl hrc_r_11 hK hZ hF hS hA rfl hl.1 rfl (Nat.le_of_ble_eq_true rfl) dX8_entryOfCursor_14 ⟨by show _ ≤ mc; omega, by show _ ≤ ms; omega⟩ (fun r_11 H locs h hF hS => ?_)
  simp only [Nat.add_zero]
  obtain ⟨h1, h2⟩ := h
  refine lv_icmp_lt (tgt := 31) hx hb dX8_entryOfCursor_17 (by decide) (fun c_12 => ?_) (fun c_12 => ?_)
  · have h := h1 c_12
    refine lv_iload_n hx hb dX8_entryOfCursor_31 rfl (lv_at hl 0 rfl) ?_
    refine vx_ret ?_
    refine W.widen (k := mc) (n := ms) (by omega) (by omega) ?_
    exact W.iret (v := r_1) hx hb hr (fun t ht hW => ⟨⟨r_1, f_2, rfl, h, by rw [ht]; exact hF, FK.moved hW.alike hK⟩, hS.F ht⟩) hS.2.2 dX8_entryOfCursor_32
  · have h := h2 c_12
    obtain ⟨hb1, hb2, h⟩ := h
    refine vx_throwSW13 hx hb hlt (own := RX8) (cls := "java/util/NoSuchElementException") (text := "the cursor is at the end") (ik := 163) (is := 282) (ic := 167) (sa := G.2.2 (100 + 282)) (A := A) hown (by decide) (hts (.classLink RX8 163 "java/util/NoSuchElementException") (by decide +kernel)) (hts (.initialized "java/util/NoSuchElementException") (by decide +kernel)) (hX.1 (282, "the cursor is at the end") (by decide +kernel)) (vx_hat (B := thrB) (fun w hw => hts w ((by decide +kernel : ∀ w ∈ (vx_at13 RX8 167 "java/util/NoSuchElementException").filter goodWord, w ∈ wsX8_entryOfCursor) w hw)) (by decide +kernel) (fun w hw => va_Nw.use (thrB_tab w hw) (hX.2.1 w hw))) (by decide +kernel) hX.2.2.1 hX.2.2.2 hS (hl.1.trans hml.symm) dX8_entryOfCursor_20 dX8_entryOfCursor_23 dX8_entryOfCursor_24 dX8_entryOfCursor_27 dX8_entryOfCursor_30 (fun x hx => (hxt x hx).elim) (Nat.le_of_ble_eq_true rfl) (Nat.le_of_ble_eq_true rfl) (by show _ ≤ mc; omega) (by show _ ≤ ms; omega) hlocks (fun t hvm hz hk => ⟨(f_2, "java/util/NoSuchElementException"), h, ⟨rfl, hF.kept (fun q e9 he9 => hk q (hF.in he9).2), FK.moved hvm hK⟩, ⟨Nat.le_trans hS.1 hz, fun q h1 h2 => (hk q (Nat.lt_of_lt_of_le h1 hS.1)).trans (hS.2.1 q h1 h2)⟩⟩) hS.2.2 (by omega) (by omega)
theorem dX8_advance_0 : decode cX8_advance 0 = .ok (.aload_n 0, 1) := by decide +kernel
theorem dX8_advance_1 : decode cX8_advance 1 = .ok (.iload_n 1, 1) := by decide +kernel
theorem dX8_advance_2 : decode cX8_advance 2 = .ok (.invokevirtual 234, 3) := by decide +kernel
theorem dX8_advance_5 : decode cX8_advance 5 = .ok (.istore_n 2, 1) := by decide +kernel
theorem dX8_advance_6 : decode cX8_advance 6 = .ok (.aload_n 0, 1) := by decide +kernel
theorem dX8_advance_7 : decode cX8_advance 7 = .ok (.getfield 22, 3) := by decide +kernel
theorem dX8_advance_10 : decode cX8_advance 10 = .ok (.iload_n 1, 1) := by decide +kernel
theorem dX8_advance_11 : decode cX8_advance 11 = .ok (.iload_n 2, 1) := by decide +kernel
theorem dX8_advance_12 : decode cX8_advance 12 = .ok (.iconst 1, 1) := by decide +kernel
theorem dX8_advance_13 : decode cX8_advance 13 = .ok (.iadd, 1) := by decide +kernel
theorem dX8_advance_14 : decode cX8_advance 14 = .ok (.invokevirtual 228, 3) := by decide +kernel
theorem dX8_advance_17 : decode cX8_advance 17 = .ok (.iload_n 2, 1) := by decide +kernel
theorem dX8_advance_18 : decode cX8_advance 18 = .ok (.iconst 1, 1) := by decide +kernel
theorem dX8_advance_19 : decode cX8_advance 19 = .ok (.iadd, 1) := by decide +kernel
theorem dX8_advance_20 : decode cX8_advance 20 = .ok (.aload_n 0, 1) := by decide +kernel
theorem dX8_advance_21 : decode cX8_advance 21 = .ok (.getfield 10, 3) := by decide +kernel
theorem dX8_advance_24 : decode cX8_advance 24 = .ok (.getfield 105, 3) := by decide +kernel
theorem dX8_advance_27 : decode cX8_advance 27 = .ok (.invokevirtual 109, 3) := by decide +kernel
theorem dX8_advance_30 : decode cX8_advance 30 = .ok (.if_icmp .ge 7, 3) := by decide +kernel
theorem dX8_advance_33 : decode cX8_advance 33 = .ok (.iconst 1, 1) := by decide +kernel
theorem dX8_advance_34 : decode cX8_advance 34 = .ok (.goto 4, 3) := by decide +kernel
theorem dX8_advance_37 : decode cX8_advance 37 = .ok (.iconst 0, 1) := by decide +kernel
theorem dX8_advance_38 : decode cX8_advance 38 = .ok (.ireturn, 1) := by decide +kernel
set_option maxRecDepth 20000 in
theorem ggX8_advance_X0_place : GoodIn wsX8_advance wsX0_place := goodIn_r _ [43, 27, 61] (by decide +kernel) (by decide +kernel)
set_option maxRecDepth 20000 in
theorem ggX8_advance_X4_count : GoodIn wsX8_advance wsX4_count := goodIn_r _ [32, 33, 34, 35, 36, 37, 38, 39, 62, 63, 64, 65, 66] (by decide +kernel) (by decide +kernel)
set_option maxRecDepth 20000 in
theorem ggX8_advance_X8_entryOfCursor : GoodIn wsX8_advance wsX8_entryOfCursor := goodIn_ca (goodIn_ca (goodIn_ca (goodIn_r _ [7, 8, 9, 2, 10, 11, 12, 6, 13, 14, 15, 1, 16, 17, 18, 19, 20, 21, 22, 23, 24, 25, 26, 27, 28, 29, 30, 31, 32, 33, 34, 35, 36, 37, 38, 39, 44, 45, 46, 47, 48, 49, 50, 51, 52, 53, 54, 55, 56, 57, 58, 59, 60, 61, 62, 63, 64, 65, 66] (by decide +kernel) (by decide +kernel)) (goodIn_sub (fun _ h => List.mem_cons_of_mem _ (List.mem_append_left _ (List.mem_append_left _ (List.mem_append_right _ h)))) (by decide +kernel))) (goodIn_sub (fun _ h => List.mem_cons_of_mem _ (List.mem_append_left _ (List.mem_append_right _ h))) (by decide +kernel))) (goodIn_sub (fun _ h => List.mem_cons_of_mem _ (List.mem_append_right _ h)) (by decide +kernel))
def wp_X8_advance (a0 : Nat) (x1 : Int32) (f : FT) (mc ms : Nat) (K : Int32 → FT → Prop) (KX : String → FT → Prop) : Prop :=
  ∃ ga_3 gb_4 : Nat, ga_3 ≤ mc ∧ gb_4 ≤ ms ∧ isO f a0 11 ∧ wp_X8_entryOfCursor a0 x1 f ga_3 gb_4 (fun r_1 f_2 => gA f_2 a0 11 2 fun a_7 => isO f_2 a_7 3 ∧ wp_X0_place a_7 x1 (r_1 + (1 : Int32)) f_2 (fun f_10 => gA f_10 a0 11 0 fun a_11 => gA f_10 a_11 10 0 fun a_13 => isO f_10 a_13 7 ∧ wp_X4_count a_13 f_10 (fun r_15 => ((r_15 ≤ (r_1 + (1 : Int32)) → K (0 : Int32) f_10) ∧
 (¬ (r_15 ≤ (r_1 + (1 : Int32))) → K (1 : Int32) f_10))))) KX
set_option maxHeartbeats 4000000 in
set_option maxRecDepth 100000 in
theorem cc_X8_advance (l : Launch) (G : GG) {f : FT} {sz : Nat} {a0 : Nat} {x1 : Int32} {mc ms : Nat} {K : Int32 → FT → Prop} {KX : String → FT → Prop} (hlt : l.stackTraces = false) (h : wp_X8_advance a0 x1 f mc ms K KX) : vx_Met l yX8_advance wsX8_advance ({ frames := 9, cells := mc, slots := ms, locals := 155 } : Room) (FPX G [.ref a0, .int x1] f sz) (va_Qi (fun r f9 => K r f9 : Int32 → FT → Prop) (FB G (fA f sz)) (fA f sz)) (FXC G (fA f sz) KX) mc ms (fA f sz) := by
  refine vx_ofW (cc := cX8_advance) (maxL := 3) (ret := (some .boolean)) (by decide) rfl ?_
  intro p e s m args below meth c s₁ B hml hxt hv
  obtain ⟨rfl, hsz, hF, hK, hZ, hX⟩ := hv
  have hx := B.exec
  have hb := B.bytes
  have hr := B.returns
  have hts := atoms_spec (ws := wsX8_advance) B.pre
  have hown : s.vm.findClass RX8 = some m.cls := findClass_of_methodNamed B.named
  have hlocks := B.notSynchronized
  subst hsz
  have hF := hF.self (sz := s.heap.size)
  generalize hAe : fA f s.heap.size = A at hF hZ hX ⊢
  have hA : ∀ q : Nat, s.heap.size ≤ q → A q := fun q h => by rw [← hAe]; exact Or.inr h
  have hS : va_S A s.heap s.heap [] := va_S.rf
  have hin_X7 : ∀ w ∈ wsX70, w ∈ wsX8_advance := by decide +kernel
  have hin_X8 : ∀ w ∈ wsX80, w ∈ wsX8_advance := by decide +kernel
  have hbc : 0 + mc ≤ mc := by omega
  have hbs : 0 + ms ≤ ms := by omega
  have hl := lv_entry ([.ref a0, .int x1]) (n := 3) (Nat.le_of_ble_eq_true rfl)
  rw [lg_entry_eq]
  generalize (lg_sl ([.ref a0, .int x1]) ++ List.replicate (3 - (lg_sl ([.ref a0, .int x1])).length) Slot.unset).toArray = ls at hl ⊢
  have hl : lv_has ls 3 [(0, .ref a0), (1, .int x1)] := hl
  unfold wp_X8_advance at h
  refine lv_aload_n hx hb dX8_advance_0 rfl (lv_at hl 0 rfl) ?_
  refine lv_iload_n hx hb dX8_advance_1 rfl (lv_at hl 1 rfl) ?_
  obtain ⟨ga_3, gb_4, hga_ga_3, hgb_ga_3, h⟩ := h
  obtain ⟨⟨fs_r_1, hrc_r_1⟩, h⟩ := h
  refine fx_cV_i (As := [.int x1]) (rest := []) ⟨hx, hb, hml, hown, hts⟩ (cc_X8_entryOfCursor l G hlt h) (⟨callB_of 1 hts ggX8_advance_X8_entryOfCursor rfl rfl rfl (hts (.initialized RX8) (by decide +kernel)) (hts (.methodLink RX8 234 yX8_entryOfCursor) (by decide +kernel)) (by decide +kernel) ⟨Nat.le_of_ble_eq_true rfl, Nat.le_of_ble_eq_true rfl⟩, hts (.instanceMethod yX8_entryOfCursor) (by decide +kernel), hts (.selects RX8 yX8_entryOfCursor yX8_entryOfCursor) (by decide +kernel)⟩) rfl hrc_r_1 hK hZ hX hF hS hA rfl hl.1 rfl (Nat.le_of_ble_eq_true rfl) dX8_advance_2 ⟨by show _ ≤ mc; omega, by show _ ≤ ms; omega⟩ hxt hlocks (by omega) (by omega) (fun r_1 f_2 H locs h hF hS => ?_)
  obtain ⟨cs_5, hcs⟩ : ∃ z, z = (0 + ga_3) := ⟨_, rfl⟩; obtain ⟨sl_6, hsl⟩ : ∃ z, z = (0 + gb_4) := ⟨_, rfl⟩
  have hbc : cs_5 + (mc - ga_3) ≤ mc := by omega
  have hbs : sl_6 + (ms - gb_4) ≤ ms := by omega
  refine W.widen (k := cs_5) (n := sl_6) (by omega) (by omega) ?_
  clear hcs hsl
  refine lv_istore_n (lv' := [(2, .int r_1), (0, .ref a0), (1, .int x1)]) hx hb dX8_advance_5 rfl hl (by decide) rfl (fun ls hl => ?_)
  refine lv_aload_n hx hb dX8_advance_6 rfl (lv_at hl 1 rfl) ?_
  obtain ⟨fs_8, a_7, he_fs_8, hv_fs_8, h⟩ := h
  refine fw_get (C := RX8) (T := TX8) (N := 9) hx hb hts hin_X8 hown hK hF he_fs_8 rfl 2 (by decide) (hts (.fieldLink RX8 22 "FrontCodedIndex" "cursors" "LFrontCodedIndex$Cursors;") (by decide +kernel)) (fun _ h9 => h9) hv_fs_8 dX8_advance_7 ?_
  refine lv_iload_n hx hb dX8_advance_10 rfl (lv_at hl 2 rfl) ?_
  refine lv_iload_n hx hb dX8_advance_11 rfl (lv_at hl 0 rfl) ?_
  refine lv_iconst (v := (1 : Int32)) hx hb dX8_advance_12 (by decide) ?_
  refine lv_iadd hx hb dX8_advance_13 ?_
  obtain ⟨⟨fs_u_9, hrc_u_9⟩, h⟩ := h
  refine fw_cV_v (As := [.int x1, .int (r_1 + (1 : Int32))]) (rest := []) ⟨hx, hb, hml, hown, hts⟩ (cc_X0_place l G h) (⟨callB_of 2 hts ggX8_advance_X0_place rfl rfl rfl (hts (.initialized RX0) (by decide +kernel)) (hts (.methodLink RX8 228 yX0_place) (by decide +kernel)) (by decide +kernel) ⟨Nat.le_of_ble_eq_true rfl, Nat.le_of_ble_eq_true rfl⟩, hts (.instanceMethod yX0_place) (by decide +kernel), hts (.selects RX0 yX0_place yX0_place) (by decide +kernel)⟩) rfl hrc_u_9 hK hZ hF hS hA rfl hl.1 rfl (Nat.le_of_ble_eq_true rfl) dX8_advance_14 ⟨by show _ ≤ mc; omega, by show _ ≤ ms; omega⟩ (fun f_10 H locs h hF hS => ?_)
  simp only [Nat.add_zero]
  refine lv_iload_n hx hb dX8_advance_17 rfl (lv_at hl 0 rfl) ?_
  refine lv_iconst (v := (1 : Int32)) hx hb dX8_advance_18 (by decide) ?_
  refine lv_iadd hx hb dX8_advance_19 ?_
  refine lv_aload_n hx hb dX8_advance_20 rfl (lv_at hl 1 rfl) ?_
  obtain ⟨fs_12, a_11, he_fs_12, hv_fs_12, h⟩ := h
  refine fw_get (C := RX8) (T := TX8) (N := 9) hx hb hts hin_X8 hown hK hF he_fs_12 rfl 0 (by decide) (hts (.fieldLink RX8 10 "FrontCodedIndex" "tree" "LFrontCodedIndex$Tree;") (by decide +kernel)) (fun _ h9 => h9) hv_fs_12 dX8_advance_21 ?_
  obtain ⟨fs_14, a_13, he_fs_14, hv_fs_14, h⟩ := h
  refine fw_getN (C := RX7) (T := TX7) (N := 8) hx hb hts hin_X7 hown hK hF he_fs_14 rfl 0 (by decide) (va_Nw.use rfl (hZ.2.1 (.fieldLinkNest RX8 105 "FrontCodedIndex$Tree" "keys" "LFrontCodedIndex$KeyRow;" "FrontCodedIndex") (by decide +kernel))) (fun _ h9 => h9) hv_fs_14 dX8_advance_24 ?_
  obtain ⟨⟨fs_r_15, hrc_r_15⟩, h⟩ := h
  refine fw_cV_i_p (As := []) (rest := [.int (r_1 + (1 : Int32))]) ⟨hx, hb, hml, hown, hts⟩ (cc_X4_count l G h) (⟨callB_of 0 hts ggX8_advance_X4_count rfl rfl rfl (hts (.initialized RX4) (by decide +kernel)) (hts (.methodLink RX8 109 yX4_count) (by decide +kernel)) (by decide +kernel) ⟨Nat.le_of_ble_eq_true rfl, Nat.le_of_ble_eq_true rfl⟩, hts (.instanceMethod yX4_count) (by decide +kernel), hts (.selects RX4 yX4_count yX4_count) (by decide +kernel)⟩) rfl hrc_r_15 hK hZ hF hS hA rfl hl.1 rfl (Nat.le_of_ble_eq_true rfl) dX8_advance_27 ⟨by show _ ≤ mc; omega, by show _ ≤ ms; omega⟩ (fun r_15 H locs h hF hS => ?_)
  simp only [Nat.add_zero]
  obtain ⟨h1, h2⟩ := h
  refine lv_icmp_ge (tgt := 37) hx hb dX8_advance_30 (by decide) (fun c_16 => ?_) (fun c_16 => ?_)
  · have h := h1 c_16
    refine lv_iconst (v := (0 : Int32)) hx hb dX8_advance_37 (by decide) ?_
    refine vx_ret ?_
    refine W.widen (k := mc) (n := ms) (by omega) (by omega) ?_
    exact W.zret (v := (0 : Int32)) hx hb hr (by decide) (fun t ht hW => ⟨⟨(0 : Int32), f_10, rfl, h, by rw [ht]; exact hF, FK.moved hW.alike hK⟩, hS.F ht⟩) hS.2.2 dX8_advance_38
  · have h := h2 c_16
    refine lv_iconst (v := (1 : Int32)) hx hb dX8_advance_33 (by decide) ?_
    refine lv_goto (tgt := 38) hx hb dX8_advance_34 (by decide) ?_
    refine vx_ret ?_
    refine W.widen (k := mc) (n := ms) (by omega) (by omega) ?_
    exact W.zret (v := (1 : Int32)) hx hb hr (by decide) (fun t ht hW => ⟨⟨(1 : Int32), f_10, rfl, h, by rw [ht]; exact hF, FK.moved hW.alike hK⟩, hS.F ht⟩) hS.2.2 dX8_advance_38
theorem dX8_bitsOf_0 : decode cX8_bitsOf 0 = .ok (.dload_n 0, 1) := by decide +kernel
theorem dX8_bitsOf_1 : decode cX8_bitsOf 1 = .ok (.dstore_n 2, 1) := by decide +kernel
theorem dX8_bitsOf_2 : decode cX8_bitsOf 2 = .ok (.iconst 0, 1) := by decide +kernel
theorem dX8_bitsOf_3 : decode cX8_bitsOf 3 = .ok (.istore 4, 2) := by decide +kernel
theorem dX8_bitsOf_5 : decode cX8_bitsOf 5 = .ok (.dload_n 2, 1) := by decide +kernel
theorem dX8_bitsOf_6 : decode cX8_bitsOf 6 = .ok (.ldc2_w 284, 3) := by decide +kernel
theorem dX8_bitsOf_9 : decode cX8_bitsOf 9 = .ok (.dcmp .l, 1) := by decide +kernel
theorem dX8_bitsOf_10 : decode cX8_bitsOf 10 = .ok (.ifCond .lt 23, 3) := by decide +kernel
theorem dX8_bitsOf_13 : decode cX8_bitsOf 13 = .ok (.iload 4, 2) := by decide +kernel
theorem dX8_bitsOf_15 : decode cX8_bitsOf 15 = .ok (.sipush 1023, 3) := by decide +kernel
theorem dX8_bitsOf_18 : decode cX8_bitsOf 18 = .ok (.if_icmp .ge 15, 3) := by decide +kernel
theorem dX8_bitsOf_21 : decode cX8_bitsOf 21 = .ok (.dload_n 2, 1) := by decide +kernel
theorem dX8_bitsOf_22 : decode cX8_bitsOf 22 = .ok (.ldc2_w 284, 3) := by decide +kernel
theorem dX8_bitsOf_25 : decode cX8_bitsOf 25 = .ok (.ddiv, 1) := by decide +kernel
theorem dX8_bitsOf_26 : decode cX8_bitsOf 26 = .ok (.dstore_n 2, 1) := by decide +kernel
theorem dX8_bitsOf_27 : decode cX8_bitsOf 27 = .ok (.iinc 4 1, 3) := by decide +kernel
theorem dX8_bitsOf_30 : decode cX8_bitsOf 30 = .ok (.goto (-25), 3) := by decide +kernel
theorem dX8_bitsOf_33 : decode cX8_bitsOf 33 = .ok (.dload_n 2, 1) := by decide +kernel
theorem dX8_bitsOf_34 : decode cX8_bitsOf 34 = .ok (.dconst 1, 1) := by decide +kernel
theorem dX8_bitsOf_35 : decode cX8_bitsOf 35 = .ok (.dsub, 1) := by decide +kernel
theorem dX8_bitsOf_36 : decode cX8_bitsOf 36 = .ok (.ldc2_w 286, 3) := by decide +kernel
theorem dX8_bitsOf_39 : decode cX8_bitsOf 39 = .ok (.dmul, 1) := by decide +kernel
theorem dX8_bitsOf_40 : decode cX8_bitsOf 40 = .ok (.d2l, 1) := by decide +kernel
theorem dX8_bitsOf_41 : decode cX8_bitsOf 41 = .ok (.lstore 5, 2) := by decide +kernel
theorem dX8_bitsOf_43 : decode cX8_bitsOf 43 = .ok (.iload 4, 2) := by decide +kernel
theorem dX8_bitsOf_45 : decode cX8_bitsOf 45 = .ok (.sipush 1023, 3) := by decide +kernel
theorem dX8_bitsOf_48 : decode cX8_bitsOf 48 = .ok (.iadd, 1) := by decide +kernel
theorem dX8_bitsOf_49 : decode cX8_bitsOf 49 = .ok (.i2l, 1) := by decide +kernel
theorem dX8_bitsOf_50 : decode cX8_bitsOf 50 = .ok (.bipush 52, 2) := by decide +kernel
theorem dX8_bitsOf_52 : decode cX8_bitsOf 52 = .ok (.lshl, 1) := by decide +kernel
theorem dX8_bitsOf_53 : decode cX8_bitsOf 53 = .ok (.lload 5, 2) := by decide +kernel
theorem dX8_bitsOf_55 : decode cX8_bitsOf 55 = .ok (.lor, 1) := by decide +kernel
theorem dX8_bitsOf_56 : decode cX8_bitsOf 56 = .ok (.lreturn, 1) := by decide +kernel
def wp_X8_bitsOf_33  (ud2 : UInt64) (y4 : Int32) (f : FT) (K : Int64 → Prop)  : Prop :=
  vf_n64 (FP.dsub ud2 FP.dconst1) ∧ ∀ d_1 : UInt64, d_1 = (FP.dsub ud2 FP.dconst1) → vf_n64 (FP.dmul d_1 (4841369599423283200 : UInt64)) ∧ ∀ d_2 : UInt64, d_2 = (FP.dmul d_1 (4841369599423283200 : UInt64)) → ∀ v_3 : Int64, v_3 = (FP.d2l d_2) → K (((Int32.toInt64 (y4 + (1023 : Int32))) <<< ((52 : Int32).toInt64 &&& 63)) ||| v_3)
def wp_X8_bitsOf_5  (f : FT) (K : Int64 → Prop)  (C5 : UInt64 × Int32 → Prop) : UInt64 × Int32 → Prop := fun s9 => match s9 with
  | (ud2, y4) => (((Op.cmpValue (FP.dcmp ud2 (4611686018427387904 : UInt64)) .l) < (0 : Int32) → wp_X8_bitsOf_33 ud2 y4 f K) ∧
 (¬ ((Op.cmpValue (FP.dcmp ud2 (4611686018427387904 : UInt64)) .l) < (0 : Int32)) → (((1023 : Int32) ≤ y4 → wp_X8_bitsOf_33 ud2 y4 f K) ∧
 (¬ ((1023 : Int32) ≤ y4) → vf_n64 (FP.ddiv ud2 (4611686018427387904 : UInt64)) ∧ ∀ d_7 : UInt64, d_7 = (FP.ddiv ud2 (4611686018427387904 : UInt64)) → ∀ v_8 : Int32, v_8 = y4 + 1 → C5 (d_7, v_8)))))
def wp_X8_bitsOf (d0 : UInt64) (f : FT) (K : Int64 → Prop) : Prop :=
  ∃ n_10, loopW (wp_X8_bitsOf_5 f K) n_10 (d0, (0 : Int32))
set_option maxHeartbeats 4000000 in
set_option maxRecDepth 100000 in
theorem cc_X8_bitsOf (l : Launch) (G : GG) {f : FT} {sz : Nat} {d0 : UInt64} {K : Int64 → Prop} (h : wp_X8_bitsOf d0 f K) : Met l yX8_bitsOf wsX8_bitsOf ({ frames := 0, cells := 0, slots := 0, locals := 0 } : Room) (FP G [.double d0] f sz) (va_Ql (fun r f9 => K r ∧ f9 = f : Int64 → FT → Prop) (FB G (fA f sz)) (fA f sz)) 0 0 (fA f sz) := by
  refine Met.ofW (cc := cX8_bitsOf) (maxL := 7) (ret := (some .long)) (by decide) rfl ?_
  intro p e s m args below meth c s₁ B hml hv
  obtain ⟨rfl, hsz, hF, hK, hZ⟩ := hv
  have hx := B.exec
  have hb := B.bytes
  have hr := B.returns
  have hts := atoms_spec (ws := wsX8_bitsOf) B.pre
  have hown : s.vm.findClass RX8 = some m.cls := findClass_of_methodNamed B.named
  have hlocks := B.notSynchronized
  subst hsz
  have hF := hF.self (sz := s.heap.size)
  generalize hAe : fA f s.heap.size = A at hF hZ ⊢
  have hA : ∀ q : Nat, s.heap.size ≤ q → A q := fun q h => by rw [← hAe]; exact Or.inr h
  have hS : va_S A s.heap s.heap [] := va_S.rf
  have J33 : ∀ (ud2 : UInt64) (y4 : Int32) (H : Heap) (locs : List Loc) (ls : Array Slot), wp_X8_bitsOf_33 ud2 y4 f K  → Fw G A f H → va_S A s.heap H locs → lv_has ls 7 [(2, .double ud2), (4, .int y4)] → W p l e ({ frames := 0, cells := 0, slots := 0, locals := 0 } : Room) s m ([.double d0] : List Value).toArray below meth c H locs 0 0 (MQ below (va_Ql (fun r f9 => K r ∧ f9 = f : Int64 → FT → Prop) (FB G A) A) ([.double d0] : List Value).toArray s 0 0 A) (F0 m 33 ls []) := by
    intro ud2 y4 H locs ls h hF hS hl
    unfold wp_X8_bitsOf_33 at h
    refine lv_dload_n hx hb dX8_bitsOf_33 rfl (lv_at hl 0 rfl) ?_
    refine lv_dconst1 hx hb dX8_bitsOf_34 ?_
    obtain ⟨hne, h⟩ := h
    refine lv_dsub hx hb dX8_bitsOf_35 hne ?_
    refine lv_topd (fun d_1 e_d_1 => ?_)
    have h := h d_1 e_d_1
    refine lv_ldc2d hx hb hown (hts (.constantDouble RX8 286 (4841369599423283200 : UInt64)) (by decide +kernel)) dX8_bitsOf_36 ?_
    obtain ⟨hne, h⟩ := h
    refine lv_dmul hx hb dX8_bitsOf_39 hne ?_
    refine lv_topd (fun d_2 e_d_2 => ?_)
    have h := h d_2 e_d_2
    refine lv_d2l hx hb dX8_bitsOf_40 ?_
    refine lv_topl (fun v_3 e_4 => ?_)
    have h := h v_3 e_4
    refine lv_lstore (lv' := [(5, .long v_3), (2, .double ud2), (4, .int y4)]) hx hb dX8_bitsOf_41 hl (by decide) rfl (fun ls hl => ?_)
    refine lv_iload hx hb dX8_bitsOf_43 (lv_at hl 2 rfl) ?_
    refine lv_sipush (v := (1023 : Int32)) hx hb dX8_bitsOf_45 (by decide) ?_
    refine lv_iadd hx hb dX8_bitsOf_48 ?_
    refine lv_i2l (v := (Int32.toInt64 (y4 + (1023 : Int32)))) hx hb dX8_bitsOf_49 rfl ?_
    refine lv_bipush (v := (52 : Int32)) hx hb dX8_bitsOf_50 (by decide) ?_
    refine lv_lshl (v := ((Int32.toInt64 (y4 + (1023 : Int32))) <<< ((52 : Int32).toInt64 &&& 63))) hx hb dX8_bitsOf_52 rfl ?_
    refine lv_lload hx hb dX8_bitsOf_53 (lv_at hl 0 rfl) ?_
    refine lv_lor hx hb dX8_bitsOf_55 ?_
    exact W.lret (v := (((Int32.toInt64 (y4 + (1023 : Int32))) <<< ((52 : Int32).toInt64 &&& 63)) ||| v_3)) hx hb hr (fun t ht hW => ⟨⟨(((Int32.toInt64 (y4 + (1023 : Int32))) <<< ((52 : Int32).toInt64 &&& 63)) ||| v_3), f, rfl, ⟨h, rfl⟩, by rw [ht]; exact hF, FK.moved hW.alike hK⟩, hS.F ht⟩) hS.2.2 dX8_bitsOf_56
  have L5 : ∀  (j9 : Nat) (ud2 : UInt64) (y4 : Int32) (H : Heap) (locs : List Loc) (ls : Array Slot), loopW (wp_X8_bitsOf_5  f K ) j9 (ud2, y4) → Fw G A f H → va_S A s.heap H locs → lv_has ls 7 [(2, .double ud2), (4, .int y4)] → W p l e ({ frames := 0, cells := 0, slots := 0, locals := 0 } : Room) s m ([.double d0] : List Value).toArray below meth c H locs 0 0 (MQ below (va_Ql (fun r f9 => K r ∧ f9 = f : Int64 → FT → Prop) (FB G A) A) ([.double d0] : List Value).toArray s 0 0 A) (F0 m 5 ls []) := by
    intro  j9
    induction j9 with
    | zero => intro ud2 y4 H locs ls h; exact h.elim
    | succ j9 ih5 =>
      intro ud2 y4 H locs ls h hF hS hl
      have h : wp_X8_bitsOf_5  f K  (loopW (wp_X8_bitsOf_5  f K ) j9) (ud2, y4) := h
      generalize loopW (wp_X8_bitsOf_5  f K ) j9 = C5 at ih5 h
      unfold wp_X8_bitsOf_5 at h
      refine lv_dload_n hx hb dX8_bitsOf_5 rfl (lv_at hl 0 rfl) ?_
      refine lv_ldc2d hx hb hown (hts (.constantDouble RX8 284 (4611686018427387904 : UInt64)) (by decide +kernel)) dX8_bitsOf_6 ?_
      refine lv_dcmp hx hb dX8_bitsOf_9 ?_
      obtain ⟨h1, h2⟩ := h
      refine lv_if_lt (tgt := 33) hx hb dX8_bitsOf_10 (by decide) (fun c_5 => ?_) (fun c_5 => ?_)
      · have h := h1 c_5
        exact J33 ud2 y4 _ _ _ h hF hS (lv_sub hl [0, 1] rfl)
      · have h := h2 c_5
        refine lv_iload hx hb dX8_bitsOf_13 (lv_at hl 1 rfl) ?_
        refine lv_sipush (v := (1023 : Int32)) hx hb dX8_bitsOf_15 (by decide) ?_
        obtain ⟨h1, h2⟩ := h
        refine lv_icmp_ge (tgt := 33) hx hb dX8_bitsOf_18 (by decide) (fun c_6 => ?_) (fun c_6 => ?_)
        · have h := h1 c_6
          exact J33 ud2 y4 _ _ _ h hF hS (lv_sub hl [0, 1] rfl)
        · have h := h2 c_6
          refine lv_dload_n hx hb dX8_bitsOf_21 rfl (lv_at hl 0 rfl) ?_
          refine lv_ldc2d hx hb hown (hts (.constantDouble RX8 284 (4611686018427387904 : UInt64)) (by decide +kernel)) dX8_bitsOf_22 ?_
          obtain ⟨hne, h⟩ := h
          refine lv_ddiv hx hb dX8_bitsOf_25 hne ?_
          refine lv_topd (fun d_7 e_d_7 => ?_)
          have h := h d_7 e_d_7
          refine lv_dstore_n (lv' := [(2, .double d_7), (4, .int y4)]) hx hb dX8_bitsOf_26 rfl hl (by decide) rfl (fun ls hl => ?_)
          obtain ⟨v_8, e_9⟩ : ∃ y : Int32, y = y4 + 1 := ⟨_, rfl⟩
          have h := h v_8 e_9
          refine lv_iinc (v := v_8) (lv' := [(4, .int v_8), (2, .double d_7)]) hx hb dX8_bitsOf_27 hl (k := 1) rfl (by rw [e_9]; rfl) (by decide) rfl (fun ls hl => ?_)
          refine lv_goto (tgt := 5) hx hb dX8_bitsOf_30 (by decide) ?_
          exact ih5 d_7 v_8 _ _ _ h hF hS (lv_sub hl [1, 0] rfl)
  have hl := lv_entry ([.double d0]) (n := 7) (Nat.le_of_ble_eq_true rfl)
  rw [lg_entry_eq]
  generalize (lg_sl ([.double d0]) ++ List.replicate (7 - (lg_sl ([.double d0])).length) Slot.unset).toArray = ls at hl ⊢
  have hl : lv_has ls 7 [(0, .double d0)] := hl
  unfold wp_X8_bitsOf at h
  refine lv_dload_n hx hb dX8_bitsOf_0 rfl (lv_at hl 0 rfl) ?_
  refine lv_dstore_n (lv' := [(2, .double d0), (0, .double d0)]) hx hb dX8_bitsOf_1 rfl hl (by decide) rfl (fun ls hl => ?_)
  refine lv_iconst (v := (0 : Int32)) hx hb dX8_bitsOf_2 (by decide) ?_
  refine lv_istore (lv' := [(4, .int (0 : Int32)), (2, .double d0), (0, .double d0)]) hx hb dX8_bitsOf_3 hl (by decide) rfl (fun ls hl => ?_)
  obtain ⟨n_10, h⟩ := h
  exact L5 n_10 d0 (0 : Int32) _ _ _ h hF hS (lv_sub hl [1, 0] rfl)
theorem dX8_bytesOfTiers_0 : decode cX8_bytesOfTiers 0 = .ok (.iconst 0, 1) := by decide +kernel
theorem dX8_bytesOfTiers_1 : decode cX8_bytesOfTiers 1 = .ok (.istore_n 2, 1) := by decide +kernel
theorem dX8_bytesOfTiers_2 : decode cX8_bytesOfTiers 2 = .ok (.iconst 0, 1) := by decide +kernel
theorem dX8_bytesOfTiers_3 : decode cX8_bytesOfTiers 3 = .ok (.istore_n 3, 1) := by decide +kernel
theorem dX8_bytesOfTiers_4 : decode cX8_bytesOfTiers 4 = .ok (.iload_n 3, 1) := by decide +kernel
theorem dX8_bytesOfTiers_5 : decode cX8_bytesOfTiers 5 = .ok (.iload_n 1, 1) := by decide +kernel
theorem dX8_bytesOfTiers_6 : decode cX8_bytesOfTiers 6 = .ok (.if_icmp .ge 44, 3) := by decide +kernel
theorem dX8_bytesOfTiers_9 : decode cX8_bytesOfTiers 9 = .ok (.iconst 0, 1) := by decide +kernel
theorem dX8_bytesOfTiers_10 : decode cX8_bytesOfTiers 10 = .ok (.istore 4, 2) := by decide +kernel
theorem dX8_bytesOfTiers_12 : decode cX8_bytesOfTiers 12 = .ok (.iload 4, 2) := by decide +kernel
theorem dX8_bytesOfTiers_14 : decode cX8_bytesOfTiers 14 = .ok (.aload_n 0, 1) := by decide +kernel
theorem dX8_bytesOfTiers_15 : decode cX8_bytesOfTiers 15 = .ok (.getfield 10, 3) := by decide +kernel
theorem dX8_bytesOfTiers_18 : decode cX8_bytesOfTiers 18 = .ok (.iload_n 3, 1) := by decide +kernel
theorem dX8_bytesOfTiers_19 : decode cX8_bytesOfTiers 19 = .ok (.invokevirtual 181, 3) := by decide +kernel
theorem dX8_bytesOfTiers_22 : decode cX8_bytesOfTiers 22 = .ok (.if_icmp .ge 22, 3) := by decide +kernel
theorem dX8_bytesOfTiers_25 : decode cX8_bytesOfTiers 25 = .ok (.iload_n 2, 1) := by decide +kernel
theorem dX8_bytesOfTiers_26 : decode cX8_bytesOfTiers 26 = .ok (.aload_n 0, 1) := by decide +kernel
theorem dX8_bytesOfTiers_27 : decode cX8_bytesOfTiers 27 = .ok (.getfield 10, 3) := by decide +kernel
theorem dX8_bytesOfTiers_30 : decode cX8_bytesOfTiers 30 = .ok (.iload_n 3, 1) := by decide +kernel
theorem dX8_bytesOfTiers_31 : decode cX8_bytesOfTiers 31 = .ok (.iload 4, 2) := by decide +kernel
theorem dX8_bytesOfTiers_33 : decode cX8_bytesOfTiers 33 = .ok (.invokevirtual 187, 3) := by decide +kernel
theorem dX8_bytesOfTiers_36 : decode cX8_bytesOfTiers 36 = .ok (.iadd, 1) := by decide +kernel
theorem dX8_bytesOfTiers_37 : decode cX8_bytesOfTiers 37 = .ok (.istore_n 2, 1) := by decide +kernel
theorem dX8_bytesOfTiers_38 : decode cX8_bytesOfTiers 38 = .ok (.iinc 4 1, 3) := by decide +kernel
theorem dX8_bytesOfTiers_41 : decode cX8_bytesOfTiers 41 = .ok (.goto (-29), 3) := by decide +kernel
theorem dX8_bytesOfTiers_44 : decode cX8_bytesOfTiers 44 = .ok (.iinc 3 1, 3) := by decide +kernel
theorem dX8_bytesOfTiers_47 : decode cX8_bytesOfTiers 47 = .ok (.goto (-43), 3) := by decide +kernel
theorem dX8_bytesOfTiers_50 : decode cX8_bytesOfTiers 50 = .ok (.iload_n 2, 1) := by decide +kernel
theorem dX8_bytesOfTiers_51 : decode cX8_bytesOfTiers 51 = .ok (.ireturn, 1) := by decide +kernel
set_option maxRecDepth 20000 in
theorem ggX8_bytesOfTiers_X7_pageBytes : GoodIn wsX8_bytesOfTiers wsX7_pageBytes := goodIn_r _ [46, 47, 48, 49, 5, 50, 7, 8, 9, 10, 11, 12, 13, 14, 15, 16, 17, 18, 19, 20, 21, 22, 23, 24, 25, 26, 27, 28, 29, 30, 31, 32, 33, 34, 35, 36, 51, 52, 53, 40, 54, 42, 55, 56, 57, 58, 59, 60, 61, 62, 63, 64, 65, 66, 67, 68, 69, 70, 71, 72, 73, 74, 75, 76, 77, 78, 79, 80, 81, 82, 83, 84, 85, 86, 87, 88, 89, 90, 100, 101, 102, 103, 104, 105, 106, 107, 108, 109, 110, 111, 112, 113, 114, 115] (by decide +kernel) (by decide +kernel)
set_option maxRecDepth 20000 in
theorem ggX8_bytesOfTiers_X7_pageTotal : GoodIn wsX8_bytesOfTiers wsX7_pageTotal := goodIn_r _ [6, 7, 8, 9, 5, 10, 11, 12, 13, 14, 15, 16, 17, 18, 19, 20, 21, 22, 23, 24, 25, 26, 27, 28, 29, 30, 31, 32, 33, 34, 35, 36, 37, 38, 39, 40, 41, 42, 100, 101, 102, 103, 104, 105, 106, 107, 108, 109, 110, 111, 112] (by decide +kernel) (by decide +kernel)
def wp_X8_bytesOfTiers_12 (a0 : Nat) (x1 : Int32) (y3 : Int32) (f : FT) (K : Int32 → Prop) (C4 : Int32 × Int32 → Prop) (C12 : Int32 × Int32 → Prop) : Int32 × Int32 → Prop := fun s9 => match s9 with
  | (y2, y4) => gA f a0 11 0 fun a_1 => isO f a_1 10 ∧ wp_X7_pageTotal a_1 y3 f (fun r_3 => ((r_3 ≤ y4 → ∀ v_5 : Int32, v_5 = y3 + 1 → C4 (y2, v_5)) ∧
 (¬ (r_3 ≤ y4) → gA f a0 11 0 fun a_7 => isO f a_7 10 ∧ wp_X7_pageBytes a_7 y3 y4 f (fun r_9 => ∀ v_10 : Int32, v_10 = (y2 + r_9) → ∀ v_12 : Int32, v_12 = y4 + 1 → C12 (v_10, v_12)))))
def wp_X8_bytesOfTiers_4 (a0 : Nat) (x1 : Int32) (f : FT) (K : Int32 → Prop)  (C4 : Int32 × Int32 → Prop) : Int32 × Int32 → Prop := fun s9 => match s9 with
  | (y2, y3) => ((x1 ≤ y3 → K y2) ∧
 (¬ (x1 ≤ y3) → ∃ n_15, loopW (wp_X8_bytesOfTiers_12 a0 x1 y3 f K C4) n_15 (y2, (0 : Int32))))
def wp_X8_bytesOfTiers (a0 : Nat) (x1 : Int32) (f : FT) (K : Int32 → Prop) : Prop :=
  ∃ n_16, loopW (wp_X8_bytesOfTiers_4 a0 x1 f K) n_16 ((0 : Int32), (0 : Int32))
set_option maxHeartbeats 4000000 in
set_option maxRecDepth 100000 in
theorem cc_X8_bytesOfTiers (l : Launch) (G : GG) {f : FT} {sz : Nat} {a0 : Nat} {x1 : Int32} {K : Int32 → Prop} (h : wp_X8_bytesOfTiers a0 x1 f K) : Met l yX8_bytesOfTiers wsX8_bytesOfTiers ({ frames := 7, cells := 0, slots := 0, locals := 161 } : Room) (FP G [.ref a0, .int x1] f sz) (va_Qi (fun r f9 => K r ∧ f9 = f : Int32 → FT → Prop) (FB G (fA f sz)) (fA f sz)) 0 0 (fA f sz) := by
  refine Met.ofW (cc := cX8_bytesOfTiers) (maxL := 5) (ret := (some .int)) (by decide) rfl ?_
  intro p e s m args below meth c s₁ B hml hv
  obtain ⟨rfl, hsz, hF, hK, hZ⟩ := hv
  have hx := B.exec
  have hb := B.bytes
  have hr := B.returns
  have hts := atoms_spec (ws := wsX8_bytesOfTiers) B.pre
  have hown : s.vm.findClass RX8 = some m.cls := findClass_of_methodNamed B.named
  have hlocks := B.notSynchronized
  subst hsz
  have hF := hF.self (sz := s.heap.size)
  generalize hAe : fA f s.heap.size = A at hF hZ ⊢
  have hA : ∀ q : Nat, s.heap.size ≤ q → A q := fun q h => by rw [← hAe]; exact Or.inr h
  have hS : va_S A s.heap s.heap [] := va_S.rf
  have hin_X8 : ∀ w ∈ wsX80, w ∈ wsX8_bytesOfTiers := by decide +kernel
  have L4 : ∀  (j9 : Nat) (y2 : Int32) (y3 : Int32) (H : Heap) (locs : List Loc) (ls : Array Slot), loopW (wp_X8_bytesOfTiers_4 a0 x1 f K ) j9 (y2, y3) → Fw G A f H → va_S A s.heap H locs → lv_has ls 5 [(0, .ref a0), (1, .int x1), (2, .int y2), (3, .int y3)] → W p l e ({ frames := 7, cells := 0, slots := 0, locals := 161 } : Room) s m ([.ref a0, .int x1] : List Value).toArray below meth c H locs 0 0 (MQ below (va_Qi (fun r f9 => K r ∧ f9 = f : Int32 → FT → Prop) (FB G A) A) ([.ref a0, .int x1] : List Value).toArray s 0 0 A) (F0 m 4 ls []) := by
    intro  j9
    induction j9 with
    | zero => intro y2 y3 H locs ls h; exact h.elim
    | succ j9 ih4 =>
      intro y2 y3 H locs ls h hF hS hl
      have h : wp_X8_bytesOfTiers_4 a0 x1 f K  (loopW (wp_X8_bytesOfTiers_4 a0 x1 f K ) j9) (y2, y3) := h
      generalize loopW (wp_X8_bytesOfTiers_4 a0 x1 f K ) j9 = C4 at ih4 h
      unfold wp_X8_bytesOfTiers_4 at h
      have L12 : ∀ (y3 : Int32) (j9 : Nat) (y2 : Int32) (y4 : Int32) (H : Heap) (locs : List Loc) (ls : Array Slot), loopW (wp_X8_bytesOfTiers_12 a0 x1 y3 f K C4) j9 (y2, y4) → Fw G A f H → va_S A s.heap H locs → lv_has ls 5 [(0, .ref a0), (1, .int x1), (2, .int y2), (3, .int y3), (4, .int y4)] → W p l e ({ frames := 7, cells := 0, slots := 0, locals := 161 } : Room) s m ([.ref a0, .int x1] : List Value).toArray below meth c H locs 0 0 (MQ below (va_Qi (fun r f9 => K r ∧ f9 = f : Int32 → FT → Prop) (FB G A) A) ([.ref a0, .int x1] : List Value).toArray s 0 0 A) (F0 m 12 ls []) := by
        intro y3 j9
        induction j9 with
        | zero => intro y2 y4 H locs ls h; exact h.elim
        | succ j9 ih12 =>
          intro y2 y4 H locs ls h hF hS hl
          have h : wp_X8_bytesOfTiers_12 a0 x1 y3 f K C4 (loopW (wp_X8_bytesOfTiers_12 a0 x1 y3 f K C4) j9) (y2, y4) := h
          generalize loopW (wp_X8_bytesOfTiers_12 a0 x1 y3 f K C4) j9 = C12 at ih12 h
          unfold wp_X8_bytesOfTiers_12 at h
          refine lv_iload hx hb dX8_bytesOfTiers_12 (lv_at hl 4 rfl) ?_
          refine lv_aload_n hx hb dX8_bytesOfTiers_14 rfl (lv_at hl 0 rfl) ?_
          obtain ⟨fs_2, a_1, he_fs_2, hv_fs_2, h⟩ := h
          refine fw_get (C := RX8) (T := TX8) (N := 9) hx hb hts hin_X8 hown hK hF he_fs_2 rfl 0 (by decide) (hts (.fieldLink RX8 10 "FrontCodedIndex" "tree" "LFrontCodedIndex$Tree;") (by decide +kernel)) (fun _ h9 => h9) hv_fs_2 dX8_bytesOfTiers_15 ?_
          refine lv_iload_n hx hb dX8_bytesOfTiers_18 rfl (lv_at hl 3 rfl) ?_
          obtain ⟨⟨fs_r_3, hrc_r_3⟩, h⟩ := h
          refine fw_cV_i_p (As := [.int y3]) (rest := [.int y4]) ⟨hx, hb, hml, hown, hts⟩ (cc_X7_pageTotal l G h) (⟨callB_of 1 hts ggX8_bytesOfTiers_X7_pageTotal rfl rfl rfl (hts (.initialized RX7) (by decide +kernel)) (hts (.methodLink RX8 181 yX7_pageTotal) (by decide +kernel)) (by decide +kernel) ⟨Nat.le_of_ble_eq_true rfl, Nat.le_of_ble_eq_true rfl⟩, hts (.instanceMethod yX7_pageTotal) (by decide +kernel), hts (.selects RX7 yX7_pageTotal yX7_pageTotal) (by decide +kernel)⟩) rfl hrc_r_3 hK hZ hF hS hA rfl hl.1 rfl (Nat.le_of_ble_eq_true rfl) dX8_bytesOfTiers_19 ⟨Nat.zero_le _, Nat.zero_le _⟩ (fun r_3 H locs h hF hS => ?_)
          obtain ⟨h1, h2⟩ := h
          refine lv_icmp_ge (tgt := 44) hx hb dX8_bytesOfTiers_22 (by decide) (fun c_4 => ?_) (fun c_4 => ?_)
          · have h := h1 c_4
            obtain ⟨v_5, e_6⟩ : ∃ y : Int32, y = y3 + 1 := ⟨_, rfl⟩
            have h := h v_5 e_6
            refine lv_iinc (v := v_5) (lv' := [(3, .int v_5), (0, .ref a0), (1, .int x1), (2, .int y2), (4, .int y4)]) hx hb dX8_bytesOfTiers_44 hl (k := 3) rfl (by rw [e_6]; rfl) (by decide) rfl (fun ls hl => ?_)
            refine lv_goto (tgt := 4) hx hb dX8_bytesOfTiers_47 (by decide) ?_
            exact ih4 y2 v_5 _ _ _ h hF hS (lv_sub hl [1, 2, 3, 0] rfl)
          · have h := h2 c_4
            refine lv_iload_n hx hb dX8_bytesOfTiers_25 rfl (lv_at hl 2 rfl) ?_
            refine lv_aload_n hx hb dX8_bytesOfTiers_26 rfl (lv_at hl 0 rfl) ?_
            obtain ⟨fs_8, a_7, he_fs_8, hv_fs_8, h⟩ := h
            refine fw_get (C := RX8) (T := TX8) (N := 9) hx hb hts hin_X8 hown hK hF he_fs_8 rfl 0 (by decide) (hts (.fieldLink RX8 10 "FrontCodedIndex" "tree" "LFrontCodedIndex$Tree;") (by decide +kernel)) (fun _ h9 => h9) hv_fs_8 dX8_bytesOfTiers_27 ?_
            refine lv_iload_n hx hb dX8_bytesOfTiers_30 rfl (lv_at hl 3 rfl) ?_
            refine lv_iload hx hb dX8_bytesOfTiers_31 (lv_at hl 4 rfl) ?_
            obtain ⟨⟨fs_r_9, hrc_r_9⟩, h⟩ := h
            refine fw_cV_i_p (As := [.int y3, .int y4]) (rest := [.int y2]) ⟨hx, hb, hml, hown, hts⟩ (cc_X7_pageBytes l G h) (⟨callB_of 2 hts ggX8_bytesOfTiers_X7_pageBytes rfl rfl rfl (hts (.initialized RX7) (by decide +kernel)) (hts (.methodLink RX8 187 yX7_pageBytes) (by decide +kernel)) (by decide +kernel) ⟨Nat.le_of_ble_eq_true rfl, Nat.le_of_ble_eq_true rfl⟩, hts (.instanceMethod yX7_pageBytes) (by decide +kernel), hts (.selects RX7 yX7_pageBytes yX7_pageBytes) (by decide +kernel)⟩) rfl hrc_r_9 hK hZ hF hS hA rfl hl.1 rfl (Nat.le_of_ble_eq_true rfl) dX8_bytesOfTiers_33 ⟨Nat.zero_le _, Nat.zero_le _⟩ (fun r_9 H locs h hF hS => ?_)
            refine lv_iadd hx hb dX8_bytesOfTiers_36 ?_
            refine lv_topi (fun v_10 e_11 => ?_)
            have h := h v_10 e_11
            refine lv_istore_n (lv' := [(2, .int v_10), (0, .ref a0), (1, .int x1), (3, .int y3), (4, .int y4)]) hx hb dX8_bytesOfTiers_37 rfl hl (by decide) rfl (fun ls hl => ?_)
            obtain ⟨v_12, e_13⟩ : ∃ y : Int32, y = y4 + 1 := ⟨_, rfl⟩
            have h := h v_12 e_13
            refine lv_iinc (v := v_12) (lv' := [(4, .int v_12), (2, .int v_10), (0, .ref a0), (1, .int x1), (3, .int y3)]) hx hb dX8_bytesOfTiers_38 hl (k := 4) rfl (by rw [e_13]; rfl) (by decide) rfl (fun ls hl => ?_)
            refine lv_goto (tgt := 12) hx hb dX8_bytesOfTiers_41 (by decide) ?_
            exact ih12 v_10 v_12 _ _ _ h hF hS (lv_sub hl [2, 3, 1, 4, 0] rfl)
      refine lv_iload_n hx hb dX8_bytesOfTiers_4 rfl (lv_at hl 3 rfl) ?_
      refine lv_iload_n hx hb dX8_bytesOfTiers_5 rfl (lv_at hl 1 rfl) ?_
      obtain ⟨h1, h2⟩ := h
      refine lv_icmp_ge (tgt := 50) hx hb dX8_bytesOfTiers_6 (by decide) (fun c_14 => ?_) (fun c_14 => ?_)
      · have h := h1 c_14
        refine lv_iload_n hx hb dX8_bytesOfTiers_50 rfl (lv_at hl 2 rfl) ?_
        exact W.iret (v := y2) hx hb hr (fun t ht hW => ⟨⟨y2, f, rfl, ⟨h, rfl⟩, by rw [ht]; exact hF, FK.moved hW.alike hK⟩, hS.F ht⟩) hS.2.2 dX8_bytesOfTiers_51
      · have h := h2 c_14
        refine lv_iconst (v := (0 : Int32)) hx hb dX8_bytesOfTiers_9 (by decide) ?_
        refine lv_istore (lv' := [(4, .int (0 : Int32)), (0, .ref a0), (1, .int x1), (2, .int y2), (3, .int y3)]) hx hb dX8_bytesOfTiers_10 hl (by decide) rfl (fun ls hl => ?_)
        obtain ⟨n_15, h⟩ := h
        exact L12 y3 n_15 y2 (0 : Int32) _ _ _ h hF hS (lv_sub hl [1, 2, 3, 4, 0] rfl)
  have hl := lv_entry ([.ref a0, .int x1]) (n := 5) (Nat.le_of_ble_eq_true rfl)
  rw [lg_entry_eq]
  generalize (lg_sl ([.ref a0, .int x1]) ++ List.replicate (5 - (lg_sl ([.ref a0, .int x1])).length) Slot.unset).toArray = ls at hl ⊢
  have hl : lv_has ls 5 [(0, .ref a0), (1, .int x1)] := hl
  unfold wp_X8_bytesOfTiers at h
  refine lv_iconst (v := (0 : Int32)) hx hb dX8_bytesOfTiers_0 (by decide) ?_
  refine lv_istore_n (lv' := [(2, .int (0 : Int32)), (0, .ref a0), (1, .int x1)]) hx hb dX8_bytesOfTiers_1 rfl hl (by decide) rfl (fun ls hl => ?_)
  refine lv_iconst (v := (0 : Int32)) hx hb dX8_bytesOfTiers_2 (by decide) ?_
  refine lv_istore_n (lv' := [(3, .int (0 : Int32)), (2, .int (0 : Int32)), (0, .ref a0), (1, .int x1)]) hx hb dX8_bytesOfTiers_3 rfl hl (by decide) rfl (fun ls hl => ?_)
  obtain ⟨n_16, h⟩ := h
  exact L4 n_16 (0 : Int32) (0 : Int32) _ _ _ h hF hS (lv_sub hl [2, 3, 1, 0] rfl)
theorem dX8_close_0 : decode cX8_close 0 = .ok (.aload_n 0, 1) := by decide +kernel
theorem dX8_close_1 : decode cX8_close 1 = .ok (.iload_n 1, 1) := by decide +kernel
theorem dX8_close_2 : decode cX8_close 2 = .ok (.invokevirtual 225, 3) := by decide +kernel
theorem dX8_close_5 : decode cX8_close 5 = .ok (.aload_n 0, 1) := by decide +kernel
theorem dX8_close_6 : decode cX8_close 6 = .ok (.getfield 22, 3) := by decide +kernel
theorem dX8_close_9 : decode cX8_close 9 = .ok (.iload_n 1, 1) := by decide +kernel
theorem dX8_close_10 : decode cX8_close 10 = .ok (.invokevirtual 231, 3) := by decide +kernel
theorem dX8_close_13 : decode cX8_close 13 = .ok (.iconst (-1), 1) := by decide +kernel
theorem dX8_close_14 : decode cX8_close 14 = .ok (.if_icmp .eq 7, 3) := by decide +kernel
theorem dX8_close_17 : decode cX8_close 17 = .ok (.iconst 1, 1) := by decide +kernel
theorem dX8_close_18 : decode cX8_close 18 = .ok (.goto 4, 3) := by decide +kernel
theorem dX8_close_21 : decode cX8_close 21 = .ok (.iconst 0, 1) := by decide +kernel
theorem dX8_close_22 : decode cX8_close 22 = .ok (.istore_n 2, 1) := by decide +kernel
theorem dX8_close_23 : decode cX8_close 23 = .ok (.aload_n 0, 1) := by decide +kernel
theorem dX8_close_24 : decode cX8_close 24 = .ok (.getfield 22, 3) := by decide +kernel
theorem dX8_close_27 : decode cX8_close 27 = .ok (.iload_n 1, 1) := by decide +kernel
theorem dX8_close_28 : decode cX8_close 28 = .ok (.iconst (-1), 1) := by decide +kernel
theorem dX8_close_29 : decode cX8_close 29 = .ok (.invokevirtual 228, 3) := by decide +kernel
theorem dX8_close_32 : decode cX8_close 32 = .ok (.iload_n 2, 1) := by decide +kernel
theorem dX8_close_33 : decode cX8_close 33 = .ok (.ireturn, 1) := by decide +kernel
set_option maxRecDepth 20000 in
theorem ggX8_close_X0_place : GoodIn wsX8_close wsX0_place := goodIn_r _ [18, 14, 28] (by decide +kernel) (by decide +kernel)
set_option maxRecDepth 20000 in
theorem ggX8_close_X0_placeOf : GoodIn wsX8_close wsX0_placeOf := goodIn_r _ [13, 14, 28] (by decide +kernel) (by decide +kernel)
set_option maxRecDepth 20000 in
theorem ggX8_close_X8_refuseMissingCursor : GoodIn wsX8_close wsX8_refuseMissingCursor := goodIn_ca (goodIn_r _ [6, 7, 8] (by decide +kernel) (by decide +kernel)) (goodIn_sub (fun _ h => List.mem_cons_of_mem _ (List.mem_append_right _ h)) (by decide +kernel))
def wp_X8_close_22 (a0 : Nat) (x1 : Int32) (z0 : Int32) (f : FT) (bc bs : Nat) (K : Int32 → FT → Prop) (KX : String → FT → Prop)  : Prop :=
  gA f a0 11 2 fun a_1 => isO f a_1 3 ∧ wp_X0_place a_1 x1 (-1 : Int32) f (fun f_4 => isB z0 ∧ K z0 f_4)
def wp_X8_close (a0 : Nat) (x1 : Int32) (f : FT) (mc ms : Nat) (K : Int32 → FT → Prop) (KX : String → FT → Prop) : Prop :=
  ∃ ga_7 gb_8 : Nat, ga_7 ≤ mc ∧ gb_8 ≤ ms ∧ isO f a0 11 ∧ wp_X8_refuseMissingCursor a0 x1 f ga_7 gb_8 (fun f_6 => gA f_6 a0 11 2 fun a_11 => isO f_6 a_11 3 ∧ wp_X0_placeOf a_11 x1 f_6 (fun r_13 => ((r_13 = (-1 : Int32) → wp_X8_close_22 a0 x1 (0 : Int32) f_6 (mc - ga_7) (ms - gb_8) K KX) ∧
 (¬ (r_13 = (-1 : Int32)) → wp_X8_close_22 a0 x1 (1 : Int32) f_6 (mc - ga_7) (ms - gb_8) K KX)))) KX
set_option maxHeartbeats 4000000 in
set_option maxRecDepth 100000 in
theorem cc_X8_close (l : Launch) (G : GG) {f : FT} {sz : Nat} {a0 : Nat} {x1 : Int32} {mc ms : Nat} {K : Int32 → FT → Prop} {KX : String → FT → Prop} (hlt : l.stackTraces = false) (h : wp_X8_close a0 x1 f mc ms K KX) : vx_Met l yX8_close wsX8_close ({ frames := 7, cells := mc, slots := ms, locals := 111 } : Room) (FPX G [.ref a0, .int x1] f sz) (va_Qi (fun r f9 => K r f9 : Int32 → FT → Prop) (FB G (fA f sz)) (fA f sz)) (FXC G (fA f sz) KX) mc ms (fA f sz) := by
  refine vx_ofW (cc := cX8_close) (maxL := 3) (ret := (some .boolean)) (by decide) rfl ?_
  intro p e s m args below meth c s₁ B hml hxt hv
  obtain ⟨rfl, hsz, hF, hK, hZ, hX⟩ := hv
  have hx := B.exec
  have hb := B.bytes
  have hr := B.returns
  have hts := atoms_spec (ws := wsX8_close) B.pre
  have hown : s.vm.findClass RX8 = some m.cls := findClass_of_methodNamed B.named
  have hlocks := B.notSynchronized
  subst hsz
  have hF := hF.self (sz := s.heap.size)
  generalize hAe : fA f s.heap.size = A at hF hZ hX ⊢
  have hA : ∀ q : Nat, s.heap.size ≤ q → A q := fun q h => by rw [← hAe]; exact Or.inr h
  have hS : va_S A s.heap s.heap [] := va_S.rf
  have hin_X8 : ∀ w ∈ wsX80, w ∈ wsX8_close := by decide +kernel
  have hbc : 0 + mc ≤ mc := by omega
  have hbs : 0 + ms ≤ ms := by omega
  have J22 : ∀ (z0 : Int32) (f : FT) (bc : Nat) (bs : Nat) (H : Heap) (locs : List Loc) (ls : Array Slot) (cs sl : Nat), wp_X8_close_22 a0 x1 z0 f bc bs K KX  → cs + bc ≤ mc → sl + bs ≤ ms → Fw G A f H → va_S A s.heap H locs → lv_has ls 3 [(0, .ref a0), (1, .int x1)] → W p l e ({ frames := 7, cells := mc, slots := ms, locals := 111 } : Room) s m ([.ref a0, .int x1] : List Value).toArray below meth c H locs cs sl (vx_MQ below (va_Qi (fun r f9 => K r f9 : Int32 → FT → Prop) (FB G A) A) (FXC G A KX) ([.ref a0, .int x1] : List Value).toArray s mc ms A) (F0 m 22 ls [.int z0]) := by
    intro z0 f bc bs H locs ls cs sl h hbc hbs hF hS hl
    unfold wp_X8_close_22 at h
    refine lv_istore_n (lv' := [(2, .int z0), (0, .ref a0), (1, .int x1)]) hx hb dX8_close_22 rfl hl (by decide) rfl (fun ls hl => ?_)
    refine lv_aload_n hx hb dX8_close_23 rfl (lv_at hl 1 rfl) ?_
    obtain ⟨fs_2, a_1, he_fs_2, hv_fs_2, h⟩ := h
    refine fw_get (C := RX8) (T := TX8) (N := 9) hx hb hts hin_X8 hown hK hF he_fs_2 rfl 2 (by decide) (hts (.fieldLink RX8 22 "FrontCodedIndex" "cursors" "LFrontCodedIndex$Cursors;") (by decide +kernel)) (fun _ h9 => h9) hv_fs_2 dX8_close_24 ?_
    refine lv_iload_n hx hb dX8_close_27 rfl (lv_at hl 2 rfl) ?_
    refine lv_iconst (v := (-1 : Int32)) hx hb dX8_close_28 (by decide) ?_
    obtain ⟨⟨fs_u_3, hrc_u_3⟩, h⟩ := h
    refine fw_cV_v (As := [.int x1, .int (-1 : Int32)]) (rest := []) ⟨hx, hb, hml, hown, hts⟩ (cc_X0_place l G h) (⟨callB_of 2 hts ggX8_close_X0_place rfl rfl rfl (hts (.initialized RX0) (by decide +kernel)) (hts (.methodLink RX8 228 yX0_place) (by decide +kernel)) (by decide +kernel) ⟨Nat.le_of_ble_eq_true rfl, Nat.le_of_ble_eq_true rfl⟩, hts (.instanceMethod yX0_place) (by decide +kernel), hts (.selects RX0 yX0_place yX0_place) (by decide +kernel)⟩) rfl hrc_u_3 hK hZ hF hS hA rfl hl.1 rfl (Nat.le_of_ble_eq_true rfl) dX8_close_29 ⟨by show _ ≤ mc; omega, by show _ ≤ ms; omega⟩ (fun f_4 H locs h hF hS => ?_)
    simp only [Nat.add_zero]
    refine lv_iload_n hx hb dX8_close_32 rfl (lv_at hl 0 rfl) ?_
    obtain ⟨hz, h⟩ := h
    refine vx_ret ?_
    refine W.widen (k := mc) (n := ms) (by omega) (by omega) ?_
    exact W.zret (v := z0) hx hb hr (isB_nar hz) (fun t ht hW => ⟨⟨z0, f_4, rfl, h, by rw [ht]; exact hF, FK.moved hW.alike hK⟩, hS.F ht⟩) hS.2.2 dX8_close_33
  have hl := lv_entry ([.ref a0, .int x1]) (n := 3) (Nat.le_of_ble_eq_true rfl)
  rw [lg_entry_eq]
  generalize (lg_sl ([.ref a0, .int x1]) ++ List.replicate (3 - (lg_sl ([.ref a0, .int x1])).length) Slot.unset).toArray = ls at hl ⊢
  have hl : lv_has ls 3 [(0, .ref a0), (1, .int x1)] := hl
  unfold wp_X8_close at h
  refine lv_aload_n hx hb dX8_close_0 rfl (lv_at hl 0 rfl) ?_
  refine lv_iload_n hx hb dX8_close_1 rfl (lv_at hl 1 rfl) ?_
  obtain ⟨ga_7, gb_8, hga_ga_7, hgb_ga_7, h⟩ := h
  obtain ⟨⟨fs_u_5, hrc_u_5⟩, h⟩ := h
  refine fx_cV_v (As := [.int x1]) (rest := []) ⟨hx, hb, hml, hown, hts⟩ (cc_X8_refuseMissingCursor l G hlt h) (⟨callB_of 1 hts ggX8_close_X8_refuseMissingCursor rfl rfl rfl (hts (.initialized RX8) (by decide +kernel)) (hts (.methodLink RX8 225 yX8_refuseMissingCursor) (by decide +kernel)) (by decide +kernel) ⟨Nat.le_of_ble_eq_true rfl, Nat.le_of_ble_eq_true rfl⟩, hts (.instanceMethod yX8_refuseMissingCursor) (by decide +kernel), hts (.selects RX8 yX8_refuseMissingCursor yX8_refuseMissingCursor) (by decide +kernel)⟩) rfl hrc_u_5 hK hZ hX hF hS hA rfl hl.1 rfl (Nat.le_of_ble_eq_true rfl) dX8_close_2 ⟨by show _ ≤ mc; omega, by show _ ≤ ms; omega⟩ hxt hlocks (by omega) (by omega) (fun f_6 H locs h hF hS => ?_)
  obtain ⟨cs_9, hcs⟩ : ∃ z, z = (0 + ga_7) := ⟨_, rfl⟩; obtain ⟨sl_10, hsl⟩ : ∃ z, z = (0 + gb_8) := ⟨_, rfl⟩
  have hbc : cs_9 + (mc - ga_7) ≤ mc := by omega
  have hbs : sl_10 + (ms - gb_8) ≤ ms := by omega
  refine W.widen (k := cs_9) (n := sl_10) (by omega) (by omega) ?_
  clear hcs hsl
  refine lv_aload_n hx hb dX8_close_5 rfl (lv_at hl 0 rfl) ?_
  obtain ⟨fs_12, a_11, he_fs_12, hv_fs_12, h⟩ := h
  refine fw_get (C := RX8) (T := TX8) (N := 9) hx hb hts hin_X8 hown hK hF he_fs_12 rfl 2 (by decide) (hts (.fieldLink RX8 22 "FrontCodedIndex" "cursors" "LFrontCodedIndex$Cursors;") (by decide +kernel)) (fun _ h9 => h9) hv_fs_12 dX8_close_6 ?_
  refine lv_iload_n hx hb dX8_close_9 rfl (lv_at hl 1 rfl) ?_
  obtain ⟨⟨fs_r_13, hrc_r_13⟩, h⟩ := h
  refine fw_cV_i_p (As := [.int x1]) (rest := []) ⟨hx, hb, hml, hown, hts⟩ (cc_X0_placeOf l G h) (⟨callB_of 1 hts ggX8_close_X0_placeOf rfl rfl rfl (hts (.initialized RX0) (by decide +kernel)) (hts (.methodLink RX8 231 yX0_placeOf) (by decide +kernel)) (by decide +kernel) ⟨Nat.le_of_ble_eq_true rfl, Nat.le_of_ble_eq_true rfl⟩, hts (.instanceMethod yX0_placeOf) (by decide +kernel), hts (.selects RX0 yX0_placeOf yX0_placeOf) (by decide +kernel)⟩) rfl hrc_r_13 hK hZ hF hS hA rfl hl.1 rfl (Nat.le_of_ble_eq_true rfl) dX8_close_10 ⟨by show _ ≤ mc; omega, by show _ ≤ ms; omega⟩ (fun r_13 H locs h hF hS => ?_)
  simp only [Nat.add_zero]
  refine lv_iconst (v := (-1 : Int32)) hx hb dX8_close_13 (by decide) ?_
  obtain ⟨h1, h2⟩ := h
  refine lv_icmp_eq (tgt := 21) hx hb dX8_close_14 (by decide) (fun c_14 => ?_) (fun c_14 => ?_)
  · have h := h1 c_14
    refine lv_iconst (v := (0 : Int32)) hx hb dX8_close_21 (by decide) ?_
    exact J22 (0 : Int32) f_6 (mc - ga_7) (ms - gb_8) _ _ _ _ _ h hbc hbs hF hS (lv_sub hl [0, 1] rfl)
  · have h := h2 c_14
    refine lv_iconst (v := (1 : Int32)) hx hb dX8_close_17 (by decide) ?_
    refine lv_goto (tgt := 22) hx hb dX8_close_18 (by decide) ?_
    exact J22 (1 : Int32) f_6 (mc - ga_7) (ms - gb_8) _ _ _ _ _ h hbc hbs hF hS (lv_sub hl [0, 1] rfl)
theorem dX8_current_0 : decode cX8_current 0 = .ok (.aload_n 0, 1) := by decide +kernel
theorem dX8_current_1 : decode cX8_current 1 = .ok (.iload_n 1, 1) := by decide +kernel
theorem dX8_current_2 : decode cX8_current 2 = .ok (.invokevirtual 234, 3) := by decide +kernel
theorem dX8_current_5 : decode cX8_current 5 = .ok (.istore_n 2, 1) := by decide +kernel
theorem dX8_current_6 : decode cX8_current 6 = .ok (.aload_n 0, 1) := by decide +kernel
theorem dX8_current_7 : decode cX8_current 7 = .ok (.aload_n 0, 1) := by decide +kernel
theorem dX8_current_8 : decode cX8_current 8 = .ok (.getfield 10, 3) := by decide +kernel
theorem dX8_current_11 : decode cX8_current 11 = .ok (.getfield 105, 3) := by decide +kernel
theorem dX8_current_14 : decode cX8_current 14 = .ok (.iload_n 2, 1) := by decide +kernel
theorem dX8_current_15 : decode cX8_current 15 = .ok (.invokevirtual 161, 3) := by decide +kernel
theorem dX8_current_18 : decode cX8_current 18 = .ok (.putfield 58, 3) := by decide +kernel
theorem dX8_current_21 : decode cX8_current 21 = .ok (.aload_n 0, 1) := by decide +kernel
theorem dX8_current_22 : decode cX8_current 22 = .ok (.getfield 10, 3) := by decide +kernel
theorem dX8_current_25 : decode cX8_current 25 = .ok (.getfield 124, 3) := by decide +kernel
theorem dX8_current_28 : decode cX8_current 28 = .ok (.iload_n 2, 1) := by decide +kernel
theorem dX8_current_29 : decode cX8_current 29 = .ok (.invokevirtual 143, 3) := by decide +kernel
theorem dX8_current_32 : decode cX8_current 32 = .ok (.ireturn, 1) := by decide +kernel
set_option maxRecDepth 20000 in
theorem ggX8_current_X2_at : GoodIn wsX8_current wsX2_at := goodIn_r _ [68, 69, 70, 94, 95] (by decide +kernel) (by decide +kernel)
set_option maxRecDepth 20000 in
theorem ggX8_current_X4_at : GoodIn wsX8_current wsX4_at := goodIn_r _ [44, 34, 45, 46, 35, 36, 37, 38, 39, 40, 47, 48, 49, 50, 51, 52, 53, 54, 55, 56, 57, 58, 59, 60, 61, 62, 63, 89, 90, 91, 92, 93] (by decide +kernel) (by decide +kernel)
set_option maxRecDepth 20000 in
theorem ggX8_current_X8_entryOfCursor : GoodIn wsX8_current wsX8_entryOfCursor := goodIn_ca (goodIn_ca (goodIn_ca (goodIn_r _ [7, 8, 9, 1, 10, 11, 12, 6, 13, 14, 15, 16, 17, 18, 19, 20, 21, 22, 23, 24, 25, 26, 27, 28, 29, 30, 31, 32, 33, 34, 35, 36, 37, 38, 39, 40, 71, 72, 73, 74, 75, 76, 77, 78, 79, 80, 81, 82, 83, 84, 85, 86, 87, 88, 89, 90, 91, 92, 93] (by decide +kernel) (by decide +kernel)) (goodIn_sub (fun _ h => List.mem_cons_of_mem _ (List.mem_append_left _ (List.mem_append_left _ (List.mem_append_right _ h)))) (by decide +kernel))) (goodIn_sub (fun _ h => List.mem_cons_of_mem _ (List.mem_append_left _ (List.mem_append_right _ h))) (by decide +kernel))) (goodIn_sub (fun _ h => List.mem_cons_of_mem _ (List.mem_append_right _ h)) (by decide +kernel))
def wp_X8_current (a0 : Nat) (x1 : Int32) (f : FT) (mc ms : Nat) (K : Int32 → FT → Prop) (KX : String → FT → Prop) : Prop :=
  ∃ ga_3 gb_4 : Nat, ga_3 ≤ mc ∧ gb_4 ≤ ms ∧ isO f a0 11 ∧ wp_X8_entryOfCursor a0 x1 f ga_3 gb_4 (fun r_1 f_2 => gA f_2 a0 11 0 fun a_7 => gA f_2 a_7 10 0 fun a_9 => isO f_2 a_9 7 ∧ wp_X4_at a_9 r_1 f_2 (fun a_11 => pV f_2 a0 11 7 (.ref a_11) fun f_13 => gA f_13 a0 11 0 fun a_14 => gA f_13 a_14 10 1 fun a_16 => isO f_13 a_16 5 ∧ wp_X2_at a_16 r_1 f_13 (fun r_18 => K r_18 f_13))) KX
set_option maxHeartbeats 4000000 in
set_option maxRecDepth 100000 in
theorem cc_X8_current (l : Launch) (G : GG) {f : FT} {sz : Nat} {a0 : Nat} {x1 : Int32} {mc ms : Nat} {K : Int32 → FT → Prop} {KX : String → FT → Prop} (hlt : l.stackTraces = false) (h : wp_X8_current a0 x1 f mc ms K KX) : vx_Met l yX8_current wsX8_current ({ frames := 9, cells := mc, slots := ms, locals := 155 } : Room) (FPX G [.ref a0, .int x1] f sz) (va_Qi (fun r f9 => K r f9 : Int32 → FT → Prop) (FB G (fA f sz)) (fA f sz)) (FXC G (fA f sz) KX) mc ms (fA f sz) := by
  refine vx_ofW (cc := cX8_current) (maxL := 3) (ret := (some .int)) (by decide) rfl ?_
  intro p e s m args below meth c s₁ B hml hxt hv
  obtain ⟨rfl, hsz, hF, hK, hZ, hX⟩ := hv
  have hx := B.exec
  have hb := B.bytes
  have hr := B.returns
  have hts := atoms_spec (ws := wsX8_current) B.pre
  have hown : s.vm.findClass RX8 = some m.cls := findClass_of_methodNamed B.named
  have hlocks := B.notSynchronized
  subst hsz
  have hF := hF.self (sz := s.heap.size)
  generalize hAe : fA f s.heap.size = A at hF hZ hX ⊢
  have hA : ∀ q : Nat, s.heap.size ≤ q → A q := fun q h => by rw [← hAe]; exact Or.inr h
  have hS : va_S A s.heap s.heap [] := va_S.rf
  have hin_X7 : ∀ w ∈ wsX70, w ∈ wsX8_current := by decide +kernel
  have hin_X8 : ∀ w ∈ wsX80, w ∈ wsX8_current := by decide +kernel
  have hbc : 0 + mc ≤ mc := by omega
  have hbs : 0 + ms ≤ ms := by omega
  have hl := lv_entry ([.ref a0, .int x1]) (n := 3) (Nat.le_of_ble_eq_true rfl)
  rw [lg_entry_eq]
  generalize (lg_sl ([.ref a0, .int x1]) ++ List.replicate (3 - (lg_sl ([.ref a0, .int x1])).length) Slot.unset).toArray = ls at hl ⊢
  have hl : lv_has ls 3 [(0, .ref a0), (1, .int x1)] := hl
  unfold wp_X8_current at h
  refine lv_aload_n hx hb dX8_current_0 rfl (lv_at hl 0 rfl) ?_
  refine lv_iload_n hx hb dX8_current_1 rfl (lv_at hl 1 rfl) ?_
  obtain ⟨ga_3, gb_4, hga_ga_3, hgb_ga_3, h⟩ := h
  obtain ⟨⟨fs_r_1, hrc_r_1⟩, h⟩ := h
  refine fx_cV_i (As := [.int x1]) (rest := []) ⟨hx, hb, hml, hown, hts⟩ (cc_X8_entryOfCursor l G hlt h) (⟨callB_of 1 hts ggX8_current_X8_entryOfCursor rfl rfl rfl (hts (.initialized RX8) (by decide +kernel)) (hts (.methodLink RX8 234 yX8_entryOfCursor) (by decide +kernel)) (by decide +kernel) ⟨Nat.le_of_ble_eq_true rfl, Nat.le_of_ble_eq_true rfl⟩, hts (.instanceMethod yX8_entryOfCursor) (by decide +kernel), hts (.selects RX8 yX8_entryOfCursor yX8_entryOfCursor) (by decide +kernel)⟩) rfl hrc_r_1 hK hZ hX hF hS hA rfl hl.1 rfl (Nat.le_of_ble_eq_true rfl) dX8_current_2 ⟨by show _ ≤ mc; omega, by show _ ≤ ms; omega⟩ hxt hlocks (by omega) (by omega) (fun r_1 f_2 H locs h hF hS => ?_)
  obtain ⟨cs_5, hcs⟩ : ∃ z, z = (0 + ga_3) := ⟨_, rfl⟩; obtain ⟨sl_6, hsl⟩ : ∃ z, z = (0 + gb_4) := ⟨_, rfl⟩
  have hbc : cs_5 + (mc - ga_3) ≤ mc := by omega
  have hbs : sl_6 + (ms - gb_4) ≤ ms := by omega
  refine W.widen (k := cs_5) (n := sl_6) (by omega) (by omega) ?_
  clear hcs hsl
  refine lv_istore_n (lv' := [(2, .int r_1), (0, .ref a0), (1, .int x1)]) hx hb dX8_current_5 rfl hl (by decide) rfl (fun ls hl => ?_)
  refine lv_aload_n hx hb dX8_current_6 rfl (lv_at hl 1 rfl) ?_
  refine lv_aload_n hx hb dX8_current_7 rfl (lv_at hl 1 rfl) ?_
  obtain ⟨fs_8, a_7, he_fs_8, hv_fs_8, h⟩ := h
  refine fw_get (C := RX8) (T := TX8) (N := 9) hx hb hts hin_X8 hown hK hF he_fs_8 rfl 0 (by decide) (hts (.fieldLink RX8 10 "FrontCodedIndex" "tree" "LFrontCodedIndex$Tree;") (by decide +kernel)) (fun _ h9 => h9) hv_fs_8 dX8_current_8 ?_
  obtain ⟨fs_10, a_9, he_fs_10, hv_fs_10, h⟩ := h
  refine fw_getN (C := RX7) (T := TX7) (N := 8) hx hb hts hin_X7 hown hK hF he_fs_10 rfl 0 (by decide) (va_Nw.use rfl (hZ.2.1 (.fieldLinkNest RX8 105 "FrontCodedIndex$Tree" "keys" "LFrontCodedIndex$KeyRow;" "FrontCodedIndex") (by decide +kernel))) (fun _ h9 => h9) hv_fs_10 dX8_current_11 ?_
  refine lv_iload_n hx hb dX8_current_14 rfl (lv_at hl 0 rfl) ?_
  obtain ⟨⟨fs_a_11, hrc_a_11⟩, h⟩ := h
  refine fw_cV_q_p (As := [.int r_1]) (rest := [.ref a0]) ⟨hx, hb, hml, hown, hts⟩ (cc_X4_at l G h) (⟨callB_of 1 hts ggX8_current_X4_at rfl rfl rfl (hts (.initialized RX4) (by decide +kernel)) (hts (.methodLink RX8 161 yX4_at) (by decide +kernel)) (by decide +kernel) ⟨Nat.le_of_ble_eq_true rfl, Nat.le_of_ble_eq_true rfl⟩, hts (.instanceMethod yX4_at) (by decide +kernel), hts (.selects RX4 yX4_at yX4_at) (by decide +kernel)⟩) rfl hrc_a_11 hK hZ hF hS hA rfl hl.1 rfl (Nat.le_of_ble_eq_true rfl) dX8_current_15 ⟨by show _ ≤ mc; omega, by show _ ≤ ms; omega⟩ (fun a_11 H locs h hF hS => ?_)
  simp only [Nat.add_zero]
  obtain ⟨fs_12, he_fs_12, hl_fs_12, h⟩ := h
  refine fw_put (v := .ref a_11) (ty := (.object "FrontCodedIndex$Key")) (C := RX8) (T := TX8) (N := 9) hx hb hts hin_X8 tyX8 (tyX8_ok) nmX8 hown hK hF hS he_fs_12 rfl 7 (by decide) (hts (.fieldLink RX8 58 "FrontCodedIndex" "key" "LFrontCodedIndex$Key;") (by decide +kernel)) (fun _ h9 => h9) rfl (by decide +kernel) rfl rfl hl_fs_12 dX8_current_18 (fun H locs hF hS => ?_)
  obtain ⟨f_13, hf_f_13⟩ : ∃ z, z = fup f_2 a0 (.inr (11, fs_12.set 7 (.ref a_11))) := ⟨_, rfl⟩
  rw [← hf_f_13] at hF; have h := h f_13 hf_f_13
  refine lv_aload_n hx hb dX8_current_21 rfl (lv_at hl 1 rfl) ?_
  obtain ⟨fs_15, a_14, he_fs_15, hv_fs_15, h⟩ := h
  refine fw_get (C := RX8) (T := TX8) (N := 9) hx hb hts hin_X8 hown hK hF he_fs_15 rfl 0 (by decide) (hts (.fieldLink RX8 10 "FrontCodedIndex" "tree" "LFrontCodedIndex$Tree;") (by decide +kernel)) (fun _ h9 => h9) hv_fs_15 dX8_current_22 ?_
  obtain ⟨fs_17, a_16, he_fs_17, hv_fs_17, h⟩ := h
  refine fw_getN (C := RX7) (T := TX7) (N := 8) hx hb hts hin_X7 hown hK hF he_fs_17 rfl 1 (by decide) (va_Nw.use rfl (hZ.2.1 (.fieldLinkNest RX8 124 "FrontCodedIndex$Tree" "values" "LFrontCodedIndex$IntRow;" "FrontCodedIndex") (by decide +kernel))) (fun _ h9 => h9) hv_fs_17 dX8_current_25 ?_
  refine lv_iload_n hx hb dX8_current_28 rfl (lv_at hl 0 rfl) ?_
  obtain ⟨⟨fs_r_18, hrc_r_18⟩, h⟩ := h
  refine fw_cV_i_p (As := [.int r_1]) (rest := []) ⟨hx, hb, hml, hown, hts⟩ (cc_X2_at l G h) (⟨callB_of 1 hts ggX8_current_X2_at rfl rfl rfl (hts (.initialized RX2) (by decide +kernel)) (hts (.methodLink RX8 143 yX2_at) (by decide +kernel)) (by decide +kernel) ⟨Nat.le_of_ble_eq_true rfl, Nat.le_of_ble_eq_true rfl⟩, hts (.instanceMethod yX2_at) (by decide +kernel), hts (.selects RX2 yX2_at yX2_at) (by decide +kernel)⟩) rfl hrc_r_18 hK hZ hF hS hA rfl hl.1 rfl (Nat.le_of_ble_eq_true rfl) dX8_current_29 ⟨by show _ ≤ mc; omega, by show _ ≤ ms; omega⟩ (fun r_18 H locs h hF hS => ?_)
  simp only [Nat.add_zero]
  refine vx_ret ?_
  refine W.widen (k := mc) (n := ms) (by omega) (by omega) ?_
  exact W.iret (v := r_18) hx hb hr (fun t ht hW => ⟨⟨r_18, f_13, rfl, h, by rw [ht]; exact hF, FK.moved hW.alike hK⟩, hS.F ht⟩) hS.2.2 dX8_current_32
theorem dX8_cutKey_0 : decode cX8_cutKey 0 = .ok (.aload_n 0, 1) := by decide +kernel
theorem dX8_cutKey_1 : decode cX8_cutKey 1 = .ok (.getfield 58, 3) := by decide +kernel
theorem dX8_cutKey_4 : decode cX8_cutKey 4 = .ok (.invokevirtual 72, 3) := by decide +kernel
theorem dX8_cutKey_7 : decode cX8_cutKey 7 = .ok (.istore_n 2, 1) := by decide +kernel
theorem dX8_cutKey_8 : decode cX8_cutKey 8 = .ok (.iload_n 1, 1) := by decide +kernel
theorem dX8_cutKey_9 : decode cX8_cutKey 9 = .ok (.ifCond .lt 8, 3) := by decide +kernel
theorem dX8_cutKey_12 : decode cX8_cutKey 12 = .ok (.iload_n 1, 1) := by decide +kernel
theorem dX8_cutKey_13 : decode cX8_cutKey 13 = .ok (.iload_n 2, 1) := by decide +kernel
theorem dX8_cutKey_14 : decode cX8_cutKey 14 = .ok (.if_icmp .le 13, 3) := by decide +kernel
theorem dX8_cutKey_17 : decode cX8_cutKey 17 = .ok (.new 65, 3) := by decide +kernel
theorem dX8_cutKey_20 : decode cX8_cutKey 20 = .ok (.dup, 1) := by decide +kernel
theorem dX8_cutKey_21 : decode cX8_cutKey 21 = .ok (.ldc 89, 2) := by decide +kernel
theorem dX8_cutKey_23 : decode cX8_cutKey 23 = .ok (.invokespecial 69, 3) := by decide +kernel
theorem dX8_cutKey_26 : decode cX8_cutKey 26 = .ok (.athrow, 1) := by decide +kernel
theorem dX8_cutKey_27 : decode cX8_cutKey 27 = .ok (.aload_n 0, 1) := by decide +kernel
theorem dX8_cutKey_28 : decode cX8_cutKey 28 = .ok (.aload_n 0, 1) := by decide +kernel
theorem dX8_cutKey_29 : decode cX8_cutKey 29 = .ok (.getfield 58, 3) := by decide +kernel
theorem dX8_cutKey_32 : decode cX8_cutKey 32 = .ok (.iload_n 1, 1) := by decide +kernel
theorem dX8_cutKey_33 : decode cX8_cutKey 33 = .ok (.invokevirtual 91, 3) := by decide +kernel
theorem dX8_cutKey_36 : decode cX8_cutKey 36 = .ok (.putfield 58, 3) := by decide +kernel
theorem dX8_cutKey_39 : decode cX8_cutKey 39 = .ok (.iload_n 2, 1) := by decide +kernel
theorem dX8_cutKey_40 : decode cX8_cutKey 40 = .ok (.ireturn, 1) := by decide +kernel
set_option maxRecDepth 20000 in
theorem ggX8_cutKey_X3_length : GoodIn wsX8_cutKey wsX3_length := goodIn_r _ [8, 9, 54] (by decide +kernel) (by decide +kernel)
set_option maxRecDepth 20000 in
theorem ggX8_cutKey_X3_prefix : GoodIn wsX8_cutKey wsX3_prefix := goodIn_r _ [13, 14, 15, 7, 9, 16, 17, 18, 19, 20, 21, 22, 23, 24, 25, 26, 27, 28, 29, 30, 31, 32, 33, 34, 35, 36, 37, 38, 39, 40, 41, 42, 43, 44, 54] (by decide +kernel) (by decide +kernel)
def wp_X8_cutKey (a0 : Nat) (x1 : Int32) (f : FT) (mc ms : Nat) (K : Int32 → FT → Prop) (KX : String → FT → Prop) : Prop :=
  gA f a0 11 7 fun a_1 => isO f a_1 6 ∧ wp_X3_length a_1 f (fun r_3 => ((x1 < (0 : Int32) → 1 ≤ mc ∧ 6 ≤ ms ∧ KX "java/lang/IllegalArgumentException" f) ∧
 (¬ (x1 < (0 : Int32)) → ((x1 ≤ r_3 → gA f a0 11 7 fun a_6 => ∃ ga_10 gb_11 : Nat, ga_10 ≤ mc ∧ gb_11 ≤ ms ∧ isO f a_6 6 ∧ wp_X3_prefix a_6 x1 f ga_10 gb_11 (fun a_8 f_9 => pV f_9 a0 11 7 (.ref a_8) fun f_15 => K r_3 f_15)) ∧
 (¬ (x1 ≤ r_3) → 1 ≤ mc ∧ 6 ≤ ms ∧ KX "java/lang/IllegalArgumentException" f)))))
set_option maxHeartbeats 4000000 in
set_option maxRecDepth 100000 in
theorem cc_X8_cutKey (l : Launch) (G : GG) {f : FT} {sz : Nat} {a0 : Nat} {x1 : Int32} {mc ms : Nat} {K : Int32 → FT → Prop} {KX : String → FT → Prop} (hlt : l.stackTraces = false) (h : wp_X8_cutKey a0 x1 f mc ms K KX) : vx_Met l yX8_cutKey wsX8_cutKey ({ frames := 6, cells := mc, slots := ms, locals := 90 } : Room) (FPX G [.ref a0, .int x1] f sz) (va_Qi (fun r f9 => K r f9 : Int32 → FT → Prop) (FB G (fA f sz)) (fA f sz)) (FXC G (fA f sz) KX) mc ms (fA f sz) := by
  refine vx_ofW (cc := cX8_cutKey) (maxL := 3) (ret := (some .int)) (by decide) rfl ?_
  intro p e s m args below meth c s₁ B hml hxt hv
  obtain ⟨rfl, hsz, hF, hK, hZ, hX⟩ := hv
  have hx := B.exec
  have hb := B.bytes
  have hr := B.returns
  have hts := atoms_spec (ws := wsX8_cutKey) B.pre
  have hown : s.vm.findClass RX8 = some m.cls := findClass_of_methodNamed B.named
  have hlocks := B.notSynchronized
  subst hsz
  have hF := hF.self (sz := s.heap.size)
  generalize hAe : fA f s.heap.size = A at hF hZ hX ⊢
  have hA : ∀ q : Nat, s.heap.size ≤ q → A q := fun q h => by rw [← hAe]; exact Or.inr h
  have hS : va_S A s.heap s.heap [] := va_S.rf
  have hin_X8 : ∀ w ∈ wsX80, w ∈ wsX8_cutKey := by decide +kernel
  have hbc : 0 + mc ≤ mc := by omega
  have hbs : 0 + ms ≤ ms := by omega
  have hl := lv_entry ([.ref a0, .int x1]) (n := 3) (Nat.le_of_ble_eq_true rfl)
  rw [lg_entry_eq]
  generalize (lg_sl ([.ref a0, .int x1]) ++ List.replicate (3 - (lg_sl ([.ref a0, .int x1])).length) Slot.unset).toArray = ls at hl ⊢
  have hl : lv_has ls 3 [(0, .ref a0), (1, .int x1)] := hl
  unfold wp_X8_cutKey at h
  refine lv_aload_n hx hb dX8_cutKey_0 rfl (lv_at hl 0 rfl) ?_
  obtain ⟨fs_2, a_1, he_fs_2, hv_fs_2, h⟩ := h
  refine fw_get (C := RX8) (T := TX8) (N := 9) hx hb hts hin_X8 hown hK hF he_fs_2 rfl 7 (by decide) (hts (.fieldLink RX8 58 "FrontCodedIndex" "key" "LFrontCodedIndex$Key;") (by decide +kernel)) (fun _ h9 => h9) hv_fs_2 dX8_cutKey_1 ?_
  obtain ⟨⟨fs_r_3, hrc_r_3⟩, h⟩ := h
  refine fw_cV_i_p (As := []) (rest := []) ⟨hx, hb, hml, hown, hts⟩ (cc_X3_length l G h) (⟨callB_of 0 hts ggX8_cutKey_X3_length rfl rfl rfl (hts (.initialized RX3) (by decide +kernel)) (hts (.methodLink RX8 72 yX3_length) (by decide +kernel)) (by decide +kernel) ⟨Nat.le_of_ble_eq_true rfl, Nat.le_of_ble_eq_true rfl⟩, hts (.instanceMethod yX3_length) (by decide +kernel), hts (.selects RX3 yX3_length yX3_length) (by decide +kernel)⟩) rfl hrc_r_3 hK hZ hF hS hA rfl hl.1 rfl (Nat.le_of_ble_eq_true rfl) dX8_cutKey_4 ⟨by show _ ≤ mc; omega, by show _ ≤ ms; omega⟩ (fun r_3 H locs h hF hS => ?_)
  simp only [Nat.add_zero]
  refine lv_istore_n (lv' := [(2, .int r_3), (0, .ref a0), (1, .int x1)]) hx hb dX8_cutKey_7 rfl hl (by decide) rfl (fun ls hl => ?_)
  refine lv_iload_n hx hb dX8_cutKey_8 rfl (lv_at hl 2 rfl) ?_
  obtain ⟨h1, h2⟩ := h
  refine lv_if_lt (tgt := 17) hx hb dX8_cutKey_9 (by decide) (fun c_4 => ?_) (fun c_4 => ?_)
  · have h := h1 c_4
    obtain ⟨hb1, hb2, h⟩ := h
    refine vx_throwS hx hb hlt (own := RX8) (cls := "java/lang/IllegalArgumentException") (text := "the key has not so many bytes") (names := ["java/lang/RuntimeException", "java/lang/Exception"]) (ik := 65) (is := 89) (ic := 69) (sa := G.2.2 (100 + 89)) (A := A) hown (by decide) (by decide) (hts (.classLink RX8 65 "java/lang/IllegalArgumentException") (by decide +kernel)) (hts (.initialized "java/lang/IllegalArgumentException") (by decide +kernel)) (hX.1 (89, "the key has not so many bytes") (by decide +kernel)) (vx_hat (B := thrB) (fun w hw => hts w ((by decide +kernel : ∀ w ∈ (vx_atS RX8 69 "java/lang/IllegalArgumentException" ["java/lang/RuntimeException", "java/lang/Exception"]).filter goodWord, w ∈ wsX8_cutKey) w hw)) (by decide +kernel) (fun w hw => va_Nw.use (thrB_tab w hw) (hX.2.1 w hw))) (by decide +kernel) hX.2.2.1 hX.2.2.2 hS (hl.1.trans hml.symm) dX8_cutKey_17 dX8_cutKey_20 dX8_cutKey_21 dX8_cutKey_23 dX8_cutKey_26 (fun x hx => (hxt x hx).elim) (Nat.le_of_ble_eq_true rfl) (Nat.le_of_ble_eq_true rfl) (by show _ ≤ mc; omega) (by show _ ≤ ms; omega) hlocks (fun t hvm hz hk => ⟨(f, "java/lang/IllegalArgumentException"), h, ⟨rfl, hF.kept (fun q e9 he9 => hk q (hF.in he9).2), FK.moved hvm hK⟩, ⟨Nat.le_trans hS.1 hz, fun q h1 h2 => (hk q (Nat.lt_of_lt_of_le h1 hS.1)).trans (hS.2.1 q h1 h2)⟩⟩) hS.2.2 (by omega) (by omega)
  · have h := h2 c_4
    refine lv_iload_n hx hb dX8_cutKey_12 rfl (lv_at hl 2 rfl) ?_
    refine lv_iload_n hx hb dX8_cutKey_13 rfl (lv_at hl 0 rfl) ?_
    obtain ⟨h1, h2⟩ := h
    refine lv_icmp_le (tgt := 27) hx hb dX8_cutKey_14 (by decide) (fun c_5 => ?_) (fun c_5 => ?_)
    · have h := h1 c_5
      refine lv_aload_n hx hb dX8_cutKey_27 rfl (lv_at hl 1 rfl) ?_
      refine lv_aload_n hx hb dX8_cutKey_28 rfl (lv_at hl 1 rfl) ?_
      obtain ⟨fs_7, a_6, he_fs_7, hv_fs_7, h⟩ := h
      refine fw_get (C := RX8) (T := TX8) (N := 9) hx hb hts hin_X8 hown hK hF he_fs_7 rfl 7 (by decide) (hts (.fieldLink RX8 58 "FrontCodedIndex" "key" "LFrontCodedIndex$Key;") (by decide +kernel)) (fun _ h9 => h9) hv_fs_7 dX8_cutKey_29 ?_
      refine lv_iload_n hx hb dX8_cutKey_32 rfl (lv_at hl 2 rfl) ?_
      obtain ⟨ga_10, gb_11, hga_ga_10, hgb_ga_10, h⟩ := h
      obtain ⟨⟨fs_a_8, hrc_a_8⟩, h⟩ := h
      refine fw_cV_q_w (As := [.int x1]) (rest := [.ref a0]) ⟨hx, hb, hml, hown, hts⟩ (cc_X3_prefix l G h) (⟨callB_of 1 hts ggX8_cutKey_X3_prefix rfl rfl rfl (hts (.initialized RX3) (by decide +kernel)) (hts (.methodLink RX8 91 yX3_prefix) (by decide +kernel)) (by decide +kernel) ⟨Nat.le_of_ble_eq_true rfl, Nat.le_of_ble_eq_true rfl⟩, hts (.instanceMethod yX3_prefix) (by decide +kernel), hts (.selects RX3 yX3_prefix yX3_prefix) (by decide +kernel)⟩) rfl hrc_a_8 hK hZ hF hS hA rfl hl.1 rfl (Nat.le_of_ble_eq_true rfl) dX8_cutKey_33 ⟨by show _ ≤ mc; omega, by show _ ≤ ms; omega⟩ (fun a_8 f_9 H locs h hF hS => ?_)
      obtain ⟨cs_12, hcs⟩ : ∃ z, z = (0 + ga_10) := ⟨_, rfl⟩; obtain ⟨sl_13, hsl⟩ : ∃ z, z = (0 + gb_11) := ⟨_, rfl⟩
      have hbc : cs_12 + (mc - ga_10) ≤ mc := by omega
      have hbs : sl_13 + (ms - gb_11) ≤ ms := by omega
      refine W.widen (k := cs_12) (n := sl_13) (by omega) (by omega) ?_
      clear hcs hsl
      obtain ⟨fs_14, he_fs_14, hl_fs_14, h⟩ := h
      refine fw_put (v := .ref a_8) (ty := (.object "FrontCodedIndex$Key")) (C := RX8) (T := TX8) (N := 9) hx hb hts hin_X8 tyX8 (tyX8_ok) nmX8 hown hK hF hS he_fs_14 rfl 7 (by decide) (hts (.fieldLink RX8 58 "FrontCodedIndex" "key" "LFrontCodedIndex$Key;") (by decide +kernel)) (fun _ h9 => h9) rfl (by decide +kernel) rfl rfl hl_fs_14 dX8_cutKey_36 (fun H locs hF hS => ?_)
      obtain ⟨f_15, hf_f_15⟩ : ∃ z, z = fup f_9 a0 (.inr (11, fs_14.set 7 (.ref a_8))) := ⟨_, rfl⟩
      rw [← hf_f_15] at hF; have h := h f_15 hf_f_15
      refine lv_iload_n hx hb dX8_cutKey_39 rfl (lv_at hl 0 rfl) ?_
      refine vx_ret ?_
      refine W.widen (k := mc) (n := ms) (by omega) (by omega) ?_
      exact W.iret (v := r_3) hx hb hr (fun t ht hW => ⟨⟨r_3, f_15, rfl, h, by rw [ht]; exact hF, FK.moved hW.alike hK⟩, hS.F ht⟩) hS.2.2 dX8_cutKey_40
    · have h := h2 c_5
      obtain ⟨hb1, hb2, h⟩ := h
      refine vx_throwS hx hb hlt (own := RX8) (cls := "java/lang/IllegalArgumentException") (text := "the key has not so many bytes") (names := ["java/lang/RuntimeException", "java/lang/Exception"]) (ik := 65) (is := 89) (ic := 69) (sa := G.2.2 (100 + 89)) (A := A) hown (by decide) (by decide) (hts (.classLink RX8 65 "java/lang/IllegalArgumentException") (by decide +kernel)) (hts (.initialized "java/lang/IllegalArgumentException") (by decide +kernel)) (hX.1 (89, "the key has not so many bytes") (by decide +kernel)) (vx_hat (B := thrB) (fun w hw => hts w ((by decide +kernel : ∀ w ∈ (vx_atS RX8 69 "java/lang/IllegalArgumentException" ["java/lang/RuntimeException", "java/lang/Exception"]).filter goodWord, w ∈ wsX8_cutKey) w hw)) (by decide +kernel) (fun w hw => va_Nw.use (thrB_tab w hw) (hX.2.1 w hw))) (by decide +kernel) hX.2.2.1 hX.2.2.2 hS (hl.1.trans hml.symm) dX8_cutKey_17 dX8_cutKey_20 dX8_cutKey_21 dX8_cutKey_23 dX8_cutKey_26 (fun x hx => (hxt x hx).elim) (Nat.le_of_ble_eq_true rfl) (Nat.le_of_ble_eq_true rfl) (by show _ ≤ mc; omega) (by show _ ≤ ms; omega) hlocks (fun t hvm hz hk => ⟨(f, "java/lang/IllegalArgumentException"), h, ⟨rfl, hF.kept (fun q e9 he9 => hk q (hF.in he9).2), FK.moved hvm hK⟩, ⟨Nat.le_trans hS.1 hz, fun q h1 h2 => (hk q (Nat.lt_of_lt_of_le h1 hS.1)).trans (hS.2.1 q h1 h2)⟩⟩) hS.2.2 (by omega) (by omega)
theorem dX8_distance_0 : decode cX8_distance 0 = .ok (.aload_n 0, 1) := by decide +kernel
theorem dX8_distance_1 : decode cX8_distance 1 = .ok (.iload_n 2, 1) := by decide +kernel
theorem dX8_distance_2 : decode cX8_distance 2 = .ok (.invokevirtual 225, 3) := by decide +kernel
theorem dX8_distance_5 : decode cX8_distance 5 = .ok (.aload_n 0, 1) := by decide +kernel
theorem dX8_distance_6 : decode cX8_distance 6 = .ok (.iload_n 1, 1) := by decide +kernel
theorem dX8_distance_7 : decode cX8_distance 7 = .ok (.invokevirtual 237, 3) := by decide +kernel
theorem dX8_distance_10 : decode cX8_distance 10 = .ok (.istore_n 3, 1) := by decide +kernel
theorem dX8_distance_11 : decode cX8_distance 11 = .ok (.aload_n 0, 1) := by decide +kernel
theorem dX8_distance_12 : decode cX8_distance 12 = .ok (.iload_n 2, 1) := by decide +kernel
theorem dX8_distance_13 : decode cX8_distance 13 = .ok (.invokevirtual 237, 3) := by decide +kernel
theorem dX8_distance_16 : decode cX8_distance 16 = .ok (.iload_n 3, 1) := by decide +kernel
theorem dX8_distance_17 : decode cX8_distance 17 = .ok (.isub, 1) := by decide +kernel
theorem dX8_distance_18 : decode cX8_distance 18 = .ok (.ireturn, 1) := by decide +kernel
set_option maxRecDepth 20000 in
theorem ggX8_distance_X8_placeOfCursor : GoodIn wsX8_distance wsX8_placeOfCursor := goodIn_ca (goodIn_ca (goodIn_r _ [11, 12, 13, 14, 1, 2, 3, 4, 5, 6, 7, 15, 16, 17, 18, 19, 20, 21, 22, 23, 24, 25, 26, 27, 28, 29, 30] (by decide +kernel) (by decide +kernel)) (goodIn_sub (fun _ h => List.mem_cons_of_mem _ (List.mem_append_right _ h)) (by decide +kernel))) (goodIn_sub (fun _ h => List.mem_cons_of_mem _ (List.mem_append_left _ (List.mem_append_right _ h))) (by decide +kernel))
set_option maxRecDepth 20000 in
theorem ggX8_distance_X8_refuseMissingCursor : GoodIn wsX8_distance wsX8_refuseMissingCursor := goodIn_ca (goodIn_r _ [5, 6, 7] (by decide +kernel) (by decide +kernel)) (goodIn_sub (fun _ h => List.mem_cons_of_mem _ (List.mem_append_left _ (List.mem_append_right _ h))) (by decide +kernel))
def wp_X8_distance (a0 : Nat) (x1 : Int32) (x2 : Int32) (f : FT) (mc ms : Nat) (K : Int32 → FT → Prop) (KX : String → FT → Prop) : Prop :=
  ∃ ga_3 gb_4 : Nat, ga_3 ≤ mc ∧ gb_4 ≤ ms ∧ isO f a0 11 ∧ wp_X8_refuseMissingCursor a0 x2 f ga_3 gb_4 (fun f_2 => ∃ ga_9 gb_10 : Nat, ga_9 ≤ (mc - ga_3) ∧ gb_10 ≤ (ms - gb_4) ∧ isO f_2 a0 11 ∧ wp_X8_placeOfCursor a0 x1 f_2 ga_9 gb_10 (fun r_7 f_8 => ∃ ga_15 gb_16 : Nat, ga_15 ≤ ((mc - ga_3) - ga_9) ∧ gb_16 ≤ ((ms - gb_4) - gb_10) ∧ isO f_8 a0 11 ∧ wp_X8_placeOfCursor a0 x2 f_8 ga_15 gb_16 (fun r_13 f_14 => K (r_13 - r_7) f_14) KX) KX) KX
set_option maxHeartbeats 4000000 in
set_option maxRecDepth 100000 in
theorem cc_X8_distance (l : Launch) (G : GG) {f : FT} {sz : Nat} {a0 : Nat} {x1 : Int32} {x2 : Int32} {mc ms : Nat} {K : Int32 → FT → Prop} {KX : String → FT → Prop} (hlt : l.stackTraces = false) (h : wp_X8_distance a0 x1 x2 f mc ms K KX) : vx_Met l yX8_distance wsX8_distance ({ frames := 8, cells := mc, slots := ms, locals := 133 } : Room) (FPX G [.ref a0, .int x1, .int x2] f sz) (va_Qi (fun r f9 => K r f9 : Int32 → FT → Prop) (FB G (fA f sz)) (fA f sz)) (FXC G (fA f sz) KX) mc ms (fA f sz) := by
  refine vx_ofW (cc := cX8_distance) (maxL := 4) (ret := (some .int)) (by decide) rfl ?_
  intro p e s m args below meth c s₁ B hml hxt hv
  obtain ⟨rfl, hsz, hF, hK, hZ, hX⟩ := hv
  have hx := B.exec
  have hb := B.bytes
  have hr := B.returns
  have hts := atoms_spec (ws := wsX8_distance) B.pre
  have hown : s.vm.findClass RX8 = some m.cls := findClass_of_methodNamed B.named
  have hlocks := B.notSynchronized
  subst hsz
  have hF := hF.self (sz := s.heap.size)
  generalize hAe : fA f s.heap.size = A at hF hZ hX ⊢
  have hA : ∀ q : Nat, s.heap.size ≤ q → A q := fun q h => by rw [← hAe]; exact Or.inr h
  have hS : va_S A s.heap s.heap [] := va_S.rf
  have hbc : 0 + mc ≤ mc := by omega
  have hbs : 0 + ms ≤ ms := by omega
  have hl := lv_entry ([.ref a0, .int x1, .int x2]) (n := 4) (Nat.le_of_ble_eq_true rfl)
  rw [lg_entry_eq]
  generalize (lg_sl ([.ref a0, .int x1, .int x2]) ++ List.replicate (4 - (lg_sl ([.ref a0, .int x1, .int x2])).length) Slot.unset).toArray = ls at hl ⊢
  have hl : lv_has ls 4 [(0, .ref a0), (1, .int x1), (2, .int x2)] := hl
  unfold wp_X8_distance at h
  refine lv_aload_n hx hb dX8_distance_0 rfl (lv_at hl 0 rfl) ?_
  refine lv_iload_n hx hb dX8_distance_1 rfl (lv_at hl 2 rfl) ?_
  obtain ⟨ga_3, gb_4, hga_ga_3, hgb_ga_3, h⟩ := h
  obtain ⟨⟨fs_u_1, hrc_u_1⟩, h⟩ := h
  refine fx_cV_v (As := [.int x2]) (rest := []) ⟨hx, hb, hml, hown, hts⟩ (cc_X8_refuseMissingCursor l G hlt h) (⟨callB_of 1 hts ggX8_distance_X8_refuseMissingCursor rfl rfl rfl (hts (.initialized RX8) (by decide +kernel)) (hts (.methodLink RX8 225 yX8_refuseMissingCursor) (by decide +kernel)) (by decide +kernel) ⟨Nat.le_of_ble_eq_true rfl, Nat.le_of_ble_eq_true rfl⟩, hts (.instanceMethod yX8_refuseMissingCursor) (by decide +kernel), hts (.selects RX8 yX8_refuseMissingCursor yX8_refuseMissingCursor) (by decide +kernel)⟩) rfl hrc_u_1 hK hZ hX hF hS hA rfl hl.1 rfl (Nat.le_of_ble_eq_true rfl) dX8_distance_2 ⟨by show _ ≤ mc; omega, by show _ ≤ ms; omega⟩ hxt hlocks (by omega) (by omega) (fun f_2 H locs h hF hS => ?_)
  obtain ⟨cs_5, hcs⟩ : ∃ z, z = (0 + ga_3) := ⟨_, rfl⟩; obtain ⟨sl_6, hsl⟩ : ∃ z, z = (0 + gb_4) := ⟨_, rfl⟩
  have hbc : cs_5 + (mc - ga_3) ≤ mc := by omega
  have hbs : sl_6 + (ms - gb_4) ≤ ms := by omega
  refine W.widen (k := cs_5) (n := sl_6) (by omega) (by omega) ?_
  clear hcs hsl
  refine lv_aload_n hx hb dX8_distance_5 rfl (lv_at hl 0 rfl) ?_
  refine lv_iload_n hx hb dX8_distance_6 rfl (lv_at hl 1 rfl) ?_
  obtain ⟨ga_9, gb_10, hga_ga_9, hgb_ga_9, h⟩ := h
  obtain ⟨⟨fs_r_7, hrc_r_7⟩, h⟩ := h
  refine fx_cV_i (As := [.int x1]) (rest := []) ⟨hx, hb, hml, hown, hts⟩ (cc_X8_placeOfCursor l G hlt h) (⟨callB_of 1 hts ggX8_distance_X8_placeOfCursor rfl rfl rfl (hts (.initialized RX8) (by decide +kernel)) (hts (.methodLink RX8 237 yX8_placeOfCursor) (by decide +kernel)) (by decide +kernel) ⟨Nat.le_of_ble_eq_true rfl, Nat.le_of_ble_eq_true rfl⟩, hts (.instanceMethod yX8_placeOfCursor) (by decide +kernel), hts (.selects RX8 yX8_placeOfCursor yX8_placeOfCursor) (by decide +kernel)⟩) rfl hrc_r_7 hK hZ hX hF hS hA rfl hl.1 rfl (Nat.le_of_ble_eq_true rfl) dX8_distance_7 ⟨by show _ ≤ mc; omega, by show _ ≤ ms; omega⟩ hxt hlocks (by omega) (by omega) (fun r_7 f_8 H locs h hF hS => ?_)
  obtain ⟨cs_11, hcs⟩ : ∃ z, z = (cs_5 + ga_9) := ⟨_, rfl⟩; obtain ⟨sl_12, hsl⟩ : ∃ z, z = (sl_6 + gb_10) := ⟨_, rfl⟩
  have hbc : cs_11 + ((mc - ga_3) - ga_9) ≤ mc := by omega
  have hbs : sl_12 + ((ms - gb_4) - gb_10) ≤ ms := by omega
  refine W.widen (k := cs_11) (n := sl_12) (by omega) (by omega) ?_
  clear hcs hsl
  refine lv_istore_n (lv' := [(3, .int r_7), (0, .ref a0), (1, .int x1), (2, .int x2)]) hx hb dX8_distance_10 rfl hl (by decide) rfl (fun ls hl => ?_)
  refine lv_aload_n hx hb dX8_distance_11 rfl (lv_at hl 1 rfl) ?_
  refine lv_iload_n hx hb dX8_distance_12 rfl (lv_at hl 3 rfl) ?_
  obtain ⟨ga_15, gb_16, hga_ga_15, hgb_ga_15, h⟩ := h
  obtain ⟨⟨fs_r_13, hrc_r_13⟩, h⟩ := h
  refine fx_cV_i (As := [.int x2]) (rest := []) ⟨hx, hb, hml, hown, hts⟩ (cc_X8_placeOfCursor l G hlt h) (⟨callB_of 1 hts ggX8_distance_X8_placeOfCursor rfl rfl rfl (hts (.initialized RX8) (by decide +kernel)) (hts (.methodLink RX8 237 yX8_placeOfCursor) (by decide +kernel)) (by decide +kernel) ⟨Nat.le_of_ble_eq_true rfl, Nat.le_of_ble_eq_true rfl⟩, hts (.instanceMethod yX8_placeOfCursor) (by decide +kernel), hts (.selects RX8 yX8_placeOfCursor yX8_placeOfCursor) (by decide +kernel)⟩) rfl hrc_r_13 hK hZ hX hF hS hA rfl hl.1 rfl (Nat.le_of_ble_eq_true rfl) dX8_distance_13 ⟨by show _ ≤ mc; omega, by show _ ≤ ms; omega⟩ hxt hlocks (by omega) (by omega) (fun r_13 f_14 H locs h hF hS => ?_)
  obtain ⟨cs_17, hcs⟩ : ∃ z, z = (cs_11 + ga_15) := ⟨_, rfl⟩; obtain ⟨sl_18, hsl⟩ : ∃ z, z = (sl_12 + gb_16) := ⟨_, rfl⟩
  have hbc : cs_17 + (((mc - ga_3) - ga_9) - ga_15) ≤ mc := by omega
  have hbs : sl_18 + (((ms - gb_4) - gb_10) - gb_16) ≤ ms := by omega
  refine W.widen (k := cs_17) (n := sl_18) (by omega) (by omega) ?_
  clear hcs hsl
  refine lv_iload_n hx hb dX8_distance_16 rfl (lv_at hl 0 rfl) ?_
  refine lv_isub hx hb dX8_distance_17 ?_
  refine vx_ret ?_
  refine W.widen (k := mc) (n := ms) (by omega) (by omega) ?_
  exact W.iret (v := (r_13 - r_7)) hx hb hr (fun t ht hW => ⟨⟨(r_13 - r_7), f_14, rfl, h, by rw [ht]; exact hF, FK.moved hW.alike hK⟩, hS.F ht⟩) hS.2.2 dX8_distance_18
theorem dX8_feed_0 : decode cX8_feed 0 = .ok (.iload_n 1, 1) := by decide +kernel
theorem dX8_feed_1 : decode cX8_feed 1 = .ok (.ifCond .lt 9, 3) := by decide +kernel
theorem dX8_feed_4 : decode cX8_feed 4 = .ok (.iload_n 1, 1) := by decide +kernel
theorem dX8_feed_5 : decode cX8_feed 5 = .ok (.bipush 127, 2) := by decide +kernel
theorem dX8_feed_7 : decode cX8_feed 7 = .ok (.if_icmp .le 13, 3) := by decide +kernel
theorem dX8_feed_10 : decode cX8_feed 10 = .ok (.new 65, 3) := by decide +kernel
theorem dX8_feed_13 : decode cX8_feed 13 = .ok (.dup, 1) := by decide +kernel
theorem dX8_feed_14 : decode cX8_feed 14 = .ok (.ldc 67, 2) := by decide +kernel
theorem dX8_feed_16 : decode cX8_feed 16 = .ok (.invokespecial 69, 3) := by decide +kernel
theorem dX8_feed_19 : decode cX8_feed 19 = .ok (.athrow, 1) := by decide +kernel
theorem dX8_feed_20 : decode cX8_feed 20 = .ok (.aload_n 0, 1) := by decide +kernel
theorem dX8_feed_21 : decode cX8_feed 21 = .ok (.getfield 58, 3) := by decide +kernel
theorem dX8_feed_24 : decode cX8_feed 24 = .ok (.invokevirtual 72, 3) := by decide +kernel
theorem dX8_feed_27 : decode cX8_feed 27 = .ok (.bipush 12, 2) := by decide +kernel
theorem dX8_feed_29 : decode cX8_feed 29 = .ok (.if_icmp .lt 13, 3) := by decide +kernel
theorem dX8_feed_32 : decode cX8_feed 32 = .ok (.new 76, 3) := by decide +kernel
theorem dX8_feed_35 : decode cX8_feed 35 = .ok (.dup, 1) := by decide +kernel
theorem dX8_feed_36 : decode cX8_feed 36 = .ok (.ldc 78, 2) := by decide +kernel
theorem dX8_feed_38 : decode cX8_feed 38 = .ok (.invokespecial 80, 3) := by decide +kernel
theorem dX8_feed_41 : decode cX8_feed 41 = .ok (.athrow, 1) := by decide +kernel
theorem dX8_feed_42 : decode cX8_feed 42 = .ok (.aload_n 0, 1) := by decide +kernel
theorem dX8_feed_43 : decode cX8_feed 43 = .ok (.aload_n 0, 1) := by decide +kernel
theorem dX8_feed_44 : decode cX8_feed 44 = .ok (.getfield 58, 3) := by decide +kernel
theorem dX8_feed_47 : decode cX8_feed 47 = .ok (.iload_n 1, 1) := by decide +kernel
theorem dX8_feed_48 : decode cX8_feed 48 = .ok (.invokevirtual 81, 3) := by decide +kernel
theorem dX8_feed_51 : decode cX8_feed 51 = .ok (.putfield 58, 3) := by decide +kernel
theorem dX8_feed_54 : decode cX8_feed 54 = .ok (.aload_n 0, 1) := by decide +kernel
theorem dX8_feed_55 : decode cX8_feed 55 = .ok (.getfield 58, 3) := by decide +kernel
theorem dX8_feed_58 : decode cX8_feed 58 = .ok (.invokevirtual 72, 3) := by decide +kernel
theorem dX8_feed_61 : decode cX8_feed 61 = .ok (.ireturn, 1) := by decide +kernel
set_option maxRecDepth 20000 in
theorem ggX8_feed_X3_length : GoodIn wsX8_feed wsX3_length := goodIn_r _ [10, 11, 52] (by decide +kernel) (by decide +kernel)
set_option maxRecDepth 20000 in
theorem ggX8_feed_X3_withByte : GoodIn wsX8_feed wsX3_withByte := goodIn_r _ [15, 11, 16, 17, 9, 18, 19, 20, 21, 22, 23, 24, 25, 26, 27, 28, 29, 30, 31, 32, 33, 34, 35, 36, 37, 38, 39, 40, 41, 42, 52] (by decide +kernel) (by decide +kernel)
def wp_X8_feed (a0 : Nat) (x1 : Int32) (f : FT) (mc ms : Nat) (K : Int32 → FT → Prop) (KX : String → FT → Prop) : Prop :=
  ((x1 < (0 : Int32) → 1 ≤ mc ∧ 6 ≤ ms ∧ KX "java/lang/IllegalArgumentException" f) ∧
 (¬ (x1 < (0 : Int32)) → ((x1 ≤ (127 : Int32) → gA f a0 11 7 fun a_3 => isO f a_3 6 ∧ wp_X3_length a_3 f (fun r_5 => ((r_5 < (12 : Int32) → gA f a0 11 7 fun a_7 => ∃ ga_11 gb_12 : Nat, ga_11 ≤ mc ∧ gb_12 ≤ ms ∧ isO f a_7 6 ∧ wp_X3_withByte a_7 x1 f ga_11 gb_12 (fun a_9 f_10 => pV f_10 a0 11 7 (.ref a_9) fun f_16 => gA f_16 a0 11 7 fun a_17 => isO f_16 a_17 6 ∧ wp_X3_length a_17 f_16 (fun r_19 => K r_19 f_16))) ∧
 (¬ (r_5 < (12 : Int32)) → 1 ≤ mc ∧ 6 ≤ ms ∧ KX "java/lang/IllegalStateException" f)))) ∧
 (¬ (x1 ≤ (127 : Int32)) → 1 ≤ mc ∧ 6 ≤ ms ∧ KX "java/lang/IllegalArgumentException" f))))
set_option maxHeartbeats 4000000 in
set_option maxRecDepth 100000 in
theorem cc_X8_feed (l : Launch) (G : GG) {f : FT} {sz : Nat} {a0 : Nat} {x1 : Int32} {mc ms : Nat} {K : Int32 → FT → Prop} {KX : String → FT → Prop} (hlt : l.stackTraces = false) (h : wp_X8_feed a0 x1 f mc ms K KX) : vx_Met l yX8_feed wsX8_feed ({ frames := 6, cells := mc, slots := ms, locals := 90 } : Room) (FPX G [.ref a0, .int x1] f sz) (va_Qi (fun r f9 => K r f9 : Int32 → FT → Prop) (FB G (fA f sz)) (fA f sz)) (FXC G (fA f sz) KX) mc ms (fA f sz) := by
  refine vx_ofW (cc := cX8_feed) (maxL := 2) (ret := (some .int)) (by decide) rfl ?_
  intro p e s m args below meth c s₁ B hml hxt hv
  obtain ⟨rfl, hsz, hF, hK, hZ, hX⟩ := hv
  have hx := B.exec
  have hb := B.bytes
  have hr := B.returns
  have hts := atoms_spec (ws := wsX8_feed) B.pre
  have hown : s.vm.findClass RX8 = some m.cls := findClass_of_methodNamed B.named
  have hlocks := B.notSynchronized
  subst hsz
  have hF := hF.self (sz := s.heap.size)
  generalize hAe : fA f s.heap.size = A at hF hZ hX ⊢
  have hA : ∀ q : Nat, s.heap.size ≤ q → A q := fun q h => by rw [← hAe]; exact Or.inr h
  have hS : va_S A s.heap s.heap [] := va_S.rf
  have hin_X8 : ∀ w ∈ wsX80, w ∈ wsX8_feed := by decide +kernel
  have hbc : 0 + mc ≤ mc := by omega
  have hbs : 0 + ms ≤ ms := by omega
  have hl := lv_entry ([.ref a0, .int x1]) (n := 2) (Nat.le_of_ble_eq_true rfl)
  rw [lg_entry_eq]
  generalize (lg_sl ([.ref a0, .int x1]) ++ List.replicate (2 - (lg_sl ([.ref a0, .int x1])).length) Slot.unset).toArray = ls at hl ⊢
  have hl : lv_has ls 2 [(0, .ref a0), (1, .int x1)] := hl
  unfold wp_X8_feed at h
  refine lv_iload_n hx hb dX8_feed_0 rfl (lv_at hl 1 rfl) ?_
  obtain ⟨h1, h2⟩ := h
  refine lv_if_lt (tgt := 10) hx hb dX8_feed_1 (by decide) (fun c_1 => ?_) (fun c_1 => ?_)
  · have h := h1 c_1
    obtain ⟨hb1, hb2, h⟩ := h
    refine vx_throwS hx hb hlt (own := RX8) (cls := "java/lang/IllegalArgumentException") (text := "a byte is from 0 to 127") (names := ["java/lang/RuntimeException", "java/lang/Exception"]) (ik := 65) (is := 67) (ic := 69) (sa := G.2.2 (100 + 67)) (A := A) hown (by decide) (by decide) (hts (.classLink RX8 65 "java/lang/IllegalArgumentException") (by decide +kernel)) (hts (.initialized "java/lang/IllegalArgumentException") (by decide +kernel)) (hX.1 (67, "a byte is from 0 to 127") (by decide +kernel)) (vx_hat (B := thrB) (fun w hw => hts w ((by decide +kernel : ∀ w ∈ (vx_atS RX8 69 "java/lang/IllegalArgumentException" ["java/lang/RuntimeException", "java/lang/Exception"]).filter goodWord, w ∈ wsX8_feed) w hw)) (by decide +kernel) (fun w hw => va_Nw.use (thrB_tab w hw) (hX.2.1 w hw))) (by decide +kernel) hX.2.2.1 hX.2.2.2 hS (hl.1.trans hml.symm) dX8_feed_10 dX8_feed_13 dX8_feed_14 dX8_feed_16 dX8_feed_19 (fun x hx => (hxt x hx).elim) (Nat.le_of_ble_eq_true rfl) (Nat.le_of_ble_eq_true rfl) (by show _ ≤ mc; omega) (by show _ ≤ ms; omega) hlocks (fun t hvm hz hk => ⟨(f, "java/lang/IllegalArgumentException"), h, ⟨rfl, hF.kept (fun q e9 he9 => hk q (hF.in he9).2), FK.moved hvm hK⟩, ⟨Nat.le_trans hS.1 hz, fun q h1 h2 => (hk q (Nat.lt_of_lt_of_le h1 hS.1)).trans (hS.2.1 q h1 h2)⟩⟩) hS.2.2 (by omega) (by omega)
  · have h := h2 c_1
    refine lv_iload_n hx hb dX8_feed_4 rfl (lv_at hl 1 rfl) ?_
    refine lv_bipush (v := (127 : Int32)) hx hb dX8_feed_5 (by decide) ?_
    obtain ⟨h1, h2⟩ := h
    refine lv_icmp_le (tgt := 20) hx hb dX8_feed_7 (by decide) (fun c_2 => ?_) (fun c_2 => ?_)
    · have h := h1 c_2
      refine lv_aload_n hx hb dX8_feed_20 rfl (lv_at hl 0 rfl) ?_
      obtain ⟨fs_4, a_3, he_fs_4, hv_fs_4, h⟩ := h
      refine fw_get (C := RX8) (T := TX8) (N := 9) hx hb hts hin_X8 hown hK hF he_fs_4 rfl 7 (by decide) (hts (.fieldLink RX8 58 "FrontCodedIndex" "key" "LFrontCodedIndex$Key;") (by decide +kernel)) (fun _ h9 => h9) hv_fs_4 dX8_feed_21 ?_
      obtain ⟨⟨fs_r_5, hrc_r_5⟩, h⟩ := h
      refine fw_cV_i_p (As := []) (rest := []) ⟨hx, hb, hml, hown, hts⟩ (cc_X3_length l G h) (⟨callB_of 0 hts ggX8_feed_X3_length rfl rfl rfl (hts (.initialized RX3) (by decide +kernel)) (hts (.methodLink RX8 72 yX3_length) (by decide +kernel)) (by decide +kernel) ⟨Nat.le_of_ble_eq_true rfl, Nat.le_of_ble_eq_true rfl⟩, hts (.instanceMethod yX3_length) (by decide +kernel), hts (.selects RX3 yX3_length yX3_length) (by decide +kernel)⟩) rfl hrc_r_5 hK hZ hF hS hA rfl hl.1 rfl (Nat.le_of_ble_eq_true rfl) dX8_feed_24 ⟨by show _ ≤ mc; omega, by show _ ≤ ms; omega⟩ (fun r_5 H locs h hF hS => ?_)
      simp only [Nat.add_zero]
      refine lv_bipush (v := (12 : Int32)) hx hb dX8_feed_27 (by decide) ?_
      obtain ⟨h1, h2⟩ := h
      refine lv_icmp_lt (tgt := 42) hx hb dX8_feed_29 (by decide) (fun c_6 => ?_) (fun c_6 => ?_)
      · have h := h1 c_6
        refine lv_aload_n hx hb dX8_feed_42 rfl (lv_at hl 0 rfl) ?_
        refine lv_aload_n hx hb dX8_feed_43 rfl (lv_at hl 0 rfl) ?_
        obtain ⟨fs_8, a_7, he_fs_8, hv_fs_8, h⟩ := h
        refine fw_get (C := RX8) (T := TX8) (N := 9) hx hb hts hin_X8 hown hK hF he_fs_8 rfl 7 (by decide) (hts (.fieldLink RX8 58 "FrontCodedIndex" "key" "LFrontCodedIndex$Key;") (by decide +kernel)) (fun _ h9 => h9) hv_fs_8 dX8_feed_44 ?_
        refine lv_iload_n hx hb dX8_feed_47 rfl (lv_at hl 1 rfl) ?_
        obtain ⟨ga_11, gb_12, hga_ga_11, hgb_ga_11, h⟩ := h
        obtain ⟨⟨fs_a_9, hrc_a_9⟩, h⟩ := h
        refine fw_cV_q_w (As := [.int x1]) (rest := [.ref a0]) ⟨hx, hb, hml, hown, hts⟩ (cc_X3_withByte l G h) (⟨callB_of 1 hts ggX8_feed_X3_withByte rfl rfl rfl (hts (.initialized RX3) (by decide +kernel)) (hts (.methodLink RX8 81 yX3_withByte) (by decide +kernel)) (by decide +kernel) ⟨Nat.le_of_ble_eq_true rfl, Nat.le_of_ble_eq_true rfl⟩, hts (.instanceMethod yX3_withByte) (by decide +kernel), hts (.selects RX3 yX3_withByte yX3_withByte) (by decide +kernel)⟩) rfl hrc_a_9 hK hZ hF hS hA rfl hl.1 rfl (Nat.le_of_ble_eq_true rfl) dX8_feed_48 ⟨by show _ ≤ mc; omega, by show _ ≤ ms; omega⟩ (fun a_9 f_10 H locs h hF hS => ?_)
        obtain ⟨cs_13, hcs⟩ : ∃ z, z = (0 + ga_11) := ⟨_, rfl⟩; obtain ⟨sl_14, hsl⟩ : ∃ z, z = (0 + gb_12) := ⟨_, rfl⟩
        have hbc : cs_13 + (mc - ga_11) ≤ mc := by omega
        have hbs : sl_14 + (ms - gb_12) ≤ ms := by omega
        refine W.widen (k := cs_13) (n := sl_14) (by omega) (by omega) ?_
        clear hcs hsl
        obtain ⟨fs_15, he_fs_15, hl_fs_15, h⟩ := h
        refine fw_put (v := .ref a_9) (ty := (.object "FrontCodedIndex$Key")) (C := RX8) (T := TX8) (N := 9) hx hb hts hin_X8 tyX8 (tyX8_ok) nmX8 hown hK hF hS he_fs_15 rfl 7 (by decide) (hts (.fieldLink RX8 58 "FrontCodedIndex" "key" "LFrontCodedIndex$Key;") (by decide +kernel)) (fun _ h9 => h9) rfl (by decide +kernel) rfl rfl hl_fs_15 dX8_feed_51 (fun H locs hF hS => ?_)
        obtain ⟨f_16, hf_f_16⟩ : ∃ z, z = fup f_10 a0 (.inr (11, fs_15.set 7 (.ref a_9))) := ⟨_, rfl⟩
        rw [← hf_f_16] at hF; have h := h f_16 hf_f_16
        refine lv_aload_n hx hb dX8_feed_54 rfl (lv_at hl 0 rfl) ?_
        obtain ⟨fs_18, a_17, he_fs_18, hv_fs_18, h⟩ := h
        refine fw_get (C := RX8) (T := TX8) (N := 9) hx hb hts hin_X8 hown hK hF he_fs_18 rfl 7 (by decide) (hts (.fieldLink RX8 58 "FrontCodedIndex" "key" "LFrontCodedIndex$Key;") (by decide +kernel)) (fun _ h9 => h9) hv_fs_18 dX8_feed_55 ?_
        obtain ⟨⟨fs_r_19, hrc_r_19⟩, h⟩ := h
        refine fw_cV_i_p (As := []) (rest := []) ⟨hx, hb, hml, hown, hts⟩ (cc_X3_length l G h) (⟨callB_of 0 hts ggX8_feed_X3_length rfl rfl rfl (hts (.initialized RX3) (by decide +kernel)) (hts (.methodLink RX8 72 yX3_length) (by decide +kernel)) (by decide +kernel) ⟨Nat.le_of_ble_eq_true rfl, Nat.le_of_ble_eq_true rfl⟩, hts (.instanceMethod yX3_length) (by decide +kernel), hts (.selects RX3 yX3_length yX3_length) (by decide +kernel)⟩) rfl hrc_r_19 hK hZ hF hS hA rfl hl.1 rfl (Nat.le_of_ble_eq_true rfl) dX8_feed_58 ⟨by show _ ≤ mc; omega, by show _ ≤ ms; omega⟩ (fun r_19 H locs h hF hS => ?_)
        simp only [Nat.add_zero]
        refine vx_ret ?_
        refine W.widen (k := mc) (n := ms) (by omega) (by omega) ?_
        exact W.iret (v := r_19) hx hb hr (fun t ht hW => ⟨⟨r_19, f_16, rfl, h, by rw [ht]; exact hF, FK.moved hW.alike hK⟩, hS.F ht⟩) hS.2.2 dX8_feed_61
      · have h := h2 c_6
        obtain ⟨hb1, hb2, h⟩ := h
        refine vx_throwS hx hb hlt (own := RX8) (cls := "java/lang/IllegalStateException") (text := "the key has 12 bytes") (names := ["java/lang/RuntimeException", "java/lang/Exception"]) (ik := 76) (is := 78) (ic := 80) (sa := G.2.2 (100 + 78)) (A := A) hown (by decide) (by decide) (hts (.classLink RX8 76 "java/lang/IllegalStateException") (by decide +kernel)) (hts (.initialized "java/lang/IllegalStateException") (by decide +kernel)) (hX.1 (78, "the key has 12 bytes") (by decide +kernel)) (vx_hat (B := thrB) (fun w hw => hts w ((by decide +kernel : ∀ w ∈ (vx_atS RX8 80 "java/lang/IllegalStateException" ["java/lang/RuntimeException", "java/lang/Exception"]).filter goodWord, w ∈ wsX8_feed) w hw)) (by decide +kernel) (fun w hw => va_Nw.use (thrB_tab w hw) (hX.2.1 w hw))) (by decide +kernel) hX.2.2.1 hX.2.2.2 hS (hl.1.trans hml.symm) dX8_feed_32 dX8_feed_35 dX8_feed_36 dX8_feed_38 dX8_feed_41 (fun x hx => (hxt x hx).elim) (Nat.le_of_ble_eq_true rfl) (Nat.le_of_ble_eq_true rfl) (by show _ ≤ mc; omega) (by show _ ≤ ms; omega) hlocks (fun t hvm hz hk => ⟨(f, "java/lang/IllegalStateException"), h, ⟨rfl, hF.kept (fun q e9 he9 => hk q (hF.in he9).2), FK.moved hvm hK⟩, ⟨Nat.le_trans hS.1 hz, fun q h1 h2 => (hk q (Nat.lt_of_lt_of_le h1 hS.1)).trans (hS.2.1 q h1 h2)⟩⟩) hS.2.2 (by omega) (by omega)
    · have h := h2 c_2
      obtain ⟨hb1, hb2, h⟩ := h
      refine vx_throwS hx hb hlt (own := RX8) (cls := "java/lang/IllegalArgumentException") (text := "a byte is from 0 to 127") (names := ["java/lang/RuntimeException", "java/lang/Exception"]) (ik := 65) (is := 67) (ic := 69) (sa := G.2.2 (100 + 67)) (A := A) hown (by decide) (by decide) (hts (.classLink RX8 65 "java/lang/IllegalArgumentException") (by decide +kernel)) (hts (.initialized "java/lang/IllegalArgumentException") (by decide +kernel)) (hX.1 (67, "a byte is from 0 to 127") (by decide +kernel)) (vx_hat (B := thrB) (fun w hw => hts w ((by decide +kernel : ∀ w ∈ (vx_atS RX8 69 "java/lang/IllegalArgumentException" ["java/lang/RuntimeException", "java/lang/Exception"]).filter goodWord, w ∈ wsX8_feed) w hw)) (by decide +kernel) (fun w hw => va_Nw.use (thrB_tab w hw) (hX.2.1 w hw))) (by decide +kernel) hX.2.2.1 hX.2.2.2 hS (hl.1.trans hml.symm) dX8_feed_10 dX8_feed_13 dX8_feed_14 dX8_feed_16 dX8_feed_19 (fun x hx => (hxt x hx).elim) (Nat.le_of_ble_eq_true rfl) (Nat.le_of_ble_eq_true rfl) (by show _ ≤ mc; omega) (by show _ ≤ ms; omega) hlocks (fun t hvm hz hk => ⟨(f, "java/lang/IllegalArgumentException"), h, ⟨rfl, hF.kept (fun q e9 he9 => hk q (hF.in he9).2), FK.moved hvm hK⟩, ⟨Nat.le_trans hS.1 hz, fun q h1 h2 => (hk q (Nat.lt_of_lt_of_le h1 hS.1)).trans (hS.2.1 q h1 h2)⟩⟩) hS.2.2 (by omega) (by omega)
