theorem dL_pageFanout_0 : decode cL_pageFanout 0 = .ok (.aload_n 3, 1) := by decide +kernel
theorem dL_pageFanout_1 : decode cL_pageFanout 1 = .ok (.iconst 0, 1) := by decide +kernel
theorem dL_pageFanout_2 : decode cL_pageFanout 2 = .ok (.aload_n 0, 1) := by decide +kernel
theorem dL_pageFanout_3 : decode cL_pageFanout 3 = .ok (.iload_n 1, 1) := by decide +kernel
theorem dL_pageFanout_4 : decode cL_pageFanout 4 = .ok (.iload_n 2, 1) := by decide +kernel
theorem dL_pageFanout_5 : decode cL_pageFanout 5 = .ok (.invokevirtual 58, 3) := by decide +kernel
theorem dL_pageFanout_8 : decode cL_pageFanout 8 = .ok (.i2l, 1) := by decide +kernel
theorem dL_pageFanout_9 : decode cL_pageFanout 9 = .ok (.lastore, 1) := by decide +kernel
theorem dL_pageFanout_10 : decode cL_pageFanout 10 = .ok (.goto 7, 3) := by decide +kernel
theorem dL_pageFanout_13 : decode cL_pageFanout 13 = .ok (.astore 4, 2) := by decide +kernel
theorem dL_pageFanout_15 : decode cL_pageFanout 15 = .ok (.iconst 1, 1) := by decide +kernel
theorem dL_pageFanout_16 : decode cL_pageFanout 16 = .ok (.ireturn, 1) := by decide +kernel
theorem dL_pageFanout_17 : decode cL_pageFanout 17 = .ok (.iconst 0, 1) := by decide +kernel
theorem dL_pageFanout_18 : decode cL_pageFanout 18 = .ok (.ireturn, 1) := by decide +kernel
set_option maxRecDepth 20000 in
theorem ggL_pageFanout_X8_pageFanout : GoodIn wsL_pageFanout wsX8_pageFanout := goodIn_ca (goodIn_r _ [6, 7, 8, 9, 10, 5, 11, 12, 13, 14, 15, 16, 17, 18, 19, 20, 21, 22, 23, 24, 25, 26, 27, 28, 29, 30, 31, 32, 33, 34, 35, 36, 37, 38, 39, 40, 41, 42, 43, 44, 45, 46, 47, 48, 49, 50, 51, 52, 53, 54, 55, 56, 57, 58, 59, 60, 61, 62, 63, 64, 65, 66, 67, 68, 69, 70, 71, 72, 73, 74, 75, 76, 77, 78, 79, 80, 81, 82, 83, 84, 85, 86, 87, 88, 89, 90, 91, 92, 93, 94, 95, 96, 97] (by decide +kernel) (by decide +kernel)) (goodIn_sub (fun _ h => List.mem_cons_of_mem _ (List.mem_append_right _ h)) (by decide +kernel))
def wp_L_pageFanout (a0 : Nat) (x1 : Int32) (x2 : Int32) (a3 : Nat) (f : FT) (mc ms : Nat) (K : Int32 → FT → Prop) : Prop :=
  ∃ ga_3 gb_4 : Nat, ga_3 ≤ mc ∧ gb_4 ≤ ms ∧ isO f a0 11 ∧ wp_X8_pageFanout a0 x1 x2 f ga_3 gb_4 (fun r_1 f_2 => sJ f_2 a3 (0 : Int32) (Int32.toInt64 r_1) fun f_12 => K (0 : Int32) f_12) (fun E f_2 => (E = "java/lang/IndexOutOfBoundsException" ∧ K (1 : Int32) f_2))
set_option maxHeartbeats 4000000 in
set_option maxRecDepth 100000 in
theorem cc_L_pageFanout (l : Launch) (G : GG) {f : FT} {sz : Nat} {a0 : Nat} {x1 : Int32} {x2 : Int32} {a3 : Nat} {mc ms : Nat} {K : Int32 → FT → Prop} (hlt : l.stackTraces = false) (h : wp_L_pageFanout a0 x1 x2 a3 f mc ms K) : vx_Met l yL_pageFanout wsL_pageFanout ({ frames := 9, cells := mc, slots := ms, locals := 155 } : Room) (FPL G [.ref a0, .int x1, .int x2, .ref a3] f sz) (va_Qi (fun r f9 => K r f9 : Int32 → FT → Prop) (FB G (fA f sz)) (fA f sz)) (FXC G (fA f sz) (fun _ _ => False)) mc ms (fA f sz) := by
  refine vx_ofWH (hh := [(0, 10, 13, 27)]) (cc := cL_pageFanout) (maxL := 5) (ret := (some .int)) (by decide) rfl ?_
  intro p e s m args below meth c s₁ B hml hv
  obtain ⟨rfl, hsz, hF, hK, hZ, hX, hXN⟩ := hv
  have hx := B.exec
  have hb := B.bytes
  have hr := B.returns
  have hts := atoms_spec (ws := wsL_pageFanout) B.pre
  have hown : s.vm.findClass RL = some m.cls := findClass_of_methodNamed B.named
  have hlocks := B.notSynchronized
  have htab : c.exceptionTable.toList = tableOf [(0, 10, 13, 27)] := vx_table (x := yL_pageFanout) B (hts (.codeWith yL_pageFanout cL_pageFanout 5 (some .int) [(0, 10, 13, 27)]) (by decide +kernel))
  subst hsz
  have hF := hF.self (sz := s.heap.size)
  generalize hAe : fA f s.heap.size = A at hF hZ hX ⊢
  have hA : ∀ q : Nat, s.heap.size ≤ q → A q := fun q h => by rw [← hAe]; exact Or.inr h
  have hS : va_S A s.heap s.heap [] := va_S.rf
  have hbc : 0 + mc ≤ mc := by omega
  have hbs : 0 + ms ≤ ms := by omega
  have hl := lv_entry ([.ref a0, .int x1, .int x2, .ref a3]) (n := 5) (Nat.le_of_ble_eq_true rfl)
  rw [lg_entry_eq]
  generalize (lg_sl ([.ref a0, .int x1, .int x2, .ref a3]) ++ List.replicate (5 - (lg_sl ([.ref a0, .int x1, .int x2, .ref a3])).length) Slot.unset).toArray = ls at hl ⊢
  have hl : lv_has ls 5 [(0, .ref a0), (1, .int x1), (2, .int x2), (3, .ref a3)] := hl
  unfold wp_L_pageFanout at h
  refine lv_aload_n hx hb dL_pageFanout_0 rfl (lv_at hl 3 rfl) ?_
  refine lv_iconst (v := (0 : Int32)) hx hb dL_pageFanout_1 (by decide) ?_
  refine lv_aload_n hx hb dL_pageFanout_2 rfl (lv_at hl 0 rfl) ?_
  refine lv_iload_n hx hb dL_pageFanout_3 rfl (lv_at hl 1 rfl) ?_
  refine lv_iload_n hx hb dL_pageFanout_4 rfl (lv_at hl 2 rfl) ?_
  obtain ⟨ga_3, gb_4, hga_ga_3, hgb_ga_3, h⟩ := h
  obtain ⟨⟨fs_r_1, hrc_r_1⟩, h⟩ := h
  refine fx_cVH_i (As := [.int x1, .int x2]) (rest := [.int (0 : Int32), .ref a3]) ⟨hx, hb, hml, hown, hts⟩ (cc_X8_pageFanout l G hlt h) (⟨callB_of 2 hts ggL_pageFanout_X8_pageFanout rfl rfl rfl (hts (.initialized RX8) (by decide +kernel)) (hts (.methodLink RL 58 yX8_pageFanout) (by decide +kernel)) (by decide +kernel) ⟨Nat.le_of_ble_eq_true rfl, Nat.le_of_ble_eq_true rfl⟩, hts (.instanceMethod yX8_pageFanout) (by decide +kernel), hts (.selects RX8 yX8_pageFanout yX8_pageFanout) (by decide +kernel)⟩) rfl hrc_r_1 hK hZ hX hF hS hA rfl hl.1 rfl (Nat.le_of_ble_eq_true rfl) dL_pageFanout_5 ⟨by show _ ≤ mc; omega, by show _ ≤ ms; omega⟩ (fun E ce q9 f_2 H locs h hF hS hq1 hq2 hq3 => ?_) (fun r_1 f_2 H locs h hF hS => ?_)
  · obtain ⟨rfl, h⟩ := h
    refine vx_catch hown ([] : List ExceptionTableEntry) ⟨0, 10, 13, 27⟩ [] (by rw [htab]; rfl) (fun z hz => absurd hz List.not_mem_nil) (by decide) (by decide) (hts (.classLink RL 27 "java/lang/IndexOutOfBoundsException") (by decide +kernel)) (va_Nw.use rfl (hX.2.1 (.castable "java/lang/IndexOutOfBoundsException" "java/lang/IndexOutOfBoundsException") (by decide +kernel))) hq1 hq2 hq3 ?_
    obtain ⟨cs_7, hcs⟩ : ∃ z, z = (0 + ga_3) := ⟨_, rfl⟩; obtain ⟨sl_8, hsl⟩ : ∃ z, z = (0 + gb_4) := ⟨_, rfl⟩
    have hbc : cs_7 + (mc - ga_3) ≤ mc := by omega
    have hbs : sl_8 + (ms - gb_4) ≤ ms := by omega
    refine W.widen (k := cs_7) (n := sl_8) (by omega) (by omega) ?_
    clear hcs hsl
    refine lv_astore (lv' := [(4, .ref q9), (0, .ref a0), (1, .int x1), (2, .int x2), (3, .ref a3)]) hx hb dL_pageFanout_13 hl (by decide) rfl (fun ls hl => ?_)
    refine lv_iconst (v := (1 : Int32)) hx hb dL_pageFanout_15 (by decide) ?_
    refine vx_ret ?_
    refine W.widen (k := mc) (n := ms) (by omega) (by omega) ?_
    exact W.iret (v := (1 : Int32)) hx hb hr (fun t ht hW => ⟨⟨(1 : Int32), f_2, rfl, h, by rw [ht]; exact hF, FK.moved hW.alike hK⟩, hS.F ht⟩) hS.2.2 dL_pageFanout_16
  · obtain ⟨cs_9, hcs⟩ : ∃ z, z = (0 + ga_3) := ⟨_, rfl⟩; obtain ⟨sl_10, hsl⟩ : ∃ z, z = (0 + gb_4) := ⟨_, rfl⟩
    have hbc : cs_9 + (mc - ga_3) ≤ mc := by omega
    have hbs : sl_10 + (ms - gb_4) ≤ ms := by omega
    refine W.widen (k := cs_9) (n := sl_10) (by omega) (by omega) ?_
    clear hcs hsl
    refine lv_i2l (v := (Int32.toInt64 r_1)) hx hb dL_pageFanout_8 rfl ?_
    obtain ⟨n_q_11, q_11, he_q_11, hi_q_11, h⟩ := h
    refine fw_last hx hb hK hF hS he_q_11 hi_q_11 dL_pageFanout_9 (fun H locs hF hS => ?_)
    obtain ⟨f_12, hf_f_12⟩ : ∃ z, z = fup f_2 a3 (.inl (3, n_q_11, .inr (.inl (vp_updL q_11 ((0 : Int32)).toNatClampNeg (Int32.toInt64 r_1))))) := ⟨_, rfl⟩
    rw [← hf_f_12] at hF; have h := h f_12 hf_f_12
    refine lv_goto (tgt := 17) hx hb dL_pageFanout_10 (by decide) ?_
    refine lv_iconst (v := (0 : Int32)) hx hb dL_pageFanout_17 (by decide) ?_
    refine vx_ret ?_
    refine W.widen (k := mc) (n := ms) (by omega) (by omega) ?_
    exact W.iret (v := (0 : Int32)) hx hb hr (fun t ht hW => ⟨⟨(0 : Int32), f_12, rfl, h, by rw [ht]; exact hF, FK.moved hW.alike hK⟩, hS.F ht⟩) hS.2.2 dL_pageFanout_18
theorem dL_separator_0 : decode cL_separator 0 = .ok (.aload 4, 2) := by decide +kernel
theorem dL_separator_2 : decode cL_separator 2 = .ok (.iconst 0, 1) := by decide +kernel
theorem dL_separator_3 : decode cL_separator 3 = .ok (.aload_n 0, 1) := by decide +kernel
theorem dL_separator_4 : decode cL_separator 4 = .ok (.iload_n 1, 1) := by decide +kernel
theorem dL_separator_5 : decode cL_separator 5 = .ok (.iload_n 2, 1) := by decide +kernel
theorem dL_separator_6 : decode cL_separator 6 = .ok (.iload_n 3, 1) := by decide +kernel
theorem dL_separator_7 : decode cL_separator 7 = .ok (.invokevirtual 61, 3) := by decide +kernel
theorem dL_separator_10 : decode cL_separator 10 = .ok (.i2l, 1) := by decide +kernel
theorem dL_separator_11 : decode cL_separator 11 = .ok (.lastore, 1) := by decide +kernel
theorem dL_separator_12 : decode cL_separator 12 = .ok (.goto 11, 3) := by decide +kernel
theorem dL_separator_15 : decode cL_separator 15 = .ok (.astore 5, 2) := by decide +kernel
theorem dL_separator_17 : decode cL_separator 17 = .ok (.iconst 1, 1) := by decide +kernel
theorem dL_separator_18 : decode cL_separator 18 = .ok (.ireturn, 1) := by decide +kernel
theorem dL_separator_19 : decode cL_separator 19 = .ok (.astore 5, 2) := by decide +kernel
theorem dL_separator_21 : decode cL_separator 21 = .ok (.iconst 2, 1) := by decide +kernel
theorem dL_separator_22 : decode cL_separator 22 = .ok (.ireturn, 1) := by decide +kernel
theorem dL_separator_23 : decode cL_separator 23 = .ok (.iconst 0, 1) := by decide +kernel
theorem dL_separator_24 : decode cL_separator 24 = .ok (.ireturn, 1) := by decide +kernel
set_option maxRecDepth 20000 in
theorem ggL_separator_X8_separator : GoodIn wsL_separator wsX8_separator := goodIn_ca (goodIn_ca (goodIn_r _ [7, 8, 9, 10, 11, 12, 13, 14, 6, 15, 16, 17, 18, 19, 20, 21, 22, 23, 24, 25, 26, 27, 28, 29, 30, 31, 32, 33, 34, 35, 36, 37, 38, 39, 40, 41, 42, 43, 44, 45, 46, 47, 48, 49, 50, 51, 52, 53, 54, 55, 56, 57, 58, 59, 60, 61, 62, 63, 64, 65, 66, 67, 68, 69, 70, 71, 72, 73, 74, 75, 76, 77, 78, 79, 80, 81, 82, 83, 84, 85, 86, 87, 88, 89, 90, 91, 92, 93, 94, 95, 96, 97, 98, 99, 100, 101, 102, 103, 104, 105, 106, 107, 108, 109, 110, 111, 112, 113, 114, 115, 116, 117, 118, 119, 120, 121, 122, 123, 124, 125] (by decide +kernel) (by decide +kernel)) (goodIn_sub (fun _ h => List.mem_cons_of_mem _ (List.mem_append_left _ (List.mem_append_right _ h))) (by decide +kernel))) (goodIn_sub (fun _ h => List.mem_cons_of_mem _ (List.mem_append_right _ h)) (by decide +kernel))
def wp_L_separator (a0 : Nat) (x1 : Int32) (x2 : Int32) (x3 : Int32) (a4 : Nat) (f : FT) (mc ms : Nat) (K : Int32 → FT → Prop) : Prop :=
  ∃ ga_3 gb_4 : Nat, ga_3 ≤ mc ∧ gb_4 ≤ ms ∧ isO f a0 11 ∧ wp_X8_separator a0 x1 x2 x3 f ga_3 gb_4 (fun r_1 f_2 => sJ f_2 a4 (0 : Int32) (Int32.toInt64 r_1) fun f_14 => K (0 : Int32) f_14) (fun E f_2 => (E = "java/lang/IndexOutOfBoundsException" ∧ K (1 : Int32) f_2) ∨ (E = "java/util/NoSuchElementException" ∧ K (2 : Int32) f_2))
set_option maxHeartbeats 4000000 in
set_option maxRecDepth 100000 in
theorem cc_L_separator (l : Launch) (G : GG) {f : FT} {sz : Nat} {a0 : Nat} {x1 : Int32} {x2 : Int32} {x3 : Int32} {a4 : Nat} {mc ms : Nat} {K : Int32 → FT → Prop} (hlt : l.stackTraces = false) (h : wp_L_separator a0 x1 x2 x3 a4 f mc ms K) : vx_Met l yL_separator wsL_separator ({ frames := 9, cells := mc, slots := ms, locals := 158 } : Room) (FPL G [.ref a0, .int x1, .int x2, .int x3, .ref a4] f sz) (va_Qi (fun r f9 => K r f9 : Int32 → FT → Prop) (FB G (fA f sz)) (fA f sz)) (FXC G (fA f sz) (fun _ _ => False)) mc ms (fA f sz) := by
  refine vx_ofWH (hh := [(0, 12, 15, 27), (0, 12, 19, 40)]) (cc := cL_separator) (maxL := 6) (ret := (some .int)) (by decide) rfl ?_
  intro p e s m args below meth c s₁ B hml hv
  obtain ⟨rfl, hsz, hF, hK, hZ, hX, hXN⟩ := hv
  have hx := B.exec
  have hb := B.bytes
  have hr := B.returns
  have hts := atoms_spec (ws := wsL_separator) B.pre
  have hown : s.vm.findClass RL = some m.cls := findClass_of_methodNamed B.named
  have hlocks := B.notSynchronized
  have htab : c.exceptionTable.toList = tableOf [(0, 12, 15, 27), (0, 12, 19, 40)] := vx_table (x := yL_separator) B (hts (.codeWith yL_separator cL_separator 6 (some .int) [(0, 12, 15, 27), (0, 12, 19, 40)]) (by decide +kernel))
  subst hsz
  have hF := hF.self (sz := s.heap.size)
  generalize hAe : fA f s.heap.size = A at hF hZ hX ⊢
  have hA : ∀ q : Nat, s.heap.size ≤ q → A q := fun q h => by rw [← hAe]; exact Or.inr h
  have hS : va_S A s.heap s.heap [] := va_S.rf
  have hbc : 0 + mc ≤ mc := by omega
  have hbs : 0 + ms ≤ ms := by omega
  have hl := lv_entry ([.ref a0, .int x1, .int x2, .int x3, .ref a4]) (n := 6) (Nat.le_of_ble_eq_true rfl)
  rw [lg_entry_eq]
  generalize (lg_sl ([.ref a0, .int x1, .int x2, .int x3, .ref a4]) ++ List.replicate (6 - (lg_sl ([.ref a0, .int x1, .int x2, .int x3, .ref a4])).length) Slot.unset).toArray = ls at hl ⊢
  have hl : lv_has ls 6 [(0, .ref a0), (1, .int x1), (2, .int x2), (3, .int x3), (4, .ref a4)] := hl
  unfold wp_L_separator at h
  refine lv_aload hx hb dL_separator_0 (lv_at hl 4 rfl) ?_
  refine lv_iconst (v := (0 : Int32)) hx hb dL_separator_2 (by decide) ?_
  refine lv_aload_n hx hb dL_separator_3 rfl (lv_at hl 0 rfl) ?_
  refine lv_iload_n hx hb dL_separator_4 rfl (lv_at hl 1 rfl) ?_
  refine lv_iload_n hx hb dL_separator_5 rfl (lv_at hl 2 rfl) ?_
  refine lv_iload_n hx hb dL_separator_6 rfl (lv_at hl 3 rfl) ?_
  obtain ⟨ga_3, gb_4, hga_ga_3, hgb_ga_3, h⟩ := h
  obtain ⟨⟨fs_r_1, hrc_r_1⟩, h⟩ := h
  refine fx_cVH_i (As := [.int x1, .int x2, .int x3]) (rest := [.int (0 : Int32), .ref a4]) ⟨hx, hb, hml, hown, hts⟩ (cc_X8_separator l G hlt h) (⟨callB_of 3 hts ggL_separator_X8_separator rfl rfl rfl (hts (.initialized RX8) (by decide +kernel)) (hts (.methodLink RL 61 yX8_separator) (by decide +kernel)) (by decide +kernel) ⟨Nat.le_of_ble_eq_true rfl, Nat.le_of_ble_eq_true rfl⟩, hts (.instanceMethod yX8_separator) (by decide +kernel), hts (.selects RX8 yX8_separator yX8_separator) (by decide +kernel)⟩) rfl hrc_r_1 hK hZ hX hF hS hA rfl hl.1 rfl (Nat.le_of_ble_eq_true rfl) dL_separator_7 ⟨by show _ ≤ mc; omega, by show _ ≤ ms; omega⟩ (fun E ce q9 f_2 H locs h hF hS hq1 hq2 hq3 => ?_) (fun r_1 f_2 H locs h hF hS => ?_)
  · rcases h with ⟨rfl, h⟩ | ⟨rfl, h⟩
    · refine vx_catch hown ([] : List ExceptionTableEntry) ⟨0, 12, 15, 27⟩ [⟨0, 12, 19, 40⟩] (by rw [htab]; rfl) (fun z hz => absurd hz List.not_mem_nil) (by decide) (by decide) (hts (.classLink RL 27 "java/lang/IndexOutOfBoundsException") (by decide +kernel)) (va_Nw.use rfl (hX.2.1 (.castable "java/lang/IndexOutOfBoundsException" "java/lang/IndexOutOfBoundsException") (by decide +kernel))) hq1 hq2 hq3 ?_
      obtain ⟨cs_7, hcs⟩ : ∃ z, z = (0 + ga_3) := ⟨_, rfl⟩; obtain ⟨sl_8, hsl⟩ : ∃ z, z = (0 + gb_4) := ⟨_, rfl⟩
      have hbc : cs_7 + (mc - ga_3) ≤ mc := by omega
      have hbs : sl_8 + (ms - gb_4) ≤ ms := by omega
      refine W.widen (k := cs_7) (n := sl_8) (by omega) (by omega) ?_
      clear hcs hsl
      refine lv_astore (lv' := [(5, .ref q9), (0, .ref a0), (1, .int x1), (2, .int x2), (3, .int x3), (4, .ref a4)]) hx hb dL_separator_15 hl (by decide) rfl (fun ls hl => ?_)
      refine lv_iconst (v := (1 : Int32)) hx hb dL_separator_17 (by decide) ?_
      refine vx_ret ?_
      refine W.widen (k := mc) (n := ms) (by omega) (by omega) ?_
      exact W.iret (v := (1 : Int32)) hx hb hr (fun t ht hW => ⟨⟨(1 : Int32), f_2, rfl, h, by rw [ht]; exact hF, FK.moved hW.alike hK⟩, hS.F ht⟩) hS.2.2 dL_separator_18
    · refine vx_catch hown ([⟨0, 12, 15, 27⟩] : List ExceptionTableEntry) ⟨0, 12, 19, 40⟩ [] (by rw [htab]; rfl) (List.forall_mem_cons.mpr ⟨Or.inr ⟨by decide, "java/lang/IndexOutOfBoundsException", hts (.classLink RL 27 "java/lang/IndexOutOfBoundsException") (by decide +kernel), hXN ("java/util/NoSuchElementException", "java/lang/IndexOutOfBoundsException") (by decide +kernel)⟩, fun z hz => absurd hz List.not_mem_nil⟩) (by decide) (by decide) (hts (.classLink RL 40 "java/util/NoSuchElementException") (by decide +kernel)) (va_Nw.use rfl (hX.2.1 (.castable "java/util/NoSuchElementException" "java/util/NoSuchElementException") (by decide +kernel))) hq1 hq2 hq3 ?_
      obtain ⟨cs_9, hcs⟩ : ∃ z, z = (0 + ga_3) := ⟨_, rfl⟩; obtain ⟨sl_10, hsl⟩ : ∃ z, z = (0 + gb_4) := ⟨_, rfl⟩
      have hbc : cs_9 + (mc - ga_3) ≤ mc := by omega
      have hbs : sl_10 + (ms - gb_4) ≤ ms := by omega
      refine W.widen (k := cs_9) (n := sl_10) (by omega) (by omega) ?_
      clear hcs hsl
      refine lv_astore (lv' := [(5, .ref q9), (0, .ref a0), (1, .int x1), (2, .int x2), (3, .int x3), (4, .ref a4)]) hx hb dL_separator_19 hl (by decide) rfl (fun ls hl => ?_)
      refine lv_iconst (v := (2 : Int32)) hx hb dL_separator_21 (by decide) ?_
      refine vx_ret ?_
      refine W.widen (k := mc) (n := ms) (by omega) (by omega) ?_
      exact W.iret (v := (2 : Int32)) hx hb hr (fun t ht hW => ⟨⟨(2 : Int32), f_2, rfl, h, by rw [ht]; exact hF, FK.moved hW.alike hK⟩, hS.F ht⟩) hS.2.2 dL_separator_22
  · obtain ⟨cs_11, hcs⟩ : ∃ z, z = (0 + ga_3) := ⟨_, rfl⟩; obtain ⟨sl_12, hsl⟩ : ∃ z, z = (0 + gb_4) := ⟨_, rfl⟩
    have hbc : cs_11 + (mc - ga_3) ≤ mc := by omega
    have hbs : sl_12 + (ms - gb_4) ≤ ms := by omega
    refine W.widen (k := cs_11) (n := sl_12) (by omega) (by omega) ?_
    clear hcs hsl
    refine lv_i2l (v := (Int32.toInt64 r_1)) hx hb dL_separator_10 rfl ?_
    obtain ⟨n_q_13, q_13, he_q_13, hi_q_13, h⟩ := h
    refine fw_last hx hb hK hF hS he_q_13 hi_q_13 dL_separator_11 (fun H locs hF hS => ?_)
    obtain ⟨f_14, hf_f_14⟩ : ∃ z, z = fup f_2 a4 (.inl (3, n_q_13, .inr (.inl (vp_updL q_13 ((0 : Int32)).toNatClampNeg (Int32.toInt64 r_1))))) := ⟨_, rfl⟩
    rw [← hf_f_14] at hF; have h := h f_14 hf_f_14
    refine lv_goto (tgt := 23) hx hb dL_separator_12 (by decide) ?_
    refine lv_iconst (v := (0 : Int32)) hx hb dL_separator_23 (by decide) ?_
    refine vx_ret ?_
    refine W.widen (k := mc) (n := ms) (by omega) (by omega) ?_
    exact W.iret (v := (0 : Int32)) hx hb hr (fun t ht hW => ⟨⟨(0 : Int32), f_14, rfl, h, by rw [ht]; exact hF, FK.moved hW.alike hK⟩, hS.F ht⟩) hS.2.2 dL_separator_24
theorem dL_statistic_0 : decode cL_statistic 0 = .ok (.aload_n 2, 1) := by decide +kernel
theorem dL_statistic_1 : decode cL_statistic 1 = .ok (.iconst 0, 1) := by decide +kernel
theorem dL_statistic_2 : decode cL_statistic 2 = .ok (.aload_n 0, 1) := by decide +kernel
theorem dL_statistic_3 : decode cL_statistic 3 = .ok (.iload_n 1, 1) := by decide +kernel
theorem dL_statistic_4 : decode cL_statistic 4 = .ok (.invokevirtual 65, 3) := by decide +kernel
theorem dL_statistic_7 : decode cL_statistic 7 = .ok (.i2l, 1) := by decide +kernel
theorem dL_statistic_8 : decode cL_statistic 8 = .ok (.lastore, 1) := by decide +kernel
theorem dL_statistic_9 : decode cL_statistic 9 = .ok (.goto 6, 3) := by decide +kernel
theorem dL_statistic_12 : decode cL_statistic 12 = .ok (.astore_n 3, 1) := by decide +kernel
theorem dL_statistic_13 : decode cL_statistic 13 = .ok (.iconst 1, 1) := by decide +kernel
theorem dL_statistic_14 : decode cL_statistic 14 = .ok (.ireturn, 1) := by decide +kernel
theorem dL_statistic_15 : decode cL_statistic 15 = .ok (.iconst 0, 1) := by decide +kernel
theorem dL_statistic_16 : decode cL_statistic 16 = .ok (.ireturn, 1) := by decide +kernel
set_option maxRecDepth 20000 in
theorem ggL_statistic_X8_statistic : GoodIn wsL_statistic wsX8_statistic := goodIn_ca (goodIn_r _ [6, 7, 8, 9, 10, 11, 12, 13, 14, 5, 15, 16, 17, 18, 19, 20, 21, 22, 23, 24, 25, 26, 27, 28, 29, 30, 31, 32, 33, 34, 35, 36, 37, 38, 39, 40, 41, 42, 43, 44, 45, 46, 47, 48, 49, 50, 51, 52, 53, 54, 55, 56, 57, 58, 59, 60, 61, 62, 63, 64, 65, 66, 67, 68, 69, 70, 71, 72, 73, 74, 75, 76, 77, 78, 79, 80, 81, 82, 83, 84, 85, 86, 87, 88, 89, 90, 91, 92, 93, 94, 95, 96, 97, 98, 99, 100, 101, 102, 103, 104, 105, 106, 107, 108, 109, 110, 111, 112, 113, 114, 115, 116, 117, 118, 119, 120, 121, 122, 123, 124, 125, 126, 127, 128, 129, 130, 131, 132, 133, 134, 135, 136, 137, 138, 139, 140, 141, 142] (by decide +kernel) (by decide +kernel)) (goodIn_sub (fun _ h => List.mem_cons_of_mem _ (List.mem_append_right _ h)) (by decide +kernel))
def wp_L_statistic (a0 : Nat) (x1 : Int32) (a2 : Nat) (f : FT) (mc ms : Nat) (K : Int32 → FT → Prop) : Prop :=
  ∃ ga_3 gb_4 : Nat, ga_3 ≤ mc ∧ gb_4 ≤ ms ∧ isO f a0 11 ∧ wp_X8_statistic a0 x1 f ga_3 gb_4 (fun r_1 f_2 => sJ f_2 a2 (0 : Int32) (Int32.toInt64 r_1) fun f_12 => K (0 : Int32) f_12) (fun E f_2 => (E = "java/lang/IllegalArgumentException" ∧ K (1 : Int32) f_2))
set_option maxHeartbeats 4000000 in
set_option maxRecDepth 100000 in
theorem cc_L_statistic (l : Launch) (G : GG) {f : FT} {sz : Nat} {a0 : Nat} {x1 : Int32} {a2 : Nat} {mc ms : Nat} {K : Int32 → FT → Prop} (hlt : l.stackTraces = false) (h : wp_L_statistic a0 x1 a2 f mc ms K) : vx_Met l yL_statistic wsL_statistic ({ frames := 9, cells := mc, slots := ms, locals := 206 } : Room) (FPL G [.ref a0, .int x1, .ref a2] f sz) (va_Qi (fun r f9 => K r f9 : Int32 → FT → Prop) (FB G (fA f sz)) (fA f sz)) (FXC G (fA f sz) (fun _ _ => False)) mc ms (fA f sz) := by
  refine vx_ofWH (hh := [(0, 9, 12, 13)]) (cc := cL_statistic) (maxL := 4) (ret := (some .int)) (by decide) rfl ?_
  intro p e s m args below meth c s₁ B hml hv
  obtain ⟨rfl, hsz, hF, hK, hZ, hX, hXN⟩ := hv
  have hx := B.exec
  have hb := B.bytes
  have hr := B.returns
  have hts := atoms_spec (ws := wsL_statistic) B.pre
  have hown : s.vm.findClass RL = some m.cls := findClass_of_methodNamed B.named
  have hlocks := B.notSynchronized
  have htab : c.exceptionTable.toList = tableOf [(0, 9, 12, 13)] := vx_table (x := yL_statistic) B (hts (.codeWith yL_statistic cL_statistic 4 (some .int) [(0, 9, 12, 13)]) (by decide +kernel))
  subst hsz
  have hF := hF.self (sz := s.heap.size)
  generalize hAe : fA f s.heap.size = A at hF hZ hX ⊢
  have hA : ∀ q : Nat, s.heap.size ≤ q → A q := fun q h => by rw [← hAe]; exact Or.inr h
  have hS : va_S A s.heap s.heap [] := va_S.rf
  have hbc : 0 + mc ≤ mc := by omega
  have hbs : 0 + ms ≤ ms := by omega
  have hl := lv_entry ([.ref a0, .int x1, .ref a2]) (n := 4) (Nat.le_of_ble_eq_true rfl)
  rw [lg_entry_eq]
  generalize (lg_sl ([.ref a0, .int x1, .ref a2]) ++ List.replicate (4 - (lg_sl ([.ref a0, .int x1, .ref a2])).length) Slot.unset).toArray = ls at hl ⊢
  have hl : lv_has ls 4 [(0, .ref a0), (1, .int x1), (2, .ref a2)] := hl
  unfold wp_L_statistic at h
  refine lv_aload_n hx hb dL_statistic_0 rfl (lv_at hl 2 rfl) ?_
  refine lv_iconst (v := (0 : Int32)) hx hb dL_statistic_1 (by decide) ?_
  refine lv_aload_n hx hb dL_statistic_2 rfl (lv_at hl 0 rfl) ?_
  refine lv_iload_n hx hb dL_statistic_3 rfl (lv_at hl 1 rfl) ?_
  obtain ⟨ga_3, gb_4, hga_ga_3, hgb_ga_3, h⟩ := h
  obtain ⟨⟨fs_r_1, hrc_r_1⟩, h⟩ := h
  refine fx_cVH_i (As := [.int x1]) (rest := [.int (0 : Int32), .ref a2]) ⟨hx, hb, hml, hown, hts⟩ (cc_X8_statistic l G hlt h) (⟨callB_of 1 hts ggL_statistic_X8_statistic rfl rfl rfl (hts (.initialized RX8) (by decide +kernel)) (hts (.methodLink RL 65 yX8_statistic) (by decide +kernel)) (by decide +kernel) ⟨Nat.le_of_ble_eq_true rfl, Nat.le_of_ble_eq_true rfl⟩, hts (.instanceMethod yX8_statistic) (by decide +kernel), hts (.selects RX8 yX8_statistic yX8_statistic) (by decide +kernel)⟩) rfl hrc_r_1 hK hZ hX hF hS hA rfl hl.1 rfl (Nat.le_of_ble_eq_true rfl) dL_statistic_4 ⟨by show _ ≤ mc; omega, by show _ ≤ ms; omega⟩ (fun E ce q9 f_2 H locs h hF hS hq1 hq2 hq3 => ?_) (fun r_1 f_2 H locs h hF hS => ?_)
  · obtain ⟨rfl, h⟩ := h
    refine vx_catch hown ([] : List ExceptionTableEntry) ⟨0, 9, 12, 13⟩ [] (by rw [htab]; rfl) (fun z hz => absurd hz List.not_mem_nil) (by decide) (by decide) (hts (.classLink RL 13 "java/lang/IllegalArgumentException") (by decide +kernel)) (va_Nw.use rfl (hX.2.1 (.castable "java/lang/IllegalArgumentException" "java/lang/IllegalArgumentException") (by decide +kernel))) hq1 hq2 hq3 ?_
    obtain ⟨cs_7, hcs⟩ : ∃ z, z = (0 + ga_3) := ⟨_, rfl⟩; obtain ⟨sl_8, hsl⟩ : ∃ z, z = (0 + gb_4) := ⟨_, rfl⟩
    have hbc : cs_7 + (mc - ga_3) ≤ mc := by omega
    have hbs : sl_8 + (ms - gb_4) ≤ ms := by omega
    refine W.widen (k := cs_7) (n := sl_8) (by omega) (by omega) ?_
    clear hcs hsl
    refine lv_astore_n (lv' := [(3, .ref q9), (0, .ref a0), (1, .int x1), (2, .ref a2)]) hx hb dL_statistic_12 rfl hl (by decide) rfl (fun ls hl => ?_)
    refine lv_iconst (v := (1 : Int32)) hx hb dL_statistic_13 (by decide) ?_
    refine vx_ret ?_
    refine W.widen (k := mc) (n := ms) (by omega) (by omega) ?_
    exact W.iret (v := (1 : Int32)) hx hb hr (fun t ht hW => ⟨⟨(1 : Int32), f_2, rfl, h, by rw [ht]; exact hF, FK.moved hW.alike hK⟩, hS.F ht⟩) hS.2.2 dL_statistic_14
  · obtain ⟨cs_9, hcs⟩ : ∃ z, z = (0 + ga_3) := ⟨_, rfl⟩; obtain ⟨sl_10, hsl⟩ : ∃ z, z = (0 + gb_4) := ⟨_, rfl⟩
    have hbc : cs_9 + (mc - ga_3) ≤ mc := by omega
    have hbs : sl_10 + (ms - gb_4) ≤ ms := by omega
    refine W.widen (k := cs_9) (n := sl_10) (by omega) (by omega) ?_
    clear hcs hsl
    refine lv_i2l (v := (Int32.toInt64 r_1)) hx hb dL_statistic_7 rfl ?_
    obtain ⟨n_q_11, q_11, he_q_11, hi_q_11, h⟩ := h
    refine fw_last hx hb hK hF hS he_q_11 hi_q_11 dL_statistic_8 (fun H locs hF hS => ?_)
    obtain ⟨f_12, hf_f_12⟩ : ∃ z, z = fup f_2 a2 (.inl (3, n_q_11, .inr (.inl (vp_updL q_11 ((0 : Int32)).toNatClampNeg (Int32.toInt64 r_1))))) := ⟨_, rfl⟩
    rw [← hf_f_12] at hF; have h := h f_12 hf_f_12
    refine lv_goto (tgt := 15) hx hb dL_statistic_9 (by decide) ?_
    refine lv_iconst (v := (0 : Int32)) hx hb dL_statistic_15 (by decide) ?_
    refine vx_ret ?_
    refine W.widen (k := mc) (n := ms) (by omega) (by omega) ?_
    exact W.iret (v := (0 : Int32)) hx hb hr (fun t ht hW => ⟨⟨(0 : Int32), f_12, rfl, h, by rw [ht]; exact hF, FK.moved hW.alike hK⟩, hS.F ht⟩) hS.2.2 dL_statistic_16
theorem dL_open_0 : decode cL_open 0 = .ok (.aload_n 2, 1) := by decide +kernel
theorem dL_open_1 : decode cL_open 1 = .ok (.iconst 0, 1) := by decide +kernel
theorem dL_open_2 : decode cL_open 2 = .ok (.aload_n 0, 1) := by decide +kernel
theorem dL_open_3 : decode cL_open 3 = .ok (.iload_n 1, 1) := by decide +kernel
theorem dL_open_4 : decode cL_open 4 = .ok (.invokevirtual 68, 3) := by decide +kernel
theorem dL_open_7 : decode cL_open 7 = .ok (.ifCond .eq 7, 3) := by decide +kernel
theorem dL_open_10 : decode cL_open 10 = .ok (.lconst 1, 1) := by decide +kernel
theorem dL_open_11 : decode cL_open 11 = .ok (.goto 4, 3) := by decide +kernel
theorem dL_open_14 : decode cL_open 14 = .ok (.lconst 0, 1) := by decide +kernel
theorem dL_open_15 : decode cL_open 15 = .ok (.lastore, 1) := by decide +kernel
theorem dL_open_16 : decode cL_open 16 = .ok (.goto 6, 3) := by decide +kernel
theorem dL_open_19 : decode cL_open 19 = .ok (.astore_n 3, 1) := by decide +kernel
theorem dL_open_20 : decode cL_open 20 = .ok (.iconst 1, 1) := by decide +kernel
theorem dL_open_21 : decode cL_open 21 = .ok (.ireturn, 1) := by decide +kernel
theorem dL_open_22 : decode cL_open 22 = .ok (.iconst 0, 1) := by decide +kernel
theorem dL_open_23 : decode cL_open 23 = .ok (.ireturn, 1) := by decide +kernel
set_option maxRecDepth 20000 in
theorem ggL_open_X8_open : GoodIn wsL_open wsX8_open := goodIn_ca (goodIn_r _ [6, 7, 8, 9, 10, 11, 12, 5, 13, 14, 15, 16, 17, 18, 19, 20, 21, 22, 23, 24, 25, 26, 27, 28, 29, 30, 31, 32, 33, 34, 35, 36, 37, 38, 39, 40, 41, 42, 43, 44, 45, 46, 47, 48, 49, 50, 51, 52, 53, 54, 55, 56, 57, 58, 59, 60, 61, 62, 63, 64, 65, 66, 67, 68, 69, 70, 71, 72, 73, 74, 75, 76, 77, 78, 79, 80, 81, 82, 83, 84, 85, 86, 87, 88, 89, 90, 91, 92, 93, 94, 95, 96, 97, 98] (by decide +kernel) (by decide +kernel)) (goodIn_sub (fun _ h => List.mem_cons_of_mem _ (List.mem_append_right _ h)) (by decide +kernel))
def wp_L_open_15  (zw0 : Int64) (z1 : Int32) (b2 : Nat) (f : FT) (bc bs : Nat) (K : Int32 → FT → Prop)  : Prop :=
  sJ f b2 z1 zw0 fun f_2 => K (0 : Int32) f_2
def wp_L_open (a0 : Nat) (x1 : Int32) (a2 : Nat) (f : FT) (mc ms : Nat) (K : Int32 → FT → Prop) : Prop :=
  ∃ ga_5 gb_6 : Nat, ga_5 ≤ mc ∧ gb_6 ≤ ms ∧ isO f a0 11 ∧ wp_X8_open a0 x1 f ga_5 gb_6 (fun r_3 f_4 => ((r_3 = (0 : Int32) → wp_L_open_15 (0 : Int64) (0 : Int32) a2 f_4 (mc - ga_5) (ms - gb_6) K) ∧
 (¬ (r_3 = (0 : Int32)) → wp_L_open_15 (1 : Int64) (0 : Int32) a2 f_4 (mc - ga_5) (ms - gb_6) K))) (fun E f_4 => (E = "java/lang/IllegalArgumentException" ∧ K (1 : Int32) f_4))
set_option maxHeartbeats 4000000 in
set_option maxRecDepth 100000 in
theorem cc_L_open (l : Launch) (G : GG) {f : FT} {sz : Nat} {a0 : Nat} {x1 : Int32} {a2 : Nat} {mc ms : Nat} {K : Int32 → FT → Prop} (hlt : l.stackTraces = false) (h : wp_L_open a0 x1 a2 f mc ms K) : vx_Met l yL_open wsL_open ({ frames := 8, cells := mc, slots := ms, locals := 133 } : Room) (FPL G [.ref a0, .int x1, .ref a2] f sz) (va_Qi (fun r f9 => K r f9 : Int32 → FT → Prop) (FB G (fA f sz)) (fA f sz)) (FXC G (fA f sz) (fun _ _ => False)) mc ms (fA f sz) := by
  refine vx_ofWH (hh := [(0, 16, 19, 13)]) (cc := cL_open) (maxL := 4) (ret := (some .int)) (by decide) rfl ?_
  intro p e s m args below meth c s₁ B hml hv
  obtain ⟨rfl, hsz, hF, hK, hZ, hX, hXN⟩ := hv
  have hx := B.exec
  have hb := B.bytes
  have hr := B.returns
  have hts := atoms_spec (ws := wsL_open) B.pre
  have hown : s.vm.findClass RL = some m.cls := findClass_of_methodNamed B.named
  have hlocks := B.notSynchronized
  have htab : c.exceptionTable.toList = tableOf [(0, 16, 19, 13)] := vx_table (x := yL_open) B (hts (.codeWith yL_open cL_open 4 (some .int) [(0, 16, 19, 13)]) (by decide +kernel))
  subst hsz
  have hF := hF.self (sz := s.heap.size)
  generalize hAe : fA f s.heap.size = A at hF hZ hX ⊢
  have hA : ∀ q : Nat, s.heap.size ≤ q → A q := fun q h => by rw [← hAe]; exact Or.inr h
  have hS : va_S A s.heap s.heap [] := va_S.rf
  have hbc : 0 + mc ≤ mc := by omega
  have hbs : 0 + ms ≤ ms := by omega
  have J15 : ∀ (zw0 : Int64) (z1 : Int32) (b2 : Nat) (f : FT) (bc : Nat) (bs : Nat) (H : Heap) (locs : List Loc) (ls : Array Slot) (cs sl : Nat), wp_L_open_15 zw0 z1 b2 f bc bs K  → cs + bc ≤ mc → sl + bs ≤ ms → Fw G A f H → va_S A s.heap H locs → lv_has ls 4 [] → W p l e ({ frames := 8, cells := mc, slots := ms, locals := 133 } : Room) s m ([.ref a0, .int x1, .ref a2] : List Value).toArray below meth c H locs cs sl (vx_MQ below (va_Qi (fun r f9 => K r f9 : Int32 → FT → Prop) (FB G A) A) (FXC G A (fun _ _ => False)) ([.ref a0, .int x1, .ref a2] : List Value).toArray s mc ms A) (F0 m 15 ls [.long zw0, .int z1, .ref b2]) := by
    intro zw0 z1 b2 f bc bs H locs ls cs sl h hbc hbs hF hS hl
    unfold wp_L_open_15 at h
    obtain ⟨n_q_1, q_1, he_q_1, hi_q_1, h⟩ := h
    refine fw_last hx hb hK hF hS he_q_1 hi_q_1 dL_open_15 (fun H locs hF hS => ?_)
    obtain ⟨f_2, hf_f_2⟩ : ∃ z, z = fup f b2 (.inl (3, n_q_1, .inr (.inl (vp_updL q_1 (z1).toNatClampNeg zw0)))) := ⟨_, rfl⟩
    rw [← hf_f_2] at hF; have h := h f_2 hf_f_2
    refine lv_goto (tgt := 22) hx hb dL_open_16 (by decide) ?_
    refine lv_iconst (v := (0 : Int32)) hx hb dL_open_22 (by decide) ?_
    refine vx_ret ?_
    refine W.widen (k := mc) (n := ms) (by omega) (by omega) ?_
    exact W.iret (v := (0 : Int32)) hx hb hr (fun t ht hW => ⟨⟨(0 : Int32), f_2, rfl, h, by rw [ht]; exact hF, FK.moved hW.alike hK⟩, hS.F ht⟩) hS.2.2 dL_open_23
  have hl := lv_entry ([.ref a0, .int x1, .ref a2]) (n := 4) (Nat.le_of_ble_eq_true rfl)
  rw [lg_entry_eq]
  generalize (lg_sl ([.ref a0, .int x1, .ref a2]) ++ List.replicate (4 - (lg_sl ([.ref a0, .int x1, .ref a2])).length) Slot.unset).toArray = ls at hl ⊢
  have hl : lv_has ls 4 [(0, .ref a0), (1, .int x1), (2, .ref a2)] := hl
  unfold wp_L_open at h
  refine lv_aload_n hx hb dL_open_0 rfl (lv_at hl 2 rfl) ?_
  refine lv_iconst (v := (0 : Int32)) hx hb dL_open_1 (by decide) ?_
  refine lv_aload_n hx hb dL_open_2 rfl (lv_at hl 0 rfl) ?_
  refine lv_iload_n hx hb dL_open_3 rfl (lv_at hl 1 rfl) ?_
  obtain ⟨ga_5, gb_6, hga_ga_5, hgb_ga_5, h⟩ := h
  obtain ⟨⟨fs_r_3, hrc_r_3⟩, h⟩ := h
  refine fx_cVH_i (As := [.int x1]) (rest := [.int (0 : Int32), .ref a2]) ⟨hx, hb, hml, hown, hts⟩ (cc_X8_open l G hlt h) (⟨callB_of 1 hts ggL_open_X8_open rfl rfl rfl (hts (.initialized RX8) (by decide +kernel)) (hts (.methodLink RL 68 yX8_open) (by decide +kernel)) (by decide +kernel) ⟨Nat.le_of_ble_eq_true rfl, Nat.le_of_ble_eq_true rfl⟩, hts (.instanceMethod yX8_open) (by decide +kernel), hts (.selects RX8 yX8_open yX8_open) (by decide +kernel)⟩) rfl hrc_r_3 hK hZ hX hF hS hA rfl hl.1 rfl (Nat.le_of_ble_eq_true rfl) dL_open_4 ⟨by show _ ≤ mc; omega, by show _ ≤ ms; omega⟩ (fun E ce q9 f_4 H locs h hF hS hq1 hq2 hq3 => ?_) (fun r_3 f_4 H locs h hF hS => ?_)
  · obtain ⟨rfl, h⟩ := h
    refine vx_catch hown ([] : List ExceptionTableEntry) ⟨0, 16, 19, 13⟩ [] (by rw [htab]; rfl) (fun z hz => absurd hz List.not_mem_nil) (by decide) (by decide) (hts (.classLink RL 13 "java/lang/IllegalArgumentException") (by decide +kernel)) (va_Nw.use rfl (hX.2.1 (.castable "java/lang/IllegalArgumentException" "java/lang/IllegalArgumentException") (by decide +kernel))) hq1 hq2 hq3 ?_
    obtain ⟨cs_9, hcs⟩ : ∃ z, z = (0 + ga_5) := ⟨_, rfl⟩; obtain ⟨sl_10, hsl⟩ : ∃ z, z = (0 + gb_6) := ⟨_, rfl⟩
    have hbc : cs_9 + (mc - ga_5) ≤ mc := by omega
    have hbs : sl_10 + (ms - gb_6) ≤ ms := by omega
    refine W.widen (k := cs_9) (n := sl_10) (by omega) (by omega) ?_
    clear hcs hsl
    refine lv_astore_n (lv' := [(3, .ref q9), (0, .ref a0), (1, .int x1), (2, .ref a2)]) hx hb dL_open_19 rfl hl (by decide) rfl (fun ls hl => ?_)
    refine lv_iconst (v := (1 : Int32)) hx hb dL_open_20 (by decide) ?_
    refine vx_ret ?_
    refine W.widen (k := mc) (n := ms) (by omega) (by omega) ?_
    exact W.iret (v := (1 : Int32)) hx hb hr (fun t ht hW => ⟨⟨(1 : Int32), f_4, rfl, h, by rw [ht]; exact hF, FK.moved hW.alike hK⟩, hS.F ht⟩) hS.2.2 dL_open_21
  · obtain ⟨cs_11, hcs⟩ : ∃ z, z = (0 + ga_5) := ⟨_, rfl⟩; obtain ⟨sl_12, hsl⟩ : ∃ z, z = (0 + gb_6) := ⟨_, rfl⟩
    have hbc : cs_11 + (mc - ga_5) ≤ mc := by omega
    have hbs : sl_12 + (ms - gb_6) ≤ ms := by omega
    refine W.widen (k := cs_11) (n := sl_12) (by omega) (by omega) ?_
    clear hcs hsl
    obtain ⟨h1, h2⟩ := h
    refine lv_if_eq (tgt := 14) hx hb dL_open_7 (by decide) (fun c_13 => ?_) (fun c_13 => ?_)
    · have h := h1 c_13
      refine lv_lconst (v := (0 : Int64)) hx hb dL_open_14 (by decide) ?_
      exact J15 (0 : Int64) (0 : Int32) a2 f_4 (mc - ga_5) (ms - gb_6) _ _ _ _ _ h hbc hbs hF hS (lv_sub hl [] rfl)
    · have h := h2 c_13
      refine lv_lconst (v := (1 : Int64)) hx hb dL_open_10 (by decide) ?_
      refine lv_goto (tgt := 15) hx hb dL_open_11 (by decide) ?_
      exact J15 (1 : Int64) (0 : Int32) a2 f_4 (mc - ga_5) (ms - gb_6) _ _ _ _ _ h hbc hbs hF hS (lv_sub hl [] rfl)
theorem dL_close_0 : decode cL_close 0 = .ok (.aload_n 2, 1) := by decide +kernel
theorem dL_close_1 : decode cL_close 1 = .ok (.iconst 0, 1) := by decide +kernel
theorem dL_close_2 : decode cL_close 2 = .ok (.aload_n 0, 1) := by decide +kernel
theorem dL_close_3 : decode cL_close 3 = .ok (.iload_n 1, 1) := by decide +kernel
theorem dL_close_4 : decode cL_close 4 = .ok (.invokevirtual 71, 3) := by decide +kernel
theorem dL_close_7 : decode cL_close 7 = .ok (.ifCond .eq 7, 3) := by decide +kernel
theorem dL_close_10 : decode cL_close 10 = .ok (.lconst 1, 1) := by decide +kernel
theorem dL_close_11 : decode cL_close 11 = .ok (.goto 4, 3) := by decide +kernel
theorem dL_close_14 : decode cL_close 14 = .ok (.lconst 0, 1) := by decide +kernel
theorem dL_close_15 : decode cL_close 15 = .ok (.lastore, 1) := by decide +kernel
theorem dL_close_16 : decode cL_close 16 = .ok (.goto 6, 3) := by decide +kernel
theorem dL_close_19 : decode cL_close 19 = .ok (.astore_n 3, 1) := by decide +kernel
theorem dL_close_20 : decode cL_close 20 = .ok (.iconst 1, 1) := by decide +kernel
theorem dL_close_21 : decode cL_close 21 = .ok (.ireturn, 1) := by decide +kernel
theorem dL_close_22 : decode cL_close 22 = .ok (.iconst 0, 1) := by decide +kernel
theorem dL_close_23 : decode cL_close 23 = .ok (.ireturn, 1) := by decide +kernel
set_option maxRecDepth 20000 in
theorem ggL_close_X8_close : GoodIn wsL_close wsX8_close := goodIn_ca (goodIn_r _ [6, 7, 8, 9, 10, 5, 11, 12, 13, 14, 15, 16, 17, 18, 19, 20, 21, 22, 23, 24, 25, 26, 27, 28, 29, 30, 31, 32, 33] (by decide +kernel) (by decide +kernel)) (goodIn_sub (fun _ h => List.mem_cons_of_mem _ (List.mem_append_right _ h)) (by decide +kernel))
def wp_L_close_15  (zw0 : Int64) (z1 : Int32) (b2 : Nat) (f : FT) (bc bs : Nat) (K : Int32 → FT → Prop)  : Prop :=
  sJ f b2 z1 zw0 fun f_2 => K (0 : Int32) f_2
def wp_L_close (a0 : Nat) (x1 : Int32) (a2 : Nat) (f : FT) (mc ms : Nat) (K : Int32 → FT → Prop) : Prop :=
  ∃ ga_5 gb_6 : Nat, ga_5 ≤ mc ∧ gb_6 ≤ ms ∧ isO f a0 11 ∧ wp_X8_close a0 x1 f ga_5 gb_6 (fun r_3 f_4 => ((r_3 = (0 : Int32) → wp_L_close_15 (0 : Int64) (0 : Int32) a2 f_4 (mc - ga_5) (ms - gb_6) K) ∧
 (¬ (r_3 = (0 : Int32)) → wp_L_close_15 (1 : Int64) (0 : Int32) a2 f_4 (mc - ga_5) (ms - gb_6) K))) (fun E f_4 => (E = "java/lang/IllegalArgumentException" ∧ K (1 : Int32) f_4))
set_option maxHeartbeats 4000000 in
set_option maxRecDepth 100000 in
theorem cc_L_close (l : Launch) (G : GG) {f : FT} {sz : Nat} {a0 : Nat} {x1 : Int32} {a2 : Nat} {mc ms : Nat} {K : Int32 → FT → Prop} (hlt : l.stackTraces = false) (h : wp_L_close a0 x1 a2 f mc ms K) : vx_Met l yL_close wsL_close ({ frames := 8, cells := mc, slots := ms, locals := 133 } : Room) (FPL G [.ref a0, .int x1, .ref a2] f sz) (va_Qi (fun r f9 => K r f9 : Int32 → FT → Prop) (FB G (fA f sz)) (fA f sz)) (FXC G (fA f sz) (fun _ _ => False)) mc ms (fA f sz) := by
  refine vx_ofWH (hh := [(0, 16, 19, 13)]) (cc := cL_close) (maxL := 4) (ret := (some .int)) (by decide) rfl ?_
  intro p e s m args below meth c s₁ B hml hv
  obtain ⟨rfl, hsz, hF, hK, hZ, hX, hXN⟩ := hv
  have hx := B.exec
  have hb := B.bytes
  have hr := B.returns
  have hts := atoms_spec (ws := wsL_close) B.pre
  have hown : s.vm.findClass RL = some m.cls := findClass_of_methodNamed B.named
  have hlocks := B.notSynchronized
  have htab : c.exceptionTable.toList = tableOf [(0, 16, 19, 13)] := vx_table (x := yL_close) B (hts (.codeWith yL_close cL_close 4 (some .int) [(0, 16, 19, 13)]) (by decide +kernel))
  subst hsz
  have hF := hF.self (sz := s.heap.size)
  generalize hAe : fA f s.heap.size = A at hF hZ hX ⊢
  have hA : ∀ q : Nat, s.heap.size ≤ q → A q := fun q h => by rw [← hAe]; exact Or.inr h
  have hS : va_S A s.heap s.heap [] := va_S.rf
  have hbc : 0 + mc ≤ mc := by omega
  have hbs : 0 + ms ≤ ms := by omega
  have J15 : ∀ (zw0 : Int64) (z1 : Int32) (b2 : Nat) (f : FT) (bc : Nat) (bs : Nat) (H : Heap) (locs : List Loc) (ls : Array Slot) (cs sl : Nat), wp_L_close_15 zw0 z1 b2 f bc bs K  → cs + bc ≤ mc → sl + bs ≤ ms → Fw G A f H → va_S A s.heap H locs → lv_has ls 4 [] → W p l e ({ frames := 8, cells := mc, slots := ms, locals := 133 } : Room) s m ([.ref a0, .int x1, .ref a2] : List Value).toArray below meth c H locs cs sl (vx_MQ below (va_Qi (fun r f9 => K r f9 : Int32 → FT → Prop) (FB G A) A) (FXC G A (fun _ _ => False)) ([.ref a0, .int x1, .ref a2] : List Value).toArray s mc ms A) (F0 m 15 ls [.long zw0, .int z1, .ref b2]) := by
    intro zw0 z1 b2 f bc bs H locs ls cs sl h hbc hbs hF hS hl
    unfold wp_L_close_15 at h
    obtain ⟨n_q_1, q_1, he_q_1, hi_q_1, h⟩ := h
    refine fw_last hx hb hK hF hS he_q_1 hi_q_1 dL_close_15 (fun H locs hF hS => ?_)
    obtain ⟨f_2, hf_f_2⟩ : ∃ z, z = fup f b2 (.inl (3, n_q_1, .inr (.inl (vp_updL q_1 (z1).toNatClampNeg zw0)))) := ⟨_, rfl⟩
    rw [← hf_f_2] at hF; have h := h f_2 hf_f_2
    refine lv_goto (tgt := 22) hx hb dL_close_16 (by decide) ?_
    refine lv_iconst (v := (0 : Int32)) hx hb dL_close_22 (by decide) ?_
    refine vx_ret ?_
    refine W.widen (k := mc) (n := ms) (by omega) (by omega) ?_
    exact W.iret (v := (0 : Int32)) hx hb hr (fun t ht hW => ⟨⟨(0 : Int32), f_2, rfl, h, by rw [ht]; exact hF, FK.moved hW.alike hK⟩, hS.F ht⟩) hS.2.2 dL_close_23
  have hl := lv_entry ([.ref a0, .int x1, .ref a2]) (n := 4) (Nat.le_of_ble_eq_true rfl)
  rw [lg_entry_eq]
  generalize (lg_sl ([.ref a0, .int x1, .ref a2]) ++ List.replicate (4 - (lg_sl ([.ref a0, .int x1, .ref a2])).length) Slot.unset).toArray = ls at hl ⊢
  have hl : lv_has ls 4 [(0, .ref a0), (1, .int x1), (2, .ref a2)] := hl
  unfold wp_L_close at h
  refine lv_aload_n hx hb dL_close_0 rfl (lv_at hl 2 rfl) ?_
  refine lv_iconst (v := (0 : Int32)) hx hb dL_close_1 (by decide) ?_
  refine lv_aload_n hx hb dL_close_2 rfl (lv_at hl 0 rfl) ?_
  refine lv_iload_n hx hb dL_close_3 rfl (lv_at hl 1 rfl) ?_
  obtain ⟨ga_5, gb_6, hga_ga_5, hgb_ga_5, h⟩ := h
  obtain ⟨⟨fs_r_3, hrc_r_3⟩, h⟩ := h
  refine fx_cVH_i (As := [.int x1]) (rest := [.int (0 : Int32), .ref a2]) ⟨hx, hb, hml, hown, hts⟩ (cc_X8_close l G hlt h) (⟨callB_of 1 hts ggL_close_X8_close rfl rfl rfl (hts (.initialized RX8) (by decide +kernel)) (hts (.methodLink RL 71 yX8_close) (by decide +kernel)) (by decide +kernel) ⟨Nat.le_of_ble_eq_true rfl, Nat.le_of_ble_eq_true rfl⟩, hts (.instanceMethod yX8_close) (by decide +kernel), hts (.selects RX8 yX8_close yX8_close) (by decide +kernel)⟩) rfl hrc_r_3 hK hZ hX hF hS hA rfl hl.1 rfl (Nat.le_of_ble_eq_true rfl) dL_close_4 ⟨by show _ ≤ mc; omega, by show _ ≤ ms; omega⟩ (fun E ce q9 f_4 H locs h hF hS hq1 hq2 hq3 => ?_) (fun r_3 f_4 H locs h hF hS => ?_)
  · obtain ⟨rfl, h⟩ := h
    refine vx_catch hown ([] : List ExceptionTableEntry) ⟨0, 16, 19, 13⟩ [] (by rw [htab]; rfl) (fun z hz => absurd hz List.not_mem_nil) (by decide) (by decide) (hts (.classLink RL 13 "java/lang/IllegalArgumentException") (by decide +kernel)) (va_Nw.use rfl (hX.2.1 (.castable "java/lang/IllegalArgumentException" "java/lang/IllegalArgumentException") (by decide +kernel))) hq1 hq2 hq3 ?_
    obtain ⟨cs_9, hcs⟩ : ∃ z, z = (0 + ga_5) := ⟨_, rfl⟩; obtain ⟨sl_10, hsl⟩ : ∃ z, z = (0 + gb_6) := ⟨_, rfl⟩
    have hbc : cs_9 + (mc - ga_5) ≤ mc := by omega
    have hbs : sl_10 + (ms - gb_6) ≤ ms := by omega
    refine W.widen (k := cs_9) (n := sl_10) (by omega) (by omega) ?_
    clear hcs hsl
    refine lv_astore_n (lv' := [(3, .ref q9), (0, .ref a0), (1, .int x1), (2, .ref a2)]) hx hb dL_close_19 rfl hl (by decide) rfl (fun ls hl => ?_)
    refine lv_iconst (v := (1 : Int32)) hx hb dL_close_20 (by decide) ?_
    refine vx_ret ?_
    refine W.widen (k := mc) (n := ms) (by omega) (by omega) ?_
    exact W.iret (v := (1 : Int32)) hx hb hr (fun t ht hW => ⟨⟨(1 : Int32), f_4, rfl, h, by rw [ht]; exact hF, FK.moved hW.alike hK⟩, hS.F ht⟩) hS.2.2 dL_close_21
  · obtain ⟨cs_11, hcs⟩ : ∃ z, z = (0 + ga_5) := ⟨_, rfl⟩; obtain ⟨sl_12, hsl⟩ : ∃ z, z = (0 + gb_6) := ⟨_, rfl⟩
    have hbc : cs_11 + (mc - ga_5) ≤ mc := by omega
    have hbs : sl_12 + (ms - gb_6) ≤ ms := by omega
    refine W.widen (k := cs_11) (n := sl_12) (by omega) (by omega) ?_
    clear hcs hsl
    obtain ⟨h1, h2⟩ := h
    refine lv_if_eq (tgt := 14) hx hb dL_close_7 (by decide) (fun c_13 => ?_) (fun c_13 => ?_)
    · have h := h1 c_13
      refine lv_lconst (v := (0 : Int64)) hx hb dL_close_14 (by decide) ?_
      exact J15 (0 : Int64) (0 : Int32) a2 f_4 (mc - ga_5) (ms - gb_6) _ _ _ _ _ h hbc hbs hF hS (lv_sub hl [] rfl)
    · have h := h2 c_13
      refine lv_lconst (v := (1 : Int64)) hx hb dL_close_10 (by decide) ?_
      refine lv_goto (tgt := 15) hx hb dL_close_11 (by decide) ?_
      exact J15 (1 : Int64) (0 : Int32) a2 f_4 (mc - ga_5) (ms - gb_6) _ _ _ _ _ h hbc hbs hF hS (lv_sub hl [] rfl)
theorem dL_advance_0 : decode cL_advance 0 = .ok (.aload_n 2, 1) := by decide +kernel
theorem dL_advance_1 : decode cL_advance 1 = .ok (.iconst 0, 1) := by decide +kernel
theorem dL_advance_2 : decode cL_advance 2 = .ok (.aload_n 0, 1) := by decide +kernel
theorem dL_advance_3 : decode cL_advance 3 = .ok (.iload_n 1, 1) := by decide +kernel
theorem dL_advance_4 : decode cL_advance 4 = .ok (.invokevirtual 74, 3) := by decide +kernel
theorem dL_advance_7 : decode cL_advance 7 = .ok (.ifCond .eq 7, 3) := by decide +kernel
theorem dL_advance_10 : decode cL_advance 10 = .ok (.lconst 1, 1) := by decide +kernel
theorem dL_advance_11 : decode cL_advance 11 = .ok (.goto 4, 3) := by decide +kernel
theorem dL_advance_14 : decode cL_advance 14 = .ok (.lconst 0, 1) := by decide +kernel
theorem dL_advance_15 : decode cL_advance 15 = .ok (.lastore, 1) := by decide +kernel
theorem dL_advance_16 : decode cL_advance 16 = .ok (.goto 12, 3) := by decide +kernel
theorem dL_advance_19 : decode cL_advance 19 = .ok (.astore_n 3, 1) := by decide +kernel
theorem dL_advance_20 : decode cL_advance 20 = .ok (.iconst 1, 1) := by decide +kernel
theorem dL_advance_21 : decode cL_advance 21 = .ok (.ireturn, 1) := by decide +kernel
theorem dL_advance_22 : decode cL_advance 22 = .ok (.astore_n 3, 1) := by decide +kernel
theorem dL_advance_23 : decode cL_advance 23 = .ok (.iconst 2, 1) := by decide +kernel
theorem dL_advance_24 : decode cL_advance 24 = .ok (.ireturn, 1) := by decide +kernel
theorem dL_advance_25 : decode cL_advance 25 = .ok (.astore_n 3, 1) := by decide +kernel
theorem dL_advance_26 : decode cL_advance 26 = .ok (.iconst 3, 1) := by decide +kernel
theorem dL_advance_27 : decode cL_advance 27 = .ok (.ireturn, 1) := by decide +kernel
theorem dL_advance_28 : decode cL_advance 28 = .ok (.iconst 0, 1) := by decide +kernel
theorem dL_advance_29 : decode cL_advance 29 = .ok (.ireturn, 1) := by decide +kernel
set_option maxRecDepth 20000 in
theorem ggL_advance_X8_advance : GoodIn wsL_advance wsX8_advance := goodIn_ca (goodIn_ca (goodIn_ca (goodIn_r _ [8, 9, 10, 11, 12, 13, 7, 14, 15, 16, 17, 18, 19, 20, 21, 22, 23, 24, 25, 26, 27, 28, 29, 30, 31, 32, 33, 34, 35, 36, 37, 38, 39, 40, 41, 42, 43, 44, 45, 46, 47, 48, 49, 50, 51, 52, 53, 54, 55, 56, 57, 58, 59, 60, 61, 62, 63, 64, 65, 66, 67, 68, 69, 70, 71, 72, 73] (by decide +kernel) (by decide +kernel)) (goodIn_sub (fun _ h => List.mem_cons_of_mem _ (List.mem_append_left _ (List.mem_append_left _ (List.mem_append_right _ h)))) (by decide +kernel))) (goodIn_sub (fun _ h => List.mem_cons_of_mem _ (List.mem_append_left _ (List.mem_append_right _ h))) (by decide +kernel))) (goodIn_sub (fun _ h => List.mem_cons_of_mem _ (List.mem_append_right _ h)) (by decide +kernel))
def wp_L_advance_15  (zw0 : Int64) (z1 : Int32) (b2 : Nat) (f : FT) (bc bs : Nat) (K : Int32 → FT → Prop)  : Prop :=
  sJ f b2 z1 zw0 fun f_2 => K (0 : Int32) f_2
def wp_L_advance (a0 : Nat) (x1 : Int32) (a2 : Nat) (f : FT) (mc ms : Nat) (K : Int32 → FT → Prop) : Prop :=
  ∃ ga_5 gb_6 : Nat, ga_5 ≤ mc ∧ gb_6 ≤ ms ∧ isO f a0 11 ∧ wp_X8_advance a0 x1 f ga_5 gb_6 (fun r_3 f_4 => ((r_3 = (0 : Int32) → wp_L_advance_15 (0 : Int64) (0 : Int32) a2 f_4 (mc - ga_5) (ms - gb_6) K) ∧
 (¬ (r_3 = (0 : Int32)) → wp_L_advance_15 (1 : Int64) (0 : Int32) a2 f_4 (mc - ga_5) (ms - gb_6) K))) (fun E f_4 => (E = "java/lang/IllegalArgumentException" ∧ K (1 : Int32) f_4) ∨ (E = "java/lang/IllegalStateException" ∧ K (2 : Int32) f_4) ∨ (E = "java/util/NoSuchElementException" ∧ K (3 : Int32) f_4))
set_option maxHeartbeats 4000000 in
set_option maxRecDepth 100000 in
theorem cc_L_advance (l : Launch) (G : GG) {f : FT} {sz : Nat} {a0 : Nat} {x1 : Int32} {a2 : Nat} {mc ms : Nat} {K : Int32 → FT → Prop} (hlt : l.stackTraces = false) (h : wp_L_advance a0 x1 a2 f mc ms K) : vx_Met l yL_advance wsL_advance ({ frames := 10, cells := mc, slots := ms, locals := 177 } : Room) (FPL G [.ref a0, .int x1, .ref a2] f sz) (va_Qi (fun r f9 => K r f9 : Int32 → FT → Prop) (FB G (fA f sz)) (fA f sz)) (FXC G (fA f sz) (fun _ _ => False)) mc ms (fA f sz) := by
  refine vx_ofWH (hh := [(0, 16, 19, 13), (0, 16, 22, 15), (0, 16, 25, 40)]) (cc := cL_advance) (maxL := 4) (ret := (some .int)) (by decide) rfl ?_
  intro p e s m args below meth c s₁ B hml hv
  obtain ⟨rfl, hsz, hF, hK, hZ, hX, hXN⟩ := hv
  have hx := B.exec
  have hb := B.bytes
  have hr := B.returns
  have hts := atoms_spec (ws := wsL_advance) B.pre
  have hown : s.vm.findClass RL = some m.cls := findClass_of_methodNamed B.named
  have hlocks := B.notSynchronized
  have htab : c.exceptionTable.toList = tableOf [(0, 16, 19, 13), (0, 16, 22, 15), (0, 16, 25, 40)] := vx_table (x := yL_advance) B (hts (.codeWith yL_advance cL_advance 4 (some .int) [(0, 16, 19, 13), (0, 16, 22, 15), (0, 16, 25, 40)]) (by decide +kernel))
  subst hsz
  have hF := hF.self (sz := s.heap.size)
  generalize hAe : fA f s.heap.size = A at hF hZ hX ⊢
  have hA : ∀ q : Nat, s.heap.size ≤ q → A q := fun q h => by rw [← hAe]; exact Or.inr h
  have hS : va_S A s.heap s.heap [] := va_S.rf
  have hbc : 0 + mc ≤ mc := by omega
  have hbs : 0 + ms ≤ ms := by omega
  have J15 : ∀ (zw0 : Int64) (z1 : Int32) (b2 : Nat) (f : FT) (bc : Nat) (bs : Nat) (H : Heap) (locs : List Loc) (ls : Array Slot) (cs sl : Nat), wp_L_advance_15 zw0 z1 b2 f bc bs K  → cs + bc ≤ mc → sl + bs ≤ ms → Fw G A f H → va_S A s.heap H locs → lv_has ls 4 [] → W p l e ({ frames := 10, cells := mc, slots := ms, locals := 177 } : Room) s m ([.ref a0, .int x1, .ref a2] : List Value).toArray below meth c H locs cs sl (vx_MQ below (va_Qi (fun r f9 => K r f9 : Int32 → FT → Prop) (FB G A) A) (FXC G A (fun _ _ => False)) ([.ref a0, .int x1, .ref a2] : List Value).toArray s mc ms A) (F0 m 15 ls [.long zw0, .int z1, .ref b2]) := by
    intro zw0 z1 b2 f bc bs H locs ls cs sl h hbc hbs hF hS hl
    unfold wp_L_advance_15 at h
    obtain ⟨n_q_1, q_1, he_q_1, hi_q_1, h⟩ := h
    refine fw_last hx hb hK hF hS he_q_1 hi_q_1 dL_advance_15 (fun H locs hF hS => ?_)
    obtain ⟨f_2, hf_f_2⟩ : ∃ z, z = fup f b2 (.inl (3, n_q_1, .inr (.inl (vp_updL q_1 (z1).toNatClampNeg zw0)))) := ⟨_, rfl⟩
    rw [← hf_f_2] at hF; have h := h f_2 hf_f_2
    refine lv_goto (tgt := 28) hx hb dL_advance_16 (by decide) ?_
    refine lv_iconst (v := (0 : Int32)) hx hb dL_advance_28 (by decide) ?_
    refine vx_ret ?_
    refine W.widen (k := mc) (n := ms) (by omega) (by omega) ?_
    exact W.iret (v := (0 : Int32)) hx hb hr (fun t ht hW => ⟨⟨(0 : Int32), f_2, rfl, h, by rw [ht]; exact hF, FK.moved hW.alike hK⟩, hS.F ht⟩) hS.2.2 dL_advance_29
  have hl := lv_entry ([.ref a0, .int x1, .ref a2]) (n := 4) (Nat.le_of_ble_eq_true rfl)
  rw [lg_entry_eq]
  generalize (lg_sl ([.ref a0, .int x1, .ref a2]) ++ List.replicate (4 - (lg_sl ([.ref a0, .int x1, .ref a2])).length) Slot.unset).toArray = ls at hl ⊢
  have hl : lv_has ls 4 [(0, .ref a0), (1, .int x1), (2, .ref a2)] := hl
  unfold wp_L_advance at h
  refine lv_aload_n hx hb dL_advance_0 rfl (lv_at hl 2 rfl) ?_
  refine lv_iconst (v := (0 : Int32)) hx hb dL_advance_1 (by decide) ?_
  refine lv_aload_n hx hb dL_advance_2 rfl (lv_at hl 0 rfl) ?_
  refine lv_iload_n hx hb dL_advance_3 rfl (lv_at hl 1 rfl) ?_
  obtain ⟨ga_5, gb_6, hga_ga_5, hgb_ga_5, h⟩ := h
  obtain ⟨⟨fs_r_3, hrc_r_3⟩, h⟩ := h
  refine fx_cVH_i (As := [.int x1]) (rest := [.int (0 : Int32), .ref a2]) ⟨hx, hb, hml, hown, hts⟩ (cc_X8_advance l G hlt h) (⟨callB_of 1 hts ggL_advance_X8_advance rfl rfl rfl (hts (.initialized RX8) (by decide +kernel)) (hts (.methodLink RL 74 yX8_advance) (by decide +kernel)) (by decide +kernel) ⟨Nat.le_of_ble_eq_true rfl, Nat.le_of_ble_eq_true rfl⟩, hts (.instanceMethod yX8_advance) (by decide +kernel), hts (.selects RX8 yX8_advance yX8_advance) (by decide +kernel)⟩) rfl hrc_r_3 hK hZ hX hF hS hA rfl hl.1 rfl (Nat.le_of_ble_eq_true rfl) dL_advance_4 ⟨by show _ ≤ mc; omega, by show _ ≤ ms; omega⟩ (fun E ce q9 f_4 H locs h hF hS hq1 hq2 hq3 => ?_) (fun r_3 f_4 H locs h hF hS => ?_)
  · rcases h with ⟨rfl, h⟩ | ⟨rfl, h⟩ | ⟨rfl, h⟩
    · refine vx_catch hown ([] : List ExceptionTableEntry) ⟨0, 16, 19, 13⟩ [⟨0, 16, 22, 15⟩, ⟨0, 16, 25, 40⟩] (by rw [htab]; rfl) (fun z hz => absurd hz List.not_mem_nil) (by decide) (by decide) (hts (.classLink RL 13 "java/lang/IllegalArgumentException") (by decide +kernel)) (va_Nw.use rfl (hX.2.1 (.castable "java/lang/IllegalArgumentException" "java/lang/IllegalArgumentException") (by decide +kernel))) hq1 hq2 hq3 ?_
      obtain ⟨cs_9, hcs⟩ : ∃ z, z = (0 + ga_5) := ⟨_, rfl⟩; obtain ⟨sl_10, hsl⟩ : ∃ z, z = (0 + gb_6) := ⟨_, rfl⟩
      have hbc : cs_9 + (mc - ga_5) ≤ mc := by omega
      have hbs : sl_10 + (ms - gb_6) ≤ ms := by omega
      refine W.widen (k := cs_9) (n := sl_10) (by omega) (by omega) ?_
      clear hcs hsl
      refine lv_astore_n (lv' := [(3, .ref q9), (0, .ref a0), (1, .int x1), (2, .ref a2)]) hx hb dL_advance_19 rfl hl (by decide) rfl (fun ls hl => ?_)
      refine lv_iconst (v := (1 : Int32)) hx hb dL_advance_20 (by decide) ?_
      refine vx_ret ?_
      refine W.widen (k := mc) (n := ms) (by omega) (by omega) ?_
      exact W.iret (v := (1 : Int32)) hx hb hr (fun t ht hW => ⟨⟨(1 : Int32), f_4, rfl, h, by rw [ht]; exact hF, FK.moved hW.alike hK⟩, hS.F ht⟩) hS.2.2 dL_advance_21
    · refine vx_catch hown ([⟨0, 16, 19, 13⟩] : List ExceptionTableEntry) ⟨0, 16, 22, 15⟩ [⟨0, 16, 25, 40⟩] (by rw [htab]; rfl) (List.forall_mem_cons.mpr ⟨Or.inr ⟨by decide, "java/lang/IllegalArgumentException", hts (.classLink RL 13 "java/lang/IllegalArgumentException") (by decide +kernel), hXN ("java/lang/IllegalStateException", "java/lang/IllegalArgumentException") (by decide +kernel)⟩, fun z hz => absurd hz List.not_mem_nil⟩) (by decide) (by decide) (hts (.classLink RL 15 "java/lang/IllegalStateException") (by decide +kernel)) (va_Nw.use rfl (hX.2.1 (.castable "java/lang/IllegalStateException" "java/lang/IllegalStateException") (by decide +kernel))) hq1 hq2 hq3 ?_
      obtain ⟨cs_11, hcs⟩ : ∃ z, z = (0 + ga_5) := ⟨_, rfl⟩; obtain ⟨sl_12, hsl⟩ : ∃ z, z = (0 + gb_6) := ⟨_, rfl⟩
      have hbc : cs_11 + (mc - ga_5) ≤ mc := by omega
      have hbs : sl_12 + (ms - gb_6) ≤ ms := by omega
      refine W.widen (k := cs_11) (n := sl_12) (by omega) (by omega) ?_
      clear hcs hsl
      refine lv_astore_n (lv' := [(3, .ref q9), (0, .ref a0), (1, .int x1), (2, .ref a2)]) hx hb dL_advance_22 rfl hl (by decide) rfl (fun ls hl => ?_)
      refine lv_iconst (v := (2 : Int32)) hx hb dL_advance_23 (by decide) ?_
      refine vx_ret ?_
      refine W.widen (k := mc) (n := ms) (by omega) (by omega) ?_
      exact W.iret (v := (2 : Int32)) hx hb hr (fun t ht hW => ⟨⟨(2 : Int32), f_4, rfl, h, by rw [ht]; exact hF, FK.moved hW.alike hK⟩, hS.F ht⟩) hS.2.2 dL_advance_24
    · refine vx_catch hown ([⟨0, 16, 19, 13⟩, ⟨0, 16, 22, 15⟩] : List ExceptionTableEntry) ⟨0, 16, 25, 40⟩ [] (by rw [htab]; rfl) (List.forall_mem_cons.mpr ⟨Or.inr ⟨by decide, "java/lang/IllegalArgumentException", hts (.classLink RL 13 "java/lang/IllegalArgumentException") (by decide +kernel), hXN ("java/util/NoSuchElementException", "java/lang/IllegalArgumentException") (by decide +kernel)⟩, List.forall_mem_cons.mpr ⟨Or.inr ⟨by decide, "java/lang/IllegalStateException", hts (.classLink RL 15 "java/lang/IllegalStateException") (by decide +kernel), hXN ("java/util/NoSuchElementException", "java/lang/IllegalStateException") (by decide +kernel)⟩, fun z hz => absurd hz List.not_mem_nil⟩⟩) (by decide) (by decide) (hts (.classLink RL 40 "java/util/NoSuchElementException") (by decide +kernel)) (va_Nw.use rfl (hX.2.1 (.castable "java/util/NoSuchElementException" "java/util/NoSuchElementException") (by decide +kernel))) hq1 hq2 hq3 ?_
      obtain ⟨cs_13, hcs⟩ : ∃ z, z = (0 + ga_5) := ⟨_, rfl⟩; obtain ⟨sl_14, hsl⟩ : ∃ z, z = (0 + gb_6) := ⟨_, rfl⟩
      have hbc : cs_13 + (mc - ga_5) ≤ mc := by omega
      have hbs : sl_14 + (ms - gb_6) ≤ ms := by omega
      refine W.widen (k := cs_13) (n := sl_14) (by omega) (by omega) ?_
      clear hcs hsl
      refine lv_astore_n (lv' := [(3, .ref q9), (0, .ref a0), (1, .int x1), (2, .ref a2)]) hx hb dL_advance_25 rfl hl (by decide) rfl (fun ls hl => ?_)
      refine lv_iconst (v := (3 : Int32)) hx hb dL_advance_26 (by decide) ?_
      refine vx_ret ?_
      refine W.widen (k := mc) (n := ms) (by omega) (by omega) ?_
      exact W.iret (v := (3 : Int32)) hx hb hr (fun t ht hW => ⟨⟨(3 : Int32), f_4, rfl, h, by rw [ht]; exact hF, FK.moved hW.alike hK⟩, hS.F ht⟩) hS.2.2 dL_advance_27
  · obtain ⟨cs_15, hcs⟩ : ∃ z, z = (0 + ga_5) := ⟨_, rfl⟩; obtain ⟨sl_16, hsl⟩ : ∃ z, z = (0 + gb_6) := ⟨_, rfl⟩
    have hbc : cs_15 + (mc - ga_5) ≤ mc := by omega
    have hbs : sl_16 + (ms - gb_6) ≤ ms := by omega
    refine W.widen (k := cs_15) (n := sl_16) (by omega) (by omega) ?_
    clear hcs hsl
    obtain ⟨h1, h2⟩ := h
    refine lv_if_eq (tgt := 14) hx hb dL_advance_7 (by decide) (fun c_17 => ?_) (fun c_17 => ?_)
    · have h := h1 c_17
      refine lv_lconst (v := (0 : Int64)) hx hb dL_advance_14 (by decide) ?_
      exact J15 (0 : Int64) (0 : Int32) a2 f_4 (mc - ga_5) (ms - gb_6) _ _ _ _ _ h hbc hbs hF hS (lv_sub hl [] rfl)
    · have h := h2 c_17
      refine lv_lconst (v := (1 : Int64)) hx hb dL_advance_10 (by decide) ?_
      refine lv_goto (tgt := 15) hx hb dL_advance_11 (by decide) ?_
      exact J15 (1 : Int64) (0 : Int32) a2 f_4 (mc - ga_5) (ms - gb_6) _ _ _ _ _ h hbc hbs hF hS (lv_sub hl [] rfl)
theorem dL_retreat_0 : decode cL_retreat 0 = .ok (.aload_n 2, 1) := by decide +kernel
theorem dL_retreat_1 : decode cL_retreat 1 = .ok (.iconst 0, 1) := by decide +kernel
theorem dL_retreat_2 : decode cL_retreat 2 = .ok (.aload_n 0, 1) := by decide +kernel
theorem dL_retreat_3 : decode cL_retreat 3 = .ok (.iload_n 1, 1) := by decide +kernel
theorem dL_retreat_4 : decode cL_retreat 4 = .ok (.invokevirtual 77, 3) := by decide +kernel
theorem dL_retreat_7 : decode cL_retreat 7 = .ok (.i2l, 1) := by decide +kernel
theorem dL_retreat_8 : decode cL_retreat 8 = .ok (.lastore, 1) := by decide +kernel
theorem dL_retreat_9 : decode cL_retreat 9 = .ok (.goto 12, 3) := by decide +kernel
theorem dL_retreat_12 : decode cL_retreat 12 = .ok (.astore_n 3, 1) := by decide +kernel
theorem dL_retreat_13 : decode cL_retreat 13 = .ok (.iconst 1, 1) := by decide +kernel
theorem dL_retreat_14 : decode cL_retreat 14 = .ok (.ireturn, 1) := by decide +kernel
theorem dL_retreat_15 : decode cL_retreat 15 = .ok (.astore_n 3, 1) := by decide +kernel
theorem dL_retreat_16 : decode cL_retreat 16 = .ok (.iconst 2, 1) := by decide +kernel
theorem dL_retreat_17 : decode cL_retreat 17 = .ok (.ireturn, 1) := by decide +kernel
theorem dL_retreat_18 : decode cL_retreat 18 = .ok (.astore_n 3, 1) := by decide +kernel
theorem dL_retreat_19 : decode cL_retreat 19 = .ok (.iconst 3, 1) := by decide +kernel
theorem dL_retreat_20 : decode cL_retreat 20 = .ok (.ireturn, 1) := by decide +kernel
theorem dL_retreat_21 : decode cL_retreat 21 = .ok (.iconst 0, 1) := by decide +kernel
theorem dL_retreat_22 : decode cL_retreat 22 = .ok (.ireturn, 1) := by decide +kernel
set_option maxRecDepth 20000 in
theorem ggL_retreat_X8_retreat : GoodIn wsL_retreat wsX8_retreat := goodIn_ca (goodIn_ca (goodIn_ca (goodIn_r _ [8, 9, 10, 11, 12, 13, 14, 15, 7, 16, 17, 18, 19, 20, 21, 22, 23, 24, 25, 26, 27, 28, 29, 30, 31, 32, 33, 34, 35, 36, 37, 38, 39, 40, 41, 42, 43, 44, 45, 46, 47, 48, 49, 50, 51, 52, 53, 54, 55, 56, 57, 58, 59, 60, 61] (by decide +kernel) (by decide +kernel)) (goodIn_sub (fun _ h => List.mem_cons_of_mem _ (List.mem_append_left _ (List.mem_append_left _ (List.mem_append_right _ h)))) (by decide +kernel))) (goodIn_sub (fun _ h => List.mem_cons_of_mem _ (List.mem_append_left _ (List.mem_append_right _ h))) (by decide +kernel))) (goodIn_sub (fun _ h => List.mem_cons_of_mem _ (List.mem_append_right _ h)) (by decide +kernel))
def wp_L_retreat (a0 : Nat) (x1 : Int32) (a2 : Nat) (f : FT) (mc ms : Nat) (K : Int32 → FT → Prop) : Prop :=
  ∃ ga_3 gb_4 : Nat, ga_3 ≤ mc ∧ gb_4 ≤ ms ∧ isO f a0 11 ∧ wp_X8_retreat a0 x1 f ga_3 gb_4 (fun r_1 f_2 => sJ f_2 a2 (0 : Int32) (Int32.toInt64 r_1) fun f_16 => K (0 : Int32) f_16) (fun E f_2 => (E = "java/lang/IllegalArgumentException" ∧ K (1 : Int32) f_2) ∨ (E = "java/lang/IllegalStateException" ∧ K (2 : Int32) f_2) ∨ (E = "java/util/NoSuchElementException" ∧ K (3 : Int32) f_2))
set_option maxHeartbeats 4000000 in
set_option maxRecDepth 100000 in
theorem cc_L_retreat (l : Launch) (G : GG) {f : FT} {sz : Nat} {a0 : Nat} {x1 : Int32} {a2 : Nat} {mc ms : Nat} {K : Int32 → FT → Prop} (hlt : l.stackTraces = false) (h : wp_L_retreat a0 x1 a2 f mc ms K) : vx_Met l yL_retreat wsL_retreat ({ frames := 9, cells := mc, slots := ms, locals := 155 } : Room) (FPL G [.ref a0, .int x1, .ref a2] f sz) (va_Qi (fun r f9 => K r f9 : Int32 → FT → Prop) (FB G (fA f sz)) (fA f sz)) (FXC G (fA f sz) (fun _ _ => False)) mc ms (fA f sz) := by
  refine vx_ofWH (hh := [(0, 9, 12, 13), (0, 9, 15, 15), (0, 9, 18, 40)]) (cc := cL_retreat) (maxL := 4) (ret := (some .int)) (by decide) rfl ?_
  intro p e s m args below meth c s₁ B hml hv
  obtain ⟨rfl, hsz, hF, hK, hZ, hX, hXN⟩ := hv
  have hx := B.exec
  have hb := B.bytes
  have hr := B.returns
  have hts := atoms_spec (ws := wsL_retreat) B.pre
  have hown : s.vm.findClass RL = some m.cls := findClass_of_methodNamed B.named
  have hlocks := B.notSynchronized
  have htab : c.exceptionTable.toList = tableOf [(0, 9, 12, 13), (0, 9, 15, 15), (0, 9, 18, 40)] := vx_table (x := yL_retreat) B (hts (.codeWith yL_retreat cL_retreat 4 (some .int) [(0, 9, 12, 13), (0, 9, 15, 15), (0, 9, 18, 40)]) (by decide +kernel))
  subst hsz
  have hF := hF.self (sz := s.heap.size)
  generalize hAe : fA f s.heap.size = A at hF hZ hX ⊢
  have hA : ∀ q : Nat, s.heap.size ≤ q → A q := fun q h => by rw [← hAe]; exact Or.inr h
  have hS : va_S A s.heap s.heap [] := va_S.rf
  have hbc : 0 + mc ≤ mc := by omega
  have hbs : 0 + ms ≤ ms := by omega
  have hl := lv_entry ([.ref a0, .int x1, .ref a2]) (n := 4) (Nat.le_of_ble_eq_true rfl)
  rw [lg_entry_eq]
  generalize (lg_sl ([.ref a0, .int x1, .ref a2]) ++ List.replicate (4 - (lg_sl ([.ref a0, .int x1, .ref a2])).length) Slot.unset).toArray = ls at hl ⊢
  have hl : lv_has ls 4 [(0, .ref a0), (1, .int x1), (2, .ref a2)] := hl
  unfold wp_L_retreat at h
  refine lv_aload_n hx hb dL_retreat_0 rfl (lv_at hl 2 rfl) ?_
  refine lv_iconst (v := (0 : Int32)) hx hb dL_retreat_1 (by decide) ?_
  refine lv_aload_n hx hb dL_retreat_2 rfl (lv_at hl 0 rfl) ?_
  refine lv_iload_n hx hb dL_retreat_3 rfl (lv_at hl 1 rfl) ?_
  obtain ⟨ga_3, gb_4, hga_ga_3, hgb_ga_3, h⟩ := h
  obtain ⟨⟨fs_r_1, hrc_r_1⟩, h⟩ := h
  refine fx_cVH_i (As := [.int x1]) (rest := [.int (0 : Int32), .ref a2]) ⟨hx, hb, hml, hown, hts⟩ (cc_X8_retreat l G hlt h) (⟨callB_of 1 hts ggL_retreat_X8_retreat rfl rfl rfl (hts (.initialized RX8) (by decide +kernel)) (hts (.methodLink RL 77 yX8_retreat) (by decide +kernel)) (by decide +kernel) ⟨Nat.le_of_ble_eq_true rfl, Nat.le_of_ble_eq_true rfl⟩, hts (.instanceMethod yX8_retreat) (by decide +kernel), hts (.selects RX8 yX8_retreat yX8_retreat) (by decide +kernel)⟩) rfl hrc_r_1 hK hZ hX hF hS hA rfl hl.1 rfl (Nat.le_of_ble_eq_true rfl) dL_retreat_4 ⟨by show _ ≤ mc; omega, by show _ ≤ ms; omega⟩ (fun E ce q9 f_2 H locs h hF hS hq1 hq2 hq3 => ?_) (fun r_1 f_2 H locs h hF hS => ?_)
  · rcases h with ⟨rfl, h⟩ | ⟨rfl, h⟩ | ⟨rfl, h⟩
    · refine vx_catch hown ([] : List ExceptionTableEntry) ⟨0, 9, 12, 13⟩ [⟨0, 9, 15, 15⟩, ⟨0, 9, 18, 40⟩] (by rw [htab]; rfl) (fun z hz => absurd hz List.not_mem_nil) (by decide) (by decide) (hts (.classLink RL 13 "java/lang/IllegalArgumentException") (by decide +kernel)) (va_Nw.use rfl (hX.2.1 (.castable "java/lang/IllegalArgumentException" "java/lang/IllegalArgumentException") (by decide +kernel))) hq1 hq2 hq3 ?_
      obtain ⟨cs_7, hcs⟩ : ∃ z, z = (0 + ga_3) := ⟨_, rfl⟩; obtain ⟨sl_8, hsl⟩ : ∃ z, z = (0 + gb_4) := ⟨_, rfl⟩
      have hbc : cs_7 + (mc - ga_3) ≤ mc := by omega
      have hbs : sl_8 + (ms - gb_4) ≤ ms := by omega
      refine W.widen (k := cs_7) (n := sl_8) (by omega) (by omega) ?_
      clear hcs hsl
      refine lv_astore_n (lv' := [(3, .ref q9), (0, .ref a0), (1, .int x1), (2, .ref a2)]) hx hb dL_retreat_12 rfl hl (by decide) rfl (fun ls hl => ?_)
      refine lv_iconst (v := (1 : Int32)) hx hb dL_retreat_13 (by decide) ?_
      refine vx_ret ?_
      refine W.widen (k := mc) (n := ms) (by omega) (by omega) ?_
      exact W.iret (v := (1 : Int32)) hx hb hr (fun t ht hW => ⟨⟨(1 : Int32), f_2, rfl, h, by rw [ht]; exact hF, FK.moved hW.alike hK⟩, hS.F ht⟩) hS.2.2 dL_retreat_14
    · refine vx_catch hown ([⟨0, 9, 12, 13⟩] : List ExceptionTableEntry) ⟨0, 9, 15, 15⟩ [⟨0, 9, 18, 40⟩] (by rw [htab]; rfl) (List.forall_mem_cons.mpr ⟨Or.inr ⟨by decide, "java/lang/IllegalArgumentException", hts (.classLink RL 13 "java/lang/IllegalArgumentException") (by decide +kernel), hXN ("java/lang/IllegalStateException", "java/lang/IllegalArgumentException") (by decide +kernel)⟩, fun z hz => absurd hz List.not_mem_nil⟩) (by decide) (by decide) (hts (.classLink RL 15 "java/lang/IllegalStateException") (by decide +kernel)) (va_Nw.use rfl (hX.2.1 (.castable "java/lang/IllegalStateException" "java/lang/IllegalStateException") (by decide +kernel))) hq1 hq2 hq3 ?_
      obtain ⟨cs_9, hcs⟩ : ∃ z, z = (0 + ga_3) := ⟨_, rfl⟩; obtain ⟨sl_10, hsl⟩ : ∃ z, z = (0 + gb_4) := ⟨_, rfl⟩
      have hbc : cs_9 + (mc - ga_3) ≤ mc := by omega
      have hbs : sl_10 + (ms - gb_4) ≤ ms := by omega
      refine W.widen (k := cs_9) (n := sl_10) (by omega) (by omega) ?_
      clear hcs hsl
      refine lv_astore_n (lv' := [(3, .ref q9), (0, .ref a0), (1, .int x1), (2, .ref a2)]) hx hb dL_retreat_15 rfl hl (by decide) rfl (fun ls hl => ?_)
      refine lv_iconst (v := (2 : Int32)) hx hb dL_retreat_16 (by decide) ?_
      refine vx_ret ?_
      refine W.widen (k := mc) (n := ms) (by omega) (by omega) ?_
      exact W.iret (v := (2 : Int32)) hx hb hr (fun t ht hW => ⟨⟨(2 : Int32), f_2, rfl, h, by rw [ht]; exact hF, FK.moved hW.alike hK⟩, hS.F ht⟩) hS.2.2 dL_retreat_17
    · refine vx_catch hown ([⟨0, 9, 12, 13⟩, ⟨0, 9, 15, 15⟩] : List ExceptionTableEntry) ⟨0, 9, 18, 40⟩ [] (by rw [htab]; rfl) (List.forall_mem_cons.mpr ⟨Or.inr ⟨by decide, "java/lang/IllegalArgumentException", hts (.classLink RL 13 "java/lang/IllegalArgumentException") (by decide +kernel), hXN ("java/util/NoSuchElementException", "java/lang/IllegalArgumentException") (by decide +kernel)⟩, List.forall_mem_cons.mpr ⟨Or.inr ⟨by decide, "java/lang/IllegalStateException", hts (.classLink RL 15 "java/lang/IllegalStateException") (by decide +kernel), hXN ("java/util/NoSuchElementException", "java/lang/IllegalStateException") (by decide +kernel)⟩, fun z hz => absurd hz List.not_mem_nil⟩⟩) (by decide) (by decide) (hts (.classLink RL 40 "java/util/NoSuchElementException") (by decide +kernel)) (va_Nw.use rfl (hX.2.1 (.castable "java/util/NoSuchElementException" "java/util/NoSuchElementException") (by decide +kernel))) hq1 hq2 hq3 ?_
      obtain ⟨cs_11, hcs⟩ : ∃ z, z = (0 + ga_3) := ⟨_, rfl⟩; obtain ⟨sl_12, hsl⟩ : ∃ z, z = (0 + gb_4) := ⟨_, rfl⟩
      have hbc : cs_11 + (mc - ga_3) ≤ mc := by omega
      have hbs : sl_12 + (ms - gb_4) ≤ ms := by omega
      refine W.widen (k := cs_11) (n := sl_12) (by omega) (by omega) ?_
      clear hcs hsl
      refine lv_astore_n (lv' := [(3, .ref q9), (0, .ref a0), (1, .int x1), (2, .ref a2)]) hx hb dL_retreat_18 rfl hl (by decide) rfl (fun ls hl => ?_)
      refine lv_iconst (v := (3 : Int32)) hx hb dL_retreat_19 (by decide) ?_
      refine vx_ret ?_
      refine W.widen (k := mc) (n := ms) (by omega) (by omega) ?_
      exact W.iret (v := (3 : Int32)) hx hb hr (fun t ht hW => ⟨⟨(3 : Int32), f_2, rfl, h, by rw [ht]; exact hF, FK.moved hW.alike hK⟩, hS.F ht⟩) hS.2.2 dL_retreat_20
  · obtain ⟨cs_13, hcs⟩ : ∃ z, z = (0 + ga_3) := ⟨_, rfl⟩; obtain ⟨sl_14, hsl⟩ : ∃ z, z = (0 + gb_4) := ⟨_, rfl⟩
    have hbc : cs_13 + (mc - ga_3) ≤ mc := by omega
    have hbs : sl_14 + (ms - gb_4) ≤ ms := by omega
    refine W.widen (k := cs_13) (n := sl_14) (by omega) (by omega) ?_
    clear hcs hsl
    refine lv_i2l (v := (Int32.toInt64 r_1)) hx hb dL_retreat_7 rfl ?_
    obtain ⟨n_q_15, q_15, he_q_15, hi_q_15, h⟩ := h
    refine fw_last hx hb hK hF hS he_q_15 hi_q_15 dL_retreat_8 (fun H locs hF hS => ?_)
    obtain ⟨f_16, hf_f_16⟩ : ∃ z, z = fup f_2 a2 (.inl (3, n_q_15, .inr (.inl (vp_updL q_15 ((0 : Int32)).toNatClampNeg (Int32.toInt64 r_1))))) := ⟨_, rfl⟩
    rw [← hf_f_16] at hF; have h := h f_16 hf_f_16
    refine lv_goto (tgt := 21) hx hb dL_retreat_9 (by decide) ?_
    refine lv_iconst (v := (0 : Int32)) hx hb dL_retreat_21 (by decide) ?_
    refine vx_ret ?_
    refine W.widen (k := mc) (n := ms) (by omega) (by omega) ?_
    exact W.iret (v := (0 : Int32)) hx hb hr (fun t ht hW => ⟨⟨(0 : Int32), f_16, rfl, h, by rw [ht]; exact hF, FK.moved hW.alike hK⟩, hS.F ht⟩) hS.2.2 dL_retreat_22
theorem dL_current_0 : decode cL_current 0 = .ok (.aload_n 2, 1) := by decide +kernel
theorem dL_current_1 : decode cL_current 1 = .ok (.iconst 0, 1) := by decide +kernel
theorem dL_current_2 : decode cL_current 2 = .ok (.aload_n 0, 1) := by decide +kernel
theorem dL_current_3 : decode cL_current 3 = .ok (.iload_n 1, 1) := by decide +kernel
theorem dL_current_4 : decode cL_current 4 = .ok (.invokevirtual 80, 3) := by decide +kernel
theorem dL_current_7 : decode cL_current 7 = .ok (.i2l, 1) := by decide +kernel
theorem dL_current_8 : decode cL_current 8 = .ok (.lastore, 1) := by decide +kernel
theorem dL_current_9 : decode cL_current 9 = .ok (.goto 12, 3) := by decide +kernel
theorem dL_current_12 : decode cL_current 12 = .ok (.astore_n 3, 1) := by decide +kernel
theorem dL_current_13 : decode cL_current 13 = .ok (.iconst 1, 1) := by decide +kernel
theorem dL_current_14 : decode cL_current 14 = .ok (.ireturn, 1) := by decide +kernel
theorem dL_current_15 : decode cL_current 15 = .ok (.astore_n 3, 1) := by decide +kernel
theorem dL_current_16 : decode cL_current 16 = .ok (.iconst 2, 1) := by decide +kernel
theorem dL_current_17 : decode cL_current 17 = .ok (.ireturn, 1) := by decide +kernel
theorem dL_current_18 : decode cL_current 18 = .ok (.astore_n 3, 1) := by decide +kernel
theorem dL_current_19 : decode cL_current 19 = .ok (.iconst 3, 1) := by decide +kernel
theorem dL_current_20 : decode cL_current 20 = .ok (.ireturn, 1) := by decide +kernel
theorem dL_current_21 : decode cL_current 21 = .ok (.iconst 0, 1) := by decide +kernel
theorem dL_current_22 : decode cL_current 22 = .ok (.ireturn, 1) := by decide +kernel
set_option maxRecDepth 20000 in
theorem ggL_current_X8_current : GoodIn wsL_current wsX8_current := goodIn_ca (goodIn_ca (goodIn_ca (goodIn_r _ [8, 9, 10, 11, 12, 13, 7, 14, 15, 16, 17, 18, 19, 20, 21, 22, 23, 24, 25, 26, 27, 28, 29, 30, 31, 32, 33, 34, 35, 36, 37, 38, 39, 40, 41, 42, 43, 44, 45, 46, 47, 48, 49, 50, 51, 52, 53, 54, 55, 56, 57, 58, 59, 60, 61, 62, 63, 64, 65, 66, 67, 68, 69, 70, 71, 72, 73, 74, 75, 76, 77, 78, 79, 80, 81, 82, 83, 84, 85, 86, 87, 88, 89, 90, 91, 92, 93, 94, 95, 96, 97, 98, 99, 100, 101, 102] (by decide +kernel) (by decide +kernel)) (goodIn_sub (fun _ h => List.mem_cons_of_mem _ (List.mem_append_left _ (List.mem_append_left _ (List.mem_append_right _ h)))) (by decide +kernel))) (goodIn_sub (fun _ h => List.mem_cons_of_mem _ (List.mem_append_left _ (List.mem_append_right _ h))) (by decide +kernel))) (goodIn_sub (fun _ h => List.mem_cons_of_mem _ (List.mem_append_right _ h)) (by decide +kernel))
def wp_L_current (a0 : Nat) (x1 : Int32) (a2 : Nat) (f : FT) (mc ms : Nat) (K : Int32 → FT → Prop) : Prop :=
  ∃ ga_3 gb_4 : Nat, ga_3 ≤ mc ∧ gb_4 ≤ ms ∧ isO f a0 11 ∧ wp_X8_current a0 x1 f ga_3 gb_4 (fun r_1 f_2 => sJ f_2 a2 (0 : Int32) (Int32.toInt64 r_1) fun f_16 => K (0 : Int32) f_16) (fun E f_2 => (E = "java/lang/IllegalArgumentException" ∧ K (1 : Int32) f_2) ∨ (E = "java/lang/IllegalStateException" ∧ K (2 : Int32) f_2) ∨ (E = "java/util/NoSuchElementException" ∧ K (3 : Int32) f_2))
set_option maxHeartbeats 4000000 in
set_option maxRecDepth 100000 in
theorem cc_L_current (l : Launch) (G : GG) {f : FT} {sz : Nat} {a0 : Nat} {x1 : Int32} {a2 : Nat} {mc ms : Nat} {K : Int32 → FT → Prop} (hlt : l.stackTraces = false) (h : wp_L_current a0 x1 a2 f mc ms K) : vx_Met l yL_current wsL_current ({ frames := 10, cells := mc, slots := ms, locals := 177 } : Room) (FPL G [.ref a0, .int x1, .ref a2] f sz) (va_Qi (fun r f9 => K r f9 : Int32 → FT → Prop) (FB G (fA f sz)) (fA f sz)) (FXC G (fA f sz) (fun _ _ => False)) mc ms (fA f sz) := by
  refine vx_ofWH (hh := [(0, 9, 12, 13), (0, 9, 15, 15), (0, 9, 18, 40)]) (cc := cL_current) (maxL := 4) (ret := (some .int)) (by decide) rfl ?_
  intro p e s m args below meth c s₁ B hml hv
  obtain ⟨rfl, hsz, hF, hK, hZ, hX, hXN⟩ := hv
  have hx := B.exec
  have hb := B.bytes
  have hr := B.returns
  have hts := atoms_spec (ws := wsL_current) B.pre
  have hown : s.vm.findClass RL = some m.cls := findClass_of_methodNamed B.named
  have hlocks := B.notSynchronized
  have htab : c.exceptionTable.toList = tableOf [(0, 9, 12, 13), (0, 9, 15, 15), (0, 9, 18, 40)] := vx_table (x := yL_current) B (hts (.codeWith yL_current cL_current 4 (some .int) [(0, 9, 12, 13), (0, 9, 15, 15), (0, 9, 18, 40)]) (by decide +kernel))
  subst hsz
  have hF := hF.self (sz := s.heap.size)
  generalize hAe : fA f s.heap.size = A at hF hZ hX ⊢
  have hA : ∀ q : Nat, s.heap.size ≤ q → A q := fun q h => by rw [← hAe]; exact Or.inr h
  have hS : va_S A s.heap s.heap [] := va_S.rf
  have hbc : 0 + mc ≤ mc := by omega
  have hbs : 0 + ms ≤ ms := by omega
  have hl := lv_entry ([.ref a0, .int x1, .ref a2]) (n := 4) (Nat.le_of_ble_eq_true rfl)
  rw [lg_entry_eq]
  generalize (lg_sl ([.ref a0, .int x1, .ref a2]) ++ List.replicate (4 - (lg_sl ([.ref a0, .int x1, .ref a2])).length) Slot.unset).toArray = ls at hl ⊢
  have hl : lv_has ls 4 [(0, .ref a0), (1, .int x1), (2, .ref a2)] := hl
  unfold wp_L_current at h
  refine lv_aload_n hx hb dL_current_0 rfl (lv_at hl 2 rfl) ?_
  refine lv_iconst (v := (0 : Int32)) hx hb dL_current_1 (by decide) ?_
  refine lv_aload_n hx hb dL_current_2 rfl (lv_at hl 0 rfl) ?_
  refine lv_iload_n hx hb dL_current_3 rfl (lv_at hl 1 rfl) ?_
  obtain ⟨ga_3, gb_4, hga_ga_3, hgb_ga_3, h⟩ := h
  obtain ⟨⟨fs_r_1, hrc_r_1⟩, h⟩ := h
  refine fx_cVH_i (As := [.int x1]) (rest := [.int (0 : Int32), .ref a2]) ⟨hx, hb, hml, hown, hts⟩ (cc_X8_current l G hlt h) (⟨callB_of 1 hts ggL_current_X8_current rfl rfl rfl (hts (.initialized RX8) (by decide +kernel)) (hts (.methodLink RL 80 yX8_current) (by decide +kernel)) (by decide +kernel) ⟨Nat.le_of_ble_eq_true rfl, Nat.le_of_ble_eq_true rfl⟩, hts (.instanceMethod yX8_current) (by decide +kernel), hts (.selects RX8 yX8_current yX8_current) (by decide +kernel)⟩) rfl hrc_r_1 hK hZ hX hF hS hA rfl hl.1 rfl (Nat.le_of_ble_eq_true rfl) dL_current_4 ⟨by show _ ≤ mc; omega, by show _ ≤ ms; omega⟩ (fun E ce q9 f_2 H locs h hF hS hq1 hq2 hq3 => ?_) (fun r_1 f_2 H locs h hF hS => ?_)
  · rcases h with ⟨rfl, h⟩ | ⟨rfl, h⟩ | ⟨rfl, h⟩
    · refine vx_catch hown ([] : List ExceptionTableEntry) ⟨0, 9, 12, 13⟩ [⟨0, 9, 15, 15⟩, ⟨0, 9, 18, 40⟩] (by rw [htab]; rfl) (fun z hz => absurd hz List.not_mem_nil) (by decide) (by decide) (hts (.classLink RL 13 "java/lang/IllegalArgumentException") (by decide +kernel)) (va_Nw.use rfl (hX.2.1 (.castable "java/lang/IllegalArgumentException" "java/lang/IllegalArgumentException") (by decide +kernel))) hq1 hq2 hq3 ?_
      obtain ⟨cs_7, hcs⟩ : ∃ z, z = (0 + ga_3) := ⟨_, rfl⟩; obtain ⟨sl_8, hsl⟩ : ∃ z, z = (0 + gb_4) := ⟨_, rfl⟩
      have hbc : cs_7 + (mc - ga_3) ≤ mc := by omega
      have hbs : sl_8 + (ms - gb_4) ≤ ms := by omega
      refine W.widen (k := cs_7) (n := sl_8) (by omega) (by omega) ?_
      clear hcs hsl
      refine lv_astore_n (lv' := [(3, .ref q9), (0, .ref a0), (1, .int x1), (2, .ref a2)]) hx hb dL_current_12 rfl hl (by decide) rfl (fun ls hl => ?_)
      refine lv_iconst (v := (1 : Int32)) hx hb dL_current_13 (by decide) ?_
      refine vx_ret ?_
      refine W.widen (k := mc) (n := ms) (by omega) (by omega) ?_
      exact W.iret (v := (1 : Int32)) hx hb hr (fun t ht hW => ⟨⟨(1 : Int32), f_2, rfl, h, by rw [ht]; exact hF, FK.moved hW.alike hK⟩, hS.F ht⟩) hS.2.2 dL_current_14
    · refine vx_catch hown ([⟨0, 9, 12, 13⟩] : List ExceptionTableEntry) ⟨0, 9, 15, 15⟩ [⟨0, 9, 18, 40⟩] (by rw [htab]; rfl) (List.forall_mem_cons.mpr ⟨Or.inr ⟨by decide, "java/lang/IllegalArgumentException", hts (.classLink RL 13 "java/lang/IllegalArgumentException") (by decide +kernel), hXN ("java/lang/IllegalStateException", "java/lang/IllegalArgumentException") (by decide +kernel)⟩, fun z hz => absurd hz List.not_mem_nil⟩) (by decide) (by decide) (hts (.classLink RL 15 "java/lang/IllegalStateException") (by decide +kernel)) (va_Nw.use rfl (hX.2.1 (.castable "java/lang/IllegalStateException" "java/lang/IllegalStateException") (by decide +kernel))) hq1 hq2 hq3 ?_
      obtain ⟨cs_9, hcs⟩ : ∃ z, z = (0 + ga_3) := ⟨_, rfl⟩; obtain ⟨sl_10, hsl⟩ : ∃ z, z = (0 + gb_4) := ⟨_, rfl⟩
      have hbc : cs_9 + (mc - ga_3) ≤ mc := by omega
      have hbs : sl_10 + (ms - gb_4) ≤ ms := by omega
      refine W.widen (k := cs_9) (n := sl_10) (by omega) (by omega) ?_
      clear hcs hsl
      refine lv_astore_n (lv' := [(3, .ref q9), (0, .ref a0), (1, .int x1), (2, .ref a2)]) hx hb dL_current_15 rfl hl (by decide) rfl (fun ls hl => ?_)
      refine lv_iconst (v := (2 : Int32)) hx hb dL_current_16 (by decide) ?_
      refine vx_ret ?_
      refine W.widen (k := mc) (n := ms) (by omega) (by omega) ?_
      exact W.iret (v := (2 : Int32)) hx hb hr (fun t ht hW => ⟨⟨(2 : Int32), f_2, rfl, h, by rw [ht]; exact hF, FK.moved hW.alike hK⟩, hS.F ht⟩) hS.2.2 dL_current_17
    · refine vx_catch hown ([⟨0, 9, 12, 13⟩, ⟨0, 9, 15, 15⟩] : List ExceptionTableEntry) ⟨0, 9, 18, 40⟩ [] (by rw [htab]; rfl) (List.forall_mem_cons.mpr ⟨Or.inr ⟨by decide, "java/lang/IllegalArgumentException", hts (.classLink RL 13 "java/lang/IllegalArgumentException") (by decide +kernel), hXN ("java/util/NoSuchElementException", "java/lang/IllegalArgumentException") (by decide +kernel)⟩, List.forall_mem_cons.mpr ⟨Or.inr ⟨by decide, "java/lang/IllegalStateException", hts (.classLink RL 15 "java/lang/IllegalStateException") (by decide +kernel), hXN ("java/util/NoSuchElementException", "java/lang/IllegalStateException") (by decide +kernel)⟩, fun z hz => absurd hz List.not_mem_nil⟩⟩) (by decide) (by decide) (hts (.classLink RL 40 "java/util/NoSuchElementException") (by decide +kernel)) (va_Nw.use rfl (hX.2.1 (.castable "java/util/NoSuchElementException" "java/util/NoSuchElementException") (by decide +kernel))) hq1 hq2 hq3 ?_
      obtain ⟨cs_11, hcs⟩ : ∃ z, z = (0 + ga_3) := ⟨_, rfl⟩; obtain ⟨sl_12, hsl⟩ : ∃ z, z = (0 + gb_4) := ⟨_, rfl⟩
      have hbc : cs_11 + (mc - ga_3) ≤ mc := by omega
      have hbs : sl_12 + (ms - gb_4) ≤ ms := by omega
      refine W.widen (k := cs_11) (n := sl_12) (by omega) (by omega) ?_
      clear hcs hsl
      refine lv_astore_n (lv' := [(3, .ref q9), (0, .ref a0), (1, .int x1), (2, .ref a2)]) hx hb dL_current_18 rfl hl (by decide) rfl (fun ls hl => ?_)
      refine lv_iconst (v := (3 : Int32)) hx hb dL_current_19 (by decide) ?_
      refine vx_ret ?_
      refine W.widen (k := mc) (n := ms) (by omega) (by omega) ?_
      exact W.iret (v := (3 : Int32)) hx hb hr (fun t ht hW => ⟨⟨(3 : Int32), f_2, rfl, h, by rw [ht]; exact hF, FK.moved hW.alike hK⟩, hS.F ht⟩) hS.2.2 dL_current_20
  · obtain ⟨cs_13, hcs⟩ : ∃ z, z = (0 + ga_3) := ⟨_, rfl⟩; obtain ⟨sl_14, hsl⟩ : ∃ z, z = (0 + gb_4) := ⟨_, rfl⟩
    have hbc : cs_13 + (mc - ga_3) ≤ mc := by omega
    have hbs : sl_14 + (ms - gb_4) ≤ ms := by omega
    refine W.widen (k := cs_13) (n := sl_14) (by omega) (by omega) ?_
    clear hcs hsl
    refine lv_i2l (v := (Int32.toInt64 r_1)) hx hb dL_current_7 rfl ?_
    obtain ⟨n_q_15, q_15, he_q_15, hi_q_15, h⟩ := h
    refine fw_last hx hb hK hF hS he_q_15 hi_q_15 dL_current_8 (fun H locs hF hS => ?_)
    obtain ⟨f_16, hf_f_16⟩ : ∃ z, z = fup f_2 a2 (.inl (3, n_q_15, .inr (.inl (vp_updL q_15 ((0 : Int32)).toNatClampNeg (Int32.toInt64 r_1))))) := ⟨_, rfl⟩
    rw [← hf_f_16] at hF; have h := h f_16 hf_f_16
    refine lv_goto (tgt := 21) hx hb dL_current_9 (by decide) ?_
    refine lv_iconst (v := (0 : Int32)) hx hb dL_current_21 (by decide) ?_
    refine vx_ret ?_
    refine W.widen (k := mc) (n := ms) (by omega) (by omega) ?_
    exact W.iret (v := (0 : Int32)) hx hb hr (fun t ht hW => ⟨⟨(0 : Int32), f_16, rfl, h, by rw [ht]; exact hF, FK.moved hW.alike hK⟩, hS.F ht⟩) hS.2.2 dL_current_22
theorem dL_removeAt_0 : decode cL_removeAt 0 = .ok (.aload_n 2, 1) := by decide +kernel
theorem dL_removeAt_1 : decode cL_removeAt 1 = .ok (.iconst 0, 1) := by decide +kernel
theorem dL_removeAt_2 : decode cL_removeAt 2 = .ok (.aload_n 0, 1) := by decide +kernel
theorem dL_removeAt_3 : decode cL_removeAt 3 = .ok (.iload_n 1, 1) := by decide +kernel
theorem dL_removeAt_4 : decode cL_removeAt 4 = .ok (.invokevirtual 83, 3) := by decide +kernel
theorem dL_removeAt_7 : decode cL_removeAt 7 = .ok (.i2l, 1) := by decide +kernel
theorem dL_removeAt_8 : decode cL_removeAt 8 = .ok (.lastore, 1) := by decide +kernel
theorem dL_removeAt_9 : decode cL_removeAt 9 = .ok (.goto 12, 3) := by decide +kernel
theorem dL_removeAt_12 : decode cL_removeAt 12 = .ok (.astore_n 3, 1) := by decide +kernel
theorem dL_removeAt_13 : decode cL_removeAt 13 = .ok (.iconst 1, 1) := by decide +kernel
theorem dL_removeAt_14 : decode cL_removeAt 14 = .ok (.ireturn, 1) := by decide +kernel
theorem dL_removeAt_15 : decode cL_removeAt 15 = .ok (.astore_n 3, 1) := by decide +kernel
theorem dL_removeAt_16 : decode cL_removeAt 16 = .ok (.iconst 2, 1) := by decide +kernel
theorem dL_removeAt_17 : decode cL_removeAt 17 = .ok (.ireturn, 1) := by decide +kernel
theorem dL_removeAt_18 : decode cL_removeAt 18 = .ok (.astore_n 3, 1) := by decide +kernel
theorem dL_removeAt_19 : decode cL_removeAt 19 = .ok (.iconst 3, 1) := by decide +kernel
theorem dL_removeAt_20 : decode cL_removeAt 20 = .ok (.ireturn, 1) := by decide +kernel
theorem dL_removeAt_21 : decode cL_removeAt 21 = .ok (.iconst 0, 1) := by decide +kernel
theorem dL_removeAt_22 : decode cL_removeAt 22 = .ok (.ireturn, 1) := by decide +kernel
set_option maxRecDepth 20000 in
theorem ggL_removeAt_X8_removeAt : GoodIn wsL_removeAt wsX8_removeAt := goodIn_ca (goodIn_ca (goodIn_ca (goodIn_r _ [8, 9, 10, 11, 12, 7, 13, 14, 15, 16, 17, 18, 19, 20, 21, 22, 23, 24, 25, 26, 27, 28, 29, 30, 31, 32, 33, 34, 35, 36, 37, 38, 39, 40, 41, 42, 43, 44, 45, 46, 47, 48, 49, 50, 51, 52, 53, 54, 55, 56, 57, 58, 59, 60, 61, 62, 63, 64, 65, 66, 67, 68, 69, 70, 71, 72, 73, 74, 75, 76, 77, 78, 79, 80, 81, 82, 83, 84, 85, 86, 87, 88, 89, 90, 91, 92, 93, 94, 95, 96, 97, 98, 99, 100, 101, 102, 103, 104, 105, 106, 107, 108, 109, 110, 111, 112, 113, 114, 115, 116, 117, 118, 119, 120, 121, 122, 123, 124, 125, 126, 127, 128, 129, 130, 131, 132, 133, 134, 135, 136, 137, 138, 139, 140, 141, 142, 143, 144, 145, 146, 147, 148, 149, 150, 151, 152, 153, 154, 155, 156, 157, 158, 159, 160, 161, 162, 163, 164, 165, 166, 167, 168, 169, 170, 171, 172, 173, 174, 175, 176, 177, 178, 179, 180, 181, 182, 183, 184, 185, 186, 187, 188, 189, 190, 191, 192, 193, 194, 195, 196, 197, 198, 199, 200, 201, 202, 203, 204, 205, 206, 207, 208, 209, 210, 211, 212, 213, 214, 215, 216, 217, 218, 219, 220, 221, 222, 223, 224] (by decide +kernel) (by decide +kernel)) (goodIn_sub (fun _ h => List.mem_cons_of_mem _ (List.mem_append_left _ (List.mem_append_left _ (List.mem_append_right _ h)))) (by decide +kernel))) (goodIn_sub (fun _ h => List.mem_cons_of_mem _ (List.mem_append_left _ (List.mem_append_right _ h))) (by decide +kernel))) (goodIn_sub (fun _ h => List.mem_cons_of_mem _ (List.mem_append_right _ h)) (by decide +kernel))
def wp_L_removeAt (a0 : Nat) (x1 : Int32) (a2 : Nat) (f : FT) (mc ms : Nat) (K : Int32 → FT → Prop) : Prop :=
  ∃ ga_3 gb_4 : Nat, ga_3 ≤ mc ∧ gb_4 ≤ ms ∧ isO f a0 11 ∧ wp_X8_removeAt a0 x1 f ga_3 gb_4 (fun r_1 f_2 => sJ f_2 a2 (0 : Int32) (Int32.toInt64 r_1) fun f_16 => K (0 : Int32) f_16) (fun E f_2 => (E = "java/lang/IllegalArgumentException" ∧ K (1 : Int32) f_2) ∨ (E = "java/lang/IllegalStateException" ∧ K (2 : Int32) f_2) ∨ (E = "java/util/NoSuchElementException" ∧ K (3 : Int32) f_2))
set_option maxHeartbeats 4000000 in
set_option maxRecDepth 100000 in
theorem cc_L_removeAt (l : Launch) (G : GG) {f : FT} {sz : Nat} {a0 : Nat} {x1 : Int32} {a2 : Nat} {mc ms : Nat} {K : Int32 → FT → Prop} (hlt : l.stackTraces = false) (h : wp_L_removeAt a0 x1 a2 f mc ms K) : vx_Met l yL_removeAt wsL_removeAt ({ frames := 10, cells := mc, slots := ms, locals := 231 } : Room) (FPL G [.ref a0, .int x1, .ref a2] f sz) (va_Qi (fun r f9 => K r f9 : Int32 → FT → Prop) (FB G (fA f sz)) (fA f sz)) (FXC G (fA f sz) (fun _ _ => False)) mc ms (fA f sz) := by
  refine vx_ofWH (hh := [(0, 9, 12, 13), (0, 9, 15, 15), (0, 9, 18, 40)]) (cc := cL_removeAt) (maxL := 4) (ret := (some .int)) (by decide) rfl ?_
  intro p e s m args below meth c s₁ B hml hv
  obtain ⟨rfl, hsz, hF, hK, hZ, hX, hXN⟩ := hv
  have hx := B.exec
  have hb := B.bytes
  have hr := B.returns
  have hts := atoms_spec (ws := wsL_removeAt) B.pre
  have hown : s.vm.findClass RL = some m.cls := findClass_of_methodNamed B.named
  have hlocks := B.notSynchronized
  have htab : c.exceptionTable.toList = tableOf [(0, 9, 12, 13), (0, 9, 15, 15), (0, 9, 18, 40)] := vx_table (x := yL_removeAt) B (hts (.codeWith yL_removeAt cL_removeAt 4 (some .int) [(0, 9, 12, 13), (0, 9, 15, 15), (0, 9, 18, 40)]) (by decide +kernel))
  subst hsz
  have hF := hF.self (sz := s.heap.size)
  generalize hAe : fA f s.heap.size = A at hF hZ hX ⊢
  have hA : ∀ q : Nat, s.heap.size ≤ q → A q := fun q h => by rw [← hAe]; exact Or.inr h
  have hS : va_S A s.heap s.heap [] := va_S.rf
  have hbc : 0 + mc ≤ mc := by omega
  have hbs : 0 + ms ≤ ms := by omega
  have hl := lv_entry ([.ref a0, .int x1, .ref a2]) (n := 4) (Nat.le_of_ble_eq_true rfl)
  rw [lg_entry_eq]
  generalize (lg_sl ([.ref a0, .int x1, .ref a2]) ++ List.replicate (4 - (lg_sl ([.ref a0, .int x1, .ref a2])).length) Slot.unset).toArray = ls at hl ⊢
  have hl : lv_has ls 4 [(0, .ref a0), (1, .int x1), (2, .ref a2)] := hl
  unfold wp_L_removeAt at h
  refine lv_aload_n hx hb dL_removeAt_0 rfl (lv_at hl 2 rfl) ?_
  refine lv_iconst (v := (0 : Int32)) hx hb dL_removeAt_1 (by decide) ?_
  refine lv_aload_n hx hb dL_removeAt_2 rfl (lv_at hl 0 rfl) ?_
  refine lv_iload_n hx hb dL_removeAt_3 rfl (lv_at hl 1 rfl) ?_
  obtain ⟨ga_3, gb_4, hga_ga_3, hgb_ga_3, h⟩ := h
  obtain ⟨⟨fs_r_1, hrc_r_1⟩, h⟩ := h
  refine fx_cVH_i (As := [.int x1]) (rest := [.int (0 : Int32), .ref a2]) ⟨hx, hb, hml, hown, hts⟩ (cc_X8_removeAt l G hlt h) (⟨callB_of 1 hts ggL_removeAt_X8_removeAt rfl rfl rfl (hts (.initialized RX8) (by decide +kernel)) (hts (.methodLink RL 83 yX8_removeAt) (by decide +kernel)) (by decide +kernel) ⟨Nat.le_of_ble_eq_true rfl, Nat.le_of_ble_eq_true rfl⟩, hts (.instanceMethod yX8_removeAt) (by decide +kernel), hts (.selects RX8 yX8_removeAt yX8_removeAt) (by decide +kernel)⟩) rfl hrc_r_1 hK hZ hX hF hS hA rfl hl.1 rfl (Nat.le_of_ble_eq_true rfl) dL_removeAt_4 ⟨by show _ ≤ mc; omega, by show _ ≤ ms; omega⟩ (fun E ce q9 f_2 H locs h hF hS hq1 hq2 hq3 => ?_) (fun r_1 f_2 H locs h hF hS => ?_)
  · rcases h with ⟨rfl, h⟩ | ⟨rfl, h⟩ | ⟨rfl, h⟩
    · refine vx_catch hown ([] : List ExceptionTableEntry) ⟨0, 9, 12, 13⟩ [⟨0, 9, 15, 15⟩, ⟨0, 9, 18, 40⟩] (by rw [htab]; rfl) (fun z hz => absurd hz List.not_mem_nil) (by decide) (by decide) (hts (.classLink RL 13 "java/lang/IllegalArgumentException") (by decide +kernel)) (va_Nw.use rfl (hX.2.1 (.castable "java/lang/IllegalArgumentException" "java/lang/IllegalArgumentException") (by decide +kernel))) hq1 hq2 hq3 ?_
      obtain ⟨cs_7, hcs⟩ : ∃ z, z = (0 + ga_3) := ⟨_, rfl⟩; obtain ⟨sl_8, hsl⟩ : ∃ z, z = (0 + gb_4) := ⟨_, rfl⟩
      have hbc : cs_7 + (mc - ga_3) ≤ mc := by omega
      have hbs : sl_8 + (ms - gb_4) ≤ ms := by omega
      refine W.widen (k := cs_7) (n := sl_8) (by omega) (by omega) ?_
      clear hcs hsl
      refine lv_astore_n (lv' := [(3, .ref q9), (0, .ref a0), (1, .int x1), (2, .ref a2)]) hx hb dL_removeAt_12 rfl hl (by decide) rfl (fun ls hl => ?_)
      refine lv_iconst (v := (1 : Int32)) hx hb dL_removeAt_13 (by decide) ?_
      refine vx_ret ?_
      refine W.widen (k := mc) (n := ms) (by omega) (by omega) ?_
      exact W.iret (v := (1 : Int32)) hx hb hr (fun t ht hW => ⟨⟨(1 : Int32), f_2, rfl, h, by rw [ht]; exact hF, FK.moved hW.alike hK⟩, hS.F ht⟩) hS.2.2 dL_removeAt_14
    · refine vx_catch hown ([⟨0, 9, 12, 13⟩] : List ExceptionTableEntry) ⟨0, 9, 15, 15⟩ [⟨0, 9, 18, 40⟩] (by rw [htab]; rfl) (List.forall_mem_cons.mpr ⟨Or.inr ⟨by decide, "java/lang/IllegalArgumentException", hts (.classLink RL 13 "java/lang/IllegalArgumentException") (by decide +kernel), hXN ("java/lang/IllegalStateException", "java/lang/IllegalArgumentException") (by decide +kernel)⟩, fun z hz => absurd hz List.not_mem_nil⟩) (by decide) (by decide) (hts (.classLink RL 15 "java/lang/IllegalStateException") (by decide +kernel)) (va_Nw.use rfl (hX.2.1 (.castable "java/lang/IllegalStateException" "java/lang/IllegalStateException") (by decide +kernel))) hq1 hq2 hq3 ?_
      obtain ⟨cs_9, hcs⟩ : ∃ z, z = (0 + ga_3) := ⟨_, rfl⟩; obtain ⟨sl_10, hsl⟩ : ∃ z, z = (0 + gb_4) := ⟨_, rfl⟩
      have hbc : cs_9 + (mc - ga_3) ≤ mc := by omega
      have hbs : sl_10 + (ms - gb_4) ≤ ms := by omega
      refine W.widen (k := cs_9) (n := sl_10) (by omega) (by omega) ?_
      clear hcs hsl
      refine lv_astore_n (lv' := [(3, .ref q9), (0, .ref a0), (1, .int x1), (2, .ref a2)]) hx hb dL_removeAt_15 rfl hl (by decide) rfl (fun ls hl => ?_)
      refine lv_iconst (v := (2 : Int32)) hx hb dL_removeAt_16 (by decide) ?_
      refine vx_ret ?_
      refine W.widen (k := mc) (n := ms) (by omega) (by omega) ?_
      exact W.iret (v := (2 : Int32)) hx hb hr (fun t ht hW => ⟨⟨(2 : Int32), f_2, rfl, h, by rw [ht]; exact hF, FK.moved hW.alike hK⟩, hS.F ht⟩) hS.2.2 dL_removeAt_17
    · refine vx_catch hown ([⟨0, 9, 12, 13⟩, ⟨0, 9, 15, 15⟩] : List ExceptionTableEntry) ⟨0, 9, 18, 40⟩ [] (by rw [htab]; rfl) (List.forall_mem_cons.mpr ⟨Or.inr ⟨by decide, "java/lang/IllegalArgumentException", hts (.classLink RL 13 "java/lang/IllegalArgumentException") (by decide +kernel), hXN ("java/util/NoSuchElementException", "java/lang/IllegalArgumentException") (by decide +kernel)⟩, List.forall_mem_cons.mpr ⟨Or.inr ⟨by decide, "java/lang/IllegalStateException", hts (.classLink RL 15 "java/lang/IllegalStateException") (by decide +kernel), hXN ("java/util/NoSuchElementException", "java/lang/IllegalStateException") (by decide +kernel)⟩, fun z hz => absurd hz List.not_mem_nil⟩⟩) (by decide) (by decide) (hts (.classLink RL 40 "java/util/NoSuchElementException") (by decide +kernel)) (va_Nw.use rfl (hX.2.1 (.castable "java/util/NoSuchElementException" "java/util/NoSuchElementException") (by decide +kernel))) hq1 hq2 hq3 ?_
      obtain ⟨cs_11, hcs⟩ : ∃ z, z = (0 + ga_3) := ⟨_, rfl⟩; obtain ⟨sl_12, hsl⟩ : ∃ z, z = (0 + gb_4) := ⟨_, rfl⟩
      have hbc : cs_11 + (mc - ga_3) ≤ mc := by omega
      have hbs : sl_12 + (ms - gb_4) ≤ ms := by omega
      refine W.widen (k := cs_11) (n := sl_12) (by omega) (by omega) ?_
      clear hcs hsl
      refine lv_astore_n (lv' := [(3, .ref q9), (0, .ref a0), (1, .int x1), (2, .ref a2)]) hx hb dL_removeAt_18 rfl hl (by decide) rfl (fun ls hl => ?_)
      refine lv_iconst (v := (3 : Int32)) hx hb dL_removeAt_19 (by decide) ?_
      refine vx_ret ?_
      refine W.widen (k := mc) (n := ms) (by omega) (by omega) ?_
      exact W.iret (v := (3 : Int32)) hx hb hr (fun t ht hW => ⟨⟨(3 : Int32), f_2, rfl, h, by rw [ht]; exact hF, FK.moved hW.alike hK⟩, hS.F ht⟩) hS.2.2 dL_removeAt_20
  · obtain ⟨cs_13, hcs⟩ : ∃ z, z = (0 + ga_3) := ⟨_, rfl⟩; obtain ⟨sl_14, hsl⟩ : ∃ z, z = (0 + gb_4) := ⟨_, rfl⟩
    have hbc : cs_13 + (mc - ga_3) ≤ mc := by omega
    have hbs : sl_14 + (ms - gb_4) ≤ ms := by omega
    refine W.widen (k := cs_13) (n := sl_14) (by omega) (by omega) ?_
    clear hcs hsl
    refine lv_i2l (v := (Int32.toInt64 r_1)) hx hb dL_removeAt_7 rfl ?_
    obtain ⟨n_q_15, q_15, he_q_15, hi_q_15, h⟩ := h
    refine fw_last hx hb hK hF hS he_q_15 hi_q_15 dL_removeAt_8 (fun H locs hF hS => ?_)
    obtain ⟨f_16, hf_f_16⟩ : ∃ z, z = fup f_2 a2 (.inl (3, n_q_15, .inr (.inl (vp_updL q_15 ((0 : Int32)).toNatClampNeg (Int32.toInt64 r_1))))) := ⟨_, rfl⟩
    rw [← hf_f_16] at hF; have h := h f_16 hf_f_16
    refine lv_goto (tgt := 21) hx hb dL_removeAt_9 (by decide) ?_
    refine lv_iconst (v := (0 : Int32)) hx hb dL_removeAt_21 (by decide) ?_
    refine vx_ret ?_
    refine W.widen (k := mc) (n := ms) (by omega) (by omega) ?_
    exact W.iret (v := (0 : Int32)) hx hb hr (fun t ht hW => ⟨⟨(0 : Int32), f_16, rfl, h, by rw [ht]; exact hF, FK.moved hW.alike hK⟩, hS.F ht⟩) hS.2.2 dL_removeAt_22
theorem dL_distance_0 : decode cL_distance 0 = .ok (.aload_n 3, 1) := by decide +kernel
theorem dL_distance_1 : decode cL_distance 1 = .ok (.iconst 0, 1) := by decide +kernel
theorem dL_distance_2 : decode cL_distance 2 = .ok (.aload_n 0, 1) := by decide +kernel
theorem dL_distance_3 : decode cL_distance 3 = .ok (.iload_n 1, 1) := by decide +kernel
theorem dL_distance_4 : decode cL_distance 4 = .ok (.iload_n 2, 1) := by decide +kernel
theorem dL_distance_5 : decode cL_distance 5 = .ok (.invokevirtual 86, 3) := by decide +kernel
theorem dL_distance_8 : decode cL_distance 8 = .ok (.i2l, 1) := by decide +kernel
theorem dL_distance_9 : decode cL_distance 9 = .ok (.lastore, 1) := by decide +kernel
theorem dL_distance_10 : decode cL_distance 10 = .ok (.goto 11, 3) := by decide +kernel
theorem dL_distance_13 : decode cL_distance 13 = .ok (.astore 4, 2) := by decide +kernel
theorem dL_distance_15 : decode cL_distance 15 = .ok (.iconst 1, 1) := by decide +kernel
theorem dL_distance_16 : decode cL_distance 16 = .ok (.ireturn, 1) := by decide +kernel
theorem dL_distance_17 : decode cL_distance 17 = .ok (.astore 4, 2) := by decide +kernel
theorem dL_distance_19 : decode cL_distance 19 = .ok (.iconst 2, 1) := by decide +kernel
theorem dL_distance_20 : decode cL_distance 20 = .ok (.ireturn, 1) := by decide +kernel
theorem dL_distance_21 : decode cL_distance 21 = .ok (.iconst 0, 1) := by decide +kernel
theorem dL_distance_22 : decode cL_distance 22 = .ok (.ireturn, 1) := by decide +kernel
set_option maxRecDepth 20000 in
theorem ggL_distance_X8_distance : GoodIn wsL_distance wsX8_distance := goodIn_ca (goodIn_ca (goodIn_r _ [7, 8, 9, 10, 6, 11, 12, 13, 14, 15, 16, 17, 18, 19, 20, 21, 22, 23, 24, 25, 26, 27, 28, 29, 30, 31, 32, 33, 34, 35, 36] (by decide +kernel) (by decide +kernel)) (goodIn_sub (fun _ h => List.mem_cons_of_mem _ (List.mem_append_left _ (List.mem_append_right _ h))) (by decide +kernel))) (goodIn_sub (fun _ h => List.mem_cons_of_mem _ (List.mem_append_right _ h)) (by decide +kernel))
def wp_L_distance (a0 : Nat) (x1 : Int32) (x2 : Int32) (a3 : Nat) (f : FT) (mc ms : Nat) (K : Int32 → FT → Prop) : Prop :=
  ∃ ga_3 gb_4 : Nat, ga_3 ≤ mc ∧ gb_4 ≤ ms ∧ isO f a0 11 ∧ wp_X8_distance a0 x1 x2 f ga_3 gb_4 (fun r_1 f_2 => sJ f_2 a3 (0 : Int32) (Int32.toInt64 r_1) fun f_14 => K (0 : Int32) f_14) (fun E f_2 => (E = "java/lang/IllegalArgumentException" ∧ K (1 : Int32) f_2) ∨ (E = "java/lang/IllegalStateException" ∧ K (2 : Int32) f_2))
set_option maxHeartbeats 4000000 in
set_option maxRecDepth 100000 in
theorem cc_L_distance (l : Launch) (G : GG) {f : FT} {sz : Nat} {a0 : Nat} {x1 : Int32} {x2 : Int32} {a3 : Nat} {mc ms : Nat} {K : Int32 → FT → Prop} (hlt : l.stackTraces = false) (h : wp_L_distance a0 x1 x2 a3 f mc ms K) : vx_Met l yL_distance wsL_distance ({ frames := 9, cells := mc, slots := ms, locals := 156 } : Room) (FPL G [.ref a0, .int x1, .int x2, .ref a3] f sz) (va_Qi (fun r f9 => K r f9 : Int32 → FT → Prop) (FB G (fA f sz)) (fA f sz)) (FXC G (fA f sz) (fun _ _ => False)) mc ms (fA f sz) := by
  refine vx_ofWH (hh := [(0, 10, 13, 13), (0, 10, 17, 15)]) (cc := cL_distance) (maxL := 5) (ret := (some .int)) (by decide) rfl ?_
  intro p e s m args below meth c s₁ B hml hv
  obtain ⟨rfl, hsz, hF, hK, hZ, hX, hXN⟩ := hv
  have hx := B.exec
  have hb := B.bytes
  have hr := B.returns
  have hts := atoms_spec (ws := wsL_distance) B.pre
  have hown : s.vm.findClass RL = some m.cls := findClass_of_methodNamed B.named
  have hlocks := B.notSynchronized
  have htab : c.exceptionTable.toList = tableOf [(0, 10, 13, 13), (0, 10, 17, 15)] := vx_table (x := yL_distance) B (hts (.codeWith yL_distance cL_distance 5 (some .int) [(0, 10, 13, 13), (0, 10, 17, 15)]) (by decide +kernel))
  subst hsz
  have hF := hF.self (sz := s.heap.size)
  generalize hAe : fA f s.heap.size = A at hF hZ hX ⊢
  have hA : ∀ q : Nat, s.heap.size ≤ q → A q := fun q h => by rw [← hAe]; exact Or.inr h
  have hS : va_S A s.heap s.heap [] := va_S.rf
  have hbc : 0 + mc ≤ mc := by omega
  have hbs : 0 + ms ≤ ms := by omega
  have hl := lv_entry ([.ref a0, .int x1, .int x2, .ref a3]) (n := 5) (Nat.le_of_ble_eq_true rfl)
  rw [lg_entry_eq]
  generalize (lg_sl ([.ref a0, .int x1, .int x2, .ref a3]) ++ List.replicate (5 - (lg_sl ([.ref a0, .int x1, .int x2, .ref a3])).length) Slot.unset).toArray = ls at hl ⊢
  have hl : lv_has ls 5 [(0, .ref a0), (1, .int x1), (2, .int x2), (3, .ref a3)] := hl
  unfold wp_L_distance at h
  refine lv_aload_n hx hb dL_distance_0 rfl (lv_at hl 3 rfl) ?_
  refine lv_iconst (v := (0 : Int32)) hx hb dL_distance_1 (by decide) ?_
  refine lv_aload_n hx hb dL_distance_2 rfl (lv_at hl 0 rfl) ?_
  refine lv_iload_n hx hb dL_distance_3 rfl (lv_at hl 1 rfl) ?_
  refine lv_iload_n hx hb dL_distance_4 rfl (lv_at hl 2 rfl) ?_
  obtain ⟨ga_3, gb_4, hga_ga_3, hgb_ga_3, h⟩ := h
  obtain ⟨⟨fs_r_1, hrc_r_1⟩, h⟩ := h
  refine fx_cVH_i (As := [.int x1, .int x2]) (rest := [.int (0 : Int32), .ref a3]) ⟨hx, hb, hml, hown, hts⟩ (cc_X8_distance l G hlt h) (⟨callB_of 2 hts ggL_distance_X8_distance rfl rfl rfl (hts (.initialized RX8) (by decide +kernel)) (hts (.methodLink RL 86 yX8_distance) (by decide +kernel)) (by decide +kernel) ⟨Nat.le_of_ble_eq_true rfl, Nat.le_of_ble_eq_true rfl⟩, hts (.instanceMethod yX8_distance) (by decide +kernel), hts (.selects RX8 yX8_distance yX8_distance) (by decide +kernel)⟩) rfl hrc_r_1 hK hZ hX hF hS hA rfl hl.1 rfl (Nat.le_of_ble_eq_true rfl) dL_distance_5 ⟨by show _ ≤ mc; omega, by show _ ≤ ms; omega⟩ (fun E ce q9 f_2 H locs h hF hS hq1 hq2 hq3 => ?_) (fun r_1 f_2 H locs h hF hS => ?_)
  · rcases h with ⟨rfl, h⟩ | ⟨rfl, h⟩
    · refine vx_catch hown ([] : List ExceptionTableEntry) ⟨0, 10, 13, 13⟩ [⟨0, 10, 17, 15⟩] (by rw [htab]; rfl) (fun z hz => absurd hz List.not_mem_nil) (by decide) (by decide) (hts (.classLink RL 13 "java/lang/IllegalArgumentException") (by decide +kernel)) (va_Nw.use rfl (hX.2.1 (.castable "java/lang/IllegalArgumentException" "java/lang/IllegalArgumentException") (by decide +kernel))) hq1 hq2 hq3 ?_
      obtain ⟨cs_7, hcs⟩ : ∃ z, z = (0 + ga_3) := ⟨_, rfl⟩; obtain ⟨sl_8, hsl⟩ : ∃ z, z = (0 + gb_4) := ⟨_, rfl⟩
      have hbc : cs_7 + (mc - ga_3) ≤ mc := by omega
      have hbs : sl_8 + (ms - gb_4) ≤ ms := by omega
      refine W.widen (k := cs_7) (n := sl_8) (by omega) (by omega) ?_
      clear hcs hsl
      refine lv_astore (lv' := [(4, .ref q9), (0, .ref a0), (1, .int x1), (2, .int x2), (3, .ref a3)]) hx hb dL_distance_13 hl (by decide) rfl (fun ls hl => ?_)
      refine lv_iconst (v := (1 : Int32)) hx hb dL_distance_15 (by decide) ?_
      refine vx_ret ?_
      refine W.widen (k := mc) (n := ms) (by omega) (by omega) ?_
      exact W.iret (v := (1 : Int32)) hx hb hr (fun t ht hW => ⟨⟨(1 : Int32), f_2, rfl, h, by rw [ht]; exact hF, FK.moved hW.alike hK⟩, hS.F ht⟩) hS.2.2 dL_distance_16
    · refine vx_catch hown ([⟨0, 10, 13, 13⟩] : List ExceptionTableEntry) ⟨0, 10, 17, 15⟩ [] (by rw [htab]; rfl) (List.forall_mem_cons.mpr ⟨Or.inr ⟨by decide, "java/lang/IllegalArgumentException", hts (.classLink RL 13 "java/lang/IllegalArgumentException") (by decide +kernel), hXN ("java/lang/IllegalStateException", "java/lang/IllegalArgumentException") (by decide +kernel)⟩, fun z hz => absurd hz List.not_mem_nil⟩) (by decide) (by decide) (hts (.classLink RL 15 "java/lang/IllegalStateException") (by decide +kernel)) (va_Nw.use rfl (hX.2.1 (.castable "java/lang/IllegalStateException" "java/lang/IllegalStateException") (by decide +kernel))) hq1 hq2 hq3 ?_
      obtain ⟨cs_9, hcs⟩ : ∃ z, z = (0 + ga_3) := ⟨_, rfl⟩; obtain ⟨sl_10, hsl⟩ : ∃ z, z = (0 + gb_4) := ⟨_, rfl⟩
      have hbc : cs_9 + (mc - ga_3) ≤ mc := by omega
      have hbs : sl_10 + (ms - gb_4) ≤ ms := by omega
      refine W.widen (k := cs_9) (n := sl_10) (by omega) (by omega) ?_
      clear hcs hsl
      refine lv_astore (lv' := [(4, .ref q9), (0, .ref a0), (1, .int x1), (2, .int x2), (3, .ref a3)]) hx hb dL_distance_17 hl (by decide) rfl (fun ls hl => ?_)
      refine lv_iconst (v := (2 : Int32)) hx hb dL_distance_19 (by decide) ?_
      refine vx_ret ?_
      refine W.widen (k := mc) (n := ms) (by omega) (by omega) ?_
      exact W.iret (v := (2 : Int32)) hx hb hr (fun t ht hW => ⟨⟨(2 : Int32), f_2, rfl, h, by rw [ht]; exact hF, FK.moved hW.alike hK⟩, hS.F ht⟩) hS.2.2 dL_distance_20
  · obtain ⟨cs_11, hcs⟩ : ∃ z, z = (0 + ga_3) := ⟨_, rfl⟩; obtain ⟨sl_12, hsl⟩ : ∃ z, z = (0 + gb_4) := ⟨_, rfl⟩
    have hbc : cs_11 + (mc - ga_3) ≤ mc := by omega
    have hbs : sl_12 + (ms - gb_4) ≤ ms := by omega
    refine W.widen (k := cs_11) (n := sl_12) (by omega) (by omega) ?_
    clear hcs hsl
    refine lv_i2l (v := (Int32.toInt64 r_1)) hx hb dL_distance_8 rfl ?_
    obtain ⟨n_q_13, q_13, he_q_13, hi_q_13, h⟩ := h
    refine fw_last hx hb hK hF hS he_q_13 hi_q_13 dL_distance_9 (fun H locs hF hS => ?_)
    obtain ⟨f_14, hf_f_14⟩ : ∃ z, z = fup f_2 a3 (.inl (3, n_q_13, .inr (.inl (vp_updL q_13 ((0 : Int32)).toNatClampNeg (Int32.toInt64 r_1))))) := ⟨_, rfl⟩
    rw [← hf_f_14] at hF; have h := h f_14 hf_f_14
    refine lv_goto (tgt := 21) hx hb dL_distance_10 (by decide) ?_
    refine lv_iconst (v := (0 : Int32)) hx hb dL_distance_21 (by decide) ?_
    refine vx_ret ?_
    refine W.widen (k := mc) (n := ms) (by omega) (by omega) ?_
    exact W.iret (v := (0 : Int32)) hx hb hr (fun t ht hW => ⟨⟨(0 : Int32), f_14, rfl, h, by rw [ht]; exact hF, FK.moved hW.alike hK⟩, hS.F ht⟩) hS.2.2 dL_distance_22
theorem dL_queue_0 : decode cL_queue 0 = .ok (.aload_n 2, 1) := by decide +kernel
theorem dL_queue_1 : decode cL_queue 1 = .ok (.iconst 0, 1) := by decide +kernel
theorem dL_queue_2 : decode cL_queue 2 = .ok (.aload_n 0, 1) := by decide +kernel
theorem dL_queue_3 : decode cL_queue 3 = .ok (.iload_n 1, 1) := by decide +kernel
theorem dL_queue_4 : decode cL_queue 4 = .ok (.invokevirtual 89, 3) := by decide +kernel
theorem dL_queue_7 : decode cL_queue 7 = .ok (.i2l, 1) := by decide +kernel
theorem dL_queue_8 : decode cL_queue 8 = .ok (.lastore, 1) := by decide +kernel
theorem dL_queue_9 : decode cL_queue 9 = .ok (.goto 6, 3) := by decide +kernel
theorem dL_queue_12 : decode cL_queue 12 = .ok (.astore_n 3, 1) := by decide +kernel
theorem dL_queue_13 : decode cL_queue 13 = .ok (.iconst 1, 1) := by decide +kernel
theorem dL_queue_14 : decode cL_queue 14 = .ok (.ireturn, 1) := by decide +kernel
theorem dL_queue_15 : decode cL_queue 15 = .ok (.iconst 0, 1) := by decide +kernel
theorem dL_queue_16 : decode cL_queue 16 = .ok (.ireturn, 1) := by decide +kernel
set_option maxRecDepth 20000 in
theorem ggL_queue_X8_queue : GoodIn wsL_queue wsX8_queue := goodIn_ca (goodIn_r _ [6, 7, 8, 9, 10, 11, 12, 13, 14, 15, 16, 17, 18, 19, 20, 21, 22, 23, 24, 25, 26, 27, 28, 29, 30, 31, 32, 33, 34, 35, 36, 37, 38, 39, 40, 41, 42, 43, 44, 45, 46, 47, 48, 49, 50, 51, 52, 53, 54, 55, 56, 57, 58, 59, 60, 61, 62, 63, 64, 65, 66, 67, 68, 69, 70, 71, 72, 73, 74, 75, 76, 77, 78, 79, 80, 81, 82, 83, 84, 85, 86, 87, 88, 89, 90, 91, 92, 93, 94, 95, 96, 97, 98, 99, 100, 101, 102, 103, 104, 105, 106, 107, 108, 109, 110, 111, 112, 113, 114, 115, 116, 117, 118, 119, 120, 121, 122, 123, 124, 125, 126, 127, 128, 129, 130, 131, 132, 133, 134, 135, 136, 137, 138, 139, 140, 141, 142, 143, 144, 145, 146, 147, 148, 149, 150, 151, 152, 153, 154, 155, 156, 157, 158, 159, 160, 161, 162, 163, 164, 165, 166, 167, 168] (by decide +kernel) (by decide +kernel)) (goodIn_sub (fun _ h => List.mem_cons_of_mem _ (List.mem_append_right _ h)) (by decide +kernel))
def wp_L_queue (zd : Nat) (a0 : Nat) (x1 : Int32) (a2 : Nat) (f : FT) (mc ms : Nat) (K : Int32 → FT → Prop) : Prop :=
  ∃ ga_3 gb_4 : Nat, ga_3 ≤ mc ∧ gb_4 ≤ ms ∧ isO f a0 11 ∧ wp_X8_queue zd a0 x1 f ga_3 gb_4 (fun r_1 f_2 => sJ f_2 a2 (0 : Int32) (Int32.toInt64 r_1) fun f_12 => K (0 : Int32) f_12) (fun E f_2 => (E = "java/lang/IllegalStateException" ∧ K (1 : Int32) f_2))
set_option maxHeartbeats 4000000 in
set_option maxRecDepth 100000 in
theorem cc_L_queue (l : Launch) (G : GG) {zd : Nat} (hzd : G.2.2 0 = zd) {f : FT} {sz : Nat} {a0 : Nat} {x1 : Int32} {a2 : Nat} {mc ms : Nat} {K : Int32 → FT → Prop} (hlt : l.stackTraces = false) (h : wp_L_queue zd a0 x1 a2 f mc ms K) : vx_Met l yL_queue wsL_queue ({ frames := 10, cells := mc, slots := ms, locals := 235 } : Room) (FPL G [.ref a0, .int x1, .ref a2] f sz) (va_Qi (fun r f9 => K r f9 : Int32 → FT → Prop) (FB G (fA f sz)) (fA f sz)) (FXC G (fA f sz) (fun _ _ => False)) mc ms (fA f sz) := by
  refine vx_ofWH (hh := [(0, 9, 12, 15)]) (cc := cL_queue) (maxL := 4) (ret := (some .int)) (by decide) rfl ?_
  intro p e s m args below meth c s₁ B hml hv
  obtain ⟨rfl, hsz, hF, hK, hZ, hX, hXN⟩ := hv
  have hx := B.exec
  have hb := B.bytes
  have hr := B.returns
  have hts := atoms_spec (ws := wsL_queue) B.pre
  have hown : s.vm.findClass RL = some m.cls := findClass_of_methodNamed B.named
  have hlocks := B.notSynchronized
  have htab : c.exceptionTable.toList = tableOf [(0, 9, 12, 15)] := vx_table (x := yL_queue) B (hts (.codeWith yL_queue cL_queue 4 (some .int) [(0, 9, 12, 15)]) (by decide +kernel))
  subst hsz
  have hF := hF.self (sz := s.heap.size)
  generalize hAe : fA f s.heap.size = A at hF hZ hX ⊢
  have hA : ∀ q : Nat, s.heap.size ≤ q → A q := fun q h => by rw [← hAe]; exact Or.inr h
  have hS : va_S A s.heap s.heap [] := va_S.rf
  have hZ9 : va_Z "java/util/ArrayList" "DEFAULTCAPACITY_EMPTY_ELEMENTDATA" "[Ljava/lang/Object;" (.ref zd) A s s.heap := by rw [← hzd]; exact hZ.1
  have hbc : 0 + mc ≤ mc := by omega
  have hbs : 0 + ms ≤ ms := by omega
  have hl := lv_entry ([.ref a0, .int x1, .ref a2]) (n := 4) (Nat.le_of_ble_eq_true rfl)
  rw [lg_entry_eq]
  generalize (lg_sl ([.ref a0, .int x1, .ref a2]) ++ List.replicate (4 - (lg_sl ([.ref a0, .int x1, .ref a2])).length) Slot.unset).toArray = ls at hl ⊢
  have hl : lv_has ls 4 [(0, .ref a0), (1, .int x1), (2, .ref a2)] := hl
  unfold wp_L_queue at h
  refine lv_aload_n hx hb dL_queue_0 rfl (lv_at hl 2 rfl) ?_
  refine lv_iconst (v := (0 : Int32)) hx hb dL_queue_1 (by decide) ?_
  refine lv_aload_n hx hb dL_queue_2 rfl (lv_at hl 0 rfl) ?_
  refine lv_iload_n hx hb dL_queue_3 rfl (lv_at hl 1 rfl) ?_
  obtain ⟨ga_3, gb_4, hga_ga_3, hgb_ga_3, h⟩ := h
  obtain ⟨⟨fs_r_1, hrc_r_1⟩, h⟩ := h
  refine fx_cVH_i (As := [.int x1]) (rest := [.int (0 : Int32), .ref a2]) ⟨hx, hb, hml, hown, hts⟩ (cc_X8_queue l G hzd hlt h) (⟨callB_of 1 hts ggL_queue_X8_queue rfl rfl rfl (hts (.initialized RX8) (by decide +kernel)) (hts (.methodLink RL 89 yX8_queue) (by decide +kernel)) (by decide +kernel) ⟨Nat.le_of_ble_eq_true rfl, Nat.le_of_ble_eq_true rfl⟩, hts (.instanceMethod yX8_queue) (by decide +kernel), hts (.selects RX8 yX8_queue yX8_queue) (by decide +kernel)⟩) rfl hrc_r_1 hK hZ hX hF hS hA rfl hl.1 rfl (Nat.le_of_ble_eq_true rfl) dL_queue_4 ⟨by show _ ≤ mc; omega, by show _ ≤ ms; omega⟩ (fun E ce q9 f_2 H locs h hF hS hq1 hq2 hq3 => ?_) (fun r_1 f_2 H locs h hF hS => ?_)
  · obtain ⟨rfl, h⟩ := h
    refine vx_catch hown ([] : List ExceptionTableEntry) ⟨0, 9, 12, 15⟩ [] (by rw [htab]; rfl) (fun z hz => absurd hz List.not_mem_nil) (by decide) (by decide) (hts (.classLink RL 15 "java/lang/IllegalStateException") (by decide +kernel)) (va_Nw.use rfl (hX.2.1 (.castable "java/lang/IllegalStateException" "java/lang/IllegalStateException") (by decide +kernel))) hq1 hq2 hq3 ?_
    obtain ⟨cs_7, hcs⟩ : ∃ z, z = (0 + ga_3) := ⟨_, rfl⟩; obtain ⟨sl_8, hsl⟩ : ∃ z, z = (0 + gb_4) := ⟨_, rfl⟩
    have hbc : cs_7 + (mc - ga_3) ≤ mc := by omega
    have hbs : sl_8 + (ms - gb_4) ≤ ms := by omega
    refine W.widen (k := cs_7) (n := sl_8) (by omega) (by omega) ?_
    clear hcs hsl
    refine lv_astore_n (lv' := [(3, .ref q9), (0, .ref a0), (1, .int x1), (2, .ref a2)]) hx hb dL_queue_12 rfl hl (by decide) rfl (fun ls hl => ?_)
    refine lv_iconst (v := (1 : Int32)) hx hb dL_queue_13 (by decide) ?_
    refine vx_ret ?_
    refine W.widen (k := mc) (n := ms) (by omega) (by omega) ?_
    exact W.iret (v := (1 : Int32)) hx hb hr (fun t ht hW => ⟨⟨(1 : Int32), f_2, rfl, h, by rw [ht]; exact hF, FK.moved hW.alike hK⟩, hS.F ht⟩) hS.2.2 dL_queue_14
  · obtain ⟨cs_9, hcs⟩ : ∃ z, z = (0 + ga_3) := ⟨_, rfl⟩; obtain ⟨sl_10, hsl⟩ : ∃ z, z = (0 + gb_4) := ⟨_, rfl⟩
    have hbc : cs_9 + (mc - ga_3) ≤ mc := by omega
    have hbs : sl_10 + (ms - gb_4) ≤ ms := by omega
    refine W.widen (k := cs_9) (n := sl_10) (by omega) (by omega) ?_
    clear hcs hsl
    refine lv_i2l (v := (Int32.toInt64 r_1)) hx hb dL_queue_7 rfl ?_
    obtain ⟨n_q_11, q_11, he_q_11, hi_q_11, h⟩ := h
    refine fw_last hx hb hK hF hS he_q_11 hi_q_11 dL_queue_8 (fun H locs hF hS => ?_)
    obtain ⟨f_12, hf_f_12⟩ : ∃ z, z = fup f_2 a2 (.inl (3, n_q_11, .inr (.inl (vp_updL q_11 ((0 : Int32)).toNatClampNeg (Int32.toInt64 r_1))))) := ⟨_, rfl⟩
    rw [← hf_f_12] at hF; have h := h f_12 hf_f_12
    refine lv_goto (tgt := 15) hx hb dL_queue_9 (by decide) ?_
    refine lv_iconst (v := (0 : Int32)) hx hb dL_queue_15 (by decide) ?_
    refine vx_ret ?_
    refine W.widen (k := mc) (n := ms) (by omega) (by omega) ?_
    exact W.iret (v := (0 : Int32)) hx hb hr (fun t ht hW => ⟨⟨(0 : Int32), f_12, rfl, h, by rw [ht]; exact hF, FK.moved hW.alike hK⟩, hS.F ht⟩) hS.2.2 dL_queue_16
theorem dL_load_0 : decode cL_load 0 = .ok (.aload_n 2, 1) := by decide +kernel
theorem dL_load_1 : decode cL_load 1 = .ok (.iconst 0, 1) := by decide +kernel
theorem dL_load_2 : decode cL_load 2 = .ok (.aload_n 0, 1) := by decide +kernel
theorem dL_load_3 : decode cL_load 3 = .ok (.iload_n 1, 1) := by decide +kernel
theorem dL_load_4 : decode cL_load 4 = .ok (.invokevirtual 92, 3) := by decide +kernel
theorem dL_load_7 : decode cL_load 7 = .ok (.i2l, 1) := by decide +kernel
theorem dL_load_8 : decode cL_load 8 = .ok (.lastore, 1) := by decide +kernel
theorem dL_load_9 : decode cL_load 9 = .ok (.goto 6, 3) := by decide +kernel
theorem dL_load_12 : decode cL_load 12 = .ok (.astore_n 3, 1) := by decide +kernel
theorem dL_load_13 : decode cL_load 13 = .ok (.iconst 1, 1) := by decide +kernel
theorem dL_load_14 : decode cL_load 14 = .ok (.ireturn, 1) := by decide +kernel
theorem dL_load_15 : decode cL_load 15 = .ok (.iconst 0, 1) := by decide +kernel
theorem dL_load_16 : decode cL_load 16 = .ok (.ireturn, 1) := by decide +kernel
set_option maxRecDepth 20000 in
theorem ggL_load_X8_load : GoodIn wsL_load wsX8_load := goodIn_ca (goodIn_r _ [6, 7, 8, 9, 10, 11, 12, 13, 14, 15, 16, 17, 18, 19, 20, 21, 22, 23, 24, 25, 26, 27, 28, 29, 30, 31, 32, 33, 34, 35, 36, 37, 38, 39, 40, 41, 42, 43, 44, 45, 46, 47, 48, 49, 50, 51, 52, 53, 54, 55, 56, 57, 58, 59, 60, 61, 62, 63, 64, 65, 66, 67, 68, 69, 70, 71, 72, 73, 74, 75, 76, 77, 78, 79, 80, 81, 82, 83, 84, 85, 86, 87, 88, 89, 90, 91, 92, 93, 94, 95, 96, 97, 98, 99, 100, 101, 102, 103, 104, 105, 106, 107, 108, 109, 110, 111, 112, 113, 114, 115, 116, 117, 118, 119, 120, 121, 122, 123, 124, 125, 126, 127, 128, 129, 130, 131, 132, 133, 134, 135, 136, 137, 138, 139, 140, 141, 142, 143, 144, 145, 146, 147, 148, 149, 150, 151, 152, 153, 154, 155, 156, 157, 158, 159, 160, 161, 162, 163, 164, 165, 166, 167, 168, 169, 170, 171, 172, 173, 174, 175, 176, 177, 178, 179, 180, 181, 182, 183, 184, 185, 186, 187, 188, 189, 190, 191, 192, 193, 194, 195, 196, 197, 198, 199, 200, 201, 202, 203, 204, 205, 206, 207, 208, 209, 210, 211, 212, 213, 214, 215, 216, 217, 218, 219, 220, 221, 222, 223, 224, 225, 226, 227, 228, 229, 230, 231, 232, 233, 234, 235, 236, 237, 238, 239, 240, 241, 242, 243, 244, 245, 246, 247, 248, 249, 250, 251, 252, 253, 254, 255, 256, 257, 258, 259, 260, 261, 262, 263, 264, 265, 266, 267, 268, 269, 270, 271, 272, 273, 274, 275, 276, 277, 278, 279, 280, 281, 282, 283, 284, 285, 286, 287, 288] (by decide +kernel) (by decide +kernel)) (goodIn_sub (fun _ h => List.mem_cons_of_mem _ (List.mem_append_right _ h)) (by decide +kernel))
def wp_L_load (zd : Nat) (a0 : Nat) (x1 : Int32) (a2 : Nat) (f : FT) (mc ms : Nat) (K : Int32 → FT → Prop) : Prop :=
  ∃ ga_3 gb_4 : Nat, ga_3 ≤ mc ∧ gb_4 ≤ ms ∧ isO f a0 11 ∧ wp_X8_load zd a0 x1 f ga_3 gb_4 (fun r_1 f_2 => sJ f_2 a2 (0 : Int32) (Int32.toInt64 r_1) fun f_12 => K (0 : Int32) f_12) (fun E f_2 => (E = "java/lang/IllegalArgumentException" ∧ K (1 : Int32) f_2))
set_option maxHeartbeats 4000000 in
set_option maxRecDepth 100000 in
theorem cc_L_load (l : Launch) (G : GG) {zd : Nat} (hzd : G.2.2 0 = zd) {f : FT} {sz : Nat} {a0 : Nat} {x1 : Int32} {a2 : Nat} {mc ms : Nat} {K : Int32 → FT → Prop} (hlt : l.stackTraces = false) (h : wp_L_load zd a0 x1 a2 f mc ms K) : vx_Met l yL_load wsL_load ({ frames := 11, cells := mc, slots := ms, locals := 264 } : Room) (FPL G [.ref a0, .int x1, .ref a2] f sz) (va_Qi (fun r f9 => K r f9 : Int32 → FT → Prop) (FB G (fA f sz)) (fA f sz)) (FXC G (fA f sz) (fun _ _ => False)) mc ms (fA f sz) := by
  refine vx_ofWH (hh := [(0, 9, 12, 13)]) (cc := cL_load) (maxL := 4) (ret := (some .int)) (by decide) rfl ?_
  intro p e s m args below meth c s₁ B hml hv
  obtain ⟨rfl, hsz, hF, hK, hZ, hX, hXN⟩ := hv
  have hx := B.exec
  have hb := B.bytes
  have hr := B.returns
  have hts := atoms_spec (ws := wsL_load) B.pre
  have hown : s.vm.findClass RL = some m.cls := findClass_of_methodNamed B.named
  have hlocks := B.notSynchronized
  have htab : c.exceptionTable.toList = tableOf [(0, 9, 12, 13)] := vx_table (x := yL_load) B (hts (.codeWith yL_load cL_load 4 (some .int) [(0, 9, 12, 13)]) (by decide +kernel))
  subst hsz
  have hF := hF.self (sz := s.heap.size)
  generalize hAe : fA f s.heap.size = A at hF hZ hX ⊢
  have hA : ∀ q : Nat, s.heap.size ≤ q → A q := fun q h => by rw [← hAe]; exact Or.inr h
  have hS : va_S A s.heap s.heap [] := va_S.rf
  have hZ9 : va_Z "java/util/ArrayList" "DEFAULTCAPACITY_EMPTY_ELEMENTDATA" "[Ljava/lang/Object;" (.ref zd) A s s.heap := by rw [← hzd]; exact hZ.1
  have hbc : 0 + mc ≤ mc := by omega
  have hbs : 0 + ms ≤ ms := by omega
  have hl := lv_entry ([.ref a0, .int x1, .ref a2]) (n := 4) (Nat.le_of_ble_eq_true rfl)
  rw [lg_entry_eq]
  generalize (lg_sl ([.ref a0, .int x1, .ref a2]) ++ List.replicate (4 - (lg_sl ([.ref a0, .int x1, .ref a2])).length) Slot.unset).toArray = ls at hl ⊢
  have hl : lv_has ls 4 [(0, .ref a0), (1, .int x1), (2, .ref a2)] := hl
  unfold wp_L_load at h
  refine lv_aload_n hx hb dL_load_0 rfl (lv_at hl 2 rfl) ?_
  refine lv_iconst (v := (0 : Int32)) hx hb dL_load_1 (by decide) ?_
  refine lv_aload_n hx hb dL_load_2 rfl (lv_at hl 0 rfl) ?_
  refine lv_iload_n hx hb dL_load_3 rfl (lv_at hl 1 rfl) ?_
  obtain ⟨ga_3, gb_4, hga_ga_3, hgb_ga_3, h⟩ := h
  obtain ⟨⟨fs_r_1, hrc_r_1⟩, h⟩ := h
  refine fx_cVH_i (As := [.int x1]) (rest := [.int (0 : Int32), .ref a2]) ⟨hx, hb, hml, hown, hts⟩ (cc_X8_load l G hzd hlt h) (⟨callB_of 1 hts ggL_load_X8_load rfl rfl rfl (hts (.initialized RX8) (by decide +kernel)) (hts (.methodLink RL 92 yX8_load) (by decide +kernel)) (by decide +kernel) ⟨Nat.le_of_ble_eq_true rfl, Nat.le_of_ble_eq_true rfl⟩, hts (.instanceMethod yX8_load) (by decide +kernel), hts (.selects RX8 yX8_load yX8_load) (by decide +kernel)⟩) rfl hrc_r_1 hK hZ hX hF hS hA rfl hl.1 rfl (Nat.le_of_ble_eq_true rfl) dL_load_4 ⟨by show _ ≤ mc; omega, by show _ ≤ ms; omega⟩ (fun E ce q9 f_2 H locs h hF hS hq1 hq2 hq3 => ?_) (fun r_1 f_2 H locs h hF hS => ?_)
  · obtain ⟨rfl, h⟩ := h
    refine vx_catch hown ([] : List ExceptionTableEntry) ⟨0, 9, 12, 13⟩ [] (by rw [htab]; rfl) (fun z hz => absurd hz List.not_mem_nil) (by decide) (by decide) (hts (.classLink RL 13 "java/lang/IllegalArgumentException") (by decide +kernel)) (va_Nw.use rfl (hX.2.1 (.castable "java/lang/IllegalArgumentException" "java/lang/IllegalArgumentException") (by decide +kernel))) hq1 hq2 hq3 ?_
    obtain ⟨cs_7, hcs⟩ : ∃ z, z = (0 + ga_3) := ⟨_, rfl⟩; obtain ⟨sl_8, hsl⟩ : ∃ z, z = (0 + gb_4) := ⟨_, rfl⟩
    have hbc : cs_7 + (mc - ga_3) ≤ mc := by omega
    have hbs : sl_8 + (ms - gb_4) ≤ ms := by omega
    refine W.widen (k := cs_7) (n := sl_8) (by omega) (by omega) ?_
    clear hcs hsl
    refine lv_astore_n (lv' := [(3, .ref q9), (0, .ref a0), (1, .int x1), (2, .ref a2)]) hx hb dL_load_12 rfl hl (by decide) rfl (fun ls hl => ?_)
    refine lv_iconst (v := (1 : Int32)) hx hb dL_load_13 (by decide) ?_
    refine vx_ret ?_
    refine W.widen (k := mc) (n := ms) (by omega) (by omega) ?_
    exact W.iret (v := (1 : Int32)) hx hb hr (fun t ht hW => ⟨⟨(1 : Int32), f_2, rfl, h, by rw [ht]; exact hF, FK.moved hW.alike hK⟩, hS.F ht⟩) hS.2.2 dL_load_14
  · obtain ⟨cs_9, hcs⟩ : ∃ z, z = (0 + ga_3) := ⟨_, rfl⟩; obtain ⟨sl_10, hsl⟩ : ∃ z, z = (0 + gb_4) := ⟨_, rfl⟩
    have hbc : cs_9 + (mc - ga_3) ≤ mc := by omega
    have hbs : sl_10 + (ms - gb_4) ≤ ms := by omega
    refine W.widen (k := cs_9) (n := sl_10) (by omega) (by omega) ?_
    clear hcs hsl
    refine lv_i2l (v := (Int32.toInt64 r_1)) hx hb dL_load_7 rfl ?_
    obtain ⟨n_q_11, q_11, he_q_11, hi_q_11, h⟩ := h
    refine fw_last hx hb hK hF hS he_q_11 hi_q_11 dL_load_8 (fun H locs hF hS => ?_)
    obtain ⟨f_12, hf_f_12⟩ : ∃ z, z = fup f_2 a2 (.inl (3, n_q_11, .inr (.inl (vp_updL q_11 ((0 : Int32)).toNatClampNeg (Int32.toInt64 r_1))))) := ⟨_, rfl⟩
    rw [← hf_f_12] at hF; have h := h f_12 hf_f_12
    refine lv_goto (tgt := 15) hx hb dL_load_9 (by decide) ?_
    refine lv_iconst (v := (0 : Int32)) hx hb dL_load_15 (by decide) ?_
    refine vx_ret ?_
    refine W.widen (k := mc) (n := ms) (by omega) (by omega) ?_
    exact W.iret (v := (0 : Int32)) hx hb hr (fun t ht hW => ⟨⟨(0 : Int32), f_12, rfl, h, by rw [ht]; exact hF, FK.moved hW.alike hK⟩, hS.F ht⟩) hS.2.2 dL_load_16
theorem dL_restoreSnapshot_0 : decode cL_restoreSnapshot 0 = .ok (.aload_n 1, 1) := by decide +kernel
theorem dL_restoreSnapshot_1 : decode cL_restoreSnapshot 1 = .ok (.iconst 0, 1) := by decide +kernel
theorem dL_restoreSnapshot_2 : decode cL_restoreSnapshot 2 = .ok (.aload_n 0, 1) := by decide +kernel
theorem dL_restoreSnapshot_3 : decode cL_restoreSnapshot 3 = .ok (.invokevirtual 95, 3) := by decide +kernel
theorem dL_restoreSnapshot_6 : decode cL_restoreSnapshot 6 = .ok (.i2l, 1) := by decide +kernel
theorem dL_restoreSnapshot_7 : decode cL_restoreSnapshot 7 = .ok (.lastore, 1) := by decide +kernel
theorem dL_restoreSnapshot_8 : decode cL_restoreSnapshot 8 = .ok (.goto 6, 3) := by decide +kernel
theorem dL_restoreSnapshot_11 : decode cL_restoreSnapshot 11 = .ok (.astore_n 2, 1) := by decide +kernel
theorem dL_restoreSnapshot_12 : decode cL_restoreSnapshot 12 = .ok (.iconst 1, 1) := by decide +kernel
theorem dL_restoreSnapshot_13 : decode cL_restoreSnapshot 13 = .ok (.ireturn, 1) := by decide +kernel
theorem dL_restoreSnapshot_14 : decode cL_restoreSnapshot 14 = .ok (.iconst 0, 1) := by decide +kernel
theorem dL_restoreSnapshot_15 : decode cL_restoreSnapshot 15 = .ok (.ireturn, 1) := by decide +kernel
set_option maxRecDepth 20000 in
theorem ggL_restoreSnapshot_X8_restoreSnapshot : GoodIn wsL_restoreSnapshot wsX8_restoreSnapshot := goodIn_ca (goodIn_r _ [6, 7, 8, 9, 10, 11, 12, 13, 14, 15, 16, 17, 18, 19, 20, 21, 22, 23, 24, 25, 26, 27, 28, 29, 30, 31, 32, 33, 34, 35, 36, 37, 38, 39, 40, 41, 42, 43, 44, 45, 46, 47, 48, 49, 50, 51, 52, 53, 54, 55, 56, 57, 58, 59, 60, 61, 62, 63, 64, 65, 66, 67, 68, 69, 70, 71, 72, 73, 74, 75, 76, 77, 78, 79, 80, 81, 82, 83, 84, 85, 86, 87, 88, 89, 90, 91, 92, 93, 94, 95, 96, 97, 98, 99, 100, 101, 102, 103, 104, 105, 106, 107, 108, 109, 110, 111, 112, 113, 114, 115, 116, 117, 118, 119, 120, 121, 122, 123, 124, 125, 126, 127, 128, 129, 130, 131, 132, 133, 134, 135, 136, 137, 138, 139, 140, 141, 142, 143, 144, 145, 146, 147, 148, 149, 150, 151, 152, 153, 154, 155, 156, 157, 158, 159, 160, 161, 162, 163, 164, 165, 166, 167, 168, 169, 170, 171, 172, 173, 174, 175, 176, 177, 178, 179, 180, 181, 182, 183, 184, 185, 186, 187, 188, 189, 190, 191, 192, 193, 194, 195, 196, 197, 198, 199, 200, 201] (by decide +kernel) (by decide +kernel)) (goodIn_sub (fun _ h => List.mem_cons_of_mem _ (List.mem_append_right _ h)) (by decide +kernel))
def wp_L_restoreSnapshot (zd : Nat) (a0 : Nat) (a1 : Nat) (f : FT) (mc ms : Nat) (K : Int32 → FT → Prop) : Prop :=
  ∃ ga_3 gb_4 : Nat, ga_3 ≤ mc ∧ gb_4 ≤ ms ∧ isO f a0 11 ∧ wp_X8_restoreSnapshot zd a0 f ga_3 gb_4 (fun r_1 f_2 => sJ f_2 a1 (0 : Int32) (Int32.toInt64 r_1) fun f_12 => K (0 : Int32) f_12) (fun E f_2 => (E = "java/lang/IllegalStateException" ∧ K (1 : Int32) f_2))
set_option maxHeartbeats 4000000 in
set_option maxRecDepth 100000 in
theorem cc_L_restoreSnapshot (l : Launch) (G : GG) {zd : Nat} (hzd : G.2.2 0 = zd) {f : FT} {sz : Nat} {a0 : Nat} {a1 : Nat} {mc ms : Nat} {K : Int32 → FT → Prop} (hlt : l.stackTraces = false) (h : wp_L_restoreSnapshot zd a0 a1 f mc ms K) : vx_Met l yL_restoreSnapshot wsL_restoreSnapshot ({ frames := 10, cells := mc, slots := ms, locals := 235 } : Room) (FPL G [.ref a0, .ref a1] f sz) (va_Qi (fun r f9 => K r f9 : Int32 → FT → Prop) (FB G (fA f sz)) (fA f sz)) (FXC G (fA f sz) (fun _ _ => False)) mc ms (fA f sz) := by
  refine vx_ofWH (hh := [(0, 8, 11, 15)]) (cc := cL_restoreSnapshot) (maxL := 3) (ret := (some .int)) (by decide) rfl ?_
  intro p e s m args below meth c s₁ B hml hv
  obtain ⟨rfl, hsz, hF, hK, hZ, hX, hXN⟩ := hv
  have hx := B.exec
  have hb := B.bytes
  have hr := B.returns
  have hts := atoms_spec (ws := wsL_restoreSnapshot) B.pre
  have hown : s.vm.findClass RL = some m.cls := findClass_of_methodNamed B.named
  have hlocks := B.notSynchronized
  have htab : c.exceptionTable.toList = tableOf [(0, 8, 11, 15)] := vx_table (x := yL_restoreSnapshot) B (hts (.codeWith yL_restoreSnapshot cL_restoreSnapshot 3 (some .int) [(0, 8, 11, 15)]) (by decide +kernel))
  subst hsz
  have hF := hF.self (sz := s.heap.size)
  generalize hAe : fA f s.heap.size = A at hF hZ hX ⊢
  have hA : ∀ q : Nat, s.heap.size ≤ q → A q := fun q h => by rw [← hAe]; exact Or.inr h
  have hS : va_S A s.heap s.heap [] := va_S.rf
  have hZ9 : va_Z "java/util/ArrayList" "DEFAULTCAPACITY_EMPTY_ELEMENTDATA" "[Ljava/lang/Object;" (.ref zd) A s s.heap := by rw [← hzd]; exact hZ.1
  have hbc : 0 + mc ≤ mc := by omega
  have hbs : 0 + ms ≤ ms := by omega
  have hl := lv_entry ([.ref a0, .ref a1]) (n := 3) (Nat.le_of_ble_eq_true rfl)
  rw [lg_entry_eq]
  generalize (lg_sl ([.ref a0, .ref a1]) ++ List.replicate (3 - (lg_sl ([.ref a0, .ref a1])).length) Slot.unset).toArray = ls at hl ⊢
  have hl : lv_has ls 3 [(0, .ref a0), (1, .ref a1)] := hl
  unfold wp_L_restoreSnapshot at h
  refine lv_aload_n hx hb dL_restoreSnapshot_0 rfl (lv_at hl 1 rfl) ?_
  refine lv_iconst (v := (0 : Int32)) hx hb dL_restoreSnapshot_1 (by decide) ?_
  refine lv_aload_n hx hb dL_restoreSnapshot_2 rfl (lv_at hl 0 rfl) ?_
  obtain ⟨ga_3, gb_4, hga_ga_3, hgb_ga_3, h⟩ := h
  obtain ⟨⟨fs_r_1, hrc_r_1⟩, h⟩ := h
  refine fx_cVH_i (As := []) (rest := [.int (0 : Int32), .ref a1]) ⟨hx, hb, hml, hown, hts⟩ (cc_X8_restoreSnapshot l G hzd hlt h) (⟨callB_of 0 hts ggL_restoreSnapshot_X8_restoreSnapshot rfl rfl rfl (hts (.initialized RX8) (by decide +kernel)) (hts (.methodLink RL 95 yX8_restoreSnapshot) (by decide +kernel)) (by decide +kernel) ⟨Nat.le_of_ble_eq_true rfl, Nat.le_of_ble_eq_true rfl⟩, hts (.instanceMethod yX8_restoreSnapshot) (by decide +kernel), hts (.selects RX8 yX8_restoreSnapshot yX8_restoreSnapshot) (by decide +kernel)⟩) rfl hrc_r_1 hK hZ hX hF hS hA rfl hl.1 rfl (Nat.le_of_ble_eq_true rfl) dL_restoreSnapshot_3 ⟨by show _ ≤ mc; omega, by show _ ≤ ms; omega⟩ (fun E ce q9 f_2 H locs h hF hS hq1 hq2 hq3 => ?_) (fun r_1 f_2 H locs h hF hS => ?_)
  · obtain ⟨rfl, h⟩ := h
    refine vx_catch hown ([] : List ExceptionTableEntry) ⟨0, 8, 11, 15⟩ [] (by rw [htab]; rfl) (fun z hz => absurd hz List.not_mem_nil) (by decide) (by decide) (hts (.classLink RL 15 "java/lang/IllegalStateException") (by decide +kernel)) (va_Nw.use rfl (hX.2.1 (.castable "java/lang/IllegalStateException" "java/lang/IllegalStateException") (by decide +kernel))) hq1 hq2 hq3 ?_
    obtain ⟨cs_7, hcs⟩ : ∃ z, z = (0 + ga_3) := ⟨_, rfl⟩; obtain ⟨sl_8, hsl⟩ : ∃ z, z = (0 + gb_4) := ⟨_, rfl⟩
    have hbc : cs_7 + (mc - ga_3) ≤ mc := by omega
    have hbs : sl_8 + (ms - gb_4) ≤ ms := by omega
    refine W.widen (k := cs_7) (n := sl_8) (by omega) (by omega) ?_
    clear hcs hsl
    refine lv_astore_n (lv' := [(2, .ref q9), (0, .ref a0), (1, .ref a1)]) hx hb dL_restoreSnapshot_11 rfl hl (by decide) rfl (fun ls hl => ?_)
    refine lv_iconst (v := (1 : Int32)) hx hb dL_restoreSnapshot_12 (by decide) ?_
    refine vx_ret ?_
    refine W.widen (k := mc) (n := ms) (by omega) (by omega) ?_
    exact W.iret (v := (1 : Int32)) hx hb hr (fun t ht hW => ⟨⟨(1 : Int32), f_2, rfl, h, by rw [ht]; exact hF, FK.moved hW.alike hK⟩, hS.F ht⟩) hS.2.2 dL_restoreSnapshot_13
  · obtain ⟨cs_9, hcs⟩ : ∃ z, z = (0 + ga_3) := ⟨_, rfl⟩; obtain ⟨sl_10, hsl⟩ : ∃ z, z = (0 + gb_4) := ⟨_, rfl⟩
    have hbc : cs_9 + (mc - ga_3) ≤ mc := by omega
    have hbs : sl_10 + (ms - gb_4) ≤ ms := by omega
    refine W.widen (k := cs_9) (n := sl_10) (by omega) (by omega) ?_
    clear hcs hsl
    refine lv_i2l (v := (Int32.toInt64 r_1)) hx hb dL_restoreSnapshot_6 rfl ?_
    obtain ⟨n_q_11, q_11, he_q_11, hi_q_11, h⟩ := h
    refine fw_last hx hb hK hF hS he_q_11 hi_q_11 dL_restoreSnapshot_7 (fun H locs hF hS => ?_)
    obtain ⟨f_12, hf_f_12⟩ : ∃ z, z = fup f_2 a1 (.inl (3, n_q_11, .inr (.inl (vp_updL q_11 ((0 : Int32)).toNatClampNeg (Int32.toInt64 r_1))))) := ⟨_, rfl⟩
    rw [← hf_f_12] at hF; have h := h f_12 hf_f_12
    refine lv_goto (tgt := 14) hx hb dL_restoreSnapshot_8 (by decide) ?_
    refine lv_iconst (v := (0 : Int32)) hx hb dL_restoreSnapshot_14 (by decide) ?_
    refine vx_ret ?_
    refine W.widen (k := mc) (n := ms) (by omega) (by omega) ?_
    exact W.iret (v := (0 : Int32)) hx hb hr (fun t ht hW => ⟨⟨(0 : Int32), f_12, rfl, h, by rw [ht]; exact hF, FK.moved hW.alike hK⟩, hS.F ht⟩) hS.2.2 dL_restoreSnapshot_15
