theorem dL_feed_0 : decode cL_feed 0 = .ok (.aload_n 2, 1) := by decide +kernel
theorem dL_feed_1 : decode cL_feed 1 = .ok (.iconst 0, 1) := by decide +kernel
theorem dL_feed_2 : decode cL_feed 2 = .ok (.aload_n 0, 1) := by decide +kernel
theorem dL_feed_3 : decode cL_feed 3 = .ok (.iload_n 1, 1) := by decide +kernel
theorem dL_feed_4 : decode cL_feed 4 = .ok (.invokevirtual 7, 3) := by decide +kernel
theorem dL_feed_7 : decode cL_feed 7 = .ok (.i2l, 1) := by decide +kernel
theorem dL_feed_8 : decode cL_feed 8 = .ok (.lastore, 1) := by decide +kernel
theorem dL_feed_9 : decode cL_feed 9 = .ok (.goto 9, 3) := by decide +kernel
theorem dL_feed_12 : decode cL_feed 12 = .ok (.astore_n 3, 1) := by decide +kernel
theorem dL_feed_13 : decode cL_feed 13 = .ok (.iconst 1, 1) := by decide +kernel
theorem dL_feed_14 : decode cL_feed 14 = .ok (.ireturn, 1) := by decide +kernel
theorem dL_feed_15 : decode cL_feed 15 = .ok (.astore_n 3, 1) := by decide +kernel
theorem dL_feed_16 : decode cL_feed 16 = .ok (.iconst 2, 1) := by decide +kernel
theorem dL_feed_17 : decode cL_feed 17 = .ok (.ireturn, 1) := by decide +kernel
theorem dL_feed_18 : decode cL_feed 18 = .ok (.iconst 0, 1) := by decide +kernel
theorem dL_feed_19 : decode cL_feed 19 = .ok (.ireturn, 1) := by decide +kernel
set_option maxRecDepth 20000 in
theorem ggL_feed_X8_feed : GoodIn wsL_feed wsX8_feed := goodIn_ca (goodIn_ca (goodIn_r _ [7, 8, 9, 10, 11, 12, 13, 14, 15, 16, 17, 18, 19, 20, 21, 22, 23, 24, 25, 26, 27, 28, 29, 30, 31, 32, 33, 34, 35, 36, 37, 38, 39, 40, 41, 42, 43, 44, 45, 46, 47, 48, 49, 50, 51, 52, 53, 54, 55, 56, 57, 58, 59] (by decide +kernel) (by decide +kernel)) (goodIn_sub (fun _ h => List.mem_cons_of_mem _ (List.mem_append_left _ (List.mem_append_right _ h))) (by decide +kernel))) (goodIn_sub (fun _ h => List.mem_cons_of_mem _ (List.mem_append_right _ h)) (by decide +kernel))
def wp_L_feed (a0 : Nat) (x1 : Int32) (a2 : Nat) (f : FT) (mc ms : Nat) (K : Int32 → FT → Prop) : Prop :=
  ∃ ga_3 gb_4 : Nat, ga_3 ≤ mc ∧ gb_4 ≤ ms ∧ isO f a0 11 ∧ wp_X8_feed a0 x1 f ga_3 gb_4 (fun r_1 f_2 => sJ f_2 a2 (0 : Int32) (Int32.toInt64 r_1) fun f_14 => K (0 : Int32) f_14) (fun E f_2 => (E = "java/lang/IllegalArgumentException" ∧ K (1 : Int32) f_2) ∨ (E = "java/lang/IllegalStateException" ∧ K (2 : Int32) f_2))
set_option maxHeartbeats 4000000 in
set_option maxRecDepth 100000 in
theorem cc_L_feed (l : Launch) (G : GG) {f : FT} {sz : Nat} {a0 : Nat} {x1 : Int32} {a2 : Nat} {mc ms : Nat} {K : Int32 → FT → Prop} (hlt : l.stackTraces = false) (h : wp_L_feed a0 x1 a2 f mc ms K) : vx_Met l yL_feed wsL_feed ({ frames := 7, cells := mc, slots := ms, locals := 111 } : Room) (FPL G [.ref a0, .int x1, .ref a2] f sz) (va_Qi (fun r f9 => K r f9 : Int32 → FT → Prop) (FB G (fA f sz)) (fA f sz)) (FXC G (fA f sz) (fun _ _ => False)) mc ms (fA f sz) := by
  refine vx_ofWH (hh := [(0, 9, 12, 13), (0, 9, 15, 15)]) (cc := cL_feed) (maxL := 4) (ret := (some .int)) (by decide) rfl ?_
  intro p e s m args below meth c s₁ B hml hv
  obtain ⟨rfl, hsz, hF, hK, hZ, hX, hXN⟩ := hv
  have hx := B.exec
  have hb := B.bytes
  have hr := B.returns
  have hts := atoms_spec (ws := wsL_feed) B.pre
  have hown : s.vm.findClass RL = some m.cls := findClass_of_methodNamed B.named
  have hlocks := B.notSynchronized
  have htab : c.exceptionTable.toList = tableOf [(0, 9, 12, 13), (0, 9, 15, 15)] := vx_table (x := yL_feed) B (hts (.codeWith yL_feed cL_feed 4 (some .int) [(0, 9, 12, 13), (0, 9, 15, 15)]) (by decide +kernel))
  subst hsz
  have hF := hF.self (sz := s.heap.size)
  generalize hAe : fA f s.heap.size = A at hF hZ hX ⊢
  have hA : ∀ q : Nat, s.heap.size ≤ q → A q := fun q h => by rw [← hAe]; exact Or.inr h
  have hS : va_S A s.heap s.heap [] := va_S.rf
  have hbc : 0 + mc ≤ mc := by omega
  have hbs : 0 + ms ≤ ms := by omega
  have hl := lv_entry ([.ref a0, .int x1, .ref a2]) (n := 4) (Nat.le_of_ble_eq_true rfl)
  rw [lg_entry_eq]
  generalize (lg_sl ([.ref a0, .int x1, .ref a2]) ++ List.replicate (4 - (lg_sl ([.ref a0, .int x1, .ref a2])).length) Slot.unset).toArray = ls at hl ⊢
  have hl : lv_has ls 4 [(0, .ref a0), (1, .int x1), (2, .ref a2)] := hl
  unfold wp_L_feed at h
  refine lv_aload_n hx hb dL_feed_0 rfl (lv_at hl 2 rfl) ?_
  refine lv_iconst (v := (0 : Int32)) hx hb dL_feed_1 (by decide) ?_
  refine lv_aload_n hx hb dL_feed_2 rfl (lv_at hl 0 rfl) ?_
  refine lv_iload_n hx hb dL_feed_3 rfl (lv_at hl 1 rfl) ?_
  obtain ⟨ga_3, gb_4, hga_ga_3, hgb_ga_3, h⟩ := h
  obtain ⟨⟨fs_r_1, hrc_r_1⟩, h⟩ := h
  refine fx_cVH_i (As := [.int x1]) (rest := [.int (0 : Int32), .ref a2]) ⟨hx, hb, hml, hown, hts⟩ (cc_X8_feed l G hlt h) (⟨callB_of 1 hts ggL_feed_X8_feed rfl rfl rfl (hts (.initialized RX8) (by decide +kernel)) (hts (.methodLink RL 7 yX8_feed) (by decide +kernel)) (by decide +kernel) ⟨Nat.le_of_ble_eq_true rfl, Nat.le_of_ble_eq_true rfl⟩, hts (.instanceMethod yX8_feed) (by decide +kernel), hts (.selects RX8 yX8_feed yX8_feed) (by decide +kernel)⟩) rfl hrc_r_1 hK hZ hX hF hS hA rfl hl.1 rfl (Nat.le_of_ble_eq_true rfl) dL_feed_4 ⟨by show _ ≤ mc; omega, by show _ ≤ ms; omega⟩ (fun E ce q9 f_2 H locs h hF hS hq1 hq2 hq3 => ?_) (fun r_1 f_2 H locs h hF hS => ?_)
  · rcases h with ⟨rfl, h⟩ | ⟨rfl, h⟩
    · refine vx_catch hown ([] : List ExceptionTableEntry) ⟨0, 9, 12, 13⟩ [⟨0, 9, 15, 15⟩] (by rw [htab]; rfl) (fun z hz => absurd hz List.not_mem_nil) (by decide) (by decide) (hts (.classLink RL 13 "java/lang/IllegalArgumentException") (by decide +kernel)) (va_Nw.use rfl (hX.2.1 (.castable "java/lang/IllegalArgumentException" "java/lang/IllegalArgumentException") (by decide +kernel))) hq1 hq2 hq3 ?_
      obtain ⟨cs_7, hcs⟩ : ∃ z, z = (0 + ga_3) := ⟨_, rfl⟩; obtain ⟨sl_8, hsl⟩ : ∃ z, z = (0 + gb_4) := ⟨_, rfl⟩
      have hbc : cs_7 + (mc - ga_3) ≤ mc := by omega
      have hbs : sl_8 + (ms - gb_4) ≤ ms := by omega
      refine W.widen (k := cs_7) (n := sl_8) (by omega) (by omega) ?_
      clear hcs hsl
      refine lv_astore_n (lv' := [(3, .ref q9), (0, .ref a0), (1, .int x1), (2, .ref a2)]) hx hb dL_feed_12 rfl hl (by decide) rfl (fun ls hl => ?_)
      refine lv_iconst (v := (1 : Int32)) hx hb dL_feed_13 (by decide) ?_
      refine vx_ret ?_
      refine W.widen (k := mc) (n := ms) (by omega) (by omega) ?_
      exact W.iret (v := (1 : Int32)) hx hb hr (fun t ht hW => ⟨⟨(1 : Int32), f_2, rfl, h, by rw [ht]; exact hF, FK.moved hW.alike hK⟩, hS.F ht⟩) hS.2.2 dL_feed_14
    · refine vx_catch hown ([⟨0, 9, 12, 13⟩] : List ExceptionTableEntry) ⟨0, 9, 15, 15⟩ [] (by rw [htab]; rfl) (List.forall_mem_cons.mpr ⟨Or.inr ⟨by decide, "java/lang/IllegalArgumentException", hts (.classLink RL 13 "java/lang/IllegalArgumentException") (by decide +kernel), hXN ("java/lang/IllegalStateException", "java/lang/IllegalArgumentException") (by decide +kernel)⟩, fun z hz => absurd hz List.not_mem_nil⟩) (by decide) (by decide) (hts (.classLink RL 15 "java/lang/IllegalStateException") (by decide +kernel)) (va_Nw.use rfl (hX.2.1 (.castable "java/lang/IllegalStateException" "java/lang/IllegalStateException") (by decide +kernel))) hq1 hq2 hq3 ?_
      obtain ⟨cs_9, hcs⟩ : ∃ z, z = (0 + ga_3) := ⟨_, rfl⟩; obtain ⟨sl_10, hsl⟩ : ∃ z, z = (0 + gb_4) := ⟨_, rfl⟩
      have hbc : cs_9 + (mc - ga_3) ≤ mc := by omega
      have hbs : sl_10 + (ms - gb_4) ≤ ms := by omega
      refine W.widen (k := cs_9) (n := sl_10) (by omega) (by omega) ?_
      clear hcs hsl
      refine lv_astore_n (lv' := [(3, .ref q9), (0, .ref a0), (1, .int x1), (2, .ref a2)]) hx hb dL_feed_15 rfl hl (by decide) rfl (fun ls hl => ?_)
      refine lv_iconst (v := (2 : Int32)) hx hb dL_feed_16 (by decide) ?_
      refine vx_ret ?_
      refine W.widen (k := mc) (n := ms) (by omega) (by omega) ?_
      exact W.iret (v := (2 : Int32)) hx hb hr (fun t ht hW => ⟨⟨(2 : Int32), f_2, rfl, h, by rw [ht]; exact hF, FK.moved hW.alike hK⟩, hS.F ht⟩) hS.2.2 dL_feed_17
  · obtain ⟨cs_11, hcs⟩ : ∃ z, z = (0 + ga_3) := ⟨_, rfl⟩; obtain ⟨sl_12, hsl⟩ : ∃ z, z = (0 + gb_4) := ⟨_, rfl⟩
    have hbc : cs_11 + (mc - ga_3) ≤ mc := by omega
    have hbs : sl_12 + (ms - gb_4) ≤ ms := by omega
    refine W.widen (k := cs_11) (n := sl_12) (by omega) (by omega) ?_
    clear hcs hsl
    refine lv_i2l (v := (Int32.toInt64 r_1)) hx hb dL_feed_7 rfl ?_
    obtain ⟨n_q_13, q_13, he_q_13, hi_q_13, h⟩ := h
    refine fw_last hx hb hK hF hS he_q_13 hi_q_13 dL_feed_8 (fun H locs hF hS => ?_)
    obtain ⟨f_14, hf_f_14⟩ : ∃ z, z = fup f_2 a2 (.inl (3, n_q_13, .inr (.inl (vp_updL q_13 ((0 : Int32)).toNatClampNeg (Int32.toInt64 r_1))))) := ⟨_, rfl⟩
    rw [← hf_f_14] at hF; have h := h f_14 hf_f_14
    refine lv_goto (tgt := 18) hx hb dL_feed_9 (by decide) ?_
    refine lv_iconst (v := (0 : Int32)) hx hb dL_feed_18 (by decide) ?_
    refine vx_ret ?_
    refine W.widen (k := mc) (n := ms) (by omega) (by omega) ?_
    exact W.iret (v := (0 : Int32)) hx hb hr (fun t ht hW => ⟨⟨(0 : Int32), f_14, rfl, h, by rw [ht]; exact hF, FK.moved hW.alike hK⟩, hS.F ht⟩) hS.2.2 dL_feed_19
theorem dL_setKey_0 : decode cL_setKey 0 = .ok (.aload 4, 2) := by decide +kernel
theorem dL_setKey_2 : decode cL_setKey 2 = .ok (.iconst 0, 1) := by decide +kernel
theorem dL_setKey_3 : decode cL_setKey 3 = .ok (.aload_n 0, 1) := by decide +kernel
theorem dL_setKey_4 : decode cL_setKey 4 = .ok (.lload_n 1, 1) := by decide +kernel
theorem dL_setKey_5 : decode cL_setKey 5 = .ok (.iload_n 3, 1) := by decide +kernel
theorem dL_setKey_6 : decode cL_setKey 6 = .ok (.invokevirtual 17, 3) := by decide +kernel
theorem dL_setKey_9 : decode cL_setKey 9 = .ok (.i2l, 1) := by decide +kernel
theorem dL_setKey_10 : decode cL_setKey 10 = .ok (.lastore, 1) := by decide +kernel
theorem dL_setKey_11 : decode cL_setKey 11 = .ok (.goto 7, 3) := by decide +kernel
theorem dL_setKey_14 : decode cL_setKey 14 = .ok (.astore 5, 2) := by decide +kernel
theorem dL_setKey_16 : decode cL_setKey 16 = .ok (.iconst 1, 1) := by decide +kernel
theorem dL_setKey_17 : decode cL_setKey 17 = .ok (.ireturn, 1) := by decide +kernel
theorem dL_setKey_18 : decode cL_setKey 18 = .ok (.iconst 0, 1) := by decide +kernel
theorem dL_setKey_19 : decode cL_setKey 19 = .ok (.ireturn, 1) := by decide +kernel
set_option maxRecDepth 20000 in
theorem ggL_setKey_X8_setKey : GoodIn wsL_setKey wsX8_setKey := goodIn_ca (goodIn_r _ [6, 7, 8, 9, 10, 11, 12, 13, 14, 15, 16, 17, 18, 19, 20, 21, 22, 23, 24, 25, 26, 27, 28, 29, 30, 31] (by decide +kernel) (by decide +kernel)) (goodIn_sub (fun _ h => List.mem_cons_of_mem _ (List.mem_append_right _ h)) (by decide +kernel))
def wp_L_setKey (a0 : Nat) (w1 : Int64) (x3 : Int32) (a4 : Nat) (f : FT) (mc ms : Nat) (K : Int32 → FT → Prop) : Prop :=
  ∃ ga_3 gb_4 : Nat, ga_3 ≤ mc ∧ gb_4 ≤ ms ∧ isO f a0 11 ∧ wp_X8_setKey a0 w1 x3 f ga_3 gb_4 (fun r_1 f_2 => sJ f_2 a4 (0 : Int32) (Int32.toInt64 r_1) fun f_12 => K (0 : Int32) f_12) (fun E f_2 => (E = "java/lang/IllegalArgumentException" ∧ K (1 : Int32) f_2))
set_option maxHeartbeats 4000000 in
set_option maxRecDepth 100000 in
theorem cc_L_setKey (l : Launch) (G : GG) {f : FT} {sz : Nat} {a0 : Nat} {w1 : Int64} {x3 : Int32} {a4 : Nat} {mc ms : Nat} {K : Int32 → FT → Prop} (hlt : l.stackTraces = false) (h : wp_L_setKey a0 w1 x3 a4 f mc ms K) : vx_Met l yL_setKey wsL_setKey ({ frames := 7, cells := mc, slots := ms, locals := 118 } : Room) (FPL G [.ref a0, .long w1, .int x3, .ref a4] f sz) (va_Qi (fun r f9 => K r f9 : Int32 → FT → Prop) (FB G (fA f sz)) (fA f sz)) (FXC G (fA f sz) (fun _ _ => False)) mc ms (fA f sz) := by
  refine vx_ofWH (hh := [(0, 11, 14, 13)]) (cc := cL_setKey) (maxL := 6) (ret := (some .int)) (by decide) rfl ?_
  intro p e s m args below meth c s₁ B hml hv
  obtain ⟨rfl, hsz, hF, hK, hZ, hX, hXN⟩ := hv
  have hx := B.exec
  have hb := B.bytes
  have hr := B.returns
  have hts := atoms_spec (ws := wsL_setKey) B.pre
  have hown : s.vm.findClass RL = some m.cls := findClass_of_methodNamed B.named
  have hlocks := B.notSynchronized
  have htab : c.exceptionTable.toList = tableOf [(0, 11, 14, 13)] := vx_table (x := yL_setKey) B (hts (.codeWith yL_setKey cL_setKey 6 (some .int) [(0, 11, 14, 13)]) (by decide +kernel))
  subst hsz
  have hF := hF.self (sz := s.heap.size)
  generalize hAe : fA f s.heap.size = A at hF hZ hX ⊢
  have hA : ∀ q : Nat, s.heap.size ≤ q → A q := fun q h => by rw [← hAe]; exact Or.inr h
  have hS : va_S A s.heap s.heap [] := va_S.rf
  have hbc : 0 + mc ≤ mc := by omega
  have hbs : 0 + ms ≤ ms := by omega
  have hl := lv_entry ([.ref a0, .long w1, .int x3, .ref a4]) (n := 6) (Nat.le_of_ble_eq_true rfl)
  rw [lg_entry_eq]
  generalize (lg_sl ([.ref a0, .long w1, .int x3, .ref a4]) ++ List.replicate (6 - (lg_sl ([.ref a0, .long w1, .int x3, .ref a4])).length) Slot.unset).toArray = ls at hl ⊢
  have hl : lv_has ls 6 [(0, .ref a0), (1, .long w1), (3, .int x3), (4, .ref a4)] := hl
  unfold wp_L_setKey at h
  refine lv_aload hx hb dL_setKey_0 (lv_at hl 3 rfl) ?_
  refine lv_iconst (v := (0 : Int32)) hx hb dL_setKey_2 (by decide) ?_
  refine lv_aload_n hx hb dL_setKey_3 rfl (lv_at hl 0 rfl) ?_
  refine lv_lload_n hx hb dL_setKey_4 rfl (lv_at hl 1 rfl) ?_
  refine lv_iload_n hx hb dL_setKey_5 rfl (lv_at hl 2 rfl) ?_
  obtain ⟨ga_3, gb_4, hga_ga_3, hgb_ga_3, h⟩ := h
  obtain ⟨⟨fs_r_1, hrc_r_1⟩, h⟩ := h
  refine fx_cVH_i (As := [.long w1, .int x3]) (rest := [.int (0 : Int32), .ref a4]) ⟨hx, hb, hml, hown, hts⟩ (cc_X8_setKey l G hlt h) (⟨callB_of 2 hts ggL_setKey_X8_setKey rfl rfl rfl (hts (.initialized RX8) (by decide +kernel)) (hts (.methodLink RL 17 yX8_setKey) (by decide +kernel)) (by decide +kernel) ⟨Nat.le_of_ble_eq_true rfl, Nat.le_of_ble_eq_true rfl⟩, hts (.instanceMethod yX8_setKey) (by decide +kernel), hts (.selects RX8 yX8_setKey yX8_setKey) (by decide +kernel)⟩) rfl hrc_r_1 hK hZ hX hF hS hA rfl hl.1 rfl (Nat.le_of_ble_eq_true rfl) dL_setKey_6 ⟨by show _ ≤ mc; omega, by show _ ≤ ms; omega⟩ (fun E ce q9 f_2 H locs h hF hS hq1 hq2 hq3 => ?_) (fun r_1 f_2 H locs h hF hS => ?_)
  · obtain ⟨rfl, h⟩ := h
    refine vx_catch hown ([] : List ExceptionTableEntry) ⟨0, 11, 14, 13⟩ [] (by rw [htab]; rfl) (fun z hz => absurd hz List.not_mem_nil) (by decide) (by decide) (hts (.classLink RL 13 "java/lang/IllegalArgumentException") (by decide +kernel)) (va_Nw.use rfl (hX.2.1 (.castable "java/lang/IllegalArgumentException" "java/lang/IllegalArgumentException") (by decide +kernel))) hq1 hq2 hq3 ?_
    obtain ⟨cs_7, hcs⟩ : ∃ z, z = (0 + ga_3) := ⟨_, rfl⟩; obtain ⟨sl_8, hsl⟩ : ∃ z, z = (0 + gb_4) := ⟨_, rfl⟩
    have hbc : cs_7 + (mc - ga_3) ≤ mc := by omega
    have hbs : sl_8 + (ms - gb_4) ≤ ms := by omega
    refine W.widen (k := cs_7) (n := sl_8) (by omega) (by omega) ?_
    clear hcs hsl
    refine lv_astore (lv' := [(5, .ref q9), (0, .ref a0), (1, .long w1), (3, .int x3), (4, .ref a4)]) hx hb dL_setKey_14 hl (by decide) rfl (fun ls hl => ?_)
    refine lv_iconst (v := (1 : Int32)) hx hb dL_setKey_16 (by decide) ?_
    refine vx_ret ?_
    refine W.widen (k := mc) (n := ms) (by omega) (by omega) ?_
    exact W.iret (v := (1 : Int32)) hx hb hr (fun t ht hW => ⟨⟨(1 : Int32), f_2, rfl, h, by rw [ht]; exact hF, FK.moved hW.alike hK⟩, hS.F ht⟩) hS.2.2 dL_setKey_17
  · obtain ⟨cs_9, hcs⟩ : ∃ z, z = (0 + ga_3) := ⟨_, rfl⟩; obtain ⟨sl_10, hsl⟩ : ∃ z, z = (0 + gb_4) := ⟨_, rfl⟩
    have hbc : cs_9 + (mc - ga_3) ≤ mc := by omega
    have hbs : sl_10 + (ms - gb_4) ≤ ms := by omega
    refine W.widen (k := cs_9) (n := sl_10) (by omega) (by omega) ?_
    clear hcs hsl
    refine lv_i2l (v := (Int32.toInt64 r_1)) hx hb dL_setKey_9 rfl ?_
    obtain ⟨n_q_11, q_11, he_q_11, hi_q_11, h⟩ := h
    refine fw_last hx hb hK hF hS he_q_11 hi_q_11 dL_setKey_10 (fun H locs hF hS => ?_)
    obtain ⟨f_12, hf_f_12⟩ : ∃ z, z = fup f_2 a4 (.inl (3, n_q_11, .inr (.inl (vp_updL q_11 ((0 : Int32)).toNatClampNeg (Int32.toInt64 r_1))))) := ⟨_, rfl⟩
    rw [← hf_f_12] at hF; have h := h f_12 hf_f_12
    refine lv_goto (tgt := 18) hx hb dL_setKey_11 (by decide) ?_
    refine lv_iconst (v := (0 : Int32)) hx hb dL_setKey_18 (by decide) ?_
    refine vx_ret ?_
    refine W.widen (k := mc) (n := ms) (by omega) (by omega) ?_
    exact W.iret (v := (0 : Int32)) hx hb hr (fun t ht hW => ⟨⟨(0 : Int32), f_12, rfl, h, by rw [ht]; exact hF, FK.moved hW.alike hK⟩, hS.F ht⟩) hS.2.2 dL_setKey_19
theorem dL_cutKey_0 : decode cL_cutKey 0 = .ok (.aload_n 2, 1) := by decide +kernel
theorem dL_cutKey_1 : decode cL_cutKey 1 = .ok (.iconst 0, 1) := by decide +kernel
theorem dL_cutKey_2 : decode cL_cutKey 2 = .ok (.aload_n 0, 1) := by decide +kernel
theorem dL_cutKey_3 : decode cL_cutKey 3 = .ok (.iload_n 1, 1) := by decide +kernel
theorem dL_cutKey_4 : decode cL_cutKey 4 = .ok (.invokevirtual 21, 3) := by decide +kernel
theorem dL_cutKey_7 : decode cL_cutKey 7 = .ok (.i2l, 1) := by decide +kernel
theorem dL_cutKey_8 : decode cL_cutKey 8 = .ok (.lastore, 1) := by decide +kernel
theorem dL_cutKey_9 : decode cL_cutKey 9 = .ok (.goto 6, 3) := by decide +kernel
theorem dL_cutKey_12 : decode cL_cutKey 12 = .ok (.astore_n 3, 1) := by decide +kernel
theorem dL_cutKey_13 : decode cL_cutKey 13 = .ok (.iconst 1, 1) := by decide +kernel
theorem dL_cutKey_14 : decode cL_cutKey 14 = .ok (.ireturn, 1) := by decide +kernel
theorem dL_cutKey_15 : decode cL_cutKey 15 = .ok (.iconst 0, 1) := by decide +kernel
theorem dL_cutKey_16 : decode cL_cutKey 16 = .ok (.ireturn, 1) := by decide +kernel
set_option maxRecDepth 20000 in
theorem ggL_cutKey_X8_cutKey : GoodIn wsL_cutKey wsX8_cutKey := goodIn_ca (goodIn_r _ [6, 7, 8, 9, 10, 11, 12, 13, 14, 15, 16, 17, 18, 19, 20, 21, 22, 23, 24, 25, 26, 27, 28, 29, 30, 31, 32, 33, 34, 35, 36, 37, 38, 39, 40, 41, 42, 43, 44, 45, 46, 47, 48, 49, 50, 51, 52, 53, 54, 55, 56, 57, 58, 59, 60] (by decide +kernel) (by decide +kernel)) (goodIn_sub (fun _ h => List.mem_cons_of_mem _ (List.mem_append_right _ h)) (by decide +kernel))
def wp_L_cutKey (a0 : Nat) (x1 : Int32) (a2 : Nat) (f : FT) (mc ms : Nat) (K : Int32 → FT → Prop) : Prop :=
  ∃ ga_3 gb_4 : Nat, ga_3 ≤ mc ∧ gb_4 ≤ ms ∧ isO f a0 11 ∧ wp_X8_cutKey a0 x1 f ga_3 gb_4 (fun r_1 f_2 => sJ f_2 a2 (0 : Int32) (Int32.toInt64 r_1) fun f_12 => K (0 : Int32) f_12) (fun E f_2 => (E = "java/lang/IllegalArgumentException" ∧ K (1 : Int32) f_2))
set_option maxHeartbeats 4000000 in
set_option maxRecDepth 100000 in
theorem cc_L_cutKey (l : Launch) (G : GG) {f : FT} {sz : Nat} {a0 : Nat} {x1 : Int32} {a2 : Nat} {mc ms : Nat} {K : Int32 → FT → Prop} (hlt : l.stackTraces = false) (h : wp_L_cutKey a0 x1 a2 f mc ms K) : vx_Met l yL_cutKey wsL_cutKey ({ frames := 7, cells := mc, slots := ms, locals := 112 } : Room) (FPL G [.ref a0, .int x1, .ref a2] f sz) (va_Qi (fun r f9 => K r f9 : Int32 → FT → Prop) (FB G (fA f sz)) (fA f sz)) (FXC G (fA f sz) (fun _ _ => False)) mc ms (fA f sz) := by
  refine vx_ofWH (hh := [(0, 9, 12, 13)]) (cc := cL_cutKey) (maxL := 4) (ret := (some .int)) (by decide) rfl ?_
  intro p e s m args below meth c s₁ B hml hv
  obtain ⟨rfl, hsz, hF, hK, hZ, hX, hXN⟩ := hv
  have hx := B.exec
  have hb := B.bytes
  have hr := B.returns
  have hts := atoms_spec (ws := wsL_cutKey) B.pre
  have hown : s.vm.findClass RL = some m.cls := findClass_of_methodNamed B.named
  have hlocks := B.notSynchronized
  have htab : c.exceptionTable.toList = tableOf [(0, 9, 12, 13)] := vx_table (x := yL_cutKey) B (hts (.codeWith yL_cutKey cL_cutKey 4 (some .int) [(0, 9, 12, 13)]) (by decide +kernel))
  subst hsz
  have hF := hF.self (sz := s.heap.size)
  generalize hAe : fA f s.heap.size = A at hF hZ hX ⊢
  have hA : ∀ q : Nat, s.heap.size ≤ q → A q := fun q h => by rw [← hAe]; exact Or.inr h
  have hS : va_S A s.heap s.heap [] := va_S.rf
  have hbc : 0 + mc ≤ mc := by omega
  have hbs : 0 + ms ≤ ms := by omega
  have hl := lv_entry ([.ref a0, .int x1, .ref a2]) (n := 4) (Nat.le_of_ble_eq_true rfl)
  rw [lg_entry_eq]
  generalize (lg_sl ([.ref a0, .int x1, .ref a2]) ++ List.replicate (4 - (lg_sl ([.ref a0, .int x1, .ref a2])).length) Slot.unset).toArray = ls at hl ⊢
  have hl : lv_has ls 4 [(0, .ref a0), (1, .int x1), (2, .ref a2)] := hl
  unfold wp_L_cutKey at h
  refine lv_aload_n hx hb dL_cutKey_0 rfl (lv_at hl 2 rfl) ?_
  refine lv_iconst (v := (0 : Int32)) hx hb dL_cutKey_1 (by decide) ?_
  refine lv_aload_n hx hb dL_cutKey_2 rfl (lv_at hl 0 rfl) ?_
  refine lv_iload_n hx hb dL_cutKey_3 rfl (lv_at hl 1 rfl) ?_
  obtain ⟨ga_3, gb_4, hga_ga_3, hgb_ga_3, h⟩ := h
  obtain ⟨⟨fs_r_1, hrc_r_1⟩, h⟩ := h
  refine fx_cVH_i (As := [.int x1]) (rest := [.int (0 : Int32), .ref a2]) ⟨hx, hb, hml, hown, hts⟩ (cc_X8_cutKey l G hlt h) (⟨callB_of 1 hts ggL_cutKey_X8_cutKey rfl rfl rfl (hts (.initialized RX8) (by decide +kernel)) (hts (.methodLink RL 21 yX8_cutKey) (by decide +kernel)) (by decide +kernel) ⟨Nat.le_of_ble_eq_true rfl, Nat.le_of_ble_eq_true rfl⟩, hts (.instanceMethod yX8_cutKey) (by decide +kernel), hts (.selects RX8 yX8_cutKey yX8_cutKey) (by decide +kernel)⟩) rfl hrc_r_1 hK hZ hX hF hS hA rfl hl.1 rfl (Nat.le_of_ble_eq_true rfl) dL_cutKey_4 ⟨by show _ ≤ mc; omega, by show _ ≤ ms; omega⟩ (fun E ce q9 f_2 H locs h hF hS hq1 hq2 hq3 => ?_) (fun r_1 f_2 H locs h hF hS => ?_)
  · obtain ⟨rfl, h⟩ := h
    refine vx_catch hown ([] : List ExceptionTableEntry) ⟨0, 9, 12, 13⟩ [] (by rw [htab]; rfl) (fun z hz => absurd hz List.not_mem_nil) (by decide) (by decide) (hts (.classLink RL 13 "java/lang/IllegalArgumentException") (by decide +kernel)) (va_Nw.use rfl (hX.2.1 (.castable "java/lang/IllegalArgumentException" "java/lang/IllegalArgumentException") (by decide +kernel))) hq1 hq2 hq3 ?_
    obtain ⟨cs_7, hcs⟩ : ∃ z, z = (0 + ga_3) := ⟨_, rfl⟩; obtain ⟨sl_8, hsl⟩ : ∃ z, z = (0 + gb_4) := ⟨_, rfl⟩
    have hbc : cs_7 + (mc - ga_3) ≤ mc := by omega
    have hbs : sl_8 + (ms - gb_4) ≤ ms := by omega
    refine W.widen (k := cs_7) (n := sl_8) (by omega) (by omega) ?_
    clear hcs hsl
    refine lv_astore_n (lv' := [(3, .ref q9), (0, .ref a0), (1, .int x1), (2, .ref a2)]) hx hb dL_cutKey_12 rfl hl (by decide) rfl (fun ls hl => ?_)
    refine lv_iconst (v := (1 : Int32)) hx hb dL_cutKey_13 (by decide) ?_
    refine vx_ret ?_
    refine W.widen (k := mc) (n := ms) (by omega) (by omega) ?_
    exact W.iret (v := (1 : Int32)) hx hb hr (fun t ht hW => ⟨⟨(1 : Int32), f_2, rfl, h, by rw [ht]; exact hF, FK.moved hW.alike hK⟩, hS.F ht⟩) hS.2.2 dL_cutKey_14
  · obtain ⟨cs_9, hcs⟩ : ∃ z, z = (0 + ga_3) := ⟨_, rfl⟩; obtain ⟨sl_10, hsl⟩ : ∃ z, z = (0 + gb_4) := ⟨_, rfl⟩
    have hbc : cs_9 + (mc - ga_3) ≤ mc := by omega
    have hbs : sl_10 + (ms - gb_4) ≤ ms := by omega
    refine W.widen (k := cs_9) (n := sl_10) (by omega) (by omega) ?_
    clear hcs hsl
    refine lv_i2l (v := (Int32.toInt64 r_1)) hx hb dL_cutKey_7 rfl ?_
    obtain ⟨n_q_11, q_11, he_q_11, hi_q_11, h⟩ := h
    refine fw_last hx hb hK hF hS he_q_11 hi_q_11 dL_cutKey_8 (fun H locs hF hS => ?_)
    obtain ⟨f_12, hf_f_12⟩ : ∃ z, z = fup f_2 a2 (.inl (3, n_q_11, .inr (.inl (vp_updL q_11 ((0 : Int32)).toNatClampNeg (Int32.toInt64 r_1))))) := ⟨_, rfl⟩
    rw [← hf_f_12] at hF; have h := h f_12 hf_f_12
    refine lv_goto (tgt := 15) hx hb dL_cutKey_9 (by decide) ?_
    refine lv_iconst (v := (0 : Int32)) hx hb dL_cutKey_15 (by decide) ?_
    refine vx_ret ?_
    refine W.widen (k := mc) (n := ms) (by omega) (by omega) ?_
    exact W.iret (v := (0 : Int32)) hx hb hr (fun t ht hW => ⟨⟨(0 : Int32), f_12, rfl, h, by rw [ht]; exact hF, FK.moved hW.alike hK⟩, hS.F ht⟩) hS.2.2 dL_cutKey_16
theorem dL_keyByte_0 : decode cL_keyByte 0 = .ok (.aload_n 2, 1) := by decide +kernel
theorem dL_keyByte_1 : decode cL_keyByte 1 = .ok (.iconst 0, 1) := by decide +kernel
theorem dL_keyByte_2 : decode cL_keyByte 2 = .ok (.aload_n 0, 1) := by decide +kernel
theorem dL_keyByte_3 : decode cL_keyByte 3 = .ok (.iload_n 1, 1) := by decide +kernel
theorem dL_keyByte_4 : decode cL_keyByte 4 = .ok (.invokevirtual 24, 3) := by decide +kernel
theorem dL_keyByte_7 : decode cL_keyByte 7 = .ok (.i2l, 1) := by decide +kernel
theorem dL_keyByte_8 : decode cL_keyByte 8 = .ok (.lastore, 1) := by decide +kernel
theorem dL_keyByte_9 : decode cL_keyByte 9 = .ok (.goto 6, 3) := by decide +kernel
theorem dL_keyByte_12 : decode cL_keyByte 12 = .ok (.astore_n 3, 1) := by decide +kernel
theorem dL_keyByte_13 : decode cL_keyByte 13 = .ok (.iconst 1, 1) := by decide +kernel
theorem dL_keyByte_14 : decode cL_keyByte 14 = .ok (.ireturn, 1) := by decide +kernel
theorem dL_keyByte_15 : decode cL_keyByte 15 = .ok (.iconst 0, 1) := by decide +kernel
theorem dL_keyByte_16 : decode cL_keyByte 16 = .ok (.ireturn, 1) := by decide +kernel
set_option maxRecDepth 20000 in
theorem ggL_keyByte_X8_keyByte : GoodIn wsL_keyByte wsX8_keyByte := goodIn_ca (goodIn_r _ [6, 7, 8, 9, 10, 11, 12, 13, 14, 15, 16, 17, 18, 19, 20, 21, 22, 23, 24, 25, 26, 27, 28, 29] (by decide +kernel) (by decide +kernel)) (goodIn_sub (fun _ h => List.mem_cons_of_mem _ (List.mem_append_right _ h)) (by decide +kernel))
def wp_L_keyByte (a0 : Nat) (x1 : Int32) (a2 : Nat) (f : FT) (mc ms : Nat) (K : Int32 → FT → Prop) : Prop :=
  ∃ ga_3 gb_4 : Nat, ga_3 ≤ mc ∧ gb_4 ≤ ms ∧ isO f a0 11 ∧ wp_X8_keyByte a0 x1 f ga_3 gb_4 (fun r_1 f_2 => sJ f_2 a2 (0 : Int32) (Int32.toInt64 r_1) fun f_12 => K (0 : Int32) f_12) (fun E f_2 => (E = "java/lang/IndexOutOfBoundsException" ∧ K (1 : Int32) f_2))
set_option maxHeartbeats 4000000 in
set_option maxRecDepth 100000 in
theorem cc_L_keyByte (l : Launch) (G : GG) {f : FT} {sz : Nat} {a0 : Nat} {x1 : Int32} {a2 : Nat} {mc ms : Nat} {K : Int32 → FT → Prop} (hlt : l.stackTraces = false) (h : wp_L_keyByte a0 x1 a2 f mc ms K) : vx_Met l yL_keyByte wsL_keyByte ({ frames := 7, cells := mc, slots := ms, locals := 111 } : Room) (FPL G [.ref a0, .int x1, .ref a2] f sz) (va_Qi (fun r f9 => K r f9 : Int32 → FT → Prop) (FB G (fA f sz)) (fA f sz)) (FXC G (fA f sz) (fun _ _ => False)) mc ms (fA f sz) := by
  refine vx_ofWH (hh := [(0, 9, 12, 27)]) (cc := cL_keyByte) (maxL := 4) (ret := (some .int)) (by decide) rfl ?_
  intro p e s m args below meth c s₁ B hml hv
  obtain ⟨rfl, hsz, hF, hK, hZ, hX, hXN⟩ := hv
  have hx := B.exec
  have hb := B.bytes
  have hr := B.returns
  have hts := atoms_spec (ws := wsL_keyByte) B.pre
  have hown : s.vm.findClass RL = some m.cls := findClass_of_methodNamed B.named
  have hlocks := B.notSynchronized
  have htab : c.exceptionTable.toList = tableOf [(0, 9, 12, 27)] := vx_table (x := yL_keyByte) B (hts (.codeWith yL_keyByte cL_keyByte 4 (some .int) [(0, 9, 12, 27)]) (by decide +kernel))
  subst hsz
  have hF := hF.self (sz := s.heap.size)
  generalize hAe : fA f s.heap.size = A at hF hZ hX ⊢
  have hA : ∀ q : Nat, s.heap.size ≤ q → A q := fun q h => by rw [← hAe]; exact Or.inr h
  have hS : va_S A s.heap s.heap [] := va_S.rf
  have hbc : 0 + mc ≤ mc := by omega
  have hbs : 0 + ms ≤ ms := by omega
  have hl := lv_entry ([.ref a0, .int x1, .ref a2]) (n := 4) (Nat.le_of_ble_eq_true rfl)
  rw [lg_entry_eq]
  generalize (lg_sl ([.ref a0, .int x1, .ref a2]) ++ List.replicate (4 - (lg_sl ([.ref a0, .int x1, .ref a2])).length) Slot.unset).toArray = ls at hl ⊢
  have hl : lv_has ls 4 [(0, .ref a0), (1, .int x1), (2, .ref a2)] := hl
  unfold wp_L_keyByte at h
  refine lv_aload_n hx hb dL_keyByte_0 rfl (lv_at hl 2 rfl) ?_
  refine lv_iconst (v := (0 : Int32)) hx hb dL_keyByte_1 (by decide) ?_
  refine lv_aload_n hx hb dL_keyByte_2 rfl (lv_at hl 0 rfl) ?_
  refine lv_iload_n hx hb dL_keyByte_3 rfl (lv_at hl 1 rfl) ?_
  obtain ⟨ga_3, gb_4, hga_ga_3, hgb_ga_3, h⟩ := h
  obtain ⟨⟨fs_r_1, hrc_r_1⟩, h⟩ := h
  refine fx_cVH_i (As := [.int x1]) (rest := [.int (0 : Int32), .ref a2]) ⟨hx, hb, hml, hown, hts⟩ (cc_X8_keyByte l G hlt h) (⟨callB_of 1 hts ggL_keyByte_X8_keyByte rfl rfl rfl (hts (.initialized RX8) (by decide +kernel)) (hts (.methodLink RL 24 yX8_keyByte) (by decide +kernel)) (by decide +kernel) ⟨Nat.le_of_ble_eq_true rfl, Nat.le_of_ble_eq_true rfl⟩, hts (.instanceMethod yX8_keyByte) (by decide +kernel), hts (.selects RX8 yX8_keyByte yX8_keyByte) (by decide +kernel)⟩) rfl hrc_r_1 hK hZ hX hF hS hA rfl hl.1 rfl (Nat.le_of_ble_eq_true rfl) dL_keyByte_4 ⟨by show _ ≤ mc; omega, by show _ ≤ ms; omega⟩ (fun E ce q9 f_2 H locs h hF hS hq1 hq2 hq3 => ?_) (fun r_1 f_2 H locs h hF hS => ?_)
  · obtain ⟨rfl, h⟩ := h
    refine vx_catch hown ([] : List ExceptionTableEntry) ⟨0, 9, 12, 27⟩ [] (by rw [htab]; rfl) (fun z hz => absurd hz List.not_mem_nil) (by decide) (by decide) (hts (.classLink RL 27 "java/lang/IndexOutOfBoundsException") (by decide +kernel)) (va_Nw.use rfl (hX.2.1 (.castable "java/lang/IndexOutOfBoundsException" "java/lang/IndexOutOfBoundsException") (by decide +kernel))) hq1 hq2 hq3 ?_
    obtain ⟨cs_7, hcs⟩ : ∃ z, z = (0 + ga_3) := ⟨_, rfl⟩; obtain ⟨sl_8, hsl⟩ : ∃ z, z = (0 + gb_4) := ⟨_, rfl⟩
    have hbc : cs_7 + (mc - ga_3) ≤ mc := by omega
    have hbs : sl_8 + (ms - gb_4) ≤ ms := by omega
    refine W.widen (k := cs_7) (n := sl_8) (by omega) (by omega) ?_
    clear hcs hsl
    refine lv_astore_n (lv' := [(3, .ref q9), (0, .ref a0), (1, .int x1), (2, .ref a2)]) hx hb dL_keyByte_12 rfl hl (by decide) rfl (fun ls hl => ?_)
    refine lv_iconst (v := (1 : Int32)) hx hb dL_keyByte_13 (by decide) ?_
    refine vx_ret ?_
    refine W.widen (k := mc) (n := ms) (by omega) (by omega) ?_
    exact W.iret (v := (1 : Int32)) hx hb hr (fun t ht hW => ⟨⟨(1 : Int32), f_2, rfl, h, by rw [ht]; exact hF, FK.moved hW.alike hK⟩, hS.F ht⟩) hS.2.2 dL_keyByte_14
  · obtain ⟨cs_9, hcs⟩ : ∃ z, z = (0 + ga_3) := ⟨_, rfl⟩; obtain ⟨sl_10, hsl⟩ : ∃ z, z = (0 + gb_4) := ⟨_, rfl⟩
    have hbc : cs_9 + (mc - ga_3) ≤ mc := by omega
    have hbs : sl_10 + (ms - gb_4) ≤ ms := by omega
    refine W.widen (k := cs_9) (n := sl_10) (by omega) (by omega) ?_
    clear hcs hsl
    refine lv_i2l (v := (Int32.toInt64 r_1)) hx hb dL_keyByte_7 rfl ?_
    obtain ⟨n_q_11, q_11, he_q_11, hi_q_11, h⟩ := h
    refine fw_last hx hb hK hF hS he_q_11 hi_q_11 dL_keyByte_8 (fun H locs hF hS => ?_)
    obtain ⟨f_12, hf_f_12⟩ : ∃ z, z = fup f_2 a2 (.inl (3, n_q_11, .inr (.inl (vp_updL q_11 ((0 : Int32)).toNatClampNeg (Int32.toInt64 r_1))))) := ⟨_, rfl⟩
    rw [← hf_f_12] at hF; have h := h f_12 hf_f_12
    refine lv_goto (tgt := 15) hx hb dL_keyByte_9 (by decide) ?_
    refine lv_iconst (v := (0 : Int32)) hx hb dL_keyByte_15 (by decide) ?_
    refine vx_ret ?_
    refine W.widen (k := mc) (n := ms) (by omega) (by omega) ?_
    exact W.iret (v := (0 : Int32)) hx hb hr (fun t ht hW => ⟨⟨(0 : Int32), f_12, rfl, h, by rw [ht]; exact hF, FK.moved hW.alike hK⟩, hS.F ht⟩) hS.2.2 dL_keyByte_16
theorem dL_setCapacity_0 : decode cL_setCapacity 0 = .ok (.aload_n 2, 1) := by decide +kernel
theorem dL_setCapacity_1 : decode cL_setCapacity 1 = .ok (.iconst 0, 1) := by decide +kernel
theorem dL_setCapacity_2 : decode cL_setCapacity 2 = .ok (.aload_n 0, 1) := by decide +kernel
theorem dL_setCapacity_3 : decode cL_setCapacity 3 = .ok (.iload_n 1, 1) := by decide +kernel
theorem dL_setCapacity_4 : decode cL_setCapacity 4 = .ok (.invokevirtual 29, 3) := by decide +kernel
theorem dL_setCapacity_7 : decode cL_setCapacity 7 = .ok (.i2l, 1) := by decide +kernel
theorem dL_setCapacity_8 : decode cL_setCapacity 8 = .ok (.lastore, 1) := by decide +kernel
theorem dL_setCapacity_9 : decode cL_setCapacity 9 = .ok (.goto 9, 3) := by decide +kernel
theorem dL_setCapacity_12 : decode cL_setCapacity 12 = .ok (.astore_n 3, 1) := by decide +kernel
theorem dL_setCapacity_13 : decode cL_setCapacity 13 = .ok (.iconst 1, 1) := by decide +kernel
theorem dL_setCapacity_14 : decode cL_setCapacity 14 = .ok (.ireturn, 1) := by decide +kernel
theorem dL_setCapacity_15 : decode cL_setCapacity 15 = .ok (.astore_n 3, 1) := by decide +kernel
theorem dL_setCapacity_16 : decode cL_setCapacity 16 = .ok (.iconst 2, 1) := by decide +kernel
theorem dL_setCapacity_17 : decode cL_setCapacity 17 = .ok (.ireturn, 1) := by decide +kernel
theorem dL_setCapacity_18 : decode cL_setCapacity 18 = .ok (.iconst 0, 1) := by decide +kernel
theorem dL_setCapacity_19 : decode cL_setCapacity 19 = .ok (.ireturn, 1) := by decide +kernel
set_option maxRecDepth 20000 in
theorem ggL_setCapacity_X8_setCapacity : GoodIn wsL_setCapacity wsX8_setCapacity := goodIn_ca (goodIn_ca (goodIn_r _ [7, 8, 9, 10, 11, 12, 13, 14, 15, 16, 17, 18, 19, 20, 21, 22, 23, 24, 25, 26, 27, 28, 29, 30, 31, 32, 33, 34, 35, 36, 37, 38, 39, 40, 41, 42, 43, 44, 45, 46] (by decide +kernel) (by decide +kernel)) (goodIn_sub (fun _ h => List.mem_cons_of_mem _ (List.mem_append_left _ (List.mem_append_right _ h))) (by decide +kernel))) (goodIn_sub (fun _ h => List.mem_cons_of_mem _ (List.mem_append_right _ h)) (by decide +kernel))
def wp_L_setCapacity (a0 : Nat) (x1 : Int32) (a2 : Nat) (f : FT) (mc ms : Nat) (K : Int32 → FT → Prop) : Prop :=
  ∃ ga_3 gb_4 : Nat, ga_3 ≤ mc ∧ gb_4 ≤ ms ∧ isO f a0 11 ∧ wp_X8_setCapacity a0 x1 f ga_3 gb_4 (fun r_1 f_2 => sJ f_2 a2 (0 : Int32) (Int32.toInt64 r_1) fun f_14 => K (0 : Int32) f_14) (fun E f_2 => (E = "java/lang/IllegalArgumentException" ∧ K (1 : Int32) f_2) ∨ (E = "java/lang/IllegalStateException" ∧ K (2 : Int32) f_2))
set_option maxHeartbeats 4000000 in
set_option maxRecDepth 100000 in
theorem cc_L_setCapacity (l : Launch) (G : GG) {f : FT} {sz : Nat} {a0 : Nat} {x1 : Int32} {a2 : Nat} {mc ms : Nat} {K : Int32 → FT → Prop} (hlt : l.stackTraces = false) (h : wp_L_setCapacity a0 x1 a2 f mc ms K) : vx_Met l yL_setCapacity wsL_setCapacity ({ frames := 7, cells := mc, slots := ms, locals := 112 } : Room) (FPL G [.ref a0, .int x1, .ref a2] f sz) (va_Qi (fun r f9 => K r f9 : Int32 → FT → Prop) (FB G (fA f sz)) (fA f sz)) (FXC G (fA f sz) (fun _ _ => False)) mc ms (fA f sz) := by
  refine vx_ofWH (hh := [(0, 9, 12, 13), (0, 9, 15, 15)]) (cc := cL_setCapacity) (maxL := 4) (ret := (some .int)) (by decide) rfl ?_
  intro p e s m args below meth c s₁ B hml hv
  obtain ⟨rfl, hsz, hF, hK, hZ, hX, hXN⟩ := hv
  have hx := B.exec
  have hb := B.bytes
  have hr := B.returns
  have hts := atoms_spec (ws := wsL_setCapacity) B.pre
  have hown : s.vm.findClass RL = some m.cls := findClass_of_methodNamed B.named
  have hlocks := B.notSynchronized
  have htab : c.exceptionTable.toList = tableOf [(0, 9, 12, 13), (0, 9, 15, 15)] := vx_table (x := yL_setCapacity) B (hts (.codeWith yL_setCapacity cL_setCapacity 4 (some .int) [(0, 9, 12, 13), (0, 9, 15, 15)]) (by decide +kernel))
  subst hsz
  have hF := hF.self (sz := s.heap.size)
  generalize hAe : fA f s.heap.size = A at hF hZ hX ⊢
  have hA : ∀ q : Nat, s.heap.size ≤ q → A q := fun q h => by rw [← hAe]; exact Or.inr h
  have hS : va_S A s.heap s.heap [] := va_S.rf
  have hbc : 0 + mc ≤ mc := by omega
  have hbs : 0 + ms ≤ ms := by omega
  have hl := lv_entry ([.ref a0, .int x1, .ref a2]) (n := 4) (Nat.le_of_ble_eq_true rfl)
  rw [lg_entry_eq]
  generalize (lg_sl ([.ref a0, .int x1, .ref a2]) ++ List.replicate (4 - (lg_sl ([.ref a0, .int x1, .ref a2])).length) Slot.unset).toArray = ls at hl ⊢
  have hl : lv_has ls 4 [(0, .ref a0), (1, .int x1), (2, .ref a2)] := hl
  unfold wp_L_setCapacity at h
  refine lv_aload_n hx hb dL_setCapacity_0 rfl (lv_at hl 2 rfl) ?_
  refine lv_iconst (v := (0 : Int32)) hx hb dL_setCapacity_1 (by decide) ?_
  refine lv_aload_n hx hb dL_setCapacity_2 rfl (lv_at hl 0 rfl) ?_
  refine lv_iload_n hx hb dL_setCapacity_3 rfl (lv_at hl 1 rfl) ?_
  obtain ⟨ga_3, gb_4, hga_ga_3, hgb_ga_3, h⟩ := h
  obtain ⟨⟨fs_r_1, hrc_r_1⟩, h⟩ := h
  refine fx_cVH_i (As := [.int x1]) (rest := [.int (0 : Int32), .ref a2]) ⟨hx, hb, hml, hown, hts⟩ (cc_X8_setCapacity l G hlt h) (⟨callB_of 1 hts ggL_setCapacity_X8_setCapacity rfl rfl rfl (hts (.initialized RX8) (by decide +kernel)) (hts (.methodLink RL 29 yX8_setCapacity) (by decide +kernel)) (by decide +kernel) ⟨Nat.le_of_ble_eq_true rfl, Nat.le_of_ble_eq_true rfl⟩, hts (.instanceMethod yX8_setCapacity) (by decide +kernel), hts (.selects RX8 yX8_setCapacity yX8_setCapacity) (by decide +kernel)⟩) rfl hrc_r_1 hK hZ hX hF hS hA rfl hl.1 rfl (Nat.le_of_ble_eq_true rfl) dL_setCapacity_4 ⟨by show _ ≤ mc; omega, by show _ ≤ ms; omega⟩ (fun E ce q9 f_2 H locs h hF hS hq1 hq2 hq3 => ?_) (fun r_1 f_2 H locs h hF hS => ?_)
  · rcases h with ⟨rfl, h⟩ | ⟨rfl, h⟩
    · refine vx_catch hown ([] : List ExceptionTableEntry) ⟨0, 9, 12, 13⟩ [⟨0, 9, 15, 15⟩] (by rw [htab]; rfl) (fun z hz => absurd hz List.not_mem_nil) (by decide) (by decide) (hts (.classLink RL 13 "java/lang/IllegalArgumentException") (by decide +kernel)) (va_Nw.use rfl (hX.2.1 (.castable "java/lang/IllegalArgumentException" "java/lang/IllegalArgumentException") (by decide +kernel))) hq1 hq2 hq3 ?_
      obtain ⟨cs_7, hcs⟩ : ∃ z, z = (0 + ga_3) := ⟨_, rfl⟩; obtain ⟨sl_8, hsl⟩ : ∃ z, z = (0 + gb_4) := ⟨_, rfl⟩
      have hbc : cs_7 + (mc - ga_3) ≤ mc := by omega
      have hbs : sl_8 + (ms - gb_4) ≤ ms := by omega
      refine W.widen (k := cs_7) (n := sl_8) (by omega) (by omega) ?_
      clear hcs hsl
      refine lv_astore_n (lv' := [(3, .ref q9), (0, .ref a0), (1, .int x1), (2, .ref a2)]) hx hb dL_setCapacity_12 rfl hl (by decide) rfl (fun ls hl => ?_)
      refine lv_iconst (v := (1 : Int32)) hx hb dL_setCapacity_13 (by decide) ?_
      refine vx_ret ?_
      refine W.widen (k := mc) (n := ms) (by omega) (by omega) ?_
      exact W.iret (v := (1 : Int32)) hx hb hr (fun t ht hW => ⟨⟨(1 : Int32), f_2, rfl, h, by rw [ht]; exact hF, FK.moved hW.alike hK⟩, hS.F ht⟩) hS.2.2 dL_setCapacity_14
    · refine vx_catch hown ([⟨0, 9, 12, 13⟩] : List ExceptionTableEntry) ⟨0, 9, 15, 15⟩ [] (by rw [htab]; rfl) (List.forall_mem_cons.mpr ⟨Or.inr ⟨by decide, "java/lang/IllegalArgumentException", hts (.classLink RL 13 "java/lang/IllegalArgumentException") (by decide +kernel), hXN ("java/lang/IllegalStateException", "java/lang/IllegalArgumentException") (by decide +kernel)⟩, fun z hz => absurd hz List.not_mem_nil⟩) (by decide) (by decide) (hts (.classLink RL 15 "java/lang/IllegalStateException") (by decide +kernel)) (va_Nw.use rfl (hX.2.1 (.castable "java/lang/IllegalStateException" "java/lang/IllegalStateException") (by decide +kernel))) hq1 hq2 hq3 ?_
      obtain ⟨cs_9, hcs⟩ : ∃ z, z = (0 + ga_3) := ⟨_, rfl⟩; obtain ⟨sl_10, hsl⟩ : ∃ z, z = (0 + gb_4) := ⟨_, rfl⟩
      have hbc : cs_9 + (mc - ga_3) ≤ mc := by omega
      have hbs : sl_10 + (ms - gb_4) ≤ ms := by omega
      refine W.widen (k := cs_9) (n := sl_10) (by omega) (by omega) ?_
      clear hcs hsl
      refine lv_astore_n (lv' := [(3, .ref q9), (0, .ref a0), (1, .int x1), (2, .ref a2)]) hx hb dL_setCapacity_15 rfl hl (by decide) rfl (fun ls hl => ?_)
      refine lv_iconst (v := (2 : Int32)) hx hb dL_setCapacity_16 (by decide) ?_
      refine vx_ret ?_
      refine W.widen (k := mc) (n := ms) (by omega) (by omega) ?_
      exact W.iret (v := (2 : Int32)) hx hb hr (fun t ht hW => ⟨⟨(2 : Int32), f_2, rfl, h, by rw [ht]; exact hF, FK.moved hW.alike hK⟩, hS.F ht⟩) hS.2.2 dL_setCapacity_17
  · obtain ⟨cs_11, hcs⟩ : ∃ z, z = (0 + ga_3) := ⟨_, rfl⟩; obtain ⟨sl_12, hsl⟩ : ∃ z, z = (0 + gb_4) := ⟨_, rfl⟩
    have hbc : cs_11 + (mc - ga_3) ≤ mc := by omega
    have hbs : sl_12 + (ms - gb_4) ≤ ms := by omega
    refine W.widen (k := cs_11) (n := sl_12) (by omega) (by omega) ?_
    clear hcs hsl
    refine lv_i2l (v := (Int32.toInt64 r_1)) hx hb dL_setCapacity_7 rfl ?_
    obtain ⟨n_q_13, q_13, he_q_13, hi_q_13, h⟩ := h
    refine fw_last hx hb hK hF hS he_q_13 hi_q_13 dL_setCapacity_8 (fun H locs hF hS => ?_)
    obtain ⟨f_14, hf_f_14⟩ : ∃ z, z = fup f_2 a2 (.inl (3, n_q_13, .inr (.inl (vp_updL q_13 ((0 : Int32)).toNatClampNeg (Int32.toInt64 r_1))))) := ⟨_, rfl⟩
    rw [← hf_f_14] at hF; have h := h f_14 hf_f_14
    refine lv_goto (tgt := 18) hx hb dL_setCapacity_9 (by decide) ?_
    refine lv_iconst (v := (0 : Int32)) hx hb dL_setCapacity_18 (by decide) ?_
    refine vx_ret ?_
    refine W.widen (k := mc) (n := ms) (by omega) (by omega) ?_
    exact W.iret (v := (0 : Int32)) hx hb hr (fun t ht hW => ⟨⟨(0 : Int32), f_14, rfl, h, by rw [ht]; exact hF, FK.moved hW.alike hK⟩, hS.F ht⟩) hS.2.2 dL_setCapacity_19
theorem dL_put_0 : decode cL_put 0 = .ok (.aload_n 2, 1) := by decide +kernel
theorem dL_put_1 : decode cL_put 1 = .ok (.iconst 0, 1) := by decide +kernel
theorem dL_put_2 : decode cL_put 2 = .ok (.aload_n 0, 1) := by decide +kernel
theorem dL_put_3 : decode cL_put 3 = .ok (.iload_n 1, 1) := by decide +kernel
theorem dL_put_4 : decode cL_put 4 = .ok (.invokevirtual 32, 3) := by decide +kernel
theorem dL_put_7 : decode cL_put 7 = .ok (.ifCond .eq 7, 3) := by decide +kernel
theorem dL_put_10 : decode cL_put 10 = .ok (.lconst 1, 1) := by decide +kernel
theorem dL_put_11 : decode cL_put 11 = .ok (.goto 4, 3) := by decide +kernel
theorem dL_put_14 : decode cL_put 14 = .ok (.lconst 0, 1) := by decide +kernel
theorem dL_put_15 : decode cL_put 15 = .ok (.lastore, 1) := by decide +kernel
theorem dL_put_16 : decode cL_put 16 = .ok (.goto 6, 3) := by decide +kernel
theorem dL_put_19 : decode cL_put 19 = .ok (.astore_n 3, 1) := by decide +kernel
theorem dL_put_20 : decode cL_put 20 = .ok (.iconst 1, 1) := by decide +kernel
theorem dL_put_21 : decode cL_put 21 = .ok (.ireturn, 1) := by decide +kernel
theorem dL_put_22 : decode cL_put 22 = .ok (.iconst 0, 1) := by decide +kernel
theorem dL_put_23 : decode cL_put 23 = .ok (.ireturn, 1) := by decide +kernel
set_option maxRecDepth 20000 in
theorem ggL_put_X8_put : GoodIn wsL_put wsX8_put := goodIn_ca (goodIn_r _ [6, 7, 8, 9, 10, 11, 12, 13, 14, 15, 16, 17, 18, 19, 20, 21, 22, 23, 24, 25, 26, 27, 28, 29, 30, 31, 32, 33, 34, 35, 36, 37, 38, 39, 40, 41, 42, 43, 44, 45, 46, 47, 48, 49, 50, 51, 52, 53, 54, 55, 56, 57, 58, 59, 60, 61, 62, 63, 64, 65, 66, 67, 68, 69, 70, 71, 72, 73, 74, 75, 76, 77, 78, 79, 80, 81, 82, 83, 84, 85, 86, 87, 88, 89, 90, 91, 92, 93, 94, 95, 96, 97, 98, 99, 100, 101, 102, 103, 104, 105, 106, 107, 108, 109, 110, 111, 112, 113, 114, 115, 116, 117, 118, 119, 120, 121, 122, 123, 124, 125, 126, 127, 128, 129, 130, 131, 132, 133, 134, 135, 136, 137, 138, 139, 140, 141, 142, 143, 144, 145, 146, 147, 148, 149, 150, 151, 152, 153, 154, 155, 156, 157, 158, 159, 160, 161, 162, 163, 164, 165, 166, 167, 168, 169, 170, 171, 172, 173, 174, 175, 176, 177, 178, 179, 180, 181, 182, 183, 184, 185, 186, 187, 188, 189, 190, 191, 192, 193, 194, 195, 196, 197, 198, 199, 200, 201, 202, 203, 204, 205, 206, 207, 208, 209, 210, 211, 212, 213, 214, 215, 216, 217, 218, 219, 220, 221, 222, 223, 224, 225, 226, 227, 228, 229, 230, 231, 232, 233, 234, 235, 236, 237, 238, 239, 240, 241, 242, 243, 244, 245, 246, 247, 248, 249, 250, 251, 252, 253, 254, 255, 256, 257, 258, 259, 260, 261, 262, 263, 264, 265, 266, 267, 268, 269, 270, 271, 272, 273, 274, 275, 276, 277, 278, 279, 280, 281, 282, 283, 284, 285, 286, 287, 288, 289, 290, 291, 292, 293, 294, 295, 296, 297, 298, 299, 300, 301, 302, 303, 304, 305, 306, 307, 308, 309, 310, 311, 312, 313, 314, 315, 316, 317, 318, 319, 320, 321, 322, 323, 324, 325, 326, 327, 328, 329, 330, 331, 332, 333, 334, 335, 336, 337, 338, 339, 340, 341, 342, 343, 344, 345, 346, 347, 348, 349, 350, 351, 352] (by decide +kernel) (by decide +kernel)) (goodIn_sub (fun _ h => List.mem_cons_of_mem _ (List.mem_append_right _ h)) (by decide +kernel))
def wp_L_put_15 (zd : Nat)  (zw0 : Int64) (z1 : Int32) (b2 : Nat) (f : FT) (bc bs : Nat) (K : Int32 → FT → Prop)  : Prop :=
  sJ f b2 z1 zw0 fun f_2 => K (0 : Int32) f_2
def wp_L_put (zd : Nat) (a0 : Nat) (x1 : Int32) (a2 : Nat) (f : FT) (mc ms : Nat) (K : Int32 → FT → Prop) : Prop :=
  ∃ ga_5 gb_6 : Nat, ga_5 ≤ mc ∧ gb_6 ≤ ms ∧ isO f a0 11 ∧ wp_X8_put zd a0 x1 f ga_5 gb_6 (fun r_3 f_4 => ((r_3 = (0 : Int32) → wp_L_put_15 zd (0 : Int64) (0 : Int32) a2 f_4 (mc - ga_5) (ms - gb_6) K) ∧
 (¬ (r_3 = (0 : Int32)) → wp_L_put_15 zd (1 : Int64) (0 : Int32) a2 f_4 (mc - ga_5) (ms - gb_6) K))) (fun E f_4 => (E = "java/lang/IllegalStateException" ∧ K (1 : Int32) f_4))
set_option maxHeartbeats 4000000 in
set_option maxRecDepth 100000 in
theorem cc_L_put (l : Launch) (G : GG) {zd : Nat} (hzd : G.2.2 0 = zd) {f : FT} {sz : Nat} {a0 : Nat} {x1 : Int32} {a2 : Nat} {mc ms : Nat} {K : Int32 → FT → Prop} (hlt : l.stackTraces = false) (h : wp_L_put zd a0 x1 a2 f mc ms K) : vx_Met l yL_put wsL_put ({ frames := 11, cells := mc, slots := ms, locals := 262 } : Room) (FPL G [.ref a0, .int x1, .ref a2] f sz) (va_Qi (fun r f9 => K r f9 : Int32 → FT → Prop) (FB G (fA f sz)) (fA f sz)) (FXC G (fA f sz) (fun _ _ => False)) mc ms (fA f sz) := by
  refine vx_ofWH (hh := [(0, 16, 19, 15)]) (cc := cL_put) (maxL := 4) (ret := (some .int)) (by decide) rfl ?_
  intro p e s m args below meth c s₁ B hml hv
  obtain ⟨rfl, hsz, hF, hK, hZ, hX, hXN⟩ := hv
  have hx := B.exec
  have hb := B.bytes
  have hr := B.returns
  have hts := atoms_spec (ws := wsL_put) B.pre
  have hown : s.vm.findClass RL = some m.cls := findClass_of_methodNamed B.named
  have hlocks := B.notSynchronized
  have htab : c.exceptionTable.toList = tableOf [(0, 16, 19, 15)] := vx_table (x := yL_put) B (hts (.codeWith yL_put cL_put 4 (some .int) [(0, 16, 19, 15)]) (by decide +kernel))
  subst hsz
  have hF := hF.self (sz := s.heap.size)
  generalize hAe : fA f s.heap.size = A at hF hZ hX ⊢
  have hA : ∀ q : Nat, s.heap.size ≤ q → A q := fun q h => by rw [← hAe]; exact Or.inr h
  have hS : va_S A s.heap s.heap [] := va_S.rf
  have hZ9 : va_Z "java/util/ArrayList" "DEFAULTCAPACITY_EMPTY_ELEMENTDATA" "[Ljava/lang/Object;" (.ref zd) A s s.heap := by rw [← hzd]; exact hZ.1
  have hbc : 0 + mc ≤ mc := by omega
  have hbs : 0 + ms ≤ ms := by omega
  have J15 : ∀ (zw0 : Int64) (z1 : Int32) (b2 : Nat) (f : FT) (bc : Nat) (bs : Nat) (H : Heap) (locs : List Loc) (ls : Array Slot) (cs sl : Nat), wp_L_put_15 zd zw0 z1 b2 f bc bs K  → cs + bc ≤ mc → sl + bs ≤ ms → Fw G A f H → va_S A s.heap H locs → lv_has ls 4 [] → W p l e ({ frames := 11, cells := mc, slots := ms, locals := 262 } : Room) s m ([.ref a0, .int x1, .ref a2] : List Value).toArray below meth c H locs cs sl (vx_MQ below (va_Qi (fun r f9 => K r f9 : Int32 → FT → Prop) (FB G A) A) (FXC G A (fun _ _ => False)) ([.ref a0, .int x1, .ref a2] : List Value).toArray s mc ms A) (F0 m 15 ls [.long zw0, .int z1, .ref b2]) := by
    intro zw0 z1 b2 f bc bs H locs ls cs sl h hbc hbs hF hS hl
    unfold wp_L_put_15 at h
    obtain ⟨n_q_1, q_1, he_q_1, hi_q_1, h⟩ := h
    refine fw_last hx hb hK hF hS he_q_1 hi_q_1 dL_put_15 (fun H locs hF hS => ?_)
    obtain ⟨f_2, hf_f_2⟩ : ∃ z, z = fup f b2 (.inl (3, n_q_1, .inr (.inl (vp_updL q_1 (z1).toNatClampNeg zw0)))) := ⟨_, rfl⟩
    rw [← hf_f_2] at hF; have h := h f_2 hf_f_2
    refine lv_goto (tgt := 22) hx hb dL_put_16 (by decide) ?_
    refine lv_iconst (v := (0 : Int32)) hx hb dL_put_22 (by decide) ?_
    refine vx_ret ?_
    refine W.widen (k := mc) (n := ms) (by omega) (by omega) ?_
    exact W.iret (v := (0 : Int32)) hx hb hr (fun t ht hW => ⟨⟨(0 : Int32), f_2, rfl, h, by rw [ht]; exact hF, FK.moved hW.alike hK⟩, hS.F ht⟩) hS.2.2 dL_put_23
  have hl := lv_entry ([.ref a0, .int x1, .ref a2]) (n := 4) (Nat.le_of_ble_eq_true rfl)
  rw [lg_entry_eq]
  generalize (lg_sl ([.ref a0, .int x1, .ref a2]) ++ List.replicate (4 - (lg_sl ([.ref a0, .int x1, .ref a2])).length) Slot.unset).toArray = ls at hl ⊢
  have hl : lv_has ls 4 [(0, .ref a0), (1, .int x1), (2, .ref a2)] := hl
  unfold wp_L_put at h
  refine lv_aload_n hx hb dL_put_0 rfl (lv_at hl 2 rfl) ?_
  refine lv_iconst (v := (0 : Int32)) hx hb dL_put_1 (by decide) ?_
  refine lv_aload_n hx hb dL_put_2 rfl (lv_at hl 0 rfl) ?_
  refine lv_iload_n hx hb dL_put_3 rfl (lv_at hl 1 rfl) ?_
  obtain ⟨ga_5, gb_6, hga_ga_5, hgb_ga_5, h⟩ := h
  obtain ⟨⟨fs_r_3, hrc_r_3⟩, h⟩ := h
  refine fx_cVH_i (As := [.int x1]) (rest := [.int (0 : Int32), .ref a2]) ⟨hx, hb, hml, hown, hts⟩ (cc_X8_put l G hzd hlt h) (⟨callB_of 1 hts ggL_put_X8_put rfl rfl rfl (hts (.initialized RX8) (by decide +kernel)) (hts (.methodLink RL 32 yX8_put) (by decide +kernel)) (by decide +kernel) ⟨Nat.le_of_ble_eq_true rfl, Nat.le_of_ble_eq_true rfl⟩, hts (.instanceMethod yX8_put) (by decide +kernel), hts (.selects RX8 yX8_put yX8_put) (by decide +kernel)⟩) rfl hrc_r_3 hK hZ hX hF hS hA rfl hl.1 rfl (Nat.le_of_ble_eq_true rfl) dL_put_4 ⟨by show _ ≤ mc; omega, by show _ ≤ ms; omega⟩ (fun E ce q9 f_4 H locs h hF hS hq1 hq2 hq3 => ?_) (fun r_3 f_4 H locs h hF hS => ?_)
  · obtain ⟨rfl, h⟩ := h
    refine vx_catch hown ([] : List ExceptionTableEntry) ⟨0, 16, 19, 15⟩ [] (by rw [htab]; rfl) (fun z hz => absurd hz List.not_mem_nil) (by decide) (by decide) (hts (.classLink RL 15 "java/lang/IllegalStateException") (by decide +kernel)) (va_Nw.use rfl (hX.2.1 (.castable "java/lang/IllegalStateException" "java/lang/IllegalStateException") (by decide +kernel))) hq1 hq2 hq3 ?_
    obtain ⟨cs_9, hcs⟩ : ∃ z, z = (0 + ga_5) := ⟨_, rfl⟩; obtain ⟨sl_10, hsl⟩ : ∃ z, z = (0 + gb_6) := ⟨_, rfl⟩
    have hbc : cs_9 + (mc - ga_5) ≤ mc := by omega
    have hbs : sl_10 + (ms - gb_6) ≤ ms := by omega
    refine W.widen (k := cs_9) (n := sl_10) (by omega) (by omega) ?_
    clear hcs hsl
    refine lv_astore_n (lv' := [(3, .ref q9), (0, .ref a0), (1, .int x1), (2, .ref a2)]) hx hb dL_put_19 rfl hl (by decide) rfl (fun ls hl => ?_)
    refine lv_iconst (v := (1 : Int32)) hx hb dL_put_20 (by decide) ?_
    refine vx_ret ?_
    refine W.widen (k := mc) (n := ms) (by omega) (by omega) ?_
    exact W.iret (v := (1 : Int32)) hx hb hr (fun t ht hW => ⟨⟨(1 : Int32), f_4, rfl, h, by rw [ht]; exact hF, FK.moved hW.alike hK⟩, hS.F ht⟩) hS.2.2 dL_put_21
  · obtain ⟨cs_11, hcs⟩ : ∃ z, z = (0 + ga_5) := ⟨_, rfl⟩; obtain ⟨sl_12, hsl⟩ : ∃ z, z = (0 + gb_6) := ⟨_, rfl⟩
    have hbc : cs_11 + (mc - ga_5) ≤ mc := by omega
    have hbs : sl_12 + (ms - gb_6) ≤ ms := by omega
    refine W.widen (k := cs_11) (n := sl_12) (by omega) (by omega) ?_
    clear hcs hsl
    obtain ⟨h1, h2⟩ := h
    refine lv_if_eq (tgt := 14) hx hb dL_put_7 (by decide) (fun c_13 => ?_) (fun c_13 => ?_)
    · have h := h1 c_13
      refine lv_lconst (v := (0 : Int64)) hx hb dL_put_14 (by decide) ?_
      exact J15 (0 : Int64) (0 : Int32) a2 f_4 (mc - ga_5) (ms - gb_6) _ _ _ _ _ h hbc hbs hF hS (lv_sub hl [] rfl)
    · have h := h2 c_13
      refine lv_lconst (v := (1 : Int64)) hx hb dL_put_10 (by decide) ?_
      refine lv_goto (tgt := 15) hx hb dL_put_11 (by decide) ?_
      exact J15 (1 : Int64) (0 : Int32) a2 f_4 (mc - ga_5) (ms - gb_6) _ _ _ _ _ h hbc hbs hF hS (lv_sub hl [] rfl)
theorem dL_get_0 : decode cL_get 0 = .ok (.aload_n 1, 1) := by decide +kernel
theorem dL_get_1 : decode cL_get 1 = .ok (.iconst 0, 1) := by decide +kernel
theorem dL_get_2 : decode cL_get 2 = .ok (.aload_n 0, 1) := by decide +kernel
theorem dL_get_3 : decode cL_get 3 = .ok (.invokevirtual 36, 3) := by decide +kernel
theorem dL_get_6 : decode cL_get 6 = .ok (.i2l, 1) := by decide +kernel
theorem dL_get_7 : decode cL_get 7 = .ok (.lastore, 1) := by decide +kernel
theorem dL_get_8 : decode cL_get 8 = .ok (.goto 6, 3) := by decide +kernel
theorem dL_get_11 : decode cL_get 11 = .ok (.astore_n 2, 1) := by decide +kernel
theorem dL_get_12 : decode cL_get 12 = .ok (.iconst 1, 1) := by decide +kernel
theorem dL_get_13 : decode cL_get 13 = .ok (.ireturn, 1) := by decide +kernel
theorem dL_get_14 : decode cL_get 14 = .ok (.iconst 0, 1) := by decide +kernel
theorem dL_get_15 : decode cL_get 15 = .ok (.ireturn, 1) := by decide +kernel
set_option maxRecDepth 20000 in
theorem ggL_get_X8_get : GoodIn wsL_get wsX8_get := goodIn_ca (goodIn_r _ [6, 7, 8, 9, 10, 5, 11, 12, 13, 14, 15, 16, 17, 18, 19, 20, 21, 22, 23, 24, 25, 26, 27, 28, 29, 30, 31, 32, 33, 34, 35, 36, 37, 38, 39, 40, 41, 42, 43, 44, 45, 46, 47, 48, 49, 50, 51, 52, 53, 54, 55, 56, 57, 58, 59, 60, 61, 62, 63, 64, 65, 66, 67, 68, 69, 70, 71, 72, 73, 74, 75, 76, 77, 78, 79, 80, 81, 82, 83, 84, 85, 86, 87, 88, 89, 90, 91, 92, 93, 94, 95, 96, 97, 98, 99] (by decide +kernel) (by decide +kernel)) (goodIn_sub (fun _ h => List.mem_cons_of_mem _ (List.mem_append_right _ h)) (by decide +kernel))
def wp_L_get (a0 : Nat) (a1 : Nat) (f : FT) (mc ms : Nat) (K : Int32 → FT → Prop) : Prop :=
  ∃ ga_3 gb_4 : Nat, ga_3 ≤ mc ∧ gb_4 ≤ ms ∧ isO f a0 11 ∧ wp_X8_get a0 f ga_3 gb_4 (fun r_1 f_2 => sJ f_2 a1 (0 : Int32) (Int32.toInt64 r_1) fun f_12 => K (0 : Int32) f_12) (fun E f_2 => (E = "java/util/NoSuchElementException" ∧ K (1 : Int32) f_2))
set_option maxHeartbeats 4000000 in
set_option maxRecDepth 100000 in
theorem cc_L_get (l : Launch) (G : GG) {f : FT} {sz : Nat} {a0 : Nat} {a1 : Nat} {mc ms : Nat} {K : Int32 → FT → Prop} (hlt : l.stackTraces = false) (h : wp_L_get a0 a1 f mc ms K) : vx_Met l yL_get wsL_get ({ frames := 8, cells := mc, slots := ms, locals := 175 } : Room) (FPL G [.ref a0, .ref a1] f sz) (va_Qi (fun r f9 => K r f9 : Int32 → FT → Prop) (FB G (fA f sz)) (fA f sz)) (FXC G (fA f sz) (fun _ _ => False)) mc ms (fA f sz) := by
  refine vx_ofWH (hh := [(0, 8, 11, 40)]) (cc := cL_get) (maxL := 3) (ret := (some .int)) (by decide) rfl ?_
  intro p e s m args below meth c s₁ B hml hv
  obtain ⟨rfl, hsz, hF, hK, hZ, hX, hXN⟩ := hv
  have hx := B.exec
  have hb := B.bytes
  have hr := B.returns
  have hts := atoms_spec (ws := wsL_get) B.pre
  have hown : s.vm.findClass RL = some m.cls := findClass_of_methodNamed B.named
  have hlocks := B.notSynchronized
  have htab : c.exceptionTable.toList = tableOf [(0, 8, 11, 40)] := vx_table (x := yL_get) B (hts (.codeWith yL_get cL_get 3 (some .int) [(0, 8, 11, 40)]) (by decide +kernel))
  subst hsz
  have hF := hF.self (sz := s.heap.size)
  generalize hAe : fA f s.heap.size = A at hF hZ hX ⊢
  have hA : ∀ q : Nat, s.heap.size ≤ q → A q := fun q h => by rw [← hAe]; exact Or.inr h
  have hS : va_S A s.heap s.heap [] := va_S.rf
  have hbc : 0 + mc ≤ mc := by omega
  have hbs : 0 + ms ≤ ms := by omega
  have hl := lv_entry ([.ref a0, .ref a1]) (n := 3) (Nat.le_of_ble_eq_true rfl)
  rw [lg_entry_eq]
  generalize (lg_sl ([.ref a0, .ref a1]) ++ List.replicate (3 - (lg_sl ([.ref a0, .ref a1])).length) Slot.unset).toArray = ls at hl ⊢
  have hl : lv_has ls 3 [(0, .ref a0), (1, .ref a1)] := hl
  unfold wp_L_get at h
  refine lv_aload_n hx hb dL_get_0 rfl (lv_at hl 1 rfl) ?_
  refine lv_iconst (v := (0 : Int32)) hx hb dL_get_1 (by decide) ?_
  refine lv_aload_n hx hb dL_get_2 rfl (lv_at hl 0 rfl) ?_
  obtain ⟨ga_3, gb_4, hga_ga_3, hgb_ga_3, h⟩ := h
  obtain ⟨⟨fs_r_1, hrc_r_1⟩, h⟩ := h
  refine fx_cVH_i (As := []) (rest := [.int (0 : Int32), .ref a1]) ⟨hx, hb, hml, hown, hts⟩ (cc_X8_get l G hlt h) (⟨callB_of 0 hts ggL_get_X8_get rfl rfl rfl (hts (.initialized RX8) (by decide +kernel)) (hts (.methodLink RL 36 yX8_get) (by decide +kernel)) (by decide +kernel) ⟨Nat.le_of_ble_eq_true rfl, Nat.le_of_ble_eq_true rfl⟩, hts (.instanceMethod yX8_get) (by decide +kernel), hts (.selects RX8 yX8_get yX8_get) (by decide +kernel)⟩) rfl hrc_r_1 hK hZ hX hF hS hA rfl hl.1 rfl (Nat.le_of_ble_eq_true rfl) dL_get_3 ⟨by show _ ≤ mc; omega, by show _ ≤ ms; omega⟩ (fun E ce q9 f_2 H locs h hF hS hq1 hq2 hq3 => ?_) (fun r_1 f_2 H locs h hF hS => ?_)
  · obtain ⟨rfl, h⟩ := h
    refine vx_catch hown ([] : List ExceptionTableEntry) ⟨0, 8, 11, 40⟩ [] (by rw [htab]; rfl) (fun z hz => absurd hz List.not_mem_nil) (by decide) (by decide) (hts (.classLink RL 40 "java/util/NoSuchElementException") (by decide +kernel)) (va_Nw.use rfl (hX.2.1 (.castable "java/util/NoSuchElementException" "java/util/NoSuchElementException") (by decide +kernel))) hq1 hq2 hq3 ?_
    obtain ⟨cs_7, hcs⟩ : ∃ z, z = (0 + ga_3) := ⟨_, rfl⟩; obtain ⟨sl_8, hsl⟩ : ∃ z, z = (0 + gb_4) := ⟨_, rfl⟩
    have hbc : cs_7 + (mc - ga_3) ≤ mc := by omega
    have hbs : sl_8 + (ms - gb_4) ≤ ms := by omega
    refine W.widen (k := cs_7) (n := sl_8) (by omega) (by omega) ?_
    clear hcs hsl
    refine lv_astore_n (lv' := [(2, .ref q9), (0, .ref a0), (1, .ref a1)]) hx hb dL_get_11 rfl hl (by decide) rfl (fun ls hl => ?_)
    refine lv_iconst (v := (1 : Int32)) hx hb dL_get_12 (by decide) ?_
    refine vx_ret ?_
    refine W.widen (k := mc) (n := ms) (by omega) (by omega) ?_
    exact W.iret (v := (1 : Int32)) hx hb hr (fun t ht hW => ⟨⟨(1 : Int32), f_2, rfl, h, by rw [ht]; exact hF, FK.moved hW.alike hK⟩, hS.F ht⟩) hS.2.2 dL_get_13
  · obtain ⟨cs_9, hcs⟩ : ∃ z, z = (0 + ga_3) := ⟨_, rfl⟩; obtain ⟨sl_10, hsl⟩ : ∃ z, z = (0 + gb_4) := ⟨_, rfl⟩
    have hbc : cs_9 + (mc - ga_3) ≤ mc := by omega
    have hbs : sl_10 + (ms - gb_4) ≤ ms := by omega
    refine W.widen (k := cs_9) (n := sl_10) (by omega) (by omega) ?_
    clear hcs hsl
    refine lv_i2l (v := (Int32.toInt64 r_1)) hx hb dL_get_6 rfl ?_
    obtain ⟨n_q_11, q_11, he_q_11, hi_q_11, h⟩ := h
    refine fw_last hx hb hK hF hS he_q_11 hi_q_11 dL_get_7 (fun H locs hF hS => ?_)
    obtain ⟨f_12, hf_f_12⟩ : ∃ z, z = fup f_2 a1 (.inl (3, n_q_11, .inr (.inl (vp_updL q_11 ((0 : Int32)).toNatClampNeg (Int32.toInt64 r_1))))) := ⟨_, rfl⟩
    rw [← hf_f_12] at hF; have h := h f_12 hf_f_12
    refine lv_goto (tgt := 14) hx hb dL_get_8 (by decide) ?_
    refine lv_iconst (v := (0 : Int32)) hx hb dL_get_14 (by decide) ?_
    refine vx_ret ?_
    refine W.widen (k := mc) (n := ms) (by omega) (by omega) ?_
    exact W.iret (v := (0 : Int32)) hx hb hr (fun t ht hW => ⟨⟨(0 : Int32), f_12, rfl, h, by rw [ht]; exact hF, FK.moved hW.alike hK⟩, hS.F ht⟩) hS.2.2 dL_get_15
theorem dL_remove_0 : decode cL_remove 0 = .ok (.aload_n 1, 1) := by decide +kernel
theorem dL_remove_1 : decode cL_remove 1 = .ok (.iconst 0, 1) := by decide +kernel
theorem dL_remove_2 : decode cL_remove 2 = .ok (.aload_n 0, 1) := by decide +kernel
theorem dL_remove_3 : decode cL_remove 3 = .ok (.invokevirtual 42, 3) := by decide +kernel
theorem dL_remove_6 : decode cL_remove 6 = .ok (.i2l, 1) := by decide +kernel
theorem dL_remove_7 : decode cL_remove 7 = .ok (.lastore, 1) := by decide +kernel
theorem dL_remove_8 : decode cL_remove 8 = .ok (.goto 6, 3) := by decide +kernel
theorem dL_remove_11 : decode cL_remove 11 = .ok (.astore_n 2, 1) := by decide +kernel
theorem dL_remove_12 : decode cL_remove 12 = .ok (.iconst 1, 1) := by decide +kernel
theorem dL_remove_13 : decode cL_remove 13 = .ok (.ireturn, 1) := by decide +kernel
theorem dL_remove_14 : decode cL_remove 14 = .ok (.iconst 0, 1) := by decide +kernel
theorem dL_remove_15 : decode cL_remove 15 = .ok (.ireturn, 1) := by decide +kernel
set_option maxRecDepth 20000 in
theorem ggL_remove_X8_remove : GoodIn wsL_remove wsX8_remove := goodIn_ca (goodIn_r _ [6, 7, 8, 9, 10, 5, 11, 12, 13, 14, 15, 16, 17, 18, 19, 20, 21, 22, 23, 24, 25, 26, 27, 28, 29, 30, 31, 32, 33, 34, 35, 36, 37, 38, 39, 40, 41, 42, 43, 44, 45, 46, 47, 48, 49, 50, 51, 52, 53, 54, 55, 56, 57, 58, 59, 60, 61, 62, 63, 64, 65, 66, 67, 68, 69, 70, 71, 72, 73, 74, 75, 76, 77, 78, 79, 80, 81, 82, 83, 84, 85, 86, 87, 88, 89, 90, 91, 92, 93, 94, 95, 96, 97, 98, 99, 100, 101, 102, 103, 104, 105, 106, 107, 108, 109, 110, 111, 112, 113, 114, 115, 116, 117, 118, 119, 120, 121, 122, 123, 124, 125, 126, 127, 128, 129, 130, 131, 132, 133, 134, 135, 136, 137, 138, 139, 140, 141, 142, 143, 144, 145, 146, 147, 148, 149, 150, 151, 152, 153, 154, 155, 156, 157, 158, 159, 160, 161, 162, 163, 164, 165, 166, 167, 168, 169, 170, 171, 172, 173, 174, 175, 176, 177, 178, 179, 180, 181, 182, 183, 184, 185, 186, 187, 188, 189, 190, 191, 192, 193, 194, 195, 196, 197, 198, 199, 200, 201, 202, 203, 204, 205, 206, 207, 208, 209, 210, 211, 212, 213, 214, 215, 216, 217, 218, 219, 220] (by decide +kernel) (by decide +kernel)) (goodIn_sub (fun _ h => List.mem_cons_of_mem _ (List.mem_append_right _ h)) (by decide +kernel))
def wp_L_remove (a0 : Nat) (a1 : Nat) (f : FT) (mc ms : Nat) (K : Int32 → FT → Prop) : Prop :=
  ∃ ga_3 gb_4 : Nat, ga_3 ≤ mc ∧ gb_4 ≤ ms ∧ isO f a0 11 ∧ wp_X8_remove a0 f ga_3 gb_4 (fun r_1 f_2 => sJ f_2 a1 (0 : Int32) (Int32.toInt64 r_1) fun f_12 => K (0 : Int32) f_12) (fun E f_2 => (E = "java/util/NoSuchElementException" ∧ K (1 : Int32) f_2))
set_option maxHeartbeats 4000000 in
set_option maxRecDepth 100000 in
theorem cc_L_remove (l : Launch) (G : GG) {f : FT} {sz : Nat} {a0 : Nat} {a1 : Nat} {mc ms : Nat} {K : Int32 → FT → Prop} (hlt : l.stackTraces = false) (h : wp_L_remove a0 a1 f mc ms K) : vx_Met l yL_remove wsL_remove ({ frames := 10, cells := mc, slots := ms, locals := 230 } : Room) (FPL G [.ref a0, .ref a1] f sz) (va_Qi (fun r f9 => K r f9 : Int32 → FT → Prop) (FB G (fA f sz)) (fA f sz)) (FXC G (fA f sz) (fun _ _ => False)) mc ms (fA f sz) := by
  refine vx_ofWH (hh := [(0, 8, 11, 40)]) (cc := cL_remove) (maxL := 3) (ret := (some .int)) (by decide) rfl ?_
  intro p e s m args below meth c s₁ B hml hv
  obtain ⟨rfl, hsz, hF, hK, hZ, hX, hXN⟩ := hv
  have hx := B.exec
  have hb := B.bytes
  have hr := B.returns
  have hts := atoms_spec (ws := wsL_remove) B.pre
  have hown : s.vm.findClass RL = some m.cls := findClass_of_methodNamed B.named
  have hlocks := B.notSynchronized
  have htab : c.exceptionTable.toList = tableOf [(0, 8, 11, 40)] := vx_table (x := yL_remove) B (hts (.codeWith yL_remove cL_remove 3 (some .int) [(0, 8, 11, 40)]) (by decide +kernel))
  subst hsz
  have hF := hF.self (sz := s.heap.size)
  generalize hAe : fA f s.heap.size = A at hF hZ hX ⊢
  have hA : ∀ q : Nat, s.heap.size ≤ q → A q := fun q h => by rw [← hAe]; exact Or.inr h
  have hS : va_S A s.heap s.heap [] := va_S.rf
  have hbc : 0 + mc ≤ mc := by omega
  have hbs : 0 + ms ≤ ms := by omega
  have hl := lv_entry ([.ref a0, .ref a1]) (n := 3) (Nat.le_of_ble_eq_true rfl)
  rw [lg_entry_eq]
  generalize (lg_sl ([.ref a0, .ref a1]) ++ List.replicate (3 - (lg_sl ([.ref a0, .ref a1])).length) Slot.unset).toArray = ls at hl ⊢
  have hl : lv_has ls 3 [(0, .ref a0), (1, .ref a1)] := hl
  unfold wp_L_remove at h
  refine lv_aload_n hx hb dL_remove_0 rfl (lv_at hl 1 rfl) ?_
  refine lv_iconst (v := (0 : Int32)) hx hb dL_remove_1 (by decide) ?_
  refine lv_aload_n hx hb dL_remove_2 rfl (lv_at hl 0 rfl) ?_
  obtain ⟨ga_3, gb_4, hga_ga_3, hgb_ga_3, h⟩ := h
  obtain ⟨⟨fs_r_1, hrc_r_1⟩, h⟩ := h
  refine fx_cVH_i (As := []) (rest := [.int (0 : Int32), .ref a1]) ⟨hx, hb, hml, hown, hts⟩ (cc_X8_remove l G hlt h) (⟨callB_of 0 hts ggL_remove_X8_remove rfl rfl rfl (hts (.initialized RX8) (by decide +kernel)) (hts (.methodLink RL 42 yX8_remove) (by decide +kernel)) (by decide +kernel) ⟨Nat.le_of_ble_eq_true rfl, Nat.le_of_ble_eq_true rfl⟩, hts (.instanceMethod yX8_remove) (by decide +kernel), hts (.selects RX8 yX8_remove yX8_remove) (by decide +kernel)⟩) rfl hrc_r_1 hK hZ hX hF hS hA rfl hl.1 rfl (Nat.le_of_ble_eq_true rfl) dL_remove_3 ⟨by show _ ≤ mc; omega, by show _ ≤ ms; omega⟩ (fun E ce q9 f_2 H locs h hF hS hq1 hq2 hq3 => ?_) (fun r_1 f_2 H locs h hF hS => ?_)
  · obtain ⟨rfl, h⟩ := h
    refine vx_catch hown ([] : List ExceptionTableEntry) ⟨0, 8, 11, 40⟩ [] (by rw [htab]; rfl) (fun z hz => absurd hz List.not_mem_nil) (by decide) (by decide) (hts (.classLink RL 40 "java/util/NoSuchElementException") (by decide +kernel)) (va_Nw.use rfl (hX.2.1 (.castable "java/util/NoSuchElementException" "java/util/NoSuchElementException") (by decide +kernel))) hq1 hq2 hq3 ?_
    obtain ⟨cs_7, hcs⟩ : ∃ z, z = (0 + ga_3) := ⟨_, rfl⟩; obtain ⟨sl_8, hsl⟩ : ∃ z, z = (0 + gb_4) := ⟨_, rfl⟩
    have hbc : cs_7 + (mc - ga_3) ≤ mc := by omega
    have hbs : sl_8 + (ms - gb_4) ≤ ms := by omega
    refine W.widen (k := cs_7) (n := sl_8) (by omega) (by omega) ?_
    clear hcs hsl
    refine lv_astore_n (lv' := [(2, .ref q9), (0, .ref a0), (1, .ref a1)]) hx hb dL_remove_11 rfl hl (by decide) rfl (fun ls hl => ?_)
    refine lv_iconst (v := (1 : Int32)) hx hb dL_remove_12 (by decide) ?_
    refine vx_ret ?_
    refine W.widen (k := mc) (n := ms) (by omega) (by omega) ?_
    exact W.iret (v := (1 : Int32)) hx hb hr (fun t ht hW => ⟨⟨(1 : Int32), f_2, rfl, h, by rw [ht]; exact hF, FK.moved hW.alike hK⟩, hS.F ht⟩) hS.2.2 dL_remove_13
  · obtain ⟨cs_9, hcs⟩ : ∃ z, z = (0 + ga_3) := ⟨_, rfl⟩; obtain ⟨sl_10, hsl⟩ : ∃ z, z = (0 + gb_4) := ⟨_, rfl⟩
    have hbc : cs_9 + (mc - ga_3) ≤ mc := by omega
    have hbs : sl_10 + (ms - gb_4) ≤ ms := by omega
    refine W.widen (k := cs_9) (n := sl_10) (by omega) (by omega) ?_
    clear hcs hsl
    refine lv_i2l (v := (Int32.toInt64 r_1)) hx hb dL_remove_6 rfl ?_
    obtain ⟨n_q_11, q_11, he_q_11, hi_q_11, h⟩ := h
    refine fw_last hx hb hK hF hS he_q_11 hi_q_11 dL_remove_7 (fun H locs hF hS => ?_)
    obtain ⟨f_12, hf_f_12⟩ : ∃ z, z = fup f_2 a1 (.inl (3, n_q_11, .inr (.inl (vp_updL q_11 ((0 : Int32)).toNatClampNeg (Int32.toInt64 r_1))))) := ⟨_, rfl⟩
    rw [← hf_f_12] at hF; have h := h f_12 hf_f_12
    refine lv_goto (tgt := 14) hx hb dL_remove_8 (by decide) ?_
    refine lv_iconst (v := (0 : Int32)) hx hb dL_remove_14 (by decide) ?_
    refine vx_ret ?_
    refine W.widen (k := mc) (n := ms) (by omega) (by omega) ?_
    exact W.iret (v := (0 : Int32)) hx hb hr (fun t ht hW => ⟨⟨(0 : Int32), f_12, rfl, h, by rw [ht]; exact hF, FK.moved hW.alike hK⟩, hS.F ht⟩) hS.2.2 dL_remove_15
theorem dL_select_0 : decode cL_select 0 = .ok (.aload_n 2, 1) := by decide +kernel
theorem dL_select_1 : decode cL_select 1 = .ok (.iconst 0, 1) := by decide +kernel
theorem dL_select_2 : decode cL_select 2 = .ok (.aload_n 0, 1) := by decide +kernel
theorem dL_select_3 : decode cL_select 3 = .ok (.iload_n 1, 1) := by decide +kernel
theorem dL_select_4 : decode cL_select 4 = .ok (.invokevirtual 45, 3) := by decide +kernel
theorem dL_select_7 : decode cL_select 7 = .ok (.i2l, 1) := by decide +kernel
theorem dL_select_8 : decode cL_select 8 = .ok (.lastore, 1) := by decide +kernel
theorem dL_select_9 : decode cL_select 9 = .ok (.goto 6, 3) := by decide +kernel
theorem dL_select_12 : decode cL_select 12 = .ok (.astore_n 3, 1) := by decide +kernel
theorem dL_select_13 : decode cL_select 13 = .ok (.iconst 1, 1) := by decide +kernel
theorem dL_select_14 : decode cL_select 14 = .ok (.ireturn, 1) := by decide +kernel
theorem dL_select_15 : decode cL_select 15 = .ok (.iconst 0, 1) := by decide +kernel
theorem dL_select_16 : decode cL_select 16 = .ok (.ireturn, 1) := by decide +kernel
set_option maxRecDepth 20000 in
theorem ggL_select_X8_select : GoodIn wsL_select wsX8_select := goodIn_ca (goodIn_r _ [6, 7, 8, 9, 10, 11, 12, 13, 14, 15, 16, 17, 18, 19, 20, 21, 22, 23, 24, 25, 26, 27, 28, 29, 30, 31, 32, 33, 34, 35, 36, 37, 38, 39, 40, 41, 42, 43, 44, 45, 46, 47, 48, 49, 50, 51, 52, 53, 54, 55, 56, 57, 58, 59, 60, 61, 62, 63, 64, 65, 66, 67, 68, 69, 70, 71, 72, 73, 74, 75, 76] (by decide +kernel) (by decide +kernel)) (goodIn_sub (fun _ h => List.mem_cons_of_mem _ (List.mem_append_right _ h)) (by decide +kernel))
def wp_L_select (a0 : Nat) (x1 : Int32) (a2 : Nat) (f : FT) (mc ms : Nat) (K : Int32 → FT → Prop) : Prop :=
  ∃ ga_3 gb_4 : Nat, ga_3 ≤ mc ∧ gb_4 ≤ ms ∧ isO f a0 11 ∧ wp_X8_select a0 x1 f ga_3 gb_4 (fun r_1 f_2 => sJ f_2 a2 (0 : Int32) (Int32.toInt64 r_1) fun f_12 => K (0 : Int32) f_12) (fun E f_2 => (E = "java/lang/IndexOutOfBoundsException" ∧ K (1 : Int32) f_2))
set_option maxHeartbeats 4000000 in
set_option maxRecDepth 100000 in
theorem cc_L_select (l : Launch) (G : GG) {f : FT} {sz : Nat} {a0 : Nat} {x1 : Int32} {a2 : Nat} {mc ms : Nat} {K : Int32 → FT → Prop} (hlt : l.stackTraces = false) (h : wp_L_select a0 x1 a2 f mc ms K) : vx_Met l yL_select wsL_select ({ frames := 7, cells := mc, slots := ms, locals := 111 } : Room) (FPL G [.ref a0, .int x1, .ref a2] f sz) (va_Qi (fun r f9 => K r f9 : Int32 → FT → Prop) (FB G (fA f sz)) (fA f sz)) (FXC G (fA f sz) (fun _ _ => False)) mc ms (fA f sz) := by
  refine vx_ofWH (hh := [(0, 9, 12, 27)]) (cc := cL_select) (maxL := 4) (ret := (some .int)) (by decide) rfl ?_
  intro p e s m args below meth c s₁ B hml hv
  obtain ⟨rfl, hsz, hF, hK, hZ, hX, hXN⟩ := hv
  have hx := B.exec
  have hb := B.bytes
  have hr := B.returns
  have hts := atoms_spec (ws := wsL_select) B.pre
  have hown : s.vm.findClass RL = some m.cls := findClass_of_methodNamed B.named
  have hlocks := B.notSynchronized
  have htab : c.exceptionTable.toList = tableOf [(0, 9, 12, 27)] := vx_table (x := yL_select) B (hts (.codeWith yL_select cL_select 4 (some .int) [(0, 9, 12, 27)]) (by decide +kernel))
  subst hsz
  have hF := hF.self (sz := s.heap.size)
  generalize hAe : fA f s.heap.size = A at hF hZ hX ⊢
  have hA : ∀ q : Nat, s.heap.size ≤ q → A q := fun q h => by rw [← hAe]; exact Or.inr h
  have hS : va_S A s.heap s.heap [] := va_S.rf
  have hbc : 0 + mc ≤ mc := by omega
  have hbs : 0 + ms ≤ ms := by omega
  have hl := lv_entry ([.ref a0, .int x1, .ref a2]) (n := 4) (Nat.le_of_ble_eq_true rfl)
  rw [lg_entry_eq]
  generalize (lg_sl ([.ref a0, .int x1, .ref a2]) ++ List.replicate (4 - (lg_sl ([.ref a0, .int x1, .ref a2])).length) Slot.unset).toArray = ls at hl ⊢
  have hl : lv_has ls 4 [(0, .ref a0), (1, .int x1), (2, .ref a2)] := hl
  unfold wp_L_select at h
  refine lv_aload_n hx hb dL_select_0 rfl (lv_at hl 2 rfl) ?_
  refine lv_iconst (v := (0 : Int32)) hx hb dL_select_1 (by decide) ?_
  refine lv_aload_n hx hb dL_select_2 rfl (lv_at hl 0 rfl) ?_
  refine lv_iload_n hx hb dL_select_3 rfl (lv_at hl 1 rfl) ?_
  obtain ⟨ga_3, gb_4, hga_ga_3, hgb_ga_3, h⟩ := h
  obtain ⟨⟨fs_r_1, hrc_r_1⟩, h⟩ := h
  refine fx_cVH_i (As := [.int x1]) (rest := [.int (0 : Int32), .ref a2]) ⟨hx, hb, hml, hown, hts⟩ (cc_X8_select l G hlt h) (⟨callB_of 1 hts ggL_select_X8_select rfl rfl rfl (hts (.initialized RX8) (by decide +kernel)) (hts (.methodLink RL 45 yX8_select) (by decide +kernel)) (by decide +kernel) ⟨Nat.le_of_ble_eq_true rfl, Nat.le_of_ble_eq_true rfl⟩, hts (.instanceMethod yX8_select) (by decide +kernel), hts (.selects RX8 yX8_select yX8_select) (by decide +kernel)⟩) rfl hrc_r_1 hK hZ hX hF hS hA rfl hl.1 rfl (Nat.le_of_ble_eq_true rfl) dL_select_4 ⟨by show _ ≤ mc; omega, by show _ ≤ ms; omega⟩ (fun E ce q9 f_2 H locs h hF hS hq1 hq2 hq3 => ?_) (fun r_1 f_2 H locs h hF hS => ?_)
  · obtain ⟨rfl, h⟩ := h
    refine vx_catch hown ([] : List ExceptionTableEntry) ⟨0, 9, 12, 27⟩ [] (by rw [htab]; rfl) (fun z hz => absurd hz List.not_mem_nil) (by decide) (by decide) (hts (.classLink RL 27 "java/lang/IndexOutOfBoundsException") (by decide +kernel)) (va_Nw.use rfl (hX.2.1 (.castable "java/lang/IndexOutOfBoundsException" "java/lang/IndexOutOfBoundsException") (by decide +kernel))) hq1 hq2 hq3 ?_
    obtain ⟨cs_7, hcs⟩ : ∃ z, z = (0 + ga_3) := ⟨_, rfl⟩; obtain ⟨sl_8, hsl⟩ : ∃ z, z = (0 + gb_4) := ⟨_, rfl⟩
    have hbc : cs_7 + (mc - ga_3) ≤ mc := by omega
    have hbs : sl_8 + (ms - gb_4) ≤ ms := by omega
    refine W.widen (k := cs_7) (n := sl_8) (by omega) (by omega) ?_
    clear hcs hsl
    refine lv_astore_n (lv' := [(3, .ref q9), (0, .ref a0), (1, .int x1), (2, .ref a2)]) hx hb dL_select_12 rfl hl (by decide) rfl (fun ls hl => ?_)
    refine lv_iconst (v := (1 : Int32)) hx hb dL_select_13 (by decide) ?_
    refine vx_ret ?_
    refine W.widen (k := mc) (n := ms) (by omega) (by omega) ?_
    exact W.iret (v := (1 : Int32)) hx hb hr (fun t ht hW => ⟨⟨(1 : Int32), f_2, rfl, h, by rw [ht]; exact hF, FK.moved hW.alike hK⟩, hS.F ht⟩) hS.2.2 dL_select_14
  · obtain ⟨cs_9, hcs⟩ : ∃ z, z = (0 + ga_3) := ⟨_, rfl⟩; obtain ⟨sl_10, hsl⟩ : ∃ z, z = (0 + gb_4) := ⟨_, rfl⟩
    have hbc : cs_9 + (mc - ga_3) ≤ mc := by omega
    have hbs : sl_10 + (ms - gb_4) ≤ ms := by omega
    refine W.widen (k := cs_9) (n := sl_10) (by omega) (by omega) ?_
    clear hcs hsl
    refine lv_i2l (v := (Int32.toInt64 r_1)) hx hb dL_select_7 rfl ?_
    obtain ⟨n_q_11, q_11, he_q_11, hi_q_11, h⟩ := h
    refine fw_last hx hb hK hF hS he_q_11 hi_q_11 dL_select_8 (fun H locs hF hS => ?_)
    obtain ⟨f_12, hf_f_12⟩ : ∃ z, z = fup f_2 a2 (.inl (3, n_q_11, .inr (.inl (vp_updL q_11 ((0 : Int32)).toNatClampNeg (Int32.toInt64 r_1))))) := ⟨_, rfl⟩
    rw [← hf_f_12] at hF; have h := h f_12 hf_f_12
    refine lv_goto (tgt := 15) hx hb dL_select_9 (by decide) ?_
    refine lv_iconst (v := (0 : Int32)) hx hb dL_select_15 (by decide) ?_
    refine vx_ret ?_
    refine W.widen (k := mc) (n := ms) (by omega) (by omega) ?_
    exact W.iret (v := (0 : Int32)) hx hb hr (fun t ht hW => ⟨⟨(0 : Int32), f_12, rfl, h, by rw [ht]; exact hF, FK.moved hW.alike hK⟩, hS.F ht⟩) hS.2.2 dL_select_16
theorem dL_floor_0 : decode cL_floor 0 = .ok (.aload_n 1, 1) := by decide +kernel
theorem dL_floor_1 : decode cL_floor 1 = .ok (.iconst 0, 1) := by decide +kernel
theorem dL_floor_2 : decode cL_floor 2 = .ok (.aload_n 0, 1) := by decide +kernel
theorem dL_floor_3 : decode cL_floor 3 = .ok (.invokevirtual 48, 3) := by decide +kernel
theorem dL_floor_6 : decode cL_floor 6 = .ok (.i2l, 1) := by decide +kernel
theorem dL_floor_7 : decode cL_floor 7 = .ok (.lastore, 1) := by decide +kernel
theorem dL_floor_8 : decode cL_floor 8 = .ok (.goto 6, 3) := by decide +kernel
theorem dL_floor_11 : decode cL_floor 11 = .ok (.astore_n 2, 1) := by decide +kernel
theorem dL_floor_12 : decode cL_floor 12 = .ok (.iconst 1, 1) := by decide +kernel
theorem dL_floor_13 : decode cL_floor 13 = .ok (.ireturn, 1) := by decide +kernel
theorem dL_floor_14 : decode cL_floor 14 = .ok (.iconst 0, 1) := by decide +kernel
theorem dL_floor_15 : decode cL_floor 15 = .ok (.ireturn, 1) := by decide +kernel
set_option maxRecDepth 20000 in
theorem ggL_floor_X8_floor : GoodIn wsL_floor wsX8_floor := goodIn_ca (goodIn_r _ [6, 7, 8, 9, 10, 11, 12, 13, 14, 15, 16, 17, 18, 19, 20, 21, 22, 23, 24, 25, 26, 27, 28, 29, 30, 31, 32, 33, 34, 35, 36, 37, 38, 39, 40, 41, 42, 43, 44, 45, 46, 47, 48, 49, 50, 51, 52, 53, 54, 55, 56, 57, 58, 59, 60, 61, 62, 63, 64, 65, 66, 67, 68, 69, 70, 71, 72, 73, 74, 75, 76, 77, 78, 79, 80, 81, 82, 83, 84, 85, 86, 87, 88, 89, 90, 91, 92] (by decide +kernel) (by decide +kernel)) (goodIn_sub (fun _ h => List.mem_cons_of_mem _ (List.mem_append_right _ h)) (by decide +kernel))
def wp_L_floor (a0 : Nat) (a1 : Nat) (f : FT) (mc ms : Nat) (K : Int32 → FT → Prop) : Prop :=
  ∃ ga_3 gb_4 : Nat, ga_3 ≤ mc ∧ gb_4 ≤ ms ∧ isO f a0 11 ∧ wp_X8_floor a0 f ga_3 gb_4 (fun r_1 f_2 => sJ f_2 a1 (0 : Int32) (Int32.toInt64 r_1) fun f_12 => K (0 : Int32) f_12) (fun E f_2 => (E = "java/util/NoSuchElementException" ∧ K (1 : Int32) f_2))
set_option maxHeartbeats 4000000 in
set_option maxRecDepth 100000 in
theorem cc_L_floor (l : Launch) (G : GG) {f : FT} {sz : Nat} {a0 : Nat} {a1 : Nat} {mc ms : Nat} {K : Int32 → FT → Prop} (hlt : l.stackTraces = false) (h : wp_L_floor a0 a1 f mc ms K) : vx_Met l yL_floor wsL_floor ({ frames := 7, cells := mc, slots := ms, locals := 132 } : Room) (FPL G [.ref a0, .ref a1] f sz) (va_Qi (fun r f9 => K r f9 : Int32 → FT → Prop) (FB G (fA f sz)) (fA f sz)) (FXC G (fA f sz) (fun _ _ => False)) mc ms (fA f sz) := by
  refine vx_ofWH (hh := [(0, 8, 11, 40)]) (cc := cL_floor) (maxL := 3) (ret := (some .int)) (by decide) rfl ?_
  intro p e s m args below meth c s₁ B hml hv
  obtain ⟨rfl, hsz, hF, hK, hZ, hX, hXN⟩ := hv
  have hx := B.exec
  have hb := B.bytes
  have hr := B.returns
  have hts := atoms_spec (ws := wsL_floor) B.pre
  have hown : s.vm.findClass RL = some m.cls := findClass_of_methodNamed B.named
  have hlocks := B.notSynchronized
  have htab : c.exceptionTable.toList = tableOf [(0, 8, 11, 40)] := vx_table (x := yL_floor) B (hts (.codeWith yL_floor cL_floor 3 (some .int) [(0, 8, 11, 40)]) (by decide +kernel))
  subst hsz
  have hF := hF.self (sz := s.heap.size)
  generalize hAe : fA f s.heap.size = A at hF hZ hX ⊢
  have hA : ∀ q : Nat, s.heap.size ≤ q → A q := fun q h => by rw [← hAe]; exact Or.inr h
  have hS : va_S A s.heap s.heap [] := va_S.rf
  have hbc : 0 + mc ≤ mc := by omega
  have hbs : 0 + ms ≤ ms := by omega
  have hl := lv_entry ([.ref a0, .ref a1]) (n := 3) (Nat.le_of_ble_eq_true rfl)
  rw [lg_entry_eq]
  generalize (lg_sl ([.ref a0, .ref a1]) ++ List.replicate (3 - (lg_sl ([.ref a0, .ref a1])).length) Slot.unset).toArray = ls at hl ⊢
  have hl : lv_has ls 3 [(0, .ref a0), (1, .ref a1)] := hl
  unfold wp_L_floor at h
  refine lv_aload_n hx hb dL_floor_0 rfl (lv_at hl 1 rfl) ?_
  refine lv_iconst (v := (0 : Int32)) hx hb dL_floor_1 (by decide) ?_
  refine lv_aload_n hx hb dL_floor_2 rfl (lv_at hl 0 rfl) ?_
  obtain ⟨ga_3, gb_4, hga_ga_3, hgb_ga_3, h⟩ := h
  obtain ⟨⟨fs_r_1, hrc_r_1⟩, h⟩ := h
  refine fx_cVH_i (As := []) (rest := [.int (0 : Int32), .ref a1]) ⟨hx, hb, hml, hown, hts⟩ (cc_X8_floor l G hlt h) (⟨callB_of 0 hts ggL_floor_X8_floor rfl rfl rfl (hts (.initialized RX8) (by decide +kernel)) (hts (.methodLink RL 48 yX8_floor) (by decide +kernel)) (by decide +kernel) ⟨Nat.le_of_ble_eq_true rfl, Nat.le_of_ble_eq_true rfl⟩, hts (.instanceMethod yX8_floor) (by decide +kernel), hts (.selects RX8 yX8_floor yX8_floor) (by decide +kernel)⟩) rfl hrc_r_1 hK hZ hX hF hS hA rfl hl.1 rfl (Nat.le_of_ble_eq_true rfl) dL_floor_3 ⟨by show _ ≤ mc; omega, by show _ ≤ ms; omega⟩ (fun E ce q9 f_2 H locs h hF hS hq1 hq2 hq3 => ?_) (fun r_1 f_2 H locs h hF hS => ?_)
  · obtain ⟨rfl, h⟩ := h
    refine vx_catch hown ([] : List ExceptionTableEntry) ⟨0, 8, 11, 40⟩ [] (by rw [htab]; rfl) (fun z hz => absurd hz List.not_mem_nil) (by decide) (by decide) (hts (.classLink RL 40 "java/util/NoSuchElementException") (by decide +kernel)) (va_Nw.use rfl (hX.2.1 (.castable "java/util/NoSuchElementException" "java/util/NoSuchElementException") (by decide +kernel))) hq1 hq2 hq3 ?_
    obtain ⟨cs_7, hcs⟩ : ∃ z, z = (0 + ga_3) := ⟨_, rfl⟩; obtain ⟨sl_8, hsl⟩ : ∃ z, z = (0 + gb_4) := ⟨_, rfl⟩
    have hbc : cs_7 + (mc - ga_3) ≤ mc := by omega
    have hbs : sl_8 + (ms - gb_4) ≤ ms := by omega
    refine W.widen (k := cs_7) (n := sl_8) (by omega) (by omega) ?_
    clear hcs hsl
    refine lv_astore_n (lv' := [(2, .ref q9), (0, .ref a0), (1, .ref a1)]) hx hb dL_floor_11 rfl hl (by decide) rfl (fun ls hl => ?_)
    refine lv_iconst (v := (1 : Int32)) hx hb dL_floor_12 (by decide) ?_
    refine vx_ret ?_
    refine W.widen (k := mc) (n := ms) (by omega) (by omega) ?_
    exact W.iret (v := (1 : Int32)) hx hb hr (fun t ht hW => ⟨⟨(1 : Int32), f_2, rfl, h, by rw [ht]; exact hF, FK.moved hW.alike hK⟩, hS.F ht⟩) hS.2.2 dL_floor_13
  · obtain ⟨cs_9, hcs⟩ : ∃ z, z = (0 + ga_3) := ⟨_, rfl⟩; obtain ⟨sl_10, hsl⟩ : ∃ z, z = (0 + gb_4) := ⟨_, rfl⟩
    have hbc : cs_9 + (mc - ga_3) ≤ mc := by omega
    have hbs : sl_10 + (ms - gb_4) ≤ ms := by omega
    refine W.widen (k := cs_9) (n := sl_10) (by omega) (by omega) ?_
    clear hcs hsl
    refine lv_i2l (v := (Int32.toInt64 r_1)) hx hb dL_floor_6 rfl ?_
    obtain ⟨n_q_11, q_11, he_q_11, hi_q_11, h⟩ := h
    refine fw_last hx hb hK hF hS he_q_11 hi_q_11 dL_floor_7 (fun H locs hF hS => ?_)
    obtain ⟨f_12, hf_f_12⟩ : ∃ z, z = fup f_2 a1 (.inl (3, n_q_11, .inr (.inl (vp_updL q_11 ((0 : Int32)).toNatClampNeg (Int32.toInt64 r_1))))) := ⟨_, rfl⟩
    rw [← hf_f_12] at hF; have h := h f_12 hf_f_12
    refine lv_goto (tgt := 14) hx hb dL_floor_8 (by decide) ?_
    refine lv_iconst (v := (0 : Int32)) hx hb dL_floor_14 (by decide) ?_
    refine vx_ret ?_
    refine W.widen (k := mc) (n := ms) (by omega) (by omega) ?_
    exact W.iret (v := (0 : Int32)) hx hb hr (fun t ht hW => ⟨⟨(0 : Int32), f_12, rfl, h, by rw [ht]; exact hF, FK.moved hW.alike hK⟩, hS.F ht⟩) hS.2.2 dL_floor_15
theorem dL_pageCount_0 : decode cL_pageCount 0 = .ok (.aload_n 2, 1) := by decide +kernel
theorem dL_pageCount_1 : decode cL_pageCount 1 = .ok (.iconst 0, 1) := by decide +kernel
theorem dL_pageCount_2 : decode cL_pageCount 2 = .ok (.aload_n 0, 1) := by decide +kernel
theorem dL_pageCount_3 : decode cL_pageCount 3 = .ok (.iload_n 1, 1) := by decide +kernel
theorem dL_pageCount_4 : decode cL_pageCount 4 = .ok (.invokevirtual 51, 3) := by decide +kernel
theorem dL_pageCount_7 : decode cL_pageCount 7 = .ok (.i2l, 1) := by decide +kernel
theorem dL_pageCount_8 : decode cL_pageCount 8 = .ok (.lastore, 1) := by decide +kernel
theorem dL_pageCount_9 : decode cL_pageCount 9 = .ok (.goto 6, 3) := by decide +kernel
theorem dL_pageCount_12 : decode cL_pageCount 12 = .ok (.astore_n 3, 1) := by decide +kernel
theorem dL_pageCount_13 : decode cL_pageCount 13 = .ok (.iconst 1, 1) := by decide +kernel
theorem dL_pageCount_14 : decode cL_pageCount 14 = .ok (.ireturn, 1) := by decide +kernel
theorem dL_pageCount_15 : decode cL_pageCount 15 = .ok (.iconst 0, 1) := by decide +kernel
theorem dL_pageCount_16 : decode cL_pageCount 16 = .ok (.ireturn, 1) := by decide +kernel
set_option maxRecDepth 20000 in
theorem ggL_pageCount_X8_pageCount : GoodIn wsL_pageCount wsX8_pageCount := goodIn_ca (goodIn_r _ [6, 7, 8, 9, 10, 5, 11, 12, 13, 14, 15, 16, 17, 18, 19, 20, 21, 22, 23, 24, 25, 26, 27, 28, 29, 30, 31, 32, 33, 34, 35, 36, 37, 38, 39, 40, 41, 42, 43, 44, 45, 46, 47, 48, 49, 50, 51, 52, 53, 54, 55, 56, 57, 58, 59, 60, 61, 62, 63, 64, 65, 66, 67, 68, 69, 70, 71, 72, 73, 74, 75, 76, 77, 78, 79, 80] (by decide +kernel) (by decide +kernel)) (goodIn_sub (fun _ h => List.mem_cons_of_mem _ (List.mem_append_right _ h)) (by decide +kernel))
def wp_L_pageCount (a0 : Nat) (x1 : Int32) (a2 : Nat) (f : FT) (mc ms : Nat) (K : Int32 → FT → Prop) : Prop :=
  ∃ ga_3 gb_4 : Nat, ga_3 ≤ mc ∧ gb_4 ≤ ms ∧ isO f a0 11 ∧ wp_X8_pageCount a0 x1 f ga_3 gb_4 (fun r_1 f_2 => sJ f_2 a2 (0 : Int32) (Int32.toInt64 r_1) fun f_12 => K (0 : Int32) f_12) (fun E f_2 => (E = "java/lang/IndexOutOfBoundsException" ∧ K (1 : Int32) f_2))
set_option maxHeartbeats 4000000 in
set_option maxRecDepth 100000 in
theorem cc_L_pageCount (l : Launch) (G : GG) {f : FT} {sz : Nat} {a0 : Nat} {x1 : Int32} {a2 : Nat} {mc ms : Nat} {K : Int32 → FT → Prop} (hlt : l.stackTraces = false) (h : wp_L_pageCount a0 x1 a2 f mc ms K) : vx_Met l yL_pageCount wsL_pageCount ({ frames := 8, cells := mc, slots := ms, locals := 132 } : Room) (FPL G [.ref a0, .int x1, .ref a2] f sz) (va_Qi (fun r f9 => K r f9 : Int32 → FT → Prop) (FB G (fA f sz)) (fA f sz)) (FXC G (fA f sz) (fun _ _ => False)) mc ms (fA f sz) := by
  refine vx_ofWH (hh := [(0, 9, 12, 27)]) (cc := cL_pageCount) (maxL := 4) (ret := (some .int)) (by decide) rfl ?_
  intro p e s m args below meth c s₁ B hml hv
  obtain ⟨rfl, hsz, hF, hK, hZ, hX, hXN⟩ := hv
  have hx := B.exec
  have hb := B.bytes
  have hr := B.returns
  have hts := atoms_spec (ws := wsL_pageCount) B.pre
  have hown : s.vm.findClass RL = some m.cls := findClass_of_methodNamed B.named
  have hlocks := B.notSynchronized
  have htab : c.exceptionTable.toList = tableOf [(0, 9, 12, 27)] := vx_table (x := yL_pageCount) B (hts (.codeWith yL_pageCount cL_pageCount 4 (some .int) [(0, 9, 12, 27)]) (by decide +kernel))
  subst hsz
  have hF := hF.self (sz := s.heap.size)
  generalize hAe : fA f s.heap.size = A at hF hZ hX ⊢
  have hA : ∀ q : Nat, s.heap.size ≤ q → A q := fun q h => by rw [← hAe]; exact Or.inr h
  have hS : va_S A s.heap s.heap [] := va_S.rf
  have hbc : 0 + mc ≤ mc := by omega
  have hbs : 0 + ms ≤ ms := by omega
  have hl := lv_entry ([.ref a0, .int x1, .ref a2]) (n := 4) (Nat.le_of_ble_eq_true rfl)
  rw [lg_entry_eq]
  generalize (lg_sl ([.ref a0, .int x1, .ref a2]) ++ List.replicate (4 - (lg_sl ([.ref a0, .int x1, .ref a2])).length) Slot.unset).toArray = ls at hl ⊢
  have hl : lv_has ls 4 [(0, .ref a0), (1, .int x1), (2, .ref a2)] := hl
  unfold wp_L_pageCount at h
  refine lv_aload_n hx hb dL_pageCount_0 rfl (lv_at hl 2 rfl) ?_
  refine lv_iconst (v := (0 : Int32)) hx hb dL_pageCount_1 (by decide) ?_
  refine lv_aload_n hx hb dL_pageCount_2 rfl (lv_at hl 0 rfl) ?_
  refine lv_iload_n hx hb dL_pageCount_3 rfl (lv_at hl 1 rfl) ?_
  obtain ⟨ga_3, gb_4, hga_ga_3, hgb_ga_3, h⟩ := h
  obtain ⟨⟨fs_r_1, hrc_r_1⟩, h⟩ := h
  refine fx_cVH_i (As := [.int x1]) (rest := [.int (0 : Int32), .ref a2]) ⟨hx, hb, hml, hown, hts⟩ (cc_X8_pageCount l G hlt h) (⟨callB_of 1 hts ggL_pageCount_X8_pageCount rfl rfl rfl (hts (.initialized RX8) (by decide +kernel)) (hts (.methodLink RL 51 yX8_pageCount) (by decide +kernel)) (by decide +kernel) ⟨Nat.le_of_ble_eq_true rfl, Nat.le_of_ble_eq_true rfl⟩, hts (.instanceMethod yX8_pageCount) (by decide +kernel), hts (.selects RX8 yX8_pageCount yX8_pageCount) (by decide +kernel)⟩) rfl hrc_r_1 hK hZ hX hF hS hA rfl hl.1 rfl (Nat.le_of_ble_eq_true rfl) dL_pageCount_4 ⟨by show _ ≤ mc; omega, by show _ ≤ ms; omega⟩ (fun E ce q9 f_2 H locs h hF hS hq1 hq2 hq3 => ?_) (fun r_1 f_2 H locs h hF hS => ?_)
  · obtain ⟨rfl, h⟩ := h
    refine vx_catch hown ([] : List ExceptionTableEntry) ⟨0, 9, 12, 27⟩ [] (by rw [htab]; rfl) (fun z hz => absurd hz List.not_mem_nil) (by decide) (by decide) (hts (.classLink RL 27 "java/lang/IndexOutOfBoundsException") (by decide +kernel)) (va_Nw.use rfl (hX.2.1 (.castable "java/lang/IndexOutOfBoundsException" "java/lang/IndexOutOfBoundsException") (by decide +kernel))) hq1 hq2 hq3 ?_
    obtain ⟨cs_7, hcs⟩ : ∃ z, z = (0 + ga_3) := ⟨_, rfl⟩; obtain ⟨sl_8, hsl⟩ : ∃ z, z = (0 + gb_4) := ⟨_, rfl⟩
    have hbc : cs_7 + (mc - ga_3) ≤ mc := by omega
    have hbs : sl_8 + (ms - gb_4) ≤ ms := by omega
    refine W.widen (k := cs_7) (n := sl_8) (by omega) (by omega) ?_
    clear hcs hsl
    refine lv_astore_n (lv' := [(3, .ref q9), (0, .ref a0), (1, .int x1), (2, .ref a2)]) hx hb dL_pageCount_12 rfl hl (by decide) rfl (fun ls hl => ?_)
    refine lv_iconst (v := (1 : Int32)) hx hb dL_pageCount_13 (by decide) ?_
    refine vx_ret ?_
    refine W.widen (k := mc) (n := ms) (by omega) (by omega) ?_
    exact W.iret (v := (1 : Int32)) hx hb hr (fun t ht hW => ⟨⟨(1 : Int32), f_2, rfl, h, by rw [ht]; exact hF, FK.moved hW.alike hK⟩, hS.F ht⟩) hS.2.2 dL_pageCount_14
  · obtain ⟨cs_9, hcs⟩ : ∃ z, z = (0 + ga_3) := ⟨_, rfl⟩; obtain ⟨sl_10, hsl⟩ : ∃ z, z = (0 + gb_4) := ⟨_, rfl⟩
    have hbc : cs_9 + (mc - ga_3) ≤ mc := by omega
    have hbs : sl_10 + (ms - gb_4) ≤ ms := by omega
    refine W.widen (k := cs_9) (n := sl_10) (by omega) (by omega) ?_
    clear hcs hsl
    refine lv_i2l (v := (Int32.toInt64 r_1)) hx hb dL_pageCount_7 rfl ?_
    obtain ⟨n_q_11, q_11, he_q_11, hi_q_11, h⟩ := h
    refine fw_last hx hb hK hF hS he_q_11 hi_q_11 dL_pageCount_8 (fun H locs hF hS => ?_)
    obtain ⟨f_12, hf_f_12⟩ : ∃ z, z = fup f_2 a2 (.inl (3, n_q_11, .inr (.inl (vp_updL q_11 ((0 : Int32)).toNatClampNeg (Int32.toInt64 r_1))))) := ⟨_, rfl⟩
    rw [← hf_f_12] at hF; have h := h f_12 hf_f_12
    refine lv_goto (tgt := 15) hx hb dL_pageCount_9 (by decide) ?_
    refine lv_iconst (v := (0 : Int32)) hx hb dL_pageCount_15 (by decide) ?_
    refine vx_ret ?_
    refine W.widen (k := mc) (n := ms) (by omega) (by omega) ?_
    exact W.iret (v := (0 : Int32)) hx hb hr (fun t ht hW => ⟨⟨(0 : Int32), f_12, rfl, h, by rw [ht]; exact hF, FK.moved hW.alike hK⟩, hS.F ht⟩) hS.2.2 dL_pageCount_16
theorem dL_pageSize_0 : decode cL_pageSize 0 = .ok (.aload_n 3, 1) := by decide +kernel
theorem dL_pageSize_1 : decode cL_pageSize 1 = .ok (.iconst 0, 1) := by decide +kernel
theorem dL_pageSize_2 : decode cL_pageSize 2 = .ok (.aload_n 0, 1) := by decide +kernel
theorem dL_pageSize_3 : decode cL_pageSize 3 = .ok (.iload_n 1, 1) := by decide +kernel
theorem dL_pageSize_4 : decode cL_pageSize 4 = .ok (.iload_n 2, 1) := by decide +kernel
theorem dL_pageSize_5 : decode cL_pageSize 5 = .ok (.invokevirtual 54, 3) := by decide +kernel
theorem dL_pageSize_8 : decode cL_pageSize 8 = .ok (.i2l, 1) := by decide +kernel
theorem dL_pageSize_9 : decode cL_pageSize 9 = .ok (.lastore, 1) := by decide +kernel
theorem dL_pageSize_10 : decode cL_pageSize 10 = .ok (.goto 7, 3) := by decide +kernel
theorem dL_pageSize_13 : decode cL_pageSize 13 = .ok (.astore 4, 2) := by decide +kernel
theorem dL_pageSize_15 : decode cL_pageSize 15 = .ok (.iconst 1, 1) := by decide +kernel
theorem dL_pageSize_16 : decode cL_pageSize 16 = .ok (.ireturn, 1) := by decide +kernel
theorem dL_pageSize_17 : decode cL_pageSize 17 = .ok (.iconst 0, 1) := by decide +kernel
theorem dL_pageSize_18 : decode cL_pageSize 18 = .ok (.ireturn, 1) := by decide +kernel
set_option maxRecDepth 20000 in
theorem ggL_pageSize_X8_pageSize : GoodIn wsL_pageSize wsX8_pageSize := goodIn_ca (goodIn_r _ [6, 7, 8, 9, 10, 5, 11, 12, 13, 14, 15, 16, 17, 18, 19, 20, 21, 22, 23, 24, 25, 26, 27, 28, 29, 30, 31, 32, 33, 34, 35, 36, 37, 38, 39, 40, 41, 42, 43, 44, 45, 46, 47, 48, 49, 50, 51, 52, 53, 54, 55, 56, 57, 58, 59, 60, 61, 62, 63, 64, 65, 66, 67, 68, 69, 70, 71, 72, 73, 74, 75, 76, 77, 78, 79, 80, 81, 82, 83, 84, 85, 86, 87, 88, 89, 90, 91, 92, 93, 94, 95, 96, 97, 98, 99, 100, 101, 102, 103, 104, 105, 106, 107, 108, 109, 110, 111, 112, 113, 114, 115, 116, 117, 118, 119, 120, 121, 122, 123, 124, 125, 126, 127, 128, 129, 130, 131, 132, 133, 134, 135] (by decide +kernel) (by decide +kernel)) (goodIn_sub (fun _ h => List.mem_cons_of_mem _ (List.mem_append_right _ h)) (by decide +kernel))
def wp_L_pageSize (a0 : Nat) (x1 : Int32) (x2 : Int32) (a3 : Nat) (f : FT) (mc ms : Nat) (K : Int32 → FT → Prop) : Prop :=
  ∃ ga_3 gb_4 : Nat, ga_3 ≤ mc ∧ gb_4 ≤ ms ∧ isO f a0 11 ∧ wp_X8_pageSize a0 x1 x2 f ga_3 gb_4 (fun r_1 f_2 => sJ f_2 a3 (0 : Int32) (Int32.toInt64 r_1) fun f_12 => K (0 : Int32) f_12) (fun E f_2 => (E = "java/lang/IndexOutOfBoundsException" ∧ K (1 : Int32) f_2))
set_option maxHeartbeats 4000000 in
set_option maxRecDepth 100000 in
theorem cc_L_pageSize (l : Launch) (G : GG) {f : FT} {sz : Nat} {a0 : Nat} {x1 : Int32} {x2 : Int32} {a3 : Nat} {mc ms : Nat} {K : Int32 → FT → Prop} (hlt : l.stackTraces = false) (h : wp_L_pageSize a0 x1 x2 a3 f mc ms K) : vx_Met l yL_pageSize wsL_pageSize ({ frames := 9, cells := mc, slots := ms, locals := 183 } : Room) (FPL G [.ref a0, .int x1, .int x2, .ref a3] f sz) (va_Qi (fun r f9 => K r f9 : Int32 → FT → Prop) (FB G (fA f sz)) (fA f sz)) (FXC G (fA f sz) (fun _ _ => False)) mc ms (fA f sz) := by
  refine vx_ofWH (hh := [(0, 10, 13, 27)]) (cc := cL_pageSize) (maxL := 5) (ret := (some .int)) (by decide) rfl ?_
  intro p e s m args below meth c s₁ B hml hv
  obtain ⟨rfl, hsz, hF, hK, hZ, hX, hXN⟩ := hv
  have hx := B.exec
  have hb := B.bytes
  have hr := B.returns
  have hts := atoms_spec (ws := wsL_pageSize) B.pre
  have hown : s.vm.findClass RL = some m.cls := findClass_of_methodNamed B.named
  have hlocks := B.notSynchronized
  have htab : c.exceptionTable.toList = tableOf [(0, 10, 13, 27)] := vx_table (x := yL_pageSize) B (hts (.codeWith yL_pageSize cL_pageSize 5 (some .int) [(0, 10, 13, 27)]) (by decide +kernel))
  subst hsz
  have hF := hF.self (sz := s.heap.size)
  generalize hAe : fA f s.heap.size = A at hF hZ hX ⊢
  have hA : ∀ q : Nat, s.heap.size ≤ q → A q := fun q h => by rw [← hAe]; exact Or.inr h
  have hS : va_S A s.heap s.heap [] := va_S.rf
  have hbc : 0 + mc ≤ mc := by omega
  have hbs : 0 + ms ≤ ms := by omega
  have hl := lv_entry ([.ref a0, .int x1, .int x2, .ref a3]) (n := 5) (Nat.le_of_ble_eq_true rfl)
  rw [lg_entry_eq]
  generalize (lg_sl ([.ref a0, .int x1, .int x2, .ref a3]) ++ List.replicate (5 - (lg_sl ([.ref a0, .int x1, .int x2, .ref a3])).length) Slot.unset).toArray = ls at hl ⊢
  have hl : lv_has ls 5 [(0, .ref a0), (1, .int x1), (2, .int x2), (3, .ref a3)] := hl
  unfold wp_L_pageSize at h
  refine lv_aload_n hx hb dL_pageSize_0 rfl (lv_at hl 3 rfl) ?_
  refine lv_iconst (v := (0 : Int32)) hx hb dL_pageSize_1 (by decide) ?_
  refine lv_aload_n hx hb dL_pageSize_2 rfl (lv_at hl 0 rfl) ?_
  refine lv_iload_n hx hb dL_pageSize_3 rfl (lv_at hl 1 rfl) ?_
  refine lv_iload_n hx hb dL_pageSize_4 rfl (lv_at hl 2 rfl) ?_
  obtain ⟨ga_3, gb_4, hga_ga_3, hgb_ga_3, h⟩ := h
  obtain ⟨⟨fs_r_1, hrc_r_1⟩, h⟩ := h
  refine fx_cVH_i (As := [.int x1, .int x2]) (rest := [.int (0 : Int32), .ref a3]) ⟨hx, hb, hml, hown, hts⟩ (cc_X8_pageSize l G hlt h) (⟨callB_of 2 hts ggL_pageSize_X8_pageSize rfl rfl rfl (hts (.initialized RX8) (by decide +kernel)) (hts (.methodLink RL 54 yX8_pageSize) (by decide +kernel)) (by decide +kernel) ⟨Nat.le_of_ble_eq_true rfl, Nat.le_of_ble_eq_true rfl⟩, hts (.instanceMethod yX8_pageSize) (by decide +kernel), hts (.selects RX8 yX8_pageSize yX8_pageSize) (by decide +kernel)⟩) rfl hrc_r_1 hK hZ hX hF hS hA rfl hl.1 rfl (Nat.le_of_ble_eq_true rfl) dL_pageSize_5 ⟨by show _ ≤ mc; omega, by show _ ≤ ms; omega⟩ (fun E ce q9 f_2 H locs h hF hS hq1 hq2 hq3 => ?_) (fun r_1 f_2 H locs h hF hS => ?_)
  · obtain ⟨rfl, h⟩ := h
    refine vx_catch hown ([] : List ExceptionTableEntry) ⟨0, 10, 13, 27⟩ [] (by rw [htab]; rfl) (fun z hz => absurd hz List.not_mem_nil) (by decide) (by decide) (hts (.classLink RL 27 "java/lang/IndexOutOfBoundsException") (by decide +kernel)) (va_Nw.use rfl (hX.2.1 (.castable "java/lang/IndexOutOfBoundsException" "java/lang/IndexOutOfBoundsException") (by decide +kernel))) hq1 hq2 hq3 ?_
    obtain ⟨cs_7, hcs⟩ : ∃ z, z = (0 + ga_3) := ⟨_, rfl⟩; obtain ⟨sl_8, hsl⟩ : ∃ z, z = (0 + gb_4) := ⟨_, rfl⟩
    have hbc : cs_7 + (mc - ga_3) ≤ mc := by omega
    have hbs : sl_8 + (ms - gb_4) ≤ ms := by omega
    refine W.widen (k := cs_7) (n := sl_8) (by omega) (by omega) ?_
    clear hcs hsl
    refine lv_astore (lv' := [(4, .ref q9), (0, .ref a0), (1, .int x1), (2, .int x2), (3, .ref a3)]) hx hb dL_pageSize_13 hl (by decide) rfl (fun ls hl => ?_)
    refine lv_iconst (v := (1 : Int32)) hx hb dL_pageSize_15 (by decide) ?_
    refine vx_ret ?_
    refine W.widen (k := mc) (n := ms) (by omega) (by omega) ?_
    exact W.iret (v := (1 : Int32)) hx hb hr (fun t ht hW => ⟨⟨(1 : Int32), f_2, rfl, h, by rw [ht]; exact hF, FK.moved hW.alike hK⟩, hS.F ht⟩) hS.2.2 dL_pageSize_16
  · obtain ⟨cs_9, hcs⟩ : ∃ z, z = (0 + ga_3) := ⟨_, rfl⟩; obtain ⟨sl_10, hsl⟩ : ∃ z, z = (0 + gb_4) := ⟨_, rfl⟩
    have hbc : cs_9 + (mc - ga_3) ≤ mc := by omega
    have hbs : sl_10 + (ms - gb_4) ≤ ms := by omega
    refine W.widen (k := cs_9) (n := sl_10) (by omega) (by omega) ?_
    clear hcs hsl
    refine lv_i2l (v := (Int32.toInt64 r_1)) hx hb dL_pageSize_8 rfl ?_
    obtain ⟨n_q_11, q_11, he_q_11, hi_q_11, h⟩ := h
    refine fw_last hx hb hK hF hS he_q_11 hi_q_11 dL_pageSize_9 (fun H locs hF hS => ?_)
    obtain ⟨f_12, hf_f_12⟩ : ∃ z, z = fup f_2 a3 (.inl (3, n_q_11, .inr (.inl (vp_updL q_11 ((0 : Int32)).toNatClampNeg (Int32.toInt64 r_1))))) := ⟨_, rfl⟩
    rw [← hf_f_12] at hF; have h := h f_12 hf_f_12
    refine lv_goto (tgt := 17) hx hb dL_pageSize_10 (by decide) ?_
    refine lv_iconst (v := (0 : Int32)) hx hb dL_pageSize_17 (by decide) ?_
    refine vx_ret ?_
    refine W.widen (k := mc) (n := ms) (by omega) (by omega) ?_
    exact W.iret (v := (0 : Int32)) hx hb hr (fun t ht hW => ⟨⟨(0 : Int32), f_12, rfl, h, by rw [ht]; exact hF, FK.moved hW.alike hK⟩, hS.F ht⟩) hS.2.2 dL_pageSize_18
