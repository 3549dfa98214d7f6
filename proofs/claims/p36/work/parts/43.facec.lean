theorem dX8_rank_0 : decode cX8_rank 0 = .ok (.aload_n 0, 1) := by decide +kernel
theorem dX8_rank_1 : decode cX8_rank 1 = .ok (.getfield 10, 3) := by decide +kernel
theorem dX8_rank_4 : decode cX8_rank 4 = .ok (.getfield 105, 3) := by decide +kernel
theorem dX8_rank_7 : decode cX8_rank 7 = .ok (.aload_n 0, 1) := by decide +kernel
theorem dX8_rank_8 : decode cX8_rank 8 = .ok (.getfield 58, 3) := by decide +kernel
theorem dX8_rank_11 : decode cX8_rank 11 = .ok (.iconst 0, 1) := by decide +kernel
theorem dX8_rank_12 : decode cX8_rank 12 = .ok (.invokevirtual 149, 3) := by decide +kernel
theorem dX8_rank_15 : decode cX8_rank 15 = .ok (.ireturn, 1) := by decide +kernel
set_option maxRecDepth 20000 in
theorem ggX8_rank_X4_countBelow : GoodIn wsX8_rank wsX4_countBelow := goodIn_r _ [7, 8, 9, 10, 11, 12, 13, 14, 15, 16, 17, 6, 18, 19, 20, 21, 22, 23, 24, 25, 26, 27, 28, 29, 30, 31, 32, 33, 34, 35, 36, 37, 38, 39, 40, 41, 42, 43, 44, 45, 46, 47, 48, 49, 50, 51, 69, 70, 71, 72, 73, 74] (by decide +kernel) (by decide +kernel)
def wp_X8_rank (a0 : Nat) (f : FT) (K : Int32 → Prop) : Prop :=
  gA f a0 11 0 fun a_1 => gA f a_1 10 0 fun a_3 => gA f a0 11 7 fun a_5 => isO f a_3 7 ∧ wp_X4_countBelow a_3 a_5 (0 : Int32) f (fun r_7 => K r_7)
set_option maxHeartbeats 4000000 in
set_option maxRecDepth 100000 in
theorem cc_X8_rank (l : Launch) (G : GG) {f : FT} {sz : Nat} {a0 : Nat} {K : Int32 → Prop} (h : wp_X8_rank a0 f K) : Met l yX8_rank wsX8_rank ({ frames := 5, cells := 0, slots := 0, locals := 111 } : Room) (FP G [.ref a0] f sz) (va_Qi (fun r f9 => K r ∧ f9 = f : Int32 → FT → Prop) (FB G (fA f sz)) (fA f sz)) 0 0 (fA f sz) := by
  refine Met.ofW (cc := cX8_rank) (maxL := 1) (ret := (some .int)) (by decide) rfl ?_
  intro p e s m args below meth c s₁ B hml hv
  obtain ⟨rfl, hsz, hF, hK, hZ⟩ := hv
  have hx := B.exec
  have hb := B.bytes
  have hr := B.returns
  have hts := atoms_spec (ws := wsX8_rank) B.pre
  have hown : s.vm.findClass RX8 = some m.cls := findClass_of_methodNamed B.named
  have hlocks := B.notSynchronized
  subst hsz
  have hF := hF.self (sz := s.heap.size)
  generalize hAe : fA f s.heap.size = A at hF hZ ⊢
  have hA : ∀ q : Nat, s.heap.size ≤ q → A q := fun q h => by rw [← hAe]; exact Or.inr h
  have hS : va_S A s.heap s.heap [] := va_S.rf
  have hin_X7 : ∀ w ∈ wsX70, w ∈ wsX8_rank := by decide +kernel
  have hin_X8 : ∀ w ∈ wsX80, w ∈ wsX8_rank := by decide +kernel
  have hl := lv_entry ([.ref a0]) (n := 1) (Nat.le_of_ble_eq_true rfl)
  rw [lg_entry_eq]
  generalize (lg_sl ([.ref a0]) ++ List.replicate (1 - (lg_sl ([.ref a0])).length) Slot.unset).toArray = ls at hl ⊢
  have hl : lv_has ls 1 [(0, .ref a0)] := hl
  unfold wp_X8_rank at h
  refine lv_aload_n hx hb dX8_rank_0 rfl (lv_at hl 0 rfl) ?_
  obtain ⟨fs_2, a_1, he_fs_2, hv_fs_2, h⟩ := h
  refine fw_get (C := RX8) (T := TX8) (N := 9) hx hb hts hin_X8 hown hK hF he_fs_2 rfl 0 (by decide) (hts (.fieldLink RX8 10 "FrontCodedIndex" "tree" "LFrontCodedIndex$Tree;") (by decide +kernel)) (fun _ h9 => h9) hv_fs_2 dX8_rank_1 ?_
  obtain ⟨fs_4, a_3, he_fs_4, hv_fs_4, h⟩ := h
  refine fw_getN (C := RX7) (T := TX7) (N := 8) hx hb hts hin_X7 hown hK hF he_fs_4 rfl 0 (by decide) (va_Nw.use rfl (hZ.2.1 (.fieldLinkNest RX8 105 "FrontCodedIndex$Tree" "keys" "LFrontCodedIndex$KeyRow;" "FrontCodedIndex") (by decide +kernel))) (fun _ h9 => h9) hv_fs_4 dX8_rank_4 ?_
  refine lv_aload_n hx hb dX8_rank_7 rfl (lv_at hl 0 rfl) ?_
  obtain ⟨fs_6, a_5, he_fs_6, hv_fs_6, h⟩ := h
  refine fw_get (C := RX8) (T := TX8) (N := 9) hx hb hts hin_X8 hown hK hF he_fs_6 rfl 7 (by decide) (hts (.fieldLink RX8 58 "FrontCodedIndex" "key" "LFrontCodedIndex$Key;") (by decide +kernel)) (fun _ h9 => h9) hv_fs_6 dX8_rank_8 ?_
  refine lv_iconst (v := (0 : Int32)) hx hb dX8_rank_11 (by decide) ?_
  obtain ⟨⟨fs_r_7, hrc_r_7⟩, h⟩ := h
  refine fw_cV_i_p (As := [.ref a_5, .int (0 : Int32)]) (rest := []) ⟨hx, hb, hml, hown, hts⟩ (cc_X4_countBelow l G h) (⟨callB_of 2 hts ggX8_rank_X4_countBelow rfl rfl rfl (hts (.initialized RX4) (by decide +kernel)) (hts (.methodLink RX8 149 yX4_countBelow) (by decide +kernel)) (by decide +kernel) ⟨Nat.le_of_ble_eq_true rfl, Nat.le_of_ble_eq_true rfl⟩, hts (.instanceMethod yX4_countBelow) (by decide +kernel), hts (.selects RX4 yX4_countBelow yX4_countBelow) (by decide +kernel)⟩) rfl hrc_r_7 hK hZ hF hS hA rfl hl.1 rfl (Nat.le_of_ble_eq_true rfl) dX8_rank_12 ⟨Nat.zero_le _, Nat.zero_le _⟩ (fun r_7 H locs h hF hS => ?_)
  exact W.iret (v := r_7) hx hb hr (fun t ht hW => ⟨⟨r_7, f, rfl, ⟨h, rfl⟩, by rw [ht]; exact hF, FK.moved hW.alike hK⟩, hS.F ht⟩) hS.2.2 dX8_rank_15
theorem dX8_removeAt_0 : decode cX8_removeAt 0 = .ok (.aload_n 0, 1) := by decide +kernel
theorem dX8_removeAt_1 : decode cX8_removeAt 1 = .ok (.getfield 38, 3) := by decide +kernel
theorem dX8_removeAt_4 : decode cX8_removeAt 4 = .ok (.aload_n 0, 1) := by decide +kernel
theorem dX8_removeAt_5 : decode cX8_removeAt 5 = .ok (.iload_n 1, 1) := by decide +kernel
theorem dX8_removeAt_6 : decode cX8_removeAt 6 = .ok (.invokevirtual 234, 3) := by decide +kernel
theorem dX8_removeAt_9 : decode cX8_removeAt 9 = .ok (.invokevirtual 146, 3) := by decide +kernel
theorem dX8_removeAt_12 : decode cX8_removeAt 12 = .ok (.ireturn, 1) := by decide +kernel
set_option maxRecDepth 20000 in
theorem ggX8_removeAt_X6_removeEntry : GoodIn wsX8_removeAt wsX6_removeEntry := goodIn_r _ [45, 46, 47, 48, 49, 50, 51, 52, 53, 54, 55, 56, 57, 58, 59, 60, 61, 62, 63, 36, 37, 38, 39, 40, 64, 65, 66, 67, 68, 69, 70, 71, 72, 73, 74, 75, 76, 77, 78, 79, 80, 81, 82, 83, 84, 85, 86, 87, 88, 32, 89, 34, 35, 90, 91, 92, 93, 94, 95, 96, 97, 98, 99, 100, 101, 102, 103, 104, 105, 106, 107, 108, 109, 110, 111, 112, 113, 114, 115, 116, 117, 118, 26, 119, 28, 120, 121, 122, 123, 124, 125, 126, 127, 128, 44, 129, 130, 131, 132, 133, 134, 135, 136, 137, 138, 139, 140, 141, 142, 143, 144, 145, 146, 147, 148, 149, 150, 151, 152, 153, 154, 155, 156, 157, 158, 159, 160, 161, 162, 163, 164, 165, 166, 167, 168, 169, 170, 171, 172, 173, 174, 175, 176, 177, 178, 179, 180, 181, 182, 183, 184, 185, 186, 187, 188, 212, 213, 214, 198, 199, 200, 201, 202, 203, 204, 205, 215, 216, 209, 210, 211, 207, 208, 206, 217] (by decide +kernel) (by decide +kernel)
set_option maxRecDepth 20000 in
theorem ggX8_removeAt_X8_entryOfCursor : GoodIn wsX8_removeAt wsX8_entryOfCursor := goodIn_ca (goodIn_ca (goodIn_ca (goodIn_r _ [6, 7, 8, 9, 10, 11, 12, 5, 13, 14, 15, 16, 17, 18, 19, 20, 21, 22, 23, 24, 25, 26, 27, 28, 29, 30, 31, 32, 33, 34, 35, 36, 37, 38, 39, 40, 189, 190, 191, 192, 193, 194, 195, 196, 197, 198, 199, 200, 201, 202, 203, 204, 205, 206, 207, 208, 209, 210, 211] (by decide +kernel) (by decide +kernel)) (goodIn_sub (fun _ h => List.mem_cons_of_mem _ (List.mem_append_left _ (List.mem_append_left _ (List.mem_append_right _ h)))) (by decide +kernel))) (goodIn_sub (fun _ h => List.mem_cons_of_mem _ (List.mem_append_left _ (List.mem_append_right _ h))) (by decide +kernel))) (goodIn_sub (fun _ h => List.mem_cons_of_mem _ (List.mem_append_right _ h)) (by decide +kernel))
def wp_X8_removeAt (a0 : Nat) (x1 : Int32) (f : FT) (mc ms : Nat) (K : Int32 → FT → Prop) (KX : String → FT → Prop) : Prop :=
  gA f a0 11 4 fun a_1 => ∃ ga_5 gb_6 : Nat, ga_5 ≤ mc ∧ gb_6 ≤ ms ∧ isO f a0 11 ∧ wp_X8_entryOfCursor a0 x1 f ga_5 gb_6 (fun r_3 f_4 => isO f_4 a_1 9 ∧ wp_X6_removeEntry a_1 r_3 f_4 (fun r_9 f_10 => K r_9 f_10)) KX
set_option maxHeartbeats 4000000 in
set_option maxRecDepth 100000 in
theorem cc_X8_removeAt (l : Launch) (G : GG) {f : FT} {sz : Nat} {a0 : Nat} {x1 : Int32} {mc ms : Nat} {K : Int32 → FT → Prop} {KX : String → FT → Prop} (hlt : l.stackTraces = false) (h : wp_X8_removeAt a0 x1 f mc ms K KX) : vx_Met l yX8_removeAt wsX8_removeAt ({ frames := 9, cells := mc, slots := ms, locals := 210 } : Room) (FPX G [.ref a0, .int x1] f sz) (va_Qi (fun r f9 => K r f9 : Int32 → FT → Prop) (FB G (fA f sz)) (fA f sz)) (FXC G (fA f sz) KX) mc ms (fA f sz) := by
  refine vx_ofW (cc := cX8_removeAt) (maxL := 2) (ret := (some .int)) (by decide) rfl ?_
  intro p e s m args below meth c s₁ B hml hxt hv
  obtain ⟨rfl, hsz, hF, hK, hZ, hX⟩ := hv
  have hx := B.exec
  have hb := B.bytes
  have hr := B.returns
  have hts := atoms_spec (ws := wsX8_removeAt) B.pre
  have hown : s.vm.findClass RX8 = some m.cls := findClass_of_methodNamed B.named
  have hlocks := B.notSynchronized
  subst hsz
  have hF := hF.self (sz := s.heap.size)
  generalize hAe : fA f s.heap.size = A at hF hZ hX ⊢
  have hA : ∀ q : Nat, s.heap.size ≤ q → A q := fun q h => by rw [← hAe]; exact Or.inr h
  have hS : va_S A s.heap s.heap [] := va_S.rf
  have hin_X8 : ∀ w ∈ wsX80, w ∈ wsX8_removeAt := by decide +kernel
  have hbc : 0 + mc ≤ mc := by omega
  have hbs : 0 + ms ≤ ms := by omega
  have hl := lv_entry ([.ref a0, .int x1]) (n := 2) (Nat.le_of_ble_eq_true rfl)
  rw [lg_entry_eq]
  generalize (lg_sl ([.ref a0, .int x1]) ++ List.replicate (2 - (lg_sl ([.ref a0, .int x1])).length) Slot.unset).toArray = ls at hl ⊢
  have hl : lv_has ls 2 [(0, .ref a0), (1, .int x1)] := hl
  unfold wp_X8_removeAt at h
  refine lv_aload_n hx hb dX8_removeAt_0 rfl (lv_at hl 0 rfl) ?_
  obtain ⟨fs_2, a_1, he_fs_2, hv_fs_2, h⟩ := h
  refine fw_get (C := RX8) (T := TX8) (N := 9) hx hb hts hin_X8 hown hK hF he_fs_2 rfl 4 (by decide) (hts (.fieldLink RX8 38 "FrontCodedIndex" "remover" "LFrontCodedIndex$Remover;") (by decide +kernel)) (fun _ h9 => h9) hv_fs_2 dX8_removeAt_1 ?_
  refine lv_aload_n hx hb dX8_removeAt_4 rfl (lv_at hl 0 rfl) ?_
  refine lv_iload_n hx hb dX8_removeAt_5 rfl (lv_at hl 1 rfl) ?_
  obtain ⟨ga_5, gb_6, hga_ga_5, hgb_ga_5, h⟩ := h
  obtain ⟨⟨fs_r_3, hrc_r_3⟩, h⟩ := h
  refine fx_cV_i (As := [.int x1]) (rest := [.ref a_1]) ⟨hx, hb, hml, hown, hts⟩ (cc_X8_entryOfCursor l G hlt h) (⟨callB_of 1 hts ggX8_removeAt_X8_entryOfCursor rfl rfl rfl (hts (.initialized RX8) (by decide +kernel)) (hts (.methodLink RX8 234 yX8_entryOfCursor) (by decide +kernel)) (by decide +kernel) ⟨Nat.le_of_ble_eq_true rfl, Nat.le_of_ble_eq_true rfl⟩, hts (.instanceMethod yX8_entryOfCursor) (by decide +kernel), hts (.selects RX8 yX8_entryOfCursor yX8_entryOfCursor) (by decide +kernel)⟩) rfl hrc_r_3 hK hZ hX hF hS hA rfl hl.1 rfl (Nat.le_of_ble_eq_true rfl) dX8_removeAt_6 ⟨by show _ ≤ mc; omega, by show _ ≤ ms; omega⟩ hxt hlocks (by omega) (by omega) (fun r_3 f_4 H locs h hF hS => ?_)
  obtain ⟨cs_7, hcs⟩ : ∃ z, z = (0 + ga_5) := ⟨_, rfl⟩; obtain ⟨sl_8, hsl⟩ : ∃ z, z = (0 + gb_6) := ⟨_, rfl⟩
  have hbc : cs_7 + (mc - ga_5) ≤ mc := by omega
  have hbs : sl_8 + (ms - gb_6) ≤ ms := by omega
  refine W.widen (k := cs_7) (n := sl_8) (by omega) (by omega) ?_
  clear hcs hsl
  obtain ⟨⟨fs_r_9, hrc_r_9⟩, h⟩ := h
  refine fw_cV_i (As := [.int r_3]) (rest := []) ⟨hx, hb, hml, hown, hts⟩ (cc_X6_removeEntry l G h) (⟨callB_of 1 hts ggX8_removeAt_X6_removeEntry rfl rfl rfl (hts (.initialized RX6) (by decide +kernel)) (hts (.methodLink RX8 146 yX6_removeEntry) (by decide +kernel)) (by decide +kernel) ⟨Nat.le_of_ble_eq_true rfl, Nat.le_of_ble_eq_true rfl⟩, hts (.instanceMethod yX6_removeEntry) (by decide +kernel), hts (.selects RX6 yX6_removeEntry yX6_removeEntry) (by decide +kernel)⟩) rfl hrc_r_9 hK hZ hF hS hA rfl hl.1 rfl (Nat.le_of_ble_eq_true rfl) dX8_removeAt_9 ⟨by show _ ≤ mc; omega, by show _ ≤ ms; omega⟩ (fun r_9 f_10 H locs h hF hS => ?_)
  simp only [Nat.add_zero]
  refine vx_ret ?_
  refine W.widen (k := mc) (n := ms) (by omega) (by omega) ?_
  exact W.iret (v := r_9) hx hb hr (fun t ht hW => ⟨⟨r_9, f_10, rfl, h, by rw [ht]; exact hF, FK.moved hW.alike hK⟩, hS.F ht⟩) hS.2.2 dX8_removeAt_12
theorem dX8_removeRange_0 : decode cX8_removeRange 0 = .ok (.aload_n 0, 1) := by decide +kernel
theorem dX8_removeRange_1 : decode cX8_removeRange 1 = .ok (.getfield 10, 3) := by decide +kernel
theorem dX8_removeRange_4 : decode cX8_removeRange 4 = .ok (.getfield 105, 3) := by decide +kernel
theorem dX8_removeRange_7 : decode cX8_removeRange 7 = .ok (.aload_n 0, 1) := by decide +kernel
theorem dX8_removeRange_8 : decode cX8_removeRange 8 = .ok (.getfield 62, 3) := by decide +kernel
theorem dX8_removeRange_11 : decode cX8_removeRange 11 = .ok (.iconst 0, 1) := by decide +kernel
theorem dX8_removeRange_12 : decode cX8_removeRange 12 = .ok (.invokevirtual 149, 3) := by decide +kernel
theorem dX8_removeRange_15 : decode cX8_removeRange 15 = .ok (.istore_n 1, 1) := by decide +kernel
theorem dX8_removeRange_16 : decode cX8_removeRange 16 = .ok (.aload_n 0, 1) := by decide +kernel
theorem dX8_removeRange_17 : decode cX8_removeRange 17 = .ok (.getfield 10, 3) := by decide +kernel
theorem dX8_removeRange_20 : decode cX8_removeRange 20 = .ok (.getfield 105, 3) := by decide +kernel
theorem dX8_removeRange_23 : decode cX8_removeRange 23 = .ok (.aload_n 0, 1) := by decide +kernel
theorem dX8_removeRange_24 : decode cX8_removeRange 24 = .ok (.getfield 58, 3) := by decide +kernel
theorem dX8_removeRange_27 : decode cX8_removeRange 27 = .ok (.iconst 0, 1) := by decide +kernel
theorem dX8_removeRange_28 : decode cX8_removeRange 28 = .ok (.invokevirtual 149, 3) := by decide +kernel
theorem dX8_removeRange_31 : decode cX8_removeRange 31 = .ok (.iload_n 1, 1) := by decide +kernel
theorem dX8_removeRange_32 : decode cX8_removeRange 32 = .ok (.isub, 1) := by decide +kernel
theorem dX8_removeRange_33 : decode cX8_removeRange 33 = .ok (.istore_n 2, 1) := by decide +kernel
theorem dX8_removeRange_34 : decode cX8_removeRange 34 = .ok (.iconst 0, 1) := by decide +kernel
theorem dX8_removeRange_35 : decode cX8_removeRange 35 = .ok (.istore_n 3, 1) := by decide +kernel
theorem dX8_removeRange_36 : decode cX8_removeRange 36 = .ok (.iload_n 3, 1) := by decide +kernel
theorem dX8_removeRange_37 : decode cX8_removeRange 37 = .ok (.iload_n 2, 1) := by decide +kernel
theorem dX8_removeRange_38 : decode cX8_removeRange 38 = .ok (.if_icmp .ge 18, 3) := by decide +kernel
theorem dX8_removeRange_41 : decode cX8_removeRange 41 = .ok (.aload_n 0, 1) := by decide +kernel
theorem dX8_removeRange_42 : decode cX8_removeRange 42 = .ok (.getfield 38, 3) := by decide +kernel
theorem dX8_removeRange_45 : decode cX8_removeRange 45 = .ok (.iload_n 1, 1) := by decide +kernel
theorem dX8_removeRange_46 : decode cX8_removeRange 46 = .ok (.invokevirtual 146, 3) := by decide +kernel
theorem dX8_removeRange_49 : decode cX8_removeRange 49 = .ok (.pop, 1) := by decide +kernel
theorem dX8_removeRange_50 : decode cX8_removeRange 50 = .ok (.iinc 3 1, 3) := by decide +kernel
theorem dX8_removeRange_53 : decode cX8_removeRange 53 = .ok (.goto (-17), 3) := by decide +kernel
theorem dX8_removeRange_56 : decode cX8_removeRange 56 = .ok (.iload_n 2, 1) := by decide +kernel
theorem dX8_removeRange_57 : decode cX8_removeRange 57 = .ok (.iconst 0, 1) := by decide +kernel
theorem dX8_removeRange_58 : decode cX8_removeRange 58 = .ok (.invokestatic 153, 3) := by decide +kernel
theorem dX8_removeRange_61 : decode cX8_removeRange 61 = .ok (.ireturn, 1) := by decide +kernel
set_option maxRecDepth 20000 in
theorem ggX8_removeRange_X4_countBelow : GoodIn wsX8_removeRange wsX4_countBelow := goodIn_r _ [13, 14, 15, 16, 17, 18, 19, 20, 21, 22, 23, 12, 24, 25, 26, 27, 28, 29, 30, 31, 32, 33, 34, 35, 36, 37, 38, 39, 40, 41, 42, 43, 44, 45, 46, 47, 48, 49, 50, 51, 52, 53, 54, 55, 56, 57, 195, 196, 197, 198, 199, 200] (by decide +kernel) (by decide +kernel)
set_option maxRecDepth 20000 in
theorem ggX8_removeRange_X6_removeEntry : GoodIn wsX8_removeRange wsX6_removeEntry := goodIn_r _ [62, 63, 64, 65, 66, 67, 68, 69, 70, 71, 72, 73, 74, 75, 76, 77, 78, 79, 80, 16, 17, 18, 19, 20, 81, 28, 29, 30, 31, 32, 33, 34, 35, 36, 37, 38, 39, 40, 41, 42, 43, 82, 83, 84, 85, 86, 87, 88, 89, 12, 90, 14, 15, 91, 92, 93, 94, 95, 96, 97, 98, 99, 100, 101, 102, 103, 104, 105, 106, 107, 108, 109, 110, 111, 112, 113, 6, 7, 8, 114, 115, 116, 117, 118, 119, 120, 121, 122, 123, 124, 125, 126, 127, 128, 61, 129, 130, 131, 132, 133, 134, 135, 136, 137, 138, 139, 140, 141, 142, 143, 144, 145, 146, 147, 148, 149, 22, 23, 24, 25, 26, 27, 150, 151, 152, 153, 154, 155, 156, 157, 47, 158, 53, 159, 50, 51, 52, 160, 161, 162, 163, 164, 165, 166, 167, 168, 169, 170, 171, 172, 173, 174, 175, 176, 177, 201, 202, 203, 187, 188, 189, 190, 191, 192, 193, 194, 204, 205, 197, 198, 199, 195, 196, 206, 200] (by decide +kernel) (by decide +kernel)
def wp_X8_removeRange_36 (a0 : Nat) (y1 : Int32) (y2 : Int32) (K : Int32 → FT → Prop)  (C36 : Int32 × FT → Prop) : Int32 × FT → Prop := fun s9 => match s9 with
  | (y3, f) => ((y2 ≤ y3 → ∀ v_2 : Int32, v_2 = (jmax y2 (0 : Int32)) → K v_2 f) ∧
 (¬ (y2 ≤ y3) → gA f a0 11 4 fun a_3 => isO f a_3 9 ∧ wp_X6_removeEntry a_3 y1 f (fun r_5 f_6 => ∀ v_7 : Int32, v_7 = y3 + 1 → C36 (v_7, f_6))))
def wp_X8_removeRange (a0 : Nat) (f : FT) (K : Int32 → FT → Prop) : Prop :=
  gA f a0 11 0 fun a_9 => gA f a_9 10 0 fun a_11 => gA f a0 11 8 fun a_13 => isO f a_11 7 ∧ wp_X4_countBelow a_11 a_13 (0 : Int32) f (fun r_15 => gA f a0 11 0 fun a_16 => gA f a_16 10 0 fun a_18 => gA f a0 11 7 fun a_20 => isO f a_18 7 ∧ wp_X4_countBelow a_18 a_20 (0 : Int32) f (fun r_22 => ∀ v_23 : Int32, v_23 = (r_22 - r_15) → ∃ n_25, loopW (wp_X8_removeRange_36 a0 r_15 v_23 K) n_25 ((0 : Int32), f)))
set_option maxHeartbeats 4000000 in
set_option maxRecDepth 100000 in
theorem cc_X8_removeRange (l : Launch) (G : GG) {f : FT} {sz : Nat} {a0 : Nat} {K : Int32 → FT → Prop} (h : wp_X8_removeRange a0 f K) : Met l yX8_removeRange wsX8_removeRange ({ frames := 9, cells := 0, slots := 0, locals := 210 } : Room) (FP G [.ref a0] f sz) (va_Qi (fun r f9 => K r f9 : Int32 → FT → Prop) (FB G (fA f sz)) (fA f sz)) 0 0 (fA f sz) := by
  refine Met.ofW (cc := cX8_removeRange) (maxL := 4) (ret := (some .int)) (by decide) rfl ?_
  intro p e s m args below meth c s₁ B hml hv
  obtain ⟨rfl, hsz, hF, hK, hZ⟩ := hv
  have hx := B.exec
  have hb := B.bytes
  have hr := B.returns
  have hts := atoms_spec (ws := wsX8_removeRange) B.pre
  have hown : s.vm.findClass RX8 = some m.cls := findClass_of_methodNamed B.named
  have hlocks := B.notSynchronized
  subst hsz
  have hF := hF.self (sz := s.heap.size)
  generalize hAe : fA f s.heap.size = A at hF hZ ⊢
  have hA : ∀ q : Nat, s.heap.size ≤ q → A q := fun q h => by rw [← hAe]; exact Or.inr h
  have hS : va_S A s.heap s.heap [] := va_S.rf
  have hin_X7 : ∀ w ∈ wsX70, w ∈ wsX8_removeRange := by decide +kernel
  have hin_X8 : ∀ w ∈ wsX80, w ∈ wsX8_removeRange := by decide +kernel
  have L36 : ∀ (y1 : Int32) (y2 : Int32) (j9 : Nat) (y3 : Int32) (f : FT) (H : Heap) (locs : List Loc) (ls : Array Slot), loopW (wp_X8_removeRange_36 a0 y1 y2 K ) j9 (y3, f) → Fw G A f H → va_S A s.heap H locs → lv_has ls 4 [(0, .ref a0), (1, .int y1), (2, .int y2), (3, .int y3)] → W p l e ({ frames := 9, cells := 0, slots := 0, locals := 210 } : Room) s m ([.ref a0] : List Value).toArray below meth c H locs 0 0 (MQ below (va_Qi (fun r f9 => K r f9 : Int32 → FT → Prop) (FB G A) A) ([.ref a0] : List Value).toArray s 0 0 A) (F0 m 36 ls []) := by
    intro y1 y2 j9
    induction j9 with
    | zero => intro y3 f H locs ls h; exact h.elim
    | succ j9 ih36 =>
      intro y3 f H locs ls h hF hS hl
      have h : wp_X8_removeRange_36 a0 y1 y2 K  (loopW (wp_X8_removeRange_36 a0 y1 y2 K ) j9) (y3, f) := h
      generalize loopW (wp_X8_removeRange_36 a0 y1 y2 K ) j9 = C36 at ih36 h
      unfold wp_X8_removeRange_36 at h
      refine lv_iload_n hx hb dX8_removeRange_36 rfl (lv_at hl 3 rfl) ?_
      refine lv_iload_n hx hb dX8_removeRange_37 rfl (lv_at hl 2 rfl) ?_
      obtain ⟨h1, h2⟩ := h
      refine lv_icmp_ge (tgt := 56) hx hb dX8_removeRange_38 (by decide) (fun c_1 => ?_) (fun c_1 => ?_)
      · have h := h1 c_1
        refine lv_iload_n hx hb dX8_removeRange_56 rfl (lv_at hl 2 rfl) ?_
        refine lv_iconst (v := (0 : Int32)) hx hb dX8_removeRange_57 (by decide) ?_
        refine va_mmax hx hb (hml.trans hl.1.symm) hown (hts (.methodLink RX8 153 Lib.Math.max.name) (by decide +kernel)) (hts (.static Lib.Math.max.name) (by decide +kernel)) (hts (.initialized "java/lang/Math") (by decide +kernel)) (hts (.code Lib.Math.max.name Lib.Math.max.code 2 (some .int)) (by decide +kernel)) (Nat.le_of_ble_eq_true rfl) (Nat.le_of_ble_eq_true rfl) (Nat.zero_le _) (Nat.zero_le _) dX8_removeRange_58 ?_
        refine lv_topi (fun v_2 e_v_2 => ?_)
        have h := h v_2 e_v_2
        exact W.iret (v := v_2) hx hb hr (fun t ht hW => ⟨⟨v_2, f, rfl, h, by rw [ht]; exact hF, FK.moved hW.alike hK⟩, hS.F ht⟩) hS.2.2 dX8_removeRange_61
      · have h := h2 c_1
        refine lv_aload_n hx hb dX8_removeRange_41 rfl (lv_at hl 0 rfl) ?_
        obtain ⟨fs_4, a_3, he_fs_4, hv_fs_4, h⟩ := h
        refine fw_get (C := RX8) (T := TX8) (N := 9) hx hb hts hin_X8 hown hK hF he_fs_4 rfl 4 (by decide) (hts (.fieldLink RX8 38 "FrontCodedIndex" "remover" "LFrontCodedIndex$Remover;") (by decide +kernel)) (fun _ h9 => h9) hv_fs_4 dX8_removeRange_42 ?_
        refine lv_iload_n hx hb dX8_removeRange_45 rfl (lv_at hl 1 rfl) ?_
        obtain ⟨⟨fs_r_5, hrc_r_5⟩, h⟩ := h
        refine fw_cV_i (As := [.int y1]) (rest := []) ⟨hx, hb, hml, hown, hts⟩ (cc_X6_removeEntry l G h) (⟨callB_of 1 hts ggX8_removeRange_X6_removeEntry rfl rfl rfl (hts (.initialized RX6) (by decide +kernel)) (hts (.methodLink RX8 146 yX6_removeEntry) (by decide +kernel)) (by decide +kernel) ⟨Nat.le_of_ble_eq_true rfl, Nat.le_of_ble_eq_true rfl⟩, hts (.instanceMethod yX6_removeEntry) (by decide +kernel), hts (.selects RX6 yX6_removeEntry yX6_removeEntry) (by decide +kernel)⟩) rfl hrc_r_5 hK hZ hF hS hA rfl hl.1 rfl (Nat.le_of_ble_eq_true rfl) dX8_removeRange_46 ⟨Nat.zero_le _, Nat.zero_le _⟩ (fun r_5 f_6 H locs h hF hS => ?_)
        refine lv_pop hx hb dX8_removeRange_49 rfl ?_
        obtain ⟨v_7, e_8⟩ : ∃ y : Int32, y = y3 + 1 := ⟨_, rfl⟩
        have h := h v_7 e_8
        refine lv_iinc (v := v_7) (lv' := [(3, .int v_7), (0, .ref a0), (1, .int y1), (2, .int y2)]) hx hb dX8_removeRange_50 hl (k := 3) rfl (by rw [e_8]; rfl) (by decide) rfl (fun ls hl => ?_)
        refine lv_goto (tgt := 36) hx hb dX8_removeRange_53 (by decide) ?_
        exact ih36 v_7 f_6 _ _ _ h hF hS (lv_sub hl [1, 2, 3, 0] rfl)
  have hl := lv_entry ([.ref a0]) (n := 4) (Nat.le_of_ble_eq_true rfl)
  rw [lg_entry_eq]
  generalize (lg_sl ([.ref a0]) ++ List.replicate (4 - (lg_sl ([.ref a0])).length) Slot.unset).toArray = ls at hl ⊢
  have hl : lv_has ls 4 [(0, .ref a0)] := hl
  unfold wp_X8_removeRange at h
  refine lv_aload_n hx hb dX8_removeRange_0 rfl (lv_at hl 0 rfl) ?_
  obtain ⟨fs_10, a_9, he_fs_10, hv_fs_10, h⟩ := h
  refine fw_get (C := RX8) (T := TX8) (N := 9) hx hb hts hin_X8 hown hK hF he_fs_10 rfl 0 (by decide) (hts (.fieldLink RX8 10 "FrontCodedIndex" "tree" "LFrontCodedIndex$Tree;") (by decide +kernel)) (fun _ h9 => h9) hv_fs_10 dX8_removeRange_1 ?_
  obtain ⟨fs_12, a_11, he_fs_12, hv_fs_12, h⟩ := h
  refine fw_getN (C := RX7) (T := TX7) (N := 8) hx hb hts hin_X7 hown hK hF he_fs_12 rfl 0 (by decide) (va_Nw.use rfl (hZ.2.1 (.fieldLinkNest RX8 105 "FrontCodedIndex$Tree" "keys" "LFrontCodedIndex$KeyRow;" "FrontCodedIndex") (by decide +kernel))) (fun _ h9 => h9) hv_fs_12 dX8_removeRange_4 ?_
  refine lv_aload_n hx hb dX8_removeRange_7 rfl (lv_at hl 0 rfl) ?_
  obtain ⟨fs_14, a_13, he_fs_14, hv_fs_14, h⟩ := h
  refine fw_get (C := RX8) (T := TX8) (N := 9) hx hb hts hin_X8 hown hK hF he_fs_14 rfl 8 (by decide) (hts (.fieldLink RX8 62 "FrontCodedIndex" "bound" "LFrontCodedIndex$Key;") (by decide +kernel)) (fun _ h9 => h9) hv_fs_14 dX8_removeRange_8 ?_
  refine lv_iconst (v := (0 : Int32)) hx hb dX8_removeRange_11 (by decide) ?_
  obtain ⟨⟨fs_r_15, hrc_r_15⟩, h⟩ := h
  refine fw_cV_i_p (As := [.ref a_13, .int (0 : Int32)]) (rest := []) ⟨hx, hb, hml, hown, hts⟩ (cc_X4_countBelow l G h) (⟨callB_of 2 hts ggX8_removeRange_X4_countBelow rfl rfl rfl (hts (.initialized RX4) (by decide +kernel)) (hts (.methodLink RX8 149 yX4_countBelow) (by decide +kernel)) (by decide +kernel) ⟨Nat.le_of_ble_eq_true rfl, Nat.le_of_ble_eq_true rfl⟩, hts (.instanceMethod yX4_countBelow) (by decide +kernel), hts (.selects RX4 yX4_countBelow yX4_countBelow) (by decide +kernel)⟩) rfl hrc_r_15 hK hZ hF hS hA rfl hl.1 rfl (Nat.le_of_ble_eq_true rfl) dX8_removeRange_12 ⟨Nat.zero_le _, Nat.zero_le _⟩ (fun r_15 H locs h hF hS => ?_)
  refine lv_istore_n (lv' := [(1, .int r_15), (0, .ref a0)]) hx hb dX8_removeRange_15 rfl hl (by decide) rfl (fun ls hl => ?_)
  refine lv_aload_n hx hb dX8_removeRange_16 rfl (lv_at hl 1 rfl) ?_
  obtain ⟨fs_17, a_16, he_fs_17, hv_fs_17, h⟩ := h
  refine fw_get (C := RX8) (T := TX8) (N := 9) hx hb hts hin_X8 hown hK hF he_fs_17 rfl 0 (by decide) (hts (.fieldLink RX8 10 "FrontCodedIndex" "tree" "LFrontCodedIndex$Tree;") (by decide +kernel)) (fun _ h9 => h9) hv_fs_17 dX8_removeRange_17 ?_
  obtain ⟨fs_19, a_18, he_fs_19, hv_fs_19, h⟩ := h
  refine fw_getN (C := RX7) (T := TX7) (N := 8) hx hb hts hin_X7 hown hK hF he_fs_19 rfl 0 (by decide) (va_Nw.use rfl (hZ.2.1 (.fieldLinkNest RX8 105 "FrontCodedIndex$Tree" "keys" "LFrontCodedIndex$KeyRow;" "FrontCodedIndex") (by decide +kernel))) (fun _ h9 => h9) hv_fs_19 dX8_removeRange_20 ?_
  refine lv_aload_n hx hb dX8_removeRange_23 rfl (lv_at hl 1 rfl) ?_
  obtain ⟨fs_21, a_20, he_fs_21, hv_fs_21, h⟩ := h
  refine fw_get (C := RX8) (T := TX8) (N := 9) hx hb hts hin_X8 hown hK hF he_fs_21 rfl 7 (by decide) (hts (.fieldLink RX8 58 "FrontCodedIndex" "key" "LFrontCodedIndex$Key;") (by decide +kernel)) (fun _ h9 => h9) hv_fs_21 dX8_removeRange_24 ?_
  refine lv_iconst (v := (0 : Int32)) hx hb dX8_removeRange_27 (by decide) ?_
  obtain ⟨⟨fs_r_22, hrc_r_22⟩, h⟩ := h
  refine fw_cV_i_p (As := [.ref a_20, .int (0 : Int32)]) (rest := []) ⟨hx, hb, hml, hown, hts⟩ (cc_X4_countBelow l G h) (⟨callB_of 2 hts ggX8_removeRange_X4_countBelow rfl rfl rfl (hts (.initialized RX4) (by decide +kernel)) (hts (.methodLink RX8 149 yX4_countBelow) (by decide +kernel)) (by decide +kernel) ⟨Nat.le_of_ble_eq_true rfl, Nat.le_of_ble_eq_true rfl⟩, hts (.instanceMethod yX4_countBelow) (by decide +kernel), hts (.selects RX4 yX4_countBelow yX4_countBelow) (by decide +kernel)⟩) rfl hrc_r_22 hK hZ hF hS hA rfl hl.1 rfl (Nat.le_of_ble_eq_true rfl) dX8_removeRange_28 ⟨Nat.zero_le _, Nat.zero_le _⟩ (fun r_22 H locs h hF hS => ?_)
  refine lv_iload_n hx hb dX8_removeRange_31 rfl (lv_at hl 0 rfl) ?_
  refine lv_isub hx hb dX8_removeRange_32 ?_
  refine lv_topi (fun v_23 e_24 => ?_)
  have h := h v_23 e_24
  refine lv_istore_n (lv' := [(2, .int v_23), (1, .int r_15), (0, .ref a0)]) hx hb dX8_removeRange_33 rfl hl (by decide) rfl (fun ls hl => ?_)
  refine lv_iconst (v := (0 : Int32)) hx hb dX8_removeRange_34 (by decide) ?_
  refine lv_istore_n (lv' := [(3, .int (0 : Int32)), (2, .int v_23), (1, .int r_15), (0, .ref a0)]) hx hb dX8_removeRange_35 rfl hl (by decide) rfl (fun ls hl => ?_)
  obtain ⟨n_25, h⟩ := h
  exact L36 r_15 v_23 n_25 (0 : Int32) f _ _ _ h hF hS (lv_sub hl [3, 2, 1, 0] rfl)
theorem dX8_restoreSnapshot_0 : decode cX8_restoreSnapshot 0 = .ok (.aload_n 0, 1) := by decide +kernel
theorem dX8_restoreSnapshot_1 : decode cX8_restoreSnapshot 1 = .ok (.getfield 49, 3) := by decide +kernel
theorem dX8_restoreSnapshot_4 : decode cX8_restoreSnapshot 4 = .ok (.ifCond .ne 14, 3) := by decide +kernel
theorem dX8_restoreSnapshot_7 : decode cX8_restoreSnapshot 7 = .ok (.new 76, 3) := by decide +kernel
theorem dX8_restoreSnapshot_10 : decode cX8_restoreSnapshot 10 = .ok (.dup, 1) := by decide +kernel
theorem dX8_restoreSnapshot_11 : decode cX8_restoreSnapshot 11 = .ok (.ldc_w 270, 3) := by decide +kernel
theorem dX8_restoreSnapshot_14 : decode cX8_restoreSnapshot 14 = .ok (.invokespecial 80, 3) := by decide +kernel
theorem dX8_restoreSnapshot_17 : decode cX8_restoreSnapshot 17 = .ok (.athrow, 1) := by decide +kernel
theorem dX8_restoreSnapshot_18 : decode cX8_restoreSnapshot 18 = .ok (.aload_n 0, 1) := by decide +kernel
theorem dX8_restoreSnapshot_19 : decode cX8_restoreSnapshot 19 = .ok (.getfield 10, 3) := by decide +kernel
theorem dX8_restoreSnapshot_22 : decode cX8_restoreSnapshot 22 = .ok (.aload_n 0, 1) := by decide +kernel
theorem dX8_restoreSnapshot_23 : decode cX8_restoreSnapshot 23 = .ok (.getfield 16, 3) := by decide +kernel
theorem dX8_restoreSnapshot_26 : decode cX8_restoreSnapshot 26 = .ok (.invokevirtual 266, 3) := by decide +kernel
theorem dX8_restoreSnapshot_29 : decode cX8_restoreSnapshot 29 = .ok (.aload_n 0, 1) := by decide +kernel
theorem dX8_restoreSnapshot_30 : decode cX8_restoreSnapshot 30 = .ok (.getfield 22, 3) := by decide +kernel
theorem dX8_restoreSnapshot_33 : decode cX8_restoreSnapshot 33 = .ok (.invokevirtual 263, 3) := by decide +kernel
theorem dX8_restoreSnapshot_36 : decode cX8_restoreSnapshot 36 = .ok (.aload_n 0, 1) := by decide +kernel
theorem dX8_restoreSnapshot_37 : decode cX8_restoreSnapshot 37 = .ok (.getfield 10, 3) := by decide +kernel
theorem dX8_restoreSnapshot_40 : decode cX8_restoreSnapshot 40 = .ok (.getfield 105, 3) := by decide +kernel
theorem dX8_restoreSnapshot_43 : decode cX8_restoreSnapshot 43 = .ok (.invokevirtual 109, 3) := by decide +kernel
theorem dX8_restoreSnapshot_46 : decode cX8_restoreSnapshot 46 = .ok (.ireturn, 1) := by decide +kernel
set_option maxRecDepth 20000 in
theorem ggX8_restoreSnapshot_X0_closeAll : GoodIn wsX8_restoreSnapshot wsX0_closeAll := goodIn_r _ [162, 163, 164, 165, 86, 166, 195] (by decide +kernel) (by decide +kernel)
set_option maxRecDepth 20000 in
theorem ggX8_restoreSnapshot_X4_count : GoodIn wsX8_restoreSnapshot wsX4_count := goodIn_r _ [170, 22, 33, 34, 35, 27, 36, 32, 188, 189, 190, 191, 192] (by decide +kernel) (by decide +kernel)
set_option maxRecDepth 20000 in
theorem ggX8_restoreSnapshot_X7_copyFrom : GoodIn wsX8_restoreSnapshot wsX7_copyFrom := goodIn_r _ [11, 12, 13, 14, 15, 16, 17, 18, 19, 20, 21, 22, 23, 24, 25, 26, 27, 28, 29, 30, 31, 32, 33, 34, 35, 36, 37, 38, 39, 40, 41, 42, 43, 44, 45, 46, 47, 48, 49, 50, 51, 52, 53, 54, 55, 56, 57, 58, 59, 60, 61, 62, 63, 64, 65, 66, 67, 68, 69, 70, 71, 72, 73, 74, 75, 76, 77, 78, 79, 80, 81, 82, 83, 84, 85, 86, 87, 88, 89, 90, 91, 92, 93, 94, 95, 96, 97, 98, 99, 100, 101, 102, 103, 104, 105, 106, 107, 108, 109, 110, 111, 112, 113, 114, 115, 116, 117, 118, 119, 120, 121, 122, 123, 124, 125, 126, 127, 128, 129, 130, 131, 132, 133, 134, 135, 10, 136, 137, 138, 139, 140, 141, 142, 143, 144, 145, 146, 147, 148, 149, 150, 151, 152, 153, 154, 155, 156, 157, 180, 181, 182, 183, 184, 185, 186, 187, 188, 189, 190, 191, 192, 193, 194] (by decide +kernel) (by decide +kernel)
def wp_X8_restoreSnapshot (zd : Nat) (a0 : Nat) (f : FT) (mc ms : Nat) (K : Int32 → FT → Prop) (KX : String → FT → Prop) : Prop :=
  gI f a0 11 6 fun v_1 => ((¬ v_1 = (0 : Int32) → gA f a0 11 0 fun a_4 => gA f a0 11 1 fun a_6 => ∃ ga_10 gb_11 : Nat, ga_10 ≤ mc ∧ gb_11 ≤ ms ∧ isO f a_4 10 ∧ wp_X7_copyFrom zd a_4 a_6 f ga_10 gb_11 (fun f_9 => gA f_9 a0 11 2 fun a_14 => isO f_9 a_14 3 ∧ wp_X0_closeAll a_14 f_9 (fun f_17 => gA f_17 a0 11 0 fun a_18 => gA f_17 a_18 10 0 fun a_20 => isO f_17 a_20 7 ∧ wp_X4_count a_20 f_17 (fun r_22 => K r_22 f_17)))) ∧
 (v_1 = (0 : Int32) → 1 ≤ mc ∧ 6 ≤ ms ∧ KX "java/lang/IllegalStateException" f))
set_option maxHeartbeats 4000000 in
set_option maxRecDepth 100000 in
theorem cc_X8_restoreSnapshot (l : Launch) (G : GG) {zd : Nat} (hzd : G.2.2 0 = zd) {f : FT} {sz : Nat} {a0 : Nat} {mc ms : Nat} {K : Int32 → FT → Prop} {KX : String → FT → Prop} (hlt : l.stackTraces = false) (h : wp_X8_restoreSnapshot zd a0 f mc ms K KX) : vx_Met l yX8_restoreSnapshot wsX8_restoreSnapshot ({ frames := 9, cells := mc, slots := ms, locals := 215 } : Room) (FPX G [.ref a0] f sz) (va_Qi (fun r f9 => K r f9 : Int32 → FT → Prop) (FB G (fA f sz)) (fA f sz)) (FXC G (fA f sz) KX) mc ms (fA f sz) := by
  refine vx_ofW (cc := cX8_restoreSnapshot) (maxL := 1) (ret := (some .int)) (by decide) rfl ?_
  intro p e s m args below meth c s₁ B hml hxt hv
  obtain ⟨rfl, hsz, hF, hK, hZ, hX⟩ := hv
  have hx := B.exec
  have hb := B.bytes
  have hr := B.returns
  have hts := atoms_spec (ws := wsX8_restoreSnapshot) B.pre
  have hown : s.vm.findClass RX8 = some m.cls := findClass_of_methodNamed B.named
  have hlocks := B.notSynchronized
  subst hsz
  have hF := hF.self (sz := s.heap.size)
  generalize hAe : fA f s.heap.size = A at hF hZ hX ⊢
  have hA : ∀ q : Nat, s.heap.size ≤ q → A q := fun q h => by rw [← hAe]; exact Or.inr h
  have hS : va_S A s.heap s.heap [] := va_S.rf
  have hZ9 : va_Z "java/util/ArrayList" "DEFAULTCAPACITY_EMPTY_ELEMENTDATA" "[Ljava/lang/Object;" (.ref zd) A s s.heap := by rw [← hzd]; exact hZ.1
  have hin_X7 : ∀ w ∈ wsX70, w ∈ wsX8_restoreSnapshot := by decide +kernel
  have hin_X8 : ∀ w ∈ wsX80, w ∈ wsX8_restoreSnapshot := by decide +kernel
  have hbc : 0 + mc ≤ mc := by omega
  have hbs : 0 + ms ≤ ms := by omega
  have hl := lv_entry ([.ref a0]) (n := 1) (Nat.le_of_ble_eq_true rfl)
  rw [lg_entry_eq]
  generalize (lg_sl ([.ref a0]) ++ List.replicate (1 - (lg_sl ([.ref a0])).length) Slot.unset).toArray = ls at hl ⊢
  have hl : lv_has ls 1 [(0, .ref a0)] := hl
  unfold wp_X8_restoreSnapshot at h
  refine lv_aload_n hx hb dX8_restoreSnapshot_0 rfl (lv_at hl 0 rfl) ?_
  obtain ⟨fs_2, v_1, he_fs_2, hv_fs_2, h⟩ := h
  refine fw_get (C := RX8) (T := TX8) (N := 9) hx hb hts hin_X8 hown hK hF he_fs_2 rfl 6 (by decide) (hts (.fieldLink RX8 49 "FrontCodedIndex" "snapshotSaved" "Z") (by decide +kernel)) (fun _ h9 => h9) hv_fs_2 dX8_restoreSnapshot_1 ?_
  obtain ⟨h1, h2⟩ := h
  refine lv_if_ne (tgt := 18) hx hb dX8_restoreSnapshot_4 (by decide) (fun c_3 => ?_) (fun c_3 => ?_)
  · have h := h1 c_3
    refine lv_aload_n hx hb dX8_restoreSnapshot_18 rfl (lv_at hl 0 rfl) ?_
    obtain ⟨fs_5, a_4, he_fs_5, hv_fs_5, h⟩ := h
    refine fw_get (C := RX8) (T := TX8) (N := 9) hx hb hts hin_X8 hown hK hF he_fs_5 rfl 0 (by decide) (hts (.fieldLink RX8 10 "FrontCodedIndex" "tree" "LFrontCodedIndex$Tree;") (by decide +kernel)) (fun _ h9 => h9) hv_fs_5 dX8_restoreSnapshot_19 ?_
    refine lv_aload_n hx hb dX8_restoreSnapshot_22 rfl (lv_at hl 0 rfl) ?_
    obtain ⟨fs_7, a_6, he_fs_7, hv_fs_7, h⟩ := h
    refine fw_get (C := RX8) (T := TX8) (N := 9) hx hb hts hin_X8 hown hK hF he_fs_7 rfl 1 (by decide) (hts (.fieldLink RX8 16 "FrontCodedIndex" "snapshot" "LFrontCodedIndex$Tree;") (by decide +kernel)) (fun _ h9 => h9) hv_fs_7 dX8_restoreSnapshot_23 ?_
    obtain ⟨ga_10, gb_11, hga_ga_10, hgb_ga_10, h⟩ := h
    obtain ⟨⟨fs_u_8, hrc_u_8⟩, h⟩ := h
    refine fw_cV_v (As := [.ref a_6]) (rest := []) ⟨hx, hb, hml, hown, hts⟩ (cc_X7_copyFrom l G hzd h) (⟨callB_of 1 hts ggX8_restoreSnapshot_X7_copyFrom rfl rfl rfl (hts (.initialized RX7) (by decide +kernel)) (hts (.methodLink RX8 266 yX7_copyFrom) (by decide +kernel)) (by decide +kernel) ⟨Nat.le_of_ble_eq_true rfl, Nat.le_of_ble_eq_true rfl⟩, hts (.instanceMethod yX7_copyFrom) (by decide +kernel), hts (.selects RX7 yX7_copyFrom yX7_copyFrom) (by decide +kernel)⟩) rfl hrc_u_8 hK hZ hF hS hA rfl hl.1 rfl (Nat.le_of_ble_eq_true rfl) dX8_restoreSnapshot_26 ⟨by show _ ≤ mc; omega, by show _ ≤ ms; omega⟩ (fun f_9 H locs h hF hS => ?_)
    obtain ⟨cs_12, hcs⟩ : ∃ z, z = (0 + ga_10) := ⟨_, rfl⟩; obtain ⟨sl_13, hsl⟩ : ∃ z, z = (0 + gb_11) := ⟨_, rfl⟩
    have hbc : cs_12 + (mc - ga_10) ≤ mc := by omega
    have hbs : sl_13 + (ms - gb_11) ≤ ms := by omega
    refine W.widen (k := cs_12) (n := sl_13) (by omega) (by omega) ?_
    clear hcs hsl
    refine lv_aload_n hx hb dX8_restoreSnapshot_29 rfl (lv_at hl 0 rfl) ?_
    obtain ⟨fs_15, a_14, he_fs_15, hv_fs_15, h⟩ := h
    refine fw_get (C := RX8) (T := TX8) (N := 9) hx hb hts hin_X8 hown hK hF he_fs_15 rfl 2 (by decide) (hts (.fieldLink RX8 22 "FrontCodedIndex" "cursors" "LFrontCodedIndex$Cursors;") (by decide +kernel)) (fun _ h9 => h9) hv_fs_15 dX8_restoreSnapshot_30 ?_
    obtain ⟨⟨fs_u_16, hrc_u_16⟩, h⟩ := h
    refine fw_cV_v (As := []) (rest := []) ⟨hx, hb, hml, hown, hts⟩ (cc_X0_closeAll l G h) (⟨callB_of 0 hts ggX8_restoreSnapshot_X0_closeAll rfl rfl rfl (hts (.initialized RX0) (by decide +kernel)) (hts (.methodLink RX8 263 yX0_closeAll) (by decide +kernel)) (by decide +kernel) ⟨Nat.le_of_ble_eq_true rfl, Nat.le_of_ble_eq_true rfl⟩, hts (.instanceMethod yX0_closeAll) (by decide +kernel), hts (.selects RX0 yX0_closeAll yX0_closeAll) (by decide +kernel)⟩) rfl hrc_u_16 hK hZ hF hS hA rfl hl.1 rfl (Nat.le_of_ble_eq_true rfl) dX8_restoreSnapshot_33 ⟨by show _ ≤ mc; omega, by show _ ≤ ms; omega⟩ (fun f_17 H locs h hF hS => ?_)
    simp only [Nat.add_zero]
    refine lv_aload_n hx hb dX8_restoreSnapshot_36 rfl (lv_at hl 0 rfl) ?_
    obtain ⟨fs_19, a_18, he_fs_19, hv_fs_19, h⟩ := h
    refine fw_get (C := RX8) (T := TX8) (N := 9) hx hb hts hin_X8 hown hK hF he_fs_19 rfl 0 (by decide) (hts (.fieldLink RX8 10 "FrontCodedIndex" "tree" "LFrontCodedIndex$Tree;") (by decide +kernel)) (fun _ h9 => h9) hv_fs_19 dX8_restoreSnapshot_37 ?_
    obtain ⟨fs_21, a_20, he_fs_21, hv_fs_21, h⟩ := h
    refine fw_getN (C := RX7) (T := TX7) (N := 8) hx hb hts hin_X7 hown hK hF he_fs_21 rfl 0 (by decide) (va_Nw.use rfl (hZ.2.1 (.fieldLinkNest RX8 105 "FrontCodedIndex$Tree" "keys" "LFrontCodedIndex$KeyRow;" "FrontCodedIndex") (by decide +kernel))) (fun _ h9 => h9) hv_fs_21 dX8_restoreSnapshot_40 ?_
    obtain ⟨⟨fs_r_22, hrc_r_22⟩, h⟩ := h
    refine fw_cV_i_p (As := []) (rest := []) ⟨hx, hb, hml, hown, hts⟩ (cc_X4_count l G h) (⟨callB_of 0 hts ggX8_restoreSnapshot_X4_count rfl rfl rfl (hts (.initialized RX4) (by decide +kernel)) (hts (.methodLink RX8 109 yX4_count) (by decide +kernel)) (by decide +kernel) ⟨Nat.le_of_ble_eq_true rfl, Nat.le_of_ble_eq_true rfl⟩, hts (.instanceMethod yX4_count) (by decide +kernel), hts (.selects RX4 yX4_count yX4_count) (by decide +kernel)⟩) rfl hrc_r_22 hK hZ hF hS hA rfl hl.1 rfl (Nat.le_of_ble_eq_true rfl) dX8_restoreSnapshot_43 ⟨by show _ ≤ mc; omega, by show _ ≤ ms; omega⟩ (fun r_22 H locs h hF hS => ?_)
    simp only [Nat.add_zero]
    refine vx_ret ?_
    refine W.widen (k := mc) (n := ms) (by omega) (by omega) ?_
    exact W.iret (v := r_22) hx hb hr (fun t ht hW => ⟨⟨r_22, f_17, rfl, h, by rw [ht]; exact hF, FK.moved hW.alike hK⟩, hS.F ht⟩) hS.2.2 dX8_restoreSnapshot_46
  · have h := h2 c_3
    obtain ⟨hb1, hb2, h⟩ := h
    refine vx_throwSW hx hb hlt (own := RX8) (cls := "java/lang/IllegalStateException") (text := "no snapshot was saved") (names := ["java/lang/RuntimeException", "java/lang/Exception"]) (ik := 76) (is := 270) (ic := 80) (sa := G.2.2 (100 + 270)) (A := A) hown (by decide) (by decide) (hts (.classLink RX8 76 "java/lang/IllegalStateException") (by decide +kernel)) (hts (.initialized "java/lang/IllegalStateException") (by decide +kernel)) (hX.1 (270, "no snapshot was saved") (by decide +kernel)) (vx_hat (B := thrB) (fun w hw => hts w ((by decide +kernel : ∀ w ∈ (vx_atS RX8 80 "java/lang/IllegalStateException" ["java/lang/RuntimeException", "java/lang/Exception"]).filter goodWord, w ∈ wsX8_restoreSnapshot) w hw)) (by decide +kernel) (fun w hw => va_Nw.use (thrB_tab w hw) (hX.2.1 w hw))) (by decide +kernel) hX.2.2.1 hX.2.2.2 hS (hl.1.trans hml.symm) dX8_restoreSnapshot_7 dX8_restoreSnapshot_10 dX8_restoreSnapshot_11 dX8_restoreSnapshot_14 dX8_restoreSnapshot_17 (fun x hx => (hxt x hx).elim) (Nat.le_of_ble_eq_true rfl) (Nat.le_of_ble_eq_true rfl) (by show _ ≤ mc; omega) (by show _ ≤ ms; omega) hlocks (fun t hvm hz hk => ⟨(f, "java/lang/IllegalStateException"), h, ⟨rfl, hF.kept (fun q e9 he9 => hk q (hF.in he9).2), FK.moved hvm hK⟩, ⟨Nat.le_trans hS.1 hz, fun q h1 h2 => (hk q (Nat.lt_of_lt_of_le h1 hS.1)).trans (hS.2.1 q h1 h2)⟩⟩) hS.2.2 (by omega) (by omega)
theorem dX8_retreat_0 : decode cX8_retreat 0 = .ok (.aload_n 0, 1) := by decide +kernel
theorem dX8_retreat_1 : decode cX8_retreat 1 = .ok (.iload_n 1, 1) := by decide +kernel
theorem dX8_retreat_2 : decode cX8_retreat 2 = .ok (.invokevirtual 237, 3) := by decide +kernel
theorem dX8_retreat_5 : decode cX8_retreat 5 = .ok (.istore_n 2, 1) := by decide +kernel
theorem dX8_retreat_6 : decode cX8_retreat 6 = .ok (.iload_n 2, 1) := by decide +kernel
theorem dX8_retreat_7 : decode cX8_retreat 7 = .ok (.ifCond .gt 13, 3) := by decide +kernel
theorem dX8_retreat_10 : decode cX8_retreat 10 = .ok (.new 163, 3) := by decide +kernel
theorem dX8_retreat_13 : decode cX8_retreat 13 = .ok (.dup, 1) := by decide +kernel
theorem dX8_retreat_14 : decode cX8_retreat 14 = .ok (.ldc 240, 2) := by decide +kernel
theorem dX8_retreat_16 : decode cX8_retreat 16 = .ok (.invokespecial 167, 3) := by decide +kernel
theorem dX8_retreat_19 : decode cX8_retreat 19 = .ok (.athrow, 1) := by decide +kernel
theorem dX8_retreat_20 : decode cX8_retreat 20 = .ok (.aload_n 0, 1) := by decide +kernel
theorem dX8_retreat_21 : decode cX8_retreat 21 = .ok (.getfield 22, 3) := by decide +kernel
theorem dX8_retreat_24 : decode cX8_retreat 24 = .ok (.iload_n 1, 1) := by decide +kernel
theorem dX8_retreat_25 : decode cX8_retreat 25 = .ok (.iload_n 2, 1) := by decide +kernel
theorem dX8_retreat_26 : decode cX8_retreat 26 = .ok (.iconst 1, 1) := by decide +kernel
theorem dX8_retreat_27 : decode cX8_retreat 27 = .ok (.isub, 1) := by decide +kernel
theorem dX8_retreat_28 : decode cX8_retreat 28 = .ok (.invokevirtual 228, 3) := by decide +kernel
theorem dX8_retreat_31 : decode cX8_retreat 31 = .ok (.aload_n 0, 1) := by decide +kernel
theorem dX8_retreat_32 : decode cX8_retreat 32 = .ok (.getfield 10, 3) := by decide +kernel
theorem dX8_retreat_35 : decode cX8_retreat 35 = .ok (.getfield 124, 3) := by decide +kernel
theorem dX8_retreat_38 : decode cX8_retreat 38 = .ok (.iload_n 2, 1) := by decide +kernel
theorem dX8_retreat_39 : decode cX8_retreat 39 = .ok (.iconst 1, 1) := by decide +kernel
theorem dX8_retreat_40 : decode cX8_retreat 40 = .ok (.isub, 1) := by decide +kernel
theorem dX8_retreat_41 : decode cX8_retreat 41 = .ok (.invokevirtual 143, 3) := by decide +kernel
theorem dX8_retreat_44 : decode cX8_retreat 44 = .ok (.ireturn, 1) := by decide +kernel
set_option maxRecDepth 20000 in
theorem ggX8_retreat_X0_place : GoodIn wsX8_retreat wsX0_place := goodIn_r _ [27, 23, 52] (by decide +kernel) (by decide +kernel)
set_option maxRecDepth 20000 in
theorem ggX8_retreat_X2_at : GoodIn wsX8_retreat wsX2_at := goodIn_r _ [32, 33, 34, 53, 54] (by decide +kernel) (by decide +kernel)
set_option maxRecDepth 20000 in
theorem ggX8_retreat_X8_placeOfCursor : GoodIn wsX8_retreat wsX8_placeOfCursor := goodIn_ca (goodIn_ca (goodIn_r _ [9, 10, 11, 3, 12, 13, 14, 8, 15, 16, 17, 18, 19, 20, 21, 22, 23, 35, 36, 37, 38, 39, 40, 41, 42, 43, 52] (by decide +kernel) (by decide +kernel)) (goodIn_sub (fun _ h => List.mem_cons_of_mem _ (List.mem_append_left _ (List.mem_append_right _ h))) (by decide +kernel))) (goodIn_sub (fun _ h => List.mem_cons_of_mem _ (List.mem_append_right _ h)) (by decide +kernel))
def wp_X8_retreat (a0 : Nat) (x1 : Int32) (f : FT) (mc ms : Nat) (K : Int32 → FT → Prop) (KX : String → FT → Prop) : Prop :=
  ∃ ga_3 gb_4 : Nat, ga_3 ≤ mc ∧ gb_4 ≤ ms ∧ isO f a0 11 ∧ wp_X8_placeOfCursor a0 x1 f ga_3 gb_4 (fun r_1 f_2 => (((0 : Int32) < r_1 → gA f_2 a0 11 2 fun a_8 => isO f_2 a_8 3 ∧ wp_X0_place a_8 x1 (r_1 - (1 : Int32)) f_2 (fun f_11 => gA f_11 a0 11 0 fun a_12 => gA f_11 a_12 10 1 fun a_14 => isO f_11 a_14 5 ∧ wp_X2_at a_14 (r_1 - (1 : Int32)) f_11 (fun r_16 => K r_16 f_11))) ∧
 (¬ ((0 : Int32) < r_1) → 1 ≤ (mc - ga_3) ∧ 6 ≤ (ms - gb_4) ∧ KX "java/util/NoSuchElementException" f_2))) KX
set_option maxHeartbeats 4000000 in
set_option maxRecDepth 100000 in
theorem cc_X8_retreat (l : Launch) (G : GG) {f : FT} {sz : Nat} {a0 : Nat} {x1 : Int32} {mc ms : Nat} {K : Int32 → FT → Prop} {KX : String → FT → Prop} (hlt : l.stackTraces = false) (h : wp_X8_retreat a0 x1 f mc ms K KX) : vx_Met l yX8_retreat wsX8_retreat ({ frames := 8, cells := mc, slots := ms, locals := 133 } : Room) (FPX G [.ref a0, .int x1] f sz) (va_Qi (fun r f9 => K r f9 : Int32 → FT → Prop) (FB G (fA f sz)) (fA f sz)) (FXC G (fA f sz) KX) mc ms (fA f sz) := by
  refine vx_ofW (cc := cX8_retreat) (maxL := 3) (ret := (some .int)) (by decide) rfl ?_
  intro p e s m args below meth c s₁ B hml hxt hv
  obtain ⟨rfl, hsz, hF, hK, hZ, hX⟩ := hv
  have hx := B.exec
  have hb := B.bytes
  have hr := B.returns
  have hts := atoms_spec (ws := wsX8_retreat) B.pre
  have hown : s.vm.findClass RX8 = some m.cls := findClass_of_methodNamed B.named
  have hlocks := B.notSynchronized
  subst hsz
  have hF := hF.self (sz := s.heap.size)
  generalize hAe : fA f s.heap.size = A at hF hZ hX ⊢
  have hA : ∀ q : Nat, s.heap.size ≤ q → A q := fun q h => by rw [← hAe]; exact Or.inr h
  have hS : va_S A s.heap s.heap [] := va_S.rf
  have hin_X7 : ∀ w ∈ wsX70, w ∈ wsX8_retreat := by decide +kernel
  have hin_X8 : ∀ w ∈ wsX80, w ∈ wsX8_retreat := by decide +kernel
  have hbc : 0 + mc ≤ mc := by omega
  have hbs : 0 + ms ≤ ms := by omega
  have hl := lv_entry ([.ref a0, .int x1]) (n := 3) (Nat.le_of_ble_eq_true rfl)
  rw [lg_entry_eq]
  generalize (lg_sl ([.ref a0, .int x1]) ++ List.replicate (3 - (lg_sl ([.ref a0, .int x1])).length) Slot.unset).toArray = ls at hl ⊢
  have hl : lv_has ls 3 [(0, .ref a0), (1, .int x1)] := hl
  unfold wp_X8_retreat at h
  refine lv_aload_n hx hb dX8_retreat_0 rfl (lv_at hl 0 rfl) ?_
  refine lv_iload_n hx hb dX8_retreat_1 rfl (lv_at hl 1 rfl) ?_
  obtain ⟨ga_3, gb_4, hga_ga_3, hgb_ga_3, h⟩ := h
  obtain ⟨⟨fs_r_1, hrc_r_1⟩, h⟩ := h
  refine fx_cV_i (As := [.int x1]) (rest := []) ⟨hx, hb, hml, hown, hts⟩ (cc_X8_placeOfCursor l G hlt h) (⟨callB_of 1 hts ggX8_retreat_X8_placeOfCursor rfl rfl rfl (hts (.initialized RX8) (by decide +kernel)) (hts (.methodLink RX8 237 yX8_placeOfCursor) (by decide +kernel)) (by decide +kernel) ⟨Nat.le_of_ble_eq_true rfl, Nat.le_of_ble_eq_true rfl⟩, hts (.instanceMethod yX8_placeOfCursor) (by decide +kernel), hts (.selects RX8 yX8_placeOfCursor yX8_placeOfCursor) (by decide +kernel)⟩) rfl hrc_r_1 hK hZ hX hF hS hA rfl hl.1 rfl (Nat.le_of_ble_eq_true rfl) dX8_retreat_2 ⟨by show _ ≤ mc; omega, by show _ ≤ ms; omega⟩ hxt hlocks (by omega) (by omega) (fun r_1 f_2 H locs h hF hS => ?_)
  obtain ⟨cs_5, hcs⟩ : ∃ z, z = (0 + ga_3) := ⟨_, rfl⟩; obtain ⟨sl_6, hsl⟩ : ∃ z, z = (0 + gb_4) := ⟨_, rfl⟩
  have hbc : cs_5 + (mc - ga_3) ≤ mc := by omega
  have hbs : sl_6 + (ms - gb_4) ≤ ms := by omega
  refine W.widen (k := cs_5) (n := sl_6) (by omega) (by omega) ?_
  clear hcs hsl
  refine lv_istore_n (lv' := [(2, .int r_1), (0, .ref a0), (1, .int x1)]) hx hb dX8_retreat_5 rfl hl (by decide) rfl (fun ls hl => ?_)
  refine lv_iload_n hx hb dX8_retreat_6 rfl (lv_at hl 0 rfl) ?_
  obtain ⟨h1, h2⟩ := h
  refine lv_if_gt (tgt := 20) hx hb dX8_retreat_7 (by decide) (fun c_7 => ?_) (fun c_7 => ?_)
  · have h := h1 c_7
    refine lv_aload_n hx hb dX8_retreat_20 rfl (lv_at hl 1 rfl) ?_
    obtain ⟨fs_9, a_8, he_fs_9, hv_fs_9, h⟩ := h
    refine fw_get (C := RX8) (T := TX8) (N := 9) hx hb hts hin_X8 hown hK hF he_fs_9 rfl 2 (by decide) (hts (.fieldLink RX8 22 "FrontCodedIndex" "cursors" "LFrontCodedIndex$Cursors;") (by decide +kernel)) (fun _ h9 => h9) hv_fs_9 dX8_retreat_21 ?_
    refine lv_iload_n hx hb dX8_retreat_24 rfl (lv_at hl 2 rfl) ?_
    refine lv_iload_n hx hb dX8_retreat_25 rfl (lv_at hl 0 rfl) ?_
    refine lv_iconst (v := (1 : Int32)) hx hb dX8_retreat_26 (by decide) ?_
    refine lv_isub hx hb dX8_retreat_27 ?_
    obtain ⟨⟨fs_u_10, hrc_u_10⟩, h⟩ := h
    refine fw_cV_v (As := [.int x1, .int (r_1 - (1 : Int32))]) (rest := []) ⟨hx, hb, hml, hown, hts⟩ (cc_X0_place l G h) (⟨callB_of 2 hts ggX8_retreat_X0_place rfl rfl rfl (hts (.initialized RX0) (by decide +kernel)) (hts (.methodLink RX8 228 yX0_place) (by decide +kernel)) (by decide +kernel) ⟨Nat.le_of_ble_eq_true rfl, Nat.le_of_ble_eq_true rfl⟩, hts (.instanceMethod yX0_place) (by decide +kernel), hts (.selects RX0 yX0_place yX0_place) (by decide +kernel)⟩) rfl hrc_u_10 hK hZ hF hS hA rfl hl.1 rfl (Nat.le_of_ble_eq_true rfl) dX8_retreat_28 ⟨by show _ ≤ mc; omega, by show _ ≤ ms; omega⟩ (fun f_11 H locs h hF hS => ?_)
    simp only [Nat.add_zero]
    refine lv_aload_n hx hb dX8_retreat_31 rfl (lv_at hl 1 rfl) ?_
    obtain ⟨fs_13, a_12, he_fs_13, hv_fs_13, h⟩ := h
    refine fw_get (C := RX8) (T := TX8) (N := 9) hx hb hts hin_X8 hown hK hF he_fs_13 rfl 0 (by decide) (hts (.fieldLink RX8 10 "FrontCodedIndex" "tree" "LFrontCodedIndex$Tree;") (by decide +kernel)) (fun _ h9 => h9) hv_fs_13 dX8_retreat_32 ?_
    obtain ⟨fs_15, a_14, he_fs_15, hv_fs_15, h⟩ := h
    refine fw_getN (C := RX7) (T := TX7) (N := 8) hx hb hts hin_X7 hown hK hF he_fs_15 rfl 1 (by decide) (va_Nw.use rfl (hZ.2.1 (.fieldLinkNest RX8 124 "FrontCodedIndex$Tree" "values" "LFrontCodedIndex$IntRow;" "FrontCodedIndex") (by decide +kernel))) (fun _ h9 => h9) hv_fs_15 dX8_retreat_35 ?_
    refine lv_iload_n hx hb dX8_retreat_38 rfl (lv_at hl 0 rfl) ?_
    refine lv_iconst (v := (1 : Int32)) hx hb dX8_retreat_39 (by decide) ?_
    refine lv_isub hx hb dX8_retreat_40 ?_
    obtain ⟨⟨fs_r_16, hrc_r_16⟩, h⟩ := h
    refine fw_cV_i_p (As := [.int (r_1 - (1 : Int32))]) (rest := []) ⟨hx, hb, hml, hown, hts⟩ (cc_X2_at l G h) (⟨callB_of 1 hts ggX8_retreat_X2_at rfl rfl rfl (hts (.initialized RX2) (by decide +kernel)) (hts (.methodLink RX8 143 yX2_at) (by decide +kernel)) (by decide +kernel) ⟨Nat.le_of_ble_eq_true rfl, Nat.le_of_ble_eq_true rfl⟩, hts (.instanceMethod yX2_at) (by decide +kernel), hts (.selects RX2 yX2_at yX2_at) (by decide +kernel)⟩) rfl hrc_r_16 hK hZ hF hS hA rfl hl.1 rfl (Nat.le_of_ble_eq_true rfl) dX8_retreat_41 ⟨by show _ ≤ mc; omega, by show _ ≤ ms; omega⟩ (fun r_16 H locs h hF hS => ?_)
    simp only [Nat.add_zero]
    refine vx_ret ?_
    refine W.widen (k := mc) (n := ms) (by omega) (by omega) ?_
    exact W.iret (v := r_16) hx hb hr (fun t ht hW => ⟨⟨r_16, f_11, rfl, h, by rw [ht]; exact hF, FK.moved hW.alike hK⟩, hS.F ht⟩) hS.2.2 dX8_retreat_44
  · have h := h2 c_7
    obtain ⟨hb1, hb2, h⟩ := h
    refine vx_throwS13 hx hb hlt (own := RX8) (cls := "java/util/NoSuchElementException") (text := "there is no previous entry") (ik := 163) (is := 240) (ic := 167) (sa := G.2.2 (100 + 240)) (A := A) hown (by decide) (hts (.classLink RX8 163 "java/util/NoSuchElementException") (by decide +kernel)) (hts (.initialized "java/util/NoSuchElementException") (by decide +kernel)) (hX.1 (240, "there is no previous entry") (by decide +kernel)) (vx_hat (B := thrB) (fun w hw => hts w ((by decide +kernel : ∀ w ∈ (vx_at13 RX8 167 "java/util/NoSuchElementException").filter goodWord, w ∈ wsX8_retreat) w hw)) (by decide +kernel) (fun w hw => va_Nw.use (thrB_tab w hw) (hX.2.1 w hw))) (by decide +kernel) hX.2.2.1 hX.2.2.2 hS (hl.1.trans hml.symm) dX8_retreat_10 dX8_retreat_13 dX8_retreat_14 dX8_retreat_16 dX8_retreat_19 (fun x hx => (hxt x hx).elim) (Nat.le_of_ble_eq_true rfl) (Nat.le_of_ble_eq_true rfl) (by show _ ≤ mc; omega) (by show _ ≤ ms; omega) hlocks (fun t hvm hz hk => ⟨(f_2, "java/util/NoSuchElementException"), h, ⟨rfl, hF.kept (fun q e9 he9 => hk q (hF.in he9).2), FK.moved hvm hK⟩, ⟨Nat.le_trans hS.1 hz, fun q h1 h2 => (hk q (Nat.lt_of_lt_of_le h1 hS.1)).trans (hS.2.1 q h1 h2)⟩⟩) hS.2.2 (by omega) (by omega)
theorem dX8_saveSnapshot_0 : decode cX8_saveSnapshot 0 = .ok (.aload_n 0, 1) := by decide +kernel
theorem dX8_saveSnapshot_1 : decode cX8_saveSnapshot 1 = .ok (.getfield 16, 3) := by decide +kernel
theorem dX8_saveSnapshot_4 : decode cX8_saveSnapshot 4 = .ok (.aload_n 0, 1) := by decide +kernel
theorem dX8_saveSnapshot_5 : decode cX8_saveSnapshot 5 = .ok (.getfield 10, 3) := by decide +kernel
theorem dX8_saveSnapshot_8 : decode cX8_saveSnapshot 8 = .ok (.invokevirtual 266, 3) := by decide +kernel
theorem dX8_saveSnapshot_11 : decode cX8_saveSnapshot 11 = .ok (.aload_n 0, 1) := by decide +kernel
theorem dX8_saveSnapshot_12 : decode cX8_saveSnapshot 12 = .ok (.iconst 1, 1) := by decide +kernel
theorem dX8_saveSnapshot_13 : decode cX8_saveSnapshot 13 = .ok (.putfield 49, 3) := by decide +kernel
theorem dX8_saveSnapshot_16 : decode cX8_saveSnapshot 16 = .ok (.aload_n 0, 1) := by decide +kernel
theorem dX8_saveSnapshot_17 : decode cX8_saveSnapshot 17 = .ok (.getfield 10, 3) := by decide +kernel
theorem dX8_saveSnapshot_20 : decode cX8_saveSnapshot 20 = .ok (.getfield 105, 3) := by decide +kernel
theorem dX8_saveSnapshot_23 : decode cX8_saveSnapshot 23 = .ok (.invokevirtual 109, 3) := by decide +kernel
theorem dX8_saveSnapshot_26 : decode cX8_saveSnapshot 26 = .ok (.ireturn, 1) := by decide +kernel
set_option maxRecDepth 20000 in
theorem ggX8_saveSnapshot_X4_count : GoodIn wsX8_saveSnapshot wsX4_count := goodIn_r _ [158, 19, 30, 31, 32, 24, 33, 29, 176, 177, 178, 179, 180] (by decide +kernel) (by decide +kernel)
set_option maxRecDepth 20000 in
theorem ggX8_saveSnapshot_X7_copyFrom : GoodIn wsX8_saveSnapshot wsX7_copyFrom := goodIn_r _ [8, 9, 10, 11, 12, 13, 14, 15, 16, 17, 18, 19, 20, 21, 22, 23, 24, 25, 26, 27, 28, 29, 30, 31, 32, 33, 34, 35, 36, 37, 38, 39, 40, 41, 42, 43, 44, 45, 46, 47, 48, 49, 50, 51, 52, 53, 54, 55, 56, 57, 58, 59, 60, 61, 62, 63, 64, 65, 66, 67, 68, 69, 70, 71, 72, 73, 74, 75, 76, 77, 78, 79, 80, 81, 82, 83, 84, 85, 86, 87, 88, 89, 90, 91, 92, 93, 94, 95, 96, 97, 98, 99, 100, 101, 102, 103, 104, 105, 106, 107, 108, 109, 110, 111, 112, 113, 114, 115, 116, 117, 118, 119, 120, 121, 122, 123, 124, 125, 126, 127, 128, 129, 130, 131, 132, 7, 133, 134, 135, 136, 137, 138, 139, 140, 141, 142, 143, 144, 145, 146, 147, 148, 149, 150, 151, 152, 153, 154, 168, 169, 170, 171, 172, 173, 174, 175, 176, 177, 178, 179, 180, 181, 182] (by decide +kernel) (by decide +kernel)
def wp_X8_saveSnapshot (zd : Nat) (a0 : Nat) (f : FT) (mc ms : Nat) (K : Int32 → FT → Prop) : Prop :=
  gA f a0 11 1 fun a_1 => gA f a0 11 0 fun a_3 => ∃ ga_7 gb_8 : Nat, ga_7 ≤ mc ∧ gb_8 ≤ ms ∧ isO f a_1 10 ∧ wp_X7_copyFrom zd a_1 a_3 f ga_7 gb_8 (fun f_6 => pV f_6 a0 11 6 (.int (1 : Int32)) fun f_12 => gA f_12 a0 11 0 fun a_13 => gA f_12 a_13 10 0 fun a_15 => isO f_12 a_15 7 ∧ wp_X4_count a_15 f_12 (fun r_17 => K r_17 f_12))
set_option maxHeartbeats 4000000 in
set_option maxRecDepth 100000 in
theorem cc_X8_saveSnapshot (l : Launch) (G : GG) {zd : Nat} (hzd : G.2.2 0 = zd) {f : FT} {sz : Nat} {a0 : Nat} {mc ms : Nat} {K : Int32 → FT → Prop} (h : wp_X8_saveSnapshot zd a0 f mc ms K) : Met l yX8_saveSnapshot wsX8_saveSnapshot ({ frames := 9, cells := mc, slots := ms, locals := 215 } : Room) (FP G [.ref a0] f sz) (va_Qi (fun r f9 => K r f9 : Int32 → FT → Prop) (FB G (fA f sz)) (fA f sz)) mc ms (fA f sz) := by
  refine Met.ofW (cc := cX8_saveSnapshot) (maxL := 1) (ret := (some .int)) (by decide) rfl ?_
  intro p e s m args below meth c s₁ B hml hv
  obtain ⟨rfl, hsz, hF, hK, hZ⟩ := hv
  have hx := B.exec
  have hb := B.bytes
  have hr := B.returns
  have hts := atoms_spec (ws := wsX8_saveSnapshot) B.pre
  have hown : s.vm.findClass RX8 = some m.cls := findClass_of_methodNamed B.named
  have hlocks := B.notSynchronized
  subst hsz
  have hF := hF.self (sz := s.heap.size)
  generalize hAe : fA f s.heap.size = A at hF hZ ⊢
  have hA : ∀ q : Nat, s.heap.size ≤ q → A q := fun q h => by rw [← hAe]; exact Or.inr h
  have hS : va_S A s.heap s.heap [] := va_S.rf
  have hZ9 : va_Z "java/util/ArrayList" "DEFAULTCAPACITY_EMPTY_ELEMENTDATA" "[Ljava/lang/Object;" (.ref zd) A s s.heap := by rw [← hzd]; exact hZ.1
  have hin_X7 : ∀ w ∈ wsX70, w ∈ wsX8_saveSnapshot := by decide +kernel
  have hin_X8 : ∀ w ∈ wsX80, w ∈ wsX8_saveSnapshot := by decide +kernel
  have hbc : 0 + mc ≤ mc := by omega
  have hbs : 0 + ms ≤ ms := by omega
  have hl := lv_entry ([.ref a0]) (n := 1) (Nat.le_of_ble_eq_true rfl)
  rw [lg_entry_eq]
  generalize (lg_sl ([.ref a0]) ++ List.replicate (1 - (lg_sl ([.ref a0])).length) Slot.unset).toArray = ls at hl ⊢
  have hl : lv_has ls 1 [(0, .ref a0)] := hl
  unfold wp_X8_saveSnapshot at h
  refine lv_aload_n hx hb dX8_saveSnapshot_0 rfl (lv_at hl 0 rfl) ?_
  obtain ⟨fs_2, a_1, he_fs_2, hv_fs_2, h⟩ := h
  refine fw_get (C := RX8) (T := TX8) (N := 9) hx hb hts hin_X8 hown hK hF he_fs_2 rfl 1 (by decide) (hts (.fieldLink RX8 16 "FrontCodedIndex" "snapshot" "LFrontCodedIndex$Tree;") (by decide +kernel)) (fun _ h9 => h9) hv_fs_2 dX8_saveSnapshot_1 ?_
  refine lv_aload_n hx hb dX8_saveSnapshot_4 rfl (lv_at hl 0 rfl) ?_
  obtain ⟨fs_4, a_3, he_fs_4, hv_fs_4, h⟩ := h
  refine fw_get (C := RX8) (T := TX8) (N := 9) hx hb hts hin_X8 hown hK hF he_fs_4 rfl 0 (by decide) (hts (.fieldLink RX8 10 "FrontCodedIndex" "tree" "LFrontCodedIndex$Tree;") (by decide +kernel)) (fun _ h9 => h9) hv_fs_4 dX8_saveSnapshot_5 ?_
  obtain ⟨ga_7, gb_8, hga_ga_7, hgb_ga_7, h⟩ := h
  obtain ⟨⟨fs_u_5, hrc_u_5⟩, h⟩ := h
  refine fw_cV_v (As := [.ref a_3]) (rest := []) ⟨hx, hb, hml, hown, hts⟩ (cc_X7_copyFrom l G hzd h) (⟨callB_of 1 hts ggX8_saveSnapshot_X7_copyFrom rfl rfl rfl (hts (.initialized RX7) (by decide +kernel)) (hts (.methodLink RX8 266 yX7_copyFrom) (by decide +kernel)) (by decide +kernel) ⟨Nat.le_of_ble_eq_true rfl, Nat.le_of_ble_eq_true rfl⟩, hts (.instanceMethod yX7_copyFrom) (by decide +kernel), hts (.selects RX7 yX7_copyFrom yX7_copyFrom) (by decide +kernel)⟩) rfl hrc_u_5 hK hZ hF hS hA rfl hl.1 rfl (Nat.le_of_ble_eq_true rfl) dX8_saveSnapshot_8 ⟨by show _ ≤ mc; omega, by show _ ≤ ms; omega⟩ (fun f_6 H locs h hF hS => ?_)
  obtain ⟨cs_9, hcs⟩ : ∃ z, z = (0 + ga_7) := ⟨_, rfl⟩; obtain ⟨sl_10, hsl⟩ : ∃ z, z = (0 + gb_8) := ⟨_, rfl⟩
  have hbc : cs_9 + (mc - ga_7) ≤ mc := by omega
  have hbs : sl_10 + (ms - gb_8) ≤ ms := by omega
  refine W.widen (k := cs_9) (n := sl_10) (by omega) (by omega) ?_
  clear hcs hsl
  refine lv_aload_n hx hb dX8_saveSnapshot_11 rfl (lv_at hl 0 rfl) ?_
  refine lv_iconst (v := (1 : Int32)) hx hb dX8_saveSnapshot_12 (by decide) ?_
  obtain ⟨fs_11, he_fs_11, hl_fs_11, h⟩ := h
  refine fw_put (v := .int (1 : Int32)) (ty := .boolean) (C := RX8) (T := TX8) (N := 9) hx hb hts hin_X8 tyX8 (tyX8_ok) nmX8 hown hK hF hS he_fs_11 rfl 6 (by decide) (hts (.fieldLink RX8 49 "FrontCodedIndex" "snapshotSaved" "Z") (by decide +kernel)) (fun _ h9 => h9) rfl (by decide +kernel) rfl rfl hl_fs_11 dX8_saveSnapshot_13 (fun H locs hF hS => ?_)
  obtain ⟨f_12, hf_f_12⟩ : ∃ z, z = fup f_6 a0 (.inr (11, fs_11.set 6 (.int (1 : Int32)))) := ⟨_, rfl⟩
  rw [← hf_f_12] at hF; have h := h f_12 hf_f_12
  refine lv_aload_n hx hb dX8_saveSnapshot_16 rfl (lv_at hl 0 rfl) ?_
  obtain ⟨fs_14, a_13, he_fs_14, hv_fs_14, h⟩ := h
  refine fw_get (C := RX8) (T := TX8) (N := 9) hx hb hts hin_X8 hown hK hF he_fs_14 rfl 0 (by decide) (hts (.fieldLink RX8 10 "FrontCodedIndex" "tree" "LFrontCodedIndex$Tree;") (by decide +kernel)) (fun _ h9 => h9) hv_fs_14 dX8_saveSnapshot_17 ?_
  obtain ⟨fs_16, a_15, he_fs_16, hv_fs_16, h⟩ := h
  refine fw_getN (C := RX7) (T := TX7) (N := 8) hx hb hts hin_X7 hown hK hF he_fs_16 rfl 0 (by decide) (va_Nw.use rfl (hZ.2.1 (.fieldLinkNest RX8 105 "FrontCodedIndex$Tree" "keys" "LFrontCodedIndex$KeyRow;" "FrontCodedIndex") (by decide +kernel))) (fun _ h9 => h9) hv_fs_16 dX8_saveSnapshot_20 ?_
  obtain ⟨⟨fs_r_17, hrc_r_17⟩, h⟩ := h
  refine fw_cV_i_p (As := []) (rest := []) ⟨hx, hb, hml, hown, hts⟩ (cc_X4_count l G h) (⟨callB_of 0 hts ggX8_saveSnapshot_X4_count rfl rfl rfl (hts (.initialized RX4) (by decide +kernel)) (hts (.methodLink RX8 109 yX4_count) (by decide +kernel)) (by decide +kernel) ⟨Nat.le_of_ble_eq_true rfl, Nat.le_of_ble_eq_true rfl⟩, hts (.instanceMethod yX4_count) (by decide +kernel), hts (.selects RX4 yX4_count yX4_count) (by decide +kernel)⟩) rfl hrc_r_17 hK hZ hF hS hA rfl hl.1 rfl (Nat.le_of_ble_eq_true rfl) dX8_saveSnapshot_23 ⟨by show _ ≤ mc; omega, by show _ ≤ ms; omega⟩ (fun r_17 H locs h hF hS => ?_)
  simp only [Nat.add_zero]
  refine W.widen (k := mc) (n := ms) (by omega) (by omega) ?_
  exact W.iret (v := r_17) hx hb hr (fun t ht hW => ⟨⟨r_17, f_12, rfl, h, by rw [ht]; exact hF, FK.moved hW.alike hK⟩, hS.F ht⟩) hS.2.2 dX8_saveSnapshot_26
theorem dX8_select_0 : decode cX8_select 0 = .ok (.iload_n 1, 1) := by decide +kernel
theorem dX8_select_1 : decode cX8_select 1 = .ok (.ifCond .lt 17, 3) := by decide +kernel
theorem dX8_select_4 : decode cX8_select 4 = .ok (.iload_n 1, 1) := by decide +kernel
theorem dX8_select_5 : decode cX8_select 5 = .ok (.aload_n 0, 1) := by decide +kernel
theorem dX8_select_6 : decode cX8_select 6 = .ok (.getfield 10, 3) := by decide +kernel
theorem dX8_select_9 : decode cX8_select 9 = .ok (.getfield 105, 3) := by decide +kernel
theorem dX8_select_12 : decode cX8_select 12 = .ok (.invokevirtual 109, 3) := by decide +kernel
theorem dX8_select_15 : decode cX8_select 15 = .ok (.if_icmp .lt 13, 3) := by decide +kernel
theorem dX8_select_18 : decode cX8_select 18 = .ok (.new 94, 3) := by decide +kernel
theorem dX8_select_21 : decode cX8_select 21 = .ok (.dup, 1) := by decide +kernel
theorem dX8_select_22 : decode cX8_select 22 = .ok (.ldc 159, 2) := by decide +kernel
theorem dX8_select_24 : decode cX8_select 24 = .ok (.invokespecial 98, 3) := by decide +kernel
theorem dX8_select_27 : decode cX8_select 27 = .ok (.athrow, 1) := by decide +kernel
theorem dX8_select_28 : decode cX8_select 28 = .ok (.aload_n 0, 1) := by decide +kernel
theorem dX8_select_29 : decode cX8_select 29 = .ok (.aload_n 0, 1) := by decide +kernel
theorem dX8_select_30 : decode cX8_select 30 = .ok (.getfield 10, 3) := by decide +kernel
theorem dX8_select_33 : decode cX8_select 33 = .ok (.getfield 105, 3) := by decide +kernel
theorem dX8_select_36 : decode cX8_select 36 = .ok (.iload_n 1, 1) := by decide +kernel
theorem dX8_select_37 : decode cX8_select 37 = .ok (.invokevirtual 161, 3) := by decide +kernel
theorem dX8_select_40 : decode cX8_select 40 = .ok (.putfield 58, 3) := by decide +kernel
theorem dX8_select_43 : decode cX8_select 43 = .ok (.aload_n 0, 1) := by decide +kernel
theorem dX8_select_44 : decode cX8_select 44 = .ok (.getfield 10, 3) := by decide +kernel
theorem dX8_select_47 : decode cX8_select 47 = .ok (.getfield 124, 3) := by decide +kernel
theorem dX8_select_50 : decode cX8_select 50 = .ok (.iload_n 1, 1) := by decide +kernel
theorem dX8_select_51 : decode cX8_select 51 = .ok (.invokevirtual 143, 3) := by decide +kernel
theorem dX8_select_54 : decode cX8_select 54 = .ok (.ireturn, 1) := by decide +kernel
set_option maxRecDepth 20000 in
theorem ggX8_select_X2_at : GoodIn wsX8_select wsX2_at := goodIn_r _ [44, 45, 46, 69, 70] (by decide +kernel) (by decide +kernel)
set_option maxRecDepth 20000 in
theorem ggX8_select_X4_at : GoodIn wsX8_select wsX4_at := goodIn_r _ [20, 10, 21, 22, 11, 12, 13, 14, 15, 16, 23, 24, 25, 26, 27, 28, 29, 30, 31, 32, 33, 34, 35, 36, 37, 38, 39, 64, 65, 66, 67, 68] (by decide +kernel) (by decide +kernel)
set_option maxRecDepth 20000 in
theorem ggX8_select_X4_count : GoodIn wsX8_select wsX4_count := goodIn_r _ [9, 10, 11, 12, 13, 14, 15, 16, 64, 65, 66, 67, 68] (by decide +kernel) (by decide +kernel)
def wp_X8_select (a0 : Nat) (x1 : Int32) (f : FT) (mc ms : Nat) (K : Int32 → FT → Prop) (KX : String → FT → Prop) : Prop :=
  ((x1 < (0 : Int32) → 1 ≤ mc ∧ 6 ≤ ms ∧ KX "java/lang/IndexOutOfBoundsException" f) ∧
 (¬ (x1 < (0 : Int32)) → gA f a0 11 0 fun a_2 => gA f a_2 10 0 fun a_4 => isO f a_4 7 ∧ wp_X4_count a_4 f (fun r_6 => ((x1 < r_6 → gA f a0 11 0 fun a_8 => gA f a_8 10 0 fun a_10 => isO f a_10 7 ∧ wp_X4_at a_10 x1 f (fun a_12 => pV f a0 11 7 (.ref a_12) fun f_14 => gA f_14 a0 11 0 fun a_15 => gA f_14 a_15 10 1 fun a_17 => isO f_14 a_17 5 ∧ wp_X2_at a_17 x1 f_14 (fun r_19 => K r_19 f_14))) ∧
 (¬ (x1 < r_6) → 1 ≤ mc ∧ 6 ≤ ms ∧ KX "java/lang/IndexOutOfBoundsException" f)))))
set_option maxHeartbeats 4000000 in
set_option maxRecDepth 100000 in
theorem cc_X8_select (l : Launch) (G : GG) {f : FT} {sz : Nat} {a0 : Nat} {x1 : Int32} {mc ms : Nat} {K : Int32 → FT → Prop} {KX : String → FT → Prop} (hlt : l.stackTraces = false) (h : wp_X8_select a0 x1 f mc ms K KX) : vx_Met l yX8_select wsX8_select ({ frames := 6, cells := mc, slots := ms, locals := 90 } : Room) (FPX G [.ref a0, .int x1] f sz) (va_Qi (fun r f9 => K r f9 : Int32 → FT → Prop) (FB G (fA f sz)) (fA f sz)) (FXC G (fA f sz) KX) mc ms (fA f sz) := by
  refine vx_ofW (cc := cX8_select) (maxL := 2) (ret := (some .int)) (by decide) rfl ?_
  intro p e s m args below meth c s₁ B hml hxt hv
  obtain ⟨rfl, hsz, hF, hK, hZ, hX⟩ := hv
  have hx := B.exec
  have hb := B.bytes
  have hr := B.returns
  have hts := atoms_spec (ws := wsX8_select) B.pre
  have hown : s.vm.findClass RX8 = some m.cls := findClass_of_methodNamed B.named
  have hlocks := B.notSynchronized
  subst hsz
  have hF := hF.self (sz := s.heap.size)
  generalize hAe : fA f s.heap.size = A at hF hZ hX ⊢
  have hA : ∀ q : Nat, s.heap.size ≤ q → A q := fun q h => by rw [← hAe]; exact Or.inr h
  have hS : va_S A s.heap s.heap [] := va_S.rf
  have hin_X7 : ∀ w ∈ wsX70, w ∈ wsX8_select := by decide +kernel
  have hin_X8 : ∀ w ∈ wsX80, w ∈ wsX8_select := by decide +kernel
  have hbc : 0 + mc ≤ mc := by omega
  have hbs : 0 + ms ≤ ms := by omega
  have hl := lv_entry ([.ref a0, .int x1]) (n := 2) (Nat.le_of_ble_eq_true rfl)
  rw [lg_entry_eq]
  generalize (lg_sl ([.ref a0, .int x1]) ++ List.replicate (2 - (lg_sl ([.ref a0, .int x1])).length) Slot.unset).toArray = ls at hl ⊢
  have hl : lv_has ls 2 [(0, .ref a0), (1, .int x1)] := hl
  unfold wp_X8_select at h
  refine lv_iload_n hx hb dX8_select_0 rfl (lv_at hl 1 rfl) ?_
  obtain ⟨h1, h2⟩ := h
  refine lv_if_lt (tgt := 18) hx hb dX8_select_1 (by decide) (fun c_1 => ?_) (fun c_1 => ?_)
  · have h := h1 c_1
    obtain ⟨hb1, hb2, h⟩ := h
    refine vx_throwS hx hb hlt (own := RX8) (cls := "java/lang/IndexOutOfBoundsException") (text := "there is no such entry") (names := ["java/lang/RuntimeException", "java/lang/Exception"]) (ik := 94) (is := 159) (ic := 98) (sa := G.2.2 (100 + 159)) (A := A) hown (by decide) (by decide) (hts (.classLink RX8 94 "java/lang/IndexOutOfBoundsException") (by decide +kernel)) (hts (.initialized "java/lang/IndexOutOfBoundsException") (by decide +kernel)) (hX.1 (159, "there is no such entry") (by decide +kernel)) (vx_hat (B := thrB) (fun w hw => hts w ((by decide +kernel : ∀ w ∈ (vx_atS RX8 98 "java/lang/IndexOutOfBoundsException" ["java/lang/RuntimeException", "java/lang/Exception"]).filter goodWord, w ∈ wsX8_select) w hw)) (by decide +kernel) (fun w hw => va_Nw.use (thrB_tab w hw) (hX.2.1 w hw))) (by decide +kernel) hX.2.2.1 hX.2.2.2 hS (hl.1.trans hml.symm) dX8_select_18 dX8_select_21 dX8_select_22 dX8_select_24 dX8_select_27 (fun x hx => (hxt x hx).elim) (Nat.le_of_ble_eq_true rfl) (Nat.le_of_ble_eq_true rfl) (by show _ ≤ mc; omega) (by show _ ≤ ms; omega) hlocks (fun t hvm hz hk => ⟨(f, "java/lang/IndexOutOfBoundsException"), h, ⟨rfl, hF.kept (fun q e9 he9 => hk q (hF.in he9).2), FK.moved hvm hK⟩, ⟨Nat.le_trans hS.1 hz, fun q h1 h2 => (hk q (Nat.lt_of_lt_of_le h1 hS.1)).trans (hS.2.1 q h1 h2)⟩⟩) hS.2.2 (by omega) (by omega)
  · have h := h2 c_1
    refine lv_iload_n hx hb dX8_select_4 rfl (lv_at hl 1 rfl) ?_
    refine lv_aload_n hx hb dX8_select_5 rfl (lv_at hl 0 rfl) ?_
    obtain ⟨fs_3, a_2, he_fs_3, hv_fs_3, h⟩ := h
    refine fw_get (C := RX8) (T := TX8) (N := 9) hx hb hts hin_X8 hown hK hF he_fs_3 rfl 0 (by decide) (hts (.fieldLink RX8 10 "FrontCodedIndex" "tree" "LFrontCodedIndex$Tree;") (by decide +kernel)) (fun _ h9 => h9) hv_fs_3 dX8_select_6 ?_
    obtain ⟨fs_5, a_4, he_fs_5, hv_fs_5, h⟩ := h
    refine fw_getN (C := RX7) (T := TX7) (N := 8) hx hb hts hin_X7 hown hK hF he_fs_5 rfl 0 (by decide) (va_Nw.use rfl (hZ.2.1 (.fieldLinkNest RX8 105 "FrontCodedIndex$Tree" "keys" "LFrontCodedIndex$KeyRow;" "FrontCodedIndex") (by decide +kernel))) (fun _ h9 => h9) hv_fs_5 dX8_select_9 ?_
    obtain ⟨⟨fs_r_6, hrc_r_6⟩, h⟩ := h
    refine fw_cV_i_p (As := []) (rest := [.int x1]) ⟨hx, hb, hml, hown, hts⟩ (cc_X4_count l G h) (⟨callB_of 0 hts ggX8_select_X4_count rfl rfl rfl (hts (.initialized RX4) (by decide +kernel)) (hts (.methodLink RX8 109 yX4_count) (by decide +kernel)) (by decide +kernel) ⟨Nat.le_of_ble_eq_true rfl, Nat.le_of_ble_eq_true rfl⟩, hts (.instanceMethod yX4_count) (by decide +kernel), hts (.selects RX4 yX4_count yX4_count) (by decide +kernel)⟩) rfl hrc_r_6 hK hZ hF hS hA rfl hl.1 rfl (Nat.le_of_ble_eq_true rfl) dX8_select_12 ⟨by show _ ≤ mc; omega, by show _ ≤ ms; omega⟩ (fun r_6 H locs h hF hS => ?_)
    simp only [Nat.add_zero]
    obtain ⟨h1, h2⟩ := h
    refine lv_icmp_lt (tgt := 28) hx hb dX8_select_15 (by decide) (fun c_7 => ?_) (fun c_7 => ?_)
    · have h := h1 c_7
      refine lv_aload_n hx hb dX8_select_28 rfl (lv_at hl 0 rfl) ?_
      refine lv_aload_n hx hb dX8_select_29 rfl (lv_at hl 0 rfl) ?_
      obtain ⟨fs_9, a_8, he_fs_9, hv_fs_9, h⟩ := h
      refine fw_get (C := RX8) (T := TX8) (N := 9) hx hb hts hin_X8 hown hK hF he_fs_9 rfl 0 (by decide) (hts (.fieldLink RX8 10 "FrontCodedIndex" "tree" "LFrontCodedIndex$Tree;") (by decide +kernel)) (fun _ h9 => h9) hv_fs_9 dX8_select_30 ?_
      obtain ⟨fs_11, a_10, he_fs_11, hv_fs_11, h⟩ := h
      refine fw_getN (C := RX7) (T := TX7) (N := 8) hx hb hts hin_X7 hown hK hF he_fs_11 rfl 0 (by decide) (va_Nw.use rfl (hZ.2.1 (.fieldLinkNest RX8 105 "FrontCodedIndex$Tree" "keys" "LFrontCodedIndex$KeyRow;" "FrontCodedIndex") (by decide +kernel))) (fun _ h9 => h9) hv_fs_11 dX8_select_33 ?_
      refine lv_iload_n hx hb dX8_select_36 rfl (lv_at hl 1 rfl) ?_
      obtain ⟨⟨fs_a_12, hrc_a_12⟩, h⟩ := h
      refine fw_cV_q_p (As := [.int x1]) (rest := [.ref a0]) ⟨hx, hb, hml, hown, hts⟩ (cc_X4_at l G h) (⟨callB_of 1 hts ggX8_select_X4_at rfl rfl rfl (hts (.initialized RX4) (by decide +kernel)) (hts (.methodLink RX8 161 yX4_at) (by decide +kernel)) (by decide +kernel) ⟨Nat.le_of_ble_eq_true rfl, Nat.le_of_ble_eq_true rfl⟩, hts (.instanceMethod yX4_at) (by decide +kernel), hts (.selects RX4 yX4_at yX4_at) (by decide +kernel)⟩) rfl hrc_a_12 hK hZ hF hS hA rfl hl.1 rfl (Nat.le_of_ble_eq_true rfl) dX8_select_37 ⟨by show _ ≤ mc; omega, by show _ ≤ ms; omega⟩ (fun a_12 H locs h hF hS => ?_)
      simp only [Nat.add_zero]
      obtain ⟨fs_13, he_fs_13, hl_fs_13, h⟩ := h
      refine fw_put (v := .ref a_12) (ty := (.object "FrontCodedIndex$Key")) (C := RX8) (T := TX8) (N := 9) hx hb hts hin_X8 tyX8 (tyX8_ok) nmX8 hown hK hF hS he_fs_13 rfl 7 (by decide) (hts (.fieldLink RX8 58 "FrontCodedIndex" "key" "LFrontCodedIndex$Key;") (by decide +kernel)) (fun _ h9 => h9) rfl (by decide +kernel) rfl rfl hl_fs_13 dX8_select_40 (fun H locs hF hS => ?_)
      obtain ⟨f_14, hf_f_14⟩ : ∃ z, z = fup f a0 (.inr (11, fs_13.set 7 (.ref a_12))) := ⟨_, rfl⟩
      rw [← hf_f_14] at hF; have h := h f_14 hf_f_14
      refine lv_aload_n hx hb dX8_select_43 rfl (lv_at hl 0 rfl) ?_
      obtain ⟨fs_16, a_15, he_fs_16, hv_fs_16, h⟩ := h
      refine fw_get (C := RX8) (T := TX8) (N := 9) hx hb hts hin_X8 hown hK hF he_fs_16 rfl 0 (by decide) (hts (.fieldLink RX8 10 "FrontCodedIndex" "tree" "LFrontCodedIndex$Tree;") (by decide +kernel)) (fun _ h9 => h9) hv_fs_16 dX8_select_44 ?_
      obtain ⟨fs_18, a_17, he_fs_18, hv_fs_18, h⟩ := h
      refine fw_getN (C := RX7) (T := TX7) (N := 8) hx hb hts hin_X7 hown hK hF he_fs_18 rfl 1 (by decide) (va_Nw.use rfl (hZ.2.1 (.fieldLinkNest RX8 124 "FrontCodedIndex$Tree" "values" "LFrontCodedIndex$IntRow;" "FrontCodedIndex") (by decide +kernel))) (fun _ h9 => h9) hv_fs_18 dX8_select_47 ?_
      refine lv_iload_n hx hb dX8_select_50 rfl (lv_at hl 1 rfl) ?_
      obtain ⟨⟨fs_r_19, hrc_r_19⟩, h⟩ := h
      refine fw_cV_i_p (As := [.int x1]) (rest := []) ⟨hx, hb, hml, hown, hts⟩ (cc_X2_at l G h) (⟨callB_of 1 hts ggX8_select_X2_at rfl rfl rfl (hts (.initialized RX2) (by decide +kernel)) (hts (.methodLink RX8 143 yX2_at) (by decide +kernel)) (by decide +kernel) ⟨Nat.le_of_ble_eq_true rfl, Nat.le_of_ble_eq_true rfl⟩, hts (.instanceMethod yX2_at) (by decide +kernel), hts (.selects RX2 yX2_at yX2_at) (by decide +kernel)⟩) rfl hrc_r_19 hK hZ hF hS hA rfl hl.1 rfl (Nat.le_of_ble_eq_true rfl) dX8_select_51 ⟨by show _ ≤ mc; omega, by show _ ≤ ms; omega⟩ (fun r_19 H locs h hF hS => ?_)
      simp only [Nat.add_zero]
      refine vx_ret ?_
      refine W.widen (k := mc) (n := ms) (by omega) (by omega) ?_
      exact W.iret (v := r_19) hx hb hr (fun t ht hW => ⟨⟨r_19, f_14, rfl, h, by rw [ht]; exact hF, FK.moved hW.alike hK⟩, hS.F ht⟩) hS.2.2 dX8_select_54
    · have h := h2 c_7
      obtain ⟨hb1, hb2, h⟩ := h
      refine vx_throwS hx hb hlt (own := RX8) (cls := "java/lang/IndexOutOfBoundsException") (text := "there is no such entry") (names := ["java/lang/RuntimeException", "java/lang/Exception"]) (ik := 94) (is := 159) (ic := 98) (sa := G.2.2 (100 + 159)) (A := A) hown (by decide) (by decide) (hts (.classLink RX8 94 "java/lang/IndexOutOfBoundsException") (by decide +kernel)) (hts (.initialized "java/lang/IndexOutOfBoundsException") (by decide +kernel)) (hX.1 (159, "there is no such entry") (by decide +kernel)) (vx_hat (B := thrB) (fun w hw => hts w ((by decide +kernel : ∀ w ∈ (vx_atS RX8 98 "java/lang/IndexOutOfBoundsException" ["java/lang/RuntimeException", "java/lang/Exception"]).filter goodWord, w ∈ wsX8_select) w hw)) (by decide +kernel) (fun w hw => va_Nw.use (thrB_tab w hw) (hX.2.1 w hw))) (by decide +kernel) hX.2.2.1 hX.2.2.2 hS (hl.1.trans hml.symm) dX8_select_18 dX8_select_21 dX8_select_22 dX8_select_24 dX8_select_27 (fun x hx => (hxt x hx).elim) (Nat.le_of_ble_eq_true rfl) (Nat.le_of_ble_eq_true rfl) (by show _ ≤ mc; omega) (by show _ ≤ ms; omega) hlocks (fun t hvm hz hk => ⟨(f, "java/lang/IndexOutOfBoundsException"), h, ⟨rfl, hF.kept (fun q e9 he9 => hk q (hF.in he9).2), FK.moved hvm hK⟩, ⟨Nat.le_trans hS.1 hz, fun q h1 h2 => (hk q (Nat.lt_of_lt_of_le h1 hS.1)).trans (hS.2.1 q h1 h2)⟩⟩) hS.2.2 (by omega) (by omega)
theorem dX8_setCapacity_0 : decode cX8_setCapacity 0 = .ok (.iload_n 1, 1) := by decide +kernel
theorem dX8_setCapacity_1 : decode cX8_setCapacity 1 = .ok (.bipush 64, 2) := by decide +kernel
theorem dX8_setCapacity_3 : decode cX8_setCapacity 3 = .ok (.if_icmp .lt 10, 3) := by decide +kernel
theorem dX8_setCapacity_6 : decode cX8_setCapacity 6 = .ok (.iload_n 1, 1) := by decide +kernel
theorem dX8_setCapacity_7 : decode cX8_setCapacity 7 = .ok (.sipush 200, 3) := by decide +kernel
theorem dX8_setCapacity_10 : decode cX8_setCapacity 10 = .ok (.if_icmp .le 13, 3) := by decide +kernel
theorem dX8_setCapacity_13 : decode cX8_setCapacity 13 = .ok (.new 65, 3) := by decide +kernel
theorem dX8_setCapacity_16 : decode cX8_setCapacity 16 = .ok (.dup, 1) := by decide +kernel
theorem dX8_setCapacity_17 : decode cX8_setCapacity 17 = .ok (.ldc 103, 2) := by decide +kernel
theorem dX8_setCapacity_19 : decode cX8_setCapacity 19 = .ok (.invokespecial 69, 3) := by decide +kernel
theorem dX8_setCapacity_22 : decode cX8_setCapacity 22 = .ok (.athrow, 1) := by decide +kernel
theorem dX8_setCapacity_23 : decode cX8_setCapacity 23 = .ok (.aload_n 0, 1) := by decide +kernel
theorem dX8_setCapacity_24 : decode cX8_setCapacity 24 = .ok (.getfield 10, 3) := by decide +kernel
theorem dX8_setCapacity_27 : decode cX8_setCapacity 27 = .ok (.getfield 105, 3) := by decide +kernel
theorem dX8_setCapacity_30 : decode cX8_setCapacity 30 = .ok (.invokevirtual 109, 3) := by decide +kernel
theorem dX8_setCapacity_33 : decode cX8_setCapacity 33 = .ok (.ifCond .le 13, 3) := by decide +kernel
theorem dX8_setCapacity_36 : decode cX8_setCapacity 36 = .ok (.new 76, 3) := by decide +kernel
theorem dX8_setCapacity_39 : decode cX8_setCapacity 39 = .ok (.dup, 1) := by decide +kernel
theorem dX8_setCapacity_40 : decode cX8_setCapacity 40 = .ok (.ldc 114, 2) := by decide +kernel
theorem dX8_setCapacity_42 : decode cX8_setCapacity 42 = .ok (.invokespecial 80, 3) := by decide +kernel
theorem dX8_setCapacity_45 : decode cX8_setCapacity 45 = .ok (.athrow, 1) := by decide +kernel
theorem dX8_setCapacity_46 : decode cX8_setCapacity 46 = .ok (.aload_n 0, 1) := by decide +kernel
theorem dX8_setCapacity_47 : decode cX8_setCapacity 47 = .ok (.getfield 10, 3) := by decide +kernel
theorem dX8_setCapacity_50 : decode cX8_setCapacity 50 = .ok (.getfield 116, 3) := by decide +kernel
theorem dX8_setCapacity_53 : decode cX8_setCapacity 53 = .ok (.istore_n 2, 1) := by decide +kernel
theorem dX8_setCapacity_54 : decode cX8_setCapacity 54 = .ok (.aload_n 0, 1) := by decide +kernel
theorem dX8_setCapacity_55 : decode cX8_setCapacity 55 = .ok (.getfield 10, 3) := by decide +kernel
theorem dX8_setCapacity_58 : decode cX8_setCapacity 58 = .ok (.iload_n 1, 1) := by decide +kernel
theorem dX8_setCapacity_59 : decode cX8_setCapacity 59 = .ok (.putfield 116, 3) := by decide +kernel
theorem dX8_setCapacity_62 : decode cX8_setCapacity 62 = .ok (.iload_n 2, 1) := by decide +kernel
theorem dX8_setCapacity_63 : decode cX8_setCapacity 63 = .ok (.ireturn, 1) := by decide +kernel
set_option maxRecDepth 20000 in
theorem ggX8_setCapacity_X4_count : GoodIn wsX8_setCapacity wsX4_count := goodIn_r _ [10, 11, 12, 13, 14, 15, 16, 17, 35, 36, 37, 38, 39] (by decide +kernel) (by decide +kernel)
def wp_X8_setCapacity (a0 : Nat) (x1 : Int32) (f : FT) (mc ms : Nat) (K : Int32 → FT → Prop) (KX : String → FT → Prop) : Prop :=
  ((x1 < (64 : Int32) → 1 ≤ mc ∧ 6 ≤ ms ∧ KX "java/lang/IllegalArgumentException" f) ∧
 (¬ (x1 < (64 : Int32)) → ((x1 ≤ (200 : Int32) → gA f a0 11 0 fun a_3 => gA f a_3 10 0 fun a_5 => isO f a_5 7 ∧ wp_X4_count a_5 f (fun r_7 => ((r_7 ≤ (0 : Int32) → gA f a0 11 0 fun a_9 => gI f a_9 10 7 fun v_11 => gA f a0 11 0 fun a_13 => pV f a_13 10 7 (.int x1) fun f_16 => K v_11 f_16) ∧
 (¬ (r_7 ≤ (0 : Int32)) → 1 ≤ mc ∧ 6 ≤ ms ∧ KX "java/lang/IllegalStateException" f)))) ∧
 (¬ (x1 ≤ (200 : Int32)) → 1 ≤ mc ∧ 6 ≤ ms ∧ KX "java/lang/IllegalArgumentException" f))))
set_option maxHeartbeats 4000000 in
set_option maxRecDepth 100000 in
theorem cc_X8_setCapacity (l : Launch) (G : GG) {f : FT} {sz : Nat} {a0 : Nat} {x1 : Int32} {mc ms : Nat} {K : Int32 → FT → Prop} {KX : String → FT → Prop} (hlt : l.stackTraces = false) (h : wp_X8_setCapacity a0 x1 f mc ms K KX) : vx_Met l yX8_setCapacity wsX8_setCapacity ({ frames := 6, cells := mc, slots := ms, locals := 90 } : Room) (FPX G [.ref a0, .int x1] f sz) (va_Qi (fun r f9 => K r f9 : Int32 → FT → Prop) (FB G (fA f sz)) (fA f sz)) (FXC G (fA f sz) KX) mc ms (fA f sz) := by
  refine vx_ofW (cc := cX8_setCapacity) (maxL := 3) (ret := (some .int)) (by decide) rfl ?_
  intro p e s m args below meth c s₁ B hml hxt hv
  obtain ⟨rfl, hsz, hF, hK, hZ, hX⟩ := hv
  have hx := B.exec
  have hb := B.bytes
  have hr := B.returns
  have hts := atoms_spec (ws := wsX8_setCapacity) B.pre
  have hown : s.vm.findClass RX8 = some m.cls := findClass_of_methodNamed B.named
  have hlocks := B.notSynchronized
  subst hsz
  have hF := hF.self (sz := s.heap.size)
  generalize hAe : fA f s.heap.size = A at hF hZ hX ⊢
  have hA : ∀ q : Nat, s.heap.size ≤ q → A q := fun q h => by rw [← hAe]; exact Or.inr h
  have hS : va_S A s.heap s.heap [] := va_S.rf
  have hin_X7 : ∀ w ∈ wsX70, w ∈ wsX8_setCapacity := by decide +kernel
  have hin_X8 : ∀ w ∈ wsX80, w ∈ wsX8_setCapacity := by decide +kernel
  have hbc : 0 + mc ≤ mc := by omega
  have hbs : 0 + ms ≤ ms := by omega
  have hl := lv_entry ([.ref a0, .int x1]) (n := 3) (Nat.le_of_ble_eq_true rfl)
  rw [lg_entry_eq]
  generalize (lg_sl ([.ref a0, .int x1]) ++ List.replicate (3 - (lg_sl ([.ref a0, .int x1])).length) Slot.unset).toArray = ls at hl ⊢
  have hl : lv_has ls 3 [(0, .ref a0), (1, .int x1)] := hl
  unfold wp_X8_setCapacity at h
  refine lv_iload_n hx hb dX8_setCapacity_0 rfl (lv_at hl 1 rfl) ?_
  refine lv_bipush (v := (64 : Int32)) hx hb dX8_setCapacity_1 (by decide) ?_
  obtain ⟨h1, h2⟩ := h
  refine lv_icmp_lt (tgt := 13) hx hb dX8_setCapacity_3 (by decide) (fun c_1 => ?_) (fun c_1 => ?_)
  · have h := h1 c_1
    obtain ⟨hb1, hb2, h⟩ := h
    refine vx_throwS hx hb hlt (own := RX8) (cls := "java/lang/IllegalArgumentException") (text := "a capacity is from 64 to 200") (names := ["java/lang/RuntimeException", "java/lang/Exception"]) (ik := 65) (is := 103) (ic := 69) (sa := G.2.2 (100 + 103)) (A := A) hown (by decide) (by decide) (hts (.classLink RX8 65 "java/lang/IllegalArgumentException") (by decide +kernel)) (hts (.initialized "java/lang/IllegalArgumentException") (by decide +kernel)) (hX.1 (103, "a capacity is from 64 to 200") (by decide +kernel)) (vx_hat (B := thrB) (fun w hw => hts w ((by decide +kernel : ∀ w ∈ (vx_atS RX8 69 "java/lang/IllegalArgumentException" ["java/lang/RuntimeException", "java/lang/Exception"]).filter goodWord, w ∈ wsX8_setCapacity) w hw)) (by decide +kernel) (fun w hw => va_Nw.use (thrB_tab w hw) (hX.2.1 w hw))) (by decide +kernel) hX.2.2.1 hX.2.2.2 hS (hl.1.trans hml.symm) dX8_setCapacity_13 dX8_setCapacity_16 dX8_setCapacity_17 dX8_setCapacity_19 dX8_setCapacity_22 (fun x hx => (hxt x hx).elim) (Nat.le_of_ble_eq_true rfl) (Nat.le_of_ble_eq_true rfl) (by show _ ≤ mc; omega) (by show _ ≤ ms; omega) hlocks (fun t hvm hz hk => ⟨(f, "java/lang/IllegalArgumentException"), h, ⟨rfl, hF.kept (fun q e9 he9 => hk q (hF.in he9).2), FK.moved hvm hK⟩, ⟨Nat.le_trans hS.1 hz, fun q h1 h2 => (hk q (Nat.lt_of_lt_of_le h1 hS.1)).trans (hS.2.1 q h1 h2)⟩⟩) hS.2.2 (by omega) (by omega)
  · have h := h2 c_1
    refine lv_iload_n hx hb dX8_setCapacity_6 rfl (lv_at hl 1 rfl) ?_
    refine lv_sipush (v := (200 : Int32)) hx hb dX8_setCapacity_7 (by decide) ?_
    obtain ⟨h1, h2⟩ := h
    refine lv_icmp_le (tgt := 23) hx hb dX8_setCapacity_10 (by decide) (fun c_2 => ?_) (fun c_2 => ?_)
    · have h := h1 c_2
      refine lv_aload_n hx hb dX8_setCapacity_23 rfl (lv_at hl 0 rfl) ?_
      obtain ⟨fs_4, a_3, he_fs_4, hv_fs_4, h⟩ := h
      refine fw_get (C := RX8) (T := TX8) (N := 9) hx hb hts hin_X8 hown hK hF he_fs_4 rfl 0 (by decide) (hts (.fieldLink RX8 10 "FrontCodedIndex" "tree" "LFrontCodedIndex$Tree;") (by decide +kernel)) (fun _ h9 => h9) hv_fs_4 dX8_setCapacity_24 ?_
      obtain ⟨fs_6, a_5, he_fs_6, hv_fs_6, h⟩ := h
      refine fw_getN (C := RX7) (T := TX7) (N := 8) hx hb hts hin_X7 hown hK hF he_fs_6 rfl 0 (by decide) (va_Nw.use rfl (hZ.2.1 (.fieldLinkNest RX8 105 "FrontCodedIndex$Tree" "keys" "LFrontCodedIndex$KeyRow;" "FrontCodedIndex") (by decide +kernel))) (fun _ h9 => h9) hv_fs_6 dX8_setCapacity_27 ?_
      obtain ⟨⟨fs_r_7, hrc_r_7⟩, h⟩ := h
      refine fw_cV_i_p (As := []) (rest := []) ⟨hx, hb, hml, hown, hts⟩ (cc_X4_count l G h) (⟨callB_of 0 hts ggX8_setCapacity_X4_count rfl rfl rfl (hts (.initialized RX4) (by decide +kernel)) (hts (.methodLink RX8 109 yX4_count) (by decide +kernel)) (by decide +kernel) ⟨Nat.le_of_ble_eq_true rfl, Nat.le_of_ble_eq_true rfl⟩, hts (.instanceMethod yX4_count) (by decide +kernel), hts (.selects RX4 yX4_count yX4_count) (by decide +kernel)⟩) rfl hrc_r_7 hK hZ hF hS hA rfl hl.1 rfl (Nat.le_of_ble_eq_true rfl) dX8_setCapacity_30 ⟨by show _ ≤ mc; omega, by show _ ≤ ms; omega⟩ (fun r_7 H locs h hF hS => ?_)
      simp only [Nat.add_zero]
      obtain ⟨h1, h2⟩ := h
      refine lv_if_le (tgt := 46) hx hb dX8_setCapacity_33 (by decide) (fun c_8 => ?_) (fun c_8 => ?_)
      · have h := h1 c_8
        refine lv_aload_n hx hb dX8_setCapacity_46 rfl (lv_at hl 0 rfl) ?_
        obtain ⟨fs_10, a_9, he_fs_10, hv_fs_10, h⟩ := h
        refine fw_get (C := RX8) (T := TX8) (N := 9) hx hb hts hin_X8 hown hK hF he_fs_10 rfl 0 (by decide) (hts (.fieldLink RX8 10 "FrontCodedIndex" "tree" "LFrontCodedIndex$Tree;") (by decide +kernel)) (fun _ h9 => h9) hv_fs_10 dX8_setCapacity_47 ?_
        obtain ⟨fs_12, v_11, he_fs_12, hv_fs_12, h⟩ := h
        refine fw_getN (C := RX7) (T := TX7) (N := 8) hx hb hts hin_X7 hown hK hF he_fs_12 rfl 7 (by decide) (va_Nw.use rfl (hZ.2.1 (.fieldLinkNest RX8 116 "FrontCodedIndex$Tree" "capacity" "I" "FrontCodedIndex") (by decide +kernel))) (fun _ h9 => h9) hv_fs_12 dX8_setCapacity_50 ?_
        refine lv_istore_n (lv' := [(2, .int v_11), (0, .ref a0), (1, .int x1)]) hx hb dX8_setCapacity_53 rfl hl (by decide) rfl (fun ls hl => ?_)
        refine lv_aload_n hx hb dX8_setCapacity_54 rfl (lv_at hl 1 rfl) ?_
        obtain ⟨fs_14, a_13, he_fs_14, hv_fs_14, h⟩ := h
        refine fw_get (C := RX8) (T := TX8) (N := 9) hx hb hts hin_X8 hown hK hF he_fs_14 rfl 0 (by decide) (hts (.fieldLink RX8 10 "FrontCodedIndex" "tree" "LFrontCodedIndex$Tree;") (by decide +kernel)) (fun _ h9 => h9) hv_fs_14 dX8_setCapacity_55 ?_
        refine lv_iload_n hx hb dX8_setCapacity_58 rfl (lv_at hl 2 rfl) ?_
        obtain ⟨fs_15, he_fs_15, hl_fs_15, h⟩ := h
        refine fw_putN (v := .int x1) (ty := .int) (C := RX7) (T := TX7) (N := 8) hx hb hts hin_X7 tyX7 (tyX7_ok) nmX7 hown hK hF hS he_fs_15 rfl 7 (by decide) (va_Nw.use rfl (hZ.2.1 (.fieldLinkNest RX8 116 "FrontCodedIndex$Tree" "capacity" "I" "FrontCodedIndex") (by decide +kernel))) (fun _ h9 => h9) rfl (by decide +kernel) rfl rfl hl_fs_15 dX8_setCapacity_59 (fun H locs hF hS => ?_)
        obtain ⟨f_16, hf_f_16⟩ : ∃ z, z = fup f a_13 (.inr (10, fs_15.set 7 (.int x1))) := ⟨_, rfl⟩
        rw [← hf_f_16] at hF; have h := h f_16 hf_f_16
        refine lv_iload_n hx hb dX8_setCapacity_62 rfl (lv_at hl 0 rfl) ?_
        refine vx_ret ?_
        refine W.widen (k := mc) (n := ms) (by omega) (by omega) ?_
        exact W.iret (v := v_11) hx hb hr (fun t ht hW => ⟨⟨v_11, f_16, rfl, h, by rw [ht]; exact hF, FK.moved hW.alike hK⟩, hS.F ht⟩) hS.2.2 dX8_setCapacity_63
      · have h := h2 c_8
        obtain ⟨hb1, hb2, h⟩ := h
        refine vx_throwS hx hb hlt (own := RX8) (cls := "java/lang/IllegalStateException") (text := "the tree has entries") (names := ["java/lang/RuntimeException", "java/lang/Exception"]) (ik := 76) (is := 114) (ic := 80) (sa := G.2.2 (100 + 114)) (A := A) hown (by decide) (by decide) (hts (.classLink RX8 76 "java/lang/IllegalStateException") (by decide +kernel)) (hts (.initialized "java/lang/IllegalStateException") (by decide +kernel)) (hX.1 (114, "the tree has entries") (by decide +kernel)) (vx_hat (B := thrB) (fun w hw => hts w ((by decide +kernel : ∀ w ∈ (vx_atS RX8 80 "java/lang/IllegalStateException" ["java/lang/RuntimeException", "java/lang/Exception"]).filter goodWord, w ∈ wsX8_setCapacity) w hw)) (by decide +kernel) (fun w hw => va_Nw.use (thrB_tab w hw) (hX.2.1 w hw))) (by decide +kernel) hX.2.2.1 hX.2.2.2 hS (hl.1.trans hml.symm) dX8_setCapacity_36 dX8_setCapacity_39 dX8_setCapacity_40 dX8_setCapacity_42 dX8_setCapacity_45 (fun x hx => (hxt x hx).elim) (Nat.le_of_ble_eq_true rfl) (Nat.le_of_ble_eq_true rfl) (by show _ ≤ mc; omega) (by show _ ≤ ms; omega) hlocks (fun t hvm hz hk => ⟨(f, "java/lang/IllegalStateException"), h, ⟨rfl, hF.kept (fun q e9 he9 => hk q (hF.in he9).2), FK.moved hvm hK⟩, ⟨Nat.le_trans hS.1 hz, fun q h1 h2 => (hk q (Nat.lt_of_lt_of_le h1 hS.1)).trans (hS.2.1 q h1 h2)⟩⟩) hS.2.2 (by omega) (by omega)
    · have h := h2 c_2
      obtain ⟨hb1, hb2, h⟩ := h
      refine vx_throwS hx hb hlt (own := RX8) (cls := "java/lang/IllegalArgumentException") (text := "a capacity is from 64 to 200") (names := ["java/lang/RuntimeException", "java/lang/Exception"]) (ik := 65) (is := 103) (ic := 69) (sa := G.2.2 (100 + 103)) (A := A) hown (by decide) (by decide) (hts (.classLink RX8 65 "java/lang/IllegalArgumentException") (by decide +kernel)) (hts (.initialized "java/lang/IllegalArgumentException") (by decide +kernel)) (hX.1 (103, "a capacity is from 64 to 200") (by decide +kernel)) (vx_hat (B := thrB) (fun w hw => hts w ((by decide +kernel : ∀ w ∈ (vx_atS RX8 69 "java/lang/IllegalArgumentException" ["java/lang/RuntimeException", "java/lang/Exception"]).filter goodWord, w ∈ wsX8_setCapacity) w hw)) (by decide +kernel) (fun w hw => va_Nw.use (thrB_tab w hw) (hX.2.1 w hw))) (by decide +kernel) hX.2.2.1 hX.2.2.2 hS (hl.1.trans hml.symm) dX8_setCapacity_13 dX8_setCapacity_16 dX8_setCapacity_17 dX8_setCapacity_19 dX8_setCapacity_22 (fun x hx => (hxt x hx).elim) (Nat.le_of_ble_eq_true rfl) (Nat.le_of_ble_eq_true rfl) (by show _ ≤ mc; omega) (by show _ ≤ ms; omega) hlocks (fun t hvm hz hk => ⟨(f, "java/lang/IllegalArgumentException"), h, ⟨rfl, hF.kept (fun q e9 he9 => hk q (hF.in he9).2), FK.moved hvm hK⟩, ⟨Nat.le_trans hS.1 hz, fun q h1 h2 => (hk q (Nat.lt_of_lt_of_le h1 hS.1)).trans (hS.2.1 q h1 h2)⟩⟩) hS.2.2 (by omega) (by omega)
