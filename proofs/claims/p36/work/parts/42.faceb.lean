theorem dX8_positionOfKey_0 : decode cX8_positionOfKey 0 = .ok (.aload_n 0, 1) := by decide +kernel
theorem dX8_positionOfKey_1 : decode cX8_positionOfKey 1 = .ok (.getfield 10, 3) := by decide +kernel
theorem dX8_positionOfKey_4 : decode cX8_positionOfKey 4 = .ok (.getfield 105, 3) := by decide +kernel
theorem dX8_positionOfKey_7 : decode cX8_positionOfKey 7 = .ok (.aload_n 0, 1) := by decide +kernel
theorem dX8_positionOfKey_8 : decode cX8_positionOfKey 8 = .ok (.getfield 58, 3) := by decide +kernel
theorem dX8_positionOfKey_11 : decode cX8_positionOfKey 11 = .ok (.invokevirtual 120, 3) := by decide +kernel
theorem dX8_positionOfKey_14 : decode cX8_positionOfKey 14 = .ok (.istore_n 1, 1) := by decide +kernel
theorem dX8_positionOfKey_15 : decode cX8_positionOfKey 15 = .ok (.iload_n 1, 1) := by decide +kernel
theorem dX8_positionOfKey_16 : decode cX8_positionOfKey 16 = .ok (.ifCond .ge 14, 3) := by decide +kernel
theorem dX8_positionOfKey_19 : decode cX8_positionOfKey 19 = .ok (.new 163, 3) := by decide +kernel
theorem dX8_positionOfKey_22 : decode cX8_positionOfKey 22 = .ok (.dup, 1) := by decide +kernel
theorem dX8_positionOfKey_23 : decode cX8_positionOfKey 23 = .ok (.ldc_w 272, 3) := by decide +kernel
theorem dX8_positionOfKey_26 : decode cX8_positionOfKey 26 = .ok (.invokespecial 167, 3) := by decide +kernel
theorem dX8_positionOfKey_29 : decode cX8_positionOfKey 29 = .ok (.athrow, 1) := by decide +kernel
theorem dX8_positionOfKey_30 : decode cX8_positionOfKey 30 = .ok (.iload_n 1, 1) := by decide +kernel
theorem dX8_positionOfKey_31 : decode cX8_positionOfKey 31 = .ok (.ireturn, 1) := by decide +kernel
set_option maxRecDepth 20000 in
theorem ggX8_positionOfKey_X4_find : GoodIn wsX8_positionOfKey wsX4_find := goodIn_r _ [9, 10, 11, 12, 13, 8, 14, 15, 16, 17, 18, 19, 20, 21, 22, 23, 24, 25, 26, 27, 28, 29, 30, 31, 32, 33, 34, 35, 36, 37, 38, 39, 40, 41, 42, 43, 44, 45, 46, 47, 48, 49, 50, 51, 52, 53, 54, 55, 56, 57, 75, 76, 77, 78, 79, 80] (by decide +kernel) (by decide +kernel)
def wp_X8_positionOfKey (a0 : Nat) (f : FT) (mc ms : Nat) (K : Int32 → FT → Prop) (KX : String → FT → Prop) : Prop :=
  gA f a0 11 0 fun a_1 => gA f a_1 10 0 fun a_3 => gA f a0 11 7 fun a_5 => isO f a_3 7 ∧ wp_X4_find a_3 a_5 f (fun r_7 => (((0 : Int32) ≤ r_7 → K r_7 f) ∧
 (¬ ((0 : Int32) ≤ r_7) → 1 ≤ mc ∧ 6 ≤ ms ∧ KX "java/util/NoSuchElementException" f)))
set_option maxHeartbeats 4000000 in
set_option maxRecDepth 100000 in
theorem cc_X8_positionOfKey (l : Launch) (G : GG) {f : FT} {sz : Nat} {a0 : Nat} {mc ms : Nat} {K : Int32 → FT → Prop} {KX : String → FT → Prop} (hlt : l.stackTraces = false) (h : wp_X8_positionOfKey a0 f mc ms K KX) : vx_Met l yX8_positionOfKey wsX8_positionOfKey ({ frames := 6, cells := mc, slots := ms, locals := 134 } : Room) (FPX G [.ref a0] f sz) (va_Qi (fun r f9 => K r f9 : Int32 → FT → Prop) (FB G (fA f sz)) (fA f sz)) (FXC G (fA f sz) KX) mc ms (fA f sz) := by
  refine vx_ofW (cc := cX8_positionOfKey) (maxL := 2) (ret := (some .int)) (by decide) rfl ?_
  intro p e s m args below meth c s₁ B hml hxt hv
  obtain ⟨rfl, hsz, hF, hK, hZ, hX⟩ := hv
  have hx := B.exec
  have hb := B.bytes
  have hr := B.returns
  have hts := atoms_spec (ws := wsX8_positionOfKey) B.pre
  have hown : s.vm.findClass RX8 = some m.cls := findClass_of_methodNamed B.named
  have hlocks := B.notSynchronized
  subst hsz
  have hF := hF.self (sz := s.heap.size)
  generalize hAe : fA f s.heap.size = A at hF hZ hX ⊢
  have hA : ∀ q : Nat, s.heap.size ≤ q → A q := fun q h => by rw [← hAe]; exact Or.inr h
  have hS : va_S A s.heap s.heap [] := va_S.rf
  have hin_X7 : ∀ w ∈ wsX70, w ∈ wsX8_positionOfKey := by decide +kernel
  have hin_X8 : ∀ w ∈ wsX80, w ∈ wsX8_positionOfKey := by decide +kernel
  have hbc : 0 + mc ≤ mc := by omega
  have hbs : 0 + ms ≤ ms := by omega
  have hl := lv_entry ([.ref a0]) (n := 2) (Nat.le_of_ble_eq_true rfl)
  rw [lg_entry_eq]
  generalize (lg_sl ([.ref a0]) ++ List.replicate (2 - (lg_sl ([.ref a0])).length) Slot.unset).toArray = ls at hl ⊢
  have hl : lv_has ls 2 [(0, .ref a0)] := hl
  unfold wp_X8_positionOfKey at h
  refine lv_aload_n hx hb dX8_positionOfKey_0 rfl (lv_at hl 0 rfl) ?_
  obtain ⟨fs_2, a_1, he_fs_2, hv_fs_2, h⟩ := h
  refine fw_get (C := RX8) (T := TX8) (N := 9) hx hb hts hin_X8 hown hK hF he_fs_2 rfl 0 (by decide) (hts (.fieldLink RX8 10 "FrontCodedIndex" "tree" "LFrontCodedIndex$Tree;") (by decide +kernel)) (fun _ h9 => h9) hv_fs_2 dX8_positionOfKey_1 ?_
  obtain ⟨fs_4, a_3, he_fs_4, hv_fs_4, h⟩ := h
  refine fw_getN (C := RX7) (T := TX7) (N := 8) hx hb hts hin_X7 hown hK hF he_fs_4 rfl 0 (by decide) (va_Nw.use rfl (hZ.2.1 (.fieldLinkNest RX8 105 "FrontCodedIndex$Tree" "keys" "LFrontCodedIndex$KeyRow;" "FrontCodedIndex") (by decide +kernel))) (fun _ h9 => h9) hv_fs_4 dX8_positionOfKey_4 ?_
  refine lv_aload_n hx hb dX8_positionOfKey_7 rfl (lv_at hl 0 rfl) ?_
  obtain ⟨fs_6, a_5, he_fs_6, hv_fs_6, h⟩ := h
  refine fw_get (C := RX8) (T := TX8) (N := 9) hx hb hts hin_X8 hown hK hF he_fs_6 rfl 7 (by decide) (hts (.fieldLink RX8 58 "FrontCodedIndex" "key" "LFrontCodedIndex$Key;") (by decide +kernel)) (fun _ h9 => h9) hv_fs_6 dX8_positionOfKey_8 ?_
  obtain ⟨⟨fs_r_7, hrc_r_7⟩, h⟩ := h
  refine fw_cV_i_p (As := [.ref a_5]) (rest := []) ⟨hx, hb, hml, hown, hts⟩ (cc_X4_find l G h) (⟨callB_of 1 hts ggX8_positionOfKey_X4_find rfl rfl rfl (hts (.initialized RX4) (by decide +kernel)) (hts (.methodLink RX8 120 yX4_find) (by decide +kernel)) (by decide +kernel) ⟨Nat.le_of_ble_eq_true rfl, Nat.le_of_ble_eq_true rfl⟩, hts (.instanceMethod yX4_find) (by decide +kernel), hts (.selects RX4 yX4_find yX4_find) (by decide +kernel)⟩) rfl hrc_r_7 hK hZ hF hS hA rfl hl.1 rfl (Nat.le_of_ble_eq_true rfl) dX8_positionOfKey_11 ⟨by show _ ≤ mc; omega, by show _ ≤ ms; omega⟩ (fun r_7 H locs h hF hS => ?_)
  simp only [Nat.add_zero]
  refine lv_istore_n (lv' := [(1, .int r_7), (0, .ref a0)]) hx hb dX8_positionOfKey_14 rfl hl (by decide) rfl (fun ls hl => ?_)
  refine lv_iload_n hx hb dX8_positionOfKey_15 rfl (lv_at hl 0 rfl) ?_
  obtain ⟨h1, h2⟩ := h
  refine lv_if_ge (tgt := 30) hx hb dX8_positionOfKey_16 (by decide) (fun c_8 => ?_) (fun c_8 => ?_)
  · have h := h1 c_8
    refine lv_iload_n hx hb dX8_positionOfKey_30 rfl (lv_at hl 0 rfl) ?_
    refine vx_ret ?_
    refine W.widen (k := mc) (n := ms) (by omega) (by omega) ?_
    exact W.iret (v := r_7) hx hb hr (fun t ht hW => ⟨⟨r_7, f, rfl, h, by rw [ht]; exact hF, FK.moved hW.alike hK⟩, hS.F ht⟩) hS.2.2 dX8_positionOfKey_31
  · have h := h2 c_8
    obtain ⟨hb1, hb2, h⟩ := h
    refine vx_throwSW13 hx hb hlt (own := RX8) (cls := "java/util/NoSuchElementException") (text := "there is no entry with the key") (ik := 163) (is := 272) (ic := 167) (sa := G.2.2 (100 + 272)) (A := A) hown (by decide) (hts (.classLink RX8 163 "java/util/NoSuchElementException") (by decide +kernel)) (hts (.initialized "java/util/NoSuchElementException") (by decide +kernel)) (hX.1 (272, "there is no entry with the key") (by decide +kernel)) (vx_hat (B := thrB) (fun w hw => hts w ((by decide +kernel : ∀ w ∈ (vx_at13 RX8 167 "java/util/NoSuchElementException").filter goodWord, w ∈ wsX8_positionOfKey) w hw)) (by decide +kernel) (fun w hw => va_Nw.use (thrB_tab w hw) (hX.2.1 w hw))) (by decide +kernel) hX.2.2.1 hX.2.2.2 hS (hl.1.trans hml.symm) dX8_positionOfKey_19 dX8_positionOfKey_22 dX8_positionOfKey_23 dX8_positionOfKey_26 dX8_positionOfKey_29 (fun x hx => (hxt x hx).elim) (Nat.le_of_ble_eq_true rfl) (Nat.le_of_ble_eq_true rfl) (by show _ ≤ mc; omega) (by show _ ≤ ms; omega) hlocks (fun t hvm hz hk => ⟨(f, "java/util/NoSuchElementException"), h, ⟨rfl, hF.kept (fun q e9 he9 => hk q (hF.in he9).2), FK.moved hvm hK⟩, ⟨Nat.le_trans hS.1 hz, fun q h1 h2 => (hk q (Nat.lt_of_lt_of_le h1 hS.1)).trans (hS.2.1 q h1 h2)⟩⟩) hS.2.2 (by omega) (by omega)
theorem dX8_get_0 : decode cX8_get 0 = .ok (.aload_n 0, 1) := by decide +kernel
theorem dX8_get_1 : decode cX8_get 1 = .ok (.getfield 10, 3) := by decide +kernel
theorem dX8_get_4 : decode cX8_get 4 = .ok (.getfield 124, 3) := by decide +kernel
theorem dX8_get_7 : decode cX8_get 7 = .ok (.aload_n 0, 1) := by decide +kernel
theorem dX8_get_8 : decode cX8_get 8 = .ok (.invokevirtual 140, 3) := by decide +kernel
theorem dX8_get_11 : decode cX8_get 11 = .ok (.invokevirtual 143, 3) := by decide +kernel
theorem dX8_get_14 : decode cX8_get 14 = .ok (.ireturn, 1) := by decide +kernel
set_option maxRecDepth 20000 in
theorem ggX8_get_X2_at : GoodIn wsX8_get wsX2_at := goodIn_r _ [67, 68, 69, 93, 94] (by decide +kernel) (by decide +kernel)
set_option maxRecDepth 20000 in
theorem ggX8_get_X8_positionOfKey : GoodIn wsX8_get wsX8_positionOfKey := goodIn_ca (goodIn_r _ [6, 7, 8, 1, 9, 10, 11, 12, 13, 14, 15, 16, 17, 18, 19, 20, 21, 22, 23, 24, 25, 26, 27, 28, 29, 30, 31, 32, 33, 34, 35, 36, 37, 38, 39, 40, 41, 42, 43, 44, 45, 46, 47, 48, 49, 50, 51, 52, 53, 54, 55, 56, 57, 58, 59, 60, 61, 62, 70, 71, 72, 73, 74, 75, 76, 77, 78, 79, 80, 81, 82, 83, 84, 85, 86, 87, 88, 89, 90, 91, 92] (by decide +kernel) (by decide +kernel)) (goodIn_sub (fun _ h => List.mem_cons_of_mem _ (List.mem_append_right _ h)) (by decide +kernel))
def wp_X8_get (a0 : Nat) (f : FT) (mc ms : Nat) (K : Int32 → FT → Prop) (KX : String → FT → Prop) : Prop :=
  gA f a0 11 0 fun a_1 => gA f a_1 10 1 fun a_3 => ∃ ga_7 gb_8 : Nat, ga_7 ≤ mc ∧ gb_8 ≤ ms ∧ isO f a0 11 ∧ wp_X8_positionOfKey a0 f ga_7 gb_8 (fun r_5 f_6 => isO f_6 a_3 5 ∧ wp_X2_at a_3 r_5 f_6 (fun r_11 => K r_11 f_6)) KX
set_option maxHeartbeats 4000000 in
set_option maxRecDepth 100000 in
theorem cc_X8_get (l : Launch) (G : GG) {f : FT} {sz : Nat} {a0 : Nat} {mc ms : Nat} {K : Int32 → FT → Prop} {KX : String → FT → Prop} (hlt : l.stackTraces = false) (h : wp_X8_get a0 f mc ms K KX) : vx_Met l yX8_get wsX8_get ({ frames := 7, cells := mc, slots := ms, locals := 155 } : Room) (FPX G [.ref a0] f sz) (va_Qi (fun r f9 => K r f9 : Int32 → FT → Prop) (FB G (fA f sz)) (fA f sz)) (FXC G (fA f sz) KX) mc ms (fA f sz) := by
  refine vx_ofW (cc := cX8_get) (maxL := 1) (ret := (some .int)) (by decide) rfl ?_
  intro p e s m args below meth c s₁ B hml hxt hv
  obtain ⟨rfl, hsz, hF, hK, hZ, hX⟩ := hv
  have hx := B.exec
  have hb := B.bytes
  have hr := B.returns
  have hts := atoms_spec (ws := wsX8_get) B.pre
  have hown : s.vm.findClass RX8 = some m.cls := findClass_of_methodNamed B.named
  have hlocks := B.notSynchronized
  subst hsz
  have hF := hF.self (sz := s.heap.size)
  generalize hAe : fA f s.heap.size = A at hF hZ hX ⊢
  have hA : ∀ q : Nat, s.heap.size ≤ q → A q := fun q h => by rw [← hAe]; exact Or.inr h
  have hS : va_S A s.heap s.heap [] := va_S.rf
  have hin_X7 : ∀ w ∈ wsX70, w ∈ wsX8_get := by decide +kernel
  have hin_X8 : ∀ w ∈ wsX80, w ∈ wsX8_get := by decide +kernel
  have hbc : 0 + mc ≤ mc := by omega
  have hbs : 0 + ms ≤ ms := by omega
  have hl := lv_entry ([.ref a0]) (n := 1) (Nat.le_of_ble_eq_true rfl)
  rw [lg_entry_eq]
  generalize (lg_sl ([.ref a0]) ++ List.replicate (1 - (lg_sl ([.ref a0])).length) Slot.unset).toArray = ls at hl ⊢
  have hl : lv_has ls 1 [(0, .ref a0)] := hl
  unfold wp_X8_get at h
  refine lv_aload_n hx hb dX8_get_0 rfl (lv_at hl 0 rfl) ?_
  obtain ⟨fs_2, a_1, he_fs_2, hv_fs_2, h⟩ := h
  refine fw_get (C := RX8) (T := TX8) (N := 9) hx hb hts hin_X8 hown hK hF he_fs_2 rfl 0 (by decide) (hts (.fieldLink RX8 10 "FrontCodedIndex" "tree" "LFrontCodedIndex$Tree;") (by decide +kernel)) (fun _ h9 => h9) hv_fs_2 dX8_get_1 ?_
  obtain ⟨fs_4, a_3, he_fs_4, hv_fs_4, h⟩ := h
  refine fw_getN (C := RX7) (T := TX7) (N := 8) hx hb hts hin_X7 hown hK hF he_fs_4 rfl 1 (by decide) (va_Nw.use rfl (hZ.2.1 (.fieldLinkNest RX8 124 "FrontCodedIndex$Tree" "values" "LFrontCodedIndex$IntRow;" "FrontCodedIndex") (by decide +kernel))) (fun _ h9 => h9) hv_fs_4 dX8_get_4 ?_
  refine lv_aload_n hx hb dX8_get_7 rfl (lv_at hl 0 rfl) ?_
  obtain ⟨ga_7, gb_8, hga_ga_7, hgb_ga_7, h⟩ := h
  obtain ⟨⟨fs_r_5, hrc_r_5⟩, h⟩ := h
  refine fx_cV_i (As := []) (rest := [.ref a_3]) ⟨hx, hb, hml, hown, hts⟩ (cc_X8_positionOfKey l G hlt h) (⟨callB_of 0 hts ggX8_get_X8_positionOfKey rfl rfl rfl (hts (.initialized RX8) (by decide +kernel)) (hts (.methodLink RX8 140 yX8_positionOfKey) (by decide +kernel)) (by decide +kernel) ⟨Nat.le_of_ble_eq_true rfl, Nat.le_of_ble_eq_true rfl⟩, hts (.instanceMethod yX8_positionOfKey) (by decide +kernel), hts (.selects RX8 yX8_positionOfKey yX8_positionOfKey) (by decide +kernel)⟩) rfl hrc_r_5 hK hZ hX hF hS hA rfl hl.1 rfl (Nat.le_of_ble_eq_true rfl) dX8_get_8 ⟨by show _ ≤ mc; omega, by show _ ≤ ms; omega⟩ hxt hlocks (by omega) (by omega) (fun r_5 f_6 H locs h hF hS => ?_)
  obtain ⟨cs_9, hcs⟩ : ∃ z, z = (0 + ga_7) := ⟨_, rfl⟩; obtain ⟨sl_10, hsl⟩ : ∃ z, z = (0 + gb_8) := ⟨_, rfl⟩
  have hbc : cs_9 + (mc - ga_7) ≤ mc := by omega
  have hbs : sl_10 + (ms - gb_8) ≤ ms := by omega
  refine W.widen (k := cs_9) (n := sl_10) (by omega) (by omega) ?_
  clear hcs hsl
  obtain ⟨⟨fs_r_11, hrc_r_11⟩, h⟩ := h
  refine fw_cV_i_p (As := [.int r_5]) (rest := []) ⟨hx, hb, hml, hown, hts⟩ (cc_X2_at l G h) (⟨callB_of 1 hts ggX8_get_X2_at rfl rfl rfl (hts (.initialized RX2) (by decide +kernel)) (hts (.methodLink RX8 143 yX2_at) (by decide +kernel)) (by decide +kernel) ⟨Nat.le_of_ble_eq_true rfl, Nat.le_of_ble_eq_true rfl⟩, hts (.instanceMethod yX2_at) (by decide +kernel), hts (.selects RX2 yX2_at yX2_at) (by decide +kernel)⟩) rfl hrc_r_11 hK hZ hF hS hA rfl hl.1 rfl (Nat.le_of_ble_eq_true rfl) dX8_get_11 ⟨by show _ ≤ mc; omega, by show _ ≤ ms; omega⟩ (fun r_11 H locs h hF hS => ?_)
  simp only [Nat.add_zero]
  refine vx_ret ?_
  refine W.widen (k := mc) (n := ms) (by omega) (by omega) ?_
  exact W.iret (v := r_11) hx hb hr (fun t ht hW => ⟨⟨r_11, f_6, rfl, h, by rw [ht]; exact hF, FK.moved hW.alike hK⟩, hS.F ht⟩) hS.2.2 dX8_get_14
theorem dX8_height_0 : decode cX8_height 0 = .ok (.aload_n 0, 1) := by decide +kernel
theorem dX8_height_1 : decode cX8_height 1 = .ok (.getfield 10, 3) := by decide +kernel
theorem dX8_height_4 : decode cX8_height 4 = .ok (.getfield 171, 3) := by decide +kernel
theorem dX8_height_7 : decode cX8_height 7 = .ok (.ireturn, 1) := by decide +kernel
def wp_X8_height (a0 : Nat) (f : FT) (K : Int32 → Prop) : Prop :=
  gA f a0 11 0 fun a_1 => gI f a_1 10 6 fun v_3 => K v_3
set_option maxHeartbeats 4000000 in
set_option maxRecDepth 100000 in
theorem cc_X8_height (l : Launch) (G : GG) {f : FT} {sz : Nat} {a0 : Nat} {K : Int32 → Prop} (h : wp_X8_height a0 f K) : Met l yX8_height wsX8_height ({ frames := 0, cells := 0, slots := 0, locals := 0 } : Room) (FP G [.ref a0] f sz) (va_Qi (fun r f9 => K r ∧ f9 = f : Int32 → FT → Prop) (FB G (fA f sz)) (fA f sz)) 0 0 (fA f sz) := by
  refine Met.ofW (cc := cX8_height) (maxL := 1) (ret := (some .int)) (by decide) rfl ?_
  intro p e s m args below meth c s₁ B hml hv
  obtain ⟨rfl, hsz, hF, hK, hZ⟩ := hv
  have hx := B.exec
  have hb := B.bytes
  have hr := B.returns
  have hts := atoms_spec (ws := wsX8_height) B.pre
  have hown : s.vm.findClass RX8 = some m.cls := findClass_of_methodNamed B.named
  have hlocks := B.notSynchronized
  subst hsz
  have hF := hF.self (sz := s.heap.size)
  generalize hAe : fA f s.heap.size = A at hF hZ ⊢
  have hA : ∀ q : Nat, s.heap.size ≤ q → A q := fun q h => by rw [← hAe]; exact Or.inr h
  have hS : va_S A s.heap s.heap [] := va_S.rf
  have hin_X7 : ∀ w ∈ wsX70, w ∈ wsX8_height := by decide +kernel
  have hin_X8 : ∀ w ∈ wsX80, w ∈ wsX8_height := by decide +kernel
  have hl := lv_entry ([.ref a0]) (n := 1) (Nat.le_of_ble_eq_true rfl)
  rw [lg_entry_eq]
  generalize (lg_sl ([.ref a0]) ++ List.replicate (1 - (lg_sl ([.ref a0])).length) Slot.unset).toArray = ls at hl ⊢
  have hl : lv_has ls 1 [(0, .ref a0)] := hl
  unfold wp_X8_height at h
  refine lv_aload_n hx hb dX8_height_0 rfl (lv_at hl 0 rfl) ?_
  obtain ⟨fs_2, a_1, he_fs_2, hv_fs_2, h⟩ := h
  refine fw_get (C := RX8) (T := TX8) (N := 9) hx hb hts hin_X8 hown hK hF he_fs_2 rfl 0 (by decide) (hts (.fieldLink RX8 10 "FrontCodedIndex" "tree" "LFrontCodedIndex$Tree;") (by decide +kernel)) (fun _ h9 => h9) hv_fs_2 dX8_height_1 ?_
  obtain ⟨fs_4, v_3, he_fs_4, hv_fs_4, h⟩ := h
  refine fw_getN (C := RX7) (T := TX7) (N := 8) hx hb hts hin_X7 hown hK hF he_fs_4 rfl 6 (by decide) (va_Nw.use rfl (hZ.2.1 (.fieldLinkNest RX8 171 "FrontCodedIndex$Tree" "tierTotal" "I" "FrontCodedIndex") (by decide +kernel))) (fun _ h9 => h9) hv_fs_4 dX8_height_4 ?_
  exact W.iret (v := v_3) hx hb hr (fun t ht hW => ⟨⟨v_3, f, rfl, ⟨h, rfl⟩, by rw [ht]; exact hF, FK.moved hW.alike hK⟩, hS.F ht⟩) hS.2.2 dX8_height_7
theorem dX8_init_0 : decode cX8_init 0 = .ok (.aload_n 0, 1) := by decide +kernel
theorem dX8_init_1 : decode cX8_init 1 = .ok (.invokespecial 1, 3) := by decide +kernel
theorem dX8_init_4 : decode cX8_init 4 = .ok (.aload_n 0, 1) := by decide +kernel
theorem dX8_init_5 : decode cX8_init 5 = .ok (.new 7, 3) := by decide +kernel
theorem dX8_init_8 : decode cX8_init 8 = .ok (.dup, 1) := by decide +kernel
theorem dX8_init_9 : decode cX8_init 9 = .ok (.invokespecial 9, 3) := by decide +kernel
theorem dX8_init_12 : decode cX8_init 12 = .ok (.putfield 10, 3) := by decide +kernel
theorem dX8_init_15 : decode cX8_init 15 = .ok (.aload_n 0, 1) := by decide +kernel
theorem dX8_init_16 : decode cX8_init 16 = .ok (.new 7, 3) := by decide +kernel
theorem dX8_init_19 : decode cX8_init 19 = .ok (.dup, 1) := by decide +kernel
theorem dX8_init_20 : decode cX8_init 20 = .ok (.invokespecial 9, 3) := by decide +kernel
theorem dX8_init_23 : decode cX8_init 23 = .ok (.putfield 16, 3) := by decide +kernel
theorem dX8_init_26 : decode cX8_init 26 = .ok (.aload_n 0, 1) := by decide +kernel
theorem dX8_init_27 : decode cX8_init 27 = .ok (.new 19, 3) := by decide +kernel
theorem dX8_init_30 : decode cX8_init 30 = .ok (.dup, 1) := by decide +kernel
theorem dX8_init_31 : decode cX8_init 31 = .ok (.invokespecial 21, 3) := by decide +kernel
theorem dX8_init_34 : decode cX8_init 34 = .ok (.putfield 22, 3) := by decide +kernel
theorem dX8_init_37 : decode cX8_init 37 = .ok (.aload_n 0, 1) := by decide +kernel
theorem dX8_init_38 : decode cX8_init 38 = .ok (.new 26, 3) := by decide +kernel
theorem dX8_init_41 : decode cX8_init 41 = .ok (.dup, 1) := by decide +kernel
theorem dX8_init_42 : decode cX8_init 42 = .ok (.aload_n 0, 1) := by decide +kernel
theorem dX8_init_43 : decode cX8_init 43 = .ok (.getfield 10, 3) := by decide +kernel
theorem dX8_init_46 : decode cX8_init 46 = .ok (.aload_n 0, 1) := by decide +kernel
theorem dX8_init_47 : decode cX8_init 47 = .ok (.getfield 22, 3) := by decide +kernel
theorem dX8_init_50 : decode cX8_init 50 = .ok (.invokespecial 28, 3) := by decide +kernel
theorem dX8_init_53 : decode cX8_init 53 = .ok (.putfield 31, 3) := by decide +kernel
theorem dX8_init_56 : decode cX8_init 56 = .ok (.aload_n 0, 1) := by decide +kernel
theorem dX8_init_57 : decode cX8_init 57 = .ok (.new 35, 3) := by decide +kernel
theorem dX8_init_60 : decode cX8_init 60 = .ok (.dup, 1) := by decide +kernel
theorem dX8_init_61 : decode cX8_init 61 = .ok (.aload_n 0, 1) := by decide +kernel
theorem dX8_init_62 : decode cX8_init 62 = .ok (.getfield 10, 3) := by decide +kernel
theorem dX8_init_65 : decode cX8_init 65 = .ok (.aload_n 0, 1) := by decide +kernel
theorem dX8_init_66 : decode cX8_init 66 = .ok (.getfield 22, 3) := by decide +kernel
theorem dX8_init_69 : decode cX8_init 69 = .ok (.invokespecial 37, 3) := by decide +kernel
theorem dX8_init_72 : decode cX8_init 72 = .ok (.putfield 38, 3) := by decide +kernel
theorem dX8_init_75 : decode cX8_init 75 = .ok (.aload_n 0, 1) := by decide +kernel
theorem dX8_init_76 : decode cX8_init 76 = .ok (.new 42, 3) := by decide +kernel
theorem dX8_init_79 : decode cX8_init 79 = .ok (.dup, 1) := by decide +kernel
theorem dX8_init_80 : decode cX8_init 80 = .ok (.invokespecial 44, 3) := by decide +kernel
theorem dX8_init_83 : decode cX8_init 83 = .ok (.putfield 45, 3) := by decide +kernel
theorem dX8_init_86 : decode cX8_init 86 = .ok (.aload_n 0, 1) := by decide +kernel
theorem dX8_init_87 : decode cX8_init 87 = .ok (.iconst 0, 1) := by decide +kernel
theorem dX8_init_88 : decode cX8_init 88 = .ok (.putfield 49, 3) := by decide +kernel
theorem dX8_init_91 : decode cX8_init 91 = .ok (.aload_n 0, 1) := by decide +kernel
theorem dX8_init_92 : decode cX8_init 92 = .ok (.new 53, 3) := by decide +kernel
theorem dX8_init_95 : decode cX8_init 95 = .ok (.dup, 1) := by decide +kernel
theorem dX8_init_96 : decode cX8_init 96 = .ok (.iconst 0, 1) := by decide +kernel
theorem dX8_init_97 : decode cX8_init 97 = .ok (.newarray .byte, 2) := by decide +kernel
theorem dX8_init_99 : decode cX8_init 99 = .ok (.invokespecial 55, 3) := by decide +kernel
theorem dX8_init_102 : decode cX8_init 102 = .ok (.putfield 58, 3) := by decide +kernel
theorem dX8_init_105 : decode cX8_init 105 = .ok (.aload_n 0, 1) := by decide +kernel
theorem dX8_init_106 : decode cX8_init 106 = .ok (.aload_n 0, 1) := by decide +kernel
theorem dX8_init_107 : decode cX8_init 107 = .ok (.getfield 58, 3) := by decide +kernel
theorem dX8_init_110 : decode cX8_init 110 = .ok (.putfield 62, 3) := by decide +kernel
theorem dX8_init_113 : decode cX8_init 113 = .ok (.return_, 1) := by decide +kernel
set_option maxRecDepth 20000 in
theorem ggX8_init_X0_init : GoodIn wsX8_init wsX0_init := goodIn_r _ [194, 195, 2, 3, 84, 196, 197, 198, 132, 199, 240] (by decide +kernel) (by decide +kernel)
set_option maxRecDepth 20000 in
theorem ggX8_init_X1_init : GoodIn wsX8_init wsX1_init := goodIn_r _ [202, 203, 2, 3, 204, 205, 206, 207, 241, 242, 243, 244] (by decide +kernel) (by decide +kernel)
set_option maxRecDepth 20000 in
theorem ggX8_init_X3_init : GoodIn wsX8_init wsX3_init := goodIn_r _ [78, 79, 2, 3, 80, 250] (by decide +kernel) (by decide +kernel)
set_option maxRecDepth 20000 in
theorem ggX8_init_X5_init : GoodIn wsX8_init wsX5_init := goodIn_r _ [216, 217, 2, 3, 218, 37, 38, 219, 220, 41, 42, 221, 54, 55, 56, 57, 46, 47, 58, 59, 27, 28, 29, 60, 61, 62, 63, 64, 65, 66, 67, 68, 69, 70, 71, 72, 73, 74, 75, 76, 77, 78, 79, 80, 81, 82, 83, 84, 85, 86, 251, 252, 248, 249, 253, 254, 255, 256, 257, 250] (by decide +kernel) (by decide +kernel)
set_option maxRecDepth 20000 in
theorem ggX8_init_X6_init : GoodIn wsX8_init wsX6_init := goodIn_r _ [210, 211, 2, 3, 212, 213, 214, 245, 246, 247] (by decide +kernel) (by decide +kernel)
set_option maxRecDepth 20000 in
theorem ggX8_init_X7_init : GoodIn wsX8_init wsX7_init := goodIn_r _ [34, 35, 2, 3, 36, 37, 38, 39, 40, 41, 42, 43, 44, 45, 46, 47, 48, 49, 50, 27, 28, 29, 51, 52, 53, 54, 55, 56, 57, 58, 59, 60, 61, 62, 63, 64, 65, 66, 67, 68, 69, 70, 71, 72, 73, 74, 75, 76, 77, 78, 79, 80, 81, 82, 83, 84, 85, 86, 87, 88, 89, 90, 91, 6, 92, 93, 94, 95, 96, 97, 98, 99, 100, 101, 102, 103, 104, 105, 106, 107, 108, 109, 110, 111, 112, 113, 114, 115, 116, 117, 118, 119, 120, 121, 122, 123, 124, 125, 126, 127, 128, 129, 130, 131, 132, 133, 134, 135, 136, 137, 138, 139, 140, 141, 142, 143, 144, 145, 146, 147, 148, 149, 150, 151, 152, 153, 154, 155, 156, 157, 158, 159, 160, 161, 162, 163, 164, 165, 166, 167, 168, 169, 170, 171, 172, 173, 174, 175, 176, 177, 178, 179, 180, 181, 182, 183, 184, 185, 186, 187, 188, 189, 190, 191, 251, 252, 223, 224, 225, 226, 227, 228, 229, 230, 253, 254, 255, 256, 257, 250] (by decide +kernel) (by decide +kernel)
def wp_X8_init (zd : Nat) (a0 : Nat) (f : FT) (mc ms : Nat) (K : FT → Prop) : Prop :=
  nO f 10 [.null, .null, .null, .null, .null, .null, .int 0, .int 0] 8 mc ms fun q_1 f_2 => ∃ ga_7 gb_8 : Nat, ga_7 ≤ (mc - 1) ∧ gb_8 ≤ (ms - 8) ∧ wp_X7_init zd q_1 f_2 ga_7 gb_8 (fun f_6 => pV f_6 a0 11 0 (.ref q_1) fun f_12 => nO f_12 10 [.null, .null, .null, .null, .null, .null, .int 0, .int 0] 8 ((mc - 1) - ga_7) ((ms - 8) - gb_8) fun q_13 f_14 => ∃ ga_19 gb_20 : Nat, ga_19 ≤ (((mc - 1) - ga_7) - 1) ∧ gb_20 ≤ (((ms - 8) - gb_8) - 8) ∧ wp_X7_init zd q_13 f_14 ga_19 gb_20 (fun f_18 => pV f_18 a0 11 1 (.ref q_13) fun f_24 => nO f_24 3 [.null] 1 ((((mc - 1) - ga_7) - 1) - ga_19) ((((ms - 8) - gb_8) - 8) - gb_20) fun q_25 f_26 => ∃ ga_31 gb_32 : Nat, ga_31 ≤ (((((mc - 1) - ga_7) - 1) - ga_19) - 1) ∧ gb_32 ≤ (((((ms - 8) - gb_8) - 8) - gb_20) - 1) ∧ wp_X0_init q_25 f_26 ga_31 gb_32 (fun f_30 => pV f_30 a0 11 2 (.ref q_25) fun f_36 => nO f_36 4 [.null, .null, .int 0, .int 0] 4 ((((((mc - 1) - ga_7) - 1) - ga_19) - 1) - ga_31) ((((((ms - 8) - gb_8) - 8) - gb_20) - 1) - gb_32) fun q_37 f_38 => gA f_38 a0 11 0 fun a_41 => gA f_38 a0 11 2 fun a_43 => wp_X1_init q_37 a_41 a_43 f_38 (fun f_46 => pV f_46 a0 11 3 (.ref q_37) fun f_48 => nO f_48 9 [.null, .null, .int 0] 3 (((((((mc - 1) - ga_7) - 1) - ga_19) - 1) - ga_31) - 1) (((((((ms - 8) - gb_8) - 8) - gb_20) - 1) - gb_32) - 4) fun q_49 f_50 => gA f_50 a0 11 0 fun a_53 => gA f_50 a0 11 2 fun a_55 => wp_X6_init q_49 a_53 a_55 f_50 (fun f_58 => pV f_58 a0 11 4 (.ref q_49) fun f_60 => nO f_60 8 [.null, .null] 2 ((((((((mc - 1) - ga_7) - 1) - ga_19) - 1) - ga_31) - 1) - 1) ((((((((ms - 8) - gb_8) - 8) - gb_20) - 1) - gb_32) - 4) - 3) fun q_61 f_62 => ∃ ga_67 gb_68 : Nat, ga_67 ≤ (((((((((mc - 1) - ga_7) - 1) - ga_19) - 1) - ga_31) - 1) - 1) - 1) ∧ gb_68 ≤ (((((((((ms - 8) - gb_8) - 8) - gb_20) - 1) - gb_32) - 4) - 3) - 2) ∧ wp_X5_init zd q_61 f_62 ga_67 gb_68 (fun f_66 => pV f_66 a0 11 5 (.ref q_61) fun f_72 => pV f_72 a0 11 6 (.int (0 : Int32)) fun f_74 => nO f_74 6 [.null] 1 ((((((((((mc - 1) - ga_7) - 1) - ga_19) - 1) - ga_31) - 1) - 1) - 1) - ga_67) ((((((((((ms - 8) - gb_8) - 8) - gb_20) - 1) - gb_32) - 4) - 3) - 2) - gb_68) fun q_75 f_76 => nA f_76 0 (0 : Int32) (((((((((((mc - 1) - ga_7) - 1) - ga_19) - 1) - ga_31) - 1) - 1) - 1) - ga_67) - 1) (((((((((((ms - 8) - gb_8) - 8) - gb_20) - 1) - gb_32) - 4) - 3) - 2) - gb_68) - 1) fun n_81 q_79 f_80 => wp_X3_init q_75 q_79 f_80 (fun f_85 => pV f_85 a0 11 7 (.ref q_75) fun f_87 => gA f_87 a0 11 7 fun a_88 => pV f_87 a0 11 8 (.ref a_88) fun f_91 => K f_91)))))))
set_option maxHeartbeats 4000000 in
set_option maxRecDepth 100000 in
theorem cc_X8_init (l : Launch) (G : GG) {zd : Nat} (hzd : G.2.2 0 = zd) {f : FT} {sz : Nat} {a0 : Nat} {mc ms : Nat} {K : FT → Prop} (h : wp_X8_init zd a0 f mc ms K) : Met l yX8_init wsX8_init ({ frames := 9, cells := mc, slots := ms, locals := 212 } : Room) (FP G [.ref a0] f sz) (va_Qv (fun f9 => K f9 : FT → Prop) (FB G (fA f sz)) (fA f sz)) mc ms (fA f sz) := by
  refine Met.ofW (cc := cX8_init) (maxL := 1) (ret := none) (by decide) rfl ?_
  intro p e s m args below meth c s₁ B hml hv
  obtain ⟨rfl, hsz, hF, hK, hZ⟩ := hv
  have hx := B.exec
  have hb := B.bytes
  have hr := B.returns
  have hts := atoms_spec (ws := wsX8_init) B.pre
  have hown : s.vm.findClass RX8 = some m.cls := findClass_of_methodNamed B.named
  have hlocks := B.notSynchronized
  have hin : meth.name = "<init>" := (name_of_methodNamed B.named B.method).1
  subst hsz
  have hF := hF.self (sz := s.heap.size)
  generalize hAe : fA f s.heap.size = A at hF hZ ⊢
  have hA : ∀ q : Nat, s.heap.size ≤ q → A q := fun q h => by rw [← hAe]; exact Or.inr h
  have hS : va_S A s.heap s.heap [] := va_S.rf
  have hZ9 : va_Z "java/util/ArrayList" "DEFAULTCAPACITY_EMPTY_ELEMENTDATA" "[Ljava/lang/Object;" (.ref zd) A s s.heap := by rw [← hzd]; exact hZ.1
  have hin_X0 : ∀ w ∈ wsX00, w ∈ wsX8_init := by decide +kernel
  have hin_X1 : ∀ w ∈ wsX10, w ∈ wsX8_init := by decide +kernel
  have hin_X3 : ∀ w ∈ wsX30, w ∈ wsX8_init := by decide +kernel
  have hin_X5 : ∀ w ∈ wsX50, w ∈ wsX8_init := by decide +kernel
  have hin_X6 : ∀ w ∈ wsX60, w ∈ wsX8_init := by decide +kernel
  have hin_X7 : ∀ w ∈ wsX70, w ∈ wsX8_init := by decide +kernel
  have hin_X8 : ∀ w ∈ wsX80, w ∈ wsX8_init := by decide +kernel
  have hbc : 0 + mc ≤ mc := by omega
  have hbs : 0 + ms ≤ ms := by omega
  have hl := lv_entry ([.ref a0]) (n := 1) (Nat.le_of_ble_eq_true rfl)
  rw [lg_entry_eq]
  generalize (lg_sl ([.ref a0]) ++ List.replicate (1 - (lg_sl ([.ref a0])).length) Slot.unset).toArray = ls at hl ⊢
  have hl : lv_has ls 1 [(0, .ref a0)] := hl
  unfold wp_X8_init at h
  refine lv_aload_n hx hb dX8_init_0 rfl (lv_at hl 0 rfl) ?_
  refine W.objInit hx hb hown (hts (.methodLink RX8 1 objectInit) (by decide +kernel)) (hts (.instanceMethod objectInit) (by decide +kernel)) (hts (.code objectInit ⟨#[0xb1]⟩ 1 none) (by decide +kernel)) rfl (by rw [hml]; exact hl.1) rfl dX8_init_1 (Nat.le_of_ble_eq_true rfl) (Nat.le_of_ble_eq_true rfl) ?_
  refine W.eq (g2 := F0 m 4 ls []) rfl ?_
  refine lv_aload_n hx hb dX8_init_4 rfl (lv_at hl 0 rfl) ?_
  obtain ⟨hb1, hb2, h⟩ := h
  refine fw_new (ci := 10) (fs := [.null, .null, .null, .null, .null, .null, .int 0, .int 0]) (C := RX7) (T := TX7) (N := 8) hx hb hts hin_X7 tyX7 tyX7_ok hown (hts (.classLink RX8 7 RX7) (by decide +kernel)) (hts (.instantiable RX7 8) (by decide +kernel)) (hts (.initialized RX7) (by decide +kernel)) hK hF hS hA rfl (fun j hj => by rcases (show j = 0 ∨ j = 1 ∨ j = 2 ∨ j = 3 ∨ j = 4 ∨ j = 5 ∨ j = 6 ∨ j = 7 by omega) with rfl | rfl | rfl | rfl | rfl | rfl | rfl | rfl <;> rfl) (by show _ ≤ mc; omega) (by show _ ≤ ms; omega) dX8_init_5 (fun q_1 H hn_q_1 hF hS => ?_)
  obtain ⟨f_2, hf_f_2⟩ : ∃ z, z = fup f q_1 (.inr (10, [.null, .null, .null, .null, .null, .null, .int 0, .int 0])) := ⟨_, rfl⟩
  rw [← hf_f_2] at hF; have h := h q_1 hn_q_1 f_2 hf_f_2
  obtain ⟨cs_3, hcs⟩ : ∃ z, z = (0 + 1) := ⟨_, rfl⟩; obtain ⟨sl_4, hsl⟩ : ∃ z, z = (0 + 8) := ⟨_, rfl⟩
  have hbc : cs_3 + (mc - 1) ≤ mc := by omega
  have hbs : sl_4 + (ms - 8) ≤ ms := by omega
  refine W.widen (k := cs_3) (n := sl_4) (by omega) (by omega) ?_
  clear hcs hsl
  refine lv_dup hx hb dX8_init_8 rfl ?_
  obtain ⟨ga_7, gb_8, hga_ga_7, hgb_ga_7, h⟩ := h
  refine fw_cI_v (As := []) (rest := [.ref q_1, .ref a0]) ⟨hx, hb, hml, hown, hts⟩ (cc_X7_init l G hzd h) (⟨callB_of 0 hts ggX8_init_X7_init rfl rfl rfl (hts (.initialized RX7) (by decide +kernel)) (hts (.methodLink RX8 9 yX7_init) (by decide +kernel)) (by decide +kernel) ⟨Nat.le_of_ble_eq_true rfl, Nat.le_of_ble_eq_true rfl⟩, rfl, hts (.instanceMethod yX7_init) (by decide +kernel)⟩) hK hZ hF hS hA rfl hl.1 rfl (Nat.le_of_ble_eq_true rfl) dX8_init_9 ⟨by show _ ≤ mc; omega, by show _ ≤ ms; omega⟩ (fun f_6 H locs h hF hS => ?_)
  obtain ⟨cs_9, hcs⟩ : ∃ z, z = (cs_3 + ga_7) := ⟨_, rfl⟩; obtain ⟨sl_10, hsl⟩ : ∃ z, z = (sl_4 + gb_8) := ⟨_, rfl⟩
  have hbc : cs_9 + ((mc - 1) - ga_7) ≤ mc := by omega
  have hbs : sl_10 + ((ms - 8) - gb_8) ≤ ms := by omega
  refine W.widen (k := cs_9) (n := sl_10) (by omega) (by omega) ?_
  clear hcs hsl
  obtain ⟨fs_11, he_fs_11, hl_fs_11, h⟩ := h
  refine fw_putF (v := .ref q_1) (ty := (.object "FrontCodedIndex$Tree")) (C := RX8) (T := TX8) (N := 9) hx hb hts hin_X8 tyX8 (tyX8_ok) nmX8 hown hK hF hS he_fs_11 rfl 0 (by decide) (hts (.fieldLink RX8 10 "FrontCodedIndex" "tree" "LFrontCodedIndex$Tree;") (by decide +kernel)) (fun _ h9 => h9) rfl hin rfl (by decide +kernel) rfl rfl hl_fs_11 dX8_init_12 (fun H locs hF hS => ?_)
  obtain ⟨f_12, hf_f_12⟩ : ∃ z, z = fup f_6 a0 (.inr (11, fs_11.set 0 (.ref q_1))) := ⟨_, rfl⟩
  rw [← hf_f_12] at hF; have h := h f_12 hf_f_12
  refine lv_aload_n hx hb dX8_init_15 rfl (lv_at hl 0 rfl) ?_
  obtain ⟨hb1, hb2, h⟩ := h
  refine fw_new (ci := 10) (fs := [.null, .null, .null, .null, .null, .null, .int 0, .int 0]) (C := RX7) (T := TX7) (N := 8) hx hb hts hin_X7 tyX7 tyX7_ok hown (hts (.classLink RX8 7 RX7) (by decide +kernel)) (hts (.instantiable RX7 8) (by decide +kernel)) (hts (.initialized RX7) (by decide +kernel)) hK hF hS hA rfl (fun j hj => by rcases (show j = 0 ∨ j = 1 ∨ j = 2 ∨ j = 3 ∨ j = 4 ∨ j = 5 ∨ j = 6 ∨ j = 7 by omega) with rfl | rfl | rfl | rfl | rfl | rfl | rfl | rfl <;> rfl) (by show _ ≤ mc; omega) (by show _ ≤ ms; omega) dX8_init_16 (fun q_13 H hn_q_13 hF hS => ?_)
  obtain ⟨f_14, hf_f_14⟩ : ∃ z, z = fup f_12 q_13 (.inr (10, [.null, .null, .null, .null, .null, .null, .int 0, .int 0])) := ⟨_, rfl⟩
  rw [← hf_f_14] at hF; have h := h q_13 hn_q_13 f_14 hf_f_14
  obtain ⟨cs_15, hcs⟩ : ∃ z, z = (cs_9 + 1) := ⟨_, rfl⟩; obtain ⟨sl_16, hsl⟩ : ∃ z, z = (sl_10 + 8) := ⟨_, rfl⟩
  have hbc : cs_15 + (((mc - 1) - ga_7) - 1) ≤ mc := by omega
  have hbs : sl_16 + (((ms - 8) - gb_8) - 8) ≤ ms := by omega
  refine W.widen (k := cs_15) (n := sl_16) (by omega) (by omega) ?_
  clear hcs hsl
  refine lv_dup hx hb dX8_init_19 rfl ?_
  obtain ⟨ga_19, gb_20, hga_ga_19, hgb_ga_19, h⟩ := h
  refine fw_cI_v (As := []) (rest := [.ref q_13, .ref a0]) ⟨hx, hb, hml, hown, hts⟩ (cc_X7_init l G hzd h) (⟨callB_of 0 hts ggX8_init_X7_init rfl rfl rfl (hts (.initialized RX7) (by decide +kernel)) (hts (.methodLink RX8 9 yX7_init) (by decide +kernel)) (by decide +kernel) ⟨Nat.le_of_ble_eq_true rfl, Nat.le_of_ble_eq_true rfl⟩, rfl, hts (.instanceMethod yX7_init) (by decide +kernel)⟩) hK hZ hF hS hA rfl hl.1 rfl (Nat.le_of_ble_eq_true rfl) dX8_init_20 ⟨by show _ ≤ mc; omega, by show _ ≤ ms; omega⟩ (fun f_18 H locs h hF hS => ?_)
  obtain ⟨cs_21, hcs⟩ : ∃ z, z = (cs_15 + ga_19) := ⟨_, rfl⟩; obtain ⟨sl_22, hsl⟩ : ∃ z, z = (sl_16 + gb_20) := ⟨_, rfl⟩
  have hbc : cs_21 + ((((mc - 1) - ga_7) - 1) - ga_19) ≤ mc := by omega
  have hbs : sl_22 + ((((ms - 8) - gb_8) - 8) - gb_20) ≤ ms := by omega
  refine W.widen (k := cs_21) (n := sl_22) (by omega) (by omega) ?_
  clear hcs hsl
  obtain ⟨fs_23, he_fs_23, hl_fs_23, h⟩ := h
  refine fw_putF (v := .ref q_13) (ty := (.object "FrontCodedIndex$Tree")) (C := RX8) (T := TX8) (N := 9) hx hb hts hin_X8 tyX8 (tyX8_ok) nmX8 hown hK hF hS he_fs_23 rfl 1 (by decide) (hts (.fieldLink RX8 16 "FrontCodedIndex" "snapshot" "LFrontCodedIndex$Tree;") (by decide +kernel)) (fun _ h9 => h9) rfl hin rfl (by decide +kernel) rfl rfl hl_fs_23 dX8_init_23 (fun H locs hF hS => ?_)
  obtain ⟨f_24, hf_f_24⟩ : ∃ z, z = fup f_18 a0 (.inr (11, fs_23.set 1 (.ref q_13))) := ⟨_, rfl⟩
  rw [← hf_f_24] at hF; have h := h f_24 hf_f_24
  refine lv_aload_n hx hb dX8_init_26 rfl (lv_at hl 0 rfl) ?_
  obtain ⟨hb1, hb2, h⟩ := h
  refine fw_new (ci := 3) (fs := [.null]) (C := RX0) (T := TX0) (N := 1) hx hb hts hin_X0 tyX0 tyX0_ok hown (hts (.classLink RX8 19 RX0) (by decide +kernel)) (hts (.instantiable RX0 1) (by decide +kernel)) (hts (.initialized RX0) (by decide +kernel)) hK hF hS hA rfl (fun j hj => by rcases (show j = 0 by omega) with rfl <;> rfl) (by show _ ≤ mc; omega) (by show _ ≤ ms; omega) dX8_init_27 (fun q_25 H hn_q_25 hF hS => ?_)
  obtain ⟨f_26, hf_f_26⟩ : ∃ z, z = fup f_24 q_25 (.inr (3, [.null])) := ⟨_, rfl⟩
  rw [← hf_f_26] at hF; have h := h q_25 hn_q_25 f_26 hf_f_26
  obtain ⟨cs_27, hcs⟩ : ∃ z, z = (cs_21 + 1) := ⟨_, rfl⟩; obtain ⟨sl_28, hsl⟩ : ∃ z, z = (sl_22 + 1) := ⟨_, rfl⟩
  have hbc : cs_27 + (((((mc - 1) - ga_7) - 1) - ga_19) - 1) ≤ mc := by omega
  have hbs : sl_28 + (((((ms - 8) - gb_8) - 8) - gb_20) - 1) ≤ ms := by omega
  refine W.widen (k := cs_27) (n := sl_28) (by omega) (by omega) ?_
  clear hcs hsl
  refine lv_dup hx hb dX8_init_30 rfl ?_
  obtain ⟨ga_31, gb_32, hga_ga_31, hgb_ga_31, h⟩ := h
  refine fw_cI_v (As := []) (rest := [.ref q_25, .ref a0]) ⟨hx, hb, hml, hown, hts⟩ (cc_X0_init l G h) (⟨callB_of 0 hts ggX8_init_X0_init rfl rfl rfl (hts (.initialized RX0) (by decide +kernel)) (hts (.methodLink RX8 21 yX0_init) (by decide +kernel)) (by decide +kernel) ⟨Nat.le_of_ble_eq_true rfl, Nat.le_of_ble_eq_true rfl⟩, rfl, hts (.instanceMethod yX0_init) (by decide +kernel)⟩) hK hZ hF hS hA rfl hl.1 rfl (Nat.le_of_ble_eq_true rfl) dX8_init_31 ⟨by show _ ≤ mc; omega, by show _ ≤ ms; omega⟩ (fun f_30 H locs h hF hS => ?_)
  obtain ⟨cs_33, hcs⟩ : ∃ z, z = (cs_27 + ga_31) := ⟨_, rfl⟩; obtain ⟨sl_34, hsl⟩ : ∃ z, z = (sl_28 + gb_32) := ⟨_, rfl⟩
  have hbc : cs_33 + ((((((mc - 1) - ga_7) - 1) - ga_19) - 1) - ga_31) ≤ mc := by omega
  have hbs : sl_34 + ((((((ms - 8) - gb_8) - 8) - gb_20) - 1) - gb_32) ≤ ms := by omega
  refine W.widen (k := cs_33) (n := sl_34) (by omega) (by omega) ?_
  clear hcs hsl
  obtain ⟨fs_35, he_fs_35, hl_fs_35, h⟩ := h
  refine fw_putF (v := .ref q_25) (ty := (.object "FrontCodedIndex$Cursors")) (C := RX8) (T := TX8) (N := 9) hx hb hts hin_X8 tyX8 (tyX8_ok) nmX8 hown hK hF hS he_fs_35 rfl 2 (by decide) (hts (.fieldLink RX8 22 "FrontCodedIndex" "cursors" "LFrontCodedIndex$Cursors;") (by decide +kernel)) (fun _ h9 => h9) rfl hin rfl (by decide +kernel) rfl rfl hl_fs_35 dX8_init_34 (fun H locs hF hS => ?_)
  obtain ⟨f_36, hf_f_36⟩ : ∃ z, z = fup f_30 a0 (.inr (11, fs_35.set 2 (.ref q_25))) := ⟨_, rfl⟩
  rw [← hf_f_36] at hF; have h := h f_36 hf_f_36
  refine lv_aload_n hx hb dX8_init_37 rfl (lv_at hl 0 rfl) ?_
  obtain ⟨hb1, hb2, h⟩ := h
  refine fw_new (ci := 4) (fs := [.null, .null, .int 0, .int 0]) (C := RX1) (T := TX1) (N := 4) hx hb hts hin_X1 tyX1 tyX1_ok hown (hts (.classLink RX8 26 RX1) (by decide +kernel)) (hts (.instantiable RX1 4) (by decide +kernel)) (hts (.initialized RX1) (by decide +kernel)) hK hF hS hA rfl (fun j hj => by rcases (show j = 0 ∨ j = 1 ∨ j = 2 ∨ j = 3 by omega) with rfl | rfl | rfl | rfl <;> rfl) (by show _ ≤ mc; omega) (by show _ ≤ ms; omega) dX8_init_38 (fun q_37 H hn_q_37 hF hS => ?_)
  obtain ⟨f_38, hf_f_38⟩ : ∃ z, z = fup f_36 q_37 (.inr (4, [.null, .null, .int 0, .int 0])) := ⟨_, rfl⟩
  rw [← hf_f_38] at hF; have h := h q_37 hn_q_37 f_38 hf_f_38
  obtain ⟨cs_39, hcs⟩ : ∃ z, z = (cs_33 + 1) := ⟨_, rfl⟩; obtain ⟨sl_40, hsl⟩ : ∃ z, z = (sl_34 + 4) := ⟨_, rfl⟩
  have hbc : cs_39 + (((((((mc - 1) - ga_7) - 1) - ga_19) - 1) - ga_31) - 1) ≤ mc := by omega
  have hbs : sl_40 + (((((((ms - 8) - gb_8) - 8) - gb_20) - 1) - gb_32) - 4) ≤ ms := by omega
  refine W.widen (k := cs_39) (n := sl_40) (by omega) (by omega) ?_
  clear hcs hsl
  refine lv_dup hx hb dX8_init_41 rfl ?_
  refine lv_aload_n hx hb dX8_init_42 rfl (lv_at hl 0 rfl) ?_
  obtain ⟨fs_42, a_41, he_fs_42, hv_fs_42, h⟩ := h
  refine fw_get (C := RX8) (T := TX8) (N := 9) hx hb hts hin_X8 hown hK hF he_fs_42 rfl 0 (by decide) (hts (.fieldLink RX8 10 "FrontCodedIndex" "tree" "LFrontCodedIndex$Tree;") (by decide +kernel)) (fun _ h9 => h9) hv_fs_42 dX8_init_43 ?_
  refine lv_aload_n hx hb dX8_init_46 rfl (lv_at hl 0 rfl) ?_
  obtain ⟨fs_44, a_43, he_fs_44, hv_fs_44, h⟩ := h
  refine fw_get (C := RX8) (T := TX8) (N := 9) hx hb hts hin_X8 hown hK hF he_fs_44 rfl 2 (by decide) (hts (.fieldLink RX8 22 "FrontCodedIndex" "cursors" "LFrontCodedIndex$Cursors;") (by decide +kernel)) (fun _ h9 => h9) hv_fs_44 dX8_init_47 ?_
  refine fw_cI_v (As := [.ref a_41, .ref a_43]) (rest := [.ref q_37, .ref a0]) ⟨hx, hb, hml, hown, hts⟩ (cc_X1_init l G h) (⟨callB_of 2 hts ggX8_init_X1_init rfl rfl rfl (hts (.initialized RX1) (by decide +kernel)) (hts (.methodLink RX8 28 yX1_init) (by decide +kernel)) (by decide +kernel) ⟨Nat.le_of_ble_eq_true rfl, Nat.le_of_ble_eq_true rfl⟩, rfl, hts (.instanceMethod yX1_init) (by decide +kernel)⟩) hK hZ hF hS hA rfl hl.1 rfl (Nat.le_of_ble_eq_true rfl) dX8_init_50 ⟨by show _ ≤ mc; omega, by show _ ≤ ms; omega⟩ (fun f_46 H locs h hF hS => ?_)
  simp only [Nat.add_zero]
  obtain ⟨fs_47, he_fs_47, hl_fs_47, h⟩ := h
  refine fw_putF (v := .ref q_37) (ty := (.object "FrontCodedIndex$Inserter")) (C := RX8) (T := TX8) (N := 9) hx hb hts hin_X8 tyX8 (tyX8_ok) nmX8 hown hK hF hS he_fs_47 rfl 3 (by decide) (hts (.fieldLink RX8 31 "FrontCodedIndex" "inserter" "LFrontCodedIndex$Inserter;") (by decide +kernel)) (fun _ h9 => h9) rfl hin rfl (by decide +kernel) rfl rfl hl_fs_47 dX8_init_53 (fun H locs hF hS => ?_)
  obtain ⟨f_48, hf_f_48⟩ : ∃ z, z = fup f_46 a0 (.inr (11, fs_47.set 3 (.ref q_37))) := ⟨_, rfl⟩
  rw [← hf_f_48] at hF; have h := h f_48 hf_f_48
  refine lv_aload_n hx hb dX8_init_56 rfl (lv_at hl 0 rfl) ?_
  obtain ⟨hb1, hb2, h⟩ := h
  refine fw_new (ci := 9) (fs := [.null, .null, .int 0]) (C := RX6) (T := TX6) (N := 3) hx hb hts hin_X6 tyX6 tyX6_ok hown (hts (.classLink RX8 35 RX6) (by decide +kernel)) (hts (.instantiable RX6 3) (by decide +kernel)) (hts (.initialized RX6) (by decide +kernel)) hK hF hS hA rfl (fun j hj => by rcases (show j = 0 ∨ j = 1 ∨ j = 2 by omega) with rfl | rfl | rfl <;> rfl) (by show _ ≤ mc; omega) (by show _ ≤ ms; omega) dX8_init_57 (fun q_49 H hn_q_49 hF hS => ?_)
  obtain ⟨f_50, hf_f_50⟩ : ∃ z, z = fup f_48 q_49 (.inr (9, [.null, .null, .int 0])) := ⟨_, rfl⟩
  rw [← hf_f_50] at hF; have h := h q_49 hn_q_49 f_50 hf_f_50
  obtain ⟨cs_51, hcs⟩ : ∃ z, z = (cs_39 + 1) := ⟨_, rfl⟩; obtain ⟨sl_52, hsl⟩ : ∃ z, z = (sl_40 + 3) := ⟨_, rfl⟩
  have hbc : cs_51 + ((((((((mc - 1) - ga_7) - 1) - ga_19) - 1) - ga_31) - 1) - 1) ≤ mc := by omega
  have hbs : sl_52 + ((((((((ms - 8) - gb_8) - 8) - gb_20) - 1) - gb_32) - 4) - 3) ≤ ms := by omega
  refine W.widen (k := cs_51) (n := sl_52) (by omega) (by omega) ?_
  clear hcs hsl
  refine lv_dup hx hb dX8_init_60 rfl ?_
  refine lv_aload_n hx hb dX8_init_61 rfl (lv_at hl 0 rfl) ?_
  obtain ⟨fs_54, a_53, he_fs_54, hv_fs_54, h⟩ := h
  refine fw_get (C := RX8) (T := TX8) (N := 9) hx hb hts hin_X8 hown hK hF he_fs_54 rfl 0 (by decide) (hts (.fieldLink RX8 10 "FrontCodedIndex" "tree" "LFrontCodedIndex$Tree;") (by decide +kernel)) (fun _ h9 => h9) hv_fs_54 dX8_init_62 ?_
  refine lv_aload_n hx hb dX8_init_65 rfl (lv_at hl 0 rfl) ?_
  obtain ⟨fs_56, a_55, he_fs_56, hv_fs_56, h⟩ := h
  refine fw_get (C := RX8) (T := TX8) (N := 9) hx hb hts hin_X8 hown hK hF he_fs_56 rfl 2 (by decide) (hts (.fieldLink RX8 22 "FrontCodedIndex" "cursors" "LFrontCodedIndex$Cursors;") (by decide +kernel)) (fun _ h9 => h9) hv_fs_56 dX8_init_66 ?_
  refine fw_cI_v (As := [.ref a_53, .ref a_55]) (rest := [.ref q_49, .ref a0]) ⟨hx, hb, hml, hown, hts⟩ (cc_X6_init l G h) (⟨callB_of 2 hts ggX8_init_X6_init rfl rfl rfl (hts (.initialized RX6) (by decide +kernel)) (hts (.methodLink RX8 37 yX6_init) (by decide +kernel)) (by decide +kernel) ⟨Nat.le_of_ble_eq_true rfl, Nat.le_of_ble_eq_true rfl⟩, rfl, hts (.instanceMethod yX6_init) (by decide +kernel)⟩) hK hZ hF hS hA rfl hl.1 rfl (Nat.le_of_ble_eq_true rfl) dX8_init_69 ⟨by show _ ≤ mc; omega, by show _ ≤ ms; omega⟩ (fun f_58 H locs h hF hS => ?_)
  simp only [Nat.add_zero]
  obtain ⟨fs_59, he_fs_59, hl_fs_59, h⟩ := h
  refine fw_putF (v := .ref q_49) (ty := (.object "FrontCodedIndex$Remover")) (C := RX8) (T := TX8) (N := 9) hx hb hts hin_X8 tyX8 (tyX8_ok) nmX8 hown hK hF hS he_fs_59 rfl 4 (by decide) (hts (.fieldLink RX8 38 "FrontCodedIndex" "remover" "LFrontCodedIndex$Remover;") (by decide +kernel)) (fun _ h9 => h9) rfl hin rfl (by decide +kernel) rfl rfl hl_fs_59 dX8_init_72 (fun H locs hF hS => ?_)
  obtain ⟨f_60, hf_f_60⟩ : ∃ z, z = fup f_58 a0 (.inr (11, fs_59.set 4 (.ref q_49))) := ⟨_, rfl⟩
  rw [← hf_f_60] at hF; have h := h f_60 hf_f_60
  refine lv_aload_n hx hb dX8_init_75 rfl (lv_at hl 0 rfl) ?_
  obtain ⟨hb1, hb2, h⟩ := h
  refine fw_new (ci := 8) (fs := [.null, .null]) (C := RX5) (T := TX5) (N := 2) hx hb hts hin_X5 tyX5 tyX5_ok hown (hts (.classLink RX8 42 RX5) (by decide +kernel)) (hts (.instantiable RX5 2) (by decide +kernel)) (hts (.initialized RX5) (by decide +kernel)) hK hF hS hA rfl (fun j hj => by rcases (show j = 0 ∨ j = 1 by omega) with rfl | rfl <;> rfl) (by show _ ≤ mc; omega) (by show _ ≤ ms; omega) dX8_init_76 (fun q_61 H hn_q_61 hF hS => ?_)
  obtain ⟨f_62, hf_f_62⟩ : ∃ z, z = fup f_60 q_61 (.inr (8, [.null, .null])) := ⟨_, rfl⟩
  rw [← hf_f_62] at hF; have h := h q_61 hn_q_61 f_62 hf_f_62
  obtain ⟨cs_63, hcs⟩ : ∃ z, z = (cs_51 + 1) := ⟨_, rfl⟩; obtain ⟨sl_64, hsl⟩ : ∃ z, z = (sl_52 + 2) := ⟨_, rfl⟩
  have hbc : cs_63 + (((((((((mc - 1) - ga_7) - 1) - ga_19) - 1) - ga_31) - 1) - 1) - 1) ≤ mc := by omega
  have hbs : sl_64 + (((((((((ms - 8) - gb_8) - 8) - gb_20) - 1) - gb_32) - 4) - 3) - 2) ≤ ms := by omega
  refine W.widen (k := cs_63) (n := sl_64) (by omega) (by omega) ?_
  clear hcs hsl
  refine lv_dup hx hb dX8_init_79 rfl ?_
  obtain ⟨ga_67, gb_68, hga_ga_67, hgb_ga_67, h⟩ := h
  refine fw_cIN_v (As := []) (rest := [.ref q_61, .ref a0]) ⟨hx, hb, hml, hown, hts⟩ (cc_X5_init l G hzd h) (⟨va_cnB 0 hts ggX8_init_X5_init rfl rfl rfl (hZ.2.1 (.methodLinkNest RX8 44 yX5_init "FrontCodedIndex") (by decide +kernel)) (hts (.initialized RX5) (by decide +kernel)) (by decide +kernel) ⟨Nat.le_of_ble_eq_true rfl, Nat.le_of_ble_eq_true rfl⟩, rfl, hts (.instanceMethod yX5_init) (by decide +kernel)⟩) hK hZ hF hS hA rfl hl.1 rfl (Nat.le_of_ble_eq_true rfl) dX8_init_80 ⟨by show _ ≤ mc; omega, by show _ ≤ ms; omega⟩ (fun f_66 H locs h hF hS => ?_)
  obtain ⟨cs_69, hcs⟩ : ∃ z, z = (cs_63 + ga_67) := ⟨_, rfl⟩; obtain ⟨sl_70, hsl⟩ : ∃ z, z = (sl_64 + gb_68) := ⟨_, rfl⟩
  have hbc : cs_69 + ((((((((((mc - 1) - ga_7) - 1) - ga_19) - 1) - ga_31) - 1) - 1) - 1) - ga_67) ≤ mc := by omega
  have hbs : sl_70 + ((((((((((ms - 8) - gb_8) - 8) - gb_20) - 1) - gb_32) - 4) - 3) - 2) - gb_68) ≤ ms := by omega
  refine W.widen (k := cs_69) (n := sl_70) (by omega) (by omega) ?_
  clear hcs hsl
  obtain ⟨fs_71, he_fs_71, hl_fs_71, h⟩ := h
  refine fw_putF (v := .ref q_61) (ty := (.object "FrontCodedIndex$LoadList")) (C := RX8) (T := TX8) (N := 9) hx hb hts hin_X8 tyX8 (tyX8_ok) nmX8 hown hK hF hS he_fs_71 rfl 5 (by decide) (hts (.fieldLink RX8 45 "FrontCodedIndex" "loadList" "LFrontCodedIndex$LoadList;") (by decide +kernel)) (fun _ h9 => h9) rfl hin rfl (by decide +kernel) rfl rfl hl_fs_71 dX8_init_83 (fun H locs hF hS => ?_)
  obtain ⟨f_72, hf_f_72⟩ : ∃ z, z = fup f_66 a0 (.inr (11, fs_71.set 5 (.ref q_61))) := ⟨_, rfl⟩
  rw [← hf_f_72] at hF; have h := h f_72 hf_f_72
  refine lv_aload_n hx hb dX8_init_86 rfl (lv_at hl 0 rfl) ?_
  refine lv_iconst (v := (0 : Int32)) hx hb dX8_init_87 (by decide) ?_
  obtain ⟨fs_73, he_fs_73, hl_fs_73, h⟩ := h
  refine fw_put (v := .int (0 : Int32)) (ty := .boolean) (C := RX8) (T := TX8) (N := 9) hx hb hts hin_X8 tyX8 (tyX8_ok) nmX8 hown hK hF hS he_fs_73 rfl 6 (by decide) (hts (.fieldLink RX8 49 "FrontCodedIndex" "snapshotSaved" "Z") (by decide +kernel)) (fun _ h9 => h9) rfl (by decide +kernel) rfl rfl hl_fs_73 dX8_init_88 (fun H locs hF hS => ?_)
  obtain ⟨f_74, hf_f_74⟩ : ∃ z, z = fup f_72 a0 (.inr (11, fs_73.set 6 (.int (0 : Int32)))) := ⟨_, rfl⟩
  rw [← hf_f_74] at hF; have h := h f_74 hf_f_74
  refine lv_aload_n hx hb dX8_init_91 rfl (lv_at hl 0 rfl) ?_
  obtain ⟨hb1, hb2, h⟩ := h
  refine fw_new (ci := 6) (fs := [.null]) (C := RX3) (T := TX3) (N := 1) hx hb hts hin_X3 tyX3 tyX3_ok hown (hts (.classLink RX8 53 RX3) (by decide +kernel)) (hts (.instantiable RX3 1) (by decide +kernel)) (hts (.initialized RX3) (by decide +kernel)) hK hF hS hA rfl (fun j hj => by rcases (show j = 0 by omega) with rfl <;> rfl) (by show _ ≤ mc; omega) (by show _ ≤ ms; omega) dX8_init_92 (fun q_75 H hn_q_75 hF hS => ?_)
  obtain ⟨f_76, hf_f_76⟩ : ∃ z, z = fup f_74 q_75 (.inr (6, [.null])) := ⟨_, rfl⟩
  rw [← hf_f_76] at hF; have h := h q_75 hn_q_75 f_76 hf_f_76
  obtain ⟨cs_77, hcs⟩ : ∃ z, z = (cs_69 + 1) := ⟨_, rfl⟩; obtain ⟨sl_78, hsl⟩ : ∃ z, z = (sl_70 + 1) := ⟨_, rfl⟩
  have hbc : cs_77 + (((((((((((mc - 1) - ga_7) - 1) - ga_19) - 1) - ga_31) - 1) - 1) - 1) - ga_67) - 1) ≤ mc := by omega
  have hbs : sl_78 + (((((((((((ms - 8) - gb_8) - 8) - gb_20) - 1) - gb_32) - 4) - 3) - 2) - gb_68) - 1) ≤ ms := by omega
  refine W.widen (k := cs_77) (n := sl_78) (by omega) (by omega) ?_
  clear hcs hsl
  refine lv_dup hx hb dX8_init_95 rfl ?_
  refine lv_iconst (v := (0 : Int32)) hx hb dX8_init_96 (by decide) ?_
  obtain ⟨hb0, n_81, hN, hb1, hb2, hb3, h⟩ := h
  refine fw_newa (atype := .byte) (a0 := (n_81, .inl fun _ => 0)) hx hb (hts (.arrayClass .byte) (by decide +kernel)) (ty := .byte) rfl 0 rfl va_RA_byte hK hF hS hA (fun cA => rfl) hb0 hN (by show _ * 1 ≤ _; omega) (by show _ ≤ mc; omega) (by show _ ≤ ms; omega) dX8_init_97 (fun q_79 H hn_q_79 hF hS => ?_)
  obtain ⟨f_80, hf_f_80⟩ : ∃ z, z = fup f_76 q_79 (.inl (0, (n_81, .inl fun _ => 0))) := ⟨_, rfl⟩
  rw [← hf_f_80] at hF; have h := h q_79 hn_q_79 f_80 hf_f_80
  obtain ⟨cs_82, hcs⟩ : ∃ z, z = (cs_77 + 1) := ⟨_, rfl⟩; obtain ⟨sl_83, hsl⟩ : ∃ z, z = (sl_78 + n_81) := ⟨_, rfl⟩
  have hbc : cs_82 + ((((((((((((mc - 1) - ga_7) - 1) - ga_19) - 1) - ga_31) - 1) - 1) - 1) - ga_67) - 1) - 1) ≤ mc := by omega
  have hbs : sl_83 + ((((((((((((ms - 8) - gb_8) - 8) - gb_20) - 1) - gb_32) - 4) - 3) - 2) - gb_68) - 1) - n_81) ≤ ms := by omega
  refine W.widen (k := cs_82) (n := sl_83) (by omega) (by omega) ?_
  clear hcs hsl
  refine fw_cI_v (As := [.ref q_79]) (rest := [.ref q_75, .ref a0]) ⟨hx, hb, hml, hown, hts⟩ (cc_X3_init l G h) (⟨callB_of 1 hts ggX8_init_X3_init rfl rfl rfl (hts (.initialized RX3) (by decide +kernel)) (hts (.methodLink RX8 55 yX3_init) (by decide +kernel)) (by decide +kernel) ⟨Nat.le_of_ble_eq_true rfl, Nat.le_of_ble_eq_true rfl⟩, rfl, hts (.instanceMethod yX3_init) (by decide +kernel)⟩) hK hZ hF hS hA rfl hl.1 rfl (Nat.le_of_ble_eq_true rfl) dX8_init_99 ⟨by show _ ≤ mc; omega, by show _ ≤ ms; omega⟩ (fun f_85 H locs h hF hS => ?_)
  simp only [Nat.add_zero]
  obtain ⟨fs_86, he_fs_86, hl_fs_86, h⟩ := h
  refine fw_put (v := .ref q_75) (ty := (.object "FrontCodedIndex$Key")) (C := RX8) (T := TX8) (N := 9) hx hb hts hin_X8 tyX8 (tyX8_ok) nmX8 hown hK hF hS he_fs_86 rfl 7 (by decide) (hts (.fieldLink RX8 58 "FrontCodedIndex" "key" "LFrontCodedIndex$Key;") (by decide +kernel)) (fun _ h9 => h9) rfl (by decide +kernel) rfl rfl hl_fs_86 dX8_init_102 (fun H locs hF hS => ?_)
  obtain ⟨f_87, hf_f_87⟩ : ∃ z, z = fup f_85 a0 (.inr (11, fs_86.set 7 (.ref q_75))) := ⟨_, rfl⟩
  rw [← hf_f_87] at hF; have h := h f_87 hf_f_87
  refine lv_aload_n hx hb dX8_init_105 rfl (lv_at hl 0 rfl) ?_
  refine lv_aload_n hx hb dX8_init_106 rfl (lv_at hl 0 rfl) ?_
  obtain ⟨fs_89, a_88, he_fs_89, hv_fs_89, h⟩ := h
  refine fw_get (C := RX8) (T := TX8) (N := 9) hx hb hts hin_X8 hown hK hF he_fs_89 rfl 7 (by decide) (hts (.fieldLink RX8 58 "FrontCodedIndex" "key" "LFrontCodedIndex$Key;") (by decide +kernel)) (fun _ h9 => h9) hv_fs_89 dX8_init_107 ?_
  obtain ⟨fs_90, he_fs_90, hl_fs_90, h⟩ := h
  refine fw_put (v := .ref a_88) (ty := (.object "FrontCodedIndex$Key")) (C := RX8) (T := TX8) (N := 9) hx hb hts hin_X8 tyX8 (tyX8_ok) nmX8 hown hK hF hS he_fs_90 rfl 8 (by decide) (hts (.fieldLink RX8 62 "FrontCodedIndex" "bound" "LFrontCodedIndex$Key;") (by decide +kernel)) (fun _ h9 => h9) rfl (by decide +kernel) rfl rfl hl_fs_90 dX8_init_110 (fun H locs hF hS => ?_)
  obtain ⟨f_91, hf_f_91⟩ : ∃ z, z = fup f_87 a0 (.inr (11, fs_90.set 8 (.ref a_88))) := ⟨_, rfl⟩
  rw [← hf_f_91] at hF; have h := h f_91 hf_f_91
  refine W.widen (k := mc) (n := ms) (by omega) (by omega) ?_
  exact W.vret hx hb hr (fun t ht hW => ⟨⟨f_91, rfl, h, by rw [ht]; exact hF, FK.moved hW.alike hK⟩, hS.F ht⟩) hS.2.2 dX8_init_113
theorem dX8_load_0 : decode cX8_load 0 = .ok (.iload_n 1, 1) := by decide +kernel
theorem dX8_load_1 : decode cX8_load 1 = .ok (.bipush 40, 2) := by decide +kernel
theorem dX8_load_3 : decode cX8_load 3 = .ok (.if_icmp .lt 9, 3) := by decide +kernel
theorem dX8_load_6 : decode cX8_load 6 = .ok (.iload_n 1, 1) := by decide +kernel
theorem dX8_load_7 : decode cX8_load 7 = .ok (.bipush 100, 2) := by decide +kernel
theorem dX8_load_9 : decode cX8_load 9 = .ok (.if_icmp .le 13, 3) := by decide +kernel
theorem dX8_load_12 : decode cX8_load 12 = .ok (.new 65, 3) := by decide +kernel
theorem dX8_load_15 : decode cX8_load 15 = .ok (.dup, 1) := by decide +kernel
theorem dX8_load_16 : decode cX8_load 16 = .ok (.ldc 254, 2) := by decide +kernel
theorem dX8_load_18 : decode cX8_load 18 = .ok (.invokespecial 69, 3) := by decide +kernel
theorem dX8_load_21 : decode cX8_load 21 = .ok (.athrow, 1) := by decide +kernel
theorem dX8_load_22 : decode cX8_load 22 = .ok (.aload_n 0, 1) := by decide +kernel
theorem dX8_load_23 : decode cX8_load 23 = .ok (.getfield 45, 3) := by decide +kernel
theorem dX8_load_26 : decode cX8_load 26 = .ok (.aload_n 0, 1) := by decide +kernel
theorem dX8_load_27 : decode cX8_load 27 = .ok (.getfield 10, 3) := by decide +kernel
theorem dX8_load_30 : decode cX8_load 30 = .ok (.aload_n 0, 1) := by decide +kernel
theorem dX8_load_31 : decode cX8_load 31 = .ok (.getfield 10, 3) := by decide +kernel
theorem dX8_load_34 : decode cX8_load 34 = .ok (.getfield 116, 3) := by decide +kernel
theorem dX8_load_37 : decode cX8_load 37 = .ok (.iload_n 1, 1) := by decide +kernel
theorem dX8_load_38 : decode cX8_load 38 = .ok (.imul, 1) := by decide +kernel
theorem dX8_load_39 : decode cX8_load 39 = .ok (.bipush 100, 2) := by decide +kernel
theorem dX8_load_41 : decode cX8_load 41 = .ok (.idiv, 1) := by decide +kernel
theorem dX8_load_42 : decode cX8_load 42 = .ok (.invokevirtual 256, 3) := by decide +kernel
theorem dX8_load_45 : decode cX8_load 45 = .ok (.aload_n 0, 1) := by decide +kernel
theorem dX8_load_46 : decode cX8_load 46 = .ok (.getfield 45, 3) := by decide +kernel
theorem dX8_load_49 : decode cX8_load 49 = .ok (.invokevirtual 260, 3) := by decide +kernel
theorem dX8_load_52 : decode cX8_load 52 = .ok (.aload_n 0, 1) := by decide +kernel
theorem dX8_load_53 : decode cX8_load 53 = .ok (.getfield 22, 3) := by decide +kernel
theorem dX8_load_56 : decode cX8_load 56 = .ok (.invokevirtual 263, 3) := by decide +kernel
theorem dX8_load_59 : decode cX8_load 59 = .ok (.aload_n 0, 1) := by decide +kernel
theorem dX8_load_60 : decode cX8_load 60 = .ok (.getfield 10, 3) := by decide +kernel
theorem dX8_load_63 : decode cX8_load 63 = .ok (.invokevirtual 205, 3) := by decide +kernel
theorem dX8_load_66 : decode cX8_load 66 = .ok (.ireturn, 1) := by decide +kernel
set_option maxRecDepth 20000 in
theorem ggX8_load_X0_closeAll : GoodIn wsX8_load wsX0_closeAll := goodIn_r _ [245, 246, 247, 248, 82, 249, 282] (by decide +kernel) (by decide +kernel)
set_option maxRecDepth 20000 in
theorem ggX8_load_X5_build : GoodIn wsX8_load wsX5_build := goodIn_r _ [10, 11, 12, 13, 14, 15, 16, 17, 18, 19, 20, 21, 22, 23, 24, 25, 26, 27, 28, 29, 30, 31, 32, 33, 34, 35, 36, 37, 38, 39, 40, 41, 42, 43, 44, 45, 46, 47, 48, 49, 50, 51, 52, 53, 54, 55, 56, 57, 58, 59, 60, 61, 62, 63, 64, 65, 66, 67, 68, 69, 70, 71, 72, 73, 74, 75, 76, 77, 78, 79, 80, 81, 82, 83, 84, 85, 86, 87, 88, 89, 90, 91, 92, 93, 94, 95, 96, 97, 98, 99, 100, 101, 102, 103, 104, 105, 106, 107, 108, 109, 110, 111, 112, 113, 114, 115, 116, 117, 118, 119, 120, 121, 122, 123, 124, 125, 126, 127, 128, 129, 130, 131, 132, 133, 134, 135, 136, 137, 138, 139, 9, 140, 141, 142, 143, 144, 145, 146, 147, 148, 149, 150, 151, 152, 153, 154, 155, 156, 157, 158, 159, 160, 161, 162, 163, 164, 165, 166, 167, 168, 169, 170, 171, 172, 173, 174, 175, 176, 177, 178, 179, 180, 181, 182, 183, 184, 185, 186, 187, 188, 189, 190, 191, 192, 193, 194, 195, 196, 197, 198, 199, 200, 201, 202, 203, 204, 205, 206, 207, 208, 209, 210, 211, 212, 213, 214, 215, 216, 217, 218, 219, 220, 221, 222, 223, 224, 225, 226, 227, 228, 229, 230, 231, 232, 233, 234, 235, 264, 265, 266, 267, 268, 269, 270, 271, 272, 273, 274, 275, 276, 277, 278, 279, 280, 281] (by decide +kernel) (by decide +kernel)
set_option maxRecDepth 20000 in
theorem ggX8_load_X5_empty : GoodIn wsX8_load wsX5_empty := goodIn_r _ [239, 11, 12, 129, 130, 131, 16, 132, 18, 20, 21, 22, 23, 24, 25, 26, 27, 28, 240, 165, 166, 103, 167, 105, 272, 273, 274, 275, 276, 277, 278, 279, 280] (by decide +kernel) (by decide +kernel)
set_option maxRecDepth 20000 in
theorem ggX8_load_X7_allPages : GoodIn wsX8_load wsX7_allPages := goodIn_r _ [253, 146, 254, 197, 198, 144, 199, 157, 158, 159, 160, 147, 161, 162, 150, 30, 31, 23, 32, 28, 163, 34, 35, 36, 37, 38, 39, 40, 41, 42, 43, 44, 45, 46, 47, 48, 27, 200, 201, 202, 103, 203, 105, 264, 265, 266, 267, 268, 269, 270, 271, 276, 277, 278, 279, 280] (by decide +kernel) (by decide +kernel)
def wp_X8_load (zd : Nat) (a0 : Nat) (x1 : Int32) (f : FT) (mc ms : Nat) (K : Int32 → FT → Prop) (KX : String → FT → Prop) : Prop :=
  ((x1 < (40 : Int32) → 1 ≤ mc ∧ 6 ≤ ms ∧ KX "java/lang/IllegalArgumentException" f) ∧
 (¬ (x1 < (40 : Int32)) → ((x1 ≤ (100 : Int32) → gA f a0 11 5 fun a_3 => gA f a0 11 0 fun a_5 => gA f a0 11 0 fun a_7 => gI f a_7 10 7 fun v_9 => (¬ (100 : Int32) = 0) ∧ ∃ ga_13 gb_14 : Nat, ga_13 ≤ mc ∧ gb_14 ≤ ms ∧ isO f a_3 8 ∧ wp_X5_build zd a_3 a_5 ((v_9 * x1) / (100 : Int32)) f ga_13 gb_14 (fun f_12 => gA f_12 a0 11 5 fun a_17 => isO f_12 a_17 8 ∧ wp_X5_empty a_17 f_12 (fun f_20 => gA f_20 a0 11 2 fun a_21 => isO f_20 a_21 3 ∧ wp_X0_closeAll a_21 f_20 (fun f_24 => gA f_24 a0 11 0 fun a_25 => isO f_24 a_25 10 ∧ wp_X7_allPages a_25 f_24 (fun r_27 => K r_27 f_24))))) ∧
 (¬ (x1 ≤ (100 : Int32)) → 1 ≤ mc ∧ 6 ≤ ms ∧ KX "java/lang/IllegalArgumentException" f))))
set_option maxHeartbeats 4000000 in
set_option maxRecDepth 100000 in
theorem cc_X8_load (l : Launch) (G : GG) {zd : Nat} (hzd : G.2.2 0 = zd) {f : FT} {sz : Nat} {a0 : Nat} {x1 : Int32} {mc ms : Nat} {K : Int32 → FT → Prop} {KX : String → FT → Prop} (hlt : l.stackTraces = false) (h : wp_X8_load zd a0 x1 f mc ms K KX) : vx_Met l yX8_load wsX8_load ({ frames := 10, cells := mc, slots := ms, locals := 243 } : Room) (FPX G [.ref a0, .int x1] f sz) (va_Qi (fun r f9 => K r f9 : Int32 → FT → Prop) (FB G (fA f sz)) (fA f sz)) (FXC G (fA f sz) KX) mc ms (fA f sz) := by
  refine vx_ofW (cc := cX8_load) (maxL := 2) (ret := (some .int)) (by decide) rfl ?_
  intro p e s m args below meth c s₁ B hml hxt hv
  obtain ⟨rfl, hsz, hF, hK, hZ, hX⟩ := hv
  have hx := B.exec
  have hb := B.bytes
  have hr := B.returns
  have hts := atoms_spec (ws := wsX8_load) B.pre
  have hown : s.vm.findClass RX8 = some m.cls := findClass_of_methodNamed B.named
  have hlocks := B.notSynchronized
  subst hsz
  have hF := hF.self (sz := s.heap.size)
  generalize hAe : fA f s.heap.size = A at hF hZ hX ⊢
  have hA : ∀ q : Nat, s.heap.size ≤ q → A q := fun q h => by rw [← hAe]; exact Or.inr h
  have hS : va_S A s.heap s.heap [] := va_S.rf
  have hZ9 : va_Z "java/util/ArrayList" "DEFAULTCAPACITY_EMPTY_ELEMENTDATA" "[Ljava/lang/Object;" (.ref zd) A s s.heap := by rw [← hzd]; exact hZ.1
  have hin_X7 : ∀ w ∈ wsX70, w ∈ wsX8_load := by decide +kernel
  have hin_X8 : ∀ w ∈ wsX80, w ∈ wsX8_load := by decide +kernel
  have hbc : 0 + mc ≤ mc := by omega
  have hbs : 0 + ms ≤ ms := by omega
  have hl := lv_entry ([.ref a0, .int x1]) (n := 2) (Nat.le_of_ble_eq_true rfl)
  rw [lg_entry_eq]
  generalize (lg_sl ([.ref a0, .int x1]) ++ List.replicate (2 - (lg_sl ([.ref a0, .int x1])).length) Slot.unset).toArray = ls at hl ⊢
  have hl : lv_has ls 2 [(0, .ref a0), (1, .int x1)] := hl
  unfold wp_X8_load at h
  refine lv_iload_n hx hb dX8_load_0 rfl (lv_at hl 1 rfl) ?_
  refine lv_bipush (v := (40 : Int32)) hx hb dX8_load_1 (by decide) ?_
  obtain ⟨h1, h2⟩ := h
  refine lv_icmp_lt (tgt := 12) hx hb dX8_load_3 (by decide) (fun c_1 => ?_) (fun c_1 => ?_)
  · have h := h1 c_1
    obtain ⟨hb1, hb2, h⟩ := h
    refine vx_throwS hx hb hlt (own := RX8) (cls := "java/lang/IllegalArgumentException") (text := "a fill factor is from 40 to 100") (names := ["java/lang/RuntimeException", "java/lang/Exception"]) (ik := 65) (is := 254) (ic := 69) (sa := G.2.2 (100 + 254)) (A := A) hown (by decide) (by decide) (hts (.classLink RX8 65 "java/lang/IllegalArgumentException") (by decide +kernel)) (hts (.initialized "java/lang/IllegalArgumentException") (by decide +kernel)) (hX.1 (254, "a fill factor is from 40 to 100") (by decide +kernel)) (vx_hat (B := thrB) (fun w hw => hts w ((by decide +kernel : ∀ w ∈ (vx_atS RX8 69 "java/lang/IllegalArgumentException" ["java/lang/RuntimeException", "java/lang/Exception"]).filter goodWord, w ∈ wsX8_load) w hw)) (by decide +kernel) (fun w hw => va_Nw.use (thrB_tab w hw) (hX.2.1 w hw))) (by decide +kernel) hX.2.2.1 hX.2.2.2 hS (hl.1.trans hml.symm) dX8_load_12 dX8_load_15 dX8_load_16 dX8_load_18 dX8_load_21 (fun x hx => (hxt x hx).elim) (Nat.le_of_ble_eq_true rfl) (Nat.le_of_ble_eq_true rfl) (by show _ ≤ mc; omega) (by show _ ≤ ms; omega) hlocks (fun t hvm hz hk => ⟨(f, "java/lang/IllegalArgumentException"), h, ⟨rfl, hF.kept (fun q e9 he9 => hk q (hF.in he9).2), FK.moved hvm hK⟩, ⟨Nat.le_trans hS.1 hz, fun q h1 h2 => (hk q (Nat.lt_of_lt_of_le h1 hS.1)).trans (hS.2.1 q h1 h2)⟩⟩) hS.2.2 (by omega) (by omega)
  · have h := h2 c_1
    refine lv_iload_n hx hb dX8_load_6 rfl (lv_at hl 1 rfl) ?_
    refine lv_bipush (v := (100 : Int32)) hx hb dX8_load_7 (by decide) ?_
    obtain ⟨h1, h2⟩ := h
    refine lv_icmp_le (tgt := 22) hx hb dX8_load_9 (by decide) (fun c_2 => ?_) (fun c_2 => ?_)
    · have h := h1 c_2
      refine lv_aload_n hx hb dX8_load_22 rfl (lv_at hl 0 rfl) ?_
      obtain ⟨fs_4, a_3, he_fs_4, hv_fs_4, h⟩ := h
      refine fw_get (C := RX8) (T := TX8) (N := 9) hx hb hts hin_X8 hown hK hF he_fs_4 rfl 5 (by decide) (hts (.fieldLink RX8 45 "FrontCodedIndex" "loadList" "LFrontCodedIndex$LoadList;") (by decide +kernel)) (fun _ h9 => h9) hv_fs_4 dX8_load_23 ?_
      refine lv_aload_n hx hb dX8_load_26 rfl (lv_at hl 0 rfl) ?_
      obtain ⟨fs_6, a_5, he_fs_6, hv_fs_6, h⟩ := h
      refine fw_get (C := RX8) (T := TX8) (N := 9) hx hb hts hin_X8 hown hK hF he_fs_6 rfl 0 (by decide) (hts (.fieldLink RX8 10 "FrontCodedIndex" "tree" "LFrontCodedIndex$Tree;") (by decide +kernel)) (fun _ h9 => h9) hv_fs_6 dX8_load_27 ?_
      refine lv_aload_n hx hb dX8_load_30 rfl (lv_at hl 0 rfl) ?_
      obtain ⟨fs_8, a_7, he_fs_8, hv_fs_8, h⟩ := h
      refine fw_get (C := RX8) (T := TX8) (N := 9) hx hb hts hin_X8 hown hK hF he_fs_8 rfl 0 (by decide) (hts (.fieldLink RX8 10 "FrontCodedIndex" "tree" "LFrontCodedIndex$Tree;") (by decide +kernel)) (fun _ h9 => h9) hv_fs_8 dX8_load_31 ?_
      obtain ⟨fs_10, v_9, he_fs_10, hv_fs_10, h⟩ := h
      refine fw_getN (C := RX7) (T := TX7) (N := 8) hx hb hts hin_X7 hown hK hF he_fs_10 rfl 7 (by decide) (va_Nw.use rfl (hZ.2.1 (.fieldLinkNest RX8 116 "FrontCodedIndex$Tree" "capacity" "I" "FrontCodedIndex") (by decide +kernel))) (fun _ h9 => h9) hv_fs_10 dX8_load_34 ?_
      refine lv_iload_n hx hb dX8_load_37 rfl (lv_at hl 1 rfl) ?_
      refine lv_imul hx hb dX8_load_38 ?_
      refine lv_bipush (v := (100 : Int32)) hx hb dX8_load_39 (by decide) ?_
      obtain ⟨hne, h⟩ := h
      refine lv_idiv hx hb dX8_load_41 hne ?_
      obtain ⟨ga_13, gb_14, hga_ga_13, hgb_ga_13, h⟩ := h
      obtain ⟨⟨fs_u_11, hrc_u_11⟩, h⟩ := h
      refine fw_cV_v (As := [.ref a_5, .int ((v_9 * x1) / (100 : Int32))]) (rest := []) ⟨hx, hb, hml, hown, hts⟩ (cc_X5_build l G hzd h) (⟨callB_of 2 hts ggX8_load_X5_build rfl rfl rfl (hts (.initialized RX5) (by decide +kernel)) (hts (.methodLink RX8 256 yX5_build) (by decide +kernel)) (by decide +kernel) ⟨Nat.le_of_ble_eq_true rfl, Nat.le_of_ble_eq_true rfl⟩, hts (.instanceMethod yX5_build) (by decide +kernel), hts (.selects RX5 yX5_build yX5_build) (by decide +kernel)⟩) rfl hrc_u_11 hK hZ hF hS hA rfl hl.1 rfl (Nat.le_of_ble_eq_true rfl) dX8_load_42 ⟨by show _ ≤ mc; omega, by show _ ≤ ms; omega⟩ (fun f_12 H locs h hF hS => ?_)
      obtain ⟨cs_15, hcs⟩ : ∃ z, z = (0 + ga_13) := ⟨_, rfl⟩; obtain ⟨sl_16, hsl⟩ : ∃ z, z = (0 + gb_14) := ⟨_, rfl⟩
      have hbc : cs_15 + (mc - ga_13) ≤ mc := by omega
      have hbs : sl_16 + (ms - gb_14) ≤ ms := by omega
      refine W.widen (k := cs_15) (n := sl_16) (by omega) (by omega) ?_
      clear hcs hsl
      refine lv_aload_n hx hb dX8_load_45 rfl (lv_at hl 0 rfl) ?_
      obtain ⟨fs_18, a_17, he_fs_18, hv_fs_18, h⟩ := h
      refine fw_get (C := RX8) (T := TX8) (N := 9) hx hb hts hin_X8 hown hK hF he_fs_18 rfl 5 (by decide) (hts (.fieldLink RX8 45 "FrontCodedIndex" "loadList" "LFrontCodedIndex$LoadList;") (by decide +kernel)) (fun _ h9 => h9) hv_fs_18 dX8_load_46 ?_
      obtain ⟨⟨fs_u_19, hrc_u_19⟩, h⟩ := h
      refine fw_cV_v (As := []) (rest := []) ⟨hx, hb, hml, hown, hts⟩ (cc_X5_empty l G h) (⟨callB_of 0 hts ggX8_load_X5_empty rfl rfl rfl (hts (.initialized RX5) (by decide +kernel)) (hts (.methodLink RX8 260 yX5_empty) (by decide +kernel)) (by decide +kernel) ⟨Nat.le_of_ble_eq_true rfl, Nat.le_of_ble_eq_true rfl⟩, hts (.instanceMethod yX5_empty) (by decide +kernel), hts (.selects RX5 yX5_empty yX5_empty) (by decide +kernel)⟩) rfl hrc_u_19 hK hZ hF hS hA rfl hl.1 rfl (Nat.le_of_ble_eq_true rfl) dX8_load_49 ⟨by show _ ≤ mc; omega, by show _ ≤ ms; omega⟩ (fun f_20 H locs h hF hS => ?_)
      simp only [Nat.add_zero]
      refine lv_aload_n hx hb dX8_load_52 rfl (lv_at hl 0 rfl) ?_
      obtain ⟨fs_22, a_21, he_fs_22, hv_fs_22, h⟩ := h
      refine fw_get (C := RX8) (T := TX8) (N := 9) hx hb hts hin_X8 hown hK hF he_fs_22 rfl 2 (by decide) (hts (.fieldLink RX8 22 "FrontCodedIndex" "cursors" "LFrontCodedIndex$Cursors;") (by decide +kernel)) (fun _ h9 => h9) hv_fs_22 dX8_load_53 ?_
      obtain ⟨⟨fs_u_23, hrc_u_23⟩, h⟩ := h
      refine fw_cV_v (As := []) (rest := []) ⟨hx, hb, hml, hown, hts⟩ (cc_X0_closeAll l G h) (⟨callB_of 0 hts ggX8_load_X0_closeAll rfl rfl rfl (hts (.initialized RX0) (by decide +kernel)) (hts (.methodLink RX8 263 yX0_closeAll) (by decide +kernel)) (by decide +kernel) ⟨Nat.le_of_ble_eq_true rfl, Nat.le_of_ble_eq_true rfl⟩, hts (.instanceMethod yX0_closeAll) (by decide +kernel), hts (.selects RX0 yX0_closeAll yX0_closeAll) (by decide +kernel)⟩) rfl hrc_u_23 hK hZ hF hS hA rfl hl.1 rfl (Nat.le_of_ble_eq_true rfl) dX8_load_56 ⟨by show _ ≤ mc; omega, by show _ ≤ ms; omega⟩ (fun f_24 H locs h hF hS => ?_)
      simp only [Nat.add_zero]
      refine lv_aload_n hx hb dX8_load_59 rfl (lv_at hl 0 rfl) ?_
      obtain ⟨fs_26, a_25, he_fs_26, hv_fs_26, h⟩ := h
      refine fw_get (C := RX8) (T := TX8) (N := 9) hx hb hts hin_X8 hown hK hF he_fs_26 rfl 0 (by decide) (hts (.fieldLink RX8 10 "FrontCodedIndex" "tree" "LFrontCodedIndex$Tree;") (by decide +kernel)) (fun _ h9 => h9) hv_fs_26 dX8_load_60 ?_
      obtain ⟨⟨fs_r_27, hrc_r_27⟩, h⟩ := h
      refine fw_cV_i_p (As := []) (rest := []) ⟨hx, hb, hml, hown, hts⟩ (cc_X7_allPages l G h) (⟨callB_of 0 hts ggX8_load_X7_allPages rfl rfl rfl (hts (.initialized RX7) (by decide +kernel)) (hts (.methodLink RX8 205 yX7_allPages) (by decide +kernel)) (by decide +kernel) ⟨Nat.le_of_ble_eq_true rfl, Nat.le_of_ble_eq_true rfl⟩, hts (.instanceMethod yX7_allPages) (by decide +kernel), hts (.selects RX7 yX7_allPages yX7_allPages) (by decide +kernel)⟩) rfl hrc_r_27 hK hZ hF hS hA rfl hl.1 rfl (Nat.le_of_ble_eq_true rfl) dX8_load_63 ⟨by show _ ≤ mc; omega, by show _ ≤ ms; omega⟩ (fun r_27 H locs h hF hS => ?_)
      simp only [Nat.add_zero]
      refine vx_ret ?_
      refine W.widen (k := mc) (n := ms) (by omega) (by omega) ?_
      exact W.iret (v := r_27) hx hb hr (fun t ht hW => ⟨⟨r_27, f_24, rfl, h, by rw [ht]; exact hF, FK.moved hW.alike hK⟩, hS.F ht⟩) hS.2.2 dX8_load_66
    · have h := h2 c_2
      obtain ⟨hb1, hb2, h⟩ := h
      refine vx_throwS hx hb hlt (own := RX8) (cls := "java/lang/IllegalArgumentException") (text := "a fill factor is from 40 to 100") (names := ["java/lang/RuntimeException", "java/lang/Exception"]) (ik := 65) (is := 254) (ic := 69) (sa := G.2.2 (100 + 254)) (A := A) hown (by decide) (by decide) (hts (.classLink RX8 65 "java/lang/IllegalArgumentException") (by decide +kernel)) (hts (.initialized "java/lang/IllegalArgumentException") (by decide +kernel)) (hX.1 (254, "a fill factor is from 40 to 100") (by decide +kernel)) (vx_hat (B := thrB) (fun w hw => hts w ((by decide +kernel : ∀ w ∈ (vx_atS RX8 69 "java/lang/IllegalArgumentException" ["java/lang/RuntimeException", "java/lang/Exception"]).filter goodWord, w ∈ wsX8_load) w hw)) (by decide +kernel) (fun w hw => va_Nw.use (thrB_tab w hw) (hX.2.1 w hw))) (by decide +kernel) hX.2.2.1 hX.2.2.2 hS (hl.1.trans hml.symm) dX8_load_12 dX8_load_15 dX8_load_16 dX8_load_18 dX8_load_21 (fun x hx => (hxt x hx).elim) (Nat.le_of_ble_eq_true rfl) (Nat.le_of_ble_eq_true rfl) (by show _ ≤ mc; omega) (by show _ ≤ ms; omega) hlocks (fun t hvm hz hk => ⟨(f, "java/lang/IllegalArgumentException"), h, ⟨rfl, hF.kept (fun q e9 he9 => hk q (hF.in he9).2), FK.moved hvm hK⟩, ⟨Nat.le_trans hS.1 hz, fun q h1 h2 => (hk q (Nat.lt_of_lt_of_le h1 hS.1)).trans (hS.2.1 q h1 h2)⟩⟩) hS.2.2 (by omega) (by omega)
theorem dX8_occupancyBits_0 : decode cX8_occupancyBits 0 = .ok (.aload_n 0, 1) := by decide +kernel
theorem dX8_occupancyBits_1 : decode cX8_occupancyBits 1 = .ok (.getfield 10, 3) := by decide +kernel
theorem dX8_occupancyBits_4 : decode cX8_occupancyBits 4 = .ok (.iconst 0, 1) := by decide +kernel
theorem dX8_occupancyBits_5 : decode cX8_occupancyBits 5 = .ok (.invokevirtual 181, 3) := by decide +kernel
theorem dX8_occupancyBits_8 : decode cX8_occupancyBits 8 = .ok (.iconst 1, 1) := by decide +kernel
theorem dX8_occupancyBits_9 : decode cX8_occupancyBits 9 = .ok (.invokestatic 153, 3) := by decide +kernel
theorem dX8_occupancyBits_12 : decode cX8_occupancyBits 12 = .ok (.i2d, 1) := by decide +kernel
theorem dX8_occupancyBits_13 : decode cX8_occupancyBits 13 = .ok (.dstore_n 1, 1) := by decide +kernel
theorem dX8_occupancyBits_14 : decode cX8_occupancyBits 14 = .ok (.aload_n 0, 1) := by decide +kernel
theorem dX8_occupancyBits_15 : decode cX8_occupancyBits 15 = .ok (.getfield 10, 3) := by decide +kernel
theorem dX8_occupancyBits_18 : decode cX8_occupancyBits 18 = .ok (.getfield 116, 3) := by decide +kernel
theorem dX8_occupancyBits_21 : decode cX8_occupancyBits 21 = .ok (.iconst 1, 1) := by decide +kernel
theorem dX8_occupancyBits_22 : decode cX8_occupancyBits 22 = .ok (.invokestatic 153, 3) := by decide +kernel
theorem dX8_occupancyBits_25 : decode cX8_occupancyBits 25 = .ok (.i2d, 1) := by decide +kernel
theorem dX8_occupancyBits_26 : decode cX8_occupancyBits 26 = .ok (.dstore_n 3, 1) := by decide +kernel
theorem dX8_occupancyBits_27 : decode cX8_occupancyBits 27 = .ok (.aload_n 0, 1) := by decide +kernel
theorem dX8_occupancyBits_28 : decode cX8_occupancyBits 28 = .ok (.iconst 1, 1) := by decide +kernel
theorem dX8_occupancyBits_29 : decode cX8_occupancyBits 29 = .ok (.invokevirtual 202, 3) := by decide +kernel
theorem dX8_occupancyBits_32 : decode cX8_occupancyBits 32 = .ok (.i2d, 1) := by decide +kernel
theorem dX8_occupancyBits_33 : decode cX8_occupancyBits 33 = .ok (.ldc2_w 219, 3) := by decide +kernel
theorem dX8_occupancyBits_36 : decode cX8_occupancyBits 36 = .ok (.dmul, 1) := by decide +kernel
theorem dX8_occupancyBits_37 : decode cX8_occupancyBits 37 = .ok (.dload_n 1, 1) := by decide +kernel
theorem dX8_occupancyBits_38 : decode cX8_occupancyBits 38 = .ok (.ddiv, 1) := by decide +kernel
theorem dX8_occupancyBits_39 : decode cX8_occupancyBits 39 = .ok (.dload_n 3, 1) := by decide +kernel
theorem dX8_occupancyBits_40 : decode cX8_occupancyBits 40 = .ok (.ddiv, 1) := by decide +kernel
theorem dX8_occupancyBits_41 : decode cX8_occupancyBits 41 = .ok (.invokestatic 221, 3) := by decide +kernel
theorem dX8_occupancyBits_44 : decode cX8_occupancyBits 44 = .ok (.lreturn, 1) := by decide +kernel
set_option maxRecDepth 20000 in
theorem ggX8_occupancyBits_X7_pageTotal : GoodIn wsX8_occupancyBits wsX7_pageTotal := goodIn_r _ [11, 12, 13, 14, 10, 15, 16, 17, 18, 19, 20, 21, 22, 23, 24, 25, 26, 27, 28, 29, 30, 31, 32, 33, 34, 35, 36, 37, 38, 39, 40, 41, 42, 43, 44, 45, 46, 47, 115, 116, 117, 118, 119, 120, 121, 122, 123, 124, 125, 126, 127] (by decide +kernel) (by decide +kernel)
set_option maxRecDepth 20000 in
theorem ggX8_occupancyBits_X8_bitsOf : GoodIn wsX8_occupancyBits wsX8_bitsOf := goodIn_r _ [103, 104, 105] (by decide +kernel) (by decide +kernel)
set_option maxRecDepth 20000 in
theorem ggX8_occupancyBits_X8_bytesOfTiers : GoodIn wsX8_occupancyBits wsX8_bytesOfTiers := goodIn_r _ [52, 1, 7, 8, 9, 10, 11, 12, 13, 14, 15, 16, 17, 18, 19, 20, 21, 22, 23, 24, 25, 26, 27, 28, 29, 30, 31, 32, 33, 34, 35, 36, 37, 38, 39, 40, 41, 42, 43, 44, 45, 46, 47, 53, 54, 55, 56, 57, 58, 59, 60, 61, 62, 63, 64, 65, 66, 67, 68, 69, 70, 71, 72, 73, 74, 75, 76, 77, 78, 79, 80, 81, 82, 83, 84, 85, 86, 87, 88, 89, 90, 91, 92, 93, 94, 95, 96, 97, 98, 99, 100, 106, 107, 108, 109, 110, 111, 112, 113, 114, 115, 116, 117, 118, 119, 120, 121, 122, 123, 124, 125, 126, 127, 128, 129, 130] (by decide +kernel) (by decide +kernel)
def wp_X8_occupancyBits (a0 : Nat) (f : FT) (K : Int64 → Prop) : Prop :=
  gA f a0 11 0 fun a_1 => isO f a_1 10 ∧ wp_X7_pageTotal a_1 (0 : Int32) f (fun r_3 => ∀ v_4 : Int32, v_4 = (jmax r_3 (1 : Int32)) → ∀ v_5 : UInt64, v_5 = (FP.i2d v_4) → gA f a0 11 0 fun a_7 => gI f a_7 10 7 fun v_9 => ∀ v_11 : Int32, v_11 = (jmax v_9 (1 : Int32)) → ∀ v_12 : UInt64, v_12 = (FP.i2d v_11) → isO f a0 11 ∧ wp_X8_bytesOfTiers a0 (1 : Int32) f (fun r_14 => vf_n64 (FP.dmul (FP.i2d r_14) (4636737291354636288 : UInt64)) ∧ ∀ d_15 : UInt64, d_15 = (FP.dmul (FP.i2d r_14) (4636737291354636288 : UInt64)) → vf_n64 (FP.ddiv d_15 v_5) ∧ ∀ d_16 : UInt64, d_16 = (FP.ddiv d_15 v_5) → vf_n64 (FP.ddiv d_16 v_12) ∧ ∀ d_17 : UInt64, d_17 = (FP.ddiv d_16 v_12) → wp_X8_bitsOf d_17 f (fun r_18 => K r_18)))
set_option maxHeartbeats 4000000 in
set_option maxRecDepth 100000 in
theorem cc_X8_occupancyBits (l : Launch) (G : GG) {f : FT} {sz : Nat} {a0 : Nat} {K : Int64 → Prop} (h : wp_X8_occupancyBits a0 f K) : Met l yX8_occupancyBits wsX8_occupancyBits ({ frames := 8, cells := 0, slots := 0, locals := 185 } : Room) (FP G [.ref a0] f sz) (va_Ql (fun r f9 => K r ∧ f9 = f : Int64 → FT → Prop) (FB G (fA f sz)) (fA f sz)) 0 0 (fA f sz) := by
  refine Met.ofW (cc := cX8_occupancyBits) (maxL := 5) (ret := (some .long)) (by decide) rfl ?_
  intro p e s m args below meth c s₁ B hml hv
  obtain ⟨rfl, hsz, hF, hK, hZ⟩ := hv
  have hx := B.exec
  have hb := B.bytes
  have hr := B.returns
  have hts := atoms_spec (ws := wsX8_occupancyBits) B.pre
  have hown : s.vm.findClass RX8 = some m.cls := findClass_of_methodNamed B.named
  have hlocks := B.notSynchronized
  subst hsz
  have hF := hF.self (sz := s.heap.size)
  generalize hAe : fA f s.heap.size = A at hF hZ ⊢
  have hA : ∀ q : Nat, s.heap.size ≤ q → A q := fun q h => by rw [← hAe]; exact Or.inr h
  have hS : va_S A s.heap s.heap [] := va_S.rf
  have hin_X7 : ∀ w ∈ wsX70, w ∈ wsX8_occupancyBits := by decide +kernel
  have hin_X8 : ∀ w ∈ wsX80, w ∈ wsX8_occupancyBits := by decide +kernel
  have hl := lv_entry ([.ref a0]) (n := 5) (Nat.le_of_ble_eq_true rfl)
  rw [lg_entry_eq]
  generalize (lg_sl ([.ref a0]) ++ List.replicate (5 - (lg_sl ([.ref a0])).length) Slot.unset).toArray = ls at hl ⊢
  have hl : lv_has ls 5 [(0, .ref a0)] := hl
  unfold wp_X8_occupancyBits at h
  refine lv_aload_n hx hb dX8_occupancyBits_0 rfl (lv_at hl 0 rfl) ?_
  obtain ⟨fs_2, a_1, he_fs_2, hv_fs_2, h⟩ := h
  refine fw_get (C := RX8) (T := TX8) (N := 9) hx hb hts hin_X8 hown hK hF he_fs_2 rfl 0 (by decide) (hts (.fieldLink RX8 10 "FrontCodedIndex" "tree" "LFrontCodedIndex$Tree;") (by decide +kernel)) (fun _ h9 => h9) hv_fs_2 dX8_occupancyBits_1 ?_
  refine lv_iconst (v := (0 : Int32)) hx hb dX8_occupancyBits_4 (by decide) ?_
  obtain ⟨⟨fs_r_3, hrc_r_3⟩, h⟩ := h
  refine fw_cV_i_p (As := [.int (0 : Int32)]) (rest := []) ⟨hx, hb, hml, hown, hts⟩ (cc_X7_pageTotal l G h) (⟨callB_of 1 hts ggX8_occupancyBits_X7_pageTotal rfl rfl rfl (hts (.initialized RX7) (by decide +kernel)) (hts (.methodLink RX8 181 yX7_pageTotal) (by decide +kernel)) (by decide +kernel) ⟨Nat.le_of_ble_eq_true rfl, Nat.le_of_ble_eq_true rfl⟩, hts (.instanceMethod yX7_pageTotal) (by decide +kernel), hts (.selects RX7 yX7_pageTotal yX7_pageTotal) (by decide +kernel)⟩) rfl hrc_r_3 hK hZ hF hS hA rfl hl.1 rfl (Nat.le_of_ble_eq_true rfl) dX8_occupancyBits_5 ⟨Nat.zero_le _, Nat.zero_le _⟩ (fun r_3 H locs h hF hS => ?_)
  refine lv_iconst (v := (1 : Int32)) hx hb dX8_occupancyBits_8 (by decide) ?_
  refine va_mmax hx hb (hml.trans hl.1.symm) hown (hts (.methodLink RX8 153 Lib.Math.max.name) (by decide +kernel)) (hts (.static Lib.Math.max.name) (by decide +kernel)) (hts (.initialized "java/lang/Math") (by decide +kernel)) (hts (.code Lib.Math.max.name Lib.Math.max.code 2 (some .int)) (by decide +kernel)) (Nat.le_of_ble_eq_true rfl) (Nat.le_of_ble_eq_true rfl) (Nat.zero_le _) (Nat.zero_le _) dX8_occupancyBits_9 ?_
  refine lv_topi (fun v_4 e_v_4 => ?_)
  have h := h v_4 e_v_4
  refine lv_i2d hx hb dX8_occupancyBits_12 ?_
  refine lv_topd (fun v_5 e_6 => ?_)
  have h := h v_5 e_6
  refine lv_dstore_n (lv' := [(1, .double v_5), (0, .ref a0)]) hx hb dX8_occupancyBits_13 rfl hl (by decide) rfl (fun ls hl => ?_)
  refine lv_aload_n hx hb dX8_occupancyBits_14 rfl (lv_at hl 1 rfl) ?_
  obtain ⟨fs_8, a_7, he_fs_8, hv_fs_8, h⟩ := h
  refine fw_get (C := RX8) (T := TX8) (N := 9) hx hb hts hin_X8 hown hK hF he_fs_8 rfl 0 (by decide) (hts (.fieldLink RX8 10 "FrontCodedIndex" "tree" "LFrontCodedIndex$Tree;") (by decide +kernel)) (fun _ h9 => h9) hv_fs_8 dX8_occupancyBits_15 ?_
  obtain ⟨fs_10, v_9, he_fs_10, hv_fs_10, h⟩ := h
  refine fw_getN (C := RX7) (T := TX7) (N := 8) hx hb hts hin_X7 hown hK hF he_fs_10 rfl 7 (by decide) (va_Nw.use rfl (hZ.2.1 (.fieldLinkNest RX8 116 "FrontCodedIndex$Tree" "capacity" "I" "FrontCodedIndex") (by decide +kernel))) (fun _ h9 => h9) hv_fs_10 dX8_occupancyBits_18 ?_
  refine lv_iconst (v := (1 : Int32)) hx hb dX8_occupancyBits_21 (by decide) ?_
  refine va_mmax hx hb (hml.trans hl.1.symm) hown (hts (.methodLink RX8 153 Lib.Math.max.name) (by decide +kernel)) (hts (.static Lib.Math.max.name) (by decide +kernel)) (hts (.initialized "java/lang/Math") (by decide +kernel)) (hts (.code Lib.Math.max.name Lib.Math.max.code 2 (some .int)) (by decide +kernel)) (Nat.le_of_ble_eq_true rfl) (Nat.le_of_ble_eq_true rfl) (Nat.zero_le _) (Nat.zero_le _) dX8_occupancyBits_22 ?_
  refine lv_topi (fun v_11 e_v_11 => ?_)
  have h := h v_11 e_v_11
  refine lv_i2d hx hb dX8_occupancyBits_25 ?_
  refine lv_topd (fun v_12 e_13 => ?_)
  have h := h v_12 e_13
  refine lv_dstore_n (lv' := [(3, .double v_12), (1, .double v_5), (0, .ref a0)]) hx hb dX8_occupancyBits_26 rfl hl (by decide) rfl (fun ls hl => ?_)
  refine lv_aload_n hx hb dX8_occupancyBits_27 rfl (lv_at hl 2 rfl) ?_
  refine lv_iconst (v := (1 : Int32)) hx hb dX8_occupancyBits_28 (by decide) ?_
  obtain ⟨⟨fs_r_14, hrc_r_14⟩, h⟩ := h
  refine fw_cV_i_p (As := [.int (1 : Int32)]) (rest := []) ⟨hx, hb, hml, hown, hts⟩ (cc_X8_bytesOfTiers l G h) (⟨callB_of 1 hts ggX8_occupancyBits_X8_bytesOfTiers rfl rfl rfl (hts (.initialized RX8) (by decide +kernel)) (hts (.methodLink RX8 202 yX8_bytesOfTiers) (by decide +kernel)) (by decide +kernel) ⟨Nat.le_of_ble_eq_true rfl, Nat.le_of_ble_eq_true rfl⟩, hts (.instanceMethod yX8_bytesOfTiers) (by decide +kernel), hts (.selects RX8 yX8_bytesOfTiers yX8_bytesOfTiers) (by decide +kernel)⟩) rfl hrc_r_14 hK hZ hF hS hA rfl hl.1 rfl (Nat.le_of_ble_eq_true rfl) dX8_occupancyBits_29 ⟨Nat.zero_le _, Nat.zero_le _⟩ (fun r_14 H locs h hF hS => ?_)
  refine lv_i2d hx hb dX8_occupancyBits_32 ?_
  refine lv_ldc2d hx hb hown (hts (.constantDouble RX8 219 (4636737291354636288 : UInt64)) (by decide +kernel)) dX8_occupancyBits_33 ?_
  obtain ⟨hne, h⟩ := h
  refine lv_dmul hx hb dX8_occupancyBits_36 hne ?_
  refine lv_topd (fun d_15 e_d_15 => ?_)
  have h := h d_15 e_d_15
  refine lv_dload_n hx hb dX8_occupancyBits_37 rfl (lv_at hl 1 rfl) ?_
  obtain ⟨hne, h⟩ := h
  refine lv_ddiv hx hb dX8_occupancyBits_38 hne ?_
  refine lv_topd (fun d_16 e_d_16 => ?_)
  have h := h d_16 e_d_16
  refine lv_dload_n hx hb dX8_occupancyBits_39 rfl (lv_at hl 0 rfl) ?_
  obtain ⟨hne, h⟩ := h
  refine lv_ddiv hx hb dX8_occupancyBits_40 hne ?_
  refine lv_topd (fun d_17 e_d_17 => ?_)
  have h := h d_17 e_d_17
  refine fw_cS_l_p (As := [.double d_17]) (rest := []) ⟨hx, hb, hml, hown, hts⟩ (cc_X8_bitsOf l G h) (⟨callB_of 1 hts ggX8_occupancyBits_X8_bitsOf rfl rfl rfl (hts (.initialized RX8) (by decide +kernel)) (hts (.methodLink RX8 221 yX8_bitsOf) (by decide +kernel)) (by decide +kernel) ⟨Nat.le_of_ble_eq_true rfl, Nat.le_of_ble_eq_true rfl⟩, hts (.static yX8_bitsOf) (by decide +kernel)⟩) hK hZ hF hS hA rfl hl.1 rfl (Nat.le_of_ble_eq_true rfl) dX8_occupancyBits_41 ⟨Nat.zero_le _, Nat.zero_le _⟩ (fun r_18 H locs h hF hS => ?_)
  exact W.lret (v := r_18) hx hb hr (fun t ht hW => ⟨⟨r_18, f, rfl, ⟨h, rfl⟩, by rw [ht]; exact hF, FK.moved hW.alike hK⟩, hS.F ht⟩) hS.2.2 dX8_occupancyBits_44
theorem dX8_open_0 : decode cX8_open 0 = .ok (.aload_n 0, 1) := by decide +kernel
theorem dX8_open_1 : decode cX8_open 1 = .ok (.iload_n 1, 1) := by decide +kernel
theorem dX8_open_2 : decode cX8_open 2 = .ok (.invokevirtual 225, 3) := by decide +kernel
theorem dX8_open_5 : decode cX8_open 5 = .ok (.aload_n 0, 1) := by decide +kernel
theorem dX8_open_6 : decode cX8_open 6 = .ok (.getfield 10, 3) := by decide +kernel
theorem dX8_open_9 : decode cX8_open 9 = .ok (.getfield 105, 3) := by decide +kernel
theorem dX8_open_12 : decode cX8_open 12 = .ok (.aload_n 0, 1) := by decide +kernel
theorem dX8_open_13 : decode cX8_open 13 = .ok (.getfield 58, 3) := by decide +kernel
theorem dX8_open_16 : decode cX8_open 16 = .ok (.iconst 0, 1) := by decide +kernel
theorem dX8_open_17 : decode cX8_open 17 = .ok (.invokevirtual 149, 3) := by decide +kernel
theorem dX8_open_20 : decode cX8_open 20 = .ok (.istore_n 2, 1) := by decide +kernel
theorem dX8_open_21 : decode cX8_open 21 = .ok (.aload_n 0, 1) := by decide +kernel
theorem dX8_open_22 : decode cX8_open 22 = .ok (.getfield 22, 3) := by decide +kernel
theorem dX8_open_25 : decode cX8_open 25 = .ok (.iload_n 1, 1) := by decide +kernel
theorem dX8_open_26 : decode cX8_open 26 = .ok (.iload_n 2, 1) := by decide +kernel
theorem dX8_open_27 : decode cX8_open 27 = .ok (.invokevirtual 228, 3) := by decide +kernel
theorem dX8_open_30 : decode cX8_open 30 = .ok (.iload_n 2, 1) := by decide +kernel
theorem dX8_open_31 : decode cX8_open 31 = .ok (.aload_n 0, 1) := by decide +kernel
theorem dX8_open_32 : decode cX8_open 32 = .ok (.getfield 10, 3) := by decide +kernel
theorem dX8_open_35 : decode cX8_open 35 = .ok (.getfield 105, 3) := by decide +kernel
theorem dX8_open_38 : decode cX8_open 38 = .ok (.invokevirtual 109, 3) := by decide +kernel
theorem dX8_open_41 : decode cX8_open 41 = .ok (.if_icmp .ge 7, 3) := by decide +kernel
theorem dX8_open_44 : decode cX8_open 44 = .ok (.iconst 1, 1) := by decide +kernel
theorem dX8_open_45 : decode cX8_open 45 = .ok (.goto 4, 3) := by decide +kernel
theorem dX8_open_48 : decode cX8_open 48 = .ok (.iconst 0, 1) := by decide +kernel
theorem dX8_open_49 : decode cX8_open 49 = .ok (.ireturn, 1) := by decide +kernel
set_option maxRecDepth 20000 in
theorem ggX8_open_X0_place : GoodIn wsX8_open wsX0_place := goodIn_r _ [64, 65, 93] (by decide +kernel) (by decide +kernel)
set_option maxRecDepth 20000 in
theorem ggX8_open_X4_count : GoodIn wsX8_open wsX4_count := goodIn_r _ [69, 16, 17, 18, 19, 20, 21, 22, 87, 88, 89, 90, 91] (by decide +kernel) (by decide +kernel)
set_option maxRecDepth 20000 in
theorem ggX8_open_X4_countBelow : GoodIn wsX8_open wsX4_countBelow := goodIn_r _ [15, 16, 17, 18, 19, 20, 21, 22, 23, 24, 25, 14, 26, 27, 28, 29, 30, 31, 32, 33, 34, 35, 36, 37, 38, 39, 40, 41, 42, 43, 44, 45, 46, 47, 48, 49, 50, 51, 52, 53, 54, 55, 56, 57, 58, 59, 87, 88, 89, 90, 91, 92] (by decide +kernel) (by decide +kernel)
set_option maxRecDepth 20000 in
theorem ggX8_open_X8_refuseMissingCursor : GoodIn wsX8_open wsX8_refuseMissingCursor := goodIn_ca (goodIn_r _ [8, 9, 10] (by decide +kernel) (by decide +kernel)) (goodIn_sub (fun _ h => List.mem_cons_of_mem _ (List.mem_append_right _ h)) (by decide +kernel))
def wp_X8_open (a0 : Nat) (x1 : Int32) (f : FT) (mc ms : Nat) (K : Int32 → FT → Prop) (KX : String → FT → Prop) : Prop :=
  ∃ ga_3 gb_4 : Nat, ga_3 ≤ mc ∧ gb_4 ≤ ms ∧ isO f a0 11 ∧ wp_X8_refuseMissingCursor a0 x1 f ga_3 gb_4 (fun f_2 => gA f_2 a0 11 0 fun a_7 => gA f_2 a_7 10 0 fun a_9 => gA f_2 a0 11 7 fun a_11 => isO f_2 a_9 7 ∧ wp_X4_countBelow a_9 a_11 (0 : Int32) f_2 (fun r_13 => gA f_2 a0 11 2 fun a_14 => isO f_2 a_14 3 ∧ wp_X0_place a_14 x1 r_13 f_2 (fun f_17 => gA f_17 a0 11 0 fun a_18 => gA f_17 a_18 10 0 fun a_20 => isO f_17 a_20 7 ∧ wp_X4_count a_20 f_17 (fun r_22 => ((r_22 ≤ r_13 → K (0 : Int32) f_17) ∧
 (¬ (r_22 ≤ r_13) → K (1 : Int32) f_17)))))) KX
set_option maxHeartbeats 4000000 in
set_option maxRecDepth 100000 in
theorem cc_X8_open (l : Launch) (G : GG) {f : FT} {sz : Nat} {a0 : Nat} {x1 : Int32} {mc ms : Nat} {K : Int32 → FT → Prop} {KX : String → FT → Prop} (hlt : l.stackTraces = false) (h : wp_X8_open a0 x1 f mc ms K KX) : vx_Met l yX8_open wsX8_open ({ frames := 7, cells := mc, slots := ms, locals := 111 } : Room) (FPX G [.ref a0, .int x1] f sz) (va_Qi (fun r f9 => K r f9 : Int32 → FT → Prop) (FB G (fA f sz)) (fA f sz)) (FXC G (fA f sz) KX) mc ms (fA f sz) := by
  refine vx_ofW (cc := cX8_open) (maxL := 3) (ret := (some .boolean)) (by decide) rfl ?_
  intro p e s m args below meth c s₁ B hml hxt hv
  obtain ⟨rfl, hsz, hF, hK, hZ, hX⟩ := hv
  have hx := B.exec
  have hb := B.bytes
  have hr := B.returns
  have hts := atoms_spec (ws := wsX8_open) B.pre
  have hown : s.vm.findClass RX8 = some m.cls := findClass_of_methodNamed B.named
  have hlocks := B.notSynchronized
  subst hsz
  have hF := hF.self (sz := s.heap.size)
  generalize hAe : fA f s.heap.size = A at hF hZ hX ⊢
  have hA : ∀ q : Nat, s.heap.size ≤ q → A q := fun q h => by rw [← hAe]; exact Or.inr h
  have hS : va_S A s.heap s.heap [] := va_S.rf
  have hin_X7 : ∀ w ∈ wsX70, w ∈ wsX8_open := by decide +kernel
  have hin_X8 : ∀ w ∈ wsX80, w ∈ wsX8_open := by decide +kernel
  have hbc : 0 + mc ≤ mc := by omega
  have hbs : 0 + ms ≤ ms := by omega
  have hl := lv_entry ([.ref a0, .int x1]) (n := 3) (Nat.le_of_ble_eq_true rfl)
  rw [lg_entry_eq]
  generalize (lg_sl ([.ref a0, .int x1]) ++ List.replicate (3 - (lg_sl ([.ref a0, .int x1])).length) Slot.unset).toArray = ls at hl ⊢
  have hl : lv_has ls 3 [(0, .ref a0), (1, .int x1)] := hl
  unfold wp_X8_open at h
  refine lv_aload_n hx hb dX8_open_0 rfl (lv_at hl 0 rfl) ?_
  refine lv_iload_n hx hb dX8_open_1 rfl (lv_at hl 1 rfl) ?_
  obtain ⟨ga_3, gb_4, hga_ga_3, hgb_ga_3, h⟩ := h
  obtain ⟨⟨fs_u_1, hrc_u_1⟩, h⟩ := h
  refine fx_cV_v (As := [.int x1]) (rest := []) ⟨hx, hb, hml, hown, hts⟩ (cc_X8_refuseMissingCursor l G hlt h) (⟨callB_of 1 hts ggX8_open_X8_refuseMissingCursor rfl rfl rfl (hts (.initialized RX8) (by decide +kernel)) (hts (.methodLink RX8 225 yX8_refuseMissingCursor) (by decide +kernel)) (by decide +kernel) ⟨Nat.le_of_ble_eq_true rfl, Nat.le_of_ble_eq_true rfl⟩, hts (.instanceMethod yX8_refuseMissingCursor) (by decide +kernel), hts (.selects RX8 yX8_refuseMissingCursor yX8_refuseMissingCursor) (by decide +kernel)⟩) rfl hrc_u_1 hK hZ hX hF hS hA rfl hl.1 rfl (Nat.le_of_ble_eq_true rfl) dX8_open_2 ⟨by show _ ≤ mc; omega, by show _ ≤ ms; omega⟩ hxt hlocks (by omega) (by omega) (fun f_2 H locs h hF hS => ?_)
  obtain ⟨cs_5, hcs⟩ : ∃ z, z = (0 + ga_3) := ⟨_, rfl⟩; obtain ⟨sl_6, hsl⟩ : ∃ z, z = (0 + gb_4) := ⟨_, rfl⟩
  have hbc : cs_5 + (mc - ga_3) ≤ mc := by omega
  have hbs : sl_6 + (ms - gb_4) ≤ ms := by omega
  refine W.widen (k := cs_5) (n := sl_6) (by omega) (by omega) ?_
  clear hcs hsl
  refine lv_aload_n hx hb dX8_open_5 rfl (lv_at hl 0 rfl) ?_
  obtain ⟨fs_8, a_7, he_fs_8, hv_fs_8, h⟩ := h
  refine fw_get (C := RX8) (T := TX8) (N := 9) hx hb hts hin_X8 hown hK hF he_fs_8 rfl 0 (by decide) (hts (.fieldLink RX8 10 "FrontCodedIndex" "tree" "LFrontCodedIndex$Tree;") (by decide +kernel)) (fun _ h9 => h9) hv_fs_8 dX8_open_6 ?_
  obtain ⟨fs_10, a_9, he_fs_10, hv_fs_10, h⟩ := h
  refine fw_getN (C := RX7) (T := TX7) (N := 8) hx hb hts hin_X7 hown hK hF he_fs_10 rfl 0 (by decide) (va_Nw.use rfl (hZ.2.1 (.fieldLinkNest RX8 105 "FrontCodedIndex$Tree" "keys" "LFrontCodedIndex$KeyRow;" "FrontCodedIndex") (by decide +kernel))) (fun _ h9 => h9) hv_fs_10 dX8_open_9 ?_
  refine lv_aload_n hx hb dX8_open_12 rfl (lv_at hl 0 rfl) ?_
  obtain ⟨fs_12, a_11, he_fs_12, hv_fs_12, h⟩ := h
  refine fw_get (C := RX8) (T := TX8) (N := 9) hx hb hts hin_X8 hown hK hF he_fs_12 rfl 7 (by decide) (hts (.fieldLink RX8 58 "FrontCodedIndex" "key" "LFrontCodedIndex$Key;") (by decide +kernel)) (fun _ h9 => h9) hv_fs_12 dX8_open_13 ?_
  refine lv_iconst (v := (0 : Int32)) hx hb dX8_open_16 (by decide) ?_
  obtain ⟨⟨fs_r_13, hrc_r_13⟩, h⟩ := h
  refine fw_cV_i_p (As := [.ref a_11, .int (0 : Int32)]) (rest := []) ⟨hx, hb, hml, hown, hts⟩ (cc_X4_countBelow l G h) (⟨callB_of 2 hts ggX8_open_X4_countBelow rfl rfl rfl (hts (.initialized RX4) (by decide +kernel)) (hts (.methodLink RX8 149 yX4_countBelow) (by decide +kernel)) (by decide +kernel) ⟨Nat.le_of_ble_eq_true rfl, Nat.le_of_ble_eq_true rfl⟩, hts (.instanceMethod yX4_countBelow) (by decide +kernel), hts (.selects RX4 yX4_countBelow yX4_countBelow) (by decide +kernel)⟩) rfl hrc_r_13 hK hZ hF hS hA rfl hl.1 rfl (Nat.le_of_ble_eq_true rfl) dX8_open_17 ⟨by show _ ≤ mc; omega, by show _ ≤ ms; omega⟩ (fun r_13 H locs h hF hS => ?_)
  simp only [Nat.add_zero]
  refine lv_istore_n (lv' := [(2, .int r_13), (0, .ref a0), (1, .int x1)]) hx hb dX8_open_20 rfl hl (by decide) rfl (fun ls hl => ?_)
  refine lv_aload_n hx hb dX8_open_21 rfl (lv_at hl 1 rfl) ?_
  obtain ⟨fs_15, a_14, he_fs_15, hv_fs_15, h⟩ := h
  refine fw_get (C := RX8) (T := TX8) (N := 9) hx hb hts hin_X8 hown hK hF he_fs_15 rfl 2 (by decide) (hts (.fieldLink RX8 22 "FrontCodedIndex" "cursors" "LFrontCodedIndex$Cursors;") (by decide +kernel)) (fun _ h9 => h9) hv_fs_15 dX8_open_22 ?_
  refine lv_iload_n hx hb dX8_open_25 rfl (lv_at hl 2 rfl) ?_
  refine lv_iload_n hx hb dX8_open_26 rfl (lv_at hl 0 rfl) ?_
  obtain ⟨⟨fs_u_16, hrc_u_16⟩, h⟩ := h
  refine fw_cV_v (As := [.int x1, .int r_13]) (rest := []) ⟨hx, hb, hml, hown, hts⟩ (cc_X0_place l G h) (⟨callB_of 2 hts ggX8_open_X0_place rfl rfl rfl (hts (.initialized RX0) (by decide +kernel)) (hts (.methodLink RX8 228 yX0_place) (by decide +kernel)) (by decide +kernel) ⟨Nat.le_of_ble_eq_true rfl, Nat.le_of_ble_eq_true rfl⟩, hts (.instanceMethod yX0_place) (by decide +kernel), hts (.selects RX0 yX0_place yX0_place) (by decide +kernel)⟩) rfl hrc_u_16 hK hZ hF hS hA rfl hl.1 rfl (Nat.le_of_ble_eq_true rfl) dX8_open_27 ⟨by show _ ≤ mc; omega, by show _ ≤ ms; omega⟩ (fun f_17 H locs h hF hS => ?_)
  simp only [Nat.add_zero]
  refine lv_iload_n hx hb dX8_open_30 rfl (lv_at hl 0 rfl) ?_
  refine lv_aload_n hx hb dX8_open_31 rfl (lv_at hl 1 rfl) ?_
  obtain ⟨fs_19, a_18, he_fs_19, hv_fs_19, h⟩ := h
  refine fw_get (C := RX8) (T := TX8) (N := 9) hx hb hts hin_X8 hown hK hF he_fs_19 rfl 0 (by decide) (hts (.fieldLink RX8 10 "FrontCodedIndex" "tree" "LFrontCodedIndex$Tree;") (by decide +kernel)) (fun _ h9 => h9) hv_fs_19 dX8_open_32 ?_
  obtain ⟨fs_21, a_20, he_fs_21, hv_fs_21, h⟩ := h
  refine fw_getN (C := RX7) (T := TX7) (N := 8) hx hb hts hin_X7 hown hK hF he_fs_21 rfl 0 (by decide) (va_Nw.use rfl (hZ.2.1 (.fieldLinkNest RX8 105 "FrontCodedIndex$Tree" "keys" "LFrontCodedIndex$KeyRow;" "FrontCodedIndex") (by decide +kernel))) (fun _ h9 => h9) hv_fs_21 dX8_open_35 ?_
  obtain ⟨⟨fs_r_22, hrc_r_22⟩, h⟩ := h
  refine fw_cV_i_p (As := []) (rest := [.int r_13]) ⟨hx, hb, hml, hown, hts⟩ (cc_X4_count l G h) (⟨callB_of 0 hts ggX8_open_X4_count rfl rfl rfl (hts (.initialized RX4) (by decide +kernel)) (hts (.methodLink RX8 109 yX4_count) (by decide +kernel)) (by decide +kernel) ⟨Nat.le_of_ble_eq_true rfl, Nat.le_of_ble_eq_true rfl⟩, hts (.instanceMethod yX4_count) (by decide +kernel), hts (.selects RX4 yX4_count yX4_count) (by decide +kernel)⟩) rfl hrc_r_22 hK hZ hF hS hA rfl hl.1 rfl (Nat.le_of_ble_eq_true rfl) dX8_open_38 ⟨by show _ ≤ mc; omega, by show _ ≤ ms; omega⟩ (fun r_22 H locs h hF hS => ?_)
  simp only [Nat.add_zero]
  obtain ⟨h1, h2⟩ := h
  refine lv_icmp_ge (tgt := 48) hx hb dX8_open_41 (by decide) (fun c_23 => ?_) (fun c_23 => ?_)
  · have h := h1 c_23
    refine lv_iconst (v := (0 : Int32)) hx hb dX8_open_48 (by decide) ?_
    refine vx_ret ?_
    refine W.widen (k := mc) (n := ms) (by omega) (by omega) ?_
    exact W.zret (v := (0 : Int32)) hx hb hr (by decide) (fun t ht hW => ⟨⟨(0 : Int32), f_17, rfl, h, by rw [ht]; exact hF, FK.moved hW.alike hK⟩, hS.F ht⟩) hS.2.2 dX8_open_49
  · have h := h2 c_23
    refine lv_iconst (v := (1 : Int32)) hx hb dX8_open_44 (by decide) ?_
    refine lv_goto (tgt := 49) hx hb dX8_open_45 (by decide) ?_
    refine vx_ret ?_
    refine W.widen (k := mc) (n := ms) (by omega) (by omega) ?_
    exact W.zret (v := (1 : Int32)) hx hb hr (by decide) (fun t ht hW => ⟨⟨(1 : Int32), f_17, rfl, h, by rw [ht]; exact hF, FK.moved hW.alike hK⟩, hS.F ht⟩) hS.2.2 dX8_open_49
theorem dX8_put_0 : decode cX8_put 0 = .ok (.aload_n 0, 1) := by decide +kernel
theorem dX8_put_1 : decode cX8_put 1 = .ok (.getfield 10, 3) := by decide +kernel
theorem dX8_put_4 : decode cX8_put 4 = .ok (.getfield 105, 3) := by decide +kernel
theorem dX8_put_7 : decode cX8_put 7 = .ok (.aload_n 0, 1) := by decide +kernel
theorem dX8_put_8 : decode cX8_put 8 = .ok (.getfield 58, 3) := by decide +kernel
theorem dX8_put_11 : decode cX8_put 11 = .ok (.invokevirtual 120, 3) := by decide +kernel
theorem dX8_put_14 : decode cX8_put 14 = .ok (.istore_n 2, 1) := by decide +kernel
theorem dX8_put_15 : decode cX8_put 15 = .ok (.iload_n 2, 1) := by decide +kernel
theorem dX8_put_16 : decode cX8_put 16 = .ok (.ifCond .lt 17, 3) := by decide +kernel
theorem dX8_put_19 : decode cX8_put 19 = .ok (.aload_n 0, 1) := by decide +kernel
theorem dX8_put_20 : decode cX8_put 20 = .ok (.getfield 10, 3) := by decide +kernel
theorem dX8_put_23 : decode cX8_put 23 = .ok (.getfield 124, 3) := by decide +kernel
theorem dX8_put_26 : decode cX8_put 26 = .ok (.iload_n 2, 1) := by decide +kernel
theorem dX8_put_27 : decode cX8_put 27 = .ok (.iload_n 1, 1) := by decide +kernel
theorem dX8_put_28 : decode cX8_put 28 = .ok (.invokevirtual 128, 3) := by decide +kernel
theorem dX8_put_31 : decode cX8_put 31 = .ok (.iconst 0, 1) := by decide +kernel
theorem dX8_put_32 : decode cX8_put 32 = .ok (.ireturn, 1) := by decide +kernel
theorem dX8_put_33 : decode cX8_put 33 = .ok (.aload_n 0, 1) := by decide +kernel
theorem dX8_put_34 : decode cX8_put 34 = .ok (.getfield 10, 3) := by decide +kernel
theorem dX8_put_37 : decode cX8_put 37 = .ok (.getfield 105, 3) := by decide +kernel
theorem dX8_put_40 : decode cX8_put 40 = .ok (.invokevirtual 109, 3) := by decide +kernel
theorem dX8_put_43 : decode cX8_put 43 = .ok (.sipush 300, 3) := by decide +kernel
theorem dX8_put_46 : decode cX8_put 46 = .ok (.if_icmp .lt 13, 3) := by decide +kernel
theorem dX8_put_49 : decode cX8_put 49 = .ok (.new 76, 3) := by decide +kernel
theorem dX8_put_52 : decode cX8_put 52 = .ok (.dup, 1) := by decide +kernel
theorem dX8_put_53 : decode cX8_put 53 = .ok (.ldc 134, 2) := by decide +kernel
theorem dX8_put_55 : decode cX8_put 55 = .ok (.invokespecial 80, 3) := by decide +kernel
theorem dX8_put_58 : decode cX8_put 58 = .ok (.athrow, 1) := by decide +kernel
theorem dX8_put_59 : decode cX8_put 59 = .ok (.aload_n 0, 1) := by decide +kernel
theorem dX8_put_60 : decode cX8_put 60 = .ok (.getfield 31, 3) := by decide +kernel
theorem dX8_put_63 : decode cX8_put 63 = .ok (.aload_n 0, 1) := by decide +kernel
theorem dX8_put_64 : decode cX8_put 64 = .ok (.getfield 58, 3) := by decide +kernel
theorem dX8_put_67 : decode cX8_put 67 = .ok (.iload_n 1, 1) := by decide +kernel
theorem dX8_put_68 : decode cX8_put 68 = .ok (.invokevirtual 136, 3) := by decide +kernel
theorem dX8_put_71 : decode cX8_put 71 = .ok (.iconst 1, 1) := by decide +kernel
theorem dX8_put_72 : decode cX8_put 72 = .ok (.ireturn, 1) := by decide +kernel
set_option maxRecDepth 20000 in
theorem ggX8_put_X1_insert : GoodIn wsX8_put wsX1_insert := goodIn_r _ [74, 75, 76, 77, 78, 73, 79, 80, 81, 13, 14, 9, 15, 11, 16, 17, 18, 19, 20, 21, 22, 23, 24, 25, 26, 27, 28, 29, 30, 31, 32, 33, 34, 35, 36, 37, 38, 39, 40, 41, 42, 43, 44, 45, 46, 47, 48, 49, 50, 51, 52, 53, 54, 55, 56, 57, 58, 82, 83, 84, 85, 86, 87, 88, 89, 90, 91, 92, 93, 94, 95, 96, 97, 98, 99, 100, 101, 102, 103, 104, 105, 106, 107, 108, 109, 110, 111, 112, 113, 114, 115, 116, 117, 118, 119, 120, 121, 122, 123, 124, 125, 126, 127, 128, 129, 130, 131, 132, 133, 134, 135, 136, 137, 138, 139, 140, 141, 142, 62, 143, 64, 65, 144, 145, 146, 147, 148, 149, 150, 151, 152, 153, 154, 155, 156, 157, 158, 159, 160, 161, 162, 163, 164, 165, 166, 167, 168, 169, 170, 171, 172, 173, 174, 175, 176, 177, 178, 179, 180, 181, 182, 183, 184, 185, 186, 187, 188, 189, 190, 191, 192, 193, 194, 195, 196, 197, 198, 199, 200, 201, 202, 203, 204, 205, 206, 207, 208, 209, 210, 211, 212, 213, 214, 215, 216, 217, 218, 219, 220, 221, 222, 223, 224, 225, 226, 227, 228, 229, 230, 231, 232, 233, 234, 235, 60, 61, 63, 236, 237, 238, 239, 240, 241, 242, 243, 244, 245, 246, 247, 248, 249, 250, 251, 252, 253, 254, 255, 256, 257, 258, 259, 260, 261, 262, 263, 264, 265, 266, 267, 268, 269, 270, 271, 272, 273, 274, 275, 276, 277, 278, 279, 280, 281, 282, 283, 284, 285, 286, 287, 288, 289, 290, 291, 292, 293, 294, 295, 296, 297, 298, 299, 300, 301, 302, 303, 304, 305, 306, 307, 308, 309, 310, 311, 312, 313, 314, 315, 316, 342, 343, 344, 345, 326, 327, 328, 329, 330, 331, 332, 333, 334, 335, 336, 337, 338, 339, 340, 341, 346] (by decide +kernel) (by decide +kernel)
set_option maxRecDepth 20000 in
theorem ggX8_put_X2_replace : GoodIn wsX8_put wsX2_replace := goodIn_r _ [63, 64, 65, 340, 341] (by decide +kernel) (by decide +kernel)
set_option maxRecDepth 20000 in
theorem ggX8_put_X4_count : GoodIn wsX8_put wsX4_count := goodIn_r _ [69, 11, 16, 17, 18, 19, 20, 21, 334, 335, 336, 337, 338] (by decide +kernel) (by decide +kernel)
set_option maxRecDepth 20000 in
theorem ggX8_put_X4_find : GoodIn wsX8_put wsX4_find := goodIn_r _ [10, 11, 12, 13, 14, 9, 15, 16, 17, 18, 19, 20, 21, 22, 23, 24, 25, 26, 27, 28, 29, 30, 31, 32, 33, 34, 35, 36, 37, 38, 39, 40, 41, 42, 43, 44, 45, 46, 47, 48, 49, 50, 51, 52, 53, 54, 55, 56, 57, 58, 334, 335, 336, 337, 338, 339] (by decide +kernel) (by decide +kernel)
def wp_X8_put (zd : Nat) (a0 : Nat) (x1 : Int32) (f : FT) (mc ms : Nat) (K : Int32 → FT → Prop) (KX : String → FT → Prop) : Prop :=
  gA f a0 11 0 fun a_1 => gA f a_1 10 0 fun a_3 => gA f a0 11 7 fun a_5 => isO f a_3 7 ∧ wp_X4_find a_3 a_5 f (fun r_7 => ((r_7 < (0 : Int32) → gA f a0 11 0 fun a_9 => gA f a_9 10 0 fun a_11 => isO f a_11 7 ∧ wp_X4_count a_11 f (fun r_13 => ((r_13 < (300 : Int32) → gA f a0 11 3 fun a_15 => gA f a0 11 7 fun a_17 => ∃ ga_21 gb_22 : Nat, ga_21 ≤ mc ∧ gb_22 ≤ ms ∧ isO f a_15 4 ∧ wp_X1_insert zd a_15 a_17 x1 f ga_21 gb_22 (fun f_20 => K (1 : Int32) f_20)) ∧
 (¬ (r_13 < (300 : Int32)) → 1 ≤ mc ∧ 6 ≤ ms ∧ KX "java/lang/IllegalStateException" f)))) ∧
 (¬ (r_7 < (0 : Int32)) → gA f a0 11 0 fun a_25 => gA f a_25 10 1 fun a_27 => isO f a_27 5 ∧ wp_X2_replace a_27 r_7 x1 f (fun f_30 => K (0 : Int32) f_30))))
set_option maxHeartbeats 4000000 in
set_option maxRecDepth 100000 in
theorem cc_X8_put (l : Launch) (G : GG) {zd : Nat} (hzd : G.2.2 0 = zd) {f : FT} {sz : Nat} {a0 : Nat} {x1 : Int32} {mc ms : Nat} {K : Int32 → FT → Prop} {KX : String → FT → Prop} (hlt : l.stackTraces = false) (h : wp_X8_put zd a0 x1 f mc ms K KX) : vx_Met l yX8_put wsX8_put ({ frames := 10, cells := mc, slots := ms, locals := 240 } : Room) (FPX G [.ref a0, .int x1] f sz) (va_Qi (fun r f9 => K r f9 : Int32 → FT → Prop) (FB G (fA f sz)) (fA f sz)) (FXC G (fA f sz) KX) mc ms (fA f sz) := by
  refine vx_ofW (cc := cX8_put) (maxL := 3) (ret := (some .boolean)) (by decide) rfl ?_
  intro p e s m args below meth c s₁ B hml hxt hv
  obtain ⟨rfl, hsz, hF, hK, hZ, hX⟩ := hv
  have hx := B.exec
  have hb := B.bytes
  have hr := B.returns
  have hts := atoms_spec (ws := wsX8_put) B.pre
  have hown : s.vm.findClass RX8 = some m.cls := findClass_of_methodNamed B.named
  have hlocks := B.notSynchronized
  subst hsz
  have hF := hF.self (sz := s.heap.size)
  generalize hAe : fA f s.heap.size = A at hF hZ hX ⊢
  have hA : ∀ q : Nat, s.heap.size ≤ q → A q := fun q h => by rw [← hAe]; exact Or.inr h
  have hS : va_S A s.heap s.heap [] := va_S.rf
  have hZ9 : va_Z "java/util/ArrayList" "DEFAULTCAPACITY_EMPTY_ELEMENTDATA" "[Ljava/lang/Object;" (.ref zd) A s s.heap := by rw [← hzd]; exact hZ.1
  have hin_X7 : ∀ w ∈ wsX70, w ∈ wsX8_put := by decide +kernel
  have hin_X8 : ∀ w ∈ wsX80, w ∈ wsX8_put := by decide +kernel
  have hbc : 0 + mc ≤ mc := by omega
  have hbs : 0 + ms ≤ ms := by omega
  have hl := lv_entry ([.ref a0, .int x1]) (n := 3) (Nat.le_of_ble_eq_true rfl)
  rw [lg_entry_eq]
  generalize (lg_sl ([.ref a0, .int x1]) ++ List.replicate (3 - (lg_sl ([.ref a0, .int x1])).length) Slot.unset).toArray = ls at hl ⊢
  have hl : lv_has ls 3 [(0, .ref a0), (1, .int x1)] := hl
  unfold wp_X8_put at h
  refine lv_aload_n hx hb dX8_put_0 rfl (lv_at hl 0 rfl) ?_
  obtain ⟨fs_2, a_1, he_fs_2, hv_fs_2, h⟩ := h
  refine fw_get (C := RX8) (T := TX8) (N := 9) hx hb hts hin_X8 hown hK hF he_fs_2 rfl 0 (by decide) (hts (.fieldLink RX8 10 "FrontCodedIndex" "tree" "LFrontCodedIndex$Tree;") (by decide +kernel)) (fun _ h9 => h9) hv_fs_2 dX8_put_1 ?_
  obtain ⟨fs_4, a_3, he_fs_4, hv_fs_4, h⟩ := h
  refine fw_getN (C := RX7) (T := TX7) (N := 8) hx hb hts hin_X7 hown hK hF he_fs_4 rfl 0 (by decide) (va_Nw.use rfl (hZ.2.1 (.fieldLinkNest RX8 105 "FrontCodedIndex$Tree" "keys" "LFrontCodedIndex$KeyRow;" "FrontCodedIndex") (by decide +kernel))) (fun _ h9 => h9) hv_fs_4 dX8_put_4 ?_
  refine lv_aload_n hx hb dX8_put_7 rfl (lv_at hl 0 rfl) ?_
  obtain ⟨fs_6, a_5, he_fs_6, hv_fs_6, h⟩ := h
  refine fw_get (C := RX8) (T := TX8) (N := 9) hx hb hts hin_X8 hown hK hF he_fs_6 rfl 7 (by decide) (hts (.fieldLink RX8 58 "FrontCodedIndex" "key" "LFrontCodedIndex$Key;") (by decide +kernel)) (fun _ h9 => h9) hv_fs_6 dX8_put_8 ?_
  obtain ⟨⟨fs_r_7, hrc_r_7⟩, h⟩ := h
  refine fw_cV_i_p (As := [.ref a_5]) (rest := []) ⟨hx, hb, hml, hown, hts⟩ (cc_X4_find l G h) (⟨callB_of 1 hts ggX8_put_X4_find rfl rfl rfl (hts (.initialized RX4) (by decide +kernel)) (hts (.methodLink RX8 120 yX4_find) (by decide +kernel)) (by decide +kernel) ⟨Nat.le_of_ble_eq_true rfl, Nat.le_of_ble_eq_true rfl⟩, hts (.instanceMethod yX4_find) (by decide +kernel), hts (.selects RX4 yX4_find yX4_find) (by decide +kernel)⟩) rfl hrc_r_7 hK hZ hF hS hA rfl hl.1 rfl (Nat.le_of_ble_eq_true rfl) dX8_put_11 ⟨by show _ ≤ mc; omega, by show _ ≤ ms; omega⟩ (fun r_7 H locs h hF hS => ?_)
  simp only [Nat.add_zero]
  refine lv_istore_n (lv' := [(2, .int r_7), (0, .ref a0), (1, .int x1)]) hx hb dX8_put_14 rfl hl (by decide) rfl (fun ls hl => ?_)
  refine lv_iload_n hx hb dX8_put_15 rfl (lv_at hl 0 rfl) ?_
  obtain ⟨h1, h2⟩ := h
  refine lv_if_lt (tgt := 33) hx hb dX8_put_16 (by decide) (fun c_8 => ?_) (fun c_8 => ?_)
  · have h := h1 c_8
    refine lv_aload_n hx hb dX8_put_33 rfl (lv_at hl 1 rfl) ?_
    obtain ⟨fs_10, a_9, he_fs_10, hv_fs_10, h⟩ := h
    refine fw_get (C := RX8) (T := TX8) (N := 9) hx hb hts hin_X8 hown hK hF he_fs_10 rfl 0 (by decide) (hts (.fieldLink RX8 10 "FrontCodedIndex" "tree" "LFrontCodedIndex$Tree;") (by decide +kernel)) (fun _ h9 => h9) hv_fs_10 dX8_put_34 ?_
    obtain ⟨fs_12, a_11, he_fs_12, hv_fs_12, h⟩ := h
    refine fw_getN (C := RX7) (T := TX7) (N := 8) hx hb hts hin_X7 hown hK hF he_fs_12 rfl 0 (by decide) (va_Nw.use rfl (hZ.2.1 (.fieldLinkNest RX8 105 "FrontCodedIndex$Tree" "keys" "LFrontCodedIndex$KeyRow;" "FrontCodedIndex") (by decide +kernel))) (fun _ h9 => h9) hv_fs_12 dX8_put_37 ?_
    obtain ⟨⟨fs_r_13, hrc_r_13⟩, h⟩ := h
    refine fw_cV_i_p (As := []) (rest := []) ⟨hx, hb, hml, hown, hts⟩ (cc_X4_count l G h) (⟨callB_of 0 hts ggX8_put_X4_count rfl rfl rfl (hts (.initialized RX4) (by decide +kernel)) (hts (.methodLink RX8 109 yX4_count) (by decide +kernel)) (by decide +kernel) ⟨Nat.le_of_ble_eq_true rfl, Nat.le_of_ble_eq_true rfl⟩, hts (.instanceMethod yX4_count) (by decide +kernel), hts (.selects RX4 yX4_count yX4_count) (by decide +kernel)⟩) rfl hrc_r_13 hK hZ hF hS hA rfl hl.1 rfl (Nat.le_of_ble_eq_true rfl) dX8_put_40 ⟨by show _ ≤ mc; omega, by show _ ≤ ms; omega⟩ (fun r_13 H locs h hF hS => ?_)
    simp only [Nat.add_zero]
    refine lv_sipush (v := (300 : Int32)) hx hb dX8_put_43 (by decide) ?_
    obtain ⟨h1, h2⟩ := h
    refine lv_icmp_lt (tgt := 59) hx hb dX8_put_46 (by decide) (fun c_14 => ?_) (fun c_14 => ?_)
    · have h := h1 c_14
      refine lv_aload_n hx hb dX8_put_59 rfl (lv_at hl 1 rfl) ?_
      obtain ⟨fs_16, a_15, he_fs_16, hv_fs_16, h⟩ := h
      refine fw_get (C := RX8) (T := TX8) (N := 9) hx hb hts hin_X8 hown hK hF he_fs_16 rfl 3 (by decide) (hts (.fieldLink RX8 31 "FrontCodedIndex" "inserter" "LFrontCodedIndex$Inserter;") (by decide +kernel)) (fun _ h9 => h9) hv_fs_16 dX8_put_60 ?_
      refine lv_aload_n hx hb dX8_put_63 rfl (lv_at hl 1 rfl) ?_
      obtain ⟨fs_18, a_17, he_fs_18, hv_fs_18, h⟩ := h
      refine fw_get (C := RX8) (T := TX8) (N := 9) hx hb hts hin_X8 hown hK hF he_fs_18 rfl 7 (by decide) (hts (.fieldLink RX8 58 "FrontCodedIndex" "key" "LFrontCodedIndex$Key;") (by decide +kernel)) (fun _ h9 => h9) hv_fs_18 dX8_put_64 ?_
      refine lv_iload_n hx hb dX8_put_67 rfl (lv_at hl 2 rfl) ?_
      obtain ⟨ga_21, gb_22, hga_ga_21, hgb_ga_21, h⟩ := h
      obtain ⟨⟨fs_u_19, hrc_u_19⟩, h⟩ := h
      refine fw_cV_v (As := [.ref a_17, .int x1]) (rest := []) ⟨hx, hb, hml, hown, hts⟩ (cc_X1_insert l G hzd h) (⟨callB_of 2 hts ggX8_put_X1_insert rfl rfl rfl (hts (.initialized RX1) (by decide +kernel)) (hts (.methodLink RX8 136 yX1_insert) (by decide +kernel)) (by decide +kernel) ⟨Nat.le_of_ble_eq_true rfl, Nat.le_of_ble_eq_true rfl⟩, hts (.instanceMethod yX1_insert) (by decide +kernel), hts (.selects RX1 yX1_insert yX1_insert) (by decide +kernel)⟩) rfl hrc_u_19 hK hZ hF hS hA rfl hl.1 rfl (Nat.le_of_ble_eq_true rfl) dX8_put_68 ⟨by show _ ≤ mc; omega, by show _ ≤ ms; omega⟩ (fun f_20 H locs h hF hS => ?_)
      obtain ⟨cs_23, hcs⟩ : ∃ z, z = (0 + ga_21) := ⟨_, rfl⟩; obtain ⟨sl_24, hsl⟩ : ∃ z, z = (0 + gb_22) := ⟨_, rfl⟩
      have hbc : cs_23 + (mc - ga_21) ≤ mc := by omega
      have hbs : sl_24 + (ms - gb_22) ≤ ms := by omega
      refine W.widen (k := cs_23) (n := sl_24) (by omega) (by omega) ?_
      clear hcs hsl
      refine lv_iconst (v := (1 : Int32)) hx hb dX8_put_71 (by decide) ?_
      refine vx_ret ?_
      refine W.widen (k := mc) (n := ms) (by omega) (by omega) ?_
      exact W.zret (v := (1 : Int32)) hx hb hr (by decide) (fun t ht hW => ⟨⟨(1 : Int32), f_20, rfl, h, by rw [ht]; exact hF, FK.moved hW.alike hK⟩, hS.F ht⟩) hS.2.2 dX8_put_72
    · have h := h2 c_14
      obtain ⟨hb1, hb2, h⟩ := h
      refine vx_throwS hx hb hlt (own := RX8) (cls := "java/lang/IllegalStateException") (text := "there are 300 entries") (names := ["java/lang/RuntimeException", "java/lang/Exception"]) (ik := 76) (is := 134) (ic := 80) (sa := G.2.2 (100 + 134)) (A := A) hown (by decide) (by decide) (hts (.classLink RX8 76 "java/lang/IllegalStateException") (by decide +kernel)) (hts (.initialized "java/lang/IllegalStateException") (by decide +kernel)) (hX.1 (134, "there are 300 entries") (by decide +kernel)) (vx_hat (B := thrB) (fun w hw => hts w ((by decide +kernel : ∀ w ∈ (vx_atS RX8 80 "java/lang/IllegalStateException" ["java/lang/RuntimeException", "java/lang/Exception"]).filter goodWord, w ∈ wsX8_put) w hw)) (by decide +kernel) (fun w hw => va_Nw.use (thrB_tab w hw) (hX.2.1 w hw))) (by decide +kernel) hX.2.2.1 hX.2.2.2 hS (hl.1.trans hml.symm) dX8_put_49 dX8_put_52 dX8_put_53 dX8_put_55 dX8_put_58 (fun x hx => (hxt x hx).elim) (Nat.le_of_ble_eq_true rfl) (Nat.le_of_ble_eq_true rfl) (by show _ ≤ mc; omega) (by show _ ≤ ms; omega) hlocks (fun t hvm hz hk => ⟨(f, "java/lang/IllegalStateException"), h, ⟨rfl, hF.kept (fun q e9 he9 => hk q (hF.in he9).2), FK.moved hvm hK⟩, ⟨Nat.le_trans hS.1 hz, fun q h1 h2 => (hk q (Nat.lt_of_lt_of_le h1 hS.1)).trans (hS.2.1 q h1 h2)⟩⟩) hS.2.2 (by omega) (by omega)
  · have h := h2 c_8
    refine lv_aload_n hx hb dX8_put_19 rfl (lv_at hl 1 rfl) ?_
    obtain ⟨fs_26, a_25, he_fs_26, hv_fs_26, h⟩ := h
    refine fw_get (C := RX8) (T := TX8) (N := 9) hx hb hts hin_X8 hown hK hF he_fs_26 rfl 0 (by decide) (hts (.fieldLink RX8 10 "FrontCodedIndex" "tree" "LFrontCodedIndex$Tree;") (by decide +kernel)) (fun _ h9 => h9) hv_fs_26 dX8_put_20 ?_
    obtain ⟨fs_28, a_27, he_fs_28, hv_fs_28, h⟩ := h
    refine fw_getN (C := RX7) (T := TX7) (N := 8) hx hb hts hin_X7 hown hK hF he_fs_28 rfl 1 (by decide) (va_Nw.use rfl (hZ.2.1 (.fieldLinkNest RX8 124 "FrontCodedIndex$Tree" "values" "LFrontCodedIndex$IntRow;" "FrontCodedIndex") (by decide +kernel))) (fun _ h9 => h9) hv_fs_28 dX8_put_23 ?_
    refine lv_iload_n hx hb dX8_put_26 rfl (lv_at hl 0 rfl) ?_
    refine lv_iload_n hx hb dX8_put_27 rfl (lv_at hl 2 rfl) ?_
    obtain ⟨⟨fs_u_29, hrc_u_29⟩, h⟩ := h
    refine fw_cV_v (As := [.int r_7, .int x1]) (rest := []) ⟨hx, hb, hml, hown, hts⟩ (cc_X2_replace l G h) (⟨callB_of 2 hts ggX8_put_X2_replace rfl rfl rfl (hts (.initialized RX2) (by decide +kernel)) (hts (.methodLink RX8 128 yX2_replace) (by decide +kernel)) (by decide +kernel) ⟨Nat.le_of_ble_eq_true rfl, Nat.le_of_ble_eq_true rfl⟩, hts (.instanceMethod yX2_replace) (by decide +kernel), hts (.selects RX2 yX2_replace yX2_replace) (by decide +kernel)⟩) rfl hrc_u_29 hK hZ hF hS hA rfl hl.1 rfl (Nat.le_of_ble_eq_true rfl) dX8_put_28 ⟨by show _ ≤ mc; omega, by show _ ≤ ms; omega⟩ (fun f_30 H locs h hF hS => ?_)
    simp only [Nat.add_zero]
    refine lv_iconst (v := (0 : Int32)) hx hb dX8_put_31 (by decide) ?_
    refine vx_ret ?_
    refine W.widen (k := mc) (n := ms) (by omega) (by omega) ?_
    exact W.zret (v := (0 : Int32)) hx hb hr (by decide) (fun t ht hW => ⟨⟨(0 : Int32), f_30, rfl, h, by rw [ht]; exact hF, FK.moved hW.alike hK⟩, hS.F ht⟩) hS.2.2 dX8_put_32
