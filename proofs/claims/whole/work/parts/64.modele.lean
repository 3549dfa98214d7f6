theorem dX9_pageFanout_0 : decode cX9_pageFanout 0 = .ok (.aload_n 0, 1) := by decide +kernel
theorem dX9_pageFanout_1 : decode cX9_pageFanout 1 = .ok (.iload_n 1, 1) := by decide +kernel
theorem dX9_pageFanout_2 : decode cX9_pageFanout 2 = .ok (.iload_n 2, 1) := by decide +kernel
theorem dX9_pageFanout_3 : decode cX9_pageFanout 3 = .ok (.invokevirtual 210, 3) := by decide +kernel
theorem dX9_pageFanout_6 : decode cX9_pageFanout 6 = .ok (.ifCond .eq 27, 3) := by decide +kernel
theorem dX9_pageFanout_9 : decode cX9_pageFanout 9 = .ok (.aload_n 0, 1) := by decide +kernel
theorem dX9_pageFanout_10 : decode cX9_pageFanout 10 = .ok (.aload_n 0, 1) := by decide +kernel
theorem dX9_pageFanout_11 : decode cX9_pageFanout 11 = .ok (.getfield 35, 3) := by decide +kernel
theorem dX9_pageFanout_14 : decode cX9_pageFanout 14 = .ok (.aload_n 0, 1) := by decide +kernel
theorem dX9_pageFanout_15 : decode cX9_pageFanout 15 = .ok (.getfield 29, 3) := by decide +kernel
theorem dX9_pageFanout_18 : decode cX9_pageFanout 18 = .ok (.iconst 1, 1) := by decide +kernel
theorem dX9_pageFanout_19 : decode cX9_pageFanout 19 = .ok (.isub, 1) := by decide +kernel
theorem dX9_pageFanout_20 : decode cX9_pageFanout 20 = .ok (.iload_n 1, 1) := by decide +kernel
theorem dX9_pageFanout_21 : decode cX9_pageFanout 21 = .ok (.isub, 1) := by decide +kernel
theorem dX9_pageFanout_22 : decode cX9_pageFanout 22 = .ok (.iload_n 2, 1) := by decide +kernel
theorem dX9_pageFanout_23 : decode cX9_pageFanout 23 = .ok (.invokestatic 113, 3) := by decide +kernel
theorem dX9_pageFanout_26 : decode cX9_pageFanout 26 = .ok (.iaload, 1) := by decide +kernel
theorem dX9_pageFanout_27 : decode cX9_pageFanout 27 = .ok (.invokevirtual 91, 3) := by decide +kernel
theorem dX9_pageFanout_30 : decode cX9_pageFanout 30 = .ok (.goto 8, 3) := by decide +kernel
theorem dX9_pageFanout_33 : decode cX9_pageFanout 33 = .ok (.aload_n 0, 1) := by decide +kernel
theorem dX9_pageFanout_34 : decode cX9_pageFanout 34 = .ok (.iconst 1, 1) := by decide +kernel
theorem dX9_pageFanout_35 : decode cX9_pageFanout 35 = .ok (.invokevirtual 84, 3) := by decide +kernel
theorem dX9_pageFanout_38 : decode cX9_pageFanout 38 = .ok (.ireturn, 1) := by decide +kernel
set_option maxRecDepth 20000 in
theorem ggX9_pageFanout_X9_at : GoodIn wsX9_pageFanout wsX9_at := goodIn_r _ [14] (by decide +kernel) (by decide +kernel)
set_option maxRecDepth 20000 in
theorem ggX9_pageFanout_X9_done : GoodIn wsX9_pageFanout wsX9_done := goodIn_r _ [18, 19, 24, 25, 26, 27, 28, 29, 30, 31, 32, 33, 34, 35, 36, 37, 38, 39, 40, 41, 42, 43, 44, 45, 46, 47, 48, 49, 50, 51, 52, 53, 54, 55, 56, 57] (by decide +kernel) (by decide +kernel)
set_option maxRecDepth 20000 in
theorem ggX9_pageFanout_X9_fails : GoodIn wsX9_pageFanout wsX9_fails := goodIn_r _ [23, 19, 24, 25, 26, 27, 28, 29, 30, 31, 32, 33, 34, 35, 36, 37, 38, 39, 40, 41, 42, 43, 44, 45, 46, 47, 48, 49, 50, 51, 52, 53, 54, 55, 56, 57] (by decide +kernel) (by decide +kernel)
set_option maxRecDepth 20000 in
theorem ggX9_pageFanout_X9_isPage : GoodIn wsX9_pageFanout wsX9_isPage := goodIn_r _ [7, 2, 8, 9, 10, 6, 11, 24, 25, 26, 27, 28, 29, 30, 31, 32, 33, 34, 35, 36, 37, 38, 39, 40, 41, 42, 43, 44, 45, 46, 47, 48, 49, 50, 51, 52, 53, 54, 55, 56, 57] (by decide +kernel) (by decide +kernel)
def wp_X9_pageFanout (x1 : Int32) (x2 : Int32) (n : Nat → Int32) (g : Nat → Nat → Int32) (K : Int32 → (Nat → Int32) → (Nat → Nat → Int32) → Prop) : Prop :=
  wp_X9_isPage x1 x2 n g (fun r_1 => ((r_1 = (0 : Int32) → wp_X9_fails (1 : Int32) n g (fun r_3 n_5 g_6 => K r_3 n_5 g_6)) ∧
 (¬ (r_1 = (0 : Int32)) → wp_X9_at (((n 13) - (1 : Int32)) - x1) x2 n g (fun r_7 => vp_in r_7 (mlen 15) ∧ ∀ v_9 : Int32, v_9 = g 15 (r_7).toNatClampNeg → wp_X9_done v_9 n g (fun r_10 n_12 g_13 => K r_10 n_12 g_13)))))
set_option maxHeartbeats 4000000 in
set_option maxRecDepth 100000 in
theorem cc_X9_pageFanout (l : Launch) (G : GG) {mo : Nat} {ad : Nat → Nat} (had : MAd mo ad) {n : Nat → Int32} {g : Nat → Nat → Int32} {sz : Nat} {x1 : Int32} {x2 : Int32} {K : Int32 → (Nat → Int32) → (Nat → Nat → Int32) → Prop} (h : wp_X9_pageFanout x1 x2 n g K) : Met l yX9_pageFanout wsX9_pageFanout ({ frames := 2, cells := 0, slots := 0, locals := 44 } : Room) (FP G [.ref mo, .int x1, .int x2] (mf mo ad n g) sz) (va_Qi (fun r f9 => ∃ n9 g9, f9 = mf mo ad n9 g9 ∧ K r n9 g9 : Int32 → FT → Prop) (FB G (fA (mf mo ad n g) sz)) (fA (mf mo ad n g) sz)) 0 0 (fA (mf mo ad n g) sz) := by
  refine Met.ofW (cc := cX9_pageFanout) (maxL := 3) (ret := (some .int)) (by decide) rfl ?_
  intro p e s m args below meth c s₁ B hml hv
  obtain ⟨rfl, hsz, hF, hK, hZ⟩ := hv
  have hx := B.exec
  have hb := B.bytes
  have hr := B.returns
  have hts := atoms_spec (ws := wsX9_pageFanout) B.pre
  have hown : s.vm.findClass RX9 = some m.cls := findClass_of_methodNamed B.named
  have hlocks := B.notSynchronized
  subst hsz
  have hF := hF.self (sz := s.heap.size)
  generalize hAe : fA (mf mo ad n g) s.heap.size = A at hF hZ ⊢
  have hA : ∀ q : Nat, s.heap.size ≤ q → A q := fun q h => by rw [← hAe]; exact Or.inr h
  have hS : va_S A s.heap s.heap [] := va_S.rf
  have hin_X9 : ∀ w ∈ wsX90, w ∈ wsX9_pageFanout := by decide +kernel
  have hl := lv_entry ([.ref mo, .int x1, .int x2]) (n := 3) (Nat.le_of_ble_eq_true rfl)
  rw [lg_entry_eq]
  generalize (lg_sl ([.ref mo, .int x1, .int x2]) ++ List.replicate (3 - (lg_sl ([.ref mo, .int x1, .int x2])).length) Slot.unset).toArray = ls at hl ⊢
  have hl : lv_has ls 3 [(0, .ref mo), (1, .int x1), (2, .int x2)] := hl
  unfold wp_X9_pageFanout at h
  refine lv_aload_n hx hb dX9_pageFanout_0 rfl (lv_at hl 0 rfl) ?_
  refine lv_iload_n hx hb dX9_pageFanout_1 rfl (lv_at hl 1 rfl) ?_
  refine lv_iload_n hx hb dX9_pageFanout_2 rfl (lv_at hl 2 rfl) ?_
  refine fw_cV_i_p (As := [.int x1, .int x2]) (rest := []) ⟨hx, hb, hml, hown, hts⟩ (cc_X9_isPage l G had h) (⟨callB_of 2 hts ggX9_pageFanout_X9_isPage rfl rfl rfl (hts (.initialized RX9) (by decide +kernel)) (hts (.methodLink RX9 210 yX9_isPage) (by decide +kernel)) (by decide +kernel) ⟨Nat.le_of_ble_eq_true rfl, Nat.le_of_ble_eq_true rfl⟩, hts (.instanceMethod yX9_isPage) (by decide +kernel), hts (.selects RX9 yX9_isPage yX9_isPage) (by decide +kernel)⟩) rfl mf_obj hK hZ hF hS hA rfl hl.1 rfl (Nat.le_of_ble_eq_true rfl) dX9_pageFanout_3 ⟨Nat.zero_le _, Nat.zero_le _⟩ (fun r_1 H locs h hF hS => ?_)
  obtain ⟨h1, h2⟩ := h
  refine lv_if_eq (tgt := 33) hx hb dX9_pageFanout_6 (by decide) (fun c_2 => ?_) (fun c_2 => ?_)
  · have h := h1 c_2
    refine lv_aload_n hx hb dX9_pageFanout_33 rfl (lv_at hl 0 rfl) ?_
    refine lv_iconst (v := (1 : Int32)) hx hb dX9_pageFanout_34 (by decide) ?_
    refine fw_cV_i (As := [.int (1 : Int32)]) (rest := []) ⟨hx, hb, hml, hown, hts⟩ (cc_X9_fails l G had h) (⟨callB_of 1 hts ggX9_pageFanout_X9_fails rfl rfl rfl (hts (.initialized RX9) (by decide +kernel)) (hts (.methodLink RX9 84 yX9_fails) (by decide +kernel)) (by decide +kernel) ⟨Nat.le_of_ble_eq_true rfl, Nat.le_of_ble_eq_true rfl⟩, hts (.instanceMethod yX9_fails) (by decide +kernel), hts (.selects RX9 yX9_fails yX9_fails) (by decide +kernel)⟩) rfl mf_obj hK hZ hF hS hA rfl hl.1 rfl (Nat.le_of_ble_eq_true rfl) dX9_pageFanout_35 ⟨Nat.zero_le _, Nat.zero_le _⟩ (fun r_3 f9 H locs h hF hS => ?_)
    obtain ⟨n_5, g_6, rfl, h⟩ := h
    exact W.iret (v := r_3) hx hb hr (fun t ht hW => ⟨⟨r_3, (mf mo ad n_5 g_6), rfl, ⟨_, _, rfl, h⟩, by rw [ht]; exact hF, FK.moved hW.alike hK⟩, hS.F ht⟩) hS.2.2 dX9_pageFanout_38
  · have h := h2 c_2
    refine lv_aload_n hx hb dX9_pageFanout_9 rfl (lv_at hl 0 rfl) ?_
    refine lv_aload_n hx hb dX9_pageFanout_10 rfl (lv_at hl 0 rfl) ?_
    refine fw_get (C := RX9) (T := TX9) (N := 34) hx hb hts hin_X9 hown hK hF mf_obj rfl 15 (by decide) (hts (.fieldLink RX9 35 "FrontCodedIndexModel" "parts" "[I") (by decide +kernel)) (fun _ h9 => h9) rfl dX9_pageFanout_11 ?_
    refine lv_aload_n hx hb dX9_pageFanout_14 rfl (lv_at hl 0 rfl) ?_
    refine fw_get (C := RX9) (T := TX9) (N := 34) hx hb hts hin_X9 hown hK hF mf_obj rfl 13 (by decide) (hts (.fieldLink RX9 29 "FrontCodedIndexModel" "levels" "I") (by decide +kernel)) (fun _ h9 => h9) rfl dX9_pageFanout_15 ?_
    refine lv_iconst (v := (1 : Int32)) hx hb dX9_pageFanout_18 (by decide) ?_
    refine lv_isub hx hb dX9_pageFanout_19 ?_
    refine lv_iload_n hx hb dX9_pageFanout_20 rfl (lv_at hl 1 rfl) ?_
    refine lv_isub hx hb dX9_pageFanout_21 ?_
    refine lv_iload_n hx hb dX9_pageFanout_22 rfl (lv_at hl 2 rfl) ?_
    refine fw_cS_i_p (As := [.int (((n 13) - (1 : Int32)) - x1), .int x2]) (rest := [.ref (ad 15), .ref mo]) ⟨hx, hb, hml, hown, hts⟩ (cc_X9_at l G had h) (⟨callB_of 2 hts ggX9_pageFanout_X9_at rfl rfl rfl (hts (.initialized RX9) (by decide +kernel)) (hts (.methodLink RX9 113 yX9_at) (by decide +kernel)) (by decide +kernel) ⟨Nat.le_of_ble_eq_true rfl, Nat.le_of_ble_eq_true rfl⟩, hts (.static yX9_at) (by decide +kernel)⟩) hK hZ hF hS hA rfl hl.1 rfl (Nat.le_of_ble_eq_true rfl) dX9_pageFanout_23 ⟨Nat.zero_le _, Nat.zero_le _⟩ (fun r_7 H locs h hF hS => ?_)
    obtain ⟨hi_i_8, h⟩ := h
    refine fw_iald hx hb hK hF (mf_arr had 15 (by decide)) hi_i_8 dX9_pageFanout_26 ?_
    refine lv_topi (fun v_9 e_v_9 => ?_)
    have h := h v_9 e_v_9
    refine fw_cV_i (As := [.int v_9]) (rest := []) ⟨hx, hb, hml, hown, hts⟩ (cc_X9_done l G had h) (⟨callB_of 1 hts ggX9_pageFanout_X9_done rfl rfl rfl (hts (.initialized RX9) (by decide +kernel)) (hts (.methodLink RX9 91 yX9_done) (by decide +kernel)) (by decide +kernel) ⟨Nat.le_of_ble_eq_true rfl, Nat.le_of_ble_eq_true rfl⟩, hts (.instanceMethod yX9_done) (by decide +kernel), hts (.selects RX9 yX9_done yX9_done) (by decide +kernel)⟩) rfl mf_obj hK hZ hF hS hA rfl hl.1 rfl (Nat.le_of_ble_eq_true rfl) dX9_pageFanout_27 ⟨Nat.zero_le _, Nat.zero_le _⟩ (fun r_10 f9 H locs h hF hS => ?_)
    obtain ⟨n_12, g_13, rfl, h⟩ := h
    refine lv_goto (tgt := 38) hx hb dX9_pageFanout_30 (by decide) ?_
    exact W.iret (v := r_10) hx hb hr (fun t ht hW => ⟨⟨r_10, (mf mo ad n_12 g_13), rfl, ⟨_, _, rfl, h⟩, by rw [ht]; exact hF, FK.moved hW.alike hK⟩, hS.F ht⟩) hS.2.2 dX9_pageFanout_38
theorem dX9_pageSize_0 : decode cX9_pageSize 0 = .ok (.aload_n 0, 1) := by decide +kernel
theorem dX9_pageSize_1 : decode cX9_pageSize 1 = .ok (.iload_n 1, 1) := by decide +kernel
theorem dX9_pageSize_2 : decode cX9_pageSize 2 = .ok (.iload_n 2, 1) := by decide +kernel
theorem dX9_pageSize_3 : decode cX9_pageSize 3 = .ok (.invokevirtual 210, 3) := by decide +kernel
theorem dX9_pageSize_6 : decode cX9_pageSize 6 = .ok (.ifCond .eq 23, 3) := by decide +kernel
theorem dX9_pageSize_9 : decode cX9_pageSize 9 = .ok (.aload_n 0, 1) := by decide +kernel
theorem dX9_pageSize_10 : decode cX9_pageSize 10 = .ok (.aload_n 0, 1) := by decide +kernel
theorem dX9_pageSize_11 : decode cX9_pageSize 11 = .ok (.aload_n 0, 1) := by decide +kernel
theorem dX9_pageSize_12 : decode cX9_pageSize 12 = .ok (.getfield 29, 3) := by decide +kernel
theorem dX9_pageSize_15 : decode cX9_pageSize 15 = .ok (.iconst 1, 1) := by decide +kernel
theorem dX9_pageSize_16 : decode cX9_pageSize 16 = .ok (.isub, 1) := by decide +kernel
theorem dX9_pageSize_17 : decode cX9_pageSize 17 = .ok (.iload_n 1, 1) := by decide +kernel
theorem dX9_pageSize_18 : decode cX9_pageSize 18 = .ok (.isub, 1) := by decide +kernel
theorem dX9_pageSize_19 : decode cX9_pageSize 19 = .ok (.iload_n 2, 1) := by decide +kernel
theorem dX9_pageSize_20 : decode cX9_pageSize 20 = .ok (.invokevirtual 161, 3) := by decide +kernel
theorem dX9_pageSize_23 : decode cX9_pageSize 23 = .ok (.invokevirtual 91, 3) := by decide +kernel
theorem dX9_pageSize_26 : decode cX9_pageSize 26 = .ok (.goto 8, 3) := by decide +kernel
theorem dX9_pageSize_29 : decode cX9_pageSize 29 = .ok (.aload_n 0, 1) := by decide +kernel
theorem dX9_pageSize_30 : decode cX9_pageSize 30 = .ok (.iconst 1, 1) := by decide +kernel
theorem dX9_pageSize_31 : decode cX9_pageSize 31 = .ok (.invokevirtual 84, 3) := by decide +kernel
theorem dX9_pageSize_34 : decode cX9_pageSize 34 = .ok (.ireturn, 1) := by decide +kernel
set_option maxRecDepth 20000 in
theorem ggX9_pageSize_X9_done : GoodIn wsX9_pageSize wsX9_done := goodIn_r _ [49, 50, 55, 56, 57, 58, 59, 60, 61, 62, 63, 64, 65, 66, 67, 68, 69, 70, 71, 72, 73, 74, 75, 76, 77, 78, 79, 80, 81, 82, 83, 84, 85, 86, 87, 88] (by decide +kernel) (by decide +kernel)
set_option maxRecDepth 20000 in
theorem ggX9_pageSize_X9_fails : GoodIn wsX9_pageSize wsX9_fails := goodIn_r _ [54, 50, 55, 56, 57, 58, 59, 60, 61, 62, 63, 64, 65, 66, 67, 68, 69, 70, 71, 72, 73, 74, 75, 76, 77, 78, 79, 80, 81, 82, 83, 84, 85, 86, 87, 88] (by decide +kernel) (by decide +kernel)
set_option maxRecDepth 20000 in
theorem ggX9_pageSize_X9_isPage : GoodIn wsX9_pageSize wsX9_isPage := goodIn_r _ [6, 1, 7, 8, 9, 5, 10, 55, 56, 57, 58, 59, 60, 61, 62, 63, 64, 65, 66, 67, 68, 69, 70, 71, 72, 73, 74, 75, 76, 77, 78, 79, 80, 81, 82, 83, 84, 85, 86, 87, 88] (by decide +kernel) (by decide +kernel)
set_option maxRecDepth 20000 in
theorem ggX9_pageSize_X9_sizeOfPage : GoodIn wsX9_pageSize wsX9_sizeOfPage := goodIn_r _ [14, 15, 16, 17, 18, 5, 19, 20, 21, 22, 23, 24, 25, 26, 27, 28, 29, 30, 31, 32, 33, 34, 35, 36, 37, 38, 39, 40, 41, 42, 43, 44, 45, 55, 56, 57, 58, 59, 60, 61, 62, 63, 64, 65, 66, 67, 68, 69, 70, 71, 72, 73, 74, 75, 76, 77, 78, 79, 80, 81, 82, 83, 84, 85, 86, 87, 88] (by decide +kernel) (by decide +kernel)
def wp_X9_pageSize (x1 : Int32) (x2 : Int32) (n : Nat → Int32) (g : Nat → Nat → Int32) (K : Int32 → (Nat → Int32) → (Nat → Nat → Int32) → Prop) : Prop :=
  wp_X9_isPage x1 x2 n g (fun r_1 => ((r_1 = (0 : Int32) → wp_X9_fails (1 : Int32) n g (fun r_3 n_5 g_6 => K r_3 n_5 g_6)) ∧
 (¬ (r_1 = (0 : Int32)) → wp_X9_sizeOfPage (((n 13) - (1 : Int32)) - x1) x2 n g (fun r_7 => wp_X9_done r_7 n g (fun r_8 n_10 g_11 => K r_8 n_10 g_11)))))
set_option maxHeartbeats 4000000 in
set_option maxRecDepth 100000 in
theorem cc_X9_pageSize (l : Launch) (G : GG) {mo : Nat} {ad : Nat → Nat} (had : MAd mo ad) {n : Nat → Int32} {g : Nat → Nat → Int32} {sz : Nat} {x1 : Int32} {x2 : Int32} {K : Int32 → (Nat → Int32) → (Nat → Nat → Int32) → Prop} (h : wp_X9_pageSize x1 x2 n g K) : Met l yX9_pageSize wsX9_pageSize ({ frames := 6, cells := 0, slots := 0, locals := 142 } : Room) (FP G [.ref mo, .int x1, .int x2] (mf mo ad n g) sz) (va_Qi (fun r f9 => ∃ n9 g9, f9 = mf mo ad n9 g9 ∧ K r n9 g9 : Int32 → FT → Prop) (FB G (fA (mf mo ad n g) sz)) (fA (mf mo ad n g) sz)) 0 0 (fA (mf mo ad n g) sz) := by
  refine Met.ofW (cc := cX9_pageSize) (maxL := 3) (ret := (some .int)) (by decide) rfl ?_
  intro p e s m args below meth c s₁ B hml hv
  obtain ⟨rfl, hsz, hF, hK, hZ⟩ := hv
  have hx := B.exec
  have hb := B.bytes
  have hr := B.returns
  have hts := atoms_spec (ws := wsX9_pageSize) B.pre
  have hown : s.vm.findClass RX9 = some m.cls := findClass_of_methodNamed B.named
  have hlocks := B.notSynchronized
  subst hsz
  have hF := hF.self (sz := s.heap.size)
  generalize hAe : fA (mf mo ad n g) s.heap.size = A at hF hZ ⊢
  have hA : ∀ q : Nat, s.heap.size ≤ q → A q := fun q h => by rw [← hAe]; exact Or.inr h
  have hS : va_S A s.heap s.heap [] := va_S.rf
  have hin_X9 : ∀ w ∈ wsX90, w ∈ wsX9_pageSize := by decide +kernel
  have hl := lv_entry ([.ref mo, .int x1, .int x2]) (n := 3) (Nat.le_of_ble_eq_true rfl)
  rw [lg_entry_eq]
  generalize (lg_sl ([.ref mo, .int x1, .int x2]) ++ List.replicate (3 - (lg_sl ([.ref mo, .int x1, .int x2])).length) Slot.unset).toArray = ls at hl ⊢
  have hl : lv_has ls 3 [(0, .ref mo), (1, .int x1), (2, .int x2)] := hl
  unfold wp_X9_pageSize at h
  refine lv_aload_n hx hb dX9_pageSize_0 rfl (lv_at hl 0 rfl) ?_
  refine lv_iload_n hx hb dX9_pageSize_1 rfl (lv_at hl 1 rfl) ?_
  refine lv_iload_n hx hb dX9_pageSize_2 rfl (lv_at hl 2 rfl) ?_
  refine fw_cV_i_p (As := [.int x1, .int x2]) (rest := []) ⟨hx, hb, hml, hown, hts⟩ (cc_X9_isPage l G had h) (⟨callB_of 2 hts ggX9_pageSize_X9_isPage rfl rfl rfl (hts (.initialized RX9) (by decide +kernel)) (hts (.methodLink RX9 210 yX9_isPage) (by decide +kernel)) (by decide +kernel) ⟨Nat.le_of_ble_eq_true rfl, Nat.le_of_ble_eq_true rfl⟩, hts (.instanceMethod yX9_isPage) (by decide +kernel), hts (.selects RX9 yX9_isPage yX9_isPage) (by decide +kernel)⟩) rfl mf_obj hK hZ hF hS hA rfl hl.1 rfl (Nat.le_of_ble_eq_true rfl) dX9_pageSize_3 ⟨Nat.zero_le _, Nat.zero_le _⟩ (fun r_1 H locs h hF hS => ?_)
  obtain ⟨h1, h2⟩ := h
  refine lv_if_eq (tgt := 29) hx hb dX9_pageSize_6 (by decide) (fun c_2 => ?_) (fun c_2 => ?_)
  · have h := h1 c_2
    refine lv_aload_n hx hb dX9_pageSize_29 rfl (lv_at hl 0 rfl) ?_
    refine lv_iconst (v := (1 : Int32)) hx hb dX9_pageSize_30 (by decide) ?_
    refine fw_cV_i (As := [.int (1 : Int32)]) (rest := []) ⟨hx, hb, hml, hown, hts⟩ (cc_X9_fails l G had h) (⟨callB_of 1 hts ggX9_pageSize_X9_fails rfl rfl rfl (hts (.initialized RX9) (by decide +kernel)) (hts (.methodLink RX9 84 yX9_fails) (by decide +kernel)) (by decide +kernel) ⟨Nat.le_of_ble_eq_true rfl, Nat.le_of_ble_eq_true rfl⟩, hts (.instanceMethod yX9_fails) (by decide +kernel), hts (.selects RX9 yX9_fails yX9_fails) (by decide +kernel)⟩) rfl mf_obj hK hZ hF hS hA rfl hl.1 rfl (Nat.le_of_ble_eq_true rfl) dX9_pageSize_31 ⟨Nat.zero_le _, Nat.zero_le _⟩ (fun r_3 f9 H locs h hF hS => ?_)
    obtain ⟨n_5, g_6, rfl, h⟩ := h
    exact W.iret (v := r_3) hx hb hr (fun t ht hW => ⟨⟨r_3, (mf mo ad n_5 g_6), rfl, ⟨_, _, rfl, h⟩, by rw [ht]; exact hF, FK.moved hW.alike hK⟩, hS.F ht⟩) hS.2.2 dX9_pageSize_34
  · have h := h2 c_2
    refine lv_aload_n hx hb dX9_pageSize_9 rfl (lv_at hl 0 rfl) ?_
    refine lv_aload_n hx hb dX9_pageSize_10 rfl (lv_at hl 0 rfl) ?_
    refine lv_aload_n hx hb dX9_pageSize_11 rfl (lv_at hl 0 rfl) ?_
    refine fw_get (C := RX9) (T := TX9) (N := 34) hx hb hts hin_X9 hown hK hF mf_obj rfl 13 (by decide) (hts (.fieldLink RX9 29 "FrontCodedIndexModel" "levels" "I") (by decide +kernel)) (fun _ h9 => h9) rfl dX9_pageSize_12 ?_
    refine lv_iconst (v := (1 : Int32)) hx hb dX9_pageSize_15 (by decide) ?_
    refine lv_isub hx hb dX9_pageSize_16 ?_
    refine lv_iload_n hx hb dX9_pageSize_17 rfl (lv_at hl 1 rfl) ?_
    refine lv_isub hx hb dX9_pageSize_18 ?_
    refine lv_iload_n hx hb dX9_pageSize_19 rfl (lv_at hl 2 rfl) ?_
    refine fw_cV_i_p (As := [.int (((n 13) - (1 : Int32)) - x1), .int x2]) (rest := [.ref mo]) ⟨hx, hb, hml, hown, hts⟩ (cc_X9_sizeOfPage l G had h) (⟨callB_of 2 hts ggX9_pageSize_X9_sizeOfPage rfl rfl rfl (hts (.initialized RX9) (by decide +kernel)) (hts (.methodLink RX9 161 yX9_sizeOfPage) (by decide +kernel)) (by decide +kernel) ⟨Nat.le_of_ble_eq_true rfl, Nat.le_of_ble_eq_true rfl⟩, hts (.instanceMethod yX9_sizeOfPage) (by decide +kernel), hts (.selects RX9 yX9_sizeOfPage yX9_sizeOfPage) (by decide +kernel)⟩) rfl mf_obj hK hZ hF hS hA rfl hl.1 rfl (Nat.le_of_ble_eq_true rfl) dX9_pageSize_20 ⟨Nat.zero_le _, Nat.zero_le _⟩ (fun r_7 H locs h hF hS => ?_)
    refine fw_cV_i (As := [.int r_7]) (rest := []) ⟨hx, hb, hml, hown, hts⟩ (cc_X9_done l G had h) (⟨callB_of 1 hts ggX9_pageSize_X9_done rfl rfl rfl (hts (.initialized RX9) (by decide +kernel)) (hts (.methodLink RX9 91 yX9_done) (by decide +kernel)) (by decide +kernel) ⟨Nat.le_of_ble_eq_true rfl, Nat.le_of_ble_eq_true rfl⟩, hts (.instanceMethod yX9_done) (by decide +kernel), hts (.selects RX9 yX9_done yX9_done) (by decide +kernel)⟩) rfl mf_obj hK hZ hF hS hA rfl hl.1 rfl (Nat.le_of_ble_eq_true rfl) dX9_pageSize_23 ⟨Nat.zero_le _, Nat.zero_le _⟩ (fun r_8 f9 H locs h hF hS => ?_)
    obtain ⟨n_10, g_11, rfl, h⟩ := h
    refine lv_goto (tgt := 34) hx hb dX9_pageSize_26 (by decide) ?_
    exact W.iret (v := r_8) hx hb hr (fun t ht hW => ⟨⟨r_8, (mf mo ad n_10 g_11), rfl, ⟨_, _, rfl, h⟩, by rw [ht]; exact hF, FK.moved hW.alike hK⟩, hS.F ht⟩) hS.2.2 dX9_pageSize_34
theorem dX9_put_0 : decode cX9_put 0 = .ok (.aload_n 0, 1) := by decide +kernel
theorem dX9_put_1 : decode cX9_put 1 = .ok (.aload_n 0, 1) := by decide +kernel
theorem dX9_put_2 : decode cX9_put 2 = .ok (.getfield 7, 3) := by decide +kernel
theorem dX9_put_5 : decode cX9_put 5 = .ok (.aload_n 0, 1) := by decide +kernel
theorem dX9_put_6 : decode cX9_put 6 = .ok (.getfield 88, 3) := by decide +kernel
theorem dX9_put_9 : decode cX9_put 9 = .ok (.invokevirtual 171, 3) := by decide +kernel
theorem dX9_put_12 : decode cX9_put 12 = .ok (.istore_n 2, 1) := by decide +kernel
theorem dX9_put_13 : decode cX9_put 13 = .ok (.aload_n 0, 1) := by decide +kernel
theorem dX9_put_14 : decode cX9_put 14 = .ok (.iload_n 2, 1) := by decide +kernel
theorem dX9_put_15 : decode cX9_put 15 = .ok (.invokevirtual 175, 3) := by decide +kernel
theorem dX9_put_18 : decode cX9_put 18 = .ok (.ifCond .eq 16, 3) := by decide +kernel
theorem dX9_put_21 : decode cX9_put 21 = .ok (.aload_n 0, 1) := by decide +kernel
theorem dX9_put_22 : decode cX9_put 22 = .ok (.getfield 26, 3) := by decide +kernel
theorem dX9_put_25 : decode cX9_put 25 = .ok (.iload_n 2, 1) := by decide +kernel
theorem dX9_put_26 : decode cX9_put 26 = .ok (.iload_n 1, 1) := by decide +kernel
theorem dX9_put_27 : decode cX9_put 27 = .ok (.iastore, 1) := by decide +kernel
theorem dX9_put_28 : decode cX9_put 28 = .ok (.aload_n 0, 1) := by decide +kernel
theorem dX9_put_29 : decode cX9_put 29 = .ok (.iconst 0, 1) := by decide +kernel
theorem dX9_put_30 : decode cX9_put 30 = .ok (.invokevirtual 179, 3) := by decide +kernel
theorem dX9_put_33 : decode cX9_put 33 = .ok (.ireturn, 1) := by decide +kernel
theorem dX9_put_34 : decode cX9_put 34 = .ok (.aload_n 0, 1) := by decide +kernel
theorem dX9_put_35 : decode cX9_put 35 = .ok (.getfield 106, 3) := by decide +kernel
theorem dX9_put_38 : decode cX9_put 38 = .ok (.sipush 300, 3) := by decide +kernel
theorem dX9_put_41 : decode cX9_put 41 = .ok (.if_icmp .ne 9, 3) := by decide +kernel
theorem dX9_put_44 : decode cX9_put 44 = .ok (.aload_n 0, 1) := by decide +kernel
theorem dX9_put_45 : decode cX9_put 45 = .ok (.iconst 1, 1) := by decide +kernel
theorem dX9_put_46 : decode cX9_put 46 = .ok (.invokevirtual 183, 3) := by decide +kernel
theorem dX9_put_49 : decode cX9_put 49 = .ok (.ireturn, 1) := by decide +kernel
theorem dX9_put_50 : decode cX9_put 50 = .ok (.aload_n 0, 1) := by decide +kernel
theorem dX9_put_51 : decode cX9_put 51 = .ok (.aload_n 0, 1) := by decide +kernel
theorem dX9_put_52 : decode cX9_put 52 = .ok (.getfield 7, 3) := by decide +kernel
theorem dX9_put_55 : decode cX9_put 55 = .ok (.aload_n 0, 1) := by decide +kernel
theorem dX9_put_56 : decode cX9_put 56 = .ok (.getfield 88, 3) := by decide +kernel
theorem dX9_put_59 : decode cX9_put 59 = .ok (.invokevirtual 186, 3) := by decide +kernel
theorem dX9_put_62 : decode cX9_put 62 = .ok (.istore_n 3, 1) := by decide +kernel
theorem dX9_put_63 : decode cX9_put 63 = .ok (.aload_n 0, 1) := by decide +kernel
theorem dX9_put_64 : decode cX9_put 64 = .ok (.getfield 106, 3) := by decide +kernel
theorem dX9_put_67 : decode cX9_put 67 = .ok (.istore 4, 2) := by decide +kernel
theorem dX9_put_69 : decode cX9_put 69 = .ok (.iload 4, 2) := by decide +kernel
theorem dX9_put_71 : decode cX9_put 71 = .ok (.iload_n 2, 1) := by decide +kernel
theorem dX9_put_72 : decode cX9_put 72 = .ok (.if_icmp .le 19, 3) := by decide +kernel
theorem dX9_put_75 : decode cX9_put 75 = .ok (.aload_n 0, 1) := by decide +kernel
theorem dX9_put_76 : decode cX9_put 76 = .ok (.iload 4, 2) := by decide +kernel
theorem dX9_put_78 : decode cX9_put 78 = .ok (.iload 4, 2) := by decide +kernel
theorem dX9_put_80 : decode cX9_put 80 = .ok (.iconst 1, 1) := by decide +kernel
theorem dX9_put_81 : decode cX9_put 81 = .ok (.isub, 1) := by decide +kernel
theorem dX9_put_82 : decode cX9_put 82 = .ok (.invokevirtual 189, 3) := by decide +kernel
theorem dX9_put_85 : decode cX9_put 85 = .ok (.iinc 4 (-1), 3) := by decide +kernel
theorem dX9_put_88 : decode cX9_put 88 = .ok (.goto (-19), 3) := by decide +kernel
theorem dX9_put_91 : decode cX9_put 91 = .ok (.aload_n 0, 1) := by decide +kernel
theorem dX9_put_92 : decode cX9_put 92 = .ok (.dup, 1) := by decide +kernel
theorem dX9_put_93 : decode cX9_put 93 = .ok (.getfield 106, 3) := by decide +kernel
theorem dX9_put_96 : decode cX9_put 96 = .ok (.iconst 1, 1) := by decide +kernel
theorem dX9_put_97 : decode cX9_put 97 = .ok (.iadd, 1) := by decide +kernel
theorem dX9_put_98 : decode cX9_put 98 = .ok (.putfield 106, 3) := by decide +kernel
theorem dX9_put_101 : decode cX9_put 101 = .ok (.aload_n 0, 1) := by decide +kernel
theorem dX9_put_102 : decode cX9_put 102 = .ok (.getfield 20, 3) := by decide +kernel
theorem dX9_put_105 : decode cX9_put 105 = .ok (.iload_n 2, 1) := by decide +kernel
theorem dX9_put_106 : decode cX9_put 106 = .ok (.aload_n 0, 1) := by decide +kernel
theorem dX9_put_107 : decode cX9_put 107 = .ok (.getfield 88, 3) := by decide +kernel
theorem dX9_put_110 : decode cX9_put 110 = .ok (.iastore, 1) := by decide +kernel
theorem dX9_put_111 : decode cX9_put 111 = .ok (.aload_n 0, 1) := by decide +kernel
theorem dX9_put_112 : decode cX9_put 112 = .ok (.getfield 26, 3) := by decide +kernel
theorem dX9_put_115 : decode cX9_put 115 = .ok (.iload_n 2, 1) := by decide +kernel
theorem dX9_put_116 : decode cX9_put 116 = .ok (.iload_n 1, 1) := by decide +kernel
theorem dX9_put_117 : decode cX9_put 117 = .ok (.iastore, 1) := by decide +kernel
theorem dX9_put_118 : decode cX9_put 118 = .ok (.iconst 0, 1) := by decide +kernel
theorem dX9_put_119 : decode cX9_put 119 = .ok (.istore 4, 2) := by decide +kernel
theorem dX9_put_121 : decode cX9_put 121 = .ok (.iload 4, 2) := by decide +kernel
theorem dX9_put_123 : decode cX9_put 123 = .ok (.aload_n 0, 1) := by decide +kernel
theorem dX9_put_124 : decode cX9_put 124 = .ok (.getfield 88, 3) := by decide +kernel
theorem dX9_put_127 : decode cX9_put 127 = .ok (.if_icmp .ge 28, 3) := by decide +kernel
theorem dX9_put_130 : decode cX9_put 130 = .ok (.aload_n 0, 1) := by decide +kernel
theorem dX9_put_131 : decode cX9_put 131 = .ok (.getfield 23, 3) := by decide +kernel
theorem dX9_put_134 : decode cX9_put 134 = .ok (.bipush 12, 2) := by decide +kernel
theorem dX9_put_136 : decode cX9_put 136 = .ok (.iload_n 2, 1) := by decide +kernel
theorem dX9_put_137 : decode cX9_put 137 = .ok (.imul, 1) := by decide +kernel
theorem dX9_put_138 : decode cX9_put 138 = .ok (.iload 4, 2) := by decide +kernel
theorem dX9_put_140 : decode cX9_put 140 = .ok (.iadd, 1) := by decide +kernel
theorem dX9_put_141 : decode cX9_put 141 = .ok (.aload_n 0, 1) := by decide +kernel
theorem dX9_put_142 : decode cX9_put 142 = .ok (.getfield 7, 3) := by decide +kernel
theorem dX9_put_145 : decode cX9_put 145 = .ok (.iload 4, 2) := by decide +kernel
theorem dX9_put_147 : decode cX9_put 147 = .ok (.iaload, 1) := by decide +kernel
theorem dX9_put_148 : decode cX9_put 148 = .ok (.iastore, 1) := by decide +kernel
theorem dX9_put_149 : decode cX9_put 149 = .ok (.iinc 4 1, 3) := by decide +kernel
theorem dX9_put_152 : decode cX9_put 152 = .ok (.goto (-31), 3) := by decide +kernel
theorem dX9_put_155 : decode cX9_put 155 = .ok (.aload_n 0, 1) := by decide +kernel
theorem dX9_put_156 : decode cX9_put 156 = .ok (.getfield 35, 3) := by decide +kernel
theorem dX9_put_159 : decode cX9_put 159 = .ok (.iconst 0, 1) := by decide +kernel
theorem dX9_put_160 : decode cX9_put 160 = .ok (.iload_n 3, 1) := by decide +kernel
theorem dX9_put_161 : decode cX9_put 161 = .ok (.invokestatic 113, 3) := by decide +kernel
theorem dX9_put_164 : decode cX9_put 164 = .ok (.dup2, 1) := by decide +kernel
theorem dX9_put_165 : decode cX9_put 165 = .ok (.iaload, 1) := by decide +kernel
theorem dX9_put_166 : decode cX9_put 166 = .ok (.iconst 1, 1) := by decide +kernel
theorem dX9_put_167 : decode cX9_put 167 = .ok (.iadd, 1) := by decide +kernel
theorem dX9_put_168 : decode cX9_put 168 = .ok (.iastore, 1) := by decide +kernel
theorem dX9_put_169 : decode cX9_put 169 = .ok (.iconst 0, 1) := by decide +kernel
theorem dX9_put_170 : decode cX9_put 170 = .ok (.istore 4, 2) := by decide +kernel
theorem dX9_put_172 : decode cX9_put 172 = .ok (.iload 4, 2) := by decide +kernel
theorem dX9_put_174 : decode cX9_put 174 = .ok (.iconst 4, 1) := by decide +kernel
theorem dX9_put_175 : decode cX9_put 175 = .ok (.if_icmp .ge 35, 3) := by decide +kernel
theorem dX9_put_178 : decode cX9_put 178 = .ok (.aload_n 0, 1) := by decide +kernel
theorem dX9_put_179 : decode cX9_put 179 = .ok (.getfield 44, 3) := by decide +kernel
theorem dX9_put_182 : decode cX9_put 182 = .ok (.iload 4, 2) := by decide +kernel
theorem dX9_put_184 : decode cX9_put 184 = .ok (.dup2, 1) := by decide +kernel
theorem dX9_put_185 : decode cX9_put 185 = .ok (.iaload, 1) := by decide +kernel
theorem dX9_put_186 : decode cX9_put 186 = .ok (.aload_n 0, 1) := by decide +kernel
theorem dX9_put_187 : decode cX9_put 187 = .ok (.getfield 44, 3) := by decide +kernel
theorem dX9_put_190 : decode cX9_put 190 = .ok (.iload 4, 2) := by decide +kernel
theorem dX9_put_192 : decode cX9_put 192 = .ok (.iaload, 1) := by decide +kernel
theorem dX9_put_193 : decode cX9_put 193 = .ok (.iload_n 2, 1) := by decide +kernel
theorem dX9_put_194 : decode cX9_put 194 = .ok (.if_icmp .lt 7, 3) := by decide +kernel
theorem dX9_put_197 : decode cX9_put 197 = .ok (.iconst 1, 1) := by decide +kernel
theorem dX9_put_198 : decode cX9_put 198 = .ok (.goto 4, 3) := by decide +kernel
theorem dX9_put_201 : decode cX9_put 201 = .ok (.iconst 0, 1) := by decide +kernel
theorem dX9_put_202 : decode cX9_put 202 = .ok (.iadd, 1) := by decide +kernel
theorem dX9_put_203 : decode cX9_put 203 = .ok (.iastore, 1) := by decide +kernel
theorem dX9_put_204 : decode cX9_put 204 = .ok (.iinc 4 1, 3) := by decide +kernel
theorem dX9_put_207 : decode cX9_put 207 = .ok (.goto (-35), 3) := by decide +kernel
theorem dX9_put_210 : decode cX9_put 210 = .ok (.aload_n 0, 1) := by decide +kernel
theorem dX9_put_211 : decode cX9_put 211 = .ok (.iload_n 3, 1) := by decide +kernel
theorem dX9_put_212 : decode cX9_put 212 = .ok (.invokevirtual 192, 3) := by decide +kernel
theorem dX9_put_215 : decode cX9_put 215 = .ok (.aload_n 0, 1) := by decide +kernel
theorem dX9_put_216 : decode cX9_put 216 = .ok (.iconst 1, 1) := by decide +kernel
theorem dX9_put_217 : decode cX9_put 217 = .ok (.invokevirtual 179, 3) := by decide +kernel
theorem dX9_put_220 : decode cX9_put 220 = .ok (.ireturn, 1) := by decide +kernel
set_option maxRecDepth 20000 in
theorem ggX9_put_X9_at : GoodIn wsX9_put wsX9_at := goodIn_r _ [50] (by decide +kernel) (by decide +kernel)
set_option maxRecDepth 20000 in
theorem ggX9_put_X9_entryTo : GoodIn wsX9_put wsX9_entryTo := goodIn_r _ [58, 5, 3, 6, 115, 116, 117, 118, 119, 120, 121, 122, 123, 124, 125, 126, 127, 128, 129, 130, 131, 132, 133, 134, 135, 136, 137, 138, 139, 140, 141, 142, 143, 144, 145, 146, 147, 148] (by decide +kernel) (by decide +kernel)
set_option maxRecDepth 20000 in
theorem ggX9_put_X9_grows : GoodIn wsX9_put wsX9_grows := goodIn_r _ [62, 63, 41, 64, 65, 66, 12, 67, 7, 44, 45, 46, 47, 48, 49, 50, 68, 69, 70, 71, 72, 73, 74, 75, 6, 5, 21, 22, 23, 76, 77, 78, 79, 42, 43, 51, 52, 53, 54, 80, 81, 82, 83, 84, 85, 86, 87, 88, 89, 90, 91, 92, 93, 94, 95, 96, 97, 98, 99, 100, 101, 102, 103, 104, 105, 106, 107, 108, 109, 110, 111, 112, 113, 114, 115, 116, 117, 118, 119, 120, 121, 122, 123, 124, 125, 126, 127, 128, 129, 130, 131, 132, 133, 134, 135, 136, 137, 138, 139, 140, 141, 142, 143, 144, 145, 146, 147, 148] (by decide +kernel) (by decide +kernel)
set_option maxRecDepth 20000 in
theorem ggX9_put_X9_isThere : GoodIn wsX9_put wsX9_isThere := goodIn_r _ [27, 4, 1, 2, 14, 15, 16, 12, 17, 6, 5, 18, 19, 20, 21, 22, 23, 115, 116, 117, 118, 119, 120, 121, 122, 123, 124, 125, 126, 127, 128, 129, 130, 131, 132, 133, 134, 135, 136, 137, 138, 139, 140, 141, 142, 143, 144, 145, 146, 147, 148] (by decide +kernel) (by decide +kernel)
set_option maxRecDepth 20000 in
theorem ggX9_put_X9_leafFor : GoodIn wsX9_put wsX9_leafFor := goodIn_r _ [40, 41, 7, 42, 43, 44, 45, 46, 12, 47, 48, 49, 50, 51, 52, 53, 54, 18, 19, 20, 21, 22, 23, 115, 116, 117, 118, 119, 120, 121, 122, 123, 124, 125, 126, 127, 128, 129, 130, 131, 132, 133, 134, 135, 136, 137, 138, 139, 140, 141, 142, 143, 144, 145, 146, 147, 148] (by decide +kernel) (by decide +kernel)
set_option maxRecDepth 20000 in
theorem ggX9_put_X9_less : GoodIn wsX9_put wsX9_less := goodIn_r _ [13, 4, 14, 15, 16, 12, 17, 6, 5, 18, 19, 20, 21, 22, 23, 115, 116, 117, 118, 119, 120, 121, 122, 123, 124, 125, 126, 127, 128, 129, 130, 131, 132, 133, 134, 135, 136, 137, 138, 139, 140, 141, 142, 143, 144, 145, 146, 147, 148] (by decide +kernel) (by decide +kernel)
set_option maxRecDepth 20000 in
theorem ggX9_put_X9_not : GoodIn wsX9_put wsX9_not := goodIn_r _ [36, 32, 115, 116, 117, 118, 119, 120, 121, 122, 123, 124, 125, 126, 127, 128, 129, 130, 131, 132, 133, 134, 135, 136, 137, 138, 139, 140, 141, 142, 143, 144, 145, 146, 147, 148] (by decide +kernel) (by decide +kernel)
set_option maxRecDepth 20000 in
theorem ggX9_put_X9_so : GoodIn wsX9_put wsX9_so := goodIn_r _ [31, 32, 115, 116, 117, 118, 119, 120, 121, 122, 123, 124, 125, 126, 127, 128, 129, 130, 131, 132, 133, 134, 135, 136, 137, 138, 139, 140, 141, 142, 143, 144, 145, 146, 147, 148] (by decide +kernel) (by decide +kernel)
def wp_X9_put_202 (y2 : Int32) (y3 : Int32) (y4 : Int32) (z0 : Int32) (z1 : Int32) (z2 : Int32) (kb3 : Nat) (n : Nat → Int32) (g : Nat → Nat → Int32) (K : Int32 → (Nat → Int32) → (Nat → Nat → Int32) → Prop) (C172 : Int32 × (Nat → Int32) × (Nat → Nat → Int32) → Prop) : Prop :=
  kb3 ∈ mAI ∧ vp_in z2 (mlen kb3) ∧ ∀ g_2 : Nat → Nat → Int32, g_2 = mup g kb3 (z2).toNatClampNeg (z1 + z0) → ∀ v_3 : Int32, v_3 = y4 + 1 → C172 (v_3, n, g_2)
def wp_X9_put_172 (y2 : Int32) (y3 : Int32) (K : Int32 → (Nat → Int32) → (Nat → Nat → Int32) → Prop)  (C172 : Int32 × (Nat → Int32) × (Nat → Nat → Int32) → Prop) : Int32 × (Nat → Int32) × (Nat → Nat → Int32) → Prop := fun s9 => match s9 with
  | (y4, n, g) => (((4 : Int32) ≤ y4 → wp_X9_grows y3 n g (fun n_8 g_9 => wp_X9_so (1 : Int32) n_8 g_9 (fun r_10 n_12 g_13 => isB r_10 ∧ K r_10 n_12 g_13))) ∧
 (¬ ((4 : Int32) ≤ y4) → vp_in y4 (mlen 18) ∧ ∀ v_15 : Int32, v_15 = g 18 (y4).toNatClampNeg → vp_in y4 (mlen 18) ∧ ∀ v_17 : Int32, v_17 = g 18 (y4).toNatClampNeg → ((v_17 < y2 → wp_X9_put_202 y2 y3 y4 (0 : Int32) v_15 y4 18 n g K C172) ∧
 (¬ (v_17 < y2) → wp_X9_put_202 y2 y3 y4 (1 : Int32) v_15 y4 18 n g K C172))))
def wp_X9_put_121 (y2 : Int32) (y3 : Int32) (K : Int32 → (Nat → Int32) → (Nat → Nat → Int32) → Prop)  (C121 : Int32 × (Nat → Int32) × (Nat → Nat → Int32) → Prop) : Int32 × (Nat → Int32) × (Nat → Nat → Int32) → Prop := fun s9 => match s9 with
  | (y4, n, g) => (((n 1) ≤ y4 → wp_X9_at (0 : Int32) y3 n g (fun r_20 => vp_in r_20 (mlen 15) ∧ ∀ v_22 : Int32, v_22 = g 15 (r_20).toNatClampNeg → vp_in r_20 (mlen 15) ∧ ∀ g_24 : Nat → Nat → Int32, g_24 = mup g 15 (r_20).toNatClampNeg (v_22 + (1 : Int32)) → ∃ n_25, loopW (wp_X9_put_172 y2 y3 K) n_25 ((0 : Int32), n, g_24))) ∧
 (¬ ((n 1) ≤ y4) → vp_in y4 (mlen 2) ∧ ∀ v_27 : Int32, v_27 = g 2 (y4).toNatClampNeg → vp_in (((12 : Int32) * y2) + y4) (mlen 11) ∧ ∀ g_29 : Nat → Nat → Int32, g_29 = mup g 11 ((((12 : Int32) * y2) + y4)).toNatClampNeg v_27 → ∀ v_30 : Int32, v_30 = y4 + 1 → C121 (v_30, n, g_29)))
def wp_X9_put_69 (x1 : Int32) (y2 : Int32) (y3 : Int32) (K : Int32 → (Nat → Int32) → (Nat → Nat → Int32) → Prop)  (C69 : Int32 × (Nat → Int32) × (Nat → Nat → Int32) → Prop) : Int32 × (Nat → Int32) × (Nat → Nat → Int32) → Prop := fun s9 => match s9 with
  | (y4, n, g) => ((y4 ≤ y2 → ∀ n_33 : Nat → Int32, n_33 = upd n 9 ((n 9) + (1 : Int32)) → vp_in y2 (mlen 10) ∧ ∀ g_35 : Nat → Nat → Int32, g_35 = mup g 10 (y2).toNatClampNeg (n_33 1) → vp_in y2 (mlen 12) ∧ ∀ g_37 : Nat → Nat → Int32, g_37 = mup g_35 12 (y2).toNatClampNeg x1 → ∃ n_38, loopW (wp_X9_put_121 y2 y3 K) n_38 ((0 : Int32), n_33, g_37)) ∧
 (¬ (y4 ≤ y2) → wp_X9_entryTo y4 (y4 - (1 : Int32)) n g (fun n_41 g_42 => ∀ v_43 : Int32, v_43 = y4 + (-1) → C69 (v_43, n_41, g_42))))
def wp_X9_put (x1 : Int32) (n : Nat → Int32) (g : Nat → Nat → Int32) (K : Int32 → (Nat → Int32) → (Nat → Nat → Int32) → Prop) : Prop :=
  wp_X9_less 2 (n 1) n g (fun r_45 => wp_X9_isThere r_45 n g (fun r_46 => ((r_46 = (0 : Int32) → ((¬ (n 9) = (300 : Int32) → wp_X9_leafFor 2 (n 1) n g (fun r_49 => ∀ v_50 : Int32, v_50 = (n 9) → ∃ n_52, loopW (wp_X9_put_69 x1 r_45 r_49 K) n_52 (v_50, n, g))) ∧
 ((n 9) = (300 : Int32) → wp_X9_not (1 : Int32) n g (fun r_53 n_55 g_56 => isB r_53 ∧ K r_53 n_55 g_56)))) ∧
 (¬ (r_46 = (0 : Int32)) → vp_in r_45 (mlen 12) ∧ ∀ g_58 : Nat → Nat → Int32, g_58 = mup g 12 (r_45).toNatClampNeg x1 → wp_X9_so (0 : Int32) n g_58 (fun r_59 n_61 g_62 => isB r_59 ∧ K r_59 n_61 g_62)))))
set_option maxHeartbeats 4000000 in
set_option maxRecDepth 100000 in
theorem cc_X9_put (l : Launch) (G : GG) {mo : Nat} {ad : Nat → Nat} (had : MAd mo ad) {n : Nat → Int32} {g : Nat → Nat → Int32} {sz : Nat} {x1 : Int32} {K : Int32 → (Nat → Int32) → (Nat → Nat → Int32) → Prop} (h : wp_X9_put x1 n g K) : Met l yX9_put wsX9_put ({ frames := 8, cells := 0, slots := 0, locals := 197 } : Room) (FP G [.ref mo, .int x1] (mf mo ad n g) sz) (va_Qi (fun r f9 => ∃ n9 g9, f9 = mf mo ad n9 g9 ∧ K r n9 g9 : Int32 → FT → Prop) (FB G (fA (mf mo ad n g) sz)) (fA (mf mo ad n g) sz)) 0 0 (fA (mf mo ad n g) sz) := by
  refine Met.ofW (cc := cX9_put) (maxL := 5) (ret := (some .boolean)) (by decide) rfl ?_
  intro p e s m args below meth c s₁ B hml hv
  obtain ⟨rfl, hsz, hF, hK, hZ⟩ := hv
  have hx := B.exec
  have hb := B.bytes
  have hr := B.returns
  have hts := atoms_spec (ws := wsX9_put) B.pre
  have hown : s.vm.findClass RX9 = some m.cls := findClass_of_methodNamed B.named
  have hlocks := B.notSynchronized
  subst hsz
  have hF := hF.self (sz := s.heap.size)
  generalize hAe : fA (mf mo ad n g) s.heap.size = A at hF hZ ⊢
  have hA : ∀ q : Nat, s.heap.size ≤ q → A q := fun q h => by rw [← hAe]; exact Or.inr h
  have hS : va_S A s.heap s.heap [] := va_S.rf
  have hin_X9 : ∀ w ∈ wsX90, w ∈ wsX9_put := by decide +kernel
  have L172 : ∀ (y2 : Int32) (y3 : Int32) (j9 : Nat) (y4 : Int32) (n : Nat → Int32) (g : Nat → Nat → Int32) (H : Heap) (locs : List Loc) (ls : Array Slot), loopW (wp_X9_put_172 y2 y3 K ) j9 (y4, n, g) → Fw G A (mf mo ad n g) H → va_S A s.heap H locs → lv_has ls 5 [(0, .ref mo), (2, .int y2), (3, .int y3), (4, .int y4)] → W p l e ({ frames := 8, cells := 0, slots := 0, locals := 197 } : Room) s m ([.ref mo, .int x1] : List Value).toArray below meth c H locs 0 0 (MQ below (va_Qi (fun r f9 => ∃ n9 g9, f9 = mf mo ad n9 g9 ∧ K r n9 g9 : Int32 → FT → Prop) (FB G A) A) ([.ref mo, .int x1] : List Value).toArray s 0 0 A) (F0 m 172 ls []) := by
    intro y2 y3 j9
    induction j9 with
    | zero => intro y4 n g H locs ls h; exact h.elim
    | succ j9 ih172 =>
      intro y4 n g H locs ls h hF hS hl
      have h : wp_X9_put_172 y2 y3 K  (loopW (wp_X9_put_172 y2 y3 K ) j9) (y4, n, g) := h
      generalize loopW (wp_X9_put_172 y2 y3 K ) j9 = C172 at ih172 h
      unfold wp_X9_put_172 at h
      have J202 : ∀ (y4 : Int32) (z0 : Int32) (z1 : Int32) (z2 : Int32) (kb3 : Nat) (n : Nat → Int32) (g : Nat → Nat → Int32) (H : Heap) (locs : List Loc) (ls : Array Slot), wp_X9_put_202 y2 y3 y4 z0 z1 z2 kb3 n g K C172 → Fw G A (mf mo ad n g) H → va_S A s.heap H locs → lv_has ls 5 [(0, .ref mo), (2, .int y2), (3, .int y3), (4, .int y4)] → W p l e ({ frames := 8, cells := 0, slots := 0, locals := 197 } : Room) s m ([.ref mo, .int x1] : List Value).toArray below meth c H locs 0 0 (MQ below (va_Qi (fun r f9 => ∃ n9 g9, f9 = mf mo ad n9 g9 ∧ K r n9 g9 : Int32 → FT → Prop) (FB G A) A) ([.ref mo, .int x1] : List Value).toArray s 0 0 A) (F0 m 202 ls [.int z0, .int z1, .int z2, .ref (ad kb3)]) := by
        intro y4 z0 z1 z2 kb3 n g H locs ls h hF hS hl
        unfold wp_X9_put_202 at h
        refine lv_iadd hx hb dX9_put_202 ?_
        obtain ⟨hm_i_1, hi_i_1, h⟩ := h
        refine fw_iast hx hb hK hF hS (mf_arr had kb3 hm_i_1) hi_i_1 dX9_put_203 (fun H locs hF hS => ?_)
        rw [mf_st had kb3 hm_i_1] at hF
        obtain ⟨g_2, hg_g_2⟩ : ∃ z, z = mup g kb3 (z2).toNatClampNeg (z1 + z0) := ⟨_, rfl⟩
        rw [← hg_g_2] at hF; have h := h g_2 hg_g_2
        obtain ⟨v_3, e_4⟩ : ∃ y : Int32, y = y4 + 1 := ⟨_, rfl⟩
        have h := h v_3 e_4
        refine lv_iinc (v := v_3) (lv' := [(4, .int v_3), (0, .ref mo), (2, .int y2), (3, .int y3)]) hx hb dX9_put_204 hl (k := 3) rfl (by rw [e_4]; rfl) (by decide) rfl (fun ls hl => ?_)
        refine lv_goto (tgt := 172) hx hb dX9_put_207 (by decide) ?_
        exact ih172 v_3 n g_2 _ _ _ h hF hS (lv_sub hl [1, 2, 3, 0] rfl)
      refine lv_iload hx hb dX9_put_172 (lv_at hl 3 rfl) ?_
      refine lv_iconst (v := (4 : Int32)) hx hb dX9_put_174 (by decide) ?_
      obtain ⟨h1, h2⟩ := h
      refine lv_icmp_ge (tgt := 210) hx hb dX9_put_175 (by decide) (fun c_5 => ?_) (fun c_5 => ?_)
      · have h := h1 c_5
        refine lv_aload_n hx hb dX9_put_210 rfl (lv_at hl 0 rfl) ?_
        refine lv_iload_n hx hb dX9_put_211 rfl (lv_at hl 2 rfl) ?_
        refine fw_cV_v (As := [.int y3]) (rest := []) ⟨hx, hb, hml, hown, hts⟩ (cc_X9_grows l G had h) (⟨callB_of 1 hts ggX9_put_X9_grows rfl rfl rfl (hts (.initialized RX9) (by decide +kernel)) (hts (.methodLink RX9 192 yX9_grows) (by decide +kernel)) (by decide +kernel) ⟨Nat.le_of_ble_eq_true rfl, Nat.le_of_ble_eq_true rfl⟩, hts (.instanceMethod yX9_grows) (by decide +kernel), hts (.selects RX9 yX9_grows yX9_grows) (by decide +kernel)⟩) rfl mf_obj hK hZ hF hS hA rfl hl.1 rfl (Nat.le_of_ble_eq_true rfl) dX9_put_212 ⟨Nat.zero_le _, Nat.zero_le _⟩ (fun f9 H locs h hF hS => ?_)
        obtain ⟨n_8, g_9, rfl, h⟩ := h
        refine lv_aload_n hx hb dX9_put_215 rfl (lv_at hl 0 rfl) ?_
        refine lv_iconst (v := (1 : Int32)) hx hb dX9_put_216 (by decide) ?_
        refine fw_cV_i (As := [.int (1 : Int32)]) (rest := []) ⟨hx, hb, hml, hown, hts⟩ (cc_X9_so l G had h) (⟨callB_of 1 hts ggX9_put_X9_so rfl rfl rfl (hts (.initialized RX9) (by decide +kernel)) (hts (.methodLink RX9 179 yX9_so) (by decide +kernel)) (by decide +kernel) ⟨Nat.le_of_ble_eq_true rfl, Nat.le_of_ble_eq_true rfl⟩, hts (.instanceMethod yX9_so) (by decide +kernel), hts (.selects RX9 yX9_so yX9_so) (by decide +kernel)⟩) rfl mf_obj hK hZ hF hS hA rfl hl.1 rfl (Nat.le_of_ble_eq_true rfl) dX9_put_217 ⟨Nat.zero_le _, Nat.zero_le _⟩ (fun r_10 f9 H locs h hF hS => ?_)
        obtain ⟨n_12, g_13, rfl, h⟩ := h
        obtain ⟨hz, h⟩ := h
        exact W.zret (v := r_10) hx hb hr (isB_nar hz) (fun t ht hW => ⟨⟨r_10, (mf mo ad n_12 g_13), rfl, ⟨_, _, rfl, h⟩, by rw [ht]; exact hF, FK.moved hW.alike hK⟩, hS.F ht⟩) hS.2.2 dX9_put_220
      · have h := h2 c_5
        refine lv_aload_n hx hb dX9_put_178 rfl (lv_at hl 0 rfl) ?_
        refine fw_get (C := RX9) (T := TX9) (N := 34) hx hb hts hin_X9 hown hK hF mf_obj rfl 18 (by decide) (hts (.fieldLink RX9 44 "FrontCodedIndexModel" "cursors" "[I") (by decide +kernel)) (fun _ h9 => h9) rfl dX9_put_179 ?_
        refine lv_iload hx hb dX9_put_182 (lv_at hl 3 rfl) ?_
        refine lv_dup2_11 hx hb dX9_put_184 rfl rfl ?_
        obtain ⟨hi_i_14, h⟩ := h
        refine fw_iald hx hb hK hF (mf_arr had 18 (by decide)) hi_i_14 dX9_put_185 ?_
        refine lv_topi (fun v_15 e_v_15 => ?_)
        have h := h v_15 e_v_15
        refine lv_aload_n hx hb dX9_put_186 rfl (lv_at hl 0 rfl) ?_
        refine fw_get (C := RX9) (T := TX9) (N := 34) hx hb hts hin_X9 hown hK hF mf_obj rfl 18 (by decide) (hts (.fieldLink RX9 44 "FrontCodedIndexModel" "cursors" "[I") (by decide +kernel)) (fun _ h9 => h9) rfl dX9_put_187 ?_
        refine lv_iload hx hb dX9_put_190 (lv_at hl 3 rfl) ?_
        obtain ⟨hi_i_16, h⟩ := h
        refine fw_iald hx hb hK hF (mf_arr had 18 (by decide)) hi_i_16 dX9_put_192 ?_
        refine lv_topi (fun v_17 e_v_17 => ?_)
        have h := h v_17 e_v_17
        refine lv_iload_n hx hb dX9_put_193 rfl (lv_at hl 1 rfl) ?_
        obtain ⟨h1, h2⟩ := h
        refine lv_icmp_lt (tgt := 201) hx hb dX9_put_194 (by decide) (fun c_18 => ?_) (fun c_18 => ?_)
        · have h := h1 c_18
          refine lv_iconst (v := (0 : Int32)) hx hb dX9_put_201 (by decide) ?_
          exact J202 y4 (0 : Int32) v_15 y4 18 n g _ _ _ h hF hS (lv_sub hl [0, 1, 2, 3] rfl)
        · have h := h2 c_18
          refine lv_iconst (v := (1 : Int32)) hx hb dX9_put_197 (by decide) ?_
          refine lv_goto (tgt := 202) hx hb dX9_put_198 (by decide) ?_
          exact J202 y4 (1 : Int32) v_15 y4 18 n g _ _ _ h hF hS (lv_sub hl [0, 1, 2, 3] rfl)
  have L121 : ∀ (y2 : Int32) (y3 : Int32) (j9 : Nat) (y4 : Int32) (n : Nat → Int32) (g : Nat → Nat → Int32) (H : Heap) (locs : List Loc) (ls : Array Slot), loopW (wp_X9_put_121 y2 y3 K ) j9 (y4, n, g) → Fw G A (mf mo ad n g) H → va_S A s.heap H locs → lv_has ls 5 [(0, .ref mo), (2, .int y2), (3, .int y3), (4, .int y4)] → W p l e ({ frames := 8, cells := 0, slots := 0, locals := 197 } : Room) s m ([.ref mo, .int x1] : List Value).toArray below meth c H locs 0 0 (MQ below (va_Qi (fun r f9 => ∃ n9 g9, f9 = mf mo ad n9 g9 ∧ K r n9 g9 : Int32 → FT → Prop) (FB G A) A) ([.ref mo, .int x1] : List Value).toArray s 0 0 A) (F0 m 121 ls []) := by
    intro y2 y3 j9
    induction j9 with
    | zero => intro y4 n g H locs ls h; exact h.elim
    | succ j9 ih121 =>
      intro y4 n g H locs ls h hF hS hl
      have h : wp_X9_put_121 y2 y3 K  (loopW (wp_X9_put_121 y2 y3 K ) j9) (y4, n, g) := h
      generalize loopW (wp_X9_put_121 y2 y3 K ) j9 = C121 at ih121 h
      unfold wp_X9_put_121 at h
      refine lv_iload hx hb dX9_put_121 (lv_at hl 3 rfl) ?_
      refine lv_aload_n hx hb dX9_put_123 rfl (lv_at hl 0 rfl) ?_
      refine fw_get (C := RX9) (T := TX9) (N := 34) hx hb hts hin_X9 hown hK hF mf_obj rfl 1 (by decide) (hts (.fieldLink RX9 88 "FrontCodedIndexModel" "keySize" "I") (by decide +kernel)) (fun _ h9 => h9) rfl dX9_put_124 ?_
      obtain ⟨h1, h2⟩ := h
      refine lv_icmp_ge (tgt := 155) hx hb dX9_put_127 (by decide) (fun c_19 => ?_) (fun c_19 => ?_)
      · have h := h1 c_19
        refine lv_aload_n hx hb dX9_put_155 rfl (lv_at hl 0 rfl) ?_
        refine fw_get (C := RX9) (T := TX9) (N := 34) hx hb hts hin_X9 hown hK hF mf_obj rfl 15 (by decide) (hts (.fieldLink RX9 35 "FrontCodedIndexModel" "parts" "[I") (by decide +kernel)) (fun _ h9 => h9) rfl dX9_put_156 ?_
        refine lv_iconst (v := (0 : Int32)) hx hb dX9_put_159 (by decide) ?_
        refine lv_iload_n hx hb dX9_put_160 rfl (lv_at hl 2 rfl) ?_
        refine fw_cS_i_p (As := [.int (0 : Int32), .int y3]) (rest := [.ref (ad 15)]) ⟨hx, hb, hml, hown, hts⟩ (cc_X9_at l G had h) (⟨callB_of 2 hts ggX9_put_X9_at rfl rfl rfl (hts (.initialized RX9) (by decide +kernel)) (hts (.methodLink RX9 113 yX9_at) (by decide +kernel)) (by decide +kernel) ⟨Nat.le_of_ble_eq_true rfl, Nat.le_of_ble_eq_true rfl⟩, hts (.static yX9_at) (by decide +kernel)⟩) hK hZ hF hS hA rfl hl.1 rfl (Nat.le_of_ble_eq_true rfl) dX9_put_161 ⟨Nat.zero_le _, Nat.zero_le _⟩ (fun r_20 H locs h hF hS => ?_)
        refine lv_dup2_11 hx hb dX9_put_164 rfl rfl ?_
        obtain ⟨hi_i_21, h⟩ := h
        refine fw_iald hx hb hK hF (mf_arr had 15 (by decide)) hi_i_21 dX9_put_165 ?_
        refine lv_topi (fun v_22 e_v_22 => ?_)
        have h := h v_22 e_v_22
        refine lv_iconst (v := (1 : Int32)) hx hb dX9_put_166 (by decide) ?_
        refine lv_iadd hx hb dX9_put_167 ?_
        obtain ⟨hi_i_23, h⟩ := h
        refine fw_iast hx hb hK hF hS (mf_arr had 15 (by decide)) hi_i_23 dX9_put_168 (fun H locs hF hS => ?_)
        rw [mf_st had 15 (by decide)] at hF
        obtain ⟨g_24, hg_g_24⟩ : ∃ z, z = mup g 15 (r_20).toNatClampNeg (v_22 + (1 : Int32)) := ⟨_, rfl⟩
        rw [← hg_g_24] at hF; have h := h g_24 hg_g_24
        refine lv_iconst (v := (0 : Int32)) hx hb dX9_put_169 (by decide) ?_
        refine lv_istore (lv' := [(4, .int (0 : Int32)), (0, .ref mo), (2, .int y2), (3, .int y3)]) hx hb dX9_put_170 hl (by decide) rfl (fun ls hl => ?_)
        obtain ⟨n_25, h⟩ := h
        exact L172 y2 y3 n_25 (0 : Int32) n g_24 _ _ _ h hF hS (lv_sub hl [1, 2, 3, 0] rfl)
      · have h := h2 c_19
        refine lv_aload_n hx hb dX9_put_130 rfl (lv_at hl 0 rfl) ?_
        refine fw_get (C := RX9) (T := TX9) (N := 34) hx hb hts hin_X9 hown hK hF mf_obj rfl 11 (by decide) (hts (.fieldLink RX9 23 "FrontCodedIndexModel" "bytes" "[I") (by decide +kernel)) (fun _ h9 => h9) rfl dX9_put_131 ?_
        refine lv_bipush (v := (12 : Int32)) hx hb dX9_put_134 (by decide) ?_
        refine lv_iload_n hx hb dX9_put_136 rfl (lv_at hl 1 rfl) ?_
        refine lv_imul hx hb dX9_put_137 ?_
        refine lv_iload hx hb dX9_put_138 (lv_at hl 3 rfl) ?_
        refine lv_iadd hx hb dX9_put_140 ?_
        refine lv_aload_n hx hb dX9_put_141 rfl (lv_at hl 0 rfl) ?_
        refine fw_get (C := RX9) (T := TX9) (N := 34) hx hb hts hin_X9 hown hK hF mf_obj rfl 2 (by decide) (hts (.fieldLink RX9 7 "FrontCodedIndexModel" "key" "[I") (by decide +kernel)) (fun _ h9 => h9) rfl dX9_put_142 ?_
        refine lv_iload hx hb dX9_put_145 (lv_at hl 3 rfl) ?_
        obtain ⟨hi_i_26, h⟩ := h
        refine fw_iald hx hb hK hF (mf_arr had 2 (by decide)) hi_i_26 dX9_put_147 ?_
        refine lv_topi (fun v_27 e_v_27 => ?_)
        have h := h v_27 e_v_27
        obtain ⟨hi_i_28, h⟩ := h
        refine fw_iast hx hb hK hF hS (mf_arr had 11 (by decide)) hi_i_28 dX9_put_148 (fun H locs hF hS => ?_)
        rw [mf_st had 11 (by decide)] at hF
        obtain ⟨g_29, hg_g_29⟩ : ∃ z, z = mup g 11 ((((12 : Int32) * y2) + y4)).toNatClampNeg v_27 := ⟨_, rfl⟩
        rw [← hg_g_29] at hF; have h := h g_29 hg_g_29
        obtain ⟨v_30, e_31⟩ : ∃ y : Int32, y = y4 + 1 := ⟨_, rfl⟩
        have h := h v_30 e_31
        refine lv_iinc (v := v_30) (lv' := [(4, .int v_30), (0, .ref mo), (2, .int y2), (3, .int y3)]) hx hb dX9_put_149 hl (k := 3) rfl (by rw [e_31]; rfl) (by decide) rfl (fun ls hl => ?_)
        refine lv_goto (tgt := 121) hx hb dX9_put_152 (by decide) ?_
        exact ih121 v_30 n g_29 _ _ _ h hF hS (lv_sub hl [1, 2, 3, 0] rfl)
  have L69 : ∀ (y2 : Int32) (y3 : Int32) (j9 : Nat) (y4 : Int32) (n : Nat → Int32) (g : Nat → Nat → Int32) (H : Heap) (locs : List Loc) (ls : Array Slot), loopW (wp_X9_put_69 x1 y2 y3 K ) j9 (y4, n, g) → Fw G A (mf mo ad n g) H → va_S A s.heap H locs → lv_has ls 5 [(0, .ref mo), (1, .int x1), (2, .int y2), (3, .int y3), (4, .int y4)] → W p l e ({ frames := 8, cells := 0, slots := 0, locals := 197 } : Room) s m ([.ref mo, .int x1] : List Value).toArray below meth c H locs 0 0 (MQ below (va_Qi (fun r f9 => ∃ n9 g9, f9 = mf mo ad n9 g9 ∧ K r n9 g9 : Int32 → FT → Prop) (FB G A) A) ([.ref mo, .int x1] : List Value).toArray s 0 0 A) (F0 m 69 ls []) := by
    intro y2 y3 j9
    induction j9 with
    | zero => intro y4 n g H locs ls h; exact h.elim
    | succ j9 ih69 =>
      intro y4 n g H locs ls h hF hS hl
      have h : wp_X9_put_69 x1 y2 y3 K  (loopW (wp_X9_put_69 x1 y2 y3 K ) j9) (y4, n, g) := h
      generalize loopW (wp_X9_put_69 x1 y2 y3 K ) j9 = C69 at ih69 h
      unfold wp_X9_put_69 at h
      refine lv_iload hx hb dX9_put_69 (lv_at hl 4 rfl) ?_
      refine lv_iload_n hx hb dX9_put_71 rfl (lv_at hl 2 rfl) ?_
      obtain ⟨h1, h2⟩ := h
      refine lv_icmp_le (tgt := 91) hx hb dX9_put_72 (by decide) (fun c_32 => ?_) (fun c_32 => ?_)
      · have h := h1 c_32
        refine lv_aload_n hx hb dX9_put_91 rfl (lv_at hl 0 rfl) ?_
        refine lv_dup hx hb dX9_put_92 rfl ?_
        refine fw_get (C := RX9) (T := TX9) (N := 34) hx hb hts hin_X9 hown hK hF mf_obj rfl 9 (by decide) (hts (.fieldLink RX9 106 "FrontCodedIndexModel" "entries" "I") (by decide +kernel)) (fun _ h9 => h9) rfl dX9_put_93 ?_
        refine lv_iconst (v := (1 : Int32)) hx hb dX9_put_96 (by decide) ?_
        refine lv_iadd hx hb dX9_put_97 ?_
        refine fw_put (v := .int ((n 9) + (1 : Int32))) (ty := .int) (C := RX9) (T := TX9) (N := 34) hx hb hts hin_X9 tyX9 tyX9_ok nmX9 hown hK hF hS mf_obj rfl 9 (by decide) (hts (.fieldLink RX9 106 "FrontCodedIndexModel" "entries" "I") (by decide +kernel)) (fun _ h9 => h9) rfl (by decide +kernel) rfl rfl (show 9 < 34 by decide) dX9_put_98 (fun H locs hF hS => ?_)
        rw [mf_put 9 ((n 9) + (1 : Int32)) rfl] at hF
        obtain ⟨n_33, hn_n_33⟩ : ∃ z, z = upd n 9 ((n 9) + (1 : Int32)) := ⟨_, rfl⟩
        rw [← hn_n_33] at hF; have h := h n_33 hn_n_33
        refine lv_aload_n hx hb dX9_put_101 rfl (lv_at hl 0 rfl) ?_
        refine fw_get (C := RX9) (T := TX9) (N := 34) hx hb hts hin_X9 hown hK hF mf_obj rfl 10 (by decide) (hts (.fieldLink RX9 20 "FrontCodedIndexModel" "sizeOf" "[I") (by decide +kernel)) (fun _ h9 => h9) rfl dX9_put_102 ?_
        refine lv_iload_n hx hb dX9_put_105 rfl (lv_at hl 2 rfl) ?_
        refine lv_aload_n hx hb dX9_put_106 rfl (lv_at hl 0 rfl) ?_
        refine fw_get (C := RX9) (T := TX9) (N := 34) hx hb hts hin_X9 hown hK hF mf_obj rfl 1 (by decide) (hts (.fieldLink RX9 88 "FrontCodedIndexModel" "keySize" "I") (by decide +kernel)) (fun _ h9 => h9) rfl dX9_put_107 ?_
        obtain ⟨hi_i_34, h⟩ := h
        refine fw_iast hx hb hK hF hS (mf_arr had 10 (by decide)) hi_i_34 dX9_put_110 (fun H locs hF hS => ?_)
        rw [mf_st had 10 (by decide)] at hF
        obtain ⟨g_35, hg_g_35⟩ : ∃ z, z = mup g 10 (y2).toNatClampNeg (n_33 1) := ⟨_, rfl⟩
        rw [← hg_g_35] at hF; have h := h g_35 hg_g_35
        refine lv_aload_n hx hb dX9_put_111 rfl (lv_at hl 0 rfl) ?_
        refine fw_get (C := RX9) (T := TX9) (N := 34) hx hb hts hin_X9 hown hK hF mf_obj rfl 12 (by decide) (hts (.fieldLink RX9 26 "FrontCodedIndexModel" "values" "[I") (by decide +kernel)) (fun _ h9 => h9) rfl dX9_put_112 ?_
        refine lv_iload_n hx hb dX9_put_115 rfl (lv_at hl 2 rfl) ?_
        refine lv_iload_n hx hb dX9_put_116 rfl (lv_at hl 1 rfl) ?_
        obtain ⟨hi_i_36, h⟩ := h
        refine fw_iast hx hb hK hF hS (mf_arr had 12 (by decide)) hi_i_36 dX9_put_117 (fun H locs hF hS => ?_)
        rw [mf_st had 12 (by decide)] at hF
        obtain ⟨g_37, hg_g_37⟩ : ∃ z, z = mup g_35 12 (y2).toNatClampNeg x1 := ⟨_, rfl⟩
        rw [← hg_g_37] at hF; have h := h g_37 hg_g_37
        refine lv_iconst (v := (0 : Int32)) hx hb dX9_put_118 (by decide) ?_
        refine lv_istore (lv' := [(4, .int (0 : Int32)), (0, .ref mo), (1, .int x1), (2, .int y2), (3, .int y3)]) hx hb dX9_put_119 hl (by decide) rfl (fun ls hl => ?_)
        obtain ⟨n_38, h⟩ := h
        exact L121 y2 y3 n_38 (0 : Int32) n_33 g_37 _ _ _ h hF hS (lv_sub hl [1, 3, 4, 0] rfl)
      · have h := h2 c_32
        refine lv_aload_n hx hb dX9_put_75 rfl (lv_at hl 0 rfl) ?_
        refine lv_iload hx hb dX9_put_76 (lv_at hl 4 rfl) ?_
        refine lv_iload hx hb dX9_put_78 (lv_at hl 4 rfl) ?_
        refine lv_iconst (v := (1 : Int32)) hx hb dX9_put_80 (by decide) ?_
        refine lv_isub hx hb dX9_put_81 ?_
        refine fw_cV_v (As := [.int y4, .int (y4 - (1 : Int32))]) (rest := []) ⟨hx, hb, hml, hown, hts⟩ (cc_X9_entryTo l G had h) (⟨callB_of 2 hts ggX9_put_X9_entryTo rfl rfl rfl (hts (.initialized RX9) (by decide +kernel)) (hts (.methodLink RX9 189 yX9_entryTo) (by decide +kernel)) (by decide +kernel) ⟨Nat.le_of_ble_eq_true rfl, Nat.le_of_ble_eq_true rfl⟩, hts (.instanceMethod yX9_entryTo) (by decide +kernel), hts (.selects RX9 yX9_entryTo yX9_entryTo) (by decide +kernel)⟩) rfl mf_obj hK hZ hF hS hA rfl hl.1 rfl (Nat.le_of_ble_eq_true rfl) dX9_put_82 ⟨Nat.zero_le _, Nat.zero_le _⟩ (fun f9 H locs h hF hS => ?_)
        obtain ⟨n_41, g_42, rfl, h⟩ := h
        obtain ⟨v_43, e_44⟩ : ∃ y : Int32, y = y4 + (-1) := ⟨_, rfl⟩
        have h := h v_43 e_44
        refine lv_iinc (v := v_43) (lv' := [(4, .int v_43), (0, .ref mo), (1, .int x1), (2, .int y2), (3, .int y3)]) hx hb dX9_put_85 hl (k := 4) rfl (by rw [e_44]; rfl) (by decide) rfl (fun ls hl => ?_)
        refine lv_goto (tgt := 69) hx hb dX9_put_88 (by decide) ?_
        exact ih69 v_43 n_41 g_42 _ _ _ h hF hS (lv_sub hl [1, 2, 3, 4, 0] rfl)
  have hl := lv_entry ([.ref mo, .int x1]) (n := 5) (Nat.le_of_ble_eq_true rfl)
  rw [lg_entry_eq]
  generalize (lg_sl ([.ref mo, .int x1]) ++ List.replicate (5 - (lg_sl ([.ref mo, .int x1])).length) Slot.unset).toArray = ls at hl ⊢
  have hl : lv_has ls 5 [(0, .ref mo), (1, .int x1)] := hl
  unfold wp_X9_put at h
  refine lv_aload_n hx hb dX9_put_0 rfl (lv_at hl 0 rfl) ?_
  refine lv_aload_n hx hb dX9_put_1 rfl (lv_at hl 0 rfl) ?_
  refine fw_get (C := RX9) (T := TX9) (N := 34) hx hb hts hin_X9 hown hK hF mf_obj rfl 2 (by decide) (hts (.fieldLink RX9 7 "FrontCodedIndexModel" "key" "[I") (by decide +kernel)) (fun _ h9 => h9) rfl dX9_put_2 ?_
  refine lv_aload_n hx hb dX9_put_5 rfl (lv_at hl 0 rfl) ?_
  refine fw_get (C := RX9) (T := TX9) (N := 34) hx hb hts hin_X9 hown hK hF mf_obj rfl 1 (by decide) (hts (.fieldLink RX9 88 "FrontCodedIndexModel" "keySize" "I") (by decide +kernel)) (fun _ h9 => h9) rfl dX9_put_6 ?_
  refine fw_cV_i_p (As := [.ref (ad 2), .int (n 1)]) (rest := []) ⟨hx, hb, hml, hown, hts⟩ (cc_X9_less l G had h) (⟨callB_of 2 hts ggX9_put_X9_less rfl rfl rfl (hts (.initialized RX9) (by decide +kernel)) (hts (.methodLink RX9 171 yX9_less) (by decide +kernel)) (by decide +kernel) ⟨Nat.le_of_ble_eq_true rfl, Nat.le_of_ble_eq_true rfl⟩, hts (.instanceMethod yX9_less) (by decide +kernel), hts (.selects RX9 yX9_less yX9_less) (by decide +kernel)⟩) rfl mf_obj hK hZ hF hS hA rfl hl.1 rfl (Nat.le_of_ble_eq_true rfl) dX9_put_9 ⟨Nat.zero_le _, Nat.zero_le _⟩ (fun r_45 H locs h hF hS => ?_)
  refine lv_istore_n (lv' := [(2, .int r_45), (0, .ref mo), (1, .int x1)]) hx hb dX9_put_12 rfl hl (by decide) rfl (fun ls hl => ?_)
  refine lv_aload_n hx hb dX9_put_13 rfl (lv_at hl 1 rfl) ?_
  refine lv_iload_n hx hb dX9_put_14 rfl (lv_at hl 0 rfl) ?_
  refine fw_cV_i_p (As := [.int r_45]) (rest := []) ⟨hx, hb, hml, hown, hts⟩ (cc_X9_isThere l G had h) (⟨callB_of 1 hts ggX9_put_X9_isThere rfl rfl rfl (hts (.initialized RX9) (by decide +kernel)) (hts (.methodLink RX9 175 yX9_isThere) (by decide +kernel)) (by decide +kernel) ⟨Nat.le_of_ble_eq_true rfl, Nat.le_of_ble_eq_true rfl⟩, hts (.instanceMethod yX9_isThere) (by decide +kernel), hts (.selects RX9 yX9_isThere yX9_isThere) (by decide +kernel)⟩) rfl mf_obj hK hZ hF hS hA rfl hl.1 rfl (Nat.le_of_ble_eq_true rfl) dX9_put_15 ⟨Nat.zero_le _, Nat.zero_le _⟩ (fun r_46 H locs h hF hS => ?_)
  obtain ⟨h1, h2⟩ := h
  refine lv_if_eq (tgt := 34) hx hb dX9_put_18 (by decide) (fun c_47 => ?_) (fun c_47 => ?_)
  · have h := h1 c_47
    refine lv_aload_n hx hb dX9_put_34 rfl (lv_at hl 1 rfl) ?_
    refine fw_get (C := RX9) (T := TX9) (N := 34) hx hb hts hin_X9 hown hK hF mf_obj rfl 9 (by decide) (hts (.fieldLink RX9 106 "FrontCodedIndexModel" "entries" "I") (by decide +kernel)) (fun _ h9 => h9) rfl dX9_put_35 ?_
    refine lv_sipush (v := (300 : Int32)) hx hb dX9_put_38 (by decide) ?_
    obtain ⟨h1, h2⟩ := h
    refine lv_icmp_ne (tgt := 50) hx hb dX9_put_41 (by decide) (fun c_48 => ?_) (fun c_48 => ?_)
    · have h := h1 c_48
      refine lv_aload_n hx hb dX9_put_50 rfl (lv_at hl 1 rfl) ?_
      refine lv_aload_n hx hb dX9_put_51 rfl (lv_at hl 1 rfl) ?_
      refine fw_get (C := RX9) (T := TX9) (N := 34) hx hb hts hin_X9 hown hK hF mf_obj rfl 2 (by decide) (hts (.fieldLink RX9 7 "FrontCodedIndexModel" "key" "[I") (by decide +kernel)) (fun _ h9 => h9) rfl dX9_put_52 ?_
      refine lv_aload_n hx hb dX9_put_55 rfl (lv_at hl 1 rfl) ?_
      refine fw_get (C := RX9) (T := TX9) (N := 34) hx hb hts hin_X9 hown hK hF mf_obj rfl 1 (by decide) (hts (.fieldLink RX9 88 "FrontCodedIndexModel" "keySize" "I") (by decide +kernel)) (fun _ h9 => h9) rfl dX9_put_56 ?_
      refine fw_cV_i_p (As := [.ref (ad 2), .int (n 1)]) (rest := []) ⟨hx, hb, hml, hown, hts⟩ (cc_X9_leafFor l G had h) (⟨callB_of 2 hts ggX9_put_X9_leafFor rfl rfl rfl (hts (.initialized RX9) (by decide +kernel)) (hts (.methodLink RX9 186 yX9_leafFor) (by decide +kernel)) (by decide +kernel) ⟨Nat.le_of_ble_eq_true rfl, Nat.le_of_ble_eq_true rfl⟩, hts (.instanceMethod yX9_leafFor) (by decide +kernel), hts (.selects RX9 yX9_leafFor yX9_leafFor) (by decide +kernel)⟩) rfl mf_obj hK hZ hF hS hA rfl hl.1 rfl (Nat.le_of_ble_eq_true rfl) dX9_put_59 ⟨Nat.zero_le _, Nat.zero_le _⟩ (fun r_49 H locs h hF hS => ?_)
      refine lv_istore_n (lv' := [(3, .int r_49), (2, .int r_45), (0, .ref mo), (1, .int x1)]) hx hb dX9_put_62 rfl hl (by decide) rfl (fun ls hl => ?_)
      refine lv_aload_n hx hb dX9_put_63 rfl (lv_at hl 2 rfl) ?_
      refine fw_get (C := RX9) (T := TX9) (N := 34) hx hb hts hin_X9 hown hK hF mf_obj rfl 9 (by decide) (hts (.fieldLink RX9 106 "FrontCodedIndexModel" "entries" "I") (by decide +kernel)) (fun _ h9 => h9) rfl dX9_put_64 ?_
      refine lv_topi (fun v_50 e_51 => ?_)
      have h := h v_50 e_51
      refine lv_istore (lv' := [(4, .int v_50), (3, .int r_49), (2, .int r_45), (0, .ref mo), (1, .int x1)]) hx hb dX9_put_67 hl (by decide) rfl (fun ls hl => ?_)
      obtain ⟨n_52, h⟩ := h
      exact L69 r_45 r_49 n_52 v_50 n g _ _ _ h hF hS (lv_sub hl [3, 4, 2, 1, 0] rfl)
    · have h := h2 c_48
      refine lv_aload_n hx hb dX9_put_44 rfl (lv_at hl 1 rfl) ?_
      refine lv_iconst (v := (1 : Int32)) hx hb dX9_put_45 (by decide) ?_
      refine fw_cV_i (As := [.int (1 : Int32)]) (rest := []) ⟨hx, hb, hml, hown, hts⟩ (cc_X9_not l G had h) (⟨callB_of 1 hts ggX9_put_X9_not rfl rfl rfl (hts (.initialized RX9) (by decide +kernel)) (hts (.methodLink RX9 183 yX9_not) (by decide +kernel)) (by decide +kernel) ⟨Nat.le_of_ble_eq_true rfl, Nat.le_of_ble_eq_true rfl⟩, hts (.instanceMethod yX9_not) (by decide +kernel), hts (.selects RX9 yX9_not yX9_not) (by decide +kernel)⟩) rfl mf_obj hK hZ hF hS hA rfl hl.1 rfl (Nat.le_of_ble_eq_true rfl) dX9_put_46 ⟨Nat.zero_le _, Nat.zero_le _⟩ (fun r_53 f9 H locs h hF hS => ?_)
      obtain ⟨n_55, g_56, rfl, h⟩ := h
      obtain ⟨hz, h⟩ := h
      exact W.zret (v := r_53) hx hb hr (isB_nar hz) (fun t ht hW => ⟨⟨r_53, (mf mo ad n_55 g_56), rfl, ⟨_, _, rfl, h⟩, by rw [ht]; exact hF, FK.moved hW.alike hK⟩, hS.F ht⟩) hS.2.2 dX9_put_49
  · have h := h2 c_47
    refine lv_aload_n hx hb dX9_put_21 rfl (lv_at hl 1 rfl) ?_
    refine fw_get (C := RX9) (T := TX9) (N := 34) hx hb hts hin_X9 hown hK hF mf_obj rfl 12 (by decide) (hts (.fieldLink RX9 26 "FrontCodedIndexModel" "values" "[I") (by decide +kernel)) (fun _ h9 => h9) rfl dX9_put_22 ?_
    refine lv_iload_n hx hb dX9_put_25 rfl (lv_at hl 0 rfl) ?_
    refine lv_iload_n hx hb dX9_put_26 rfl (lv_at hl 2 rfl) ?_
    obtain ⟨hi_i_57, h⟩ := h
    refine fw_iast hx hb hK hF hS (mf_arr had 12 (by decide)) hi_i_57 dX9_put_27 (fun H locs hF hS => ?_)
    rw [mf_st had 12 (by decide)] at hF
    obtain ⟨g_58, hg_g_58⟩ : ∃ z, z = mup g 12 (r_45).toNatClampNeg x1 := ⟨_, rfl⟩
    rw [← hg_g_58] at hF; have h := h g_58 hg_g_58
    refine lv_aload_n hx hb dX9_put_28 rfl (lv_at hl 1 rfl) ?_
    refine lv_iconst (v := (0 : Int32)) hx hb dX9_put_29 (by decide) ?_
    refine fw_cV_i (As := [.int (0 : Int32)]) (rest := []) ⟨hx, hb, hml, hown, hts⟩ (cc_X9_so l G had h) (⟨callB_of 1 hts ggX9_put_X9_so rfl rfl rfl (hts (.initialized RX9) (by decide +kernel)) (hts (.methodLink RX9 179 yX9_so) (by decide +kernel)) (by decide +kernel) ⟨Nat.le_of_ble_eq_true rfl, Nat.le_of_ble_eq_true rfl⟩, hts (.instanceMethod yX9_so) (by decide +kernel), hts (.selects RX9 yX9_so yX9_so) (by decide +kernel)⟩) rfl mf_obj hK hZ hF hS hA rfl hl.1 rfl (Nat.le_of_ble_eq_true rfl) dX9_put_30 ⟨Nat.zero_le _, Nat.zero_le _⟩ (fun r_59 f9 H locs h hF hS => ?_)
    obtain ⟨n_61, g_62, rfl, h⟩ := h
    obtain ⟨hz, h⟩ := h
    exact W.zret (v := r_59) hx hb hr (isB_nar hz) (fun t ht hW => ⟨⟨r_59, (mf mo ad n_61 g_62), rfl, ⟨_, _, rfl, h⟩, by rw [ht]; exact hF, FK.moved hW.alike hK⟩, hS.F ht⟩) hS.2.2 dX9_put_33
theorem dX9_queue_0 : decode cX9_queue 0 = .ok (.aload_n 0, 1) := by decide +kernel
theorem dX9_queue_1 : decode cX9_queue 1 = .ok (.getfield 234, 3) := by decide +kernel
theorem dX9_queue_4 : decode cX9_queue 4 = .ok (.ifCond .eq 42, 3) := by decide +kernel
theorem dX9_queue_7 : decode cX9_queue 7 = .ok (.aload_n 0, 1) := by decide +kernel
theorem dX9_queue_8 : decode cX9_queue 8 = .ok (.getfield 50, 3) := by decide +kernel
theorem dX9_queue_11 : decode cX9_queue 11 = .ok (.bipush 12, 2) := by decide +kernel
theorem dX9_queue_13 : decode cX9_queue 13 = .ok (.aload_n 0, 1) := by decide +kernel
theorem dX9_queue_14 : decode cX9_queue 14 = .ok (.getfield 234, 3) := by decide +kernel
theorem dX9_queue_17 : decode cX9_queue 17 = .ok (.iconst 1, 1) := by decide +kernel
theorem dX9_queue_18 : decode cX9_queue 18 = .ok (.isub, 1) := by decide +kernel
theorem dX9_queue_19 : decode cX9_queue 19 = .ok (.imul, 1) := by decide +kernel
theorem dX9_queue_20 : decode cX9_queue 20 = .ok (.aload_n 0, 1) := by decide +kernel
theorem dX9_queue_21 : decode cX9_queue 21 = .ok (.getfield 47, 3) := by decide +kernel
theorem dX9_queue_24 : decode cX9_queue 24 = .ok (.aload_n 0, 1) := by decide +kernel
theorem dX9_queue_25 : decode cX9_queue 25 = .ok (.getfield 234, 3) := by decide +kernel
theorem dX9_queue_28 : decode cX9_queue 28 = .ok (.iconst 1, 1) := by decide +kernel
theorem dX9_queue_29 : decode cX9_queue 29 = .ok (.isub, 1) := by decide +kernel
theorem dX9_queue_30 : decode cX9_queue 30 = .ok (.iaload, 1) := by decide +kernel
theorem dX9_queue_31 : decode cX9_queue 31 = .ok (.aload_n 0, 1) := by decide +kernel
theorem dX9_queue_32 : decode cX9_queue 32 = .ok (.getfield 7, 3) := by decide +kernel
theorem dX9_queue_35 : decode cX9_queue 35 = .ok (.iconst 0, 1) := by decide +kernel
theorem dX9_queue_36 : decode cX9_queue 36 = .ok (.aload_n 0, 1) := by decide +kernel
theorem dX9_queue_37 : decode cX9_queue 37 = .ok (.getfield 88, 3) := by decide +kernel
theorem dX9_queue_40 : decode cX9_queue 40 = .ok (.invokestatic 103, 3) := by decide +kernel
theorem dX9_queue_43 : decode cX9_queue 43 = .ok (.ifCond .ge 7, 3) := by decide +kernel
theorem dX9_queue_46 : decode cX9_queue 46 = .ok (.iconst 1, 1) := by decide +kernel
theorem dX9_queue_47 : decode cX9_queue 47 = .ok (.goto 4, 3) := by decide +kernel
theorem dX9_queue_50 : decode cX9_queue 50 = .ok (.iconst 0, 1) := by decide +kernel
theorem dX9_queue_51 : decode cX9_queue 51 = .ok (.istore_n 2, 1) := by decide +kernel
theorem dX9_queue_52 : decode cX9_queue 52 = .ok (.aload_n 0, 1) := by decide +kernel
theorem dX9_queue_53 : decode cX9_queue 53 = .ok (.getfield 234, 3) := by decide +kernel
theorem dX9_queue_56 : decode cX9_queue 56 = .ok (.sipush 300, 3) := by decide +kernel
theorem dX9_queue_59 : decode cX9_queue 59 = .ok (.if_icmp .eq 7, 3) := by decide +kernel
theorem dX9_queue_62 : decode cX9_queue 62 = .ok (.iload_n 2, 1) := by decide +kernel
theorem dX9_queue_63 : decode cX9_queue 63 = .ok (.ifCond .ne 9, 3) := by decide +kernel
theorem dX9_queue_66 : decode cX9_queue 66 = .ok (.aload_n 0, 1) := by decide +kernel
theorem dX9_queue_67 : decode cX9_queue 67 = .ok (.iconst 1, 1) := by decide +kernel
theorem dX9_queue_68 : decode cX9_queue 68 = .ok (.invokevirtual 84, 3) := by decide +kernel
theorem dX9_queue_71 : decode cX9_queue 71 = .ok (.ireturn, 1) := by decide +kernel
theorem dX9_queue_72 : decode cX9_queue 72 = .ok (.aload_n 0, 1) := by decide +kernel
theorem dX9_queue_73 : decode cX9_queue 73 = .ok (.getfield 47, 3) := by decide +kernel
theorem dX9_queue_76 : decode cX9_queue 76 = .ok (.aload_n 0, 1) := by decide +kernel
theorem dX9_queue_77 : decode cX9_queue 77 = .ok (.getfield 234, 3) := by decide +kernel
theorem dX9_queue_80 : decode cX9_queue 80 = .ok (.aload_n 0, 1) := by decide +kernel
theorem dX9_queue_81 : decode cX9_queue 81 = .ok (.getfield 88, 3) := by decide +kernel
theorem dX9_queue_84 : decode cX9_queue 84 = .ok (.iastore, 1) := by decide +kernel
theorem dX9_queue_85 : decode cX9_queue 85 = .ok (.aload_n 0, 1) := by decide +kernel
theorem dX9_queue_86 : decode cX9_queue 86 = .ok (.getfield 53, 3) := by decide +kernel
theorem dX9_queue_89 : decode cX9_queue 89 = .ok (.aload_n 0, 1) := by decide +kernel
theorem dX9_queue_90 : decode cX9_queue 90 = .ok (.getfield 234, 3) := by decide +kernel
theorem dX9_queue_93 : decode cX9_queue 93 = .ok (.iload_n 1, 1) := by decide +kernel
theorem dX9_queue_94 : decode cX9_queue 94 = .ok (.iastore, 1) := by decide +kernel
theorem dX9_queue_95 : decode cX9_queue 95 = .ok (.iconst 0, 1) := by decide +kernel
theorem dX9_queue_96 : decode cX9_queue 96 = .ok (.istore_n 3, 1) := by decide +kernel
theorem dX9_queue_97 : decode cX9_queue 97 = .ok (.iload_n 3, 1) := by decide +kernel
theorem dX9_queue_98 : decode cX9_queue 98 = .ok (.aload_n 0, 1) := by decide +kernel
theorem dX9_queue_99 : decode cX9_queue 99 = .ok (.getfield 88, 3) := by decide +kernel
theorem dX9_queue_102 : decode cX9_queue 102 = .ok (.if_icmp .ge 29, 3) := by decide +kernel
theorem dX9_queue_105 : decode cX9_queue 105 = .ok (.aload_n 0, 1) := by decide +kernel
theorem dX9_queue_106 : decode cX9_queue 106 = .ok (.getfield 50, 3) := by decide +kernel
theorem dX9_queue_109 : decode cX9_queue 109 = .ok (.bipush 12, 2) := by decide +kernel
theorem dX9_queue_111 : decode cX9_queue 111 = .ok (.aload_n 0, 1) := by decide +kernel
theorem dX9_queue_112 : decode cX9_queue 112 = .ok (.getfield 234, 3) := by decide +kernel
theorem dX9_queue_115 : decode cX9_queue 115 = .ok (.imul, 1) := by decide +kernel
theorem dX9_queue_116 : decode cX9_queue 116 = .ok (.iload_n 3, 1) := by decide +kernel
theorem dX9_queue_117 : decode cX9_queue 117 = .ok (.iadd, 1) := by decide +kernel
theorem dX9_queue_118 : decode cX9_queue 118 = .ok (.aload_n 0, 1) := by decide +kernel
theorem dX9_queue_119 : decode cX9_queue 119 = .ok (.getfield 7, 3) := by decide +kernel
theorem dX9_queue_122 : decode cX9_queue 122 = .ok (.iload_n 3, 1) := by decide +kernel
theorem dX9_queue_123 : decode cX9_queue 123 = .ok (.iaload, 1) := by decide +kernel
theorem dX9_queue_124 : decode cX9_queue 124 = .ok (.iastore, 1) := by decide +kernel
theorem dX9_queue_125 : decode cX9_queue 125 = .ok (.iinc 3 1, 3) := by decide +kernel
theorem dX9_queue_128 : decode cX9_queue 128 = .ok (.goto (-31), 3) := by decide +kernel
theorem dX9_queue_131 : decode cX9_queue 131 = .ok (.aload_n 0, 1) := by decide +kernel
theorem dX9_queue_132 : decode cX9_queue 132 = .ok (.dup, 1) := by decide +kernel
theorem dX9_queue_133 : decode cX9_queue 133 = .ok (.getfield 234, 3) := by decide +kernel
theorem dX9_queue_136 : decode cX9_queue 136 = .ok (.iconst 1, 1) := by decide +kernel
theorem dX9_queue_137 : decode cX9_queue 137 = .ok (.iadd, 1) := by decide +kernel
theorem dX9_queue_138 : decode cX9_queue 138 = .ok (.putfield 234, 3) := by decide +kernel
theorem dX9_queue_141 : decode cX9_queue 141 = .ok (.aload_n 0, 1) := by decide +kernel
theorem dX9_queue_142 : decode cX9_queue 142 = .ok (.aload_n 0, 1) := by decide +kernel
theorem dX9_queue_143 : decode cX9_queue 143 = .ok (.getfield 234, 3) := by decide +kernel
theorem dX9_queue_146 : decode cX9_queue 146 = .ok (.invokevirtual 91, 3) := by decide +kernel
theorem dX9_queue_149 : decode cX9_queue 149 = .ok (.ireturn, 1) := by decide +kernel
set_option maxRecDepth 20000 in
theorem ggX9_queue_X9_compare : GoodIn wsX9_queue wsX9_compare := goodIn_r _ [10, 11, 12, 9, 13] (by decide +kernel) (by decide +kernel)
set_option maxRecDepth 20000 in
theorem ggX9_queue_X9_done : GoodIn wsX9_queue wsX9_done := goodIn_r _ [22, 18, 23, 24, 25, 26, 27, 28, 29, 30, 31, 32, 33, 34, 35, 36, 37, 38, 39, 40, 41, 42, 43, 44, 45, 46, 47, 48, 49, 50, 51, 52, 53, 54, 55, 56] (by decide +kernel) (by decide +kernel)
set_option maxRecDepth 20000 in
theorem ggX9_queue_X9_fails : GoodIn wsX9_queue wsX9_fails := goodIn_r _ [17, 18, 23, 24, 25, 26, 27, 28, 29, 30, 31, 32, 33, 34, 35, 36, 37, 38, 39, 40, 41, 42, 43, 44, 45, 46, 47, 48, 49, 50, 51, 52, 53, 54, 55, 56] (by decide +kernel) (by decide +kernel)
def wp_X9_queue_66   (n : Nat → Int32) (g : Nat → Nat → Int32) (K : Int32 → (Nat → Int32) → (Nat → Nat → Int32) → Prop)  : Prop :=
  wp_X9_fails (1 : Int32) n g (fun r_1 n_3 g_4 => K r_1 n_3 g_4)
def wp_X9_queue_97  (K : Int32 → (Nat → Int32) → (Nat → Nat → Int32) → Prop)  (C97 : Int32 × (Nat → Int32) × (Nat → Nat → Int32) → Prop) : Int32 × (Nat → Int32) × (Nat → Nat → Int32) → Prop := fun s9 => match s9 with
  | (y3, n, g) => (((n 1) ≤ y3 → ∀ n_6 : Nat → Int32, n_6 = upd n 19 ((n 19) + (1 : Int32)) → wp_X9_done (n_6 19) n_6 g (fun r_7 n_9 g_10 => K r_7 n_9 g_10)) ∧
 (¬ ((n 1) ≤ y3) → vp_in y3 (mlen 2) ∧ ∀ v_12 : Int32, v_12 = g 2 (y3).toNatClampNeg → vp_in (((12 : Int32) * (n 19)) + y3) (mlen 21) ∧ ∀ g_14 : Nat → Nat → Int32, g_14 = mup g 21 ((((12 : Int32) * (n 19)) + y3)).toNatClampNeg v_12 → ∀ v_15 : Int32, v_15 = y3 + 1 → C97 (v_15, n, g_14)))
def wp_X9_queue_51 (x1 : Int32) (z0 : Int32) (n : Nat → Int32) (g : Nat → Nat → Int32) (K : Int32 → (Nat → Int32) → (Nat → Nat → Int32) → Prop)  : Prop :=
  (((n 19) = (300 : Int32) → wp_X9_queue_66 n g K) ∧
 (¬ ((n 19) = (300 : Int32)) → ((¬ z0 = (0 : Int32) → vp_in (n 19) (mlen 20) ∧ ∀ g_20 : Nat → Nat → Int32, g_20 = mup g 20 ((n 19)).toNatClampNeg (n 1) → vp_in (n 19) (mlen 22) ∧ ∀ g_22 : Nat → Nat → Int32, g_22 = mup g_20 22 ((n 19)).toNatClampNeg x1 → ∃ n_23, loopW (wp_X9_queue_97 K) n_23 ((0 : Int32), n, g_22)) ∧
 (z0 = (0 : Int32) → wp_X9_queue_66 n g K))))
def wp_X9_queue_46 (x1 : Int32)  (n : Nat → Int32) (g : Nat → Nat → Int32) (K : Int32 → (Nat → Int32) → (Nat → Nat → Int32) → Prop)  : Prop :=
  wp_X9_queue_51 x1 (1 : Int32) n g K
def wp_X9_queue (x1 : Int32) (n : Nat → Int32) (g : Nat → Nat → Int32) (K : Int32 → (Nat → Int32) → (Nat → Nat → Int32) → Prop) : Prop :=
  (((n 19) = (0 : Int32) → wp_X9_queue_46 x1 n g K) ∧
 (¬ ((n 19) = (0 : Int32)) → vp_in ((n 19) - (1 : Int32)) (mlen 20) ∧ ∀ v_26 : Int32, v_26 = g 20 (((n 19) - (1 : Int32))).toNatClampNeg → wp_X9_compare 21 ((12 : Int32) * ((n 19) - (1 : Int32))) v_26 2 (0 : Int32) (n 1) n g (fun r_27 => (((0 : Int32) ≤ r_27 → wp_X9_queue_51 x1 (0 : Int32) n g K) ∧
 (¬ ((0 : Int32) ≤ r_27) → wp_X9_queue_46 x1 n g K)))))
set_option maxHeartbeats 4000000 in
set_option maxRecDepth 100000 in
theorem cc_X9_queue (l : Launch) (G : GG) {mo : Nat} {ad : Nat → Nat} (had : MAd mo ad) {n : Nat → Int32} {g : Nat → Nat → Int32} {sz : Nat} {x1 : Int32} {K : Int32 → (Nat → Int32) → (Nat → Nat → Int32) → Prop} (h : wp_X9_queue x1 n g K) : Met l yX9_queue wsX9_queue ({ frames := 2, cells := 0, slots := 0, locals := 52 } : Room) (FP G [.ref mo, .int x1] (mf mo ad n g) sz) (va_Qi (fun r f9 => ∃ n9 g9, f9 = mf mo ad n9 g9 ∧ K r n9 g9 : Int32 → FT → Prop) (FB G (fA (mf mo ad n g) sz)) (fA (mf mo ad n g) sz)) 0 0 (fA (mf mo ad n g) sz) := by
  refine Met.ofW (cc := cX9_queue) (maxL := 4) (ret := (some .int)) (by decide) rfl ?_
  intro p e s m args below meth c s₁ B hml hv
  obtain ⟨rfl, hsz, hF, hK, hZ⟩ := hv
  have hx := B.exec
  have hb := B.bytes
  have hr := B.returns
  have hts := atoms_spec (ws := wsX9_queue) B.pre
  have hown : s.vm.findClass RX9 = some m.cls := findClass_of_methodNamed B.named
  have hlocks := B.notSynchronized
  subst hsz
  have hF := hF.self (sz := s.heap.size)
  generalize hAe : fA (mf mo ad n g) s.heap.size = A at hF hZ ⊢
  have hA : ∀ q : Nat, s.heap.size ≤ q → A q := fun q h => by rw [← hAe]; exact Or.inr h
  have hS : va_S A s.heap s.heap [] := va_S.rf
  have hin_X9 : ∀ w ∈ wsX90, w ∈ wsX9_queue := by decide +kernel
  have J66 : ∀ (n : Nat → Int32) (g : Nat → Nat → Int32) (H : Heap) (locs : List Loc) (ls : Array Slot), wp_X9_queue_66  n g K  → Fw G A (mf mo ad n g) H → va_S A s.heap H locs → lv_has ls 4 [(0, .ref mo)] → W p l e ({ frames := 2, cells := 0, slots := 0, locals := 52 } : Room) s m ([.ref mo, .int x1] : List Value).toArray below meth c H locs 0 0 (MQ below (va_Qi (fun r f9 => ∃ n9 g9, f9 = mf mo ad n9 g9 ∧ K r n9 g9 : Int32 → FT → Prop) (FB G A) A) ([.ref mo, .int x1] : List Value).toArray s 0 0 A) (F0 m 66 ls []) := by
    intro n g H locs ls h hF hS hl
    unfold wp_X9_queue_66 at h
    refine lv_aload_n hx hb dX9_queue_66 rfl (lv_at hl 0 rfl) ?_
    refine lv_iconst (v := (1 : Int32)) hx hb dX9_queue_67 (by decide) ?_
    refine fw_cV_i (As := [.int (1 : Int32)]) (rest := []) ⟨hx, hb, hml, hown, hts⟩ (cc_X9_fails l G had h) (⟨callB_of 1 hts ggX9_queue_X9_fails rfl rfl rfl (hts (.initialized RX9) (by decide +kernel)) (hts (.methodLink RX9 84 yX9_fails) (by decide +kernel)) (by decide +kernel) ⟨Nat.le_of_ble_eq_true rfl, Nat.le_of_ble_eq_true rfl⟩, hts (.instanceMethod yX9_fails) (by decide +kernel), hts (.selects RX9 yX9_fails yX9_fails) (by decide +kernel)⟩) rfl mf_obj hK hZ hF hS hA rfl hl.1 rfl (Nat.le_of_ble_eq_true rfl) dX9_queue_68 ⟨Nat.zero_le _, Nat.zero_le _⟩ (fun r_1 f9 H locs h hF hS => ?_)
    obtain ⟨n_3, g_4, rfl, h⟩ := h
    exact W.iret (v := r_1) hx hb hr (fun t ht hW => ⟨⟨r_1, (mf mo ad n_3 g_4), rfl, ⟨_, _, rfl, h⟩, by rw [ht]; exact hF, FK.moved hW.alike hK⟩, hS.F ht⟩) hS.2.2 dX9_queue_71
  have L97 : ∀  (j9 : Nat) (y3 : Int32) (n : Nat → Int32) (g : Nat → Nat → Int32) (H : Heap) (locs : List Loc) (ls : Array Slot), loopW (wp_X9_queue_97  K ) j9 (y3, n, g) → Fw G A (mf mo ad n g) H → va_S A s.heap H locs → lv_has ls 4 [(0, .ref mo), (3, .int y3)] → W p l e ({ frames := 2, cells := 0, slots := 0, locals := 52 } : Room) s m ([.ref mo, .int x1] : List Value).toArray below meth c H locs 0 0 (MQ below (va_Qi (fun r f9 => ∃ n9 g9, f9 = mf mo ad n9 g9 ∧ K r n9 g9 : Int32 → FT → Prop) (FB G A) A) ([.ref mo, .int x1] : List Value).toArray s 0 0 A) (F0 m 97 ls []) := by
    intro  j9
    induction j9 with
    | zero => intro y3 n g H locs ls h; exact h.elim
    | succ j9 ih97 =>
      intro y3 n g H locs ls h hF hS hl
      have h : wp_X9_queue_97  K  (loopW (wp_X9_queue_97  K ) j9) (y3, n, g) := h
      generalize loopW (wp_X9_queue_97  K ) j9 = C97 at ih97 h
      unfold wp_X9_queue_97 at h
      refine lv_iload_n hx hb dX9_queue_97 rfl (lv_at hl 1 rfl) ?_
      refine lv_aload_n hx hb dX9_queue_98 rfl (lv_at hl 0 rfl) ?_
      refine fw_get (C := RX9) (T := TX9) (N := 34) hx hb hts hin_X9 hown hK hF mf_obj rfl 1 (by decide) (hts (.fieldLink RX9 88 "FrontCodedIndexModel" "keySize" "I") (by decide +kernel)) (fun _ h9 => h9) rfl dX9_queue_99 ?_
      obtain ⟨h1, h2⟩ := h
      refine lv_icmp_ge (tgt := 131) hx hb dX9_queue_102 (by decide) (fun c_5 => ?_) (fun c_5 => ?_)
      · have h := h1 c_5
        refine lv_aload_n hx hb dX9_queue_131 rfl (lv_at hl 0 rfl) ?_
        refine lv_dup hx hb dX9_queue_132 rfl ?_
        refine fw_get (C := RX9) (T := TX9) (N := 34) hx hb hts hin_X9 hown hK hF mf_obj rfl 19 (by decide) (hts (.fieldLink RX9 234 "FrontCodedIndexModel" "waits" "I") (by decide +kernel)) (fun _ h9 => h9) rfl dX9_queue_133 ?_
        refine lv_iconst (v := (1 : Int32)) hx hb dX9_queue_136 (by decide) ?_
        refine lv_iadd hx hb dX9_queue_137 ?_
        refine fw_put (v := .int ((n 19) + (1 : Int32))) (ty := .int) (C := RX9) (T := TX9) (N := 34) hx hb hts hin_X9 tyX9 tyX9_ok nmX9 hown hK hF hS mf_obj rfl 19 (by decide) (hts (.fieldLink RX9 234 "FrontCodedIndexModel" "waits" "I") (by decide +kernel)) (fun _ h9 => h9) rfl (by decide +kernel) rfl rfl (show 19 < 34 by decide) dX9_queue_138 (fun H locs hF hS => ?_)
        rw [mf_put 19 ((n 19) + (1 : Int32)) rfl] at hF
        obtain ⟨n_6, hn_n_6⟩ : ∃ z, z = upd n 19 ((n 19) + (1 : Int32)) := ⟨_, rfl⟩
        rw [← hn_n_6] at hF; have h := h n_6 hn_n_6
        refine lv_aload_n hx hb dX9_queue_141 rfl (lv_at hl 0 rfl) ?_
        refine lv_aload_n hx hb dX9_queue_142 rfl (lv_at hl 0 rfl) ?_
        refine fw_get (C := RX9) (T := TX9) (N := 34) hx hb hts hin_X9 hown hK hF mf_obj rfl 19 (by decide) (hts (.fieldLink RX9 234 "FrontCodedIndexModel" "waits" "I") (by decide +kernel)) (fun _ h9 => h9) rfl dX9_queue_143 ?_
        refine fw_cV_i (As := [.int (n_6 19)]) (rest := []) ⟨hx, hb, hml, hown, hts⟩ (cc_X9_done l G had h) (⟨callB_of 1 hts ggX9_queue_X9_done rfl rfl rfl (hts (.initialized RX9) (by decide +kernel)) (hts (.methodLink RX9 91 yX9_done) (by decide +kernel)) (by decide +kernel) ⟨Nat.le_of_ble_eq_true rfl, Nat.le_of_ble_eq_true rfl⟩, hts (.instanceMethod yX9_done) (by decide +kernel), hts (.selects RX9 yX9_done yX9_done) (by decide +kernel)⟩) rfl mf_obj hK hZ hF hS hA rfl hl.1 rfl (Nat.le_of_ble_eq_true rfl) dX9_queue_146 ⟨Nat.zero_le _, Nat.zero_le _⟩ (fun r_7 f9 H locs h hF hS => ?_)
        obtain ⟨n_9, g_10, rfl, h⟩ := h
        exact W.iret (v := r_7) hx hb hr (fun t ht hW => ⟨⟨r_7, (mf mo ad n_9 g_10), rfl, ⟨_, _, rfl, h⟩, by rw [ht]; exact hF, FK.moved hW.alike hK⟩, hS.F ht⟩) hS.2.2 dX9_queue_149
      · have h := h2 c_5
        refine lv_aload_n hx hb dX9_queue_105 rfl (lv_at hl 0 rfl) ?_
        refine fw_get (C := RX9) (T := TX9) (N := 34) hx hb hts hin_X9 hown hK hF mf_obj rfl 21 (by decide) (hts (.fieldLink RX9 50 "FrontCodedIndexModel" "waitBytes" "[I") (by decide +kernel)) (fun _ h9 => h9) rfl dX9_queue_106 ?_
        refine lv_bipush (v := (12 : Int32)) hx hb dX9_queue_109 (by decide) ?_
        refine lv_aload_n hx hb dX9_queue_111 rfl (lv_at hl 0 rfl) ?_
        refine fw_get (C := RX9) (T := TX9) (N := 34) hx hb hts hin_X9 hown hK hF mf_obj rfl 19 (by decide) (hts (.fieldLink RX9 234 "FrontCodedIndexModel" "waits" "I") (by decide +kernel)) (fun _ h9 => h9) rfl dX9_queue_112 ?_
        refine lv_imul hx hb dX9_queue_115 ?_
        refine lv_iload_n hx hb dX9_queue_116 rfl (lv_at hl 1 rfl) ?_
        refine lv_iadd hx hb dX9_queue_117 ?_
        refine lv_aload_n hx hb dX9_queue_118 rfl (lv_at hl 0 rfl) ?_
        refine fw_get (C := RX9) (T := TX9) (N := 34) hx hb hts hin_X9 hown hK hF mf_obj rfl 2 (by decide) (hts (.fieldLink RX9 7 "FrontCodedIndexModel" "key" "[I") (by decide +kernel)) (fun _ h9 => h9) rfl dX9_queue_119 ?_
        refine lv_iload_n hx hb dX9_queue_122 rfl (lv_at hl 1 rfl) ?_
        obtain ⟨hi_i_11, h⟩ := h
        refine fw_iald hx hb hK hF (mf_arr had 2 (by decide)) hi_i_11 dX9_queue_123 ?_
        refine lv_topi (fun v_12 e_v_12 => ?_)
        have h := h v_12 e_v_12
        obtain ⟨hi_i_13, h⟩ := h
        refine fw_iast hx hb hK hF hS (mf_arr had 21 (by decide)) hi_i_13 dX9_queue_124 (fun H locs hF hS => ?_)
        rw [mf_st had 21 (by decide)] at hF
        obtain ⟨g_14, hg_g_14⟩ : ∃ z, z = mup g 21 ((((12 : Int32) * (n 19)) + y3)).toNatClampNeg v_12 := ⟨_, rfl⟩
        rw [← hg_g_14] at hF; have h := h g_14 hg_g_14
        obtain ⟨v_15, e_16⟩ : ∃ y : Int32, y = y3 + 1 := ⟨_, rfl⟩
        have h := h v_15 e_16
        refine lv_iinc (v := v_15) (lv' := [(3, .int v_15), (0, .ref mo)]) hx hb dX9_queue_125 hl (k := 1) rfl (by rw [e_16]; rfl) (by decide) rfl (fun ls hl => ?_)
        refine lv_goto (tgt := 97) hx hb dX9_queue_128 (by decide) ?_
        exact ih97 v_15 n g_14 _ _ _ h hF hS (lv_sub hl [1, 0] rfl)
  have J51 : ∀ (z0 : Int32) (n : Nat → Int32) (g : Nat → Nat → Int32) (H : Heap) (locs : List Loc) (ls : Array Slot), wp_X9_queue_51 x1 z0 n g K  → Fw G A (mf mo ad n g) H → va_S A s.heap H locs → lv_has ls 4 [(0, .ref mo), (1, .int x1)] → W p l e ({ frames := 2, cells := 0, slots := 0, locals := 52 } : Room) s m ([.ref mo, .int x1] : List Value).toArray below meth c H locs 0 0 (MQ below (va_Qi (fun r f9 => ∃ n9 g9, f9 = mf mo ad n9 g9 ∧ K r n9 g9 : Int32 → FT → Prop) (FB G A) A) ([.ref mo, .int x1] : List Value).toArray s 0 0 A) (F0 m 51 ls [.int z0]) := by
    intro z0 n g H locs ls h hF hS hl
    unfold wp_X9_queue_51 at h
    refine lv_istore_n (lv' := [(2, .int z0), (0, .ref mo), (1, .int x1)]) hx hb dX9_queue_51 rfl hl (by decide) rfl (fun ls hl => ?_)
    refine lv_aload_n hx hb dX9_queue_52 rfl (lv_at hl 1 rfl) ?_
    refine fw_get (C := RX9) (T := TX9) (N := 34) hx hb hts hin_X9 hown hK hF mf_obj rfl 19 (by decide) (hts (.fieldLink RX9 234 "FrontCodedIndexModel" "waits" "I") (by decide +kernel)) (fun _ h9 => h9) rfl dX9_queue_53 ?_
    refine lv_sipush (v := (300 : Int32)) hx hb dX9_queue_56 (by decide) ?_
    obtain ⟨h1, h2⟩ := h
    refine lv_icmp_eq (tgt := 66) hx hb dX9_queue_59 (by decide) (fun c_17 => ?_) (fun c_17 => ?_)
    · have h := h1 c_17
      exact J66 n g _ _ _ h hF hS (lv_sub hl [1] rfl)
    · have h := h2 c_17
      refine lv_iload_n hx hb dX9_queue_62 rfl (lv_at hl 0 rfl) ?_
      obtain ⟨h1, h2⟩ := h
      refine lv_if_ne (tgt := 72) hx hb dX9_queue_63 (by decide) (fun c_18 => ?_) (fun c_18 => ?_)
      · have h := h1 c_18
        refine lv_aload_n hx hb dX9_queue_72 rfl (lv_at hl 1 rfl) ?_
        refine fw_get (C := RX9) (T := TX9) (N := 34) hx hb hts hin_X9 hown hK hF mf_obj rfl 20 (by decide) (hts (.fieldLink RX9 47 "FrontCodedIndexModel" "waitSize" "[I") (by decide +kernel)) (fun _ h9 => h9) rfl dX9_queue_73 ?_
        refine lv_aload_n hx hb dX9_queue_76 rfl (lv_at hl 1 rfl) ?_
        refine fw_get (C := RX9) (T := TX9) (N := 34) hx hb hts hin_X9 hown hK hF mf_obj rfl 19 (by decide) (hts (.fieldLink RX9 234 "FrontCodedIndexModel" "waits" "I") (by decide +kernel)) (fun _ h9 => h9) rfl dX9_queue_77 ?_
        refine lv_aload_n hx hb dX9_queue_80 rfl (lv_at hl 1 rfl) ?_
        refine fw_get (C := RX9) (T := TX9) (N := 34) hx hb hts hin_X9 hown hK hF mf_obj rfl 1 (by decide) (hts (.fieldLink RX9 88 "FrontCodedIndexModel" "keySize" "I") (by decide +kernel)) (fun _ h9 => h9) rfl dX9_queue_81 ?_
        obtain ⟨hi_i_19, h⟩ := h
        refine fw_iast hx hb hK hF hS (mf_arr had 20 (by decide)) hi_i_19 dX9_queue_84 (fun H locs hF hS => ?_)
        rw [mf_st had 20 (by decide)] at hF
        obtain ⟨g_20, hg_g_20⟩ : ∃ z, z = mup g 20 ((n 19)).toNatClampNeg (n 1) := ⟨_, rfl⟩
        rw [← hg_g_20] at hF; have h := h g_20 hg_g_20
        refine lv_aload_n hx hb dX9_queue_85 rfl (lv_at hl 1 rfl) ?_
        refine fw_get (C := RX9) (T := TX9) (N := 34) hx hb hts hin_X9 hown hK hF mf_obj rfl 22 (by decide) (hts (.fieldLink RX9 53 "FrontCodedIndexModel" "waitValues" "[I") (by decide +kernel)) (fun _ h9 => h9) rfl dX9_queue_86 ?_
        refine lv_aload_n hx hb dX9_queue_89 rfl (lv_at hl 1 rfl) ?_
        refine fw_get (C := RX9) (T := TX9) (N := 34) hx hb hts hin_X9 hown hK hF mf_obj rfl 19 (by decide) (hts (.fieldLink RX9 234 "FrontCodedIndexModel" "waits" "I") (by decide +kernel)) (fun _ h9 => h9) rfl dX9_queue_90 ?_
        refine lv_iload_n hx hb dX9_queue_93 rfl (lv_at hl 2 rfl) ?_
        obtain ⟨hi_i_21, h⟩ := h
        refine fw_iast hx hb hK hF hS (mf_arr had 22 (by decide)) hi_i_21 dX9_queue_94 (fun H locs hF hS => ?_)
        rw [mf_st had 22 (by decide)] at hF
        obtain ⟨g_22, hg_g_22⟩ : ∃ z, z = mup g_20 22 ((n 19)).toNatClampNeg x1 := ⟨_, rfl⟩
        rw [← hg_g_22] at hF; have h := h g_22 hg_g_22
        refine lv_iconst (v := (0 : Int32)) hx hb dX9_queue_95 (by decide) ?_
        refine lv_istore_n (lv' := [(3, .int (0 : Int32)), (2, .int z0), (0, .ref mo), (1, .int x1)]) hx hb dX9_queue_96 rfl hl (by decide) rfl (fun ls hl => ?_)
        obtain ⟨n_23, h⟩ := h
        exact L97 n_23 (0 : Int32) n g_22 _ _ _ h hF hS (lv_sub hl [2, 0] rfl)
      · have h := h2 c_18
        exact J66 n g _ _ _ h hF hS (lv_sub hl [1] rfl)
  have J46 : ∀ (n : Nat → Int32) (g : Nat → Nat → Int32) (H : Heap) (locs : List Loc) (ls : Array Slot), wp_X9_queue_46 x1 n g K  → Fw G A (mf mo ad n g) H → va_S A s.heap H locs → lv_has ls 4 [(0, .ref mo), (1, .int x1)] → W p l e ({ frames := 2, cells := 0, slots := 0, locals := 52 } : Room) s m ([.ref mo, .int x1] : List Value).toArray below meth c H locs 0 0 (MQ below (va_Qi (fun r f9 => ∃ n9 g9, f9 = mf mo ad n9 g9 ∧ K r n9 g9 : Int32 → FT → Prop) (FB G A) A) ([.ref mo, .int x1] : List Value).toArray s 0 0 A) (F0 m 46 ls []) := by
    intro n g H locs ls h hF hS hl
    unfold wp_X9_queue_46 at h
    refine lv_iconst (v := (1 : Int32)) hx hb dX9_queue_46 (by decide) ?_
    refine lv_goto (tgt := 51) hx hb dX9_queue_47 (by decide) ?_
    exact J51 (1 : Int32) n g _ _ _ h hF hS (lv_sub hl [0, 1] rfl)
  have hl := lv_entry ([.ref mo, .int x1]) (n := 4) (Nat.le_of_ble_eq_true rfl)
  rw [lg_entry_eq]
  generalize (lg_sl ([.ref mo, .int x1]) ++ List.replicate (4 - (lg_sl ([.ref mo, .int x1])).length) Slot.unset).toArray = ls at hl ⊢
  have hl : lv_has ls 4 [(0, .ref mo), (1, .int x1)] := hl
  unfold wp_X9_queue at h
  refine lv_aload_n hx hb dX9_queue_0 rfl (lv_at hl 0 rfl) ?_
  refine fw_get (C := RX9) (T := TX9) (N := 34) hx hb hts hin_X9 hown hK hF mf_obj rfl 19 (by decide) (hts (.fieldLink RX9 234 "FrontCodedIndexModel" "waits" "I") (by decide +kernel)) (fun _ h9 => h9) rfl dX9_queue_1 ?_
  obtain ⟨h1, h2⟩ := h
  refine lv_if_eq (tgt := 46) hx hb dX9_queue_4 (by decide) (fun c_24 => ?_) (fun c_24 => ?_)
  · have h := h1 c_24
    exact J46 n g _ _ _ h hF hS (lv_sub hl [0, 1] rfl)
  · have h := h2 c_24
    refine lv_aload_n hx hb dX9_queue_7 rfl (lv_at hl 0 rfl) ?_
    refine fw_get (C := RX9) (T := TX9) (N := 34) hx hb hts hin_X9 hown hK hF mf_obj rfl 21 (by decide) (hts (.fieldLink RX9 50 "FrontCodedIndexModel" "waitBytes" "[I") (by decide +kernel)) (fun _ h9 => h9) rfl dX9_queue_8 ?_
    refine lv_bipush (v := (12 : Int32)) hx hb dX9_queue_11 (by decide) ?_
    refine lv_aload_n hx hb dX9_queue_13 rfl (lv_at hl 0 rfl) ?_
    refine fw_get (C := RX9) (T := TX9) (N := 34) hx hb hts hin_X9 hown hK hF mf_obj rfl 19 (by decide) (hts (.fieldLink RX9 234 "FrontCodedIndexModel" "waits" "I") (by decide +kernel)) (fun _ h9 => h9) rfl dX9_queue_14 ?_
    refine lv_iconst (v := (1 : Int32)) hx hb dX9_queue_17 (by decide) ?_
    refine lv_isub hx hb dX9_queue_18 ?_
    refine lv_imul hx hb dX9_queue_19 ?_
    refine lv_aload_n hx hb dX9_queue_20 rfl (lv_at hl 0 rfl) ?_
    refine fw_get (C := RX9) (T := TX9) (N := 34) hx hb hts hin_X9 hown hK hF mf_obj rfl 20 (by decide) (hts (.fieldLink RX9 47 "FrontCodedIndexModel" "waitSize" "[I") (by decide +kernel)) (fun _ h9 => h9) rfl dX9_queue_21 ?_
    refine lv_aload_n hx hb dX9_queue_24 rfl (lv_at hl 0 rfl) ?_
    refine fw_get (C := RX9) (T := TX9) (N := 34) hx hb hts hin_X9 hown hK hF mf_obj rfl 19 (by decide) (hts (.fieldLink RX9 234 "FrontCodedIndexModel" "waits" "I") (by decide +kernel)) (fun _ h9 => h9) rfl dX9_queue_25 ?_
    refine lv_iconst (v := (1 : Int32)) hx hb dX9_queue_28 (by decide) ?_
    refine lv_isub hx hb dX9_queue_29 ?_
    obtain ⟨hi_i_25, h⟩ := h
    refine fw_iald hx hb hK hF (mf_arr had 20 (by decide)) hi_i_25 dX9_queue_30 ?_
    refine lv_topi (fun v_26 e_v_26 => ?_)
    have h := h v_26 e_v_26
    refine lv_aload_n hx hb dX9_queue_31 rfl (lv_at hl 0 rfl) ?_
    refine fw_get (C := RX9) (T := TX9) (N := 34) hx hb hts hin_X9 hown hK hF mf_obj rfl 2 (by decide) (hts (.fieldLink RX9 7 "FrontCodedIndexModel" "key" "[I") (by decide +kernel)) (fun _ h9 => h9) rfl dX9_queue_32 ?_
    refine lv_iconst (v := (0 : Int32)) hx hb dX9_queue_35 (by decide) ?_
    refine lv_aload_n hx hb dX9_queue_36 rfl (lv_at hl 0 rfl) ?_
    refine fw_get (C := RX9) (T := TX9) (N := 34) hx hb hts hin_X9 hown hK hF mf_obj rfl 1 (by decide) (hts (.fieldLink RX9 88 "FrontCodedIndexModel" "keySize" "I") (by decide +kernel)) (fun _ h9 => h9) rfl dX9_queue_37 ?_
    refine fw_cS_i_p (As := [.ref (ad 21), .int ((12 : Int32) * ((n 19) - (1 : Int32))), .int v_26, .ref (ad 2), .int (0 : Int32), .int (n 1)]) (rest := []) ⟨hx, hb, hml, hown, hts⟩ (cc_X9_compare l G had h) (⟨callB_of 6 hts ggX9_queue_X9_compare rfl rfl rfl (hts (.initialized RX9) (by decide +kernel)) (hts (.methodLink RX9 103 yX9_compare) (by decide +kernel)) (by decide +kernel) ⟨Nat.le_of_ble_eq_true rfl, Nat.le_of_ble_eq_true rfl⟩, hts (.static yX9_compare) (by decide +kernel)⟩) hK hZ hF hS hA rfl hl.1 rfl (Nat.le_of_ble_eq_true rfl) dX9_queue_40 ⟨Nat.zero_le _, Nat.zero_le _⟩ (fun r_27 H locs h hF hS => ?_)
    obtain ⟨h1, h2⟩ := h
    refine lv_if_ge (tgt := 50) hx hb dX9_queue_43 (by decide) (fun c_28 => ?_) (fun c_28 => ?_)
    · have h := h1 c_28
      refine lv_iconst (v := (0 : Int32)) hx hb dX9_queue_50 (by decide) ?_
      exact J51 (0 : Int32) n g _ _ _ h hF hS (lv_sub hl [0, 1] rfl)
    · have h := h2 c_28
      exact J46 n g _ _ _ h hF hS (lv_sub hl [0, 1] rfl)
theorem dX9_rank_0 : decode cX9_rank 0 = .ok (.aload_n 0, 1) := by decide +kernel
theorem dX9_rank_1 : decode cX9_rank 1 = .ok (.aload_n 0, 1) := by decide +kernel
theorem dX9_rank_2 : decode cX9_rank 2 = .ok (.aload_n 0, 1) := by decide +kernel
theorem dX9_rank_3 : decode cX9_rank 3 = .ok (.getfield 7, 3) := by decide +kernel
theorem dX9_rank_6 : decode cX9_rank 6 = .ok (.aload_n 0, 1) := by decide +kernel
theorem dX9_rank_7 : decode cX9_rank 7 = .ok (.getfield 88, 3) := by decide +kernel
theorem dX9_rank_10 : decode cX9_rank 10 = .ok (.invokevirtual 171, 3) := by decide +kernel
theorem dX9_rank_13 : decode cX9_rank 13 = .ok (.invokevirtual 91, 3) := by decide +kernel
theorem dX9_rank_16 : decode cX9_rank 16 = .ok (.ireturn, 1) := by decide +kernel
set_option maxRecDepth 20000 in
theorem ggX9_rank_X9_done : GoodIn wsX9_rank wsX9_done := goodIn_r _ [24, 25, 26, 27, 28, 29, 30, 31, 32, 33, 34, 35, 36, 37, 38, 39, 40, 41, 42, 43, 44, 45, 46, 47, 48, 49, 50, 51, 52, 53, 54, 55, 56, 57, 58, 59] (by decide +kernel) (by decide +kernel)
set_option maxRecDepth 20000 in
theorem ggX9_rank_X9_less : GoodIn wsX9_rank wsX9_less := goodIn_r _ [7, 8, 9, 10, 11, 6, 12, 13, 14, 15, 16, 17, 18, 19, 20, 26, 27, 28, 29, 30, 31, 32, 33, 34, 35, 36, 37, 38, 39, 40, 41, 42, 43, 44, 45, 46, 47, 48, 49, 50, 51, 52, 53, 54, 55, 56, 57, 58, 59] (by decide +kernel) (by decide +kernel)
def wp_X9_rank  (n : Nat → Int32) (g : Nat → Nat → Int32) (K : Int32 → (Nat → Int32) → (Nat → Nat → Int32) → Prop) : Prop :=
  wp_X9_less 2 (n 1) n g (fun r_1 => wp_X9_done r_1 n g (fun r_2 n_4 g_5 => K r_2 n_4 g_5))
set_option maxHeartbeats 4000000 in
set_option maxRecDepth 100000 in
theorem cc_X9_rank (l : Launch) (G : GG) {mo : Nat} {ad : Nat → Nat} (had : MAd mo ad) {n : Nat → Int32} {g : Nat → Nat → Int32} {sz : Nat}  {K : Int32 → (Nat → Int32) → (Nat → Nat → Int32) → Prop} (h : wp_X9_rank  n g K) : Met l yX9_rank wsX9_rank ({ frames := 4, cells := 0, slots := 0, locals := 98 } : Room) (FP G [.ref mo] (mf mo ad n g) sz) (va_Qi (fun r f9 => ∃ n9 g9, f9 = mf mo ad n9 g9 ∧ K r n9 g9 : Int32 → FT → Prop) (FB G (fA (mf mo ad n g) sz)) (fA (mf mo ad n g) sz)) 0 0 (fA (mf mo ad n g) sz) := by
  refine Met.ofW (cc := cX9_rank) (maxL := 1) (ret := (some .int)) (by decide) rfl ?_
  intro p e s m args below meth c s₁ B hml hv
  obtain ⟨rfl, hsz, hF, hK, hZ⟩ := hv
  have hx := B.exec
  have hb := B.bytes
  have hr := B.returns
  have hts := atoms_spec (ws := wsX9_rank) B.pre
  have hown : s.vm.findClass RX9 = some m.cls := findClass_of_methodNamed B.named
  have hlocks := B.notSynchronized
  subst hsz
  have hF := hF.self (sz := s.heap.size)
  generalize hAe : fA (mf mo ad n g) s.heap.size = A at hF hZ ⊢
  have hA : ∀ q : Nat, s.heap.size ≤ q → A q := fun q h => by rw [← hAe]; exact Or.inr h
  have hS : va_S A s.heap s.heap [] := va_S.rf
  have hin_X9 : ∀ w ∈ wsX90, w ∈ wsX9_rank := by decide +kernel
  have hl := lv_entry ([.ref mo]) (n := 1) (Nat.le_of_ble_eq_true rfl)
  rw [lg_entry_eq]
  generalize (lg_sl ([.ref mo]) ++ List.replicate (1 - (lg_sl ([.ref mo])).length) Slot.unset).toArray = ls at hl ⊢
  have hl : lv_has ls 1 [(0, .ref mo)] := hl
  unfold wp_X9_rank at h
  refine lv_aload_n hx hb dX9_rank_0 rfl (lv_at hl 0 rfl) ?_
  refine lv_aload_n hx hb dX9_rank_1 rfl (lv_at hl 0 rfl) ?_
  refine lv_aload_n hx hb dX9_rank_2 rfl (lv_at hl 0 rfl) ?_
  refine fw_get (C := RX9) (T := TX9) (N := 34) hx hb hts hin_X9 hown hK hF mf_obj rfl 2 (by decide) (hts (.fieldLink RX9 7 "FrontCodedIndexModel" "key" "[I") (by decide +kernel)) (fun _ h9 => h9) rfl dX9_rank_3 ?_
  refine lv_aload_n hx hb dX9_rank_6 rfl (lv_at hl 0 rfl) ?_
  refine fw_get (C := RX9) (T := TX9) (N := 34) hx hb hts hin_X9 hown hK hF mf_obj rfl 1 (by decide) (hts (.fieldLink RX9 88 "FrontCodedIndexModel" "keySize" "I") (by decide +kernel)) (fun _ h9 => h9) rfl dX9_rank_7 ?_
  refine fw_cV_i_p (As := [.ref (ad 2), .int (n 1)]) (rest := [.ref mo]) ⟨hx, hb, hml, hown, hts⟩ (cc_X9_less l G had h) (⟨callB_of 2 hts ggX9_rank_X9_less rfl rfl rfl (hts (.initialized RX9) (by decide +kernel)) (hts (.methodLink RX9 171 yX9_less) (by decide +kernel)) (by decide +kernel) ⟨Nat.le_of_ble_eq_true rfl, Nat.le_of_ble_eq_true rfl⟩, hts (.instanceMethod yX9_less) (by decide +kernel), hts (.selects RX9 yX9_less yX9_less) (by decide +kernel)⟩) rfl mf_obj hK hZ hF hS hA rfl hl.1 rfl (Nat.le_of_ble_eq_true rfl) dX9_rank_10 ⟨Nat.zero_le _, Nat.zero_le _⟩ (fun r_1 H locs h hF hS => ?_)
  refine fw_cV_i (As := [.int r_1]) (rest := []) ⟨hx, hb, hml, hown, hts⟩ (cc_X9_done l G had h) (⟨callB_of 1 hts ggX9_rank_X9_done rfl rfl rfl (hts (.initialized RX9) (by decide +kernel)) (hts (.methodLink RX9 91 yX9_done) (by decide +kernel)) (by decide +kernel) ⟨Nat.le_of_ble_eq_true rfl, Nat.le_of_ble_eq_true rfl⟩, hts (.instanceMethod yX9_done) (by decide +kernel), hts (.selects RX9 yX9_done yX9_done) (by decide +kernel)⟩) rfl mf_obj hK hZ hF hS hA rfl hl.1 rfl (Nat.le_of_ble_eq_true rfl) dX9_rank_13 ⟨Nat.zero_le _, Nat.zero_le _⟩ (fun r_2 f9 H locs h hF hS => ?_)
  obtain ⟨n_4, g_5, rfl, h⟩ := h
  exact W.iret (v := r_2) hx hb hr (fun t ht hW => ⟨⟨r_2, (mf mo ad n_4 g_5), rfl, ⟨_, _, rfl, h⟩, by rw [ht]; exact hF, FK.moved hW.alike hK⟩, hS.F ht⟩) hS.2.2 dX9_rank_16
theorem dX9_removes_0 : decode cX9_removes 0 = .ok (.aload_n 0, 1) := by decide +kernel
theorem dX9_removes_1 : decode cX9_removes 1 = .ok (.iconst 0, 1) := by decide +kernel
theorem dX9_removes_2 : decode cX9_removes 2 = .ok (.iload_n 1, 1) := by decide +kernel
theorem dX9_removes_3 : decode cX9_removes 3 = .ok (.invokevirtual 137, 3) := by decide +kernel
theorem dX9_removes_6 : decode cX9_removes 6 = .ok (.istore_n 2, 1) := by decide +kernel
theorem dX9_removes_7 : decode cX9_removes 7 = .ok (.aload_n 0, 1) := by decide +kernel
theorem dX9_removes_8 : decode cX9_removes 8 = .ok (.getfield 26, 3) := by decide +kernel
theorem dX9_removes_11 : decode cX9_removes 11 = .ok (.iload_n 1, 1) := by decide +kernel
theorem dX9_removes_12 : decode cX9_removes 12 = .ok (.iaload, 1) := by decide +kernel
theorem dX9_removes_13 : decode cX9_removes 13 = .ok (.istore_n 3, 1) := by decide +kernel
theorem dX9_removes_14 : decode cX9_removes 14 = .ok (.iload_n 1, 1) := by decide +kernel
theorem dX9_removes_15 : decode cX9_removes 15 = .ok (.istore 4, 2) := by decide +kernel
theorem dX9_removes_17 : decode cX9_removes 17 = .ok (.iload 4, 2) := by decide +kernel
theorem dX9_removes_19 : decode cX9_removes 19 = .ok (.aload_n 0, 1) := by decide +kernel
theorem dX9_removes_20 : decode cX9_removes 20 = .ok (.getfield 106, 3) := by decide +kernel
theorem dX9_removes_23 : decode cX9_removes 23 = .ok (.iconst 1, 1) := by decide +kernel
theorem dX9_removes_24 : decode cX9_removes 24 = .ok (.isub, 1) := by decide +kernel
theorem dX9_removes_25 : decode cX9_removes 25 = .ok (.if_icmp .ge 19, 3) := by decide +kernel
theorem dX9_removes_28 : decode cX9_removes 28 = .ok (.aload_n 0, 1) := by decide +kernel
theorem dX9_removes_29 : decode cX9_removes 29 = .ok (.iload 4, 2) := by decide +kernel
theorem dX9_removes_31 : decode cX9_removes 31 = .ok (.iload 4, 2) := by decide +kernel
theorem dX9_removes_33 : decode cX9_removes 33 = .ok (.iconst 1, 1) := by decide +kernel
theorem dX9_removes_34 : decode cX9_removes 34 = .ok (.iadd, 1) := by decide +kernel
theorem dX9_removes_35 : decode cX9_removes 35 = .ok (.invokevirtual 189, 3) := by decide +kernel
theorem dX9_removes_38 : decode cX9_removes 38 = .ok (.iinc 4 1, 3) := by decide +kernel
theorem dX9_removes_41 : decode cX9_removes 41 = .ok (.goto (-24), 3) := by decide +kernel
theorem dX9_removes_44 : decode cX9_removes 44 = .ok (.aload_n 0, 1) := by decide +kernel
theorem dX9_removes_45 : decode cX9_removes 45 = .ok (.dup, 1) := by decide +kernel
theorem dX9_removes_46 : decode cX9_removes 46 = .ok (.getfield 106, 3) := by decide +kernel
theorem dX9_removes_49 : decode cX9_removes 49 = .ok (.iconst 1, 1) := by decide +kernel
theorem dX9_removes_50 : decode cX9_removes 50 = .ok (.isub, 1) := by decide +kernel
theorem dX9_removes_51 : decode cX9_removes 51 = .ok (.putfield 106, 3) := by decide +kernel
theorem dX9_removes_54 : decode cX9_removes 54 = .ok (.aload_n 0, 1) := by decide +kernel
theorem dX9_removes_55 : decode cX9_removes 55 = .ok (.getfield 35, 3) := by decide +kernel
theorem dX9_removes_58 : decode cX9_removes 58 = .ok (.iconst 0, 1) := by decide +kernel
theorem dX9_removes_59 : decode cX9_removes 59 = .ok (.iload_n 2, 1) := by decide +kernel
theorem dX9_removes_60 : decode cX9_removes 60 = .ok (.invokestatic 113, 3) := by decide +kernel
theorem dX9_removes_63 : decode cX9_removes 63 = .ok (.dup2, 1) := by decide +kernel
theorem dX9_removes_64 : decode cX9_removes 64 = .ok (.iaload, 1) := by decide +kernel
theorem dX9_removes_65 : decode cX9_removes 65 = .ok (.iconst 1, 1) := by decide +kernel
theorem dX9_removes_66 : decode cX9_removes 66 = .ok (.isub, 1) := by decide +kernel
theorem dX9_removes_67 : decode cX9_removes 67 = .ok (.iastore, 1) := by decide +kernel
theorem dX9_removes_68 : decode cX9_removes 68 = .ok (.iconst 0, 1) := by decide +kernel
theorem dX9_removes_69 : decode cX9_removes 69 = .ok (.istore 4, 2) := by decide +kernel
theorem dX9_removes_71 : decode cX9_removes 71 = .ok (.iload 4, 2) := by decide +kernel
theorem dX9_removes_73 : decode cX9_removes 73 = .ok (.iconst 4, 1) := by decide +kernel
theorem dX9_removes_74 : decode cX9_removes 74 = .ok (.if_icmp .ge 35, 3) := by decide +kernel
theorem dX9_removes_77 : decode cX9_removes 77 = .ok (.aload_n 0, 1) := by decide +kernel
theorem dX9_removes_78 : decode cX9_removes 78 = .ok (.getfield 44, 3) := by decide +kernel
theorem dX9_removes_81 : decode cX9_removes 81 = .ok (.iload 4, 2) := by decide +kernel
theorem dX9_removes_83 : decode cX9_removes 83 = .ok (.dup2, 1) := by decide +kernel
theorem dX9_removes_84 : decode cX9_removes 84 = .ok (.iaload, 1) := by decide +kernel
theorem dX9_removes_85 : decode cX9_removes 85 = .ok (.aload_n 0, 1) := by decide +kernel
theorem dX9_removes_86 : decode cX9_removes 86 = .ok (.getfield 44, 3) := by decide +kernel
theorem dX9_removes_89 : decode cX9_removes 89 = .ok (.iload 4, 2) := by decide +kernel
theorem dX9_removes_91 : decode cX9_removes 91 = .ok (.iaload, 1) := by decide +kernel
theorem dX9_removes_92 : decode cX9_removes 92 = .ok (.iload_n 1, 1) := by decide +kernel
theorem dX9_removes_93 : decode cX9_removes 93 = .ok (.if_icmp .le 7, 3) := by decide +kernel
theorem dX9_removes_96 : decode cX9_removes 96 = .ok (.iconst 1, 1) := by decide +kernel
theorem dX9_removes_97 : decode cX9_removes 97 = .ok (.goto 4, 3) := by decide +kernel
theorem dX9_removes_100 : decode cX9_removes 100 = .ok (.iconst 0, 1) := by decide +kernel
theorem dX9_removes_101 : decode cX9_removes 101 = .ok (.isub, 1) := by decide +kernel
theorem dX9_removes_102 : decode cX9_removes 102 = .ok (.iastore, 1) := by decide +kernel
theorem dX9_removes_103 : decode cX9_removes 103 = .ok (.iinc 4 1, 3) := by decide +kernel
theorem dX9_removes_106 : decode cX9_removes 106 = .ok (.goto (-35), 3) := by decide +kernel
theorem dX9_removes_109 : decode cX9_removes 109 = .ok (.iload_n 2, 1) := by decide +kernel
theorem dX9_removes_110 : decode cX9_removes 110 = .ok (.istore 4, 2) := by decide +kernel
theorem dX9_removes_112 : decode cX9_removes 112 = .ok (.iconst 1, 1) := by decide +kernel
theorem dX9_removes_113 : decode cX9_removes 113 = .ok (.istore 5, 2) := by decide +kernel
theorem dX9_removes_115 : decode cX9_removes 115 = .ok (.iconst 0, 1) := by decide +kernel
theorem dX9_removes_116 : decode cX9_removes 116 = .ok (.istore 6, 2) := by decide +kernel
theorem dX9_removes_118 : decode cX9_removes 118 = .ok (.iload 5, 2) := by decide +kernel
theorem dX9_removes_120 : decode cX9_removes 120 = .ok (.ifCond .eq 100, 3) := by decide +kernel
theorem dX9_removes_123 : decode cX9_removes 123 = .ok (.iload 6, 2) := by decide +kernel
theorem dX9_removes_125 : decode cX9_removes 125 = .ok (.aload_n 0, 1) := by decide +kernel
theorem dX9_removes_126 : decode cX9_removes 126 = .ok (.getfield 29, 3) := by decide +kernel
theorem dX9_removes_129 : decode cX9_removes 129 = .ok (.if_icmp .ge 91, 3) := by decide +kernel
theorem dX9_removes_132 : decode cX9_removes 132 = .ok (.aload_n 0, 1) := by decide +kernel
theorem dX9_removes_133 : decode cX9_removes 133 = .ok (.iload 6, 2) := by decide +kernel
theorem dX9_removes_135 : decode cX9_removes 135 = .ok (.iload 4, 2) := by decide +kernel
theorem dX9_removes_137 : decode cX9_removes 137 = .ok (.invokevirtual 195, 3) := by decide +kernel
theorem dX9_removes_140 : decode cX9_removes 140 = .ok (.istore 7, 2) := by decide +kernel
theorem dX9_removes_142 : decode cX9_removes 142 = .ok (.iload 7, 2) := by decide +kernel
theorem dX9_removes_144 : decode cX9_removes 144 = .ok (.iconst (-1), 1) := by decide +kernel
theorem dX9_removes_145 : decode cX9_removes 145 = .ok (.if_icmp .eq 7, 3) := by decide +kernel
theorem dX9_removes_148 : decode cX9_removes 148 = .ok (.iconst 1, 1) := by decide +kernel
theorem dX9_removes_149 : decode cX9_removes 149 = .ok (.goto 4, 3) := by decide +kernel
theorem dX9_removes_152 : decode cX9_removes 152 = .ok (.iconst 0, 1) := by decide +kernel
theorem dX9_removes_153 : decode cX9_removes 153 = .ok (.istore 5, 2) := by decide +kernel
theorem dX9_removes_155 : decode cX9_removes 155 = .ok (.iload 5, 2) := by decide +kernel
theorem dX9_removes_157 : decode cX9_removes 157 = .ok (.ifCond .eq 57, 3) := by decide +kernel
theorem dX9_removes_160 : decode cX9_removes 160 = .ok (.aload_n 0, 1) := by decide +kernel
theorem dX9_removes_161 : decode cX9_removes 161 = .ok (.iload 6, 2) := by decide +kernel
theorem dX9_removes_163 : decode cX9_removes 163 = .ok (.iconst 1, 1) := by decide +kernel
theorem dX9_removes_164 : decode cX9_removes 164 = .ok (.iadd, 1) := by decide +kernel
theorem dX9_removes_165 : decode cX9_removes 165 = .ok (.iload 7, 2) := by decide +kernel
theorem dX9_removes_167 : decode cX9_removes 167 = .ok (.invokevirtual 137, 3) := by decide +kernel
theorem dX9_removes_170 : decode cX9_removes 170 = .ok (.istore 8, 2) := by decide +kernel
theorem dX9_removes_172 : decode cX9_removes 172 = .ok (.aload_n 0, 1) := by decide +kernel
theorem dX9_removes_173 : decode cX9_removes 173 = .ok (.iload 6, 2) := by decide +kernel
theorem dX9_removes_175 : decode cX9_removes 175 = .ok (.iload 7, 2) := by decide +kernel
theorem dX9_removes_177 : decode cX9_removes 177 = .ok (.iconst 1, 1) := by decide +kernel
theorem dX9_removes_178 : decode cX9_removes 178 = .ok (.iadd, 1) := by decide +kernel
theorem dX9_removes_179 : decode cX9_removes 179 = .ok (.invokevirtual 198, 3) := by decide +kernel
theorem dX9_removes_182 : decode cX9_removes 182 = .ok (.aload_n 0, 1) := by decide +kernel
theorem dX9_removes_183 : decode cX9_removes 183 = .ok (.getfield 35, 3) := by decide +kernel
theorem dX9_removes_186 : decode cX9_removes 186 = .ok (.iload 6, 2) := by decide +kernel
theorem dX9_removes_188 : decode cX9_removes 188 = .ok (.iconst 1, 1) := by decide +kernel
theorem dX9_removes_189 : decode cX9_removes 189 = .ok (.iadd, 1) := by decide +kernel
theorem dX9_removes_190 : decode cX9_removes 190 = .ok (.iload 8, 2) := by decide +kernel
theorem dX9_removes_192 : decode cX9_removes 192 = .ok (.invokestatic 113, 3) := by decide +kernel
theorem dX9_removes_195 : decode cX9_removes 195 = .ok (.dup2, 1) := by decide +kernel
theorem dX9_removes_196 : decode cX9_removes 196 = .ok (.iaload, 1) := by decide +kernel
theorem dX9_removes_197 : decode cX9_removes 197 = .ok (.iconst 1, 1) := by decide +kernel
theorem dX9_removes_198 : decode cX9_removes 198 = .ok (.isub, 1) := by decide +kernel
theorem dX9_removes_199 : decode cX9_removes 199 = .ok (.iastore, 1) := by decide +kernel
theorem dX9_removes_200 : decode cX9_removes 200 = .ok (.aload_n 0, 1) := by decide +kernel
theorem dX9_removes_201 : decode cX9_removes 201 = .ok (.dup, 1) := by decide +kernel
theorem dX9_removes_202 : decode cX9_removes 202 = .ok (.getfield 201, 3) := by decide +kernel
theorem dX9_removes_205 : decode cX9_removes 205 = .ok (.iconst 1, 1) := by decide +kernel
theorem dX9_removes_206 : decode cX9_removes 206 = .ok (.iadd, 1) := by decide +kernel
theorem dX9_removes_207 : decode cX9_removes 207 = .ok (.putfield 201, 3) := by decide +kernel
theorem dX9_removes_210 : decode cX9_removes 210 = .ok (.iload 8, 2) := by decide +kernel
theorem dX9_removes_212 : decode cX9_removes 212 = .ok (.istore 4, 2) := by decide +kernel
theorem dX9_removes_214 : decode cX9_removes 214 = .ok (.iinc 6 1, 3) := by decide +kernel
theorem dX9_removes_217 : decode cX9_removes 217 = .ok (.goto (-99), 3) := by decide +kernel
theorem dX9_removes_220 : decode cX9_removes 220 = .ok (.aload_n 0, 1) := by decide +kernel
theorem dX9_removes_221 : decode cX9_removes 221 = .ok (.getfield 29, 3) := by decide +kernel
theorem dX9_removes_224 : decode cX9_removes 224 = .ok (.iconst 1, 1) := by decide +kernel
theorem dX9_removes_225 : decode cX9_removes 225 = .ok (.if_icmp .le 35, 3) := by decide +kernel
theorem dX9_removes_228 : decode cX9_removes 228 = .ok (.aload_n 0, 1) := by decide +kernel
theorem dX9_removes_229 : decode cX9_removes 229 = .ok (.getfield 35, 3) := by decide +kernel
theorem dX9_removes_232 : decode cX9_removes 232 = .ok (.aload_n 0, 1) := by decide +kernel
theorem dX9_removes_233 : decode cX9_removes 233 = .ok (.getfield 29, 3) := by decide +kernel
theorem dX9_removes_236 : decode cX9_removes 236 = .ok (.iconst 1, 1) := by decide +kernel
theorem dX9_removes_237 : decode cX9_removes 237 = .ok (.isub, 1) := by decide +kernel
theorem dX9_removes_238 : decode cX9_removes 238 = .ok (.iconst 0, 1) := by decide +kernel
theorem dX9_removes_239 : decode cX9_removes 239 = .ok (.invokestatic 113, 3) := by decide +kernel
theorem dX9_removes_242 : decode cX9_removes 242 = .ok (.iaload, 1) := by decide +kernel
theorem dX9_removes_243 : decode cX9_removes 243 = .ok (.iconst 1, 1) := by decide +kernel
theorem dX9_removes_244 : decode cX9_removes 244 = .ok (.if_icmp .ne 16, 3) := by decide +kernel
theorem dX9_removes_247 : decode cX9_removes 247 = .ok (.aload_n 0, 1) := by decide +kernel
theorem dX9_removes_248 : decode cX9_removes 248 = .ok (.dup, 1) := by decide +kernel
theorem dX9_removes_249 : decode cX9_removes 249 = .ok (.getfield 29, 3) := by decide +kernel
theorem dX9_removes_252 : decode cX9_removes 252 = .ok (.iconst 1, 1) := by decide +kernel
theorem dX9_removes_253 : decode cX9_removes 253 = .ok (.isub, 1) := by decide +kernel
theorem dX9_removes_254 : decode cX9_removes 254 = .ok (.putfield 29, 3) := by decide +kernel
theorem dX9_removes_257 : decode cX9_removes 257 = .ok (.goto (-37), 3) := by decide +kernel
theorem dX9_removes_260 : decode cX9_removes 260 = .ok (.iload_n 3, 1) := by decide +kernel
theorem dX9_removes_261 : decode cX9_removes 261 = .ok (.ireturn, 1) := by decide +kernel
set_option maxRecDepth 20000 in
theorem ggX9_removes_X9_at : GoodIn wsX9_removes wsX9_at := goodIn_r _ [14] (by decide +kernel) (by decide +kernel)
set_option maxRecDepth 20000 in
theorem ggX9_removes_X9_entryTo : GoodIn wsX9_removes wsX9_entryTo := goodIn_r _ [18, 19, 1, 20, 68, 69, 70, 71, 72, 73, 74, 75, 76, 77, 78, 79, 80, 81, 82, 83, 84, 85, 86, 87, 88, 89, 90, 91, 92, 93, 94, 95, 96, 97, 98, 99, 100, 101] (by decide +kernel) (by decide +kernel)
set_option maxRecDepth 20000 in
theorem ggX9_removes_X9_joins : GoodIn wsX9_removes wsX9_joins := goodIn_r _ [63, 3, 59, 49, 50, 12, 13, 10, 14, 64, 65, 66, 67, 68, 69, 70, 71, 72, 73, 74, 75, 76, 77, 78, 79, 80, 81, 82, 83, 84, 85, 86, 87, 88, 89, 90, 91, 92, 93, 94, 95, 96, 97, 98, 99, 100, 101] (by decide +kernel) (by decide +kernel)
set_option maxRecDepth 20000 in
theorem ggX9_removes_X9_melts : GoodIn wsX9_removes wsX9_melts := goodIn_r _ [24, 25, 5, 3, 26, 27, 28, 10, 29, 30, 31, 32, 33, 12, 13, 14, 34, 35, 36, 37, 38, 39, 40, 41, 20, 19, 42, 43, 44, 45, 46, 47, 48, 49, 50, 51, 52, 53, 54, 55, 56, 57, 58, 59, 7, 8, 9, 11, 68, 69, 70, 71, 72, 73, 74, 75, 76, 77, 78, 79, 80, 81, 82, 83, 84, 85, 86, 87, 88, 89, 90, 91, 92, 93, 94, 95, 96, 97, 98, 99, 100, 101] (by decide +kernel) (by decide +kernel)
set_option maxRecDepth 20000 in
theorem ggX9_removes_X9_pageOf : GoodIn wsX9_removes wsX9_pageOf := goodIn_r _ [11, 3, 12, 13, 10, 14, 68, 69, 70, 71, 72, 73, 74, 75, 76, 77, 78, 79, 80, 81, 82, 83, 84, 85, 86, 87, 88, 89, 90, 91, 92, 93, 94, 95, 96, 97, 98, 99, 100, 101] (by decide +kernel) (by decide +kernel)
def wp_X9_removes_220 (y3 : Int32) (K : Int32 → (Nat → Int32) → (Nat → Nat → Int32) → Prop)  (C220 : (Nat → Int32) × (Nat → Nat → Int32) → Prop) : (Nat → Int32) × (Nat → Nat → Int32) → Prop := fun s9 => match s9 with
  | (n, g) => (((n 13) ≤ (1 : Int32) → K y3 n g) ∧
 (¬ ((n 13) ≤ (1 : Int32)) → wp_X9_at ((n 13) - (1 : Int32)) (0 : Int32) n g (fun r_2 => vp_in r_2 (mlen 15) ∧ ∀ v_4 : Int32, v_4 = g 15 (r_2).toNatClampNeg → ((¬ v_4 = (1 : Int32) → K y3 n g) ∧
 (v_4 = (1 : Int32) → ∀ n_6 : Nat → Int32, n_6 = upd n 13 ((n 13) - (1 : Int32)) → C220 (n_6, g))))))
def wp_X9_removes_214 (y3 : Int32) (y4 : Int32) (y5 : Int32) (y6 : Int32) (n : Nat → Int32) (g : Nat → Nat → Int32) (K : Int32 → (Nat → Int32) → (Nat → Nat → Int32) → Prop) (C118 : Int32 × Int32 × Int32 × (Nat → Int32) × (Nat → Nat → Int32) → Prop) : Prop :=
  ∀ v_7 : Int32, v_7 = y6 + 1 → C118 (y4, y5, v_7, n, g)
def wp_X9_removes_153 (y3 : Int32) (y4 : Int32) (y6 : Int32) (y7 : Int32) (z0 : Int32) (n : Nat → Int32) (g : Nat → Nat → Int32) (K : Int32 → (Nat → Int32) → (Nat → Nat → Int32) → Prop) (C118 : Int32 × Int32 × Int32 × (Nat → Int32) × (Nat → Nat → Int32) → Prop) : Prop :=
  ((z0 = (0 : Int32) → wp_X9_removes_214 y3 y4 z0 y6 n g K C118) ∧
 (¬ (z0 = (0 : Int32)) → wp_X9_pageOf (y6 + (1 : Int32)) y7 n g (fun r_10 => wp_X9_joins y6 (y7 + (1 : Int32)) n g (fun n_13 g_14 => wp_X9_at (y6 + (1 : Int32)) r_10 n_13 g_14 (fun r_15 => vp_in r_15 (mlen 15) ∧ ∀ v_17 : Int32, v_17 = g_14 15 (r_15).toNatClampNeg → vp_in r_15 (mlen 15) ∧ ∀ g_19 : Nat → Nat → Int32, g_19 = mup g_14 15 (r_15).toNatClampNeg (v_17 - (1 : Int32)) → ∀ n_20 : Nat → Int32, n_20 = upd n_13 8 ((n_13 8) + (1 : Int32)) → wp_X9_removes_214 y3 r_10 z0 y6 n_20 g_19 K C118)))))
def wp_X9_removes_118 (y3 : Int32) (K : Int32 → (Nat → Int32) → (Nat → Nat → Int32) → Prop)  (C118 : Int32 × Int32 × Int32 × (Nat → Int32) × (Nat → Nat → Int32) → Prop) : Int32 × Int32 × Int32 × (Nat → Int32) × (Nat → Nat → Int32) → Prop := fun s9 => match s9 with
  | (y4, y5, y6, n, g) => ((y5 = (0 : Int32) → ∃ n_22, loopW (wp_X9_removes_220 y3 K) n_22 (n, g)) ∧
 (¬ (y5 = (0 : Int32)) → (((n 13) ≤ y6 → ∃ n_24, loopW (wp_X9_removes_220 y3 K) n_24 (n, g)) ∧
 (¬ ((n 13) ≤ y6) → wp_X9_melts y6 y4 n g (fun r_25 => ((r_25 = (-1 : Int32) → wp_X9_removes_153 y3 y4 y6 r_25 (0 : Int32) n g K C118) ∧
 (¬ (r_25 = (-1 : Int32)) → wp_X9_removes_153 y3 y4 y6 r_25 (1 : Int32) n g K C118)))))))
def wp_X9_removes_101 (x1 : Int32) (y2 : Int32) (y3 : Int32) (y4 : Int32) (z0 : Int32) (z1 : Int32) (z2 : Int32) (kb3 : Nat) (n : Nat → Int32) (g : Nat → Nat → Int32) (K : Int32 → (Nat → Int32) → (Nat → Nat → Int32) → Prop) (C71 : Int32 × (Nat → Int32) × (Nat → Nat → Int32) → Prop) : Prop :=
  kb3 ∈ mAI ∧ vp_in z2 (mlen kb3) ∧ ∀ g_28 : Nat → Nat → Int32, g_28 = mup g kb3 (z2).toNatClampNeg (z1 - z0) → ∀ v_29 : Int32, v_29 = y4 + 1 → C71 (v_29, n, g_28)
def wp_X9_removes_71 (x1 : Int32) (y2 : Int32) (y3 : Int32) (K : Int32 → (Nat → Int32) → (Nat → Nat → Int32) → Prop)  (C71 : Int32 × (Nat → Int32) × (Nat → Nat → Int32) → Prop) : Int32 × (Nat → Int32) × (Nat → Nat → Int32) → Prop := fun s9 => match s9 with
  | (y4, n, g) => (((4 : Int32) ≤ y4 → ∃ n_32, loopW (wp_X9_removes_118 y3 K) n_32 (y2, (1 : Int32), (0 : Int32), n, g)) ∧
 (¬ ((4 : Int32) ≤ y4) → vp_in y4 (mlen 18) ∧ ∀ v_34 : Int32, v_34 = g 18 (y4).toNatClampNeg → vp_in y4 (mlen 18) ∧ ∀ v_36 : Int32, v_36 = g 18 (y4).toNatClampNeg → ((v_36 ≤ x1 → wp_X9_removes_101 x1 y2 y3 y4 (0 : Int32) v_34 y4 18 n g K C71) ∧
 (¬ (v_36 ≤ x1) → wp_X9_removes_101 x1 y2 y3 y4 (1 : Int32) v_34 y4 18 n g K C71))))
def wp_X9_removes_17 (x1 : Int32) (y2 : Int32) (y3 : Int32) (K : Int32 → (Nat → Int32) → (Nat → Nat → Int32) → Prop)  (C17 : Int32 × (Nat → Int32) × (Nat → Nat → Int32) → Prop) : Int32 × (Nat → Int32) × (Nat → Nat → Int32) → Prop := fun s9 => match s9 with
  | (y4, n, g) => ((((n 9) - (1 : Int32)) ≤ y4 → ∀ n_39 : Nat → Int32, n_39 = upd n 9 ((n 9) - (1 : Int32)) → wp_X9_at (0 : Int32) y2 n_39 g (fun r_40 => vp_in r_40 (mlen 15) ∧ ∀ v_42 : Int32, v_42 = g 15 (r_40).toNatClampNeg → vp_in r_40 (mlen 15) ∧ ∀ g_44 : Nat → Nat → Int32, g_44 = mup g 15 (r_40).toNatClampNeg (v_42 - (1 : Int32)) → ∃ n_45, loopW (wp_X9_removes_71 x1 y2 y3 K) n_45 ((0 : Int32), n_39, g_44))) ∧
 (¬ (((n 9) - (1 : Int32)) ≤ y4) → wp_X9_entryTo y4 (y4 + (1 : Int32)) n g (fun n_48 g_49 => ∀ v_50 : Int32, v_50 = y4 + 1 → C17 (v_50, n_48, g_49))))
def wp_X9_removes (x1 : Int32) (n : Nat → Int32) (g : Nat → Nat → Int32) (K : Int32 → (Nat → Int32) → (Nat → Nat → Int32) → Prop) : Prop :=
  wp_X9_pageOf (0 : Int32) x1 n g (fun r_52 => vp_in x1 (mlen 12) ∧ ∀ v_54 : Int32, v_54 = g 12 (x1).toNatClampNeg → ∃ n_55, loopW (wp_X9_removes_17 x1 r_52 v_54 K) n_55 (x1, n, g))
set_option maxHeartbeats 4000000 in
set_option maxRecDepth 100000 in
theorem cc_X9_removes (l : Launch) (G : GG) {mo : Nat} {ad : Nat → Nat} (had : MAd mo ad) {n : Nat → Int32} {g : Nat → Nat → Int32} {sz : Nat} {x1 : Int32} {K : Int32 → (Nat → Int32) → (Nat → Nat → Int32) → Prop} (h : wp_X9_removes x1 n g K) : Met l yX9_removes wsX9_removes ({ frames := 7, cells := 0, slots := 0, locals := 168 } : Room) (FP G [.ref mo, .int x1] (mf mo ad n g) sz) (va_Qi (fun r f9 => ∃ n9 g9, f9 = mf mo ad n9 g9 ∧ K r n9 g9 : Int32 → FT → Prop) (FB G (fA (mf mo ad n g) sz)) (fA (mf mo ad n g) sz)) 0 0 (fA (mf mo ad n g) sz) := by
  refine Met.ofW (cc := cX9_removes) (maxL := 9) (ret := (some .int)) (by decide) rfl ?_
  intro p e s m args below meth c s₁ B hml hv
  obtain ⟨rfl, hsz, hF, hK, hZ⟩ := hv
  have hx := B.exec
  have hb := B.bytes
  have hr := B.returns
  have hts := atoms_spec (ws := wsX9_removes) B.pre
  have hown : s.vm.findClass RX9 = some m.cls := findClass_of_methodNamed B.named
  have hlocks := B.notSynchronized
  subst hsz
  have hF := hF.self (sz := s.heap.size)
  generalize hAe : fA (mf mo ad n g) s.heap.size = A at hF hZ ⊢
  have hA : ∀ q : Nat, s.heap.size ≤ q → A q := fun q h => by rw [← hAe]; exact Or.inr h
  have hS : va_S A s.heap s.heap [] := va_S.rf
  have hin_X9 : ∀ w ∈ wsX90, w ∈ wsX9_removes := by decide +kernel
  have L220 : ∀ (y3 : Int32) (j9 : Nat) (n : Nat → Int32) (g : Nat → Nat → Int32) (H : Heap) (locs : List Loc) (ls : Array Slot), loopW (wp_X9_removes_220 y3 K ) j9 (n, g) → Fw G A (mf mo ad n g) H → va_S A s.heap H locs → lv_has ls 9 [(0, .ref mo), (3, .int y3)] → W p l e ({ frames := 7, cells := 0, slots := 0, locals := 168 } : Room) s m ([.ref mo, .int x1] : List Value).toArray below meth c H locs 0 0 (MQ below (va_Qi (fun r f9 => ∃ n9 g9, f9 = mf mo ad n9 g9 ∧ K r n9 g9 : Int32 → FT → Prop) (FB G A) A) ([.ref mo, .int x1] : List Value).toArray s 0 0 A) (F0 m 220 ls []) := by
    intro y3 j9
    induction j9 with
    | zero => intro n g H locs ls h; exact h.elim
    | succ j9 ih220 =>
      intro n g H locs ls h hF hS hl
      have h : wp_X9_removes_220 y3 K  (loopW (wp_X9_removes_220 y3 K ) j9) (n, g) := h
      generalize loopW (wp_X9_removes_220 y3 K ) j9 = C220 at ih220 h
      unfold wp_X9_removes_220 at h
      refine lv_aload_n hx hb dX9_removes_220 rfl (lv_at hl 0 rfl) ?_
      refine fw_get (C := RX9) (T := TX9) (N := 34) hx hb hts hin_X9 hown hK hF mf_obj rfl 13 (by decide) (hts (.fieldLink RX9 29 "FrontCodedIndexModel" "levels" "I") (by decide +kernel)) (fun _ h9 => h9) rfl dX9_removes_221 ?_
      refine lv_iconst (v := (1 : Int32)) hx hb dX9_removes_224 (by decide) ?_
      obtain ⟨h1, h2⟩ := h
      refine lv_icmp_le (tgt := 260) hx hb dX9_removes_225 (by decide) (fun c_1 => ?_) (fun c_1 => ?_)
      · have h := h1 c_1
        refine lv_iload_n hx hb dX9_removes_260 rfl (lv_at hl 1 rfl) ?_
        exact W.iret (v := y3) hx hb hr (fun t ht hW => ⟨⟨y3, (mf mo ad n g), rfl, ⟨_, _, rfl, h⟩, by rw [ht]; exact hF, FK.moved hW.alike hK⟩, hS.F ht⟩) hS.2.2 dX9_removes_261
      · have h := h2 c_1
        refine lv_aload_n hx hb dX9_removes_228 rfl (lv_at hl 0 rfl) ?_
        refine fw_get (C := RX9) (T := TX9) (N := 34) hx hb hts hin_X9 hown hK hF mf_obj rfl 15 (by decide) (hts (.fieldLink RX9 35 "FrontCodedIndexModel" "parts" "[I") (by decide +kernel)) (fun _ h9 => h9) rfl dX9_removes_229 ?_
        refine lv_aload_n hx hb dX9_removes_232 rfl (lv_at hl 0 rfl) ?_
        refine fw_get (C := RX9) (T := TX9) (N := 34) hx hb hts hin_X9 hown hK hF mf_obj rfl 13 (by decide) (hts (.fieldLink RX9 29 "FrontCodedIndexModel" "levels" "I") (by decide +kernel)) (fun _ h9 => h9) rfl dX9_removes_233 ?_
        refine lv_iconst (v := (1 : Int32)) hx hb dX9_removes_236 (by decide) ?_
        refine lv_isub hx hb dX9_removes_237 ?_
        refine lv_iconst (v := (0 : Int32)) hx hb dX9_removes_238 (by decide) ?_
        refine fw_cS_i_p (As := [.int ((n 13) - (1 : Int32)), .int (0 : Int32)]) (rest := [.ref (ad 15)]) ⟨hx, hb, hml, hown, hts⟩ (cc_X9_at l G had h) (⟨callB_of 2 hts ggX9_removes_X9_at rfl rfl rfl (hts (.initialized RX9) (by decide +kernel)) (hts (.methodLink RX9 113 yX9_at) (by decide +kernel)) (by decide +kernel) ⟨Nat.le_of_ble_eq_true rfl, Nat.le_of_ble_eq_true rfl⟩, hts (.static yX9_at) (by decide +kernel)⟩) hK hZ hF hS hA rfl hl.1 rfl (Nat.le_of_ble_eq_true rfl) dX9_removes_239 ⟨Nat.zero_le _, Nat.zero_le _⟩ (fun r_2 H locs h hF hS => ?_)
        obtain ⟨hi_i_3, h⟩ := h
        refine fw_iald hx hb hK hF (mf_arr had 15 (by decide)) hi_i_3 dX9_removes_242 ?_
        refine lv_topi (fun v_4 e_v_4 => ?_)
        have h := h v_4 e_v_4
        refine lv_iconst (v := (1 : Int32)) hx hb dX9_removes_243 (by decide) ?_
        obtain ⟨h1, h2⟩ := h
        refine lv_icmp_ne (tgt := 260) hx hb dX9_removes_244 (by decide) (fun c_5 => ?_) (fun c_5 => ?_)
        · have h := h1 c_5
          refine lv_iload_n hx hb dX9_removes_260 rfl (lv_at hl 1 rfl) ?_
          exact W.iret (v := y3) hx hb hr (fun t ht hW => ⟨⟨y3, (mf mo ad n g), rfl, ⟨_, _, rfl, h⟩, by rw [ht]; exact hF, FK.moved hW.alike hK⟩, hS.F ht⟩) hS.2.2 dX9_removes_261
        · have h := h2 c_5
          refine lv_aload_n hx hb dX9_removes_247 rfl (lv_at hl 0 rfl) ?_
          refine lv_dup hx hb dX9_removes_248 rfl ?_
          refine fw_get (C := RX9) (T := TX9) (N := 34) hx hb hts hin_X9 hown hK hF mf_obj rfl 13 (by decide) (hts (.fieldLink RX9 29 "FrontCodedIndexModel" "levels" "I") (by decide +kernel)) (fun _ h9 => h9) rfl dX9_removes_249 ?_
          refine lv_iconst (v := (1 : Int32)) hx hb dX9_removes_252 (by decide) ?_
          refine lv_isub hx hb dX9_removes_253 ?_
          refine fw_put (v := .int ((n 13) - (1 : Int32))) (ty := .int) (C := RX9) (T := TX9) (N := 34) hx hb hts hin_X9 tyX9 tyX9_ok nmX9 hown hK hF hS mf_obj rfl 13 (by decide) (hts (.fieldLink RX9 29 "FrontCodedIndexModel" "levels" "I") (by decide +kernel)) (fun _ h9 => h9) rfl (by decide +kernel) rfl rfl (show 13 < 34 by decide) dX9_removes_254 (fun H locs hF hS => ?_)
          rw [mf_put 13 ((n 13) - (1 : Int32)) rfl] at hF
          obtain ⟨n_6, hn_n_6⟩ : ∃ z, z = upd n 13 ((n 13) - (1 : Int32)) := ⟨_, rfl⟩
          rw [← hn_n_6] at hF; have h := h n_6 hn_n_6
          refine lv_goto (tgt := 220) hx hb dX9_removes_257 (by decide) ?_
          exact ih220 n_6 g _ _ _ h hF hS (lv_sub hl [0, 1] rfl)
  have L118 : ∀ (y3 : Int32) (j9 : Nat) (y4 : Int32) (y5 : Int32) (y6 : Int32) (n : Nat → Int32) (g : Nat → Nat → Int32) (H : Heap) (locs : List Loc) (ls : Array Slot), loopW (wp_X9_removes_118 y3 K ) j9 (y4, y5, y6, n, g) → Fw G A (mf mo ad n g) H → va_S A s.heap H locs → lv_has ls 9 [(0, .ref mo), (3, .int y3), (4, .int y4), (5, .int y5), (6, .int y6)] → W p l e ({ frames := 7, cells := 0, slots := 0, locals := 168 } : Room) s m ([.ref mo, .int x1] : List Value).toArray below meth c H locs 0 0 (MQ below (va_Qi (fun r f9 => ∃ n9 g9, f9 = mf mo ad n9 g9 ∧ K r n9 g9 : Int32 → FT → Prop) (FB G A) A) ([.ref mo, .int x1] : List Value).toArray s 0 0 A) (F0 m 118 ls []) := by
    intro y3 j9
    induction j9 with
    | zero => intro y4 y5 y6 n g H locs ls h; exact h.elim
    | succ j9 ih118 =>
      intro y4 y5 y6 n g H locs ls h hF hS hl
      have h : wp_X9_removes_118 y3 K  (loopW (wp_X9_removes_118 y3 K ) j9) (y4, y5, y6, n, g) := h
      generalize loopW (wp_X9_removes_118 y3 K ) j9 = C118 at ih118 h
      unfold wp_X9_removes_118 at h
      have J214 : ∀ (y4 : Int32) (y5 : Int32) (y6 : Int32) (n : Nat → Int32) (g : Nat → Nat → Int32) (H : Heap) (locs : List Loc) (ls : Array Slot), wp_X9_removes_214 y3 y4 y5 y6 n g K C118 → Fw G A (mf mo ad n g) H → va_S A s.heap H locs → lv_has ls 9 [(0, .ref mo), (3, .int y3), (4, .int y4), (5, .int y5), (6, .int y6)] → W p l e ({ frames := 7, cells := 0, slots := 0, locals := 168 } : Room) s m ([.ref mo, .int x1] : List Value).toArray below meth c H locs 0 0 (MQ below (va_Qi (fun r f9 => ∃ n9 g9, f9 = mf mo ad n9 g9 ∧ K r n9 g9 : Int32 → FT → Prop) (FB G A) A) ([.ref mo, .int x1] : List Value).toArray s 0 0 A) (F0 m 214 ls []) := by
        intro y4 y5 y6 n g H locs ls h hF hS hl
        unfold wp_X9_removes_214 at h
        obtain ⟨v_7, e_8⟩ : ∃ y : Int32, y = y6 + 1 := ⟨_, rfl⟩
        have h := h v_7 e_8
        refine lv_iinc (v := v_7) (lv' := [(6, .int v_7), (0, .ref mo), (3, .int y3), (4, .int y4), (5, .int y5)]) hx hb dX9_removes_214 hl (k := 4) rfl (by rw [e_8]; rfl) (by decide) rfl (fun ls hl => ?_)
        refine lv_goto (tgt := 118) hx hb dX9_removes_217 (by decide) ?_
        exact ih118 y4 y5 v_7 n g _ _ _ h hF hS (lv_sub hl [1, 2, 3, 4, 0] rfl)
      have J153 : ∀ (y4 : Int32) (y6 : Int32) (y7 : Int32) (z0 : Int32) (n : Nat → Int32) (g : Nat → Nat → Int32) (H : Heap) (locs : List Loc) (ls : Array Slot), wp_X9_removes_153 y3 y4 y6 y7 z0 n g K C118 → Fw G A (mf mo ad n g) H → va_S A s.heap H locs → lv_has ls 9 [(0, .ref mo), (3, .int y3), (4, .int y4), (6, .int y6), (7, .int y7)] → W p l e ({ frames := 7, cells := 0, slots := 0, locals := 168 } : Room) s m ([.ref mo, .int x1] : List Value).toArray below meth c H locs 0 0 (MQ below (va_Qi (fun r f9 => ∃ n9 g9, f9 = mf mo ad n9 g9 ∧ K r n9 g9 : Int32 → FT → Prop) (FB G A) A) ([.ref mo, .int x1] : List Value).toArray s 0 0 A) (F0 m 153 ls [.int z0]) := by
        intro y4 y6 y7 z0 n g H locs ls h hF hS hl
        unfold wp_X9_removes_153 at h
        refine lv_istore (lv' := [(5, .int z0), (0, .ref mo), (3, .int y3), (4, .int y4), (6, .int y6), (7, .int y7)]) hx hb dX9_removes_153 hl (by decide) rfl (fun ls hl => ?_)
        refine lv_iload hx hb dX9_removes_155 (lv_at hl 0 rfl) ?_
        obtain ⟨h1, h2⟩ := h
        refine lv_if_eq (tgt := 214) hx hb dX9_removes_157 (by decide) (fun c_9 => ?_) (fun c_9 => ?_)
        · have h := h1 c_9
          exact J214 y4 z0 y6 n g _ _ _ h hF hS (lv_sub hl [1, 2, 3, 0, 4] rfl)
        · have h := h2 c_9
          refine lv_aload_n hx hb dX9_removes_160 rfl (lv_at hl 1 rfl) ?_
          refine lv_iload hx hb dX9_removes_161 (lv_at hl 4 rfl) ?_
          refine lv_iconst (v := (1 : Int32)) hx hb dX9_removes_163 (by decide) ?_
          refine lv_iadd hx hb dX9_removes_164 ?_
          refine lv_iload hx hb dX9_removes_165 (lv_at hl 5 rfl) ?_
          refine fw_cV_i_p (As := [.int (y6 + (1 : Int32)), .int y7]) (rest := []) ⟨hx, hb, hml, hown, hts⟩ (cc_X9_pageOf l G had h) (⟨callB_of 2 hts ggX9_removes_X9_pageOf rfl rfl rfl (hts (.initialized RX9) (by decide +kernel)) (hts (.methodLink RX9 137 yX9_pageOf) (by decide +kernel)) (by decide +kernel) ⟨Nat.le_of_ble_eq_true rfl, Nat.le_of_ble_eq_true rfl⟩, hts (.instanceMethod yX9_pageOf) (by decide +kernel), hts (.selects RX9 yX9_pageOf yX9_pageOf) (by decide +kernel)⟩) rfl mf_obj hK hZ hF hS hA rfl hl.1 rfl (Nat.le_of_ble_eq_true rfl) dX9_removes_167 ⟨Nat.zero_le _, Nat.zero_le _⟩ (fun r_10 H locs h hF hS => ?_)
          refine lv_istore (lv' := [(8, .int r_10), (5, .int z0), (0, .ref mo), (3, .int y3), (4, .int y4), (6, .int y6), (7, .int y7)]) hx hb dX9_removes_170 hl (by decide) rfl (fun ls hl => ?_)
          refine lv_aload_n hx hb dX9_removes_172 rfl (lv_at hl 2 rfl) ?_
          refine lv_iload hx hb dX9_removes_173 (lv_at hl 5 rfl) ?_
          refine lv_iload hx hb dX9_removes_175 (lv_at hl 6 rfl) ?_
          refine lv_iconst (v := (1 : Int32)) hx hb dX9_removes_177 (by decide) ?_
          refine lv_iadd hx hb dX9_removes_178 ?_
          refine fw_cV_v (As := [.int y6, .int (y7 + (1 : Int32))]) (rest := []) ⟨hx, hb, hml, hown, hts⟩ (cc_X9_joins l G had h) (⟨callB_of 2 hts ggX9_removes_X9_joins rfl rfl rfl (hts (.initialized RX9) (by decide +kernel)) (hts (.methodLink RX9 198 yX9_joins) (by decide +kernel)) (by decide +kernel) ⟨Nat.le_of_ble_eq_true rfl, Nat.le_of_ble_eq_true rfl⟩, hts (.instanceMethod yX9_joins) (by decide +kernel), hts (.selects RX9 yX9_joins yX9_joins) (by decide +kernel)⟩) rfl mf_obj hK hZ hF hS hA rfl hl.1 rfl (Nat.le_of_ble_eq_true rfl) dX9_removes_179 ⟨Nat.zero_le _, Nat.zero_le _⟩ (fun f9 H locs h hF hS => ?_)
          obtain ⟨n_13, g_14, rfl, h⟩ := h
          refine lv_aload_n hx hb dX9_removes_182 rfl (lv_at hl 2 rfl) ?_
          refine fw_get (C := RX9) (T := TX9) (N := 34) hx hb hts hin_X9 hown hK hF mf_obj rfl 15 (by decide) (hts (.fieldLink RX9 35 "FrontCodedIndexModel" "parts" "[I") (by decide +kernel)) (fun _ h9 => h9) rfl dX9_removes_183 ?_
          refine lv_iload hx hb dX9_removes_186 (lv_at hl 5 rfl) ?_
          refine lv_iconst (v := (1 : Int32)) hx hb dX9_removes_188 (by decide) ?_
          refine lv_iadd hx hb dX9_removes_189 ?_
          refine lv_iload hx hb dX9_removes_190 (lv_at hl 0 rfl) ?_
          refine fw_cS_i_p (As := [.int (y6 + (1 : Int32)), .int r_10]) (rest := [.ref (ad 15)]) ⟨hx, hb, hml, hown, hts⟩ (cc_X9_at l G had h) (⟨callB_of 2 hts ggX9_removes_X9_at rfl rfl rfl (hts (.initialized RX9) (by decide +kernel)) (hts (.methodLink RX9 113 yX9_at) (by decide +kernel)) (by decide +kernel) ⟨Nat.le_of_ble_eq_true rfl, Nat.le_of_ble_eq_true rfl⟩, hts (.static yX9_at) (by decide +kernel)⟩) hK hZ hF hS hA rfl hl.1 rfl (Nat.le_of_ble_eq_true rfl) dX9_removes_192 ⟨Nat.zero_le _, Nat.zero_le _⟩ (fun r_15 H locs h hF hS => ?_)
          refine lv_dup2_11 hx hb dX9_removes_195 rfl rfl ?_
          obtain ⟨hi_i_16, h⟩ := h
          refine fw_iald hx hb hK hF (mf_arr had 15 (by decide)) hi_i_16 dX9_removes_196 ?_
          refine lv_topi (fun v_17 e_v_17 => ?_)
          have h := h v_17 e_v_17
          refine lv_iconst (v := (1 : Int32)) hx hb dX9_removes_197 (by decide) ?_
          refine lv_isub hx hb dX9_removes_198 ?_
          obtain ⟨hi_i_18, h⟩ := h
          refine fw_iast hx hb hK hF hS (mf_arr had 15 (by decide)) hi_i_18 dX9_removes_199 (fun H locs hF hS => ?_)
          rw [mf_st had 15 (by decide)] at hF
          obtain ⟨g_19, hg_g_19⟩ : ∃ z, z = mup g_14 15 (r_15).toNatClampNeg (v_17 - (1 : Int32)) := ⟨_, rfl⟩
          rw [← hg_g_19] at hF; have h := h g_19 hg_g_19
          refine lv_aload_n hx hb dX9_removes_200 rfl (lv_at hl 2 rfl) ?_
          refine lv_dup hx hb dX9_removes_201 rfl ?_
          refine fw_get (C := RX9) (T := TX9) (N := 34) hx hb hts hin_X9 hown hK hF mf_obj rfl 8 (by decide) (hts (.fieldLink RX9 201 "FrontCodedIndexModel" "merges" "I") (by decide +kernel)) (fun _ h9 => h9) rfl dX9_removes_202 ?_
          refine lv_iconst (v := (1 : Int32)) hx hb dX9_removes_205 (by decide) ?_
          refine lv_iadd hx hb dX9_removes_206 ?_
          refine fw_put (v := .int ((n_13 8) + (1 : Int32))) (ty := .int) (C := RX9) (T := TX9) (N := 34) hx hb hts hin_X9 tyX9 tyX9_ok nmX9 hown hK hF hS mf_obj rfl 8 (by decide) (hts (.fieldLink RX9 201 "FrontCodedIndexModel" "merges" "I") (by decide +kernel)) (fun _ h9 => h9) rfl (by decide +kernel) rfl rfl (show 8 < 34 by decide) dX9_removes_207 (fun H locs hF hS => ?_)
          rw [mf_put 8 ((n_13 8) + (1 : Int32)) rfl] at hF
          obtain ⟨n_20, hn_n_20⟩ : ∃ z, z = upd n_13 8 ((n_13 8) + (1 : Int32)) := ⟨_, rfl⟩
          rw [← hn_n_20] at hF; have h := h n_20 hn_n_20
          refine lv_iload hx hb dX9_removes_210 (lv_at hl 0 rfl) ?_
          refine lv_istore (lv' := [(4, .int r_10), (8, .int r_10), (5, .int z0), (0, .ref mo), (3, .int y3), (6, .int y6), (7, .int y7)]) hx hb dX9_removes_212 hl (by decide) rfl (fun ls hl => ?_)
          exact J214 r_10 z0 y6 n_20 g_19 _ _ _ h hF hS (lv_sub hl [3, 4, 0, 2, 5] rfl)
      refine lv_iload hx hb dX9_removes_118 (lv_at hl 3 rfl) ?_
      obtain ⟨h1, h2⟩ := h
      refine lv_if_eq (tgt := 220) hx hb dX9_removes_120 (by decide) (fun c_21 => ?_) (fun c_21 => ?_)
      · have h := h1 c_21
        obtain ⟨n_22, h⟩ := h
        exact L220 y3 n_22 n g _ _ _ h hF hS (lv_sub hl [0, 1] rfl)
      · have h := h2 c_21
        refine lv_iload hx hb dX9_removes_123 (lv_at hl 4 rfl) ?_
        refine lv_aload_n hx hb dX9_removes_125 rfl (lv_at hl 0 rfl) ?_
        refine fw_get (C := RX9) (T := TX9) (N := 34) hx hb hts hin_X9 hown hK hF mf_obj rfl 13 (by decide) (hts (.fieldLink RX9 29 "FrontCodedIndexModel" "levels" "I") (by decide +kernel)) (fun _ h9 => h9) rfl dX9_removes_126 ?_
        obtain ⟨h1, h2⟩ := h
        refine lv_icmp_ge (tgt := 220) hx hb dX9_removes_129 (by decide) (fun c_23 => ?_) (fun c_23 => ?_)
        · have h := h1 c_23
          obtain ⟨n_24, h⟩ := h
          exact L220 y3 n_24 n g _ _ _ h hF hS (lv_sub hl [0, 1] rfl)
        · have h := h2 c_23
          refine lv_aload_n hx hb dX9_removes_132 rfl (lv_at hl 0 rfl) ?_
          refine lv_iload hx hb dX9_removes_133 (lv_at hl 4 rfl) ?_
          refine lv_iload hx hb dX9_removes_135 (lv_at hl 2 rfl) ?_
          refine fw_cV_i_p (As := [.int y6, .int y4]) (rest := []) ⟨hx, hb, hml, hown, hts⟩ (cc_X9_melts l G had h) (⟨callB_of 2 hts ggX9_removes_X9_melts rfl rfl rfl (hts (.initialized RX9) (by decide +kernel)) (hts (.methodLink RX9 195 yX9_melts) (by decide +kernel)) (by decide +kernel) ⟨Nat.le_of_ble_eq_true rfl, Nat.le_of_ble_eq_true rfl⟩, hts (.instanceMethod yX9_melts) (by decide +kernel), hts (.selects RX9 yX9_melts yX9_melts) (by decide +kernel)⟩) rfl mf_obj hK hZ hF hS hA rfl hl.1 rfl (Nat.le_of_ble_eq_true rfl) dX9_removes_137 ⟨Nat.zero_le _, Nat.zero_le _⟩ (fun r_25 H locs h hF hS => ?_)
          refine lv_istore (lv' := [(7, .int r_25), (0, .ref mo), (3, .int y3), (4, .int y4), (5, .int y5), (6, .int y6)]) hx hb dX9_removes_140 hl (by decide) rfl (fun ls hl => ?_)
          refine lv_iload hx hb dX9_removes_142 (lv_at hl 0 rfl) ?_
          refine lv_iconst (v := (-1 : Int32)) hx hb dX9_removes_144 (by decide) ?_
          obtain ⟨h1, h2⟩ := h
          refine lv_icmp_eq (tgt := 152) hx hb dX9_removes_145 (by decide) (fun c_26 => ?_) (fun c_26 => ?_)
          · have h := h1 c_26
            refine lv_iconst (v := (0 : Int32)) hx hb dX9_removes_152 (by decide) ?_
            exact J153 y4 y6 r_25 (0 : Int32) n g _ _ _ h hF hS (lv_sub hl [1, 2, 3, 5, 0] rfl)
          · have h := h2 c_26
            refine lv_iconst (v := (1 : Int32)) hx hb dX9_removes_148 (by decide) ?_
            refine lv_goto (tgt := 153) hx hb dX9_removes_149 (by decide) ?_
            exact J153 y4 y6 r_25 (1 : Int32) n g _ _ _ h hF hS (lv_sub hl [1, 2, 3, 5, 0] rfl)
  have L71 : ∀ (y2 : Int32) (y3 : Int32) (j9 : Nat) (y4 : Int32) (n : Nat → Int32) (g : Nat → Nat → Int32) (H : Heap) (locs : List Loc) (ls : Array Slot), loopW (wp_X9_removes_71 x1 y2 y3 K ) j9 (y4, n, g) → Fw G A (mf mo ad n g) H → va_S A s.heap H locs → lv_has ls 9 [(0, .ref mo), (1, .int x1), (2, .int y2), (3, .int y3), (4, .int y4)] → W p l e ({ frames := 7, cells := 0, slots := 0, locals := 168 } : Room) s m ([.ref mo, .int x1] : List Value).toArray below meth c H locs 0 0 (MQ below (va_Qi (fun r f9 => ∃ n9 g9, f9 = mf mo ad n9 g9 ∧ K r n9 g9 : Int32 → FT → Prop) (FB G A) A) ([.ref mo, .int x1] : List Value).toArray s 0 0 A) (F0 m 71 ls []) := by
    intro y2 y3 j9
    induction j9 with
    | zero => intro y4 n g H locs ls h; exact h.elim
    | succ j9 ih71 =>
      intro y4 n g H locs ls h hF hS hl
      have h : wp_X9_removes_71 x1 y2 y3 K  (loopW (wp_X9_removes_71 x1 y2 y3 K ) j9) (y4, n, g) := h
      generalize loopW (wp_X9_removes_71 x1 y2 y3 K ) j9 = C71 at ih71 h
      unfold wp_X9_removes_71 at h
      have J101 : ∀ (y4 : Int32) (z0 : Int32) (z1 : Int32) (z2 : Int32) (kb3 : Nat) (n : Nat → Int32) (g : Nat → Nat → Int32) (H : Heap) (locs : List Loc) (ls : Array Slot), wp_X9_removes_101 x1 y2 y3 y4 z0 z1 z2 kb3 n g K C71 → Fw G A (mf mo ad n g) H → va_S A s.heap H locs → lv_has ls 9 [(0, .ref mo), (1, .int x1), (2, .int y2), (3, .int y3), (4, .int y4)] → W p l e ({ frames := 7, cells := 0, slots := 0, locals := 168 } : Room) s m ([.ref mo, .int x1] : List Value).toArray below meth c H locs 0 0 (MQ below (va_Qi (fun r f9 => ∃ n9 g9, f9 = mf mo ad n9 g9 ∧ K r n9 g9 : Int32 → FT → Prop) (FB G A) A) ([.ref mo, .int x1] : List Value).toArray s 0 0 A) (F0 m 101 ls [.int z0, .int z1, .int z2, .ref (ad kb3)]) := by
        intro y4 z0 z1 z2 kb3 n g H locs ls h hF hS hl
        unfold wp_X9_removes_101 at h
        refine lv_isub hx hb dX9_removes_101 ?_
        obtain ⟨hm_i_27, hi_i_27, h⟩ := h
        refine fw_iast hx hb hK hF hS (mf_arr had kb3 hm_i_27) hi_i_27 dX9_removes_102 (fun H locs hF hS => ?_)
        rw [mf_st had kb3 hm_i_27] at hF
        obtain ⟨g_28, hg_g_28⟩ : ∃ z, z = mup g kb3 (z2).toNatClampNeg (z1 - z0) := ⟨_, rfl⟩
        rw [← hg_g_28] at hF; have h := h g_28 hg_g_28
        obtain ⟨v_29, e_30⟩ : ∃ y : Int32, y = y4 + 1 := ⟨_, rfl⟩
        have h := h v_29 e_30
        refine lv_iinc (v := v_29) (lv' := [(4, .int v_29), (0, .ref mo), (1, .int x1), (2, .int y2), (3, .int y3)]) hx hb dX9_removes_103 hl (k := 4) rfl (by rw [e_30]; rfl) (by decide) rfl (fun ls hl => ?_)
        refine lv_goto (tgt := 71) hx hb dX9_removes_106 (by decide) ?_
        exact ih71 v_29 n g_28 _ _ _ h hF hS (lv_sub hl [1, 2, 3, 4, 0] rfl)
      refine lv_iload hx hb dX9_removes_71 (lv_at hl 4 rfl) ?_
      refine lv_iconst (v := (4 : Int32)) hx hb dX9_removes_73 (by decide) ?_
      obtain ⟨h1, h2⟩ := h
      refine lv_icmp_ge (tgt := 109) hx hb dX9_removes_74 (by decide) (fun c_31 => ?_) (fun c_31 => ?_)
      · have h := h1 c_31
        refine lv_iload_n hx hb dX9_removes_109 rfl (lv_at hl 2 rfl) ?_
        refine lv_istore (lv' := [(4, .int y2), (0, .ref mo), (1, .int x1), (2, .int y2), (3, .int y3)]) hx hb dX9_removes_110 hl (by decide) rfl (fun ls hl => ?_)
        refine lv_iconst (v := (1 : Int32)) hx hb dX9_removes_112 (by decide) ?_
        refine lv_istore (lv' := [(5, .int (1 : Int32)), (4, .int y2), (0, .ref mo), (1, .int x1), (2, .int y2), (3, .int y3)]) hx hb dX9_removes_113 hl (by decide) rfl (fun ls hl => ?_)
        refine lv_iconst (v := (0 : Int32)) hx hb dX9_removes_115 (by decide) ?_
        refine lv_istore (lv' := [(6, .int (0 : Int32)), (5, .int (1 : Int32)), (4, .int y2), (0, .ref mo), (1, .int x1), (2, .int y2), (3, .int y3)]) hx hb dX9_removes_116 hl (by decide) rfl (fun ls hl => ?_)
        obtain ⟨n_32, h⟩ := h
        exact L118 y3 n_32 y2 (1 : Int32) (0 : Int32) n g _ _ _ h hF hS (lv_sub hl [3, 6, 2, 1, 0] rfl)
      · have h := h2 c_31
        refine lv_aload_n hx hb dX9_removes_77 rfl (lv_at hl 0 rfl) ?_
        refine fw_get (C := RX9) (T := TX9) (N := 34) hx hb hts hin_X9 hown hK hF mf_obj rfl 18 (by decide) (hts (.fieldLink RX9 44 "FrontCodedIndexModel" "cursors" "[I") (by decide +kernel)) (fun _ h9 => h9) rfl dX9_removes_78 ?_
        refine lv_iload hx hb dX9_removes_81 (lv_at hl 4 rfl) ?_
        refine lv_dup2_11 hx hb dX9_removes_83 rfl rfl ?_
        obtain ⟨hi_i_33, h⟩ := h
        refine fw_iald hx hb hK hF (mf_arr had 18 (by decide)) hi_i_33 dX9_removes_84 ?_
        refine lv_topi (fun v_34 e_v_34 => ?_)
        have h := h v_34 e_v_34
        refine lv_aload_n hx hb dX9_removes_85 rfl (lv_at hl 0 rfl) ?_
        refine fw_get (C := RX9) (T := TX9) (N := 34) hx hb hts hin_X9 hown hK hF mf_obj rfl 18 (by decide) (hts (.fieldLink RX9 44 "FrontCodedIndexModel" "cursors" "[I") (by decide +kernel)) (fun _ h9 => h9) rfl dX9_removes_86 ?_
        refine lv_iload hx hb dX9_removes_89 (lv_at hl 4 rfl) ?_
        obtain ⟨hi_i_35, h⟩ := h
        refine fw_iald hx hb hK hF (mf_arr had 18 (by decide)) hi_i_35 dX9_removes_91 ?_
        refine lv_topi (fun v_36 e_v_36 => ?_)
        have h := h v_36 e_v_36
        refine lv_iload_n hx hb dX9_removes_92 rfl (lv_at hl 1 rfl) ?_
        obtain ⟨h1, h2⟩ := h
        refine lv_icmp_le (tgt := 100) hx hb dX9_removes_93 (by decide) (fun c_37 => ?_) (fun c_37 => ?_)
        · have h := h1 c_37
          refine lv_iconst (v := (0 : Int32)) hx hb dX9_removes_100 (by decide) ?_
          exact J101 y4 (0 : Int32) v_34 y4 18 n g _ _ _ h hF hS (lv_sub hl [0, 1, 2, 3, 4] rfl)
        · have h := h2 c_37
          refine lv_iconst (v := (1 : Int32)) hx hb dX9_removes_96 (by decide) ?_
          refine lv_goto (tgt := 101) hx hb dX9_removes_97 (by decide) ?_
          exact J101 y4 (1 : Int32) v_34 y4 18 n g _ _ _ h hF hS (lv_sub hl [0, 1, 2, 3, 4] rfl)
  have L17 : ∀ (y2 : Int32) (y3 : Int32) (j9 : Nat) (y4 : Int32) (n : Nat → Int32) (g : Nat → Nat → Int32) (H : Heap) (locs : List Loc) (ls : Array Slot), loopW (wp_X9_removes_17 x1 y2 y3 K ) j9 (y4, n, g) → Fw G A (mf mo ad n g) H → va_S A s.heap H locs → lv_has ls 9 [(0, .ref mo), (1, .int x1), (2, .int y2), (3, .int y3), (4, .int y4)] → W p l e ({ frames := 7, cells := 0, slots := 0, locals := 168 } : Room) s m ([.ref mo, .int x1] : List Value).toArray below meth c H locs 0 0 (MQ below (va_Qi (fun r f9 => ∃ n9 g9, f9 = mf mo ad n9 g9 ∧ K r n9 g9 : Int32 → FT → Prop) (FB G A) A) ([.ref mo, .int x1] : List Value).toArray s 0 0 A) (F0 m 17 ls []) := by
    intro y2 y3 j9
    induction j9 with
    | zero => intro y4 n g H locs ls h; exact h.elim
    | succ j9 ih17 =>
      intro y4 n g H locs ls h hF hS hl
      have h : wp_X9_removes_17 x1 y2 y3 K  (loopW (wp_X9_removes_17 x1 y2 y3 K ) j9) (y4, n, g) := h
      generalize loopW (wp_X9_removes_17 x1 y2 y3 K ) j9 = C17 at ih17 h
      unfold wp_X9_removes_17 at h
      refine lv_iload hx hb dX9_removes_17 (lv_at hl 4 rfl) ?_
      refine lv_aload_n hx hb dX9_removes_19 rfl (lv_at hl 0 rfl) ?_
      refine fw_get (C := RX9) (T := TX9) (N := 34) hx hb hts hin_X9 hown hK hF mf_obj rfl 9 (by decide) (hts (.fieldLink RX9 106 "FrontCodedIndexModel" "entries" "I") (by decide +kernel)) (fun _ h9 => h9) rfl dX9_removes_20 ?_
      refine lv_iconst (v := (1 : Int32)) hx hb dX9_removes_23 (by decide) ?_
      refine lv_isub hx hb dX9_removes_24 ?_
      obtain ⟨h1, h2⟩ := h
      refine lv_icmp_ge (tgt := 44) hx hb dX9_removes_25 (by decide) (fun c_38 => ?_) (fun c_38 => ?_)
      · have h := h1 c_38
        refine lv_aload_n hx hb dX9_removes_44 rfl (lv_at hl 0 rfl) ?_
        refine lv_dup hx hb dX9_removes_45 rfl ?_
        refine fw_get (C := RX9) (T := TX9) (N := 34) hx hb hts hin_X9 hown hK hF mf_obj rfl 9 (by decide) (hts (.fieldLink RX9 106 "FrontCodedIndexModel" "entries" "I") (by decide +kernel)) (fun _ h9 => h9) rfl dX9_removes_46 ?_
        refine lv_iconst (v := (1 : Int32)) hx hb dX9_removes_49 (by decide) ?_
        refine lv_isub hx hb dX9_removes_50 ?_
        refine fw_put (v := .int ((n 9) - (1 : Int32))) (ty := .int) (C := RX9) (T := TX9) (N := 34) hx hb hts hin_X9 tyX9 tyX9_ok nmX9 hown hK hF hS mf_obj rfl 9 (by decide) (hts (.fieldLink RX9 106 "FrontCodedIndexModel" "entries" "I") (by decide +kernel)) (fun _ h9 => h9) rfl (by decide +kernel) rfl rfl (show 9 < 34 by decide) dX9_removes_51 (fun H locs hF hS => ?_)
        rw [mf_put 9 ((n 9) - (1 : Int32)) rfl] at hF
        obtain ⟨n_39, hn_n_39⟩ : ∃ z, z = upd n 9 ((n 9) - (1 : Int32)) := ⟨_, rfl⟩
        rw [← hn_n_39] at hF; have h := h n_39 hn_n_39
        refine lv_aload_n hx hb dX9_removes_54 rfl (lv_at hl 0 rfl) ?_
        refine fw_get (C := RX9) (T := TX9) (N := 34) hx hb hts hin_X9 hown hK hF mf_obj rfl 15 (by decide) (hts (.fieldLink RX9 35 "FrontCodedIndexModel" "parts" "[I") (by decide +kernel)) (fun _ h9 => h9) rfl dX9_removes_55 ?_
        refine lv_iconst (v := (0 : Int32)) hx hb dX9_removes_58 (by decide) ?_
        refine lv_iload_n hx hb dX9_removes_59 rfl (lv_at hl 2 rfl) ?_
        refine fw_cS_i_p (As := [.int (0 : Int32), .int y2]) (rest := [.ref (ad 15)]) ⟨hx, hb, hml, hown, hts⟩ (cc_X9_at l G had h) (⟨callB_of 2 hts ggX9_removes_X9_at rfl rfl rfl (hts (.initialized RX9) (by decide +kernel)) (hts (.methodLink RX9 113 yX9_at) (by decide +kernel)) (by decide +kernel) ⟨Nat.le_of_ble_eq_true rfl, Nat.le_of_ble_eq_true rfl⟩, hts (.static yX9_at) (by decide +kernel)⟩) hK hZ hF hS hA rfl hl.1 rfl (Nat.le_of_ble_eq_true rfl) dX9_removes_60 ⟨Nat.zero_le _, Nat.zero_le _⟩ (fun r_40 H locs h hF hS => ?_)
        refine lv_dup2_11 hx hb dX9_removes_63 rfl rfl ?_
        obtain ⟨hi_i_41, h⟩ := h
        refine fw_iald hx hb hK hF (mf_arr had 15 (by decide)) hi_i_41 dX9_removes_64 ?_
        refine lv_topi (fun v_42 e_v_42 => ?_)
        have h := h v_42 e_v_42
        refine lv_iconst (v := (1 : Int32)) hx hb dX9_removes_65 (by decide) ?_
        refine lv_isub hx hb dX9_removes_66 ?_
        obtain ⟨hi_i_43, h⟩ := h
        refine fw_iast hx hb hK hF hS (mf_arr had 15 (by decide)) hi_i_43 dX9_removes_67 (fun H locs hF hS => ?_)
        rw [mf_st had 15 (by decide)] at hF
        obtain ⟨g_44, hg_g_44⟩ : ∃ z, z = mup g 15 (r_40).toNatClampNeg (v_42 - (1 : Int32)) := ⟨_, rfl⟩
        rw [← hg_g_44] at hF; have h := h g_44 hg_g_44
        refine lv_iconst (v := (0 : Int32)) hx hb dX9_removes_68 (by decide) ?_
        refine lv_istore (lv' := [(4, .int (0 : Int32)), (0, .ref mo), (1, .int x1), (2, .int y2), (3, .int y3)]) hx hb dX9_removes_69 hl (by decide) rfl (fun ls hl => ?_)
        obtain ⟨n_45, h⟩ := h
        exact L71 y2 y3 n_45 (0 : Int32) n_39 g_44 _ _ _ h hF hS (lv_sub hl [1, 2, 3, 4, 0] rfl)
      · have h := h2 c_38
        refine lv_aload_n hx hb dX9_removes_28 rfl (lv_at hl 0 rfl) ?_
        refine lv_iload hx hb dX9_removes_29 (lv_at hl 4 rfl) ?_
        refine lv_iload hx hb dX9_removes_31 (lv_at hl 4 rfl) ?_
        refine lv_iconst (v := (1 : Int32)) hx hb dX9_removes_33 (by decide) ?_
        refine lv_iadd hx hb dX9_removes_34 ?_
        refine fw_cV_v (As := [.int y4, .int (y4 + (1 : Int32))]) (rest := []) ⟨hx, hb, hml, hown, hts⟩ (cc_X9_entryTo l G had h) (⟨callB_of 2 hts ggX9_removes_X9_entryTo rfl rfl rfl (hts (.initialized RX9) (by decide +kernel)) (hts (.methodLink RX9 189 yX9_entryTo) (by decide +kernel)) (by decide +kernel) ⟨Nat.le_of_ble_eq_true rfl, Nat.le_of_ble_eq_true rfl⟩, hts (.instanceMethod yX9_entryTo) (by decide +kernel), hts (.selects RX9 yX9_entryTo yX9_entryTo) (by decide +kernel)⟩) rfl mf_obj hK hZ hF hS hA rfl hl.1 rfl (Nat.le_of_ble_eq_true rfl) dX9_removes_35 ⟨Nat.zero_le _, Nat.zero_le _⟩ (fun f9 H locs h hF hS => ?_)
        obtain ⟨n_48, g_49, rfl, h⟩ := h
        obtain ⟨v_50, e_51⟩ : ∃ y : Int32, y = y4 + 1 := ⟨_, rfl⟩
        have h := h v_50 e_51
        refine lv_iinc (v := v_50) (lv' := [(4, .int v_50), (0, .ref mo), (1, .int x1), (2, .int y2), (3, .int y3)]) hx hb dX9_removes_38 hl (k := 4) rfl (by rw [e_51]; rfl) (by decide) rfl (fun ls hl => ?_)
        refine lv_goto (tgt := 17) hx hb dX9_removes_41 (by decide) ?_
        exact ih17 v_50 n_48 g_49 _ _ _ h hF hS (lv_sub hl [1, 2, 3, 4, 0] rfl)
  have hl := lv_entry ([.ref mo, .int x1]) (n := 9) (Nat.le_of_ble_eq_true rfl)
  rw [lg_entry_eq]
  generalize (lg_sl ([.ref mo, .int x1]) ++ List.replicate (9 - (lg_sl ([.ref mo, .int x1])).length) Slot.unset).toArray = ls at hl ⊢
  have hl : lv_has ls 9 [(0, .ref mo), (1, .int x1)] := hl
  unfold wp_X9_removes at h
  refine lv_aload_n hx hb dX9_removes_0 rfl (lv_at hl 0 rfl) ?_
  refine lv_iconst (v := (0 : Int32)) hx hb dX9_removes_1 (by decide) ?_
  refine lv_iload_n hx hb dX9_removes_2 rfl (lv_at hl 1 rfl) ?_
  refine fw_cV_i_p (As := [.int (0 : Int32), .int x1]) (rest := []) ⟨hx, hb, hml, hown, hts⟩ (cc_X9_pageOf l G had h) (⟨callB_of 2 hts ggX9_removes_X9_pageOf rfl rfl rfl (hts (.initialized RX9) (by decide +kernel)) (hts (.methodLink RX9 137 yX9_pageOf) (by decide +kernel)) (by decide +kernel) ⟨Nat.le_of_ble_eq_true rfl, Nat.le_of_ble_eq_true rfl⟩, hts (.instanceMethod yX9_pageOf) (by decide +kernel), hts (.selects RX9 yX9_pageOf yX9_pageOf) (by decide +kernel)⟩) rfl mf_obj hK hZ hF hS hA rfl hl.1 rfl (Nat.le_of_ble_eq_true rfl) dX9_removes_3 ⟨Nat.zero_le _, Nat.zero_le _⟩ (fun r_52 H locs h hF hS => ?_)
  refine lv_istore_n (lv' := [(2, .int r_52), (0, .ref mo), (1, .int x1)]) hx hb dX9_removes_6 rfl hl (by decide) rfl (fun ls hl => ?_)
  refine lv_aload_n hx hb dX9_removes_7 rfl (lv_at hl 1 rfl) ?_
  refine fw_get (C := RX9) (T := TX9) (N := 34) hx hb hts hin_X9 hown hK hF mf_obj rfl 12 (by decide) (hts (.fieldLink RX9 26 "FrontCodedIndexModel" "values" "[I") (by decide +kernel)) (fun _ h9 => h9) rfl dX9_removes_8 ?_
  refine lv_iload_n hx hb dX9_removes_11 rfl (lv_at hl 2 rfl) ?_
  obtain ⟨hi_i_53, h⟩ := h
  refine fw_iald hx hb hK hF (mf_arr had 12 (by decide)) hi_i_53 dX9_removes_12 ?_
  refine lv_topi (fun v_54 e_v_54 => ?_)
  have h := h v_54 e_v_54
  refine lv_istore_n (lv' := [(3, .int v_54), (2, .int r_52), (0, .ref mo), (1, .int x1)]) hx hb dX9_removes_13 rfl hl (by decide) rfl (fun ls hl => ?_)
  refine lv_iload_n hx hb dX9_removes_14 rfl (lv_at hl 3 rfl) ?_
  refine lv_istore (lv' := [(4, .int x1), (3, .int v_54), (2, .int r_52), (0, .ref mo), (1, .int x1)]) hx hb dX9_removes_15 hl (by decide) rfl (fun ls hl => ?_)
  obtain ⟨n_55, h⟩ := h
  exact L17 r_52 v_54 n_55 x1 n g _ _ _ h hF hS (lv_sub hl [3, 4, 2, 1, 0] rfl)
theorem dX9_remove_0 : decode cX9_remove 0 = .ok (.aload_n 0, 1) := by decide +kernel
theorem dX9_remove_1 : decode cX9_remove 1 = .ok (.aload_n 0, 1) := by decide +kernel
theorem dX9_remove_2 : decode cX9_remove 2 = .ok (.getfield 7, 3) := by decide +kernel
theorem dX9_remove_5 : decode cX9_remove 5 = .ok (.aload_n 0, 1) := by decide +kernel
theorem dX9_remove_6 : decode cX9_remove 6 = .ok (.getfield 88, 3) := by decide +kernel
theorem dX9_remove_9 : decode cX9_remove 9 = .ok (.invokevirtual 171, 3) := by decide +kernel
theorem dX9_remove_12 : decode cX9_remove 12 = .ok (.istore_n 1, 1) := by decide +kernel
theorem dX9_remove_13 : decode cX9_remove 13 = .ok (.aload_n 0, 1) := by decide +kernel
theorem dX9_remove_14 : decode cX9_remove 14 = .ok (.iload_n 1, 1) := by decide +kernel
theorem dX9_remove_15 : decode cX9_remove 15 = .ok (.invokevirtual 175, 3) := by decide +kernel
theorem dX9_remove_18 : decode cX9_remove 18 = .ok (.ifCond .eq 15, 3) := by decide +kernel
theorem dX9_remove_21 : decode cX9_remove 21 = .ok (.aload_n 0, 1) := by decide +kernel
theorem dX9_remove_22 : decode cX9_remove 22 = .ok (.aload_n 0, 1) := by decide +kernel
theorem dX9_remove_23 : decode cX9_remove 23 = .ok (.iload_n 1, 1) := by decide +kernel
theorem dX9_remove_24 : decode cX9_remove 24 = .ok (.invokevirtual 204, 3) := by decide +kernel
theorem dX9_remove_27 : decode cX9_remove 27 = .ok (.invokevirtual 91, 3) := by decide +kernel
theorem dX9_remove_30 : decode cX9_remove 30 = .ok (.goto 8, 3) := by decide +kernel
theorem dX9_remove_33 : decode cX9_remove 33 = .ok (.aload_n 0, 1) := by decide +kernel
theorem dX9_remove_34 : decode cX9_remove 34 = .ok (.iconst 1, 1) := by decide +kernel
theorem dX9_remove_35 : decode cX9_remove 35 = .ok (.invokevirtual 84, 3) := by decide +kernel
theorem dX9_remove_38 : decode cX9_remove 38 = .ok (.ireturn, 1) := by decide +kernel
set_option maxRecDepth 20000 in
theorem ggX9_remove_X9_done : GoodIn wsX9_remove wsX9_done := goodIn_r _ [92, 93, 98, 99, 100, 101, 102, 103, 104, 105, 106, 107, 108, 109, 110, 111, 112, 113, 114, 115, 116, 117, 118, 119, 120, 121, 122, 123, 124, 125, 126, 127, 128, 129, 130, 131] (by decide +kernel) (by decide +kernel)
set_option maxRecDepth 20000 in
theorem ggX9_remove_X9_fails : GoodIn wsX9_remove wsX9_fails := goodIn_r _ [97, 93, 98, 99, 100, 101, 102, 103, 104, 105, 106, 107, 108, 109, 110, 111, 112, 113, 114, 115, 116, 117, 118, 119, 120, 121, 122, 123, 124, 125, 126, 127, 128, 129, 130, 131] (by decide +kernel) (by decide +kernel)
set_option maxRecDepth 20000 in
theorem ggX9_remove_X9_isThere : GoodIn wsX9_remove wsX9_isThere := goodIn_r _ [24, 8, 1, 2, 9, 10, 11, 6, 12, 13, 14, 15, 16, 17, 18, 19, 20, 98, 99, 100, 101, 102, 103, 104, 105, 106, 107, 108, 109, 110, 111, 112, 113, 114, 115, 116, 117, 118, 119, 120, 121, 122, 123, 124, 125, 126, 127, 128, 129, 130, 131] (by decide +kernel) (by decide +kernel)
set_option maxRecDepth 20000 in
theorem ggX9_remove_X9_less : GoodIn wsX9_remove wsX9_less := goodIn_r _ [7, 8, 9, 10, 11, 6, 12, 13, 14, 15, 16, 17, 18, 19, 20, 98, 99, 100, 101, 102, 103, 104, 105, 106, 107, 108, 109, 110, 111, 112, 113, 114, 115, 116, 117, 118, 119, 120, 121, 122, 123, 124, 125, 126, 127, 128, 129, 130, 131] (by decide +kernel) (by decide +kernel)
set_option maxRecDepth 20000 in
theorem ggX9_remove_X9_removes : GoodIn wsX9_remove wsX9_removes := goodIn_r _ [28, 29, 8, 30, 31, 32, 33, 34, 35, 36, 6, 37, 38, 39, 40, 41, 42, 43, 44, 14, 13, 45, 46, 47, 48, 49, 50, 51, 52, 53, 54, 55, 56, 57, 58, 59, 60, 61, 62, 63, 64, 65, 18, 19, 20, 66, 67, 68, 69, 70, 71, 72, 73, 74, 75, 76, 77, 78, 79, 80, 81, 82, 83, 84, 85, 86, 87, 88, 98, 99, 100, 101, 102, 103, 104, 105, 106, 107, 108, 109, 110, 111, 112, 113, 114, 115, 116, 117, 118, 119, 120, 121, 122, 123, 124, 125, 126, 127, 128, 129, 130, 131] (by decide +kernel) (by decide +kernel)
def wp_X9_remove  (n : Nat → Int32) (g : Nat → Nat → Int32) (K : Int32 → (Nat → Int32) → (Nat → Nat → Int32) → Prop) : Prop :=
  wp_X9_less 2 (n 1) n g (fun r_1 => wp_X9_isThere r_1 n g (fun r_2 => ((r_2 = (0 : Int32) → wp_X9_fails (1 : Int32) n g (fun r_4 n_6 g_7 => K r_4 n_6 g_7)) ∧
 (¬ (r_2 = (0 : Int32)) → wp_X9_removes r_1 n g (fun r_8 n_10 g_11 => wp_X9_done r_8 n_10 g_11 (fun r_12 n_14 g_15 => K r_12 n_14 g_15))))))
set_option maxHeartbeats 4000000 in
set_option maxRecDepth 100000 in
theorem cc_X9_remove (l : Launch) (G : GG) {mo : Nat} {ad : Nat → Nat} (had : MAd mo ad) {n : Nat → Int32} {g : Nat → Nat → Int32} {sz : Nat}  {K : Int32 → (Nat → Int32) → (Nat → Nat → Int32) → Prop} (h : wp_X9_remove  n g K) : Met l yX9_remove wsX9_remove ({ frames := 8, cells := 0, slots := 0, locals := 196 } : Room) (FP G [.ref mo] (mf mo ad n g) sz) (va_Qi (fun r f9 => ∃ n9 g9, f9 = mf mo ad n9 g9 ∧ K r n9 g9 : Int32 → FT → Prop) (FB G (fA (mf mo ad n g) sz)) (fA (mf mo ad n g) sz)) 0 0 (fA (mf mo ad n g) sz) := by
  refine Met.ofW (cc := cX9_remove) (maxL := 2) (ret := (some .int)) (by decide) rfl ?_
  intro p e s m args below meth c s₁ B hml hv
  obtain ⟨rfl, hsz, hF, hK, hZ⟩ := hv
  have hx := B.exec
  have hb := B.bytes
  have hr := B.returns
  have hts := atoms_spec (ws := wsX9_remove) B.pre
  have hown : s.vm.findClass RX9 = some m.cls := findClass_of_methodNamed B.named
  have hlocks := B.notSynchronized
  subst hsz
  have hF := hF.self (sz := s.heap.size)
  generalize hAe : fA (mf mo ad n g) s.heap.size = A at hF hZ ⊢
  have hA : ∀ q : Nat, s.heap.size ≤ q → A q := fun q h => by rw [← hAe]; exact Or.inr h
  have hS : va_S A s.heap s.heap [] := va_S.rf
  have hin_X9 : ∀ w ∈ wsX90, w ∈ wsX9_remove := by decide +kernel
  have hl := lv_entry ([.ref mo]) (n := 2) (Nat.le_of_ble_eq_true rfl)
  rw [lg_entry_eq]
  generalize (lg_sl ([.ref mo]) ++ List.replicate (2 - (lg_sl ([.ref mo])).length) Slot.unset).toArray = ls at hl ⊢
  have hl : lv_has ls 2 [(0, .ref mo)] := hl
  unfold wp_X9_remove at h
  refine lv_aload_n hx hb dX9_remove_0 rfl (lv_at hl 0 rfl) ?_
  refine lv_aload_n hx hb dX9_remove_1 rfl (lv_at hl 0 rfl) ?_
  refine fw_get (C := RX9) (T := TX9) (N := 34) hx hb hts hin_X9 hown hK hF mf_obj rfl 2 (by decide) (hts (.fieldLink RX9 7 "FrontCodedIndexModel" "key" "[I") (by decide +kernel)) (fun _ h9 => h9) rfl dX9_remove_2 ?_
  refine lv_aload_n hx hb dX9_remove_5 rfl (lv_at hl 0 rfl) ?_
  refine fw_get (C := RX9) (T := TX9) (N := 34) hx hb hts hin_X9 hown hK hF mf_obj rfl 1 (by decide) (hts (.fieldLink RX9 88 "FrontCodedIndexModel" "keySize" "I") (by decide +kernel)) (fun _ h9 => h9) rfl dX9_remove_6 ?_
  refine fw_cV_i_p (As := [.ref (ad 2), .int (n 1)]) (rest := []) ⟨hx, hb, hml, hown, hts⟩ (cc_X9_less l G had h) (⟨callB_of 2 hts ggX9_remove_X9_less rfl rfl rfl (hts (.initialized RX9) (by decide +kernel)) (hts (.methodLink RX9 171 yX9_less) (by decide +kernel)) (by decide +kernel) ⟨Nat.le_of_ble_eq_true rfl, Nat.le_of_ble_eq_true rfl⟩, hts (.instanceMethod yX9_less) (by decide +kernel), hts (.selects RX9 yX9_less yX9_less) (by decide +kernel)⟩) rfl mf_obj hK hZ hF hS hA rfl hl.1 rfl (Nat.le_of_ble_eq_true rfl) dX9_remove_9 ⟨Nat.zero_le _, Nat.zero_le _⟩ (fun r_1 H locs h hF hS => ?_)
  refine lv_istore_n (lv' := [(1, .int r_1), (0, .ref mo)]) hx hb dX9_remove_12 rfl hl (by decide) rfl (fun ls hl => ?_)
  refine lv_aload_n hx hb dX9_remove_13 rfl (lv_at hl 1 rfl) ?_
  refine lv_iload_n hx hb dX9_remove_14 rfl (lv_at hl 0 rfl) ?_
  refine fw_cV_i_p (As := [.int r_1]) (rest := []) ⟨hx, hb, hml, hown, hts⟩ (cc_X9_isThere l G had h) (⟨callB_of 1 hts ggX9_remove_X9_isThere rfl rfl rfl (hts (.initialized RX9) (by decide +kernel)) (hts (.methodLink RX9 175 yX9_isThere) (by decide +kernel)) (by decide +kernel) ⟨Nat.le_of_ble_eq_true rfl, Nat.le_of_ble_eq_true rfl⟩, hts (.instanceMethod yX9_isThere) (by decide +kernel), hts (.selects RX9 yX9_isThere yX9_isThere) (by decide +kernel)⟩) rfl mf_obj hK hZ hF hS hA rfl hl.1 rfl (Nat.le_of_ble_eq_true rfl) dX9_remove_15 ⟨Nat.zero_le _, Nat.zero_le _⟩ (fun r_2 H locs h hF hS => ?_)
  obtain ⟨h1, h2⟩ := h
  refine lv_if_eq (tgt := 33) hx hb dX9_remove_18 (by decide) (fun c_3 => ?_) (fun c_3 => ?_)
  · have h := h1 c_3
    refine lv_aload_n hx hb dX9_remove_33 rfl (lv_at hl 1 rfl) ?_
    refine lv_iconst (v := (1 : Int32)) hx hb dX9_remove_34 (by decide) ?_
    refine fw_cV_i (As := [.int (1 : Int32)]) (rest := []) ⟨hx, hb, hml, hown, hts⟩ (cc_X9_fails l G had h) (⟨callB_of 1 hts ggX9_remove_X9_fails rfl rfl rfl (hts (.initialized RX9) (by decide +kernel)) (hts (.methodLink RX9 84 yX9_fails) (by decide +kernel)) (by decide +kernel) ⟨Nat.le_of_ble_eq_true rfl, Nat.le_of_ble_eq_true rfl⟩, hts (.instanceMethod yX9_fails) (by decide +kernel), hts (.selects RX9 yX9_fails yX9_fails) (by decide +kernel)⟩) rfl mf_obj hK hZ hF hS hA rfl hl.1 rfl (Nat.le_of_ble_eq_true rfl) dX9_remove_35 ⟨Nat.zero_le _, Nat.zero_le _⟩ (fun r_4 f9 H locs h hF hS => ?_)
    obtain ⟨n_6, g_7, rfl, h⟩ := h
    exact W.iret (v := r_4) hx hb hr (fun t ht hW => ⟨⟨r_4, (mf mo ad n_6 g_7), rfl, ⟨_, _, rfl, h⟩, by rw [ht]; exact hF, FK.moved hW.alike hK⟩, hS.F ht⟩) hS.2.2 dX9_remove_38
  · have h := h2 c_3
    refine lv_aload_n hx hb dX9_remove_21 rfl (lv_at hl 1 rfl) ?_
    refine lv_aload_n hx hb dX9_remove_22 rfl (lv_at hl 1 rfl) ?_
    refine lv_iload_n hx hb dX9_remove_23 rfl (lv_at hl 0 rfl) ?_
    refine fw_cV_i (As := [.int r_1]) (rest := [.ref mo]) ⟨hx, hb, hml, hown, hts⟩ (cc_X9_removes l G had h) (⟨callB_of 1 hts ggX9_remove_X9_removes rfl rfl rfl (hts (.initialized RX9) (by decide +kernel)) (hts (.methodLink RX9 204 yX9_removes) (by decide +kernel)) (by decide +kernel) ⟨Nat.le_of_ble_eq_true rfl, Nat.le_of_ble_eq_true rfl⟩, hts (.instanceMethod yX9_removes) (by decide +kernel), hts (.selects RX9 yX9_removes yX9_removes) (by decide +kernel)⟩) rfl mf_obj hK hZ hF hS hA rfl hl.1 rfl (Nat.le_of_ble_eq_true rfl) dX9_remove_24 ⟨Nat.zero_le _, Nat.zero_le _⟩ (fun r_8 f9 H locs h hF hS => ?_)
    obtain ⟨n_10, g_11, rfl, h⟩ := h
    refine fw_cV_i (As := [.int r_8]) (rest := []) ⟨hx, hb, hml, hown, hts⟩ (cc_X9_done l G had h) (⟨callB_of 1 hts ggX9_remove_X9_done rfl rfl rfl (hts (.initialized RX9) (by decide +kernel)) (hts (.methodLink RX9 91 yX9_done) (by decide +kernel)) (by decide +kernel) ⟨Nat.le_of_ble_eq_true rfl, Nat.le_of_ble_eq_true rfl⟩, hts (.instanceMethod yX9_done) (by decide +kernel), hts (.selects RX9 yX9_done yX9_done) (by decide +kernel)⟩) rfl mf_obj hK hZ hF hS hA rfl hl.1 rfl (Nat.le_of_ble_eq_true rfl) dX9_remove_27 ⟨Nat.zero_le _, Nat.zero_le _⟩ (fun r_12 f9 H locs h hF hS => ?_)
    obtain ⟨n_14, g_15, rfl, h⟩ := h
    refine lv_goto (tgt := 38) hx hb dX9_remove_30 (by decide) ?_
    exact W.iret (v := r_12) hx hb hr (fun t ht hW => ⟨⟨r_12, (mf mo ad n_14 g_15), rfl, ⟨_, _, rfl, h⟩, by rw [ht]; exact hF, FK.moved hW.alike hK⟩, hS.F ht⟩) hS.2.2 dX9_remove_38
theorem dX9_removeAt_0 : decode cX9_removeAt 0 = .ok (.aload_n 0, 1) := by decide +kernel
theorem dX9_removeAt_1 : decode cX9_removeAt 1 = .ok (.iload_n 1, 1) := by decide +kernel
theorem dX9_removeAt_2 : decode cX9_removeAt 2 = .ok (.invokevirtual 231, 3) := by decide +kernel
theorem dX9_removeAt_5 : decode cX9_removeAt 5 = .ok (.istore_n 2, 1) := by decide +kernel
theorem dX9_removeAt_6 : decode cX9_removeAt 6 = .ok (.iload_n 2, 1) := by decide +kernel
theorem dX9_removeAt_7 : decode cX9_removeAt 7 = .ok (.ifCond .eq 11, 3) := by decide +kernel
theorem dX9_removeAt_10 : decode cX9_removeAt 10 = .ok (.aload_n 0, 1) := by decide +kernel
theorem dX9_removeAt_11 : decode cX9_removeAt 11 = .ok (.iload_n 2, 1) := by decide +kernel
theorem dX9_removeAt_12 : decode cX9_removeAt 12 = .ok (.invokevirtual 84, 3) := by decide +kernel
theorem dX9_removeAt_15 : decode cX9_removeAt 15 = .ok (.goto 17, 3) := by decide +kernel
theorem dX9_removeAt_18 : decode cX9_removeAt 18 = .ok (.aload_n 0, 1) := by decide +kernel
theorem dX9_removeAt_19 : decode cX9_removeAt 19 = .ok (.aload_n 0, 1) := by decide +kernel
theorem dX9_removeAt_20 : decode cX9_removeAt 20 = .ok (.aload_n 0, 1) := by decide +kernel
theorem dX9_removeAt_21 : decode cX9_removeAt 21 = .ok (.getfield 44, 3) := by decide +kernel
theorem dX9_removeAt_24 : decode cX9_removeAt 24 = .ok (.iload_n 1, 1) := by decide +kernel
theorem dX9_removeAt_25 : decode cX9_removeAt 25 = .ok (.iaload, 1) := by decide +kernel
theorem dX9_removeAt_26 : decode cX9_removeAt 26 = .ok (.invokevirtual 204, 3) := by decide +kernel
theorem dX9_removeAt_29 : decode cX9_removeAt 29 = .ok (.invokevirtual 91, 3) := by decide +kernel
theorem dX9_removeAt_32 : decode cX9_removeAt 32 = .ok (.ireturn, 1) := by decide +kernel
set_option maxRecDepth 20000 in
theorem ggX9_removeAt_X9_done : GoodIn wsX9_removeAt wsX9_done := goodIn_r _ [90, 18, 91, 92, 93, 94, 95, 96, 97, 98, 99, 100, 101, 102, 103, 104, 105, 106, 107, 108, 109, 110, 111, 112, 113, 114, 115, 116, 117, 118, 119, 120, 121, 122, 123, 124] (by decide +kernel) (by decide +kernel)
set_option maxRecDepth 20000 in
theorem ggX9_removeAt_X9_fails : GoodIn wsX9_removeAt wsX9_fails := goodIn_r _ [17, 18, 91, 92, 93, 94, 95, 96, 97, 98, 99, 100, 101, 102, 103, 104, 105, 106, 107, 108, 109, 110, 111, 112, 113, 114, 115, 116, 117, 118, 119, 120, 121, 122, 123, 124] (by decide +kernel) (by decide +kernel)
set_option maxRecDepth 20000 in
theorem ggX9_removeAt_X9_lacks : GoodIn wsX9_removeAt wsX9_lacks := goodIn_r _ [6, 1, 7, 8, 9, 5, 10, 11, 12, 13, 91, 92, 93, 94, 95, 96, 97, 98, 99, 100, 101, 102, 103, 104, 105, 106, 107, 108, 109, 110, 111, 112, 113, 114, 115, 116, 117, 118, 119, 120, 121, 122, 123, 124] (by decide +kernel) (by decide +kernel)
set_option maxRecDepth 20000 in
theorem ggX9_removeAt_X9_removes : GoodIn wsX9_removeAt wsX9_removes := goodIn_r _ [22, 23, 7, 24, 1, 25, 26, 27, 28, 29, 5, 30, 31, 32, 33, 34, 35, 36, 37, 38, 39, 40, 41, 42, 43, 44, 45, 46, 47, 48, 49, 50, 51, 52, 53, 54, 55, 56, 57, 58, 59, 60, 61, 62, 63, 64, 65, 66, 67, 68, 69, 70, 71, 72, 73, 74, 75, 76, 77, 78, 79, 80, 81, 82, 83, 84, 85, 86, 91, 92, 93, 94, 95, 96, 97, 98, 99, 100, 101, 102, 103, 104, 105, 106, 107, 108, 109, 110, 111, 112, 113, 114, 115, 116, 117, 118, 119, 120, 121, 122, 123, 124] (by decide +kernel) (by decide +kernel)
def wp_X9_removeAt (x1 : Int32) (n : Nat → Int32) (g : Nat → Nat → Int32) (K : Int32 → (Nat → Int32) → (Nat → Nat → Int32) → Prop) : Prop :=
  wp_X9_lacks x1 n g (fun r_1 => ((r_1 = (0 : Int32) → vp_in x1 (mlen 18) ∧ ∀ v_4 : Int32, v_4 = g 18 (x1).toNatClampNeg → wp_X9_removes v_4 n g (fun r_5 n_7 g_8 => wp_X9_done r_5 n_7 g_8 (fun r_9 n_11 g_12 => K r_9 n_11 g_12))) ∧
 (¬ (r_1 = (0 : Int32)) → wp_X9_fails r_1 n g (fun r_13 n_15 g_16 => K r_13 n_15 g_16))))
set_option maxHeartbeats 4000000 in
set_option maxRecDepth 100000 in
theorem cc_X9_removeAt (l : Launch) (G : GG) {mo : Nat} {ad : Nat → Nat} (had : MAd mo ad) {n : Nat → Int32} {g : Nat → Nat → Int32} {sz : Nat} {x1 : Int32} {K : Int32 → (Nat → Int32) → (Nat → Nat → Int32) → Prop} (h : wp_X9_removeAt x1 n g K) : Met l yX9_removeAt wsX9_removeAt ({ frames := 8, cells := 0, slots := 0, locals := 196 } : Room) (FP G [.ref mo, .int x1] (mf mo ad n g) sz) (va_Qi (fun r f9 => ∃ n9 g9, f9 = mf mo ad n9 g9 ∧ K r n9 g9 : Int32 → FT → Prop) (FB G (fA (mf mo ad n g) sz)) (fA (mf mo ad n g) sz)) 0 0 (fA (mf mo ad n g) sz) := by
  refine Met.ofW (cc := cX9_removeAt) (maxL := 3) (ret := (some .int)) (by decide) rfl ?_
  intro p e s m args below meth c s₁ B hml hv
  obtain ⟨rfl, hsz, hF, hK, hZ⟩ := hv
  have hx := B.exec
  have hb := B.bytes
  have hr := B.returns
  have hts := atoms_spec (ws := wsX9_removeAt) B.pre
  have hown : s.vm.findClass RX9 = some m.cls := findClass_of_methodNamed B.named
  have hlocks := B.notSynchronized
  subst hsz
  have hF := hF.self (sz := s.heap.size)
  generalize hAe : fA (mf mo ad n g) s.heap.size = A at hF hZ ⊢
  have hA : ∀ q : Nat, s.heap.size ≤ q → A q := fun q h => by rw [← hAe]; exact Or.inr h
  have hS : va_S A s.heap s.heap [] := va_S.rf
  have hin_X9 : ∀ w ∈ wsX90, w ∈ wsX9_removeAt := by decide +kernel
  have hl := lv_entry ([.ref mo, .int x1]) (n := 3) (Nat.le_of_ble_eq_true rfl)
  rw [lg_entry_eq]
  generalize (lg_sl ([.ref mo, .int x1]) ++ List.replicate (3 - (lg_sl ([.ref mo, .int x1])).length) Slot.unset).toArray = ls at hl ⊢
  have hl : lv_has ls 3 [(0, .ref mo), (1, .int x1)] := hl
  unfold wp_X9_removeAt at h
  refine lv_aload_n hx hb dX9_removeAt_0 rfl (lv_at hl 0 rfl) ?_
  refine lv_iload_n hx hb dX9_removeAt_1 rfl (lv_at hl 1 rfl) ?_
  refine fw_cV_i_p (As := [.int x1]) (rest := []) ⟨hx, hb, hml, hown, hts⟩ (cc_X9_lacks l G had h) (⟨callB_of 1 hts ggX9_removeAt_X9_lacks rfl rfl rfl (hts (.initialized RX9) (by decide +kernel)) (hts (.methodLink RX9 231 yX9_lacks) (by decide +kernel)) (by decide +kernel) ⟨Nat.le_of_ble_eq_true rfl, Nat.le_of_ble_eq_true rfl⟩, hts (.instanceMethod yX9_lacks) (by decide +kernel), hts (.selects RX9 yX9_lacks yX9_lacks) (by decide +kernel)⟩) rfl mf_obj hK hZ hF hS hA rfl hl.1 rfl (Nat.le_of_ble_eq_true rfl) dX9_removeAt_2 ⟨Nat.zero_le _, Nat.zero_le _⟩ (fun r_1 H locs h hF hS => ?_)
  refine lv_istore_n (lv' := [(2, .int r_1), (0, .ref mo), (1, .int x1)]) hx hb dX9_removeAt_5 rfl hl (by decide) rfl (fun ls hl => ?_)
  refine lv_iload_n hx hb dX9_removeAt_6 rfl (lv_at hl 0 rfl) ?_
  obtain ⟨h1, h2⟩ := h
  refine lv_if_eq (tgt := 18) hx hb dX9_removeAt_7 (by decide) (fun c_2 => ?_) (fun c_2 => ?_)
  · have h := h1 c_2
    refine lv_aload_n hx hb dX9_removeAt_18 rfl (lv_at hl 1 rfl) ?_
    refine lv_aload_n hx hb dX9_removeAt_19 rfl (lv_at hl 1 rfl) ?_
    refine lv_aload_n hx hb dX9_removeAt_20 rfl (lv_at hl 1 rfl) ?_
    refine fw_get (C := RX9) (T := TX9) (N := 34) hx hb hts hin_X9 hown hK hF mf_obj rfl 18 (by decide) (hts (.fieldLink RX9 44 "FrontCodedIndexModel" "cursors" "[I") (by decide +kernel)) (fun _ h9 => h9) rfl dX9_removeAt_21 ?_
    refine lv_iload_n hx hb dX9_removeAt_24 rfl (lv_at hl 2 rfl) ?_
    obtain ⟨hi_i_3, h⟩ := h
    refine fw_iald hx hb hK hF (mf_arr had 18 (by decide)) hi_i_3 dX9_removeAt_25 ?_
    refine lv_topi (fun v_4 e_v_4 => ?_)
    have h := h v_4 e_v_4
    refine fw_cV_i (As := [.int v_4]) (rest := [.ref mo]) ⟨hx, hb, hml, hown, hts⟩ (cc_X9_removes l G had h) (⟨callB_of 1 hts ggX9_removeAt_X9_removes rfl rfl rfl (hts (.initialized RX9) (by decide +kernel)) (hts (.methodLink RX9 204 yX9_removes) (by decide +kernel)) (by decide +kernel) ⟨Nat.le_of_ble_eq_true rfl, Nat.le_of_ble_eq_true rfl⟩, hts (.instanceMethod yX9_removes) (by decide +kernel), hts (.selects RX9 yX9_removes yX9_removes) (by decide +kernel)⟩) rfl mf_obj hK hZ hF hS hA rfl hl.1 rfl (Nat.le_of_ble_eq_true rfl) dX9_removeAt_26 ⟨Nat.zero_le _, Nat.zero_le _⟩ (fun r_5 f9 H locs h hF hS => ?_)
    obtain ⟨n_7, g_8, rfl, h⟩ := h
    refine fw_cV_i (As := [.int r_5]) (rest := []) ⟨hx, hb, hml, hown, hts⟩ (cc_X9_done l G had h) (⟨callB_of 1 hts ggX9_removeAt_X9_done rfl rfl rfl (hts (.initialized RX9) (by decide +kernel)) (hts (.methodLink RX9 91 yX9_done) (by decide +kernel)) (by decide +kernel) ⟨Nat.le_of_ble_eq_true rfl, Nat.le_of_ble_eq_true rfl⟩, hts (.instanceMethod yX9_done) (by decide +kernel), hts (.selects RX9 yX9_done yX9_done) (by decide +kernel)⟩) rfl mf_obj hK hZ hF hS hA rfl hl.1 rfl (Nat.le_of_ble_eq_true rfl) dX9_removeAt_29 ⟨Nat.zero_le _, Nat.zero_le _⟩ (fun r_9 f9 H locs h hF hS => ?_)
    obtain ⟨n_11, g_12, rfl, h⟩ := h
    exact W.iret (v := r_9) hx hb hr (fun t ht hW => ⟨⟨r_9, (mf mo ad n_11 g_12), rfl, ⟨_, _, rfl, h⟩, by rw [ht]; exact hF, FK.moved hW.alike hK⟩, hS.F ht⟩) hS.2.2 dX9_removeAt_32
  · have h := h2 c_2
    refine lv_aload_n hx hb dX9_removeAt_10 rfl (lv_at hl 1 rfl) ?_
    refine lv_iload_n hx hb dX9_removeAt_11 rfl (lv_at hl 0 rfl) ?_
    refine fw_cV_i (As := [.int r_1]) (rest := []) ⟨hx, hb, hml, hown, hts⟩ (cc_X9_fails l G had h) (⟨callB_of 1 hts ggX9_removeAt_X9_fails rfl rfl rfl (hts (.initialized RX9) (by decide +kernel)) (hts (.methodLink RX9 84 yX9_fails) (by decide +kernel)) (by decide +kernel) ⟨Nat.le_of_ble_eq_true rfl, Nat.le_of_ble_eq_true rfl⟩, hts (.instanceMethod yX9_fails) (by decide +kernel), hts (.selects RX9 yX9_fails yX9_fails) (by decide +kernel)⟩) rfl mf_obj hK hZ hF hS hA rfl hl.1 rfl (Nat.le_of_ble_eq_true rfl) dX9_removeAt_12 ⟨Nat.zero_le _, Nat.zero_le _⟩ (fun r_13 f9 H locs h hF hS => ?_)
    obtain ⟨n_15, g_16, rfl, h⟩ := h
    refine lv_goto (tgt := 32) hx hb dX9_removeAt_15 (by decide) ?_
    exact W.iret (v := r_13) hx hb hr (fun t ht hW => ⟨⟨r_13, (mf mo ad n_15 g_16), rfl, ⟨_, _, rfl, h⟩, by rw [ht]; exact hF, FK.moved hW.alike hK⟩, hS.F ht⟩) hS.2.2 dX9_removeAt_32
