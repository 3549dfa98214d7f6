theorem dX9_current_0 : decode cX9_current 0 = .ok (.aload_n 0, 1) := by decide +kernel
theorem dX9_current_1 : decode cX9_current 1 = .ok (.iload_n 1, 1) := by decide +kernel
theorem dX9_current_2 : decode cX9_current 2 = .ok (.invokevirtual 231, 3) := by decide +kernel
theorem dX9_current_5 : decode cX9_current 5 = .ok (.istore_n 2, 1) := by decide +kernel
theorem dX9_current_6 : decode cX9_current 6 = .ok (.iload_n 2, 1) := by decide +kernel
theorem dX9_current_7 : decode cX9_current 7 = .ok (.ifCond .eq 11, 3) := by decide +kernel
theorem dX9_current_10 : decode cX9_current 10 = .ok (.aload_n 0, 1) := by decide +kernel
theorem dX9_current_11 : decode cX9_current 11 = .ok (.iload_n 2, 1) := by decide +kernel
theorem dX9_current_12 : decode cX9_current 12 = .ok (.invokevirtual 84, 3) := by decide +kernel
theorem dX9_current_15 : decode cX9_current 15 = .ok (.goto 13, 3) := by decide +kernel
theorem dX9_current_18 : decode cX9_current 18 = .ok (.aload_n 0, 1) := by decide +kernel
theorem dX9_current_19 : decode cX9_current 19 = .ok (.aload_n 0, 1) := by decide +kernel
theorem dX9_current_20 : decode cX9_current 20 = .ok (.getfield 44, 3) := by decide +kernel
theorem dX9_current_23 : decode cX9_current 23 = .ok (.iload_n 1, 1) := by decide +kernel
theorem dX9_current_24 : decode cX9_current 24 = .ok (.iaload, 1) := by decide +kernel
theorem dX9_current_25 : decode cX9_current 25 = .ok (.invokevirtual 207, 3) := by decide +kernel
theorem dX9_current_28 : decode cX9_current 28 = .ok (.ireturn, 1) := by decide +kernel
set_option maxRecDepth 20000 in
theorem ggX9_current_X9_fails : GoodIn wsX9_current wsX9_fails := goodIn_r _ [17, 18, 32, 33, 34, 35, 36, 37, 38, 39, 40, 41, 42, 43, 44, 45, 46, 47, 48, 49, 50, 51, 52, 53, 54, 55, 56, 57, 58, 59, 60, 61, 62, 63, 64, 65] (by decide +kernel) (by decide +kernel)
set_option maxRecDepth 20000 in
theorem ggX9_current_X9_keyIs : GoodIn wsX9_current wsX9_keyIs := goodIn_r _ [22, 23, 24, 25, 26, 27, 28, 29, 30, 5, 31, 18, 32, 33, 34, 35, 36, 37, 38, 39, 40, 41, 42, 43, 44, 45, 46, 47, 48, 49, 50, 51, 52, 53, 54, 55, 56, 57, 58, 59, 60, 61, 62, 63, 64, 65] (by decide +kernel) (by decide +kernel)
set_option maxRecDepth 20000 in
theorem ggX9_current_X9_lacks : GoodIn wsX9_current wsX9_lacks := goodIn_r _ [6, 1, 7, 8, 9, 5, 10, 11, 12, 13, 32, 33, 34, 35, 36, 37, 38, 39, 40, 41, 42, 43, 44, 45, 46, 47, 48, 49, 50, 51, 52, 53, 54, 55, 56, 57, 58, 59, 60, 61, 62, 63, 64, 65] (by decide +kernel) (by decide +kernel)
def wp_X9_current (x1 : Int32) (n : Nat → Int32) (g : Nat → Nat → Int32) (K : Int32 → (Nat → Int32) → (Nat → Nat → Int32) → Prop) : Prop :=
  wp_X9_lacks x1 n g (fun r_1 => ((r_1 = (0 : Int32) → vp_in x1 (mlen 18) ∧ ∀ v_4 : Int32, v_4 = g 18 (x1).toNatClampNeg → wp_X9_keyIs v_4 n g (fun r_5 n_7 g_8 => K r_5 n_7 g_8)) ∧
 (¬ (r_1 = (0 : Int32)) → wp_X9_fails r_1 n g (fun r_9 n_11 g_12 => K r_9 n_11 g_12))))
set_option maxHeartbeats 4000000 in
set_option maxRecDepth 100000 in
theorem cc_X9_current (l : Launch) (G : GG) {mo : Nat} {ad : Nat → Nat} (had : MAd mo ad) {n : Nat → Int32} {g : Nat → Nat → Int32} {sz : Nat} {x1 : Int32} {K : Int32 → (Nat → Int32) → (Nat → Nat → Int32) → Prop} (h : wp_X9_current x1 n g K) : Met l yX9_current wsX9_current ({ frames := 3, cells := 0, slots := 0, locals := 63 } : Room) (FP G [.ref mo, .int x1] (mf mo ad n g) sz) (va_Qi (fun r f9 => ∃ n9 g9, f9 = mf mo ad n9 g9 ∧ K r n9 g9 : Int32 → FT → Prop) (FB G (fA (mf mo ad n g) sz)) (fA (mf mo ad n g) sz)) 0 0 (fA (mf mo ad n g) sz) := by
  refine Met.ofW (cc := cX9_current) (maxL := 3) (ret := (some .int)) (by decide) rfl ?_
  intro p e s m args below meth c s₁ B hml hv
  obtain ⟨rfl, hsz, hF, hK, hZ⟩ := hv
  have hx := B.exec
  have hb := B.bytes
  have hr := B.returns
  have hts := atoms_spec (ws := wsX9_current) B.pre
  have hown : s.vm.findClass RX9 = some m.cls := findClass_of_methodNamed B.named
  have hlocks := B.notSynchronized
  subst hsz
  have hF := hF.self (sz := s.heap.size)
  generalize hAe : fA (mf mo ad n g) s.heap.size = A at hF hZ ⊢
  have hA : ∀ q : Nat, s.heap.size ≤ q → A q := fun q h => by rw [← hAe]; exact Or.inr h
  have hS : va_S A s.heap s.heap [] := va_S.rf
  have hin_X9 : ∀ w ∈ wsX90, w ∈ wsX9_current := by decide +kernel
  have hl := lv_entry ([.ref mo, .int x1]) (n := 3) (Nat.le_of_ble_eq_true rfl)
  rw [lg_entry_eq]
  generalize (lg_sl ([.ref mo, .int x1]) ++ List.replicate (3 - (lg_sl ([.ref mo, .int x1])).length) Slot.unset).toArray = ls at hl ⊢
  have hl : lv_has ls 3 [(0, .ref mo), (1, .int x1)] := hl
  unfold wp_X9_current at h
  refine lv_aload_n hx hb dX9_current_0 rfl (lv_at hl 0 rfl) ?_
  refine lv_iload_n hx hb dX9_current_1 rfl (lv_at hl 1 rfl) ?_
  refine fw_cV_i_p (As := [.int x1]) (rest := []) ⟨hx, hb, hml, hown, hts⟩ (cc_X9_lacks l G had h) (⟨callB_of 1 hts ggX9_current_X9_lacks rfl rfl rfl (hts (.initialized RX9) (by decide +kernel)) (hts (.methodLink RX9 231 yX9_lacks) (by decide +kernel)) (by decide +kernel) ⟨Nat.le_of_ble_eq_true rfl, Nat.le_of_ble_eq_true rfl⟩, hts (.instanceMethod yX9_lacks) (by decide +kernel), hts (.selects RX9 yX9_lacks yX9_lacks) (by decide +kernel)⟩) rfl mf_obj hK hZ hF hS hA rfl hl.1 rfl (Nat.le_of_ble_eq_true rfl) dX9_current_2 ⟨Nat.zero_le _, Nat.zero_le _⟩ (fun r_1 H locs h hF hS => ?_)
  refine lv_istore_n (lv' := [(2, .int r_1), (0, .ref mo), (1, .int x1)]) hx hb dX9_current_5 rfl hl (by decide) rfl (fun ls hl => ?_)
  refine lv_iload_n hx hb dX9_current_6 rfl (lv_at hl 0 rfl) ?_
  obtain ⟨h1, h2⟩ := h
  refine lv_if_eq (tgt := 18) hx hb dX9_current_7 (by decide) (fun c_2 => ?_) (fun c_2 => ?_)
  · have h := h1 c_2
    refine lv_aload_n hx hb dX9_current_18 rfl (lv_at hl 1 rfl) ?_
    refine lv_aload_n hx hb dX9_current_19 rfl (lv_at hl 1 rfl) ?_
    refine fw_get (C := RX9) (T := TX9) (N := 34) hx hb hts hin_X9 hown hK hF mf_obj rfl 18 (by decide) (hts (.fieldLink RX9 44 "FrontCodedIndexModel" "cursors" "[I") (by decide +kernel)) (fun _ h9 => h9) rfl dX9_current_20 ?_
    refine lv_iload_n hx hb dX9_current_23 rfl (lv_at hl 2 rfl) ?_
    obtain ⟨hi_i_3, h⟩ := h
    refine fw_iald hx hb hK hF (mf_arr had 18 (by decide)) hi_i_3 dX9_current_24 ?_
    refine lv_topi (fun v_4 e_v_4 => ?_)
    have h := h v_4 e_v_4
    refine fw_cV_i (As := [.int v_4]) (rest := []) ⟨hx, hb, hml, hown, hts⟩ (cc_X9_keyIs l G had h) (⟨callB_of 1 hts ggX9_current_X9_keyIs rfl rfl rfl (hts (.initialized RX9) (by decide +kernel)) (hts (.methodLink RX9 207 yX9_keyIs) (by decide +kernel)) (by decide +kernel) ⟨Nat.le_of_ble_eq_true rfl, Nat.le_of_ble_eq_true rfl⟩, hts (.instanceMethod yX9_keyIs) (by decide +kernel), hts (.selects RX9 yX9_keyIs yX9_keyIs) (by decide +kernel)⟩) rfl mf_obj hK hZ hF hS hA rfl hl.1 rfl (Nat.le_of_ble_eq_true rfl) dX9_current_25 ⟨Nat.zero_le _, Nat.zero_le _⟩ (fun r_5 f9 H locs h hF hS => ?_)
    obtain ⟨n_7, g_8, rfl, h⟩ := h
    exact W.iret (v := r_5) hx hb hr (fun t ht hW => ⟨⟨r_5, (mf mo ad n_7 g_8), rfl, ⟨_, _, rfl, h⟩, by rw [ht]; exact hF, FK.moved hW.alike hK⟩, hS.F ht⟩) hS.2.2 dX9_current_28
  · have h := h2 c_2
    refine lv_aload_n hx hb dX9_current_10 rfl (lv_at hl 1 rfl) ?_
    refine lv_iload_n hx hb dX9_current_11 rfl (lv_at hl 0 rfl) ?_
    refine fw_cV_i (As := [.int r_1]) (rest := []) ⟨hx, hb, hml, hown, hts⟩ (cc_X9_fails l G had h) (⟨callB_of 1 hts ggX9_current_X9_fails rfl rfl rfl (hts (.initialized RX9) (by decide +kernel)) (hts (.methodLink RX9 84 yX9_fails) (by decide +kernel)) (by decide +kernel) ⟨Nat.le_of_ble_eq_true rfl, Nat.le_of_ble_eq_true rfl⟩, hts (.instanceMethod yX9_fails) (by decide +kernel), hts (.selects RX9 yX9_fails yX9_fails) (by decide +kernel)⟩) rfl mf_obj hK hZ hF hS hA rfl hl.1 rfl (Nat.le_of_ble_eq_true rfl) dX9_current_12 ⟨Nat.zero_le _, Nat.zero_le _⟩ (fun r_9 f9 H locs h hF hS => ?_)
    obtain ⟨n_11, g_12, rfl, h⟩ := h
    refine lv_goto (tgt := 28) hx hb dX9_current_15 (by decide) ?_
    exact W.iret (v := r_9) hx hb hr (fun t ht hW => ⟨⟨r_9, (mf mo ad n_11 g_12), rfl, ⟨_, _, rfl, h⟩, by rw [ht]; exact hF, FK.moved hW.alike hK⟩, hS.F ht⟩) hS.2.2 dX9_current_28
theorem dX9_cutKey_0 : decode cX9_cutKey 0 = .ok (.iload_n 1, 1) := by decide +kernel
theorem dX9_cutKey_1 : decode cX9_cutKey 1 = .ok (.iconst 0, 1) := by decide +kernel
theorem dX9_cutKey_2 : decode cX9_cutKey 2 = .ok (.aload_n 0, 1) := by decide +kernel
theorem dX9_cutKey_3 : decode cX9_cutKey 3 = .ok (.getfield 88, 3) := by decide +kernel
theorem dX9_cutKey_6 : decode cX9_cutKey 6 = .ok (.invokestatic 80, 3) := by decide +kernel
theorem dX9_cutKey_9 : decode cX9_cutKey 9 = .ok (.ifCond .ne 9, 3) := by decide +kernel
theorem dX9_cutKey_12 : decode cX9_cutKey 12 = .ok (.aload_n 0, 1) := by decide +kernel
theorem dX9_cutKey_13 : decode cX9_cutKey 13 = .ok (.iconst 1, 1) := by decide +kernel
theorem dX9_cutKey_14 : decode cX9_cutKey 14 = .ok (.invokevirtual 84, 3) := by decide +kernel
theorem dX9_cutKey_17 : decode cX9_cutKey 17 = .ok (.ireturn, 1) := by decide +kernel
theorem dX9_cutKey_18 : decode cX9_cutKey 18 = .ok (.aload_n 0, 1) := by decide +kernel
theorem dX9_cutKey_19 : decode cX9_cutKey 19 = .ok (.getfield 88, 3) := by decide +kernel
theorem dX9_cutKey_22 : decode cX9_cutKey 22 = .ok (.istore_n 2, 1) := by decide +kernel
theorem dX9_cutKey_23 : decode cX9_cutKey 23 = .ok (.aload_n 0, 1) := by decide +kernel
theorem dX9_cutKey_24 : decode cX9_cutKey 24 = .ok (.iload_n 1, 1) := by decide +kernel
theorem dX9_cutKey_25 : decode cX9_cutKey 25 = .ok (.putfield 88, 3) := by decide +kernel
theorem dX9_cutKey_28 : decode cX9_cutKey 28 = .ok (.aload_n 0, 1) := by decide +kernel
theorem dX9_cutKey_29 : decode cX9_cutKey 29 = .ok (.iload_n 2, 1) := by decide +kernel
theorem dX9_cutKey_30 : decode cX9_cutKey 30 = .ok (.invokevirtual 91, 3) := by decide +kernel
theorem dX9_cutKey_33 : decode cX9_cutKey 33 = .ok (.ireturn, 1) := by decide +kernel
set_option maxRecDepth 20000 in
theorem ggX9_cutKey_X9_done : GoodIn wsX9_cutKey wsX9_done := goodIn_r _ [14, 10, 15, 16, 17, 18, 19, 20, 21, 22, 23, 24, 25, 26, 27, 28, 29, 30, 31, 32, 33, 34, 35, 36, 37, 38, 39, 40, 41, 42, 43, 44, 45, 46, 47, 48] (by decide +kernel) (by decide +kernel)
set_option maxRecDepth 20000 in
theorem ggX9_cutKey_X9_fails : GoodIn wsX9_cutKey wsX9_fails := goodIn_r _ [9, 10, 15, 16, 17, 18, 19, 20, 21, 22, 23, 24, 25, 26, 27, 28, 29, 30, 31, 32, 33, 34, 35, 36, 37, 38, 39, 40, 41, 42, 43, 44, 45, 46, 47, 48] (by decide +kernel) (by decide +kernel)
set_option maxRecDepth 20000 in
theorem ggX9_cutKey_X9_in : GoodIn wsX9_cutKey wsX9_in := goodIn_r _ [5] (by decide +kernel) (by decide +kernel)
def wp_X9_cutKey (x1 : Int32) (n : Nat → Int32) (g : Nat → Nat → Int32) (K : Int32 → (Nat → Int32) → (Nat → Nat → Int32) → Prop) : Prop :=
  wp_X9_in x1 (0 : Int32) (n 1) n g (fun r_1 => ((¬ r_1 = (0 : Int32) → ∀ v_3 : Int32, v_3 = (n 1) → ∀ n_5 : Nat → Int32, n_5 = upd n 1 x1 → wp_X9_done v_3 n_5 g (fun r_6 n_8 g_9 => K r_6 n_8 g_9)) ∧
 (r_1 = (0 : Int32) → wp_X9_fails (1 : Int32) n g (fun r_10 n_12 g_13 => K r_10 n_12 g_13))))
set_option maxHeartbeats 4000000 in
set_option maxRecDepth 100000 in
theorem cc_X9_cutKey (l : Launch) (G : GG) {mo : Nat} {ad : Nat → Nat} (had : MAd mo ad) {n : Nat → Int32} {g : Nat → Nat → Int32} {sz : Nat} {x1 : Int32} {K : Int32 → (Nat → Int32) → (Nat → Nat → Int32) → Prop} (h : wp_X9_cutKey x1 n g K) : Met l yX9_cutKey wsX9_cutKey ({ frames := 1, cells := 0, slots := 0, locals := 22 } : Room) (FP G [.ref mo, .int x1] (mf mo ad n g) sz) (va_Qi (fun r f9 => ∃ n9 g9, f9 = mf mo ad n9 g9 ∧ K r n9 g9 : Int32 → FT → Prop) (FB G (fA (mf mo ad n g) sz)) (fA (mf mo ad n g) sz)) 0 0 (fA (mf mo ad n g) sz) := by
  refine Met.ofW (cc := cX9_cutKey) (maxL := 3) (ret := (some .int)) (by decide) rfl ?_
  intro p e s m args below meth c s₁ B hml hv
  obtain ⟨rfl, hsz, hF, hK, hZ⟩ := hv
  have hx := B.exec
  have hb := B.bytes
  have hr := B.returns
  have hts := atoms_spec (ws := wsX9_cutKey) B.pre
  have hown : s.vm.findClass RX9 = some m.cls := findClass_of_methodNamed B.named
  have hlocks := B.notSynchronized
  subst hsz
  have hF := hF.self (sz := s.heap.size)
  generalize hAe : fA (mf mo ad n g) s.heap.size = A at hF hZ ⊢
  have hA : ∀ q : Nat, s.heap.size ≤ q → A q := fun q h => by rw [← hAe]; exact Or.inr h
  have hS : va_S A s.heap s.heap [] := va_S.rf
  have hin_X9 : ∀ w ∈ wsX90, w ∈ wsX9_cutKey := by decide +kernel
  have hl := lv_entry ([.ref mo, .int x1]) (n := 3) (Nat.le_of_ble_eq_true rfl)
  rw [lg_entry_eq]
  generalize (lg_sl ([.ref mo, .int x1]) ++ List.replicate (3 - (lg_sl ([.ref mo, .int x1])).length) Slot.unset).toArray = ls at hl ⊢
  have hl : lv_has ls 3 [(0, .ref mo), (1, .int x1)] := hl
  unfold wp_X9_cutKey at h
  refine lv_iload_n hx hb dX9_cutKey_0 rfl (lv_at hl 1 rfl) ?_
  refine lv_iconst (v := (0 : Int32)) hx hb dX9_cutKey_1 (by decide) ?_
  refine lv_aload_n hx hb dX9_cutKey_2 rfl (lv_at hl 0 rfl) ?_
  refine fw_get (C := RX9) (T := TX9) (N := 34) hx hb hts hin_X9 hown hK hF mf_obj rfl 1 (by decide) (hts (.fieldLink RX9 88 "FrontCodedIndexModel" "keySize" "I") (by decide +kernel)) (fun _ h9 => h9) rfl dX9_cutKey_3 ?_
  refine fw_cS_i_p (As := [.int x1, .int (0 : Int32), .int (n 1)]) (rest := []) ⟨hx, hb, hml, hown, hts⟩ (cc_X9_in l G had h) (⟨callB_of 3 hts ggX9_cutKey_X9_in rfl rfl rfl (hts (.initialized RX9) (by decide +kernel)) (hts (.methodLink RX9 80 yX9_in) (by decide +kernel)) (by decide +kernel) ⟨Nat.le_of_ble_eq_true rfl, Nat.le_of_ble_eq_true rfl⟩, hts (.static yX9_in) (by decide +kernel)⟩) hK hZ hF hS hA rfl hl.1 rfl (Nat.le_of_ble_eq_true rfl) dX9_cutKey_6 ⟨Nat.zero_le _, Nat.zero_le _⟩ (fun r_1 H locs h hF hS => ?_)
  obtain ⟨h1, h2⟩ := h
  refine lv_if_ne (tgt := 18) hx hb dX9_cutKey_9 (by decide) (fun c_2 => ?_) (fun c_2 => ?_)
  · have h := h1 c_2
    refine lv_aload_n hx hb dX9_cutKey_18 rfl (lv_at hl 0 rfl) ?_
    refine fw_get (C := RX9) (T := TX9) (N := 34) hx hb hts hin_X9 hown hK hF mf_obj rfl 1 (by decide) (hts (.fieldLink RX9 88 "FrontCodedIndexModel" "keySize" "I") (by decide +kernel)) (fun _ h9 => h9) rfl dX9_cutKey_19 ?_
    refine lv_topi (fun v_3 e_4 => ?_)
    have h := h v_3 e_4
    refine lv_istore_n (lv' := [(2, .int v_3), (0, .ref mo), (1, .int x1)]) hx hb dX9_cutKey_22 rfl hl (by decide) rfl (fun ls hl => ?_)
    refine lv_aload_n hx hb dX9_cutKey_23 rfl (lv_at hl 1 rfl) ?_
    refine lv_iload_n hx hb dX9_cutKey_24 rfl (lv_at hl 2 rfl) ?_
    refine fw_put (v := .int x1) (ty := .int) (C := RX9) (T := TX9) (N := 34) hx hb hts hin_X9 tyX9 tyX9_ok nmX9 hown hK hF hS mf_obj rfl 1 (by decide) (hts (.fieldLink RX9 88 "FrontCodedIndexModel" "keySize" "I") (by decide +kernel)) (fun _ h9 => h9) rfl (by decide +kernel) rfl rfl (show 1 < 34 by decide) dX9_cutKey_25 (fun H locs hF hS => ?_)
    rw [mf_put 1 x1 rfl] at hF
    obtain ⟨n_5, hn_n_5⟩ : ∃ z, z = upd n 1 x1 := ⟨_, rfl⟩
    rw [← hn_n_5] at hF; have h := h n_5 hn_n_5
    refine lv_aload_n hx hb dX9_cutKey_28 rfl (lv_at hl 1 rfl) ?_
    refine lv_iload_n hx hb dX9_cutKey_29 rfl (lv_at hl 0 rfl) ?_
    refine fw_cV_i (As := [.int v_3]) (rest := []) ⟨hx, hb, hml, hown, hts⟩ (cc_X9_done l G had h) (⟨callB_of 1 hts ggX9_cutKey_X9_done rfl rfl rfl (hts (.initialized RX9) (by decide +kernel)) (hts (.methodLink RX9 91 yX9_done) (by decide +kernel)) (by decide +kernel) ⟨Nat.le_of_ble_eq_true rfl, Nat.le_of_ble_eq_true rfl⟩, hts (.instanceMethod yX9_done) (by decide +kernel), hts (.selects RX9 yX9_done yX9_done) (by decide +kernel)⟩) rfl mf_obj hK hZ hF hS hA rfl hl.1 rfl (Nat.le_of_ble_eq_true rfl) dX9_cutKey_30 ⟨Nat.zero_le _, Nat.zero_le _⟩ (fun r_6 f9 H locs h hF hS => ?_)
    obtain ⟨n_8, g_9, rfl, h⟩ := h
    exact W.iret (v := r_6) hx hb hr (fun t ht hW => ⟨⟨r_6, (mf mo ad n_8 g_9), rfl, ⟨_, _, rfl, h⟩, by rw [ht]; exact hF, FK.moved hW.alike hK⟩, hS.F ht⟩) hS.2.2 dX9_cutKey_33
  · have h := h2 c_2
    refine lv_aload_n hx hb dX9_cutKey_12 rfl (lv_at hl 0 rfl) ?_
    refine lv_iconst (v := (1 : Int32)) hx hb dX9_cutKey_13 (by decide) ?_
    refine fw_cV_i (As := [.int (1 : Int32)]) (rest := []) ⟨hx, hb, hml, hown, hts⟩ (cc_X9_fails l G had h) (⟨callB_of 1 hts ggX9_cutKey_X9_fails rfl rfl rfl (hts (.initialized RX9) (by decide +kernel)) (hts (.methodLink RX9 84 yX9_fails) (by decide +kernel)) (by decide +kernel) ⟨Nat.le_of_ble_eq_true rfl, Nat.le_of_ble_eq_true rfl⟩, hts (.instanceMethod yX9_fails) (by decide +kernel), hts (.selects RX9 yX9_fails yX9_fails) (by decide +kernel)⟩) rfl mf_obj hK hZ hF hS hA rfl hl.1 rfl (Nat.le_of_ble_eq_true rfl) dX9_cutKey_14 ⟨Nat.zero_le _, Nat.zero_le _⟩ (fun r_10 f9 H locs h hF hS => ?_)
    obtain ⟨n_12, g_13, rfl, h⟩ := h
    exact W.iret (v := r_10) hx hb hr (fun t ht hW => ⟨⟨r_10, (mf mo ad n_12 g_13), rfl, ⟨_, _, rfl, h⟩, by rw [ht]; exact hF, FK.moved hW.alike hK⟩, hS.F ht⟩) hS.2.2 dX9_cutKey_17
theorem dX9_distance_0 : decode cX9_distance 0 = .ok (.iload_n 1, 1) := by decide +kernel
theorem dX9_distance_1 : decode cX9_distance 1 = .ok (.invokestatic 228, 3) := by decide +kernel
theorem dX9_distance_4 : decode cX9_distance 4 = .ok (.ifCond .eq 10, 3) := by decide +kernel
theorem dX9_distance_7 : decode cX9_distance 7 = .ok (.iload_n 2, 1) := by decide +kernel
theorem dX9_distance_8 : decode cX9_distance 8 = .ok (.invokestatic 228, 3) := by decide +kernel
theorem dX9_distance_11 : decode cX9_distance 11 = .ok (.ifCond .ne 9, 3) := by decide +kernel
theorem dX9_distance_14 : decode cX9_distance 14 = .ok (.aload_n 0, 1) := by decide +kernel
theorem dX9_distance_15 : decode cX9_distance 15 = .ok (.iconst 1, 1) := by decide +kernel
theorem dX9_distance_16 : decode cX9_distance 16 = .ok (.invokevirtual 84, 3) := by decide +kernel
theorem dX9_distance_19 : decode cX9_distance 19 = .ok (.ireturn, 1) := by decide +kernel
theorem dX9_distance_20 : decode cX9_distance 20 = .ok (.aload_n 0, 1) := by decide +kernel
theorem dX9_distance_21 : decode cX9_distance 21 = .ok (.getfield 44, 3) := by decide +kernel
theorem dX9_distance_24 : decode cX9_distance 24 = .ok (.iload_n 1, 1) := by decide +kernel
theorem dX9_distance_25 : decode cX9_distance 25 = .ok (.iaload, 1) := by decide +kernel
theorem dX9_distance_26 : decode cX9_distance 26 = .ok (.bipush (-2), 2) := by decide +kernel
theorem dX9_distance_28 : decode cX9_distance 28 = .ok (.if_icmp .eq 14, 3) := by decide +kernel
theorem dX9_distance_31 : decode cX9_distance 31 = .ok (.aload_n 0, 1) := by decide +kernel
theorem dX9_distance_32 : decode cX9_distance 32 = .ok (.getfield 44, 3) := by decide +kernel
theorem dX9_distance_35 : decode cX9_distance 35 = .ok (.iload_n 2, 1) := by decide +kernel
theorem dX9_distance_36 : decode cX9_distance 36 = .ok (.iaload, 1) := by decide +kernel
theorem dX9_distance_37 : decode cX9_distance 37 = .ok (.bipush (-2), 2) := by decide +kernel
theorem dX9_distance_39 : decode cX9_distance 39 = .ok (.if_icmp .ne 9, 3) := by decide +kernel
theorem dX9_distance_42 : decode cX9_distance 42 = .ok (.aload_n 0, 1) := by decide +kernel
theorem dX9_distance_43 : decode cX9_distance 43 = .ok (.iconst 2, 1) := by decide +kernel
theorem dX9_distance_44 : decode cX9_distance 44 = .ok (.invokevirtual 84, 3) := by decide +kernel
theorem dX9_distance_47 : decode cX9_distance 47 = .ok (.ireturn, 1) := by decide +kernel
theorem dX9_distance_48 : decode cX9_distance 48 = .ok (.aload_n 0, 1) := by decide +kernel
theorem dX9_distance_49 : decode cX9_distance 49 = .ok (.aload_n 0, 1) := by decide +kernel
theorem dX9_distance_50 : decode cX9_distance 50 = .ok (.getfield 44, 3) := by decide +kernel
theorem dX9_distance_53 : decode cX9_distance 53 = .ok (.iload_n 2, 1) := by decide +kernel
theorem dX9_distance_54 : decode cX9_distance 54 = .ok (.iaload, 1) := by decide +kernel
theorem dX9_distance_55 : decode cX9_distance 55 = .ok (.aload_n 0, 1) := by decide +kernel
theorem dX9_distance_56 : decode cX9_distance 56 = .ok (.getfield 44, 3) := by decide +kernel
theorem dX9_distance_59 : decode cX9_distance 59 = .ok (.iload_n 1, 1) := by decide +kernel
theorem dX9_distance_60 : decode cX9_distance 60 = .ok (.iaload, 1) := by decide +kernel
theorem dX9_distance_61 : decode cX9_distance 61 = .ok (.isub, 1) := by decide +kernel
theorem dX9_distance_62 : decode cX9_distance 62 = .ok (.invokevirtual 91, 3) := by decide +kernel
theorem dX9_distance_65 : decode cX9_distance 65 = .ok (.ireturn, 1) := by decide +kernel
set_option maxRecDepth 20000 in
theorem ggX9_distance_X9_done : GoodIn wsX9_distance wsX9_done := goodIn_r _ [17, 13, 18, 19, 20, 21, 22, 23, 24, 25, 26, 27, 28, 29, 30, 31, 32, 33, 34, 35, 36, 37, 38, 39, 40, 41, 42, 43, 44, 45, 46, 47, 48, 49, 50, 51] (by decide +kernel) (by decide +kernel)
set_option maxRecDepth 20000 in
theorem ggX9_distance_X9_fails : GoodIn wsX9_distance wsX9_fails := goodIn_r _ [12, 13, 18, 19, 20, 21, 22, 23, 24, 25, 26, 27, 28, 29, 30, 31, 32, 33, 34, 35, 36, 37, 38, 39, 40, 41, 42, 43, 44, 45, 46, 47, 48, 49, 50, 51] (by decide +kernel) (by decide +kernel)
set_option maxRecDepth 20000 in
theorem ggX9_distance_X9_isCursor : GoodIn wsX9_distance wsX9_isCursor := goodIn_r _ [5, 6, 7, 4, 8] (by decide +kernel) (by decide +kernel)
def wp_X9_distance_14   (n : Nat → Int32) (g : Nat → Nat → Int32) (K : Int32 → (Nat → Int32) → (Nat → Nat → Int32) → Prop)  : Prop :=
  wp_X9_fails (1 : Int32) n g (fun r_1 n_3 g_4 => K r_1 n_3 g_4)
def wp_X9_distance_42   (n : Nat → Int32) (g : Nat → Nat → Int32) (K : Int32 → (Nat → Int32) → (Nat → Nat → Int32) → Prop)  : Prop :=
  wp_X9_fails (2 : Int32) n g (fun r_5 n_7 g_8 => K r_5 n_7 g_8)
def wp_X9_distance (x1 : Int32) (x2 : Int32) (n : Nat → Int32) (g : Nat → Nat → Int32) (K : Int32 → (Nat → Int32) → (Nat → Nat → Int32) → Prop) : Prop :=
  wp_X9_isCursor x1 n g (fun r_9 => ((r_9 = (0 : Int32) → wp_X9_distance_14 n g K) ∧
 (¬ (r_9 = (0 : Int32)) → wp_X9_isCursor x2 n g (fun r_11 => ((¬ r_11 = (0 : Int32) → vp_in x1 (mlen 18) ∧ ∀ v_14 : Int32, v_14 = g 18 (x1).toNatClampNeg → ((v_14 = (-2 : Int32) → wp_X9_distance_42 n g K) ∧
 (¬ (v_14 = (-2 : Int32)) → vp_in x2 (mlen 18) ∧ ∀ v_17 : Int32, v_17 = g 18 (x2).toNatClampNeg → ((¬ v_17 = (-2 : Int32) → vp_in x2 (mlen 18) ∧ ∀ v_20 : Int32, v_20 = g 18 (x2).toNatClampNeg → vp_in x1 (mlen 18) ∧ ∀ v_22 : Int32, v_22 = g 18 (x1).toNatClampNeg → wp_X9_done (v_20 - v_22) n g (fun r_23 n_25 g_26 => K r_23 n_25 g_26)) ∧
 (v_17 = (-2 : Int32) → wp_X9_distance_42 n g K))))) ∧
 (r_11 = (0 : Int32) → wp_X9_distance_14 n g K))))))
set_option maxHeartbeats 4000000 in
set_option maxRecDepth 100000 in
theorem cc_X9_distance (l : Launch) (G : GG) {mo : Nat} {ad : Nat → Nat} (had : MAd mo ad) {n : Nat → Int32} {g : Nat → Nat → Int32} {sz : Nat} {x1 : Int32} {x2 : Int32} {K : Int32 → (Nat → Int32) → (Nat → Nat → Int32) → Prop} (h : wp_X9_distance x1 x2 n g K) : Met l yX9_distance wsX9_distance ({ frames := 2, cells := 0, slots := 0, locals := 42 } : Room) (FP G [.ref mo, .int x1, .int x2] (mf mo ad n g) sz) (va_Qi (fun r f9 => ∃ n9 g9, f9 = mf mo ad n9 g9 ∧ K r n9 g9 : Int32 → FT → Prop) (FB G (fA (mf mo ad n g) sz)) (fA (mf mo ad n g) sz)) 0 0 (fA (mf mo ad n g) sz) := by
  refine Met.ofW (cc := cX9_distance) (maxL := 3) (ret := (some .int)) (by decide) rfl ?_
  intro p e s m args below meth c s₁ B hml hv
  obtain ⟨rfl, hsz, hF, hK, hZ⟩ := hv
  have hx := B.exec
  have hb := B.bytes
  have hr := B.returns
  have hts := atoms_spec (ws := wsX9_distance) B.pre
  have hown : s.vm.findClass RX9 = some m.cls := findClass_of_methodNamed B.named
  have hlocks := B.notSynchronized
  subst hsz
  have hF := hF.self (sz := s.heap.size)
  generalize hAe : fA (mf mo ad n g) s.heap.size = A at hF hZ ⊢
  have hA : ∀ q : Nat, s.heap.size ≤ q → A q := fun q h => by rw [← hAe]; exact Or.inr h
  have hS : va_S A s.heap s.heap [] := va_S.rf
  have hin_X9 : ∀ w ∈ wsX90, w ∈ wsX9_distance := by decide +kernel
  have J14 : ∀ (n : Nat → Int32) (g : Nat → Nat → Int32) (H : Heap) (locs : List Loc) (ls : Array Slot), wp_X9_distance_14  n g K  → Fw G A (mf mo ad n g) H → va_S A s.heap H locs → lv_has ls 3 [(0, .ref mo)] → W p l e ({ frames := 2, cells := 0, slots := 0, locals := 42 } : Room) s m ([.ref mo, .int x1, .int x2] : List Value).toArray below meth c H locs 0 0 (MQ below (va_Qi (fun r f9 => ∃ n9 g9, f9 = mf mo ad n9 g9 ∧ K r n9 g9 : Int32 → FT → Prop) (FB G A) A) ([.ref mo, .int x1, .int x2] : List Value).toArray s 0 0 A) (F0 m 14 ls []) := by
    intro n g H locs ls h hF hS hl
    unfold wp_X9_distance_14 at h
    refine lv_aload_n hx hb dX9_distance_14 rfl (lv_at hl 0 rfl) ?_
    refine lv_iconst (v := (1 : Int32)) hx hb dX9_distance_15 (by decide) ?_
    refine fw_cV_i (As := [.int (1 : Int32)]) (rest := []) ⟨hx, hb, hml, hown, hts⟩ (cc_X9_fails l G had h) (⟨callB_of 1 hts ggX9_distance_X9_fails rfl rfl rfl (hts (.initialized RX9) (by decide +kernel)) (hts (.methodLink RX9 84 yX9_fails) (by decide +kernel)) (by decide +kernel) ⟨Nat.le_of_ble_eq_true rfl, Nat.le_of_ble_eq_true rfl⟩, hts (.instanceMethod yX9_fails) (by decide +kernel), hts (.selects RX9 yX9_fails yX9_fails) (by decide +kernel)⟩) rfl mf_obj hK hZ hF hS hA rfl hl.1 rfl (Nat.le_of_ble_eq_true rfl) dX9_distance_16 ⟨Nat.zero_le _, Nat.zero_le _⟩ (fun r_1 f9 H locs h hF hS => ?_)
    obtain ⟨n_3, g_4, rfl, h⟩ := h
    exact W.iret (v := r_1) hx hb hr (fun t ht hW => ⟨⟨r_1, (mf mo ad n_3 g_4), rfl, ⟨_, _, rfl, h⟩, by rw [ht]; exact hF, FK.moved hW.alike hK⟩, hS.F ht⟩) hS.2.2 dX9_distance_19
  have J42 : ∀ (n : Nat → Int32) (g : Nat → Nat → Int32) (H : Heap) (locs : List Loc) (ls : Array Slot), wp_X9_distance_42  n g K  → Fw G A (mf mo ad n g) H → va_S A s.heap H locs → lv_has ls 3 [(0, .ref mo)] → W p l e ({ frames := 2, cells := 0, slots := 0, locals := 42 } : Room) s m ([.ref mo, .int x1, .int x2] : List Value).toArray below meth c H locs 0 0 (MQ below (va_Qi (fun r f9 => ∃ n9 g9, f9 = mf mo ad n9 g9 ∧ K r n9 g9 : Int32 → FT → Prop) (FB G A) A) ([.ref mo, .int x1, .int x2] : List Value).toArray s 0 0 A) (F0 m 42 ls []) := by
    intro n g H locs ls h hF hS hl
    unfold wp_X9_distance_42 at h
    refine lv_aload_n hx hb dX9_distance_42 rfl (lv_at hl 0 rfl) ?_
    refine lv_iconst (v := (2 : Int32)) hx hb dX9_distance_43 (by decide) ?_
    refine fw_cV_i (As := [.int (2 : Int32)]) (rest := []) ⟨hx, hb, hml, hown, hts⟩ (cc_X9_fails l G had h) (⟨callB_of 1 hts ggX9_distance_X9_fails rfl rfl rfl (hts (.initialized RX9) (by decide +kernel)) (hts (.methodLink RX9 84 yX9_fails) (by decide +kernel)) (by decide +kernel) ⟨Nat.le_of_ble_eq_true rfl, Nat.le_of_ble_eq_true rfl⟩, hts (.instanceMethod yX9_fails) (by decide +kernel), hts (.selects RX9 yX9_fails yX9_fails) (by decide +kernel)⟩) rfl mf_obj hK hZ hF hS hA rfl hl.1 rfl (Nat.le_of_ble_eq_true rfl) dX9_distance_44 ⟨Nat.zero_le _, Nat.zero_le _⟩ (fun r_5 f9 H locs h hF hS => ?_)
    obtain ⟨n_7, g_8, rfl, h⟩ := h
    exact W.iret (v := r_5) hx hb hr (fun t ht hW => ⟨⟨r_5, (mf mo ad n_7 g_8), rfl, ⟨_, _, rfl, h⟩, by rw [ht]; exact hF, FK.moved hW.alike hK⟩, hS.F ht⟩) hS.2.2 dX9_distance_47
  have hl := lv_entry ([.ref mo, .int x1, .int x2]) (n := 3) (Nat.le_of_ble_eq_true rfl)
  rw [lg_entry_eq]
  generalize (lg_sl ([.ref mo, .int x1, .int x2]) ++ List.replicate (3 - (lg_sl ([.ref mo, .int x1, .int x2])).length) Slot.unset).toArray = ls at hl ⊢
  have hl : lv_has ls 3 [(0, .ref mo), (1, .int x1), (2, .int x2)] := hl
  unfold wp_X9_distance at h
  refine lv_iload_n hx hb dX9_distance_0 rfl (lv_at hl 1 rfl) ?_
  refine fw_cS_i_p (As := [.int x1]) (rest := []) ⟨hx, hb, hml, hown, hts⟩ (cc_X9_isCursor l G had h) (⟨callB_of 1 hts ggX9_distance_X9_isCursor rfl rfl rfl (hts (.initialized RX9) (by decide +kernel)) (hts (.methodLink RX9 228 yX9_isCursor) (by decide +kernel)) (by decide +kernel) ⟨Nat.le_of_ble_eq_true rfl, Nat.le_of_ble_eq_true rfl⟩, hts (.static yX9_isCursor) (by decide +kernel)⟩) hK hZ hF hS hA rfl hl.1 rfl (Nat.le_of_ble_eq_true rfl) dX9_distance_1 ⟨Nat.zero_le _, Nat.zero_le _⟩ (fun r_9 H locs h hF hS => ?_)
  obtain ⟨h1, h2⟩ := h
  refine lv_if_eq (tgt := 14) hx hb dX9_distance_4 (by decide) (fun c_10 => ?_) (fun c_10 => ?_)
  · have h := h1 c_10
    exact J14 n g _ _ _ h hF hS (lv_sub hl [0] rfl)
  · have h := h2 c_10
    refine lv_iload_n hx hb dX9_distance_7 rfl (lv_at hl 2 rfl) ?_
    refine fw_cS_i_p (As := [.int x2]) (rest := []) ⟨hx, hb, hml, hown, hts⟩ (cc_X9_isCursor l G had h) (⟨callB_of 1 hts ggX9_distance_X9_isCursor rfl rfl rfl (hts (.initialized RX9) (by decide +kernel)) (hts (.methodLink RX9 228 yX9_isCursor) (by decide +kernel)) (by decide +kernel) ⟨Nat.le_of_ble_eq_true rfl, Nat.le_of_ble_eq_true rfl⟩, hts (.static yX9_isCursor) (by decide +kernel)⟩) hK hZ hF hS hA rfl hl.1 rfl (Nat.le_of_ble_eq_true rfl) dX9_distance_8 ⟨Nat.zero_le _, Nat.zero_le _⟩ (fun r_11 H locs h hF hS => ?_)
    obtain ⟨h1, h2⟩ := h
    refine lv_if_ne (tgt := 20) hx hb dX9_distance_11 (by decide) (fun c_12 => ?_) (fun c_12 => ?_)
    · have h := h1 c_12
      refine lv_aload_n hx hb dX9_distance_20 rfl (lv_at hl 0 rfl) ?_
      refine fw_get (C := RX9) (T := TX9) (N := 34) hx hb hts hin_X9 hown hK hF mf_obj rfl 18 (by decide) (hts (.fieldLink RX9 44 "FrontCodedIndexModel" "cursors" "[I") (by decide +kernel)) (fun _ h9 => h9) rfl dX9_distance_21 ?_
      refine lv_iload_n hx hb dX9_distance_24 rfl (lv_at hl 1 rfl) ?_
      obtain ⟨hi_i_13, h⟩ := h
      refine fw_iald hx hb hK hF (mf_arr had 18 (by decide)) hi_i_13 dX9_distance_25 ?_
      refine lv_topi (fun v_14 e_v_14 => ?_)
      have h := h v_14 e_v_14
      refine lv_bipush (v := (-2 : Int32)) hx hb dX9_distance_26 (by decide) ?_
      obtain ⟨h1, h2⟩ := h
      refine lv_icmp_eq (tgt := 42) hx hb dX9_distance_28 (by decide) (fun c_15 => ?_) (fun c_15 => ?_)
      · have h := h1 c_15
        exact J42 n g _ _ _ h hF hS (lv_sub hl [0] rfl)
      · have h := h2 c_15
        refine lv_aload_n hx hb dX9_distance_31 rfl (lv_at hl 0 rfl) ?_
        refine fw_get (C := RX9) (T := TX9) (N := 34) hx hb hts hin_X9 hown hK hF mf_obj rfl 18 (by decide) (hts (.fieldLink RX9 44 "FrontCodedIndexModel" "cursors" "[I") (by decide +kernel)) (fun _ h9 => h9) rfl dX9_distance_32 ?_
        refine lv_iload_n hx hb dX9_distance_35 rfl (lv_at hl 2 rfl) ?_
        obtain ⟨hi_i_16, h⟩ := h
        refine fw_iald hx hb hK hF (mf_arr had 18 (by decide)) hi_i_16 dX9_distance_36 ?_
        refine lv_topi (fun v_17 e_v_17 => ?_)
        have h := h v_17 e_v_17
        refine lv_bipush (v := (-2 : Int32)) hx hb dX9_distance_37 (by decide) ?_
        obtain ⟨h1, h2⟩ := h
        refine lv_icmp_ne (tgt := 48) hx hb dX9_distance_39 (by decide) (fun c_18 => ?_) (fun c_18 => ?_)
        · have h := h1 c_18
          refine lv_aload_n hx hb dX9_distance_48 rfl (lv_at hl 0 rfl) ?_
          refine lv_aload_n hx hb dX9_distance_49 rfl (lv_at hl 0 rfl) ?_
          refine fw_get (C := RX9) (T := TX9) (N := 34) hx hb hts hin_X9 hown hK hF mf_obj rfl 18 (by decide) (hts (.fieldLink RX9 44 "FrontCodedIndexModel" "cursors" "[I") (by decide +kernel)) (fun _ h9 => h9) rfl dX9_distance_50 ?_
          refine lv_iload_n hx hb dX9_distance_53 rfl (lv_at hl 2 rfl) ?_
          obtain ⟨hi_i_19, h⟩ := h
          refine fw_iald hx hb hK hF (mf_arr had 18 (by decide)) hi_i_19 dX9_distance_54 ?_
          refine lv_topi (fun v_20 e_v_20 => ?_)
          have h := h v_20 e_v_20
          refine lv_aload_n hx hb dX9_distance_55 rfl (lv_at hl 0 rfl) ?_
          refine fw_get (C := RX9) (T := TX9) (N := 34) hx hb hts hin_X9 hown hK hF mf_obj rfl 18 (by decide) (hts (.fieldLink RX9 44 "FrontCodedIndexModel" "cursors" "[I") (by decide +kernel)) (fun _ h9 => h9) rfl dX9_distance_56 ?_
          refine lv_iload_n hx hb dX9_distance_59 rfl (lv_at hl 1 rfl) ?_
          obtain ⟨hi_i_21, h⟩ := h
          refine fw_iald hx hb hK hF (mf_arr had 18 (by decide)) hi_i_21 dX9_distance_60 ?_
          refine lv_topi (fun v_22 e_v_22 => ?_)
          have h := h v_22 e_v_22
          refine lv_isub hx hb dX9_distance_61 ?_
          refine fw_cV_i (As := [.int (v_20 - v_22)]) (rest := []) ⟨hx, hb, hml, hown, hts⟩ (cc_X9_done l G had h) (⟨callB_of 1 hts ggX9_distance_X9_done rfl rfl rfl (hts (.initialized RX9) (by decide +kernel)) (hts (.methodLink RX9 91 yX9_done) (by decide +kernel)) (by decide +kernel) ⟨Nat.le_of_ble_eq_true rfl, Nat.le_of_ble_eq_true rfl⟩, hts (.instanceMethod yX9_done) (by decide +kernel), hts (.selects RX9 yX9_done yX9_done) (by decide +kernel)⟩) rfl mf_obj hK hZ hF hS hA rfl hl.1 rfl (Nat.le_of_ble_eq_true rfl) dX9_distance_62 ⟨Nat.zero_le _, Nat.zero_le _⟩ (fun r_23 f9 H locs h hF hS => ?_)
          obtain ⟨n_25, g_26, rfl, h⟩ := h
          exact W.iret (v := r_23) hx hb hr (fun t ht hW => ⟨⟨r_23, (mf mo ad n_25 g_26), rfl, ⟨_, _, rfl, h⟩, by rw [ht]; exact hF, FK.moved hW.alike hK⟩, hS.F ht⟩) hS.2.2 dX9_distance_65
        · have h := h2 c_18
          exact J42 n g _ _ _ h hF hS (lv_sub hl [0] rfl)
    · have h := h2 c_12
      exact J14 n g _ _ _ h hF hS (lv_sub hl [0] rfl)
theorem dX9_entryTo_0 : decode cX9_entryTo 0 = .ok (.aload_n 0, 1) := by decide +kernel
theorem dX9_entryTo_1 : decode cX9_entryTo 1 = .ok (.getfield 20, 3) := by decide +kernel
theorem dX9_entryTo_4 : decode cX9_entryTo 4 = .ok (.iload_n 1, 1) := by decide +kernel
theorem dX9_entryTo_5 : decode cX9_entryTo 5 = .ok (.aload_n 0, 1) := by decide +kernel
theorem dX9_entryTo_6 : decode cX9_entryTo 6 = .ok (.getfield 20, 3) := by decide +kernel
theorem dX9_entryTo_9 : decode cX9_entryTo 9 = .ok (.iload_n 2, 1) := by decide +kernel
theorem dX9_entryTo_10 : decode cX9_entryTo 10 = .ok (.iaload, 1) := by decide +kernel
theorem dX9_entryTo_11 : decode cX9_entryTo 11 = .ok (.iastore, 1) := by decide +kernel
theorem dX9_entryTo_12 : decode cX9_entryTo 12 = .ok (.aload_n 0, 1) := by decide +kernel
theorem dX9_entryTo_13 : decode cX9_entryTo 13 = .ok (.getfield 26, 3) := by decide +kernel
theorem dX9_entryTo_16 : decode cX9_entryTo 16 = .ok (.iload_n 1, 1) := by decide +kernel
theorem dX9_entryTo_17 : decode cX9_entryTo 17 = .ok (.aload_n 0, 1) := by decide +kernel
theorem dX9_entryTo_18 : decode cX9_entryTo 18 = .ok (.getfield 26, 3) := by decide +kernel
theorem dX9_entryTo_21 : decode cX9_entryTo 21 = .ok (.iload_n 2, 1) := by decide +kernel
theorem dX9_entryTo_22 : decode cX9_entryTo 22 = .ok (.iaload, 1) := by decide +kernel
theorem dX9_entryTo_23 : decode cX9_entryTo 23 = .ok (.iastore, 1) := by decide +kernel
theorem dX9_entryTo_24 : decode cX9_entryTo 24 = .ok (.iconst 0, 1) := by decide +kernel
theorem dX9_entryTo_25 : decode cX9_entryTo 25 = .ok (.istore_n 3, 1) := by decide +kernel
theorem dX9_entryTo_26 : decode cX9_entryTo 26 = .ok (.iload_n 3, 1) := by decide +kernel
theorem dX9_entryTo_27 : decode cX9_entryTo 27 = .ok (.bipush 12, 2) := by decide +kernel
theorem dX9_entryTo_29 : decode cX9_entryTo 29 = .ok (.if_icmp .ge 31, 3) := by decide +kernel
theorem dX9_entryTo_32 : decode cX9_entryTo 32 = .ok (.aload_n 0, 1) := by decide +kernel
theorem dX9_entryTo_33 : decode cX9_entryTo 33 = .ok (.getfield 23, 3) := by decide +kernel
theorem dX9_entryTo_36 : decode cX9_entryTo 36 = .ok (.bipush 12, 2) := by decide +kernel
theorem dX9_entryTo_38 : decode cX9_entryTo 38 = .ok (.iload_n 1, 1) := by decide +kernel
theorem dX9_entryTo_39 : decode cX9_entryTo 39 = .ok (.imul, 1) := by decide +kernel
theorem dX9_entryTo_40 : decode cX9_entryTo 40 = .ok (.iload_n 3, 1) := by decide +kernel
theorem dX9_entryTo_41 : decode cX9_entryTo 41 = .ok (.iadd, 1) := by decide +kernel
theorem dX9_entryTo_42 : decode cX9_entryTo 42 = .ok (.aload_n 0, 1) := by decide +kernel
theorem dX9_entryTo_43 : decode cX9_entryTo 43 = .ok (.getfield 23, 3) := by decide +kernel
theorem dX9_entryTo_46 : decode cX9_entryTo 46 = .ok (.bipush 12, 2) := by decide +kernel
theorem dX9_entryTo_48 : decode cX9_entryTo 48 = .ok (.iload_n 2, 1) := by decide +kernel
theorem dX9_entryTo_49 : decode cX9_entryTo 49 = .ok (.imul, 1) := by decide +kernel
theorem dX9_entryTo_50 : decode cX9_entryTo 50 = .ok (.iload_n 3, 1) := by decide +kernel
theorem dX9_entryTo_51 : decode cX9_entryTo 51 = .ok (.iadd, 1) := by decide +kernel
theorem dX9_entryTo_52 : decode cX9_entryTo 52 = .ok (.iaload, 1) := by decide +kernel
theorem dX9_entryTo_53 : decode cX9_entryTo 53 = .ok (.iastore, 1) := by decide +kernel
theorem dX9_entryTo_54 : decode cX9_entryTo 54 = .ok (.iinc 3 1, 3) := by decide +kernel
theorem dX9_entryTo_57 : decode cX9_entryTo 57 = .ok (.goto (-31), 3) := by decide +kernel
theorem dX9_entryTo_60 : decode cX9_entryTo 60 = .ok (.return_, 1) := by decide +kernel
def wp_X9_entryTo_26 (x1 : Int32) (x2 : Int32) (K : (Nat → Int32) → (Nat → Nat → Int32) → Prop)  (C26 : Int32 × (Nat → Int32) × (Nat → Nat → Int32) → Prop) : Int32 × (Nat → Int32) × (Nat → Nat → Int32) → Prop := fun s9 => match s9 with
  | (y3, n, g) => (((12 : Int32) ≤ y3 → K n g) ∧
 (¬ ((12 : Int32) ≤ y3) → vp_in (((12 : Int32) * x2) + y3) (mlen 11) ∧ ∀ v_3 : Int32, v_3 = g 11 ((((12 : Int32) * x2) + y3)).toNatClampNeg → vp_in (((12 : Int32) * x1) + y3) (mlen 11) ∧ ∀ g_5 : Nat → Nat → Int32, g_5 = mup g 11 ((((12 : Int32) * x1) + y3)).toNatClampNeg v_3 → ∀ v_6 : Int32, v_6 = y3 + 1 → C26 (v_6, n, g_5)))
def wp_X9_entryTo (x1 : Int32) (x2 : Int32) (n : Nat → Int32) (g : Nat → Nat → Int32) (K : (Nat → Int32) → (Nat → Nat → Int32) → Prop) : Prop :=
  vp_in x2 (mlen 10) ∧ ∀ v_9 : Int32, v_9 = g 10 (x2).toNatClampNeg → vp_in x1 (mlen 10) ∧ ∀ g_11 : Nat → Nat → Int32, g_11 = mup g 10 (x1).toNatClampNeg v_9 → vp_in x2 (mlen 12) ∧ ∀ v_13 : Int32, v_13 = g_11 12 (x2).toNatClampNeg → vp_in x1 (mlen 12) ∧ ∀ g_15 : Nat → Nat → Int32, g_15 = mup g_11 12 (x1).toNatClampNeg v_13 → ∃ n_16, loopW (wp_X9_entryTo_26 x1 x2 K) n_16 ((0 : Int32), n, g_15)
set_option maxHeartbeats 4000000 in
set_option maxRecDepth 100000 in
theorem cc_X9_entryTo (l : Launch) (G : GG) {mo : Nat} {ad : Nat → Nat} (had : MAd mo ad) {n : Nat → Int32} {g : Nat → Nat → Int32} {sz : Nat} {x1 : Int32} {x2 : Int32} {K : (Nat → Int32) → (Nat → Nat → Int32) → Prop} (h : wp_X9_entryTo x1 x2 n g K) : Met l yX9_entryTo wsX9_entryTo ({ frames := 0, cells := 0, slots := 0, locals := 0 } : Room) (FP G [.ref mo, .int x1, .int x2] (mf mo ad n g) sz) (va_Qv (fun f9 => ∃ n9 g9, f9 = mf mo ad n9 g9 ∧ K n9 g9 : FT → Prop) (FB G (fA (mf mo ad n g) sz)) (fA (mf mo ad n g) sz)) 0 0 (fA (mf mo ad n g) sz) := by
  refine Met.ofW (cc := cX9_entryTo) (maxL := 4) (ret := none) (by decide) rfl ?_
  intro p e s m args below meth c s₁ B hml hv
  obtain ⟨rfl, hsz, hF, hK, hZ⟩ := hv
  have hx := B.exec
  have hb := B.bytes
  have hr := B.returns
  have hts := atoms_spec (ws := wsX9_entryTo) B.pre
  have hown : s.vm.findClass RX9 = some m.cls := findClass_of_methodNamed B.named
  have hlocks := B.notSynchronized
  subst hsz
  have hF := hF.self (sz := s.heap.size)
  generalize hAe : fA (mf mo ad n g) s.heap.size = A at hF hZ ⊢
  have hA : ∀ q : Nat, s.heap.size ≤ q → A q := fun q h => by rw [← hAe]; exact Or.inr h
  have hS : va_S A s.heap s.heap [] := va_S.rf
  have hin_X9 : ∀ w ∈ wsX90, w ∈ wsX9_entryTo := by decide +kernel
  have L26 : ∀  (j9 : Nat) (y3 : Int32) (n : Nat → Int32) (g : Nat → Nat → Int32) (H : Heap) (locs : List Loc) (ls : Array Slot), loopW (wp_X9_entryTo_26 x1 x2 K ) j9 (y3, n, g) → Fw G A (mf mo ad n g) H → va_S A s.heap H locs → lv_has ls 4 [(0, .ref mo), (1, .int x1), (2, .int x2), (3, .int y3)] → W p l e ({ frames := 0, cells := 0, slots := 0, locals := 0 } : Room) s m ([.ref mo, .int x1, .int x2] : List Value).toArray below meth c H locs 0 0 (MQ below (va_Qv (fun f9 => ∃ n9 g9, f9 = mf mo ad n9 g9 ∧ K n9 g9 : FT → Prop) (FB G A) A) ([.ref mo, .int x1, .int x2] : List Value).toArray s 0 0 A) (F0 m 26 ls []) := by
    intro  j9
    induction j9 with
    | zero => intro y3 n g H locs ls h; exact h.elim
    | succ j9 ih26 =>
      intro y3 n g H locs ls h hF hS hl
      have h : wp_X9_entryTo_26 x1 x2 K  (loopW (wp_X9_entryTo_26 x1 x2 K ) j9) (y3, n, g) := h
      generalize loopW (wp_X9_entryTo_26 x1 x2 K ) j9 = C26 at ih26 h
      unfold wp_X9_entryTo_26 at h
      refine lv_iload_n hx hb dX9_entryTo_26 rfl (lv_at hl 3 rfl) ?_
      refine lv_bipush (v := (12 : Int32)) hx hb dX9_entryTo_27 (by decide) ?_
      obtain ⟨h1, h2⟩ := h
      refine lv_icmp_ge (tgt := 60) hx hb dX9_entryTo_29 (by decide) (fun c_1 => ?_) (fun c_1 => ?_)
      · have h := h1 c_1
        exact W.vret hx hb hr (fun t ht hW => ⟨⟨(mf mo ad n g), rfl, ⟨_, _, rfl, h⟩, by rw [ht]; exact hF, FK.moved hW.alike hK⟩, hS.F ht⟩) hS.2.2 dX9_entryTo_60
      · have h := h2 c_1
        refine lv_aload_n hx hb dX9_entryTo_32 rfl (lv_at hl 0 rfl) ?_
        refine fw_get (C := RX9) (T := TX9) (N := 34) hx hb hts hin_X9 hown hK hF mf_obj rfl 11 (by decide) (hts (.fieldLink RX9 23 "FrontCodedIndexModel" "bytes" "[I") (by decide +kernel)) (fun _ h9 => h9) rfl dX9_entryTo_33 ?_
        refine lv_bipush (v := (12 : Int32)) hx hb dX9_entryTo_36 (by decide) ?_
        refine lv_iload_n hx hb dX9_entryTo_38 rfl (lv_at hl 1 rfl) ?_
        refine lv_imul hx hb dX9_entryTo_39 ?_
        refine lv_iload_n hx hb dX9_entryTo_40 rfl (lv_at hl 3 rfl) ?_
        refine lv_iadd hx hb dX9_entryTo_41 ?_
        refine lv_aload_n hx hb dX9_entryTo_42 rfl (lv_at hl 0 rfl) ?_
        refine fw_get (C := RX9) (T := TX9) (N := 34) hx hb hts hin_X9 hown hK hF mf_obj rfl 11 (by decide) (hts (.fieldLink RX9 23 "FrontCodedIndexModel" "bytes" "[I") (by decide +kernel)) (fun _ h9 => h9) rfl dX9_entryTo_43 ?_
        refine lv_bipush (v := (12 : Int32)) hx hb dX9_entryTo_46 (by decide) ?_
        refine lv_iload_n hx hb dX9_entryTo_48 rfl (lv_at hl 2 rfl) ?_
        refine lv_imul hx hb dX9_entryTo_49 ?_
        refine lv_iload_n hx hb dX9_entryTo_50 rfl (lv_at hl 3 rfl) ?_
        refine lv_iadd hx hb dX9_entryTo_51 ?_
        obtain ⟨hi_i_2, h⟩ := h
        refine fw_iald hx hb hK hF (mf_arr had 11 (by decide)) hi_i_2 dX9_entryTo_52 ?_
        refine lv_topi (fun v_3 e_v_3 => ?_)
        have h := h v_3 e_v_3
        obtain ⟨hi_i_4, h⟩ := h
        refine fw_iast hx hb hK hF hS (mf_arr had 11 (by decide)) hi_i_4 dX9_entryTo_53 (fun H locs hF hS => ?_)
        rw [mf_st had 11 (by decide)] at hF
        obtain ⟨g_5, hg_g_5⟩ : ∃ z, z = mup g 11 ((((12 : Int32) * x1) + y3)).toNatClampNeg v_3 := ⟨_, rfl⟩
        rw [← hg_g_5] at hF; have h := h g_5 hg_g_5
        obtain ⟨v_6, e_7⟩ : ∃ y : Int32, y = y3 + 1 := ⟨_, rfl⟩
        have h := h v_6 e_7
        refine lv_iinc (v := v_6) (lv' := [(3, .int v_6), (0, .ref mo), (1, .int x1), (2, .int x2)]) hx hb dX9_entryTo_54 hl (k := 3) rfl (by rw [e_7]; rfl) (by decide) rfl (fun ls hl => ?_)
        refine lv_goto (tgt := 26) hx hb dX9_entryTo_57 (by decide) ?_
        exact ih26 v_6 n g_5 _ _ _ h hF hS (lv_sub hl [1, 2, 3, 0] rfl)
  have hl := lv_entry ([.ref mo, .int x1, .int x2]) (n := 4) (Nat.le_of_ble_eq_true rfl)
  rw [lg_entry_eq]
  generalize (lg_sl ([.ref mo, .int x1, .int x2]) ++ List.replicate (4 - (lg_sl ([.ref mo, .int x1, .int x2])).length) Slot.unset).toArray = ls at hl ⊢
  have hl : lv_has ls 4 [(0, .ref mo), (1, .int x1), (2, .int x2)] := hl
  unfold wp_X9_entryTo at h
  refine lv_aload_n hx hb dX9_entryTo_0 rfl (lv_at hl 0 rfl) ?_
  refine fw_get (C := RX9) (T := TX9) (N := 34) hx hb hts hin_X9 hown hK hF mf_obj rfl 10 (by decide) (hts (.fieldLink RX9 20 "FrontCodedIndexModel" "sizeOf" "[I") (by decide +kernel)) (fun _ h9 => h9) rfl dX9_entryTo_1 ?_
  refine lv_iload_n hx hb dX9_entryTo_4 rfl (lv_at hl 1 rfl) ?_
  refine lv_aload_n hx hb dX9_entryTo_5 rfl (lv_at hl 0 rfl) ?_
  refine fw_get (C := RX9) (T := TX9) (N := 34) hx hb hts hin_X9 hown hK hF mf_obj rfl 10 (by decide) (hts (.fieldLink RX9 20 "FrontCodedIndexModel" "sizeOf" "[I") (by decide +kernel)) (fun _ h9 => h9) rfl dX9_entryTo_6 ?_
  refine lv_iload_n hx hb dX9_entryTo_9 rfl (lv_at hl 2 rfl) ?_
  obtain ⟨hi_i_8, h⟩ := h
  refine fw_iald hx hb hK hF (mf_arr had 10 (by decide)) hi_i_8 dX9_entryTo_10 ?_
  refine lv_topi (fun v_9 e_v_9 => ?_)
  have h := h v_9 e_v_9
  obtain ⟨hi_i_10, h⟩ := h
  refine fw_iast hx hb hK hF hS (mf_arr had 10 (by decide)) hi_i_10 dX9_entryTo_11 (fun H locs hF hS => ?_)
  rw [mf_st had 10 (by decide)] at hF
  obtain ⟨g_11, hg_g_11⟩ : ∃ z, z = mup g 10 (x1).toNatClampNeg v_9 := ⟨_, rfl⟩
  rw [← hg_g_11] at hF; have h := h g_11 hg_g_11
  refine lv_aload_n hx hb dX9_entryTo_12 rfl (lv_at hl 0 rfl) ?_
  refine fw_get (C := RX9) (T := TX9) (N := 34) hx hb hts hin_X9 hown hK hF mf_obj rfl 12 (by decide) (hts (.fieldLink RX9 26 "FrontCodedIndexModel" "values" "[I") (by decide +kernel)) (fun _ h9 => h9) rfl dX9_entryTo_13 ?_
  refine lv_iload_n hx hb dX9_entryTo_16 rfl (lv_at hl 1 rfl) ?_
  refine lv_aload_n hx hb dX9_entryTo_17 rfl (lv_at hl 0 rfl) ?_
  refine fw_get (C := RX9) (T := TX9) (N := 34) hx hb hts hin_X9 hown hK hF mf_obj rfl 12 (by decide) (hts (.fieldLink RX9 26 "FrontCodedIndexModel" "values" "[I") (by decide +kernel)) (fun _ h9 => h9) rfl dX9_entryTo_18 ?_
  refine lv_iload_n hx hb dX9_entryTo_21 rfl (lv_at hl 2 rfl) ?_
  obtain ⟨hi_i_12, h⟩ := h
  refine fw_iald hx hb hK hF (mf_arr had 12 (by decide)) hi_i_12 dX9_entryTo_22 ?_
  refine lv_topi (fun v_13 e_v_13 => ?_)
  have h := h v_13 e_v_13
  obtain ⟨hi_i_14, h⟩ := h
  refine fw_iast hx hb hK hF hS (mf_arr had 12 (by decide)) hi_i_14 dX9_entryTo_23 (fun H locs hF hS => ?_)
  rw [mf_st had 12 (by decide)] at hF
  obtain ⟨g_15, hg_g_15⟩ : ∃ z, z = mup g_11 12 (x1).toNatClampNeg v_13 := ⟨_, rfl⟩
  rw [← hg_g_15] at hF; have h := h g_15 hg_g_15
  refine lv_iconst (v := (0 : Int32)) hx hb dX9_entryTo_24 (by decide) ?_
  refine lv_istore_n (lv' := [(3, .int (0 : Int32)), (0, .ref mo), (1, .int x1), (2, .int x2)]) hx hb dX9_entryTo_25 rfl hl (by decide) rfl (fun ls hl => ?_)
  obtain ⟨n_16, h⟩ := h
  exact L26 n_16 (0 : Int32) n g_15 _ _ _ h hF hS (lv_sub hl [1, 2, 3, 0] rfl)
theorem dX9_feed_0 : decode cX9_feed 0 = .ok (.iload_n 1, 1) := by decide +kernel
theorem dX9_feed_1 : decode cX9_feed 1 = .ok (.iconst 0, 1) := by decide +kernel
theorem dX9_feed_2 : decode cX9_feed 2 = .ok (.bipush 127, 2) := by decide +kernel
theorem dX9_feed_4 : decode cX9_feed 4 = .ok (.invokestatic 80, 3) := by decide +kernel
theorem dX9_feed_7 : decode cX9_feed 7 = .ok (.ifCond .ne 9, 3) := by decide +kernel
theorem dX9_feed_10 : decode cX9_feed 10 = .ok (.aload_n 0, 1) := by decide +kernel
theorem dX9_feed_11 : decode cX9_feed 11 = .ok (.iconst 1, 1) := by decide +kernel
theorem dX9_feed_12 : decode cX9_feed 12 = .ok (.invokevirtual 84, 3) := by decide +kernel
theorem dX9_feed_15 : decode cX9_feed 15 = .ok (.ireturn, 1) := by decide +kernel
theorem dX9_feed_16 : decode cX9_feed 16 = .ok (.aload_n 0, 1) := by decide +kernel
theorem dX9_feed_17 : decode cX9_feed 17 = .ok (.getfield 88, 3) := by decide +kernel
theorem dX9_feed_20 : decode cX9_feed 20 = .ok (.bipush 12, 2) := by decide +kernel
theorem dX9_feed_22 : decode cX9_feed 22 = .ok (.if_icmp .ne 9, 3) := by decide +kernel
theorem dX9_feed_25 : decode cX9_feed 25 = .ok (.aload_n 0, 1) := by decide +kernel
theorem dX9_feed_26 : decode cX9_feed 26 = .ok (.iconst 2, 1) := by decide +kernel
theorem dX9_feed_27 : decode cX9_feed 27 = .ok (.invokevirtual 84, 3) := by decide +kernel
theorem dX9_feed_30 : decode cX9_feed 30 = .ok (.ireturn, 1) := by decide +kernel
theorem dX9_feed_31 : decode cX9_feed 31 = .ok (.aload_n 0, 1) := by decide +kernel
theorem dX9_feed_32 : decode cX9_feed 32 = .ok (.getfield 7, 3) := by decide +kernel
theorem dX9_feed_35 : decode cX9_feed 35 = .ok (.aload_n 0, 1) := by decide +kernel
theorem dX9_feed_36 : decode cX9_feed 36 = .ok (.getfield 88, 3) := by decide +kernel
theorem dX9_feed_39 : decode cX9_feed 39 = .ok (.iload_n 1, 1) := by decide +kernel
theorem dX9_feed_40 : decode cX9_feed 40 = .ok (.iastore, 1) := by decide +kernel
theorem dX9_feed_41 : decode cX9_feed 41 = .ok (.aload_n 0, 1) := by decide +kernel
theorem dX9_feed_42 : decode cX9_feed 42 = .ok (.dup, 1) := by decide +kernel
theorem dX9_feed_43 : decode cX9_feed 43 = .ok (.getfield 88, 3) := by decide +kernel
theorem dX9_feed_46 : decode cX9_feed 46 = .ok (.iconst 1, 1) := by decide +kernel
theorem dX9_feed_47 : decode cX9_feed 47 = .ok (.iadd, 1) := by decide +kernel
theorem dX9_feed_48 : decode cX9_feed 48 = .ok (.putfield 88, 3) := by decide +kernel
theorem dX9_feed_51 : decode cX9_feed 51 = .ok (.aload_n 0, 1) := by decide +kernel
theorem dX9_feed_52 : decode cX9_feed 52 = .ok (.aload_n 0, 1) := by decide +kernel
theorem dX9_feed_53 : decode cX9_feed 53 = .ok (.getfield 88, 3) := by decide +kernel
theorem dX9_feed_56 : decode cX9_feed 56 = .ok (.invokevirtual 91, 3) := by decide +kernel
theorem dX9_feed_59 : decode cX9_feed 59 = .ok (.ireturn, 1) := by decide +kernel
set_option maxRecDepth 20000 in
theorem ggX9_feed_X9_done : GoodIn wsX9_feed wsX9_done := goodIn_r _ [15, 11, 16, 17, 18, 19, 20, 21, 22, 23, 24, 25, 26, 27, 28, 29, 30, 31, 32, 33, 34, 35, 36, 37, 38, 39, 40, 41, 42, 43, 44, 45, 46, 47, 48, 49] (by decide +kernel) (by decide +kernel)
set_option maxRecDepth 20000 in
theorem ggX9_feed_X9_fails : GoodIn wsX9_feed wsX9_fails := goodIn_r _ [10, 11, 16, 17, 18, 19, 20, 21, 22, 23, 24, 25, 26, 27, 28, 29, 30, 31, 32, 33, 34, 35, 36, 37, 38, 39, 40, 41, 42, 43, 44, 45, 46, 47, 48, 49] (by decide +kernel) (by decide +kernel)
set_option maxRecDepth 20000 in
theorem ggX9_feed_X9_in : GoodIn wsX9_feed wsX9_in := goodIn_r _ [6] (by decide +kernel) (by decide +kernel)
def wp_X9_feed (x1 : Int32) (n : Nat → Int32) (g : Nat → Nat → Int32) (K : Int32 → (Nat → Int32) → (Nat → Nat → Int32) → Prop) : Prop :=
  wp_X9_in x1 (0 : Int32) (127 : Int32) n g (fun r_1 => ((¬ r_1 = (0 : Int32) → ((¬ (n 1) = (12 : Int32) → vp_in (n 1) (mlen 2) ∧ ∀ g_5 : Nat → Nat → Int32, g_5 = mup g 2 ((n 1)).toNatClampNeg x1 → ∀ n_6 : Nat → Int32, n_6 = upd n 1 ((n 1) + (1 : Int32)) → wp_X9_done (n_6 1) n_6 g_5 (fun r_7 n_9 g_10 => K r_7 n_9 g_10)) ∧
 ((n 1) = (12 : Int32) → wp_X9_fails (2 : Int32) n g (fun r_11 n_13 g_14 => K r_11 n_13 g_14)))) ∧
 (r_1 = (0 : Int32) → wp_X9_fails (1 : Int32) n g (fun r_15 n_17 g_18 => K r_15 n_17 g_18))))
set_option maxHeartbeats 4000000 in
set_option maxRecDepth 100000 in
theorem cc_X9_feed (l : Launch) (G : GG) {mo : Nat} {ad : Nat → Nat} (had : MAd mo ad) {n : Nat → Int32} {g : Nat → Nat → Int32} {sz : Nat} {x1 : Int32} {K : Int32 → (Nat → Int32) → (Nat → Nat → Int32) → Prop} (h : wp_X9_feed x1 n g K) : Met l yX9_feed wsX9_feed ({ frames := 1, cells := 0, slots := 0, locals := 22 } : Room) (FP G [.ref mo, .int x1] (mf mo ad n g) sz) (va_Qi (fun r f9 => ∃ n9 g9, f9 = mf mo ad n9 g9 ∧ K r n9 g9 : Int32 → FT → Prop) (FB G (fA (mf mo ad n g) sz)) (fA (mf mo ad n g) sz)) 0 0 (fA (mf mo ad n g) sz) := by
  refine Met.ofW (cc := cX9_feed) (maxL := 2) (ret := (some .int)) (by decide) rfl ?_
  intro p e s m args below meth c s₁ B hml hv
  obtain ⟨rfl, hsz, hF, hK, hZ⟩ := hv
  have hx := B.exec
  have hb := B.bytes
  have hr := B.returns
  have hts := atoms_spec (ws := wsX9_feed) B.pre
  have hown : s.vm.findClass RX9 = some m.cls := findClass_of_methodNamed B.named
  have hlocks := B.notSynchronized
  subst hsz
  have hF := hF.self (sz := s.heap.size)
  generalize hAe : fA (mf mo ad n g) s.heap.size = A at hF hZ ⊢
  have hA : ∀ q : Nat, s.heap.size ≤ q → A q := fun q h => by rw [← hAe]; exact Or.inr h
  have hS : va_S A s.heap s.heap [] := va_S.rf
  have hin_X9 : ∀ w ∈ wsX90, w ∈ wsX9_feed := by decide +kernel
  have hl := lv_entry ([.ref mo, .int x1]) (n := 2) (Nat.le_of_ble_eq_true rfl)
  rw [lg_entry_eq]
  generalize (lg_sl ([.ref mo, .int x1]) ++ List.replicate (2 - (lg_sl ([.ref mo, .int x1])).length) Slot.unset).toArray = ls at hl ⊢
  have hl : lv_has ls 2 [(0, .ref mo), (1, .int x1)] := hl
  unfold wp_X9_feed at h
  refine lv_iload_n hx hb dX9_feed_0 rfl (lv_at hl 1 rfl) ?_
  refine lv_iconst (v := (0 : Int32)) hx hb dX9_feed_1 (by decide) ?_
  refine lv_bipush (v := (127 : Int32)) hx hb dX9_feed_2 (by decide) ?_
  refine fw_cS_i_p (As := [.int x1, .int (0 : Int32), .int (127 : Int32)]) (rest := []) ⟨hx, hb, hml, hown, hts⟩ (cc_X9_in l G had h) (⟨callB_of 3 hts ggX9_feed_X9_in rfl rfl rfl (hts (.initialized RX9) (by decide +kernel)) (hts (.methodLink RX9 80 yX9_in) (by decide +kernel)) (by decide +kernel) ⟨Nat.le_of_ble_eq_true rfl, Nat.le_of_ble_eq_true rfl⟩, hts (.static yX9_in) (by decide +kernel)⟩) hK hZ hF hS hA rfl hl.1 rfl (Nat.le_of_ble_eq_true rfl) dX9_feed_4 ⟨Nat.zero_le _, Nat.zero_le _⟩ (fun r_1 H locs h hF hS => ?_)
  obtain ⟨h1, h2⟩ := h
  refine lv_if_ne (tgt := 16) hx hb dX9_feed_7 (by decide) (fun c_2 => ?_) (fun c_2 => ?_)
  · have h := h1 c_2
    refine lv_aload_n hx hb dX9_feed_16 rfl (lv_at hl 0 rfl) ?_
    refine fw_get (C := RX9) (T := TX9) (N := 34) hx hb hts hin_X9 hown hK hF mf_obj rfl 1 (by decide) (hts (.fieldLink RX9 88 "FrontCodedIndexModel" "keySize" "I") (by decide +kernel)) (fun _ h9 => h9) rfl dX9_feed_17 ?_
    refine lv_bipush (v := (12 : Int32)) hx hb dX9_feed_20 (by decide) ?_
    obtain ⟨h1, h2⟩ := h
    refine lv_icmp_ne (tgt := 31) hx hb dX9_feed_22 (by decide) (fun c_3 => ?_) (fun c_3 => ?_)
    · have h := h1 c_3
      refine lv_aload_n hx hb dX9_feed_31 rfl (lv_at hl 0 rfl) ?_
      refine fw_get (C := RX9) (T := TX9) (N := 34) hx hb hts hin_X9 hown hK hF mf_obj rfl 2 (by decide) (hts (.fieldLink RX9 7 "FrontCodedIndexModel" "key" "[I") (by decide +kernel)) (fun _ h9 => h9) rfl dX9_feed_32 ?_
      refine lv_aload_n hx hb dX9_feed_35 rfl (lv_at hl 0 rfl) ?_
      refine fw_get (C := RX9) (T := TX9) (N := 34) hx hb hts hin_X9 hown hK hF mf_obj rfl 1 (by decide) (hts (.fieldLink RX9 88 "FrontCodedIndexModel" "keySize" "I") (by decide +kernel)) (fun _ h9 => h9) rfl dX9_feed_36 ?_
      refine lv_iload_n hx hb dX9_feed_39 rfl (lv_at hl 1 rfl) ?_
      obtain ⟨hi_i_4, h⟩ := h
      refine fw_iast hx hb hK hF hS (mf_arr had 2 (by decide)) hi_i_4 dX9_feed_40 (fun H locs hF hS => ?_)
      rw [mf_st had 2 (by decide)] at hF
      obtain ⟨g_5, hg_g_5⟩ : ∃ z, z = mup g 2 ((n 1)).toNatClampNeg x1 := ⟨_, rfl⟩
      rw [← hg_g_5] at hF; have h := h g_5 hg_g_5
      refine lv_aload_n hx hb dX9_feed_41 rfl (lv_at hl 0 rfl) ?_
      refine lv_dup hx hb dX9_feed_42 rfl ?_
      refine fw_get (C := RX9) (T := TX9) (N := 34) hx hb hts hin_X9 hown hK hF mf_obj rfl 1 (by decide) (hts (.fieldLink RX9 88 "FrontCodedIndexModel" "keySize" "I") (by decide +kernel)) (fun _ h9 => h9) rfl dX9_feed_43 ?_
      refine lv_iconst (v := (1 : Int32)) hx hb dX9_feed_46 (by decide) ?_
      refine lv_iadd hx hb dX9_feed_47 ?_
      refine fw_put (v := .int ((n 1) + (1 : Int32))) (ty := .int) (C := RX9) (T := TX9) (N := 34) hx hb hts hin_X9 tyX9 tyX9_ok nmX9 hown hK hF hS mf_obj rfl 1 (by decide) (hts (.fieldLink RX9 88 "FrontCodedIndexModel" "keySize" "I") (by decide +kernel)) (fun _ h9 => h9) rfl (by decide +kernel) rfl rfl (show 1 < 34 by decide) dX9_feed_48 (fun H locs hF hS => ?_)
      rw [mf_put 1 ((n 1) + (1 : Int32)) rfl] at hF
      obtain ⟨n_6, hn_n_6⟩ : ∃ z, z = upd n 1 ((n 1) + (1 : Int32)) := ⟨_, rfl⟩
      rw [← hn_n_6] at hF; have h := h n_6 hn_n_6
      refine lv_aload_n hx hb dX9_feed_51 rfl (lv_at hl 0 rfl) ?_
      refine lv_aload_n hx hb dX9_feed_52 rfl (lv_at hl 0 rfl) ?_
      refine fw_get (C := RX9) (T := TX9) (N := 34) hx hb hts hin_X9 hown hK hF mf_obj rfl 1 (by decide) (hts (.fieldLink RX9 88 "FrontCodedIndexModel" "keySize" "I") (by decide +kernel)) (fun _ h9 => h9) rfl dX9_feed_53 ?_
      refine fw_cV_i (As := [.int (n_6 1)]) (rest := []) ⟨hx, hb, hml, hown, hts⟩ (cc_X9_done l G had h) (⟨callB_of 1 hts ggX9_feed_X9_done rfl rfl rfl (hts (.initialized RX9) (by decide +kernel)) (hts (.methodLink RX9 91 yX9_done) (by decide +kernel)) (by decide +kernel) ⟨Nat.le_of_ble_eq_true rfl, Nat.le_of_ble_eq_true rfl⟩, hts (.instanceMethod yX9_done) (by decide +kernel), hts (.selects RX9 yX9_done yX9_done) (by decide +kernel)⟩) rfl mf_obj hK hZ hF hS hA rfl hl.1 rfl (Nat.le_of_ble_eq_true rfl) dX9_feed_56 ⟨Nat.zero_le _, Nat.zero_le _⟩ (fun r_7 f9 H locs h hF hS => ?_)
      obtain ⟨n_9, g_10, rfl, h⟩ := h
      exact W.iret (v := r_7) hx hb hr (fun t ht hW => ⟨⟨r_7, (mf mo ad n_9 g_10), rfl, ⟨_, _, rfl, h⟩, by rw [ht]; exact hF, FK.moved hW.alike hK⟩, hS.F ht⟩) hS.2.2 dX9_feed_59
    · have h := h2 c_3
      refine lv_aload_n hx hb dX9_feed_25 rfl (lv_at hl 0 rfl) ?_
      refine lv_iconst (v := (2 : Int32)) hx hb dX9_feed_26 (by decide) ?_
      refine fw_cV_i (As := [.int (2 : Int32)]) (rest := []) ⟨hx, hb, hml, hown, hts⟩ (cc_X9_fails l G had h) (⟨callB_of 1 hts ggX9_feed_X9_fails rfl rfl rfl (hts (.initialized RX9) (by decide +kernel)) (hts (.methodLink RX9 84 yX9_fails) (by decide +kernel)) (by decide +kernel) ⟨Nat.le_of_ble_eq_true rfl, Nat.le_of_ble_eq_true rfl⟩, hts (.instanceMethod yX9_fails) (by decide +kernel), hts (.selects RX9 yX9_fails yX9_fails) (by decide +kernel)⟩) rfl mf_obj hK hZ hF hS hA rfl hl.1 rfl (Nat.le_of_ble_eq_true rfl) dX9_feed_27 ⟨Nat.zero_le _, Nat.zero_le _⟩ (fun r_11 f9 H locs h hF hS => ?_)
      obtain ⟨n_13, g_14, rfl, h⟩ := h
      exact W.iret (v := r_11) hx hb hr (fun t ht hW => ⟨⟨r_11, (mf mo ad n_13 g_14), rfl, ⟨_, _, rfl, h⟩, by rw [ht]; exact hF, FK.moved hW.alike hK⟩, hS.F ht⟩) hS.2.2 dX9_feed_30
  · have h := h2 c_2
    refine lv_aload_n hx hb dX9_feed_10 rfl (lv_at hl 0 rfl) ?_
    refine lv_iconst (v := (1 : Int32)) hx hb dX9_feed_11 (by decide) ?_
    refine fw_cV_i (As := [.int (1 : Int32)]) (rest := []) ⟨hx, hb, hml, hown, hts⟩ (cc_X9_fails l G had h) (⟨callB_of 1 hts ggX9_feed_X9_fails rfl rfl rfl (hts (.initialized RX9) (by decide +kernel)) (hts (.methodLink RX9 84 yX9_fails) (by decide +kernel)) (by decide +kernel) ⟨Nat.le_of_ble_eq_true rfl, Nat.le_of_ble_eq_true rfl⟩, hts (.instanceMethod yX9_fails) (by decide +kernel), hts (.selects RX9 yX9_fails yX9_fails) (by decide +kernel)⟩) rfl mf_obj hK hZ hF hS hA rfl hl.1 rfl (Nat.le_of_ble_eq_true rfl) dX9_feed_12 ⟨Nat.zero_le _, Nat.zero_le _⟩ (fun r_15 f9 H locs h hF hS => ?_)
    obtain ⟨n_17, g_18, rfl, h⟩ := h
    exact W.iret (v := r_15) hx hb hr (fun t ht hW => ⟨⟨r_15, (mf mo ad n_17 g_18), rfl, ⟨_, _, rfl, h⟩, by rw [ht]; exact hF, FK.moved hW.alike hK⟩, hS.F ht⟩) hS.2.2 dX9_feed_15
theorem dX9_firstOf_0 : decode cX9_firstOf 0 = .ok (.iconst 0, 1) := by decide +kernel
theorem dX9_firstOf_1 : decode cX9_firstOf 1 = .ok (.istore_n 3, 1) := by decide +kernel
theorem dX9_firstOf_2 : decode cX9_firstOf 2 = .ok (.iconst 0, 1) := by decide +kernel
theorem dX9_firstOf_3 : decode cX9_firstOf 3 = .ok (.istore 4, 2) := by decide +kernel
theorem dX9_firstOf_5 : decode cX9_firstOf 5 = .ok (.iload 4, 2) := by decide +kernel
theorem dX9_firstOf_7 : decode cX9_firstOf 7 = .ok (.iload_n 2, 1) := by decide +kernel
theorem dX9_firstOf_8 : decode cX9_firstOf 8 = .ok (.if_icmp .ge 23, 3) := by decide +kernel
theorem dX9_firstOf_11 : decode cX9_firstOf 11 = .ok (.iload_n 3, 1) := by decide +kernel
theorem dX9_firstOf_12 : decode cX9_firstOf 12 = .ok (.aload_n 0, 1) := by decide +kernel
theorem dX9_firstOf_13 : decode cX9_firstOf 13 = .ok (.getfield 35, 3) := by decide +kernel
theorem dX9_firstOf_16 : decode cX9_firstOf 16 = .ok (.iload_n 1, 1) := by decide +kernel
theorem dX9_firstOf_17 : decode cX9_firstOf 17 = .ok (.iload 4, 2) := by decide +kernel
theorem dX9_firstOf_19 : decode cX9_firstOf 19 = .ok (.invokestatic 113, 3) := by decide +kernel
theorem dX9_firstOf_22 : decode cX9_firstOf 22 = .ok (.iaload, 1) := by decide +kernel
theorem dX9_firstOf_23 : decode cX9_firstOf 23 = .ok (.iadd, 1) := by decide +kernel
theorem dX9_firstOf_24 : decode cX9_firstOf 24 = .ok (.istore_n 3, 1) := by decide +kernel
theorem dX9_firstOf_25 : decode cX9_firstOf 25 = .ok (.iinc 4 1, 3) := by decide +kernel
theorem dX9_firstOf_28 : decode cX9_firstOf 28 = .ok (.goto (-23), 3) := by decide +kernel
theorem dX9_firstOf_31 : decode cX9_firstOf 31 = .ok (.iload_n 3, 1) := by decide +kernel
theorem dX9_firstOf_32 : decode cX9_firstOf 32 = .ok (.ireturn, 1) := by decide +kernel
set_option maxRecDepth 20000 in
theorem ggX9_firstOf_X9_at : GoodIn wsX9_firstOf wsX9_at := goodIn_r _ [5] (by decide +kernel) (by decide +kernel)
def wp_X9_firstOf_5 (x1 : Int32) (x2 : Int32) (n : Nat → Int32) (g : Nat → Nat → Int32) (K : Int32 → Prop)  (C5 : Int32 × Int32 → Prop) : Int32 × Int32 → Prop := fun s9 => match s9 with
  | (y3, y4) => ((x2 ≤ y4 → K y3) ∧
 (¬ (x2 ≤ y4) → wp_X9_at x1 y4 n g (fun r_2 => vp_in r_2 (mlen 15) ∧ ∀ v_4 : Int32, v_4 = g 15 (r_2).toNatClampNeg → ∀ v_5 : Int32, v_5 = (y3 + v_4) → ∀ v_7 : Int32, v_7 = y4 + 1 → C5 (v_5, v_7))))
def wp_X9_firstOf (x1 : Int32) (x2 : Int32) (n : Nat → Int32) (g : Nat → Nat → Int32) (K : Int32 → Prop) : Prop :=
  ∃ n_9, loopW (wp_X9_firstOf_5 x1 x2 n g K) n_9 ((0 : Int32), (0 : Int32))
set_option maxHeartbeats 4000000 in
set_option maxRecDepth 100000 in
theorem cc_X9_firstOf (l : Launch) (G : GG) {mo : Nat} {ad : Nat → Nat} (had : MAd mo ad) {n : Nat → Int32} {g : Nat → Nat → Int32} {sz : Nat} {x1 : Int32} {x2 : Int32} {K : Int32 → Prop} (h : wp_X9_firstOf x1 x2 n g K) : Met l yX9_firstOf wsX9_firstOf ({ frames := 1, cells := 0, slots := 0, locals := 21 } : Room) (FP G [.ref mo, .int x1, .int x2] (mf mo ad n g) sz) (va_Qi (fun r f9 => K r ∧ f9 = mf mo ad n g : Int32 → FT → Prop) (FB G (fA (mf mo ad n g) sz)) (fA (mf mo ad n g) sz)) 0 0 (fA (mf mo ad n g) sz) := by
  refine Met.ofW (cc := cX9_firstOf) (maxL := 5) (ret := (some .int)) (by decide) rfl ?_
  intro p e s m args below meth c s₁ B hml hv
  obtain ⟨rfl, hsz, hF, hK, hZ⟩ := hv
  have hx := B.exec
  have hb := B.bytes
  have hr := B.returns
  have hts := atoms_spec (ws := wsX9_firstOf) B.pre
  have hown : s.vm.findClass RX9 = some m.cls := findClass_of_methodNamed B.named
  have hlocks := B.notSynchronized
  subst hsz
  have hF := hF.self (sz := s.heap.size)
  generalize hAe : fA (mf mo ad n g) s.heap.size = A at hF hZ ⊢
  have hA : ∀ q : Nat, s.heap.size ≤ q → A q := fun q h => by rw [← hAe]; exact Or.inr h
  have hS : va_S A s.heap s.heap [] := va_S.rf
  have hin_X9 : ∀ w ∈ wsX90, w ∈ wsX9_firstOf := by decide +kernel
  have L5 : ∀  (j9 : Nat) (y3 : Int32) (y4 : Int32) (H : Heap) (locs : List Loc) (ls : Array Slot), loopW (wp_X9_firstOf_5 x1 x2 n g K ) j9 (y3, y4) → Fw G A (mf mo ad n g) H → va_S A s.heap H locs → lv_has ls 5 [(0, .ref mo), (1, .int x1), (2, .int x2), (3, .int y3), (4, .int y4)] → W p l e ({ frames := 1, cells := 0, slots := 0, locals := 21 } : Room) s m ([.ref mo, .int x1, .int x2] : List Value).toArray below meth c H locs 0 0 (MQ below (va_Qi (fun r f9 => K r ∧ f9 = mf mo ad n g : Int32 → FT → Prop) (FB G A) A) ([.ref mo, .int x1, .int x2] : List Value).toArray s 0 0 A) (F0 m 5 ls []) := by
    intro  j9
    induction j9 with
    | zero => intro y3 y4 H locs ls h; exact h.elim
    | succ j9 ih5 =>
      intro y3 y4 H locs ls h hF hS hl
      have h : wp_X9_firstOf_5 x1 x2 n g K  (loopW (wp_X9_firstOf_5 x1 x2 n g K ) j9) (y3, y4) := h
      generalize loopW (wp_X9_firstOf_5 x1 x2 n g K ) j9 = C5 at ih5 h
      unfold wp_X9_firstOf_5 at h
      refine lv_iload hx hb dX9_firstOf_5 (lv_at hl 4 rfl) ?_
      refine lv_iload_n hx hb dX9_firstOf_7 rfl (lv_at hl 2 rfl) ?_
      obtain ⟨h1, h2⟩ := h
      refine lv_icmp_ge (tgt := 31) hx hb dX9_firstOf_8 (by decide) (fun c_1 => ?_) (fun c_1 => ?_)
      · have h := h1 c_1
        refine lv_iload_n hx hb dX9_firstOf_31 rfl (lv_at hl 3 rfl) ?_
        exact W.iret (v := y3) hx hb hr (fun t ht hW => ⟨⟨y3, (mf mo ad n g), rfl, ⟨h, rfl⟩, by rw [ht]; exact hF, FK.moved hW.alike hK⟩, hS.F ht⟩) hS.2.2 dX9_firstOf_32
      · have h := h2 c_1
        refine lv_iload_n hx hb dX9_firstOf_11 rfl (lv_at hl 3 rfl) ?_
        refine lv_aload_n hx hb dX9_firstOf_12 rfl (lv_at hl 0 rfl) ?_
        refine fw_get (C := RX9) (T := TX9) (N := 34) hx hb hts hin_X9 hown hK hF mf_obj rfl 15 (by decide) (hts (.fieldLink RX9 35 "FrontCodedIndexModel" "parts" "[I") (by decide +kernel)) (fun _ h9 => h9) rfl dX9_firstOf_13 ?_
        refine lv_iload_n hx hb dX9_firstOf_16 rfl (lv_at hl 1 rfl) ?_
        refine lv_iload hx hb dX9_firstOf_17 (lv_at hl 4 rfl) ?_
        refine fw_cS_i_p (As := [.int x1, .int y4]) (rest := [.ref (ad 15), .int y3]) ⟨hx, hb, hml, hown, hts⟩ (cc_X9_at l G had h) (⟨callB_of 2 hts ggX9_firstOf_X9_at rfl rfl rfl (hts (.initialized RX9) (by decide +kernel)) (hts (.methodLink RX9 113 yX9_at) (by decide +kernel)) (by decide +kernel) ⟨Nat.le_of_ble_eq_true rfl, Nat.le_of_ble_eq_true rfl⟩, hts (.static yX9_at) (by decide +kernel)⟩) hK hZ hF hS hA rfl hl.1 rfl (Nat.le_of_ble_eq_true rfl) dX9_firstOf_19 ⟨Nat.zero_le _, Nat.zero_le _⟩ (fun r_2 H locs h hF hS => ?_)
        obtain ⟨hi_i_3, h⟩ := h
        refine fw_iald hx hb hK hF (mf_arr had 15 (by decide)) hi_i_3 dX9_firstOf_22 ?_
        refine lv_topi (fun v_4 e_v_4 => ?_)
        have h := h v_4 e_v_4
        refine lv_iadd hx hb dX9_firstOf_23 ?_
        refine lv_topi (fun v_5 e_6 => ?_)
        have h := h v_5 e_6
        refine lv_istore_n (lv' := [(3, .int v_5), (0, .ref mo), (1, .int x1), (2, .int x2), (4, .int y4)]) hx hb dX9_firstOf_24 rfl hl (by decide) rfl (fun ls hl => ?_)
        obtain ⟨v_7, e_8⟩ : ∃ y : Int32, y = y4 + 1 := ⟨_, rfl⟩
        have h := h v_7 e_8
        refine lv_iinc (v := v_7) (lv' := [(4, .int v_7), (3, .int v_5), (0, .ref mo), (1, .int x1), (2, .int x2)]) hx hb dX9_firstOf_25 hl (k := 4) rfl (by rw [e_8]; rfl) (by decide) rfl (fun ls hl => ?_)
        refine lv_goto (tgt := 5) hx hb dX9_firstOf_28 (by decide) ?_
        exact ih5 v_5 v_7 _ _ _ h hF hS (lv_sub hl [2, 3, 4, 1, 0] rfl)
  have hl := lv_entry ([.ref mo, .int x1, .int x2]) (n := 5) (Nat.le_of_ble_eq_true rfl)
  rw [lg_entry_eq]
  generalize (lg_sl ([.ref mo, .int x1, .int x2]) ++ List.replicate (5 - (lg_sl ([.ref mo, .int x1, .int x2])).length) Slot.unset).toArray = ls at hl ⊢
  have hl : lv_has ls 5 [(0, .ref mo), (1, .int x1), (2, .int x2)] := hl
  unfold wp_X9_firstOf at h
  refine lv_iconst (v := (0 : Int32)) hx hb dX9_firstOf_0 (by decide) ?_
  refine lv_istore_n (lv' := [(3, .int (0 : Int32)), (0, .ref mo), (1, .int x1), (2, .int x2)]) hx hb dX9_firstOf_1 rfl hl (by decide) rfl (fun ls hl => ?_)
  refine lv_iconst (v := (0 : Int32)) hx hb dX9_firstOf_2 (by decide) ?_
  refine lv_istore (lv' := [(4, .int (0 : Int32)), (3, .int (0 : Int32)), (0, .ref mo), (1, .int x1), (2, .int x2)]) hx hb dX9_firstOf_3 hl (by decide) rfl (fun ls hl => ?_)
  obtain ⟨n_9, h⟩ := h
  exact L5 n_9 (0 : Int32) (0 : Int32) _ _ _ h hF hS (lv_sub hl [2, 3, 4, 1, 0] rfl)
theorem dX9_less_0 : decode cX9_less 0 = .ok (.iconst 0, 1) := by decide +kernel
theorem dX9_less_1 : decode cX9_less 1 = .ok (.istore_n 3, 1) := by decide +kernel
theorem dX9_less_2 : decode cX9_less 2 = .ok (.iload_n 3, 1) := by decide +kernel
theorem dX9_less_3 : decode cX9_less 3 = .ok (.aload_n 0, 1) := by decide +kernel
theorem dX9_less_4 : decode cX9_less 4 = .ok (.getfield 106, 3) := by decide +kernel
theorem dX9_less_7 : decode cX9_less 7 = .ok (.if_icmp .ge 19, 3) := by decide +kernel
theorem dX9_less_10 : decode cX9_less 10 = .ok (.aload_n 0, 1) := by decide +kernel
theorem dX9_less_11 : decode cX9_less 11 = .ok (.iload_n 3, 1) := by decide +kernel
theorem dX9_less_12 : decode cX9_less 12 = .ok (.aload_n 1, 1) := by decide +kernel
theorem dX9_less_13 : decode cX9_less 13 = .ok (.iload_n 2, 1) := by decide +kernel
theorem dX9_less_14 : decode cX9_less 14 = .ok (.invokevirtual 109, 3) := by decide +kernel
theorem dX9_less_17 : decode cX9_less 17 = .ok (.ifCond .ge 9, 3) := by decide +kernel
theorem dX9_less_20 : decode cX9_less 20 = .ok (.iinc 3 1, 3) := by decide +kernel
theorem dX9_less_23 : decode cX9_less 23 = .ok (.goto (-21), 3) := by decide +kernel
theorem dX9_less_26 : decode cX9_less 26 = .ok (.iload_n 3, 1) := by decide +kernel
theorem dX9_less_27 : decode cX9_less 27 = .ok (.ireturn, 1) := by decide +kernel
set_option maxRecDepth 20000 in
theorem ggX9_less_X9_against : GoodIn wsX9_less wsX9_against := goodIn_r _ [6, 7, 8, 9, 10, 5, 11, 12, 13, 14, 15, 16, 17, 18, 19, 20, 21, 22, 23, 24, 25, 26, 27, 28, 29, 30, 31, 32, 33, 34, 35, 36, 37, 38, 39, 40, 41, 42, 43, 44, 45, 46, 47, 48] (by decide +kernel) (by decide +kernel)
def wp_X9_less_2 (k1 : Nat) (x2 : Int32) (n : Nat → Int32) (g : Nat → Nat → Int32) (K : Int32 → Prop)  (C2 : Int32 → Prop) : Int32 → Prop := fun s9 => match s9 with
  | y3 => (((n 9) ≤ y3 → K y3) ∧
 (¬ ((n 9) ≤ y3) → wp_X9_against y3 k1 x2 n g (fun r_2 => (((0 : Int32) ≤ r_2 → K y3) ∧
 (¬ ((0 : Int32) ≤ r_2) → ∀ v_4 : Int32, v_4 = y3 + 1 → C2 v_4)))))
def wp_X9_less (k1 : Nat) (x2 : Int32) (n : Nat → Int32) (g : Nat → Nat → Int32) (K : Int32 → Prop) : Prop :=
  ∃ n_6, loopW (wp_X9_less_2 k1 x2 n g K) n_6 (0 : Int32)
set_option maxHeartbeats 4000000 in
set_option maxRecDepth 100000 in
theorem cc_X9_less (l : Launch) (G : GG) {mo : Nat} {ad : Nat → Nat} (had : MAd mo ad) {n : Nat → Int32} {g : Nat → Nat → Int32} {sz : Nat} {k1 : Nat} {x2 : Int32} {K : Int32 → Prop} (h : wp_X9_less k1 x2 n g K) : Met l yX9_less wsX9_less ({ frames := 3, cells := 0, slots := 0, locals := 75 } : Room) (FP G [.ref mo, .ref (ad k1), .int x2] (mf mo ad n g) sz) (va_Qi (fun r f9 => K r ∧ f9 = mf mo ad n g : Int32 → FT → Prop) (FB G (fA (mf mo ad n g) sz)) (fA (mf mo ad n g) sz)) 0 0 (fA (mf mo ad n g) sz) := by
  refine Met.ofW (cc := cX9_less) (maxL := 4) (ret := (some .int)) (by decide) rfl ?_
  intro p e s m args below meth c s₁ B hml hv
  obtain ⟨rfl, hsz, hF, hK, hZ⟩ := hv
  have hx := B.exec
  have hb := B.bytes
  have hr := B.returns
  have hts := atoms_spec (ws := wsX9_less) B.pre
  have hown : s.vm.findClass RX9 = some m.cls := findClass_of_methodNamed B.named
  have hlocks := B.notSynchronized
  subst hsz
  have hF := hF.self (sz := s.heap.size)
  generalize hAe : fA (mf mo ad n g) s.heap.size = A at hF hZ ⊢
  have hA : ∀ q : Nat, s.heap.size ≤ q → A q := fun q h => by rw [← hAe]; exact Or.inr h
  have hS : va_S A s.heap s.heap [] := va_S.rf
  have hin_X9 : ∀ w ∈ wsX90, w ∈ wsX9_less := by decide +kernel
  have L2 : ∀  (j9 : Nat) (y3 : Int32) (H : Heap) (locs : List Loc) (ls : Array Slot), loopW (wp_X9_less_2 k1 x2 n g K ) j9 y3 → Fw G A (mf mo ad n g) H → va_S A s.heap H locs → lv_has ls 4 [(0, .ref mo), (1, .ref (ad k1)), (2, .int x2), (3, .int y3)] → W p l e ({ frames := 3, cells := 0, slots := 0, locals := 75 } : Room) s m ([.ref mo, .ref (ad k1), .int x2] : List Value).toArray below meth c H locs 0 0 (MQ below (va_Qi (fun r f9 => K r ∧ f9 = mf mo ad n g : Int32 → FT → Prop) (FB G A) A) ([.ref mo, .ref (ad k1), .int x2] : List Value).toArray s 0 0 A) (F0 m 2 ls []) := by
    intro  j9
    induction j9 with
    | zero => intro y3 H locs ls h; exact h.elim
    | succ j9 ih2 =>
      intro y3 H locs ls h hF hS hl
      have h : wp_X9_less_2 k1 x2 n g K  (loopW (wp_X9_less_2 k1 x2 n g K ) j9) y3 := h
      generalize loopW (wp_X9_less_2 k1 x2 n g K ) j9 = C2 at ih2 h
      unfold wp_X9_less_2 at h
      refine lv_iload_n hx hb dX9_less_2 rfl (lv_at hl 3 rfl) ?_
      refine lv_aload_n hx hb dX9_less_3 rfl (lv_at hl 0 rfl) ?_
      refine fw_get (C := RX9) (T := TX9) (N := 34) hx hb hts hin_X9 hown hK hF mf_obj rfl 9 (by decide) (hts (.fieldLink RX9 106 "FrontCodedIndexModel" "entries" "I") (by decide +kernel)) (fun _ h9 => h9) rfl dX9_less_4 ?_
      obtain ⟨h1, h2⟩ := h
      refine lv_icmp_ge (tgt := 26) hx hb dX9_less_7 (by decide) (fun c_1 => ?_) (fun c_1 => ?_)
      · have h := h1 c_1
        refine lv_iload_n hx hb dX9_less_26 rfl (lv_at hl 3 rfl) ?_
        exact W.iret (v := y3) hx hb hr (fun t ht hW => ⟨⟨y3, (mf mo ad n g), rfl, ⟨h, rfl⟩, by rw [ht]; exact hF, FK.moved hW.alike hK⟩, hS.F ht⟩) hS.2.2 dX9_less_27
      · have h := h2 c_1
        refine lv_aload_n hx hb dX9_less_10 rfl (lv_at hl 0 rfl) ?_
        refine lv_iload_n hx hb dX9_less_11 rfl (lv_at hl 3 rfl) ?_
        refine lv_aload_n hx hb dX9_less_12 rfl (lv_at hl 1 rfl) ?_
        refine lv_iload_n hx hb dX9_less_13 rfl (lv_at hl 2 rfl) ?_
        refine fw_cV_i_p (As := [.int y3, .ref (ad k1), .int x2]) (rest := []) ⟨hx, hb, hml, hown, hts⟩ (cc_X9_against l G had h) (⟨callB_of 3 hts ggX9_less_X9_against rfl rfl rfl (hts (.initialized RX9) (by decide +kernel)) (hts (.methodLink RX9 109 yX9_against) (by decide +kernel)) (by decide +kernel) ⟨Nat.le_of_ble_eq_true rfl, Nat.le_of_ble_eq_true rfl⟩, hts (.instanceMethod yX9_against) (by decide +kernel), hts (.selects RX9 yX9_against yX9_against) (by decide +kernel)⟩) rfl mf_obj hK hZ hF hS hA rfl hl.1 rfl (Nat.le_of_ble_eq_true rfl) dX9_less_14 ⟨Nat.zero_le _, Nat.zero_le _⟩ (fun r_2 H locs h hF hS => ?_)
        obtain ⟨h1, h2⟩ := h
        refine lv_if_ge (tgt := 26) hx hb dX9_less_17 (by decide) (fun c_3 => ?_) (fun c_3 => ?_)
        · have h := h1 c_3
          refine lv_iload_n hx hb dX9_less_26 rfl (lv_at hl 3 rfl) ?_
          exact W.iret (v := y3) hx hb hr (fun t ht hW => ⟨⟨y3, (mf mo ad n g), rfl, ⟨h, rfl⟩, by rw [ht]; exact hF, FK.moved hW.alike hK⟩, hS.F ht⟩) hS.2.2 dX9_less_27
        · have h := h2 c_3
          obtain ⟨v_4, e_5⟩ : ∃ y : Int32, y = y3 + 1 := ⟨_, rfl⟩
          have h := h v_4 e_5
          refine lv_iinc (v := v_4) (lv' := [(3, .int v_4), (0, .ref mo), (1, .ref (ad k1)), (2, .int x2)]) hx hb dX9_less_20 hl (k := 3) rfl (by rw [e_5]; rfl) (by decide) rfl (fun ls hl => ?_)
          refine lv_goto (tgt := 2) hx hb dX9_less_23 (by decide) ?_
          exact ih2 v_4 _ _ _ h hF hS (lv_sub hl [1, 2, 3, 0] rfl)
  have hl := lv_entry ([.ref mo, .ref (ad k1), .int x2]) (n := 4) (Nat.le_of_ble_eq_true rfl)
  rw [lg_entry_eq]
  generalize (lg_sl ([.ref mo, .ref (ad k1), .int x2]) ++ List.replicate (4 - (lg_sl ([.ref mo, .ref (ad k1), .int x2])).length) Slot.unset).toArray = ls at hl ⊢
  have hl : lv_has ls 4 [(0, .ref mo), (1, .ref (ad k1)), (2, .int x2)] := hl
  unfold wp_X9_less at h
  refine lv_iconst (v := (0 : Int32)) hx hb dX9_less_0 (by decide) ?_
  refine lv_istore_n (lv' := [(3, .int (0 : Int32)), (0, .ref mo), (1, .ref (ad k1)), (2, .int x2)]) hx hb dX9_less_1 rfl hl (by decide) rfl (fun ls hl => ?_)
  obtain ⟨n_6, h⟩ := h
  exact L2 n_6 (0 : Int32) _ _ _ h hF hS (lv_sub hl [1, 2, 3, 0] rfl)
theorem dX9_isThere_0 : decode cX9_isThere 0 = .ok (.iload_n 1, 1) := by decide +kernel
theorem dX9_isThere_1 : decode cX9_isThere 1 = .ok (.aload_n 0, 1) := by decide +kernel
theorem dX9_isThere_2 : decode cX9_isThere 2 = .ok (.getfield 106, 3) := by decide +kernel
theorem dX9_isThere_5 : decode cX9_isThere 5 = .ok (.if_icmp .ge 23, 3) := by decide +kernel
theorem dX9_isThere_8 : decode cX9_isThere 8 = .ok (.aload_n 0, 1) := by decide +kernel
theorem dX9_isThere_9 : decode cX9_isThere 9 = .ok (.iload_n 1, 1) := by decide +kernel
theorem dX9_isThere_10 : decode cX9_isThere 10 = .ok (.aload_n 0, 1) := by decide +kernel
theorem dX9_isThere_11 : decode cX9_isThere 11 = .ok (.getfield 7, 3) := by decide +kernel
theorem dX9_isThere_14 : decode cX9_isThere 14 = .ok (.aload_n 0, 1) := by decide +kernel
theorem dX9_isThere_15 : decode cX9_isThere 15 = .ok (.getfield 88, 3) := by decide +kernel
theorem dX9_isThere_18 : decode cX9_isThere 18 = .ok (.invokevirtual 109, 3) := by decide +kernel
theorem dX9_isThere_21 : decode cX9_isThere 21 = .ok (.ifCond .ne 7, 3) := by decide +kernel
theorem dX9_isThere_24 : decode cX9_isThere 24 = .ok (.iconst 1, 1) := by decide +kernel
theorem dX9_isThere_25 : decode cX9_isThere 25 = .ok (.goto 4, 3) := by decide +kernel
theorem dX9_isThere_28 : decode cX9_isThere 28 = .ok (.iconst 0, 1) := by decide +kernel
theorem dX9_isThere_29 : decode cX9_isThere 29 = .ok (.ireturn, 1) := by decide +kernel
set_option maxRecDepth 20000 in
theorem ggX9_isThere_X9_against : GoodIn wsX9_isThere wsX9_against := goodIn_r _ [8, 9, 10, 11, 12, 7, 13, 14, 15, 16, 17, 18, 19, 20, 21, 22, 23, 24, 25, 26, 27, 28, 29, 30, 31, 32, 33, 34, 35, 36, 37, 38, 39, 40, 41, 42, 43, 44, 45, 46, 47, 48, 49, 50] (by decide +kernel) (by decide +kernel)
def wp_X9_isThere (x1 : Int32) (n : Nat → Int32) (g : Nat → Nat → Int32) (K : Int32 → Prop) : Prop :=
  (((n 9) ≤ x1 → K (0 : Int32)) ∧
 (¬ ((n 9) ≤ x1) → wp_X9_against x1 2 (n 1) n g (fun r_2 => ((¬ r_2 = (0 : Int32) → K (0 : Int32)) ∧
 (r_2 = (0 : Int32) → K (1 : Int32))))))
set_option maxHeartbeats 4000000 in
set_option maxRecDepth 100000 in
theorem cc_X9_isThere (l : Launch) (G : GG) {mo : Nat} {ad : Nat → Nat} (had : MAd mo ad) {n : Nat → Int32} {g : Nat → Nat → Int32} {sz : Nat} {x1 : Int32} {K : Int32 → Prop} (h : wp_X9_isThere x1 n g K) : Met l yX9_isThere wsX9_isThere ({ frames := 3, cells := 0, slots := 0, locals := 75 } : Room) (FP G [.ref mo, .int x1] (mf mo ad n g) sz) (va_Qi (fun r f9 => K r ∧ f9 = mf mo ad n g : Int32 → FT → Prop) (FB G (fA (mf mo ad n g) sz)) (fA (mf mo ad n g) sz)) 0 0 (fA (mf mo ad n g) sz) := by
  refine Met.ofW (cc := cX9_isThere) (maxL := 2) (ret := (some .boolean)) (by decide) rfl ?_
  intro p e s m args below meth c s₁ B hml hv
  obtain ⟨rfl, hsz, hF, hK, hZ⟩ := hv
  have hx := B.exec
  have hb := B.bytes
  have hr := B.returns
  have hts := atoms_spec (ws := wsX9_isThere) B.pre
  have hown : s.vm.findClass RX9 = some m.cls := findClass_of_methodNamed B.named
  have hlocks := B.notSynchronized
  subst hsz
  have hF := hF.self (sz := s.heap.size)
  generalize hAe : fA (mf mo ad n g) s.heap.size = A at hF hZ ⊢
  have hA : ∀ q : Nat, s.heap.size ≤ q → A q := fun q h => by rw [← hAe]; exact Or.inr h
  have hS : va_S A s.heap s.heap [] := va_S.rf
  have hin_X9 : ∀ w ∈ wsX90, w ∈ wsX9_isThere := by decide +kernel
  have hl := lv_entry ([.ref mo, .int x1]) (n := 2) (Nat.le_of_ble_eq_true rfl)
  rw [lg_entry_eq]
  generalize (lg_sl ([.ref mo, .int x1]) ++ List.replicate (2 - (lg_sl ([.ref mo, .int x1])).length) Slot.unset).toArray = ls at hl ⊢
  have hl : lv_has ls 2 [(0, .ref mo), (1, .int x1)] := hl
  unfold wp_X9_isThere at h
  refine lv_iload_n hx hb dX9_isThere_0 rfl (lv_at hl 1 rfl) ?_
  refine lv_aload_n hx hb dX9_isThere_1 rfl (lv_at hl 0 rfl) ?_
  refine fw_get (C := RX9) (T := TX9) (N := 34) hx hb hts hin_X9 hown hK hF mf_obj rfl 9 (by decide) (hts (.fieldLink RX9 106 "FrontCodedIndexModel" "entries" "I") (by decide +kernel)) (fun _ h9 => h9) rfl dX9_isThere_2 ?_
  obtain ⟨h1, h2⟩ := h
  refine lv_icmp_ge (tgt := 28) hx hb dX9_isThere_5 (by decide) (fun c_1 => ?_) (fun c_1 => ?_)
  · have h := h1 c_1
    refine lv_iconst (v := (0 : Int32)) hx hb dX9_isThere_28 (by decide) ?_
    exact W.zret (v := (0 : Int32)) hx hb hr (by decide) (fun t ht hW => ⟨⟨(0 : Int32), (mf mo ad n g), rfl, ⟨h, rfl⟩, by rw [ht]; exact hF, FK.moved hW.alike hK⟩, hS.F ht⟩) hS.2.2 dX9_isThere_29
  · have h := h2 c_1
    refine lv_aload_n hx hb dX9_isThere_8 rfl (lv_at hl 0 rfl) ?_
    refine lv_iload_n hx hb dX9_isThere_9 rfl (lv_at hl 1 rfl) ?_
    refine lv_aload_n hx hb dX9_isThere_10 rfl (lv_at hl 0 rfl) ?_
    refine fw_get (C := RX9) (T := TX9) (N := 34) hx hb hts hin_X9 hown hK hF mf_obj rfl 2 (by decide) (hts (.fieldLink RX9 7 "FrontCodedIndexModel" "key" "[I") (by decide +kernel)) (fun _ h9 => h9) rfl dX9_isThere_11 ?_
    refine lv_aload_n hx hb dX9_isThere_14 rfl (lv_at hl 0 rfl) ?_
    refine fw_get (C := RX9) (T := TX9) (N := 34) hx hb hts hin_X9 hown hK hF mf_obj rfl 1 (by decide) (hts (.fieldLink RX9 88 "FrontCodedIndexModel" "keySize" "I") (by decide +kernel)) (fun _ h9 => h9) rfl dX9_isThere_15 ?_
    refine fw_cV_i_p (As := [.int x1, .ref (ad 2), .int (n 1)]) (rest := []) ⟨hx, hb, hml, hown, hts⟩ (cc_X9_against l G had h) (⟨callB_of 3 hts ggX9_isThere_X9_against rfl rfl rfl (hts (.initialized RX9) (by decide +kernel)) (hts (.methodLink RX9 109 yX9_against) (by decide +kernel)) (by decide +kernel) ⟨Nat.le_of_ble_eq_true rfl, Nat.le_of_ble_eq_true rfl⟩, hts (.instanceMethod yX9_against) (by decide +kernel), hts (.selects RX9 yX9_against yX9_against) (by decide +kernel)⟩) rfl mf_obj hK hZ hF hS hA rfl hl.1 rfl (Nat.le_of_ble_eq_true rfl) dX9_isThere_18 ⟨Nat.zero_le _, Nat.zero_le _⟩ (fun r_2 H locs h hF hS => ?_)
    obtain ⟨h1, h2⟩ := h
    refine lv_if_ne (tgt := 28) hx hb dX9_isThere_21 (by decide) (fun c_3 => ?_) (fun c_3 => ?_)
    · have h := h1 c_3
      refine lv_iconst (v := (0 : Int32)) hx hb dX9_isThere_28 (by decide) ?_
      exact W.zret (v := (0 : Int32)) hx hb hr (by decide) (fun t ht hW => ⟨⟨(0 : Int32), (mf mo ad n g), rfl, ⟨h, rfl⟩, by rw [ht]; exact hF, FK.moved hW.alike hK⟩, hS.F ht⟩) hS.2.2 dX9_isThere_29
    · have h := h2 c_3
      refine lv_iconst (v := (1 : Int32)) hx hb dX9_isThere_24 (by decide) ?_
      refine lv_goto (tgt := 29) hx hb dX9_isThere_25 (by decide) ?_
      exact W.zret (v := (1 : Int32)) hx hb hr (by decide) (fun t ht hW => ⟨⟨(1 : Int32), (mf mo ad n g), rfl, ⟨h, rfl⟩, by rw [ht]; exact hF, FK.moved hW.alike hK⟩, hS.F ht⟩) hS.2.2 dX9_isThere_29
theorem dX9_floor_0 : decode cX9_floor 0 = .ok (.aload_n 0, 1) := by decide +kernel
theorem dX9_floor_1 : decode cX9_floor 1 = .ok (.aload_n 0, 1) := by decide +kernel
theorem dX9_floor_2 : decode cX9_floor 2 = .ok (.getfield 7, 3) := by decide +kernel
theorem dX9_floor_5 : decode cX9_floor 5 = .ok (.aload_n 0, 1) := by decide +kernel
theorem dX9_floor_6 : decode cX9_floor 6 = .ok (.getfield 88, 3) := by decide +kernel
theorem dX9_floor_9 : decode cX9_floor 9 = .ok (.invokevirtual 171, 3) := by decide +kernel
theorem dX9_floor_12 : decode cX9_floor 12 = .ok (.istore_n 1, 1) := by decide +kernel
theorem dX9_floor_13 : decode cX9_floor 13 = .ok (.aload_n 0, 1) := by decide +kernel
theorem dX9_floor_14 : decode cX9_floor 14 = .ok (.iload_n 1, 1) := by decide +kernel
theorem dX9_floor_15 : decode cX9_floor 15 = .ok (.invokevirtual 175, 3) := by decide +kernel
theorem dX9_floor_18 : decode cX9_floor 18 = .ok (.ifCond .eq 7, 3) := by decide +kernel
theorem dX9_floor_21 : decode cX9_floor 21 = .ok (.iload_n 1, 1) := by decide +kernel
theorem dX9_floor_22 : decode cX9_floor 22 = .ok (.goto 6, 3) := by decide +kernel
theorem dX9_floor_25 : decode cX9_floor 25 = .ok (.iload_n 1, 1) := by decide +kernel
theorem dX9_floor_26 : decode cX9_floor 26 = .ok (.iconst 1, 1) := by decide +kernel
theorem dX9_floor_27 : decode cX9_floor 27 = .ok (.isub, 1) := by decide +kernel
theorem dX9_floor_28 : decode cX9_floor 28 = .ok (.istore_n 2, 1) := by decide +kernel
theorem dX9_floor_29 : decode cX9_floor 29 = .ok (.iload_n 2, 1) := by decide +kernel
theorem dX9_floor_30 : decode cX9_floor 30 = .ok (.ifCond .ge 11, 3) := by decide +kernel
theorem dX9_floor_33 : decode cX9_floor 33 = .ok (.aload_n 0, 1) := by decide +kernel
theorem dX9_floor_34 : decode cX9_floor 34 = .ok (.iconst 1, 1) := by decide +kernel
theorem dX9_floor_35 : decode cX9_floor 35 = .ok (.invokevirtual 84, 3) := by decide +kernel
theorem dX9_floor_38 : decode cX9_floor 38 = .ok (.goto 8, 3) := by decide +kernel
theorem dX9_floor_41 : decode cX9_floor 41 = .ok (.aload_n 0, 1) := by decide +kernel
theorem dX9_floor_42 : decode cX9_floor 42 = .ok (.iload_n 2, 1) := by decide +kernel
theorem dX9_floor_43 : decode cX9_floor 43 = .ok (.invokevirtual 207, 3) := by decide +kernel
theorem dX9_floor_46 : decode cX9_floor 46 = .ok (.ireturn, 1) := by decide +kernel
set_option maxRecDepth 20000 in
theorem ggX9_floor_X9_fails : GoodIn wsX9_floor wsX9_fails := goodIn_r _ [28, 29, 39, 40, 41, 42, 43, 44, 45, 46, 47, 48, 49, 50, 51, 52, 53, 54, 55, 56, 57, 58, 59, 60, 61, 62, 63, 64, 65, 66, 67, 68, 69, 70, 71, 72] (by decide +kernel) (by decide +kernel)
set_option maxRecDepth 20000 in
theorem ggX9_floor_X9_isThere : GoodIn wsX9_floor wsX9_isThere := goodIn_r _ [24, 8, 1, 2, 9, 10, 11, 6, 12, 13, 14, 15, 16, 17, 18, 19, 20, 39, 40, 41, 42, 43, 44, 45, 46, 47, 48, 49, 50, 51, 52, 53, 54, 55, 56, 57, 58, 59, 60, 61, 62, 63, 64, 65, 66, 67, 68, 69, 70, 71, 72] (by decide +kernel) (by decide +kernel)
set_option maxRecDepth 20000 in
theorem ggX9_floor_X9_keyIs : GoodIn wsX9_floor wsX9_keyIs := goodIn_r _ [33, 14, 2, 1, 13, 34, 35, 36, 37, 6, 38, 29, 39, 40, 41, 42, 43, 44, 45, 46, 47, 48, 49, 50, 51, 52, 53, 54, 55, 56, 57, 58, 59, 60, 61, 62, 63, 64, 65, 66, 67, 68, 69, 70, 71, 72] (by decide +kernel) (by decide +kernel)
set_option maxRecDepth 20000 in
theorem ggX9_floor_X9_less : GoodIn wsX9_floor wsX9_less := goodIn_r _ [7, 8, 9, 10, 11, 6, 12, 13, 14, 15, 16, 17, 18, 19, 20, 39, 40, 41, 42, 43, 44, 45, 46, 47, 48, 49, 50, 51, 52, 53, 54, 55, 56, 57, 58, 59, 60, 61, 62, 63, 64, 65, 66, 67, 68, 69, 70, 71, 72] (by decide +kernel) (by decide +kernel)
def wp_X9_floor_28  (z0 : Int32) (n : Nat → Int32) (g : Nat → Nat → Int32) (K : Int32 → (Nat → Int32) → (Nat → Nat → Int32) → Prop)  : Prop :=
  (((0 : Int32) ≤ z0 → wp_X9_keyIs z0 n g (fun r_2 n_4 g_5 => K r_2 n_4 g_5)) ∧
 (¬ ((0 : Int32) ≤ z0) → wp_X9_fails (1 : Int32) n g (fun r_6 n_8 g_9 => K r_6 n_8 g_9)))
def wp_X9_floor  (n : Nat → Int32) (g : Nat → Nat → Int32) (K : Int32 → (Nat → Int32) → (Nat → Nat → Int32) → Prop) : Prop :=
  wp_X9_less 2 (n 1) n g (fun r_10 => wp_X9_isThere r_10 n g (fun r_11 => ((r_11 = (0 : Int32) → wp_X9_floor_28 (r_10 - (1 : Int32)) n g K) ∧
 (¬ (r_11 = (0 : Int32)) → wp_X9_floor_28 r_10 n g K))))
set_option maxHeartbeats 4000000 in
set_option maxRecDepth 100000 in
theorem cc_X9_floor (l : Launch) (G : GG) {mo : Nat} {ad : Nat → Nat} (had : MAd mo ad) {n : Nat → Int32} {g : Nat → Nat → Int32} {sz : Nat}  {K : Int32 → (Nat → Int32) → (Nat → Nat → Int32) → Prop} (h : wp_X9_floor  n g K) : Met l yX9_floor wsX9_floor ({ frames := 4, cells := 0, slots := 0, locals := 98 } : Room) (FP G [.ref mo] (mf mo ad n g) sz) (va_Qi (fun r f9 => ∃ n9 g9, f9 = mf mo ad n9 g9 ∧ K r n9 g9 : Int32 → FT → Prop) (FB G (fA (mf mo ad n g) sz)) (fA (mf mo ad n g) sz)) 0 0 (fA (mf mo ad n g) sz) := by
  refine Met.ofW (cc := cX9_floor) (maxL := 3) (ret := (some .int)) (by decide) rfl ?_
  intro p e s m args below meth c s₁ B hml hv
  obtain ⟨rfl, hsz, hF, hK, hZ⟩ := hv
  have hx := B.exec
  have hb := B.bytes
  have hr := B.returns
  have hts := atoms_spec (ws := wsX9_floor) B.pre
  have hown : s.vm.findClass RX9 = some m.cls := findClass_of_methodNamed B.named
  have hlocks := B.notSynchronized
  subst hsz
  have hF := hF.self (sz := s.heap.size)
  generalize hAe : fA (mf mo ad n g) s.heap.size = A at hF hZ ⊢
  have hA : ∀ q : Nat, s.heap.size ≤ q → A q := fun q h => by rw [← hAe]; exact Or.inr h
  have hS : va_S A s.heap s.heap [] := va_S.rf
  have hin_X9 : ∀ w ∈ wsX90, w ∈ wsX9_floor := by decide +kernel
  have J28 : ∀ (z0 : Int32) (n : Nat → Int32) (g : Nat → Nat → Int32) (H : Heap) (locs : List Loc) (ls : Array Slot), wp_X9_floor_28 z0 n g K  → Fw G A (mf mo ad n g) H → va_S A s.heap H locs → lv_has ls 3 [(0, .ref mo)] → W p l e ({ frames := 4, cells := 0, slots := 0, locals := 98 } : Room) s m ([.ref mo] : List Value).toArray below meth c H locs 0 0 (MQ below (va_Qi (fun r f9 => ∃ n9 g9, f9 = mf mo ad n9 g9 ∧ K r n9 g9 : Int32 → FT → Prop) (FB G A) A) ([.ref mo] : List Value).toArray s 0 0 A) (F0 m 28 ls [.int z0]) := by
    intro z0 n g H locs ls h hF hS hl
    unfold wp_X9_floor_28 at h
    refine lv_istore_n (lv' := [(2, .int z0), (0, .ref mo)]) hx hb dX9_floor_28 rfl hl (by decide) rfl (fun ls hl => ?_)
    refine lv_iload_n hx hb dX9_floor_29 rfl (lv_at hl 0 rfl) ?_
    obtain ⟨h1, h2⟩ := h
    refine lv_if_ge (tgt := 41) hx hb dX9_floor_30 (by decide) (fun c_1 => ?_) (fun c_1 => ?_)
    · have h := h1 c_1
      refine lv_aload_n hx hb dX9_floor_41 rfl (lv_at hl 1 rfl) ?_
      refine lv_iload_n hx hb dX9_floor_42 rfl (lv_at hl 0 rfl) ?_
      refine fw_cV_i (As := [.int z0]) (rest := []) ⟨hx, hb, hml, hown, hts⟩ (cc_X9_keyIs l G had h) (⟨callB_of 1 hts ggX9_floor_X9_keyIs rfl rfl rfl (hts (.initialized RX9) (by decide +kernel)) (hts (.methodLink RX9 207 yX9_keyIs) (by decide +kernel)) (by decide +kernel) ⟨Nat.le_of_ble_eq_true rfl, Nat.le_of_ble_eq_true rfl⟩, hts (.instanceMethod yX9_keyIs) (by decide +kernel), hts (.selects RX9 yX9_keyIs yX9_keyIs) (by decide +kernel)⟩) rfl mf_obj hK hZ hF hS hA rfl hl.1 rfl (Nat.le_of_ble_eq_true rfl) dX9_floor_43 ⟨Nat.zero_le _, Nat.zero_le _⟩ (fun r_2 f9 H locs h hF hS => ?_)
      obtain ⟨n_4, g_5, rfl, h⟩ := h
      exact W.iret (v := r_2) hx hb hr (fun t ht hW => ⟨⟨r_2, (mf mo ad n_4 g_5), rfl, ⟨_, _, rfl, h⟩, by rw [ht]; exact hF, FK.moved hW.alike hK⟩, hS.F ht⟩) hS.2.2 dX9_floor_46
    · have h := h2 c_1
      refine lv_aload_n hx hb dX9_floor_33 rfl (lv_at hl 1 rfl) ?_
      refine lv_iconst (v := (1 : Int32)) hx hb dX9_floor_34 (by decide) ?_
      refine fw_cV_i (As := [.int (1 : Int32)]) (rest := []) ⟨hx, hb, hml, hown, hts⟩ (cc_X9_fails l G had h) (⟨callB_of 1 hts ggX9_floor_X9_fails rfl rfl rfl (hts (.initialized RX9) (by decide +kernel)) (hts (.methodLink RX9 84 yX9_fails) (by decide +kernel)) (by decide +kernel) ⟨Nat.le_of_ble_eq_true rfl, Nat.le_of_ble_eq_true rfl⟩, hts (.instanceMethod yX9_fails) (by decide +kernel), hts (.selects RX9 yX9_fails yX9_fails) (by decide +kernel)⟩) rfl mf_obj hK hZ hF hS hA rfl hl.1 rfl (Nat.le_of_ble_eq_true rfl) dX9_floor_35 ⟨Nat.zero_le _, Nat.zero_le _⟩ (fun r_6 f9 H locs h hF hS => ?_)
      obtain ⟨n_8, g_9, rfl, h⟩ := h
      refine lv_goto (tgt := 46) hx hb dX9_floor_38 (by decide) ?_
      exact W.iret (v := r_6) hx hb hr (fun t ht hW => ⟨⟨r_6, (mf mo ad n_8 g_9), rfl, ⟨_, _, rfl, h⟩, by rw [ht]; exact hF, FK.moved hW.alike hK⟩, hS.F ht⟩) hS.2.2 dX9_floor_46
  have hl := lv_entry ([.ref mo]) (n := 3) (Nat.le_of_ble_eq_true rfl)
  rw [lg_entry_eq]
  generalize (lg_sl ([.ref mo]) ++ List.replicate (3 - (lg_sl ([.ref mo])).length) Slot.unset).toArray = ls at hl ⊢
  have hl : lv_has ls 3 [(0, .ref mo)] := hl
  unfold wp_X9_floor at h
  refine lv_aload_n hx hb dX9_floor_0 rfl (lv_at hl 0 rfl) ?_
  refine lv_aload_n hx hb dX9_floor_1 rfl (lv_at hl 0 rfl) ?_
  refine fw_get (C := RX9) (T := TX9) (N := 34) hx hb hts hin_X9 hown hK hF mf_obj rfl 2 (by decide) (hts (.fieldLink RX9 7 "FrontCodedIndexModel" "key" "[I") (by decide +kernel)) (fun _ h9 => h9) rfl dX9_floor_2 ?_
  refine lv_aload_n hx hb dX9_floor_5 rfl (lv_at hl 0 rfl) ?_
  refine fw_get (C := RX9) (T := TX9) (N := 34) hx hb hts hin_X9 hown hK hF mf_obj rfl 1 (by decide) (hts (.fieldLink RX9 88 "FrontCodedIndexModel" "keySize" "I") (by decide +kernel)) (fun _ h9 => h9) rfl dX9_floor_6 ?_
  refine fw_cV_i_p (As := [.ref (ad 2), .int (n 1)]) (rest := []) ⟨hx, hb, hml, hown, hts⟩ (cc_X9_less l G had h) (⟨callB_of 2 hts ggX9_floor_X9_less rfl rfl rfl (hts (.initialized RX9) (by decide +kernel)) (hts (.methodLink RX9 171 yX9_less) (by decide +kernel)) (by decide +kernel) ⟨Nat.le_of_ble_eq_true rfl, Nat.le_of_ble_eq_true rfl⟩, hts (.instanceMethod yX9_less) (by decide +kernel), hts (.selects RX9 yX9_less yX9_less) (by decide +kernel)⟩) rfl mf_obj hK hZ hF hS hA rfl hl.1 rfl (Nat.le_of_ble_eq_true rfl) dX9_floor_9 ⟨Nat.zero_le _, Nat.zero_le _⟩ (fun r_10 H locs h hF hS => ?_)
  refine lv_istore_n (lv' := [(1, .int r_10), (0, .ref mo)]) hx hb dX9_floor_12 rfl hl (by decide) rfl (fun ls hl => ?_)
  refine lv_aload_n hx hb dX9_floor_13 rfl (lv_at hl 1 rfl) ?_
  refine lv_iload_n hx hb dX9_floor_14 rfl (lv_at hl 0 rfl) ?_
  refine fw_cV_i_p (As := [.int r_10]) (rest := []) ⟨hx, hb, hml, hown, hts⟩ (cc_X9_isThere l G had h) (⟨callB_of 1 hts ggX9_floor_X9_isThere rfl rfl rfl (hts (.initialized RX9) (by decide +kernel)) (hts (.methodLink RX9 175 yX9_isThere) (by decide +kernel)) (by decide +kernel) ⟨Nat.le_of_ble_eq_true rfl, Nat.le_of_ble_eq_true rfl⟩, hts (.instanceMethod yX9_isThere) (by decide +kernel), hts (.selects RX9 yX9_isThere yX9_isThere) (by decide +kernel)⟩) rfl mf_obj hK hZ hF hS hA rfl hl.1 rfl (Nat.le_of_ble_eq_true rfl) dX9_floor_15 ⟨Nat.zero_le _, Nat.zero_le _⟩ (fun r_11 H locs h hF hS => ?_)
  obtain ⟨h1, h2⟩ := h
  refine lv_if_eq (tgt := 25) hx hb dX9_floor_18 (by decide) (fun c_12 => ?_) (fun c_12 => ?_)
  · have h := h1 c_12
    refine lv_iload_n hx hb dX9_floor_25 rfl (lv_at hl 0 rfl) ?_
    refine lv_iconst (v := (1 : Int32)) hx hb dX9_floor_26 (by decide) ?_
    refine lv_isub hx hb dX9_floor_27 ?_
    exact J28 (r_10 - (1 : Int32)) n g _ _ _ h hF hS (lv_sub hl [1] rfl)
  · have h := h2 c_12
    refine lv_iload_n hx hb dX9_floor_21 rfl (lv_at hl 0 rfl) ?_
    refine lv_goto (tgt := 28) hx hb dX9_floor_22 (by decide) ?_
    exact J28 r_10 n g _ _ _ h hF hS (lv_sub hl [1] rfl)
theorem dX9_get_0 : decode cX9_get 0 = .ok (.aload_n 0, 1) := by decide +kernel
theorem dX9_get_1 : decode cX9_get 1 = .ok (.aload_n 0, 1) := by decide +kernel
theorem dX9_get_2 : decode cX9_get 2 = .ok (.getfield 7, 3) := by decide +kernel
theorem dX9_get_5 : decode cX9_get 5 = .ok (.aload_n 0, 1) := by decide +kernel
theorem dX9_get_6 : decode cX9_get 6 = .ok (.getfield 88, 3) := by decide +kernel
theorem dX9_get_9 : decode cX9_get 9 = .ok (.invokevirtual 171, 3) := by decide +kernel
theorem dX9_get_12 : decode cX9_get 12 = .ok (.istore_n 1, 1) := by decide +kernel
theorem dX9_get_13 : decode cX9_get 13 = .ok (.aload_n 0, 1) := by decide +kernel
theorem dX9_get_14 : decode cX9_get 14 = .ok (.iload_n 1, 1) := by decide +kernel
theorem dX9_get_15 : decode cX9_get 15 = .ok (.invokevirtual 175, 3) := by decide +kernel
theorem dX9_get_18 : decode cX9_get 18 = .ok (.ifCond .eq 16, 3) := by decide +kernel
theorem dX9_get_21 : decode cX9_get 21 = .ok (.aload_n 0, 1) := by decide +kernel
theorem dX9_get_22 : decode cX9_get 22 = .ok (.aload_n 0, 1) := by decide +kernel
theorem dX9_get_23 : decode cX9_get 23 = .ok (.getfield 26, 3) := by decide +kernel
theorem dX9_get_26 : decode cX9_get 26 = .ok (.iload_n 1, 1) := by decide +kernel
theorem dX9_get_27 : decode cX9_get 27 = .ok (.iaload, 1) := by decide +kernel
theorem dX9_get_28 : decode cX9_get 28 = .ok (.invokevirtual 91, 3) := by decide +kernel
theorem dX9_get_31 : decode cX9_get 31 = .ok (.goto 8, 3) := by decide +kernel
theorem dX9_get_34 : decode cX9_get 34 = .ok (.aload_n 0, 1) := by decide +kernel
theorem dX9_get_35 : decode cX9_get 35 = .ok (.iconst 1, 1) := by decide +kernel
theorem dX9_get_36 : decode cX9_get 36 = .ok (.invokevirtual 84, 3) := by decide +kernel
theorem dX9_get_39 : decode cX9_get 39 = .ok (.ireturn, 1) := by decide +kernel
set_option maxRecDepth 20000 in
theorem ggX9_get_X9_done : GoodIn wsX9_get wsX9_done := goodIn_r _ [29, 30, 35, 36, 37, 38, 39, 40, 41, 42, 43, 44, 45, 46, 47, 48, 49, 50, 51, 52, 53, 54, 55, 56, 57, 58, 59, 60, 61, 62, 63, 64, 65, 66, 67, 68] (by decide +kernel) (by decide +kernel)
set_option maxRecDepth 20000 in
theorem ggX9_get_X9_fails : GoodIn wsX9_get wsX9_fails := goodIn_r _ [34, 30, 35, 36, 37, 38, 39, 40, 41, 42, 43, 44, 45, 46, 47, 48, 49, 50, 51, 52, 53, 54, 55, 56, 57, 58, 59, 60, 61, 62, 63, 64, 65, 66, 67, 68] (by decide +kernel) (by decide +kernel)
set_option maxRecDepth 20000 in
theorem ggX9_get_X9_isThere : GoodIn wsX9_get wsX9_isThere := goodIn_r _ [25, 9, 1, 2, 10, 11, 12, 7, 13, 14, 15, 16, 17, 18, 19, 20, 21, 35, 36, 37, 38, 39, 40, 41, 42, 43, 44, 45, 46, 47, 48, 49, 50, 51, 52, 53, 54, 55, 56, 57, 58, 59, 60, 61, 62, 63, 64, 65, 66, 67, 68] (by decide +kernel) (by decide +kernel)
set_option maxRecDepth 20000 in
theorem ggX9_get_X9_less : GoodIn wsX9_get wsX9_less := goodIn_r _ [8, 9, 10, 11, 12, 7, 13, 14, 15, 16, 17, 18, 19, 20, 21, 35, 36, 37, 38, 39, 40, 41, 42, 43, 44, 45, 46, 47, 48, 49, 50, 51, 52, 53, 54, 55, 56, 57, 58, 59, 60, 61, 62, 63, 64, 65, 66, 67, 68] (by decide +kernel) (by decide +kernel)
def wp_X9_get  (n : Nat → Int32) (g : Nat → Nat → Int32) (K : Int32 → (Nat → Int32) → (Nat → Nat → Int32) → Prop) : Prop :=
  wp_X9_less 2 (n 1) n g (fun r_1 => wp_X9_isThere r_1 n g (fun r_2 => ((r_2 = (0 : Int32) → wp_X9_fails (1 : Int32) n g (fun r_4 n_6 g_7 => K r_4 n_6 g_7)) ∧
 (¬ (r_2 = (0 : Int32)) → vp_in r_1 (mlen 12) ∧ ∀ v_9 : Int32, v_9 = g 12 (r_1).toNatClampNeg → wp_X9_done v_9 n g (fun r_10 n_12 g_13 => K r_10 n_12 g_13)))))
set_option maxHeartbeats 4000000 in
set_option maxRecDepth 100000 in
theorem cc_X9_get (l : Launch) (G : GG) {mo : Nat} {ad : Nat → Nat} (had : MAd mo ad) {n : Nat → Int32} {g : Nat → Nat → Int32} {sz : Nat}  {K : Int32 → (Nat → Int32) → (Nat → Nat → Int32) → Prop} (h : wp_X9_get  n g K) : Met l yX9_get wsX9_get ({ frames := 4, cells := 0, slots := 0, locals := 98 } : Room) (FP G [.ref mo] (mf mo ad n g) sz) (va_Qi (fun r f9 => ∃ n9 g9, f9 = mf mo ad n9 g9 ∧ K r n9 g9 : Int32 → FT → Prop) (FB G (fA (mf mo ad n g) sz)) (fA (mf mo ad n g) sz)) 0 0 (fA (mf mo ad n g) sz) := by
  refine Met.ofW (cc := cX9_get) (maxL := 2) (ret := (some .int)) (by decide) rfl ?_
  intro p e s m args below meth c s₁ B hml hv
  obtain ⟨rfl, hsz, hF, hK, hZ⟩ := hv
  have hx := B.exec
  have hb := B.bytes
  have hr := B.returns
  have hts := atoms_spec (ws := wsX9_get) B.pre
  have hown : s.vm.findClass RX9 = some m.cls := findClass_of_methodNamed B.named
  have hlocks := B.notSynchronized
  subst hsz
  have hF := hF.self (sz := s.heap.size)
  generalize hAe : fA (mf mo ad n g) s.heap.size = A at hF hZ ⊢
  have hA : ∀ q : Nat, s.heap.size ≤ q → A q := fun q h => by rw [← hAe]; exact Or.inr h
  have hS : va_S A s.heap s.heap [] := va_S.rf
  have hin_X9 : ∀ w ∈ wsX90, w ∈ wsX9_get := by decide +kernel
  have hl := lv_entry ([.ref mo]) (n := 2) (Nat.le_of_ble_eq_true rfl)
  rw [lg_entry_eq]
  generalize (lg_sl ([.ref mo]) ++ List.replicate (2 - (lg_sl ([.ref mo])).length) Slot.unset).toArray = ls at hl ⊢
  have hl : lv_has ls 2 [(0, .ref mo)] := hl
  unfold wp_X9_get at h
  refine lv_aload_n hx hb dX9_get_0 rfl (lv_at hl 0 rfl) ?_
  refine lv_aload_n hx hb dX9_get_1 rfl (lv_at hl 0 rfl) ?_
  refine fw_get (C := RX9) (T := TX9) (N := 34) hx hb hts hin_X9 hown hK hF mf_obj rfl 2 (by decide) (hts (.fieldLink RX9 7 "FrontCodedIndexModel" "key" "[I") (by decide +kernel)) (fun _ h9 => h9) rfl dX9_get_2 ?_
  refine lv_aload_n hx hb dX9_get_5 rfl (lv_at hl 0 rfl) ?_
  refine fw_get (C := RX9) (T := TX9) (N := 34) hx hb hts hin_X9 hown hK hF mf_obj rfl 1 (by decide) (hts (.fieldLink RX9 88 "FrontCodedIndexModel" "keySize" "I") (by decide +kernel)) (fun _ h9 => h9) rfl dX9_get_6 ?_
  refine fw_cV_i_p (As := [.ref (ad 2), .int (n 1)]) (rest := []) ⟨hx, hb, hml, hown, hts⟩ (cc_X9_less l G had h) (⟨callB_of 2 hts ggX9_get_X9_less rfl rfl rfl (hts (.initialized RX9) (by decide +kernel)) (hts (.methodLink RX9 171 yX9_less) (by decide +kernel)) (by decide +kernel) ⟨Nat.le_of_ble_eq_true rfl, Nat.le_of_ble_eq_true rfl⟩, hts (.instanceMethod yX9_less) (by decide +kernel), hts (.selects RX9 yX9_less yX9_less) (by decide +kernel)⟩) rfl mf_obj hK hZ hF hS hA rfl hl.1 rfl (Nat.le_of_ble_eq_true rfl) dX9_get_9 ⟨Nat.zero_le _, Nat.zero_le _⟩ (fun r_1 H locs h hF hS => ?_)
  refine lv_istore_n (lv' := [(1, .int r_1), (0, .ref mo)]) hx hb dX9_get_12 rfl hl (by decide) rfl (fun ls hl => ?_)
  refine lv_aload_n hx hb dX9_get_13 rfl (lv_at hl 1 rfl) ?_
  refine lv_iload_n hx hb dX9_get_14 rfl (lv_at hl 0 rfl) ?_
  refine fw_cV_i_p (As := [.int r_1]) (rest := []) ⟨hx, hb, hml, hown, hts⟩ (cc_X9_isThere l G had h) (⟨callB_of 1 hts ggX9_get_X9_isThere rfl rfl rfl (hts (.initialized RX9) (by decide +kernel)) (hts (.methodLink RX9 175 yX9_isThere) (by decide +kernel)) (by decide +kernel) ⟨Nat.le_of_ble_eq_true rfl, Nat.le_of_ble_eq_true rfl⟩, hts (.instanceMethod yX9_isThere) (by decide +kernel), hts (.selects RX9 yX9_isThere yX9_isThere) (by decide +kernel)⟩) rfl mf_obj hK hZ hF hS hA rfl hl.1 rfl (Nat.le_of_ble_eq_true rfl) dX9_get_15 ⟨Nat.zero_le _, Nat.zero_le _⟩ (fun r_2 H locs h hF hS => ?_)
  obtain ⟨h1, h2⟩ := h
  refine lv_if_eq (tgt := 34) hx hb dX9_get_18 (by decide) (fun c_3 => ?_) (fun c_3 => ?_)
  · have h := h1 c_3
    refine lv_aload_n hx hb dX9_get_34 rfl (lv_at hl 1 rfl) ?_
    refine lv_iconst (v := (1 : Int32)) hx hb dX9_get_35 (by decide) ?_
    refine fw_cV_i (As := [.int (1 : Int32)]) (rest := []) ⟨hx, hb, hml, hown, hts⟩ (cc_X9_fails l G had h) (⟨callB_of 1 hts ggX9_get_X9_fails rfl rfl rfl (hts (.initialized RX9) (by decide +kernel)) (hts (.methodLink RX9 84 yX9_fails) (by decide +kernel)) (by decide +kernel) ⟨Nat.le_of_ble_eq_true rfl, Nat.le_of_ble_eq_true rfl⟩, hts (.instanceMethod yX9_fails) (by decide +kernel), hts (.selects RX9 yX9_fails yX9_fails) (by decide +kernel)⟩) rfl mf_obj hK hZ hF hS hA rfl hl.1 rfl (Nat.le_of_ble_eq_true rfl) dX9_get_36 ⟨Nat.zero_le _, Nat.zero_le _⟩ (fun r_4 f9 H locs h hF hS => ?_)
    obtain ⟨n_6, g_7, rfl, h⟩ := h
    exact W.iret (v := r_4) hx hb hr (fun t ht hW => ⟨⟨r_4, (mf mo ad n_6 g_7), rfl, ⟨_, _, rfl, h⟩, by rw [ht]; exact hF, FK.moved hW.alike hK⟩, hS.F ht⟩) hS.2.2 dX9_get_39
  · have h := h2 c_3
    refine lv_aload_n hx hb dX9_get_21 rfl (lv_at hl 1 rfl) ?_
    refine lv_aload_n hx hb dX9_get_22 rfl (lv_at hl 1 rfl) ?_
    refine fw_get (C := RX9) (T := TX9) (N := 34) hx hb hts hin_X9 hown hK hF mf_obj rfl 12 (by decide) (hts (.fieldLink RX9 26 "FrontCodedIndexModel" "values" "[I") (by decide +kernel)) (fun _ h9 => h9) rfl dX9_get_23 ?_
    refine lv_iload_n hx hb dX9_get_26 rfl (lv_at hl 0 rfl) ?_
    obtain ⟨hi_i_8, h⟩ := h
    refine fw_iald hx hb hK hF (mf_arr had 12 (by decide)) hi_i_8 dX9_get_27 ?_
    refine lv_topi (fun v_9 e_v_9 => ?_)
    have h := h v_9 e_v_9
    refine fw_cV_i (As := [.int v_9]) (rest := []) ⟨hx, hb, hml, hown, hts⟩ (cc_X9_done l G had h) (⟨callB_of 1 hts ggX9_get_X9_done rfl rfl rfl (hts (.initialized RX9) (by decide +kernel)) (hts (.methodLink RX9 91 yX9_done) (by decide +kernel)) (by decide +kernel) ⟨Nat.le_of_ble_eq_true rfl, Nat.le_of_ble_eq_true rfl⟩, hts (.instanceMethod yX9_done) (by decide +kernel), hts (.selects RX9 yX9_done yX9_done) (by decide +kernel)⟩) rfl mf_obj hK hZ hF hS hA rfl hl.1 rfl (Nat.le_of_ble_eq_true rfl) dX9_get_28 ⟨Nat.zero_le _, Nat.zero_le _⟩ (fun r_10 f9 H locs h hF hS => ?_)
    obtain ⟨n_12, g_13, rfl, h⟩ := h
    refine lv_goto (tgt := 39) hx hb dX9_get_31 (by decide) ?_
    exact W.iret (v := r_10) hx hb hr (fun t ht hW => ⟨⟨r_10, (mf mo ad n_12 g_13), rfl, ⟨_, _, rfl, h⟩, by rw [ht]; exact hF, FK.moved hW.alike hK⟩, hS.F ht⟩) hS.2.2 dX9_get_39
theorem dX9_leafSize_0 : decode cX9_leafSize 0 = .ok (.bipush 8, 2) := by decide +kernel
theorem dX9_leafSize_2 : decode cX9_leafSize 2 = .ok (.istore_n 3, 1) := by decide +kernel
theorem dX9_leafSize_3 : decode cX9_leafSize 3 = .ok (.iload_n 1, 1) := by decide +kernel
theorem dX9_leafSize_4 : decode cX9_leafSize 4 = .ok (.istore 4, 2) := by decide +kernel
theorem dX9_leafSize_6 : decode cX9_leafSize 6 = .ok (.iload 4, 2) := by decide +kernel
theorem dX9_leafSize_8 : decode cX9_leafSize 8 = .ok (.iload_n 1, 1) := by decide +kernel
theorem dX9_leafSize_9 : decode cX9_leafSize 9 = .ok (.iload_n 2, 1) := by decide +kernel
theorem dX9_leafSize_10 : decode cX9_leafSize 10 = .ok (.iadd, 1) := by decide +kernel
theorem dX9_leafSize_11 : decode cX9_leafSize 11 = .ok (.if_icmp .ge 76, 3) := by decide +kernel
theorem dX9_leafSize_14 : decode cX9_leafSize 14 = .ok (.iload 4, 2) := by decide +kernel
theorem dX9_leafSize_16 : decode cX9_leafSize 16 = .ok (.iload_n 1, 1) := by decide +kernel
theorem dX9_leafSize_17 : decode cX9_leafSize 17 = .ok (.if_icmp .ne 7, 3) := by decide +kernel
theorem dX9_leafSize_20 : decode cX9_leafSize 20 = .ok (.iconst 0, 1) := by decide +kernel
theorem dX9_leafSize_21 : decode cX9_leafSize 21 = .ok (.goto 42, 3) := by decide +kernel
theorem dX9_leafSize_24 : decode cX9_leafSize 24 = .ok (.aload_n 0, 1) := by decide +kernel
theorem dX9_leafSize_25 : decode cX9_leafSize 25 = .ok (.getfield 23, 3) := by decide +kernel
theorem dX9_leafSize_28 : decode cX9_leafSize 28 = .ok (.bipush 12, 2) := by decide +kernel
theorem dX9_leafSize_30 : decode cX9_leafSize 30 = .ok (.iload 4, 2) := by decide +kernel
theorem dX9_leafSize_32 : decode cX9_leafSize 32 = .ok (.iconst 1, 1) := by decide +kernel
theorem dX9_leafSize_33 : decode cX9_leafSize 33 = .ok (.isub, 1) := by decide +kernel
theorem dX9_leafSize_34 : decode cX9_leafSize 34 = .ok (.imul, 1) := by decide +kernel
theorem dX9_leafSize_35 : decode cX9_leafSize 35 = .ok (.aload_n 0, 1) := by decide +kernel
theorem dX9_leafSize_36 : decode cX9_leafSize 36 = .ok (.getfield 20, 3) := by decide +kernel
theorem dX9_leafSize_39 : decode cX9_leafSize 39 = .ok (.iload 4, 2) := by decide +kernel
theorem dX9_leafSize_41 : decode cX9_leafSize 41 = .ok (.iconst 1, 1) := by decide +kernel
theorem dX9_leafSize_42 : decode cX9_leafSize 42 = .ok (.isub, 1) := by decide +kernel
theorem dX9_leafSize_43 : decode cX9_leafSize 43 = .ok (.iaload, 1) := by decide +kernel
theorem dX9_leafSize_44 : decode cX9_leafSize 44 = .ok (.aload_n 0, 1) := by decide +kernel
theorem dX9_leafSize_45 : decode cX9_leafSize 45 = .ok (.getfield 23, 3) := by decide +kernel
theorem dX9_leafSize_48 : decode cX9_leafSize 48 = .ok (.bipush 12, 2) := by decide +kernel
theorem dX9_leafSize_50 : decode cX9_leafSize 50 = .ok (.iload 4, 2) := by decide +kernel
theorem dX9_leafSize_52 : decode cX9_leafSize 52 = .ok (.imul, 1) := by decide +kernel
theorem dX9_leafSize_53 : decode cX9_leafSize 53 = .ok (.aload_n 0, 1) := by decide +kernel
theorem dX9_leafSize_54 : decode cX9_leafSize 54 = .ok (.getfield 20, 3) := by decide +kernel
theorem dX9_leafSize_57 : decode cX9_leafSize 57 = .ok (.iload 4, 2) := by decide +kernel
theorem dX9_leafSize_59 : decode cX9_leafSize 59 = .ok (.iaload, 1) := by decide +kernel
theorem dX9_leafSize_60 : decode cX9_leafSize 60 = .ok (.invokestatic 99, 3) := by decide +kernel
theorem dX9_leafSize_63 : decode cX9_leafSize 63 = .ok (.istore 5, 2) := by decide +kernel
theorem dX9_leafSize_65 : decode cX9_leafSize 65 = .ok (.iload_n 3, 1) := by decide +kernel
theorem dX9_leafSize_66 : decode cX9_leafSize 66 = .ok (.bipush 7, 2) := by decide +kernel
theorem dX9_leafSize_68 : decode cX9_leafSize 68 = .ok (.aload_n 0, 1) := by decide +kernel
theorem dX9_leafSize_69 : decode cX9_leafSize 69 = .ok (.getfield 20, 3) := by decide +kernel
theorem dX9_leafSize_72 : decode cX9_leafSize 72 = .ok (.iload 4, 2) := by decide +kernel
theorem dX9_leafSize_74 : decode cX9_leafSize 74 = .ok (.iaload, 1) := by decide +kernel
theorem dX9_leafSize_75 : decode cX9_leafSize 75 = .ok (.iadd, 1) := by decide +kernel
theorem dX9_leafSize_76 : decode cX9_leafSize 76 = .ok (.iload 5, 2) := by decide +kernel
theorem dX9_leafSize_78 : decode cX9_leafSize 78 = .ok (.isub, 1) := by decide +kernel
theorem dX9_leafSize_79 : decode cX9_leafSize 79 = .ok (.iadd, 1) := by decide +kernel
theorem dX9_leafSize_80 : decode cX9_leafSize 80 = .ok (.istore_n 3, 1) := by decide +kernel
theorem dX9_leafSize_81 : decode cX9_leafSize 81 = .ok (.iinc 4 1, 3) := by decide +kernel
theorem dX9_leafSize_84 : decode cX9_leafSize 84 = .ok (.goto (-78), 3) := by decide +kernel
theorem dX9_leafSize_87 : decode cX9_leafSize 87 = .ok (.iload_n 3, 1) := by decide +kernel
theorem dX9_leafSize_88 : decode cX9_leafSize 88 = .ok (.ireturn, 1) := by decide +kernel
set_option maxRecDepth 20000 in
theorem ggX9_leafSize_X9_shared : GoodIn wsX9_leafSize wsX9_shared := goodIn_r _ [6] (by decide +kernel) (by decide +kernel)
def wp_X9_leafSize_63 (x1 : Int32) (x2 : Int32) (y3 : Int32) (y4 : Int32) (z0 : Int32) (n : Nat → Int32) (g : Nat → Nat → Int32) (K : Int32 → Prop) (C6 : Int32 × Int32 → Prop) : Prop :=
  vp_in y4 (mlen 10) ∧ ∀ v_2 : Int32, v_2 = g 10 (y4).toNatClampNeg → ∀ v_3 : Int32, v_3 = (y3 + (((7 : Int32) + v_2) - z0)) → ∀ v_5 : Int32, v_5 = y4 + 1 → C6 (v_3, v_5)
def wp_X9_leafSize_6 (x1 : Int32) (x2 : Int32) (n : Nat → Int32) (g : Nat → Nat → Int32) (K : Int32 → Prop)  (C6 : Int32 × Int32 → Prop) : Int32 × Int32 → Prop := fun s9 => match s9 with
  | (y3, y4) => (((x1 + x2) ≤ y4 → K y3) ∧
 (¬ ((x1 + x2) ≤ y4) → ((¬ y4 = x1 → vp_in (y4 - (1 : Int32)) (mlen 10) ∧ ∀ v_10 : Int32, v_10 = g 10 ((y4 - (1 : Int32))).toNatClampNeg → vp_in y4 (mlen 10) ∧ ∀ v_12 : Int32, v_12 = g 10 (y4).toNatClampNeg → wp_X9_shared 11 ((12 : Int32) * (y4 - (1 : Int32))) v_10 11 ((12 : Int32) * y4) v_12 n g (fun r_13 => wp_X9_leafSize_63 x1 x2 y3 y4 r_13 n g K C6)) ∧
 (y4 = x1 → wp_X9_leafSize_63 x1 x2 y3 y4 (0 : Int32) n g K C6))))
def wp_X9_leafSize (x1 : Int32) (x2 : Int32) (n : Nat → Int32) (g : Nat → Nat → Int32) (K : Int32 → Prop) : Prop :=
  ∃ n_14, loopW (wp_X9_leafSize_6 x1 x2 n g K) n_14 ((8 : Int32), x1)
set_option maxHeartbeats 4000000 in
set_option maxRecDepth 100000 in
theorem cc_X9_leafSize (l : Launch) (G : GG) {mo : Nat} {ad : Nat → Nat} (had : MAd mo ad) {n : Nat → Int32} {g : Nat → Nat → Int32} {sz : Nat} {x1 : Int32} {x2 : Int32} {K : Int32 → Prop} (h : wp_X9_leafSize x1 x2 n g K) : Met l yX9_leafSize wsX9_leafSize ({ frames := 1, cells := 0, slots := 0, locals := 26 } : Room) (FP G [.ref mo, .int x1, .int x2] (mf mo ad n g) sz) (va_Qi (fun r f9 => K r ∧ f9 = mf mo ad n g : Int32 → FT → Prop) (FB G (fA (mf mo ad n g) sz)) (fA (mf mo ad n g) sz)) 0 0 (fA (mf mo ad n g) sz) := by
  refine Met.ofW (cc := cX9_leafSize) (maxL := 6) (ret := (some .int)) (by decide) rfl ?_
  intro p e s m args below meth c s₁ B hml hv
  obtain ⟨rfl, hsz, hF, hK, hZ⟩ := hv
  have hx := B.exec
  have hb := B.bytes
  have hr := B.returns
  have hts := atoms_spec (ws := wsX9_leafSize) B.pre
  have hown : s.vm.findClass RX9 = some m.cls := findClass_of_methodNamed B.named
  have hlocks := B.notSynchronized
  subst hsz
  have hF := hF.self (sz := s.heap.size)
  generalize hAe : fA (mf mo ad n g) s.heap.size = A at hF hZ ⊢
  have hA : ∀ q : Nat, s.heap.size ≤ q → A q := fun q h => by rw [← hAe]; exact Or.inr h
  have hS : va_S A s.heap s.heap [] := va_S.rf
  have hin_X9 : ∀ w ∈ wsX90, w ∈ wsX9_leafSize := by decide +kernel
  have L6 : ∀  (j9 : Nat) (y3 : Int32) (y4 : Int32) (H : Heap) (locs : List Loc) (ls : Array Slot), loopW (wp_X9_leafSize_6 x1 x2 n g K ) j9 (y3, y4) → Fw G A (mf mo ad n g) H → va_S A s.heap H locs → lv_has ls 6 [(0, .ref mo), (1, .int x1), (2, .int x2), (3, .int y3), (4, .int y4)] → W p l e ({ frames := 1, cells := 0, slots := 0, locals := 26 } : Room) s m ([.ref mo, .int x1, .int x2] : List Value).toArray below meth c H locs 0 0 (MQ below (va_Qi (fun r f9 => K r ∧ f9 = mf mo ad n g : Int32 → FT → Prop) (FB G A) A) ([.ref mo, .int x1, .int x2] : List Value).toArray s 0 0 A) (F0 m 6 ls []) := by
    intro  j9
    induction j9 with
    | zero => intro y3 y4 H locs ls h; exact h.elim
    | succ j9 ih6 =>
      intro y3 y4 H locs ls h hF hS hl
      have h : wp_X9_leafSize_6 x1 x2 n g K  (loopW (wp_X9_leafSize_6 x1 x2 n g K ) j9) (y3, y4) := h
      generalize loopW (wp_X9_leafSize_6 x1 x2 n g K ) j9 = C6 at ih6 h
      unfold wp_X9_leafSize_6 at h
      have J63 : ∀ (y3 : Int32) (y4 : Int32) (z0 : Int32) (H : Heap) (locs : List Loc) (ls : Array Slot), wp_X9_leafSize_63 x1 x2 y3 y4 z0 n g K C6 → Fw G A (mf mo ad n g) H → va_S A s.heap H locs → lv_has ls 6 [(0, .ref mo), (1, .int x1), (2, .int x2), (3, .int y3), (4, .int y4)] → W p l e ({ frames := 1, cells := 0, slots := 0, locals := 26 } : Room) s m ([.ref mo, .int x1, .int x2] : List Value).toArray below meth c H locs 0 0 (MQ below (va_Qi (fun r f9 => K r ∧ f9 = mf mo ad n g : Int32 → FT → Prop) (FB G A) A) ([.ref mo, .int x1, .int x2] : List Value).toArray s 0 0 A) (F0 m 63 ls [.int z0]) := by
        intro y3 y4 z0 H locs ls h hF hS hl
        unfold wp_X9_leafSize_63 at h
        refine lv_istore (lv' := [(5, .int z0), (0, .ref mo), (1, .int x1), (2, .int x2), (3, .int y3), (4, .int y4)]) hx hb dX9_leafSize_63 hl (by decide) rfl (fun ls hl => ?_)
        refine lv_iload_n hx hb dX9_leafSize_65 rfl (lv_at hl 4 rfl) ?_
        refine lv_bipush (v := (7 : Int32)) hx hb dX9_leafSize_66 (by decide) ?_
        refine lv_aload_n hx hb dX9_leafSize_68 rfl (lv_at hl 1 rfl) ?_
        refine fw_get (C := RX9) (T := TX9) (N := 34) hx hb hts hin_X9 hown hK hF mf_obj rfl 10 (by decide) (hts (.fieldLink RX9 20 "FrontCodedIndexModel" "sizeOf" "[I") (by decide +kernel)) (fun _ h9 => h9) rfl dX9_leafSize_69 ?_
        refine lv_iload hx hb dX9_leafSize_72 (lv_at hl 5 rfl) ?_
        obtain ⟨hi_i_1, h⟩ := h
        refine fw_iald hx hb hK hF (mf_arr had 10 (by decide)) hi_i_1 dX9_leafSize_74 ?_
        refine lv_topi (fun v_2 e_v_2 => ?_)
        have h := h v_2 e_v_2
        refine lv_iadd hx hb dX9_leafSize_75 ?_
        refine lv_iload hx hb dX9_leafSize_76 (lv_at hl 0 rfl) ?_
        refine lv_isub hx hb dX9_leafSize_78 ?_
        refine lv_iadd hx hb dX9_leafSize_79 ?_
        refine lv_topi (fun v_3 e_4 => ?_)
        have h := h v_3 e_4
        refine lv_istore_n (lv' := [(3, .int v_3), (5, .int z0), (0, .ref mo), (1, .int x1), (2, .int x2), (4, .int y4)]) hx hb dX9_leafSize_80 rfl hl (by decide) rfl (fun ls hl => ?_)
        obtain ⟨v_5, e_6⟩ : ∃ y : Int32, y = y4 + 1 := ⟨_, rfl⟩
        have h := h v_5 e_6
        refine lv_iinc (v := v_5) (lv' := [(4, .int v_5), (3, .int v_3), (5, .int z0), (0, .ref mo), (1, .int x1), (2, .int x2)]) hx hb dX9_leafSize_81 hl (k := 5) rfl (by rw [e_6]; rfl) (by decide) rfl (fun ls hl => ?_)
        refine lv_goto (tgt := 6) hx hb dX9_leafSize_84 (by decide) ?_
        exact ih6 v_3 v_5 _ _ _ h hF hS (lv_sub hl [3, 4, 5, 1, 0] rfl)
      refine lv_iload hx hb dX9_leafSize_6 (lv_at hl 4 rfl) ?_
      refine lv_iload_n hx hb dX9_leafSize_8 rfl (lv_at hl 1 rfl) ?_
      refine lv_iload_n hx hb dX9_leafSize_9 rfl (lv_at hl 2 rfl) ?_
      refine lv_iadd hx hb dX9_leafSize_10 ?_
      obtain ⟨h1, h2⟩ := h
      refine lv_icmp_ge (tgt := 87) hx hb dX9_leafSize_11 (by decide) (fun c_7 => ?_) (fun c_7 => ?_)
      · have h := h1 c_7
        refine lv_iload_n hx hb dX9_leafSize_87 rfl (lv_at hl 3 rfl) ?_
        exact W.iret (v := y3) hx hb hr (fun t ht hW => ⟨⟨y3, (mf mo ad n g), rfl, ⟨h, rfl⟩, by rw [ht]; exact hF, FK.moved hW.alike hK⟩, hS.F ht⟩) hS.2.2 dX9_leafSize_88
      · have h := h2 c_7
        refine lv_iload hx hb dX9_leafSize_14 (lv_at hl 4 rfl) ?_
        refine lv_iload_n hx hb dX9_leafSize_16 rfl (lv_at hl 1 rfl) ?_
        obtain ⟨h1, h2⟩ := h
        refine lv_icmp_ne (tgt := 24) hx hb dX9_leafSize_17 (by decide) (fun c_8 => ?_) (fun c_8 => ?_)
        · have h := h1 c_8
          refine lv_aload_n hx hb dX9_leafSize_24 rfl (lv_at hl 0 rfl) ?_
          refine fw_get (C := RX9) (T := TX9) (N := 34) hx hb hts hin_X9 hown hK hF mf_obj rfl 11 (by decide) (hts (.fieldLink RX9 23 "FrontCodedIndexModel" "bytes" "[I") (by decide +kernel)) (fun _ h9 => h9) rfl dX9_leafSize_25 ?_
          refine lv_bipush (v := (12 : Int32)) hx hb dX9_leafSize_28 (by decide) ?_
          refine lv_iload hx hb dX9_leafSize_30 (lv_at hl 4 rfl) ?_
          refine lv_iconst (v := (1 : Int32)) hx hb dX9_leafSize_32 (by decide) ?_
          refine lv_isub hx hb dX9_leafSize_33 ?_
          refine lv_imul hx hb dX9_leafSize_34 ?_
          refine lv_aload_n hx hb dX9_leafSize_35 rfl (lv_at hl 0 rfl) ?_
          refine fw_get (C := RX9) (T := TX9) (N := 34) hx hb hts hin_X9 hown hK hF mf_obj rfl 10 (by decide) (hts (.fieldLink RX9 20 "FrontCodedIndexModel" "sizeOf" "[I") (by decide +kernel)) (fun _ h9 => h9) rfl dX9_leafSize_36 ?_
          refine lv_iload hx hb dX9_leafSize_39 (lv_at hl 4 rfl) ?_
          refine lv_iconst (v := (1 : Int32)) hx hb dX9_leafSize_41 (by decide) ?_
          refine lv_isub hx hb dX9_leafSize_42 ?_
          obtain ⟨hi_i_9, h⟩ := h
          refine fw_iald hx hb hK hF (mf_arr had 10 (by decide)) hi_i_9 dX9_leafSize_43 ?_
          refine lv_topi (fun v_10 e_v_10 => ?_)
          have h := h v_10 e_v_10
          refine lv_aload_n hx hb dX9_leafSize_44 rfl (lv_at hl 0 rfl) ?_
          refine fw_get (C := RX9) (T := TX9) (N := 34) hx hb hts hin_X9 hown hK hF mf_obj rfl 11 (by decide) (hts (.fieldLink RX9 23 "FrontCodedIndexModel" "bytes" "[I") (by decide +kernel)) (fun _ h9 => h9) rfl dX9_leafSize_45 ?_
          refine lv_bipush (v := (12 : Int32)) hx hb dX9_leafSize_48 (by decide) ?_
          refine lv_iload hx hb dX9_leafSize_50 (lv_at hl 4 rfl) ?_
          refine lv_imul hx hb dX9_leafSize_52 ?_
          refine lv_aload_n hx hb dX9_leafSize_53 rfl (lv_at hl 0 rfl) ?_
          refine fw_get (C := RX9) (T := TX9) (N := 34) hx hb hts hin_X9 hown hK hF mf_obj rfl 10 (by decide) (hts (.fieldLink RX9 20 "FrontCodedIndexModel" "sizeOf" "[I") (by decide +kernel)) (fun _ h9 => h9) rfl dX9_leafSize_54 ?_
          refine lv_iload hx hb dX9_leafSize_57 (lv_at hl 4 rfl) ?_
          obtain ⟨hi_i_11, h⟩ := h
          refine fw_iald hx hb hK hF (mf_arr had 10 (by decide)) hi_i_11 dX9_leafSize_59 ?_
          refine lv_topi (fun v_12 e_v_12 => ?_)
          have h := h v_12 e_v_12
          refine fw_cS_i_p (As := [.ref (ad 11), .int ((12 : Int32) * (y4 - (1 : Int32))), .int v_10, .ref (ad 11), .int ((12 : Int32) * y4), .int v_12]) (rest := []) ⟨hx, hb, hml, hown, hts⟩ (cc_X9_shared l G had h) (⟨callB_of 6 hts ggX9_leafSize_X9_shared rfl rfl rfl (hts (.initialized RX9) (by decide +kernel)) (hts (.methodLink RX9 99 yX9_shared) (by decide +kernel)) (by decide +kernel) ⟨Nat.le_of_ble_eq_true rfl, Nat.le_of_ble_eq_true rfl⟩, hts (.static yX9_shared) (by decide +kernel)⟩) hK hZ hF hS hA rfl hl.1 rfl (Nat.le_of_ble_eq_true rfl) dX9_leafSize_60 ⟨Nat.zero_le _, Nat.zero_le _⟩ (fun r_13 H locs h hF hS => ?_)
          exact J63 y3 y4 r_13 _ _ _ h hF hS (lv_sub hl [0, 1, 2, 3, 4] rfl)
        · have h := h2 c_8
          refine lv_iconst (v := (0 : Int32)) hx hb dX9_leafSize_20 (by decide) ?_
          refine lv_goto (tgt := 63) hx hb dX9_leafSize_21 (by decide) ?_
          exact J63 y3 y4 (0 : Int32) _ _ _ h hF hS (lv_sub hl [0, 1, 2, 3, 4] rfl)
  have hl := lv_entry ([.ref mo, .int x1, .int x2]) (n := 6) (Nat.le_of_ble_eq_true rfl)
  rw [lg_entry_eq]
  generalize (lg_sl ([.ref mo, .int x1, .int x2]) ++ List.replicate (6 - (lg_sl ([.ref mo, .int x1, .int x2])).length) Slot.unset).toArray = ls at hl ⊢
  have hl : lv_has ls 6 [(0, .ref mo), (1, .int x1), (2, .int x2)] := hl
  unfold wp_X9_leafSize at h
  refine lv_bipush (v := (8 : Int32)) hx hb dX9_leafSize_0 (by decide) ?_
  refine lv_istore_n (lv' := [(3, .int (8 : Int32)), (0, .ref mo), (1, .int x1), (2, .int x2)]) hx hb dX9_leafSize_2 rfl hl (by decide) rfl (fun ls hl => ?_)
  refine lv_iload_n hx hb dX9_leafSize_3 rfl (lv_at hl 2 rfl) ?_
  refine lv_istore (lv' := [(4, .int x1), (3, .int (8 : Int32)), (0, .ref mo), (1, .int x1), (2, .int x2)]) hx hb dX9_leafSize_4 hl (by decide) rfl (fun ls hl => ?_)
  obtain ⟨n_14, h⟩ := h
  exact L6 n_14 (8 : Int32) x1 _ _ _ h hF hS (lv_sub hl [2, 3, 4, 1, 0] rfl)
theorem dX9_separates_0 : decode cX9_separates 0 = .ok (.aload_n 0, 1) := by decide +kernel
theorem dX9_separates_1 : decode cX9_separates 1 = .ok (.iconst 0, 1) := by decide +kernel
theorem dX9_separates_2 : decode cX9_separates 2 = .ok (.iload_n 1, 1) := by decide +kernel
theorem dX9_separates_3 : decode cX9_separates 3 = .ok (.iconst 1, 1) := by decide +kernel
theorem dX9_separates_4 : decode cX9_separates 4 = .ok (.iadd, 1) := by decide +kernel
theorem dX9_separates_5 : decode cX9_separates 5 = .ok (.invokevirtual 117, 3) := by decide +kernel
theorem dX9_separates_8 : decode cX9_separates 8 = .ok (.istore_n 2, 1) := by decide +kernel
theorem dX9_separates_9 : decode cX9_separates 9 = .ok (.aload_n 0, 1) := by decide +kernel
theorem dX9_separates_10 : decode cX9_separates 10 = .ok (.getfield 23, 3) := by decide +kernel
theorem dX9_separates_13 : decode cX9_separates 13 = .ok (.bipush 12, 2) := by decide +kernel
theorem dX9_separates_15 : decode cX9_separates 15 = .ok (.iload_n 2, 1) := by decide +kernel
theorem dX9_separates_16 : decode cX9_separates 16 = .ok (.iconst 1, 1) := by decide +kernel
theorem dX9_separates_17 : decode cX9_separates 17 = .ok (.isub, 1) := by decide +kernel
theorem dX9_separates_18 : decode cX9_separates 18 = .ok (.imul, 1) := by decide +kernel
theorem dX9_separates_19 : decode cX9_separates 19 = .ok (.aload_n 0, 1) := by decide +kernel
theorem dX9_separates_20 : decode cX9_separates 20 = .ok (.getfield 20, 3) := by decide +kernel
theorem dX9_separates_23 : decode cX9_separates 23 = .ok (.iload_n 2, 1) := by decide +kernel
theorem dX9_separates_24 : decode cX9_separates 24 = .ok (.iconst 1, 1) := by decide +kernel
theorem dX9_separates_25 : decode cX9_separates 25 = .ok (.isub, 1) := by decide +kernel
theorem dX9_separates_26 : decode cX9_separates 26 = .ok (.iaload, 1) := by decide +kernel
theorem dX9_separates_27 : decode cX9_separates 27 = .ok (.aload_n 0, 1) := by decide +kernel
theorem dX9_separates_28 : decode cX9_separates 28 = .ok (.getfield 23, 3) := by decide +kernel
theorem dX9_separates_31 : decode cX9_separates 31 = .ok (.bipush 12, 2) := by decide +kernel
theorem dX9_separates_33 : decode cX9_separates 33 = .ok (.iload_n 2, 1) := by decide +kernel
theorem dX9_separates_34 : decode cX9_separates 34 = .ok (.imul, 1) := by decide +kernel
theorem dX9_separates_35 : decode cX9_separates 35 = .ok (.aload_n 0, 1) := by decide +kernel
theorem dX9_separates_36 : decode cX9_separates 36 = .ok (.getfield 20, 3) := by decide +kernel
theorem dX9_separates_39 : decode cX9_separates 39 = .ok (.iload_n 2, 1) := by decide +kernel
theorem dX9_separates_40 : decode cX9_separates 40 = .ok (.iaload, 1) := by decide +kernel
theorem dX9_separates_41 : decode cX9_separates 41 = .ok (.invokestatic 99, 3) := by decide +kernel
theorem dX9_separates_44 : decode cX9_separates 44 = .ok (.iconst 1, 1) := by decide +kernel
theorem dX9_separates_45 : decode cX9_separates 45 = .ok (.iadd, 1) := by decide +kernel
theorem dX9_separates_46 : decode cX9_separates 46 = .ok (.istore_n 3, 1) := by decide +kernel
theorem dX9_separates_47 : decode cX9_separates 47 = .ok (.aload_n 0, 1) := by decide +kernel
theorem dX9_separates_48 : decode cX9_separates 48 = .ok (.iload_n 1, 1) := by decide +kernel
theorem dX9_separates_49 : decode cX9_separates 49 = .ok (.aload_n 0, 1) := by decide +kernel
theorem dX9_separates_50 : decode cX9_separates 50 = .ok (.getfield 23, 3) := by decide +kernel
theorem dX9_separates_53 : decode cX9_separates 53 = .ok (.bipush 12, 2) := by decide +kernel
theorem dX9_separates_55 : decode cX9_separates 55 = .ok (.iload_n 2, 1) := by decide +kernel
theorem dX9_separates_56 : decode cX9_separates 56 = .ok (.imul, 1) := by decide +kernel
theorem dX9_separates_57 : decode cX9_separates 57 = .ok (.iload_n 3, 1) := by decide +kernel
theorem dX9_separates_58 : decode cX9_separates 58 = .ok (.invokevirtual 133, 3) := by decide +kernel
theorem dX9_separates_61 : decode cX9_separates 61 = .ok (.return_, 1) := by decide +kernel
set_option maxRecDepth 20000 in
theorem ggX9_separates_X9_firstOf : GoodIn wsX9_separates wsX9_firstOf := goodIn_r _ [7, 8, 9, 10, 6, 11, 21, 22, 23, 24, 25, 26, 27, 28, 29, 30, 31, 32, 33, 34, 35, 36, 37, 38, 39, 40, 41, 42, 43, 44, 45, 46, 47, 48, 49, 50, 51, 52, 53, 54] (by decide +kernel) (by decide +kernel)
set_option maxRecDepth 20000 in
theorem ggX9_separates_X9_sets : GoodIn wsX9_separates wsX9_sets := goodIn_r _ [18, 19, 20, 21, 22, 23, 24, 25, 26, 27, 28, 29, 30, 31, 32, 33, 34, 35, 36, 37, 38, 39, 40, 41, 42, 43, 44, 45, 46, 47, 48, 49, 50, 51, 52, 53, 54] (by decide +kernel) (by decide +kernel)
set_option maxRecDepth 20000 in
theorem ggX9_separates_X9_shared : GoodIn wsX9_separates wsX9_shared := goodIn_r _ [14] (by decide +kernel) (by decide +kernel)
def wp_X9_separates (x1 : Int32) (n : Nat → Int32) (g : Nat → Nat → Int32) (K : (Nat → Int32) → (Nat → Nat → Int32) → Prop) : Prop :=
  wp_X9_firstOf (0 : Int32) (x1 + (1 : Int32)) n g (fun r_1 => vp_in (r_1 - (1 : Int32)) (mlen 10) ∧ ∀ v_3 : Int32, v_3 = g 10 ((r_1 - (1 : Int32))).toNatClampNeg → vp_in r_1 (mlen 10) ∧ ∀ v_5 : Int32, v_5 = g 10 (r_1).toNatClampNeg → wp_X9_shared 11 ((12 : Int32) * (r_1 - (1 : Int32))) v_3 11 ((12 : Int32) * r_1) v_5 n g (fun r_6 => ∀ v_7 : Int32, v_7 = (r_6 + (1 : Int32)) → wp_X9_sets x1 11 ((12 : Int32) * r_1) v_7 n g (fun n_11 g_12 => K n_11 g_12)))
set_option maxHeartbeats 4000000 in
set_option maxRecDepth 100000 in
theorem cc_X9_separates (l : Launch) (G : GG) {mo : Nat} {ad : Nat → Nat} (had : MAd mo ad) {n : Nat → Int32} {g : Nat → Nat → Int32} {sz : Nat} {x1 : Int32} {K : (Nat → Int32) → (Nat → Nat → Int32) → Prop} (h : wp_X9_separates x1 n g K) : Met l yX9_separates wsX9_separates ({ frames := 2, cells := 0, slots := 0, locals := 45 } : Room) (FP G [.ref mo, .int x1] (mf mo ad n g) sz) (va_Qv (fun f9 => ∃ n9 g9, f9 = mf mo ad n9 g9 ∧ K n9 g9 : FT → Prop) (FB G (fA (mf mo ad n g) sz)) (fA (mf mo ad n g) sz)) 0 0 (fA (mf mo ad n g) sz) := by
  refine Met.ofW (cc := cX9_separates) (maxL := 4) (ret := none) (by decide) rfl ?_
  intro p e s m args below meth c s₁ B hml hv
  obtain ⟨rfl, hsz, hF, hK, hZ⟩ := hv
  have hx := B.exec
  have hb := B.bytes
  have hr := B.returns
  have hts := atoms_spec (ws := wsX9_separates) B.pre
  have hown : s.vm.findClass RX9 = some m.cls := findClass_of_methodNamed B.named
  have hlocks := B.notSynchronized
  subst hsz
  have hF := hF.self (sz := s.heap.size)
  generalize hAe : fA (mf mo ad n g) s.heap.size = A at hF hZ ⊢
  have hA : ∀ q : Nat, s.heap.size ≤ q → A q := fun q h => by rw [← hAe]; exact Or.inr h
  have hS : va_S A s.heap s.heap [] := va_S.rf
  have hin_X9 : ∀ w ∈ wsX90, w ∈ wsX9_separates := by decide +kernel
  have hl := lv_entry ([.ref mo, .int x1]) (n := 4) (Nat.le_of_ble_eq_true rfl)
  rw [lg_entry_eq]
  generalize (lg_sl ([.ref mo, .int x1]) ++ List.replicate (4 - (lg_sl ([.ref mo, .int x1])).length) Slot.unset).toArray = ls at hl ⊢
  have hl : lv_has ls 4 [(0, .ref mo), (1, .int x1)] := hl
  unfold wp_X9_separates at h
  refine lv_aload_n hx hb dX9_separates_0 rfl (lv_at hl 0 rfl) ?_
  refine lv_iconst (v := (0 : Int32)) hx hb dX9_separates_1 (by decide) ?_
  refine lv_iload_n hx hb dX9_separates_2 rfl (lv_at hl 1 rfl) ?_
  refine lv_iconst (v := (1 : Int32)) hx hb dX9_separates_3 (by decide) ?_
  refine lv_iadd hx hb dX9_separates_4 ?_
  refine fw_cV_i_p (As := [.int (0 : Int32), .int (x1 + (1 : Int32))]) (rest := []) ⟨hx, hb, hml, hown, hts⟩ (cc_X9_firstOf l G had h) (⟨callB_of 2 hts ggX9_separates_X9_firstOf rfl rfl rfl (hts (.initialized RX9) (by decide +kernel)) (hts (.methodLink RX9 117 yX9_firstOf) (by decide +kernel)) (by decide +kernel) ⟨Nat.le_of_ble_eq_true rfl, Nat.le_of_ble_eq_true rfl⟩, hts (.instanceMethod yX9_firstOf) (by decide +kernel), hts (.selects RX9 yX9_firstOf yX9_firstOf) (by decide +kernel)⟩) rfl mf_obj hK hZ hF hS hA rfl hl.1 rfl (Nat.le_of_ble_eq_true rfl) dX9_separates_5 ⟨Nat.zero_le _, Nat.zero_le _⟩ (fun r_1 H locs h hF hS => ?_)
  refine lv_istore_n (lv' := [(2, .int r_1), (0, .ref mo), (1, .int x1)]) hx hb dX9_separates_8 rfl hl (by decide) rfl (fun ls hl => ?_)
  refine lv_aload_n hx hb dX9_separates_9 rfl (lv_at hl 1 rfl) ?_
  refine fw_get (C := RX9) (T := TX9) (N := 34) hx hb hts hin_X9 hown hK hF mf_obj rfl 11 (by decide) (hts (.fieldLink RX9 23 "FrontCodedIndexModel" "bytes" "[I") (by decide +kernel)) (fun _ h9 => h9) rfl dX9_separates_10 ?_
  refine lv_bipush (v := (12 : Int32)) hx hb dX9_separates_13 (by decide) ?_
  refine lv_iload_n hx hb dX9_separates_15 rfl (lv_at hl 0 rfl) ?_
  refine lv_iconst (v := (1 : Int32)) hx hb dX9_separates_16 (by decide) ?_
  refine lv_isub hx hb dX9_separates_17 ?_
  refine lv_imul hx hb dX9_separates_18 ?_
  refine lv_aload_n hx hb dX9_separates_19 rfl (lv_at hl 1 rfl) ?_
  refine fw_get (C := RX9) (T := TX9) (N := 34) hx hb hts hin_X9 hown hK hF mf_obj rfl 10 (by decide) (hts (.fieldLink RX9 20 "FrontCodedIndexModel" "sizeOf" "[I") (by decide +kernel)) (fun _ h9 => h9) rfl dX9_separates_20 ?_
  refine lv_iload_n hx hb dX9_separates_23 rfl (lv_at hl 0 rfl) ?_
  refine lv_iconst (v := (1 : Int32)) hx hb dX9_separates_24 (by decide) ?_
  refine lv_isub hx hb dX9_separates_25 ?_
  obtain ⟨hi_i_2, h⟩ := h
  refine fw_iald hx hb hK hF (mf_arr had 10 (by decide)) hi_i_2 dX9_separates_26 ?_
  refine lv_topi (fun v_3 e_v_3 => ?_)
  have h := h v_3 e_v_3
  refine lv_aload_n hx hb dX9_separates_27 rfl (lv_at hl 1 rfl) ?_
  refine fw_get (C := RX9) (T := TX9) (N := 34) hx hb hts hin_X9 hown hK hF mf_obj rfl 11 (by decide) (hts (.fieldLink RX9 23 "FrontCodedIndexModel" "bytes" "[I") (by decide +kernel)) (fun _ h9 => h9) rfl dX9_separates_28 ?_
  refine lv_bipush (v := (12 : Int32)) hx hb dX9_separates_31 (by decide) ?_
  refine lv_iload_n hx hb dX9_separates_33 rfl (lv_at hl 0 rfl) ?_
  refine lv_imul hx hb dX9_separates_34 ?_
  refine lv_aload_n hx hb dX9_separates_35 rfl (lv_at hl 1 rfl) ?_
  refine fw_get (C := RX9) (T := TX9) (N := 34) hx hb hts hin_X9 hown hK hF mf_obj rfl 10 (by decide) (hts (.fieldLink RX9 20 "FrontCodedIndexModel" "sizeOf" "[I") (by decide +kernel)) (fun _ h9 => h9) rfl dX9_separates_36 ?_
  refine lv_iload_n hx hb dX9_separates_39 rfl (lv_at hl 0 rfl) ?_
  obtain ⟨hi_i_4, h⟩ := h
  refine fw_iald hx hb hK hF (mf_arr had 10 (by decide)) hi_i_4 dX9_separates_40 ?_
  refine lv_topi (fun v_5 e_v_5 => ?_)
  have h := h v_5 e_v_5
  refine fw_cS_i_p (As := [.ref (ad 11), .int ((12 : Int32) * (r_1 - (1 : Int32))), .int v_3, .ref (ad 11), .int ((12 : Int32) * r_1), .int v_5]) (rest := []) ⟨hx, hb, hml, hown, hts⟩ (cc_X9_shared l G had h) (⟨callB_of 6 hts ggX9_separates_X9_shared rfl rfl rfl (hts (.initialized RX9) (by decide +kernel)) (hts (.methodLink RX9 99 yX9_shared) (by decide +kernel)) (by decide +kernel) ⟨Nat.le_of_ble_eq_true rfl, Nat.le_of_ble_eq_true rfl⟩, hts (.static yX9_shared) (by decide +kernel)⟩) hK hZ hF hS hA rfl hl.1 rfl (Nat.le_of_ble_eq_true rfl) dX9_separates_41 ⟨Nat.zero_le _, Nat.zero_le _⟩ (fun r_6 H locs h hF hS => ?_)
  refine lv_iconst (v := (1 : Int32)) hx hb dX9_separates_44 (by decide) ?_
  refine lv_iadd hx hb dX9_separates_45 ?_
  refine lv_topi (fun v_7 e_8 => ?_)
  have h := h v_7 e_8
  refine lv_istore_n (lv' := [(3, .int v_7), (2, .int r_1), (0, .ref mo), (1, .int x1)]) hx hb dX9_separates_46 rfl hl (by decide) rfl (fun ls hl => ?_)
  refine lv_aload_n hx hb dX9_separates_47 rfl (lv_at hl 2 rfl) ?_
  refine lv_iload_n hx hb dX9_separates_48 rfl (lv_at hl 3 rfl) ?_
  refine lv_aload_n hx hb dX9_separates_49 rfl (lv_at hl 2 rfl) ?_
  refine fw_get (C := RX9) (T := TX9) (N := 34) hx hb hts hin_X9 hown hK hF mf_obj rfl 11 (by decide) (hts (.fieldLink RX9 23 "FrontCodedIndexModel" "bytes" "[I") (by decide +kernel)) (fun _ h9 => h9) rfl dX9_separates_50 ?_
  refine lv_bipush (v := (12 : Int32)) hx hb dX9_separates_53 (by decide) ?_
  refine lv_iload_n hx hb dX9_separates_55 rfl (lv_at hl 1 rfl) ?_
  refine lv_imul hx hb dX9_separates_56 ?_
  refine lv_iload_n hx hb dX9_separates_57 rfl (lv_at hl 0 rfl) ?_
  refine fw_cV_v (As := [.int x1, .ref (ad 11), .int ((12 : Int32) * r_1), .int v_7]) (rest := []) ⟨hx, hb, hml, hown, hts⟩ (cc_X9_sets l G had h) (⟨callB_of 4 hts ggX9_separates_X9_sets rfl rfl rfl (hts (.initialized RX9) (by decide +kernel)) (hts (.methodLink RX9 133 yX9_sets) (by decide +kernel)) (by decide +kernel) ⟨Nat.le_of_ble_eq_true rfl, Nat.le_of_ble_eq_true rfl⟩, hts (.instanceMethod yX9_sets) (by decide +kernel), hts (.selects RX9 yX9_sets yX9_sets) (by decide +kernel)⟩) rfl mf_obj hK hZ hF hS hA rfl hl.1 rfl (Nat.le_of_ble_eq_true rfl) dX9_separates_58 ⟨Nat.zero_le _, Nat.zero_le _⟩ (fun f9 H locs h hF hS => ?_)
  obtain ⟨n_11, g_12, rfl, h⟩ := h
  exact W.vret hx hb hr (fun t ht hW => ⟨⟨(mf mo ad n_11 g_12), rfl, ⟨_, _, rfl, h⟩, by rw [ht]; exact hF, FK.moved hW.alike hK⟩, hS.F ht⟩) hS.2.2 dX9_separates_61
theorem dX9_gives_0 : decode cX9_gives 0 = .ok (.aload_n 0, 1) := by decide +kernel
theorem dX9_gives_1 : decode cX9_gives 1 = .ok (.iconst 0, 1) := by decide +kernel
theorem dX9_gives_2 : decode cX9_gives 2 = .ok (.iload_n 2, 1) := by decide +kernel
theorem dX9_gives_3 : decode cX9_gives 3 = .ok (.ifCond .eq 9, 3) := by decide +kernel
theorem dX9_gives_6 : decode cX9_gives 6 = .ok (.iload_n 1, 1) := by decide +kernel
theorem dX9_gives_7 : decode cX9_gives 7 = .ok (.iconst 1, 1) := by decide +kernel
theorem dX9_gives_8 : decode cX9_gives 8 = .ok (.isub, 1) := by decide +kernel
theorem dX9_gives_9 : decode cX9_gives 9 = .ok (.goto 4, 3) := by decide +kernel
theorem dX9_gives_12 : decode cX9_gives 12 = .ok (.iload_n 1, 1) := by decide +kernel
theorem dX9_gives_13 : decode cX9_gives 13 = .ok (.invokevirtual 140, 3) := by decide +kernel
theorem dX9_gives_16 : decode cX9_gives 16 = .ok (.ifCond .ne 5, 3) := by decide +kernel
theorem dX9_gives_19 : decode cX9_gives 19 = .ok (.iconst 0, 1) := by decide +kernel
theorem dX9_gives_20 : decode cX9_gives 20 = .ok (.ireturn, 1) := by decide +kernel
theorem dX9_gives_21 : decode cX9_gives 21 = .ok (.aload_n 0, 1) := by decide +kernel
theorem dX9_gives_22 : decode cX9_gives 22 = .ok (.iconst 0, 1) := by decide +kernel
theorem dX9_gives_23 : decode cX9_gives 23 = .ok (.iload_n 1, 1) := by decide +kernel
theorem dX9_gives_24 : decode cX9_gives 24 = .ok (.invokevirtual 117, 3) := by decide +kernel
theorem dX9_gives_27 : decode cX9_gives 27 = .ok (.istore_n 3, 1) := by decide +kernel
theorem dX9_gives_28 : decode cX9_gives 28 = .ok (.aload_n 0, 1) := by decide +kernel
theorem dX9_gives_29 : decode cX9_gives 29 = .ok (.getfield 35, 3) := by decide +kernel
theorem dX9_gives_32 : decode cX9_gives 32 = .ok (.iconst 0, 1) := by decide +kernel
theorem dX9_gives_33 : decode cX9_gives 33 = .ok (.iload_n 1, 1) := by decide +kernel
theorem dX9_gives_34 : decode cX9_gives 34 = .ok (.invokestatic 113, 3) := by decide +kernel
theorem dX9_gives_37 : decode cX9_gives 37 = .ok (.iaload, 1) := by decide +kernel
theorem dX9_gives_38 : decode cX9_gives 38 = .ok (.istore 4, 2) := by decide +kernel
theorem dX9_gives_40 : decode cX9_gives 40 = .ok (.iconst 1, 1) := by decide +kernel
theorem dX9_gives_41 : decode cX9_gives 41 = .ok (.istore 5, 2) := by decide +kernel
theorem dX9_gives_43 : decode cX9_gives 43 = .ok (.iload_n 2, 1) := by decide +kernel
theorem dX9_gives_44 : decode cX9_gives 44 = .ok (.ifCond .eq 19, 3) := by decide +kernel
theorem dX9_gives_47 : decode cX9_gives 47 = .ok (.aload_n 0, 1) := by decide +kernel
theorem dX9_gives_48 : decode cX9_gives 48 = .ok (.iload_n 3, 1) := by decide +kernel
theorem dX9_gives_49 : decode cX9_gives 49 = .ok (.iload 5, 2) := by decide +kernel
theorem dX9_gives_51 : decode cX9_gives 51 = .ok (.iadd, 1) := by decide +kernel
theorem dX9_gives_52 : decode cX9_gives 52 = .ok (.iload 4, 2) := by decide +kernel
theorem dX9_gives_54 : decode cX9_gives 54 = .ok (.iload 5, 2) := by decide +kernel
theorem dX9_gives_56 : decode cX9_gives 56 = .ok (.isub, 1) := by decide +kernel
theorem dX9_gives_57 : decode cX9_gives 57 = .ok (.invokevirtual 123, 3) := by decide +kernel
theorem dX9_gives_60 : decode cX9_gives 60 = .ok (.goto 13, 3) := by decide +kernel
theorem dX9_gives_63 : decode cX9_gives 63 = .ok (.aload_n 0, 1) := by decide +kernel
theorem dX9_gives_64 : decode cX9_gives 64 = .ok (.iload_n 3, 1) := by decide +kernel
theorem dX9_gives_65 : decode cX9_gives 65 = .ok (.iload 4, 2) := by decide +kernel
theorem dX9_gives_67 : decode cX9_gives 67 = .ok (.iload 5, 2) := by decide +kernel
theorem dX9_gives_69 : decode cX9_gives 69 = .ok (.isub, 1) := by decide +kernel
theorem dX9_gives_70 : decode cX9_gives 70 = .ok (.invokevirtual 123, 3) := by decide +kernel
theorem dX9_gives_73 : decode cX9_gives 73 = .ok (.aload_n 0, 1) := by decide +kernel
theorem dX9_gives_74 : decode cX9_gives 74 = .ok (.getfield 16, 3) := by decide +kernel
theorem dX9_gives_77 : decode cX9_gives 77 = .ok (.if_icmp .le 9, 3) := by decide +kernel
theorem dX9_gives_80 : decode cX9_gives 80 = .ok (.iinc 5 1, 3) := by decide +kernel
theorem dX9_gives_83 : decode cX9_gives 83 = .ok (.goto (-40), 3) := by decide +kernel
theorem dX9_gives_86 : decode cX9_gives 86 = .ok (.iload_n 2, 1) := by decide +kernel
theorem dX9_gives_87 : decode cX9_gives 87 = .ok (.ifCond .eq 9, 3) := by decide +kernel
theorem dX9_gives_90 : decode cX9_gives 90 = .ok (.iload_n 1, 1) := by decide +kernel
theorem dX9_gives_91 : decode cX9_gives 91 = .ok (.iconst 1, 1) := by decide +kernel
theorem dX9_gives_92 : decode cX9_gives 92 = .ok (.isub, 1) := by decide +kernel
theorem dX9_gives_93 : decode cX9_gives 93 = .ok (.goto 6, 3) := by decide +kernel
theorem dX9_gives_96 : decode cX9_gives 96 = .ok (.iload_n 1, 1) := by decide +kernel
theorem dX9_gives_97 : decode cX9_gives 97 = .ok (.iconst 1, 1) := by decide +kernel
theorem dX9_gives_98 : decode cX9_gives 98 = .ok (.iadd, 1) := by decide +kernel
theorem dX9_gives_99 : decode cX9_gives 99 = .ok (.istore 6, 2) := by decide +kernel
theorem dX9_gives_101 : decode cX9_gives 101 = .ok (.aload_n 0, 1) := by decide +kernel
theorem dX9_gives_102 : decode cX9_gives 102 = .ok (.getfield 35, 3) := by decide +kernel
theorem dX9_gives_105 : decode cX9_gives 105 = .ok (.iconst 0, 1) := by decide +kernel
theorem dX9_gives_106 : decode cX9_gives 106 = .ok (.iload 6, 2) := by decide +kernel
theorem dX9_gives_108 : decode cX9_gives 108 = .ok (.invokestatic 113, 3) := by decide +kernel
theorem dX9_gives_111 : decode cX9_gives 111 = .ok (.iaload, 1) := by decide +kernel
theorem dX9_gives_112 : decode cX9_gives 112 = .ok (.iload 5, 2) := by decide +kernel
theorem dX9_gives_114 : decode cX9_gives 114 = .ok (.iadd, 1) := by decide +kernel
theorem dX9_gives_115 : decode cX9_gives 115 = .ok (.istore 7, 2) := by decide +kernel
theorem dX9_gives_117 : decode cX9_gives 117 = .ok (.iload_n 2, 1) := by decide +kernel
theorem dX9_gives_118 : decode cX9_gives 118 = .ok (.ifCond .eq 19, 3) := by decide +kernel
theorem dX9_gives_121 : decode cX9_gives 121 = .ok (.aload_n 0, 1) := by decide +kernel
theorem dX9_gives_122 : decode cX9_gives 122 = .ok (.aload_n 0, 1) := by decide +kernel
theorem dX9_gives_123 : decode cX9_gives 123 = .ok (.iconst 0, 1) := by decide +kernel
theorem dX9_gives_124 : decode cX9_gives 124 = .ok (.iload 6, 2) := by decide +kernel
theorem dX9_gives_126 : decode cX9_gives 126 = .ok (.invokevirtual 117, 3) := by decide +kernel
theorem dX9_gives_129 : decode cX9_gives 129 = .ok (.iload 7, 2) := by decide +kernel
theorem dX9_gives_131 : decode cX9_gives 131 = .ok (.invokevirtual 123, 3) := by decide +kernel
theorem dX9_gives_134 : decode cX9_gives 134 = .ok (.goto 16, 3) := by decide +kernel
theorem dX9_gives_137 : decode cX9_gives 137 = .ok (.aload_n 0, 1) := by decide +kernel
theorem dX9_gives_138 : decode cX9_gives 138 = .ok (.iload_n 3, 1) := by decide +kernel
theorem dX9_gives_139 : decode cX9_gives 139 = .ok (.iload 4, 2) := by decide +kernel
theorem dX9_gives_141 : decode cX9_gives 141 = .ok (.iadd, 1) := by decide +kernel
theorem dX9_gives_142 : decode cX9_gives 142 = .ok (.iload 5, 2) := by decide +kernel
theorem dX9_gives_144 : decode cX9_gives 144 = .ok (.isub, 1) := by decide +kernel
theorem dX9_gives_145 : decode cX9_gives 145 = .ok (.iload 7, 2) := by decide +kernel
theorem dX9_gives_147 : decode cX9_gives 147 = .ok (.invokevirtual 123, 3) := by decide +kernel
theorem dX9_gives_150 : decode cX9_gives 150 = .ok (.istore 8, 2) := by decide +kernel
theorem dX9_gives_152 : decode cX9_gives 152 = .ok (.iload 8, 2) := by decide +kernel
theorem dX9_gives_154 : decode cX9_gives 154 = .ok (.aload_n 0, 1) := by decide +kernel
theorem dX9_gives_155 : decode cX9_gives 155 = .ok (.getfield 16, 3) := by decide +kernel
theorem dX9_gives_158 : decode cX9_gives 158 = .ok (.if_icmp .le 5, 3) := by decide +kernel
theorem dX9_gives_161 : decode cX9_gives 161 = .ok (.iconst 0, 1) := by decide +kernel
theorem dX9_gives_162 : decode cX9_gives 162 = .ok (.ireturn, 1) := by decide +kernel
theorem dX9_gives_163 : decode cX9_gives 163 = .ok (.aload_n 0, 1) := by decide +kernel
theorem dX9_gives_164 : decode cX9_gives 164 = .ok (.getfield 35, 3) := by decide +kernel
theorem dX9_gives_167 : decode cX9_gives 167 = .ok (.iconst 0, 1) := by decide +kernel
theorem dX9_gives_168 : decode cX9_gives 168 = .ok (.iload_n 1, 1) := by decide +kernel
theorem dX9_gives_169 : decode cX9_gives 169 = .ok (.invokestatic 113, 3) := by decide +kernel
theorem dX9_gives_172 : decode cX9_gives 172 = .ok (.dup2, 1) := by decide +kernel
theorem dX9_gives_173 : decode cX9_gives 173 = .ok (.iaload, 1) := by decide +kernel
theorem dX9_gives_174 : decode cX9_gives 174 = .ok (.iload 5, 2) := by decide +kernel
theorem dX9_gives_176 : decode cX9_gives 176 = .ok (.isub, 1) := by decide +kernel
theorem dX9_gives_177 : decode cX9_gives 177 = .ok (.iastore, 1) := by decide +kernel
theorem dX9_gives_178 : decode cX9_gives 178 = .ok (.aload_n 0, 1) := by decide +kernel
theorem dX9_gives_179 : decode cX9_gives 179 = .ok (.getfield 35, 3) := by decide +kernel
theorem dX9_gives_182 : decode cX9_gives 182 = .ok (.iconst 0, 1) := by decide +kernel
theorem dX9_gives_183 : decode cX9_gives 183 = .ok (.iload 6, 2) := by decide +kernel
theorem dX9_gives_185 : decode cX9_gives 185 = .ok (.invokestatic 113, 3) := by decide +kernel
theorem dX9_gives_188 : decode cX9_gives 188 = .ok (.dup2, 1) := by decide +kernel
theorem dX9_gives_189 : decode cX9_gives 189 = .ok (.iaload, 1) := by decide +kernel
theorem dX9_gives_190 : decode cX9_gives 190 = .ok (.iload 5, 2) := by decide +kernel
theorem dX9_gives_192 : decode cX9_gives 192 = .ok (.iadd, 1) := by decide +kernel
theorem dX9_gives_193 : decode cX9_gives 193 = .ok (.iastore, 1) := by decide +kernel
theorem dX9_gives_194 : decode cX9_gives 194 = .ok (.aload_n 0, 1) := by decide +kernel
theorem dX9_gives_195 : decode cX9_gives 195 = .ok (.iload_n 2, 1) := by decide +kernel
theorem dX9_gives_196 : decode cX9_gives 196 = .ok (.ifCond .eq 9, 3) := by decide +kernel
theorem dX9_gives_199 : decode cX9_gives 199 = .ok (.iload_n 1, 1) := by decide +kernel
theorem dX9_gives_200 : decode cX9_gives 200 = .ok (.iconst 1, 1) := by decide +kernel
theorem dX9_gives_201 : decode cX9_gives 201 = .ok (.isub, 1) := by decide +kernel
theorem dX9_gives_202 : decode cX9_gives 202 = .ok (.goto 4, 3) := by decide +kernel
theorem dX9_gives_205 : decode cX9_gives 205 = .ok (.iload_n 1, 1) := by decide +kernel
theorem dX9_gives_206 : decode cX9_gives 206 = .ok (.invokevirtual 144, 3) := by decide +kernel
theorem dX9_gives_209 : decode cX9_gives 209 = .ok (.aload_n 0, 1) := by decide +kernel
theorem dX9_gives_210 : decode cX9_gives 210 = .ok (.dup, 1) := by decide +kernel
theorem dX9_gives_211 : decode cX9_gives 211 = .ok (.getfield 148, 3) := by decide +kernel
theorem dX9_gives_214 : decode cX9_gives 214 = .ok (.iconst 1, 1) := by decide +kernel
theorem dX9_gives_215 : decode cX9_gives 215 = .ok (.iadd, 1) := by decide +kernel
theorem dX9_gives_216 : decode cX9_gives 216 = .ok (.putfield 148, 3) := by decide +kernel
theorem dX9_gives_219 : decode cX9_gives 219 = .ok (.iconst 1, 1) := by decide +kernel
theorem dX9_gives_220 : decode cX9_gives 220 = .ok (.ireturn, 1) := by decide +kernel
set_option maxRecDepth 20000 in
theorem ggX9_gives_X9_areSiblings : GoodIn wsX9_gives wsX9_areSiblings := goodIn_r _ [8, 9, 10, 11, 12, 13, 7, 14, 1, 15, 16, 17, 41, 42, 43, 44, 45, 46, 47, 48, 49, 50, 51, 52, 53, 54, 55, 56, 57, 58, 59, 60, 61, 62, 63, 64, 65, 66, 67, 68, 69, 70, 71, 72, 73, 74] (by decide +kernel) (by decide +kernel)
set_option maxRecDepth 20000 in
theorem ggX9_gives_X9_at : GoodIn wsX9_gives wsX9_at := goodIn_r _ [17] (by decide +kernel) (by decide +kernel)
set_option maxRecDepth 20000 in
theorem ggX9_gives_X9_firstOf : GoodIn wsX9_gives wsX9_firstOf := goodIn_r _ [21, 1, 15, 16, 7, 17, 41, 42, 43, 44, 45, 46, 47, 48, 49, 50, 51, 52, 53, 54, 55, 56, 57, 58, 59, 60, 61, 62, 63, 64, 65, 66, 67, 68, 69, 70, 71, 72, 73, 74] (by decide +kernel) (by decide +kernel)
set_option maxRecDepth 20000 in
theorem ggX9_gives_X9_leafSize : GoodIn wsX9_gives wsX9_leafSize := goodIn_r _ [25, 26, 27, 28, 29, 7, 30, 41, 42, 43, 44, 45, 46, 47, 48, 49, 50, 51, 52, 53, 54, 55, 56, 57, 58, 59, 60, 61, 62, 63, 64, 65, 66, 67, 68, 69, 70, 71, 72, 73, 74] (by decide +kernel) (by decide +kernel)
set_option maxRecDepth 20000 in
theorem ggX9_gives_X9_separates : GoodIn wsX9_gives wsX9_separates := goodIn_r _ [34, 26, 27, 18, 19, 20, 7, 21, 1, 15, 16, 17, 28, 29, 30, 35, 36, 37, 38, 39, 40, 41, 42, 43, 44, 45, 46, 47, 48, 49, 50, 51, 52, 53, 54, 55, 56, 57, 58, 59, 60, 61, 62, 63, 64, 65, 66, 67, 68, 69, 70, 71, 72, 73, 74] (by decide +kernel) (by decide +kernel)
def wp_X9_gives_206  (z0 : Int32) (n : Nat → Int32) (g : Nat → Nat → Int32) (K : Int32 → (Nat → Int32) → (Nat → Nat → Int32) → Prop)  : Prop :=
  wp_X9_separates z0 n g (fun n_3 g_4 => ∀ n_5 : Nat → Int32, n_5 = upd n_3 7 ((n_3 7) + (1 : Int32)) → K (1 : Int32) n_5 g_4)
def wp_X9_gives_150 (x1 : Int32) (x2 : Int32) (y5 : Int32) (y6 : Int32) (z0 : Int32) (n : Nat → Int32) (g : Nat → Nat → Int32) (K : Int32 → (Nat → Int32) → (Nat → Nat → Int32) → Prop)  : Prop :=
  ((z0 ≤ (n 5) → wp_X9_at (0 : Int32) x1 n g (fun r_7 => vp_in r_7 (mlen 15) ∧ ∀ v_9 : Int32, v_9 = g 15 (r_7).toNatClampNeg → vp_in r_7 (mlen 15) ∧ ∀ g_11 : Nat → Nat → Int32, g_11 = mup g 15 (r_7).toNatClampNeg (v_9 - y5) → wp_X9_at (0 : Int32) y6 n g_11 (fun r_12 => vp_in r_12 (mlen 15) ∧ ∀ v_14 : Int32, v_14 = g_11 15 (r_12).toNatClampNeg → vp_in r_12 (mlen 15) ∧ ∀ g_16 : Nat → Nat → Int32, g_16 = mup g_11 15 (r_12).toNatClampNeg (v_14 + y5) → ((x2 = (0 : Int32) → wp_X9_gives_206 x1 n g_16 K) ∧
 (¬ (x2 = (0 : Int32)) → wp_X9_gives_206 (x1 - (1 : Int32)) n g_16 K))))) ∧
 (¬ (z0 ≤ (n 5)) → K (0 : Int32) n g))
def wp_X9_gives_99 (x1 : Int32) (x2 : Int32) (y3 : Int32) (y4 : Int32) (y5 : Int32) (z0 : Int32) (n : Nat → Int32) (g : Nat → Nat → Int32) (K : Int32 → (Nat → Int32) → (Nat → Nat → Int32) → Prop)  : Prop :=
  wp_X9_at (0 : Int32) z0 n g (fun r_18 => vp_in r_18 (mlen 15) ∧ ∀ v_20 : Int32, v_20 = g 15 (r_18).toNatClampNeg → ∀ v_21 : Int32, v_21 = (v_20 + y5) → ((x2 = (0 : Int32) → wp_X9_leafSize ((y3 + y4) - y5) v_21 n g (fun r_24 => wp_X9_gives_150 x1 x2 y5 z0 r_24 n g K)) ∧
 (¬ (x2 = (0 : Int32)) → wp_X9_firstOf (0 : Int32) z0 n g (fun r_25 => wp_X9_leafSize r_25 v_21 n g (fun r_26 => wp_X9_gives_150 x1 x2 y5 z0 r_26 n g K)))))
def wp_X9_gives_73 (x1 : Int32) (x2 : Int32) (y3 : Int32) (y4 : Int32) (y5 : Int32) (z0 : Int32) (n : Nat → Int32) (g : Nat → Nat → Int32) (K : Int32 → (Nat → Int32) → (Nat → Nat → Int32) → Prop) (C43 : Int32 × (Nat → Int32) × (Nat → Nat → Int32) → Prop) : Prop :=
  ((z0 ≤ (n 5) → ((x2 = (0 : Int32) → wp_X9_gives_99 x1 x2 y3 y4 y5 (x1 + (1 : Int32)) n g K) ∧
 (¬ (x2 = (0 : Int32)) → wp_X9_gives_99 x1 x2 y3 y4 y5 (x1 - (1 : Int32)) n g K))) ∧
 (¬ (z0 ≤ (n 5)) → ∀ v_29 : Int32, v_29 = y5 + 1 → C43 (v_29, n, g)))
def wp_X9_gives_43 (x1 : Int32) (x2 : Int32) (y3 : Int32) (y4 : Int32) (K : Int32 → (Nat → Int32) → (Nat → Nat → Int32) → Prop)  (C43 : Int32 × (Nat → Int32) × (Nat → Nat → Int32) → Prop) : Int32 × (Nat → Int32) × (Nat → Nat → Int32) → Prop := fun s9 => match s9 with
  | (y5, n, g) => ((x2 = (0 : Int32) → wp_X9_leafSize y3 (y4 - y5) n g (fun r_32 => wp_X9_gives_73 x1 x2 y3 y4 y5 r_32 n g K C43)) ∧
 (¬ (x2 = (0 : Int32)) → wp_X9_leafSize (y3 + y5) (y4 - y5) n g (fun r_33 => wp_X9_gives_73 x1 x2 y3 y4 y5 r_33 n g K C43)))
def wp_X9_gives_13 (x1 : Int32) (x2 : Int32) (z0 : Int32) (z1 : Int32) (n : Nat → Int32) (g : Nat → Nat → Int32) (K : Int32 → (Nat → Int32) → (Nat → Nat → Int32) → Prop)  : Prop :=
  wp_X9_areSiblings z1 z0 n g (fun r_34 => ((¬ r_34 = (0 : Int32) → wp_X9_firstOf (0 : Int32) x1 n g (fun r_36 => wp_X9_at (0 : Int32) x1 n g (fun r_37 => vp_in r_37 (mlen 15) ∧ ∀ v_39 : Int32, v_39 = g 15 (r_37).toNatClampNeg → ∃ n_40, loopW (wp_X9_gives_43 x1 x2 r_36 v_39 K) n_40 ((1 : Int32), n, g)))) ∧
 (r_34 = (0 : Int32) → K (0 : Int32) n g)))
def wp_X9_gives (x1 : Int32) (x2 : Int32) (n : Nat → Int32) (g : Nat → Nat → Int32) (K : Int32 → (Nat → Int32) → (Nat → Nat → Int32) → Prop) : Prop :=
  ((x2 = (0 : Int32) → wp_X9_gives_13 x1 x2 x1 (0 : Int32) n g K) ∧
 (¬ (x2 = (0 : Int32)) → wp_X9_gives_13 x1 x2 (x1 - (1 : Int32)) (0 : Int32) n g K))
set_option maxHeartbeats 4000000 in
set_option maxRecDepth 100000 in
theorem cc_X9_gives (l : Launch) (G : GG) {mo : Nat} {ad : Nat → Nat} (had : MAd mo ad) {n : Nat → Int32} {g : Nat → Nat → Int32} {sz : Nat} {x1 : Int32} {x2 : Int32} {K : Int32 → (Nat → Int32) → (Nat → Nat → Int32) → Prop} (h : wp_X9_gives x1 x2 n g K) : Met l yX9_gives wsX9_gives ({ frames := 3, cells := 0, slots := 0, locals := 68 } : Room) (FP G [.ref mo, .int x1, .int x2] (mf mo ad n g) sz) (va_Qi (fun r f9 => ∃ n9 g9, f9 = mf mo ad n9 g9 ∧ K r n9 g9 : Int32 → FT → Prop) (FB G (fA (mf mo ad n g) sz)) (fA (mf mo ad n g) sz)) 0 0 (fA (mf mo ad n g) sz) := by
  refine Met.ofW (cc := cX9_gives) (maxL := 9) (ret := (some .boolean)) (by decide) rfl ?_
  intro p e s m args below meth c s₁ B hml hv
  obtain ⟨rfl, hsz, hF, hK, hZ⟩ := hv
  have hx := B.exec
  have hb := B.bytes
  have hr := B.returns
  have hts := atoms_spec (ws := wsX9_gives) B.pre
  have hown : s.vm.findClass RX9 = some m.cls := findClass_of_methodNamed B.named
  have hlocks := B.notSynchronized
  subst hsz
  have hF := hF.self (sz := s.heap.size)
  generalize hAe : fA (mf mo ad n g) s.heap.size = A at hF hZ ⊢
  have hA : ∀ q : Nat, s.heap.size ≤ q → A q := fun q h => by rw [← hAe]; exact Or.inr h
  have hS : va_S A s.heap s.heap [] := va_S.rf
  have hin_X9 : ∀ w ∈ wsX90, w ∈ wsX9_gives := by decide +kernel
  have J206 : ∀ (z0 : Int32) (n : Nat → Int32) (g : Nat → Nat → Int32) (H : Heap) (locs : List Loc) (ls : Array Slot), wp_X9_gives_206 z0 n g K  → Fw G A (mf mo ad n g) H → va_S A s.heap H locs → lv_has ls 9 [(0, .ref mo)] → W p l e ({ frames := 3, cells := 0, slots := 0, locals := 68 } : Room) s m ([.ref mo, .int x1, .int x2] : List Value).toArray below meth c H locs 0 0 (MQ below (va_Qi (fun r f9 => ∃ n9 g9, f9 = mf mo ad n9 g9 ∧ K r n9 g9 : Int32 → FT → Prop) (FB G A) A) ([.ref mo, .int x1, .int x2] : List Value).toArray s 0 0 A) (F0 m 206 ls [.int z0, .ref mo]) := by
    intro z0 n g H locs ls h hF hS hl
    unfold wp_X9_gives_206 at h
    refine fw_cV_v (As := [.int z0]) (rest := []) ⟨hx, hb, hml, hown, hts⟩ (cc_X9_separates l G had h) (⟨callB_of 1 hts ggX9_gives_X9_separates rfl rfl rfl (hts (.initialized RX9) (by decide +kernel)) (hts (.methodLink RX9 144 yX9_separates) (by decide +kernel)) (by decide +kernel) ⟨Nat.le_of_ble_eq_true rfl, Nat.le_of_ble_eq_true rfl⟩, hts (.instanceMethod yX9_separates) (by decide +kernel), hts (.selects RX9 yX9_separates yX9_separates) (by decide +kernel)⟩) rfl mf_obj hK hZ hF hS hA rfl hl.1 rfl (Nat.le_of_ble_eq_true rfl) dX9_gives_206 ⟨Nat.zero_le _, Nat.zero_le _⟩ (fun f9 H locs h hF hS => ?_)
    obtain ⟨n_3, g_4, rfl, h⟩ := h
    refine lv_aload_n hx hb dX9_gives_209 rfl (lv_at hl 0 rfl) ?_
    refine lv_dup hx hb dX9_gives_210 rfl ?_
    refine fw_get (C := RX9) (T := TX9) (N := 34) hx hb hts hin_X9 hown hK hF mf_obj rfl 7 (by decide) (hts (.fieldLink RX9 148 "FrontCodedIndexModel" "moves" "I") (by decide +kernel)) (fun _ h9 => h9) rfl dX9_gives_211 ?_
    refine lv_iconst (v := (1 : Int32)) hx hb dX9_gives_214 (by decide) ?_
    refine lv_iadd hx hb dX9_gives_215 ?_
    refine fw_put (v := .int ((n_3 7) + (1 : Int32))) (ty := .int) (C := RX9) (T := TX9) (N := 34) hx hb hts hin_X9 tyX9 tyX9_ok nmX9 hown hK hF hS mf_obj rfl 7 (by decide) (hts (.fieldLink RX9 148 "FrontCodedIndexModel" "moves" "I") (by decide +kernel)) (fun _ h9 => h9) rfl (by decide +kernel) rfl rfl (show 7 < 34 by decide) dX9_gives_216 (fun H locs hF hS => ?_)
    rw [mf_put 7 ((n_3 7) + (1 : Int32)) rfl] at hF
    obtain ⟨n_5, hn_n_5⟩ : ∃ z, z = upd n_3 7 ((n_3 7) + (1 : Int32)) := ⟨_, rfl⟩
    rw [← hn_n_5] at hF; have h := h n_5 hn_n_5
    refine lv_iconst (v := (1 : Int32)) hx hb dX9_gives_219 (by decide) ?_
    exact W.zret (v := (1 : Int32)) hx hb hr (by decide) (fun t ht hW => ⟨⟨(1 : Int32), (mf mo ad n_5 g_4), rfl, ⟨_, _, rfl, h⟩, by rw [ht]; exact hF, FK.moved hW.alike hK⟩, hS.F ht⟩) hS.2.2 dX9_gives_220
  have J150 : ∀ (y5 : Int32) (y6 : Int32) (z0 : Int32) (n : Nat → Int32) (g : Nat → Nat → Int32) (H : Heap) (locs : List Loc) (ls : Array Slot), wp_X9_gives_150 x1 x2 y5 y6 z0 n g K  → Fw G A (mf mo ad n g) H → va_S A s.heap H locs → lv_has ls 9 [(0, .ref mo), (1, .int x1), (2, .int x2), (5, .int y5), (6, .int y6)] → W p l e ({ frames := 3, cells := 0, slots := 0, locals := 68 } : Room) s m ([.ref mo, .int x1, .int x2] : List Value).toArray below meth c H locs 0 0 (MQ below (va_Qi (fun r f9 => ∃ n9 g9, f9 = mf mo ad n9 g9 ∧ K r n9 g9 : Int32 → FT → Prop) (FB G A) A) ([.ref mo, .int x1, .int x2] : List Value).toArray s 0 0 A) (F0 m 150 ls [.int z0]) := by
    intro y5 y6 z0 n g H locs ls h hF hS hl
    unfold wp_X9_gives_150 at h
    refine lv_istore (lv' := [(8, .int z0), (0, .ref mo), (1, .int x1), (2, .int x2), (5, .int y5), (6, .int y6)]) hx hb dX9_gives_150 hl (by decide) rfl (fun ls hl => ?_)
    refine lv_iload hx hb dX9_gives_152 (lv_at hl 0 rfl) ?_
    refine lv_aload_n hx hb dX9_gives_154 rfl (lv_at hl 1 rfl) ?_
    refine fw_get (C := RX9) (T := TX9) (N := 34) hx hb hts hin_X9 hown hK hF mf_obj rfl 5 (by decide) (hts (.fieldLink RX9 16 "FrontCodedIndexModel" "capacity" "I") (by decide +kernel)) (fun _ h9 => h9) rfl dX9_gives_155 ?_
    obtain ⟨h1, h2⟩ := h
    refine lv_icmp_le (tgt := 163) hx hb dX9_gives_158 (by decide) (fun c_6 => ?_) (fun c_6 => ?_)
    · have h := h1 c_6
      refine lv_aload_n hx hb dX9_gives_163 rfl (lv_at hl 1 rfl) ?_
      refine fw_get (C := RX9) (T := TX9) (N := 34) hx hb hts hin_X9 hown hK hF mf_obj rfl 15 (by decide) (hts (.fieldLink RX9 35 "FrontCodedIndexModel" "parts" "[I") (by decide +kernel)) (fun _ h9 => h9) rfl dX9_gives_164 ?_
      refine lv_iconst (v := (0 : Int32)) hx hb dX9_gives_167 (by decide) ?_
      refine lv_iload_n hx hb dX9_gives_168 rfl (lv_at hl 2 rfl) ?_
      refine fw_cS_i_p (As := [.int (0 : Int32), .int x1]) (rest := [.ref (ad 15)]) ⟨hx, hb, hml, hown, hts⟩ (cc_X9_at l G had h) (⟨callB_of 2 hts ggX9_gives_X9_at rfl rfl rfl (hts (.initialized RX9) (by decide +kernel)) (hts (.methodLink RX9 113 yX9_at) (by decide +kernel)) (by decide +kernel) ⟨Nat.le_of_ble_eq_true rfl, Nat.le_of_ble_eq_true rfl⟩, hts (.static yX9_at) (by decide +kernel)⟩) hK hZ hF hS hA rfl hl.1 rfl (Nat.le_of_ble_eq_true rfl) dX9_gives_169 ⟨Nat.zero_le _, Nat.zero_le _⟩ (fun r_7 H locs h hF hS => ?_)
      refine lv_dup2_11 hx hb dX9_gives_172 rfl rfl ?_
      obtain ⟨hi_i_8, h⟩ := h
      refine fw_iald hx hb hK hF (mf_arr had 15 (by decide)) hi_i_8 dX9_gives_173 ?_
      refine lv_topi (fun v_9 e_v_9 => ?_)
      have h := h v_9 e_v_9
      refine lv_iload hx hb dX9_gives_174 (lv_at hl 4 rfl) ?_
      refine lv_isub hx hb dX9_gives_176 ?_
      obtain ⟨hi_i_10, h⟩ := h
      refine fw_iast hx hb hK hF hS (mf_arr had 15 (by decide)) hi_i_10 dX9_gives_177 (fun H locs hF hS => ?_)
      rw [mf_st had 15 (by decide)] at hF
      obtain ⟨g_11, hg_g_11⟩ : ∃ z, z = mup g 15 (r_7).toNatClampNeg (v_9 - y5) := ⟨_, rfl⟩
      rw [← hg_g_11] at hF; have h := h g_11 hg_g_11
      refine lv_aload_n hx hb dX9_gives_178 rfl (lv_at hl 1 rfl) ?_
      refine fw_get (C := RX9) (T := TX9) (N := 34) hx hb hts hin_X9 hown hK hF mf_obj rfl 15 (by decide) (hts (.fieldLink RX9 35 "FrontCodedIndexModel" "parts" "[I") (by decide +kernel)) (fun _ h9 => h9) rfl dX9_gives_179 ?_
      refine lv_iconst (v := (0 : Int32)) hx hb dX9_gives_182 (by decide) ?_
      refine lv_iload hx hb dX9_gives_183 (lv_at hl 5 rfl) ?_
      refine fw_cS_i_p (As := [.int (0 : Int32), .int y6]) (rest := [.ref (ad 15)]) ⟨hx, hb, hml, hown, hts⟩ (cc_X9_at l G had h) (⟨callB_of 2 hts ggX9_gives_X9_at rfl rfl rfl (hts (.initialized RX9) (by decide +kernel)) (hts (.methodLink RX9 113 yX9_at) (by decide +kernel)) (by decide +kernel) ⟨Nat.le_of_ble_eq_true rfl, Nat.le_of_ble_eq_true rfl⟩, hts (.static yX9_at) (by decide +kernel)⟩) hK hZ hF hS hA rfl hl.1 rfl (Nat.le_of_ble_eq_true rfl) dX9_gives_185 ⟨Nat.zero_le _, Nat.zero_le _⟩ (fun r_12 H locs h hF hS => ?_)
      refine lv_dup2_11 hx hb dX9_gives_188 rfl rfl ?_
      obtain ⟨hi_i_13, h⟩ := h
      refine fw_iald hx hb hK hF (mf_arr had 15 (by decide)) hi_i_13 dX9_gives_189 ?_
      refine lv_topi (fun v_14 e_v_14 => ?_)
      have h := h v_14 e_v_14
      refine lv_iload hx hb dX9_gives_190 (lv_at hl 4 rfl) ?_
      refine lv_iadd hx hb dX9_gives_192 ?_
      obtain ⟨hi_i_15, h⟩ := h
      refine fw_iast hx hb hK hF hS (mf_arr had 15 (by decide)) hi_i_15 dX9_gives_193 (fun H locs hF hS => ?_)
      rw [mf_st had 15 (by decide)] at hF
      obtain ⟨g_16, hg_g_16⟩ : ∃ z, z = mup g_11 15 (r_12).toNatClampNeg (v_14 + y5) := ⟨_, rfl⟩
      rw [← hg_g_16] at hF; have h := h g_16 hg_g_16
      refine lv_aload_n hx hb dX9_gives_194 rfl (lv_at hl 1 rfl) ?_
      refine lv_iload_n hx hb dX9_gives_195 rfl (lv_at hl 3 rfl) ?_
      obtain ⟨h1, h2⟩ := h
      refine lv_if_eq (tgt := 205) hx hb dX9_gives_196 (by decide) (fun c_17 => ?_) (fun c_17 => ?_)
      · have h := h1 c_17
        refine lv_iload_n hx hb dX9_gives_205 rfl (lv_at hl 2 rfl) ?_
        exact J206 x1 n g_16 _ _ _ h hF hS (lv_sub hl [1] rfl)
      · have h := h2 c_17
        refine lv_iload_n hx hb dX9_gives_199 rfl (lv_at hl 2 rfl) ?_
        refine lv_iconst (v := (1 : Int32)) hx hb dX9_gives_200 (by decide) ?_
        refine lv_isub hx hb dX9_gives_201 ?_
        refine lv_goto (tgt := 206) hx hb dX9_gives_202 (by decide) ?_
        exact J206 (x1 - (1 : Int32)) n g_16 _ _ _ h hF hS (lv_sub hl [1] rfl)
    · have h := h2 c_6
      refine lv_iconst (v := (0 : Int32)) hx hb dX9_gives_161 (by decide) ?_
      exact W.zret (v := (0 : Int32)) hx hb hr (by decide) (fun t ht hW => ⟨⟨(0 : Int32), (mf mo ad n g), rfl, ⟨_, _, rfl, h⟩, by rw [ht]; exact hF, FK.moved hW.alike hK⟩, hS.F ht⟩) hS.2.2 dX9_gives_162
  have J99 : ∀ (y3 : Int32) (y4 : Int32) (y5 : Int32) (z0 : Int32) (n : Nat → Int32) (g : Nat → Nat → Int32) (H : Heap) (locs : List Loc) (ls : Array Slot), wp_X9_gives_99 x1 x2 y3 y4 y5 z0 n g K  → Fw G A (mf mo ad n g) H → va_S A s.heap H locs → lv_has ls 9 [(0, .ref mo), (1, .int x1), (2, .int x2), (3, .int y3), (4, .int y4), (5, .int y5)] → W p l e ({ frames := 3, cells := 0, slots := 0, locals := 68 } : Room) s m ([.ref mo, .int x1, .int x2] : List Value).toArray below meth c H locs 0 0 (MQ below (va_Qi (fun r f9 => ∃ n9 g9, f9 = mf mo ad n9 g9 ∧ K r n9 g9 : Int32 → FT → Prop) (FB G A) A) ([.ref mo, .int x1, .int x2] : List Value).toArray s 0 0 A) (F0 m 99 ls [.int z0]) := by
    intro y3 y4 y5 z0 n g H locs ls h hF hS hl
    unfold wp_X9_gives_99 at h
    refine lv_istore (lv' := [(6, .int z0), (0, .ref mo), (1, .int x1), (2, .int x2), (3, .int y3), (4, .int y4), (5, .int y5)]) hx hb dX9_gives_99 hl (by decide) rfl (fun ls hl => ?_)
    refine lv_aload_n hx hb dX9_gives_101 rfl (lv_at hl 1 rfl) ?_
    refine fw_get (C := RX9) (T := TX9) (N := 34) hx hb hts hin_X9 hown hK hF mf_obj rfl 15 (by decide) (hts (.fieldLink RX9 35 "FrontCodedIndexModel" "parts" "[I") (by decide +kernel)) (fun _ h9 => h9) rfl dX9_gives_102 ?_
    refine lv_iconst (v := (0 : Int32)) hx hb dX9_gives_105 (by decide) ?_
    refine lv_iload hx hb dX9_gives_106 (lv_at hl 0 rfl) ?_
    refine fw_cS_i_p (As := [.int (0 : Int32), .int z0]) (rest := [.ref (ad 15)]) ⟨hx, hb, hml, hown, hts⟩ (cc_X9_at l G had h) (⟨callB_of 2 hts ggX9_gives_X9_at rfl rfl rfl (hts (.initialized RX9) (by decide +kernel)) (hts (.methodLink RX9 113 yX9_at) (by decide +kernel)) (by decide +kernel) ⟨Nat.le_of_ble_eq_true rfl, Nat.le_of_ble_eq_true rfl⟩, hts (.static yX9_at) (by decide +kernel)⟩) hK hZ hF hS hA rfl hl.1 rfl (Nat.le_of_ble_eq_true rfl) dX9_gives_108 ⟨Nat.zero_le _, Nat.zero_le _⟩ (fun r_18 H locs h hF hS => ?_)
    obtain ⟨hi_i_19, h⟩ := h
    refine fw_iald hx hb hK hF (mf_arr had 15 (by decide)) hi_i_19 dX9_gives_111 ?_
    refine lv_topi (fun v_20 e_v_20 => ?_)
    have h := h v_20 e_v_20
    refine lv_iload hx hb dX9_gives_112 (lv_at hl 6 rfl) ?_
    refine lv_iadd hx hb dX9_gives_114 ?_
    refine lv_topi (fun v_21 e_22 => ?_)
    have h := h v_21 e_22
    refine lv_istore (lv' := [(7, .int v_21), (6, .int z0), (0, .ref mo), (1, .int x1), (2, .int x2), (3, .int y3), (4, .int y4), (5, .int y5)]) hx hb dX9_gives_115 hl (by decide) rfl (fun ls hl => ?_)
    refine lv_iload_n hx hb dX9_gives_117 rfl (lv_at hl 4 rfl) ?_
    obtain ⟨h1, h2⟩ := h
    refine lv_if_eq (tgt := 137) hx hb dX9_gives_118 (by decide) (fun c_23 => ?_) (fun c_23 => ?_)
    · have h := h1 c_23
      refine lv_aload_n hx hb dX9_gives_137 rfl (lv_at hl 2 rfl) ?_
      refine lv_iload_n hx hb dX9_gives_138 rfl (lv_at hl 5 rfl) ?_
      refine lv_iload hx hb dX9_gives_139 (lv_at hl 6 rfl) ?_
      refine lv_iadd hx hb dX9_gives_141 ?_
      refine lv_iload hx hb dX9_gives_142 (lv_at hl 7 rfl) ?_
      refine lv_isub hx hb dX9_gives_144 ?_
      refine lv_iload hx hb dX9_gives_145 (lv_at hl 0 rfl) ?_
      refine fw_cV_i_p (As := [.int ((y3 + y4) - y5), .int v_21]) (rest := []) ⟨hx, hb, hml, hown, hts⟩ (cc_X9_leafSize l G had h) (⟨callB_of 2 hts ggX9_gives_X9_leafSize rfl rfl rfl (hts (.initialized RX9) (by decide +kernel)) (hts (.methodLink RX9 123 yX9_leafSize) (by decide +kernel)) (by decide +kernel) ⟨Nat.le_of_ble_eq_true rfl, Nat.le_of_ble_eq_true rfl⟩, hts (.instanceMethod yX9_leafSize) (by decide +kernel), hts (.selects RX9 yX9_leafSize yX9_leafSize) (by decide +kernel)⟩) rfl mf_obj hK hZ hF hS hA rfl hl.1 rfl (Nat.le_of_ble_eq_true rfl) dX9_gives_147 ⟨Nat.zero_le _, Nat.zero_le _⟩ (fun r_24 H locs h hF hS => ?_)
      exact J150 y5 z0 r_24 n g _ _ _ h hF hS (lv_sub hl [2, 3, 4, 7, 1] rfl)
    · have h := h2 c_23
      refine lv_aload_n hx hb dX9_gives_121 rfl (lv_at hl 2 rfl) ?_
      refine lv_aload_n hx hb dX9_gives_122 rfl (lv_at hl 2 rfl) ?_
      refine lv_iconst (v := (0 : Int32)) hx hb dX9_gives_123 (by decide) ?_
      refine lv_iload hx hb dX9_gives_124 (lv_at hl 1 rfl) ?_
      refine fw_cV_i_p (As := [.int (0 : Int32), .int z0]) (rest := [.ref mo]) ⟨hx, hb, hml, hown, hts⟩ (cc_X9_firstOf l G had h) (⟨callB_of 2 hts ggX9_gives_X9_firstOf rfl rfl rfl (hts (.initialized RX9) (by decide +kernel)) (hts (.methodLink RX9 117 yX9_firstOf) (by decide +kernel)) (by decide +kernel) ⟨Nat.le_of_ble_eq_true rfl, Nat.le_of_ble_eq_true rfl⟩, hts (.instanceMethod yX9_firstOf) (by decide +kernel), hts (.selects RX9 yX9_firstOf yX9_firstOf) (by decide +kernel)⟩) rfl mf_obj hK hZ hF hS hA rfl hl.1 rfl (Nat.le_of_ble_eq_true rfl) dX9_gives_126 ⟨Nat.zero_le _, Nat.zero_le _⟩ (fun r_25 H locs h hF hS => ?_)
      refine lv_iload hx hb dX9_gives_129 (lv_at hl 0 rfl) ?_
      refine fw_cV_i_p (As := [.int r_25, .int v_21]) (rest := []) ⟨hx, hb, hml, hown, hts⟩ (cc_X9_leafSize l G had h) (⟨callB_of 2 hts ggX9_gives_X9_leafSize rfl rfl rfl (hts (.initialized RX9) (by decide +kernel)) (hts (.methodLink RX9 123 yX9_leafSize) (by decide +kernel)) (by decide +kernel) ⟨Nat.le_of_ble_eq_true rfl, Nat.le_of_ble_eq_true rfl⟩, hts (.instanceMethod yX9_leafSize) (by decide +kernel), hts (.selects RX9 yX9_leafSize yX9_leafSize) (by decide +kernel)⟩) rfl mf_obj hK hZ hF hS hA rfl hl.1 rfl (Nat.le_of_ble_eq_true rfl) dX9_gives_131 ⟨Nat.zero_le _, Nat.zero_le _⟩ (fun r_26 H locs h hF hS => ?_)
      refine lv_goto (tgt := 150) hx hb dX9_gives_134 (by decide) ?_
      exact J150 y5 z0 r_26 n g _ _ _ h hF hS (lv_sub hl [2, 3, 4, 7, 1] rfl)
  have L43 : ∀ (y3 : Int32) (y4 : Int32) (j9 : Nat) (y5 : Int32) (n : Nat → Int32) (g : Nat → Nat → Int32) (H : Heap) (locs : List Loc) (ls : Array Slot), loopW (wp_X9_gives_43 x1 x2 y3 y4 K ) j9 (y5, n, g) → Fw G A (mf mo ad n g) H → va_S A s.heap H locs → lv_has ls 9 [(0, .ref mo), (1, .int x1), (2, .int x2), (3, .int y3), (4, .int y4), (5, .int y5)] → W p l e ({ frames := 3, cells := 0, slots := 0, locals := 68 } : Room) s m ([.ref mo, .int x1, .int x2] : List Value).toArray below meth c H locs 0 0 (MQ below (va_Qi (fun r f9 => ∃ n9 g9, f9 = mf mo ad n9 g9 ∧ K r n9 g9 : Int32 → FT → Prop) (FB G A) A) ([.ref mo, .int x1, .int x2] : List Value).toArray s 0 0 A) (F0 m 43 ls []) := by
    intro y3 y4 j9
    induction j9 with
    | zero => intro y5 n g H locs ls h; exact h.elim
    | succ j9 ih43 =>
      intro y5 n g H locs ls h hF hS hl
      have h : wp_X9_gives_43 x1 x2 y3 y4 K  (loopW (wp_X9_gives_43 x1 x2 y3 y4 K ) j9) (y5, n, g) := h
      generalize loopW (wp_X9_gives_43 x1 x2 y3 y4 K ) j9 = C43 at ih43 h
      unfold wp_X9_gives_43 at h
      have J73 : ∀ (y5 : Int32) (z0 : Int32) (n : Nat → Int32) (g : Nat → Nat → Int32) (H : Heap) (locs : List Loc) (ls : Array Slot), wp_X9_gives_73 x1 x2 y3 y4 y5 z0 n g K C43 → Fw G A (mf mo ad n g) H → va_S A s.heap H locs → lv_has ls 9 [(0, .ref mo), (1, .int x1), (2, .int x2), (3, .int y3), (4, .int y4), (5, .int y5)] → W p l e ({ frames := 3, cells := 0, slots := 0, locals := 68 } : Room) s m ([.ref mo, .int x1, .int x2] : List Value).toArray below meth c H locs 0 0 (MQ below (va_Qi (fun r f9 => ∃ n9 g9, f9 = mf mo ad n9 g9 ∧ K r n9 g9 : Int32 → FT → Prop) (FB G A) A) ([.ref mo, .int x1, .int x2] : List Value).toArray s 0 0 A) (F0 m 73 ls [.int z0]) := by
        intro y5 z0 n g H locs ls h hF hS hl
        unfold wp_X9_gives_73 at h
        refine lv_aload_n hx hb dX9_gives_73 rfl (lv_at hl 0 rfl) ?_
        refine fw_get (C := RX9) (T := TX9) (N := 34) hx hb hts hin_X9 hown hK hF mf_obj rfl 5 (by decide) (hts (.fieldLink RX9 16 "FrontCodedIndexModel" "capacity" "I") (by decide +kernel)) (fun _ h9 => h9) rfl dX9_gives_74 ?_
        obtain ⟨h1, h2⟩ := h
        refine lv_icmp_le (tgt := 86) hx hb dX9_gives_77 (by decide) (fun c_27 => ?_) (fun c_27 => ?_)
        · have h := h1 c_27
          refine lv_iload_n hx hb dX9_gives_86 rfl (lv_at hl 2 rfl) ?_
          obtain ⟨h1, h2⟩ := h
          refine lv_if_eq (tgt := 96) hx hb dX9_gives_87 (by decide) (fun c_28 => ?_) (fun c_28 => ?_)
          · have h := h1 c_28
            refine lv_iload_n hx hb dX9_gives_96 rfl (lv_at hl 1 rfl) ?_
            refine lv_iconst (v := (1 : Int32)) hx hb dX9_gives_97 (by decide) ?_
            refine lv_iadd hx hb dX9_gives_98 ?_
            exact J99 y3 y4 y5 (x1 + (1 : Int32)) n g _ _ _ h hF hS (lv_sub hl [0, 1, 2, 3, 4, 5] rfl)
          · have h := h2 c_28
            refine lv_iload_n hx hb dX9_gives_90 rfl (lv_at hl 1 rfl) ?_
            refine lv_iconst (v := (1 : Int32)) hx hb dX9_gives_91 (by decide) ?_
            refine lv_isub hx hb dX9_gives_92 ?_
            refine lv_goto (tgt := 99) hx hb dX9_gives_93 (by decide) ?_
            exact J99 y3 y4 y5 (x1 - (1 : Int32)) n g _ _ _ h hF hS (lv_sub hl [0, 1, 2, 3, 4, 5] rfl)
        · have h := h2 c_27
          obtain ⟨v_29, e_30⟩ : ∃ y : Int32, y = y5 + 1 := ⟨_, rfl⟩
          have h := h v_29 e_30
          refine lv_iinc (v := v_29) (lv' := [(5, .int v_29), (0, .ref mo), (1, .int x1), (2, .int x2), (3, .int y3), (4, .int y4)]) hx hb dX9_gives_80 hl (k := 5) rfl (by rw [e_30]; rfl) (by decide) rfl (fun ls hl => ?_)
          refine lv_goto (tgt := 43) hx hb dX9_gives_83 (by decide) ?_
          exact ih43 v_29 n g _ _ _ h hF hS (lv_sub hl [1, 2, 3, 4, 5, 0] rfl)
      refine lv_iload_n hx hb dX9_gives_43 rfl (lv_at hl 2 rfl) ?_
      obtain ⟨h1, h2⟩ := h
      refine lv_if_eq (tgt := 63) hx hb dX9_gives_44 (by decide) (fun c_31 => ?_) (fun c_31 => ?_)
      · have h := h1 c_31
        refine lv_aload_n hx hb dX9_gives_63 rfl (lv_at hl 0 rfl) ?_
        refine lv_iload_n hx hb dX9_gives_64 rfl (lv_at hl 3 rfl) ?_
        refine lv_iload hx hb dX9_gives_65 (lv_at hl 4 rfl) ?_
        refine lv_iload hx hb dX9_gives_67 (lv_at hl 5 rfl) ?_
        refine lv_isub hx hb dX9_gives_69 ?_
        refine fw_cV_i_p (As := [.int y3, .int (y4 - y5)]) (rest := []) ⟨hx, hb, hml, hown, hts⟩ (cc_X9_leafSize l G had h) (⟨callB_of 2 hts ggX9_gives_X9_leafSize rfl rfl rfl (hts (.initialized RX9) (by decide +kernel)) (hts (.methodLink RX9 123 yX9_leafSize) (by decide +kernel)) (by decide +kernel) ⟨Nat.le_of_ble_eq_true rfl, Nat.le_of_ble_eq_true rfl⟩, hts (.instanceMethod yX9_leafSize) (by decide +kernel), hts (.selects RX9 yX9_leafSize yX9_leafSize) (by decide +kernel)⟩) rfl mf_obj hK hZ hF hS hA rfl hl.1 rfl (Nat.le_of_ble_eq_true rfl) dX9_gives_70 ⟨Nat.zero_le _, Nat.zero_le _⟩ (fun r_32 H locs h hF hS => ?_)
        exact J73 y5 r_32 n g _ _ _ h hF hS (lv_sub hl [0, 1, 2, 3, 4, 5] rfl)
      · have h := h2 c_31
        refine lv_aload_n hx hb dX9_gives_47 rfl (lv_at hl 0 rfl) ?_
        refine lv_iload_n hx hb dX9_gives_48 rfl (lv_at hl 3 rfl) ?_
        refine lv_iload hx hb dX9_gives_49 (lv_at hl 5 rfl) ?_
        refine lv_iadd hx hb dX9_gives_51 ?_
        refine lv_iload hx hb dX9_gives_52 (lv_at hl 4 rfl) ?_
        refine lv_iload hx hb dX9_gives_54 (lv_at hl 5 rfl) ?_
        refine lv_isub hx hb dX9_gives_56 ?_
        refine fw_cV_i_p (As := [.int (y3 + y5), .int (y4 - y5)]) (rest := []) ⟨hx, hb, hml, hown, hts⟩ (cc_X9_leafSize l G had h) (⟨callB_of 2 hts ggX9_gives_X9_leafSize rfl rfl rfl (hts (.initialized RX9) (by decide +kernel)) (hts (.methodLink RX9 123 yX9_leafSize) (by decide +kernel)) (by decide +kernel) ⟨Nat.le_of_ble_eq_true rfl, Nat.le_of_ble_eq_true rfl⟩, hts (.instanceMethod yX9_leafSize) (by decide +kernel), hts (.selects RX9 yX9_leafSize yX9_leafSize) (by decide +kernel)⟩) rfl mf_obj hK hZ hF hS hA rfl hl.1 rfl (Nat.le_of_ble_eq_true rfl) dX9_gives_57 ⟨Nat.zero_le _, Nat.zero_le _⟩ (fun r_33 H locs h hF hS => ?_)
        refine lv_goto (tgt := 73) hx hb dX9_gives_60 (by decide) ?_
        exact J73 y5 r_33 n g _ _ _ h hF hS (lv_sub hl [0, 1, 2, 3, 4, 5] rfl)
  have J13 : ∀ (z0 : Int32) (z1 : Int32) (n : Nat → Int32) (g : Nat → Nat → Int32) (H : Heap) (locs : List Loc) (ls : Array Slot), wp_X9_gives_13 x1 x2 z0 z1 n g K  → Fw G A (mf mo ad n g) H → va_S A s.heap H locs → lv_has ls 9 [(0, .ref mo), (1, .int x1), (2, .int x2)] → W p l e ({ frames := 3, cells := 0, slots := 0, locals := 68 } : Room) s m ([.ref mo, .int x1, .int x2] : List Value).toArray below meth c H locs 0 0 (MQ below (va_Qi (fun r f9 => ∃ n9 g9, f9 = mf mo ad n9 g9 ∧ K r n9 g9 : Int32 → FT → Prop) (FB G A) A) ([.ref mo, .int x1, .int x2] : List Value).toArray s 0 0 A) (F0 m 13 ls [.int z0, .int z1, .ref mo]) := by
    intro z0 z1 n g H locs ls h hF hS hl
    unfold wp_X9_gives_13 at h
    refine fw_cV_i_p (As := [.int z1, .int z0]) (rest := []) ⟨hx, hb, hml, hown, hts⟩ (cc_X9_areSiblings l G had h) (⟨callB_of 2 hts ggX9_gives_X9_areSiblings rfl rfl rfl (hts (.initialized RX9) (by decide +kernel)) (hts (.methodLink RX9 140 yX9_areSiblings) (by decide +kernel)) (by decide +kernel) ⟨Nat.le_of_ble_eq_true rfl, Nat.le_of_ble_eq_true rfl⟩, hts (.instanceMethod yX9_areSiblings) (by decide +kernel), hts (.selects RX9 yX9_areSiblings yX9_areSiblings) (by decide +kernel)⟩) rfl mf_obj hK hZ hF hS hA rfl hl.1 rfl (Nat.le_of_ble_eq_true rfl) dX9_gives_13 ⟨Nat.zero_le _, Nat.zero_le _⟩ (fun r_34 H locs h hF hS => ?_)
    obtain ⟨h1, h2⟩ := h
    refine lv_if_ne (tgt := 21) hx hb dX9_gives_16 (by decide) (fun c_35 => ?_) (fun c_35 => ?_)
    · have h := h1 c_35
      refine lv_aload_n hx hb dX9_gives_21 rfl (lv_at hl 0 rfl) ?_
      refine lv_iconst (v := (0 : Int32)) hx hb dX9_gives_22 (by decide) ?_
      refine lv_iload_n hx hb dX9_gives_23 rfl (lv_at hl 1 rfl) ?_
      refine fw_cV_i_p (As := [.int (0 : Int32), .int x1]) (rest := []) ⟨hx, hb, hml, hown, hts⟩ (cc_X9_firstOf l G had h) (⟨callB_of 2 hts ggX9_gives_X9_firstOf rfl rfl rfl (hts (.initialized RX9) (by decide +kernel)) (hts (.methodLink RX9 117 yX9_firstOf) (by decide +kernel)) (by decide +kernel) ⟨Nat.le_of_ble_eq_true rfl, Nat.le_of_ble_eq_true rfl⟩, hts (.instanceMethod yX9_firstOf) (by decide +kernel), hts (.selects RX9 yX9_firstOf yX9_firstOf) (by decide +kernel)⟩) rfl mf_obj hK hZ hF hS hA rfl hl.1 rfl (Nat.le_of_ble_eq_true rfl) dX9_gives_24 ⟨Nat.zero_le _, Nat.zero_le _⟩ (fun r_36 H locs h hF hS => ?_)
      refine lv_istore_n (lv' := [(3, .int r_36), (0, .ref mo), (1, .int x1), (2, .int x2)]) hx hb dX9_gives_27 rfl hl (by decide) rfl (fun ls hl => ?_)
      refine lv_aload_n hx hb dX9_gives_28 rfl (lv_at hl 1 rfl) ?_
      refine fw_get (C := RX9) (T := TX9) (N := 34) hx hb hts hin_X9 hown hK hF mf_obj rfl 15 (by decide) (hts (.fieldLink RX9 35 "FrontCodedIndexModel" "parts" "[I") (by decide +kernel)) (fun _ h9 => h9) rfl dX9_gives_29 ?_
      refine lv_iconst (v := (0 : Int32)) hx hb dX9_gives_32 (by decide) ?_
      refine lv_iload_n hx hb dX9_gives_33 rfl (lv_at hl 2 rfl) ?_
      refine fw_cS_i_p (As := [.int (0 : Int32), .int x1]) (rest := [.ref (ad 15)]) ⟨hx, hb, hml, hown, hts⟩ (cc_X9_at l G had h) (⟨callB_of 2 hts ggX9_gives_X9_at rfl rfl rfl (hts (.initialized RX9) (by decide +kernel)) (hts (.methodLink RX9 113 yX9_at) (by decide +kernel)) (by decide +kernel) ⟨Nat.le_of_ble_eq_true rfl, Nat.le_of_ble_eq_true rfl⟩, hts (.static yX9_at) (by decide +kernel)⟩) hK hZ hF hS hA rfl hl.1 rfl (Nat.le_of_ble_eq_true rfl) dX9_gives_34 ⟨Nat.zero_le _, Nat.zero_le _⟩ (fun r_37 H locs h hF hS => ?_)
      obtain ⟨hi_i_38, h⟩ := h
      refine fw_iald hx hb hK hF (mf_arr had 15 (by decide)) hi_i_38 dX9_gives_37 ?_
      refine lv_topi (fun v_39 e_v_39 => ?_)
      have h := h v_39 e_v_39
      refine lv_istore (lv' := [(4, .int v_39), (3, .int r_36), (0, .ref mo), (1, .int x1), (2, .int x2)]) hx hb dX9_gives_38 hl (by decide) rfl (fun ls hl => ?_)
      refine lv_iconst (v := (1 : Int32)) hx hb dX9_gives_40 (by decide) ?_
      refine lv_istore (lv' := [(5, .int (1 : Int32)), (4, .int v_39), (3, .int r_36), (0, .ref mo), (1, .int x1), (2, .int x2)]) hx hb dX9_gives_41 hl (by decide) rfl (fun ls hl => ?_)
      obtain ⟨n_40, h⟩ := h
      exact L43 r_36 v_39 n_40 (1 : Int32) n g _ _ _ h hF hS (lv_sub hl [3, 4, 5, 2, 1, 0] rfl)
    · have h := h2 c_35
      refine lv_iconst (v := (0 : Int32)) hx hb dX9_gives_19 (by decide) ?_
      exact W.zret (v := (0 : Int32)) hx hb hr (by decide) (fun t ht hW => ⟨⟨(0 : Int32), (mf mo ad n g), rfl, ⟨_, _, rfl, h⟩, by rw [ht]; exact hF, FK.moved hW.alike hK⟩, hS.F ht⟩) hS.2.2 dX9_gives_20
  have hl := lv_entry ([.ref mo, .int x1, .int x2]) (n := 9) (Nat.le_of_ble_eq_true rfl)
  rw [lg_entry_eq]
  generalize (lg_sl ([.ref mo, .int x1, .int x2]) ++ List.replicate (9 - (lg_sl ([.ref mo, .int x1, .int x2])).length) Slot.unset).toArray = ls at hl ⊢
  have hl : lv_has ls 9 [(0, .ref mo), (1, .int x1), (2, .int x2)] := hl
  unfold wp_X9_gives at h
  refine lv_aload_n hx hb dX9_gives_0 rfl (lv_at hl 0 rfl) ?_
  refine lv_iconst (v := (0 : Int32)) hx hb dX9_gives_1 (by decide) ?_
  refine lv_iload_n hx hb dX9_gives_2 rfl (lv_at hl 2 rfl) ?_
  obtain ⟨h1, h2⟩ := h
  refine lv_if_eq (tgt := 12) hx hb dX9_gives_3 (by decide) (fun c_41 => ?_) (fun c_41 => ?_)
  · have h := h1 c_41
    refine lv_iload_n hx hb dX9_gives_12 rfl (lv_at hl 1 rfl) ?_
    exact J13 x1 (0 : Int32) n g _ _ _ h hF hS (lv_sub hl [0, 1, 2] rfl)
  · have h := h2 c_41
    refine lv_iload_n hx hb dX9_gives_6 rfl (lv_at hl 1 rfl) ?_
    refine lv_iconst (v := (1 : Int32)) hx hb dX9_gives_7 (by decide) ?_
    refine lv_isub hx hb dX9_gives_8 ?_
    refine lv_goto (tgt := 13) hx hb dX9_gives_9 (by decide) ?_
    exact J13 (x1 - (1 : Int32)) (0 : Int32) n g _ _ _ h hF hS (lv_sub hl [0, 1, 2] rfl)
