theorem dX9_in_0 : decode cX9_in 0 = .ok (.iload_n 0, 1) := by decide +kernel
theorem dX9_in_1 : decode cX9_in 1 = .ok (.iload_n 1, 1) := by decide +kernel
theorem dX9_in_2 : decode cX9_in 2 = .ok (.if_icmp .lt 12, 3) := by decide +kernel
theorem dX9_in_5 : decode cX9_in 5 = .ok (.iload_n 0, 1) := by decide +kernel
theorem dX9_in_6 : decode cX9_in 6 = .ok (.iload_n 2, 1) := by decide +kernel
theorem dX9_in_7 : decode cX9_in 7 = .ok (.if_icmp .gt 7, 3) := by decide +kernel
theorem dX9_in_10 : decode cX9_in 10 = .ok (.iconst 1, 1) := by decide +kernel
theorem dX9_in_11 : decode cX9_in 11 = .ok (.goto 4, 3) := by decide +kernel
theorem dX9_in_14 : decode cX9_in 14 = .ok (.iconst 0, 1) := by decide +kernel
theorem dX9_in_15 : decode cX9_in 15 = .ok (.ireturn, 1) := by decide +kernel
def wp_X9_in (x0 : Int32) (x1 : Int32) (x2 : Int32) (n : Nat → Int32) (g : Nat → Nat → Int32) (K : Int32 → Prop) : Prop :=
  ((x0 < x1 → K (0 : Int32)) ∧
 (¬ (x0 < x1) → ((x2 < x0 → K (0 : Int32)) ∧
 (¬ (x2 < x0) → K (1 : Int32)))))
set_option maxHeartbeats 4000000 in
set_option maxRecDepth 100000 in
theorem cc_X9_in (l : Launch) (G : GG) {mo : Nat} {ad : Nat → Nat} (had : MAd mo ad) {n : Nat → Int32} {g : Nat → Nat → Int32} {sz : Nat} {x0 : Int32} {x1 : Int32} {x2 : Int32} {K : Int32 → Prop} (h : wp_X9_in x0 x1 x2 n g K) : Met l yX9_in wsX9_in ({ frames := 0, cells := 0, slots := 0, locals := 0 } : Room) (FP G [.int x0, .int x1, .int x2] (mf mo ad n g) sz) (va_Qi (fun r f9 => K r ∧ f9 = mf mo ad n g : Int32 → FT → Prop) (FB G (fA (mf mo ad n g) sz)) (fA (mf mo ad n g) sz)) 0 0 (fA (mf mo ad n g) sz) := by
  refine Met.ofW (cc := cX9_in) (maxL := 3) (ret := (some .boolean)) (by decide) rfl ?_
  intro p e s m args below meth c s₁ B hml hv
  obtain ⟨rfl, hsz, hF, hK, hZ⟩ := hv
  have hx := B.exec
  have hb := B.bytes
  have hr := B.returns
  have hts := atoms_spec (ws := wsX9_in) B.pre
  have hown : s.vm.findClass RX9 = some m.cls := findClass_of_methodNamed B.named
  have hlocks := B.notSynchronized
  subst hsz
  have hF := hF.self (sz := s.heap.size)
  generalize hAe : fA (mf mo ad n g) s.heap.size = A at hF hZ ⊢
  have hA : ∀ q : Nat, s.heap.size ≤ q → A q := fun q h => by rw [← hAe]; exact Or.inr h
  have hS : va_S A s.heap s.heap [] := va_S.rf
  have hl := lv_entry ([.int x0, .int x1, .int x2]) (n := 3) (Nat.le_of_ble_eq_true rfl)
  rw [lg_entry_eq]
  generalize (lg_sl ([.int x0, .int x1, .int x2]) ++ List.replicate (3 - (lg_sl ([.int x0, .int x1, .int x2])).length) Slot.unset).toArray = ls at hl ⊢
  have hl : lv_has ls 3 [(0, .int x0), (1, .int x1), (2, .int x2)] := hl
  unfold wp_X9_in at h
  refine lv_iload_n hx hb dX9_in_0 rfl (lv_at hl 0 rfl) ?_
  refine lv_iload_n hx hb dX9_in_1 rfl (lv_at hl 1 rfl) ?_
  obtain ⟨h1, h2⟩ := h
  refine lv_icmp_lt (tgt := 14) hx hb dX9_in_2 (by decide) (fun c_1 => ?_) (fun c_1 => ?_)
  · have h := h1 c_1
    refine lv_iconst (v := (0 : Int32)) hx hb dX9_in_14 (by decide) ?_
    exact W.zret (v := (0 : Int32)) hx hb hr (by decide) (fun t ht hW => ⟨⟨(0 : Int32), (mf mo ad n g), rfl, ⟨h, rfl⟩, by rw [ht]; exact hF, FK.moved hW.alike hK⟩, hS.F ht⟩) hS.2.2 dX9_in_15
  · have h := h2 c_1
    refine lv_iload_n hx hb dX9_in_5 rfl (lv_at hl 0 rfl) ?_
    refine lv_iload_n hx hb dX9_in_6 rfl (lv_at hl 2 rfl) ?_
    obtain ⟨h1, h2⟩ := h
    refine lv_icmp_gt (tgt := 14) hx hb dX9_in_7 (by decide) (fun c_2 => ?_) (fun c_2 => ?_)
    · have h := h1 c_2
      refine lv_iconst (v := (0 : Int32)) hx hb dX9_in_14 (by decide) ?_
      exact W.zret (v := (0 : Int32)) hx hb hr (by decide) (fun t ht hW => ⟨⟨(0 : Int32), (mf mo ad n g), rfl, ⟨h, rfl⟩, by rw [ht]; exact hF, FK.moved hW.alike hK⟩, hS.F ht⟩) hS.2.2 dX9_in_15
    · have h := h2 c_2
      refine lv_iconst (v := (1 : Int32)) hx hb dX9_in_10 (by decide) ?_
      refine lv_goto (tgt := 15) hx hb dX9_in_11 (by decide) ?_
      exact W.zret (v := (1 : Int32)) hx hb hr (by decide) (fun t ht hW => ⟨⟨(1 : Int32), (mf mo ad n g), rfl, ⟨h, rfl⟩, by rw [ht]; exact hF, FK.moved hW.alike hK⟩, hS.F ht⟩) hS.2.2 dX9_in_15
theorem dX9_isCursor_0 : decode cX9_isCursor 0 = .ok (.iload_n 0, 1) := by decide +kernel
theorem dX9_isCursor_1 : decode cX9_isCursor 1 = .ok (.iconst 0, 1) := by decide +kernel
theorem dX9_isCursor_2 : decode cX9_isCursor 2 = .ok (.iconst 3, 1) := by decide +kernel
theorem dX9_isCursor_3 : decode cX9_isCursor 3 = .ok (.invokestatic 80, 3) := by decide +kernel
theorem dX9_isCursor_6 : decode cX9_isCursor 6 = .ok (.ireturn, 1) := by decide +kernel
set_option maxRecDepth 20000 in
theorem ggX9_isCursor_X9_in : GoodIn wsX9_isCursor wsX9_in := goodIn_r _ [4] (by decide +kernel) (by decide +kernel)
def wp_X9_isCursor (x0 : Int32) (n : Nat → Int32) (g : Nat → Nat → Int32) (K : Int32 → Prop) : Prop :=
  wp_X9_in x0 (0 : Int32) (3 : Int32) n g (fun r_1 => isB r_1 ∧ K r_1)
set_option maxHeartbeats 4000000 in
set_option maxRecDepth 100000 in
theorem cc_X9_isCursor (l : Launch) (G : GG) {mo : Nat} {ad : Nat → Nat} (had : MAd mo ad) {n : Nat → Int32} {g : Nat → Nat → Int32} {sz : Nat} {x0 : Int32} {K : Int32 → Prop} (h : wp_X9_isCursor x0 n g K) : Met l yX9_isCursor wsX9_isCursor ({ frames := 1, cells := 0, slots := 0, locals := 22 } : Room) (FP G [.int x0] (mf mo ad n g) sz) (va_Qi (fun r f9 => K r ∧ f9 = mf mo ad n g : Int32 → FT → Prop) (FB G (fA (mf mo ad n g) sz)) (fA (mf mo ad n g) sz)) 0 0 (fA (mf mo ad n g) sz) := by
  refine Met.ofW (cc := cX9_isCursor) (maxL := 1) (ret := (some .boolean)) (by decide) rfl ?_
  intro p e s m args below meth c s₁ B hml hv
  obtain ⟨rfl, hsz, hF, hK, hZ⟩ := hv
  have hx := B.exec
  have hb := B.bytes
  have hr := B.returns
  have hts := atoms_spec (ws := wsX9_isCursor) B.pre
  have hown : s.vm.findClass RX9 = some m.cls := findClass_of_methodNamed B.named
  have hlocks := B.notSynchronized
  subst hsz
  have hF := hF.self (sz := s.heap.size)
  generalize hAe : fA (mf mo ad n g) s.heap.size = A at hF hZ ⊢
  have hA : ∀ q : Nat, s.heap.size ≤ q → A q := fun q h => by rw [← hAe]; exact Or.inr h
  have hS : va_S A s.heap s.heap [] := va_S.rf
  have hl := lv_entry ([.int x0]) (n := 1) (Nat.le_of_ble_eq_true rfl)
  rw [lg_entry_eq]
  generalize (lg_sl ([.int x0]) ++ List.replicate (1 - (lg_sl ([.int x0])).length) Slot.unset).toArray = ls at hl ⊢
  have hl : lv_has ls 1 [(0, .int x0)] := hl
  unfold wp_X9_isCursor at h
  refine lv_iload_n hx hb dX9_isCursor_0 rfl (lv_at hl 0 rfl) ?_
  refine lv_iconst (v := (0 : Int32)) hx hb dX9_isCursor_1 (by decide) ?_
  refine lv_iconst (v := (3 : Int32)) hx hb dX9_isCursor_2 (by decide) ?_
  refine fw_cS_i_p (As := [.int x0, .int (0 : Int32), .int (3 : Int32)]) (rest := []) ⟨hx, hb, hml, hown, hts⟩ (cc_X9_in l G had h) (⟨callB_of 3 hts ggX9_isCursor_X9_in rfl rfl rfl (hts (.initialized RX9) (by decide +kernel)) (hts (.methodLink RX9 80 yX9_in) (by decide +kernel)) (by decide +kernel) ⟨Nat.le_of_ble_eq_true rfl, Nat.le_of_ble_eq_true rfl⟩, hts (.static yX9_in) (by decide +kernel)⟩) hK hZ hF hS hA rfl hl.1 rfl (Nat.le_of_ble_eq_true rfl) dX9_isCursor_3 ⟨Nat.zero_le _, Nat.zero_le _⟩ (fun r_1 H locs h hF hS => ?_)
  obtain ⟨hz, h⟩ := h
  exact W.zret (v := r_1) hx hb hr (isB_nar hz) (fun t ht hW => ⟨⟨r_1, (mf mo ad n g), rfl, ⟨h, rfl⟩, by rw [ht]; exact hF, FK.moved hW.alike hK⟩, hS.F ht⟩) hS.2.2 dX9_isCursor_6
theorem dX9_lacks_0 : decode cX9_lacks 0 = .ok (.iload_n 1, 1) := by decide +kernel
theorem dX9_lacks_1 : decode cX9_lacks 1 = .ok (.invokestatic 228, 3) := by decide +kernel
theorem dX9_lacks_4 : decode cX9_lacks 4 = .ok (.ifCond .ne 7, 3) := by decide +kernel
theorem dX9_lacks_7 : decode cX9_lacks 7 = .ok (.iconst 1, 1) := by decide +kernel
theorem dX9_lacks_8 : decode cX9_lacks 8 = .ok (.goto 36, 3) := by decide +kernel
theorem dX9_lacks_11 : decode cX9_lacks 11 = .ok (.aload_n 0, 1) := by decide +kernel
theorem dX9_lacks_12 : decode cX9_lacks 12 = .ok (.getfield 44, 3) := by decide +kernel
theorem dX9_lacks_15 : decode cX9_lacks 15 = .ok (.iload_n 1, 1) := by decide +kernel
theorem dX9_lacks_16 : decode cX9_lacks 16 = .ok (.iaload, 1) := by decide +kernel
theorem dX9_lacks_17 : decode cX9_lacks 17 = .ok (.bipush (-2), 2) := by decide +kernel
theorem dX9_lacks_19 : decode cX9_lacks 19 = .ok (.if_icmp .ne 7, 3) := by decide +kernel
theorem dX9_lacks_22 : decode cX9_lacks 22 = .ok (.iconst 2, 1) := by decide +kernel
theorem dX9_lacks_23 : decode cX9_lacks 23 = .ok (.goto 21, 3) := by decide +kernel
theorem dX9_lacks_26 : decode cX9_lacks 26 = .ok (.aload_n 0, 1) := by decide +kernel
theorem dX9_lacks_27 : decode cX9_lacks 27 = .ok (.getfield 44, 3) := by decide +kernel
theorem dX9_lacks_30 : decode cX9_lacks 30 = .ok (.iload_n 1, 1) := by decide +kernel
theorem dX9_lacks_31 : decode cX9_lacks 31 = .ok (.iaload, 1) := by decide +kernel
theorem dX9_lacks_32 : decode cX9_lacks 32 = .ok (.aload_n 0, 1) := by decide +kernel
theorem dX9_lacks_33 : decode cX9_lacks 33 = .ok (.getfield 106, 3) := by decide +kernel
theorem dX9_lacks_36 : decode cX9_lacks 36 = .ok (.if_icmp .ne 7, 3) := by decide +kernel
theorem dX9_lacks_39 : decode cX9_lacks 39 = .ok (.iconst 3, 1) := by decide +kernel
theorem dX9_lacks_40 : decode cX9_lacks 40 = .ok (.goto 4, 3) := by decide +kernel
theorem dX9_lacks_43 : decode cX9_lacks 43 = .ok (.iconst 0, 1) := by decide +kernel
theorem dX9_lacks_44 : decode cX9_lacks 44 = .ok (.ireturn, 1) := by decide +kernel
set_option maxRecDepth 20000 in
theorem ggX9_lacks_X9_isCursor : GoodIn wsX9_lacks wsX9_isCursor := goodIn_r _ [6, 7, 8, 5, 9] (by decide +kernel) (by decide +kernel)
def wp_X9_lacks (x1 : Int32) (n : Nat → Int32) (g : Nat → Nat → Int32) (K : Int32 → Prop) : Prop :=
  wp_X9_isCursor x1 n g (fun r_1 => ((¬ r_1 = (0 : Int32) → vp_in x1 (mlen 18) ∧ ∀ v_4 : Int32, v_4 = g 18 (x1).toNatClampNeg → ((¬ v_4 = (-2 : Int32) → vp_in x1 (mlen 18) ∧ ∀ v_7 : Int32, v_7 = g 18 (x1).toNatClampNeg → ((¬ v_7 = (n 9) → K (0 : Int32)) ∧
 (v_7 = (n 9) → K (3 : Int32)))) ∧
 (v_4 = (-2 : Int32) → K (2 : Int32)))) ∧
 (r_1 = (0 : Int32) → K (1 : Int32))))
set_option maxHeartbeats 4000000 in
set_option maxRecDepth 100000 in
theorem cc_X9_lacks (l : Launch) (G : GG) {mo : Nat} {ad : Nat → Nat} (had : MAd mo ad) {n : Nat → Int32} {g : Nat → Nat → Int32} {sz : Nat} {x1 : Int32} {K : Int32 → Prop} (h : wp_X9_lacks x1 n g K) : Met l yX9_lacks wsX9_lacks ({ frames := 2, cells := 0, slots := 0, locals := 42 } : Room) (FP G [.ref mo, .int x1] (mf mo ad n g) sz) (va_Qi (fun r f9 => K r ∧ f9 = mf mo ad n g : Int32 → FT → Prop) (FB G (fA (mf mo ad n g) sz)) (fA (mf mo ad n g) sz)) 0 0 (fA (mf mo ad n g) sz) := by
  refine Met.ofW (cc := cX9_lacks) (maxL := 2) (ret := (some .int)) (by decide) rfl ?_
  intro p e s m args below meth c s₁ B hml hv
  obtain ⟨rfl, hsz, hF, hK, hZ⟩ := hv
  have hx := B.exec
  have hb := B.bytes
  have hr := B.returns
  have hts := atoms_spec (ws := wsX9_lacks) B.pre
  have hown : s.vm.findClass RX9 = some m.cls := findClass_of_methodNamed B.named
  have hlocks := B.notSynchronized
  subst hsz
  have hF := hF.self (sz := s.heap.size)
  generalize hAe : fA (mf mo ad n g) s.heap.size = A at hF hZ ⊢
  have hA : ∀ q : Nat, s.heap.size ≤ q → A q := fun q h => by rw [← hAe]; exact Or.inr h
  have hS : va_S A s.heap s.heap [] := va_S.rf
  have hin_X9 : ∀ w ∈ wsX90, w ∈ wsX9_lacks := by decide +kernel
  have hl := lv_entry ([.ref mo, .int x1]) (n := 2) (Nat.le_of_ble_eq_true rfl)
  rw [lg_entry_eq]
  generalize (lg_sl ([.ref mo, .int x1]) ++ List.replicate (2 - (lg_sl ([.ref mo, .int x1])).length) Slot.unset).toArray = ls at hl ⊢
  have hl : lv_has ls 2 [(0, .ref mo), (1, .int x1)] := hl
  unfold wp_X9_lacks at h
  refine lv_iload_n hx hb dX9_lacks_0 rfl (lv_at hl 1 rfl) ?_
  refine fw_cS_i_p (As := [.int x1]) (rest := []) ⟨hx, hb, hml, hown, hts⟩ (cc_X9_isCursor l G had h) (⟨callB_of 1 hts ggX9_lacks_X9_isCursor rfl rfl rfl (hts (.initialized RX9) (by decide +kernel)) (hts (.methodLink RX9 228 yX9_isCursor) (by decide +kernel)) (by decide +kernel) ⟨Nat.le_of_ble_eq_true rfl, Nat.le_of_ble_eq_true rfl⟩, hts (.static yX9_isCursor) (by decide +kernel)⟩) hK hZ hF hS hA rfl hl.1 rfl (Nat.le_of_ble_eq_true rfl) dX9_lacks_1 ⟨Nat.zero_le _, Nat.zero_le _⟩ (fun r_1 H locs h hF hS => ?_)
  obtain ⟨h1, h2⟩ := h
  refine lv_if_ne (tgt := 11) hx hb dX9_lacks_4 (by decide) (fun c_2 => ?_) (fun c_2 => ?_)
  · have h := h1 c_2
    refine lv_aload_n hx hb dX9_lacks_11 rfl (lv_at hl 0 rfl) ?_
    refine fw_get (C := RX9) (T := TX9) (N := 34) hx hb hts hin_X9 hown hK hF mf_obj rfl 18 (by decide) (hts (.fieldLink RX9 44 "FrontCodedIndexModel" "cursors" "[I") (by decide +kernel)) (fun _ h9 => h9) rfl dX9_lacks_12 ?_
    refine lv_iload_n hx hb dX9_lacks_15 rfl (lv_at hl 1 rfl) ?_
    obtain ⟨hi_i_3, h⟩ := h
    refine fw_iald hx hb hK hF (mf_arr had 18 (by decide)) hi_i_3 dX9_lacks_16 ?_
    refine lv_topi (fun v_4 e_v_4 => ?_)
    have h := h v_4 e_v_4
    refine lv_bipush (v := (-2 : Int32)) hx hb dX9_lacks_17 (by decide) ?_
    obtain ⟨h1, h2⟩ := h
    refine lv_icmp_ne (tgt := 26) hx hb dX9_lacks_19 (by decide) (fun c_5 => ?_) (fun c_5 => ?_)
    · have h := h1 c_5
      refine lv_aload_n hx hb dX9_lacks_26 rfl (lv_at hl 0 rfl) ?_
      refine fw_get (C := RX9) (T := TX9) (N := 34) hx hb hts hin_X9 hown hK hF mf_obj rfl 18 (by decide) (hts (.fieldLink RX9 44 "FrontCodedIndexModel" "cursors" "[I") (by decide +kernel)) (fun _ h9 => h9) rfl dX9_lacks_27 ?_
      refine lv_iload_n hx hb dX9_lacks_30 rfl (lv_at hl 1 rfl) ?_
      obtain ⟨hi_i_6, h⟩ := h
      refine fw_iald hx hb hK hF (mf_arr had 18 (by decide)) hi_i_6 dX9_lacks_31 ?_
      refine lv_topi (fun v_7 e_v_7 => ?_)
      have h := h v_7 e_v_7
      refine lv_aload_n hx hb dX9_lacks_32 rfl (lv_at hl 0 rfl) ?_
      refine fw_get (C := RX9) (T := TX9) (N := 34) hx hb hts hin_X9 hown hK hF mf_obj rfl 9 (by decide) (hts (.fieldLink RX9 106 "FrontCodedIndexModel" "entries" "I") (by decide +kernel)) (fun _ h9 => h9) rfl dX9_lacks_33 ?_
      obtain ⟨h1, h2⟩ := h
      refine lv_icmp_ne (tgt := 43) hx hb dX9_lacks_36 (by decide) (fun c_8 => ?_) (fun c_8 => ?_)
      · have h := h1 c_8
        refine lv_iconst (v := (0 : Int32)) hx hb dX9_lacks_43 (by decide) ?_
        exact W.iret (v := (0 : Int32)) hx hb hr (fun t ht hW => ⟨⟨(0 : Int32), (mf mo ad n g), rfl, ⟨h, rfl⟩, by rw [ht]; exact hF, FK.moved hW.alike hK⟩, hS.F ht⟩) hS.2.2 dX9_lacks_44
      · have h := h2 c_8
        refine lv_iconst (v := (3 : Int32)) hx hb dX9_lacks_39 (by decide) ?_
        refine lv_goto (tgt := 44) hx hb dX9_lacks_40 (by decide) ?_
        exact W.iret (v := (3 : Int32)) hx hb hr (fun t ht hW => ⟨⟨(3 : Int32), (mf mo ad n g), rfl, ⟨h, rfl⟩, by rw [ht]; exact hF, FK.moved hW.alike hK⟩, hS.F ht⟩) hS.2.2 dX9_lacks_44
    · have h := h2 c_5
      refine lv_iconst (v := (2 : Int32)) hx hb dX9_lacks_22 (by decide) ?_
      refine lv_goto (tgt := 44) hx hb dX9_lacks_23 (by decide) ?_
      exact W.iret (v := (2 : Int32)) hx hb hr (fun t ht hW => ⟨⟨(2 : Int32), (mf mo ad n g), rfl, ⟨h, rfl⟩, by rw [ht]; exact hF, FK.moved hW.alike hK⟩, hS.F ht⟩) hS.2.2 dX9_lacks_44
  · have h := h2 c_2
    refine lv_iconst (v := (1 : Int32)) hx hb dX9_lacks_7 (by decide) ?_
    refine lv_goto (tgt := 44) hx hb dX9_lacks_8 (by decide) ?_
    exact W.iret (v := (1 : Int32)) hx hb hr (fun t ht hW => ⟨⟨(1 : Int32), (mf mo ad n g), rfl, ⟨h, rfl⟩, by rw [ht]; exact hF, FK.moved hW.alike hK⟩, hS.F ht⟩) hS.2.2 dX9_lacks_44
theorem dX9_not_0 : decode cX9_not 0 = .ok (.aload_n 0, 1) := by decide +kernel
theorem dX9_not_1 : decode cX9_not 1 = .ok (.iload_n 1, 1) := by decide +kernel
theorem dX9_not_2 : decode cX9_not 2 = .ok (.putfield 77, 3) := by decide +kernel
theorem dX9_not_5 : decode cX9_not 5 = .ok (.iconst 0, 1) := by decide +kernel
theorem dX9_not_6 : decode cX9_not 6 = .ok (.ireturn, 1) := by decide +kernel
def wp_X9_not (x1 : Int32) (n : Nat → Int32) (g : Nat → Nat → Int32) (K : Int32 → (Nat → Int32) → (Nat → Nat → Int32) → Prop) : Prop :=
  ∀ n_1 : Nat → Int32, n_1 = upd n 0 x1 → K (0 : Int32) n_1 g
set_option maxHeartbeats 4000000 in
set_option maxRecDepth 100000 in
theorem cc_X9_not (l : Launch) (G : GG) {mo : Nat} {ad : Nat → Nat} (had : MAd mo ad) {n : Nat → Int32} {g : Nat → Nat → Int32} {sz : Nat} {x1 : Int32} {K : Int32 → (Nat → Int32) → (Nat → Nat → Int32) → Prop} (h : wp_X9_not x1 n g K) : Met l yX9_not wsX9_not ({ frames := 0, cells := 0, slots := 0, locals := 0 } : Room) (FP G [.ref mo, .int x1] (mf mo ad n g) sz) (va_Qi (fun r f9 => ∃ n9 g9, f9 = mf mo ad n9 g9 ∧ K r n9 g9 : Int32 → FT → Prop) (FB G (fA (mf mo ad n g) sz)) (fA (mf mo ad n g) sz)) 0 0 (fA (mf mo ad n g) sz) := by
  refine Met.ofW (cc := cX9_not) (maxL := 2) (ret := (some .boolean)) (by decide) rfl ?_
  intro p e s m args below meth c s₁ B hml hv
  obtain ⟨rfl, hsz, hF, hK, hZ⟩ := hv
  have hx := B.exec
  have hb := B.bytes
  have hr := B.returns
  have hts := atoms_spec (ws := wsX9_not) B.pre
  have hown : s.vm.findClass RX9 = some m.cls := findClass_of_methodNamed B.named
  have hlocks := B.notSynchronized
  subst hsz
  have hF := hF.self (sz := s.heap.size)
  generalize hAe : fA (mf mo ad n g) s.heap.size = A at hF hZ ⊢
  have hA : ∀ q : Nat, s.heap.size ≤ q → A q := fun q h => by rw [← hAe]; exact Or.inr h
  have hS : va_S A s.heap s.heap [] := va_S.rf
  have hin_X9 : ∀ w ∈ wsX90, w ∈ wsX9_not := by decide +kernel
  have hl := lv_entry ([.ref mo, .int x1]) (n := 2) (Nat.le_of_ble_eq_true rfl)
  rw [lg_entry_eq]
  generalize (lg_sl ([.ref mo, .int x1]) ++ List.replicate (2 - (lg_sl ([.ref mo, .int x1])).length) Slot.unset).toArray = ls at hl ⊢
  have hl : lv_has ls 2 [(0, .ref mo), (1, .int x1)] := hl
  unfold wp_X9_not at h
  refine lv_aload_n hx hb dX9_not_0 rfl (lv_at hl 0 rfl) ?_
  refine lv_iload_n hx hb dX9_not_1 rfl (lv_at hl 1 rfl) ?_
  refine fw_put (v := .int x1) (ty := .int) (C := RX9) (T := TX9) (N := 34) hx hb hts hin_X9 tyX9 tyX9_ok nmX9 hown hK hF hS mf_obj rfl 0 (by decide) (hts (.fieldLink RX9 77 "FrontCodedIndexModel" "thrown" "I") (by decide +kernel)) (fun _ h9 => h9) rfl (by decide +kernel) rfl rfl (show 0 < 34 by decide) dX9_not_2 (fun H locs hF hS => ?_)
  rw [mf_put 0 x1 rfl] at hF
  obtain ⟨n_1, hn_n_1⟩ : ∃ z, z = upd n 0 x1 := ⟨_, rfl⟩
  rw [← hn_n_1] at hF; have h := h n_1 hn_n_1
  refine lv_iconst (v := (0 : Int32)) hx hb dX9_not_5 (by decide) ?_
  exact W.zret (v := (0 : Int32)) hx hb hr (by decide) (fun t ht hW => ⟨⟨(0 : Int32), (mf mo ad n_1 g), rfl, ⟨_, _, rfl, h⟩, by rw [ht]; exact hF, FK.moved hW.alike hK⟩, hS.F ht⟩) hS.2.2 dX9_not_6
theorem dX9_so_0 : decode cX9_so 0 = .ok (.aload_n 0, 1) := by decide +kernel
theorem dX9_so_1 : decode cX9_so 1 = .ok (.iconst 0, 1) := by decide +kernel
theorem dX9_so_2 : decode cX9_so 2 = .ok (.putfield 77, 3) := by decide +kernel
theorem dX9_so_5 : decode cX9_so 5 = .ok (.iload_n 1, 1) := by decide +kernel
theorem dX9_so_6 : decode cX9_so 6 = .ok (.ireturn, 1) := by decide +kernel
def wp_X9_so (x1 : Int32) (n : Nat → Int32) (g : Nat → Nat → Int32) (K : Int32 → (Nat → Int32) → (Nat → Nat → Int32) → Prop) : Prop :=
  ∀ n_1 : Nat → Int32, n_1 = upd n 0 (0 : Int32) → isB x1 ∧ K x1 n_1 g
set_option maxHeartbeats 4000000 in
set_option maxRecDepth 100000 in
theorem cc_X9_so (l : Launch) (G : GG) {mo : Nat} {ad : Nat → Nat} (had : MAd mo ad) {n : Nat → Int32} {g : Nat → Nat → Int32} {sz : Nat} {x1 : Int32} {K : Int32 → (Nat → Int32) → (Nat → Nat → Int32) → Prop} (h : wp_X9_so x1 n g K) : Met l yX9_so wsX9_so ({ frames := 0, cells := 0, slots := 0, locals := 0 } : Room) (FP G [.ref mo, .int x1] (mf mo ad n g) sz) (va_Qi (fun r f9 => ∃ n9 g9, f9 = mf mo ad n9 g9 ∧ K r n9 g9 : Int32 → FT → Prop) (FB G (fA (mf mo ad n g) sz)) (fA (mf mo ad n g) sz)) 0 0 (fA (mf mo ad n g) sz) := by
  refine Met.ofW (cc := cX9_so) (maxL := 2) (ret := (some .boolean)) (by decide) rfl ?_
  intro p e s m args below meth c s₁ B hml hv
  obtain ⟨rfl, hsz, hF, hK, hZ⟩ := hv
  have hx := B.exec
  have hb := B.bytes
  have hr := B.returns
  have hts := atoms_spec (ws := wsX9_so) B.pre
  have hown : s.vm.findClass RX9 = some m.cls := findClass_of_methodNamed B.named
  have hlocks := B.notSynchronized
  subst hsz
  have hF := hF.self (sz := s.heap.size)
  generalize hAe : fA (mf mo ad n g) s.heap.size = A at hF hZ ⊢
  have hA : ∀ q : Nat, s.heap.size ≤ q → A q := fun q h => by rw [← hAe]; exact Or.inr h
  have hS : va_S A s.heap s.heap [] := va_S.rf
  have hin_X9 : ∀ w ∈ wsX90, w ∈ wsX9_so := by decide +kernel
  have hl := lv_entry ([.ref mo, .int x1]) (n := 2) (Nat.le_of_ble_eq_true rfl)
  rw [lg_entry_eq]
  generalize (lg_sl ([.ref mo, .int x1]) ++ List.replicate (2 - (lg_sl ([.ref mo, .int x1])).length) Slot.unset).toArray = ls at hl ⊢
  have hl : lv_has ls 2 [(0, .ref mo), (1, .int x1)] := hl
  unfold wp_X9_so at h
  refine lv_aload_n hx hb dX9_so_0 rfl (lv_at hl 0 rfl) ?_
  refine lv_iconst (v := (0 : Int32)) hx hb dX9_so_1 (by decide) ?_
  refine fw_put (v := .int (0 : Int32)) (ty := .int) (C := RX9) (T := TX9) (N := 34) hx hb hts hin_X9 tyX9 tyX9_ok nmX9 hown hK hF hS mf_obj rfl 0 (by decide) (hts (.fieldLink RX9 77 "FrontCodedIndexModel" "thrown" "I") (by decide +kernel)) (fun _ h9 => h9) rfl (by decide +kernel) rfl rfl (show 0 < 34 by decide) dX9_so_2 (fun H locs hF hS => ?_)
  rw [mf_put 0 (0 : Int32) rfl] at hF
  obtain ⟨n_1, hn_n_1⟩ : ∃ z, z = upd n 0 (0 : Int32) := ⟨_, rfl⟩
  rw [← hn_n_1] at hF; have h := h n_1 hn_n_1
  refine lv_iload_n hx hb dX9_so_5 rfl (lv_at hl 1 rfl) ?_
  obtain ⟨hz, h⟩ := h
  exact W.zret (v := x1) hx hb hr (isB_nar hz) (fun t ht hW => ⟨⟨x1, (mf mo ad n_1 g), rfl, ⟨_, _, rfl, h⟩, by rw [ht]; exact hF, FK.moved hW.alike hK⟩, hS.F ht⟩) hS.2.2 dX9_so_6
theorem dX9_advance_0 : decode cX9_advance 0 = .ok (.aload_n 0, 1) := by decide +kernel
theorem dX9_advance_1 : decode cX9_advance 1 = .ok (.iload_n 1, 1) := by decide +kernel
theorem dX9_advance_2 : decode cX9_advance 2 = .ok (.invokevirtual 231, 3) := by decide +kernel
theorem dX9_advance_5 : decode cX9_advance 5 = .ok (.istore_n 2, 1) := by decide +kernel
theorem dX9_advance_6 : decode cX9_advance 6 = .ok (.iload_n 2, 1) := by decide +kernel
theorem dX9_advance_7 : decode cX9_advance 7 = .ok (.ifCond .eq 9, 3) := by decide +kernel
theorem dX9_advance_10 : decode cX9_advance 10 = .ok (.aload_n 0, 1) := by decide +kernel
theorem dX9_advance_11 : decode cX9_advance 11 = .ok (.iload_n 2, 1) := by decide +kernel
theorem dX9_advance_12 : decode cX9_advance 12 = .ok (.invokevirtual 183, 3) := by decide +kernel
theorem dX9_advance_15 : decode cX9_advance 15 = .ok (.ireturn, 1) := by decide +kernel
theorem dX9_advance_16 : decode cX9_advance 16 = .ok (.aload_n 0, 1) := by decide +kernel
theorem dX9_advance_17 : decode cX9_advance 17 = .ok (.getfield 44, 3) := by decide +kernel
theorem dX9_advance_20 : decode cX9_advance 20 = .ok (.iload_n 1, 1) := by decide +kernel
theorem dX9_advance_21 : decode cX9_advance 21 = .ok (.dup2, 1) := by decide +kernel
theorem dX9_advance_22 : decode cX9_advance 22 = .ok (.iaload, 1) := by decide +kernel
theorem dX9_advance_23 : decode cX9_advance 23 = .ok (.iconst 1, 1) := by decide +kernel
theorem dX9_advance_24 : decode cX9_advance 24 = .ok (.iadd, 1) := by decide +kernel
theorem dX9_advance_25 : decode cX9_advance 25 = .ok (.iastore, 1) := by decide +kernel
theorem dX9_advance_26 : decode cX9_advance 26 = .ok (.aload_n 0, 1) := by decide +kernel
theorem dX9_advance_27 : decode cX9_advance 27 = .ok (.aload_n 0, 1) := by decide +kernel
theorem dX9_advance_28 : decode cX9_advance 28 = .ok (.getfield 44, 3) := by decide +kernel
theorem dX9_advance_31 : decode cX9_advance 31 = .ok (.iload_n 1, 1) := by decide +kernel
theorem dX9_advance_32 : decode cX9_advance 32 = .ok (.iaload, 1) := by decide +kernel
theorem dX9_advance_33 : decode cX9_advance 33 = .ok (.aload_n 0, 1) := by decide +kernel
theorem dX9_advance_34 : decode cX9_advance 34 = .ok (.getfield 106, 3) := by decide +kernel
theorem dX9_advance_37 : decode cX9_advance 37 = .ok (.if_icmp .ge 7, 3) := by decide +kernel
theorem dX9_advance_40 : decode cX9_advance 40 = .ok (.iconst 1, 1) := by decide +kernel
theorem dX9_advance_41 : decode cX9_advance 41 = .ok (.goto 4, 3) := by decide +kernel
theorem dX9_advance_44 : decode cX9_advance 44 = .ok (.iconst 0, 1) := by decide +kernel
theorem dX9_advance_45 : decode cX9_advance 45 = .ok (.invokevirtual 179, 3) := by decide +kernel
theorem dX9_advance_48 : decode cX9_advance 48 = .ok (.ireturn, 1) := by decide +kernel
set_option maxRecDepth 20000 in
theorem ggX9_advance_X9_lacks : GoodIn wsX9_advance wsX9_lacks := goodIn_r _ [7, 1, 2, 8, 9, 6, 10, 11, 12, 13, 23, 24, 25, 26, 27, 28, 29, 30, 31, 32, 33, 34, 35, 36, 37, 38, 39, 40, 41, 42, 43, 44, 45, 46, 47, 48, 49, 50, 51, 52, 53, 54, 55, 56] (by decide +kernel) (by decide +kernel)
set_option maxRecDepth 20000 in
theorem ggX9_advance_X9_not : GoodIn wsX9_advance wsX9_not := goodIn_r _ [17, 18, 23, 24, 25, 26, 27, 28, 29, 30, 31, 32, 33, 34, 35, 36, 37, 38, 39, 40, 41, 42, 43, 44, 45, 46, 47, 48, 49, 50, 51, 52, 53, 54, 55, 56] (by decide +kernel) (by decide +kernel)
set_option maxRecDepth 20000 in
theorem ggX9_advance_X9_so : GoodIn wsX9_advance wsX9_so := goodIn_r _ [22, 18, 23, 24, 25, 26, 27, 28, 29, 30, 31, 32, 33, 34, 35, 36, 37, 38, 39, 40, 41, 42, 43, 44, 45, 46, 47, 48, 49, 50, 51, 52, 53, 54, 55, 56] (by decide +kernel) (by decide +kernel)
def wp_X9_advance_45  (z0 : Int32) (n : Nat → Int32) (g : Nat → Nat → Int32) (K : Int32 → (Nat → Int32) → (Nat → Nat → Int32) → Prop)  : Prop :=
  wp_X9_so z0 n g (fun r_1 n_3 g_4 => isB r_1 ∧ K r_1 n_3 g_4)
def wp_X9_advance (x1 : Int32) (n : Nat → Int32) (g : Nat → Nat → Int32) (K : Int32 → (Nat → Int32) → (Nat → Nat → Int32) → Prop) : Prop :=
  wp_X9_lacks x1 n g (fun r_5 => ((r_5 = (0 : Int32) → vp_in x1 (mlen 18) ∧ ∀ v_8 : Int32, v_8 = g 18 (x1).toNatClampNeg → vp_in x1 (mlen 18) ∧ ∀ g_10 : Nat → Nat → Int32, g_10 = mup g 18 (x1).toNatClampNeg (v_8 + (1 : Int32)) → vp_in x1 (mlen 18) ∧ ∀ v_12 : Int32, v_12 = g_10 18 (x1).toNatClampNeg → (((n 9) ≤ v_12 → wp_X9_advance_45 (0 : Int32) n g_10 K) ∧
 (¬ ((n 9) ≤ v_12) → wp_X9_advance_45 (1 : Int32) n g_10 K))) ∧
 (¬ (r_5 = (0 : Int32)) → wp_X9_not r_5 n g (fun r_14 n_16 g_17 => isB r_14 ∧ K r_14 n_16 g_17))))
set_option maxHeartbeats 4000000 in
set_option maxRecDepth 100000 in
theorem cc_X9_advance (l : Launch) (G : GG) {mo : Nat} {ad : Nat → Nat} (had : MAd mo ad) {n : Nat → Int32} {g : Nat → Nat → Int32} {sz : Nat} {x1 : Int32} {K : Int32 → (Nat → Int32) → (Nat → Nat → Int32) → Prop} (h : wp_X9_advance x1 n g K) : Met l yX9_advance wsX9_advance ({ frames := 3, cells := 0, slots := 0, locals := 63 } : Room) (FP G [.ref mo, .int x1] (mf mo ad n g) sz) (va_Qi (fun r f9 => ∃ n9 g9, f9 = mf mo ad n9 g9 ∧ K r n9 g9 : Int32 → FT → Prop) (FB G (fA (mf mo ad n g) sz)) (fA (mf mo ad n g) sz)) 0 0 (fA (mf mo ad n g) sz) := by
  refine Met.ofW (cc := cX9_advance) (maxL := 3) (ret := (some .boolean)) (by decide) rfl ?_
  intro p e s m args below meth c s₁ B hml hv
  obtain ⟨rfl, hsz, hF, hK, hZ⟩ := hv
  have hx := B.exec
  have hb := B.bytes
  have hr := B.returns
  have hts := atoms_spec (ws := wsX9_advance) B.pre
  have hown : s.vm.findClass RX9 = some m.cls := findClass_of_methodNamed B.named
  have hlocks := B.notSynchronized
  subst hsz
  have hF := hF.self (sz := s.heap.size)
  generalize hAe : fA (mf mo ad n g) s.heap.size = A at hF hZ ⊢
  have hA : ∀ q : Nat, s.heap.size ≤ q → A q := fun q h => by rw [← hAe]; exact Or.inr h
  have hS : va_S A s.heap s.heap [] := va_S.rf
  have hin_X9 : ∀ w ∈ wsX90, w ∈ wsX9_advance := by decide +kernel
  have J45 : ∀ (z0 : Int32) (n : Nat → Int32) (g : Nat → Nat → Int32) (H : Heap) (locs : List Loc) (ls : Array Slot), wp_X9_advance_45 z0 n g K  → Fw G A (mf mo ad n g) H → va_S A s.heap H locs → lv_has ls 3 [] → W p l e ({ frames := 3, cells := 0, slots := 0, locals := 63 } : Room) s m ([.ref mo, .int x1] : List Value).toArray below meth c H locs 0 0 (MQ below (va_Qi (fun r f9 => ∃ n9 g9, f9 = mf mo ad n9 g9 ∧ K r n9 g9 : Int32 → FT → Prop) (FB G A) A) ([.ref mo, .int x1] : List Value).toArray s 0 0 A) (F0 m 45 ls [.int z0, .ref mo]) := by
    intro z0 n g H locs ls h hF hS hl
    unfold wp_X9_advance_45 at h
    refine fw_cV_i (As := [.int z0]) (rest := []) ⟨hx, hb, hml, hown, hts⟩ (cc_X9_so l G had h) (⟨callB_of 1 hts ggX9_advance_X9_so rfl rfl rfl (hts (.initialized RX9) (by decide +kernel)) (hts (.methodLink RX9 179 yX9_so) (by decide +kernel)) (by decide +kernel) ⟨Nat.le_of_ble_eq_true rfl, Nat.le_of_ble_eq_true rfl⟩, hts (.instanceMethod yX9_so) (by decide +kernel), hts (.selects RX9 yX9_so yX9_so) (by decide +kernel)⟩) rfl mf_obj hK hZ hF hS hA rfl hl.1 rfl (Nat.le_of_ble_eq_true rfl) dX9_advance_45 ⟨Nat.zero_le _, Nat.zero_le _⟩ (fun r_1 f9 H locs h hF hS => ?_)
    obtain ⟨n_3, g_4, rfl, h⟩ := h
    obtain ⟨hz, h⟩ := h
    exact W.zret (v := r_1) hx hb hr (isB_nar hz) (fun t ht hW => ⟨⟨r_1, (mf mo ad n_3 g_4), rfl, ⟨_, _, rfl, h⟩, by rw [ht]; exact hF, FK.moved hW.alike hK⟩, hS.F ht⟩) hS.2.2 dX9_advance_48
  have hl := lv_entry ([.ref mo, .int x1]) (n := 3) (Nat.le_of_ble_eq_true rfl)
  rw [lg_entry_eq]
  generalize (lg_sl ([.ref mo, .int x1]) ++ List.replicate (3 - (lg_sl ([.ref mo, .int x1])).length) Slot.unset).toArray = ls at hl ⊢
  have hl : lv_has ls 3 [(0, .ref mo), (1, .int x1)] := hl
  unfold wp_X9_advance at h
  refine lv_aload_n hx hb dX9_advance_0 rfl (lv_at hl 0 rfl) ?_
  refine lv_iload_n hx hb dX9_advance_1 rfl (lv_at hl 1 rfl) ?_
  refine fw_cV_i_p (As := [.int x1]) (rest := []) ⟨hx, hb, hml, hown, hts⟩ (cc_X9_lacks l G had h) (⟨callB_of 1 hts ggX9_advance_X9_lacks rfl rfl rfl (hts (.initialized RX9) (by decide +kernel)) (hts (.methodLink RX9 231 yX9_lacks) (by decide +kernel)) (by decide +kernel) ⟨Nat.le_of_ble_eq_true rfl, Nat.le_of_ble_eq_true rfl⟩, hts (.instanceMethod yX9_lacks) (by decide +kernel), hts (.selects RX9 yX9_lacks yX9_lacks) (by decide +kernel)⟩) rfl mf_obj hK hZ hF hS hA rfl hl.1 rfl (Nat.le_of_ble_eq_true rfl) dX9_advance_2 ⟨Nat.zero_le _, Nat.zero_le _⟩ (fun r_5 H locs h hF hS => ?_)
  refine lv_istore_n (lv' := [(2, .int r_5), (0, .ref mo), (1, .int x1)]) hx hb dX9_advance_5 rfl hl (by decide) rfl (fun ls hl => ?_)
  refine lv_iload_n hx hb dX9_advance_6 rfl (lv_at hl 0 rfl) ?_
  obtain ⟨h1, h2⟩ := h
  refine lv_if_eq (tgt := 16) hx hb dX9_advance_7 (by decide) (fun c_6 => ?_) (fun c_6 => ?_)
  · have h := h1 c_6
    refine lv_aload_n hx hb dX9_advance_16 rfl (lv_at hl 1 rfl) ?_
    refine fw_get (C := RX9) (T := TX9) (N := 34) hx hb hts hin_X9 hown hK hF mf_obj rfl 18 (by decide) (hts (.fieldLink RX9 44 "FrontCodedIndexModel" "cursors" "[I") (by decide +kernel)) (fun _ h9 => h9) rfl dX9_advance_17 ?_
    refine lv_iload_n hx hb dX9_advance_20 rfl (lv_at hl 2 rfl) ?_
    refine lv_dup2_11 hx hb dX9_advance_21 rfl rfl ?_
    obtain ⟨hi_i_7, h⟩ := h
    refine fw_iald hx hb hK hF (mf_arr had 18 (by decide)) hi_i_7 dX9_advance_22 ?_
    refine lv_topi (fun v_8 e_v_8 => ?_)
    have h := h v_8 e_v_8
    refine lv_iconst (v := (1 : Int32)) hx hb dX9_advance_23 (by decide) ?_
    refine lv_iadd hx hb dX9_advance_24 ?_
    obtain ⟨hi_i_9, h⟩ := h
    refine fw_iast hx hb hK hF hS (mf_arr had 18 (by decide)) hi_i_9 dX9_advance_25 (fun H locs hF hS => ?_)
    rw [mf_st had 18 (by decide)] at hF
    obtain ⟨g_10, hg_g_10⟩ : ∃ z, z = mup g 18 (x1).toNatClampNeg (v_8 + (1 : Int32)) := ⟨_, rfl⟩
    rw [← hg_g_10] at hF; have h := h g_10 hg_g_10
    refine lv_aload_n hx hb dX9_advance_26 rfl (lv_at hl 1 rfl) ?_
    refine lv_aload_n hx hb dX9_advance_27 rfl (lv_at hl 1 rfl) ?_
    refine fw_get (C := RX9) (T := TX9) (N := 34) hx hb hts hin_X9 hown hK hF mf_obj rfl 18 (by decide) (hts (.fieldLink RX9 44 "FrontCodedIndexModel" "cursors" "[I") (by decide +kernel)) (fun _ h9 => h9) rfl dX9_advance_28 ?_
    refine lv_iload_n hx hb dX9_advance_31 rfl (lv_at hl 2 rfl) ?_
    obtain ⟨hi_i_11, h⟩ := h
    refine fw_iald hx hb hK hF (mf_arr had 18 (by decide)) hi_i_11 dX9_advance_32 ?_
    refine lv_topi (fun v_12 e_v_12 => ?_)
    have h := h v_12 e_v_12
    refine lv_aload_n hx hb dX9_advance_33 rfl (lv_at hl 1 rfl) ?_
    refine fw_get (C := RX9) (T := TX9) (N := 34) hx hb hts hin_X9 hown hK hF mf_obj rfl 9 (by decide) (hts (.fieldLink RX9 106 "FrontCodedIndexModel" "entries" "I") (by decide +kernel)) (fun _ h9 => h9) rfl dX9_advance_34 ?_
    obtain ⟨h1, h2⟩ := h
    refine lv_icmp_ge (tgt := 44) hx hb dX9_advance_37 (by decide) (fun c_13 => ?_) (fun c_13 => ?_)
    · have h := h1 c_13
      refine lv_iconst (v := (0 : Int32)) hx hb dX9_advance_44 (by decide) ?_
      exact J45 (0 : Int32) n g_10 _ _ _ h hF hS (lv_sub hl [] rfl)
    · have h := h2 c_13
      refine lv_iconst (v := (1 : Int32)) hx hb dX9_advance_40 (by decide) ?_
      refine lv_goto (tgt := 45) hx hb dX9_advance_41 (by decide) ?_
      exact J45 (1 : Int32) n g_10 _ _ _ h hF hS (lv_sub hl [] rfl)
  · have h := h2 c_6
    refine lv_aload_n hx hb dX9_advance_10 rfl (lv_at hl 1 rfl) ?_
    refine lv_iload_n hx hb dX9_advance_11 rfl (lv_at hl 0 rfl) ?_
    refine fw_cV_i (As := [.int r_5]) (rest := []) ⟨hx, hb, hml, hown, hts⟩ (cc_X9_not l G had h) (⟨callB_of 1 hts ggX9_advance_X9_not rfl rfl rfl (hts (.initialized RX9) (by decide +kernel)) (hts (.methodLink RX9 183 yX9_not) (by decide +kernel)) (by decide +kernel) ⟨Nat.le_of_ble_eq_true rfl, Nat.le_of_ble_eq_true rfl⟩, hts (.instanceMethod yX9_not) (by decide +kernel), hts (.selects RX9 yX9_not yX9_not) (by decide +kernel)⟩) rfl mf_obj hK hZ hF hS hA rfl hl.1 rfl (Nat.le_of_ble_eq_true rfl) dX9_advance_12 ⟨Nat.zero_le _, Nat.zero_le _⟩ (fun r_14 f9 H locs h hF hS => ?_)
    obtain ⟨n_16, g_17, rfl, h⟩ := h
    obtain ⟨hz, h⟩ := h
    exact W.zret (v := r_14) hx hb hr (isB_nar hz) (fun t ht hW => ⟨⟨r_14, (mf mo ad n_16 g_17), rfl, ⟨_, _, rfl, h⟩, by rw [ht]; exact hF, FK.moved hW.alike hK⟩, hS.F ht⟩) hS.2.2 dX9_advance_15
theorem dX9_shared_0 : decode cX9_shared 0 = .ok (.iconst 0, 1) := by decide +kernel
theorem dX9_shared_1 : decode cX9_shared 1 = .ok (.istore 6, 2) := by decide +kernel
theorem dX9_shared_3 : decode cX9_shared 3 = .ok (.iload 6, 2) := by decide +kernel
theorem dX9_shared_5 : decode cX9_shared 5 = .ok (.iload_n 2, 1) := by decide +kernel
theorem dX9_shared_6 : decode cX9_shared 6 = .ok (.if_icmp .ge 32, 3) := by decide +kernel
theorem dX9_shared_9 : decode cX9_shared 9 = .ok (.iload 6, 2) := by decide +kernel
theorem dX9_shared_11 : decode cX9_shared 11 = .ok (.iload 5, 2) := by decide +kernel
theorem dX9_shared_13 : decode cX9_shared 13 = .ok (.if_icmp .ge 25, 3) := by decide +kernel
theorem dX9_shared_16 : decode cX9_shared 16 = .ok (.aload_n 0, 1) := by decide +kernel
theorem dX9_shared_17 : decode cX9_shared 17 = .ok (.iload_n 1, 1) := by decide +kernel
theorem dX9_shared_18 : decode cX9_shared 18 = .ok (.iload 6, 2) := by decide +kernel
theorem dX9_shared_20 : decode cX9_shared 20 = .ok (.iadd, 1) := by decide +kernel
theorem dX9_shared_21 : decode cX9_shared 21 = .ok (.iaload, 1) := by decide +kernel
theorem dX9_shared_22 : decode cX9_shared 22 = .ok (.aload_n 3, 1) := by decide +kernel
theorem dX9_shared_23 : decode cX9_shared 23 = .ok (.iload 4, 2) := by decide +kernel
theorem dX9_shared_25 : decode cX9_shared 25 = .ok (.iload 6, 2) := by decide +kernel
theorem dX9_shared_27 : decode cX9_shared 27 = .ok (.iadd, 1) := by decide +kernel
theorem dX9_shared_28 : decode cX9_shared 28 = .ok (.iaload, 1) := by decide +kernel
theorem dX9_shared_29 : decode cX9_shared 29 = .ok (.if_icmp .ne 9, 3) := by decide +kernel
theorem dX9_shared_32 : decode cX9_shared 32 = .ok (.iinc 6 1, 3) := by decide +kernel
theorem dX9_shared_35 : decode cX9_shared 35 = .ok (.goto (-32), 3) := by decide +kernel
theorem dX9_shared_38 : decode cX9_shared 38 = .ok (.iload 6, 2) := by decide +kernel
theorem dX9_shared_40 : decode cX9_shared 40 = .ok (.ireturn, 1) := by decide +kernel
def wp_X9_shared_3 (k0 : Nat) (x1 : Int32) (x2 : Int32) (k3 : Nat) (x4 : Int32) (x5 : Int32) (n : Nat → Int32) (g : Nat → Nat → Int32) (K : Int32 → Prop)  (C3 : Int32 → Prop) : Int32 → Prop := fun s9 => match s9 with
  | y6 => ((x2 ≤ y6 → K y6) ∧
 (¬ (x2 ≤ y6) → ((x5 ≤ y6 → K y6) ∧
 (¬ (x5 ≤ y6) → k0 ∈ mAI ∧ vp_in (x1 + y6) (mlen k0) ∧ ∀ v_4 : Int32, v_4 = g k0 ((x1 + y6)).toNatClampNeg → k3 ∈ mAI ∧ vp_in (x4 + y6) (mlen k3) ∧ ∀ v_6 : Int32, v_6 = g k3 ((x4 + y6)).toNatClampNeg → ((¬ v_4 = v_6 → K y6) ∧
 (v_4 = v_6 → ∀ v_8 : Int32, v_8 = y6 + 1 → C3 v_8))))))
def wp_X9_shared (k0 : Nat) (x1 : Int32) (x2 : Int32) (k3 : Nat) (x4 : Int32) (x5 : Int32) (n : Nat → Int32) (g : Nat → Nat → Int32) (K : Int32 → Prop) : Prop :=
  ∃ n_10, loopW (wp_X9_shared_3 k0 x1 x2 k3 x4 x5 n g K) n_10 (0 : Int32)
set_option maxHeartbeats 4000000 in
set_option maxRecDepth 100000 in
theorem cc_X9_shared (l : Launch) (G : GG) {mo : Nat} {ad : Nat → Nat} (had : MAd mo ad) {n : Nat → Int32} {g : Nat → Nat → Int32} {sz : Nat} {k0 : Nat} {x1 : Int32} {x2 : Int32} {k3 : Nat} {x4 : Int32} {x5 : Int32} {K : Int32 → Prop} (h : wp_X9_shared k0 x1 x2 k3 x4 x5 n g K) : Met l yX9_shared wsX9_shared ({ frames := 0, cells := 0, slots := 0, locals := 0 } : Room) (FP G [.ref (ad k0), .int x1, .int x2, .ref (ad k3), .int x4, .int x5] (mf mo ad n g) sz) (va_Qi (fun r f9 => K r ∧ f9 = mf mo ad n g : Int32 → FT → Prop) (FB G (fA (mf mo ad n g) sz)) (fA (mf mo ad n g) sz)) 0 0 (fA (mf mo ad n g) sz) := by
  refine Met.ofW (cc := cX9_shared) (maxL := 7) (ret := (some .int)) (by decide) rfl ?_
  intro p e s m args below meth c s₁ B hml hv
  obtain ⟨rfl, hsz, hF, hK, hZ⟩ := hv
  have hx := B.exec
  have hb := B.bytes
  have hr := B.returns
  have hts := atoms_spec (ws := wsX9_shared) B.pre
  have hown : s.vm.findClass RX9 = some m.cls := findClass_of_methodNamed B.named
  have hlocks := B.notSynchronized
  subst hsz
  have hF := hF.self (sz := s.heap.size)
  generalize hAe : fA (mf mo ad n g) s.heap.size = A at hF hZ ⊢
  have hA : ∀ q : Nat, s.heap.size ≤ q → A q := fun q h => by rw [← hAe]; exact Or.inr h
  have hS : va_S A s.heap s.heap [] := va_S.rf
  have L3 : ∀  (j9 : Nat) (y6 : Int32) (H : Heap) (locs : List Loc) (ls : Array Slot), loopW (wp_X9_shared_3 k0 x1 x2 k3 x4 x5 n g K ) j9 y6 → Fw G A (mf mo ad n g) H → va_S A s.heap H locs → lv_has ls 7 [(0, .ref (ad k0)), (1, .int x1), (2, .int x2), (3, .ref (ad k3)), (4, .int x4), (5, .int x5), (6, .int y6)] → W p l e ({ frames := 0, cells := 0, slots := 0, locals := 0 } : Room) s m ([.ref (ad k0), .int x1, .int x2, .ref (ad k3), .int x4, .int x5] : List Value).toArray below meth c H locs 0 0 (MQ below (va_Qi (fun r f9 => K r ∧ f9 = mf mo ad n g : Int32 → FT → Prop) (FB G A) A) ([.ref (ad k0), .int x1, .int x2, .ref (ad k3), .int x4, .int x5] : List Value).toArray s 0 0 A) (F0 m 3 ls []) := by
    intro  j9
    induction j9 with
    | zero => intro y6 H locs ls h; exact h.elim
    | succ j9 ih3 =>
      intro y6 H locs ls h hF hS hl
      have h : wp_X9_shared_3 k0 x1 x2 k3 x4 x5 n g K  (loopW (wp_X9_shared_3 k0 x1 x2 k3 x4 x5 n g K ) j9) y6 := h
      generalize loopW (wp_X9_shared_3 k0 x1 x2 k3 x4 x5 n g K ) j9 = C3 at ih3 h
      unfold wp_X9_shared_3 at h
      refine lv_iload hx hb dX9_shared_3 (lv_at hl 6 rfl) ?_
      refine lv_iload_n hx hb dX9_shared_5 rfl (lv_at hl 2 rfl) ?_
      obtain ⟨h1, h2⟩ := h
      refine lv_icmp_ge (tgt := 38) hx hb dX9_shared_6 (by decide) (fun c_1 => ?_) (fun c_1 => ?_)
      · have h := h1 c_1
        refine lv_iload hx hb dX9_shared_38 (lv_at hl 6 rfl) ?_
        exact W.iret (v := y6) hx hb hr (fun t ht hW => ⟨⟨y6, (mf mo ad n g), rfl, ⟨h, rfl⟩, by rw [ht]; exact hF, FK.moved hW.alike hK⟩, hS.F ht⟩) hS.2.2 dX9_shared_40
      · have h := h2 c_1
        refine lv_iload hx hb dX9_shared_9 (lv_at hl 6 rfl) ?_
        refine lv_iload hx hb dX9_shared_11 (lv_at hl 5 rfl) ?_
        obtain ⟨h1, h2⟩ := h
        refine lv_icmp_ge (tgt := 38) hx hb dX9_shared_13 (by decide) (fun c_2 => ?_) (fun c_2 => ?_)
        · have h := h1 c_2
          refine lv_iload hx hb dX9_shared_38 (lv_at hl 6 rfl) ?_
          exact W.iret (v := y6) hx hb hr (fun t ht hW => ⟨⟨y6, (mf mo ad n g), rfl, ⟨h, rfl⟩, by rw [ht]; exact hF, FK.moved hW.alike hK⟩, hS.F ht⟩) hS.2.2 dX9_shared_40
        · have h := h2 c_2
          refine lv_aload_n hx hb dX9_shared_16 rfl (lv_at hl 0 rfl) ?_
          refine lv_iload_n hx hb dX9_shared_17 rfl (lv_at hl 1 rfl) ?_
          refine lv_iload hx hb dX9_shared_18 (lv_at hl 6 rfl) ?_
          refine lv_iadd hx hb dX9_shared_20 ?_
          obtain ⟨hm_i_3, hi_i_3, h⟩ := h
          refine fw_iald hx hb hK hF (mf_arr had k0 hm_i_3) hi_i_3 dX9_shared_21 ?_
          refine lv_topi (fun v_4 e_v_4 => ?_)
          have h := h v_4 e_v_4
          refine lv_aload_n hx hb dX9_shared_22 rfl (lv_at hl 3 rfl) ?_
          refine lv_iload hx hb dX9_shared_23 (lv_at hl 4 rfl) ?_
          refine lv_iload hx hb dX9_shared_25 (lv_at hl 6 rfl) ?_
          refine lv_iadd hx hb dX9_shared_27 ?_
          obtain ⟨hm_i_5, hi_i_5, h⟩ := h
          refine fw_iald hx hb hK hF (mf_arr had k3 hm_i_5) hi_i_5 dX9_shared_28 ?_
          refine lv_topi (fun v_6 e_v_6 => ?_)
          have h := h v_6 e_v_6
          obtain ⟨h1, h2⟩ := h
          refine lv_icmp_ne (tgt := 38) hx hb dX9_shared_29 (by decide) (fun c_7 => ?_) (fun c_7 => ?_)
          · have h := h1 c_7
            refine lv_iload hx hb dX9_shared_38 (lv_at hl 6 rfl) ?_
            exact W.iret (v := y6) hx hb hr (fun t ht hW => ⟨⟨y6, (mf mo ad n g), rfl, ⟨h, rfl⟩, by rw [ht]; exact hF, FK.moved hW.alike hK⟩, hS.F ht⟩) hS.2.2 dX9_shared_40
          · have h := h2 c_7
            obtain ⟨v_8, e_9⟩ : ∃ y : Int32, y = y6 + 1 := ⟨_, rfl⟩
            have h := h v_8 e_9
            refine lv_iinc (v := v_8) (lv' := [(6, .int v_8), (0, .ref (ad k0)), (1, .int x1), (2, .int x2), (3, .ref (ad k3)), (4, .int x4), (5, .int x5)]) hx hb dX9_shared_32 hl (k := 6) rfl (by rw [e_9]; rfl) (by decide) rfl (fun ls hl => ?_)
            refine lv_goto (tgt := 3) hx hb dX9_shared_35 (by decide) ?_
            exact ih3 v_8 _ _ _ h hF hS (lv_sub hl [1, 2, 3, 4, 5, 6, 0] rfl)
  have hl := lv_entry ([.ref (ad k0), .int x1, .int x2, .ref (ad k3), .int x4, .int x5]) (n := 7) (Nat.le_of_ble_eq_true rfl)
  rw [lg_entry_eq]
  generalize (lg_sl ([.ref (ad k0), .int x1, .int x2, .ref (ad k3), .int x4, .int x5]) ++ List.replicate (7 - (lg_sl ([.ref (ad k0), .int x1, .int x2, .ref (ad k3), .int x4, .int x5])).length) Slot.unset).toArray = ls at hl ⊢
  have hl : lv_has ls 7 [(0, .ref (ad k0)), (1, .int x1), (2, .int x2), (3, .ref (ad k3)), (4, .int x4), (5, .int x5)] := hl
  unfold wp_X9_shared at h
  refine lv_iconst (v := (0 : Int32)) hx hb dX9_shared_0 (by decide) ?_
  refine lv_istore (lv' := [(6, .int (0 : Int32)), (0, .ref (ad k0)), (1, .int x1), (2, .int x2), (3, .ref (ad k3)), (4, .int x4), (5, .int x5)]) hx hb dX9_shared_1 hl (by decide) rfl (fun ls hl => ?_)
  obtain ⟨n_10, h⟩ := h
  exact L3 n_10 (0 : Int32) _ _ _ h hF hS (lv_sub hl [1, 2, 3, 4, 5, 6, 0] rfl)
theorem dX9_compare_0 : decode cX9_compare 0 = .ok (.aload_n 0, 1) := by decide +kernel
theorem dX9_compare_1 : decode cX9_compare 1 = .ok (.iload_n 1, 1) := by decide +kernel
theorem dX9_compare_2 : decode cX9_compare 2 = .ok (.iload_n 2, 1) := by decide +kernel
theorem dX9_compare_3 : decode cX9_compare 3 = .ok (.aload_n 3, 1) := by decide +kernel
theorem dX9_compare_4 : decode cX9_compare 4 = .ok (.iload 4, 2) := by decide +kernel
theorem dX9_compare_6 : decode cX9_compare 6 = .ok (.iload 5, 2) := by decide +kernel
theorem dX9_compare_8 : decode cX9_compare 8 = .ok (.invokestatic 99, 3) := by decide +kernel
theorem dX9_compare_11 : decode cX9_compare 11 = .ok (.istore 6, 2) := by decide +kernel
theorem dX9_compare_13 : decode cX9_compare 13 = .ok (.iload 6, 2) := by decide +kernel
theorem dX9_compare_15 : decode cX9_compare 15 = .ok (.iload_n 2, 1) := by decide +kernel
theorem dX9_compare_16 : decode cX9_compare 16 = .ok (.if_icmp .ge 25, 3) := by decide +kernel
theorem dX9_compare_19 : decode cX9_compare 19 = .ok (.iload 6, 2) := by decide +kernel
theorem dX9_compare_21 : decode cX9_compare 21 = .ok (.iload 5, 2) := by decide +kernel
theorem dX9_compare_23 : decode cX9_compare 23 = .ok (.if_icmp .ge 18, 3) := by decide +kernel
theorem dX9_compare_26 : decode cX9_compare 26 = .ok (.aload_n 0, 1) := by decide +kernel
theorem dX9_compare_27 : decode cX9_compare 27 = .ok (.iload_n 1, 1) := by decide +kernel
theorem dX9_compare_28 : decode cX9_compare 28 = .ok (.iload 6, 2) := by decide +kernel
theorem dX9_compare_30 : decode cX9_compare 30 = .ok (.iadd, 1) := by decide +kernel
theorem dX9_compare_31 : decode cX9_compare 31 = .ok (.iaload, 1) := by decide +kernel
theorem dX9_compare_32 : decode cX9_compare 32 = .ok (.aload_n 3, 1) := by decide +kernel
theorem dX9_compare_33 : decode cX9_compare 33 = .ok (.iload 4, 2) := by decide +kernel
theorem dX9_compare_35 : decode cX9_compare 35 = .ok (.iload 6, 2) := by decide +kernel
theorem dX9_compare_37 : decode cX9_compare 37 = .ok (.iadd, 1) := by decide +kernel
theorem dX9_compare_38 : decode cX9_compare 38 = .ok (.iaload, 1) := by decide +kernel
theorem dX9_compare_39 : decode cX9_compare 39 = .ok (.isub, 1) := by decide +kernel
theorem dX9_compare_40 : decode cX9_compare 40 = .ok (.ireturn, 1) := by decide +kernel
theorem dX9_compare_41 : decode cX9_compare 41 = .ok (.iload_n 2, 1) := by decide +kernel
theorem dX9_compare_42 : decode cX9_compare 42 = .ok (.iload 5, 2) := by decide +kernel
theorem dX9_compare_44 : decode cX9_compare 44 = .ok (.isub, 1) := by decide +kernel
theorem dX9_compare_45 : decode cX9_compare 45 = .ok (.ireturn, 1) := by decide +kernel
set_option maxRecDepth 20000 in
theorem ggX9_compare_X9_shared : GoodIn wsX9_compare wsX9_shared := goodIn_r _ [4] (by decide +kernel) (by decide +kernel)
def wp_X9_compare (k0 : Nat) (x1 : Int32) (x2 : Int32) (k3 : Nat) (x4 : Int32) (x5 : Int32) (n : Nat → Int32) (g : Nat → Nat → Int32) (K : Int32 → Prop) : Prop :=
  wp_X9_shared k0 x1 x2 k3 x4 x5 n g (fun r_1 => ((x2 ≤ r_1 → K (x2 - x5)) ∧
 (¬ (x2 ≤ r_1) → ((x5 ≤ r_1 → K (x2 - x5)) ∧
 (¬ (x5 ≤ r_1) → k0 ∈ mAI ∧ vp_in (x1 + r_1) (mlen k0) ∧ ∀ v_5 : Int32, v_5 = g k0 ((x1 + r_1)).toNatClampNeg → k3 ∈ mAI ∧ vp_in (x4 + r_1) (mlen k3) ∧ ∀ v_7 : Int32, v_7 = g k3 ((x4 + r_1)).toNatClampNeg → K (v_5 - v_7))))))
set_option maxHeartbeats 4000000 in
set_option maxRecDepth 100000 in
theorem cc_X9_compare (l : Launch) (G : GG) {mo : Nat} {ad : Nat → Nat} (had : MAd mo ad) {n : Nat → Int32} {g : Nat → Nat → Int32} {sz : Nat} {k0 : Nat} {x1 : Int32} {x2 : Int32} {k3 : Nat} {x4 : Int32} {x5 : Int32} {K : Int32 → Prop} (h : wp_X9_compare k0 x1 x2 k3 x4 x5 n g K) : Met l yX9_compare wsX9_compare ({ frames := 1, cells := 0, slots := 0, locals := 26 } : Room) (FP G [.ref (ad k0), .int x1, .int x2, .ref (ad k3), .int x4, .int x5] (mf mo ad n g) sz) (va_Qi (fun r f9 => K r ∧ f9 = mf mo ad n g : Int32 → FT → Prop) (FB G (fA (mf mo ad n g) sz)) (fA (mf mo ad n g) sz)) 0 0 (fA (mf mo ad n g) sz) := by
  refine Met.ofW (cc := cX9_compare) (maxL := 7) (ret := (some .int)) (by decide) rfl ?_
  intro p e s m args below meth c s₁ B hml hv
  obtain ⟨rfl, hsz, hF, hK, hZ⟩ := hv
  have hx := B.exec
  have hb := B.bytes
  have hr := B.returns
  have hts := atoms_spec (ws := wsX9_compare) B.pre
  have hown : s.vm.findClass RX9 = some m.cls := findClass_of_methodNamed B.named
  have hlocks := B.notSynchronized
  subst hsz
  have hF := hF.self (sz := s.heap.size)
  generalize hAe : fA (mf mo ad n g) s.heap.size = A at hF hZ ⊢
  have hA : ∀ q : Nat, s.heap.size ≤ q → A q := fun q h => by rw [← hAe]; exact Or.inr h
  have hS : va_S A s.heap s.heap [] := va_S.rf
  have hl := lv_entry ([.ref (ad k0), .int x1, .int x2, .ref (ad k3), .int x4, .int x5]) (n := 7) (Nat.le_of_ble_eq_true rfl)
  rw [lg_entry_eq]
  generalize (lg_sl ([.ref (ad k0), .int x1, .int x2, .ref (ad k3), .int x4, .int x5]) ++ List.replicate (7 - (lg_sl ([.ref (ad k0), .int x1, .int x2, .ref (ad k3), .int x4, .int x5])).length) Slot.unset).toArray = ls at hl ⊢
  have hl : lv_has ls 7 [(0, .ref (ad k0)), (1, .int x1), (2, .int x2), (3, .ref (ad k3)), (4, .int x4), (5, .int x5)] := hl
  unfold wp_X9_compare at h
  refine lv_aload_n hx hb dX9_compare_0 rfl (lv_at hl 0 rfl) ?_
  refine lv_iload_n hx hb dX9_compare_1 rfl (lv_at hl 1 rfl) ?_
  refine lv_iload_n hx hb dX9_compare_2 rfl (lv_at hl 2 rfl) ?_
  refine lv_aload_n hx hb dX9_compare_3 rfl (lv_at hl 3 rfl) ?_
  refine lv_iload hx hb dX9_compare_4 (lv_at hl 4 rfl) ?_
  refine lv_iload hx hb dX9_compare_6 (lv_at hl 5 rfl) ?_
  refine fw_cS_i_p (As := [.ref (ad k0), .int x1, .int x2, .ref (ad k3), .int x4, .int x5]) (rest := []) ⟨hx, hb, hml, hown, hts⟩ (cc_X9_shared l G had h) (⟨callB_of 6 hts ggX9_compare_X9_shared rfl rfl rfl (hts (.initialized RX9) (by decide +kernel)) (hts (.methodLink RX9 99 yX9_shared) (by decide +kernel)) (by decide +kernel) ⟨Nat.le_of_ble_eq_true rfl, Nat.le_of_ble_eq_true rfl⟩, hts (.static yX9_shared) (by decide +kernel)⟩) hK hZ hF hS hA rfl hl.1 rfl (Nat.le_of_ble_eq_true rfl) dX9_compare_8 ⟨Nat.zero_le _, Nat.zero_le _⟩ (fun r_1 H locs h hF hS => ?_)
  refine lv_istore (lv' := [(6, .int r_1), (0, .ref (ad k0)), (1, .int x1), (2, .int x2), (3, .ref (ad k3)), (4, .int x4), (5, .int x5)]) hx hb dX9_compare_11 hl (by decide) rfl (fun ls hl => ?_)
  refine lv_iload hx hb dX9_compare_13 (lv_at hl 0 rfl) ?_
  refine lv_iload_n hx hb dX9_compare_15 rfl (lv_at hl 3 rfl) ?_
  obtain ⟨h1, h2⟩ := h
  refine lv_icmp_ge (tgt := 41) hx hb dX9_compare_16 (by decide) (fun c_2 => ?_) (fun c_2 => ?_)
  · have h := h1 c_2
    refine lv_iload_n hx hb dX9_compare_41 rfl (lv_at hl 3 rfl) ?_
    refine lv_iload hx hb dX9_compare_42 (lv_at hl 6 rfl) ?_
    refine lv_isub hx hb dX9_compare_44 ?_
    exact W.iret (v := (x2 - x5)) hx hb hr (fun t ht hW => ⟨⟨(x2 - x5), (mf mo ad n g), rfl, ⟨h, rfl⟩, by rw [ht]; exact hF, FK.moved hW.alike hK⟩, hS.F ht⟩) hS.2.2 dX9_compare_45
  · have h := h2 c_2
    refine lv_iload hx hb dX9_compare_19 (lv_at hl 0 rfl) ?_
    refine lv_iload hx hb dX9_compare_21 (lv_at hl 6 rfl) ?_
    obtain ⟨h1, h2⟩ := h
    refine lv_icmp_ge (tgt := 41) hx hb dX9_compare_23 (by decide) (fun c_3 => ?_) (fun c_3 => ?_)
    · have h := h1 c_3
      refine lv_iload_n hx hb dX9_compare_41 rfl (lv_at hl 3 rfl) ?_
      refine lv_iload hx hb dX9_compare_42 (lv_at hl 6 rfl) ?_
      refine lv_isub hx hb dX9_compare_44 ?_
      exact W.iret (v := (x2 - x5)) hx hb hr (fun t ht hW => ⟨⟨(x2 - x5), (mf mo ad n g), rfl, ⟨h, rfl⟩, by rw [ht]; exact hF, FK.moved hW.alike hK⟩, hS.F ht⟩) hS.2.2 dX9_compare_45
    · have h := h2 c_3
      refine lv_aload_n hx hb dX9_compare_26 rfl (lv_at hl 1 rfl) ?_
      refine lv_iload_n hx hb dX9_compare_27 rfl (lv_at hl 2 rfl) ?_
      refine lv_iload hx hb dX9_compare_28 (lv_at hl 0 rfl) ?_
      refine lv_iadd hx hb dX9_compare_30 ?_
      obtain ⟨hm_i_4, hi_i_4, h⟩ := h
      refine fw_iald hx hb hK hF (mf_arr had k0 hm_i_4) hi_i_4 dX9_compare_31 ?_
      refine lv_topi (fun v_5 e_v_5 => ?_)
      have h := h v_5 e_v_5
      refine lv_aload_n hx hb dX9_compare_32 rfl (lv_at hl 4 rfl) ?_
      refine lv_iload hx hb dX9_compare_33 (lv_at hl 5 rfl) ?_
      refine lv_iload hx hb dX9_compare_35 (lv_at hl 0 rfl) ?_
      refine lv_iadd hx hb dX9_compare_37 ?_
      obtain ⟨hm_i_6, hi_i_6, h⟩ := h
      refine fw_iald hx hb hK hF (mf_arr had k3 hm_i_6) hi_i_6 dX9_compare_38 ?_
      refine lv_topi (fun v_7 e_v_7 => ?_)
      have h := h v_7 e_v_7
      refine lv_isub hx hb dX9_compare_39 ?_
      exact W.iret (v := (v_5 - v_7)) hx hb hr (fun t ht hW => ⟨⟨(v_5 - v_7), (mf mo ad n g), rfl, ⟨h, rfl⟩, by rw [ht]; exact hF, FK.moved hW.alike hK⟩, hS.F ht⟩) hS.2.2 dX9_compare_40
theorem dX9_against_0 : decode cX9_against 0 = .ok (.aload_n 0, 1) := by decide +kernel
theorem dX9_against_1 : decode cX9_against 1 = .ok (.getfield 23, 3) := by decide +kernel
theorem dX9_against_4 : decode cX9_against 4 = .ok (.bipush 12, 2) := by decide +kernel
theorem dX9_against_6 : decode cX9_against 6 = .ok (.iload_n 1, 1) := by decide +kernel
theorem dX9_against_7 : decode cX9_against 7 = .ok (.imul, 1) := by decide +kernel
theorem dX9_against_8 : decode cX9_against 8 = .ok (.aload_n 0, 1) := by decide +kernel
theorem dX9_against_9 : decode cX9_against 9 = .ok (.getfield 20, 3) := by decide +kernel
theorem dX9_against_12 : decode cX9_against 12 = .ok (.iload_n 1, 1) := by decide +kernel
theorem dX9_against_13 : decode cX9_against 13 = .ok (.iaload, 1) := by decide +kernel
theorem dX9_against_14 : decode cX9_against 14 = .ok (.aload_n 2, 1) := by decide +kernel
theorem dX9_against_15 : decode cX9_against 15 = .ok (.iconst 0, 1) := by decide +kernel
theorem dX9_against_16 : decode cX9_against 16 = .ok (.iload_n 3, 1) := by decide +kernel
theorem dX9_against_17 : decode cX9_against 17 = .ok (.invokestatic 103, 3) := by decide +kernel
theorem dX9_against_20 : decode cX9_against 20 = .ok (.ireturn, 1) := by decide +kernel
set_option maxRecDepth 20000 in
theorem ggX9_against_X9_compare : GoodIn wsX9_against wsX9_compare := goodIn_r _ [6, 7, 8, 5, 9] (by decide +kernel) (by decide +kernel)
def wp_X9_against (x1 : Int32) (k2 : Nat) (x3 : Int32) (n : Nat → Int32) (g : Nat → Nat → Int32) (K : Int32 → Prop) : Prop :=
  vp_in x1 (mlen 10) ∧ ∀ v_2 : Int32, v_2 = g 10 (x1).toNatClampNeg → wp_X9_compare 11 ((12 : Int32) * x1) v_2 k2 (0 : Int32) x3 n g (fun r_3 => K r_3)
set_option maxHeartbeats 4000000 in
set_option maxRecDepth 100000 in
theorem cc_X9_against (l : Launch) (G : GG) {mo : Nat} {ad : Nat → Nat} (had : MAd mo ad) {n : Nat → Int32} {g : Nat → Nat → Int32} {sz : Nat} {x1 : Int32} {k2 : Nat} {x3 : Int32} {K : Int32 → Prop} (h : wp_X9_against x1 k2 x3 n g K) : Met l yX9_against wsX9_against ({ frames := 2, cells := 0, slots := 0, locals := 52 } : Room) (FP G [.ref mo, .int x1, .ref (ad k2), .int x3] (mf mo ad n g) sz) (va_Qi (fun r f9 => K r ∧ f9 = mf mo ad n g : Int32 → FT → Prop) (FB G (fA (mf mo ad n g) sz)) (fA (mf mo ad n g) sz)) 0 0 (fA (mf mo ad n g) sz) := by
  refine Met.ofW (cc := cX9_against) (maxL := 4) (ret := (some .int)) (by decide) rfl ?_
  intro p e s m args below meth c s₁ B hml hv
  obtain ⟨rfl, hsz, hF, hK, hZ⟩ := hv
  have hx := B.exec
  have hb := B.bytes
  have hr := B.returns
  have hts := atoms_spec (ws := wsX9_against) B.pre
  have hown : s.vm.findClass RX9 = some m.cls := findClass_of_methodNamed B.named
  have hlocks := B.notSynchronized
  subst hsz
  have hF := hF.self (sz := s.heap.size)
  generalize hAe : fA (mf mo ad n g) s.heap.size = A at hF hZ ⊢
  have hA : ∀ q : Nat, s.heap.size ≤ q → A q := fun q h => by rw [← hAe]; exact Or.inr h
  have hS : va_S A s.heap s.heap [] := va_S.rf
  have hin_X9 : ∀ w ∈ wsX90, w ∈ wsX9_against := by decide +kernel
  have hl := lv_entry ([.ref mo, .int x1, .ref (ad k2), .int x3]) (n := 4) (Nat.le_of_ble_eq_true rfl)
  rw [lg_entry_eq]
  generalize (lg_sl ([.ref mo, .int x1, .ref (ad k2), .int x3]) ++ List.replicate (4 - (lg_sl ([.ref mo, .int x1, .ref (ad k2), .int x3])).length) Slot.unset).toArray = ls at hl ⊢
  have hl : lv_has ls 4 [(0, .ref mo), (1, .int x1), (2, .ref (ad k2)), (3, .int x3)] := hl
  unfold wp_X9_against at h
  refine lv_aload_n hx hb dX9_against_0 rfl (lv_at hl 0 rfl) ?_
  refine fw_get (C := RX9) (T := TX9) (N := 34) hx hb hts hin_X9 hown hK hF mf_obj rfl 11 (by decide) (hts (.fieldLink RX9 23 "FrontCodedIndexModel" "bytes" "[I") (by decide +kernel)) (fun _ h9 => h9) rfl dX9_against_1 ?_
  refine lv_bipush (v := (12 : Int32)) hx hb dX9_against_4 (by decide) ?_
  refine lv_iload_n hx hb dX9_against_6 rfl (lv_at hl 1 rfl) ?_
  refine lv_imul hx hb dX9_against_7 ?_
  refine lv_aload_n hx hb dX9_against_8 rfl (lv_at hl 0 rfl) ?_
  refine fw_get (C := RX9) (T := TX9) (N := 34) hx hb hts hin_X9 hown hK hF mf_obj rfl 10 (by decide) (hts (.fieldLink RX9 20 "FrontCodedIndexModel" "sizeOf" "[I") (by decide +kernel)) (fun _ h9 => h9) rfl dX9_against_9 ?_
  refine lv_iload_n hx hb dX9_against_12 rfl (lv_at hl 1 rfl) ?_
  obtain ⟨hi_i_1, h⟩ := h
  refine fw_iald hx hb hK hF (mf_arr had 10 (by decide)) hi_i_1 dX9_against_13 ?_
  refine lv_topi (fun v_2 e_v_2 => ?_)
  have h := h v_2 e_v_2
  refine lv_aload_n hx hb dX9_against_14 rfl (lv_at hl 2 rfl) ?_
  refine lv_iconst (v := (0 : Int32)) hx hb dX9_against_15 (by decide) ?_
  refine lv_iload_n hx hb dX9_against_16 rfl (lv_at hl 3 rfl) ?_
  refine fw_cS_i_p (As := [.ref (ad 11), .int ((12 : Int32) * x1), .int v_2, .ref (ad k2), .int (0 : Int32), .int x3]) (rest := []) ⟨hx, hb, hml, hown, hts⟩ (cc_X9_compare l G had h) (⟨callB_of 6 hts ggX9_against_X9_compare rfl rfl rfl (hts (.initialized RX9) (by decide +kernel)) (hts (.methodLink RX9 103 yX9_compare) (by decide +kernel)) (by decide +kernel) ⟨Nat.le_of_ble_eq_true rfl, Nat.le_of_ble_eq_true rfl⟩, hts (.static yX9_compare) (by decide +kernel)⟩) hK hZ hF hS hA rfl hl.1 rfl (Nat.le_of_ble_eq_true rfl) dX9_against_17 ⟨Nat.zero_le _, Nat.zero_le _⟩ (fun r_3 H locs h hF hS => ?_)
  exact W.iret (v := r_3) hx hb hr (fun t ht hW => ⟨⟨r_3, (mf mo ad n g), rfl, ⟨h, rfl⟩, by rw [ht]; exact hF, FK.moved hW.alike hK⟩, hS.F ht⟩) hS.2.2 dX9_against_20
theorem dX9_at_0 : decode cX9_at 0 = .ok (.sipush 400, 3) := by decide +kernel
theorem dX9_at_3 : decode cX9_at 3 = .ok (.iload_n 0, 1) := by decide +kernel
theorem dX9_at_4 : decode cX9_at 4 = .ok (.imul, 1) := by decide +kernel
theorem dX9_at_5 : decode cX9_at 5 = .ok (.iload_n 1, 1) := by decide +kernel
theorem dX9_at_6 : decode cX9_at 6 = .ok (.iadd, 1) := by decide +kernel
theorem dX9_at_7 : decode cX9_at 7 = .ok (.ireturn, 1) := by decide +kernel
def wp_X9_at (x0 : Int32) (x1 : Int32) (n : Nat → Int32) (g : Nat → Nat → Int32) (K : Int32 → Prop) : Prop :=
  K (((400 : Int32) * x0) + x1)
set_option maxHeartbeats 4000000 in
set_option maxRecDepth 100000 in
theorem cc_X9_at (l : Launch) (G : GG) {mo : Nat} {ad : Nat → Nat} (had : MAd mo ad) {n : Nat → Int32} {g : Nat → Nat → Int32} {sz : Nat} {x0 : Int32} {x1 : Int32} {K : Int32 → Prop} (h : wp_X9_at x0 x1 n g K) : Met l yX9_at wsX9_at ({ frames := 0, cells := 0, slots := 0, locals := 0 } : Room) (FP G [.int x0, .int x1] (mf mo ad n g) sz) (va_Qi (fun r f9 => K r ∧ f9 = mf mo ad n g : Int32 → FT → Prop) (FB G (fA (mf mo ad n g) sz)) (fA (mf mo ad n g) sz)) 0 0 (fA (mf mo ad n g) sz) := by
  refine Met.ofW (cc := cX9_at) (maxL := 2) (ret := (some .int)) (by decide) rfl ?_
  intro p e s m args below meth c s₁ B hml hv
  obtain ⟨rfl, hsz, hF, hK, hZ⟩ := hv
  have hx := B.exec
  have hb := B.bytes
  have hr := B.returns
  have hts := atoms_spec (ws := wsX9_at) B.pre
  have hown : s.vm.findClass RX9 = some m.cls := findClass_of_methodNamed B.named
  have hlocks := B.notSynchronized
  subst hsz
  have hF := hF.self (sz := s.heap.size)
  generalize hAe : fA (mf mo ad n g) s.heap.size = A at hF hZ ⊢
  have hA : ∀ q : Nat, s.heap.size ≤ q → A q := fun q h => by rw [← hAe]; exact Or.inr h
  have hS : va_S A s.heap s.heap [] := va_S.rf
  have hl := lv_entry ([.int x0, .int x1]) (n := 2) (Nat.le_of_ble_eq_true rfl)
  rw [lg_entry_eq]
  generalize (lg_sl ([.int x0, .int x1]) ++ List.replicate (2 - (lg_sl ([.int x0, .int x1])).length) Slot.unset).toArray = ls at hl ⊢
  have hl : lv_has ls 2 [(0, .int x0), (1, .int x1)] := hl
  unfold wp_X9_at at h
  refine lv_sipush (v := (400 : Int32)) hx hb dX9_at_0 (by decide) ?_
  refine lv_iload_n hx hb dX9_at_3 rfl (lv_at hl 0 rfl) ?_
  refine lv_imul hx hb dX9_at_4 ?_
  refine lv_iload_n hx hb dX9_at_5 rfl (lv_at hl 1 rfl) ?_
  refine lv_iadd hx hb dX9_at_6 ?_
  exact W.iret (v := (((400 : Int32) * x0) + x1)) hx hb hr (fun t ht hW => ⟨⟨(((400 : Int32) * x0) + x1), (mf mo ad n g), rfl, ⟨h, rfl⟩, by rw [ht]; exact hF, FK.moved hW.alike hK⟩, hS.F ht⟩) hS.2.2 dX9_at_7
theorem dX9_pageOf_0 : decode cX9_pageOf 0 = .ok (.iconst 0, 1) := by decide +kernel
theorem dX9_pageOf_1 : decode cX9_pageOf 1 = .ok (.istore_n 3, 1) := by decide +kernel
theorem dX9_pageOf_2 : decode cX9_pageOf 2 = .ok (.iload_n 2, 1) := by decide +kernel
theorem dX9_pageOf_3 : decode cX9_pageOf 3 = .ok (.istore 4, 2) := by decide +kernel
theorem dX9_pageOf_5 : decode cX9_pageOf 5 = .ok (.iload 4, 2) := by decide +kernel
theorem dX9_pageOf_7 : decode cX9_pageOf 7 = .ok (.aload_n 0, 1) := by decide +kernel
theorem dX9_pageOf_8 : decode cX9_pageOf 8 = .ok (.getfield 35, 3) := by decide +kernel
theorem dX9_pageOf_11 : decode cX9_pageOf 11 = .ok (.iload_n 1, 1) := by decide +kernel
theorem dX9_pageOf_12 : decode cX9_pageOf 12 = .ok (.iload_n 3, 1) := by decide +kernel
theorem dX9_pageOf_13 : decode cX9_pageOf 13 = .ok (.invokestatic 113, 3) := by decide +kernel
theorem dX9_pageOf_16 : decode cX9_pageOf 16 = .ok (.iaload, 1) := by decide +kernel
theorem dX9_pageOf_17 : decode cX9_pageOf 17 = .ok (.if_icmp .lt 24, 3) := by decide +kernel
theorem dX9_pageOf_20 : decode cX9_pageOf 20 = .ok (.iload 4, 2) := by decide +kernel
theorem dX9_pageOf_22 : decode cX9_pageOf 22 = .ok (.aload_n 0, 1) := by decide +kernel
theorem dX9_pageOf_23 : decode cX9_pageOf 23 = .ok (.getfield 35, 3) := by decide +kernel
theorem dX9_pageOf_26 : decode cX9_pageOf 26 = .ok (.iload_n 1, 1) := by decide +kernel
theorem dX9_pageOf_27 : decode cX9_pageOf 27 = .ok (.iload_n 3, 1) := by decide +kernel
theorem dX9_pageOf_28 : decode cX9_pageOf 28 = .ok (.invokestatic 113, 3) := by decide +kernel
theorem dX9_pageOf_31 : decode cX9_pageOf 31 = .ok (.iaload, 1) := by decide +kernel
theorem dX9_pageOf_32 : decode cX9_pageOf 32 = .ok (.isub, 1) := by decide +kernel
theorem dX9_pageOf_33 : decode cX9_pageOf 33 = .ok (.istore 4, 2) := by decide +kernel
theorem dX9_pageOf_35 : decode cX9_pageOf 35 = .ok (.iinc 3 1, 3) := by decide +kernel
theorem dX9_pageOf_38 : decode cX9_pageOf 38 = .ok (.goto (-33), 3) := by decide +kernel
theorem dX9_pageOf_41 : decode cX9_pageOf 41 = .ok (.iload_n 3, 1) := by decide +kernel
theorem dX9_pageOf_42 : decode cX9_pageOf 42 = .ok (.ireturn, 1) := by decide +kernel
set_option maxRecDepth 20000 in
theorem ggX9_pageOf_X9_at : GoodIn wsX9_pageOf wsX9_at := goodIn_r _ [5] (by decide +kernel) (by decide +kernel)
def wp_X9_pageOf_5 (x1 : Int32) (n : Nat → Int32) (g : Nat → Nat → Int32) (K : Int32 → Prop)  (C5 : Int32 × Int32 → Prop) : Int32 × Int32 → Prop := fun s9 => match s9 with
  | (y3, y4) => wp_X9_at x1 y3 n g (fun r_1 => vp_in r_1 (mlen 15) ∧ ∀ v_3 : Int32, v_3 = g 15 (r_1).toNatClampNeg → ((y4 < v_3 → K y3) ∧
 (¬ (y4 < v_3) → wp_X9_at x1 y3 n g (fun r_5 => vp_in r_5 (mlen 15) ∧ ∀ v_7 : Int32, v_7 = g 15 (r_5).toNatClampNeg → ∀ v_8 : Int32, v_8 = (y4 - v_7) → ∀ v_10 : Int32, v_10 = y3 + 1 → C5 (v_10, v_8)))))
def wp_X9_pageOf (x1 : Int32) (x2 : Int32) (n : Nat → Int32) (g : Nat → Nat → Int32) (K : Int32 → Prop) : Prop :=
  ∃ n_12, loopW (wp_X9_pageOf_5 x1 n g K) n_12 ((0 : Int32), x2)
set_option maxHeartbeats 4000000 in
set_option maxRecDepth 100000 in
theorem cc_X9_pageOf (l : Launch) (G : GG) {mo : Nat} {ad : Nat → Nat} (had : MAd mo ad) {n : Nat → Int32} {g : Nat → Nat → Int32} {sz : Nat} {x1 : Int32} {x2 : Int32} {K : Int32 → Prop} (h : wp_X9_pageOf x1 x2 n g K) : Met l yX9_pageOf wsX9_pageOf ({ frames := 1, cells := 0, slots := 0, locals := 21 } : Room) (FP G [.ref mo, .int x1, .int x2] (mf mo ad n g) sz) (va_Qi (fun r f9 => K r ∧ f9 = mf mo ad n g : Int32 → FT → Prop) (FB G (fA (mf mo ad n g) sz)) (fA (mf mo ad n g) sz)) 0 0 (fA (mf mo ad n g) sz) := by
  refine Met.ofW (cc := cX9_pageOf) (maxL := 5) (ret := (some .int)) (by decide) rfl ?_
  intro p e s m args below meth c s₁ B hml hv
  obtain ⟨rfl, hsz, hF, hK, hZ⟩ := hv
  have hx := B.exec
  have hb := B.bytes
  have hr := B.returns
  have hts := atoms_spec (ws := wsX9_pageOf) B.pre
  have hown : s.vm.findClass RX9 = some m.cls := findClass_of_methodNamed B.named
  have hlocks := B.notSynchronized
  subst hsz
  have hF := hF.self (sz := s.heap.size)
  generalize hAe : fA (mf mo ad n g) s.heap.size = A at hF hZ ⊢
  have hA : ∀ q : Nat, s.heap.size ≤ q → A q := fun q h => by rw [← hAe]; exact Or.inr h
  have hS : va_S A s.heap s.heap [] := va_S.rf
  have hin_X9 : ∀ w ∈ wsX90, w ∈ wsX9_pageOf := by decide +kernel
  have L5 : ∀  (j9 : Nat) (y3 : Int32) (y4 : Int32) (H : Heap) (locs : List Loc) (ls : Array Slot), loopW (wp_X9_pageOf_5 x1 n g K ) j9 (y3, y4) → Fw G A (mf mo ad n g) H → va_S A s.heap H locs → lv_has ls 5 [(0, .ref mo), (1, .int x1), (3, .int y3), (4, .int y4)] → W p l e ({ frames := 1, cells := 0, slots := 0, locals := 21 } : Room) s m ([.ref mo, .int x1, .int x2] : List Value).toArray below meth c H locs 0 0 (MQ below (va_Qi (fun r f9 => K r ∧ f9 = mf mo ad n g : Int32 → FT → Prop) (FB G A) A) ([.ref mo, .int x1, .int x2] : List Value).toArray s 0 0 A) (F0 m 5 ls []) := by
    intro  j9
    induction j9 with
    | zero => intro y3 y4 H locs ls h; exact h.elim
    | succ j9 ih5 =>
      intro y3 y4 H locs ls h hF hS hl
      have h : wp_X9_pageOf_5 x1 n g K  (loopW (wp_X9_pageOf_5 x1 n g K ) j9) (y3, y4) := h
      generalize loopW (wp_X9_pageOf_5 x1 n g K ) j9 = C5 at ih5 h
      unfold wp_X9_pageOf_5 at h
      refine lv_iload hx hb dX9_pageOf_5 (lv_at hl 3 rfl) ?_
      refine lv_aload_n hx hb dX9_pageOf_7 rfl (lv_at hl 0 rfl) ?_
      refine fw_get (C := RX9) (T := TX9) (N := 34) hx hb hts hin_X9 hown hK hF mf_obj rfl 15 (by decide) (hts (.fieldLink RX9 35 "FrontCodedIndexModel" "parts" "[I") (by decide +kernel)) (fun _ h9 => h9) rfl dX9_pageOf_8 ?_
      refine lv_iload_n hx hb dX9_pageOf_11 rfl (lv_at hl 1 rfl) ?_
      refine lv_iload_n hx hb dX9_pageOf_12 rfl (lv_at hl 2 rfl) ?_
      refine fw_cS_i_p (As := [.int x1, .int y3]) (rest := [.ref (ad 15), .int y4]) ⟨hx, hb, hml, hown, hts⟩ (cc_X9_at l G had h) (⟨callB_of 2 hts ggX9_pageOf_X9_at rfl rfl rfl (hts (.initialized RX9) (by decide +kernel)) (hts (.methodLink RX9 113 yX9_at) (by decide +kernel)) (by decide +kernel) ⟨Nat.le_of_ble_eq_true rfl, Nat.le_of_ble_eq_true rfl⟩, hts (.static yX9_at) (by decide +kernel)⟩) hK hZ hF hS hA rfl hl.1 rfl (Nat.le_of_ble_eq_true rfl) dX9_pageOf_13 ⟨Nat.zero_le _, Nat.zero_le _⟩ (fun r_1 H locs h hF hS => ?_)
      obtain ⟨hi_i_2, h⟩ := h
      refine fw_iald hx hb hK hF (mf_arr had 15 (by decide)) hi_i_2 dX9_pageOf_16 ?_
      refine lv_topi (fun v_3 e_v_3 => ?_)
      have h := h v_3 e_v_3
      obtain ⟨h1, h2⟩ := h
      refine lv_icmp_lt (tgt := 41) hx hb dX9_pageOf_17 (by decide) (fun c_4 => ?_) (fun c_4 => ?_)
      · have h := h1 c_4
        refine lv_iload_n hx hb dX9_pageOf_41 rfl (lv_at hl 2 rfl) ?_
        exact W.iret (v := y3) hx hb hr (fun t ht hW => ⟨⟨y3, (mf mo ad n g), rfl, ⟨h, rfl⟩, by rw [ht]; exact hF, FK.moved hW.alike hK⟩, hS.F ht⟩) hS.2.2 dX9_pageOf_42
      · have h := h2 c_4
        refine lv_iload hx hb dX9_pageOf_20 (lv_at hl 3 rfl) ?_
        refine lv_aload_n hx hb dX9_pageOf_22 rfl (lv_at hl 0 rfl) ?_
        refine fw_get (C := RX9) (T := TX9) (N := 34) hx hb hts hin_X9 hown hK hF mf_obj rfl 15 (by decide) (hts (.fieldLink RX9 35 "FrontCodedIndexModel" "parts" "[I") (by decide +kernel)) (fun _ h9 => h9) rfl dX9_pageOf_23 ?_
        refine lv_iload_n hx hb dX9_pageOf_26 rfl (lv_at hl 1 rfl) ?_
        refine lv_iload_n hx hb dX9_pageOf_27 rfl (lv_at hl 2 rfl) ?_
        refine fw_cS_i_p (As := [.int x1, .int y3]) (rest := [.ref (ad 15), .int y4]) ⟨hx, hb, hml, hown, hts⟩ (cc_X9_at l G had h) (⟨callB_of 2 hts ggX9_pageOf_X9_at rfl rfl rfl (hts (.initialized RX9) (by decide +kernel)) (hts (.methodLink RX9 113 yX9_at) (by decide +kernel)) (by decide +kernel) ⟨Nat.le_of_ble_eq_true rfl, Nat.le_of_ble_eq_true rfl⟩, hts (.static yX9_at) (by decide +kernel)⟩) hK hZ hF hS hA rfl hl.1 rfl (Nat.le_of_ble_eq_true rfl) dX9_pageOf_28 ⟨Nat.zero_le _, Nat.zero_le _⟩ (fun r_5 H locs h hF hS => ?_)
        obtain ⟨hi_i_6, h⟩ := h
        refine fw_iald hx hb hK hF (mf_arr had 15 (by decide)) hi_i_6 dX9_pageOf_31 ?_
        refine lv_topi (fun v_7 e_v_7 => ?_)
        have h := h v_7 e_v_7
        refine lv_isub hx hb dX9_pageOf_32 ?_
        refine lv_topi (fun v_8 e_9 => ?_)
        have h := h v_8 e_9
        refine lv_istore (lv' := [(4, .int v_8), (0, .ref mo), (1, .int x1), (3, .int y3)]) hx hb dX9_pageOf_33 hl (by decide) rfl (fun ls hl => ?_)
        obtain ⟨v_10, e_11⟩ : ∃ y : Int32, y = y3 + 1 := ⟨_, rfl⟩
        have h := h v_10 e_11
        refine lv_iinc (v := v_10) (lv' := [(3, .int v_10), (4, .int v_8), (0, .ref mo), (1, .int x1)]) hx hb dX9_pageOf_35 hl (k := 3) rfl (by rw [e_11]; rfl) (by decide) rfl (fun ls hl => ?_)
        refine lv_goto (tgt := 5) hx hb dX9_pageOf_38 (by decide) ?_
        exact ih5 v_10 v_8 _ _ _ h hF hS (lv_sub hl [2, 3, 0, 1] rfl)
  have hl := lv_entry ([.ref mo, .int x1, .int x2]) (n := 5) (Nat.le_of_ble_eq_true rfl)
  rw [lg_entry_eq]
  generalize (lg_sl ([.ref mo, .int x1, .int x2]) ++ List.replicate (5 - (lg_sl ([.ref mo, .int x1, .int x2])).length) Slot.unset).toArray = ls at hl ⊢
  have hl : lv_has ls 5 [(0, .ref mo), (1, .int x1), (2, .int x2)] := hl
  unfold wp_X9_pageOf at h
  refine lv_iconst (v := (0 : Int32)) hx hb dX9_pageOf_0 (by decide) ?_
  refine lv_istore_n (lv' := [(3, .int (0 : Int32)), (0, .ref mo), (1, .int x1), (2, .int x2)]) hx hb dX9_pageOf_1 rfl hl (by decide) rfl (fun ls hl => ?_)
  refine lv_iload_n hx hb dX9_pageOf_2 rfl (lv_at hl 3 rfl) ?_
  refine lv_istore (lv' := [(4, .int x2), (3, .int (0 : Int32)), (0, .ref mo), (1, .int x1), (2, .int x2)]) hx hb dX9_pageOf_3 hl (by decide) rfl (fun ls hl => ?_)
  obtain ⟨n_12, h⟩ := h
  exact L5 n_12 (0 : Int32) x2 _ _ _ h hF hS (lv_sub hl [2, 3, 1, 0] rfl)
theorem dX9_areSiblings_0 : decode cX9_areSiblings 0 = .ok (.iload_n 2, 1) := by decide +kernel
theorem dX9_areSiblings_1 : decode cX9_areSiblings 1 = .ok (.ifCond .lt 50, 3) := by decide +kernel
theorem dX9_areSiblings_4 : decode cX9_areSiblings 4 = .ok (.iload_n 2, 1) := by decide +kernel
theorem dX9_areSiblings_5 : decode cX9_areSiblings 5 = .ok (.iconst 1, 1) := by decide +kernel
theorem dX9_areSiblings_6 : decode cX9_areSiblings 6 = .ok (.iadd, 1) := by decide +kernel
theorem dX9_areSiblings_7 : decode cX9_areSiblings 7 = .ok (.aload_n 0, 1) := by decide +kernel
theorem dX9_areSiblings_8 : decode cX9_areSiblings 8 = .ok (.getfield 32, 3) := by decide +kernel
theorem dX9_areSiblings_11 : decode cX9_areSiblings 11 = .ok (.iload_n 1, 1) := by decide +kernel
theorem dX9_areSiblings_12 : decode cX9_areSiblings 12 = .ok (.iaload, 1) := by decide +kernel
theorem dX9_areSiblings_13 : decode cX9_areSiblings 13 = .ok (.if_icmp .ge 38, 3) := by decide +kernel
theorem dX9_areSiblings_16 : decode cX9_areSiblings 16 = .ok (.iload_n 1, 1) := by decide +kernel
theorem dX9_areSiblings_17 : decode cX9_areSiblings 17 = .ok (.aload_n 0, 1) := by decide +kernel
theorem dX9_areSiblings_18 : decode cX9_areSiblings 18 = .ok (.getfield 29, 3) := by decide +kernel
theorem dX9_areSiblings_21 : decode cX9_areSiblings 21 = .ok (.iconst 1, 1) := by decide +kernel
theorem dX9_areSiblings_22 : decode cX9_areSiblings 22 = .ok (.isub, 1) := by decide +kernel
theorem dX9_areSiblings_23 : decode cX9_areSiblings 23 = .ok (.if_icmp .ge 28, 3) := by decide +kernel
theorem dX9_areSiblings_26 : decode cX9_areSiblings 26 = .ok (.aload_n 0, 1) := by decide +kernel
theorem dX9_areSiblings_27 : decode cX9_areSiblings 27 = .ok (.iload_n 1, 1) := by decide +kernel
theorem dX9_areSiblings_28 : decode cX9_areSiblings 28 = .ok (.iconst 1, 1) := by decide +kernel
theorem dX9_areSiblings_29 : decode cX9_areSiblings 29 = .ok (.iadd, 1) := by decide +kernel
theorem dX9_areSiblings_30 : decode cX9_areSiblings 30 = .ok (.iload_n 2, 1) := by decide +kernel
theorem dX9_areSiblings_31 : decode cX9_areSiblings 31 = .ok (.invokevirtual 137, 3) := by decide +kernel
theorem dX9_areSiblings_34 : decode cX9_areSiblings 34 = .ok (.aload_n 0, 1) := by decide +kernel
theorem dX9_areSiblings_35 : decode cX9_areSiblings 35 = .ok (.iload_n 1, 1) := by decide +kernel
theorem dX9_areSiblings_36 : decode cX9_areSiblings 36 = .ok (.iconst 1, 1) := by decide +kernel
theorem dX9_areSiblings_37 : decode cX9_areSiblings 37 = .ok (.iadd, 1) := by decide +kernel
theorem dX9_areSiblings_38 : decode cX9_areSiblings 38 = .ok (.iload_n 2, 1) := by decide +kernel
theorem dX9_areSiblings_39 : decode cX9_areSiblings 39 = .ok (.iconst 1, 1) := by decide +kernel
theorem dX9_areSiblings_40 : decode cX9_areSiblings 40 = .ok (.iadd, 1) := by decide +kernel
theorem dX9_areSiblings_41 : decode cX9_areSiblings 41 = .ok (.invokevirtual 137, 3) := by decide +kernel
theorem dX9_areSiblings_44 : decode cX9_areSiblings 44 = .ok (.if_icmp .ne 7, 3) := by decide +kernel
theorem dX9_areSiblings_47 : decode cX9_areSiblings 47 = .ok (.iconst 1, 1) := by decide +kernel
theorem dX9_areSiblings_48 : decode cX9_areSiblings 48 = .ok (.goto 4, 3) := by decide +kernel
theorem dX9_areSiblings_51 : decode cX9_areSiblings 51 = .ok (.iconst 0, 1) := by decide +kernel
theorem dX9_areSiblings_52 : decode cX9_areSiblings 52 = .ok (.ireturn, 1) := by decide +kernel
set_option maxRecDepth 20000 in
theorem ggX9_areSiblings_X9_pageOf : GoodIn wsX9_areSiblings wsX9_pageOf := goodIn_r _ [7, 8, 9, 10, 6, 11, 12, 13, 14, 15, 16, 17, 18, 19, 20, 21, 22, 23, 24, 25, 26, 27, 28, 29, 30, 31, 32, 33, 34, 35, 36, 37, 38, 39, 40, 41, 42, 43, 44, 45] (by decide +kernel) (by decide +kernel)
def wp_X9_areSiblings (x1 : Int32) (x2 : Int32) (n : Nat → Int32) (g : Nat → Nat → Int32) (K : Int32 → Prop) : Prop :=
  ((x2 < (0 : Int32) → K (0 : Int32)) ∧
 (¬ (x2 < (0 : Int32)) → vp_in x1 (mlen 14) ∧ ∀ v_3 : Int32, v_3 = g 14 (x1).toNatClampNeg → ((v_3 ≤ (x2 + (1 : Int32)) → K (0 : Int32)) ∧
 (¬ (v_3 ≤ (x2 + (1 : Int32))) → ((((n 13) - (1 : Int32)) ≤ x1 → K (0 : Int32)) ∧
 (¬ (((n 13) - (1 : Int32)) ≤ x1) → wp_X9_pageOf (x1 + (1 : Int32)) x2 n g (fun r_6 => wp_X9_pageOf (x1 + (1 : Int32)) (x2 + (1 : Int32)) n g (fun r_7 => ((¬ r_6 = r_7 → K (0 : Int32)) ∧
 (r_6 = r_7 → K (1 : Int32)))))))))))
set_option maxHeartbeats 4000000 in
set_option maxRecDepth 100000 in
theorem cc_X9_areSiblings (l : Launch) (G : GG) {mo : Nat} {ad : Nat → Nat} (had : MAd mo ad) {n : Nat → Int32} {g : Nat → Nat → Int32} {sz : Nat} {x1 : Int32} {x2 : Int32} {K : Int32 → Prop} (h : wp_X9_areSiblings x1 x2 n g K) : Met l yX9_areSiblings wsX9_areSiblings ({ frames := 2, cells := 0, slots := 0, locals := 45 } : Room) (FP G [.ref mo, .int x1, .int x2] (mf mo ad n g) sz) (va_Qi (fun r f9 => K r ∧ f9 = mf mo ad n g : Int32 → FT → Prop) (FB G (fA (mf mo ad n g) sz)) (fA (mf mo ad n g) sz)) 0 0 (fA (mf mo ad n g) sz) := by
  refine Met.ofW (cc := cX9_areSiblings) (maxL := 3) (ret := (some .boolean)) (by decide) rfl ?_
  intro p e s m args below meth c s₁ B hml hv
  obtain ⟨rfl, hsz, hF, hK, hZ⟩ := hv
  have hx := B.exec
  have hb := B.bytes
  have hr := B.returns
  have hts := atoms_spec (ws := wsX9_areSiblings) B.pre
  have hown : s.vm.findClass RX9 = some m.cls := findClass_of_methodNamed B.named
  have hlocks := B.notSynchronized
  subst hsz
  have hF := hF.self (sz := s.heap.size)
  generalize hAe : fA (mf mo ad n g) s.heap.size = A at hF hZ ⊢
  have hA : ∀ q : Nat, s.heap.size ≤ q → A q := fun q h => by rw [← hAe]; exact Or.inr h
  have hS : va_S A s.heap s.heap [] := va_S.rf
  have hin_X9 : ∀ w ∈ wsX90, w ∈ wsX9_areSiblings := by decide +kernel
  have hl := lv_entry ([.ref mo, .int x1, .int x2]) (n := 3) (Nat.le_of_ble_eq_true rfl)
  rw [lg_entry_eq]
  generalize (lg_sl ([.ref mo, .int x1, .int x2]) ++ List.replicate (3 - (lg_sl ([.ref mo, .int x1, .int x2])).length) Slot.unset).toArray = ls at hl ⊢
  have hl : lv_has ls 3 [(0, .ref mo), (1, .int x1), (2, .int x2)] := hl
  unfold wp_X9_areSiblings at h
  refine lv_iload_n hx hb dX9_areSiblings_0 rfl (lv_at hl 2 rfl) ?_
  obtain ⟨h1, h2⟩ := h
  refine lv_if_lt (tgt := 51) hx hb dX9_areSiblings_1 (by decide) (fun c_1 => ?_) (fun c_1 => ?_)
  · have h := h1 c_1
    refine lv_iconst (v := (0 : Int32)) hx hb dX9_areSiblings_51 (by decide) ?_
    exact W.zret (v := (0 : Int32)) hx hb hr (by decide) (fun t ht hW => ⟨⟨(0 : Int32), (mf mo ad n g), rfl, ⟨h, rfl⟩, by rw [ht]; exact hF, FK.moved hW.alike hK⟩, hS.F ht⟩) hS.2.2 dX9_areSiblings_52
  · have h := h2 c_1
    refine lv_iload_n hx hb dX9_areSiblings_4 rfl (lv_at hl 2 rfl) ?_
    refine lv_iconst (v := (1 : Int32)) hx hb dX9_areSiblings_5 (by decide) ?_
    refine lv_iadd hx hb dX9_areSiblings_6 ?_
    refine lv_aload_n hx hb dX9_areSiblings_7 rfl (lv_at hl 0 rfl) ?_
    refine fw_get (C := RX9) (T := TX9) (N := 34) hx hb hts hin_X9 hown hK hF mf_obj rfl 14 (by decide) (hts (.fieldLink RX9 32 "FrontCodedIndexModel" "many" "[I") (by decide +kernel)) (fun _ h9 => h9) rfl dX9_areSiblings_8 ?_
    refine lv_iload_n hx hb dX9_areSiblings_11 rfl (lv_at hl 1 rfl) ?_
    obtain ⟨hi_i_2, h⟩ := h
    refine fw_iald hx hb hK hF (mf_arr had 14 (by decide)) hi_i_2 dX9_areSiblings_12 ?_
    refine lv_topi (fun v_3 e_v_3 => ?_)
    have h := h v_3 e_v_3
    obtain ⟨h1, h2⟩ := h
    refine lv_icmp_ge (tgt := 51) hx hb dX9_areSiblings_13 (by decide) (fun c_4 => ?_) (fun c_4 => ?_)
    · have h := h1 c_4
      refine lv_iconst (v := (0 : Int32)) hx hb dX9_areSiblings_51 (by decide) ?_
      exact W.zret (v := (0 : Int32)) hx hb hr (by decide) (fun t ht hW => ⟨⟨(0 : Int32), (mf mo ad n g), rfl, ⟨h, rfl⟩, by rw [ht]; exact hF, FK.moved hW.alike hK⟩, hS.F ht⟩) hS.2.2 dX9_areSiblings_52
    · have h := h2 c_4
      refine lv_iload_n hx hb dX9_areSiblings_16 rfl (lv_at hl 1 rfl) ?_
      refine lv_aload_n hx hb dX9_areSiblings_17 rfl (lv_at hl 0 rfl) ?_
      refine fw_get (C := RX9) (T := TX9) (N := 34) hx hb hts hin_X9 hown hK hF mf_obj rfl 13 (by decide) (hts (.fieldLink RX9 29 "FrontCodedIndexModel" "levels" "I") (by decide +kernel)) (fun _ h9 => h9) rfl dX9_areSiblings_18 ?_
      refine lv_iconst (v := (1 : Int32)) hx hb dX9_areSiblings_21 (by decide) ?_
      refine lv_isub hx hb dX9_areSiblings_22 ?_
      obtain ⟨h1, h2⟩ := h
      refine lv_icmp_ge (tgt := 51) hx hb dX9_areSiblings_23 (by decide) (fun c_5 => ?_) (fun c_5 => ?_)
      · have h := h1 c_5
        refine lv_iconst (v := (0 : Int32)) hx hb dX9_areSiblings_51 (by decide) ?_
        exact W.zret (v := (0 : Int32)) hx hb hr (by decide) (fun t ht hW => ⟨⟨(0 : Int32), (mf mo ad n g), rfl, ⟨h, rfl⟩, by rw [ht]; exact hF, FK.moved hW.alike hK⟩, hS.F ht⟩) hS.2.2 dX9_areSiblings_52
      · have h := h2 c_5
        refine lv_aload_n hx hb dX9_areSiblings_26 rfl (lv_at hl 0 rfl) ?_
        refine lv_iload_n hx hb dX9_areSiblings_27 rfl (lv_at hl 1 rfl) ?_
        refine lv_iconst (v := (1 : Int32)) hx hb dX9_areSiblings_28 (by decide) ?_
        refine lv_iadd hx hb dX9_areSiblings_29 ?_
        refine lv_iload_n hx hb dX9_areSiblings_30 rfl (lv_at hl 2 rfl) ?_
        refine fw_cV_i_p (As := [.int (x1 + (1 : Int32)), .int x2]) (rest := []) ⟨hx, hb, hml, hown, hts⟩ (cc_X9_pageOf l G had h) (⟨callB_of 2 hts ggX9_areSiblings_X9_pageOf rfl rfl rfl (hts (.initialized RX9) (by decide +kernel)) (hts (.methodLink RX9 137 yX9_pageOf) (by decide +kernel)) (by decide +kernel) ⟨Nat.le_of_ble_eq_true rfl, Nat.le_of_ble_eq_true rfl⟩, hts (.instanceMethod yX9_pageOf) (by decide +kernel), hts (.selects RX9 yX9_pageOf yX9_pageOf) (by decide +kernel)⟩) rfl mf_obj hK hZ hF hS hA rfl hl.1 rfl (Nat.le_of_ble_eq_true rfl) dX9_areSiblings_31 ⟨Nat.zero_le _, Nat.zero_le _⟩ (fun r_6 H locs h hF hS => ?_)
        refine lv_aload_n hx hb dX9_areSiblings_34 rfl (lv_at hl 0 rfl) ?_
        refine lv_iload_n hx hb dX9_areSiblings_35 rfl (lv_at hl 1 rfl) ?_
        refine lv_iconst (v := (1 : Int32)) hx hb dX9_areSiblings_36 (by decide) ?_
        refine lv_iadd hx hb dX9_areSiblings_37 ?_
        refine lv_iload_n hx hb dX9_areSiblings_38 rfl (lv_at hl 2 rfl) ?_
        refine lv_iconst (v := (1 : Int32)) hx hb dX9_areSiblings_39 (by decide) ?_
        refine lv_iadd hx hb dX9_areSiblings_40 ?_
        refine fw_cV_i_p (As := [.int (x1 + (1 : Int32)), .int (x2 + (1 : Int32))]) (rest := [.int r_6]) ⟨hx, hb, hml, hown, hts⟩ (cc_X9_pageOf l G had h) (⟨callB_of 2 hts ggX9_areSiblings_X9_pageOf rfl rfl rfl (hts (.initialized RX9) (by decide +kernel)) (hts (.methodLink RX9 137 yX9_pageOf) (by decide +kernel)) (by decide +kernel) ⟨Nat.le_of_ble_eq_true rfl, Nat.le_of_ble_eq_true rfl⟩, hts (.instanceMethod yX9_pageOf) (by decide +kernel), hts (.selects RX9 yX9_pageOf yX9_pageOf) (by decide +kernel)⟩) rfl mf_obj hK hZ hF hS hA rfl hl.1 rfl (Nat.le_of_ble_eq_true rfl) dX9_areSiblings_41 ⟨Nat.zero_le _, Nat.zero_le _⟩ (fun r_7 H locs h hF hS => ?_)
        obtain ⟨h1, h2⟩ := h
        refine lv_icmp_ne (tgt := 51) hx hb dX9_areSiblings_44 (by decide) (fun c_8 => ?_) (fun c_8 => ?_)
        · have h := h1 c_8
          refine lv_iconst (v := (0 : Int32)) hx hb dX9_areSiblings_51 (by decide) ?_
          exact W.zret (v := (0 : Int32)) hx hb hr (by decide) (fun t ht hW => ⟨⟨(0 : Int32), (mf mo ad n g), rfl, ⟨h, rfl⟩, by rw [ht]; exact hF, FK.moved hW.alike hK⟩, hS.F ht⟩) hS.2.2 dX9_areSiblings_52
        · have h := h2 c_8
          refine lv_iconst (v := (1 : Int32)) hx hb dX9_areSiblings_47 (by decide) ?_
          refine lv_goto (tgt := 52) hx hb dX9_areSiblings_48 (by decide) ?_
          exact W.zret (v := (1 : Int32)) hx hb hr (by decide) (fun t ht hW => ⟨⟨(1 : Int32), (mf mo ad n g), rfl, ⟨h, rfl⟩, by rw [ht]; exact hF, FK.moved hW.alike hK⟩, hS.F ht⟩) hS.2.2 dX9_areSiblings_52
theorem dX9_close_0 : decode cX9_close 0 = .ok (.iload_n 1, 1) := by decide +kernel
theorem dX9_close_1 : decode cX9_close 1 = .ok (.invokestatic 228, 3) := by decide +kernel
theorem dX9_close_4 : decode cX9_close 4 = .ok (.ifCond .ne 9, 3) := by decide +kernel
theorem dX9_close_7 : decode cX9_close 7 = .ok (.aload_n 0, 1) := by decide +kernel
theorem dX9_close_8 : decode cX9_close 8 = .ok (.iconst 1, 1) := by decide +kernel
theorem dX9_close_9 : decode cX9_close 9 = .ok (.invokevirtual 183, 3) := by decide +kernel
theorem dX9_close_12 : decode cX9_close 12 = .ok (.ireturn, 1) := by decide +kernel
theorem dX9_close_13 : decode cX9_close 13 = .ok (.aload_n 0, 1) := by decide +kernel
theorem dX9_close_14 : decode cX9_close 14 = .ok (.getfield 44, 3) := by decide +kernel
theorem dX9_close_17 : decode cX9_close 17 = .ok (.iload_n 1, 1) := by decide +kernel
theorem dX9_close_18 : decode cX9_close 18 = .ok (.iaload, 1) := by decide +kernel
theorem dX9_close_19 : decode cX9_close 19 = .ok (.bipush (-2), 2) := by decide +kernel
theorem dX9_close_21 : decode cX9_close 21 = .ok (.if_icmp .eq 7, 3) := by decide +kernel
theorem dX9_close_24 : decode cX9_close 24 = .ok (.iconst 1, 1) := by decide +kernel
theorem dX9_close_25 : decode cX9_close 25 = .ok (.goto 4, 3) := by decide +kernel
theorem dX9_close_28 : decode cX9_close 28 = .ok (.iconst 0, 1) := by decide +kernel
theorem dX9_close_29 : decode cX9_close 29 = .ok (.istore_n 2, 1) := by decide +kernel
theorem dX9_close_30 : decode cX9_close 30 = .ok (.aload_n 0, 1) := by decide +kernel
theorem dX9_close_31 : decode cX9_close 31 = .ok (.getfield 44, 3) := by decide +kernel
theorem dX9_close_34 : decode cX9_close 34 = .ok (.iload_n 1, 1) := by decide +kernel
theorem dX9_close_35 : decode cX9_close 35 = .ok (.bipush (-2), 2) := by decide +kernel
theorem dX9_close_37 : decode cX9_close 37 = .ok (.iastore, 1) := by decide +kernel
theorem dX9_close_38 : decode cX9_close 38 = .ok (.aload_n 0, 1) := by decide +kernel
theorem dX9_close_39 : decode cX9_close 39 = .ok (.iload_n 2, 1) := by decide +kernel
theorem dX9_close_40 : decode cX9_close 40 = .ok (.invokevirtual 179, 3) := by decide +kernel
theorem dX9_close_43 : decode cX9_close 43 = .ok (.ireturn, 1) := by decide +kernel
set_option maxRecDepth 20000 in
theorem ggX9_close_X9_isCursor : GoodIn wsX9_close wsX9_isCursor := goodIn_r _ [5, 6, 7, 4, 8] (by decide +kernel) (by decide +kernel)
set_option maxRecDepth 20000 in
theorem ggX9_close_X9_not : GoodIn wsX9_close wsX9_not := goodIn_r _ [12, 13, 18, 19, 20, 21, 22, 23, 24, 25, 26, 27, 28, 29, 30, 31, 32, 33, 34, 35, 36, 37, 38, 39, 40, 41, 42, 43, 44, 45, 46, 47, 48, 49, 50, 51] (by decide +kernel) (by decide +kernel)
set_option maxRecDepth 20000 in
theorem ggX9_close_X9_so : GoodIn wsX9_close wsX9_so := goodIn_r _ [17, 13, 18, 19, 20, 21, 22, 23, 24, 25, 26, 27, 28, 29, 30, 31, 32, 33, 34, 35, 36, 37, 38, 39, 40, 41, 42, 43, 44, 45, 46, 47, 48, 49, 50, 51] (by decide +kernel) (by decide +kernel)
def wp_X9_close_29 (x1 : Int32) (z0 : Int32) (n : Nat → Int32) (g : Nat → Nat → Int32) (K : Int32 → (Nat → Int32) → (Nat → Nat → Int32) → Prop)  : Prop :=
  vp_in x1 (mlen 18) ∧ ∀ g_2 : Nat → Nat → Int32, g_2 = mup g 18 (x1).toNatClampNeg (-2 : Int32) → wp_X9_so z0 n g_2 (fun r_3 n_5 g_6 => isB r_3 ∧ K r_3 n_5 g_6)
def wp_X9_close (x1 : Int32) (n : Nat → Int32) (g : Nat → Nat → Int32) (K : Int32 → (Nat → Int32) → (Nat → Nat → Int32) → Prop) : Prop :=
  wp_X9_isCursor x1 n g (fun r_7 => ((¬ r_7 = (0 : Int32) → vp_in x1 (mlen 18) ∧ ∀ v_10 : Int32, v_10 = g 18 (x1).toNatClampNeg → ((v_10 = (-2 : Int32) → wp_X9_close_29 x1 (0 : Int32) n g K) ∧
 (¬ (v_10 = (-2 : Int32)) → wp_X9_close_29 x1 (1 : Int32) n g K))) ∧
 (r_7 = (0 : Int32) → wp_X9_not (1 : Int32) n g (fun r_12 n_14 g_15 => isB r_12 ∧ K r_12 n_14 g_15))))
set_option maxHeartbeats 4000000 in
set_option maxRecDepth 100000 in
theorem cc_X9_close (l : Launch) (G : GG) {mo : Nat} {ad : Nat → Nat} (had : MAd mo ad) {n : Nat → Int32} {g : Nat → Nat → Int32} {sz : Nat} {x1 : Int32} {K : Int32 → (Nat → Int32) → (Nat → Nat → Int32) → Prop} (h : wp_X9_close x1 n g K) : Met l yX9_close wsX9_close ({ frames := 2, cells := 0, slots := 0, locals := 42 } : Room) (FP G [.ref mo, .int x1] (mf mo ad n g) sz) (va_Qi (fun r f9 => ∃ n9 g9, f9 = mf mo ad n9 g9 ∧ K r n9 g9 : Int32 → FT → Prop) (FB G (fA (mf mo ad n g) sz)) (fA (mf mo ad n g) sz)) 0 0 (fA (mf mo ad n g) sz) := by
  refine Met.ofW (cc := cX9_close) (maxL := 3) (ret := (some .boolean)) (by decide) rfl ?_
  intro p e s m args below meth c s₁ B hml hv
  obtain ⟨rfl, hsz, hF, hK, hZ⟩ := hv
  have hx := B.exec
  have hb := B.bytes
  have hr := B.returns
  have hts := atoms_spec (ws := wsX9_close) B.pre
  have hown : s.vm.findClass RX9 = some m.cls := findClass_of_methodNamed B.named
  have hlocks := B.notSynchronized
  subst hsz
  have hF := hF.self (sz := s.heap.size)
  generalize hAe : fA (mf mo ad n g) s.heap.size = A at hF hZ ⊢
  have hA : ∀ q : Nat, s.heap.size ≤ q → A q := fun q h => by rw [← hAe]; exact Or.inr h
  have hS : va_S A s.heap s.heap [] := va_S.rf
  have hin_X9 : ∀ w ∈ wsX90, w ∈ wsX9_close := by decide +kernel
  have J29 : ∀ (z0 : Int32) (n : Nat → Int32) (g : Nat → Nat → Int32) (H : Heap) (locs : List Loc) (ls : Array Slot), wp_X9_close_29 x1 z0 n g K  → Fw G A (mf mo ad n g) H → va_S A s.heap H locs → lv_has ls 3 [(0, .ref mo), (1, .int x1)] → W p l e ({ frames := 2, cells := 0, slots := 0, locals := 42 } : Room) s m ([.ref mo, .int x1] : List Value).toArray below meth c H locs 0 0 (MQ below (va_Qi (fun r f9 => ∃ n9 g9, f9 = mf mo ad n9 g9 ∧ K r n9 g9 : Int32 → FT → Prop) (FB G A) A) ([.ref mo, .int x1] : List Value).toArray s 0 0 A) (F0 m 29 ls [.int z0]) := by
    intro z0 n g H locs ls h hF hS hl
    unfold wp_X9_close_29 at h
    refine lv_istore_n (lv' := [(2, .int z0), (0, .ref mo), (1, .int x1)]) hx hb dX9_close_29 rfl hl (by decide) rfl (fun ls hl => ?_)
    refine lv_aload_n hx hb dX9_close_30 rfl (lv_at hl 1 rfl) ?_
    refine fw_get (C := RX9) (T := TX9) (N := 34) hx hb hts hin_X9 hown hK hF mf_obj rfl 18 (by decide) (hts (.fieldLink RX9 44 "FrontCodedIndexModel" "cursors" "[I") (by decide +kernel)) (fun _ h9 => h9) rfl dX9_close_31 ?_
    refine lv_iload_n hx hb dX9_close_34 rfl (lv_at hl 2 rfl) ?_
    refine lv_bipush (v := (-2 : Int32)) hx hb dX9_close_35 (by decide) ?_
    obtain ⟨hi_i_1, h⟩ := h
    refine fw_iast hx hb hK hF hS (mf_arr had 18 (by decide)) hi_i_1 dX9_close_37 (fun H locs hF hS => ?_)
    rw [mf_st had 18 (by decide)] at hF
    obtain ⟨g_2, hg_g_2⟩ : ∃ z, z = mup g 18 (x1).toNatClampNeg (-2 : Int32) := ⟨_, rfl⟩
    rw [← hg_g_2] at hF; have h := h g_2 hg_g_2
    refine lv_aload_n hx hb dX9_close_38 rfl (lv_at hl 1 rfl) ?_
    refine lv_iload_n hx hb dX9_close_39 rfl (lv_at hl 0 rfl) ?_
    refine fw_cV_i (As := [.int z0]) (rest := []) ⟨hx, hb, hml, hown, hts⟩ (cc_X9_so l G had h) (⟨callB_of 1 hts ggX9_close_X9_so rfl rfl rfl (hts (.initialized RX9) (by decide +kernel)) (hts (.methodLink RX9 179 yX9_so) (by decide +kernel)) (by decide +kernel) ⟨Nat.le_of_ble_eq_true rfl, Nat.le_of_ble_eq_true rfl⟩, hts (.instanceMethod yX9_so) (by decide +kernel), hts (.selects RX9 yX9_so yX9_so) (by decide +kernel)⟩) rfl mf_obj hK hZ hF hS hA rfl hl.1 rfl (Nat.le_of_ble_eq_true rfl) dX9_close_40 ⟨Nat.zero_le _, Nat.zero_le _⟩ (fun r_3 f9 H locs h hF hS => ?_)
    obtain ⟨n_5, g_6, rfl, h⟩ := h
    obtain ⟨hz, h⟩ := h
    exact W.zret (v := r_3) hx hb hr (isB_nar hz) (fun t ht hW => ⟨⟨r_3, (mf mo ad n_5 g_6), rfl, ⟨_, _, rfl, h⟩, by rw [ht]; exact hF, FK.moved hW.alike hK⟩, hS.F ht⟩) hS.2.2 dX9_close_43
  have hl := lv_entry ([.ref mo, .int x1]) (n := 3) (Nat.le_of_ble_eq_true rfl)
  rw [lg_entry_eq]
  generalize (lg_sl ([.ref mo, .int x1]) ++ List.replicate (3 - (lg_sl ([.ref mo, .int x1])).length) Slot.unset).toArray = ls at hl ⊢
  have hl : lv_has ls 3 [(0, .ref mo), (1, .int x1)] := hl
  unfold wp_X9_close at h
  refine lv_iload_n hx hb dX9_close_0 rfl (lv_at hl 1 rfl) ?_
  refine fw_cS_i_p (As := [.int x1]) (rest := []) ⟨hx, hb, hml, hown, hts⟩ (cc_X9_isCursor l G had h) (⟨callB_of 1 hts ggX9_close_X9_isCursor rfl rfl rfl (hts (.initialized RX9) (by decide +kernel)) (hts (.methodLink RX9 228 yX9_isCursor) (by decide +kernel)) (by decide +kernel) ⟨Nat.le_of_ble_eq_true rfl, Nat.le_of_ble_eq_true rfl⟩, hts (.static yX9_isCursor) (by decide +kernel)⟩) hK hZ hF hS hA rfl hl.1 rfl (Nat.le_of_ble_eq_true rfl) dX9_close_1 ⟨Nat.zero_le _, Nat.zero_le _⟩ (fun r_7 H locs h hF hS => ?_)
  obtain ⟨h1, h2⟩ := h
  refine lv_if_ne (tgt := 13) hx hb dX9_close_4 (by decide) (fun c_8 => ?_) (fun c_8 => ?_)
  · have h := h1 c_8
    refine lv_aload_n hx hb dX9_close_13 rfl (lv_at hl 0 rfl) ?_
    refine fw_get (C := RX9) (T := TX9) (N := 34) hx hb hts hin_X9 hown hK hF mf_obj rfl 18 (by decide) (hts (.fieldLink RX9 44 "FrontCodedIndexModel" "cursors" "[I") (by decide +kernel)) (fun _ h9 => h9) rfl dX9_close_14 ?_
    refine lv_iload_n hx hb dX9_close_17 rfl (lv_at hl 1 rfl) ?_
    obtain ⟨hi_i_9, h⟩ := h
    refine fw_iald hx hb hK hF (mf_arr had 18 (by decide)) hi_i_9 dX9_close_18 ?_
    refine lv_topi (fun v_10 e_v_10 => ?_)
    have h := h v_10 e_v_10
    refine lv_bipush (v := (-2 : Int32)) hx hb dX9_close_19 (by decide) ?_
    obtain ⟨h1, h2⟩ := h
    refine lv_icmp_eq (tgt := 28) hx hb dX9_close_21 (by decide) (fun c_11 => ?_) (fun c_11 => ?_)
    · have h := h1 c_11
      refine lv_iconst (v := (0 : Int32)) hx hb dX9_close_28 (by decide) ?_
      exact J29 (0 : Int32) n g _ _ _ h hF hS (lv_sub hl [0, 1] rfl)
    · have h := h2 c_11
      refine lv_iconst (v := (1 : Int32)) hx hb dX9_close_24 (by decide) ?_
      refine lv_goto (tgt := 29) hx hb dX9_close_25 (by decide) ?_
      exact J29 (1 : Int32) n g _ _ _ h hF hS (lv_sub hl [0, 1] rfl)
  · have h := h2 c_8
    refine lv_aload_n hx hb dX9_close_7 rfl (lv_at hl 0 rfl) ?_
    refine lv_iconst (v := (1 : Int32)) hx hb dX9_close_8 (by decide) ?_
    refine fw_cV_i (As := [.int (1 : Int32)]) (rest := []) ⟨hx, hb, hml, hown, hts⟩ (cc_X9_not l G had h) (⟨callB_of 1 hts ggX9_close_X9_not rfl rfl rfl (hts (.initialized RX9) (by decide +kernel)) (hts (.methodLink RX9 183 yX9_not) (by decide +kernel)) (by decide +kernel) ⟨Nat.le_of_ble_eq_true rfl, Nat.le_of_ble_eq_true rfl⟩, hts (.instanceMethod yX9_not) (by decide +kernel), hts (.selects RX9 yX9_not yX9_not) (by decide +kernel)⟩) rfl mf_obj hK hZ hF hS hA rfl hl.1 rfl (Nat.le_of_ble_eq_true rfl) dX9_close_9 ⟨Nat.zero_le _, Nat.zero_le _⟩ (fun r_12 f9 H locs h hF hS => ?_)
    obtain ⟨n_14, g_15, rfl, h⟩ := h
    obtain ⟨hz, h⟩ := h
    exact W.zret (v := r_12) hx hb hr (isB_nar hz) (fun t ht hW => ⟨⟨r_12, (mf mo ad n_14 g_15), rfl, ⟨_, _, rfl, h⟩, by rw [ht]; exact hF, FK.moved hW.alike hK⟩, hS.F ht⟩) hS.2.2 dX9_close_12
theorem dX9_closesAll_0 : decode cX9_closesAll 0 = .ok (.iconst 0, 1) := by decide +kernel
theorem dX9_closesAll_1 : decode cX9_closesAll 1 = .ok (.istore_n 1, 1) := by decide +kernel
theorem dX9_closesAll_2 : decode cX9_closesAll 2 = .ok (.iload_n 1, 1) := by decide +kernel
theorem dX9_closesAll_3 : decode cX9_closesAll 3 = .ok (.iconst 4, 1) := by decide +kernel
theorem dX9_closesAll_4 : decode cX9_closesAll 4 = .ok (.if_icmp .ge 17, 3) := by decide +kernel
theorem dX9_closesAll_7 : decode cX9_closesAll 7 = .ok (.aload_n 0, 1) := by decide +kernel
theorem dX9_closesAll_8 : decode cX9_closesAll 8 = .ok (.getfield 44, 3) := by decide +kernel
theorem dX9_closesAll_11 : decode cX9_closesAll 11 = .ok (.iload_n 1, 1) := by decide +kernel
theorem dX9_closesAll_12 : decode cX9_closesAll 12 = .ok (.bipush (-2), 2) := by decide +kernel
theorem dX9_closesAll_14 : decode cX9_closesAll 14 = .ok (.iastore, 1) := by decide +kernel
theorem dX9_closesAll_15 : decode cX9_closesAll 15 = .ok (.iinc 1 1, 3) := by decide +kernel
theorem dX9_closesAll_18 : decode cX9_closesAll 18 = .ok (.goto (-16), 3) := by decide +kernel
theorem dX9_closesAll_21 : decode cX9_closesAll 21 = .ok (.return_, 1) := by decide +kernel
def wp_X9_closesAll_2  (K : (Nat → Int32) → (Nat → Nat → Int32) → Prop)  (C2 : Int32 × (Nat → Int32) × (Nat → Nat → Int32) → Prop) : Int32 × (Nat → Int32) × (Nat → Nat → Int32) → Prop := fun s9 => match s9 with
  | (y1, n, g) => (((4 : Int32) ≤ y1 → K n g) ∧
 (¬ ((4 : Int32) ≤ y1) → vp_in y1 (mlen 18) ∧ ∀ g_3 : Nat → Nat → Int32, g_3 = mup g 18 (y1).toNatClampNeg (-2 : Int32) → ∀ v_4 : Int32, v_4 = y1 + 1 → C2 (v_4, n, g_3)))
def wp_X9_closesAll  (n : Nat → Int32) (g : Nat → Nat → Int32) (K : (Nat → Int32) → (Nat → Nat → Int32) → Prop) : Prop :=
  ∃ n_6, loopW (wp_X9_closesAll_2 K) n_6 ((0 : Int32), n, g)
set_option maxHeartbeats 4000000 in
set_option maxRecDepth 100000 in
theorem cc_X9_closesAll (l : Launch) (G : GG) {mo : Nat} {ad : Nat → Nat} (had : MAd mo ad) {n : Nat → Int32} {g : Nat → Nat → Int32} {sz : Nat}  {K : (Nat → Int32) → (Nat → Nat → Int32) → Prop} (h : wp_X9_closesAll  n g K) : Met l yX9_closesAll wsX9_closesAll ({ frames := 0, cells := 0, slots := 0, locals := 0 } : Room) (FP G [.ref mo] (mf mo ad n g) sz) (va_Qv (fun f9 => ∃ n9 g9, f9 = mf mo ad n9 g9 ∧ K n9 g9 : FT → Prop) (FB G (fA (mf mo ad n g) sz)) (fA (mf mo ad n g) sz)) 0 0 (fA (mf mo ad n g) sz) := by
  refine Met.ofW (cc := cX9_closesAll) (maxL := 2) (ret := none) (by decide) rfl ?_
  intro p e s m args below meth c s₁ B hml hv
  obtain ⟨rfl, hsz, hF, hK, hZ⟩ := hv
  have hx := B.exec
  have hb := B.bytes
  have hr := B.returns
  have hts := atoms_spec (ws := wsX9_closesAll) B.pre
  have hown : s.vm.findClass RX9 = some m.cls := findClass_of_methodNamed B.named
  have hlocks := B.notSynchronized
  subst hsz
  have hF := hF.self (sz := s.heap.size)
  generalize hAe : fA (mf mo ad n g) s.heap.size = A at hF hZ ⊢
  have hA : ∀ q : Nat, s.heap.size ≤ q → A q := fun q h => by rw [← hAe]; exact Or.inr h
  have hS : va_S A s.heap s.heap [] := va_S.rf
  have hin_X9 : ∀ w ∈ wsX90, w ∈ wsX9_closesAll := by decide +kernel
  have L2 : ∀  (j9 : Nat) (y1 : Int32) (n : Nat → Int32) (g : Nat → Nat → Int32) (H : Heap) (locs : List Loc) (ls : Array Slot), loopW (wp_X9_closesAll_2  K ) j9 (y1, n, g) → Fw G A (mf mo ad n g) H → va_S A s.heap H locs → lv_has ls 2 [(0, .ref mo), (1, .int y1)] → W p l e ({ frames := 0, cells := 0, slots := 0, locals := 0 } : Room) s m ([.ref mo] : List Value).toArray below meth c H locs 0 0 (MQ below (va_Qv (fun f9 => ∃ n9 g9, f9 = mf mo ad n9 g9 ∧ K n9 g9 : FT → Prop) (FB G A) A) ([.ref mo] : List Value).toArray s 0 0 A) (F0 m 2 ls []) := by
    intro  j9
    induction j9 with
    | zero => intro y1 n g H locs ls h; exact h.elim
    | succ j9 ih2 =>
      intro y1 n g H locs ls h hF hS hl
      have h : wp_X9_closesAll_2  K  (loopW (wp_X9_closesAll_2  K ) j9) (y1, n, g) := h
      generalize loopW (wp_X9_closesAll_2  K ) j9 = C2 at ih2 h
      unfold wp_X9_closesAll_2 at h
      refine lv_iload_n hx hb dX9_closesAll_2 rfl (lv_at hl 1 rfl) ?_
      refine lv_iconst (v := (4 : Int32)) hx hb dX9_closesAll_3 (by decide) ?_
      obtain ⟨h1, h2⟩ := h
      refine lv_icmp_ge (tgt := 21) hx hb dX9_closesAll_4 (by decide) (fun c_1 => ?_) (fun c_1 => ?_)
      · have h := h1 c_1
        exact W.vret hx hb hr (fun t ht hW => ⟨⟨(mf mo ad n g), rfl, ⟨_, _, rfl, h⟩, by rw [ht]; exact hF, FK.moved hW.alike hK⟩, hS.F ht⟩) hS.2.2 dX9_closesAll_21
      · have h := h2 c_1
        refine lv_aload_n hx hb dX9_closesAll_7 rfl (lv_at hl 0 rfl) ?_
        refine fw_get (C := RX9) (T := TX9) (N := 34) hx hb hts hin_X9 hown hK hF mf_obj rfl 18 (by decide) (hts (.fieldLink RX9 44 "FrontCodedIndexModel" "cursors" "[I") (by decide +kernel)) (fun _ h9 => h9) rfl dX9_closesAll_8 ?_
        refine lv_iload_n hx hb dX9_closesAll_11 rfl (lv_at hl 1 rfl) ?_
        refine lv_bipush (v := (-2 : Int32)) hx hb dX9_closesAll_12 (by decide) ?_
        obtain ⟨hi_i_2, h⟩ := h
        refine fw_iast hx hb hK hF hS (mf_arr had 18 (by decide)) hi_i_2 dX9_closesAll_14 (fun H locs hF hS => ?_)
        rw [mf_st had 18 (by decide)] at hF
        obtain ⟨g_3, hg_g_3⟩ : ∃ z, z = mup g 18 (y1).toNatClampNeg (-2 : Int32) := ⟨_, rfl⟩
        rw [← hg_g_3] at hF; have h := h g_3 hg_g_3
        obtain ⟨v_4, e_5⟩ : ∃ y : Int32, y = y1 + 1 := ⟨_, rfl⟩
        have h := h v_4 e_5
        refine lv_iinc (v := v_4) (lv' := [(1, .int v_4), (0, .ref mo)]) hx hb dX9_closesAll_15 hl (k := 1) rfl (by rw [e_5]; rfl) (by decide) rfl (fun ls hl => ?_)
        refine lv_goto (tgt := 2) hx hb dX9_closesAll_18 (by decide) ?_
        exact ih2 v_4 n g_3 _ _ _ h hF hS (lv_sub hl [1, 0] rfl)
  have hl := lv_entry ([.ref mo]) (n := 2) (Nat.le_of_ble_eq_true rfl)
  rw [lg_entry_eq]
  generalize (lg_sl ([.ref mo]) ++ List.replicate (2 - (lg_sl ([.ref mo])).length) Slot.unset).toArray = ls at hl ⊢
  have hl : lv_has ls 2 [(0, .ref mo)] := hl
  unfold wp_X9_closesAll at h
  refine lv_iconst (v := (0 : Int32)) hx hb dX9_closesAll_0 (by decide) ?_
  refine lv_istore_n (lv' := [(1, .int (0 : Int32)), (0, .ref mo)]) hx hb dX9_closesAll_1 rfl hl (by decide) rfl (fun ls hl => ?_)
  obtain ⟨n_6, h⟩ := h
  exact L2 n_6 (0 : Int32) n g _ _ _ h hF hS (lv_sub hl [1, 0] rfl)
theorem dX9_sets_0 : decode cX9_sets 0 = .ok (.aload_n 0, 1) := by decide +kernel
theorem dX9_sets_1 : decode cX9_sets 1 = .ok (.getfield 38, 3) := by decide +kernel
theorem dX9_sets_4 : decode cX9_sets 4 = .ok (.iload_n 1, 1) := by decide +kernel
theorem dX9_sets_5 : decode cX9_sets 5 = .ok (.iload 4, 2) := by decide +kernel
theorem dX9_sets_7 : decode cX9_sets 7 = .ok (.iastore, 1) := by decide +kernel
theorem dX9_sets_8 : decode cX9_sets 8 = .ok (.iconst 0, 1) := by decide +kernel
theorem dX9_sets_9 : decode cX9_sets 9 = .ok (.istore 5, 2) := by decide +kernel
theorem dX9_sets_11 : decode cX9_sets 11 = .ok (.iload 5, 2) := by decide +kernel
theorem dX9_sets_13 : decode cX9_sets 13 = .ok (.iload 4, 2) := by decide +kernel
theorem dX9_sets_15 : decode cX9_sets 15 = .ok (.if_icmp .ge 27, 3) := by decide +kernel
theorem dX9_sets_18 : decode cX9_sets 18 = .ok (.aload_n 0, 1) := by decide +kernel
theorem dX9_sets_19 : decode cX9_sets 19 = .ok (.getfield 41, 3) := by decide +kernel
theorem dX9_sets_22 : decode cX9_sets 22 = .ok (.bipush 12, 2) := by decide +kernel
theorem dX9_sets_24 : decode cX9_sets 24 = .ok (.iload_n 1, 1) := by decide +kernel
theorem dX9_sets_25 : decode cX9_sets 25 = .ok (.imul, 1) := by decide +kernel
theorem dX9_sets_26 : decode cX9_sets 26 = .ok (.iload 5, 2) := by decide +kernel
theorem dX9_sets_28 : decode cX9_sets 28 = .ok (.iadd, 1) := by decide +kernel
theorem dX9_sets_29 : decode cX9_sets 29 = .ok (.aload_n 2, 1) := by decide +kernel
theorem dX9_sets_30 : decode cX9_sets 30 = .ok (.iload_n 3, 1) := by decide +kernel
theorem dX9_sets_31 : decode cX9_sets 31 = .ok (.iload 5, 2) := by decide +kernel
theorem dX9_sets_33 : decode cX9_sets 33 = .ok (.iadd, 1) := by decide +kernel
theorem dX9_sets_34 : decode cX9_sets 34 = .ok (.iaload, 1) := by decide +kernel
theorem dX9_sets_35 : decode cX9_sets 35 = .ok (.iastore, 1) := by decide +kernel
theorem dX9_sets_36 : decode cX9_sets 36 = .ok (.iinc 5 1, 3) := by decide +kernel
theorem dX9_sets_39 : decode cX9_sets 39 = .ok (.goto (-28), 3) := by decide +kernel
theorem dX9_sets_42 : decode cX9_sets 42 = .ok (.return_, 1) := by decide +kernel
def wp_X9_sets_11 (x1 : Int32) (k2 : Nat) (x3 : Int32) (x4 : Int32) (K : (Nat → Int32) → (Nat → Nat → Int32) → Prop)  (C11 : Int32 × (Nat → Int32) × (Nat → Nat → Int32) → Prop) : Int32 × (Nat → Int32) × (Nat → Nat → Int32) → Prop := fun s9 => match s9 with
  | (y5, n, g) => ((x4 ≤ y5 → K n g) ∧
 (¬ (x4 ≤ y5) → k2 ∈ mAI ∧ vp_in (x3 + y5) (mlen k2) ∧ ∀ v_3 : Int32, v_3 = g k2 ((x3 + y5)).toNatClampNeg → vp_in (((12 : Int32) * x1) + y5) (mlen 17) ∧ ∀ g_5 : Nat → Nat → Int32, g_5 = mup g 17 ((((12 : Int32) * x1) + y5)).toNatClampNeg v_3 → ∀ v_6 : Int32, v_6 = y5 + 1 → C11 (v_6, n, g_5)))
def wp_X9_sets (x1 : Int32) (k2 : Nat) (x3 : Int32) (x4 : Int32) (n : Nat → Int32) (g : Nat → Nat → Int32) (K : (Nat → Int32) → (Nat → Nat → Int32) → Prop) : Prop :=
  vp_in x1 (mlen 16) ∧ ∀ g_9 : Nat → Nat → Int32, g_9 = mup g 16 (x1).toNatClampNeg x4 → ∃ n_10, loopW (wp_X9_sets_11 x1 k2 x3 x4 K) n_10 ((0 : Int32), n, g_9)
set_option maxHeartbeats 4000000 in
set_option maxRecDepth 100000 in
theorem cc_X9_sets (l : Launch) (G : GG) {mo : Nat} {ad : Nat → Nat} (had : MAd mo ad) {n : Nat → Int32} {g : Nat → Nat → Int32} {sz : Nat} {x1 : Int32} {k2 : Nat} {x3 : Int32} {x4 : Int32} {K : (Nat → Int32) → (Nat → Nat → Int32) → Prop} (h : wp_X9_sets x1 k2 x3 x4 n g K) : Met l yX9_sets wsX9_sets ({ frames := 0, cells := 0, slots := 0, locals := 0 } : Room) (FP G [.ref mo, .int x1, .ref (ad k2), .int x3, .int x4] (mf mo ad n g) sz) (va_Qv (fun f9 => ∃ n9 g9, f9 = mf mo ad n9 g9 ∧ K n9 g9 : FT → Prop) (FB G (fA (mf mo ad n g) sz)) (fA (mf mo ad n g) sz)) 0 0 (fA (mf mo ad n g) sz) := by
  refine Met.ofW (cc := cX9_sets) (maxL := 6) (ret := none) (by decide) rfl ?_
  intro p e s m args below meth c s₁ B hml hv
  obtain ⟨rfl, hsz, hF, hK, hZ⟩ := hv
  have hx := B.exec
  have hb := B.bytes
  have hr := B.returns
  have hts := atoms_spec (ws := wsX9_sets) B.pre
  have hown : s.vm.findClass RX9 = some m.cls := findClass_of_methodNamed B.named
  have hlocks := B.notSynchronized
  subst hsz
  have hF := hF.self (sz := s.heap.size)
  generalize hAe : fA (mf mo ad n g) s.heap.size = A at hF hZ ⊢
  have hA : ∀ q : Nat, s.heap.size ≤ q → A q := fun q h => by rw [← hAe]; exact Or.inr h
  have hS : va_S A s.heap s.heap [] := va_S.rf
  have hin_X9 : ∀ w ∈ wsX90, w ∈ wsX9_sets := by decide +kernel
  have L11 : ∀  (j9 : Nat) (y5 : Int32) (n : Nat → Int32) (g : Nat → Nat → Int32) (H : Heap) (locs : List Loc) (ls : Array Slot), loopW (wp_X9_sets_11 x1 k2 x3 x4 K ) j9 (y5, n, g) → Fw G A (mf mo ad n g) H → va_S A s.heap H locs → lv_has ls 6 [(0, .ref mo), (1, .int x1), (2, .ref (ad k2)), (3, .int x3), (4, .int x4), (5, .int y5)] → W p l e ({ frames := 0, cells := 0, slots := 0, locals := 0 } : Room) s m ([.ref mo, .int x1, .ref (ad k2), .int x3, .int x4] : List Value).toArray below meth c H locs 0 0 (MQ below (va_Qv (fun f9 => ∃ n9 g9, f9 = mf mo ad n9 g9 ∧ K n9 g9 : FT → Prop) (FB G A) A) ([.ref mo, .int x1, .ref (ad k2), .int x3, .int x4] : List Value).toArray s 0 0 A) (F0 m 11 ls []) := by
    intro  j9
    induction j9 with
    | zero => intro y5 n g H locs ls h; exact h.elim
    | succ j9 ih11 =>
      intro y5 n g H locs ls h hF hS hl
      have h : wp_X9_sets_11 x1 k2 x3 x4 K  (loopW (wp_X9_sets_11 x1 k2 x3 x4 K ) j9) (y5, n, g) := h
      generalize loopW (wp_X9_sets_11 x1 k2 x3 x4 K ) j9 = C11 at ih11 h
      unfold wp_X9_sets_11 at h
      refine lv_iload hx hb dX9_sets_11 (lv_at hl 5 rfl) ?_
      refine lv_iload hx hb dX9_sets_13 (lv_at hl 4 rfl) ?_
      obtain ⟨h1, h2⟩ := h
      refine lv_icmp_ge (tgt := 42) hx hb dX9_sets_15 (by decide) (fun c_1 => ?_) (fun c_1 => ?_)
      · have h := h1 c_1
        exact W.vret hx hb hr (fun t ht hW => ⟨⟨(mf mo ad n g), rfl, ⟨_, _, rfl, h⟩, by rw [ht]; exact hF, FK.moved hW.alike hK⟩, hS.F ht⟩) hS.2.2 dX9_sets_42
      · have h := h2 c_1
        refine lv_aload_n hx hb dX9_sets_18 rfl (lv_at hl 0 rfl) ?_
        refine fw_get (C := RX9) (T := TX9) (N := 34) hx hb hts hin_X9 hown hK hF mf_obj rfl 17 (by decide) (hts (.fieldLink RX9 41 "FrontCodedIndexModel" "sep" "[I") (by decide +kernel)) (fun _ h9 => h9) rfl dX9_sets_19 ?_
        refine lv_bipush (v := (12 : Int32)) hx hb dX9_sets_22 (by decide) ?_
        refine lv_iload_n hx hb dX9_sets_24 rfl (lv_at hl 1 rfl) ?_
        refine lv_imul hx hb dX9_sets_25 ?_
        refine lv_iload hx hb dX9_sets_26 (lv_at hl 5 rfl) ?_
        refine lv_iadd hx hb dX9_sets_28 ?_
        refine lv_aload_n hx hb dX9_sets_29 rfl (lv_at hl 2 rfl) ?_
        refine lv_iload_n hx hb dX9_sets_30 rfl (lv_at hl 3 rfl) ?_
        refine lv_iload hx hb dX9_sets_31 (lv_at hl 5 rfl) ?_
        refine lv_iadd hx hb dX9_sets_33 ?_
        obtain ⟨hm_i_2, hi_i_2, h⟩ := h
        refine fw_iald hx hb hK hF (mf_arr had k2 hm_i_2) hi_i_2 dX9_sets_34 ?_
        refine lv_topi (fun v_3 e_v_3 => ?_)
        have h := h v_3 e_v_3
        obtain ⟨hi_i_4, h⟩ := h
        refine fw_iast hx hb hK hF hS (mf_arr had 17 (by decide)) hi_i_4 dX9_sets_35 (fun H locs hF hS => ?_)
        rw [mf_st had 17 (by decide)] at hF
        obtain ⟨g_5, hg_g_5⟩ : ∃ z, z = mup g 17 ((((12 : Int32) * x1) + y5)).toNatClampNeg v_3 := ⟨_, rfl⟩
        rw [← hg_g_5] at hF; have h := h g_5 hg_g_5
        obtain ⟨v_6, e_7⟩ : ∃ y : Int32, y = y5 + 1 := ⟨_, rfl⟩
        have h := h v_6 e_7
        refine lv_iinc (v := v_6) (lv' := [(5, .int v_6), (0, .ref mo), (1, .int x1), (2, .ref (ad k2)), (3, .int x3), (4, .int x4)]) hx hb dX9_sets_36 hl (k := 5) rfl (by rw [e_7]; rfl) (by decide) rfl (fun ls hl => ?_)
        refine lv_goto (tgt := 11) hx hb dX9_sets_39 (by decide) ?_
        exact ih11 v_6 n g_5 _ _ _ h hF hS (lv_sub hl [1, 2, 3, 4, 5, 0] rfl)
  have hl := lv_entry ([.ref mo, .int x1, .ref (ad k2), .int x3, .int x4]) (n := 6) (Nat.le_of_ble_eq_true rfl)
  rw [lg_entry_eq]
  generalize (lg_sl ([.ref mo, .int x1, .ref (ad k2), .int x3, .int x4]) ++ List.replicate (6 - (lg_sl ([.ref mo, .int x1, .ref (ad k2), .int x3, .int x4])).length) Slot.unset).toArray = ls at hl ⊢
  have hl : lv_has ls 6 [(0, .ref mo), (1, .int x1), (2, .ref (ad k2)), (3, .int x3), (4, .int x4)] := hl
  unfold wp_X9_sets at h
  refine lv_aload_n hx hb dX9_sets_0 rfl (lv_at hl 0 rfl) ?_
  refine fw_get (C := RX9) (T := TX9) (N := 34) hx hb hts hin_X9 hown hK hF mf_obj rfl 16 (by decide) (hts (.fieldLink RX9 38 "FrontCodedIndexModel" "sepSize" "[I") (by decide +kernel)) (fun _ h9 => h9) rfl dX9_sets_1 ?_
  refine lv_iload_n hx hb dX9_sets_4 rfl (lv_at hl 1 rfl) ?_
  refine lv_iload hx hb dX9_sets_5 (lv_at hl 4 rfl) ?_
  obtain ⟨hi_i_8, h⟩ := h
  refine fw_iast hx hb hK hF hS (mf_arr had 16 (by decide)) hi_i_8 dX9_sets_7 (fun H locs hF hS => ?_)
  rw [mf_st had 16 (by decide)] at hF
  obtain ⟨g_9, hg_g_9⟩ : ∃ z, z = mup g 16 (x1).toNatClampNeg x4 := ⟨_, rfl⟩
  rw [← hg_g_9] at hF; have h := h g_9 hg_g_9
  refine lv_iconst (v := (0 : Int32)) hx hb dX9_sets_8 (by decide) ?_
  refine lv_istore (lv' := [(5, .int (0 : Int32)), (0, .ref mo), (1, .int x1), (2, .ref (ad k2)), (3, .int x3), (4, .int x4)]) hx hb dX9_sets_9 hl (by decide) rfl (fun ls hl => ?_)
  obtain ⟨n_10, h⟩ := h
  exact L11 n_10 (0 : Int32) n g_9 _ _ _ h hF hS (lv_sub hl [1, 2, 3, 4, 5, 0] rfl)
theorem dX9_comes_0 : decode cX9_comes 0 = .ok (.aload_n 0, 1) := by decide +kernel
theorem dX9_comes_1 : decode cX9_comes 1 = .ok (.getfield 32, 3) := by decide +kernel
theorem dX9_comes_4 : decode cX9_comes 4 = .ok (.iload_n 1, 1) := by decide +kernel
theorem dX9_comes_5 : decode cX9_comes 5 = .ok (.iaload, 1) := by decide +kernel
theorem dX9_comes_6 : decode cX9_comes 6 = .ok (.istore 4, 2) := by decide +kernel
theorem dX9_comes_8 : decode cX9_comes 8 = .ok (.iload 4, 2) := by decide +kernel
theorem dX9_comes_10 : decode cX9_comes 10 = .ok (.iload_n 2, 1) := by decide +kernel
theorem dX9_comes_11 : decode cX9_comes 11 = .ok (.iconst 1, 1) := by decide +kernel
theorem dX9_comes_12 : decode cX9_comes 12 = .ok (.iadd, 1) := by decide +kernel
theorem dX9_comes_13 : decode cX9_comes 13 = .ok (.if_icmp .le 63, 3) := by decide +kernel
theorem dX9_comes_16 : decode cX9_comes 16 = .ok (.aload_n 0, 1) := by decide +kernel
theorem dX9_comes_17 : decode cX9_comes 17 = .ok (.getfield 35, 3) := by decide +kernel
theorem dX9_comes_20 : decode cX9_comes 20 = .ok (.iload_n 1, 1) := by decide +kernel
theorem dX9_comes_21 : decode cX9_comes 21 = .ok (.iload 4, 2) := by decide +kernel
theorem dX9_comes_23 : decode cX9_comes 23 = .ok (.invokestatic 113, 3) := by decide +kernel
theorem dX9_comes_26 : decode cX9_comes 26 = .ok (.aload_n 0, 1) := by decide +kernel
theorem dX9_comes_27 : decode cX9_comes 27 = .ok (.getfield 35, 3) := by decide +kernel
theorem dX9_comes_30 : decode cX9_comes 30 = .ok (.iload_n 1, 1) := by decide +kernel
theorem dX9_comes_31 : decode cX9_comes 31 = .ok (.iload 4, 2) := by decide +kernel
theorem dX9_comes_33 : decode cX9_comes 33 = .ok (.iconst 1, 1) := by decide +kernel
theorem dX9_comes_34 : decode cX9_comes 34 = .ok (.isub, 1) := by decide +kernel
theorem dX9_comes_35 : decode cX9_comes 35 = .ok (.invokestatic 113, 3) := by decide +kernel
theorem dX9_comes_38 : decode cX9_comes 38 = .ok (.iaload, 1) := by decide +kernel
theorem dX9_comes_39 : decode cX9_comes 39 = .ok (.iastore, 1) := by decide +kernel
theorem dX9_comes_40 : decode cX9_comes 40 = .ok (.iload_n 1, 1) := by decide +kernel
theorem dX9_comes_41 : decode cX9_comes 41 = .ok (.ifCond .ne 29, 3) := by decide +kernel
theorem dX9_comes_44 : decode cX9_comes 44 = .ok (.aload_n 0, 1) := by decide +kernel
theorem dX9_comes_45 : decode cX9_comes 45 = .ok (.iload 4, 2) := by decide +kernel
theorem dX9_comes_47 : decode cX9_comes 47 = .ok (.aload_n 0, 1) := by decide +kernel
theorem dX9_comes_48 : decode cX9_comes 48 = .ok (.getfield 41, 3) := by decide +kernel
theorem dX9_comes_51 : decode cX9_comes 51 = .ok (.bipush 12, 2) := by decide +kernel
theorem dX9_comes_53 : decode cX9_comes 53 = .ok (.iload 4, 2) := by decide +kernel
theorem dX9_comes_55 : decode cX9_comes 55 = .ok (.iconst 1, 1) := by decide +kernel
theorem dX9_comes_56 : decode cX9_comes 56 = .ok (.isub, 1) := by decide +kernel
theorem dX9_comes_57 : decode cX9_comes 57 = .ok (.imul, 1) := by decide +kernel
theorem dX9_comes_58 : decode cX9_comes 58 = .ok (.aload_n 0, 1) := by decide +kernel
theorem dX9_comes_59 : decode cX9_comes 59 = .ok (.getfield 38, 3) := by decide +kernel
theorem dX9_comes_62 : decode cX9_comes 62 = .ok (.iload 4, 2) := by decide +kernel
theorem dX9_comes_64 : decode cX9_comes 64 = .ok (.iconst 1, 1) := by decide +kernel
theorem dX9_comes_65 : decode cX9_comes 65 = .ok (.isub, 1) := by decide +kernel
theorem dX9_comes_66 : decode cX9_comes 66 = .ok (.iaload, 1) := by decide +kernel
theorem dX9_comes_67 : decode cX9_comes 67 = .ok (.invokevirtual 133, 3) := by decide +kernel
theorem dX9_comes_70 : decode cX9_comes 70 = .ok (.iinc 4 (-1), 3) := by decide +kernel
theorem dX9_comes_73 : decode cX9_comes 73 = .ok (.goto (-65), 3) := by decide +kernel
theorem dX9_comes_76 : decode cX9_comes 76 = .ok (.iload_n 1, 1) := by decide +kernel
theorem dX9_comes_77 : decode cX9_comes 77 = .ok (.ifCond .ne 24, 3) := by decide +kernel
theorem dX9_comes_80 : decode cX9_comes 80 = .ok (.aload_n 0, 1) := by decide +kernel
theorem dX9_comes_81 : decode cX9_comes 81 = .ok (.iload_n 2, 1) := by decide +kernel
theorem dX9_comes_82 : decode cX9_comes 82 = .ok (.iconst 1, 1) := by decide +kernel
theorem dX9_comes_83 : decode cX9_comes 83 = .ok (.iadd, 1) := by decide +kernel
theorem dX9_comes_84 : decode cX9_comes 84 = .ok (.aload_n 0, 1) := by decide +kernel
theorem dX9_comes_85 : decode cX9_comes 85 = .ok (.getfield 41, 3) := by decide +kernel
theorem dX9_comes_88 : decode cX9_comes 88 = .ok (.bipush 12, 2) := by decide +kernel
theorem dX9_comes_90 : decode cX9_comes 90 = .ok (.iload_n 2, 1) := by decide +kernel
theorem dX9_comes_91 : decode cX9_comes 91 = .ok (.imul, 1) := by decide +kernel
theorem dX9_comes_92 : decode cX9_comes 92 = .ok (.aload_n 0, 1) := by decide +kernel
theorem dX9_comes_93 : decode cX9_comes 93 = .ok (.getfield 38, 3) := by decide +kernel
theorem dX9_comes_96 : decode cX9_comes 96 = .ok (.iload_n 2, 1) := by decide +kernel
theorem dX9_comes_97 : decode cX9_comes 97 = .ok (.iaload, 1) := by decide +kernel
theorem dX9_comes_98 : decode cX9_comes 98 = .ok (.invokevirtual 133, 3) := by decide +kernel
theorem dX9_comes_101 : decode cX9_comes 101 = .ok (.aload_n 0, 1) := by decide +kernel
theorem dX9_comes_102 : decode cX9_comes 102 = .ok (.getfield 32, 3) := by decide +kernel
theorem dX9_comes_105 : decode cX9_comes 105 = .ok (.iload_n 1, 1) := by decide +kernel
theorem dX9_comes_106 : decode cX9_comes 106 = .ok (.dup2, 1) := by decide +kernel
theorem dX9_comes_107 : decode cX9_comes 107 = .ok (.iaload, 1) := by decide +kernel
theorem dX9_comes_108 : decode cX9_comes 108 = .ok (.iconst 1, 1) := by decide +kernel
theorem dX9_comes_109 : decode cX9_comes 109 = .ok (.iadd, 1) := by decide +kernel
theorem dX9_comes_110 : decode cX9_comes 110 = .ok (.iastore, 1) := by decide +kernel
theorem dX9_comes_111 : decode cX9_comes 111 = .ok (.aload_n 0, 1) := by decide +kernel
theorem dX9_comes_112 : decode cX9_comes 112 = .ok (.getfield 35, 3) := by decide +kernel
theorem dX9_comes_115 : decode cX9_comes 115 = .ok (.iload_n 1, 1) := by decide +kernel
theorem dX9_comes_116 : decode cX9_comes 116 = .ok (.iload_n 2, 1) := by decide +kernel
theorem dX9_comes_117 : decode cX9_comes 117 = .ok (.iconst 1, 1) := by decide +kernel
theorem dX9_comes_118 : decode cX9_comes 118 = .ok (.iadd, 1) := by decide +kernel
theorem dX9_comes_119 : decode cX9_comes 119 = .ok (.invokestatic 113, 3) := by decide +kernel
theorem dX9_comes_122 : decode cX9_comes 122 = .ok (.iload_n 3, 1) := by decide +kernel
theorem dX9_comes_123 : decode cX9_comes 123 = .ok (.iastore, 1) := by decide +kernel
theorem dX9_comes_124 : decode cX9_comes 124 = .ok (.return_, 1) := by decide +kernel
set_option maxRecDepth 20000 in
theorem ggX9_comes_X9_at : GoodIn wsX9_comes wsX9_at := goodIn_r _ [8] (by decide +kernel) (by decide +kernel)
set_option maxRecDepth 20000 in
theorem ggX9_comes_X9_sets : GoodIn wsX9_comes wsX9_sets := goodIn_r _ [12, 4, 3, 13, 14, 15, 16, 17, 18, 19, 20, 21, 22, 23, 24, 25, 26, 27, 28, 29, 30, 31, 32, 33, 34, 35, 36, 37, 38, 39, 40, 41, 42, 43, 44, 45, 46] (by decide +kernel) (by decide +kernel)
def wp_X9_comes_101 (x1 : Int32) (x2 : Int32) (x3 : Int32)  (n : Nat → Int32) (g : Nat → Nat → Int32) (K : (Nat → Int32) → (Nat → Nat → Int32) → Prop)  : Prop :=
  vp_in x1 (mlen 14) ∧ ∀ v_2 : Int32, v_2 = g 14 (x1).toNatClampNeg → vp_in x1 (mlen 14) ∧ ∀ g_4 : Nat → Nat → Int32, g_4 = mup g 14 (x1).toNatClampNeg (v_2 + (1 : Int32)) → wp_X9_at x1 (x2 + (1 : Int32)) n g_4 (fun r_5 => vp_in r_5 (mlen 15) ∧ ∀ g_7 : Nat → Nat → Int32, g_7 = mup g_4 15 (r_5).toNatClampNeg x3 → K n g_7)
def wp_X9_comes_70 (x1 : Int32) (x2 : Int32) (x3 : Int32) (y4 : Int32) (n : Nat → Int32) (g : Nat → Nat → Int32) (K : (Nat → Int32) → (Nat → Nat → Int32) → Prop) (C8 : Int32 × (Nat → Int32) × (Nat → Nat → Int32) → Prop) : Prop :=
  ∀ v_8 : Int32, v_8 = y4 + (-1) → C8 (v_8, n, g)
def wp_X9_comes_8 (x1 : Int32) (x2 : Int32) (x3 : Int32) (K : (Nat → Int32) → (Nat → Nat → Int32) → Prop)  (C8 : Int32 × (Nat → Int32) × (Nat → Nat → Int32) → Prop) : Int32 × (Nat → Int32) × (Nat → Nat → Int32) → Prop := fun s9 => match s9 with
  | (y4, n, g) => ((y4 ≤ (x2 + (1 : Int32)) → ((¬ x1 = (0 : Int32) → wp_X9_comes_101 x1 x2 x3 n g K) ∧
 (x1 = (0 : Int32) → vp_in x2 (mlen 16) ∧ ∀ v_13 : Int32, v_13 = g 16 (x2).toNatClampNeg → wp_X9_sets (x2 + (1 : Int32)) 17 ((12 : Int32) * x2) v_13 n g (fun n_16 g_17 => wp_X9_comes_101 x1 x2 x3 n_16 g_17 K)))) ∧
 (¬ (y4 ≤ (x2 + (1 : Int32))) → wp_X9_at x1 y4 n g (fun r_18 => wp_X9_at x1 (y4 - (1 : Int32)) n g (fun r_19 => vp_in r_19 (mlen 15) ∧ ∀ v_21 : Int32, v_21 = g 15 (r_19).toNatClampNeg → vp_in r_18 (mlen 15) ∧ ∀ g_23 : Nat → Nat → Int32, g_23 = mup g 15 (r_18).toNatClampNeg v_21 → ((¬ x1 = (0 : Int32) → wp_X9_comes_70 x1 x2 x3 y4 n g_23 K C8) ∧
 (x1 = (0 : Int32) → vp_in (y4 - (1 : Int32)) (mlen 16) ∧ ∀ v_26 : Int32, v_26 = g_23 16 ((y4 - (1 : Int32))).toNatClampNeg → wp_X9_sets y4 17 ((12 : Int32) * (y4 - (1 : Int32))) v_26 n g_23 (fun n_29 g_30 => wp_X9_comes_70 x1 x2 x3 y4 n_29 g_30 K C8)))))))
def wp_X9_comes (x1 : Int32) (x2 : Int32) (x3 : Int32) (n : Nat → Int32) (g : Nat → Nat → Int32) (K : (Nat → Int32) → (Nat → Nat → Int32) → Prop) : Prop :=
  vp_in x1 (mlen 14) ∧ ∀ v_32 : Int32, v_32 = g 14 (x1).toNatClampNeg → ∃ n_33, loopW (wp_X9_comes_8 x1 x2 x3 K) n_33 (v_32, n, g)
set_option maxHeartbeats 4000000 in
set_option maxRecDepth 100000 in
theorem cc_X9_comes (l : Launch) (G : GG) {mo : Nat} {ad : Nat → Nat} (had : MAd mo ad) {n : Nat → Int32} {g : Nat → Nat → Int32} {sz : Nat} {x1 : Int32} {x2 : Int32} {x3 : Int32} {K : (Nat → Int32) → (Nat → Nat → Int32) → Prop} (h : wp_X9_comes x1 x2 x3 n g K) : Met l yX9_comes wsX9_comes ({ frames := 1, cells := 0, slots := 0, locals := 25 } : Room) (FP G [.ref mo, .int x1, .int x2, .int x3] (mf mo ad n g) sz) (va_Qv (fun f9 => ∃ n9 g9, f9 = mf mo ad n9 g9 ∧ K n9 g9 : FT → Prop) (FB G (fA (mf mo ad n g) sz)) (fA (mf mo ad n g) sz)) 0 0 (fA (mf mo ad n g) sz) := by
  refine Met.ofW (cc := cX9_comes) (maxL := 5) (ret := none) (by decide) rfl ?_
  intro p e s m args below meth c s₁ B hml hv
  obtain ⟨rfl, hsz, hF, hK, hZ⟩ := hv
  have hx := B.exec
  have hb := B.bytes
  have hr := B.returns
  have hts := atoms_spec (ws := wsX9_comes) B.pre
  have hown : s.vm.findClass RX9 = some m.cls := findClass_of_methodNamed B.named
  have hlocks := B.notSynchronized
  subst hsz
  have hF := hF.self (sz := s.heap.size)
  generalize hAe : fA (mf mo ad n g) s.heap.size = A at hF hZ ⊢
  have hA : ∀ q : Nat, s.heap.size ≤ q → A q := fun q h => by rw [← hAe]; exact Or.inr h
  have hS : va_S A s.heap s.heap [] := va_S.rf
  have hin_X9 : ∀ w ∈ wsX90, w ∈ wsX9_comes := by decide +kernel
  have J101 : ∀ (n : Nat → Int32) (g : Nat → Nat → Int32) (H : Heap) (locs : List Loc) (ls : Array Slot), wp_X9_comes_101 x1 x2 x3 n g K  → Fw G A (mf mo ad n g) H → va_S A s.heap H locs → lv_has ls 5 [(0, .ref mo), (1, .int x1), (2, .int x2), (3, .int x3)] → W p l e ({ frames := 1, cells := 0, slots := 0, locals := 25 } : Room) s m ([.ref mo, .int x1, .int x2, .int x3] : List Value).toArray below meth c H locs 0 0 (MQ below (va_Qv (fun f9 => ∃ n9 g9, f9 = mf mo ad n9 g9 ∧ K n9 g9 : FT → Prop) (FB G A) A) ([.ref mo, .int x1, .int x2, .int x3] : List Value).toArray s 0 0 A) (F0 m 101 ls []) := by
    intro n g H locs ls h hF hS hl
    unfold wp_X9_comes_101 at h
    refine lv_aload_n hx hb dX9_comes_101 rfl (lv_at hl 0 rfl) ?_
    refine fw_get (C := RX9) (T := TX9) (N := 34) hx hb hts hin_X9 hown hK hF mf_obj rfl 14 (by decide) (hts (.fieldLink RX9 32 "FrontCodedIndexModel" "many" "[I") (by decide +kernel)) (fun _ h9 => h9) rfl dX9_comes_102 ?_
    refine lv_iload_n hx hb dX9_comes_105 rfl (lv_at hl 1 rfl) ?_
    refine lv_dup2_11 hx hb dX9_comes_106 rfl rfl ?_
    obtain ⟨hi_i_1, h⟩ := h
    refine fw_iald hx hb hK hF (mf_arr had 14 (by decide)) hi_i_1 dX9_comes_107 ?_
    refine lv_topi (fun v_2 e_v_2 => ?_)
    have h := h v_2 e_v_2
    refine lv_iconst (v := (1 : Int32)) hx hb dX9_comes_108 (by decide) ?_
    refine lv_iadd hx hb dX9_comes_109 ?_
    obtain ⟨hi_i_3, h⟩ := h
    refine fw_iast hx hb hK hF hS (mf_arr had 14 (by decide)) hi_i_3 dX9_comes_110 (fun H locs hF hS => ?_)
    rw [mf_st had 14 (by decide)] at hF
    obtain ⟨g_4, hg_g_4⟩ : ∃ z, z = mup g 14 (x1).toNatClampNeg (v_2 + (1 : Int32)) := ⟨_, rfl⟩
    rw [← hg_g_4] at hF; have h := h g_4 hg_g_4
    refine lv_aload_n hx hb dX9_comes_111 rfl (lv_at hl 0 rfl) ?_
    refine fw_get (C := RX9) (T := TX9) (N := 34) hx hb hts hin_X9 hown hK hF mf_obj rfl 15 (by decide) (hts (.fieldLink RX9 35 "FrontCodedIndexModel" "parts" "[I") (by decide +kernel)) (fun _ h9 => h9) rfl dX9_comes_112 ?_
    refine lv_iload_n hx hb dX9_comes_115 rfl (lv_at hl 1 rfl) ?_
    refine lv_iload_n hx hb dX9_comes_116 rfl (lv_at hl 2 rfl) ?_
    refine lv_iconst (v := (1 : Int32)) hx hb dX9_comes_117 (by decide) ?_
    refine lv_iadd hx hb dX9_comes_118 ?_
    refine fw_cS_i_p (As := [.int x1, .int (x2 + (1 : Int32))]) (rest := [.ref (ad 15)]) ⟨hx, hb, hml, hown, hts⟩ (cc_X9_at l G had h) (⟨callB_of 2 hts ggX9_comes_X9_at rfl rfl rfl (hts (.initialized RX9) (by decide +kernel)) (hts (.methodLink RX9 113 yX9_at) (by decide +kernel)) (by decide +kernel) ⟨Nat.le_of_ble_eq_true rfl, Nat.le_of_ble_eq_true rfl⟩, hts (.static yX9_at) (by decide +kernel)⟩) hK hZ hF hS hA rfl hl.1 rfl (Nat.le_of_ble_eq_true rfl) dX9_comes_119 ⟨Nat.zero_le _, Nat.zero_le _⟩ (fun r_5 H locs h hF hS => ?_)
    refine lv_iload_n hx hb dX9_comes_122 rfl (lv_at hl 3 rfl) ?_
    obtain ⟨hi_i_6, h⟩ := h
    refine fw_iast hx hb hK hF hS (mf_arr had 15 (by decide)) hi_i_6 dX9_comes_123 (fun H locs hF hS => ?_)
    rw [mf_st had 15 (by decide)] at hF
    obtain ⟨g_7, hg_g_7⟩ : ∃ z, z = mup g_4 15 (r_5).toNatClampNeg x3 := ⟨_, rfl⟩
    rw [← hg_g_7] at hF; have h := h g_7 hg_g_7
    exact W.vret hx hb hr (fun t ht hW => ⟨⟨(mf mo ad n g_7), rfl, ⟨_, _, rfl, h⟩, by rw [ht]; exact hF, FK.moved hW.alike hK⟩, hS.F ht⟩) hS.2.2 dX9_comes_124
  have L8 : ∀  (j9 : Nat) (y4 : Int32) (n : Nat → Int32) (g : Nat → Nat → Int32) (H : Heap) (locs : List Loc) (ls : Array Slot), loopW (wp_X9_comes_8 x1 x2 x3 K ) j9 (y4, n, g) → Fw G A (mf mo ad n g) H → va_S A s.heap H locs → lv_has ls 5 [(0, .ref mo), (1, .int x1), (2, .int x2), (3, .int x3), (4, .int y4)] → W p l e ({ frames := 1, cells := 0, slots := 0, locals := 25 } : Room) s m ([.ref mo, .int x1, .int x2, .int x3] : List Value).toArray below meth c H locs 0 0 (MQ below (va_Qv (fun f9 => ∃ n9 g9, f9 = mf mo ad n9 g9 ∧ K n9 g9 : FT → Prop) (FB G A) A) ([.ref mo, .int x1, .int x2, .int x3] : List Value).toArray s 0 0 A) (F0 m 8 ls []) := by
    intro  j9
    induction j9 with
    | zero => intro y4 n g H locs ls h; exact h.elim
    | succ j9 ih8 =>
      intro y4 n g H locs ls h hF hS hl
      have h : wp_X9_comes_8 x1 x2 x3 K  (loopW (wp_X9_comes_8 x1 x2 x3 K ) j9) (y4, n, g) := h
      generalize loopW (wp_X9_comes_8 x1 x2 x3 K ) j9 = C8 at ih8 h
      unfold wp_X9_comes_8 at h
      have J70 : ∀ (y4 : Int32) (n : Nat → Int32) (g : Nat → Nat → Int32) (H : Heap) (locs : List Loc) (ls : Array Slot), wp_X9_comes_70 x1 x2 x3 y4 n g K C8 → Fw G A (mf mo ad n g) H → va_S A s.heap H locs → lv_has ls 5 [(0, .ref mo), (1, .int x1), (2, .int x2), (3, .int x3), (4, .int y4)] → W p l e ({ frames := 1, cells := 0, slots := 0, locals := 25 } : Room) s m ([.ref mo, .int x1, .int x2, .int x3] : List Value).toArray below meth c H locs 0 0 (MQ below (va_Qv (fun f9 => ∃ n9 g9, f9 = mf mo ad n9 g9 ∧ K n9 g9 : FT → Prop) (FB G A) A) ([.ref mo, .int x1, .int x2, .int x3] : List Value).toArray s 0 0 A) (F0 m 70 ls []) := by
        intro y4 n g H locs ls h hF hS hl
        unfold wp_X9_comes_70 at h
        obtain ⟨v_8, e_9⟩ : ∃ y : Int32, y = y4 + (-1) := ⟨_, rfl⟩
        have h := h v_8 e_9
        refine lv_iinc (v := v_8) (lv' := [(4, .int v_8), (0, .ref mo), (1, .int x1), (2, .int x2), (3, .int x3)]) hx hb dX9_comes_70 hl (k := 4) rfl (by rw [e_9]; rfl) (by decide) rfl (fun ls hl => ?_)
        refine lv_goto (tgt := 8) hx hb dX9_comes_73 (by decide) ?_
        exact ih8 v_8 n g _ _ _ h hF hS (lv_sub hl [1, 2, 3, 4, 0] rfl)
      refine lv_iload hx hb dX9_comes_8 (lv_at hl 4 rfl) ?_
      refine lv_iload_n hx hb dX9_comes_10 rfl (lv_at hl 2 rfl) ?_
      refine lv_iconst (v := (1 : Int32)) hx hb dX9_comes_11 (by decide) ?_
      refine lv_iadd hx hb dX9_comes_12 ?_
      obtain ⟨h1, h2⟩ := h
      refine lv_icmp_le (tgt := 76) hx hb dX9_comes_13 (by decide) (fun c_10 => ?_) (fun c_10 => ?_)
      · have h := h1 c_10
        refine lv_iload_n hx hb dX9_comes_76 rfl (lv_at hl 1 rfl) ?_
        obtain ⟨h1, h2⟩ := h
        refine lv_if_ne (tgt := 101) hx hb dX9_comes_77 (by decide) (fun c_11 => ?_) (fun c_11 => ?_)
        · have h := h1 c_11
          exact J101 n g _ _ _ h hF hS (lv_sub hl [0, 1, 2, 3] rfl)
        · have h := h2 c_11
          refine lv_aload_n hx hb dX9_comes_80 rfl (lv_at hl 0 rfl) ?_
          refine lv_iload_n hx hb dX9_comes_81 rfl (lv_at hl 2 rfl) ?_
          refine lv_iconst (v := (1 : Int32)) hx hb dX9_comes_82 (by decide) ?_
          refine lv_iadd hx hb dX9_comes_83 ?_
          refine lv_aload_n hx hb dX9_comes_84 rfl (lv_at hl 0 rfl) ?_
          refine fw_get (C := RX9) (T := TX9) (N := 34) hx hb hts hin_X9 hown hK hF mf_obj rfl 17 (by decide) (hts (.fieldLink RX9 41 "FrontCodedIndexModel" "sep" "[I") (by decide +kernel)) (fun _ h9 => h9) rfl dX9_comes_85 ?_
          refine lv_bipush (v := (12 : Int32)) hx hb dX9_comes_88 (by decide) ?_
          refine lv_iload_n hx hb dX9_comes_90 rfl (lv_at hl 2 rfl) ?_
          refine lv_imul hx hb dX9_comes_91 ?_
          refine lv_aload_n hx hb dX9_comes_92 rfl (lv_at hl 0 rfl) ?_
          refine fw_get (C := RX9) (T := TX9) (N := 34) hx hb hts hin_X9 hown hK hF mf_obj rfl 16 (by decide) (hts (.fieldLink RX9 38 "FrontCodedIndexModel" "sepSize" "[I") (by decide +kernel)) (fun _ h9 => h9) rfl dX9_comes_93 ?_
          refine lv_iload_n hx hb dX9_comes_96 rfl (lv_at hl 2 rfl) ?_
          obtain ⟨hi_i_12, h⟩ := h
          refine fw_iald hx hb hK hF (mf_arr had 16 (by decide)) hi_i_12 dX9_comes_97 ?_
          refine lv_topi (fun v_13 e_v_13 => ?_)
          have h := h v_13 e_v_13
          refine fw_cV_v (As := [.int (x2 + (1 : Int32)), .ref (ad 17), .int ((12 : Int32) * x2), .int v_13]) (rest := []) ⟨hx, hb, hml, hown, hts⟩ (cc_X9_sets l G had h) (⟨callB_of 4 hts ggX9_comes_X9_sets rfl rfl rfl (hts (.initialized RX9) (by decide +kernel)) (hts (.methodLink RX9 133 yX9_sets) (by decide +kernel)) (by decide +kernel) ⟨Nat.le_of_ble_eq_true rfl, Nat.le_of_ble_eq_true rfl⟩, hts (.instanceMethod yX9_sets) (by decide +kernel), hts (.selects RX9 yX9_sets yX9_sets) (by decide +kernel)⟩) rfl mf_obj hK hZ hF hS hA rfl hl.1 rfl (Nat.le_of_ble_eq_true rfl) dX9_comes_98 ⟨Nat.zero_le _, Nat.zero_le _⟩ (fun f9 H locs h hF hS => ?_)
          obtain ⟨n_16, g_17, rfl, h⟩ := h
          exact J101 n_16 g_17 _ _ _ h hF hS (lv_sub hl [0, 1, 2, 3] rfl)
      · have h := h2 c_10
        refine lv_aload_n hx hb dX9_comes_16 rfl (lv_at hl 0 rfl) ?_
        refine fw_get (C := RX9) (T := TX9) (N := 34) hx hb hts hin_X9 hown hK hF mf_obj rfl 15 (by decide) (hts (.fieldLink RX9 35 "FrontCodedIndexModel" "parts" "[I") (by decide +kernel)) (fun _ h9 => h9) rfl dX9_comes_17 ?_
        refine lv_iload_n hx hb dX9_comes_20 rfl (lv_at hl 1 rfl) ?_
        refine lv_iload hx hb dX9_comes_21 (lv_at hl 4 rfl) ?_
        refine fw_cS_i_p (As := [.int x1, .int y4]) (rest := [.ref (ad 15)]) ⟨hx, hb, hml, hown, hts⟩ (cc_X9_at l G had h) (⟨callB_of 2 hts ggX9_comes_X9_at rfl rfl rfl (hts (.initialized RX9) (by decide +kernel)) (hts (.methodLink RX9 113 yX9_at) (by decide +kernel)) (by decide +kernel) ⟨Nat.le_of_ble_eq_true rfl, Nat.le_of_ble_eq_true rfl⟩, hts (.static yX9_at) (by decide +kernel)⟩) hK hZ hF hS hA rfl hl.1 rfl (Nat.le_of_ble_eq_true rfl) dX9_comes_23 ⟨Nat.zero_le _, Nat.zero_le _⟩ (fun r_18 H locs h hF hS => ?_)
        refine lv_aload_n hx hb dX9_comes_26 rfl (lv_at hl 0 rfl) ?_
        refine fw_get (C := RX9) (T := TX9) (N := 34) hx hb hts hin_X9 hown hK hF mf_obj rfl 15 (by decide) (hts (.fieldLink RX9 35 "FrontCodedIndexModel" "parts" "[I") (by decide +kernel)) (fun _ h9 => h9) rfl dX9_comes_27 ?_
        refine lv_iload_n hx hb dX9_comes_30 rfl (lv_at hl 1 rfl) ?_
        refine lv_iload hx hb dX9_comes_31 (lv_at hl 4 rfl) ?_
        refine lv_iconst (v := (1 : Int32)) hx hb dX9_comes_33 (by decide) ?_
        refine lv_isub hx hb dX9_comes_34 ?_
        refine fw_cS_i_p (As := [.int x1, .int (y4 - (1 : Int32))]) (rest := [.ref (ad 15), .int r_18, .ref (ad 15)]) ⟨hx, hb, hml, hown, hts⟩ (cc_X9_at l G had h) (⟨callB_of 2 hts ggX9_comes_X9_at rfl rfl rfl (hts (.initialized RX9) (by decide +kernel)) (hts (.methodLink RX9 113 yX9_at) (by decide +kernel)) (by decide +kernel) ⟨Nat.le_of_ble_eq_true rfl, Nat.le_of_ble_eq_true rfl⟩, hts (.static yX9_at) (by decide +kernel)⟩) hK hZ hF hS hA rfl hl.1 rfl (Nat.le_of_ble_eq_true rfl) dX9_comes_35 ⟨Nat.zero_le _, Nat.zero_le _⟩ (fun r_19 H locs h hF hS => ?_)
        obtain ⟨hi_i_20, h⟩ := h
        refine fw_iald hx hb hK hF (mf_arr had 15 (by decide)) hi_i_20 dX9_comes_38 ?_
        refine lv_topi (fun v_21 e_v_21 => ?_)
        have h := h v_21 e_v_21
        obtain ⟨hi_i_22, h⟩ := h
        refine fw_iast hx hb hK hF hS (mf_arr had 15 (by decide)) hi_i_22 dX9_comes_39 (fun H locs hF hS => ?_)
        rw [mf_st had 15 (by decide)] at hF
        obtain ⟨g_23, hg_g_23⟩ : ∃ z, z = mup g 15 (r_18).toNatClampNeg v_21 := ⟨_, rfl⟩
        rw [← hg_g_23] at hF; have h := h g_23 hg_g_23
        refine lv_iload_n hx hb dX9_comes_40 rfl (lv_at hl 1 rfl) ?_
        obtain ⟨h1, h2⟩ := h
        refine lv_if_ne (tgt := 70) hx hb dX9_comes_41 (by decide) (fun c_24 => ?_) (fun c_24 => ?_)
        · have h := h1 c_24
          exact J70 y4 n g_23 _ _ _ h hF hS (lv_sub hl [0, 1, 2, 3, 4] rfl)
        · have h := h2 c_24
          refine lv_aload_n hx hb dX9_comes_44 rfl (lv_at hl 0 rfl) ?_
          refine lv_iload hx hb dX9_comes_45 (lv_at hl 4 rfl) ?_
          refine lv_aload_n hx hb dX9_comes_47 rfl (lv_at hl 0 rfl) ?_
          refine fw_get (C := RX9) (T := TX9) (N := 34) hx hb hts hin_X9 hown hK hF mf_obj rfl 17 (by decide) (hts (.fieldLink RX9 41 "FrontCodedIndexModel" "sep" "[I") (by decide +kernel)) (fun _ h9 => h9) rfl dX9_comes_48 ?_
          refine lv_bipush (v := (12 : Int32)) hx hb dX9_comes_51 (by decide) ?_
          refine lv_iload hx hb dX9_comes_53 (lv_at hl 4 rfl) ?_
          refine lv_iconst (v := (1 : Int32)) hx hb dX9_comes_55 (by decide) ?_
          refine lv_isub hx hb dX9_comes_56 ?_
          refine lv_imul hx hb dX9_comes_57 ?_
          refine lv_aload_n hx hb dX9_comes_58 rfl (lv_at hl 0 rfl) ?_
          refine fw_get (C := RX9) (T := TX9) (N := 34) hx hb hts hin_X9 hown hK hF mf_obj rfl 16 (by decide) (hts (.fieldLink RX9 38 "FrontCodedIndexModel" "sepSize" "[I") (by decide +kernel)) (fun _ h9 => h9) rfl dX9_comes_59 ?_
          refine lv_iload hx hb dX9_comes_62 (lv_at hl 4 rfl) ?_
          refine lv_iconst (v := (1 : Int32)) hx hb dX9_comes_64 (by decide) ?_
          refine lv_isub hx hb dX9_comes_65 ?_
          obtain ⟨hi_i_25, h⟩ := h
          refine fw_iald hx hb hK hF (mf_arr had 16 (by decide)) hi_i_25 dX9_comes_66 ?_
          refine lv_topi (fun v_26 e_v_26 => ?_)
          have h := h v_26 e_v_26
          refine fw_cV_v (As := [.int y4, .ref (ad 17), .int ((12 : Int32) * (y4 - (1 : Int32))), .int v_26]) (rest := []) ⟨hx, hb, hml, hown, hts⟩ (cc_X9_sets l G had h) (⟨callB_of 4 hts ggX9_comes_X9_sets rfl rfl rfl (hts (.initialized RX9) (by decide +kernel)) (hts (.methodLink RX9 133 yX9_sets) (by decide +kernel)) (by decide +kernel) ⟨Nat.le_of_ble_eq_true rfl, Nat.le_of_ble_eq_true rfl⟩, hts (.instanceMethod yX9_sets) (by decide +kernel), hts (.selects RX9 yX9_sets yX9_sets) (by decide +kernel)⟩) rfl mf_obj hK hZ hF hS hA rfl hl.1 rfl (Nat.le_of_ble_eq_true rfl) dX9_comes_67 ⟨Nat.zero_le _, Nat.zero_le _⟩ (fun f9 H locs h hF hS => ?_)
          obtain ⟨n_29, g_30, rfl, h⟩ := h
          exact J70 y4 n_29 g_30 _ _ _ h hF hS (lv_sub hl [0, 1, 2, 3, 4] rfl)
  have hl := lv_entry ([.ref mo, .int x1, .int x2, .int x3]) (n := 5) (Nat.le_of_ble_eq_true rfl)
  rw [lg_entry_eq]
  generalize (lg_sl ([.ref mo, .int x1, .int x2, .int x3]) ++ List.replicate (5 - (lg_sl ([.ref mo, .int x1, .int x2, .int x3])).length) Slot.unset).toArray = ls at hl ⊢
  have hl : lv_has ls 5 [(0, .ref mo), (1, .int x1), (2, .int x2), (3, .int x3)] := hl
  unfold wp_X9_comes at h
  refine lv_aload_n hx hb dX9_comes_0 rfl (lv_at hl 0 rfl) ?_
  refine fw_get (C := RX9) (T := TX9) (N := 34) hx hb hts hin_X9 hown hK hF mf_obj rfl 14 (by decide) (hts (.fieldLink RX9 32 "FrontCodedIndexModel" "many" "[I") (by decide +kernel)) (fun _ h9 => h9) rfl dX9_comes_1 ?_
  refine lv_iload_n hx hb dX9_comes_4 rfl (lv_at hl 1 rfl) ?_
  obtain ⟨hi_i_31, h⟩ := h
  refine fw_iald hx hb hK hF (mf_arr had 14 (by decide)) hi_i_31 dX9_comes_5 ?_
  refine lv_topi (fun v_32 e_v_32 => ?_)
  have h := h v_32 e_v_32
  refine lv_istore (lv' := [(4, .int v_32), (0, .ref mo), (1, .int x1), (2, .int x2), (3, .int x3)]) hx hb dX9_comes_6 hl (by decide) rfl (fun ls hl => ?_)
  obtain ⟨n_33, h⟩ := h
  exact L8 n_33 v_32 n g _ _ _ h hF hS (lv_sub hl [1, 2, 3, 4, 0] rfl)
theorem dX9_copy_0 : decode cX9_copy 0 = .ok (.iconst 0, 1) := by decide +kernel
theorem dX9_copy_1 : decode cX9_copy 1 = .ok (.istore_n 3, 1) := by decide +kernel
theorem dX9_copy_2 : decode cX9_copy 2 = .ok (.iload_n 3, 1) := by decide +kernel
theorem dX9_copy_3 : decode cX9_copy 3 = .ok (.iload_n 2, 1) := by decide +kernel
theorem dX9_copy_4 : decode cX9_copy 4 = .ok (.if_icmp .ge 15, 3) := by decide +kernel
theorem dX9_copy_7 : decode cX9_copy 7 = .ok (.aload_n 1, 1) := by decide +kernel
theorem dX9_copy_8 : decode cX9_copy 8 = .ok (.iload_n 3, 1) := by decide +kernel
theorem dX9_copy_9 : decode cX9_copy 9 = .ok (.aload_n 0, 1) := by decide +kernel
theorem dX9_copy_10 : decode cX9_copy 10 = .ok (.iload_n 3, 1) := by decide +kernel
theorem dX9_copy_11 : decode cX9_copy 11 = .ok (.iaload, 1) := by decide +kernel
theorem dX9_copy_12 : decode cX9_copy 12 = .ok (.iastore, 1) := by decide +kernel
theorem dX9_copy_13 : decode cX9_copy 13 = .ok (.iinc 3 1, 3) := by decide +kernel
theorem dX9_copy_16 : decode cX9_copy 16 = .ok (.goto (-14), 3) := by decide +kernel
theorem dX9_copy_19 : decode cX9_copy 19 = .ok (.return_, 1) := by decide +kernel
def wp_X9_copy_2 (k0 : Nat) (k1 : Nat) (x2 : Int32) (K : (Nat → Int32) → (Nat → Nat → Int32) → Prop)  (C2 : Int32 × (Nat → Int32) × (Nat → Nat → Int32) → Prop) : Int32 × (Nat → Int32) × (Nat → Nat → Int32) → Prop := fun s9 => match s9 with
  | (y3, n, g) => ((x2 ≤ y3 → K n g) ∧
 (¬ (x2 ≤ y3) → k0 ∈ mAI ∧ vp_in y3 (mlen k0) ∧ ∀ v_3 : Int32, v_3 = g k0 (y3).toNatClampNeg → k1 ∈ mAI ∧ vp_in y3 (mlen k1) ∧ ∀ g_5 : Nat → Nat → Int32, g_5 = mup g k1 (y3).toNatClampNeg v_3 → ∀ v_6 : Int32, v_6 = y3 + 1 → C2 (v_6, n, g_5)))
def wp_X9_copy (k0 : Nat) (k1 : Nat) (x2 : Int32) (n : Nat → Int32) (g : Nat → Nat → Int32) (K : (Nat → Int32) → (Nat → Nat → Int32) → Prop) : Prop :=
  ∃ n_8, loopW (wp_X9_copy_2 k0 k1 x2 K) n_8 ((0 : Int32), n, g)
set_option maxHeartbeats 4000000 in
set_option maxRecDepth 100000 in
theorem cc_X9_copy (l : Launch) (G : GG) {mo : Nat} {ad : Nat → Nat} (had : MAd mo ad) {n : Nat → Int32} {g : Nat → Nat → Int32} {sz : Nat} {k0 : Nat} {k1 : Nat} {x2 : Int32} {K : (Nat → Int32) → (Nat → Nat → Int32) → Prop} (h : wp_X9_copy k0 k1 x2 n g K) : Met l yX9_copy wsX9_copy ({ frames := 0, cells := 0, slots := 0, locals := 0 } : Room) (FP G [.ref (ad k0), .ref (ad k1), .int x2] (mf mo ad n g) sz) (va_Qv (fun f9 => ∃ n9 g9, f9 = mf mo ad n9 g9 ∧ K n9 g9 : FT → Prop) (FB G (fA (mf mo ad n g) sz)) (fA (mf mo ad n g) sz)) 0 0 (fA (mf mo ad n g) sz) := by
  refine Met.ofW (cc := cX9_copy) (maxL := 4) (ret := none) (by decide) rfl ?_
  intro p e s m args below meth c s₁ B hml hv
  obtain ⟨rfl, hsz, hF, hK, hZ⟩ := hv
  have hx := B.exec
  have hb := B.bytes
  have hr := B.returns
  have hts := atoms_spec (ws := wsX9_copy) B.pre
  have hown : s.vm.findClass RX9 = some m.cls := findClass_of_methodNamed B.named
  have hlocks := B.notSynchronized
  subst hsz
  have hF := hF.self (sz := s.heap.size)
  generalize hAe : fA (mf mo ad n g) s.heap.size = A at hF hZ ⊢
  have hA : ∀ q : Nat, s.heap.size ≤ q → A q := fun q h => by rw [← hAe]; exact Or.inr h
  have hS : va_S A s.heap s.heap [] := va_S.rf
  have L2 : ∀  (j9 : Nat) (y3 : Int32) (n : Nat → Int32) (g : Nat → Nat → Int32) (H : Heap) (locs : List Loc) (ls : Array Slot), loopW (wp_X9_copy_2 k0 k1 x2 K ) j9 (y3, n, g) → Fw G A (mf mo ad n g) H → va_S A s.heap H locs → lv_has ls 4 [(0, .ref (ad k0)), (1, .ref (ad k1)), (2, .int x2), (3, .int y3)] → W p l e ({ frames := 0, cells := 0, slots := 0, locals := 0 } : Room) s m ([.ref (ad k0), .ref (ad k1), .int x2] : List Value).toArray below meth c H locs 0 0 (MQ below (va_Qv (fun f9 => ∃ n9 g9, f9 = mf mo ad n9 g9 ∧ K n9 g9 : FT → Prop) (FB G A) A) ([.ref (ad k0), .ref (ad k1), .int x2] : List Value).toArray s 0 0 A) (F0 m 2 ls []) := by
    intro  j9
    induction j9 with
    | zero => intro y3 n g H locs ls h; exact h.elim
    | succ j9 ih2 =>
      intro y3 n g H locs ls h hF hS hl
      have h : wp_X9_copy_2 k0 k1 x2 K  (loopW (wp_X9_copy_2 k0 k1 x2 K ) j9) (y3, n, g) := h
      generalize loopW (wp_X9_copy_2 k0 k1 x2 K ) j9 = C2 at ih2 h
      unfold wp_X9_copy_2 at h
      refine lv_iload_n hx hb dX9_copy_2 rfl (lv_at hl 3 rfl) ?_
      refine lv_iload_n hx hb dX9_copy_3 rfl (lv_at hl 2 rfl) ?_
      obtain ⟨h1, h2⟩ := h
      refine lv_icmp_ge (tgt := 19) hx hb dX9_copy_4 (by decide) (fun c_1 => ?_) (fun c_1 => ?_)
      · have h := h1 c_1
        exact W.vret hx hb hr (fun t ht hW => ⟨⟨(mf mo ad n g), rfl, ⟨_, _, rfl, h⟩, by rw [ht]; exact hF, FK.moved hW.alike hK⟩, hS.F ht⟩) hS.2.2 dX9_copy_19
      · have h := h2 c_1
        refine lv_aload_n hx hb dX9_copy_7 rfl (lv_at hl 1 rfl) ?_
        refine lv_iload_n hx hb dX9_copy_8 rfl (lv_at hl 3 rfl) ?_
        refine lv_aload_n hx hb dX9_copy_9 rfl (lv_at hl 0 rfl) ?_
        refine lv_iload_n hx hb dX9_copy_10 rfl (lv_at hl 3 rfl) ?_
        obtain ⟨hm_i_2, hi_i_2, h⟩ := h
        refine fw_iald hx hb hK hF (mf_arr had k0 hm_i_2) hi_i_2 dX9_copy_11 ?_
        refine lv_topi (fun v_3 e_v_3 => ?_)
        have h := h v_3 e_v_3
        obtain ⟨hm_i_4, hi_i_4, h⟩ := h
        refine fw_iast hx hb hK hF hS (mf_arr had k1 hm_i_4) hi_i_4 dX9_copy_12 (fun H locs hF hS => ?_)
        rw [mf_st had k1 hm_i_4] at hF
        obtain ⟨g_5, hg_g_5⟩ : ∃ z, z = mup g k1 (y3).toNatClampNeg v_3 := ⟨_, rfl⟩
        rw [← hg_g_5] at hF; have h := h g_5 hg_g_5
        obtain ⟨v_6, e_7⟩ : ∃ y : Int32, y = y3 + 1 := ⟨_, rfl⟩
        have h := h v_6 e_7
        refine lv_iinc (v := v_6) (lv' := [(3, .int v_6), (0, .ref (ad k0)), (1, .ref (ad k1)), (2, .int x2)]) hx hb dX9_copy_13 hl (k := 3) rfl (by rw [e_7]; rfl) (by decide) rfl (fun ls hl => ?_)
        refine lv_goto (tgt := 2) hx hb dX9_copy_16 (by decide) ?_
        exact ih2 v_6 n g_5 _ _ _ h hF hS (lv_sub hl [1, 2, 3, 0] rfl)
  have hl := lv_entry ([.ref (ad k0), .ref (ad k1), .int x2]) (n := 4) (Nat.le_of_ble_eq_true rfl)
  rw [lg_entry_eq]
  generalize (lg_sl ([.ref (ad k0), .ref (ad k1), .int x2]) ++ List.replicate (4 - (lg_sl ([.ref (ad k0), .ref (ad k1), .int x2])).length) Slot.unset).toArray = ls at hl ⊢
  have hl : lv_has ls 4 [(0, .ref (ad k0)), (1, .ref (ad k1)), (2, .int x2)] := hl
  unfold wp_X9_copy at h
  refine lv_iconst (v := (0 : Int32)) hx hb dX9_copy_0 (by decide) ?_
  refine lv_istore_n (lv' := [(3, .int (0 : Int32)), (0, .ref (ad k0)), (1, .ref (ad k1)), (2, .int x2)]) hx hb dX9_copy_1 rfl hl (by decide) rfl (fun ls hl => ?_)
  obtain ⟨n_8, h⟩ := h
  exact L2 n_8 (0 : Int32) n g _ _ _ h hF hS (lv_sub hl [1, 2, 3, 0] rfl)
theorem dX9_done_0 : decode cX9_done 0 = .ok (.aload_n 0, 1) := by decide +kernel
theorem dX9_done_1 : decode cX9_done 1 = .ok (.iconst 0, 1) := by decide +kernel
theorem dX9_done_2 : decode cX9_done 2 = .ok (.putfield 77, 3) := by decide +kernel
theorem dX9_done_5 : decode cX9_done 5 = .ok (.iload_n 1, 1) := by decide +kernel
theorem dX9_done_6 : decode cX9_done 6 = .ok (.ireturn, 1) := by decide +kernel
def wp_X9_done (x1 : Int32) (n : Nat → Int32) (g : Nat → Nat → Int32) (K : Int32 → (Nat → Int32) → (Nat → Nat → Int32) → Prop) : Prop :=
  ∀ n_1 : Nat → Int32, n_1 = upd n 0 (0 : Int32) → K x1 n_1 g
set_option maxHeartbeats 4000000 in
set_option maxRecDepth 100000 in
theorem cc_X9_done (l : Launch) (G : GG) {mo : Nat} {ad : Nat → Nat} (had : MAd mo ad) {n : Nat → Int32} {g : Nat → Nat → Int32} {sz : Nat} {x1 : Int32} {K : Int32 → (Nat → Int32) → (Nat → Nat → Int32) → Prop} (h : wp_X9_done x1 n g K) : Met l yX9_done wsX9_done ({ frames := 0, cells := 0, slots := 0, locals := 0 } : Room) (FP G [.ref mo, .int x1] (mf mo ad n g) sz) (va_Qi (fun r f9 => ∃ n9 g9, f9 = mf mo ad n9 g9 ∧ K r n9 g9 : Int32 → FT → Prop) (FB G (fA (mf mo ad n g) sz)) (fA (mf mo ad n g) sz)) 0 0 (fA (mf mo ad n g) sz) := by
  refine Met.ofW (cc := cX9_done) (maxL := 2) (ret := (some .int)) (by decide) rfl ?_
  intro p e s m args below meth c s₁ B hml hv
  obtain ⟨rfl, hsz, hF, hK, hZ⟩ := hv
  have hx := B.exec
  have hb := B.bytes
  have hr := B.returns
  have hts := atoms_spec (ws := wsX9_done) B.pre
  have hown : s.vm.findClass RX9 = some m.cls := findClass_of_methodNamed B.named
  have hlocks := B.notSynchronized
  subst hsz
  have hF := hF.self (sz := s.heap.size)
  generalize hAe : fA (mf mo ad n g) s.heap.size = A at hF hZ ⊢
  have hA : ∀ q : Nat, s.heap.size ≤ q → A q := fun q h => by rw [← hAe]; exact Or.inr h
  have hS : va_S A s.heap s.heap [] := va_S.rf
  have hin_X9 : ∀ w ∈ wsX90, w ∈ wsX9_done := by decide +kernel
  have hl := lv_entry ([.ref mo, .int x1]) (n := 2) (Nat.le_of_ble_eq_true rfl)
  rw [lg_entry_eq]
  generalize (lg_sl ([.ref mo, .int x1]) ++ List.replicate (2 - (lg_sl ([.ref mo, .int x1])).length) Slot.unset).toArray = ls at hl ⊢
  have hl : lv_has ls 2 [(0, .ref mo), (1, .int x1)] := hl
  unfold wp_X9_done at h
  refine lv_aload_n hx hb dX9_done_0 rfl (lv_at hl 0 rfl) ?_
  refine lv_iconst (v := (0 : Int32)) hx hb dX9_done_1 (by decide) ?_
  refine fw_put (v := .int (0 : Int32)) (ty := .int) (C := RX9) (T := TX9) (N := 34) hx hb hts hin_X9 tyX9 tyX9_ok nmX9 hown hK hF hS mf_obj rfl 0 (by decide) (hts (.fieldLink RX9 77 "FrontCodedIndexModel" "thrown" "I") (by decide +kernel)) (fun _ h9 => h9) rfl (by decide +kernel) rfl rfl (show 0 < 34 by decide) dX9_done_2 (fun H locs hF hS => ?_)
  rw [mf_put 0 (0 : Int32) rfl] at hF
  obtain ⟨n_1, hn_n_1⟩ : ∃ z, z = upd n 0 (0 : Int32) := ⟨_, rfl⟩
  rw [← hn_n_1] at hF; have h := h n_1 hn_n_1
  refine lv_iload_n hx hb dX9_done_5 rfl (lv_at hl 1 rfl) ?_
  exact W.iret (v := x1) hx hb hr (fun t ht hW => ⟨⟨x1, (mf mo ad n_1 g), rfl, ⟨_, _, rfl, h⟩, by rw [ht]; exact hF, FK.moved hW.alike hK⟩, hS.F ht⟩) hS.2.2 dX9_done_6
theorem dX9_countPrefix_0 : decode cX9_countPrefix 0 = .ok (.iconst 0, 1) := by decide +kernel
theorem dX9_countPrefix_1 : decode cX9_countPrefix 1 = .ok (.istore_n 1, 1) := by decide +kernel
theorem dX9_countPrefix_2 : decode cX9_countPrefix 2 = .ok (.iconst 0, 1) := by decide +kernel
theorem dX9_countPrefix_3 : decode cX9_countPrefix 3 = .ok (.istore_n 2, 1) := by decide +kernel
theorem dX9_countPrefix_4 : decode cX9_countPrefix 4 = .ok (.iload_n 2, 1) := by decide +kernel
theorem dX9_countPrefix_5 : decode cX9_countPrefix 5 = .ok (.aload_n 0, 1) := by decide +kernel
theorem dX9_countPrefix_6 : decode cX9_countPrefix 6 = .ok (.getfield 106, 3) := by decide +kernel
theorem dX9_countPrefix_9 : decode cX9_countPrefix 9 = .ok (.if_icmp .ge 50, 3) := by decide +kernel
theorem dX9_countPrefix_12 : decode cX9_countPrefix 12 = .ok (.iload_n 1, 1) := by decide +kernel
theorem dX9_countPrefix_13 : decode cX9_countPrefix 13 = .ok (.aload_n 0, 1) := by decide +kernel
theorem dX9_countPrefix_14 : decode cX9_countPrefix 14 = .ok (.getfield 23, 3) := by decide +kernel
theorem dX9_countPrefix_17 : decode cX9_countPrefix 17 = .ok (.bipush 12, 2) := by decide +kernel
theorem dX9_countPrefix_19 : decode cX9_countPrefix 19 = .ok (.iload_n 2, 1) := by decide +kernel
theorem dX9_countPrefix_20 : decode cX9_countPrefix 20 = .ok (.imul, 1) := by decide +kernel
theorem dX9_countPrefix_21 : decode cX9_countPrefix 21 = .ok (.aload_n 0, 1) := by decide +kernel
theorem dX9_countPrefix_22 : decode cX9_countPrefix 22 = .ok (.getfield 20, 3) := by decide +kernel
theorem dX9_countPrefix_25 : decode cX9_countPrefix 25 = .ok (.iload_n 2, 1) := by decide +kernel
theorem dX9_countPrefix_26 : decode cX9_countPrefix 26 = .ok (.iaload, 1) := by decide +kernel
theorem dX9_countPrefix_27 : decode cX9_countPrefix 27 = .ok (.aload_n 0, 1) := by decide +kernel
theorem dX9_countPrefix_28 : decode cX9_countPrefix 28 = .ok (.getfield 7, 3) := by decide +kernel
theorem dX9_countPrefix_31 : decode cX9_countPrefix 31 = .ok (.iconst 0, 1) := by decide +kernel
theorem dX9_countPrefix_32 : decode cX9_countPrefix 32 = .ok (.aload_n 0, 1) := by decide +kernel
theorem dX9_countPrefix_33 : decode cX9_countPrefix 33 = .ok (.getfield 88, 3) := by decide +kernel
theorem dX9_countPrefix_36 : decode cX9_countPrefix 36 = .ok (.invokestatic 99, 3) := by decide +kernel
theorem dX9_countPrefix_39 : decode cX9_countPrefix 39 = .ok (.aload_n 0, 1) := by decide +kernel
theorem dX9_countPrefix_40 : decode cX9_countPrefix 40 = .ok (.getfield 88, 3) := by decide +kernel
theorem dX9_countPrefix_43 : decode cX9_countPrefix 43 = .ok (.if_icmp .ne 7, 3) := by decide +kernel
theorem dX9_countPrefix_46 : decode cX9_countPrefix 46 = .ok (.iconst 1, 1) := by decide +kernel
theorem dX9_countPrefix_47 : decode cX9_countPrefix 47 = .ok (.goto 4, 3) := by decide +kernel
theorem dX9_countPrefix_50 : decode cX9_countPrefix 50 = .ok (.iconst 0, 1) := by decide +kernel
theorem dX9_countPrefix_51 : decode cX9_countPrefix 51 = .ok (.iadd, 1) := by decide +kernel
theorem dX9_countPrefix_52 : decode cX9_countPrefix 52 = .ok (.istore_n 1, 1) := by decide +kernel
theorem dX9_countPrefix_53 : decode cX9_countPrefix 53 = .ok (.iinc 2 1, 3) := by decide +kernel
theorem dX9_countPrefix_56 : decode cX9_countPrefix 56 = .ok (.goto (-52), 3) := by decide +kernel
theorem dX9_countPrefix_59 : decode cX9_countPrefix 59 = .ok (.aload_n 0, 1) := by decide +kernel
theorem dX9_countPrefix_60 : decode cX9_countPrefix 60 = .ok (.iload_n 1, 1) := by decide +kernel
theorem dX9_countPrefix_61 : decode cX9_countPrefix 61 = .ok (.invokevirtual 91, 3) := by decide +kernel
theorem dX9_countPrefix_64 : decode cX9_countPrefix 64 = .ok (.ireturn, 1) := by decide +kernel
set_option maxRecDepth 20000 in
theorem ggX9_countPrefix_X9_done : GoodIn wsX9_countPrefix wsX9_done := goodIn_r _ [13, 14, 15, 16, 17, 18, 19, 20, 21, 22, 23, 24, 25, 26, 27, 28, 29, 30, 31, 32, 33, 34, 35, 36, 37, 38, 39, 40, 41, 42, 43, 44, 45, 46, 47, 48] (by decide +kernel) (by decide +kernel)
set_option maxRecDepth 20000 in
theorem ggX9_countPrefix_X9_shared : GoodIn wsX9_countPrefix wsX9_shared := goodIn_r _ [9] (by decide +kernel) (by decide +kernel)
def wp_X9_countPrefix_51  (y2 : Int32) (z0 : Int32) (z1 : Int32) (n : Nat → Int32) (g : Nat → Nat → Int32) (K : Int32 → (Nat → Int32) → (Nat → Nat → Int32) → Prop) (C4 : Int32 × Int32 × (Nat → Int32) × (Nat → Nat → Int32) → Prop) : Prop :=
  ∀ v_1 : Int32, v_1 = (z1 + z0) → ∀ v_3 : Int32, v_3 = y2 + 1 → C4 (v_1, v_3, n, g)
def wp_X9_countPrefix_4  (K : Int32 → (Nat → Int32) → (Nat → Nat → Int32) → Prop)  (C4 : Int32 × Int32 × (Nat → Int32) × (Nat → Nat → Int32) → Prop) : Int32 × Int32 × (Nat → Int32) × (Nat → Nat → Int32) → Prop := fun s9 => match s9 with
  | (y1, y2, n, g) => (((n 9) ≤ y2 → wp_X9_done y1 n g (fun r_6 n_8 g_9 => K r_6 n_8 g_9)) ∧
 (¬ ((n 9) ≤ y2) → vp_in y2 (mlen 10) ∧ ∀ v_11 : Int32, v_11 = g 10 (y2).toNatClampNeg → wp_X9_shared 11 ((12 : Int32) * y2) v_11 2 (0 : Int32) (n 1) n g (fun r_12 => ((¬ r_12 = (n 1) → wp_X9_countPrefix_51 y2 (0 : Int32) y1 n g K C4) ∧
 (r_12 = (n 1) → wp_X9_countPrefix_51 y2 (1 : Int32) y1 n g K C4)))))
def wp_X9_countPrefix  (n : Nat → Int32) (g : Nat → Nat → Int32) (K : Int32 → (Nat → Int32) → (Nat → Nat → Int32) → Prop) : Prop :=
  ∃ n_14, loopW (wp_X9_countPrefix_4 K) n_14 ((0 : Int32), (0 : Int32), n, g)
set_option maxHeartbeats 4000000 in
set_option maxRecDepth 100000 in
theorem cc_X9_countPrefix (l : Launch) (G : GG) {mo : Nat} {ad : Nat → Nat} (had : MAd mo ad) {n : Nat → Int32} {g : Nat → Nat → Int32} {sz : Nat}  {K : Int32 → (Nat → Int32) → (Nat → Nat → Int32) → Prop} (h : wp_X9_countPrefix  n g K) : Met l yX9_countPrefix wsX9_countPrefix ({ frames := 1, cells := 0, slots := 0, locals := 26 } : Room) (FP G [.ref mo] (mf mo ad n g) sz) (va_Qi (fun r f9 => ∃ n9 g9, f9 = mf mo ad n9 g9 ∧ K r n9 g9 : Int32 → FT → Prop) (FB G (fA (mf mo ad n g) sz)) (fA (mf mo ad n g) sz)) 0 0 (fA (mf mo ad n g) sz) := by
  refine Met.ofW (cc := cX9_countPrefix) (maxL := 3) (ret := (some .int)) (by decide) rfl ?_
  intro p e s m args below meth c s₁ B hml hv
  obtain ⟨rfl, hsz, hF, hK, hZ⟩ := hv
  have hx := B.exec
  have hb := B.bytes
  have hr := B.returns
  have hts := atoms_spec (ws := wsX9_countPrefix) B.pre
  have hown : s.vm.findClass RX9 = some m.cls := findClass_of_methodNamed B.named
  have hlocks := B.notSynchronized
  subst hsz
  have hF := hF.self (sz := s.heap.size)
  generalize hAe : fA (mf mo ad n g) s.heap.size = A at hF hZ ⊢
  have hA : ∀ q : Nat, s.heap.size ≤ q → A q := fun q h => by rw [← hAe]; exact Or.inr h
  have hS : va_S A s.heap s.heap [] := va_S.rf
  have hin_X9 : ∀ w ∈ wsX90, w ∈ wsX9_countPrefix := by decide +kernel
  have L4 : ∀  (j9 : Nat) (y1 : Int32) (y2 : Int32) (n : Nat → Int32) (g : Nat → Nat → Int32) (H : Heap) (locs : List Loc) (ls : Array Slot), loopW (wp_X9_countPrefix_4  K ) j9 (y1, y2, n, g) → Fw G A (mf mo ad n g) H → va_S A s.heap H locs → lv_has ls 3 [(0, .ref mo), (1, .int y1), (2, .int y2)] → W p l e ({ frames := 1, cells := 0, slots := 0, locals := 26 } : Room) s m ([.ref mo] : List Value).toArray below meth c H locs 0 0 (MQ below (va_Qi (fun r f9 => ∃ n9 g9, f9 = mf mo ad n9 g9 ∧ K r n9 g9 : Int32 → FT → Prop) (FB G A) A) ([.ref mo] : List Value).toArray s 0 0 A) (F0 m 4 ls []) := by
    intro  j9
    induction j9 with
    | zero => intro y1 y2 n g H locs ls h; exact h.elim
    | succ j9 ih4 =>
      intro y1 y2 n g H locs ls h hF hS hl
      have h : wp_X9_countPrefix_4  K  (loopW (wp_X9_countPrefix_4  K ) j9) (y1, y2, n, g) := h
      generalize loopW (wp_X9_countPrefix_4  K ) j9 = C4 at ih4 h
      unfold wp_X9_countPrefix_4 at h
      have J51 : ∀ (y2 : Int32) (z0 : Int32) (z1 : Int32) (n : Nat → Int32) (g : Nat → Nat → Int32) (H : Heap) (locs : List Loc) (ls : Array Slot), wp_X9_countPrefix_51 y2 z0 z1 n g K C4 → Fw G A (mf mo ad n g) H → va_S A s.heap H locs → lv_has ls 3 [(0, .ref mo), (2, .int y2)] → W p l e ({ frames := 1, cells := 0, slots := 0, locals := 26 } : Room) s m ([.ref mo] : List Value).toArray below meth c H locs 0 0 (MQ below (va_Qi (fun r f9 => ∃ n9 g9, f9 = mf mo ad n9 g9 ∧ K r n9 g9 : Int32 → FT → Prop) (FB G A) A) ([.ref mo] : List Value).toArray s 0 0 A) (F0 m 51 ls [.int z0, .int z1]) := by
        intro y2 z0 z1 n g H locs ls h hF hS hl
        unfold wp_X9_countPrefix_51 at h
        refine lv_iadd hx hb dX9_countPrefix_51 ?_
        refine lv_topi (fun v_1 e_2 => ?_)
        have h := h v_1 e_2
        refine lv_istore_n (lv' := [(1, .int v_1), (0, .ref mo), (2, .int y2)]) hx hb dX9_countPrefix_52 rfl hl (by decide) rfl (fun ls hl => ?_)
        obtain ⟨v_3, e_4⟩ : ∃ y : Int32, y = y2 + 1 := ⟨_, rfl⟩
        have h := h v_3 e_4
        refine lv_iinc (v := v_3) (lv' := [(2, .int v_3), (1, .int v_1), (0, .ref mo)]) hx hb dX9_countPrefix_53 hl (k := 2) rfl (by rw [e_4]; rfl) (by decide) rfl (fun ls hl => ?_)
        refine lv_goto (tgt := 4) hx hb dX9_countPrefix_56 (by decide) ?_
        exact ih4 v_1 v_3 n g _ _ _ h hF hS (lv_sub hl [2, 1, 0] rfl)
      refine lv_iload_n hx hb dX9_countPrefix_4 rfl (lv_at hl 2 rfl) ?_
      refine lv_aload_n hx hb dX9_countPrefix_5 rfl (lv_at hl 0 rfl) ?_
      refine fw_get (C := RX9) (T := TX9) (N := 34) hx hb hts hin_X9 hown hK hF mf_obj rfl 9 (by decide) (hts (.fieldLink RX9 106 "FrontCodedIndexModel" "entries" "I") (by decide +kernel)) (fun _ h9 => h9) rfl dX9_countPrefix_6 ?_
      obtain ⟨h1, h2⟩ := h
      refine lv_icmp_ge (tgt := 59) hx hb dX9_countPrefix_9 (by decide) (fun c_5 => ?_) (fun c_5 => ?_)
      · have h := h1 c_5
        refine lv_aload_n hx hb dX9_countPrefix_59 rfl (lv_at hl 0 rfl) ?_
        refine lv_iload_n hx hb dX9_countPrefix_60 rfl (lv_at hl 1 rfl) ?_
        refine fw_cV_i (As := [.int y1]) (rest := []) ⟨hx, hb, hml, hown, hts⟩ (cc_X9_done l G had h) (⟨callB_of 1 hts ggX9_countPrefix_X9_done rfl rfl rfl (hts (.initialized RX9) (by decide +kernel)) (hts (.methodLink RX9 91 yX9_done) (by decide +kernel)) (by decide +kernel) ⟨Nat.le_of_ble_eq_true rfl, Nat.le_of_ble_eq_true rfl⟩, hts (.instanceMethod yX9_done) (by decide +kernel), hts (.selects RX9 yX9_done yX9_done) (by decide +kernel)⟩) rfl mf_obj hK hZ hF hS hA rfl hl.1 rfl (Nat.le_of_ble_eq_true rfl) dX9_countPrefix_61 ⟨Nat.zero_le _, Nat.zero_le _⟩ (fun r_6 f9 H locs h hF hS => ?_)
        obtain ⟨n_8, g_9, rfl, h⟩ := h
        exact W.iret (v := r_6) hx hb hr (fun t ht hW => ⟨⟨r_6, (mf mo ad n_8 g_9), rfl, ⟨_, _, rfl, h⟩, by rw [ht]; exact hF, FK.moved hW.alike hK⟩, hS.F ht⟩) hS.2.2 dX9_countPrefix_64
      · have h := h2 c_5
        refine lv_iload_n hx hb dX9_countPrefix_12 rfl (lv_at hl 1 rfl) ?_
        refine lv_aload_n hx hb dX9_countPrefix_13 rfl (lv_at hl 0 rfl) ?_
        refine fw_get (C := RX9) (T := TX9) (N := 34) hx hb hts hin_X9 hown hK hF mf_obj rfl 11 (by decide) (hts (.fieldLink RX9 23 "FrontCodedIndexModel" "bytes" "[I") (by decide +kernel)) (fun _ h9 => h9) rfl dX9_countPrefix_14 ?_
        refine lv_bipush (v := (12 : Int32)) hx hb dX9_countPrefix_17 (by decide) ?_
        refine lv_iload_n hx hb dX9_countPrefix_19 rfl (lv_at hl 2 rfl) ?_
        refine lv_imul hx hb dX9_countPrefix_20 ?_
        refine lv_aload_n hx hb dX9_countPrefix_21 rfl (lv_at hl 0 rfl) ?_
        refine fw_get (C := RX9) (T := TX9) (N := 34) hx hb hts hin_X9 hown hK hF mf_obj rfl 10 (by decide) (hts (.fieldLink RX9 20 "FrontCodedIndexModel" "sizeOf" "[I") (by decide +kernel)) (fun _ h9 => h9) rfl dX9_countPrefix_22 ?_
        refine lv_iload_n hx hb dX9_countPrefix_25 rfl (lv_at hl 2 rfl) ?_
        obtain ⟨hi_i_10, h⟩ := h
        refine fw_iald hx hb hK hF (mf_arr had 10 (by decide)) hi_i_10 dX9_countPrefix_26 ?_
        refine lv_topi (fun v_11 e_v_11 => ?_)
        have h := h v_11 e_v_11
        refine lv_aload_n hx hb dX9_countPrefix_27 rfl (lv_at hl 0 rfl) ?_
        refine fw_get (C := RX9) (T := TX9) (N := 34) hx hb hts hin_X9 hown hK hF mf_obj rfl 2 (by decide) (hts (.fieldLink RX9 7 "FrontCodedIndexModel" "key" "[I") (by decide +kernel)) (fun _ h9 => h9) rfl dX9_countPrefix_28 ?_
        refine lv_iconst (v := (0 : Int32)) hx hb dX9_countPrefix_31 (by decide) ?_
        refine lv_aload_n hx hb dX9_countPrefix_32 rfl (lv_at hl 0 rfl) ?_
        refine fw_get (C := RX9) (T := TX9) (N := 34) hx hb hts hin_X9 hown hK hF mf_obj rfl 1 (by decide) (hts (.fieldLink RX9 88 "FrontCodedIndexModel" "keySize" "I") (by decide +kernel)) (fun _ h9 => h9) rfl dX9_countPrefix_33 ?_
        refine fw_cS_i_p (As := [.ref (ad 11), .int ((12 : Int32) * y2), .int v_11, .ref (ad 2), .int (0 : Int32), .int (n 1)]) (rest := [.int y1]) ⟨hx, hb, hml, hown, hts⟩ (cc_X9_shared l G had h) (⟨callB_of 6 hts ggX9_countPrefix_X9_shared rfl rfl rfl (hts (.initialized RX9) (by decide +kernel)) (hts (.methodLink RX9 99 yX9_shared) (by decide +kernel)) (by decide +kernel) ⟨Nat.le_of_ble_eq_true rfl, Nat.le_of_ble_eq_true rfl⟩, hts (.static yX9_shared) (by decide +kernel)⟩) hK hZ hF hS hA rfl hl.1 rfl (Nat.le_of_ble_eq_true rfl) dX9_countPrefix_36 ⟨Nat.zero_le _, Nat.zero_le _⟩ (fun r_12 H locs h hF hS => ?_)
        refine lv_aload_n hx hb dX9_countPrefix_39 rfl (lv_at hl 0 rfl) ?_
        refine fw_get (C := RX9) (T := TX9) (N := 34) hx hb hts hin_X9 hown hK hF mf_obj rfl 1 (by decide) (hts (.fieldLink RX9 88 "FrontCodedIndexModel" "keySize" "I") (by decide +kernel)) (fun _ h9 => h9) rfl dX9_countPrefix_40 ?_
        obtain ⟨h1, h2⟩ := h
        refine lv_icmp_ne (tgt := 50) hx hb dX9_countPrefix_43 (by decide) (fun c_13 => ?_) (fun c_13 => ?_)
        · have h := h1 c_13
          refine lv_iconst (v := (0 : Int32)) hx hb dX9_countPrefix_50 (by decide) ?_
          exact J51 y2 (0 : Int32) y1 n g _ _ _ h hF hS (lv_sub hl [0, 2] rfl)
        · have h := h2 c_13
          refine lv_iconst (v := (1 : Int32)) hx hb dX9_countPrefix_46 (by decide) ?_
          refine lv_goto (tgt := 51) hx hb dX9_countPrefix_47 (by decide) ?_
          exact J51 y2 (1 : Int32) y1 n g _ _ _ h hF hS (lv_sub hl [0, 2] rfl)
  have hl := lv_entry ([.ref mo]) (n := 3) (Nat.le_of_ble_eq_true rfl)
  rw [lg_entry_eq]
  generalize (lg_sl ([.ref mo]) ++ List.replicate (3 - (lg_sl ([.ref mo])).length) Slot.unset).toArray = ls at hl ⊢
  have hl : lv_has ls 3 [(0, .ref mo)] := hl
  unfold wp_X9_countPrefix at h
  refine lv_iconst (v := (0 : Int32)) hx hb dX9_countPrefix_0 (by decide) ?_
  refine lv_istore_n (lv' := [(1, .int (0 : Int32)), (0, .ref mo)]) hx hb dX9_countPrefix_1 rfl hl (by decide) rfl (fun ls hl => ?_)
  refine lv_iconst (v := (0 : Int32)) hx hb dX9_countPrefix_2 (by decide) ?_
  refine lv_istore_n (lv' := [(2, .int (0 : Int32)), (1, .int (0 : Int32)), (0, .ref mo)]) hx hb dX9_countPrefix_3 rfl hl (by decide) rfl (fun ls hl => ?_)
  obtain ⟨n_14, h⟩ := h
  exact L4 n_14 (0 : Int32) (0 : Int32) n g _ _ _ h hF hS (lv_sub hl [2, 1, 0] rfl)
theorem dX9_fails_0 : decode cX9_fails 0 = .ok (.aload_n 0, 1) := by decide +kernel
theorem dX9_fails_1 : decode cX9_fails 1 = .ok (.iload_n 1, 1) := by decide +kernel
theorem dX9_fails_2 : decode cX9_fails 2 = .ok (.putfield 77, 3) := by decide +kernel
theorem dX9_fails_5 : decode cX9_fails 5 = .ok (.iconst 0, 1) := by decide +kernel
theorem dX9_fails_6 : decode cX9_fails 6 = .ok (.ireturn, 1) := by decide +kernel
def wp_X9_fails (x1 : Int32) (n : Nat → Int32) (g : Nat → Nat → Int32) (K : Int32 → (Nat → Int32) → (Nat → Nat → Int32) → Prop) : Prop :=
  ∀ n_1 : Nat → Int32, n_1 = upd n 0 x1 → K (0 : Int32) n_1 g
set_option maxHeartbeats 4000000 in
set_option maxRecDepth 100000 in
theorem cc_X9_fails (l : Launch) (G : GG) {mo : Nat} {ad : Nat → Nat} (had : MAd mo ad) {n : Nat → Int32} {g : Nat → Nat → Int32} {sz : Nat} {x1 : Int32} {K : Int32 → (Nat → Int32) → (Nat → Nat → Int32) → Prop} (h : wp_X9_fails x1 n g K) : Met l yX9_fails wsX9_fails ({ frames := 0, cells := 0, slots := 0, locals := 0 } : Room) (FP G [.ref mo, .int x1] (mf mo ad n g) sz) (va_Qi (fun r f9 => ∃ n9 g9, f9 = mf mo ad n9 g9 ∧ K r n9 g9 : Int32 → FT → Prop) (FB G (fA (mf mo ad n g) sz)) (fA (mf mo ad n g) sz)) 0 0 (fA (mf mo ad n g) sz) := by
  refine Met.ofW (cc := cX9_fails) (maxL := 2) (ret := (some .int)) (by decide) rfl ?_
  intro p e s m args below meth c s₁ B hml hv
  obtain ⟨rfl, hsz, hF, hK, hZ⟩ := hv
  have hx := B.exec
  have hb := B.bytes
  have hr := B.returns
  have hts := atoms_spec (ws := wsX9_fails) B.pre
  have hown : s.vm.findClass RX9 = some m.cls := findClass_of_methodNamed B.named
  have hlocks := B.notSynchronized
  subst hsz
  have hF := hF.self (sz := s.heap.size)
  generalize hAe : fA (mf mo ad n g) s.heap.size = A at hF hZ ⊢
  have hA : ∀ q : Nat, s.heap.size ≤ q → A q := fun q h => by rw [← hAe]; exact Or.inr h
  have hS : va_S A s.heap s.heap [] := va_S.rf
  have hin_X9 : ∀ w ∈ wsX90, w ∈ wsX9_fails := by decide +kernel
  have hl := lv_entry ([.ref mo, .int x1]) (n := 2) (Nat.le_of_ble_eq_true rfl)
  rw [lg_entry_eq]
  generalize (lg_sl ([.ref mo, .int x1]) ++ List.replicate (2 - (lg_sl ([.ref mo, .int x1])).length) Slot.unset).toArray = ls at hl ⊢
  have hl : lv_has ls 2 [(0, .ref mo), (1, .int x1)] := hl
  unfold wp_X9_fails at h
  refine lv_aload_n hx hb dX9_fails_0 rfl (lv_at hl 0 rfl) ?_
  refine lv_iload_n hx hb dX9_fails_1 rfl (lv_at hl 1 rfl) ?_
  refine fw_put (v := .int x1) (ty := .int) (C := RX9) (T := TX9) (N := 34) hx hb hts hin_X9 tyX9 tyX9_ok nmX9 hown hK hF hS mf_obj rfl 0 (by decide) (hts (.fieldLink RX9 77 "FrontCodedIndexModel" "thrown" "I") (by decide +kernel)) (fun _ h9 => h9) rfl (by decide +kernel) rfl rfl (show 0 < 34 by decide) dX9_fails_2 (fun H locs hF hS => ?_)
  rw [mf_put 0 x1 rfl] at hF
  obtain ⟨n_1, hn_n_1⟩ : ∃ z, z = upd n 0 x1 := ⟨_, rfl⟩
  rw [← hn_n_1] at hF; have h := h n_1 hn_n_1
  refine lv_iconst (v := (0 : Int32)) hx hb dX9_fails_5 (by decide) ?_
  exact W.iret (v := (0 : Int32)) hx hb hr (fun t ht hW => ⟨⟨(0 : Int32), (mf mo ad n_1 g), rfl, ⟨_, _, rfl, h⟩, by rw [ht]; exact hF, FK.moved hW.alike hK⟩, hS.F ht⟩) hS.2.2 dX9_fails_6
theorem dX9_keyIs_0 : decode cX9_keyIs 0 = .ok (.aload_n 0, 1) := by decide +kernel
theorem dX9_keyIs_1 : decode cX9_keyIs 1 = .ok (.aload_n 0, 1) := by decide +kernel
theorem dX9_keyIs_2 : decode cX9_keyIs 2 = .ok (.getfield 20, 3) := by decide +kernel
theorem dX9_keyIs_5 : decode cX9_keyIs 5 = .ok (.iload_n 1, 1) := by decide +kernel
theorem dX9_keyIs_6 : decode cX9_keyIs 6 = .ok (.iaload, 1) := by decide +kernel
theorem dX9_keyIs_7 : decode cX9_keyIs 7 = .ok (.putfield 88, 3) := by decide +kernel
theorem dX9_keyIs_10 : decode cX9_keyIs 10 = .ok (.iconst 0, 1) := by decide +kernel
theorem dX9_keyIs_11 : decode cX9_keyIs 11 = .ok (.istore_n 2, 1) := by decide +kernel
theorem dX9_keyIs_12 : decode cX9_keyIs 12 = .ok (.iload_n 2, 1) := by decide +kernel
theorem dX9_keyIs_13 : decode cX9_keyIs 13 = .ok (.aload_n 0, 1) := by decide +kernel
theorem dX9_keyIs_14 : decode cX9_keyIs 14 = .ok (.getfield 88, 3) := by decide +kernel
theorem dX9_keyIs_17 : decode cX9_keyIs 17 = .ok (.if_icmp .ge 26, 3) := by decide +kernel
theorem dX9_keyIs_20 : decode cX9_keyIs 20 = .ok (.aload_n 0, 1) := by decide +kernel
theorem dX9_keyIs_21 : decode cX9_keyIs 21 = .ok (.getfield 7, 3) := by decide +kernel
theorem dX9_keyIs_24 : decode cX9_keyIs 24 = .ok (.iload_n 2, 1) := by decide +kernel
theorem dX9_keyIs_25 : decode cX9_keyIs 25 = .ok (.aload_n 0, 1) := by decide +kernel
theorem dX9_keyIs_26 : decode cX9_keyIs 26 = .ok (.getfield 23, 3) := by decide +kernel
theorem dX9_keyIs_29 : decode cX9_keyIs 29 = .ok (.bipush 12, 2) := by decide +kernel
theorem dX9_keyIs_31 : decode cX9_keyIs 31 = .ok (.iload_n 1, 1) := by decide +kernel
theorem dX9_keyIs_32 : decode cX9_keyIs 32 = .ok (.imul, 1) := by decide +kernel
theorem dX9_keyIs_33 : decode cX9_keyIs 33 = .ok (.iload_n 2, 1) := by decide +kernel
theorem dX9_keyIs_34 : decode cX9_keyIs 34 = .ok (.iadd, 1) := by decide +kernel
theorem dX9_keyIs_35 : decode cX9_keyIs 35 = .ok (.iaload, 1) := by decide +kernel
theorem dX9_keyIs_36 : decode cX9_keyIs 36 = .ok (.iastore, 1) := by decide +kernel
theorem dX9_keyIs_37 : decode cX9_keyIs 37 = .ok (.iinc 2 1, 3) := by decide +kernel
theorem dX9_keyIs_40 : decode cX9_keyIs 40 = .ok (.goto (-28), 3) := by decide +kernel
theorem dX9_keyIs_43 : decode cX9_keyIs 43 = .ok (.aload_n 0, 1) := by decide +kernel
theorem dX9_keyIs_44 : decode cX9_keyIs 44 = .ok (.aload_n 0, 1) := by decide +kernel
theorem dX9_keyIs_45 : decode cX9_keyIs 45 = .ok (.getfield 26, 3) := by decide +kernel
theorem dX9_keyIs_48 : decode cX9_keyIs 48 = .ok (.iload_n 1, 1) := by decide +kernel
theorem dX9_keyIs_49 : decode cX9_keyIs 49 = .ok (.iaload, 1) := by decide +kernel
theorem dX9_keyIs_50 : decode cX9_keyIs 50 = .ok (.invokevirtual 91, 3) := by decide +kernel
theorem dX9_keyIs_53 : decode cX9_keyIs 53 = .ok (.ireturn, 1) := by decide +kernel
set_option maxRecDepth 20000 in
theorem ggX9_keyIs_X9_done : GoodIn wsX9_keyIs wsX9_done := goodIn_r _ [10, 11, 12, 13, 14, 15, 16, 17, 18, 19, 20, 21, 22, 23, 24, 25, 26, 27, 28, 29, 30, 31, 32, 33, 34, 35, 36, 37, 38, 39, 40, 41, 42, 43, 44, 45] (by decide +kernel) (by decide +kernel)
def wp_X9_keyIs_12 (x1 : Int32) (K : Int32 → (Nat → Int32) → (Nat → Nat → Int32) → Prop)  (C12 : Int32 × (Nat → Int32) × (Nat → Nat → Int32) → Prop) : Int32 × (Nat → Int32) × (Nat → Nat → Int32) → Prop := fun s9 => match s9 with
  | (y2, n, g) => (((n 1) ≤ y2 → vp_in x1 (mlen 12) ∧ ∀ v_3 : Int32, v_3 = g 12 (x1).toNatClampNeg → wp_X9_done v_3 n g (fun r_4 n_6 g_7 => K r_4 n_6 g_7)) ∧
 (¬ ((n 1) ≤ y2) → vp_in (((12 : Int32) * x1) + y2) (mlen 11) ∧ ∀ v_9 : Int32, v_9 = g 11 ((((12 : Int32) * x1) + y2)).toNatClampNeg → vp_in y2 (mlen 2) ∧ ∀ g_11 : Nat → Nat → Int32, g_11 = mup g 2 (y2).toNatClampNeg v_9 → ∀ v_12 : Int32, v_12 = y2 + 1 → C12 (v_12, n, g_11)))
def wp_X9_keyIs (x1 : Int32) (n : Nat → Int32) (g : Nat → Nat → Int32) (K : Int32 → (Nat → Int32) → (Nat → Nat → Int32) → Prop) : Prop :=
  vp_in x1 (mlen 10) ∧ ∀ v_15 : Int32, v_15 = g 10 (x1).toNatClampNeg → ∀ n_16 : Nat → Int32, n_16 = upd n 1 v_15 → ∃ n_17, loopW (wp_X9_keyIs_12 x1 K) n_17 ((0 : Int32), n_16, g)
set_option maxHeartbeats 4000000 in
set_option maxRecDepth 100000 in
theorem cc_X9_keyIs (l : Launch) (G : GG) {mo : Nat} {ad : Nat → Nat} (had : MAd mo ad) {n : Nat → Int32} {g : Nat → Nat → Int32} {sz : Nat} {x1 : Int32} {K : Int32 → (Nat → Int32) → (Nat → Nat → Int32) → Prop} (h : wp_X9_keyIs x1 n g K) : Met l yX9_keyIs wsX9_keyIs ({ frames := 1, cells := 0, slots := 0, locals := 21 } : Room) (FP G [.ref mo, .int x1] (mf mo ad n g) sz) (va_Qi (fun r f9 => ∃ n9 g9, f9 = mf mo ad n9 g9 ∧ K r n9 g9 : Int32 → FT → Prop) (FB G (fA (mf mo ad n g) sz)) (fA (mf mo ad n g) sz)) 0 0 (fA (mf mo ad n g) sz) := by
  refine Met.ofW (cc := cX9_keyIs) (maxL := 3) (ret := (some .int)) (by decide) rfl ?_
  intro p e s m args below meth c s₁ B hml hv
  obtain ⟨rfl, hsz, hF, hK, hZ⟩ := hv
  have hx := B.exec
  have hb := B.bytes
  have hr := B.returns
  have hts := atoms_spec (ws := wsX9_keyIs) B.pre
  have hown : s.vm.findClass RX9 = some m.cls := findClass_of_methodNamed B.named
  have hlocks := B.notSynchronized
  subst hsz
  have hF := hF.self (sz := s.heap.size)
  generalize hAe : fA (mf mo ad n g) s.heap.size = A at hF hZ ⊢
  have hA : ∀ q : Nat, s.heap.size ≤ q → A q := fun q h => by rw [← hAe]; exact Or.inr h
  have hS : va_S A s.heap s.heap [] := va_S.rf
  have hin_X9 : ∀ w ∈ wsX90, w ∈ wsX9_keyIs := by decide +kernel
  have L12 : ∀  (j9 : Nat) (y2 : Int32) (n : Nat → Int32) (g : Nat → Nat → Int32) (H : Heap) (locs : List Loc) (ls : Array Slot), loopW (wp_X9_keyIs_12 x1 K ) j9 (y2, n, g) → Fw G A (mf mo ad n g) H → va_S A s.heap H locs → lv_has ls 3 [(0, .ref mo), (1, .int x1), (2, .int y2)] → W p l e ({ frames := 1, cells := 0, slots := 0, locals := 21 } : Room) s m ([.ref mo, .int x1] : List Value).toArray below meth c H locs 0 0 (MQ below (va_Qi (fun r f9 => ∃ n9 g9, f9 = mf mo ad n9 g9 ∧ K r n9 g9 : Int32 → FT → Prop) (FB G A) A) ([.ref mo, .int x1] : List Value).toArray s 0 0 A) (F0 m 12 ls []) := by
    intro  j9
    induction j9 with
    | zero => intro y2 n g H locs ls h; exact h.elim
    | succ j9 ih12 =>
      intro y2 n g H locs ls h hF hS hl
      have h : wp_X9_keyIs_12 x1 K  (loopW (wp_X9_keyIs_12 x1 K ) j9) (y2, n, g) := h
      generalize loopW (wp_X9_keyIs_12 x1 K ) j9 = C12 at ih12 h
      unfold wp_X9_keyIs_12 at h
      refine lv_iload_n hx hb dX9_keyIs_12 rfl (lv_at hl 2 rfl) ?_
      refine lv_aload_n hx hb dX9_keyIs_13 rfl (lv_at hl 0 rfl) ?_
      refine fw_get (C := RX9) (T := TX9) (N := 34) hx hb hts hin_X9 hown hK hF mf_obj rfl 1 (by decide) (hts (.fieldLink RX9 88 "FrontCodedIndexModel" "keySize" "I") (by decide +kernel)) (fun _ h9 => h9) rfl dX9_keyIs_14 ?_
      obtain ⟨h1, h2⟩ := h
      refine lv_icmp_ge (tgt := 43) hx hb dX9_keyIs_17 (by decide) (fun c_1 => ?_) (fun c_1 => ?_)
      · have h := h1 c_1
        refine lv_aload_n hx hb dX9_keyIs_43 rfl (lv_at hl 0 rfl) ?_
        refine lv_aload_n hx hb dX9_keyIs_44 rfl (lv_at hl 0 rfl) ?_
        refine fw_get (C := RX9) (T := TX9) (N := 34) hx hb hts hin_X9 hown hK hF mf_obj rfl 12 (by decide) (hts (.fieldLink RX9 26 "FrontCodedIndexModel" "values" "[I") (by decide +kernel)) (fun _ h9 => h9) rfl dX9_keyIs_45 ?_
        refine lv_iload_n hx hb dX9_keyIs_48 rfl (lv_at hl 1 rfl) ?_
        obtain ⟨hi_i_2, h⟩ := h
        refine fw_iald hx hb hK hF (mf_arr had 12 (by decide)) hi_i_2 dX9_keyIs_49 ?_
        refine lv_topi (fun v_3 e_v_3 => ?_)
        have h := h v_3 e_v_3
        refine fw_cV_i (As := [.int v_3]) (rest := []) ⟨hx, hb, hml, hown, hts⟩ (cc_X9_done l G had h) (⟨callB_of 1 hts ggX9_keyIs_X9_done rfl rfl rfl (hts (.initialized RX9) (by decide +kernel)) (hts (.methodLink RX9 91 yX9_done) (by decide +kernel)) (by decide +kernel) ⟨Nat.le_of_ble_eq_true rfl, Nat.le_of_ble_eq_true rfl⟩, hts (.instanceMethod yX9_done) (by decide +kernel), hts (.selects RX9 yX9_done yX9_done) (by decide +kernel)⟩) rfl mf_obj hK hZ hF hS hA rfl hl.1 rfl (Nat.le_of_ble_eq_true rfl) dX9_keyIs_50 ⟨Nat.zero_le _, Nat.zero_le _⟩ (fun r_4 f9 H locs h hF hS => ?_)
        obtain ⟨n_6, g_7, rfl, h⟩ := h
        exact W.iret (v := r_4) hx hb hr (fun t ht hW => ⟨⟨r_4, (mf mo ad n_6 g_7), rfl, ⟨_, _, rfl, h⟩, by rw [ht]; exact hF, FK.moved hW.alike hK⟩, hS.F ht⟩) hS.2.2 dX9_keyIs_53
      · have h := h2 c_1
        refine lv_aload_n hx hb dX9_keyIs_20 rfl (lv_at hl 0 rfl) ?_
        refine fw_get (C := RX9) (T := TX9) (N := 34) hx hb hts hin_X9 hown hK hF mf_obj rfl 2 (by decide) (hts (.fieldLink RX9 7 "FrontCodedIndexModel" "key" "[I") (by decide +kernel)) (fun _ h9 => h9) rfl dX9_keyIs_21 ?_
        refine lv_iload_n hx hb dX9_keyIs_24 rfl (lv_at hl 2 rfl) ?_
        refine lv_aload_n hx hb dX9_keyIs_25 rfl (lv_at hl 0 rfl) ?_
        refine fw_get (C := RX9) (T := TX9) (N := 34) hx hb hts hin_X9 hown hK hF mf_obj rfl 11 (by decide) (hts (.fieldLink RX9 23 "FrontCodedIndexModel" "bytes" "[I") (by decide +kernel)) (fun _ h9 => h9) rfl dX9_keyIs_26 ?_
        refine lv_bipush (v := (12 : Int32)) hx hb dX9_keyIs_29 (by decide) ?_
        refine lv_iload_n hx hb dX9_keyIs_31 rfl (lv_at hl 1 rfl) ?_
        refine lv_imul hx hb dX9_keyIs_32 ?_
        refine lv_iload_n hx hb dX9_keyIs_33 rfl (lv_at hl 2 rfl) ?_
        refine lv_iadd hx hb dX9_keyIs_34 ?_
        obtain ⟨hi_i_8, h⟩ := h
        refine fw_iald hx hb hK hF (mf_arr had 11 (by decide)) hi_i_8 dX9_keyIs_35 ?_
        refine lv_topi (fun v_9 e_v_9 => ?_)
        have h := h v_9 e_v_9
        obtain ⟨hi_i_10, h⟩ := h
        refine fw_iast hx hb hK hF hS (mf_arr had 2 (by decide)) hi_i_10 dX9_keyIs_36 (fun H locs hF hS => ?_)
        rw [mf_st had 2 (by decide)] at hF
        obtain ⟨g_11, hg_g_11⟩ : ∃ z, z = mup g 2 (y2).toNatClampNeg v_9 := ⟨_, rfl⟩
        rw [← hg_g_11] at hF; have h := h g_11 hg_g_11
        obtain ⟨v_12, e_13⟩ : ∃ y : Int32, y = y2 + 1 := ⟨_, rfl⟩
        have h := h v_12 e_13
        refine lv_iinc (v := v_12) (lv' := [(2, .int v_12), (0, .ref mo), (1, .int x1)]) hx hb dX9_keyIs_37 hl (k := 2) rfl (by rw [e_13]; rfl) (by decide) rfl (fun ls hl => ?_)
        refine lv_goto (tgt := 12) hx hb dX9_keyIs_40 (by decide) ?_
        exact ih12 v_12 n g_11 _ _ _ h hF hS (lv_sub hl [1, 2, 0] rfl)
  have hl := lv_entry ([.ref mo, .int x1]) (n := 3) (Nat.le_of_ble_eq_true rfl)
  rw [lg_entry_eq]
  generalize (lg_sl ([.ref mo, .int x1]) ++ List.replicate (3 - (lg_sl ([.ref mo, .int x1])).length) Slot.unset).toArray = ls at hl ⊢
  have hl : lv_has ls 3 [(0, .ref mo), (1, .int x1)] := hl
  unfold wp_X9_keyIs at h
  refine lv_aload_n hx hb dX9_keyIs_0 rfl (lv_at hl 0 rfl) ?_
  refine lv_aload_n hx hb dX9_keyIs_1 rfl (lv_at hl 0 rfl) ?_
  refine fw_get (C := RX9) (T := TX9) (N := 34) hx hb hts hin_X9 hown hK hF mf_obj rfl 10 (by decide) (hts (.fieldLink RX9 20 "FrontCodedIndexModel" "sizeOf" "[I") (by decide +kernel)) (fun _ h9 => h9) rfl dX9_keyIs_2 ?_
  refine lv_iload_n hx hb dX9_keyIs_5 rfl (lv_at hl 1 rfl) ?_
  obtain ⟨hi_i_14, h⟩ := h
  refine fw_iald hx hb hK hF (mf_arr had 10 (by decide)) hi_i_14 dX9_keyIs_6 ?_
  refine lv_topi (fun v_15 e_v_15 => ?_)
  have h := h v_15 e_v_15
  refine fw_put (v := .int v_15) (ty := .int) (C := RX9) (T := TX9) (N := 34) hx hb hts hin_X9 tyX9 tyX9_ok nmX9 hown hK hF hS mf_obj rfl 1 (by decide) (hts (.fieldLink RX9 88 "FrontCodedIndexModel" "keySize" "I") (by decide +kernel)) (fun _ h9 => h9) rfl (by decide +kernel) rfl rfl (show 1 < 34 by decide) dX9_keyIs_7 (fun H locs hF hS => ?_)
  rw [mf_put 1 v_15 rfl] at hF
  obtain ⟨n_16, hn_n_16⟩ : ∃ z, z = upd n 1 v_15 := ⟨_, rfl⟩
  rw [← hn_n_16] at hF; have h := h n_16 hn_n_16
  refine lv_iconst (v := (0 : Int32)) hx hb dX9_keyIs_10 (by decide) ?_
  refine lv_istore_n (lv' := [(2, .int (0 : Int32)), (0, .ref mo), (1, .int x1)]) hx hb dX9_keyIs_11 rfl hl (by decide) rfl (fun ls hl => ?_)
  obtain ⟨n_17, h⟩ := h
  exact L12 n_17 (0 : Int32) n_16 g _ _ _ h hF hS (lv_sub hl [1, 2, 0] rfl)
