theorem dX8_size_0 : decode cX8_size 0 = .ok (.aload_n 0, 1) := by decide +kernel
theorem dX8_size_1 : decode cX8_size 1 = .ok (.getfield 10, 3) := by decide +kernel
theorem dX8_size_4 : decode cX8_size 4 = .ok (.getfield 105, 3) := by decide +kernel
theorem dX8_size_7 : decode cX8_size 7 = .ok (.invokevirtual 109, 3) := by decide +kernel
theorem dX8_size_10 : decode cX8_size 10 = .ok (.ireturn, 1) := by decide +kernel
set_option maxRecDepth 20000 in
theorem ggX8_size_X4_count : GoodIn wsX8_size wsX4_count := goodIn_r _ [6, 7, 8, 9, 10, 11, 12, 13, 31, 32, 33, 34, 35] (by decide +kernel) (by decide +kernel)
def wp_X8_size (a0 : Nat) (f : FT) (K : Int32 → Prop) : Prop :=
  gA f a0 11 0 fun a_1 => gA f a_1 10 0 fun a_3 => isO f a_3 7 ∧ wp_X4_count a_3 f (fun r_5 => K r_5)
set_option maxHeartbeats 4000000 in
set_option maxRecDepth 100000 in
theorem cc_X8_size (l : Launch) (G : GG) {f : FT} {sz : Nat} {a0 : Nat} {K : Int32 → Prop} (h : wp_X8_size a0 f K) : Met l yX8_size wsX8_size ({ frames := 2, cells := 0, slots := 0, locals := 40 } : Room) (FP G [.ref a0] f sz) (va_Qi (fun r f9 => K r ∧ f9 = f : Int32 → FT → Prop) (FB G (fA f sz)) (fA f sz)) 0 0 (fA f sz) := by
  refine Met.ofW (cc := cX8_size) (maxL := 1) (ret := (some .int)) (by decide) rfl ?_
  intro p e s m args below meth c s₁ B hml hv
  obtain ⟨rfl, hsz, hF, hK, hZ⟩ := hv
  have hx := B.exec
  have hb := B.bytes
  have hr := B.returns
  have hts := atoms_spec (ws := wsX8_size) B.pre
  have hown : s.vm.findClass RX8 = some m.cls := findClass_of_methodNamed B.named
  have hlocks := B.notSynchronized
  subst hsz
  have hF := hF.self (sz := s.heap.size)
  generalize hAe : fA f s.heap.size = A at hF hZ ⊢
  have hA : ∀ q : Nat, s.heap.size ≤ q → A q := fun q h => by rw [← hAe]; exact Or.inr h
  have hS : va_S A s.heap s.heap [] := va_S.rf
  have hin_X7 : ∀ w ∈ wsX70, w ∈ wsX8_size := by decide +kernel
  have hin_X8 : ∀ w ∈ wsX80, w ∈ wsX8_size := by decide +kernel
  have hl := lv_entry ([.ref a0]) (n := 1) (Nat.le_of_ble_eq_true rfl)
  rw [lg_entry_eq]
  generalize (lg_sl ([.ref a0]) ++ List.replicate (1 - (lg_sl ([.ref a0])).length) Slot.unset).toArray = ls at hl ⊢
  have hl : lv_has ls 1 [(0, .ref a0)] := hl
  unfold wp_X8_size at h
  refine lv_aload_n hx hb dX8_size_0 rfl (lv_at hl 0 rfl) ?_
  obtain ⟨fs_2, a_1, he_fs_2, hv_fs_2, h⟩ := h
  refine fw_get (C := RX8) (T := TX8) (N := 9) hx hb hts hin_X8 hown hK hF he_fs_2 rfl 0 (by decide) (hts (.fieldLink RX8 10 "FrontCodedIndex" "tree" "LFrontCodedIndex$Tree;") (by decide +kernel)) (fun _ h9 => h9) hv_fs_2 dX8_size_1 ?_
  obtain ⟨fs_4, a_3, he_fs_4, hv_fs_4, h⟩ := h
  refine fw_getN (C := RX7) (T := TX7) (N := 8) hx hb hts hin_X7 hown hK hF he_fs_4 rfl 0 (by decide) (va_Nw.use rfl (hZ.2.1 (.fieldLinkNest RX8 105 "FrontCodedIndex$Tree" "keys" "LFrontCodedIndex$KeyRow;" "FrontCodedIndex") (by decide +kernel))) (fun _ h9 => h9) hv_fs_4 dX8_size_4 ?_
  obtain ⟨⟨fs_r_5, hrc_r_5⟩, h⟩ := h
  refine fw_cV_i_p (As := []) (rest := []) ⟨hx, hb, hml, hown, hts⟩ (cc_X4_count l G h) (⟨callB_of 0 hts ggX8_size_X4_count rfl rfl rfl (hts (.initialized RX4) (by decide +kernel)) (hts (.methodLink RX8 109 yX4_count) (by decide +kernel)) (by decide +kernel) ⟨Nat.le_of_ble_eq_true rfl, Nat.le_of_ble_eq_true rfl⟩, hts (.instanceMethod yX4_count) (by decide +kernel), hts (.selects RX4 yX4_count yX4_count) (by decide +kernel)⟩) rfl hrc_r_5 hK hZ hF hS hA rfl hl.1 rfl (Nat.le_of_ble_eq_true rfl) dX8_size_7 ⟨Nat.zero_le _, Nat.zero_le _⟩ (fun r_5 H locs h hF hS => ?_)
  exact W.iret (v := r_5) hx hb hr (fun t ht hW => ⟨⟨r_5, f, rfl, ⟨h, rfl⟩, by rw [ht]; exact hF, FK.moved hW.alike hK⟩, hS.F ht⟩) hS.2.2 dX8_size_10
theorem dX8_statistic_0 : decode cX8_statistic 0 = .ok (.iload_n 1, 1) := by decide +kernel
theorem dX8_statistic_1 : decode cX8_statistic 1 = .ok (.ifCond .ne 15, 3) := by decide +kernel
theorem dX8_statistic_4 : decode cX8_statistic 4 = .ok (.aload_n 0, 1) := by decide +kernel
theorem dX8_statistic_5 : decode cX8_statistic 5 = .ok (.aload_n 0, 1) := by decide +kernel
theorem dX8_statistic_6 : decode cX8_statistic 6 = .ok (.getfield 10, 3) := by decide +kernel
theorem dX8_statistic_9 : decode cX8_statistic 9 = .ok (.getfield 171, 3) := by decide +kernel
theorem dX8_statistic_12 : decode cX8_statistic 12 = .ok (.invokevirtual 202, 3) := by decide +kernel
theorem dX8_statistic_15 : decode cX8_statistic 15 = .ok (.ireturn, 1) := by decide +kernel
theorem dX8_statistic_16 : decode cX8_statistic 16 = .ok (.iload_n 1, 1) := by decide +kernel
theorem dX8_statistic_17 : decode cX8_statistic 17 = .ok (.iconst 1, 1) := by decide +kernel
theorem dX8_statistic_18 : decode cX8_statistic 18 = .ok (.if_icmp .ne 11, 3) := by decide +kernel
theorem dX8_statistic_21 : decode cX8_statistic 21 = .ok (.aload_n 0, 1) := by decide +kernel
theorem dX8_statistic_22 : decode cX8_statistic 22 = .ok (.getfield 10, 3) := by decide +kernel
theorem dX8_statistic_25 : decode cX8_statistic 25 = .ok (.invokevirtual 205, 3) := by decide +kernel
theorem dX8_statistic_28 : decode cX8_statistic 28 = .ok (.ireturn, 1) := by decide +kernel
theorem dX8_statistic_29 : decode cX8_statistic 29 = .ok (.iload_n 1, 1) := by decide +kernel
theorem dX8_statistic_30 : decode cX8_statistic 30 = .ok (.iconst 2, 1) := by decide +kernel
theorem dX8_statistic_31 : decode cX8_statistic 31 = .ok (.if_icmp .ne 11, 3) := by decide +kernel
theorem dX8_statistic_34 : decode cX8_statistic 34 = .ok (.aload_n 0, 1) := by decide +kernel
theorem dX8_statistic_35 : decode cX8_statistic 35 = .ok (.getfield 31, 3) := by decide +kernel
theorem dX8_statistic_38 : decode cX8_statistic 38 = .ok (.getfield 208, 3) := by decide +kernel
theorem dX8_statistic_41 : decode cX8_statistic 41 = .ok (.ireturn, 1) := by decide +kernel
theorem dX8_statistic_42 : decode cX8_statistic 42 = .ok (.iload_n 1, 1) := by decide +kernel
theorem dX8_statistic_43 : decode cX8_statistic 43 = .ok (.iconst 3, 1) := by decide +kernel
theorem dX8_statistic_44 : decode cX8_statistic 44 = .ok (.if_icmp .ne 11, 3) := by decide +kernel
theorem dX8_statistic_47 : decode cX8_statistic 47 = .ok (.aload_n 0, 1) := by decide +kernel
theorem dX8_statistic_48 : decode cX8_statistic 48 = .ok (.getfield 31, 3) := by decide +kernel
theorem dX8_statistic_51 : decode cX8_statistic 51 = .ok (.getfield 211, 3) := by decide +kernel
theorem dX8_statistic_54 : decode cX8_statistic 54 = .ok (.ireturn, 1) := by decide +kernel
theorem dX8_statistic_55 : decode cX8_statistic 55 = .ok (.iload_n 1, 1) := by decide +kernel
theorem dX8_statistic_56 : decode cX8_statistic 56 = .ok (.iconst 4, 1) := by decide +kernel
theorem dX8_statistic_57 : decode cX8_statistic 57 = .ok (.if_icmp .ne 11, 3) := by decide +kernel
theorem dX8_statistic_60 : decode cX8_statistic 60 = .ok (.aload_n 0, 1) := by decide +kernel
theorem dX8_statistic_61 : decode cX8_statistic 61 = .ok (.getfield 38, 3) := by decide +kernel
theorem dX8_statistic_64 : decode cX8_statistic 64 = .ok (.getfield 214, 3) := by decide +kernel
theorem dX8_statistic_67 : decode cX8_statistic 67 = .ok (.ireturn, 1) := by decide +kernel
theorem dX8_statistic_68 : decode cX8_statistic 68 = .ok (.new 65, 3) := by decide +kernel
theorem dX8_statistic_71 : decode cX8_statistic 71 = .ok (.dup, 1) := by decide +kernel
theorem dX8_statistic_72 : decode cX8_statistic 72 = .ok (.ldc 217, 2) := by decide +kernel
theorem dX8_statistic_74 : decode cX8_statistic 74 = .ok (.invokespecial 69, 3) := by decide +kernel
theorem dX8_statistic_77 : decode cX8_statistic 77 = .ok (.athrow, 1) := by decide +kernel
set_option maxRecDepth 20000 in
theorem ggX8_statistic_X7_allPages : GoodIn wsX8_statistic wsX7_allPages := goodIn_r _ [103, 104, 105, 12, 13, 14, 15, 16, 17, 18, 19, 20, 21, 22, 23, 24, 25, 26, 27, 28, 29, 30, 31, 32, 33, 34, 35, 36, 37, 38, 39, 40, 41, 42, 43, 44, 45, 46, 47, 48, 49, 50, 51, 115, 116, 117, 118, 119, 120, 121, 122, 130, 131, 132, 133, 134] (by decide +kernel) (by decide +kernel)
set_option maxRecDepth 20000 in
theorem ggX8_statistic_X8_bytesOfTiers : GoodIn wsX8_statistic wsX8_bytesOfTiers := goodIn_r _ [10, 3, 11, 12, 13, 14, 15, 16, 17, 18, 19, 20, 21, 22, 23, 24, 25, 26, 27, 28, 29, 30, 31, 32, 33, 34, 35, 36, 37, 38, 39, 40, 41, 42, 43, 44, 45, 46, 47, 48, 49, 50, 51, 52, 53, 54, 55, 56, 57, 58, 59, 60, 61, 62, 63, 64, 65, 66, 67, 68, 69, 70, 71, 72, 73, 74, 75, 76, 77, 78, 79, 80, 81, 82, 83, 84, 85, 86, 87, 88, 89, 90, 91, 92, 93, 94, 95, 96, 97, 98, 99, 106, 107, 108, 109, 110, 111, 112, 113, 114, 115, 116, 117, 118, 119, 120, 121, 122, 130, 131, 132, 133, 134, 135, 136, 137] (by decide +kernel) (by decide +kernel)
def wp_X8_statistic (a0 : Nat) (x1 : Int32) (f : FT) (mc ms : Nat) (K : Int32 → FT → Prop) (KX : String → FT → Prop) : Prop :=
  ((¬ x1 = (0 : Int32) → ((¬ x1 = (1 : Int32) → ((¬ x1 = (2 : Int32) → ((¬ x1 = (3 : Int32) → ((¬ x1 = (4 : Int32) → 1 ≤ mc ∧ 6 ≤ ms ∧ KX "java/lang/IllegalArgumentException" f) ∧
 (x1 = (4 : Int32) → gA f a0 11 4 fun a_6 => gI f a_6 9 2 fun v_8 => K v_8 f))) ∧
 (x1 = (3 : Int32) → gA f a0 11 3 fun a_10 => gI f a_10 4 3 fun v_12 => K v_12 f))) ∧
 (x1 = (2 : Int32) → gA f a0 11 3 fun a_14 => gI f a_14 4 2 fun v_16 => K v_16 f))) ∧
 (x1 = (1 : Int32) → gA f a0 11 0 fun a_18 => isO f a_18 10 ∧ wp_X7_allPages a_18 f (fun r_20 => K r_20 f)))) ∧
 (x1 = (0 : Int32) → gA f a0 11 0 fun a_21 => gI f a_21 10 6 fun v_23 => isO f a0 11 ∧ wp_X8_bytesOfTiers a0 v_23 f (fun r_25 => K r_25 f)))
set_option maxHeartbeats 4000000 in
set_option maxRecDepth 100000 in
theorem cc_X8_statistic (l : Launch) (G : GG) {f : FT} {sz : Nat} {a0 : Nat} {x1 : Int32} {mc ms : Nat} {K : Int32 → FT → Prop} {KX : String → FT → Prop} (hlt : l.stackTraces = false) (h : wp_X8_statistic a0 x1 f mc ms K KX) : vx_Met l yX8_statistic wsX8_statistic ({ frames := 8, cells := mc, slots := ms, locals := 185 } : Room) (FPX G [.ref a0, .int x1] f sz) (va_Qi (fun r f9 => K r f9 : Int32 → FT → Prop) (FB G (fA f sz)) (fA f sz)) (FXC G (fA f sz) KX) mc ms (fA f sz) := by
  refine vx_ofW (cc := cX8_statistic) (maxL := 2) (ret := (some .int)) (by decide) rfl ?_
  intro p e s m args below meth c s₁ B hml hxt hv
  obtain ⟨rfl, hsz, hF, hK, hZ, hX⟩ := hv
  have hx := B.exec
  have hb := B.bytes
  have hr := B.returns
  have hts := atoms_spec (ws := wsX8_statistic) B.pre
  have hown : s.vm.findClass RX8 = some m.cls := findClass_of_methodNamed B.named
  have hlocks := B.notSynchronized
  subst hsz
  have hF := hF.self (sz := s.heap.size)
  generalize hAe : fA f s.heap.size = A at hF hZ hX ⊢
  have hA : ∀ q : Nat, s.heap.size ≤ q → A q := fun q h => by rw [← hAe]; exact Or.inr h
  have hS : va_S A s.heap s.heap [] := va_S.rf
  have hin_X1 : ∀ w ∈ wsX10, w ∈ wsX8_statistic := by decide +kernel
  have hin_X6 : ∀ w ∈ wsX60, w ∈ wsX8_statistic := by decide +kernel
  have hin_X7 : ∀ w ∈ wsX70, w ∈ wsX8_statistic := by decide +kernel
  have hin_X8 : ∀ w ∈ wsX80, w ∈ wsX8_statistic := by decide +kernel
  have hbc : 0 + mc ≤ mc := by omega
  have hbs : 0 + ms ≤ ms := by omega
  have hl := lv_entry ([.ref a0, .int x1]) (n := 2) (Nat.le_of_ble_eq_true rfl)
  rw [lg_entry_eq]
  generalize (lg_sl ([.ref a0, .int x1]) ++ List.replicate (2 - (lg_sl ([.ref a0, .int x1])).length) Slot.unset).toArray = ls at hl ⊢
  have hl : lv_has ls 2 [(0, .ref a0), (1, .int x1)] := hl
  unfold wp_X8_statistic at h
  refine lv_iload_n hx hb dX8_statistic_0 rfl (lv_at hl 1 rfl) ?_
  obtain ⟨h1, h2⟩ := h
  refine lv_if_ne (tgt := 16) hx hb dX8_statistic_1 (by decide) (fun c_1 => ?_) (fun c_1 => ?_)
  · have h := h1 c_1
    refine lv_iload_n hx hb dX8_statistic_16 rfl (lv_at hl 1 rfl) ?_
    refine lv_iconst (v := (1 : Int32)) hx hb dX8_statistic_17 (by decide) ?_
    obtain ⟨h1, h2⟩ := h
    refine lv_icmp_ne (tgt := 29) hx hb dX8_statistic_18 (by decide) (fun c_2 => ?_) (fun c_2 => ?_)
    · have h := h1 c_2
      refine lv_iload_n hx hb dX8_statistic_29 rfl (lv_at hl 1 rfl) ?_
      refine lv_iconst (v := (2 : Int32)) hx hb dX8_statistic_30 (by decide) ?_
      obtain ⟨h1, h2⟩ := h
      refine lv_icmp_ne (tgt := 42) hx hb dX8_statistic_31 (by decide) (fun c_3 => ?_) (fun c_3 => ?_)
      · have h := h1 c_3
        refine lv_iload_n hx hb dX8_statistic_42 rfl (lv_at hl 1 rfl) ?_
        refine lv_iconst (v := (3 : Int32)) hx hb dX8_statistic_43 (by decide) ?_
        obtain ⟨h1, h2⟩ := h
        refine lv_icmp_ne (tgt := 55) hx hb dX8_statistic_44 (by decide) (fun c_4 => ?_) (fun c_4 => ?_)
        · have h := h1 c_4
          refine lv_iload_n hx hb dX8_statistic_55 rfl (lv_at hl 1 rfl) ?_
          refine lv_iconst (v := (4 : Int32)) hx hb dX8_statistic_56 (by decide) ?_
          obtain ⟨h1, h2⟩ := h
          refine lv_icmp_ne (tgt := 68) hx hb dX8_statistic_57 (by decide) (fun c_5 => ?_) (fun c_5 => ?_)
          · have h := h1 c_5
            obtain ⟨hb1, hb2, h⟩ := h
            refine vx_throwS hx hb hlt (own := RX8) (cls := "java/lang/IllegalArgumentException") (text := "there is no such statistic") (names := ["java/lang/RuntimeException", "java/lang/Exception"]) (ik := 65) (is := 217) (ic := 69) (sa := G.2.2 (100 + 217)) (A := A) hown (by decide) (by decide) (hts (.classLink RX8 65 "java/lang/IllegalArgumentException") (by decide +kernel)) (hts (.initialized "java/lang/IllegalArgumentException") (by decide +kernel)) (hX.1 (217, "there is no such statistic") (by decide +kernel)) (vx_hat (B := thrB) (fun w hw => hts w ((by decide +kernel : ∀ w ∈ (vx_atS RX8 69 "java/lang/IllegalArgumentException" ["java/lang/RuntimeException", "java/lang/Exception"]).filter goodWord, w ∈ wsX8_statistic) w hw)) (by decide +kernel) (fun w hw => va_Nw.use (thrB_tab w hw) (hX.2.1 w hw))) (by decide +kernel) hX.2.2.1 hX.2.2.2 hS (hl.1.trans hml.symm) dX8_statistic_68 dX8_statistic_71 dX8_statistic_72 dX8_statistic_74 dX8_statistic_77 (fun x hx => (hxt x hx).elim) (Nat.le_of_ble_eq_true rfl) (Nat.le_of_ble_eq_true rfl) (by show _ ≤ mc; omega) (by show _ ≤ ms; omega) hlocks (fun t hvm hz hk => ⟨(f, "java/lang/IllegalArgumentException"), h, ⟨rfl, hF.kept (fun q e9 he9 => hk q (hF.in he9).2), FK.moved hvm hK⟩, ⟨Nat.le_trans hS.1 hz, fun q h1 h2 => (hk q (Nat.lt_of_lt_of_le h1 hS.1)).trans (hS.2.1 q h1 h2)⟩⟩) hS.2.2 (by omega) (by omega)
          · have h := h2 c_5
            refine lv_aload_n hx hb dX8_statistic_60 rfl (lv_at hl 0 rfl) ?_
            obtain ⟨fs_7, a_6, he_fs_7, hv_fs_7, h⟩ := h
            refine fw_get (C := RX8) (T := TX8) (N := 9) hx hb hts hin_X8 hown hK hF he_fs_7 rfl 4 (by decide) (hts (.fieldLink RX8 38 "FrontCodedIndex" "remover" "LFrontCodedIndex$Remover;") (by decide +kernel)) (fun _ h9 => h9) hv_fs_7 dX8_statistic_61 ?_
            obtain ⟨fs_9, v_8, he_fs_9, hv_fs_9, h⟩ := h
            refine fw_getN (C := RX6) (T := TX6) (N := 3) hx hb hts hin_X6 hown hK hF he_fs_9 rfl 2 (by decide) (va_Nw.use rfl (hZ.2.1 (.fieldLinkNest RX8 214 "FrontCodedIndex$Remover" "merges" "I" "FrontCodedIndex") (by decide +kernel))) (fun _ h9 => h9) hv_fs_9 dX8_statistic_64 ?_
            refine vx_ret ?_
            refine W.widen (k := mc) (n := ms) (by omega) (by omega) ?_
            exact W.iret (v := v_8) hx hb hr (fun t ht hW => ⟨⟨v_8, f, rfl, h, by rw [ht]; exact hF, FK.moved hW.alike hK⟩, hS.F ht⟩) hS.2.2 dX8_statistic_67
        · have h := h2 c_4
          refine lv_aload_n hx hb dX8_statistic_47 rfl (lv_at hl 0 rfl) ?_
          obtain ⟨fs_11, a_10, he_fs_11, hv_fs_11, h⟩ := h
          refine fw_get (C := RX8) (T := TX8) (N := 9) hx hb hts hin_X8 hown hK hF he_fs_11 rfl 3 (by decide) (hts (.fieldLink RX8 31 "FrontCodedIndex" "inserter" "LFrontCodedIndex$Inserter;") (by decide +kernel)) (fun _ h9 => h9) hv_fs_11 dX8_statistic_48 ?_
          obtain ⟨fs_13, v_12, he_fs_13, hv_fs_13, h⟩ := h
          refine fw_getN (C := RX1) (T := TX1) (N := 4) hx hb hts hin_X1 hown hK hF he_fs_13 rfl 3 (by decide) (va_Nw.use rfl (hZ.2.1 (.fieldLinkNest RX8 211 "FrontCodedIndex$Inserter" "redistributions" "I" "FrontCodedIndex") (by decide +kernel))) (fun _ h9 => h9) hv_fs_13 dX8_statistic_51 ?_
          refine vx_ret ?_
          refine W.widen (k := mc) (n := ms) (by omega) (by omega) ?_
          exact W.iret (v := v_12) hx hb hr (fun t ht hW => ⟨⟨v_12, f, rfl, h, by rw [ht]; exact hF, FK.moved hW.alike hK⟩, hS.F ht⟩) hS.2.2 dX8_statistic_54
      · have h := h2 c_3
        refine lv_aload_n hx hb dX8_statistic_34 rfl (lv_at hl 0 rfl) ?_
        obtain ⟨fs_15, a_14, he_fs_15, hv_fs_15, h⟩ := h
        refine fw_get (C := RX8) (T := TX8) (N := 9) hx hb hts hin_X8 hown hK hF he_fs_15 rfl 3 (by decide) (hts (.fieldLink RX8 31 "FrontCodedIndex" "inserter" "LFrontCodedIndex$Inserter;") (by decide +kernel)) (fun _ h9 => h9) hv_fs_15 dX8_statistic_35 ?_
        obtain ⟨fs_17, v_16, he_fs_17, hv_fs_17, h⟩ := h
        refine fw_getN (C := RX1) (T := TX1) (N := 4) hx hb hts hin_X1 hown hK hF he_fs_17 rfl 2 (by decide) (va_Nw.use rfl (hZ.2.1 (.fieldLinkNest RX8 208 "FrontCodedIndex$Inserter" "splits" "I" "FrontCodedIndex") (by decide +kernel))) (fun _ h9 => h9) hv_fs_17 dX8_statistic_38 ?_
        refine vx_ret ?_
        refine W.widen (k := mc) (n := ms) (by omega) (by omega) ?_
        exact W.iret (v := v_16) hx hb hr (fun t ht hW => ⟨⟨v_16, f, rfl, h, by rw [ht]; exact hF, FK.moved hW.alike hK⟩, hS.F ht⟩) hS.2.2 dX8_statistic_41
    · have h := h2 c_2
      refine lv_aload_n hx hb dX8_statistic_21 rfl (lv_at hl 0 rfl) ?_
      obtain ⟨fs_19, a_18, he_fs_19, hv_fs_19, h⟩ := h
      refine fw_get (C := RX8) (T := TX8) (N := 9) hx hb hts hin_X8 hown hK hF he_fs_19 rfl 0 (by decide) (hts (.fieldLink RX8 10 "FrontCodedIndex" "tree" "LFrontCodedIndex$Tree;") (by decide +kernel)) (fun _ h9 => h9) hv_fs_19 dX8_statistic_22 ?_
      obtain ⟨⟨fs_r_20, hrc_r_20⟩, h⟩ := h
      refine fw_cV_i_p (As := []) (rest := []) ⟨hx, hb, hml, hown, hts⟩ (cc_X7_allPages l G h) (⟨callB_of 0 hts ggX8_statistic_X7_allPages rfl rfl rfl (hts (.initialized RX7) (by decide +kernel)) (hts (.methodLink RX8 205 yX7_allPages) (by decide +kernel)) (by decide +kernel) ⟨Nat.le_of_ble_eq_true rfl, Nat.le_of_ble_eq_true rfl⟩, hts (.instanceMethod yX7_allPages) (by decide +kernel), hts (.selects RX7 yX7_allPages yX7_allPages) (by decide +kernel)⟩) rfl hrc_r_20 hK hZ hF hS hA rfl hl.1 rfl (Nat.le_of_ble_eq_true rfl) dX8_statistic_25 ⟨by show _ ≤ mc; omega, by show _ ≤ ms; omega⟩ (fun r_20 H locs h hF hS => ?_)
      simp only [Nat.add_zero]
      refine vx_ret ?_
      refine W.widen (k := mc) (n := ms) (by omega) (by omega) ?_
      exact W.iret (v := r_20) hx hb hr (fun t ht hW => ⟨⟨r_20, f, rfl, h, by rw [ht]; exact hF, FK.moved hW.alike hK⟩, hS.F ht⟩) hS.2.2 dX8_statistic_28
  · have h := h2 c_1
    refine lv_aload_n hx hb dX8_statistic_4 rfl (lv_at hl 0 rfl) ?_
    refine lv_aload_n hx hb dX8_statistic_5 rfl (lv_at hl 0 rfl) ?_
    obtain ⟨fs_22, a_21, he_fs_22, hv_fs_22, h⟩ := h
    refine fw_get (C := RX8) (T := TX8) (N := 9) hx hb hts hin_X8 hown hK hF he_fs_22 rfl 0 (by decide) (hts (.fieldLink RX8 10 "FrontCodedIndex" "tree" "LFrontCodedIndex$Tree;") (by decide +kernel)) (fun _ h9 => h9) hv_fs_22 dX8_statistic_6 ?_
    obtain ⟨fs_24, v_23, he_fs_24, hv_fs_24, h⟩ := h
    refine fw_getN (C := RX7) (T := TX7) (N := 8) hx hb hts hin_X7 hown hK hF he_fs_24 rfl 6 (by decide) (va_Nw.use rfl (hZ.2.1 (.fieldLinkNest RX8 171 "FrontCodedIndex$Tree" "tierTotal" "I" "FrontCodedIndex") (by decide +kernel))) (fun _ h9 => h9) hv_fs_24 dX8_statistic_9 ?_
    obtain ⟨⟨fs_r_25, hrc_r_25⟩, h⟩ := h
    refine fw_cV_i_p (As := [.int v_23]) (rest := []) ⟨hx, hb, hml, hown, hts⟩ (cc_X8_bytesOfTiers l G h) (⟨callB_of 1 hts ggX8_statistic_X8_bytesOfTiers rfl rfl rfl (hts (.initialized RX8) (by decide +kernel)) (hts (.methodLink RX8 202 yX8_bytesOfTiers) (by decide +kernel)) (by decide +kernel) ⟨Nat.le_of_ble_eq_true rfl, Nat.le_of_ble_eq_true rfl⟩, hts (.instanceMethod yX8_bytesOfTiers) (by decide +kernel), hts (.selects RX8 yX8_bytesOfTiers yX8_bytesOfTiers) (by decide +kernel)⟩) rfl hrc_r_25 hK hZ hF hS hA rfl hl.1 rfl (Nat.le_of_ble_eq_true rfl) dX8_statistic_12 ⟨by show _ ≤ mc; omega, by show _ ≤ ms; omega⟩ (fun r_25 H locs h hF hS => ?_)
    simp only [Nat.add_zero]
    refine vx_ret ?_
    refine W.widen (k := mc) (n := ms) (by omega) (by omega) ?_
    exact W.iret (v := r_25) hx hb hr (fun t ht hW => ⟨⟨r_25, f, rfl, h, by rw [ht]; exact hF, FK.moved hW.alike hK⟩, hS.F ht⟩) hS.2.2 dX8_statistic_15
theorem dX8_swapBound_0 : decode cX8_swapBound 0 = .ok (.aload_n 0, 1) := by decide +kernel
theorem dX8_swapBound_1 : decode cX8_swapBound 1 = .ok (.getfield 58, 3) := by decide +kernel
theorem dX8_swapBound_4 : decode cX8_swapBound 4 = .ok (.astore_n 1, 1) := by decide +kernel
theorem dX8_swapBound_5 : decode cX8_swapBound 5 = .ok (.aload_n 0, 1) := by decide +kernel
theorem dX8_swapBound_6 : decode cX8_swapBound 6 = .ok (.aload_n 0, 1) := by decide +kernel
theorem dX8_swapBound_7 : decode cX8_swapBound 7 = .ok (.getfield 62, 3) := by decide +kernel
theorem dX8_swapBound_10 : decode cX8_swapBound 10 = .ok (.putfield 58, 3) := by decide +kernel
theorem dX8_swapBound_13 : decode cX8_swapBound 13 = .ok (.aload_n 0, 1) := by decide +kernel
theorem dX8_swapBound_14 : decode cX8_swapBound 14 = .ok (.aload_n 1, 1) := by decide +kernel
theorem dX8_swapBound_15 : decode cX8_swapBound 15 = .ok (.putfield 62, 3) := by decide +kernel
theorem dX8_swapBound_18 : decode cX8_swapBound 18 = .ok (.aload_n 0, 1) := by decide +kernel
theorem dX8_swapBound_19 : decode cX8_swapBound 19 = .ok (.getfield 58, 3) := by decide +kernel
theorem dX8_swapBound_22 : decode cX8_swapBound 22 = .ok (.invokevirtual 72, 3) := by decide +kernel
theorem dX8_swapBound_25 : decode cX8_swapBound 25 = .ok (.ireturn, 1) := by decide +kernel
set_option maxRecDepth 20000 in
theorem ggX8_swapBound_X3_length : GoodIn wsX8_swapBound wsX3_length := goodIn_r _ [7, 8, 18] (by decide +kernel) (by decide +kernel)
def wp_X8_swapBound (a0 : Nat) (f : FT) (K : Int32 → FT → Prop) : Prop :=
  gA f a0 11 7 fun a_1 => gA f a0 11 8 fun a_3 => pV f a0 11 7 (.ref a_3) fun f_6 => pV f_6 a0 11 8 (.ref a_1) fun f_8 => gA f_8 a0 11 7 fun a_9 => isO f_8 a_9 6 ∧ wp_X3_length a_9 f_8 (fun r_11 => K r_11 f_8)
set_option maxHeartbeats 4000000 in
set_option maxRecDepth 100000 in
theorem cc_X8_swapBound (l : Launch) (G : GG) {f : FT} {sz : Nat} {a0 : Nat} {K : Int32 → FT → Prop} (h : wp_X8_swapBound a0 f K) : Met l yX8_swapBound wsX8_swapBound ({ frames := 1, cells := 0, slots := 0, locals := 20 } : Room) (FP G [.ref a0] f sz) (va_Qi (fun r f9 => K r f9 : Int32 → FT → Prop) (FB G (fA f sz)) (fA f sz)) 0 0 (fA f sz) := by
  refine Met.ofW (cc := cX8_swapBound) (maxL := 2) (ret := (some .int)) (by decide) rfl ?_
  intro p e s m args below meth c s₁ B hml hv
  obtain ⟨rfl, hsz, hF, hK, hZ⟩ := hv
  have hx := B.exec
  have hb := B.bytes
  have hr := B.returns
  have hts := atoms_spec (ws := wsX8_swapBound) B.pre
  have hown : s.vm.findClass RX8 = some m.cls := findClass_of_methodNamed B.named
  have hlocks := B.notSynchronized
  subst hsz
  have hF := hF.self (sz := s.heap.size)
  generalize hAe : fA f s.heap.size = A at hF hZ ⊢
  have hA : ∀ q : Nat, s.heap.size ≤ q → A q := fun q h => by rw [← hAe]; exact Or.inr h
  have hS : va_S A s.heap s.heap [] := va_S.rf
  have hin_X8 : ∀ w ∈ wsX80, w ∈ wsX8_swapBound := by decide +kernel
  have hl := lv_entry ([.ref a0]) (n := 2) (Nat.le_of_ble_eq_true rfl)
  rw [lg_entry_eq]
  generalize (lg_sl ([.ref a0]) ++ List.replicate (2 - (lg_sl ([.ref a0])).length) Slot.unset).toArray = ls at hl ⊢
  have hl : lv_has ls 2 [(0, .ref a0)] := hl
  unfold wp_X8_swapBound at h
  refine lv_aload_n hx hb dX8_swapBound_0 rfl (lv_at hl 0 rfl) ?_
  obtain ⟨fs_2, a_1, he_fs_2, hv_fs_2, h⟩ := h
  refine fw_get (C := RX8) (T := TX8) (N := 9) hx hb hts hin_X8 hown hK hF he_fs_2 rfl 7 (by decide) (hts (.fieldLink RX8 58 "FrontCodedIndex" "key" "LFrontCodedIndex$Key;") (by decide +kernel)) (fun _ h9 => h9) hv_fs_2 dX8_swapBound_1 ?_
  refine lv_astore_n (lv' := [(1, .ref a_1), (0, .ref a0)]) hx hb dX8_swapBound_4 rfl hl (by decide) rfl (fun ls hl => ?_)
  refine lv_aload_n hx hb dX8_swapBound_5 rfl (lv_at hl 1 rfl) ?_
  refine lv_aload_n hx hb dX8_swapBound_6 rfl (lv_at hl 1 rfl) ?_
  obtain ⟨fs_4, a_3, he_fs_4, hv_fs_4, h⟩ := h
  refine fw_get (C := RX8) (T := TX8) (N := 9) hx hb hts hin_X8 hown hK hF he_fs_4 rfl 8 (by decide) (hts (.fieldLink RX8 62 "FrontCodedIndex" "bound" "LFrontCodedIndex$Key;") (by decide +kernel)) (fun _ h9 => h9) hv_fs_4 dX8_swapBound_7 ?_
  obtain ⟨fs_5, he_fs_5, hl_fs_5, h⟩ := h
  refine fw_put (v := .ref a_3) (ty := (.object "FrontCodedIndex$Key")) (C := RX8) (T := TX8) (N := 9) hx hb hts hin_X8 tyX8 (tyX8_ok) nmX8 hown hK hF hS he_fs_5 rfl 7 (by decide) (hts (.fieldLink RX8 58 "FrontCodedIndex" "key" "LFrontCodedIndex$Key;") (by decide +kernel)) (fun _ h9 => h9) rfl (by decide +kernel) rfl rfl hl_fs_5 dX8_swapBound_10 (fun H locs hF hS => ?_)
  obtain ⟨f_6, hf_f_6⟩ : ∃ z, z = fup f a0 (.inr (11, fs_5.set 7 (.ref a_3))) := ⟨_, rfl⟩
  rw [← hf_f_6] at hF; have h := h f_6 hf_f_6
  refine lv_aload_n hx hb dX8_swapBound_13 rfl (lv_at hl 1 rfl) ?_
  refine lv_aload_n hx hb dX8_swapBound_14 rfl (lv_at hl 0 rfl) ?_
  obtain ⟨fs_7, he_fs_7, hl_fs_7, h⟩ := h
  refine fw_put (v := .ref a_1) (ty := (.object "FrontCodedIndex$Key")) (C := RX8) (T := TX8) (N := 9) hx hb hts hin_X8 tyX8 (tyX8_ok) nmX8 hown hK hF hS he_fs_7 rfl 8 (by decide) (hts (.fieldLink RX8 62 "FrontCodedIndex" "bound" "LFrontCodedIndex$Key;") (by decide +kernel)) (fun _ h9 => h9) rfl (by decide +kernel) rfl rfl hl_fs_7 dX8_swapBound_15 (fun H locs hF hS => ?_)
  obtain ⟨f_8, hf_f_8⟩ : ∃ z, z = fup f_6 a0 (.inr (11, fs_7.set 8 (.ref a_1))) := ⟨_, rfl⟩
  rw [← hf_f_8] at hF; have h := h f_8 hf_f_8
  refine lv_aload_n hx hb dX8_swapBound_18 rfl (lv_at hl 1 rfl) ?_
  obtain ⟨fs_10, a_9, he_fs_10, hv_fs_10, h⟩ := h
  refine fw_get (C := RX8) (T := TX8) (N := 9) hx hb hts hin_X8 hown hK hF he_fs_10 rfl 7 (by decide) (hts (.fieldLink RX8 58 "FrontCodedIndex" "key" "LFrontCodedIndex$Key;") (by decide +kernel)) (fun _ h9 => h9) hv_fs_10 dX8_swapBound_19 ?_
  obtain ⟨⟨fs_r_11, hrc_r_11⟩, h⟩ := h
  refine fw_cV_i_p (As := []) (rest := []) ⟨hx, hb, hml, hown, hts⟩ (cc_X3_length l G h) (⟨callB_of 0 hts ggX8_swapBound_X3_length rfl rfl rfl (hts (.initialized RX3) (by decide +kernel)) (hts (.methodLink RX8 72 yX3_length) (by decide +kernel)) (by decide +kernel) ⟨Nat.le_of_ble_eq_true rfl, Nat.le_of_ble_eq_true rfl⟩, hts (.instanceMethod yX3_length) (by decide +kernel), hts (.selects RX3 yX3_length yX3_length) (by decide +kernel)⟩) rfl hrc_r_11 hK hZ hF hS hA rfl hl.1 rfl (Nat.le_of_ble_eq_true rfl) dX8_swapBound_22 ⟨Nat.zero_le _, Nat.zero_le _⟩ (fun r_11 H locs h hF hS => ?_)
  exact W.iret (v := r_11) hx hb hr (fun t ht hW => ⟨⟨r_11, f_8, rfl, h, by rw [ht]; exact hF, FK.moved hW.alike hK⟩, hS.F ht⟩) hS.2.2 dX8_swapBound_25
