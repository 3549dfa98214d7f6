theorem dX8_queue_0 : decode cX8_queue 0 = .ok (.aload_n 0, 1) := by decide +kernel
theorem dX8_queue_1 : decode cX8_queue 1 = .ok (.getfield 45, 3) := by decide +kernel
theorem dX8_queue_4 : decode cX8_queue 4 = .ok (.getfield 242, 3) := by decide +kernel
theorem dX8_queue_7 : decode cX8_queue 7 = .ok (.invokevirtual 109, 3) := by decide +kernel
theorem dX8_queue_10 : decode cX8_queue 10 = .ok (.sipush 300, 3) := by decide +kernel
theorem dX8_queue_13 : decode cX8_queue 13 = .ok (.if_icmp .lt 13, 3) := by decide +kernel
theorem dX8_queue_16 : decode cX8_queue 16 = .ok (.new 76, 3) := by decide +kernel
theorem dX8_queue_19 : decode cX8_queue 19 = .ok (.dup, 1) := by decide +kernel
theorem dX8_queue_20 : decode cX8_queue 20 = .ok (.ldc 243, 2) := by decide +kernel
theorem dX8_queue_22 : decode cX8_queue 22 = .ok (.invokespecial 80, 3) := by decide +kernel
theorem dX8_queue_25 : decode cX8_queue 25 = .ok (.athrow, 1) := by decide +kernel
theorem dX8_queue_26 : decode cX8_queue 26 = .ok (.aload_n 0, 1) := by decide +kernel
theorem dX8_queue_27 : decode cX8_queue 27 = .ok (.getfield 45, 3) := by decide +kernel
theorem dX8_queue_30 : decode cX8_queue 30 = .ok (.aload_n 0, 1) := by decide +kernel
theorem dX8_queue_31 : decode cX8_queue 31 = .ok (.getfield 58, 3) := by decide +kernel
theorem dX8_queue_34 : decode cX8_queue 34 = .ok (.invokevirtual 245, 3) := by decide +kernel
theorem dX8_queue_37 : decode cX8_queue 37 = .ok (.ifCond .ne 13, 3) := by decide +kernel
theorem dX8_queue_40 : decode cX8_queue 40 = .ok (.new 76, 3) := by decide +kernel
theorem dX8_queue_43 : decode cX8_queue 43 = .ok (.dup, 1) := by decide +kernel
theorem dX8_queue_44 : decode cX8_queue 44 = .ok (.ldc 249, 2) := by decide +kernel
theorem dX8_queue_46 : decode cX8_queue 46 = .ok (.invokespecial 80, 3) := by decide +kernel
theorem dX8_queue_49 : decode cX8_queue 49 = .ok (.athrow, 1) := by decide +kernel
theorem dX8_queue_50 : decode cX8_queue 50 = .ok (.aload_n 0, 1) := by decide +kernel
theorem dX8_queue_51 : decode cX8_queue 51 = .ok (.getfield 45, 3) := by decide +kernel
theorem dX8_queue_54 : decode cX8_queue 54 = .ok (.aload_n 0, 1) := by decide +kernel
theorem dX8_queue_55 : decode cX8_queue 55 = .ok (.getfield 58, 3) := by decide +kernel
theorem dX8_queue_58 : decode cX8_queue 58 = .ok (.iload_n 1, 1) := by decide +kernel
theorem dX8_queue_59 : decode cX8_queue 59 = .ok (.invokevirtual 251, 3) := by decide +kernel
theorem dX8_queue_62 : decode cX8_queue 62 = .ok (.aload_n 0, 1) := by decide +kernel
theorem dX8_queue_63 : decode cX8_queue 63 = .ok (.getfield 45, 3) := by decide +kernel
theorem dX8_queue_66 : decode cX8_queue 66 = .ok (.getfield 242, 3) := by decide +kernel
theorem dX8_queue_69 : decode cX8_queue 69 = .ok (.invokevirtual 109, 3) := by decide +kernel
theorem dX8_queue_72 : decode cX8_queue 72 = .ok (.ireturn, 1) := by decide +kernel
set_option maxRecDepth 20000 in
theorem ggX8_queue_X4_count : GoodIn wsX8_queue wsX4_count := goodIn_r _ [9, 10, 11, 12, 13, 14, 15, 16, 155, 156, 157, 158, 159] (by decide +kernel) (by decide +kernel)
set_option maxRecDepth 20000 in
theorem ggX8_queue_X5_append : GoodIn wsX8_queue wsX5_append := goodIn_r _ [64, 22, 65, 66, 67, 68, 8, 69, 10, 70, 71, 72, 14, 73, 74, 75, 46, 16, 76, 77, 78, 79, 80, 81, 82, 83, 84, 85, 86, 87, 88, 89, 90, 91, 92, 93, 94, 95, 96, 97, 98, 99, 100, 101, 102, 103, 104, 105, 106, 107, 108, 109, 110, 111, 112, 113, 114, 115, 116, 117, 118, 119, 120, 121, 122, 123, 124, 125, 126, 127, 128, 129, 130, 131, 132, 133, 134, 135, 136, 137, 138, 139, 140, 141, 142, 143, 153, 154, 155, 156, 157, 158, 159, 161, 162] (by decide +kernel) (by decide +kernel)
set_option maxRecDepth 20000 in
theorem ggX8_queue_X5_endsBelow : GoodIn wsX8_queue wsX5_endsBelow := goodIn_r _ [21, 22, 23, 6, 7, 8, 9, 10, 11, 12, 13, 14, 15, 16, 24, 25, 26, 27, 28, 29, 30, 31, 32, 33, 34, 35, 36, 37, 38, 39, 40, 41, 42, 43, 44, 45, 46, 47, 48, 49, 50, 51, 52, 53, 54, 55, 56, 57, 58, 59, 60, 153, 154, 155, 156, 157, 158, 159, 160] (by decide +kernel) (by decide +kernel)
def wp_X8_queue (zd : Nat) (a0 : Nat) (x1 : Int32) (f : FT) (mc ms : Nat) (K : Int32 → FT → Prop) (KX : String → FT → Prop) : Prop :=
  gA f a0 11 5 fun a_1 => gA f a_1 8 0 fun a_3 => isO f a_3 7 ∧ wp_X4_count a_3 f (fun r_5 => ((r_5 < (300 : Int32) → gA f a0 11 5 fun a_7 => gA f a0 11 7 fun a_9 => isO f a_7 8 ∧ wp_X5_endsBelow a_7 a_9 f (fun r_11 => ((¬ r_11 = (0 : Int32) → gA f a0 11 5 fun a_13 => gA f a0 11 7 fun a_15 => ∃ ga_19 gb_20 : Nat, ga_19 ≤ mc ∧ gb_20 ≤ ms ∧ isO f a_13 8 ∧ wp_X5_append zd a_13 a_15 x1 f ga_19 gb_20 (fun f_18 => gA f_18 a0 11 5 fun a_23 => gA f_18 a_23 8 0 fun a_25 => isO f_18 a_25 7 ∧ wp_X4_count a_25 f_18 (fun r_27 => K r_27 f_18))) ∧
 (r_11 = (0 : Int32) → 1 ≤ mc ∧ 6 ≤ ms ∧ KX "java/lang/IllegalStateException" f)))) ∧
 (¬ (r_5 < (300 : Int32)) → 1 ≤ mc ∧ 6 ≤ ms ∧ KX "java/lang/IllegalStateException" f)))
set_option maxHeartbeats 4000000 in
set_option maxRecDepth 100000 in
theorem cc_X8_queue (l : Launch) (G : GG) {zd : Nat} (hzd : G.2.2 0 = zd) {f : FT} {sz : Nat} {a0 : Nat} {x1 : Int32} {mc ms : Nat} {K : Int32 → FT → Prop} {KX : String → FT → Prop} (hlt : l.stackTraces = false) (h : wp_X8_queue zd a0 x1 f mc ms K KX) : vx_Met l yX8_queue wsX8_queue ({ frames := 9, cells := mc, slots := ms, locals := 214 } : Room) (FPX G [.ref a0, .int x1] f sz) (va_Qi (fun r f9 => K r f9 : Int32 → FT → Prop) (FB G (fA f sz)) (fA f sz)) (FXC G (fA f sz) KX) mc ms (fA f sz) := by
  refine vx_ofW (cc := cX8_queue) (maxL := 2) (ret := (some .int)) (by decide) rfl ?_
  intro p e s m args below meth c s₁ B hml hxt hv
  obtain ⟨rfl, hsz, hF, hK, hZ, hX⟩ := hv
  have hx := B.exec
  have hb := B.bytes
  have hr := B.returns
  have hts := atoms_spec (ws := wsX8_queue) B.pre
  have hown : s.vm.findClass RX8 = some m.cls := findClass_of_methodNamed B.named
  have hlocks := B.notSynchronized
  subst hsz
  have hF := hF.self (sz := s.heap.size)
  generalize hAe : fA f s.heap.size = A at hF hZ hX ⊢
  have hA : ∀ q : Nat, s.heap.size ≤ q → A q := fun q h => by rw [← hAe]; exact Or.inr h
  have hS : va_S A s.heap s.heap [] := va_S.rf
  have hZ9 : va_Z "java/util/ArrayList" "DEFAULTCAPACITY_EMPTY_ELEMENTDATA" "[Ljava/lang/Object;" (.ref zd) A s s.heap := by rw [← hzd]; exact hZ.1
  have hin_X5 : ∀ w ∈ wsX50, w ∈ wsX8_queue := by decide +kernel
  have hin_X8 : ∀ w ∈ wsX80, w ∈ wsX8_queue := by decide +kernel
  have hbc : 0 + mc ≤ mc := by omega
  have hbs : 0 + ms ≤ ms := by omega
  have hl := lv_entry ([.ref a0, .int x1]) (n := 2) (Nat.le_of_ble_eq_true rfl)
  rw [lg_entry_eq]
  generalize (lg_sl ([.ref a0, .int x1]) ++ List.replicate (2 - (lg_sl ([.ref a0, .int x1])).length) Slot.unset).toArray = ls at hl ⊢
  have hl : lv_has ls 2 [(0, .ref a0), (1, .int x1)] := hl
  unfold wp_X8_queue at h
  refine lv_aload_n hx hb dX8_queue_0 rfl (lv_at hl 0 rfl) ?_
  obtain ⟨fs_2, a_1, he_fs_2, hv_fs_2, h⟩ := h
  refine fw_get (C := RX8) (T := TX8) (N := 9) hx hb hts hin_X8 hown hK hF he_fs_2 rfl 5 (by decide) (hts (.fieldLink RX8 45 "FrontCodedIndex" "loadList" "LFrontCodedIndex$LoadList;") (by decide +kernel)) (fun _ h9 => h9) hv_fs_2 dX8_queue_1 ?_
  obtain ⟨fs_4, a_3, he_fs_4, hv_fs_4, h⟩ := h
  refine fw_getN (C := RX5) (T := TX5) (N := 2) hx hb hts hin_X5 hown hK hF he_fs_4 rfl 0 (by decide) (va_Nw.use rfl (hZ.2.1 (.fieldLinkNest RX8 242 "FrontCodedIndex$LoadList" "keys" "LFrontCodedIndex$KeyRow;" "FrontCodedIndex") (by decide +kernel))) (fun _ h9 => h9) hv_fs_4 dX8_queue_4 ?_
  obtain ⟨⟨fs_r_5, hrc_r_5⟩, h⟩ := h
  refine fw_cV_i_p (As := []) (rest := []) ⟨hx, hb, hml, hown, hts⟩ (cc_X4_count l G h) (⟨callB_of 0 hts ggX8_queue_X4_count rfl rfl rfl (hts (.initialized RX4) (by decide +kernel)) (hts (.methodLink RX8 109 yX4_count) (by decide +kernel)) (by decide +kernel) ⟨Nat.le_of_ble_eq_true rfl, Nat.le_of_ble_eq_true rfl⟩, hts (.instanceMethod yX4_count) (by decide +kernel), hts (.selects RX4 yX4_count yX4_count) (by decide +kernel)⟩) rfl hrc_r_5 hK hZ hF hS hA rfl hl.1 rfl (Nat.le_of_ble_eq_true rfl) dX8_queue_7 ⟨by show _ ≤ mc; omega, by show _ ≤ ms; omega⟩ (fun r_5 H locs h hF hS => ?_)
  simp only [Nat.add_zero]
  refine lv_sipush (v := (300 : Int32)) hx hb dX8_queue_10 (by decide) ?_
  obtain ⟨h1, h2⟩ := h
  refine lv_icmp_lt (tgt := 26) hx hb dX8_queue_13 (by decide) (fun c_6 => ?_) (fun c_6 => ?_)
  · have h := h1 c_6
    refine lv_aload_n hx hb dX8_queue_26 rfl (lv_at hl 0 rfl) ?_
    obtain ⟨fs_8, a_7, he_fs_8, hv_fs_8, h⟩ := h
    refine fw_get (C := RX8) (T := TX8) (N := 9) hx hb hts hin_X8 hown hK hF he_fs_8 rfl 5 (by decide) (hts (.fieldLink RX8 45 "FrontCodedIndex" "loadList" "LFrontCodedIndex$LoadList;") (by decide +kernel)) (fun _ h9 => h9) hv_fs_8 dX8_queue_27 ?_
    refine lv_aload_n hx hb dX8_queue_30 rfl (lv_at hl 0 rfl) ?_
    obtain ⟨fs_10, a_9, he_fs_10, hv_fs_10, h⟩ := h
    refine fw_get (C := RX8) (T := TX8) (N := 9) hx hb hts hin_X8 hown hK hF he_fs_10 rfl 7 (by decide) (hts (.fieldLink RX8 58 "FrontCodedIndex" "key" "LFrontCodedIndex$Key;") (by decide +kernel)) (fun _ h9 => h9) hv_fs_10 dX8_queue_31 ?_
    obtain ⟨⟨fs_r_11, hrc_r_11⟩, h⟩ := h
    refine fw_cV_i_p (As := [.ref a_9]) (rest := []) ⟨hx, hb, hml, hown, hts⟩ (cc_X5_endsBelow l G h) (⟨callB_of 1 hts ggX8_queue_X5_endsBelow rfl rfl rfl (hts (.initialized RX5) (by decide +kernel)) (hts (.methodLink RX8 245 yX5_endsBelow) (by decide +kernel)) (by decide +kernel) ⟨Nat.le_of_ble_eq_true rfl, Nat.le_of_ble_eq_true rfl⟩, hts (.instanceMethod yX5_endsBelow) (by decide +kernel), hts (.selects RX5 yX5_endsBelow yX5_endsBelow) (by decide +kernel)⟩) rfl hrc_r_11 hK hZ hF hS hA rfl hl.1 rfl (Nat.le_of_ble_eq_true rfl) dX8_queue_34 ⟨by show _ ≤ mc; omega, by show _ ≤ ms; omega⟩ (fun r_11 H locs h hF hS => ?_)
    simp only [Nat.add_zero]
    obtain ⟨h1, h2⟩ := h
    refine lv_if_ne (tgt := 50) hx hb dX8_queue_37 (by decide) (fun c_12 => ?_) (fun c_12 => ?_)
    · have h := h1 c_12
      refine lv_aload_n hx hb dX8_queue_50 rfl (lv_at hl 0 rfl) ?_
      obtain ⟨fs_14, a_13, he_fs_14, hv_fs_14, h⟩ := h
      refine fw_get (C := RX8) (T := TX8) (N := 9) hx hb hts hin_X8 hown hK hF he_fs_14 rfl 5 (by decide) (hts (.fieldLink RX8 45 "FrontCodedIndex" "loadList" "LFrontCodedIndex$LoadList;") (by decide +kernel)) (fun _ h9 => h9) hv_fs_14 dX8_queue_51 ?_
      refine lv_aload_n hx hb dX8_queue_54 rfl (lv_at hl 0 rfl) ?_
      obtain ⟨fs_16, a_15, he_fs_16, hv_fs_16, h⟩ := h
      refine fw_get (C := RX8) (T := TX8) (N := 9) hx hb hts hin_X8 hown hK hF he_fs_16 rfl 7 (by decide) (hts (.fieldLink RX8 58 "FrontCodedIndex" "key" "LFrontCodedIndex$Key;") (by decide +kernel)) (fun _ h9 => h9) hv_fs_16 dX8_queue_55 ?_
      refine lv_iload_n hx hb dX8_queue_58 rfl (lv_at hl 1 rfl) ?_
      obtain ⟨ga_19, gb_20, hga_ga_19, hgb_ga_19, h⟩ := h
      obtain ⟨⟨fs_u_17, hrc_u_17⟩, h⟩ := h
      refine fw_cV_v (As := [.ref a_15, .int x1]) (rest := []) ⟨hx, hb, hml, hown, hts⟩ (cc_X5_append l G hzd h) (⟨callB_of 2 hts ggX8_queue_X5_append rfl rfl rfl (hts (.initialized RX5) (by decide +kernel)) (hts (.methodLink RX8 251 yX5_append) (by decide +kernel)) (by decide +kernel) ⟨Nat.le_of_ble_eq_true rfl, Nat.le_of_ble_eq_true rfl⟩, hts (.instanceMethod yX5_append) (by decide +kernel), hts (.selects RX5 yX5_append yX5_append) (by decide +kernel)⟩) rfl hrc_u_17 hK hZ hF hS hA rfl hl.1 rfl (Nat.le_of_ble_eq_true rfl) dX8_queue_59 ⟨by show _ ≤ mc; omega, by show _ ≤ ms; omega⟩ (fun f_18 H locs h hF hS => ?_)
      obtain ⟨cs_21, hcs⟩ : ∃ z, z = (0 + ga_19) := ⟨_, rfl⟩; obtain ⟨sl_22, hsl⟩ : ∃ z, z = (0 + gb_20) := ⟨_, rfl⟩
      have hbc : cs_21 + (mc - ga_19) ≤ mc := by omega
      have hbs : sl_22 + (ms - gb_20) ≤ ms := by omega
      refine W.widen (k := cs_21) (n := sl_22) (by omega) (by omega) ?_
      clear hcs hsl
      refine lv_aload_n hx hb dX8_queue_62 rfl (lv_at hl 0 rfl) ?_
      obtain ⟨fs_24, a_23, he_fs_24, hv_fs_24, h⟩ := h
      refine fw_get (C := RX8) (T := TX8) (N := 9) hx hb hts hin_X8 hown hK hF he_fs_24 rfl 5 (by decide) (hts (.fieldLink RX8 45 "FrontCodedIndex" "loadList" "LFrontCodedIndex$LoadList;") (by decide +kernel)) (fun _ h9 => h9) hv_fs_24 dX8_queue_63 ?_
      obtain ⟨fs_26, a_25, he_fs_26, hv_fs_26, h⟩ := h
      refine fw_getN (C := RX5) (T := TX5) (N := 2) hx hb hts hin_X5 hown hK hF he_fs_26 rfl 0 (by decide) (va_Nw.use rfl (hZ.2.1 (.fieldLinkNest RX8 242 "FrontCodedIndex$LoadList" "keys" "LFrontCodedIndex$KeyRow;" "FrontCodedIndex") (by decide +kernel))) (fun _ h9 => h9) hv_fs_26 dX8_queue_66 ?_
      obtain ⟨⟨fs_r_27, hrc_r_27⟩, h⟩ := h
      refine fw_cV_i_p (As := []) (rest := []) ⟨hx, hb, hml, hown, hts⟩ (cc_X4_count l G h) (⟨callB_of 0 hts ggX8_queue_X4_count rfl rfl rfl (hts (.initialized RX4) (by decide +kernel)) (hts (.methodLink RX8 109 yX4_count) (by decide +kernel)) (by decide +kernel) ⟨Nat.le_of_ble_eq_true rfl, Nat.le_of_ble_eq_true rfl⟩, hts (.instanceMethod yX4_count) (by decide +kernel), hts (.selects RX4 yX4_count yX4_count) (by decide +kernel)⟩) rfl hrc_r_27 hK hZ hF hS hA rfl hl.1 rfl (Nat.le_of_ble_eq_true rfl) dX8_queue_69 ⟨by show _ ≤ mc; omega, by show _ ≤ ms; omega⟩ (fun r_27 H locs h hF hS => ?_)
      simp only [Nat.add_zero]
      refine vx_ret ?_
      refine W.widen (k := mc) (n := ms) (by omega) (by omega) ?_
      exact W.iret (v := r_27) hx hb hr (fun t ht hW => ⟨⟨r_27, f_18, rfl, h, by rw [ht]; exact hF, FK.moved hW.alike hK⟩, hS.F ht⟩) hS.2.2 dX8_queue_72
    · have h := h2 c_12
      obtain ⟨hb1, hb2, h⟩ := h
      refine vx_throwS hx hb hlt (own := RX8) (cls := "java/lang/IllegalStateException") (text := "the key is not greater than the last one") (names := ["java/lang/RuntimeException", "java/lang/Exception"]) (ik := 76) (is := 249) (ic := 80) (sa := G.2.2 (100 + 249)) (A := A) hown (by decide) (by decide) (hts (.classLink RX8 76 "java/lang/IllegalStateException") (by decide +kernel)) (hts (.initialized "java/lang/IllegalStateException") (by decide +kernel)) (hX.1 (249, "the key is not greater than the last one") (by decide +kernel)) (vx_hat (B := thrB) (fun w hw => hts w ((by decide +kernel : ∀ w ∈ (vx_atS RX8 80 "java/lang/IllegalStateException" ["java/lang/RuntimeException", "java/lang/Exception"]).filter goodWord, w ∈ wsX8_queue) w hw)) (by decide +kernel) (fun w hw => va_Nw.use (thrB_tab w hw) (hX.2.1 w hw))) (by decide +kernel) hX.2.2.1 hX.2.2.2 hS (hl.1.trans hml.symm) dX8_queue_40 dX8_queue_43 dX8_queue_44 dX8_queue_46 dX8_queue_49 (fun x hx => (hxt x hx).elim) (Nat.le_of_ble_eq_true rfl) (Nat.le_of_ble_eq_true rfl) (by show _ ≤ mc; omega) (by show _ ≤ ms; omega) hlocks (fun t hvm hz hk => ⟨(f, "java/lang/IllegalStateException"), h, ⟨rfl, hF.kept (fun q e9 he9 => hk q (hF.in he9).2), FK.moved hvm hK⟩, ⟨Nat.le_trans hS.1 hz, fun q h1 h2 => (hk q (Nat.lt_of_lt_of_le h1 hS.1)).trans (hS.2.1 q h1 h2)⟩⟩) hS.2.2 (by omega) (by omega)
  · have h := h2 c_6
    obtain ⟨hb1, hb2, h⟩ := h
    refine vx_throwS hx hb hlt (own := RX8) (cls := "java/lang/IllegalStateException") (text := "the load list has 300 entries") (names := ["java/lang/RuntimeException", "java/lang/Exception"]) (ik := 76) (is := 243) (ic := 80) (sa := G.2.2 (100 + 243)) (A := A) hown (by decide) (by decide) (hts (.classLink RX8 76 "java/lang/IllegalStateException") (by decide +kernel)) (hts (.initialized "java/lang/IllegalStateException") (by decide +kernel)) (hX.1 (243, "the load list has 300 entries") (by decide +kernel)) (vx_hat (B := thrB) (fun w hw => hts w ((by decide +kernel : ∀ w ∈ (vx_atS RX8 80 "java/lang/IllegalStateException" ["java/lang/RuntimeException", "java/lang/Exception"]).filter goodWord, w ∈ wsX8_queue) w hw)) (by decide +kernel) (fun w hw => va_Nw.use (thrB_tab w hw) (hX.2.1 w hw))) (by decide +kernel) hX.2.2.1 hX.2.2.2 hS (hl.1.trans hml.symm) dX8_queue_16 dX8_queue_19 dX8_queue_20 dX8_queue_22 dX8_queue_25 (fun x hx => (hxt x hx).elim) (Nat.le_of_ble_eq_true rfl) (Nat.le_of_ble_eq_true rfl) (by show _ ≤ mc; omega) (by show _ ≤ ms; omega) hlocks (fun t hvm hz hk => ⟨(f, "java/lang/IllegalStateException"), h, ⟨rfl, hF.kept (fun q e9 he9 => hk q (hF.in he9).2), FK.moved hvm hK⟩, ⟨Nat.le_trans hS.1 hz, fun q h1 h2 => (hk q (Nat.lt_of_lt_of_le h1 hS.1)).trans (hS.2.1 q h1 h2)⟩⟩) hS.2.2 (by omega) (by omega)
theorem dX8_rank_0 : decode cX8_rank 0 = .ok (.aload_n 0, 1) := by decide +kernel
theorem dX8_rank_1 : decode cX8_rank 1 = .ok (.getfield 10, 3) := by decide +kernel
theorem dX8_rank_4 : decode cX8_rank 4 = .ok (.getfield 105, 3) := by decide +kernel
theorem dX8_rank_7 : decode cX8_rank 7 = .ok (.aload_n 0, 1) := by decide +kernel
theorem dX8_rank_8 : decode cX8_rank 8 = .ok (.getfield 58, 3) := by decide +kernel
theorem dX8_rank_11 : decode cX8_rank 11 = .ok (.iconst 0, 1) := by decide +kernel
theorem dX8_rank_12 : decode cX8_rank 12 = .ok (.invokevirtual 149, 3) := by decide +kernel
theorem dX8_rank_15 : decode cX8_rank 15 = .ok (.ireturn, 1) := by decide +kernel
set_option maxRecDepth 20000 in
theorem ggX8_rank_X4_countBelow : GoodIn wsX8_rank wsX4_countBelow := goodIn_r _ [7, 8, 9, 10, 11, 12, 13, 14, 15, 16, 17, 6, 18, 19, 20, 21, 22, 23, 24, 25, 26, 27, 28, 29, 30, 31, 32, 33, 34, 35, 36, 37, 38, 39, 40, 41, 42, 43, 44, 45, 46, 47, 48, 49, 50, 51, 69, 70, 71, 72, 73, 74] (by decide +kernel) (by decide +kernel)
def wp_X8_rank (a0 : Nat) (f : FT) (K : Int32 → Prop) : Prop :=
  gA f a0 11 0 fun a_1 => gA f a_1 10 0 fun a_3 => gA f a0 11 7 fun a_5 => isO f a_3 7 ∧ wp_X4_countBelow a_3 a_5 (0 : Int32) f (fun r_7 => K r_7)
set_option maxHeartbeats 4000000 in
set_option maxRecDepth 100000 in
theorem cc_X8_rank (l : Launch) (G : GG) {f : FT} {sz : Nat} {a0 : Nat} {K : Int32 → Prop} (h : wp_X8_rank a0 f K) : Met l yX8_rank wsX8_rank ({ frames := 5, cells := 0, slots := 0, locals := 111 } : Room) (FP G [.ref a0] f sz) (va_Qi (fun r f9 => K r ∧ f9 = f : Int32 → FT → Prop) (FB G (fA f sz)) (fA f sz)) 0 0 (fA f sz) := by
  refine Met.ofW (cc := cX8_rank) (maxL := 1) (ret := (some .int)) (by decide) rfl ?_
  intro p e s m args below meth c s₁ B hml hv
  obtain ⟨rfl, hsz, hF, hK, hZ⟩ := hv
  have hx := B.exec
  have hb := B.bytes
  have hr := B.returns
  have hts := atoms_spec (ws := wsX8_rank) B.pre
  have hown : s.vm.findClass RX8 = some m.cls := findClass_of_methodNamed B.named
  have hlocks := B.notSynchronized
  subst hsz
  have hF := hF.self (sz := s.heap.size)
  generalize hAe : fA f s.heap.size = A at hF hZ ⊢
  have hA : ∀ q : Nat, s.heap.size ≤ q → A q := fun q h => by rw [← hAe]; exact Or.inr h
  have hS : va_S A s.heap s.heap [] := va_S.rf
  have hin_X7 : ∀ w ∈ wsX70, w ∈ wsX8_rank := by decide +kernel
  have hin_X8 : ∀ w ∈ wsX80, w ∈ wsX8_rank := by decide +kernel
  have hl := lv_entry ([.ref a0]) (n := 1) (Nat.le_of_ble_eq_true rfl)
  rw [lg_entry_eq]
  generalize (lg_sl ([.ref a0]) ++ List.replicate (1 - (lg_sl ([.ref a0])).length) Slot.unset).toArray = ls at hl ⊢
  have hl : lv_has ls 1 [(0, .ref a0)] := hl
  unfold wp_X8_rank at h
  refine lv_aload_n hx hb dX8_rank_0 rfl (lv_at hl 0 rfl) ?_
  obtain ⟨fs_2, a_1, he_fs_2, hv_fs_2, h⟩ := h
  refine fw_get (C := RX8) (T := TX8) (N := 9) hx hb hts hin_X8 hown hK hF he_fs_2 rfl 0 (by decide) (hts (.fieldLink RX8 10 "FrontCodedIndex" "tree" "LFrontCodedIndex$Tree;") (by decide +kernel)) (fun _ h9 => h9) hv_fs_2 dX8_rank_1 ?_
  obtain ⟨fs_4, a_3, he_fs_4, hv_fs_4, h⟩ := h
  refine fw_getN (C := RX7) (T := TX7) (N := 8) hx hb hts hin_X7 hown hK hF he_fs_4 rfl 0 (by decide) (va_Nw.use rfl (hZ.2.1 (.fieldLinkNest RX8 105 "FrontCodedIndex$Tree" "keys" "LFrontCodedIndex$KeyRow;" "FrontCodedIndex") (by decide +kernel))) (fun _ h9 => h9) hv_fs_4 dX8_rank_4 ?_
  refine lv_aload_n hx hb dX8_rank_7 rfl (lv_at hl 0 rfl) ?_
  obtain ⟨fs_6, a_5, he_fs_6, hv_fs_6, h⟩ := h
  refine fw_get (C := RX8) (T := TX8) (N := 9) hx hb hts hin_X8 hown hK hF he_fs_6 rfl 7 (by decide) (hts (.fieldLink RX8 58 "FrontCodedIndex" "key" "LFrontCodedIndex$Key;") (by decide +kernel)) (fun _ h9 => h9) hv_fs_6 dX8_rank_8 ?_
  refine lv_iconst (v := (0 : Int32)) hx hb dX8_rank_11 (by decide) ?_
  obtain ⟨⟨fs_r_7, hrc_r_7⟩, h⟩ := h
  refine fw_cV_i_p (As := [.ref a_5, .int (0 : Int32)]) (rest := []) ⟨hx, hb, hml, hown, hts⟩ (cc_X4_countBelow l G h) (⟨callB_of 2 hts ggX8_rank_X4_countBelow rfl rfl rfl (hts (.initialized RX4) (by decide +kernel)) (hts (.methodLink RX8 149 yX4_countBelow) (by decide +kernel)) (by decide +kernel) ⟨Nat.le_of_ble_eq_true rfl, Nat.le_of_ble_eq_true rfl⟩, hts (.instanceMethod yX4_countBelow) (by decide +kernel), hts (.selects RX4 yX4_countBelow yX4_countBelow) (by decide +kernel)⟩) rfl hrc_r_7 hK hZ hF hS hA rfl hl.1 rfl (Nat.le_of_ble_eq_true rfl) dX8_rank_12 ⟨Nat.zero_le _, Nat.zero_le _⟩ (fun r_7 H locs h hF hS => ?_)
  exact W.iret (v := r_7) hx hb hr (fun t ht hW => ⟨⟨r_7, f, rfl, ⟨h, rfl⟩, by rw [ht]; exact hF, FK.moved hW.alike hK⟩, hS.F ht⟩) hS.2.2 dX8_rank_15
theorem dX8_remove_0 : decode cX8_remove 0 = .ok (.aload_n 0, 1) := by decide +kernel
theorem dX8_remove_1 : decode cX8_remove 1 = .ok (.getfield 38, 3) := by decide +kernel
theorem dX8_remove_4 : decode cX8_remove 4 = .ok (.aload_n 0, 1) := by decide +kernel
theorem dX8_remove_5 : decode cX8_remove 5 = .ok (.invokevirtual 140, 3) := by decide +kernel
theorem dX8_remove_8 : decode cX8_remove 8 = .ok (.invokevirtual 146, 3) := by decide +kernel
theorem dX8_remove_11 : decode cX8_remove 11 = .ok (.ireturn, 1) := by decide +kernel
set_option maxRecDepth 20000 in
theorem ggX8_remove_X6_removeEntry : GoodIn wsX8_remove wsX6_removeEntry := goodIn_r _ [68, 69, 70, 71, 72, 73, 74, 75, 76, 77, 78, 79, 80, 81, 82, 83, 84, 85, 86, 22, 23, 24, 25, 26, 87, 34, 35, 36, 37, 38, 39, 40, 41, 42, 43, 44, 45, 46, 47, 48, 49, 88, 89, 90, 91, 92, 93, 94, 95, 14, 96, 16, 21, 97, 98, 99, 100, 101, 102, 103, 104, 105, 106, 107, 108, 109, 110, 111, 112, 113, 114, 115, 116, 117, 118, 119, 120, 121, 122, 123, 124, 125, 126, 127, 128, 129, 130, 131, 132, 133, 134, 135, 136, 137, 67, 138, 139, 140, 141, 142, 143, 144, 145, 146, 147, 148, 149, 150, 151, 152, 153, 154, 155, 156, 157, 158, 28, 29, 30, 31, 32, 33, 159, 160, 161, 162, 163, 164, 165, 166, 53, 167, 59, 168, 56, 57, 58, 169, 170, 171, 172, 173, 174, 175, 176, 177, 178, 179, 180, 181, 182, 183, 184, 185, 186, 210, 211, 212, 196, 197, 198, 199, 200, 201, 202, 203, 213, 214, 206, 207, 208, 204, 205, 215, 209] (by decide +kernel) (by decide +kernel)
set_option maxRecDepth 20000 in
theorem ggX8_remove_X8_positionOfKey : GoodIn wsX8_remove wsX8_positionOfKey := goodIn_ca (goodIn_r _ [6, 7, 8, 9, 10, 11, 12, 13, 14, 15, 16, 17, 18, 19, 20, 21, 22, 23, 24, 25, 26, 27, 28, 29, 30, 31, 32, 33, 34, 35, 36, 37, 38, 39, 40, 41, 42, 43, 44, 45, 46, 47, 48, 49, 50, 51, 52, 53, 54, 55, 56, 57, 58, 59, 60, 61, 62, 63, 187, 188, 189, 190, 191, 192, 193, 194, 195, 196, 197, 198, 199, 200, 201, 202, 203, 204, 205, 206, 207, 208, 209] (by decide +kernel) (by decide +kernel)) (goodIn_sub (fun _ h => List.mem_cons_of_mem _ (List.mem_append_right _ h)) (by decide +kernel))
def wp_X8_remove (a0 : Nat) (f : FT) (mc ms : Nat) (K : Int32 → FT → Prop) (KX : String → FT → Prop) : Prop :=
  gA f a0 11 4 fun a_1 => ∃ ga_5 gb_6 : Nat, ga_5 ≤ mc ∧ gb_6 ≤ ms ∧ isO f a0 11 ∧ wp_X8_positionOfKey a0 f ga_5 gb_6 (fun r_3 f_4 => isO f_4 a_1 9 ∧ wp_X6_removeEntry a_1 r_3 f_4 (fun r_9 f_10 => K r_9 f_10)) KX
set_option maxHeartbeats 4000000 in
set_option maxRecDepth 100000 in
theorem cc_X8_remove (l : Launch) (G : GG) {f : FT} {sz : Nat} {a0 : Nat} {mc ms : Nat} {K : Int32 → FT → Prop} {KX : String → FT → Prop} (hlt : l.stackTraces = false) (h : wp_X8_remove a0 f mc ms K KX) : vx_Met l yX8_remove wsX8_remove ({ frames := 9, cells := mc, slots := ms, locals := 210 } : Room) (FPX G [.ref a0] f sz) (va_Qi (fun r f9 => K r f9 : Int32 → FT → Prop) (FB G (fA f sz)) (fA f sz)) (FXC G (fA f sz) KX) mc ms (fA f sz) := by
  refine vx_ofW (cc := cX8_remove) (maxL := 1) (ret := (some .int)) (by decide) rfl ?_
  intro p e s m args below meth c s₁ B hml hxt hv
  obtain ⟨rfl, hsz, hF, hK, hZ, hX⟩ := hv
  have hx := B.exec
  have hb := B.bytes
  have hr := B.returns
  have hts := atoms_spec (ws := wsX8_remove) B.pre
  have hown : s.vm.findClass RX8 = some m.cls := findClass_of_methodNamed B.named
  have hlocks := B.notSynchronized
  subst hsz
  have hF := hF.self (sz := s.heap.size)
  generalize hAe : fA f s.heap.size = A at hF hZ hX ⊢
  have hA : ∀ q : Nat, s.heap.size ≤ q → A q := fun q h => by rw [← hAe]; exact Or.inr h
  have hS : va_S A s.heap s.heap [] := va_S.rf
  have hin_X8 : ∀ w ∈ wsX80, w ∈ wsX8_remove := by decide +kernel
  have hbc : 0 + mc ≤ mc := by omega
  have hbs : 0 + ms ≤ ms := by omega
  have hl := lv_entry ([.ref a0]) (n := 1) (Nat.le_of_ble_eq_true rfl)
  rw [lg_entry_eq]
  generalize (lg_sl ([.ref a0]) ++ List.replicate (1 - (lg_sl ([.ref a0])).length) Slot.unset).toArray = ls at hl ⊢
  have hl : lv_has ls 1 [(0, .ref a0)] := hl
  unfold wp_X8_remove at h
  refine lv_aload_n hx hb dX8_remove_0 rfl (lv_at hl 0 rfl) ?_
  obtain ⟨fs_2, a_1, he_fs_2, hv_fs_2, h⟩ := h
  refine fw_get (C := RX8) (T := TX8) (N := 9) hx hb hts hin_X8 hown hK hF he_fs_2 rfl 4 (by decide) (hts (.fieldLink RX8 38 "FrontCodedIndex" "remover" "LFrontCodedIndex$Remover;") (by decide +kernel)) (fun _ h9 => h9) hv_fs_2 dX8_remove_1 ?_
  refine lv_aload_n hx hb dX8_remove_4 rfl (lv_at hl 0 rfl) ?_
  obtain ⟨ga_5, gb_6, hga_ga_5, hgb_ga_5, h⟩ := h
  obtain ⟨⟨fs_r_3, hrc_r_3⟩, h⟩ := h
  refine fx_cV_i (As := []) (rest := [.ref a_1]) ⟨hx, hb, hml, hown, hts⟩ (cc_X8_positionOfKey l G hlt h) (⟨callB_of 0 hts ggX8_remove_X8_positionOfKey rfl rfl rfl (hts (.initialized RX8) (by decide +kernel)) (hts (.methodLink RX8 140 yX8_positionOfKey) (by decide +kernel)) (by decide +kernel) ⟨Nat.le_of_ble_eq_true rfl, Nat.le_of_ble_eq_true rfl⟩, hts (.instanceMethod yX8_positionOfKey) (by decide +kernel), hts (.selects RX8 yX8_positionOfKey yX8_positionOfKey) (by decide +kernel)⟩) rfl hrc_r_3 hK hZ hX hF hS hA rfl hl.1 rfl (Nat.le_of_ble_eq_true rfl) dX8_remove_5 ⟨by show _ ≤ mc; omega, by show _ ≤ ms; omega⟩ hxt hlocks (by omega) (by omega) (fun r_3 f_4 H locs h hF hS => ?_)
  obtain ⟨cs_7, hcs⟩ : ∃ z, z = (0 + ga_5) := ⟨_, rfl⟩; obtain ⟨sl_8, hsl⟩ : ∃ z, z = (0 + gb_6) := ⟨_, rfl⟩
  have hbc : cs_7 + (mc - ga_5) ≤ mc := by omega
  have hbs : sl_8 + (ms - gb_6) ≤ ms := by omega
  refine W.widen (k := cs_7) (n := sl_8) (by omega) (by omega) ?_
  clear hcs hsl
  obtain ⟨⟨fs_r_9, hrc_r_9⟩, h⟩ := h
  refine fw_cV_i (As := [.int r_3]) (rest := []) ⟨hx, hb, hml, hown, hts⟩ (cc_X6_removeEntry l G h) (⟨callB_of 1 hts ggX8_remove_X6_removeEntry rfl rfl rfl (hts (.initialized RX6) (by decide +kernel)) (hts (.methodLink RX8 146 yX6_removeEntry) (by decide +kernel)) (by decide +kernel) ⟨Nat.le_of_ble_eq_true rfl, Nat.le_of_ble_eq_true rfl⟩, hts (.instanceMethod yX6_removeEntry) (by decide +kernel), hts (.selects RX6 yX6_removeEntry yX6_removeEntry) (by decide +kernel)⟩) rfl hrc_r_9 hK hZ hF hS hA rfl hl.1 rfl (Nat.le_of_ble_eq_true rfl) dX8_remove_8 ⟨by show _ ≤ mc; omega, by show _ ≤ ms; omega⟩ (fun r_9 f_10 H locs h hF hS => ?_)
  simp only [Nat.add_zero]
  refine vx_ret ?_
  refine W.widen (k := mc) (n := ms) (by omega) (by omega) ?_
  exact W.iret (v := r_9) hx hb hr (fun t ht hW => ⟨⟨r_9, f_10, rfl, h, by rw [ht]; exact hF, FK.moved hW.alike hK⟩, hS.F ht⟩) hS.2.2 dX8_remove_11
theorem dX8_removeAt_0 : decode cX8_removeAt 0 = .ok (.aload_n 0, 1) := by decide +kernel
theorem dX8_removeAt_1 : decode cX8_removeAt 1 = .ok (.getfield 38, 3) := by decide +kernel
theorem dX8_removeAt_4 : decode cX8_removeAt 4 = .ok (.aload_n 0, 1) := by decide +kernel
theorem dX8_removeAt_5 : decode cX8_removeAt 5 = .ok (.iload_n 1, 1) := by decide +kernel
theorem dX8_removeAt_6 : decode cX8_removeAt 6 = .ok (.invokevirtual 234, 3) := by decide +kernel
theorem dX8_removeAt_9 : decode cX8_removeAt 9 = .ok (.invokevirtual 146, 3) := by decide +kernel
theorem dX8_removeAt_12 : decode cX8_removeAt 12 = .ok (.ireturn, 1) := by decide +kernel
set_option maxRecDepth 20000 in
theorem ggX8_removeAt_X6_removeEntry : GoodIn wsX8_removeAt wsX6_removeEntry := goodIn_r _ [45, 46, 47, 48, 49, 50, 51, 52, 53, 54, 55, 56, 57, 58, 59, 60, 61, 62, 63, 36, 37, 38, 39, 40, 64, 65, 66, 67, 68, 69, 70, 71, 72, 73, 74, 75, 76, 77, 78, 79, 80, 81, 82, 83, 84, 85, 86, 87, 88, 32, 89, 34, 35, 90, 91, 92, 93, 94, 95, 96, 97, 98, 99, 100, 101, 102, 103, 104, 105, 106, 107, 108, 109, 110, 111, 112, 113, 114, 115, 116, 117, 118, 26, 119, 28, 120, 121, 122, 123, 124, 125, 126, 127, 128, 44, 129, 130, 131, 132, 133, 134, 135, 136, 137, 138, 139, 140, 141, 142, 143, 144, 145, 146, 147, 148, 149, 150, 151, 152, 153, 154, 155, 156, 157, 158, 159, 160, 161, 162, 163, 164, 165, 166, 167, 168, 169, 170, 171, 172, 173, 174, 175, 176, 177, 178, 179, 180, 181, 182, 183, 184, 185, 186, 187, 188, 212, 213, 214, 198, 199, 200, 201, 202, 203, 204, 205, 215, 216, 209, 210, 211, 207, 208, 206, 217] (by decide +kernel) (by decide +kernel)
set_option maxRecDepth 20000 in
theorem ggX8_removeAt_X8_entryOfCursor : GoodIn wsX8_removeAt wsX8_entryOfCursor := goodIn_ca (goodIn_ca (goodIn_ca (goodIn_r _ [6, 7, 8, 9, 10, 11, 12, 5, 13, 14, 15, 16, 17, 18, 19, 20, 21, 22, 23, 24, 25, 26, 27, 28, 29, 30, 31, 32, 33, 34, 35, 36, 37, 38, 39, 40, 189, 190, 191, 192, 193, 194, 195, 196, 197, 198, 199, 200, 201, 202, 203, 204, 205, 206, 207, 208, 209, 210, 211] (by decide +kernel) (by decide +kernel)) (goodIn_sub (fun _ h => List.mem_cons_of_mem _ (List.mem_append_left _ (List.mem_append_left _ (List.mem_append_right _ h)))) (by decide +kernel))) (goodIn_sub (fun _ h => List.mem_cons_of_mem _ (List.mem_append_left _ (List.mem_append_right _ h))) (by decide +kernel))) (goodIn_sub (fun _ h => List.mem_cons_of_mem _ (List.mem_append_right _ h)) (by decide +kernel))
def wp_X8_removeAt (a0 : Nat) (x1 : Int32) (f : FT) (mc ms : Nat) (K : Int32 → FT → Prop) (KX : String → FT → Prop) : Prop :=
  gA f a0 11 4 fun a_1 => ∃ ga_5 gb_6 : Nat, ga_5 ≤ mc ∧ gb_6 ≤ ms ∧ isO f a0 11 ∧ wp_X8_entryOfCursor a0 x1 f ga_5 gb_6 (fun r_3 f_4 => isO f_4 a_1 9 ∧ wp_X6_removeEntry a_1 r_3 f_4 (fun r_9 f_10 => K r_9 f_10)) KX
set_option maxHeartbeats 4000000 in
set_option maxRecDepth 100000 in
theorem cc_X8_removeAt (l : Launch) (G : GG) {f : FT} {sz : Nat} {a0 : Nat} {x1 : Int32} {mc ms : Nat} {K : Int32 → FT → Prop} {KX : String → FT → Prop} (hlt : l.stackTraces = false) (h : wp_X8_removeAt a0 x1 f mc ms K KX) : vx_Met l yX8_removeAt wsX8_removeAt ({ frames := 9, cells := mc, slots := ms, locals := 210 } : Room) (FPX G [.ref a0, .int x1] f sz) (va_Qi (fun r f9 => K r f9 : Int32 → FT → Prop) (FB G (fA f sz)) (fA f sz)) (FXC G (fA f sz) KX) mc ms (fA f sz) := by
  refine vx_ofW (cc := cX8_removeAt) (maxL := 2) (ret := (some .int)) (by decide) rfl ?_
  intro p e s m args below meth c s₁ B hml hxt hv
  obtain ⟨rfl, hsz, hF, hK, hZ, hX⟩ := hv
  have hx := B.exec
  have hb := B.bytes
  have hr := B.returns
  have hts := atoms_spec (ws := wsX8_removeAt) B.pre
  have hown : s.vm.findClass RX8 = some m.cls := findClass_of_methodNamed B.named
  have hlocks := B.notSynchronized
  subst hsz
  have hF := hF.self (sz := s.heap.size)
  generalize hAe : fA f s.heap.size = A at hF hZ hX ⊢
  have hA : ∀ q : Nat, s.heap.size ≤ q → A q := fun q h => by rw [← hAe]; exact Or.inr h
  have hS : va_S A s.heap s.heap [] := va_S.rf
  have hin_X8 : ∀ w ∈ wsX80, w ∈ wsX8_removeAt := by decide +kernel
  have hbc : 0 + mc ≤ mc := by omega
  have hbs : 0 + ms ≤ ms := by omega
  have hl := lv_entry ([.ref a0, .int x1]) (n := 2) (Nat.le_of_ble_eq_true rfl)
  rw [lg_entry_eq]
  generalize (lg_sl ([.ref a0, .int x1]) ++ List.replicate (2 - (lg_sl ([.ref a0, .int x1])).length) Slot.unset).toArray = ls at hl ⊢
  have hl : lv_has ls 2 [(0, .ref a0), (1, .int x1)] := hl
  unfold wp_X8_removeAt at h
  refine lv_aload_n hx hb dX8_removeAt_0 rfl (lv_at hl 0 rfl) ?_
  obtain ⟨fs_2, a_1, he_fs_2, hv_fs_2, h⟩ := h
  refine fw_get (C := RX8) (T := TX8) (N := 9) hx hb hts hin_X8 hown hK hF he_fs_2 rfl 4 (by decide) (hts (.fieldLink RX8 38 "FrontCodedIndex" "remover" "LFrontCodedIndex$Remover;") (by decide +kernel)) (fun _ h9 => h9) hv_fs_2 dX8_removeAt_1 ?_
  refine lv_aload_n hx hb dX8_removeAt_4 rfl (lv_at hl 0 rfl) ?_
  refine lv_iload_n hx hb dX8_removeAt_5 rfl (lv_at hl 1 rfl) ?_
  obtain ⟨ga_5, gb_6, hga_ga_5, hgb_ga_5, h⟩ := h
  obtain ⟨⟨fs_r_3, hrc_r_3⟩, h⟩ := h
  refine fx_cV_i (As := [.int x1]) (rest := [.ref a_1]) ⟨hx, hb, hml, hown, hts⟩ (cc_X8_entryOfCursor l G hlt h) (⟨callB_of 1 hts ggX8_removeAt_X8_entryOfCursor rfl rfl rfl (hts (.initialized RX8) (by decide +kernel)) (hts (.methodLink RX8 234 yX8_entryOfCursor) (by decide +kernel)) (by decide +kernel) ⟨Nat.le_of_ble_eq_true rfl, Nat.le_of_ble_eq_true rfl⟩, hts (.instanceMethod yX8_entryOfCursor) (by decide +kernel), hts (.selects RX8 yX8_entryOfCursor yX8_entryOfCursor) (by decide +kernel)⟩) rfl hrc_r_3 hK hZ hX hF hS hA rfl hl.1 rfl (Nat.le_of_ble_eq_true rfl) dX8_removeAt_6 ⟨by show _ ≤ mc; omega, by show _ ≤ ms; omega⟩ hxt hlocks (by omega) (by omega) (fun r_3 f_4 H locs h hF hS => ?_)
  obtain ⟨cs_7, hcs⟩ : ∃ z, z = (0 + ga_5) := ⟨_, rfl⟩; obtain ⟨sl_8, hsl⟩ : ∃ z, z = (0 + gb_6) := ⟨_, rfl⟩
  have hbc : cs_7 + (mc - ga_5) ≤ mc := by omega
  have hbs : sl_8 + (ms - gb_6) ≤ ms := by omega
  refine W.widen (k := cs_7) (n := sl_8) (by omega) (by omega) ?_
  clear hcs hsl
  obtain ⟨⟨fs_r_9, hrc_r_9⟩, h⟩ := h
  refine fw_cV_i (As := [.int r_3]) (rest := []) ⟨hx, hb, hml, hown, hts⟩ (cc_X6_removeEntry l G h) (⟨callB_of 1 hts ggX8_removeAt_X6_removeEntry rfl rfl rfl (hts (.initialized RX6) (by decide +kernel)) (hts (.methodLink RX8 146 yX6_removeEntry) (by decide +kernel)) (by decide +kernel) ⟨Nat.le_of_ble_eq_true rfl, Nat.le_of_ble_eq_true rfl⟩, hts (.instanceMethod yX6_removeEntry) (by decide +kernel), hts (.selects RX6 yX6_removeEntry yX6_removeEntry) (by decide +kernel)⟩) rfl hrc_r_9 hK hZ hF hS hA rfl hl.1 rfl (Nat.le_of_ble_eq_true rfl) dX8_removeAt_9 ⟨by show _ ≤ mc; omega, by show _ ≤ ms; omega⟩ (fun r_9 f_10 H locs h hF hS => ?_)
  simp only [Nat.add_zero]
  refine vx_ret ?_
  refine W.widen (k := mc) (n := ms) (by omega) (by omega) ?_
  exact W.iret (v := r_9) hx hb hr (fun t ht hW => ⟨⟨r_9, f_10, rfl, h, by rw [ht]; exact hF, FK.moved hW.alike hK⟩, hS.F ht⟩) hS.2.2 dX8_removeAt_12
theorem dX8_removeRange_0 : decode cX8_removeRange 0 = .ok (.aload_n 0, 1) := by decide +kernel
theorem dX8_removeRange_1 : decode cX8_removeRange 1 = .ok (.getfield 10, 3) := by decide +kernel
theorem dX8_removeRange_4 : decode cX8_removeRange 4 = .ok (.getfield 105, 3) := by decide +kernel
theorem dX8_removeRange_7 : decode cX8_removeRange 7 = .ok (.aload_n 0, 1) := by decide +kernel
theorem dX8_removeRange_8 : decode cX8_removeRange 8 = .ok (.getfield 62, 3) := by decide +kernel
theorem dX8_removeRange_11 : decode cX8_removeRange 11 = .ok (.iconst 0, 1) := by decide +kernel
theorem dX8_removeRange_12 : decode cX8_removeRange 12 = .ok (.invokevirtual 149, 3) := by decide +kernel
theorem dX8_removeRange_15 : decode cX8_removeRange 15 = .ok (.istore_n 1, 1) := by decide +kernel
theorem dX8_removeRange_16 : decode cX8_removeRange 16 = .ok (.aload_n 0, 1) := by decide +kernel
theorem dX8_removeRange_17 : decode cX8_removeRange 17 = .ok (.getfield 10, 3) := by decide +kernel
theorem dX8_removeRange_20 : decode cX8_removeRange 20 = .ok (.getfield 105, 3) := by decide +kernel
theorem dX8_removeRange_23 : decode cX8_removeRange 23 = .ok (.aload_n 0, 1) := by decide +kernel
theorem dX8_removeRange_24 : decode cX8_removeRange 24 = .ok (.getfield 58, 3) := by decide +kernel
theorem dX8_removeRange_27 : decode cX8_removeRange 27 = .ok (.iconst 0, 1) := by decide +kernel
theorem dX8_removeRange_28 : decode cX8_removeRange 28 = .ok (.invokevirtual 149, 3) := by decide +kernel
theorem dX8_removeRange_31 : decode cX8_removeRange 31 = .ok (.iload_n 1, 1) := by decide +kernel
theorem dX8_removeRange_32 : decode cX8_removeRange 32 = .ok (.isub, 1) := by decide +kernel
theorem dX8_removeRange_33 : decode cX8_removeRange 33 = .ok (.istore_n 2, 1) := by decide +kernel
theorem dX8_removeRange_34 : decode cX8_removeRange 34 = .ok (.iconst 0, 1) := by decide +kernel
theorem dX8_removeRange_35 : decode cX8_removeRange 35 = .ok (.istore_n 3, 1) := by decide +kernel
theorem dX8_removeRange_36 : decode cX8_removeRange 36 = .ok (.iload_n 3, 1) := by decide +kernel
theorem dX8_removeRange_37 : decode cX8_removeRange 37 = .ok (.iload_n 2, 1) := by decide +kernel
theorem dX8_removeRange_38 : decode cX8_removeRange 38 = .ok (.if_icmp .ge 18, 3) := by decide +kernel
theorem dX8_removeRange_41 : decode cX8_removeRange 41 = .ok (.aload_n 0, 1) := by decide +kernel
theorem dX8_removeRange_42 : decode cX8_removeRange 42 = .ok (.getfield 38, 3) := by decide +kernel
theorem dX8_removeRange_45 : decode cX8_removeRange 45 = .ok (.iload_n 1, 1) := by decide +kernel
theorem dX8_removeRange_46 : decode cX8_removeRange 46 = .ok (.invokevirtual 146, 3) := by decide +kernel
theorem dX8_removeRange_49 : decode cX8_removeRange 49 = .ok (.pop, 1) := by decide +kernel
theorem dX8_removeRange_50 : decode cX8_removeRange 50 = .ok (.iinc 3 1, 3) := by decide +kernel
theorem dX8_removeRange_53 : decode cX8_removeRange 53 = .ok (.goto (-17), 3) := by decide +kernel
theorem dX8_removeRange_56 : decode cX8_removeRange 56 = .ok (.iload_n 2, 1) := by decide +kernel
theorem dX8_removeRange_57 : decode cX8_removeRange 57 = .ok (.iconst 0, 1) := by decide +kernel
theorem dX8_removeRange_58 : decode cX8_removeRange 58 = .ok (.invokestatic 153, 3) := by decide +kernel
theorem dX8_removeRange_61 : decode cX8_removeRange 61 = .ok (.ireturn, 1) := by decide +kernel
set_option maxRecDepth 20000 in
theorem ggX8_removeRange_X4_countBelow : GoodIn wsX8_removeRange wsX4_countBelow := goodIn_r _ [13, 14, 15, 16, 17, 18, 19, 20, 21, 22, 23, 12, 24, 25, 26, 27, 28, 29, 30, 31, 32, 33, 34, 35, 36, 37, 38, 39, 40, 41, 42, 43, 44, 45, 46, 47, 48, 49, 50, 51, 52, 53, 54, 55, 56, 57, 195, 196, 197, 198, 199, 200] (by decide +kernel) (by decide +kernel)
set_option maxRecDepth 20000 in
theorem ggX8_removeRange_X6_removeEntry : GoodIn wsX8_removeRange wsX6_removeEntry := goodIn_r _ [62, 63, 64, 65, 66, 67, 68, 69, 70, 71, 72, 73, 74, 75, 76, 77, 78, 79, 80, 16, 17, 18, 19, 20, 81, 28, 29, 30, 31, 32, 33, 34, 35, 36, 37, 38, 39, 40, 41, 42, 43, 82, 83, 84, 85, 86, 87, 88, 89, 12, 90, 14, 15, 91, 92, 93, 94, 95, 96, 97, 98, 99, 100, 101, 102, 103, 104, 105, 106, 107, 108, 109, 110, 111, 112, 113, 6, 7, 8, 114, 115, 116, 117, 118, 119, 120, 121, 122, 123, 124, 125, 126, 127, 128, 61, 129, 130, 131, 132, 133, 134, 135, 136, 137, 138, 139, 140, 141, 142, 143, 144, 145, 146, 147, 148, 149, 22, 23, 24, 25, 26, 27, 150, 151, 152, 153, 154, 155, 156, 157, 47, 158, 53, 159, 50, 51, 52, 160, 161, 162, 163, 164, 165, 166, 167, 168, 169, 170, 171, 172, 173, 174, 175, 176, 177, 201, 202, 203, 187, 188, 189, 190, 191, 192, 193, 194, 204, 205, 197, 198, 199, 195, 196, 206, 200] (by decide +kernel) (by decide +kernel)
def wp_X8_removeRange_36 (a0 : Nat) (y1 : Int32) (y2 : Int32) (K : Int32 → FT → Prop)  (C36 : Int32 × FT → Prop) : Int32 × FT → Prop := fun s9 => match s9 with
  | (y3, f) => ((y2 ≤ y3 → ∀ v_2 : Int32, v_2 = (jmax y2 (0 : Int32)) → K v_2 f) ∧
 (¬ (y2 ≤ y3) → gA f a0 11 4 fun a_3 => isO f a_3 9 ∧ wp_X6_removeEntry a_3 y1 f (fun r_5 f_6 => ∀ v_7 : Int32, v_7 = y3 + 1 → C36 (v_7, f_6))))
def wp_X8_removeRange (a0 : Nat) (f : FT) (K : Int32 → FT → Prop) : Prop :=
  gA f a0 11 0 fun a_9 => gA f a_9 10 0 fun a_11 => gA f a0 11 8 fun a_13 => isO f a_11 7 ∧ wp_X4_countBelow a_11 a_13 (0 : Int32) f (fun r_15 => gA f a0 11 0 fun a_16 => gA f a_16 10 0 fun a_18 => gA f a0 11 7 fun a_20 => isO f a_18 7 ∧ wp_X4_countBelow a_18 a_20 (0 : Int32) f (fun r_22 => ∀ v_23 : Int32, v_23 = (r_22 - r_15) → ∃ n_25, loopW (wp_X8_removeRange_36 a0 r_15 v_23 K) n_25 ((0 : Int32), f)))
set_option maxHeartbeats 4000000 in
set_option maxRecDepth 100000 in
theorem cc_X8_removeRange (l : Launch) (G : GG) {f : FT} {sz : Nat} {a0 : Nat} {K : Int32 → FT → Prop} (h : wp_X8_removeRange a0 f K) : Met l yX8_removeRange wsX8_removeRange ({ frames := 9, cells := 0, slots := 0, locals := 210 } : Room) (FP G [.ref a0] f sz) (va_Qi (fun r f9 => K r f9 : Int32 → FT → Prop) (FB G (fA f sz)) (fA f sz)) 0 0 (fA f sz) := by
  refine Met.ofW (cc := cX8_removeRange) (maxL := 4) (ret := (some .int)) (by decide) rfl ?_
  intro p e s m args below meth c s₁ B hml hv
  obtain ⟨rfl, hsz, hF, hK, hZ⟩ := hv
  have hx := B.exec
  have hb := B.bytes
  have hr := B.returns
  have hts := atoms_spec (ws := wsX8_removeRange) B.pre
  have hown : s.vm.findClass RX8 = some m.cls := findClass_of_methodNamed B.named
  have hlocks := B.notSynchronized
  subst hsz
  have hF := hF.self (sz := s.heap.size)
  generalize hAe : fA f s.heap.size = A at hF hZ ⊢
  have hA : ∀ q : Nat, s.heap.size ≤ q → A q := fun q h => by rw [← hAe]; exact Or.inr h
  have hS : va_S A s.heap s.heap [] := va_S.rf
  have hin_X7 : ∀ w ∈ wsX70, w ∈ wsX8_removeRange := by decide +kernel
  have hin_X8 : ∀ w ∈ wsX80, w ∈ wsX8_removeRange := by decide +kernel
  have L36 : ∀ (y1 : Int32) (y2 : Int32) (j9 : Nat) (y3 : Int32) (f : FT) (H : Heap) (locs : List Loc) (ls : Array Slot), loopW (wp_X8_removeRange_36 a0 y1 y2 K ) j9 (y3, f) → Fw G A f H → va_S A s.heap H locs → lv_has ls 4 [(0, .ref a0), (1, .int y1), (2, .int y2), (3, .int y3)] → W p l e ({ frames := 9, cells := 0, slots := 0, locals := 210 } : Room) s m ([.ref a0] : List Value).toArray below meth c H locs 0 0 (MQ below (va_Qi (fun r f9 => K r f9 : Int32 → FT → Prop) (FB G A) A) ([.ref a0] : List Value).toArray s 0 0 A) (F0 m 36 ls []) := by
    intro y1 y2 j9
    induction j9 with
    | zero => intro y3 f H locs ls h; exact h.elim
    | succ j9 ih36 =>
      intro y3 f H locs ls h hF hS hl
      have h : wp_X8_removeRange_36 a0 y1 y2 K  (loopW (wp_X8_removeRange_36 a0 y1 y2 K ) j9) (y3, f) := h
      generalize loopW (wp_X8_removeRange_36 a0 y1 y2 K ) j9 = C36 at ih36 h
      unfold wp_X8_removeRange_36 at h
      refine lv_iload_n hx hb dX8_removeRange_36 rfl (lv_at hl 3 rfl) ?_
      refine lv_iload_n hx hb dX8_removeRange_37 rfl (lv_at hl 2 rfl) ?_
      obtain ⟨h1, h2⟩ := h
      refine lv_icmp_ge (tgt := 56) hx hb dX8_removeRange_38 (by decide) (fun c_1 => ?_) (fun c_1 => ?_)
      · have h := h1 c_1
        refine lv_iload_n hx hb dX8_removeRange_56 rfl (lv_at hl 2 rfl) ?_
        refine lv_iconst (v := (0 : Int32)) hx hb dX8_removeRange_57 (by decide) ?_
        refine va_mmax hx hb (hml.trans hl.1.symm) hown (hts (.methodLink RX8 153 Lib.Math.max.name) (by decide +kernel)) (hts (.static Lib.Math.max.name) (by decide +kernel)) (hts (.initialized "java/lang/Math") (by decide +kernel)) (hts (.code Lib.Math.max.name Lib.Math.max.code 2 (some .int)) (by decide +kernel)) (Nat.le_of_ble_eq_true rfl) (Nat.le_of_ble_eq_true rfl) (Nat.zero_le _) (Nat.zero_le _) dX8_removeRange_58 ?_
        refine lv_topi (fun v_2 e_v_2 => ?_)
        have h := h v_2 e_v_2
        exact W.iret (v := v_2) hx hb hr (fun t ht hW => ⟨⟨v_2, f, rfl, h, by rw [ht]; exact hF, FK.moved hW.alike hK⟩, hS.F ht⟩) hS.2.2 dX8_removeRange_61
      · have h := h2 c_1
        refine lv_aload_n hx hb dX8_removeRange_41 rfl (lv_at hl 0 rfl) ?_
        obtain ⟨fs_4, a_3, he_fs_4, hv_fs_4, h⟩ := h
        refine fw_get (C := RX8) (T := TX8) (N := 9) hx hb hts hin_X8 hown hK hF he_fs_4 rfl 4 (by decide) (hts (.fieldLink RX8 38 "FrontCodedIndex" "remover" "LFrontCodedIndex$Remover;") (by decide +kernel)) (fun _ h9 => h9) hv_fs_4 dX8_removeRange_42 ?_
        refine lv_iload_n hx hb dX8_removeRange_45 rfl (lv_at hl 1 rfl) ?_
        obtain ⟨⟨fs_r_5, hrc_r_5⟩, h⟩ := h
        refine fw_cV_i (As := [.int y1]) (rest := []) ⟨hx, hb, hml, hown, hts⟩ (cc_X6_removeEntry l G h) (⟨callB_of 1 hts ggX8_removeRange_X6_removeEntry rfl rfl rfl (hts (.initialized RX6) (by decide +kernel)) (hts (.methodLink RX8 146 yX6_removeEntry) (by decide +kernel)) (by decide +kernel) ⟨Nat.le_of_ble_eq_true rfl, Nat.le_of_ble_eq_true rfl⟩, hts (.instanceMethod yX6_removeEntry) (by decide +kernel), hts (.selects RX6 yX6_removeEntry yX6_removeEntry) (by decide +kernel)⟩) rfl hrc_r_5 hK hZ hF hS hA rfl hl.1 rfl (Nat.le_of_ble_eq_true rfl) dX8_removeRange_46 ⟨Nat.zero_le _, Nat.zero_le _⟩ (fun r_5 f_6 H locs h hF hS => ?_)
        refine lv_pop hx hb dX8_removeRange_49 rfl ?_
        obtain ⟨v_7, e_8⟩ : ∃ y : Int32, y = y3 + 1 := ⟨_, rfl⟩
        have h := h v_7 e_8
        refine lv_iinc (v := v_7) (lv' := [(3, .int v_7), (0, .ref a0), (1, .int y1), (2, .int y2)]) hx hb dX8_removeRange_50 hl (k := 3) rfl (by rw [e_8]; rfl) (by decide) rfl (fun ls hl => ?_)
        refine lv_goto (tgt := 36) hx hb dX8_removeRange_53 (by decide) ?_
        exact ih36 v_7 f_6 _ _ _ h hF hS (lv_sub hl [1, 2, 3, 0] rfl)
  have hl := lv_entry ([.ref a0]) (n := 4) (Nat.le_of_ble_eq_true rfl)
  rw [lg_entry_eq]
  generalize (lg_sl ([.ref a0]) ++ List.replicate (4 - (lg_sl ([.ref a0])).length) Slot.unset).toArray = ls at hl ⊢
  have hl : lv_has ls 4 [(0, .ref a0)] := hl
  unfold wp_X8_removeRange at h
  refine lv_aload_n hx hb dX8_removeRange_0 rfl (lv_at hl 0 rfl) ?_
  obtain ⟨fs_10, a_9, he_fs_10, hv_fs_10, h⟩ := h
  refine fw_get (C := RX8) (T := TX8) (N := 9) hx hb hts hin_X8 hown hK hF he_fs_10 rfl 0 (by decide) (hts (.fieldLink RX8 10 "FrontCodedIndex" "tree" "LFrontCodedIndex$Tree;") (by decide +kernel)) (fun _ h9 => h9) hv_fs_10 dX8_removeRange_1 ?_
  obtain ⟨fs_12, a_11, he_fs_12, hv_fs_12, h⟩ := h
  refine fw_getN (C := RX7) (T := TX7) (N := 8) hx hb hts hin_X7 hown hK hF he_fs_12 rfl 0 (by decide) (va_Nw.use rfl (hZ.2.1 (.fieldLinkNest RX8 105 "FrontCodedIndex$Tree" "keys" "LFrontCodedIndex$KeyRow;" "FrontCodedIndex") (by decide +kernel))) (fun _ h9 => h9) hv_fs_12 dX8_removeRange_4 ?_
  refine lv_aload_n hx hb dX8_removeRange_7 rfl (lv_at hl 0 rfl) ?_
  obtain ⟨fs_14, a_13, he_fs_14, hv_fs_14, h⟩ := h
  refine fw_get (C := RX8) (T := TX8) (N := 9) hx hb hts hin_X8 hown hK hF he_fs_14 rfl 8 (by decide) (hts (.fieldLink RX8 62 "FrontCodedIndex" "bound" "LFrontCodedIndex$Key;") (by decide +kernel)) (fun _ h9 => h9) hv_fs_14 dX8_removeRange_8 ?_
  refine lv_iconst (v := (0 : Int32)) hx hb dX8_removeRange_11 (by decide) ?_
  obtain ⟨⟨fs_r_15, hrc_r_15⟩, h⟩ := h
  refine fw_cV_i_p (As := [.ref a_13, .int (0 : Int32)]) (rest := []) ⟨hx, hb, hml, hown, hts⟩ (cc_X4_countBelow l G h) (⟨callB_of 2 hts ggX8_removeRange_X4_countBelow rfl rfl rfl (hts (.initialized RX4) (by decide +kernel)) (hts (.methodLink RX8 149 yX4_countBelow) (by decide +kernel)) (by decide +kernel) ⟨Nat.le_of_ble_eq_true rfl, Nat.le_of_ble_eq_true rfl⟩, hts (.instanceMethod yX4_countBelow) (by decide +kernel), hts (.selects RX4 yX4_countBelow yX4_countBelow) (by decide +kernel)⟩) rfl hrc_r_15 hK hZ hF hS hA rfl hl.1 rfl (Nat.le_of_ble_eq_true rfl) dX8_removeRange_12 ⟨Nat.zero_le _, Nat.zero_le _⟩ (fun r_15 H locs h hF hS => ?_)
  refine lv_istore_n (lv' := [(1, .int r_15), (0, .ref a0)]) hx hb dX8_removeRange_15 rfl hl (by decide) rfl (fun ls hl => ?_)
  refine lv_aload_n hx hb dX8_removeRange_16 rfl (lv_at hl 1 rfl) ?_
  obtain ⟨fs_17, a_16, he_fs_17, hv_fs_17, h⟩ := h
  refine fw_get (C := RX8) (T := TX8) (N := 9) hx hb hts hin_X8 hown hK hF he_fs_17 rfl 0 (by decide) (hts (.fieldLink RX8 10 "FrontCodedIndex" "tree" "LFrontCodedIndex$Tree;") (by decide +kernel)) (fun _ h9 => h9) hv_fs_17 dX8_removeRange_17 ?_
  obtain ⟨fs_19, a_18, he_fs_19, hv_fs_19, h⟩ := h
  refine fw_getN (C := RX7) (T := TX7) (N := 8) hx hb hts hin_X7 hown hK hF he_fs_19 rfl 0 (by decide) (va_Nw.use rfl (hZ.2.1 (.fieldLinkNest RX8 105 "FrontCodedIndex$Tree" "keys" "LFrontCodedIndex$KeyRow;" "FrontCodedIndex") (by decide +kernel))) (fun _ h9 => h9) hv_fs_19 dX8_removeRange_20 ?_
  refine lv_aload_n hx hb dX8_removeRange_23 rfl (lv_at hl 1 rfl) ?_
  obtain ⟨fs_21, a_20, he_fs_21, hv_fs_21, h⟩ := h
  refine fw_get (C := RX8) (T := TX8) (N := 9) hx hb hts hin_X8 hown hK hF he_fs_21 rfl 7 (by decide) (hts (.fieldLink RX8 58 "FrontCodedIndex" "key" "LFrontCodedIndex$Key;") (by decide +kernel)) (fun _ h9 => h9) hv_fs_21 dX8_removeRange_24 ?_
  refine lv_iconst (v := (0 : Int32)) hx hb dX8_removeRange_27 (by decide) ?_
  obtain ⟨⟨fs_r_22, hrc_r_22⟩, h⟩ := h
  refine fw_cV_i_p (As := [.ref a_20, .int (0 : Int32)]) (rest := []) ⟨hx, hb, hml, hown, hts⟩ (cc_X4_countBelow l G h) (⟨callB_of 2 hts ggX8_removeRange_X4_countBelow rfl rfl rfl (hts (.initialized RX4) (by decide +kernel)) (hts (.methodLink RX8 149 yX4_countBelow) (by decide +kernel)) (by decide +kernel) ⟨Nat.le_of_ble_eq_true rfl, Nat.le_of_ble_eq_true rfl⟩, hts (.instanceMethod yX4_countBelow) (by decide +kernel), hts (.selects RX4 yX4_countBelow yX4_countBelow) (by decide +kernel)⟩) rfl hrc_r_22 hK hZ hF hS hA rfl hl.1 rfl (Nat.le_of_ble_eq_true rfl) dX8_removeRange_28 ⟨Nat.zero_le _, Nat.zero_le _⟩ (fun r_22 H locs h hF hS => ?_)
  refine lv_iload_n hx hb dX8_removeRange_31 rfl (lv_at hl 0 rfl) ?_
  refine lv_isub hx hb dX8_removeRange_32 ?_
  refine lv_topi (fun v_23 e_24 => ?_)
  have h := h v_23 e_24
  refine lv_istore_n (lv' := [(2, .int v_23), (1, .int r_15), (0, .ref a0)]) hx hb dX8_removeRange_33 rfl hl (by decide) rfl (fun ls hl => ?_)
  refine lv_iconst (v := (0 : Int32)) hx hb dX8_removeRange_34 (by decide) ?_
  refine lv_istore_n (lv' := [(3, .int (0 : Int32)), (2, .int v_23), (1, .int r_15), (0, .ref a0)]) hx hb dX8_removeRange_35 rfl hl (by decide) rfl (fun ls hl => ?_)
  obtain ⟨n_25, h⟩ := h
  exact L36 r_15 v_23 n_25 (0 : Int32) f _ _ _ h hF hS (lv_sub hl [3, 2, 1, 0] rfl)
theorem dX8_restoreSnapshot_0 : decode cX8_restoreSnapshot 0 = .ok (.aload_n 0, 1) := by decide +kernel
theorem dX8_restoreSnapshot_1 : decode cX8_restoreSnapshot 1 = .ok (.getfield 49, 3) := by decide +kernel
theorem dX8_restoreSnapshot_4 : decode cX8_restoreSnapshot 4 = .ok (.ifCond .ne 14, 3) := by decide +kernel
theorem dX8_restoreSnapshot_7 : decode cX8_restoreSnapshot 7 = .ok (.new 76, 3) := by decide +kernel
theorem dX8_restoreSnapshot_10 : decode cX8_restoreSnapshot 10 = .ok (.dup, 1) := by decide +kernel
theorem dX8_restoreSnapshot_11 : decode cX8_restoreSnapshot 11 = .ok (.ldc_w 270, 3) := by decide +kernel
theorem dX8_restoreSnapshot_14 : decode cX8_restoreSnapshot 14 = .ok (.invokespecial 80, 3) := by decide +kernel
theorem dX8_restoreSnapshot_17 : decode cX8_restoreSnapshot 17 = .ok (.athrow, 1) := by decide +kernel
theorem dX8_restoreSnapshot_18 : decode cX8_restoreSnapshot 18 = .ok (.aload_n 0, 1) := by decide +kernel
theorem dX8_restoreSnapshot_19 : decode cX8_restoreSnapshot 19 = .ok (.getfield 10, 3) := by decide +kernel
theorem dX8_restoreSnapshot_22 : decode cX8_restoreSnapshot 22 = .ok (.aload_n 0, 1) := by decide +kernel
theorem dX8_restoreSnapshot_23 : decode cX8_restoreSnapshot 23 = .ok (.getfield 16, 3) := by decide +kernel
theorem dX8_restoreSnapshot_26 : decode cX8_restoreSnapshot 26 = .ok (.invokevirtual 266, 3) := by decide +kernel
theorem dX8_restoreSnapshot_29 : decode cX8_restoreSnapshot 29 = .ok (.aload_n 0, 1) := by decide +kernel
theorem dX8_restoreSnapshot_30 : decode cX8_restoreSnapshot 30 = .ok (.getfield 22, 3) := by decide +kernel
theorem dX8_restoreSnapshot_33 : decode cX8_restoreSnapshot 33 = .ok (.invokevirtual 263, 3) := by decide +kernel
theorem dX8_restoreSnapshot_36 : decode cX8_restoreSnapshot 36 = .ok (.aload_n 0, 1) := by decide +kernel
theorem dX8_restoreSnapshot_37 : decode cX8_restoreSnapshot 37 = .ok (.getfield 10, 3) := by decide +kernel
theorem dX8_restoreSnapshot_40 : decode cX8_restoreSnapshot 40 = .ok (.getfield 105, 3) := by decide +kernel
theorem dX8_restoreSnapshot_43 : decode cX8_restoreSnapshot 43 = .ok (.invokevirtual 109, 3) := by decide +kernel
theorem dX8_restoreSnapshot_46 : decode cX8_restoreSnapshot 46 = .ok (.ireturn, 1) := by decide +kernel
set_option maxRecDepth 20000 in
theorem ggX8_restoreSnapshot_X0_closeAll : GoodIn wsX8_restoreSnapshot wsX0_closeAll := goodIn_r _ [162, 163, 164, 165, 86, 166, 195] (by decide +kernel) (by decide +kernel)
set_option maxRecDepth 20000 in
theorem ggX8_restoreSnapshot_X4_count : GoodIn wsX8_restoreSnapshot wsX4_count := goodIn_r _ [170, 22, 33, 34, 35, 27, 36, 32, 188, 189, 190, 191, 192] (by decide +kernel) (by decide +kernel)
set_option maxRecDepth 20000 in
theorem ggX8_restoreSnapshot_X7_copyFrom : GoodIn wsX8_restoreSnapshot wsX7_copyFrom := goodIn_r _ [11, 12, 13, 14, 15, 16, 17, 18, 19, 20, 21, 22, 23, 24, 25, 26, 27, 28, 29, 30, 31, 32, 33, 34, 35, 36, 37, 38, 39, 40, 41, 42, 43, 44, 45, 46, 47, 48, 49, 50, 51, 52, 53, 54, 55, 56, 57, 58, 59, 60, 61, 62, 63, 64, 65, 66, 67, 68, 69, 70, 71, 72, 73, 74, 75, 76, 77, 78, 79, 80, 81, 82, 83, 84, 85, 86, 87, 88, 89, 90, 91, 92, 93, 94, 95, 96, 97, 98, 99, 100, 101, 102, 103, 104, 105, 106, 107, 108, 109, 110, 111, 112, 113, 114, 115, 116, 117, 118, 119, 120, 121, 122, 123, 124, 125, 126, 127, 128, 129, 130, 131, 132, 133, 134, 135, 10, 136, 137, 138, 139, 140, 141, 142, 143, 144, 145, 146, 147, 148, 149, 150, 151, 152, 153, 154, 155, 156, 157, 180, 181, 182, 183, 184, 185, 186, 187, 188, 189, 190, 191, 192, 193, 194] (by decide +kernel) (by decide +kernel)
def wp_X8_restoreSnapshot (zd : Nat) (a0 : Nat) (f : FT) (mc ms : Nat) (K : Int32 → FT → Prop) (KX : String → FT → Prop) : Prop :=
  gI f a0 11 6 fun v_1 => ((¬ v_1 = (0 : Int32) → gA f a0 11 0 fun a_4 => gA f a0 11 1 fun a_6 => ∃ ga_10 gb_11 : Nat, ga_10 ≤ mc ∧ gb_11 ≤ ms ∧ isO f a_4 10 ∧ wp_X7_copyFrom zd a_4 a_6 f ga_10 gb_11 (fun f_9 => gA f_9 a0 11 2 fun a_14 => isO f_9 a_14 3 ∧ wp_X0_closeAll a_14 f_9 (fun f_17 => gA f_17 a0 11 0 fun a_18 => gA f_17 a_18 10 0 fun a_20 => isO f_17 a_20 7 ∧ wp_X4_count a_20 f_17 (fun r_22 => K r_22 f_17)))) ∧
 (v_1 = (0 : Int32) → 1 ≤ mc ∧ 6 ≤ ms ∧ KX "java/lang/IllegalStateException" f))
set_option maxHeartbeats 4000000 in
set_option maxRecDepth 100000 in
theorem cc_X8_restoreSnapshot (l : Launch) (G : GG) {zd : Nat} (hzd : G.2.2 0 = zd) {f : FT} {sz : Nat} {a0 : Nat} {mc ms : Nat} {K : Int32 → FT → Prop} {KX : String → FT → Prop} (hlt : l.stackTraces = false) (h : wp_X8_restoreSnapshot zd a0 f mc ms K KX) : vx_Met l yX8_restoreSnapshot wsX8_restoreSnapshot ({ frames := 9, cells := mc, slots := ms, locals := 215 } : Room) (FPX G [.ref a0] f sz) (va_Qi (fun r f9 => K r f9 : Int32 → FT → Prop) (FB G (fA f sz)) (fA f sz)) (FXC G (fA f sz) KX) mc ms (fA f sz) := by
  refine vx_ofW (cc := cX8_restoreSnapshot) (maxL := 1) (ret := (some .int)) (by decide) rfl ?_
  intro p e s m args below meth c s₁ B hml hxt hv
  obtain ⟨rfl, hsz, hF, hK, hZ, hX⟩ := hv
  have hx := B.exec
  have hb := B.bytes
  have hr := B.returns
  have hts := atoms_spec (ws := wsX8_restoreSnapshot) B.pre
  have hown : s.vm.findClass RX8 = some m.cls := findClass_of_methodNamed B.named
  have hlocks := B.notSynchronized
  subst hsz
  have hF := hF.self (sz := s.heap.size)
  generalize hAe : fA f s.heap.size = A at hF hZ hX ⊢
  have hA : ∀ q : Nat, s.heap.size ≤ q → A q := fun q h => by rw [← hAe]; exact Or.inr h
  have hS : va_S A s.heap s.heap [] := va_S.rf
  have hZ9 : va_Z "java/util/ArrayList" "DEFAULTCAPACITY_EMPTY_ELEMENTDATA" "[Ljava/lang/Object;" (.ref zd) A s s.heap := by rw [← hzd]; exact hZ.1
  have hin_X7 : ∀ w ∈ wsX70, w ∈ wsX8_restoreSnapshot := by decide +kernel
  have hin_X8 : ∀ w ∈ wsX80, w ∈ wsX8_restoreSnapshot := by decide +kernel
  have hbc : 0 + mc ≤ mc := by omega
  have hbs : 0 + ms ≤ ms := by omega
  have hl := lv_entry ([.ref a0]) (n := 1) (Nat.le_of_ble_eq_true rfl)
  rw [lg_entry_eq]
  generalize (lg_sl ([.ref a0]) ++ List.replicate (1 - (lg_sl ([.ref a0])).length) Slot.unset).toArray = ls at hl ⊢
  have hl : lv_has ls 1 [(0, .ref a0)] := hl
  unfold wp_X8_restoreSnapshot at h
  refine lv_aload_n hx hb dX8_restoreSnapshot_0 rfl (lv_at hl 0 rfl) ?_
  obtain ⟨fs_2, v_1, he_fs_2, hv_fs_2, h⟩ := h
  refine fw_get (C := RX8) (T := TX8) (N := 9) hx hb hts hin_X8 hown hK hF he_fs_2 rfl 6 (by decide) (hts (.fieldLink RX8 49 "FrontCodedIndex" "snapshotSaved" "Z") (by decide +kernel)) (fun _ h9 => h9) hv_fs_2 dX8_restoreSnapshot_1 ?_
  obtain ⟨h1, h2⟩ := h
  refine lv_if_ne (tgt := 18) hx hb dX8_restoreSnapshot_4 (by decide) (fun c_3 => ?_) (fun c_3 => ?_)
  · have h := h1 c_3
    refine lv_aload_n hx hb dX8_restoreSnapshot_18 rfl (lv_at hl 0 rfl) ?_
    obtain ⟨fs_5, a_4, he_fs_5, hv_fs_5, h⟩ := h
    refine fw_get (C := RX8) (T := TX8) (N := 9) hx hb hts hin_X8 hown hK hF he_fs_5 rfl 0 (by decide) (hts (.fieldLink RX8 10 "FrontCodedIndex" "tree" "LFrontCodedIndex$Tree;") (by decide +kernel)) (fun _ h9 => h9) hv_fs_5 dX8_restoreSnapshot_19 ?_
    refine lv_aload_n hx hb dX8_restoreSnapshot_22 rfl (lv_at hl 0 rfl) ?_
    obtain ⟨fs_7, a_6, he_fs_7, hv_fs_7, h⟩ := h
    refine fw_get (C := RX8) (T := TX8) (N := 9) hx hb hts hin_X8 hown hK hF he_fs_7 rfl 1 (by decide) (hts (.fieldLink RX8 16 "FrontCodedIndex" "snapshot" "LFrontCodedIndex$Tree;") (by decide +kernel)) (fun _ h9 => h9) hv_fs_7 dX8_restoreSnapshot_23 ?_
    obtain ⟨ga_10, gb_11, hga_ga_10, hgb_ga_10, h⟩ := h
    obtain ⟨⟨fs_u_8, hrc_u_8⟩, h⟩ := h
    refine fw_cV_v (As := [.ref a_6]) (rest := []) ⟨hx, hb, hml, hown, hts⟩ (cc_X7_copyFrom l G hzd h) (⟨callB_of 1 hts ggX8_restoreSnapshot_X7_copyFrom rfl rfl rfl (hts (.initialized RX7) (by decide +kernel)) (hts (.methodLink RX8 266 yX7_copyFrom) (by decide +kernel)) (by decide +kernel) ⟨Nat.le_of_ble_eq_true rfl, Nat.le_of_ble_eq_true rfl⟩, hts (.instanceMethod yX7_copyFrom) (by decide +kernel), hts (.selects RX7 yX7_copyFrom yX7_copyFrom) (by decide +kernel)⟩) rfl hrc_u_8 hK hZ hF hS hA rfl hl.1 rfl (Nat.le_of_ble_eq_true rfl) dX8_restoreSnapshot_26 ⟨by show _ ≤ mc; omega, by show _ ≤ ms; omega⟩ (fun f_9 H locs h hF hS => ?_)
    obtain ⟨cs_12, hcs⟩ : ∃ z, z = (0 + ga_10) := ⟨_, rfl⟩; obtain ⟨sl_13, hsl⟩ : ∃ z, z = (0 + gb_11) := ⟨_, rfl⟩
    have hbc : cs_12 + (mc - ga_10) ≤ mc := by omega
    have hbs : sl_13 + (ms - gb_11) ≤ ms := by omega
    refine W.widen (k := cs_12) (n := sl_13) (by omega) (by omega) ?_
    clear hcs hsl
    refine lv_aload_n hx hb dX8_restoreSnapshot_29 rfl (lv_at hl 0 rfl) ?_
    obtain ⟨fs_15, a_14, he_fs_15, hv_fs_15, h⟩ := h
    refine fw_get (C := RX8) (T := TX8) (N := 9) hx hb hts hin_X8 hown hK hF he_fs_15 rfl 2 (by decide) (hts (.fieldLink RX8 22 "FrontCodedIndex" "cursors" "LFrontCodedIndex$Cursors;") (by decide +kernel)) (fun _ h9 => h9) hv_fs_15 dX8_restoreSnapshot_30 ?_
    obtain ⟨⟨fs_u_16, hrc_u_16⟩, h⟩ := h
    refine fw_cV_v (As := []) (rest := []) ⟨hx, hb, hml, hown, hts⟩ (cc_X0_closeAll l G h) (⟨callB_of 0 hts ggX8_restoreSnapshot_X0_closeAll rfl rfl rfl (hts (.initialized RX0) (by decide +kernel)) (hts (.methodLink RX8 263 yX0_closeAll) (by decide +kernel)) (by decide +kernel) ⟨Nat.le_of_ble_eq_true rfl, Nat.le_of_ble_eq_true rfl⟩, hts (.instanceMethod yX0_closeAll) (by decide +kernel), hts (.selects RX0 yX0_closeAll yX0_closeAll) (by decide +kernel)⟩) rfl hrc_u_16 hK hZ hF hS hA rfl hl.1 rfl (Nat.le_of_ble_eq_true rfl) dX8_restoreSnapshot_33 ⟨by show _ ≤ mc; omega, by show _ ≤ ms; omega⟩ (fun f_17 H locs h hF hS => ?_)
    simp only [Nat.add_zero]
    refine lv_aload_n hx hb dX8_restoreSnapshot_36 rfl (lv_at hl 0 rfl) ?_
    obtain ⟨fs_19, a_18, he_fs_19, hv_fs_19, h⟩ := h
    refine fw_get (C := RX8) (T := TX8) (N := 9) hx hb hts hin_X8 hown hK hF he_fs_19 rfl 0 (by decide) (hts (.fieldLink RX8 10 "FrontCodedIndex" "tree" "LFrontCodedIndex$Tree;") (by decide +kernel)) (fun _ h9 => h9) hv_fs_19 dX8_restoreSnapshot_37 ?_
    obtain ⟨fs_21, a_20, he_fs_21, hv_fs_21, h⟩ := h
    refine fw_getN (C := RX7) (T := TX7) (N := 8) hx hb hts hin_X7 hown hK hF he_fs_21 rfl 0 (by decide) (va_Nw.use rfl (hZ.2.1 (.fieldLinkNest RX8 105 "FrontCodedIndex$Tree" "keys" "LFrontCodedIndex$KeyRow;" "FrontCodedIndex") (by decide +kernel))) (fun _ h9 => h9) hv_fs_21 dX8_restoreSnapshot_40 ?_
    obtain ⟨⟨fs_r_22, hrc_r_22⟩, h⟩ := h
    refine fw_cV_i_p (As := []) (rest := []) ⟨hx, hb, hml, hown, hts⟩ (cc_X4_count l G h) (⟨callB_of 0 hts ggX8_restoreSnapshot_X4_count rfl rfl rfl (hts (.initialized RX4) (by decide +kernel)) (hts (.methodLink RX8 109 yX4_count) (by decide +kernel)) (by decide +kernel) ⟨Nat.le_of_ble_eq_true rfl, Nat.le_of_ble_eq_true rfl⟩, hts (.instanceMethod yX4_count) (by decide +kernel), hts (.selects RX4 yX4_count yX4_count) (by decide +kernel)⟩) rfl hrc_r_22 hK hZ hF hS hA rfl hl.1 rfl (Nat.le_of_ble_eq_true rfl) dX8_restoreSnapshot_43 ⟨by show _ ≤ mc; omega, by show _ ≤ ms; omega⟩ (fun r_22 H locs h hF hS => ?_)
    simp only [Nat.add_zero]
    refine vx_ret ?_
    refine W.widen (k := mc) (n := ms) (by omega) (by omega) ?_
    exact W.iret (v := r_22) hx hb hr (fun t ht hW => ⟨⟨r_22, f_17, rfl, h, by rw [ht]; exact hF, FK.moved hW.alike hK⟩, hS.F ht⟩) hS.2.2 dX8_restoreSnapshot_46
  · have h := h2 c_3
    obtain ⟨hb1, hb2, h⟩ := h
    refine vx_throwSW hx hb hlt (own := RX8) (cls := "java/lang/IllegalStateException") (text := "no snapshot was saved") (names := ["java/lang/RuntimeException", "java/lang/Exception"]) (ik := 76) (is := 270) (ic := 80) (sa := G.2.2 (100 + 270)) (A := A) hown (by decide) (by decide) (hts (.classLink RX8 76 "java/lang/IllegalStateException") (by decide +kernel)) (hts (.initialized "java/lang/IllegalStateException") (by decide +kernel)) (hX.1 (270, "no snapshot was saved") (by decide +kernel)) (vx_hat (B := thrB) (fun w hw => hts w ((by decide +kernel : ∀ w ∈ (vx_atS RX8 80 "java/lang/IllegalStateException" ["java/lang/RuntimeException", "java/lang/Exception"]).filter goodWord, w ∈ wsX8_restoreSnapshot) w hw)) (by decide +kernel) (fun w hw => va_Nw.use (thrB_tab w hw) (hX.2.1 w hw))) (by decide +kernel) hX.2.2.1 hX.2.2.2 hS (hl.1.trans hml.symm) dX8_restoreSnapshot_7 dX8_restoreSnapshot_10 dX8_restoreSnapshot_11 dX8_restoreSnapshot_14 dX8_restoreSnapshot_17 (fun x hx => (hxt x hx).elim) (Nat.le_of_ble_eq_true rfl) (Nat.le_of_ble_eq_true rfl) (by show _ ≤ mc; omega) (by show _ ≤ ms; omega) hlocks (fun t hvm hz hk => ⟨(f, "java/lang/IllegalStateException"), h, ⟨rfl, hF.kept (fun q e9 he9 => hk q (hF.in he9).2), FK.moved hvm hK⟩, ⟨Nat.le_trans hS.1 hz, fun q h1 h2 => (hk q (Nat.lt_of_lt_of_le h1 hS.1)).trans (hS.2.1 q h1 h2)⟩⟩) hS.2.2 (by omega) (by omega)
theorem dX8_retreat_0 : decode cX8_retreat 0 = .ok (.aload_n 0, 1) := by decide +kernel
theorem dX8_retreat_1 : decode cX8_retreat 1 = .ok (.iload_n 1, 1) := by decide +kernel
theorem dX8_retreat_2 : decode cX8_retreat 2 = .ok (.invokevirtual 237, 3) := by decide +kernel
theorem dX8_retreat_5 : decode cX8_retreat 5 = .ok (.istore_n 2, 1) := by decide +kernel
theorem dX8_retreat_6 : decode cX8_retreat 6 = .ok (.iload_n 2, 1) := by decide +kernel
theorem dX8_retreat_7 : decode cX8_retreat 7 = .ok (.ifCond .gt 13, 3) := by decide +kernel
theorem dX8_retreat_10 : decode cX8_retreat 10 = .ok (.new 163, 3) := by decide +kernel
theorem dX8_retreat_13 : decode cX8_retreat 13 = .ok (.dup, 1) := by decide +kernel
theorem dX8_retreat_14 : decode cX8_retreat 14 = .ok (.ldc 240, 2) := by decide +kernel
theorem dX8_retreat_16 : decode cX8_retreat 16 = .ok (.invokespecial 167, 3) := by decide +kernel
theorem dX8_retreat_19 : decode cX8_retreat 19 = .ok (.athrow, 1) := by decide +kernel
theorem dX8_retreat_20 : decode cX8_retreat 20 = .ok (.aload_n 0, 1) := by decide +kernel
theorem dX8_retreat_21 : decode cX8_retreat 21 = .ok (.getfield 22, 3) := by decide +kernel
theorem dX8_retreat_24 : decode cX8_retreat 24 = .ok (.iload_n 1, 1) := by decide +kernel
theorem dX8_retreat_25 : decode cX8_retreat 25 = .ok (.iload_n 2, 1) := by decide +kernel
theorem dX8_retreat_26 : decode cX8_retreat 26 = .ok (.iconst 1, 1) := by decide +kernel
theorem dX8_retreat_27 : decode cX8_retreat 27 = .ok (.isub, 1) := by decide +kernel
theorem dX8_retreat_28 : decode cX8_retreat 28 = .ok (.invokevirtual 228, 3) := by decide +kernel
theorem dX8_retreat_31 : decode cX8_retreat 31 = .ok (.aload_n 0, 1) := by decide +kernel
theorem dX8_retreat_32 : decode cX8_retreat 32 = .ok (.getfield 10, 3) := by decide +kernel
theorem dX8_retreat_35 : decode cX8_retreat 35 = .ok (.getfield 124, 3) := by decide +kernel
theorem dX8_retreat_38 : decode cX8_retreat 38 = .ok (.iload_n 2, 1) := by decide +kernel
theorem dX8_retreat_39 : decode cX8_retreat 39 = .ok (.iconst 1, 1) := by decide +kernel
theorem dX8_retreat_40 : decode cX8_retreat 40 = .ok (.isub, 1) := by decide +kernel
theorem dX8_retreat_41 : decode cX8_retreat 41 = .ok (.invokevirtual 143, 3) := by decide +kernel
theorem dX8_retreat_44 : decode cX8_retreat 44 = .ok (.ireturn, 1) := by decide +kernel
set_option maxRecDepth 20000 in
theorem ggX8_retreat_X0_place : GoodIn wsX8_retreat wsX0_place := goodIn_r _ [27, 23, 52] (by decide +kernel) (by decide +kernel)
set_option maxRecDepth 20000 in
theorem ggX8_retreat_X2_at : GoodIn wsX8_retreat wsX2_at := goodIn_r _ [32, 33, 34, 53, 54] (by decide +kernel) (by decide +kernel)
set_option maxRecDepth 20000 in
theorem ggX8_retreat_X8_placeOfCursor : GoodIn wsX8_retreat wsX8_placeOfCursor := goodIn_ca (goodIn_ca (goodIn_r _ [9, 10, 11, 3, 12, 13, 14, 8, 15, 16, 17, 18, 19, 20, 21, 22, 23, 35, 36, 37, 38, 39, 40, 41, 42, 43, 52] (by decide +kernel) (by decide +kernel)) (goodIn_sub (fun _ h => List.mem_cons_of_mem _ (List.mem_append_left _ (List.mem_append_right _ h))) (by decide +kernel))) (goodIn_sub (fun _ h => List.mem_cons_of_mem _ (List.mem_append_right _ h)) (by decide +kernel))
def wp_X8_retreat (a0 : Nat) (x1 : Int32) (f : FT) (mc ms : Nat) (K : Int32 → FT → Prop) (KX : String → FT → Prop) : Prop :=
  ∃ ga_3 gb_4 : Nat, ga_3 ≤ mc ∧ gb_4 ≤ ms ∧ isO f a0 11 ∧ wp_X8_placeOfCursor a0 x1 f ga_3 gb_4 (fun r_1 f_2 => (((0 : Int32) < r_1 → gA f_2 a0 11 2 fun a_8 => isO f_2 a_8 3 ∧ wp_X0_place a_8 x1 (r_1 - (1 : Int32)) f_2 (fun f_11 => gA f_11 a0 11 0 fun a_12 => gA f_11 a_12 10 1 fun a_14 => isO f_11 a_14 5 ∧ wp_X2_at a_14 (r_1 - (1 : Int32)) f_11 (fun r_16 => K r_16 f_11))) ∧
 (¬ ((0 : Int32) < r_1) → 1 ≤ (mc - ga_3) ∧ 6 ≤ (ms - gb_4) ∧ KX "java/util/NoSuchElementException" f_2))) KX
set_option maxHeartbeats 4000000 in
set_option maxRecDepth 100000 in
theorem cc_X8_retreat (l : Launch) (G : GG) {f : FT} {sz : Nat} {a0 : Nat} {x1 : Int32} {mc ms : Nat} {K : Int32 → FT → Prop} {KX : String → FT → Prop} (hlt : l.stackTraces = false) (h : wp_X8_retreat a0 x1 f mc ms K KX) : vx_Met l yX8_retreat wsX8_retreat ({ frames := 8, cells := mc, slots := ms, locals := 133 } : Room) (FPX G [.ref a0, .int x1] f sz) (va_Qi (fun r f9 => K r f9 : Int32 → FT → Prop) (FB G (fA f sz)) (fA f sz)) (FXC G (fA f sz) KX) mc ms (fA f sz) := by
  refine vx_ofW (cc := cX8_retreat) (maxL := 3) (ret := (some .int)) (by decide) rfl ?_
  intro p e s m args below meth c s₁ B hml hxt hv
  obtain ⟨rfl, hsz, hF, hK, hZ, hX⟩ := hv
  have hx := B.exec
  have hb := B.bytes
  have hr := B.returns
  have hts := atoms_spec (ws := wsX8_retreat) B.pre
  have hown : s.vm.findClass RX8 = some m.cls := findClass_of_methodNamed B.named
  have hlocks := B.notSynchronized
  subst hsz
  have hF := hF.self (sz := s.heap.size)
  generalize hAe : fA f s.heap.size = A at hF hZ hX ⊢
  have hA : ∀ q : Nat, s.heap.size ≤ q → A q := fun q h => by rw [← hAe]; exact Or.inr h
  have hS : va_S A s.heap s.heap [] := va_S.rf
  have hin_X7 : ∀ w ∈ wsX70, w ∈ wsX8_retreat := by decide +kernel
  have hin_X8 : ∀ w ∈ wsX80, w ∈ wsX8_retreat := by decide +kernel
  have hbc : 0 + mc ≤ mc := by omega
  have hbs : 0 + ms ≤ ms := by omega
  have hl := lv_entry ([.ref a0, .int x1]) (n := 3) (Nat.le_of_ble_eq_true rfl)
  rw [lg_entry_eq]
  generalize (lg_sl ([.ref a0, .int x1]) ++ List.replicate (3 - (lg_sl ([.ref a0, .int x1])).length) Slot.unset).toArray = ls at hl ⊢
  have hl : lv_has ls 3 [(0, .ref a0), (1, .int x1)] := hl
  unfold wp_X8_retreat at h
  refine lv_aload_n hx hb dX8_retreat_0 rfl (lv_at hl 0 rfl) ?_
  refine lv_iload_n hx hb dX8_retreat_1 rfl (lv_at hl 1 rfl) ?_
  obtain ⟨ga_3, gb_4, hga_ga_3, hgb_ga_3, h⟩ := h
  obtain ⟨⟨fs_r_1, hrc_r_1⟩, h⟩ := h
  refine fx_cV_i (As := [.int x1]) (rest := []) ⟨hx, hb, hml, hown, hts⟩ (cc_X8_placeOfCursor l G hlt h) (⟨callB_of 1 hts ggX8_retreat_X8_placeOfCursor rfl rfl rfl (hts (.initialized RX8) (by decide +kernel)) (hts (.methodLink RX8 237 yX8_placeOfCursor) (by decide +kernel)) (by decide +kernel) ⟨Nat.le_of_ble_eq_true rfl, Nat.le_of_ble_eq_true rfl⟩, hts (.instanceMethod yX8_placeOfCursor) (by decide +kernel), hts (.selects RX8 yX8_placeOfCursor yX8_placeOfCursor) (by decide +kernel)⟩) rfl hrc_r_1 hK hZ hX hF hS hA rfl hl.1 rfl (Nat.le_of_ble_eq_true rfl) dX8_retreat_2 ⟨by show _ ≤ mc; omega, by show _ ≤ ms; omega⟩ hxt hlocks (by omega) (by omega) (fun r_1 f_2 H locs h hF hS => ?_)
  obtain ⟨cs_5, hcs⟩ : ∃ z, z = (0 + ga_3) := ⟨_, rfl⟩; obtain ⟨sl_6, hsl⟩ : ∃ z, z = (0 + gb_4) := ⟨_, rfl⟩
  have hbc : cs_5 + (mc - ga_3) ≤ mc := by omega
  have hbs : sl_6 + (ms - gb_4) ≤ ms := by omega
  refine W.widen (k := cs_5) (n := sl_6) (by omega) (by omega) ?_
  clear hcs hsl
  refine lv_istore_n (lv' := [(2, .int r_1), (0, .ref a0), (1, .int x1)]) hx hb dX8_retreat_5 rfl hl (by decide) rfl (fun ls hl => ?_)
  refine lv_iload_n hx hb dX8_retreat_6 rfl (lv_at hl 0 rfl) ?_
  obtain ⟨h1, h2⟩ := h
  refine lv_if_gt (tgt := 20) hx hb dX8_retreat_7 (by decide) (fun c_7 => ?_) (fun c_7 => ?_)
  · have h := h1 c_7
    refine lv_aload_n hx hb dX8_retreat_20 rfl (lv_at hl 1 rfl) ?_
    obtain ⟨fs_9, a_8, he_fs_9, hv_fs_9, h⟩ := h
    refine fw_get (C := RX8) (T := TX8) (N := 9) hx hb hts hin_X8 hown hK hF he_fs_9 rfl 2 (by decide) (hts (.fieldLink RX8 22 "FrontCodedIndex" "cursors" "LFrontCodedIndex$Cursors;") (by decide +kernel)) (fun _ h9 => h9) hv_fs_9 dX8_retreat_21 ?_
    refine lv_iload_n hx hb dX8_retreat_24 rfl (lv_at hl 2 rfl) ?_
    refine lv_iload_n hx hb dX8_retreat_25 rfl (lv_at hl 0 rfl) ?_
    refine lv_iconst (v := (1 : Int32)) hx hb dX8_retreat_26 (by decide) ?_
    refine lv_isub hx hb dX8_retreat_27 ?_
    obtain ⟨⟨fs_u_10, hrc_u_10⟩, h⟩ := h
    refine fw_cV_v (As := [.int x1, .int (r_1 - (1 : Int32))]) (rest := []) ⟨hx, hb, hml, hown, hts⟩ (cc_X0_place l G h) (⟨callB_of 2 hts ggX8_retreat_X0_place rfl rfl rfl (hts (.initialized RX0) (by decide +kernel)) (hts (.methodLink RX8 228 yX0_place) (by decide +kernel)) (by decide +kernel) ⟨Nat.le_of_ble_eq_true rfl, Nat.le_of_ble_eq_true rfl⟩, hts (.instanceMethod yX0_place) (by decide +kernel), hts (.selects RX0 yX0_place yX0_place) (by decide +kernel)⟩) rfl hrc_u_10 hK hZ hF hS hA rfl hl.1 rfl (Nat.le_of_ble_eq_true rfl) dX8_retreat_28 ⟨by show _ ≤ mc; omega, by show _ ≤ ms; omega⟩ (fun f_11 H locs h hF hS => ?_)
    simp only [Nat.add_zero]
    refine lv_aload_n hx hb dX8_retreat_31 rfl (lv_at hl 1 rfl) ?_
    obtain ⟨fs_13, a_12, he_fs_13, hv_fs_13, h⟩ := h
    refine fw_get (C := RX8) (T := TX8) (N := 9) hx hb hts hin_X8 hown hK hF he_fs_13 rfl 0 (by decide) (hts (.fieldLink RX8 10 "FrontCodedIndex" "tree" "LFrontCodedIndex$Tree;") (by decide +kernel)) (fun _ h9 => h9) hv_fs_13 dX8_retreat_32 ?_
    obtain ⟨fs_15, a_14, he_fs_15, hv_fs_15, h⟩ := h
    refine fw_getN (C := RX7) (T := TX7) (N := 8) hx hb hts hin_X7 hown hK hF he_fs_15 rfl 1 (by decide) (va_Nw.use rfl (hZ.2.1 (.fieldLinkNest RX8 124 "FrontCodedIndex$Tree" "values" "LFrontCodedIndex$IntRow;" "FrontCodedIndex") (by decide +kernel))) (fun _ h9 => h9) hv_fs_15 dX8_retreat_35 ?_
    refine lv_iload_n hx hb dX8_retreat_38 rfl (lv_at hl 0 rfl) ?_
    refine lv_iconst (v := (1 : Int32)) hx hb dX8_retreat_39 (by decide) ?_
    refine lv_isub hx hb dX8_retreat_40 ?_
    obtain ⟨⟨fs_r_16, hrc_r_16⟩, h⟩ := h
    refine fw_cV_i_p (As := [.int (r_1 - (1 : Int32))]) (rest := []) ⟨hx, hb, hml, hown, hts⟩ (cc_X2_at l G h) (⟨callB_of 1 hts ggX8_retreat_X2_at rfl rfl rfl (hts (.initialized RX2) (by decide +kernel)) (hts (.methodLink RX8 143 yX2_at) (by decide +kernel)) (by decide +kernel) ⟨Nat.le_of_ble_eq_true rfl, Nat.le_of_ble_eq_true rfl⟩, hts (.instanceMethod yX2_at) (by decide +kernel), hts (.selects RX2 yX2_at yX2_at) (by decide +kernel)⟩) rfl hrc_r_16 hK hZ hF hS hA rfl hl.1 rfl (Nat.le_of_ble_eq_true rfl) dX8_retreat_41 ⟨by show _ ≤ mc; omega, by show _ ≤ ms; omega⟩ (fun r_16 H locs h hF hS => ?_)
    simp only [Nat.add_zero]
    refine vx_ret ?_
    refine W.widen (k := mc) (n := ms) (by omega) (by omega) ?_
    exact W.iret (v := r_16) hx hb hr (fun t ht hW => ⟨⟨r_16, f_11, rfl, h, by rw [ht]; exact hF, FK.moved hW.alike hK⟩, hS.F ht⟩) hS.2.2 dX8_retreat_44
  · have h := h2 c_7
    obtain ⟨hb1, hb2, h⟩ := h
    refine vx_throwS13 hx hb hlt (own := RX8) (cls := "java/util/NoSuchElementException") (text := "there is no previous entry") (ik := 163) (is := 240) (ic := 167) (sa := G.2.2 (100 + 240)) (A := A) hown (by decide) (hts (.classLink RX8 163 "java/util/NoSuchElementException") (by decide +kernel)) (hts (.initialized "java/util/NoSuchElementException") (by decide +kernel)) (hX.1 (240, "there is no previous entry") (by decide +kernel)) (vx_hat (B := thrB) (fun w hw => hts w ((by decide +kernel : ∀ w ∈ (vx_at13 RX8 167 "java/util/NoSuchElementException").filter goodWord, w ∈ wsX8_retreat) w hw)) (by decide +kernel) (fun w hw => va_Nw.use (thrB_tab w hw) (hX.2.1 w hw))) (by decide +kernel) hX.2.2.1 hX.2.2.2 hS (hl.1.trans hml.symm) dX8_retreat_10 dX8_retreat_13 dX8_retreat_14 dX8_retreat_16 dX8_retreat_19 (fun x hx => (hxt x hx).elim) (Nat.le_of_ble_eq_true rfl) (Nat.le_of_ble_eq_true rfl) (by show _ ≤ mc; omega) (by show _ ≤ ms; omega) hlocks (fun t hvm hz hk => ⟨(f_2, "java/util/NoSuchElementException"), h, ⟨rfl, hF.kept (fun q e9 he9 => hk q (hF.in he9).2), FK.moved hvm hK⟩, ⟨Nat.le_trans hS.1 hz, fun q h1 h2 => (hk q (Nat.lt_of_lt_of_le h1 hS.1)).trans (hS.2.1 q h1 h2)⟩⟩) hS.2.2 (by omega) (by omega)
theorem dX8_saveSnapshot_0 : decode cX8_saveSnapshot 0 = .ok (.aload_n 0, 1) := by decide +kernel
theorem dX8_saveSnapshot_1 : decode cX8_saveSnapshot 1 = .ok (.getfield 16, 3) := by decide +kernel
theorem dX8_saveSnapshot_4 : decode cX8_saveSnapshot 4 = .ok (.aload_n 0, 1) := by decide +kernel
theorem dX8_saveSnapshot_5 : decode cX8_saveSnapshot 5 = .ok (.getfield 10, 3) := by decide +kernel
theorem dX8_saveSnapshot_8 : decode cX8_saveSnapshot 8 = .ok (.invokevirtual 266, 3) := by decide +kernel
theorem dX8_saveSnapshot_11 : decode cX8_saveSnapshot 11 = .ok (.aload_n 0, 1) := by decide +kernel
theorem dX8_saveSnapshot_12 : decode cX8_saveSnapshot 12 = .ok (.iconst 1, 1) := by decide +kernel
theorem dX8_saveSnapshot_13 : decode cX8_saveSnapshot 13 = .ok (.putfield 49, 3) := by decide +kernel
theorem dX8_saveSnapshot_16 : decode cX8_saveSnapshot 16 = .ok (.aload_n 0, 1) := by decide +kernel
theorem dX8_saveSnapshot_17 : decode cX8_saveSnapshot 17 = .ok (.getfield 10, 3) := by decide +kernel
theorem dX8_saveSnapshot_20 : decode cX8_saveSnapshot 20 = .ok (.getfield 105, 3) := by decide +kernel
theorem dX8_saveSnapshot_23 : decode cX8_saveSnapshot 23 = .ok (.invokevirtual 109, 3) := by decide +kernel
theorem dX8_saveSnapshot_26 : decode cX8_saveSnapshot 26 = .ok (.ireturn, 1) := by decide +kernel
set_option maxRecDepth 20000 in
theorem ggX8_saveSnapshot_X4_count : GoodIn wsX8_saveSnapshot wsX4_count := goodIn_r _ [158, 19, 30, 31, 32, 24, 33, 29, 176, 177, 178, 179, 180] (by decide +kernel) (by decide +kernel)
set_option maxRecDepth 20000 in
theorem ggX8_saveSnapshot_X7_copyFrom : GoodIn wsX8_saveSnapshot wsX7_copyFrom := goodIn_r _ [8, 9, 10, 11, 12, 13, 14, 15, 16, 17, 18, 19, 20, 21, 22, 23, 24, 25, 26, 27, 28, 29, 30, 31, 32, 33, 34, 35, 36, 37, 38, 39, 40, 41, 42, 43, 44, 45, 46, 47, 48, 49, 50, 51, 52, 53, 54, 55, 56, 57, 58, 59, 60, 61, 62, 63, 64, 65, 66, 67, 68, 69, 70, 71, 72, 73, 74, 75, 76, 77, 78, 79, 80, 81, 82, 83, 84, 85, 86, 87, 88, 89, 90, 91, 92, 93, 94, 95, 96, 97, 98, 99, 100, 101, 102, 103, 104, 105, 106, 107, 108, 109, 110, 111, 112, 113, 114, 115, 116, 117, 118, 119, 120, 121, 122, 123, 124, 125, 126, 127, 128, 129, 130, 131, 132, 7, 133, 134, 135, 136, 137, 138, 139, 140, 141, 142, 143, 144, 145, 146, 147, 148, 149, 150, 151, 152, 153, 154, 168, 169, 170, 171, 172, 173, 174, 175, 176, 177, 178, 179, 180, 181, 182] (by decide +kernel) (by decide +kernel)
def wp_X8_saveSnapshot (zd : Nat) (a0 : Nat) (f : FT) (mc ms : Nat) (K : Int32 → FT → Prop) : Prop :=
  gA f a0 11 1 fun a_1 => gA f a0 11 0 fun a_3 => ∃ ga_7 gb_8 : Nat, ga_7 ≤ mc ∧ gb_8 ≤ ms ∧ isO f a_1 10 ∧ wp_X7_copyFrom zd a_1 a_3 f ga_7 gb_8 (fun f_6 => pV f_6 a0 11 6 (.int (1 : Int32)) fun f_12 => gA f_12 a0 11 0 fun a_13 => gA f_12 a_13 10 0 fun a_15 => isO f_12 a_15 7 ∧ wp_X4_count a_15 f_12 (fun r_17 => K r_17 f_12))
set_option maxHeartbeats 4000000 in
set_option maxRecDepth 100000 in
theorem cc_X8_saveSnapshot (l : Launch) (G : GG) {zd : Nat} (hzd : G.2.2 0 = zd) {f : FT} {sz : Nat} {a0 : Nat} {mc ms : Nat} {K : Int32 → FT → Prop} (h : wp_X8_saveSnapshot zd a0 f mc ms K) : Met l yX8_saveSnapshot wsX8_saveSnapshot ({ frames := 9, cells := mc, slots := ms, locals := 215 } : Room) (FP G [.ref a0] f sz) (va_Qi (fun r f9 => K r f9 : Int32 → FT → Prop) (FB G (fA f sz)) (fA f sz)) mc ms (fA f sz) := by
  refine Met.ofW (cc := cX8_saveSnapshot) (maxL := 1) (ret := (some .int)) (by decide) rfl ?_
  intro p e s m args below meth c s₁ B hml hv
  obtain ⟨rfl, hsz, hF, hK, hZ⟩ := hv
  have hx := B.exec
  have hb := B.bytes
  have hr := B.returns
  have hts := atoms_spec (ws := wsX8_saveSnapshot) B.pre
  have hown : s.vm.findClass RX8 = some m.cls := findClass_of_methodNamed B.named
  have hlocks := B.notSynchronized
  subst hsz
  have hF := hF.self (sz := s.heap.size)
  generalize hAe : fA f s.heap.size = A at hF hZ ⊢
  have hA : ∀ q : Nat, s.heap.size ≤ q → A q := fun q h => by rw [← hAe]; exact Or.inr h
  have hS : va_S A s.heap s.heap [] := va_S.rf
  have hZ9 : va_Z "java/util/ArrayList" "DEFAULTCAPACITY_EMPTY_ELEMENTDATA" "[Ljava/lang/Object;" (.ref zd) A s s.heap := by rw [← hzd]; exact hZ.1
  have hin_X7 : ∀ w ∈ wsX70, w ∈ wsX8_saveSnapshot := by decide +kernel
  have hin_X8 : ∀ w ∈ wsX80, w ∈ wsX8_saveSnapshot := by decide +kernel
  have hbc : 0 + mc ≤ mc := by omega
  have hbs : 0 + ms ≤ ms := by omega
  have hl := lv_entry ([.ref a0]) (n := 1) (Nat.le_of_ble_eq_true rfl)
  rw [lg_entry_eq]
  generalize (lg_sl ([.ref a0]) ++ List.replicate (1 - (lg_sl ([.ref a0])).length) Slot.unset).toArray = ls at hl ⊢
  have hl : lv_has ls 1 [(0, .ref a0)] := hl
  unfold wp_X8_saveSnapshot at h
  refine lv_aload_n hx hb dX8_saveSnapshot_0 rfl (lv_at hl 0 rfl) ?_
  obtain ⟨fs_2, a_1, he_fs_2, hv_fs_2, h⟩ := h
  refine fw_get (C := RX8) (T := TX8) (N := 9) hx hb hts hin_X8 hown hK hF he_fs_2 rfl 1 (by decide) (hts (.fieldLink RX8 16 "FrontCodedIndex" "snapshot" "LFrontCodedIndex$Tree;") (by decide +kernel)) (fun _ h9 => h9) hv_fs_2 dX8_saveSnapshot_1 ?_
  refine lv_aload_n hx hb dX8_saveSnapshot_4 rfl (lv_at hl 0 rfl) ?_
  obtain ⟨fs_4, a_3, he_fs_4, hv_fs_4, h⟩ := h
  refine fw_get (C := RX8) (T := TX8) (N := 9) hx hb hts hin_X8 hown hK hF he_fs_4 rfl 0 (by decide) (hts (.fieldLink RX8 10 "FrontCodedIndex" "tree" "LFrontCodedIndex$Tree;") (by decide +kernel)) (fun _ h9 => h9) hv_fs_4 dX8_saveSnapshot_5 ?_
  obtain ⟨ga_7, gb_8, hga_ga_7, hgb_ga_7, h⟩ := h
  obtain ⟨⟨fs_u_5, hrc_u_5⟩, h⟩ := h
  refine fw_cV_v (As := [.ref a_3]) (rest := []) ⟨hx, hb, hml, hown, hts⟩ (cc_X7_copyFrom l G hzd h) (⟨callB_of 1 hts ggX8_saveSnapshot_X7_copyFrom rfl rfl rfl (hts (.initialized RX7) (by decide +kernel)) (hts (.methodLink RX8 266 yX7_copyFrom) (by decide +kernel)) (by decide +kernel) ⟨Nat.le_of_ble_eq_true rfl, Nat.le_of_ble_eq_true rfl⟩, hts (.instanceMethod yX7_copyFrom) (by decide +kernel), hts (.selects RX7 yX7_copyFrom yX7_copyFrom) (by decide +kernel)⟩) rfl hrc_u_5 hK hZ hF hS hA rfl hl.1 rfl (Nat.le_of_ble_eq_true rfl) dX8_saveSnapshot_8 ⟨by show _ ≤ mc; omega, by show _ ≤ ms; omega⟩ (fun f_6 H locs h hF hS => ?_)
  obtain ⟨cs_9, hcs⟩ : ∃ z, z = (0 + ga_7) := ⟨_, rfl⟩; obtain ⟨sl_10, hsl⟩ : ∃ z, z = (0 + gb_8) := ⟨_, rfl⟩
  have hbc : cs_9 + (mc - ga_7) ≤ mc := by omega
  have hbs : sl_10 + (ms - gb_8) ≤ ms := by omega
  refine W.widen (k := cs_9) (n := sl_10) (by omega) (by omega) ?_
  clear hcs hsl
  refine lv_aload_n hx hb dX8_saveSnapshot_11 rfl (lv_at hl 0 rfl) ?_
  refine lv_iconst (v := (1 : Int32)) hx hb dX8_saveSnapshot_12 (by decide) ?_
  obtain ⟨fs_11, he_fs_11, hl_fs_11, h⟩ := h
  refine fw_put (v := .int (1 : Int32)) (ty := .boolean) (C := RX8) (T := TX8) (N := 9) hx hb hts hin_X8 tyX8 (tyX8_ok) nmX8 hown hK hF hS he_fs_11 rfl 6 (by decide) (hts (.fieldLink RX8 49 "FrontCodedIndex" "snapshotSaved" "Z") (by decide +kernel)) (fun _ h9 => h9) rfl (by decide +kernel) rfl rfl hl_fs_11 dX8_saveSnapshot_13 (fun H locs hF hS => ?_)
  obtain ⟨f_12, hf_f_12⟩ : ∃ z, z = fup f_6 a0 (.inr (11, fs_11.set 6 (.int (1 : Int32)))) := ⟨_, rfl⟩
  rw [← hf_f_12] at hF; have h := h f_12 hf_f_12
  refine lv_aload_n hx hb dX8_saveSnapshot_16 rfl (lv_at hl 0 rfl) ?_
  obtain ⟨fs_14, a_13, he_fs_14, hv_fs_14, h⟩ := h
  refine fw_get (C := RX8) (T := TX8) (N := 9) hx hb hts hin_X8 hown hK hF he_fs_14 rfl 0 (by decide) (hts (.fieldLink RX8 10 "FrontCodedIndex" "tree" "LFrontCodedIndex$Tree;") (by decide +kernel)) (fun _ h9 => h9) hv_fs_14 dX8_saveSnapshot_17 ?_
  obtain ⟨fs_16, a_15, he_fs_16, hv_fs_16, h⟩ := h
  refine fw_getN (C := RX7) (T := TX7) (N := 8) hx hb hts hin_X7 hown hK hF he_fs_16 rfl 0 (by decide) (va_Nw.use rfl (hZ.2.1 (.fieldLinkNest RX8 105 "FrontCodedIndex$Tree" "keys" "LFrontCodedIndex$KeyRow;" "FrontCodedIndex") (by decide +kernel))) (fun _ h9 => h9) hv_fs_16 dX8_saveSnapshot_20 ?_
  obtain ⟨⟨fs_r_17, hrc_r_17⟩, h⟩ := h
  refine fw_cV_i_p (As := []) (rest := []) ⟨hx, hb, hml, hown, hts⟩ (cc_X4_count l G h) (⟨callB_of 0 hts ggX8_saveSnapshot_X4_count rfl rfl rfl (hts (.initialized RX4) (by decide +kernel)) (hts (.methodLink RX8 109 yX4_count) (by decide +kernel)) (by decide +kernel) ⟨Nat.le_of_ble_eq_true rfl, Nat.le_of_ble_eq_true rfl⟩, hts (.instanceMethod yX4_count) (by decide +kernel), hts (.selects RX4 yX4_count yX4_count) (by decide +kernel)⟩) rfl hrc_r_17 hK hZ hF hS hA rfl hl.1 rfl (Nat.le_of_ble_eq_true rfl) dX8_saveSnapshot_23 ⟨by show _ ≤ mc; omega, by show _ ≤ ms; omega⟩ (fun r_17 H locs h hF hS => ?_)
  simp only [Nat.add_zero]
  refine W.widen (k := mc) (n := ms) (by omega) (by omega) ?_
  exact W.iret (v := r_17) hx hb hr (fun t ht hW => ⟨⟨r_17, f_12, rfl, h, by rw [ht]; exact hF, FK.moved hW.alike hK⟩, hS.F ht⟩) hS.2.2 dX8_saveSnapshot_26
theorem dX8_select_0 : decode cX8_select 0 = .ok (.iload_n 1, 1) := by decide +kernel
theorem dX8_select_1 : decode cX8_select 1 = .ok (.ifCond .lt 17, 3) := by decide +kernel
theorem dX8_select_4 : decode cX8_select 4 = .ok (.iload_n 1, 1) := by decide +kernel
theorem dX8_select_5 : decode cX8_select 5 = .ok (.aload_n 0, 1) := by decide +kernel
theorem dX8_select_6 : decode cX8_select 6 = .ok (.getfield 10, 3) := by decide +kernel
theorem dX8_select_9 : decode cX8_select 9 = .ok (.getfield 105, 3) := by decide +kernel
theorem dX8_select_12 : decode cX8_select 12 = .ok (.invokevirtual 109, 3) := by decide +kernel
theorem dX8_select_15 : decode cX8_select 15 = .ok (.if_icmp .lt 13, 3) := by decide +kernel
theorem dX8_select_18 : decode cX8_select 18 = .ok (.new 94, 3) := by decide +kernel
theorem dX8_select_21 : decode cX8_select 21 = .ok (.dup, 1) := by decide +kernel
theorem dX8_select_22 : decode cX8_select 22 = .ok (.ldc 159, 2) := by decide +kernel
theorem dX8_select_24 : decode cX8_select 24 = .ok (.invokespecial 98, 3) := by decide +kernel
theorem dX8_select_27 : decode cX8_select 27 = .ok (.athrow, 1) := by decide +kernel
theorem dX8_select_28 : decode cX8_select 28 = .ok (.aload_n 0, 1) := by decide +kernel
theorem dX8_select_29 : decode cX8_select 29 = .ok (.aload_n 0, 1) := by decide +kernel
theorem dX8_select_30 : decode cX8_select 30 = .ok (.getfield 10, 3) := by decide +kernel
theorem dX8_select_33 : decode cX8_select 33 = .ok (.getfield 105, 3) := by decide +kernel
theorem dX8_select_36 : decode cX8_select 36 = .ok (.iload_n 1, 1) := by decide +kernel
theorem dX8_select_37 : decode cX8_select 37 = .ok (.invokevirtual 161, 3) := by decide +kernel
theorem dX8_select_40 : decode cX8_select 40 = .ok (.putfield 58, 3) := by decide +kernel
theorem dX8_select_43 : decode cX8_select 43 = .ok (.aload_n 0, 1) := by decide +kernel
theorem dX8_select_44 : decode cX8_select 44 = .ok (.getfield 10, 3) := by decide +kernel
theorem dX8_select_47 : decode cX8_select 47 = .ok (.getfield 124, 3) := by decide +kernel
theorem dX8_select_50 : decode cX8_select 50 = .ok (.iload_n 1, 1) := by decide +kernel
theorem dX8_select_51 : decode cX8_select 51 = .ok (.invokevirtual 143, 3) := by decide +kernel
theorem dX8_select_54 : decode cX8_select 54 = .ok (.ireturn, 1) := by decide +kernel
set_option maxRecDepth 20000 in
theorem ggX8_select_X2_at : GoodIn wsX8_select wsX2_at := goodIn_r _ [44, 45, 46, 69, 70] (by decide +kernel) (by decide +kernel)
set_option maxRecDepth 20000 in
theorem ggX8_select_X4_at : GoodIn wsX8_select wsX4_at := goodIn_r _ [20, 10, 21, 22, 11, 12, 13, 14, 15, 16, 23, 24, 25, 26, 27, 28, 29, 30, 31, 32, 33, 34, 35, 36, 37, 38, 39, 64, 65, 66, 67, 68] (by decide +kernel) (by decide +kernel)
set_option maxRecDepth 20000 in
theorem ggX8_select_X4_count : GoodIn wsX8_select wsX4_count := goodIn_r _ [9, 10, 11, 12, 13, 14, 15, 16, 64, 65, 66, 67, 68] (by decide +kernel) (by decide +kernel)
def wp_X8_select (a0 : Nat) (x1 : Int32) (f : FT) (mc ms : Nat) (K : Int32 → FT → Prop) (KX : String → FT → Prop) : Prop :=
  ((x1 < (0 : Int32) → 1 ≤ mc ∧ 6 ≤ ms ∧ KX "java/lang/IndexOutOfBoundsException" f) ∧
 (¬ (x1 < (0 : Int32)) → gA f a0 11 0 fun a_2 => gA f a_2 10 0 fun a_4 => isO f a_4 7 ∧ wp_X4_count a_4 f (fun r_6 => ((x1 < r_6 → gA f a0 11 0 fun a_8 => gA f a_8 10 0 fun a_10 => isO f a_10 7 ∧ wp_X4_at a_10 x1 f (fun a_12 => pV f a0 11 7 (.ref a_12) fun f_14 => gA f_14 a0 11 0 fun a_15 => gA f_14 a_15 10 1 fun a_17 => isO f_14 a_17 5 ∧ wp_X2_at a_17 x1 f_14 (fun r_19 => K r_19 f_14))) ∧
 (¬ (x1 < r_6) → 1 ≤ mc ∧ 6 ≤ ms ∧ KX "java/lang/IndexOutOfBoundsException" f)))))
set_option maxHeartbeats 4000000 in
set_option maxRecDepth 100000 in
theorem cc_X8_select (l : Launch) (G : GG) {f : FT} {sz : Nat} {a0 : Nat} {x1 : Int32} {mc ms : Nat} {K : Int32 → FT → Prop} {KX : String → FT → Prop} (hlt : l.stackTraces = false) (h : wp_X8_select a0 x1 f mc ms K KX) : vx_Met l yX8_select wsX8_select ({ frames := 6, cells := mc, slots := ms, locals := 90 } : Room) (FPX G [.ref a0, .int x1] f sz) (va_Qi (fun r f9 => K r f9 : Int32 → FT → Prop) (FB G (fA f sz)) (fA f sz)) (FXC G (fA f sz) KX) mc ms (fA f sz) := by
  refine vx_ofW (cc := cX8_select) (maxL := 2) (ret := (some .int)) (by decide) rfl ?_
  intro p e s m args below meth c s₁ B hml hxt hv
  obtain ⟨rfl, hsz, hF, hK, hZ, hX⟩ := hv
  have hx := B.exec
  have hb := B.bytes
  have hr := B.returns
  have hts := atoms_spec (ws := wsX8_select) B.pre
  have hown : s.vm.findClass RX8 = some m.cls := findClass_of_methodNamed B.named
  have hlocks := B.notSynchronized
  subst hsz
  have hF := hF.self (sz := s.heap.size)
  generalize hAe : fA f s.heap.size = A at hF hZ hX ⊢
  have hA : ∀ q : Nat, s.heap.size ≤ q → A q := fun q h => by rw [← hAe]; exact Or.inr h
  have hS : va_S A s.heap s.heap [] := va_S.rf
  have hin_X7 : ∀ w ∈ wsX70, w ∈ wsX8_select := by decide +kernel
  have hin_X8 : ∀ w ∈ wsX80, w ∈ wsX8_select := by decide +kernel
  have hbc : 0 + mc ≤ mc := by omega
  have hbs : 0 + ms ≤ ms := by omega
  have hl := lv_entry ([.ref a0, .int x1]) (n := 2) (Nat.le_of_ble_eq_true rfl)
  rw [lg_entry_eq]
  generalize (lg_sl ([.ref a0, .int x1]) ++ List.replicate (2 - (lg_sl ([.ref a0, .int x1])).length) Slot.unset).toArray = ls at hl ⊢
  have hl : lv_has ls 2 [(0, .ref a0), (1, .int x1)] := hl
  unfold wp_X8_select at h
  refine lv_iload_n hx hb dX8_select_0 rfl (lv_at hl 1 rfl) ?_
  obtain ⟨h1, h2⟩ := h
  refine lv_if_lt (tgt := 18) hx hb dX8_select_1 (by decide) (fun c_1 => ?_) (fun c_1 => ?_)
  · have h := h1 c_1
    obtain ⟨hb1, hb2, h⟩ := h
    refine vx_throwS hx hb hlt (own := RX8) (cls := "java/lang/IndexOutOfBoundsException") (text := "there is no such entry") (names := ["java/lang/RuntimeException", "java/lang/Exception"]) (ik := 94) (is := 159) (ic := 98) (sa := G.2.2 (100 + 159)) (A := A) hown (by decide) (by decide) (hts (.classLink RX8 94 "java/lang/IndexOutOfBoundsException") (by decide +kernel)) (hts (.initialized "java/lang/IndexOutOfBoundsException") (by decide +kernel)) (hX.1 (159, "there is no such entry") (by decide +kernel)) (vx_hat (B := thrB) (fun w hw => hts w ((by decide +kernel : ∀ w ∈ (vx_atS RX8 98 "java/lang/IndexOutOfBoundsException" ["java/lang/RuntimeException", "java/lang/Exception"]).filter goodWord, w ∈ wsX8_select) w hw)) (by decide +kernel) (fun w hw => va_Nw.use (thrB_tab w hw) (hX.2.1 w hw))) (by decide +kernel) hX.2.2.1 hX.2.2.2 hS (hl.1.trans hml.symm) dX8_select_18 dX8_select_21 dX8_select_22 dX8_select_24 dX8_select_27 (fun x hx => (hxt x hx).elim) (Nat.le_of_ble_eq_true rfl) (Nat.le_of_ble_eq_true rfl) (by show _ ≤ mc; omega) (by show _ ≤ ms; omega) hlocks (fun t hvm hz hk => ⟨(f, "java/lang/IndexOutOfBoundsException"), h, ⟨rfl, hF.kept (fun q e9 he9 => hk q (hF.in he9).2), FK.moved hvm hK⟩, ⟨Nat.le_trans hS.1 hz, fun q h1 h2 => (hk q (Nat.lt_of_lt_of_le h1 hS.1)).trans (hS.2.1 q h1 h2)⟩⟩) hS.2.2 (by omega) (by omega)
  · have h := h2 c_1
    refine lv_iload_n hx hb dX8_select_4 rfl (lv_at hl 1 rfl) ?_
    refine lv_aload_n hx hb dX8_select_5 rfl (lv_at hl 0 rfl) ?_
    obtain ⟨fs_3, a_2, he_fs_3, hv_fs_3, h⟩ := h
    refine fw_get (C := RX8) (T := TX8) (N := 9) hx hb hts hin_X8 hown hK hF he_fs_3 rfl 0 (by decide) (hts (.fieldLink RX8 10 "FrontCodedIndex" "tree" "LFrontCodedIndex$Tree;") (by decide +kernel)) (fun _ h9 => h9) hv_fs_3 dX8_select_6 ?_
    obtain ⟨fs_5, a_4, he_fs_5, hv_fs_5, h⟩ := h
    refine fw_getN (C := RX7) (T := TX7) (N := 8) hx hb hts hin_X7 hown hK hF he_fs_5 rfl 0 (by decide) (va_Nw.use rfl (hZ.2.1 (.fieldLinkNest RX8 105 "FrontCodedIndex$Tree" "keys" "LFrontCodedIndex$KeyRow;" "FrontCodedIndex") (by decide +kernel))) (fun _ h9 => h9) hv_fs_5 dX8_select_9 ?_
    obtain ⟨⟨fs_r_6, hrc_r_6⟩, h⟩ := h
    refine fw_cV_i_p (As := []) (rest := [.int x1]) ⟨hx, hb, hml, hown, hts⟩ (cc_X4_count l G h) (⟨callB_of 0 hts ggX8_select_X4_count rfl rfl rfl (hts (.initialized RX4) (by decide +kernel)) (hts (.methodLink RX8 109 yX4_count) (by decide +kernel)) (by decide +kernel) ⟨Nat.le_of_ble_eq_true rfl, Nat.le_of_ble_eq_true rfl⟩, hts (.instanceMethod yX4_count) (by decide +kernel), hts (.selects RX4 yX4_count yX4_count) (by decide +kernel)⟩) rfl hrc_r_6 hK hZ hF hS hA rfl hl.1 rfl (Nat.le_of_ble_eq_true rfl) dX8_select_12 ⟨by show _ ≤ mc; omega, by show _ ≤ ms; omega⟩ (fun r_6 H locs h hF hS => ?_)
    simp only [Nat.add_zero]
    obtain ⟨h1, h2⟩ := h
    refine lv_icmp_lt (tgt := 28) hx hb dX8_select_15 (by decide) (fun c_7 => ?_) (fun c_7 => ?_)
    · have h := h1 c_7
      refine lv_aload_n hx hb dX8_select_28 rfl (lv_at hl 0 rfl) ?_
      refine lv_aload_n hx hb dX8_select_29 rfl (lv_at hl 0 rfl) ?_
      obtain ⟨fs_9, a_8, he_fs_9, hv_fs_9, h⟩ := h
      refine fw_get (C := RX8) (T := TX8) (N := 9) hx hb hts hin_X8 hown hK hF he_fs_9 rfl 0 (by decide) (hts (.fieldLink RX8 10 "FrontCodedIndex" "tree" "LFrontCodedIndex$Tree;") (by decide +kernel)) (fun _ h9 => h9) hv_fs_9 dX8_select_30 ?_
      obtain ⟨fs_11, a_10, he_fs_11, hv_fs_11, h⟩ := h
      refine fw_getN (C := RX7) (T := TX7) (N := 8) hx hb hts hin_X7 hown hK hF he_fs_11 rfl 0 (by decide) (va_Nw.use rfl (hZ.2.1 (.fieldLinkNest RX8 105 "FrontCodedIndex$Tree" "keys" "LFrontCodedIndex$KeyRow;" "FrontCodedIndex") (by decide +kernel))) (fun _ h9 => h9) hv_fs_11 dX8_select_33 ?_
      refine lv_iload_n hx hb dX8_select_36 rfl (lv_at hl 1 rfl) ?_
      obtain ⟨⟨fs_a_12, hrc_a_12⟩, h⟩ := h
      refine fw_cV_q_p (As := [.int x1]) (rest := [.ref a0]) ⟨hx, hb, hml, hown, hts⟩ (cc_X4_at l G h) (⟨callB_of 1 hts ggX8_select_X4_at rfl rfl rfl (hts (.initialized RX4) (by decide +kernel)) (hts (.methodLink RX8 161 yX4_at) (by decide +kernel)) (by decide +kernel) ⟨Nat.le_of_ble_eq_true rfl, Nat.le_of_ble_eq_true rfl⟩, hts (.instanceMethod yX4_at) (by decide +kernel), hts (.selects RX4 yX4_at yX4_at) (by decide +kernel)⟩) rfl hrc_a_12 hK hZ hF hS hA rfl hl.1 rfl (Nat.le_of_ble_eq_true rfl) dX8_select_37 ⟨by show _ ≤ mc; omega, by show _ ≤ ms; omega⟩ (fun a_12 H locs h hF hS => ?_)
      simp only [Nat.add_zero]
      obtain ⟨fs_13, he_fs_13, hl_fs_13, h⟩ := h
      refine fw_put (v := .ref a_12) (ty := (.object "FrontCodedIndex$Key")) (C := RX8) (T := TX8) (N := 9) hx hb hts hin_X8 tyX8 (tyX8_ok) nmX8 hown hK hF hS he_fs_13 rfl 7 (by decide) (hts (.fieldLink RX8 58 "FrontCodedIndex" "key" "LFrontCodedIndex$Key;") (by decide +kernel)) (fun _ h9 => h9) rfl (by decide +kernel) rfl rfl hl_fs_13 dX8_select_40 (fun H locs hF hS => ?_)
      obtain ⟨f_14, hf_f_14⟩ : ∃ z, z = fup f a0 (.inr (11, fs_13.set 7 (.ref a_12))) := ⟨_, rfl⟩
      rw [← hf_f_14] at hF; have h := h f_14 hf_f_14
      refine lv_aload_n hx hb dX8_select_43 rfl (lv_at hl 0 rfl) ?_
      obtain ⟨fs_16, a_15, he_fs_16, hv_fs_16, h⟩ := h
      refine fw_get (C := RX8) (T := TX8) (N := 9) hx hb hts hin_X8 hown hK hF he_fs_16 rfl 0 (by decide) (hts (.fieldLink RX8 10 "FrontCodedIndex" "tree" "LFrontCodedIndex$Tree;") (by decide +kernel)) (fun _ h9 => h9) hv_fs_16 dX8_select_44 ?_
      obtain ⟨fs_18, a_17, he_fs_18, hv_fs_18, h⟩ := h
      refine fw_getN (C := RX7) (T := TX7) (N := 8) hx hb hts hin_X7 hown hK hF he_fs_18 rfl 1 (by decide) (va_Nw.use rfl (hZ.2.1 (.fieldLinkNest RX8 124 "FrontCodedIndex$Tree" "values" "LFrontCodedIndex$IntRow;" "FrontCodedIndex") (by decide +kernel))) (fun _ h9 => h9) hv_fs_18 dX8_select_47 ?_
      refine lv_iload_n hx hb dX8_select_50 rfl (lv_at hl 1 rfl) ?_
      obtain ⟨⟨fs_r_19, hrc_r_19⟩, h⟩ := h
      refine fw_cV_i_p (As := [.int x1]) (rest := []) ⟨hx, hb, hml, hown, hts⟩ (cc_X2_at l G h) (⟨callB_of 1 hts ggX8_select_X2_at rfl rfl rfl (hts (.initialized RX2) (by decide +kernel)) (hts (.methodLink RX8 143 yX2_at) (by decide +kernel)) (by decide +kernel) ⟨Nat.le_of_ble_eq_true rfl, Nat.le_of_ble_eq_true rfl⟩, hts (.instanceMethod yX2_at) (by decide +kernel), hts (.selects RX2 yX2_at yX2_at) (by decide +kernel)⟩) rfl hrc_r_19 hK hZ hF hS hA rfl hl.1 rfl (Nat.le_of_ble_eq_true rfl) dX8_select_51 ⟨by show _ ≤ mc; omega, by show _ ≤ ms; omega⟩ (fun r_19 H locs h hF hS => ?_)
      simp only [Nat.add_zero]
      refine vx_ret ?_
      refine W.widen (k := mc) (n := ms) (by omega) (by omega) ?_
      exact W.iret (v := r_19) hx hb hr (fun t ht hW => ⟨⟨r_19, f_14, rfl, h, by rw [ht]; exact hF, FK.moved hW.alike hK⟩, hS.F ht⟩) hS.2.2 dX8_select_54
    · have h := h2 c_7
      obtain ⟨hb1, hb2, h⟩ := h
      refine vx_throwS hx hb hlt (own := RX8) (cls := "java/lang/IndexOutOfBoundsException") (text := "there is no such entry") (names := ["java/lang/RuntimeException", "java/lang/Exception"]) (ik := 94) (is := 159) (ic := 98) (sa := G.2.2 (100 + 159)) (A := A) hown (by decide) (by decide) (hts (.classLink RX8 94 "java/lang/IndexOutOfBoundsException") (by decide +kernel)) (hts (.initialized "java/lang/IndexOutOfBoundsException") (by decide +kernel)) (hX.1 (159, "there is no such entry") (by decide +kernel)) (vx_hat (B := thrB) (fun w hw => hts w ((by decide +kernel : ∀ w ∈ (vx_atS RX8 98 "java/lang/IndexOutOfBoundsException" ["java/lang/RuntimeException", "java/lang/Exception"]).filter goodWord, w ∈ wsX8_select) w hw)) (by decide +kernel) (fun w hw => va_Nw.use (thrB_tab w hw) (hX.2.1 w hw))) (by decide +kernel) hX.2.2.1 hX.2.2.2 hS (hl.1.trans hml.symm) dX8_select_18 dX8_select_21 dX8_select_22 dX8_select_24 dX8_select_27 (fun x hx => (hxt x hx).elim) (Nat.le_of_ble_eq_true rfl) (Nat.le_of_ble_eq_true rfl) (by show _ ≤ mc; omega) (by show _ ≤ ms; omega) hlocks (fun t hvm hz hk => ⟨(f, "java/lang/IndexOutOfBoundsException"), h, ⟨rfl, hF.kept (fun q e9 he9 => hk q (hF.in he9).2), FK.moved hvm hK⟩, ⟨Nat.le_trans hS.1 hz, fun q h1 h2 => (hk q (Nat.lt_of_lt_of_le h1 hS.1)).trans (hS.2.1 q h1 h2)⟩⟩) hS.2.2 (by omega) (by omega)
theorem dX8_separator_0 : decode cX8_separator 0 = .ok (.aload_n 0, 1) := by decide +kernel
theorem dX8_separator_1 : decode cX8_separator 1 = .ok (.iload_n 1, 1) := by decide +kernel
theorem dX8_separator_2 : decode cX8_separator 2 = .ok (.iload_n 2, 1) := by decide +kernel
theorem dX8_separator_3 : decode cX8_separator 3 = .ok (.invokevirtual 184, 3) := by decide +kernel
theorem dX8_separator_6 : decode cX8_separator 6 = .ok (.aload_n 0, 1) := by decide +kernel
theorem dX8_separator_7 : decode cX8_separator 7 = .ok (.iload_n 1, 1) := by decide +kernel
theorem dX8_separator_8 : decode cX8_separator 8 = .ok (.invokevirtual 178, 3) := by decide +kernel
theorem dX8_separator_11 : decode cX8_separator 11 = .ok (.istore 4, 2) := by decide +kernel
theorem dX8_separator_13 : decode cX8_separator 13 = .ok (.aload_n 0, 1) := by decide +kernel
theorem dX8_separator_14 : decode cX8_separator 14 = .ok (.getfield 10, 3) := by decide +kernel
theorem dX8_separator_17 : decode cX8_separator 17 = .ok (.iload 4, 2) := by decide +kernel
theorem dX8_separator_19 : decode cX8_separator 19 = .ok (.iload_n 2, 1) := by decide +kernel
theorem dX8_separator_20 : decode cX8_separator 20 = .ok (.invokevirtual 190, 3) := by decide +kernel
theorem dX8_separator_23 : decode cX8_separator 23 = .ok (.aload_n 0, 1) := by decide +kernel
theorem dX8_separator_24 : decode cX8_separator 24 = .ok (.getfield 10, 3) := by decide +kernel
theorem dX8_separator_27 : decode cX8_separator 27 = .ok (.iload 4, 2) := by decide +kernel
theorem dX8_separator_29 : decode cX8_separator 29 = .ok (.iload_n 2, 1) := by decide +kernel
theorem dX8_separator_30 : decode cX8_separator 30 = .ok (.invokevirtual 193, 3) := by decide +kernel
theorem dX8_separator_33 : decode cX8_separator 33 = .ok (.isub, 1) := by decide +kernel
theorem dX8_separator_34 : decode cX8_separator 34 = .ok (.istore 5, 2) := by decide +kernel
theorem dX8_separator_36 : decode cX8_separator 36 = .ok (.iload 4, 2) := by decide +kernel
theorem dX8_separator_38 : decode cX8_separator 38 = .ok (.ifCond .eq 15, 3) := by decide +kernel
theorem dX8_separator_41 : decode cX8_separator 41 = .ok (.iload_n 3, 1) := by decide +kernel
theorem dX8_separator_42 : decode cX8_separator 42 = .ok (.ifCond .lt 11, 3) := by decide +kernel
theorem dX8_separator_45 : decode cX8_separator 45 = .ok (.iload_n 3, 1) := by decide +kernel
theorem dX8_separator_46 : decode cX8_separator 46 = .ok (.iload 5, 2) := by decide +kernel
theorem dX8_separator_48 : decode cX8_separator 48 = .ok (.iconst 1, 1) := by decide +kernel
theorem dX8_separator_49 : decode cX8_separator 49 = .ok (.isub, 1) := by decide +kernel
theorem dX8_separator_50 : decode cX8_separator 50 = .ok (.if_icmp .lt 13, 3) := by decide +kernel
theorem dX8_separator_53 : decode cX8_separator 53 = .ok (.new 163, 3) := by decide +kernel
theorem dX8_separator_56 : decode cX8_separator 56 = .ok (.dup, 1) := by decide +kernel
theorem dX8_separator_57 : decode cX8_separator 57 = .ok (.ldc 196, 2) := by decide +kernel
theorem dX8_separator_59 : decode cX8_separator 59 = .ok (.invokespecial 167, 3) := by decide +kernel
theorem dX8_separator_62 : decode cX8_separator 62 = .ok (.athrow, 1) := by decide +kernel
theorem dX8_separator_63 : decode cX8_separator 63 = .ok (.aload_n 0, 1) := by decide +kernel
theorem dX8_separator_64 : decode cX8_separator 64 = .ok (.aload_n 0, 1) := by decide +kernel
theorem dX8_separator_65 : decode cX8_separator 65 = .ok (.getfield 10, 3) := by decide +kernel
theorem dX8_separator_68 : decode cX8_separator 68 = .ok (.iload 4, 2) := by decide +kernel
theorem dX8_separator_70 : decode cX8_separator 70 = .ok (.iconst 1, 1) := by decide +kernel
theorem dX8_separator_71 : decode cX8_separator 71 = .ok (.isub, 1) := by decide +kernel
theorem dX8_separator_72 : decode cX8_separator 72 = .ok (.aload_n 0, 1) := by decide +kernel
theorem dX8_separator_73 : decode cX8_separator 73 = .ok (.getfield 10, 3) := by decide +kernel
theorem dX8_separator_76 : decode cX8_separator 76 = .ok (.iload 4, 2) := by decide +kernel
theorem dX8_separator_78 : decode cX8_separator 78 = .ok (.iload_n 2, 1) := by decide +kernel
theorem dX8_separator_79 : decode cX8_separator 79 = .ok (.invokevirtual 193, 3) := by decide +kernel
theorem dX8_separator_82 : decode cX8_separator 82 = .ok (.iload_n 3, 1) := by decide +kernel
theorem dX8_separator_83 : decode cX8_separator 83 = .ok (.iadd, 1) := by decide +kernel
theorem dX8_separator_84 : decode cX8_separator 84 = .ok (.invokevirtual 198, 3) := by decide +kernel
theorem dX8_separator_87 : decode cX8_separator 87 = .ok (.putfield 58, 3) := by decide +kernel
theorem dX8_separator_90 : decode cX8_separator 90 = .ok (.aload_n 0, 1) := by decide +kernel
theorem dX8_separator_91 : decode cX8_separator 91 = .ok (.getfield 58, 3) := by decide +kernel
theorem dX8_separator_94 : decode cX8_separator 94 = .ok (.invokevirtual 72, 3) := by decide +kernel
theorem dX8_separator_97 : decode cX8_separator 97 = .ok (.ireturn, 1) := by decide +kernel
set_option maxRecDepth 20000 in
theorem ggX8_separator_X3_length : GoodIn wsX8_separator wsX3_length := goodIn_r _ [93, 94, 119] (by decide +kernel) (by decide +kernel)
set_option maxRecDepth 20000 in
theorem ggX8_separator_X7_endOf : GoodIn wsX8_separator wsX7_endOf := goodIn_r _ [64, 25, 26, 27, 23, 28, 29, 30, 31, 32, 33, 34, 35, 36, 37, 38, 39, 40, 41, 42, 43, 44, 45, 46, 47, 48, 49, 50, 51, 52, 53, 54, 65, 66, 67, 58, 68, 60, 69, 104, 105, 106, 107, 108, 109, 110, 111, 112, 113, 114, 115, 116] (by decide +kernel) (by decide +kernel)
set_option maxRecDepth 20000 in
theorem ggX8_separator_X7_separatorAfter : GoodIn wsX8_separator wsX7_separatorAfter := goodIn_r _ [77, 78, 25, 26, 27, 23, 28, 29, 30, 31, 32, 33, 34, 35, 36, 37, 38, 39, 40, 41, 42, 43, 44, 45, 46, 47, 48, 49, 50, 51, 52, 53, 54, 65, 66, 67, 58, 68, 60, 69, 79, 80, 81, 82, 83, 84, 85, 86, 87, 88, 104, 105, 106, 107, 108, 109, 110, 111, 112, 113, 114, 115, 116, 117, 118] (by decide +kernel) (by decide +kernel)
set_option maxRecDepth 20000 in
theorem ggX8_separator_X7_startOf : GoodIn wsX8_separator wsX7_startOf := goodIn_r _ [73, 25, 26, 27, 23, 28, 29, 30, 31, 32, 33, 34, 35, 36, 37, 38, 39, 40, 41, 42, 43, 44, 45, 46, 47, 48, 49, 50, 51, 52, 53, 54, 65, 66, 67, 58, 68, 60, 69, 104, 105, 106, 107, 108, 109, 110, 111, 112, 113, 114, 115, 116] (by decide +kernel) (by decide +kernel)
set_option maxRecDepth 20000 in
theorem ggX8_separator_X8_refuseMissingPage : GoodIn wsX8_separator wsX8_refuseMissingPage := goodIn_ca (goodIn_r _ [9, 10, 11, 3, 12, 13, 14, 8, 15, 16, 17, 18, 19, 20, 21, 22, 23, 24, 25, 26, 27, 28, 29, 30, 31, 32, 33, 34, 35, 36, 37, 38, 39, 40, 41, 42, 43, 44, 45, 46, 47, 48, 49, 50, 51, 52, 53, 54, 55, 56, 57, 58, 59, 60, 95, 96, 97, 98, 99, 100, 101, 102, 103, 104, 105, 106, 107, 108, 109, 110, 111, 112, 113, 114, 115, 116] (by decide +kernel) (by decide +kernel)) (goodIn_sub (fun _ h => List.mem_cons_of_mem _ (List.mem_append_right _ h)) (by decide +kernel))
set_option maxRecDepth 20000 in
theorem ggX8_separator_X8_tierOf : GoodIn wsX8_separator wsX8_tierOf := goodIn_r _ [19, 3, 95, 96, 97, 98, 99, 100, 101, 102, 103, 104, 105, 106, 107, 108, 109, 110, 111] (by decide +kernel) (by decide +kernel)
def wp_X8_separator (a0 : Nat) (x1 : Int32) (x2 : Int32) (x3 : Int32) (f : FT) (mc ms : Nat) (K : Int32 → FT → Prop) (KX : String → FT → Prop) : Prop :=
  ∃ ga_3 gb_4 : Nat, ga_3 ≤ mc ∧ gb_4 ≤ ms ∧ isO f a0 11 ∧ wp_X8_refuseMissingPage a0 x1 x2 f ga_3 gb_4 (fun f_2 => isO f_2 a0 11 ∧ wp_X8_tierOf a0 x1 f_2 (fun r_7 => gA f_2 a0 11 0 fun a_8 => isO f_2 a_8 10 ∧ wp_X7_endOf a_8 r_7 x2 f_2 (fun r_10 => gA f_2 a0 11 0 fun a_11 => isO f_2 a_11 10 ∧ wp_X7_startOf a_11 r_7 x2 f_2 (fun r_13 => ∀ v_14 : Int32, v_14 = (r_10 - r_13) → ((r_7 = (0 : Int32) → 1 ≤ (mc - ga_3) ∧ 6 ≤ (ms - gb_4) ∧ KX "java/util/NoSuchElementException" f_2) ∧
 (¬ (r_7 = (0 : Int32)) → ((x3 < (0 : Int32) → 1 ≤ (mc - ga_3) ∧ 6 ≤ (ms - gb_4) ∧ KX "java/util/NoSuchElementException" f_2) ∧
 (¬ (x3 < (0 : Int32)) → ((x3 < (v_14 - (1 : Int32)) → gA f_2 a0 11 0 fun a_19 => gA f_2 a0 11 0 fun a_21 => isO f_2 a_21 10 ∧ wp_X7_startOf a_21 r_7 x2 f_2 (fun r_23 => isO f_2 a_19 10 ∧ wp_X7_separatorAfter a_19 (r_7 - (1 : Int32)) (r_23 + x3) f_2 (fun a_24 => pV f_2 a0 11 7 (.ref a_24) fun f_26 => gA f_26 a0 11 7 fun a_27 => isO f_26 a_27 6 ∧ wp_X3_length a_27 f_26 (fun r_29 => K r_29 f_26)))) ∧
 (¬ (x3 < (v_14 - (1 : Int32))) → 1 ≤ (mc - ga_3) ∧ 6 ≤ (ms - gb_4) ∧ KX "java/util/NoSuchElementException" f_2)))))))))) KX
set_option maxHeartbeats 4000000 in
set_option maxRecDepth 100000 in
theorem cc_X8_separator (l : Launch) (G : GG) {f : FT} {sz : Nat} {a0 : Nat} {x1 : Int32} {x2 : Int32} {x3 : Int32} {mc ms : Nat} {K : Int32 → FT → Prop} {KX : String → FT → Prop} (hlt : l.stackTraces = false) (h : wp_X8_separator a0 x1 x2 x3 f mc ms K KX) : vx_Met l yX8_separator wsX8_separator ({ frames := 8, cells := mc, slots := ms, locals := 133 } : Room) (FPX G [.ref a0, .int x1, .int x2, .int x3] f sz) (va_Qi (fun r f9 => K r f9 : Int32 → FT → Prop) (FB G (fA f sz)) (fA f sz)) (FXC G (fA f sz) KX) mc ms (fA f sz) := by
  refine vx_ofW (cc := cX8_separator) (maxL := 6) (ret := (some .int)) (by decide) rfl ?_
  intro p e s m args below meth c s₁ B hml hxt hv
  obtain ⟨rfl, hsz, hF, hK, hZ, hX⟩ := hv
  have hx := B.exec
  have hb := B.bytes
  have hr := B.returns
  have hts := atoms_spec (ws := wsX8_separator) B.pre
  have hown : s.vm.findClass RX8 = some m.cls := findClass_of_methodNamed B.named
  have hlocks := B.notSynchronized
  subst hsz
  have hF := hF.self (sz := s.heap.size)
  generalize hAe : fA f s.heap.size = A at hF hZ hX ⊢
  have hA : ∀ q : Nat, s.heap.size ≤ q → A q := fun q h => by rw [← hAe]; exact Or.inr h
  have hS : va_S A s.heap s.heap [] := va_S.rf
  have hin_X8 : ∀ w ∈ wsX80, w ∈ wsX8_separator := by decide +kernel
  have hbc : 0 + mc ≤ mc := by omega
  have hbs : 0 + ms ≤ ms := by omega
  have hl := lv_entry ([.ref a0, .int x1, .int x2, .int x3]) (n := 6) (Nat.le_of_ble_eq_true rfl)
  rw [lg_entry_eq]
  generalize (lg_sl ([.ref a0, .int x1, .int x2, .int x3]) ++ List.replicate (6 - (lg_sl ([.ref a0, .int x1, .int x2, .int x3])).length) Slot.unset).toArray = ls at hl ⊢
  have hl : lv_has ls 6 [(0, .ref a0), (1, .int x1), (2, .int x2), (3, .int x3)] := hl
  unfold wp_X8_separator at h
  refine lv_aload_n hx hb dX8_separator_0 rfl (lv_at hl 0 rfl) ?_
  refine lv_iload_n hx hb dX8_separator_1 rfl (lv_at hl 1 rfl) ?_
  refine lv_iload_n hx hb dX8_separator_2 rfl (lv_at hl 2 rfl) ?_
  obtain ⟨ga_3, gb_4, hga_ga_3, hgb_ga_3, h⟩ := h
  obtain ⟨⟨fs_u_1, hrc_u_1⟩, h⟩ := h
  refine fx_cV_v (As := [.int x1, .int x2]) (rest := []) ⟨hx, hb, hml, hown, hts⟩ (cc_X8_refuseMissingPage l G hlt h) (⟨callB_of 2 hts ggX8_separator_X8_refuseMissingPage rfl rfl rfl (hts (.initialized RX8) (by decide +kernel)) (hts (.methodLink RX8 184 yX8_refuseMissingPage) (by decide +kernel)) (by decide +kernel) ⟨Nat.le_of_ble_eq_true rfl, Nat.le_of_ble_eq_true rfl⟩, hts (.instanceMethod yX8_refuseMissingPage) (by decide +kernel), hts (.selects RX8 yX8_refuseMissingPage yX8_refuseMissingPage) (by decide +kernel)⟩) rfl hrc_u_1 hK hZ hX hF hS hA rfl hl.1 rfl (Nat.le_of_ble_eq_true rfl) dX8_separator_3 ⟨by show _ ≤ mc; omega, by show _ ≤ ms; omega⟩ hxt hlocks (by omega) (by omega) (fun f_2 H locs h hF hS => ?_)
  obtain ⟨cs_5, hcs⟩ : ∃ z, z = (0 + ga_3) := ⟨_, rfl⟩; obtain ⟨sl_6, hsl⟩ : ∃ z, z = (0 + gb_4) := ⟨_, rfl⟩
  have hbc : cs_5 + (mc - ga_3) ≤ mc := by omega
  have hbs : sl_6 + (ms - gb_4) ≤ ms := by omega
  refine W.widen (k := cs_5) (n := sl_6) (by omega) (by omega) ?_
  clear hcs hsl
  refine lv_aload_n hx hb dX8_separator_6 rfl (lv_at hl 0 rfl) ?_
  refine lv_iload_n hx hb dX8_separator_7 rfl (lv_at hl 1 rfl) ?_
  obtain ⟨⟨fs_r_7, hrc_r_7⟩, h⟩ := h
  refine fw_cV_i_p (As := [.int x1]) (rest := []) ⟨hx, hb, hml, hown, hts⟩ (cc_X8_tierOf l G h) (⟨callB_of 1 hts ggX8_separator_X8_tierOf rfl rfl rfl (hts (.initialized RX8) (by decide +kernel)) (hts (.methodLink RX8 178 yX8_tierOf) (by decide +kernel)) (by decide +kernel) ⟨Nat.le_of_ble_eq_true rfl, Nat.le_of_ble_eq_true rfl⟩, hts (.instanceMethod yX8_tierOf) (by decide +kernel), hts (.selects RX8 yX8_tierOf yX8_tierOf) (by decide +kernel)⟩) rfl hrc_r_7 hK hZ hF hS hA rfl hl.1 rfl (Nat.le_of_ble_eq_true rfl) dX8_separator_8 ⟨by show _ ≤ mc; omega, by show _ ≤ ms; omega⟩ (fun r_7 H locs h hF hS => ?_)
  simp only [Nat.add_zero]
  refine lv_istore (lv' := [(4, .int r_7), (0, .ref a0), (1, .int x1), (2, .int x2), (3, .int x3)]) hx hb dX8_separator_11 hl (by decide) rfl (fun ls hl => ?_)
  refine lv_aload_n hx hb dX8_separator_13 rfl (lv_at hl 1 rfl) ?_
  obtain ⟨fs_9, a_8, he_fs_9, hv_fs_9, h⟩ := h
  refine fw_get (C := RX8) (T := TX8) (N := 9) hx hb hts hin_X8 hown hK hF he_fs_9 rfl 0 (by decide) (hts (.fieldLink RX8 10 "FrontCodedIndex" "tree" "LFrontCodedIndex$Tree;") (by decide +kernel)) (fun _ h9 => h9) hv_fs_9 dX8_separator_14 ?_
  refine lv_iload hx hb dX8_separator_17 (lv_at hl 0 rfl) ?_
  refine lv_iload_n hx hb dX8_separator_19 rfl (lv_at hl 3 rfl) ?_
  obtain ⟨⟨fs_r_10, hrc_r_10⟩, h⟩ := h
  refine fw_cV_i_p (As := [.int r_7, .int x2]) (rest := []) ⟨hx, hb, hml, hown, hts⟩ (cc_X7_endOf l G h) (⟨callB_of 2 hts ggX8_separator_X7_endOf rfl rfl rfl (hts (.initialized RX7) (by decide +kernel)) (hts (.methodLink RX8 190 yX7_endOf) (by decide +kernel)) (by decide +kernel) ⟨Nat.le_of_ble_eq_true rfl, Nat.le_of_ble_eq_true rfl⟩, hts (.instanceMethod yX7_endOf) (by decide +kernel), hts (.selects RX7 yX7_endOf yX7_endOf) (by decide +kernel)⟩) rfl hrc_r_10 hK hZ hF hS hA rfl hl.1 rfl (Nat.le_of_ble_eq_true rfl) dX8_separator_20 ⟨by show _ ≤ mc; omega, by show _ ≤ ms; omega⟩ (fun r_10 H locs h hF hS => ?_)
  simp only [Nat.add_zero]
  refine lv_aload_n hx hb dX8_separator_23 rfl (lv_at hl 1 rfl) ?_
  obtain ⟨fs_12, a_11, he_fs_12, hv_fs_12, h⟩ := h
  refine fw_get (C := RX8) (T := TX8) (N := 9) hx hb hts hin_X8 hown hK hF he_fs_12 rfl 0 (by decide) (hts (.fieldLink RX8 10 "FrontCodedIndex" "tree" "LFrontCodedIndex$Tree;") (by decide +kernel)) (fun _ h9 => h9) hv_fs_12 dX8_separator_24 ?_
  refine lv_iload hx hb dX8_separator_27 (lv_at hl 0 rfl) ?_
  refine lv_iload_n hx hb dX8_separator_29 rfl (lv_at hl 3 rfl) ?_
  obtain ⟨⟨fs_r_13, hrc_r_13⟩, h⟩ := h
  refine fw_cV_i_p (As := [.int r_7, .int x2]) (rest := [.int r_10]) ⟨hx, hb, hml, hown, hts⟩ (cc_X7_startOf l G h) (⟨callB_of 2 hts ggX8_separator_X7_startOf rfl rfl rfl (hts (.initialized RX7) (by decide +kernel)) (hts (.methodLink RX8 193 yX7_startOf) (by decide +kernel)) (by decide +kernel) ⟨Nat.le_of_ble_eq_true rfl, Nat.le_of_ble_eq_true rfl⟩, hts (.instanceMethod yX7_startOf) (by decide +kernel), hts (.selects RX7 yX7_startOf yX7_startOf) (by decide +kernel)⟩) rfl hrc_r_13 hK hZ hF hS hA rfl hl.1 rfl (Nat.le_of_ble_eq_true rfl) dX8_separator_30 ⟨by show _ ≤ mc; omega, by show _ ≤ ms; omega⟩ (fun r_13 H locs h hF hS => ?_)
  simp only [Nat.add_zero]
  refine lv_isub hx hb dX8_separator_33 ?_
  refine lv_topi (fun v_14 e_15 => ?_)
  have h := h v_14 e_15
  refine lv_istore (lv' := [(5, .int v_14), (4, .int r_7), (0, .ref a0), (1, .int x1), (2, .int x2), (3, .int x3)]) hx hb dX8_separator_34 hl (by decide) rfl (fun ls hl => ?_)
  refine lv_iload hx hb dX8_separator_36 (lv_at hl 1 rfl) ?_
  obtain ⟨h1, h2⟩ := h
  refine lv_if_eq (tgt := 53) hx hb dX8_separator_38 (by decide) (fun c_16 => ?_) (fun c_16 => ?_)
  · have h := h1 c_16
    obtain ⟨hb1, hb2, h⟩ := h
    refine vx_throwS13 hx hb hlt (own := RX8) (cls := "java/util/NoSuchElementException") (text := "there is no such separator") (ik := 163) (is := 196) (ic := 167) (sa := G.2.2 (100 + 196)) (A := A) hown (by decide) (hts (.classLink RX8 163 "java/util/NoSuchElementException") (by decide +kernel)) (hts (.initialized "java/util/NoSuchElementException") (by decide +kernel)) (hX.1 (196, "there is no such separator") (by decide +kernel)) (vx_hat (B := thrB) (fun w hw => hts w ((by decide +kernel : ∀ w ∈ (vx_at13 RX8 167 "java/util/NoSuchElementException").filter goodWord, w ∈ wsX8_separator) w hw)) (by decide +kernel) (fun w hw => va_Nw.use (thrB_tab w hw) (hX.2.1 w hw))) (by decide +kernel) hX.2.2.1 hX.2.2.2 hS (hl.1.trans hml.symm) dX8_separator_53 dX8_separator_56 dX8_separator_57 dX8_separator_59 dX8_separator_62 (fun x hx => (hxt x hx).elim) (Nat.le_of_ble_eq_true rfl) (Nat.le_of_ble_eq_true rfl) (by show _ ≤ mc; omega) (by show _ ≤ ms; omega) hlocks (fun t hvm hz hk => ⟨(f_2, "java/util/NoSuchElementException"), h, ⟨rfl, hF.kept (fun q e9 he9 => hk q (hF.in he9).2), FK.moved hvm hK⟩, ⟨Nat.le_trans hS.1 hz, fun q h1 h2 => (hk q (Nat.lt_of_lt_of_le h1 hS.1)).trans (hS.2.1 q h1 h2)⟩⟩) hS.2.2 (by omega) (by omega)
  · have h := h2 c_16
    refine lv_iload_n hx hb dX8_separator_41 rfl (lv_at hl 5 rfl) ?_
    obtain ⟨h1, h2⟩ := h
    refine lv_if_lt (tgt := 53) hx hb dX8_separator_42 (by decide) (fun c_17 => ?_) (fun c_17 => ?_)
    · have h := h1 c_17
      obtain ⟨hb1, hb2, h⟩ := h
      refine vx_throwS13 hx hb hlt (own := RX8) (cls := "java/util/NoSuchElementException") (text := "there is no such separator") (ik := 163) (is := 196) (ic := 167) (sa := G.2.2 (100 + 196)) (A := A) hown (by decide) (hts (.classLink RX8 163 "java/util/NoSuchElementException") (by decide +kernel)) (hts (.initialized "java/util/NoSuchElementException") (by decide +kernel)) (hX.1 (196, "there is no such separator") (by decide +kernel)) (vx_hat (B := thrB) (fun w hw => hts w ((by decide +kernel : ∀ w ∈ (vx_at13 RX8 167 "java/util/NoSuchElementException").filter goodWord, w ∈ wsX8_separator) w hw)) (by decide +kernel) (fun w hw => va_Nw.use (thrB_tab w hw) (hX.2.1 w hw))) (by decide +kernel) hX.2.2.1 hX.2.2.2 hS (hl.1.trans hml.symm) dX8_separator_53 dX8_separator_56 dX8_separator_57 dX8_separator_59 dX8_separator_62 (fun x hx => (hxt x hx).elim) (Nat.le_of_ble_eq_true rfl) (Nat.le_of_ble_eq_true rfl) (by show _ ≤ mc; omega) (by show _ ≤ ms; omega) hlocks (fun t hvm hz hk => ⟨(f_2, "java/util/NoSuchElementException"), h, ⟨rfl, hF.kept (fun q e9 he9 => hk q (hF.in he9).2), FK.moved hvm hK⟩, ⟨Nat.le_trans hS.1 hz, fun q h1 h2 => (hk q (Nat.lt_of_lt_of_le h1 hS.1)).trans (hS.2.1 q h1 h2)⟩⟩) hS.2.2 (by omega) (by omega)
    · have h := h2 c_17
      refine lv_iload_n hx hb dX8_separator_45 rfl (lv_at hl 5 rfl) ?_
      refine lv_iload hx hb dX8_separator_46 (lv_at hl 0 rfl) ?_
      refine lv_iconst (v := (1 : Int32)) hx hb dX8_separator_48 (by decide) ?_
      refine lv_isub hx hb dX8_separator_49 ?_
      obtain ⟨h1, h2⟩ := h
      refine lv_icmp_lt (tgt := 63) hx hb dX8_separator_50 (by decide) (fun c_18 => ?_) (fun c_18 => ?_)
      · have h := h1 c_18
        refine lv_aload_n hx hb dX8_separator_63 rfl (lv_at hl 2 rfl) ?_
        refine lv_aload_n hx hb dX8_separator_64 rfl (lv_at hl 2 rfl) ?_
        obtain ⟨fs_20, a_19, he_fs_20, hv_fs_20, h⟩ := h
        refine fw_get (C := RX8) (T := TX8) (N := 9) hx hb hts hin_X8 hown hK hF he_fs_20 rfl 0 (by decide) (hts (.fieldLink RX8 10 "FrontCodedIndex" "tree" "LFrontCodedIndex$Tree;") (by decide +kernel)) (fun _ h9 => h9) hv_fs_20 dX8_separator_65 ?_
        refine lv_iload hx hb dX8_separator_68 (lv_at hl 1 rfl) ?_
        refine lv_iconst (v := (1 : Int32)) hx hb dX8_separator_70 (by decide) ?_
        refine lv_isub hx hb dX8_separator_71 ?_
        refine lv_aload_n hx hb dX8_separator_72 rfl (lv_at hl 2 rfl) ?_
        obtain ⟨fs_22, a_21, he_fs_22, hv_fs_22, h⟩ := h
        refine fw_get (C := RX8) (T := TX8) (N := 9) hx hb hts hin_X8 hown hK hF he_fs_22 rfl 0 (by decide) (hts (.fieldLink RX8 10 "FrontCodedIndex" "tree" "LFrontCodedIndex$Tree;") (by decide +kernel)) (fun _ h9 => h9) hv_fs_22 dX8_separator_73 ?_
        refine lv_iload hx hb dX8_separator_76 (lv_at hl 1 rfl) ?_
        refine lv_iload_n hx hb dX8_separator_78 rfl (lv_at hl 4 rfl) ?_
        obtain ⟨⟨fs_r_23, hrc_r_23⟩, h⟩ := h
        refine fw_cV_i_p (As := [.int r_7, .int x2]) (rest := [.int (r_7 - (1 : Int32)), .ref a_19, .ref a0]) ⟨hx, hb, hml, hown, hts⟩ (cc_X7_startOf l G h) (⟨callB_of 2 hts ggX8_separator_X7_startOf rfl rfl rfl (hts (.initialized RX7) (by decide +kernel)) (hts (.methodLink RX8 193 yX7_startOf) (by decide +kernel)) (by decide +kernel) ⟨Nat.le_of_ble_eq_true rfl, Nat.le_of_ble_eq_true rfl⟩, hts (.instanceMethod yX7_startOf) (by decide +kernel), hts (.selects RX7 yX7_startOf yX7_startOf) (by decide +kernel)⟩) rfl hrc_r_23 hK hZ hF hS hA rfl hl.1 rfl (Nat.le_of_ble_eq_true rfl) dX8_separator_79 ⟨by show _ ≤ mc; omega, by show _ ≤ ms; omega⟩ (fun r_23 H locs h hF hS => ?_)
        simp only [Nat.add_zero]
        refine lv_iload_n hx hb dX8_separator_82 rfl (lv_at hl 5 rfl) ?_
        refine lv_iadd hx hb dX8_separator_83 ?_
        obtain ⟨⟨fs_a_24, hrc_a_24⟩, h⟩ := h
        refine fw_cV_q_p (As := [.int (r_7 - (1 : Int32)), .int (r_23 + x3)]) (rest := [.ref a0]) ⟨hx, hb, hml, hown, hts⟩ (cc_X7_separatorAfter l G h) (⟨callB_of 2 hts ggX8_separator_X7_separatorAfter rfl rfl rfl (hts (.initialized RX7) (by decide +kernel)) (hts (.methodLink RX8 198 yX7_separatorAfter) (by decide +kernel)) (by decide +kernel) ⟨Nat.le_of_ble_eq_true rfl, Nat.le_of_ble_eq_true rfl⟩, hts (.instanceMethod yX7_separatorAfter) (by decide +kernel), hts (.selects RX7 yX7_separatorAfter yX7_separatorAfter) (by decide +kernel)⟩) rfl hrc_a_24 hK hZ hF hS hA rfl hl.1 rfl (Nat.le_of_ble_eq_true rfl) dX8_separator_84 ⟨by show _ ≤ mc; omega, by show _ ≤ ms; omega⟩ (fun a_24 H locs h hF hS => ?_)
        simp only [Nat.add_zero]
        obtain ⟨fs_25, he_fs_25, hl_fs_25, h⟩ := h
        refine fw_put (v := .ref a_24) (ty := (.object "FrontCodedIndex$Key")) (C := RX8) (T := TX8) (N := 9) hx hb hts hin_X8 tyX8 (tyX8_ok) nmX8 hown hK hF hS he_fs_25 rfl 7 (by decide) (hts (.fieldLink RX8 58 "FrontCodedIndex" "key" "LFrontCodedIndex$Key;") (by decide +kernel)) (fun _ h9 => h9) rfl (by decide +kernel) rfl rfl hl_fs_25 dX8_separator_87 (fun H locs hF hS => ?_)
        obtain ⟨f_26, hf_f_26⟩ : ∃ z, z = fup f_2 a0 (.inr (11, fs_25.set 7 (.ref a_24))) := ⟨_, rfl⟩
        rw [← hf_f_26] at hF; have h := h f_26 hf_f_26
        refine lv_aload_n hx hb dX8_separator_90 rfl (lv_at hl 2 rfl) ?_
        obtain ⟨fs_28, a_27, he_fs_28, hv_fs_28, h⟩ := h
        refine fw_get (C := RX8) (T := TX8) (N := 9) hx hb hts hin_X8 hown hK hF he_fs_28 rfl 7 (by decide) (hts (.fieldLink RX8 58 "FrontCodedIndex" "key" "LFrontCodedIndex$Key;") (by decide +kernel)) (fun _ h9 => h9) hv_fs_28 dX8_separator_91 ?_
        obtain ⟨⟨fs_r_29, hrc_r_29⟩, h⟩ := h
        refine fw_cV_i_p (As := []) (rest := []) ⟨hx, hb, hml, hown, hts⟩ (cc_X3_length l G h) (⟨callB_of 0 hts ggX8_separator_X3_length rfl rfl rfl (hts (.initialized RX3) (by decide +kernel)) (hts (.methodLink RX8 72 yX3_length) (by decide +kernel)) (by decide +kernel) ⟨Nat.le_of_ble_eq_true rfl, Nat.le_of_ble_eq_true rfl⟩, hts (.instanceMethod yX3_length) (by decide +kernel), hts (.selects RX3 yX3_length yX3_length) (by decide +kernel)⟩) rfl hrc_r_29 hK hZ hF hS hA rfl hl.1 rfl (Nat.le_of_ble_eq_true rfl) dX8_separator_94 ⟨by show _ ≤ mc; omega, by show _ ≤ ms; omega⟩ (fun r_29 H locs h hF hS => ?_)
        simp only [Nat.add_zero]
        refine vx_ret ?_
        refine W.widen (k := mc) (n := ms) (by omega) (by omega) ?_
        exact W.iret (v := r_29) hx hb hr (fun t ht hW => ⟨⟨r_29, f_26, rfl, h, by rw [ht]; exact hF, FK.moved hW.alike hK⟩, hS.F ht⟩) hS.2.2 dX8_separator_97
      · have h := h2 c_18
        obtain ⟨hb1, hb2, h⟩ := h
        refine vx_throwS13 hx hb hlt (own := RX8) (cls := "java/util/NoSuchElementException") (text := "there is no such separator") (ik := 163) (is := 196) (ic := 167) (sa := G.2.2 (100 + 196)) (A := A) hown (by decide) (hts (.classLink RX8 163 "java/util/NoSuchElementException") (by decide +kernel)) (hts (.initialized "java/util/NoSuchElementException") (by decide +kernel)) (hX.1 (196, "there is no such separator") (by decide +kernel)) (vx_hat (B := thrB) (fun w hw => hts w ((by decide +kernel : ∀ w ∈ (vx_at13 RX8 167 "java/util/NoSuchElementException").filter goodWord, w ∈ wsX8_separator) w hw)) (by decide +kernel) (fun w hw => va_Nw.use (thrB_tab w hw) (hX.2.1 w hw))) (by decide +kernel) hX.2.2.1 hX.2.2.2 hS (hl.1.trans hml.symm) dX8_separator_53 dX8_separator_56 dX8_separator_57 dX8_separator_59 dX8_separator_62 (fun x hx => (hxt x hx).elim) (Nat.le_of_ble_eq_true rfl) (Nat.le_of_ble_eq_true rfl) (by show _ ≤ mc; omega) (by show _ ≤ ms; omega) hlocks (fun t hvm hz hk => ⟨(f_2, "java/util/NoSuchElementException"), h, ⟨rfl, hF.kept (fun q e9 he9 => hk q (hF.in he9).2), FK.moved hvm hK⟩, ⟨Nat.le_trans hS.1 hz, fun q h1 h2 => (hk q (Nat.lt_of_lt_of_le h1 hS.1)).trans (hS.2.1 q h1 h2)⟩⟩) hS.2.2 (by omega) (by omega)
theorem dX8_setCapacity_0 : decode cX8_setCapacity 0 = .ok (.iload_n 1, 1) := by decide +kernel
theorem dX8_setCapacity_1 : decode cX8_setCapacity 1 = .ok (.bipush 64, 2) := by decide +kernel
theorem dX8_setCapacity_3 : decode cX8_setCapacity 3 = .ok (.if_icmp .lt 10, 3) := by decide +kernel
theorem dX8_setCapacity_6 : decode cX8_setCapacity 6 = .ok (.iload_n 1, 1) := by decide +kernel
theorem dX8_setCapacity_7 : decode cX8_setCapacity 7 = .ok (.sipush 200, 3) := by decide +kernel
theorem dX8_setCapacity_10 : decode cX8_setCapacity 10 = .ok (.if_icmp .le 13, 3) := by decide +kernel
theorem dX8_setCapacity_13 : decode cX8_setCapacity 13 = .ok (.new 65, 3) := by decide +kernel
theorem dX8_setCapacity_16 : decode cX8_setCapacity 16 = .ok (.dup, 1) := by decide +kernel
theorem dX8_setCapacity_17 : decode cX8_setCapacity 17 = .ok (.ldc 103, 2) := by decide +kernel
theorem dX8_setCapacity_19 : decode cX8_setCapacity 19 = .ok (.invokespecial 69, 3) := by decide +kernel
theorem dX8_setCapacity_22 : decode cX8_setCapacity 22 = .ok (.athrow, 1) := by decide +kernel
theorem dX8_setCapacity_23 : decode cX8_setCapacity 23 = .ok (.aload_n 0, 1) := by decide +kernel
theorem dX8_setCapacity_24 : decode cX8_setCapacity 24 = .ok (.getfield 10, 3) := by decide +kernel
theorem dX8_setCapacity_27 : decode cX8_setCapacity 27 = .ok (.getfield 105, 3) := by decide +kernel
theorem dX8_setCapacity_30 : decode cX8_setCapacity 30 = .ok (.invokevirtual 109, 3) := by decide +kernel
theorem dX8_setCapacity_33 : decode cX8_setCapacity 33 = .ok (.ifCond .le 13, 3) := by decide +kernel
theorem dX8_setCapacity_36 : decode cX8_setCapacity 36 = .ok (.new 76, 3) := by decide +kernel
theorem dX8_setCapacity_39 : decode cX8_setCapacity 39 = .ok (.dup, 1) := by decide +kernel
theorem dX8_setCapacity_40 : decode cX8_setCapacity 40 = .ok (.ldc 114, 2) := by decide +kernel
theorem dX8_setCapacity_42 : decode cX8_setCapacity 42 = .ok (.invokespecial 80, 3) := by decide +kernel
theorem dX8_setCapacity_45 : decode cX8_setCapacity 45 = .ok (.athrow, 1) := by decide +kernel
theorem dX8_setCapacity_46 : decode cX8_setCapacity 46 = .ok (.aload_n 0, 1) := by decide +kernel
theorem dX8_setCapacity_47 : decode cX8_setCapacity 47 = .ok (.getfield 10, 3) := by decide +kernel
theorem dX8_setCapacity_50 : decode cX8_setCapacity 50 = .ok (.getfield 116, 3) := by decide +kernel
theorem dX8_setCapacity_53 : decode cX8_setCapacity 53 = .ok (.istore_n 2, 1) := by decide +kernel
theorem dX8_setCapacity_54 : decode cX8_setCapacity 54 = .ok (.aload_n 0, 1) := by decide +kernel
theorem dX8_setCapacity_55 : decode cX8_setCapacity 55 = .ok (.getfield 10, 3) := by decide +kernel
theorem dX8_setCapacity_58 : decode cX8_setCapacity 58 = .ok (.iload_n 1, 1) := by decide +kernel
theorem dX8_setCapacity_59 : decode cX8_setCapacity 59 = .ok (.putfield 116, 3) := by decide +kernel
theorem dX8_setCapacity_62 : decode cX8_setCapacity 62 = .ok (.iload_n 2, 1) := by decide +kernel
theorem dX8_setCapacity_63 : decode cX8_setCapacity 63 = .ok (.ireturn, 1) := by decide +kernel
set_option maxRecDepth 20000 in
theorem ggX8_setCapacity_X4_count : GoodIn wsX8_setCapacity wsX4_count := goodIn_r _ [10, 11, 12, 13, 14, 15, 16, 17, 35, 36, 37, 38, 39] (by decide +kernel) (by decide +kernel)
def wp_X8_setCapacity (a0 : Nat) (x1 : Int32) (f : FT) (mc ms : Nat) (K : Int32 → FT → Prop) (KX : String → FT → Prop) : Prop :=
  ((x1 < (64 : Int32) → 1 ≤ mc ∧ 6 ≤ ms ∧ KX "java/lang/IllegalArgumentException" f) ∧
 (¬ (x1 < (64 : Int32)) → ((x1 ≤ (200 : Int32) → gA f a0 11 0 fun a_3 => gA f a_3 10 0 fun a_5 => isO f a_5 7 ∧ wp_X4_count a_5 f (fun r_7 => ((r_7 ≤ (0 : Int32) → gA f a0 11 0 fun a_9 => gI f a_9 10 7 fun v_11 => gA f a0 11 0 fun a_13 => pV f a_13 10 7 (.int x1) fun f_16 => K v_11 f_16) ∧
 (¬ (r_7 ≤ (0 : Int32)) → 1 ≤ mc ∧ 6 ≤ ms ∧ KX "java/lang/IllegalStateException" f)))) ∧
 (¬ (x1 ≤ (200 : Int32)) → 1 ≤ mc ∧ 6 ≤ ms ∧ KX "java/lang/IllegalArgumentException" f))))
set_option maxHeartbeats 4000000 in
set_option maxRecDepth 100000 in
theorem cc_X8_setCapacity (l : Launch) (G : GG) {f : FT} {sz : Nat} {a0 : Nat} {x1 : Int32} {mc ms : Nat} {K : Int32 → FT → Prop} {KX : String → FT → Prop} (hlt : l.stackTraces = false) (h : wp_X8_setCapacity a0 x1 f mc ms K KX) : vx_Met l yX8_setCapacity wsX8_setCapacity ({ frames := 6, cells := mc, slots := ms, locals := 90 } : Room) (FPX G [.ref a0, .int x1] f sz) (va_Qi (fun r f9 => K r f9 : Int32 → FT → Prop) (FB G (fA f sz)) (fA f sz)) (FXC G (fA f sz) KX) mc ms (fA f sz) := by
  refine vx_ofW (cc := cX8_setCapacity) (maxL := 3) (ret := (some .int)) (by decide) rfl ?_
  intro p e s m args below meth c s₁ B hml hxt hv
  obtain ⟨rfl, hsz, hF, hK, hZ, hX⟩ := hv
  have hx := B.exec
  have hb := B.bytes
  have hr := B.returns
  have hts := atoms_spec (ws := wsX8_setCapacity) B.pre
  have hown : s.vm.findClass RX8 = some m.cls := findClass_of_methodNamed B.named
  have hlocks := B.notSynchronized
  subst hsz
  have hF := hF.self (sz := s.heap.size)
  generalize hAe : fA f s.heap.size = A at hF hZ hX ⊢
  have hA : ∀ q : Nat, s.heap.size ≤ q → A q := fun q h => by rw [← hAe]; exact Or.inr h
  have hS : va_S A s.heap s.heap [] := va_S.rf
  have hin_X7 : ∀ w ∈ wsX70, w ∈ wsX8_setCapacity := by decide +kernel
  have hin_X8 : ∀ w ∈ wsX80, w ∈ wsX8_setCapacity := by decide +kernel
  have hbc : 0 + mc ≤ mc := by omega
  have hbs : 0 + ms ≤ ms := by omega
  have hl := lv_entry ([.ref a0, .int x1]) (n := 3) (Nat.le_of_ble_eq_true rfl)
  rw [lg_entry_eq]
  generalize (lg_sl ([.ref a0, .int x1]) ++ List.replicate (3 - (lg_sl ([.ref a0, .int x1])).length) Slot.unset).toArray = ls at hl ⊢
  have hl : lv_has ls 3 [(0, .ref a0), (1, .int x1)] := hl
  unfold wp_X8_setCapacity at h
  refine lv_iload_n hx hb dX8_setCapacity_0 rfl (lv_at hl 1 rfl) ?_
  refine lv_bipush (v := (64 : Int32)) hx hb dX8_setCapacity_1 (by decide) ?_
  obtain ⟨h1, h2⟩ := h
  refine lv_icmp_lt (tgt := 13) hx hb dX8_setCapacity_3 (by decide) (fun c_1 => ?_) (fun c_1 => ?_)
  · have h := h1 c_1
    obtain ⟨hb1, hb2, h⟩ := h
    refine vx_throwS hx hb hlt (own := RX8) (cls := "java/lang/IllegalArgumentException") (text := "a capacity is from 64 to 200") (names := ["java/lang/RuntimeException", "java/lang/Exception"]) (ik := 65) (is := 103) (ic := 69) (sa := G.2.2 (100 + 103)) (A := A) hown (by decide) (by decide) (hts (.classLink RX8 65 "java/lang/IllegalArgumentException") (by decide +kernel)) (hts (.initialized "java/lang/IllegalArgumentException") (by decide +kernel)) (hX.1 (103, "a capacity is from 64 to 200") (by decide +kernel)) (vx_hat (B := thrB) (fun w hw => hts w ((by decide +kernel : ∀ w ∈ (vx_atS RX8 69 "java/lang/IllegalArgumentException" ["java/lang/RuntimeException", "java/lang/Exception"]).filter goodWord, w ∈ wsX8_setCapacity) w hw)) (by decide +kernel) (fun w hw => va_Nw.use (thrB_tab w hw) (hX.2.1 w hw))) (by decide +kernel) hX.2.2.1 hX.2.2.2 hS (hl.1.trans hml.symm) dX8_setCapacity_13 dX8_setCapacity_16 dX8_setCapacity_17 dX8_setCapacity_19 dX8_setCapacity_22 (fun x hx => (hxt x hx).elim) (Nat.le_of_ble_eq_true rfl) (Nat.le_of_ble_eq_true rfl) (by show _ ≤ mc; omega) (by show _ ≤ ms; omega) hlocks (fun t hvm hz hk => ⟨(f, "java/lang/IllegalArgumentException"), h, ⟨rfl, hF.kept (fun q e9 he9 => hk q (hF.in he9).2), FK.moved hvm hK⟩, ⟨Nat.le_trans hS.1 hz, fun q h1 h2 => (hk q (Nat.lt_of_lt_of_le h1 hS.1)).trans (hS.2.1 q h1 h2)⟩⟩) hS.2.2 (by omega) (by omega)
  · have h := h2 c_1
    refine lv_iload_n hx hb dX8_setCapacity_6 rfl (lv_at hl 1 rfl) ?_
    refine lv_sipush (v := (200 : Int32)) hx hb dX8_setCapacity_7 (by decide) ?_
    obtain ⟨h1, h2⟩ := h
    refine lv_icmp_le (tgt := 23) hx hb dX8_setCapacity_10 (by decide) (fun c_2 => ?_) (fun c_2 => ?_)
    · have h := h1 c_2
      refine lv_aload_n hx hb dX8_setCapacity_23 rfl (lv_at hl 0 rfl) ?_
      obtain ⟨fs_4, a_3, he_fs_4, hv_fs_4, h⟩ := h
      refine fw_get (C := RX8) (T := TX8) (N := 9) hx hb hts hin_X8 hown hK hF he_fs_4 rfl 0 (by decide) (hts (.fieldLink RX8 10 "FrontCodedIndex" "tree" "LFrontCodedIndex$Tree;") (by decide +kernel)) (fun _ h9 => h9) hv_fs_4 dX8_setCapacity_24 ?_
      obtain ⟨fs_6, a_5, he_fs_6, hv_fs_6, h⟩ := h
      refine fw_getN (C := RX7) (T := TX7) (N := 8) hx hb hts hin_X7 hown hK hF he_fs_6 rfl 0 (by decide) (va_Nw.use rfl (hZ.2.1 (.fieldLinkNest RX8 105 "FrontCodedIndex$Tree" "keys" "LFrontCodedIndex$KeyRow;" "FrontCodedIndex") (by decide +kernel))) (fun _ h9 => h9) hv_fs_6 dX8_setCapacity_27 ?_
      obtain ⟨⟨fs_r_7, hrc_r_7⟩, h⟩ := h
      refine fw_cV_i_p (As := []) (rest := []) ⟨hx, hb, hml, hown, hts⟩ (cc_X4_count l G h) (⟨callB_of 0 hts ggX8_setCapacity_X4_count rfl rfl rfl (hts (.initialized RX4) (by decide +kernel)) (hts (.methodLink RX8 109 yX4_count) (by decide +kernel)) (by decide +kernel) ⟨Nat.le_of_ble_eq_true rfl, Nat.le_of_ble_eq_true rfl⟩, hts (.instanceMethod yX4_count) (by decide +kernel), hts (.selects RX4 yX4_count yX4_count) (by decide +kernel)⟩) rfl hrc_r_7 hK hZ hF hS hA rfl hl.1 rfl (Nat.le_of_ble_eq_true rfl) dX8_setCapacity_30 ⟨by show _ ≤ mc; omega, by show _ ≤ ms; omega⟩ (fun r_7 H locs h hF hS => ?_)
      simp only [Nat.add_zero]
      obtain ⟨h1, h2⟩ := h
      refine lv_if_le (tgt := 46) hx hb dX8_setCapacity_33 (by decide) (fun c_8 => ?_) (fun c_8 => ?_)
      · have h := h1 c_8
        refine lv_aload_n hx hb dX8_setCapacity_46 rfl (lv_at hl 0 rfl) ?_
        obtain ⟨fs_10, a_9, he_fs_10, hv_fs_10, h⟩ := h
        refine fw_get (C := RX8) (T := TX8) (N := 9) hx hb hts hin_X8 hown hK hF he_fs_10 rfl 0 (by decide) (hts (.fieldLink RX8 10 "FrontCodedIndex" "tree" "LFrontCodedIndex$Tree;") (by decide +kernel)) (fun _ h9 => h9) hv_fs_10 dX8_setCapacity_47 ?_
        obtain ⟨fs_12, v_11, he_fs_12, hv_fs_12, h⟩ := h
        refine fw_getN (C := RX7) (T := TX7) (N := 8) hx hb hts hin_X7 hown hK hF he_fs_12 rfl 7 (by decide) (va_Nw.use rfl (hZ.2.1 (.fieldLinkNest RX8 116 "FrontCodedIndex$Tree" "capacity" "I" "FrontCodedIndex") (by decide +kernel))) (fun _ h9 => h9) hv_fs_12 dX8_setCapacity_50 ?_
        refine lv_istore_n (lv' := [(2, .int v_11), (0, .ref a0), (1, .int x1)]) hx hb dX8_setCapacity_53 rfl hl (by decide) rfl (fun ls hl => ?_)
        refine lv_aload_n hx hb dX8_setCapacity_54 rfl (lv_at hl 1 rfl) ?_
        obtain ⟨fs_14, a_13, he_fs_14, hv_fs_14, h⟩ := h
        refine fw_get (C := RX8) (T := TX8) (N := 9) hx hb hts hin_X8 hown hK hF he_fs_14 rfl 0 (by decide) (hts (.fieldLink RX8 10 "FrontCodedIndex" "tree" "LFrontCodedIndex$Tree;") (by decide +kernel)) (fun _ h9 => h9) hv_fs_14 dX8_setCapacity_55 ?_
        refine lv_iload_n hx hb dX8_setCapacity_58 rfl (lv_at hl 2 rfl) ?_
        obtain ⟨fs_15, he_fs_15, hl_fs_15, h⟩ := h
        refine fw_putN (v := .int x1) (ty := .int) (C := RX7) (T := TX7) (N := 8) hx hb hts hin_X7 tyX7 (tyX7_ok) nmX7 hown hK hF hS he_fs_15 rfl 7 (by decide) (va_Nw.use rfl (hZ.2.1 (.fieldLinkNest RX8 116 "FrontCodedIndex$Tree" "capacity" "I" "FrontCodedIndex") (by decide +kernel))) (fun _ h9 => h9) rfl (by decide +kernel) rfl rfl hl_fs_15 dX8_setCapacity_59 (fun H locs hF hS => ?_)
        obtain ⟨f_16, hf_f_16⟩ : ∃ z, z = fup f a_13 (.inr (10, fs_15.set 7 (.int x1))) := ⟨_, rfl⟩
        rw [← hf_f_16] at hF; have h := h f_16 hf_f_16
        refine lv_iload_n hx hb dX8_setCapacity_62 rfl (lv_at hl 0 rfl) ?_
        refine vx_ret ?_
        refine W.widen (k := mc) (n := ms) (by omega) (by omega) ?_
        exact W.iret (v := v_11) hx hb hr (fun t ht hW => ⟨⟨v_11, f_16, rfl, h, by rw [ht]; exact hF, FK.moved hW.alike hK⟩, hS.F ht⟩) hS.2.2 dX8_setCapacity_63
      · have h := h2 c_8
        obtain ⟨hb1, hb2, h⟩ := h
        refine vx_throwS hx hb hlt (own := RX8) (cls := "java/lang/IllegalStateException") (text := "the tree has entries") (names := ["java/lang/RuntimeException", "java/lang/Exception"]) (ik := 76) (is := 114) (ic := 80) (sa := G.2.2 (100 + 114)) (A := A) hown (by decide) (by decide) (hts (.classLink RX8 76 "java/lang/IllegalStateException") (by decide +kernel)) (hts (.initialized "java/lang/IllegalStateException") (by decide +kernel)) (hX.1 (114, "the tree has entries") (by decide +kernel)) (vx_hat (B := thrB) (fun w hw => hts w ((by decide +kernel : ∀ w ∈ (vx_atS RX8 80 "java/lang/IllegalStateException" ["java/lang/RuntimeException", "java/lang/Exception"]).filter goodWord, w ∈ wsX8_setCapacity) w hw)) (by decide +kernel) (fun w hw => va_Nw.use (thrB_tab w hw) (hX.2.1 w hw))) (by decide +kernel) hX.2.2.1 hX.2.2.2 hS (hl.1.trans hml.symm) dX8_setCapacity_36 dX8_setCapacity_39 dX8_setCapacity_40 dX8_setCapacity_42 dX8_setCapacity_45 (fun x hx => (hxt x hx).elim) (Nat.le_of_ble_eq_true rfl) (Nat.le_of_ble_eq_true rfl) (by show _ ≤ mc; omega) (by show _ ≤ ms; omega) hlocks (fun t hvm hz hk => ⟨(f, "java/lang/IllegalStateException"), h, ⟨rfl, hF.kept (fun q e9 he9 => hk q (hF.in he9).2), FK.moved hvm hK⟩, ⟨Nat.le_trans hS.1 hz, fun q h1 h2 => (hk q (Nat.lt_of_lt_of_le h1 hS.1)).trans (hS.2.1 q h1 h2)⟩⟩) hS.2.2 (by omega) (by omega)
    · have h := h2 c_2
      obtain ⟨hb1, hb2, h⟩ := h
      refine vx_throwS hx hb hlt (own := RX8) (cls := "java/lang/IllegalArgumentException") (text := "a capacity is from 64 to 200") (names := ["java/lang/RuntimeException", "java/lang/Exception"]) (ik := 65) (is := 103) (ic := 69) (sa := G.2.2 (100 + 103)) (A := A) hown (by decide) (by decide) (hts (.classLink RX8 65 "java/lang/IllegalArgumentException") (by decide +kernel)) (hts (.initialized "java/lang/IllegalArgumentException") (by decide +kernel)) (hX.1 (103, "a capacity is from 64 to 200") (by decide +kernel)) (vx_hat (B := thrB) (fun w hw => hts w ((by decide +kernel : ∀ w ∈ (vx_atS RX8 69 "java/lang/IllegalArgumentException" ["java/lang/RuntimeException", "java/lang/Exception"]).filter goodWord, w ∈ wsX8_setCapacity) w hw)) (by decide +kernel) (fun w hw => va_Nw.use (thrB_tab w hw) (hX.2.1 w hw))) (by decide +kernel) hX.2.2.1 hX.2.2.2 hS (hl.1.trans hml.symm) dX8_setCapacity_13 dX8_setCapacity_16 dX8_setCapacity_17 dX8_setCapacity_19 dX8_setCapacity_22 (fun x hx => (hxt x hx).elim) (Nat.le_of_ble_eq_true rfl) (Nat.le_of_ble_eq_true rfl) (by show _ ≤ mc; omega) (by show _ ≤ ms; omega) hlocks (fun t hvm hz hk => ⟨(f, "java/lang/IllegalArgumentException"), h, ⟨rfl, hF.kept (fun q e9 he9 => hk q (hF.in he9).2), FK.moved hvm hK⟩, ⟨Nat.le_trans hS.1 hz, fun q h1 h2 => (hk q (Nat.lt_of_lt_of_le h1 hS.1)).trans (hS.2.1 q h1 h2)⟩⟩) hS.2.2 (by omega) (by omega)
theorem dX8_setKey_0 : decode cX8_setKey 0 = .ok (.iload_n 3, 1) := by decide +kernel
theorem dX8_setKey_1 : decode cX8_setKey 1 = .ok (.ifCond .lt 9, 3) := by decide +kernel
theorem dX8_setKey_4 : decode cX8_setKey 4 = .ok (.iload_n 3, 1) := by decide +kernel
theorem dX8_setKey_5 : decode cX8_setKey 5 = .ok (.bipush 8, 2) := by decide +kernel
theorem dX8_setKey_7 : decode cX8_setKey 7 = .ok (.if_icmp .le 13, 3) := by decide +kernel
theorem dX8_setKey_10 : decode cX8_setKey 10 = .ok (.new 65, 3) := by decide +kernel
theorem dX8_setKey_13 : decode cX8_setKey 13 = .ok (.dup, 1) := by decide +kernel
theorem dX8_setKey_14 : decode cX8_setKey 14 = .ok (.ldc 85, 2) := by decide +kernel
theorem dX8_setKey_16 : decode cX8_setKey 16 = .ok (.invokespecial 69, 3) := by decide +kernel
theorem dX8_setKey_19 : decode cX8_setKey 19 = .ok (.athrow, 1) := by decide +kernel
theorem dX8_setKey_20 : decode cX8_setKey 20 = .ok (.iload_n 3, 1) := by decide +kernel
theorem dX8_setKey_21 : decode cX8_setKey 21 = .ok (.newarray .byte, 2) := by decide +kernel
theorem dX8_setKey_23 : decode cX8_setKey 23 = .ok (.astore 4, 2) := by decide +kernel
theorem dX8_setKey_25 : decode cX8_setKey 25 = .ok (.iconst 0, 1) := by decide +kernel
theorem dX8_setKey_26 : decode cX8_setKey 26 = .ok (.istore 5, 2) := by decide +kernel
theorem dX8_setKey_28 : decode cX8_setKey 28 = .ok (.lload_n 1, 1) := by decide +kernel
theorem dX8_setKey_29 : decode cX8_setKey 29 = .ok (.lstore 6, 2) := by decide +kernel
theorem dX8_setKey_31 : decode cX8_setKey 31 = .ok (.iload_n 3, 1) := by decide +kernel
theorem dX8_setKey_32 : decode cX8_setKey 32 = .ok (.iconst 1, 1) := by decide +kernel
theorem dX8_setKey_33 : decode cX8_setKey 33 = .ok (.isub, 1) := by decide +kernel
theorem dX8_setKey_34 : decode cX8_setKey 34 = .ok (.istore 8, 2) := by decide +kernel
theorem dX8_setKey_36 : decode cX8_setKey 36 = .ok (.iload 8, 2) := by decide +kernel
theorem dX8_setKey_38 : decode cX8_setKey 38 = .ok (.ifCond .lt 40, 3) := by decide +kernel
theorem dX8_setKey_41 : decode cX8_setKey 41 = .ok (.aload 4, 2) := by decide +kernel
theorem dX8_setKey_43 : decode cX8_setKey 43 = .ok (.iload 8, 2) := by decide +kernel
theorem dX8_setKey_45 : decode cX8_setKey 45 = .ok (.lload 6, 2) := by decide +kernel
theorem dX8_setKey_47 : decode cX8_setKey 47 = .ok (.ldc2_w 87, 3) := by decide +kernel
theorem dX8_setKey_50 : decode cX8_setKey 50 = .ok (.land, 1) := by decide +kernel
theorem dX8_setKey_51 : decode cX8_setKey 51 = .ok (.l2i, 1) := by decide +kernel
theorem dX8_setKey_52 : decode cX8_setKey 52 = .ok (.i2b, 1) := by decide +kernel
theorem dX8_setKey_53 : decode cX8_setKey 53 = .ok (.bastore, 1) := by decide +kernel
theorem dX8_setKey_54 : decode cX8_setKey 54 = .ok (.aload 4, 2) := by decide +kernel
theorem dX8_setKey_56 : decode cX8_setKey 56 = .ok (.iload 8, 2) := by decide +kernel
theorem dX8_setKey_58 : decode cX8_setKey 58 = .ok (.baload, 1) := by decide +kernel
theorem dX8_setKey_59 : decode cX8_setKey 59 = .ok (.ifCond .ne 6, 3) := by decide +kernel
theorem dX8_setKey_62 : decode cX8_setKey 62 = .ok (.iinc 5 1, 3) := by decide +kernel
theorem dX8_setKey_65 : decode cX8_setKey 65 = .ok (.lload 6, 2) := by decide +kernel
theorem dX8_setKey_67 : decode cX8_setKey 67 = .ok (.bipush 8, 2) := by decide +kernel
theorem dX8_setKey_69 : decode cX8_setKey 69 = .ok (.lushr, 1) := by decide +kernel
theorem dX8_setKey_70 : decode cX8_setKey 70 = .ok (.lstore 6, 2) := by decide +kernel
theorem dX8_setKey_72 : decode cX8_setKey 72 = .ok (.iinc 8 (-1), 3) := by decide +kernel
theorem dX8_setKey_75 : decode cX8_setKey 75 = .ok (.goto (-39), 3) := by decide +kernel
theorem dX8_setKey_78 : decode cX8_setKey 78 = .ok (.aload_n 0, 1) := by decide +kernel
theorem dX8_setKey_79 : decode cX8_setKey 79 = .ok (.new 53, 3) := by decide +kernel
theorem dX8_setKey_82 : decode cX8_setKey 82 = .ok (.dup, 1) := by decide +kernel
theorem dX8_setKey_83 : decode cX8_setKey 83 = .ok (.aload 4, 2) := by decide +kernel
theorem dX8_setKey_85 : decode cX8_setKey 85 = .ok (.invokespecial 55, 3) := by decide +kernel
theorem dX8_setKey_88 : decode cX8_setKey 88 = .ok (.putfield 58, 3) := by decide +kernel
theorem dX8_setKey_91 : decode cX8_setKey 91 = .ok (.iload 5, 2) := by decide +kernel
theorem dX8_setKey_93 : decode cX8_setKey 93 = .ok (.ireturn, 1) := by decide +kernel
set_option maxRecDepth 20000 in
theorem ggX8_setKey_X3_init : GoodIn wsX8_setKey wsX3_init := goodIn_r _ [11, 12, 13, 14, 15, 16] (by decide +kernel) (by decide +kernel)
def wp_X8_setKey_65 (a0 : Nat) (o4 : Nat) (y5 : Int32) (u6 : Int64) (y8 : Int32) (f : FT) (bc bs : Nat) (K : Int32 → FT → Prop) (KX : String → FT → Prop) (C36 : Int32 × Int64 × Int32 × FT × Nat × Nat → Prop) : Prop :=
  ∀ v_1 : Int64, v_1 = (lushr u6 (8 : Int32)) → ∀ v_3 : Int32, v_3 = y8 + (-1) → C36 (y5, v_1, v_3, f, bc, bs)
def wp_X8_setKey_36 (a0 : Nat) (o4 : Nat) (K : Int32 → FT → Prop) (KX : String → FT → Prop)  (C36 : Int32 × Int64 × Int32 × FT × Nat × Nat → Prop) : Int32 × Int64 × Int32 × FT × Nat × Nat → Prop := fun s9 => match s9 with
  | (y5, u6, y8, f, bc, bs) => ((y8 < (0 : Int32) → nO f 6 [.null] 1 bc bs fun q_6 f_7 => wp_X3_init q_6 o4 f_7 (fun f_11 => pV f_11 a0 11 7 (.ref q_6) fun f_13 => K y5 f_13)) ∧
 (¬ (y8 < (0 : Int32)) → sB f o4 y8 (i2b (Int64.toInt32 (u6 &&& (127 : Int64)))) fun f_15 => aI f_15 o4 0 y8 fun v_16 => ((¬ v_16 = (0 : Int32) → wp_X8_setKey_65 a0 o4 y5 u6 y8 f_15 bc bs K KX C36) ∧
 (v_16 = (0 : Int32) → ∀ v_19 : Int32, v_19 = y5 + 1 → wp_X8_setKey_65 a0 o4 v_19 u6 y8 f_15 bc bs K KX C36))))
def wp_X8_setKey (a0 : Nat) (w1 : Int64) (x3 : Int32) (f : FT) (mc ms : Nat) (K : Int32 → FT → Prop) (KX : String → FT → Prop) : Prop :=
  ((x3 < (0 : Int32) → 1 ≤ mc ∧ 6 ≤ ms ∧ KX "java/lang/IllegalArgumentException" f) ∧
 (¬ (x3 < (0 : Int32)) → ((x3 ≤ (8 : Int32) → nA f 0 x3 mc ms fun n_25 q_23 f_24 => ∀ v_28 : Int32, v_28 = (x3 - (1 : Int32)) → ∃ n_30, loopW (wp_X8_setKey_36 a0 q_23 K KX) n_30 ((0 : Int32), w1, v_28, f_24, (mc - 1), (ms - n_25))) ∧
 (¬ (x3 ≤ (8 : Int32)) → 1 ≤ mc ∧ 6 ≤ ms ∧ KX "java/lang/IllegalArgumentException" f))))
set_option maxHeartbeats 4000000 in
set_option maxRecDepth 100000 in
theorem cc_X8_setKey (l : Launch) (G : GG) {f : FT} {sz : Nat} {a0 : Nat} {w1 : Int64} {x3 : Int32} {mc ms : Nat} {K : Int32 → FT → Prop} {KX : String → FT → Prop} (hlt : l.stackTraces = false) (h : wp_X8_setKey a0 w1 x3 f mc ms K KX) : vx_Met l yX8_setKey wsX8_setKey ({ frames := 6, cells := mc, slots := ms, locals := 90 } : Room) (FPX G [.ref a0, .long w1, .int x3] f sz) (va_Qi (fun r f9 => K r f9 : Int32 → FT → Prop) (FB G (fA f sz)) (fA f sz)) (FXC G (fA f sz) KX) mc ms (fA f sz) := by
  refine vx_ofW (cc := cX8_setKey) (maxL := 9) (ret := (some .int)) (by decide) rfl ?_
  intro p e s m args below meth c s₁ B hml hxt hv
  obtain ⟨rfl, hsz, hF, hK, hZ, hX⟩ := hv
  have hx := B.exec
  have hb := B.bytes
  have hr := B.returns
  have hts := atoms_spec (ws := wsX8_setKey) B.pre
  have hown : s.vm.findClass RX8 = some m.cls := findClass_of_methodNamed B.named
  have hlocks := B.notSynchronized
  subst hsz
  have hF := hF.self (sz := s.heap.size)
  generalize hAe : fA f s.heap.size = A at hF hZ hX ⊢
  have hA : ∀ q : Nat, s.heap.size ≤ q → A q := fun q h => by rw [← hAe]; exact Or.inr h
  have hS : va_S A s.heap s.heap [] := va_S.rf
  have hin_X3 : ∀ w ∈ wsX30, w ∈ wsX8_setKey := by decide +kernel
  have hin_X8 : ∀ w ∈ wsX80, w ∈ wsX8_setKey := by decide +kernel
  have hbc : 0 + mc ≤ mc := by omega
  have hbs : 0 + ms ≤ ms := by omega
  have L36 : ∀ (o4 : Nat) (j9 : Nat) (y5 : Int32) (u6 : Int64) (y8 : Int32) (f : FT) (bc : Nat) (bs : Nat) (H : Heap) (locs : List Loc) (ls : Array Slot) (cs sl : Nat), loopW (wp_X8_setKey_36 a0 o4 K KX ) j9 (y5, u6, y8, f, bc, bs) → cs + bc ≤ mc → sl + bs ≤ ms → Fw G A f H → va_S A s.heap H locs → lv_has ls 9 [(0, .ref a0), (4, .ref o4), (5, .int y5), (6, .long u6), (8, .int y8)] → W p l e ({ frames := 6, cells := mc, slots := ms, locals := 90 } : Room) s m ([.ref a0, .long w1, .int x3] : List Value).toArray below meth c H locs cs sl (vx_MQ below (va_Qi (fun r f9 => K r f9 : Int32 → FT → Prop) (FB G A) A) (FXC G A KX) ([.ref a0, .long w1, .int x3] : List Value).toArray s mc ms A) (F0 m 36 ls []) := by
    intro o4 j9
    induction j9 with
    | zero => intro y5 u6 y8 f bc bs H locs ls cs sl h; exact h.elim
    | succ j9 ih36 =>
      intro y5 u6 y8 f bc bs H locs ls cs sl h hbc hbs hF hS hl
      have h : wp_X8_setKey_36 a0 o4 K KX  (loopW (wp_X8_setKey_36 a0 o4 K KX ) j9) (y5, u6, y8, f, bc, bs) := h
      generalize loopW (wp_X8_setKey_36 a0 o4 K KX ) j9 = C36 at ih36 h
      unfold wp_X8_setKey_36 at h
      have J65 : ∀ (y5 : Int32) (u6 : Int64) (y8 : Int32) (f : FT) (bc : Nat) (bs : Nat) (H : Heap) (locs : List Loc) (ls : Array Slot) (cs sl : Nat), wp_X8_setKey_65 a0 o4 y5 u6 y8 f bc bs K KX C36 → cs + bc ≤ mc → sl + bs ≤ ms → Fw G A f H → va_S A s.heap H locs → lv_has ls 9 [(0, .ref a0), (4, .ref o4), (5, .int y5), (6, .long u6), (8, .int y8)] → W p l e ({ frames := 6, cells := mc, slots := ms, locals := 90 } : Room) s m ([.ref a0, .long w1, .int x3] : List Value).toArray below meth c H locs cs sl (vx_MQ below (va_Qi (fun r f9 => K r f9 : Int32 → FT → Prop) (FB G A) A) (FXC G A KX) ([.ref a0, .long w1, .int x3] : List Value).toArray s mc ms A) (F0 m 65 ls []) := by
        intro y5 u6 y8 f bc bs H locs ls cs sl h hbc hbs hF hS hl
        unfold wp_X8_setKey_65 at h
        refine lv_lload hx hb dX8_setKey_65 (lv_at hl 3 rfl) ?_
        refine lv_bipush (v := (8 : Int32)) hx hb dX8_setKey_67 (by decide) ?_
        refine lv_lushr (v := (lushr u6 (8 : Int32))) hx hb dX8_setKey_69 rfl ?_
        refine lv_topl (fun v_1 e_2 => ?_)
        have h := h v_1 e_2
        refine lv_lstore (lv' := [(6, .long v_1), (0, .ref a0), (4, .ref o4), (5, .int y5), (8, .int y8)]) hx hb dX8_setKey_70 hl (by decide) rfl (fun ls hl => ?_)
        obtain ⟨v_3, e_4⟩ : ∃ y : Int32, y = y8 + (-1) := ⟨_, rfl⟩
        have h := h v_3 e_4
        refine lv_iinc (v := v_3) (lv' := [(8, .int v_3), (6, .long v_1), (0, .ref a0), (4, .ref o4), (5, .int y5)]) hx hb dX8_setKey_72 hl (k := 4) rfl (by rw [e_4]; rfl) (by decide) rfl (fun ls hl => ?_)
        refine lv_goto (tgt := 36) hx hb dX8_setKey_75 (by decide) ?_
        exact ih36 y5 v_1 v_3 f bc bs _ _ _ _ _ h hbc hbs hF hS (lv_sub hl [2, 3, 4, 1, 0] rfl)
      refine lv_iload hx hb dX8_setKey_36 (lv_at hl 4 rfl) ?_
      obtain ⟨h1, h2⟩ := h
      refine lv_if_lt (tgt := 78) hx hb dX8_setKey_38 (by decide) (fun c_5 => ?_) (fun c_5 => ?_)
      · have h := h1 c_5
        refine lv_aload_n hx hb dX8_setKey_78 rfl (lv_at hl 0 rfl) ?_
        obtain ⟨hb1, hb2, h⟩ := h
        refine fw_new (ci := 6) (fs := [.null]) (C := RX3) (T := TX3) (N := 1) hx hb hts hin_X3 tyX3 tyX3_ok hown (hts (.classLink RX8 53 RX3) (by decide +kernel)) (hts (.instantiable RX3 1) (by decide +kernel)) (hts (.initialized RX3) (by decide +kernel)) hK hF hS hA rfl (fun j hj => by rcases (show j = 0 by omega) with rfl <;> rfl) (by show _ ≤ mc; omega) (by show _ ≤ ms; omega) dX8_setKey_79 (fun q_6 H hn_q_6 hF hS => ?_)
        obtain ⟨f_7, hf_f_7⟩ : ∃ z, z = fup f q_6 (.inr (6, [.null])) := ⟨_, rfl⟩
        rw [← hf_f_7] at hF; have h := h q_6 hn_q_6 f_7 hf_f_7
        obtain ⟨cs_8, hcs⟩ : ∃ z, z = (cs + 1) := ⟨_, rfl⟩; obtain ⟨sl_9, hsl⟩ : ∃ z, z = (sl + 1) := ⟨_, rfl⟩
        have hbc : cs_8 + (bc - 1) ≤ mc := by omega
        have hbs : sl_9 + (bs - 1) ≤ ms := by omega
        refine W.widen (k := cs_8) (n := sl_9) (by omega) (by omega) ?_
        clear hcs hsl
        refine lv_dup hx hb dX8_setKey_82 rfl ?_
        refine lv_aload hx hb dX8_setKey_83 (lv_at hl 1 rfl) ?_
        refine fw_cI_v (As := [.ref o4]) (rest := [.ref q_6, .ref a0]) ⟨hx, hb, hml, hown, hts⟩ (cc_X3_init l G h) (⟨callB_of 1 hts ggX8_setKey_X3_init rfl rfl rfl (hts (.initialized RX3) (by decide +kernel)) (hts (.methodLink RX8 55 yX3_init) (by decide +kernel)) (by decide +kernel) ⟨Nat.le_of_ble_eq_true rfl, Nat.le_of_ble_eq_true rfl⟩, rfl, hts (.instanceMethod yX3_init) (by decide +kernel)⟩) hK hZ hF hS hA rfl hl.1 rfl (Nat.le_of_ble_eq_true rfl) dX8_setKey_85 ⟨by show _ ≤ mc; omega, by show _ ≤ ms; omega⟩ (fun f_11 H locs h hF hS => ?_)
        simp only [Nat.add_zero]
        obtain ⟨fs_12, he_fs_12, hl_fs_12, h⟩ := h
        refine fw_put (v := .ref q_6) (ty := (.object "FrontCodedIndex$Key")) (C := RX8) (T := TX8) (N := 9) hx hb hts hin_X8 tyX8 (tyX8_ok) nmX8 hown hK hF hS he_fs_12 rfl 7 (by decide) (hts (.fieldLink RX8 58 "FrontCodedIndex" "key" "LFrontCodedIndex$Key;") (by decide +kernel)) (fun _ h9 => h9) rfl (by decide +kernel) rfl rfl hl_fs_12 dX8_setKey_88 (fun H locs hF hS => ?_)
        obtain ⟨f_13, hf_f_13⟩ : ∃ z, z = fup f_11 a0 (.inr (11, fs_12.set 7 (.ref q_6))) := ⟨_, rfl⟩
        rw [← hf_f_13] at hF; have h := h f_13 hf_f_13
        refine lv_iload hx hb dX8_setKey_91 (lv_at hl 2 rfl) ?_
        refine vx_ret ?_
        refine W.widen (k := mc) (n := ms) (by omega) (by omega) ?_
        exact W.iret (v := y5) hx hb hr (fun t ht hW => ⟨⟨y5, f_13, rfl, h, by rw [ht]; exact hF, FK.moved hW.alike hK⟩, hS.F ht⟩) hS.2.2 dX8_setKey_93
      · have h := h2 c_5
        refine lv_aload hx hb dX8_setKey_41 (lv_at hl 1 rfl) ?_
        refine lv_iload hx hb dX8_setKey_43 (lv_at hl 4 rfl) ?_
        refine lv_lload hx hb dX8_setKey_45 (lv_at hl 3 rfl) ?_
        refine lv_ldc2 hx hb hown (hts (.constantLong RX8 87 (127 : Int64)) (by decide +kernel)) dX8_setKey_47 ?_
        refine lv_land hx hb dX8_setKey_50 ?_
        refine lv_l2i (v := (Int64.toInt32 (u6 &&& (127 : Int64)))) hx hb dX8_setKey_51 rfl ?_
        refine lv_i2b (v := (i2b (Int64.toInt32 (u6 &&& (127 : Int64))))) hx hb dX8_setKey_52 rfl ?_
        obtain ⟨n_q_14, q_14, he_q_14, hi_q_14, h⟩ := h
        refine fw_bast hx hb hK hF hS he_q_14 hi_q_14 dX8_setKey_53 (fun H locs hF hS => ?_)
        obtain ⟨f_15, hf_f_15⟩ : ∃ z, z = fup f o4 (.inl (0, n_q_14, .inl (upd q_14 (y8).toNatClampNeg (vp_nar .byte (i2b (Int64.toInt32 (u6 &&& (127 : Int64)))))))) := ⟨_, rfl⟩
        rw [← hf_f_15] at hF; have h := h f_15 hf_f_15
        refine lv_aload hx hb dX8_setKey_54 (lv_at hl 1 rfl) ?_
        refine lv_iload hx hb dX8_setKey_56 (lv_at hl 4 rfl) ?_
        obtain ⟨n_q_17, q_17, he_q_17, hi_q_17, h⟩ := h
        refine fw_bald hx hb hK hF he_q_17 hi_q_17 dX8_setKey_58 ?_
        refine lv_topi (fun v_16 e_v_16 => ?_)
        have h := h v_16 e_v_16
        obtain ⟨h1, h2⟩ := h
        refine lv_if_ne (tgt := 65) hx hb dX8_setKey_59 (by decide) (fun c_18 => ?_) (fun c_18 => ?_)
        · have h := h1 c_18
          exact J65 y5 u6 y8 f_15 bc bs _ _ _ _ _ h hbc hbs hF hS (lv_sub hl [0, 1, 2, 3, 4] rfl)
        · have h := h2 c_18
          obtain ⟨v_19, e_20⟩ : ∃ y : Int32, y = y5 + 1 := ⟨_, rfl⟩
          have h := h v_19 e_20
          refine lv_iinc (v := v_19) (lv' := [(5, .int v_19), (0, .ref a0), (4, .ref o4), (6, .long u6), (8, .int y8)]) hx hb dX8_setKey_62 hl (k := 2) rfl (by rw [e_20]; rfl) (by decide) rfl (fun ls hl => ?_)
          exact J65 v_19 u6 y8 f_15 bc bs _ _ _ _ _ h hbc hbs hF hS (lv_sub hl [1, 2, 0, 3, 4] rfl)
  have hl := lv_entry ([.ref a0, .long w1, .int x3]) (n := 9) (Nat.le_of_ble_eq_true rfl)
  rw [lg_entry_eq]
  generalize (lg_sl ([.ref a0, .long w1, .int x3]) ++ List.replicate (9 - (lg_sl ([.ref a0, .long w1, .int x3])).length) Slot.unset).toArray = ls at hl ⊢
  have hl : lv_has ls 9 [(0, .ref a0), (1, .long w1), (3, .int x3)] := hl
  unfold wp_X8_setKey at h
  refine lv_iload_n hx hb dX8_setKey_0 rfl (lv_at hl 2 rfl) ?_
  obtain ⟨h1, h2⟩ := h
  refine lv_if_lt (tgt := 10) hx hb dX8_setKey_1 (by decide) (fun c_21 => ?_) (fun c_21 => ?_)
  · have h := h1 c_21
    obtain ⟨hb1, hb2, h⟩ := h
    refine vx_throwS hx hb hlt (own := RX8) (cls := "java/lang/IllegalArgumentException") (text := "a length is from 0 to 8") (names := ["java/lang/RuntimeException", "java/lang/Exception"]) (ik := 65) (is := 85) (ic := 69) (sa := G.2.2 (100 + 85)) (A := A) hown (by decide) (by decide) (hts (.classLink RX8 65 "java/lang/IllegalArgumentException") (by decide +kernel)) (hts (.initialized "java/lang/IllegalArgumentException") (by decide +kernel)) (hX.1 (85, "a length is from 0 to 8") (by decide +kernel)) (vx_hat (B := thrB) (fun w hw => hts w ((by decide +kernel : ∀ w ∈ (vx_atS RX8 69 "java/lang/IllegalArgumentException" ["java/lang/RuntimeException", "java/lang/Exception"]).filter goodWord, w ∈ wsX8_setKey) w hw)) (by decide +kernel) (fun w hw => va_Nw.use (thrB_tab w hw) (hX.2.1 w hw))) (by decide +kernel) hX.2.2.1 hX.2.2.2 hS (hl.1.trans hml.symm) dX8_setKey_10 dX8_setKey_13 dX8_setKey_14 dX8_setKey_16 dX8_setKey_19 (fun x hx => (hxt x hx).elim) (Nat.le_of_ble_eq_true rfl) (Nat.le_of_ble_eq_true rfl) (by show _ ≤ mc; omega) (by show _ ≤ ms; omega) hlocks (fun t hvm hz hk => ⟨(f, "java/lang/IllegalArgumentException"), h, ⟨rfl, hF.kept (fun q e9 he9 => hk q (hF.in he9).2), FK.moved hvm hK⟩, ⟨Nat.le_trans hS.1 hz, fun q h1 h2 => (hk q (Nat.lt_of_lt_of_le h1 hS.1)).trans (hS.2.1 q h1 h2)⟩⟩) hS.2.2 (by omega) (by omega)
  · have h := h2 c_21
    refine lv_iload_n hx hb dX8_setKey_4 rfl (lv_at hl 2 rfl) ?_
    refine lv_bipush (v := (8 : Int32)) hx hb dX8_setKey_5 (by decide) ?_
    obtain ⟨h1, h2⟩ := h
    refine lv_icmp_le (tgt := 20) hx hb dX8_setKey_7 (by decide) (fun c_22 => ?_) (fun c_22 => ?_)
    · have h := h1 c_22
      refine lv_iload_n hx hb dX8_setKey_20 rfl (lv_at hl 2 rfl) ?_
      obtain ⟨hb0, n_25, hN, hb1, hb2, hb3, h⟩ := h
      refine fw_newa (atype := .byte) (a0 := (n_25, .inl fun _ => 0)) hx hb (hts (.arrayClass .byte) (by decide +kernel)) (ty := .byte) rfl 0 rfl va_RA_byte hK hF hS hA (fun cA => rfl) hb0 hN (by show _ * 1 ≤ _; omega) (by show _ ≤ mc; omega) (by show _ ≤ ms; omega) dX8_setKey_21 (fun q_23 H hn_q_23 hF hS => ?_)
      obtain ⟨f_24, hf_f_24⟩ : ∃ z, z = fup f q_23 (.inl (0, (n_25, .inl fun _ => 0))) := ⟨_, rfl⟩
      rw [← hf_f_24] at hF; have h := h q_23 hn_q_23 f_24 hf_f_24
      obtain ⟨cs_26, hcs⟩ : ∃ z, z = (0 + 1) := ⟨_, rfl⟩; obtain ⟨sl_27, hsl⟩ : ∃ z, z = (0 + n_25) := ⟨_, rfl⟩
      have hbc : cs_26 + (mc - 1) ≤ mc := by omega
      have hbs : sl_27 + (ms - n_25) ≤ ms := by omega
      refine W.widen (k := cs_26) (n := sl_27) (by omega) (by omega) ?_
      clear hcs hsl
      refine lv_astore (lv' := [(4, .ref q_23), (0, .ref a0), (1, .long w1), (3, .int x3)]) hx hb dX8_setKey_23 hl (by decide) rfl (fun ls hl => ?_)
      refine lv_iconst (v := (0 : Int32)) hx hb dX8_setKey_25 (by decide) ?_
      refine lv_istore (lv' := [(5, .int (0 : Int32)), (4, .ref q_23), (0, .ref a0), (1, .long w1), (3, .int x3)]) hx hb dX8_setKey_26 hl (by decide) rfl (fun ls hl => ?_)
      refine lv_lload_n hx hb dX8_setKey_28 rfl (lv_at hl 3 rfl) ?_
      refine lv_lstore (lv' := [(6, .long w1), (5, .int (0 : Int32)), (4, .ref q_23), (0, .ref a0), (1, .long w1), (3, .int x3)]) hx hb dX8_setKey_29 hl (by decide) rfl (fun ls hl => ?_)
      refine lv_iload_n hx hb dX8_setKey_31 rfl (lv_at hl 5 rfl) ?_
      refine lv_iconst (v := (1 : Int32)) hx hb dX8_setKey_32 (by decide) ?_
      refine lv_isub hx hb dX8_setKey_33 ?_
      refine lv_topi (fun v_28 e_29 => ?_)
      have h := h v_28 e_29
      refine lv_istore (lv' := [(8, .int v_28), (6, .long w1), (5, .int (0 : Int32)), (4, .ref q_23), (0, .ref a0), (1, .long w1), (3, .int x3)]) hx hb dX8_setKey_34 hl (by decide) rfl (fun ls hl => ?_)
      obtain ⟨n_30, h⟩ := h
      exact L36 q_23 n_30 (0 : Int32) w1 v_28 f_24 (mc - 1) (ms - n_25) _ _ _ _ _ h hbc hbs hF hS (lv_sub hl [4, 3, 2, 1, 0] rfl)
    · have h := h2 c_22
      obtain ⟨hb1, hb2, h⟩ := h
      refine vx_throwS hx hb hlt (own := RX8) (cls := "java/lang/IllegalArgumentException") (text := "a length is from 0 to 8") (names := ["java/lang/RuntimeException", "java/lang/Exception"]) (ik := 65) (is := 85) (ic := 69) (sa := G.2.2 (100 + 85)) (A := A) hown (by decide) (by decide) (hts (.classLink RX8 65 "java/lang/IllegalArgumentException") (by decide +kernel)) (hts (.initialized "java/lang/IllegalArgumentException") (by decide +kernel)) (hX.1 (85, "a length is from 0 to 8") (by decide +kernel)) (vx_hat (B := thrB) (fun w hw => hts w ((by decide +kernel : ∀ w ∈ (vx_atS RX8 69 "java/lang/IllegalArgumentException" ["java/lang/RuntimeException", "java/lang/Exception"]).filter goodWord, w ∈ wsX8_setKey) w hw)) (by decide +kernel) (fun w hw => va_Nw.use (thrB_tab w hw) (hX.2.1 w hw))) (by decide +kernel) hX.2.2.1 hX.2.2.2 hS (hl.1.trans hml.symm) dX8_setKey_10 dX8_setKey_13 dX8_setKey_14 dX8_setKey_16 dX8_setKey_19 (fun x hx => (hxt x hx).elim) (Nat.le_of_ble_eq_true rfl) (Nat.le_of_ble_eq_true rfl) (by show _ ≤ mc; omega) (by show _ ≤ ms; omega) hlocks (fun t hvm hz hk => ⟨(f, "java/lang/IllegalArgumentException"), h, ⟨rfl, hF.kept (fun q e9 he9 => hk q (hF.in he9).2), FK.moved hvm hK⟩, ⟨Nat.le_trans hS.1 hz, fun q h1 h2 => (hk q (Nat.lt_of_lt_of_le h1 hS.1)).trans (hS.2.1 q h1 h2)⟩⟩) hS.2.2 (by omega) (by omega)
