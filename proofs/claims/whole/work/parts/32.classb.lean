theorem dX4_insert_0 : decode cX4_insert 0 = .ok (.iload_n 1, 1) := by decide +kernel
theorem dX4_insert_1 : decode cX4_insert 1 = .ok (.ifCond .lt 23, 3) := by decide +kernel
theorem dX4_insert_4 : decode cX4_insert 4 = .ok (.iload_n 1, 1) := by decide +kernel
theorem dX4_insert_5 : decode cX4_insert 5 = .ok (.aload_n 0, 1) := by decide +kernel
theorem dX4_insert_6 : decode cX4_insert 6 = .ok (.getfield 10, 3) := by decide +kernel
theorem dX4_insert_9 : decode cX4_insert 9 = .ok (.invokevirtual 25, 3) := by decide +kernel
theorem dX4_insert_12 : decode cX4_insert 12 = .ok (.if_icmp .gt 12, 3) := by decide +kernel
theorem dX4_insert_15 : decode cX4_insert 15 = .ok (.aload_n 0, 1) := by decide +kernel
theorem dX4_insert_16 : decode cX4_insert 16 = .ok (.getfield 10, 3) := by decide +kernel
theorem dX4_insert_19 : decode cX4_insert 19 = .ok (.iload_n 1, 1) := by decide +kernel
theorem dX4_insert_20 : decode cX4_insert 20 = .ok (.aload_n 2, 1) := by decide +kernel
theorem dX4_insert_21 : decode cX4_insert 21 = .ok (.invokevirtual 37, 3) := by decide +kernel
theorem dX4_insert_24 : decode cX4_insert 24 = .ok (.return_, 1) := by decide +kernel
set_option maxRecDepth 20000 in
theorem ggX4_insert_Jx4a65c_add_7a177 : GoodIn wsX4_insert wsJx4a65c_add_7a177 := goodIn_r _ [11, 12, 13, 7, 14, 15, 16, 17, 18, 19, 20, 21, 5, 22, 23, 24, 25, 26, 27, 28, 29, 30, 31, 32, 33, 34, 35, 36, 37, 38, 39, 40, 41, 42, 43, 44, 45, 46, 47, 48, 49, 50, 51, 52, 53, 54, 55, 56, 57, 58, 59, 60, 61, 62, 65, 66, 67] (by decide +kernel) (by decide +kernel)
set_option maxRecDepth 20000 in
theorem ggX4_insert_Jx4a65c_size_8abf5 : GoodIn wsX4_insert wsJx4a65c_size_8abf5 := goodIn_r _ [6, 7, 65, 66, 67] (by decide +kernel) (by decide +kernel)
def wp_X4_insert (zd : Nat) (a0 : Nat) (x1 : Int32) (a2 : Nat) (f : FT) (mc ms : Nat) (K : FT → Prop) : Prop :=
  ((x1 < (0 : Int32) → K f) ∧
 (¬ (x1 < (0 : Int32)) → gA f a0 7 0 fun a_2 => isO f a_2 2 ∧ wp_Jx4a65c_size_8abf5 a_2 f (fun r_4 => ((r_4 < x1 → K f) ∧
 (¬ (r_4 < x1) → gA f a0 7 0 fun a_6 => ∃ ga_10 gb_11 : Nat, ga_10 ≤ mc ∧ gb_11 ≤ ms ∧ isO f a_6 2 ∧ wp_Jx4a65c_add_7a177 zd a_6 x1 a2 f ga_10 gb_11 (fun f_9 => K f_9))))))
set_option maxHeartbeats 4000000 in
set_option maxRecDepth 100000 in
theorem cc_X4_insert (l : Launch) (G : GG) {zd : Nat} (hzd : G.2.2 0 = zd) {f : FT} {sz : Nat} {a0 : Nat} {x1 : Int32} {a2 : Nat} {mc ms : Nat} {K : FT → Prop} (h : wp_X4_insert zd a0 x1 a2 f mc ms K) : Met l yX4_insert wsX4_insert ({ frames := 6, cells := mc, slots := ms, locals := 151 } : Room) (FP G [.ref a0, .int x1, .ref a2] f sz) (va_Qv (fun f9 => K f9 : FT → Prop) (FB G (fA f sz)) (fA f sz)) mc ms (fA f sz) := by
  refine Met.ofW (cc := cX4_insert) (maxL := 3) (ret := none) (by decide) rfl ?_
  intro p e s m args below meth c s₁ B hml hv
  obtain ⟨rfl, hsz, hF, hK, hZ⟩ := hv
  have hx := B.exec
  have hb := B.bytes
  have hr := B.returns
  have hts := atoms_spec (ws := wsX4_insert) B.pre
  have hown : s.vm.findClass RX4 = some m.cls := findClass_of_methodNamed B.named
  have hlocks := B.notSynchronized
  subst hsz
  have hF := hF.self (sz := s.heap.size)
  generalize hAe : fA f s.heap.size = A at hF hZ ⊢
  have hA : ∀ q : Nat, s.heap.size ≤ q → A q := fun q h => by rw [← hAe]; exact Or.inr h
  have hS : va_S A s.heap s.heap [] := va_S.rf
  have hZ9 : va_Z "java/util/ArrayList" "DEFAULTCAPACITY_EMPTY_ELEMENTDATA" "[Ljava/lang/Object;" (.ref zd) A s s.heap := by rw [← hzd]; exact hZ
  have hin_X4 : ∀ w ∈ wsX40, w ∈ wsX4_insert := by decide +kernel
  have hbc : 0 + mc ≤ mc := by omega
  have hbs : 0 + ms ≤ ms := by omega
  have hl := lv_entry ([.ref a0, .int x1, .ref a2]) (n := 3) (Nat.le_of_ble_eq_true rfl)
  rw [lg_entry_eq]
  generalize (lg_sl ([.ref a0, .int x1, .ref a2]) ++ List.replicate (3 - (lg_sl ([.ref a0, .int x1, .ref a2])).length) Slot.unset).toArray = ls at hl ⊢
  have hl : lv_has ls 3 [(0, .ref a0), (1, .int x1), (2, .ref a2)] := hl
  unfold wp_X4_insert at h
  refine lv_iload_n hx hb dX4_insert_0 rfl (lv_at hl 1 rfl) ?_
  obtain ⟨h1, h2⟩ := h
  refine lv_if_lt (tgt := 24) hx hb dX4_insert_1 (by decide) (fun c_1 => ?_) (fun c_1 => ?_)
  · have h := h1 c_1
    refine W.widen (k := mc) (n := ms) (by omega) (by omega) ?_
    exact W.vret hx hb hr (fun t ht hW => ⟨⟨f, rfl, h, by rw [ht]; exact hF, FK.moved hW.alike hK⟩, hS.F ht⟩) hS.2.2 dX4_insert_24
  · have h := h2 c_1
    refine lv_iload_n hx hb dX4_insert_4 rfl (lv_at hl 1 rfl) ?_
    refine lv_aload_n hx hb dX4_insert_5 rfl (lv_at hl 0 rfl) ?_
    obtain ⟨fs_3, a_2, he_fs_3, hv_fs_3, h⟩ := h
    refine fw_get (C := RX4) (T := TX4) (N := 2) hx hb hts hin_X4 hown hK hF he_fs_3 rfl 0 (by decide) (hts (.fieldLink RX4 10 "FrontCodedIndex$KeyRow" "cells" "Ljava/util/ArrayList;") (by decide +kernel)) (fun _ h9 => h9) hv_fs_3 dX4_insert_6 ?_
    obtain ⟨⟨fs_r_4, hrc_r_4⟩, h⟩ := h
    refine fw_cV_i_p (As := []) (rest := [.int x1]) ⟨hx, hb, hml, hown, hts⟩ (cc_Jx4a65c_size_8abf5 l G h) (⟨callB_of 0 hts ggX4_insert_Jx4a65c_size_8abf5 rfl rfl rfl (hts (.initialized RJx4a65c) (by decide +kernel)) (hts (.methodLink RX4 25 yJx4a65c_size_8abf5) (by decide +kernel)) (by decide +kernel) ⟨Nat.le_of_ble_eq_true rfl, Nat.le_of_ble_eq_true rfl⟩, hts (.instanceMethod yJx4a65c_size_8abf5) (by decide +kernel), hts (.selects RJx4a65c yJx4a65c_size_8abf5 yJx4a65c_size_8abf5) (by decide +kernel)⟩) rfl hrc_r_4 hK hZ hF hS hA rfl hl.1 rfl (Nat.le_of_ble_eq_true rfl) dX4_insert_9 ⟨by show _ ≤ mc; omega, by show _ ≤ ms; omega⟩ (fun r_4 H locs h hF hS => ?_)
    simp only [Nat.add_zero]
    obtain ⟨h1, h2⟩ := h
    refine lv_icmp_gt (tgt := 24) hx hb dX4_insert_12 (by decide) (fun c_5 => ?_) (fun c_5 => ?_)
    · have h := h1 c_5
      refine W.widen (k := mc) (n := ms) (by omega) (by omega) ?_
      exact W.vret hx hb hr (fun t ht hW => ⟨⟨f, rfl, h, by rw [ht]; exact hF, FK.moved hW.alike hK⟩, hS.F ht⟩) hS.2.2 dX4_insert_24
    · have h := h2 c_5
      refine lv_aload_n hx hb dX4_insert_15 rfl (lv_at hl 0 rfl) ?_
      obtain ⟨fs_7, a_6, he_fs_7, hv_fs_7, h⟩ := h
      refine fw_get (C := RX4) (T := TX4) (N := 2) hx hb hts hin_X4 hown hK hF he_fs_7 rfl 0 (by decide) (hts (.fieldLink RX4 10 "FrontCodedIndex$KeyRow" "cells" "Ljava/util/ArrayList;") (by decide +kernel)) (fun _ h9 => h9) hv_fs_7 dX4_insert_16 ?_
      refine lv_iload_n hx hb dX4_insert_19 rfl (lv_at hl 1 rfl) ?_
      refine lv_aload_n hx hb dX4_insert_20 rfl (lv_at hl 2 rfl) ?_
      obtain ⟨ga_10, gb_11, hga_ga_10, hgb_ga_10, h⟩ := h
      obtain ⟨⟨fs_u_8, hrc_u_8⟩, h⟩ := h
      refine fw_cV_v (As := [.int x1, .ref a2]) (rest := []) ⟨hx, hb, hml, hown, hts⟩ (cc_Jx4a65c_add_7a177 l G hzd h) (⟨callB_of 2 hts ggX4_insert_Jx4a65c_add_7a177 rfl rfl rfl (hts (.initialized RJx4a65c) (by decide +kernel)) (hts (.methodLink RX4 37 yJx4a65c_add_7a177) (by decide +kernel)) (by decide +kernel) ⟨Nat.le_of_ble_eq_true rfl, Nat.le_of_ble_eq_true rfl⟩, hts (.instanceMethod yJx4a65c_add_7a177) (by decide +kernel), hts (.selects RJx4a65c yJx4a65c_add_7a177 yJx4a65c_add_7a177) (by decide +kernel)⟩) rfl hrc_u_8 hK hZ hF hS hA rfl hl.1 rfl (Nat.le_of_ble_eq_true rfl) dX4_insert_21 ⟨by show _ ≤ mc; omega, by show _ ≤ ms; omega⟩ (fun f_9 H locs h hF hS => ?_)
      have hbc : (0 + ga_10) + (mc - ga_10) ≤ mc := by omega
      have hbs : (0 + gb_11) + (ms - gb_11) ≤ ms := by omega
      generalize (0 + ga_10) = cs_12 at hbc ⊢; generalize (0 + gb_11) = sl_13 at hbs ⊢
      refine W.widen (k := mc) (n := ms) (by omega) (by omega) ?_
      exact W.vret hx hb hr (fun t ht hW => ⟨⟨f_9, rfl, h, by rw [ht]; exact hF, FK.moved hW.alike hK⟩, hS.F ht⟩) hS.2.2 dX4_insert_24
theorem dJ7_copyOf_59c91_0 : decode cJ7_copyOf_59c91 0 = .ok (.iload_n 1, 1) := by decide +kernel
theorem dJ7_copyOf_59c91_1 : decode cJ7_copyOf_59c91 1 = .ok (.aload_n 0, 1) := by decide +kernel
theorem dJ7_copyOf_59c91_2 : decode cJ7_copyOf_59c91 2 = .ok (.arraylength, 1) := by decide +kernel
theorem dJ7_copyOf_59c91_3 : decode cJ7_copyOf_59c91 3 = .ok (.if_icmp .ne 11, 3) := by decide +kernel
theorem dJ7_copyOf_59c91_6 : decode cJ7_copyOf_59c91 6 = .ok (.aload_n 0, 1) := by decide +kernel
theorem dJ7_copyOf_59c91_7 : decode cJ7_copyOf_59c91 7 = .ok (.invokevirtual 316, 3) := by decide +kernel
theorem dJ7_copyOf_59c91_10 : decode cJ7_copyOf_59c91 10 = .ok (.checkcast 317, 3) := by decide +kernel
theorem dJ7_copyOf_59c91_13 : decode cJ7_copyOf_59c91 13 = .ok (.areturn, 1) := by decide +kernel
theorem dJ7_copyOf_59c91_14 : decode cJ7_copyOf_59c91 14 = .ok (.iload_n 1, 1) := by decide +kernel
theorem dJ7_copyOf_59c91_15 : decode cJ7_copyOf_59c91 15 = .ok (.newarray .int, 2) := by decide +kernel
theorem dJ7_copyOf_59c91_17 : decode cJ7_copyOf_59c91 17 = .ok (.astore_n 2, 1) := by decide +kernel
theorem dJ7_copyOf_59c91_18 : decode cJ7_copyOf_59c91 18 = .ok (.aload_n 0, 1) := by decide +kernel
theorem dJ7_copyOf_59c91_19 : decode cJ7_copyOf_59c91 19 = .ok (.iconst 0, 1) := by decide +kernel
theorem dJ7_copyOf_59c91_20 : decode cJ7_copyOf_59c91 20 = .ok (.aload_n 2, 1) := by decide +kernel
theorem dJ7_copyOf_59c91_21 : decode cJ7_copyOf_59c91 21 = .ok (.iconst 0, 1) := by decide +kernel
theorem dJ7_copyOf_59c91_22 : decode cJ7_copyOf_59c91 22 = .ok (.aload_n 0, 1) := by decide +kernel
theorem dJ7_copyOf_59c91_23 : decode cJ7_copyOf_59c91 23 = .ok (.arraylength, 1) := by decide +kernel
theorem dJ7_copyOf_59c91_24 : decode cJ7_copyOf_59c91 24 = .ok (.iload_n 1, 1) := by decide +kernel
theorem dJ7_copyOf_59c91_25 : decode cJ7_copyOf_59c91 25 = .ok (.invokestatic 304, 3) := by decide +kernel
theorem dJ7_copyOf_59c91_28 : decode cJ7_copyOf_59c91 28 = .ok (.invokestatic 150, 3) := by decide +kernel
theorem dJ7_copyOf_59c91_31 : decode cJ7_copyOf_59c91 31 = .ok (.aload_n 2, 1) := by decide +kernel
theorem dJ7_copyOf_59c91_32 : decode cJ7_copyOf_59c91 32 = .ok (.areturn, 1) := by decide +kernel
def wp_J7_copyOf_59c91 (a0 : Nat) (x1 : Int32) (f : FT) (mc ms : Nat) (K : Nat → FT → Prop) : Prop :=
  aL f a0 fun v_1 => ((¬ x1 = v_1 → nA f 1 x1 mc ms fun n_6 q_4 f_5 => aL f_5 a0 fun v_9 => cP f_5 1 .int a0 (0 : Int32) q_4 (0 : Int32) (jmin v_9 x1) fun f_12 => K q_4 f_12) ∧
 (x1 = v_1 → cL f 1 .int a0 mc ms fun n_15 q_13 f_14 => isA f_14 q_13 1 ∧ K q_13 f_14))
set_option maxHeartbeats 4000000 in
set_option maxRecDepth 100000 in
theorem cc_J7_copyOf_59c91 (l : Launch) (G : GG) {f : FT} {sz : Nat} {a0 : Nat} {x1 : Int32} {mc ms : Nat} {K : Nat → FT → Prop} (h : wp_J7_copyOf_59c91 a0 x1 f mc ms K) : Met l yJ7_copyOf_59c91 wsJ7_copyOf_59c91 ({ frames := 1, cells := mc, slots := ms, locals := 40 } : Room) (FP G [.ref a0, .int x1] f sz) (va_Qq (fun r f9 => ∃ q, r = some q ∧ K q f9 : Option Nat → FT → Prop) (FB G (fA f sz)) (fA f sz)) mc ms (fA f sz) := by
  refine Met.ofW (cc := cJ7_copyOf_59c91) (maxL := 3) (ret := (some (.array .int))) (by decide) rfl ?_
  intro p e s m args below meth c s₁ B hml hv
  obtain ⟨rfl, hsz, hF, hK, hZ⟩ := hv
  have hx := B.exec
  have hb := B.bytes
  have hr := B.returns
  have hts := atoms_spec (ws := wsJ7_copyOf_59c91) B.pre
  have hown : s.vm.findClass RJ7 = some m.cls := findClass_of_methodNamed B.named
  have hlocks := B.notSynchronized
  subst hsz
  have hF := hF.self (sz := s.heap.size)
  generalize hAe : fA f s.heap.size = A at hF hZ ⊢
  have hA : ∀ q : Nat, s.heap.size ≤ q → A q := fun q h => by rw [← hAe]; exact Or.inr h
  have hS : va_S A s.heap s.heap [] := va_S.rf
  have hbc : 0 + mc ≤ mc := by omega
  have hbs : 0 + ms ≤ ms := by omega
  have hl := lv_entry ([.ref a0, .int x1]) (n := 3) (Nat.le_of_ble_eq_true rfl)
  rw [lg_entry_eq]
  generalize (lg_sl ([.ref a0, .int x1]) ++ List.replicate (3 - (lg_sl ([.ref a0, .int x1])).length) Slot.unset).toArray = ls at hl ⊢
  have hl : lv_has ls 3 [(0, .ref a0), (1, .int x1)] := hl
  unfold wp_J7_copyOf_59c91 at h
  refine lv_iload_n hx hb dJ7_copyOf_59c91_0 rfl (lv_at hl 1 rfl) ?_
  refine lv_aload_n hx hb dJ7_copyOf_59c91_1 rfl (lv_at hl 0 rfl) ?_
  obtain ⟨t_q_2, q_2, he_q_2, ht_q_2, h⟩ := h
  refine fw_alen hx hb hK hF he_q_2 ht_q_2 dJ7_copyOf_59c91_2 ?_
  refine lv_topi (fun v_1 e_v_1 => ?_)
  have h := h v_1 e_v_1
  obtain ⟨h1, h2⟩ := h
  refine lv_icmp_ne (tgt := 14) hx hb dJ7_copyOf_59c91_3 (by decide) (fun c_3 => ?_) (fun c_3 => ?_)
  · have h := h1 c_3
    refine lv_iload_n hx hb dJ7_copyOf_59c91_14 rfl (lv_at hl 1 rfl) ?_
    obtain ⟨hb0, n_6, hN, hb1, hb2, hb3, h⟩ := h
    refine fw_newa (a0 := (n_6, .inl fun _ => 0)) hx hb (hts (.arrayClass .int) (by decide +kernel)) (ty := .int) rfl 1 rfl va_RA_int hK hF hS hA (fun cA => rfl) hb0 hN (by show _ * 4 ≤ _; omega) (by show _ ≤ mc; omega) (by show _ ≤ ms; omega) dJ7_copyOf_59c91_15 (fun q_4 H hn_q_4 hF hS => ?_)
    obtain ⟨f_5, hf_f_5⟩ : ∃ z, z = fup f q_4 (.inl (1, (n_6, .inl fun _ => 0))) := ⟨_, rfl⟩
    rw [← hf_f_5] at hF; have h := h q_4 hn_q_4 f_5 hf_f_5
    have hbc : (0 + 1) + (mc - 1) ≤ mc := by omega
    have hbs : (0 + n_6) + (ms - n_6) ≤ ms := by omega
    generalize (0 + 1) = cs_7 at hbc ⊢; generalize (0 + n_6) = sl_8 at hbs ⊢
    refine lv_astore_n (lv' := [(2, .ref q_4), (0, .ref a0), (1, .int x1)]) hx hb dJ7_copyOf_59c91_17 rfl hl (by decide) rfl (fun ls hl => ?_)
    refine lv_aload_n hx hb dJ7_copyOf_59c91_18 rfl (lv_at hl 1 rfl) ?_
    refine lv_iconst (v := (0 : Int32)) hx hb dJ7_copyOf_59c91_19 (by decide) ?_
    refine lv_aload_n hx hb dJ7_copyOf_59c91_20 rfl (lv_at hl 0 rfl) ?_
    refine lv_iconst (v := (0 : Int32)) hx hb dJ7_copyOf_59c91_21 (by decide) ?_
    refine lv_aload_n hx hb dJ7_copyOf_59c91_22 rfl (lv_at hl 1 rfl) ?_
    obtain ⟨t_q_10, q_10, he_q_10, ht_q_10, h⟩ := h
    refine fw_alen hx hb hK hF he_q_10 ht_q_10 dJ7_copyOf_59c91_23 ?_
    refine lv_topi (fun v_9 e_v_9 => ?_)
    have h := h v_9 e_v_9
    refine lv_iload_n hx hb dJ7_copyOf_59c91_24 rfl (lv_at hl 2 rfl) ?_
    refine va_mmin hx hb (hml.trans hl.1.symm) hown (hts (.methodLink RJ7 304 Lib.Math.min.name) (by decide +kernel)) (hts (.static Lib.Math.min.name) (by decide +kernel)) (hts (.initialized "java/lang/Math") (by decide +kernel)) (hts (.code Lib.Math.min.name Lib.Math.min.code 2 (some .int)) (by decide +kernel)) (by decide) (by decide) (by show _ ≤ mc; omega) (by show _ ≤ ms; omega) dJ7_copyOf_59c91_25 ?_
    obtain ⟨n0_q_11, n1_q_11, g0_q_11, g1_q_11, he0_q_11, he1_q_11, hc1_q_11, hc2_q_11, hc3_q_11, hc4_q_11, hc5_q_11, hel_q_11, h⟩ := h
    refine fw_copyP hx hb (hml.trans hl.1.symm) hown (hts (.methodLink RJ7 150 arraycopyName) (by decide +kernel)) (hts (.native arraycopyName) (by decide +kernel)) (hts (.static arraycopyName) (by decide +kernel)) (hts (.initialized "java/lang/System") (by decide +kernel)) hK hF hS 1 rfl rfl he0_q_11 he1_q_11 hc1_q_11 hc2_q_11 hc3_q_11 hc4_q_11 hc5_q_11 hel_q_11 (by decide) (by decide) dJ7_copyOf_59c91_28 (fun H locs hF hS => ?_)
    obtain ⟨f_12, hf_f_12⟩ : ∃ z, z = fup f_5 q_4 (.inl (1, n1_q_11, .inl (va_cpy g0_q_11 g1_q_11 ((0 : Int32)).toNatClampNeg ((0 : Int32)).toNatClampNeg ((jmin v_9 x1)).toNatClampNeg))) := ⟨_, rfl⟩
    rw [← hf_f_12] at hF; have h := h f_12 hf_f_12
    refine lv_aload_n hx hb dJ7_copyOf_59c91_31 rfl (lv_at hl 0 rfl) ?_
    refine W.widen (k := mc) (n := ms) (by omega) (by omega) ?_
    exact W.aret (v := .ref q_4) hx hb hr (Or.inr ⟨_, rfl⟩) (Or.inr ⟨q_4, rfl⟩) (fun t ht hW => ⟨⟨some q_4, f_12, rfl, ⟨_, rfl, h⟩, by rw [ht]; exact hF, FK.moved hW.alike hK⟩, hS.F ht⟩) hS.2.2 dJ7_copyOf_59c91_32
  · have h := h2 c_3
    refine lv_aload_n hx hb dJ7_copyOf_59c91_6 rfl (lv_at hl 0 rfl) ?_
    obtain ⟨n_15, x_16, he_x_16, hft_x_16, hb1, hb2, h⟩ := h
    refine fw_clone hx hb (hml.trans hl.1.symm) hown (hts (.methodLink RJ7 316 ⟨"[I", "clone", "()Ljava/lang/Object;"⟩) (by decide +kernel)) (hts (.sameMethod "[I" "java/lang/Object" "clone" "()Ljava/lang/Object;") (by decide +kernel)) (hts (.native ⟨"java/lang/Object", "clone", "()Ljava/lang/Object;"⟩) (by decide +kernel)) (hts (.instanceMethod ⟨"java/lang/Object", "clone", "()Ljava/lang/Object;"⟩) (by decide +kernel)) (hts (.selects "[I" ⟨"[I", "clone", "()Ljava/lang/Object;"⟩ ⟨"java/lang/Object", "clone", "()Ljava/lang/Object;"⟩) (by decide +kernel)) hK.2.2.2.1 hK hF hS hA 1 he_x_16 rfl hK.nm1 (fits_arr hft_x_16) (by decide) (by decide) (by show _ ≤ mc; omega) (by show _ + n_15 ≤ ms; omega) dJ7_copyOf_59c91_7 (fun q_13 H hn_q_13 hF hS => ?_)
    obtain ⟨f_14, hf_f_14⟩ : ∃ z, z = fup f q_13 (.inl (1, n_15, .inl x_16)) := ⟨_, rfl⟩
    rw [← hf_f_14] at hF; have h := h q_13 hn_q_13 f_14 hf_f_14
    have hbc : (0 + 1) + (mc - 1) ≤ mc := by omega
    have hbs : (0 + n_15) + (ms - n_15) ≤ ms := by omega
    generalize (0 + 1) = cs_17 at hbc ⊢; generalize (0 + n_15) = sl_18 at hbs ⊢
    obtain ⟨⟨q_19, he_q_19⟩, h⟩ := h
    refine fw_castA hx hb hown (hts (.classLink RJ7 317 "[I") (by decide +kernel)) hF he_q_19 hK.nm1 dJ7_copyOf_59c91_10 ?_
    refine W.widen (k := mc) (n := ms) (by omega) (by omega) ?_
    exact W.aret (v := .ref q_13) hx hb hr (Or.inr ⟨_, rfl⟩) (Or.inr ⟨q_13, rfl⟩) (fun t ht hW => ⟨⟨some q_13, f_14, rfl, ⟨_, rfl, h⟩, by rw [ht]; exact hF, FK.moved hW.alike hK⟩, hS.F ht⟩) hS.2.2 dJ7_copyOf_59c91_13
theorem dX2_insert_0 : decode cX2_insert 0 = .ok (.aload_n 0, 1) := by decide +kernel
theorem dX2_insert_1 : decode cX2_insert 1 = .ok (.getfield 13, 3) := by decide +kernel
theorem dX2_insert_4 : decode cX2_insert 4 = .ok (.aload_n 0, 1) := by decide +kernel
theorem dX2_insert_5 : decode cX2_insert 5 = .ok (.getfield 9, 3) := by decide +kernel
theorem dX2_insert_8 : decode cX2_insert 8 = .ok (.arraylength, 1) := by decide +kernel
theorem dX2_insert_9 : decode cX2_insert 9 = .ok (.if_icmp .lt 36, 3) := by decide +kernel
theorem dX2_insert_12 : decode cX2_insert 12 = .ok (.aload_n 0, 1) := by decide +kernel
theorem dX2_insert_13 : decode cX2_insert 13 = .ok (.getfield 9, 3) := by decide +kernel
theorem dX2_insert_16 : decode cX2_insert 16 = .ok (.arraylength, 1) := by decide +kernel
theorem dX2_insert_17 : decode cX2_insert 17 = .ok (.sipush 4096, 3) := by decide +kernel
theorem dX2_insert_20 : decode cX2_insert 20 = .ok (.if_icmp .ge 25, 3) := by decide +kernel
theorem dX2_insert_23 : decode cX2_insert 23 = .ok (.aload_n 0, 1) := by decide +kernel
theorem dX2_insert_24 : decode cX2_insert 24 = .ok (.aload_n 0, 1) := by decide +kernel
theorem dX2_insert_25 : decode cX2_insert 25 = .ok (.getfield 9, 3) := by decide +kernel
theorem dX2_insert_28 : decode cX2_insert 28 = .ok (.aload_n 0, 1) := by decide +kernel
theorem dX2_insert_29 : decode cX2_insert 29 = .ok (.getfield 9, 3) := by decide +kernel
theorem dX2_insert_32 : decode cX2_insert 32 = .ok (.arraylength, 1) := by decide +kernel
theorem dX2_insert_33 : decode cX2_insert 33 = .ok (.aload_n 0, 1) := by decide +kernel
theorem dX2_insert_34 : decode cX2_insert 34 = .ok (.getfield 9, 3) := by decide +kernel
theorem dX2_insert_37 : decode cX2_insert 37 = .ok (.arraylength, 1) := by decide +kernel
theorem dX2_insert_38 : decode cX2_insert 38 = .ok (.iadd, 1) := by decide +kernel
theorem dX2_insert_39 : decode cX2_insert 39 = .ok (.invokestatic 21, 3) := by decide +kernel
theorem dX2_insert_42 : decode cX2_insert 42 = .ok (.putfield 9, 3) := by decide +kernel
theorem dX2_insert_45 : decode cX2_insert 45 = .ok (.iload_n 1, 1) := by decide +kernel
theorem dX2_insert_46 : decode cX2_insert 46 = .ok (.ifCond .lt 23, 3) := by decide +kernel
theorem dX2_insert_49 : decode cX2_insert 49 = .ok (.iload_n 1, 1) := by decide +kernel
theorem dX2_insert_50 : decode cX2_insert 50 = .ok (.aload_n 0, 1) := by decide +kernel
theorem dX2_insert_51 : decode cX2_insert 51 = .ok (.getfield 13, 3) := by decide +kernel
theorem dX2_insert_54 : decode cX2_insert 54 = .ok (.if_icmp .gt 15, 3) := by decide +kernel
theorem dX2_insert_57 : decode cX2_insert 57 = .ok (.aload_n 0, 1) := by decide +kernel
theorem dX2_insert_58 : decode cX2_insert 58 = .ok (.getfield 13, 3) := by decide +kernel
theorem dX2_insert_61 : decode cX2_insert 61 = .ok (.aload_n 0, 1) := by decide +kernel
theorem dX2_insert_62 : decode cX2_insert 62 = .ok (.getfield 9, 3) := by decide +kernel
theorem dX2_insert_65 : decode cX2_insert 65 = .ok (.arraylength, 1) := by decide +kernel
theorem dX2_insert_66 : decode cX2_insert 66 = .ok (.if_icmp .lt 4, 3) := by decide +kernel
theorem dX2_insert_69 : decode cX2_insert 69 = .ok (.return_, 1) := by decide +kernel
theorem dX2_insert_70 : decode cX2_insert 70 = .ok (.aload_n 0, 1) := by decide +kernel
theorem dX2_insert_71 : decode cX2_insert 71 = .ok (.getfield 13, 3) := by decide +kernel
theorem dX2_insert_74 : decode cX2_insert 74 = .ok (.istore_n 3, 1) := by decide +kernel
theorem dX2_insert_75 : decode cX2_insert 75 = .ok (.iload_n 3, 1) := by decide +kernel
theorem dX2_insert_76 : decode cX2_insert 76 = .ok (.iload_n 1, 1) := by decide +kernel
theorem dX2_insert_77 : decode cX2_insert 77 = .ok (.if_icmp .le 23, 3) := by decide +kernel
theorem dX2_insert_80 : decode cX2_insert 80 = .ok (.aload_n 0, 1) := by decide +kernel
theorem dX2_insert_81 : decode cX2_insert 81 = .ok (.getfield 9, 3) := by decide +kernel
theorem dX2_insert_84 : decode cX2_insert 84 = .ok (.iload_n 3, 1) := by decide +kernel
theorem dX2_insert_85 : decode cX2_insert 85 = .ok (.aload_n 0, 1) := by decide +kernel
theorem dX2_insert_86 : decode cX2_insert 86 = .ok (.getfield 9, 3) := by decide +kernel
theorem dX2_insert_89 : decode cX2_insert 89 = .ok (.iload_n 3, 1) := by decide +kernel
theorem dX2_insert_90 : decode cX2_insert 90 = .ok (.iconst 1, 1) := by decide +kernel
theorem dX2_insert_91 : decode cX2_insert 91 = .ok (.isub, 1) := by decide +kernel
theorem dX2_insert_92 : decode cX2_insert 92 = .ok (.iaload, 1) := by decide +kernel
theorem dX2_insert_93 : decode cX2_insert 93 = .ok (.iastore, 1) := by decide +kernel
theorem dX2_insert_94 : decode cX2_insert 94 = .ok (.iinc 3 (-1), 3) := by decide +kernel
theorem dX2_insert_97 : decode cX2_insert 97 = .ok (.goto (-22), 3) := by decide +kernel
theorem dX2_insert_100 : decode cX2_insert 100 = .ok (.aload_n 0, 1) := by decide +kernel
theorem dX2_insert_101 : decode cX2_insert 101 = .ok (.getfield 9, 3) := by decide +kernel
theorem dX2_insert_104 : decode cX2_insert 104 = .ok (.iload_n 1, 1) := by decide +kernel
theorem dX2_insert_105 : decode cX2_insert 105 = .ok (.iload_n 2, 1) := by decide +kernel
theorem dX2_insert_106 : decode cX2_insert 106 = .ok (.iastore, 1) := by decide +kernel
theorem dX2_insert_107 : decode cX2_insert 107 = .ok (.aload_n 0, 1) := by decide +kernel
theorem dX2_insert_108 : decode cX2_insert 108 = .ok (.dup, 1) := by decide +kernel
theorem dX2_insert_109 : decode cX2_insert 109 = .ok (.getfield 13, 3) := by decide +kernel
theorem dX2_insert_112 : decode cX2_insert 112 = .ok (.iconst 1, 1) := by decide +kernel
theorem dX2_insert_113 : decode cX2_insert 113 = .ok (.iadd, 1) := by decide +kernel
theorem dX2_insert_114 : decode cX2_insert 114 = .ok (.putfield 13, 3) := by decide +kernel
theorem dX2_insert_117 : decode cX2_insert 117 = .ok (.return_, 1) := by decide +kernel
set_option maxRecDepth 20000 in
theorem ggX2_insert_J7_copyOf_59c91 : GoodIn wsX2_insert wsJ7_copyOf_59c91 := goodIn_r _ [6, 7, 8, 9, 10, 11, 12, 13, 14, 15, 16, 17, 18, 19, 20, 21] (by decide +kernel) (by decide +kernel)
def wp_X2_insert_75 (a0 : Nat) (x1 : Int32) (x2 : Int32) (K : FT → Prop)  (C75 : Int32 × FT × Nat × Nat → Prop) : Int32 × FT × Nat × Nat → Prop := fun s9 => match s9 with
  | (x3, f, bc, bs) => ((x3 ≤ x1 → gA f a0 5 0 fun a_2 => sI f a_2 x1 x2 fun f_5 => gI f_5 a0 5 1 fun v_6 => pV f_5 a0 5 1 (.int (v_6 + (1 : Int32))) fun f_9 => K f_9) ∧
 (¬ (x3 ≤ x1) → gA f a0 5 0 fun a_10 => gA f a0 5 0 fun a_12 => aI f a_12 1 (x3 - (1 : Int32)) fun v_14 => sI f a_10 x3 v_14 fun f_17 => ∀ v_18 : Int32, v_18 = x3 + (-1) → C75 (v_18, f_17, bc, bs)))
def wp_X2_insert_45 (a0 : Nat) (x1 : Int32) (x2 : Int32)  (f : FT) (bc bs : Nat) (K : FT → Prop)  : Prop :=
  ((x1 < (0 : Int32) → K f) ∧
 (¬ (x1 < (0 : Int32)) → gI f a0 5 1 fun v_21 => ((v_21 < x1 → K f) ∧
 (¬ (v_21 < x1) → gI f a0 5 1 fun v_24 => gA f a0 5 0 fun a_26 => aL f a_26 fun v_28 => ((v_24 < v_28 → gI f a0 5 1 fun v_31 => ∃ n_33, loopW (wp_X2_insert_75 a0 x1 x2 K) n_33 (v_31, f, bc, bs)) ∧
 (¬ (v_24 < v_28) → K f))))))
def wp_X2_insert (a0 : Nat) (x1 : Int32) (x2 : Int32) (f : FT) (mc ms : Nat) (K : FT → Prop) : Prop :=
  gI f a0 5 1 fun v_34 => gA f a0 5 0 fun a_36 => aL f a_36 fun v_38 => ((v_34 < v_38 → wp_X2_insert_45 a0 x1 x2 f mc ms K) ∧
 (¬ (v_34 < v_38) → gA f a0 5 0 fun a_41 => aL f a_41 fun v_43 => (((4096 : Int32) ≤ v_43 → wp_X2_insert_45 a0 x1 x2 f mc ms K) ∧
 (¬ ((4096 : Int32) ≤ v_43) → gA f a0 5 0 fun a_46 => gA f a0 5 0 fun a_48 => aL f a_48 fun v_50 => gA f a0 5 0 fun a_52 => aL f a_52 fun v_54 => ∃ ga_58 gb_59 : Nat, ga_58 ≤ mc ∧ gb_59 ≤ ms ∧ wp_J7_copyOf_59c91 a_46 (v_50 + v_54) f ga_58 gb_59 (fun a_56 f_57 => pV f_57 a0 5 0 (.ref a_56) fun f_63 => wp_X2_insert_45 a0 x1 x2 f_63 (mc - ga_58) (ms - gb_59) K)))))
set_option maxHeartbeats 4000000 in
set_option maxRecDepth 100000 in
theorem cc_X2_insert (l : Launch) (G : GG) {f : FT} {sz : Nat} {a0 : Nat} {x1 : Int32} {x2 : Int32} {mc ms : Nat} {K : FT → Prop} (h : wp_X2_insert a0 x1 x2 f mc ms K) : Met l yX2_insert wsX2_insert ({ frames := 2, cells := mc, slots := ms, locals := 62 } : Room) (FP G [.ref a0, .int x1, .int x2] f sz) (va_Qv (fun f9 => K f9 : FT → Prop) (FB G (fA f sz)) (fA f sz)) mc ms (fA f sz) := by
  refine Met.ofW (cc := cX2_insert) (maxL := 4) (ret := none) (by decide) rfl ?_
  intro p e s m args below meth c s₁ B hml hv
  obtain ⟨rfl, hsz, hF, hK, hZ⟩ := hv
  have hx := B.exec
  have hb := B.bytes
  have hr := B.returns
  have hts := atoms_spec (ws := wsX2_insert) B.pre
  have hown : s.vm.findClass RX2 = some m.cls := findClass_of_methodNamed B.named
  have hlocks := B.notSynchronized
  subst hsz
  have hF := hF.self (sz := s.heap.size)
  generalize hAe : fA f s.heap.size = A at hF hZ ⊢
  have hA : ∀ q : Nat, s.heap.size ≤ q → A q := fun q h => by rw [← hAe]; exact Or.inr h
  have hS : va_S A s.heap s.heap [] := va_S.rf
  have hin_X2 : ∀ w ∈ wsX20, w ∈ wsX2_insert := by decide +kernel
  have hbc : 0 + mc ≤ mc := by omega
  have hbs : 0 + ms ≤ ms := by omega
  have L75 : ∀  (j9 : Nat) (x3 : Int32) (f : FT) (bc : Nat) (bs : Nat) (H : Heap) (locs : List Loc) (ls : Array Slot) (cs sl : Nat), loopW (wp_X2_insert_75 a0 x1 x2 K ) j9 (x3, f, bc, bs) → cs + bc ≤ mc → sl + bs ≤ ms → Fw G A f H → va_S A s.heap H locs → lv_has ls 4 [(0, .ref a0), (1, .int x1), (2, .int x2), (3, .int x3)] → W p l e ({ frames := 2, cells := mc, slots := ms, locals := 62 } : Room) s m ([.ref a0, .int x1, .int x2] : List Value).toArray below meth c H locs cs sl (MQ below (va_Qv (fun f9 => K f9 : FT → Prop) (FB G A) A) ([.ref a0, .int x1, .int x2] : List Value).toArray s mc ms A) (F0 m 75 ls []) := by
    intro  j9
    induction j9 with
    | zero => intro x3 f bc bs H locs ls cs sl h; exact h.elim
    | succ j9 ih75 =>
      intro x3 f bc bs H locs ls cs sl h hbc hbs hF hS hl
      have h : wp_X2_insert_75 a0 x1 x2 K  (loopW (wp_X2_insert_75 a0 x1 x2 K ) j9) (x3, f, bc, bs) := h
      generalize loopW (wp_X2_insert_75 a0 x1 x2 K ) j9 = C75 at ih75 h
      unfold wp_X2_insert_75 at h
      refine lv_iload_n hx hb dX2_insert_75 rfl (lv_at hl 3 rfl) ?_
      refine lv_iload_n hx hb dX2_insert_76 rfl (lv_at hl 1 rfl) ?_
      obtain ⟨h1, h2⟩ := h
      refine lv_icmp_le (tgt := 100) hx hb dX2_insert_77 (by decide) (fun c_1 => ?_) (fun c_1 => ?_)
      · have h := h1 c_1
        refine lv_aload_n hx hb dX2_insert_100 rfl (lv_at hl 0 rfl) ?_
        obtain ⟨fs_3, a_2, he_fs_3, hv_fs_3, h⟩ := h
        refine fw_get (C := RX2) (T := TX2) (N := 2) hx hb hts hin_X2 hown hK hF he_fs_3 rfl 0 (by decide) (hts (.fieldLink RX2 9 "FrontCodedIndex$IntRow" "cells" "[I") (by decide +kernel)) (fun _ h9 => h9) hv_fs_3 dX2_insert_101 ?_
        refine lv_iload_n hx hb dX2_insert_104 rfl (lv_at hl 1 rfl) ?_
        refine lv_iload_n hx hb dX2_insert_105 rfl (lv_at hl 2 rfl) ?_
        obtain ⟨n_q_4, q_4, he_q_4, hi_q_4, h⟩ := h
        refine fw_iast hx hb hK hF hS he_q_4 hi_q_4 dX2_insert_106 (fun H locs hF hS => ?_)
        obtain ⟨f_5, hf_f_5⟩ : ∃ z, z = fup f a_2 (.inl (1, n_q_4, .inl (upd q_4 (x1).toNatClampNeg x2))) := ⟨_, rfl⟩
        rw [← hf_f_5] at hF; have h := h f_5 hf_f_5
        refine lv_aload_n hx hb dX2_insert_107 rfl (lv_at hl 0 rfl) ?_
        refine lv_dup hx hb dX2_insert_108 rfl ?_
        obtain ⟨fs_7, v_6, he_fs_7, hv_fs_7, h⟩ := h
        refine fw_get (C := RX2) (T := TX2) (N := 2) hx hb hts hin_X2 hown hK hF he_fs_7 rfl 1 (by decide) (hts (.fieldLink RX2 13 "FrontCodedIndex$IntRow" "count" "I") (by decide +kernel)) (fun _ h9 => h9) hv_fs_7 dX2_insert_109 ?_
        refine lv_iconst (v := (1 : Int32)) hx hb dX2_insert_112 (by decide) ?_
        refine lv_iadd hx hb dX2_insert_113 ?_
        obtain ⟨fs_8, he_fs_8, hl_fs_8, h⟩ := h
        refine fw_put (v := .int (v_6 + (1 : Int32))) (ty := .int) (C := RX2) (T := TX2) (N := 2) hx hb hts hin_X2 tyX2 (tyX2_ok) nmX2 hown hK hF hS he_fs_8 rfl 1 (by decide) (hts (.fieldLink RX2 13 "FrontCodedIndex$IntRow" "count" "I") (by decide +kernel)) (fun _ h9 => h9) rfl (by decide +kernel) rfl rfl hl_fs_8 dX2_insert_114 (fun H locs hF hS => ?_)
        obtain ⟨f_9, hf_f_9⟩ : ∃ z, z = fup f_5 a0 (.inr (5, fs_8.set 1 (.int (v_6 + (1 : Int32))))) := ⟨_, rfl⟩
        rw [← hf_f_9] at hF; have h := h f_9 hf_f_9
        refine W.widen (k := mc) (n := ms) (by omega) (by omega) ?_
        exact W.vret hx hb hr (fun t ht hW => ⟨⟨f_9, rfl, h, by rw [ht]; exact hF, FK.moved hW.alike hK⟩, hS.F ht⟩) hS.2.2 dX2_insert_117
      · have h := h2 c_1
        refine lv_aload_n hx hb dX2_insert_80 rfl (lv_at hl 0 rfl) ?_
        obtain ⟨fs_11, a_10, he_fs_11, hv_fs_11, h⟩ := h
        refine fw_get (C := RX2) (T := TX2) (N := 2) hx hb hts hin_X2 hown hK hF he_fs_11 rfl 0 (by decide) (hts (.fieldLink RX2 9 "FrontCodedIndex$IntRow" "cells" "[I") (by decide +kernel)) (fun _ h9 => h9) hv_fs_11 dX2_insert_81 ?_
        refine lv_iload_n hx hb dX2_insert_84 rfl (lv_at hl 3 rfl) ?_
        refine lv_aload_n hx hb dX2_insert_85 rfl (lv_at hl 0 rfl) ?_
        obtain ⟨fs_13, a_12, he_fs_13, hv_fs_13, h⟩ := h
        refine fw_get (C := RX2) (T := TX2) (N := 2) hx hb hts hin_X2 hown hK hF he_fs_13 rfl 0 (by decide) (hts (.fieldLink RX2 9 "FrontCodedIndex$IntRow" "cells" "[I") (by decide +kernel)) (fun _ h9 => h9) hv_fs_13 dX2_insert_86 ?_
        refine lv_iload_n hx hb dX2_insert_89 rfl (lv_at hl 3 rfl) ?_
        refine lv_iconst (v := (1 : Int32)) hx hb dX2_insert_90 (by decide) ?_
        refine lv_isub hx hb dX2_insert_91 ?_
        obtain ⟨n_q_15, q_15, he_q_15, hi_q_15, h⟩ := h
        refine fw_iald hx hb hK hF he_q_15 hi_q_15 dX2_insert_92 ?_
        refine lv_topi (fun v_14 e_v_14 => ?_)
        have h := h v_14 e_v_14
        obtain ⟨n_q_16, q_16, he_q_16, hi_q_16, h⟩ := h
        refine fw_iast hx hb hK hF hS he_q_16 hi_q_16 dX2_insert_93 (fun H locs hF hS => ?_)
        obtain ⟨f_17, hf_f_17⟩ : ∃ z, z = fup f a_10 (.inl (1, n_q_16, .inl (upd q_16 (x3).toNatClampNeg v_14))) := ⟨_, rfl⟩
        rw [← hf_f_17] at hF; have h := h f_17 hf_f_17
        obtain ⟨v_18, e_19⟩ : ∃ y : Int32, y = x3 + (-1) := ⟨_, rfl⟩
        have h := h v_18 e_19
        refine lv_iinc (v := v_18) (lv' := [(3, .int v_18), (0, .ref a0), (1, .int x1), (2, .int x2)]) hx hb dX2_insert_94 hl (k := 3) rfl (by rw [e_19]; rfl) (by decide) rfl (fun ls hl => ?_)
        refine lv_goto (tgt := 75) hx hb dX2_insert_97 (by decide) ?_
        exact ih75 v_18 f_17 bc bs _ _ _ _ _ hbc hbs h hF hS (lv_sub hl [1, 2, 3, 0] rfl)
  have J45 : ∀ (f : FT) (bc : Nat) (bs : Nat) (H : Heap) (locs : List Loc) (ls : Array Slot) (cs sl : Nat), wp_X2_insert_45 a0 x1 x2 f bc bs K  → cs + bc ≤ mc → sl + bs ≤ ms → Fw G A f H → va_S A s.heap H locs → lv_has ls 4 [(0, .ref a0), (1, .int x1), (2, .int x2)] → W p l e ({ frames := 2, cells := mc, slots := ms, locals := 62 } : Room) s m ([.ref a0, .int x1, .int x2] : List Value).toArray below meth c H locs cs sl (MQ below (va_Qv (fun f9 => K f9 : FT → Prop) (FB G A) A) ([.ref a0, .int x1, .int x2] : List Value).toArray s mc ms A) (F0 m 45 ls []) := by
    intro f bc bs H locs ls cs sl h hbc hbs hF hS hl
    unfold wp_X2_insert_45 at h
    refine lv_iload_n hx hb dX2_insert_45 rfl (lv_at hl 1 rfl) ?_
    obtain ⟨h1, h2⟩ := h
    refine lv_if_lt (tgt := 69) hx hb dX2_insert_46 (by decide) (fun c_20 => ?_) (fun c_20 => ?_)
    · have h := h1 c_20
      refine W.widen (k := mc) (n := ms) (by omega) (by omega) ?_
      exact W.vret hx hb hr (fun t ht hW => ⟨⟨f, rfl, h, by rw [ht]; exact hF, FK.moved hW.alike hK⟩, hS.F ht⟩) hS.2.2 dX2_insert_69
    · have h := h2 c_20
      refine lv_iload_n hx hb dX2_insert_49 rfl (lv_at hl 1 rfl) ?_
      refine lv_aload_n hx hb dX2_insert_50 rfl (lv_at hl 0 rfl) ?_
      obtain ⟨fs_22, v_21, he_fs_22, hv_fs_22, h⟩ := h
      refine fw_get (C := RX2) (T := TX2) (N := 2) hx hb hts hin_X2 hown hK hF he_fs_22 rfl 1 (by decide) (hts (.fieldLink RX2 13 "FrontCodedIndex$IntRow" "count" "I") (by decide +kernel)) (fun _ h9 => h9) hv_fs_22 dX2_insert_51 ?_
      obtain ⟨h1, h2⟩ := h
      refine lv_icmp_gt (tgt := 69) hx hb dX2_insert_54 (by decide) (fun c_23 => ?_) (fun c_23 => ?_)
      · have h := h1 c_23
        refine W.widen (k := mc) (n := ms) (by omega) (by omega) ?_
        exact W.vret hx hb hr (fun t ht hW => ⟨⟨f, rfl, h, by rw [ht]; exact hF, FK.moved hW.alike hK⟩, hS.F ht⟩) hS.2.2 dX2_insert_69
      · have h := h2 c_23
        refine lv_aload_n hx hb dX2_insert_57 rfl (lv_at hl 0 rfl) ?_
        obtain ⟨fs_25, v_24, he_fs_25, hv_fs_25, h⟩ := h
        refine fw_get (C := RX2) (T := TX2) (N := 2) hx hb hts hin_X2 hown hK hF he_fs_25 rfl 1 (by decide) (hts (.fieldLink RX2 13 "FrontCodedIndex$IntRow" "count" "I") (by decide +kernel)) (fun _ h9 => h9) hv_fs_25 dX2_insert_58 ?_
        refine lv_aload_n hx hb dX2_insert_61 rfl (lv_at hl 0 rfl) ?_
        obtain ⟨fs_27, a_26, he_fs_27, hv_fs_27, h⟩ := h
        refine fw_get (C := RX2) (T := TX2) (N := 2) hx hb hts hin_X2 hown hK hF he_fs_27 rfl 0 (by decide) (hts (.fieldLink RX2 9 "FrontCodedIndex$IntRow" "cells" "[I") (by decide +kernel)) (fun _ h9 => h9) hv_fs_27 dX2_insert_62 ?_
        obtain ⟨t_q_29, q_29, he_q_29, ht_q_29, h⟩ := h
        refine fw_alen hx hb hK hF he_q_29 ht_q_29 dX2_insert_65 ?_
        refine lv_topi (fun v_28 e_v_28 => ?_)
        have h := h v_28 e_v_28
        obtain ⟨h1, h2⟩ := h
        refine lv_icmp_lt (tgt := 70) hx hb dX2_insert_66 (by decide) (fun c_30 => ?_) (fun c_30 => ?_)
        · have h := h1 c_30
          refine lv_aload_n hx hb dX2_insert_70 rfl (lv_at hl 0 rfl) ?_
          obtain ⟨fs_32, v_31, he_fs_32, hv_fs_32, h⟩ := h
          refine fw_get (C := RX2) (T := TX2) (N := 2) hx hb hts hin_X2 hown hK hF he_fs_32 rfl 1 (by decide) (hts (.fieldLink RX2 13 "FrontCodedIndex$IntRow" "count" "I") (by decide +kernel)) (fun _ h9 => h9) hv_fs_32 dX2_insert_71 ?_
          refine lv_istore_n (lv' := [(3, .int v_31), (0, .ref a0), (1, .int x1), (2, .int x2)]) hx hb dX2_insert_74 rfl hl (by decide) rfl (fun ls hl => ?_)
          obtain ⟨n_33, h⟩ := h
          exact L75 n_33 v_31 f bc bs _ _ _ _ _ hbc hbs h hF hS (lv_sub hl [1, 2, 3, 0] rfl)
        · have h := h2 c_30
          refine W.widen (k := mc) (n := ms) (by omega) (by omega) ?_
          exact W.vret hx hb hr (fun t ht hW => ⟨⟨f, rfl, h, by rw [ht]; exact hF, FK.moved hW.alike hK⟩, hS.F ht⟩) hS.2.2 dX2_insert_69
  have hl := lv_entry ([.ref a0, .int x1, .int x2]) (n := 4) (Nat.le_of_ble_eq_true rfl)
  rw [lg_entry_eq]
  generalize (lg_sl ([.ref a0, .int x1, .int x2]) ++ List.replicate (4 - (lg_sl ([.ref a0, .int x1, .int x2])).length) Slot.unset).toArray = ls at hl ⊢
  have hl : lv_has ls 4 [(0, .ref a0), (1, .int x1), (2, .int x2)] := hl
  unfold wp_X2_insert at h
  refine lv_aload_n hx hb dX2_insert_0 rfl (lv_at hl 0 rfl) ?_
  obtain ⟨fs_35, v_34, he_fs_35, hv_fs_35, h⟩ := h
  refine fw_get (C := RX2) (T := TX2) (N := 2) hx hb hts hin_X2 hown hK hF he_fs_35 rfl 1 (by decide) (hts (.fieldLink RX2 13 "FrontCodedIndex$IntRow" "count" "I") (by decide +kernel)) (fun _ h9 => h9) hv_fs_35 dX2_insert_1 ?_
  refine lv_aload_n hx hb dX2_insert_4 rfl (lv_at hl 0 rfl) ?_
  obtain ⟨fs_37, a_36, he_fs_37, hv_fs_37, h⟩ := h
  refine fw_get (C := RX2) (T := TX2) (N := 2) hx hb hts hin_X2 hown hK hF he_fs_37 rfl 0 (by decide) (hts (.fieldLink RX2 9 "FrontCodedIndex$IntRow" "cells" "[I") (by decide +kernel)) (fun _ h9 => h9) hv_fs_37 dX2_insert_5 ?_
  obtain ⟨t_q_39, q_39, he_q_39, ht_q_39, h⟩ := h
  refine fw_alen hx hb hK hF he_q_39 ht_q_39 dX2_insert_8 ?_
  refine lv_topi (fun v_38 e_v_38 => ?_)
  have h := h v_38 e_v_38
  obtain ⟨h1, h2⟩ := h
  refine lv_icmp_lt (tgt := 45) hx hb dX2_insert_9 (by decide) (fun c_40 => ?_) (fun c_40 => ?_)
  · have h := h1 c_40
    exact J45 f mc ms _ _ _ _ _ hbc hbs h hF hS (lv_sub hl [0, 1, 2] rfl)
  · have h := h2 c_40
    refine lv_aload_n hx hb dX2_insert_12 rfl (lv_at hl 0 rfl) ?_
    obtain ⟨fs_42, a_41, he_fs_42, hv_fs_42, h⟩ := h
    refine fw_get (C := RX2) (T := TX2) (N := 2) hx hb hts hin_X2 hown hK hF he_fs_42 rfl 0 (by decide) (hts (.fieldLink RX2 9 "FrontCodedIndex$IntRow" "cells" "[I") (by decide +kernel)) (fun _ h9 => h9) hv_fs_42 dX2_insert_13 ?_
    obtain ⟨t_q_44, q_44, he_q_44, ht_q_44, h⟩ := h
    refine fw_alen hx hb hK hF he_q_44 ht_q_44 dX2_insert_16 ?_
    refine lv_topi (fun v_43 e_v_43 => ?_)
    have h := h v_43 e_v_43
    refine lv_sipush (v := (4096 : Int32)) hx hb dX2_insert_17 (by decide) ?_
    obtain ⟨h1, h2⟩ := h
    refine lv_icmp_ge (tgt := 45) hx hb dX2_insert_20 (by decide) (fun c_45 => ?_) (fun c_45 => ?_)
    · have h := h1 c_45
      exact J45 f mc ms _ _ _ _ _ hbc hbs h hF hS (lv_sub hl [0, 1, 2] rfl)
    · have h := h2 c_45
      refine lv_aload_n hx hb dX2_insert_23 rfl (lv_at hl 0 rfl) ?_
      refine lv_aload_n hx hb dX2_insert_24 rfl (lv_at hl 0 rfl) ?_
      obtain ⟨fs_47, a_46, he_fs_47, hv_fs_47, h⟩ := h
      refine fw_get (C := RX2) (T := TX2) (N := 2) hx hb hts hin_X2 hown hK hF he_fs_47 rfl 0 (by decide) (hts (.fieldLink RX2 9 "FrontCodedIndex$IntRow" "cells" "[I") (by decide +kernel)) (fun _ h9 => h9) hv_fs_47 dX2_insert_25 ?_
      refine lv_aload_n hx hb dX2_insert_28 rfl (lv_at hl 0 rfl) ?_
      obtain ⟨fs_49, a_48, he_fs_49, hv_fs_49, h⟩ := h
      refine fw_get (C := RX2) (T := TX2) (N := 2) hx hb hts hin_X2 hown hK hF he_fs_49 rfl 0 (by decide) (hts (.fieldLink RX2 9 "FrontCodedIndex$IntRow" "cells" "[I") (by decide +kernel)) (fun _ h9 => h9) hv_fs_49 dX2_insert_29 ?_
      obtain ⟨t_q_51, q_51, he_q_51, ht_q_51, h⟩ := h
      refine fw_alen hx hb hK hF he_q_51 ht_q_51 dX2_insert_32 ?_
      refine lv_topi (fun v_50 e_v_50 => ?_)
      have h := h v_50 e_v_50
      refine lv_aload_n hx hb dX2_insert_33 rfl (lv_at hl 0 rfl) ?_
      obtain ⟨fs_53, a_52, he_fs_53, hv_fs_53, h⟩ := h
      refine fw_get (C := RX2) (T := TX2) (N := 2) hx hb hts hin_X2 hown hK hF he_fs_53 rfl 0 (by decide) (hts (.fieldLink RX2 9 "FrontCodedIndex$IntRow" "cells" "[I") (by decide +kernel)) (fun _ h9 => h9) hv_fs_53 dX2_insert_34 ?_
      obtain ⟨t_q_55, q_55, he_q_55, ht_q_55, h⟩ := h
      refine fw_alen hx hb hK hF he_q_55 ht_q_55 dX2_insert_37 ?_
      refine lv_topi (fun v_54 e_v_54 => ?_)
      have h := h v_54 e_v_54
      refine lv_iadd hx hb dX2_insert_38 ?_
      obtain ⟨ga_58, gb_59, hga_ga_58, hgb_ga_58, h⟩ := h
      refine fw_cS_q_w (As := [.ref a_46, .int (v_50 + v_54)]) (rest := [.ref a0]) ⟨hx, hb, hml, hown, hts⟩ (cc_J7_copyOf_59c91 l G h) (⟨callB_of 2 hts ggX2_insert_J7_copyOf_59c91 rfl rfl rfl (hts (.initialized RJ7) (by decide +kernel)) (hts (.methodLink RX2 21 yJ7_copyOf_59c91) (by decide +kernel)) (by decide +kernel) ⟨Nat.le_of_ble_eq_true rfl, Nat.le_of_ble_eq_true rfl⟩, hts (.static yJ7_copyOf_59c91) (by decide +kernel)⟩) hK hZ hF hS hA rfl hl.1 rfl (Nat.le_of_ble_eq_true rfl) dX2_insert_39 ⟨by show _ ≤ mc; omega, by show _ ≤ ms; omega⟩ (fun a_56 f_57 H locs h hF hS => ?_)
      have hbc : (0 + ga_58) + (mc - ga_58) ≤ mc := by omega
      have hbs : (0 + gb_59) + (ms - gb_59) ≤ ms := by omega
      generalize (0 + ga_58) = cs_60 at hbc ⊢; generalize (0 + gb_59) = sl_61 at hbs ⊢
      obtain ⟨fs_62, he_fs_62, hl_fs_62, h⟩ := h
      refine fw_put (v := .ref a_56) (ty := (.array .int)) (C := RX2) (T := TX2) (N := 2) hx hb hts hin_X2 tyX2 (tyX2_ok) nmX2 hown hK hF hS he_fs_62 rfl 0 (by decide) (hts (.fieldLink RX2 9 "FrontCodedIndex$IntRow" "cells" "[I") (by decide +kernel)) (fun _ h9 => h9) rfl (by decide +kernel) rfl rfl hl_fs_62 dX2_insert_42 (fun H locs hF hS => ?_)
      obtain ⟨f_63, hf_f_63⟩ : ∃ z, z = fup f_57 a0 (.inr (5, fs_62.set 0 (.ref a_56))) := ⟨_, rfl⟩
      rw [← hf_f_63] at hF; have h := h f_63 hf_f_63
      exact J45 f_63 (mc - ga_58) (ms - gb_59) _ _ _ _ _ hbc hbs h hF hS (lv_sub hl [0, 1, 2] rfl)
theorem dX2_addFrom_0 : decode cX2_addFrom 0 = .ok (.iload_n 1, 1) := by decide +kernel
theorem dX2_addFrom_1 : decode cX2_addFrom 1 = .ok (.iconst 0, 1) := by decide +kernel
theorem dX2_addFrom_2 : decode cX2_addFrom 2 = .ok (.invokestatic 27, 3) := by decide +kernel
theorem dX2_addFrom_5 : decode cX2_addFrom 5 = .ok (.istore_n 3, 1) := by decide +kernel
theorem dX2_addFrom_6 : decode cX2_addFrom 6 = .ok (.iload_n 3, 1) := by decide +kernel
theorem dX2_addFrom_7 : decode cX2_addFrom 7 = .ok (.aload_n 0, 1) := by decide +kernel
theorem dX2_addFrom_8 : decode cX2_addFrom 8 = .ok (.getfield 13, 3) := by decide +kernel
theorem dX2_addFrom_11 : decode cX2_addFrom 11 = .ok (.if_icmp .ge 28, 3) := by decide +kernel
theorem dX2_addFrom_14 : decode cX2_addFrom 14 = .ok (.iload_n 3, 1) := by decide +kernel
theorem dX2_addFrom_15 : decode cX2_addFrom 15 = .ok (.aload_n 0, 1) := by decide +kernel
theorem dX2_addFrom_16 : decode cX2_addFrom 16 = .ok (.getfield 9, 3) := by decide +kernel
theorem dX2_addFrom_19 : decode cX2_addFrom 19 = .ok (.arraylength, 1) := by decide +kernel
theorem dX2_addFrom_20 : decode cX2_addFrom 20 = .ok (.if_icmp .ge 19, 3) := by decide +kernel
theorem dX2_addFrom_23 : decode cX2_addFrom 23 = .ok (.aload_n 0, 1) := by decide +kernel
theorem dX2_addFrom_24 : decode cX2_addFrom 24 = .ok (.getfield 9, 3) := by decide +kernel
theorem dX2_addFrom_27 : decode cX2_addFrom 27 = .ok (.iload_n 3, 1) := by decide +kernel
theorem dX2_addFrom_28 : decode cX2_addFrom 28 = .ok (.dup2, 1) := by decide +kernel
theorem dX2_addFrom_29 : decode cX2_addFrom 29 = .ok (.iaload, 1) := by decide +kernel
theorem dX2_addFrom_30 : decode cX2_addFrom 30 = .ok (.iload_n 2, 1) := by decide +kernel
theorem dX2_addFrom_31 : decode cX2_addFrom 31 = .ok (.iadd, 1) := by decide +kernel
theorem dX2_addFrom_32 : decode cX2_addFrom 32 = .ok (.iastore, 1) := by decide +kernel
theorem dX2_addFrom_33 : decode cX2_addFrom 33 = .ok (.iinc 3 1, 3) := by decide +kernel
theorem dX2_addFrom_36 : decode cX2_addFrom 36 = .ok (.goto (-30), 3) := by decide +kernel
theorem dX2_addFrom_39 : decode cX2_addFrom 39 = .ok (.return_, 1) := by decide +kernel
def wp_X2_addFrom_6 (a0 : Nat) (x2 : Int32) (K : FT → Prop)  (C6 : Int32 × FT → Prop) : Int32 × FT → Prop := fun s9 => match s9 with
  | (x3, f) => gI f a0 5 1 fun v_1 => ((v_1 ≤ x3 → K f) ∧
 (¬ (v_1 ≤ x3) → gA f a0 5 0 fun a_4 => aL f a_4 fun v_6 => ((v_6 ≤ x3 → K f) ∧
 (¬ (v_6 ≤ x3) → gA f a0 5 0 fun a_9 => aI f a_9 1 x3 fun v_11 => sI f a_9 x3 (v_11 + x2) fun f_14 => ∀ v_15 : Int32, v_15 = x3 + 1 → C6 (v_15, f_14)))))
def wp_X2_addFrom (a0 : Nat) (x1 : Int32) (x2 : Int32) (f : FT) (K : FT → Prop) : Prop :=
  ∀ v_17 : Int32, v_17 = (jmax x1 (0 : Int32)) → ∃ n_19, loopW (wp_X2_addFrom_6 a0 x2 K) n_19 (v_17, f)
set_option maxHeartbeats 4000000 in
set_option maxRecDepth 100000 in
theorem cc_X2_addFrom (l : Launch) (G : GG) {f : FT} {sz : Nat} {a0 : Nat} {x1 : Int32} {x2 : Int32} {K : FT → Prop} (h : wp_X2_addFrom a0 x1 x2 f K) : Met l yX2_addFrom wsX2_addFrom ({ frames := 1, cells := 0, slots := 0, locals := 21 } : Room) (FP G [.ref a0, .int x1, .int x2] f sz) (va_Qv (fun f9 => K f9 : FT → Prop) (FB G (fA f sz)) (fA f sz)) 0 0 (fA f sz) := by
  refine Met.ofW (cc := cX2_addFrom) (maxL := 4) (ret := none) (by decide) rfl ?_
  intro p e s m args below meth c s₁ B hml hv
  obtain ⟨rfl, hsz, hF, hK, hZ⟩ := hv
  have hx := B.exec
  have hb := B.bytes
  have hr := B.returns
  have hts := atoms_spec (ws := wsX2_addFrom) B.pre
  have hown : s.vm.findClass RX2 = some m.cls := findClass_of_methodNamed B.named
  have hlocks := B.notSynchronized
  subst hsz
  have hF := hF.self (sz := s.heap.size)
  generalize hAe : fA f s.heap.size = A at hF hZ ⊢
  have hA : ∀ q : Nat, s.heap.size ≤ q → A q := fun q h => by rw [← hAe]; exact Or.inr h
  have hS : va_S A s.heap s.heap [] := va_S.rf
  have hin_X2 : ∀ w ∈ wsX20, w ∈ wsX2_addFrom := by decide +kernel
  have L6 : ∀  (j9 : Nat) (x3 : Int32) (f : FT) (H : Heap) (locs : List Loc) (ls : Array Slot), loopW (wp_X2_addFrom_6 a0 x2 K ) j9 (x3, f) → Fw G A f H → va_S A s.heap H locs → lv_has ls 4 [(0, .ref a0), (2, .int x2), (3, .int x3)] → W p l e ({ frames := 1, cells := 0, slots := 0, locals := 21 } : Room) s m ([.ref a0, .int x1, .int x2] : List Value).toArray below meth c H locs 0 0 (MQ below (va_Qv (fun f9 => K f9 : FT → Prop) (FB G A) A) ([.ref a0, .int x1, .int x2] : List Value).toArray s 0 0 A) (F0 m 6 ls []) := by
    intro  j9
    induction j9 with
    | zero => intro x3 f H locs ls h; exact h.elim
    | succ j9 ih6 =>
      intro x3 f H locs ls h hF hS hl
      have h : wp_X2_addFrom_6 a0 x2 K  (loopW (wp_X2_addFrom_6 a0 x2 K ) j9) (x3, f) := h
      generalize loopW (wp_X2_addFrom_6 a0 x2 K ) j9 = C6 at ih6 h
      unfold wp_X2_addFrom_6 at h
      refine lv_iload_n hx hb dX2_addFrom_6 rfl (lv_at hl 2 rfl) ?_
      refine lv_aload_n hx hb dX2_addFrom_7 rfl (lv_at hl 0 rfl) ?_
      obtain ⟨fs_2, v_1, he_fs_2, hv_fs_2, h⟩ := h
      refine fw_get (C := RX2) (T := TX2) (N := 2) hx hb hts hin_X2 hown hK hF he_fs_2 rfl 1 (by decide) (hts (.fieldLink RX2 13 "FrontCodedIndex$IntRow" "count" "I") (by decide +kernel)) (fun _ h9 => h9) hv_fs_2 dX2_addFrom_8 ?_
      obtain ⟨h1, h2⟩ := h
      refine lv_icmp_ge (tgt := 39) hx hb dX2_addFrom_11 (by decide) (fun c_3 => ?_) (fun c_3 => ?_)
      · have h := h1 c_3
        exact W.vret hx hb hr (fun t ht hW => ⟨⟨f, rfl, h, by rw [ht]; exact hF, FK.moved hW.alike hK⟩, hS.F ht⟩) hS.2.2 dX2_addFrom_39
      · have h := h2 c_3
        refine lv_iload_n hx hb dX2_addFrom_14 rfl (lv_at hl 2 rfl) ?_
        refine lv_aload_n hx hb dX2_addFrom_15 rfl (lv_at hl 0 rfl) ?_
        obtain ⟨fs_5, a_4, he_fs_5, hv_fs_5, h⟩ := h
        refine fw_get (C := RX2) (T := TX2) (N := 2) hx hb hts hin_X2 hown hK hF he_fs_5 rfl 0 (by decide) (hts (.fieldLink RX2 9 "FrontCodedIndex$IntRow" "cells" "[I") (by decide +kernel)) (fun _ h9 => h9) hv_fs_5 dX2_addFrom_16 ?_
        obtain ⟨t_q_7, q_7, he_q_7, ht_q_7, h⟩ := h
        refine fw_alen hx hb hK hF he_q_7 ht_q_7 dX2_addFrom_19 ?_
        refine lv_topi (fun v_6 e_v_6 => ?_)
        have h := h v_6 e_v_6
        obtain ⟨h1, h2⟩ := h
        refine lv_icmp_ge (tgt := 39) hx hb dX2_addFrom_20 (by decide) (fun c_8 => ?_) (fun c_8 => ?_)
        · have h := h1 c_8
          exact W.vret hx hb hr (fun t ht hW => ⟨⟨f, rfl, h, by rw [ht]; exact hF, FK.moved hW.alike hK⟩, hS.F ht⟩) hS.2.2 dX2_addFrom_39
        · have h := h2 c_8
          refine lv_aload_n hx hb dX2_addFrom_23 rfl (lv_at hl 0 rfl) ?_
          obtain ⟨fs_10, a_9, he_fs_10, hv_fs_10, h⟩ := h
          refine fw_get (C := RX2) (T := TX2) (N := 2) hx hb hts hin_X2 hown hK hF he_fs_10 rfl 0 (by decide) (hts (.fieldLink RX2 9 "FrontCodedIndex$IntRow" "cells" "[I") (by decide +kernel)) (fun _ h9 => h9) hv_fs_10 dX2_addFrom_24 ?_
          refine lv_iload_n hx hb dX2_addFrom_27 rfl (lv_at hl 2 rfl) ?_
          refine lv_dup2_11 hx hb dX2_addFrom_28 rfl rfl ?_
          obtain ⟨n_q_12, q_12, he_q_12, hi_q_12, h⟩ := h
          refine fw_iald hx hb hK hF he_q_12 hi_q_12 dX2_addFrom_29 ?_
          refine lv_topi (fun v_11 e_v_11 => ?_)
          have h := h v_11 e_v_11
          refine lv_iload_n hx hb dX2_addFrom_30 rfl (lv_at hl 1 rfl) ?_
          refine lv_iadd hx hb dX2_addFrom_31 ?_
          obtain ⟨n_q_13, q_13, he_q_13, hi_q_13, h⟩ := h
          refine fw_iast hx hb hK hF hS he_q_13 hi_q_13 dX2_addFrom_32 (fun H locs hF hS => ?_)
          obtain ⟨f_14, hf_f_14⟩ : ∃ z, z = fup f a_9 (.inl (1, n_q_13, .inl (upd q_13 (x3).toNatClampNeg (v_11 + x2)))) := ⟨_, rfl⟩
          rw [← hf_f_14] at hF; have h := h f_14 hf_f_14
          obtain ⟨v_15, e_16⟩ : ∃ y : Int32, y = x3 + 1 := ⟨_, rfl⟩
          have h := h v_15 e_16
          refine lv_iinc (v := v_15) (lv' := [(3, .int v_15), (0, .ref a0), (2, .int x2)]) hx hb dX2_addFrom_33 hl (k := 2) rfl (by rw [e_16]; rfl) (by decide) rfl (fun ls hl => ?_)
          refine lv_goto (tgt := 6) hx hb dX2_addFrom_36 (by decide) ?_
          exact ih6 v_15 f_14 _ _ _ h hF hS (lv_sub hl [1, 2, 0] rfl)
  have hl := lv_entry ([.ref a0, .int x1, .int x2]) (n := 4) (Nat.le_of_ble_eq_true rfl)
  rw [lg_entry_eq]
  generalize (lg_sl ([.ref a0, .int x1, .int x2]) ++ List.replicate (4 - (lg_sl ([.ref a0, .int x1, .int x2])).length) Slot.unset).toArray = ls at hl ⊢
  have hl : lv_has ls 4 [(0, .ref a0), (1, .int x1), (2, .int x2)] := hl
  unfold wp_X2_addFrom at h
  refine lv_iload_n hx hb dX2_addFrom_0 rfl (lv_at hl 1 rfl) ?_
  refine lv_iconst (v := (0 : Int32)) hx hb dX2_addFrom_1 (by decide) ?_
  refine va_mmax hx hb (hml.trans hl.1.symm) hown (hts (.methodLink RX2 27 Lib.Math.max.name) (by decide +kernel)) (hts (.static Lib.Math.max.name) (by decide +kernel)) (hts (.initialized "java/lang/Math") (by decide +kernel)) (hts (.code Lib.Math.max.name Lib.Math.max.code 2 (some .int)) (by decide +kernel)) (by decide) (by decide) (Nat.zero_le _) (Nat.zero_le _) dX2_addFrom_2 ?_
  refine lv_topi (fun v_17 e_18 => ?_)
  have h := h v_17 e_18
  refine lv_istore_n (lv' := [(3, .int v_17), (0, .ref a0), (1, .int x1), (2, .int x2)]) hx hb dX2_addFrom_5 rfl hl (by decide) rfl (fun ls hl => ?_)
  obtain ⟨n_19, h⟩ := h
  exact L6 n_19 v_17 f _ _ _ h hF hS (lv_sub hl [1, 3, 0] rfl)
theorem dX2_at_0 : decode cX2_at 0 = .ok (.iload_n 1, 1) := by decide +kernel
theorem dX2_at_1 : decode cX2_at 1 = .ok (.ifCond .lt 29, 3) := by decide +kernel
theorem dX2_at_4 : decode cX2_at 4 = .ok (.iload_n 1, 1) := by decide +kernel
theorem dX2_at_5 : decode cX2_at 5 = .ok (.aload_n 0, 1) := by decide +kernel
theorem dX2_at_6 : decode cX2_at 6 = .ok (.getfield 13, 3) := by decide +kernel
theorem dX2_at_9 : decode cX2_at 9 = .ok (.if_icmp .ge 21, 3) := by decide +kernel
theorem dX2_at_12 : decode cX2_at 12 = .ok (.iload_n 1, 1) := by decide +kernel
theorem dX2_at_13 : decode cX2_at 13 = .ok (.aload_n 0, 1) := by decide +kernel
theorem dX2_at_14 : decode cX2_at 14 = .ok (.getfield 9, 3) := by decide +kernel
theorem dX2_at_17 : decode cX2_at 17 = .ok (.arraylength, 1) := by decide +kernel
theorem dX2_at_18 : decode cX2_at 18 = .ok (.if_icmp .ge 12, 3) := by decide +kernel
theorem dX2_at_21 : decode cX2_at 21 = .ok (.aload_n 0, 1) := by decide +kernel
theorem dX2_at_22 : decode cX2_at 22 = .ok (.getfield 9, 3) := by decide +kernel
theorem dX2_at_25 : decode cX2_at 25 = .ok (.iload_n 1, 1) := by decide +kernel
theorem dX2_at_26 : decode cX2_at 26 = .ok (.iaload, 1) := by decide +kernel
theorem dX2_at_27 : decode cX2_at 27 = .ok (.goto 4, 3) := by decide +kernel
theorem dX2_at_30 : decode cX2_at 30 = .ok (.iconst 0, 1) := by decide +kernel
theorem dX2_at_31 : decode cX2_at 31 = .ok (.ireturn, 1) := by decide +kernel
def wp_X2_at (a0 : Nat) (x1 : Int32) (f : FT) (K : Int32 → Prop) : Prop :=
  ((x1 < (0 : Int32) → K (0 : Int32)) ∧
 (¬ (x1 < (0 : Int32)) → gI f a0 5 1 fun v_2 => ((v_2 ≤ x1 → K (0 : Int32)) ∧
 (¬ (v_2 ≤ x1) → gA f a0 5 0 fun a_5 => aL f a_5 fun v_7 => ((v_7 ≤ x1 → K (0 : Int32)) ∧
 (¬ (v_7 ≤ x1) → gA f a0 5 0 fun a_10 => aI f a_10 1 x1 fun v_12 => K v_12))))))
set_option maxHeartbeats 4000000 in
set_option maxRecDepth 100000 in
theorem cc_X2_at (l : Launch) (G : GG) {f : FT} {sz : Nat} {a0 : Nat} {x1 : Int32} {K : Int32 → Prop} (h : wp_X2_at a0 x1 f K) : Met l yX2_at wsX2_at ({ frames := 0, cells := 0, slots := 0, locals := 0 } : Room) (FP G [.ref a0, .int x1] f sz) (va_Qi (fun r f9 => K r ∧ f9 = f : Int32 → FT → Prop) (FB G (fA f sz)) (fA f sz)) 0 0 (fA f sz) := by
  refine Met.ofW (cc := cX2_at) (maxL := 2) (ret := (some .int)) (by decide) rfl ?_
  intro p e s m args below meth c s₁ B hml hv
  obtain ⟨rfl, hsz, hF, hK, hZ⟩ := hv
  have hx := B.exec
  have hb := B.bytes
  have hr := B.returns
  have hts := atoms_spec (ws := wsX2_at) B.pre
  have hown : s.vm.findClass RX2 = some m.cls := findClass_of_methodNamed B.named
  have hlocks := B.notSynchronized
  subst hsz
  have hF := hF.self (sz := s.heap.size)
  generalize hAe : fA f s.heap.size = A at hF hZ ⊢
  have hA : ∀ q : Nat, s.heap.size ≤ q → A q := fun q h => by rw [← hAe]; exact Or.inr h
  have hS : va_S A s.heap s.heap [] := va_S.rf
  have hin_X2 : ∀ w ∈ wsX20, w ∈ wsX2_at := by decide +kernel
  have hl := lv_entry ([.ref a0, .int x1]) (n := 2) (Nat.le_of_ble_eq_true rfl)
  rw [lg_entry_eq]
  generalize (lg_sl ([.ref a0, .int x1]) ++ List.replicate (2 - (lg_sl ([.ref a0, .int x1])).length) Slot.unset).toArray = ls at hl ⊢
  have hl : lv_has ls 2 [(0, .ref a0), (1, .int x1)] := hl
  unfold wp_X2_at at h
  refine lv_iload_n hx hb dX2_at_0 rfl (lv_at hl 1 rfl) ?_
  obtain ⟨h1, h2⟩ := h
  refine lv_if_lt (tgt := 30) hx hb dX2_at_1 (by decide) (fun c_1 => ?_) (fun c_1 => ?_)
  · have h := h1 c_1
    refine lv_iconst (v := (0 : Int32)) hx hb dX2_at_30 (by decide) ?_
    exact W.iret (v := (0 : Int32)) hx hb hr (fun t ht hW => ⟨⟨(0 : Int32), f, rfl, ⟨h, rfl⟩, by rw [ht]; exact hF, FK.moved hW.alike hK⟩, hS.F ht⟩) hS.2.2 dX2_at_31
  · have h := h2 c_1
    refine lv_iload_n hx hb dX2_at_4 rfl (lv_at hl 1 rfl) ?_
    refine lv_aload_n hx hb dX2_at_5 rfl (lv_at hl 0 rfl) ?_
    obtain ⟨fs_3, v_2, he_fs_3, hv_fs_3, h⟩ := h
    refine fw_get (C := RX2) (T := TX2) (N := 2) hx hb hts hin_X2 hown hK hF he_fs_3 rfl 1 (by decide) (hts (.fieldLink RX2 13 "FrontCodedIndex$IntRow" "count" "I") (by decide +kernel)) (fun _ h9 => h9) hv_fs_3 dX2_at_6 ?_
    obtain ⟨h1, h2⟩ := h
    refine lv_icmp_ge (tgt := 30) hx hb dX2_at_9 (by decide) (fun c_4 => ?_) (fun c_4 => ?_)
    · have h := h1 c_4
      refine lv_iconst (v := (0 : Int32)) hx hb dX2_at_30 (by decide) ?_
      exact W.iret (v := (0 : Int32)) hx hb hr (fun t ht hW => ⟨⟨(0 : Int32), f, rfl, ⟨h, rfl⟩, by rw [ht]; exact hF, FK.moved hW.alike hK⟩, hS.F ht⟩) hS.2.2 dX2_at_31
    · have h := h2 c_4
      refine lv_iload_n hx hb dX2_at_12 rfl (lv_at hl 1 rfl) ?_
      refine lv_aload_n hx hb dX2_at_13 rfl (lv_at hl 0 rfl) ?_
      obtain ⟨fs_6, a_5, he_fs_6, hv_fs_6, h⟩ := h
      refine fw_get (C := RX2) (T := TX2) (N := 2) hx hb hts hin_X2 hown hK hF he_fs_6 rfl 0 (by decide) (hts (.fieldLink RX2 9 "FrontCodedIndex$IntRow" "cells" "[I") (by decide +kernel)) (fun _ h9 => h9) hv_fs_6 dX2_at_14 ?_
      obtain ⟨t_q_8, q_8, he_q_8, ht_q_8, h⟩ := h
      refine fw_alen hx hb hK hF he_q_8 ht_q_8 dX2_at_17 ?_
      refine lv_topi (fun v_7 e_v_7 => ?_)
      have h := h v_7 e_v_7
      obtain ⟨h1, h2⟩ := h
      refine lv_icmp_ge (tgt := 30) hx hb dX2_at_18 (by decide) (fun c_9 => ?_) (fun c_9 => ?_)
      · have h := h1 c_9
        refine lv_iconst (v := (0 : Int32)) hx hb dX2_at_30 (by decide) ?_
        exact W.iret (v := (0 : Int32)) hx hb hr (fun t ht hW => ⟨⟨(0 : Int32), f, rfl, ⟨h, rfl⟩, by rw [ht]; exact hF, FK.moved hW.alike hK⟩, hS.F ht⟩) hS.2.2 dX2_at_31
      · have h := h2 c_9
        refine lv_aload_n hx hb dX2_at_21 rfl (lv_at hl 0 rfl) ?_
        obtain ⟨fs_11, a_10, he_fs_11, hv_fs_11, h⟩ := h
        refine fw_get (C := RX2) (T := TX2) (N := 2) hx hb hts hin_X2 hown hK hF he_fs_11 rfl 0 (by decide) (hts (.fieldLink RX2 9 "FrontCodedIndex$IntRow" "cells" "[I") (by decide +kernel)) (fun _ h9 => h9) hv_fs_11 dX2_at_22 ?_
        refine lv_iload_n hx hb dX2_at_25 rfl (lv_at hl 1 rfl) ?_
        obtain ⟨n_q_13, q_13, he_q_13, hi_q_13, h⟩ := h
        refine fw_iald hx hb hK hF he_q_13 hi_q_13 dX2_at_26 ?_
        refine lv_topi (fun v_12 e_v_12 => ?_)
        have h := h v_12 e_v_12
        refine lv_goto (tgt := 31) hx hb dX2_at_27 (by decide) ?_
        exact W.iret (v := v_12) hx hb hr (fun t ht hW => ⟨⟨v_12, f, rfl, ⟨h, rfl⟩, by rw [ht]; exact hF, FK.moved hW.alike hK⟩, hS.F ht⟩) hS.2.2 dX2_at_31
theorem dX3_length_0 : decode cX3_length 0 = .ok (.aload_n 0, 1) := by decide +kernel
theorem dX3_length_1 : decode cX3_length 1 = .ok (.getfield 7, 3) := by decide +kernel
theorem dX3_length_4 : decode cX3_length 4 = .ok (.arraylength, 1) := by decide +kernel
theorem dX3_length_5 : decode cX3_length 5 = .ok (.ireturn, 1) := by decide +kernel
def wp_X3_length (a0 : Nat) (f : FT) (K : Int32 → Prop) : Prop :=
  gA f a0 6 0 fun a_1 => aL f a_1 fun v_3 => K v_3
set_option maxHeartbeats 4000000 in
set_option maxRecDepth 100000 in
theorem cc_X3_length (l : Launch) (G : GG) {f : FT} {sz : Nat} {a0 : Nat} {K : Int32 → Prop} (h : wp_X3_length a0 f K) : Met l yX3_length wsX3_length ({ frames := 0, cells := 0, slots := 0, locals := 0 } : Room) (FP G [.ref a0] f sz) (va_Qi (fun r f9 => K r ∧ f9 = f : Int32 → FT → Prop) (FB G (fA f sz)) (fA f sz)) 0 0 (fA f sz) := by
  refine Met.ofW (cc := cX3_length) (maxL := 1) (ret := (some .int)) (by decide) rfl ?_
  intro p e s m args below meth c s₁ B hml hv
  obtain ⟨rfl, hsz, hF, hK, hZ⟩ := hv
  have hx := B.exec
  have hb := B.bytes
  have hr := B.returns
  have hts := atoms_spec (ws := wsX3_length) B.pre
  have hown : s.vm.findClass RX3 = some m.cls := findClass_of_methodNamed B.named
  have hlocks := B.notSynchronized
  subst hsz
  have hF := hF.self (sz := s.heap.size)
  generalize hAe : fA f s.heap.size = A at hF hZ ⊢
  have hA : ∀ q : Nat, s.heap.size ≤ q → A q := fun q h => by rw [← hAe]; exact Or.inr h
  have hS : va_S A s.heap s.heap [] := va_S.rf
  have hin_X3 : ∀ w ∈ wsX30, w ∈ wsX3_length := by decide +kernel
  have hl := lv_entry ([.ref a0]) (n := 1) (Nat.le_of_ble_eq_true rfl)
  rw [lg_entry_eq]
  generalize (lg_sl ([.ref a0]) ++ List.replicate (1 - (lg_sl ([.ref a0])).length) Slot.unset).toArray = ls at hl ⊢
  have hl : lv_has ls 1 [(0, .ref a0)] := hl
  unfold wp_X3_length at h
  refine lv_aload_n hx hb dX3_length_0 rfl (lv_at hl 0 rfl) ?_
  obtain ⟨fs_2, a_1, he_fs_2, hv_fs_2, h⟩ := h
  refine fw_get (C := RX3) (T := TX3) (N := 1) hx hb hts hin_X3 hown hK hF he_fs_2 rfl 0 (by decide) (hts (.fieldLink RX3 7 "FrontCodedIndex$Key" "bytes" "[B") (by decide +kernel)) (fun _ h9 => h9) hv_fs_2 dX3_length_1 ?_
  obtain ⟨t_q_4, q_4, he_q_4, ht_q_4, h⟩ := h
  refine fw_alen hx hb hK hF he_q_4 ht_q_4 dX3_length_4 ?_
  refine lv_topi (fun v_3 e_v_3 => ?_)
  have h := h v_3 e_v_3
  exact W.iret (v := v_3) hx hb hr (fun t ht hW => ⟨⟨v_3, f, rfl, ⟨h, rfl⟩, by rw [ht]; exact hF, FK.moved hW.alike hK⟩, hS.F ht⟩) hS.2.2 dX3_length_5
theorem dX2_countNotAbove_0 : decode cX2_countNotAbove 0 = .ok (.iconst 0, 1) := by decide +kernel
theorem dX2_countNotAbove_1 : decode cX2_countNotAbove 1 = .ok (.istore_n 2, 1) := by decide +kernel
theorem dX2_countNotAbove_2 : decode cX2_countNotAbove 2 = .ok (.aload_n 0, 1) := by decide +kernel
theorem dX2_countNotAbove_3 : decode cX2_countNotAbove 3 = .ok (.getfield 13, 3) := by decide +kernel
theorem dX2_countNotAbove_6 : decode cX2_countNotAbove 6 = .ok (.istore_n 3, 1) := by decide +kernel
theorem dX2_countNotAbove_7 : decode cX2_countNotAbove 7 = .ok (.iload_n 2, 1) := by decide +kernel
theorem dX2_countNotAbove_8 : decode cX2_countNotAbove 8 = .ok (.iload_n 3, 1) := by decide +kernel
theorem dX2_countNotAbove_9 : decode cX2_countNotAbove 9 = .ok (.if_icmp .ge 34, 3) := by decide +kernel
theorem dX2_countNotAbove_12 : decode cX2_countNotAbove 12 = .ok (.iload_n 2, 1) := by decide +kernel
theorem dX2_countNotAbove_13 : decode cX2_countNotAbove 13 = .ok (.iload_n 3, 1) := by decide +kernel
theorem dX2_countNotAbove_14 : decode cX2_countNotAbove 14 = .ok (.iadd, 1) := by decide +kernel
theorem dX2_countNotAbove_15 : decode cX2_countNotAbove 15 = .ok (.iconst 2, 1) := by decide +kernel
theorem dX2_countNotAbove_16 : decode cX2_countNotAbove 16 = .ok (.idiv, 1) := by decide +kernel
theorem dX2_countNotAbove_17 : decode cX2_countNotAbove 17 = .ok (.istore 4, 2) := by decide +kernel
theorem dX2_countNotAbove_19 : decode cX2_countNotAbove 19 = .ok (.aload_n 0, 1) := by decide +kernel
theorem dX2_countNotAbove_20 : decode cX2_countNotAbove 20 = .ok (.iload 4, 2) := by decide +kernel
theorem dX2_countNotAbove_22 : decode cX2_countNotAbove 22 = .ok (.invokevirtual 33, 3) := by decide +kernel
theorem dX2_countNotAbove_25 : decode cX2_countNotAbove 25 = .ok (.iload_n 1, 1) := by decide +kernel
theorem dX2_countNotAbove_26 : decode cX2_countNotAbove 26 = .ok (.if_icmp .gt 11, 3) := by decide +kernel
theorem dX2_countNotAbove_29 : decode cX2_countNotAbove 29 = .ok (.iload 4, 2) := by decide +kernel
theorem dX2_countNotAbove_31 : decode cX2_countNotAbove 31 = .ok (.iconst 1, 1) := by decide +kernel
theorem dX2_countNotAbove_32 : decode cX2_countNotAbove 32 = .ok (.iadd, 1) := by decide +kernel
theorem dX2_countNotAbove_33 : decode cX2_countNotAbove 33 = .ok (.istore_n 2, 1) := by decide +kernel
theorem dX2_countNotAbove_34 : decode cX2_countNotAbove 34 = .ok (.goto 6, 3) := by decide +kernel
theorem dX2_countNotAbove_37 : decode cX2_countNotAbove 37 = .ok (.iload 4, 2) := by decide +kernel
theorem dX2_countNotAbove_39 : decode cX2_countNotAbove 39 = .ok (.istore_n 3, 1) := by decide +kernel
theorem dX2_countNotAbove_40 : decode cX2_countNotAbove 40 = .ok (.goto (-33), 3) := by decide +kernel
theorem dX2_countNotAbove_43 : decode cX2_countNotAbove 43 = .ok (.iload_n 2, 1) := by decide +kernel
theorem dX2_countNotAbove_44 : decode cX2_countNotAbove 44 = .ok (.ireturn, 1) := by decide +kernel
set_option maxRecDepth 20000 in
theorem ggX2_countNotAbove_X2_at : GoodIn wsX2_countNotAbove wsX2_at := goodIn_r _ [6, 1, 7, 8, 9] (by decide +kernel) (by decide +kernel)
def wp_X2_countNotAbove_7 (a0 : Nat) (x1 : Int32) (f : FT) (K : Int32 → Prop)  (C7 : Int32 × Int32 → Prop) : Int32 × Int32 → Prop := fun s9 => match s9 with
  | (x2, x3) => ((x3 ≤ x2 → K x2) ∧
 (¬ (x3 ≤ x2) → (¬ (2 : Int32) = 0) ∧ ∀ v_2 : Int32, v_2 = ((x2 + x3) / (2 : Int32)) → isO f a0 5 ∧ wp_X2_at a0 v_2 f (fun r_4 => ((x1 < r_4 → C7 (x2, v_2)) ∧
 (¬ (x1 < r_4) → ∀ v_6 : Int32, v_6 = (v_2 + (1 : Int32)) → C7 (v_6, x3))))))
def wp_X2_countNotAbove (a0 : Nat) (x1 : Int32) (f : FT) (K : Int32 → Prop) : Prop :=
  gI f a0 5 1 fun v_8 => ∃ n_10, loopW (wp_X2_countNotAbove_7 a0 x1 f K) n_10 ((0 : Int32), v_8)
set_option maxHeartbeats 4000000 in
set_option maxRecDepth 100000 in
theorem cc_X2_countNotAbove (l : Launch) (G : GG) {f : FT} {sz : Nat} {a0 : Nat} {x1 : Int32} {K : Int32 → Prop} (h : wp_X2_countNotAbove a0 x1 f K) : Met l yX2_countNotAbove wsX2_countNotAbove ({ frames := 1, cells := 0, slots := 0, locals := 21 } : Room) (FP G [.ref a0, .int x1] f sz) (va_Qi (fun r f9 => K r ∧ f9 = f : Int32 → FT → Prop) (FB G (fA f sz)) (fA f sz)) 0 0 (fA f sz) := by
  refine Met.ofW (cc := cX2_countNotAbove) (maxL := 5) (ret := (some .int)) (by decide) rfl ?_
  intro p e s m args below meth c s₁ B hml hv
  obtain ⟨rfl, hsz, hF, hK, hZ⟩ := hv
  have hx := B.exec
  have hb := B.bytes
  have hr := B.returns
  have hts := atoms_spec (ws := wsX2_countNotAbove) B.pre
  have hown : s.vm.findClass RX2 = some m.cls := findClass_of_methodNamed B.named
  have hlocks := B.notSynchronized
  subst hsz
  have hF := hF.self (sz := s.heap.size)
  generalize hAe : fA f s.heap.size = A at hF hZ ⊢
  have hA : ∀ q : Nat, s.heap.size ≤ q → A q := fun q h => by rw [← hAe]; exact Or.inr h
  have hS : va_S A s.heap s.heap [] := va_S.rf
  have hin_X2 : ∀ w ∈ wsX20, w ∈ wsX2_countNotAbove := by decide +kernel
  have L7 : ∀  (j9 : Nat) (x2 : Int32) (x3 : Int32) (H : Heap) (locs : List Loc) (ls : Array Slot), loopW (wp_X2_countNotAbove_7 a0 x1 f K ) j9 (x2, x3) → Fw G A f H → va_S A s.heap H locs → lv_has ls 5 [(0, .ref a0), (1, .int x1), (2, .int x2), (3, .int x3)] → W p l e ({ frames := 1, cells := 0, slots := 0, locals := 21 } : Room) s m ([.ref a0, .int x1] : List Value).toArray below meth c H locs 0 0 (MQ below (va_Qi (fun r f9 => K r ∧ f9 = f : Int32 → FT → Prop) (FB G A) A) ([.ref a0, .int x1] : List Value).toArray s 0 0 A) (F0 m 7 ls []) := by
    intro  j9
    induction j9 with
    | zero => intro x2 x3 H locs ls h; exact h.elim
    | succ j9 ih7 =>
      intro x2 x3 H locs ls h hF hS hl
      have h : wp_X2_countNotAbove_7 a0 x1 f K  (loopW (wp_X2_countNotAbove_7 a0 x1 f K ) j9) (x2, x3) := h
      generalize loopW (wp_X2_countNotAbove_7 a0 x1 f K ) j9 = C7 at ih7 h
      unfold wp_X2_countNotAbove_7 at h
      refine lv_iload_n hx hb dX2_countNotAbove_7 rfl (lv_at hl 2 rfl) ?_
      refine lv_iload_n hx hb dX2_countNotAbove_8 rfl (lv_at hl 3 rfl) ?_
      obtain ⟨h1, h2⟩ := h
      refine lv_icmp_ge (tgt := 43) hx hb dX2_countNotAbove_9 (by decide) (fun c_1 => ?_) (fun c_1 => ?_)
      · have h := h1 c_1
        refine lv_iload_n hx hb dX2_countNotAbove_43 rfl (lv_at hl 2 rfl) ?_
        exact W.iret (v := x2) hx hb hr (fun t ht hW => ⟨⟨x2, f, rfl, ⟨h, rfl⟩, by rw [ht]; exact hF, FK.moved hW.alike hK⟩, hS.F ht⟩) hS.2.2 dX2_countNotAbove_44
      · have h := h2 c_1
        refine lv_iload_n hx hb dX2_countNotAbove_12 rfl (lv_at hl 2 rfl) ?_
        refine lv_iload_n hx hb dX2_countNotAbove_13 rfl (lv_at hl 3 rfl) ?_
        refine lv_iadd hx hb dX2_countNotAbove_14 ?_
        refine lv_iconst (v := (2 : Int32)) hx hb dX2_countNotAbove_15 (by decide) ?_
        obtain ⟨hne, h⟩ := h
        refine lv_idiv hx hb dX2_countNotAbove_16 hne ?_
        refine lv_topi (fun v_2 e_3 => ?_)
        have h := h v_2 e_3
        refine lv_istore (lv' := [(4, .int v_2), (0, .ref a0), (1, .int x1), (2, .int x2), (3, .int x3)]) hx hb dX2_countNotAbove_17 hl (by decide) rfl (fun ls hl => ?_)
        refine lv_aload_n hx hb dX2_countNotAbove_19 rfl (lv_at hl 1 rfl) ?_
        refine lv_iload hx hb dX2_countNotAbove_20 (lv_at hl 0 rfl) ?_
        obtain ⟨⟨fs_r_4, hrc_r_4⟩, h⟩ := h
        refine fw_cV_i_p (As := [.int v_2]) (rest := []) ⟨hx, hb, hml, hown, hts⟩ (cc_X2_at l G h) (⟨callB_of 1 hts ggX2_countNotAbove_X2_at rfl rfl rfl (hts (.initialized RX2) (by decide +kernel)) (hts (.methodLink RX2 33 yX2_at) (by decide +kernel)) (by decide +kernel) ⟨Nat.le_of_ble_eq_true rfl, Nat.le_of_ble_eq_true rfl⟩, hts (.instanceMethod yX2_at) (by decide +kernel), hts (.selects RX2 yX2_at yX2_at) (by decide +kernel)⟩) rfl hrc_r_4 hK hZ hF hS hA rfl hl.1 rfl (Nat.le_of_ble_eq_true rfl) dX2_countNotAbove_22 ⟨Nat.zero_le _, Nat.zero_le _⟩ (fun r_4 H locs h hF hS => ?_)
        refine lv_iload_n hx hb dX2_countNotAbove_25 rfl (lv_at hl 2 rfl) ?_
        obtain ⟨h1, h2⟩ := h
        refine lv_icmp_gt (tgt := 37) hx hb dX2_countNotAbove_26 (by decide) (fun c_5 => ?_) (fun c_5 => ?_)
        · have h := h1 c_5
          refine lv_iload hx hb dX2_countNotAbove_37 (lv_at hl 0 rfl) ?_
          refine lv_istore_n (lv' := [(3, .int v_2), (4, .int v_2), (0, .ref a0), (1, .int x1), (2, .int x2)]) hx hb dX2_countNotAbove_39 rfl hl (by decide) rfl (fun ls hl => ?_)
          refine lv_goto (tgt := 7) hx hb dX2_countNotAbove_40 (by decide) ?_
          exact ih7 x2 v_2 _ _ _ h hF hS (lv_sub hl [2, 3, 4, 0] rfl)
        · have h := h2 c_5
          refine lv_iload hx hb dX2_countNotAbove_29 (lv_at hl 0 rfl) ?_
          refine lv_iconst (v := (1 : Int32)) hx hb dX2_countNotAbove_31 (by decide) ?_
          refine lv_iadd hx hb dX2_countNotAbove_32 ?_
          refine lv_topi (fun v_6 e_7 => ?_)
          have h := h v_6 e_7
          refine lv_istore_n (lv' := [(2, .int v_6), (4, .int v_2), (0, .ref a0), (1, .int x1), (3, .int x3)]) hx hb dX2_countNotAbove_33 rfl hl (by decide) rfl (fun ls hl => ?_)
          refine lv_goto (tgt := 40) hx hb dX2_countNotAbove_34 (by decide) ?_
          refine lv_goto (tgt := 7) hx hb dX2_countNotAbove_40 (by decide) ?_
          exact ih7 v_6 x3 _ _ _ h hF hS (lv_sub hl [2, 3, 0, 4] rfl)
  have hl := lv_entry ([.ref a0, .int x1]) (n := 5) (Nat.le_of_ble_eq_true rfl)
  rw [lg_entry_eq]
  generalize (lg_sl ([.ref a0, .int x1]) ++ List.replicate (5 - (lg_sl ([.ref a0, .int x1])).length) Slot.unset).toArray = ls at hl ⊢
  have hl : lv_has ls 5 [(0, .ref a0), (1, .int x1)] := hl
  unfold wp_X2_countNotAbove at h
  refine lv_iconst (v := (0 : Int32)) hx hb dX2_countNotAbove_0 (by decide) ?_
  refine lv_istore_n (lv' := [(2, .int (0 : Int32)), (0, .ref a0), (1, .int x1)]) hx hb dX2_countNotAbove_1 rfl hl (by decide) rfl (fun ls hl => ?_)
  refine lv_aload_n hx hb dX2_countNotAbove_2 rfl (lv_at hl 1 rfl) ?_
  obtain ⟨fs_9, v_8, he_fs_9, hv_fs_9, h⟩ := h
  refine fw_get (C := RX2) (T := TX2) (N := 2) hx hb hts hin_X2 hown hK hF he_fs_9 rfl 1 (by decide) (hts (.fieldLink RX2 13 "FrontCodedIndex$IntRow" "count" "I") (by decide +kernel)) (fun _ h9 => h9) hv_fs_9 dX2_countNotAbove_3 ?_
  refine lv_istore_n (lv' := [(3, .int v_8), (2, .int (0 : Int32)), (0, .ref a0), (1, .int x1)]) hx hb dX2_countNotAbove_6 rfl hl (by decide) rfl (fun ls hl => ?_)
  obtain ⟨n_10, h⟩ := h
  exact L7 n_10 (0 : Int32) v_8 _ _ _ h hF hS (lv_sub hl [2, 3, 1, 0] rfl)
theorem dX2_replace_0 : decode cX2_replace 0 = .ok (.iload_n 1, 1) := by decide +kernel
theorem dX2_replace_1 : decode cX2_replace 1 = .ok (.ifCond .lt 27, 3) := by decide +kernel
theorem dX2_replace_4 : decode cX2_replace 4 = .ok (.iload_n 1, 1) := by decide +kernel
theorem dX2_replace_5 : decode cX2_replace 5 = .ok (.aload_n 0, 1) := by decide +kernel
theorem dX2_replace_6 : decode cX2_replace 6 = .ok (.getfield 13, 3) := by decide +kernel
theorem dX2_replace_9 : decode cX2_replace 9 = .ok (.if_icmp .ge 19, 3) := by decide +kernel
theorem dX2_replace_12 : decode cX2_replace 12 = .ok (.iload_n 1, 1) := by decide +kernel
theorem dX2_replace_13 : decode cX2_replace 13 = .ok (.aload_n 0, 1) := by decide +kernel
theorem dX2_replace_14 : decode cX2_replace 14 = .ok (.getfield 9, 3) := by decide +kernel
theorem dX2_replace_17 : decode cX2_replace 17 = .ok (.arraylength, 1) := by decide +kernel
theorem dX2_replace_18 : decode cX2_replace 18 = .ok (.if_icmp .ge 10, 3) := by decide +kernel
theorem dX2_replace_21 : decode cX2_replace 21 = .ok (.aload_n 0, 1) := by decide +kernel
theorem dX2_replace_22 : decode cX2_replace 22 = .ok (.getfield 9, 3) := by decide +kernel
theorem dX2_replace_25 : decode cX2_replace 25 = .ok (.iload_n 1, 1) := by decide +kernel
theorem dX2_replace_26 : decode cX2_replace 26 = .ok (.iload_n 2, 1) := by decide +kernel
theorem dX2_replace_27 : decode cX2_replace 27 = .ok (.iastore, 1) := by decide +kernel
theorem dX2_replace_28 : decode cX2_replace 28 = .ok (.return_, 1) := by decide +kernel
def wp_X2_replace (a0 : Nat) (x1 : Int32) (x2 : Int32) (f : FT) (K : FT → Prop) : Prop :=
  ((x1 < (0 : Int32) → K f) ∧
 (¬ (x1 < (0 : Int32)) → gI f a0 5 1 fun v_2 => ((v_2 ≤ x1 → K f) ∧
 (¬ (v_2 ≤ x1) → gA f a0 5 0 fun a_5 => aL f a_5 fun v_7 => ((v_7 ≤ x1 → K f) ∧
 (¬ (v_7 ≤ x1) → gA f a0 5 0 fun a_10 => sI f a_10 x1 x2 fun f_13 => K f_13))))))
set_option maxHeartbeats 4000000 in
set_option maxRecDepth 100000 in
theorem cc_X2_replace (l : Launch) (G : GG) {f : FT} {sz : Nat} {a0 : Nat} {x1 : Int32} {x2 : Int32} {K : FT → Prop} (h : wp_X2_replace a0 x1 x2 f K) : Met l yX2_replace wsX2_replace ({ frames := 0, cells := 0, slots := 0, locals := 0 } : Room) (FP G [.ref a0, .int x1, .int x2] f sz) (va_Qv (fun f9 => K f9 : FT → Prop) (FB G (fA f sz)) (fA f sz)) 0 0 (fA f sz) := by
  refine Met.ofW (cc := cX2_replace) (maxL := 3) (ret := none) (by decide) rfl ?_
  intro p e s m args below meth c s₁ B hml hv
  obtain ⟨rfl, hsz, hF, hK, hZ⟩ := hv
  have hx := B.exec
  have hb := B.bytes
  have hr := B.returns
  have hts := atoms_spec (ws := wsX2_replace) B.pre
  have hown : s.vm.findClass RX2 = some m.cls := findClass_of_methodNamed B.named
  have hlocks := B.notSynchronized
  subst hsz
  have hF := hF.self (sz := s.heap.size)
  generalize hAe : fA f s.heap.size = A at hF hZ ⊢
  have hA : ∀ q : Nat, s.heap.size ≤ q → A q := fun q h => by rw [← hAe]; exact Or.inr h
  have hS : va_S A s.heap s.heap [] := va_S.rf
  have hin_X2 : ∀ w ∈ wsX20, w ∈ wsX2_replace := by decide +kernel
  have hl := lv_entry ([.ref a0, .int x1, .int x2]) (n := 3) (Nat.le_of_ble_eq_true rfl)
  rw [lg_entry_eq]
  generalize (lg_sl ([.ref a0, .int x1, .int x2]) ++ List.replicate (3 - (lg_sl ([.ref a0, .int x1, .int x2])).length) Slot.unset).toArray = ls at hl ⊢
  have hl : lv_has ls 3 [(0, .ref a0), (1, .int x1), (2, .int x2)] := hl
  unfold wp_X2_replace at h
  refine lv_iload_n hx hb dX2_replace_0 rfl (lv_at hl 1 rfl) ?_
  obtain ⟨h1, h2⟩ := h
  refine lv_if_lt (tgt := 28) hx hb dX2_replace_1 (by decide) (fun c_1 => ?_) (fun c_1 => ?_)
  · have h := h1 c_1
    exact W.vret hx hb hr (fun t ht hW => ⟨⟨f, rfl, h, by rw [ht]; exact hF, FK.moved hW.alike hK⟩, hS.F ht⟩) hS.2.2 dX2_replace_28
  · have h := h2 c_1
    refine lv_iload_n hx hb dX2_replace_4 rfl (lv_at hl 1 rfl) ?_
    refine lv_aload_n hx hb dX2_replace_5 rfl (lv_at hl 0 rfl) ?_
    obtain ⟨fs_3, v_2, he_fs_3, hv_fs_3, h⟩ := h
    refine fw_get (C := RX2) (T := TX2) (N := 2) hx hb hts hin_X2 hown hK hF he_fs_3 rfl 1 (by decide) (hts (.fieldLink RX2 13 "FrontCodedIndex$IntRow" "count" "I") (by decide +kernel)) (fun _ h9 => h9) hv_fs_3 dX2_replace_6 ?_
    obtain ⟨h1, h2⟩ := h
    refine lv_icmp_ge (tgt := 28) hx hb dX2_replace_9 (by decide) (fun c_4 => ?_) (fun c_4 => ?_)
    · have h := h1 c_4
      exact W.vret hx hb hr (fun t ht hW => ⟨⟨f, rfl, h, by rw [ht]; exact hF, FK.moved hW.alike hK⟩, hS.F ht⟩) hS.2.2 dX2_replace_28
    · have h := h2 c_4
      refine lv_iload_n hx hb dX2_replace_12 rfl (lv_at hl 1 rfl) ?_
      refine lv_aload_n hx hb dX2_replace_13 rfl (lv_at hl 0 rfl) ?_
      obtain ⟨fs_6, a_5, he_fs_6, hv_fs_6, h⟩ := h
      refine fw_get (C := RX2) (T := TX2) (N := 2) hx hb hts hin_X2 hown hK hF he_fs_6 rfl 0 (by decide) (hts (.fieldLink RX2 9 "FrontCodedIndex$IntRow" "cells" "[I") (by decide +kernel)) (fun _ h9 => h9) hv_fs_6 dX2_replace_14 ?_
      obtain ⟨t_q_8, q_8, he_q_8, ht_q_8, h⟩ := h
      refine fw_alen hx hb hK hF he_q_8 ht_q_8 dX2_replace_17 ?_
      refine lv_topi (fun v_7 e_v_7 => ?_)
      have h := h v_7 e_v_7
      obtain ⟨h1, h2⟩ := h
      refine lv_icmp_ge (tgt := 28) hx hb dX2_replace_18 (by decide) (fun c_9 => ?_) (fun c_9 => ?_)
      · have h := h1 c_9
        exact W.vret hx hb hr (fun t ht hW => ⟨⟨f, rfl, h, by rw [ht]; exact hF, FK.moved hW.alike hK⟩, hS.F ht⟩) hS.2.2 dX2_replace_28
      · have h := h2 c_9
        refine lv_aload_n hx hb dX2_replace_21 rfl (lv_at hl 0 rfl) ?_
        obtain ⟨fs_11, a_10, he_fs_11, hv_fs_11, h⟩ := h
        refine fw_get (C := RX2) (T := TX2) (N := 2) hx hb hts hin_X2 hown hK hF he_fs_11 rfl 0 (by decide) (hts (.fieldLink RX2 9 "FrontCodedIndex$IntRow" "cells" "[I") (by decide +kernel)) (fun _ h9 => h9) hv_fs_11 dX2_replace_22 ?_
        refine lv_iload_n hx hb dX2_replace_25 rfl (lv_at hl 1 rfl) ?_
        refine lv_iload_n hx hb dX2_replace_26 rfl (lv_at hl 2 rfl) ?_
        obtain ⟨n_q_12, q_12, he_q_12, hi_q_12, h⟩ := h
        refine fw_iast hx hb hK hF hS he_q_12 hi_q_12 dX2_replace_27 (fun H locs hF hS => ?_)
        obtain ⟨f_13, hf_f_13⟩ : ∃ z, z = fup f a_10 (.inl (1, n_q_12, .inl (upd q_12 (x1).toNatClampNeg x2))) := ⟨_, rfl⟩
        rw [← hf_f_13] at hF; have h := h f_13 hf_f_13
        exact W.vret hx hb hr (fun t ht hW => ⟨⟨f_13, rfl, h, by rw [ht]; exact hF, FK.moved hW.alike hK⟩, hS.F ht⟩) hS.2.2 dX2_replace_28
theorem dJ7_copyOf_9075b_0 : decode cJ7_copyOf_9075b 0 = .ok (.iload_n 1, 1) := by decide +kernel
theorem dJ7_copyOf_9075b_1 : decode cJ7_copyOf_9075b 1 = .ok (.aload_n 0, 1) := by decide +kernel
theorem dJ7_copyOf_9075b_2 : decode cJ7_copyOf_9075b 2 = .ok (.arraylength, 1) := by decide +kernel
theorem dJ7_copyOf_9075b_3 : decode cJ7_copyOf_9075b 3 = .ok (.if_icmp .ne 11, 3) := by decide +kernel
theorem dJ7_copyOf_9075b_6 : decode cJ7_copyOf_9075b 6 = .ok (.aload_n 0, 1) := by decide +kernel
theorem dJ7_copyOf_9075b_7 : decode cJ7_copyOf_9075b 7 = .ok (.invokevirtual 310, 3) := by decide +kernel
theorem dJ7_copyOf_9075b_10 : decode cJ7_copyOf_9075b 10 = .ok (.checkcast 311, 3) := by decide +kernel
theorem dJ7_copyOf_9075b_13 : decode cJ7_copyOf_9075b 13 = .ok (.areturn, 1) := by decide +kernel
theorem dJ7_copyOf_9075b_14 : decode cJ7_copyOf_9075b 14 = .ok (.iload_n 1, 1) := by decide +kernel
theorem dJ7_copyOf_9075b_15 : decode cJ7_copyOf_9075b 15 = .ok (.newarray .byte, 2) := by decide +kernel
theorem dJ7_copyOf_9075b_17 : decode cJ7_copyOf_9075b 17 = .ok (.astore_n 2, 1) := by decide +kernel
theorem dJ7_copyOf_9075b_18 : decode cJ7_copyOf_9075b 18 = .ok (.aload_n 0, 1) := by decide +kernel
theorem dJ7_copyOf_9075b_19 : decode cJ7_copyOf_9075b 19 = .ok (.iconst 0, 1) := by decide +kernel
theorem dJ7_copyOf_9075b_20 : decode cJ7_copyOf_9075b 20 = .ok (.aload_n 2, 1) := by decide +kernel
theorem dJ7_copyOf_9075b_21 : decode cJ7_copyOf_9075b 21 = .ok (.iconst 0, 1) := by decide +kernel
theorem dJ7_copyOf_9075b_22 : decode cJ7_copyOf_9075b 22 = .ok (.aload_n 0, 1) := by decide +kernel
theorem dJ7_copyOf_9075b_23 : decode cJ7_copyOf_9075b 23 = .ok (.arraylength, 1) := by decide +kernel
theorem dJ7_copyOf_9075b_24 : decode cJ7_copyOf_9075b 24 = .ok (.iload_n 1, 1) := by decide +kernel
theorem dJ7_copyOf_9075b_25 : decode cJ7_copyOf_9075b 25 = .ok (.invokestatic 304, 3) := by decide +kernel
theorem dJ7_copyOf_9075b_28 : decode cJ7_copyOf_9075b 28 = .ok (.invokestatic 150, 3) := by decide +kernel
theorem dJ7_copyOf_9075b_31 : decode cJ7_copyOf_9075b 31 = .ok (.aload_n 2, 1) := by decide +kernel
theorem dJ7_copyOf_9075b_32 : decode cJ7_copyOf_9075b 32 = .ok (.areturn, 1) := by decide +kernel
def wp_J7_copyOf_9075b (a0 : Nat) (x1 : Int32) (f : FT) (mc ms : Nat) (K : Nat → FT → Prop) : Prop :=
  aL f a0 fun v_1 => ((¬ x1 = v_1 → nA f 0 x1 mc ms fun n_6 q_4 f_5 => aL f_5 a0 fun v_9 => cP f_5 0 .byte a0 (0 : Int32) q_4 (0 : Int32) (jmin v_9 x1) fun f_12 => K q_4 f_12) ∧
 (x1 = v_1 → cL f 0 .byte a0 mc ms fun n_15 q_13 f_14 => isA f_14 q_13 0 ∧ K q_13 f_14))
set_option maxHeartbeats 4000000 in
set_option maxRecDepth 100000 in
theorem cc_J7_copyOf_9075b (l : Launch) (G : GG) {f : FT} {sz : Nat} {a0 : Nat} {x1 : Int32} {mc ms : Nat} {K : Nat → FT → Prop} (h : wp_J7_copyOf_9075b a0 x1 f mc ms K) : Met l yJ7_copyOf_9075b wsJ7_copyOf_9075b ({ frames := 1, cells := mc, slots := ms, locals := 40 } : Room) (FP G [.ref a0, .int x1] f sz) (va_Qq (fun r f9 => ∃ q, r = some q ∧ K q f9 : Option Nat → FT → Prop) (FB G (fA f sz)) (fA f sz)) mc ms (fA f sz) := by
  refine Met.ofW (cc := cJ7_copyOf_9075b) (maxL := 3) (ret := (some (.array .byte))) (by decide) rfl ?_
  intro p e s m args below meth c s₁ B hml hv
  obtain ⟨rfl, hsz, hF, hK, hZ⟩ := hv
  have hx := B.exec
  have hb := B.bytes
  have hr := B.returns
  have hts := atoms_spec (ws := wsJ7_copyOf_9075b) B.pre
  have hown : s.vm.findClass RJ7 = some m.cls := findClass_of_methodNamed B.named
  have hlocks := B.notSynchronized
  subst hsz
  have hF := hF.self (sz := s.heap.size)
  generalize hAe : fA f s.heap.size = A at hF hZ ⊢
  have hA : ∀ q : Nat, s.heap.size ≤ q → A q := fun q h => by rw [← hAe]; exact Or.inr h
  have hS : va_S A s.heap s.heap [] := va_S.rf
  have hbc : 0 + mc ≤ mc := by omega
  have hbs : 0 + ms ≤ ms := by omega
  have hl := lv_entry ([.ref a0, .int x1]) (n := 3) (Nat.le_of_ble_eq_true rfl)
  rw [lg_entry_eq]
  generalize (lg_sl ([.ref a0, .int x1]) ++ List.replicate (3 - (lg_sl ([.ref a0, .int x1])).length) Slot.unset).toArray = ls at hl ⊢
  have hl : lv_has ls 3 [(0, .ref a0), (1, .int x1)] := hl
  unfold wp_J7_copyOf_9075b at h
  refine lv_iload_n hx hb dJ7_copyOf_9075b_0 rfl (lv_at hl 1 rfl) ?_
  refine lv_aload_n hx hb dJ7_copyOf_9075b_1 rfl (lv_at hl 0 rfl) ?_
  obtain ⟨t_q_2, q_2, he_q_2, ht_q_2, h⟩ := h
  refine fw_alen hx hb hK hF he_q_2 ht_q_2 dJ7_copyOf_9075b_2 ?_
  refine lv_topi (fun v_1 e_v_1 => ?_)
  have h := h v_1 e_v_1
  obtain ⟨h1, h2⟩ := h
  refine lv_icmp_ne (tgt := 14) hx hb dJ7_copyOf_9075b_3 (by decide) (fun c_3 => ?_) (fun c_3 => ?_)
  · have h := h1 c_3
    refine lv_iload_n hx hb dJ7_copyOf_9075b_14 rfl (lv_at hl 1 rfl) ?_
    obtain ⟨hb0, n_6, hN, hb1, hb2, hb3, h⟩ := h
    refine fw_newa (a0 := (n_6, .inl fun _ => 0)) hx hb (hts (.arrayClass .byte) (by decide +kernel)) (ty := .byte) rfl 0 rfl va_RA_byte hK hF hS hA (fun cA => rfl) hb0 hN (by show _ * 1 ≤ _; omega) (by show _ ≤ mc; omega) (by show _ ≤ ms; omega) dJ7_copyOf_9075b_15 (fun q_4 H hn_q_4 hF hS => ?_)
    obtain ⟨f_5, hf_f_5⟩ : ∃ z, z = fup f q_4 (.inl (0, (n_6, .inl fun _ => 0))) := ⟨_, rfl⟩
    rw [← hf_f_5] at hF; have h := h q_4 hn_q_4 f_5 hf_f_5
    have hbc : (0 + 1) + (mc - 1) ≤ mc := by omega
    have hbs : (0 + n_6) + (ms - n_6) ≤ ms := by omega
    generalize (0 + 1) = cs_7 at hbc ⊢; generalize (0 + n_6) = sl_8 at hbs ⊢
    refine lv_astore_n (lv' := [(2, .ref q_4), (0, .ref a0), (1, .int x1)]) hx hb dJ7_copyOf_9075b_17 rfl hl (by decide) rfl (fun ls hl => ?_)
    refine lv_aload_n hx hb dJ7_copyOf_9075b_18 rfl (lv_at hl 1 rfl) ?_
    refine lv_iconst (v := (0 : Int32)) hx hb dJ7_copyOf_9075b_19 (by decide) ?_
    refine lv_aload_n hx hb dJ7_copyOf_9075b_20 rfl (lv_at hl 0 rfl) ?_
    refine lv_iconst (v := (0 : Int32)) hx hb dJ7_copyOf_9075b_21 (by decide) ?_
    refine lv_aload_n hx hb dJ7_copyOf_9075b_22 rfl (lv_at hl 1 rfl) ?_
    obtain ⟨t_q_10, q_10, he_q_10, ht_q_10, h⟩ := h
    refine fw_alen hx hb hK hF he_q_10 ht_q_10 dJ7_copyOf_9075b_23 ?_
    refine lv_topi (fun v_9 e_v_9 => ?_)
    have h := h v_9 e_v_9
    refine lv_iload_n hx hb dJ7_copyOf_9075b_24 rfl (lv_at hl 2 rfl) ?_
    refine va_mmin hx hb (hml.trans hl.1.symm) hown (hts (.methodLink RJ7 304 Lib.Math.min.name) (by decide +kernel)) (hts (.static Lib.Math.min.name) (by decide +kernel)) (hts (.initialized "java/lang/Math") (by decide +kernel)) (hts (.code Lib.Math.min.name Lib.Math.min.code 2 (some .int)) (by decide +kernel)) (by decide) (by decide) (by show _ ≤ mc; omega) (by show _ ≤ ms; omega) dJ7_copyOf_9075b_25 ?_
    obtain ⟨n0_q_11, n1_q_11, g0_q_11, g1_q_11, he0_q_11, he1_q_11, hc1_q_11, hc2_q_11, hc3_q_11, hc4_q_11, hc5_q_11, hel_q_11, h⟩ := h
    refine fw_copyP hx hb (hml.trans hl.1.symm) hown (hts (.methodLink RJ7 150 arraycopyName) (by decide +kernel)) (hts (.native arraycopyName) (by decide +kernel)) (hts (.static arraycopyName) (by decide +kernel)) (hts (.initialized "java/lang/System") (by decide +kernel)) hK hF hS 0 rfl rfl he0_q_11 he1_q_11 hc1_q_11 hc2_q_11 hc3_q_11 hc4_q_11 hc5_q_11 hel_q_11 (by decide) (by decide) dJ7_copyOf_9075b_28 (fun H locs hF hS => ?_)
    obtain ⟨f_12, hf_f_12⟩ : ∃ z, z = fup f_5 q_4 (.inl (0, n1_q_11, .inl (va_cpy g0_q_11 g1_q_11 ((0 : Int32)).toNatClampNeg ((0 : Int32)).toNatClampNeg ((jmin v_9 x1)).toNatClampNeg))) := ⟨_, rfl⟩
    rw [← hf_f_12] at hF; have h := h f_12 hf_f_12
    refine lv_aload_n hx hb dJ7_copyOf_9075b_31 rfl (lv_at hl 0 rfl) ?_
    refine W.widen (k := mc) (n := ms) (by omega) (by omega) ?_
    exact W.aret (v := .ref q_4) hx hb hr (Or.inr ⟨_, rfl⟩) (Or.inr ⟨q_4, rfl⟩) (fun t ht hW => ⟨⟨some q_4, f_12, rfl, ⟨_, rfl, h⟩, by rw [ht]; exact hF, FK.moved hW.alike hK⟩, hS.F ht⟩) hS.2.2 dJ7_copyOf_9075b_32
  · have h := h2 c_3
    refine lv_aload_n hx hb dJ7_copyOf_9075b_6 rfl (lv_at hl 0 rfl) ?_
    obtain ⟨n_15, x_16, he_x_16, hft_x_16, hb1, hb2, h⟩ := h
    refine fw_clone hx hb (hml.trans hl.1.symm) hown (hts (.methodLink RJ7 310 ⟨"[B", "clone", "()Ljava/lang/Object;"⟩) (by decide +kernel)) (hts (.sameMethod "[B" "java/lang/Object" "clone" "()Ljava/lang/Object;") (by decide +kernel)) (hts (.native ⟨"java/lang/Object", "clone", "()Ljava/lang/Object;"⟩) (by decide +kernel)) (hts (.instanceMethod ⟨"java/lang/Object", "clone", "()Ljava/lang/Object;"⟩) (by decide +kernel)) (hts (.selects "[B" ⟨"[B", "clone", "()Ljava/lang/Object;"⟩ ⟨"java/lang/Object", "clone", "()Ljava/lang/Object;"⟩) (by decide +kernel)) hK.2.2.2.2.1 hK hF hS hA 0 he_x_16 rfl hK.nm0 (fits_arr hft_x_16) (by decide) (by decide) (by show _ ≤ mc; omega) (by show _ + n_15 ≤ ms; omega) dJ7_copyOf_9075b_7 (fun q_13 H hn_q_13 hF hS => ?_)
    obtain ⟨f_14, hf_f_14⟩ : ∃ z, z = fup f q_13 (.inl (0, n_15, .inl x_16)) := ⟨_, rfl⟩
    rw [← hf_f_14] at hF; have h := h q_13 hn_q_13 f_14 hf_f_14
    have hbc : (0 + 1) + (mc - 1) ≤ mc := by omega
    have hbs : (0 + n_15) + (ms - n_15) ≤ ms := by omega
    generalize (0 + 1) = cs_17 at hbc ⊢; generalize (0 + n_15) = sl_18 at hbs ⊢
    obtain ⟨⟨q_19, he_q_19⟩, h⟩ := h
    refine fw_castA hx hb hown (hts (.classLink RJ7 311 "[B") (by decide +kernel)) hF he_q_19 hK.nm0 dJ7_copyOf_9075b_10 ?_
    refine W.widen (k := mc) (n := ms) (by omega) (by omega) ?_
    exact W.aret (v := .ref q_13) hx hb hr (Or.inr ⟨_, rfl⟩) (Or.inr ⟨q_13, rfl⟩) (fun t ht hW => ⟨⟨some q_13, f_14, rfl, ⟨_, rfl, h⟩, by rw [ht]; exact hF, FK.moved hW.alike hK⟩, hS.F ht⟩) hS.2.2 dJ7_copyOf_9075b_13
theorem dX3_init_0 : decode cX3_init 0 = .ok (.aload_n 0, 1) := by decide +kernel
theorem dX3_init_1 : decode cX3_init 1 = .ok (.invokespecial 1, 3) := by decide +kernel
theorem dX3_init_4 : decode cX3_init 4 = .ok (.aload_n 0, 1) := by decide +kernel
theorem dX3_init_5 : decode cX3_init 5 = .ok (.aload_n 1, 1) := by decide +kernel
theorem dX3_init_6 : decode cX3_init 6 = .ok (.putfield 7, 3) := by decide +kernel
theorem dX3_init_9 : decode cX3_init 9 = .ok (.return_, 1) := by decide +kernel
def wp_X3_init (a0 : Nat) (a1 : Nat) (f : FT) (K : FT → Prop) : Prop :=
  pV f a0 6 0 (.ref a1) fun f_2 => K f_2
set_option maxHeartbeats 4000000 in
set_option maxRecDepth 100000 in
theorem cc_X3_init (l : Launch) (G : GG) {f : FT} {sz : Nat} {a0 : Nat} {a1 : Nat} {K : FT → Prop} (h : wp_X3_init a0 a1 f K) : Met l yX3_init wsX3_init ({ frames := 1, cells := 0, slots := 0, locals := 20 } : Room) (FP G [.ref a0, .ref a1] f sz) (va_Qv (fun f9 => K f9 : FT → Prop) (FB G (fA f sz)) (fA f sz)) 0 0 (fA f sz) := by
  refine Met.ofW (cc := cX3_init) (maxL := 2) (ret := none) (by decide) rfl ?_
  intro p e s m args below meth c s₁ B hml hv
  obtain ⟨rfl, hsz, hF, hK, hZ⟩ := hv
  have hx := B.exec
  have hb := B.bytes
  have hr := B.returns
  have hts := atoms_spec (ws := wsX3_init) B.pre
  have hown : s.vm.findClass RX3 = some m.cls := findClass_of_methodNamed B.named
  have hlocks := B.notSynchronized
  have hin : meth.name = "<init>" := (name_of_methodNamed B.named B.method).1
  subst hsz
  have hF := hF.self (sz := s.heap.size)
  generalize hAe : fA f s.heap.size = A at hF hZ ⊢
  have hA : ∀ q : Nat, s.heap.size ≤ q → A q := fun q h => by rw [← hAe]; exact Or.inr h
  have hS : va_S A s.heap s.heap [] := va_S.rf
  have hin_X3 : ∀ w ∈ wsX30, w ∈ wsX3_init := by decide +kernel
  have hl := lv_entry ([.ref a0, .ref a1]) (n := 2) (Nat.le_of_ble_eq_true rfl)
  rw [lg_entry_eq]
  generalize (lg_sl ([.ref a0, .ref a1]) ++ List.replicate (2 - (lg_sl ([.ref a0, .ref a1])).length) Slot.unset).toArray = ls at hl ⊢
  have hl : lv_has ls 2 [(0, .ref a0), (1, .ref a1)] := hl
  unfold wp_X3_init at h
  refine lv_aload_n hx hb dX3_init_0 rfl (lv_at hl 0 rfl) ?_
  refine W.objInit hx hb hown (hts (.methodLink RX3 1 objectInit) (by decide +kernel)) (hts (.instanceMethod objectInit) (by decide +kernel)) (hts (.code objectInit ⟨#[0xb1]⟩ 1 none) (by decide +kernel)) rfl (by rw [hml]; exact hl.1) rfl dX3_init_1 (Nat.le_of_ble_eq_true rfl) (Nat.le_of_ble_eq_true rfl) ?_
  refine W.eq (g2 := F0 m 4 ls []) rfl ?_
  refine lv_aload_n hx hb dX3_init_4 rfl (lv_at hl 0 rfl) ?_
  refine lv_aload_n hx hb dX3_init_5 rfl (lv_at hl 1 rfl) ?_
  obtain ⟨fs_1, he_fs_1, hl_fs_1, h⟩ := h
  refine fw_putF (v := .ref a1) (ty := (.array .byte)) (C := RX3) (T := TX3) (N := 1) hx hb hts hin_X3 tyX3 (tyX3_ok) nmX3 hown hK hF hS he_fs_1 rfl 0 (by decide) (hts (.fieldLink RX3 7 "FrontCodedIndex$Key" "bytes" "[B") (by decide +kernel)) (fun _ h9 => h9) rfl hin rfl (by decide +kernel) rfl rfl hl_fs_1 dX3_init_6 (fun H locs hF hS => ?_)
  obtain ⟨f_2, hf_f_2⟩ : ∃ z, z = fup f a0 (.inr (6, fs_1.set 0 (.ref a1))) := ⟨_, rfl⟩
  rw [← hf_f_2] at hF; have h := h f_2 hf_f_2
  exact W.vret hx hb hr (fun t ht hW => ⟨⟨f_2, rfl, h, by rw [ht]; exact hF, FK.moved hW.alike hK⟩, hS.F ht⟩) hS.2.2 dX3_init_9
theorem dX3_prefix_0 : decode cX3_prefix 0 = .ok (.new 8, 3) := by decide +kernel
theorem dX3_prefix_3 : decode cX3_prefix 3 = .ok (.dup, 1) := by decide +kernel
theorem dX3_prefix_4 : decode cX3_prefix 4 = .ok (.aload_n 0, 1) := by decide +kernel
theorem dX3_prefix_5 : decode cX3_prefix 5 = .ok (.getfield 7, 3) := by decide +kernel
theorem dX3_prefix_8 : decode cX3_prefix 8 = .ok (.iconst 0, 1) := by decide +kernel
theorem dX3_prefix_9 : decode cX3_prefix 9 = .ok (.iload_n 1, 1) := by decide +kernel
theorem dX3_prefix_10 : decode cX3_prefix 10 = .ok (.aload_n 0, 1) := by decide +kernel
theorem dX3_prefix_11 : decode cX3_prefix 11 = .ok (.getfield 7, 3) := by decide +kernel
theorem dX3_prefix_14 : decode cX3_prefix 14 = .ok (.arraylength, 1) := by decide +kernel
theorem dX3_prefix_15 : decode cX3_prefix 15 = .ok (.invokestatic 21, 3) := by decide +kernel
theorem dX3_prefix_18 : decode cX3_prefix 18 = .ok (.invokestatic 27, 3) := by decide +kernel
theorem dX3_prefix_21 : decode cX3_prefix 21 = .ok (.invokestatic 30, 3) := by decide +kernel
theorem dX3_prefix_24 : decode cX3_prefix 24 = .ok (.invokespecial 36, 3) := by decide +kernel
theorem dX3_prefix_27 : decode cX3_prefix 27 = .ok (.areturn, 1) := by decide +kernel
set_option maxRecDepth 20000 in
theorem ggX3_prefix_J7_copyOf_9075b : GoodIn wsX3_prefix wsJ7_copyOf_9075b := goodIn_r _ [15, 16, 17, 18, 19, 20, 21, 22, 23, 6, 7, 8, 24, 25, 26, 27] (by decide +kernel) (by decide +kernel)
set_option maxRecDepth 20000 in
theorem ggX3_prefix_X3_init : GoodIn wsX3_prefix wsX3_init := goodIn_r _ [30, 31, 32, 33, 4, 34] (by decide +kernel) (by decide +kernel)
def wp_X3_prefix (a0 : Nat) (x1 : Int32) (f : FT) (mc ms : Nat) (K : Nat → FT → Prop) : Prop :=
  nO f 6 [.null] 1 mc ms fun q_1 f_2 => gA f_2 a0 6 0 fun a_5 => gA f_2 a0 6 0 fun a_7 => aL f_2 a_7 fun v_9 => ∃ ga_13 gb_14 : Nat, ga_13 ≤ (mc - 1) ∧ gb_14 ≤ (ms - 1) ∧ wp_J7_copyOf_9075b a_5 (jmax (0 : Int32) (jmin x1 v_9)) f_2 ga_13 gb_14 (fun a_11 f_12 => wp_X3_init q_1 a_11 f_12 (fun f_18 => K q_1 f_18))
set_option maxHeartbeats 4000000 in
set_option maxRecDepth 100000 in
theorem cc_X3_prefix (l : Launch) (G : GG) {f : FT} {sz : Nat} {a0 : Nat} {x1 : Int32} {mc ms : Nat} {K : Nat → FT → Prop} (h : wp_X3_prefix a0 x1 f mc ms K) : Met l yX3_prefix wsX3_prefix ({ frames := 2, cells := mc, slots := ms, locals := 62 } : Room) (FP G [.ref a0, .int x1] f sz) (va_Qq (fun r f9 => ∃ q, r = some q ∧ K q f9 : Option Nat → FT → Prop) (FB G (fA f sz)) (fA f sz)) mc ms (fA f sz) := by
  refine Met.ofW (cc := cX3_prefix) (maxL := 2) (ret := (some (.object "FrontCodedIndex$Key"))) (by decide) rfl ?_
  intro p e s m args below meth c s₁ B hml hv
  obtain ⟨rfl, hsz, hF, hK, hZ⟩ := hv
  have hx := B.exec
  have hb := B.bytes
  have hr := B.returns
  have hts := atoms_spec (ws := wsX3_prefix) B.pre
  have hown : s.vm.findClass RX3 = some m.cls := findClass_of_methodNamed B.named
  have hlocks := B.notSynchronized
  subst hsz
  have hF := hF.self (sz := s.heap.size)
  generalize hAe : fA f s.heap.size = A at hF hZ ⊢
  have hA : ∀ q : Nat, s.heap.size ≤ q → A q := fun q h => by rw [← hAe]; exact Or.inr h
  have hS : va_S A s.heap s.heap [] := va_S.rf
  have hin_X3 : ∀ w ∈ wsX30, w ∈ wsX3_prefix := by decide +kernel
  have hbc : 0 + mc ≤ mc := by omega
  have hbs : 0 + ms ≤ ms := by omega
  have hl := lv_entry ([.ref a0, .int x1]) (n := 2) (Nat.le_of_ble_eq_true rfl)
  rw [lg_entry_eq]
  generalize (lg_sl ([.ref a0, .int x1]) ++ List.replicate (2 - (lg_sl ([.ref a0, .int x1])).length) Slot.unset).toArray = ls at hl ⊢
  have hl : lv_has ls 2 [(0, .ref a0), (1, .int x1)] := hl
  unfold wp_X3_prefix at h
  obtain ⟨hb1, hb2, h⟩ := h
  refine fw_new (ci := 6) (fs := [.null]) (C := RX3) (T := TX3) (N := 1) hx hb hts hin_X3 tyX3 tyX3_ok hown (hts (.classLink RX3 8 RX3) (by decide +kernel)) (hts (.instantiable RX3 1) (by decide +kernel)) (hts (.initialized RX3) (by decide +kernel)) hK hF hS hA rfl (fun j hj => by rcases (show j = 0 by omega) with rfl <;> rfl) (by show _ ≤ mc; omega) (by show _ ≤ ms; omega) dX3_prefix_0 (fun q_1 H hn_q_1 hF hS => ?_)
  obtain ⟨f_2, hf_f_2⟩ : ∃ z, z = fup f q_1 (.inr (6, [.null])) := ⟨_, rfl⟩
  rw [← hf_f_2] at hF; have h := h q_1 hn_q_1 f_2 hf_f_2
  have hbc : (0 + 1) + (mc - 1) ≤ mc := by omega
  have hbs : (0 + 1) + (ms - 1) ≤ ms := by omega
  generalize (0 + 1) = cs_3 at hbc ⊢; generalize (0 + 1) = sl_4 at hbs ⊢
  refine lv_dup hx hb dX3_prefix_3 rfl ?_
  refine lv_aload_n hx hb dX3_prefix_4 rfl (lv_at hl 0 rfl) ?_
  obtain ⟨fs_6, a_5, he_fs_6, hv_fs_6, h⟩ := h
  refine fw_get (C := RX3) (T := TX3) (N := 1) hx hb hts hin_X3 hown hK hF he_fs_6 rfl 0 (by decide) (hts (.fieldLink RX3 7 "FrontCodedIndex$Key" "bytes" "[B") (by decide +kernel)) (fun _ h9 => h9) hv_fs_6 dX3_prefix_5 ?_
  refine lv_iconst (v := (0 : Int32)) hx hb dX3_prefix_8 (by decide) ?_
  refine lv_iload_n hx hb dX3_prefix_9 rfl (lv_at hl 1 rfl) ?_
  refine lv_aload_n hx hb dX3_prefix_10 rfl (lv_at hl 0 rfl) ?_
  obtain ⟨fs_8, a_7, he_fs_8, hv_fs_8, h⟩ := h
  refine fw_get (C := RX3) (T := TX3) (N := 1) hx hb hts hin_X3 hown hK hF he_fs_8 rfl 0 (by decide) (hts (.fieldLink RX3 7 "FrontCodedIndex$Key" "bytes" "[B") (by decide +kernel)) (fun _ h9 => h9) hv_fs_8 dX3_prefix_11 ?_
  obtain ⟨t_q_10, q_10, he_q_10, ht_q_10, h⟩ := h
  refine fw_alen hx hb hK hF he_q_10 ht_q_10 dX3_prefix_14 ?_
  refine lv_topi (fun v_9 e_v_9 => ?_)
  have h := h v_9 e_v_9
  refine va_mmin hx hb (hml.trans hl.1.symm) hown (hts (.methodLink RX3 21 Lib.Math.min.name) (by decide +kernel)) (hts (.static Lib.Math.min.name) (by decide +kernel)) (hts (.initialized "java/lang/Math") (by decide +kernel)) (hts (.code Lib.Math.min.name Lib.Math.min.code 2 (some .int)) (by decide +kernel)) (by decide) (by decide) (by show _ ≤ mc; omega) (by show _ ≤ ms; omega) dX3_prefix_15 ?_
  refine va_mmax hx hb (hml.trans hl.1.symm) hown (hts (.methodLink RX3 27 Lib.Math.max.name) (by decide +kernel)) (hts (.static Lib.Math.max.name) (by decide +kernel)) (hts (.initialized "java/lang/Math") (by decide +kernel)) (hts (.code Lib.Math.max.name Lib.Math.max.code 2 (some .int)) (by decide +kernel)) (by decide) (by decide) (by show _ ≤ mc; omega) (by show _ ≤ ms; omega) dX3_prefix_18 ?_
  obtain ⟨ga_13, gb_14, hga_ga_13, hgb_ga_13, h⟩ := h
  refine fw_cS_q_w (As := [.ref a_5, .int (jmax (0 : Int32) (jmin x1 v_9))]) (rest := [.ref q_1, .ref q_1]) ⟨hx, hb, hml, hown, hts⟩ (cc_J7_copyOf_9075b l G h) (⟨callB_of 2 hts ggX3_prefix_J7_copyOf_9075b rfl rfl rfl (hts (.initialized RJ7) (by decide +kernel)) (hts (.methodLink RX3 30 yJ7_copyOf_9075b) (by decide +kernel)) (by decide +kernel) ⟨Nat.le_of_ble_eq_true rfl, Nat.le_of_ble_eq_true rfl⟩, hts (.static yJ7_copyOf_9075b) (by decide +kernel)⟩) hK hZ hF hS hA rfl hl.1 rfl (Nat.le_of_ble_eq_true rfl) dX3_prefix_21 ⟨by show _ ≤ mc; omega, by show _ ≤ ms; omega⟩ (fun a_11 f_12 H locs h hF hS => ?_)
  have hbc : (cs_3 + ga_13) + ((mc - 1) - ga_13) ≤ mc := by omega
  have hbs : (sl_4 + gb_14) + ((ms - 1) - gb_14) ≤ ms := by omega
  generalize (cs_3 + ga_13) = cs_15 at hbc ⊢; generalize (sl_4 + gb_14) = sl_16 at hbs ⊢
  refine fw_cI_v (As := [.ref a_11]) (rest := [.ref q_1]) ⟨hx, hb, hml, hown, hts⟩ (cc_X3_init l G h) (⟨callB_of 1 hts ggX3_prefix_X3_init rfl rfl rfl (hts (.initialized RX3) (by decide +kernel)) (hts (.methodLink RX3 36 yX3_init) (by decide +kernel)) (by decide +kernel) ⟨Nat.le_of_ble_eq_true rfl, Nat.le_of_ble_eq_true rfl⟩, rfl, hts (.instanceMethod yX3_init) (by decide +kernel)⟩) hK hZ hF hS hA rfl hl.1 rfl (Nat.le_of_ble_eq_true rfl) dX3_prefix_24 ⟨by show _ ≤ mc; omega, by show _ ≤ ms; omega⟩ (fun f_18 H locs h hF hS => ?_)
  simp only [Nat.add_zero]
  refine W.widen (k := mc) (n := ms) (by omega) (by omega) ?_
  exact W.aret (v := .ref q_1) hx hb hr (Or.inl ⟨_, rfl⟩) (Or.inr ⟨q_1, rfl⟩) (fun t ht hW => ⟨⟨some q_1, f_18, rfl, ⟨_, rfl, h⟩, by rw [ht]; exact hF, FK.moved hW.alike hK⟩, hS.F ht⟩) hS.2.2 dX3_prefix_27
theorem dJx4a65c_set_bcc79_0 : decode cJx4a65c_set_bcc79 0 = .ok (.iload_n 1, 1) := by decide +kernel
theorem dJx4a65c_set_bcc79_1 : decode cJx4a65c_set_bcc79 1 = .ok (.aload_n 0, 1) := by decide +kernel
theorem dJx4a65c_set_bcc79_2 : decode cJx4a65c_set_bcc79 2 = .ok (.getfield 48, 3) := by decide +kernel
theorem dJx4a65c_set_bcc79_5 : decode cJx4a65c_set_bcc79 5 = .ok (.invokestatic 118, 3) := by decide +kernel
theorem dJx4a65c_set_bcc79_8 : decode cJx4a65c_set_bcc79 8 = .ok (.pop, 1) := by decide +kernel
theorem dJx4a65c_set_bcc79_9 : decode cJx4a65c_set_bcc79 9 = .ok (.aload_n 0, 1) := by decide +kernel
theorem dJx4a65c_set_bcc79_10 : decode cJx4a65c_set_bcc79 10 = .ok (.iload_n 1, 1) := by decide +kernel
theorem dJx4a65c_set_bcc79_11 : decode cJx4a65c_set_bcc79 11 = .ok (.invokevirtual 123, 3) := by decide +kernel
theorem dJx4a65c_set_bcc79_14 : decode cJx4a65c_set_bcc79 14 = .ok (.astore_n 3, 1) := by decide +kernel
theorem dJx4a65c_set_bcc79_15 : decode cJx4a65c_set_bcc79 15 = .ok (.aload_n 0, 1) := by decide +kernel
theorem dJx4a65c_set_bcc79_16 : decode cJx4a65c_set_bcc79 16 = .ok (.getfield 9, 3) := by decide +kernel
theorem dJx4a65c_set_bcc79_19 : decode cJx4a65c_set_bcc79 19 = .ok (.iload_n 1, 1) := by decide +kernel
theorem dJx4a65c_set_bcc79_20 : decode cJx4a65c_set_bcc79 20 = .ok (.aload_n 2, 1) := by decide +kernel
theorem dJx4a65c_set_bcc79_21 : decode cJx4a65c_set_bcc79 21 = .ok (.aastore, 1) := by decide +kernel
theorem dJx4a65c_set_bcc79_22 : decode cJx4a65c_set_bcc79 22 = .ok (.aload_n 3, 1) := by decide +kernel
theorem dJx4a65c_set_bcc79_23 : decode cJx4a65c_set_bcc79 23 = .ok (.areturn, 1) := by decide +kernel
set_option maxRecDepth 20000 in
theorem ggJx4a65c_set_bcc79_J15_checkIndex_7cf53 : GoodIn wsJx4a65c_set_bcc79 wsJ15_checkIndex_7cf53 := goodIn_r _ [6, 7, 8, 9, 10] (by decide +kernel) (by decide +kernel)
set_option maxRecDepth 20000 in
theorem ggJx4a65c_set_bcc79_Jx4a65c_elementData_915e3 : GoodIn wsJx4a65c_set_bcc79 wsJx4a65c_elementData_915e3 := goodIn_r _ [15, 2, 16, 17, 18] (by decide +kernel) (by decide +kernel)
def wp_Jx4a65c_set_bcc79 (a0 : Nat) (x1 : Int32) (a2 : Nat) (f : FT) (K : Nat → FT → Prop) : Prop :=
  gI f a0 2 2 fun v_1 => wp_J15_checkIndex_7cf53 x1 v_1 f (fun r_3 => isO f a0 2 ∧ wp_Jx4a65c_elementData_915e3 a0 x1 f (fun a_4 => gA f a0 2 1 fun a_5 => sA f a_5 x1 a2 fun f_8 => K a_4 f_8))
set_option maxHeartbeats 4000000 in
set_option maxRecDepth 100000 in
theorem cc_Jx4a65c_set_bcc79 (l : Launch) (G : GG) {f : FT} {sz : Nat} {a0 : Nat} {x1 : Int32} {a2 : Nat} {K : Nat → FT → Prop} (h : wp_Jx4a65c_set_bcc79 a0 x1 a2 f K) : Met l yJx4a65c_set_bcc79 wsJx4a65c_set_bcc79 ({ frames := 2, cells := 0, slots := 0, locals := 43 } : Room) (FP G [.ref a0, .int x1, .ref a2] f sz) (va_Qq (fun r f9 => ∃ q, r = some q ∧ K q f9 : Option Nat → FT → Prop) (FB G (fA f sz)) (fA f sz)) 0 0 (fA f sz) := by
  refine Met.ofW (cc := cJx4a65c_set_bcc79) (maxL := 4) (ret := (some (.object "java/lang/Object"))) (by decide) rfl ?_
  intro p e s m args below meth c s₁ B hml hv
  obtain ⟨rfl, hsz, hF, hK, hZ⟩ := hv
  have hx := B.exec
  have hb := B.bytes
  have hr := B.returns
  have hts := atoms_spec (ws := wsJx4a65c_set_bcc79) B.pre
  have hown : s.vm.findClass RJx4a65c = some m.cls := findClass_of_methodNamed B.named
  have hlocks := B.notSynchronized
  subst hsz
  have hF := hF.self (sz := s.heap.size)
  generalize hAe : fA f s.heap.size = A at hF hZ ⊢
  have hA : ∀ q : Nat, s.heap.size ≤ q → A q := fun q h => by rw [← hAe]; exact Or.inr h
  have hS : va_S A s.heap s.heap [] := va_S.rf
  have hin_Jx4a65c : ∀ w ∈ wsJx4a65c0, w ∈ wsJx4a65c_set_bcc79 := by decide +kernel
  have hl := lv_entry ([.ref a0, .int x1, .ref a2]) (n := 4) (Nat.le_of_ble_eq_true rfl)
  rw [lg_entry_eq]
  generalize (lg_sl ([.ref a0, .int x1, .ref a2]) ++ List.replicate (4 - (lg_sl ([.ref a0, .int x1, .ref a2])).length) Slot.unset).toArray = ls at hl ⊢
  have hl : lv_has ls 4 [(0, .ref a0), (1, .int x1), (2, .ref a2)] := hl
  unfold wp_Jx4a65c_set_bcc79 at h
  refine lv_iload_n hx hb dJx4a65c_set_bcc79_0 rfl (lv_at hl 1 rfl) ?_
  refine lv_aload_n hx hb dJx4a65c_set_bcc79_1 rfl (lv_at hl 0 rfl) ?_
  obtain ⟨fs_2, v_1, he_fs_2, hv_fs_2, h⟩ := h
  refine fw_get (C := RJx4a65c) (T := TJx4a65c) (N := 3) hx hb hts hin_Jx4a65c hown hK hF he_fs_2 rfl 2 (by decide) (hts (.fieldLink RJx4a65c 48 "java/util/ArrayList" "size" "I") (by decide +kernel)) (fun _ h9 => h9) hv_fs_2 dJx4a65c_set_bcc79_2 ?_
  refine fw_cS_i_p (As := [.int x1, .int v_1]) (rest := []) ⟨hx, hb, hml, hown, hts⟩ (cc_J15_checkIndex_7cf53 l G h) (⟨callB_of 2 hts ggJx4a65c_set_bcc79_J15_checkIndex_7cf53 rfl rfl rfl (hts (.initialized RJ15) (by decide +kernel)) (hts (.methodLink RJx4a65c 118 yJ15_checkIndex_7cf53) (by decide +kernel)) (by decide +kernel) ⟨Nat.le_of_ble_eq_true rfl, Nat.le_of_ble_eq_true rfl⟩, hts (.static yJ15_checkIndex_7cf53) (by decide +kernel)⟩) hK hZ hF hS hA rfl hl.1 rfl (Nat.le_of_ble_eq_true rfl) dJx4a65c_set_bcc79_5 ⟨Nat.zero_le _, Nat.zero_le _⟩ (fun r_3 H locs h hF hS => ?_)
  refine lv_pop hx hb dJx4a65c_set_bcc79_8 rfl ?_
  refine lv_aload_n hx hb dJx4a65c_set_bcc79_9 rfl (lv_at hl 0 rfl) ?_
  refine lv_iload_n hx hb dJx4a65c_set_bcc79_10 rfl (lv_at hl 1 rfl) ?_
  obtain ⟨⟨fs_a_4, hrc_a_4⟩, h⟩ := h
  refine fw_cV_q_p (As := [.int x1]) (rest := []) ⟨hx, hb, hml, hown, hts⟩ (cc_Jx4a65c_elementData_915e3 l G h) (⟨callB_of 1 hts ggJx4a65c_set_bcc79_Jx4a65c_elementData_915e3 rfl rfl rfl (hts (.initialized RJx4a65c) (by decide +kernel)) (hts (.methodLink RJx4a65c 123 yJx4a65c_elementData_915e3) (by decide +kernel)) (by decide +kernel) ⟨Nat.le_of_ble_eq_true rfl, Nat.le_of_ble_eq_true rfl⟩, hts (.instanceMethod yJx4a65c_elementData_915e3) (by decide +kernel), hts (.selects RJx4a65c yJx4a65c_elementData_915e3 yJx4a65c_elementData_915e3) (by decide +kernel)⟩) rfl hrc_a_4 hK hZ hF hS hA rfl hl.1 rfl (Nat.le_of_ble_eq_true rfl) dJx4a65c_set_bcc79_11 ⟨Nat.zero_le _, Nat.zero_le _⟩ (fun a_4 H locs h hF hS => ?_)
  refine lv_astore_n (lv' := [(3, .ref a_4), (0, .ref a0), (1, .int x1), (2, .ref a2)]) hx hb dJx4a65c_set_bcc79_14 rfl hl (by decide) rfl (fun ls hl => ?_)
  refine lv_aload_n hx hb dJx4a65c_set_bcc79_15 rfl (lv_at hl 1 rfl) ?_
  obtain ⟨fs_6, a_5, he_fs_6, hv_fs_6, h⟩ := h
  refine fw_get (C := RJx4a65c) (T := TJx4a65c) (N := 3) hx hb hts hin_Jx4a65c hown hK hF he_fs_6 rfl 1 (by decide) (hts (.fieldLink RJx4a65c 9 "java/util/ArrayList" "elementData" "[Ljava/lang/Object;") (by decide +kernel)) (fun _ h9 => h9) hv_fs_6 dJx4a65c_set_bcc79_16 ?_
  refine lv_iload_n hx hb dJx4a65c_set_bcc79_19 rfl (lv_at hl 2 rfl) ?_
  refine lv_aload_n hx hb dJx4a65c_set_bcc79_20 rfl (lv_at hl 3 rfl) ?_
  obtain ⟨n_q_7, q_7, ci_q_7, vs_q_7, he_q_7, hi_q_7, hv_q_7, hci_q_7, h⟩ := h
  refine fw_aast hx hb hK hF hS he_q_7 hv_q_7 hci_q_7 hi_q_7 dJx4a65c_set_bcc79_21 (fun H locs hF hS => ?_)
  obtain ⟨f_8, hf_f_8⟩ : ∃ z, z = fup f a_5 (.inl (2, n_q_7, .inr (.inr (.inr (.inr (va_up q_7 (x1).toNatClampNeg (some a2))))))) := ⟨_, rfl⟩
  rw [← hf_f_8] at hF; have h := h f_8 hf_f_8
  refine lv_aload_n hx hb dJx4a65c_set_bcc79_22 rfl (lv_at hl 0 rfl) ?_
  exact W.aret (v := .ref a_4) hx hb hr (Or.inl ⟨_, rfl⟩) (Or.inr ⟨a_4, rfl⟩) (fun t ht hW => ⟨⟨some a_4, f_8, rfl, ⟨_, rfl, h⟩, by rw [ht]; exact hF, FK.moved hW.alike hK⟩, hS.F ht⟩) hS.2.2 dJx4a65c_set_bcc79_23
theorem dX4_replace_0 : decode cX4_replace 0 = .ok (.iload_n 1, 1) := by decide +kernel
theorem dX4_replace_1 : decode cX4_replace 1 = .ok (.ifCond .lt 24, 3) := by decide +kernel
theorem dX4_replace_4 : decode cX4_replace 4 = .ok (.iload_n 1, 1) := by decide +kernel
theorem dX4_replace_5 : decode cX4_replace 5 = .ok (.aload_n 0, 1) := by decide +kernel
theorem dX4_replace_6 : decode cX4_replace 6 = .ok (.getfield 10, 3) := by decide +kernel
theorem dX4_replace_9 : decode cX4_replace 9 = .ok (.invokevirtual 25, 3) := by decide +kernel
theorem dX4_replace_12 : decode cX4_replace 12 = .ok (.if_icmp .ge 13, 3) := by decide +kernel
theorem dX4_replace_15 : decode cX4_replace 15 = .ok (.aload_n 0, 1) := by decide +kernel
theorem dX4_replace_16 : decode cX4_replace 16 = .ok (.getfield 10, 3) := by decide +kernel
theorem dX4_replace_19 : decode cX4_replace 19 = .ok (.iload_n 1, 1) := by decide +kernel
theorem dX4_replace_20 : decode cX4_replace 20 = .ok (.aload_n 2, 1) := by decide +kernel
theorem dX4_replace_21 : decode cX4_replace 21 = .ok (.invokevirtual 40, 3) := by decide +kernel
theorem dX4_replace_24 : decode cX4_replace 24 = .ok (.pop, 1) := by decide +kernel
theorem dX4_replace_25 : decode cX4_replace 25 = .ok (.return_, 1) := by decide +kernel
set_option maxRecDepth 20000 in
theorem ggX4_replace_Jx4a65c_set_bcc79 : GoodIn wsX4_replace wsJx4a65c_set_bcc79 := goodIn_r _ [11, 7, 12, 13, 14, 15, 16, 17, 18, 19, 20, 21, 22, 23, 5, 24, 27, 28, 29] (by decide +kernel) (by decide +kernel)
set_option maxRecDepth 20000 in
theorem ggX4_replace_Jx4a65c_size_8abf5 : GoodIn wsX4_replace wsJx4a65c_size_8abf5 := goodIn_r _ [6, 7, 27, 28, 29] (by decide +kernel) (by decide +kernel)
def wp_X4_replace (a0 : Nat) (x1 : Int32) (a2 : Nat) (f : FT) (K : FT → Prop) : Prop :=
  ((x1 < (0 : Int32) → K f) ∧
 (¬ (x1 < (0 : Int32)) → gA f a0 7 0 fun a_2 => isO f a_2 2 ∧ wp_Jx4a65c_size_8abf5 a_2 f (fun r_4 => ((r_4 ≤ x1 → K f) ∧
 (¬ (r_4 ≤ x1) → gA f a0 7 0 fun a_6 => isO f a_6 2 ∧ wp_Jx4a65c_set_bcc79 a_6 x1 a2 f (fun a_8 f_9 => K f_9))))))
set_option maxHeartbeats 4000000 in
set_option maxRecDepth 100000 in
theorem cc_X4_replace (l : Launch) (G : GG) {f : FT} {sz : Nat} {a0 : Nat} {x1 : Int32} {a2 : Nat} {K : FT → Prop} (h : wp_X4_replace a0 x1 a2 f K) : Met l yX4_replace wsX4_replace ({ frames := 3, cells := 0, slots := 0, locals := 66 } : Room) (FP G [.ref a0, .int x1, .ref a2] f sz) (va_Qv (fun f9 => K f9 : FT → Prop) (FB G (fA f sz)) (fA f sz)) 0 0 (fA f sz) := by
  refine Met.ofW (cc := cX4_replace) (maxL := 3) (ret := none) (by decide) rfl ?_
  intro p e s m args below meth c s₁ B hml hv
  obtain ⟨rfl, hsz, hF, hK, hZ⟩ := hv
  have hx := B.exec
  have hb := B.bytes
  have hr := B.returns
  have hts := atoms_spec (ws := wsX4_replace) B.pre
  have hown : s.vm.findClass RX4 = some m.cls := findClass_of_methodNamed B.named
  have hlocks := B.notSynchronized
  subst hsz
  have hF := hF.self (sz := s.heap.size)
  generalize hAe : fA f s.heap.size = A at hF hZ ⊢
  have hA : ∀ q : Nat, s.heap.size ≤ q → A q := fun q h => by rw [← hAe]; exact Or.inr h
  have hS : va_S A s.heap s.heap [] := va_S.rf
  have hin_X4 : ∀ w ∈ wsX40, w ∈ wsX4_replace := by decide +kernel
  have hl := lv_entry ([.ref a0, .int x1, .ref a2]) (n := 3) (Nat.le_of_ble_eq_true rfl)
  rw [lg_entry_eq]
  generalize (lg_sl ([.ref a0, .int x1, .ref a2]) ++ List.replicate (3 - (lg_sl ([.ref a0, .int x1, .ref a2])).length) Slot.unset).toArray = ls at hl ⊢
  have hl : lv_has ls 3 [(0, .ref a0), (1, .int x1), (2, .ref a2)] := hl
  unfold wp_X4_replace at h
  refine lv_iload_n hx hb dX4_replace_0 rfl (lv_at hl 1 rfl) ?_
  obtain ⟨h1, h2⟩ := h
  refine lv_if_lt (tgt := 25) hx hb dX4_replace_1 (by decide) (fun c_1 => ?_) (fun c_1 => ?_)
  · have h := h1 c_1
    exact W.vret hx hb hr (fun t ht hW => ⟨⟨f, rfl, h, by rw [ht]; exact hF, FK.moved hW.alike hK⟩, hS.F ht⟩) hS.2.2 dX4_replace_25
  · have h := h2 c_1
    refine lv_iload_n hx hb dX4_replace_4 rfl (lv_at hl 1 rfl) ?_
    refine lv_aload_n hx hb dX4_replace_5 rfl (lv_at hl 0 rfl) ?_
    obtain ⟨fs_3, a_2, he_fs_3, hv_fs_3, h⟩ := h
    refine fw_get (C := RX4) (T := TX4) (N := 2) hx hb hts hin_X4 hown hK hF he_fs_3 rfl 0 (by decide) (hts (.fieldLink RX4 10 "FrontCodedIndex$KeyRow" "cells" "Ljava/util/ArrayList;") (by decide +kernel)) (fun _ h9 => h9) hv_fs_3 dX4_replace_6 ?_
    obtain ⟨⟨fs_r_4, hrc_r_4⟩, h⟩ := h
    refine fw_cV_i_p (As := []) (rest := [.int x1]) ⟨hx, hb, hml, hown, hts⟩ (cc_Jx4a65c_size_8abf5 l G h) (⟨callB_of 0 hts ggX4_replace_Jx4a65c_size_8abf5 rfl rfl rfl (hts (.initialized RJx4a65c) (by decide +kernel)) (hts (.methodLink RX4 25 yJx4a65c_size_8abf5) (by decide +kernel)) (by decide +kernel) ⟨Nat.le_of_ble_eq_true rfl, Nat.le_of_ble_eq_true rfl⟩, hts (.instanceMethod yJx4a65c_size_8abf5) (by decide +kernel), hts (.selects RJx4a65c yJx4a65c_size_8abf5 yJx4a65c_size_8abf5) (by decide +kernel)⟩) rfl hrc_r_4 hK hZ hF hS hA rfl hl.1 rfl (Nat.le_of_ble_eq_true rfl) dX4_replace_9 ⟨Nat.zero_le _, Nat.zero_le _⟩ (fun r_4 H locs h hF hS => ?_)
    obtain ⟨h1, h2⟩ := h
    refine lv_icmp_ge (tgt := 25) hx hb dX4_replace_12 (by decide) (fun c_5 => ?_) (fun c_5 => ?_)
    · have h := h1 c_5
      exact W.vret hx hb hr (fun t ht hW => ⟨⟨f, rfl, h, by rw [ht]; exact hF, FK.moved hW.alike hK⟩, hS.F ht⟩) hS.2.2 dX4_replace_25
    · have h := h2 c_5
      refine lv_aload_n hx hb dX4_replace_15 rfl (lv_at hl 0 rfl) ?_
      obtain ⟨fs_7, a_6, he_fs_7, hv_fs_7, h⟩ := h
      refine fw_get (C := RX4) (T := TX4) (N := 2) hx hb hts hin_X4 hown hK hF he_fs_7 rfl 0 (by decide) (hts (.fieldLink RX4 10 "FrontCodedIndex$KeyRow" "cells" "Ljava/util/ArrayList;") (by decide +kernel)) (fun _ h9 => h9) hv_fs_7 dX4_replace_16 ?_
      refine lv_iload_n hx hb dX4_replace_19 rfl (lv_at hl 1 rfl) ?_
      refine lv_aload_n hx hb dX4_replace_20 rfl (lv_at hl 2 rfl) ?_
      obtain ⟨⟨fs_a_8, hrc_a_8⟩, h⟩ := h
      refine fw_cV_q_w (As := [.int x1, .ref a2]) (rest := []) ⟨hx, hb, hml, hown, hts⟩ (cc_Jx4a65c_set_bcc79 l G h) (⟨callB_of 2 hts ggX4_replace_Jx4a65c_set_bcc79 rfl rfl rfl (hts (.initialized RJx4a65c) (by decide +kernel)) (hts (.methodLink RX4 40 yJx4a65c_set_bcc79) (by decide +kernel)) (by decide +kernel) ⟨Nat.le_of_ble_eq_true rfl, Nat.le_of_ble_eq_true rfl⟩, hts (.instanceMethod yJx4a65c_set_bcc79) (by decide +kernel), hts (.selects RJx4a65c yJx4a65c_set_bcc79 yJx4a65c_set_bcc79) (by decide +kernel)⟩) rfl hrc_a_8 hK hZ hF hS hA rfl hl.1 rfl (Nat.le_of_ble_eq_true rfl) dX4_replace_21 ⟨Nat.zero_le _, Nat.zero_le _⟩ (fun a_8 f_9 H locs h hF hS => ?_)
      refine lv_pop hx hb dX4_replace_24 rfl ?_
      exact W.vret hx hb hr (fun t ht hW => ⟨⟨f_9, rfl, h, by rw [ht]; exact hF, FK.moved hW.alike hK⟩, hS.F ht⟩) hS.2.2 dX4_replace_25
theorem dX1_init_0 : decode cX1_init 0 = .ok (.aload_n 0, 1) := by decide +kernel
theorem dX1_init_1 : decode cX1_init 1 = .ok (.invokespecial 1, 3) := by decide +kernel
theorem dX1_init_4 : decode cX1_init 4 = .ok (.aload_n 0, 1) := by decide +kernel
theorem dX1_init_5 : decode cX1_init 5 = .ok (.iconst 0, 1) := by decide +kernel
theorem dX1_init_6 : decode cX1_init 6 = .ok (.putfield 7, 3) := by decide +kernel
theorem dX1_init_9 : decode cX1_init 9 = .ok (.aload_n 0, 1) := by decide +kernel
theorem dX1_init_10 : decode cX1_init 10 = .ok (.iconst 0, 1) := by decide +kernel
theorem dX1_init_11 : decode cX1_init 11 = .ok (.putfield 13, 3) := by decide +kernel
theorem dX1_init_14 : decode cX1_init 14 = .ok (.aload_n 0, 1) := by decide +kernel
theorem dX1_init_15 : decode cX1_init 15 = .ok (.aload_n 1, 1) := by decide +kernel
theorem dX1_init_16 : decode cX1_init 16 = .ok (.putfield 16, 3) := by decide +kernel
theorem dX1_init_19 : decode cX1_init 19 = .ok (.aload_n 0, 1) := by decide +kernel
theorem dX1_init_20 : decode cX1_init 20 = .ok (.aload_n 2, 1) := by decide +kernel
theorem dX1_init_21 : decode cX1_init 21 = .ok (.putfield 20, 3) := by decide +kernel
theorem dX1_init_24 : decode cX1_init 24 = .ok (.return_, 1) := by decide +kernel
def wp_X1_init (a0 : Nat) (a1 : Nat) (a2 : Nat) (f : FT) (K : FT → Prop) : Prop :=
  pV f a0 4 2 (.int (0 : Int32)) fun f_2 => pV f_2 a0 4 3 (.int (0 : Int32)) fun f_4 => pV f_4 a0 4 0 (.ref a1) fun f_6 => pV f_6 a0 4 1 (.ref a2) fun f_8 => K f_8
set_option maxHeartbeats 4000000 in
set_option maxRecDepth 100000 in
theorem cc_X1_init (l : Launch) (G : GG) {f : FT} {sz : Nat} {a0 : Nat} {a1 : Nat} {a2 : Nat} {K : FT → Prop} (h : wp_X1_init a0 a1 a2 f K) : Met l yX1_init wsX1_init ({ frames := 1, cells := 0, slots := 0, locals := 20 } : Room) (FP G [.ref a0, .ref a1, .ref a2] f sz) (va_Qv (fun f9 => K f9 : FT → Prop) (FB G (fA f sz)) (fA f sz)) 0 0 (fA f sz) := by
  refine Met.ofW (cc := cX1_init) (maxL := 3) (ret := none) (by decide) rfl ?_
  intro p e s m args below meth c s₁ B hml hv
  obtain ⟨rfl, hsz, hF, hK, hZ⟩ := hv
  have hx := B.exec
  have hb := B.bytes
  have hr := B.returns
  have hts := atoms_spec (ws := wsX1_init) B.pre
  have hown : s.vm.findClass RX1 = some m.cls := findClass_of_methodNamed B.named
  have hlocks := B.notSynchronized
  have hin : meth.name = "<init>" := (name_of_methodNamed B.named B.method).1
  subst hsz
  have hF := hF.self (sz := s.heap.size)
  generalize hAe : fA f s.heap.size = A at hF hZ ⊢
  have hA : ∀ q : Nat, s.heap.size ≤ q → A q := fun q h => by rw [← hAe]; exact Or.inr h
  have hS : va_S A s.heap s.heap [] := va_S.rf
  have hin_X1 : ∀ w ∈ wsX10, w ∈ wsX1_init := by decide +kernel
  have hl := lv_entry ([.ref a0, .ref a1, .ref a2]) (n := 3) (Nat.le_of_ble_eq_true rfl)
  rw [lg_entry_eq]
  generalize (lg_sl ([.ref a0, .ref a1, .ref a2]) ++ List.replicate (3 - (lg_sl ([.ref a0, .ref a1, .ref a2])).length) Slot.unset).toArray = ls at hl ⊢
  have hl : lv_has ls 3 [(0, .ref a0), (1, .ref a1), (2, .ref a2)] := hl
  unfold wp_X1_init at h
  refine lv_aload_n hx hb dX1_init_0 rfl (lv_at hl 0 rfl) ?_
  refine W.objInit hx hb hown (hts (.methodLink RX1 1 objectInit) (by decide +kernel)) (hts (.instanceMethod objectInit) (by decide +kernel)) (hts (.code objectInit ⟨#[0xb1]⟩ 1 none) (by decide +kernel)) rfl (by rw [hml]; exact hl.1) rfl dX1_init_1 (Nat.le_of_ble_eq_true rfl) (Nat.le_of_ble_eq_true rfl) ?_
  refine W.eq (g2 := F0 m 4 ls []) rfl ?_
  refine lv_aload_n hx hb dX1_init_4 rfl (lv_at hl 0 rfl) ?_
  refine lv_iconst (v := (0 : Int32)) hx hb dX1_init_5 (by decide) ?_
  obtain ⟨fs_1, he_fs_1, hl_fs_1, h⟩ := h
  refine fw_put (v := .int (0 : Int32)) (ty := .int) (C := RX1) (T := TX1) (N := 4) hx hb hts hin_X1 tyX1 (tyX1_ok) nmX1 hown hK hF hS he_fs_1 rfl 2 (by decide) (hts (.fieldLink RX1 7 "FrontCodedIndex$Inserter" "splits" "I") (by decide +kernel)) (fun _ h9 => h9) rfl (by decide +kernel) rfl rfl hl_fs_1 dX1_init_6 (fun H locs hF hS => ?_)
  obtain ⟨f_2, hf_f_2⟩ : ∃ z, z = fup f a0 (.inr (4, fs_1.set 2 (.int (0 : Int32)))) := ⟨_, rfl⟩
  rw [← hf_f_2] at hF; have h := h f_2 hf_f_2
  refine lv_aload_n hx hb dX1_init_9 rfl (lv_at hl 0 rfl) ?_
  refine lv_iconst (v := (0 : Int32)) hx hb dX1_init_10 (by decide) ?_
  obtain ⟨fs_3, he_fs_3, hl_fs_3, h⟩ := h
  refine fw_put (v := .int (0 : Int32)) (ty := .int) (C := RX1) (T := TX1) (N := 4) hx hb hts hin_X1 tyX1 (tyX1_ok) nmX1 hown hK hF hS he_fs_3 rfl 3 (by decide) (hts (.fieldLink RX1 13 "FrontCodedIndex$Inserter" "redistributions" "I") (by decide +kernel)) (fun _ h9 => h9) rfl (by decide +kernel) rfl rfl hl_fs_3 dX1_init_11 (fun H locs hF hS => ?_)
  obtain ⟨f_4, hf_f_4⟩ : ∃ z, z = fup f_2 a0 (.inr (4, fs_3.set 3 (.int (0 : Int32)))) := ⟨_, rfl⟩
  rw [← hf_f_4] at hF; have h := h f_4 hf_f_4
  refine lv_aload_n hx hb dX1_init_14 rfl (lv_at hl 0 rfl) ?_
  refine lv_aload_n hx hb dX1_init_15 rfl (lv_at hl 1 rfl) ?_
  obtain ⟨fs_5, he_fs_5, hl_fs_5, h⟩ := h
  refine fw_putF (v := .ref a1) (ty := (.object "FrontCodedIndex$Tree")) (C := RX1) (T := TX1) (N := 4) hx hb hts hin_X1 tyX1 (tyX1_ok) nmX1 hown hK hF hS he_fs_5 rfl 0 (by decide) (hts (.fieldLink RX1 16 "FrontCodedIndex$Inserter" "tree" "LFrontCodedIndex$Tree;") (by decide +kernel)) (fun _ h9 => h9) rfl hin rfl (by decide +kernel) rfl rfl hl_fs_5 dX1_init_16 (fun H locs hF hS => ?_)
  obtain ⟨f_6, hf_f_6⟩ : ∃ z, z = fup f_4 a0 (.inr (4, fs_5.set 0 (.ref a1))) := ⟨_, rfl⟩
  rw [← hf_f_6] at hF; have h := h f_6 hf_f_6
  refine lv_aload_n hx hb dX1_init_19 rfl (lv_at hl 0 rfl) ?_
  refine lv_aload_n hx hb dX1_init_20 rfl (lv_at hl 2 rfl) ?_
  obtain ⟨fs_7, he_fs_7, hl_fs_7, h⟩ := h
  refine fw_putF (v := .ref a2) (ty := (.object "FrontCodedIndex$Cursors")) (C := RX1) (T := TX1) (N := 4) hx hb hts hin_X1 tyX1 (tyX1_ok) nmX1 hown hK hF hS he_fs_7 rfl 1 (by decide) (hts (.fieldLink RX1 20 "FrontCodedIndex$Inserter" "cursors" "LFrontCodedIndex$Cursors;") (by decide +kernel)) (fun _ h9 => h9) rfl hin rfl (by decide +kernel) rfl rfl hl_fs_7 dX1_init_21 (fun H locs hF hS => ?_)
  obtain ⟨f_8, hf_f_8⟩ : ∃ z, z = fup f_6 a0 (.inr (4, fs_7.set 1 (.ref a2))) := ⟨_, rfl⟩
  rw [← hf_f_8] at hF; have h := h f_8 hf_f_8
  exact W.vret hx hb hr (fun t ht hW => ⟨⟨f_8, rfl, h, by rw [ht]; exact hF, FK.moved hW.alike hK⟩, hS.F ht⟩) hS.2.2 dX1_init_24
theorem dJx4a65c_add_72be8_0 : decode cJx4a65c_add_72be8 0 = .ok (.iload_n 3, 1) := by decide +kernel
theorem dJx4a65c_add_72be8_1 : decode cJx4a65c_add_72be8 1 = .ok (.aload_n 2, 1) := by decide +kernel
theorem dJx4a65c_add_72be8_2 : decode cJx4a65c_add_72be8 2 = .ok (.arraylength, 1) := by decide +kernel
theorem dJx4a65c_add_72be8_3 : decode cJx4a65c_add_72be8 3 = .ok (.if_icmp .ne 8, 3) := by decide +kernel
theorem dJx4a65c_add_72be8_6 : decode cJx4a65c_add_72be8 6 = .ok (.aload_n 0, 1) := by decide +kernel
theorem dJx4a65c_add_72be8_7 : decode cJx4a65c_add_72be8 7 = .ok (.invokevirtual 129, 3) := by decide +kernel
theorem dJx4a65c_add_72be8_10 : decode cJx4a65c_add_72be8 10 = .ok (.astore_n 2, 1) := by decide +kernel
theorem dJx4a65c_add_72be8_11 : decode cJx4a65c_add_72be8 11 = .ok (.aload_n 2, 1) := by decide +kernel
theorem dJx4a65c_add_72be8_12 : decode cJx4a65c_add_72be8 12 = .ok (.iload_n 3, 1) := by decide +kernel
theorem dJx4a65c_add_72be8_13 : decode cJx4a65c_add_72be8 13 = .ok (.aload_n 1, 1) := by decide +kernel
theorem dJx4a65c_add_72be8_14 : decode cJx4a65c_add_72be8 14 = .ok (.aastore, 1) := by decide +kernel
theorem dJx4a65c_add_72be8_15 : decode cJx4a65c_add_72be8 15 = .ok (.aload_n 0, 1) := by decide +kernel
theorem dJx4a65c_add_72be8_16 : decode cJx4a65c_add_72be8 16 = .ok (.iload_n 3, 1) := by decide +kernel
theorem dJx4a65c_add_72be8_17 : decode cJx4a65c_add_72be8 17 = .ok (.iconst 1, 1) := by decide +kernel
theorem dJx4a65c_add_72be8_18 : decode cJx4a65c_add_72be8 18 = .ok (.iadd, 1) := by decide +kernel
theorem dJx4a65c_add_72be8_19 : decode cJx4a65c_add_72be8 19 = .ok (.putfield 48, 3) := by decide +kernel
theorem dJx4a65c_add_72be8_22 : decode cJx4a65c_add_72be8 22 = .ok (.return_, 1) := by decide +kernel
set_option maxRecDepth 20000 in
theorem ggJx4a65c_add_72be8_Jx4a65c_grow_d5877 : GoodIn wsJx4a65c_add_72be8 wsJx4a65c_grow_d5877 := goodIn_r _ [6, 1, 7, 8, 9, 5, 10, 11, 12, 13, 14, 15, 16, 17, 18, 19, 20, 21, 22, 23, 24, 25, 26, 27, 28, 29, 30, 31, 32, 33, 34, 35, 36, 37, 38, 39, 40, 41, 42, 43, 44, 45, 46, 47, 48, 49] (by decide +kernel) (by decide +kernel)
def wp_Jx4a65c_add_72be8_11 (zd : Nat) (a0 : Nat) (a1 : Nat) (x3 : Int32) (a2 : Nat) (f : FT) (bc bs : Nat) (K : FT → Prop)  : Prop :=
  sA f a2 x3 a1 fun f_2 => pV f_2 a0 2 2 (.int (x3 + (1 : Int32))) fun f_4 => K f_4
def wp_Jx4a65c_add_72be8 (zd : Nat) (a0 : Nat) (a1 : Nat) (a2 : Nat) (x3 : Int32) (f : FT) (mc ms : Nat) (K : FT → Prop) : Prop :=
  aL f a2 fun v_5 => ((¬ x3 = v_5 → wp_Jx4a65c_add_72be8_11 zd a0 a1 x3 a2 f mc ms K) ∧
 (x3 = v_5 → ∃ ga_10 gb_11 : Nat, ga_10 ≤ mc ∧ gb_11 ≤ ms ∧ isO f a0 2 ∧ wp_Jx4a65c_grow_d5877 zd a0 f ga_10 gb_11 (fun a_8 f_9 => wp_Jx4a65c_add_72be8_11 zd a0 a1 x3 a_8 f_9 (mc - ga_10) (ms - gb_11) K)))
set_option maxHeartbeats 4000000 in
set_option maxRecDepth 100000 in
theorem cc_Jx4a65c_add_72be8 (l : Launch) (G : GG) {zd : Nat} (hzd : G.2.2 0 = zd) {f : FT} {sz : Nat} {a0 : Nat} {a1 : Nat} {a2 : Nat} {x3 : Int32} {mc ms : Nat} {K : FT → Prop} (h : wp_Jx4a65c_add_72be8 zd a0 a1 a2 x3 f mc ms K) : Met l yJx4a65c_add_72be8 wsJx4a65c_add_72be8 ({ frames := 5, cells := mc, slots := ms, locals := 127 } : Room) (FP G [.ref a0, .ref a1, .ref a2, .int x3] f sz) (va_Qv (fun f9 => K f9 : FT → Prop) (FB G (fA f sz)) (fA f sz)) mc ms (fA f sz) := by
  refine Met.ofW (cc := cJx4a65c_add_72be8) (maxL := 4) (ret := none) (by decide) rfl ?_
  intro p e s m args below meth c s₁ B hml hv
  obtain ⟨rfl, hsz, hF, hK, hZ⟩ := hv
  have hx := B.exec
  have hb := B.bytes
  have hr := B.returns
  have hts := atoms_spec (ws := wsJx4a65c_add_72be8) B.pre
  have hown : s.vm.findClass RJx4a65c = some m.cls := findClass_of_methodNamed B.named
  have hlocks := B.notSynchronized
  subst hsz
  have hF := hF.self (sz := s.heap.size)
  generalize hAe : fA f s.heap.size = A at hF hZ ⊢
  have hA : ∀ q : Nat, s.heap.size ≤ q → A q := fun q h => by rw [← hAe]; exact Or.inr h
  have hS : va_S A s.heap s.heap [] := va_S.rf
  have hZ9 : va_Z "java/util/ArrayList" "DEFAULTCAPACITY_EMPTY_ELEMENTDATA" "[Ljava/lang/Object;" (.ref zd) A s s.heap := by rw [← hzd]; exact hZ
  have hin_Jx4a65c : ∀ w ∈ wsJx4a65c0, w ∈ wsJx4a65c_add_72be8 := by decide +kernel
  have hbc : 0 + mc ≤ mc := by omega
  have hbs : 0 + ms ≤ ms := by omega
  have J11 : ∀ (a2 : Nat) (f : FT) (bc : Nat) (bs : Nat) (H : Heap) (locs : List Loc) (ls : Array Slot) (cs sl : Nat), wp_Jx4a65c_add_72be8_11 zd a0 a1 x3 a2 f bc bs K  → cs + bc ≤ mc → sl + bs ≤ ms → Fw G A f H → va_S A s.heap H locs → lv_has ls 4 [(0, .ref a0), (1, .ref a1), (2, .ref a2), (3, .int x3)] → W p l e ({ frames := 5, cells := mc, slots := ms, locals := 127 } : Room) s m ([.ref a0, .ref a1, .ref a2, .int x3] : List Value).toArray below meth c H locs cs sl (MQ below (va_Qv (fun f9 => K f9 : FT → Prop) (FB G A) A) ([.ref a0, .ref a1, .ref a2, .int x3] : List Value).toArray s mc ms A) (F0 m 11 ls []) := by
    intro a2 f bc bs H locs ls cs sl h hbc hbs hF hS hl
    unfold wp_Jx4a65c_add_72be8_11 at h
    refine lv_aload_n hx hb dJx4a65c_add_72be8_11 rfl (lv_at hl 2 rfl) ?_
    refine lv_iload_n hx hb dJx4a65c_add_72be8_12 rfl (lv_at hl 3 rfl) ?_
    refine lv_aload_n hx hb dJx4a65c_add_72be8_13 rfl (lv_at hl 1 rfl) ?_
    obtain ⟨n_q_1, q_1, ci_q_1, vs_q_1, he_q_1, hi_q_1, hv_q_1, hci_q_1, h⟩ := h
    refine fw_aast hx hb hK hF hS he_q_1 hv_q_1 hci_q_1 hi_q_1 dJx4a65c_add_72be8_14 (fun H locs hF hS => ?_)
    obtain ⟨f_2, hf_f_2⟩ : ∃ z, z = fup f a2 (.inl (2, n_q_1, .inr (.inr (.inr (.inr (va_up q_1 (x3).toNatClampNeg (some a1))))))) := ⟨_, rfl⟩
    rw [← hf_f_2] at hF; have h := h f_2 hf_f_2
    refine lv_aload_n hx hb dJx4a65c_add_72be8_15 rfl (lv_at hl 0 rfl) ?_
    refine lv_iload_n hx hb dJx4a65c_add_72be8_16 rfl (lv_at hl 3 rfl) ?_
    refine lv_iconst (v := (1 : Int32)) hx hb dJx4a65c_add_72be8_17 (by decide) ?_
    refine lv_iadd hx hb dJx4a65c_add_72be8_18 ?_
    obtain ⟨fs_3, he_fs_3, hl_fs_3, h⟩ := h
    refine fw_put (v := .int (x3 + (1 : Int32))) (ty := .int) (C := RJx4a65c) (T := TJx4a65c) (N := 3) hx hb hts hin_Jx4a65c tyJx4a65c (tyJx4a65c_ok) nmJx4a65c hown hK hF hS he_fs_3 rfl 2 (by decide) (hts (.fieldLink RJx4a65c 48 "java/util/ArrayList" "size" "I") (by decide +kernel)) (fun _ h9 => h9) rfl (by decide +kernel) rfl rfl hl_fs_3 dJx4a65c_add_72be8_19 (fun H locs hF hS => ?_)
    obtain ⟨f_4, hf_f_4⟩ : ∃ z, z = fup f_2 a0 (.inr (2, fs_3.set 2 (.int (x3 + (1 : Int32))))) := ⟨_, rfl⟩
    rw [← hf_f_4] at hF; have h := h f_4 hf_f_4
    refine W.widen (k := mc) (n := ms) (by omega) (by omega) ?_
    exact W.vret hx hb hr (fun t ht hW => ⟨⟨f_4, rfl, h, by rw [ht]; exact hF, FK.moved hW.alike hK⟩, hS.F ht⟩) hS.2.2 dJx4a65c_add_72be8_22
  have hl := lv_entry ([.ref a0, .ref a1, .ref a2, .int x3]) (n := 4) (Nat.le_of_ble_eq_true rfl)
  rw [lg_entry_eq]
  generalize (lg_sl ([.ref a0, .ref a1, .ref a2, .int x3]) ++ List.replicate (4 - (lg_sl ([.ref a0, .ref a1, .ref a2, .int x3])).length) Slot.unset).toArray = ls at hl ⊢
  have hl : lv_has ls 4 [(0, .ref a0), (1, .ref a1), (2, .ref a2), (3, .int x3)] := hl
  unfold wp_Jx4a65c_add_72be8 at h
  refine lv_iload_n hx hb dJx4a65c_add_72be8_0 rfl (lv_at hl 3 rfl) ?_
  refine lv_aload_n hx hb dJx4a65c_add_72be8_1 rfl (lv_at hl 2 rfl) ?_
  obtain ⟨t_q_6, q_6, he_q_6, ht_q_6, h⟩ := h
  refine fw_alen hx hb hK hF he_q_6 ht_q_6 dJx4a65c_add_72be8_2 ?_
  refine lv_topi (fun v_5 e_v_5 => ?_)
  have h := h v_5 e_v_5
  obtain ⟨h1, h2⟩ := h
  refine lv_icmp_ne (tgt := 11) hx hb dJx4a65c_add_72be8_3 (by decide) (fun c_7 => ?_) (fun c_7 => ?_)
  · have h := h1 c_7
    exact J11 a2 f mc ms _ _ _ _ _ hbc hbs h hF hS (lv_sub hl [0, 1, 2, 3] rfl)
  · have h := h2 c_7
    refine lv_aload_n hx hb dJx4a65c_add_72be8_6 rfl (lv_at hl 0 rfl) ?_
    obtain ⟨ga_10, gb_11, hga_ga_10, hgb_ga_10, h⟩ := h
    obtain ⟨⟨fs_a_8, hrc_a_8⟩, h⟩ := h
    refine fw_cV_q_w (As := []) (rest := []) ⟨hx, hb, hml, hown, hts⟩ (cc_Jx4a65c_grow_d5877 l G hzd h) (⟨callB_of 0 hts ggJx4a65c_add_72be8_Jx4a65c_grow_d5877 rfl rfl rfl (hts (.initialized RJx4a65c) (by decide +kernel)) (hts (.methodLink RJx4a65c 129 yJx4a65c_grow_d5877) (by decide +kernel)) (by decide +kernel) ⟨Nat.le_of_ble_eq_true rfl, Nat.le_of_ble_eq_true rfl⟩, hts (.instanceMethod yJx4a65c_grow_d5877) (by decide +kernel), hts (.selects RJx4a65c yJx4a65c_grow_d5877 yJx4a65c_grow_d5877) (by decide +kernel)⟩) rfl hrc_a_8 hK hZ hF hS hA rfl hl.1 rfl (Nat.le_of_ble_eq_true rfl) dJx4a65c_add_72be8_7 ⟨by show _ ≤ mc; omega, by show _ ≤ ms; omega⟩ (fun a_8 f_9 H locs h hF hS => ?_)
    have hbc : (0 + ga_10) + (mc - ga_10) ≤ mc := by omega
    have hbs : (0 + gb_11) + (ms - gb_11) ≤ ms := by omega
    generalize (0 + ga_10) = cs_12 at hbc ⊢; generalize (0 + gb_11) = sl_13 at hbs ⊢
    refine lv_astore_n (lv' := [(2, .ref a_8), (0, .ref a0), (1, .ref a1), (3, .int x3)]) hx hb dJx4a65c_add_72be8_10 rfl hl (by decide) rfl (fun ls hl => ?_)
    exact J11 a_8 f_9 (mc - ga_10) (ms - gb_11) _ _ _ _ _ hbc hbs h hF hS (lv_sub hl [1, 2, 0, 3] rfl)
theorem dJx4a65c_add_9ea2d_0 : decode cJx4a65c_add_9ea2d 0 = .ok (.aload_n 0, 1) := by decide +kernel
theorem dJx4a65c_add_9ea2d_1 : decode cJx4a65c_add_9ea2d 1 = .ok (.dup, 1) := by decide +kernel
theorem dJx4a65c_add_9ea2d_2 : decode cJx4a65c_add_9ea2d 2 = .ok (.getfield 63, 3) := by decide +kernel
theorem dJx4a65c_add_9ea2d_5 : decode cJx4a65c_add_9ea2d 5 = .ok (.iconst 1, 1) := by decide +kernel
theorem dJx4a65c_add_9ea2d_6 : decode cJx4a65c_add_9ea2d 6 = .ok (.iadd, 1) := by decide +kernel
theorem dJx4a65c_add_9ea2d_7 : decode cJx4a65c_add_9ea2d 7 = .ok (.putfield 63, 3) := by decide +kernel
theorem dJx4a65c_add_9ea2d_10 : decode cJx4a65c_add_9ea2d 10 = .ok (.aload_n 0, 1) := by decide +kernel
theorem dJx4a65c_add_9ea2d_11 : decode cJx4a65c_add_9ea2d 11 = .ok (.aload_n 1, 1) := by decide +kernel
theorem dJx4a65c_add_9ea2d_12 : decode cJx4a65c_add_9ea2d 12 = .ok (.aload_n 0, 1) := by decide +kernel
theorem dJx4a65c_add_9ea2d_13 : decode cJx4a65c_add_9ea2d 13 = .ok (.getfield 9, 3) := by decide +kernel
theorem dJx4a65c_add_9ea2d_16 : decode cJx4a65c_add_9ea2d 16 = .ok (.aload_n 0, 1) := by decide +kernel
theorem dJx4a65c_add_9ea2d_17 : decode cJx4a65c_add_9ea2d 17 = .ok (.getfield 48, 3) := by decide +kernel
theorem dJx4a65c_add_9ea2d_20 : decode cJx4a65c_add_9ea2d 20 = .ok (.invokevirtual 131, 3) := by decide +kernel
theorem dJx4a65c_add_9ea2d_23 : decode cJx4a65c_add_9ea2d 23 = .ok (.iconst 1, 1) := by decide +kernel
theorem dJx4a65c_add_9ea2d_24 : decode cJx4a65c_add_9ea2d 24 = .ok (.ireturn, 1) := by decide +kernel
set_option maxRecDepth 20000 in
theorem ggJx4a65c_add_9ea2d_Jx4a65c_add_72be8 : GoodIn wsJx4a65c_add_9ea2d wsJx4a65c_add_72be8 := goodIn_r _ [9, 4, 10, 11, 12, 8, 13, 14, 15, 16, 17, 3, 18, 19, 20, 21, 22, 23, 24, 25, 26, 27, 28, 29, 30, 31, 32, 33, 34, 35, 36, 37, 38, 39, 40, 41, 42, 43, 44, 45, 46, 47, 48, 49, 50, 51, 52, 53, 54, 55] (by decide +kernel) (by decide +kernel)
def wp_Jx4a65c_add_9ea2d (zd : Nat) (a0 : Nat) (a1 : Nat) (f : FT) (mc ms : Nat) (K : Int32 → FT → Prop) : Prop :=
  gI f a0 2 0 fun v_1 => pV f a0 2 0 (.int (v_1 + (1 : Int32))) fun f_4 => gA f_4 a0 2 1 fun a_5 => gI f_4 a0 2 2 fun v_7 => ∃ ga_11 gb_12 : Nat, ga_11 ≤ mc ∧ gb_12 ≤ ms ∧ isO f_4 a0 2 ∧ wp_Jx4a65c_add_72be8 zd a0 a1 a_5 v_7 f_4 ga_11 gb_12 (fun f_10 => K (1 : Int32) f_10)
set_option maxHeartbeats 4000000 in
set_option maxRecDepth 100000 in
theorem cc_Jx4a65c_add_9ea2d (l : Launch) (G : GG) {zd : Nat} (hzd : G.2.2 0 = zd) {f : FT} {sz : Nat} {a0 : Nat} {a1 : Nat} {mc ms : Nat} {K : Int32 → FT → Prop} (h : wp_Jx4a65c_add_9ea2d zd a0 a1 f mc ms K) : Met l yJx4a65c_add_9ea2d wsJx4a65c_add_9ea2d ({ frames := 6, cells := mc, slots := ms, locals := 150 } : Room) (FP G [.ref a0, .ref a1] f sz) (va_Qi (fun r f9 => K r f9 : Int32 → FT → Prop) (FB G (fA f sz)) (fA f sz)) mc ms (fA f sz) := by
  refine Met.ofW (cc := cJx4a65c_add_9ea2d) (maxL := 2) (ret := (some .boolean)) (by decide) rfl ?_
  intro p e s m args below meth c s₁ B hml hv
  obtain ⟨rfl, hsz, hF, hK, hZ⟩ := hv
  have hx := B.exec
  have hb := B.bytes
  have hr := B.returns
  have hts := atoms_spec (ws := wsJx4a65c_add_9ea2d) B.pre
  have hown : s.vm.findClass RJx4a65c = some m.cls := findClass_of_methodNamed B.named
  have hlocks := B.notSynchronized
  subst hsz
  have hF := hF.self (sz := s.heap.size)
  generalize hAe : fA f s.heap.size = A at hF hZ ⊢
  have hA : ∀ q : Nat, s.heap.size ≤ q → A q := fun q h => by rw [← hAe]; exact Or.inr h
  have hS : va_S A s.heap s.heap [] := va_S.rf
  have hZ9 : va_Z "java/util/ArrayList" "DEFAULTCAPACITY_EMPTY_ELEMENTDATA" "[Ljava/lang/Object;" (.ref zd) A s s.heap := by rw [← hzd]; exact hZ
  have hin_Jx4a65c : ∀ w ∈ wsJx4a65c0, w ∈ wsJx4a65c_add_9ea2d := by decide +kernel
  have hbc : 0 + mc ≤ mc := by omega
  have hbs : 0 + ms ≤ ms := by omega
  have hl := lv_entry ([.ref a0, .ref a1]) (n := 2) (Nat.le_of_ble_eq_true rfl)
  rw [lg_entry_eq]
  generalize (lg_sl ([.ref a0, .ref a1]) ++ List.replicate (2 - (lg_sl ([.ref a0, .ref a1])).length) Slot.unset).toArray = ls at hl ⊢
  have hl : lv_has ls 2 [(0, .ref a0), (1, .ref a1)] := hl
  unfold wp_Jx4a65c_add_9ea2d at h
  refine lv_aload_n hx hb dJx4a65c_add_9ea2d_0 rfl (lv_at hl 0 rfl) ?_
  refine lv_dup hx hb dJx4a65c_add_9ea2d_1 rfl ?_
  obtain ⟨fs_2, v_1, he_fs_2, hv_fs_2, h⟩ := h
  refine fw_get (C := RJx4a65c) (T := TJx4a65c) (N := 3) hx hb hts hin_Jx4a65c hown hK hF he_fs_2 rfl 0 (by decide) (hts (.fieldLink RJx4a65c 63 "java/util/ArrayList" "modCount" "I") (by decide +kernel)) (fun x9 h9 => u_same (hts (.sameField "java/util/ArrayList" "java/util/AbstractList" "modCount" "I") (by decide +kernel)) x9 h9) hv_fs_2 dJx4a65c_add_9ea2d_2 ?_
  refine lv_iconst (v := (1 : Int32)) hx hb dJx4a65c_add_9ea2d_5 (by decide) ?_
  refine lv_iadd hx hb dJx4a65c_add_9ea2d_6 ?_
  obtain ⟨fs_3, he_fs_3, hl_fs_3, h⟩ := h
  refine fw_put (v := .int (v_1 + (1 : Int32))) (ty := .int) (C := RJx4a65c) (T := TJx4a65c) (N := 3) hx hb hts hin_Jx4a65c tyJx4a65c (tyJx4a65c_ok) nmJx4a65c hown hK hF hS he_fs_3 rfl 0 (by decide) (hts (.fieldLink RJx4a65c 63 "java/util/ArrayList" "modCount" "I") (by decide +kernel)) (fun x9 h9 => u_same (hts (.sameField "java/util/ArrayList" "java/util/AbstractList" "modCount" "I") (by decide +kernel)) x9 h9) rfl (by decide +kernel) rfl rfl hl_fs_3 dJx4a65c_add_9ea2d_7 (fun H locs hF hS => ?_)
  obtain ⟨f_4, hf_f_4⟩ : ∃ z, z = fup f a0 (.inr (2, fs_3.set 0 (.int (v_1 + (1 : Int32))))) := ⟨_, rfl⟩
  rw [← hf_f_4] at hF; have h := h f_4 hf_f_4
  refine lv_aload_n hx hb dJx4a65c_add_9ea2d_10 rfl (lv_at hl 0 rfl) ?_
  refine lv_aload_n hx hb dJx4a65c_add_9ea2d_11 rfl (lv_at hl 1 rfl) ?_
  refine lv_aload_n hx hb dJx4a65c_add_9ea2d_12 rfl (lv_at hl 0 rfl) ?_
  obtain ⟨fs_6, a_5, he_fs_6, hv_fs_6, h⟩ := h
  refine fw_get (C := RJx4a65c) (T := TJx4a65c) (N := 3) hx hb hts hin_Jx4a65c hown hK hF he_fs_6 rfl 1 (by decide) (hts (.fieldLink RJx4a65c 9 "java/util/ArrayList" "elementData" "[Ljava/lang/Object;") (by decide +kernel)) (fun _ h9 => h9) hv_fs_6 dJx4a65c_add_9ea2d_13 ?_
  refine lv_aload_n hx hb dJx4a65c_add_9ea2d_16 rfl (lv_at hl 0 rfl) ?_
  obtain ⟨fs_8, v_7, he_fs_8, hv_fs_8, h⟩ := h
  refine fw_get (C := RJx4a65c) (T := TJx4a65c) (N := 3) hx hb hts hin_Jx4a65c hown hK hF he_fs_8 rfl 2 (by decide) (hts (.fieldLink RJx4a65c 48 "java/util/ArrayList" "size" "I") (by decide +kernel)) (fun _ h9 => h9) hv_fs_8 dJx4a65c_add_9ea2d_17 ?_
  obtain ⟨ga_11, gb_12, hga_ga_11, hgb_ga_11, h⟩ := h
  obtain ⟨⟨fs_u_9, hrc_u_9⟩, h⟩ := h
  refine fw_cV_v (As := [.ref a1, .ref a_5, .int v_7]) (rest := []) ⟨hx, hb, hml, hown, hts⟩ (cc_Jx4a65c_add_72be8 l G hzd h) (⟨callB_of 3 hts ggJx4a65c_add_9ea2d_Jx4a65c_add_72be8 rfl rfl rfl (hts (.initialized RJx4a65c) (by decide +kernel)) (hts (.methodLink RJx4a65c 131 yJx4a65c_add_72be8) (by decide +kernel)) (by decide +kernel) ⟨Nat.le_of_ble_eq_true rfl, Nat.le_of_ble_eq_true rfl⟩, hts (.instanceMethod yJx4a65c_add_72be8) (by decide +kernel), hts (.selects RJx4a65c yJx4a65c_add_72be8 yJx4a65c_add_72be8) (by decide +kernel)⟩) rfl hrc_u_9 hK hZ hF hS hA rfl hl.1 rfl (Nat.le_of_ble_eq_true rfl) dJx4a65c_add_9ea2d_20 ⟨by show _ ≤ mc; omega, by show _ ≤ ms; omega⟩ (fun f_10 H locs h hF hS => ?_)
  have hbc : (0 + ga_11) + (mc - ga_11) ≤ mc := by omega
  have hbs : (0 + gb_12) + (ms - gb_12) ≤ ms := by omega
  generalize (0 + ga_11) = cs_13 at hbc ⊢; generalize (0 + gb_12) = sl_14 at hbs ⊢
  refine lv_iconst (v := (1 : Int32)) hx hb dJx4a65c_add_9ea2d_23 (by decide) ?_
  refine W.widen (k := mc) (n := ms) (by omega) (by omega) ?_
  exact W.zret (v := (1 : Int32)) hx hb hr (by decide) (fun t ht hW => ⟨⟨(1 : Int32), f_10, rfl, h, by rw [ht]; exact hF, FK.moved hW.alike hK⟩, hS.F ht⟩) hS.2.2 dJx4a65c_add_9ea2d_24
theorem dX2_empty_0 : decode cX2_empty 0 = .ok (.aload_n 0, 1) := by decide +kernel
theorem dX2_empty_1 : decode cX2_empty 1 = .ok (.iconst 0, 1) := by decide +kernel
theorem dX2_empty_2 : decode cX2_empty 2 = .ok (.putfield 13, 3) := by decide +kernel
theorem dX2_empty_5 : decode cX2_empty 5 = .ok (.return_, 1) := by decide +kernel
def wp_X2_empty (a0 : Nat) (f : FT) (K : FT → Prop) : Prop :=
  pV f a0 5 1 (.int (0 : Int32)) fun f_2 => K f_2
set_option maxHeartbeats 4000000 in
set_option maxRecDepth 100000 in
theorem cc_X2_empty (l : Launch) (G : GG) {f : FT} {sz : Nat} {a0 : Nat} {K : FT → Prop} (h : wp_X2_empty a0 f K) : Met l yX2_empty wsX2_empty ({ frames := 0, cells := 0, slots := 0, locals := 0 } : Room) (FP G [.ref a0] f sz) (va_Qv (fun f9 => K f9 : FT → Prop) (FB G (fA f sz)) (fA f sz)) 0 0 (fA f sz) := by
  refine Met.ofW (cc := cX2_empty) (maxL := 1) (ret := none) (by decide) rfl ?_
  intro p e s m args below meth c s₁ B hml hv
  obtain ⟨rfl, hsz, hF, hK, hZ⟩ := hv
  have hx := B.exec
  have hb := B.bytes
  have hr := B.returns
  have hts := atoms_spec (ws := wsX2_empty) B.pre
  have hown : s.vm.findClass RX2 = some m.cls := findClass_of_methodNamed B.named
  have hlocks := B.notSynchronized
  subst hsz
  have hF := hF.self (sz := s.heap.size)
  generalize hAe : fA f s.heap.size = A at hF hZ ⊢
  have hA : ∀ q : Nat, s.heap.size ≤ q → A q := fun q h => by rw [← hAe]; exact Or.inr h
  have hS : va_S A s.heap s.heap [] := va_S.rf
  have hin_X2 : ∀ w ∈ wsX20, w ∈ wsX2_empty := by decide +kernel
  have hl := lv_entry ([.ref a0]) (n := 1) (Nat.le_of_ble_eq_true rfl)
  rw [lg_entry_eq]
  generalize (lg_sl ([.ref a0]) ++ List.replicate (1 - (lg_sl ([.ref a0])).length) Slot.unset).toArray = ls at hl ⊢
  have hl : lv_has ls 1 [(0, .ref a0)] := hl
  unfold wp_X2_empty at h
  refine lv_aload_n hx hb dX2_empty_0 rfl (lv_at hl 0 rfl) ?_
  refine lv_iconst (v := (0 : Int32)) hx hb dX2_empty_1 (by decide) ?_
  obtain ⟨fs_1, he_fs_1, hl_fs_1, h⟩ := h
  refine fw_put (v := .int (0 : Int32)) (ty := .int) (C := RX2) (T := TX2) (N := 2) hx hb hts hin_X2 tyX2 (tyX2_ok) nmX2 hown hK hF hS he_fs_1 rfl 1 (by decide) (hts (.fieldLink RX2 13 "FrontCodedIndex$IntRow" "count" "I") (by decide +kernel)) (fun _ h9 => h9) rfl (by decide +kernel) rfl rfl hl_fs_1 dX2_empty_2 (fun H locs hF hS => ?_)
  obtain ⟨f_2, hf_f_2⟩ : ∃ z, z = fup f a0 (.inr (5, fs_1.set 1 (.int (0 : Int32)))) := ⟨_, rfl⟩
  rw [← hf_f_2] at hF; have h := h f_2 hf_f_2
  exact W.vret hx hb hr (fun t ht hW => ⟨⟨f_2, rfl, h, by rw [ht]; exact hF, FK.moved hW.alike hK⟩, hS.F ht⟩) hS.2.2 dX2_empty_5
theorem dX2_append_0 : decode cX2_append 0 = .ok (.aload_n 0, 1) := by decide +kernel
theorem dX2_append_1 : decode cX2_append 1 = .ok (.aload_n 0, 1) := by decide +kernel
theorem dX2_append_2 : decode cX2_append 2 = .ok (.getfield 13, 3) := by decide +kernel
theorem dX2_append_5 : decode cX2_append 5 = .ok (.iload_n 1, 1) := by decide +kernel
theorem dX2_append_6 : decode cX2_append 6 = .ok (.invokevirtual 17, 3) := by decide +kernel
theorem dX2_append_9 : decode cX2_append 9 = .ok (.return_, 1) := by decide +kernel
set_option maxRecDepth 20000 in
theorem ggX2_append_X2_insert : GoodIn wsX2_append wsX2_insert := goodIn_r _ [6, 1, 7, 8, 9, 10, 11, 12, 13, 14, 15, 16, 17, 18, 19, 20, 21, 22, 23, 24, 25, 26, 27, 28] (by decide +kernel) (by decide +kernel)
def wp_X2_append (a0 : Nat) (x1 : Int32) (f : FT) (mc ms : Nat) (K : FT → Prop) : Prop :=
  gI f a0 5 1 fun v_1 => ∃ ga_5 gb_6 : Nat, ga_5 ≤ mc ∧ gb_6 ≤ ms ∧ isO f a0 5 ∧ wp_X2_insert a0 v_1 x1 f ga_5 gb_6 (fun f_4 => K f_4)
set_option maxHeartbeats 4000000 in
set_option maxRecDepth 100000 in
theorem cc_X2_append (l : Launch) (G : GG) {f : FT} {sz : Nat} {a0 : Nat} {x1 : Int32} {mc ms : Nat} {K : FT → Prop} (h : wp_X2_append a0 x1 f mc ms K) : Met l yX2_append wsX2_append ({ frames := 3, cells := mc, slots := ms, locals := 85 } : Room) (FP G [.ref a0, .int x1] f sz) (va_Qv (fun f9 => K f9 : FT → Prop) (FB G (fA f sz)) (fA f sz)) mc ms (fA f sz) := by
  refine Met.ofW (cc := cX2_append) (maxL := 2) (ret := none) (by decide) rfl ?_
  intro p e s m args below meth c s₁ B hml hv
  obtain ⟨rfl, hsz, hF, hK, hZ⟩ := hv
  have hx := B.exec
  have hb := B.bytes
  have hr := B.returns
  have hts := atoms_spec (ws := wsX2_append) B.pre
  have hown : s.vm.findClass RX2 = some m.cls := findClass_of_methodNamed B.named
  have hlocks := B.notSynchronized
  subst hsz
  have hF := hF.self (sz := s.heap.size)
  generalize hAe : fA f s.heap.size = A at hF hZ ⊢
  have hA : ∀ q : Nat, s.heap.size ≤ q → A q := fun q h => by rw [← hAe]; exact Or.inr h
  have hS : va_S A s.heap s.heap [] := va_S.rf
  have hin_X2 : ∀ w ∈ wsX20, w ∈ wsX2_append := by decide +kernel
  have hbc : 0 + mc ≤ mc := by omega
  have hbs : 0 + ms ≤ ms := by omega
  have hl := lv_entry ([.ref a0, .int x1]) (n := 2) (Nat.le_of_ble_eq_true rfl)
  rw [lg_entry_eq]
  generalize (lg_sl ([.ref a0, .int x1]) ++ List.replicate (2 - (lg_sl ([.ref a0, .int x1])).length) Slot.unset).toArray = ls at hl ⊢
  have hl : lv_has ls 2 [(0, .ref a0), (1, .int x1)] := hl
  unfold wp_X2_append at h
  refine lv_aload_n hx hb dX2_append_0 rfl (lv_at hl 0 rfl) ?_
  refine lv_aload_n hx hb dX2_append_1 rfl (lv_at hl 0 rfl) ?_
  obtain ⟨fs_2, v_1, he_fs_2, hv_fs_2, h⟩ := h
  refine fw_get (C := RX2) (T := TX2) (N := 2) hx hb hts hin_X2 hown hK hF he_fs_2 rfl 1 (by decide) (hts (.fieldLink RX2 13 "FrontCodedIndex$IntRow" "count" "I") (by decide +kernel)) (fun _ h9 => h9) hv_fs_2 dX2_append_2 ?_
  refine lv_iload_n hx hb dX2_append_5 rfl (lv_at hl 1 rfl) ?_
  obtain ⟨ga_5, gb_6, hga_ga_5, hgb_ga_5, h⟩ := h
  obtain ⟨⟨fs_u_3, hrc_u_3⟩, h⟩ := h
  refine fw_cV_v (As := [.int v_1, .int x1]) (rest := []) ⟨hx, hb, hml, hown, hts⟩ (cc_X2_insert l G h) (⟨callB_of 2 hts ggX2_append_X2_insert rfl rfl rfl (hts (.initialized RX2) (by decide +kernel)) (hts (.methodLink RX2 17 yX2_insert) (by decide +kernel)) (by decide +kernel) ⟨Nat.le_of_ble_eq_true rfl, Nat.le_of_ble_eq_true rfl⟩, hts (.instanceMethod yX2_insert) (by decide +kernel), hts (.selects RX2 yX2_insert yX2_insert) (by decide +kernel)⟩) rfl hrc_u_3 hK hZ hF hS hA rfl hl.1 rfl (Nat.le_of_ble_eq_true rfl) dX2_append_6 ⟨by show _ ≤ mc; omega, by show _ ≤ ms; omega⟩ (fun f_4 H locs h hF hS => ?_)
  have hbc : (0 + ga_5) + (mc - ga_5) ≤ mc := by omega
  have hbs : (0 + gb_6) + (ms - gb_6) ≤ ms := by omega
  generalize (0 + ga_5) = cs_7 at hbc ⊢; generalize (0 + gb_6) = sl_8 at hbs ⊢
  refine W.widen (k := mc) (n := ms) (by omega) (by omega) ?_
  exact W.vret hx hb hr (fun t ht hW => ⟨⟨f_4, rfl, h, by rw [ht]; exact hF, FK.moved hW.alike hK⟩, hS.F ht⟩) hS.2.2 dX2_append_9
theorem dX2_copyFrom_0 : decode cX2_copyFrom 0 = .ok (.aload_n 0, 1) := by decide +kernel
theorem dX2_copyFrom_1 : decode cX2_copyFrom 1 = .ok (.iconst 0, 1) := by decide +kernel
theorem dX2_copyFrom_2 : decode cX2_copyFrom 2 = .ok (.putfield 13, 3) := by decide +kernel
theorem dX2_copyFrom_5 : decode cX2_copyFrom 5 = .ok (.iconst 0, 1) := by decide +kernel
theorem dX2_copyFrom_6 : decode cX2_copyFrom 6 = .ok (.istore_n 2, 1) := by decide +kernel
theorem dX2_copyFrom_7 : decode cX2_copyFrom 7 = .ok (.iload_n 2, 1) := by decide +kernel
theorem dX2_copyFrom_8 : decode cX2_copyFrom 8 = .ok (.aload_n 1, 1) := by decide +kernel
theorem dX2_copyFrom_9 : decode cX2_copyFrom 9 = .ok (.getfield 13, 3) := by decide +kernel
theorem dX2_copyFrom_12 : decode cX2_copyFrom 12 = .ok (.if_icmp .ge 18, 3) := by decide +kernel
theorem dX2_copyFrom_15 : decode cX2_copyFrom 15 = .ok (.aload_n 0, 1) := by decide +kernel
theorem dX2_copyFrom_16 : decode cX2_copyFrom 16 = .ok (.aload_n 1, 1) := by decide +kernel
theorem dX2_copyFrom_17 : decode cX2_copyFrom 17 = .ok (.iload_n 2, 1) := by decide +kernel
theorem dX2_copyFrom_18 : decode cX2_copyFrom 18 = .ok (.invokevirtual 33, 3) := by decide +kernel
theorem dX2_copyFrom_21 : decode cX2_copyFrom 21 = .ok (.invokevirtual 37, 3) := by decide +kernel
theorem dX2_copyFrom_24 : decode cX2_copyFrom 24 = .ok (.iinc 2 1, 3) := by decide +kernel
theorem dX2_copyFrom_27 : decode cX2_copyFrom 27 = .ok (.goto (-20), 3) := by decide +kernel
theorem dX2_copyFrom_30 : decode cX2_copyFrom 30 = .ok (.return_, 1) := by decide +kernel
set_option maxRecDepth 20000 in
theorem ggX2_copyFrom_X2_append : GoodIn wsX2_copyFrom wsX2_append := goodIn_r _ [11, 1, 12, 13, 14, 5, 15, 7, 16, 17, 18, 19, 20, 21, 22, 23, 24, 25, 26, 27, 28, 29, 30, 31, 32, 33, 34, 35, 36] (by decide +kernel) (by decide +kernel)
set_option maxRecDepth 20000 in
theorem ggX2_copyFrom_X2_at : GoodIn wsX2_copyFrom wsX2_at := goodIn_r _ [6, 1, 7, 35, 36] (by decide +kernel) (by decide +kernel)
def wp_X2_copyFrom_7 (a0 : Nat) (a1 : Nat) (K : FT → Prop)  (C7 : Int32 × FT × Nat × Nat → Prop) : Int32 × FT × Nat × Nat → Prop := fun s9 => match s9 with
  | (x2, f, bc, bs) => gI f a1 5 1 fun v_1 => ((v_1 ≤ x2 → K f) ∧
 (¬ (v_1 ≤ x2) → isO f a1 5 ∧ wp_X2_at a1 x2 f (fun r_4 => ∃ ga_7 gb_8 : Nat, ga_7 ≤ bc ∧ gb_8 ≤ bs ∧ isO f a0 5 ∧ wp_X2_append a0 r_4 f ga_7 gb_8 (fun f_6 => ∀ v_11 : Int32, v_11 = x2 + 1 → C7 (v_11, f_6, (bc - ga_7), (bs - gb_8))))))
def wp_X2_copyFrom (a0 : Nat) (a1 : Nat) (f : FT) (mc ms : Nat) (K : FT → Prop) : Prop :=
  pV f a0 5 1 (.int (0 : Int32)) fun f_14 => ∃ n_15, loopW (wp_X2_copyFrom_7 a0 a1 K) n_15 ((0 : Int32), f_14, mc, ms)
set_option maxHeartbeats 4000000 in
set_option maxRecDepth 100000 in
theorem cc_X2_copyFrom (l : Launch) (G : GG) {f : FT} {sz : Nat} {a0 : Nat} {a1 : Nat} {mc ms : Nat} {K : FT → Prop} (h : wp_X2_copyFrom a0 a1 f mc ms K) : Met l yX2_copyFrom wsX2_copyFrom ({ frames := 4, cells := mc, slots := ms, locals := 106 } : Room) (FP G [.ref a0, .ref a1] f sz) (va_Qv (fun f9 => K f9 : FT → Prop) (FB G (fA f sz)) (fA f sz)) mc ms (fA f sz) := by
  refine Met.ofW (cc := cX2_copyFrom) (maxL := 3) (ret := none) (by decide) rfl ?_
  intro p e s m args below meth c s₁ B hml hv
  obtain ⟨rfl, hsz, hF, hK, hZ⟩ := hv
  have hx := B.exec
  have hb := B.bytes
  have hr := B.returns
  have hts := atoms_spec (ws := wsX2_copyFrom) B.pre
  have hown : s.vm.findClass RX2 = some m.cls := findClass_of_methodNamed B.named
  have hlocks := B.notSynchronized
  subst hsz
  have hF := hF.self (sz := s.heap.size)
  generalize hAe : fA f s.heap.size = A at hF hZ ⊢
  have hA : ∀ q : Nat, s.heap.size ≤ q → A q := fun q h => by rw [← hAe]; exact Or.inr h
  have hS : va_S A s.heap s.heap [] := va_S.rf
  have hin_X2 : ∀ w ∈ wsX20, w ∈ wsX2_copyFrom := by decide +kernel
  have hbc : 0 + mc ≤ mc := by omega
  have hbs : 0 + ms ≤ ms := by omega
  have L7 : ∀  (j9 : Nat) (x2 : Int32) (f : FT) (bc : Nat) (bs : Nat) (H : Heap) (locs : List Loc) (ls : Array Slot) (cs sl : Nat), loopW (wp_X2_copyFrom_7 a0 a1 K ) j9 (x2, f, bc, bs) → cs + bc ≤ mc → sl + bs ≤ ms → Fw G A f H → va_S A s.heap H locs → lv_has ls 3 [(0, .ref a0), (1, .ref a1), (2, .int x2)] → W p l e ({ frames := 4, cells := mc, slots := ms, locals := 106 } : Room) s m ([.ref a0, .ref a1] : List Value).toArray below meth c H locs cs sl (MQ below (va_Qv (fun f9 => K f9 : FT → Prop) (FB G A) A) ([.ref a0, .ref a1] : List Value).toArray s mc ms A) (F0 m 7 ls []) := by
    intro  j9
    induction j9 with
    | zero => intro x2 f bc bs H locs ls cs sl h; exact h.elim
    | succ j9 ih7 =>
      intro x2 f bc bs H locs ls cs sl h hbc hbs hF hS hl
      have h : wp_X2_copyFrom_7 a0 a1 K  (loopW (wp_X2_copyFrom_7 a0 a1 K ) j9) (x2, f, bc, bs) := h
      generalize loopW (wp_X2_copyFrom_7 a0 a1 K ) j9 = C7 at ih7 h
      unfold wp_X2_copyFrom_7 at h
      refine lv_iload_n hx hb dX2_copyFrom_7 rfl (lv_at hl 2 rfl) ?_
      refine lv_aload_n hx hb dX2_copyFrom_8 rfl (lv_at hl 1 rfl) ?_
      obtain ⟨fs_2, v_1, he_fs_2, hv_fs_2, h⟩ := h
      refine fw_get (C := RX2) (T := TX2) (N := 2) hx hb hts hin_X2 hown hK hF he_fs_2 rfl 1 (by decide) (hts (.fieldLink RX2 13 "FrontCodedIndex$IntRow" "count" "I") (by decide +kernel)) (fun _ h9 => h9) hv_fs_2 dX2_copyFrom_9 ?_
      obtain ⟨h1, h2⟩ := h
      refine lv_icmp_ge (tgt := 30) hx hb dX2_copyFrom_12 (by decide) (fun c_3 => ?_) (fun c_3 => ?_)
      · have h := h1 c_3
        refine W.widen (k := mc) (n := ms) (by omega) (by omega) ?_
        exact W.vret hx hb hr (fun t ht hW => ⟨⟨f, rfl, h, by rw [ht]; exact hF, FK.moved hW.alike hK⟩, hS.F ht⟩) hS.2.2 dX2_copyFrom_30
      · have h := h2 c_3
        refine lv_aload_n hx hb dX2_copyFrom_15 rfl (lv_at hl 0 rfl) ?_
        refine lv_aload_n hx hb dX2_copyFrom_16 rfl (lv_at hl 1 rfl) ?_
        refine lv_iload_n hx hb dX2_copyFrom_17 rfl (lv_at hl 2 rfl) ?_
        obtain ⟨⟨fs_r_4, hrc_r_4⟩, h⟩ := h
        refine fw_cV_i_p (As := [.int x2]) (rest := [.ref a0]) ⟨hx, hb, hml, hown, hts⟩ (cc_X2_at l G h) (⟨callB_of 1 hts ggX2_copyFrom_X2_at rfl rfl rfl (hts (.initialized RX2) (by decide +kernel)) (hts (.methodLink RX2 33 yX2_at) (by decide +kernel)) (by decide +kernel) ⟨Nat.le_of_ble_eq_true rfl, Nat.le_of_ble_eq_true rfl⟩, hts (.instanceMethod yX2_at) (by decide +kernel), hts (.selects RX2 yX2_at yX2_at) (by decide +kernel)⟩) rfl hrc_r_4 hK hZ hF hS hA rfl hl.1 rfl (Nat.le_of_ble_eq_true rfl) dX2_copyFrom_18 ⟨by show _ ≤ mc; omega, by show _ ≤ ms; omega⟩ (fun r_4 H locs h hF hS => ?_)
        simp only [Nat.add_zero]
        obtain ⟨ga_7, gb_8, hga_ga_7, hgb_ga_7, h⟩ := h
        obtain ⟨⟨fs_u_5, hrc_u_5⟩, h⟩ := h
        refine fw_cV_v (As := [.int r_4]) (rest := []) ⟨hx, hb, hml, hown, hts⟩ (cc_X2_append l G h) (⟨callB_of 1 hts ggX2_copyFrom_X2_append rfl rfl rfl (hts (.initialized RX2) (by decide +kernel)) (hts (.methodLink RX2 37 yX2_append) (by decide +kernel)) (by decide +kernel) ⟨Nat.le_of_ble_eq_true rfl, Nat.le_of_ble_eq_true rfl⟩, hts (.instanceMethod yX2_append) (by decide +kernel), hts (.selects RX2 yX2_append yX2_append) (by decide +kernel)⟩) rfl hrc_u_5 hK hZ hF hS hA rfl hl.1 rfl (Nat.le_of_ble_eq_true rfl) dX2_copyFrom_21 ⟨by show _ ≤ mc; omega, by show _ ≤ ms; omega⟩ (fun f_6 H locs h hF hS => ?_)
        have hbc : (cs + ga_7) + (bc - ga_7) ≤ mc := by omega
        have hbs : (sl + gb_8) + (bs - gb_8) ≤ ms := by omega
        generalize (cs + ga_7) = cs_9 at hbc ⊢; generalize (sl + gb_8) = sl_10 at hbs ⊢
        obtain ⟨v_11, e_12⟩ : ∃ y : Int32, y = x2 + 1 := ⟨_, rfl⟩
        have h := h v_11 e_12
        refine lv_iinc (v := v_11) (lv' := [(2, .int v_11), (0, .ref a0), (1, .ref a1)]) hx hb dX2_copyFrom_24 hl (k := 2) rfl (by rw [e_12]; rfl) (by decide) rfl (fun ls hl => ?_)
        refine lv_goto (tgt := 7) hx hb dX2_copyFrom_27 (by decide) ?_
        exact ih7 v_11 f_6 (bc - ga_7) (bs - gb_8) _ _ _ _ _ hbc hbs h hF hS (lv_sub hl [1, 2, 0] rfl)
  have hl := lv_entry ([.ref a0, .ref a1]) (n := 3) (Nat.le_of_ble_eq_true rfl)
  rw [lg_entry_eq]
  generalize (lg_sl ([.ref a0, .ref a1]) ++ List.replicate (3 - (lg_sl ([.ref a0, .ref a1])).length) Slot.unset).toArray = ls at hl ⊢
  have hl : lv_has ls 3 [(0, .ref a0), (1, .ref a1)] := hl
  unfold wp_X2_copyFrom at h
  refine lv_aload_n hx hb dX2_copyFrom_0 rfl (lv_at hl 0 rfl) ?_
  refine lv_iconst (v := (0 : Int32)) hx hb dX2_copyFrom_1 (by decide) ?_
  obtain ⟨fs_13, he_fs_13, hl_fs_13, h⟩ := h
  refine fw_put (v := .int (0 : Int32)) (ty := .int) (C := RX2) (T := TX2) (N := 2) hx hb hts hin_X2 tyX2 (tyX2_ok) nmX2 hown hK hF hS he_fs_13 rfl 1 (by decide) (hts (.fieldLink RX2 13 "FrontCodedIndex$IntRow" "count" "I") (by decide +kernel)) (fun _ h9 => h9) rfl (by decide +kernel) rfl rfl hl_fs_13 dX2_copyFrom_2 (fun H locs hF hS => ?_)
  obtain ⟨f_14, hf_f_14⟩ : ∃ z, z = fup f a0 (.inr (5, fs_13.set 1 (.int (0 : Int32)))) := ⟨_, rfl⟩
  rw [← hf_f_14] at hF; have h := h f_14 hf_f_14
  refine lv_iconst (v := (0 : Int32)) hx hb dX2_copyFrom_5 (by decide) ?_
  refine lv_istore_n (lv' := [(2, .int (0 : Int32)), (0, .ref a0), (1, .ref a1)]) hx hb dX2_copyFrom_6 rfl hl (by decide) rfl (fun ls hl => ?_)
  obtain ⟨n_15, h⟩ := h
  exact L7 n_15 (0 : Int32) f_14 mc ms _ _ _ _ _ hbc hbs h hF hS (lv_sub hl [1, 2, 0] rfl)
