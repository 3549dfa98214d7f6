theorem dX4_copyFrom_0 : decode cX4_copyFrom 0 = .ok (.aload_n 0, 1) := by decide +kernel
theorem dX4_copyFrom_1 : decode cX4_copyFrom 1 = .ok (.getfield 10, 3) := by decide +kernel
theorem dX4_copyFrom_4 : decode cX4_copyFrom 4 = .ok (.invokevirtual 47, 3) := by decide +kernel
theorem dX4_copyFrom_7 : decode cX4_copyFrom 7 = .ok (.iconst 0, 1) := by decide +kernel
theorem dX4_copyFrom_8 : decode cX4_copyFrom 8 = .ok (.istore_n 2, 1) := by decide +kernel
theorem dX4_copyFrom_9 : decode cX4_copyFrom 9 = .ok (.iload_n 2, 1) := by decide +kernel
theorem dX4_copyFrom_10 : decode cX4_copyFrom 10 = .ok (.aload_n 1, 1) := by decide +kernel
theorem dX4_copyFrom_11 : decode cX4_copyFrom 11 = .ok (.getfield 10, 3) := by decide +kernel
theorem dX4_copyFrom_14 : decode cX4_copyFrom 14 = .ok (.invokevirtual 25, 3) := by decide +kernel
theorem dX4_copyFrom_17 : decode cX4_copyFrom 17 = .ok (.if_icmp .ge 28, 3) := by decide +kernel
theorem dX4_copyFrom_20 : decode cX4_copyFrom 20 = .ok (.aload_n 0, 1) := by decide +kernel
theorem dX4_copyFrom_21 : decode cX4_copyFrom 21 = .ok (.getfield 10, 3) := by decide +kernel
theorem dX4_copyFrom_24 : decode cX4_copyFrom 24 = .ok (.aload_n 1, 1) := by decide +kernel
theorem dX4_copyFrom_25 : decode cX4_copyFrom 25 = .ok (.getfield 10, 3) := by decide +kernel
theorem dX4_copyFrom_28 : decode cX4_copyFrom 28 = .ok (.iload_n 2, 1) := by decide +kernel
theorem dX4_copyFrom_29 : decode cX4_copyFrom 29 = .ok (.invokevirtual 29, 3) := by decide +kernel
theorem dX4_copyFrom_32 : decode cX4_copyFrom 32 = .ok (.checkcast 16, 3) := by decide +kernel
theorem dX4_copyFrom_35 : decode cX4_copyFrom 35 = .ok (.invokevirtual 33, 3) := by decide +kernel
theorem dX4_copyFrom_38 : decode cX4_copyFrom 38 = .ok (.pop, 1) := by decide +kernel
theorem dX4_copyFrom_39 : decode cX4_copyFrom 39 = .ok (.iinc 2 1, 3) := by decide +kernel
theorem dX4_copyFrom_42 : decode cX4_copyFrom 42 = .ok (.goto (-33), 3) := by decide +kernel
theorem dX4_copyFrom_45 : decode cX4_copyFrom 45 = .ok (.return_, 1) := by decide +kernel
set_option maxRecDepth 20000 in
theorem ggX4_copyFrom_Jx4a65c_add_9ea2d : GoodIn wsX4_copyFrom wsJx4a65c_add_9ea2d := goodIn_r _ [35, 8, 9, 10, 11, 36, 37, 38, 6, 39, 40, 41, 42, 43, 44, 45, 46, 47, 48, 49, 50, 51, 52, 53, 54, 55, 56, 57, 58, 59, 60, 61, 62, 63, 64, 65, 66, 67, 68, 69, 70, 71, 72, 73, 74, 75, 76, 77, 78, 79, 80, 81, 82, 85, 86, 87] (by decide +kernel) (by decide +kernel)
set_option maxRecDepth 20000 in
theorem ggX4_copyFrom_Jx4a65c_clear_da8c8 : GoodIn wsX4_copyFrom wsJx4a65c_clear_da8c8 := goodIn_r _ [7, 8, 9, 10, 11, 85, 86, 87] (by decide +kernel) (by decide +kernel)
set_option maxRecDepth 20000 in
theorem ggX4_copyFrom_Jx4a65c_get_915e3 : GoodIn wsX4_copyFrom wsJx4a65c_get_915e3 := goodIn_r _ [19, 11, 20, 21, 22, 23, 24, 25, 26, 27, 28, 29, 30, 6, 31, 10, 85, 86, 87] (by decide +kernel) (by decide +kernel)
set_option maxRecDepth 20000 in
theorem ggX4_copyFrom_Jx4a65c_size_8abf5 : GoodIn wsX4_copyFrom wsJx4a65c_size_8abf5 := goodIn_r _ [15, 11, 85, 86, 87] (by decide +kernel) (by decide +kernel)
def wp_X4_copyFrom_9 (zd : Nat) (a0 : Nat) (a1 : Nat) (K : FT → Prop)  (C9 : Int32 × FT × Nat × Nat → Prop) : Int32 × FT × Nat × Nat → Prop := fun s9 => match s9 with
  | (y2, f, bc, bs) => gA f a1 7 0 fun a_1 => isO f a_1 2 ∧ wp_Jx4a65c_size_8abf5 a_1 f (fun r_3 => ((r_3 ≤ y2 → K f) ∧
 (¬ (r_3 ≤ y2) → gA f a0 7 0 fun a_5 => gA f a1 7 0 fun a_7 => isO f a_7 2 ∧ wp_Jx4a65c_get_915e3 a_7 y2 f (fun a_9 => isO f a_9 6 ∧ ∃ ga_13 gb_14 : Nat, ga_13 ≤ bc ∧ gb_14 ≤ bs ∧ isO f a_5 2 ∧ wp_Jx4a65c_add_9ea2d zd a_5 a_9 f ga_13 gb_14 (fun r_11 f_12 => ∀ v_17 : Int32, v_17 = y2 + 1 → C9 (v_17, f_12, (bc - ga_13), (bs - gb_14)))))))
def wp_X4_copyFrom (zd : Nat) (a0 : Nat) (a1 : Nat) (f : FT) (mc ms : Nat) (K : FT → Prop) : Prop :=
  gA f a0 7 0 fun a_19 => isO f a_19 2 ∧ wp_Jx4a65c_clear_da8c8 a_19 f (fun f_22 => ∃ n_23, loopW (wp_X4_copyFrom_9 zd a0 a1 K) n_23 ((0 : Int32), f_22, mc, ms))
set_option maxHeartbeats 4000000 in
set_option maxRecDepth 100000 in
theorem cc_X4_copyFrom (l : Launch) (G : GG) {zd : Nat} (hzd : G.2.2 0 = zd) {f : FT} {sz : Nat} {a0 : Nat} {a1 : Nat} {mc ms : Nat} {K : FT → Prop} (h : wp_X4_copyFrom zd a0 a1 f mc ms K) : Met l yX4_copyFrom wsX4_copyFrom ({ frames := 7, cells := mc, slots := ms, locals := 171 } : Room) (FP G [.ref a0, .ref a1] f sz) (va_Qv (fun f9 => K f9 : FT → Prop) (FB G (fA f sz)) (fA f sz)) mc ms (fA f sz) := by
  refine Met.ofW (cc := cX4_copyFrom) (maxL := 3) (ret := none) (by decide) rfl ?_
  intro p e s m args below meth c s₁ B hml hv
  obtain ⟨rfl, hsz, hF, hK, hZ⟩ := hv
  have hx := B.exec
  have hb := B.bytes
  have hr := B.returns
  have hts := atoms_spec (ws := wsX4_copyFrom) B.pre
  have hown : s.vm.findClass RX4 = some m.cls := findClass_of_methodNamed B.named
  have hlocks := B.notSynchronized
  subst hsz
  have hF := hF.self (sz := s.heap.size)
  generalize hAe : fA f s.heap.size = A at hF hZ ⊢
  have hA : ∀ q : Nat, s.heap.size ≤ q → A q := fun q h => by rw [← hAe]; exact Or.inr h
  have hS : va_S A s.heap s.heap [] := va_S.rf
  have hZ9 : va_Z "java/util/ArrayList" "DEFAULTCAPACITY_EMPTY_ELEMENTDATA" "[Ljava/lang/Object;" (.ref zd) A s s.heap := by rw [← hzd]; exact hZ.1
  have hin_X4 : ∀ w ∈ wsX40, w ∈ wsX4_copyFrom := by decide +kernel
  have hbc : 0 + mc ≤ mc := by omega
  have hbs : 0 + ms ≤ ms := by omega
  have L9 : ∀  (j9 : Nat) (y2 : Int32) (f : FT) (bc : Nat) (bs : Nat) (H : Heap) (locs : List Loc) (ls : Array Slot) (cs sl : Nat), loopW (wp_X4_copyFrom_9 zd a0 a1 K ) j9 (y2, f, bc, bs) → cs + bc ≤ mc → sl + bs ≤ ms → Fw G A f H → va_S A s.heap H locs → lv_has ls 3 [(0, .ref a0), (1, .ref a1), (2, .int y2)] → W p l e ({ frames := 7, cells := mc, slots := ms, locals := 171 } : Room) s m ([.ref a0, .ref a1] : List Value).toArray below meth c H locs cs sl (MQ below (va_Qv (fun f9 => K f9 : FT → Prop) (FB G A) A) ([.ref a0, .ref a1] : List Value).toArray s mc ms A) (F0 m 9 ls []) := by
    intro  j9
    induction j9 with
    | zero => intro y2 f bc bs H locs ls cs sl h; exact h.elim
    | succ j9 ih9 =>
      intro y2 f bc bs H locs ls cs sl h hbc hbs hF hS hl
      have h : wp_X4_copyFrom_9 zd a0 a1 K  (loopW (wp_X4_copyFrom_9 zd a0 a1 K ) j9) (y2, f, bc, bs) := h
      generalize loopW (wp_X4_copyFrom_9 zd a0 a1 K ) j9 = C9 at ih9 h
      unfold wp_X4_copyFrom_9 at h
      refine lv_iload_n hx hb dX4_copyFrom_9 rfl (lv_at hl 2 rfl) ?_
      refine lv_aload_n hx hb dX4_copyFrom_10 rfl (lv_at hl 1 rfl) ?_
      obtain ⟨fs_2, a_1, he_fs_2, hv_fs_2, h⟩ := h
      refine fw_get (C := RX4) (T := TX4) (N := 2) hx hb hts hin_X4 hown hK hF he_fs_2 rfl 0 (by decide) (hts (.fieldLink RX4 10 "FrontCodedIndex$KeyRow" "cells" "Ljava/util/ArrayList;") (by decide +kernel)) (fun _ h9 => h9) hv_fs_2 dX4_copyFrom_11 ?_
      obtain ⟨⟨fs_r_3, hrc_r_3⟩, h⟩ := h
      refine fw_cV_i_p (As := []) (rest := [.int y2]) ⟨hx, hb, hml, hown, hts⟩ (cc_Jx4a65c_size_8abf5 l G h) (⟨callB_of 0 hts ggX4_copyFrom_Jx4a65c_size_8abf5 rfl rfl rfl (hts (.initialized RJx4a65c) (by decide +kernel)) (hts (.methodLink RX4 25 yJx4a65c_size_8abf5) (by decide +kernel)) (by decide +kernel) ⟨Nat.le_of_ble_eq_true rfl, Nat.le_of_ble_eq_true rfl⟩, hts (.instanceMethod yJx4a65c_size_8abf5) (by decide +kernel), hts (.selects RJx4a65c yJx4a65c_size_8abf5 yJx4a65c_size_8abf5) (by decide +kernel)⟩) rfl hrc_r_3 hK hZ hF hS hA rfl hl.1 rfl (Nat.le_of_ble_eq_true rfl) dX4_copyFrom_14 ⟨by show _ ≤ mc; omega, by show _ ≤ ms; omega⟩ (fun r_3 H locs h hF hS => ?_)
      simp only [Nat.add_zero]
      obtain ⟨h1, h2⟩ := h
      refine lv_icmp_ge (tgt := 45) hx hb dX4_copyFrom_17 (by decide) (fun c_4 => ?_) (fun c_4 => ?_)
      · have h := h1 c_4
        refine W.widen (k := mc) (n := ms) (by omega) (by omega) ?_
        exact W.vret hx hb hr (fun t ht hW => ⟨⟨f, rfl, h, by rw [ht]; exact hF, FK.moved hW.alike hK⟩, hS.F ht⟩) hS.2.2 dX4_copyFrom_45
      · have h := h2 c_4
        refine lv_aload_n hx hb dX4_copyFrom_20 rfl (lv_at hl 0 rfl) ?_
        obtain ⟨fs_6, a_5, he_fs_6, hv_fs_6, h⟩ := h
        refine fw_get (C := RX4) (T := TX4) (N := 2) hx hb hts hin_X4 hown hK hF he_fs_6 rfl 0 (by decide) (hts (.fieldLink RX4 10 "FrontCodedIndex$KeyRow" "cells" "Ljava/util/ArrayList;") (by decide +kernel)) (fun _ h9 => h9) hv_fs_6 dX4_copyFrom_21 ?_
        refine lv_aload_n hx hb dX4_copyFrom_24 rfl (lv_at hl 1 rfl) ?_
        obtain ⟨fs_8, a_7, he_fs_8, hv_fs_8, h⟩ := h
        refine fw_get (C := RX4) (T := TX4) (N := 2) hx hb hts hin_X4 hown hK hF he_fs_8 rfl 0 (by decide) (hts (.fieldLink RX4 10 "FrontCodedIndex$KeyRow" "cells" "Ljava/util/ArrayList;") (by decide +kernel)) (fun _ h9 => h9) hv_fs_8 dX4_copyFrom_25 ?_
        refine lv_iload_n hx hb dX4_copyFrom_28 rfl (lv_at hl 2 rfl) ?_
        obtain ⟨⟨fs_a_9, hrc_a_9⟩, h⟩ := h
        refine fw_cV_q_p (As := [.int y2]) (rest := [.ref a_5]) ⟨hx, hb, hml, hown, hts⟩ (cc_Jx4a65c_get_915e3 l G h) (⟨callB_of 1 hts ggX4_copyFrom_Jx4a65c_get_915e3 rfl rfl rfl (hts (.initialized RJx4a65c) (by decide +kernel)) (hts (.methodLink RX4 29 yJx4a65c_get_915e3) (by decide +kernel)) (by decide +kernel) ⟨Nat.le_of_ble_eq_true rfl, Nat.le_of_ble_eq_true rfl⟩, hts (.instanceMethod yJx4a65c_get_915e3) (by decide +kernel), hts (.selects RJx4a65c yJx4a65c_get_915e3 yJx4a65c_get_915e3) (by decide +kernel)⟩) rfl hrc_a_9 hK hZ hF hS hA rfl hl.1 rfl (Nat.le_of_ble_eq_true rfl) dX4_copyFrom_29 ⟨by show _ ≤ mc; omega, by show _ ≤ ms; omega⟩ (fun a_9 H locs h hF hS => ?_)
        simp only [Nat.add_zero]
        obtain ⟨⟨q_10, he_q_10⟩, h⟩ := h
        refine va_castS hx hb hown (hts (.classLink RX4 16 RX3) (by decide +kernel)) (hK.1.1 6 _ rfl).2 (Fw.recv hK hF rfl he_q_10) dX4_copyFrom_32 ?_
        obtain ⟨ga_13, gb_14, hga_ga_13, hgb_ga_13, h⟩ := h
        obtain ⟨⟨fs_r_11, hrc_r_11⟩, h⟩ := h
        refine fw_cV_i (As := [.ref a_9]) (rest := []) ⟨hx, hb, hml, hown, hts⟩ (cc_Jx4a65c_add_9ea2d l G hzd h) (⟨callB_of 1 hts ggX4_copyFrom_Jx4a65c_add_9ea2d rfl rfl rfl (hts (.initialized RJx4a65c) (by decide +kernel)) (hts (.methodLink RX4 33 yJx4a65c_add_9ea2d) (by decide +kernel)) (by decide +kernel) ⟨Nat.le_of_ble_eq_true rfl, Nat.le_of_ble_eq_true rfl⟩, hts (.instanceMethod yJx4a65c_add_9ea2d) (by decide +kernel), hts (.selects RJx4a65c yJx4a65c_add_9ea2d yJx4a65c_add_9ea2d) (by decide +kernel)⟩) rfl hrc_r_11 hK hZ hF hS hA rfl hl.1 rfl (Nat.le_of_ble_eq_true rfl) dX4_copyFrom_35 ⟨by show _ ≤ mc; omega, by show _ ≤ ms; omega⟩ (fun r_11 f_12 H locs h hF hS => ?_)
        obtain ⟨cs_15, hcs⟩ : ∃ z, z = (cs + ga_13) := ⟨_, rfl⟩; obtain ⟨sl_16, hsl⟩ : ∃ z, z = (sl + gb_14) := ⟨_, rfl⟩
        have hbc : cs_15 + (bc - ga_13) ≤ mc := by omega
        have hbs : sl_16 + (bs - gb_14) ≤ ms := by omega
        refine W.widen (k := cs_15) (n := sl_16) (by omega) (by omega) ?_
        clear hcs hsl
        refine lv_pop hx hb dX4_copyFrom_38 rfl ?_
        obtain ⟨v_17, e_18⟩ : ∃ y : Int32, y = y2 + 1 := ⟨_, rfl⟩
        have h := h v_17 e_18
        refine lv_iinc (v := v_17) (lv' := [(2, .int v_17), (0, .ref a0), (1, .ref a1)]) hx hb dX4_copyFrom_39 hl (k := 2) rfl (by rw [e_18]; rfl) (by decide) rfl (fun ls hl => ?_)
        refine lv_goto (tgt := 9) hx hb dX4_copyFrom_42 (by decide) ?_
        exact ih9 v_17 f_12 (bc - ga_13) (bs - gb_14) _ _ _ _ _ h hbc hbs hF hS (lv_sub hl [1, 2, 0] rfl)
  have hl := lv_entry ([.ref a0, .ref a1]) (n := 3) (Nat.le_of_ble_eq_true rfl)
  rw [lg_entry_eq]
  generalize (lg_sl ([.ref a0, .ref a1]) ++ List.replicate (3 - (lg_sl ([.ref a0, .ref a1])).length) Slot.unset).toArray = ls at hl ⊢
  have hl : lv_has ls 3 [(0, .ref a0), (1, .ref a1)] := hl
  unfold wp_X4_copyFrom at h
  refine lv_aload_n hx hb dX4_copyFrom_0 rfl (lv_at hl 0 rfl) ?_
  obtain ⟨fs_20, a_19, he_fs_20, hv_fs_20, h⟩ := h
  refine fw_get (C := RX4) (T := TX4) (N := 2) hx hb hts hin_X4 hown hK hF he_fs_20 rfl 0 (by decide) (hts (.fieldLink RX4 10 "FrontCodedIndex$KeyRow" "cells" "Ljava/util/ArrayList;") (by decide +kernel)) (fun _ h9 => h9) hv_fs_20 dX4_copyFrom_1 ?_
  obtain ⟨⟨fs_u_21, hrc_u_21⟩, h⟩ := h
  refine fw_cV_v (As := []) (rest := []) ⟨hx, hb, hml, hown, hts⟩ (cc_Jx4a65c_clear_da8c8 l G h) (⟨callB_of 0 hts ggX4_copyFrom_Jx4a65c_clear_da8c8 rfl rfl rfl (hts (.initialized RJx4a65c) (by decide +kernel)) (hts (.methodLink RX4 47 yJx4a65c_clear_da8c8) (by decide +kernel)) (by decide +kernel) ⟨Nat.le_of_ble_eq_true rfl, Nat.le_of_ble_eq_true rfl⟩, hts (.instanceMethod yJx4a65c_clear_da8c8) (by decide +kernel), hts (.selects RJx4a65c yJx4a65c_clear_da8c8 yJx4a65c_clear_da8c8) (by decide +kernel)⟩) rfl hrc_u_21 hK hZ hF hS hA rfl hl.1 rfl (Nat.le_of_ble_eq_true rfl) dX4_copyFrom_4 ⟨by show _ ≤ mc; omega, by show _ ≤ ms; omega⟩ (fun f_22 H locs h hF hS => ?_)
  simp only [Nat.add_zero]
  refine lv_iconst (v := (0 : Int32)) hx hb dX4_copyFrom_7 (by decide) ?_
  refine lv_istore_n (lv' := [(2, .int (0 : Int32)), (0, .ref a0), (1, .ref a1)]) hx hb dX4_copyFrom_8 rfl hl (by decide) rfl (fun ls hl => ?_)
  obtain ⟨n_23, h⟩ := h
  exact L9 n_23 (0 : Int32) f_22 mc ms _ _ _ _ _ h hbc hbs hF hS (lv_sub hl [1, 2, 0] rfl)
theorem dX4_count_0 : decode cX4_count 0 = .ok (.aload_n 0, 1) := by decide +kernel
theorem dX4_count_1 : decode cX4_count 1 = .ok (.getfield 10, 3) := by decide +kernel
theorem dX4_count_4 : decode cX4_count 4 = .ok (.invokevirtual 25, 3) := by decide +kernel
theorem dX4_count_7 : decode cX4_count 7 = .ok (.ireturn, 1) := by decide +kernel
set_option maxRecDepth 20000 in
theorem ggX4_count_Jx4a65c_size_8abf5 : GoodIn wsX4_count wsJx4a65c_size_8abf5 := goodIn_r _ [6, 7, 10, 11, 12] (by decide +kernel) (by decide +kernel)
def wp_X4_count (a0 : Nat) (f : FT) (K : Int32 → Prop) : Prop :=
  gA f a0 7 0 fun a_1 => isO f a_1 2 ∧ wp_Jx4a65c_size_8abf5 a_1 f (fun r_3 => K r_3)
set_option maxHeartbeats 4000000 in
set_option maxRecDepth 100000 in
theorem cc_X4_count (l : Launch) (G : GG) {f : FT} {sz : Nat} {a0 : Nat} {K : Int32 → Prop} (h : wp_X4_count a0 f K) : Met l yX4_count wsX4_count ({ frames := 1, cells := 0, slots := 0, locals := 20 } : Room) (FP G [.ref a0] f sz) (va_Qi (fun r f9 => K r ∧ f9 = f : Int32 → FT → Prop) (FB G (fA f sz)) (fA f sz)) 0 0 (fA f sz) := by
  refine Met.ofW (cc := cX4_count) (maxL := 1) (ret := (some .int)) (by decide) rfl ?_
  intro p e s m args below meth c s₁ B hml hv
  obtain ⟨rfl, hsz, hF, hK, hZ⟩ := hv
  have hx := B.exec
  have hb := B.bytes
  have hr := B.returns
  have hts := atoms_spec (ws := wsX4_count) B.pre
  have hown : s.vm.findClass RX4 = some m.cls := findClass_of_methodNamed B.named
  have hlocks := B.notSynchronized
  subst hsz
  have hF := hF.self (sz := s.heap.size)
  generalize hAe : fA f s.heap.size = A at hF hZ ⊢
  have hA : ∀ q : Nat, s.heap.size ≤ q → A q := fun q h => by rw [← hAe]; exact Or.inr h
  have hS : va_S A s.heap s.heap [] := va_S.rf
  have hin_X4 : ∀ w ∈ wsX40, w ∈ wsX4_count := by decide +kernel
  have hl := lv_entry ([.ref a0]) (n := 1) (Nat.le_of_ble_eq_true rfl)
  rw [lg_entry_eq]
  generalize (lg_sl ([.ref a0]) ++ List.replicate (1 - (lg_sl ([.ref a0])).length) Slot.unset).toArray = ls at hl ⊢
  have hl : lv_has ls 1 [(0, .ref a0)] := hl
  unfold wp_X4_count at h
  refine lv_aload_n hx hb dX4_count_0 rfl (lv_at hl 0 rfl) ?_
  obtain ⟨fs_2, a_1, he_fs_2, hv_fs_2, h⟩ := h
  refine fw_get (C := RX4) (T := TX4) (N := 2) hx hb hts hin_X4 hown hK hF he_fs_2 rfl 0 (by decide) (hts (.fieldLink RX4 10 "FrontCodedIndex$KeyRow" "cells" "Ljava/util/ArrayList;") (by decide +kernel)) (fun _ h9 => h9) hv_fs_2 dX4_count_1 ?_
  obtain ⟨⟨fs_r_3, hrc_r_3⟩, h⟩ := h
  refine fw_cV_i_p (As := []) (rest := []) ⟨hx, hb, hml, hown, hts⟩ (cc_Jx4a65c_size_8abf5 l G h) (⟨callB_of 0 hts ggX4_count_Jx4a65c_size_8abf5 rfl rfl rfl (hts (.initialized RJx4a65c) (by decide +kernel)) (hts (.methodLink RX4 25 yJx4a65c_size_8abf5) (by decide +kernel)) (by decide +kernel) ⟨Nat.le_of_ble_eq_true rfl, Nat.le_of_ble_eq_true rfl⟩, hts (.instanceMethod yJx4a65c_size_8abf5) (by decide +kernel), hts (.selects RJx4a65c yJx4a65c_size_8abf5 yJx4a65c_size_8abf5) (by decide +kernel)⟩) rfl hrc_r_3 hK hZ hF hS hA rfl hl.1 rfl (Nat.le_of_ble_eq_true rfl) dX4_count_4 ⟨Nat.zero_le _, Nat.zero_le _⟩ (fun r_3 H locs h hF hS => ?_)
  exact W.iret (v := r_3) hx hb hr (fun t ht hW => ⟨⟨r_3, f, rfl, ⟨h, rfl⟩, by rw [ht]; exact hF, FK.moved hW.alike hK⟩, hS.F ht⟩) hS.2.2 dX4_count_7
theorem dJx4a65c_fastRemove_b59b0_0 : decode cJx4a65c_fastRemove_b59b0 0 = .ok (.aload_n 0, 1) := by decide +kernel
theorem dJx4a65c_fastRemove_b59b0_1 : decode cJx4a65c_fastRemove_b59b0 1 = .ok (.dup, 1) := by decide +kernel
theorem dJx4a65c_fastRemove_b59b0_2 : decode cJx4a65c_fastRemove_b59b0 2 = .ok (.getfield 63, 3) := by decide +kernel
theorem dJx4a65c_fastRemove_b59b0_5 : decode cJx4a65c_fastRemove_b59b0 5 = .ok (.iconst 1, 1) := by decide +kernel
theorem dJx4a65c_fastRemove_b59b0_6 : decode cJx4a65c_fastRemove_b59b0 6 = .ok (.iadd, 1) := by decide +kernel
theorem dJx4a65c_fastRemove_b59b0_7 : decode cJx4a65c_fastRemove_b59b0 7 = .ok (.putfield 63, 3) := by decide +kernel
theorem dJx4a65c_fastRemove_b59b0_10 : decode cJx4a65c_fastRemove_b59b0 10 = .ok (.aload_n 0, 1) := by decide +kernel
theorem dJx4a65c_fastRemove_b59b0_11 : decode cJx4a65c_fastRemove_b59b0 11 = .ok (.getfield 48, 3) := by decide +kernel
theorem dJx4a65c_fastRemove_b59b0_14 : decode cJx4a65c_fastRemove_b59b0 14 = .ok (.iconst 1, 1) := by decide +kernel
theorem dJx4a65c_fastRemove_b59b0_15 : decode cJx4a65c_fastRemove_b59b0 15 = .ok (.isub, 1) := by decide +kernel
theorem dJx4a65c_fastRemove_b59b0_16 : decode cJx4a65c_fastRemove_b59b0 16 = .ok (.dup, 1) := by decide +kernel
theorem dJx4a65c_fastRemove_b59b0_17 : decode cJx4a65c_fastRemove_b59b0 17 = .ok (.istore_n 3, 1) := by decide +kernel
theorem dJx4a65c_fastRemove_b59b0_18 : decode cJx4a65c_fastRemove_b59b0 18 = .ok (.iload_n 2, 1) := by decide +kernel
theorem dJx4a65c_fastRemove_b59b0_19 : decode cJx4a65c_fastRemove_b59b0 19 = .ok (.if_icmp .le 15, 3) := by decide +kernel
theorem dJx4a65c_fastRemove_b59b0_22 : decode cJx4a65c_fastRemove_b59b0 22 = .ok (.aload_n 1, 1) := by decide +kernel
theorem dJx4a65c_fastRemove_b59b0_23 : decode cJx4a65c_fastRemove_b59b0 23 = .ok (.iload_n 2, 1) := by decide +kernel
theorem dJx4a65c_fastRemove_b59b0_24 : decode cJx4a65c_fastRemove_b59b0 24 = .ok (.iconst 1, 1) := by decide +kernel
theorem dJx4a65c_fastRemove_b59b0_25 : decode cJx4a65c_fastRemove_b59b0 25 = .ok (.iadd, 1) := by decide +kernel
theorem dJx4a65c_fastRemove_b59b0_26 : decode cJx4a65c_fastRemove_b59b0 26 = .ok (.aload_n 1, 1) := by decide +kernel
theorem dJx4a65c_fastRemove_b59b0_27 : decode cJx4a65c_fastRemove_b59b0 27 = .ok (.iload_n 2, 1) := by decide +kernel
theorem dJx4a65c_fastRemove_b59b0_28 : decode cJx4a65c_fastRemove_b59b0 28 = .ok (.iload_n 3, 1) := by decide +kernel
theorem dJx4a65c_fastRemove_b59b0_29 : decode cJx4a65c_fastRemove_b59b0 29 = .ok (.iload_n 2, 1) := by decide +kernel
theorem dJx4a65c_fastRemove_b59b0_30 : decode cJx4a65c_fastRemove_b59b0 30 = .ok (.isub, 1) := by decide +kernel
theorem dJx4a65c_fastRemove_b59b0_31 : decode cJx4a65c_fastRemove_b59b0 31 = .ok (.invokestatic 112, 3) := by decide +kernel
theorem dJx4a65c_fastRemove_b59b0_34 : decode cJx4a65c_fastRemove_b59b0 34 = .ok (.aload_n 1, 1) := by decide +kernel
theorem dJx4a65c_fastRemove_b59b0_35 : decode cJx4a65c_fastRemove_b59b0 35 = .ok (.aload_n 0, 1) := by decide +kernel
theorem dJx4a65c_fastRemove_b59b0_36 : decode cJx4a65c_fastRemove_b59b0 36 = .ok (.iload_n 3, 1) := by decide +kernel
theorem dJx4a65c_fastRemove_b59b0_37 : decode cJx4a65c_fastRemove_b59b0 37 = .ok (.dup_x1, 1) := by decide +kernel
theorem dJx4a65c_fastRemove_b59b0_38 : decode cJx4a65c_fastRemove_b59b0 38 = .ok (.putfield 48, 3) := by decide +kernel
theorem dJx4a65c_fastRemove_b59b0_41 : decode cJx4a65c_fastRemove_b59b0 41 = .ok (.aconst_null, 1) := by decide +kernel
theorem dJx4a65c_fastRemove_b59b0_42 : decode cJx4a65c_fastRemove_b59b0 42 = .ok (.aastore, 1) := by decide +kernel
theorem dJx4a65c_fastRemove_b59b0_43 : decode cJx4a65c_fastRemove_b59b0 43 = .ok (.return_, 1) := by decide +kernel
def wp_Jx4a65c_fastRemove_b59b0_34 (a0 : Nat) (a1 : Nat) (y3 : Int32) (f : FT) (K : FT → Prop)  : Prop :=
  pV f a0 2 2 (.int y3) fun f_2 => sN f_2 a1 y3 fun f_4 => K f_4
def wp_Jx4a65c_fastRemove_b59b0 (a0 : Nat) (a1 : Nat) (x2 : Int32) (f : FT) (K : FT → Prop) : Prop :=
  gI f a0 2 0 fun v_5 => pV f a0 2 0 (.int (v_5 + (1 : Int32))) fun f_8 => gI f_8 a0 2 2 fun v_9 => ∀ v_11 : Int32, v_11 = (v_9 - (1 : Int32)) → (((v_9 - (1 : Int32)) ≤ x2 → wp_Jx4a65c_fastRemove_b59b0_34 a0 a1 v_11 f_8 K) ∧
 (¬ ((v_9 - (1 : Int32)) ≤ x2) → cR f_8 a1 (x2 + (1 : Int32)) a1 x2 (v_11 - x2) fun f_15 => wp_Jx4a65c_fastRemove_b59b0_34 a0 a1 v_11 f_15 K))
set_option maxHeartbeats 4000000 in
set_option maxRecDepth 100000 in
theorem cc_Jx4a65c_fastRemove_b59b0 (l : Launch) (G : GG) {f : FT} {sz : Nat} {a0 : Nat} {a1 : Nat} {x2 : Int32} {K : FT → Prop} (h : wp_Jx4a65c_fastRemove_b59b0 a0 a1 x2 f K) : Met l yJx4a65c_fastRemove_b59b0 wsJx4a65c_fastRemove_b59b0 ({ frames := 1, cells := 0, slots := 0, locals := 40 } : Room) (FP G [.ref a0, .ref a1, .int x2] f sz) (va_Qv (fun f9 => K f9 : FT → Prop) (FB G (fA f sz)) (fA f sz)) 0 0 (fA f sz) := by
  refine Met.ofW (cc := cJx4a65c_fastRemove_b59b0) (maxL := 4) (ret := none) (by decide) rfl ?_
  intro p e s m args below meth c s₁ B hml hv
  obtain ⟨rfl, hsz, hF, hK, hZ⟩ := hv
  have hx := B.exec
  have hb := B.bytes
  have hr := B.returns
  have hts := atoms_spec (ws := wsJx4a65c_fastRemove_b59b0) B.pre
  have hown : s.vm.findClass RJx4a65c = some m.cls := findClass_of_methodNamed B.named
  have hlocks := B.notSynchronized
  subst hsz
  have hF := hF.self (sz := s.heap.size)
  generalize hAe : fA f s.heap.size = A at hF hZ ⊢
  have hA : ∀ q : Nat, s.heap.size ≤ q → A q := fun q h => by rw [← hAe]; exact Or.inr h
  have hS : va_S A s.heap s.heap [] := va_S.rf
  have hin_Jx4a65c : ∀ w ∈ wsJx4a65c0, w ∈ wsJx4a65c_fastRemove_b59b0 := by decide +kernel
  have J34 : ∀ (y3 : Int32) (f : FT) (H : Heap) (locs : List Loc) (ls : Array Slot), wp_Jx4a65c_fastRemove_b59b0_34 a0 a1 y3 f K  → Fw G A f H → va_S A s.heap H locs → lv_has ls 4 [(0, .ref a0), (1, .ref a1), (3, .int y3)] → W p l e ({ frames := 1, cells := 0, slots := 0, locals := 40 } : Room) s m ([.ref a0, .ref a1, .int x2] : List Value).toArray below meth c H locs 0 0 (MQ below (va_Qv (fun f9 => K f9 : FT → Prop) (FB G A) A) ([.ref a0, .ref a1, .int x2] : List Value).toArray s 0 0 A) (F0 m 34 ls []) := by
    intro y3 f H locs ls h hF hS hl
    unfold wp_Jx4a65c_fastRemove_b59b0_34 at h
    refine lv_aload_n hx hb dJx4a65c_fastRemove_b59b0_34 rfl (lv_at hl 1 rfl) ?_
    refine lv_aload_n hx hb dJx4a65c_fastRemove_b59b0_35 rfl (lv_at hl 0 rfl) ?_
    refine lv_iload_n hx hb dJx4a65c_fastRemove_b59b0_36 rfl (lv_at hl 2 rfl) ?_
    refine lv_dup_x1 hx hb dJx4a65c_fastRemove_b59b0_37 rfl rfl ?_
    obtain ⟨fs_1, he_fs_1, hl_fs_1, h⟩ := h
    refine fw_put (v := .int y3) (ty := .int) (C := RJx4a65c) (T := TJx4a65c) (N := 3) hx hb hts hin_Jx4a65c tyJx4a65c (tyJx4a65c_ok) nmJx4a65c hown hK hF hS he_fs_1 rfl 2 (by decide) (hts (.fieldLink RJx4a65c 48 "java/util/ArrayList" "size" "I") (by decide +kernel)) (fun _ h9 => h9) rfl (by decide +kernel) rfl rfl hl_fs_1 dJx4a65c_fastRemove_b59b0_38 (fun H locs hF hS => ?_)
    obtain ⟨f_2, hf_f_2⟩ : ∃ z, z = fup f a0 (.inr (2, fs_1.set 2 (.int y3))) := ⟨_, rfl⟩
    rw [← hf_f_2] at hF; have h := h f_2 hf_f_2
    refine lv_null hx hb dJx4a65c_fastRemove_b59b0_41 ?_
    obtain ⟨n_q_3, q_3, he_q_3, hi_q_3, h⟩ := h
    refine fw_aastN hx hb hK hF hS he_q_3 hi_q_3 dJx4a65c_fastRemove_b59b0_42 (fun H locs hF hS => ?_)
    obtain ⟨f_4, hf_f_4⟩ : ∃ z, z = fup f_2 a1 (.inl (2, n_q_3, .inr (.inr (.inr (.inr (va_up q_3 (y3).toNatClampNeg none)))))) := ⟨_, rfl⟩
    rw [← hf_f_4] at hF; have h := h f_4 hf_f_4
    exact W.vret hx hb hr (fun t ht hW => ⟨⟨f_4, rfl, h, by rw [ht]; exact hF, FK.moved hW.alike hK⟩, hS.F ht⟩) hS.2.2 dJx4a65c_fastRemove_b59b0_43
  have hl := lv_entry ([.ref a0, .ref a1, .int x2]) (n := 4) (Nat.le_of_ble_eq_true rfl)
  rw [lg_entry_eq]
  generalize (lg_sl ([.ref a0, .ref a1, .int x2]) ++ List.replicate (4 - (lg_sl ([.ref a0, .ref a1, .int x2])).length) Slot.unset).toArray = ls at hl ⊢
  have hl : lv_has ls 4 [(0, .ref a0), (1, .ref a1), (2, .int x2)] := hl
  unfold wp_Jx4a65c_fastRemove_b59b0 at h
  refine lv_aload_n hx hb dJx4a65c_fastRemove_b59b0_0 rfl (lv_at hl 0 rfl) ?_
  refine lv_dup hx hb dJx4a65c_fastRemove_b59b0_1 rfl ?_
  obtain ⟨fs_6, v_5, he_fs_6, hv_fs_6, h⟩ := h
  refine fw_get (C := RJx4a65c) (T := TJx4a65c) (N := 3) hx hb hts hin_Jx4a65c hown hK hF he_fs_6 rfl 0 (by decide) (hts (.fieldLink RJx4a65c 63 "java/util/ArrayList" "modCount" "I") (by decide +kernel)) (fun x9 h9 => u_same (hts (.sameField "java/util/ArrayList" "java/util/AbstractList" "modCount" "I") (by decide +kernel)) x9 h9) hv_fs_6 dJx4a65c_fastRemove_b59b0_2 ?_
  refine lv_iconst (v := (1 : Int32)) hx hb dJx4a65c_fastRemove_b59b0_5 (by decide) ?_
  refine lv_iadd hx hb dJx4a65c_fastRemove_b59b0_6 ?_
  obtain ⟨fs_7, he_fs_7, hl_fs_7, h⟩ := h
  refine fw_put (v := .int (v_5 + (1 : Int32))) (ty := .int) (C := RJx4a65c) (T := TJx4a65c) (N := 3) hx hb hts hin_Jx4a65c tyJx4a65c (tyJx4a65c_ok) nmJx4a65c hown hK hF hS he_fs_7 rfl 0 (by decide) (hts (.fieldLink RJx4a65c 63 "java/util/ArrayList" "modCount" "I") (by decide +kernel)) (fun x9 h9 => u_same (hts (.sameField "java/util/ArrayList" "java/util/AbstractList" "modCount" "I") (by decide +kernel)) x9 h9) rfl (by decide +kernel) rfl rfl hl_fs_7 dJx4a65c_fastRemove_b59b0_7 (fun H locs hF hS => ?_)
  obtain ⟨f_8, hf_f_8⟩ : ∃ z, z = fup f a0 (.inr (2, fs_7.set 0 (.int (v_5 + (1 : Int32))))) := ⟨_, rfl⟩
  rw [← hf_f_8] at hF; have h := h f_8 hf_f_8
  refine lv_aload_n hx hb dJx4a65c_fastRemove_b59b0_10 rfl (lv_at hl 0 rfl) ?_
  obtain ⟨fs_10, v_9, he_fs_10, hv_fs_10, h⟩ := h
  refine fw_get (C := RJx4a65c) (T := TJx4a65c) (N := 3) hx hb hts hin_Jx4a65c hown hK hF he_fs_10 rfl 2 (by decide) (hts (.fieldLink RJx4a65c 48 "java/util/ArrayList" "size" "I") (by decide +kernel)) (fun _ h9 => h9) hv_fs_10 dJx4a65c_fastRemove_b59b0_11 ?_
  refine lv_iconst (v := (1 : Int32)) hx hb dJx4a65c_fastRemove_b59b0_14 (by decide) ?_
  refine lv_isub hx hb dJx4a65c_fastRemove_b59b0_15 ?_
  refine lv_dup hx hb dJx4a65c_fastRemove_b59b0_16 rfl ?_
  refine lv_topi (fun v_11 e_12 => ?_)
  have h := h v_11 e_12
  refine lv_istore_n (lv' := [(3, .int v_11), (0, .ref a0), (1, .ref a1), (2, .int x2)]) hx hb dJx4a65c_fastRemove_b59b0_17 rfl hl (by decide) rfl (fun ls hl => ?_)
  refine lv_iload_n hx hb dJx4a65c_fastRemove_b59b0_18 rfl (lv_at hl 3 rfl) ?_
  obtain ⟨h1, h2⟩ := h
  refine lv_icmp_le (tgt := 34) hx hb dJx4a65c_fastRemove_b59b0_19 (by decide) (fun c_13 => ?_) (fun c_13 => ?_)
  · have h := h1 c_13
    exact J34 v_11 f_8 _ _ _ h hF hS (lv_sub hl [1, 2, 0] rfl)
  · have h := h2 c_13
    refine lv_aload_n hx hb dJx4a65c_fastRemove_b59b0_22 rfl (lv_at hl 2 rfl) ?_
    refine lv_iload_n hx hb dJx4a65c_fastRemove_b59b0_23 rfl (lv_at hl 3 rfl) ?_
    refine lv_iconst (v := (1 : Int32)) hx hb dJx4a65c_fastRemove_b59b0_24 (by decide) ?_
    refine lv_iadd hx hb dJx4a65c_fastRemove_b59b0_25 ?_
    refine lv_aload_n hx hb dJx4a65c_fastRemove_b59b0_26 rfl (lv_at hl 2 rfl) ?_
    refine lv_iload_n hx hb dJx4a65c_fastRemove_b59b0_27 rfl (lv_at hl 3 rfl) ?_
    refine lv_iload_n hx hb dJx4a65c_fastRemove_b59b0_28 rfl (lv_at hl 0 rfl) ?_
    refine lv_iload_n hx hb dJx4a65c_fastRemove_b59b0_29 rfl (lv_at hl 3 rfl) ?_
    refine lv_isub hx hb dJx4a65c_fastRemove_b59b0_30 ?_
    obtain ⟨n0_q_14, n1_q_14, g0_q_14, g1_q_14, he0_q_14, he1_q_14, hc1_q_14, hc2_q_14, hc3_q_14, hc4_q_14, hc5_q_14, hel_q_14, h⟩ := h
    refine fw_copyR hx hb (hml.trans hl.1.symm) hown (hts (.methodLink RJx4a65c 112 arraycopyName) (by decide +kernel)) (hts (.native arraycopyName) (by decide +kernel)) (hts (.static arraycopyName) (by decide +kernel)) (hts (.initialized "java/lang/System") (by decide +kernel)) hK hF hS he0_q_14 he1_q_14 hc1_q_14 hc2_q_14 hc3_q_14 hc4_q_14 hc5_q_14 hel_q_14 (Nat.le_of_ble_eq_true rfl) (Nat.le_of_ble_eq_true rfl) dJx4a65c_fastRemove_b59b0_31 (fun H locs hF hS => ?_)
    obtain ⟨f_15, hf_f_15⟩ : ∃ z, z = fup f_8 a1 (.inl (2, n1_q_14, .inr (.inr (.inr (.inr (va_cpy g0_q_14 g1_q_14 ((x2 + (1 : Int32))).toNatClampNeg (x2).toNatClampNeg ((v_11 - x2)).toNatClampNeg)))))) := ⟨_, rfl⟩
    rw [← hf_f_15] at hF; have h := h f_15 hf_f_15
    exact J34 v_11 f_15 _ _ _ h hF hS (lv_sub hl [1, 2, 0] rfl)
theorem dJx4a65c_remove_915e3_0 : decode cJx4a65c_remove_915e3 0 = .ok (.iload_n 1, 1) := by decide +kernel
theorem dJx4a65c_remove_915e3_1 : decode cJx4a65c_remove_915e3 1 = .ok (.aload_n 0, 1) := by decide +kernel
theorem dJx4a65c_remove_915e3_2 : decode cJx4a65c_remove_915e3 2 = .ok (.getfield 48, 3) := by decide +kernel
theorem dJx4a65c_remove_915e3_5 : decode cJx4a65c_remove_915e3 5 = .ok (.invokestatic 118, 3) := by decide +kernel
theorem dJx4a65c_remove_915e3_8 : decode cJx4a65c_remove_915e3 8 = .ok (.pop, 1) := by decide +kernel
theorem dJx4a65c_remove_915e3_9 : decode cJx4a65c_remove_915e3 9 = .ok (.aload_n 0, 1) := by decide +kernel
theorem dJx4a65c_remove_915e3_10 : decode cJx4a65c_remove_915e3 10 = .ok (.getfield 9, 3) := by decide +kernel
theorem dJx4a65c_remove_915e3_13 : decode cJx4a65c_remove_915e3 13 = .ok (.astore_n 2, 1) := by decide +kernel
theorem dJx4a65c_remove_915e3_14 : decode cJx4a65c_remove_915e3 14 = .ok (.aload_n 2, 1) := by decide +kernel
theorem dJx4a65c_remove_915e3_15 : decode cJx4a65c_remove_915e3 15 = .ok (.iload_n 1, 1) := by decide +kernel
theorem dJx4a65c_remove_915e3_16 : decode cJx4a65c_remove_915e3 16 = .ok (.aaload, 1) := by decide +kernel
theorem dJx4a65c_remove_915e3_17 : decode cJx4a65c_remove_915e3 17 = .ok (.astore_n 3, 1) := by decide +kernel
theorem dJx4a65c_remove_915e3_18 : decode cJx4a65c_remove_915e3 18 = .ok (.aload_n 0, 1) := by decide +kernel
theorem dJx4a65c_remove_915e3_19 : decode cJx4a65c_remove_915e3 19 = .ok (.aload_n 2, 1) := by decide +kernel
theorem dJx4a65c_remove_915e3_20 : decode cJx4a65c_remove_915e3 20 = .ok (.iload_n 1, 1) := by decide +kernel
theorem dJx4a65c_remove_915e3_21 : decode cJx4a65c_remove_915e3 21 = .ok (.invokevirtual 144, 3) := by decide +kernel
theorem dJx4a65c_remove_915e3_24 : decode cJx4a65c_remove_915e3 24 = .ok (.aload_n 3, 1) := by decide +kernel
theorem dJx4a65c_remove_915e3_25 : decode cJx4a65c_remove_915e3 25 = .ok (.areturn, 1) := by decide +kernel
set_option maxRecDepth 20000 in
theorem ggJx4a65c_remove_915e3_J15_checkIndex_7cf53 : GoodIn wsJx4a65c_remove_915e3 wsJ15_checkIndex_7cf53 := goodIn_r _ [6, 7, 8, 9, 10] (by decide +kernel) (by decide +kernel)
set_option maxRecDepth 20000 in
theorem ggJx4a65c_remove_915e3_Jx4a65c_fastRemove_b59b0 : GoodIn wsJx4a65c_remove_915e3 wsJx4a65c_fastRemove_b59b0 := goodIn_r _ [15, 16, 17, 1, 18, 19, 20, 21, 22, 23, 24] (by decide +kernel) (by decide +kernel)
def wp_Jx4a65c_remove_915e3 (a0 : Nat) (x1 : Int32) (f : FT) (K : Nat → FT → Prop) : Prop :=
  gI f a0 2 2 fun v_1 => wp_J15_checkIndex_7cf53 x1 v_1 f (fun r_3 => gA f a0 2 1 fun a_4 => aA f a_4 x1 fun a_6 => isO f a0 2 ∧ wp_Jx4a65c_fastRemove_b59b0 a0 a_4 x1 f (fun f_9 => K a_6 f_9))
set_option maxHeartbeats 4000000 in
set_option maxRecDepth 100000 in
theorem cc_Jx4a65c_remove_915e3 (l : Launch) (G : GG) {f : FT} {sz : Nat} {a0 : Nat} {x1 : Int32} {K : Nat → FT → Prop} (h : wp_Jx4a65c_remove_915e3 a0 x1 f K) : Met l yJx4a65c_remove_915e3 wsJx4a65c_remove_915e3 ({ frames := 2, cells := 0, slots := 0, locals := 63 } : Room) (FP G [.ref a0, .int x1] f sz) (va_Qq (fun r f9 => ∃ q, r = some q ∧ K q f9 : Option Nat → FT → Prop) (FB G (fA f sz)) (fA f sz)) 0 0 (fA f sz) := by
  refine Met.ofW (cc := cJx4a65c_remove_915e3) (maxL := 4) (ret := (some (.object "java/lang/Object"))) (by decide) rfl ?_
  intro p e s m args below meth c s₁ B hml hv
  obtain ⟨rfl, hsz, hF, hK, hZ⟩ := hv
  have hx := B.exec
  have hb := B.bytes
  have hr := B.returns
  have hts := atoms_spec (ws := wsJx4a65c_remove_915e3) B.pre
  have hown : s.vm.findClass RJx4a65c = some m.cls := findClass_of_methodNamed B.named
  have hlocks := B.notSynchronized
  subst hsz
  have hF := hF.self (sz := s.heap.size)
  generalize hAe : fA f s.heap.size = A at hF hZ ⊢
  have hA : ∀ q : Nat, s.heap.size ≤ q → A q := fun q h => by rw [← hAe]; exact Or.inr h
  have hS : va_S A s.heap s.heap [] := va_S.rf
  have hin_Jx4a65c : ∀ w ∈ wsJx4a65c0, w ∈ wsJx4a65c_remove_915e3 := by decide +kernel
  have hl := lv_entry ([.ref a0, .int x1]) (n := 4) (Nat.le_of_ble_eq_true rfl)
  rw [lg_entry_eq]
  generalize (lg_sl ([.ref a0, .int x1]) ++ List.replicate (4 - (lg_sl ([.ref a0, .int x1])).length) Slot.unset).toArray = ls at hl ⊢
  have hl : lv_has ls 4 [(0, .ref a0), (1, .int x1)] := hl
  unfold wp_Jx4a65c_remove_915e3 at h
  refine lv_iload_n hx hb dJx4a65c_remove_915e3_0 rfl (lv_at hl 1 rfl) ?_
  refine lv_aload_n hx hb dJx4a65c_remove_915e3_1 rfl (lv_at hl 0 rfl) ?_
  obtain ⟨fs_2, v_1, he_fs_2, hv_fs_2, h⟩ := h
  refine fw_get (C := RJx4a65c) (T := TJx4a65c) (N := 3) hx hb hts hin_Jx4a65c hown hK hF he_fs_2 rfl 2 (by decide) (hts (.fieldLink RJx4a65c 48 "java/util/ArrayList" "size" "I") (by decide +kernel)) (fun _ h9 => h9) hv_fs_2 dJx4a65c_remove_915e3_2 ?_
  refine fw_cS_i_p (As := [.int x1, .int v_1]) (rest := []) ⟨hx, hb, hml, hown, hts⟩ (cc_J15_checkIndex_7cf53 l G h) (⟨callB_of 2 hts ggJx4a65c_remove_915e3_J15_checkIndex_7cf53 rfl rfl rfl (hts (.initialized RJ15) (by decide +kernel)) (hts (.methodLink RJx4a65c 118 yJ15_checkIndex_7cf53) (by decide +kernel)) (by decide +kernel) ⟨Nat.le_of_ble_eq_true rfl, Nat.le_of_ble_eq_true rfl⟩, hts (.static yJ15_checkIndex_7cf53) (by decide +kernel)⟩) hK hZ hF hS hA rfl hl.1 rfl (Nat.le_of_ble_eq_true rfl) dJx4a65c_remove_915e3_5 ⟨Nat.zero_le _, Nat.zero_le _⟩ (fun r_3 H locs h hF hS => ?_)
  refine lv_pop hx hb dJx4a65c_remove_915e3_8 rfl ?_
  refine lv_aload_n hx hb dJx4a65c_remove_915e3_9 rfl (lv_at hl 0 rfl) ?_
  obtain ⟨fs_5, a_4, he_fs_5, hv_fs_5, h⟩ := h
  refine fw_get (C := RJx4a65c) (T := TJx4a65c) (N := 3) hx hb hts hin_Jx4a65c hown hK hF he_fs_5 rfl 1 (by decide) (hts (.fieldLink RJx4a65c 9 "java/util/ArrayList" "elementData" "[Ljava/lang/Object;") (by decide +kernel)) (fun _ h9 => h9) hv_fs_5 dJx4a65c_remove_915e3_10 ?_
  refine lv_astore_n (lv' := [(2, .ref a_4), (0, .ref a0), (1, .int x1)]) hx hb dJx4a65c_remove_915e3_13 rfl hl (by decide) rfl (fun ls hl => ?_)
  refine lv_aload_n hx hb dJx4a65c_remove_915e3_14 rfl (lv_at hl 0 rfl) ?_
  refine lv_iload_n hx hb dJx4a65c_remove_915e3_15 rfl (lv_at hl 2 rfl) ?_
  obtain ⟨n_q_7, q_7, a_6, he_q_7, hi_q_7, hv_q_7, h⟩ := h
  refine fw_aaldA hx hb hK hF he_q_7 hi_q_7 hv_q_7 dJx4a65c_remove_915e3_16 ?_
  refine lv_astore_n (lv' := [(3, .ref a_6), (2, .ref a_4), (0, .ref a0), (1, .int x1)]) hx hb dJx4a65c_remove_915e3_17 rfl hl (by decide) rfl (fun ls hl => ?_)
  refine lv_aload_n hx hb dJx4a65c_remove_915e3_18 rfl (lv_at hl 2 rfl) ?_
  refine lv_aload_n hx hb dJx4a65c_remove_915e3_19 rfl (lv_at hl 1 rfl) ?_
  refine lv_iload_n hx hb dJx4a65c_remove_915e3_20 rfl (lv_at hl 3 rfl) ?_
  obtain ⟨⟨fs_u_8, hrc_u_8⟩, h⟩ := h
  refine fw_cV_v (As := [.ref a_4, .int x1]) (rest := []) ⟨hx, hb, hml, hown, hts⟩ (cc_Jx4a65c_fastRemove_b59b0 l G h) (⟨callB_of 2 hts ggJx4a65c_remove_915e3_Jx4a65c_fastRemove_b59b0 rfl rfl rfl (hts (.initialized RJx4a65c) (by decide +kernel)) (hts (.methodLink RJx4a65c 144 yJx4a65c_fastRemove_b59b0) (by decide +kernel)) (by decide +kernel) ⟨Nat.le_of_ble_eq_true rfl, Nat.le_of_ble_eq_true rfl⟩, hts (.instanceMethod yJx4a65c_fastRemove_b59b0) (by decide +kernel), hts (.selects RJx4a65c yJx4a65c_fastRemove_b59b0 yJx4a65c_fastRemove_b59b0) (by decide +kernel)⟩) rfl hrc_u_8 hK hZ hF hS hA rfl hl.1 rfl (Nat.le_of_ble_eq_true rfl) dJx4a65c_remove_915e3_21 ⟨Nat.zero_le _, Nat.zero_le _⟩ (fun f_9 H locs h hF hS => ?_)
  refine lv_aload_n hx hb dJx4a65c_remove_915e3_24 rfl (lv_at hl 0 rfl) ?_
  exact W.aret (v := .ref a_6) hx hb hr (Or.inl ⟨_, rfl⟩) (Or.inr ⟨a_6, rfl⟩) (fun t ht hW => ⟨⟨some a_6, f_9, rfl, ⟨_, rfl, h⟩, by rw [ht]; exact hF, FK.moved hW.alike hK⟩, hS.F ht⟩) hS.2.2 dJx4a65c_remove_915e3_25
theorem dX4_delete_0 : decode cX4_delete 0 = .ok (.iload_n 1, 1) := by decide +kernel
theorem dX4_delete_1 : decode cX4_delete 1 = .ok (.ifCond .lt 23, 3) := by decide +kernel
theorem dX4_delete_4 : decode cX4_delete 4 = .ok (.iload_n 1, 1) := by decide +kernel
theorem dX4_delete_5 : decode cX4_delete 5 = .ok (.aload_n 0, 1) := by decide +kernel
theorem dX4_delete_6 : decode cX4_delete 6 = .ok (.getfield 10, 3) := by decide +kernel
theorem dX4_delete_9 : decode cX4_delete 9 = .ok (.invokevirtual 25, 3) := by decide +kernel
theorem dX4_delete_12 : decode cX4_delete 12 = .ok (.if_icmp .ge 12, 3) := by decide +kernel
theorem dX4_delete_15 : decode cX4_delete 15 = .ok (.aload_n 0, 1) := by decide +kernel
theorem dX4_delete_16 : decode cX4_delete 16 = .ok (.getfield 10, 3) := by decide +kernel
theorem dX4_delete_19 : decode cX4_delete 19 = .ok (.iload_n 1, 1) := by decide +kernel
theorem dX4_delete_20 : decode cX4_delete 20 = .ok (.invokevirtual 44, 3) := by decide +kernel
theorem dX4_delete_23 : decode cX4_delete 23 = .ok (.pop, 1) := by decide +kernel
theorem dX4_delete_24 : decode cX4_delete 24 = .ok (.return_, 1) := by decide +kernel
set_option maxRecDepth 20000 in
theorem ggX4_delete_Jx4a65c_remove_915e3 : GoodIn wsX4_delete wsJx4a65c_remove_915e3 := goodIn_r _ [11, 7, 12, 13, 14, 15, 16, 17, 18, 19, 20, 21, 22, 23, 5, 24, 25, 26, 27, 28, 29, 30, 33, 34, 35] (by decide +kernel) (by decide +kernel)
set_option maxRecDepth 20000 in
theorem ggX4_delete_Jx4a65c_size_8abf5 : GoodIn wsX4_delete wsJx4a65c_size_8abf5 := goodIn_r _ [6, 7, 33, 34, 35] (by decide +kernel) (by decide +kernel)
def wp_X4_delete (a0 : Nat) (x1 : Int32) (f : FT) (K : FT → Prop) : Prop :=
  ((x1 < (0 : Int32) → K f) ∧
 (¬ (x1 < (0 : Int32)) → gA f a0 7 0 fun a_2 => isO f a_2 2 ∧ wp_Jx4a65c_size_8abf5 a_2 f (fun r_4 => ((r_4 ≤ x1 → K f) ∧
 (¬ (r_4 ≤ x1) → gA f a0 7 0 fun a_6 => isO f a_6 2 ∧ wp_Jx4a65c_remove_915e3 a_6 x1 f (fun a_8 f_9 => K f_9))))))
set_option maxHeartbeats 4000000 in
set_option maxRecDepth 100000 in
theorem cc_X4_delete (l : Launch) (G : GG) {f : FT} {sz : Nat} {a0 : Nat} {x1 : Int32} {K : FT → Prop} (h : wp_X4_delete a0 x1 f K) : Met l yX4_delete wsX4_delete ({ frames := 3, cells := 0, slots := 0, locals := 86 } : Room) (FP G [.ref a0, .int x1] f sz) (va_Qv (fun f9 => K f9 : FT → Prop) (FB G (fA f sz)) (fA f sz)) 0 0 (fA f sz) := by
  refine Met.ofW (cc := cX4_delete) (maxL := 2) (ret := none) (by decide) rfl ?_
  intro p e s m args below meth c s₁ B hml hv
  obtain ⟨rfl, hsz, hF, hK, hZ⟩ := hv
  have hx := B.exec
  have hb := B.bytes
  have hr := B.returns
  have hts := atoms_spec (ws := wsX4_delete) B.pre
  have hown : s.vm.findClass RX4 = some m.cls := findClass_of_methodNamed B.named
  have hlocks := B.notSynchronized
  subst hsz
  have hF := hF.self (sz := s.heap.size)
  generalize hAe : fA f s.heap.size = A at hF hZ ⊢
  have hA : ∀ q : Nat, s.heap.size ≤ q → A q := fun q h => by rw [← hAe]; exact Or.inr h
  have hS : va_S A s.heap s.heap [] := va_S.rf
  have hin_X4 : ∀ w ∈ wsX40, w ∈ wsX4_delete := by decide +kernel
  have hl := lv_entry ([.ref a0, .int x1]) (n := 2) (Nat.le_of_ble_eq_true rfl)
  rw [lg_entry_eq]
  generalize (lg_sl ([.ref a0, .int x1]) ++ List.replicate (2 - (lg_sl ([.ref a0, .int x1])).length) Slot.unset).toArray = ls at hl ⊢
  have hl : lv_has ls 2 [(0, .ref a0), (1, .int x1)] := hl
  unfold wp_X4_delete at h
  refine lv_iload_n hx hb dX4_delete_0 rfl (lv_at hl 1 rfl) ?_
  obtain ⟨h1, h2⟩ := h
  refine lv_if_lt (tgt := 24) hx hb dX4_delete_1 (by decide) (fun c_1 => ?_) (fun c_1 => ?_)
  · have h := h1 c_1
    exact W.vret hx hb hr (fun t ht hW => ⟨⟨f, rfl, h, by rw [ht]; exact hF, FK.moved hW.alike hK⟩, hS.F ht⟩) hS.2.2 dX4_delete_24
  · have h := h2 c_1
    refine lv_iload_n hx hb dX4_delete_4 rfl (lv_at hl 1 rfl) ?_
    refine lv_aload_n hx hb dX4_delete_5 rfl (lv_at hl 0 rfl) ?_
    obtain ⟨fs_3, a_2, he_fs_3, hv_fs_3, h⟩ := h
    refine fw_get (C := RX4) (T := TX4) (N := 2) hx hb hts hin_X4 hown hK hF he_fs_3 rfl 0 (by decide) (hts (.fieldLink RX4 10 "FrontCodedIndex$KeyRow" "cells" "Ljava/util/ArrayList;") (by decide +kernel)) (fun _ h9 => h9) hv_fs_3 dX4_delete_6 ?_
    obtain ⟨⟨fs_r_4, hrc_r_4⟩, h⟩ := h
    refine fw_cV_i_p (As := []) (rest := [.int x1]) ⟨hx, hb, hml, hown, hts⟩ (cc_Jx4a65c_size_8abf5 l G h) (⟨callB_of 0 hts ggX4_delete_Jx4a65c_size_8abf5 rfl rfl rfl (hts (.initialized RJx4a65c) (by decide +kernel)) (hts (.methodLink RX4 25 yJx4a65c_size_8abf5) (by decide +kernel)) (by decide +kernel) ⟨Nat.le_of_ble_eq_true rfl, Nat.le_of_ble_eq_true rfl⟩, hts (.instanceMethod yJx4a65c_size_8abf5) (by decide +kernel), hts (.selects RJx4a65c yJx4a65c_size_8abf5 yJx4a65c_size_8abf5) (by decide +kernel)⟩) rfl hrc_r_4 hK hZ hF hS hA rfl hl.1 rfl (Nat.le_of_ble_eq_true rfl) dX4_delete_9 ⟨Nat.zero_le _, Nat.zero_le _⟩ (fun r_4 H locs h hF hS => ?_)
    obtain ⟨h1, h2⟩ := h
    refine lv_icmp_ge (tgt := 24) hx hb dX4_delete_12 (by decide) (fun c_5 => ?_) (fun c_5 => ?_)
    · have h := h1 c_5
      exact W.vret hx hb hr (fun t ht hW => ⟨⟨f, rfl, h, by rw [ht]; exact hF, FK.moved hW.alike hK⟩, hS.F ht⟩) hS.2.2 dX4_delete_24
    · have h := h2 c_5
      refine lv_aload_n hx hb dX4_delete_15 rfl (lv_at hl 0 rfl) ?_
      obtain ⟨fs_7, a_6, he_fs_7, hv_fs_7, h⟩ := h
      refine fw_get (C := RX4) (T := TX4) (N := 2) hx hb hts hin_X4 hown hK hF he_fs_7 rfl 0 (by decide) (hts (.fieldLink RX4 10 "FrontCodedIndex$KeyRow" "cells" "Ljava/util/ArrayList;") (by decide +kernel)) (fun _ h9 => h9) hv_fs_7 dX4_delete_16 ?_
      refine lv_iload_n hx hb dX4_delete_19 rfl (lv_at hl 1 rfl) ?_
      obtain ⟨⟨fs_a_8, hrc_a_8⟩, h⟩ := h
      refine fw_cV_q_w (As := [.int x1]) (rest := []) ⟨hx, hb, hml, hown, hts⟩ (cc_Jx4a65c_remove_915e3 l G h) (⟨callB_of 1 hts ggX4_delete_Jx4a65c_remove_915e3 rfl rfl rfl (hts (.initialized RJx4a65c) (by decide +kernel)) (hts (.methodLink RX4 44 yJx4a65c_remove_915e3) (by decide +kernel)) (by decide +kernel) ⟨Nat.le_of_ble_eq_true rfl, Nat.le_of_ble_eq_true rfl⟩, hts (.instanceMethod yJx4a65c_remove_915e3) (by decide +kernel), hts (.selects RJx4a65c yJx4a65c_remove_915e3 yJx4a65c_remove_915e3) (by decide +kernel)⟩) rfl hrc_a_8 hK hZ hF hS hA rfl hl.1 rfl (Nat.le_of_ble_eq_true rfl) dX4_delete_20 ⟨Nat.zero_le _, Nat.zero_le _⟩ (fun a_8 f_9 H locs h hF hS => ?_)
      refine lv_pop hx hb dX4_delete_23 rfl ?_
      exact W.vret hx hb hr (fun t ht hW => ⟨⟨f_9, rfl, h, by rw [ht]; exact hF, FK.moved hW.alike hK⟩, hS.F ht⟩) hS.2.2 dX4_delete_24
theorem dX4_empty_0 : decode cX4_empty 0 = .ok (.aload_n 0, 1) := by decide +kernel
theorem dX4_empty_1 : decode cX4_empty 1 = .ok (.getfield 10, 3) := by decide +kernel
theorem dX4_empty_4 : decode cX4_empty 4 = .ok (.invokevirtual 47, 3) := by decide +kernel
theorem dX4_empty_7 : decode cX4_empty 7 = .ok (.return_, 1) := by decide +kernel
set_option maxRecDepth 20000 in
theorem ggX4_empty_Jx4a65c_clear_da8c8 : GoodIn wsX4_empty wsJx4a65c_clear_da8c8 := goodIn_r _ [6, 7, 8, 9, 10, 13, 14, 15] (by decide +kernel) (by decide +kernel)
def wp_X4_empty (a0 : Nat) (f : FT) (K : FT → Prop) : Prop :=
  gA f a0 7 0 fun a_1 => isO f a_1 2 ∧ wp_Jx4a65c_clear_da8c8 a_1 f (fun f_4 => K f_4)
set_option maxHeartbeats 4000000 in
set_option maxRecDepth 100000 in
theorem cc_X4_empty (l : Launch) (G : GG) {f : FT} {sz : Nat} {a0 : Nat} {K : FT → Prop} (h : wp_X4_empty a0 f K) : Met l yX4_empty wsX4_empty ({ frames := 1, cells := 0, slots := 0, locals := 23 } : Room) (FP G [.ref a0] f sz) (va_Qv (fun f9 => K f9 : FT → Prop) (FB G (fA f sz)) (fA f sz)) 0 0 (fA f sz) := by
  refine Met.ofW (cc := cX4_empty) (maxL := 1) (ret := none) (by decide) rfl ?_
  intro p e s m args below meth c s₁ B hml hv
  obtain ⟨rfl, hsz, hF, hK, hZ⟩ := hv
  have hx := B.exec
  have hb := B.bytes
  have hr := B.returns
  have hts := atoms_spec (ws := wsX4_empty) B.pre
  have hown : s.vm.findClass RX4 = some m.cls := findClass_of_methodNamed B.named
  have hlocks := B.notSynchronized
  subst hsz
  have hF := hF.self (sz := s.heap.size)
  generalize hAe : fA f s.heap.size = A at hF hZ ⊢
  have hA : ∀ q : Nat, s.heap.size ≤ q → A q := fun q h => by rw [← hAe]; exact Or.inr h
  have hS : va_S A s.heap s.heap [] := va_S.rf
  have hin_X4 : ∀ w ∈ wsX40, w ∈ wsX4_empty := by decide +kernel
  have hl := lv_entry ([.ref a0]) (n := 1) (Nat.le_of_ble_eq_true rfl)
  rw [lg_entry_eq]
  generalize (lg_sl ([.ref a0]) ++ List.replicate (1 - (lg_sl ([.ref a0])).length) Slot.unset).toArray = ls at hl ⊢
  have hl : lv_has ls 1 [(0, .ref a0)] := hl
  unfold wp_X4_empty at h
  refine lv_aload_n hx hb dX4_empty_0 rfl (lv_at hl 0 rfl) ?_
  obtain ⟨fs_2, a_1, he_fs_2, hv_fs_2, h⟩ := h
  refine fw_get (C := RX4) (T := TX4) (N := 2) hx hb hts hin_X4 hown hK hF he_fs_2 rfl 0 (by decide) (hts (.fieldLink RX4 10 "FrontCodedIndex$KeyRow" "cells" "Ljava/util/ArrayList;") (by decide +kernel)) (fun _ h9 => h9) hv_fs_2 dX4_empty_1 ?_
  obtain ⟨⟨fs_u_3, hrc_u_3⟩, h⟩ := h
  refine fw_cV_v (As := []) (rest := []) ⟨hx, hb, hml, hown, hts⟩ (cc_Jx4a65c_clear_da8c8 l G h) (⟨callB_of 0 hts ggX4_empty_Jx4a65c_clear_da8c8 rfl rfl rfl (hts (.initialized RJx4a65c) (by decide +kernel)) (hts (.methodLink RX4 47 yJx4a65c_clear_da8c8) (by decide +kernel)) (by decide +kernel) ⟨Nat.le_of_ble_eq_true rfl, Nat.le_of_ble_eq_true rfl⟩, hts (.instanceMethod yJx4a65c_clear_da8c8) (by decide +kernel), hts (.selects RJx4a65c yJx4a65c_clear_da8c8 yJx4a65c_clear_da8c8) (by decide +kernel)⟩) rfl hrc_u_3 hK hZ hF hS hA rfl hl.1 rfl (Nat.le_of_ble_eq_true rfl) dX4_empty_4 ⟨Nat.zero_le _, Nat.zero_le _⟩ (fun f_4 H locs h hF hS => ?_)
  exact W.vret hx hb hr (fun t ht hW => ⟨⟨f_4, rfl, h, by rw [ht]; exact hF, FK.moved hW.alike hK⟩, hS.F ht⟩) hS.2.2 dX4_empty_7
theorem dX4_find_0 : decode cX4_find 0 = .ok (.aload_n 0, 1) := by decide +kernel
theorem dX4_find_1 : decode cX4_find 1 = .ok (.aload_n 1, 1) := by decide +kernel
theorem dX4_find_2 : decode cX4_find 2 = .ok (.iconst 0, 1) := by decide +kernel
theorem dX4_find_3 : decode cX4_find 3 = .ok (.invokevirtual 58, 3) := by decide +kernel
theorem dX4_find_6 : decode cX4_find 6 = .ok (.istore_n 2, 1) := by decide +kernel
theorem dX4_find_7 : decode cX4_find 7 = .ok (.iload_n 2, 1) := by decide +kernel
theorem dX4_find_8 : decode cX4_find 8 = .ok (.aload_n 0, 1) := by decide +kernel
theorem dX4_find_9 : decode cX4_find 9 = .ok (.getfield 10, 3) := by decide +kernel
theorem dX4_find_12 : decode cX4_find 12 = .ok (.invokevirtual 25, 3) := by decide +kernel
theorem dX4_find_15 : decode cX4_find 15 = .ok (.if_icmp .ge 19, 3) := by decide +kernel
theorem dX4_find_18 : decode cX4_find 18 = .ok (.aload_n 0, 1) := by decide +kernel
theorem dX4_find_19 : decode cX4_find 19 = .ok (.iload_n 2, 1) := by decide +kernel
theorem dX4_find_20 : decode cX4_find 20 = .ok (.invokevirtual 50, 3) := by decide +kernel
theorem dX4_find_23 : decode cX4_find 23 = .ok (.aload_n 1, 1) := by decide +kernel
theorem dX4_find_24 : decode cX4_find 24 = .ok (.invokevirtual 54, 3) := by decide +kernel
theorem dX4_find_27 : decode cX4_find 27 = .ok (.ifCond .ne 7, 3) := by decide +kernel
theorem dX4_find_30 : decode cX4_find 30 = .ok (.iconst 1, 1) := by decide +kernel
theorem dX4_find_31 : decode cX4_find 31 = .ok (.goto 4, 3) := by decide +kernel
theorem dX4_find_34 : decode cX4_find 34 = .ok (.iconst 0, 1) := by decide +kernel
theorem dX4_find_35 : decode cX4_find 35 = .ok (.istore_n 3, 1) := by decide +kernel
theorem dX4_find_36 : decode cX4_find 36 = .ok (.iload_n 3, 1) := by decide +kernel
theorem dX4_find_37 : decode cX4_find 37 = .ok (.ifCond .eq 7, 3) := by decide +kernel
theorem dX4_find_40 : decode cX4_find 40 = .ok (.iload_n 2, 1) := by decide +kernel
theorem dX4_find_41 : decode cX4_find 41 = .ok (.goto 4, 3) := by decide +kernel
theorem dX4_find_44 : decode cX4_find 44 = .ok (.iconst (-1), 1) := by decide +kernel
theorem dX4_find_45 : decode cX4_find 45 = .ok (.ireturn, 1) := by decide +kernel
set_option maxRecDepth 20000 in
theorem ggX4_find_Jx4a65c_size_8abf5 : GoodIn wsX4_find wsJx4a65c_size_8abf5 := goodIn_r _ [11, 12, 52, 53, 54] (by decide +kernel) (by decide +kernel)
set_option maxRecDepth 20000 in
theorem ggX4_find_X3_compareWith : GoodIn wsX4_find wsX3_compareWith := goodIn_r _ [40, 41, 42, 43, 39, 44, 45, 46, 47, 48, 49, 55] (by decide +kernel) (by decide +kernel)
set_option maxRecDepth 20000 in
theorem ggX4_find_X4_at : GoodIn wsX4_find wsX4_at := goodIn_r _ [16, 1, 17, 18, 7, 8, 9, 10, 11, 12, 19, 20, 21, 22, 23, 24, 25, 26, 27, 28, 29, 30, 31, 32, 33, 34, 35, 50, 51, 52, 53, 54] (by decide +kernel) (by decide +kernel)
set_option maxRecDepth 20000 in
theorem ggX4_find_X4_countBelow : GoodIn wsX4_find wsX4_countBelow := goodIn_r _ [6, 1, 7, 8, 9, 10, 11, 12, 13, 14, 15, 5, 16, 17, 18, 19, 20, 21, 22, 23, 24, 25, 26, 27, 28, 29, 30, 31, 32, 33, 34, 35, 36, 37, 38, 39, 40, 41, 42, 43, 44, 45, 46, 47, 48, 49, 50, 51, 52, 53, 54, 55] (by decide +kernel) (by decide +kernel)
def wp_X4_find_35  (y2 : Int32) (z0 : Int32) (f : FT) (K : Int32 → Prop)  : Prop :=
  ((z0 = (0 : Int32) → K (-1 : Int32)) ∧
 (¬ (z0 = (0 : Int32)) → K y2))
def wp_X4_find_34  (y2 : Int32) (f : FT) (K : Int32 → Prop)  : Prop :=
  wp_X4_find_35 y2 (0 : Int32) f K
def wp_X4_find (a0 : Nat) (a1 : Nat) (f : FT) (K : Int32 → Prop) : Prop :=
  isO f a0 7 ∧ wp_X4_countBelow a0 a1 (0 : Int32) f (fun r_2 => gA f a0 7 0 fun a_3 => isO f a_3 2 ∧ wp_Jx4a65c_size_8abf5 a_3 f (fun r_5 => ((r_5 ≤ r_2 → wp_X4_find_34 r_2 f K) ∧
 (¬ (r_5 ≤ r_2) → isO f a0 7 ∧ wp_X4_at a0 r_2 f (fun a_7 => isO f a_7 6 ∧ wp_X3_compareWith a_7 a1 f (fun r_8 => ((¬ r_8 = (0 : Int32) → wp_X4_find_34 r_2 f K) ∧
 (r_8 = (0 : Int32) → wp_X4_find_35 r_2 (1 : Int32) f K))))))))
set_option maxHeartbeats 4000000 in
set_option maxRecDepth 100000 in
theorem cc_X4_find (l : Launch) (G : GG) {f : FT} {sz : Nat} {a0 : Nat} {a1 : Nat} {K : Int32 → Prop} (h : wp_X4_find a0 a1 f K) : Met l yX4_find wsX4_find ({ frames := 5, cells := 0, slots := 0, locals := 111 } : Room) (FP G [.ref a0, .ref a1] f sz) (va_Qi (fun r f9 => K r ∧ f9 = f : Int32 → FT → Prop) (FB G (fA f sz)) (fA f sz)) 0 0 (fA f sz) := by
  refine Met.ofW (cc := cX4_find) (maxL := 4) (ret := (some .int)) (by decide) rfl ?_
  intro p e s m args below meth c s₁ B hml hv
  obtain ⟨rfl, hsz, hF, hK, hZ⟩ := hv
  have hx := B.exec
  have hb := B.bytes
  have hr := B.returns
  have hts := atoms_spec (ws := wsX4_find) B.pre
  have hown : s.vm.findClass RX4 = some m.cls := findClass_of_methodNamed B.named
  have hlocks := B.notSynchronized
  subst hsz
  have hF := hF.self (sz := s.heap.size)
  generalize hAe : fA f s.heap.size = A at hF hZ ⊢
  have hA : ∀ q : Nat, s.heap.size ≤ q → A q := fun q h => by rw [← hAe]; exact Or.inr h
  have hS : va_S A s.heap s.heap [] := va_S.rf
  have hin_X4 : ∀ w ∈ wsX40, w ∈ wsX4_find := by decide +kernel
  have J35 : ∀ (y2 : Int32) (z0 : Int32) (H : Heap) (locs : List Loc) (ls : Array Slot), wp_X4_find_35 y2 z0 f K  → Fw G A f H → va_S A s.heap H locs → lv_has ls 4 [(2, .int y2)] → W p l e ({ frames := 5, cells := 0, slots := 0, locals := 111 } : Room) s m ([.ref a0, .ref a1] : List Value).toArray below meth c H locs 0 0 (MQ below (va_Qi (fun r f9 => K r ∧ f9 = f : Int32 → FT → Prop) (FB G A) A) ([.ref a0, .ref a1] : List Value).toArray s 0 0 A) (F0 m 35 ls [.int z0]) := by
    intro y2 z0 H locs ls h hF hS hl
    unfold wp_X4_find_35 at h
    refine lv_istore_n (lv' := [(3, .int z0), (2, .int y2)]) hx hb dX4_find_35 rfl hl (by decide) rfl (fun ls hl => ?_)
    refine lv_iload_n hx hb dX4_find_36 rfl (lv_at hl 0 rfl) ?_
    obtain ⟨h1, h2⟩ := h
    refine lv_if_eq (tgt := 44) hx hb dX4_find_37 (by decide) (fun c_1 => ?_) (fun c_1 => ?_)
    · have h := h1 c_1
      refine lv_iconst (v := (-1 : Int32)) hx hb dX4_find_44 (by decide) ?_
      exact W.iret (v := (-1 : Int32)) hx hb hr (fun t ht hW => ⟨⟨(-1 : Int32), f, rfl, ⟨h, rfl⟩, by rw [ht]; exact hF, FK.moved hW.alike hK⟩, hS.F ht⟩) hS.2.2 dX4_find_45
    · have h := h2 c_1
      refine lv_iload_n hx hb dX4_find_40 rfl (lv_at hl 1 rfl) ?_
      refine lv_goto (tgt := 45) hx hb dX4_find_41 (by decide) ?_
      exact W.iret (v := y2) hx hb hr (fun t ht hW => ⟨⟨y2, f, rfl, ⟨h, rfl⟩, by rw [ht]; exact hF, FK.moved hW.alike hK⟩, hS.F ht⟩) hS.2.2 dX4_find_45
  have J34 : ∀ (y2 : Int32) (H : Heap) (locs : List Loc) (ls : Array Slot), wp_X4_find_34 y2 f K  → Fw G A f H → va_S A s.heap H locs → lv_has ls 4 [(2, .int y2)] → W p l e ({ frames := 5, cells := 0, slots := 0, locals := 111 } : Room) s m ([.ref a0, .ref a1] : List Value).toArray below meth c H locs 0 0 (MQ below (va_Qi (fun r f9 => K r ∧ f9 = f : Int32 → FT → Prop) (FB G A) A) ([.ref a0, .ref a1] : List Value).toArray s 0 0 A) (F0 m 34 ls []) := by
    intro y2 H locs ls h hF hS hl
    unfold wp_X4_find_34 at h
    refine lv_iconst (v := (0 : Int32)) hx hb dX4_find_34 (by decide) ?_
    exact J35 y2 (0 : Int32) _ _ _ h hF hS (lv_sub hl [0] rfl)
  have hl := lv_entry ([.ref a0, .ref a1]) (n := 4) (Nat.le_of_ble_eq_true rfl)
  rw [lg_entry_eq]
  generalize (lg_sl ([.ref a0, .ref a1]) ++ List.replicate (4 - (lg_sl ([.ref a0, .ref a1])).length) Slot.unset).toArray = ls at hl ⊢
  have hl : lv_has ls 4 [(0, .ref a0), (1, .ref a1)] := hl
  unfold wp_X4_find at h
  refine lv_aload_n hx hb dX4_find_0 rfl (lv_at hl 0 rfl) ?_
  refine lv_aload_n hx hb dX4_find_1 rfl (lv_at hl 1 rfl) ?_
  refine lv_iconst (v := (0 : Int32)) hx hb dX4_find_2 (by decide) ?_
  obtain ⟨⟨fs_r_2, hrc_r_2⟩, h⟩ := h
  refine fw_cV_i_p (As := [.ref a1, .int (0 : Int32)]) (rest := []) ⟨hx, hb, hml, hown, hts⟩ (cc_X4_countBelow l G h) (⟨callB_of 2 hts ggX4_find_X4_countBelow rfl rfl rfl (hts (.initialized RX4) (by decide +kernel)) (hts (.methodLink RX4 58 yX4_countBelow) (by decide +kernel)) (by decide +kernel) ⟨Nat.le_of_ble_eq_true rfl, Nat.le_of_ble_eq_true rfl⟩, hts (.instanceMethod yX4_countBelow) (by decide +kernel), hts (.selects RX4 yX4_countBelow yX4_countBelow) (by decide +kernel)⟩) rfl hrc_r_2 hK hZ hF hS hA rfl hl.1 rfl (Nat.le_of_ble_eq_true rfl) dX4_find_3 ⟨Nat.zero_le _, Nat.zero_le _⟩ (fun r_2 H locs h hF hS => ?_)
  refine lv_istore_n (lv' := [(2, .int r_2), (0, .ref a0), (1, .ref a1)]) hx hb dX4_find_6 rfl hl (by decide) rfl (fun ls hl => ?_)
  refine lv_iload_n hx hb dX4_find_7 rfl (lv_at hl 0 rfl) ?_
  refine lv_aload_n hx hb dX4_find_8 rfl (lv_at hl 1 rfl) ?_
  obtain ⟨fs_4, a_3, he_fs_4, hv_fs_4, h⟩ := h
  refine fw_get (C := RX4) (T := TX4) (N := 2) hx hb hts hin_X4 hown hK hF he_fs_4 rfl 0 (by decide) (hts (.fieldLink RX4 10 "FrontCodedIndex$KeyRow" "cells" "Ljava/util/ArrayList;") (by decide +kernel)) (fun _ h9 => h9) hv_fs_4 dX4_find_9 ?_
  obtain ⟨⟨fs_r_5, hrc_r_5⟩, h⟩ := h
  refine fw_cV_i_p (As := []) (rest := [.int r_2]) ⟨hx, hb, hml, hown, hts⟩ (cc_Jx4a65c_size_8abf5 l G h) (⟨callB_of 0 hts ggX4_find_Jx4a65c_size_8abf5 rfl rfl rfl (hts (.initialized RJx4a65c) (by decide +kernel)) (hts (.methodLink RX4 25 yJx4a65c_size_8abf5) (by decide +kernel)) (by decide +kernel) ⟨Nat.le_of_ble_eq_true rfl, Nat.le_of_ble_eq_true rfl⟩, hts (.instanceMethod yJx4a65c_size_8abf5) (by decide +kernel), hts (.selects RJx4a65c yJx4a65c_size_8abf5 yJx4a65c_size_8abf5) (by decide +kernel)⟩) rfl hrc_r_5 hK hZ hF hS hA rfl hl.1 rfl (Nat.le_of_ble_eq_true rfl) dX4_find_12 ⟨Nat.zero_le _, Nat.zero_le _⟩ (fun r_5 H locs h hF hS => ?_)
  obtain ⟨h1, h2⟩ := h
  refine lv_icmp_ge (tgt := 34) hx hb dX4_find_15 (by decide) (fun c_6 => ?_) (fun c_6 => ?_)
  · have h := h1 c_6
    exact J34 r_2 _ _ _ h hF hS (lv_sub hl [0] rfl)
  · have h := h2 c_6
    refine lv_aload_n hx hb dX4_find_18 rfl (lv_at hl 1 rfl) ?_
    refine lv_iload_n hx hb dX4_find_19 rfl (lv_at hl 0 rfl) ?_
    obtain ⟨⟨fs_a_7, hrc_a_7⟩, h⟩ := h
    refine fw_cV_q_p (As := [.int r_2]) (rest := []) ⟨hx, hb, hml, hown, hts⟩ (cc_X4_at l G h) (⟨callB_of 1 hts ggX4_find_X4_at rfl rfl rfl (hts (.initialized RX4) (by decide +kernel)) (hts (.methodLink RX4 50 yX4_at) (by decide +kernel)) (by decide +kernel) ⟨Nat.le_of_ble_eq_true rfl, Nat.le_of_ble_eq_true rfl⟩, hts (.instanceMethod yX4_at) (by decide +kernel), hts (.selects RX4 yX4_at yX4_at) (by decide +kernel)⟩) rfl hrc_a_7 hK hZ hF hS hA rfl hl.1 rfl (Nat.le_of_ble_eq_true rfl) dX4_find_20 ⟨Nat.zero_le _, Nat.zero_le _⟩ (fun a_7 H locs h hF hS => ?_)
    refine lv_aload_n hx hb dX4_find_23 rfl (lv_at hl 2 rfl) ?_
    obtain ⟨⟨fs_r_8, hrc_r_8⟩, h⟩ := h
    refine fw_cV_i_p (As := [.ref a1]) (rest := []) ⟨hx, hb, hml, hown, hts⟩ (cc_X3_compareWith l G h) (⟨callB_of 1 hts ggX4_find_X3_compareWith rfl rfl rfl (hts (.initialized RX3) (by decide +kernel)) (hts (.methodLink RX4 54 yX3_compareWith) (by decide +kernel)) (by decide +kernel) ⟨Nat.le_of_ble_eq_true rfl, Nat.le_of_ble_eq_true rfl⟩, hts (.instanceMethod yX3_compareWith) (by decide +kernel), hts (.selects RX3 yX3_compareWith yX3_compareWith) (by decide +kernel)⟩) rfl hrc_r_8 hK hZ hF hS hA rfl hl.1 rfl (Nat.le_of_ble_eq_true rfl) dX4_find_24 ⟨Nat.zero_le _, Nat.zero_le _⟩ (fun r_8 H locs h hF hS => ?_)
    obtain ⟨h1, h2⟩ := h
    refine lv_if_ne (tgt := 34) hx hb dX4_find_27 (by decide) (fun c_9 => ?_) (fun c_9 => ?_)
    · have h := h1 c_9
      exact J34 r_2 _ _ _ h hF hS (lv_sub hl [0] rfl)
    · have h := h2 c_9
      refine lv_iconst (v := (1 : Int32)) hx hb dX4_find_30 (by decide) ?_
      refine lv_goto (tgt := 35) hx hb dX4_find_31 (by decide) ?_
      exact J35 r_2 (1 : Int32) _ _ _ h hF hS (lv_sub hl [0] rfl)
theorem dJxa1e45_init_da8c8_0 : decode cJxa1e45_init_da8c8 0 = .ok (.aload_n 0, 1) := by decide +kernel
theorem dJxa1e45_init_da8c8_1 : decode cJxa1e45_init_da8c8 1 = .ok (.invokespecial 1, 3) := by decide +kernel
theorem dJxa1e45_init_da8c8_4 : decode cJxa1e45_init_da8c8 4 = .ok (.return_, 1) := by decide +kernel
def wp_Jxa1e45_init_da8c8 (a0 : Nat) (f : FT) (K : Prop) : Prop :=
  K
set_option maxHeartbeats 4000000 in
set_option maxRecDepth 100000 in
theorem cc_Jxa1e45_init_da8c8 (l : Launch) (G : GG) {f : FT} {sz : Nat} {a0 : Nat} {K : Prop} (h : wp_Jxa1e45_init_da8c8 a0 f K) : Met l yJxa1e45_init_da8c8 wsJxa1e45_init_da8c8 ({ frames := 1, cells := 0, slots := 0, locals := 20 } : Room) (FP G [.ref a0] f sz) (va_Qv (fun f9 => K ∧ f9 = f : FT → Prop) (FB G (fA f sz)) (fA f sz)) 0 0 (fA f sz) := by
  refine Met.ofW (cc := cJxa1e45_init_da8c8) (maxL := 1) (ret := none) (by decide) rfl ?_
  intro p e s m args below meth c s₁ B hml hv
  obtain ⟨rfl, hsz, hF, hK, hZ⟩ := hv
  have hx := B.exec
  have hb := B.bytes
  have hr := B.returns
  have hts := atoms_spec (ws := wsJxa1e45_init_da8c8) B.pre
  have hown : s.vm.findClass RJxa1e45 = some m.cls := findClass_of_methodNamed B.named
  have hlocks := B.notSynchronized
  have hin : meth.name = "<init>" := (name_of_methodNamed B.named B.method).1
  subst hsz
  have hF := hF.self (sz := s.heap.size)
  generalize hAe : fA f s.heap.size = A at hF hZ ⊢
  have hA : ∀ q : Nat, s.heap.size ≤ q → A q := fun q h => by rw [← hAe]; exact Or.inr h
  have hS : va_S A s.heap s.heap [] := va_S.rf
  have hl := lv_entry ([.ref a0]) (n := 1) (Nat.le_of_ble_eq_true rfl)
  rw [lg_entry_eq]
  generalize (lg_sl ([.ref a0]) ++ List.replicate (1 - (lg_sl ([.ref a0])).length) Slot.unset).toArray = ls at hl ⊢
  have hl : lv_has ls 1 [(0, .ref a0)] := hl
  unfold wp_Jxa1e45_init_da8c8 at h
  refine lv_aload_n hx hb dJxa1e45_init_da8c8_0 rfl (lv_at hl 0 rfl) ?_
  refine W.objInit hx hb hown (hts (.methodLink RJxa1e45 1 objectInit) (by decide +kernel)) (hts (.instanceMethod objectInit) (by decide +kernel)) (hts (.code objectInit ⟨#[0xb1]⟩ 1 none) (by decide +kernel)) rfl (by rw [hml]; exact hl.1) rfl dJxa1e45_init_da8c8_1 (Nat.le_of_ble_eq_true rfl) (Nat.le_of_ble_eq_true rfl) ?_
  refine W.eq (g2 := F0 m 4 ls []) rfl ?_
  exact W.vret hx hb hr (fun t ht hW => ⟨⟨f, rfl, ⟨h, rfl⟩, by rw [ht]; exact hF, FK.moved hW.alike hK⟩, hS.F ht⟩) hS.2.2 dJxa1e45_init_da8c8_4
theorem dJxc12de_init_da8c8_0 : decode cJxc12de_init_da8c8 0 = .ok (.aload_n 0, 1) := by decide +kernel
theorem dJxc12de_init_da8c8_1 : decode cJxc12de_init_da8c8 1 = .ok (.invokespecial 1, 3) := by decide +kernel
theorem dJxc12de_init_da8c8_4 : decode cJxc12de_init_da8c8 4 = .ok (.aload_n 0, 1) := by decide +kernel
theorem dJxc12de_init_da8c8_5 : decode cJxc12de_init_da8c8 5 = .ok (.iconst 0, 1) := by decide +kernel
theorem dJxc12de_init_da8c8_6 : decode cJxc12de_init_da8c8 6 = .ok (.putfield 7, 3) := by decide +kernel
theorem dJxc12de_init_da8c8_9 : decode cJxc12de_init_da8c8 9 = .ok (.return_, 1) := by decide +kernel
set_option maxRecDepth 20000 in
theorem ggJxc12de_init_da8c8_Jxa1e45_init_da8c8 : GoodIn wsJxc12de_init_da8c8 wsJxa1e45_init_da8c8 := goodIn_r _ [5, 6, 7, 8] (by decide +kernel) (by decide +kernel)
def wp_Jxc12de_init_da8c8 (a0 : Nat) (f : FT) (K : FT → Prop) : Prop :=
  wp_Jxa1e45_init_da8c8 a0 f (pV f a0 2 0 (.int (0 : Int32)) fun f_3 => K f_3)
set_option maxHeartbeats 4000000 in
set_option maxRecDepth 100000 in
theorem cc_Jxc12de_init_da8c8 (l : Launch) (G : GG) {f : FT} {sz : Nat} {a0 : Nat} {K : FT → Prop} (h : wp_Jxc12de_init_da8c8 a0 f K) : Met l yJxc12de_init_da8c8 wsJxc12de_init_da8c8 ({ frames := 2, cells := 0, slots := 0, locals := 40 } : Room) (FP G [.ref a0] f sz) (va_Qv (fun f9 => K f9 : FT → Prop) (FB G (fA f sz)) (fA f sz)) 0 0 (fA f sz) := by
  refine Met.ofW (cc := cJxc12de_init_da8c8) (maxL := 1) (ret := none) (by decide) rfl ?_
  intro p e s m args below meth c s₁ B hml hv
  obtain ⟨rfl, hsz, hF, hK, hZ⟩ := hv
  have hx := B.exec
  have hb := B.bytes
  have hr := B.returns
  have hts := atoms_spec (ws := wsJxc12de_init_da8c8) B.pre
  have hown : s.vm.findClass RJxc12de = some m.cls := findClass_of_methodNamed B.named
  have hlocks := B.notSynchronized
  have hin : meth.name = "<init>" := (name_of_methodNamed B.named B.method).1
  subst hsz
  have hF := hF.self (sz := s.heap.size)
  generalize hAe : fA f s.heap.size = A at hF hZ ⊢
  have hA : ∀ q : Nat, s.heap.size ≤ q → A q := fun q h => by rw [← hAe]; exact Or.inr h
  have hS : va_S A s.heap s.heap [] := va_S.rf
  have hin_Jx4a65c : ∀ w ∈ wsJx4a65c0, w ∈ wsJxc12de_init_da8c8 := by decide +kernel
  have hl := lv_entry ([.ref a0]) (n := 1) (Nat.le_of_ble_eq_true rfl)
  rw [lg_entry_eq]
  generalize (lg_sl ([.ref a0]) ++ List.replicate (1 - (lg_sl ([.ref a0])).length) Slot.unset).toArray = ls at hl ⊢
  have hl : lv_has ls 1 [(0, .ref a0)] := hl
  unfold wp_Jxc12de_init_da8c8 at h
  refine lv_aload_n hx hb dJxc12de_init_da8c8_0 rfl (lv_at hl 0 rfl) ?_
  refine fw_cI_v_p (As := []) (rest := []) ⟨hx, hb, hml, hown, hts⟩ (cc_Jxa1e45_init_da8c8 l G h) (⟨callB_of 0 hts ggJxc12de_init_da8c8_Jxa1e45_init_da8c8 rfl rfl rfl (hts (.initialized RJxa1e45) (by decide +kernel)) (hts (.methodLink RJxc12de 1 yJxa1e45_init_da8c8) (by decide +kernel)) (by decide +kernel) ⟨Nat.le_of_ble_eq_true rfl, Nat.le_of_ble_eq_true rfl⟩, rfl, hts (.instanceMethod yJxa1e45_init_da8c8) (by decide +kernel)⟩) hK hZ hF hS hA rfl hl.1 rfl (Nat.le_of_ble_eq_true rfl) dJxc12de_init_da8c8_1 ⟨Nat.zero_le _, Nat.zero_le _⟩ (fun  H locs h hF hS => ?_)
  refine lv_aload_n hx hb dJxc12de_init_da8c8_4 rfl (lv_at hl 0 rfl) ?_
  refine lv_iconst (v := (0 : Int32)) hx hb dJxc12de_init_da8c8_5 (by decide) ?_
  obtain ⟨fs_2, he_fs_2, hl_fs_2, h⟩ := h
  refine fw_put (v := .int (0 : Int32)) (ty := .int) (C := RJx4a65c) (T := TJx4a65c) (N := 3) hx hb hts hin_Jx4a65c tyJx4a65c (tyJx4a65c_ok) nmJx4a65c hown hK hF hS he_fs_2 rfl 0 (by decide) (hts (.fieldLink RJxc12de 7 "java/util/AbstractList" "modCount" "I") (by decide +kernel)) (fun _ h9 => h9) rfl (by decide +kernel) rfl rfl hl_fs_2 dJxc12de_init_da8c8_6 (fun H locs hF hS => ?_)
  obtain ⟨f_3, hf_f_3⟩ : ∃ z, z = fup f a0 (.inr (2, fs_2.set 0 (.int (0 : Int32)))) := ⟨_, rfl⟩
  rw [← hf_f_3] at hF; have h := h f_3 hf_f_3
  exact W.vret hx hb hr (fun t ht hW => ⟨⟨f_3, rfl, h, by rw [ht]; exact hF, FK.moved hW.alike hK⟩, hS.F ht⟩) hS.2.2 dJxc12de_init_da8c8_9
theorem dJx4a65c_init_da8c8_0 : decode cJx4a65c_init_da8c8 0 = .ok (.aload_n 0, 1) := by decide +kernel
theorem dJx4a65c_init_da8c8_1 : decode cJx4a65c_init_da8c8 1 = .ok (.invokespecial 1, 3) := by decide +kernel
theorem dJx4a65c_init_da8c8_4 : decode cJx4a65c_init_da8c8 4 = .ok (.aload_n 0, 1) := by decide +kernel
theorem dJx4a65c_init_da8c8_5 : decode cJx4a65c_init_da8c8 5 = .ok (.getstatic 39, 3) := by decide +kernel
theorem dJx4a65c_init_da8c8_8 : decode cJx4a65c_init_da8c8 8 = .ok (.putfield 9, 3) := by decide +kernel
theorem dJx4a65c_init_da8c8_11 : decode cJx4a65c_init_da8c8 11 = .ok (.return_, 1) := by decide +kernel
set_option maxRecDepth 20000 in
theorem ggJx4a65c_init_da8c8_Jxc12de_init_da8c8 : GoodIn wsJx4a65c_init_da8c8 wsJxc12de_init_da8c8 := goodIn_r _ [6, 7, 8, 9, 10, 11, 12, 13, 14, 15, 16, 17] (by decide +kernel) (by decide +kernel)
def wp_Jx4a65c_init_da8c8 (zd : Nat) (a0 : Nat) (f : FT) (K : FT → Prop) : Prop :=
  wp_Jxc12de_init_da8c8 a0 f (fun f_2 => pV f_2 a0 2 1 (.ref zd) fun f_4 => K f_4)
set_option maxHeartbeats 4000000 in
set_option maxRecDepth 100000 in
theorem cc_Jx4a65c_init_da8c8 (l : Launch) (G : GG) {zd : Nat} (hzd : G.2.2 0 = zd) {f : FT} {sz : Nat} {a0 : Nat} {K : FT → Prop} (h : wp_Jx4a65c_init_da8c8 zd a0 f K) : Met l yJx4a65c_init_da8c8 wsJx4a65c_init_da8c8 ({ frames := 3, cells := 0, slots := 0, locals := 60 } : Room) (FP G [.ref a0] f sz) (va_Qv (fun f9 => K f9 : FT → Prop) (FB G (fA f sz)) (fA f sz)) 0 0 (fA f sz) := by
  refine Met.ofW (cc := cJx4a65c_init_da8c8) (maxL := 1) (ret := none) (by decide) rfl ?_
  intro p e s m args below meth c s₁ B hml hv
  obtain ⟨rfl, hsz, hF, hK, hZ⟩ := hv
  have hx := B.exec
  have hb := B.bytes
  have hr := B.returns
  have hts := atoms_spec (ws := wsJx4a65c_init_da8c8) B.pre
  have hown : s.vm.findClass RJx4a65c = some m.cls := findClass_of_methodNamed B.named
  have hlocks := B.notSynchronized
  have hin : meth.name = "<init>" := (name_of_methodNamed B.named B.method).1
  subst hsz
  have hF := hF.self (sz := s.heap.size)
  generalize hAe : fA f s.heap.size = A at hF hZ ⊢
  have hA : ∀ q : Nat, s.heap.size ≤ q → A q := fun q h => by rw [← hAe]; exact Or.inr h
  have hS : va_S A s.heap s.heap [] := va_S.rf
  have hZ9 : va_Z "java/util/ArrayList" "DEFAULTCAPACITY_EMPTY_ELEMENTDATA" "[Ljava/lang/Object;" (.ref zd) A s s.heap := by rw [← hzd]; exact hZ.1
  have hin_Jx4a65c : ∀ w ∈ wsJx4a65c0, w ∈ wsJx4a65c_init_da8c8 := by decide +kernel
  have hl := lv_entry ([.ref a0]) (n := 1) (Nat.le_of_ble_eq_true rfl)
  rw [lg_entry_eq]
  generalize (lg_sl ([.ref a0]) ++ List.replicate (1 - (lg_sl ([.ref a0])).length) Slot.unset).toArray = ls at hl ⊢
  have hl : lv_has ls 1 [(0, .ref a0)] := hl
  unfold wp_Jx4a65c_init_da8c8 at h
  refine lv_aload_n hx hb dJx4a65c_init_da8c8_0 rfl (lv_at hl 0 rfl) ?_
  refine fw_cI_v (As := []) (rest := []) ⟨hx, hb, hml, hown, hts⟩ (cc_Jxc12de_init_da8c8 l G h) (⟨callB_of 0 hts ggJx4a65c_init_da8c8_Jxc12de_init_da8c8 rfl rfl rfl (hts (.initialized RJxc12de) (by decide +kernel)) (hts (.methodLink RJx4a65c 1 yJxc12de_init_da8c8) (by decide +kernel)) (by decide +kernel) ⟨Nat.le_of_ble_eq_true rfl, Nat.le_of_ble_eq_true rfl⟩, rfl, hts (.instanceMethod yJxc12de_init_da8c8) (by decide +kernel)⟩) hK hZ hF hS hA rfl hl.1 rfl (Nat.le_of_ble_eq_true rfl) dJx4a65c_init_da8c8_1 ⟨Nat.zero_le _, Nat.zero_le _⟩ (fun f_2 H locs h hF hS => ?_)
  refine lv_aload_n hx hb dJx4a65c_init_da8c8_4 rfl (lv_at hl 0 rfl) ?_
  refine va_gets hx hb hZ9 hS hown (hts (.fieldLink RJx4a65c 39 "java/util/ArrayList" "DEFAULTCAPACITY_EMPTY_ELEMENTDATA" "[Ljava/lang/Object;") (by decide +kernel)) (fun _ h9 => h9) dJx4a65c_init_da8c8_5 ?_
  obtain ⟨fs_3, he_fs_3, hl_fs_3, h⟩ := h
  refine fw_put (v := .ref zd) (ty := (.array (.object "java/lang/Object"))) (C := RJx4a65c) (T := TJx4a65c) (N := 3) hx hb hts hin_Jx4a65c tyJx4a65c (tyJx4a65c_ok) nmJx4a65c hown hK hF hS he_fs_3 rfl 1 (by decide) (hts (.fieldLink RJx4a65c 9 "java/util/ArrayList" "elementData" "[Ljava/lang/Object;") (by decide +kernel)) (fun _ h9 => h9) rfl (by decide +kernel) rfl rfl hl_fs_3 dJx4a65c_init_da8c8_8 (fun H locs hF hS => ?_)
  obtain ⟨f_4, hf_f_4⟩ : ∃ z, z = fup f_2 a0 (.inr (2, fs_3.set 1 (.ref zd))) := ⟨_, rfl⟩
  rw [← hf_f_4] at hF; have h := h f_4 hf_f_4
  exact W.vret hx hb hr (fun t ht hW => ⟨⟨f_4, rfl, h, by rw [ht]; exact hF, FK.moved hW.alike hK⟩, hS.F ht⟩) hS.2.2 dJx4a65c_init_da8c8_11
theorem dX4_init_0 : decode cX4_init 0 = .ok (.aload_n 0, 1) := by decide +kernel
theorem dX4_init_1 : decode cX4_init 1 = .ok (.invokespecial 1, 3) := by decide +kernel
theorem dX4_init_4 : decode cX4_init 4 = .ok (.aload_n 0, 1) := by decide +kernel
theorem dX4_init_5 : decode cX4_init 5 = .ok (.new 7, 3) := by decide +kernel
theorem dX4_init_8 : decode cX4_init 8 = .ok (.dup, 1) := by decide +kernel
theorem dX4_init_9 : decode cX4_init 9 = .ok (.invokespecial 9, 3) := by decide +kernel
theorem dX4_init_12 : decode cX4_init 12 = .ok (.putfield 10, 3) := by decide +kernel
theorem dX4_init_15 : decode cX4_init 15 = .ok (.aload_n 0, 1) := by decide +kernel
theorem dX4_init_16 : decode cX4_init 16 = .ok (.new 16, 3) := by decide +kernel
theorem dX4_init_19 : decode cX4_init 19 = .ok (.dup, 1) := by decide +kernel
theorem dX4_init_20 : decode cX4_init 20 = .ok (.iconst 0, 1) := by decide +kernel
theorem dX4_init_21 : decode cX4_init 21 = .ok (.newarray .byte, 2) := by decide +kernel
theorem dX4_init_23 : decode cX4_init 23 = .ok (.invokespecial 18, 3) := by decide +kernel
theorem dX4_init_26 : decode cX4_init 26 = .ok (.putfield 21, 3) := by decide +kernel
theorem dX4_init_29 : decode cX4_init 29 = .ok (.return_, 1) := by decide +kernel
set_option maxRecDepth 20000 in
theorem ggX4_init_Jx4a65c_init_da8c8 : GoodIn wsX4_init wsJx4a65c_init_da8c8 := goodIn_r _ [15, 16, 17, 18, 19, 20, 21, 22, 23, 24, 25, 26, 27, 2, 3, 33, 34, 35] (by decide +kernel) (by decide +kernel)
set_option maxRecDepth 20000 in
theorem ggX4_init_X3_init : GoodIn wsX4_init wsX3_init := goodIn_r _ [30, 31, 2, 3, 32, 38] (by decide +kernel) (by decide +kernel)
def wp_X4_init (zd : Nat) (a0 : Nat) (f : FT) (mc ms : Nat) (K : FT → Prop) : Prop :=
  nO f 2 [.int 0, .null, .int 0] 3 mc ms fun q_1 f_2 => wp_Jx4a65c_init_da8c8 zd q_1 f_2 (fun f_6 => pV f_6 a0 7 0 (.ref q_1) fun f_8 => nO f_8 6 [.null] 1 (mc - 1) (ms - 3) fun q_9 f_10 => nA f_10 0 (0 : Int32) ((mc - 1) - 1) ((ms - 3) - 1) fun n_15 q_13 f_14 => wp_X3_init q_9 q_13 f_14 (fun f_19 => pV f_19 a0 7 1 (.ref q_9) fun f_21 => K f_21))
set_option maxHeartbeats 4000000 in
set_option maxRecDepth 100000 in
theorem cc_X4_init (l : Launch) (G : GG) {zd : Nat} (hzd : G.2.2 0 = zd) {f : FT} {sz : Nat} {a0 : Nat} {mc ms : Nat} {K : FT → Prop} (h : wp_X4_init zd a0 f mc ms K) : Met l yX4_init wsX4_init ({ frames := 4, cells := mc, slots := ms, locals := 80 } : Room) (FP G [.ref a0] f sz) (va_Qv (fun f9 => K f9 : FT → Prop) (FB G (fA f sz)) (fA f sz)) mc ms (fA f sz) := by
  refine Met.ofW (cc := cX4_init) (maxL := 1) (ret := none) (by decide) rfl ?_
  intro p e s m args below meth c s₁ B hml hv
  obtain ⟨rfl, hsz, hF, hK, hZ⟩ := hv
  have hx := B.exec
  have hb := B.bytes
  have hr := B.returns
  have hts := atoms_spec (ws := wsX4_init) B.pre
  have hown : s.vm.findClass RX4 = some m.cls := findClass_of_methodNamed B.named
  have hlocks := B.notSynchronized
  have hin : meth.name = "<init>" := (name_of_methodNamed B.named B.method).1
  subst hsz
  have hF := hF.self (sz := s.heap.size)
  generalize hAe : fA f s.heap.size = A at hF hZ ⊢
  have hA : ∀ q : Nat, s.heap.size ≤ q → A q := fun q h => by rw [← hAe]; exact Or.inr h
  have hS : va_S A s.heap s.heap [] := va_S.rf
  have hZ9 : va_Z "java/util/ArrayList" "DEFAULTCAPACITY_EMPTY_ELEMENTDATA" "[Ljava/lang/Object;" (.ref zd) A s s.heap := by rw [← hzd]; exact hZ.1
  have hin_Jx4a65c : ∀ w ∈ wsJx4a65c0, w ∈ wsX4_init := by decide +kernel
  have hin_X3 : ∀ w ∈ wsX30, w ∈ wsX4_init := by decide +kernel
  have hin_X4 : ∀ w ∈ wsX40, w ∈ wsX4_init := by decide +kernel
  have hbc : 0 + mc ≤ mc := by omega
  have hbs : 0 + ms ≤ ms := by omega
  have hl := lv_entry ([.ref a0]) (n := 1) (Nat.le_of_ble_eq_true rfl)
  rw [lg_entry_eq]
  generalize (lg_sl ([.ref a0]) ++ List.replicate (1 - (lg_sl ([.ref a0])).length) Slot.unset).toArray = ls at hl ⊢
  have hl : lv_has ls 1 [(0, .ref a0)] := hl
  unfold wp_X4_init at h
  refine lv_aload_n hx hb dX4_init_0 rfl (lv_at hl 0 rfl) ?_
  refine W.objInit hx hb hown (hts (.methodLink RX4 1 objectInit) (by decide +kernel)) (hts (.instanceMethod objectInit) (by decide +kernel)) (hts (.code objectInit ⟨#[0xb1]⟩ 1 none) (by decide +kernel)) rfl (by rw [hml]; exact hl.1) rfl dX4_init_1 (Nat.le_of_ble_eq_true rfl) (Nat.le_of_ble_eq_true rfl) ?_
  refine W.eq (g2 := F0 m 4 ls []) rfl ?_
  refine lv_aload_n hx hb dX4_init_4 rfl (lv_at hl 0 rfl) ?_
  obtain ⟨hb1, hb2, h⟩ := h
  refine fw_new (ci := 2) (fs := [.int 0, .null, .int 0]) (C := RJx4a65c) (T := TJx4a65c) (N := 3) hx hb hts hin_Jx4a65c tyJx4a65c tyJx4a65c_ok hown (hts (.classLink RX4 7 RJx4a65c) (by decide +kernel)) (hts (.instantiable RJx4a65c 3) (by decide +kernel)) (hts (.initialized RJx4a65c) (by decide +kernel)) hK hF hS hA rfl (fun j hj => by rcases (show j = 0 ∨ j = 1 ∨ j = 2 by omega) with rfl | rfl | rfl <;> rfl) (by show _ ≤ mc; omega) (by show _ ≤ ms; omega) dX4_init_5 (fun q_1 H hn_q_1 hF hS => ?_)
  obtain ⟨f_2, hf_f_2⟩ : ∃ z, z = fup f q_1 (.inr (2, [.int 0, .null, .int 0])) := ⟨_, rfl⟩
  rw [← hf_f_2] at hF; have h := h q_1 hn_q_1 f_2 hf_f_2
  obtain ⟨cs_3, hcs⟩ : ∃ z, z = (0 + 1) := ⟨_, rfl⟩; obtain ⟨sl_4, hsl⟩ : ∃ z, z = (0 + 3) := ⟨_, rfl⟩
  have hbc : cs_3 + (mc - 1) ≤ mc := by omega
  have hbs : sl_4 + (ms - 3) ≤ ms := by omega
  refine W.widen (k := cs_3) (n := sl_4) (by omega) (by omega) ?_
  clear hcs hsl
  refine lv_dup hx hb dX4_init_8 rfl ?_
  refine fw_cI_v (As := []) (rest := [.ref q_1, .ref a0]) ⟨hx, hb, hml, hown, hts⟩ (cc_Jx4a65c_init_da8c8 l G hzd h) (⟨callB_of 0 hts ggX4_init_Jx4a65c_init_da8c8 rfl rfl rfl (hts (.initialized RJx4a65c) (by decide +kernel)) (hts (.methodLink RX4 9 yJx4a65c_init_da8c8) (by decide +kernel)) (by decide +kernel) ⟨Nat.le_of_ble_eq_true rfl, Nat.le_of_ble_eq_true rfl⟩, rfl, hts (.instanceMethod yJx4a65c_init_da8c8) (by decide +kernel)⟩) hK hZ hF hS hA rfl hl.1 rfl (Nat.le_of_ble_eq_true rfl) dX4_init_9 ⟨by show _ ≤ mc; omega, by show _ ≤ ms; omega⟩ (fun f_6 H locs h hF hS => ?_)
  simp only [Nat.add_zero]
  obtain ⟨fs_7, he_fs_7, hl_fs_7, h⟩ := h
  refine fw_putF (v := .ref q_1) (ty := (.object "java/util/ArrayList")) (C := RX4) (T := TX4) (N := 2) hx hb hts hin_X4 tyX4 (tyX4_ok) nmX4 hown hK hF hS he_fs_7 rfl 0 (by decide) (hts (.fieldLink RX4 10 "FrontCodedIndex$KeyRow" "cells" "Ljava/util/ArrayList;") (by decide +kernel)) (fun _ h9 => h9) rfl hin rfl (by decide +kernel) rfl rfl hl_fs_7 dX4_init_12 (fun H locs hF hS => ?_)
  obtain ⟨f_8, hf_f_8⟩ : ∃ z, z = fup f_6 a0 (.inr (7, fs_7.set 0 (.ref q_1))) := ⟨_, rfl⟩
  rw [← hf_f_8] at hF; have h := h f_8 hf_f_8
  refine lv_aload_n hx hb dX4_init_15 rfl (lv_at hl 0 rfl) ?_
  obtain ⟨hb1, hb2, h⟩ := h
  refine fw_new (ci := 6) (fs := [.null]) (C := RX3) (T := TX3) (N := 1) hx hb hts hin_X3 tyX3 tyX3_ok hown (hts (.classLink RX4 16 RX3) (by decide +kernel)) (hts (.instantiable RX3 1) (by decide +kernel)) (hts (.initialized RX3) (by decide +kernel)) hK hF hS hA rfl (fun j hj => by rcases (show j = 0 by omega) with rfl <;> rfl) (by show _ ≤ mc; omega) (by show _ ≤ ms; omega) dX4_init_16 (fun q_9 H hn_q_9 hF hS => ?_)
  obtain ⟨f_10, hf_f_10⟩ : ∃ z, z = fup f_8 q_9 (.inr (6, [.null])) := ⟨_, rfl⟩
  rw [← hf_f_10] at hF; have h := h q_9 hn_q_9 f_10 hf_f_10
  obtain ⟨cs_11, hcs⟩ : ∃ z, z = (cs_3 + 1) := ⟨_, rfl⟩; obtain ⟨sl_12, hsl⟩ : ∃ z, z = (sl_4 + 1) := ⟨_, rfl⟩
  have hbc : cs_11 + ((mc - 1) - 1) ≤ mc := by omega
  have hbs : sl_12 + ((ms - 3) - 1) ≤ ms := by omega
  refine W.widen (k := cs_11) (n := sl_12) (by omega) (by omega) ?_
  clear hcs hsl
  refine lv_dup hx hb dX4_init_19 rfl ?_
  refine lv_iconst (v := (0 : Int32)) hx hb dX4_init_20 (by decide) ?_
  obtain ⟨hb0, n_15, hN, hb1, hb2, hb3, h⟩ := h
  refine fw_newa (atype := .byte) (a0 := (n_15, .inl fun _ => 0)) hx hb (hts (.arrayClass .byte) (by decide +kernel)) (ty := .byte) rfl 0 rfl va_RA_byte hK hF hS hA (fun cA => rfl) hb0 hN (by show _ * 1 ≤ _; omega) (by show _ ≤ mc; omega) (by show _ ≤ ms; omega) dX4_init_21 (fun q_13 H hn_q_13 hF hS => ?_)
  obtain ⟨f_14, hf_f_14⟩ : ∃ z, z = fup f_10 q_13 (.inl (0, (n_15, .inl fun _ => 0))) := ⟨_, rfl⟩
  rw [← hf_f_14] at hF; have h := h q_13 hn_q_13 f_14 hf_f_14
  obtain ⟨cs_16, hcs⟩ : ∃ z, z = (cs_11 + 1) := ⟨_, rfl⟩; obtain ⟨sl_17, hsl⟩ : ∃ z, z = (sl_12 + n_15) := ⟨_, rfl⟩
  have hbc : cs_16 + (((mc - 1) - 1) - 1) ≤ mc := by omega
  have hbs : sl_17 + (((ms - 3) - 1) - n_15) ≤ ms := by omega
  refine W.widen (k := cs_16) (n := sl_17) (by omega) (by omega) ?_
  clear hcs hsl
  refine fw_cI_v (As := [.ref q_13]) (rest := [.ref q_9, .ref a0]) ⟨hx, hb, hml, hown, hts⟩ (cc_X3_init l G h) (⟨callB_of 1 hts ggX4_init_X3_init rfl rfl rfl (hts (.initialized RX3) (by decide +kernel)) (hts (.methodLink RX4 18 yX3_init) (by decide +kernel)) (by decide +kernel) ⟨Nat.le_of_ble_eq_true rfl, Nat.le_of_ble_eq_true rfl⟩, rfl, hts (.instanceMethod yX3_init) (by decide +kernel)⟩) hK hZ hF hS hA rfl hl.1 rfl (Nat.le_of_ble_eq_true rfl) dX4_init_23 ⟨by show _ ≤ mc; omega, by show _ ≤ ms; omega⟩ (fun f_19 H locs h hF hS => ?_)
  simp only [Nat.add_zero]
  obtain ⟨fs_20, he_fs_20, hl_fs_20, h⟩ := h
  refine fw_putF (v := .ref q_9) (ty := (.object "FrontCodedIndex$Key")) (C := RX4) (T := TX4) (N := 2) hx hb hts hin_X4 tyX4 (tyX4_ok) nmX4 hown hK hF hS he_fs_20 rfl 1 (by decide) (hts (.fieldLink RX4 21 "FrontCodedIndex$KeyRow" "none" "LFrontCodedIndex$Key;") (by decide +kernel)) (fun _ h9 => h9) rfl hin rfl (by decide +kernel) rfl rfl hl_fs_20 dX4_init_26 (fun H locs hF hS => ?_)
  obtain ⟨f_21, hf_f_21⟩ : ∃ z, z = fup f_19 a0 (.inr (7, fs_20.set 1 (.ref q_9))) := ⟨_, rfl⟩
  rw [← hf_f_21] at hF; have h := h f_21 hf_f_21
  refine W.widen (k := mc) (n := ms) (by omega) (by omega) ?_
  exact W.vret hx hb hr (fun t ht hW => ⟨⟨f_21, rfl, h, by rw [ht]; exact hF, FK.moved hW.alike hK⟩, hS.F ht⟩) hS.2.2 dX4_init_29
theorem dX5_stackTier_0 : decode cX5_stackTier 0 = .ok (.aload_n 1, 1) := by decide +kernel
theorem dX5_stackTier_1 : decode cX5_stackTier 1 = .ok (.getfield 64, 3) := by decide +kernel
theorem dX5_stackTier_4 : decode cX5_stackTier 4 = .ok (.istore 5, 2) := by decide +kernel
theorem dX5_stackTier_6 : decode cX5_stackTier 6 = .ok (.aload_n 1, 1) := by decide +kernel
theorem dX5_stackTier_7 : decode cX5_stackTier 7 = .ok (.invokevirtual 83, 3) := by decide +kernel
theorem dX5_stackTier_10 : decode cX5_stackTier 10 = .ok (.astore 6, 2) := by decide +kernel
theorem dX5_stackTier_12 : decode cX5_stackTier 12 = .ok (.iconst 0, 1) := by decide +kernel
theorem dX5_stackTier_13 : decode cX5_stackTier 13 = .ok (.istore 7, 2) := by decide +kernel
theorem dX5_stackTier_15 : decode cX5_stackTier 15 = .ok (.iconst 0, 1) := by decide +kernel
theorem dX5_stackTier_16 : decode cX5_stackTier 16 = .ok (.istore 8, 2) := by decide +kernel
theorem dX5_stackTier_18 : decode cX5_stackTier 18 = .ok (.iload 8, 2) := by decide +kernel
theorem dX5_stackTier_20 : decode cX5_stackTier 20 = .ok (.iload_n 2, 1) := by decide +kernel
theorem dX5_stackTier_21 : decode cX5_stackTier 21 = .ok (.if_icmp .ge 46, 3) := by decide +kernel
theorem dX5_stackTier_24 : decode cX5_stackTier 24 = .ok (.iload 8, 2) := by decide +kernel
theorem dX5_stackTier_26 : decode cX5_stackTier 26 = .ok (.iload 7, 2) := by decide +kernel
theorem dX5_stackTier_28 : decode cX5_stackTier 28 = .ok (.isub, 1) := by decide +kernel
theorem dX5_stackTier_29 : decode cX5_stackTier 29 = .ok (.iload_n 3, 1) := by decide +kernel
theorem dX5_stackTier_30 : decode cX5_stackTier 30 = .ok (.if_icmp .lt 31, 3) := by decide +kernel
theorem dX5_stackTier_33 : decode cX5_stackTier 33 = .ok (.aload_n 1, 1) := by decide +kernel
theorem dX5_stackTier_34 : decode cX5_stackTier 34 = .ok (.iload 5, 2) := by decide +kernel
theorem dX5_stackTier_36 : decode cX5_stackTier 36 = .ok (.iload 7, 2) := by decide +kernel
theorem dX5_stackTier_38 : decode cX5_stackTier 38 = .ok (.iload 8, 2) := by decide +kernel
theorem dX5_stackTier_40 : decode cX5_stackTier 40 = .ok (.iconst 1, 1) := by decide +kernel
theorem dX5_stackTier_41 : decode cX5_stackTier 41 = .ok (.iadd, 1) := by decide +kernel
theorem dX5_stackTier_42 : decode cX5_stackTier 42 = .ok (.invokevirtual 87, 3) := by decide +kernel
theorem dX5_stackTier_45 : decode cX5_stackTier 45 = .ok (.iload 4, 2) := by decide +kernel
theorem dX5_stackTier_47 : decode cX5_stackTier 47 = .ok (.if_icmp .le 14, 3) := by decide +kernel
theorem dX5_stackTier_50 : decode cX5_stackTier 50 = .ok (.aload 6, 2) := by decide +kernel
theorem dX5_stackTier_52 : decode cX5_stackTier 52 = .ok (.iload 8, 2) := by decide +kernel
theorem dX5_stackTier_54 : decode cX5_stackTier 54 = .ok (.invokevirtual 43, 3) := by decide +kernel
theorem dX5_stackTier_57 : decode cX5_stackTier 57 = .ok (.iload 8, 2) := by decide +kernel
theorem dX5_stackTier_59 : decode cX5_stackTier 59 = .ok (.istore 7, 2) := by decide +kernel
theorem dX5_stackTier_61 : decode cX5_stackTier 61 = .ok (.iinc 8 1, 3) := by decide +kernel
theorem dX5_stackTier_64 : decode cX5_stackTier 64 = .ok (.goto (-46), 3) := by decide +kernel
theorem dX5_stackTier_67 : decode cX5_stackTier 67 = .ok (.aload 6, 2) := by decide +kernel
theorem dX5_stackTier_69 : decode cX5_stackTier 69 = .ok (.iload_n 2, 1) := by decide +kernel
theorem dX5_stackTier_70 : decode cX5_stackTier 70 = .ok (.invokevirtual 43, 3) := by decide +kernel
theorem dX5_stackTier_73 : decode cX5_stackTier 73 = .ok (.return_, 1) := by decide +kernel
set_option maxRecDepth 20000 in
theorem ggX5_stackTier_X2_append : GoodIn wsX5_stackTier wsX2_append := goodIn_r _ [143, 24, 144, 145, 146, 10, 147, 23, 148, 149, 61, 150, 151, 152, 153, 154, 155, 156, 22, 72, 73, 47, 74, 75, 76, 77, 78, 165, 166] (by decide +kernel) (by decide +kernel)
set_option maxRecDepth 20000 in
theorem ggX5_stackTier_X7_addTier : GoodIn wsX5_stackTier wsX7_addTier := goodIn_r _ [5, 6, 7, 8, 9, 10, 11, 12, 13, 14, 15, 16, 17, 18, 19, 20, 21, 22, 23, 24, 25, 26, 27, 28, 29, 30, 31, 32, 33, 34, 35, 36, 37, 38, 39, 40, 41, 42, 43, 44, 45, 46, 47, 48, 49, 50, 51, 52, 53, 54, 55, 56, 57, 58, 59, 60, 61, 62, 63, 64, 65, 66, 67, 68, 69, 70, 71, 72, 73, 74, 75, 76, 77, 78, 79, 80, 81, 4, 82, 83, 84, 85, 86, 87, 88, 89, 90, 91, 92, 93, 94, 95, 96, 97, 98, 99, 100, 101, 102, 103, 104, 157, 158, 159, 160, 161, 162, 163, 164, 165, 166, 167, 168, 169] (by decide +kernel) (by decide +kernel)
set_option maxRecDepth 20000 in
theorem ggX5_stackTier_X7_spanBytes : GoodIn wsX5_stackTier wsX7_spanBytes := goodIn_r _ [108, 109, 110, 111, 112, 113, 114, 115, 116, 117, 118, 119, 12, 13, 14, 15, 16, 120, 86, 87, 88, 89, 90, 91, 92, 93, 94, 95, 96, 97, 98, 99, 100, 31, 121, 122, 123, 4, 124, 125, 79, 80, 81, 82, 7, 83, 84, 11, 85, 126, 127, 128, 10, 129, 24, 23, 130, 131, 132, 133, 134, 135, 136, 137, 138, 139, 157, 158, 159, 160, 161, 162, 163, 164, 170, 171, 167, 168, 169, 165, 166, 172] (by decide +kernel) (by decide +kernel)
def wp_X5_stackTier_61 (zd : Nat) (a1 : Nat) (x2 : Int32) (x3 : Int32) (x4 : Int32) (y5 : Int32) (o6 : Nat) (y7 : Int32) (y8 : Int32) (f : FT) (bc bs : Nat) (K : FT → Prop) (C18 : Int32 × Int32 × FT × Nat × Nat → Prop) : Prop :=
  ∀ v_1 : Int32, v_1 = y8 + 1 → C18 (y7, v_1, f, bc, bs)
def wp_X5_stackTier_18 (zd : Nat) (a1 : Nat) (x2 : Int32) (x3 : Int32) (x4 : Int32) (y5 : Int32) (o6 : Nat) (K : FT → Prop)  (C18 : Int32 × Int32 × FT × Nat × Nat → Prop) : Int32 × Int32 × FT × Nat × Nat → Prop := fun s9 => match s9 with
  | (y7, y8, f, bc, bs) => ((x2 ≤ y8 → ∃ ga_6 gb_7 : Nat, ga_6 ≤ bc ∧ gb_7 ≤ bs ∧ isO f o6 5 ∧ wp_X2_append o6 x2 f ga_6 gb_7 (fun f_5 => K f_5)) ∧
 (¬ (x2 ≤ y8) → (((y8 - y7) < x3 → wp_X5_stackTier_61 zd a1 x2 x3 x4 y5 o6 y7 y8 f bc bs K C18) ∧
 (¬ ((y8 - y7) < x3) → isO f a1 10 ∧ wp_X7_spanBytes a1 y5 y7 (y8 + (1 : Int32)) f (fun r_11 => ((r_11 ≤ x4 → wp_X5_stackTier_61 zd a1 x2 x3 x4 y5 o6 y7 y8 f bc bs K C18) ∧
 (¬ (r_11 ≤ x4) → ∃ ga_15 gb_16 : Nat, ga_15 ≤ bc ∧ gb_16 ≤ bs ∧ isO f o6 5 ∧ wp_X2_append o6 y8 f ga_15 gb_16 (fun f_14 => wp_X5_stackTier_61 zd a1 x2 x3 x4 y5 o6 y8 y8 f_14 (bc - ga_15) (bs - gb_16) K C18))))))))
def wp_X5_stackTier (zd : Nat) (a0 : Nat) (a1 : Nat) (x2 : Int32) (x3 : Int32) (x4 : Int32) (f : FT) (mc ms : Nat) (K : FT → Prop) : Prop :=
  gI f a1 10 6 fun v_19 => ∃ ga_23 gb_24 : Nat, ga_23 ≤ mc ∧ gb_24 ≤ ms ∧ isO f a1 10 ∧ wp_X7_addTier zd a1 f ga_23 gb_24 (fun a_21 f_22 => ∃ n_27, loopW (wp_X5_stackTier_18 zd a1 x2 x3 x4 v_19 a_21 K) n_27 ((0 : Int32), (0 : Int32), f_22, (mc - ga_23), (ms - gb_24)))
set_option maxHeartbeats 4000000 in
set_option maxRecDepth 100000 in
theorem cc_X5_stackTier (l : Launch) (G : GG) {zd : Nat} (hzd : G.2.2 0 = zd) {f : FT} {sz : Nat} {a0 : Nat} {a1 : Nat} {x2 : Int32} {x3 : Int32} {x4 : Int32} {mc ms : Nat} {K : FT → Prop} (h : wp_X5_stackTier zd a0 a1 x2 x3 x4 f mc ms K) : Met l yX5_stackTier wsX5_stackTier ({ frames := 8, cells := mc, slots := ms, locals := 192 } : Room) (FP G [.ref a0, .ref a1, .int x2, .int x3, .int x4] f sz) (va_Qv (fun f9 => K f9 : FT → Prop) (FB G (fA f sz)) (fA f sz)) mc ms (fA f sz) := by
  refine Met.ofW (cc := cX5_stackTier) (maxL := 9) (ret := none) (by decide) rfl ?_
  intro p e s m args below meth c s₁ B hml hv
  obtain ⟨rfl, hsz, hF, hK, hZ⟩ := hv
  have hx := B.exec
  have hb := B.bytes
  have hr := B.returns
  have hts := atoms_spec (ws := wsX5_stackTier) B.pre
  have hown : s.vm.findClass RX5 = some m.cls := findClass_of_methodNamed B.named
  have hlocks := B.notSynchronized
  subst hsz
  have hF := hF.self (sz := s.heap.size)
  generalize hAe : fA f s.heap.size = A at hF hZ ⊢
  have hA : ∀ q : Nat, s.heap.size ≤ q → A q := fun q h => by rw [← hAe]; exact Or.inr h
  have hS : va_S A s.heap s.heap [] := va_S.rf
  have hZ9 : va_Z "java/util/ArrayList" "DEFAULTCAPACITY_EMPTY_ELEMENTDATA" "[Ljava/lang/Object;" (.ref zd) A s s.heap := by rw [← hzd]; exact hZ.1
  have hin_X7 : ∀ w ∈ wsX70, w ∈ wsX5_stackTier := by decide +kernel
  have hbc : 0 + mc ≤ mc := by omega
  have hbs : 0 + ms ≤ ms := by omega
  have L18 : ∀ (y5 : Int32) (o6 : Nat) (j9 : Nat) (y7 : Int32) (y8 : Int32) (f : FT) (bc : Nat) (bs : Nat) (H : Heap) (locs : List Loc) (ls : Array Slot) (cs sl : Nat), loopW (wp_X5_stackTier_18 zd a1 x2 x3 x4 y5 o6 K ) j9 (y7, y8, f, bc, bs) → cs + bc ≤ mc → sl + bs ≤ ms → Fw G A f H → va_S A s.heap H locs → lv_has ls 9 [(1, .ref a1), (2, .int x2), (3, .int x3), (4, .int x4), (5, .int y5), (6, .ref o6), (7, .int y7), (8, .int y8)] → W p l e ({ frames := 8, cells := mc, slots := ms, locals := 192 } : Room) s m ([.ref a0, .ref a1, .int x2, .int x3, .int x4] : List Value).toArray below meth c H locs cs sl (MQ below (va_Qv (fun f9 => K f9 : FT → Prop) (FB G A) A) ([.ref a0, .ref a1, .int x2, .int x3, .int x4] : List Value).toArray s mc ms A) (F0 m 18 ls []) := by
    intro y5 o6 j9
    induction j9 with
    | zero => intro y7 y8 f bc bs H locs ls cs sl h; exact h.elim
    | succ j9 ih18 =>
      intro y7 y8 f bc bs H locs ls cs sl h hbc hbs hF hS hl
      have h : wp_X5_stackTier_18 zd a1 x2 x3 x4 y5 o6 K  (loopW (wp_X5_stackTier_18 zd a1 x2 x3 x4 y5 o6 K ) j9) (y7, y8, f, bc, bs) := h
      generalize loopW (wp_X5_stackTier_18 zd a1 x2 x3 x4 y5 o6 K ) j9 = C18 at ih18 h
      unfold wp_X5_stackTier_18 at h
      have J61 : ∀ (y7 : Int32) (y8 : Int32) (f : FT) (bc : Nat) (bs : Nat) (H : Heap) (locs : List Loc) (ls : Array Slot) (cs sl : Nat), wp_X5_stackTier_61 zd a1 x2 x3 x4 y5 o6 y7 y8 f bc bs K C18 → cs + bc ≤ mc → sl + bs ≤ ms → Fw G A f H → va_S A s.heap H locs → lv_has ls 9 [(1, .ref a1), (2, .int x2), (3, .int x3), (4, .int x4), (5, .int y5), (6, .ref o6), (7, .int y7), (8, .int y8)] → W p l e ({ frames := 8, cells := mc, slots := ms, locals := 192 } : Room) s m ([.ref a0, .ref a1, .int x2, .int x3, .int x4] : List Value).toArray below meth c H locs cs sl (MQ below (va_Qv (fun f9 => K f9 : FT → Prop) (FB G A) A) ([.ref a0, .ref a1, .int x2, .int x3, .int x4] : List Value).toArray s mc ms A) (F0 m 61 ls []) := by
        intro y7 y8 f bc bs H locs ls cs sl h hbc hbs hF hS hl
        unfold wp_X5_stackTier_61 at h
        obtain ⟨v_1, e_2⟩ : ∃ y : Int32, y = y8 + 1 := ⟨_, rfl⟩
        have h := h v_1 e_2
        refine lv_iinc (v := v_1) (lv' := [(8, .int v_1), (1, .ref a1), (2, .int x2), (3, .int x3), (4, .int x4), (5, .int y5), (6, .ref o6), (7, .int y7)]) hx hb dX5_stackTier_61 hl (k := 7) rfl (by rw [e_2]; rfl) (by decide) rfl (fun ls hl => ?_)
        refine lv_goto (tgt := 18) hx hb dX5_stackTier_64 (by decide) ?_
        exact ih18 y7 v_1 f bc bs _ _ _ _ _ h hbc hbs hF hS (lv_sub hl [1, 2, 3, 4, 5, 6, 7, 0] rfl)
      refine lv_iload hx hb dX5_stackTier_18 (lv_at hl 7 rfl) ?_
      refine lv_iload_n hx hb dX5_stackTier_20 rfl (lv_at hl 1 rfl) ?_
      obtain ⟨h1, h2⟩ := h
      refine lv_icmp_ge (tgt := 67) hx hb dX5_stackTier_21 (by decide) (fun c_3 => ?_) (fun c_3 => ?_)
      · have h := h1 c_3
        refine lv_aload hx hb dX5_stackTier_67 (lv_at hl 5 rfl) ?_
        refine lv_iload_n hx hb dX5_stackTier_69 rfl (lv_at hl 1 rfl) ?_
        obtain ⟨ga_6, gb_7, hga_ga_6, hgb_ga_6, h⟩ := h
        obtain ⟨⟨fs_u_4, hrc_u_4⟩, h⟩ := h
        refine fw_cV_v (As := [.int x2]) (rest := []) ⟨hx, hb, hml, hown, hts⟩ (cc_X2_append l G h) (⟨callB_of 1 hts ggX5_stackTier_X2_append rfl rfl rfl (hts (.initialized RX2) (by decide +kernel)) (hts (.methodLink RX5 43 yX2_append) (by decide +kernel)) (by decide +kernel) ⟨Nat.le_of_ble_eq_true rfl, Nat.le_of_ble_eq_true rfl⟩, hts (.instanceMethod yX2_append) (by decide +kernel), hts (.selects RX2 yX2_append yX2_append) (by decide +kernel)⟩) rfl hrc_u_4 hK hZ hF hS hA rfl hl.1 rfl (Nat.le_of_ble_eq_true rfl) dX5_stackTier_70 ⟨by show _ ≤ mc; omega, by show _ ≤ ms; omega⟩ (fun f_5 H locs h hF hS => ?_)
        obtain ⟨cs_8, hcs⟩ : ∃ z, z = (cs + ga_6) := ⟨_, rfl⟩; obtain ⟨sl_9, hsl⟩ : ∃ z, z = (sl + gb_7) := ⟨_, rfl⟩
        have hbc : cs_8 + (bc - ga_6) ≤ mc := by omega
        have hbs : sl_9 + (bs - gb_7) ≤ ms := by omega
        refine W.widen (k := cs_8) (n := sl_9) (by omega) (by omega) ?_
        clear hcs hsl
        refine W.widen (k := mc) (n := ms) (by omega) (by omega) ?_
        exact W.vret hx hb hr (fun t ht hW => ⟨⟨f_5, rfl, h, by rw [ht]; exact hF, FK.moved hW.alike hK⟩, hS.F ht⟩) hS.2.2 dX5_stackTier_73
      · have h := h2 c_3
        refine lv_iload hx hb dX5_stackTier_24 (lv_at hl 7 rfl) ?_
        refine lv_iload hx hb dX5_stackTier_26 (lv_at hl 6 rfl) ?_
        refine lv_isub hx hb dX5_stackTier_28 ?_
        refine lv_iload_n hx hb dX5_stackTier_29 rfl (lv_at hl 2 rfl) ?_
        obtain ⟨h1, h2⟩ := h
        refine lv_icmp_lt (tgt := 61) hx hb dX5_stackTier_30 (by decide) (fun c_10 => ?_) (fun c_10 => ?_)
        · have h := h1 c_10
          exact J61 y7 y8 f bc bs _ _ _ _ _ h hbc hbs hF hS (lv_sub hl [0, 1, 2, 3, 4, 5, 6, 7] rfl)
        · have h := h2 c_10
          refine lv_aload_n hx hb dX5_stackTier_33 rfl (lv_at hl 0 rfl) ?_
          refine lv_iload hx hb dX5_stackTier_34 (lv_at hl 4 rfl) ?_
          refine lv_iload hx hb dX5_stackTier_36 (lv_at hl 6 rfl) ?_
          refine lv_iload hx hb dX5_stackTier_38 (lv_at hl 7 rfl) ?_
          refine lv_iconst (v := (1 : Int32)) hx hb dX5_stackTier_40 (by decide) ?_
          refine lv_iadd hx hb dX5_stackTier_41 ?_
          obtain ⟨⟨fs_r_11, hrc_r_11⟩, h⟩ := h
          refine fw_cV_i_p (As := [.int y5, .int y7, .int (y8 + (1 : Int32))]) (rest := []) ⟨hx, hb, hml, hown, hts⟩ (cc_X7_spanBytes l G h) (⟨callB_of 3 hts ggX5_stackTier_X7_spanBytes rfl rfl rfl (hts (.initialized RX7) (by decide +kernel)) (hts (.methodLink RX5 87 yX7_spanBytes) (by decide +kernel)) (by decide +kernel) ⟨Nat.le_of_ble_eq_true rfl, Nat.le_of_ble_eq_true rfl⟩, hts (.instanceMethod yX7_spanBytes) (by decide +kernel), hts (.selects RX7 yX7_spanBytes yX7_spanBytes) (by decide +kernel)⟩) rfl hrc_r_11 hK hZ hF hS hA rfl hl.1 rfl (Nat.le_of_ble_eq_true rfl) dX5_stackTier_42 ⟨by show _ ≤ mc; omega, by show _ ≤ ms; omega⟩ (fun r_11 H locs h hF hS => ?_)
          simp only [Nat.add_zero]
          refine lv_iload hx hb dX5_stackTier_45 (lv_at hl 3 rfl) ?_
          obtain ⟨h1, h2⟩ := h
          refine lv_icmp_le (tgt := 61) hx hb dX5_stackTier_47 (by decide) (fun c_12 => ?_) (fun c_12 => ?_)
          · have h := h1 c_12
            exact J61 y7 y8 f bc bs _ _ _ _ _ h hbc hbs hF hS (lv_sub hl [0, 1, 2, 3, 4, 5, 6, 7] rfl)
          · have h := h2 c_12
            refine lv_aload hx hb dX5_stackTier_50 (lv_at hl 5 rfl) ?_
            refine lv_iload hx hb dX5_stackTier_52 (lv_at hl 7 rfl) ?_
            obtain ⟨ga_15, gb_16, hga_ga_15, hgb_ga_15, h⟩ := h
            obtain ⟨⟨fs_u_13, hrc_u_13⟩, h⟩ := h
            refine fw_cV_v (As := [.int y8]) (rest := []) ⟨hx, hb, hml, hown, hts⟩ (cc_X2_append l G h) (⟨callB_of 1 hts ggX5_stackTier_X2_append rfl rfl rfl (hts (.initialized RX2) (by decide +kernel)) (hts (.methodLink RX5 43 yX2_append) (by decide +kernel)) (by decide +kernel) ⟨Nat.le_of_ble_eq_true rfl, Nat.le_of_ble_eq_true rfl⟩, hts (.instanceMethod yX2_append) (by decide +kernel), hts (.selects RX2 yX2_append yX2_append) (by decide +kernel)⟩) rfl hrc_u_13 hK hZ hF hS hA rfl hl.1 rfl (Nat.le_of_ble_eq_true rfl) dX5_stackTier_54 ⟨by show _ ≤ mc; omega, by show _ ≤ ms; omega⟩ (fun f_14 H locs h hF hS => ?_)
            obtain ⟨cs_17, hcs⟩ : ∃ z, z = (cs + ga_15) := ⟨_, rfl⟩; obtain ⟨sl_18, hsl⟩ : ∃ z, z = (sl + gb_16) := ⟨_, rfl⟩
            have hbc : cs_17 + (bc - ga_15) ≤ mc := by omega
            have hbs : sl_18 + (bs - gb_16) ≤ ms := by omega
            refine W.widen (k := cs_17) (n := sl_18) (by omega) (by omega) ?_
            clear hcs hsl
            refine lv_iload hx hb dX5_stackTier_57 (lv_at hl 7 rfl) ?_
            refine lv_istore (lv' := [(7, .int y8), (1, .ref a1), (2, .int x2), (3, .int x3), (4, .int x4), (5, .int y5), (6, .ref o6), (8, .int y8)]) hx hb dX5_stackTier_59 hl (by decide) rfl (fun ls hl => ?_)
            exact J61 y8 y8 f_14 (bc - ga_15) (bs - gb_16) _ _ _ _ _ h hbc hbs hF hS (lv_sub hl [1, 2, 3, 4, 5, 6, 0, 7] rfl)
  have hl := lv_entry ([.ref a0, .ref a1, .int x2, .int x3, .int x4]) (n := 9) (Nat.le_of_ble_eq_true rfl)
  rw [lg_entry_eq]
  generalize (lg_sl ([.ref a0, .ref a1, .int x2, .int x3, .int x4]) ++ List.replicate (9 - (lg_sl ([.ref a0, .ref a1, .int x2, .int x3, .int x4])).length) Slot.unset).toArray = ls at hl ⊢
  have hl : lv_has ls 9 [(0, .ref a0), (1, .ref a1), (2, .int x2), (3, .int x3), (4, .int x4)] := hl
  unfold wp_X5_stackTier at h
  refine lv_aload_n hx hb dX5_stackTier_0 rfl (lv_at hl 1 rfl) ?_
  obtain ⟨fs_20, v_19, he_fs_20, hv_fs_20, h⟩ := h
  refine fw_getN (C := RX7) (T := TX7) (N := 8) hx hb hts hin_X7 hown hK hF he_fs_20 rfl 6 (by decide) (va_Nw.use rfl (hZ.2.1 (.fieldLinkNest RX5 64 "FrontCodedIndex$Tree" "tierTotal" "I" "FrontCodedIndex") (by decide +kernel))) (fun _ h9 => h9) hv_fs_20 dX5_stackTier_1 ?_
  refine lv_istore (lv' := [(5, .int v_19), (0, .ref a0), (1, .ref a1), (2, .int x2), (3, .int x3), (4, .int x4)]) hx hb dX5_stackTier_4 hl (by decide) rfl (fun ls hl => ?_)
  refine lv_aload_n hx hb dX5_stackTier_6 rfl (lv_at hl 2 rfl) ?_
  obtain ⟨ga_23, gb_24, hga_ga_23, hgb_ga_23, h⟩ := h
  obtain ⟨⟨fs_a_21, hrc_a_21⟩, h⟩ := h
  refine fw_cV_q_w (As := []) (rest := []) ⟨hx, hb, hml, hown, hts⟩ (cc_X7_addTier l G hzd h) (⟨callB_of 0 hts ggX5_stackTier_X7_addTier rfl rfl rfl (hts (.initialized RX7) (by decide +kernel)) (hts (.methodLink RX5 83 yX7_addTier) (by decide +kernel)) (by decide +kernel) ⟨Nat.le_of_ble_eq_true rfl, Nat.le_of_ble_eq_true rfl⟩, hts (.instanceMethod yX7_addTier) (by decide +kernel), hts (.selects RX7 yX7_addTier yX7_addTier) (by decide +kernel)⟩) rfl hrc_a_21 hK hZ hF hS hA rfl hl.1 rfl (Nat.le_of_ble_eq_true rfl) dX5_stackTier_7 ⟨by show _ ≤ mc; omega, by show _ ≤ ms; omega⟩ (fun a_21 f_22 H locs h hF hS => ?_)
  obtain ⟨cs_25, hcs⟩ : ∃ z, z = (0 + ga_23) := ⟨_, rfl⟩; obtain ⟨sl_26, hsl⟩ : ∃ z, z = (0 + gb_24) := ⟨_, rfl⟩
  have hbc : cs_25 + (mc - ga_23) ≤ mc := by omega
  have hbs : sl_26 + (ms - gb_24) ≤ ms := by omega
  refine W.widen (k := cs_25) (n := sl_26) (by omega) (by omega) ?_
  clear hcs hsl
  refine lv_astore (lv' := [(6, .ref a_21), (5, .int v_19), (0, .ref a0), (1, .ref a1), (2, .int x2), (3, .int x3), (4, .int x4)]) hx hb dX5_stackTier_10 hl (by decide) rfl (fun ls hl => ?_)
  refine lv_iconst (v := (0 : Int32)) hx hb dX5_stackTier_12 (by decide) ?_
  refine lv_istore (lv' := [(7, .int (0 : Int32)), (6, .ref a_21), (5, .int v_19), (0, .ref a0), (1, .ref a1), (2, .int x2), (3, .int x3), (4, .int x4)]) hx hb dX5_stackTier_13 hl (by decide) rfl (fun ls hl => ?_)
  refine lv_iconst (v := (0 : Int32)) hx hb dX5_stackTier_15 (by decide) ?_
  refine lv_istore (lv' := [(8, .int (0 : Int32)), (7, .int (0 : Int32)), (6, .ref a_21), (5, .int v_19), (0, .ref a0), (1, .ref a1), (2, .int x2), (3, .int x3), (4, .int x4)]) hx hb dX5_stackTier_16 hl (by decide) rfl (fun ls hl => ?_)
  obtain ⟨n_27, h⟩ := h
  exact L18 v_19 a_21 n_27 (0 : Int32) (0 : Int32) f_22 (mc - ga_23) (ms - gb_24) _ _ _ _ _ h hbc hbs hF hS (lv_sub hl [5, 6, 7, 8, 3, 2, 1, 0] rfl)
theorem dX7_pageTotal_0 : decode cX7_pageTotal 0 = .ok (.aload_n 0, 1) := by decide +kernel
theorem dX7_pageTotal_1 : decode cX7_pageTotal 1 = .ok (.iload_n 1, 1) := by decide +kernel
theorem dX7_pageTotal_2 : decode cX7_pageTotal 2 = .ok (.invokevirtual 74, 3) := by decide +kernel
theorem dX7_pageTotal_5 : decode cX7_pageTotal 5 = .ok (.invokevirtual 81, 3) := by decide +kernel
theorem dX7_pageTotal_8 : decode cX7_pageTotal 8 = .ok (.ireturn, 1) := by decide +kernel
set_option maxRecDepth 20000 in
theorem ggX7_pageTotal_X2_count : GoodIn wsX7_pageTotal wsX2_count := goodIn_r _ [36, 37, 49, 50] (by decide +kernel) (by decide +kernel)
set_option maxRecDepth 20000 in
theorem ggX7_pageTotal_X7_tier : GoodIn wsX7_pageTotal wsX7_tier := goodIn_r _ [5, 6, 7, 8, 9, 10, 11, 12, 13, 14, 15, 16, 17, 18, 19, 20, 21, 22, 23, 24, 25, 26, 27, 28, 29, 30, 31, 38, 39, 40, 41, 42, 43, 44, 45, 46, 47, 48] (by decide +kernel) (by decide +kernel)
def wp_X7_pageTotal (a0 : Nat) (x1 : Int32) (f : FT) (K : Int32 → Prop) : Prop :=
  isO f a0 10 ∧ wp_X7_tier a0 x1 f (fun a_1 => isO f a_1 5 ∧ wp_X2_count a_1 f (fun r_2 => K r_2))
set_option maxHeartbeats 4000000 in
set_option maxRecDepth 100000 in
theorem cc_X7_pageTotal (l : Launch) (G : GG) {f : FT} {sz : Nat} {a0 : Nat} {x1 : Int32} {K : Int32 → Prop} (h : wp_X7_pageTotal a0 x1 f K) : Met l yX7_pageTotal wsX7_pageTotal ({ frames := 4, cells := 0, slots := 0, locals := 85 } : Room) (FP G [.ref a0, .int x1] f sz) (va_Qi (fun r f9 => K r ∧ f9 = f : Int32 → FT → Prop) (FB G (fA f sz)) (fA f sz)) 0 0 (fA f sz) := by
  refine Met.ofW (cc := cX7_pageTotal) (maxL := 2) (ret := (some .int)) (by decide) rfl ?_
  intro p e s m args below meth c s₁ B hml hv
  obtain ⟨rfl, hsz, hF, hK, hZ⟩ := hv
  have hx := B.exec
  have hb := B.bytes
  have hr := B.returns
  have hts := atoms_spec (ws := wsX7_pageTotal) B.pre
  have hown : s.vm.findClass RX7 = some m.cls := findClass_of_methodNamed B.named
  have hlocks := B.notSynchronized
  subst hsz
  have hF := hF.self (sz := s.heap.size)
  generalize hAe : fA f s.heap.size = A at hF hZ ⊢
  have hA : ∀ q : Nat, s.heap.size ≤ q → A q := fun q h => by rw [← hAe]; exact Or.inr h
  have hS : va_S A s.heap s.heap [] := va_S.rf
  have hl := lv_entry ([.ref a0, .int x1]) (n := 2) (Nat.le_of_ble_eq_true rfl)
  rw [lg_entry_eq]
  generalize (lg_sl ([.ref a0, .int x1]) ++ List.replicate (2 - (lg_sl ([.ref a0, .int x1])).length) Slot.unset).toArray = ls at hl ⊢
  have hl : lv_has ls 2 [(0, .ref a0), (1, .int x1)] := hl
  unfold wp_X7_pageTotal at h
  refine lv_aload_n hx hb dX7_pageTotal_0 rfl (lv_at hl 0 rfl) ?_
  refine lv_iload_n hx hb dX7_pageTotal_1 rfl (lv_at hl 1 rfl) ?_
  obtain ⟨⟨fs_a_1, hrc_a_1⟩, h⟩ := h
  refine fw_cV_q_p (As := [.int x1]) (rest := []) ⟨hx, hb, hml, hown, hts⟩ (cc_X7_tier l G h) (⟨callB_of 1 hts ggX7_pageTotal_X7_tier rfl rfl rfl (hts (.initialized RX7) (by decide +kernel)) (hts (.methodLink RX7 74 yX7_tier) (by decide +kernel)) (by decide +kernel) ⟨Nat.le_of_ble_eq_true rfl, Nat.le_of_ble_eq_true rfl⟩, hts (.instanceMethod yX7_tier) (by decide +kernel), hts (.selects RX7 yX7_tier yX7_tier) (by decide +kernel)⟩) rfl hrc_a_1 hK hZ hF hS hA rfl hl.1 rfl (Nat.le_of_ble_eq_true rfl) dX7_pageTotal_2 ⟨Nat.zero_le _, Nat.zero_le _⟩ (fun a_1 H locs h hF hS => ?_)
  obtain ⟨⟨fs_r_2, hrc_r_2⟩, h⟩ := h
  refine fw_cV_i_p (As := []) (rest := []) ⟨hx, hb, hml, hown, hts⟩ (cc_X2_count l G h) (⟨callB_of 0 hts ggX7_pageTotal_X2_count rfl rfl rfl (hts (.initialized RX2) (by decide +kernel)) (hts (.methodLink RX7 81 yX2_count) (by decide +kernel)) (by decide +kernel) ⟨Nat.le_of_ble_eq_true rfl, Nat.le_of_ble_eq_true rfl⟩, hts (.instanceMethod yX2_count) (by decide +kernel), hts (.selects RX2 yX2_count yX2_count) (by decide +kernel)⟩) rfl hrc_r_2 hK hZ hF hS hA rfl hl.1 rfl (Nat.le_of_ble_eq_true rfl) dX7_pageTotal_5 ⟨Nat.zero_le _, Nat.zero_le _⟩ (fun r_2 H locs h hF hS => ?_)
  exact W.iret (v := r_2) hx hb hr (fun t ht hW => ⟨⟨r_2, f, rfl, ⟨h, rfl⟩, by rw [ht]; exact hF, FK.moved hW.alike hK⟩, hS.F ht⟩) hS.2.2 dX7_pageTotal_8
theorem dX5_build_0 : decode cX5_build 0 = .ok (.aload_n 1, 1) := by decide +kernel
theorem dX5_build_1 : decode cX5_build 1 = .ok (.getfield 50, 3) := by decide +kernel
theorem dX5_build_4 : decode cX5_build 4 = .ok (.aload_n 0, 1) := by decide +kernel
theorem dX5_build_5 : decode cX5_build 5 = .ok (.getfield 12, 3) := by decide +kernel
theorem dX5_build_8 : decode cX5_build 8 = .ok (.invokevirtual 53, 3) := by decide +kernel
theorem dX5_build_11 : decode cX5_build 11 = .ok (.aload_n 1, 1) := by decide +kernel
theorem dX5_build_12 : decode cX5_build 12 = .ok (.getfield 57, 3) := by decide +kernel
theorem dX5_build_15 : decode cX5_build 15 = .ok (.aload_n 0, 1) := by decide +kernel
theorem dX5_build_16 : decode cX5_build 16 = .ok (.getfield 21, 3) := by decide +kernel
theorem dX5_build_19 : decode cX5_build 19 = .ok (.invokevirtual 58, 3) := by decide +kernel
theorem dX5_build_22 : decode cX5_build 22 = .ok (.aload_n 1, 1) := by decide +kernel
theorem dX5_build_23 : decode cX5_build 23 = .ok (.getfield 61, 3) := by decide +kernel
theorem dX5_build_26 : decode cX5_build 26 = .ok (.invokevirtual 46, 3) := by decide +kernel
theorem dX5_build_29 : decode cX5_build 29 = .ok (.aload_n 1, 1) := by decide +kernel
theorem dX5_build_30 : decode cX5_build 30 = .ok (.iconst 0, 1) := by decide +kernel
theorem dX5_build_31 : decode cX5_build 31 = .ok (.putfield 64, 3) := by decide +kernel
theorem dX5_build_34 : decode cX5_build 34 = .ok (.aload_n 0, 1) := by decide +kernel
theorem dX5_build_35 : decode cX5_build 35 = .ok (.aload_n 1, 1) := by decide +kernel
theorem dX5_build_36 : decode cX5_build 36 = .ok (.aload_n 0, 1) := by decide +kernel
theorem dX5_build_37 : decode cX5_build 37 = .ok (.getfield 12, 3) := by decide +kernel
theorem dX5_build_40 : decode cX5_build 40 = .ok (.invokevirtual 25, 3) := by decide +kernel
theorem dX5_build_43 : decode cX5_build 43 = .ok (.iconst 1, 1) := by decide +kernel
theorem dX5_build_44 : decode cX5_build 44 = .ok (.iload_n 2, 1) := by decide +kernel
theorem dX5_build_45 : decode cX5_build 45 = .ok (.invokevirtual 68, 3) := by decide +kernel
theorem dX5_build_48 : decode cX5_build 48 = .ok (.iconst 1, 1) := by decide +kernel
theorem dX5_build_49 : decode cX5_build 49 = .ok (.istore_n 3, 1) := by decide +kernel
theorem dX5_build_50 : decode cX5_build 50 = .ok (.iload_n 3, 1) := by decide +kernel
theorem dX5_build_51 : decode cX5_build 51 = .ok (.aload_n 1, 1) := by decide +kernel
theorem dX5_build_52 : decode cX5_build 52 = .ok (.iconst 0, 1) := by decide +kernel
theorem dX5_build_53 : decode cX5_build 53 = .ok (.invokevirtual 72, 3) := by decide +kernel
theorem dX5_build_56 : decode cX5_build 56 = .ok (.if_icmp .ge 26, 3) := by decide +kernel
theorem dX5_build_59 : decode cX5_build 59 = .ok (.aload_n 1, 1) := by decide +kernel
theorem dX5_build_60 : decode cX5_build 60 = .ok (.getfield 61, 3) := by decide +kernel
theorem dX5_build_63 : decode cX5_build 63 = .ok (.aload_n 1, 1) := by decide +kernel
theorem dX5_build_64 : decode cX5_build 64 = .ok (.aload_n 1, 1) := by decide +kernel
theorem dX5_build_65 : decode cX5_build 65 = .ok (.iconst 0, 1) := by decide +kernel
theorem dX5_build_66 : decode cX5_build 66 = .ok (.iload_n 3, 1) := by decide +kernel
theorem dX5_build_67 : decode cX5_build 67 = .ok (.invokevirtual 76, 3) := by decide +kernel
theorem dX5_build_70 : decode cX5_build 70 = .ok (.invokevirtual 80, 3) := by decide +kernel
theorem dX5_build_73 : decode cX5_build 73 = .ok (.invokevirtual 39, 3) := by decide +kernel
theorem dX5_build_76 : decode cX5_build 76 = .ok (.iinc 3 1, 3) := by decide +kernel
theorem dX5_build_79 : decode cX5_build 79 = .ok (.goto (-29), 3) := by decide +kernel
theorem dX5_build_82 : decode cX5_build 82 = .ok (.iconst 1, 1) := by decide +kernel
theorem dX5_build_83 : decode cX5_build 83 = .ok (.istore_n 3, 1) := by decide +kernel
theorem dX5_build_84 : decode cX5_build 84 = .ok (.iload_n 3, 1) := by decide +kernel
theorem dX5_build_85 : decode cX5_build 85 = .ok (.sipush 300, 3) := by decide +kernel
theorem dX5_build_88 : decode cX5_build 88 = .ok (.if_icmp .ge 34, 3) := by decide +kernel
theorem dX5_build_91 : decode cX5_build 91 = .ok (.aload_n 1, 1) := by decide +kernel
theorem dX5_build_92 : decode cX5_build 92 = .ok (.iload_n 3, 1) := by decide +kernel
theorem dX5_build_93 : decode cX5_build 93 = .ok (.iconst 1, 1) := by decide +kernel
theorem dX5_build_94 : decode cX5_build 94 = .ok (.isub, 1) := by decide +kernel
theorem dX5_build_95 : decode cX5_build 95 = .ok (.invokevirtual 72, 3) := by decide +kernel
theorem dX5_build_98 : decode cX5_build 98 = .ok (.iconst 1, 1) := by decide +kernel
theorem dX5_build_99 : decode cX5_build 99 = .ok (.if_icmp .le 23, 3) := by decide +kernel
theorem dX5_build_102 : decode cX5_build 102 = .ok (.aload_n 0, 1) := by decide +kernel
theorem dX5_build_103 : decode cX5_build 103 = .ok (.aload_n 1, 1) := by decide +kernel
theorem dX5_build_104 : decode cX5_build 104 = .ok (.aload_n 1, 1) := by decide +kernel
theorem dX5_build_105 : decode cX5_build 105 = .ok (.iload_n 3, 1) := by decide +kernel
theorem dX5_build_106 : decode cX5_build 106 = .ok (.iconst 1, 1) := by decide +kernel
theorem dX5_build_107 : decode cX5_build 107 = .ok (.isub, 1) := by decide +kernel
theorem dX5_build_108 : decode cX5_build 108 = .ok (.invokevirtual 72, 3) := by decide +kernel
theorem dX5_build_111 : decode cX5_build 111 = .ok (.iconst 2, 1) := by decide +kernel
theorem dX5_build_112 : decode cX5_build 112 = .ok (.iload_n 2, 1) := by decide +kernel
theorem dX5_build_113 : decode cX5_build 113 = .ok (.invokevirtual 68, 3) := by decide +kernel
theorem dX5_build_116 : decode cX5_build 116 = .ok (.iinc 3 1, 3) := by decide +kernel
theorem dX5_build_119 : decode cX5_build 119 = .ok (.goto (-35), 3) := by decide +kernel
theorem dX5_build_122 : decode cX5_build 122 = .ok (.return_, 1) := by decide +kernel
set_option maxRecDepth 20000 in
theorem ggX5_build_X2_copyFrom : GoodIn wsX5_build wsX2_copyFrom := goodIn_r _ [94, 95, 96, 97, 98, 93, 99, 100, 101, 102, 103, 104, 105, 106, 107, 108, 109, 110, 72, 111, 112, 113, 114, 115, 116, 117, 118, 83, 84, 58, 85, 86, 87, 88, 89, 242, 243] (by decide +kernel) (by decide +kernel)
set_option maxRecDepth 20000 in
theorem ggX5_build_X4_append : GoodIn wsX5_build wsX4_append := goodIn_r _ [226, 8, 39, 40, 41, 13, 42, 15, 16, 17, 18, 43, 44, 45, 46, 47, 48, 49, 50, 51, 52, 53, 54, 55, 56, 57, 58, 59, 60, 61, 62, 63, 64, 65, 66, 67, 68, 69, 70, 71, 72, 73, 74, 75, 76, 77, 78, 79, 80, 81, 82, 83, 84, 85, 86, 87, 88, 89, 237, 238, 239, 240, 241] (by decide +kernel) (by decide +kernel)
set_option maxRecDepth 20000 in
theorem ggX5_build_X4_copyFrom : GoodIn wsX5_build wsX4_copyFrom := goodIn_r _ [7, 8, 9, 10, 11, 12, 13, 14, 15, 16, 17, 18, 19, 20, 21, 22, 23, 24, 25, 26, 27, 28, 29, 30, 31, 32, 33, 34, 35, 36, 37, 38, 39, 40, 41, 42, 43, 44, 45, 46, 47, 48, 49, 50, 51, 52, 53, 54, 55, 56, 57, 58, 59, 60, 61, 62, 63, 64, 65, 66, 67, 68, 69, 70, 71, 72, 73, 74, 75, 76, 77, 78, 79, 80, 81, 82, 83, 84, 85, 86, 87, 88, 89, 237, 238, 239, 240, 241] (by decide +kernel) (by decide +kernel)
set_option maxRecDepth 20000 in
theorem ggX5_build_X4_count : GoodIn wsX5_build wsX4_count := goodIn_r _ [126, 8, 19, 20, 21, 13, 22, 18, 237, 238, 239, 240, 241] (by decide +kernel) (by decide +kernel)
set_option maxRecDepth 20000 in
theorem ggX5_build_X4_empty : GoodIn wsX5_build wsX4_empty := goodIn_r _ [122, 8, 10, 11, 12, 13, 14, 15, 16, 17, 18, 237, 238, 239, 240, 241] (by decide +kernel) (by decide +kernel)
set_option maxRecDepth 20000 in
theorem ggX5_build_X5_stackTier : GoodIn wsX5_build wsX5_stackTier := goodIn_r _ [131, 132, 133, 134, 135, 136, 137, 138, 139, 140, 93, 141, 20, 21, 13, 22, 18, 142, 143, 144, 145, 146, 118, 100, 95, 147, 40, 41, 42, 15, 16, 17, 43, 44, 45, 46, 47, 48, 49, 50, 51, 52, 53, 54, 55, 56, 57, 58, 59, 60, 61, 62, 63, 64, 65, 66, 67, 68, 69, 70, 71, 72, 73, 74, 75, 76, 77, 78, 79, 80, 81, 82, 83, 84, 85, 86, 87, 88, 89, 148, 149, 150, 151, 152, 153, 154, 24, 25, 26, 27, 28, 29, 30, 31, 32, 33, 34, 35, 36, 37, 38, 155, 156, 157, 158, 159, 160, 161, 162, 163, 164, 165, 166, 167, 6, 168, 8, 9, 169, 19, 23, 170, 171, 172, 173, 174, 175, 97, 98, 99, 176, 177, 178, 179, 180, 181, 182, 183, 184, 185, 186, 102, 103, 104, 105, 106, 107, 108, 109, 110, 111, 112, 113, 114, 115, 116, 117, 227, 228, 229, 230, 231, 232, 233, 234, 242, 243, 239, 240, 241, 237, 238, 244] (by decide +kernel) (by decide +kernel)
set_option maxRecDepth 20000 in
theorem ggX5_build_X7_pageTotal : GoodIn wsX5_build wsX7_pageTotal := goodIn_r _ [190, 148, 149, 150, 135, 151, 138, 152, 153, 141, 20, 21, 13, 22, 18, 154, 24, 25, 26, 27, 28, 29, 30, 31, 32, 33, 34, 35, 36, 37, 38, 17, 191, 192, 193, 93, 194, 95, 227, 228, 229, 230, 231, 232, 233, 234, 239, 240, 241, 242, 243] (by decide +kernel) (by decide +kernel)
set_option maxRecDepth 20000 in
theorem ggX5_build_X7_shortestBefore : GoodIn wsX5_build wsX7_shortestBefore := goodIn_r _ [202, 164, 165, 166, 167, 6, 168, 8, 9, 169, 19, 20, 21, 13, 22, 18, 23, 24, 25, 26, 27, 28, 29, 30, 31, 32, 33, 34, 35, 36, 37, 38, 17, 182, 183, 184, 179, 185, 181, 203, 204, 205, 206, 207, 208, 209, 84, 58, 85, 210, 57, 59, 211, 212, 72, 213, 214, 215, 114, 115, 216, 217, 218, 83, 86, 87, 88, 89, 219, 220, 221, 222, 145, 146, 227, 228, 229, 230, 231, 232, 233, 234, 237, 238, 239, 240, 241, 244] (by decide +kernel) (by decide +kernel)
set_option maxRecDepth 20000 in
theorem ggX5_build_X7_startOf : GoodIn wsX5_build wsX7_startOf := goodIn_r _ [198, 148, 149, 150, 135, 151, 138, 152, 153, 141, 20, 21, 13, 22, 18, 154, 24, 25, 26, 27, 28, 29, 30, 31, 32, 33, 34, 35, 36, 37, 38, 17, 175, 97, 98, 93, 99, 95, 100, 227, 228, 229, 230, 231, 232, 233, 234, 239, 240, 241, 242, 243] (by decide +kernel) (by decide +kernel)
def wp_X5_build_84 (zd : Nat) (a0 : Nat) (a1 : Nat) (x2 : Int32) (K : FT → Prop)  (C84 : Int32 × FT × Nat × Nat → Prop) : Int32 × FT × Nat × Nat → Prop := fun s9 => match s9 with
  | (y3, f, bc, bs) => (((300 : Int32) ≤ y3 → K f) ∧
 (¬ ((300 : Int32) ≤ y3) → isO f a1 10 ∧ wp_X7_pageTotal a1 (y3 - (1 : Int32)) f (fun r_2 => ((r_2 ≤ (1 : Int32) → K f) ∧
 (¬ (r_2 ≤ (1 : Int32)) → isO f a1 10 ∧ wp_X7_pageTotal a1 (y3 - (1 : Int32)) f (fun r_4 => ∃ ga_7 gb_8 : Nat, ga_7 ≤ bc ∧ gb_8 ≤ bs ∧ isO f a0 8 ∧ wp_X5_stackTier zd a0 a1 r_4 (2 : Int32) x2 f ga_7 gb_8 (fun f_6 => ∀ v_11 : Int32, v_11 = y3 + 1 → C84 (v_11, f_6, (bc - ga_7), (bs - gb_8)))))))))
def wp_X5_build_50 (zd : Nat) (a0 : Nat) (a1 : Nat) (x2 : Int32) (K : FT → Prop)  (C50 : Int32 × FT × Nat × Nat → Prop) : Int32 × FT × Nat × Nat → Prop := fun s9 => match s9 with
  | (y3, f, bc, bs) => isO f a1 10 ∧ wp_X7_pageTotal a1 (0 : Int32) f (fun r_13 => ((r_13 ≤ y3 → ∃ n_15, loopW (wp_X5_build_84 zd a0 a1 x2 K) n_15 ((1 : Int32), f, bc, bs)) ∧
 (¬ (r_13 ≤ y3) → gA f a1 10 2 fun a_16 => isO f a1 10 ∧ wp_X7_startOf a1 (0 : Int32) y3 f (fun r_18 => ∃ ga_21 gb_22 : Nat, ga_21 ≤ bc ∧ gb_22 ≤ bs ∧ isO f a1 10 ∧ wp_X7_shortestBefore a1 r_18 f ga_21 gb_22 (fun a_19 f_20 => ∃ ga_27 gb_28 : Nat, ga_27 ≤ (bc - ga_21) ∧ gb_28 ≤ (bs - gb_22) ∧ isO f_20 a_16 7 ∧ wp_X4_append zd a_16 a_19 f_20 ga_27 gb_28 (fun f_26 => ∀ v_31 : Int32, v_31 = y3 + 1 → C50 (v_31, f_26, ((bc - ga_21) - ga_27), ((bs - gb_22) - gb_28))))))))
def wp_X5_build (zd : Nat) (a0 : Nat) (a1 : Nat) (x2 : Int32) (f : FT) (mc ms : Nat) (K : FT → Prop) : Prop :=
  gA f a1 10 0 fun a_33 => gA f a0 8 0 fun a_35 => ∃ ga_39 gb_40 : Nat, ga_39 ≤ mc ∧ gb_40 ≤ ms ∧ isO f a_33 7 ∧ wp_X4_copyFrom zd a_33 a_35 f ga_39 gb_40 (fun f_38 => gA f_38 a1 10 1 fun a_43 => gA f_38 a0 8 1 fun a_45 => ∃ ga_49 gb_50 : Nat, ga_49 ≤ (mc - ga_39) ∧ gb_50 ≤ (ms - gb_40) ∧ isO f_38 a_43 5 ∧ wp_X2_copyFrom a_43 a_45 f_38 ga_49 gb_50 (fun f_48 => gA f_48 a1 10 2 fun a_53 => isO f_48 a_53 7 ∧ wp_X4_empty a_53 f_48 (fun f_56 => pV f_56 a1 10 6 (.int (0 : Int32)) fun f_58 => gA f_58 a0 8 0 fun a_59 => isO f_58 a_59 7 ∧ wp_X4_count a_59 f_58 (fun r_61 => ∃ ga_64 gb_65 : Nat, ga_64 ≤ ((mc - ga_39) - ga_49) ∧ gb_65 ≤ ((ms - gb_40) - gb_50) ∧ isO f_58 a0 8 ∧ wp_X5_stackTier zd a0 a1 r_61 (1 : Int32) x2 f_58 ga_64 gb_65 (fun f_63 => ∃ n_68, loopW (wp_X5_build_50 zd a0 a1 x2 K) n_68 ((1 : Int32), f_63, (((mc - ga_39) - ga_49) - ga_64), (((ms - gb_40) - gb_50) - gb_65)))))))
set_option maxHeartbeats 4000000 in
set_option maxRecDepth 100000 in
theorem cc_X5_build (l : Launch) (G : GG) {zd : Nat} (hzd : G.2.2 0 = zd) {f : FT} {sz : Nat} {a0 : Nat} {a1 : Nat} {x2 : Int32} {mc ms : Nat} {K : FT → Prop} (h : wp_X5_build zd a0 a1 x2 f mc ms K) : Met l yX5_build wsX5_build ({ frames := 9, cells := mc, slots := ms, locals := 220 } : Room) (FP G [.ref a0, .ref a1, .int x2] f sz) (va_Qv (fun f9 => K f9 : FT → Prop) (FB G (fA f sz)) (fA f sz)) mc ms (fA f sz) := by
  refine Met.ofW (cc := cX5_build) (maxL := 4) (ret := none) (by decide) rfl ?_
  intro p e s m args below meth c s₁ B hml hv
  obtain ⟨rfl, hsz, hF, hK, hZ⟩ := hv
  have hx := B.exec
  have hb := B.bytes
  have hr := B.returns
  have hts := atoms_spec (ws := wsX5_build) B.pre
  have hown : s.vm.findClass RX5 = some m.cls := findClass_of_methodNamed B.named
  have hlocks := B.notSynchronized
  subst hsz
  have hF := hF.self (sz := s.heap.size)
  generalize hAe : fA f s.heap.size = A at hF hZ ⊢
  have hA : ∀ q : Nat, s.heap.size ≤ q → A q := fun q h => by rw [← hAe]; exact Or.inr h
  have hS : va_S A s.heap s.heap [] := va_S.rf
  have hZ9 : va_Z "java/util/ArrayList" "DEFAULTCAPACITY_EMPTY_ELEMENTDATA" "[Ljava/lang/Object;" (.ref zd) A s s.heap := by rw [← hzd]; exact hZ.1
  have hin_X5 : ∀ w ∈ wsX50, w ∈ wsX5_build := by decide +kernel
  have hin_X7 : ∀ w ∈ wsX70, w ∈ wsX5_build := by decide +kernel
  have hbc : 0 + mc ≤ mc := by omega
  have hbs : 0 + ms ≤ ms := by omega
  have L84 : ∀  (j9 : Nat) (y3 : Int32) (f : FT) (bc : Nat) (bs : Nat) (H : Heap) (locs : List Loc) (ls : Array Slot) (cs sl : Nat), loopW (wp_X5_build_84 zd a0 a1 x2 K ) j9 (y3, f, bc, bs) → cs + bc ≤ mc → sl + bs ≤ ms → Fw G A f H → va_S A s.heap H locs → lv_has ls 4 [(0, .ref a0), (1, .ref a1), (2, .int x2), (3, .int y3)] → W p l e ({ frames := 9, cells := mc, slots := ms, locals := 220 } : Room) s m ([.ref a0, .ref a1, .int x2] : List Value).toArray below meth c H locs cs sl (MQ below (va_Qv (fun f9 => K f9 : FT → Prop) (FB G A) A) ([.ref a0, .ref a1, .int x2] : List Value).toArray s mc ms A) (F0 m 84 ls []) := by
    intro  j9
    induction j9 with
    | zero => intro y3 f bc bs H locs ls cs sl h; exact h.elim
    | succ j9 ih84 =>
      intro y3 f bc bs H locs ls cs sl h hbc hbs hF hS hl
      have h : wp_X5_build_84 zd a0 a1 x2 K  (loopW (wp_X5_build_84 zd a0 a1 x2 K ) j9) (y3, f, bc, bs) := h
      generalize loopW (wp_X5_build_84 zd a0 a1 x2 K ) j9 = C84 at ih84 h
      unfold wp_X5_build_84 at h
      refine lv_iload_n hx hb dX5_build_84 rfl (lv_at hl 3 rfl) ?_
      refine lv_sipush (v := (300 : Int32)) hx hb dX5_build_85 (by decide) ?_
      obtain ⟨h1, h2⟩ := h
      refine lv_icmp_ge (tgt := 122) hx hb dX5_build_88 (by decide) (fun c_1 => ?_) (fun c_1 => ?_)
      · have h := h1 c_1
        refine W.widen (k := mc) (n := ms) (by omega) (by omega) ?_
        exact W.vret hx hb hr (fun t ht hW => ⟨⟨f, rfl, h, by rw [ht]; exact hF, FK.moved hW.alike hK⟩, hS.F ht⟩) hS.2.2 dX5_build_122
      · have h := h2 c_1
        refine lv_aload_n hx hb dX5_build_91 rfl (lv_at hl 1 rfl) ?_
        refine lv_iload_n hx hb dX5_build_92 rfl (lv_at hl 3 rfl) ?_
        refine lv_iconst (v := (1 : Int32)) hx hb dX5_build_93 (by decide) ?_
        refine lv_isub hx hb dX5_build_94 ?_
        obtain ⟨⟨fs_r_2, hrc_r_2⟩, h⟩ := h
        refine fw_cV_i_p (As := [.int (y3 - (1 : Int32))]) (rest := []) ⟨hx, hb, hml, hown, hts⟩ (cc_X7_pageTotal l G h) (⟨callB_of 1 hts ggX5_build_X7_pageTotal rfl rfl rfl (hts (.initialized RX7) (by decide +kernel)) (hts (.methodLink RX5 72 yX7_pageTotal) (by decide +kernel)) (by decide +kernel) ⟨Nat.le_of_ble_eq_true rfl, Nat.le_of_ble_eq_true rfl⟩, hts (.instanceMethod yX7_pageTotal) (by decide +kernel), hts (.selects RX7 yX7_pageTotal yX7_pageTotal) (by decide +kernel)⟩) rfl hrc_r_2 hK hZ hF hS hA rfl hl.1 rfl (Nat.le_of_ble_eq_true rfl) dX5_build_95 ⟨by show _ ≤ mc; omega, by show _ ≤ ms; omega⟩ (fun r_2 H locs h hF hS => ?_)
        simp only [Nat.add_zero]
        refine lv_iconst (v := (1 : Int32)) hx hb dX5_build_98 (by decide) ?_
        obtain ⟨h1, h2⟩ := h
        refine lv_icmp_le (tgt := 122) hx hb dX5_build_99 (by decide) (fun c_3 => ?_) (fun c_3 => ?_)
        · have h := h1 c_3
          refine W.widen (k := mc) (n := ms) (by omega) (by omega) ?_
          exact W.vret hx hb hr (fun t ht hW => ⟨⟨f, rfl, h, by rw [ht]; exact hF, FK.moved hW.alike hK⟩, hS.F ht⟩) hS.2.2 dX5_build_122
        · have h := h2 c_3
          refine lv_aload_n hx hb dX5_build_102 rfl (lv_at hl 0 rfl) ?_
          refine lv_aload_n hx hb dX5_build_103 rfl (lv_at hl 1 rfl) ?_
          refine lv_aload_n hx hb dX5_build_104 rfl (lv_at hl 1 rfl) ?_
          refine lv_iload_n hx hb dX5_build_105 rfl (lv_at hl 3 rfl) ?_
          refine lv_iconst (v := (1 : Int32)) hx hb dX5_build_106 (by decide) ?_
          refine lv_isub hx hb dX5_build_107 ?_
          obtain ⟨⟨fs_r_4, hrc_r_4⟩, h⟩ := h
          refine fw_cV_i_p (As := [.int (y3 - (1 : Int32))]) (rest := [.ref a1, .ref a0]) ⟨hx, hb, hml, hown, hts⟩ (cc_X7_pageTotal l G h) (⟨callB_of 1 hts ggX5_build_X7_pageTotal rfl rfl rfl (hts (.initialized RX7) (by decide +kernel)) (hts (.methodLink RX5 72 yX7_pageTotal) (by decide +kernel)) (by decide +kernel) ⟨Nat.le_of_ble_eq_true rfl, Nat.le_of_ble_eq_true rfl⟩, hts (.instanceMethod yX7_pageTotal) (by decide +kernel), hts (.selects RX7 yX7_pageTotal yX7_pageTotal) (by decide +kernel)⟩) rfl hrc_r_4 hK hZ hF hS hA rfl hl.1 rfl (Nat.le_of_ble_eq_true rfl) dX5_build_108 ⟨by show _ ≤ mc; omega, by show _ ≤ ms; omega⟩ (fun r_4 H locs h hF hS => ?_)
          simp only [Nat.add_zero]
          refine lv_iconst (v := (2 : Int32)) hx hb dX5_build_111 (by decide) ?_
          refine lv_iload_n hx hb dX5_build_112 rfl (lv_at hl 2 rfl) ?_
          obtain ⟨ga_7, gb_8, hga_ga_7, hgb_ga_7, h⟩ := h
          obtain ⟨⟨fs_u_5, hrc_u_5⟩, h⟩ := h
          refine fw_cV_v (As := [.ref a1, .int r_4, .int (2 : Int32), .int x2]) (rest := []) ⟨hx, hb, hml, hown, hts⟩ (cc_X5_stackTier l G hzd h) (⟨callB_of 4 hts ggX5_build_X5_stackTier rfl rfl rfl (hts (.initialized RX5) (by decide +kernel)) (hts (.methodLink RX5 68 yX5_stackTier) (by decide +kernel)) (by decide +kernel) ⟨Nat.le_of_ble_eq_true rfl, Nat.le_of_ble_eq_true rfl⟩, hts (.instanceMethod yX5_stackTier) (by decide +kernel), hts (.selects RX5 yX5_stackTier yX5_stackTier) (by decide +kernel)⟩) rfl hrc_u_5 hK hZ hF hS hA rfl hl.1 rfl (Nat.le_of_ble_eq_true rfl) dX5_build_113 ⟨by show _ ≤ mc; omega, by show _ ≤ ms; omega⟩ (fun f_6 H locs h hF hS => ?_)
          obtain ⟨cs_9, hcs⟩ : ∃ z, z = (cs + ga_7) := ⟨_, rfl⟩; obtain ⟨sl_10, hsl⟩ : ∃ z, z = (sl + gb_8) := ⟨_, rfl⟩
          have hbc : cs_9 + (bc - ga_7) ≤ mc := by omega
          have hbs : sl_10 + (bs - gb_8) ≤ ms := by omega
          refine W.widen (k := cs_9) (n := sl_10) (by omega) (by omega) ?_
          clear hcs hsl
          obtain ⟨v_11, e_12⟩ : ∃ y : Int32, y = y3 + 1 := ⟨_, rfl⟩
          have h := h v_11 e_12
          refine lv_iinc (v := v_11) (lv' := [(3, .int v_11), (0, .ref a0), (1, .ref a1), (2, .int x2)]) hx hb dX5_build_116 hl (k := 3) rfl (by rw [e_12]; rfl) (by decide) rfl (fun ls hl => ?_)
          refine lv_goto (tgt := 84) hx hb dX5_build_119 (by decide) ?_
          exact ih84 v_11 f_6 (bc - ga_7) (bs - gb_8) _ _ _ _ _ h hbc hbs hF hS (lv_sub hl [1, 2, 3, 0] rfl)
  have L50 : ∀  (j9 : Nat) (y3 : Int32) (f : FT) (bc : Nat) (bs : Nat) (H : Heap) (locs : List Loc) (ls : Array Slot) (cs sl : Nat), loopW (wp_X5_build_50 zd a0 a1 x2 K ) j9 (y3, f, bc, bs) → cs + bc ≤ mc → sl + bs ≤ ms → Fw G A f H → va_S A s.heap H locs → lv_has ls 4 [(0, .ref a0), (1, .ref a1), (2, .int x2), (3, .int y3)] → W p l e ({ frames := 9, cells := mc, slots := ms, locals := 220 } : Room) s m ([.ref a0, .ref a1, .int x2] : List Value).toArray below meth c H locs cs sl (MQ below (va_Qv (fun f9 => K f9 : FT → Prop) (FB G A) A) ([.ref a0, .ref a1, .int x2] : List Value).toArray s mc ms A) (F0 m 50 ls []) := by
    intro  j9
    induction j9 with
    | zero => intro y3 f bc bs H locs ls cs sl h; exact h.elim
    | succ j9 ih50 =>
      intro y3 f bc bs H locs ls cs sl h hbc hbs hF hS hl
      have h : wp_X5_build_50 zd a0 a1 x2 K  (loopW (wp_X5_build_50 zd a0 a1 x2 K ) j9) (y3, f, bc, bs) := h
      generalize loopW (wp_X5_build_50 zd a0 a1 x2 K ) j9 = C50 at ih50 h
      unfold wp_X5_build_50 at h
      refine lv_iload_n hx hb dX5_build_50 rfl (lv_at hl 3 rfl) ?_
      refine lv_aload_n hx hb dX5_build_51 rfl (lv_at hl 1 rfl) ?_
      refine lv_iconst (v := (0 : Int32)) hx hb dX5_build_52 (by decide) ?_
      obtain ⟨⟨fs_r_13, hrc_r_13⟩, h⟩ := h
      refine fw_cV_i_p (As := [.int (0 : Int32)]) (rest := [.int y3]) ⟨hx, hb, hml, hown, hts⟩ (cc_X7_pageTotal l G h) (⟨callB_of 1 hts ggX5_build_X7_pageTotal rfl rfl rfl (hts (.initialized RX7) (by decide +kernel)) (hts (.methodLink RX5 72 yX7_pageTotal) (by decide +kernel)) (by decide +kernel) ⟨Nat.le_of_ble_eq_true rfl, Nat.le_of_ble_eq_true rfl⟩, hts (.instanceMethod yX7_pageTotal) (by decide +kernel), hts (.selects RX7 yX7_pageTotal yX7_pageTotal) (by decide +kernel)⟩) rfl hrc_r_13 hK hZ hF hS hA rfl hl.1 rfl (Nat.le_of_ble_eq_true rfl) dX5_build_53 ⟨by show _ ≤ mc; omega, by show _ ≤ ms; omega⟩ (fun r_13 H locs h hF hS => ?_)
      simp only [Nat.add_zero]
      obtain ⟨h1, h2⟩ := h
      refine lv_icmp_ge (tgt := 82) hx hb dX5_build_56 (by decide) (fun c_14 => ?_) (fun c_14 => ?_)
      · have h := h1 c_14
        refine lv_iconst (v := (1 : Int32)) hx hb dX5_build_82 (by decide) ?_
        refine lv_istore_n (lv' := [(3, .int (1 : Int32)), (0, .ref a0), (1, .ref a1), (2, .int x2)]) hx hb dX5_build_83 rfl hl (by decide) rfl (fun ls hl => ?_)
        obtain ⟨n_15, h⟩ := h
        exact L84 n_15 (1 : Int32) f bc bs _ _ _ _ _ h hbc hbs hF hS (lv_sub hl [1, 2, 3, 0] rfl)
      · have h := h2 c_14
        refine lv_aload_n hx hb dX5_build_59 rfl (lv_at hl 1 rfl) ?_
        obtain ⟨fs_17, a_16, he_fs_17, hv_fs_17, h⟩ := h
        refine fw_getN (C := RX7) (T := TX7) (N := 8) hx hb hts hin_X7 hown hK hF he_fs_17 rfl 2 (by decide) (va_Nw.use rfl (hZ.2.1 (.fieldLinkNest RX5 61 "FrontCodedIndex$Tree" "separators" "LFrontCodedIndex$KeyRow;" "FrontCodedIndex") (by decide +kernel))) (fun _ h9 => h9) hv_fs_17 dX5_build_60 ?_
        refine lv_aload_n hx hb dX5_build_63 rfl (lv_at hl 1 rfl) ?_
        refine lv_aload_n hx hb dX5_build_64 rfl (lv_at hl 1 rfl) ?_
        refine lv_iconst (v := (0 : Int32)) hx hb dX5_build_65 (by decide) ?_
        refine lv_iload_n hx hb dX5_build_66 rfl (lv_at hl 3 rfl) ?_
        obtain ⟨⟨fs_r_18, hrc_r_18⟩, h⟩ := h
        refine fw_cV_i_p (As := [.int (0 : Int32), .int y3]) (rest := [.ref a1, .ref a_16]) ⟨hx, hb, hml, hown, hts⟩ (cc_X7_startOf l G h) (⟨callB_of 2 hts ggX5_build_X7_startOf rfl rfl rfl (hts (.initialized RX7) (by decide +kernel)) (hts (.methodLink RX5 76 yX7_startOf) (by decide +kernel)) (by decide +kernel) ⟨Nat.le_of_ble_eq_true rfl, Nat.le_of_ble_eq_true rfl⟩, hts (.instanceMethod yX7_startOf) (by decide +kernel), hts (.selects RX7 yX7_startOf yX7_startOf) (by decide +kernel)⟩) rfl hrc_r_18 hK hZ hF hS hA rfl hl.1 rfl (Nat.le_of_ble_eq_true rfl) dX5_build_67 ⟨by show _ ≤ mc; omega, by show _ ≤ ms; omega⟩ (fun r_18 H locs h hF hS => ?_)
        simp only [Nat.add_zero]
        obtain ⟨ga_21, gb_22, hga_ga_21, hgb_ga_21, h⟩ := h
        obtain ⟨⟨fs_a_19, hrc_a_19⟩, h⟩ := h
        refine fw_cV_q_w (As := [.int r_18]) (rest := [.ref a_16]) ⟨hx, hb, hml, hown, hts⟩ (cc_X7_shortestBefore l G h) (⟨callB_of 1 hts ggX5_build_X7_shortestBefore rfl rfl rfl (hts (.initialized RX7) (by decide +kernel)) (hts (.methodLink RX5 80 yX7_shortestBefore) (by decide +kernel)) (by decide +kernel) ⟨Nat.le_of_ble_eq_true rfl, Nat.le_of_ble_eq_true rfl⟩, hts (.instanceMethod yX7_shortestBefore) (by decide +kernel), hts (.selects RX7 yX7_shortestBefore yX7_shortestBefore) (by decide +kernel)⟩) rfl hrc_a_19 hK hZ hF hS hA rfl hl.1 rfl (Nat.le_of_ble_eq_true rfl) dX5_build_70 ⟨by show _ ≤ mc; omega, by show _ ≤ ms; omega⟩ (fun a_19 f_20 H locs h hF hS => ?_)
        obtain ⟨cs_23, hcs⟩ : ∃ z, z = (cs + ga_21) := ⟨_, rfl⟩; obtain ⟨sl_24, hsl⟩ : ∃ z, z = (sl + gb_22) := ⟨_, rfl⟩
        have hbc : cs_23 + (bc - ga_21) ≤ mc := by omega
        have hbs : sl_24 + (bs - gb_22) ≤ ms := by omega
        refine W.widen (k := cs_23) (n := sl_24) (by omega) (by omega) ?_
        clear hcs hsl
        obtain ⟨ga_27, gb_28, hga_ga_27, hgb_ga_27, h⟩ := h
        obtain ⟨⟨fs_u_25, hrc_u_25⟩, h⟩ := h
        refine fw_cV_v (As := [.ref a_19]) (rest := []) ⟨hx, hb, hml, hown, hts⟩ (cc_X4_append l G hzd h) (⟨callB_of 1 hts ggX5_build_X4_append rfl rfl rfl (hts (.initialized RX4) (by decide +kernel)) (hts (.methodLink RX5 39 yX4_append) (by decide +kernel)) (by decide +kernel) ⟨Nat.le_of_ble_eq_true rfl, Nat.le_of_ble_eq_true rfl⟩, hts (.instanceMethod yX4_append) (by decide +kernel), hts (.selects RX4 yX4_append yX4_append) (by decide +kernel)⟩) rfl hrc_u_25 hK hZ hF hS hA rfl hl.1 rfl (Nat.le_of_ble_eq_true rfl) dX5_build_73 ⟨by show _ ≤ mc; omega, by show _ ≤ ms; omega⟩ (fun f_26 H locs h hF hS => ?_)
        obtain ⟨cs_29, hcs⟩ : ∃ z, z = (cs_23 + ga_27) := ⟨_, rfl⟩; obtain ⟨sl_30, hsl⟩ : ∃ z, z = (sl_24 + gb_28) := ⟨_, rfl⟩
        have hbc : cs_29 + ((bc - ga_21) - ga_27) ≤ mc := by omega
        have hbs : sl_30 + ((bs - gb_22) - gb_28) ≤ ms := by omega
        refine W.widen (k := cs_29) (n := sl_30) (by omega) (by omega) ?_
        clear hcs hsl
        obtain ⟨v_31, e_32⟩ : ∃ y : Int32, y = y3 + 1 := ⟨_, rfl⟩
        have h := h v_31 e_32
        refine lv_iinc (v := v_31) (lv' := [(3, .int v_31), (0, .ref a0), (1, .ref a1), (2, .int x2)]) hx hb dX5_build_76 hl (k := 3) rfl (by rw [e_32]; rfl) (by decide) rfl (fun ls hl => ?_)
        refine lv_goto (tgt := 50) hx hb dX5_build_79 (by decide) ?_
        exact ih50 v_31 f_26 ((bc - ga_21) - ga_27) ((bs - gb_22) - gb_28) _ _ _ _ _ h hbc hbs hF hS (lv_sub hl [1, 2, 3, 0] rfl)
  have hl := lv_entry ([.ref a0, .ref a1, .int x2]) (n := 4) (Nat.le_of_ble_eq_true rfl)
  rw [lg_entry_eq]
  generalize (lg_sl ([.ref a0, .ref a1, .int x2]) ++ List.replicate (4 - (lg_sl ([.ref a0, .ref a1, .int x2])).length) Slot.unset).toArray = ls at hl ⊢
  have hl : lv_has ls 4 [(0, .ref a0), (1, .ref a1), (2, .int x2)] := hl
  unfold wp_X5_build at h
  refine lv_aload_n hx hb dX5_build_0 rfl (lv_at hl 1 rfl) ?_
  obtain ⟨fs_34, a_33, he_fs_34, hv_fs_34, h⟩ := h
  refine fw_getN (C := RX7) (T := TX7) (N := 8) hx hb hts hin_X7 hown hK hF he_fs_34 rfl 0 (by decide) (va_Nw.use rfl (hZ.2.1 (.fieldLinkNest RX5 50 "FrontCodedIndex$Tree" "keys" "LFrontCodedIndex$KeyRow;" "FrontCodedIndex") (by decide +kernel))) (fun _ h9 => h9) hv_fs_34 dX5_build_1 ?_
  refine lv_aload_n hx hb dX5_build_4 rfl (lv_at hl 0 rfl) ?_
  obtain ⟨fs_36, a_35, he_fs_36, hv_fs_36, h⟩ := h
  refine fw_get (C := RX5) (T := TX5) (N := 2) hx hb hts hin_X5 hown hK hF he_fs_36 rfl 0 (by decide) (hts (.fieldLink RX5 12 "FrontCodedIndex$LoadList" "keys" "LFrontCodedIndex$KeyRow;") (by decide +kernel)) (fun _ h9 => h9) hv_fs_36 dX5_build_5 ?_
  obtain ⟨ga_39, gb_40, hga_ga_39, hgb_ga_39, h⟩ := h
  obtain ⟨⟨fs_u_37, hrc_u_37⟩, h⟩ := h
  refine fw_cV_v (As := [.ref a_35]) (rest := []) ⟨hx, hb, hml, hown, hts⟩ (cc_X4_copyFrom l G hzd h) (⟨callB_of 1 hts ggX5_build_X4_copyFrom rfl rfl rfl (hts (.initialized RX4) (by decide +kernel)) (hts (.methodLink RX5 53 yX4_copyFrom) (by decide +kernel)) (by decide +kernel) ⟨Nat.le_of_ble_eq_true rfl, Nat.le_of_ble_eq_true rfl⟩, hts (.instanceMethod yX4_copyFrom) (by decide +kernel), hts (.selects RX4 yX4_copyFrom yX4_copyFrom) (by decide +kernel)⟩) rfl hrc_u_37 hK hZ hF hS hA rfl hl.1 rfl (Nat.le_of_ble_eq_true rfl) dX5_build_8 ⟨by show _ ≤ mc; omega, by show _ ≤ ms; omega⟩ (fun f_38 H locs h hF hS => ?_)
  obtain ⟨cs_41, hcs⟩ : ∃ z, z = (0 + ga_39) := ⟨_, rfl⟩; obtain ⟨sl_42, hsl⟩ : ∃ z, z = (0 + gb_40) := ⟨_, rfl⟩
  have hbc : cs_41 + (mc - ga_39) ≤ mc := by omega
  have hbs : sl_42 + (ms - gb_40) ≤ ms := by omega
  refine W.widen (k := cs_41) (n := sl_42) (by omega) (by omega) ?_
  clear hcs hsl
  refine lv_aload_n hx hb dX5_build_11 rfl (lv_at hl 1 rfl) ?_
  obtain ⟨fs_44, a_43, he_fs_44, hv_fs_44, h⟩ := h
  refine fw_getN (C := RX7) (T := TX7) (N := 8) hx hb hts hin_X7 hown hK hF he_fs_44 rfl 1 (by decide) (va_Nw.use rfl (hZ.2.1 (.fieldLinkNest RX5 57 "FrontCodedIndex$Tree" "values" "LFrontCodedIndex$IntRow;" "FrontCodedIndex") (by decide +kernel))) (fun _ h9 => h9) hv_fs_44 dX5_build_12 ?_
  refine lv_aload_n hx hb dX5_build_15 rfl (lv_at hl 0 rfl) ?_
  obtain ⟨fs_46, a_45, he_fs_46, hv_fs_46, h⟩ := h
  refine fw_get (C := RX5) (T := TX5) (N := 2) hx hb hts hin_X5 hown hK hF he_fs_46 rfl 1 (by decide) (hts (.fieldLink RX5 21 "FrontCodedIndex$LoadList" "values" "LFrontCodedIndex$IntRow;") (by decide +kernel)) (fun _ h9 => h9) hv_fs_46 dX5_build_16 ?_
  obtain ⟨ga_49, gb_50, hga_ga_49, hgb_ga_49, h⟩ := h
  obtain ⟨⟨fs_u_47, hrc_u_47⟩, h⟩ := h
  refine fw_cV_v (As := [.ref a_45]) (rest := []) ⟨hx, hb, hml, hown, hts⟩ (cc_X2_copyFrom l G h) (⟨callB_of 1 hts ggX5_build_X2_copyFrom rfl rfl rfl (hts (.initialized RX2) (by decide +kernel)) (hts (.methodLink RX5 58 yX2_copyFrom) (by decide +kernel)) (by decide +kernel) ⟨Nat.le_of_ble_eq_true rfl, Nat.le_of_ble_eq_true rfl⟩, hts (.instanceMethod yX2_copyFrom) (by decide +kernel), hts (.selects RX2 yX2_copyFrom yX2_copyFrom) (by decide +kernel)⟩) rfl hrc_u_47 hK hZ hF hS hA rfl hl.1 rfl (Nat.le_of_ble_eq_true rfl) dX5_build_19 ⟨by show _ ≤ mc; omega, by show _ ≤ ms; omega⟩ (fun f_48 H locs h hF hS => ?_)
  obtain ⟨cs_51, hcs⟩ : ∃ z, z = (cs_41 + ga_49) := ⟨_, rfl⟩; obtain ⟨sl_52, hsl⟩ : ∃ z, z = (sl_42 + gb_50) := ⟨_, rfl⟩
  have hbc : cs_51 + ((mc - ga_39) - ga_49) ≤ mc := by omega
  have hbs : sl_52 + ((ms - gb_40) - gb_50) ≤ ms := by omega
  refine W.widen (k := cs_51) (n := sl_52) (by omega) (by omega) ?_
  clear hcs hsl
  refine lv_aload_n hx hb dX5_build_22 rfl (lv_at hl 1 rfl) ?_
  obtain ⟨fs_54, a_53, he_fs_54, hv_fs_54, h⟩ := h
  refine fw_getN (C := RX7) (T := TX7) (N := 8) hx hb hts hin_X7 hown hK hF he_fs_54 rfl 2 (by decide) (va_Nw.use rfl (hZ.2.1 (.fieldLinkNest RX5 61 "FrontCodedIndex$Tree" "separators" "LFrontCodedIndex$KeyRow;" "FrontCodedIndex") (by decide +kernel))) (fun _ h9 => h9) hv_fs_54 dX5_build_23 ?_
  obtain ⟨⟨fs_u_55, hrc_u_55⟩, h⟩ := h
  refine fw_cV_v (As := []) (rest := []) ⟨hx, hb, hml, hown, hts⟩ (cc_X4_empty l G h) (⟨callB_of 0 hts ggX5_build_X4_empty rfl rfl rfl (hts (.initialized RX4) (by decide +kernel)) (hts (.methodLink RX5 46 yX4_empty) (by decide +kernel)) (by decide +kernel) ⟨Nat.le_of_ble_eq_true rfl, Nat.le_of_ble_eq_true rfl⟩, hts (.instanceMethod yX4_empty) (by decide +kernel), hts (.selects RX4 yX4_empty yX4_empty) (by decide +kernel)⟩) rfl hrc_u_55 hK hZ hF hS hA rfl hl.1 rfl (Nat.le_of_ble_eq_true rfl) dX5_build_26 ⟨by show _ ≤ mc; omega, by show _ ≤ ms; omega⟩ (fun f_56 H locs h hF hS => ?_)
  simp only [Nat.add_zero]
  refine lv_aload_n hx hb dX5_build_29 rfl (lv_at hl 1 rfl) ?_
  refine lv_iconst (v := (0 : Int32)) hx hb dX5_build_30 (by decide) ?_
  obtain ⟨fs_57, he_fs_57, hl_fs_57, h⟩ := h
  refine fw_putN (v := .int (0 : Int32)) (ty := .int) (C := RX7) (T := TX7) (N := 8) hx hb hts hin_X7 tyX7 (tyX7_ok) nmX7 hown hK hF hS he_fs_57 rfl 6 (by decide) (va_Nw.use rfl (hZ.2.1 (.fieldLinkNest RX5 64 "FrontCodedIndex$Tree" "tierTotal" "I" "FrontCodedIndex") (by decide +kernel))) (fun _ h9 => h9) rfl (by decide +kernel) rfl rfl hl_fs_57 dX5_build_31 (fun H locs hF hS => ?_)
  obtain ⟨f_58, hf_f_58⟩ : ∃ z, z = fup f_56 a1 (.inr (10, fs_57.set 6 (.int (0 : Int32)))) := ⟨_, rfl⟩
  rw [← hf_f_58] at hF; have h := h f_58 hf_f_58
  refine lv_aload_n hx hb dX5_build_34 rfl (lv_at hl 0 rfl) ?_
  refine lv_aload_n hx hb dX5_build_35 rfl (lv_at hl 1 rfl) ?_
  refine lv_aload_n hx hb dX5_build_36 rfl (lv_at hl 0 rfl) ?_
  obtain ⟨fs_60, a_59, he_fs_60, hv_fs_60, h⟩ := h
  refine fw_get (C := RX5) (T := TX5) (N := 2) hx hb hts hin_X5 hown hK hF he_fs_60 rfl 0 (by decide) (hts (.fieldLink RX5 12 "FrontCodedIndex$LoadList" "keys" "LFrontCodedIndex$KeyRow;") (by decide +kernel)) (fun _ h9 => h9) hv_fs_60 dX5_build_37 ?_
  obtain ⟨⟨fs_r_61, hrc_r_61⟩, h⟩ := h
  refine fw_cV_i_p (As := []) (rest := [.ref a1, .ref a0]) ⟨hx, hb, hml, hown, hts⟩ (cc_X4_count l G h) (⟨callB_of 0 hts ggX5_build_X4_count rfl rfl rfl (hts (.initialized RX4) (by decide +kernel)) (hts (.methodLink RX5 25 yX4_count) (by decide +kernel)) (by decide +kernel) ⟨Nat.le_of_ble_eq_true rfl, Nat.le_of_ble_eq_true rfl⟩, hts (.instanceMethod yX4_count) (by decide +kernel), hts (.selects RX4 yX4_count yX4_count) (by decide +kernel)⟩) rfl hrc_r_61 hK hZ hF hS hA rfl hl.1 rfl (Nat.le_of_ble_eq_true rfl) dX5_build_40 ⟨by show _ ≤ mc; omega, by show _ ≤ ms; omega⟩ (fun r_61 H locs h hF hS => ?_)
  simp only [Nat.add_zero]
  refine lv_iconst (v := (1 : Int32)) hx hb dX5_build_43 (by decide) ?_
  refine lv_iload_n hx hb dX5_build_44 rfl (lv_at hl 2 rfl) ?_
  obtain ⟨ga_64, gb_65, hga_ga_64, hgb_ga_64, h⟩ := h
  obtain ⟨⟨fs_u_62, hrc_u_62⟩, h⟩ := h
  refine fw_cV_v (As := [.ref a1, .int r_61, .int (1 : Int32), .int x2]) (rest := []) ⟨hx, hb, hml, hown, hts⟩ (cc_X5_stackTier l G hzd h) (⟨callB_of 4 hts ggX5_build_X5_stackTier rfl rfl rfl (hts (.initialized RX5) (by decide +kernel)) (hts (.methodLink RX5 68 yX5_stackTier) (by decide +kernel)) (by decide +kernel) ⟨Nat.le_of_ble_eq_true rfl, Nat.le_of_ble_eq_true rfl⟩, hts (.instanceMethod yX5_stackTier) (by decide +kernel), hts (.selects RX5 yX5_stackTier yX5_stackTier) (by decide +kernel)⟩) rfl hrc_u_62 hK hZ hF hS hA rfl hl.1 rfl (Nat.le_of_ble_eq_true rfl) dX5_build_45 ⟨by show _ ≤ mc; omega, by show _ ≤ ms; omega⟩ (fun f_63 H locs h hF hS => ?_)
  obtain ⟨cs_66, hcs⟩ : ∃ z, z = (cs_51 + ga_64) := ⟨_, rfl⟩; obtain ⟨sl_67, hsl⟩ : ∃ z, z = (sl_52 + gb_65) := ⟨_, rfl⟩
  have hbc : cs_66 + (((mc - ga_39) - ga_49) - ga_64) ≤ mc := by omega
  have hbs : sl_67 + (((ms - gb_40) - gb_50) - gb_65) ≤ ms := by omega
  refine W.widen (k := cs_66) (n := sl_67) (by omega) (by omega) ?_
  clear hcs hsl
  refine lv_iconst (v := (1 : Int32)) hx hb dX5_build_48 (by decide) ?_
  refine lv_istore_n (lv' := [(3, .int (1 : Int32)), (0, .ref a0), (1, .ref a1), (2, .int x2)]) hx hb dX5_build_49 rfl hl (by decide) rfl (fun ls hl => ?_)
  obtain ⟨n_68, h⟩ := h
  exact L50 n_68 (1 : Int32) f_63 (((mc - ga_39) - ga_49) - ga_64) (((ms - gb_40) - gb_50) - gb_65) _ _ _ _ _ h hbc hbs hF hS (lv_sub hl [1, 2, 3, 0] rfl)
theorem dX5_empty_0 : decode cX5_empty 0 = .ok (.aload_n 0, 1) := by decide +kernel
theorem dX5_empty_1 : decode cX5_empty 1 = .ok (.getfield 12, 3) := by decide +kernel
theorem dX5_empty_4 : decode cX5_empty 4 = .ok (.invokevirtual 46, 3) := by decide +kernel
theorem dX5_empty_7 : decode cX5_empty 7 = .ok (.aload_n 0, 1) := by decide +kernel
theorem dX5_empty_8 : decode cX5_empty 8 = .ok (.getfield 21, 3) := by decide +kernel
theorem dX5_empty_11 : decode cX5_empty 11 = .ok (.invokevirtual 49, 3) := by decide +kernel
theorem dX5_empty_14 : decode cX5_empty 14 = .ok (.return_, 1) := by decide +kernel
set_option maxRecDepth 20000 in
theorem ggX5_empty_X2_empty : GoodIn wsX5_empty wsX2_empty := goodIn_r _ [22, 23, 31, 32] (by decide +kernel) (by decide +kernel)
set_option maxRecDepth 20000 in
theorem ggX5_empty_X4_empty : GoodIn wsX5_empty wsX4_empty := goodIn_r _ [7, 8, 9, 10, 11, 12, 13, 14, 15, 16, 17, 26, 27, 28, 29, 30] (by decide +kernel) (by decide +kernel)
def wp_X5_empty (a0 : Nat) (f : FT) (K : FT → Prop) : Prop :=
  gA f a0 8 0 fun a_1 => isO f a_1 7 ∧ wp_X4_empty a_1 f (fun f_4 => gA f_4 a0 8 1 fun a_5 => isO f_4 a_5 5 ∧ wp_X2_empty a_5 f_4 (fun f_8 => K f_8))
set_option maxHeartbeats 4000000 in
set_option maxRecDepth 100000 in
theorem cc_X5_empty (l : Launch) (G : GG) {f : FT} {sz : Nat} {a0 : Nat} {K : FT → Prop} (h : wp_X5_empty a0 f K) : Met l yX5_empty wsX5_empty ({ frames := 2, cells := 0, slots := 0, locals := 43 } : Room) (FP G [.ref a0] f sz) (va_Qv (fun f9 => K f9 : FT → Prop) (FB G (fA f sz)) (fA f sz)) 0 0 (fA f sz) := by
  refine Met.ofW (cc := cX5_empty) (maxL := 1) (ret := none) (by decide) rfl ?_
  intro p e s m args below meth c s₁ B hml hv
  obtain ⟨rfl, hsz, hF, hK, hZ⟩ := hv
  have hx := B.exec
  have hb := B.bytes
  have hr := B.returns
  have hts := atoms_spec (ws := wsX5_empty) B.pre
  have hown : s.vm.findClass RX5 = some m.cls := findClass_of_methodNamed B.named
  have hlocks := B.notSynchronized
  subst hsz
  have hF := hF.self (sz := s.heap.size)
  generalize hAe : fA f s.heap.size = A at hF hZ ⊢
  have hA : ∀ q : Nat, s.heap.size ≤ q → A q := fun q h => by rw [← hAe]; exact Or.inr h
  have hS : va_S A s.heap s.heap [] := va_S.rf
  have hin_X5 : ∀ w ∈ wsX50, w ∈ wsX5_empty := by decide +kernel
  have hl := lv_entry ([.ref a0]) (n := 1) (Nat.le_of_ble_eq_true rfl)
  rw [lg_entry_eq]
  generalize (lg_sl ([.ref a0]) ++ List.replicate (1 - (lg_sl ([.ref a0])).length) Slot.unset).toArray = ls at hl ⊢
  have hl : lv_has ls 1 [(0, .ref a0)] := hl
  unfold wp_X5_empty at h
  refine lv_aload_n hx hb dX5_empty_0 rfl (lv_at hl 0 rfl) ?_
  obtain ⟨fs_2, a_1, he_fs_2, hv_fs_2, h⟩ := h
  refine fw_get (C := RX5) (T := TX5) (N := 2) hx hb hts hin_X5 hown hK hF he_fs_2 rfl 0 (by decide) (hts (.fieldLink RX5 12 "FrontCodedIndex$LoadList" "keys" "LFrontCodedIndex$KeyRow;") (by decide +kernel)) (fun _ h9 => h9) hv_fs_2 dX5_empty_1 ?_
  obtain ⟨⟨fs_u_3, hrc_u_3⟩, h⟩ := h
  refine fw_cV_v (As := []) (rest := []) ⟨hx, hb, hml, hown, hts⟩ (cc_X4_empty l G h) (⟨callB_of 0 hts ggX5_empty_X4_empty rfl rfl rfl (hts (.initialized RX4) (by decide +kernel)) (hts (.methodLink RX5 46 yX4_empty) (by decide +kernel)) (by decide +kernel) ⟨Nat.le_of_ble_eq_true rfl, Nat.le_of_ble_eq_true rfl⟩, hts (.instanceMethod yX4_empty) (by decide +kernel), hts (.selects RX4 yX4_empty yX4_empty) (by decide +kernel)⟩) rfl hrc_u_3 hK hZ hF hS hA rfl hl.1 rfl (Nat.le_of_ble_eq_true rfl) dX5_empty_4 ⟨Nat.zero_le _, Nat.zero_le _⟩ (fun f_4 H locs h hF hS => ?_)
  refine lv_aload_n hx hb dX5_empty_7 rfl (lv_at hl 0 rfl) ?_
  obtain ⟨fs_6, a_5, he_fs_6, hv_fs_6, h⟩ := h
  refine fw_get (C := RX5) (T := TX5) (N := 2) hx hb hts hin_X5 hown hK hF he_fs_6 rfl 1 (by decide) (hts (.fieldLink RX5 21 "FrontCodedIndex$LoadList" "values" "LFrontCodedIndex$IntRow;") (by decide +kernel)) (fun _ h9 => h9) hv_fs_6 dX5_empty_8 ?_
  obtain ⟨⟨fs_u_7, hrc_u_7⟩, h⟩ := h
  refine fw_cV_v (As := []) (rest := []) ⟨hx, hb, hml, hown, hts⟩ (cc_X2_empty l G h) (⟨callB_of 0 hts ggX5_empty_X2_empty rfl rfl rfl (hts (.initialized RX2) (by decide +kernel)) (hts (.methodLink RX5 49 yX2_empty) (by decide +kernel)) (by decide +kernel) ⟨Nat.le_of_ble_eq_true rfl, Nat.le_of_ble_eq_true rfl⟩, hts (.instanceMethod yX2_empty) (by decide +kernel), hts (.selects RX2 yX2_empty yX2_empty) (by decide +kernel)⟩) rfl hrc_u_7 hK hZ hF hS hA rfl hl.1 rfl (Nat.le_of_ble_eq_true rfl) dX5_empty_11 ⟨Nat.zero_le _, Nat.zero_le _⟩ (fun f_8 H locs h hF hS => ?_)
  exact W.vret hx hb hr (fun t ht hW => ⟨⟨f_8, rfl, h, by rw [ht]; exact hF, FK.moved hW.alike hK⟩, hS.F ht⟩) hS.2.2 dX5_empty_14
theorem dX5_init_0 : decode cX5_init 0 = .ok (.aload_n 0, 1) := by decide +kernel
theorem dX5_init_1 : decode cX5_init 1 = .ok (.invokespecial 3, 3) := by decide +kernel
theorem dX5_init_4 : decode cX5_init 4 = .ok (.aload_n 0, 1) := by decide +kernel
theorem dX5_init_5 : decode cX5_init 5 = .ok (.new 9, 3) := by decide +kernel
theorem dX5_init_8 : decode cX5_init 8 = .ok (.dup, 1) := by decide +kernel
theorem dX5_init_9 : decode cX5_init 9 = .ok (.invokespecial 11, 3) := by decide +kernel
theorem dX5_init_12 : decode cX5_init 12 = .ok (.putfield 12, 3) := by decide +kernel
theorem dX5_init_15 : decode cX5_init 15 = .ok (.aload_n 0, 1) := by decide +kernel
theorem dX5_init_16 : decode cX5_init 16 = .ok (.new 18, 3) := by decide +kernel
theorem dX5_init_19 : decode cX5_init 19 = .ok (.dup, 1) := by decide +kernel
theorem dX5_init_20 : decode cX5_init 20 = .ok (.invokespecial 20, 3) := by decide +kernel
theorem dX5_init_23 : decode cX5_init 23 = .ok (.putfield 21, 3) := by decide +kernel
theorem dX5_init_26 : decode cX5_init 26 = .ok (.return_, 1) := by decide +kernel
set_option maxRecDepth 20000 in
theorem ggX5_init_X2_init : GoodIn wsX5_init wsX2_init := goodIn_r _ [45, 46, 2, 3, 47, 48, 49, 54, 55] (by decide +kernel) (by decide +kernel)
set_option maxRecDepth 20000 in
theorem ggX5_init_X4_init : GoodIn wsX5_init wsX4_init := goodIn_r _ [13, 14, 2, 3, 15, 16, 17, 18, 19, 20, 21, 22, 23, 24, 25, 26, 27, 28, 29, 30, 31, 32, 33, 34, 35, 36, 37, 38, 39, 40, 41, 42, 43, 56, 57, 58, 50, 51, 59] (by decide +kernel) (by decide +kernel)
def wp_X5_init (zd : Nat) (a0 : Nat) (f : FT) (mc ms : Nat) (K : FT → Prop) : Prop :=
  nO f 7 [.null, .null] 2 mc ms fun q_1 f_2 => ∃ ga_7 gb_8 : Nat, ga_7 ≤ (mc - 1) ∧ gb_8 ≤ (ms - 2) ∧ wp_X4_init zd q_1 f_2 ga_7 gb_8 (fun f_6 => pV f_6 a0 8 0 (.ref q_1) fun f_12 => nO f_12 5 [.null, .int 0] 2 ((mc - 1) - ga_7) ((ms - 2) - gb_8) fun q_13 f_14 => ∃ ga_19 gb_20 : Nat, ga_19 ≤ (((mc - 1) - ga_7) - 1) ∧ gb_20 ≤ (((ms - 2) - gb_8) - 2) ∧ wp_X2_init q_13 f_14 ga_19 gb_20 (fun f_18 => pV f_18 a0 8 1 (.ref q_13) fun f_24 => K f_24))
set_option maxHeartbeats 4000000 in
set_option maxRecDepth 100000 in
theorem cc_X5_init (l : Launch) (G : GG) {zd : Nat} (hzd : G.2.2 0 = zd) {f : FT} {sz : Nat} {a0 : Nat} {mc ms : Nat} {K : FT → Prop} (h : wp_X5_init zd a0 f mc ms K) : Met l yX5_init wsX5_init ({ frames := 5, cells := mc, slots := ms, locals := 100 } : Room) (FP G [.ref a0] f sz) (va_Qv (fun f9 => K f9 : FT → Prop) (FB G (fA f sz)) (fA f sz)) mc ms (fA f sz) := by
  refine Met.ofW (cc := cX5_init) (maxL := 1) (ret := none) (by decide) rfl ?_
  intro p e s m args below meth c s₁ B hml hv
  obtain ⟨rfl, hsz, hF, hK, hZ⟩ := hv
  have hx := B.exec
  have hb := B.bytes
  have hr := B.returns
  have hts := atoms_spec (ws := wsX5_init) B.pre
  have hown : s.vm.findClass RX5 = some m.cls := findClass_of_methodNamed B.named
  have hlocks := B.notSynchronized
  have hin : meth.name = "<init>" := (name_of_methodNamed B.named B.method).1
  subst hsz
  have hF := hF.self (sz := s.heap.size)
  generalize hAe : fA f s.heap.size = A at hF hZ ⊢
  have hA : ∀ q : Nat, s.heap.size ≤ q → A q := fun q h => by rw [← hAe]; exact Or.inr h
  have hS : va_S A s.heap s.heap [] := va_S.rf
  have hZ9 : va_Z "java/util/ArrayList" "DEFAULTCAPACITY_EMPTY_ELEMENTDATA" "[Ljava/lang/Object;" (.ref zd) A s s.heap := by rw [← hzd]; exact hZ.1
  have hin_X2 : ∀ w ∈ wsX20, w ∈ wsX5_init := by decide +kernel
  have hin_X4 : ∀ w ∈ wsX40, w ∈ wsX5_init := by decide +kernel
  have hin_X5 : ∀ w ∈ wsX50, w ∈ wsX5_init := by decide +kernel
  have hbc : 0 + mc ≤ mc := by omega
  have hbs : 0 + ms ≤ ms := by omega
  have hl := lv_entry ([.ref a0]) (n := 1) (Nat.le_of_ble_eq_true rfl)
  rw [lg_entry_eq]
  generalize (lg_sl ([.ref a0]) ++ List.replicate (1 - (lg_sl ([.ref a0])).length) Slot.unset).toArray = ls at hl ⊢
  have hl : lv_has ls 1 [(0, .ref a0)] := hl
  unfold wp_X5_init at h
  refine lv_aload_n hx hb dX5_init_0 rfl (lv_at hl 0 rfl) ?_
  refine W.objInit hx hb hown (hts (.methodLink RX5 3 objectInit) (by decide +kernel)) (hts (.instanceMethod objectInit) (by decide +kernel)) (hts (.code objectInit ⟨#[0xb1]⟩ 1 none) (by decide +kernel)) rfl (by rw [hml]; exact hl.1) rfl dX5_init_1 (Nat.le_of_ble_eq_true rfl) (Nat.le_of_ble_eq_true rfl) ?_
  refine W.eq (g2 := F0 m 4 ls []) rfl ?_
  refine lv_aload_n hx hb dX5_init_4 rfl (lv_at hl 0 rfl) ?_
  obtain ⟨hb1, hb2, h⟩ := h
  refine fw_new (ci := 7) (fs := [.null, .null]) (C := RX4) (T := TX4) (N := 2) hx hb hts hin_X4 tyX4 tyX4_ok hown (hts (.classLink RX5 9 RX4) (by decide +kernel)) (hts (.instantiable RX4 2) (by decide +kernel)) (hts (.initialized RX4) (by decide +kernel)) hK hF hS hA rfl (fun j hj => by rcases (show j = 0 ∨ j = 1 by omega) with rfl | rfl <;> rfl) (by show _ ≤ mc; omega) (by show _ ≤ ms; omega) dX5_init_5 (fun q_1 H hn_q_1 hF hS => ?_)
  obtain ⟨f_2, hf_f_2⟩ : ∃ z, z = fup f q_1 (.inr (7, [.null, .null])) := ⟨_, rfl⟩
  rw [← hf_f_2] at hF; have h := h q_1 hn_q_1 f_2 hf_f_2
  obtain ⟨cs_3, hcs⟩ : ∃ z, z = (0 + 1) := ⟨_, rfl⟩; obtain ⟨sl_4, hsl⟩ : ∃ z, z = (0 + 2) := ⟨_, rfl⟩
  have hbc : cs_3 + (mc - 1) ≤ mc := by omega
  have hbs : sl_4 + (ms - 2) ≤ ms := by omega
  refine W.widen (k := cs_3) (n := sl_4) (by omega) (by omega) ?_
  clear hcs hsl
  refine lv_dup hx hb dX5_init_8 rfl ?_
  obtain ⟨ga_7, gb_8, hga_ga_7, hgb_ga_7, h⟩ := h
  refine fw_cIN_v (As := []) (rest := [.ref q_1, .ref a0]) ⟨hx, hb, hml, hown, hts⟩ (cc_X4_init l G hzd h) (⟨va_cnB 0 hts ggX5_init_X4_init rfl rfl rfl (hZ.2.1 (.methodLinkNest RX5 11 yX4_init "FrontCodedIndex") (by decide +kernel)) (hts (.initialized RX4) (by decide +kernel)) (by decide +kernel) ⟨Nat.le_of_ble_eq_true rfl, Nat.le_of_ble_eq_true rfl⟩, rfl, hts (.instanceMethod yX4_init) (by decide +kernel)⟩) hK hZ hF hS hA rfl hl.1 rfl (Nat.le_of_ble_eq_true rfl) dX5_init_9 ⟨by show _ ≤ mc; omega, by show _ ≤ ms; omega⟩ (fun f_6 H locs h hF hS => ?_)
  obtain ⟨cs_9, hcs⟩ : ∃ z, z = (cs_3 + ga_7) := ⟨_, rfl⟩; obtain ⟨sl_10, hsl⟩ : ∃ z, z = (sl_4 + gb_8) := ⟨_, rfl⟩
  have hbc : cs_9 + ((mc - 1) - ga_7) ≤ mc := by omega
  have hbs : sl_10 + ((ms - 2) - gb_8) ≤ ms := by omega
  refine W.widen (k := cs_9) (n := sl_10) (by omega) (by omega) ?_
  clear hcs hsl
  obtain ⟨fs_11, he_fs_11, hl_fs_11, h⟩ := h
  refine fw_putF (v := .ref q_1) (ty := (.object "FrontCodedIndex$KeyRow")) (C := RX5) (T := TX5) (N := 2) hx hb hts hin_X5 tyX5 (tyX5_ok) nmX5 hown hK hF hS he_fs_11 rfl 0 (by decide) (hts (.fieldLink RX5 12 "FrontCodedIndex$LoadList" "keys" "LFrontCodedIndex$KeyRow;") (by decide +kernel)) (fun _ h9 => h9) rfl hin rfl (by decide +kernel) rfl rfl hl_fs_11 dX5_init_12 (fun H locs hF hS => ?_)
  obtain ⟨f_12, hf_f_12⟩ : ∃ z, z = fup f_6 a0 (.inr (8, fs_11.set 0 (.ref q_1))) := ⟨_, rfl⟩
  rw [← hf_f_12] at hF; have h := h f_12 hf_f_12
  refine lv_aload_n hx hb dX5_init_15 rfl (lv_at hl 0 rfl) ?_
  obtain ⟨hb1, hb2, h⟩ := h
  refine fw_new (ci := 5) (fs := [.null, .int 0]) (C := RX2) (T := TX2) (N := 2) hx hb hts hin_X2 tyX2 tyX2_ok hown (hts (.classLink RX5 18 RX2) (by decide +kernel)) (hts (.instantiable RX2 2) (by decide +kernel)) (hts (.initialized RX2) (by decide +kernel)) hK hF hS hA rfl (fun j hj => by rcases (show j = 0 ∨ j = 1 by omega) with rfl | rfl <;> rfl) (by show _ ≤ mc; omega) (by show _ ≤ ms; omega) dX5_init_16 (fun q_13 H hn_q_13 hF hS => ?_)
  obtain ⟨f_14, hf_f_14⟩ : ∃ z, z = fup f_12 q_13 (.inr (5, [.null, .int 0])) := ⟨_, rfl⟩
  rw [← hf_f_14] at hF; have h := h q_13 hn_q_13 f_14 hf_f_14
  obtain ⟨cs_15, hcs⟩ : ∃ z, z = (cs_9 + 1) := ⟨_, rfl⟩; obtain ⟨sl_16, hsl⟩ : ∃ z, z = (sl_10 + 2) := ⟨_, rfl⟩
  have hbc : cs_15 + (((mc - 1) - ga_7) - 1) ≤ mc := by omega
  have hbs : sl_16 + (((ms - 2) - gb_8) - 2) ≤ ms := by omega
  refine W.widen (k := cs_15) (n := sl_16) (by omega) (by omega) ?_
  clear hcs hsl
  refine lv_dup hx hb dX5_init_19 rfl ?_
  obtain ⟨ga_19, gb_20, hga_ga_19, hgb_ga_19, h⟩ := h
  refine fw_cIN_v (As := []) (rest := [.ref q_13, .ref a0]) ⟨hx, hb, hml, hown, hts⟩ (cc_X2_init l G h) (⟨va_cnB 0 hts ggX5_init_X2_init rfl rfl rfl (hZ.2.1 (.methodLinkNest RX5 20 yX2_init "FrontCodedIndex") (by decide +kernel)) (hts (.initialized RX2) (by decide +kernel)) (by decide +kernel) ⟨Nat.le_of_ble_eq_true rfl, Nat.le_of_ble_eq_true rfl⟩, rfl, hts (.instanceMethod yX2_init) (by decide +kernel)⟩) hK hZ hF hS hA rfl hl.1 rfl (Nat.le_of_ble_eq_true rfl) dX5_init_20 ⟨by show _ ≤ mc; omega, by show _ ≤ ms; omega⟩ (fun f_18 H locs h hF hS => ?_)
  obtain ⟨cs_21, hcs⟩ : ∃ z, z = (cs_15 + ga_19) := ⟨_, rfl⟩; obtain ⟨sl_22, hsl⟩ : ∃ z, z = (sl_16 + gb_20) := ⟨_, rfl⟩
  have hbc : cs_21 + ((((mc - 1) - ga_7) - 1) - ga_19) ≤ mc := by omega
  have hbs : sl_22 + ((((ms - 2) - gb_8) - 2) - gb_20) ≤ ms := by omega
  refine W.widen (k := cs_21) (n := sl_22) (by omega) (by omega) ?_
  clear hcs hsl
  obtain ⟨fs_23, he_fs_23, hl_fs_23, h⟩ := h
  refine fw_putF (v := .ref q_13) (ty := (.object "FrontCodedIndex$IntRow")) (C := RX5) (T := TX5) (N := 2) hx hb hts hin_X5 tyX5 (tyX5_ok) nmX5 hown hK hF hS he_fs_23 rfl 1 (by decide) (hts (.fieldLink RX5 21 "FrontCodedIndex$LoadList" "values" "LFrontCodedIndex$IntRow;") (by decide +kernel)) (fun _ h9 => h9) rfl hin rfl (by decide +kernel) rfl rfl hl_fs_23 dX5_init_23 (fun H locs hF hS => ?_)
  obtain ⟨f_24, hf_f_24⟩ : ∃ z, z = fup f_18 a0 (.inr (8, fs_23.set 1 (.ref q_13))) := ⟨_, rfl⟩
  rw [← hf_f_24] at hF; have h := h f_24 hf_f_24
  refine W.widen (k := mc) (n := ms) (by omega) (by omega) ?_
  exact W.vret hx hb hr (fun t ht hW => ⟨⟨f_24, rfl, h, by rw [ht]; exact hF, FK.moved hW.alike hK⟩, hS.F ht⟩) hS.2.2 dX5_init_26
theorem dX6_init_0 : decode cX6_init 0 = .ok (.aload_n 0, 1) := by decide +kernel
theorem dX6_init_1 : decode cX6_init 1 = .ok (.invokespecial 1, 3) := by decide +kernel
theorem dX6_init_4 : decode cX6_init 4 = .ok (.aload_n 0, 1) := by decide +kernel
theorem dX6_init_5 : decode cX6_init 5 = .ok (.iconst 0, 1) := by decide +kernel
theorem dX6_init_6 : decode cX6_init 6 = .ok (.putfield 7, 3) := by decide +kernel
theorem dX6_init_9 : decode cX6_init 9 = .ok (.aload_n 0, 1) := by decide +kernel
theorem dX6_init_10 : decode cX6_init 10 = .ok (.aload_n 1, 1) := by decide +kernel
theorem dX6_init_11 : decode cX6_init 11 = .ok (.putfield 13, 3) := by decide +kernel
theorem dX6_init_14 : decode cX6_init 14 = .ok (.aload_n 0, 1) := by decide +kernel
theorem dX6_init_15 : decode cX6_init 15 = .ok (.aload_n 2, 1) := by decide +kernel
theorem dX6_init_16 : decode cX6_init 16 = .ok (.putfield 17, 3) := by decide +kernel
theorem dX6_init_19 : decode cX6_init 19 = .ok (.return_, 1) := by decide +kernel
def wp_X6_init (a0 : Nat) (a1 : Nat) (a2 : Nat) (f : FT) (K : FT → Prop) : Prop :=
  pV f a0 9 2 (.int (0 : Int32)) fun f_2 => pV f_2 a0 9 0 (.ref a1) fun f_4 => pV f_4 a0 9 1 (.ref a2) fun f_6 => K f_6
set_option maxHeartbeats 4000000 in
set_option maxRecDepth 100000 in
theorem cc_X6_init (l : Launch) (G : GG) {f : FT} {sz : Nat} {a0 : Nat} {a1 : Nat} {a2 : Nat} {K : FT → Prop} (h : wp_X6_init a0 a1 a2 f K) : Met l yX6_init wsX6_init ({ frames := 1, cells := 0, slots := 0, locals := 20 } : Room) (FP G [.ref a0, .ref a1, .ref a2] f sz) (va_Qv (fun f9 => K f9 : FT → Prop) (FB G (fA f sz)) (fA f sz)) 0 0 (fA f sz) := by
  refine Met.ofW (cc := cX6_init) (maxL := 3) (ret := none) (by decide) rfl ?_
  intro p e s m args below meth c s₁ B hml hv
  obtain ⟨rfl, hsz, hF, hK, hZ⟩ := hv
  have hx := B.exec
  have hb := B.bytes
  have hr := B.returns
  have hts := atoms_spec (ws := wsX6_init) B.pre
  have hown : s.vm.findClass RX6 = some m.cls := findClass_of_methodNamed B.named
  have hlocks := B.notSynchronized
  have hin : meth.name = "<init>" := (name_of_methodNamed B.named B.method).1
  subst hsz
  have hF := hF.self (sz := s.heap.size)
  generalize hAe : fA f s.heap.size = A at hF hZ ⊢
  have hA : ∀ q : Nat, s.heap.size ≤ q → A q := fun q h => by rw [← hAe]; exact Or.inr h
  have hS : va_S A s.heap s.heap [] := va_S.rf
  have hin_X6 : ∀ w ∈ wsX60, w ∈ wsX6_init := by decide +kernel
  have hl := lv_entry ([.ref a0, .ref a1, .ref a2]) (n := 3) (Nat.le_of_ble_eq_true rfl)
  rw [lg_entry_eq]
  generalize (lg_sl ([.ref a0, .ref a1, .ref a2]) ++ List.replicate (3 - (lg_sl ([.ref a0, .ref a1, .ref a2])).length) Slot.unset).toArray = ls at hl ⊢
  have hl : lv_has ls 3 [(0, .ref a0), (1, .ref a1), (2, .ref a2)] := hl
  unfold wp_X6_init at h
  refine lv_aload_n hx hb dX6_init_0 rfl (lv_at hl 0 rfl) ?_
  refine W.objInit hx hb hown (hts (.methodLink RX6 1 objectInit) (by decide +kernel)) (hts (.instanceMethod objectInit) (by decide +kernel)) (hts (.code objectInit ⟨#[0xb1]⟩ 1 none) (by decide +kernel)) rfl (by rw [hml]; exact hl.1) rfl dX6_init_1 (Nat.le_of_ble_eq_true rfl) (Nat.le_of_ble_eq_true rfl) ?_
  refine W.eq (g2 := F0 m 4 ls []) rfl ?_
  refine lv_aload_n hx hb dX6_init_4 rfl (lv_at hl 0 rfl) ?_
  refine lv_iconst (v := (0 : Int32)) hx hb dX6_init_5 (by decide) ?_
  obtain ⟨fs_1, he_fs_1, hl_fs_1, h⟩ := h
  refine fw_put (v := .int (0 : Int32)) (ty := .int) (C := RX6) (T := TX6) (N := 3) hx hb hts hin_X6 tyX6 (tyX6_ok) nmX6 hown hK hF hS he_fs_1 rfl 2 (by decide) (hts (.fieldLink RX6 7 "FrontCodedIndex$Remover" "merges" "I") (by decide +kernel)) (fun _ h9 => h9) rfl (by decide +kernel) rfl rfl hl_fs_1 dX6_init_6 (fun H locs hF hS => ?_)
  obtain ⟨f_2, hf_f_2⟩ : ∃ z, z = fup f a0 (.inr (9, fs_1.set 2 (.int (0 : Int32)))) := ⟨_, rfl⟩
  rw [← hf_f_2] at hF; have h := h f_2 hf_f_2
  refine lv_aload_n hx hb dX6_init_9 rfl (lv_at hl 0 rfl) ?_
  refine lv_aload_n hx hb dX6_init_10 rfl (lv_at hl 1 rfl) ?_
  obtain ⟨fs_3, he_fs_3, hl_fs_3, h⟩ := h
  refine fw_putF (v := .ref a1) (ty := (.object "FrontCodedIndex$Tree")) (C := RX6) (T := TX6) (N := 3) hx hb hts hin_X6 tyX6 (tyX6_ok) nmX6 hown hK hF hS he_fs_3 rfl 0 (by decide) (hts (.fieldLink RX6 13 "FrontCodedIndex$Remover" "tree" "LFrontCodedIndex$Tree;") (by decide +kernel)) (fun _ h9 => h9) rfl hin rfl (by decide +kernel) rfl rfl hl_fs_3 dX6_init_11 (fun H locs hF hS => ?_)
  obtain ⟨f_4, hf_f_4⟩ : ∃ z, z = fup f_2 a0 (.inr (9, fs_3.set 0 (.ref a1))) := ⟨_, rfl⟩
  rw [← hf_f_4] at hF; have h := h f_4 hf_f_4
  refine lv_aload_n hx hb dX6_init_14 rfl (lv_at hl 0 rfl) ?_
  refine lv_aload_n hx hb dX6_init_15 rfl (lv_at hl 2 rfl) ?_
  obtain ⟨fs_5, he_fs_5, hl_fs_5, h⟩ := h
  refine fw_putF (v := .ref a2) (ty := (.object "FrontCodedIndex$Cursors")) (C := RX6) (T := TX6) (N := 3) hx hb hts hin_X6 tyX6 (tyX6_ok) nmX6 hown hK hF hS he_fs_5 rfl 1 (by decide) (hts (.fieldLink RX6 17 "FrontCodedIndex$Remover" "cursors" "LFrontCodedIndex$Cursors;") (by decide +kernel)) (fun _ h9 => h9) rfl hin rfl (by decide +kernel) rfl rfl hl_fs_5 dX6_init_16 (fun H locs hF hS => ?_)
  obtain ⟨f_6, hf_f_6⟩ : ∃ z, z = fup f_4 a0 (.inr (9, fs_5.set 1 (.ref a2))) := ⟨_, rfl⟩
  rw [← hf_f_6] at hF; have h := h f_6 hf_f_6
  exact W.vret hx hb hr (fun t ht hW => ⟨⟨f_6, rfl, h, by rw [ht]; exact hF, FK.moved hW.alike hK⟩, hS.F ht⟩) hS.2.2 dX6_init_19
theorem dX6_mergeWithNext_0 : decode cX6_mergeWithNext 0 = .ok (.aload_n 0, 1) := by decide +kernel
theorem dX6_mergeWithNext_1 : decode cX6_mergeWithNext 1 = .ok (.getfield 13, 3) := by decide +kernel
theorem dX6_mergeWithNext_4 : decode cX6_mergeWithNext 4 = .ok (.iload_n 1, 1) := by decide +kernel
theorem dX6_mergeWithNext_5 : decode cX6_mergeWithNext 5 = .ok (.iload_n 2, 1) := by decide +kernel
theorem dX6_mergeWithNext_6 : decode cX6_mergeWithNext 6 = .ok (.invokevirtual 89, 3) := by decide +kernel
theorem dX6_mergeWithNext_9 : decode cX6_mergeWithNext 9 = .ok (.istore_n 3, 1) := by decide +kernel
theorem dX6_mergeWithNext_10 : decode cX6_mergeWithNext 10 = .ok (.aload_n 0, 1) := by decide +kernel
theorem dX6_mergeWithNext_11 : decode cX6_mergeWithNext 11 = .ok (.getfield 13, 3) := by decide +kernel
theorem dX6_mergeWithNext_14 : decode cX6_mergeWithNext 14 = .ok (.iload_n 1, 1) := by decide +kernel
theorem dX6_mergeWithNext_15 : decode cX6_mergeWithNext 15 = .ok (.iload_n 2, 1) := by decide +kernel
theorem dX6_mergeWithNext_16 : decode cX6_mergeWithNext 16 = .ok (.iconst 1, 1) := by decide +kernel
theorem dX6_mergeWithNext_17 : decode cX6_mergeWithNext 17 = .ok (.iadd, 1) := by decide +kernel
theorem dX6_mergeWithNext_18 : decode cX6_mergeWithNext 18 = .ok (.invokevirtual 71, 3) := by decide +kernel
theorem dX6_mergeWithNext_21 : decode cX6_mergeWithNext 21 = .ok (.istore 4, 2) := by decide +kernel
theorem dX6_mergeWithNext_23 : decode cX6_mergeWithNext 23 = .ok (.aload_n 0, 1) := by decide +kernel
theorem dX6_mergeWithNext_24 : decode cX6_mergeWithNext 24 = .ok (.getfield 13, 3) := by decide +kernel
theorem dX6_mergeWithNext_27 : decode cX6_mergeWithNext 27 = .ok (.iload_n 1, 1) := by decide +kernel
theorem dX6_mergeWithNext_28 : decode cX6_mergeWithNext 28 = .ok (.iload_n 3, 1) := by decide +kernel
theorem dX6_mergeWithNext_29 : decode cX6_mergeWithNext 29 = .ok (.iload 4, 2) := by decide +kernel
theorem dX6_mergeWithNext_31 : decode cX6_mergeWithNext 31 = .ok (.invokevirtual 92, 3) := by decide +kernel
theorem dX6_mergeWithNext_34 : decode cX6_mergeWithNext 34 = .ok (.aload_n 0, 1) := by decide +kernel
theorem dX6_mergeWithNext_35 : decode cX6_mergeWithNext 35 = .ok (.getfield 13, 3) := by decide +kernel
theorem dX6_mergeWithNext_38 : decode cX6_mergeWithNext 38 = .ok (.getfield 77, 3) := by decide +kernel
theorem dX6_mergeWithNext_41 : decode cX6_mergeWithNext 41 = .ok (.if_icmp .le 5, 3) := by decide +kernel
theorem dX6_mergeWithNext_44 : decode cX6_mergeWithNext 44 = .ok (.iconst 0, 1) := by decide +kernel
theorem dX6_mergeWithNext_45 : decode cX6_mergeWithNext 45 = .ok (.ireturn, 1) := by decide +kernel
theorem dX6_mergeWithNext_46 : decode cX6_mergeWithNext 46 = .ok (.aload_n 0, 1) := by decide +kernel
theorem dX6_mergeWithNext_47 : decode cX6_mergeWithNext 47 = .ok (.getfield 13, 3) := by decide +kernel
theorem dX6_mergeWithNext_50 : decode cX6_mergeWithNext 50 = .ok (.iload_n 1, 1) := by decide +kernel
theorem dX6_mergeWithNext_51 : decode cX6_mergeWithNext 51 = .ok (.iconst 1, 1) := by decide +kernel
theorem dX6_mergeWithNext_52 : decode cX6_mergeWithNext 52 = .ok (.iadd, 1) := by decide +kernel
theorem dX6_mergeWithNext_53 : decode cX6_mergeWithNext 53 = .ok (.invokevirtual 33, 3) := by decide +kernel
theorem dX6_mergeWithNext_56 : decode cX6_mergeWithNext 56 = .ok (.aload_n 0, 1) := by decide +kernel
theorem dX6_mergeWithNext_57 : decode cX6_mergeWithNext 57 = .ok (.getfield 13, 3) := by decide +kernel
theorem dX6_mergeWithNext_60 : decode cX6_mergeWithNext 60 = .ok (.iload_n 1, 1) := by decide +kernel
theorem dX6_mergeWithNext_61 : decode cX6_mergeWithNext 61 = .ok (.iload_n 2, 1) := by decide +kernel
theorem dX6_mergeWithNext_62 : decode cX6_mergeWithNext 62 = .ok (.invokevirtual 63, 3) := by decide +kernel
theorem dX6_mergeWithNext_65 : decode cX6_mergeWithNext 65 = .ok (.iconst (-1), 1) := by decide +kernel
theorem dX6_mergeWithNext_66 : decode cX6_mergeWithNext 66 = .ok (.invokevirtual 51, 3) := by decide +kernel
theorem dX6_mergeWithNext_69 : decode cX6_mergeWithNext 69 = .ok (.aload_n 0, 1) := by decide +kernel
theorem dX6_mergeWithNext_70 : decode cX6_mergeWithNext 70 = .ok (.getfield 13, 3) := by decide +kernel
theorem dX6_mergeWithNext_73 : decode cX6_mergeWithNext 73 = .ok (.iload_n 1, 1) := by decide +kernel
theorem dX6_mergeWithNext_74 : decode cX6_mergeWithNext 74 = .ok (.invokevirtual 33, 3) := by decide +kernel
theorem dX6_mergeWithNext_77 : decode cX6_mergeWithNext 77 = .ok (.iload_n 2, 1) := by decide +kernel
theorem dX6_mergeWithNext_78 : decode cX6_mergeWithNext 78 = .ok (.invokevirtual 50, 3) := by decide +kernel
theorem dX6_mergeWithNext_81 : decode cX6_mergeWithNext 81 = .ok (.iload_n 1, 1) := by decide +kernel
theorem dX6_mergeWithNext_82 : decode cX6_mergeWithNext 82 = .ok (.ifCond .ne 14, 3) := by decide +kernel
theorem dX6_mergeWithNext_85 : decode cX6_mergeWithNext 85 = .ok (.aload_n 0, 1) := by decide +kernel
theorem dX6_mergeWithNext_86 : decode cX6_mergeWithNext 86 = .ok (.getfield 13, 3) := by decide +kernel
theorem dX6_mergeWithNext_89 : decode cX6_mergeWithNext 89 = .ok (.getfield 96, 3) := by decide +kernel
theorem dX6_mergeWithNext_92 : decode cX6_mergeWithNext 92 = .ok (.iload_n 2, 1) := by decide +kernel
theorem dX6_mergeWithNext_93 : decode cX6_mergeWithNext 93 = .ok (.invokevirtual 44, 3) := by decide +kernel
theorem dX6_mergeWithNext_96 : decode cX6_mergeWithNext 96 = .ok (.aload_n 0, 1) := by decide +kernel
theorem dX6_mergeWithNext_97 : decode cX6_mergeWithNext 97 = .ok (.dup, 1) := by decide +kernel
theorem dX6_mergeWithNext_98 : decode cX6_mergeWithNext 98 = .ok (.getfield 7, 3) := by decide +kernel
theorem dX6_mergeWithNext_101 : decode cX6_mergeWithNext 101 = .ok (.iconst 1, 1) := by decide +kernel
theorem dX6_mergeWithNext_102 : decode cX6_mergeWithNext 102 = .ok (.iadd, 1) := by decide +kernel
theorem dX6_mergeWithNext_103 : decode cX6_mergeWithNext 103 = .ok (.putfield 7, 3) := by decide +kernel
theorem dX6_mergeWithNext_106 : decode cX6_mergeWithNext 106 = .ok (.iconst 1, 1) := by decide +kernel
theorem dX6_mergeWithNext_107 : decode cX6_mergeWithNext 107 = .ok (.ireturn, 1) := by decide +kernel
set_option maxRecDepth 20000 in
theorem ggX6_mergeWithNext_X2_addFrom : GoodIn wsX6_mergeWithNext wsX2_addFrom := goodIn_r _ [93, 94, 95, 96, 97, 43, 44, 134, 135] (by decide +kernel) (by decide +kernel)
set_option maxRecDepth 20000 in
theorem ggX6_mergeWithNext_X2_delete : GoodIn wsX6_mergeWithNext wsX2_delete := goodIn_r _ [101, 43, 44, 134, 135] (by decide +kernel) (by decide +kernel)
set_option maxRecDepth 20000 in
theorem ggX6_mergeWithNext_X4_delete : GoodIn wsX6_mergeWithNext wsX4_delete := goodIn_r _ [105, 60, 63, 16, 17, 18, 19, 20, 106, 107, 108, 109, 37, 25, 26, 27, 28, 29, 30, 31, 32, 110, 111, 112, 113, 114, 115, 116, 117, 118, 119, 136, 137, 131, 132, 133] (by decide +kernel) (by decide +kernel)
set_option maxRecDepth 20000 in
theorem ggX6_mergeWithNext_X7_endOf : GoodIn wsX6_mergeWithNext wsX7_endOf := goodIn_r _ [48, 8, 9, 10, 6, 11, 12, 13, 14, 15, 16, 17, 18, 19, 20, 21, 22, 23, 24, 25, 26, 27, 28, 29, 30, 31, 32, 33, 34, 35, 36, 37, 38, 39, 40, 41, 42, 43, 44, 123, 124, 125, 126, 127, 128, 129, 130, 131, 132, 133, 134, 135] (by decide +kernel) (by decide +kernel)
set_option maxRecDepth 20000 in
theorem ggX6_mergeWithNext_X7_parentOf : GoodIn wsX6_mergeWithNext wsX7_parentOf := goodIn_r _ [84, 8, 9, 10, 6, 11, 12, 13, 14, 15, 16, 17, 18, 19, 20, 21, 22, 23, 24, 25, 26, 27, 28, 29, 30, 31, 32, 33, 34, 35, 36, 37, 85, 86, 87, 41, 88, 43, 89, 39, 40, 42, 44, 123, 124, 125, 126, 127, 128, 129, 130, 131, 132, 133, 134, 135] (by decide +kernel) (by decide +kernel)
set_option maxRecDepth 20000 in
theorem ggX6_mergeWithNext_X7_spanBytes : GoodIn wsX6_mergeWithNext wsX7_spanBytes := goodIn_r _ [52, 53, 54, 55, 56, 57, 58, 59, 60, 61, 62, 63, 16, 17, 18, 19, 20, 64, 22, 23, 24, 25, 26, 27, 28, 29, 30, 31, 32, 33, 34, 35, 36, 37, 65, 66, 67, 6, 68, 69, 8, 9, 10, 11, 12, 13, 14, 15, 21, 38, 39, 40, 41, 42, 43, 44, 70, 71, 72, 73, 74, 75, 76, 77, 78, 79, 123, 124, 125, 126, 127, 128, 129, 130, 136, 137, 131, 132, 133, 134, 135, 138] (by decide +kernel) (by decide +kernel)
set_option maxRecDepth 20000 in
theorem ggX6_mergeWithNext_X7_startOf : GoodIn wsX6_mergeWithNext wsX7_startOf := goodIn_r _ [7, 8, 9, 10, 6, 11, 12, 13, 14, 15, 16, 17, 18, 19, 20, 21, 22, 23, 24, 25, 26, 27, 28, 29, 30, 31, 32, 33, 34, 35, 36, 37, 38, 39, 40, 41, 42, 43, 44, 123, 124, 125, 126, 127, 128, 129, 130, 131, 132, 133, 134, 135] (by decide +kernel) (by decide +kernel)
set_option maxRecDepth 20000 in
theorem ggX6_mergeWithNext_X7_tier : GoodIn wsX6_mergeWithNext wsX7_tier := goodIn_r _ [11, 12, 13, 14, 15, 16, 17, 18, 19, 20, 21, 22, 23, 24, 25, 26, 27, 28, 29, 30, 31, 32, 33, 34, 35, 36, 37, 123, 124, 125, 126, 127, 128, 129, 130, 131, 132, 133] (by decide +kernel) (by decide +kernel)
def wp_X6_mergeWithNext_96 (a0 : Nat)  (f : FT) (K : Int32 → FT → Prop)  : Prop :=
  gI f a0 9 2 fun v_1 => pV f a0 9 2 (.int (v_1 + (1 : Int32))) fun f_4 => K (1 : Int32) f_4
def wp_X6_mergeWithNext (a0 : Nat) (x1 : Int32) (x2 : Int32) (f : FT) (K : Int32 → FT → Prop) : Prop :=
  gA f a0 9 0 fun a_5 => isO f a_5 10 ∧ wp_X7_startOf a_5 x1 x2 f (fun r_7 => gA f a0 9 0 fun a_8 => isO f a_8 10 ∧ wp_X7_endOf a_8 x1 (x2 + (1 : Int32)) f (fun r_10 => gA f a0 9 0 fun a_11 => isO f a_11 10 ∧ wp_X7_spanBytes a_11 x1 r_7 r_10 f (fun r_13 => gA f a0 9 0 fun a_14 => gI f a_14 10 7 fun v_16 => ((r_13 ≤ v_16 → gA f a0 9 0 fun a_19 => isO f a_19 10 ∧ wp_X7_tier a_19 (x1 + (1 : Int32)) f (fun a_21 => gA f a0 9 0 fun a_22 => isO f a_22 10 ∧ wp_X7_parentOf a_22 x1 x2 f (fun r_24 => isO f a_21 5 ∧ wp_X2_addFrom a_21 r_24 (-1 : Int32) f (fun f_26 => gA f_26 a0 9 0 fun a_27 => isO f_26 a_27 10 ∧ wp_X7_tier a_27 x1 f_26 (fun a_29 => isO f_26 a_29 5 ∧ wp_X2_delete a_29 x2 f_26 (fun f_31 => ((¬ x1 = (0 : Int32) → wp_X6_mergeWithNext_96 a0 f_31 K) ∧
 (x1 = (0 : Int32) → gA f_31 a0 9 0 fun a_33 => gA f_31 a_33 10 2 fun a_35 => isO f_31 a_35 7 ∧ wp_X4_delete a_35 x2 f_31 (fun f_38 => wp_X6_mergeWithNext_96 a0 f_38 K))))))))) ∧
 (¬ (r_13 ≤ v_16) → K (0 : Int32) f)))))
set_option maxHeartbeats 4000000 in
set_option maxRecDepth 100000 in
theorem cc_X6_mergeWithNext (l : Launch) (G : GG) {f : FT} {sz : Nat} {a0 : Nat} {x1 : Int32} {x2 : Int32} {K : Int32 → FT → Prop} (h : wp_X6_mergeWithNext a0 x1 x2 f K) : Met l yX6_mergeWithNext wsX6_mergeWithNext ({ frames := 6, cells := 0, slots := 0, locals := 139 } : Room) (FP G [.ref a0, .int x1, .int x2] f sz) (va_Qi (fun r f9 => K r f9 : Int32 → FT → Prop) (FB G (fA f sz)) (fA f sz)) 0 0 (fA f sz) := by
  refine Met.ofW (cc := cX6_mergeWithNext) (maxL := 5) (ret := (some .boolean)) (by decide) rfl ?_
  intro p e s m args below meth c s₁ B hml hv
  obtain ⟨rfl, hsz, hF, hK, hZ⟩ := hv
  have hx := B.exec
  have hb := B.bytes
  have hr := B.returns
  have hts := atoms_spec (ws := wsX6_mergeWithNext) B.pre
  have hown : s.vm.findClass RX6 = some m.cls := findClass_of_methodNamed B.named
  have hlocks := B.notSynchronized
  subst hsz
  have hF := hF.self (sz := s.heap.size)
  generalize hAe : fA f s.heap.size = A at hF hZ ⊢
  have hA : ∀ q : Nat, s.heap.size ≤ q → A q := fun q h => by rw [← hAe]; exact Or.inr h
  have hS : va_S A s.heap s.heap [] := va_S.rf
  have hin_X6 : ∀ w ∈ wsX60, w ∈ wsX6_mergeWithNext := by decide +kernel
  have hin_X7 : ∀ w ∈ wsX70, w ∈ wsX6_mergeWithNext := by decide +kernel
  have J96 : ∀ (f : FT) (H : Heap) (locs : List Loc) (ls : Array Slot), wp_X6_mergeWithNext_96 a0 f K  → Fw G A f H → va_S A s.heap H locs → lv_has ls 5 [(0, .ref a0)] → W p l e ({ frames := 6, cells := 0, slots := 0, locals := 139 } : Room) s m ([.ref a0, .int x1, .int x2] : List Value).toArray below meth c H locs 0 0 (MQ below (va_Qi (fun r f9 => K r f9 : Int32 → FT → Prop) (FB G A) A) ([.ref a0, .int x1, .int x2] : List Value).toArray s 0 0 A) (F0 m 96 ls []) := by
    intro f H locs ls h hF hS hl
    unfold wp_X6_mergeWithNext_96 at h
    refine lv_aload_n hx hb dX6_mergeWithNext_96 rfl (lv_at hl 0 rfl) ?_
    refine lv_dup hx hb dX6_mergeWithNext_97 rfl ?_
    obtain ⟨fs_2, v_1, he_fs_2, hv_fs_2, h⟩ := h
    refine fw_get (C := RX6) (T := TX6) (N := 3) hx hb hts hin_X6 hown hK hF he_fs_2 rfl 2 (by decide) (hts (.fieldLink RX6 7 "FrontCodedIndex$Remover" "merges" "I") (by decide +kernel)) (fun _ h9 => h9) hv_fs_2 dX6_mergeWithNext_98 ?_
    refine lv_iconst (v := (1 : Int32)) hx hb dX6_mergeWithNext_101 (by decide) ?_
    refine lv_iadd hx hb dX6_mergeWithNext_102 ?_
    obtain ⟨fs_3, he_fs_3, hl_fs_3, h⟩ := h
    refine fw_put (v := .int (v_1 + (1 : Int32))) (ty := .int) (C := RX6) (T := TX6) (N := 3) hx hb hts hin_X6 tyX6 (tyX6_ok) nmX6 hown hK hF hS he_fs_3 rfl 2 (by decide) (hts (.fieldLink RX6 7 "FrontCodedIndex$Remover" "merges" "I") (by decide +kernel)) (fun _ h9 => h9) rfl (by decide +kernel) rfl rfl hl_fs_3 dX6_mergeWithNext_103 (fun H locs hF hS => ?_)
    obtain ⟨f_4, hf_f_4⟩ : ∃ z, z = fup f a0 (.inr (9, fs_3.set 2 (.int (v_1 + (1 : Int32))))) := ⟨_, rfl⟩
    rw [← hf_f_4] at hF; have h := h f_4 hf_f_4
    refine lv_iconst (v := (1 : Int32)) hx hb dX6_mergeWithNext_106 (by decide) ?_
    exact W.zret (v := (1 : Int32)) hx hb hr (by decide) (fun t ht hW => ⟨⟨(1 : Int32), f_4, rfl, h, by rw [ht]; exact hF, FK.moved hW.alike hK⟩, hS.F ht⟩) hS.2.2 dX6_mergeWithNext_107
  have hl := lv_entry ([.ref a0, .int x1, .int x2]) (n := 5) (Nat.le_of_ble_eq_true rfl)
  rw [lg_entry_eq]
  generalize (lg_sl ([.ref a0, .int x1, .int x2]) ++ List.replicate (5 - (lg_sl ([.ref a0, .int x1, .int x2])).length) Slot.unset).toArray = ls at hl ⊢
  have hl : lv_has ls 5 [(0, .ref a0), (1, .int x1), (2, .int x2)] := hl
  unfold wp_X6_mergeWithNext at h
  refine lv_aload_n hx hb dX6_mergeWithNext_0 rfl (lv_at hl 0 rfl) ?_
  obtain ⟨fs_6, a_5, he_fs_6, hv_fs_6, h⟩ := h
  refine fw_get (C := RX6) (T := TX6) (N := 3) hx hb hts hin_X6 hown hK hF he_fs_6 rfl 0 (by decide) (hts (.fieldLink RX6 13 "FrontCodedIndex$Remover" "tree" "LFrontCodedIndex$Tree;") (by decide +kernel)) (fun _ h9 => h9) hv_fs_6 dX6_mergeWithNext_1 ?_
  refine lv_iload_n hx hb dX6_mergeWithNext_4 rfl (lv_at hl 1 rfl) ?_
  refine lv_iload_n hx hb dX6_mergeWithNext_5 rfl (lv_at hl 2 rfl) ?_
  obtain ⟨⟨fs_r_7, hrc_r_7⟩, h⟩ := h
  refine fw_cV_i_p (As := [.int x1, .int x2]) (rest := []) ⟨hx, hb, hml, hown, hts⟩ (cc_X7_startOf l G h) (⟨callB_of 2 hts ggX6_mergeWithNext_X7_startOf rfl rfl rfl (hts (.initialized RX7) (by decide +kernel)) (hts (.methodLink RX6 89 yX7_startOf) (by decide +kernel)) (by decide +kernel) ⟨Nat.le_of_ble_eq_true rfl, Nat.le_of_ble_eq_true rfl⟩, hts (.instanceMethod yX7_startOf) (by decide +kernel), hts (.selects RX7 yX7_startOf yX7_startOf) (by decide +kernel)⟩) rfl hrc_r_7 hK hZ hF hS hA rfl hl.1 rfl (Nat.le_of_ble_eq_true rfl) dX6_mergeWithNext_6 ⟨Nat.zero_le _, Nat.zero_le _⟩ (fun r_7 H locs h hF hS => ?_)
  refine lv_istore_n (lv' := [(3, .int r_7), (0, .ref a0), (1, .int x1), (2, .int x2)]) hx hb dX6_mergeWithNext_9 rfl hl (by decide) rfl (fun ls hl => ?_)
  refine lv_aload_n hx hb dX6_mergeWithNext_10 rfl (lv_at hl 1 rfl) ?_
  obtain ⟨fs_9, a_8, he_fs_9, hv_fs_9, h⟩ := h
  refine fw_get (C := RX6) (T := TX6) (N := 3) hx hb hts hin_X6 hown hK hF he_fs_9 rfl 0 (by decide) (hts (.fieldLink RX6 13 "FrontCodedIndex$Remover" "tree" "LFrontCodedIndex$Tree;") (by decide +kernel)) (fun _ h9 => h9) hv_fs_9 dX6_mergeWithNext_11 ?_
  refine lv_iload_n hx hb dX6_mergeWithNext_14 rfl (lv_at hl 2 rfl) ?_
  refine lv_iload_n hx hb dX6_mergeWithNext_15 rfl (lv_at hl 3 rfl) ?_
  refine lv_iconst (v := (1 : Int32)) hx hb dX6_mergeWithNext_16 (by decide) ?_
  refine lv_iadd hx hb dX6_mergeWithNext_17 ?_
  obtain ⟨⟨fs_r_10, hrc_r_10⟩, h⟩ := h
  refine fw_cV_i_p (As := [.int x1, .int (x2 + (1 : Int32))]) (rest := []) ⟨hx, hb, hml, hown, hts⟩ (cc_X7_endOf l G h) (⟨callB_of 2 hts ggX6_mergeWithNext_X7_endOf rfl rfl rfl (hts (.initialized RX7) (by decide +kernel)) (hts (.methodLink RX6 71 yX7_endOf) (by decide +kernel)) (by decide +kernel) ⟨Nat.le_of_ble_eq_true rfl, Nat.le_of_ble_eq_true rfl⟩, hts (.instanceMethod yX7_endOf) (by decide +kernel), hts (.selects RX7 yX7_endOf yX7_endOf) (by decide +kernel)⟩) rfl hrc_r_10 hK hZ hF hS hA rfl hl.1 rfl (Nat.le_of_ble_eq_true rfl) dX6_mergeWithNext_18 ⟨Nat.zero_le _, Nat.zero_le _⟩ (fun r_10 H locs h hF hS => ?_)
  refine lv_istore (lv' := [(4, .int r_10), (3, .int r_7), (0, .ref a0), (1, .int x1), (2, .int x2)]) hx hb dX6_mergeWithNext_21 hl (by decide) rfl (fun ls hl => ?_)
  refine lv_aload_n hx hb dX6_mergeWithNext_23 rfl (lv_at hl 2 rfl) ?_
  obtain ⟨fs_12, a_11, he_fs_12, hv_fs_12, h⟩ := h
  refine fw_get (C := RX6) (T := TX6) (N := 3) hx hb hts hin_X6 hown hK hF he_fs_12 rfl 0 (by decide) (hts (.fieldLink RX6 13 "FrontCodedIndex$Remover" "tree" "LFrontCodedIndex$Tree;") (by decide +kernel)) (fun _ h9 => h9) hv_fs_12 dX6_mergeWithNext_24 ?_
  refine lv_iload_n hx hb dX6_mergeWithNext_27 rfl (lv_at hl 3 rfl) ?_
  refine lv_iload_n hx hb dX6_mergeWithNext_28 rfl (lv_at hl 1 rfl) ?_
  refine lv_iload hx hb dX6_mergeWithNext_29 (lv_at hl 0 rfl) ?_
  obtain ⟨⟨fs_r_13, hrc_r_13⟩, h⟩ := h
  refine fw_cV_i_p (As := [.int x1, .int r_7, .int r_10]) (rest := []) ⟨hx, hb, hml, hown, hts⟩ (cc_X7_spanBytes l G h) (⟨callB_of 3 hts ggX6_mergeWithNext_X7_spanBytes rfl rfl rfl (hts (.initialized RX7) (by decide +kernel)) (hts (.methodLink RX6 92 yX7_spanBytes) (by decide +kernel)) (by decide +kernel) ⟨Nat.le_of_ble_eq_true rfl, Nat.le_of_ble_eq_true rfl⟩, hts (.instanceMethod yX7_spanBytes) (by decide +kernel), hts (.selects RX7 yX7_spanBytes yX7_spanBytes) (by decide +kernel)⟩) rfl hrc_r_13 hK hZ hF hS hA rfl hl.1 rfl (Nat.le_of_ble_eq_true rfl) dX6_mergeWithNext_31 ⟨Nat.zero_le _, Nat.zero_le _⟩ (fun r_13 H locs h hF hS => ?_)
  refine lv_aload_n hx hb dX6_mergeWithNext_34 rfl (lv_at hl 2 rfl) ?_
  obtain ⟨fs_15, a_14, he_fs_15, hv_fs_15, h⟩ := h
  refine fw_get (C := RX6) (T := TX6) (N := 3) hx hb hts hin_X6 hown hK hF he_fs_15 rfl 0 (by decide) (hts (.fieldLink RX6 13 "FrontCodedIndex$Remover" "tree" "LFrontCodedIndex$Tree;") (by decide +kernel)) (fun _ h9 => h9) hv_fs_15 dX6_mergeWithNext_35 ?_
  obtain ⟨fs_17, v_16, he_fs_17, hv_fs_17, h⟩ := h
  refine fw_getN (C := RX7) (T := TX7) (N := 8) hx hb hts hin_X7 hown hK hF he_fs_17 rfl 7 (by decide) (va_Nw.use rfl (hZ.2.1 (.fieldLinkNest RX6 77 "FrontCodedIndex$Tree" "capacity" "I" "FrontCodedIndex") (by decide +kernel))) (fun _ h9 => h9) hv_fs_17 dX6_mergeWithNext_38 ?_
  obtain ⟨h1, h2⟩ := h
  refine lv_icmp_le (tgt := 46) hx hb dX6_mergeWithNext_41 (by decide) (fun c_18 => ?_) (fun c_18 => ?_)
  · have h := h1 c_18
    refine lv_aload_n hx hb dX6_mergeWithNext_46 rfl (lv_at hl 2 rfl) ?_
    obtain ⟨fs_20, a_19, he_fs_20, hv_fs_20, h⟩ := h
    refine fw_get (C := RX6) (T := TX6) (N := 3) hx hb hts hin_X6 hown hK hF he_fs_20 rfl 0 (by decide) (hts (.fieldLink RX6 13 "FrontCodedIndex$Remover" "tree" "LFrontCodedIndex$Tree;") (by decide +kernel)) (fun _ h9 => h9) hv_fs_20 dX6_mergeWithNext_47 ?_
    refine lv_iload_n hx hb dX6_mergeWithNext_50 rfl (lv_at hl 3 rfl) ?_
    refine lv_iconst (v := (1 : Int32)) hx hb dX6_mergeWithNext_51 (by decide) ?_
    refine lv_iadd hx hb dX6_mergeWithNext_52 ?_
    obtain ⟨⟨fs_a_21, hrc_a_21⟩, h⟩ := h
    refine fw_cV_q_p (As := [.int (x1 + (1 : Int32))]) (rest := []) ⟨hx, hb, hml, hown, hts⟩ (cc_X7_tier l G h) (⟨callB_of 1 hts ggX6_mergeWithNext_X7_tier rfl rfl rfl (hts (.initialized RX7) (by decide +kernel)) (hts (.methodLink RX6 33 yX7_tier) (by decide +kernel)) (by decide +kernel) ⟨Nat.le_of_ble_eq_true rfl, Nat.le_of_ble_eq_true rfl⟩, hts (.instanceMethod yX7_tier) (by decide +kernel), hts (.selects RX7 yX7_tier yX7_tier) (by decide +kernel)⟩) rfl hrc_a_21 hK hZ hF hS hA rfl hl.1 rfl (Nat.le_of_ble_eq_true rfl) dX6_mergeWithNext_53 ⟨Nat.zero_le _, Nat.zero_le _⟩ (fun a_21 H locs h hF hS => ?_)
    refine lv_aload_n hx hb dX6_mergeWithNext_56 rfl (lv_at hl 2 rfl) ?_
    obtain ⟨fs_23, a_22, he_fs_23, hv_fs_23, h⟩ := h
    refine fw_get (C := RX6) (T := TX6) (N := 3) hx hb hts hin_X6 hown hK hF he_fs_23 rfl 0 (by decide) (hts (.fieldLink RX6 13 "FrontCodedIndex$Remover" "tree" "LFrontCodedIndex$Tree;") (by decide +kernel)) (fun _ h9 => h9) hv_fs_23 dX6_mergeWithNext_57 ?_
    refine lv_iload_n hx hb dX6_mergeWithNext_60 rfl (lv_at hl 3 rfl) ?_
    refine lv_iload_n hx hb dX6_mergeWithNext_61 rfl (lv_at hl 4 rfl) ?_
    obtain ⟨⟨fs_r_24, hrc_r_24⟩, h⟩ := h
    refine fw_cV_i_p (As := [.int x1, .int x2]) (rest := [.ref a_21]) ⟨hx, hb, hml, hown, hts⟩ (cc_X7_parentOf l G h) (⟨callB_of 2 hts ggX6_mergeWithNext_X7_parentOf rfl rfl rfl (hts (.initialized RX7) (by decide +kernel)) (hts (.methodLink RX6 63 yX7_parentOf) (by decide +kernel)) (by decide +kernel) ⟨Nat.le_of_ble_eq_true rfl, Nat.le_of_ble_eq_true rfl⟩, hts (.instanceMethod yX7_parentOf) (by decide +kernel), hts (.selects RX7 yX7_parentOf yX7_parentOf) (by decide +kernel)⟩) rfl hrc_r_24 hK hZ hF hS hA rfl hl.1 rfl (Nat.le_of_ble_eq_true rfl) dX6_mergeWithNext_62 ⟨Nat.zero_le _, Nat.zero_le _⟩ (fun r_24 H locs h hF hS => ?_)
    refine lv_iconst (v := (-1 : Int32)) hx hb dX6_mergeWithNext_65 (by decide) ?_
    obtain ⟨⟨fs_u_25, hrc_u_25⟩, h⟩ := h
    refine fw_cV_v (As := [.int r_24, .int (-1 : Int32)]) (rest := []) ⟨hx, hb, hml, hown, hts⟩ (cc_X2_addFrom l G h) (⟨callB_of 2 hts ggX6_mergeWithNext_X2_addFrom rfl rfl rfl (hts (.initialized RX2) (by decide +kernel)) (hts (.methodLink RX6 51 yX2_addFrom) (by decide +kernel)) (by decide +kernel) ⟨Nat.le_of_ble_eq_true rfl, Nat.le_of_ble_eq_true rfl⟩, hts (.instanceMethod yX2_addFrom) (by decide +kernel), hts (.selects RX2 yX2_addFrom yX2_addFrom) (by decide +kernel)⟩) rfl hrc_u_25 hK hZ hF hS hA rfl hl.1 rfl (Nat.le_of_ble_eq_true rfl) dX6_mergeWithNext_66 ⟨Nat.zero_le _, Nat.zero_le _⟩ (fun f_26 H locs h hF hS => ?_)
    refine lv_aload_n hx hb dX6_mergeWithNext_69 rfl (lv_at hl 2 rfl) ?_
    obtain ⟨fs_28, a_27, he_fs_28, hv_fs_28, h⟩ := h
    refine fw_get (C := RX6) (T := TX6) (N := 3) hx hb hts hin_X6 hown hK hF he_fs_28 rfl 0 (by decide) (hts (.fieldLink RX6 13 "FrontCodedIndex$Remover" "tree" "LFrontCodedIndex$Tree;") (by decide +kernel)) (fun _ h9 => h9) hv_fs_28 dX6_mergeWithNext_70 ?_
    refine lv_iload_n hx hb dX6_mergeWithNext_73 rfl (lv_at hl 3 rfl) ?_
    obtain ⟨⟨fs_a_29, hrc_a_29⟩, h⟩ := h
    refine fw_cV_q_p (As := [.int x1]) (rest := []) ⟨hx, hb, hml, hown, hts⟩ (cc_X7_tier l G h) (⟨callB_of 1 hts ggX6_mergeWithNext_X7_tier rfl rfl rfl (hts (.initialized RX7) (by decide +kernel)) (hts (.methodLink RX6 33 yX7_tier) (by decide +kernel)) (by decide +kernel) ⟨Nat.le_of_ble_eq_true rfl, Nat.le_of_ble_eq_true rfl⟩, hts (.instanceMethod yX7_tier) (by decide +kernel), hts (.selects RX7 yX7_tier yX7_tier) (by decide +kernel)⟩) rfl hrc_a_29 hK hZ hF hS hA rfl hl.1 rfl (Nat.le_of_ble_eq_true rfl) dX6_mergeWithNext_74 ⟨Nat.zero_le _, Nat.zero_le _⟩ (fun a_29 H locs h hF hS => ?_)
    refine lv_iload_n hx hb dX6_mergeWithNext_77 rfl (lv_at hl 4 rfl) ?_
    obtain ⟨⟨fs_u_30, hrc_u_30⟩, h⟩ := h
    refine fw_cV_v (As := [.int x2]) (rest := []) ⟨hx, hb, hml, hown, hts⟩ (cc_X2_delete l G h) (⟨callB_of 1 hts ggX6_mergeWithNext_X2_delete rfl rfl rfl (hts (.initialized RX2) (by decide +kernel)) (hts (.methodLink RX6 50 yX2_delete) (by decide +kernel)) (by decide +kernel) ⟨Nat.le_of_ble_eq_true rfl, Nat.le_of_ble_eq_true rfl⟩, hts (.instanceMethod yX2_delete) (by decide +kernel), hts (.selects RX2 yX2_delete yX2_delete) (by decide +kernel)⟩) rfl hrc_u_30 hK hZ hF hS hA rfl hl.1 rfl (Nat.le_of_ble_eq_true rfl) dX6_mergeWithNext_78 ⟨Nat.zero_le _, Nat.zero_le _⟩ (fun f_31 H locs h hF hS => ?_)
    refine lv_iload_n hx hb dX6_mergeWithNext_81 rfl (lv_at hl 3 rfl) ?_
    obtain ⟨h1, h2⟩ := h
    refine lv_if_ne (tgt := 96) hx hb dX6_mergeWithNext_82 (by decide) (fun c_32 => ?_) (fun c_32 => ?_)
    · have h := h1 c_32
      exact J96 f_31 _ _ _ h hF hS (lv_sub hl [2] rfl)
    · have h := h2 c_32
      refine lv_aload_n hx hb dX6_mergeWithNext_85 rfl (lv_at hl 2 rfl) ?_
      obtain ⟨fs_34, a_33, he_fs_34, hv_fs_34, h⟩ := h
      refine fw_get (C := RX6) (T := TX6) (N := 3) hx hb hts hin_X6 hown hK hF he_fs_34 rfl 0 (by decide) (hts (.fieldLink RX6 13 "FrontCodedIndex$Remover" "tree" "LFrontCodedIndex$Tree;") (by decide +kernel)) (fun _ h9 => h9) hv_fs_34 dX6_mergeWithNext_86 ?_
      obtain ⟨fs_36, a_35, he_fs_36, hv_fs_36, h⟩ := h
      refine fw_getN (C := RX7) (T := TX7) (N := 8) hx hb hts hin_X7 hown hK hF he_fs_36 rfl 2 (by decide) (va_Nw.use rfl (hZ.2.1 (.fieldLinkNest RX6 96 "FrontCodedIndex$Tree" "separators" "LFrontCodedIndex$KeyRow;" "FrontCodedIndex") (by decide +kernel))) (fun _ h9 => h9) hv_fs_36 dX6_mergeWithNext_89 ?_
      refine lv_iload_n hx hb dX6_mergeWithNext_92 rfl (lv_at hl 4 rfl) ?_
      obtain ⟨⟨fs_u_37, hrc_u_37⟩, h⟩ := h
      refine fw_cV_v (As := [.int x2]) (rest := []) ⟨hx, hb, hml, hown, hts⟩ (cc_X4_delete l G h) (⟨callB_of 1 hts ggX6_mergeWithNext_X4_delete rfl rfl rfl (hts (.initialized RX4) (by decide +kernel)) (hts (.methodLink RX6 44 yX4_delete) (by decide +kernel)) (by decide +kernel) ⟨Nat.le_of_ble_eq_true rfl, Nat.le_of_ble_eq_true rfl⟩, hts (.instanceMethod yX4_delete) (by decide +kernel), hts (.selects RX4 yX4_delete yX4_delete) (by decide +kernel)⟩) rfl hrc_u_37 hK hZ hF hS hA rfl hl.1 rfl (Nat.le_of_ble_eq_true rfl) dX6_mergeWithNext_93 ⟨Nat.zero_le _, Nat.zero_le _⟩ (fun f_38 H locs h hF hS => ?_)
      exact J96 f_38 _ _ _ h hF hS (lv_sub hl [2] rfl)
  · have h := h2 c_18
    refine lv_iconst (v := (0 : Int32)) hx hb dX6_mergeWithNext_44 (by decide) ?_
    exact W.zret (v := (0 : Int32)) hx hb hr (by decide) (fun t ht hW => ⟨⟨(0 : Int32), f, rfl, h, by rw [ht]; exact hF, FK.moved hW.alike hK⟩, hS.F ht⟩) hS.2.2 dX6_mergeWithNext_45
