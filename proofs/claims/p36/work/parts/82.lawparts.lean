theorem dL_at_0 : decode cL_at 0 = .ok (.iload_n 1, 1) := by decide +kernel
theorem dL_at_1 : decode cL_at 1 = .ok (.aload_n 0, 1) := by decide +kernel
theorem dL_at_2 : decode cL_at 2 = .ok (.arraylength, 1) := by decide +kernel
theorem dL_at_3 : decode cL_at 3 = .ok (.if_icmp .ge 9, 3) := by decide +kernel
theorem dL_at_6 : decode cL_at 6 = .ok (.aload_n 0, 1) := by decide +kernel
theorem dL_at_7 : decode cL_at 7 = .ok (.iload_n 1, 1) := by decide +kernel
theorem dL_at_8 : decode cL_at 8 = .ok (.iaload, 1) := by decide +kernel
theorem dL_at_9 : decode cL_at 9 = .ok (.goto 4, 3) := by decide +kernel
theorem dL_at_12 : decode cL_at 12 = .ok (.iconst 0, 1) := by decide +kernel
theorem dL_at_13 : decode cL_at 13 = .ok (.ireturn, 1) := by decide +kernel
def wp_L_at (xs : Nat → Int32) (L : Nat) (b : Nat) (x1 : Int32) (f : FT) (K : Int32 → Prop) : Prop :=
  ∀ v_1 : Int32, v_1 = Int32.ofNat L → ((v_1 ≤ x1 → K (0 : Int32)) ∧
 (¬ (v_1 ≤ x1) → vp_in x1 L ∧ ∀ v_3 : Int32, v_3 = xs (x1).toNatClampNeg → K v_3))
set_option maxHeartbeats 4000000 in
set_option maxRecDepth 100000 in
theorem cc_L_at (l : Launch) (G : GG) {xs : Nat → Int32} {L : Nat} {f : FT} {sz : Nat} {b : Nat} {x1 : Int32} {K : Int32 → Prop} (h : wp_L_at xs L b x1 f K) : Met l yL_at wsL_at ({ frames := 0, cells := 0, slots := 0, locals := 0 } : Room) (FPS G b L xs [.ref b, .int x1] f sz) (va_Qi (fun r f9 => K r ∧ f9 = f : Int32 → FT → Prop) (FB G (fA f sz)) (fA f sz)) 0 0 (fA f sz) := by
  refine Met.ofW (cc := cL_at) (maxL := 2) (ret := (some .int)) (by decide) rfl ?_
  intro p e s m args below meth c s₁ B hml hv
  obtain ⟨⟨rfl, hsz, hF, hK, hZ⟩, hXs, hbl, hbn⟩ := hv
  have hx := B.exec
  have hb := B.bytes
  have hr := B.returns
  have hts := atoms_spec (ws := wsL_at) B.pre
  have hown : s.vm.findClass RL = some m.cls := findClass_of_methodNamed B.named
  have hlocks := B.notSynchronized
  subst hsz
  have hF := hF.self (sz := s.heap.size)
  have hbA : ¬ fA f s.heap.size b := fA_not hbl hbn
  generalize hAe : fA f s.heap.size = A at hF hZ hbA ⊢
  have hA : ∀ q : Nat, s.heap.size ≤ q → A q := fun q h => by rw [← hAe]; exact Or.inr h
  have hS : va_S A s.heap s.heap [] := va_S.rf
  have hl := lv_entry ([.ref b, .int x1]) (n := 2) (Nat.le_of_ble_eq_true rfl)
  rw [lg_entry_eq]
  generalize (lg_sl ([.ref b, .int x1]) ++ List.replicate (2 - (lg_sl ([.ref b, .int x1])).length) Slot.unset).toArray = ls at hl ⊢
  have hl : lv_has ls 2 [(0, .ref b), (1, .int x1)] := hl
  unfold wp_L_at at h
  refine lv_iload_n hx hb dL_at_0 rfl (lv_at hl 1 rfl) ?_
  refine lv_aload_n hx hb dL_at_1 rfl (lv_at hl 0 rfl) ?_
  refine va_slen hx hb hXs hbl hbA hS dL_at_2 ?_
  refine lv_topi (fun v_1 e_v_1 => ?_)
  have h := h v_1 e_v_1
  obtain ⟨h1, h2⟩ := h
  refine lv_icmp_ge (tgt := 12) hx hb dL_at_3 (by decide) (fun c_2 => ?_) (fun c_2 => ?_)
  · have h := h1 c_2
    refine lv_iconst (v := (0 : Int32)) hx hb dL_at_12 (by decide) ?_
    exact W.iret (v := (0 : Int32)) hx hb hr (fun t ht hW => ⟨⟨(0 : Int32), f, rfl, ⟨h, rfl⟩, by rw [ht]; exact hF, FK.moved hW.alike hK⟩, hS.F ht⟩) hS.2.2 dL_at_13
  · have h := h2 c_2
    refine lv_aload_n hx hb dL_at_6 rfl (lv_at hl 0 rfl) ?_
    refine lv_iload_n hx hb dL_at_7 rfl (lv_at hl 1 rfl) ?_
    obtain ⟨hi_i_4, h⟩ := h
    refine va_sld hx hb hXs hbl hbA hS hi_i_4 dL_at_8 ?_
    refine lv_topi (fun v_3 e_v_3 => ?_)
    have h := h v_3 e_v_3
    refine lv_goto (tgt := 13) hx hb dL_at_9 (by decide) ?_
    exact W.iret (v := v_3) hx hb hr (fun t ht hW => ⟨⟨v_3, f, rfl, ⟨h, rfl⟩, by rw [ht]; exact hF, FK.moved hW.alike hK⟩, hS.F ht⟩) hS.2.2 dL_at_13
theorem dL_key_0 : decode cL_key 0 = .ok (.aload_n 0, 1) := by decide +kernel
theorem dL_key_1 : decode cL_key 1 = .ok (.iconst 0, 1) := by decide +kernel
theorem dL_key_2 : decode cL_key 2 = .ok (.invokevirtual 7, 3) := by decide +kernel
theorem dL_key_5 : decode cL_key 5 = .ok (.pop, 1) := by decide +kernel
theorem dL_key_6 : decode cL_key 6 = .ok (.iconst 1, 1) := by decide +kernel
theorem dL_key_7 : decode cL_key 7 = .ok (.iload_n 1, 1) := by decide +kernel
theorem dL_key_8 : decode cL_key 8 = .ok (.iconst 3, 1) := by decide +kernel
theorem dL_key_9 : decode cL_key 9 = .ok (.iand, 1) := by decide +kernel
theorem dL_key_10 : decode cL_key 10 = .ok (.iadd, 1) := by decide +kernel
theorem dL_key_11 : decode cL_key 11 = .ok (.istore_n 2, 1) := by decide +kernel
theorem dL_key_12 : decode cL_key 12 = .ok (.iconst 0, 1) := by decide +kernel
theorem dL_key_13 : decode cL_key 13 = .ok (.istore_n 3, 1) := by decide +kernel
theorem dL_key_14 : decode cL_key 14 = .ok (.iload_n 3, 1) := by decide +kernel
theorem dL_key_15 : decode cL_key 15 = .ok (.iload_n 2, 1) := by decide +kernel
theorem dL_key_16 : decode cL_key 16 = .ok (.if_icmp .ge 26, 3) := by decide +kernel
theorem dL_key_19 : decode cL_key 19 = .ok (.aload_n 0, 1) := by decide +kernel
theorem dL_key_20 : decode cL_key 20 = .ok (.iload_n 1, 1) := by decide +kernel
theorem dL_key_21 : decode cL_key 21 = .ok (.iconst 2, 1) := by decide +kernel
theorem dL_key_22 : decode cL_key 22 = .ok (.iconst 2, 1) := by decide +kernel
theorem dL_key_23 : decode cL_key 23 = .ok (.iload_n 3, 1) := by decide +kernel
theorem dL_key_24 : decode cL_key 24 = .ok (.imul, 1) := by decide +kernel
theorem dL_key_25 : decode cL_key 25 = .ok (.iadd, 1) := by decide +kernel
theorem dL_key_26 : decode cL_key 26 = .ok (.ishr, 1) := by decide +kernel
theorem dL_key_27 : decode cL_key 27 = .ok (.iconst 3, 1) := by decide +kernel
theorem dL_key_28 : decode cL_key 28 = .ok (.iand, 1) := by decide +kernel
theorem dL_key_29 : decode cL_key 29 = .ok (.bipush 9, 2) := by decide +kernel
theorem dL_key_31 : decode cL_key 31 = .ok (.imul, 1) := by decide +kernel
theorem dL_key_32 : decode cL_key 32 = .ok (.invokevirtual 13, 3) := by decide +kernel
theorem dL_key_35 : decode cL_key 35 = .ok (.pop, 1) := by decide +kernel
theorem dL_key_36 : decode cL_key 36 = .ok (.iinc 3 1, 3) := by decide +kernel
theorem dL_key_39 : decode cL_key 39 = .ok (.goto (-25), 3) := by decide +kernel
theorem dL_key_42 : decode cL_key 42 = .ok (.return_, 1) := by decide +kernel
set_option maxRecDepth 20000 in
theorem ggL_key_X8_cutKey : GoodIn wsL_key wsX8_cutKey := goodIn_ca (goodIn_r _ [5, 6, 7, 8, 9, 10, 11, 12, 13, 14, 15, 16, 17, 18, 19, 20, 21, 22, 23, 24, 25, 26, 27, 28, 29, 30, 31, 32, 33, 34, 35, 36, 37, 38, 39, 40, 41, 42, 43, 44, 45, 46, 47, 48, 49, 60, 61, 62, 63, 64, 65, 66, 67, 68, 69] (by decide +kernel) (by decide +kernel)) (goodIn_sub (fun _ h => List.mem_cons_of_mem _ (List.mem_append_left _ (List.mem_append_right _ h))) (by decide +kernel))
set_option maxRecDepth 20000 in
theorem ggL_key_X8_feed : GoodIn wsL_key wsX8_feed := goodIn_ca (goodIn_ca (goodIn_r _ [53, 6, 7, 54, 55, 8, 9, 10, 11, 12, 13, 14, 56, 57, 58, 59, 19, 20, 28, 29, 30, 31, 32, 33, 34, 35, 36, 37, 38, 39, 22, 23, 24, 40, 41, 42, 43, 44, 45, 46, 47, 48, 49, 60, 61, 62, 63, 64, 65, 66, 67, 68, 69] (by decide +kernel) (by decide +kernel)) (goodIn_sub (fun _ h => List.mem_cons_of_mem _ (List.mem_append_left _ (List.mem_append_right _ h))) (by decide +kernel))) (goodIn_sub (fun _ h => List.mem_cons_of_mem _ (List.mem_append_right _ h)) (by decide +kernel))
def wp_L_key_14 (a0 : Nat) (x1 : Int32) (y2 : Int32) (K : FT → Prop)  (C14 : Int32 × FT × Nat × Nat → Prop) : Int32 × FT × Nat × Nat → Prop := fun s9 => match s9 with
  | (y3, f, bc, bs) => ((y2 ≤ y3 → K f) ∧
 (¬ (y2 ≤ y3) → ∃ ga_4 gb_5 : Nat, ga_4 ≤ bc ∧ gb_5 ≤ bs ∧ isO f a0 11 ∧ wp_X8_feed a0 (((x1 >>> (((2 : Int32) + ((2 : Int32) * y3)) &&& 31)) &&& (3 : Int32)) * (9 : Int32)) f ga_4 gb_5 (fun r_2 f_3 => ∀ v_8 : Int32, v_8 = y3 + 1 → C14 (v_8, f_3, (bc - ga_4), (bs - gb_5))) (fun _ _ => False)))
def wp_L_key (a0 : Nat) (x1 : Int32) (f : FT) (mc ms : Nat) (K : FT → Prop) : Prop :=
  ∃ ga_12 gb_13 : Nat, ga_12 ≤ mc ∧ gb_13 ≤ ms ∧ isO f a0 11 ∧ wp_X8_cutKey a0 (0 : Int32) f ga_12 gb_13 (fun r_10 f_11 => ∀ v_16 : Int32, v_16 = ((1 : Int32) + (x1 &&& (3 : Int32))) → ∃ n_18, loopW (wp_L_key_14 a0 x1 v_16 K) n_18 ((0 : Int32), f_11, (mc - ga_12), (ms - gb_13))) (fun _ _ => False)
set_option maxHeartbeats 4000000 in
set_option maxRecDepth 100000 in
theorem cc_L_key (l : Launch) (G : GG) {f : FT} {sz : Nat} {a0 : Nat} {x1 : Int32} {mc ms : Nat} {K : FT → Prop} (hlt : l.stackTraces = false) (h : wp_L_key a0 x1 f mc ms K) : Met l yL_key wsL_key ({ frames := 7, cells := mc, slots := ms, locals := 112 } : Room) (FPX G [.ref a0, .int x1] f sz) (va_Qv (fun f9 => K f9 : FT → Prop) (FB G (fA f sz)) (fA f sz)) mc ms (fA f sz) := by
  refine Met.ofW (cc := cL_key) (maxL := 4) (ret := none) (by decide) rfl ?_
  intro p e s m args below meth c s₁ B hml hv
  obtain ⟨rfl, hsz, hF, hK, hZ, hX⟩ := hv
  have hx := B.exec
  have hb := B.bytes
  have hr := B.returns
  have hts := atoms_spec (ws := wsL_key) B.pre
  have hown : s.vm.findClass RL = some m.cls := findClass_of_methodNamed B.named
  have hlocks := B.notSynchronized
  subst hsz
  have hF := hF.self (sz := s.heap.size)
  generalize hAe : fA f s.heap.size = A at hF hZ hX ⊢
  have hA : ∀ q : Nat, s.heap.size ≤ q → A q := fun q h => by rw [← hAe]; exact Or.inr h
  have hS : va_S A s.heap s.heap [] := va_S.rf
  have hbc : 0 + mc ≤ mc := by omega
  have hbs : 0 + ms ≤ ms := by omega
  have L14 : ∀ (y2 : Int32) (j9 : Nat) (y3 : Int32) (f : FT) (bc : Nat) (bs : Nat) (H : Heap) (locs : List Loc) (ls : Array Slot) (cs sl : Nat), loopW (wp_L_key_14 a0 x1 y2 K ) j9 (y3, f, bc, bs) → cs + bc ≤ mc → sl + bs ≤ ms → Fw G A f H → va_S A s.heap H locs → lv_has ls 4 [(0, .ref a0), (1, .int x1), (2, .int y2), (3, .int y3)] → W p l e ({ frames := 7, cells := mc, slots := ms, locals := 112 } : Room) s m ([.ref a0, .int x1] : List Value).toArray below meth c H locs cs sl (MQ below (va_Qv (fun f9 => K f9 : FT → Prop) (FB G A) A) ([.ref a0, .int x1] : List Value).toArray s mc ms A) (F0 m 14 ls []) := by
    intro y2 j9
    induction j9 with
    | zero => intro y3 f bc bs H locs ls cs sl h; exact h.elim
    | succ j9 ih14 =>
      intro y3 f bc bs H locs ls cs sl h hbc hbs hF hS hl
      have h : wp_L_key_14 a0 x1 y2 K  (loopW (wp_L_key_14 a0 x1 y2 K ) j9) (y3, f, bc, bs) := h
      generalize loopW (wp_L_key_14 a0 x1 y2 K ) j9 = C14 at ih14 h
      unfold wp_L_key_14 at h
      refine lv_iload_n hx hb dL_key_14 rfl (lv_at hl 3 rfl) ?_
      refine lv_iload_n hx hb dL_key_15 rfl (lv_at hl 2 rfl) ?_
      obtain ⟨h1, h2⟩ := h
      refine lv_icmp_ge (tgt := 42) hx hb dL_key_16 (by decide) (fun c_1 => ?_) (fun c_1 => ?_)
      · have h := h1 c_1
        refine W.widen (k := mc) (n := ms) (by omega) (by omega) ?_
        exact W.vret hx hb hr (fun t ht hW => ⟨⟨f, rfl, h, by rw [ht]; exact hF, FK.moved hW.alike hK⟩, hS.F ht⟩) hS.2.2 dL_key_42
      · have h := h2 c_1
        refine lv_aload_n hx hb dL_key_19 rfl (lv_at hl 0 rfl) ?_
        refine lv_iload_n hx hb dL_key_20 rfl (lv_at hl 1 rfl) ?_
        refine lv_iconst (v := (2 : Int32)) hx hb dL_key_21 (by decide) ?_
        refine lv_iconst (v := (2 : Int32)) hx hb dL_key_22 (by decide) ?_
        refine lv_iload_n hx hb dL_key_23 rfl (lv_at hl 3 rfl) ?_
        refine lv_imul hx hb dL_key_24 ?_
        refine lv_iadd hx hb dL_key_25 ?_
        refine lv_ishr hx hb dL_key_26 ?_
        refine lv_iconst (v := (3 : Int32)) hx hb dL_key_27 (by decide) ?_
        refine lv_iand hx hb dL_key_28 ?_
        refine lv_bipush (v := (9 : Int32)) hx hb dL_key_29 (by decide) ?_
        refine lv_imul hx hb dL_key_31 ?_
        obtain ⟨ga_4, gb_5, hga_ga_4, hgb_ga_4, h⟩ := h
        obtain ⟨⟨fs_r_2, hrc_r_2⟩, h⟩ := h
        refine fy_cV_i (As := [.int (((x1 >>> (((2 : Int32) + ((2 : Int32) * y3)) &&& 31)) &&& (3 : Int32)) * (9 : Int32))]) (rest := []) ⟨hx, hb, hml, hown, hts⟩ (cc_X8_feed l G hlt h) (⟨callB_of 1 hts ggL_key_X8_feed rfl rfl rfl (hts (.initialized RX8) (by decide +kernel)) (hts (.methodLink RL 13 yX8_feed) (by decide +kernel)) (by decide +kernel) ⟨Nat.le_of_ble_eq_true rfl, Nat.le_of_ble_eq_true rfl⟩, hts (.instanceMethod yX8_feed) (by decide +kernel), hts (.selects RX8 yX8_feed yX8_feed) (by decide +kernel)⟩) rfl hrc_r_2 hK hZ hX hF hS hA rfl hl.1 rfl (Nat.le_of_ble_eq_true rfl) dL_key_32 ⟨by show _ ≤ mc; omega, by show _ ≤ ms; omega⟩ (fun r_2 f_3 H locs h hF hS => ?_)
        obtain ⟨cs_6, hcs⟩ : ∃ z, z = (cs + ga_4) := ⟨_, rfl⟩; obtain ⟨sl_7, hsl⟩ : ∃ z, z = (sl + gb_5) := ⟨_, rfl⟩
        have hbc : cs_6 + (bc - ga_4) ≤ mc := by omega
        have hbs : sl_7 + (bs - gb_5) ≤ ms := by omega
        refine W.widen (k := cs_6) (n := sl_7) (by omega) (by omega) ?_
        clear hcs hsl
        refine lv_pop hx hb dL_key_35 rfl ?_
        obtain ⟨v_8, e_9⟩ : ∃ y : Int32, y = y3 + 1 := ⟨_, rfl⟩
        have h := h v_8 e_9
        refine lv_iinc (v := v_8) (lv' := [(3, .int v_8), (0, .ref a0), (1, .int x1), (2, .int y2)]) hx hb dL_key_36 hl (k := 3) rfl (by rw [e_9]; rfl) (by decide) rfl (fun ls hl => ?_)
        refine lv_goto (tgt := 14) hx hb dL_key_39 (by decide) ?_
        exact ih14 v_8 f_3 (bc - ga_4) (bs - gb_5) _ _ _ _ _ h hbc hbs hF hS (lv_sub hl [1, 2, 3, 0] rfl)
  have hl := lv_entry ([.ref a0, .int x1]) (n := 4) (Nat.le_of_ble_eq_true rfl)
  rw [lg_entry_eq]
  generalize (lg_sl ([.ref a0, .int x1]) ++ List.replicate (4 - (lg_sl ([.ref a0, .int x1])).length) Slot.unset).toArray = ls at hl ⊢
  have hl : lv_has ls 4 [(0, .ref a0), (1, .int x1)] := hl
  unfold wp_L_key at h
  refine lv_aload_n hx hb dL_key_0 rfl (lv_at hl 0 rfl) ?_
  refine lv_iconst (v := (0 : Int32)) hx hb dL_key_1 (by decide) ?_
  obtain ⟨ga_12, gb_13, hga_ga_12, hgb_ga_12, h⟩ := h
  obtain ⟨⟨fs_r_10, hrc_r_10⟩, h⟩ := h
  refine fy_cV_i (As := [.int (0 : Int32)]) (rest := []) ⟨hx, hb, hml, hown, hts⟩ (cc_X8_cutKey l G hlt h) (⟨callB_of 1 hts ggL_key_X8_cutKey rfl rfl rfl (hts (.initialized RX8) (by decide +kernel)) (hts (.methodLink RL 7 yX8_cutKey) (by decide +kernel)) (by decide +kernel) ⟨Nat.le_of_ble_eq_true rfl, Nat.le_of_ble_eq_true rfl⟩, hts (.instanceMethod yX8_cutKey) (by decide +kernel), hts (.selects RX8 yX8_cutKey yX8_cutKey) (by decide +kernel)⟩) rfl hrc_r_10 hK hZ hX hF hS hA rfl hl.1 rfl (Nat.le_of_ble_eq_true rfl) dL_key_2 ⟨by show _ ≤ mc; omega, by show _ ≤ ms; omega⟩ (fun r_10 f_11 H locs h hF hS => ?_)
  obtain ⟨cs_14, hcs⟩ : ∃ z, z = (0 + ga_12) := ⟨_, rfl⟩; obtain ⟨sl_15, hsl⟩ : ∃ z, z = (0 + gb_13) := ⟨_, rfl⟩
  have hbc : cs_14 + (mc - ga_12) ≤ mc := by omega
  have hbs : sl_15 + (ms - gb_13) ≤ ms := by omega
  refine W.widen (k := cs_14) (n := sl_15) (by omega) (by omega) ?_
  clear hcs hsl
  refine lv_pop hx hb dL_key_5 rfl ?_
  refine lv_iconst (v := (1 : Int32)) hx hb dL_key_6 (by decide) ?_
  refine lv_iload_n hx hb dL_key_7 rfl (lv_at hl 1 rfl) ?_
  refine lv_iconst (v := (3 : Int32)) hx hb dL_key_8 (by decide) ?_
  refine lv_iand hx hb dL_key_9 ?_
  refine lv_iadd hx hb dL_key_10 ?_
  refine lv_topi (fun v_16 e_17 => ?_)
  have h := h v_16 e_17
  refine lv_istore_n (lv' := [(2, .int v_16), (0, .ref a0), (1, .int x1)]) hx hb dL_key_11 rfl hl (by decide) rfl (fun ls hl => ?_)
  refine lv_iconst (v := (0 : Int32)) hx hb dL_key_12 (by decide) ?_
  refine lv_istore_n (lv' := [(3, .int (0 : Int32)), (2, .int v_16), (0, .ref a0), (1, .int x1)]) hx hb dL_key_13 rfl hl (by decide) rfl (fun ls hl => ?_)
  obtain ⟨n_18, h⟩ := h
  exact L14 v_16 n_18 (0 : Int32) f_11 (mc - ga_12) (ms - gb_13) _ _ _ _ _ h hbc hbs hF hS (lv_sub hl [2, 3, 1, 0] rfl)
theorem dL_number_0 : decode cL_number 0 = .ok (.aload_n 0, 1) := by decide +kernel
theorem dL_number_1 : decode cL_number 1 = .ok (.iconst 1, 1) := by decide +kernel
theorem dL_number_2 : decode cL_number 2 = .ok (.iload_n 1, 1) := by decide +kernel
theorem dL_number_3 : decode cL_number 3 = .ok (.bipush 6, 2) := by decide +kernel
theorem dL_number_5 : decode cL_number 5 = .ok (.irem, 1) := by decide +kernel
theorem dL_number_6 : decode cL_number 6 = .ok (.iadd, 1) := by decide +kernel
theorem dL_number_7 : decode cL_number 7 = .ok (.invokestatic 16, 3) := by decide +kernel
theorem dL_number_10 : decode cL_number 10 = .ok (.iconst 5, 1) := by decide +kernel
theorem dL_number_11 : decode cL_number 11 = .ok (.iload_n 1, 1) := by decide +kernel
theorem dL_number_12 : decode cL_number 12 = .ok (.bipush 6, 2) := by decide +kernel
theorem dL_number_14 : decode cL_number 14 = .ok (.idiv, 1) := by decide +kernel
theorem dL_number_15 : decode cL_number 15 = .ok (.imul, 1) := by decide +kernel
theorem dL_number_16 : decode cL_number 16 = .ok (.ishr, 1) := by decide +kernel
theorem dL_number_17 : decode cL_number 17 = .ok (.bipush 37, 2) := by decide +kernel
theorem dL_number_19 : decode cL_number 19 = .ok (.iload_n 1, 1) := by decide +kernel
theorem dL_number_20 : decode cL_number 20 = .ok (.iconst 3, 1) := by decide +kernel
theorem dL_number_21 : decode cL_number 21 = .ok (.idiv, 1) := by decide +kernel
theorem dL_number_22 : decode cL_number 22 = .ok (.imul, 1) := by decide +kernel
theorem dL_number_23 : decode cL_number 23 = .ok (.iadd, 1) := by decide +kernel
theorem dL_number_24 : decode cL_number 24 = .ok (.sipush 1023, 3) := by decide +kernel
theorem dL_number_27 : decode cL_number 27 = .ok (.iand, 1) := by decide +kernel
theorem dL_number_28 : decode cL_number 28 = .ok (.ireturn, 1) := by decide +kernel
set_option maxRecDepth 20000 in
theorem ggL_number_L_at : GoodIn wsL_number wsL_at := goodIn_r _ [4] (by decide +kernel) (by decide +kernel)
def wp_L_number (xs : Nat → Int32) (L : Nat) (b : Nat) (x1 : Int32) (f : FT) (K : Int32 → Prop) : Prop :=
  (¬ (6 : Int32) = 0) ∧ wp_L_at xs L b ((1 : Int32) + (x1 - x1 / (6 : Int32) * (6 : Int32))) f (fun r_1 => (¬ (6 : Int32) = 0) ∧ (¬ (3 : Int32) = 0) ∧ K (((r_1 >>> (((5 : Int32) * (x1 / (6 : Int32))) &&& 31)) + ((37 : Int32) * (x1 / (3 : Int32)))) &&& (1023 : Int32)))
set_option maxHeartbeats 4000000 in
set_option maxRecDepth 100000 in
theorem cc_L_number (l : Launch) (G : GG) {xs : Nat → Int32} {L : Nat} {f : FT} {sz : Nat} {b : Nat} {x1 : Int32} {K : Int32 → Prop} (h : wp_L_number xs L b x1 f K) : Met l yL_number wsL_number ({ frames := 1, cells := 0, slots := 0, locals := 21 } : Room) (FPS G b L xs [.ref b, .int x1] f sz) (va_Qi (fun r f9 => K r ∧ f9 = f : Int32 → FT → Prop) (FB G (fA f sz)) (fA f sz)) 0 0 (fA f sz) := by
  refine Met.ofW (cc := cL_number) (maxL := 2) (ret := (some .int)) (by decide) rfl ?_
  intro p e s m args below meth c s₁ B hml hv
  obtain ⟨⟨rfl, hsz, hF, hK, hZ⟩, hXs, hbl, hbn⟩ := hv
  have hx := B.exec
  have hb := B.bytes
  have hr := B.returns
  have hts := atoms_spec (ws := wsL_number) B.pre
  have hown : s.vm.findClass RL = some m.cls := findClass_of_methodNamed B.named
  have hlocks := B.notSynchronized
  subst hsz
  have hF := hF.self (sz := s.heap.size)
  have hbA : ¬ fA f s.heap.size b := fA_not hbl hbn
  generalize hAe : fA f s.heap.size = A at hF hZ hbA ⊢
  have hA : ∀ q : Nat, s.heap.size ≤ q → A q := fun q h => by rw [← hAe]; exact Or.inr h
  have hS : va_S A s.heap s.heap [] := va_S.rf
  have hl := lv_entry ([.ref b, .int x1]) (n := 2) (Nat.le_of_ble_eq_true rfl)
  rw [lg_entry_eq]
  generalize (lg_sl ([.ref b, .int x1]) ++ List.replicate (2 - (lg_sl ([.ref b, .int x1])).length) Slot.unset).toArray = ls at hl ⊢
  have hl : lv_has ls 2 [(0, .ref b), (1, .int x1)] := hl
  unfold wp_L_number at h
  refine lv_aload_n hx hb dL_number_0 rfl (lv_at hl 0 rfl) ?_
  refine lv_iconst (v := (1 : Int32)) hx hb dL_number_1 (by decide) ?_
  refine lv_iload_n hx hb dL_number_2 rfl (lv_at hl 1 rfl) ?_
  refine lv_bipush (v := (6 : Int32)) hx hb dL_number_3 (by decide) ?_
  obtain ⟨hne, h⟩ := h
  refine lv_irem hx hb dL_number_5 hne ?_
  refine lv_iadd hx hb dL_number_6 ?_
  refine fs_cS_i_p (As := [.ref b, .int ((1 : Int32) + (x1 - x1 / (6 : Int32) * (6 : Int32)))]) (rest := []) ⟨hx, hb, hml, hown, hts⟩ (cc_L_at l G h) (⟨callB_of 2 hts ggL_number_L_at rfl rfl rfl (hts (.initialized RL) (by decide +kernel)) (hts (.methodLink RL 16 yL_at) (by decide +kernel)) (by decide +kernel) ⟨Nat.le_of_ble_eq_true rfl, Nat.le_of_ble_eq_true rfl⟩, hts (.static yL_at) (by decide +kernel)⟩) hK hZ hXs hbl hbA hF hS hA rfl hl.1 rfl (Nat.le_of_ble_eq_true rfl) dL_number_7 ⟨Nat.zero_le _, Nat.zero_le _⟩ (fun r_1 H locs h hF hS => ?_)
  refine lv_iconst (v := (5 : Int32)) hx hb dL_number_10 (by decide) ?_
  refine lv_iload_n hx hb dL_number_11 rfl (lv_at hl 1 rfl) ?_
  refine lv_bipush (v := (6 : Int32)) hx hb dL_number_12 (by decide) ?_
  obtain ⟨hne, h⟩ := h
  refine lv_idiv hx hb dL_number_14 hne ?_
  refine lv_imul hx hb dL_number_15 ?_
  refine lv_ishr hx hb dL_number_16 ?_
  refine lv_bipush (v := (37 : Int32)) hx hb dL_number_17 (by decide) ?_
  refine lv_iload_n hx hb dL_number_19 rfl (lv_at hl 1 rfl) ?_
  refine lv_iconst (v := (3 : Int32)) hx hb dL_number_20 (by decide) ?_
  obtain ⟨hne, h⟩ := h
  refine lv_idiv hx hb dL_number_21 hne ?_
  refine lv_imul hx hb dL_number_22 ?_
  refine lv_iadd hx hb dL_number_23 ?_
  refine lv_sipush (v := (1023 : Int32)) hx hb dL_number_24 (by decide) ?_
  refine lv_iand hx hb dL_number_27 ?_
  exact W.iret (v := (((r_1 >>> (((5 : Int32) * (x1 / (6 : Int32))) &&& 31)) + ((37 : Int32) * (x1 / (3 : Int32)))) &&& (1023 : Int32))) hx hb hr (fun t ht hW => ⟨⟨(((r_1 >>> (((5 : Int32) * (x1 / (6 : Int32))) &&& 31)) + ((37 : Int32) * (x1 / (3 : Int32)))) &&& (1023 : Int32)), f, rfl, ⟨h, rfl⟩, by rw [ht]; exact hF, FK.moved hW.alike hK⟩, hS.F ht⟩) hS.2.2 dL_number_28
theorem dL_build_0 : decode cL_build 0 = .ok (.new 8, 3) := by decide +kernel
theorem dL_build_3 : decode cL_build 3 = .ok (.dup, 1) := by decide +kernel
theorem dL_build_4 : decode cL_build 4 = .ok (.invokespecial 22, 3) := by decide +kernel
theorem dL_build_7 : decode cL_build 7 = .ok (.astore_n 1, 1) := by decide +kernel
theorem dL_build_8 : decode cL_build 8 = .ok (.aload_n 1, 1) := by decide +kernel
theorem dL_build_9 : decode cL_build 9 = .ok (.bipush 64, 2) := by decide +kernel
theorem dL_build_11 : decode cL_build 11 = .ok (.aload_n 0, 1) := by decide +kernel
theorem dL_build_12 : decode cL_build 12 = .ok (.iconst 0, 1) := by decide +kernel
theorem dL_build_13 : decode cL_build 13 = .ok (.invokestatic 16, 3) := by decide +kernel
theorem dL_build_16 : decode cL_build 16 = .ok (.bipush 6, 2) := by decide +kernel
theorem dL_build_18 : decode cL_build 18 = .ok (.ishr, 1) := by decide +kernel
theorem dL_build_19 : decode cL_build 19 = .ok (.bipush 15, 2) := by decide +kernel
theorem dL_build_21 : decode cL_build 21 = .ok (.iand, 1) := by decide +kernel
theorem dL_build_22 : decode cL_build 22 = .ok (.iadd, 1) := by decide +kernel
theorem dL_build_23 : decode cL_build 23 = .ok (.invokevirtual 23, 3) := by decide +kernel
theorem dL_build_26 : decode cL_build 26 = .ok (.pop, 1) := by decide +kernel
theorem dL_build_27 : decode cL_build 27 = .ok (.aload_n 0, 1) := by decide +kernel
theorem dL_build_28 : decode cL_build 28 = .ok (.iconst 0, 1) := by decide +kernel
theorem dL_build_29 : decode cL_build 29 = .ok (.invokestatic 16, 3) := by decide +kernel
theorem dL_build_32 : decode cL_build 32 = .ok (.bipush 63, 2) := by decide +kernel
theorem dL_build_34 : decode cL_build 34 = .ok (.iand, 1) := by decide +kernel
theorem dL_build_35 : decode cL_build 35 = .ok (.istore_n 2, 1) := by decide +kernel
theorem dL_build_36 : decode cL_build 36 = .ok (.iconst 0, 1) := by decide +kernel
theorem dL_build_37 : decode cL_build 37 = .ok (.istore_n 3, 1) := by decide +kernel
theorem dL_build_38 : decode cL_build 38 = .ok (.iload_n 3, 1) := by decide +kernel
theorem dL_build_39 : decode cL_build 39 = .ok (.iload_n 2, 1) := by decide +kernel
theorem dL_build_40 : decode cL_build 40 = .ok (.if_icmp .ge 24, 3) := by decide +kernel
theorem dL_build_43 : decode cL_build 43 = .ok (.aload_n 1, 1) := by decide +kernel
theorem dL_build_44 : decode cL_build 44 = .ok (.aload_n 0, 1) := by decide +kernel
theorem dL_build_45 : decode cL_build 45 = .ok (.iload_n 3, 1) := by decide +kernel
theorem dL_build_46 : decode cL_build 46 = .ok (.invokestatic 26, 3) := by decide +kernel
theorem dL_build_49 : decode cL_build 49 = .ok (.invokestatic 29, 3) := by decide +kernel
theorem dL_build_52 : decode cL_build 52 = .ok (.aload_n 1, 1) := by decide +kernel
theorem dL_build_53 : decode cL_build 53 = .ok (.iload_n 3, 1) := by decide +kernel
theorem dL_build_54 : decode cL_build 54 = .ok (.invokevirtual 33, 3) := by decide +kernel
theorem dL_build_57 : decode cL_build 57 = .ok (.pop, 1) := by decide +kernel
theorem dL_build_58 : decode cL_build 58 = .ok (.iinc 3 1, 3) := by decide +kernel
theorem dL_build_61 : decode cL_build 61 = .ok (.goto (-23), 3) := by decide +kernel
theorem dL_build_64 : decode cL_build 64 = .ok (.aload_n 1, 1) := by decide +kernel
theorem dL_build_65 : decode cL_build 65 = .ok (.areturn, 1) := by decide +kernel
set_option maxRecDepth 20000 in
theorem ggL_build_L_at : GoodIn wsL_build wsL_at := goodIn_r _ [232] (by decide +kernel) (by decide +kernel)
set_option maxRecDepth 20000 in
theorem ggL_build_L_key : GoodIn wsL_build wsL_key := goodIn_ca (goodIn_ca (goodIn_r _ [251, 252, 253, 254, 3, 255, 237, 238, 36, 256, 257, 258, 34, 259, 86, 260, 261, 262, 263, 264, 33, 265, 150, 124, 151, 266, 123, 125, 267, 268, 138, 269, 270, 271, 194, 195, 272, 273, 35, 149, 152, 153, 154, 155, 274, 83, 84, 85, 8, 9, 275, 276, 277, 278, 239, 240, 279, 280, 281, 282, 437, 438, 439, 440, 441, 442, 443, 444, 445, 464] (by decide +kernel) (by decide +kernel)) (goodIn_sub (fun _ h => List.mem_cons_of_mem _ (List.mem_append_left _ (List.mem_append_right _ h))) (by decide +kernel))) (goodIn_sub (fun _ h => List.mem_cons_of_mem _ (List.mem_append_right _ h)) (by decide +kernel))
set_option maxRecDepth 20000 in
theorem ggL_build_L_number : GoodIn wsL_build wsL_number := goodIn_r _ [248, 229, 230, 231, 232] (by decide +kernel) (by decide +kernel)
set_option maxRecDepth 20000 in
theorem ggL_build_X8_init : GoodIn wsL_build wsX8_init := goodIn_r _ [6, 7, 8, 9, 10, 11, 12, 13, 14, 15, 16, 17, 18, 19, 20, 21, 22, 23, 24, 25, 26, 27, 28, 29, 30, 31, 32, 33, 34, 35, 36, 37, 38, 39, 40, 41, 42, 43, 44, 45, 46, 47, 48, 49, 50, 51, 52, 53, 54, 55, 56, 57, 58, 59, 60, 61, 62, 63, 64, 65, 66, 67, 68, 69, 70, 71, 72, 73, 74, 75, 76, 77, 78, 79, 80, 81, 82, 83, 84, 85, 86, 87, 88, 89, 90, 91, 92, 93, 94, 95, 96, 97, 98, 99, 100, 101, 102, 103, 104, 105, 106, 107, 108, 109, 110, 111, 112, 113, 114, 115, 116, 117, 118, 119, 120, 121, 122, 123, 124, 125, 126, 127, 128, 129, 130, 131, 132, 133, 134, 135, 136, 137, 138, 139, 140, 141, 142, 143, 144, 145, 146, 147, 148, 149, 150, 151, 152, 153, 154, 155, 156, 157, 158, 159, 160, 161, 162, 163, 164, 165, 166, 167, 168, 169, 170, 171, 172, 173, 174, 175, 176, 177, 178, 179, 180, 181, 182, 183, 184, 185, 186, 187, 188, 189, 190, 191, 192, 193, 194, 195, 196, 197, 198, 199, 200, 201, 202, 203, 204, 205, 206, 207, 208, 209, 210, 211, 212, 213, 214, 215, 216, 217, 218, 219, 220, 221, 222, 223, 224, 225, 226, 227, 228, 446, 447, 448, 449, 450, 451, 452, 453, 437, 438, 439, 440, 441, 442, 443, 444, 445, 454, 455, 456, 457, 458, 459, 460, 461, 462, 463, 464, 465, 466, 467, 468, 469, 470, 471] (by decide +kernel) (by decide +kernel)
set_option maxRecDepth 20000 in
theorem ggL_build_X8_put : GoodIn wsL_build wsX8_put := goodIn_ca (goodIn_r _ [286, 239, 240, 13, 36, 22, 287, 288, 289, 44, 290, 64, 291, 292, 293, 294, 245, 100, 101, 53, 102, 103, 295, 296, 297, 298, 299, 66, 300, 162, 163, 164, 165, 166, 167, 168, 169, 170, 171, 172, 173, 174, 175, 176, 71, 301, 302, 303, 34, 304, 305, 306, 307, 308, 86, 309, 310, 311, 312, 313, 314, 315, 48, 316, 92, 91, 241, 242, 243, 244, 317, 318, 319, 21, 320, 212, 321, 322, 323, 324, 213, 325, 326, 327, 328, 329, 330, 331, 332, 333, 108, 109, 334, 153, 154, 155, 335, 336, 337, 338, 114, 115, 116, 117, 118, 119, 120, 121, 70, 122, 123, 124, 125, 126, 127, 128, 129, 130, 131, 132, 133, 134, 135, 136, 137, 138, 139, 140, 141, 142, 143, 144, 145, 146, 147, 148, 149, 150, 151, 152, 339, 186, 187, 188, 189, 190, 191, 192, 193, 194, 195, 196, 197, 90, 340, 157, 158, 12, 159, 54, 160, 55, 99, 161, 341, 342, 343, 344, 345, 346, 347, 348, 17, 349, 202, 350, 351, 352, 353, 354, 355, 356, 357, 156, 358, 359, 360, 361, 362, 363, 364, 365, 366, 367, 368, 369, 57, 45, 370, 371, 372, 373, 374, 50, 375, 257, 258, 259, 376, 377, 378, 379, 380, 381, 382, 383, 384, 58, 385, 386, 387, 388, 389, 390, 391, 392, 393, 394, 395, 396, 397, 398, 399, 400, 211, 401, 402, 403, 404, 405, 406, 261, 262, 263, 264, 33, 265, 266, 267, 268, 269, 270, 271, 272, 273, 35, 274, 83, 84, 85, 8, 9, 407, 408, 409, 410, 411, 412, 413, 414, 415, 416, 417, 418, 419, 420, 421, 422, 423, 424, 425, 426, 210, 427, 428, 429, 430, 431, 432, 433, 434, 96, 97, 98, 46, 47, 87, 88, 89, 104, 105, 106, 107, 110, 111, 112, 113, 177, 178, 179, 180, 435, 182, 183, 184, 185, 436, 437, 438, 439, 440, 441, 442, 443, 444, 445, 446, 447, 448, 449, 450, 451, 452, 453, 465, 466, 469, 470, 471, 464, 467, 468, 455, 456, 457, 458, 454] (by decide +kernel) (by decide +kernel)) (goodIn_sub (fun _ h => List.mem_cons_of_mem _ (List.mem_append_right _ h)) (by decide +kernel))
set_option maxRecDepth 20000 in
theorem ggL_build_X8_setCapacity : GoodIn wsL_build wsX8_setCapacity := goodIn_ca (goodIn_ca (goodIn_r _ [236, 237, 238, 239, 240, 13, 241, 242, 243, 44, 244, 64, 245, 100, 101, 53, 102, 103, 437, 438, 439, 440, 441, 442, 443, 444, 445, 446, 447, 448, 449, 450, 451, 452, 453, 465, 466, 469, 470, 471] (by decide +kernel) (by decide +kernel)) (goodIn_sub (fun _ h => List.mem_cons_of_mem _ (List.mem_append_left _ (List.mem_append_right _ h))) (by decide +kernel))) (goodIn_sub (fun _ h => List.mem_cons_of_mem _ (List.mem_append_right _ h)) (by decide +kernel))
def wp_L_build_38 (zd : Nat) (xs : Nat → Int32) (L : Nat) (b : Nat) (o1 : Nat) (y2 : Int32) (K : Nat → FT → Prop)  (C38 : Int32 × FT × Nat × Nat → Prop) : Int32 × FT × Nat × Nat → Prop := fun s9 => match s9 with
  | (y3, f, bc, bs) => ((y2 ≤ y3 → K o1 f) ∧
 (¬ (y2 ≤ y3) → wp_L_number xs L b y3 f (fun r_2 => ∃ ga_5 gb_6 : Nat, ga_5 ≤ bc ∧ gb_6 ≤ bs ∧ wp_L_key o1 r_2 f ga_5 gb_6 (fun f_4 => ∃ ga_11 gb_12 : Nat, ga_11 ≤ (bc - ga_5) ∧ gb_12 ≤ (bs - gb_6) ∧ isO f_4 o1 11 ∧ wp_X8_put zd o1 y3 f_4 ga_11 gb_12 (fun r_9 f_10 => ∀ v_15 : Int32, v_15 = y3 + 1 → C38 (v_15, f_10, ((bc - ga_5) - ga_11), ((bs - gb_6) - gb_12))) (fun _ _ => False)))))
def wp_L_build (zd : Nat) (xs : Nat → Int32) (L : Nat) (b : Nat) (f : FT) (mc ms : Nat) (K : Nat → FT → Prop) : Prop :=
  nO f 11 [.null, .null, .null, .null, .null, .null, .int 0, .null, .null] 9 mc ms fun q_17 f_18 => ∃ ga_23 gb_24 : Nat, ga_23 ≤ (mc - 1) ∧ gb_24 ≤ (ms - 9) ∧ wp_X8_init zd q_17 f_18 ga_23 gb_24 (fun f_22 => wp_L_at xs L b (0 : Int32) f_22 (fun r_27 => ∃ ga_30 gb_31 : Nat, ga_30 ≤ ((mc - 1) - ga_23) ∧ gb_31 ≤ ((ms - 9) - gb_24) ∧ isO f_22 q_17 11 ∧ wp_X8_setCapacity q_17 ((64 : Int32) + ((r_27 >>> ((6 : Int32) &&& 31)) &&& (15 : Int32))) f_22 ga_30 gb_31 (fun r_28 f_29 => wp_L_at xs L b (0 : Int32) f_29 (fun r_34 => ∀ v_35 : Int32, v_35 = (r_34 &&& (63 : Int32)) → ∃ n_37, loopW (wp_L_build_38 zd xs L b q_17 v_35 K) n_37 ((0 : Int32), f_29, (((mc - 1) - ga_23) - ga_30), (((ms - 9) - gb_24) - gb_31)))) (fun _ _ => False)))
set_option maxHeartbeats 4000000 in
set_option maxRecDepth 100000 in
theorem cc_L_build (l : Launch) (G : GG) {zd : Nat} (hzd : G.2.2 0 = zd) {xs : Nat → Int32} {L : Nat} {f : FT} {sz : Nat} {b : Nat} {mc ms : Nat} {K : Nat → FT → Prop} (hlt : l.stackTraces = false) (h : wp_L_build zd xs L b f mc ms K) : Met l yL_build wsL_build ({ frames := 11, cells := mc, slots := ms, locals := 262 } : Room) (FPXS G b L xs [.ref b] f sz) (va_Qq (fun r f9 => ∃ q, r = some q ∧ K q f9 : Option Nat → FT → Prop) (FB G (fA f sz)) (fA f sz)) mc ms (fA f sz) := by
  refine Met.ofW (cc := cL_build) (maxL := 4) (ret := (some (.object "FrontCodedIndex"))) (by decide) rfl ?_
  intro p e s m args below meth c s₁ B hml hv
  obtain ⟨⟨rfl, hsz, hF, hK, hZ, hX⟩, hXs, hbl, hbn⟩ := hv
  have hx := B.exec
  have hb := B.bytes
  have hr := B.returns
  have hts := atoms_spec (ws := wsL_build) B.pre
  have hown : s.vm.findClass RL = some m.cls := findClass_of_methodNamed B.named
  have hlocks := B.notSynchronized
  subst hsz
  have hF := hF.self (sz := s.heap.size)
  have hbA : ¬ fA f s.heap.size b := fA_not hbl hbn
  generalize hAe : fA f s.heap.size = A at hF hZ hX hbA ⊢
  have hA : ∀ q : Nat, s.heap.size ≤ q → A q := fun q h => by rw [← hAe]; exact Or.inr h
  have hS : va_S A s.heap s.heap [] := va_S.rf
  have hZ9 : va_Z "java/util/ArrayList" "DEFAULTCAPACITY_EMPTY_ELEMENTDATA" "[Ljava/lang/Object;" (.ref zd) A s s.heap := by rw [← hzd]; exact hZ.1
  have hin_X8 : ∀ w ∈ wsX80, w ∈ wsL_build := by decide +kernel
  have hbc : 0 + mc ≤ mc := by omega
  have hbs : 0 + ms ≤ ms := by omega
  have L38 : ∀ (o1 : Nat) (y2 : Int32) (j9 : Nat) (y3 : Int32) (f : FT) (bc : Nat) (bs : Nat) (H : Heap) (locs : List Loc) (ls : Array Slot) (cs sl : Nat), loopW (wp_L_build_38 zd xs L b o1 y2 K ) j9 (y3, f, bc, bs) → cs + bc ≤ mc → sl + bs ≤ ms → Fw G A f H → va_S A s.heap H locs → lv_has ls 4 [(0, .ref b), (1, .ref o1), (2, .int y2), (3, .int y3)] → W p l e ({ frames := 11, cells := mc, slots := ms, locals := 262 } : Room) s m ([.ref b] : List Value).toArray below meth c H locs cs sl (MQ below (va_Qq (fun r f9 => ∃ q, r = some q ∧ K q f9 : Option Nat → FT → Prop) (FB G A) A) ([.ref b] : List Value).toArray s mc ms A) (F0 m 38 ls []) := by
    intro o1 y2 j9
    induction j9 with
    | zero => intro y3 f bc bs H locs ls cs sl h; exact h.elim
    | succ j9 ih38 =>
      intro y3 f bc bs H locs ls cs sl h hbc hbs hF hS hl
      have h : wp_L_build_38 zd xs L b o1 y2 K  (loopW (wp_L_build_38 zd xs L b o1 y2 K ) j9) (y3, f, bc, bs) := h
      generalize loopW (wp_L_build_38 zd xs L b o1 y2 K ) j9 = C38 at ih38 h
      unfold wp_L_build_38 at h
      refine lv_iload_n hx hb dL_build_38 rfl (lv_at hl 3 rfl) ?_
      refine lv_iload_n hx hb dL_build_39 rfl (lv_at hl 2 rfl) ?_
      obtain ⟨h1, h2⟩ := h
      refine lv_icmp_ge (tgt := 64) hx hb dL_build_40 (by decide) (fun c_1 => ?_) (fun c_1 => ?_)
      · have h := h1 c_1
        refine lv_aload_n hx hb dL_build_64 rfl (lv_at hl 1 rfl) ?_
        refine W.widen (k := mc) (n := ms) (by omega) (by omega) ?_
        exact W.aret (v := .ref o1) hx hb hr (Or.inl ⟨_, rfl⟩) (Or.inr ⟨o1, rfl⟩) (fun t ht hW => ⟨⟨some o1, f, rfl, ⟨_, rfl, h⟩, by rw [ht]; exact hF, FK.moved hW.alike hK⟩, hS.F ht⟩) hS.2.2 dL_build_65
      · have h := h2 c_1
        refine lv_aload_n hx hb dL_build_43 rfl (lv_at hl 1 rfl) ?_
        refine lv_aload_n hx hb dL_build_44 rfl (lv_at hl 0 rfl) ?_
        refine lv_iload_n hx hb dL_build_45 rfl (lv_at hl 3 rfl) ?_
        refine fs_cS_i_p (As := [.ref b, .int y3]) (rest := [.ref o1]) ⟨hx, hb, hml, hown, hts⟩ (cc_L_number l G h) (⟨callB_of 2 hts ggL_build_L_number rfl rfl rfl (hts (.initialized RL) (by decide +kernel)) (hts (.methodLink RL 26 yL_number) (by decide +kernel)) (by decide +kernel) ⟨Nat.le_of_ble_eq_true rfl, Nat.le_of_ble_eq_true rfl⟩, hts (.static yL_number) (by decide +kernel)⟩) hK hZ hXs hbl hbA hF hS hA rfl hl.1 rfl (Nat.le_of_ble_eq_true rfl) dL_build_46 ⟨by show _ + 0 ≤ mc; omega, by show _ + 0 ≤ ms; omega⟩ (fun r_2 H locs h hF hS => ?_)
        simp only [Nat.add_zero]
        obtain ⟨ga_5, gb_6, hga_ga_5, hgb_ga_5, h⟩ := h
        refine fs_cS_v (As := [.ref o1, .int r_2]) (rest := []) ⟨hx, hb, hml, hown, hts⟩ (cc_L_key l G hlt h) (⟨callB_of 2 hts ggL_build_L_key rfl rfl rfl (hts (.initialized RL) (by decide +kernel)) (hts (.methodLink RL 29 yL_key) (by decide +kernel)) (by decide +kernel) ⟨Nat.le_of_ble_eq_true rfl, Nat.le_of_ble_eq_true rfl⟩, hts (.static yL_key) (by decide +kernel)⟩) hK hZ hX hF hS hA rfl hl.1 rfl (Nat.le_of_ble_eq_true rfl) dL_build_49 ⟨by show _ ≤ mc; omega, by show _ ≤ ms; omega⟩ (fun f_4 H locs h hF hS => ?_)
        obtain ⟨cs_7, hcs⟩ : ∃ z, z = (cs + ga_5) := ⟨_, rfl⟩; obtain ⟨sl_8, hsl⟩ : ∃ z, z = (sl + gb_6) := ⟨_, rfl⟩
        have hbc : cs_7 + (bc - ga_5) ≤ mc := by omega
        have hbs : sl_8 + (bs - gb_6) ≤ ms := by omega
        refine W.widen (k := cs_7) (n := sl_8) (by omega) (by omega) ?_
        clear hcs hsl
        refine lv_aload_n hx hb dL_build_52 rfl (lv_at hl 1 rfl) ?_
        refine lv_iload_n hx hb dL_build_53 rfl (lv_at hl 3 rfl) ?_
        obtain ⟨ga_11, gb_12, hga_ga_11, hgb_ga_11, h⟩ := h
        obtain ⟨⟨fs_r_9, hrc_r_9⟩, h⟩ := h
        refine fy_cV_i (As := [.int y3]) (rest := []) ⟨hx, hb, hml, hown, hts⟩ (cc_X8_put l G hzd hlt h) (⟨callB_of 1 hts ggL_build_X8_put rfl rfl rfl (hts (.initialized RX8) (by decide +kernel)) (hts (.methodLink RL 33 yX8_put) (by decide +kernel)) (by decide +kernel) ⟨Nat.le_of_ble_eq_true rfl, Nat.le_of_ble_eq_true rfl⟩, hts (.instanceMethod yX8_put) (by decide +kernel), hts (.selects RX8 yX8_put yX8_put) (by decide +kernel)⟩) rfl hrc_r_9 hK hZ hX hF hS hA rfl hl.1 rfl (Nat.le_of_ble_eq_true rfl) dL_build_54 ⟨by show _ ≤ mc; omega, by show _ ≤ ms; omega⟩ (fun r_9 f_10 H locs h hF hS => ?_)
        obtain ⟨cs_13, hcs⟩ : ∃ z, z = (cs_7 + ga_11) := ⟨_, rfl⟩; obtain ⟨sl_14, hsl⟩ : ∃ z, z = (sl_8 + gb_12) := ⟨_, rfl⟩
        have hbc : cs_13 + ((bc - ga_5) - ga_11) ≤ mc := by omega
        have hbs : sl_14 + ((bs - gb_6) - gb_12) ≤ ms := by omega
        refine W.widen (k := cs_13) (n := sl_14) (by omega) (by omega) ?_
        clear hcs hsl
        refine lv_pop hx hb dL_build_57 rfl ?_
        obtain ⟨v_15, e_16⟩ : ∃ y : Int32, y = y3 + 1 := ⟨_, rfl⟩
        have h := h v_15 e_16
        refine lv_iinc (v := v_15) (lv' := [(3, .int v_15), (0, .ref b), (1, .ref o1), (2, .int y2)]) hx hb dL_build_58 hl (k := 3) rfl (by rw [e_16]; rfl) (by decide) rfl (fun ls hl => ?_)
        refine lv_goto (tgt := 38) hx hb dL_build_61 (by decide) ?_
        exact ih38 v_15 f_10 ((bc - ga_5) - ga_11) ((bs - gb_6) - gb_12) _ _ _ _ _ h hbc hbs hF hS (lv_sub hl [1, 2, 3, 0] rfl)
  have hl := lv_entry ([.ref b]) (n := 4) (Nat.le_of_ble_eq_true rfl)
  rw [lg_entry_eq]
  generalize (lg_sl ([.ref b]) ++ List.replicate (4 - (lg_sl ([.ref b])).length) Slot.unset).toArray = ls at hl ⊢
  have hl : lv_has ls 4 [(0, .ref b)] := hl
  unfold wp_L_build at h
  obtain ⟨hb1, hb2, h⟩ := h
  refine fw_new (ci := 11) (fs := [.null, .null, .null, .null, .null, .null, .int 0, .null, .null]) (C := RX8) (T := TX8) (N := 9) hx hb hts hin_X8 tyX8 tyX8_ok hown (hts (.classLink RL 8 RX8) (by decide +kernel)) (hts (.instantiable RX8 9) (by decide +kernel)) (hts (.initialized RX8) (by decide +kernel)) hK hF hS hA rfl (fun j hj => by rcases (show j = 0 ∨ j = 1 ∨ j = 2 ∨ j = 3 ∨ j = 4 ∨ j = 5 ∨ j = 6 ∨ j = 7 ∨ j = 8 by omega) with rfl | rfl | rfl | rfl | rfl | rfl | rfl | rfl | rfl <;> rfl) (by show _ ≤ mc; omega) (by show _ ≤ ms; omega) dL_build_0 (fun q_17 H hn_q_17 hF hS => ?_)
  obtain ⟨f_18, hf_f_18⟩ : ∃ z, z = fup f q_17 (.inr (11, [.null, .null, .null, .null, .null, .null, .int 0, .null, .null])) := ⟨_, rfl⟩
  rw [← hf_f_18] at hF; have h := h q_17 hn_q_17 f_18 hf_f_18
  obtain ⟨cs_19, hcs⟩ : ∃ z, z = (0 + 1) := ⟨_, rfl⟩; obtain ⟨sl_20, hsl⟩ : ∃ z, z = (0 + 9) := ⟨_, rfl⟩
  have hbc : cs_19 + (mc - 1) ≤ mc := by omega
  have hbs : sl_20 + (ms - 9) ≤ ms := by omega
  refine W.widen (k := cs_19) (n := sl_20) (by omega) (by omega) ?_
  clear hcs hsl
  refine lv_dup hx hb dL_build_3 rfl ?_
  obtain ⟨ga_23, gb_24, hga_ga_23, hgb_ga_23, h⟩ := h
  refine fw_cI_v (As := []) (rest := [.ref q_17]) ⟨hx, hb, hml, hown, hts⟩ (cc_X8_init l G hzd h) (⟨callB_of 0 hts ggL_build_X8_init rfl rfl rfl (hts (.initialized RX8) (by decide +kernel)) (hts (.methodLink RL 22 yX8_init) (by decide +kernel)) (by decide +kernel) ⟨Nat.le_of_ble_eq_true rfl, Nat.le_of_ble_eq_true rfl⟩, rfl, hts (.instanceMethod yX8_init) (by decide +kernel)⟩) hK hZ hF hS hA rfl hl.1 rfl (Nat.le_of_ble_eq_true rfl) dL_build_4 ⟨by show _ ≤ mc; omega, by show _ ≤ ms; omega⟩ (fun f_22 H locs h hF hS => ?_)
  obtain ⟨cs_25, hcs⟩ : ∃ z, z = (cs_19 + ga_23) := ⟨_, rfl⟩; obtain ⟨sl_26, hsl⟩ : ∃ z, z = (sl_20 + gb_24) := ⟨_, rfl⟩
  have hbc : cs_25 + ((mc - 1) - ga_23) ≤ mc := by omega
  have hbs : sl_26 + ((ms - 9) - gb_24) ≤ ms := by omega
  refine W.widen (k := cs_25) (n := sl_26) (by omega) (by omega) ?_
  clear hcs hsl
  refine lv_astore_n (lv' := [(1, .ref q_17), (0, .ref b)]) hx hb dL_build_7 rfl hl (by decide) rfl (fun ls hl => ?_)
  refine lv_aload_n hx hb dL_build_8 rfl (lv_at hl 0 rfl) ?_
  refine lv_bipush (v := (64 : Int32)) hx hb dL_build_9 (by decide) ?_
  refine lv_aload_n hx hb dL_build_11 rfl (lv_at hl 1 rfl) ?_
  refine lv_iconst (v := (0 : Int32)) hx hb dL_build_12 (by decide) ?_
  refine fs_cS_i_p (As := [.ref b, .int (0 : Int32)]) (rest := [.int (64 : Int32), .ref q_17]) ⟨hx, hb, hml, hown, hts⟩ (cc_L_at l G h) (⟨callB_of 2 hts ggL_build_L_at rfl rfl rfl (hts (.initialized RL) (by decide +kernel)) (hts (.methodLink RL 16 yL_at) (by decide +kernel)) (by decide +kernel) ⟨Nat.le_of_ble_eq_true rfl, Nat.le_of_ble_eq_true rfl⟩, hts (.static yL_at) (by decide +kernel)⟩) hK hZ hXs hbl hbA hF hS hA rfl hl.1 rfl (Nat.le_of_ble_eq_true rfl) dL_build_13 ⟨by show _ + 0 ≤ mc; omega, by show _ + 0 ≤ ms; omega⟩ (fun r_27 H locs h hF hS => ?_)
  simp only [Nat.add_zero]
  refine lv_bipush (v := (6 : Int32)) hx hb dL_build_16 (by decide) ?_
  refine lv_ishr hx hb dL_build_18 ?_
  refine lv_bipush (v := (15 : Int32)) hx hb dL_build_19 (by decide) ?_
  refine lv_iand hx hb dL_build_21 ?_
  refine lv_iadd hx hb dL_build_22 ?_
  obtain ⟨ga_30, gb_31, hga_ga_30, hgb_ga_30, h⟩ := h
  obtain ⟨⟨fs_r_28, hrc_r_28⟩, h⟩ := h
  refine fy_cV_i (As := [.int ((64 : Int32) + ((r_27 >>> ((6 : Int32) &&& 31)) &&& (15 : Int32)))]) (rest := []) ⟨hx, hb, hml, hown, hts⟩ (cc_X8_setCapacity l G hlt h) (⟨callB_of 1 hts ggL_build_X8_setCapacity rfl rfl rfl (hts (.initialized RX8) (by decide +kernel)) (hts (.methodLink RL 23 yX8_setCapacity) (by decide +kernel)) (by decide +kernel) ⟨Nat.le_of_ble_eq_true rfl, Nat.le_of_ble_eq_true rfl⟩, hts (.instanceMethod yX8_setCapacity) (by decide +kernel), hts (.selects RX8 yX8_setCapacity yX8_setCapacity) (by decide +kernel)⟩) rfl hrc_r_28 hK hZ hX hF hS hA rfl hl.1 rfl (Nat.le_of_ble_eq_true rfl) dL_build_23 ⟨by show _ ≤ mc; omega, by show _ ≤ ms; omega⟩ (fun r_28 f_29 H locs h hF hS => ?_)
  obtain ⟨cs_32, hcs⟩ : ∃ z, z = (cs_25 + ga_30) := ⟨_, rfl⟩; obtain ⟨sl_33, hsl⟩ : ∃ z, z = (sl_26 + gb_31) := ⟨_, rfl⟩
  have hbc : cs_32 + (((mc - 1) - ga_23) - ga_30) ≤ mc := by omega
  have hbs : sl_33 + (((ms - 9) - gb_24) - gb_31) ≤ ms := by omega
  refine W.widen (k := cs_32) (n := sl_33) (by omega) (by omega) ?_
  clear hcs hsl
  refine lv_pop hx hb dL_build_26 rfl ?_
  refine lv_aload_n hx hb dL_build_27 rfl (lv_at hl 1 rfl) ?_
  refine lv_iconst (v := (0 : Int32)) hx hb dL_build_28 (by decide) ?_
  refine fs_cS_i_p (As := [.ref b, .int (0 : Int32)]) (rest := []) ⟨hx, hb, hml, hown, hts⟩ (cc_L_at l G h) (⟨callB_of 2 hts ggL_build_L_at rfl rfl rfl (hts (.initialized RL) (by decide +kernel)) (hts (.methodLink RL 16 yL_at) (by decide +kernel)) (by decide +kernel) ⟨Nat.le_of_ble_eq_true rfl, Nat.le_of_ble_eq_true rfl⟩, hts (.static yL_at) (by decide +kernel)⟩) hK hZ hXs hbl hbA hF hS hA rfl hl.1 rfl (Nat.le_of_ble_eq_true rfl) dL_build_29 ⟨by show _ + 0 ≤ mc; omega, by show _ + 0 ≤ ms; omega⟩ (fun r_34 H locs h hF hS => ?_)
  simp only [Nat.add_zero]
  refine lv_bipush (v := (63 : Int32)) hx hb dL_build_32 (by decide) ?_
  refine lv_iand hx hb dL_build_34 ?_
  refine lv_topi (fun v_35 e_36 => ?_)
  have h := h v_35 e_36
  refine lv_istore_n (lv' := [(2, .int v_35), (1, .ref q_17), (0, .ref b)]) hx hb dL_build_35 rfl hl (by decide) rfl (fun ls hl => ?_)
  refine lv_iconst (v := (0 : Int32)) hx hb dL_build_36 (by decide) ?_
  refine lv_istore_n (lv' := [(3, .int (0 : Int32)), (2, .int v_35), (1, .ref q_17), (0, .ref b)]) hx hb dL_build_37 rfl hl (by decide) rfl (fun ls hl => ?_)
  obtain ⟨n_37, h⟩ := h
  exact L38 q_17 v_35 n_37 (0 : Int32) f_29 (((mc - 1) - ga_23) - ga_30) (((ms - 9) - gb_24) - gb_31) _ _ _ _ _ h hbc hbs hF hS (lv_sub hl [3, 2, 1, 0] rfl)
