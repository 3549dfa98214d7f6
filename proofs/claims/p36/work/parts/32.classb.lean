theorem dJx4a65c_grow_92f84_0 : decode cJx4a65c_grow_92f84 0 = .ok (.aload_n 0, 1) := by decide +kernel
theorem dJx4a65c_grow_92f84_1 : decode cJx4a65c_grow_92f84 1 = .ok (.getfield 9, 3) := by decide +kernel
theorem dJx4a65c_grow_92f84_4 : decode cJx4a65c_grow_92f84 4 = .ok (.arraylength, 1) := by decide +kernel
theorem dJx4a65c_grow_92f84_5 : decode cJx4a65c_grow_92f84 5 = .ok (.istore_n 2, 1) := by decide +kernel
theorem dJx4a65c_grow_92f84_6 : decode cJx4a65c_grow_92f84 6 = .ok (.iload_n 2, 1) := by decide +kernel
theorem dJx4a65c_grow_92f84_7 : decode cJx4a65c_grow_92f84 7 = .ok (.ifCond .gt 13, 3) := by decide +kernel
theorem dJx4a65c_grow_92f84_10 : decode cJx4a65c_grow_92f84 10 = .ok (.aload_n 0, 1) := by decide +kernel
theorem dJx4a65c_grow_92f84_11 : decode cJx4a65c_grow_92f84 11 = .ok (.getfield 9, 3) := by decide +kernel
theorem dJx4a65c_grow_92f84_14 : decode cJx4a65c_grow_92f84 14 = .ok (.getstatic 39, 3) := by decide +kernel
theorem dJx4a65c_grow_92f84_17 : decode cJx4a65c_grow_92f84 17 = .ok (.if_acmp .eq 28, 3) := by decide +kernel
theorem dJx4a65c_grow_92f84_20 : decode cJx4a65c_grow_92f84 20 = .ok (.iload_n 2, 1) := by decide +kernel
theorem dJx4a65c_grow_92f84_21 : decode cJx4a65c_grow_92f84 21 = .ok (.iload_n 1, 1) := by decide +kernel
theorem dJx4a65c_grow_92f84_22 : decode cJx4a65c_grow_92f84 22 = .ok (.iload_n 2, 1) := by decide +kernel
theorem dJx4a65c_grow_92f84_23 : decode cJx4a65c_grow_92f84 23 = .ok (.isub, 1) := by decide +kernel
theorem dJx4a65c_grow_92f84_24 : decode cJx4a65c_grow_92f84 24 = .ok (.iload_n 2, 1) := by decide +kernel
theorem dJx4a65c_grow_92f84_25 : decode cJx4a65c_grow_92f84 25 = .ok (.iconst 1, 1) := by decide +kernel
theorem dJx4a65c_grow_92f84_26 : decode cJx4a65c_grow_92f84 26 = .ok (.ishr, 1) := by decide +kernel
theorem dJx4a65c_grow_92f84_27 : decode cJx4a65c_grow_92f84 27 = .ok (.invokestatic 73, 3) := by decide +kernel
theorem dJx4a65c_grow_92f84_30 : decode cJx4a65c_grow_92f84 30 = .ok (.istore_n 3, 1) := by decide +kernel
theorem dJx4a65c_grow_92f84_31 : decode cJx4a65c_grow_92f84 31 = .ok (.aload_n 0, 1) := by decide +kernel
theorem dJx4a65c_grow_92f84_32 : decode cJx4a65c_grow_92f84 32 = .ok (.aload_n 0, 1) := by decide +kernel
theorem dJx4a65c_grow_92f84_33 : decode cJx4a65c_grow_92f84 33 = .ok (.getfield 9, 3) := by decide +kernel
theorem dJx4a65c_grow_92f84_36 : decode cJx4a65c_grow_92f84 36 = .ok (.iload_n 3, 1) := by decide +kernel
theorem dJx4a65c_grow_92f84_37 : decode cJx4a65c_grow_92f84 37 = .ok (.invokestatic 66, 3) := by decide +kernel
theorem dJx4a65c_grow_92f84_40 : decode cJx4a65c_grow_92f84 40 = .ok (.dup_x1, 1) := by decide +kernel
theorem dJx4a65c_grow_92f84_41 : decode cJx4a65c_grow_92f84 41 = .ok (.putfield 9, 3) := by decide +kernel
theorem dJx4a65c_grow_92f84_44 : decode cJx4a65c_grow_92f84 44 = .ok (.areturn, 1) := by decide +kernel
theorem dJx4a65c_grow_92f84_45 : decode cJx4a65c_grow_92f84 45 = .ok (.aload_n 0, 1) := by decide +kernel
theorem dJx4a65c_grow_92f84_46 : decode cJx4a65c_grow_92f84 46 = .ok (.bipush 10, 2) := by decide +kernel
theorem dJx4a65c_grow_92f84_48 : decode cJx4a65c_grow_92f84 48 = .ok (.iload_n 1, 1) := by decide +kernel
theorem dJx4a65c_grow_92f84_49 : decode cJx4a65c_grow_92f84 49 = .ok (.invokestatic 79, 3) := by decide +kernel
theorem dJx4a65c_grow_92f84_52 : decode cJx4a65c_grow_92f84 52 = .ok (.anewarray 7, 3) := by decide +kernel
theorem dJx4a65c_grow_92f84_55 : decode cJx4a65c_grow_92f84 55 = .ok (.dup_x1, 1) := by decide +kernel
theorem dJx4a65c_grow_92f84_56 : decode cJx4a65c_grow_92f84 56 = .ok (.putfield 9, 3) := by decide +kernel
theorem dJx4a65c_grow_92f84_59 : decode cJx4a65c_grow_92f84 59 = .ok (.areturn, 1) := by decide +kernel
set_option maxRecDepth 20000 in
theorem ggJx4a65c_grow_92f84_J7_copyOf_1904c : GoodIn wsJx4a65c_grow_92f84 wsJ7_copyOf_1904c := goodIn_r _ [20, 21, 22, 23, 24, 25, 26, 19, 27, 28, 29, 30, 31, 5, 32, 33, 34, 35, 36] (by decide +kernel) (by decide +kernel)
set_option maxRecDepth 20000 in
theorem ggJx4a65c_grow_92f84_J8_newLength_cabcc : GoodIn wsJx4a65c_grow_92f84 wsJ8_newLength_cabcc := goodIn_r _ [11, 12, 4, 5, 6, 13, 14, 15, 10, 16] (by decide +kernel) (by decide +kernel)
def wp_Jx4a65c_grow_92f84_20 (zd : Nat) (a0 : Nat) (x1 : Int32) (y2 : Int32) (f : FT) (bc bs : Nat) (K : Nat → FT → Prop)  : Prop :=
  wp_J8_newLength_cabcc y2 (x1 - y2) (y2 >>> ((1 : Int32) &&& 31)) f (fun r_1 => gA f a0 2 1 fun a_2 => ∃ ga_6 gb_7 : Nat, ga_6 ≤ bc ∧ gb_7 ≤ bs ∧ wp_J7_copyOf_1904c zd a_2 r_1 f ga_6 gb_7 (fun a_4 f_5 => pV f_5 a0 2 1 (.ref a_4) fun f_11 => K a_4 f_11))
def wp_Jx4a65c_grow_92f84 (zd : Nat) (a0 : Nat) (x1 : Int32) (f : FT) (mc ms : Nat) (K : Nat → FT → Prop) : Prop :=
  gA f a0 2 1 fun a_12 => aLz zd f a_12 fun v_14 => (((0 : Int32) < v_14 → wp_Jx4a65c_grow_92f84_20 zd a0 x1 v_14 f mc ms K) ∧
 (¬ ((0 : Int32) < v_14) → gA f a0 2 1 fun a_16 => ((a_16 = zd → ∀ v_19 : Int32, v_19 = (jmax (10 : Int32) x1) → nRz zd f v_19 mc ms fun n_22 q_20 f_21 => pV f_21 a0 2 1 (.ref q_20) fun f_26 => K q_20 f_26) ∧
 (¬ a_16 = zd → wp_Jx4a65c_grow_92f84_20 zd a0 x1 v_14 f mc ms K))))
set_option maxHeartbeats 4000000 in
set_option maxRecDepth 100000 in
theorem cc_Jx4a65c_grow_92f84 (l : Launch) (G : GG) {zd : Nat} (hzd : G.2.2 0 = zd) {f : FT} {sz : Nat} {a0 : Nat} {x1 : Int32} {mc ms : Nat} {K : Nat → FT → Prop} (h : wp_Jx4a65c_grow_92f84 zd a0 x1 f mc ms K) : Met l yJx4a65c_grow_92f84 wsJx4a65c_grow_92f84 ({ frames := 3, cells := mc, slots := ms, locals := 84 } : Room) (FP G [.ref a0, .int x1] f sz) (va_Qq (fun r f9 => ∃ q, r = some q ∧ K q f9 : Option Nat → FT → Prop) (FB G (fA f sz)) (fA f sz)) mc ms (fA f sz) := by
  refine Met.ofW (cc := cJx4a65c_grow_92f84) (maxL := 4) (ret := (some (.array (.object "java/lang/Object")))) (by decide) rfl ?_
  intro p e s m args below meth c s₁ B hml hv
  obtain ⟨rfl, hsz, hF, hK, hZ⟩ := hv
  have hx := B.exec
  have hb := B.bytes
  have hr := B.returns
  have hts := atoms_spec (ws := wsJx4a65c_grow_92f84) B.pre
  have hown : s.vm.findClass RJx4a65c = some m.cls := findClass_of_methodNamed B.named
  have hlocks := B.notSynchronized
  subst hsz
  have hF := hF.self (sz := s.heap.size)
  generalize hAe : fA f s.heap.size = A at hF hZ ⊢
  have hA : ∀ q : Nat, s.heap.size ≤ q → A q := fun q h => by rw [← hAe]; exact Or.inr h
  have hS : va_S A s.heap s.heap [] := va_S.rf
  have hZ9 : va_Z "java/util/ArrayList" "DEFAULTCAPACITY_EMPTY_ELEMENTDATA" "[Ljava/lang/Object;" (.ref zd) A s s.heap := by rw [← hzd]; exact hZ.1
  have hin_Jx4a65c : ∀ w ∈ wsJx4a65c0, w ∈ wsJx4a65c_grow_92f84 := by decide +kernel
  have hbc : 0 + mc ≤ mc := by omega
  have hbs : 0 + ms ≤ ms := by omega
  have J20 : ∀ (y2 : Int32) (f : FT) (bc : Nat) (bs : Nat) (H : Heap) (locs : List Loc) (ls : Array Slot) (cs sl : Nat), wp_Jx4a65c_grow_92f84_20 zd a0 x1 y2 f bc bs K  → cs + bc ≤ mc → sl + bs ≤ ms → Fw G A f H → va_S A s.heap H locs → lv_has ls 4 [(0, .ref a0), (1, .int x1), (2, .int y2)] → W p l e ({ frames := 3, cells := mc, slots := ms, locals := 84 } : Room) s m ([.ref a0, .int x1] : List Value).toArray below meth c H locs cs sl (MQ below (va_Qq (fun r f9 => ∃ q, r = some q ∧ K q f9 : Option Nat → FT → Prop) (FB G A) A) ([.ref a0, .int x1] : List Value).toArray s mc ms A) (F0 m 20 ls []) := by
    intro y2 f bc bs H locs ls cs sl h hbc hbs hF hS hl
    unfold wp_Jx4a65c_grow_92f84_20 at h
    refine lv_iload_n hx hb dJx4a65c_grow_92f84_20 rfl (lv_at hl 2 rfl) ?_
    refine lv_iload_n hx hb dJx4a65c_grow_92f84_21 rfl (lv_at hl 1 rfl) ?_
    refine lv_iload_n hx hb dJx4a65c_grow_92f84_22 rfl (lv_at hl 2 rfl) ?_
    refine lv_isub hx hb dJx4a65c_grow_92f84_23 ?_
    refine lv_iload_n hx hb dJx4a65c_grow_92f84_24 rfl (lv_at hl 2 rfl) ?_
    refine lv_iconst (v := (1 : Int32)) hx hb dJx4a65c_grow_92f84_25 (by decide) ?_
    refine lv_ishr hx hb dJx4a65c_grow_92f84_26 ?_
    refine fw_cS_i_p (As := [.int y2, .int (x1 - y2), .int (y2 >>> ((1 : Int32) &&& 31))]) (rest := []) ⟨hx, hb, hml, hown, hts⟩ (cc_J8_newLength_cabcc l G h) (⟨callB_of 3 hts ggJx4a65c_grow_92f84_J8_newLength_cabcc rfl rfl rfl (hts (.initialized RJ8) (by decide +kernel)) (hts (.methodLink RJx4a65c 73 yJ8_newLength_cabcc) (by decide +kernel)) (by decide +kernel) ⟨Nat.le_of_ble_eq_true rfl, Nat.le_of_ble_eq_true rfl⟩, hts (.static yJ8_newLength_cabcc) (by decide +kernel)⟩) hK hZ hF hS hA rfl hl.1 rfl (Nat.le_of_ble_eq_true rfl) dJx4a65c_grow_92f84_27 ⟨by show _ ≤ mc; omega, by show _ ≤ ms; omega⟩ (fun r_1 H locs h hF hS => ?_)
    simp only [Nat.add_zero]
    refine lv_istore_n (lv' := [(3, .int r_1), (0, .ref a0), (1, .int x1), (2, .int y2)]) hx hb dJx4a65c_grow_92f84_30 rfl hl (by decide) rfl (fun ls hl => ?_)
    refine lv_aload_n hx hb dJx4a65c_grow_92f84_31 rfl (lv_at hl 1 rfl) ?_
    refine lv_aload_n hx hb dJx4a65c_grow_92f84_32 rfl (lv_at hl 1 rfl) ?_
    obtain ⟨fs_3, a_2, he_fs_3, hv_fs_3, h⟩ := h
    refine fw_get (C := RJx4a65c) (T := TJx4a65c) (N := 3) hx hb hts hin_Jx4a65c hown hK hF he_fs_3 rfl 1 (by decide) (hts (.fieldLink RJx4a65c 9 "java/util/ArrayList" "elementData" "[Ljava/lang/Object;") (by decide +kernel)) (fun _ h9 => h9) hv_fs_3 dJx4a65c_grow_92f84_33 ?_
    refine lv_iload_n hx hb dJx4a65c_grow_92f84_36 rfl (lv_at hl 0 rfl) ?_
    obtain ⟨ga_6, gb_7, hga_ga_6, hgb_ga_6, h⟩ := h
    refine fw_cS_q_w (As := [.ref a_2, .int r_1]) (rest := [.ref a0]) ⟨hx, hb, hml, hown, hts⟩ (cc_J7_copyOf_1904c l G hzd h) (⟨callB_of 2 hts ggJx4a65c_grow_92f84_J7_copyOf_1904c rfl rfl rfl (hts (.initialized RJ7) (by decide +kernel)) (hts (.methodLink RJx4a65c 66 yJ7_copyOf_1904c) (by decide +kernel)) (by decide +kernel) ⟨Nat.le_of_ble_eq_true rfl, Nat.le_of_ble_eq_true rfl⟩, hts (.static yJ7_copyOf_1904c) (by decide +kernel)⟩) hK hZ hF hS hA rfl hl.1 rfl (Nat.le_of_ble_eq_true rfl) dJx4a65c_grow_92f84_37 ⟨by show _ ≤ mc; omega, by show _ ≤ ms; omega⟩ (fun a_4 f_5 H locs h hF hS => ?_)
    obtain ⟨cs_8, hcs⟩ : ∃ z, z = (cs + ga_6) := ⟨_, rfl⟩; obtain ⟨sl_9, hsl⟩ : ∃ z, z = (sl + gb_7) := ⟨_, rfl⟩
    have hbc : cs_8 + (bc - ga_6) ≤ mc := by omega
    have hbs : sl_9 + (bs - gb_7) ≤ ms := by omega
    refine W.widen (k := cs_8) (n := sl_9) (by omega) (by omega) ?_
    clear hcs hsl
    refine lv_dup_x1 hx hb dJx4a65c_grow_92f84_40 rfl rfl ?_
    obtain ⟨fs_10, he_fs_10, hl_fs_10, h⟩ := h
    refine fw_put (v := .ref a_4) (ty := (.array (.object "java/lang/Object"))) (C := RJx4a65c) (T := TJx4a65c) (N := 3) hx hb hts hin_Jx4a65c tyJx4a65c (tyJx4a65c_ok) nmJx4a65c hown hK hF hS he_fs_10 rfl 1 (by decide) (hts (.fieldLink RJx4a65c 9 "java/util/ArrayList" "elementData" "[Ljava/lang/Object;") (by decide +kernel)) (fun _ h9 => h9) rfl (by decide +kernel) rfl rfl hl_fs_10 dJx4a65c_grow_92f84_41 (fun H locs hF hS => ?_)
    obtain ⟨f_11, hf_f_11⟩ : ∃ z, z = fup f_5 a0 (.inr (2, fs_10.set 1 (.ref a_4))) := ⟨_, rfl⟩
    rw [← hf_f_11] at hF; have h := h f_11 hf_f_11
    refine W.widen (k := mc) (n := ms) (by omega) (by omega) ?_
    exact W.aret (v := .ref a_4) hx hb hr (Or.inr ⟨_, rfl⟩) (Or.inr ⟨a_4, rfl⟩) (fun t ht hW => ⟨⟨some a_4, f_11, rfl, ⟨_, rfl, h⟩, by rw [ht]; exact hF, FK.moved hW.alike hK⟩, hS.F ht⟩) hS.2.2 dJx4a65c_grow_92f84_44
  have hl := lv_entry ([.ref a0, .int x1]) (n := 4) (Nat.le_of_ble_eq_true rfl)
  rw [lg_entry_eq]
  generalize (lg_sl ([.ref a0, .int x1]) ++ List.replicate (4 - (lg_sl ([.ref a0, .int x1])).length) Slot.unset).toArray = ls at hl ⊢
  have hl : lv_has ls 4 [(0, .ref a0), (1, .int x1)] := hl
  unfold wp_Jx4a65c_grow_92f84 at h
  refine lv_aload_n hx hb dJx4a65c_grow_92f84_0 rfl (lv_at hl 0 rfl) ?_
  obtain ⟨fs_13, a_12, he_fs_13, hv_fs_13, h⟩ := h
  refine fw_get (C := RJx4a65c) (T := TJx4a65c) (N := 3) hx hb hts hin_Jx4a65c hown hK hF he_fs_13 rfl 1 (by decide) (hts (.fieldLink RJx4a65c 9 "java/util/ArrayList" "elementData" "[Ljava/lang/Object;") (by decide +kernel)) (fun _ h9 => h9) hv_fs_13 dJx4a65c_grow_92f84_1 ?_
  refine fw_alenz hx hb hK hZ hF hS hzd h dJx4a65c_grow_92f84_4 (fun v_14 h => ?_)
  refine lv_istore_n (lv' := [(2, .int v_14), (0, .ref a0), (1, .int x1)]) hx hb dJx4a65c_grow_92f84_5 rfl hl (by decide) rfl (fun ls hl => ?_)
  refine lv_iload_n hx hb dJx4a65c_grow_92f84_6 rfl (lv_at hl 0 rfl) ?_
  obtain ⟨h1, h2⟩ := h
  refine lv_if_gt (tgt := 20) hx hb dJx4a65c_grow_92f84_7 (by decide) (fun c_15 => ?_) (fun c_15 => ?_)
  · have h := h1 c_15
    exact J20 v_14 f mc ms _ _ _ _ _ h hbc hbs hF hS (lv_sub hl [1, 2, 0] rfl)
  · have h := h2 c_15
    refine lv_aload_n hx hb dJx4a65c_grow_92f84_10 rfl (lv_at hl 1 rfl) ?_
    obtain ⟨fs_17, a_16, he_fs_17, hv_fs_17, h⟩ := h
    refine fw_get (C := RJx4a65c) (T := TJx4a65c) (N := 3) hx hb hts hin_Jx4a65c hown hK hF he_fs_17 rfl 1 (by decide) (hts (.fieldLink RJx4a65c 9 "java/util/ArrayList" "elementData" "[Ljava/lang/Object;") (by decide +kernel)) (fun _ h9 => h9) hv_fs_17 dJx4a65c_grow_92f84_11 ?_
    refine va_gets hx hb hZ9 hS hown (hts (.fieldLink RJx4a65c 39 "java/util/ArrayList" "DEFAULTCAPACITY_EMPTY_ELEMENTDATA" "[Ljava/lang/Object;") (by decide +kernel)) (fun _ h9 => h9) dJx4a65c_grow_92f84_14 ?_
    obtain ⟨h1, h2⟩ := h
    refine lv_acmp_eq (rx := some a_16) (ry := some zd) (tgt := 45) hx hb dJx4a65c_grow_92f84_17 (by decide) (fun c_18 => ?_) (fun c_18 => ?_)
    · have h := h1 (Option.some.inj c_18)
      refine lv_aload_n hx hb dJx4a65c_grow_92f84_45 rfl (lv_at hl 1 rfl) ?_
      refine lv_bipush (v := (10 : Int32)) hx hb dJx4a65c_grow_92f84_46 (by decide) ?_
      refine lv_iload_n hx hb dJx4a65c_grow_92f84_48 rfl (lv_at hl 2 rfl) ?_
      refine va_mmax hx hb (hml.trans hl.1.symm) hown (hts (.methodLink RJx4a65c 79 Lib.Math.max.name) (by decide +kernel)) (hts (.static Lib.Math.max.name) (by decide +kernel)) (hts (.initialized "java/lang/Math") (by decide +kernel)) (hts (.code Lib.Math.max.name Lib.Math.max.code 2 (some .int)) (by decide +kernel)) (Nat.le_of_ble_eq_true rfl) (Nat.le_of_ble_eq_true rfl) (by show _ ≤ mc; omega) (by show _ ≤ ms; omega) dJx4a65c_grow_92f84_49 ?_
      refine lv_topi (fun v_19 e_v_19 => ?_)
      have h := h v_19 e_v_19
      obtain ⟨hb0, n_22, hN, hb1, hb2, hb3, h⟩ := h
      refine fw_anew hx hb hown (hts (.classLink RJx4a65c 7 "java/lang/Object") (by decide +kernel)) hK hF hS hA hb0 hN (by omega) (by show _ ≤ mc; omega) (by show _ ≤ ms; omega) dJx4a65c_grow_92f84_52 (fun q_20 H hn_q_20 hF hS => ?_)
      obtain ⟨f_21, hf_f_21⟩ : ∃ z, z = fup f q_20 (.inl (2, (n_22, .inr (.inr (.inr (.inr (fun _ => none))))))) := ⟨_, rfl⟩
      have hne_q_20 : q_20 ≠ zd := fun e9 => hZ.2.2.2 (by rw [hzd, ← e9]; exact (Fw.in hF (fup_self _ _ _)).1)
      rw [← hf_f_21] at hF; have h := h q_20 hn_q_20 hne_q_20 f_21 hf_f_21
      obtain ⟨cs_23, hcs⟩ : ∃ z, z = (0 + 1) := ⟨_, rfl⟩; obtain ⟨sl_24, hsl⟩ : ∃ z, z = (0 + n_22) := ⟨_, rfl⟩
      have hbc : cs_23 + (mc - 1) ≤ mc := by omega
      have hbs : sl_24 + (ms - n_22) ≤ ms := by omega
      refine W.widen (k := cs_23) (n := sl_24) (by omega) (by omega) ?_
      clear hcs hsl
      refine lv_dup_x1 hx hb dJx4a65c_grow_92f84_55 rfl rfl ?_
      obtain ⟨fs_25, he_fs_25, hl_fs_25, h⟩ := h
      refine fw_put (v := .ref q_20) (ty := (.array (.object "java/lang/Object"))) (C := RJx4a65c) (T := TJx4a65c) (N := 3) hx hb hts hin_Jx4a65c tyJx4a65c (tyJx4a65c_ok) nmJx4a65c hown hK hF hS he_fs_25 rfl 1 (by decide) (hts (.fieldLink RJx4a65c 9 "java/util/ArrayList" "elementData" "[Ljava/lang/Object;") (by decide +kernel)) (fun _ h9 => h9) rfl (by decide +kernel) rfl rfl hl_fs_25 dJx4a65c_grow_92f84_56 (fun H locs hF hS => ?_)
      obtain ⟨f_26, hf_f_26⟩ : ∃ z, z = fup f_21 a0 (.inr (2, fs_25.set 1 (.ref q_20))) := ⟨_, rfl⟩
      rw [← hf_f_26] at hF; have h := h f_26 hf_f_26
      refine W.widen (k := mc) (n := ms) (by omega) (by omega) ?_
      exact W.aret (v := .ref q_20) hx hb hr (Or.inr ⟨_, rfl⟩) (Or.inr ⟨q_20, rfl⟩) (fun t ht hW => ⟨⟨some q_20, f_26, rfl, ⟨_, rfl, h⟩, by rw [ht]; exact hF, FK.moved hW.alike hK⟩, hS.F ht⟩) hS.2.2 dJx4a65c_grow_92f84_59
    · have h := h2 (fun e9 => c_18 (congrArg some e9))
      exact J20 v_14 f mc ms _ _ _ _ _ h hbc hbs hF hS (lv_sub hl [1, 2, 0] rfl)
theorem dJx4a65c_grow_d5877_0 : decode cJx4a65c_grow_d5877 0 = .ok (.aload_n 0, 1) := by decide +kernel
theorem dJx4a65c_grow_d5877_1 : decode cJx4a65c_grow_d5877 1 = .ok (.aload_n 0, 1) := by decide +kernel
theorem dJx4a65c_grow_d5877_2 : decode cJx4a65c_grow_d5877 2 = .ok (.getfield 48, 3) := by decide +kernel
theorem dJx4a65c_grow_d5877_5 : decode cJx4a65c_grow_d5877 5 = .ok (.iconst 1, 1) := by decide +kernel
theorem dJx4a65c_grow_d5877_6 : decode cJx4a65c_grow_d5877 6 = .ok (.iadd, 1) := by decide +kernel
theorem dJx4a65c_grow_d5877_7 : decode cJx4a65c_grow_d5877 7 = .ok (.invokevirtual 69, 3) := by decide +kernel
theorem dJx4a65c_grow_d5877_10 : decode cJx4a65c_grow_d5877 10 = .ok (.areturn, 1) := by decide +kernel
set_option maxRecDepth 20000 in
theorem ggJx4a65c_grow_d5877_Jx4a65c_grow_92f84 : GoodIn wsJx4a65c_grow_d5877 wsJx4a65c_grow_92f84 := goodIn_r _ [6, 7, 8, 9, 10, 11, 12, 13, 14, 15, 16, 17, 18, 19, 20, 21, 22, 23, 24, 25, 26, 27, 28, 29, 30, 31, 32, 33, 34, 35, 36, 37, 38, 39, 40, 41, 42, 43, 44, 45] (by decide +kernel) (by decide +kernel)
def wp_Jx4a65c_grow_d5877 (zd : Nat) (a0 : Nat) (f : FT) (mc ms : Nat) (K : Nat → FT → Prop) : Prop :=
  gI f a0 2 2 fun v_1 => ∃ ga_5 gb_6 : Nat, ga_5 ≤ mc ∧ gb_6 ≤ ms ∧ isO f a0 2 ∧ wp_Jx4a65c_grow_92f84 zd a0 (v_1 + (1 : Int32)) f ga_5 gb_6 (fun a_3 f_4 => K a_3 f_4)
set_option maxHeartbeats 4000000 in
set_option maxRecDepth 100000 in
theorem cc_Jx4a65c_grow_d5877 (l : Launch) (G : GG) {zd : Nat} (hzd : G.2.2 0 = zd) {f : FT} {sz : Nat} {a0 : Nat} {mc ms : Nat} {K : Nat → FT → Prop} (h : wp_Jx4a65c_grow_d5877 zd a0 f mc ms K) : Met l yJx4a65c_grow_d5877 wsJx4a65c_grow_d5877 ({ frames := 4, cells := mc, slots := ms, locals := 107 } : Room) (FP G [.ref a0] f sz) (va_Qq (fun r f9 => ∃ q, r = some q ∧ K q f9 : Option Nat → FT → Prop) (FB G (fA f sz)) (fA f sz)) mc ms (fA f sz) := by
  refine Met.ofW (cc := cJx4a65c_grow_d5877) (maxL := 1) (ret := (some (.array (.object "java/lang/Object")))) (by decide) rfl ?_
  intro p e s m args below meth c s₁ B hml hv
  obtain ⟨rfl, hsz, hF, hK, hZ⟩ := hv
  have hx := B.exec
  have hb := B.bytes
  have hr := B.returns
  have hts := atoms_spec (ws := wsJx4a65c_grow_d5877) B.pre
  have hown : s.vm.findClass RJx4a65c = some m.cls := findClass_of_methodNamed B.named
  have hlocks := B.notSynchronized
  subst hsz
  have hF := hF.self (sz := s.heap.size)
  generalize hAe : fA f s.heap.size = A at hF hZ ⊢
  have hA : ∀ q : Nat, s.heap.size ≤ q → A q := fun q h => by rw [← hAe]; exact Or.inr h
  have hS : va_S A s.heap s.heap [] := va_S.rf
  have hZ9 : va_Z "java/util/ArrayList" "DEFAULTCAPACITY_EMPTY_ELEMENTDATA" "[Ljava/lang/Object;" (.ref zd) A s s.heap := by rw [← hzd]; exact hZ.1
  have hin_Jx4a65c : ∀ w ∈ wsJx4a65c0, w ∈ wsJx4a65c_grow_d5877 := by decide +kernel
  have hbc : 0 + mc ≤ mc := by omega
  have hbs : 0 + ms ≤ ms := by omega
  have hl := lv_entry ([.ref a0]) (n := 1) (Nat.le_of_ble_eq_true rfl)
  rw [lg_entry_eq]
  generalize (lg_sl ([.ref a0]) ++ List.replicate (1 - (lg_sl ([.ref a0])).length) Slot.unset).toArray = ls at hl ⊢
  have hl : lv_has ls 1 [(0, .ref a0)] := hl
  unfold wp_Jx4a65c_grow_d5877 at h
  refine lv_aload_n hx hb dJx4a65c_grow_d5877_0 rfl (lv_at hl 0 rfl) ?_
  refine lv_aload_n hx hb dJx4a65c_grow_d5877_1 rfl (lv_at hl 0 rfl) ?_
  obtain ⟨fs_2, v_1, he_fs_2, hv_fs_2, h⟩ := h
  refine fw_get (C := RJx4a65c) (T := TJx4a65c) (N := 3) hx hb hts hin_Jx4a65c hown hK hF he_fs_2 rfl 2 (by decide) (hts (.fieldLink RJx4a65c 48 "java/util/ArrayList" "size" "I") (by decide +kernel)) (fun _ h9 => h9) hv_fs_2 dJx4a65c_grow_d5877_2 ?_
  refine lv_iconst (v := (1 : Int32)) hx hb dJx4a65c_grow_d5877_5 (by decide) ?_
  refine lv_iadd hx hb dJx4a65c_grow_d5877_6 ?_
  obtain ⟨ga_5, gb_6, hga_ga_5, hgb_ga_5, h⟩ := h
  obtain ⟨⟨fs_a_3, hrc_a_3⟩, h⟩ := h
  refine fw_cV_q_w (As := [.int (v_1 + (1 : Int32))]) (rest := []) ⟨hx, hb, hml, hown, hts⟩ (cc_Jx4a65c_grow_92f84 l G hzd h) (⟨callB_of 1 hts ggJx4a65c_grow_d5877_Jx4a65c_grow_92f84 rfl rfl rfl (hts (.initialized RJx4a65c) (by decide +kernel)) (hts (.methodLink RJx4a65c 69 yJx4a65c_grow_92f84) (by decide +kernel)) (by decide +kernel) ⟨Nat.le_of_ble_eq_true rfl, Nat.le_of_ble_eq_true rfl⟩, hts (.instanceMethod yJx4a65c_grow_92f84) (by decide +kernel), hts (.selects RJx4a65c yJx4a65c_grow_92f84 yJx4a65c_grow_92f84) (by decide +kernel)⟩) rfl hrc_a_3 hK hZ hF hS hA rfl hl.1 rfl (Nat.le_of_ble_eq_true rfl) dJx4a65c_grow_d5877_7 ⟨by show _ ≤ mc; omega, by show _ ≤ ms; omega⟩ (fun a_3 f_4 H locs h hF hS => ?_)
  obtain ⟨cs_7, hcs⟩ : ∃ z, z = (0 + ga_5) := ⟨_, rfl⟩; obtain ⟨sl_8, hsl⟩ : ∃ z, z = (0 + gb_6) := ⟨_, rfl⟩
  have hbc : cs_7 + (mc - ga_5) ≤ mc := by omega
  have hbs : sl_8 + (ms - gb_6) ≤ ms := by omega
  refine W.widen (k := cs_7) (n := sl_8) (by omega) (by omega) ?_
  clear hcs hsl
  refine W.widen (k := mc) (n := ms) (by omega) (by omega) ?_
  exact W.aret (v := .ref a_3) hx hb hr (Or.inr ⟨_, rfl⟩) (Or.inr ⟨a_3, rfl⟩) (fun t ht hW => ⟨⟨some a_3, f_4, rfl, ⟨_, rfl, h⟩, by rw [ht]; exact hF, FK.moved hW.alike hK⟩, hS.F ht⟩) hS.2.2 dJx4a65c_grow_d5877_10
theorem dJx4a65c_add_7a177_0 : decode cJx4a65c_add_7a177 0 = .ok (.aload_n 0, 1) := by decide +kernel
theorem dJx4a65c_add_7a177_1 : decode cJx4a65c_add_7a177 1 = .ok (.iload_n 1, 1) := by decide +kernel
theorem dJx4a65c_add_7a177_2 : decode cJx4a65c_add_7a177 2 = .ok (.invokevirtual 135, 3) := by decide +kernel
theorem dJx4a65c_add_7a177_5 : decode cJx4a65c_add_7a177 5 = .ok (.aload_n 0, 1) := by decide +kernel
theorem dJx4a65c_add_7a177_6 : decode cJx4a65c_add_7a177 6 = .ok (.dup, 1) := by decide +kernel
theorem dJx4a65c_add_7a177_7 : decode cJx4a65c_add_7a177 7 = .ok (.getfield 63, 3) := by decide +kernel
theorem dJx4a65c_add_7a177_10 : decode cJx4a65c_add_7a177 10 = .ok (.iconst 1, 1) := by decide +kernel
theorem dJx4a65c_add_7a177_11 : decode cJx4a65c_add_7a177 11 = .ok (.iadd, 1) := by decide +kernel
theorem dJx4a65c_add_7a177_12 : decode cJx4a65c_add_7a177 12 = .ok (.putfield 63, 3) := by decide +kernel
theorem dJx4a65c_add_7a177_15 : decode cJx4a65c_add_7a177 15 = .ok (.aload_n 0, 1) := by decide +kernel
theorem dJx4a65c_add_7a177_16 : decode cJx4a65c_add_7a177 16 = .ok (.getfield 48, 3) := by decide +kernel
theorem dJx4a65c_add_7a177_19 : decode cJx4a65c_add_7a177 19 = .ok (.dup, 1) := by decide +kernel
theorem dJx4a65c_add_7a177_20 : decode cJx4a65c_add_7a177 20 = .ok (.istore_n 3, 1) := by decide +kernel
theorem dJx4a65c_add_7a177_21 : decode cJx4a65c_add_7a177 21 = .ok (.aload_n 0, 1) := by decide +kernel
theorem dJx4a65c_add_7a177_22 : decode cJx4a65c_add_7a177 22 = .ok (.getfield 9, 3) := by decide +kernel
theorem dJx4a65c_add_7a177_25 : decode cJx4a65c_add_7a177 25 = .ok (.dup, 1) := by decide +kernel
theorem dJx4a65c_add_7a177_26 : decode cJx4a65c_add_7a177 26 = .ok (.astore 4, 2) := by decide +kernel
theorem dJx4a65c_add_7a177_28 : decode cJx4a65c_add_7a177 28 = .ok (.arraylength, 1) := by decide +kernel
theorem dJx4a65c_add_7a177_29 : decode cJx4a65c_add_7a177 29 = .ok (.if_icmp .ne 9, 3) := by decide +kernel
theorem dJx4a65c_add_7a177_32 : decode cJx4a65c_add_7a177 32 = .ok (.aload_n 0, 1) := by decide +kernel
theorem dJx4a65c_add_7a177_33 : decode cJx4a65c_add_7a177 33 = .ok (.invokevirtual 129, 3) := by decide +kernel
theorem dJx4a65c_add_7a177_36 : decode cJx4a65c_add_7a177 36 = .ok (.astore 4, 2) := by decide +kernel
theorem dJx4a65c_add_7a177_38 : decode cJx4a65c_add_7a177 38 = .ok (.aload 4, 2) := by decide +kernel
theorem dJx4a65c_add_7a177_40 : decode cJx4a65c_add_7a177 40 = .ok (.iload_n 1, 1) := by decide +kernel
theorem dJx4a65c_add_7a177_41 : decode cJx4a65c_add_7a177 41 = .ok (.aload 4, 2) := by decide +kernel
theorem dJx4a65c_add_7a177_43 : decode cJx4a65c_add_7a177 43 = .ok (.iload_n 1, 1) := by decide +kernel
theorem dJx4a65c_add_7a177_44 : decode cJx4a65c_add_7a177 44 = .ok (.iconst 1, 1) := by decide +kernel
theorem dJx4a65c_add_7a177_45 : decode cJx4a65c_add_7a177 45 = .ok (.iadd, 1) := by decide +kernel
theorem dJx4a65c_add_7a177_46 : decode cJx4a65c_add_7a177 46 = .ok (.iload_n 3, 1) := by decide +kernel
theorem dJx4a65c_add_7a177_47 : decode cJx4a65c_add_7a177 47 = .ok (.iload_n 1, 1) := by decide +kernel
theorem dJx4a65c_add_7a177_48 : decode cJx4a65c_add_7a177 48 = .ok (.isub, 1) := by decide +kernel
theorem dJx4a65c_add_7a177_49 : decode cJx4a65c_add_7a177 49 = .ok (.invokestatic 112, 3) := by decide +kernel
theorem dJx4a65c_add_7a177_52 : decode cJx4a65c_add_7a177 52 = .ok (.aload 4, 2) := by decide +kernel
theorem dJx4a65c_add_7a177_54 : decode cJx4a65c_add_7a177 54 = .ok (.iload_n 1, 1) := by decide +kernel
theorem dJx4a65c_add_7a177_55 : decode cJx4a65c_add_7a177 55 = .ok (.aload_n 2, 1) := by decide +kernel
theorem dJx4a65c_add_7a177_56 : decode cJx4a65c_add_7a177 56 = .ok (.aastore, 1) := by decide +kernel
theorem dJx4a65c_add_7a177_57 : decode cJx4a65c_add_7a177 57 = .ok (.aload_n 0, 1) := by decide +kernel
theorem dJx4a65c_add_7a177_58 : decode cJx4a65c_add_7a177 58 = .ok (.iload_n 3, 1) := by decide +kernel
theorem dJx4a65c_add_7a177_59 : decode cJx4a65c_add_7a177 59 = .ok (.iconst 1, 1) := by decide +kernel
theorem dJx4a65c_add_7a177_60 : decode cJx4a65c_add_7a177 60 = .ok (.iadd, 1) := by decide +kernel
theorem dJx4a65c_add_7a177_61 : decode cJx4a65c_add_7a177 61 = .ok (.putfield 48, 3) := by decide +kernel
theorem dJx4a65c_add_7a177_64 : decode cJx4a65c_add_7a177 64 = .ok (.return_, 1) := by decide +kernel
set_option maxRecDepth 20000 in
theorem ggJx4a65c_add_7a177_Jx4a65c_grow_d5877 : GoodIn wsJx4a65c_add_7a177 wsJx4a65c_grow_d5877 := goodIn_r _ [17, 3, 18, 19, 20, 12, 21, 4, 22, 23, 24, 25, 26, 27, 28, 29, 30, 31, 32, 33, 34, 35, 36, 37, 38, 39, 40, 41, 42, 43, 44, 45, 46, 47, 48, 49, 50, 51, 52, 53, 6, 7, 8, 54, 55, 56] (by decide +kernel) (by decide +kernel)
set_option maxRecDepth 20000 in
theorem ggJx4a65c_add_7a177_Jx4a65c_rangeCheckForAdd_d00df : GoodIn wsJx4a65c_add_7a177 wsJx4a65c_rangeCheckForAdd_d00df := goodIn_r _ [13, 3, 54, 55, 56] (by decide +kernel) (by decide +kernel)
def wp_Jx4a65c_add_7a177_38 (zd : Nat) (a0 : Nat) (x1 : Int32) (a2 : Nat) (y3 : Int32) (o4 : Nat) (f : FT) (bc bs : Nat) (K : FT → Prop)  : Prop :=
  cR f o4 x1 o4 (x1 + (1 : Int32)) (y3 - x1) fun f_2 => sA f_2 o4 x1 a2 fun f_4 => pV f_4 a0 2 2 (.int (y3 + (1 : Int32))) fun f_6 => K f_6
def wp_Jx4a65c_add_7a177 (zd : Nat) (a0 : Nat) (x1 : Int32) (a2 : Nat) (f : FT) (mc ms : Nat) (K : FT → Prop) : Prop :=
  isO f a0 2 ∧ wp_Jx4a65c_rangeCheckForAdd_d00df a0 x1 f (gI f a0 2 0 fun v_8 => pV f a0 2 0 (.int (v_8 + (1 : Int32))) fun f_11 => gI f_11 a0 2 2 fun v_12 => gA f_11 a0 2 1 fun a_14 => aLz zd f_11 a_14 fun v_16 => ((¬ v_12 = v_16 → wp_Jx4a65c_add_7a177_38 zd a0 x1 a2 v_12 a_14 f_11 mc ms K) ∧
 (v_12 = v_16 → ∃ ga_20 gb_21 : Nat, ga_20 ≤ mc ∧ gb_21 ≤ ms ∧ isO f_11 a0 2 ∧ wp_Jx4a65c_grow_d5877 zd a0 f_11 ga_20 gb_21 (fun a_18 f_19 => wp_Jx4a65c_add_7a177_38 zd a0 x1 a2 v_12 a_18 f_19 (mc - ga_20) (ms - gb_21) K))))
set_option maxHeartbeats 4000000 in
set_option maxRecDepth 100000 in
theorem cc_Jx4a65c_add_7a177 (l : Launch) (G : GG) {zd : Nat} (hzd : G.2.2 0 = zd) {f : FT} {sz : Nat} {a0 : Nat} {x1 : Int32} {a2 : Nat} {mc ms : Nat} {K : FT → Prop} (h : wp_Jx4a65c_add_7a177 zd a0 x1 a2 f mc ms K) : Met l yJx4a65c_add_7a177 wsJx4a65c_add_7a177 ({ frames := 5, cells := mc, slots := ms, locals := 127 } : Room) (FP G [.ref a0, .int x1, .ref a2] f sz) (va_Qv (fun f9 => K f9 : FT → Prop) (FB G (fA f sz)) (fA f sz)) mc ms (fA f sz) := by
  refine Met.ofW (cc := cJx4a65c_add_7a177) (maxL := 5) (ret := none) (by decide) rfl ?_
  intro p e s m args below meth c s₁ B hml hv
  obtain ⟨rfl, hsz, hF, hK, hZ⟩ := hv
  have hx := B.exec
  have hb := B.bytes
  have hr := B.returns
  have hts := atoms_spec (ws := wsJx4a65c_add_7a177) B.pre
  have hown : s.vm.findClass RJx4a65c = some m.cls := findClass_of_methodNamed B.named
  have hlocks := B.notSynchronized
  subst hsz
  have hF := hF.self (sz := s.heap.size)
  generalize hAe : fA f s.heap.size = A at hF hZ ⊢
  have hA : ∀ q : Nat, s.heap.size ≤ q → A q := fun q h => by rw [← hAe]; exact Or.inr h
  have hS : va_S A s.heap s.heap [] := va_S.rf
  have hZ9 : va_Z "java/util/ArrayList" "DEFAULTCAPACITY_EMPTY_ELEMENTDATA" "[Ljava/lang/Object;" (.ref zd) A s s.heap := by rw [← hzd]; exact hZ.1
  have hin_Jx4a65c : ∀ w ∈ wsJx4a65c0, w ∈ wsJx4a65c_add_7a177 := by decide +kernel
  have hbc : 0 + mc ≤ mc := by omega
  have hbs : 0 + ms ≤ ms := by omega
  have J38 : ∀ (y3 : Int32) (o4 : Nat) (f : FT) (bc : Nat) (bs : Nat) (H : Heap) (locs : List Loc) (ls : Array Slot) (cs sl : Nat), wp_Jx4a65c_add_7a177_38 zd a0 x1 a2 y3 o4 f bc bs K  → cs + bc ≤ mc → sl + bs ≤ ms → Fw G A f H → va_S A s.heap H locs → lv_has ls 5 [(0, .ref a0), (1, .int x1), (2, .ref a2), (3, .int y3), (4, .ref o4)] → W p l e ({ frames := 5, cells := mc, slots := ms, locals := 127 } : Room) s m ([.ref a0, .int x1, .ref a2] : List Value).toArray below meth c H locs cs sl (MQ below (va_Qv (fun f9 => K f9 : FT → Prop) (FB G A) A) ([.ref a0, .int x1, .ref a2] : List Value).toArray s mc ms A) (F0 m 38 ls []) := by
    intro y3 o4 f bc bs H locs ls cs sl h hbc hbs hF hS hl
    unfold wp_Jx4a65c_add_7a177_38 at h
    refine lv_aload hx hb dJx4a65c_add_7a177_38 (lv_at hl 4 rfl) ?_
    refine lv_iload_n hx hb dJx4a65c_add_7a177_40 rfl (lv_at hl 1 rfl) ?_
    refine lv_aload hx hb dJx4a65c_add_7a177_41 (lv_at hl 4 rfl) ?_
    refine lv_iload_n hx hb dJx4a65c_add_7a177_43 rfl (lv_at hl 1 rfl) ?_
    refine lv_iconst (v := (1 : Int32)) hx hb dJx4a65c_add_7a177_44 (by decide) ?_
    refine lv_iadd hx hb dJx4a65c_add_7a177_45 ?_
    refine lv_iload_n hx hb dJx4a65c_add_7a177_46 rfl (lv_at hl 3 rfl) ?_
    refine lv_iload_n hx hb dJx4a65c_add_7a177_47 rfl (lv_at hl 1 rfl) ?_
    refine lv_isub hx hb dJx4a65c_add_7a177_48 ?_
    obtain ⟨n0_q_1, n1_q_1, g0_q_1, g1_q_1, he0_q_1, he1_q_1, hc1_q_1, hc2_q_1, hc3_q_1, hc4_q_1, hc5_q_1, hel_q_1, h⟩ := h
    refine fw_copyR hx hb (hml.trans hl.1.symm) hown (hts (.methodLink RJx4a65c 112 arraycopyName) (by decide +kernel)) (hts (.native arraycopyName) (by decide +kernel)) (hts (.static arraycopyName) (by decide +kernel)) (hts (.initialized "java/lang/System") (by decide +kernel)) hK hF hS he0_q_1 he1_q_1 hc1_q_1 hc2_q_1 hc3_q_1 hc4_q_1 hc5_q_1 hel_q_1 (Nat.le_of_ble_eq_true rfl) (Nat.le_of_ble_eq_true rfl) dJx4a65c_add_7a177_49 (fun H locs hF hS => ?_)
    obtain ⟨f_2, hf_f_2⟩ : ∃ z, z = fup f o4 (.inl (2, n1_q_1, .inr (.inr (.inr (.inr (va_cpy g0_q_1 g1_q_1 (x1).toNatClampNeg ((x1 + (1 : Int32))).toNatClampNeg ((y3 - x1)).toNatClampNeg)))))) := ⟨_, rfl⟩
    rw [← hf_f_2] at hF; have h := h f_2 hf_f_2
    refine lv_aload hx hb dJx4a65c_add_7a177_52 (lv_at hl 4 rfl) ?_
    refine lv_iload_n hx hb dJx4a65c_add_7a177_54 rfl (lv_at hl 1 rfl) ?_
    refine lv_aload_n hx hb dJx4a65c_add_7a177_55 rfl (lv_at hl 2 rfl) ?_
    obtain ⟨n_q_3, q_3, ci_q_3, vs_q_3, he_q_3, hi_q_3, hv_q_3, hci_q_3, h⟩ := h
    refine fw_aast hx hb hK hF hS he_q_3 hv_q_3 hci_q_3 hi_q_3 dJx4a65c_add_7a177_56 (fun H locs hF hS => ?_)
    obtain ⟨f_4, hf_f_4⟩ : ∃ z, z = fup f_2 o4 (.inl (2, n_q_3, .inr (.inr (.inr (.inr (va_up q_3 (x1).toNatClampNeg (some a2))))))) := ⟨_, rfl⟩
    rw [← hf_f_4] at hF; have h := h f_4 hf_f_4
    refine lv_aload_n hx hb dJx4a65c_add_7a177_57 rfl (lv_at hl 0 rfl) ?_
    refine lv_iload_n hx hb dJx4a65c_add_7a177_58 rfl (lv_at hl 3 rfl) ?_
    refine lv_iconst (v := (1 : Int32)) hx hb dJx4a65c_add_7a177_59 (by decide) ?_
    refine lv_iadd hx hb dJx4a65c_add_7a177_60 ?_
    obtain ⟨fs_5, he_fs_5, hl_fs_5, h⟩ := h
    refine fw_put (v := .int (y3 + (1 : Int32))) (ty := .int) (C := RJx4a65c) (T := TJx4a65c) (N := 3) hx hb hts hin_Jx4a65c tyJx4a65c (tyJx4a65c_ok) nmJx4a65c hown hK hF hS he_fs_5 rfl 2 (by decide) (hts (.fieldLink RJx4a65c 48 "java/util/ArrayList" "size" "I") (by decide +kernel)) (fun _ h9 => h9) rfl (by decide +kernel) rfl rfl hl_fs_5 dJx4a65c_add_7a177_61 (fun H locs hF hS => ?_)
    obtain ⟨f_6, hf_f_6⟩ : ∃ z, z = fup f_4 a0 (.inr (2, fs_5.set 2 (.int (y3 + (1 : Int32))))) := ⟨_, rfl⟩
    rw [← hf_f_6] at hF; have h := h f_6 hf_f_6
    refine W.widen (k := mc) (n := ms) (by omega) (by omega) ?_
    exact W.vret hx hb hr (fun t ht hW => ⟨⟨f_6, rfl, h, by rw [ht]; exact hF, FK.moved hW.alike hK⟩, hS.F ht⟩) hS.2.2 dJx4a65c_add_7a177_64
  have hl := lv_entry ([.ref a0, .int x1, .ref a2]) (n := 5) (Nat.le_of_ble_eq_true rfl)
  rw [lg_entry_eq]
  generalize (lg_sl ([.ref a0, .int x1, .ref a2]) ++ List.replicate (5 - (lg_sl ([.ref a0, .int x1, .ref a2])).length) Slot.unset).toArray = ls at hl ⊢
  have hl : lv_has ls 5 [(0, .ref a0), (1, .int x1), (2, .ref a2)] := hl
  unfold wp_Jx4a65c_add_7a177 at h
  refine lv_aload_n hx hb dJx4a65c_add_7a177_0 rfl (lv_at hl 0 rfl) ?_
  refine lv_iload_n hx hb dJx4a65c_add_7a177_1 rfl (lv_at hl 1 rfl) ?_
  obtain ⟨⟨fs_u_7, hrc_u_7⟩, h⟩ := h
  refine fw_cV_v_p (As := [.int x1]) (rest := []) ⟨hx, hb, hml, hown, hts⟩ (cc_Jx4a65c_rangeCheckForAdd_d00df l G h) (⟨callB_of 1 hts ggJx4a65c_add_7a177_Jx4a65c_rangeCheckForAdd_d00df rfl rfl rfl (hts (.initialized RJx4a65c) (by decide +kernel)) (hts (.methodLink RJx4a65c 135 yJx4a65c_rangeCheckForAdd_d00df) (by decide +kernel)) (by decide +kernel) ⟨Nat.le_of_ble_eq_true rfl, Nat.le_of_ble_eq_true rfl⟩, hts (.instanceMethod yJx4a65c_rangeCheckForAdd_d00df) (by decide +kernel), hts (.selects RJx4a65c yJx4a65c_rangeCheckForAdd_d00df yJx4a65c_rangeCheckForAdd_d00df) (by decide +kernel)⟩) rfl hrc_u_7 hK hZ hF hS hA rfl hl.1 rfl (Nat.le_of_ble_eq_true rfl) dJx4a65c_add_7a177_2 ⟨by show _ ≤ mc; omega, by show _ ≤ ms; omega⟩ (fun  H locs h hF hS => ?_)
  simp only [Nat.add_zero]
  refine lv_aload_n hx hb dJx4a65c_add_7a177_5 rfl (lv_at hl 0 rfl) ?_
  refine lv_dup hx hb dJx4a65c_add_7a177_6 rfl ?_
  obtain ⟨fs_9, v_8, he_fs_9, hv_fs_9, h⟩ := h
  refine fw_get (C := RJx4a65c) (T := TJx4a65c) (N := 3) hx hb hts hin_Jx4a65c hown hK hF he_fs_9 rfl 0 (by decide) (hts (.fieldLink RJx4a65c 63 "java/util/ArrayList" "modCount" "I") (by decide +kernel)) (fun x9 h9 => u_same (hts (.sameField "java/util/ArrayList" "java/util/AbstractList" "modCount" "I") (by decide +kernel)) x9 h9) hv_fs_9 dJx4a65c_add_7a177_7 ?_
  refine lv_iconst (v := (1 : Int32)) hx hb dJx4a65c_add_7a177_10 (by decide) ?_
  refine lv_iadd hx hb dJx4a65c_add_7a177_11 ?_
  obtain ⟨fs_10, he_fs_10, hl_fs_10, h⟩ := h
  refine fw_put (v := .int (v_8 + (1 : Int32))) (ty := .int) (C := RJx4a65c) (T := TJx4a65c) (N := 3) hx hb hts hin_Jx4a65c tyJx4a65c (tyJx4a65c_ok) nmJx4a65c hown hK hF hS he_fs_10 rfl 0 (by decide) (hts (.fieldLink RJx4a65c 63 "java/util/ArrayList" "modCount" "I") (by decide +kernel)) (fun x9 h9 => u_same (hts (.sameField "java/util/ArrayList" "java/util/AbstractList" "modCount" "I") (by decide +kernel)) x9 h9) rfl (by decide +kernel) rfl rfl hl_fs_10 dJx4a65c_add_7a177_12 (fun H locs hF hS => ?_)
  obtain ⟨f_11, hf_f_11⟩ : ∃ z, z = fup f a0 (.inr (2, fs_10.set 0 (.int (v_8 + (1 : Int32))))) := ⟨_, rfl⟩
  rw [← hf_f_11] at hF; have h := h f_11 hf_f_11
  refine lv_aload_n hx hb dJx4a65c_add_7a177_15 rfl (lv_at hl 0 rfl) ?_
  obtain ⟨fs_13, v_12, he_fs_13, hv_fs_13, h⟩ := h
  refine fw_get (C := RJx4a65c) (T := TJx4a65c) (N := 3) hx hb hts hin_Jx4a65c hown hK hF he_fs_13 rfl 2 (by decide) (hts (.fieldLink RJx4a65c 48 "java/util/ArrayList" "size" "I") (by decide +kernel)) (fun _ h9 => h9) hv_fs_13 dJx4a65c_add_7a177_16 ?_
  refine lv_dup hx hb dJx4a65c_add_7a177_19 rfl ?_
  refine lv_istore_n (lv' := [(3, .int v_12), (0, .ref a0), (1, .int x1), (2, .ref a2)]) hx hb dJx4a65c_add_7a177_20 rfl hl (by decide) rfl (fun ls hl => ?_)
  refine lv_aload_n hx hb dJx4a65c_add_7a177_21 rfl (lv_at hl 1 rfl) ?_
  obtain ⟨fs_15, a_14, he_fs_15, hv_fs_15, h⟩ := h
  refine fw_get (C := RJx4a65c) (T := TJx4a65c) (N := 3) hx hb hts hin_Jx4a65c hown hK hF he_fs_15 rfl 1 (by decide) (hts (.fieldLink RJx4a65c 9 "java/util/ArrayList" "elementData" "[Ljava/lang/Object;") (by decide +kernel)) (fun _ h9 => h9) hv_fs_15 dJx4a65c_add_7a177_22 ?_
  refine lv_dup hx hb dJx4a65c_add_7a177_25 rfl ?_
  refine lv_astore (lv' := [(4, .ref a_14), (3, .int v_12), (0, .ref a0), (1, .int x1), (2, .ref a2)]) hx hb dJx4a65c_add_7a177_26 hl (by decide) rfl (fun ls hl => ?_)
  refine fw_alenz hx hb hK hZ hF hS hzd h dJx4a65c_add_7a177_28 (fun v_16 h => ?_)
  obtain ⟨h1, h2⟩ := h
  refine lv_icmp_ne (tgt := 38) hx hb dJx4a65c_add_7a177_29 (by decide) (fun c_17 => ?_) (fun c_17 => ?_)
  · have h := h1 c_17
    exact J38 v_12 a_14 f_11 mc ms _ _ _ _ _ h hbc hbs hF hS (lv_sub hl [2, 3, 4, 1, 0] rfl)
  · have h := h2 c_17
    refine lv_aload_n hx hb dJx4a65c_add_7a177_32 rfl (lv_at hl 2 rfl) ?_
    obtain ⟨ga_20, gb_21, hga_ga_20, hgb_ga_20, h⟩ := h
    obtain ⟨⟨fs_a_18, hrc_a_18⟩, h⟩ := h
    refine fw_cV_q_w (As := []) (rest := []) ⟨hx, hb, hml, hown, hts⟩ (cc_Jx4a65c_grow_d5877 l G hzd h) (⟨callB_of 0 hts ggJx4a65c_add_7a177_Jx4a65c_grow_d5877 rfl rfl rfl (hts (.initialized RJx4a65c) (by decide +kernel)) (hts (.methodLink RJx4a65c 129 yJx4a65c_grow_d5877) (by decide +kernel)) (by decide +kernel) ⟨Nat.le_of_ble_eq_true rfl, Nat.le_of_ble_eq_true rfl⟩, hts (.instanceMethod yJx4a65c_grow_d5877) (by decide +kernel), hts (.selects RJx4a65c yJx4a65c_grow_d5877 yJx4a65c_grow_d5877) (by decide +kernel)⟩) rfl hrc_a_18 hK hZ hF hS hA rfl hl.1 rfl (Nat.le_of_ble_eq_true rfl) dJx4a65c_add_7a177_33 ⟨by show _ ≤ mc; omega, by show _ ≤ ms; omega⟩ (fun a_18 f_19 H locs h hF hS => ?_)
    obtain ⟨cs_22, hcs⟩ : ∃ z, z = (0 + ga_20) := ⟨_, rfl⟩; obtain ⟨sl_23, hsl⟩ : ∃ z, z = (0 + gb_21) := ⟨_, rfl⟩
    have hbc : cs_22 + (mc - ga_20) ≤ mc := by omega
    have hbs : sl_23 + (ms - gb_21) ≤ ms := by omega
    refine W.widen (k := cs_22) (n := sl_23) (by omega) (by omega) ?_
    clear hcs hsl
    refine lv_astore (lv' := [(4, .ref a_18), (3, .int v_12), (0, .ref a0), (1, .int x1), (2, .ref a2)]) hx hb dJx4a65c_add_7a177_36 hl (by decide) rfl (fun ls hl => ?_)
    exact J38 v_12 a_18 f_19 (mc - ga_20) (ms - gb_21) _ _ _ _ _ h hbc hbs hF hS (lv_sub hl [2, 3, 4, 1, 0] rfl)
theorem dX4_insert_0 : decode cX4_insert 0 = .ok (.iload_n 1, 1) := by decide +kernel
theorem dX4_insert_1 : decode cX4_insert 1 = .ok (.ifCond .lt 23, 3) := by decide +kernel
theorem dX4_insert_4 : decode cX4_insert 4 = .ok (.iload_n 1, 1) := by decide +kernel
theorem dX4_insert_5 : decode cX4_insert 5 = .ok (.aload_n 0, 1) := by decide +kernel
theorem dX4_insert_6 : decode cX4_insert 6 = .ok (.getfield 10, 3) := by decide +kernel
theorem dX4_insert_9 : decode cX4_insert 9 = .ok (.invokevirtual 25, 3) := by decide +kernel
theorem dX4_insert_12 : decode cX4_insert 12 = .ok (.if_icmp .gt 12, 3) := by decide +kernel
theorem dX4_insert_15 : decode cX4_insert 15 = .ok (.aload_n 0, 1) := by decide +kernel
theorem dX4_insert_16 : decode cX4_insert 16 = .ok (.getfield 10, 3) := by decide +kernel
theorem dX4_insert_19 : decode cX4_insert 19 = .ok (.iload_n 1, 1) := by decide +kernel
theorem dX4_insert_20 : decode cX4_insert 20 = .ok (.aload_n 2, 1) := by decide +kernel
theorem dX4_insert_21 : decode cX4_insert 21 = .ok (.invokevirtual 37, 3) := by decide +kernel
theorem dX4_insert_24 : decode cX4_insert 24 = .ok (.return_, 1) := by decide +kernel
set_option maxRecDepth 20000 in
theorem ggX4_insert_Jx4a65c_add_7a177 : GoodIn wsX4_insert wsJx4a65c_add_7a177 := goodIn_r _ [11, 12, 13, 7, 14, 15, 16, 17, 18, 19, 20, 21, 5, 22, 23, 24, 25, 26, 27, 28, 29, 30, 31, 32, 33, 34, 35, 36, 37, 38, 39, 40, 41, 42, 43, 44, 45, 46, 47, 48, 49, 50, 51, 52, 53, 54, 55, 56, 57, 58, 59, 60, 61, 62, 65, 66, 67] (by decide +kernel) (by decide +kernel)
set_option maxRecDepth 20000 in
theorem ggX4_insert_Jx4a65c_size_8abf5 : GoodIn wsX4_insert wsJx4a65c_size_8abf5 := goodIn_r _ [6, 7, 65, 66, 67] (by decide +kernel) (by decide +kernel)
def wp_X4_insert (zd : Nat) (a0 : Nat) (x1 : Int32) (a2 : Nat) (f : FT) (mc ms : Nat) (K : FT → Prop) : Prop :=
  ((x1 < (0 : Int32) → K f) ∧
 (¬ (x1 < (0 : Int32)) → gA f a0 7 0 fun a_2 => isO f a_2 2 ∧ wp_Jx4a65c_size_8abf5 a_2 f (fun r_4 => ((r_4 < x1 → K f) ∧
 (¬ (r_4 < x1) → gA f a0 7 0 fun a_6 => ∃ ga_10 gb_11 : Nat, ga_10 ≤ mc ∧ gb_11 ≤ ms ∧ isO f a_6 2 ∧ wp_Jx4a65c_add_7a177 zd a_6 x1 a2 f ga_10 gb_11 (fun f_9 => K f_9))))))
set_option maxHeartbeats 4000000 in
set_option maxRecDepth 100000 in
theorem cc_X4_insert (l : Launch) (G : GG) {zd : Nat} (hzd : G.2.2 0 = zd) {f : FT} {sz : Nat} {a0 : Nat} {x1 : Int32} {a2 : Nat} {mc ms : Nat} {K : FT → Prop} (h : wp_X4_insert zd a0 x1 a2 f mc ms K) : Met l yX4_insert wsX4_insert ({ frames := 6, cells := mc, slots := ms, locals := 151 } : Room) (FP G [.ref a0, .int x1, .ref a2] f sz) (va_Qv (fun f9 => K f9 : FT → Prop) (FB G (fA f sz)) (fA f sz)) mc ms (fA f sz) := by
  refine Met.ofW (cc := cX4_insert) (maxL := 3) (ret := none) (by decide) rfl ?_
  intro p e s m args below meth c s₁ B hml hv
  obtain ⟨rfl, hsz, hF, hK, hZ⟩ := hv
  have hx := B.exec
  have hb := B.bytes
  have hr := B.returns
  have hts := atoms_spec (ws := wsX4_insert) B.pre
  have hown : s.vm.findClass RX4 = some m.cls := findClass_of_methodNamed B.named
  have hlocks := B.notSynchronized
  subst hsz
  have hF := hF.self (sz := s.heap.size)
  generalize hAe : fA f s.heap.size = A at hF hZ ⊢
  have hA : ∀ q : Nat, s.heap.size ≤ q → A q := fun q h => by rw [← hAe]; exact Or.inr h
  have hS : va_S A s.heap s.heap [] := va_S.rf
  have hZ9 : va_Z "java/util/ArrayList" "DEFAULTCAPACITY_EMPTY_ELEMENTDATA" "[Ljava/lang/Object;" (.ref zd) A s s.heap := by rw [← hzd]; exact hZ.1
  have hin_X4 : ∀ w ∈ wsX40, w ∈ wsX4_insert := by decide +kernel
  have hbc : 0 + mc ≤ mc := by omega
  have hbs : 0 + ms ≤ ms := by omega
  have hl := lv_entry ([.ref a0, .int x1, .ref a2]) (n := 3) (Nat.le_of_ble_eq_true rfl)
  rw [lg_entry_eq]
  generalize (lg_sl ([.ref a0, .int x1, .ref a2]) ++ List.replicate (3 - (lg_sl ([.ref a0, .int x1, .ref a2])).length) Slot.unset).toArray = ls at hl ⊢
  have hl : lv_has ls 3 [(0, .ref a0), (1, .int x1), (2, .ref a2)] := hl
  unfold wp_X4_insert at h
  refine lv_iload_n hx hb dX4_insert_0 rfl (lv_at hl 1 rfl) ?_
  obtain ⟨h1, h2⟩ := h
  refine lv_if_lt (tgt := 24) hx hb dX4_insert_1 (by decide) (fun c_1 => ?_) (fun c_1 => ?_)
  · have h := h1 c_1
    refine W.widen (k := mc) (n := ms) (by omega) (by omega) ?_
    exact W.vret hx hb hr (fun t ht hW => ⟨⟨f, rfl, h, by rw [ht]; exact hF, FK.moved hW.alike hK⟩, hS.F ht⟩) hS.2.2 dX4_insert_24
  · have h := h2 c_1
    refine lv_iload_n hx hb dX4_insert_4 rfl (lv_at hl 1 rfl) ?_
    refine lv_aload_n hx hb dX4_insert_5 rfl (lv_at hl 0 rfl) ?_
    obtain ⟨fs_3, a_2, he_fs_3, hv_fs_3, h⟩ := h
    refine fw_get (C := RX4) (T := TX4) (N := 2) hx hb hts hin_X4 hown hK hF he_fs_3 rfl 0 (by decide) (hts (.fieldLink RX4 10 "FrontCodedIndex$KeyRow" "cells" "Ljava/util/ArrayList;") (by decide +kernel)) (fun _ h9 => h9) hv_fs_3 dX4_insert_6 ?_
    obtain ⟨⟨fs_r_4, hrc_r_4⟩, h⟩ := h
    refine fw_cV_i_p (As := []) (rest := [.int x1]) ⟨hx, hb, hml, hown, hts⟩ (cc_Jx4a65c_size_8abf5 l G h) (⟨callB_of 0 hts ggX4_insert_Jx4a65c_size_8abf5 rfl rfl rfl (hts (.initialized RJx4a65c) (by decide +kernel)) (hts (.methodLink RX4 25 yJx4a65c_size_8abf5) (by decide +kernel)) (by decide +kernel) ⟨Nat.le_of_ble_eq_true rfl, Nat.le_of_ble_eq_true rfl⟩, hts (.instanceMethod yJx4a65c_size_8abf5) (by decide +kernel), hts (.selects RJx4a65c yJx4a65c_size_8abf5 yJx4a65c_size_8abf5) (by decide +kernel)⟩) rfl hrc_r_4 hK hZ hF hS hA rfl hl.1 rfl (Nat.le_of_ble_eq_true rfl) dX4_insert_9 ⟨by show _ ≤ mc; omega, by show _ ≤ ms; omega⟩ (fun r_4 H locs h hF hS => ?_)
    simp only [Nat.add_zero]
    obtain ⟨h1, h2⟩ := h
    refine lv_icmp_gt (tgt := 24) hx hb dX4_insert_12 (by decide) (fun c_5 => ?_) (fun c_5 => ?_)
    · have h := h1 c_5
      refine W.widen (k := mc) (n := ms) (by omega) (by omega) ?_
      exact W.vret hx hb hr (fun t ht hW => ⟨⟨f, rfl, h, by rw [ht]; exact hF, FK.moved hW.alike hK⟩, hS.F ht⟩) hS.2.2 dX4_insert_24
    · have h := h2 c_5
      refine lv_aload_n hx hb dX4_insert_15 rfl (lv_at hl 0 rfl) ?_
      obtain ⟨fs_7, a_6, he_fs_7, hv_fs_7, h⟩ := h
      refine fw_get (C := RX4) (T := TX4) (N := 2) hx hb hts hin_X4 hown hK hF he_fs_7 rfl 0 (by decide) (hts (.fieldLink RX4 10 "FrontCodedIndex$KeyRow" "cells" "Ljava/util/ArrayList;") (by decide +kernel)) (fun _ h9 => h9) hv_fs_7 dX4_insert_16 ?_
      refine lv_iload_n hx hb dX4_insert_19 rfl (lv_at hl 1 rfl) ?_
      refine lv_aload_n hx hb dX4_insert_20 rfl (lv_at hl 2 rfl) ?_
      obtain ⟨ga_10, gb_11, hga_ga_10, hgb_ga_10, h⟩ := h
      obtain ⟨⟨fs_u_8, hrc_u_8⟩, h⟩ := h
      refine fw_cV_v (As := [.int x1, .ref a2]) (rest := []) ⟨hx, hb, hml, hown, hts⟩ (cc_Jx4a65c_add_7a177 l G hzd h) (⟨callB_of 2 hts ggX4_insert_Jx4a65c_add_7a177 rfl rfl rfl (hts (.initialized RJx4a65c) (by decide +kernel)) (hts (.methodLink RX4 37 yJx4a65c_add_7a177) (by decide +kernel)) (by decide +kernel) ⟨Nat.le_of_ble_eq_true rfl, Nat.le_of_ble_eq_true rfl⟩, hts (.instanceMethod yJx4a65c_add_7a177) (by decide +kernel), hts (.selects RJx4a65c yJx4a65c_add_7a177 yJx4a65c_add_7a177) (by decide +kernel)⟩) rfl hrc_u_8 hK hZ hF hS hA rfl hl.1 rfl (Nat.le_of_ble_eq_true rfl) dX4_insert_21 ⟨by show _ ≤ mc; omega, by show _ ≤ ms; omega⟩ (fun f_9 H locs h hF hS => ?_)
      obtain ⟨cs_12, hcs⟩ : ∃ z, z = (0 + ga_10) := ⟨_, rfl⟩; obtain ⟨sl_13, hsl⟩ : ∃ z, z = (0 + gb_11) := ⟨_, rfl⟩
      have hbc : cs_12 + (mc - ga_10) ≤ mc := by omega
      have hbs : sl_13 + (ms - gb_11) ≤ ms := by omega
      refine W.widen (k := cs_12) (n := sl_13) (by omega) (by omega) ?_
      clear hcs hsl
      refine W.widen (k := mc) (n := ms) (by omega) (by omega) ?_
      exact W.vret hx hb hr (fun t ht hW => ⟨⟨f_9, rfl, h, by rw [ht]; exact hF, FK.moved hW.alike hK⟩, hS.F ht⟩) hS.2.2 dX4_insert_24
theorem dJ7_copyOf_59c91_0 : decode cJ7_copyOf_59c91 0 = .ok (.iload_n 1, 1) := by decide +kernel
theorem dJ7_copyOf_59c91_1 : decode cJ7_copyOf_59c91 1 = .ok (.aload_n 0, 1) := by decide +kernel
theorem dJ7_copyOf_59c91_2 : decode cJ7_copyOf_59c91 2 = .ok (.arraylength, 1) := by decide +kernel
theorem dJ7_copyOf_59c91_3 : decode cJ7_copyOf_59c91 3 = .ok (.if_icmp .ne 11, 3) := by decide +kernel
theorem dJ7_copyOf_59c91_6 : decode cJ7_copyOf_59c91 6 = .ok (.aload_n 0, 1) := by decide +kernel
theorem dJ7_copyOf_59c91_7 : decode cJ7_copyOf_59c91 7 = .ok (.invokevirtual 316, 3) := by decide +kernel
theorem dJ7_copyOf_59c91_10 : decode cJ7_copyOf_59c91 10 = .ok (.checkcast 317, 3) := by decide +kernel
theorem dJ7_copyOf_59c91_13 : decode cJ7_copyOf_59c91 13 = .ok (.areturn, 1) := by decide +kernel
theorem dJ7_copyOf_59c91_14 : decode cJ7_copyOf_59c91 14 = .ok (.iload_n 1, 1) := by decide +kernel
theorem dJ7_copyOf_59c91_15 : decode cJ7_copyOf_59c91 15 = .ok (.newarray .int, 2) := by decide +kernel
theorem dJ7_copyOf_59c91_17 : decode cJ7_copyOf_59c91 17 = .ok (.astore_n 2, 1) := by decide +kernel
theorem dJ7_copyOf_59c91_18 : decode cJ7_copyOf_59c91 18 = .ok (.aload_n 0, 1) := by decide +kernel
theorem dJ7_copyOf_59c91_19 : decode cJ7_copyOf_59c91 19 = .ok (.iconst 0, 1) := by decide +kernel
theorem dJ7_copyOf_59c91_20 : decode cJ7_copyOf_59c91 20 = .ok (.aload_n 2, 1) := by decide +kernel
theorem dJ7_copyOf_59c91_21 : decode cJ7_copyOf_59c91 21 = .ok (.iconst 0, 1) := by decide +kernel
theorem dJ7_copyOf_59c91_22 : decode cJ7_copyOf_59c91 22 = .ok (.aload_n 0, 1) := by decide +kernel
theorem dJ7_copyOf_59c91_23 : decode cJ7_copyOf_59c91 23 = .ok (.arraylength, 1) := by decide +kernel
theorem dJ7_copyOf_59c91_24 : decode cJ7_copyOf_59c91 24 = .ok (.iload_n 1, 1) := by decide +kernel
theorem dJ7_copyOf_59c91_25 : decode cJ7_copyOf_59c91 25 = .ok (.invokestatic 304, 3) := by decide +kernel
theorem dJ7_copyOf_59c91_28 : decode cJ7_copyOf_59c91 28 = .ok (.invokestatic 150, 3) := by decide +kernel
theorem dJ7_copyOf_59c91_31 : decode cJ7_copyOf_59c91 31 = .ok (.aload_n 2, 1) := by decide +kernel
theorem dJ7_copyOf_59c91_32 : decode cJ7_copyOf_59c91 32 = .ok (.areturn, 1) := by decide +kernel
def wp_J7_copyOf_59c91 (a0 : Nat) (x1 : Int32) (f : FT) (mc ms : Nat) (K : Nat → FT → Prop) : Prop :=
  aL f a0 fun v_1 => ((¬ x1 = v_1 → nA f 1 x1 mc ms fun n_6 q_4 f_5 => aL f_5 a0 fun v_9 => ∀ v_11 : Int32, v_11 = (jmin v_9 x1) → cP f_5 1 .int a0 (0 : Int32) q_4 (0 : Int32) v_11 fun f_13 => K q_4 f_13) ∧
 (x1 = v_1 → cL f 1 .int a0 mc ms fun n_16 q_14 f_15 => isA f_15 q_14 1 ∧ K q_14 f_15))
set_option maxHeartbeats 4000000 in
set_option maxRecDepth 100000 in
theorem cc_J7_copyOf_59c91 (l : Launch) (G : GG) {f : FT} {sz : Nat} {a0 : Nat} {x1 : Int32} {mc ms : Nat} {K : Nat → FT → Prop} (h : wp_J7_copyOf_59c91 a0 x1 f mc ms K) : Met l yJ7_copyOf_59c91 wsJ7_copyOf_59c91 ({ frames := 1, cells := mc, slots := ms, locals := 40 } : Room) (FP G [.ref a0, .int x1] f sz) (va_Qq (fun r f9 => ∃ q, r = some q ∧ K q f9 : Option Nat → FT → Prop) (FB G (fA f sz)) (fA f sz)) mc ms (fA f sz) := by
  refine Met.ofW (cc := cJ7_copyOf_59c91) (maxL := 3) (ret := (some (.array .int))) (by decide) rfl ?_
  intro p e s m args below meth c s₁ B hml hv
  obtain ⟨rfl, hsz, hF, hK, hZ⟩ := hv
  have hx := B.exec
  have hb := B.bytes
  have hr := B.returns
  have hts := atoms_spec (ws := wsJ7_copyOf_59c91) B.pre
  have hown : s.vm.findClass RJ7 = some m.cls := findClass_of_methodNamed B.named
  have hlocks := B.notSynchronized
  subst hsz
  have hF := hF.self (sz := s.heap.size)
  generalize hAe : fA f s.heap.size = A at hF hZ ⊢
  have hA : ∀ q : Nat, s.heap.size ≤ q → A q := fun q h => by rw [← hAe]; exact Or.inr h
  have hS : va_S A s.heap s.heap [] := va_S.rf
  have hbc : 0 + mc ≤ mc := by omega
  have hbs : 0 + ms ≤ ms := by omega
  have hl := lv_entry ([.ref a0, .int x1]) (n := 3) (Nat.le_of_ble_eq_true rfl)
  rw [lg_entry_eq]
  generalize (lg_sl ([.ref a0, .int x1]) ++ List.replicate (3 - (lg_sl ([.ref a0, .int x1])).length) Slot.unset).toArray = ls at hl ⊢
  have hl : lv_has ls 3 [(0, .ref a0), (1, .int x1)] := hl
  unfold wp_J7_copyOf_59c91 at h
  refine lv_iload_n hx hb dJ7_copyOf_59c91_0 rfl (lv_at hl 1 rfl) ?_
  refine lv_aload_n hx hb dJ7_copyOf_59c91_1 rfl (lv_at hl 0 rfl) ?_
  obtain ⟨t_q_2, q_2, he_q_2, ht_q_2, h⟩ := h
  refine fw_alen hx hb hK hF he_q_2 ht_q_2 dJ7_copyOf_59c91_2 ?_
  refine lv_topi (fun v_1 e_v_1 => ?_)
  have h := h v_1 e_v_1
  obtain ⟨h1, h2⟩ := h
  refine lv_icmp_ne (tgt := 14) hx hb dJ7_copyOf_59c91_3 (by decide) (fun c_3 => ?_) (fun c_3 => ?_)
  · have h := h1 c_3
    refine lv_iload_n hx hb dJ7_copyOf_59c91_14 rfl (lv_at hl 1 rfl) ?_
    obtain ⟨hb0, n_6, hN, hb1, hb2, hb3, h⟩ := h
    refine fw_newa (atype := .int) (a0 := (n_6, .inl fun _ => 0)) hx hb (hts (.arrayClass .int) (by decide +kernel)) (ty := .int) rfl 1 rfl va_RA_int hK hF hS hA (fun cA => rfl) hb0 hN (by show _ * 4 ≤ _; omega) (by show _ ≤ mc; omega) (by show _ ≤ ms; omega) dJ7_copyOf_59c91_15 (fun q_4 H hn_q_4 hF hS => ?_)
    obtain ⟨f_5, hf_f_5⟩ : ∃ z, z = fup f q_4 (.inl (1, (n_6, .inl fun _ => 0))) := ⟨_, rfl⟩
    rw [← hf_f_5] at hF; have h := h q_4 hn_q_4 f_5 hf_f_5
    obtain ⟨cs_7, hcs⟩ : ∃ z, z = (0 + 1) := ⟨_, rfl⟩; obtain ⟨sl_8, hsl⟩ : ∃ z, z = (0 + n_6) := ⟨_, rfl⟩
    have hbc : cs_7 + (mc - 1) ≤ mc := by omega
    have hbs : sl_8 + (ms - n_6) ≤ ms := by omega
    refine W.widen (k := cs_7) (n := sl_8) (by omega) (by omega) ?_
    clear hcs hsl
    refine lv_astore_n (lv' := [(2, .ref q_4), (0, .ref a0), (1, .int x1)]) hx hb dJ7_copyOf_59c91_17 rfl hl (by decide) rfl (fun ls hl => ?_)
    refine lv_aload_n hx hb dJ7_copyOf_59c91_18 rfl (lv_at hl 1 rfl) ?_
    refine lv_iconst (v := (0 : Int32)) hx hb dJ7_copyOf_59c91_19 (by decide) ?_
    refine lv_aload_n hx hb dJ7_copyOf_59c91_20 rfl (lv_at hl 0 rfl) ?_
    refine lv_iconst (v := (0 : Int32)) hx hb dJ7_copyOf_59c91_21 (by decide) ?_
    refine lv_aload_n hx hb dJ7_copyOf_59c91_22 rfl (lv_at hl 1 rfl) ?_
    obtain ⟨t_q_10, q_10, he_q_10, ht_q_10, h⟩ := h
    refine fw_alen hx hb hK hF he_q_10 ht_q_10 dJ7_copyOf_59c91_23 ?_
    refine lv_topi (fun v_9 e_v_9 => ?_)
    have h := h v_9 e_v_9
    refine lv_iload_n hx hb dJ7_copyOf_59c91_24 rfl (lv_at hl 2 rfl) ?_
    refine va_mmin hx hb (hml.trans hl.1.symm) hown (hts (.methodLink RJ7 304 Lib.Math.min.name) (by decide +kernel)) (hts (.static Lib.Math.min.name) (by decide +kernel)) (hts (.initialized "java/lang/Math") (by decide +kernel)) (hts (.code Lib.Math.min.name Lib.Math.min.code 2 (some .int)) (by decide +kernel)) (Nat.le_of_ble_eq_true rfl) (Nat.le_of_ble_eq_true rfl) (by show _ ≤ mc; omega) (by show _ ≤ ms; omega) dJ7_copyOf_59c91_25 ?_
    refine lv_topi (fun v_11 e_v_11 => ?_)
    have h := h v_11 e_v_11
    obtain ⟨n0_q_12, n1_q_12, g0_q_12, g1_q_12, he0_q_12, he1_q_12, hc1_q_12, hc2_q_12, hc3_q_12, hc4_q_12, hc5_q_12, hel_q_12, h⟩ := h
    refine fw_copyP hx hb (hml.trans hl.1.symm) hown (hts (.methodLink RJ7 150 arraycopyName) (by decide +kernel)) (hts (.native arraycopyName) (by decide +kernel)) (hts (.static arraycopyName) (by decide +kernel)) (hts (.initialized "java/lang/System") (by decide +kernel)) hK hF hS 1 rfl rfl he0_q_12 he1_q_12 hc1_q_12 hc2_q_12 hc3_q_12 hc4_q_12 hc5_q_12 hel_q_12 (Nat.le_of_ble_eq_true rfl) (Nat.le_of_ble_eq_true rfl) dJ7_copyOf_59c91_28 (fun H locs hF hS => ?_)
    obtain ⟨f_13, hf_f_13⟩ : ∃ z, z = fup f_5 q_4 (.inl (1, n1_q_12, .inl (va_cpy g0_q_12 g1_q_12 ((0 : Int32)).toNatClampNeg ((0 : Int32)).toNatClampNeg (v_11).toNatClampNeg))) := ⟨_, rfl⟩
    rw [← hf_f_13] at hF; have h := h f_13 hf_f_13
    refine lv_aload_n hx hb dJ7_copyOf_59c91_31 rfl (lv_at hl 0 rfl) ?_
    refine W.widen (k := mc) (n := ms) (by omega) (by omega) ?_
    exact W.aret (v := .ref q_4) hx hb hr (Or.inr ⟨_, rfl⟩) (Or.inr ⟨q_4, rfl⟩) (fun t ht hW => ⟨⟨some q_4, f_13, rfl, ⟨_, rfl, h⟩, by rw [ht]; exact hF, FK.moved hW.alike hK⟩, hS.F ht⟩) hS.2.2 dJ7_copyOf_59c91_32
  · have h := h2 c_3
    refine lv_aload_n hx hb dJ7_copyOf_59c91_6 rfl (lv_at hl 0 rfl) ?_
    obtain ⟨n_16, x_17, he_x_17, hft_x_17, hb1, hb2, h⟩ := h
    refine fw_clone hx hb (hml.trans hl.1.symm) hown (hts (.methodLink RJ7 316 ⟨"[I", "clone", "()Ljava/lang/Object;"⟩) (by decide +kernel)) (hts (.sameMethod "[I" "java/lang/Object" "clone" "()Ljava/lang/Object;") (by decide +kernel)) (hts (.native ⟨"java/lang/Object", "clone", "()Ljava/lang/Object;"⟩) (by decide +kernel)) (hts (.instanceMethod ⟨"java/lang/Object", "clone", "()Ljava/lang/Object;"⟩) (by decide +kernel)) (hts (.selects "[I" ⟨"[I", "clone", "()Ljava/lang/Object;"⟩ ⟨"java/lang/Object", "clone", "()Ljava/lang/Object;"⟩) (by decide +kernel)) hK.2.2.2.1 hK hF hS hA 1 he_x_17 rfl hK.nm1 (fits_arr hft_x_17) (Nat.le_of_ble_eq_true rfl) (Nat.le_of_ble_eq_true rfl) (by show _ ≤ mc; omega) (by show _ + n_16 ≤ ms; omega) dJ7_copyOf_59c91_7 (fun q_14 H hn_q_14 hF hS => ?_)
    obtain ⟨f_15, hf_f_15⟩ : ∃ z, z = fup f q_14 (.inl (1, n_16, .inl x_17)) := ⟨_, rfl⟩
    rw [← hf_f_15] at hF; have h := h q_14 hn_q_14 f_15 hf_f_15
    obtain ⟨cs_18, hcs⟩ : ∃ z, z = (0 + 1) := ⟨_, rfl⟩; obtain ⟨sl_19, hsl⟩ : ∃ z, z = (0 + n_16) := ⟨_, rfl⟩
    have hbc : cs_18 + (mc - 1) ≤ mc := by omega
    have hbs : sl_19 + (ms - n_16) ≤ ms := by omega
    refine W.widen (k := cs_18) (n := sl_19) (by omega) (by omega) ?_
    clear hcs hsl
    obtain ⟨⟨q_20, he_q_20⟩, h⟩ := h
    refine fw_castA hx hb hown (hts (.classLink RJ7 317 "[I") (by decide +kernel)) hF he_q_20 hK.nm1 dJ7_copyOf_59c91_10 ?_
    refine W.widen (k := mc) (n := ms) (by omega) (by omega) ?_
    exact W.aret (v := .ref q_14) hx hb hr (Or.inr ⟨_, rfl⟩) (Or.inr ⟨q_14, rfl⟩) (fun t ht hW => ⟨⟨some q_14, f_15, rfl, ⟨_, rfl, h⟩, by rw [ht]; exact hF, FK.moved hW.alike hK⟩, hS.F ht⟩) hS.2.2 dJ7_copyOf_59c91_13
theorem dX2_insert_0 : decode cX2_insert 0 = .ok (.aload_n 0, 1) := by decide +kernel
theorem dX2_insert_1 : decode cX2_insert 1 = .ok (.getfield 13, 3) := by decide +kernel
theorem dX2_insert_4 : decode cX2_insert 4 = .ok (.aload_n 0, 1) := by decide +kernel
theorem dX2_insert_5 : decode cX2_insert 5 = .ok (.getfield 9, 3) := by decide +kernel
theorem dX2_insert_8 : decode cX2_insert 8 = .ok (.arraylength, 1) := by decide +kernel
theorem dX2_insert_9 : decode cX2_insert 9 = .ok (.if_icmp .lt 36, 3) := by decide +kernel
theorem dX2_insert_12 : decode cX2_insert 12 = .ok (.aload_n 0, 1) := by decide +kernel
theorem dX2_insert_13 : decode cX2_insert 13 = .ok (.getfield 9, 3) := by decide +kernel
theorem dX2_insert_16 : decode cX2_insert 16 = .ok (.arraylength, 1) := by decide +kernel
theorem dX2_insert_17 : decode cX2_insert 17 = .ok (.sipush 4096, 3) := by decide +kernel
theorem dX2_insert_20 : decode cX2_insert 20 = .ok (.if_icmp .ge 25, 3) := by decide +kernel
theorem dX2_insert_23 : decode cX2_insert 23 = .ok (.aload_n 0, 1) := by decide +kernel
theorem dX2_insert_24 : decode cX2_insert 24 = .ok (.aload_n 0, 1) := by decide +kernel
theorem dX2_insert_25 : decode cX2_insert 25 = .ok (.getfield 9, 3) := by decide +kernel
theorem dX2_insert_28 : decode cX2_insert 28 = .ok (.aload_n 0, 1) := by decide +kernel
theorem dX2_insert_29 : decode cX2_insert 29 = .ok (.getfield 9, 3) := by decide +kernel
theorem dX2_insert_32 : decode cX2_insert 32 = .ok (.arraylength, 1) := by decide +kernel
theorem dX2_insert_33 : decode cX2_insert 33 = .ok (.aload_n 0, 1) := by decide +kernel
theorem dX2_insert_34 : decode cX2_insert 34 = .ok (.getfield 9, 3) := by decide +kernel
theorem dX2_insert_37 : decode cX2_insert 37 = .ok (.arraylength, 1) := by decide +kernel
theorem dX2_insert_38 : decode cX2_insert 38 = .ok (.iadd, 1) := by decide +kernel
theorem dX2_insert_39 : decode cX2_insert 39 = .ok (.invokestatic 21, 3) := by decide +kernel
theorem dX2_insert_42 : decode cX2_insert 42 = .ok (.putfield 9, 3) := by decide +kernel
theorem dX2_insert_45 : decode cX2_insert 45 = .ok (.iload_n 1, 1) := by decide +kernel
theorem dX2_insert_46 : decode cX2_insert 46 = .ok (.ifCond .lt 23, 3) := by decide +kernel
theorem dX2_insert_49 : decode cX2_insert 49 = .ok (.iload_n 1, 1) := by decide +kernel
theorem dX2_insert_50 : decode cX2_insert 50 = .ok (.aload_n 0, 1) := by decide +kernel
theorem dX2_insert_51 : decode cX2_insert 51 = .ok (.getfield 13, 3) := by decide +kernel
theorem dX2_insert_54 : decode cX2_insert 54 = .ok (.if_icmp .gt 15, 3) := by decide +kernel
theorem dX2_insert_57 : decode cX2_insert 57 = .ok (.aload_n 0, 1) := by decide +kernel
theorem dX2_insert_58 : decode cX2_insert 58 = .ok (.getfield 13, 3) := by decide +kernel
theorem dX2_insert_61 : decode cX2_insert 61 = .ok (.aload_n 0, 1) := by decide +kernel
theorem dX2_insert_62 : decode cX2_insert 62 = .ok (.getfield 9, 3) := by decide +kernel
theorem dX2_insert_65 : decode cX2_insert 65 = .ok (.arraylength, 1) := by decide +kernel
theorem dX2_insert_66 : decode cX2_insert 66 = .ok (.if_icmp .lt 4, 3) := by decide +kernel
theorem dX2_insert_69 : decode cX2_insert 69 = .ok (.return_, 1) := by decide +kernel
theorem dX2_insert_70 : decode cX2_insert 70 = .ok (.aload_n 0, 1) := by decide +kernel
theorem dX2_insert_71 : decode cX2_insert 71 = .ok (.getfield 13, 3) := by decide +kernel
theorem dX2_insert_74 : decode cX2_insert 74 = .ok (.istore_n 3, 1) := by decide +kernel
theorem dX2_insert_75 : decode cX2_insert 75 = .ok (.iload_n 3, 1) := by decide +kernel
theorem dX2_insert_76 : decode cX2_insert 76 = .ok (.iload_n 1, 1) := by decide +kernel
theorem dX2_insert_77 : decode cX2_insert 77 = .ok (.if_icmp .le 23, 3) := by decide +kernel
theorem dX2_insert_80 : decode cX2_insert 80 = .ok (.aload_n 0, 1) := by decide +kernel
theorem dX2_insert_81 : decode cX2_insert 81 = .ok (.getfield 9, 3) := by decide +kernel
theorem dX2_insert_84 : decode cX2_insert 84 = .ok (.iload_n 3, 1) := by decide +kernel
theorem dX2_insert_85 : decode cX2_insert 85 = .ok (.aload_n 0, 1) := by decide +kernel
theorem dX2_insert_86 : decode cX2_insert 86 = .ok (.getfield 9, 3) := by decide +kernel
theorem dX2_insert_89 : decode cX2_insert 89 = .ok (.iload_n 3, 1) := by decide +kernel
theorem dX2_insert_90 : decode cX2_insert 90 = .ok (.iconst 1, 1) := by decide +kernel
theorem dX2_insert_91 : decode cX2_insert 91 = .ok (.isub, 1) := by decide +kernel
theorem dX2_insert_92 : decode cX2_insert 92 = .ok (.iaload, 1) := by decide +kernel
theorem dX2_insert_93 : decode cX2_insert 93 = .ok (.iastore, 1) := by decide +kernel
theorem dX2_insert_94 : decode cX2_insert 94 = .ok (.iinc 3 (-1), 3) := by decide +kernel
theorem dX2_insert_97 : decode cX2_insert 97 = .ok (.goto (-22), 3) := by decide +kernel
theorem dX2_insert_100 : decode cX2_insert 100 = .ok (.aload_n 0, 1) := by decide +kernel
theorem dX2_insert_101 : decode cX2_insert 101 = .ok (.getfield 9, 3) := by decide +kernel
theorem dX2_insert_104 : decode cX2_insert 104 = .ok (.iload_n 1, 1) := by decide +kernel
theorem dX2_insert_105 : decode cX2_insert 105 = .ok (.iload_n 2, 1) := by decide +kernel
theorem dX2_insert_106 : decode cX2_insert 106 = .ok (.iastore, 1) := by decide +kernel
theorem dX2_insert_107 : decode cX2_insert 107 = .ok (.aload_n 0, 1) := by decide +kernel
theorem dX2_insert_108 : decode cX2_insert 108 = .ok (.dup, 1) := by decide +kernel
theorem dX2_insert_109 : decode cX2_insert 109 = .ok (.getfield 13, 3) := by decide +kernel
theorem dX2_insert_112 : decode cX2_insert 112 = .ok (.iconst 1, 1) := by decide +kernel
theorem dX2_insert_113 : decode cX2_insert 113 = .ok (.iadd, 1) := by decide +kernel
theorem dX2_insert_114 : decode cX2_insert 114 = .ok (.putfield 13, 3) := by decide +kernel
theorem dX2_insert_117 : decode cX2_insert 117 = .ok (.return_, 1) := by decide +kernel
set_option maxRecDepth 20000 in
theorem ggX2_insert_J7_copyOf_59c91 : GoodIn wsX2_insert wsJ7_copyOf_59c91 := goodIn_r _ [6, 7, 8, 9, 10, 11, 12, 13, 14, 15, 16, 17, 18, 19, 20, 21] (by decide +kernel) (by decide +kernel)
def wp_X2_insert_75 (a0 : Nat) (x1 : Int32) (x2 : Int32) (K : FT → Prop)  (C75 : Int32 × FT × Nat × Nat → Prop) : Int32 × FT × Nat × Nat → Prop := fun s9 => match s9 with
  | (y3, f, bc, bs) => ((y3 ≤ x1 → gA f a0 5 0 fun a_2 => sI f a_2 x1 x2 fun f_5 => gI f_5 a0 5 1 fun v_6 => pV f_5 a0 5 1 (.int (v_6 + (1 : Int32))) fun f_9 => K f_9) ∧
 (¬ (y3 ≤ x1) → gA f a0 5 0 fun a_10 => gA f a0 5 0 fun a_12 => aI f a_12 1 (y3 - (1 : Int32)) fun v_14 => sI f a_10 y3 v_14 fun f_17 => ∀ v_18 : Int32, v_18 = y3 + (-1) → C75 (v_18, f_17, bc, bs)))
def wp_X2_insert_45 (a0 : Nat) (x1 : Int32) (x2 : Int32)  (f : FT) (bc bs : Nat) (K : FT → Prop)  : Prop :=
  ((x1 < (0 : Int32) → K f) ∧
 (¬ (x1 < (0 : Int32)) → gI f a0 5 1 fun v_21 => ((v_21 < x1 → K f) ∧
 (¬ (v_21 < x1) → gI f a0 5 1 fun v_24 => gA f a0 5 0 fun a_26 => aL f a_26 fun v_28 => ((v_24 < v_28 → gI f a0 5 1 fun v_31 => ∃ n_33, loopW (wp_X2_insert_75 a0 x1 x2 K) n_33 (v_31, f, bc, bs)) ∧
 (¬ (v_24 < v_28) → K f))))))
def wp_X2_insert (a0 : Nat) (x1 : Int32) (x2 : Int32) (f : FT) (mc ms : Nat) (K : FT → Prop) : Prop :=
  gI f a0 5 1 fun v_34 => gA f a0 5 0 fun a_36 => aL f a_36 fun v_38 => ((v_34 < v_38 → wp_X2_insert_45 a0 x1 x2 f mc ms K) ∧
 (¬ (v_34 < v_38) → gA f a0 5 0 fun a_41 => aL f a_41 fun v_43 => (((4096 : Int32) ≤ v_43 → wp_X2_insert_45 a0 x1 x2 f mc ms K) ∧
 (¬ ((4096 : Int32) ≤ v_43) → gA f a0 5 0 fun a_46 => gA f a0 5 0 fun a_48 => aL f a_48 fun v_50 => gA f a0 5 0 fun a_52 => aL f a_52 fun v_54 => ∃ ga_58 gb_59 : Nat, ga_58 ≤ mc ∧ gb_59 ≤ ms ∧ wp_J7_copyOf_59c91 a_46 (v_50 + v_54) f ga_58 gb_59 (fun a_56 f_57 => pV f_57 a0 5 0 (.ref a_56) fun f_63 => wp_X2_insert_45 a0 x1 x2 f_63 (mc - ga_58) (ms - gb_59) K)))))
set_option maxHeartbeats 4000000 in
set_option maxRecDepth 100000 in
theorem cc_X2_insert (l : Launch) (G : GG) {f : FT} {sz : Nat} {a0 : Nat} {x1 : Int32} {x2 : Int32} {mc ms : Nat} {K : FT → Prop} (h : wp_X2_insert a0 x1 x2 f mc ms K) : Met l yX2_insert wsX2_insert ({ frames := 2, cells := mc, slots := ms, locals := 62 } : Room) (FP G [.ref a0, .int x1, .int x2] f sz) (va_Qv (fun f9 => K f9 : FT → Prop) (FB G (fA f sz)) (fA f sz)) mc ms (fA f sz) := by
  refine Met.ofW (cc := cX2_insert) (maxL := 4) (ret := none) (by decide) rfl ?_
  intro p e s m args below meth c s₁ B hml hv
  obtain ⟨rfl, hsz, hF, hK, hZ⟩ := hv
  have hx := B.exec
  have hb := B.bytes
  have hr := B.returns
  have hts := atoms_spec (ws := wsX2_insert) B.pre
  have hown : s.vm.findClass RX2 = some m.cls := findClass_of_methodNamed B.named
  have hlocks := B.notSynchronized
  subst hsz
  have hF := hF.self (sz := s.heap.size)
  generalize hAe : fA f s.heap.size = A at hF hZ ⊢
  have hA : ∀ q : Nat, s.heap.size ≤ q → A q := fun q h => by rw [← hAe]; exact Or.inr h
  have hS : va_S A s.heap s.heap [] := va_S.rf
  have hin_X2 : ∀ w ∈ wsX20, w ∈ wsX2_insert := by decide +kernel
  have hbc : 0 + mc ≤ mc := by omega
  have hbs : 0 + ms ≤ ms := by omega
  have L75 : ∀  (j9 : Nat) (y3 : Int32) (f : FT) (bc : Nat) (bs : Nat) (H : Heap) (locs : List Loc) (ls : Array Slot) (cs sl : Nat), loopW (wp_X2_insert_75 a0 x1 x2 K ) j9 (y3, f, bc, bs) → cs + bc ≤ mc → sl + bs ≤ ms → Fw G A f H → va_S A s.heap H locs → lv_has ls 4 [(0, .ref a0), (1, .int x1), (2, .int x2), (3, .int y3)] → W p l e ({ frames := 2, cells := mc, slots := ms, locals := 62 } : Room) s m ([.ref a0, .int x1, .int x2] : List Value).toArray below meth c H locs cs sl (MQ below (va_Qv (fun f9 => K f9 : FT → Prop) (FB G A) A) ([.ref a0, .int x1, .int x2] : List Value).toArray s mc ms A) (F0 m 75 ls []) := by
    intro  j9
    induction j9 with
    | zero => intro y3 f bc bs H locs ls cs sl h; exact h.elim
    | succ j9 ih75 =>
      intro y3 f bc bs H locs ls cs sl h hbc hbs hF hS hl
      have h : wp_X2_insert_75 a0 x1 x2 K  (loopW (wp_X2_insert_75 a0 x1 x2 K ) j9) (y3, f, bc, bs) := h
      generalize loopW (wp_X2_insert_75 a0 x1 x2 K ) j9 = C75 at ih75 h
      unfold wp_X2_insert_75 at h
      refine lv_iload_n hx hb dX2_insert_75 rfl (lv_at hl 3 rfl) ?_
      refine lv_iload_n hx hb dX2_insert_76 rfl (lv_at hl 1 rfl) ?_
      obtain ⟨h1, h2⟩ := h
      refine lv_icmp_le (tgt := 100) hx hb dX2_insert_77 (by decide) (fun c_1 => ?_) (fun c_1 => ?_)
      · have h := h1 c_1
        refine lv_aload_n hx hb dX2_insert_100 rfl (lv_at hl 0 rfl) ?_
        obtain ⟨fs_3, a_2, he_fs_3, hv_fs_3, h⟩ := h
        refine fw_get (C := RX2) (T := TX2) (N := 2) hx hb hts hin_X2 hown hK hF he_fs_3 rfl 0 (by decide) (hts (.fieldLink RX2 9 "FrontCodedIndex$IntRow" "cells" "[I") (by decide +kernel)) (fun _ h9 => h9) hv_fs_3 dX2_insert_101 ?_
        refine lv_iload_n hx hb dX2_insert_104 rfl (lv_at hl 1 rfl) ?_
        refine lv_iload_n hx hb dX2_insert_105 rfl (lv_at hl 2 rfl) ?_
        obtain ⟨n_q_4, q_4, he_q_4, hi_q_4, h⟩ := h
        refine fw_iast hx hb hK hF hS he_q_4 hi_q_4 dX2_insert_106 (fun H locs hF hS => ?_)
        obtain ⟨f_5, hf_f_5⟩ : ∃ z, z = fup f a_2 (.inl (1, n_q_4, .inl (upd q_4 (x1).toNatClampNeg x2))) := ⟨_, rfl⟩
        rw [← hf_f_5] at hF; have h := h f_5 hf_f_5
        refine lv_aload_n hx hb dX2_insert_107 rfl (lv_at hl 0 rfl) ?_
        refine lv_dup hx hb dX2_insert_108 rfl ?_
        obtain ⟨fs_7, v_6, he_fs_7, hv_fs_7, h⟩ := h
        refine fw_get (C := RX2) (T := TX2) (N := 2) hx hb hts hin_X2 hown hK hF he_fs_7 rfl 1 (by decide) (hts (.fieldLink RX2 13 "FrontCodedIndex$IntRow" "count" "I") (by decide +kernel)) (fun _ h9 => h9) hv_fs_7 dX2_insert_109 ?_
        refine lv_iconst (v := (1 : Int32)) hx hb dX2_insert_112 (by decide) ?_
        refine lv_iadd hx hb dX2_insert_113 ?_
        obtain ⟨fs_8, he_fs_8, hl_fs_8, h⟩ := h
        refine fw_put (v := .int (v_6 + (1 : Int32))) (ty := .int) (C := RX2) (T := TX2) (N := 2) hx hb hts hin_X2 tyX2 (tyX2_ok) nmX2 hown hK hF hS he_fs_8 rfl 1 (by decide) (hts (.fieldLink RX2 13 "FrontCodedIndex$IntRow" "count" "I") (by decide +kernel)) (fun _ h9 => h9) rfl (by decide +kernel) rfl rfl hl_fs_8 dX2_insert_114 (fun H locs hF hS => ?_)
        obtain ⟨f_9, hf_f_9⟩ : ∃ z, z = fup f_5 a0 (.inr (5, fs_8.set 1 (.int (v_6 + (1 : Int32))))) := ⟨_, rfl⟩
        rw [← hf_f_9] at hF; have h := h f_9 hf_f_9
        refine W.widen (k := mc) (n := ms) (by omega) (by omega) ?_
        exact W.vret hx hb hr (fun t ht hW => ⟨⟨f_9, rfl, h, by rw [ht]; exact hF, FK.moved hW.alike hK⟩, hS.F ht⟩) hS.2.2 dX2_insert_117
      · have h := h2 c_1
        refine lv_aload_n hx hb dX2_insert_80 rfl (lv_at hl 0 rfl) ?_
        obtain ⟨fs_11, a_10, he_fs_11, hv_fs_11, h⟩ := h
        refine fw_get (C := RX2) (T := TX2) (N := 2) hx hb hts hin_X2 hown hK hF he_fs_11 rfl 0 (by decide) (hts (.fieldLink RX2 9 "FrontCodedIndex$IntRow" "cells" "[I") (by decide +kernel)) (fun _ h9 => h9) hv_fs_11 dX2_insert_81 ?_
        refine lv_iload_n hx hb dX2_insert_84 rfl (lv_at hl 3 rfl) ?_
        refine lv_aload_n hx hb dX2_insert_85 rfl (lv_at hl 0 rfl) ?_
        obtain ⟨fs_13, a_12, he_fs_13, hv_fs_13, h⟩ := h
        refine fw_get (C := RX2) (T := TX2) (N := 2) hx hb hts hin_X2 hown hK hF he_fs_13 rfl 0 (by decide) (hts (.fieldLink RX2 9 "FrontCodedIndex$IntRow" "cells" "[I") (by decide +kernel)) (fun _ h9 => h9) hv_fs_13 dX2_insert_86 ?_
        refine lv_iload_n hx hb dX2_insert_89 rfl (lv_at hl 3 rfl) ?_
        refine lv_iconst (v := (1 : Int32)) hx hb dX2_insert_90 (by decide) ?_
        refine lv_isub hx hb dX2_insert_91 ?_
        obtain ⟨n_q_15, q_15, he_q_15, hi_q_15, h⟩ := h
        refine fw_iald hx hb hK hF he_q_15 hi_q_15 dX2_insert_92 ?_
        refine lv_topi (fun v_14 e_v_14 => ?_)
        have h := h v_14 e_v_14
        obtain ⟨n_q_16, q_16, he_q_16, hi_q_16, h⟩ := h
        refine fw_iast hx hb hK hF hS he_q_16 hi_q_16 dX2_insert_93 (fun H locs hF hS => ?_)
        obtain ⟨f_17, hf_f_17⟩ : ∃ z, z = fup f a_10 (.inl (1, n_q_16, .inl (upd q_16 (y3).toNatClampNeg v_14))) := ⟨_, rfl⟩
        rw [← hf_f_17] at hF; have h := h f_17 hf_f_17
        obtain ⟨v_18, e_19⟩ : ∃ y : Int32, y = y3 + (-1) := ⟨_, rfl⟩
        have h := h v_18 e_19
        refine lv_iinc (v := v_18) (lv' := [(3, .int v_18), (0, .ref a0), (1, .int x1), (2, .int x2)]) hx hb dX2_insert_94 hl (k := 3) rfl (by rw [e_19]; rfl) (by decide) rfl (fun ls hl => ?_)
        refine lv_goto (tgt := 75) hx hb dX2_insert_97 (by decide) ?_
        exact ih75 v_18 f_17 bc bs _ _ _ _ _ h hbc hbs hF hS (lv_sub hl [1, 2, 3, 0] rfl)
  have J45 : ∀ (f : FT) (bc : Nat) (bs : Nat) (H : Heap) (locs : List Loc) (ls : Array Slot) (cs sl : Nat), wp_X2_insert_45 a0 x1 x2 f bc bs K  → cs + bc ≤ mc → sl + bs ≤ ms → Fw G A f H → va_S A s.heap H locs → lv_has ls 4 [(0, .ref a0), (1, .int x1), (2, .int x2)] → W p l e ({ frames := 2, cells := mc, slots := ms, locals := 62 } : Room) s m ([.ref a0, .int x1, .int x2] : List Value).toArray below meth c H locs cs sl (MQ below (va_Qv (fun f9 => K f9 : FT → Prop) (FB G A) A) ([.ref a0, .int x1, .int x2] : List Value).toArray s mc ms A) (F0 m 45 ls []) := by
    intro f bc bs H locs ls cs sl h hbc hbs hF hS hl
    unfold wp_X2_insert_45 at h
    refine lv_iload_n hx hb dX2_insert_45 rfl (lv_at hl 1 rfl) ?_
    obtain ⟨h1, h2⟩ := h
    refine lv_if_lt (tgt := 69) hx hb dX2_insert_46 (by decide) (fun c_20 => ?_) (fun c_20 => ?_)
    · have h := h1 c_20
      refine W.widen (k := mc) (n := ms) (by omega) (by omega) ?_
      exact W.vret hx hb hr (fun t ht hW => ⟨⟨f, rfl, h, by rw [ht]; exact hF, FK.moved hW.alike hK⟩, hS.F ht⟩) hS.2.2 dX2_insert_69
    · have h := h2 c_20
      refine lv_iload_n hx hb dX2_insert_49 rfl (lv_at hl 1 rfl) ?_
      refine lv_aload_n hx hb dX2_insert_50 rfl (lv_at hl 0 rfl) ?_
      obtain ⟨fs_22, v_21, he_fs_22, hv_fs_22, h⟩ := h
      refine fw_get (C := RX2) (T := TX2) (N := 2) hx hb hts hin_X2 hown hK hF he_fs_22 rfl 1 (by decide) (hts (.fieldLink RX2 13 "FrontCodedIndex$IntRow" "count" "I") (by decide +kernel)) (fun _ h9 => h9) hv_fs_22 dX2_insert_51 ?_
      obtain ⟨h1, h2⟩ := h
      refine lv_icmp_gt (tgt := 69) hx hb dX2_insert_54 (by decide) (fun c_23 => ?_) (fun c_23 => ?_)
      · have h := h1 c_23
        refine W.widen (k := mc) (n := ms) (by omega) (by omega) ?_
        exact W.vret hx hb hr (fun t ht hW => ⟨⟨f, rfl, h, by rw [ht]; exact hF, FK.moved hW.alike hK⟩, hS.F ht⟩) hS.2.2 dX2_insert_69
      · have h := h2 c_23
        refine lv_aload_n hx hb dX2_insert_57 rfl (lv_at hl 0 rfl) ?_
        obtain ⟨fs_25, v_24, he_fs_25, hv_fs_25, h⟩ := h
        refine fw_get (C := RX2) (T := TX2) (N := 2) hx hb hts hin_X2 hown hK hF he_fs_25 rfl 1 (by decide) (hts (.fieldLink RX2 13 "FrontCodedIndex$IntRow" "count" "I") (by decide +kernel)) (fun _ h9 => h9) hv_fs_25 dX2_insert_58 ?_
        refine lv_aload_n hx hb dX2_insert_61 rfl (lv_at hl 0 rfl) ?_
        obtain ⟨fs_27, a_26, he_fs_27, hv_fs_27, h⟩ := h
        refine fw_get (C := RX2) (T := TX2) (N := 2) hx hb hts hin_X2 hown hK hF he_fs_27 rfl 0 (by decide) (hts (.fieldLink RX2 9 "FrontCodedIndex$IntRow" "cells" "[I") (by decide +kernel)) (fun _ h9 => h9) hv_fs_27 dX2_insert_62 ?_
        obtain ⟨t_q_29, q_29, he_q_29, ht_q_29, h⟩ := h
        refine fw_alen hx hb hK hF he_q_29 ht_q_29 dX2_insert_65 ?_
        refine lv_topi (fun v_28 e_v_28 => ?_)
        have h := h v_28 e_v_28
        obtain ⟨h1, h2⟩ := h
        refine lv_icmp_lt (tgt := 70) hx hb dX2_insert_66 (by decide) (fun c_30 => ?_) (fun c_30 => ?_)
        · have h := h1 c_30
          refine lv_aload_n hx hb dX2_insert_70 rfl (lv_at hl 0 rfl) ?_
          obtain ⟨fs_32, v_31, he_fs_32, hv_fs_32, h⟩ := h
          refine fw_get (C := RX2) (T := TX2) (N := 2) hx hb hts hin_X2 hown hK hF he_fs_32 rfl 1 (by decide) (hts (.fieldLink RX2 13 "FrontCodedIndex$IntRow" "count" "I") (by decide +kernel)) (fun _ h9 => h9) hv_fs_32 dX2_insert_71 ?_
          refine lv_istore_n (lv' := [(3, .int v_31), (0, .ref a0), (1, .int x1), (2, .int x2)]) hx hb dX2_insert_74 rfl hl (by decide) rfl (fun ls hl => ?_)
          obtain ⟨n_33, h⟩ := h
          exact L75 n_33 v_31 f bc bs _ _ _ _ _ h hbc hbs hF hS (lv_sub hl [1, 2, 3, 0] rfl)
        · have h := h2 c_30
          refine W.widen (k := mc) (n := ms) (by omega) (by omega) ?_
          exact W.vret hx hb hr (fun t ht hW => ⟨⟨f, rfl, h, by rw [ht]; exact hF, FK.moved hW.alike hK⟩, hS.F ht⟩) hS.2.2 dX2_insert_69
  have hl := lv_entry ([.ref a0, .int x1, .int x2]) (n := 4) (Nat.le_of_ble_eq_true rfl)
  rw [lg_entry_eq]
  generalize (lg_sl ([.ref a0, .int x1, .int x2]) ++ List.replicate (4 - (lg_sl ([.ref a0, .int x1, .int x2])).length) Slot.unset).toArray = ls at hl ⊢
  have hl : lv_has ls 4 [(0, .ref a0), (1, .int x1), (2, .int x2)] := hl
  unfold wp_X2_insert at h
  refine lv_aload_n hx hb dX2_insert_0 rfl (lv_at hl 0 rfl) ?_
  obtain ⟨fs_35, v_34, he_fs_35, hv_fs_35, h⟩ := h
  refine fw_get (C := RX2) (T := TX2) (N := 2) hx hb hts hin_X2 hown hK hF he_fs_35 rfl 1 (by decide) (hts (.fieldLink RX2 13 "FrontCodedIndex$IntRow" "count" "I") (by decide +kernel)) (fun _ h9 => h9) hv_fs_35 dX2_insert_1 ?_
  refine lv_aload_n hx hb dX2_insert_4 rfl (lv_at hl 0 rfl) ?_
  obtain ⟨fs_37, a_36, he_fs_37, hv_fs_37, h⟩ := h
  refine fw_get (C := RX2) (T := TX2) (N := 2) hx hb hts hin_X2 hown hK hF he_fs_37 rfl 0 (by decide) (hts (.fieldLink RX2 9 "FrontCodedIndex$IntRow" "cells" "[I") (by decide +kernel)) (fun _ h9 => h9) hv_fs_37 dX2_insert_5 ?_
  obtain ⟨t_q_39, q_39, he_q_39, ht_q_39, h⟩ := h
  refine fw_alen hx hb hK hF he_q_39 ht_q_39 dX2_insert_8 ?_
  refine lv_topi (fun v_38 e_v_38 => ?_)
  have h := h v_38 e_v_38
  obtain ⟨h1, h2⟩ := h
  refine lv_icmp_lt (tgt := 45) hx hb dX2_insert_9 (by decide) (fun c_40 => ?_) (fun c_40 => ?_)
  · have h := h1 c_40
    exact J45 f mc ms _ _ _ _ _ h hbc hbs hF hS (lv_sub hl [0, 1, 2] rfl)
  · have h := h2 c_40
    refine lv_aload_n hx hb dX2_insert_12 rfl (lv_at hl 0 rfl) ?_
    obtain ⟨fs_42, a_41, he_fs_42, hv_fs_42, h⟩ := h
    refine fw_get (C := RX2) (T := TX2) (N := 2) hx hb hts hin_X2 hown hK hF he_fs_42 rfl 0 (by decide) (hts (.fieldLink RX2 9 "FrontCodedIndex$IntRow" "cells" "[I") (by decide +kernel)) (fun _ h9 => h9) hv_fs_42 dX2_insert_13 ?_
    obtain ⟨t_q_44, q_44, he_q_44, ht_q_44, h⟩ := h
    refine fw_alen hx hb hK hF he_q_44 ht_q_44 dX2_insert_16 ?_
    refine lv_topi (fun v_43 e_v_43 => ?_)
    have h := h v_43 e_v_43
    refine lv_sipush (v := (4096 : Int32)) hx hb dX2_insert_17 (by decide) ?_
    obtain ⟨h1, h2⟩ := h
    refine lv_icmp_ge (tgt := 45) hx hb dX2_insert_20 (by decide) (fun c_45 => ?_) (fun c_45 => ?_)
    · have h := h1 c_45
      exact J45 f mc ms _ _ _ _ _ h hbc hbs hF hS (lv_sub hl [0, 1, 2] rfl)
    · have h := h2 c_45
      refine lv_aload_n hx hb dX2_insert_23 rfl (lv_at hl 0 rfl) ?_
      refine lv_aload_n hx hb dX2_insert_24 rfl (lv_at hl 0 rfl) ?_
      obtain ⟨fs_47, a_46, he_fs_47, hv_fs_47, h⟩ := h
      refine fw_get (C := RX2) (T := TX2) (N := 2) hx hb hts hin_X2 hown hK hF he_fs_47 rfl 0 (by decide) (hts (.fieldLink RX2 9 "FrontCodedIndex$IntRow" "cells" "[I") (by decide +kernel)) (fun _ h9 => h9) hv_fs_47 dX2_insert_25 ?_
      refine lv_aload_n hx hb dX2_insert_28 rfl (lv_at hl 0 rfl) ?_
      obtain ⟨fs_49, a_48, he_fs_49, hv_fs_49, h⟩ := h
      refine fw_get (C := RX2) (T := TX2) (N := 2) hx hb hts hin_X2 hown hK hF he_fs_49 rfl 0 (by decide) (hts (.fieldLink RX2 9 "FrontCodedIndex$IntRow" "cells" "[I") (by decide +kernel)) (fun _ h9 => h9) hv_fs_49 dX2_insert_29 ?_
      obtain ⟨t_q_51, q_51, he_q_51, ht_q_51, h⟩ := h
      refine fw_alen hx hb hK hF he_q_51 ht_q_51 dX2_insert_32 ?_
      refine lv_topi (fun v_50 e_v_50 => ?_)
      have h := h v_50 e_v_50
      refine lv_aload_n hx hb dX2_insert_33 rfl (lv_at hl 0 rfl) ?_
      obtain ⟨fs_53, a_52, he_fs_53, hv_fs_53, h⟩ := h
      refine fw_get (C := RX2) (T := TX2) (N := 2) hx hb hts hin_X2 hown hK hF he_fs_53 rfl 0 (by decide) (hts (.fieldLink RX2 9 "FrontCodedIndex$IntRow" "cells" "[I") (by decide +kernel)) (fun _ h9 => h9) hv_fs_53 dX2_insert_34 ?_
      obtain ⟨t_q_55, q_55, he_q_55, ht_q_55, h⟩ := h
      refine fw_alen hx hb hK hF he_q_55 ht_q_55 dX2_insert_37 ?_
      refine lv_topi (fun v_54 e_v_54 => ?_)
      have h := h v_54 e_v_54
      refine lv_iadd hx hb dX2_insert_38 ?_
      obtain ⟨ga_58, gb_59, hga_ga_58, hgb_ga_58, h⟩ := h
      refine fw_cS_q_w (As := [.ref a_46, .int (v_50 + v_54)]) (rest := [.ref a0]) ⟨hx, hb, hml, hown, hts⟩ (cc_J7_copyOf_59c91 l G h) (⟨callB_of 2 hts ggX2_insert_J7_copyOf_59c91 rfl rfl rfl (hts (.initialized RJ7) (by decide +kernel)) (hts (.methodLink RX2 21 yJ7_copyOf_59c91) (by decide +kernel)) (by decide +kernel) ⟨Nat.le_of_ble_eq_true rfl, Nat.le_of_ble_eq_true rfl⟩, hts (.static yJ7_copyOf_59c91) (by decide +kernel)⟩) hK hZ hF hS hA rfl hl.1 rfl (Nat.le_of_ble_eq_true rfl) dX2_insert_39 ⟨by show _ ≤ mc; omega, by show _ ≤ ms; omega⟩ (fun a_56 f_57 H locs h hF hS => ?_)
      obtain ⟨cs_60, hcs⟩ : ∃ z, z = (0 + ga_58) := ⟨_, rfl⟩; obtain ⟨sl_61, hsl⟩ : ∃ z, z = (0 + gb_59) := ⟨_, rfl⟩
      have hbc : cs_60 + (mc - ga_58) ≤ mc := by omega
      have hbs : sl_61 + (ms - gb_59) ≤ ms := by omega
      refine W.widen (k := cs_60) (n := sl_61) (by omega) (by omega) ?_
      clear hcs hsl
      obtain ⟨fs_62, he_fs_62, hl_fs_62, h⟩ := h
      refine fw_put (v := .ref a_56) (ty := (.array .int)) (C := RX2) (T := TX2) (N := 2) hx hb hts hin_X2 tyX2 (tyX2_ok) nmX2 hown hK hF hS he_fs_62 rfl 0 (by decide) (hts (.fieldLink RX2 9 "FrontCodedIndex$IntRow" "cells" "[I") (by decide +kernel)) (fun _ h9 => h9) rfl (by decide +kernel) rfl rfl hl_fs_62 dX2_insert_42 (fun H locs hF hS => ?_)
      obtain ⟨f_63, hf_f_63⟩ : ∃ z, z = fup f_57 a0 (.inr (5, fs_62.set 0 (.ref a_56))) := ⟨_, rfl⟩
      rw [← hf_f_63] at hF; have h := h f_63 hf_f_63
      exact J45 f_63 (mc - ga_58) (ms - gb_59) _ _ _ _ _ h hbc hbs hF hS (lv_sub hl [0, 1, 2] rfl)
theorem dX7_tier_0 : decode cX7_tier 0 = .ok (.iload_n 1, 1) := by decide +kernel
theorem dX7_tier_1 : decode cX7_tier 1 = .ok (.ifCond .lt 28, 3) := by decide +kernel
theorem dX7_tier_4 : decode cX7_tier 4 = .ok (.iload_n 1, 1) := by decide +kernel
theorem dX7_tier_5 : decode cX7_tier 5 = .ok (.aload_n 0, 1) := by decide +kernel
theorem dX7_tier_6 : decode cX7_tier 6 = .ok (.getfield 31, 3) := by decide +kernel
theorem dX7_tier_9 : decode cX7_tier 9 = .ok (.invokevirtual 62, 3) := by decide +kernel
theorem dX7_tier_12 : decode cX7_tier 12 = .ok (.if_icmp .ge 17, 3) := by decide +kernel
theorem dX7_tier_15 : decode cX7_tier 15 = .ok (.aload_n 0, 1) := by decide +kernel
theorem dX7_tier_16 : decode cX7_tier 16 = .ok (.getfield 31, 3) := by decide +kernel
theorem dX7_tier_19 : decode cX7_tier 19 = .ok (.iload_n 1, 1) := by decide +kernel
theorem dX7_tier_20 : decode cX7_tier 20 = .ok (.invokevirtual 66, 3) := by decide +kernel
theorem dX7_tier_23 : decode cX7_tier 23 = .ok (.checkcast 18, 3) := by decide +kernel
theorem dX7_tier_26 : decode cX7_tier 26 = .ok (.goto 7, 3) := by decide +kernel
theorem dX7_tier_29 : decode cX7_tier 29 = .ok (.aload_n 0, 1) := by decide +kernel
theorem dX7_tier_30 : decode cX7_tier 30 = .ok (.getfield 35, 3) := by decide +kernel
theorem dX7_tier_33 : decode cX7_tier 33 = .ok (.areturn, 1) := by decide +kernel
set_option maxRecDepth 20000 in
theorem ggX7_tier_Jx4a65c_get_915e3 : GoodIn wsX7_tier wsJx4a65c_get_915e3 := goodIn_r _ [13, 9, 14, 15, 16, 17, 18, 19, 20, 21, 22, 23, 24, 7, 25, 26, 35, 36, 37] (by decide +kernel) (by decide +kernel)
set_option maxRecDepth 20000 in
theorem ggX7_tier_Jx4a65c_size_8abf5 : GoodIn wsX7_tier wsJx4a65c_size_8abf5 := goodIn_r _ [8, 9, 35, 36, 37] (by decide +kernel) (by decide +kernel)
def wp_X7_tier (a0 : Nat) (x1 : Int32) (f : FT) (K : Nat → Prop) : Prop :=
  ((x1 < (0 : Int32) → gA f a0 10 4 fun a_2 => K a_2) ∧
 (¬ (x1 < (0 : Int32)) → gA f a0 10 3 fun a_4 => isO f a_4 2 ∧ wp_Jx4a65c_size_8abf5 a_4 f (fun r_6 => ((r_6 ≤ x1 → gA f a0 10 4 fun a_8 => K a_8) ∧
 (¬ (r_6 ≤ x1) → gA f a0 10 3 fun a_10 => isO f a_10 2 ∧ wp_Jx4a65c_get_915e3 a_10 x1 f (fun a_12 => isO f a_12 5 ∧ K a_12))))))
set_option maxHeartbeats 4000000 in
set_option maxRecDepth 100000 in
theorem cc_X7_tier (l : Launch) (G : GG) {f : FT} {sz : Nat} {a0 : Nat} {x1 : Int32} {K : Nat → Prop} (h : wp_X7_tier a0 x1 f K) : Met l yX7_tier wsX7_tier ({ frames := 3, cells := 0, slots := 0, locals := 64 } : Room) (FP G [.ref a0, .int x1] f sz) (va_Qq (fun r f9 => ∃ q, r = some q ∧ K q ∧ f9 = f : Option Nat → FT → Prop) (FB G (fA f sz)) (fA f sz)) 0 0 (fA f sz) := by
  refine Met.ofW (cc := cX7_tier) (maxL := 2) (ret := (some (.object "FrontCodedIndex$IntRow"))) (by decide) rfl ?_
  intro p e s m args below meth c s₁ B hml hv
  obtain ⟨rfl, hsz, hF, hK, hZ⟩ := hv
  have hx := B.exec
  have hb := B.bytes
  have hr := B.returns
  have hts := atoms_spec (ws := wsX7_tier) B.pre
  have hown : s.vm.findClass RX7 = some m.cls := findClass_of_methodNamed B.named
  have hlocks := B.notSynchronized
  subst hsz
  have hF := hF.self (sz := s.heap.size)
  generalize hAe : fA f s.heap.size = A at hF hZ ⊢
  have hA : ∀ q : Nat, s.heap.size ≤ q → A q := fun q h => by rw [← hAe]; exact Or.inr h
  have hS : va_S A s.heap s.heap [] := va_S.rf
  have hin_X7 : ∀ w ∈ wsX70, w ∈ wsX7_tier := by decide +kernel
  have hl := lv_entry ([.ref a0, .int x1]) (n := 2) (Nat.le_of_ble_eq_true rfl)
  rw [lg_entry_eq]
  generalize (lg_sl ([.ref a0, .int x1]) ++ List.replicate (2 - (lg_sl ([.ref a0, .int x1])).length) Slot.unset).toArray = ls at hl ⊢
  have hl : lv_has ls 2 [(0, .ref a0), (1, .int x1)] := hl
  unfold wp_X7_tier at h
  refine lv_iload_n hx hb dX7_tier_0 rfl (lv_at hl 1 rfl) ?_
  obtain ⟨h1, h2⟩ := h
  refine lv_if_lt (tgt := 29) hx hb dX7_tier_1 (by decide) (fun c_1 => ?_) (fun c_1 => ?_)
  · have h := h1 c_1
    refine lv_aload_n hx hb dX7_tier_29 rfl (lv_at hl 0 rfl) ?_
    obtain ⟨fs_3, a_2, he_fs_3, hv_fs_3, h⟩ := h
    refine fw_get (C := RX7) (T := TX7) (N := 8) hx hb hts hin_X7 hown hK hF he_fs_3 rfl 4 (by decide) (hts (.fieldLink RX7 35 "FrontCodedIndex$Tree" "noTier" "LFrontCodedIndex$IntRow;") (by decide +kernel)) (fun _ h9 => h9) hv_fs_3 dX7_tier_30 ?_
    exact W.aret (v := .ref a_2) hx hb hr (Or.inl ⟨_, rfl⟩) (Or.inr ⟨a_2, rfl⟩) (fun t ht hW => ⟨⟨some a_2, f, rfl, ⟨_, rfl, ⟨h, rfl⟩⟩, by rw [ht]; exact hF, FK.moved hW.alike hK⟩, hS.F ht⟩) hS.2.2 dX7_tier_33
  · have h := h2 c_1
    refine lv_iload_n hx hb dX7_tier_4 rfl (lv_at hl 1 rfl) ?_
    refine lv_aload_n hx hb dX7_tier_5 rfl (lv_at hl 0 rfl) ?_
    obtain ⟨fs_5, a_4, he_fs_5, hv_fs_5, h⟩ := h
    refine fw_get (C := RX7) (T := TX7) (N := 8) hx hb hts hin_X7 hown hK hF he_fs_5 rfl 3 (by decide) (hts (.fieldLink RX7 31 "FrontCodedIndex$Tree" "tiers" "Ljava/util/ArrayList;") (by decide +kernel)) (fun _ h9 => h9) hv_fs_5 dX7_tier_6 ?_
    obtain ⟨⟨fs_r_6, hrc_r_6⟩, h⟩ := h
    refine fw_cV_i_p (As := []) (rest := [.int x1]) ⟨hx, hb, hml, hown, hts⟩ (cc_Jx4a65c_size_8abf5 l G h) (⟨callB_of 0 hts ggX7_tier_Jx4a65c_size_8abf5 rfl rfl rfl (hts (.initialized RJx4a65c) (by decide +kernel)) (hts (.methodLink RX7 62 yJx4a65c_size_8abf5) (by decide +kernel)) (by decide +kernel) ⟨Nat.le_of_ble_eq_true rfl, Nat.le_of_ble_eq_true rfl⟩, hts (.instanceMethod yJx4a65c_size_8abf5) (by decide +kernel), hts (.selects RJx4a65c yJx4a65c_size_8abf5 yJx4a65c_size_8abf5) (by decide +kernel)⟩) rfl hrc_r_6 hK hZ hF hS hA rfl hl.1 rfl (Nat.le_of_ble_eq_true rfl) dX7_tier_9 ⟨Nat.zero_le _, Nat.zero_le _⟩ (fun r_6 H locs h hF hS => ?_)
    obtain ⟨h1, h2⟩ := h
    refine lv_icmp_ge (tgt := 29) hx hb dX7_tier_12 (by decide) (fun c_7 => ?_) (fun c_7 => ?_)
    · have h := h1 c_7
      refine lv_aload_n hx hb dX7_tier_29 rfl (lv_at hl 0 rfl) ?_
      obtain ⟨fs_9, a_8, he_fs_9, hv_fs_9, h⟩ := h
      refine fw_get (C := RX7) (T := TX7) (N := 8) hx hb hts hin_X7 hown hK hF he_fs_9 rfl 4 (by decide) (hts (.fieldLink RX7 35 "FrontCodedIndex$Tree" "noTier" "LFrontCodedIndex$IntRow;") (by decide +kernel)) (fun _ h9 => h9) hv_fs_9 dX7_tier_30 ?_
      exact W.aret (v := .ref a_8) hx hb hr (Or.inl ⟨_, rfl⟩) (Or.inr ⟨a_8, rfl⟩) (fun t ht hW => ⟨⟨some a_8, f, rfl, ⟨_, rfl, ⟨h, rfl⟩⟩, by rw [ht]; exact hF, FK.moved hW.alike hK⟩, hS.F ht⟩) hS.2.2 dX7_tier_33
    · have h := h2 c_7
      refine lv_aload_n hx hb dX7_tier_15 rfl (lv_at hl 0 rfl) ?_
      obtain ⟨fs_11, a_10, he_fs_11, hv_fs_11, h⟩ := h
      refine fw_get (C := RX7) (T := TX7) (N := 8) hx hb hts hin_X7 hown hK hF he_fs_11 rfl 3 (by decide) (hts (.fieldLink RX7 31 "FrontCodedIndex$Tree" "tiers" "Ljava/util/ArrayList;") (by decide +kernel)) (fun _ h9 => h9) hv_fs_11 dX7_tier_16 ?_
      refine lv_iload_n hx hb dX7_tier_19 rfl (lv_at hl 1 rfl) ?_
      obtain ⟨⟨fs_a_12, hrc_a_12⟩, h⟩ := h
      refine fw_cV_q_p (As := [.int x1]) (rest := []) ⟨hx, hb, hml, hown, hts⟩ (cc_Jx4a65c_get_915e3 l G h) (⟨callB_of 1 hts ggX7_tier_Jx4a65c_get_915e3 rfl rfl rfl (hts (.initialized RJx4a65c) (by decide +kernel)) (hts (.methodLink RX7 66 yJx4a65c_get_915e3) (by decide +kernel)) (by decide +kernel) ⟨Nat.le_of_ble_eq_true rfl, Nat.le_of_ble_eq_true rfl⟩, hts (.instanceMethod yJx4a65c_get_915e3) (by decide +kernel), hts (.selects RJx4a65c yJx4a65c_get_915e3 yJx4a65c_get_915e3) (by decide +kernel)⟩) rfl hrc_a_12 hK hZ hF hS hA rfl hl.1 rfl (Nat.le_of_ble_eq_true rfl) dX7_tier_20 ⟨Nat.zero_le _, Nat.zero_le _⟩ (fun a_12 H locs h hF hS => ?_)
      obtain ⟨⟨q_13, he_q_13⟩, h⟩ := h
      refine va_castS hx hb hown (hts (.classLink RX7 18 RX2) (by decide +kernel)) (hK.1.1 5 _ rfl).2 (Fw.recv hK hF rfl he_q_13) dX7_tier_23 ?_
      refine lv_goto (tgt := 33) hx hb dX7_tier_26 (by decide) ?_
      exact W.aret (v := .ref a_12) hx hb hr (Or.inl ⟨_, rfl⟩) (Or.inr ⟨a_12, rfl⟩) (fun t ht hW => ⟨⟨some a_12, f, rfl, ⟨_, rfl, ⟨h, rfl⟩⟩, by rw [ht]; exact hF, FK.moved hW.alike hK⟩, hS.F ht⟩) hS.2.2 dX7_tier_33
theorem dX2_addFrom_0 : decode cX2_addFrom 0 = .ok (.iload_n 1, 1) := by decide +kernel
theorem dX2_addFrom_1 : decode cX2_addFrom 1 = .ok (.iconst 0, 1) := by decide +kernel
theorem dX2_addFrom_2 : decode cX2_addFrom 2 = .ok (.invokestatic 27, 3) := by decide +kernel
theorem dX2_addFrom_5 : decode cX2_addFrom 5 = .ok (.istore_n 3, 1) := by decide +kernel
theorem dX2_addFrom_6 : decode cX2_addFrom 6 = .ok (.iload_n 3, 1) := by decide +kernel
theorem dX2_addFrom_7 : decode cX2_addFrom 7 = .ok (.aload_n 0, 1) := by decide +kernel
theorem dX2_addFrom_8 : decode cX2_addFrom 8 = .ok (.getfield 13, 3) := by decide +kernel
theorem dX2_addFrom_11 : decode cX2_addFrom 11 = .ok (.if_icmp .ge 28, 3) := by decide +kernel
theorem dX2_addFrom_14 : decode cX2_addFrom 14 = .ok (.iload_n 3, 1) := by decide +kernel
theorem dX2_addFrom_15 : decode cX2_addFrom 15 = .ok (.aload_n 0, 1) := by decide +kernel
theorem dX2_addFrom_16 : decode cX2_addFrom 16 = .ok (.getfield 9, 3) := by decide +kernel
theorem dX2_addFrom_19 : decode cX2_addFrom 19 = .ok (.arraylength, 1) := by decide +kernel
theorem dX2_addFrom_20 : decode cX2_addFrom 20 = .ok (.if_icmp .ge 19, 3) := by decide +kernel
theorem dX2_addFrom_23 : decode cX2_addFrom 23 = .ok (.aload_n 0, 1) := by decide +kernel
theorem dX2_addFrom_24 : decode cX2_addFrom 24 = .ok (.getfield 9, 3) := by decide +kernel
theorem dX2_addFrom_27 : decode cX2_addFrom 27 = .ok (.iload_n 3, 1) := by decide +kernel
theorem dX2_addFrom_28 : decode cX2_addFrom 28 = .ok (.dup2, 1) := by decide +kernel
theorem dX2_addFrom_29 : decode cX2_addFrom 29 = .ok (.iaload, 1) := by decide +kernel
theorem dX2_addFrom_30 : decode cX2_addFrom 30 = .ok (.iload_n 2, 1) := by decide +kernel
theorem dX2_addFrom_31 : decode cX2_addFrom 31 = .ok (.iadd, 1) := by decide +kernel
theorem dX2_addFrom_32 : decode cX2_addFrom 32 = .ok (.iastore, 1) := by decide +kernel
theorem dX2_addFrom_33 : decode cX2_addFrom 33 = .ok (.iinc 3 1, 3) := by decide +kernel
theorem dX2_addFrom_36 : decode cX2_addFrom 36 = .ok (.goto (-30), 3) := by decide +kernel
theorem dX2_addFrom_39 : decode cX2_addFrom 39 = .ok (.return_, 1) := by decide +kernel
def wp_X2_addFrom_6 (a0 : Nat) (x2 : Int32) (K : FT → Prop)  (C6 : Int32 × FT → Prop) : Int32 × FT → Prop := fun s9 => match s9 with
  | (y3, f) => gI f a0 5 1 fun v_1 => ((v_1 ≤ y3 → K f) ∧
 (¬ (v_1 ≤ y3) → gA f a0 5 0 fun a_4 => aL f a_4 fun v_6 => ((v_6 ≤ y3 → K f) ∧
 (¬ (v_6 ≤ y3) → gA f a0 5 0 fun a_9 => aI f a_9 1 y3 fun v_11 => sI f a_9 y3 (v_11 + x2) fun f_14 => ∀ v_15 : Int32, v_15 = y3 + 1 → C6 (v_15, f_14)))))
def wp_X2_addFrom (a0 : Nat) (x1 : Int32) (x2 : Int32) (f : FT) (K : FT → Prop) : Prop :=
  ∀ v_17 : Int32, v_17 = (jmax x1 (0 : Int32)) → ∃ n_18, loopW (wp_X2_addFrom_6 a0 x2 K) n_18 (v_17, f)
set_option maxHeartbeats 4000000 in
set_option maxRecDepth 100000 in
theorem cc_X2_addFrom (l : Launch) (G : GG) {f : FT} {sz : Nat} {a0 : Nat} {x1 : Int32} {x2 : Int32} {K : FT → Prop} (h : wp_X2_addFrom a0 x1 x2 f K) : Met l yX2_addFrom wsX2_addFrom ({ frames := 1, cells := 0, slots := 0, locals := 21 } : Room) (FP G [.ref a0, .int x1, .int x2] f sz) (va_Qv (fun f9 => K f9 : FT → Prop) (FB G (fA f sz)) (fA f sz)) 0 0 (fA f sz) := by
  refine Met.ofW (cc := cX2_addFrom) (maxL := 4) (ret := none) (by decide) rfl ?_
  intro p e s m args below meth c s₁ B hml hv
  obtain ⟨rfl, hsz, hF, hK, hZ⟩ := hv
  have hx := B.exec
  have hb := B.bytes
  have hr := B.returns
  have hts := atoms_spec (ws := wsX2_addFrom) B.pre
  have hown : s.vm.findClass RX2 = some m.cls := findClass_of_methodNamed B.named
  have hlocks := B.notSynchronized
  subst hsz
  have hF := hF.self (sz := s.heap.size)
  generalize hAe : fA f s.heap.size = A at hF hZ ⊢
  have hA : ∀ q : Nat, s.heap.size ≤ q → A q := fun q h => by rw [← hAe]; exact Or.inr h
  have hS : va_S A s.heap s.heap [] := va_S.rf
  have hin_X2 : ∀ w ∈ wsX20, w ∈ wsX2_addFrom := by decide +kernel
  have L6 : ∀  (j9 : Nat) (y3 : Int32) (f : FT) (H : Heap) (locs : List Loc) (ls : Array Slot), loopW (wp_X2_addFrom_6 a0 x2 K ) j9 (y3, f) → Fw G A f H → va_S A s.heap H locs → lv_has ls 4 [(0, .ref a0), (2, .int x2), (3, .int y3)] → W p l e ({ frames := 1, cells := 0, slots := 0, locals := 21 } : Room) s m ([.ref a0, .int x1, .int x2] : List Value).toArray below meth c H locs 0 0 (MQ below (va_Qv (fun f9 => K f9 : FT → Prop) (FB G A) A) ([.ref a0, .int x1, .int x2] : List Value).toArray s 0 0 A) (F0 m 6 ls []) := by
    intro  j9
    induction j9 with
    | zero => intro y3 f H locs ls h; exact h.elim
    | succ j9 ih6 =>
      intro y3 f H locs ls h hF hS hl
      have h : wp_X2_addFrom_6 a0 x2 K  (loopW (wp_X2_addFrom_6 a0 x2 K ) j9) (y3, f) := h
      generalize loopW (wp_X2_addFrom_6 a0 x2 K ) j9 = C6 at ih6 h
      unfold wp_X2_addFrom_6 at h
      refine lv_iload_n hx hb dX2_addFrom_6 rfl (lv_at hl 2 rfl) ?_
      refine lv_aload_n hx hb dX2_addFrom_7 rfl (lv_at hl 0 rfl) ?_
      obtain ⟨fs_2, v_1, he_fs_2, hv_fs_2, h⟩ := h
      refine fw_get (C := RX2) (T := TX2) (N := 2) hx hb hts hin_X2 hown hK hF he_fs_2 rfl 1 (by decide) (hts (.fieldLink RX2 13 "FrontCodedIndex$IntRow" "count" "I") (by decide +kernel)) (fun _ h9 => h9) hv_fs_2 dX2_addFrom_8 ?_
      obtain ⟨h1, h2⟩ := h
      refine lv_icmp_ge (tgt := 39) hx hb dX2_addFrom_11 (by decide) (fun c_3 => ?_) (fun c_3 => ?_)
      · have h := h1 c_3
        exact W.vret hx hb hr (fun t ht hW => ⟨⟨f, rfl, h, by rw [ht]; exact hF, FK.moved hW.alike hK⟩, hS.F ht⟩) hS.2.2 dX2_addFrom_39
      · have h := h2 c_3
        refine lv_iload_n hx hb dX2_addFrom_14 rfl (lv_at hl 2 rfl) ?_
        refine lv_aload_n hx hb dX2_addFrom_15 rfl (lv_at hl 0 rfl) ?_
        obtain ⟨fs_5, a_4, he_fs_5, hv_fs_5, h⟩ := h
        refine fw_get (C := RX2) (T := TX2) (N := 2) hx hb hts hin_X2 hown hK hF he_fs_5 rfl 0 (by decide) (hts (.fieldLink RX2 9 "FrontCodedIndex$IntRow" "cells" "[I") (by decide +kernel)) (fun _ h9 => h9) hv_fs_5 dX2_addFrom_16 ?_
        obtain ⟨t_q_7, q_7, he_q_7, ht_q_7, h⟩ := h
        refine fw_alen hx hb hK hF he_q_7 ht_q_7 dX2_addFrom_19 ?_
        refine lv_topi (fun v_6 e_v_6 => ?_)
        have h := h v_6 e_v_6
        obtain ⟨h1, h2⟩ := h
        refine lv_icmp_ge (tgt := 39) hx hb dX2_addFrom_20 (by decide) (fun c_8 => ?_) (fun c_8 => ?_)
        · have h := h1 c_8
          exact W.vret hx hb hr (fun t ht hW => ⟨⟨f, rfl, h, by rw [ht]; exact hF, FK.moved hW.alike hK⟩, hS.F ht⟩) hS.2.2 dX2_addFrom_39
        · have h := h2 c_8
          refine lv_aload_n hx hb dX2_addFrom_23 rfl (lv_at hl 0 rfl) ?_
          obtain ⟨fs_10, a_9, he_fs_10, hv_fs_10, h⟩ := h
          refine fw_get (C := RX2) (T := TX2) (N := 2) hx hb hts hin_X2 hown hK hF he_fs_10 rfl 0 (by decide) (hts (.fieldLink RX2 9 "FrontCodedIndex$IntRow" "cells" "[I") (by decide +kernel)) (fun _ h9 => h9) hv_fs_10 dX2_addFrom_24 ?_
          refine lv_iload_n hx hb dX2_addFrom_27 rfl (lv_at hl 2 rfl) ?_
          refine lv_dup2_11 hx hb dX2_addFrom_28 rfl rfl ?_
          obtain ⟨n_q_12, q_12, he_q_12, hi_q_12, h⟩ := h
          refine fw_iald hx hb hK hF he_q_12 hi_q_12 dX2_addFrom_29 ?_
          refine lv_topi (fun v_11 e_v_11 => ?_)
          have h := h v_11 e_v_11
          refine lv_iload_n hx hb dX2_addFrom_30 rfl (lv_at hl 1 rfl) ?_
          refine lv_iadd hx hb dX2_addFrom_31 ?_
          obtain ⟨n_q_13, q_13, he_q_13, hi_q_13, h⟩ := h
          refine fw_iast hx hb hK hF hS he_q_13 hi_q_13 dX2_addFrom_32 (fun H locs hF hS => ?_)
          obtain ⟨f_14, hf_f_14⟩ : ∃ z, z = fup f a_9 (.inl (1, n_q_13, .inl (upd q_13 (y3).toNatClampNeg (v_11 + x2)))) := ⟨_, rfl⟩
          rw [← hf_f_14] at hF; have h := h f_14 hf_f_14
          obtain ⟨v_15, e_16⟩ : ∃ y : Int32, y = y3 + 1 := ⟨_, rfl⟩
          have h := h v_15 e_16
          refine lv_iinc (v := v_15) (lv' := [(3, .int v_15), (0, .ref a0), (2, .int x2)]) hx hb dX2_addFrom_33 hl (k := 2) rfl (by rw [e_16]; rfl) (by decide) rfl (fun ls hl => ?_)
          refine lv_goto (tgt := 6) hx hb dX2_addFrom_36 (by decide) ?_
          exact ih6 v_15 f_14 _ _ _ h hF hS (lv_sub hl [1, 2, 0] rfl)
  have hl := lv_entry ([.ref a0, .int x1, .int x2]) (n := 4) (Nat.le_of_ble_eq_true rfl)
  rw [lg_entry_eq]
  generalize (lg_sl ([.ref a0, .int x1, .int x2]) ++ List.replicate (4 - (lg_sl ([.ref a0, .int x1, .int x2])).length) Slot.unset).toArray = ls at hl ⊢
  have hl : lv_has ls 4 [(0, .ref a0), (1, .int x1), (2, .int x2)] := hl
  unfold wp_X2_addFrom at h
  refine lv_iload_n hx hb dX2_addFrom_0 rfl (lv_at hl 1 rfl) ?_
  refine lv_iconst (v := (0 : Int32)) hx hb dX2_addFrom_1 (by decide) ?_
  refine va_mmax hx hb (hml.trans hl.1.symm) hown (hts (.methodLink RX2 27 Lib.Math.max.name) (by decide +kernel)) (hts (.static Lib.Math.max.name) (by decide +kernel)) (hts (.initialized "java/lang/Math") (by decide +kernel)) (hts (.code Lib.Math.max.name Lib.Math.max.code 2 (some .int)) (by decide +kernel)) (Nat.le_of_ble_eq_true rfl) (Nat.le_of_ble_eq_true rfl) (Nat.zero_le _) (Nat.zero_le _) dX2_addFrom_2 ?_
  refine lv_topi (fun v_17 e_v_17 => ?_)
  have h := h v_17 e_v_17
  refine lv_istore_n (lv' := [(3, .int v_17), (0, .ref a0), (1, .int x1), (2, .int x2)]) hx hb dX2_addFrom_5 rfl hl (by decide) rfl (fun ls hl => ?_)
  obtain ⟨n_18, h⟩ := h
  exact L6 n_18 v_17 f _ _ _ h hF hS (lv_sub hl [1, 3, 0] rfl)
theorem dX1_addToLeaf_0 : decode cX1_addToLeaf 0 = .ok (.aload_n 0, 1) := by decide +kernel
theorem dX1_addToLeaf_1 : decode cX1_addToLeaf 1 = .ok (.getfield 16, 3) := by decide +kernel
theorem dX1_addToLeaf_4 : decode cX1_addToLeaf 4 = .ok (.getfield 54, 3) := by decide +kernel
theorem dX1_addToLeaf_7 : decode cX1_addToLeaf 7 = .ok (.aload_n 1, 1) := by decide +kernel
theorem dX1_addToLeaf_8 : decode cX1_addToLeaf 8 = .ok (.iconst 0, 1) := by decide +kernel
theorem dX1_addToLeaf_9 : decode cX1_addToLeaf 9 = .ok (.invokevirtual 58, 3) := by decide +kernel
theorem dX1_addToLeaf_12 : decode cX1_addToLeaf 12 = .ok (.istore_n 3, 1) := by decide +kernel
theorem dX1_addToLeaf_13 : decode cX1_addToLeaf 13 = .ok (.aload_n 0, 1) := by decide +kernel
theorem dX1_addToLeaf_14 : decode cX1_addToLeaf 14 = .ok (.getfield 16, 3) := by decide +kernel
theorem dX1_addToLeaf_17 : decode cX1_addToLeaf 17 = .ok (.getfield 64, 3) := by decide +kernel
theorem dX1_addToLeaf_20 : decode cX1_addToLeaf 20 = .ok (.aload_n 1, 1) := by decide +kernel
theorem dX1_addToLeaf_21 : decode cX1_addToLeaf 21 = .ok (.iconst 1, 1) := by decide +kernel
theorem dX1_addToLeaf_22 : decode cX1_addToLeaf 22 = .ok (.invokevirtual 58, 3) := by decide +kernel
theorem dX1_addToLeaf_25 : decode cX1_addToLeaf 25 = .ok (.istore 4, 2) := by decide +kernel
theorem dX1_addToLeaf_27 : decode cX1_addToLeaf 27 = .ok (.aload_n 0, 1) := by decide +kernel
theorem dX1_addToLeaf_28 : decode cX1_addToLeaf 28 = .ok (.getfield 16, 3) := by decide +kernel
theorem dX1_addToLeaf_31 : decode cX1_addToLeaf 31 = .ok (.getfield 54, 3) := by decide +kernel
theorem dX1_addToLeaf_34 : decode cX1_addToLeaf 34 = .ok (.iload_n 3, 1) := by decide +kernel
theorem dX1_addToLeaf_35 : decode cX1_addToLeaf 35 = .ok (.aload_n 1, 1) := by decide +kernel
theorem dX1_addToLeaf_36 : decode cX1_addToLeaf 36 = .ok (.invokevirtual 67, 3) := by decide +kernel
theorem dX1_addToLeaf_39 : decode cX1_addToLeaf 39 = .ok (.aload_n 0, 1) := by decide +kernel
theorem dX1_addToLeaf_40 : decode cX1_addToLeaf 40 = .ok (.getfield 16, 3) := by decide +kernel
theorem dX1_addToLeaf_43 : decode cX1_addToLeaf 43 = .ok (.getfield 71, 3) := by decide +kernel
theorem dX1_addToLeaf_46 : decode cX1_addToLeaf 46 = .ok (.iload_n 3, 1) := by decide +kernel
theorem dX1_addToLeaf_47 : decode cX1_addToLeaf 47 = .ok (.iload_n 2, 1) := by decide +kernel
theorem dX1_addToLeaf_48 : decode cX1_addToLeaf 48 = .ok (.invokevirtual 75, 3) := by decide +kernel
theorem dX1_addToLeaf_51 : decode cX1_addToLeaf 51 = .ok (.aload_n 0, 1) := by decide +kernel
theorem dX1_addToLeaf_52 : decode cX1_addToLeaf 52 = .ok (.getfield 16, 3) := by decide +kernel
theorem dX1_addToLeaf_55 : decode cX1_addToLeaf 55 = .ok (.iconst 0, 1) := by decide +kernel
theorem dX1_addToLeaf_56 : decode cX1_addToLeaf 56 = .ok (.invokevirtual 79, 3) := by decide +kernel
theorem dX1_addToLeaf_59 : decode cX1_addToLeaf 59 = .ok (.iload 4, 2) := by decide +kernel
theorem dX1_addToLeaf_61 : decode cX1_addToLeaf 61 = .ok (.iconst 1, 1) := by decide +kernel
theorem dX1_addToLeaf_62 : decode cX1_addToLeaf 62 = .ok (.invokevirtual 83, 3) := by decide +kernel
theorem dX1_addToLeaf_65 : decode cX1_addToLeaf 65 = .ok (.aload_n 0, 1) := by decide +kernel
theorem dX1_addToLeaf_66 : decode cX1_addToLeaf 66 = .ok (.getfield 20, 3) := by decide +kernel
theorem dX1_addToLeaf_69 : decode cX1_addToLeaf 69 = .ok (.iload_n 3, 1) := by decide +kernel
theorem dX1_addToLeaf_70 : decode cX1_addToLeaf 70 = .ok (.invokevirtual 86, 3) := by decide +kernel
theorem dX1_addToLeaf_73 : decode cX1_addToLeaf 73 = .ok (.iload 4, 2) := by decide +kernel
theorem dX1_addToLeaf_75 : decode cX1_addToLeaf 75 = .ok (.ireturn, 1) := by decide +kernel
set_option maxRecDepth 20000 in
theorem ggX1_addToLeaf_X0_entryAdded : GoodIn wsX1_addToLeaf wsX0_entryAdded := goodIn_r _ [146, 147, 168] (by decide +kernel) (by decide +kernel)
set_option maxRecDepth 20000 in
theorem ggX1_addToLeaf_X2_addFrom : GoodIn wsX1_addToLeaf wsX2_addFrom := goodIn_r _ [140, 141, 80, 81, 82, 115, 116, 166, 167] (by decide +kernel) (by decide +kernel)
set_option maxRecDepth 20000 in
theorem ggX1_addToLeaf_X2_insert : GoodIn wsX1_addToLeaf wsX2_insert := goodIn_r _ [114, 115, 116, 117, 118, 95, 119, 120, 121, 122, 123, 124, 125, 126, 106, 107, 81, 108, 109, 63, 64, 65, 166, 167] (by decide +kernel) (by decide +kernel)
set_option maxRecDepth 20000 in
theorem ggX1_addToLeaf_X4_countBelow : GoodIn wsX1_addToLeaf wsX4_countBelow := goodIn_r _ [7, 8, 9, 10, 11, 12, 13, 14, 15, 16, 17, 6, 18, 19, 20, 21, 22, 23, 24, 25, 26, 27, 28, 29, 30, 31, 32, 33, 34, 35, 36, 37, 38, 39, 40, 41, 42, 43, 44, 45, 46, 47, 48, 49, 50, 51, 160, 161, 162, 163, 164, 165] (by decide +kernel) (by decide +kernel)
set_option maxRecDepth 20000 in
theorem ggX1_addToLeaf_X4_insert : GoodIn wsX1_addToLeaf wsX4_insert := goodIn_r _ [55, 8, 9, 10, 11, 12, 13, 14, 56, 57, 58, 59, 60, 61, 37, 62, 63, 64, 65, 66, 67, 68, 69, 70, 71, 72, 73, 74, 75, 76, 77, 78, 79, 80, 81, 82, 83, 84, 85, 86, 87, 88, 89, 90, 91, 92, 93, 94, 95, 96, 97, 98, 99, 100, 101, 102, 103, 104, 105, 106, 107, 108, 109, 160, 161, 162, 163, 164] (by decide +kernel) (by decide +kernel)
set_option maxRecDepth 20000 in
theorem ggX1_addToLeaf_X7_tier : GoodIn wsX1_addToLeaf wsX7_tier := goodIn_r _ [131, 132, 133, 134, 135, 10, 11, 12, 13, 14, 136, 22, 23, 24, 25, 26, 27, 28, 29, 30, 31, 32, 33, 34, 35, 36, 37, 152, 153, 154, 155, 156, 157, 158, 159, 162, 163, 164] (by decide +kernel) (by decide +kernel)
def wp_X1_addToLeaf (zd : Nat) (a0 : Nat) (a1 : Nat) (x2 : Int32) (f : FT) (mc ms : Nat) (K : Int32 → FT → Prop) : Prop :=
  gA f a0 4 0 fun a_1 => gA f a_1 10 0 fun a_3 => isO f a_3 7 ∧ wp_X4_countBelow a_3 a1 (0 : Int32) f (fun r_5 => gA f a0 4 0 fun a_6 => gA f a_6 10 2 fun a_8 => isO f a_8 7 ∧ wp_X4_countBelow a_8 a1 (1 : Int32) f (fun r_10 => gA f a0 4 0 fun a_11 => gA f a_11 10 0 fun a_13 => ∃ ga_17 gb_18 : Nat, ga_17 ≤ mc ∧ gb_18 ≤ ms ∧ isO f a_13 7 ∧ wp_X4_insert zd a_13 r_5 a1 f ga_17 gb_18 (fun f_16 => gA f_16 a0 4 0 fun a_21 => gA f_16 a_21 10 1 fun a_23 => ∃ ga_27 gb_28 : Nat, ga_27 ≤ (mc - ga_17) ∧ gb_28 ≤ (ms - gb_18) ∧ isO f_16 a_23 5 ∧ wp_X2_insert a_23 r_5 x2 f_16 ga_27 gb_28 (fun f_26 => gA f_26 a0 4 0 fun a_31 => isO f_26 a_31 10 ∧ wp_X7_tier a_31 (0 : Int32) f_26 (fun a_33 => isO f_26 a_33 5 ∧ wp_X2_addFrom a_33 r_10 (1 : Int32) f_26 (fun f_35 => gA f_35 a0 4 1 fun a_36 => isO f_35 a_36 3 ∧ wp_X0_entryAdded a_36 r_5 f_35 (fun f_39 => K r_10 f_39)))))))
set_option maxHeartbeats 4000000 in
set_option maxRecDepth 100000 in
theorem cc_X1_addToLeaf (l : Launch) (G : GG) {zd : Nat} (hzd : G.2.2 0 = zd) {f : FT} {sz : Nat} {a0 : Nat} {a1 : Nat} {x2 : Int32} {mc ms : Nat} {K : Int32 → FT → Prop} (h : wp_X1_addToLeaf zd a0 a1 x2 f mc ms K) : Met l yX1_addToLeaf wsX1_addToLeaf ({ frames := 7, cells := mc, slots := ms, locals := 173 } : Room) (FP G [.ref a0, .ref a1, .int x2] f sz) (va_Qi (fun r f9 => K r f9 : Int32 → FT → Prop) (FB G (fA f sz)) (fA f sz)) mc ms (fA f sz) := by
  refine Met.ofW (cc := cX1_addToLeaf) (maxL := 5) (ret := (some .int)) (by decide) rfl ?_
  intro p e s m args below meth c s₁ B hml hv
  obtain ⟨rfl, hsz, hF, hK, hZ⟩ := hv
  have hx := B.exec
  have hb := B.bytes
  have hr := B.returns
  have hts := atoms_spec (ws := wsX1_addToLeaf) B.pre
  have hown : s.vm.findClass RX1 = some m.cls := findClass_of_methodNamed B.named
  have hlocks := B.notSynchronized
  subst hsz
  have hF := hF.self (sz := s.heap.size)
  generalize hAe : fA f s.heap.size = A at hF hZ ⊢
  have hA : ∀ q : Nat, s.heap.size ≤ q → A q := fun q h => by rw [← hAe]; exact Or.inr h
  have hS : va_S A s.heap s.heap [] := va_S.rf
  have hZ9 : va_Z "java/util/ArrayList" "DEFAULTCAPACITY_EMPTY_ELEMENTDATA" "[Ljava/lang/Object;" (.ref zd) A s s.heap := by rw [← hzd]; exact hZ.1
  have hin_X1 : ∀ w ∈ wsX10, w ∈ wsX1_addToLeaf := by decide +kernel
  have hin_X7 : ∀ w ∈ wsX70, w ∈ wsX1_addToLeaf := by decide +kernel
  have hbc : 0 + mc ≤ mc := by omega
  have hbs : 0 + ms ≤ ms := by omega
  have hl := lv_entry ([.ref a0, .ref a1, .int x2]) (n := 5) (Nat.le_of_ble_eq_true rfl)
  rw [lg_entry_eq]
  generalize (lg_sl ([.ref a0, .ref a1, .int x2]) ++ List.replicate (5 - (lg_sl ([.ref a0, .ref a1, .int x2])).length) Slot.unset).toArray = ls at hl ⊢
  have hl : lv_has ls 5 [(0, .ref a0), (1, .ref a1), (2, .int x2)] := hl
  unfold wp_X1_addToLeaf at h
  refine lv_aload_n hx hb dX1_addToLeaf_0 rfl (lv_at hl 0 rfl) ?_
  obtain ⟨fs_2, a_1, he_fs_2, hv_fs_2, h⟩ := h
  refine fw_get (C := RX1) (T := TX1) (N := 4) hx hb hts hin_X1 hown hK hF he_fs_2 rfl 0 (by decide) (hts (.fieldLink RX1 16 "FrontCodedIndex$Inserter" "tree" "LFrontCodedIndex$Tree;") (by decide +kernel)) (fun _ h9 => h9) hv_fs_2 dX1_addToLeaf_1 ?_
  obtain ⟨fs_4, a_3, he_fs_4, hv_fs_4, h⟩ := h
  refine fw_getN (C := RX7) (T := TX7) (N := 8) hx hb hts hin_X7 hown hK hF he_fs_4 rfl 0 (by decide) (va_Nw.use rfl (hZ.2.1 (.fieldLinkNest RX1 54 "FrontCodedIndex$Tree" "keys" "LFrontCodedIndex$KeyRow;" "FrontCodedIndex") (by decide +kernel))) (fun _ h9 => h9) hv_fs_4 dX1_addToLeaf_4 ?_
  refine lv_aload_n hx hb dX1_addToLeaf_7 rfl (lv_at hl 1 rfl) ?_
  refine lv_iconst (v := (0 : Int32)) hx hb dX1_addToLeaf_8 (by decide) ?_
  obtain ⟨⟨fs_r_5, hrc_r_5⟩, h⟩ := h
  refine fw_cV_i_p (As := [.ref a1, .int (0 : Int32)]) (rest := []) ⟨hx, hb, hml, hown, hts⟩ (cc_X4_countBelow l G h) (⟨callB_of 2 hts ggX1_addToLeaf_X4_countBelow rfl rfl rfl (hts (.initialized RX4) (by decide +kernel)) (hts (.methodLink RX1 58 yX4_countBelow) (by decide +kernel)) (by decide +kernel) ⟨Nat.le_of_ble_eq_true rfl, Nat.le_of_ble_eq_true rfl⟩, hts (.instanceMethod yX4_countBelow) (by decide +kernel), hts (.selects RX4 yX4_countBelow yX4_countBelow) (by decide +kernel)⟩) rfl hrc_r_5 hK hZ hF hS hA rfl hl.1 rfl (Nat.le_of_ble_eq_true rfl) dX1_addToLeaf_9 ⟨by show _ ≤ mc; omega, by show _ ≤ ms; omega⟩ (fun r_5 H locs h hF hS => ?_)
  simp only [Nat.add_zero]
  refine lv_istore_n (lv' := [(3, .int r_5), (0, .ref a0), (1, .ref a1), (2, .int x2)]) hx hb dX1_addToLeaf_12 rfl hl (by decide) rfl (fun ls hl => ?_)
  refine lv_aload_n hx hb dX1_addToLeaf_13 rfl (lv_at hl 1 rfl) ?_
  obtain ⟨fs_7, a_6, he_fs_7, hv_fs_7, h⟩ := h
  refine fw_get (C := RX1) (T := TX1) (N := 4) hx hb hts hin_X1 hown hK hF he_fs_7 rfl 0 (by decide) (hts (.fieldLink RX1 16 "FrontCodedIndex$Inserter" "tree" "LFrontCodedIndex$Tree;") (by decide +kernel)) (fun _ h9 => h9) hv_fs_7 dX1_addToLeaf_14 ?_
  obtain ⟨fs_9, a_8, he_fs_9, hv_fs_9, h⟩ := h
  refine fw_getN (C := RX7) (T := TX7) (N := 8) hx hb hts hin_X7 hown hK hF he_fs_9 rfl 2 (by decide) (va_Nw.use rfl (hZ.2.1 (.fieldLinkNest RX1 64 "FrontCodedIndex$Tree" "separators" "LFrontCodedIndex$KeyRow;" "FrontCodedIndex") (by decide +kernel))) (fun _ h9 => h9) hv_fs_9 dX1_addToLeaf_17 ?_
  refine lv_aload_n hx hb dX1_addToLeaf_20 rfl (lv_at hl 2 rfl) ?_
  refine lv_iconst (v := (1 : Int32)) hx hb dX1_addToLeaf_21 (by decide) ?_
  obtain ⟨⟨fs_r_10, hrc_r_10⟩, h⟩ := h
  refine fw_cV_i_p (As := [.ref a1, .int (1 : Int32)]) (rest := []) ⟨hx, hb, hml, hown, hts⟩ (cc_X4_countBelow l G h) (⟨callB_of 2 hts ggX1_addToLeaf_X4_countBelow rfl rfl rfl (hts (.initialized RX4) (by decide +kernel)) (hts (.methodLink RX1 58 yX4_countBelow) (by decide +kernel)) (by decide +kernel) ⟨Nat.le_of_ble_eq_true rfl, Nat.le_of_ble_eq_true rfl⟩, hts (.instanceMethod yX4_countBelow) (by decide +kernel), hts (.selects RX4 yX4_countBelow yX4_countBelow) (by decide +kernel)⟩) rfl hrc_r_10 hK hZ hF hS hA rfl hl.1 rfl (Nat.le_of_ble_eq_true rfl) dX1_addToLeaf_22 ⟨by show _ ≤ mc; omega, by show _ ≤ ms; omega⟩ (fun r_10 H locs h hF hS => ?_)
  simp only [Nat.add_zero]
  refine lv_istore (lv' := [(4, .int r_10), (3, .int r_5), (0, .ref a0), (1, .ref a1), (2, .int x2)]) hx hb dX1_addToLeaf_25 hl (by decide) rfl (fun ls hl => ?_)
  refine lv_aload_n hx hb dX1_addToLeaf_27 rfl (lv_at hl 2 rfl) ?_
  obtain ⟨fs_12, a_11, he_fs_12, hv_fs_12, h⟩ := h
  refine fw_get (C := RX1) (T := TX1) (N := 4) hx hb hts hin_X1 hown hK hF he_fs_12 rfl 0 (by decide) (hts (.fieldLink RX1 16 "FrontCodedIndex$Inserter" "tree" "LFrontCodedIndex$Tree;") (by decide +kernel)) (fun _ h9 => h9) hv_fs_12 dX1_addToLeaf_28 ?_
  obtain ⟨fs_14, a_13, he_fs_14, hv_fs_14, h⟩ := h
  refine fw_getN (C := RX7) (T := TX7) (N := 8) hx hb hts hin_X7 hown hK hF he_fs_14 rfl 0 (by decide) (va_Nw.use rfl (hZ.2.1 (.fieldLinkNest RX1 54 "FrontCodedIndex$Tree" "keys" "LFrontCodedIndex$KeyRow;" "FrontCodedIndex") (by decide +kernel))) (fun _ h9 => h9) hv_fs_14 dX1_addToLeaf_31 ?_
  refine lv_iload_n hx hb dX1_addToLeaf_34 rfl (lv_at hl 1 rfl) ?_
  refine lv_aload_n hx hb dX1_addToLeaf_35 rfl (lv_at hl 3 rfl) ?_
  obtain ⟨ga_17, gb_18, hga_ga_17, hgb_ga_17, h⟩ := h
  obtain ⟨⟨fs_u_15, hrc_u_15⟩, h⟩ := h
  refine fw_cV_v (As := [.int r_5, .ref a1]) (rest := []) ⟨hx, hb, hml, hown, hts⟩ (cc_X4_insert l G hzd h) (⟨callB_of 2 hts ggX1_addToLeaf_X4_insert rfl rfl rfl (hts (.initialized RX4) (by decide +kernel)) (hts (.methodLink RX1 67 yX4_insert) (by decide +kernel)) (by decide +kernel) ⟨Nat.le_of_ble_eq_true rfl, Nat.le_of_ble_eq_true rfl⟩, hts (.instanceMethod yX4_insert) (by decide +kernel), hts (.selects RX4 yX4_insert yX4_insert) (by decide +kernel)⟩) rfl hrc_u_15 hK hZ hF hS hA rfl hl.1 rfl (Nat.le_of_ble_eq_true rfl) dX1_addToLeaf_36 ⟨by show _ ≤ mc; omega, by show _ ≤ ms; omega⟩ (fun f_16 H locs h hF hS => ?_)
  obtain ⟨cs_19, hcs⟩ : ∃ z, z = (0 + ga_17) := ⟨_, rfl⟩; obtain ⟨sl_20, hsl⟩ : ∃ z, z = (0 + gb_18) := ⟨_, rfl⟩
  have hbc : cs_19 + (mc - ga_17) ≤ mc := by omega
  have hbs : sl_20 + (ms - gb_18) ≤ ms := by omega
  refine W.widen (k := cs_19) (n := sl_20) (by omega) (by omega) ?_
  clear hcs hsl
  refine lv_aload_n hx hb dX1_addToLeaf_39 rfl (lv_at hl 2 rfl) ?_
  obtain ⟨fs_22, a_21, he_fs_22, hv_fs_22, h⟩ := h
  refine fw_get (C := RX1) (T := TX1) (N := 4) hx hb hts hin_X1 hown hK hF he_fs_22 rfl 0 (by decide) (hts (.fieldLink RX1 16 "FrontCodedIndex$Inserter" "tree" "LFrontCodedIndex$Tree;") (by decide +kernel)) (fun _ h9 => h9) hv_fs_22 dX1_addToLeaf_40 ?_
  obtain ⟨fs_24, a_23, he_fs_24, hv_fs_24, h⟩ := h
  refine fw_getN (C := RX7) (T := TX7) (N := 8) hx hb hts hin_X7 hown hK hF he_fs_24 rfl 1 (by decide) (va_Nw.use rfl (hZ.2.1 (.fieldLinkNest RX1 71 "FrontCodedIndex$Tree" "values" "LFrontCodedIndex$IntRow;" "FrontCodedIndex") (by decide +kernel))) (fun _ h9 => h9) hv_fs_24 dX1_addToLeaf_43 ?_
  refine lv_iload_n hx hb dX1_addToLeaf_46 rfl (lv_at hl 1 rfl) ?_
  refine lv_iload_n hx hb dX1_addToLeaf_47 rfl (lv_at hl 4 rfl) ?_
  obtain ⟨ga_27, gb_28, hga_ga_27, hgb_ga_27, h⟩ := h
  obtain ⟨⟨fs_u_25, hrc_u_25⟩, h⟩ := h
  refine fw_cV_v (As := [.int r_5, .int x2]) (rest := []) ⟨hx, hb, hml, hown, hts⟩ (cc_X2_insert l G h) (⟨callB_of 2 hts ggX1_addToLeaf_X2_insert rfl rfl rfl (hts (.initialized RX2) (by decide +kernel)) (hts (.methodLink RX1 75 yX2_insert) (by decide +kernel)) (by decide +kernel) ⟨Nat.le_of_ble_eq_true rfl, Nat.le_of_ble_eq_true rfl⟩, hts (.instanceMethod yX2_insert) (by decide +kernel), hts (.selects RX2 yX2_insert yX2_insert) (by decide +kernel)⟩) rfl hrc_u_25 hK hZ hF hS hA rfl hl.1 rfl (Nat.le_of_ble_eq_true rfl) dX1_addToLeaf_48 ⟨by show _ ≤ mc; omega, by show _ ≤ ms; omega⟩ (fun f_26 H locs h hF hS => ?_)
  obtain ⟨cs_29, hcs⟩ : ∃ z, z = (cs_19 + ga_27) := ⟨_, rfl⟩; obtain ⟨sl_30, hsl⟩ : ∃ z, z = (sl_20 + gb_28) := ⟨_, rfl⟩
  have hbc : cs_29 + ((mc - ga_17) - ga_27) ≤ mc := by omega
  have hbs : sl_30 + ((ms - gb_18) - gb_28) ≤ ms := by omega
  refine W.widen (k := cs_29) (n := sl_30) (by omega) (by omega) ?_
  clear hcs hsl
  refine lv_aload_n hx hb dX1_addToLeaf_51 rfl (lv_at hl 2 rfl) ?_
  obtain ⟨fs_32, a_31, he_fs_32, hv_fs_32, h⟩ := h
  refine fw_get (C := RX1) (T := TX1) (N := 4) hx hb hts hin_X1 hown hK hF he_fs_32 rfl 0 (by decide) (hts (.fieldLink RX1 16 "FrontCodedIndex$Inserter" "tree" "LFrontCodedIndex$Tree;") (by decide +kernel)) (fun _ h9 => h9) hv_fs_32 dX1_addToLeaf_52 ?_
  refine lv_iconst (v := (0 : Int32)) hx hb dX1_addToLeaf_55 (by decide) ?_
  obtain ⟨⟨fs_a_33, hrc_a_33⟩, h⟩ := h
  refine fw_cV_q_p (As := [.int (0 : Int32)]) (rest := []) ⟨hx, hb, hml, hown, hts⟩ (cc_X7_tier l G h) (⟨callB_of 1 hts ggX1_addToLeaf_X7_tier rfl rfl rfl (hts (.initialized RX7) (by decide +kernel)) (hts (.methodLink RX1 79 yX7_tier) (by decide +kernel)) (by decide +kernel) ⟨Nat.le_of_ble_eq_true rfl, Nat.le_of_ble_eq_true rfl⟩, hts (.instanceMethod yX7_tier) (by decide +kernel), hts (.selects RX7 yX7_tier yX7_tier) (by decide +kernel)⟩) rfl hrc_a_33 hK hZ hF hS hA rfl hl.1 rfl (Nat.le_of_ble_eq_true rfl) dX1_addToLeaf_56 ⟨by show _ ≤ mc; omega, by show _ ≤ ms; omega⟩ (fun a_33 H locs h hF hS => ?_)
  simp only [Nat.add_zero]
  refine lv_iload hx hb dX1_addToLeaf_59 (lv_at hl 0 rfl) ?_
  refine lv_iconst (v := (1 : Int32)) hx hb dX1_addToLeaf_61 (by decide) ?_
  obtain ⟨⟨fs_u_34, hrc_u_34⟩, h⟩ := h
  refine fw_cV_v (As := [.int r_10, .int (1 : Int32)]) (rest := []) ⟨hx, hb, hml, hown, hts⟩ (cc_X2_addFrom l G h) (⟨callB_of 2 hts ggX1_addToLeaf_X2_addFrom rfl rfl rfl (hts (.initialized RX2) (by decide +kernel)) (hts (.methodLink RX1 83 yX2_addFrom) (by decide +kernel)) (by decide +kernel) ⟨Nat.le_of_ble_eq_true rfl, Nat.le_of_ble_eq_true rfl⟩, hts (.instanceMethod yX2_addFrom) (by decide +kernel), hts (.selects RX2 yX2_addFrom yX2_addFrom) (by decide +kernel)⟩) rfl hrc_u_34 hK hZ hF hS hA rfl hl.1 rfl (Nat.le_of_ble_eq_true rfl) dX1_addToLeaf_62 ⟨by show _ ≤ mc; omega, by show _ ≤ ms; omega⟩ (fun f_35 H locs h hF hS => ?_)
  simp only [Nat.add_zero]
  refine lv_aload_n hx hb dX1_addToLeaf_65 rfl (lv_at hl 2 rfl) ?_
  obtain ⟨fs_37, a_36, he_fs_37, hv_fs_37, h⟩ := h
  refine fw_get (C := RX1) (T := TX1) (N := 4) hx hb hts hin_X1 hown hK hF he_fs_37 rfl 1 (by decide) (hts (.fieldLink RX1 20 "FrontCodedIndex$Inserter" "cursors" "LFrontCodedIndex$Cursors;") (by decide +kernel)) (fun _ h9 => h9) hv_fs_37 dX1_addToLeaf_66 ?_
  refine lv_iload_n hx hb dX1_addToLeaf_69 rfl (lv_at hl 1 rfl) ?_
  obtain ⟨⟨fs_u_38, hrc_u_38⟩, h⟩ := h
  refine fw_cV_v (As := [.int r_5]) (rest := []) ⟨hx, hb, hml, hown, hts⟩ (cc_X0_entryAdded l G h) (⟨callB_of 1 hts ggX1_addToLeaf_X0_entryAdded rfl rfl rfl (hts (.initialized RX0) (by decide +kernel)) (hts (.methodLink RX1 86 yX0_entryAdded) (by decide +kernel)) (by decide +kernel) ⟨Nat.le_of_ble_eq_true rfl, Nat.le_of_ble_eq_true rfl⟩, hts (.instanceMethod yX0_entryAdded) (by decide +kernel), hts (.selects RX0 yX0_entryAdded yX0_entryAdded) (by decide +kernel)⟩) rfl hrc_u_38 hK hZ hF hS hA rfl hl.1 rfl (Nat.le_of_ble_eq_true rfl) dX1_addToLeaf_70 ⟨by show _ ≤ mc; omega, by show _ ≤ ms; omega⟩ (fun f_39 H locs h hF hS => ?_)
  simp only [Nat.add_zero]
  refine lv_iload hx hb dX1_addToLeaf_73 (lv_at hl 0 rfl) ?_
  refine W.widen (k := mc) (n := ms) (by omega) (by omega) ?_
  exact W.iret (v := r_10) hx hb hr (fun t ht hW => ⟨⟨r_10, f_39, rfl, h, by rw [ht]; exact hF, FK.moved hW.alike hK⟩, hS.F ht⟩) hS.2.2 dX1_addToLeaf_75
theorem dX2_at_0 : decode cX2_at 0 = .ok (.iload_n 1, 1) := by decide +kernel
theorem dX2_at_1 : decode cX2_at 1 = .ok (.ifCond .lt 29, 3) := by decide +kernel
theorem dX2_at_4 : decode cX2_at 4 = .ok (.iload_n 1, 1) := by decide +kernel
theorem dX2_at_5 : decode cX2_at 5 = .ok (.aload_n 0, 1) := by decide +kernel
theorem dX2_at_6 : decode cX2_at 6 = .ok (.getfield 13, 3) := by decide +kernel
theorem dX2_at_9 : decode cX2_at 9 = .ok (.if_icmp .ge 21, 3) := by decide +kernel
theorem dX2_at_12 : decode cX2_at 12 = .ok (.iload_n 1, 1) := by decide +kernel
theorem dX2_at_13 : decode cX2_at 13 = .ok (.aload_n 0, 1) := by decide +kernel
theorem dX2_at_14 : decode cX2_at 14 = .ok (.getfield 9, 3) := by decide +kernel
theorem dX2_at_17 : decode cX2_at 17 = .ok (.arraylength, 1) := by decide +kernel
theorem dX2_at_18 : decode cX2_at 18 = .ok (.if_icmp .ge 12, 3) := by decide +kernel
theorem dX2_at_21 : decode cX2_at 21 = .ok (.aload_n 0, 1) := by decide +kernel
theorem dX2_at_22 : decode cX2_at 22 = .ok (.getfield 9, 3) := by decide +kernel
theorem dX2_at_25 : decode cX2_at 25 = .ok (.iload_n 1, 1) := by decide +kernel
theorem dX2_at_26 : decode cX2_at 26 = .ok (.iaload, 1) := by decide +kernel
theorem dX2_at_27 : decode cX2_at 27 = .ok (.goto 4, 3) := by decide +kernel
theorem dX2_at_30 : decode cX2_at 30 = .ok (.iconst 0, 1) := by decide +kernel
theorem dX2_at_31 : decode cX2_at 31 = .ok (.ireturn, 1) := by decide +kernel
def wp_X2_at (a0 : Nat) (x1 : Int32) (f : FT) (K : Int32 → Prop) : Prop :=
  ((x1 < (0 : Int32) → K (0 : Int32)) ∧
 (¬ (x1 < (0 : Int32)) → gI f a0 5 1 fun v_2 => ((v_2 ≤ x1 → K (0 : Int32)) ∧
 (¬ (v_2 ≤ x1) → gA f a0 5 0 fun a_5 => aL f a_5 fun v_7 => ((v_7 ≤ x1 → K (0 : Int32)) ∧
 (¬ (v_7 ≤ x1) → gA f a0 5 0 fun a_10 => aI f a_10 1 x1 fun v_12 => K v_12))))))
set_option maxHeartbeats 4000000 in
set_option maxRecDepth 100000 in
theorem cc_X2_at (l : Launch) (G : GG) {f : FT} {sz : Nat} {a0 : Nat} {x1 : Int32} {K : Int32 → Prop} (h : wp_X2_at a0 x1 f K) : Met l yX2_at wsX2_at ({ frames := 0, cells := 0, slots := 0, locals := 0 } : Room) (FP G [.ref a0, .int x1] f sz) (va_Qi (fun r f9 => K r ∧ f9 = f : Int32 → FT → Prop) (FB G (fA f sz)) (fA f sz)) 0 0 (fA f sz) := by
  refine Met.ofW (cc := cX2_at) (maxL := 2) (ret := (some .int)) (by decide) rfl ?_
  intro p e s m args below meth c s₁ B hml hv
  obtain ⟨rfl, hsz, hF, hK, hZ⟩ := hv
  have hx := B.exec
  have hb := B.bytes
  have hr := B.returns
  have hts := atoms_spec (ws := wsX2_at) B.pre
  have hown : s.vm.findClass RX2 = some m.cls := findClass_of_methodNamed B.named
  have hlocks := B.notSynchronized
  subst hsz
  have hF := hF.self (sz := s.heap.size)
  generalize hAe : fA f s.heap.size = A at hF hZ ⊢
  have hA : ∀ q : Nat, s.heap.size ≤ q → A q := fun q h => by rw [← hAe]; exact Or.inr h
  have hS : va_S A s.heap s.heap [] := va_S.rf
  have hin_X2 : ∀ w ∈ wsX20, w ∈ wsX2_at := by decide +kernel
  have hl := lv_entry ([.ref a0, .int x1]) (n := 2) (Nat.le_of_ble_eq_true rfl)
  rw [lg_entry_eq]
  generalize (lg_sl ([.ref a0, .int x1]) ++ List.replicate (2 - (lg_sl ([.ref a0, .int x1])).length) Slot.unset).toArray = ls at hl ⊢
  have hl : lv_has ls 2 [(0, .ref a0), (1, .int x1)] := hl
  unfold wp_X2_at at h
  refine lv_iload_n hx hb dX2_at_0 rfl (lv_at hl 1 rfl) ?_
  obtain ⟨h1, h2⟩ := h
  refine lv_if_lt (tgt := 30) hx hb dX2_at_1 (by decide) (fun c_1 => ?_) (fun c_1 => ?_)
  · have h := h1 c_1
    refine lv_iconst (v := (0 : Int32)) hx hb dX2_at_30 (by decide) ?_
    exact W.iret (v := (0 : Int32)) hx hb hr (fun t ht hW => ⟨⟨(0 : Int32), f, rfl, ⟨h, rfl⟩, by rw [ht]; exact hF, FK.moved hW.alike hK⟩, hS.F ht⟩) hS.2.2 dX2_at_31
  · have h := h2 c_1
    refine lv_iload_n hx hb dX2_at_4 rfl (lv_at hl 1 rfl) ?_
    refine lv_aload_n hx hb dX2_at_5 rfl (lv_at hl 0 rfl) ?_
    obtain ⟨fs_3, v_2, he_fs_3, hv_fs_3, h⟩ := h
    refine fw_get (C := RX2) (T := TX2) (N := 2) hx hb hts hin_X2 hown hK hF he_fs_3 rfl 1 (by decide) (hts (.fieldLink RX2 13 "FrontCodedIndex$IntRow" "count" "I") (by decide +kernel)) (fun _ h9 => h9) hv_fs_3 dX2_at_6 ?_
    obtain ⟨h1, h2⟩ := h
    refine lv_icmp_ge (tgt := 30) hx hb dX2_at_9 (by decide) (fun c_4 => ?_) (fun c_4 => ?_)
    · have h := h1 c_4
      refine lv_iconst (v := (0 : Int32)) hx hb dX2_at_30 (by decide) ?_
      exact W.iret (v := (0 : Int32)) hx hb hr (fun t ht hW => ⟨⟨(0 : Int32), f, rfl, ⟨h, rfl⟩, by rw [ht]; exact hF, FK.moved hW.alike hK⟩, hS.F ht⟩) hS.2.2 dX2_at_31
    · have h := h2 c_4
      refine lv_iload_n hx hb dX2_at_12 rfl (lv_at hl 1 rfl) ?_
      refine lv_aload_n hx hb dX2_at_13 rfl (lv_at hl 0 rfl) ?_
      obtain ⟨fs_6, a_5, he_fs_6, hv_fs_6, h⟩ := h
      refine fw_get (C := RX2) (T := TX2) (N := 2) hx hb hts hin_X2 hown hK hF he_fs_6 rfl 0 (by decide) (hts (.fieldLink RX2 9 "FrontCodedIndex$IntRow" "cells" "[I") (by decide +kernel)) (fun _ h9 => h9) hv_fs_6 dX2_at_14 ?_
      obtain ⟨t_q_8, q_8, he_q_8, ht_q_8, h⟩ := h
      refine fw_alen hx hb hK hF he_q_8 ht_q_8 dX2_at_17 ?_
      refine lv_topi (fun v_7 e_v_7 => ?_)
      have h := h v_7 e_v_7
      obtain ⟨h1, h2⟩ := h
      refine lv_icmp_ge (tgt := 30) hx hb dX2_at_18 (by decide) (fun c_9 => ?_) (fun c_9 => ?_)
      · have h := h1 c_9
        refine lv_iconst (v := (0 : Int32)) hx hb dX2_at_30 (by decide) ?_
        exact W.iret (v := (0 : Int32)) hx hb hr (fun t ht hW => ⟨⟨(0 : Int32), f, rfl, ⟨h, rfl⟩, by rw [ht]; exact hF, FK.moved hW.alike hK⟩, hS.F ht⟩) hS.2.2 dX2_at_31
      · have h := h2 c_9
        refine lv_aload_n hx hb dX2_at_21 rfl (lv_at hl 0 rfl) ?_
        obtain ⟨fs_11, a_10, he_fs_11, hv_fs_11, h⟩ := h
        refine fw_get (C := RX2) (T := TX2) (N := 2) hx hb hts hin_X2 hown hK hF he_fs_11 rfl 0 (by decide) (hts (.fieldLink RX2 9 "FrontCodedIndex$IntRow" "cells" "[I") (by decide +kernel)) (fun _ h9 => h9) hv_fs_11 dX2_at_22 ?_
        refine lv_iload_n hx hb dX2_at_25 rfl (lv_at hl 1 rfl) ?_
        obtain ⟨n_q_13, q_13, he_q_13, hi_q_13, h⟩ := h
        refine fw_iald hx hb hK hF he_q_13 hi_q_13 dX2_at_26 ?_
        refine lv_topi (fun v_12 e_v_12 => ?_)
        have h := h v_12 e_v_12
        refine lv_goto (tgt := 31) hx hb dX2_at_27 (by decide) ?_
        exact W.iret (v := v_12) hx hb hr (fun t ht hW => ⟨⟨v_12, f, rfl, ⟨h, rfl⟩, by rw [ht]; exact hF, FK.moved hW.alike hK⟩, hS.F ht⟩) hS.2.2 dX2_at_31
theorem dX7_startOf_0 : decode cX7_startOf 0 = .ok (.iload_n 2, 1) := by decide +kernel
theorem dX7_startOf_1 : decode cX7_startOf 1 = .ok (.ifCond .le 17, 3) := by decide +kernel
theorem dX7_startOf_4 : decode cX7_startOf 4 = .ok (.aload_n 0, 1) := by decide +kernel
theorem dX7_startOf_5 : decode cX7_startOf 5 = .ok (.iload_n 1, 1) := by decide +kernel
theorem dX7_startOf_6 : decode cX7_startOf 6 = .ok (.invokevirtual 74, 3) := by decide +kernel
theorem dX7_startOf_9 : decode cX7_startOf 9 = .ok (.iload_n 2, 1) := by decide +kernel
theorem dX7_startOf_10 : decode cX7_startOf 10 = .ok (.iconst 1, 1) := by decide +kernel
theorem dX7_startOf_11 : decode cX7_startOf 11 = .ok (.isub, 1) := by decide +kernel
theorem dX7_startOf_12 : decode cX7_startOf 12 = .ok (.invokevirtual 88, 3) := by decide +kernel
theorem dX7_startOf_15 : decode cX7_startOf 15 = .ok (.goto 4, 3) := by decide +kernel
theorem dX7_startOf_18 : decode cX7_startOf 18 = .ok (.iconst 0, 1) := by decide +kernel
theorem dX7_startOf_19 : decode cX7_startOf 19 = .ok (.ireturn, 1) := by decide +kernel
set_option maxRecDepth 20000 in
theorem ggX7_startOf_X2_at : GoodIn wsX7_startOf wsX2_at := goodIn_r _ [36, 37, 38, 50, 51] (by decide +kernel) (by decide +kernel)
set_option maxRecDepth 20000 in
theorem ggX7_startOf_X7_tier : GoodIn wsX7_startOf wsX7_tier := goodIn_r _ [5, 6, 7, 8, 9, 10, 11, 12, 13, 14, 15, 16, 17, 18, 19, 20, 21, 22, 23, 24, 25, 26, 27, 28, 29, 30, 31, 39, 40, 41, 42, 43, 44, 45, 46, 47, 48, 49] (by decide +kernel) (by decide +kernel)
def wp_X7_startOf (a0 : Nat) (x1 : Int32) (x2 : Int32) (f : FT) (K : Int32 → Prop) : Prop :=
  ((x2 ≤ (0 : Int32) → K (0 : Int32)) ∧
 (¬ (x2 ≤ (0 : Int32)) → isO f a0 10 ∧ wp_X7_tier a0 x1 f (fun a_2 => isO f a_2 5 ∧ wp_X2_at a_2 (x2 - (1 : Int32)) f (fun r_3 => K r_3))))
set_option maxHeartbeats 4000000 in
set_option maxRecDepth 100000 in
theorem cc_X7_startOf (l : Launch) (G : GG) {f : FT} {sz : Nat} {a0 : Nat} {x1 : Int32} {x2 : Int32} {K : Int32 → Prop} (h : wp_X7_startOf a0 x1 x2 f K) : Met l yX7_startOf wsX7_startOf ({ frames := 4, cells := 0, slots := 0, locals := 85 } : Room) (FP G [.ref a0, .int x1, .int x2] f sz) (va_Qi (fun r f9 => K r ∧ f9 = f : Int32 → FT → Prop) (FB G (fA f sz)) (fA f sz)) 0 0 (fA f sz) := by
  refine Met.ofW (cc := cX7_startOf) (maxL := 3) (ret := (some .int)) (by decide) rfl ?_
  intro p e s m args below meth c s₁ B hml hv
  obtain ⟨rfl, hsz, hF, hK, hZ⟩ := hv
  have hx := B.exec
  have hb := B.bytes
  have hr := B.returns
  have hts := atoms_spec (ws := wsX7_startOf) B.pre
  have hown : s.vm.findClass RX7 = some m.cls := findClass_of_methodNamed B.named
  have hlocks := B.notSynchronized
  subst hsz
  have hF := hF.self (sz := s.heap.size)
  generalize hAe : fA f s.heap.size = A at hF hZ ⊢
  have hA : ∀ q : Nat, s.heap.size ≤ q → A q := fun q h => by rw [← hAe]; exact Or.inr h
  have hS : va_S A s.heap s.heap [] := va_S.rf
  have hl := lv_entry ([.ref a0, .int x1, .int x2]) (n := 3) (Nat.le_of_ble_eq_true rfl)
  rw [lg_entry_eq]
  generalize (lg_sl ([.ref a0, .int x1, .int x2]) ++ List.replicate (3 - (lg_sl ([.ref a0, .int x1, .int x2])).length) Slot.unset).toArray = ls at hl ⊢
  have hl : lv_has ls 3 [(0, .ref a0), (1, .int x1), (2, .int x2)] := hl
  unfold wp_X7_startOf at h
  refine lv_iload_n hx hb dX7_startOf_0 rfl (lv_at hl 2 rfl) ?_
  obtain ⟨h1, h2⟩ := h
  refine lv_if_le (tgt := 18) hx hb dX7_startOf_1 (by decide) (fun c_1 => ?_) (fun c_1 => ?_)
  · have h := h1 c_1
    refine lv_iconst (v := (0 : Int32)) hx hb dX7_startOf_18 (by decide) ?_
    exact W.iret (v := (0 : Int32)) hx hb hr (fun t ht hW => ⟨⟨(0 : Int32), f, rfl, ⟨h, rfl⟩, by rw [ht]; exact hF, FK.moved hW.alike hK⟩, hS.F ht⟩) hS.2.2 dX7_startOf_19
  · have h := h2 c_1
    refine lv_aload_n hx hb dX7_startOf_4 rfl (lv_at hl 0 rfl) ?_
    refine lv_iload_n hx hb dX7_startOf_5 rfl (lv_at hl 1 rfl) ?_
    obtain ⟨⟨fs_a_2, hrc_a_2⟩, h⟩ := h
    refine fw_cV_q_p (As := [.int x1]) (rest := []) ⟨hx, hb, hml, hown, hts⟩ (cc_X7_tier l G h) (⟨callB_of 1 hts ggX7_startOf_X7_tier rfl rfl rfl (hts (.initialized RX7) (by decide +kernel)) (hts (.methodLink RX7 74 yX7_tier) (by decide +kernel)) (by decide +kernel) ⟨Nat.le_of_ble_eq_true rfl, Nat.le_of_ble_eq_true rfl⟩, hts (.instanceMethod yX7_tier) (by decide +kernel), hts (.selects RX7 yX7_tier yX7_tier) (by decide +kernel)⟩) rfl hrc_a_2 hK hZ hF hS hA rfl hl.1 rfl (Nat.le_of_ble_eq_true rfl) dX7_startOf_6 ⟨Nat.zero_le _, Nat.zero_le _⟩ (fun a_2 H locs h hF hS => ?_)
    refine lv_iload_n hx hb dX7_startOf_9 rfl (lv_at hl 2 rfl) ?_
    refine lv_iconst (v := (1 : Int32)) hx hb dX7_startOf_10 (by decide) ?_
    refine lv_isub hx hb dX7_startOf_11 ?_
    obtain ⟨⟨fs_r_3, hrc_r_3⟩, h⟩ := h
    refine fw_cV_i_p (As := [.int (x2 - (1 : Int32))]) (rest := []) ⟨hx, hb, hml, hown, hts⟩ (cc_X2_at l G h) (⟨callB_of 1 hts ggX7_startOf_X2_at rfl rfl rfl (hts (.initialized RX2) (by decide +kernel)) (hts (.methodLink RX7 88 yX2_at) (by decide +kernel)) (by decide +kernel) ⟨Nat.le_of_ble_eq_true rfl, Nat.le_of_ble_eq_true rfl⟩, hts (.instanceMethod yX2_at) (by decide +kernel), hts (.selects RX2 yX2_at yX2_at) (by decide +kernel)⟩) rfl hrc_r_3 hK hZ hF hS hA rfl hl.1 rfl (Nat.le_of_ble_eq_true rfl) dX7_startOf_12 ⟨Nat.zero_le _, Nat.zero_le _⟩ (fun r_3 H locs h hF hS => ?_)
    refine lv_goto (tgt := 19) hx hb dX7_startOf_15 (by decide) ?_
    exact W.iret (v := r_3) hx hb hr (fun t ht hW => ⟨⟨r_3, f, rfl, ⟨h, rfl⟩, by rw [ht]; exact hF, FK.moved hW.alike hK⟩, hS.F ht⟩) hS.2.2 dX7_startOf_19
theorem dX7_endOf_0 : decode cX7_endOf 0 = .ok (.aload_n 0, 1) := by decide +kernel
theorem dX7_endOf_1 : decode cX7_endOf 1 = .ok (.iload_n 1, 1) := by decide +kernel
theorem dX7_endOf_2 : decode cX7_endOf 2 = .ok (.invokevirtual 74, 3) := by decide +kernel
theorem dX7_endOf_5 : decode cX7_endOf 5 = .ok (.iload_n 2, 1) := by decide +kernel
theorem dX7_endOf_6 : decode cX7_endOf 6 = .ok (.invokevirtual 88, 3) := by decide +kernel
theorem dX7_endOf_9 : decode cX7_endOf 9 = .ok (.ireturn, 1) := by decide +kernel
set_option maxRecDepth 20000 in
theorem ggX7_endOf_X2_at : GoodIn wsX7_endOf wsX2_at := goodIn_r _ [36, 37, 38, 50, 51] (by decide +kernel) (by decide +kernel)
set_option maxRecDepth 20000 in
theorem ggX7_endOf_X7_tier : GoodIn wsX7_endOf wsX7_tier := goodIn_r _ [5, 6, 7, 8, 9, 10, 11, 12, 13, 14, 15, 16, 17, 18, 19, 20, 21, 22, 23, 24, 25, 26, 27, 28, 29, 30, 31, 39, 40, 41, 42, 43, 44, 45, 46, 47, 48, 49] (by decide +kernel) (by decide +kernel)
def wp_X7_endOf (a0 : Nat) (x1 : Int32) (x2 : Int32) (f : FT) (K : Int32 → Prop) : Prop :=
  isO f a0 10 ∧ wp_X7_tier a0 x1 f (fun a_1 => isO f a_1 5 ∧ wp_X2_at a_1 x2 f (fun r_2 => K r_2))
set_option maxHeartbeats 4000000 in
set_option maxRecDepth 100000 in
theorem cc_X7_endOf (l : Launch) (G : GG) {f : FT} {sz : Nat} {a0 : Nat} {x1 : Int32} {x2 : Int32} {K : Int32 → Prop} (h : wp_X7_endOf a0 x1 x2 f K) : Met l yX7_endOf wsX7_endOf ({ frames := 4, cells := 0, slots := 0, locals := 85 } : Room) (FP G [.ref a0, .int x1, .int x2] f sz) (va_Qi (fun r f9 => K r ∧ f9 = f : Int32 → FT → Prop) (FB G (fA f sz)) (fA f sz)) 0 0 (fA f sz) := by
  refine Met.ofW (cc := cX7_endOf) (maxL := 3) (ret := (some .int)) (by decide) rfl ?_
  intro p e s m args below meth c s₁ B hml hv
  obtain ⟨rfl, hsz, hF, hK, hZ⟩ := hv
  have hx := B.exec
  have hb := B.bytes
  have hr := B.returns
  have hts := atoms_spec (ws := wsX7_endOf) B.pre
  have hown : s.vm.findClass RX7 = some m.cls := findClass_of_methodNamed B.named
  have hlocks := B.notSynchronized
  subst hsz
  have hF := hF.self (sz := s.heap.size)
  generalize hAe : fA f s.heap.size = A at hF hZ ⊢
  have hA : ∀ q : Nat, s.heap.size ≤ q → A q := fun q h => by rw [← hAe]; exact Or.inr h
  have hS : va_S A s.heap s.heap [] := va_S.rf
  have hl := lv_entry ([.ref a0, .int x1, .int x2]) (n := 3) (Nat.le_of_ble_eq_true rfl)
  rw [lg_entry_eq]
  generalize (lg_sl ([.ref a0, .int x1, .int x2]) ++ List.replicate (3 - (lg_sl ([.ref a0, .int x1, .int x2])).length) Slot.unset).toArray = ls at hl ⊢
  have hl : lv_has ls 3 [(0, .ref a0), (1, .int x1), (2, .int x2)] := hl
  unfold wp_X7_endOf at h
  refine lv_aload_n hx hb dX7_endOf_0 rfl (lv_at hl 0 rfl) ?_
  refine lv_iload_n hx hb dX7_endOf_1 rfl (lv_at hl 1 rfl) ?_
  obtain ⟨⟨fs_a_1, hrc_a_1⟩, h⟩ := h
  refine fw_cV_q_p (As := [.int x1]) (rest := []) ⟨hx, hb, hml, hown, hts⟩ (cc_X7_tier l G h) (⟨callB_of 1 hts ggX7_endOf_X7_tier rfl rfl rfl (hts (.initialized RX7) (by decide +kernel)) (hts (.methodLink RX7 74 yX7_tier) (by decide +kernel)) (by decide +kernel) ⟨Nat.le_of_ble_eq_true rfl, Nat.le_of_ble_eq_true rfl⟩, hts (.instanceMethod yX7_tier) (by decide +kernel), hts (.selects RX7 yX7_tier yX7_tier) (by decide +kernel)⟩) rfl hrc_a_1 hK hZ hF hS hA rfl hl.1 rfl (Nat.le_of_ble_eq_true rfl) dX7_endOf_2 ⟨Nat.zero_le _, Nat.zero_le _⟩ (fun a_1 H locs h hF hS => ?_)
  refine lv_iload_n hx hb dX7_endOf_5 rfl (lv_at hl 2 rfl) ?_
  obtain ⟨⟨fs_r_2, hrc_r_2⟩, h⟩ := h
  refine fw_cV_i_p (As := [.int x2]) (rest := []) ⟨hx, hb, hml, hown, hts⟩ (cc_X2_at l G h) (⟨callB_of 1 hts ggX7_endOf_X2_at rfl rfl rfl (hts (.initialized RX2) (by decide +kernel)) (hts (.methodLink RX7 88 yX2_at) (by decide +kernel)) (by decide +kernel) ⟨Nat.le_of_ble_eq_true rfl, Nat.le_of_ble_eq_true rfl⟩, hts (.instanceMethod yX2_at) (by decide +kernel), hts (.selects RX2 yX2_at yX2_at) (by decide +kernel)⟩) rfl hrc_r_2 hK hZ hF hS hA rfl hl.1 rfl (Nat.le_of_ble_eq_true rfl) dX7_endOf_6 ⟨Nat.zero_le _, Nat.zero_le _⟩ (fun r_2 H locs h hF hS => ?_)
  exact W.iret (v := r_2) hx hb hr (fun t ht hW => ⟨⟨r_2, f, rfl, ⟨h, rfl⟩, by rw [ht]; exact hF, FK.moved hW.alike hK⟩, hS.F ht⟩) hS.2.2 dX7_endOf_9
theorem dX7_separatorAfter_0 : decode cX7_separatorAfter 0 = .ok (.iload_n 2, 1) := by decide +kernel
theorem dX7_separatorAfter_1 : decode cX7_separatorAfter 1 = .ok (.istore_n 3, 1) := by decide +kernel
theorem dX7_separatorAfter_2 : decode cX7_separatorAfter 2 = .ok (.iload_n 1, 1) := by decide +kernel
theorem dX7_separatorAfter_3 : decode cX7_separatorAfter 3 = .ok (.istore 4, 2) := by decide +kernel
theorem dX7_separatorAfter_5 : decode cX7_separatorAfter 5 = .ok (.iload 4, 2) := by decide +kernel
theorem dX7_separatorAfter_7 : decode cX7_separatorAfter 7 = .ok (.ifCond .le 22, 3) := by decide +kernel
theorem dX7_separatorAfter_10 : decode cX7_separatorAfter 10 = .ok (.aload_n 0, 1) := by decide +kernel
theorem dX7_separatorAfter_11 : decode cX7_separatorAfter 11 = .ok (.iload 4, 2) := by decide +kernel
theorem dX7_separatorAfter_13 : decode cX7_separatorAfter 13 = .ok (.invokevirtual 74, 3) := by decide +kernel
theorem dX7_separatorAfter_16 : decode cX7_separatorAfter 16 = .ok (.iload_n 3, 1) := by decide +kernel
theorem dX7_separatorAfter_17 : decode cX7_separatorAfter 17 = .ok (.invokevirtual 88, 3) := by decide +kernel
theorem dX7_separatorAfter_20 : decode cX7_separatorAfter 20 = .ok (.iconst 1, 1) := by decide +kernel
theorem dX7_separatorAfter_21 : decode cX7_separatorAfter 21 = .ok (.isub, 1) := by decide +kernel
theorem dX7_separatorAfter_22 : decode cX7_separatorAfter 22 = .ok (.istore_n 3, 1) := by decide +kernel
theorem dX7_separatorAfter_23 : decode cX7_separatorAfter 23 = .ok (.iinc 4 (-1), 3) := by decide +kernel
theorem dX7_separatorAfter_26 : decode cX7_separatorAfter 26 = .ok (.goto (-21), 3) := by decide +kernel
theorem dX7_separatorAfter_29 : decode cX7_separatorAfter 29 = .ok (.aload_n 0, 1) := by decide +kernel
theorem dX7_separatorAfter_30 : decode cX7_separatorAfter 30 = .ok (.getfield 25, 3) := by decide +kernel
theorem dX7_separatorAfter_33 : decode cX7_separatorAfter 33 = .ok (.iload_n 3, 1) := by decide +kernel
theorem dX7_separatorAfter_34 : decode cX7_separatorAfter 34 = .ok (.invokevirtual 104, 3) := by decide +kernel
theorem dX7_separatorAfter_37 : decode cX7_separatorAfter 37 = .ok (.areturn, 1) := by decide +kernel
set_option maxRecDepth 20000 in
theorem ggX7_separatorAfter_X2_at : GoodIn wsX7_separatorAfter wsX2_at := goodIn_r _ [37, 38, 39, 61, 62] (by decide +kernel) (by decide +kernel)
set_option maxRecDepth 20000 in
theorem ggX7_separatorAfter_X4_at : GoodIn wsX7_separatorAfter wsX4_at := goodIn_r _ [44, 45, 46, 47, 48, 11, 12, 13, 14, 15, 49, 17, 18, 19, 20, 21, 22, 23, 24, 25, 26, 27, 28, 29, 30, 31, 32, 63, 64, 58, 59, 60] (by decide +kernel) (by decide +kernel)
set_option maxRecDepth 20000 in
theorem ggX7_separatorAfter_X7_tier : GoodIn wsX7_separatorAfter wsX7_tier := goodIn_r _ [6, 7, 8, 9, 10, 11, 12, 13, 14, 15, 16, 17, 18, 19, 20, 21, 22, 23, 24, 25, 26, 27, 28, 29, 30, 31, 32, 50, 51, 52, 53, 54, 55, 56, 57, 58, 59, 60] (by decide +kernel) (by decide +kernel)
def wp_X7_separatorAfter_5 (a0 : Nat) (f : FT) (K : Nat → Prop)  (C5 : Int32 × Int32 → Prop) : Int32 × Int32 → Prop := fun s9 => match s9 with
  | (y3, y4) => ((y4 ≤ (0 : Int32) → gA f a0 10 2 fun a_2 => isO f a_2 7 ∧ wp_X4_at a_2 y3 f (fun a_4 => K a_4)) ∧
 (¬ (y4 ≤ (0 : Int32)) → isO f a0 10 ∧ wp_X7_tier a0 y4 f (fun a_5 => isO f a_5 5 ∧ wp_X2_at a_5 y3 f (fun r_6 => ∀ v_7 : Int32, v_7 = (r_6 - (1 : Int32)) → ∀ v_9 : Int32, v_9 = y4 + (-1) → C5 (v_7, v_9)))))
def wp_X7_separatorAfter (a0 : Nat) (x1 : Int32) (x2 : Int32) (f : FT) (K : Nat → Prop) : Prop :=
  ∃ n_11, loopW (wp_X7_separatorAfter_5 a0 f K) n_11 (x2, x1)
set_option maxHeartbeats 4000000 in
set_option maxRecDepth 100000 in
theorem cc_X7_separatorAfter (l : Launch) (G : GG) {f : FT} {sz : Nat} {a0 : Nat} {x1 : Int32} {x2 : Int32} {K : Nat → Prop} (h : wp_X7_separatorAfter a0 x1 x2 f K) : Met l yX7_separatorAfter wsX7_separatorAfter ({ frames := 4, cells := 0, slots := 0, locals := 85 } : Room) (FP G [.ref a0, .int x1, .int x2] f sz) (va_Qq (fun r f9 => ∃ q, r = some q ∧ K q ∧ f9 = f : Option Nat → FT → Prop) (FB G (fA f sz)) (fA f sz)) 0 0 (fA f sz) := by
  refine Met.ofW (cc := cX7_separatorAfter) (maxL := 5) (ret := (some (.object "FrontCodedIndex$Key"))) (by decide) rfl ?_
  intro p e s m args below meth c s₁ B hml hv
  obtain ⟨rfl, hsz, hF, hK, hZ⟩ := hv
  have hx := B.exec
  have hb := B.bytes
  have hr := B.returns
  have hts := atoms_spec (ws := wsX7_separatorAfter) B.pre
  have hown : s.vm.findClass RX7 = some m.cls := findClass_of_methodNamed B.named
  have hlocks := B.notSynchronized
  subst hsz
  have hF := hF.self (sz := s.heap.size)
  generalize hAe : fA f s.heap.size = A at hF hZ ⊢
  have hA : ∀ q : Nat, s.heap.size ≤ q → A q := fun q h => by rw [← hAe]; exact Or.inr h
  have hS : va_S A s.heap s.heap [] := va_S.rf
  have hin_X7 : ∀ w ∈ wsX70, w ∈ wsX7_separatorAfter := by decide +kernel
  have L5 : ∀  (j9 : Nat) (y3 : Int32) (y4 : Int32) (H : Heap) (locs : List Loc) (ls : Array Slot), loopW (wp_X7_separatorAfter_5 a0 f K ) j9 (y3, y4) → Fw G A f H → va_S A s.heap H locs → lv_has ls 5 [(0, .ref a0), (3, .int y3), (4, .int y4)] → W p l e ({ frames := 4, cells := 0, slots := 0, locals := 85 } : Room) s m ([.ref a0, .int x1, .int x2] : List Value).toArray below meth c H locs 0 0 (MQ below (va_Qq (fun r f9 => ∃ q, r = some q ∧ K q ∧ f9 = f : Option Nat → FT → Prop) (FB G A) A) ([.ref a0, .int x1, .int x2] : List Value).toArray s 0 0 A) (F0 m 5 ls []) := by
    intro  j9
    induction j9 with
    | zero => intro y3 y4 H locs ls h; exact h.elim
    | succ j9 ih5 =>
      intro y3 y4 H locs ls h hF hS hl
      have h : wp_X7_separatorAfter_5 a0 f K  (loopW (wp_X7_separatorAfter_5 a0 f K ) j9) (y3, y4) := h
      generalize loopW (wp_X7_separatorAfter_5 a0 f K ) j9 = C5 at ih5 h
      unfold wp_X7_separatorAfter_5 at h
      refine lv_iload hx hb dX7_separatorAfter_5 (lv_at hl 2 rfl) ?_
      obtain ⟨h1, h2⟩ := h
      refine lv_if_le (tgt := 29) hx hb dX7_separatorAfter_7 (by decide) (fun c_1 => ?_) (fun c_1 => ?_)
      · have h := h1 c_1
        refine lv_aload_n hx hb dX7_separatorAfter_29 rfl (lv_at hl 0 rfl) ?_
        obtain ⟨fs_3, a_2, he_fs_3, hv_fs_3, h⟩ := h
        refine fw_get (C := RX7) (T := TX7) (N := 8) hx hb hts hin_X7 hown hK hF he_fs_3 rfl 2 (by decide) (hts (.fieldLink RX7 25 "FrontCodedIndex$Tree" "separators" "LFrontCodedIndex$KeyRow;") (by decide +kernel)) (fun _ h9 => h9) hv_fs_3 dX7_separatorAfter_30 ?_
        refine lv_iload_n hx hb dX7_separatorAfter_33 rfl (lv_at hl 1 rfl) ?_
        obtain ⟨⟨fs_a_4, hrc_a_4⟩, h⟩ := h
        refine fw_cV_q_p (As := [.int y3]) (rest := []) ⟨hx, hb, hml, hown, hts⟩ (cc_X4_at l G h) (⟨callB_of 1 hts ggX7_separatorAfter_X4_at rfl rfl rfl (hts (.initialized RX4) (by decide +kernel)) (hts (.methodLink RX7 104 yX4_at) (by decide +kernel)) (by decide +kernel) ⟨Nat.le_of_ble_eq_true rfl, Nat.le_of_ble_eq_true rfl⟩, hts (.instanceMethod yX4_at) (by decide +kernel), hts (.selects RX4 yX4_at yX4_at) (by decide +kernel)⟩) rfl hrc_a_4 hK hZ hF hS hA rfl hl.1 rfl (Nat.le_of_ble_eq_true rfl) dX7_separatorAfter_34 ⟨Nat.zero_le _, Nat.zero_le _⟩ (fun a_4 H locs h hF hS => ?_)
        exact W.aret (v := .ref a_4) hx hb hr (Or.inl ⟨_, rfl⟩) (Or.inr ⟨a_4, rfl⟩) (fun t ht hW => ⟨⟨some a_4, f, rfl, ⟨_, rfl, ⟨h, rfl⟩⟩, by rw [ht]; exact hF, FK.moved hW.alike hK⟩, hS.F ht⟩) hS.2.2 dX7_separatorAfter_37
      · have h := h2 c_1
        refine lv_aload_n hx hb dX7_separatorAfter_10 rfl (lv_at hl 0 rfl) ?_
        refine lv_iload hx hb dX7_separatorAfter_11 (lv_at hl 2 rfl) ?_
        obtain ⟨⟨fs_a_5, hrc_a_5⟩, h⟩ := h
        refine fw_cV_q_p (As := [.int y4]) (rest := []) ⟨hx, hb, hml, hown, hts⟩ (cc_X7_tier l G h) (⟨callB_of 1 hts ggX7_separatorAfter_X7_tier rfl rfl rfl (hts (.initialized RX7) (by decide +kernel)) (hts (.methodLink RX7 74 yX7_tier) (by decide +kernel)) (by decide +kernel) ⟨Nat.le_of_ble_eq_true rfl, Nat.le_of_ble_eq_true rfl⟩, hts (.instanceMethod yX7_tier) (by decide +kernel), hts (.selects RX7 yX7_tier yX7_tier) (by decide +kernel)⟩) rfl hrc_a_5 hK hZ hF hS hA rfl hl.1 rfl (Nat.le_of_ble_eq_true rfl) dX7_separatorAfter_13 ⟨Nat.zero_le _, Nat.zero_le _⟩ (fun a_5 H locs h hF hS => ?_)
        refine lv_iload_n hx hb dX7_separatorAfter_16 rfl (lv_at hl 1 rfl) ?_
        obtain ⟨⟨fs_r_6, hrc_r_6⟩, h⟩ := h
        refine fw_cV_i_p (As := [.int y3]) (rest := []) ⟨hx, hb, hml, hown, hts⟩ (cc_X2_at l G h) (⟨callB_of 1 hts ggX7_separatorAfter_X2_at rfl rfl rfl (hts (.initialized RX2) (by decide +kernel)) (hts (.methodLink RX7 88 yX2_at) (by decide +kernel)) (by decide +kernel) ⟨Nat.le_of_ble_eq_true rfl, Nat.le_of_ble_eq_true rfl⟩, hts (.instanceMethod yX2_at) (by decide +kernel), hts (.selects RX2 yX2_at yX2_at) (by decide +kernel)⟩) rfl hrc_r_6 hK hZ hF hS hA rfl hl.1 rfl (Nat.le_of_ble_eq_true rfl) dX7_separatorAfter_17 ⟨Nat.zero_le _, Nat.zero_le _⟩ (fun r_6 H locs h hF hS => ?_)
        refine lv_iconst (v := (1 : Int32)) hx hb dX7_separatorAfter_20 (by decide) ?_
        refine lv_isub hx hb dX7_separatorAfter_21 ?_
        refine lv_topi (fun v_7 e_8 => ?_)
        have h := h v_7 e_8
        refine lv_istore_n (lv' := [(3, .int v_7), (0, .ref a0), (4, .int y4)]) hx hb dX7_separatorAfter_22 rfl hl (by decide) rfl (fun ls hl => ?_)
        obtain ⟨v_9, e_10⟩ : ∃ y : Int32, y = y4 + (-1) := ⟨_, rfl⟩
        have h := h v_9 e_10
        refine lv_iinc (v := v_9) (lv' := [(4, .int v_9), (3, .int v_7), (0, .ref a0)]) hx hb dX7_separatorAfter_23 hl (k := 2) rfl (by rw [e_10]; rfl) (by decide) rfl (fun ls hl => ?_)
        refine lv_goto (tgt := 5) hx hb dX7_separatorAfter_26 (by decide) ?_
        exact ih5 v_7 v_9 _ _ _ h hF hS (lv_sub hl [2, 1, 0] rfl)
  have hl := lv_entry ([.ref a0, .int x1, .int x2]) (n := 5) (Nat.le_of_ble_eq_true rfl)
  rw [lg_entry_eq]
  generalize (lg_sl ([.ref a0, .int x1, .int x2]) ++ List.replicate (5 - (lg_sl ([.ref a0, .int x1, .int x2])).length) Slot.unset).toArray = ls at hl ⊢
  have hl : lv_has ls 5 [(0, .ref a0), (1, .int x1), (2, .int x2)] := hl
  unfold wp_X7_separatorAfter at h
  refine lv_iload_n hx hb dX7_separatorAfter_0 rfl (lv_at hl 2 rfl) ?_
  refine lv_istore_n (lv' := [(3, .int x2), (0, .ref a0), (1, .int x1), (2, .int x2)]) hx hb dX7_separatorAfter_1 rfl hl (by decide) rfl (fun ls hl => ?_)
  refine lv_iload_n hx hb dX7_separatorAfter_2 rfl (lv_at hl 2 rfl) ?_
  refine lv_istore (lv' := [(4, .int x1), (3, .int x2), (0, .ref a0), (1, .int x1), (2, .int x2)]) hx hb dX7_separatorAfter_3 hl (by decide) rfl (fun ls hl => ?_)
  obtain ⟨n_11, h⟩ := h
  exact L5 n_11 x2 x1 _ _ _ h hF hS (lv_sub hl [2, 1, 0] rfl)
theorem dX3_length_0 : decode cX3_length 0 = .ok (.aload_n 0, 1) := by decide +kernel
theorem dX3_length_1 : decode cX3_length 1 = .ok (.getfield 7, 3) := by decide +kernel
theorem dX3_length_4 : decode cX3_length 4 = .ok (.arraylength, 1) := by decide +kernel
theorem dX3_length_5 : decode cX3_length 5 = .ok (.ireturn, 1) := by decide +kernel
def wp_X3_length (a0 : Nat) (f : FT) (K : Int32 → Prop) : Prop :=
  gA f a0 6 0 fun a_1 => aL f a_1 fun v_3 => K v_3
set_option maxHeartbeats 4000000 in
set_option maxRecDepth 100000 in
theorem cc_X3_length (l : Launch) (G : GG) {f : FT} {sz : Nat} {a0 : Nat} {K : Int32 → Prop} (h : wp_X3_length a0 f K) : Met l yX3_length wsX3_length ({ frames := 0, cells := 0, slots := 0, locals := 0 } : Room) (FP G [.ref a0] f sz) (va_Qi (fun r f9 => K r ∧ f9 = f : Int32 → FT → Prop) (FB G (fA f sz)) (fA f sz)) 0 0 (fA f sz) := by
  refine Met.ofW (cc := cX3_length) (maxL := 1) (ret := (some .int)) (by decide) rfl ?_
  intro p e s m args below meth c s₁ B hml hv
  obtain ⟨rfl, hsz, hF, hK, hZ⟩ := hv
  have hx := B.exec
  have hb := B.bytes
  have hr := B.returns
  have hts := atoms_spec (ws := wsX3_length) B.pre
  have hown : s.vm.findClass RX3 = some m.cls := findClass_of_methodNamed B.named
  have hlocks := B.notSynchronized
  subst hsz
  have hF := hF.self (sz := s.heap.size)
  generalize hAe : fA f s.heap.size = A at hF hZ ⊢
  have hA : ∀ q : Nat, s.heap.size ≤ q → A q := fun q h => by rw [← hAe]; exact Or.inr h
  have hS : va_S A s.heap s.heap [] := va_S.rf
  have hin_X3 : ∀ w ∈ wsX30, w ∈ wsX3_length := by decide +kernel
  have hl := lv_entry ([.ref a0]) (n := 1) (Nat.le_of_ble_eq_true rfl)
  rw [lg_entry_eq]
  generalize (lg_sl ([.ref a0]) ++ List.replicate (1 - (lg_sl ([.ref a0])).length) Slot.unset).toArray = ls at hl ⊢
  have hl : lv_has ls 1 [(0, .ref a0)] := hl
  unfold wp_X3_length at h
  refine lv_aload_n hx hb dX3_length_0 rfl (lv_at hl 0 rfl) ?_
  obtain ⟨fs_2, a_1, he_fs_2, hv_fs_2, h⟩ := h
  refine fw_get (C := RX3) (T := TX3) (N := 1) hx hb hts hin_X3 hown hK hF he_fs_2 rfl 0 (by decide) (hts (.fieldLink RX3 7 "FrontCodedIndex$Key" "bytes" "[B") (by decide +kernel)) (fun _ h9 => h9) hv_fs_2 dX3_length_1 ?_
  obtain ⟨t_q_4, q_4, he_q_4, ht_q_4, h⟩ := h
  refine fw_alen hx hb hK hF he_q_4 ht_q_4 dX3_length_4 ?_
  refine lv_topi (fun v_3 e_v_3 => ?_)
  have h := h v_3 e_v_3
  exact W.iret (v := v_3) hx hb hr (fun t ht hW => ⟨⟨v_3, f, rfl, ⟨h, rfl⟩, by rw [ht]; exact hF, FK.moved hW.alike hK⟩, hS.F ht⟩) hS.2.2 dX3_length_5
theorem dX7_spanBytes_0 : decode cX7_spanBytes 0 = .ok (.iload_n 1, 1) := by decide +kernel
theorem dX7_spanBytes_1 : decode cX7_spanBytes 1 = .ok (.ifCond .ne 7, 3) := by decide +kernel
theorem dX7_spanBytes_4 : decode cX7_spanBytes 4 = .ok (.iconst 1, 1) := by decide +kernel
theorem dX7_spanBytes_5 : decode cX7_spanBytes 5 = .ok (.goto 4, 3) := by decide +kernel
theorem dX7_spanBytes_8 : decode cX7_spanBytes 8 = .ok (.iconst 0, 1) := by decide +kernel
theorem dX7_spanBytes_9 : decode cX7_spanBytes 9 = .ok (.istore 4, 2) := by decide +kernel
theorem dX7_spanBytes_11 : decode cX7_spanBytes 11 = .ok (.iload 4, 2) := by decide +kernel
theorem dX7_spanBytes_13 : decode cX7_spanBytes 13 = .ok (.ifCond .eq 8, 3) := by decide +kernel
theorem dX7_spanBytes_16 : decode cX7_spanBytes 16 = .ok (.bipush 8, 2) := by decide +kernel
theorem dX7_spanBytes_18 : decode cX7_spanBytes 18 = .ok (.goto 11, 3) := by decide +kernel
theorem dX7_spanBytes_21 : decode cX7_spanBytes 21 = .ok (.bipush 8, 2) := by decide +kernel
theorem dX7_spanBytes_23 : decode cX7_spanBytes 23 = .ok (.iconst 4, 1) := by decide +kernel
theorem dX7_spanBytes_24 : decode cX7_spanBytes 24 = .ok (.iload_n 3, 1) := by decide +kernel
theorem dX7_spanBytes_25 : decode cX7_spanBytes 25 = .ok (.iload_n 2, 1) := by decide +kernel
theorem dX7_spanBytes_26 : decode cX7_spanBytes 26 = .ok (.isub, 1) := by decide +kernel
theorem dX7_spanBytes_27 : decode cX7_spanBytes 27 = .ok (.imul, 1) := by decide +kernel
theorem dX7_spanBytes_28 : decode cX7_spanBytes 28 = .ok (.iadd, 1) := by decide +kernel
theorem dX7_spanBytes_29 : decode cX7_spanBytes 29 = .ok (.istore 5, 2) := by decide +kernel
theorem dX7_spanBytes_31 : decode cX7_spanBytes 31 = .ok (.iload 4, 2) := by decide +kernel
theorem dX7_spanBytes_33 : decode cX7_spanBytes 33 = .ok (.ifCond .eq 8, 3) := by decide +kernel
theorem dX7_spanBytes_36 : decode cX7_spanBytes 36 = .ok (.bipush 7, 2) := by decide +kernel
theorem dX7_spanBytes_38 : decode cX7_spanBytes 38 = .ok (.goto 4, 3) := by decide +kernel
theorem dX7_spanBytes_41 : decode cX7_spanBytes 41 = .ok (.iconst 3, 1) := by decide +kernel
theorem dX7_spanBytes_42 : decode cX7_spanBytes 42 = .ok (.istore 6, 2) := by decide +kernel
theorem dX7_spanBytes_44 : decode cX7_spanBytes 44 = .ok (.iload 4, 2) := by decide +kernel
theorem dX7_spanBytes_46 : decode cX7_spanBytes 46 = .ok (.ifCond .eq 7, 3) := by decide +kernel
theorem dX7_spanBytes_49 : decode cX7_spanBytes 49 = .ok (.iload_n 3, 1) := by decide +kernel
theorem dX7_spanBytes_50 : decode cX7_spanBytes 50 = .ok (.goto 6, 3) := by decide +kernel
theorem dX7_spanBytes_53 : decode cX7_spanBytes 53 = .ok (.iload_n 3, 1) := by decide +kernel
theorem dX7_spanBytes_54 : decode cX7_spanBytes 54 = .ok (.iconst 1, 1) := by decide +kernel
theorem dX7_spanBytes_55 : decode cX7_spanBytes 55 = .ok (.isub, 1) := by decide +kernel
theorem dX7_spanBytes_56 : decode cX7_spanBytes 56 = .ok (.istore 7, 2) := by decide +kernel
theorem dX7_spanBytes_58 : decode cX7_spanBytes 58 = .ok (.aload_n 0, 1) := by decide +kernel
theorem dX7_spanBytes_59 : decode cX7_spanBytes 59 = .ok (.getfield 43, 3) := by decide +kernel
theorem dX7_spanBytes_62 : decode cX7_spanBytes 62 = .ok (.astore 8, 2) := by decide +kernel
theorem dX7_spanBytes_64 : decode cX7_spanBytes 64 = .ok (.iload_n 2, 1) := by decide +kernel
theorem dX7_spanBytes_65 : decode cX7_spanBytes 65 = .ok (.istore 9, 2) := by decide +kernel
theorem dX7_spanBytes_67 : decode cX7_spanBytes 67 = .ok (.iload 9, 2) := by decide +kernel
theorem dX7_spanBytes_69 : decode cX7_spanBytes 69 = .ok (.iload 7, 2) := by decide +kernel
theorem dX7_spanBytes_71 : decode cX7_spanBytes 71 = .ok (.if_icmp .ge 62, 3) := by decide +kernel
theorem dX7_spanBytes_74 : decode cX7_spanBytes 74 = .ok (.iload 4, 2) := by decide +kernel
theorem dX7_spanBytes_76 : decode cX7_spanBytes 76 = .ok (.ifCond .eq 15, 3) := by decide +kernel
theorem dX7_spanBytes_79 : decode cX7_spanBytes 79 = .ok (.aload_n 0, 1) := by decide +kernel
theorem dX7_spanBytes_80 : decode cX7_spanBytes 80 = .ok (.getfield 12, 3) := by decide +kernel
theorem dX7_spanBytes_83 : decode cX7_spanBytes 83 = .ok (.iload 9, 2) := by decide +kernel
theorem dX7_spanBytes_85 : decode cX7_spanBytes 85 = .ok (.invokevirtual 104, 3) := by decide +kernel
theorem dX7_spanBytes_88 : decode cX7_spanBytes 88 = .ok (.goto 12, 3) := by decide +kernel
theorem dX7_spanBytes_91 : decode cX7_spanBytes 91 = .ok (.aload_n 0, 1) := by decide +kernel
theorem dX7_spanBytes_92 : decode cX7_spanBytes 92 = .ok (.iload_n 1, 1) := by decide +kernel
theorem dX7_spanBytes_93 : decode cX7_spanBytes 93 = .ok (.iconst 1, 1) := by decide +kernel
theorem dX7_spanBytes_94 : decode cX7_spanBytes 94 = .ok (.isub, 1) := by decide +kernel
theorem dX7_spanBytes_95 : decode cX7_spanBytes 95 = .ok (.iload 9, 2) := by decide +kernel
theorem dX7_spanBytes_97 : decode cX7_spanBytes 97 = .ok (.invokevirtual 111, 3) := by decide +kernel
theorem dX7_spanBytes_100 : decode cX7_spanBytes 100 = .ok (.astore 10, 2) := by decide +kernel
theorem dX7_spanBytes_102 : decode cX7_spanBytes 102 = .ok (.iload 5, 2) := by decide +kernel
theorem dX7_spanBytes_104 : decode cX7_spanBytes 104 = .ok (.iload 6, 2) := by decide +kernel
theorem dX7_spanBytes_106 : decode cX7_spanBytes 106 = .ok (.aload 10, 2) := by decide +kernel
theorem dX7_spanBytes_108 : decode cX7_spanBytes 108 = .ok (.invokevirtual 115, 3) := by decide +kernel
theorem dX7_spanBytes_111 : decode cX7_spanBytes 111 = .ok (.iadd, 1) := by decide +kernel
theorem dX7_spanBytes_112 : decode cX7_spanBytes 112 = .ok (.aload 10, 2) := by decide +kernel
theorem dX7_spanBytes_114 : decode cX7_spanBytes 114 = .ok (.aload 8, 2) := by decide +kernel
theorem dX7_spanBytes_116 : decode cX7_spanBytes 116 = .ok (.invokevirtual 118, 3) := by decide +kernel
theorem dX7_spanBytes_119 : decode cX7_spanBytes 119 = .ok (.isub, 1) := by decide +kernel
theorem dX7_spanBytes_120 : decode cX7_spanBytes 120 = .ok (.iadd, 1) := by decide +kernel
theorem dX7_spanBytes_121 : decode cX7_spanBytes 121 = .ok (.istore 5, 2) := by decide +kernel
theorem dX7_spanBytes_123 : decode cX7_spanBytes 123 = .ok (.aload 10, 2) := by decide +kernel
theorem dX7_spanBytes_125 : decode cX7_spanBytes 125 = .ok (.astore 8, 2) := by decide +kernel
theorem dX7_spanBytes_127 : decode cX7_spanBytes 127 = .ok (.iinc 9 1, 3) := by decide +kernel
theorem dX7_spanBytes_130 : decode cX7_spanBytes 130 = .ok (.goto (-63), 3) := by decide +kernel
theorem dX7_spanBytes_133 : decode cX7_spanBytes 133 = .ok (.iload 5, 2) := by decide +kernel
theorem dX7_spanBytes_135 : decode cX7_spanBytes 135 = .ok (.ireturn, 1) := by decide +kernel
set_option maxRecDepth 20000 in
theorem ggX7_spanBytes_X3_length : GoodIn wsX7_spanBytes wsX3_length := goodIn_r _ [60, 61, 81] (by decide +kernel) (by decide +kernel)
set_option maxRecDepth 20000 in
theorem ggX7_spanBytes_X3_sharedWith : GoodIn wsX7_spanBytes wsX3_sharedWith := goodIn_r _ [65, 61, 81] (by decide +kernel) (by decide +kernel)
set_option maxRecDepth 20000 in
theorem ggX7_spanBytes_X4_at : GoodIn wsX7_spanBytes wsX4_at := goodIn_r _ [7, 8, 9, 10, 11, 12, 13, 14, 15, 16, 17, 18, 19, 20, 21, 22, 23, 24, 25, 26, 27, 28, 29, 30, 31, 32, 33, 74, 75, 76, 77, 78] (by decide +kernel) (by decide +kernel)
set_option maxRecDepth 20000 in
theorem ggX7_spanBytes_X7_separatorAfter : GoodIn wsX7_spanBytes wsX7_separatorAfter := goodIn_r _ [38, 39, 40, 41, 42, 37, 43, 44, 45, 46, 47, 12, 13, 14, 15, 16, 48, 18, 19, 20, 21, 22, 23, 24, 25, 26, 27, 28, 29, 30, 31, 32, 33, 49, 50, 51, 52, 53, 54, 55, 3, 4, 5, 6, 7, 8, 9, 10, 11, 17, 66, 67, 68, 69, 70, 71, 72, 73, 76, 77, 78, 79, 80, 74, 75] (by decide +kernel) (by decide +kernel)
def wp_X7_spanBytes_100 (a0 : Nat) (x1 : Int32) (y4 : Int32) (y6 : Int32) (y7 : Int32) (y5 : Int32) (o8 : Nat) (y9 : Int32) (b0 : Nat) (f : FT) (K : Int32 → Prop) (C67 : Int32 × Nat × Int32 → Prop) : Prop :=
  isO f b0 6 ∧ wp_X3_length b0 f (fun r_1 => isO f b0 6 ∧ wp_X3_sharedWith b0 o8 f (fun r_2 => ∀ v_3 : Int32, v_3 = (y5 + ((y6 + r_1) - r_2)) → ∀ v_5 : Int32, v_5 = y9 + 1 → C67 (v_3, b0, v_5)))
def wp_X7_spanBytes_67 (a0 : Nat) (x1 : Int32) (y4 : Int32) (y6 : Int32) (y7 : Int32) (f : FT) (K : Int32 → Prop)  (C67 : Int32 × Nat × Int32 → Prop) : Int32 × Nat × Int32 → Prop := fun s9 => match s9 with
  | (y5, o8, y9) => ((y7 ≤ y9 → K y5) ∧
 (¬ (y7 ≤ y9) → ((y4 = (0 : Int32) → isO f a0 10 ∧ wp_X7_separatorAfter a0 (x1 - (1 : Int32)) y9 f (fun a_9 => wp_X7_spanBytes_100 a0 x1 y4 y6 y7 y5 o8 y9 a_9 f K C67)) ∧
 (¬ (y4 = (0 : Int32)) → gA f a0 10 0 fun a_10 => isO f a_10 7 ∧ wp_X4_at a_10 y9 f (fun a_12 => wp_X7_spanBytes_100 a0 x1 y4 y6 y7 y5 o8 y9 a_12 f K C67)))))
def wp_X7_spanBytes_56 (a0 : Nat) (x1 : Int32) (x2 : Int32) (y4 : Int32) (y5 : Int32) (y6 : Int32) (z0 : Int32) (f : FT) (K : Int32 → Prop)  : Prop :=
  gA f a0 10 5 fun a_13 => ∃ n_15, loopW (wp_X7_spanBytes_67 a0 x1 y4 y6 z0 f K) n_15 (y5, a_13, x2)
def wp_X7_spanBytes_42 (a0 : Nat) (x1 : Int32) (x2 : Int32) (x3 : Int32) (y4 : Int32) (y5 : Int32) (z0 : Int32) (f : FT) (K : Int32 → Prop)  : Prop :=
  ((y4 = (0 : Int32) → wp_X7_spanBytes_56 a0 x1 x2 y4 y5 z0 (x3 - (1 : Int32)) f K) ∧
 (¬ (y4 = (0 : Int32)) → wp_X7_spanBytes_56 a0 x1 x2 y4 y5 z0 x3 f K))
def wp_X7_spanBytes_29 (a0 : Nat) (x1 : Int32) (x2 : Int32) (x3 : Int32) (y4 : Int32) (z0 : Int32) (f : FT) (K : Int32 → Prop)  : Prop :=
  ((y4 = (0 : Int32) → wp_X7_spanBytes_42 a0 x1 x2 x3 y4 z0 (3 : Int32) f K) ∧
 (¬ (y4 = (0 : Int32)) → wp_X7_spanBytes_42 a0 x1 x2 x3 y4 z0 (7 : Int32) f K))
def wp_X7_spanBytes_9 (a0 : Nat) (x1 : Int32) (x2 : Int32) (x3 : Int32) (z0 : Int32) (f : FT) (K : Int32 → Prop)  : Prop :=
  ((z0 = (0 : Int32) → wp_X7_spanBytes_29 a0 x1 x2 x3 z0 ((8 : Int32) + ((4 : Int32) * (x3 - x2))) f K) ∧
 (¬ (z0 = (0 : Int32)) → wp_X7_spanBytes_29 a0 x1 x2 x3 z0 (8 : Int32) f K))
def wp_X7_spanBytes (a0 : Nat) (x1 : Int32) (x2 : Int32) (x3 : Int32) (f : FT) (K : Int32 → Prop) : Prop :=
  ((¬ x1 = (0 : Int32) → wp_X7_spanBytes_9 a0 x1 x2 x3 (0 : Int32) f K) ∧
 (x1 = (0 : Int32) → wp_X7_spanBytes_9 a0 x1 x2 x3 (1 : Int32) f K))
set_option maxHeartbeats 4000000 in
set_option maxRecDepth 100000 in
theorem cc_X7_spanBytes (l : Launch) (G : GG) {f : FT} {sz : Nat} {a0 : Nat} {x1 : Int32} {x2 : Int32} {x3 : Int32} {K : Int32 → Prop} (h : wp_X7_spanBytes a0 x1 x2 x3 f K) : Met l yX7_spanBytes wsX7_spanBytes ({ frames := 5, cells := 0, slots := 0, locals := 109 } : Room) (FP G [.ref a0, .int x1, .int x2, .int x3] f sz) (va_Qi (fun r f9 => K r ∧ f9 = f : Int32 → FT → Prop) (FB G (fA f sz)) (fA f sz)) 0 0 (fA f sz) := by
  refine Met.ofW (cc := cX7_spanBytes) (maxL := 11) (ret := (some .int)) (by decide) rfl ?_
  intro p e s m args below meth c s₁ B hml hv
  obtain ⟨rfl, hsz, hF, hK, hZ⟩ := hv
  have hx := B.exec
  have hb := B.bytes
  have hr := B.returns
  have hts := atoms_spec (ws := wsX7_spanBytes) B.pre
  have hown : s.vm.findClass RX7 = some m.cls := findClass_of_methodNamed B.named
  have hlocks := B.notSynchronized
  subst hsz
  have hF := hF.self (sz := s.heap.size)
  generalize hAe : fA f s.heap.size = A at hF hZ ⊢
  have hA : ∀ q : Nat, s.heap.size ≤ q → A q := fun q h => by rw [← hAe]; exact Or.inr h
  have hS : va_S A s.heap s.heap [] := va_S.rf
  have hin_X7 : ∀ w ∈ wsX70, w ∈ wsX7_spanBytes := by decide +kernel
  have L67 : ∀ (y4 : Int32) (y6 : Int32) (y7 : Int32) (j9 : Nat) (y5 : Int32) (o8 : Nat) (y9 : Int32) (H : Heap) (locs : List Loc) (ls : Array Slot), loopW (wp_X7_spanBytes_67 a0 x1 y4 y6 y7 f K ) j9 (y5, o8, y9) → Fw G A f H → va_S A s.heap H locs → lv_has ls 11 [(0, .ref a0), (1, .int x1), (4, .int y4), (5, .int y5), (6, .int y6), (7, .int y7), (8, .ref o8), (9, .int y9)] → W p l e ({ frames := 5, cells := 0, slots := 0, locals := 109 } : Room) s m ([.ref a0, .int x1, .int x2, .int x3] : List Value).toArray below meth c H locs 0 0 (MQ below (va_Qi (fun r f9 => K r ∧ f9 = f : Int32 → FT → Prop) (FB G A) A) ([.ref a0, .int x1, .int x2, .int x3] : List Value).toArray s 0 0 A) (F0 m 67 ls []) := by
    intro y4 y6 y7 j9
    induction j9 with
    | zero => intro y5 o8 y9 H locs ls h; exact h.elim
    | succ j9 ih67 =>
      intro y5 o8 y9 H locs ls h hF hS hl
      have h : wp_X7_spanBytes_67 a0 x1 y4 y6 y7 f K  (loopW (wp_X7_spanBytes_67 a0 x1 y4 y6 y7 f K ) j9) (y5, o8, y9) := h
      generalize loopW (wp_X7_spanBytes_67 a0 x1 y4 y6 y7 f K ) j9 = C67 at ih67 h
      unfold wp_X7_spanBytes_67 at h
      have J100 : ∀ (y5 : Int32) (o8 : Nat) (y9 : Int32) (b0 : Nat) (H : Heap) (locs : List Loc) (ls : Array Slot), wp_X7_spanBytes_100 a0 x1 y4 y6 y7 y5 o8 y9 b0 f K C67 → Fw G A f H → va_S A s.heap H locs → lv_has ls 11 [(0, .ref a0), (1, .int x1), (4, .int y4), (5, .int y5), (6, .int y6), (7, .int y7), (8, .ref o8), (9, .int y9)] → W p l e ({ frames := 5, cells := 0, slots := 0, locals := 109 } : Room) s m ([.ref a0, .int x1, .int x2, .int x3] : List Value).toArray below meth c H locs 0 0 (MQ below (va_Qi (fun r f9 => K r ∧ f9 = f : Int32 → FT → Prop) (FB G A) A) ([.ref a0, .int x1, .int x2, .int x3] : List Value).toArray s 0 0 A) (F0 m 100 ls [.ref b0]) := by
        intro y5 o8 y9 b0 H locs ls h hF hS hl
        unfold wp_X7_spanBytes_100 at h
        refine lv_astore (lv' := [(10, .ref b0), (0, .ref a0), (1, .int x1), (4, .int y4), (5, .int y5), (6, .int y6), (7, .int y7), (8, .ref o8), (9, .int y9)]) hx hb dX7_spanBytes_100 hl (by decide) rfl (fun ls hl => ?_)
        refine lv_iload hx hb dX7_spanBytes_102 (lv_at hl 4 rfl) ?_
        refine lv_iload hx hb dX7_spanBytes_104 (lv_at hl 5 rfl) ?_
        refine lv_aload hx hb dX7_spanBytes_106 (lv_at hl 0 rfl) ?_
        obtain ⟨⟨fs_r_1, hrc_r_1⟩, h⟩ := h
        refine fw_cV_i_p (As := []) (rest := [.int y6, .int y5]) ⟨hx, hb, hml, hown, hts⟩ (cc_X3_length l G h) (⟨callB_of 0 hts ggX7_spanBytes_X3_length rfl rfl rfl (hts (.initialized RX3) (by decide +kernel)) (hts (.methodLink RX7 115 yX3_length) (by decide +kernel)) (by decide +kernel) ⟨Nat.le_of_ble_eq_true rfl, Nat.le_of_ble_eq_true rfl⟩, hts (.instanceMethod yX3_length) (by decide +kernel), hts (.selects RX3 yX3_length yX3_length) (by decide +kernel)⟩) rfl hrc_r_1 hK hZ hF hS hA rfl hl.1 rfl (Nat.le_of_ble_eq_true rfl) dX7_spanBytes_108 ⟨Nat.zero_le _, Nat.zero_le _⟩ (fun r_1 H locs h hF hS => ?_)
        refine lv_iadd hx hb dX7_spanBytes_111 ?_
        refine lv_aload hx hb dX7_spanBytes_112 (lv_at hl 0 rfl) ?_
        refine lv_aload hx hb dX7_spanBytes_114 (lv_at hl 7 rfl) ?_
        obtain ⟨⟨fs_r_2, hrc_r_2⟩, h⟩ := h
        refine fw_cV_i_p (As := [.ref o8]) (rest := [.int (y6 + r_1), .int y5]) ⟨hx, hb, hml, hown, hts⟩ (cc_X3_sharedWith l G h) (⟨callB_of 1 hts ggX7_spanBytes_X3_sharedWith rfl rfl rfl (hts (.initialized RX3) (by decide +kernel)) (hts (.methodLink RX7 118 yX3_sharedWith) (by decide +kernel)) (by decide +kernel) ⟨Nat.le_of_ble_eq_true rfl, Nat.le_of_ble_eq_true rfl⟩, hts (.instanceMethod yX3_sharedWith) (by decide +kernel), hts (.selects RX3 yX3_sharedWith yX3_sharedWith) (by decide +kernel)⟩) rfl hrc_r_2 hK hZ hF hS hA rfl hl.1 rfl (Nat.le_of_ble_eq_true rfl) dX7_spanBytes_116 ⟨Nat.zero_le _, Nat.zero_le _⟩ (fun r_2 H locs h hF hS => ?_)
        refine lv_isub hx hb dX7_spanBytes_119 ?_
        refine lv_iadd hx hb dX7_spanBytes_120 ?_
        refine lv_topi (fun v_3 e_4 => ?_)
        have h := h v_3 e_4
        refine lv_istore (lv' := [(5, .int v_3), (10, .ref b0), (0, .ref a0), (1, .int x1), (4, .int y4), (6, .int y6), (7, .int y7), (8, .ref o8), (9, .int y9)]) hx hb dX7_spanBytes_121 hl (by decide) rfl (fun ls hl => ?_)
        refine lv_aload hx hb dX7_spanBytes_123 (lv_at hl 1 rfl) ?_
        refine lv_astore (lv' := [(8, .ref b0), (5, .int v_3), (10, .ref b0), (0, .ref a0), (1, .int x1), (4, .int y4), (6, .int y6), (7, .int y7), (9, .int y9)]) hx hb dX7_spanBytes_125 hl (by decide) rfl (fun ls hl => ?_)
        obtain ⟨v_5, e_6⟩ : ∃ y : Int32, y = y9 + 1 := ⟨_, rfl⟩
        have h := h v_5 e_6
        refine lv_iinc (v := v_5) (lv' := [(9, .int v_5), (8, .ref b0), (5, .int v_3), (10, .ref b0), (0, .ref a0), (1, .int x1), (4, .int y4), (6, .int y6), (7, .int y7)]) hx hb dX7_spanBytes_127 hl (k := 8) rfl (by rw [e_6]; rfl) (by decide) rfl (fun ls hl => ?_)
        refine lv_goto (tgt := 67) hx hb dX7_spanBytes_130 (by decide) ?_
        exact ih67 v_3 b0 v_5 _ _ _ h hF hS (lv_sub hl [4, 5, 6, 2, 7, 8, 1, 0] rfl)
      refine lv_iload hx hb dX7_spanBytes_67 (lv_at hl 7 rfl) ?_
      refine lv_iload hx hb dX7_spanBytes_69 (lv_at hl 5 rfl) ?_
      obtain ⟨h1, h2⟩ := h
      refine lv_icmp_ge (tgt := 133) hx hb dX7_spanBytes_71 (by decide) (fun c_7 => ?_) (fun c_7 => ?_)
      · have h := h1 c_7
        refine lv_iload hx hb dX7_spanBytes_133 (lv_at hl 3 rfl) ?_
        exact W.iret (v := y5) hx hb hr (fun t ht hW => ⟨⟨y5, f, rfl, ⟨h, rfl⟩, by rw [ht]; exact hF, FK.moved hW.alike hK⟩, hS.F ht⟩) hS.2.2 dX7_spanBytes_135
      · have h := h2 c_7
        refine lv_iload hx hb dX7_spanBytes_74 (lv_at hl 2 rfl) ?_
        obtain ⟨h1, h2⟩ := h
        refine lv_if_eq (tgt := 91) hx hb dX7_spanBytes_76 (by decide) (fun c_8 => ?_) (fun c_8 => ?_)
        · have h := h1 c_8
          refine lv_aload_n hx hb dX7_spanBytes_91 rfl (lv_at hl 0 rfl) ?_
          refine lv_iload_n hx hb dX7_spanBytes_92 rfl (lv_at hl 1 rfl) ?_
          refine lv_iconst (v := (1 : Int32)) hx hb dX7_spanBytes_93 (by decide) ?_
          refine lv_isub hx hb dX7_spanBytes_94 ?_
          refine lv_iload hx hb dX7_spanBytes_95 (lv_at hl 7 rfl) ?_
          obtain ⟨⟨fs_a_9, hrc_a_9⟩, h⟩ := h
          refine fw_cV_q_p (As := [.int (x1 - (1 : Int32)), .int y9]) (rest := []) ⟨hx, hb, hml, hown, hts⟩ (cc_X7_separatorAfter l G h) (⟨callB_of 2 hts ggX7_spanBytes_X7_separatorAfter rfl rfl rfl (hts (.initialized RX7) (by decide +kernel)) (hts (.methodLink RX7 111 yX7_separatorAfter) (by decide +kernel)) (by decide +kernel) ⟨Nat.le_of_ble_eq_true rfl, Nat.le_of_ble_eq_true rfl⟩, hts (.instanceMethod yX7_separatorAfter) (by decide +kernel), hts (.selects RX7 yX7_separatorAfter yX7_separatorAfter) (by decide +kernel)⟩) rfl hrc_a_9 hK hZ hF hS hA rfl hl.1 rfl (Nat.le_of_ble_eq_true rfl) dX7_spanBytes_97 ⟨Nat.zero_le _, Nat.zero_le _⟩ (fun a_9 H locs h hF hS => ?_)
          exact J100 y5 o8 y9 a_9 _ _ _ h hF hS (lv_sub hl [0, 1, 2, 3, 4, 5, 6, 7] rfl)
        · have h := h2 c_8
          refine lv_aload_n hx hb dX7_spanBytes_79 rfl (lv_at hl 0 rfl) ?_
          obtain ⟨fs_11, a_10, he_fs_11, hv_fs_11, h⟩ := h
          refine fw_get (C := RX7) (T := TX7) (N := 8) hx hb hts hin_X7 hown hK hF he_fs_11 rfl 0 (by decide) (hts (.fieldLink RX7 12 "FrontCodedIndex$Tree" "keys" "LFrontCodedIndex$KeyRow;") (by decide +kernel)) (fun _ h9 => h9) hv_fs_11 dX7_spanBytes_80 ?_
          refine lv_iload hx hb dX7_spanBytes_83 (lv_at hl 7 rfl) ?_
          obtain ⟨⟨fs_a_12, hrc_a_12⟩, h⟩ := h
          refine fw_cV_q_p (As := [.int y9]) (rest := []) ⟨hx, hb, hml, hown, hts⟩ (cc_X4_at l G h) (⟨callB_of 1 hts ggX7_spanBytes_X4_at rfl rfl rfl (hts (.initialized RX4) (by decide +kernel)) (hts (.methodLink RX7 104 yX4_at) (by decide +kernel)) (by decide +kernel) ⟨Nat.le_of_ble_eq_true rfl, Nat.le_of_ble_eq_true rfl⟩, hts (.instanceMethod yX4_at) (by decide +kernel), hts (.selects RX4 yX4_at yX4_at) (by decide +kernel)⟩) rfl hrc_a_12 hK hZ hF hS hA rfl hl.1 rfl (Nat.le_of_ble_eq_true rfl) dX7_spanBytes_85 ⟨Nat.zero_le _, Nat.zero_le _⟩ (fun a_12 H locs h hF hS => ?_)
          refine lv_goto (tgt := 100) hx hb dX7_spanBytes_88 (by decide) ?_
          exact J100 y5 o8 y9 a_12 _ _ _ h hF hS (lv_sub hl [0, 1, 2, 3, 4, 5, 6, 7] rfl)
  have J56 : ∀ (y4 : Int32) (y5 : Int32) (y6 : Int32) (z0 : Int32) (H : Heap) (locs : List Loc) (ls : Array Slot), wp_X7_spanBytes_56 a0 x1 x2 y4 y5 y6 z0 f K  → Fw G A f H → va_S A s.heap H locs → lv_has ls 11 [(0, .ref a0), (1, .int x1), (2, .int x2), (4, .int y4), (5, .int y5), (6, .int y6)] → W p l e ({ frames := 5, cells := 0, slots := 0, locals := 109 } : Room) s m ([.ref a0, .int x1, .int x2, .int x3] : List Value).toArray below meth c H locs 0 0 (MQ below (va_Qi (fun r f9 => K r ∧ f9 = f : Int32 → FT → Prop) (FB G A) A) ([.ref a0, .int x1, .int x2, .int x3] : List Value).toArray s 0 0 A) (F0 m 56 ls [.int z0]) := by
    intro y4 y5 y6 z0 H locs ls h hF hS hl
    unfold wp_X7_spanBytes_56 at h
    refine lv_istore (lv' := [(7, .int z0), (0, .ref a0), (1, .int x1), (2, .int x2), (4, .int y4), (5, .int y5), (6, .int y6)]) hx hb dX7_spanBytes_56 hl (by decide) rfl (fun ls hl => ?_)
    refine lv_aload_n hx hb dX7_spanBytes_58 rfl (lv_at hl 1 rfl) ?_
    obtain ⟨fs_14, a_13, he_fs_14, hv_fs_14, h⟩ := h
    refine fw_get (C := RX7) (T := TX7) (N := 8) hx hb hts hin_X7 hown hK hF he_fs_14 rfl 5 (by decide) (hts (.fieldLink RX7 43 "FrontCodedIndex$Tree" "noKey" "LFrontCodedIndex$Key;") (by decide +kernel)) (fun _ h9 => h9) hv_fs_14 dX7_spanBytes_59 ?_
    refine lv_astore (lv' := [(8, .ref a_13), (7, .int z0), (0, .ref a0), (1, .int x1), (2, .int x2), (4, .int y4), (5, .int y5), (6, .int y6)]) hx hb dX7_spanBytes_62 hl (by decide) rfl (fun ls hl => ?_)
    refine lv_iload_n hx hb dX7_spanBytes_64 rfl (lv_at hl 4 rfl) ?_
    refine lv_istore (lv' := [(9, .int x2), (8, .ref a_13), (7, .int z0), (0, .ref a0), (1, .int x1), (2, .int x2), (4, .int y4), (5, .int y5), (6, .int y6)]) hx hb dX7_spanBytes_65 hl (by decide) rfl (fun ls hl => ?_)
    obtain ⟨n_15, h⟩ := h
    exact L67 y4 y6 z0 n_15 y5 a_13 x2 _ _ _ h hF hS (lv_sub hl [3, 4, 6, 7, 8, 2, 1, 0] rfl)
  have J42 : ∀ (y4 : Int32) (y5 : Int32) (z0 : Int32) (H : Heap) (locs : List Loc) (ls : Array Slot), wp_X7_spanBytes_42 a0 x1 x2 x3 y4 y5 z0 f K  → Fw G A f H → va_S A s.heap H locs → lv_has ls 11 [(0, .ref a0), (1, .int x1), (2, .int x2), (3, .int x3), (4, .int y4), (5, .int y5)] → W p l e ({ frames := 5, cells := 0, slots := 0, locals := 109 } : Room) s m ([.ref a0, .int x1, .int x2, .int x3] : List Value).toArray below meth c H locs 0 0 (MQ below (va_Qi (fun r f9 => K r ∧ f9 = f : Int32 → FT → Prop) (FB G A) A) ([.ref a0, .int x1, .int x2, .int x3] : List Value).toArray s 0 0 A) (F0 m 42 ls [.int z0]) := by
    intro y4 y5 z0 H locs ls h hF hS hl
    unfold wp_X7_spanBytes_42 at h
    refine lv_istore (lv' := [(6, .int z0), (0, .ref a0), (1, .int x1), (2, .int x2), (3, .int x3), (4, .int y4), (5, .int y5)]) hx hb dX7_spanBytes_42 hl (by decide) rfl (fun ls hl => ?_)
    refine lv_iload hx hb dX7_spanBytes_44 (lv_at hl 5 rfl) ?_
    obtain ⟨h1, h2⟩ := h
    refine lv_if_eq (tgt := 53) hx hb dX7_spanBytes_46 (by decide) (fun c_16 => ?_) (fun c_16 => ?_)
    · have h := h1 c_16
      refine lv_iload_n hx hb dX7_spanBytes_53 rfl (lv_at hl 4 rfl) ?_
      refine lv_iconst (v := (1 : Int32)) hx hb dX7_spanBytes_54 (by decide) ?_
      refine lv_isub hx hb dX7_spanBytes_55 ?_
      exact J56 y4 y5 z0 (x3 - (1 : Int32)) _ _ _ h hF hS (lv_sub hl [1, 2, 3, 5, 6, 0] rfl)
    · have h := h2 c_16
      refine lv_iload_n hx hb dX7_spanBytes_49 rfl (lv_at hl 4 rfl) ?_
      refine lv_goto (tgt := 56) hx hb dX7_spanBytes_50 (by decide) ?_
      exact J56 y4 y5 z0 x3 _ _ _ h hF hS (lv_sub hl [1, 2, 3, 5, 6, 0] rfl)
  have J29 : ∀ (y4 : Int32) (z0 : Int32) (H : Heap) (locs : List Loc) (ls : Array Slot), wp_X7_spanBytes_29 a0 x1 x2 x3 y4 z0 f K  → Fw G A f H → va_S A s.heap H locs → lv_has ls 11 [(0, .ref a0), (1, .int x1), (2, .int x2), (3, .int x3), (4, .int y4)] → W p l e ({ frames := 5, cells := 0, slots := 0, locals := 109 } : Room) s m ([.ref a0, .int x1, .int x2, .int x3] : List Value).toArray below meth c H locs 0 0 (MQ below (va_Qi (fun r f9 => K r ∧ f9 = f : Int32 → FT → Prop) (FB G A) A) ([.ref a0, .int x1, .int x2, .int x3] : List Value).toArray s 0 0 A) (F0 m 29 ls [.int z0]) := by
    intro y4 z0 H locs ls h hF hS hl
    unfold wp_X7_spanBytes_29 at h
    refine lv_istore (lv' := [(5, .int z0), (0, .ref a0), (1, .int x1), (2, .int x2), (3, .int x3), (4, .int y4)]) hx hb dX7_spanBytes_29 hl (by decide) rfl (fun ls hl => ?_)
    refine lv_iload hx hb dX7_spanBytes_31 (lv_at hl 5 rfl) ?_
    obtain ⟨h1, h2⟩ := h
    refine lv_if_eq (tgt := 41) hx hb dX7_spanBytes_33 (by decide) (fun c_17 => ?_) (fun c_17 => ?_)
    · have h := h1 c_17
      refine lv_iconst (v := (3 : Int32)) hx hb dX7_spanBytes_41 (by decide) ?_
      exact J42 y4 z0 (3 : Int32) _ _ _ h hF hS (lv_sub hl [1, 2, 3, 4, 5, 0] rfl)
    · have h := h2 c_17
      refine lv_bipush (v := (7 : Int32)) hx hb dX7_spanBytes_36 (by decide) ?_
      refine lv_goto (tgt := 42) hx hb dX7_spanBytes_38 (by decide) ?_
      exact J42 y4 z0 (7 : Int32) _ _ _ h hF hS (lv_sub hl [1, 2, 3, 4, 5, 0] rfl)
  have J9 : ∀ (z0 : Int32) (H : Heap) (locs : List Loc) (ls : Array Slot), wp_X7_spanBytes_9 a0 x1 x2 x3 z0 f K  → Fw G A f H → va_S A s.heap H locs → lv_has ls 11 [(0, .ref a0), (1, .int x1), (2, .int x2), (3, .int x3)] → W p l e ({ frames := 5, cells := 0, slots := 0, locals := 109 } : Room) s m ([.ref a0, .int x1, .int x2, .int x3] : List Value).toArray below meth c H locs 0 0 (MQ below (va_Qi (fun r f9 => K r ∧ f9 = f : Int32 → FT → Prop) (FB G A) A) ([.ref a0, .int x1, .int x2, .int x3] : List Value).toArray s 0 0 A) (F0 m 9 ls [.int z0]) := by
    intro z0 H locs ls h hF hS hl
    unfold wp_X7_spanBytes_9 at h
    refine lv_istore (lv' := [(4, .int z0), (0, .ref a0), (1, .int x1), (2, .int x2), (3, .int x3)]) hx hb dX7_spanBytes_9 hl (by decide) rfl (fun ls hl => ?_)
    refine lv_iload hx hb dX7_spanBytes_11 (lv_at hl 0 rfl) ?_
    obtain ⟨h1, h2⟩ := h
    refine lv_if_eq (tgt := 21) hx hb dX7_spanBytes_13 (by decide) (fun c_18 => ?_) (fun c_18 => ?_)
    · have h := h1 c_18
      refine lv_bipush (v := (8 : Int32)) hx hb dX7_spanBytes_21 (by decide) ?_
      refine lv_iconst (v := (4 : Int32)) hx hb dX7_spanBytes_23 (by decide) ?_
      refine lv_iload_n hx hb dX7_spanBytes_24 rfl (lv_at hl 4 rfl) ?_
      refine lv_iload_n hx hb dX7_spanBytes_25 rfl (lv_at hl 3 rfl) ?_
      refine lv_isub hx hb dX7_spanBytes_26 ?_
      refine lv_imul hx hb dX7_spanBytes_27 ?_
      refine lv_iadd hx hb dX7_spanBytes_28 ?_
      exact J29 z0 ((8 : Int32) + ((4 : Int32) * (x3 - x2))) _ _ _ h hF hS (lv_sub hl [1, 2, 3, 4, 0] rfl)
    · have h := h2 c_18
      refine lv_bipush (v := (8 : Int32)) hx hb dX7_spanBytes_16 (by decide) ?_
      refine lv_goto (tgt := 29) hx hb dX7_spanBytes_18 (by decide) ?_
      exact J29 z0 (8 : Int32) _ _ _ h hF hS (lv_sub hl [1, 2, 3, 4, 0] rfl)
  have hl := lv_entry ([.ref a0, .int x1, .int x2, .int x3]) (n := 11) (Nat.le_of_ble_eq_true rfl)
  rw [lg_entry_eq]
  generalize (lg_sl ([.ref a0, .int x1, .int x2, .int x3]) ++ List.replicate (11 - (lg_sl ([.ref a0, .int x1, .int x2, .int x3])).length) Slot.unset).toArray = ls at hl ⊢
  have hl : lv_has ls 11 [(0, .ref a0), (1, .int x1), (2, .int x2), (3, .int x3)] := hl
  unfold wp_X7_spanBytes at h
  refine lv_iload_n hx hb dX7_spanBytes_0 rfl (lv_at hl 1 rfl) ?_
  obtain ⟨h1, h2⟩ := h
  refine lv_if_ne (tgt := 8) hx hb dX7_spanBytes_1 (by decide) (fun c_19 => ?_) (fun c_19 => ?_)
  · have h := h1 c_19
    refine lv_iconst (v := (0 : Int32)) hx hb dX7_spanBytes_8 (by decide) ?_
    exact J9 (0 : Int32) _ _ _ h hF hS (lv_sub hl [0, 1, 2, 3] rfl)
  · have h := h2 c_19
    refine lv_iconst (v := (1 : Int32)) hx hb dX7_spanBytes_4 (by decide) ?_
    refine lv_goto (tgt := 9) hx hb dX7_spanBytes_5 (by decide) ?_
    exact J9 (1 : Int32) _ _ _ h hF hS (lv_sub hl [0, 1, 2, 3] rfl)
