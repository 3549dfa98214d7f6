theorem dX1_init_0 : decode cX1_init 0 = .ok (.aload_n 0, 1) := by decide +kernel
theorem dX1_init_1 : decode cX1_init 1 = .ok (.invokespecial 1, 3) := by decide +kernel
theorem dX1_init_4 : decode cX1_init 4 = .ok (.aload_n 0, 1) := by decide +kernel
theorem dX1_init_5 : decode cX1_init 5 = .ok (.iconst 0, 1) := by decide +kernel
theorem dX1_init_6 : decode cX1_init 6 = .ok (.putfield 7, 3) := by decide +kernel
theorem dX1_init_9 : decode cX1_init 9 = .ok (.aload_n 0, 1) := by decide +kernel
theorem dX1_init_10 : decode cX1_init 10 = .ok (.iconst 0, 1) := by decide +kernel
theorem dX1_init_11 : decode cX1_init 11 = .ok (.putfield 13, 3) := by decide +kernel
theorem dX1_init_14 : decode cX1_init 14 = .ok (.aload_n 0, 1) := by decide +kernel
theorem dX1_init_15 : decode cX1_init 15 = .ok (.aload_n 1, 1) := by decide +kernel
theorem dX1_init_16 : decode cX1_init 16 = .ok (.putfield 16, 3) := by decide +kernel
theorem dX1_init_19 : decode cX1_init 19 = .ok (.aload_n 0, 1) := by decide +kernel
theorem dX1_init_20 : decode cX1_init 20 = .ok (.aload_n 2, 1) := by decide +kernel
theorem dX1_init_21 : decode cX1_init 21 = .ok (.putfield 20, 3) := by decide +kernel
theorem dX1_init_24 : decode cX1_init 24 = .ok (.return_, 1) := by decide +kernel
def wp_X1_init (a0 : Nat) (a1 : Nat) (a2 : Nat) (f : FT) (K : FT → Prop) : Prop :=
  pV f a0 4 2 (.int (0 : Int32)) fun f_2 => pV f_2 a0 4 3 (.int (0 : Int32)) fun f_4 => pV f_4 a0 4 0 (.ref a1) fun f_6 => pV f_6 a0 4 1 (.ref a2) fun f_8 => K f_8
set_option maxHeartbeats 4000000 in
set_option maxRecDepth 100000 in
theorem cc_X1_init (l : Launch) (G : GG) {f : FT} {sz : Nat} {a0 : Nat} {a1 : Nat} {a2 : Nat} {K : FT → Prop} (h : wp_X1_init a0 a1 a2 f K) : Met l yX1_init wsX1_init ({ frames := 1, cells := 0, slots := 0, locals := 20 } : Room) (FP G [.ref a0, .ref a1, .ref a2] f sz) (va_Qv (fun f9 => K f9 : FT → Prop) (FB G (fA f sz)) (fA f sz)) 0 0 (fA f sz) := by
  refine Met.ofW (cc := cX1_init) (maxL := 3) (ret := none) (by decide) rfl ?_
  intro p e s m args below meth c s₁ B hml hv
  obtain ⟨rfl, hsz, hF, hK, hZ⟩ := hv
  have hx := B.exec
  have hb := B.bytes
  have hr := B.returns
  have hts := atoms_spec (ws := wsX1_init) B.pre
  have hown : s.vm.findClass RX1 = some m.cls := findClass_of_methodNamed B.named
  have hlocks := B.notSynchronized
  have hin : meth.name = "<init>" := (name_of_methodNamed B.named B.method).1
  subst hsz
  have hF := hF.self (sz := s.heap.size)
  generalize hAe : fA f s.heap.size = A at hF hZ ⊢
  have hA : ∀ q : Nat, s.heap.size ≤ q → A q := fun q h => by rw [← hAe]; exact Or.inr h
  have hS : va_S A s.heap s.heap [] := va_S.rf
  have hin_X1 : ∀ w ∈ wsX10, w ∈ wsX1_init := by decide +kernel
  have hl := lv_entry ([.ref a0, .ref a1, .ref a2]) (n := 3) (Nat.le_of_ble_eq_true rfl)
  rw [lg_entry_eq]
  generalize (lg_sl ([.ref a0, .ref a1, .ref a2]) ++ List.replicate (3 - (lg_sl ([.ref a0, .ref a1, .ref a2])).length) Slot.unset).toArray = ls at hl ⊢
  have hl : lv_has ls 3 [(0, .ref a0), (1, .ref a1), (2, .ref a2)] := hl
  unfold wp_X1_init at h
  refine lv_aload_n hx hb dX1_init_0 rfl (lv_at hl 0 rfl) ?_
  refine W.objInit hx hb hown (hts (.methodLink RX1 1 objectInit) (by decide +kernel)) (hts (.instanceMethod objectInit) (by decide +kernel)) (hts (.code objectInit ⟨#[0xb1]⟩ 1 none) (by decide +kernel)) rfl (by rw [hml]; exact hl.1) rfl dX1_init_1 (Nat.le_of_ble_eq_true rfl) (Nat.le_of_ble_eq_true rfl) ?_
  refine W.eq (g2 := F0 m 4 ls []) rfl ?_
  refine lv_aload_n hx hb dX1_init_4 rfl (lv_at hl 0 rfl) ?_
  refine lv_iconst (v := (0 : Int32)) hx hb dX1_init_5 (by decide) ?_
  obtain ⟨fs_1, he_fs_1, hl_fs_1, h⟩ := h
  refine fw_put (v := .int (0 : Int32)) (ty := .int) (C := RX1) (T := TX1) (N := 4) hx hb hts hin_X1 tyX1 (tyX1_ok) nmX1 hown hK hF hS he_fs_1 rfl 2 (by decide) (hts (.fieldLink RX1 7 "FrontCodedIndex$Inserter" "splits" "I") (by decide +kernel)) (fun _ h9 => h9) rfl (by decide +kernel) rfl rfl hl_fs_1 dX1_init_6 (fun H locs hF hS => ?_)
  obtain ⟨f_2, hf_f_2⟩ : ∃ z, z = fup f a0 (.inr (4, fs_1.set 2 (.int (0 : Int32)))) := ⟨_, rfl⟩
  rw [← hf_f_2] at hF; have h := h f_2 hf_f_2
  refine lv_aload_n hx hb dX1_init_9 rfl (lv_at hl 0 rfl) ?_
  refine lv_iconst (v := (0 : Int32)) hx hb dX1_init_10 (by decide) ?_
  obtain ⟨fs_3, he_fs_3, hl_fs_3, h⟩ := h
  refine fw_put (v := .int (0 : Int32)) (ty := .int) (C := RX1) (T := TX1) (N := 4) hx hb hts hin_X1 tyX1 (tyX1_ok) nmX1 hown hK hF hS he_fs_3 rfl 3 (by decide) (hts (.fieldLink RX1 13 "FrontCodedIndex$Inserter" "redistributions" "I") (by decide +kernel)) (fun _ h9 => h9) rfl (by decide +kernel) rfl rfl hl_fs_3 dX1_init_11 (fun H locs hF hS => ?_)
  obtain ⟨f_4, hf_f_4⟩ : ∃ z, z = fup f_2 a0 (.inr (4, fs_3.set 3 (.int (0 : Int32)))) := ⟨_, rfl⟩
  rw [← hf_f_4] at hF; have h := h f_4 hf_f_4
  refine lv_aload_n hx hb dX1_init_14 rfl (lv_at hl 0 rfl) ?_
  refine lv_aload_n hx hb dX1_init_15 rfl (lv_at hl 1 rfl) ?_
  obtain ⟨fs_5, he_fs_5, hl_fs_5, h⟩ := h
  refine fw_putF (v := .ref a1) (ty := (.object "FrontCodedIndex$Tree")) (C := RX1) (T := TX1) (N := 4) hx hb hts hin_X1 tyX1 (tyX1_ok) nmX1 hown hK hF hS he_fs_5 rfl 0 (by decide) (hts (.fieldLink RX1 16 "FrontCodedIndex$Inserter" "tree" "LFrontCodedIndex$Tree;") (by decide +kernel)) (fun _ h9 => h9) rfl hin rfl (by decide +kernel) rfl rfl hl_fs_5 dX1_init_16 (fun H locs hF hS => ?_)
  obtain ⟨f_6, hf_f_6⟩ : ∃ z, z = fup f_4 a0 (.inr (4, fs_5.set 0 (.ref a1))) := ⟨_, rfl⟩
  rw [← hf_f_6] at hF; have h := h f_6 hf_f_6
  refine lv_aload_n hx hb dX1_init_19 rfl (lv_at hl 0 rfl) ?_
  refine lv_aload_n hx hb dX1_init_20 rfl (lv_at hl 2 rfl) ?_
  obtain ⟨fs_7, he_fs_7, hl_fs_7, h⟩ := h
  refine fw_putF (v := .ref a2) (ty := (.object "FrontCodedIndex$Cursors")) (C := RX1) (T := TX1) (N := 4) hx hb hts hin_X1 tyX1 (tyX1_ok) nmX1 hown hK hF hS he_fs_7 rfl 1 (by decide) (hts (.fieldLink RX1 20 "FrontCodedIndex$Inserter" "cursors" "LFrontCodedIndex$Cursors;") (by decide +kernel)) (fun _ h9 => h9) rfl hin rfl (by decide +kernel) rfl rfl hl_fs_7 dX1_init_21 (fun H locs hF hS => ?_)
  obtain ⟨f_8, hf_f_8⟩ : ∃ z, z = fup f_6 a0 (.inr (4, fs_7.set 1 (.ref a2))) := ⟨_, rfl⟩
  rw [← hf_f_8] at hF; have h := h f_8 hf_f_8
  exact W.vret hx hb hr (fun t ht hW => ⟨⟨f_8, rfl, h, by rw [ht]; exact hF, FK.moved hW.alike hK⟩, hS.F ht⟩) hS.2.2 dX1_init_24
theorem dX7_pageBytes_0 : decode cX7_pageBytes 0 = .ok (.aload_n 0, 1) := by decide +kernel
theorem dX7_pageBytes_1 : decode cX7_pageBytes 1 = .ok (.iload_n 1, 1) := by decide +kernel
theorem dX7_pageBytes_2 : decode cX7_pageBytes 2 = .ok (.aload_n 0, 1) := by decide +kernel
theorem dX7_pageBytes_3 : decode cX7_pageBytes 3 = .ok (.iload_n 1, 1) := by decide +kernel
theorem dX7_pageBytes_4 : decode cX7_pageBytes 4 = .ok (.iload_n 2, 1) := by decide +kernel
theorem dX7_pageBytes_5 : decode cX7_pageBytes 5 = .ok (.invokevirtual 98, 3) := by decide +kernel
theorem dX7_pageBytes_8 : decode cX7_pageBytes 8 = .ok (.aload_n 0, 1) := by decide +kernel
theorem dX7_pageBytes_9 : decode cX7_pageBytes 9 = .ok (.iload_n 1, 1) := by decide +kernel
theorem dX7_pageBytes_10 : decode cX7_pageBytes 10 = .ok (.iload_n 2, 1) := by decide +kernel
theorem dX7_pageBytes_11 : decode cX7_pageBytes 11 = .ok (.invokevirtual 101, 3) := by decide +kernel
theorem dX7_pageBytes_14 : decode cX7_pageBytes 14 = .ok (.invokevirtual 107, 3) := by decide +kernel
theorem dX7_pageBytes_17 : decode cX7_pageBytes 17 = .ok (.ireturn, 1) := by decide +kernel
set_option maxRecDepth 20000 in
theorem ggX7_pageBytes_X7_endOf : GoodIn wsX7_pageBytes wsX7_endOf := goodIn_r _ [46, 6, 7, 8, 4, 9, 10, 11, 12, 13, 14, 15, 16, 17, 18, 19, 20, 21, 22, 23, 24, 25, 26, 27, 28, 29, 30, 31, 32, 33, 34, 35, 36, 37, 38, 39, 40, 41, 42, 78, 79, 80, 81, 82, 83, 84, 85, 86, 87, 88, 89, 90] (by decide +kernel) (by decide +kernel)
set_option maxRecDepth 20000 in
theorem ggX7_pageBytes_X7_spanBytes : GoodIn wsX7_pageBytes wsX7_spanBytes := goodIn_r _ [50, 51, 52, 53, 54, 55, 56, 57, 58, 59, 60, 61, 14, 15, 16, 17, 18, 62, 20, 21, 22, 23, 24, 25, 26, 27, 28, 29, 30, 31, 32, 33, 34, 35, 63, 64, 65, 4, 66, 67, 6, 7, 8, 9, 10, 11, 12, 13, 19, 36, 37, 38, 39, 40, 41, 42, 68, 69, 70, 71, 72, 73, 74, 75, 76, 77, 78, 79, 80, 81, 82, 83, 84, 85, 91, 92, 86, 87, 88, 89, 90, 93] (by decide +kernel) (by decide +kernel)
set_option maxRecDepth 20000 in
theorem ggX7_pageBytes_X7_startOf : GoodIn wsX7_pageBytes wsX7_startOf := goodIn_r _ [5, 6, 7, 8, 4, 9, 10, 11, 12, 13, 14, 15, 16, 17, 18, 19, 20, 21, 22, 23, 24, 25, 26, 27, 28, 29, 30, 31, 32, 33, 34, 35, 36, 37, 38, 39, 40, 41, 42, 78, 79, 80, 81, 82, 83, 84, 85, 86, 87, 88, 89, 90] (by decide +kernel) (by decide +kernel)
def wp_X7_pageBytes (a0 : Nat) (x1 : Int32) (x2 : Int32) (f : FT) (K : Int32 → Prop) : Prop :=
  isO f a0 10 ∧ wp_X7_startOf a0 x1 x2 f (fun r_1 => isO f a0 10 ∧ wp_X7_endOf a0 x1 x2 f (fun r_2 => isO f a0 10 ∧ wp_X7_spanBytes a0 x1 r_1 r_2 f (fun r_3 => K r_3)))
set_option maxHeartbeats 4000000 in
set_option maxRecDepth 100000 in
theorem cc_X7_pageBytes (l : Launch) (G : GG) {f : FT} {sz : Nat} {a0 : Nat} {x1 : Int32} {x2 : Int32} {K : Int32 → Prop} (h : wp_X7_pageBytes a0 x1 x2 f K) : Met l yX7_pageBytes wsX7_pageBytes ({ frames := 6, cells := 0, slots := 0, locals := 139 } : Room) (FP G [.ref a0, .int x1, .int x2] f sz) (va_Qi (fun r f9 => K r ∧ f9 = f : Int32 → FT → Prop) (FB G (fA f sz)) (fA f sz)) 0 0 (fA f sz) := by
  refine Met.ofW (cc := cX7_pageBytes) (maxL := 3) (ret := (some .int)) (by decide) rfl ?_
  intro p e s m args below meth c s₁ B hml hv
  obtain ⟨rfl, hsz, hF, hK, hZ⟩ := hv
  have hx := B.exec
  have hb := B.bytes
  have hr := B.returns
  have hts := atoms_spec (ws := wsX7_pageBytes) B.pre
  have hown : s.vm.findClass RX7 = some m.cls := findClass_of_methodNamed B.named
  have hlocks := B.notSynchronized
  subst hsz
  have hF := hF.self (sz := s.heap.size)
  generalize hAe : fA f s.heap.size = A at hF hZ ⊢
  have hA : ∀ q : Nat, s.heap.size ≤ q → A q := fun q h => by rw [← hAe]; exact Or.inr h
  have hS : va_S A s.heap s.heap [] := va_S.rf
  have hl := lv_entry ([.ref a0, .int x1, .int x2]) (n := 3) (Nat.le_of_ble_eq_true rfl)
  rw [lg_entry_eq]
  generalize (lg_sl ([.ref a0, .int x1, .int x2]) ++ List.replicate (3 - (lg_sl ([.ref a0, .int x1, .int x2])).length) Slot.unset).toArray = ls at hl ⊢
  have hl : lv_has ls 3 [(0, .ref a0), (1, .int x1), (2, .int x2)] := hl
  unfold wp_X7_pageBytes at h
  refine lv_aload_n hx hb dX7_pageBytes_0 rfl (lv_at hl 0 rfl) ?_
  refine lv_iload_n hx hb dX7_pageBytes_1 rfl (lv_at hl 1 rfl) ?_
  refine lv_aload_n hx hb dX7_pageBytes_2 rfl (lv_at hl 0 rfl) ?_
  refine lv_iload_n hx hb dX7_pageBytes_3 rfl (lv_at hl 1 rfl) ?_
  refine lv_iload_n hx hb dX7_pageBytes_4 rfl (lv_at hl 2 rfl) ?_
  obtain ⟨⟨fs_r_1, hrc_r_1⟩, h⟩ := h
  refine fw_cV_i_p (As := [.int x1, .int x2]) (rest := [.int x1, .ref a0]) ⟨hx, hb, hml, hown, hts⟩ (cc_X7_startOf l G h) (⟨callB_of 2 hts ggX7_pageBytes_X7_startOf rfl rfl rfl (hts (.initialized RX7) (by decide +kernel)) (hts (.methodLink RX7 98 yX7_startOf) (by decide +kernel)) (by decide +kernel) ⟨Nat.le_of_ble_eq_true rfl, Nat.le_of_ble_eq_true rfl⟩, hts (.instanceMethod yX7_startOf) (by decide +kernel), hts (.selects RX7 yX7_startOf yX7_startOf) (by decide +kernel)⟩) rfl hrc_r_1 hK hZ hF hS hA rfl hl.1 rfl (Nat.le_of_ble_eq_true rfl) dX7_pageBytes_5 ⟨Nat.zero_le _, Nat.zero_le _⟩ (fun r_1 H locs h hF hS => ?_)
  refine lv_aload_n hx hb dX7_pageBytes_8 rfl (lv_at hl 0 rfl) ?_
  refine lv_iload_n hx hb dX7_pageBytes_9 rfl (lv_at hl 1 rfl) ?_
  refine lv_iload_n hx hb dX7_pageBytes_10 rfl (lv_at hl 2 rfl) ?_
  obtain ⟨⟨fs_r_2, hrc_r_2⟩, h⟩ := h
  refine fw_cV_i_p (As := [.int x1, .int x2]) (rest := [.int r_1, .int x1, .ref a0]) ⟨hx, hb, hml, hown, hts⟩ (cc_X7_endOf l G h) (⟨callB_of 2 hts ggX7_pageBytes_X7_endOf rfl rfl rfl (hts (.initialized RX7) (by decide +kernel)) (hts (.methodLink RX7 101 yX7_endOf) (by decide +kernel)) (by decide +kernel) ⟨Nat.le_of_ble_eq_true rfl, Nat.le_of_ble_eq_true rfl⟩, hts (.instanceMethod yX7_endOf) (by decide +kernel), hts (.selects RX7 yX7_endOf yX7_endOf) (by decide +kernel)⟩) rfl hrc_r_2 hK hZ hF hS hA rfl hl.1 rfl (Nat.le_of_ble_eq_true rfl) dX7_pageBytes_11 ⟨Nat.zero_le _, Nat.zero_le _⟩ (fun r_2 H locs h hF hS => ?_)
  obtain ⟨⟨fs_r_3, hrc_r_3⟩, h⟩ := h
  refine fw_cV_i_p (As := [.int x1, .int r_1, .int r_2]) (rest := []) ⟨hx, hb, hml, hown, hts⟩ (cc_X7_spanBytes l G h) (⟨callB_of 3 hts ggX7_pageBytes_X7_spanBytes rfl rfl rfl (hts (.initialized RX7) (by decide +kernel)) (hts (.methodLink RX7 107 yX7_spanBytes) (by decide +kernel)) (by decide +kernel) ⟨Nat.le_of_ble_eq_true rfl, Nat.le_of_ble_eq_true rfl⟩, hts (.instanceMethod yX7_spanBytes) (by decide +kernel), hts (.selects RX7 yX7_spanBytes yX7_spanBytes) (by decide +kernel)⟩) rfl hrc_r_3 hK hZ hF hS hA rfl hl.1 rfl (Nat.le_of_ble_eq_true rfl) dX7_pageBytes_14 ⟨Nat.zero_le _, Nat.zero_le _⟩ (fun r_3 H locs h hF hS => ?_)
  exact W.iret (v := r_3) hx hb hr (fun t ht hW => ⟨⟨r_3, f, rfl, ⟨h, rfl⟩, by rw [ht]; exact hF, FK.moved hW.alike hK⟩, hS.F ht⟩) hS.2.2 dX7_pageBytes_17
theorem dX2_init_0 : decode cX2_init 0 = .ok (.aload_n 0, 1) := by decide +kernel
theorem dX2_init_1 : decode cX2_init 1 = .ok (.invokespecial 1, 3) := by decide +kernel
theorem dX2_init_4 : decode cX2_init 4 = .ok (.aload_n 0, 1) := by decide +kernel
theorem dX2_init_5 : decode cX2_init 5 = .ok (.bipush 16, 2) := by decide +kernel
theorem dX2_init_7 : decode cX2_init 7 = .ok (.newarray .int, 2) := by decide +kernel
theorem dX2_init_9 : decode cX2_init 9 = .ok (.putfield 9, 3) := by decide +kernel
theorem dX2_init_12 : decode cX2_init 12 = .ok (.aload_n 0, 1) := by decide +kernel
theorem dX2_init_13 : decode cX2_init 13 = .ok (.iconst 0, 1) := by decide +kernel
theorem dX2_init_14 : decode cX2_init 14 = .ok (.putfield 13, 3) := by decide +kernel
theorem dX2_init_17 : decode cX2_init 17 = .ok (.return_, 1) := by decide +kernel
def wp_X2_init (a0 : Nat) (f : FT) (mc ms : Nat) (K : FT → Prop) : Prop :=
  nA f 1 (16 : Int32) mc ms fun n_3 q_1 f_2 => pV f_2 a0 5 0 (.ref q_1) fun f_7 => pV f_7 a0 5 1 (.int (0 : Int32)) fun f_9 => K f_9
set_option maxHeartbeats 4000000 in
set_option maxRecDepth 100000 in
theorem cc_X2_init (l : Launch) (G : GG) {f : FT} {sz : Nat} {a0 : Nat} {mc ms : Nat} {K : FT → Prop} (h : wp_X2_init a0 f mc ms K) : Met l yX2_init wsX2_init ({ frames := 1, cells := mc, slots := ms, locals := 20 } : Room) (FP G [.ref a0] f sz) (va_Qv (fun f9 => K f9 : FT → Prop) (FB G (fA f sz)) (fA f sz)) mc ms (fA f sz) := by
  refine Met.ofW (cc := cX2_init) (maxL := 1) (ret := none) (by decide) rfl ?_
  intro p e s m args below meth c s₁ B hml hv
  obtain ⟨rfl, hsz, hF, hK, hZ⟩ := hv
  have hx := B.exec
  have hb := B.bytes
  have hr := B.returns
  have hts := atoms_spec (ws := wsX2_init) B.pre
  have hown : s.vm.findClass RX2 = some m.cls := findClass_of_methodNamed B.named
  have hlocks := B.notSynchronized
  have hin : meth.name = "<init>" := (name_of_methodNamed B.named B.method).1
  subst hsz
  have hF := hF.self (sz := s.heap.size)
  generalize hAe : fA f s.heap.size = A at hF hZ ⊢
  have hA : ∀ q : Nat, s.heap.size ≤ q → A q := fun q h => by rw [← hAe]; exact Or.inr h
  have hS : va_S A s.heap s.heap [] := va_S.rf
  have hin_X2 : ∀ w ∈ wsX20, w ∈ wsX2_init := by decide +kernel
  have hbc : 0 + mc ≤ mc := by omega
  have hbs : 0 + ms ≤ ms := by omega
  have hl := lv_entry ([.ref a0]) (n := 1) (Nat.le_of_ble_eq_true rfl)
  rw [lg_entry_eq]
  generalize (lg_sl ([.ref a0]) ++ List.replicate (1 - (lg_sl ([.ref a0])).length) Slot.unset).toArray = ls at hl ⊢
  have hl : lv_has ls 1 [(0, .ref a0)] := hl
  unfold wp_X2_init at h
  refine lv_aload_n hx hb dX2_init_0 rfl (lv_at hl 0 rfl) ?_
  refine W.objInit hx hb hown (hts (.methodLink RX2 1 objectInit) (by decide +kernel)) (hts (.instanceMethod objectInit) (by decide +kernel)) (hts (.code objectInit ⟨#[0xb1]⟩ 1 none) (by decide +kernel)) rfl (by rw [hml]; exact hl.1) rfl dX2_init_1 (Nat.le_of_ble_eq_true rfl) (Nat.le_of_ble_eq_true rfl) ?_
  refine W.eq (g2 := F0 m 4 ls []) rfl ?_
  refine lv_aload_n hx hb dX2_init_4 rfl (lv_at hl 0 rfl) ?_
  refine lv_bipush (v := (16 : Int32)) hx hb dX2_init_5 (by decide) ?_
  obtain ⟨hb0, n_3, hN, hb1, hb2, hb3, h⟩ := h
  refine fw_newa (atype := .int) (a0 := (n_3, .inl fun _ => 0)) hx hb (hts (.arrayClass .int) (by decide +kernel)) (ty := .int) rfl 1 rfl va_RA_int hK hF hS hA (fun cA => rfl) hb0 hN (by show _ * 4 ≤ _; omega) (by show _ ≤ mc; omega) (by show _ ≤ ms; omega) dX2_init_7 (fun q_1 H hn_q_1 hF hS => ?_)
  obtain ⟨f_2, hf_f_2⟩ : ∃ z, z = fup f q_1 (.inl (1, (n_3, .inl fun _ => 0))) := ⟨_, rfl⟩
  rw [← hf_f_2] at hF; have h := h q_1 hn_q_1 f_2 hf_f_2
  obtain ⟨cs_4, hcs⟩ : ∃ z, z = (0 + 1) := ⟨_, rfl⟩; obtain ⟨sl_5, hsl⟩ : ∃ z, z = (0 + n_3) := ⟨_, rfl⟩
  have hbc : cs_4 + (mc - 1) ≤ mc := by omega
  have hbs : sl_5 + (ms - n_3) ≤ ms := by omega
  refine W.widen (k := cs_4) (n := sl_5) (by omega) (by omega) ?_
  clear hcs hsl
  obtain ⟨fs_6, he_fs_6, hl_fs_6, h⟩ := h
  refine fw_put (v := .ref q_1) (ty := (.array .int)) (C := RX2) (T := TX2) (N := 2) hx hb hts hin_X2 tyX2 (tyX2_ok) nmX2 hown hK hF hS he_fs_6 rfl 0 (by decide) (hts (.fieldLink RX2 9 "FrontCodedIndex$IntRow" "cells" "[I") (by decide +kernel)) (fun _ h9 => h9) rfl (by decide +kernel) rfl rfl hl_fs_6 dX2_init_9 (fun H locs hF hS => ?_)
  obtain ⟨f_7, hf_f_7⟩ : ∃ z, z = fup f_2 a0 (.inr (5, fs_6.set 0 (.ref q_1))) := ⟨_, rfl⟩
  rw [← hf_f_7] at hF; have h := h f_7 hf_f_7
  refine lv_aload_n hx hb dX2_init_12 rfl (lv_at hl 0 rfl) ?_
  refine lv_iconst (v := (0 : Int32)) hx hb dX2_init_13 (by decide) ?_
  obtain ⟨fs_8, he_fs_8, hl_fs_8, h⟩ := h
  refine fw_put (v := .int (0 : Int32)) (ty := .int) (C := RX2) (T := TX2) (N := 2) hx hb hts hin_X2 tyX2 (tyX2_ok) nmX2 hown hK hF hS he_fs_8 rfl 1 (by decide) (hts (.fieldLink RX2 13 "FrontCodedIndex$IntRow" "count" "I") (by decide +kernel)) (fun _ h9 => h9) rfl (by decide +kernel) rfl rfl hl_fs_8 dX2_init_14 (fun H locs hF hS => ?_)
  obtain ⟨f_9, hf_f_9⟩ : ∃ z, z = fup f_7 a0 (.inr (5, fs_8.set 1 (.int (0 : Int32)))) := ⟨_, rfl⟩
  rw [← hf_f_9] at hF; have h := h f_9 hf_f_9
  refine W.widen (k := mc) (n := ms) (by omega) (by omega) ?_
  exact W.vret hx hb hr (fun t ht hW => ⟨⟨f_9, rfl, h, by rw [ht]; exact hF, FK.moved hW.alike hK⟩, hS.F ht⟩) hS.2.2 dX2_init_17
theorem dJx4a65c_add_72be8_0 : decode cJx4a65c_add_72be8 0 = .ok (.iload_n 3, 1) := by decide +kernel
theorem dJx4a65c_add_72be8_1 : decode cJx4a65c_add_72be8 1 = .ok (.aload_n 2, 1) := by decide +kernel
theorem dJx4a65c_add_72be8_2 : decode cJx4a65c_add_72be8 2 = .ok (.arraylength, 1) := by decide +kernel
theorem dJx4a65c_add_72be8_3 : decode cJx4a65c_add_72be8 3 = .ok (.if_icmp .ne 8, 3) := by decide +kernel
theorem dJx4a65c_add_72be8_6 : decode cJx4a65c_add_72be8 6 = .ok (.aload_n 0, 1) := by decide +kernel
theorem dJx4a65c_add_72be8_7 : decode cJx4a65c_add_72be8 7 = .ok (.invokevirtual 129, 3) := by decide +kernel
theorem dJx4a65c_add_72be8_10 : decode cJx4a65c_add_72be8 10 = .ok (.astore_n 2, 1) := by decide +kernel
theorem dJx4a65c_add_72be8_11 : decode cJx4a65c_add_72be8 11 = .ok (.aload_n 2, 1) := by decide +kernel
theorem dJx4a65c_add_72be8_12 : decode cJx4a65c_add_72be8 12 = .ok (.iload_n 3, 1) := by decide +kernel
theorem dJx4a65c_add_72be8_13 : decode cJx4a65c_add_72be8 13 = .ok (.aload_n 1, 1) := by decide +kernel
theorem dJx4a65c_add_72be8_14 : decode cJx4a65c_add_72be8 14 = .ok (.aastore, 1) := by decide +kernel
theorem dJx4a65c_add_72be8_15 : decode cJx4a65c_add_72be8 15 = .ok (.aload_n 0, 1) := by decide +kernel
theorem dJx4a65c_add_72be8_16 : decode cJx4a65c_add_72be8 16 = .ok (.iload_n 3, 1) := by decide +kernel
theorem dJx4a65c_add_72be8_17 : decode cJx4a65c_add_72be8 17 = .ok (.iconst 1, 1) := by decide +kernel
theorem dJx4a65c_add_72be8_18 : decode cJx4a65c_add_72be8 18 = .ok (.iadd, 1) := by decide +kernel
theorem dJx4a65c_add_72be8_19 : decode cJx4a65c_add_72be8 19 = .ok (.putfield 48, 3) := by decide +kernel
theorem dJx4a65c_add_72be8_22 : decode cJx4a65c_add_72be8 22 = .ok (.return_, 1) := by decide +kernel
set_option maxRecDepth 20000 in
theorem ggJx4a65c_add_72be8_Jx4a65c_grow_d5877 : GoodIn wsJx4a65c_add_72be8 wsJx4a65c_grow_d5877 := goodIn_r _ [6, 1, 7, 8, 9, 5, 10, 11, 12, 13, 14, 15, 16, 17, 18, 19, 20, 21, 22, 23, 24, 25, 26, 27, 28, 29, 30, 31, 32, 33, 34, 35, 36, 37, 38, 39, 40, 41, 42, 43, 44, 45, 46, 47, 48, 49] (by decide +kernel) (by decide +kernel)
def wp_Jx4a65c_add_72be8_11 (zd : Nat) (a0 : Nat) (a1 : Nat) (x3 : Int32) (o2 : Nat) (f : FT) (bc bs : Nat) (K : FT → Prop)  : Prop :=
  sA f o2 x3 a1 fun f_2 => pV f_2 a0 2 2 (.int (x3 + (1 : Int32))) fun f_4 => K f_4
def wp_Jx4a65c_add_72be8 (zd : Nat) (a0 : Nat) (a1 : Nat) (a2 : Nat) (x3 : Int32) (f : FT) (mc ms : Nat) (K : FT → Prop) : Prop :=
  aLz zd f a2 fun v_5 => ((¬ x3 = v_5 → wp_Jx4a65c_add_72be8_11 zd a0 a1 x3 a2 f mc ms K) ∧
 (x3 = v_5 → ∃ ga_9 gb_10 : Nat, ga_9 ≤ mc ∧ gb_10 ≤ ms ∧ isO f a0 2 ∧ wp_Jx4a65c_grow_d5877 zd a0 f ga_9 gb_10 (fun a_7 f_8 => wp_Jx4a65c_add_72be8_11 zd a0 a1 x3 a_7 f_8 (mc - ga_9) (ms - gb_10) K)))
set_option maxHeartbeats 4000000 in
set_option maxRecDepth 100000 in
theorem cc_Jx4a65c_add_72be8 (l : Launch) (G : GG) {zd : Nat} (hzd : G.2.2 0 = zd) {f : FT} {sz : Nat} {a0 : Nat} {a1 : Nat} {a2 : Nat} {x3 : Int32} {mc ms : Nat} {K : FT → Prop} (h : wp_Jx4a65c_add_72be8 zd a0 a1 a2 x3 f mc ms K) : Met l yJx4a65c_add_72be8 wsJx4a65c_add_72be8 ({ frames := 5, cells := mc, slots := ms, locals := 127 } : Room) (FP G [.ref a0, .ref a1, .ref a2, .int x3] f sz) (va_Qv (fun f9 => K f9 : FT → Prop) (FB G (fA f sz)) (fA f sz)) mc ms (fA f sz) := by
  refine Met.ofW (cc := cJx4a65c_add_72be8) (maxL := 4) (ret := none) (by decide) rfl ?_
  intro p e s m args below meth c s₁ B hml hv
  obtain ⟨rfl, hsz, hF, hK, hZ⟩ := hv
  have hx := B.exec
  have hb := B.bytes
  have hr := B.returns
  have hts := atoms_spec (ws := wsJx4a65c_add_72be8) B.pre
  have hown : s.vm.findClass RJx4a65c = some m.cls := findClass_of_methodNamed B.named
  have hlocks := B.notSynchronized
  subst hsz
  have hF := hF.self (sz := s.heap.size)
  generalize hAe : fA f s.heap.size = A at hF hZ ⊢
  have hA : ∀ q : Nat, s.heap.size ≤ q → A q := fun q h => by rw [← hAe]; exact Or.inr h
  have hS : va_S A s.heap s.heap [] := va_S.rf
  have hZ9 : va_Z "java/util/ArrayList" "DEFAULTCAPACITY_EMPTY_ELEMENTDATA" "[Ljava/lang/Object;" (.ref zd) A s s.heap := by rw [← hzd]; exact hZ.1
  have hin_Jx4a65c : ∀ w ∈ wsJx4a65c0, w ∈ wsJx4a65c_add_72be8 := by decide +kernel
  have hbc : 0 + mc ≤ mc := by omega
  have hbs : 0 + ms ≤ ms := by omega
  have J11 : ∀ (o2 : Nat) (f : FT) (bc : Nat) (bs : Nat) (H : Heap) (locs : List Loc) (ls : Array Slot) (cs sl : Nat), wp_Jx4a65c_add_72be8_11 zd a0 a1 x3 o2 f bc bs K  → cs + bc ≤ mc → sl + bs ≤ ms → Fw G A f H → va_S A s.heap H locs → lv_has ls 4 [(0, .ref a0), (1, .ref a1), (2, .ref o2), (3, .int x3)] → W p l e ({ frames := 5, cells := mc, slots := ms, locals := 127 } : Room) s m ([.ref a0, .ref a1, .ref a2, .int x3] : List Value).toArray below meth c H locs cs sl (MQ below (va_Qv (fun f9 => K f9 : FT → Prop) (FB G A) A) ([.ref a0, .ref a1, .ref a2, .int x3] : List Value).toArray s mc ms A) (F0 m 11 ls []) := by
    intro o2 f bc bs H locs ls cs sl h hbc hbs hF hS hl
    unfold wp_Jx4a65c_add_72be8_11 at h
    refine lv_aload_n hx hb dJx4a65c_add_72be8_11 rfl (lv_at hl 2 rfl) ?_
    refine lv_iload_n hx hb dJx4a65c_add_72be8_12 rfl (lv_at hl 3 rfl) ?_
    refine lv_aload_n hx hb dJx4a65c_add_72be8_13 rfl (lv_at hl 1 rfl) ?_
    obtain ⟨n_q_1, q_1, ci_q_1, vs_q_1, he_q_1, hi_q_1, hv_q_1, hci_q_1, h⟩ := h
    refine fw_aast hx hb hK hF hS he_q_1 hv_q_1 hci_q_1 hi_q_1 dJx4a65c_add_72be8_14 (fun H locs hF hS => ?_)
    obtain ⟨f_2, hf_f_2⟩ : ∃ z, z = fup f o2 (.inl (2, n_q_1, .inr (.inr (.inr (.inr (va_up q_1 (x3).toNatClampNeg (some a1))))))) := ⟨_, rfl⟩
    rw [← hf_f_2] at hF; have h := h f_2 hf_f_2
    refine lv_aload_n hx hb dJx4a65c_add_72be8_15 rfl (lv_at hl 0 rfl) ?_
    refine lv_iload_n hx hb dJx4a65c_add_72be8_16 rfl (lv_at hl 3 rfl) ?_
    refine lv_iconst (v := (1 : Int32)) hx hb dJx4a65c_add_72be8_17 (by decide) ?_
    refine lv_iadd hx hb dJx4a65c_add_72be8_18 ?_
    obtain ⟨fs_3, he_fs_3, hl_fs_3, h⟩ := h
    refine fw_put (v := .int (x3 + (1 : Int32))) (ty := .int) (C := RJx4a65c) (T := TJx4a65c) (N := 3) hx hb hts hin_Jx4a65c tyJx4a65c (tyJx4a65c_ok) nmJx4a65c hown hK hF hS he_fs_3 rfl 2 (by decide) (hts (.fieldLink RJx4a65c 48 "java/util/ArrayList" "size" "I") (by decide +kernel)) (fun _ h9 => h9) rfl (by decide +kernel) rfl rfl hl_fs_3 dJx4a65c_add_72be8_19 (fun H locs hF hS => ?_)
    obtain ⟨f_4, hf_f_4⟩ : ∃ z, z = fup f_2 a0 (.inr (2, fs_3.set 2 (.int (x3 + (1 : Int32))))) := ⟨_, rfl⟩
    rw [← hf_f_4] at hF; have h := h f_4 hf_f_4
    refine W.widen (k := mc) (n := ms) (by omega) (by omega) ?_
    exact W.vret hx hb hr (fun t ht hW => ⟨⟨f_4, rfl, h, by rw [ht]; exact hF, FK.moved hW.alike hK⟩, hS.F ht⟩) hS.2.2 dJx4a65c_add_72be8_22
  have hl := lv_entry ([.ref a0, .ref a1, .ref a2, .int x3]) (n := 4) (Nat.le_of_ble_eq_true rfl)
  rw [lg_entry_eq]
  generalize (lg_sl ([.ref a0, .ref a1, .ref a2, .int x3]) ++ List.replicate (4 - (lg_sl ([.ref a0, .ref a1, .ref a2, .int x3])).length) Slot.unset).toArray = ls at hl ⊢
  have hl : lv_has ls 4 [(0, .ref a0), (1, .ref a1), (2, .ref a2), (3, .int x3)] := hl
  unfold wp_Jx4a65c_add_72be8 at h
  refine lv_iload_n hx hb dJx4a65c_add_72be8_0 rfl (lv_at hl 3 rfl) ?_
  refine lv_aload_n hx hb dJx4a65c_add_72be8_1 rfl (lv_at hl 2 rfl) ?_
  refine fw_alenz hx hb hK hZ hF hS hzd h dJx4a65c_add_72be8_2 (fun v_5 h => ?_)
  obtain ⟨h1, h2⟩ := h
  refine lv_icmp_ne (tgt := 11) hx hb dJx4a65c_add_72be8_3 (by decide) (fun c_6 => ?_) (fun c_6 => ?_)
  · have h := h1 c_6
    exact J11 a2 f mc ms _ _ _ _ _ h hbc hbs hF hS (lv_sub hl [0, 1, 2, 3] rfl)
  · have h := h2 c_6
    refine lv_aload_n hx hb dJx4a65c_add_72be8_6 rfl (lv_at hl 0 rfl) ?_
    obtain ⟨ga_9, gb_10, hga_ga_9, hgb_ga_9, h⟩ := h
    obtain ⟨⟨fs_a_7, hrc_a_7⟩, h⟩ := h
    refine fw_cV_q_w (As := []) (rest := []) ⟨hx, hb, hml, hown, hts⟩ (cc_Jx4a65c_grow_d5877 l G hzd h) (⟨callB_of 0 hts ggJx4a65c_add_72be8_Jx4a65c_grow_d5877 rfl rfl rfl (hts (.initialized RJx4a65c) (by decide +kernel)) (hts (.methodLink RJx4a65c 129 yJx4a65c_grow_d5877) (by decide +kernel)) (by decide +kernel) ⟨Nat.le_of_ble_eq_true rfl, Nat.le_of_ble_eq_true rfl⟩, hts (.instanceMethod yJx4a65c_grow_d5877) (by decide +kernel), hts (.selects RJx4a65c yJx4a65c_grow_d5877 yJx4a65c_grow_d5877) (by decide +kernel)⟩) rfl hrc_a_7 hK hZ hF hS hA rfl hl.1 rfl (Nat.le_of_ble_eq_true rfl) dJx4a65c_add_72be8_7 ⟨by show _ ≤ mc; omega, by show _ ≤ ms; omega⟩ (fun a_7 f_8 H locs h hF hS => ?_)
    obtain ⟨cs_11, hcs⟩ : ∃ z, z = (0 + ga_9) := ⟨_, rfl⟩; obtain ⟨sl_12, hsl⟩ : ∃ z, z = (0 + gb_10) := ⟨_, rfl⟩
    have hbc : cs_11 + (mc - ga_9) ≤ mc := by omega
    have hbs : sl_12 + (ms - gb_10) ≤ ms := by omega
    refine W.widen (k := cs_11) (n := sl_12) (by omega) (by omega) ?_
    clear hcs hsl
    refine lv_astore_n (lv' := [(2, .ref a_7), (0, .ref a0), (1, .ref a1), (3, .int x3)]) hx hb dJx4a65c_add_72be8_10 rfl hl (by decide) rfl (fun ls hl => ?_)
    exact J11 a_7 f_8 (mc - ga_9) (ms - gb_10) _ _ _ _ _ h hbc hbs hF hS (lv_sub hl [1, 2, 0, 3] rfl)
theorem dJx4a65c_add_9ea2d_0 : decode cJx4a65c_add_9ea2d 0 = .ok (.aload_n 0, 1) := by decide +kernel
theorem dJx4a65c_add_9ea2d_1 : decode cJx4a65c_add_9ea2d 1 = .ok (.dup, 1) := by decide +kernel
theorem dJx4a65c_add_9ea2d_2 : decode cJx4a65c_add_9ea2d 2 = .ok (.getfield 63, 3) := by decide +kernel
theorem dJx4a65c_add_9ea2d_5 : decode cJx4a65c_add_9ea2d 5 = .ok (.iconst 1, 1) := by decide +kernel
theorem dJx4a65c_add_9ea2d_6 : decode cJx4a65c_add_9ea2d 6 = .ok (.iadd, 1) := by decide +kernel
theorem dJx4a65c_add_9ea2d_7 : decode cJx4a65c_add_9ea2d 7 = .ok (.putfield 63, 3) := by decide +kernel
theorem dJx4a65c_add_9ea2d_10 : decode cJx4a65c_add_9ea2d 10 = .ok (.aload_n 0, 1) := by decide +kernel
theorem dJx4a65c_add_9ea2d_11 : decode cJx4a65c_add_9ea2d 11 = .ok (.aload_n 1, 1) := by decide +kernel
theorem dJx4a65c_add_9ea2d_12 : decode cJx4a65c_add_9ea2d 12 = .ok (.aload_n 0, 1) := by decide +kernel
theorem dJx4a65c_add_9ea2d_13 : decode cJx4a65c_add_9ea2d 13 = .ok (.getfield 9, 3) := by decide +kernel
theorem dJx4a65c_add_9ea2d_16 : decode cJx4a65c_add_9ea2d 16 = .ok (.aload_n 0, 1) := by decide +kernel
theorem dJx4a65c_add_9ea2d_17 : decode cJx4a65c_add_9ea2d 17 = .ok (.getfield 48, 3) := by decide +kernel
theorem dJx4a65c_add_9ea2d_20 : decode cJx4a65c_add_9ea2d 20 = .ok (.invokevirtual 131, 3) := by decide +kernel
theorem dJx4a65c_add_9ea2d_23 : decode cJx4a65c_add_9ea2d 23 = .ok (.iconst 1, 1) := by decide +kernel
theorem dJx4a65c_add_9ea2d_24 : decode cJx4a65c_add_9ea2d 24 = .ok (.ireturn, 1) := by decide +kernel
set_option maxRecDepth 20000 in
theorem ggJx4a65c_add_9ea2d_Jx4a65c_add_72be8 : GoodIn wsJx4a65c_add_9ea2d wsJx4a65c_add_72be8 := goodIn_r _ [9, 4, 10, 11, 12, 8, 13, 14, 15, 16, 17, 3, 18, 19, 20, 21, 22, 23, 24, 25, 26, 27, 28, 29, 30, 31, 32, 33, 34, 35, 36, 37, 38, 39, 40, 41, 42, 43, 44, 45, 46, 47, 48, 49, 50, 51, 52, 53, 54, 55] (by decide +kernel) (by decide +kernel)
def wp_Jx4a65c_add_9ea2d (zd : Nat) (a0 : Nat) (a1 : Nat) (f : FT) (mc ms : Nat) (K : Int32 → FT → Prop) : Prop :=
  gI f a0 2 0 fun v_1 => pV f a0 2 0 (.int (v_1 + (1 : Int32))) fun f_4 => gA f_4 a0 2 1 fun a_5 => gI f_4 a0 2 2 fun v_7 => ∃ ga_11 gb_12 : Nat, ga_11 ≤ mc ∧ gb_12 ≤ ms ∧ isO f_4 a0 2 ∧ wp_Jx4a65c_add_72be8 zd a0 a1 a_5 v_7 f_4 ga_11 gb_12 (fun f_10 => K (1 : Int32) f_10)
set_option maxHeartbeats 4000000 in
set_option maxRecDepth 100000 in
theorem cc_Jx4a65c_add_9ea2d (l : Launch) (G : GG) {zd : Nat} (hzd : G.2.2 0 = zd) {f : FT} {sz : Nat} {a0 : Nat} {a1 : Nat} {mc ms : Nat} {K : Int32 → FT → Prop} (h : wp_Jx4a65c_add_9ea2d zd a0 a1 f mc ms K) : Met l yJx4a65c_add_9ea2d wsJx4a65c_add_9ea2d ({ frames := 6, cells := mc, slots := ms, locals := 150 } : Room) (FP G [.ref a0, .ref a1] f sz) (va_Qi (fun r f9 => K r f9 : Int32 → FT → Prop) (FB G (fA f sz)) (fA f sz)) mc ms (fA f sz) := by
  refine Met.ofW (cc := cJx4a65c_add_9ea2d) (maxL := 2) (ret := (some .boolean)) (by decide) rfl ?_
  intro p e s m args below meth c s₁ B hml hv
  obtain ⟨rfl, hsz, hF, hK, hZ⟩ := hv
  have hx := B.exec
  have hb := B.bytes
  have hr := B.returns
  have hts := atoms_spec (ws := wsJx4a65c_add_9ea2d) B.pre
  have hown : s.vm.findClass RJx4a65c = some m.cls := findClass_of_methodNamed B.named
  have hlocks := B.notSynchronized
  subst hsz
  have hF := hF.self (sz := s.heap.size)
  generalize hAe : fA f s.heap.size = A at hF hZ ⊢
  have hA : ∀ q : Nat, s.heap.size ≤ q → A q := fun q h => by rw [← hAe]; exact Or.inr h
  have hS : va_S A s.heap s.heap [] := va_S.rf
  have hZ9 : va_Z "java/util/ArrayList" "DEFAULTCAPACITY_EMPTY_ELEMENTDATA" "[Ljava/lang/Object;" (.ref zd) A s s.heap := by rw [← hzd]; exact hZ.1
  have hin_Jx4a65c : ∀ w ∈ wsJx4a65c0, w ∈ wsJx4a65c_add_9ea2d := by decide +kernel
  have hbc : 0 + mc ≤ mc := by omega
  have hbs : 0 + ms ≤ ms := by omega
  have hl := lv_entry ([.ref a0, .ref a1]) (n := 2) (Nat.le_of_ble_eq_true rfl)
  rw [lg_entry_eq]
  generalize (lg_sl ([.ref a0, .ref a1]) ++ List.replicate (2 - (lg_sl ([.ref a0, .ref a1])).length) Slot.unset).toArray = ls at hl ⊢
  have hl : lv_has ls 2 [(0, .ref a0), (1, .ref a1)] := hl
  unfold wp_Jx4a65c_add_9ea2d at h
  refine lv_aload_n hx hb dJx4a65c_add_9ea2d_0 rfl (lv_at hl 0 rfl) ?_
  refine lv_dup hx hb dJx4a65c_add_9ea2d_1 rfl ?_
  obtain ⟨fs_2, v_1, he_fs_2, hv_fs_2, h⟩ := h
  refine fw_get (C := RJx4a65c) (T := TJx4a65c) (N := 3) hx hb hts hin_Jx4a65c hown hK hF he_fs_2 rfl 0 (by decide) (hts (.fieldLink RJx4a65c 63 "java/util/ArrayList" "modCount" "I") (by decide +kernel)) (fun x9 h9 => u_same (hts (.sameField "java/util/ArrayList" "java/util/AbstractList" "modCount" "I") (by decide +kernel)) x9 h9) hv_fs_2 dJx4a65c_add_9ea2d_2 ?_
  refine lv_iconst (v := (1 : Int32)) hx hb dJx4a65c_add_9ea2d_5 (by decide) ?_
  refine lv_iadd hx hb dJx4a65c_add_9ea2d_6 ?_
  obtain ⟨fs_3, he_fs_3, hl_fs_3, h⟩ := h
  refine fw_put (v := .int (v_1 + (1 : Int32))) (ty := .int) (C := RJx4a65c) (T := TJx4a65c) (N := 3) hx hb hts hin_Jx4a65c tyJx4a65c (tyJx4a65c_ok) nmJx4a65c hown hK hF hS he_fs_3 rfl 0 (by decide) (hts (.fieldLink RJx4a65c 63 "java/util/ArrayList" "modCount" "I") (by decide +kernel)) (fun x9 h9 => u_same (hts (.sameField "java/util/ArrayList" "java/util/AbstractList" "modCount" "I") (by decide +kernel)) x9 h9) rfl (by decide +kernel) rfl rfl hl_fs_3 dJx4a65c_add_9ea2d_7 (fun H locs hF hS => ?_)
  obtain ⟨f_4, hf_f_4⟩ : ∃ z, z = fup f a0 (.inr (2, fs_3.set 0 (.int (v_1 + (1 : Int32))))) := ⟨_, rfl⟩
  rw [← hf_f_4] at hF; have h := h f_4 hf_f_4
  refine lv_aload_n hx hb dJx4a65c_add_9ea2d_10 rfl (lv_at hl 0 rfl) ?_
  refine lv_aload_n hx hb dJx4a65c_add_9ea2d_11 rfl (lv_at hl 1 rfl) ?_
  refine lv_aload_n hx hb dJx4a65c_add_9ea2d_12 rfl (lv_at hl 0 rfl) ?_
  obtain ⟨fs_6, a_5, he_fs_6, hv_fs_6, h⟩ := h
  refine fw_get (C := RJx4a65c) (T := TJx4a65c) (N := 3) hx hb hts hin_Jx4a65c hown hK hF he_fs_6 rfl 1 (by decide) (hts (.fieldLink RJx4a65c 9 "java/util/ArrayList" "elementData" "[Ljava/lang/Object;") (by decide +kernel)) (fun _ h9 => h9) hv_fs_6 dJx4a65c_add_9ea2d_13 ?_
  refine lv_aload_n hx hb dJx4a65c_add_9ea2d_16 rfl (lv_at hl 0 rfl) ?_
  obtain ⟨fs_8, v_7, he_fs_8, hv_fs_8, h⟩ := h
  refine fw_get (C := RJx4a65c) (T := TJx4a65c) (N := 3) hx hb hts hin_Jx4a65c hown hK hF he_fs_8 rfl 2 (by decide) (hts (.fieldLink RJx4a65c 48 "java/util/ArrayList" "size" "I") (by decide +kernel)) (fun _ h9 => h9) hv_fs_8 dJx4a65c_add_9ea2d_17 ?_
  obtain ⟨ga_11, gb_12, hga_ga_11, hgb_ga_11, h⟩ := h
  obtain ⟨⟨fs_u_9, hrc_u_9⟩, h⟩ := h
  refine fw_cV_v (As := [.ref a1, .ref a_5, .int v_7]) (rest := []) ⟨hx, hb, hml, hown, hts⟩ (cc_Jx4a65c_add_72be8 l G hzd h) (⟨callB_of 3 hts ggJx4a65c_add_9ea2d_Jx4a65c_add_72be8 rfl rfl rfl (hts (.initialized RJx4a65c) (by decide +kernel)) (hts (.methodLink RJx4a65c 131 yJx4a65c_add_72be8) (by decide +kernel)) (by decide +kernel) ⟨Nat.le_of_ble_eq_true rfl, Nat.le_of_ble_eq_true rfl⟩, hts (.instanceMethod yJx4a65c_add_72be8) (by decide +kernel), hts (.selects RJx4a65c yJx4a65c_add_72be8 yJx4a65c_add_72be8) (by decide +kernel)⟩) rfl hrc_u_9 hK hZ hF hS hA rfl hl.1 rfl (Nat.le_of_ble_eq_true rfl) dJx4a65c_add_9ea2d_20 ⟨by show _ ≤ mc; omega, by show _ ≤ ms; omega⟩ (fun f_10 H locs h hF hS => ?_)
  obtain ⟨cs_13, hcs⟩ : ∃ z, z = (0 + ga_11) := ⟨_, rfl⟩; obtain ⟨sl_14, hsl⟩ : ∃ z, z = (0 + gb_12) := ⟨_, rfl⟩
  have hbc : cs_13 + (mc - ga_11) ≤ mc := by omega
  have hbs : sl_14 + (ms - gb_12) ≤ ms := by omega
  refine W.widen (k := cs_13) (n := sl_14) (by omega) (by omega) ?_
  clear hcs hsl
  refine lv_iconst (v := (1 : Int32)) hx hb dJx4a65c_add_9ea2d_23 (by decide) ?_
  refine W.widen (k := mc) (n := ms) (by omega) (by omega) ?_
  exact W.zret (v := (1 : Int32)) hx hb hr (by decide) (fun t ht hW => ⟨⟨(1 : Int32), f_10, rfl, h, by rw [ht]; exact hF, FK.moved hW.alike hK⟩, hS.F ht⟩) hS.2.2 dJx4a65c_add_9ea2d_24
theorem dX2_empty_0 : decode cX2_empty 0 = .ok (.aload_n 0, 1) := by decide +kernel
theorem dX2_empty_1 : decode cX2_empty 1 = .ok (.iconst 0, 1) := by decide +kernel
theorem dX2_empty_2 : decode cX2_empty 2 = .ok (.putfield 13, 3) := by decide +kernel
theorem dX2_empty_5 : decode cX2_empty 5 = .ok (.return_, 1) := by decide +kernel
def wp_X2_empty (a0 : Nat) (f : FT) (K : FT → Prop) : Prop :=
  pV f a0 5 1 (.int (0 : Int32)) fun f_2 => K f_2
set_option maxHeartbeats 4000000 in
set_option maxRecDepth 100000 in
theorem cc_X2_empty (l : Launch) (G : GG) {f : FT} {sz : Nat} {a0 : Nat} {K : FT → Prop} (h : wp_X2_empty a0 f K) : Met l yX2_empty wsX2_empty ({ frames := 0, cells := 0, slots := 0, locals := 0 } : Room) (FP G [.ref a0] f sz) (va_Qv (fun f9 => K f9 : FT → Prop) (FB G (fA f sz)) (fA f sz)) 0 0 (fA f sz) := by
  refine Met.ofW (cc := cX2_empty) (maxL := 1) (ret := none) (by decide) rfl ?_
  intro p e s m args below meth c s₁ B hml hv
  obtain ⟨rfl, hsz, hF, hK, hZ⟩ := hv
  have hx := B.exec
  have hb := B.bytes
  have hr := B.returns
  have hts := atoms_spec (ws := wsX2_empty) B.pre
  have hown : s.vm.findClass RX2 = some m.cls := findClass_of_methodNamed B.named
  have hlocks := B.notSynchronized
  subst hsz
  have hF := hF.self (sz := s.heap.size)
  generalize hAe : fA f s.heap.size = A at hF hZ ⊢
  have hA : ∀ q : Nat, s.heap.size ≤ q → A q := fun q h => by rw [← hAe]; exact Or.inr h
  have hS : va_S A s.heap s.heap [] := va_S.rf
  have hin_X2 : ∀ w ∈ wsX20, w ∈ wsX2_empty := by decide +kernel
  have hl := lv_entry ([.ref a0]) (n := 1) (Nat.le_of_ble_eq_true rfl)
  rw [lg_entry_eq]
  generalize (lg_sl ([.ref a0]) ++ List.replicate (1 - (lg_sl ([.ref a0])).length) Slot.unset).toArray = ls at hl ⊢
  have hl : lv_has ls 1 [(0, .ref a0)] := hl
  unfold wp_X2_empty at h
  refine lv_aload_n hx hb dX2_empty_0 rfl (lv_at hl 0 rfl) ?_
  refine lv_iconst (v := (0 : Int32)) hx hb dX2_empty_1 (by decide) ?_
  obtain ⟨fs_1, he_fs_1, hl_fs_1, h⟩ := h
  refine fw_put (v := .int (0 : Int32)) (ty := .int) (C := RX2) (T := TX2) (N := 2) hx hb hts hin_X2 tyX2 (tyX2_ok) nmX2 hown hK hF hS he_fs_1 rfl 1 (by decide) (hts (.fieldLink RX2 13 "FrontCodedIndex$IntRow" "count" "I") (by decide +kernel)) (fun _ h9 => h9) rfl (by decide +kernel) rfl rfl hl_fs_1 dX2_empty_2 (fun H locs hF hS => ?_)
  obtain ⟨f_2, hf_f_2⟩ : ∃ z, z = fup f a0 (.inr (5, fs_1.set 1 (.int (0 : Int32)))) := ⟨_, rfl⟩
  rw [← hf_f_2] at hF; have h := h f_2 hf_f_2
  exact W.vret hx hb hr (fun t ht hW => ⟨⟨f_2, rfl, h, by rw [ht]; exact hF, FK.moved hW.alike hK⟩, hS.F ht⟩) hS.2.2 dX2_empty_5
theorem dX7_addTier_0 : decode cX7_addTier 0 = .ok (.aload_n 0, 1) := by decide +kernel
theorem dX7_addTier_1 : decode cX7_addTier 1 = .ok (.getfield 47, 3) := by decide +kernel
theorem dX7_addTier_4 : decode cX7_addTier 4 = .ok (.aload_n 0, 1) := by decide +kernel
theorem dX7_addTier_5 : decode cX7_addTier 5 = .ok (.getfield 31, 3) := by decide +kernel
theorem dX7_addTier_8 : decode cX7_addTier 8 = .ok (.invokevirtual 62, 3) := by decide +kernel
theorem dX7_addTier_11 : decode cX7_addTier 11 = .ok (.if_icmp .lt 18, 3) := by decide +kernel
theorem dX7_addTier_14 : decode cX7_addTier 14 = .ok (.aload_n 0, 1) := by decide +kernel
theorem dX7_addTier_15 : decode cX7_addTier 15 = .ok (.getfield 31, 3) := by decide +kernel
theorem dX7_addTier_18 : decode cX7_addTier 18 = .ok (.new 18, 3) := by decide +kernel
theorem dX7_addTier_21 : decode cX7_addTier 21 = .ok (.dup, 1) := by decide +kernel
theorem dX7_addTier_22 : decode cX7_addTier 22 = .ok (.invokespecial 20, 3) := by decide +kernel
theorem dX7_addTier_25 : decode cX7_addTier 25 = .ok (.invokevirtual 70, 3) := by decide +kernel
theorem dX7_addTier_28 : decode cX7_addTier 28 = .ok (.pop, 1) := by decide +kernel
theorem dX7_addTier_29 : decode cX7_addTier 29 = .ok (.aload_n 0, 1) := by decide +kernel
theorem dX7_addTier_30 : decode cX7_addTier 30 = .ok (.aload_n 0, 1) := by decide +kernel
theorem dX7_addTier_31 : decode cX7_addTier 31 = .ok (.getfield 47, 3) := by decide +kernel
theorem dX7_addTier_34 : decode cX7_addTier 34 = .ok (.invokevirtual 74, 3) := by decide +kernel
theorem dX7_addTier_37 : decode cX7_addTier 37 = .ok (.astore_n 1, 1) := by decide +kernel
theorem dX7_addTier_38 : decode cX7_addTier 38 = .ok (.aload_n 1, 1) := by decide +kernel
theorem dX7_addTier_39 : decode cX7_addTier 39 = .ok (.invokevirtual 78, 3) := by decide +kernel
theorem dX7_addTier_42 : decode cX7_addTier 42 = .ok (.aload_n 0, 1) := by decide +kernel
theorem dX7_addTier_43 : decode cX7_addTier 43 = .ok (.dup, 1) := by decide +kernel
theorem dX7_addTier_44 : decode cX7_addTier 44 = .ok (.getfield 47, 3) := by decide +kernel
theorem dX7_addTier_47 : decode cX7_addTier 47 = .ok (.iconst 1, 1) := by decide +kernel
theorem dX7_addTier_48 : decode cX7_addTier 48 = .ok (.iadd, 1) := by decide +kernel
theorem dX7_addTier_49 : decode cX7_addTier 49 = .ok (.putfield 47, 3) := by decide +kernel
theorem dX7_addTier_52 : decode cX7_addTier 52 = .ok (.aload_n 1, 1) := by decide +kernel
theorem dX7_addTier_53 : decode cX7_addTier 53 = .ok (.areturn, 1) := by decide +kernel
set_option maxRecDepth 20000 in
theorem ggX7_addTier_Jx4a65c_add_9ea2d : GoodIn wsX7_addTier wsJx4a65c_add_9ea2d := goodIn_r _ [23, 24, 25, 26, 11, 27, 28, 29, 9, 30, 31, 32, 33, 34, 35, 36, 37, 38, 39, 40, 41, 42, 43, 44, 45, 46, 47, 48, 49, 50, 51, 52, 53, 54, 55, 56, 57, 58, 59, 60, 61, 62, 63, 64, 65, 66, 67, 68, 69, 70, 71, 72, 73, 111, 112, 113] (by decide +kernel) (by decide +kernel)
set_option maxRecDepth 20000 in
theorem ggX7_addTier_Jx4a65c_size_8abf5 : GoodIn wsX7_addTier wsJx4a65c_size_8abf5 := goodIn_r _ [10, 11, 111, 112, 113] (by decide +kernel) (by decide +kernel)
set_option maxRecDepth 20000 in
theorem ggX7_addTier_X2_empty : GoodIn wsX7_addTier wsX2_empty := goodIn_r _ [100, 19, 109, 110] (by decide +kernel) (by decide +kernel)
set_option maxRecDepth 20000 in
theorem ggX7_addTier_X2_init : GoodIn wsX7_addTier wsX2_init := goodIn_r _ [13, 14, 15, 16, 17, 18, 19, 109, 110] (by decide +kernel) (by decide +kernel)
set_option maxRecDepth 20000 in
theorem ggX7_addTier_X7_tier : GoodIn wsX7_addTier wsX7_tier := goodIn_r _ [78, 2, 79, 80, 6, 7, 8, 9, 10, 11, 81, 82, 83, 84, 85, 86, 87, 88, 89, 90, 91, 92, 93, 94, 95, 96, 26, 101, 102, 103, 104, 105, 106, 107, 108, 111, 112, 113] (by decide +kernel) (by decide +kernel)
def wp_X7_addTier_29 (zd : Nat) (a0 : Nat)  (f : FT) (bc bs : Nat) (K : Nat → FT → Prop)  : Prop :=
  gI f a0 10 6 fun v_1 => isO f a0 10 ∧ wp_X7_tier a0 v_1 f (fun a_3 => isO f a_3 5 ∧ wp_X2_empty a_3 f (fun f_5 => gI f_5 a0 10 6 fun v_6 => pV f_5 a0 10 6 (.int (v_6 + (1 : Int32))) fun f_9 => K a_3 f_9))
def wp_X7_addTier (zd : Nat) (a0 : Nat) (f : FT) (mc ms : Nat) (K : Nat → FT → Prop) : Prop :=
  gI f a0 10 6 fun v_10 => gA f a0 10 3 fun a_12 => isO f a_12 2 ∧ wp_Jx4a65c_size_8abf5 a_12 f (fun r_14 => ((v_10 < r_14 → wp_X7_addTier_29 zd a0 f mc ms K) ∧
 (¬ (v_10 < r_14) → gA f a0 10 3 fun a_16 => nO f 5 [.null, .int 0] 2 mc ms fun q_18 f_19 => ∃ ga_24 gb_25 : Nat, ga_24 ≤ (mc - 1) ∧ gb_25 ≤ (ms - 2) ∧ wp_X2_init q_18 f_19 ga_24 gb_25 (fun f_23 => ∃ ga_30 gb_31 : Nat, ga_30 ≤ ((mc - 1) - ga_24) ∧ gb_31 ≤ ((ms - 2) - gb_25) ∧ isO f_23 a_16 2 ∧ wp_Jx4a65c_add_9ea2d zd a_16 q_18 f_23 ga_30 gb_31 (fun r_28 f_29 => wp_X7_addTier_29 zd a0 f_29 (((mc - 1) - ga_24) - ga_30) (((ms - 2) - gb_25) - gb_31) K)))))
set_option maxHeartbeats 4000000 in
set_option maxRecDepth 100000 in
theorem cc_X7_addTier (l : Launch) (G : GG) {zd : Nat} (hzd : G.2.2 0 = zd) {f : FT} {sz : Nat} {a0 : Nat} {mc ms : Nat} {K : Nat → FT → Prop} (h : wp_X7_addTier zd a0 f mc ms K) : Met l yX7_addTier wsX7_addTier ({ frames := 7, cells := mc, slots := ms, locals := 171 } : Room) (FP G [.ref a0] f sz) (va_Qq (fun r f9 => ∃ q, r = some q ∧ K q f9 : Option Nat → FT → Prop) (FB G (fA f sz)) (fA f sz)) mc ms (fA f sz) := by
  refine Met.ofW (cc := cX7_addTier) (maxL := 2) (ret := (some (.object "FrontCodedIndex$IntRow"))) (by decide) rfl ?_
  intro p e s m args below meth c s₁ B hml hv
  obtain ⟨rfl, hsz, hF, hK, hZ⟩ := hv
  have hx := B.exec
  have hb := B.bytes
  have hr := B.returns
  have hts := atoms_spec (ws := wsX7_addTier) B.pre
  have hown : s.vm.findClass RX7 = some m.cls := findClass_of_methodNamed B.named
  have hlocks := B.notSynchronized
  subst hsz
  have hF := hF.self (sz := s.heap.size)
  generalize hAe : fA f s.heap.size = A at hF hZ ⊢
  have hA : ∀ q : Nat, s.heap.size ≤ q → A q := fun q h => by rw [← hAe]; exact Or.inr h
  have hS : va_S A s.heap s.heap [] := va_S.rf
  have hZ9 : va_Z "java/util/ArrayList" "DEFAULTCAPACITY_EMPTY_ELEMENTDATA" "[Ljava/lang/Object;" (.ref zd) A s s.heap := by rw [← hzd]; exact hZ.1
  have hin_X2 : ∀ w ∈ wsX20, w ∈ wsX7_addTier := by decide +kernel
  have hin_X7 : ∀ w ∈ wsX70, w ∈ wsX7_addTier := by decide +kernel
  have hbc : 0 + mc ≤ mc := by omega
  have hbs : 0 + ms ≤ ms := by omega
  have J29 : ∀ (f : FT) (bc : Nat) (bs : Nat) (H : Heap) (locs : List Loc) (ls : Array Slot) (cs sl : Nat), wp_X7_addTier_29 zd a0 f bc bs K  → cs + bc ≤ mc → sl + bs ≤ ms → Fw G A f H → va_S A s.heap H locs → lv_has ls 2 [(0, .ref a0)] → W p l e ({ frames := 7, cells := mc, slots := ms, locals := 171 } : Room) s m ([.ref a0] : List Value).toArray below meth c H locs cs sl (MQ below (va_Qq (fun r f9 => ∃ q, r = some q ∧ K q f9 : Option Nat → FT → Prop) (FB G A) A) ([.ref a0] : List Value).toArray s mc ms A) (F0 m 29 ls []) := by
    intro f bc bs H locs ls cs sl h hbc hbs hF hS hl
    unfold wp_X7_addTier_29 at h
    refine lv_aload_n hx hb dX7_addTier_29 rfl (lv_at hl 0 rfl) ?_
    refine lv_aload_n hx hb dX7_addTier_30 rfl (lv_at hl 0 rfl) ?_
    obtain ⟨fs_2, v_1, he_fs_2, hv_fs_2, h⟩ := h
    refine fw_get (C := RX7) (T := TX7) (N := 8) hx hb hts hin_X7 hown hK hF he_fs_2 rfl 6 (by decide) (hts (.fieldLink RX7 47 "FrontCodedIndex$Tree" "tierTotal" "I") (by decide +kernel)) (fun _ h9 => h9) hv_fs_2 dX7_addTier_31 ?_
    obtain ⟨⟨fs_a_3, hrc_a_3⟩, h⟩ := h
    refine fw_cV_q_p (As := [.int v_1]) (rest := []) ⟨hx, hb, hml, hown, hts⟩ (cc_X7_tier l G h) (⟨callB_of 1 hts ggX7_addTier_X7_tier rfl rfl rfl (hts (.initialized RX7) (by decide +kernel)) (hts (.methodLink RX7 74 yX7_tier) (by decide +kernel)) (by decide +kernel) ⟨Nat.le_of_ble_eq_true rfl, Nat.le_of_ble_eq_true rfl⟩, hts (.instanceMethod yX7_tier) (by decide +kernel), hts (.selects RX7 yX7_tier yX7_tier) (by decide +kernel)⟩) rfl hrc_a_3 hK hZ hF hS hA rfl hl.1 rfl (Nat.le_of_ble_eq_true rfl) dX7_addTier_34 ⟨by show _ ≤ mc; omega, by show _ ≤ ms; omega⟩ (fun a_3 H locs h hF hS => ?_)
    simp only [Nat.add_zero]
    refine lv_astore_n (lv' := [(1, .ref a_3), (0, .ref a0)]) hx hb dX7_addTier_37 rfl hl (by decide) rfl (fun ls hl => ?_)
    refine lv_aload_n hx hb dX7_addTier_38 rfl (lv_at hl 0 rfl) ?_
    obtain ⟨⟨fs_u_4, hrc_u_4⟩, h⟩ := h
    refine fw_cV_v (As := []) (rest := []) ⟨hx, hb, hml, hown, hts⟩ (cc_X2_empty l G h) (⟨callB_of 0 hts ggX7_addTier_X2_empty rfl rfl rfl (hts (.initialized RX2) (by decide +kernel)) (hts (.methodLink RX7 78 yX2_empty) (by decide +kernel)) (by decide +kernel) ⟨Nat.le_of_ble_eq_true rfl, Nat.le_of_ble_eq_true rfl⟩, hts (.instanceMethod yX2_empty) (by decide +kernel), hts (.selects RX2 yX2_empty yX2_empty) (by decide +kernel)⟩) rfl hrc_u_4 hK hZ hF hS hA rfl hl.1 rfl (Nat.le_of_ble_eq_true rfl) dX7_addTier_39 ⟨by show _ ≤ mc; omega, by show _ ≤ ms; omega⟩ (fun f_5 H locs h hF hS => ?_)
    simp only [Nat.add_zero]
    refine lv_aload_n hx hb dX7_addTier_42 rfl (lv_at hl 1 rfl) ?_
    refine lv_dup hx hb dX7_addTier_43 rfl ?_
    obtain ⟨fs_7, v_6, he_fs_7, hv_fs_7, h⟩ := h
    refine fw_get (C := RX7) (T := TX7) (N := 8) hx hb hts hin_X7 hown hK hF he_fs_7 rfl 6 (by decide) (hts (.fieldLink RX7 47 "FrontCodedIndex$Tree" "tierTotal" "I") (by decide +kernel)) (fun _ h9 => h9) hv_fs_7 dX7_addTier_44 ?_
    refine lv_iconst (v := (1 : Int32)) hx hb dX7_addTier_47 (by decide) ?_
    refine lv_iadd hx hb dX7_addTier_48 ?_
    obtain ⟨fs_8, he_fs_8, hl_fs_8, h⟩ := h
    refine fw_put (v := .int (v_6 + (1 : Int32))) (ty := .int) (C := RX7) (T := TX7) (N := 8) hx hb hts hin_X7 tyX7 (tyX7_ok) nmX7 hown hK hF hS he_fs_8 rfl 6 (by decide) (hts (.fieldLink RX7 47 "FrontCodedIndex$Tree" "tierTotal" "I") (by decide +kernel)) (fun _ h9 => h9) rfl (by decide +kernel) rfl rfl hl_fs_8 dX7_addTier_49 (fun H locs hF hS => ?_)
    obtain ⟨f_9, hf_f_9⟩ : ∃ z, z = fup f_5 a0 (.inr (10, fs_8.set 6 (.int (v_6 + (1 : Int32))))) := ⟨_, rfl⟩
    rw [← hf_f_9] at hF; have h := h f_9 hf_f_9
    refine lv_aload_n hx hb dX7_addTier_52 rfl (lv_at hl 0 rfl) ?_
    refine W.widen (k := mc) (n := ms) (by omega) (by omega) ?_
    exact W.aret (v := .ref a_3) hx hb hr (Or.inl ⟨_, rfl⟩) (Or.inr ⟨a_3, rfl⟩) (fun t ht hW => ⟨⟨some a_3, f_9, rfl, ⟨_, rfl, h⟩, by rw [ht]; exact hF, FK.moved hW.alike hK⟩, hS.F ht⟩) hS.2.2 dX7_addTier_53
  have hl := lv_entry ([.ref a0]) (n := 2) (Nat.le_of_ble_eq_true rfl)
  rw [lg_entry_eq]
  generalize (lg_sl ([.ref a0]) ++ List.replicate (2 - (lg_sl ([.ref a0])).length) Slot.unset).toArray = ls at hl ⊢
  have hl : lv_has ls 2 [(0, .ref a0)] := hl
  unfold wp_X7_addTier at h
  refine lv_aload_n hx hb dX7_addTier_0 rfl (lv_at hl 0 rfl) ?_
  obtain ⟨fs_11, v_10, he_fs_11, hv_fs_11, h⟩ := h
  refine fw_get (C := RX7) (T := TX7) (N := 8) hx hb hts hin_X7 hown hK hF he_fs_11 rfl 6 (by decide) (hts (.fieldLink RX7 47 "FrontCodedIndex$Tree" "tierTotal" "I") (by decide +kernel)) (fun _ h9 => h9) hv_fs_11 dX7_addTier_1 ?_
  refine lv_aload_n hx hb dX7_addTier_4 rfl (lv_at hl 0 rfl) ?_
  obtain ⟨fs_13, a_12, he_fs_13, hv_fs_13, h⟩ := h
  refine fw_get (C := RX7) (T := TX7) (N := 8) hx hb hts hin_X7 hown hK hF he_fs_13 rfl 3 (by decide) (hts (.fieldLink RX7 31 "FrontCodedIndex$Tree" "tiers" "Ljava/util/ArrayList;") (by decide +kernel)) (fun _ h9 => h9) hv_fs_13 dX7_addTier_5 ?_
  obtain ⟨⟨fs_r_14, hrc_r_14⟩, h⟩ := h
  refine fw_cV_i_p (As := []) (rest := [.int v_10]) ⟨hx, hb, hml, hown, hts⟩ (cc_Jx4a65c_size_8abf5 l G h) (⟨callB_of 0 hts ggX7_addTier_Jx4a65c_size_8abf5 rfl rfl rfl (hts (.initialized RJx4a65c) (by decide +kernel)) (hts (.methodLink RX7 62 yJx4a65c_size_8abf5) (by decide +kernel)) (by decide +kernel) ⟨Nat.le_of_ble_eq_true rfl, Nat.le_of_ble_eq_true rfl⟩, hts (.instanceMethod yJx4a65c_size_8abf5) (by decide +kernel), hts (.selects RJx4a65c yJx4a65c_size_8abf5 yJx4a65c_size_8abf5) (by decide +kernel)⟩) rfl hrc_r_14 hK hZ hF hS hA rfl hl.1 rfl (Nat.le_of_ble_eq_true rfl) dX7_addTier_8 ⟨by show _ ≤ mc; omega, by show _ ≤ ms; omega⟩ (fun r_14 H locs h hF hS => ?_)
  simp only [Nat.add_zero]
  obtain ⟨h1, h2⟩ := h
  refine lv_icmp_lt (tgt := 29) hx hb dX7_addTier_11 (by decide) (fun c_15 => ?_) (fun c_15 => ?_)
  · have h := h1 c_15
    exact J29 f mc ms _ _ _ _ _ h hbc hbs hF hS (lv_sub hl [0] rfl)
  · have h := h2 c_15
    refine lv_aload_n hx hb dX7_addTier_14 rfl (lv_at hl 0 rfl) ?_
    obtain ⟨fs_17, a_16, he_fs_17, hv_fs_17, h⟩ := h
    refine fw_get (C := RX7) (T := TX7) (N := 8) hx hb hts hin_X7 hown hK hF he_fs_17 rfl 3 (by decide) (hts (.fieldLink RX7 31 "FrontCodedIndex$Tree" "tiers" "Ljava/util/ArrayList;") (by decide +kernel)) (fun _ h9 => h9) hv_fs_17 dX7_addTier_15 ?_
    obtain ⟨hb1, hb2, h⟩ := h
    refine fw_new (ci := 5) (fs := [.null, .int 0]) (C := RX2) (T := TX2) (N := 2) hx hb hts hin_X2 tyX2 tyX2_ok hown (hts (.classLink RX7 18 RX2) (by decide +kernel)) (hts (.instantiable RX2 2) (by decide +kernel)) (hts (.initialized RX2) (by decide +kernel)) hK hF hS hA rfl (fun j hj => by rcases (show j = 0 ∨ j = 1 by omega) with rfl | rfl <;> rfl) (by show _ ≤ mc; omega) (by show _ ≤ ms; omega) dX7_addTier_18 (fun q_18 H hn_q_18 hF hS => ?_)
    obtain ⟨f_19, hf_f_19⟩ : ∃ z, z = fup f q_18 (.inr (5, [.null, .int 0])) := ⟨_, rfl⟩
    rw [← hf_f_19] at hF; have h := h q_18 hn_q_18 f_19 hf_f_19
    obtain ⟨cs_20, hcs⟩ : ∃ z, z = (0 + 1) := ⟨_, rfl⟩; obtain ⟨sl_21, hsl⟩ : ∃ z, z = (0 + 2) := ⟨_, rfl⟩
    have hbc : cs_20 + (mc - 1) ≤ mc := by omega
    have hbs : sl_21 + (ms - 2) ≤ ms := by omega
    refine W.widen (k := cs_20) (n := sl_21) (by omega) (by omega) ?_
    clear hcs hsl
    refine lv_dup hx hb dX7_addTier_21 rfl ?_
    obtain ⟨ga_24, gb_25, hga_ga_24, hgb_ga_24, h⟩ := h
    refine fw_cIN_v (As := []) (rest := [.ref q_18, .ref a_16]) ⟨hx, hb, hml, hown, hts⟩ (cc_X2_init l G h) (⟨va_cnB 0 hts ggX7_addTier_X2_init rfl rfl rfl (hZ.2.1 (.methodLinkNest RX7 20 yX2_init "FrontCodedIndex") (by decide +kernel)) (hts (.initialized RX2) (by decide +kernel)) (by decide +kernel) ⟨Nat.le_of_ble_eq_true rfl, Nat.le_of_ble_eq_true rfl⟩, rfl, hts (.instanceMethod yX2_init) (by decide +kernel)⟩) hK hZ hF hS hA rfl hl.1 rfl (Nat.le_of_ble_eq_true rfl) dX7_addTier_22 ⟨by show _ ≤ mc; omega, by show _ ≤ ms; omega⟩ (fun f_23 H locs h hF hS => ?_)
    obtain ⟨cs_26, hcs⟩ : ∃ z, z = (cs_20 + ga_24) := ⟨_, rfl⟩; obtain ⟨sl_27, hsl⟩ : ∃ z, z = (sl_21 + gb_25) := ⟨_, rfl⟩
    have hbc : cs_26 + ((mc - 1) - ga_24) ≤ mc := by omega
    have hbs : sl_27 + ((ms - 2) - gb_25) ≤ ms := by omega
    refine W.widen (k := cs_26) (n := sl_27) (by omega) (by omega) ?_
    clear hcs hsl
    obtain ⟨ga_30, gb_31, hga_ga_30, hgb_ga_30, h⟩ := h
    obtain ⟨⟨fs_r_28, hrc_r_28⟩, h⟩ := h
    refine fw_cV_i (As := [.ref q_18]) (rest := []) ⟨hx, hb, hml, hown, hts⟩ (cc_Jx4a65c_add_9ea2d l G hzd h) (⟨callB_of 1 hts ggX7_addTier_Jx4a65c_add_9ea2d rfl rfl rfl (hts (.initialized RJx4a65c) (by decide +kernel)) (hts (.methodLink RX7 70 yJx4a65c_add_9ea2d) (by decide +kernel)) (by decide +kernel) ⟨Nat.le_of_ble_eq_true rfl, Nat.le_of_ble_eq_true rfl⟩, hts (.instanceMethod yJx4a65c_add_9ea2d) (by decide +kernel), hts (.selects RJx4a65c yJx4a65c_add_9ea2d yJx4a65c_add_9ea2d) (by decide +kernel)⟩) rfl hrc_r_28 hK hZ hF hS hA rfl hl.1 rfl (Nat.le_of_ble_eq_true rfl) dX7_addTier_25 ⟨by show _ ≤ mc; omega, by show _ ≤ ms; omega⟩ (fun r_28 f_29 H locs h hF hS => ?_)
    obtain ⟨cs_32, hcs⟩ : ∃ z, z = (cs_26 + ga_30) := ⟨_, rfl⟩; obtain ⟨sl_33, hsl⟩ : ∃ z, z = (sl_27 + gb_31) := ⟨_, rfl⟩
    have hbc : cs_32 + (((mc - 1) - ga_24) - ga_30) ≤ mc := by omega
    have hbs : sl_33 + (((ms - 2) - gb_25) - gb_31) ≤ ms := by omega
    refine W.widen (k := cs_32) (n := sl_33) (by omega) (by omega) ?_
    clear hcs hsl
    refine lv_pop hx hb dX7_addTier_28 rfl ?_
    exact J29 f_29 (((mc - 1) - ga_24) - ga_30) (((ms - 2) - gb_25) - gb_31) _ _ _ _ _ h hbc hbs hF hS (lv_sub hl [0] rfl)
theorem dX2_append_0 : decode cX2_append 0 = .ok (.aload_n 0, 1) := by decide +kernel
theorem dX2_append_1 : decode cX2_append 1 = .ok (.aload_n 0, 1) := by decide +kernel
theorem dX2_append_2 : decode cX2_append 2 = .ok (.getfield 13, 3) := by decide +kernel
theorem dX2_append_5 : decode cX2_append 5 = .ok (.iload_n 1, 1) := by decide +kernel
theorem dX2_append_6 : decode cX2_append 6 = .ok (.invokevirtual 17, 3) := by decide +kernel
theorem dX2_append_9 : decode cX2_append 9 = .ok (.return_, 1) := by decide +kernel
set_option maxRecDepth 20000 in
theorem ggX2_append_X2_insert : GoodIn wsX2_append wsX2_insert := goodIn_r _ [6, 1, 7, 8, 9, 10, 11, 12, 13, 14, 15, 16, 17, 18, 19, 20, 21, 22, 23, 24, 25, 26, 27, 28] (by decide +kernel) (by decide +kernel)
def wp_X2_append (a0 : Nat) (x1 : Int32) (f : FT) (mc ms : Nat) (K : FT → Prop) : Prop :=
  gI f a0 5 1 fun v_1 => ∃ ga_5 gb_6 : Nat, ga_5 ≤ mc ∧ gb_6 ≤ ms ∧ isO f a0 5 ∧ wp_X2_insert a0 v_1 x1 f ga_5 gb_6 (fun f_4 => K f_4)
set_option maxHeartbeats 4000000 in
set_option maxRecDepth 100000 in
theorem cc_X2_append (l : Launch) (G : GG) {f : FT} {sz : Nat} {a0 : Nat} {x1 : Int32} {mc ms : Nat} {K : FT → Prop} (h : wp_X2_append a0 x1 f mc ms K) : Met l yX2_append wsX2_append ({ frames := 3, cells := mc, slots := ms, locals := 85 } : Room) (FP G [.ref a0, .int x1] f sz) (va_Qv (fun f9 => K f9 : FT → Prop) (FB G (fA f sz)) (fA f sz)) mc ms (fA f sz) := by
  refine Met.ofW (cc := cX2_append) (maxL := 2) (ret := none) (by decide) rfl ?_
  intro p e s m args below meth c s₁ B hml hv
  obtain ⟨rfl, hsz, hF, hK, hZ⟩ := hv
  have hx := B.exec
  have hb := B.bytes
  have hr := B.returns
  have hts := atoms_spec (ws := wsX2_append) B.pre
  have hown : s.vm.findClass RX2 = some m.cls := findClass_of_methodNamed B.named
  have hlocks := B.notSynchronized
  subst hsz
  have hF := hF.self (sz := s.heap.size)
  generalize hAe : fA f s.heap.size = A at hF hZ ⊢
  have hA : ∀ q : Nat, s.heap.size ≤ q → A q := fun q h => by rw [← hAe]; exact Or.inr h
  have hS : va_S A s.heap s.heap [] := va_S.rf
  have hin_X2 : ∀ w ∈ wsX20, w ∈ wsX2_append := by decide +kernel
  have hbc : 0 + mc ≤ mc := by omega
  have hbs : 0 + ms ≤ ms := by omega
  have hl := lv_entry ([.ref a0, .int x1]) (n := 2) (Nat.le_of_ble_eq_true rfl)
  rw [lg_entry_eq]
  generalize (lg_sl ([.ref a0, .int x1]) ++ List.replicate (2 - (lg_sl ([.ref a0, .int x1])).length) Slot.unset).toArray = ls at hl ⊢
  have hl : lv_has ls 2 [(0, .ref a0), (1, .int x1)] := hl
  unfold wp_X2_append at h
  refine lv_aload_n hx hb dX2_append_0 rfl (lv_at hl 0 rfl) ?_
  refine lv_aload_n hx hb dX2_append_1 rfl (lv_at hl 0 rfl) ?_
  obtain ⟨fs_2, v_1, he_fs_2, hv_fs_2, h⟩ := h
  refine fw_get (C := RX2) (T := TX2) (N := 2) hx hb hts hin_X2 hown hK hF he_fs_2 rfl 1 (by decide) (hts (.fieldLink RX2 13 "FrontCodedIndex$IntRow" "count" "I") (by decide +kernel)) (fun _ h9 => h9) hv_fs_2 dX2_append_2 ?_
  refine lv_iload_n hx hb dX2_append_5 rfl (lv_at hl 1 rfl) ?_
  obtain ⟨ga_5, gb_6, hga_ga_5, hgb_ga_5, h⟩ := h
  obtain ⟨⟨fs_u_3, hrc_u_3⟩, h⟩ := h
  refine fw_cV_v (As := [.int v_1, .int x1]) (rest := []) ⟨hx, hb, hml, hown, hts⟩ (cc_X2_insert l G h) (⟨callB_of 2 hts ggX2_append_X2_insert rfl rfl rfl (hts (.initialized RX2) (by decide +kernel)) (hts (.methodLink RX2 17 yX2_insert) (by decide +kernel)) (by decide +kernel) ⟨Nat.le_of_ble_eq_true rfl, Nat.le_of_ble_eq_true rfl⟩, hts (.instanceMethod yX2_insert) (by decide +kernel), hts (.selects RX2 yX2_insert yX2_insert) (by decide +kernel)⟩) rfl hrc_u_3 hK hZ hF hS hA rfl hl.1 rfl (Nat.le_of_ble_eq_true rfl) dX2_append_6 ⟨by show _ ≤ mc; omega, by show _ ≤ ms; omega⟩ (fun f_4 H locs h hF hS => ?_)
  obtain ⟨cs_7, hcs⟩ : ∃ z, z = (0 + ga_5) := ⟨_, rfl⟩; obtain ⟨sl_8, hsl⟩ : ∃ z, z = (0 + gb_6) := ⟨_, rfl⟩
  have hbc : cs_7 + (mc - ga_5) ≤ mc := by omega
  have hbs : sl_8 + (ms - gb_6) ≤ ms := by omega
  refine W.widen (k := cs_7) (n := sl_8) (by omega) (by omega) ?_
  clear hcs hsl
  refine W.widen (k := mc) (n := ms) (by omega) (by omega) ?_
  exact W.vret hx hb hr (fun t ht hW => ⟨⟨f_4, rfl, h, by rw [ht]; exact hF, FK.moved hW.alike hK⟩, hS.F ht⟩) hS.2.2 dX2_append_9
theorem dX1_split_0 : decode cX1_split 0 = .ok (.aload_n 0, 1) := by decide +kernel
theorem dX1_split_1 : decode cX1_split 1 = .ok (.iload_n 1, 1) := by decide +kernel
theorem dX1_split_2 : decode cX1_split 2 = .ok (.iload_n 2, 1) := by decide +kernel
theorem dX1_split_3 : decode cX1_split 3 = .ok (.invokevirtual 121, 3) := by decide +kernel
theorem dX1_split_6 : decode cX1_split 6 = .ok (.istore_n 3, 1) := by decide +kernel
theorem dX1_split_7 : decode cX1_split 7 = .ok (.iload_n 1, 1) := by decide +kernel
theorem dX1_split_8 : decode cX1_split 8 = .ok (.aload_n 0, 1) := by decide +kernel
theorem dX1_split_9 : decode cX1_split 9 = .ok (.getfield 16, 3) := by decide +kernel
theorem dX1_split_12 : decode cX1_split 12 = .ok (.getfield 37, 3) := by decide +kernel
theorem dX1_split_15 : decode cX1_split 15 = .ok (.iconst 1, 1) := by decide +kernel
theorem dX1_split_16 : decode cX1_split 16 = .ok (.isub, 1) := by decide +kernel
theorem dX1_split_17 : decode cX1_split 17 = .ok (.if_icmp .ne 14, 3) := by decide +kernel
theorem dX1_split_20 : decode cX1_split 20 = .ok (.aload_n 0, 1) := by decide +kernel
theorem dX1_split_21 : decode cX1_split 21 = .ok (.getfield 16, 3) := by decide +kernel
theorem dX1_split_24 : decode cX1_split 24 = .ok (.invokevirtual 124, 3) := by decide +kernel
theorem dX1_split_27 : decode cX1_split 27 = .ok (.iconst 1, 1) := by decide +kernel
theorem dX1_split_28 : decode cX1_split 28 = .ok (.invokevirtual 128, 3) := by decide +kernel
theorem dX1_split_31 : decode cX1_split 31 = .ok (.iload_n 1, 1) := by decide +kernel
theorem dX1_split_32 : decode cX1_split 32 = .ok (.ifCond .ne 22, 3) := by decide +kernel
theorem dX1_split_35 : decode cX1_split 35 = .ok (.aload_n 0, 1) := by decide +kernel
theorem dX1_split_36 : decode cX1_split 36 = .ok (.getfield 16, 3) := by decide +kernel
theorem dX1_split_39 : decode cX1_split 39 = .ok (.getfield 64, 3) := by decide +kernel
theorem dX1_split_42 : decode cX1_split 42 = .ok (.iload_n 2, 1) := by decide +kernel
theorem dX1_split_43 : decode cX1_split 43 = .ok (.aload_n 0, 1) := by decide +kernel
theorem dX1_split_44 : decode cX1_split 44 = .ok (.getfield 16, 3) := by decide +kernel
theorem dX1_split_47 : decode cX1_split 47 = .ok (.iload_n 3, 1) := by decide +kernel
theorem dX1_split_48 : decode cX1_split 48 = .ok (.invokevirtual 115, 3) := by decide +kernel
theorem dX1_split_51 : decode cX1_split 51 = .ok (.invokevirtual 67, 3) := by decide +kernel
theorem dX1_split_54 : decode cX1_split 54 = .ok (.aload_n 0, 1) := by decide +kernel
theorem dX1_split_55 : decode cX1_split 55 = .ok (.getfield 16, 3) := by decide +kernel
theorem dX1_split_58 : decode cX1_split 58 = .ok (.iload_n 1, 1) := by decide +kernel
theorem dX1_split_59 : decode cX1_split 59 = .ok (.invokevirtual 79, 3) := by decide +kernel
theorem dX1_split_62 : decode cX1_split 62 = .ok (.iload_n 2, 1) := by decide +kernel
theorem dX1_split_63 : decode cX1_split 63 = .ok (.iload_n 3, 1) := by decide +kernel
theorem dX1_split_64 : decode cX1_split 64 = .ok (.invokevirtual 75, 3) := by decide +kernel
theorem dX1_split_67 : decode cX1_split 67 = .ok (.aload_n 0, 1) := by decide +kernel
theorem dX1_split_68 : decode cX1_split 68 = .ok (.getfield 16, 3) := by decide +kernel
theorem dX1_split_71 : decode cX1_split 71 = .ok (.iload_n 1, 1) := by decide +kernel
theorem dX1_split_72 : decode cX1_split 72 = .ok (.iconst 1, 1) := by decide +kernel
theorem dX1_split_73 : decode cX1_split 73 = .ok (.iadd, 1) := by decide +kernel
theorem dX1_split_74 : decode cX1_split 74 = .ok (.invokevirtual 79, 3) := by decide +kernel
theorem dX1_split_77 : decode cX1_split 77 = .ok (.aload_n 0, 1) := by decide +kernel
theorem dX1_split_78 : decode cX1_split 78 = .ok (.getfield 16, 3) := by decide +kernel
theorem dX1_split_81 : decode cX1_split 81 = .ok (.iload_n 1, 1) := by decide +kernel
theorem dX1_split_82 : decode cX1_split 82 = .ok (.iload_n 2, 1) := by decide +kernel
theorem dX1_split_83 : decode cX1_split 83 = .ok (.invokevirtual 51, 3) := by decide +kernel
theorem dX1_split_86 : decode cX1_split 86 = .ok (.iconst 1, 1) := by decide +kernel
theorem dX1_split_87 : decode cX1_split 87 = .ok (.invokevirtual 83, 3) := by decide +kernel
theorem dX1_split_90 : decode cX1_split 90 = .ok (.aload_n 0, 1) := by decide +kernel
theorem dX1_split_91 : decode cX1_split 91 = .ok (.dup, 1) := by decide +kernel
theorem dX1_split_92 : decode cX1_split 92 = .ok (.getfield 7, 3) := by decide +kernel
theorem dX1_split_95 : decode cX1_split 95 = .ok (.iconst 1, 1) := by decide +kernel
theorem dX1_split_96 : decode cX1_split 96 = .ok (.iadd, 1) := by decide +kernel
theorem dX1_split_97 : decode cX1_split 97 = .ok (.putfield 7, 3) := by decide +kernel
theorem dX1_split_100 : decode cX1_split 100 = .ok (.return_, 1) := by decide +kernel
set_option maxRecDepth 20000 in
theorem ggX1_split_X1_evenCut : GoodIn wsX1_split wsX1_evenCut := goodIn_r _ [7, 1, 8, 9, 10, 11, 12, 13, 14, 15, 16, 17, 18, 19, 20, 21, 22, 23, 24, 25, 26, 27, 28, 29, 30, 31, 32, 33, 34, 35, 36, 37, 38, 39, 40, 41, 42, 43, 44, 45, 46, 47, 48, 49, 50, 51, 52, 53, 54, 55, 56, 57, 58, 59, 60, 61, 62, 63, 64, 65, 66, 67, 68, 69, 70, 71, 72, 73, 74, 75, 76, 77, 78, 79, 80, 81, 82, 83, 84, 85, 86, 87, 88, 228, 229, 230, 231, 232, 233, 234, 235, 236, 237, 238, 239, 240, 241, 242, 243, 244, 245, 246, 247] (by decide +kernel) (by decide +kernel)
set_option maxRecDepth 20000 in
theorem ggX1_split_X2_addFrom : GoodIn wsX1_split wsX2_addFrom := goodIn_r _ [226, 227, 122, 10, 123, 52, 53, 243, 244] (by decide +kernel) (by decide +kernel)
set_option maxRecDepth 20000 in
theorem ggX1_split_X2_append : GoodIn wsX1_split wsX2_append := goodIn_r _ [161, 52, 162, 163, 164, 50, 165, 53, 166, 167, 136, 168, 169, 170, 171, 172, 173, 174, 101, 147, 148, 10, 149, 150, 151, 152, 153, 243, 244] (by decide +kernel) (by decide +kernel)
set_option maxRecDepth 20000 in
theorem ggX1_split_X2_insert : GoodIn wsX1_split wsX2_insert := goodIn_r _ [165, 52, 53, 166, 167, 136, 168, 169, 170, 171, 172, 173, 174, 101, 147, 148, 10, 149, 150, 151, 152, 153, 243, 244] (by decide +kernel) (by decide +kernel)
set_option maxRecDepth 20000 in
theorem ggX1_split_X4_insert : GoodIn wsX1_split wsX4_insert := goodIn_r _ [202, 69, 72, 25, 26, 27, 28, 29, 203, 204, 205, 206, 106, 107, 46, 207, 151, 152, 153, 208, 209, 210, 211, 112, 113, 114, 115, 116, 117, 118, 119, 120, 121, 122, 10, 123, 124, 125, 126, 127, 128, 129, 130, 131, 132, 133, 134, 135, 136, 137, 138, 139, 140, 141, 142, 143, 144, 145, 146, 147, 148, 149, 150, 245, 246, 240, 241, 242] (by decide +kernel) (by decide +kernel)
set_option maxRecDepth 20000 in
theorem ggX1_split_X7_addTier : GoodIn wsX1_split wsX7_addTier := goodIn_r _ [92, 93, 21, 94, 95, 50, 24, 25, 26, 27, 28, 29, 96, 97, 98, 99, 100, 101, 53, 52, 102, 103, 104, 105, 106, 107, 46, 108, 109, 110, 111, 112, 113, 114, 115, 116, 117, 118, 119, 120, 121, 122, 10, 123, 124, 125, 126, 127, 128, 129, 130, 131, 132, 133, 134, 135, 136, 137, 138, 139, 140, 141, 142, 143, 144, 145, 146, 147, 148, 149, 150, 151, 152, 153, 17, 18, 19, 15, 20, 22, 23, 30, 31, 32, 33, 34, 35, 36, 37, 38, 39, 40, 41, 42, 43, 44, 45, 154, 155, 156, 157, 232, 233, 234, 235, 236, 237, 238, 239, 243, 244, 240, 241, 242] (by decide +kernel) (by decide +kernel)
set_option maxRecDepth 20000 in
theorem ggX1_split_X7_parentOf : GoodIn wsX1_split wsX7_parentOf := goodIn_r _ [217, 17, 18, 19, 15, 20, 21, 22, 23, 24, 25, 26, 27, 28, 29, 30, 31, 32, 33, 34, 35, 36, 37, 38, 39, 40, 41, 42, 43, 44, 45, 46, 218, 219, 220, 50, 221, 52, 222, 48, 49, 51, 53, 232, 233, 234, 235, 236, 237, 238, 239, 240, 241, 242, 243, 244] (by decide +kernel) (by decide +kernel)
set_option maxRecDepth 20000 in
theorem ggX1_split_X7_shortestBefore : GoodIn wsX1_split wsX7_shortestBefore := goodIn_r _ [178, 63, 64, 65, 66, 67, 68, 69, 70, 71, 72, 25, 26, 27, 28, 29, 73, 31, 32, 33, 34, 35, 36, 37, 38, 39, 40, 41, 42, 43, 44, 45, 46, 85, 86, 87, 82, 88, 84, 179, 180, 181, 182, 183, 184, 185, 148, 10, 149, 186, 122, 123, 187, 188, 136, 189, 190, 191, 171, 172, 192, 193, 194, 147, 150, 151, 152, 153, 195, 196, 197, 198, 99, 100, 232, 233, 234, 235, 236, 237, 238, 239, 245, 246, 240, 241, 242, 247] (by decide +kernel) (by decide +kernel)
set_option maxRecDepth 20000 in
theorem ggX1_split_X7_tier : GoodIn wsX1_split wsX7_tier := goodIn_r _ [20, 21, 22, 23, 24, 25, 26, 27, 28, 29, 30, 31, 32, 33, 34, 35, 36, 37, 38, 39, 40, 41, 42, 43, 44, 45, 46, 232, 233, 234, 235, 236, 237, 238, 239, 240, 241, 242] (by decide +kernel) (by decide +kernel)
def wp_X1_split_54 (zd : Nat) (a0 : Nat) (x1 : Int32) (x2 : Int32) (y3 : Int32) (f : FT) (bc bs : Nat) (K : FT → Prop)  : Prop :=
  gA f a0 4 0 fun a_1 => isO f a_1 10 ∧ wp_X7_tier a_1 x1 f (fun a_3 => ∃ ga_6 gb_7 : Nat, ga_6 ≤ bc ∧ gb_7 ≤ bs ∧ isO f a_3 5 ∧ wp_X2_insert a_3 x2 y3 f ga_6 gb_7 (fun f_5 => gA f_5 a0 4 0 fun a_10 => isO f_5 a_10 10 ∧ wp_X7_tier a_10 (x1 + (1 : Int32)) f_5 (fun a_12 => gA f_5 a0 4 0 fun a_13 => isO f_5 a_13 10 ∧ wp_X7_parentOf a_13 x1 x2 f_5 (fun r_15 => isO f_5 a_12 5 ∧ wp_X2_addFrom a_12 r_15 (1 : Int32) f_5 (fun f_17 => gI f_17 a0 4 2 fun v_18 => pV f_17 a0 4 2 (.int (v_18 + (1 : Int32))) fun f_21 => K f_21)))))
def wp_X1_split_31 (zd : Nat) (a0 : Nat) (x1 : Int32) (x2 : Int32) (y3 : Int32) (f : FT) (bc bs : Nat) (K : FT → Prop)  : Prop :=
  ((¬ x1 = (0 : Int32) → wp_X1_split_54 zd a0 x1 x2 y3 f bc bs K) ∧
 (x1 = (0 : Int32) → gA f a0 4 0 fun a_23 => gA f a_23 10 2 fun a_25 => gA f a0 4 0 fun a_27 => ∃ ga_31 gb_32 : Nat, ga_31 ≤ bc ∧ gb_32 ≤ bs ∧ isO f a_27 10 ∧ wp_X7_shortestBefore a_27 y3 f ga_31 gb_32 (fun a_29 f_30 => ∃ ga_37 gb_38 : Nat, ga_37 ≤ (bc - ga_31) ∧ gb_38 ≤ (bs - gb_32) ∧ isO f_30 a_25 7 ∧ wp_X4_insert zd a_25 x2 a_29 f_30 ga_37 gb_38 (fun f_36 => wp_X1_split_54 zd a0 x1 x2 y3 f_36 ((bc - ga_31) - ga_37) ((bs - gb_32) - gb_38) K))))
def wp_X1_split (zd : Nat) (a0 : Nat) (x1 : Int32) (x2 : Int32) (f : FT) (mc ms : Nat) (K : FT → Prop) : Prop :=
  isO f a0 4 ∧ wp_X1_evenCut a0 x1 x2 f (fun r_41 => gA f a0 4 0 fun a_42 => gI f a_42 10 6 fun v_44 => ((¬ x1 = (v_44 - (1 : Int32)) → wp_X1_split_31 zd a0 x1 x2 r_41 f mc ms K) ∧
 (x1 = (v_44 - (1 : Int32)) → gA f a0 4 0 fun a_47 => ∃ ga_51 gb_52 : Nat, ga_51 ≤ mc ∧ gb_52 ≤ ms ∧ isO f a_47 10 ∧ wp_X7_addTier zd a_47 f ga_51 gb_52 (fun a_49 f_50 => ∃ ga_57 gb_58 : Nat, ga_57 ≤ (mc - ga_51) ∧ gb_58 ≤ (ms - gb_52) ∧ isO f_50 a_49 5 ∧ wp_X2_append a_49 (1 : Int32) f_50 ga_57 gb_58 (fun f_56 => wp_X1_split_31 zd a0 x1 x2 r_41 f_56 ((mc - ga_51) - ga_57) ((ms - gb_52) - gb_58) K)))))
set_option maxHeartbeats 4000000 in
set_option maxRecDepth 100000 in
theorem cc_X1_split (l : Launch) (G : GG) {zd : Nat} (hzd : G.2.2 0 = zd) {f : FT} {sz : Nat} {a0 : Nat} {x1 : Int32} {x2 : Int32} {mc ms : Nat} {K : FT → Prop} (h : wp_X1_split zd a0 x1 x2 f mc ms K) : Met l yX1_split wsX1_split ({ frames := 8, cells := mc, slots := ms, locals := 192 } : Room) (FP G [.ref a0, .int x1, .int x2] f sz) (va_Qv (fun f9 => K f9 : FT → Prop) (FB G (fA f sz)) (fA f sz)) mc ms (fA f sz) := by
  refine Met.ofW (cc := cX1_split) (maxL := 4) (ret := none) (by decide) rfl ?_
  intro p e s m args below meth c s₁ B hml hv
  obtain ⟨rfl, hsz, hF, hK, hZ⟩ := hv
  have hx := B.exec
  have hb := B.bytes
  have hr := B.returns
  have hts := atoms_spec (ws := wsX1_split) B.pre
  have hown : s.vm.findClass RX1 = some m.cls := findClass_of_methodNamed B.named
  have hlocks := B.notSynchronized
  subst hsz
  have hF := hF.self (sz := s.heap.size)
  generalize hAe : fA f s.heap.size = A at hF hZ ⊢
  have hA : ∀ q : Nat, s.heap.size ≤ q → A q := fun q h => by rw [← hAe]; exact Or.inr h
  have hS : va_S A s.heap s.heap [] := va_S.rf
  have hZ9 : va_Z "java/util/ArrayList" "DEFAULTCAPACITY_EMPTY_ELEMENTDATA" "[Ljava/lang/Object;" (.ref zd) A s s.heap := by rw [← hzd]; exact hZ.1
  have hin_X1 : ∀ w ∈ wsX10, w ∈ wsX1_split := by decide +kernel
  have hin_X7 : ∀ w ∈ wsX70, w ∈ wsX1_split := by decide +kernel
  have hbc : 0 + mc ≤ mc := by omega
  have hbs : 0 + ms ≤ ms := by omega
  have J54 : ∀ (y3 : Int32) (f : FT) (bc : Nat) (bs : Nat) (H : Heap) (locs : List Loc) (ls : Array Slot) (cs sl : Nat), wp_X1_split_54 zd a0 x1 x2 y3 f bc bs K  → cs + bc ≤ mc → sl + bs ≤ ms → Fw G A f H → va_S A s.heap H locs → lv_has ls 4 [(0, .ref a0), (1, .int x1), (2, .int x2), (3, .int y3)] → W p l e ({ frames := 8, cells := mc, slots := ms, locals := 192 } : Room) s m ([.ref a0, .int x1, .int x2] : List Value).toArray below meth c H locs cs sl (MQ below (va_Qv (fun f9 => K f9 : FT → Prop) (FB G A) A) ([.ref a0, .int x1, .int x2] : List Value).toArray s mc ms A) (F0 m 54 ls []) := by
    intro y3 f bc bs H locs ls cs sl h hbc hbs hF hS hl
    unfold wp_X1_split_54 at h
    refine lv_aload_n hx hb dX1_split_54 rfl (lv_at hl 0 rfl) ?_
    obtain ⟨fs_2, a_1, he_fs_2, hv_fs_2, h⟩ := h
    refine fw_get (C := RX1) (T := TX1) (N := 4) hx hb hts hin_X1 hown hK hF he_fs_2 rfl 0 (by decide) (hts (.fieldLink RX1 16 "FrontCodedIndex$Inserter" "tree" "LFrontCodedIndex$Tree;") (by decide +kernel)) (fun _ h9 => h9) hv_fs_2 dX1_split_55 ?_
    refine lv_iload_n hx hb dX1_split_58 rfl (lv_at hl 1 rfl) ?_
    obtain ⟨⟨fs_a_3, hrc_a_3⟩, h⟩ := h
    refine fw_cV_q_p (As := [.int x1]) (rest := []) ⟨hx, hb, hml, hown, hts⟩ (cc_X7_tier l G h) (⟨callB_of 1 hts ggX1_split_X7_tier rfl rfl rfl (hts (.initialized RX7) (by decide +kernel)) (hts (.methodLink RX1 79 yX7_tier) (by decide +kernel)) (by decide +kernel) ⟨Nat.le_of_ble_eq_true rfl, Nat.le_of_ble_eq_true rfl⟩, hts (.instanceMethod yX7_tier) (by decide +kernel), hts (.selects RX7 yX7_tier yX7_tier) (by decide +kernel)⟩) rfl hrc_a_3 hK hZ hF hS hA rfl hl.1 rfl (Nat.le_of_ble_eq_true rfl) dX1_split_59 ⟨by show _ ≤ mc; omega, by show _ ≤ ms; omega⟩ (fun a_3 H locs h hF hS => ?_)
    simp only [Nat.add_zero]
    refine lv_iload_n hx hb dX1_split_62 rfl (lv_at hl 2 rfl) ?_
    refine lv_iload_n hx hb dX1_split_63 rfl (lv_at hl 3 rfl) ?_
    obtain ⟨ga_6, gb_7, hga_ga_6, hgb_ga_6, h⟩ := h
    obtain ⟨⟨fs_u_4, hrc_u_4⟩, h⟩ := h
    refine fw_cV_v (As := [.int x2, .int y3]) (rest := []) ⟨hx, hb, hml, hown, hts⟩ (cc_X2_insert l G h) (⟨callB_of 2 hts ggX1_split_X2_insert rfl rfl rfl (hts (.initialized RX2) (by decide +kernel)) (hts (.methodLink RX1 75 yX2_insert) (by decide +kernel)) (by decide +kernel) ⟨Nat.le_of_ble_eq_true rfl, Nat.le_of_ble_eq_true rfl⟩, hts (.instanceMethod yX2_insert) (by decide +kernel), hts (.selects RX2 yX2_insert yX2_insert) (by decide +kernel)⟩) rfl hrc_u_4 hK hZ hF hS hA rfl hl.1 rfl (Nat.le_of_ble_eq_true rfl) dX1_split_64 ⟨by show _ ≤ mc; omega, by show _ ≤ ms; omega⟩ (fun f_5 H locs h hF hS => ?_)
    obtain ⟨cs_8, hcs⟩ : ∃ z, z = (cs + ga_6) := ⟨_, rfl⟩; obtain ⟨sl_9, hsl⟩ : ∃ z, z = (sl + gb_7) := ⟨_, rfl⟩
    have hbc : cs_8 + (bc - ga_6) ≤ mc := by omega
    have hbs : sl_9 + (bs - gb_7) ≤ ms := by omega
    refine W.widen (k := cs_8) (n := sl_9) (by omega) (by omega) ?_
    clear hcs hsl
    refine lv_aload_n hx hb dX1_split_67 rfl (lv_at hl 0 rfl) ?_
    obtain ⟨fs_11, a_10, he_fs_11, hv_fs_11, h⟩ := h
    refine fw_get (C := RX1) (T := TX1) (N := 4) hx hb hts hin_X1 hown hK hF he_fs_11 rfl 0 (by decide) (hts (.fieldLink RX1 16 "FrontCodedIndex$Inserter" "tree" "LFrontCodedIndex$Tree;") (by decide +kernel)) (fun _ h9 => h9) hv_fs_11 dX1_split_68 ?_
    refine lv_iload_n hx hb dX1_split_71 rfl (lv_at hl 1 rfl) ?_
    refine lv_iconst (v := (1 : Int32)) hx hb dX1_split_72 (by decide) ?_
    refine lv_iadd hx hb dX1_split_73 ?_
    obtain ⟨⟨fs_a_12, hrc_a_12⟩, h⟩ := h
    refine fw_cV_q_p (As := [.int (x1 + (1 : Int32))]) (rest := []) ⟨hx, hb, hml, hown, hts⟩ (cc_X7_tier l G h) (⟨callB_of 1 hts ggX1_split_X7_tier rfl rfl rfl (hts (.initialized RX7) (by decide +kernel)) (hts (.methodLink RX1 79 yX7_tier) (by decide +kernel)) (by decide +kernel) ⟨Nat.le_of_ble_eq_true rfl, Nat.le_of_ble_eq_true rfl⟩, hts (.instanceMethod yX7_tier) (by decide +kernel), hts (.selects RX7 yX7_tier yX7_tier) (by decide +kernel)⟩) rfl hrc_a_12 hK hZ hF hS hA rfl hl.1 rfl (Nat.le_of_ble_eq_true rfl) dX1_split_74 ⟨by show _ ≤ mc; omega, by show _ ≤ ms; omega⟩ (fun a_12 H locs h hF hS => ?_)
    simp only [Nat.add_zero]
    refine lv_aload_n hx hb dX1_split_77 rfl (lv_at hl 0 rfl) ?_
    obtain ⟨fs_14, a_13, he_fs_14, hv_fs_14, h⟩ := h
    refine fw_get (C := RX1) (T := TX1) (N := 4) hx hb hts hin_X1 hown hK hF he_fs_14 rfl 0 (by decide) (hts (.fieldLink RX1 16 "FrontCodedIndex$Inserter" "tree" "LFrontCodedIndex$Tree;") (by decide +kernel)) (fun _ h9 => h9) hv_fs_14 dX1_split_78 ?_
    refine lv_iload_n hx hb dX1_split_81 rfl (lv_at hl 1 rfl) ?_
    refine lv_iload_n hx hb dX1_split_82 rfl (lv_at hl 2 rfl) ?_
    obtain ⟨⟨fs_r_15, hrc_r_15⟩, h⟩ := h
    refine fw_cV_i_p (As := [.int x1, .int x2]) (rest := [.ref a_12]) ⟨hx, hb, hml, hown, hts⟩ (cc_X7_parentOf l G h) (⟨callB_of 2 hts ggX1_split_X7_parentOf rfl rfl rfl (hts (.initialized RX7) (by decide +kernel)) (hts (.methodLink RX1 51 yX7_parentOf) (by decide +kernel)) (by decide +kernel) ⟨Nat.le_of_ble_eq_true rfl, Nat.le_of_ble_eq_true rfl⟩, hts (.instanceMethod yX7_parentOf) (by decide +kernel), hts (.selects RX7 yX7_parentOf yX7_parentOf) (by decide +kernel)⟩) rfl hrc_r_15 hK hZ hF hS hA rfl hl.1 rfl (Nat.le_of_ble_eq_true rfl) dX1_split_83 ⟨by show _ ≤ mc; omega, by show _ ≤ ms; omega⟩ (fun r_15 H locs h hF hS => ?_)
    simp only [Nat.add_zero]
    refine lv_iconst (v := (1 : Int32)) hx hb dX1_split_86 (by decide) ?_
    obtain ⟨⟨fs_u_16, hrc_u_16⟩, h⟩ := h
    refine fw_cV_v (As := [.int r_15, .int (1 : Int32)]) (rest := []) ⟨hx, hb, hml, hown, hts⟩ (cc_X2_addFrom l G h) (⟨callB_of 2 hts ggX1_split_X2_addFrom rfl rfl rfl (hts (.initialized RX2) (by decide +kernel)) (hts (.methodLink RX1 83 yX2_addFrom) (by decide +kernel)) (by decide +kernel) ⟨Nat.le_of_ble_eq_true rfl, Nat.le_of_ble_eq_true rfl⟩, hts (.instanceMethod yX2_addFrom) (by decide +kernel), hts (.selects RX2 yX2_addFrom yX2_addFrom) (by decide +kernel)⟩) rfl hrc_u_16 hK hZ hF hS hA rfl hl.1 rfl (Nat.le_of_ble_eq_true rfl) dX1_split_87 ⟨by show _ ≤ mc; omega, by show _ ≤ ms; omega⟩ (fun f_17 H locs h hF hS => ?_)
    simp only [Nat.add_zero]
    refine lv_aload_n hx hb dX1_split_90 rfl (lv_at hl 0 rfl) ?_
    refine lv_dup hx hb dX1_split_91 rfl ?_
    obtain ⟨fs_19, v_18, he_fs_19, hv_fs_19, h⟩ := h
    refine fw_get (C := RX1) (T := TX1) (N := 4) hx hb hts hin_X1 hown hK hF he_fs_19 rfl 2 (by decide) (hts (.fieldLink RX1 7 "FrontCodedIndex$Inserter" "splits" "I") (by decide +kernel)) (fun _ h9 => h9) hv_fs_19 dX1_split_92 ?_
    refine lv_iconst (v := (1 : Int32)) hx hb dX1_split_95 (by decide) ?_
    refine lv_iadd hx hb dX1_split_96 ?_
    obtain ⟨fs_20, he_fs_20, hl_fs_20, h⟩ := h
    refine fw_put (v := .int (v_18 + (1 : Int32))) (ty := .int) (C := RX1) (T := TX1) (N := 4) hx hb hts hin_X1 tyX1 (tyX1_ok) nmX1 hown hK hF hS he_fs_20 rfl 2 (by decide) (hts (.fieldLink RX1 7 "FrontCodedIndex$Inserter" "splits" "I") (by decide +kernel)) (fun _ h9 => h9) rfl (by decide +kernel) rfl rfl hl_fs_20 dX1_split_97 (fun H locs hF hS => ?_)
    obtain ⟨f_21, hf_f_21⟩ : ∃ z, z = fup f_17 a0 (.inr (4, fs_20.set 2 (.int (v_18 + (1 : Int32))))) := ⟨_, rfl⟩
    rw [← hf_f_21] at hF; have h := h f_21 hf_f_21
    refine W.widen (k := mc) (n := ms) (by omega) (by omega) ?_
    exact W.vret hx hb hr (fun t ht hW => ⟨⟨f_21, rfl, h, by rw [ht]; exact hF, FK.moved hW.alike hK⟩, hS.F ht⟩) hS.2.2 dX1_split_100
  have J31 : ∀ (y3 : Int32) (f : FT) (bc : Nat) (bs : Nat) (H : Heap) (locs : List Loc) (ls : Array Slot) (cs sl : Nat), wp_X1_split_31 zd a0 x1 x2 y3 f bc bs K  → cs + bc ≤ mc → sl + bs ≤ ms → Fw G A f H → va_S A s.heap H locs → lv_has ls 4 [(0, .ref a0), (1, .int x1), (2, .int x2), (3, .int y3)] → W p l e ({ frames := 8, cells := mc, slots := ms, locals := 192 } : Room) s m ([.ref a0, .int x1, .int x2] : List Value).toArray below meth c H locs cs sl (MQ below (va_Qv (fun f9 => K f9 : FT → Prop) (FB G A) A) ([.ref a0, .int x1, .int x2] : List Value).toArray s mc ms A) (F0 m 31 ls []) := by
    intro y3 f bc bs H locs ls cs sl h hbc hbs hF hS hl
    unfold wp_X1_split_31 at h
    refine lv_iload_n hx hb dX1_split_31 rfl (lv_at hl 1 rfl) ?_
    obtain ⟨h1, h2⟩ := h
    refine lv_if_ne (tgt := 54) hx hb dX1_split_32 (by decide) (fun c_22 => ?_) (fun c_22 => ?_)
    · have h := h1 c_22
      exact J54 y3 f bc bs _ _ _ _ _ h hbc hbs hF hS (lv_sub hl [0, 1, 2, 3] rfl)
    · have h := h2 c_22
      refine lv_aload_n hx hb dX1_split_35 rfl (lv_at hl 0 rfl) ?_
      obtain ⟨fs_24, a_23, he_fs_24, hv_fs_24, h⟩ := h
      refine fw_get (C := RX1) (T := TX1) (N := 4) hx hb hts hin_X1 hown hK hF he_fs_24 rfl 0 (by decide) (hts (.fieldLink RX1 16 "FrontCodedIndex$Inserter" "tree" "LFrontCodedIndex$Tree;") (by decide +kernel)) (fun _ h9 => h9) hv_fs_24 dX1_split_36 ?_
      obtain ⟨fs_26, a_25, he_fs_26, hv_fs_26, h⟩ := h
      refine fw_getN (C := RX7) (T := TX7) (N := 8) hx hb hts hin_X7 hown hK hF he_fs_26 rfl 2 (by decide) (va_Nw.use rfl (hZ.2.1 (.fieldLinkNest RX1 64 "FrontCodedIndex$Tree" "separators" "LFrontCodedIndex$KeyRow;" "FrontCodedIndex") (by decide +kernel))) (fun _ h9 => h9) hv_fs_26 dX1_split_39 ?_
      refine lv_iload_n hx hb dX1_split_42 rfl (lv_at hl 2 rfl) ?_
      refine lv_aload_n hx hb dX1_split_43 rfl (lv_at hl 0 rfl) ?_
      obtain ⟨fs_28, a_27, he_fs_28, hv_fs_28, h⟩ := h
      refine fw_get (C := RX1) (T := TX1) (N := 4) hx hb hts hin_X1 hown hK hF he_fs_28 rfl 0 (by decide) (hts (.fieldLink RX1 16 "FrontCodedIndex$Inserter" "tree" "LFrontCodedIndex$Tree;") (by decide +kernel)) (fun _ h9 => h9) hv_fs_28 dX1_split_44 ?_
      refine lv_iload_n hx hb dX1_split_47 rfl (lv_at hl 3 rfl) ?_
      obtain ⟨ga_31, gb_32, hga_ga_31, hgb_ga_31, h⟩ := h
      obtain ⟨⟨fs_a_29, hrc_a_29⟩, h⟩ := h
      refine fw_cV_q_w (As := [.int y3]) (rest := [.int x2, .ref a_25]) ⟨hx, hb, hml, hown, hts⟩ (cc_X7_shortestBefore l G h) (⟨callB_of 1 hts ggX1_split_X7_shortestBefore rfl rfl rfl (hts (.initialized RX7) (by decide +kernel)) (hts (.methodLink RX1 115 yX7_shortestBefore) (by decide +kernel)) (by decide +kernel) ⟨Nat.le_of_ble_eq_true rfl, Nat.le_of_ble_eq_true rfl⟩, hts (.instanceMethod yX7_shortestBefore) (by decide +kernel), hts (.selects RX7 yX7_shortestBefore yX7_shortestBefore) (by decide +kernel)⟩) rfl hrc_a_29 hK hZ hF hS hA rfl hl.1 rfl (Nat.le_of_ble_eq_true rfl) dX1_split_48 ⟨by show _ ≤ mc; omega, by show _ ≤ ms; omega⟩ (fun a_29 f_30 H locs h hF hS => ?_)
      obtain ⟨cs_33, hcs⟩ : ∃ z, z = (cs + ga_31) := ⟨_, rfl⟩; obtain ⟨sl_34, hsl⟩ : ∃ z, z = (sl + gb_32) := ⟨_, rfl⟩
      have hbc : cs_33 + (bc - ga_31) ≤ mc := by omega
      have hbs : sl_34 + (bs - gb_32) ≤ ms := by omega
      refine W.widen (k := cs_33) (n := sl_34) (by omega) (by omega) ?_
      clear hcs hsl
      obtain ⟨ga_37, gb_38, hga_ga_37, hgb_ga_37, h⟩ := h
      obtain ⟨⟨fs_u_35, hrc_u_35⟩, h⟩ := h
      refine fw_cV_v (As := [.int x2, .ref a_29]) (rest := []) ⟨hx, hb, hml, hown, hts⟩ (cc_X4_insert l G hzd h) (⟨callB_of 2 hts ggX1_split_X4_insert rfl rfl rfl (hts (.initialized RX4) (by decide +kernel)) (hts (.methodLink RX1 67 yX4_insert) (by decide +kernel)) (by decide +kernel) ⟨Nat.le_of_ble_eq_true rfl, Nat.le_of_ble_eq_true rfl⟩, hts (.instanceMethod yX4_insert) (by decide +kernel), hts (.selects RX4 yX4_insert yX4_insert) (by decide +kernel)⟩) rfl hrc_u_35 hK hZ hF hS hA rfl hl.1 rfl (Nat.le_of_ble_eq_true rfl) dX1_split_51 ⟨by show _ ≤ mc; omega, by show _ ≤ ms; omega⟩ (fun f_36 H locs h hF hS => ?_)
      obtain ⟨cs_39, hcs⟩ : ∃ z, z = (cs_33 + ga_37) := ⟨_, rfl⟩; obtain ⟨sl_40, hsl⟩ : ∃ z, z = (sl_34 + gb_38) := ⟨_, rfl⟩
      have hbc : cs_39 + ((bc - ga_31) - ga_37) ≤ mc := by omega
      have hbs : sl_40 + ((bs - gb_32) - gb_38) ≤ ms := by omega
      refine W.widen (k := cs_39) (n := sl_40) (by omega) (by omega) ?_
      clear hcs hsl
      exact J54 y3 f_36 ((bc - ga_31) - ga_37) ((bs - gb_32) - gb_38) _ _ _ _ _ h hbc hbs hF hS (lv_sub hl [0, 1, 2, 3] rfl)
  have hl := lv_entry ([.ref a0, .int x1, .int x2]) (n := 4) (Nat.le_of_ble_eq_true rfl)
  rw [lg_entry_eq]
  generalize (lg_sl ([.ref a0, .int x1, .int x2]) ++ List.replicate (4 - (lg_sl ([.ref a0, .int x1, .int x2])).length) Slot.unset).toArray = ls at hl ⊢
  have hl : lv_has ls 4 [(0, .ref a0), (1, .int x1), (2, .int x2)] := hl
  unfold wp_X1_split at h
  refine lv_aload_n hx hb dX1_split_0 rfl (lv_at hl 0 rfl) ?_
  refine lv_iload_n hx hb dX1_split_1 rfl (lv_at hl 1 rfl) ?_
  refine lv_iload_n hx hb dX1_split_2 rfl (lv_at hl 2 rfl) ?_
  obtain ⟨⟨fs_r_41, hrc_r_41⟩, h⟩ := h
  refine fw_cV_i_p (As := [.int x1, .int x2]) (rest := []) ⟨hx, hb, hml, hown, hts⟩ (cc_X1_evenCut l G h) (⟨callB_of 2 hts ggX1_split_X1_evenCut rfl rfl rfl (hts (.initialized RX1) (by decide +kernel)) (hts (.methodLink RX1 121 yX1_evenCut) (by decide +kernel)) (by decide +kernel) ⟨Nat.le_of_ble_eq_true rfl, Nat.le_of_ble_eq_true rfl⟩, hts (.instanceMethod yX1_evenCut) (by decide +kernel), hts (.selects RX1 yX1_evenCut yX1_evenCut) (by decide +kernel)⟩) rfl hrc_r_41 hK hZ hF hS hA rfl hl.1 rfl (Nat.le_of_ble_eq_true rfl) dX1_split_3 ⟨by show _ ≤ mc; omega, by show _ ≤ ms; omega⟩ (fun r_41 H locs h hF hS => ?_)
  simp only [Nat.add_zero]
  refine lv_istore_n (lv' := [(3, .int r_41), (0, .ref a0), (1, .int x1), (2, .int x2)]) hx hb dX1_split_6 rfl hl (by decide) rfl (fun ls hl => ?_)
  refine lv_iload_n hx hb dX1_split_7 rfl (lv_at hl 2 rfl) ?_
  refine lv_aload_n hx hb dX1_split_8 rfl (lv_at hl 1 rfl) ?_
  obtain ⟨fs_43, a_42, he_fs_43, hv_fs_43, h⟩ := h
  refine fw_get (C := RX1) (T := TX1) (N := 4) hx hb hts hin_X1 hown hK hF he_fs_43 rfl 0 (by decide) (hts (.fieldLink RX1 16 "FrontCodedIndex$Inserter" "tree" "LFrontCodedIndex$Tree;") (by decide +kernel)) (fun _ h9 => h9) hv_fs_43 dX1_split_9 ?_
  obtain ⟨fs_45, v_44, he_fs_45, hv_fs_45, h⟩ := h
  refine fw_getN (C := RX7) (T := TX7) (N := 8) hx hb hts hin_X7 hown hK hF he_fs_45 rfl 6 (by decide) (va_Nw.use rfl (hZ.2.1 (.fieldLinkNest RX1 37 "FrontCodedIndex$Tree" "tierTotal" "I" "FrontCodedIndex") (by decide +kernel))) (fun _ h9 => h9) hv_fs_45 dX1_split_12 ?_
  refine lv_iconst (v := (1 : Int32)) hx hb dX1_split_15 (by decide) ?_
  refine lv_isub hx hb dX1_split_16 ?_
  obtain ⟨h1, h2⟩ := h
  refine lv_icmp_ne (tgt := 31) hx hb dX1_split_17 (by decide) (fun c_46 => ?_) (fun c_46 => ?_)
  · have h := h1 c_46
    exact J31 r_41 f mc ms _ _ _ _ _ h hbc hbs hF hS (lv_sub hl [1, 2, 3, 0] rfl)
  · have h := h2 c_46
    refine lv_aload_n hx hb dX1_split_20 rfl (lv_at hl 1 rfl) ?_
    obtain ⟨fs_48, a_47, he_fs_48, hv_fs_48, h⟩ := h
    refine fw_get (C := RX1) (T := TX1) (N := 4) hx hb hts hin_X1 hown hK hF he_fs_48 rfl 0 (by decide) (hts (.fieldLink RX1 16 "FrontCodedIndex$Inserter" "tree" "LFrontCodedIndex$Tree;") (by decide +kernel)) (fun _ h9 => h9) hv_fs_48 dX1_split_21 ?_
    obtain ⟨ga_51, gb_52, hga_ga_51, hgb_ga_51, h⟩ := h
    obtain ⟨⟨fs_a_49, hrc_a_49⟩, h⟩ := h
    refine fw_cV_q_w (As := []) (rest := []) ⟨hx, hb, hml, hown, hts⟩ (cc_X7_addTier l G hzd h) (⟨callB_of 0 hts ggX1_split_X7_addTier rfl rfl rfl (hts (.initialized RX7) (by decide +kernel)) (hts (.methodLink RX1 124 yX7_addTier) (by decide +kernel)) (by decide +kernel) ⟨Nat.le_of_ble_eq_true rfl, Nat.le_of_ble_eq_true rfl⟩, hts (.instanceMethod yX7_addTier) (by decide +kernel), hts (.selects RX7 yX7_addTier yX7_addTier) (by decide +kernel)⟩) rfl hrc_a_49 hK hZ hF hS hA rfl hl.1 rfl (Nat.le_of_ble_eq_true rfl) dX1_split_24 ⟨by show _ ≤ mc; omega, by show _ ≤ ms; omega⟩ (fun a_49 f_50 H locs h hF hS => ?_)
    obtain ⟨cs_53, hcs⟩ : ∃ z, z = (0 + ga_51) := ⟨_, rfl⟩; obtain ⟨sl_54, hsl⟩ : ∃ z, z = (0 + gb_52) := ⟨_, rfl⟩
    have hbc : cs_53 + (mc - ga_51) ≤ mc := by omega
    have hbs : sl_54 + (ms - gb_52) ≤ ms := by omega
    refine W.widen (k := cs_53) (n := sl_54) (by omega) (by omega) ?_
    clear hcs hsl
    refine lv_iconst (v := (1 : Int32)) hx hb dX1_split_27 (by decide) ?_
    obtain ⟨ga_57, gb_58, hga_ga_57, hgb_ga_57, h⟩ := h
    obtain ⟨⟨fs_u_55, hrc_u_55⟩, h⟩ := h
    refine fw_cV_v (As := [.int (1 : Int32)]) (rest := []) ⟨hx, hb, hml, hown, hts⟩ (cc_X2_append l G h) (⟨callB_of 1 hts ggX1_split_X2_append rfl rfl rfl (hts (.initialized RX2) (by decide +kernel)) (hts (.methodLink RX1 128 yX2_append) (by decide +kernel)) (by decide +kernel) ⟨Nat.le_of_ble_eq_true rfl, Nat.le_of_ble_eq_true rfl⟩, hts (.instanceMethod yX2_append) (by decide +kernel), hts (.selects RX2 yX2_append yX2_append) (by decide +kernel)⟩) rfl hrc_u_55 hK hZ hF hS hA rfl hl.1 rfl (Nat.le_of_ble_eq_true rfl) dX1_split_28 ⟨by show _ ≤ mc; omega, by show _ ≤ ms; omega⟩ (fun f_56 H locs h hF hS => ?_)
    obtain ⟨cs_59, hcs⟩ : ∃ z, z = (cs_53 + ga_57) := ⟨_, rfl⟩; obtain ⟨sl_60, hsl⟩ : ∃ z, z = (sl_54 + gb_58) := ⟨_, rfl⟩
    have hbc : cs_59 + ((mc - ga_51) - ga_57) ≤ mc := by omega
    have hbs : sl_60 + ((ms - gb_52) - gb_58) ≤ ms := by omega
    refine W.widen (k := cs_59) (n := sl_60) (by omega) (by omega) ?_
    clear hcs hsl
    exact J31 r_41 f_56 ((mc - ga_51) - ga_57) ((ms - gb_52) - gb_58) _ _ _ _ _ h hbc hbs hF hS (lv_sub hl [1, 2, 3, 0] rfl)
theorem dX1_insert_0 : decode cX1_insert 0 = .ok (.aload_n 0, 1) := by decide +kernel
theorem dX1_insert_1 : decode cX1_insert 1 = .ok (.aload_n 1, 1) := by decide +kernel
theorem dX1_insert_2 : decode cX1_insert 2 = .ok (.iload_n 2, 1) := by decide +kernel
theorem dX1_insert_3 : decode cX1_insert 3 = .ok (.invokevirtual 24, 3) := by decide +kernel
theorem dX1_insert_6 : decode cX1_insert 6 = .ok (.istore_n 3, 1) := by decide +kernel
theorem dX1_insert_7 : decode cX1_insert 7 = .ok (.aload_n 0, 1) := by decide +kernel
theorem dX1_insert_8 : decode cX1_insert 8 = .ok (.getfield 16, 3) := by decide +kernel
theorem dX1_insert_11 : decode cX1_insert 11 = .ok (.iconst 0, 1) := by decide +kernel
theorem dX1_insert_12 : decode cX1_insert 12 = .ok (.iload_n 3, 1) := by decide +kernel
theorem dX1_insert_13 : decode cX1_insert 13 = .ok (.invokevirtual 28, 3) := by decide +kernel
theorem dX1_insert_16 : decode cX1_insert 16 = .ok (.aload_n 0, 1) := by decide +kernel
theorem dX1_insert_17 : decode cX1_insert 17 = .ok (.getfield 16, 3) := by decide +kernel
theorem dX1_insert_20 : decode cX1_insert 20 = .ok (.getfield 34, 3) := by decide +kernel
theorem dX1_insert_23 : decode cX1_insert 23 = .ok (.if_icmp .gt 4, 3) := by decide +kernel
theorem dX1_insert_26 : decode cX1_insert 26 = .ok (.return_, 1) := by decide +kernel
theorem dX1_insert_27 : decode cX1_insert 27 = .ok (.aload_n 0, 1) := by decide +kernel
theorem dX1_insert_28 : decode cX1_insert 28 = .ok (.getfield 16, 3) := by decide +kernel
theorem dX1_insert_31 : decode cX1_insert 31 = .ok (.getfield 37, 3) := by decide +kernel
theorem dX1_insert_34 : decode cX1_insert 34 = .ok (.istore 4, 2) := by decide +kernel
theorem dX1_insert_36 : decode cX1_insert 36 = .ok (.aload_n 0, 1) := by decide +kernel
theorem dX1_insert_37 : decode cX1_insert 37 = .ok (.iload_n 3, 1) := by decide +kernel
theorem dX1_insert_38 : decode cX1_insert 38 = .ok (.invokevirtual 40, 3) := by decide +kernel
theorem dX1_insert_41 : decode cX1_insert 41 = .ok (.ifCond .ne 17, 3) := by decide +kernel
theorem dX1_insert_44 : decode cX1_insert 44 = .ok (.aload_n 0, 1) := by decide +kernel
theorem dX1_insert_45 : decode cX1_insert 45 = .ok (.iload_n 3, 1) := by decide +kernel
theorem dX1_insert_46 : decode cX1_insert 46 = .ok (.invokevirtual 44, 3) := by decide +kernel
theorem dX1_insert_49 : decode cX1_insert 49 = .ok (.ifCond .ne 9, 3) := by decide +kernel
theorem dX1_insert_52 : decode cX1_insert 52 = .ok (.aload_n 0, 1) := by decide +kernel
theorem dX1_insert_53 : decode cX1_insert 53 = .ok (.iconst 0, 1) := by decide +kernel
theorem dX1_insert_54 : decode cX1_insert 54 = .ok (.iload_n 3, 1) := by decide +kernel
theorem dX1_insert_55 : decode cX1_insert 55 = .ok (.invokevirtual 47, 3) := by decide +kernel
theorem dX1_insert_58 : decode cX1_insert 58 = .ok (.iconst 1, 1) := by decide +kernel
theorem dX1_insert_59 : decode cX1_insert 59 = .ok (.istore 5, 2) := by decide +kernel
theorem dX1_insert_61 : decode cX1_insert 61 = .ok (.iload 5, 2) := by decide +kernel
theorem dX1_insert_63 : decode cX1_insert 63 = .ok (.iload 4, 2) := by decide +kernel
theorem dX1_insert_65 : decode cX1_insert 65 = .ok (.if_icmp .ge 50, 3) := by decide +kernel
theorem dX1_insert_68 : decode cX1_insert 68 = .ok (.aload_n 0, 1) := by decide +kernel
theorem dX1_insert_69 : decode cX1_insert 69 = .ok (.getfield 16, 3) := by decide +kernel
theorem dX1_insert_72 : decode cX1_insert 72 = .ok (.iload 5, 2) := by decide +kernel
theorem dX1_insert_74 : decode cX1_insert 74 = .ok (.iconst 1, 1) := by decide +kernel
theorem dX1_insert_75 : decode cX1_insert 75 = .ok (.isub, 1) := by decide +kernel
theorem dX1_insert_76 : decode cX1_insert 76 = .ok (.iload_n 3, 1) := by decide +kernel
theorem dX1_insert_77 : decode cX1_insert 77 = .ok (.invokevirtual 51, 3) := by decide +kernel
theorem dX1_insert_80 : decode cX1_insert 80 = .ok (.istore_n 3, 1) := by decide +kernel
theorem dX1_insert_81 : decode cX1_insert 81 = .ok (.aload_n 0, 1) := by decide +kernel
theorem dX1_insert_82 : decode cX1_insert 82 = .ok (.getfield 16, 3) := by decide +kernel
theorem dX1_insert_85 : decode cX1_insert 85 = .ok (.iload 5, 2) := by decide +kernel
theorem dX1_insert_87 : decode cX1_insert 87 = .ok (.iload_n 3, 1) := by decide +kernel
theorem dX1_insert_88 : decode cX1_insert 88 = .ok (.invokevirtual 28, 3) := by decide +kernel
theorem dX1_insert_91 : decode cX1_insert 91 = .ok (.aload_n 0, 1) := by decide +kernel
theorem dX1_insert_92 : decode cX1_insert 92 = .ok (.getfield 16, 3) := by decide +kernel
theorem dX1_insert_95 : decode cX1_insert 95 = .ok (.getfield 34, 3) := by decide +kernel
theorem dX1_insert_98 : decode cX1_insert 98 = .ok (.if_icmp .gt 4, 3) := by decide +kernel
theorem dX1_insert_101 : decode cX1_insert 101 = .ok (.return_, 1) := by decide +kernel
theorem dX1_insert_102 : decode cX1_insert 102 = .ok (.aload_n 0, 1) := by decide +kernel
theorem dX1_insert_103 : decode cX1_insert 103 = .ok (.iload 5, 2) := by decide +kernel
theorem dX1_insert_105 : decode cX1_insert 105 = .ok (.iload_n 3, 1) := by decide +kernel
theorem dX1_insert_106 : decode cX1_insert 106 = .ok (.invokevirtual 47, 3) := by decide +kernel
theorem dX1_insert_109 : decode cX1_insert 109 = .ok (.iinc 5 1, 3) := by decide +kernel
theorem dX1_insert_112 : decode cX1_insert 112 = .ok (.goto (-51), 3) := by decide +kernel
theorem dX1_insert_115 : decode cX1_insert 115 = .ok (.return_, 1) := by decide +kernel
set_option maxRecDepth 20000 in
theorem ggX1_insert_X1_addToLeaf : GoodIn wsX1_insert wsX1_addToLeaf := goodIn_r _ [6, 1, 7, 8, 9, 10, 11, 12, 13, 14, 15, 16, 17, 18, 19, 20, 21, 22, 23, 24, 25, 26, 27, 28, 29, 30, 31, 32, 33, 34, 35, 36, 37, 38, 39, 40, 41, 42, 43, 44, 45, 46, 47, 48, 49, 50, 51, 52, 53, 54, 55, 56, 57, 58, 59, 60, 61, 62, 63, 64, 65, 66, 67, 68, 69, 70, 71, 72, 73, 74, 75, 76, 77, 78, 79, 80, 81, 82, 83, 84, 85, 86, 87, 88, 89, 90, 91, 92, 93, 94, 95, 96, 97, 98, 99, 100, 101, 102, 103, 104, 105, 106, 107, 108, 109, 110, 111, 112, 113, 114, 115, 116, 117, 118, 119, 120, 121, 122, 123, 124, 125, 126, 127, 128, 129, 130, 131, 132, 133, 134, 135, 136, 137, 138, 139, 140, 141, 142, 143, 144, 145, 146, 147, 148, 149, 150, 151, 152, 298, 299, 300, 301, 302, 303, 304, 305, 306, 307, 308, 309, 310, 311, 312, 313, 314, 315, 316, 317, 318] (by decide +kernel) (by decide +kernel)
set_option maxRecDepth 20000 in
theorem ggX1_insert_X1_giveLeft : GoodIn wsX1_insert wsX1_giveLeft := goodIn_r _ [190, 1, 191, 192, 193, 135, 194, 195, 196, 197, 198, 199, 161, 133, 134, 136, 137, 138, 139, 140, 15, 16, 17, 18, 19, 141, 27, 28, 29, 30, 31, 32, 33, 34, 35, 36, 37, 38, 39, 40, 41, 42, 200, 201, 202, 118, 203, 120, 204, 163, 164, 165, 121, 157, 158, 159, 160, 162, 205, 167, 168, 169, 206, 207, 171, 172, 173, 174, 175, 176, 21, 22, 11, 23, 13, 24, 25, 14, 26, 177, 178, 179, 180, 181, 182, 183, 184, 46, 185, 52, 186, 49, 50, 51, 208, 209, 210, 5, 211, 212, 132, 213, 214, 215, 216, 217, 218, 219, 220, 221, 222, 223, 224, 225, 226, 227, 112, 86, 113, 228, 85, 87, 229, 230, 100, 231, 232, 233, 127, 128, 234, 235, 236, 111, 114, 68, 69, 70, 237, 238, 239, 240, 241, 242, 243, 244, 245, 246, 247, 248, 249, 250, 298, 299, 300, 301, 302, 303, 304, 305, 306, 307, 308, 309, 312, 313, 314, 316, 317, 310, 311, 315] (by decide +kernel) (by decide +kernel)
set_option maxRecDepth 20000 in
theorem ggX1_insert_X1_giveRight : GoodIn wsX1_insert wsX1_giveRight := goodIn_r _ [254, 1, 255, 256, 257, 135, 258, 195, 196, 197, 198, 199, 161, 133, 134, 136, 137, 138, 139, 140, 15, 16, 17, 18, 19, 141, 27, 28, 29, 30, 31, 32, 33, 34, 35, 36, 37, 38, 39, 40, 41, 42, 200, 201, 202, 118, 203, 120, 204, 163, 164, 165, 121, 166, 167, 168, 169, 162, 206, 158, 159, 160, 205, 207, 171, 172, 173, 174, 175, 176, 21, 22, 11, 23, 13, 24, 25, 14, 26, 177, 178, 179, 180, 181, 182, 183, 184, 46, 185, 52, 186, 49, 50, 51, 208, 209, 210, 5, 211, 212, 132, 213, 214, 215, 216, 217, 218, 219, 220, 221, 222, 223, 224, 225, 226, 227, 112, 86, 113, 228, 85, 87, 229, 230, 100, 231, 232, 233, 127, 128, 234, 235, 236, 111, 114, 68, 69, 70, 237, 238, 239, 240, 241, 242, 243, 244, 245, 246, 247, 248, 249, 250, 298, 299, 300, 301, 302, 303, 304, 305, 306, 307, 308, 309, 312, 313, 314, 316, 317, 310, 311, 315] (by decide +kernel) (by decide +kernel)
set_option maxRecDepth 20000 in
theorem ggX1_insert_X1_split : GoodIn wsX1_insert wsX1_split := goodIn_r _ [262, 1, 263, 264, 265, 266, 5, 267, 268, 269, 86, 270, 206, 158, 159, 135, 160, 161, 133, 134, 136, 137, 138, 139, 140, 15, 16, 17, 18, 19, 141, 27, 28, 29, 30, 31, 32, 33, 34, 35, 36, 37, 38, 39, 40, 41, 42, 162, 163, 164, 118, 165, 120, 121, 205, 167, 168, 169, 207, 171, 172, 173, 174, 175, 176, 21, 22, 11, 23, 13, 24, 25, 14, 26, 177, 178, 179, 180, 181, 182, 183, 184, 46, 185, 52, 186, 49, 50, 51, 271, 272, 273, 274, 195, 275, 276, 277, 278, 279, 241, 242, 131, 280, 281, 282, 283, 65, 66, 284, 285, 286, 287, 75, 76, 77, 78, 79, 80, 81, 82, 83, 84, 85, 87, 88, 89, 90, 91, 92, 93, 94, 95, 96, 97, 98, 99, 100, 101, 102, 103, 104, 105, 106, 107, 108, 109, 110, 111, 112, 113, 114, 68, 69, 70, 288, 289, 290, 291, 292, 293, 294, 295, 296, 116, 117, 119, 122, 123, 124, 125, 126, 127, 128, 129, 130, 217, 218, 219, 220, 221, 222, 223, 224, 225, 226, 227, 228, 229, 230, 231, 232, 233, 234, 235, 236, 237, 238, 239, 240, 57, 58, 59, 60, 61, 62, 63, 64, 67, 71, 72, 73, 74, 132, 115, 297, 197, 198, 199, 200, 201, 202, 203, 204, 142, 143, 144, 145, 146, 298, 299, 300, 301, 302, 303, 304, 305, 306, 307, 308, 309, 312, 313, 314, 316, 317, 310, 311, 315] (by decide +kernel) (by decide +kernel)
set_option maxRecDepth 20000 in
theorem ggX1_insert_X7_pageBytes : GoodIn wsX1_insert wsX7_pageBytes := goodIn_r _ [156, 157, 158, 159, 135, 160, 161, 133, 134, 136, 137, 138, 139, 140, 15, 16, 17, 18, 19, 141, 27, 28, 29, 30, 31, 32, 33, 34, 35, 36, 37, 38, 39, 40, 41, 42, 162, 163, 164, 118, 165, 120, 121, 166, 167, 168, 169, 170, 171, 172, 173, 174, 175, 176, 21, 22, 11, 23, 13, 24, 25, 14, 26, 177, 178, 179, 180, 181, 182, 183, 184, 46, 185, 52, 186, 49, 50, 51, 302, 303, 304, 305, 306, 307, 308, 309, 312, 313, 314, 316, 317, 310, 311, 315] (by decide +kernel) (by decide +kernel)
set_option maxRecDepth 20000 in
theorem ggX1_insert_X7_parentOf : GoodIn wsX1_insert wsX7_parentOf := goodIn_r _ [199, 161, 133, 134, 135, 136, 137, 138, 139, 140, 15, 16, 17, 18, 19, 141, 27, 28, 29, 30, 31, 32, 33, 34, 35, 36, 37, 38, 39, 40, 41, 42, 200, 201, 202, 118, 203, 120, 204, 163, 164, 165, 121, 302, 303, 304, 305, 306, 307, 308, 309, 312, 313, 314, 316, 317] (by decide +kernel) (by decide +kernel)
def wp_X1_insert_61 (zd : Nat) (a0 : Nat) (y4 : Int32) (K : FT → Prop)  (C61 : Int32 × Int32 × FT × Nat × Nat → Prop) : Int32 × Int32 × FT × Nat × Nat → Prop := fun s9 => match s9 with
  | (y3, y5, f, bc, bs) => ((y4 ≤ y5 → K f) ∧
 (¬ (y4 ≤ y5) → gA f a0 4 0 fun a_2 => isO f a_2 10 ∧ wp_X7_parentOf a_2 (y5 - (1 : Int32)) y3 f (fun r_4 => gA f a0 4 0 fun a_5 => isO f a_5 10 ∧ wp_X7_pageBytes a_5 y5 r_4 f (fun r_7 => gA f a0 4 0 fun a_8 => gI f a_8 10 7 fun v_10 => ((v_10 < r_7 → ∃ ga_15 gb_16 : Nat, ga_15 ≤ bc ∧ gb_16 ≤ bs ∧ isO f a0 4 ∧ wp_X1_split zd a0 y5 r_4 f ga_15 gb_16 (fun f_14 => ∀ v_19 : Int32, v_19 = y5 + 1 → C61 (r_4, v_19, f_14, (bc - ga_15), (bs - gb_16)))) ∧
 (¬ (v_10 < r_7) → K f))))))
def wp_X1_insert_58 (zd : Nat) (a0 : Nat) (y3 : Int32) (y4 : Int32) (f : FT) (bc bs : Nat) (K : FT → Prop)  : Prop :=
  ∃ n_21, loopW (wp_X1_insert_61 zd a0 y4 K) n_21 (y3, (1 : Int32), f, bc, bs)
def wp_X1_insert (zd : Nat) (a0 : Nat) (a1 : Nat) (x2 : Int32) (f : FT) (mc ms : Nat) (K : FT → Prop) : Prop :=
  ∃ ga_24 gb_25 : Nat, ga_24 ≤ mc ∧ gb_25 ≤ ms ∧ isO f a0 4 ∧ wp_X1_addToLeaf zd a0 a1 x2 f ga_24 gb_25 (fun r_22 f_23 => gA f_23 a0 4 0 fun a_28 => isO f_23 a_28 10 ∧ wp_X7_pageBytes a_28 (0 : Int32) r_22 f_23 (fun r_30 => gA f_23 a0 4 0 fun a_31 => gI f_23 a_31 10 7 fun v_33 => ((v_33 < r_30 → gA f_23 a0 4 0 fun a_36 => gI f_23 a_36 10 6 fun v_38 => ∃ ga_42 gb_43 : Nat, ga_42 ≤ (mc - ga_24) ∧ gb_43 ≤ (ms - gb_25) ∧ isO f_23 a0 4 ∧ wp_X1_giveLeft a0 r_22 f_23 ga_42 gb_43 (fun r_40 f_41 => ((¬ r_40 = (0 : Int32) → wp_X1_insert_58 zd a0 r_22 v_38 f_41 ((mc - ga_24) - ga_42) ((ms - gb_25) - gb_43) K) ∧
 (r_40 = (0 : Int32) → ∃ ga_49 gb_50 : Nat, ga_49 ≤ ((mc - ga_24) - ga_42) ∧ gb_50 ≤ ((ms - gb_25) - gb_43) ∧ isO f_41 a0 4 ∧ wp_X1_giveRight a0 r_22 f_41 ga_49 gb_50 (fun r_47 f_48 => ((¬ r_47 = (0 : Int32) → wp_X1_insert_58 zd a0 r_22 v_38 f_48 (((mc - ga_24) - ga_42) - ga_49) (((ms - gb_25) - gb_43) - gb_50) K) ∧
 (r_47 = (0 : Int32) → ∃ ga_56 gb_57 : Nat, ga_56 ≤ (((mc - ga_24) - ga_42) - ga_49) ∧ gb_57 ≤ (((ms - gb_25) - gb_43) - gb_50) ∧ isO f_48 a0 4 ∧ wp_X1_split zd a0 (0 : Int32) r_22 f_48 ga_56 gb_57 (fun f_55 => wp_X1_insert_58 zd a0 r_22 v_38 f_55 ((((mc - ga_24) - ga_42) - ga_49) - ga_56) ((((ms - gb_25) - gb_43) - gb_50) - gb_57) K)))))))) ∧
 (¬ (v_33 < r_30) → K f_23))))
set_option maxHeartbeats 4000000 in
set_option maxRecDepth 100000 in
theorem cc_X1_insert (l : Launch) (G : GG) {zd : Nat} (hzd : G.2.2 0 = zd) {f : FT} {sz : Nat} {a0 : Nat} {a1 : Nat} {x2 : Int32} {mc ms : Nat} {K : FT → Prop} (h : wp_X1_insert zd a0 a1 x2 f mc ms K) : Met l yX1_insert wsX1_insert ({ frames := 9, cells := mc, slots := ms, locals := 215 } : Room) (FP G [.ref a0, .ref a1, .int x2] f sz) (va_Qv (fun f9 => K f9 : FT → Prop) (FB G (fA f sz)) (fA f sz)) mc ms (fA f sz) := by
  refine Met.ofW (cc := cX1_insert) (maxL := 6) (ret := none) (by decide) rfl ?_
  intro p e s m args below meth c s₁ B hml hv
  obtain ⟨rfl, hsz, hF, hK, hZ⟩ := hv
  have hx := B.exec
  have hb := B.bytes
  have hr := B.returns
  have hts := atoms_spec (ws := wsX1_insert) B.pre
  have hown : s.vm.findClass RX1 = some m.cls := findClass_of_methodNamed B.named
  have hlocks := B.notSynchronized
  subst hsz
  have hF := hF.self (sz := s.heap.size)
  generalize hAe : fA f s.heap.size = A at hF hZ ⊢
  have hA : ∀ q : Nat, s.heap.size ≤ q → A q := fun q h => by rw [← hAe]; exact Or.inr h
  have hS : va_S A s.heap s.heap [] := va_S.rf
  have hZ9 : va_Z "java/util/ArrayList" "DEFAULTCAPACITY_EMPTY_ELEMENTDATA" "[Ljava/lang/Object;" (.ref zd) A s s.heap := by rw [← hzd]; exact hZ.1
  have hin_X1 : ∀ w ∈ wsX10, w ∈ wsX1_insert := by decide +kernel
  have hin_X7 : ∀ w ∈ wsX70, w ∈ wsX1_insert := by decide +kernel
  have hbc : 0 + mc ≤ mc := by omega
  have hbs : 0 + ms ≤ ms := by omega
  have L61 : ∀ (y4 : Int32) (j9 : Nat) (y3 : Int32) (y5 : Int32) (f : FT) (bc : Nat) (bs : Nat) (H : Heap) (locs : List Loc) (ls : Array Slot) (cs sl : Nat), loopW (wp_X1_insert_61 zd a0 y4 K ) j9 (y3, y5, f, bc, bs) → cs + bc ≤ mc → sl + bs ≤ ms → Fw G A f H → va_S A s.heap H locs → lv_has ls 6 [(0, .ref a0), (3, .int y3), (4, .int y4), (5, .int y5)] → W p l e ({ frames := 9, cells := mc, slots := ms, locals := 215 } : Room) s m ([.ref a0, .ref a1, .int x2] : List Value).toArray below meth c H locs cs sl (MQ below (va_Qv (fun f9 => K f9 : FT → Prop) (FB G A) A) ([.ref a0, .ref a1, .int x2] : List Value).toArray s mc ms A) (F0 m 61 ls []) := by
    intro y4 j9
    induction j9 with
    | zero => intro y3 y5 f bc bs H locs ls cs sl h; exact h.elim
    | succ j9 ih61 =>
      intro y3 y5 f bc bs H locs ls cs sl h hbc hbs hF hS hl
      have h : wp_X1_insert_61 zd a0 y4 K  (loopW (wp_X1_insert_61 zd a0 y4 K ) j9) (y3, y5, f, bc, bs) := h
      generalize loopW (wp_X1_insert_61 zd a0 y4 K ) j9 = C61 at ih61 h
      unfold wp_X1_insert_61 at h
      refine lv_iload hx hb dX1_insert_61 (lv_at hl 3 rfl) ?_
      refine lv_iload hx hb dX1_insert_63 (lv_at hl 2 rfl) ?_
      obtain ⟨h1, h2⟩ := h
      refine lv_icmp_ge (tgt := 115) hx hb dX1_insert_65 (by decide) (fun c_1 => ?_) (fun c_1 => ?_)
      · have h := h1 c_1
        refine W.widen (k := mc) (n := ms) (by omega) (by omega) ?_
        exact W.vret hx hb hr (fun t ht hW => ⟨⟨f, rfl, h, by rw [ht]; exact hF, FK.moved hW.alike hK⟩, hS.F ht⟩) hS.2.2 dX1_insert_115
      · have h := h2 c_1
        refine lv_aload_n hx hb dX1_insert_68 rfl (lv_at hl 0 rfl) ?_
        obtain ⟨fs_3, a_2, he_fs_3, hv_fs_3, h⟩ := h
        refine fw_get (C := RX1) (T := TX1) (N := 4) hx hb hts hin_X1 hown hK hF he_fs_3 rfl 0 (by decide) (hts (.fieldLink RX1 16 "FrontCodedIndex$Inserter" "tree" "LFrontCodedIndex$Tree;") (by decide +kernel)) (fun _ h9 => h9) hv_fs_3 dX1_insert_69 ?_
        refine lv_iload hx hb dX1_insert_72 (lv_at hl 3 rfl) ?_
        refine lv_iconst (v := (1 : Int32)) hx hb dX1_insert_74 (by decide) ?_
        refine lv_isub hx hb dX1_insert_75 ?_
        refine lv_iload_n hx hb dX1_insert_76 rfl (lv_at hl 1 rfl) ?_
        obtain ⟨⟨fs_r_4, hrc_r_4⟩, h⟩ := h
        refine fw_cV_i_p (As := [.int (y5 - (1 : Int32)), .int y3]) (rest := []) ⟨hx, hb, hml, hown, hts⟩ (cc_X7_parentOf l G h) (⟨callB_of 2 hts ggX1_insert_X7_parentOf rfl rfl rfl (hts (.initialized RX7) (by decide +kernel)) (hts (.methodLink RX1 51 yX7_parentOf) (by decide +kernel)) (by decide +kernel) ⟨Nat.le_of_ble_eq_true rfl, Nat.le_of_ble_eq_true rfl⟩, hts (.instanceMethod yX7_parentOf) (by decide +kernel), hts (.selects RX7 yX7_parentOf yX7_parentOf) (by decide +kernel)⟩) rfl hrc_r_4 hK hZ hF hS hA rfl hl.1 rfl (Nat.le_of_ble_eq_true rfl) dX1_insert_77 ⟨by show _ ≤ mc; omega, by show _ ≤ ms; omega⟩ (fun r_4 H locs h hF hS => ?_)
        simp only [Nat.add_zero]
        refine lv_istore_n (lv' := [(3, .int r_4), (0, .ref a0), (4, .int y4), (5, .int y5)]) hx hb dX1_insert_80 rfl hl (by decide) rfl (fun ls hl => ?_)
        refine lv_aload_n hx hb dX1_insert_81 rfl (lv_at hl 1 rfl) ?_
        obtain ⟨fs_6, a_5, he_fs_6, hv_fs_6, h⟩ := h
        refine fw_get (C := RX1) (T := TX1) (N := 4) hx hb hts hin_X1 hown hK hF he_fs_6 rfl 0 (by decide) (hts (.fieldLink RX1 16 "FrontCodedIndex$Inserter" "tree" "LFrontCodedIndex$Tree;") (by decide +kernel)) (fun _ h9 => h9) hv_fs_6 dX1_insert_82 ?_
        refine lv_iload hx hb dX1_insert_85 (lv_at hl 3 rfl) ?_
        refine lv_iload_n hx hb dX1_insert_87 rfl (lv_at hl 0 rfl) ?_
        obtain ⟨⟨fs_r_7, hrc_r_7⟩, h⟩ := h
        refine fw_cV_i_p (As := [.int y5, .int r_4]) (rest := []) ⟨hx, hb, hml, hown, hts⟩ (cc_X7_pageBytes l G h) (⟨callB_of 2 hts ggX1_insert_X7_pageBytes rfl rfl rfl (hts (.initialized RX7) (by decide +kernel)) (hts (.methodLink RX1 28 yX7_pageBytes) (by decide +kernel)) (by decide +kernel) ⟨Nat.le_of_ble_eq_true rfl, Nat.le_of_ble_eq_true rfl⟩, hts (.instanceMethod yX7_pageBytes) (by decide +kernel), hts (.selects RX7 yX7_pageBytes yX7_pageBytes) (by decide +kernel)⟩) rfl hrc_r_7 hK hZ hF hS hA rfl hl.1 rfl (Nat.le_of_ble_eq_true rfl) dX1_insert_88 ⟨by show _ ≤ mc; omega, by show _ ≤ ms; omega⟩ (fun r_7 H locs h hF hS => ?_)
        simp only [Nat.add_zero]
        refine lv_aload_n hx hb dX1_insert_91 rfl (lv_at hl 1 rfl) ?_
        obtain ⟨fs_9, a_8, he_fs_9, hv_fs_9, h⟩ := h
        refine fw_get (C := RX1) (T := TX1) (N := 4) hx hb hts hin_X1 hown hK hF he_fs_9 rfl 0 (by decide) (hts (.fieldLink RX1 16 "FrontCodedIndex$Inserter" "tree" "LFrontCodedIndex$Tree;") (by decide +kernel)) (fun _ h9 => h9) hv_fs_9 dX1_insert_92 ?_
        obtain ⟨fs_11, v_10, he_fs_11, hv_fs_11, h⟩ := h
        refine fw_getN (C := RX7) (T := TX7) (N := 8) hx hb hts hin_X7 hown hK hF he_fs_11 rfl 7 (by decide) (va_Nw.use rfl (hZ.2.1 (.fieldLinkNest RX1 34 "FrontCodedIndex$Tree" "capacity" "I" "FrontCodedIndex") (by decide +kernel))) (fun _ h9 => h9) hv_fs_11 dX1_insert_95 ?_
        obtain ⟨h1, h2⟩ := h
        refine lv_icmp_gt (tgt := 102) hx hb dX1_insert_98 (by decide) (fun c_12 => ?_) (fun c_12 => ?_)
        · have h := h1 c_12
          refine lv_aload_n hx hb dX1_insert_102 rfl (lv_at hl 1 rfl) ?_
          refine lv_iload hx hb dX1_insert_103 (lv_at hl 3 rfl) ?_
          refine lv_iload_n hx hb dX1_insert_105 rfl (lv_at hl 0 rfl) ?_
          obtain ⟨ga_15, gb_16, hga_ga_15, hgb_ga_15, h⟩ := h
          obtain ⟨⟨fs_u_13, hrc_u_13⟩, h⟩ := h
          refine fw_cV_v (As := [.int y5, .int r_4]) (rest := []) ⟨hx, hb, hml, hown, hts⟩ (cc_X1_split l G hzd h) (⟨callB_of 2 hts ggX1_insert_X1_split rfl rfl rfl (hts (.initialized RX1) (by decide +kernel)) (hts (.methodLink RX1 47 yX1_split) (by decide +kernel)) (by decide +kernel) ⟨Nat.le_of_ble_eq_true rfl, Nat.le_of_ble_eq_true rfl⟩, hts (.instanceMethod yX1_split) (by decide +kernel), hts (.selects RX1 yX1_split yX1_split) (by decide +kernel)⟩) rfl hrc_u_13 hK hZ hF hS hA rfl hl.1 rfl (Nat.le_of_ble_eq_true rfl) dX1_insert_106 ⟨by show _ ≤ mc; omega, by show _ ≤ ms; omega⟩ (fun f_14 H locs h hF hS => ?_)
          obtain ⟨cs_17, hcs⟩ : ∃ z, z = (cs + ga_15) := ⟨_, rfl⟩; obtain ⟨sl_18, hsl⟩ : ∃ z, z = (sl + gb_16) := ⟨_, rfl⟩
          have hbc : cs_17 + (bc - ga_15) ≤ mc := by omega
          have hbs : sl_18 + (bs - gb_16) ≤ ms := by omega
          refine W.widen (k := cs_17) (n := sl_18) (by omega) (by omega) ?_
          clear hcs hsl
          obtain ⟨v_19, e_20⟩ : ∃ y : Int32, y = y5 + 1 := ⟨_, rfl⟩
          have h := h v_19 e_20
          refine lv_iinc (v := v_19) (lv' := [(5, .int v_19), (3, .int r_4), (0, .ref a0), (4, .int y4)]) hx hb dX1_insert_109 hl (k := 3) rfl (by rw [e_20]; rfl) (by decide) rfl (fun ls hl => ?_)
          refine lv_goto (tgt := 61) hx hb dX1_insert_112 (by decide) ?_
          exact ih61 r_4 v_19 f_14 (bc - ga_15) (bs - gb_16) _ _ _ _ _ h hbc hbs hF hS (lv_sub hl [2, 1, 3, 0] rfl)
        · have h := h2 c_12
          refine W.widen (k := mc) (n := ms) (by omega) (by omega) ?_
          exact W.vret hx hb hr (fun t ht hW => ⟨⟨f, rfl, h, by rw [ht]; exact hF, FK.moved hW.alike hK⟩, hS.F ht⟩) hS.2.2 dX1_insert_101
  have J58 : ∀ (y3 : Int32) (y4 : Int32) (f : FT) (bc : Nat) (bs : Nat) (H : Heap) (locs : List Loc) (ls : Array Slot) (cs sl : Nat), wp_X1_insert_58 zd a0 y3 y4 f bc bs K  → cs + bc ≤ mc → sl + bs ≤ ms → Fw G A f H → va_S A s.heap H locs → lv_has ls 6 [(0, .ref a0), (3, .int y3), (4, .int y4)] → W p l e ({ frames := 9, cells := mc, slots := ms, locals := 215 } : Room) s m ([.ref a0, .ref a1, .int x2] : List Value).toArray below meth c H locs cs sl (MQ below (va_Qv (fun f9 => K f9 : FT → Prop) (FB G A) A) ([.ref a0, .ref a1, .int x2] : List Value).toArray s mc ms A) (F0 m 58 ls []) := by
    intro y3 y4 f bc bs H locs ls cs sl h hbc hbs hF hS hl
    unfold wp_X1_insert_58 at h
    refine lv_iconst (v := (1 : Int32)) hx hb dX1_insert_58 (by decide) ?_
    refine lv_istore (lv' := [(5, .int (1 : Int32)), (0, .ref a0), (3, .int y3), (4, .int y4)]) hx hb dX1_insert_59 hl (by decide) rfl (fun ls hl => ?_)
    obtain ⟨n_21, h⟩ := h
    exact L61 y4 n_21 y3 (1 : Int32) f bc bs _ _ _ _ _ h hbc hbs hF hS (lv_sub hl [1, 2, 3, 0] rfl)
  have hl := lv_entry ([.ref a0, .ref a1, .int x2]) (n := 6) (Nat.le_of_ble_eq_true rfl)
  rw [lg_entry_eq]
  generalize (lg_sl ([.ref a0, .ref a1, .int x2]) ++ List.replicate (6 - (lg_sl ([.ref a0, .ref a1, .int x2])).length) Slot.unset).toArray = ls at hl ⊢
  have hl : lv_has ls 6 [(0, .ref a0), (1, .ref a1), (2, .int x2)] := hl
  unfold wp_X1_insert at h
  refine lv_aload_n hx hb dX1_insert_0 rfl (lv_at hl 0 rfl) ?_
  refine lv_aload_n hx hb dX1_insert_1 rfl (lv_at hl 1 rfl) ?_
  refine lv_iload_n hx hb dX1_insert_2 rfl (lv_at hl 2 rfl) ?_
  obtain ⟨ga_24, gb_25, hga_ga_24, hgb_ga_24, h⟩ := h
  obtain ⟨⟨fs_r_22, hrc_r_22⟩, h⟩ := h
  refine fw_cV_i (As := [.ref a1, .int x2]) (rest := []) ⟨hx, hb, hml, hown, hts⟩ (cc_X1_addToLeaf l G hzd h) (⟨callB_of 2 hts ggX1_insert_X1_addToLeaf rfl rfl rfl (hts (.initialized RX1) (by decide +kernel)) (hts (.methodLink RX1 24 yX1_addToLeaf) (by decide +kernel)) (by decide +kernel) ⟨Nat.le_of_ble_eq_true rfl, Nat.le_of_ble_eq_true rfl⟩, hts (.instanceMethod yX1_addToLeaf) (by decide +kernel), hts (.selects RX1 yX1_addToLeaf yX1_addToLeaf) (by decide +kernel)⟩) rfl hrc_r_22 hK hZ hF hS hA rfl hl.1 rfl (Nat.le_of_ble_eq_true rfl) dX1_insert_3 ⟨by show _ ≤ mc; omega, by show _ ≤ ms; omega⟩ (fun r_22 f_23 H locs h hF hS => ?_)
  obtain ⟨cs_26, hcs⟩ : ∃ z, z = (0 + ga_24) := ⟨_, rfl⟩; obtain ⟨sl_27, hsl⟩ : ∃ z, z = (0 + gb_25) := ⟨_, rfl⟩
  have hbc : cs_26 + (mc - ga_24) ≤ mc := by omega
  have hbs : sl_27 + (ms - gb_25) ≤ ms := by omega
  refine W.widen (k := cs_26) (n := sl_27) (by omega) (by omega) ?_
  clear hcs hsl
  refine lv_istore_n (lv' := [(3, .int r_22), (0, .ref a0), (1, .ref a1), (2, .int x2)]) hx hb dX1_insert_6 rfl hl (by decide) rfl (fun ls hl => ?_)
  refine lv_aload_n hx hb dX1_insert_7 rfl (lv_at hl 1 rfl) ?_
  obtain ⟨fs_29, a_28, he_fs_29, hv_fs_29, h⟩ := h
  refine fw_get (C := RX1) (T := TX1) (N := 4) hx hb hts hin_X1 hown hK hF he_fs_29 rfl 0 (by decide) (hts (.fieldLink RX1 16 "FrontCodedIndex$Inserter" "tree" "LFrontCodedIndex$Tree;") (by decide +kernel)) (fun _ h9 => h9) hv_fs_29 dX1_insert_8 ?_
  refine lv_iconst (v := (0 : Int32)) hx hb dX1_insert_11 (by decide) ?_
  refine lv_iload_n hx hb dX1_insert_12 rfl (lv_at hl 0 rfl) ?_
  obtain ⟨⟨fs_r_30, hrc_r_30⟩, h⟩ := h
  refine fw_cV_i_p (As := [.int (0 : Int32), .int r_22]) (rest := []) ⟨hx, hb, hml, hown, hts⟩ (cc_X7_pageBytes l G h) (⟨callB_of 2 hts ggX1_insert_X7_pageBytes rfl rfl rfl (hts (.initialized RX7) (by decide +kernel)) (hts (.methodLink RX1 28 yX7_pageBytes) (by decide +kernel)) (by decide +kernel) ⟨Nat.le_of_ble_eq_true rfl, Nat.le_of_ble_eq_true rfl⟩, hts (.instanceMethod yX7_pageBytes) (by decide +kernel), hts (.selects RX7 yX7_pageBytes yX7_pageBytes) (by decide +kernel)⟩) rfl hrc_r_30 hK hZ hF hS hA rfl hl.1 rfl (Nat.le_of_ble_eq_true rfl) dX1_insert_13 ⟨by show _ ≤ mc; omega, by show _ ≤ ms; omega⟩ (fun r_30 H locs h hF hS => ?_)
  simp only [Nat.add_zero]
  refine lv_aload_n hx hb dX1_insert_16 rfl (lv_at hl 1 rfl) ?_
  obtain ⟨fs_32, a_31, he_fs_32, hv_fs_32, h⟩ := h
  refine fw_get (C := RX1) (T := TX1) (N := 4) hx hb hts hin_X1 hown hK hF he_fs_32 rfl 0 (by decide) (hts (.fieldLink RX1 16 "FrontCodedIndex$Inserter" "tree" "LFrontCodedIndex$Tree;") (by decide +kernel)) (fun _ h9 => h9) hv_fs_32 dX1_insert_17 ?_
  obtain ⟨fs_34, v_33, he_fs_34, hv_fs_34, h⟩ := h
  refine fw_getN (C := RX7) (T := TX7) (N := 8) hx hb hts hin_X7 hown hK hF he_fs_34 rfl 7 (by decide) (va_Nw.use rfl (hZ.2.1 (.fieldLinkNest RX1 34 "FrontCodedIndex$Tree" "capacity" "I" "FrontCodedIndex") (by decide +kernel))) (fun _ h9 => h9) hv_fs_34 dX1_insert_20 ?_
  obtain ⟨h1, h2⟩ := h
  refine lv_icmp_gt (tgt := 27) hx hb dX1_insert_23 (by decide) (fun c_35 => ?_) (fun c_35 => ?_)
  · have h := h1 c_35
    refine lv_aload_n hx hb dX1_insert_27 rfl (lv_at hl 1 rfl) ?_
    obtain ⟨fs_37, a_36, he_fs_37, hv_fs_37, h⟩ := h
    refine fw_get (C := RX1) (T := TX1) (N := 4) hx hb hts hin_X1 hown hK hF he_fs_37 rfl 0 (by decide) (hts (.fieldLink RX1 16 "FrontCodedIndex$Inserter" "tree" "LFrontCodedIndex$Tree;") (by decide +kernel)) (fun _ h9 => h9) hv_fs_37 dX1_insert_28 ?_
    obtain ⟨fs_39, v_38, he_fs_39, hv_fs_39, h⟩ := h
    refine fw_getN (C := RX7) (T := TX7) (N := 8) hx hb hts hin_X7 hown hK hF he_fs_39 rfl 6 (by decide) (va_Nw.use rfl (hZ.2.1 (.fieldLinkNest RX1 37 "FrontCodedIndex$Tree" "tierTotal" "I" "FrontCodedIndex") (by decide +kernel))) (fun _ h9 => h9) hv_fs_39 dX1_insert_31 ?_
    refine lv_istore (lv' := [(4, .int v_38), (3, .int r_22), (0, .ref a0), (1, .ref a1), (2, .int x2)]) hx hb dX1_insert_34 hl (by decide) rfl (fun ls hl => ?_)
    refine lv_aload_n hx hb dX1_insert_36 rfl (lv_at hl 2 rfl) ?_
    refine lv_iload_n hx hb dX1_insert_37 rfl (lv_at hl 1 rfl) ?_
    obtain ⟨ga_42, gb_43, hga_ga_42, hgb_ga_42, h⟩ := h
    obtain ⟨⟨fs_r_40, hrc_r_40⟩, h⟩ := h
    refine fw_cV_i (As := [.int r_22]) (rest := []) ⟨hx, hb, hml, hown, hts⟩ (cc_X1_giveLeft l G h) (⟨callB_of 1 hts ggX1_insert_X1_giveLeft rfl rfl rfl (hts (.initialized RX1) (by decide +kernel)) (hts (.methodLink RX1 40 yX1_giveLeft) (by decide +kernel)) (by decide +kernel) ⟨Nat.le_of_ble_eq_true rfl, Nat.le_of_ble_eq_true rfl⟩, hts (.instanceMethod yX1_giveLeft) (by decide +kernel), hts (.selects RX1 yX1_giveLeft yX1_giveLeft) (by decide +kernel)⟩) rfl hrc_r_40 hK hZ hF hS hA rfl hl.1 rfl (Nat.le_of_ble_eq_true rfl) dX1_insert_38 ⟨by show _ ≤ mc; omega, by show _ ≤ ms; omega⟩ (fun r_40 f_41 H locs h hF hS => ?_)
    obtain ⟨cs_44, hcs⟩ : ∃ z, z = (cs_26 + ga_42) := ⟨_, rfl⟩; obtain ⟨sl_45, hsl⟩ : ∃ z, z = (sl_27 + gb_43) := ⟨_, rfl⟩
    have hbc : cs_44 + ((mc - ga_24) - ga_42) ≤ mc := by omega
    have hbs : sl_45 + ((ms - gb_25) - gb_43) ≤ ms := by omega
    refine W.widen (k := cs_44) (n := sl_45) (by omega) (by omega) ?_
    clear hcs hsl
    obtain ⟨h1, h2⟩ := h
    refine lv_if_ne (tgt := 58) hx hb dX1_insert_41 (by decide) (fun c_46 => ?_) (fun c_46 => ?_)
    · have h := h1 c_46
      exact J58 r_22 v_38 f_41 ((mc - ga_24) - ga_42) ((ms - gb_25) - gb_43) _ _ _ _ _ h hbc hbs hF hS (lv_sub hl [2, 1, 0] rfl)
    · have h := h2 c_46
      refine lv_aload_n hx hb dX1_insert_44 rfl (lv_at hl 2 rfl) ?_
      refine lv_iload_n hx hb dX1_insert_45 rfl (lv_at hl 1 rfl) ?_
      obtain ⟨ga_49, gb_50, hga_ga_49, hgb_ga_49, h⟩ := h
      obtain ⟨⟨fs_r_47, hrc_r_47⟩, h⟩ := h
      refine fw_cV_i (As := [.int r_22]) (rest := []) ⟨hx, hb, hml, hown, hts⟩ (cc_X1_giveRight l G h) (⟨callB_of 1 hts ggX1_insert_X1_giveRight rfl rfl rfl (hts (.initialized RX1) (by decide +kernel)) (hts (.methodLink RX1 44 yX1_giveRight) (by decide +kernel)) (by decide +kernel) ⟨Nat.le_of_ble_eq_true rfl, Nat.le_of_ble_eq_true rfl⟩, hts (.instanceMethod yX1_giveRight) (by decide +kernel), hts (.selects RX1 yX1_giveRight yX1_giveRight) (by decide +kernel)⟩) rfl hrc_r_47 hK hZ hF hS hA rfl hl.1 rfl (Nat.le_of_ble_eq_true rfl) dX1_insert_46 ⟨by show _ ≤ mc; omega, by show _ ≤ ms; omega⟩ (fun r_47 f_48 H locs h hF hS => ?_)
      obtain ⟨cs_51, hcs⟩ : ∃ z, z = (cs_44 + ga_49) := ⟨_, rfl⟩; obtain ⟨sl_52, hsl⟩ : ∃ z, z = (sl_45 + gb_50) := ⟨_, rfl⟩
      have hbc : cs_51 + (((mc - ga_24) - ga_42) - ga_49) ≤ mc := by omega
      have hbs : sl_52 + (((ms - gb_25) - gb_43) - gb_50) ≤ ms := by omega
      refine W.widen (k := cs_51) (n := sl_52) (by omega) (by omega) ?_
      clear hcs hsl
      obtain ⟨h1, h2⟩ := h
      refine lv_if_ne (tgt := 58) hx hb dX1_insert_49 (by decide) (fun c_53 => ?_) (fun c_53 => ?_)
      · have h := h1 c_53
        exact J58 r_22 v_38 f_48 (((mc - ga_24) - ga_42) - ga_49) (((ms - gb_25) - gb_43) - gb_50) _ _ _ _ _ h hbc hbs hF hS (lv_sub hl [2, 1, 0] rfl)
      · have h := h2 c_53
        refine lv_aload_n hx hb dX1_insert_52 rfl (lv_at hl 2 rfl) ?_
        refine lv_iconst (v := (0 : Int32)) hx hb dX1_insert_53 (by decide) ?_
        refine lv_iload_n hx hb dX1_insert_54 rfl (lv_at hl 1 rfl) ?_
        obtain ⟨ga_56, gb_57, hga_ga_56, hgb_ga_56, h⟩ := h
        obtain ⟨⟨fs_u_54, hrc_u_54⟩, h⟩ := h
        refine fw_cV_v (As := [.int (0 : Int32), .int r_22]) (rest := []) ⟨hx, hb, hml, hown, hts⟩ (cc_X1_split l G hzd h) (⟨callB_of 2 hts ggX1_insert_X1_split rfl rfl rfl (hts (.initialized RX1) (by decide +kernel)) (hts (.methodLink RX1 47 yX1_split) (by decide +kernel)) (by decide +kernel) ⟨Nat.le_of_ble_eq_true rfl, Nat.le_of_ble_eq_true rfl⟩, hts (.instanceMethod yX1_split) (by decide +kernel), hts (.selects RX1 yX1_split yX1_split) (by decide +kernel)⟩) rfl hrc_u_54 hK hZ hF hS hA rfl hl.1 rfl (Nat.le_of_ble_eq_true rfl) dX1_insert_55 ⟨by show _ ≤ mc; omega, by show _ ≤ ms; omega⟩ (fun f_55 H locs h hF hS => ?_)
        obtain ⟨cs_58, hcs⟩ : ∃ z, z = (cs_51 + ga_56) := ⟨_, rfl⟩; obtain ⟨sl_59, hsl⟩ : ∃ z, z = (sl_52 + gb_57) := ⟨_, rfl⟩
        have hbc : cs_58 + ((((mc - ga_24) - ga_42) - ga_49) - ga_56) ≤ mc := by omega
        have hbs : sl_59 + ((((ms - gb_25) - gb_43) - gb_50) - gb_57) ≤ ms := by omega
        refine W.widen (k := cs_58) (n := sl_59) (by omega) (by omega) ?_
        clear hcs hsl
        exact J58 r_22 v_38 f_55 ((((mc - ga_24) - ga_42) - ga_49) - ga_56) ((((ms - gb_25) - gb_43) - gb_50) - gb_57) _ _ _ _ _ h hbc hbs hF hS (lv_sub hl [2, 1, 0] rfl)
  · have h := h2 c_35
    refine W.widen (k := mc) (n := ms) (by omega) (by omega) ?_
    exact W.vret hx hb hr (fun t ht hW => ⟨⟨f_23, rfl, h, by rw [ht]; exact hF, FK.moved hW.alike hK⟩, hS.F ht⟩) hS.2.2 dX1_insert_26
theorem dX2_copyFrom_0 : decode cX2_copyFrom 0 = .ok (.aload_n 0, 1) := by decide +kernel
theorem dX2_copyFrom_1 : decode cX2_copyFrom 1 = .ok (.iconst 0, 1) := by decide +kernel
theorem dX2_copyFrom_2 : decode cX2_copyFrom 2 = .ok (.putfield 13, 3) := by decide +kernel
theorem dX2_copyFrom_5 : decode cX2_copyFrom 5 = .ok (.iconst 0, 1) := by decide +kernel
theorem dX2_copyFrom_6 : decode cX2_copyFrom 6 = .ok (.istore_n 2, 1) := by decide +kernel
theorem dX2_copyFrom_7 : decode cX2_copyFrom 7 = .ok (.iload_n 2, 1) := by decide +kernel
theorem dX2_copyFrom_8 : decode cX2_copyFrom 8 = .ok (.aload_n 1, 1) := by decide +kernel
theorem dX2_copyFrom_9 : decode cX2_copyFrom 9 = .ok (.getfield 13, 3) := by decide +kernel
theorem dX2_copyFrom_12 : decode cX2_copyFrom 12 = .ok (.if_icmp .ge 18, 3) := by decide +kernel
theorem dX2_copyFrom_15 : decode cX2_copyFrom 15 = .ok (.aload_n 0, 1) := by decide +kernel
theorem dX2_copyFrom_16 : decode cX2_copyFrom 16 = .ok (.aload_n 1, 1) := by decide +kernel
theorem dX2_copyFrom_17 : decode cX2_copyFrom 17 = .ok (.iload_n 2, 1) := by decide +kernel
theorem dX2_copyFrom_18 : decode cX2_copyFrom 18 = .ok (.invokevirtual 33, 3) := by decide +kernel
theorem dX2_copyFrom_21 : decode cX2_copyFrom 21 = .ok (.invokevirtual 37, 3) := by decide +kernel
theorem dX2_copyFrom_24 : decode cX2_copyFrom 24 = .ok (.iinc 2 1, 3) := by decide +kernel
theorem dX2_copyFrom_27 : decode cX2_copyFrom 27 = .ok (.goto (-20), 3) := by decide +kernel
theorem dX2_copyFrom_30 : decode cX2_copyFrom 30 = .ok (.return_, 1) := by decide +kernel
set_option maxRecDepth 20000 in
theorem ggX2_copyFrom_X2_append : GoodIn wsX2_copyFrom wsX2_append := goodIn_r _ [11, 1, 12, 13, 14, 5, 15, 7, 16, 17, 18, 19, 20, 21, 22, 23, 24, 25, 26, 27, 28, 29, 30, 31, 32, 33, 34, 35, 36] (by decide +kernel) (by decide +kernel)
set_option maxRecDepth 20000 in
theorem ggX2_copyFrom_X2_at : GoodIn wsX2_copyFrom wsX2_at := goodIn_r _ [6, 1, 7, 35, 36] (by decide +kernel) (by decide +kernel)
def wp_X2_copyFrom_7 (a0 : Nat) (a1 : Nat) (K : FT → Prop)  (C7 : Int32 × FT × Nat × Nat → Prop) : Int32 × FT × Nat × Nat → Prop := fun s9 => match s9 with
  | (y2, f, bc, bs) => gI f a1 5 1 fun v_1 => ((v_1 ≤ y2 → K f) ∧
 (¬ (v_1 ≤ y2) → isO f a1 5 ∧ wp_X2_at a1 y2 f (fun r_4 => ∃ ga_7 gb_8 : Nat, ga_7 ≤ bc ∧ gb_8 ≤ bs ∧ isO f a0 5 ∧ wp_X2_append a0 r_4 f ga_7 gb_8 (fun f_6 => ∀ v_11 : Int32, v_11 = y2 + 1 → C7 (v_11, f_6, (bc - ga_7), (bs - gb_8))))))
def wp_X2_copyFrom (a0 : Nat) (a1 : Nat) (f : FT) (mc ms : Nat) (K : FT → Prop) : Prop :=
  pV f a0 5 1 (.int (0 : Int32)) fun f_14 => ∃ n_15, loopW (wp_X2_copyFrom_7 a0 a1 K) n_15 ((0 : Int32), f_14, mc, ms)
set_option maxHeartbeats 4000000 in
set_option maxRecDepth 100000 in
theorem cc_X2_copyFrom (l : Launch) (G : GG) {f : FT} {sz : Nat} {a0 : Nat} {a1 : Nat} {mc ms : Nat} {K : FT → Prop} (h : wp_X2_copyFrom a0 a1 f mc ms K) : Met l yX2_copyFrom wsX2_copyFrom ({ frames := 4, cells := mc, slots := ms, locals := 106 } : Room) (FP G [.ref a0, .ref a1] f sz) (va_Qv (fun f9 => K f9 : FT → Prop) (FB G (fA f sz)) (fA f sz)) mc ms (fA f sz) := by
  refine Met.ofW (cc := cX2_copyFrom) (maxL := 3) (ret := none) (by decide) rfl ?_
  intro p e s m args below meth c s₁ B hml hv
  obtain ⟨rfl, hsz, hF, hK, hZ⟩ := hv
  have hx := B.exec
  have hb := B.bytes
  have hr := B.returns
  have hts := atoms_spec (ws := wsX2_copyFrom) B.pre
  have hown : s.vm.findClass RX2 = some m.cls := findClass_of_methodNamed B.named
  have hlocks := B.notSynchronized
  subst hsz
  have hF := hF.self (sz := s.heap.size)
  generalize hAe : fA f s.heap.size = A at hF hZ ⊢
  have hA : ∀ q : Nat, s.heap.size ≤ q → A q := fun q h => by rw [← hAe]; exact Or.inr h
  have hS : va_S A s.heap s.heap [] := va_S.rf
  have hin_X2 : ∀ w ∈ wsX20, w ∈ wsX2_copyFrom := by decide +kernel
  have hbc : 0 + mc ≤ mc := by omega
  have hbs : 0 + ms ≤ ms := by omega
  have L7 : ∀  (j9 : Nat) (y2 : Int32) (f : FT) (bc : Nat) (bs : Nat) (H : Heap) (locs : List Loc) (ls : Array Slot) (cs sl : Nat), loopW (wp_X2_copyFrom_7 a0 a1 K ) j9 (y2, f, bc, bs) → cs + bc ≤ mc → sl + bs ≤ ms → Fw G A f H → va_S A s.heap H locs → lv_has ls 3 [(0, .ref a0), (1, .ref a1), (2, .int y2)] → W p l e ({ frames := 4, cells := mc, slots := ms, locals := 106 } : Room) s m ([.ref a0, .ref a1] : List Value).toArray below meth c H locs cs sl (MQ below (va_Qv (fun f9 => K f9 : FT → Prop) (FB G A) A) ([.ref a0, .ref a1] : List Value).toArray s mc ms A) (F0 m 7 ls []) := by
    intro  j9
    induction j9 with
    | zero => intro y2 f bc bs H locs ls cs sl h; exact h.elim
    | succ j9 ih7 =>
      intro y2 f bc bs H locs ls cs sl h hbc hbs hF hS hl
      have h : wp_X2_copyFrom_7 a0 a1 K  (loopW (wp_X2_copyFrom_7 a0 a1 K ) j9) (y2, f, bc, bs) := h
      generalize loopW (wp_X2_copyFrom_7 a0 a1 K ) j9 = C7 at ih7 h
      unfold wp_X2_copyFrom_7 at h
      refine lv_iload_n hx hb dX2_copyFrom_7 rfl (lv_at hl 2 rfl) ?_
      refine lv_aload_n hx hb dX2_copyFrom_8 rfl (lv_at hl 1 rfl) ?_
      obtain ⟨fs_2, v_1, he_fs_2, hv_fs_2, h⟩ := h
      refine fw_get (C := RX2) (T := TX2) (N := 2) hx hb hts hin_X2 hown hK hF he_fs_2 rfl 1 (by decide) (hts (.fieldLink RX2 13 "FrontCodedIndex$IntRow" "count" "I") (by decide +kernel)) (fun _ h9 => h9) hv_fs_2 dX2_copyFrom_9 ?_
      obtain ⟨h1, h2⟩ := h
      refine lv_icmp_ge (tgt := 30) hx hb dX2_copyFrom_12 (by decide) (fun c_3 => ?_) (fun c_3 => ?_)
      · have h := h1 c_3
        refine W.widen (k := mc) (n := ms) (by omega) (by omega) ?_
        exact W.vret hx hb hr (fun t ht hW => ⟨⟨f, rfl, h, by rw [ht]; exact hF, FK.moved hW.alike hK⟩, hS.F ht⟩) hS.2.2 dX2_copyFrom_30
      · have h := h2 c_3
        refine lv_aload_n hx hb dX2_copyFrom_15 rfl (lv_at hl 0 rfl) ?_
        refine lv_aload_n hx hb dX2_copyFrom_16 rfl (lv_at hl 1 rfl) ?_
        refine lv_iload_n hx hb dX2_copyFrom_17 rfl (lv_at hl 2 rfl) ?_
        obtain ⟨⟨fs_r_4, hrc_r_4⟩, h⟩ := h
        refine fw_cV_i_p (As := [.int y2]) (rest := [.ref a0]) ⟨hx, hb, hml, hown, hts⟩ (cc_X2_at l G h) (⟨callB_of 1 hts ggX2_copyFrom_X2_at rfl rfl rfl (hts (.initialized RX2) (by decide +kernel)) (hts (.methodLink RX2 33 yX2_at) (by decide +kernel)) (by decide +kernel) ⟨Nat.le_of_ble_eq_true rfl, Nat.le_of_ble_eq_true rfl⟩, hts (.instanceMethod yX2_at) (by decide +kernel), hts (.selects RX2 yX2_at yX2_at) (by decide +kernel)⟩) rfl hrc_r_4 hK hZ hF hS hA rfl hl.1 rfl (Nat.le_of_ble_eq_true rfl) dX2_copyFrom_18 ⟨by show _ ≤ mc; omega, by show _ ≤ ms; omega⟩ (fun r_4 H locs h hF hS => ?_)
        simp only [Nat.add_zero]
        obtain ⟨ga_7, gb_8, hga_ga_7, hgb_ga_7, h⟩ := h
        obtain ⟨⟨fs_u_5, hrc_u_5⟩, h⟩ := h
        refine fw_cV_v (As := [.int r_4]) (rest := []) ⟨hx, hb, hml, hown, hts⟩ (cc_X2_append l G h) (⟨callB_of 1 hts ggX2_copyFrom_X2_append rfl rfl rfl (hts (.initialized RX2) (by decide +kernel)) (hts (.methodLink RX2 37 yX2_append) (by decide +kernel)) (by decide +kernel) ⟨Nat.le_of_ble_eq_true rfl, Nat.le_of_ble_eq_true rfl⟩, hts (.instanceMethod yX2_append) (by decide +kernel), hts (.selects RX2 yX2_append yX2_append) (by decide +kernel)⟩) rfl hrc_u_5 hK hZ hF hS hA rfl hl.1 rfl (Nat.le_of_ble_eq_true rfl) dX2_copyFrom_21 ⟨by show _ ≤ mc; omega, by show _ ≤ ms; omega⟩ (fun f_6 H locs h hF hS => ?_)
        obtain ⟨cs_9, hcs⟩ : ∃ z, z = (cs + ga_7) := ⟨_, rfl⟩; obtain ⟨sl_10, hsl⟩ : ∃ z, z = (sl + gb_8) := ⟨_, rfl⟩
        have hbc : cs_9 + (bc - ga_7) ≤ mc := by omega
        have hbs : sl_10 + (bs - gb_8) ≤ ms := by omega
        refine W.widen (k := cs_9) (n := sl_10) (by omega) (by omega) ?_
        clear hcs hsl
        obtain ⟨v_11, e_12⟩ : ∃ y : Int32, y = y2 + 1 := ⟨_, rfl⟩
        have h := h v_11 e_12
        refine lv_iinc (v := v_11) (lv' := [(2, .int v_11), (0, .ref a0), (1, .ref a1)]) hx hb dX2_copyFrom_24 hl (k := 2) rfl (by rw [e_12]; rfl) (by decide) rfl (fun ls hl => ?_)
        refine lv_goto (tgt := 7) hx hb dX2_copyFrom_27 (by decide) ?_
        exact ih7 v_11 f_6 (bc - ga_7) (bs - gb_8) _ _ _ _ _ h hbc hbs hF hS (lv_sub hl [1, 2, 0] rfl)
  have hl := lv_entry ([.ref a0, .ref a1]) (n := 3) (Nat.le_of_ble_eq_true rfl)
  rw [lg_entry_eq]
  generalize (lg_sl ([.ref a0, .ref a1]) ++ List.replicate (3 - (lg_sl ([.ref a0, .ref a1])).length) Slot.unset).toArray = ls at hl ⊢
  have hl : lv_has ls 3 [(0, .ref a0), (1, .ref a1)] := hl
  unfold wp_X2_copyFrom at h
  refine lv_aload_n hx hb dX2_copyFrom_0 rfl (lv_at hl 0 rfl) ?_
  refine lv_iconst (v := (0 : Int32)) hx hb dX2_copyFrom_1 (by decide) ?_
  obtain ⟨fs_13, he_fs_13, hl_fs_13, h⟩ := h
  refine fw_put (v := .int (0 : Int32)) (ty := .int) (C := RX2) (T := TX2) (N := 2) hx hb hts hin_X2 tyX2 (tyX2_ok) nmX2 hown hK hF hS he_fs_13 rfl 1 (by decide) (hts (.fieldLink RX2 13 "FrontCodedIndex$IntRow" "count" "I") (by decide +kernel)) (fun _ h9 => h9) rfl (by decide +kernel) rfl rfl hl_fs_13 dX2_copyFrom_2 (fun H locs hF hS => ?_)
  obtain ⟨f_14, hf_f_14⟩ : ∃ z, z = fup f a0 (.inr (5, fs_13.set 1 (.int (0 : Int32)))) := ⟨_, rfl⟩
  rw [← hf_f_14] at hF; have h := h f_14 hf_f_14
  refine lv_iconst (v := (0 : Int32)) hx hb dX2_copyFrom_5 (by decide) ?_
  refine lv_istore_n (lv' := [(2, .int (0 : Int32)), (0, .ref a0), (1, .ref a1)]) hx hb dX2_copyFrom_6 rfl hl (by decide) rfl (fun ls hl => ?_)
  obtain ⟨n_15, h⟩ := h
  exact L7 n_15 (0 : Int32) f_14 mc ms _ _ _ _ _ h hbc hbs hF hS (lv_sub hl [1, 2, 0] rfl)
theorem dX2_count_0 : decode cX2_count 0 = .ok (.aload_n 0, 1) := by decide +kernel
theorem dX2_count_1 : decode cX2_count 1 = .ok (.getfield 13, 3) := by decide +kernel
theorem dX2_count_4 : decode cX2_count 4 = .ok (.ireturn, 1) := by decide +kernel
def wp_X2_count (a0 : Nat) (f : FT) (K : Int32 → Prop) : Prop :=
  gI f a0 5 1 fun v_1 => K v_1
set_option maxHeartbeats 4000000 in
set_option maxRecDepth 100000 in
theorem cc_X2_count (l : Launch) (G : GG) {f : FT} {sz : Nat} {a0 : Nat} {K : Int32 → Prop} (h : wp_X2_count a0 f K) : Met l yX2_count wsX2_count ({ frames := 0, cells := 0, slots := 0, locals := 0 } : Room) (FP G [.ref a0] f sz) (va_Qi (fun r f9 => K r ∧ f9 = f : Int32 → FT → Prop) (FB G (fA f sz)) (fA f sz)) 0 0 (fA f sz) := by
  refine Met.ofW (cc := cX2_count) (maxL := 1) (ret := (some .int)) (by decide) rfl ?_
  intro p e s m args below meth c s₁ B hml hv
  obtain ⟨rfl, hsz, hF, hK, hZ⟩ := hv
  have hx := B.exec
  have hb := B.bytes
  have hr := B.returns
  have hts := atoms_spec (ws := wsX2_count) B.pre
  have hown : s.vm.findClass RX2 = some m.cls := findClass_of_methodNamed B.named
  have hlocks := B.notSynchronized
  subst hsz
  have hF := hF.self (sz := s.heap.size)
  generalize hAe : fA f s.heap.size = A at hF hZ ⊢
  have hA : ∀ q : Nat, s.heap.size ≤ q → A q := fun q h => by rw [← hAe]; exact Or.inr h
  have hS : va_S A s.heap s.heap [] := va_S.rf
  have hin_X2 : ∀ w ∈ wsX20, w ∈ wsX2_count := by decide +kernel
  have hl := lv_entry ([.ref a0]) (n := 1) (Nat.le_of_ble_eq_true rfl)
  rw [lg_entry_eq]
  generalize (lg_sl ([.ref a0]) ++ List.replicate (1 - (lg_sl ([.ref a0])).length) Slot.unset).toArray = ls at hl ⊢
  have hl : lv_has ls 1 [(0, .ref a0)] := hl
  unfold wp_X2_count at h
  refine lv_aload_n hx hb dX2_count_0 rfl (lv_at hl 0 rfl) ?_
  obtain ⟨fs_2, v_1, he_fs_2, hv_fs_2, h⟩ := h
  refine fw_get (C := RX2) (T := TX2) (N := 2) hx hb hts hin_X2 hown hK hF he_fs_2 rfl 1 (by decide) (hts (.fieldLink RX2 13 "FrontCodedIndex$IntRow" "count" "I") (by decide +kernel)) (fun _ h9 => h9) hv_fs_2 dX2_count_1 ?_
  exact W.iret (v := v_1) hx hb hr (fun t ht hW => ⟨⟨v_1, f, rfl, ⟨h, rfl⟩, by rw [ht]; exact hF, FK.moved hW.alike hK⟩, hS.F ht⟩) hS.2.2 dX2_count_4
theorem dX2_delete_0 : decode cX2_delete 0 = .ok (.iload_n 1, 1) := by decide +kernel
theorem dX2_delete_1 : decode cX2_delete 1 = .ok (.ifCond .lt 23, 3) := by decide +kernel
theorem dX2_delete_4 : decode cX2_delete 4 = .ok (.iload_n 1, 1) := by decide +kernel
theorem dX2_delete_5 : decode cX2_delete 5 = .ok (.aload_n 0, 1) := by decide +kernel
theorem dX2_delete_6 : decode cX2_delete 6 = .ok (.getfield 13, 3) := by decide +kernel
theorem dX2_delete_9 : decode cX2_delete 9 = .ok (.if_icmp .ge 15, 3) := by decide +kernel
theorem dX2_delete_12 : decode cX2_delete 12 = .ok (.aload_n 0, 1) := by decide +kernel
theorem dX2_delete_13 : decode cX2_delete 13 = .ok (.getfield 13, 3) := by decide +kernel
theorem dX2_delete_16 : decode cX2_delete 16 = .ok (.aload_n 0, 1) := by decide +kernel
theorem dX2_delete_17 : decode cX2_delete 17 = .ok (.getfield 9, 3) := by decide +kernel
theorem dX2_delete_20 : decode cX2_delete 20 = .ok (.arraylength, 1) := by decide +kernel
theorem dX2_delete_21 : decode cX2_delete 21 = .ok (.if_icmp .le 4, 3) := by decide +kernel
theorem dX2_delete_24 : decode cX2_delete 24 = .ok (.return_, 1) := by decide +kernel
theorem dX2_delete_25 : decode cX2_delete 25 = .ok (.aload_n 0, 1) := by decide +kernel
theorem dX2_delete_26 : decode cX2_delete 26 = .ok (.dup, 1) := by decide +kernel
theorem dX2_delete_27 : decode cX2_delete 27 = .ok (.getfield 13, 3) := by decide +kernel
theorem dX2_delete_30 : decode cX2_delete 30 = .ok (.iconst 1, 1) := by decide +kernel
theorem dX2_delete_31 : decode cX2_delete 31 = .ok (.isub, 1) := by decide +kernel
theorem dX2_delete_32 : decode cX2_delete 32 = .ok (.putfield 13, 3) := by decide +kernel
theorem dX2_delete_35 : decode cX2_delete 35 = .ok (.iload_n 1, 1) := by decide +kernel
theorem dX2_delete_36 : decode cX2_delete 36 = .ok (.istore_n 2, 1) := by decide +kernel
theorem dX2_delete_37 : decode cX2_delete 37 = .ok (.iload_n 2, 1) := by decide +kernel
theorem dX2_delete_38 : decode cX2_delete 38 = .ok (.aload_n 0, 1) := by decide +kernel
theorem dX2_delete_39 : decode cX2_delete 39 = .ok (.getfield 13, 3) := by decide +kernel
theorem dX2_delete_42 : decode cX2_delete 42 = .ok (.if_icmp .ge 23, 3) := by decide +kernel
theorem dX2_delete_45 : decode cX2_delete 45 = .ok (.aload_n 0, 1) := by decide +kernel
theorem dX2_delete_46 : decode cX2_delete 46 = .ok (.getfield 9, 3) := by decide +kernel
theorem dX2_delete_49 : decode cX2_delete 49 = .ok (.iload_n 2, 1) := by decide +kernel
theorem dX2_delete_50 : decode cX2_delete 50 = .ok (.aload_n 0, 1) := by decide +kernel
theorem dX2_delete_51 : decode cX2_delete 51 = .ok (.getfield 9, 3) := by decide +kernel
theorem dX2_delete_54 : decode cX2_delete 54 = .ok (.iload_n 2, 1) := by decide +kernel
theorem dX2_delete_55 : decode cX2_delete 55 = .ok (.iconst 1, 1) := by decide +kernel
theorem dX2_delete_56 : decode cX2_delete 56 = .ok (.iadd, 1) := by decide +kernel
theorem dX2_delete_57 : decode cX2_delete 57 = .ok (.iaload, 1) := by decide +kernel
theorem dX2_delete_58 : decode cX2_delete 58 = .ok (.iastore, 1) := by decide +kernel
theorem dX2_delete_59 : decode cX2_delete 59 = .ok (.iinc 2 1, 3) := by decide +kernel
theorem dX2_delete_62 : decode cX2_delete 62 = .ok (.goto (-25), 3) := by decide +kernel
theorem dX2_delete_65 : decode cX2_delete 65 = .ok (.return_, 1) := by decide +kernel
def wp_X2_delete_37 (a0 : Nat) (K : FT → Prop)  (C37 : Int32 × FT → Prop) : Int32 × FT → Prop := fun s9 => match s9 with
  | (y2, f) => gI f a0 5 1 fun v_1 => ((v_1 ≤ y2 → K f) ∧
 (¬ (v_1 ≤ y2) → gA f a0 5 0 fun a_4 => gA f a0 5 0 fun a_6 => aI f a_6 1 (y2 + (1 : Int32)) fun v_8 => sI f a_4 y2 v_8 fun f_11 => ∀ v_12 : Int32, v_12 = y2 + 1 → C37 (v_12, f_11)))
def wp_X2_delete (a0 : Nat) (x1 : Int32) (f : FT) (K : FT → Prop) : Prop :=
  ((x1 < (0 : Int32) → K f) ∧
 (¬ (x1 < (0 : Int32)) → gI f a0 5 1 fun v_15 => ((v_15 ≤ x1 → K f) ∧
 (¬ (v_15 ≤ x1) → gI f a0 5 1 fun v_18 => gA f a0 5 0 fun a_20 => aL f a_20 fun v_22 => ((v_18 ≤ v_22 → gI f a0 5 1 fun v_25 => pV f a0 5 1 (.int (v_25 - (1 : Int32))) fun f_28 => ∃ n_29, loopW (wp_X2_delete_37 a0 K) n_29 (x1, f_28)) ∧
 (¬ (v_18 ≤ v_22) → K f))))))
set_option maxHeartbeats 4000000 in
set_option maxRecDepth 100000 in
theorem cc_X2_delete (l : Launch) (G : GG) {f : FT} {sz : Nat} {a0 : Nat} {x1 : Int32} {K : FT → Prop} (h : wp_X2_delete a0 x1 f K) : Met l yX2_delete wsX2_delete ({ frames := 0, cells := 0, slots := 0, locals := 0 } : Room) (FP G [.ref a0, .int x1] f sz) (va_Qv (fun f9 => K f9 : FT → Prop) (FB G (fA f sz)) (fA f sz)) 0 0 (fA f sz) := by
  refine Met.ofW (cc := cX2_delete) (maxL := 3) (ret := none) (by decide) rfl ?_
  intro p e s m args below meth c s₁ B hml hv
  obtain ⟨rfl, hsz, hF, hK, hZ⟩ := hv
  have hx := B.exec
  have hb := B.bytes
  have hr := B.returns
  have hts := atoms_spec (ws := wsX2_delete) B.pre
  have hown : s.vm.findClass RX2 = some m.cls := findClass_of_methodNamed B.named
  have hlocks := B.notSynchronized
  subst hsz
  have hF := hF.self (sz := s.heap.size)
  generalize hAe : fA f s.heap.size = A at hF hZ ⊢
  have hA : ∀ q : Nat, s.heap.size ≤ q → A q := fun q h => by rw [← hAe]; exact Or.inr h
  have hS : va_S A s.heap s.heap [] := va_S.rf
  have hin_X2 : ∀ w ∈ wsX20, w ∈ wsX2_delete := by decide +kernel
  have L37 : ∀  (j9 : Nat) (y2 : Int32) (f : FT) (H : Heap) (locs : List Loc) (ls : Array Slot), loopW (wp_X2_delete_37 a0 K ) j9 (y2, f) → Fw G A f H → va_S A s.heap H locs → lv_has ls 3 [(0, .ref a0), (2, .int y2)] → W p l e ({ frames := 0, cells := 0, slots := 0, locals := 0 } : Room) s m ([.ref a0, .int x1] : List Value).toArray below meth c H locs 0 0 (MQ below (va_Qv (fun f9 => K f9 : FT → Prop) (FB G A) A) ([.ref a0, .int x1] : List Value).toArray s 0 0 A) (F0 m 37 ls []) := by
    intro  j9
    induction j9 with
    | zero => intro y2 f H locs ls h; exact h.elim
    | succ j9 ih37 =>
      intro y2 f H locs ls h hF hS hl
      have h : wp_X2_delete_37 a0 K  (loopW (wp_X2_delete_37 a0 K ) j9) (y2, f) := h
      generalize loopW (wp_X2_delete_37 a0 K ) j9 = C37 at ih37 h
      unfold wp_X2_delete_37 at h
      refine lv_iload_n hx hb dX2_delete_37 rfl (lv_at hl 1 rfl) ?_
      refine lv_aload_n hx hb dX2_delete_38 rfl (lv_at hl 0 rfl) ?_
      obtain ⟨fs_2, v_1, he_fs_2, hv_fs_2, h⟩ := h
      refine fw_get (C := RX2) (T := TX2) (N := 2) hx hb hts hin_X2 hown hK hF he_fs_2 rfl 1 (by decide) (hts (.fieldLink RX2 13 "FrontCodedIndex$IntRow" "count" "I") (by decide +kernel)) (fun _ h9 => h9) hv_fs_2 dX2_delete_39 ?_
      obtain ⟨h1, h2⟩ := h
      refine lv_icmp_ge (tgt := 65) hx hb dX2_delete_42 (by decide) (fun c_3 => ?_) (fun c_3 => ?_)
      · have h := h1 c_3
        exact W.vret hx hb hr (fun t ht hW => ⟨⟨f, rfl, h, by rw [ht]; exact hF, FK.moved hW.alike hK⟩, hS.F ht⟩) hS.2.2 dX2_delete_65
      · have h := h2 c_3
        refine lv_aload_n hx hb dX2_delete_45 rfl (lv_at hl 0 rfl) ?_
        obtain ⟨fs_5, a_4, he_fs_5, hv_fs_5, h⟩ := h
        refine fw_get (C := RX2) (T := TX2) (N := 2) hx hb hts hin_X2 hown hK hF he_fs_5 rfl 0 (by decide) (hts (.fieldLink RX2 9 "FrontCodedIndex$IntRow" "cells" "[I") (by decide +kernel)) (fun _ h9 => h9) hv_fs_5 dX2_delete_46 ?_
        refine lv_iload_n hx hb dX2_delete_49 rfl (lv_at hl 1 rfl) ?_
        refine lv_aload_n hx hb dX2_delete_50 rfl (lv_at hl 0 rfl) ?_
        obtain ⟨fs_7, a_6, he_fs_7, hv_fs_7, h⟩ := h
        refine fw_get (C := RX2) (T := TX2) (N := 2) hx hb hts hin_X2 hown hK hF he_fs_7 rfl 0 (by decide) (hts (.fieldLink RX2 9 "FrontCodedIndex$IntRow" "cells" "[I") (by decide +kernel)) (fun _ h9 => h9) hv_fs_7 dX2_delete_51 ?_
        refine lv_iload_n hx hb dX2_delete_54 rfl (lv_at hl 1 rfl) ?_
        refine lv_iconst (v := (1 : Int32)) hx hb dX2_delete_55 (by decide) ?_
        refine lv_iadd hx hb dX2_delete_56 ?_
        obtain ⟨n_q_9, q_9, he_q_9, hi_q_9, h⟩ := h
        refine fw_iald hx hb hK hF he_q_9 hi_q_9 dX2_delete_57 ?_
        refine lv_topi (fun v_8 e_v_8 => ?_)
        have h := h v_8 e_v_8
        obtain ⟨n_q_10, q_10, he_q_10, hi_q_10, h⟩ := h
        refine fw_iast hx hb hK hF hS he_q_10 hi_q_10 dX2_delete_58 (fun H locs hF hS => ?_)
        obtain ⟨f_11, hf_f_11⟩ : ∃ z, z = fup f a_4 (.inl (1, n_q_10, .inl (upd q_10 (y2).toNatClampNeg v_8))) := ⟨_, rfl⟩
        rw [← hf_f_11] at hF; have h := h f_11 hf_f_11
        obtain ⟨v_12, e_13⟩ : ∃ y : Int32, y = y2 + 1 := ⟨_, rfl⟩
        have h := h v_12 e_13
        refine lv_iinc (v := v_12) (lv' := [(2, .int v_12), (0, .ref a0)]) hx hb dX2_delete_59 hl (k := 1) rfl (by rw [e_13]; rfl) (by decide) rfl (fun ls hl => ?_)
        refine lv_goto (tgt := 37) hx hb dX2_delete_62 (by decide) ?_
        exact ih37 v_12 f_11 _ _ _ h hF hS (lv_sub hl [1, 0] rfl)
  have hl := lv_entry ([.ref a0, .int x1]) (n := 3) (Nat.le_of_ble_eq_true rfl)
  rw [lg_entry_eq]
  generalize (lg_sl ([.ref a0, .int x1]) ++ List.replicate (3 - (lg_sl ([.ref a0, .int x1])).length) Slot.unset).toArray = ls at hl ⊢
  have hl : lv_has ls 3 [(0, .ref a0), (1, .int x1)] := hl
  unfold wp_X2_delete at h
  refine lv_iload_n hx hb dX2_delete_0 rfl (lv_at hl 1 rfl) ?_
  obtain ⟨h1, h2⟩ := h
  refine lv_if_lt (tgt := 24) hx hb dX2_delete_1 (by decide) (fun c_14 => ?_) (fun c_14 => ?_)
  · have h := h1 c_14
    exact W.vret hx hb hr (fun t ht hW => ⟨⟨f, rfl, h, by rw [ht]; exact hF, FK.moved hW.alike hK⟩, hS.F ht⟩) hS.2.2 dX2_delete_24
  · have h := h2 c_14
    refine lv_iload_n hx hb dX2_delete_4 rfl (lv_at hl 1 rfl) ?_
    refine lv_aload_n hx hb dX2_delete_5 rfl (lv_at hl 0 rfl) ?_
    obtain ⟨fs_16, v_15, he_fs_16, hv_fs_16, h⟩ := h
    refine fw_get (C := RX2) (T := TX2) (N := 2) hx hb hts hin_X2 hown hK hF he_fs_16 rfl 1 (by decide) (hts (.fieldLink RX2 13 "FrontCodedIndex$IntRow" "count" "I") (by decide +kernel)) (fun _ h9 => h9) hv_fs_16 dX2_delete_6 ?_
    obtain ⟨h1, h2⟩ := h
    refine lv_icmp_ge (tgt := 24) hx hb dX2_delete_9 (by decide) (fun c_17 => ?_) (fun c_17 => ?_)
    · have h := h1 c_17
      exact W.vret hx hb hr (fun t ht hW => ⟨⟨f, rfl, h, by rw [ht]; exact hF, FK.moved hW.alike hK⟩, hS.F ht⟩) hS.2.2 dX2_delete_24
    · have h := h2 c_17
      refine lv_aload_n hx hb dX2_delete_12 rfl (lv_at hl 0 rfl) ?_
      obtain ⟨fs_19, v_18, he_fs_19, hv_fs_19, h⟩ := h
      refine fw_get (C := RX2) (T := TX2) (N := 2) hx hb hts hin_X2 hown hK hF he_fs_19 rfl 1 (by decide) (hts (.fieldLink RX2 13 "FrontCodedIndex$IntRow" "count" "I") (by decide +kernel)) (fun _ h9 => h9) hv_fs_19 dX2_delete_13 ?_
      refine lv_aload_n hx hb dX2_delete_16 rfl (lv_at hl 0 rfl) ?_
      obtain ⟨fs_21, a_20, he_fs_21, hv_fs_21, h⟩ := h
      refine fw_get (C := RX2) (T := TX2) (N := 2) hx hb hts hin_X2 hown hK hF he_fs_21 rfl 0 (by decide) (hts (.fieldLink RX2 9 "FrontCodedIndex$IntRow" "cells" "[I") (by decide +kernel)) (fun _ h9 => h9) hv_fs_21 dX2_delete_17 ?_
      obtain ⟨t_q_23, q_23, he_q_23, ht_q_23, h⟩ := h
      refine fw_alen hx hb hK hF he_q_23 ht_q_23 dX2_delete_20 ?_
      refine lv_topi (fun v_22 e_v_22 => ?_)
      have h := h v_22 e_v_22
      obtain ⟨h1, h2⟩ := h
      refine lv_icmp_le (tgt := 25) hx hb dX2_delete_21 (by decide) (fun c_24 => ?_) (fun c_24 => ?_)
      · have h := h1 c_24
        refine lv_aload_n hx hb dX2_delete_25 rfl (lv_at hl 0 rfl) ?_
        refine lv_dup hx hb dX2_delete_26 rfl ?_
        obtain ⟨fs_26, v_25, he_fs_26, hv_fs_26, h⟩ := h
        refine fw_get (C := RX2) (T := TX2) (N := 2) hx hb hts hin_X2 hown hK hF he_fs_26 rfl 1 (by decide) (hts (.fieldLink RX2 13 "FrontCodedIndex$IntRow" "count" "I") (by decide +kernel)) (fun _ h9 => h9) hv_fs_26 dX2_delete_27 ?_
        refine lv_iconst (v := (1 : Int32)) hx hb dX2_delete_30 (by decide) ?_
        refine lv_isub hx hb dX2_delete_31 ?_
        obtain ⟨fs_27, he_fs_27, hl_fs_27, h⟩ := h
        refine fw_put (v := .int (v_25 - (1 : Int32))) (ty := .int) (C := RX2) (T := TX2) (N := 2) hx hb hts hin_X2 tyX2 (tyX2_ok) nmX2 hown hK hF hS he_fs_27 rfl 1 (by decide) (hts (.fieldLink RX2 13 "FrontCodedIndex$IntRow" "count" "I") (by decide +kernel)) (fun _ h9 => h9) rfl (by decide +kernel) rfl rfl hl_fs_27 dX2_delete_32 (fun H locs hF hS => ?_)
        obtain ⟨f_28, hf_f_28⟩ : ∃ z, z = fup f a0 (.inr (5, fs_27.set 1 (.int (v_25 - (1 : Int32))))) := ⟨_, rfl⟩
        rw [← hf_f_28] at hF; have h := h f_28 hf_f_28
        refine lv_iload_n hx hb dX2_delete_35 rfl (lv_at hl 1 rfl) ?_
        refine lv_istore_n (lv' := [(2, .int x1), (0, .ref a0), (1, .int x1)]) hx hb dX2_delete_36 rfl hl (by decide) rfl (fun ls hl => ?_)
        obtain ⟨n_29, h⟩ := h
        exact L37 n_29 x1 f_28 _ _ _ h hF hS (lv_sub hl [1, 0] rfl)
      · have h := h2 c_24
        exact W.vret hx hb hr (fun t ht hW => ⟨⟨f, rfl, h, by rw [ht]; exact hF, FK.moved hW.alike hK⟩, hS.F ht⟩) hS.2.2 dX2_delete_24
theorem dX3_withByte_0 : decode cX3_withByte 0 = .ok (.aload_n 0, 1) := by decide +kernel
theorem dX3_withByte_1 : decode cX3_withByte 1 = .ok (.getfield 7, 3) := by decide +kernel
theorem dX3_withByte_4 : decode cX3_withByte 4 = .ok (.aload_n 0, 1) := by decide +kernel
theorem dX3_withByte_5 : decode cX3_withByte 5 = .ok (.getfield 7, 3) := by decide +kernel
theorem dX3_withByte_8 : decode cX3_withByte 8 = .ok (.arraylength, 1) := by decide +kernel
theorem dX3_withByte_9 : decode cX3_withByte 9 = .ok (.iconst 1, 1) := by decide +kernel
theorem dX3_withByte_10 : decode cX3_withByte 10 = .ok (.iadd, 1) := by decide +kernel
theorem dX3_withByte_11 : decode cX3_withByte 11 = .ok (.invokestatic 30, 3) := by decide +kernel
theorem dX3_withByte_14 : decode cX3_withByte 14 = .ok (.astore_n 2, 1) := by decide +kernel
theorem dX3_withByte_15 : decode cX3_withByte 15 = .ok (.aload_n 2, 1) := by decide +kernel
theorem dX3_withByte_16 : decode cX3_withByte 16 = .ok (.aload_n 0, 1) := by decide +kernel
theorem dX3_withByte_17 : decode cX3_withByte 17 = .ok (.getfield 7, 3) := by decide +kernel
theorem dX3_withByte_20 : decode cX3_withByte 20 = .ok (.arraylength, 1) := by decide +kernel
theorem dX3_withByte_21 : decode cX3_withByte 21 = .ok (.iload_n 1, 1) := by decide +kernel
theorem dX3_withByte_22 : decode cX3_withByte 22 = .ok (.i2b, 1) := by decide +kernel
theorem dX3_withByte_23 : decode cX3_withByte 23 = .ok (.bastore, 1) := by decide +kernel
theorem dX3_withByte_24 : decode cX3_withByte 24 = .ok (.new 8, 3) := by decide +kernel
theorem dX3_withByte_27 : decode cX3_withByte 27 = .ok (.dup, 1) := by decide +kernel
theorem dX3_withByte_28 : decode cX3_withByte 28 = .ok (.aload_n 2, 1) := by decide +kernel
theorem dX3_withByte_29 : decode cX3_withByte 29 = .ok (.invokespecial 36, 3) := by decide +kernel
theorem dX3_withByte_32 : decode cX3_withByte 32 = .ok (.areturn, 1) := by decide +kernel
set_option maxRecDepth 20000 in
theorem ggX3_withByte_J7_copyOf_9075b : GoodIn wsX3_withByte wsJ7_copyOf_9075b := goodIn_r _ [8, 9, 10, 11, 12, 13, 14, 15, 16, 17, 18, 19, 20, 21, 22, 23] (by decide +kernel) (by decide +kernel)
set_option maxRecDepth 20000 in
theorem ggX3_withByte_X3_init : GoodIn wsX3_withByte wsX3_init := goodIn_r _ [26, 27, 28, 29, 1, 30] (by decide +kernel) (by decide +kernel)
def wp_X3_withByte (a0 : Nat) (x1 : Int32) (f : FT) (mc ms : Nat) (K : Nat → FT → Prop) : Prop :=
  gA f a0 6 0 fun a_1 => gA f a0 6 0 fun a_3 => aL f a_3 fun v_5 => ∃ ga_9 gb_10 : Nat, ga_9 ≤ mc ∧ gb_10 ≤ ms ∧ wp_J7_copyOf_9075b a_1 (v_5 + (1 : Int32)) f ga_9 gb_10 (fun a_7 f_8 => gA f_8 a0 6 0 fun a_13 => aL f_8 a_13 fun v_15 => sB f_8 a_7 v_15 (i2b x1) fun f_18 => nO f_18 6 [.null] 1 (mc - ga_9) (ms - gb_10) fun q_19 f_20 => wp_X3_init q_19 a_7 f_20 (fun f_24 => K q_19 f_24))
set_option maxHeartbeats 4000000 in
set_option maxRecDepth 100000 in
theorem cc_X3_withByte (l : Launch) (G : GG) {f : FT} {sz : Nat} {a0 : Nat} {x1 : Int32} {mc ms : Nat} {K : Nat → FT → Prop} (h : wp_X3_withByte a0 x1 f mc ms K) : Met l yX3_withByte wsX3_withByte ({ frames := 2, cells := mc, slots := ms, locals := 62 } : Room) (FP G [.ref a0, .int x1] f sz) (va_Qq (fun r f9 => ∃ q, r = some q ∧ K q f9 : Option Nat → FT → Prop) (FB G (fA f sz)) (fA f sz)) mc ms (fA f sz) := by
  refine Met.ofW (cc := cX3_withByte) (maxL := 3) (ret := (some (.object "FrontCodedIndex$Key"))) (by decide) rfl ?_
  intro p e s m args below meth c s₁ B hml hv
  obtain ⟨rfl, hsz, hF, hK, hZ⟩ := hv
  have hx := B.exec
  have hb := B.bytes
  have hr := B.returns
  have hts := atoms_spec (ws := wsX3_withByte) B.pre
  have hown : s.vm.findClass RX3 = some m.cls := findClass_of_methodNamed B.named
  have hlocks := B.notSynchronized
  subst hsz
  have hF := hF.self (sz := s.heap.size)
  generalize hAe : fA f s.heap.size = A at hF hZ ⊢
  have hA : ∀ q : Nat, s.heap.size ≤ q → A q := fun q h => by rw [← hAe]; exact Or.inr h
  have hS : va_S A s.heap s.heap [] := va_S.rf
  have hin_X3 : ∀ w ∈ wsX30, w ∈ wsX3_withByte := by decide +kernel
  have hbc : 0 + mc ≤ mc := by omega
  have hbs : 0 + ms ≤ ms := by omega
  have hl := lv_entry ([.ref a0, .int x1]) (n := 3) (Nat.le_of_ble_eq_true rfl)
  rw [lg_entry_eq]
  generalize (lg_sl ([.ref a0, .int x1]) ++ List.replicate (3 - (lg_sl ([.ref a0, .int x1])).length) Slot.unset).toArray = ls at hl ⊢
  have hl : lv_has ls 3 [(0, .ref a0), (1, .int x1)] := hl
  unfold wp_X3_withByte at h
  refine lv_aload_n hx hb dX3_withByte_0 rfl (lv_at hl 0 rfl) ?_
  obtain ⟨fs_2, a_1, he_fs_2, hv_fs_2, h⟩ := h
  refine fw_get (C := RX3) (T := TX3) (N := 1) hx hb hts hin_X3 hown hK hF he_fs_2 rfl 0 (by decide) (hts (.fieldLink RX3 7 "FrontCodedIndex$Key" "bytes" "[B") (by decide +kernel)) (fun _ h9 => h9) hv_fs_2 dX3_withByte_1 ?_
  refine lv_aload_n hx hb dX3_withByte_4 rfl (lv_at hl 0 rfl) ?_
  obtain ⟨fs_4, a_3, he_fs_4, hv_fs_4, h⟩ := h
  refine fw_get (C := RX3) (T := TX3) (N := 1) hx hb hts hin_X3 hown hK hF he_fs_4 rfl 0 (by decide) (hts (.fieldLink RX3 7 "FrontCodedIndex$Key" "bytes" "[B") (by decide +kernel)) (fun _ h9 => h9) hv_fs_4 dX3_withByte_5 ?_
  obtain ⟨t_q_6, q_6, he_q_6, ht_q_6, h⟩ := h
  refine fw_alen hx hb hK hF he_q_6 ht_q_6 dX3_withByte_8 ?_
  refine lv_topi (fun v_5 e_v_5 => ?_)
  have h := h v_5 e_v_5
  refine lv_iconst (v := (1 : Int32)) hx hb dX3_withByte_9 (by decide) ?_
  refine lv_iadd hx hb dX3_withByte_10 ?_
  obtain ⟨ga_9, gb_10, hga_ga_9, hgb_ga_9, h⟩ := h
  refine fw_cS_q_w (As := [.ref a_1, .int (v_5 + (1 : Int32))]) (rest := []) ⟨hx, hb, hml, hown, hts⟩ (cc_J7_copyOf_9075b l G h) (⟨callB_of 2 hts ggX3_withByte_J7_copyOf_9075b rfl rfl rfl (hts (.initialized RJ7) (by decide +kernel)) (hts (.methodLink RX3 30 yJ7_copyOf_9075b) (by decide +kernel)) (by decide +kernel) ⟨Nat.le_of_ble_eq_true rfl, Nat.le_of_ble_eq_true rfl⟩, hts (.static yJ7_copyOf_9075b) (by decide +kernel)⟩) hK hZ hF hS hA rfl hl.1 rfl (Nat.le_of_ble_eq_true rfl) dX3_withByte_11 ⟨by show _ ≤ mc; omega, by show _ ≤ ms; omega⟩ (fun a_7 f_8 H locs h hF hS => ?_)
  obtain ⟨cs_11, hcs⟩ : ∃ z, z = (0 + ga_9) := ⟨_, rfl⟩; obtain ⟨sl_12, hsl⟩ : ∃ z, z = (0 + gb_10) := ⟨_, rfl⟩
  have hbc : cs_11 + (mc - ga_9) ≤ mc := by omega
  have hbs : sl_12 + (ms - gb_10) ≤ ms := by omega
  refine W.widen (k := cs_11) (n := sl_12) (by omega) (by omega) ?_
  clear hcs hsl
  refine lv_astore_n (lv' := [(2, .ref a_7), (0, .ref a0), (1, .int x1)]) hx hb dX3_withByte_14 rfl hl (by decide) rfl (fun ls hl => ?_)
  refine lv_aload_n hx hb dX3_withByte_15 rfl (lv_at hl 0 rfl) ?_
  refine lv_aload_n hx hb dX3_withByte_16 rfl (lv_at hl 1 rfl) ?_
  obtain ⟨fs_14, a_13, he_fs_14, hv_fs_14, h⟩ := h
  refine fw_get (C := RX3) (T := TX3) (N := 1) hx hb hts hin_X3 hown hK hF he_fs_14 rfl 0 (by decide) (hts (.fieldLink RX3 7 "FrontCodedIndex$Key" "bytes" "[B") (by decide +kernel)) (fun _ h9 => h9) hv_fs_14 dX3_withByte_17 ?_
  obtain ⟨t_q_16, q_16, he_q_16, ht_q_16, h⟩ := h
  refine fw_alen hx hb hK hF he_q_16 ht_q_16 dX3_withByte_20 ?_
  refine lv_topi (fun v_15 e_v_15 => ?_)
  have h := h v_15 e_v_15
  refine lv_iload_n hx hb dX3_withByte_21 rfl (lv_at hl 2 rfl) ?_
  refine lv_i2b (v := (i2b x1)) hx hb dX3_withByte_22 rfl ?_
  obtain ⟨n_q_17, q_17, he_q_17, hi_q_17, h⟩ := h
  refine fw_bast hx hb hK hF hS he_q_17 hi_q_17 dX3_withByte_23 (fun H locs hF hS => ?_)
  obtain ⟨f_18, hf_f_18⟩ : ∃ z, z = fup f_8 a_7 (.inl (0, n_q_17, .inl (upd q_17 (v_15).toNatClampNeg (vp_nar .byte (i2b x1))))) := ⟨_, rfl⟩
  rw [← hf_f_18] at hF; have h := h f_18 hf_f_18
  obtain ⟨hb1, hb2, h⟩ := h
  refine fw_new (ci := 6) (fs := [.null]) (C := RX3) (T := TX3) (N := 1) hx hb hts hin_X3 tyX3 tyX3_ok hown (hts (.classLink RX3 8 RX3) (by decide +kernel)) (hts (.instantiable RX3 1) (by decide +kernel)) (hts (.initialized RX3) (by decide +kernel)) hK hF hS hA rfl (fun j hj => by rcases (show j = 0 by omega) with rfl <;> rfl) (by show _ ≤ mc; omega) (by show _ ≤ ms; omega) dX3_withByte_24 (fun q_19 H hn_q_19 hF hS => ?_)
  obtain ⟨f_20, hf_f_20⟩ : ∃ z, z = fup f_18 q_19 (.inr (6, [.null])) := ⟨_, rfl⟩
  rw [← hf_f_20] at hF; have h := h q_19 hn_q_19 f_20 hf_f_20
  obtain ⟨cs_21, hcs⟩ : ∃ z, z = (cs_11 + 1) := ⟨_, rfl⟩; obtain ⟨sl_22, hsl⟩ : ∃ z, z = (sl_12 + 1) := ⟨_, rfl⟩
  have hbc : cs_21 + ((mc - ga_9) - 1) ≤ mc := by omega
  have hbs : sl_22 + ((ms - gb_10) - 1) ≤ ms := by omega
  refine W.widen (k := cs_21) (n := sl_22) (by omega) (by omega) ?_
  clear hcs hsl
  refine lv_dup hx hb dX3_withByte_27 rfl ?_
  refine lv_aload_n hx hb dX3_withByte_28 rfl (lv_at hl 0 rfl) ?_
  refine fw_cI_v (As := [.ref a_7]) (rest := [.ref q_19]) ⟨hx, hb, hml, hown, hts⟩ (cc_X3_init l G h) (⟨callB_of 1 hts ggX3_withByte_X3_init rfl rfl rfl (hts (.initialized RX3) (by decide +kernel)) (hts (.methodLink RX3 36 yX3_init) (by decide +kernel)) (by decide +kernel) ⟨Nat.le_of_ble_eq_true rfl, Nat.le_of_ble_eq_true rfl⟩, rfl, hts (.instanceMethod yX3_init) (by decide +kernel)⟩) hK hZ hF hS hA rfl hl.1 rfl (Nat.le_of_ble_eq_true rfl) dX3_withByte_29 ⟨by show _ ≤ mc; omega, by show _ ≤ ms; omega⟩ (fun f_24 H locs h hF hS => ?_)
  simp only [Nat.add_zero]
  refine W.widen (k := mc) (n := ms) (by omega) (by omega) ?_
  exact W.aret (v := .ref q_19) hx hb hr (Or.inl ⟨_, rfl⟩) (Or.inr ⟨q_19, rfl⟩) (fun t ht hW => ⟨⟨some q_19, f_24, rfl, ⟨_, rfl, h⟩, by rw [ht]; exact hF, FK.moved hW.alike hK⟩, hS.F ht⟩) hS.2.2 dX3_withByte_32
theorem dX4_append_0 : decode cX4_append 0 = .ok (.aload_n 0, 1) := by decide +kernel
theorem dX4_append_1 : decode cX4_append 1 = .ok (.getfield 10, 3) := by decide +kernel
theorem dX4_append_4 : decode cX4_append 4 = .ok (.aload_n 1, 1) := by decide +kernel
theorem dX4_append_5 : decode cX4_append 5 = .ok (.invokevirtual 33, 3) := by decide +kernel
theorem dX4_append_8 : decode cX4_append 8 = .ok (.pop, 1) := by decide +kernel
theorem dX4_append_9 : decode cX4_append 9 = .ok (.return_, 1) := by decide +kernel
set_option maxRecDepth 20000 in
theorem ggX4_append_Jx4a65c_add_9ea2d : GoodIn wsX4_append wsJx4a65c_add_9ea2d := goodIn_r _ [6, 7, 8, 9, 10, 11, 12, 13, 5, 14, 15, 16, 17, 18, 19, 20, 21, 22, 23, 24, 25, 26, 27, 28, 29, 30, 31, 32, 33, 34, 35, 36, 37, 38, 39, 40, 41, 42, 43, 44, 45, 46, 47, 48, 49, 50, 51, 52, 53, 54, 55, 56, 57, 60, 61, 62] (by decide +kernel) (by decide +kernel)
def wp_X4_append (zd : Nat) (a0 : Nat) (a1 : Nat) (f : FT) (mc ms : Nat) (K : FT → Prop) : Prop :=
  gA f a0 7 0 fun a_1 => ∃ ga_5 gb_6 : Nat, ga_5 ≤ mc ∧ gb_6 ≤ ms ∧ isO f a_1 2 ∧ wp_Jx4a65c_add_9ea2d zd a_1 a1 f ga_5 gb_6 (fun r_3 f_4 => K f_4)
set_option maxHeartbeats 4000000 in
set_option maxRecDepth 100000 in
theorem cc_X4_append (l : Launch) (G : GG) {zd : Nat} (hzd : G.2.2 0 = zd) {f : FT} {sz : Nat} {a0 : Nat} {a1 : Nat} {mc ms : Nat} {K : FT → Prop} (h : wp_X4_append zd a0 a1 f mc ms K) : Met l yX4_append wsX4_append ({ frames := 7, cells := mc, slots := ms, locals := 171 } : Room) (FP G [.ref a0, .ref a1] f sz) (va_Qv (fun f9 => K f9 : FT → Prop) (FB G (fA f sz)) (fA f sz)) mc ms (fA f sz) := by
  refine Met.ofW (cc := cX4_append) (maxL := 2) (ret := none) (by decide) rfl ?_
  intro p e s m args below meth c s₁ B hml hv
  obtain ⟨rfl, hsz, hF, hK, hZ⟩ := hv
  have hx := B.exec
  have hb := B.bytes
  have hr := B.returns
  have hts := atoms_spec (ws := wsX4_append) B.pre
  have hown : s.vm.findClass RX4 = some m.cls := findClass_of_methodNamed B.named
  have hlocks := B.notSynchronized
  subst hsz
  have hF := hF.self (sz := s.heap.size)
  generalize hAe : fA f s.heap.size = A at hF hZ ⊢
  have hA : ∀ q : Nat, s.heap.size ≤ q → A q := fun q h => by rw [← hAe]; exact Or.inr h
  have hS : va_S A s.heap s.heap [] := va_S.rf
  have hZ9 : va_Z "java/util/ArrayList" "DEFAULTCAPACITY_EMPTY_ELEMENTDATA" "[Ljava/lang/Object;" (.ref zd) A s s.heap := by rw [← hzd]; exact hZ.1
  have hin_X4 : ∀ w ∈ wsX40, w ∈ wsX4_append := by decide +kernel
  have hbc : 0 + mc ≤ mc := by omega
  have hbs : 0 + ms ≤ ms := by omega
  have hl := lv_entry ([.ref a0, .ref a1]) (n := 2) (Nat.le_of_ble_eq_true rfl)
  rw [lg_entry_eq]
  generalize (lg_sl ([.ref a0, .ref a1]) ++ List.replicate (2 - (lg_sl ([.ref a0, .ref a1])).length) Slot.unset).toArray = ls at hl ⊢
  have hl : lv_has ls 2 [(0, .ref a0), (1, .ref a1)] := hl
  unfold wp_X4_append at h
  refine lv_aload_n hx hb dX4_append_0 rfl (lv_at hl 0 rfl) ?_
  obtain ⟨fs_2, a_1, he_fs_2, hv_fs_2, h⟩ := h
  refine fw_get (C := RX4) (T := TX4) (N := 2) hx hb hts hin_X4 hown hK hF he_fs_2 rfl 0 (by decide) (hts (.fieldLink RX4 10 "FrontCodedIndex$KeyRow" "cells" "Ljava/util/ArrayList;") (by decide +kernel)) (fun _ h9 => h9) hv_fs_2 dX4_append_1 ?_
  refine lv_aload_n hx hb dX4_append_4 rfl (lv_at hl 1 rfl) ?_
  obtain ⟨ga_5, gb_6, hga_ga_5, hgb_ga_5, h⟩ := h
  obtain ⟨⟨fs_r_3, hrc_r_3⟩, h⟩ := h
  refine fw_cV_i (As := [.ref a1]) (rest := []) ⟨hx, hb, hml, hown, hts⟩ (cc_Jx4a65c_add_9ea2d l G hzd h) (⟨callB_of 1 hts ggX4_append_Jx4a65c_add_9ea2d rfl rfl rfl (hts (.initialized RJx4a65c) (by decide +kernel)) (hts (.methodLink RX4 33 yJx4a65c_add_9ea2d) (by decide +kernel)) (by decide +kernel) ⟨Nat.le_of_ble_eq_true rfl, Nat.le_of_ble_eq_true rfl⟩, hts (.instanceMethod yJx4a65c_add_9ea2d) (by decide +kernel), hts (.selects RJx4a65c yJx4a65c_add_9ea2d yJx4a65c_add_9ea2d) (by decide +kernel)⟩) rfl hrc_r_3 hK hZ hF hS hA rfl hl.1 rfl (Nat.le_of_ble_eq_true rfl) dX4_append_5 ⟨by show _ ≤ mc; omega, by show _ ≤ ms; omega⟩ (fun r_3 f_4 H locs h hF hS => ?_)
  obtain ⟨cs_7, hcs⟩ : ∃ z, z = (0 + ga_5) := ⟨_, rfl⟩; obtain ⟨sl_8, hsl⟩ : ∃ z, z = (0 + gb_6) := ⟨_, rfl⟩
  have hbc : cs_7 + (mc - ga_5) ≤ mc := by omega
  have hbs : sl_8 + (ms - gb_6) ≤ ms := by omega
  refine W.widen (k := cs_7) (n := sl_8) (by omega) (by omega) ?_
  clear hcs hsl
  refine lv_pop hx hb dX4_append_8 rfl ?_
  refine W.widen (k := mc) (n := ms) (by omega) (by omega) ?_
  exact W.vret hx hb hr (fun t ht hW => ⟨⟨f_4, rfl, h, by rw [ht]; exact hF, FK.moved hW.alike hK⟩, hS.F ht⟩) hS.2.2 dX4_append_9
theorem dJx4a65c_clear_da8c8_0 : decode cJx4a65c_clear_da8c8 0 = .ok (.aload_n 0, 1) := by decide +kernel
theorem dJx4a65c_clear_da8c8_1 : decode cJx4a65c_clear_da8c8 1 = .ok (.dup, 1) := by decide +kernel
theorem dJx4a65c_clear_da8c8_2 : decode cJx4a65c_clear_da8c8 2 = .ok (.getfield 63, 3) := by decide +kernel
theorem dJx4a65c_clear_da8c8_5 : decode cJx4a65c_clear_da8c8 5 = .ok (.iconst 1, 1) := by decide +kernel
theorem dJx4a65c_clear_da8c8_6 : decode cJx4a65c_clear_da8c8 6 = .ok (.iadd, 1) := by decide +kernel
theorem dJx4a65c_clear_da8c8_7 : decode cJx4a65c_clear_da8c8 7 = .ok (.putfield 63, 3) := by decide +kernel
theorem dJx4a65c_clear_da8c8_10 : decode cJx4a65c_clear_da8c8 10 = .ok (.aload_n 0, 1) := by decide +kernel
theorem dJx4a65c_clear_da8c8_11 : decode cJx4a65c_clear_da8c8 11 = .ok (.getfield 9, 3) := by decide +kernel
theorem dJx4a65c_clear_da8c8_14 : decode cJx4a65c_clear_da8c8 14 = .ok (.astore_n 1, 1) := by decide +kernel
theorem dJx4a65c_clear_da8c8_15 : decode cJx4a65c_clear_da8c8 15 = .ok (.aload_n 0, 1) := by decide +kernel
theorem dJx4a65c_clear_da8c8_16 : decode cJx4a65c_clear_da8c8 16 = .ok (.getfield 48, 3) := by decide +kernel
theorem dJx4a65c_clear_da8c8_19 : decode cJx4a65c_clear_da8c8 19 = .ok (.istore_n 2, 1) := by decide +kernel
theorem dJx4a65c_clear_da8c8_20 : decode cJx4a65c_clear_da8c8 20 = .ok (.aload_n 0, 1) := by decide +kernel
theorem dJx4a65c_clear_da8c8_21 : decode cJx4a65c_clear_da8c8 21 = .ok (.iconst 0, 1) := by decide +kernel
theorem dJx4a65c_clear_da8c8_22 : decode cJx4a65c_clear_da8c8 22 = .ok (.dup_x1, 1) := by decide +kernel
theorem dJx4a65c_clear_da8c8_23 : decode cJx4a65c_clear_da8c8 23 = .ok (.putfield 48, 3) := by decide +kernel
theorem dJx4a65c_clear_da8c8_26 : decode cJx4a65c_clear_da8c8 26 = .ok (.istore_n 3, 1) := by decide +kernel
theorem dJx4a65c_clear_da8c8_27 : decode cJx4a65c_clear_da8c8 27 = .ok (.iload_n 3, 1) := by decide +kernel
theorem dJx4a65c_clear_da8c8_28 : decode cJx4a65c_clear_da8c8 28 = .ok (.iload_n 2, 1) := by decide +kernel
theorem dJx4a65c_clear_da8c8_29 : decode cJx4a65c_clear_da8c8 29 = .ok (.if_icmp .ge 13, 3) := by decide +kernel
theorem dJx4a65c_clear_da8c8_32 : decode cJx4a65c_clear_da8c8 32 = .ok (.aload_n 1, 1) := by decide +kernel
theorem dJx4a65c_clear_da8c8_33 : decode cJx4a65c_clear_da8c8 33 = .ok (.iload_n 3, 1) := by decide +kernel
theorem dJx4a65c_clear_da8c8_34 : decode cJx4a65c_clear_da8c8 34 = .ok (.aconst_null, 1) := by decide +kernel
theorem dJx4a65c_clear_da8c8_35 : decode cJx4a65c_clear_da8c8 35 = .ok (.aastore, 1) := by decide +kernel
theorem dJx4a65c_clear_da8c8_36 : decode cJx4a65c_clear_da8c8 36 = .ok (.iinc 3 1, 3) := by decide +kernel
theorem dJx4a65c_clear_da8c8_39 : decode cJx4a65c_clear_da8c8 39 = .ok (.goto (-12), 3) := by decide +kernel
theorem dJx4a65c_clear_da8c8_42 : decode cJx4a65c_clear_da8c8 42 = .ok (.return_, 1) := by decide +kernel
def wp_Jx4a65c_clear_da8c8_27 (o1 : Nat) (y2 : Int32) (K : FT → Prop)  (C27 : Int32 × FT → Prop) : Int32 × FT → Prop := fun s9 => match s9 with
  | (y3, f) => ((y2 ≤ y3 → K f) ∧
 (¬ (y2 ≤ y3) → sN f o1 y3 fun f_3 => ∀ v_4 : Int32, v_4 = y3 + 1 → C27 (v_4, f_3)))
def wp_Jx4a65c_clear_da8c8 (a0 : Nat) (f : FT) (K : FT → Prop) : Prop :=
  gI f a0 2 0 fun v_6 => pV f a0 2 0 (.int (v_6 + (1 : Int32))) fun f_9 => gA f_9 a0 2 1 fun a_10 => gI f_9 a0 2 2 fun v_12 => pV f_9 a0 2 2 (.int (0 : Int32)) fun f_15 => ∃ n_16, loopW (wp_Jx4a65c_clear_da8c8_27 a_10 v_12 K) n_16 ((0 : Int32), f_15)
set_option maxHeartbeats 4000000 in
set_option maxRecDepth 100000 in
theorem cc_Jx4a65c_clear_da8c8 (l : Launch) (G : GG) {f : FT} {sz : Nat} {a0 : Nat} {K : FT → Prop} (h : wp_Jx4a65c_clear_da8c8 a0 f K) : Met l yJx4a65c_clear_da8c8 wsJx4a65c_clear_da8c8 ({ frames := 0, cells := 0, slots := 0, locals := 0 } : Room) (FP G [.ref a0] f sz) (va_Qv (fun f9 => K f9 : FT → Prop) (FB G (fA f sz)) (fA f sz)) 0 0 (fA f sz) := by
  refine Met.ofW (cc := cJx4a65c_clear_da8c8) (maxL := 4) (ret := none) (by decide) rfl ?_
  intro p e s m args below meth c s₁ B hml hv
  obtain ⟨rfl, hsz, hF, hK, hZ⟩ := hv
  have hx := B.exec
  have hb := B.bytes
  have hr := B.returns
  have hts := atoms_spec (ws := wsJx4a65c_clear_da8c8) B.pre
  have hown : s.vm.findClass RJx4a65c = some m.cls := findClass_of_methodNamed B.named
  have hlocks := B.notSynchronized
  subst hsz
  have hF := hF.self (sz := s.heap.size)
  generalize hAe : fA f s.heap.size = A at hF hZ ⊢
  have hA : ∀ q : Nat, s.heap.size ≤ q → A q := fun q h => by rw [← hAe]; exact Or.inr h
  have hS : va_S A s.heap s.heap [] := va_S.rf
  have hin_Jx4a65c : ∀ w ∈ wsJx4a65c0, w ∈ wsJx4a65c_clear_da8c8 := by decide +kernel
  have L27 : ∀ (o1 : Nat) (y2 : Int32) (j9 : Nat) (y3 : Int32) (f : FT) (H : Heap) (locs : List Loc) (ls : Array Slot), loopW (wp_Jx4a65c_clear_da8c8_27 o1 y2 K ) j9 (y3, f) → Fw G A f H → va_S A s.heap H locs → lv_has ls 4 [(1, .ref o1), (2, .int y2), (3, .int y3)] → W p l e ({ frames := 0, cells := 0, slots := 0, locals := 0 } : Room) s m ([.ref a0] : List Value).toArray below meth c H locs 0 0 (MQ below (va_Qv (fun f9 => K f9 : FT → Prop) (FB G A) A) ([.ref a0] : List Value).toArray s 0 0 A) (F0 m 27 ls []) := by
    intro o1 y2 j9
    induction j9 with
    | zero => intro y3 f H locs ls h; exact h.elim
    | succ j9 ih27 =>
      intro y3 f H locs ls h hF hS hl
      have h : wp_Jx4a65c_clear_da8c8_27 o1 y2 K  (loopW (wp_Jx4a65c_clear_da8c8_27 o1 y2 K ) j9) (y3, f) := h
      generalize loopW (wp_Jx4a65c_clear_da8c8_27 o1 y2 K ) j9 = C27 at ih27 h
      unfold wp_Jx4a65c_clear_da8c8_27 at h
      refine lv_iload_n hx hb dJx4a65c_clear_da8c8_27 rfl (lv_at hl 2 rfl) ?_
      refine lv_iload_n hx hb dJx4a65c_clear_da8c8_28 rfl (lv_at hl 1 rfl) ?_
      obtain ⟨h1, h2⟩ := h
      refine lv_icmp_ge (tgt := 42) hx hb dJx4a65c_clear_da8c8_29 (by decide) (fun c_1 => ?_) (fun c_1 => ?_)
      · have h := h1 c_1
        exact W.vret hx hb hr (fun t ht hW => ⟨⟨f, rfl, h, by rw [ht]; exact hF, FK.moved hW.alike hK⟩, hS.F ht⟩) hS.2.2 dJx4a65c_clear_da8c8_42
      · have h := h2 c_1
        refine lv_aload_n hx hb dJx4a65c_clear_da8c8_32 rfl (lv_at hl 0 rfl) ?_
        refine lv_iload_n hx hb dJx4a65c_clear_da8c8_33 rfl (lv_at hl 2 rfl) ?_
        refine lv_null hx hb dJx4a65c_clear_da8c8_34 ?_
        obtain ⟨n_q_2, q_2, he_q_2, hi_q_2, h⟩ := h
        refine fw_aastN hx hb hK hF hS he_q_2 hi_q_2 dJx4a65c_clear_da8c8_35 (fun H locs hF hS => ?_)
        obtain ⟨f_3, hf_f_3⟩ : ∃ z, z = fup f o1 (.inl (2, n_q_2, .inr (.inr (.inr (.inr (va_up q_2 (y3).toNatClampNeg none)))))) := ⟨_, rfl⟩
        rw [← hf_f_3] at hF; have h := h f_3 hf_f_3
        obtain ⟨v_4, e_5⟩ : ∃ y : Int32, y = y3 + 1 := ⟨_, rfl⟩
        have h := h v_4 e_5
        refine lv_iinc (v := v_4) (lv' := [(3, .int v_4), (1, .ref o1), (2, .int y2)]) hx hb dJx4a65c_clear_da8c8_36 hl (k := 2) rfl (by rw [e_5]; rfl) (by decide) rfl (fun ls hl => ?_)
        refine lv_goto (tgt := 27) hx hb dJx4a65c_clear_da8c8_39 (by decide) ?_
        exact ih27 v_4 f_3 _ _ _ h hF hS (lv_sub hl [1, 2, 0] rfl)
  have hl := lv_entry ([.ref a0]) (n := 4) (Nat.le_of_ble_eq_true rfl)
  rw [lg_entry_eq]
  generalize (lg_sl ([.ref a0]) ++ List.replicate (4 - (lg_sl ([.ref a0])).length) Slot.unset).toArray = ls at hl ⊢
  have hl : lv_has ls 4 [(0, .ref a0)] := hl
  unfold wp_Jx4a65c_clear_da8c8 at h
  refine lv_aload_n hx hb dJx4a65c_clear_da8c8_0 rfl (lv_at hl 0 rfl) ?_
  refine lv_dup hx hb dJx4a65c_clear_da8c8_1 rfl ?_
  obtain ⟨fs_7, v_6, he_fs_7, hv_fs_7, h⟩ := h
  refine fw_get (C := RJx4a65c) (T := TJx4a65c) (N := 3) hx hb hts hin_Jx4a65c hown hK hF he_fs_7 rfl 0 (by decide) (hts (.fieldLink RJx4a65c 63 "java/util/ArrayList" "modCount" "I") (by decide +kernel)) (fun x9 h9 => u_same (hts (.sameField "java/util/ArrayList" "java/util/AbstractList" "modCount" "I") (by decide +kernel)) x9 h9) hv_fs_7 dJx4a65c_clear_da8c8_2 ?_
  refine lv_iconst (v := (1 : Int32)) hx hb dJx4a65c_clear_da8c8_5 (by decide) ?_
  refine lv_iadd hx hb dJx4a65c_clear_da8c8_6 ?_
  obtain ⟨fs_8, he_fs_8, hl_fs_8, h⟩ := h
  refine fw_put (v := .int (v_6 + (1 : Int32))) (ty := .int) (C := RJx4a65c) (T := TJx4a65c) (N := 3) hx hb hts hin_Jx4a65c tyJx4a65c (tyJx4a65c_ok) nmJx4a65c hown hK hF hS he_fs_8 rfl 0 (by decide) (hts (.fieldLink RJx4a65c 63 "java/util/ArrayList" "modCount" "I") (by decide +kernel)) (fun x9 h9 => u_same (hts (.sameField "java/util/ArrayList" "java/util/AbstractList" "modCount" "I") (by decide +kernel)) x9 h9) rfl (by decide +kernel) rfl rfl hl_fs_8 dJx4a65c_clear_da8c8_7 (fun H locs hF hS => ?_)
  obtain ⟨f_9, hf_f_9⟩ : ∃ z, z = fup f a0 (.inr (2, fs_8.set 0 (.int (v_6 + (1 : Int32))))) := ⟨_, rfl⟩
  rw [← hf_f_9] at hF; have h := h f_9 hf_f_9
  refine lv_aload_n hx hb dJx4a65c_clear_da8c8_10 rfl (lv_at hl 0 rfl) ?_
  obtain ⟨fs_11, a_10, he_fs_11, hv_fs_11, h⟩ := h
  refine fw_get (C := RJx4a65c) (T := TJx4a65c) (N := 3) hx hb hts hin_Jx4a65c hown hK hF he_fs_11 rfl 1 (by decide) (hts (.fieldLink RJx4a65c 9 "java/util/ArrayList" "elementData" "[Ljava/lang/Object;") (by decide +kernel)) (fun _ h9 => h9) hv_fs_11 dJx4a65c_clear_da8c8_11 ?_
  refine lv_astore_n (lv' := [(1, .ref a_10), (0, .ref a0)]) hx hb dJx4a65c_clear_da8c8_14 rfl hl (by decide) rfl (fun ls hl => ?_)
  refine lv_aload_n hx hb dJx4a65c_clear_da8c8_15 rfl (lv_at hl 1 rfl) ?_
  obtain ⟨fs_13, v_12, he_fs_13, hv_fs_13, h⟩ := h
  refine fw_get (C := RJx4a65c) (T := TJx4a65c) (N := 3) hx hb hts hin_Jx4a65c hown hK hF he_fs_13 rfl 2 (by decide) (hts (.fieldLink RJx4a65c 48 "java/util/ArrayList" "size" "I") (by decide +kernel)) (fun _ h9 => h9) hv_fs_13 dJx4a65c_clear_da8c8_16 ?_
  refine lv_istore_n (lv' := [(2, .int v_12), (1, .ref a_10), (0, .ref a0)]) hx hb dJx4a65c_clear_da8c8_19 rfl hl (by decide) rfl (fun ls hl => ?_)
  refine lv_aload_n hx hb dJx4a65c_clear_da8c8_20 rfl (lv_at hl 2 rfl) ?_
  refine lv_iconst (v := (0 : Int32)) hx hb dJx4a65c_clear_da8c8_21 (by decide) ?_
  refine lv_dup_x1 hx hb dJx4a65c_clear_da8c8_22 rfl rfl ?_
  obtain ⟨fs_14, he_fs_14, hl_fs_14, h⟩ := h
  refine fw_put (v := .int (0 : Int32)) (ty := .int) (C := RJx4a65c) (T := TJx4a65c) (N := 3) hx hb hts hin_Jx4a65c tyJx4a65c (tyJx4a65c_ok) nmJx4a65c hown hK hF hS he_fs_14 rfl 2 (by decide) (hts (.fieldLink RJx4a65c 48 "java/util/ArrayList" "size" "I") (by decide +kernel)) (fun _ h9 => h9) rfl (by decide +kernel) rfl rfl hl_fs_14 dJx4a65c_clear_da8c8_23 (fun H locs hF hS => ?_)
  obtain ⟨f_15, hf_f_15⟩ : ∃ z, z = fup f_9 a0 (.inr (2, fs_14.set 2 (.int (0 : Int32)))) := ⟨_, rfl⟩
  rw [← hf_f_15] at hF; have h := h f_15 hf_f_15
  refine lv_istore_n (lv' := [(3, .int (0 : Int32)), (2, .int v_12), (1, .ref a_10), (0, .ref a0)]) hx hb dJx4a65c_clear_da8c8_26 rfl hl (by decide) rfl (fun ls hl => ?_)
  obtain ⟨n_16, h⟩ := h
  exact L27 a_10 v_12 n_16 (0 : Int32) f_15 _ _ _ h hF hS (lv_sub hl [2, 1, 0] rfl)
