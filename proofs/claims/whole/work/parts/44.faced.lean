theorem dX8_swapBound_0 : decode cX8_swapBound 0 = .ok (.aload_n 0, 1) := by decide +kernel
theorem dX8_swapBound_1 : decode cX8_swapBound 1 = .ok (.getfield 58, 3) := by decide +kernel
theorem dX8_swapBound_4 : decode cX8_swapBound 4 = .ok (.astore_n 1, 1) := by decide +kernel
theorem dX8_swapBound_5 : decode cX8_swapBound 5 = .ok (.aload_n 0, 1) := by decide +kernel
theorem dX8_swapBound_6 : decode cX8_swapBound 6 = .ok (.aload_n 0, 1) := by decide +kernel
theorem dX8_swapBound_7 : decode cX8_swapBound 7 = .ok (.getfield 62, 3) := by decide +kernel
theorem dX8_swapBound_10 : decode cX8_swapBound 10 = .ok (.putfield 58, 3) := by decide +kernel
theorem dX8_swapBound_13 : decode cX8_swapBound 13 = .ok (.aload_n 0, 1) := by decide +kernel
theorem dX8_swapBound_14 : decode cX8_swapBound 14 = .ok (.aload_n 1, 1) := by decide +kernel
theorem dX8_swapBound_15 : decode cX8_swapBound 15 = .ok (.putfield 62, 3) := by decide +kernel
theorem dX8_swapBound_18 : decode cX8_swapBound 18 = .ok (.aload_n 0, 1) := by decide +kernel
theorem dX8_swapBound_19 : decode cX8_swapBound 19 = .ok (.getfield 58, 3) := by decide +kernel
theorem dX8_swapBound_22 : decode cX8_swapBound 22 = .ok (.invokevirtual 72, 3) := by decide +kernel
theorem dX8_swapBound_25 : decode cX8_swapBound 25 = .ok (.ireturn, 1) := by decide +kernel
set_option maxRecDepth 20000 in
theorem ggX8_swapBound_X3_length : GoodIn wsX8_swapBound wsX3_length := goodIn_r _ [7, 8, 18] (by decide +kernel) (by decide +kernel)
def wp_X8_swapBound (a0 : Nat) (f : FT) (K : Int32 → FT → Prop) : Prop :=
  gA f a0 11 7 fun a_1 => gA f a0 11 8 fun a_3 => pV f a0 11 7 (.ref a_3) fun f_6 => pV f_6 a0 11 8 (.ref a_1) fun f_8 => gA f_8 a0 11 7 fun a_9 => isO f_8 a_9 6 ∧ wp_X3_length a_9 f_8 (fun r_11 => K r_11 f_8)
set_option maxHeartbeats 4000000 in
set_option maxRecDepth 100000 in
theorem cc_X8_swapBound (l : Launch) (G : GG) {f : FT} {sz : Nat} {a0 : Nat} {K : Int32 → FT → Prop} (h : wp_X8_swapBound a0 f K) : Met l yX8_swapBound wsX8_swapBound ({ frames := 1, cells := 0, slots := 0, locals := 20 } : Room) (FP G [.ref a0] f sz) (va_Qi (fun r f9 => K r f9 : Int32 → FT → Prop) (FB G (fA f sz)) (fA f sz)) 0 0 (fA f sz) := by
  refine Met.ofW (cc := cX8_swapBound) (maxL := 2) (ret := (some .int)) (by decide) rfl ?_
  intro p e s m args below meth c s₁ B hml hv
  obtain ⟨rfl, hsz, hF, hK, hZ⟩ := hv
  have hx := B.exec
  have hb := B.bytes
  have hr := B.returns
  have hts := atoms_spec (ws := wsX8_swapBound) B.pre
  have hown : s.vm.findClass RX8 = some m.cls := findClass_of_methodNamed B.named
  have hlocks := B.notSynchronized
  subst hsz
  have hF := hF.self (sz := s.heap.size)
  generalize hAe : fA f s.heap.size = A at hF hZ ⊢
  have hA : ∀ q : Nat, s.heap.size ≤ q → A q := fun q h => by rw [← hAe]; exact Or.inr h
  have hS : va_S A s.heap s.heap [] := va_S.rf
  have hin_X8 : ∀ w ∈ wsX80, w ∈ wsX8_swapBound := by decide +kernel
  have hl := lv_entry ([.ref a0]) (n := 2) (Nat.le_of_ble_eq_true rfl)
  rw [lg_entry_eq]
  generalize (lg_sl ([.ref a0]) ++ List.replicate (2 - (lg_sl ([.ref a0])).length) Slot.unset).toArray = ls at hl ⊢
  have hl : lv_has ls 2 [(0, .ref a0)] := hl
  unfold wp_X8_swapBound at h
  refine lv_aload_n hx hb dX8_swapBound_0 rfl (lv_at hl 0 rfl) ?_
  obtain ⟨fs_2, a_1, he_fs_2, hv_fs_2, h⟩ := h
  refine fw_get (C := RX8) (T := TX8) (N := 9) hx hb hts hin_X8 hown hK hF he_fs_2 rfl 7 (by decide) (hts (.fieldLink RX8 58 "FrontCodedIndex" "key" "LFrontCodedIndex$Key;") (by decide +kernel)) (fun _ h9 => h9) hv_fs_2 dX8_swapBound_1 ?_
  refine lv_astore_n (lv' := [(1, .ref a_1), (0, .ref a0)]) hx hb dX8_swapBound_4 rfl hl (by decide) rfl (fun ls hl => ?_)
  refine lv_aload_n hx hb dX8_swapBound_5 rfl (lv_at hl 1 rfl) ?_
  refine lv_aload_n hx hb dX8_swapBound_6 rfl (lv_at hl 1 rfl) ?_
  obtain ⟨fs_4, a_3, he_fs_4, hv_fs_4, h⟩ := h
  refine fw_get (C := RX8) (T := TX8) (N := 9) hx hb hts hin_X8 hown hK hF he_fs_4 rfl 8 (by decide) (hts (.fieldLink RX8 62 "FrontCodedIndex" "bound" "LFrontCodedIndex$Key;") (by decide +kernel)) (fun _ h9 => h9) hv_fs_4 dX8_swapBound_7 ?_
  obtain ⟨fs_5, he_fs_5, hl_fs_5, h⟩ := h
  refine fw_put (v := .ref a_3) (ty := (.object "FrontCodedIndex$Key")) (C := RX8) (T := TX8) (N := 9) hx hb hts hin_X8 tyX8 (tyX8_ok) nmX8 hown hK hF hS he_fs_5 rfl 7 (by decide) (hts (.fieldLink RX8 58 "FrontCodedIndex" "key" "LFrontCodedIndex$Key;") (by decide +kernel)) (fun _ h9 => h9) rfl (by decide +kernel) rfl rfl hl_fs_5 dX8_swapBound_10 (fun H locs hF hS => ?_)
  obtain ⟨f_6, hf_f_6⟩ : ∃ z, z = fup f a0 (.inr (11, fs_5.set 7 (.ref a_3))) := ⟨_, rfl⟩
  rw [← hf_f_6] at hF; have h := h f_6 hf_f_6
  refine lv_aload_n hx hb dX8_swapBound_13 rfl (lv_at hl 1 rfl) ?_
  refine lv_aload_n hx hb dX8_swapBound_14 rfl (lv_at hl 0 rfl) ?_
  obtain ⟨fs_7, he_fs_7, hl_fs_7, h⟩ := h
  refine fw_put (v := .ref a_1) (ty := (.object "FrontCodedIndex$Key")) (C := RX8) (T := TX8) (N := 9) hx hb hts hin_X8 tyX8 (tyX8_ok) nmX8 hown hK hF hS he_fs_7 rfl 8 (by decide) (hts (.fieldLink RX8 62 "FrontCodedIndex" "bound" "LFrontCodedIndex$Key;") (by decide +kernel)) (fun _ h9 => h9) rfl (by decide +kernel) rfl rfl hl_fs_7 dX8_swapBound_15 (fun H locs hF hS => ?_)
  obtain ⟨f_8, hf_f_8⟩ : ∃ z, z = fup f_6 a0 (.inr (11, fs_7.set 8 (.ref a_1))) := ⟨_, rfl⟩
  rw [← hf_f_8] at hF; have h := h f_8 hf_f_8
  refine lv_aload_n hx hb dX8_swapBound_18 rfl (lv_at hl 1 rfl) ?_
  obtain ⟨fs_10, a_9, he_fs_10, hv_fs_10, h⟩ := h
  refine fw_get (C := RX8) (T := TX8) (N := 9) hx hb hts hin_X8 hown hK hF he_fs_10 rfl 7 (by decide) (hts (.fieldLink RX8 58 "FrontCodedIndex" "key" "LFrontCodedIndex$Key;") (by decide +kernel)) (fun _ h9 => h9) hv_fs_10 dX8_swapBound_19 ?_
  obtain ⟨⟨fs_r_11, hrc_r_11⟩, h⟩ := h
  refine fw_cV_i_p (As := []) (rest := []) ⟨hx, hb, hml, hown, hts⟩ (cc_X3_length l G h) (⟨callB_of 0 hts ggX8_swapBound_X3_length rfl rfl rfl (hts (.initialized RX3) (by decide +kernel)) (hts (.methodLink RX8 72 yX3_length) (by decide +kernel)) (by decide +kernel) ⟨Nat.le_of_ble_eq_true rfl, Nat.le_of_ble_eq_true rfl⟩, hts (.instanceMethod yX3_length) (by decide +kernel), hts (.selects RX3 yX3_length yX3_length) (by decide +kernel)⟩) rfl hrc_r_11 hK hZ hF hS hA rfl hl.1 rfl (Nat.le_of_ble_eq_true rfl) dX8_swapBound_22 ⟨Nat.zero_le _, Nat.zero_le _⟩ (fun r_11 H locs h hF hS => ?_)
  exact W.iret (v := r_11) hx hb hr (fun t ht hW => ⟨⟨r_11, f_8, rfl, h, by rw [ht]; exact hF, FK.moved hW.alike hK⟩, hS.F ht⟩) hS.2.2 dX8_swapBound_25
