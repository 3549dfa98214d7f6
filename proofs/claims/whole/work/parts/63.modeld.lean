theorem dX9_keyByte_0 : decode cX9_keyByte 0 = .ok (.iload_n 1, 1) := by decide +kernel
theorem dX9_keyByte_1 : decode cX9_keyByte 1 = .ok (.iconst 0, 1) := by decide +kernel
theorem dX9_keyByte_2 : decode cX9_keyByte 2 = .ok (.aload_n 0, 1) := by decide +kernel
theorem dX9_keyByte_3 : decode cX9_keyByte 3 = .ok (.getfield 88, 3) := by decide +kernel
theorem dX9_keyByte_6 : decode cX9_keyByte 6 = .ok (.iconst 1, 1) := by decide +kernel
theorem dX9_keyByte_7 : decode cX9_keyByte 7 = .ok (.isub, 1) := by decide +kernel
theorem dX9_keyByte_8 : decode cX9_keyByte 8 = .ok (.invokestatic 80, 3) := by decide +kernel
theorem dX9_keyByte_11 : decode cX9_keyByte 11 = .ok (.ifCond .eq 16, 3) := by decide +kernel
theorem dX9_keyByte_14 : decode cX9_keyByte 14 = .ok (.aload_n 0, 1) := by decide +kernel
theorem dX9_keyByte_15 : decode cX9_keyByte 15 = .ok (.aload_n 0, 1) := by decide +kernel
theorem dX9_keyByte_16 : decode cX9_keyByte 16 = .ok (.getfield 7, 3) := by decide +kernel
theorem dX9_keyByte_19 : decode cX9_keyByte 19 = .ok (.iload_n 1, 1) := by decide +kernel
theorem dX9_keyByte_20 : decode cX9_keyByte 20 = .ok (.iaload, 1) := by decide +kernel
theorem dX9_keyByte_21 : decode cX9_keyByte 21 = .ok (.invokevirtual 91, 3) := by decide +kernel
theorem dX9_keyByte_24 : decode cX9_keyByte 24 = .ok (.goto 8, 3) := by decide +kernel
theorem dX9_keyByte_27 : decode cX9_keyByte 27 = .ok (.aload_n 0, 1) := by decide +kernel
theorem dX9_keyByte_28 : decode cX9_keyByte 28 = .ok (.iconst 1, 1) := by decide +kernel
theorem dX9_keyByte_29 : decode cX9_keyByte 29 = .ok (.invokevirtual 84, 3) := by decide +kernel
theorem dX9_keyByte_32 : decode cX9_keyByte 32 = .ok (.ireturn, 1) := by decide +kernel
set_option maxRecDepth 20000 in
theorem ggX9_keyByte_X9_done : GoodIn wsX9_keyByte wsX9_done := goodIn_r _ [10, 11, 16, 17, 18, 19, 20, 21, 22, 23, 24, 25, 26, 27, 28, 29, 30, 31, 32, 33, 34, 35, 36, 37, 38, 39, 40, 41, 42, 43, 44, 45, 46, 47, 48, 49] (by decide +kernel) (by decide +kernel)
set_option maxRecDepth 20000 in
theorem ggX9_keyByte_X9_fails : GoodIn wsX9_keyByte wsX9_fails := goodIn_r _ [15, 11, 16, 17, 18, 19, 20, 21, 22, 23, 24, 25, 26, 27, 28, 29, 30, 31, 32, 33, 34, 35, 36, 37, 38, 39, 40, 41, 42, 43, 44, 45, 46, 47, 48, 49] (by decide +kernel) (by decide +kernel)
set_option maxRecDepth 20000 in
theorem ggX9_keyByte_X9_in : GoodIn wsX9_keyByte wsX9_in := goodIn_r _ [6] (by decide +kernel) (by decide +kernel)
def wp_X9_keyByte (x1 : Int32) (n : Nat → Int32) (g : Nat → Nat → Int32) (K : Int32 → (Nat → Int32) → (Nat → Nat → Int32) → Prop) : Prop :=
  wp_X9_in x1 (0 : Int32) ((n 1) - (1 : Int32)) n g (fun r_1 => ((r_1 = (0 : Int32) → wp_X9_fails (1 : Int32) n g (fun r_3 n_5 g_6 => K r_3 n_5 g_6)) ∧
 (¬ (r_1 = (0 : Int32)) → vp_in x1 (mlen 2) ∧ ∀ v_8 : Int32, v_8 = g 2 (x1).toNatClampNeg → wp_X9_done v_8 n g (fun r_9 n_11 g_12 => K r_9 n_11 g_12))))
set_option maxHeartbeats 4000000 in
set_option maxRecDepth 100000 in
theorem cc_X9_keyByte (l : Launch) (G : GG) {mo : Nat} {ad : Nat → Nat} (had : MAd mo ad) {n : Nat → Int32} {g : Nat → Nat → Int32} {sz : Nat} {x1 : Int32} {K : Int32 → (Nat → Int32) → (Nat → Nat → Int32) → Prop} (h : wp_X9_keyByte x1 n g K) : Met l yX9_keyByte wsX9_keyByte ({ frames := 1, cells := 0, slots := 0, locals := 22 } : Room) (FP G [.ref mo, .int x1] (mf mo ad n g) sz) (va_Qi (fun r f9 => ∃ n9 g9, f9 = mf mo ad n9 g9 ∧ K r n9 g9 : Int32 → FT → Prop) (FB G (fA (mf mo ad n g) sz)) (fA (mf mo ad n g) sz)) 0 0 (fA (mf mo ad n g) sz) := by
  refine Met.ofW (cc := cX9_keyByte) (maxL := 2) (ret := (some .int)) (by decide) rfl ?_
  intro p e s m args below meth c s₁ B hml hv
  obtain ⟨rfl, hsz, hF, hK, hZ⟩ := hv
  have hx := B.exec
  have hb := B.bytes
  have hr := B.returns
  have hts := atoms_spec (ws := wsX9_keyByte) B.pre
  have hown : s.vm.findClass RX9 = some m.cls := findClass_of_methodNamed B.named
  have hlocks := B.notSynchronized
  subst hsz
  have hF := hF.self (sz := s.heap.size)
  generalize hAe : fA (mf mo ad n g) s.heap.size = A at hF hZ ⊢
  have hA : ∀ q : Nat, s.heap.size ≤ q → A q := fun q h => by rw [← hAe]; exact Or.inr h
  have hS : va_S A s.heap s.heap [] := va_S.rf
  have hin_X9 : ∀ w ∈ wsX90, w ∈ wsX9_keyByte := by decide +kernel
  have hl := lv_entry ([.ref mo, .int x1]) (n := 2) (Nat.le_of_ble_eq_true rfl)
  rw [lg_entry_eq]
  generalize (lg_sl ([.ref mo, .int x1]) ++ List.replicate (2 - (lg_sl ([.ref mo, .int x1])).length) Slot.unset).toArray = ls at hl ⊢
  have hl : lv_has ls 2 [(0, .ref mo), (1, .int x1)] := hl
  unfold wp_X9_keyByte at h
  refine lv_iload_n hx hb dX9_keyByte_0 rfl (lv_at hl 1 rfl) ?_
  refine lv_iconst (v := (0 : Int32)) hx hb dX9_keyByte_1 (by decide) ?_
  refine lv_aload_n hx hb dX9_keyByte_2 rfl (lv_at hl 0 rfl) ?_
  refine fw_get (C := RX9) (T := TX9) (N := 34) hx hb hts hin_X9 hown hK hF mf_obj rfl 1 (by decide) (hts (.fieldLink RX9 88 "FrontCodedIndexModel" "keySize" "I") (by decide +kernel)) (fun _ h9 => h9) rfl dX9_keyByte_3 ?_
  refine lv_iconst (v := (1 : Int32)) hx hb dX9_keyByte_6 (by decide) ?_
  refine lv_isub hx hb dX9_keyByte_7 ?_
  refine fw_cS_i_p (As := [.int x1, .int (0 : Int32), .int ((n 1) - (1 : Int32))]) (rest := []) ⟨hx, hb, hml, hown, hts⟩ (cc_X9_in l G had h) (⟨callB_of 3 hts ggX9_keyByte_X9_in rfl rfl rfl (hts (.initialized RX9) (by decide +kernel)) (hts (.methodLink RX9 80 yX9_in) (by decide +kernel)) (by decide +kernel) ⟨Nat.le_of_ble_eq_true rfl, Nat.le_of_ble_eq_true rfl⟩, hts (.static yX9_in) (by decide +kernel)⟩) hK hZ hF hS hA rfl hl.1 rfl (Nat.le_of_ble_eq_true rfl) dX9_keyByte_8 ⟨Nat.zero_le _, Nat.zero_le _⟩ (fun r_1 H locs h hF hS => ?_)
  obtain ⟨h1, h2⟩ := h
  refine lv_if_eq (tgt := 27) hx hb dX9_keyByte_11 (by decide) (fun c_2 => ?_) (fun c_2 => ?_)
  · have h := h1 c_2
    refine lv_aload_n hx hb dX9_keyByte_27 rfl (lv_at hl 0 rfl) ?_
    refine lv_iconst (v := (1 : Int32)) hx hb dX9_keyByte_28 (by decide) ?_
    refine fw_cV_i (As := [.int (1 : Int32)]) (rest := []) ⟨hx, hb, hml, hown, hts⟩ (cc_X9_fails l G had h) (⟨callB_of 1 hts ggX9_keyByte_X9_fails rfl rfl rfl (hts (.initialized RX9) (by decide +kernel)) (hts (.methodLink RX9 84 yX9_fails) (by decide +kernel)) (by decide +kernel) ⟨Nat.le_of_ble_eq_true rfl, Nat.le_of_ble_eq_true rfl⟩, hts (.instanceMethod yX9_fails) (by decide +kernel), hts (.selects RX9 yX9_fails yX9_fails) (by decide +kernel)⟩) rfl mf_obj hK hZ hF hS hA rfl hl.1 rfl (Nat.le_of_ble_eq_true rfl) dX9_keyByte_29 ⟨Nat.zero_le _, Nat.zero_le _⟩ (fun r_3 f9 H locs h hF hS => ?_)
    obtain ⟨n_5, g_6, rfl, h⟩ := h
    exact W.iret (v := r_3) hx hb hr (fun t ht hW => ⟨⟨r_3, (mf mo ad n_5 g_6), rfl, ⟨_, _, rfl, h⟩, by rw [ht]; exact hF, FK.moved hW.alike hK⟩, hS.F ht⟩) hS.2.2 dX9_keyByte_32
  · have h := h2 c_2
    refine lv_aload_n hx hb dX9_keyByte_14 rfl (lv_at hl 0 rfl) ?_
    refine lv_aload_n hx hb dX9_keyByte_15 rfl (lv_at hl 0 rfl) ?_
    refine fw_get (C := RX9) (T := TX9) (N := 34) hx hb hts hin_X9 hown hK hF mf_obj rfl 2 (by decide) (hts (.fieldLink RX9 7 "FrontCodedIndexModel" "key" "[I") (by decide +kernel)) (fun _ h9 => h9) rfl dX9_keyByte_16 ?_
    refine lv_iload_n hx hb dX9_keyByte_19 rfl (lv_at hl 1 rfl) ?_
    obtain ⟨hi_i_7, h⟩ := h
    refine fw_iald hx hb hK hF (mf_arr had 2 (by decide)) hi_i_7 dX9_keyByte_20 ?_
    refine lv_topi (fun v_8 e_v_8 => ?_)
    have h := h v_8 e_v_8
    refine fw_cV_i (As := [.int v_8]) (rest := []) ⟨hx, hb, hml, hown, hts⟩ (cc_X9_done l G had h) (⟨callB_of 1 hts ggX9_keyByte_X9_done rfl rfl rfl (hts (.initialized RX9) (by decide +kernel)) (hts (.methodLink RX9 91 yX9_done) (by decide +kernel)) (by decide +kernel) ⟨Nat.le_of_ble_eq_true rfl, Nat.le_of_ble_eq_true rfl⟩, hts (.instanceMethod yX9_done) (by decide +kernel), hts (.selects RX9 yX9_done yX9_done) (by decide +kernel)⟩) rfl mf_obj hK hZ hF hS hA rfl hl.1 rfl (Nat.le_of_ble_eq_true rfl) dX9_keyByte_21 ⟨Nat.zero_le _, Nat.zero_le _⟩ (fun r_9 f9 H locs h hF hS => ?_)
    obtain ⟨n_11, g_12, rfl, h⟩ := h
    refine lv_goto (tgt := 32) hx hb dX9_keyByte_24 (by decide) ?_
    exact W.iret (v := r_9) hx hb hr (fun t ht hW => ⟨⟨r_9, (mf mo ad n_11 g_12), rfl, ⟨_, _, rfl, h⟩, by rw [ht]; exact hF, FK.moved hW.alike hK⟩, hS.F ht⟩) hS.2.2 dX9_keyByte_32
theorem dX9_lays_0 : decode cX9_lays 0 = .ok (.iconst 0, 1) := by decide +kernel
theorem dX9_lays_1 : decode cX9_lays 1 = .ok (.istore 4, 2) := by decide +kernel
theorem dX9_lays_3 : decode cX9_lays 3 = .ok (.aload_n 0, 1) := by decide +kernel
theorem dX9_lays_4 : decode cX9_lays 4 = .ok (.getfield 32, 3) := by decide +kernel
theorem dX9_lays_7 : decode cX9_lays 7 = .ok (.iload_n 1, 1) := by decide +kernel
theorem dX9_lays_8 : decode cX9_lays 8 = .ok (.iconst 0, 1) := by decide +kernel
theorem dX9_lays_9 : decode cX9_lays 9 = .ok (.iastore, 1) := by decide +kernel
theorem dX9_lays_10 : decode cX9_lays 10 = .ok (.iload 4, 2) := by decide +kernel
theorem dX9_lays_12 : decode cX9_lays 12 = .ok (.iload_n 2, 1) := by decide +kernel
theorem dX9_lays_13 : decode cX9_lays 13 = .ok (.if_icmp .ge 91, 3) := by decide +kernel
theorem dX9_lays_16 : decode cX9_lays 16 = .ok (.iconst 0, 1) := by decide +kernel
theorem dX9_lays_17 : decode cX9_lays 17 = .ok (.istore 5, 2) := by decide +kernel
theorem dX9_lays_19 : decode cX9_lays 19 = .ok (.iload_n 1, 1) := by decide +kernel
theorem dX9_lays_20 : decode cX9_lays 20 = .ok (.ifCond .ne 7, 3) := by decide +kernel
theorem dX9_lays_23 : decode cX9_lays 23 = .ok (.iconst 1, 1) := by decide +kernel
theorem dX9_lays_24 : decode cX9_lays 24 = .ok (.goto 4, 3) := by decide +kernel
theorem dX9_lays_27 : decode cX9_lays 27 = .ok (.iconst 2, 1) := by decide +kernel
theorem dX9_lays_28 : decode cX9_lays 28 = .ok (.istore 6, 2) := by decide +kernel
theorem dX9_lays_30 : decode cX9_lays 30 = .ok (.iload 4, 2) := by decide +kernel
theorem dX9_lays_32 : decode cX9_lays 32 = .ok (.iload 5, 2) := by decide +kernel
theorem dX9_lays_34 : decode cX9_lays 34 = .ok (.iadd, 1) := by decide +kernel
theorem dX9_lays_35 : decode cX9_lays 35 = .ok (.iload_n 2, 1) := by decide +kernel
theorem dX9_lays_36 : decode cX9_lays 36 = .ok (.if_icmp .ge 31, 3) := by decide +kernel
theorem dX9_lays_39 : decode cX9_lays 39 = .ok (.iload 5, 2) := by decide +kernel
theorem dX9_lays_41 : decode cX9_lays 41 = .ok (.iload 6, 2) := by decide +kernel
theorem dX9_lays_43 : decode cX9_lays 43 = .ok (.if_icmp .lt 18, 3) := by decide +kernel
theorem dX9_lays_46 : decode cX9_lays 46 = .ok (.aload_n 0, 1) := by decide +kernel
theorem dX9_lays_47 : decode cX9_lays 47 = .ok (.iload_n 1, 1) := by decide +kernel
theorem dX9_lays_48 : decode cX9_lays 48 = .ok (.iload 4, 2) := by decide +kernel
theorem dX9_lays_50 : decode cX9_lays 50 = .ok (.iload 5, 2) := by decide +kernel
theorem dX9_lays_52 : decode cX9_lays 52 = .ok (.iconst 1, 1) := by decide +kernel
theorem dX9_lays_53 : decode cX9_lays 53 = .ok (.iadd, 1) := by decide +kernel
theorem dX9_lays_54 : decode cX9_lays 54 = .ok (.invokevirtual 130, 3) := by decide +kernel
theorem dX9_lays_57 : decode cX9_lays 57 = .ok (.iload_n 3, 1) := by decide +kernel
theorem dX9_lays_58 : decode cX9_lays 58 = .ok (.if_icmp .gt 9, 3) := by decide +kernel
theorem dX9_lays_61 : decode cX9_lays 61 = .ok (.iinc 5 1, 3) := by decide +kernel
theorem dX9_lays_64 : decode cX9_lays 64 = .ok (.goto (-34), 3) := by decide +kernel
theorem dX9_lays_67 : decode cX9_lays 67 = .ok (.aload_n 0, 1) := by decide +kernel
theorem dX9_lays_68 : decode cX9_lays 68 = .ok (.getfield 35, 3) := by decide +kernel
theorem dX9_lays_71 : decode cX9_lays 71 = .ok (.iload_n 1, 1) := by decide +kernel
theorem dX9_lays_72 : decode cX9_lays 72 = .ok (.aload_n 0, 1) := by decide +kernel
theorem dX9_lays_73 : decode cX9_lays 73 = .ok (.getfield 32, 3) := by decide +kernel
theorem dX9_lays_76 : decode cX9_lays 76 = .ok (.iload_n 1, 1) := by decide +kernel
theorem dX9_lays_77 : decode cX9_lays 77 = .ok (.iaload, 1) := by decide +kernel
theorem dX9_lays_78 : decode cX9_lays 78 = .ok (.invokestatic 113, 3) := by decide +kernel
theorem dX9_lays_81 : decode cX9_lays 81 = .ok (.iload 5, 2) := by decide +kernel
theorem dX9_lays_83 : decode cX9_lays 83 = .ok (.iastore, 1) := by decide +kernel
theorem dX9_lays_84 : decode cX9_lays 84 = .ok (.aload_n 0, 1) := by decide +kernel
theorem dX9_lays_85 : decode cX9_lays 85 = .ok (.getfield 32, 3) := by decide +kernel
theorem dX9_lays_88 : decode cX9_lays 88 = .ok (.iload_n 1, 1) := by decide +kernel
theorem dX9_lays_89 : decode cX9_lays 89 = .ok (.dup2, 1) := by decide +kernel
theorem dX9_lays_90 : decode cX9_lays 90 = .ok (.iaload, 1) := by decide +kernel
theorem dX9_lays_91 : decode cX9_lays 91 = .ok (.iconst 1, 1) := by decide +kernel
theorem dX9_lays_92 : decode cX9_lays 92 = .ok (.iadd, 1) := by decide +kernel
theorem dX9_lays_93 : decode cX9_lays 93 = .ok (.iastore, 1) := by decide +kernel
theorem dX9_lays_94 : decode cX9_lays 94 = .ok (.iload 4, 2) := by decide +kernel
theorem dX9_lays_96 : decode cX9_lays 96 = .ok (.iload 5, 2) := by decide +kernel
theorem dX9_lays_98 : decode cX9_lays 98 = .ok (.iadd, 1) := by decide +kernel
theorem dX9_lays_99 : decode cX9_lays 99 = .ok (.istore 4, 2) := by decide +kernel
theorem dX9_lays_101 : decode cX9_lays 101 = .ok (.goto (-91), 3) := by decide +kernel
theorem dX9_lays_104 : decode cX9_lays 104 = .ok (.return_, 1) := by decide +kernel
set_option maxRecDepth 20000 in
theorem ggX9_lays_X9_at : GoodIn wsX9_lays wsX9_at := goodIn_r _ [33] (by decide +kernel) (by decide +kernel)
set_option maxRecDepth 20000 in
theorem ggX9_lays_X9_partSize : GoodIn wsX9_lays wsX9_partSize := goodIn_r _ [7, 8, 9, 10, 6, 11, 12, 13, 14, 15, 16, 17, 18, 19, 20, 21, 22, 23, 24, 25, 26, 27, 28, 29, 30, 2, 31, 32, 33, 34, 35, 36, 37, 38, 39, 40, 41, 42, 43, 44, 45, 46, 47, 48, 49, 50, 51, 52, 53, 54, 55, 56, 57, 58, 59, 60, 61, 62, 63, 64, 65, 66, 67] (by decide +kernel) (by decide +kernel)
def wp_X9_lays_67 (x1 : Int32) (x2 : Int32) (x3 : Int32) (y4 : Int32) (y5 : Int32) (n : Nat → Int32) (g : Nat → Nat → Int32) (K : (Nat → Int32) → (Nat → Nat → Int32) → Prop) (C10 : Int32 × (Nat → Int32) × (Nat → Nat → Int32) → Prop) : Prop :=
  vp_in x1 (mlen 14) ∧ ∀ v_2 : Int32, v_2 = g 14 (x1).toNatClampNeg → wp_X9_at x1 v_2 n g (fun r_3 => vp_in r_3 (mlen 15) ∧ ∀ g_5 : Nat → Nat → Int32, g_5 = mup g 15 (r_3).toNatClampNeg y5 → vp_in x1 (mlen 14) ∧ ∀ v_7 : Int32, v_7 = g_5 14 (x1).toNatClampNeg → vp_in x1 (mlen 14) ∧ ∀ g_9 : Nat → Nat → Int32, g_9 = mup g_5 14 (x1).toNatClampNeg (v_7 + (1 : Int32)) → ∀ v_10 : Int32, v_10 = (y4 + y5) → C10 (v_10, n, g_9))
def wp_X9_lays_61 (x1 : Int32) (x2 : Int32) (x3 : Int32) (y4 : Int32) (y6 : Int32) (y5 : Int32) (n : Nat → Int32) (g : Nat → Nat → Int32) (K : (Nat → Int32) → (Nat → Nat → Int32) → Prop) (C10 : Int32 × (Nat → Int32) × (Nat → Nat → Int32) → Prop) (C30 : Int32 × (Nat → Int32) × (Nat → Nat → Int32) → Prop) : Prop :=
  ∀ v_12 : Int32, v_12 = y5 + 1 → C30 (v_12, n, g)
def wp_X9_lays_30 (x1 : Int32) (x2 : Int32) (x3 : Int32) (y4 : Int32) (y6 : Int32) (K : (Nat → Int32) → (Nat → Nat → Int32) → Prop) (C10 : Int32 × (Nat → Int32) × (Nat → Nat → Int32) → Prop) (C30 : Int32 × (Nat → Int32) × (Nat → Nat → Int32) → Prop) : Int32 × (Nat → Int32) × (Nat → Nat → Int32) → Prop := fun s9 => match s9 with
  | (y5, n, g) => ((x2 ≤ (y4 + y5) → wp_X9_lays_67 x1 x2 x3 y4 y5 n g K C10) ∧
 (¬ (x2 ≤ (y4 + y5)) → ((y5 < y6 → wp_X9_lays_61 x1 x2 x3 y4 y6 y5 n g K C10 C30) ∧
 (¬ (y5 < y6) → wp_X9_partSize x1 y4 (y5 + (1 : Int32)) n g (fun r_16 => ((x3 < r_16 → wp_X9_lays_67 x1 x2 x3 y4 y5 n g K C10) ∧
 (¬ (x3 < r_16) → wp_X9_lays_61 x1 x2 x3 y4 y6 y5 n g K C10 C30)))))))
def wp_X9_lays_28 (x1 : Int32) (x2 : Int32) (x3 : Int32) (y4 : Int32) (y5 : Int32) (z0 : Int32) (n : Nat → Int32) (g : Nat → Nat → Int32) (K : (Nat → Int32) → (Nat → Nat → Int32) → Prop) (C10 : Int32 × (Nat → Int32) × (Nat → Nat → Int32) → Prop) : Prop :=
  ∃ n_18, loopW (wp_X9_lays_30 x1 x2 x3 y4 z0 K C10) n_18 (y5, n, g)
def wp_X9_lays_10 (x1 : Int32) (x2 : Int32) (x3 : Int32) (K : (Nat → Int32) → (Nat → Nat → Int32) → Prop)  (C10 : Int32 × (Nat → Int32) × (Nat → Nat → Int32) → Prop) : Int32 × (Nat → Int32) × (Nat → Nat → Int32) → Prop := fun s9 => match s9 with
  | (y4, n, g) => ((x2 ≤ y4 → K n g) ∧
 (¬ (x2 ≤ y4) → ((¬ x1 = (0 : Int32) → wp_X9_lays_28 x1 x2 x3 y4 (0 : Int32) (2 : Int32) n g K C10) ∧
 (x1 = (0 : Int32) → wp_X9_lays_28 x1 x2 x3 y4 (0 : Int32) (1 : Int32) n g K C10))))
def wp_X9_lays (x1 : Int32) (x2 : Int32) (x3 : Int32) (n : Nat → Int32) (g : Nat → Nat → Int32) (K : (Nat → Int32) → (Nat → Nat → Int32) → Prop) : Prop :=
  vp_in x1 (mlen 14) ∧ ∀ g_22 : Nat → Nat → Int32, g_22 = mup g 14 (x1).toNatClampNeg (0 : Int32) → ∃ n_23, loopW (wp_X9_lays_10 x1 x2 x3 K) n_23 ((0 : Int32), n, g_22)
set_option maxHeartbeats 4000000 in
set_option maxRecDepth 100000 in
theorem cc_X9_lays (l : Launch) (G : GG) {mo : Nat} {ad : Nat → Nat} (had : MAd mo ad) {n : Nat → Int32} {g : Nat → Nat → Int32} {sz : Nat} {x1 : Int32} {x2 : Int32} {x3 : Int32} {K : (Nat → Int32) → (Nat → Nat → Int32) → Prop} (h : wp_X9_lays x1 x2 x3 n g K) : Met l yX9_lays wsX9_lays ({ frames := 5, cells := 0, slots := 0, locals := 120 } : Room) (FP G [.ref mo, .int x1, .int x2, .int x3] (mf mo ad n g) sz) (va_Qv (fun f9 => ∃ n9 g9, f9 = mf mo ad n9 g9 ∧ K n9 g9 : FT → Prop) (FB G (fA (mf mo ad n g) sz)) (fA (mf mo ad n g) sz)) 0 0 (fA (mf mo ad n g) sz) := by
  refine Met.ofW (cc := cX9_lays) (maxL := 7) (ret := none) (by decide) rfl ?_
  intro p e s m args below meth c s₁ B hml hv
  obtain ⟨rfl, hsz, hF, hK, hZ⟩ := hv
  have hx := B.exec
  have hb := B.bytes
  have hr := B.returns
  have hts := atoms_spec (ws := wsX9_lays) B.pre
  have hown : s.vm.findClass RX9 = some m.cls := findClass_of_methodNamed B.named
  have hlocks := B.notSynchronized
  subst hsz
  have hF := hF.self (sz := s.heap.size)
  generalize hAe : fA (mf mo ad n g) s.heap.size = A at hF hZ ⊢
  have hA : ∀ q : Nat, s.heap.size ≤ q → A q := fun q h => by rw [← hAe]; exact Or.inr h
  have hS : va_S A s.heap s.heap [] := va_S.rf
  have hin_X9 : ∀ w ∈ wsX90, w ∈ wsX9_lays := by decide +kernel
  have L10 : ∀  (j9 : Nat) (y4 : Int32) (n : Nat → Int32) (g : Nat → Nat → Int32) (H : Heap) (locs : List Loc) (ls : Array Slot), loopW (wp_X9_lays_10 x1 x2 x3 K ) j9 (y4, n, g) → Fw G A (mf mo ad n g) H → va_S A s.heap H locs → lv_has ls 7 [(0, .ref mo), (1, .int x1), (2, .int x2), (3, .int x3), (4, .int y4)] → W p l e ({ frames := 5, cells := 0, slots := 0, locals := 120 } : Room) s m ([.ref mo, .int x1, .int x2, .int x3] : List Value).toArray below meth c H locs 0 0 (MQ below (va_Qv (fun f9 => ∃ n9 g9, f9 = mf mo ad n9 g9 ∧ K n9 g9 : FT → Prop) (FB G A) A) ([.ref mo, .int x1, .int x2, .int x3] : List Value).toArray s 0 0 A) (F0 m 10 ls []) := by
    intro  j9
    induction j9 with
    | zero => intro y4 n g H locs ls h; exact h.elim
    | succ j9 ih10 =>
      intro y4 n g H locs ls h hF hS hl
      have h : wp_X9_lays_10 x1 x2 x3 K  (loopW (wp_X9_lays_10 x1 x2 x3 K ) j9) (y4, n, g) := h
      generalize loopW (wp_X9_lays_10 x1 x2 x3 K ) j9 = C10 at ih10 h
      unfold wp_X9_lays_10 at h
      have J67 : ∀ (y4 : Int32) (y5 : Int32) (n : Nat → Int32) (g : Nat → Nat → Int32) (H : Heap) (locs : List Loc) (ls : Array Slot), wp_X9_lays_67 x1 x2 x3 y4 y5 n g K C10 → Fw G A (mf mo ad n g) H → va_S A s.heap H locs → lv_has ls 7 [(0, .ref mo), (1, .int x1), (2, .int x2), (3, .int x3), (4, .int y4), (5, .int y5)] → W p l e ({ frames := 5, cells := 0, slots := 0, locals := 120 } : Room) s m ([.ref mo, .int x1, .int x2, .int x3] : List Value).toArray below meth c H locs 0 0 (MQ below (va_Qv (fun f9 => ∃ n9 g9, f9 = mf mo ad n9 g9 ∧ K n9 g9 : FT → Prop) (FB G A) A) ([.ref mo, .int x1, .int x2, .int x3] : List Value).toArray s 0 0 A) (F0 m 67 ls []) := by
        intro y4 y5 n g H locs ls h hF hS hl
        unfold wp_X9_lays_67 at h
        refine lv_aload_n hx hb dX9_lays_67 rfl (lv_at hl 0 rfl) ?_
        refine fw_get (C := RX9) (T := TX9) (N := 34) hx hb hts hin_X9 hown hK hF mf_obj rfl 15 (by decide) (hts (.fieldLink RX9 35 "FrontCodedIndexModel" "parts" "[I") (by decide +kernel)) (fun _ h9 => h9) rfl dX9_lays_68 ?_
        refine lv_iload_n hx hb dX9_lays_71 rfl (lv_at hl 1 rfl) ?_
        refine lv_aload_n hx hb dX9_lays_72 rfl (lv_at hl 0 rfl) ?_
        refine fw_get (C := RX9) (T := TX9) (N := 34) hx hb hts hin_X9 hown hK hF mf_obj rfl 14 (by decide) (hts (.fieldLink RX9 32 "FrontCodedIndexModel" "many" "[I") (by decide +kernel)) (fun _ h9 => h9) rfl dX9_lays_73 ?_
        refine lv_iload_n hx hb dX9_lays_76 rfl (lv_at hl 1 rfl) ?_
        obtain ⟨hi_i_1, h⟩ := h
        refine fw_iald hx hb hK hF (mf_arr had 14 (by decide)) hi_i_1 dX9_lays_77 ?_
        refine lv_topi (fun v_2 e_v_2 => ?_)
        have h := h v_2 e_v_2
        refine fw_cS_i_p (As := [.int x1, .int v_2]) (rest := [.ref (ad 15)]) ⟨hx, hb, hml, hown, hts⟩ (cc_X9_at l G had h) (⟨callB_of 2 hts ggX9_lays_X9_at rfl rfl rfl (hts (.initialized RX9) (by decide +kernel)) (hts (.methodLink RX9 113 yX9_at) (by decide +kernel)) (by decide +kernel) ⟨Nat.le_of_ble_eq_true rfl, Nat.le_of_ble_eq_true rfl⟩, hts (.static yX9_at) (by decide +kernel)⟩) hK hZ hF hS hA rfl hl.1 rfl (Nat.le_of_ble_eq_true rfl) dX9_lays_78 ⟨Nat.zero_le _, Nat.zero_le _⟩ (fun r_3 H locs h hF hS => ?_)
        refine lv_iload hx hb dX9_lays_81 (lv_at hl 5 rfl) ?_
        obtain ⟨hi_i_4, h⟩ := h
        refine fw_iast hx hb hK hF hS (mf_arr had 15 (by decide)) hi_i_4 dX9_lays_83 (fun H locs hF hS => ?_)
        rw [mf_st had 15 (by decide)] at hF
        obtain ⟨g_5, hg_g_5⟩ : ∃ z, z = mup g 15 (r_3).toNatClampNeg y5 := ⟨_, rfl⟩
        rw [← hg_g_5] at hF; have h := h g_5 hg_g_5
        refine lv_aload_n hx hb dX9_lays_84 rfl (lv_at hl 0 rfl) ?_
        refine fw_get (C := RX9) (T := TX9) (N := 34) hx hb hts hin_X9 hown hK hF mf_obj rfl 14 (by decide) (hts (.fieldLink RX9 32 "FrontCodedIndexModel" "many" "[I") (by decide +kernel)) (fun _ h9 => h9) rfl dX9_lays_85 ?_
        refine lv_iload_n hx hb dX9_lays_88 rfl (lv_at hl 1 rfl) ?_
        refine lv_dup2_11 hx hb dX9_lays_89 rfl rfl ?_
        obtain ⟨hi_i_6, h⟩ := h
        refine fw_iald hx hb hK hF (mf_arr had 14 (by decide)) hi_i_6 dX9_lays_90 ?_
        refine lv_topi (fun v_7 e_v_7 => ?_)
        have h := h v_7 e_v_7
        refine lv_iconst (v := (1 : Int32)) hx hb dX9_lays_91 (by decide) ?_
        refine lv_iadd hx hb dX9_lays_92 ?_
        obtain ⟨hi_i_8, h⟩ := h
        refine fw_iast hx hb hK hF hS (mf_arr had 14 (by decide)) hi_i_8 dX9_lays_93 (fun H locs hF hS => ?_)
        rw [mf_st had 14 (by decide)] at hF
        obtain ⟨g_9, hg_g_9⟩ : ∃ z, z = mup g_5 14 (x1).toNatClampNeg (v_7 + (1 : Int32)) := ⟨_, rfl⟩
        rw [← hg_g_9] at hF; have h := h g_9 hg_g_9
        refine lv_iload hx hb dX9_lays_94 (lv_at hl 4 rfl) ?_
        refine lv_iload hx hb dX9_lays_96 (lv_at hl 5 rfl) ?_
        refine lv_iadd hx hb dX9_lays_98 ?_
        refine lv_topi (fun v_10 e_11 => ?_)
        have h := h v_10 e_11
        refine lv_istore (lv' := [(4, .int v_10), (0, .ref mo), (1, .int x1), (2, .int x2), (3, .int x3), (5, .int y5)]) hx hb dX9_lays_99 hl (by decide) rfl (fun ls hl => ?_)
        refine lv_goto (tgt := 10) hx hb dX9_lays_101 (by decide) ?_
        exact ih10 v_10 n g_9 _ _ _ h hF hS (lv_sub hl [1, 2, 3, 4, 0] rfl)
      have L30 : ∀ (y4 : Int32) (y6 : Int32) (j9 : Nat) (y5 : Int32) (n : Nat → Int32) (g : Nat → Nat → Int32) (H : Heap) (locs : List Loc) (ls : Array Slot), loopW (wp_X9_lays_30 x1 x2 x3 y4 y6 K C10) j9 (y5, n, g) → Fw G A (mf mo ad n g) H → va_S A s.heap H locs → lv_has ls 7 [(0, .ref mo), (1, .int x1), (2, .int x2), (3, .int x3), (4, .int y4), (5, .int y5), (6, .int y6)] → W p l e ({ frames := 5, cells := 0, slots := 0, locals := 120 } : Room) s m ([.ref mo, .int x1, .int x2, .int x3] : List Value).toArray below meth c H locs 0 0 (MQ below (va_Qv (fun f9 => ∃ n9 g9, f9 = mf mo ad n9 g9 ∧ K n9 g9 : FT → Prop) (FB G A) A) ([.ref mo, .int x1, .int x2, .int x3] : List Value).toArray s 0 0 A) (F0 m 30 ls []) := by
        intro y4 y6 j9
        induction j9 with
        | zero => intro y5 n g H locs ls h; exact h.elim
        | succ j9 ih30 =>
          intro y5 n g H locs ls h hF hS hl
          have h : wp_X9_lays_30 x1 x2 x3 y4 y6 K C10 (loopW (wp_X9_lays_30 x1 x2 x3 y4 y6 K C10) j9) (y5, n, g) := h
          generalize loopW (wp_X9_lays_30 x1 x2 x3 y4 y6 K C10) j9 = C30 at ih30 h
          unfold wp_X9_lays_30 at h
          have J61 : ∀ (y5 : Int32) (n : Nat → Int32) (g : Nat → Nat → Int32) (H : Heap) (locs : List Loc) (ls : Array Slot), wp_X9_lays_61 x1 x2 x3 y4 y6 y5 n g K C10 C30 → Fw G A (mf mo ad n g) H → va_S A s.heap H locs → lv_has ls 7 [(0, .ref mo), (1, .int x1), (2, .int x2), (3, .int x3), (4, .int y4), (5, .int y5), (6, .int y6)] → W p l e ({ frames := 5, cells := 0, slots := 0, locals := 120 } : Room) s m ([.ref mo, .int x1, .int x2, .int x3] : List Value).toArray below meth c H locs 0 0 (MQ below (va_Qv (fun f9 => ∃ n9 g9, f9 = mf mo ad n9 g9 ∧ K n9 g9 : FT → Prop) (FB G A) A) ([.ref mo, .int x1, .int x2, .int x3] : List Value).toArray s 0 0 A) (F0 m 61 ls []) := by
            intro y5 n g H locs ls h hF hS hl
            unfold wp_X9_lays_61 at h
            obtain ⟨v_12, e_13⟩ : ∃ y : Int32, y = y5 + 1 := ⟨_, rfl⟩
            have h := h v_12 e_13
            refine lv_iinc (v := v_12) (lv' := [(5, .int v_12), (0, .ref mo), (1, .int x1), (2, .int x2), (3, .int x3), (4, .int y4), (6, .int y6)]) hx hb dX9_lays_61 hl (k := 5) rfl (by rw [e_13]; rfl) (by decide) rfl (fun ls hl => ?_)
            refine lv_goto (tgt := 30) hx hb dX9_lays_64 (by decide) ?_
            exact ih30 v_12 n g _ _ _ h hF hS (lv_sub hl [1, 2, 3, 4, 5, 0, 6] rfl)
          refine lv_iload hx hb dX9_lays_30 (lv_at hl 4 rfl) ?_
          refine lv_iload hx hb dX9_lays_32 (lv_at hl 5 rfl) ?_
          refine lv_iadd hx hb dX9_lays_34 ?_
          refine lv_iload_n hx hb dX9_lays_35 rfl (lv_at hl 2 rfl) ?_
          obtain ⟨h1, h2⟩ := h
          refine lv_icmp_ge (tgt := 67) hx hb dX9_lays_36 (by decide) (fun c_14 => ?_) (fun c_14 => ?_)
          · have h := h1 c_14
            exact J67 y4 y5 n g _ _ _ h hF hS (lv_sub hl [0, 1, 2, 3, 4, 5] rfl)
          · have h := h2 c_14
            refine lv_iload hx hb dX9_lays_39 (lv_at hl 5 rfl) ?_
            refine lv_iload hx hb dX9_lays_41 (lv_at hl 6 rfl) ?_
            obtain ⟨h1, h2⟩ := h
            refine lv_icmp_lt (tgt := 61) hx hb dX9_lays_43 (by decide) (fun c_15 => ?_) (fun c_15 => ?_)
            · have h := h1 c_15
              exact J61 y5 n g _ _ _ h hF hS (lv_sub hl [0, 1, 2, 3, 4, 5, 6] rfl)
            · have h := h2 c_15
              refine lv_aload_n hx hb dX9_lays_46 rfl (lv_at hl 0 rfl) ?_
              refine lv_iload_n hx hb dX9_lays_47 rfl (lv_at hl 1 rfl) ?_
              refine lv_iload hx hb dX9_lays_48 (lv_at hl 4 rfl) ?_
              refine lv_iload hx hb dX9_lays_50 (lv_at hl 5 rfl) ?_
              refine lv_iconst (v := (1 : Int32)) hx hb dX9_lays_52 (by decide) ?_
              refine lv_iadd hx hb dX9_lays_53 ?_
              refine fw_cV_i_p (As := [.int x1, .int y4, .int (y5 + (1 : Int32))]) (rest := []) ⟨hx, hb, hml, hown, hts⟩ (cc_X9_partSize l G had h) (⟨callB_of 3 hts ggX9_lays_X9_partSize rfl rfl rfl (hts (.initialized RX9) (by decide +kernel)) (hts (.methodLink RX9 130 yX9_partSize) (by decide +kernel)) (by decide +kernel) ⟨Nat.le_of_ble_eq_true rfl, Nat.le_of_ble_eq_true rfl⟩, hts (.instanceMethod yX9_partSize) (by decide +kernel), hts (.selects RX9 yX9_partSize yX9_partSize) (by decide +kernel)⟩) rfl mf_obj hK hZ hF hS hA rfl hl.1 rfl (Nat.le_of_ble_eq_true rfl) dX9_lays_54 ⟨Nat.zero_le _, Nat.zero_le _⟩ (fun r_16 H locs h hF hS => ?_)
              refine lv_iload_n hx hb dX9_lays_57 rfl (lv_at hl 3 rfl) ?_
              obtain ⟨h1, h2⟩ := h
              refine lv_icmp_gt (tgt := 67) hx hb dX9_lays_58 (by decide) (fun c_17 => ?_) (fun c_17 => ?_)
              · have h := h1 c_17
                exact J67 y4 y5 n g _ _ _ h hF hS (lv_sub hl [0, 1, 2, 3, 4, 5] rfl)
              · have h := h2 c_17
                exact J61 y5 n g _ _ _ h hF hS (lv_sub hl [0, 1, 2, 3, 4, 5, 6] rfl)
      have J28 : ∀ (y4 : Int32) (y5 : Int32) (z0 : Int32) (n : Nat → Int32) (g : Nat → Nat → Int32) (H : Heap) (locs : List Loc) (ls : Array Slot), wp_X9_lays_28 x1 x2 x3 y4 y5 z0 n g K C10 → Fw G A (mf mo ad n g) H → va_S A s.heap H locs → lv_has ls 7 [(0, .ref mo), (1, .int x1), (2, .int x2), (3, .int x3), (4, .int y4), (5, .int y5)] → W p l e ({ frames := 5, cells := 0, slots := 0, locals := 120 } : Room) s m ([.ref mo, .int x1, .int x2, .int x3] : List Value).toArray below meth c H locs 0 0 (MQ below (va_Qv (fun f9 => ∃ n9 g9, f9 = mf mo ad n9 g9 ∧ K n9 g9 : FT → Prop) (FB G A) A) ([.ref mo, .int x1, .int x2, .int x3] : List Value).toArray s 0 0 A) (F0 m 28 ls [.int z0]) := by
        intro y4 y5 z0 n g H locs ls h hF hS hl
        unfold wp_X9_lays_28 at h
        refine lv_istore (lv' := [(6, .int z0), (0, .ref mo), (1, .int x1), (2, .int x2), (3, .int x3), (4, .int y4), (5, .int y5)]) hx hb dX9_lays_28 hl (by decide) rfl (fun ls hl => ?_)
        obtain ⟨n_18, h⟩ := h
        exact L30 y4 z0 n_18 y5 n g _ _ _ h hF hS (lv_sub hl [1, 2, 3, 4, 5, 6, 0] rfl)
      refine lv_iload hx hb dX9_lays_10 (lv_at hl 4 rfl) ?_
      refine lv_iload_n hx hb dX9_lays_12 rfl (lv_at hl 2 rfl) ?_
      obtain ⟨h1, h2⟩ := h
      refine lv_icmp_ge (tgt := 104) hx hb dX9_lays_13 (by decide) (fun c_19 => ?_) (fun c_19 => ?_)
      · have h := h1 c_19
        exact W.vret hx hb hr (fun t ht hW => ⟨⟨(mf mo ad n g), rfl, ⟨_, _, rfl, h⟩, by rw [ht]; exact hF, FK.moved hW.alike hK⟩, hS.F ht⟩) hS.2.2 dX9_lays_104
      · have h := h2 c_19
        refine lv_iconst (v := (0 : Int32)) hx hb dX9_lays_16 (by decide) ?_
        refine lv_istore (lv' := [(5, .int (0 : Int32)), (0, .ref mo), (1, .int x1), (2, .int x2), (3, .int x3), (4, .int y4)]) hx hb dX9_lays_17 hl (by decide) rfl (fun ls hl => ?_)
        refine lv_iload_n hx hb dX9_lays_19 rfl (lv_at hl 2 rfl) ?_
        obtain ⟨h1, h2⟩ := h
        refine lv_if_ne (tgt := 27) hx hb dX9_lays_20 (by decide) (fun c_20 => ?_) (fun c_20 => ?_)
        · have h := h1 c_20
          refine lv_iconst (v := (2 : Int32)) hx hb dX9_lays_27 (by decide) ?_
          exact J28 y4 (0 : Int32) (2 : Int32) n g _ _ _ h hF hS (lv_sub hl [1, 2, 3, 4, 5, 0] rfl)
        · have h := h2 c_20
          refine lv_iconst (v := (1 : Int32)) hx hb dX9_lays_23 (by decide) ?_
          refine lv_goto (tgt := 28) hx hb dX9_lays_24 (by decide) ?_
          exact J28 y4 (0 : Int32) (1 : Int32) n g _ _ _ h hF hS (lv_sub hl [1, 2, 3, 4, 5, 0] rfl)
  have hl := lv_entry ([.ref mo, .int x1, .int x2, .int x3]) (n := 7) (Nat.le_of_ble_eq_true rfl)
  rw [lg_entry_eq]
  generalize (lg_sl ([.ref mo, .int x1, .int x2, .int x3]) ++ List.replicate (7 - (lg_sl ([.ref mo, .int x1, .int x2, .int x3])).length) Slot.unset).toArray = ls at hl ⊢
  have hl : lv_has ls 7 [(0, .ref mo), (1, .int x1), (2, .int x2), (3, .int x3)] := hl
  unfold wp_X9_lays at h
  refine lv_iconst (v := (0 : Int32)) hx hb dX9_lays_0 (by decide) ?_
  refine lv_istore (lv' := [(4, .int (0 : Int32)), (0, .ref mo), (1, .int x1), (2, .int x2), (3, .int x3)]) hx hb dX9_lays_1 hl (by decide) rfl (fun ls hl => ?_)
  refine lv_aload_n hx hb dX9_lays_3 rfl (lv_at hl 1 rfl) ?_
  refine fw_get (C := RX9) (T := TX9) (N := 34) hx hb hts hin_X9 hown hK hF mf_obj rfl 14 (by decide) (hts (.fieldLink RX9 32 "FrontCodedIndexModel" "many" "[I") (by decide +kernel)) (fun _ h9 => h9) rfl dX9_lays_4 ?_
  refine lv_iload_n hx hb dX9_lays_7 rfl (lv_at hl 2 rfl) ?_
  refine lv_iconst (v := (0 : Int32)) hx hb dX9_lays_8 (by decide) ?_
  obtain ⟨hi_i_21, h⟩ := h
  refine fw_iast hx hb hK hF hS (mf_arr had 14 (by decide)) hi_i_21 dX9_lays_9 (fun H locs hF hS => ?_)
  rw [mf_st had 14 (by decide)] at hF
  obtain ⟨g_22, hg_g_22⟩ : ∃ z, z = mup g 14 (x1).toNatClampNeg (0 : Int32) := ⟨_, rfl⟩
  rw [← hg_g_22] at hF; have h := h g_22 hg_g_22
  obtain ⟨n_23, h⟩ := h
  exact L10 n_23 (0 : Int32) n g_22 _ _ _ h hF hS (lv_sub hl [1, 2, 3, 4, 0] rfl)
theorem dX9_leafFor_0 : decode cX9_leafFor 0 = .ok (.iconst 0, 1) := by decide +kernel
theorem dX9_leafFor_1 : decode cX9_leafFor 1 = .ok (.istore_n 3, 1) := by decide +kernel
theorem dX9_leafFor_2 : decode cX9_leafFor 2 = .ok (.aload_n 0, 1) := by decide +kernel
theorem dX9_leafFor_3 : decode cX9_leafFor 3 = .ok (.getfield 29, 3) := by decide +kernel
theorem dX9_leafFor_6 : decode cX9_leafFor 6 = .ok (.iconst 1, 1) := by decide +kernel
theorem dX9_leafFor_7 : decode cX9_leafFor 7 = .ok (.isub, 1) := by decide +kernel
theorem dX9_leafFor_8 : decode cX9_leafFor 8 = .ok (.istore 4, 2) := by decide +kernel
theorem dX9_leafFor_10 : decode cX9_leafFor 10 = .ok (.iload 4, 2) := by decide +kernel
theorem dX9_leafFor_12 : decode cX9_leafFor 12 = .ok (.ifCond .le 103, 3) := by decide +kernel
theorem dX9_leafFor_15 : decode cX9_leafFor 15 = .ok (.aload_n 0, 1) := by decide +kernel
theorem dX9_leafFor_16 : decode cX9_leafFor 16 = .ok (.iload 4, 2) := by decide +kernel
theorem dX9_leafFor_18 : decode cX9_leafFor 18 = .ok (.iload_n 3, 1) := by decide +kernel
theorem dX9_leafFor_19 : decode cX9_leafFor 19 = .ok (.invokevirtual 117, 3) := by decide +kernel
theorem dX9_leafFor_22 : decode cX9_leafFor 22 = .ok (.istore 5, 2) := by decide +kernel
theorem dX9_leafFor_24 : decode cX9_leafFor 24 = .ok (.iload 5, 2) := by decide +kernel
theorem dX9_leafFor_26 : decode cX9_leafFor 26 = .ok (.istore 6, 2) := by decide +kernel
theorem dX9_leafFor_28 : decode cX9_leafFor 28 = .ok (.iload 5, 2) := by decide +kernel
theorem dX9_leafFor_30 : decode cX9_leafFor 30 = .ok (.istore 7, 2) := by decide +kernel
theorem dX9_leafFor_32 : decode cX9_leafFor 32 = .ok (.iload 7, 2) := by decide +kernel
theorem dX9_leafFor_34 : decode cX9_leafFor 34 = .ok (.iload 5, 2) := by decide +kernel
theorem dX9_leafFor_36 : decode cX9_leafFor 36 = .ok (.aload_n 0, 1) := by decide +kernel
theorem dX9_leafFor_37 : decode cX9_leafFor 37 = .ok (.getfield 35, 3) := by decide +kernel
theorem dX9_leafFor_40 : decode cX9_leafFor 40 = .ok (.iload 4, 2) := by decide +kernel
theorem dX9_leafFor_42 : decode cX9_leafFor 42 = .ok (.iload_n 3, 1) := by decide +kernel
theorem dX9_leafFor_43 : decode cX9_leafFor 43 = .ok (.invokestatic 113, 3) := by decide +kernel
theorem dX9_leafFor_46 : decode cX9_leafFor 46 = .ok (.iaload, 1) := by decide +kernel
theorem dX9_leafFor_47 : decode cX9_leafFor 47 = .ok (.iadd, 1) := by decide +kernel
theorem dX9_leafFor_48 : decode cX9_leafFor 48 = .ok (.iconst 1, 1) := by decide +kernel
theorem dX9_leafFor_49 : decode cX9_leafFor 49 = .ok (.isub, 1) := by decide +kernel
theorem dX9_leafFor_50 : decode cX9_leafFor 50 = .ok (.if_icmp .ge 56, 3) := by decide +kernel
theorem dX9_leafFor_53 : decode cX9_leafFor 53 = .ok (.aload_n 0, 1) := by decide +kernel
theorem dX9_leafFor_54 : decode cX9_leafFor 54 = .ok (.iload 4, 2) := by decide +kernel
theorem dX9_leafFor_56 : decode cX9_leafFor 56 = .ok (.iconst 1, 1) := by decide +kernel
theorem dX9_leafFor_57 : decode cX9_leafFor 57 = .ok (.isub, 1) := by decide +kernel
theorem dX9_leafFor_58 : decode cX9_leafFor 58 = .ok (.iload 7, 2) := by decide +kernel
theorem dX9_leafFor_60 : decode cX9_leafFor 60 = .ok (.invokevirtual 120, 3) := by decide +kernel
theorem dX9_leafFor_63 : decode cX9_leafFor 63 = .ok (.istore 8, 2) := by decide +kernel
theorem dX9_leafFor_65 : decode cX9_leafFor 65 = .ok (.iload 6, 2) := by decide +kernel
theorem dX9_leafFor_67 : decode cX9_leafFor 67 = .ok (.aload_n 0, 1) := by decide +kernel
theorem dX9_leafFor_68 : decode cX9_leafFor 68 = .ok (.getfield 41, 3) := by decide +kernel
theorem dX9_leafFor_71 : decode cX9_leafFor 71 = .ok (.bipush 12, 2) := by decide +kernel
theorem dX9_leafFor_73 : decode cX9_leafFor 73 = .ok (.iload 8, 2) := by decide +kernel
theorem dX9_leafFor_75 : decode cX9_leafFor 75 = .ok (.imul, 1) := by decide +kernel
theorem dX9_leafFor_76 : decode cX9_leafFor 76 = .ok (.aload_n 0, 1) := by decide +kernel
theorem dX9_leafFor_77 : decode cX9_leafFor 77 = .ok (.getfield 38, 3) := by decide +kernel
theorem dX9_leafFor_80 : decode cX9_leafFor 80 = .ok (.iload 8, 2) := by decide +kernel
theorem dX9_leafFor_82 : decode cX9_leafFor 82 = .ok (.iaload, 1) := by decide +kernel
theorem dX9_leafFor_83 : decode cX9_leafFor 83 = .ok (.aload_n 1, 1) := by decide +kernel
theorem dX9_leafFor_84 : decode cX9_leafFor 84 = .ok (.iconst 0, 1) := by decide +kernel
theorem dX9_leafFor_85 : decode cX9_leafFor 85 = .ok (.iload_n 2, 1) := by decide +kernel
theorem dX9_leafFor_86 : decode cX9_leafFor 86 = .ok (.invokestatic 103, 3) := by decide +kernel
theorem dX9_leafFor_89 : decode cX9_leafFor 89 = .ok (.ifCond .gt 7, 3) := by decide +kernel
theorem dX9_leafFor_92 : decode cX9_leafFor 92 = .ok (.iconst 1, 1) := by decide +kernel
theorem dX9_leafFor_93 : decode cX9_leafFor 93 = .ok (.goto 4, 3) := by decide +kernel
theorem dX9_leafFor_96 : decode cX9_leafFor 96 = .ok (.iconst 0, 1) := by decide +kernel
theorem dX9_leafFor_97 : decode cX9_leafFor 97 = .ok (.iadd, 1) := by decide +kernel
theorem dX9_leafFor_98 : decode cX9_leafFor 98 = .ok (.istore 6, 2) := by decide +kernel
theorem dX9_leafFor_100 : decode cX9_leafFor 100 = .ok (.iinc 7 1, 3) := by decide +kernel
theorem dX9_leafFor_103 : decode cX9_leafFor 103 = .ok (.goto (-71), 3) := by decide +kernel
theorem dX9_leafFor_106 : decode cX9_leafFor 106 = .ok (.iload 6, 2) := by decide +kernel
theorem dX9_leafFor_108 : decode cX9_leafFor 108 = .ok (.istore_n 3, 1) := by decide +kernel
theorem dX9_leafFor_109 : decode cX9_leafFor 109 = .ok (.iinc 4 (-1), 3) := by decide +kernel
theorem dX9_leafFor_112 : decode cX9_leafFor 112 = .ok (.goto (-102), 3) := by decide +kernel
theorem dX9_leafFor_115 : decode cX9_leafFor 115 = .ok (.iload_n 3, 1) := by decide +kernel
theorem dX9_leafFor_116 : decode cX9_leafFor 116 = .ok (.ireturn, 1) := by decide +kernel
set_option maxRecDepth 20000 in
theorem ggX9_leafFor_X9_at : GoodIn wsX9_leafFor wsX9_at := goodIn_r _ [12] (by decide +kernel) (by decide +kernel)
set_option maxRecDepth 20000 in
theorem ggX9_leafFor_X9_compare : GoodIn wsX9_leafFor wsX9_compare := goodIn_r _ [19, 20, 21, 8, 22] (by decide +kernel) (by decide +kernel)
set_option maxRecDepth 20000 in
theorem ggX9_leafFor_X9_firstOf : GoodIn wsX9_leafFor wsX9_firstOf := goodIn_r _ [9, 2, 10, 11, 8, 12, 23, 24, 25, 26, 27, 28, 29, 30, 31, 32, 33, 34, 35, 36, 37, 38, 39, 40, 41, 42, 43, 44, 45, 46, 47, 48, 49, 50, 51, 52, 53, 54, 55, 56] (by decide +kernel) (by decide +kernel)
set_option maxRecDepth 20000 in
theorem ggX9_leafFor_X9_lastLeaf : GoodIn wsX9_leafFor wsX9_lastLeaf := goodIn_r _ [16, 5, 6, 7, 8, 9, 2, 10, 11, 12, 23, 24, 25, 26, 27, 28, 29, 30, 31, 32, 33, 34, 35, 36, 37, 38, 39, 40, 41, 42, 43, 44, 45, 46, 47, 48, 49, 50, 51, 52, 53, 54, 55, 56] (by decide +kernel) (by decide +kernel)
def wp_X9_leafFor_97 (k1 : Nat) (x2 : Int32) (y3 : Int32) (y4 : Int32) (y5 : Int32) (y7 : Int32) (z0 : Int32) (z1 : Int32) (n : Nat → Int32) (g : Nat → Nat → Int32) (K : Int32 → Prop) (C10 : Int32 × Int32 → Prop) (C32 : Int32 × Int32 → Prop) : Prop :=
  ∀ v_1 : Int32, v_1 = (z1 + z0) → ∀ v_3 : Int32, v_3 = y7 + 1 → C32 (v_1, v_3)
def wp_X9_leafFor_32 (k1 : Nat) (x2 : Int32) (y3 : Int32) (y4 : Int32) (y5 : Int32) (n : Nat → Int32) (g : Nat → Nat → Int32) (K : Int32 → Prop) (C10 : Int32 × Int32 → Prop) (C32 : Int32 × Int32 → Prop) : Int32 × Int32 → Prop := fun s9 => match s9 with
  | (y6, y7) => wp_X9_at y4 y3 n g (fun r_5 => vp_in r_5 (mlen 15) ∧ ∀ v_7 : Int32, v_7 = g 15 (r_5).toNatClampNeg → ((((y5 + v_7) - (1 : Int32)) ≤ y7 → ∀ v_9 : Int32, v_9 = y4 + (-1) → C10 (y6, v_9)) ∧
 (¬ (((y5 + v_7) - (1 : Int32)) ≤ y7) → wp_X9_lastLeaf (y4 - (1 : Int32)) y7 n g (fun r_11 => vp_in r_11 (mlen 16) ∧ ∀ v_13 : Int32, v_13 = g 16 (r_11).toNatClampNeg → wp_X9_compare 17 ((12 : Int32) * r_11) v_13 k1 (0 : Int32) x2 n g (fun r_14 => (((0 : Int32) < r_14 → wp_X9_leafFor_97 k1 x2 y3 y4 y5 y7 (0 : Int32) y6 n g K C10 C32) ∧
 (¬ ((0 : Int32) < r_14) → wp_X9_leafFor_97 k1 x2 y3 y4 y5 y7 (1 : Int32) y6 n g K C10 C32)))))))
def wp_X9_leafFor_10 (k1 : Nat) (x2 : Int32) (n : Nat → Int32) (g : Nat → Nat → Int32) (K : Int32 → Prop)  (C10 : Int32 × Int32 → Prop) : Int32 × Int32 → Prop := fun s9 => match s9 with
  | (y3, y4) => ((y4 ≤ (0 : Int32) → K y3) ∧
 (¬ (y4 ≤ (0 : Int32)) → wp_X9_firstOf y4 y3 n g (fun r_17 => ∃ n_18, loopW (wp_X9_leafFor_32 k1 x2 y3 y4 r_17 n g K C10) n_18 (r_17, r_17))))
def wp_X9_leafFor (k1 : Nat) (x2 : Int32) (n : Nat → Int32) (g : Nat → Nat → Int32) (K : Int32 → Prop) : Prop :=
  ∀ v_19 : Int32, v_19 = ((n 13) - (1 : Int32)) → ∃ n_21, loopW (wp_X9_leafFor_10 k1 x2 n g K) n_21 ((0 : Int32), v_19)
set_option maxHeartbeats 4000000 in
set_option maxRecDepth 100000 in
theorem cc_X9_leafFor (l : Launch) (G : GG) {mo : Nat} {ad : Nat → Nat} (had : MAd mo ad) {n : Nat → Int32} {g : Nat → Nat → Int32} {sz : Nat} {k1 : Nat} {x2 : Int32} {K : Int32 → Prop} (h : wp_X9_leafFor k1 x2 n g K) : Met l yX9_leafFor wsX9_leafFor ({ frames := 3, cells := 0, slots := 0, locals := 69 } : Room) (FP G [.ref mo, .ref (ad k1), .int x2] (mf mo ad n g) sz) (va_Qi (fun r f9 => K r ∧ f9 = mf mo ad n g : Int32 → FT → Prop) (FB G (fA (mf mo ad n g) sz)) (fA (mf mo ad n g) sz)) 0 0 (fA (mf mo ad n g) sz) := by
  refine Met.ofW (cc := cX9_leafFor) (maxL := 9) (ret := (some .int)) (by decide) rfl ?_
  intro p e s m args below meth c s₁ B hml hv
  obtain ⟨rfl, hsz, hF, hK, hZ⟩ := hv
  have hx := B.exec
  have hb := B.bytes
  have hr := B.returns
  have hts := atoms_spec (ws := wsX9_leafFor) B.pre
  have hown : s.vm.findClass RX9 = some m.cls := findClass_of_methodNamed B.named
  have hlocks := B.notSynchronized
  subst hsz
  have hF := hF.self (sz := s.heap.size)
  generalize hAe : fA (mf mo ad n g) s.heap.size = A at hF hZ ⊢
  have hA : ∀ q : Nat, s.heap.size ≤ q → A q := fun q h => by rw [← hAe]; exact Or.inr h
  have hS : va_S A s.heap s.heap [] := va_S.rf
  have hin_X9 : ∀ w ∈ wsX90, w ∈ wsX9_leafFor := by decide +kernel
  have L10 : ∀  (j9 : Nat) (y3 : Int32) (y4 : Int32) (H : Heap) (locs : List Loc) (ls : Array Slot), loopW (wp_X9_leafFor_10 k1 x2 n g K ) j9 (y3, y4) → Fw G A (mf mo ad n g) H → va_S A s.heap H locs → lv_has ls 9 [(0, .ref mo), (1, .ref (ad k1)), (2, .int x2), (3, .int y3), (4, .int y4)] → W p l e ({ frames := 3, cells := 0, slots := 0, locals := 69 } : Room) s m ([.ref mo, .ref (ad k1), .int x2] : List Value).toArray below meth c H locs 0 0 (MQ below (va_Qi (fun r f9 => K r ∧ f9 = mf mo ad n g : Int32 → FT → Prop) (FB G A) A) ([.ref mo, .ref (ad k1), .int x2] : List Value).toArray s 0 0 A) (F0 m 10 ls []) := by
    intro  j9
    induction j9 with
    | zero => intro y3 y4 H locs ls h; exact h.elim
    | succ j9 ih10 =>
      intro y3 y4 H locs ls h hF hS hl
      have h : wp_X9_leafFor_10 k1 x2 n g K  (loopW (wp_X9_leafFor_10 k1 x2 n g K ) j9) (y3, y4) := h
      generalize loopW (wp_X9_leafFor_10 k1 x2 n g K ) j9 = C10 at ih10 h
      unfold wp_X9_leafFor_10 at h
      have L32 : ∀ (y3 : Int32) (y4 : Int32) (y5 : Int32) (j9 : Nat) (y6 : Int32) (y7 : Int32) (H : Heap) (locs : List Loc) (ls : Array Slot), loopW (wp_X9_leafFor_32 k1 x2 y3 y4 y5 n g K C10) j9 (y6, y7) → Fw G A (mf mo ad n g) H → va_S A s.heap H locs → lv_has ls 9 [(0, .ref mo), (1, .ref (ad k1)), (2, .int x2), (3, .int y3), (4, .int y4), (5, .int y5), (6, .int y6), (7, .int y7)] → W p l e ({ frames := 3, cells := 0, slots := 0, locals := 69 } : Room) s m ([.ref mo, .ref (ad k1), .int x2] : List Value).toArray below meth c H locs 0 0 (MQ below (va_Qi (fun r f9 => K r ∧ f9 = mf mo ad n g : Int32 → FT → Prop) (FB G A) A) ([.ref mo, .ref (ad k1), .int x2] : List Value).toArray s 0 0 A) (F0 m 32 ls []) := by
        intro y3 y4 y5 j9
        induction j9 with
        | zero => intro y6 y7 H locs ls h; exact h.elim
        | succ j9 ih32 =>
          intro y6 y7 H locs ls h hF hS hl
          have h : wp_X9_leafFor_32 k1 x2 y3 y4 y5 n g K C10 (loopW (wp_X9_leafFor_32 k1 x2 y3 y4 y5 n g K C10) j9) (y6, y7) := h
          generalize loopW (wp_X9_leafFor_32 k1 x2 y3 y4 y5 n g K C10) j9 = C32 at ih32 h
          unfold wp_X9_leafFor_32 at h
          have J97 : ∀ (y7 : Int32) (z0 : Int32) (z1 : Int32) (H : Heap) (locs : List Loc) (ls : Array Slot), wp_X9_leafFor_97 k1 x2 y3 y4 y5 y7 z0 z1 n g K C10 C32 → Fw G A (mf mo ad n g) H → va_S A s.heap H locs → lv_has ls 9 [(0, .ref mo), (1, .ref (ad k1)), (2, .int x2), (3, .int y3), (4, .int y4), (5, .int y5), (7, .int y7)] → W p l e ({ frames := 3, cells := 0, slots := 0, locals := 69 } : Room) s m ([.ref mo, .ref (ad k1), .int x2] : List Value).toArray below meth c H locs 0 0 (MQ below (va_Qi (fun r f9 => K r ∧ f9 = mf mo ad n g : Int32 → FT → Prop) (FB G A) A) ([.ref mo, .ref (ad k1), .int x2] : List Value).toArray s 0 0 A) (F0 m 97 ls [.int z0, .int z1]) := by
            intro y7 z0 z1 H locs ls h hF hS hl
            unfold wp_X9_leafFor_97 at h
            refine lv_iadd hx hb dX9_leafFor_97 ?_
            refine lv_topi (fun v_1 e_2 => ?_)
            have h := h v_1 e_2
            refine lv_istore (lv' := [(6, .int v_1), (0, .ref mo), (1, .ref (ad k1)), (2, .int x2), (3, .int y3), (4, .int y4), (5, .int y5), (7, .int y7)]) hx hb dX9_leafFor_98 hl (by decide) rfl (fun ls hl => ?_)
            obtain ⟨v_3, e_4⟩ : ∃ y : Int32, y = y7 + 1 := ⟨_, rfl⟩
            have h := h v_3 e_4
            refine lv_iinc (v := v_3) (lv' := [(7, .int v_3), (6, .int v_1), (0, .ref mo), (1, .ref (ad k1)), (2, .int x2), (3, .int y3), (4, .int y4), (5, .int y5)]) hx hb dX9_leafFor_100 hl (k := 7) rfl (by rw [e_4]; rfl) (by decide) rfl (fun ls hl => ?_)
            refine lv_goto (tgt := 32) hx hb dX9_leafFor_103 (by decide) ?_
            exact ih32 v_1 v_3 _ _ _ h hF hS (lv_sub hl [2, 3, 4, 5, 6, 7, 1, 0] rfl)
          refine lv_iload hx hb dX9_leafFor_32 (lv_at hl 7 rfl) ?_
          refine lv_iload hx hb dX9_leafFor_34 (lv_at hl 5 rfl) ?_
          refine lv_aload_n hx hb dX9_leafFor_36 rfl (lv_at hl 0 rfl) ?_
          refine fw_get (C := RX9) (T := TX9) (N := 34) hx hb hts hin_X9 hown hK hF mf_obj rfl 15 (by decide) (hts (.fieldLink RX9 35 "FrontCodedIndexModel" "parts" "[I") (by decide +kernel)) (fun _ h9 => h9) rfl dX9_leafFor_37 ?_
          refine lv_iload hx hb dX9_leafFor_40 (lv_at hl 4 rfl) ?_
          refine lv_iload_n hx hb dX9_leafFor_42 rfl (lv_at hl 3 rfl) ?_
          refine fw_cS_i_p (As := [.int y4, .int y3]) (rest := [.ref (ad 15), .int y5, .int y7]) ⟨hx, hb, hml, hown, hts⟩ (cc_X9_at l G had h) (⟨callB_of 2 hts ggX9_leafFor_X9_at rfl rfl rfl (hts (.initialized RX9) (by decide +kernel)) (hts (.methodLink RX9 113 yX9_at) (by decide +kernel)) (by decide +kernel) ⟨Nat.le_of_ble_eq_true rfl, Nat.le_of_ble_eq_true rfl⟩, hts (.static yX9_at) (by decide +kernel)⟩) hK hZ hF hS hA rfl hl.1 rfl (Nat.le_of_ble_eq_true rfl) dX9_leafFor_43 ⟨Nat.zero_le _, Nat.zero_le _⟩ (fun r_5 H locs h hF hS => ?_)
          obtain ⟨hi_i_6, h⟩ := h
          refine fw_iald hx hb hK hF (mf_arr had 15 (by decide)) hi_i_6 dX9_leafFor_46 ?_
          refine lv_topi (fun v_7 e_v_7 => ?_)
          have h := h v_7 e_v_7
          refine lv_iadd hx hb dX9_leafFor_47 ?_
          refine lv_iconst (v := (1 : Int32)) hx hb dX9_leafFor_48 (by decide) ?_
          refine lv_isub hx hb dX9_leafFor_49 ?_
          obtain ⟨h1, h2⟩ := h
          refine lv_icmp_ge (tgt := 106) hx hb dX9_leafFor_50 (by decide) (fun c_8 => ?_) (fun c_8 => ?_)
          · have h := h1 c_8
            refine lv_iload hx hb dX9_leafFor_106 (lv_at hl 6 rfl) ?_
            refine lv_istore_n (lv' := [(3, .int y6), (0, .ref mo), (1, .ref (ad k1)), (2, .int x2), (4, .int y4), (5, .int y5), (6, .int y6), (7, .int y7)]) hx hb dX9_leafFor_108 rfl hl (by decide) rfl (fun ls hl => ?_)
            obtain ⟨v_9, e_10⟩ : ∃ y : Int32, y = y4 + (-1) := ⟨_, rfl⟩
            have h := h v_9 e_10
            refine lv_iinc (v := v_9) (lv' := [(4, .int v_9), (3, .int y6), (0, .ref mo), (1, .ref (ad k1)), (2, .int x2), (5, .int y5), (6, .int y6), (7, .int y7)]) hx hb dX9_leafFor_109 hl (k := 4) rfl (by rw [e_10]; rfl) (by decide) rfl (fun ls hl => ?_)
            refine lv_goto (tgt := 10) hx hb dX9_leafFor_112 (by decide) ?_
            exact ih10 y6 v_9 _ _ _ h hF hS (lv_sub hl [2, 3, 4, 1, 0] rfl)
          · have h := h2 c_8
            refine lv_aload_n hx hb dX9_leafFor_53 rfl (lv_at hl 0 rfl) ?_
            refine lv_iload hx hb dX9_leafFor_54 (lv_at hl 4 rfl) ?_
            refine lv_iconst (v := (1 : Int32)) hx hb dX9_leafFor_56 (by decide) ?_
            refine lv_isub hx hb dX9_leafFor_57 ?_
            refine lv_iload hx hb dX9_leafFor_58 (lv_at hl 7 rfl) ?_
            refine fw_cV_i_p (As := [.int (y4 - (1 : Int32)), .int y7]) (rest := []) ⟨hx, hb, hml, hown, hts⟩ (cc_X9_lastLeaf l G had h) (⟨callB_of 2 hts ggX9_leafFor_X9_lastLeaf rfl rfl rfl (hts (.initialized RX9) (by decide +kernel)) (hts (.methodLink RX9 120 yX9_lastLeaf) (by decide +kernel)) (by decide +kernel) ⟨Nat.le_of_ble_eq_true rfl, Nat.le_of_ble_eq_true rfl⟩, hts (.instanceMethod yX9_lastLeaf) (by decide +kernel), hts (.selects RX9 yX9_lastLeaf yX9_lastLeaf) (by decide +kernel)⟩) rfl mf_obj hK hZ hF hS hA rfl hl.1 rfl (Nat.le_of_ble_eq_true rfl) dX9_leafFor_60 ⟨Nat.zero_le _, Nat.zero_le _⟩ (fun r_11 H locs h hF hS => ?_)
            refine lv_istore (lv' := [(8, .int r_11), (0, .ref mo), (1, .ref (ad k1)), (2, .int x2), (3, .int y3), (4, .int y4), (5, .int y5), (6, .int y6), (7, .int y7)]) hx hb dX9_leafFor_63 hl (by decide) rfl (fun ls hl => ?_)
            refine lv_iload hx hb dX9_leafFor_65 (lv_at hl 7 rfl) ?_
            refine lv_aload_n hx hb dX9_leafFor_67 rfl (lv_at hl 1 rfl) ?_
            refine fw_get (C := RX9) (T := TX9) (N := 34) hx hb hts hin_X9 hown hK hF mf_obj rfl 17 (by decide) (hts (.fieldLink RX9 41 "FrontCodedIndexModel" "sep" "[I") (by decide +kernel)) (fun _ h9 => h9) rfl dX9_leafFor_68 ?_
            refine lv_bipush (v := (12 : Int32)) hx hb dX9_leafFor_71 (by decide) ?_
            refine lv_iload hx hb dX9_leafFor_73 (lv_at hl 0 rfl) ?_
            refine lv_imul hx hb dX9_leafFor_75 ?_
            refine lv_aload_n hx hb dX9_leafFor_76 rfl (lv_at hl 1 rfl) ?_
            refine fw_get (C := RX9) (T := TX9) (N := 34) hx hb hts hin_X9 hown hK hF mf_obj rfl 16 (by decide) (hts (.fieldLink RX9 38 "FrontCodedIndexModel" "sepSize" "[I") (by decide +kernel)) (fun _ h9 => h9) rfl dX9_leafFor_77 ?_
            refine lv_iload hx hb dX9_leafFor_80 (lv_at hl 0 rfl) ?_
            obtain ⟨hi_i_12, h⟩ := h
            refine fw_iald hx hb hK hF (mf_arr had 16 (by decide)) hi_i_12 dX9_leafFor_82 ?_
            refine lv_topi (fun v_13 e_v_13 => ?_)
            have h := h v_13 e_v_13
            refine lv_aload_n hx hb dX9_leafFor_83 rfl (lv_at hl 2 rfl) ?_
            refine lv_iconst (v := (0 : Int32)) hx hb dX9_leafFor_84 (by decide) ?_
            refine lv_iload_n hx hb dX9_leafFor_85 rfl (lv_at hl 3 rfl) ?_
            refine fw_cS_i_p (As := [.ref (ad 17), .int ((12 : Int32) * r_11), .int v_13, .ref (ad k1), .int (0 : Int32), .int x2]) (rest := [.int y6]) ⟨hx, hb, hml, hown, hts⟩ (cc_X9_compare l G had h) (⟨callB_of 6 hts ggX9_leafFor_X9_compare rfl rfl rfl (hts (.initialized RX9) (by decide +kernel)) (hts (.methodLink RX9 103 yX9_compare) (by decide +kernel)) (by decide +kernel) ⟨Nat.le_of_ble_eq_true rfl, Nat.le_of_ble_eq_true rfl⟩, hts (.static yX9_compare) (by decide +kernel)⟩) hK hZ hF hS hA rfl hl.1 rfl (Nat.le_of_ble_eq_true rfl) dX9_leafFor_86 ⟨Nat.zero_le _, Nat.zero_le _⟩ (fun r_14 H locs h hF hS => ?_)
            obtain ⟨h1, h2⟩ := h
            refine lv_if_gt (tgt := 96) hx hb dX9_leafFor_89 (by decide) (fun c_15 => ?_) (fun c_15 => ?_)
            · have h := h1 c_15
              refine lv_iconst (v := (0 : Int32)) hx hb dX9_leafFor_96 (by decide) ?_
              exact J97 y7 (0 : Int32) y6 _ _ _ h hF hS (lv_sub hl [1, 2, 3, 4, 5, 6, 8] rfl)
            · have h := h2 c_15
              refine lv_iconst (v := (1 : Int32)) hx hb dX9_leafFor_92 (by decide) ?_
              refine lv_goto (tgt := 97) hx hb dX9_leafFor_93 (by decide) ?_
              exact J97 y7 (1 : Int32) y6 _ _ _ h hF hS (lv_sub hl [1, 2, 3, 4, 5, 6, 8] rfl)
      refine lv_iload hx hb dX9_leafFor_10 (lv_at hl 4 rfl) ?_
      obtain ⟨h1, h2⟩ := h
      refine lv_if_le (tgt := 115) hx hb dX9_leafFor_12 (by decide) (fun c_16 => ?_) (fun c_16 => ?_)
      · have h := h1 c_16
        refine lv_iload_n hx hb dX9_leafFor_115 rfl (lv_at hl 3 rfl) ?_
        exact W.iret (v := y3) hx hb hr (fun t ht hW => ⟨⟨y3, (mf mo ad n g), rfl, ⟨h, rfl⟩, by rw [ht]; exact hF, FK.moved hW.alike hK⟩, hS.F ht⟩) hS.2.2 dX9_leafFor_116
      · have h := h2 c_16
        refine lv_aload_n hx hb dX9_leafFor_15 rfl (lv_at hl 0 rfl) ?_
        refine lv_iload hx hb dX9_leafFor_16 (lv_at hl 4 rfl) ?_
        refine lv_iload_n hx hb dX9_leafFor_18 rfl (lv_at hl 3 rfl) ?_
        refine fw_cV_i_p (As := [.int y4, .int y3]) (rest := []) ⟨hx, hb, hml, hown, hts⟩ (cc_X9_firstOf l G had h) (⟨callB_of 2 hts ggX9_leafFor_X9_firstOf rfl rfl rfl (hts (.initialized RX9) (by decide +kernel)) (hts (.methodLink RX9 117 yX9_firstOf) (by decide +kernel)) (by decide +kernel) ⟨Nat.le_of_ble_eq_true rfl, Nat.le_of_ble_eq_true rfl⟩, hts (.instanceMethod yX9_firstOf) (by decide +kernel), hts (.selects RX9 yX9_firstOf yX9_firstOf) (by decide +kernel)⟩) rfl mf_obj hK hZ hF hS hA rfl hl.1 rfl (Nat.le_of_ble_eq_true rfl) dX9_leafFor_19 ⟨Nat.zero_le _, Nat.zero_le _⟩ (fun r_17 H locs h hF hS => ?_)
        refine lv_istore (lv' := [(5, .int r_17), (0, .ref mo), (1, .ref (ad k1)), (2, .int x2), (3, .int y3), (4, .int y4)]) hx hb dX9_leafFor_22 hl (by decide) rfl (fun ls hl => ?_)
        refine lv_iload hx hb dX9_leafFor_24 (lv_at hl 0 rfl) ?_
        refine lv_istore (lv' := [(6, .int r_17), (5, .int r_17), (0, .ref mo), (1, .ref (ad k1)), (2, .int x2), (3, .int y3), (4, .int y4)]) hx hb dX9_leafFor_26 hl (by decide) rfl (fun ls hl => ?_)
        refine lv_iload hx hb dX9_leafFor_28 (lv_at hl 1 rfl) ?_
        refine lv_istore (lv' := [(7, .int r_17), (6, .int r_17), (5, .int r_17), (0, .ref mo), (1, .ref (ad k1)), (2, .int x2), (3, .int y3), (4, .int y4)]) hx hb dX9_leafFor_30 hl (by decide) rfl (fun ls hl => ?_)
        obtain ⟨n_18, h⟩ := h
        exact L32 y3 y4 r_17 n_18 r_17 r_17 _ _ _ h hF hS (lv_sub hl [3, 4, 5, 6, 7, 2, 1, 0] rfl)
  have hl := lv_entry ([.ref mo, .ref (ad k1), .int x2]) (n := 9) (Nat.le_of_ble_eq_true rfl)
  rw [lg_entry_eq]
  generalize (lg_sl ([.ref mo, .ref (ad k1), .int x2]) ++ List.replicate (9 - (lg_sl ([.ref mo, .ref (ad k1), .int x2])).length) Slot.unset).toArray = ls at hl ⊢
  have hl : lv_has ls 9 [(0, .ref mo), (1, .ref (ad k1)), (2, .int x2)] := hl
  unfold wp_X9_leafFor at h
  refine lv_iconst (v := (0 : Int32)) hx hb dX9_leafFor_0 (by decide) ?_
  refine lv_istore_n (lv' := [(3, .int (0 : Int32)), (0, .ref mo), (1, .ref (ad k1)), (2, .int x2)]) hx hb dX9_leafFor_1 rfl hl (by decide) rfl (fun ls hl => ?_)
  refine lv_aload_n hx hb dX9_leafFor_2 rfl (lv_at hl 1 rfl) ?_
  refine fw_get (C := RX9) (T := TX9) (N := 34) hx hb hts hin_X9 hown hK hF mf_obj rfl 13 (by decide) (hts (.fieldLink RX9 29 "FrontCodedIndexModel" "levels" "I") (by decide +kernel)) (fun _ h9 => h9) rfl dX9_leafFor_3 ?_
  refine lv_iconst (v := (1 : Int32)) hx hb dX9_leafFor_6 (by decide) ?_
  refine lv_isub hx hb dX9_leafFor_7 ?_
  refine lv_topi (fun v_19 e_20 => ?_)
  have h := h v_19 e_20
  refine lv_istore (lv' := [(4, .int v_19), (3, .int (0 : Int32)), (0, .ref mo), (1, .ref (ad k1)), (2, .int x2)]) hx hb dX9_leafFor_8 hl (by decide) rfl (fun ls hl => ?_)
  obtain ⟨n_21, h⟩ := h
  exact L10 n_21 (0 : Int32) v_19 _ _ _ h hF hS (lv_sub hl [2, 3, 4, 1, 0] rfl)
theorem dX9_pages_0 : decode cX9_pages 0 = .ok (.iconst 0, 1) := by decide +kernel
theorem dX9_pages_1 : decode cX9_pages 1 = .ok (.istore_n 1, 1) := by decide +kernel
theorem dX9_pages_2 : decode cX9_pages 2 = .ok (.iconst 0, 1) := by decide +kernel
theorem dX9_pages_3 : decode cX9_pages 3 = .ok (.istore_n 2, 1) := by decide +kernel
theorem dX9_pages_4 : decode cX9_pages 4 = .ok (.iload_n 2, 1) := by decide +kernel
theorem dX9_pages_5 : decode cX9_pages 5 = .ok (.aload_n 0, 1) := by decide +kernel
theorem dX9_pages_6 : decode cX9_pages 6 = .ok (.getfield 29, 3) := by decide +kernel
theorem dX9_pages_9 : decode cX9_pages 9 = .ok (.if_icmp .ge 18, 3) := by decide +kernel
theorem dX9_pages_12 : decode cX9_pages 12 = .ok (.iload_n 1, 1) := by decide +kernel
theorem dX9_pages_13 : decode cX9_pages 13 = .ok (.aload_n 0, 1) := by decide +kernel
theorem dX9_pages_14 : decode cX9_pages 14 = .ok (.getfield 32, 3) := by decide +kernel
theorem dX9_pages_17 : decode cX9_pages 17 = .ok (.iload_n 2, 1) := by decide +kernel
theorem dX9_pages_18 : decode cX9_pages 18 = .ok (.iaload, 1) := by decide +kernel
theorem dX9_pages_19 : decode cX9_pages 19 = .ok (.iadd, 1) := by decide +kernel
theorem dX9_pages_20 : decode cX9_pages 20 = .ok (.istore_n 1, 1) := by decide +kernel
theorem dX9_pages_21 : decode cX9_pages 21 = .ok (.iinc 2 1, 3) := by decide +kernel
theorem dX9_pages_24 : decode cX9_pages 24 = .ok (.goto (-20), 3) := by decide +kernel
theorem dX9_pages_27 : decode cX9_pages 27 = .ok (.iload_n 1, 1) := by decide +kernel
theorem dX9_pages_28 : decode cX9_pages 28 = .ok (.ireturn, 1) := by decide +kernel
def wp_X9_pages_4  (n : Nat → Int32) (g : Nat → Nat → Int32) (K : Int32 → Prop)  (C4 : Int32 × Int32 → Prop) : Int32 × Int32 → Prop := fun s9 => match s9 with
  | (y1, y2) => (((n 13) ≤ y2 → K y1) ∧
 (¬ ((n 13) ≤ y2) → vp_in y2 (mlen 14) ∧ ∀ v_3 : Int32, v_3 = g 14 (y2).toNatClampNeg → ∀ v_4 : Int32, v_4 = (y1 + v_3) → ∀ v_6 : Int32, v_6 = y2 + 1 → C4 (v_4, v_6)))
def wp_X9_pages  (n : Nat → Int32) (g : Nat → Nat → Int32) (K : Int32 → Prop) : Prop :=
  ∃ n_8, loopW (wp_X9_pages_4 n g K) n_8 ((0 : Int32), (0 : Int32))
set_option maxHeartbeats 4000000 in
set_option maxRecDepth 100000 in
theorem cc_X9_pages (l : Launch) (G : GG) {mo : Nat} {ad : Nat → Nat} (had : MAd mo ad) {n : Nat → Int32} {g : Nat → Nat → Int32} {sz : Nat}  {K : Int32 → Prop} (h : wp_X9_pages  n g K) : Met l yX9_pages wsX9_pages ({ frames := 0, cells := 0, slots := 0, locals := 0 } : Room) (FP G [.ref mo] (mf mo ad n g) sz) (va_Qi (fun r f9 => K r ∧ f9 = mf mo ad n g : Int32 → FT → Prop) (FB G (fA (mf mo ad n g) sz)) (fA (mf mo ad n g) sz)) 0 0 (fA (mf mo ad n g) sz) := by
  refine Met.ofW (cc := cX9_pages) (maxL := 3) (ret := (some .int)) (by decide) rfl ?_
  intro p e s m args below meth c s₁ B hml hv
  obtain ⟨rfl, hsz, hF, hK, hZ⟩ := hv
  have hx := B.exec
  have hb := B.bytes
  have hr := B.returns
  have hts := atoms_spec (ws := wsX9_pages) B.pre
  have hown : s.vm.findClass RX9 = some m.cls := findClass_of_methodNamed B.named
  have hlocks := B.notSynchronized
  subst hsz
  have hF := hF.self (sz := s.heap.size)
  generalize hAe : fA (mf mo ad n g) s.heap.size = A at hF hZ ⊢
  have hA : ∀ q : Nat, s.heap.size ≤ q → A q := fun q h => by rw [← hAe]; exact Or.inr h
  have hS : va_S A s.heap s.heap [] := va_S.rf
  have hin_X9 : ∀ w ∈ wsX90, w ∈ wsX9_pages := by decide +kernel
  have L4 : ∀  (j9 : Nat) (y1 : Int32) (y2 : Int32) (H : Heap) (locs : List Loc) (ls : Array Slot), loopW (wp_X9_pages_4  n g K ) j9 (y1, y2) → Fw G A (mf mo ad n g) H → va_S A s.heap H locs → lv_has ls 3 [(0, .ref mo), (1, .int y1), (2, .int y2)] → W p l e ({ frames := 0, cells := 0, slots := 0, locals := 0 } : Room) s m ([.ref mo] : List Value).toArray below meth c H locs 0 0 (MQ below (va_Qi (fun r f9 => K r ∧ f9 = mf mo ad n g : Int32 → FT → Prop) (FB G A) A) ([.ref mo] : List Value).toArray s 0 0 A) (F0 m 4 ls []) := by
    intro  j9
    induction j9 with
    | zero => intro y1 y2 H locs ls h; exact h.elim
    | succ j9 ih4 =>
      intro y1 y2 H locs ls h hF hS hl
      have h : wp_X9_pages_4  n g K  (loopW (wp_X9_pages_4  n g K ) j9) (y1, y2) := h
      generalize loopW (wp_X9_pages_4  n g K ) j9 = C4 at ih4 h
      unfold wp_X9_pages_4 at h
      refine lv_iload_n hx hb dX9_pages_4 rfl (lv_at hl 2 rfl) ?_
      refine lv_aload_n hx hb dX9_pages_5 rfl (lv_at hl 0 rfl) ?_
      refine fw_get (C := RX9) (T := TX9) (N := 34) hx hb hts hin_X9 hown hK hF mf_obj rfl 13 (by decide) (hts (.fieldLink RX9 29 "FrontCodedIndexModel" "levels" "I") (by decide +kernel)) (fun _ h9 => h9) rfl dX9_pages_6 ?_
      obtain ⟨h1, h2⟩ := h
      refine lv_icmp_ge (tgt := 27) hx hb dX9_pages_9 (by decide) (fun c_1 => ?_) (fun c_1 => ?_)
      · have h := h1 c_1
        refine lv_iload_n hx hb dX9_pages_27 rfl (lv_at hl 1 rfl) ?_
        exact W.iret (v := y1) hx hb hr (fun t ht hW => ⟨⟨y1, (mf mo ad n g), rfl, ⟨h, rfl⟩, by rw [ht]; exact hF, FK.moved hW.alike hK⟩, hS.F ht⟩) hS.2.2 dX9_pages_28
      · have h := h2 c_1
        refine lv_iload_n hx hb dX9_pages_12 rfl (lv_at hl 1 rfl) ?_
        refine lv_aload_n hx hb dX9_pages_13 rfl (lv_at hl 0 rfl) ?_
        refine fw_get (C := RX9) (T := TX9) (N := 34) hx hb hts hin_X9 hown hK hF mf_obj rfl 14 (by decide) (hts (.fieldLink RX9 32 "FrontCodedIndexModel" "many" "[I") (by decide +kernel)) (fun _ h9 => h9) rfl dX9_pages_14 ?_
        refine lv_iload_n hx hb dX9_pages_17 rfl (lv_at hl 2 rfl) ?_
        obtain ⟨hi_i_2, h⟩ := h
        refine fw_iald hx hb hK hF (mf_arr had 14 (by decide)) hi_i_2 dX9_pages_18 ?_
        refine lv_topi (fun v_3 e_v_3 => ?_)
        have h := h v_3 e_v_3
        refine lv_iadd hx hb dX9_pages_19 ?_
        refine lv_topi (fun v_4 e_5 => ?_)
        have h := h v_4 e_5
        refine lv_istore_n (lv' := [(1, .int v_4), (0, .ref mo), (2, .int y2)]) hx hb dX9_pages_20 rfl hl (by decide) rfl (fun ls hl => ?_)
        obtain ⟨v_6, e_7⟩ : ∃ y : Int32, y = y2 + 1 := ⟨_, rfl⟩
        have h := h v_6 e_7
        refine lv_iinc (v := v_6) (lv' := [(2, .int v_6), (1, .int v_4), (0, .ref mo)]) hx hb dX9_pages_21 hl (k := 2) rfl (by rw [e_7]; rfl) (by decide) rfl (fun ls hl => ?_)
        refine lv_goto (tgt := 4) hx hb dX9_pages_24 (by decide) ?_
        exact ih4 v_4 v_6 _ _ _ h hF hS (lv_sub hl [2, 1, 0] rfl)
  have hl := lv_entry ([.ref mo]) (n := 3) (Nat.le_of_ble_eq_true rfl)
  rw [lg_entry_eq]
  generalize (lg_sl ([.ref mo]) ++ List.replicate (3 - (lg_sl ([.ref mo])).length) Slot.unset).toArray = ls at hl ⊢
  have hl : lv_has ls 3 [(0, .ref mo)] := hl
  unfold wp_X9_pages at h
  refine lv_iconst (v := (0 : Int32)) hx hb dX9_pages_0 (by decide) ?_
  refine lv_istore_n (lv' := [(1, .int (0 : Int32)), (0, .ref mo)]) hx hb dX9_pages_1 rfl hl (by decide) rfl (fun ls hl => ?_)
  refine lv_iconst (v := (0 : Int32)) hx hb dX9_pages_2 (by decide) ?_
  refine lv_istore_n (lv' := [(2, .int (0 : Int32)), (1, .int (0 : Int32)), (0, .ref mo)]) hx hb dX9_pages_3 rfl hl (by decide) rfl (fun ls hl => ?_)
  obtain ⟨n_8, h⟩ := h
  exact L4 n_8 (0 : Int32) (0 : Int32) _ _ _ h hF hS (lv_sub hl [2, 1, 0] rfl)
theorem dX9_load_0 : decode cX9_load 0 = .ok (.iload_n 1, 1) := by decide +kernel
theorem dX9_load_1 : decode cX9_load 1 = .ok (.bipush 40, 2) := by decide +kernel
theorem dX9_load_3 : decode cX9_load 3 = .ok (.bipush 100, 2) := by decide +kernel
theorem dX9_load_5 : decode cX9_load 5 = .ok (.invokestatic 80, 3) := by decide +kernel
theorem dX9_load_8 : decode cX9_load 8 = .ok (.ifCond .ne 9, 3) := by decide +kernel
theorem dX9_load_11 : decode cX9_load 11 = .ok (.aload_n 0, 1) := by decide +kernel
theorem dX9_load_12 : decode cX9_load 12 = .ok (.iconst 1, 1) := by decide +kernel
theorem dX9_load_13 : decode cX9_load 13 = .ok (.invokevirtual 84, 3) := by decide +kernel
theorem dX9_load_16 : decode cX9_load 16 = .ok (.ireturn, 1) := by decide +kernel
theorem dX9_load_17 : decode cX9_load 17 = .ok (.aload_n 0, 1) := by decide +kernel
theorem dX9_load_18 : decode cX9_load 18 = .ok (.aload_n 0, 1) := by decide +kernel
theorem dX9_load_19 : decode cX9_load 19 = .ok (.getfield 234, 3) := by decide +kernel
theorem dX9_load_22 : decode cX9_load 22 = .ok (.putfield 106, 3) := by decide +kernel
theorem dX9_load_25 : decode cX9_load 25 = .ok (.iconst 0, 1) := by decide +kernel
theorem dX9_load_26 : decode cX9_load 26 = .ok (.istore_n 2, 1) := by decide +kernel
theorem dX9_load_27 : decode cX9_load 27 = .ok (.iload_n 2, 1) := by decide +kernel
theorem dX9_load_28 : decode cX9_load 28 = .ok (.aload_n 0, 1) := by decide +kernel
theorem dX9_load_29 : decode cX9_load 29 = .ok (.getfield 234, 3) := by decide +kernel
theorem dX9_load_32 : decode cX9_load 32 = .ok (.if_icmp .ge 69, 3) := by decide +kernel
theorem dX9_load_35 : decode cX9_load 35 = .ok (.aload_n 0, 1) := by decide +kernel
theorem dX9_load_36 : decode cX9_load 36 = .ok (.getfield 20, 3) := by decide +kernel
theorem dX9_load_39 : decode cX9_load 39 = .ok (.iload_n 2, 1) := by decide +kernel
theorem dX9_load_40 : decode cX9_load 40 = .ok (.aload_n 0, 1) := by decide +kernel
theorem dX9_load_41 : decode cX9_load 41 = .ok (.getfield 47, 3) := by decide +kernel
theorem dX9_load_44 : decode cX9_load 44 = .ok (.iload_n 2, 1) := by decide +kernel
theorem dX9_load_45 : decode cX9_load 45 = .ok (.iaload, 1) := by decide +kernel
theorem dX9_load_46 : decode cX9_load 46 = .ok (.iastore, 1) := by decide +kernel
theorem dX9_load_47 : decode cX9_load 47 = .ok (.aload_n 0, 1) := by decide +kernel
theorem dX9_load_48 : decode cX9_load 48 = .ok (.getfield 26, 3) := by decide +kernel
theorem dX9_load_51 : decode cX9_load 51 = .ok (.iload_n 2, 1) := by decide +kernel
theorem dX9_load_52 : decode cX9_load 52 = .ok (.aload_n 0, 1) := by decide +kernel
theorem dX9_load_53 : decode cX9_load 53 = .ok (.getfield 53, 3) := by decide +kernel
theorem dX9_load_56 : decode cX9_load 56 = .ok (.iload_n 2, 1) := by decide +kernel
theorem dX9_load_57 : decode cX9_load 57 = .ok (.iaload, 1) := by decide +kernel
theorem dX9_load_58 : decode cX9_load 58 = .ok (.iastore, 1) := by decide +kernel
theorem dX9_load_59 : decode cX9_load 59 = .ok (.iconst 0, 1) := by decide +kernel
theorem dX9_load_60 : decode cX9_load 60 = .ok (.istore_n 3, 1) := by decide +kernel
theorem dX9_load_61 : decode cX9_load 61 = .ok (.iload_n 3, 1) := by decide +kernel
theorem dX9_load_62 : decode cX9_load 62 = .ok (.bipush 12, 2) := by decide +kernel
theorem dX9_load_64 : decode cX9_load 64 = .ok (.if_icmp .ge 31, 3) := by decide +kernel
theorem dX9_load_67 : decode cX9_load 67 = .ok (.aload_n 0, 1) := by decide +kernel
theorem dX9_load_68 : decode cX9_load 68 = .ok (.getfield 23, 3) := by decide +kernel
theorem dX9_load_71 : decode cX9_load 71 = .ok (.bipush 12, 2) := by decide +kernel
theorem dX9_load_73 : decode cX9_load 73 = .ok (.iload_n 2, 1) := by decide +kernel
theorem dX9_load_74 : decode cX9_load 74 = .ok (.imul, 1) := by decide +kernel
theorem dX9_load_75 : decode cX9_load 75 = .ok (.iload_n 3, 1) := by decide +kernel
theorem dX9_load_76 : decode cX9_load 76 = .ok (.iadd, 1) := by decide +kernel
theorem dX9_load_77 : decode cX9_load 77 = .ok (.aload_n 0, 1) := by decide +kernel
theorem dX9_load_78 : decode cX9_load 78 = .ok (.getfield 50, 3) := by decide +kernel
theorem dX9_load_81 : decode cX9_load 81 = .ok (.bipush 12, 2) := by decide +kernel
theorem dX9_load_83 : decode cX9_load 83 = .ok (.iload_n 2, 1) := by decide +kernel
theorem dX9_load_84 : decode cX9_load 84 = .ok (.imul, 1) := by decide +kernel
theorem dX9_load_85 : decode cX9_load 85 = .ok (.iload_n 3, 1) := by decide +kernel
theorem dX9_load_86 : decode cX9_load 86 = .ok (.iadd, 1) := by decide +kernel
theorem dX9_load_87 : decode cX9_load 87 = .ok (.iaload, 1) := by decide +kernel
theorem dX9_load_88 : decode cX9_load 88 = .ok (.iastore, 1) := by decide +kernel
theorem dX9_load_89 : decode cX9_load 89 = .ok (.iinc 3 1, 3) := by decide +kernel
theorem dX9_load_92 : decode cX9_load 92 = .ok (.goto (-31), 3) := by decide +kernel
theorem dX9_load_95 : decode cX9_load 95 = .ok (.iinc 2 1, 3) := by decide +kernel
theorem dX9_load_98 : decode cX9_load 98 = .ok (.goto (-71), 3) := by decide +kernel
theorem dX9_load_101 : decode cX9_load 101 = .ok (.aload_n 0, 1) := by decide +kernel
theorem dX9_load_102 : decode cX9_load 102 = .ok (.iconst 0, 1) := by decide +kernel
theorem dX9_load_103 : decode cX9_load 103 = .ok (.putfield 234, 3) := by decide +kernel
theorem dX9_load_106 : decode cX9_load 106 = .ok (.aload_n 0, 1) := by decide +kernel
theorem dX9_load_107 : decode cX9_load 107 = .ok (.invokevirtual 237, 3) := by decide +kernel
theorem dX9_load_110 : decode cX9_load 110 = .ok (.aload_n 0, 1) := by decide +kernel
theorem dX9_load_111 : decode cX9_load 111 = .ok (.getfield 16, 3) := by decide +kernel
theorem dX9_load_114 : decode cX9_load 114 = .ok (.iload_n 1, 1) := by decide +kernel
theorem dX9_load_115 : decode cX9_load 115 = .ok (.imul, 1) := by decide +kernel
theorem dX9_load_116 : decode cX9_load 116 = .ok (.bipush 100, 2) := by decide +kernel
theorem dX9_load_118 : decode cX9_load 118 = .ok (.idiv, 1) := by decide +kernel
theorem dX9_load_119 : decode cX9_load 119 = .ok (.istore_n 2, 1) := by decide +kernel
theorem dX9_load_120 : decode cX9_load 120 = .ok (.aload_n 0, 1) := by decide +kernel
theorem dX9_load_121 : decode cX9_load 121 = .ok (.iconst 1, 1) := by decide +kernel
theorem dX9_load_122 : decode cX9_load 122 = .ok (.putfield 29, 3) := by decide +kernel
theorem dX9_load_125 : decode cX9_load 125 = .ok (.aload_n 0, 1) := by decide +kernel
theorem dX9_load_126 : decode cX9_load 126 = .ok (.iconst 0, 1) := by decide +kernel
theorem dX9_load_127 : decode cX9_load 127 = .ok (.aload_n 0, 1) := by decide +kernel
theorem dX9_load_128 : decode cX9_load 128 = .ok (.getfield 106, 3) := by decide +kernel
theorem dX9_load_131 : decode cX9_load 131 = .ok (.iload_n 2, 1) := by decide +kernel
theorem dX9_load_132 : decode cX9_load 132 = .ok (.invokevirtual 240, 3) := by decide +kernel
theorem dX9_load_135 : decode cX9_load 135 = .ok (.aload_n 0, 1) := by decide +kernel
theorem dX9_load_136 : decode cX9_load 136 = .ok (.getfield 106, 3) := by decide +kernel
theorem dX9_load_139 : decode cX9_load 139 = .ok (.ifCond .ne 17, 3) := by decide +kernel
theorem dX9_load_142 : decode cX9_load 142 = .ok (.aload_n 0, 1) := by decide +kernel
theorem dX9_load_143 : decode cX9_load 143 = .ok (.getfield 32, 3) := by decide +kernel
theorem dX9_load_146 : decode cX9_load 146 = .ok (.iconst 0, 1) := by decide +kernel
theorem dX9_load_147 : decode cX9_load 147 = .ok (.iconst 1, 1) := by decide +kernel
theorem dX9_load_148 : decode cX9_load 148 = .ok (.iastore, 1) := by decide +kernel
theorem dX9_load_149 : decode cX9_load 149 = .ok (.aload_n 0, 1) := by decide +kernel
theorem dX9_load_150 : decode cX9_load 150 = .ok (.getfield 35, 3) := by decide +kernel
theorem dX9_load_153 : decode cX9_load 153 = .ok (.iconst 0, 1) := by decide +kernel
theorem dX9_load_154 : decode cX9_load 154 = .ok (.iconst 0, 1) := by decide +kernel
theorem dX9_load_155 : decode cX9_load 155 = .ok (.iastore, 1) := by decide +kernel
theorem dX9_load_156 : decode cX9_load 156 = .ok (.iconst 0, 1) := by decide +kernel
theorem dX9_load_157 : decode cX9_load 157 = .ok (.istore_n 3, 1) := by decide +kernel
theorem dX9_load_158 : decode cX9_load 158 = .ok (.iload_n 3, 1) := by decide +kernel
theorem dX9_load_159 : decode cX9_load 159 = .ok (.aload_n 0, 1) := by decide +kernel
theorem dX9_load_160 : decode cX9_load 160 = .ok (.getfield 32, 3) := by decide +kernel
theorem dX9_load_163 : decode cX9_load 163 = .ok (.iconst 0, 1) := by decide +kernel
theorem dX9_load_164 : decode cX9_load 164 = .ok (.iaload, 1) := by decide +kernel
theorem dX9_load_165 : decode cX9_load 165 = .ok (.iconst 1, 1) := by decide +kernel
theorem dX9_load_166 : decode cX9_load 166 = .ok (.isub, 1) := by decide +kernel
theorem dX9_load_167 : decode cX9_load 167 = .ok (.if_icmp .ge 14, 3) := by decide +kernel
theorem dX9_load_170 : decode cX9_load 170 = .ok (.aload_n 0, 1) := by decide +kernel
theorem dX9_load_171 : decode cX9_load 171 = .ok (.iload_n 3, 1) := by decide +kernel
theorem dX9_load_172 : decode cX9_load 172 = .ok (.invokevirtual 144, 3) := by decide +kernel
theorem dX9_load_175 : decode cX9_load 175 = .ok (.iinc 3 1, 3) := by decide +kernel
theorem dX9_load_178 : decode cX9_load 178 = .ok (.goto (-20), 3) := by decide +kernel
theorem dX9_load_181 : decode cX9_load 181 = .ok (.aload_n 0, 1) := by decide +kernel
theorem dX9_load_182 : decode cX9_load 182 = .ok (.getfield 32, 3) := by decide +kernel
theorem dX9_load_185 : decode cX9_load 185 = .ok (.aload_n 0, 1) := by decide +kernel
theorem dX9_load_186 : decode cX9_load 186 = .ok (.getfield 29, 3) := by decide +kernel
theorem dX9_load_189 : decode cX9_load 189 = .ok (.iconst 1, 1) := by decide +kernel
theorem dX9_load_190 : decode cX9_load 190 = .ok (.isub, 1) := by decide +kernel
theorem dX9_load_191 : decode cX9_load 191 = .ok (.iaload, 1) := by decide +kernel
theorem dX9_load_192 : decode cX9_load 192 = .ok (.iconst 1, 1) := by decide +kernel
theorem dX9_load_193 : decode cX9_load 193 = .ok (.if_icmp .le 36, 3) := by decide +kernel
theorem dX9_load_196 : decode cX9_load 196 = .ok (.aload_n 0, 1) := by decide +kernel
theorem dX9_load_197 : decode cX9_load 197 = .ok (.aload_n 0, 1) := by decide +kernel
theorem dX9_load_198 : decode cX9_load 198 = .ok (.getfield 29, 3) := by decide +kernel
theorem dX9_load_201 : decode cX9_load 201 = .ok (.aload_n 0, 1) := by decide +kernel
theorem dX9_load_202 : decode cX9_load 202 = .ok (.getfield 32, 3) := by decide +kernel
theorem dX9_load_205 : decode cX9_load 205 = .ok (.aload_n 0, 1) := by decide +kernel
theorem dX9_load_206 : decode cX9_load 206 = .ok (.getfield 29, 3) := by decide +kernel
theorem dX9_load_209 : decode cX9_load 209 = .ok (.iconst 1, 1) := by decide +kernel
theorem dX9_load_210 : decode cX9_load 210 = .ok (.isub, 1) := by decide +kernel
theorem dX9_load_211 : decode cX9_load 211 = .ok (.iaload, 1) := by decide +kernel
theorem dX9_load_212 : decode cX9_load 212 = .ok (.iload_n 2, 1) := by decide +kernel
theorem dX9_load_213 : decode cX9_load 213 = .ok (.invokevirtual 240, 3) := by decide +kernel
theorem dX9_load_216 : decode cX9_load 216 = .ok (.aload_n 0, 1) := by decide +kernel
theorem dX9_load_217 : decode cX9_load 217 = .ok (.dup, 1) := by decide +kernel
theorem dX9_load_218 : decode cX9_load 218 = .ok (.getfield 29, 3) := by decide +kernel
theorem dX9_load_221 : decode cX9_load 221 = .ok (.iconst 1, 1) := by decide +kernel
theorem dX9_load_222 : decode cX9_load 222 = .ok (.iadd, 1) := by decide +kernel
theorem dX9_load_223 : decode cX9_load 223 = .ok (.putfield 29, 3) := by decide +kernel
theorem dX9_load_226 : decode cX9_load 226 = .ok (.goto (-45), 3) := by decide +kernel
theorem dX9_load_229 : decode cX9_load 229 = .ok (.aload_n 0, 1) := by decide +kernel
theorem dX9_load_230 : decode cX9_load 230 = .ok (.aload_n 0, 1) := by decide +kernel
theorem dX9_load_231 : decode cX9_load 231 = .ok (.invokevirtual 216, 3) := by decide +kernel
theorem dX9_load_234 : decode cX9_load 234 = .ok (.invokevirtual 91, 3) := by decide +kernel
theorem dX9_load_237 : decode cX9_load 237 = .ok (.ireturn, 1) := by decide +kernel
set_option maxRecDepth 20000 in
theorem ggX9_load_X9_closesAll : GoodIn wsX9_load wsX9_closesAll := goodIn_r _ [25, 26, 75, 76, 77, 78, 79, 80, 81, 82, 83, 84, 85, 86, 87, 88, 89, 90, 91, 92, 93, 94, 95, 96, 97, 98, 99, 100, 101, 102, 103, 104, 105, 106, 107, 108] (by decide +kernel) (by decide +kernel)
set_option maxRecDepth 20000 in
theorem ggX9_load_X9_done : GoodIn wsX9_load wsX9_done := goodIn_r _ [74, 21, 75, 76, 77, 78, 79, 80, 81, 82, 83, 84, 85, 86, 87, 88, 89, 90, 91, 92, 93, 94, 95, 96, 97, 98, 99, 100, 101, 102, 103, 104, 105, 106, 107, 108] (by decide +kernel) (by decide +kernel)
set_option maxRecDepth 20000 in
theorem ggX9_load_X9_fails : GoodIn wsX9_load wsX9_fails := goodIn_r _ [20, 21, 75, 76, 77, 78, 79, 80, 81, 82, 83, 84, 85, 86, 87, 88, 89, 90, 91, 92, 93, 94, 95, 96, 97, 98, 99, 100, 101, 102, 103, 104, 105, 106, 107, 108] (by decide +kernel) (by decide +kernel)
set_option maxRecDepth 20000 in
theorem ggX9_load_X9_in : GoodIn wsX9_load wsX9_in := goodIn_r _ [16] (by decide +kernel) (by decide +kernel)
set_option maxRecDepth 20000 in
theorem ggX9_load_X9_lays : GoodIn wsX9_load wsX9_lays := goodIn_r _ [30, 11, 12, 31, 32, 33, 15, 34, 35, 36, 37, 38, 7, 3, 39, 40, 41, 42, 43, 44, 45, 46, 47, 48, 49, 50, 51, 52, 53, 54, 55, 56, 57, 58, 75, 76, 77, 78, 79, 80, 81, 82, 83, 84, 85, 86, 87, 88, 89, 90, 91, 92, 93, 94, 95, 96, 97, 98, 99, 100, 101, 102, 103, 104, 105, 106, 107, 108] (by decide +kernel) (by decide +kernel)
set_option maxRecDepth 20000 in
theorem ggX9_load_X9_pages : GoodIn wsX9_load wsX9_pages := goodIn_r _ [70, 10, 11, 75, 76, 77, 78, 79, 80, 81, 82, 83, 84, 85, 86, 87, 88, 89, 90, 91, 92, 93, 94, 95, 96, 97, 98, 99, 100, 101, 102, 103, 104, 105, 106, 107, 108] (by decide +kernel) (by decide +kernel)
set_option maxRecDepth 20000 in
theorem ggX9_load_X9_separates : GoodIn wsX9_load wsX9_separates := goodIn_r _ [62, 7, 3, 52, 53, 54, 15, 55, 12, 56, 57, 58, 39, 40, 41, 63, 64, 65, 66, 47, 46, 75, 76, 77, 78, 79, 80, 81, 82, 83, 84, 85, 86, 87, 88, 89, 90, 91, 92, 93, 94, 95, 96, 97, 98, 99, 100, 101, 102, 103, 104, 105, 106, 107, 108] (by decide +kernel) (by decide +kernel)
def wp_X9_load_181 (y2 : Int32) (K : Int32 → (Nat → Int32) → (Nat → Nat → Int32) → Prop)  (C181 : (Nat → Int32) × (Nat → Nat → Int32) → Prop) : (Nat → Int32) × (Nat → Nat → Int32) → Prop := fun s9 => match s9 with
  | (n, g) => vp_in ((n 13) - (1 : Int32)) (mlen 14) ∧ ∀ v_2 : Int32, v_2 = g 14 (((n 13) - (1 : Int32))).toNatClampNeg → ((v_2 ≤ (1 : Int32) → wp_X9_pages  n g (fun r_4 => wp_X9_done r_4 n g (fun r_5 n_7 g_8 => K r_5 n_7 g_8))) ∧
 (¬ (v_2 ≤ (1 : Int32)) → vp_in ((n 13) - (1 : Int32)) (mlen 14) ∧ ∀ v_10 : Int32, v_10 = g 14 (((n 13) - (1 : Int32))).toNatClampNeg → wp_X9_lays (n 13) v_10 y2 n g (fun n_13 g_14 => ∀ n_15 : Nat → Int32, n_15 = upd n_13 13 ((n_13 13) + (1 : Int32)) → C181 (n_15, g_14))))
def wp_X9_load_158 (y2 : Int32) (K : Int32 → (Nat → Int32) → (Nat → Nat → Int32) → Prop)  (C158 : Int32 × (Nat → Int32) × (Nat → Nat → Int32) → Prop) : Int32 × (Nat → Int32) × (Nat → Nat → Int32) → Prop := fun s9 => match s9 with
  | (y3, n, g) => vp_in (0 : Int32) (mlen 14) ∧ ∀ v_17 : Int32, v_17 = g 14 ((0 : Int32)).toNatClampNeg → (((v_17 - (1 : Int32)) ≤ y3 → ∃ n_19, loopW (wp_X9_load_181 y2 K) n_19 (n, g)) ∧
 (¬ ((v_17 - (1 : Int32)) ≤ y3) → wp_X9_separates y3 n g (fun n_22 g_23 => ∀ v_24 : Int32, v_24 = y3 + 1 → C158 (v_24, n_22, g_23))))
def wp_X9_load_156  (y2 : Int32) (n : Nat → Int32) (g : Nat → Nat → Int32) (K : Int32 → (Nat → Int32) → (Nat → Nat → Int32) → Prop)  : Prop :=
  ∃ n_26, loopW (wp_X9_load_158 y2 K) n_26 ((0 : Int32), n, g)
def wp_X9_load_61 (x1 : Int32) (y2 : Int32) (K : Int32 → (Nat → Int32) → (Nat → Nat → Int32) → Prop) (C27 : Int32 × (Nat → Int32) × (Nat → Nat → Int32) → Prop) (C61 : Int32 × (Nat → Int32) × (Nat → Nat → Int32) → Prop) : Int32 × (Nat → Int32) × (Nat → Nat → Int32) → Prop := fun s9 => match s9 with
  | (y3, n, g) => (((12 : Int32) ≤ y3 → ∀ v_28 : Int32, v_28 = y2 + 1 → C27 (v_28, n, g)) ∧
 (¬ ((12 : Int32) ≤ y3) → vp_in (((12 : Int32) * y2) + y3) (mlen 21) ∧ ∀ v_31 : Int32, v_31 = g 21 ((((12 : Int32) * y2) + y3)).toNatClampNeg → vp_in (((12 : Int32) * y2) + y3) (mlen 11) ∧ ∀ g_33 : Nat → Nat → Int32, g_33 = mup g 11 ((((12 : Int32) * y2) + y3)).toNatClampNeg v_31 → ∀ v_34 : Int32, v_34 = y3 + 1 → C61 (v_34, n, g_33)))
def wp_X9_load_27 (x1 : Int32) (K : Int32 → (Nat → Int32) → (Nat → Nat → Int32) → Prop)  (C27 : Int32 × (Nat → Int32) × (Nat → Nat → Int32) → Prop) : Int32 × (Nat → Int32) × (Nat → Nat → Int32) → Prop := fun s9 => match s9 with
  | (y2, n, g) => (((n 19) ≤ y2 → ∀ n_37 : Nat → Int32, n_37 = upd n 19 (0 : Int32) → wp_X9_closesAll  n_37 g (fun n_40 g_41 => (¬ (100 : Int32) = 0) ∧ ∀ v_42 : Int32, v_42 = (((n_40 5) * x1) / (100 : Int32)) → ∀ n_44 : Nat → Int32, n_44 = upd n_40 13 (1 : Int32) → wp_X9_lays (0 : Int32) (n_44 9) v_42 n_44 g_41 (fun n_47 g_48 => ((¬ (n_47 9) = (0 : Int32) → wp_X9_load_156 v_42 n_47 g_48 K) ∧
 ((n_47 9) = (0 : Int32) → vp_in (0 : Int32) (mlen 14) ∧ ∀ g_51 : Nat → Nat → Int32, g_51 = mup g_48 14 ((0 : Int32)).toNatClampNeg (1 : Int32) → vp_in (0 : Int32) (mlen 15) ∧ ∀ g_53 : Nat → Nat → Int32, g_53 = mup g_51 15 ((0 : Int32)).toNatClampNeg (0 : Int32) → wp_X9_load_156 v_42 n_47 g_53 K))))) ∧
 (¬ ((n 19) ≤ y2) → vp_in y2 (mlen 20) ∧ ∀ v_55 : Int32, v_55 = g 20 (y2).toNatClampNeg → vp_in y2 (mlen 10) ∧ ∀ g_57 : Nat → Nat → Int32, g_57 = mup g 10 (y2).toNatClampNeg v_55 → vp_in y2 (mlen 22) ∧ ∀ v_59 : Int32, v_59 = g_57 22 (y2).toNatClampNeg → vp_in y2 (mlen 12) ∧ ∀ g_61 : Nat → Nat → Int32, g_61 = mup g_57 12 (y2).toNatClampNeg v_59 → ∃ n_62, loopW (wp_X9_load_61 x1 y2 K C27) n_62 ((0 : Int32), n, g_61)))
def wp_X9_load (x1 : Int32) (n : Nat → Int32) (g : Nat → Nat → Int32) (K : Int32 → (Nat → Int32) → (Nat → Nat → Int32) → Prop) : Prop :=
  wp_X9_in x1 (40 : Int32) (100 : Int32) n g (fun r_63 => ((¬ r_63 = (0 : Int32) → ∀ n_65 : Nat → Int32, n_65 = upd n 9 (n 19) → ∃ n_66, loopW (wp_X9_load_27 x1 K) n_66 ((0 : Int32), n_65, g)) ∧
 (r_63 = (0 : Int32) → wp_X9_fails (1 : Int32) n g (fun r_67 n_69 g_70 => K r_67 n_69 g_70))))
set_option maxHeartbeats 4000000 in
set_option maxRecDepth 100000 in
theorem cc_X9_load (l : Launch) (G : GG) {mo : Nat} {ad : Nat → Nat} (had : MAd mo ad) {n : Nat → Int32} {g : Nat → Nat → Int32} {sz : Nat} {x1 : Int32} {K : Int32 → (Nat → Int32) → (Nat → Nat → Int32) → Prop} (h : wp_X9_load x1 n g K) : Met l yX9_load wsX9_load ({ frames := 6, cells := 0, slots := 0, locals := 146 } : Room) (FP G [.ref mo, .int x1] (mf mo ad n g) sz) (va_Qi (fun r f9 => ∃ n9 g9, f9 = mf mo ad n9 g9 ∧ K r n9 g9 : Int32 → FT → Prop) (FB G (fA (mf mo ad n g) sz)) (fA (mf mo ad n g) sz)) 0 0 (fA (mf mo ad n g) sz) := by
  refine Met.ofW (cc := cX9_load) (maxL := 4) (ret := (some .int)) (by decide) rfl ?_
  intro p e s m args below meth c s₁ B hml hv
  obtain ⟨rfl, hsz, hF, hK, hZ⟩ := hv
  have hx := B.exec
  have hb := B.bytes
  have hr := B.returns
  have hts := atoms_spec (ws := wsX9_load) B.pre
  have hown : s.vm.findClass RX9 = some m.cls := findClass_of_methodNamed B.named
  have hlocks := B.notSynchronized
  subst hsz
  have hF := hF.self (sz := s.heap.size)
  generalize hAe : fA (mf mo ad n g) s.heap.size = A at hF hZ ⊢
  have hA : ∀ q : Nat, s.heap.size ≤ q → A q := fun q h => by rw [← hAe]; exact Or.inr h
  have hS : va_S A s.heap s.heap [] := va_S.rf
  have hin_X9 : ∀ w ∈ wsX90, w ∈ wsX9_load := by decide +kernel
  have L181 : ∀ (y2 : Int32) (j9 : Nat) (n : Nat → Int32) (g : Nat → Nat → Int32) (H : Heap) (locs : List Loc) (ls : Array Slot), loopW (wp_X9_load_181 y2 K ) j9 (n, g) → Fw G A (mf mo ad n g) H → va_S A s.heap H locs → lv_has ls 4 [(0, .ref mo), (2, .int y2)] → W p l e ({ frames := 6, cells := 0, slots := 0, locals := 146 } : Room) s m ([.ref mo, .int x1] : List Value).toArray below meth c H locs 0 0 (MQ below (va_Qi (fun r f9 => ∃ n9 g9, f9 = mf mo ad n9 g9 ∧ K r n9 g9 : Int32 → FT → Prop) (FB G A) A) ([.ref mo, .int x1] : List Value).toArray s 0 0 A) (F0 m 181 ls []) := by
    intro y2 j9
    induction j9 with
    | zero => intro n g H locs ls h; exact h.elim
    | succ j9 ih181 =>
      intro n g H locs ls h hF hS hl
      have h : wp_X9_load_181 y2 K  (loopW (wp_X9_load_181 y2 K ) j9) (n, g) := h
      generalize loopW (wp_X9_load_181 y2 K ) j9 = C181 at ih181 h
      unfold wp_X9_load_181 at h
      refine lv_aload_n hx hb dX9_load_181 rfl (lv_at hl 0 rfl) ?_
      refine fw_get (C := RX9) (T := TX9) (N := 34) hx hb hts hin_X9 hown hK hF mf_obj rfl 14 (by decide) (hts (.fieldLink RX9 32 "FrontCodedIndexModel" "many" "[I") (by decide +kernel)) (fun _ h9 => h9) rfl dX9_load_182 ?_
      refine lv_aload_n hx hb dX9_load_185 rfl (lv_at hl 0 rfl) ?_
      refine fw_get (C := RX9) (T := TX9) (N := 34) hx hb hts hin_X9 hown hK hF mf_obj rfl 13 (by decide) (hts (.fieldLink RX9 29 "FrontCodedIndexModel" "levels" "I") (by decide +kernel)) (fun _ h9 => h9) rfl dX9_load_186 ?_
      refine lv_iconst (v := (1 : Int32)) hx hb dX9_load_189 (by decide) ?_
      refine lv_isub hx hb dX9_load_190 ?_
      obtain ⟨hi_i_1, h⟩ := h
      refine fw_iald hx hb hK hF (mf_arr had 14 (by decide)) hi_i_1 dX9_load_191 ?_
      refine lv_topi (fun v_2 e_v_2 => ?_)
      have h := h v_2 e_v_2
      refine lv_iconst (v := (1 : Int32)) hx hb dX9_load_192 (by decide) ?_
      obtain ⟨h1, h2⟩ := h
      refine lv_icmp_le (tgt := 229) hx hb dX9_load_193 (by decide) (fun c_3 => ?_) (fun c_3 => ?_)
      · have h := h1 c_3
        refine lv_aload_n hx hb dX9_load_229 rfl (lv_at hl 0 rfl) ?_
        refine lv_aload_n hx hb dX9_load_230 rfl (lv_at hl 0 rfl) ?_
        refine fw_cV_i_p (As := []) (rest := [.ref mo]) ⟨hx, hb, hml, hown, hts⟩ (cc_X9_pages l G had h) (⟨callB_of 0 hts ggX9_load_X9_pages rfl rfl rfl (hts (.initialized RX9) (by decide +kernel)) (hts (.methodLink RX9 216 yX9_pages) (by decide +kernel)) (by decide +kernel) ⟨Nat.le_of_ble_eq_true rfl, Nat.le_of_ble_eq_true rfl⟩, hts (.instanceMethod yX9_pages) (by decide +kernel), hts (.selects RX9 yX9_pages yX9_pages) (by decide +kernel)⟩) rfl mf_obj hK hZ hF hS hA rfl hl.1 rfl (Nat.le_of_ble_eq_true rfl) dX9_load_231 ⟨Nat.zero_le _, Nat.zero_le _⟩ (fun r_4 H locs h hF hS => ?_)
        refine fw_cV_i (As := [.int r_4]) (rest := []) ⟨hx, hb, hml, hown, hts⟩ (cc_X9_done l G had h) (⟨callB_of 1 hts ggX9_load_X9_done rfl rfl rfl (hts (.initialized RX9) (by decide +kernel)) (hts (.methodLink RX9 91 yX9_done) (by decide +kernel)) (by decide +kernel) ⟨Nat.le_of_ble_eq_true rfl, Nat.le_of_ble_eq_true rfl⟩, hts (.instanceMethod yX9_done) (by decide +kernel), hts (.selects RX9 yX9_done yX9_done) (by decide +kernel)⟩) rfl mf_obj hK hZ hF hS hA rfl hl.1 rfl (Nat.le_of_ble_eq_true rfl) dX9_load_234 ⟨Nat.zero_le _, Nat.zero_le _⟩ (fun r_5 f9 H locs h hF hS => ?_)
        obtain ⟨n_7, g_8, rfl, h⟩ := h
        exact W.iret (v := r_5) hx hb hr (fun t ht hW => ⟨⟨r_5, (mf mo ad n_7 g_8), rfl, ⟨_, _, rfl, h⟩, by rw [ht]; exact hF, FK.moved hW.alike hK⟩, hS.F ht⟩) hS.2.2 dX9_load_237
      · have h := h2 c_3
        refine lv_aload_n hx hb dX9_load_196 rfl (lv_at hl 0 rfl) ?_
        refine lv_aload_n hx hb dX9_load_197 rfl (lv_at hl 0 rfl) ?_
        refine fw_get (C := RX9) (T := TX9) (N := 34) hx hb hts hin_X9 hown hK hF mf_obj rfl 13 (by decide) (hts (.fieldLink RX9 29 "FrontCodedIndexModel" "levels" "I") (by decide +kernel)) (fun _ h9 => h9) rfl dX9_load_198 ?_
        refine lv_aload_n hx hb dX9_load_201 rfl (lv_at hl 0 rfl) ?_
        refine fw_get (C := RX9) (T := TX9) (N := 34) hx hb hts hin_X9 hown hK hF mf_obj rfl 14 (by decide) (hts (.fieldLink RX9 32 "FrontCodedIndexModel" "many" "[I") (by decide +kernel)) (fun _ h9 => h9) rfl dX9_load_202 ?_
        refine lv_aload_n hx hb dX9_load_205 rfl (lv_at hl 0 rfl) ?_
        refine fw_get (C := RX9) (T := TX9) (N := 34) hx hb hts hin_X9 hown hK hF mf_obj rfl 13 (by decide) (hts (.fieldLink RX9 29 "FrontCodedIndexModel" "levels" "I") (by decide +kernel)) (fun _ h9 => h9) rfl dX9_load_206 ?_
        refine lv_iconst (v := (1 : Int32)) hx hb dX9_load_209 (by decide) ?_
        refine lv_isub hx hb dX9_load_210 ?_
        obtain ⟨hi_i_9, h⟩ := h
        refine fw_iald hx hb hK hF (mf_arr had 14 (by decide)) hi_i_9 dX9_load_211 ?_
        refine lv_topi (fun v_10 e_v_10 => ?_)
        have h := h v_10 e_v_10
        refine lv_iload_n hx hb dX9_load_212 rfl (lv_at hl 1 rfl) ?_
        refine fw_cV_v (As := [.int (n 13), .int v_10, .int y2]) (rest := []) ⟨hx, hb, hml, hown, hts⟩ (cc_X9_lays l G had h) (⟨callB_of 3 hts ggX9_load_X9_lays rfl rfl rfl (hts (.initialized RX9) (by decide +kernel)) (hts (.methodLink RX9 240 yX9_lays) (by decide +kernel)) (by decide +kernel) ⟨Nat.le_of_ble_eq_true rfl, Nat.le_of_ble_eq_true rfl⟩, hts (.instanceMethod yX9_lays) (by decide +kernel), hts (.selects RX9 yX9_lays yX9_lays) (by decide +kernel)⟩) rfl mf_obj hK hZ hF hS hA rfl hl.1 rfl (Nat.le_of_ble_eq_true rfl) dX9_load_213 ⟨Nat.zero_le _, Nat.zero_le _⟩ (fun f9 H locs h hF hS => ?_)
        obtain ⟨n_13, g_14, rfl, h⟩ := h
        refine lv_aload_n hx hb dX9_load_216 rfl (lv_at hl 0 rfl) ?_
        refine lv_dup hx hb dX9_load_217 rfl ?_
        refine fw_get (C := RX9) (T := TX9) (N := 34) hx hb hts hin_X9 hown hK hF mf_obj rfl 13 (by decide) (hts (.fieldLink RX9 29 "FrontCodedIndexModel" "levels" "I") (by decide +kernel)) (fun _ h9 => h9) rfl dX9_load_218 ?_
        refine lv_iconst (v := (1 : Int32)) hx hb dX9_load_221 (by decide) ?_
        refine lv_iadd hx hb dX9_load_222 ?_
        refine fw_put (v := .int ((n_13 13) + (1 : Int32))) (ty := .int) (C := RX9) (T := TX9) (N := 34) hx hb hts hin_X9 tyX9 tyX9_ok nmX9 hown hK hF hS mf_obj rfl 13 (by decide) (hts (.fieldLink RX9 29 "FrontCodedIndexModel" "levels" "I") (by decide +kernel)) (fun _ h9 => h9) rfl (by decide +kernel) rfl rfl (show 13 < 34 by decide) dX9_load_223 (fun H locs hF hS => ?_)
        rw [mf_put 13 ((n_13 13) + (1 : Int32)) rfl] at hF
        obtain ⟨n_15, hn_n_15⟩ : ∃ z, z = upd n_13 13 ((n_13 13) + (1 : Int32)) := ⟨_, rfl⟩
        rw [← hn_n_15] at hF; have h := h n_15 hn_n_15
        refine lv_goto (tgt := 181) hx hb dX9_load_226 (by decide) ?_
        exact ih181 n_15 g_14 _ _ _ h hF hS (lv_sub hl [0, 1] rfl)
  have L158 : ∀ (y2 : Int32) (j9 : Nat) (y3 : Int32) (n : Nat → Int32) (g : Nat → Nat → Int32) (H : Heap) (locs : List Loc) (ls : Array Slot), loopW (wp_X9_load_158 y2 K ) j9 (y3, n, g) → Fw G A (mf mo ad n g) H → va_S A s.heap H locs → lv_has ls 4 [(0, .ref mo), (2, .int y2), (3, .int y3)] → W p l e ({ frames := 6, cells := 0, slots := 0, locals := 146 } : Room) s m ([.ref mo, .int x1] : List Value).toArray below meth c H locs 0 0 (MQ below (va_Qi (fun r f9 => ∃ n9 g9, f9 = mf mo ad n9 g9 ∧ K r n9 g9 : Int32 → FT → Prop) (FB G A) A) ([.ref mo, .int x1] : List Value).toArray s 0 0 A) (F0 m 158 ls []) := by
    intro y2 j9
    induction j9 with
    | zero => intro y3 n g H locs ls h; exact h.elim
    | succ j9 ih158 =>
      intro y3 n g H locs ls h hF hS hl
      have h : wp_X9_load_158 y2 K  (loopW (wp_X9_load_158 y2 K ) j9) (y3, n, g) := h
      generalize loopW (wp_X9_load_158 y2 K ) j9 = C158 at ih158 h
      unfold wp_X9_load_158 at h
      refine lv_iload_n hx hb dX9_load_158 rfl (lv_at hl 2 rfl) ?_
      refine lv_aload_n hx hb dX9_load_159 rfl (lv_at hl 0 rfl) ?_
      refine fw_get (C := RX9) (T := TX9) (N := 34) hx hb hts hin_X9 hown hK hF mf_obj rfl 14 (by decide) (hts (.fieldLink RX9 32 "FrontCodedIndexModel" "many" "[I") (by decide +kernel)) (fun _ h9 => h9) rfl dX9_load_160 ?_
      refine lv_iconst (v := (0 : Int32)) hx hb dX9_load_163 (by decide) ?_
      obtain ⟨hi_i_16, h⟩ := h
      refine fw_iald hx hb hK hF (mf_arr had 14 (by decide)) hi_i_16 dX9_load_164 ?_
      refine lv_topi (fun v_17 e_v_17 => ?_)
      have h := h v_17 e_v_17
      refine lv_iconst (v := (1 : Int32)) hx hb dX9_load_165 (by decide) ?_
      refine lv_isub hx hb dX9_load_166 ?_
      obtain ⟨h1, h2⟩ := h
      refine lv_icmp_ge (tgt := 181) hx hb dX9_load_167 (by decide) (fun c_18 => ?_) (fun c_18 => ?_)
      · have h := h1 c_18
        obtain ⟨n_19, h⟩ := h
        exact L181 y2 n_19 n g _ _ _ h hF hS (lv_sub hl [0, 1] rfl)
      · have h := h2 c_18
        refine lv_aload_n hx hb dX9_load_170 rfl (lv_at hl 0 rfl) ?_
        refine lv_iload_n hx hb dX9_load_171 rfl (lv_at hl 2 rfl) ?_
        refine fw_cV_v (As := [.int y3]) (rest := []) ⟨hx, hb, hml, hown, hts⟩ (cc_X9_separates l G had h) (⟨callB_of 1 hts ggX9_load_X9_separates rfl rfl rfl (hts (.initialized RX9) (by decide +kernel)) (hts (.methodLink RX9 144 yX9_separates) (by decide +kernel)) (by decide +kernel) ⟨Nat.le_of_ble_eq_true rfl, Nat.le_of_ble_eq_true rfl⟩, hts (.instanceMethod yX9_separates) (by decide +kernel), hts (.selects RX9 yX9_separates yX9_separates) (by decide +kernel)⟩) rfl mf_obj hK hZ hF hS hA rfl hl.1 rfl (Nat.le_of_ble_eq_true rfl) dX9_load_172 ⟨Nat.zero_le _, Nat.zero_le _⟩ (fun f9 H locs h hF hS => ?_)
        obtain ⟨n_22, g_23, rfl, h⟩ := h
        obtain ⟨v_24, e_25⟩ : ∃ y : Int32, y = y3 + 1 := ⟨_, rfl⟩
        have h := h v_24 e_25
        refine lv_iinc (v := v_24) (lv' := [(3, .int v_24), (0, .ref mo), (2, .int y2)]) hx hb dX9_load_175 hl (k := 2) rfl (by rw [e_25]; rfl) (by decide) rfl (fun ls hl => ?_)
        refine lv_goto (tgt := 158) hx hb dX9_load_178 (by decide) ?_
        exact ih158 v_24 n_22 g_23 _ _ _ h hF hS (lv_sub hl [1, 2, 0] rfl)
  have J156 : ∀ (y2 : Int32) (n : Nat → Int32) (g : Nat → Nat → Int32) (H : Heap) (locs : List Loc) (ls : Array Slot), wp_X9_load_156 y2 n g K  → Fw G A (mf mo ad n g) H → va_S A s.heap H locs → lv_has ls 4 [(0, .ref mo), (2, .int y2)] → W p l e ({ frames := 6, cells := 0, slots := 0, locals := 146 } : Room) s m ([.ref mo, .int x1] : List Value).toArray below meth c H locs 0 0 (MQ below (va_Qi (fun r f9 => ∃ n9 g9, f9 = mf mo ad n9 g9 ∧ K r n9 g9 : Int32 → FT → Prop) (FB G A) A) ([.ref mo, .int x1] : List Value).toArray s 0 0 A) (F0 m 156 ls []) := by
    intro y2 n g H locs ls h hF hS hl
    unfold wp_X9_load_156 at h
    refine lv_iconst (v := (0 : Int32)) hx hb dX9_load_156 (by decide) ?_
    refine lv_istore_n (lv' := [(3, .int (0 : Int32)), (0, .ref mo), (2, .int y2)]) hx hb dX9_load_157 rfl hl (by decide) rfl (fun ls hl => ?_)
    obtain ⟨n_26, h⟩ := h
    exact L158 y2 n_26 (0 : Int32) n g _ _ _ h hF hS (lv_sub hl [1, 2, 0] rfl)
  have L27 : ∀  (j9 : Nat) (y2 : Int32) (n : Nat → Int32) (g : Nat → Nat → Int32) (H : Heap) (locs : List Loc) (ls : Array Slot), loopW (wp_X9_load_27 x1 K ) j9 (y2, n, g) → Fw G A (mf mo ad n g) H → va_S A s.heap H locs → lv_has ls 4 [(0, .ref mo), (1, .int x1), (2, .int y2)] → W p l e ({ frames := 6, cells := 0, slots := 0, locals := 146 } : Room) s m ([.ref mo, .int x1] : List Value).toArray below meth c H locs 0 0 (MQ below (va_Qi (fun r f9 => ∃ n9 g9, f9 = mf mo ad n9 g9 ∧ K r n9 g9 : Int32 → FT → Prop) (FB G A) A) ([.ref mo, .int x1] : List Value).toArray s 0 0 A) (F0 m 27 ls []) := by
    intro  j9
    induction j9 with
    | zero => intro y2 n g H locs ls h; exact h.elim
    | succ j9 ih27 =>
      intro y2 n g H locs ls h hF hS hl
      have h : wp_X9_load_27 x1 K  (loopW (wp_X9_load_27 x1 K ) j9) (y2, n, g) := h
      generalize loopW (wp_X9_load_27 x1 K ) j9 = C27 at ih27 h
      unfold wp_X9_load_27 at h
      have L61 : ∀ (y2 : Int32) (j9 : Nat) (y3 : Int32) (n : Nat → Int32) (g : Nat → Nat → Int32) (H : Heap) (locs : List Loc) (ls : Array Slot), loopW (wp_X9_load_61 x1 y2 K C27) j9 (y3, n, g) → Fw G A (mf mo ad n g) H → va_S A s.heap H locs → lv_has ls 4 [(0, .ref mo), (1, .int x1), (2, .int y2), (3, .int y3)] → W p l e ({ frames := 6, cells := 0, slots := 0, locals := 146 } : Room) s m ([.ref mo, .int x1] : List Value).toArray below meth c H locs 0 0 (MQ below (va_Qi (fun r f9 => ∃ n9 g9, f9 = mf mo ad n9 g9 ∧ K r n9 g9 : Int32 → FT → Prop) (FB G A) A) ([.ref mo, .int x1] : List Value).toArray s 0 0 A) (F0 m 61 ls []) := by
        intro y2 j9
        induction j9 with
        | zero => intro y3 n g H locs ls h; exact h.elim
        | succ j9 ih61 =>
          intro y3 n g H locs ls h hF hS hl
          have h : wp_X9_load_61 x1 y2 K C27 (loopW (wp_X9_load_61 x1 y2 K C27) j9) (y3, n, g) := h
          generalize loopW (wp_X9_load_61 x1 y2 K C27) j9 = C61 at ih61 h
          unfold wp_X9_load_61 at h
          refine lv_iload_n hx hb dX9_load_61 rfl (lv_at hl 3 rfl) ?_
          refine lv_bipush (v := (12 : Int32)) hx hb dX9_load_62 (by decide) ?_
          obtain ⟨h1, h2⟩ := h
          refine lv_icmp_ge (tgt := 95) hx hb dX9_load_64 (by decide) (fun c_27 => ?_) (fun c_27 => ?_)
          · have h := h1 c_27
            obtain ⟨v_28, e_29⟩ : ∃ y : Int32, y = y2 + 1 := ⟨_, rfl⟩
            have h := h v_28 e_29
            refine lv_iinc (v := v_28) (lv' := [(2, .int v_28), (0, .ref mo), (1, .int x1), (3, .int y3)]) hx hb dX9_load_95 hl (k := 2) rfl (by rw [e_29]; rfl) (by decide) rfl (fun ls hl => ?_)
            refine lv_goto (tgt := 27) hx hb dX9_load_98 (by decide) ?_
            exact ih27 v_28 n g _ _ _ h hF hS (lv_sub hl [1, 2, 0] rfl)
          · have h := h2 c_27
            refine lv_aload_n hx hb dX9_load_67 rfl (lv_at hl 0 rfl) ?_
            refine fw_get (C := RX9) (T := TX9) (N := 34) hx hb hts hin_X9 hown hK hF mf_obj rfl 11 (by decide) (hts (.fieldLink RX9 23 "FrontCodedIndexModel" "bytes" "[I") (by decide +kernel)) (fun _ h9 => h9) rfl dX9_load_68 ?_
            refine lv_bipush (v := (12 : Int32)) hx hb dX9_load_71 (by decide) ?_
            refine lv_iload_n hx hb dX9_load_73 rfl (lv_at hl 2 rfl) ?_
            refine lv_imul hx hb dX9_load_74 ?_
            refine lv_iload_n hx hb dX9_load_75 rfl (lv_at hl 3 rfl) ?_
            refine lv_iadd hx hb dX9_load_76 ?_
            refine lv_aload_n hx hb dX9_load_77 rfl (lv_at hl 0 rfl) ?_
            refine fw_get (C := RX9) (T := TX9) (N := 34) hx hb hts hin_X9 hown hK hF mf_obj rfl 21 (by decide) (hts (.fieldLink RX9 50 "FrontCodedIndexModel" "waitBytes" "[I") (by decide +kernel)) (fun _ h9 => h9) rfl dX9_load_78 ?_
            refine lv_bipush (v := (12 : Int32)) hx hb dX9_load_81 (by decide) ?_
            refine lv_iload_n hx hb dX9_load_83 rfl (lv_at hl 2 rfl) ?_
            refine lv_imul hx hb dX9_load_84 ?_
            refine lv_iload_n hx hb dX9_load_85 rfl (lv_at hl 3 rfl) ?_
            refine lv_iadd hx hb dX9_load_86 ?_
            obtain ⟨hi_i_30, h⟩ := h
            refine fw_iald hx hb hK hF (mf_arr had 21 (by decide)) hi_i_30 dX9_load_87 ?_
            refine lv_topi (fun v_31 e_v_31 => ?_)
            have h := h v_31 e_v_31
            obtain ⟨hi_i_32, h⟩ := h
            refine fw_iast hx hb hK hF hS (mf_arr had 11 (by decide)) hi_i_32 dX9_load_88 (fun H locs hF hS => ?_)
            rw [mf_st had 11 (by decide)] at hF
            obtain ⟨g_33, hg_g_33⟩ : ∃ z, z = mup g 11 ((((12 : Int32) * y2) + y3)).toNatClampNeg v_31 := ⟨_, rfl⟩
            rw [← hg_g_33] at hF; have h := h g_33 hg_g_33
            obtain ⟨v_34, e_35⟩ : ∃ y : Int32, y = y3 + 1 := ⟨_, rfl⟩
            have h := h v_34 e_35
            refine lv_iinc (v := v_34) (lv' := [(3, .int v_34), (0, .ref mo), (1, .int x1), (2, .int y2)]) hx hb dX9_load_89 hl (k := 3) rfl (by rw [e_35]; rfl) (by decide) rfl (fun ls hl => ?_)
            refine lv_goto (tgt := 61) hx hb dX9_load_92 (by decide) ?_
            exact ih61 v_34 n g_33 _ _ _ h hF hS (lv_sub hl [1, 2, 3, 0] rfl)
      refine lv_iload_n hx hb dX9_load_27 rfl (lv_at hl 2 rfl) ?_
      refine lv_aload_n hx hb dX9_load_28 rfl (lv_at hl 0 rfl) ?_
      refine fw_get (C := RX9) (T := TX9) (N := 34) hx hb hts hin_X9 hown hK hF mf_obj rfl 19 (by decide) (hts (.fieldLink RX9 234 "FrontCodedIndexModel" "waits" "I") (by decide +kernel)) (fun _ h9 => h9) rfl dX9_load_29 ?_
      obtain ⟨h1, h2⟩ := h
      refine lv_icmp_ge (tgt := 101) hx hb dX9_load_32 (by decide) (fun c_36 => ?_) (fun c_36 => ?_)
      · have h := h1 c_36
        refine lv_aload_n hx hb dX9_load_101 rfl (lv_at hl 0 rfl) ?_
        refine lv_iconst (v := (0 : Int32)) hx hb dX9_load_102 (by decide) ?_
        refine fw_put (v := .int (0 : Int32)) (ty := .int) (C := RX9) (T := TX9) (N := 34) hx hb hts hin_X9 tyX9 tyX9_ok nmX9 hown hK hF hS mf_obj rfl 19 (by decide) (hts (.fieldLink RX9 234 "FrontCodedIndexModel" "waits" "I") (by decide +kernel)) (fun _ h9 => h9) rfl (by decide +kernel) rfl rfl (show 19 < 34 by decide) dX9_load_103 (fun H locs hF hS => ?_)
        rw [mf_put 19 (0 : Int32) rfl] at hF
        obtain ⟨n_37, hn_n_37⟩ : ∃ z, z = upd n 19 (0 : Int32) := ⟨_, rfl⟩
        rw [← hn_n_37] at hF; have h := h n_37 hn_n_37
        refine lv_aload_n hx hb dX9_load_106 rfl (lv_at hl 0 rfl) ?_
        refine fw_cV_v (As := []) (rest := []) ⟨hx, hb, hml, hown, hts⟩ (cc_X9_closesAll l G had h) (⟨callB_of 0 hts ggX9_load_X9_closesAll rfl rfl rfl (hts (.initialized RX9) (by decide +kernel)) (hts (.methodLink RX9 237 yX9_closesAll) (by decide +kernel)) (by decide +kernel) ⟨Nat.le_of_ble_eq_true rfl, Nat.le_of_ble_eq_true rfl⟩, hts (.instanceMethod yX9_closesAll) (by decide +kernel), hts (.selects RX9 yX9_closesAll yX9_closesAll) (by decide +kernel)⟩) rfl mf_obj hK hZ hF hS hA rfl hl.1 rfl (Nat.le_of_ble_eq_true rfl) dX9_load_107 ⟨Nat.zero_le _, Nat.zero_le _⟩ (fun f9 H locs h hF hS => ?_)
        obtain ⟨n_40, g_41, rfl, h⟩ := h
        refine lv_aload_n hx hb dX9_load_110 rfl (lv_at hl 0 rfl) ?_
        refine fw_get (C := RX9) (T := TX9) (N := 34) hx hb hts hin_X9 hown hK hF mf_obj rfl 5 (by decide) (hts (.fieldLink RX9 16 "FrontCodedIndexModel" "capacity" "I") (by decide +kernel)) (fun _ h9 => h9) rfl dX9_load_111 ?_
        refine lv_iload_n hx hb dX9_load_114 rfl (lv_at hl 1 rfl) ?_
        refine lv_imul hx hb dX9_load_115 ?_
        refine lv_bipush (v := (100 : Int32)) hx hb dX9_load_116 (by decide) ?_
        obtain ⟨hne, h⟩ := h
        refine lv_idiv hx hb dX9_load_118 hne ?_
        refine lv_topi (fun v_42 e_43 => ?_)
        have h := h v_42 e_43
        refine lv_istore_n (lv' := [(2, .int v_42), (0, .ref mo), (1, .int x1)]) hx hb dX9_load_119 rfl hl (by decide) rfl (fun ls hl => ?_)
        refine lv_aload_n hx hb dX9_load_120 rfl (lv_at hl 1 rfl) ?_
        refine lv_iconst (v := (1 : Int32)) hx hb dX9_load_121 (by decide) ?_
        refine fw_put (v := .int (1 : Int32)) (ty := .int) (C := RX9) (T := TX9) (N := 34) hx hb hts hin_X9 tyX9 tyX9_ok nmX9 hown hK hF hS mf_obj rfl 13 (by decide) (hts (.fieldLink RX9 29 "FrontCodedIndexModel" "levels" "I") (by decide +kernel)) (fun _ h9 => h9) rfl (by decide +kernel) rfl rfl (show 13 < 34 by decide) dX9_load_122 (fun H locs hF hS => ?_)
        rw [mf_put 13 (1 : Int32) rfl] at hF
        obtain ⟨n_44, hn_n_44⟩ : ∃ z, z = upd n_40 13 (1 : Int32) := ⟨_, rfl⟩
        rw [← hn_n_44] at hF; have h := h n_44 hn_n_44
        refine lv_aload_n hx hb dX9_load_125 rfl (lv_at hl 1 rfl) ?_
        refine lv_iconst (v := (0 : Int32)) hx hb dX9_load_126 (by decide) ?_
        refine lv_aload_n hx hb dX9_load_127 rfl (lv_at hl 1 rfl) ?_
        refine fw_get (C := RX9) (T := TX9) (N := 34) hx hb hts hin_X9 hown hK hF mf_obj rfl 9 (by decide) (hts (.fieldLink RX9 106 "FrontCodedIndexModel" "entries" "I") (by decide +kernel)) (fun _ h9 => h9) rfl dX9_load_128 ?_
        refine lv_iload_n hx hb dX9_load_131 rfl (lv_at hl 0 rfl) ?_
        refine fw_cV_v (As := [.int (0 : Int32), .int (n_44 9), .int v_42]) (rest := []) ⟨hx, hb, hml, hown, hts⟩ (cc_X9_lays l G had h) (⟨callB_of 3 hts ggX9_load_X9_lays rfl rfl rfl (hts (.initialized RX9) (by decide +kernel)) (hts (.methodLink RX9 240 yX9_lays) (by decide +kernel)) (by decide +kernel) ⟨Nat.le_of_ble_eq_true rfl, Nat.le_of_ble_eq_true rfl⟩, hts (.instanceMethod yX9_lays) (by decide +kernel), hts (.selects RX9 yX9_lays yX9_lays) (by decide +kernel)⟩) rfl mf_obj hK hZ hF hS hA rfl hl.1 rfl (Nat.le_of_ble_eq_true rfl) dX9_load_132 ⟨Nat.zero_le _, Nat.zero_le _⟩ (fun f9 H locs h hF hS => ?_)
        obtain ⟨n_47, g_48, rfl, h⟩ := h
        refine lv_aload_n hx hb dX9_load_135 rfl (lv_at hl 1 rfl) ?_
        refine fw_get (C := RX9) (T := TX9) (N := 34) hx hb hts hin_X9 hown hK hF mf_obj rfl 9 (by decide) (hts (.fieldLink RX9 106 "FrontCodedIndexModel" "entries" "I") (by decide +kernel)) (fun _ h9 => h9) rfl dX9_load_136 ?_
        obtain ⟨h1, h2⟩ := h
        refine lv_if_ne (tgt := 156) hx hb dX9_load_139 (by decide) (fun c_49 => ?_) (fun c_49 => ?_)
        · have h := h1 c_49
          exact J156 v_42 n_47 g_48 _ _ _ h hF hS (lv_sub hl [1, 0] rfl)
        · have h := h2 c_49
          refine lv_aload_n hx hb dX9_load_142 rfl (lv_at hl 1 rfl) ?_
          refine fw_get (C := RX9) (T := TX9) (N := 34) hx hb hts hin_X9 hown hK hF mf_obj rfl 14 (by decide) (hts (.fieldLink RX9 32 "FrontCodedIndexModel" "many" "[I") (by decide +kernel)) (fun _ h9 => h9) rfl dX9_load_143 ?_
          refine lv_iconst (v := (0 : Int32)) hx hb dX9_load_146 (by decide) ?_
          refine lv_iconst (v := (1 : Int32)) hx hb dX9_load_147 (by decide) ?_
          obtain ⟨hi_i_50, h⟩ := h
          refine fw_iast hx hb hK hF hS (mf_arr had 14 (by decide)) hi_i_50 dX9_load_148 (fun H locs hF hS => ?_)
          rw [mf_st had 14 (by decide)] at hF
          obtain ⟨g_51, hg_g_51⟩ : ∃ z, z = mup g_48 14 ((0 : Int32)).toNatClampNeg (1 : Int32) := ⟨_, rfl⟩
          rw [← hg_g_51] at hF; have h := h g_51 hg_g_51
          refine lv_aload_n hx hb dX9_load_149 rfl (lv_at hl 1 rfl) ?_
          refine fw_get (C := RX9) (T := TX9) (N := 34) hx hb hts hin_X9 hown hK hF mf_obj rfl 15 (by decide) (hts (.fieldLink RX9 35 "FrontCodedIndexModel" "parts" "[I") (by decide +kernel)) (fun _ h9 => h9) rfl dX9_load_150 ?_
          refine lv_iconst (v := (0 : Int32)) hx hb dX9_load_153 (by decide) ?_
          refine lv_iconst (v := (0 : Int32)) hx hb dX9_load_154 (by decide) ?_
          obtain ⟨hi_i_52, h⟩ := h
          refine fw_iast hx hb hK hF hS (mf_arr had 15 (by decide)) hi_i_52 dX9_load_155 (fun H locs hF hS => ?_)
          rw [mf_st had 15 (by decide)] at hF
          obtain ⟨g_53, hg_g_53⟩ : ∃ z, z = mup g_51 15 ((0 : Int32)).toNatClampNeg (0 : Int32) := ⟨_, rfl⟩
          rw [← hg_g_53] at hF; have h := h g_53 hg_g_53
          exact J156 v_42 n_47 g_53 _ _ _ h hF hS (lv_sub hl [1, 0] rfl)
      · have h := h2 c_36
        refine lv_aload_n hx hb dX9_load_35 rfl (lv_at hl 0 rfl) ?_
        refine fw_get (C := RX9) (T := TX9) (N := 34) hx hb hts hin_X9 hown hK hF mf_obj rfl 10 (by decide) (hts (.fieldLink RX9 20 "FrontCodedIndexModel" "sizeOf" "[I") (by decide +kernel)) (fun _ h9 => h9) rfl dX9_load_36 ?_
        refine lv_iload_n hx hb dX9_load_39 rfl (lv_at hl 2 rfl) ?_
        refine lv_aload_n hx hb dX9_load_40 rfl (lv_at hl 0 rfl) ?_
        refine fw_get (C := RX9) (T := TX9) (N := 34) hx hb hts hin_X9 hown hK hF mf_obj rfl 20 (by decide) (hts (.fieldLink RX9 47 "FrontCodedIndexModel" "waitSize" "[I") (by decide +kernel)) (fun _ h9 => h9) rfl dX9_load_41 ?_
        refine lv_iload_n hx hb dX9_load_44 rfl (lv_at hl 2 rfl) ?_
        obtain ⟨hi_i_54, h⟩ := h
        refine fw_iald hx hb hK hF (mf_arr had 20 (by decide)) hi_i_54 dX9_load_45 ?_
        refine lv_topi (fun v_55 e_v_55 => ?_)
        have h := h v_55 e_v_55
        obtain ⟨hi_i_56, h⟩ := h
        refine fw_iast hx hb hK hF hS (mf_arr had 10 (by decide)) hi_i_56 dX9_load_46 (fun H locs hF hS => ?_)
        rw [mf_st had 10 (by decide)] at hF
        obtain ⟨g_57, hg_g_57⟩ : ∃ z, z = mup g 10 (y2).toNatClampNeg v_55 := ⟨_, rfl⟩
        rw [← hg_g_57] at hF; have h := h g_57 hg_g_57
        refine lv_aload_n hx hb dX9_load_47 rfl (lv_at hl 0 rfl) ?_
        refine fw_get (C := RX9) (T := TX9) (N := 34) hx hb hts hin_X9 hown hK hF mf_obj rfl 12 (by decide) (hts (.fieldLink RX9 26 "FrontCodedIndexModel" "values" "[I") (by decide +kernel)) (fun _ h9 => h9) rfl dX9_load_48 ?_
        refine lv_iload_n hx hb dX9_load_51 rfl (lv_at hl 2 rfl) ?_
        refine lv_aload_n hx hb dX9_load_52 rfl (lv_at hl 0 rfl) ?_
        refine fw_get (C := RX9) (T := TX9) (N := 34) hx hb hts hin_X9 hown hK hF mf_obj rfl 22 (by decide) (hts (.fieldLink RX9 53 "FrontCodedIndexModel" "waitValues" "[I") (by decide +kernel)) (fun _ h9 => h9) rfl dX9_load_53 ?_
        refine lv_iload_n hx hb dX9_load_56 rfl (lv_at hl 2 rfl) ?_
        obtain ⟨hi_i_58, h⟩ := h
        refine fw_iald hx hb hK hF (mf_arr had 22 (by decide)) hi_i_58 dX9_load_57 ?_
        refine lv_topi (fun v_59 e_v_59 => ?_)
        have h := h v_59 e_v_59
        obtain ⟨hi_i_60, h⟩ := h
        refine fw_iast hx hb hK hF hS (mf_arr had 12 (by decide)) hi_i_60 dX9_load_58 (fun H locs hF hS => ?_)
        rw [mf_st had 12 (by decide)] at hF
        obtain ⟨g_61, hg_g_61⟩ : ∃ z, z = mup g_57 12 (y2).toNatClampNeg v_59 := ⟨_, rfl⟩
        rw [← hg_g_61] at hF; have h := h g_61 hg_g_61
        refine lv_iconst (v := (0 : Int32)) hx hb dX9_load_59 (by decide) ?_
        refine lv_istore_n (lv' := [(3, .int (0 : Int32)), (0, .ref mo), (1, .int x1), (2, .int y2)]) hx hb dX9_load_60 rfl hl (by decide) rfl (fun ls hl => ?_)
        obtain ⟨n_62, h⟩ := h
        exact L61 y2 n_62 (0 : Int32) n g_61 _ _ _ h hF hS (lv_sub hl [1, 2, 3, 0] rfl)
  have hl := lv_entry ([.ref mo, .int x1]) (n := 4) (Nat.le_of_ble_eq_true rfl)
  rw [lg_entry_eq]
  generalize (lg_sl ([.ref mo, .int x1]) ++ List.replicate (4 - (lg_sl ([.ref mo, .int x1])).length) Slot.unset).toArray = ls at hl ⊢
  have hl : lv_has ls 4 [(0, .ref mo), (1, .int x1)] := hl
  unfold wp_X9_load at h
  refine lv_iload_n hx hb dX9_load_0 rfl (lv_at hl 1 rfl) ?_
  refine lv_bipush (v := (40 : Int32)) hx hb dX9_load_1 (by decide) ?_
  refine lv_bipush (v := (100 : Int32)) hx hb dX9_load_3 (by decide) ?_
  refine fw_cS_i_p (As := [.int x1, .int (40 : Int32), .int (100 : Int32)]) (rest := []) ⟨hx, hb, hml, hown, hts⟩ (cc_X9_in l G had h) (⟨callB_of 3 hts ggX9_load_X9_in rfl rfl rfl (hts (.initialized RX9) (by decide +kernel)) (hts (.methodLink RX9 80 yX9_in) (by decide +kernel)) (by decide +kernel) ⟨Nat.le_of_ble_eq_true rfl, Nat.le_of_ble_eq_true rfl⟩, hts (.static yX9_in) (by decide +kernel)⟩) hK hZ hF hS hA rfl hl.1 rfl (Nat.le_of_ble_eq_true rfl) dX9_load_5 ⟨Nat.zero_le _, Nat.zero_le _⟩ (fun r_63 H locs h hF hS => ?_)
  obtain ⟨h1, h2⟩ := h
  refine lv_if_ne (tgt := 17) hx hb dX9_load_8 (by decide) (fun c_64 => ?_) (fun c_64 => ?_)
  · have h := h1 c_64
    refine lv_aload_n hx hb dX9_load_17 rfl (lv_at hl 0 rfl) ?_
    refine lv_aload_n hx hb dX9_load_18 rfl (lv_at hl 0 rfl) ?_
    refine fw_get (C := RX9) (T := TX9) (N := 34) hx hb hts hin_X9 hown hK hF mf_obj rfl 19 (by decide) (hts (.fieldLink RX9 234 "FrontCodedIndexModel" "waits" "I") (by decide +kernel)) (fun _ h9 => h9) rfl dX9_load_19 ?_
    refine fw_put (v := .int (n 19)) (ty := .int) (C := RX9) (T := TX9) (N := 34) hx hb hts hin_X9 tyX9 tyX9_ok nmX9 hown hK hF hS mf_obj rfl 9 (by decide) (hts (.fieldLink RX9 106 "FrontCodedIndexModel" "entries" "I") (by decide +kernel)) (fun _ h9 => h9) rfl (by decide +kernel) rfl rfl (show 9 < 34 by decide) dX9_load_22 (fun H locs hF hS => ?_)
    rw [mf_put 9 (n 19) rfl] at hF
    obtain ⟨n_65, hn_n_65⟩ : ∃ z, z = upd n 9 (n 19) := ⟨_, rfl⟩
    rw [← hn_n_65] at hF; have h := h n_65 hn_n_65
    refine lv_iconst (v := (0 : Int32)) hx hb dX9_load_25 (by decide) ?_
    refine lv_istore_n (lv' := [(2, .int (0 : Int32)), (0, .ref mo), (1, .int x1)]) hx hb dX9_load_26 rfl hl (by decide) rfl (fun ls hl => ?_)
    obtain ⟨n_66, h⟩ := h
    exact L27 n_66 (0 : Int32) n_65 g _ _ _ h hF hS (lv_sub hl [1, 2, 0] rfl)
  · have h := h2 c_64
    refine lv_aload_n hx hb dX9_load_11 rfl (lv_at hl 0 rfl) ?_
    refine lv_iconst (v := (1 : Int32)) hx hb dX9_load_12 (by decide) ?_
    refine fw_cV_i (As := [.int (1 : Int32)]) (rest := []) ⟨hx, hb, hml, hown, hts⟩ (cc_X9_fails l G had h) (⟨callB_of 1 hts ggX9_load_X9_fails rfl rfl rfl (hts (.initialized RX9) (by decide +kernel)) (hts (.methodLink RX9 84 yX9_fails) (by decide +kernel)) (by decide +kernel) ⟨Nat.le_of_ble_eq_true rfl, Nat.le_of_ble_eq_true rfl⟩, hts (.instanceMethod yX9_fails) (by decide +kernel), hts (.selects RX9 yX9_fails yX9_fails) (by decide +kernel)⟩) rfl mf_obj hK hZ hF hS hA rfl hl.1 rfl (Nat.le_of_ble_eq_true rfl) dX9_load_13 ⟨Nat.zero_le _, Nat.zero_le _⟩ (fun r_67 f9 H locs h hF hS => ?_)
    obtain ⟨n_69, g_70, rfl, h⟩ := h
    exact W.iret (v := r_67) hx hb hr (fun t ht hW => ⟨⟨r_67, (mf mo ad n_69 g_70), rfl, ⟨_, _, rfl, h⟩, by rw [ht]; exact hF, FK.moved hW.alike hK⟩, hS.F ht⟩) hS.2.2 dX9_load_16
theorem dX9_melts_0 : decode cX9_melts 0 = .ok (.aload_n 0, 1) := by decide +kernel
theorem dX9_melts_1 : decode cX9_melts 1 = .ok (.getfield 16, 3) := by decide +kernel
theorem dX9_melts_4 : decode cX9_melts 4 = .ok (.iconst 2, 1) := by decide +kernel
theorem dX9_melts_5 : decode cX9_melts 5 = .ok (.idiv, 1) := by decide +kernel
theorem dX9_melts_6 : decode cX9_melts 6 = .ok (.istore_n 3, 1) := by decide +kernel
theorem dX9_melts_7 : decode cX9_melts 7 = .ok (.iload_n 1, 1) := by decide +kernel
theorem dX9_melts_8 : decode cX9_melts 8 = .ok (.aload_n 0, 1) := by decide +kernel
theorem dX9_melts_9 : decode cX9_melts 9 = .ok (.getfield 29, 3) := by decide +kernel
theorem dX9_melts_12 : decode cX9_melts 12 = .ok (.iconst 1, 1) := by decide +kernel
theorem dX9_melts_13 : decode cX9_melts 13 = .ok (.isub, 1) := by decide +kernel
theorem dX9_melts_14 : decode cX9_melts 14 = .ok (.if_icmp .eq 13, 3) := by decide +kernel
theorem dX9_melts_17 : decode cX9_melts 17 = .ok (.aload_n 0, 1) := by decide +kernel
theorem dX9_melts_18 : decode cX9_melts 18 = .ok (.iload_n 1, 1) := by decide +kernel
theorem dX9_melts_19 : decode cX9_melts 19 = .ok (.iload_n 2, 1) := by decide +kernel
theorem dX9_melts_20 : decode cX9_melts 20 = .ok (.invokevirtual 161, 3) := by decide +kernel
theorem dX9_melts_23 : decode cX9_melts 23 = .ok (.iload_n 3, 1) := by decide +kernel
theorem dX9_melts_24 : decode cX9_melts 24 = .ok (.if_icmp .lt 5, 3) := by decide +kernel
theorem dX9_melts_27 : decode cX9_melts 27 = .ok (.iconst (-1), 1) := by decide +kernel
theorem dX9_melts_28 : decode cX9_melts 28 = .ok (.ireturn, 1) := by decide +kernel
theorem dX9_melts_29 : decode cX9_melts 29 = .ok (.iconst 0, 1) := by decide +kernel
theorem dX9_melts_30 : decode cX9_melts 30 = .ok (.istore 4, 2) := by decide +kernel
theorem dX9_melts_32 : decode cX9_melts 32 = .ok (.iload 4, 2) := by decide +kernel
theorem dX9_melts_34 : decode cX9_melts 34 = .ok (.iconst 2, 1) := by decide +kernel
theorem dX9_melts_35 : decode cX9_melts 35 = .ok (.if_icmp .ge 84, 3) := by decide +kernel
theorem dX9_melts_38 : decode cX9_melts 38 = .ok (.iload 4, 2) := by decide +kernel
theorem dX9_melts_40 : decode cX9_melts 40 = .ok (.ifCond .ne 9, 3) := by decide +kernel
theorem dX9_melts_43 : decode cX9_melts 43 = .ok (.iload_n 2, 1) := by decide +kernel
theorem dX9_melts_44 : decode cX9_melts 44 = .ok (.iconst 1, 1) := by decide +kernel
theorem dX9_melts_45 : decode cX9_melts 45 = .ok (.isub, 1) := by decide +kernel
theorem dX9_melts_46 : decode cX9_melts 46 = .ok (.goto 4, 3) := by decide +kernel
theorem dX9_melts_49 : decode cX9_melts 49 = .ok (.iload_n 2, 1) := by decide +kernel
theorem dX9_melts_50 : decode cX9_melts 50 = .ok (.istore 5, 2) := by decide +kernel
theorem dX9_melts_52 : decode cX9_melts 52 = .ok (.aload_n 0, 1) := by decide +kernel
theorem dX9_melts_53 : decode cX9_melts 53 = .ok (.iload_n 1, 1) := by decide +kernel
theorem dX9_melts_54 : decode cX9_melts 54 = .ok (.iload 5, 2) := by decide +kernel
theorem dX9_melts_56 : decode cX9_melts 56 = .ok (.invokevirtual 140, 3) := by decide +kernel
theorem dX9_melts_59 : decode cX9_melts 59 = .ok (.ifCond .eq 54, 3) := by decide +kernel
theorem dX9_melts_62 : decode cX9_melts 62 = .ok (.aload_n 0, 1) := by decide +kernel
theorem dX9_melts_63 : decode cX9_melts 63 = .ok (.getfield 35, 3) := by decide +kernel
theorem dX9_melts_66 : decode cX9_melts 66 = .ok (.iload_n 1, 1) := by decide +kernel
theorem dX9_melts_67 : decode cX9_melts 67 = .ok (.iload 5, 2) := by decide +kernel
theorem dX9_melts_69 : decode cX9_melts 69 = .ok (.invokestatic 113, 3) := by decide +kernel
theorem dX9_melts_72 : decode cX9_melts 72 = .ok (.iaload, 1) := by decide +kernel
theorem dX9_melts_73 : decode cX9_melts 73 = .ok (.aload_n 0, 1) := by decide +kernel
theorem dX9_melts_74 : decode cX9_melts 74 = .ok (.getfield 35, 3) := by decide +kernel
theorem dX9_melts_77 : decode cX9_melts 77 = .ok (.iload_n 1, 1) := by decide +kernel
theorem dX9_melts_78 : decode cX9_melts 78 = .ok (.iload 5, 2) := by decide +kernel
theorem dX9_melts_80 : decode cX9_melts 80 = .ok (.iconst 1, 1) := by decide +kernel
theorem dX9_melts_81 : decode cX9_melts 81 = .ok (.iadd, 1) := by decide +kernel
theorem dX9_melts_82 : decode cX9_melts 82 = .ok (.invokestatic 113, 3) := by decide +kernel
theorem dX9_melts_85 : decode cX9_melts 85 = .ok (.iaload, 1) := by decide +kernel
theorem dX9_melts_86 : decode cX9_melts 86 = .ok (.iadd, 1) := by decide +kernel
theorem dX9_melts_87 : decode cX9_melts 87 = .ok (.istore 6, 2) := by decide +kernel
theorem dX9_melts_89 : decode cX9_melts 89 = .ok (.aload_n 0, 1) := by decide +kernel
theorem dX9_melts_90 : decode cX9_melts 90 = .ok (.iload_n 1, 1) := by decide +kernel
theorem dX9_melts_91 : decode cX9_melts 91 = .ok (.aload_n 0, 1) := by decide +kernel
theorem dX9_melts_92 : decode cX9_melts 92 = .ok (.iload_n 1, 1) := by decide +kernel
theorem dX9_melts_93 : decode cX9_melts 93 = .ok (.iload 5, 2) := by decide +kernel
theorem dX9_melts_95 : decode cX9_melts 95 = .ok (.invokevirtual 117, 3) := by decide +kernel
theorem dX9_melts_98 : decode cX9_melts 98 = .ok (.iload 6, 2) := by decide +kernel
theorem dX9_melts_100 : decode cX9_melts 100 = .ok (.invokevirtual 130, 3) := by decide +kernel
theorem dX9_melts_103 : decode cX9_melts 103 = .ok (.aload_n 0, 1) := by decide +kernel
theorem dX9_melts_104 : decode cX9_melts 104 = .ok (.getfield 16, 3) := by decide +kernel
theorem dX9_melts_107 : decode cX9_melts 107 = .ok (.if_icmp .gt 6, 3) := by decide +kernel
theorem dX9_melts_110 : decode cX9_melts 110 = .ok (.iload 5, 2) := by decide +kernel
theorem dX9_melts_112 : decode cX9_melts 112 = .ok (.ireturn, 1) := by decide +kernel
theorem dX9_melts_113 : decode cX9_melts 113 = .ok (.iinc 4 1, 3) := by decide +kernel
theorem dX9_melts_116 : decode cX9_melts 116 = .ok (.goto (-84), 3) := by decide +kernel
theorem dX9_melts_119 : decode cX9_melts 119 = .ok (.iconst (-1), 1) := by decide +kernel
theorem dX9_melts_120 : decode cX9_melts 120 = .ok (.ireturn, 1) := by decide +kernel
set_option maxRecDepth 20000 in
theorem ggX9_melts_X9_areSiblings : GoodIn wsX9_melts wsX9_areSiblings := goodIn_r _ [42, 43, 2, 44, 45, 46, 7, 47, 3, 13, 14, 15, 48, 49, 50, 51, 52, 53, 54, 55, 56, 57, 58, 59, 60, 61, 62, 63, 64, 65, 66, 67, 68, 69, 70, 71, 72, 73, 74, 75, 76, 77, 78, 79, 80, 81] (by decide +kernel) (by decide +kernel)
set_option maxRecDepth 20000 in
theorem ggX9_melts_X9_at : GoodIn wsX9_melts wsX9_at := goodIn_r _ [15] (by decide +kernel) (by decide +kernel)
set_option maxRecDepth 20000 in
theorem ggX9_melts_X9_firstOf : GoodIn wsX9_melts wsX9_firstOf := goodIn_r _ [12, 3, 13, 14, 7, 15, 48, 49, 50, 51, 52, 53, 54, 55, 56, 57, 58, 59, 60, 61, 62, 63, 64, 65, 66, 67, 68, 69, 70, 71, 72, 73, 74, 75, 76, 77, 78, 79, 80, 81] (by decide +kernel) (by decide +kernel)
set_option maxRecDepth 20000 in
theorem ggX9_melts_X9_partSize : GoodIn wsX9_melts wsX9_partSize := goodIn_r _ [19, 20, 21, 22, 7, 23, 24, 25, 26, 27, 28, 29, 30, 31, 32, 33, 34, 35, 36, 37, 38, 9, 10, 11, 12, 3, 13, 14, 15, 48, 49, 50, 51, 52, 53, 54, 55, 56, 57, 58, 59, 60, 61, 62, 63, 64, 65, 66, 67, 68, 69, 70, 71, 72, 73, 74, 75, 76, 77, 78, 79, 80, 81] (by decide +kernel) (by decide +kernel)
set_option maxRecDepth 20000 in
theorem ggX9_melts_X9_sizeOfPage : GoodIn wsX9_melts wsX9_sizeOfPage := goodIn_r _ [8, 3, 9, 10, 11, 7, 12, 13, 14, 15, 16, 17, 18, 19, 20, 21, 22, 23, 24, 25, 26, 27, 28, 29, 30, 31, 32, 33, 34, 35, 36, 37, 38, 48, 49, 50, 51, 52, 53, 54, 55, 56, 57, 58, 59, 60, 61, 62, 63, 64, 65, 66, 67, 68, 69, 70, 71, 72, 73, 74, 75, 76, 77, 78, 79, 80, 81] (by decide +kernel) (by decide +kernel)
def wp_X9_melts_113 (x1 : Int32) (x2 : Int32) (y4 : Int32) (n : Nat → Int32) (g : Nat → Nat → Int32) (K : Int32 → Prop) (C32 : Int32 → Prop) : Prop :=
  ∀ v_1 : Int32, v_1 = y4 + 1 → C32 v_1
def wp_X9_melts_50 (x1 : Int32) (x2 : Int32) (y4 : Int32) (z0 : Int32) (n : Nat → Int32) (g : Nat → Nat → Int32) (K : Int32 → Prop) (C32 : Int32 → Prop) : Prop :=
  wp_X9_areSiblings x1 z0 n g (fun r_3 => ((r_3 = (0 : Int32) → wp_X9_melts_113 x1 x2 y4 n g K C32) ∧
 (¬ (r_3 = (0 : Int32)) → wp_X9_at x1 z0 n g (fun r_5 => vp_in r_5 (mlen 15) ∧ ∀ v_7 : Int32, v_7 = g 15 (r_5).toNatClampNeg → wp_X9_at x1 (z0 + (1 : Int32)) n g (fun r_8 => vp_in r_8 (mlen 15) ∧ ∀ v_10 : Int32, v_10 = g 15 (r_8).toNatClampNeg → ∀ v_11 : Int32, v_11 = (v_7 + v_10) → wp_X9_firstOf x1 z0 n g (fun r_13 => wp_X9_partSize x1 r_13 v_11 n g (fun r_14 => (((n 5) < r_14 → wp_X9_melts_113 x1 x2 y4 n g K C32) ∧
 (¬ ((n 5) < r_14) → K z0)))))))))
def wp_X9_melts_32 (x1 : Int32) (x2 : Int32) (n : Nat → Int32) (g : Nat → Nat → Int32) (K : Int32 → Prop)  (C32 : Int32 → Prop) : Int32 → Prop := fun s9 => match s9 with
  | y4 => (((2 : Int32) ≤ y4 → K (-1 : Int32)) ∧
 (¬ ((2 : Int32) ≤ y4) → ((¬ y4 = (0 : Int32) → wp_X9_melts_50 x1 x2 y4 x2 n g K C32) ∧
 (y4 = (0 : Int32) → wp_X9_melts_50 x1 x2 y4 (x2 - (1 : Int32)) n g K C32))))
def wp_X9_melts (x1 : Int32) (x2 : Int32) (n : Nat → Int32) (g : Nat → Nat → Int32) (K : Int32 → Prop) : Prop :=
  (¬ (2 : Int32) = 0) ∧ ∀ v_18 : Int32, v_18 = ((n 5) / (2 : Int32)) → ((x1 = ((n 13) - (1 : Int32)) → K (-1 : Int32)) ∧
 (¬ (x1 = ((n 13) - (1 : Int32))) → wp_X9_sizeOfPage x1 x2 n g (fun r_21 => ((r_21 < v_18 → ∃ n_23, loopW (wp_X9_melts_32 x1 x2 n g K) n_23 (0 : Int32)) ∧
 (¬ (r_21 < v_18) → K (-1 : Int32))))))
set_option maxHeartbeats 4000000 in
set_option maxRecDepth 100000 in
theorem cc_X9_melts (l : Launch) (G : GG) {mo : Nat} {ad : Nat → Nat} (had : MAd mo ad) {n : Nat → Int32} {g : Nat → Nat → Int32} {sz : Nat} {x1 : Int32} {x2 : Int32} {K : Int32 → Prop} (h : wp_X9_melts x1 x2 n g K) : Met l yX9_melts wsX9_melts ({ frames := 6, cells := 0, slots := 0, locals := 142 } : Room) (FP G [.ref mo, .int x1, .int x2] (mf mo ad n g) sz) (va_Qi (fun r f9 => K r ∧ f9 = mf mo ad n g : Int32 → FT → Prop) (FB G (fA (mf mo ad n g) sz)) (fA (mf mo ad n g) sz)) 0 0 (fA (mf mo ad n g) sz) := by
  refine Met.ofW (cc := cX9_melts) (maxL := 7) (ret := (some .int)) (by decide) rfl ?_
  intro p e s m args below meth c s₁ B hml hv
  obtain ⟨rfl, hsz, hF, hK, hZ⟩ := hv
  have hx := B.exec
  have hb := B.bytes
  have hr := B.returns
  have hts := atoms_spec (ws := wsX9_melts) B.pre
  have hown : s.vm.findClass RX9 = some m.cls := findClass_of_methodNamed B.named
  have hlocks := B.notSynchronized
  subst hsz
  have hF := hF.self (sz := s.heap.size)
  generalize hAe : fA (mf mo ad n g) s.heap.size = A at hF hZ ⊢
  have hA : ∀ q : Nat, s.heap.size ≤ q → A q := fun q h => by rw [← hAe]; exact Or.inr h
  have hS : va_S A s.heap s.heap [] := va_S.rf
  have hin_X9 : ∀ w ∈ wsX90, w ∈ wsX9_melts := by decide +kernel
  have L32 : ∀  (j9 : Nat) (y4 : Int32) (H : Heap) (locs : List Loc) (ls : Array Slot), loopW (wp_X9_melts_32 x1 x2 n g K ) j9 y4 → Fw G A (mf mo ad n g) H → va_S A s.heap H locs → lv_has ls 7 [(0, .ref mo), (1, .int x1), (2, .int x2), (4, .int y4)] → W p l e ({ frames := 6, cells := 0, slots := 0, locals := 142 } : Room) s m ([.ref mo, .int x1, .int x2] : List Value).toArray below meth c H locs 0 0 (MQ below (va_Qi (fun r f9 => K r ∧ f9 = mf mo ad n g : Int32 → FT → Prop) (FB G A) A) ([.ref mo, .int x1, .int x2] : List Value).toArray s 0 0 A) (F0 m 32 ls []) := by
    intro  j9
    induction j9 with
    | zero => intro y4 H locs ls h; exact h.elim
    | succ j9 ih32 =>
      intro y4 H locs ls h hF hS hl
      have h : wp_X9_melts_32 x1 x2 n g K  (loopW (wp_X9_melts_32 x1 x2 n g K ) j9) y4 := h
      generalize loopW (wp_X9_melts_32 x1 x2 n g K ) j9 = C32 at ih32 h
      unfold wp_X9_melts_32 at h
      have J113 : ∀ (y4 : Int32) (H : Heap) (locs : List Loc) (ls : Array Slot), wp_X9_melts_113 x1 x2 y4 n g K C32 → Fw G A (mf mo ad n g) H → va_S A s.heap H locs → lv_has ls 7 [(0, .ref mo), (1, .int x1), (2, .int x2), (4, .int y4)] → W p l e ({ frames := 6, cells := 0, slots := 0, locals := 142 } : Room) s m ([.ref mo, .int x1, .int x2] : List Value).toArray below meth c H locs 0 0 (MQ below (va_Qi (fun r f9 => K r ∧ f9 = mf mo ad n g : Int32 → FT → Prop) (FB G A) A) ([.ref mo, .int x1, .int x2] : List Value).toArray s 0 0 A) (F0 m 113 ls []) := by
        intro y4 H locs ls h hF hS hl
        unfold wp_X9_melts_113 at h
        obtain ⟨v_1, e_2⟩ : ∃ y : Int32, y = y4 + 1 := ⟨_, rfl⟩
        have h := h v_1 e_2
        refine lv_iinc (v := v_1) (lv' := [(4, .int v_1), (0, .ref mo), (1, .int x1), (2, .int x2)]) hx hb dX9_melts_113 hl (k := 3) rfl (by rw [e_2]; rfl) (by decide) rfl (fun ls hl => ?_)
        refine lv_goto (tgt := 32) hx hb dX9_melts_116 (by decide) ?_
        exact ih32 v_1 _ _ _ h hF hS (lv_sub hl [1, 2, 3, 0] rfl)
      have J50 : ∀ (y4 : Int32) (z0 : Int32) (H : Heap) (locs : List Loc) (ls : Array Slot), wp_X9_melts_50 x1 x2 y4 z0 n g K C32 → Fw G A (mf mo ad n g) H → va_S A s.heap H locs → lv_has ls 7 [(0, .ref mo), (1, .int x1), (2, .int x2), (4, .int y4)] → W p l e ({ frames := 6, cells := 0, slots := 0, locals := 142 } : Room) s m ([.ref mo, .int x1, .int x2] : List Value).toArray below meth c H locs 0 0 (MQ below (va_Qi (fun r f9 => K r ∧ f9 = mf mo ad n g : Int32 → FT → Prop) (FB G A) A) ([.ref mo, .int x1, .int x2] : List Value).toArray s 0 0 A) (F0 m 50 ls [.int z0]) := by
        intro y4 z0 H locs ls h hF hS hl
        unfold wp_X9_melts_50 at h
        refine lv_istore (lv' := [(5, .int z0), (0, .ref mo), (1, .int x1), (2, .int x2), (4, .int y4)]) hx hb dX9_melts_50 hl (by decide) rfl (fun ls hl => ?_)
        refine lv_aload_n hx hb dX9_melts_52 rfl (lv_at hl 1 rfl) ?_
        refine lv_iload_n hx hb dX9_melts_53 rfl (lv_at hl 2 rfl) ?_
        refine lv_iload hx hb dX9_melts_54 (lv_at hl 0 rfl) ?_
        refine fw_cV_i_p (As := [.int x1, .int z0]) (rest := []) ⟨hx, hb, hml, hown, hts⟩ (cc_X9_areSiblings l G had h) (⟨callB_of 2 hts ggX9_melts_X9_areSiblings rfl rfl rfl (hts (.initialized RX9) (by decide +kernel)) (hts (.methodLink RX9 140 yX9_areSiblings) (by decide +kernel)) (by decide +kernel) ⟨Nat.le_of_ble_eq_true rfl, Nat.le_of_ble_eq_true rfl⟩, hts (.instanceMethod yX9_areSiblings) (by decide +kernel), hts (.selects RX9 yX9_areSiblings yX9_areSiblings) (by decide +kernel)⟩) rfl mf_obj hK hZ hF hS hA rfl hl.1 rfl (Nat.le_of_ble_eq_true rfl) dX9_melts_56 ⟨Nat.zero_le _, Nat.zero_le _⟩ (fun r_3 H locs h hF hS => ?_)
        obtain ⟨h1, h2⟩ := h
        refine lv_if_eq (tgt := 113) hx hb dX9_melts_59 (by decide) (fun c_4 => ?_) (fun c_4 => ?_)
        · have h := h1 c_4
          exact J113 y4 _ _ _ h hF hS (lv_sub hl [1, 2, 3, 4] rfl)
        · have h := h2 c_4
          refine lv_aload_n hx hb dX9_melts_62 rfl (lv_at hl 1 rfl) ?_
          refine fw_get (C := RX9) (T := TX9) (N := 34) hx hb hts hin_X9 hown hK hF mf_obj rfl 15 (by decide) (hts (.fieldLink RX9 35 "FrontCodedIndexModel" "parts" "[I") (by decide +kernel)) (fun _ h9 => h9) rfl dX9_melts_63 ?_
          refine lv_iload_n hx hb dX9_melts_66 rfl (lv_at hl 2 rfl) ?_
          refine lv_iload hx hb dX9_melts_67 (lv_at hl 0 rfl) ?_
          refine fw_cS_i_p (As := [.int x1, .int z0]) (rest := [.ref (ad 15)]) ⟨hx, hb, hml, hown, hts⟩ (cc_X9_at l G had h) (⟨callB_of 2 hts ggX9_melts_X9_at rfl rfl rfl (hts (.initialized RX9) (by decide +kernel)) (hts (.methodLink RX9 113 yX9_at) (by decide +kernel)) (by decide +kernel) ⟨Nat.le_of_ble_eq_true rfl, Nat.le_of_ble_eq_true rfl⟩, hts (.static yX9_at) (by decide +kernel)⟩) hK hZ hF hS hA rfl hl.1 rfl (Nat.le_of_ble_eq_true rfl) dX9_melts_69 ⟨Nat.zero_le _, Nat.zero_le _⟩ (fun r_5 H locs h hF hS => ?_)
          obtain ⟨hi_i_6, h⟩ := h
          refine fw_iald hx hb hK hF (mf_arr had 15 (by decide)) hi_i_6 dX9_melts_72 ?_
          refine lv_topi (fun v_7 e_v_7 => ?_)
          have h := h v_7 e_v_7
          refine lv_aload_n hx hb dX9_melts_73 rfl (lv_at hl 1 rfl) ?_
          refine fw_get (C := RX9) (T := TX9) (N := 34) hx hb hts hin_X9 hown hK hF mf_obj rfl 15 (by decide) (hts (.fieldLink RX9 35 "FrontCodedIndexModel" "parts" "[I") (by decide +kernel)) (fun _ h9 => h9) rfl dX9_melts_74 ?_
          refine lv_iload_n hx hb dX9_melts_77 rfl (lv_at hl 2 rfl) ?_
          refine lv_iload hx hb dX9_melts_78 (lv_at hl 0 rfl) ?_
          refine lv_iconst (v := (1 : Int32)) hx hb dX9_melts_80 (by decide) ?_
          refine lv_iadd hx hb dX9_melts_81 ?_
          refine fw_cS_i_p (As := [.int x1, .int (z0 + (1 : Int32))]) (rest := [.ref (ad 15), .int v_7]) ⟨hx, hb, hml, hown, hts⟩ (cc_X9_at l G had h) (⟨callB_of 2 hts ggX9_melts_X9_at rfl rfl rfl (hts (.initialized RX9) (by decide +kernel)) (hts (.methodLink RX9 113 yX9_at) (by decide +kernel)) (by decide +kernel) ⟨Nat.le_of_ble_eq_true rfl, Nat.le_of_ble_eq_true rfl⟩, hts (.static yX9_at) (by decide +kernel)⟩) hK hZ hF hS hA rfl hl.1 rfl (Nat.le_of_ble_eq_true rfl) dX9_melts_82 ⟨Nat.zero_le _, Nat.zero_le _⟩ (fun r_8 H locs h hF hS => ?_)
          obtain ⟨hi_i_9, h⟩ := h
          refine fw_iald hx hb hK hF (mf_arr had 15 (by decide)) hi_i_9 dX9_melts_85 ?_
          refine lv_topi (fun v_10 e_v_10 => ?_)
          have h := h v_10 e_v_10
          refine lv_iadd hx hb dX9_melts_86 ?_
          refine lv_topi (fun v_11 e_12 => ?_)
          have h := h v_11 e_12
          refine lv_istore (lv' := [(6, .int v_11), (5, .int z0), (0, .ref mo), (1, .int x1), (2, .int x2), (4, .int y4)]) hx hb dX9_melts_87 hl (by decide) rfl (fun ls hl => ?_)
          refine lv_aload_n hx hb dX9_melts_89 rfl (lv_at hl 2 rfl) ?_
          refine lv_iload_n hx hb dX9_melts_90 rfl (lv_at hl 3 rfl) ?_
          refine lv_aload_n hx hb dX9_melts_91 rfl (lv_at hl 2 rfl) ?_
          refine lv_iload_n hx hb dX9_melts_92 rfl (lv_at hl 3 rfl) ?_
          refine lv_iload hx hb dX9_melts_93 (lv_at hl 1 rfl) ?_
          refine fw_cV_i_p (As := [.int x1, .int z0]) (rest := [.int x1, .ref mo]) ⟨hx, hb, hml, hown, hts⟩ (cc_X9_firstOf l G had h) (⟨callB_of 2 hts ggX9_melts_X9_firstOf rfl rfl rfl (hts (.initialized RX9) (by decide +kernel)) (hts (.methodLink RX9 117 yX9_firstOf) (by decide +kernel)) (by decide +kernel) ⟨Nat.le_of_ble_eq_true rfl, Nat.le_of_ble_eq_true rfl⟩, hts (.instanceMethod yX9_firstOf) (by decide +kernel), hts (.selects RX9 yX9_firstOf yX9_firstOf) (by decide +kernel)⟩) rfl mf_obj hK hZ hF hS hA rfl hl.1 rfl (Nat.le_of_ble_eq_true rfl) dX9_melts_95 ⟨Nat.zero_le _, Nat.zero_le _⟩ (fun r_13 H locs h hF hS => ?_)
          refine lv_iload hx hb dX9_melts_98 (lv_at hl 0 rfl) ?_
          refine fw_cV_i_p (As := [.int x1, .int r_13, .int v_11]) (rest := []) ⟨hx, hb, hml, hown, hts⟩ (cc_X9_partSize l G had h) (⟨callB_of 3 hts ggX9_melts_X9_partSize rfl rfl rfl (hts (.initialized RX9) (by decide +kernel)) (hts (.methodLink RX9 130 yX9_partSize) (by decide +kernel)) (by decide +kernel) ⟨Nat.le_of_ble_eq_true rfl, Nat.le_of_ble_eq_true rfl⟩, hts (.instanceMethod yX9_partSize) (by decide +kernel), hts (.selects RX9 yX9_partSize yX9_partSize) (by decide +kernel)⟩) rfl mf_obj hK hZ hF hS hA rfl hl.1 rfl (Nat.le_of_ble_eq_true rfl) dX9_melts_100 ⟨Nat.zero_le _, Nat.zero_le _⟩ (fun r_14 H locs h hF hS => ?_)
          refine lv_aload_n hx hb dX9_melts_103 rfl (lv_at hl 2 rfl) ?_
          refine fw_get (C := RX9) (T := TX9) (N := 34) hx hb hts hin_X9 hown hK hF mf_obj rfl 5 (by decide) (hts (.fieldLink RX9 16 "FrontCodedIndexModel" "capacity" "I") (by decide +kernel)) (fun _ h9 => h9) rfl dX9_melts_104 ?_
          obtain ⟨h1, h2⟩ := h
          refine lv_icmp_gt (tgt := 113) hx hb dX9_melts_107 (by decide) (fun c_15 => ?_) (fun c_15 => ?_)
          · have h := h1 c_15
            exact J113 y4 _ _ _ h hF hS (lv_sub hl [2, 3, 4, 5] rfl)
          · have h := h2 c_15
            refine lv_iload hx hb dX9_melts_110 (lv_at hl 1 rfl) ?_
            exact W.iret (v := z0) hx hb hr (fun t ht hW => ⟨⟨z0, (mf mo ad n g), rfl, ⟨h, rfl⟩, by rw [ht]; exact hF, FK.moved hW.alike hK⟩, hS.F ht⟩) hS.2.2 dX9_melts_112
      refine lv_iload hx hb dX9_melts_32 (lv_at hl 3 rfl) ?_
      refine lv_iconst (v := (2 : Int32)) hx hb dX9_melts_34 (by decide) ?_
      obtain ⟨h1, h2⟩ := h
      refine lv_icmp_ge (tgt := 119) hx hb dX9_melts_35 (by decide) (fun c_16 => ?_) (fun c_16 => ?_)
      · have h := h1 c_16
        refine lv_iconst (v := (-1 : Int32)) hx hb dX9_melts_119 (by decide) ?_
        exact W.iret (v := (-1 : Int32)) hx hb hr (fun t ht hW => ⟨⟨(-1 : Int32), (mf mo ad n g), rfl, ⟨h, rfl⟩, by rw [ht]; exact hF, FK.moved hW.alike hK⟩, hS.F ht⟩) hS.2.2 dX9_melts_120
      · have h := h2 c_16
        refine lv_iload hx hb dX9_melts_38 (lv_at hl 3 rfl) ?_
        obtain ⟨h1, h2⟩ := h
        refine lv_if_ne (tgt := 49) hx hb dX9_melts_40 (by decide) (fun c_17 => ?_) (fun c_17 => ?_)
        · have h := h1 c_17
          refine lv_iload_n hx hb dX9_melts_49 rfl (lv_at hl 2 rfl) ?_
          exact J50 y4 x2 _ _ _ h hF hS (lv_sub hl [0, 1, 2, 3] rfl)
        · have h := h2 c_17
          refine lv_iload_n hx hb dX9_melts_43 rfl (lv_at hl 2 rfl) ?_
          refine lv_iconst (v := (1 : Int32)) hx hb dX9_melts_44 (by decide) ?_
          refine lv_isub hx hb dX9_melts_45 ?_
          refine lv_goto (tgt := 50) hx hb dX9_melts_46 (by decide) ?_
          exact J50 y4 (x2 - (1 : Int32)) _ _ _ h hF hS (lv_sub hl [0, 1, 2, 3] rfl)
  have hl := lv_entry ([.ref mo, .int x1, .int x2]) (n := 7) (Nat.le_of_ble_eq_true rfl)
  rw [lg_entry_eq]
  generalize (lg_sl ([.ref mo, .int x1, .int x2]) ++ List.replicate (7 - (lg_sl ([.ref mo, .int x1, .int x2])).length) Slot.unset).toArray = ls at hl ⊢
  have hl : lv_has ls 7 [(0, .ref mo), (1, .int x1), (2, .int x2)] := hl
  unfold wp_X9_melts at h
  refine lv_aload_n hx hb dX9_melts_0 rfl (lv_at hl 0 rfl) ?_
  refine fw_get (C := RX9) (T := TX9) (N := 34) hx hb hts hin_X9 hown hK hF mf_obj rfl 5 (by decide) (hts (.fieldLink RX9 16 "FrontCodedIndexModel" "capacity" "I") (by decide +kernel)) (fun _ h9 => h9) rfl dX9_melts_1 ?_
  refine lv_iconst (v := (2 : Int32)) hx hb dX9_melts_4 (by decide) ?_
  obtain ⟨hne, h⟩ := h
  refine lv_idiv hx hb dX9_melts_5 hne ?_
  refine lv_topi (fun v_18 e_19 => ?_)
  have h := h v_18 e_19
  refine lv_istore_n (lv' := [(3, .int v_18), (0, .ref mo), (1, .int x1), (2, .int x2)]) hx hb dX9_melts_6 rfl hl (by decide) rfl (fun ls hl => ?_)
  refine lv_iload_n hx hb dX9_melts_7 rfl (lv_at hl 2 rfl) ?_
  refine lv_aload_n hx hb dX9_melts_8 rfl (lv_at hl 1 rfl) ?_
  refine fw_get (C := RX9) (T := TX9) (N := 34) hx hb hts hin_X9 hown hK hF mf_obj rfl 13 (by decide) (hts (.fieldLink RX9 29 "FrontCodedIndexModel" "levels" "I") (by decide +kernel)) (fun _ h9 => h9) rfl dX9_melts_9 ?_
  refine lv_iconst (v := (1 : Int32)) hx hb dX9_melts_12 (by decide) ?_
  refine lv_isub hx hb dX9_melts_13 ?_
  obtain ⟨h1, h2⟩ := h
  refine lv_icmp_eq (tgt := 27) hx hb dX9_melts_14 (by decide) (fun c_20 => ?_) (fun c_20 => ?_)
  · have h := h1 c_20
    refine lv_iconst (v := (-1 : Int32)) hx hb dX9_melts_27 (by decide) ?_
    exact W.iret (v := (-1 : Int32)) hx hb hr (fun t ht hW => ⟨⟨(-1 : Int32), (mf mo ad n g), rfl, ⟨h, rfl⟩, by rw [ht]; exact hF, FK.moved hW.alike hK⟩, hS.F ht⟩) hS.2.2 dX9_melts_28
  · have h := h2 c_20
    refine lv_aload_n hx hb dX9_melts_17 rfl (lv_at hl 1 rfl) ?_
    refine lv_iload_n hx hb dX9_melts_18 rfl (lv_at hl 2 rfl) ?_
    refine lv_iload_n hx hb dX9_melts_19 rfl (lv_at hl 3 rfl) ?_
    refine fw_cV_i_p (As := [.int x1, .int x2]) (rest := []) ⟨hx, hb, hml, hown, hts⟩ (cc_X9_sizeOfPage l G had h) (⟨callB_of 2 hts ggX9_melts_X9_sizeOfPage rfl rfl rfl (hts (.initialized RX9) (by decide +kernel)) (hts (.methodLink RX9 161 yX9_sizeOfPage) (by decide +kernel)) (by decide +kernel) ⟨Nat.le_of_ble_eq_true rfl, Nat.le_of_ble_eq_true rfl⟩, hts (.instanceMethod yX9_sizeOfPage) (by decide +kernel), hts (.selects RX9 yX9_sizeOfPage yX9_sizeOfPage) (by decide +kernel)⟩) rfl mf_obj hK hZ hF hS hA rfl hl.1 rfl (Nat.le_of_ble_eq_true rfl) dX9_melts_20 ⟨Nat.zero_le _, Nat.zero_le _⟩ (fun r_21 H locs h hF hS => ?_)
    refine lv_iload_n hx hb dX9_melts_23 rfl (lv_at hl 0 rfl) ?_
    obtain ⟨h1, h2⟩ := h
    refine lv_icmp_lt (tgt := 29) hx hb dX9_melts_24 (by decide) (fun c_22 => ?_) (fun c_22 => ?_)
    · have h := h1 c_22
      refine lv_iconst (v := (0 : Int32)) hx hb dX9_melts_29 (by decide) ?_
      refine lv_istore (lv' := [(4, .int (0 : Int32)), (3, .int v_18), (0, .ref mo), (1, .int x1), (2, .int x2)]) hx hb dX9_melts_30 hl (by decide) rfl (fun ls hl => ?_)
      obtain ⟨n_23, h⟩ := h
      exact L32 n_23 (0 : Int32) _ _ _ h hF hS (lv_sub hl [2, 3, 4, 0] rfl)
    · have h := h2 c_22
      refine lv_iconst (v := (-1 : Int32)) hx hb dX9_melts_27 (by decide) ?_
      exact W.iret (v := (-1 : Int32)) hx hb hr (fun t ht hW => ⟨⟨(-1 : Int32), (mf mo ad n g), rfl, ⟨h, rfl⟩, by rw [ht]; exact hF, FK.moved hW.alike hK⟩, hS.F ht⟩) hS.2.2 dX9_melts_28
theorem dX9_sumOf_0 : decode cX9_sumOf 0 = .ok (.iconst 0, 1) := by decide +kernel
theorem dX9_sumOf_1 : decode cX9_sumOf 1 = .ok (.istore_n 2, 1) := by decide +kernel
theorem dX9_sumOf_2 : decode cX9_sumOf 2 = .ok (.iconst 0, 1) := by decide +kernel
theorem dX9_sumOf_3 : decode cX9_sumOf 3 = .ok (.istore_n 3, 1) := by decide +kernel
theorem dX9_sumOf_4 : decode cX9_sumOf 4 = .ok (.iload_n 3, 1) := by decide +kernel
theorem dX9_sumOf_5 : decode cX9_sumOf 5 = .ok (.aload_n 0, 1) := by decide +kernel
theorem dX9_sumOf_6 : decode cX9_sumOf 6 = .ok (.getfield 32, 3) := by decide +kernel
theorem dX9_sumOf_9 : decode cX9_sumOf 9 = .ok (.iload_n 1, 1) := by decide +kernel
theorem dX9_sumOf_10 : decode cX9_sumOf 10 = .ok (.iaload, 1) := by decide +kernel
theorem dX9_sumOf_11 : decode cX9_sumOf 11 = .ok (.if_icmp .ge 18, 3) := by decide +kernel
theorem dX9_sumOf_14 : decode cX9_sumOf 14 = .ok (.iload_n 2, 1) := by decide +kernel
theorem dX9_sumOf_15 : decode cX9_sumOf 15 = .ok (.aload_n 0, 1) := by decide +kernel
theorem dX9_sumOf_16 : decode cX9_sumOf 16 = .ok (.iload_n 1, 1) := by decide +kernel
theorem dX9_sumOf_17 : decode cX9_sumOf 17 = .ok (.iload_n 3, 1) := by decide +kernel
theorem dX9_sumOf_18 : decode cX9_sumOf 18 = .ok (.invokevirtual 161, 3) := by decide +kernel
theorem dX9_sumOf_21 : decode cX9_sumOf 21 = .ok (.iadd, 1) := by decide +kernel
theorem dX9_sumOf_22 : decode cX9_sumOf 22 = .ok (.istore_n 2, 1) := by decide +kernel
theorem dX9_sumOf_23 : decode cX9_sumOf 23 = .ok (.iinc 3 1, 3) := by decide +kernel
theorem dX9_sumOf_26 : decode cX9_sumOf 26 = .ok (.goto (-22), 3) := by decide +kernel
theorem dX9_sumOf_29 : decode cX9_sumOf 29 = .ok (.iload_n 2, 1) := by decide +kernel
theorem dX9_sumOf_30 : decode cX9_sumOf 30 = .ok (.ireturn, 1) := by decide +kernel
set_option maxRecDepth 20000 in
theorem ggX9_sumOf_X9_sizeOfPage : GoodIn wsX9_sumOf wsX9_sizeOfPage := goodIn_r _ [6, 7, 8, 9, 10, 5, 11, 12, 13, 14, 15, 16, 17, 18, 19, 20, 21, 22, 23, 24, 25, 26, 27, 28, 29, 30, 31, 32, 33, 34, 35, 36, 37, 38, 39, 40, 41, 42, 43, 44, 45, 46, 47, 48, 49, 50, 51, 52, 53, 54, 55, 56, 57, 58, 59, 60, 61, 62, 63, 64, 65, 66, 67, 68, 69, 70, 71] (by decide +kernel) (by decide +kernel)
def wp_X9_sumOf_4 (x1 : Int32) (n : Nat → Int32) (g : Nat → Nat → Int32) (K : Int32 → Prop)  (C4 : Int32 × Int32 → Prop) : Int32 × Int32 → Prop := fun s9 => match s9 with
  | (y2, y3) => vp_in x1 (mlen 14) ∧ ∀ v_2 : Int32, v_2 = g 14 (x1).toNatClampNeg → ((v_2 ≤ y3 → K y2) ∧
 (¬ (v_2 ≤ y3) → wp_X9_sizeOfPage x1 y3 n g (fun r_4 => ∀ v_5 : Int32, v_5 = (y2 + r_4) → ∀ v_7 : Int32, v_7 = y3 + 1 → C4 (v_5, v_7))))
def wp_X9_sumOf (x1 : Int32) (n : Nat → Int32) (g : Nat → Nat → Int32) (K : Int32 → Prop) : Prop :=
  ∃ n_9, loopW (wp_X9_sumOf_4 x1 n g K) n_9 ((0 : Int32), (0 : Int32))
set_option maxHeartbeats 4000000 in
set_option maxRecDepth 100000 in
theorem cc_X9_sumOf (l : Launch) (G : GG) {mo : Nat} {ad : Nat → Nat} (had : MAd mo ad) {n : Nat → Int32} {g : Nat → Nat → Int32} {sz : Nat} {x1 : Int32} {K : Int32 → Prop} (h : wp_X9_sumOf x1 n g K) : Met l yX9_sumOf wsX9_sumOf ({ frames := 6, cells := 0, slots := 0, locals := 142 } : Room) (FP G [.ref mo, .int x1] (mf mo ad n g) sz) (va_Qi (fun r f9 => K r ∧ f9 = mf mo ad n g : Int32 → FT → Prop) (FB G (fA (mf mo ad n g) sz)) (fA (mf mo ad n g) sz)) 0 0 (fA (mf mo ad n g) sz) := by
  refine Met.ofW (cc := cX9_sumOf) (maxL := 4) (ret := (some .int)) (by decide) rfl ?_
  intro p e s m args below meth c s₁ B hml hv
  obtain ⟨rfl, hsz, hF, hK, hZ⟩ := hv
  have hx := B.exec
  have hb := B.bytes
  have hr := B.returns
  have hts := atoms_spec (ws := wsX9_sumOf) B.pre
  have hown : s.vm.findClass RX9 = some m.cls := findClass_of_methodNamed B.named
  have hlocks := B.notSynchronized
  subst hsz
  have hF := hF.self (sz := s.heap.size)
  generalize hAe : fA (mf mo ad n g) s.heap.size = A at hF hZ ⊢
  have hA : ∀ q : Nat, s.heap.size ≤ q → A q := fun q h => by rw [← hAe]; exact Or.inr h
  have hS : va_S A s.heap s.heap [] := va_S.rf
  have hin_X9 : ∀ w ∈ wsX90, w ∈ wsX9_sumOf := by decide +kernel
  have L4 : ∀  (j9 : Nat) (y2 : Int32) (y3 : Int32) (H : Heap) (locs : List Loc) (ls : Array Slot), loopW (wp_X9_sumOf_4 x1 n g K ) j9 (y2, y3) → Fw G A (mf mo ad n g) H → va_S A s.heap H locs → lv_has ls 4 [(0, .ref mo), (1, .int x1), (2, .int y2), (3, .int y3)] → W p l e ({ frames := 6, cells := 0, slots := 0, locals := 142 } : Room) s m ([.ref mo, .int x1] : List Value).toArray below meth c H locs 0 0 (MQ below (va_Qi (fun r f9 => K r ∧ f9 = mf mo ad n g : Int32 → FT → Prop) (FB G A) A) ([.ref mo, .int x1] : List Value).toArray s 0 0 A) (F0 m 4 ls []) := by
    intro  j9
    induction j9 with
    | zero => intro y2 y3 H locs ls h; exact h.elim
    | succ j9 ih4 =>
      intro y2 y3 H locs ls h hF hS hl
      have h : wp_X9_sumOf_4 x1 n g K  (loopW (wp_X9_sumOf_4 x1 n g K ) j9) (y2, y3) := h
      generalize loopW (wp_X9_sumOf_4 x1 n g K ) j9 = C4 at ih4 h
      unfold wp_X9_sumOf_4 at h
      refine lv_iload_n hx hb dX9_sumOf_4 rfl (lv_at hl 3 rfl) ?_
      refine lv_aload_n hx hb dX9_sumOf_5 rfl (lv_at hl 0 rfl) ?_
      refine fw_get (C := RX9) (T := TX9) (N := 34) hx hb hts hin_X9 hown hK hF mf_obj rfl 14 (by decide) (hts (.fieldLink RX9 32 "FrontCodedIndexModel" "many" "[I") (by decide +kernel)) (fun _ h9 => h9) rfl dX9_sumOf_6 ?_
      refine lv_iload_n hx hb dX9_sumOf_9 rfl (lv_at hl 1 rfl) ?_
      obtain ⟨hi_i_1, h⟩ := h
      refine fw_iald hx hb hK hF (mf_arr had 14 (by decide)) hi_i_1 dX9_sumOf_10 ?_
      refine lv_topi (fun v_2 e_v_2 => ?_)
      have h := h v_2 e_v_2
      obtain ⟨h1, h2⟩ := h
      refine lv_icmp_ge (tgt := 29) hx hb dX9_sumOf_11 (by decide) (fun c_3 => ?_) (fun c_3 => ?_)
      · have h := h1 c_3
        refine lv_iload_n hx hb dX9_sumOf_29 rfl (lv_at hl 2 rfl) ?_
        exact W.iret (v := y2) hx hb hr (fun t ht hW => ⟨⟨y2, (mf mo ad n g), rfl, ⟨h, rfl⟩, by rw [ht]; exact hF, FK.moved hW.alike hK⟩, hS.F ht⟩) hS.2.2 dX9_sumOf_30
      · have h := h2 c_3
        refine lv_iload_n hx hb dX9_sumOf_14 rfl (lv_at hl 2 rfl) ?_
        refine lv_aload_n hx hb dX9_sumOf_15 rfl (lv_at hl 0 rfl) ?_
        refine lv_iload_n hx hb dX9_sumOf_16 rfl (lv_at hl 1 rfl) ?_
        refine lv_iload_n hx hb dX9_sumOf_17 rfl (lv_at hl 3 rfl) ?_
        refine fw_cV_i_p (As := [.int x1, .int y3]) (rest := [.int y2]) ⟨hx, hb, hml, hown, hts⟩ (cc_X9_sizeOfPage l G had h) (⟨callB_of 2 hts ggX9_sumOf_X9_sizeOfPage rfl rfl rfl (hts (.initialized RX9) (by decide +kernel)) (hts (.methodLink RX9 161 yX9_sizeOfPage) (by decide +kernel)) (by decide +kernel) ⟨Nat.le_of_ble_eq_true rfl, Nat.le_of_ble_eq_true rfl⟩, hts (.instanceMethod yX9_sizeOfPage) (by decide +kernel), hts (.selects RX9 yX9_sizeOfPage yX9_sizeOfPage) (by decide +kernel)⟩) rfl mf_obj hK hZ hF hS hA rfl hl.1 rfl (Nat.le_of_ble_eq_true rfl) dX9_sumOf_18 ⟨Nat.zero_le _, Nat.zero_le _⟩ (fun r_4 H locs h hF hS => ?_)
        refine lv_iadd hx hb dX9_sumOf_21 ?_
        refine lv_topi (fun v_5 e_6 => ?_)
        have h := h v_5 e_6
        refine lv_istore_n (lv' := [(2, .int v_5), (0, .ref mo), (1, .int x1), (3, .int y3)]) hx hb dX9_sumOf_22 rfl hl (by decide) rfl (fun ls hl => ?_)
        obtain ⟨v_7, e_8⟩ : ∃ y : Int32, y = y3 + 1 := ⟨_, rfl⟩
        have h := h v_7 e_8
        refine lv_iinc (v := v_7) (lv' := [(3, .int v_7), (2, .int v_5), (0, .ref mo), (1, .int x1)]) hx hb dX9_sumOf_23 hl (k := 3) rfl (by rw [e_8]; rfl) (by decide) rfl (fun ls hl => ?_)
        refine lv_goto (tgt := 4) hx hb dX9_sumOf_26 (by decide) ?_
        exact ih4 v_5 v_7 _ _ _ h hF hS (lv_sub hl [2, 3, 1, 0] rfl)
  have hl := lv_entry ([.ref mo, .int x1]) (n := 4) (Nat.le_of_ble_eq_true rfl)
  rw [lg_entry_eq]
  generalize (lg_sl ([.ref mo, .int x1]) ++ List.replicate (4 - (lg_sl ([.ref mo, .int x1])).length) Slot.unset).toArray = ls at hl ⊢
  have hl : lv_has ls 4 [(0, .ref mo), (1, .int x1)] := hl
  unfold wp_X9_sumOf at h
  refine lv_iconst (v := (0 : Int32)) hx hb dX9_sumOf_0 (by decide) ?_
  refine lv_istore_n (lv' := [(2, .int (0 : Int32)), (0, .ref mo), (1, .int x1)]) hx hb dX9_sumOf_1 rfl hl (by decide) rfl (fun ls hl => ?_)
  refine lv_iconst (v := (0 : Int32)) hx hb dX9_sumOf_2 (by decide) ?_
  refine lv_istore_n (lv' := [(3, .int (0 : Int32)), (2, .int (0 : Int32)), (0, .ref mo), (1, .int x1)]) hx hb dX9_sumOf_3 rfl hl (by decide) rfl (fun ls hl => ?_)
  obtain ⟨n_9, h⟩ := h
  exact L4 n_9 (0 : Int32) (0 : Int32) _ _ _ h hF hS (lv_sub hl [2, 3, 1, 0] rfl)
theorem dX9_open_0 : decode cX9_open 0 = .ok (.iload_n 1, 1) := by decide +kernel
theorem dX9_open_1 : decode cX9_open 1 = .ok (.invokestatic 228, 3) := by decide +kernel
theorem dX9_open_4 : decode cX9_open 4 = .ok (.ifCond .ne 9, 3) := by decide +kernel
theorem dX9_open_7 : decode cX9_open 7 = .ok (.aload_n 0, 1) := by decide +kernel
theorem dX9_open_8 : decode cX9_open 8 = .ok (.iconst 1, 1) := by decide +kernel
theorem dX9_open_9 : decode cX9_open 9 = .ok (.invokevirtual 183, 3) := by decide +kernel
theorem dX9_open_12 : decode cX9_open 12 = .ok (.ireturn, 1) := by decide +kernel
theorem dX9_open_13 : decode cX9_open 13 = .ok (.aload_n 0, 1) := by decide +kernel
theorem dX9_open_14 : decode cX9_open 14 = .ok (.getfield 44, 3) := by decide +kernel
theorem dX9_open_17 : decode cX9_open 17 = .ok (.iload_n 1, 1) := by decide +kernel
theorem dX9_open_18 : decode cX9_open 18 = .ok (.aload_n 0, 1) := by decide +kernel
theorem dX9_open_19 : decode cX9_open 19 = .ok (.aload_n 0, 1) := by decide +kernel
theorem dX9_open_20 : decode cX9_open 20 = .ok (.getfield 7, 3) := by decide +kernel
theorem dX9_open_23 : decode cX9_open 23 = .ok (.aload_n 0, 1) := by decide +kernel
theorem dX9_open_24 : decode cX9_open 24 = .ok (.getfield 88, 3) := by decide +kernel
theorem dX9_open_27 : decode cX9_open 27 = .ok (.invokevirtual 171, 3) := by decide +kernel
theorem dX9_open_30 : decode cX9_open 30 = .ok (.iastore, 1) := by decide +kernel
theorem dX9_open_31 : decode cX9_open 31 = .ok (.aload_n 0, 1) := by decide +kernel
theorem dX9_open_32 : decode cX9_open 32 = .ok (.aload_n 0, 1) := by decide +kernel
theorem dX9_open_33 : decode cX9_open 33 = .ok (.getfield 44, 3) := by decide +kernel
theorem dX9_open_36 : decode cX9_open 36 = .ok (.iload_n 1, 1) := by decide +kernel
theorem dX9_open_37 : decode cX9_open 37 = .ok (.iaload, 1) := by decide +kernel
theorem dX9_open_38 : decode cX9_open 38 = .ok (.aload_n 0, 1) := by decide +kernel
theorem dX9_open_39 : decode cX9_open 39 = .ok (.getfield 106, 3) := by decide +kernel
theorem dX9_open_42 : decode cX9_open 42 = .ok (.if_icmp .ge 7, 3) := by decide +kernel
theorem dX9_open_45 : decode cX9_open 45 = .ok (.iconst 1, 1) := by decide +kernel
theorem dX9_open_46 : decode cX9_open 46 = .ok (.goto 4, 3) := by decide +kernel
theorem dX9_open_49 : decode cX9_open 49 = .ok (.iconst 0, 1) := by decide +kernel
theorem dX9_open_50 : decode cX9_open 50 = .ok (.invokevirtual 179, 3) := by decide +kernel
theorem dX9_open_53 : decode cX9_open 53 = .ok (.ireturn, 1) := by decide +kernel
set_option maxRecDepth 20000 in
theorem ggX9_open_X9_isCursor : GoodIn wsX9_open wsX9_isCursor := goodIn_r _ [8, 9, 10, 7, 11] (by decide +kernel) (by decide +kernel)
set_option maxRecDepth 20000 in
theorem ggX9_open_X9_less : GoodIn wsX9_open wsX9_less := goodIn_r _ [20, 4, 21, 22, 23, 7, 24, 25, 26, 27, 28, 29, 30, 31, 32, 37, 38, 39, 40, 41, 42, 43, 44, 45, 46, 47, 48, 49, 50, 51, 52, 53, 54, 55, 56, 57, 58, 59, 60, 61, 62, 63, 64, 65, 66, 67, 68, 69, 70] (by decide +kernel) (by decide +kernel)
set_option maxRecDepth 20000 in
theorem ggX9_open_X9_not : GoodIn wsX9_open wsX9_not := goodIn_r _ [15, 16, 37, 38, 39, 40, 41, 42, 43, 44, 45, 46, 47, 48, 49, 50, 51, 52, 53, 54, 55, 56, 57, 58, 59, 60, 61, 62, 63, 64, 65, 66, 67, 68, 69, 70] (by decide +kernel) (by decide +kernel)
set_option maxRecDepth 20000 in
theorem ggX9_open_X9_so : GoodIn wsX9_open wsX9_so := goodIn_r _ [36, 16, 37, 38, 39, 40, 41, 42, 43, 44, 45, 46, 47, 48, 49, 50, 51, 52, 53, 54, 55, 56, 57, 58, 59, 60, 61, 62, 63, 64, 65, 66, 67, 68, 69, 70] (by decide +kernel) (by decide +kernel)
def wp_X9_open_50  (z0 : Int32) (n : Nat → Int32) (g : Nat → Nat → Int32) (K : Int32 → (Nat → Int32) → (Nat → Nat → Int32) → Prop)  : Prop :=
  wp_X9_so z0 n g (fun r_1 n_3 g_4 => isB r_1 ∧ K r_1 n_3 g_4)
def wp_X9_open (x1 : Int32) (n : Nat → Int32) (g : Nat → Nat → Int32) (K : Int32 → (Nat → Int32) → (Nat → Nat → Int32) → Prop) : Prop :=
  wp_X9_isCursor x1 n g (fun r_5 => ((¬ r_5 = (0 : Int32) → wp_X9_less 2 (n 1) n g (fun r_7 => vp_in x1 (mlen 18) ∧ ∀ g_9 : Nat → Nat → Int32, g_9 = mup g 18 (x1).toNatClampNeg r_7 → vp_in x1 (mlen 18) ∧ ∀ v_11 : Int32, v_11 = g_9 18 (x1).toNatClampNeg → (((n 9) ≤ v_11 → wp_X9_open_50 (0 : Int32) n g_9 K) ∧
 (¬ ((n 9) ≤ v_11) → wp_X9_open_50 (1 : Int32) n g_9 K)))) ∧
 (r_5 = (0 : Int32) → wp_X9_not (1 : Int32) n g (fun r_13 n_15 g_16 => isB r_13 ∧ K r_13 n_15 g_16))))
set_option maxHeartbeats 4000000 in
set_option maxRecDepth 100000 in
theorem cc_X9_open (l : Launch) (G : GG) {mo : Nat} {ad : Nat → Nat} (had : MAd mo ad) {n : Nat → Int32} {g : Nat → Nat → Int32} {sz : Nat} {x1 : Int32} {K : Int32 → (Nat → Int32) → (Nat → Nat → Int32) → Prop} (h : wp_X9_open x1 n g K) : Met l yX9_open wsX9_open ({ frames := 4, cells := 0, slots := 0, locals := 98 } : Room) (FP G [.ref mo, .int x1] (mf mo ad n g) sz) (va_Qi (fun r f9 => ∃ n9 g9, f9 = mf mo ad n9 g9 ∧ K r n9 g9 : Int32 → FT → Prop) (FB G (fA (mf mo ad n g) sz)) (fA (mf mo ad n g) sz)) 0 0 (fA (mf mo ad n g) sz) := by
  refine Met.ofW (cc := cX9_open) (maxL := 2) (ret := (some .boolean)) (by decide) rfl ?_
  intro p e s m args below meth c s₁ B hml hv
  obtain ⟨rfl, hsz, hF, hK, hZ⟩ := hv
  have hx := B.exec
  have hb := B.bytes
  have hr := B.returns
  have hts := atoms_spec (ws := wsX9_open) B.pre
  have hown : s.vm.findClass RX9 = some m.cls := findClass_of_methodNamed B.named
  have hlocks := B.notSynchronized
  subst hsz
  have hF := hF.self (sz := s.heap.size)
  generalize hAe : fA (mf mo ad n g) s.heap.size = A at hF hZ ⊢
  have hA : ∀ q : Nat, s.heap.size ≤ q → A q := fun q h => by rw [← hAe]; exact Or.inr h
  have hS : va_S A s.heap s.heap [] := va_S.rf
  have hin_X9 : ∀ w ∈ wsX90, w ∈ wsX9_open := by decide +kernel
  have J50 : ∀ (z0 : Int32) (n : Nat → Int32) (g : Nat → Nat → Int32) (H : Heap) (locs : List Loc) (ls : Array Slot), wp_X9_open_50 z0 n g K  → Fw G A (mf mo ad n g) H → va_S A s.heap H locs → lv_has ls 2 [] → W p l e ({ frames := 4, cells := 0, slots := 0, locals := 98 } : Room) s m ([.ref mo, .int x1] : List Value).toArray below meth c H locs 0 0 (MQ below (va_Qi (fun r f9 => ∃ n9 g9, f9 = mf mo ad n9 g9 ∧ K r n9 g9 : Int32 → FT → Prop) (FB G A) A) ([.ref mo, .int x1] : List Value).toArray s 0 0 A) (F0 m 50 ls [.int z0, .ref mo]) := by
    intro z0 n g H locs ls h hF hS hl
    unfold wp_X9_open_50 at h
    refine fw_cV_i (As := [.int z0]) (rest := []) ⟨hx, hb, hml, hown, hts⟩ (cc_X9_so l G had h) (⟨callB_of 1 hts ggX9_open_X9_so rfl rfl rfl (hts (.initialized RX9) (by decide +kernel)) (hts (.methodLink RX9 179 yX9_so) (by decide +kernel)) (by decide +kernel) ⟨Nat.le_of_ble_eq_true rfl, Nat.le_of_ble_eq_true rfl⟩, hts (.instanceMethod yX9_so) (by decide +kernel), hts (.selects RX9 yX9_so yX9_so) (by decide +kernel)⟩) rfl mf_obj hK hZ hF hS hA rfl hl.1 rfl (Nat.le_of_ble_eq_true rfl) dX9_open_50 ⟨Nat.zero_le _, Nat.zero_le _⟩ (fun r_1 f9 H locs h hF hS => ?_)
    obtain ⟨n_3, g_4, rfl, h⟩ := h
    obtain ⟨hz, h⟩ := h
    exact W.zret (v := r_1) hx hb hr (isB_nar hz) (fun t ht hW => ⟨⟨r_1, (mf mo ad n_3 g_4), rfl, ⟨_, _, rfl, h⟩, by rw [ht]; exact hF, FK.moved hW.alike hK⟩, hS.F ht⟩) hS.2.2 dX9_open_53
  have hl := lv_entry ([.ref mo, .int x1]) (n := 2) (Nat.le_of_ble_eq_true rfl)
  rw [lg_entry_eq]
  generalize (lg_sl ([.ref mo, .int x1]) ++ List.replicate (2 - (lg_sl ([.ref mo, .int x1])).length) Slot.unset).toArray = ls at hl ⊢
  have hl : lv_has ls 2 [(0, .ref mo), (1, .int x1)] := hl
  unfold wp_X9_open at h
  refine lv_iload_n hx hb dX9_open_0 rfl (lv_at hl 1 rfl) ?_
  refine fw_cS_i_p (As := [.int x1]) (rest := []) ⟨hx, hb, hml, hown, hts⟩ (cc_X9_isCursor l G had h) (⟨callB_of 1 hts ggX9_open_X9_isCursor rfl rfl rfl (hts (.initialized RX9) (by decide +kernel)) (hts (.methodLink RX9 228 yX9_isCursor) (by decide +kernel)) (by decide +kernel) ⟨Nat.le_of_ble_eq_true rfl, Nat.le_of_ble_eq_true rfl⟩, hts (.static yX9_isCursor) (by decide +kernel)⟩) hK hZ hF hS hA rfl hl.1 rfl (Nat.le_of_ble_eq_true rfl) dX9_open_1 ⟨Nat.zero_le _, Nat.zero_le _⟩ (fun r_5 H locs h hF hS => ?_)
  obtain ⟨h1, h2⟩ := h
  refine lv_if_ne (tgt := 13) hx hb dX9_open_4 (by decide) (fun c_6 => ?_) (fun c_6 => ?_)
  · have h := h1 c_6
    refine lv_aload_n hx hb dX9_open_13 rfl (lv_at hl 0 rfl) ?_
    refine fw_get (C := RX9) (T := TX9) (N := 34) hx hb hts hin_X9 hown hK hF mf_obj rfl 18 (by decide) (hts (.fieldLink RX9 44 "FrontCodedIndexModel" "cursors" "[I") (by decide +kernel)) (fun _ h9 => h9) rfl dX9_open_14 ?_
    refine lv_iload_n hx hb dX9_open_17 rfl (lv_at hl 1 rfl) ?_
    refine lv_aload_n hx hb dX9_open_18 rfl (lv_at hl 0 rfl) ?_
    refine lv_aload_n hx hb dX9_open_19 rfl (lv_at hl 0 rfl) ?_
    refine fw_get (C := RX9) (T := TX9) (N := 34) hx hb hts hin_X9 hown hK hF mf_obj rfl 2 (by decide) (hts (.fieldLink RX9 7 "FrontCodedIndexModel" "key" "[I") (by decide +kernel)) (fun _ h9 => h9) rfl dX9_open_20 ?_
    refine lv_aload_n hx hb dX9_open_23 rfl (lv_at hl 0 rfl) ?_
    refine fw_get (C := RX9) (T := TX9) (N := 34) hx hb hts hin_X9 hown hK hF mf_obj rfl 1 (by decide) (hts (.fieldLink RX9 88 "FrontCodedIndexModel" "keySize" "I") (by decide +kernel)) (fun _ h9 => h9) rfl dX9_open_24 ?_
    refine fw_cV_i_p (As := [.ref (ad 2), .int (n 1)]) (rest := [.int x1, .ref (ad 18)]) ⟨hx, hb, hml, hown, hts⟩ (cc_X9_less l G had h) (⟨callB_of 2 hts ggX9_open_X9_less rfl rfl rfl (hts (.initialized RX9) (by decide +kernel)) (hts (.methodLink RX9 171 yX9_less) (by decide +kernel)) (by decide +kernel) ⟨Nat.le_of_ble_eq_true rfl, Nat.le_of_ble_eq_true rfl⟩, hts (.instanceMethod yX9_less) (by decide +kernel), hts (.selects RX9 yX9_less yX9_less) (by decide +kernel)⟩) rfl mf_obj hK hZ hF hS hA rfl hl.1 rfl (Nat.le_of_ble_eq_true rfl) dX9_open_27 ⟨Nat.zero_le _, Nat.zero_le _⟩ (fun r_7 H locs h hF hS => ?_)
    obtain ⟨hi_i_8, h⟩ := h
    refine fw_iast hx hb hK hF hS (mf_arr had 18 (by decide)) hi_i_8 dX9_open_30 (fun H locs hF hS => ?_)
    rw [mf_st had 18 (by decide)] at hF
    obtain ⟨g_9, hg_g_9⟩ : ∃ z, z = mup g 18 (x1).toNatClampNeg r_7 := ⟨_, rfl⟩
    rw [← hg_g_9] at hF; have h := h g_9 hg_g_9
    refine lv_aload_n hx hb dX9_open_31 rfl (lv_at hl 0 rfl) ?_
    refine lv_aload_n hx hb dX9_open_32 rfl (lv_at hl 0 rfl) ?_
    refine fw_get (C := RX9) (T := TX9) (N := 34) hx hb hts hin_X9 hown hK hF mf_obj rfl 18 (by decide) (hts (.fieldLink RX9 44 "FrontCodedIndexModel" "cursors" "[I") (by decide +kernel)) (fun _ h9 => h9) rfl dX9_open_33 ?_
    refine lv_iload_n hx hb dX9_open_36 rfl (lv_at hl 1 rfl) ?_
    obtain ⟨hi_i_10, h⟩ := h
    refine fw_iald hx hb hK hF (mf_arr had 18 (by decide)) hi_i_10 dX9_open_37 ?_
    refine lv_topi (fun v_11 e_v_11 => ?_)
    have h := h v_11 e_v_11
    refine lv_aload_n hx hb dX9_open_38 rfl (lv_at hl 0 rfl) ?_
    refine fw_get (C := RX9) (T := TX9) (N := 34) hx hb hts hin_X9 hown hK hF mf_obj rfl 9 (by decide) (hts (.fieldLink RX9 106 "FrontCodedIndexModel" "entries" "I") (by decide +kernel)) (fun _ h9 => h9) rfl dX9_open_39 ?_
    obtain ⟨h1, h2⟩ := h
    refine lv_icmp_ge (tgt := 49) hx hb dX9_open_42 (by decide) (fun c_12 => ?_) (fun c_12 => ?_)
    · have h := h1 c_12
      refine lv_iconst (v := (0 : Int32)) hx hb dX9_open_49 (by decide) ?_
      exact J50 (0 : Int32) n g_9 _ _ _ h hF hS (lv_sub hl [] rfl)
    · have h := h2 c_12
      refine lv_iconst (v := (1 : Int32)) hx hb dX9_open_45 (by decide) ?_
      refine lv_goto (tgt := 50) hx hb dX9_open_46 (by decide) ?_
      exact J50 (1 : Int32) n g_9 _ _ _ h hF hS (lv_sub hl [] rfl)
  · have h := h2 c_6
    refine lv_aload_n hx hb dX9_open_7 rfl (lv_at hl 0 rfl) ?_
    refine lv_iconst (v := (1 : Int32)) hx hb dX9_open_8 (by decide) ?_
    refine fw_cV_i (As := [.int (1 : Int32)]) (rest := []) ⟨hx, hb, hml, hown, hts⟩ (cc_X9_not l G had h) (⟨callB_of 1 hts ggX9_open_X9_not rfl rfl rfl (hts (.initialized RX9) (by decide +kernel)) (hts (.methodLink RX9 183 yX9_not) (by decide +kernel)) (by decide +kernel) ⟨Nat.le_of_ble_eq_true rfl, Nat.le_of_ble_eq_true rfl⟩, hts (.instanceMethod yX9_not) (by decide +kernel), hts (.selects RX9 yX9_not yX9_not) (by decide +kernel)⟩) rfl mf_obj hK hZ hF hS hA rfl hl.1 rfl (Nat.le_of_ble_eq_true rfl) dX9_open_9 ⟨Nat.zero_le _, Nat.zero_le _⟩ (fun r_13 f9 H locs h hF hS => ?_)
    obtain ⟨n_15, g_16, rfl, h⟩ := h
    obtain ⟨hz, h⟩ := h
    exact W.zret (v := r_13) hx hb hr (isB_nar hz) (fun t ht hW => ⟨⟨r_13, (mf mo ad n_15 g_16), rfl, ⟨_, _, rfl, h⟩, by rw [ht]; exact hF, FK.moved hW.alike hK⟩, hS.F ht⟩) hS.2.2 dX9_open_12
theorem dX9_pageCount_0 : decode cX9_pageCount 0 = .ok (.iload_n 1, 1) := by decide +kernel
theorem dX9_pageCount_1 : decode cX9_pageCount 1 = .ok (.iconst 0, 1) := by decide +kernel
theorem dX9_pageCount_2 : decode cX9_pageCount 2 = .ok (.aload_n 0, 1) := by decide +kernel
theorem dX9_pageCount_3 : decode cX9_pageCount 3 = .ok (.getfield 29, 3) := by decide +kernel
theorem dX9_pageCount_6 : decode cX9_pageCount 6 = .ok (.iconst 1, 1) := by decide +kernel
theorem dX9_pageCount_7 : decode cX9_pageCount 7 = .ok (.isub, 1) := by decide +kernel
theorem dX9_pageCount_8 : decode cX9_pageCount 8 = .ok (.invokestatic 80, 3) := by decide +kernel
theorem dX9_pageCount_11 : decode cX9_pageCount 11 = .ok (.ifCond .eq 23, 3) := by decide +kernel
theorem dX9_pageCount_14 : decode cX9_pageCount 14 = .ok (.aload_n 0, 1) := by decide +kernel
theorem dX9_pageCount_15 : decode cX9_pageCount 15 = .ok (.aload_n 0, 1) := by decide +kernel
theorem dX9_pageCount_16 : decode cX9_pageCount 16 = .ok (.getfield 32, 3) := by decide +kernel
theorem dX9_pageCount_19 : decode cX9_pageCount 19 = .ok (.aload_n 0, 1) := by decide +kernel
theorem dX9_pageCount_20 : decode cX9_pageCount 20 = .ok (.getfield 29, 3) := by decide +kernel
theorem dX9_pageCount_23 : decode cX9_pageCount 23 = .ok (.iconst 1, 1) := by decide +kernel
theorem dX9_pageCount_24 : decode cX9_pageCount 24 = .ok (.isub, 1) := by decide +kernel
theorem dX9_pageCount_25 : decode cX9_pageCount 25 = .ok (.iload_n 1, 1) := by decide +kernel
theorem dX9_pageCount_26 : decode cX9_pageCount 26 = .ok (.isub, 1) := by decide +kernel
theorem dX9_pageCount_27 : decode cX9_pageCount 27 = .ok (.iaload, 1) := by decide +kernel
theorem dX9_pageCount_28 : decode cX9_pageCount 28 = .ok (.invokevirtual 91, 3) := by decide +kernel
theorem dX9_pageCount_31 : decode cX9_pageCount 31 = .ok (.goto 8, 3) := by decide +kernel
theorem dX9_pageCount_34 : decode cX9_pageCount 34 = .ok (.aload_n 0, 1) := by decide +kernel
theorem dX9_pageCount_35 : decode cX9_pageCount 35 = .ok (.iconst 1, 1) := by decide +kernel
theorem dX9_pageCount_36 : decode cX9_pageCount 36 = .ok (.invokevirtual 84, 3) := by decide +kernel
theorem dX9_pageCount_39 : decode cX9_pageCount 39 = .ok (.ireturn, 1) := by decide +kernel
set_option maxRecDepth 20000 in
theorem ggX9_pageCount_X9_done : GoodIn wsX9_pageCount wsX9_done := goodIn_r _ [10, 11, 16, 17, 18, 19, 20, 21, 22, 23, 24, 25, 26, 27, 28, 29, 30, 31, 32, 33, 34, 35, 36, 37, 38, 39, 40, 41, 42, 43, 44, 45, 46, 47, 48, 49] (by decide +kernel) (by decide +kernel)
set_option maxRecDepth 20000 in
theorem ggX9_pageCount_X9_fails : GoodIn wsX9_pageCount wsX9_fails := goodIn_r _ [15, 11, 16, 17, 18, 19, 20, 21, 22, 23, 24, 25, 26, 27, 28, 29, 30, 31, 32, 33, 34, 35, 36, 37, 38, 39, 40, 41, 42, 43, 44, 45, 46, 47, 48, 49] (by decide +kernel) (by decide +kernel)
set_option maxRecDepth 20000 in
theorem ggX9_pageCount_X9_in : GoodIn wsX9_pageCount wsX9_in := goodIn_r _ [6] (by decide +kernel) (by decide +kernel)
def wp_X9_pageCount (x1 : Int32) (n : Nat → Int32) (g : Nat → Nat → Int32) (K : Int32 → (Nat → Int32) → (Nat → Nat → Int32) → Prop) : Prop :=
  wp_X9_in x1 (0 : Int32) ((n 13) - (1 : Int32)) n g (fun r_1 => ((r_1 = (0 : Int32) → wp_X9_fails (1 : Int32) n g (fun r_3 n_5 g_6 => K r_3 n_5 g_6)) ∧
 (¬ (r_1 = (0 : Int32)) → vp_in (((n 13) - (1 : Int32)) - x1) (mlen 14) ∧ ∀ v_8 : Int32, v_8 = g 14 ((((n 13) - (1 : Int32)) - x1)).toNatClampNeg → wp_X9_done v_8 n g (fun r_9 n_11 g_12 => K r_9 n_11 g_12))))
set_option maxHeartbeats 4000000 in
set_option maxRecDepth 100000 in
theorem cc_X9_pageCount (l : Launch) (G : GG) {mo : Nat} {ad : Nat → Nat} (had : MAd mo ad) {n : Nat → Int32} {g : Nat → Nat → Int32} {sz : Nat} {x1 : Int32} {K : Int32 → (Nat → Int32) → (Nat → Nat → Int32) → Prop} (h : wp_X9_pageCount x1 n g K) : Met l yX9_pageCount wsX9_pageCount ({ frames := 1, cells := 0, slots := 0, locals := 22 } : Room) (FP G [.ref mo, .int x1] (mf mo ad n g) sz) (va_Qi (fun r f9 => ∃ n9 g9, f9 = mf mo ad n9 g9 ∧ K r n9 g9 : Int32 → FT → Prop) (FB G (fA (mf mo ad n g) sz)) (fA (mf mo ad n g) sz)) 0 0 (fA (mf mo ad n g) sz) := by
  refine Met.ofW (cc := cX9_pageCount) (maxL := 2) (ret := (some .int)) (by decide) rfl ?_
  intro p e s m args below meth c s₁ B hml hv
  obtain ⟨rfl, hsz, hF, hK, hZ⟩ := hv
  have hx := B.exec
  have hb := B.bytes
  have hr := B.returns
  have hts := atoms_spec (ws := wsX9_pageCount) B.pre
  have hown : s.vm.findClass RX9 = some m.cls := findClass_of_methodNamed B.named
  have hlocks := B.notSynchronized
  subst hsz
  have hF := hF.self (sz := s.heap.size)
  generalize hAe : fA (mf mo ad n g) s.heap.size = A at hF hZ ⊢
  have hA : ∀ q : Nat, s.heap.size ≤ q → A q := fun q h => by rw [← hAe]; exact Or.inr h
  have hS : va_S A s.heap s.heap [] := va_S.rf
  have hin_X9 : ∀ w ∈ wsX90, w ∈ wsX9_pageCount := by decide +kernel
  have hl := lv_entry ([.ref mo, .int x1]) (n := 2) (Nat.le_of_ble_eq_true rfl)
  rw [lg_entry_eq]
  generalize (lg_sl ([.ref mo, .int x1]) ++ List.replicate (2 - (lg_sl ([.ref mo, .int x1])).length) Slot.unset).toArray = ls at hl ⊢
  have hl : lv_has ls 2 [(0, .ref mo), (1, .int x1)] := hl
  unfold wp_X9_pageCount at h
  refine lv_iload_n hx hb dX9_pageCount_0 rfl (lv_at hl 1 rfl) ?_
  refine lv_iconst (v := (0 : Int32)) hx hb dX9_pageCount_1 (by decide) ?_
  refine lv_aload_n hx hb dX9_pageCount_2 rfl (lv_at hl 0 rfl) ?_
  refine fw_get (C := RX9) (T := TX9) (N := 34) hx hb hts hin_X9 hown hK hF mf_obj rfl 13 (by decide) (hts (.fieldLink RX9 29 "FrontCodedIndexModel" "levels" "I") (by decide +kernel)) (fun _ h9 => h9) rfl dX9_pageCount_3 ?_
  refine lv_iconst (v := (1 : Int32)) hx hb dX9_pageCount_6 (by decide) ?_
  refine lv_isub hx hb dX9_pageCount_7 ?_
  refine fw_cS_i_p (As := [.int x1, .int (0 : Int32), .int ((n 13) - (1 : Int32))]) (rest := []) ⟨hx, hb, hml, hown, hts⟩ (cc_X9_in l G had h) (⟨callB_of 3 hts ggX9_pageCount_X9_in rfl rfl rfl (hts (.initialized RX9) (by decide +kernel)) (hts (.methodLink RX9 80 yX9_in) (by decide +kernel)) (by decide +kernel) ⟨Nat.le_of_ble_eq_true rfl, Nat.le_of_ble_eq_true rfl⟩, hts (.static yX9_in) (by decide +kernel)⟩) hK hZ hF hS hA rfl hl.1 rfl (Nat.le_of_ble_eq_true rfl) dX9_pageCount_8 ⟨Nat.zero_le _, Nat.zero_le _⟩ (fun r_1 H locs h hF hS => ?_)
  obtain ⟨h1, h2⟩ := h
  refine lv_if_eq (tgt := 34) hx hb dX9_pageCount_11 (by decide) (fun c_2 => ?_) (fun c_2 => ?_)
  · have h := h1 c_2
    refine lv_aload_n hx hb dX9_pageCount_34 rfl (lv_at hl 0 rfl) ?_
    refine lv_iconst (v := (1 : Int32)) hx hb dX9_pageCount_35 (by decide) ?_
    refine fw_cV_i (As := [.int (1 : Int32)]) (rest := []) ⟨hx, hb, hml, hown, hts⟩ (cc_X9_fails l G had h) (⟨callB_of 1 hts ggX9_pageCount_X9_fails rfl rfl rfl (hts (.initialized RX9) (by decide +kernel)) (hts (.methodLink RX9 84 yX9_fails) (by decide +kernel)) (by decide +kernel) ⟨Nat.le_of_ble_eq_true rfl, Nat.le_of_ble_eq_true rfl⟩, hts (.instanceMethod yX9_fails) (by decide +kernel), hts (.selects RX9 yX9_fails yX9_fails) (by decide +kernel)⟩) rfl mf_obj hK hZ hF hS hA rfl hl.1 rfl (Nat.le_of_ble_eq_true rfl) dX9_pageCount_36 ⟨Nat.zero_le _, Nat.zero_le _⟩ (fun r_3 f9 H locs h hF hS => ?_)
    obtain ⟨n_5, g_6, rfl, h⟩ := h
    exact W.iret (v := r_3) hx hb hr (fun t ht hW => ⟨⟨r_3, (mf mo ad n_5 g_6), rfl, ⟨_, _, rfl, h⟩, by rw [ht]; exact hF, FK.moved hW.alike hK⟩, hS.F ht⟩) hS.2.2 dX9_pageCount_39
  · have h := h2 c_2
    refine lv_aload_n hx hb dX9_pageCount_14 rfl (lv_at hl 0 rfl) ?_
    refine lv_aload_n hx hb dX9_pageCount_15 rfl (lv_at hl 0 rfl) ?_
    refine fw_get (C := RX9) (T := TX9) (N := 34) hx hb hts hin_X9 hown hK hF mf_obj rfl 14 (by decide) (hts (.fieldLink RX9 32 "FrontCodedIndexModel" "many" "[I") (by decide +kernel)) (fun _ h9 => h9) rfl dX9_pageCount_16 ?_
    refine lv_aload_n hx hb dX9_pageCount_19 rfl (lv_at hl 0 rfl) ?_
    refine fw_get (C := RX9) (T := TX9) (N := 34) hx hb hts hin_X9 hown hK hF mf_obj rfl 13 (by decide) (hts (.fieldLink RX9 29 "FrontCodedIndexModel" "levels" "I") (by decide +kernel)) (fun _ h9 => h9) rfl dX9_pageCount_20 ?_
    refine lv_iconst (v := (1 : Int32)) hx hb dX9_pageCount_23 (by decide) ?_
    refine lv_isub hx hb dX9_pageCount_24 ?_
    refine lv_iload_n hx hb dX9_pageCount_25 rfl (lv_at hl 1 rfl) ?_
    refine lv_isub hx hb dX9_pageCount_26 ?_
    obtain ⟨hi_i_7, h⟩ := h
    refine fw_iald hx hb hK hF (mf_arr had 14 (by decide)) hi_i_7 dX9_pageCount_27 ?_
    refine lv_topi (fun v_8 e_v_8 => ?_)
    have h := h v_8 e_v_8
    refine fw_cV_i (As := [.int v_8]) (rest := []) ⟨hx, hb, hml, hown, hts⟩ (cc_X9_done l G had h) (⟨callB_of 1 hts ggX9_pageCount_X9_done rfl rfl rfl (hts (.initialized RX9) (by decide +kernel)) (hts (.methodLink RX9 91 yX9_done) (by decide +kernel)) (by decide +kernel) ⟨Nat.le_of_ble_eq_true rfl, Nat.le_of_ble_eq_true rfl⟩, hts (.instanceMethod yX9_done) (by decide +kernel), hts (.selects RX9 yX9_done yX9_done) (by decide +kernel)⟩) rfl mf_obj hK hZ hF hS hA rfl hl.1 rfl (Nat.le_of_ble_eq_true rfl) dX9_pageCount_28 ⟨Nat.zero_le _, Nat.zero_le _⟩ (fun r_9 f9 H locs h hF hS => ?_)
    obtain ⟨n_11, g_12, rfl, h⟩ := h
    refine lv_goto (tgt := 39) hx hb dX9_pageCount_31 (by decide) ?_
    exact W.iret (v := r_9) hx hb hr (fun t ht hW => ⟨⟨r_9, (mf mo ad n_11 g_12), rfl, ⟨_, _, rfl, h⟩, by rw [ht]; exact hF, FK.moved hW.alike hK⟩, hS.F ht⟩) hS.2.2 dX9_pageCount_39
