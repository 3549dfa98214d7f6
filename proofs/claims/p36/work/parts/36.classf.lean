theorem dX6_mergeIfSmall_0 : decode cX6_mergeIfSmall 0 = .ok (.aload_n 0, 1) := by decide +kernel
theorem dX6_mergeIfSmall_1 : decode cX6_mergeIfSmall 1 = .ok (.getfield 13, 3) := by decide +kernel
theorem dX6_mergeIfSmall_4 : decode cX6_mergeIfSmall 4 = .ok (.iload_n 1, 1) := by decide +kernel
theorem dX6_mergeIfSmall_5 : decode cX6_mergeIfSmall 5 = .ok (.iload_n 2, 1) := by decide +kernel
theorem dX6_mergeIfSmall_6 : decode cX6_mergeIfSmall 6 = .ok (.invokevirtual 74, 3) := by decide +kernel
theorem dX6_mergeIfSmall_9 : decode cX6_mergeIfSmall 9 = .ok (.aload_n 0, 1) := by decide +kernel
theorem dX6_mergeIfSmall_10 : decode cX6_mergeIfSmall 10 = .ok (.getfield 13, 3) := by decide +kernel
theorem dX6_mergeIfSmall_13 : decode cX6_mergeIfSmall 13 = .ok (.getfield 77, 3) := by decide +kernel
theorem dX6_mergeIfSmall_16 : decode cX6_mergeIfSmall 16 = .ok (.iconst 2, 1) := by decide +kernel
theorem dX6_mergeIfSmall_17 : decode cX6_mergeIfSmall 17 = .ok (.idiv, 1) := by decide +kernel
theorem dX6_mergeIfSmall_18 : decode cX6_mergeIfSmall 18 = .ok (.if_icmp .lt 5, 3) := by decide +kernel
theorem dX6_mergeIfSmall_21 : decode cX6_mergeIfSmall 21 = .ok (.iconst 0, 1) := by decide +kernel
theorem dX6_mergeIfSmall_22 : decode cX6_mergeIfSmall 22 = .ok (.ireturn, 1) := by decide +kernel
theorem dX6_mergeIfSmall_23 : decode cX6_mergeIfSmall 23 = .ok (.aload_n 0, 1) := by decide +kernel
theorem dX6_mergeIfSmall_24 : decode cX6_mergeIfSmall 24 = .ok (.getfield 13, 3) := by decide +kernel
theorem dX6_mergeIfSmall_27 : decode cX6_mergeIfSmall 27 = .ok (.iload_n 1, 1) := by decide +kernel
theorem dX6_mergeIfSmall_28 : decode cX6_mergeIfSmall 28 = .ok (.iload_n 2, 1) := by decide +kernel
theorem dX6_mergeIfSmall_29 : decode cX6_mergeIfSmall 29 = .ok (.invokevirtual 80, 3) := by decide +kernel
theorem dX6_mergeIfSmall_32 : decode cX6_mergeIfSmall 32 = .ok (.ifCond .eq 16, 3) := by decide +kernel
theorem dX6_mergeIfSmall_35 : decode cX6_mergeIfSmall 35 = .ok (.aload_n 0, 1) := by decide +kernel
theorem dX6_mergeIfSmall_36 : decode cX6_mergeIfSmall 36 = .ok (.iload_n 1, 1) := by decide +kernel
theorem dX6_mergeIfSmall_37 : decode cX6_mergeIfSmall 37 = .ok (.iload_n 2, 1) := by decide +kernel
theorem dX6_mergeIfSmall_38 : decode cX6_mergeIfSmall 38 = .ok (.iconst 1, 1) := by decide +kernel
theorem dX6_mergeIfSmall_39 : decode cX6_mergeIfSmall 39 = .ok (.isub, 1) := by decide +kernel
theorem dX6_mergeIfSmall_40 : decode cX6_mergeIfSmall 40 = .ok (.invokevirtual 83, 3) := by decide +kernel
theorem dX6_mergeIfSmall_43 : decode cX6_mergeIfSmall 43 = .ok (.ifCond .eq 5, 3) := by decide +kernel
theorem dX6_mergeIfSmall_46 : decode cX6_mergeIfSmall 46 = .ok (.iconst 1, 1) := by decide +kernel
theorem dX6_mergeIfSmall_47 : decode cX6_mergeIfSmall 47 = .ok (.ireturn, 1) := by decide +kernel
theorem dX6_mergeIfSmall_48 : decode cX6_mergeIfSmall 48 = .ok (.aload_n 0, 1) := by decide +kernel
theorem dX6_mergeIfSmall_49 : decode cX6_mergeIfSmall 49 = .ok (.getfield 13, 3) := by decide +kernel
theorem dX6_mergeIfSmall_52 : decode cX6_mergeIfSmall 52 = .ok (.iload_n 1, 1) := by decide +kernel
theorem dX6_mergeIfSmall_53 : decode cX6_mergeIfSmall 53 = .ok (.iload_n 2, 1) := by decide +kernel
theorem dX6_mergeIfSmall_54 : decode cX6_mergeIfSmall 54 = .ok (.invokevirtual 86, 3) := by decide +kernel
theorem dX6_mergeIfSmall_57 : decode cX6_mergeIfSmall 57 = .ok (.ifCond .eq 16, 3) := by decide +kernel
theorem dX6_mergeIfSmall_60 : decode cX6_mergeIfSmall 60 = .ok (.aload_n 0, 1) := by decide +kernel
theorem dX6_mergeIfSmall_61 : decode cX6_mergeIfSmall 61 = .ok (.iload_n 1, 1) := by decide +kernel
theorem dX6_mergeIfSmall_62 : decode cX6_mergeIfSmall 62 = .ok (.iload_n 2, 1) := by decide +kernel
theorem dX6_mergeIfSmall_63 : decode cX6_mergeIfSmall 63 = .ok (.invokevirtual 83, 3) := by decide +kernel
theorem dX6_mergeIfSmall_66 : decode cX6_mergeIfSmall 66 = .ok (.ifCond .eq 7, 3) := by decide +kernel
theorem dX6_mergeIfSmall_69 : decode cX6_mergeIfSmall 69 = .ok (.iconst 1, 1) := by decide +kernel
theorem dX6_mergeIfSmall_70 : decode cX6_mergeIfSmall 70 = .ok (.goto 4, 3) := by decide +kernel
theorem dX6_mergeIfSmall_73 : decode cX6_mergeIfSmall 73 = .ok (.iconst 0, 1) := by decide +kernel
theorem dX6_mergeIfSmall_74 : decode cX6_mergeIfSmall 74 = .ok (.ireturn, 1) := by decide +kernel
set_option maxRecDepth 20000 in
theorem ggX6_mergeIfSmall_X6_mergeWithNext : GoodIn wsX6_mergeIfSmall wsX6_mergeWithNext := goodIn_r _ [101, 1, 102, 103, 8, 9, 5, 10, 11, 12, 13, 14, 15, 16, 17, 18, 19, 20, 21, 22, 23, 24, 25, 26, 27, 28, 29, 30, 31, 32, 33, 34, 35, 36, 37, 38, 39, 40, 41, 42, 43, 44, 45, 46, 47, 104, 49, 50, 51, 105, 53, 54, 55, 56, 57, 58, 59, 60, 61, 62, 63, 64, 65, 66, 67, 68, 69, 70, 71, 72, 73, 74, 75, 76, 77, 78, 79, 80, 81, 82, 106, 107, 89, 90, 91, 92, 93, 94, 95, 96, 108, 109, 110, 111, 112, 113, 114, 115, 116, 117, 118, 119, 120, 121, 122, 123, 124, 125, 126, 127, 128, 129, 130, 131, 132, 133, 134, 135, 136, 137, 142, 143, 144, 145, 146, 147, 148, 149, 150, 151, 152, 153, 154, 155, 156, 157, 158, 159, 160] (by decide +kernel) (by decide +kernel)
set_option maxRecDepth 20000 in
theorem ggX6_mergeIfSmall_X7_hasLeftSibling : GoodIn wsX6_mergeIfSmall wsX7_hasLeftSibling := goodIn_r _ [86, 87, 88, 89, 90, 5, 91, 11, 12, 13, 14, 15, 16, 17, 18, 19, 20, 21, 22, 23, 24, 25, 26, 27, 28, 29, 30, 31, 32, 33, 34, 35, 36, 37, 38, 39, 40, 92, 93, 94, 44, 95, 46, 96, 42, 43, 45, 47, 7, 8, 9, 10, 41, 145, 146, 147, 148, 149, 150, 151, 152, 153, 154, 155, 156, 157] (by decide +kernel) (by decide +kernel)
set_option maxRecDepth 20000 in
theorem ggX6_mergeIfSmall_X7_hasRightSibling : GoodIn wsX6_mergeIfSmall wsX7_hasRightSibling := goodIn_r _ [141, 87, 88, 89, 90, 5, 91, 11, 12, 13, 14, 15, 16, 17, 18, 19, 20, 21, 22, 23, 24, 25, 26, 27, 28, 29, 30, 31, 32, 33, 34, 35, 36, 37, 38, 39, 40, 92, 93, 94, 44, 95, 46, 96, 42, 43, 45, 47, 48, 49, 50, 51, 41, 145, 146, 147, 148, 149, 150, 151, 152, 153, 154, 155, 156, 157] (by decide +kernel) (by decide +kernel)
set_option maxRecDepth 20000 in
theorem ggX6_mergeIfSmall_X7_pageBytes : GoodIn wsX6_mergeIfSmall wsX7_pageBytes := goodIn_r _ [6, 7, 8, 9, 5, 10, 11, 12, 13, 14, 15, 16, 17, 18, 19, 20, 21, 22, 23, 24, 25, 26, 27, 28, 29, 30, 31, 32, 33, 34, 35, 36, 37, 38, 39, 40, 41, 42, 43, 44, 45, 46, 47, 48, 49, 50, 51, 52, 53, 54, 55, 56, 57, 58, 59, 60, 61, 62, 63, 64, 65, 66, 67, 68, 69, 70, 71, 72, 73, 74, 75, 76, 77, 78, 79, 80, 81, 82, 145, 146, 147, 148, 149, 150, 151, 152, 153, 154, 155, 156, 157, 158, 159, 160] (by decide +kernel) (by decide +kernel)
def wp_X6_mergeIfSmall_48 (a0 : Nat) (x1 : Int32) (x2 : Int32)  (f : FT) (K : Int32 → FT → Prop)  : Prop :=
  gA f a0 9 0 fun a_1 => isO f a_1 10 ∧ wp_X7_hasRightSibling a_1 x1 x2 f (fun r_3 => ((r_3 = (0 : Int32) → K (0 : Int32) f) ∧
 (¬ (r_3 = (0 : Int32)) → isO f a0 9 ∧ wp_X6_mergeWithNext a0 x1 x2 f (fun r_5 f_6 => ((r_5 = (0 : Int32) → K (0 : Int32) f_6) ∧
 (¬ (r_5 = (0 : Int32)) → K (1 : Int32) f_6))))))
def wp_X6_mergeIfSmall (a0 : Nat) (x1 : Int32) (x2 : Int32) (f : FT) (K : Int32 → FT → Prop) : Prop :=
  gA f a0 9 0 fun a_8 => isO f a_8 10 ∧ wp_X7_pageBytes a_8 x1 x2 f (fun r_10 => gA f a0 9 0 fun a_11 => gI f a_11 10 7 fun v_13 => (¬ (2 : Int32) = 0) ∧ ((r_10 < (v_13 / (2 : Int32)) → gA f a0 9 0 fun a_16 => isO f a_16 10 ∧ wp_X7_hasLeftSibling a_16 x1 x2 f (fun r_18 => ((r_18 = (0 : Int32) → wp_X6_mergeIfSmall_48 a0 x1 x2 f K) ∧
 (¬ (r_18 = (0 : Int32)) → isO f a0 9 ∧ wp_X6_mergeWithNext a0 x1 (x2 - (1 : Int32)) f (fun r_20 f_21 => ((r_20 = (0 : Int32) → wp_X6_mergeIfSmall_48 a0 x1 x2 f_21 K) ∧
 (¬ (r_20 = (0 : Int32)) → K (1 : Int32) f_21))))))) ∧
 (¬ (r_10 < (v_13 / (2 : Int32))) → K (0 : Int32) f)))
set_option maxHeartbeats 4000000 in
set_option maxRecDepth 100000 in
theorem cc_X6_mergeIfSmall (l : Launch) (G : GG) {f : FT} {sz : Nat} {a0 : Nat} {x1 : Int32} {x2 : Int32} {K : Int32 → FT → Prop} (h : wp_X6_mergeIfSmall a0 x1 x2 f K) : Met l yX6_mergeIfSmall wsX6_mergeIfSmall ({ frames := 7, cells := 0, slots := 0, locals := 163 } : Room) (FP G [.ref a0, .int x1, .int x2] f sz) (va_Qi (fun r f9 => K r f9 : Int32 → FT → Prop) (FB G (fA f sz)) (fA f sz)) 0 0 (fA f sz) := by
  refine Met.ofW (cc := cX6_mergeIfSmall) (maxL := 3) (ret := (some .boolean)) (by decide) rfl ?_
  intro p e s m args below meth c s₁ B hml hv
  obtain ⟨rfl, hsz, hF, hK, hZ⟩ := hv
  have hx := B.exec
  have hb := B.bytes
  have hr := B.returns
  have hts := atoms_spec (ws := wsX6_mergeIfSmall) B.pre
  have hown : s.vm.findClass RX6 = some m.cls := findClass_of_methodNamed B.named
  have hlocks := B.notSynchronized
  subst hsz
  have hF := hF.self (sz := s.heap.size)
  generalize hAe : fA f s.heap.size = A at hF hZ ⊢
  have hA : ∀ q : Nat, s.heap.size ≤ q → A q := fun q h => by rw [← hAe]; exact Or.inr h
  have hS : va_S A s.heap s.heap [] := va_S.rf
  have hin_X6 : ∀ w ∈ wsX60, w ∈ wsX6_mergeIfSmall := by decide +kernel
  have hin_X7 : ∀ w ∈ wsX70, w ∈ wsX6_mergeIfSmall := by decide +kernel
  have J48 : ∀ (f : FT) (H : Heap) (locs : List Loc) (ls : Array Slot), wp_X6_mergeIfSmall_48 a0 x1 x2 f K  → Fw G A f H → va_S A s.heap H locs → lv_has ls 3 [(0, .ref a0), (1, .int x1), (2, .int x2)] → W p l e ({ frames := 7, cells := 0, slots := 0, locals := 163 } : Room) s m ([.ref a0, .int x1, .int x2] : List Value).toArray below meth c H locs 0 0 (MQ below (va_Qi (fun r f9 => K r f9 : Int32 → FT → Prop) (FB G A) A) ([.ref a0, .int x1, .int x2] : List Value).toArray s 0 0 A) (F0 m 48 ls []) := by
    intro f H locs ls h hF hS hl
    unfold wp_X6_mergeIfSmall_48 at h
    refine lv_aload_n hx hb dX6_mergeIfSmall_48 rfl (lv_at hl 0 rfl) ?_
    obtain ⟨fs_2, a_1, he_fs_2, hv_fs_2, h⟩ := h
    refine fw_get (C := RX6) (T := TX6) (N := 3) hx hb hts hin_X6 hown hK hF he_fs_2 rfl 0 (by decide) (hts (.fieldLink RX6 13 "FrontCodedIndex$Remover" "tree" "LFrontCodedIndex$Tree;") (by decide +kernel)) (fun _ h9 => h9) hv_fs_2 dX6_mergeIfSmall_49 ?_
    refine lv_iload_n hx hb dX6_mergeIfSmall_52 rfl (lv_at hl 1 rfl) ?_
    refine lv_iload_n hx hb dX6_mergeIfSmall_53 rfl (lv_at hl 2 rfl) ?_
    obtain ⟨⟨fs_r_3, hrc_r_3⟩, h⟩ := h
    refine fw_cV_i_p (As := [.int x1, .int x2]) (rest := []) ⟨hx, hb, hml, hown, hts⟩ (cc_X7_hasRightSibling l G h) (⟨callB_of 2 hts ggX6_mergeIfSmall_X7_hasRightSibling rfl rfl rfl (hts (.initialized RX7) (by decide +kernel)) (hts (.methodLink RX6 86 yX7_hasRightSibling) (by decide +kernel)) (by decide +kernel) ⟨Nat.le_of_ble_eq_true rfl, Nat.le_of_ble_eq_true rfl⟩, hts (.instanceMethod yX7_hasRightSibling) (by decide +kernel), hts (.selects RX7 yX7_hasRightSibling yX7_hasRightSibling) (by decide +kernel)⟩) rfl hrc_r_3 hK hZ hF hS hA rfl hl.1 rfl (Nat.le_of_ble_eq_true rfl) dX6_mergeIfSmall_54 ⟨Nat.zero_le _, Nat.zero_le _⟩ (fun r_3 H locs h hF hS => ?_)
    obtain ⟨h1, h2⟩ := h
    refine lv_if_eq (tgt := 73) hx hb dX6_mergeIfSmall_57 (by decide) (fun c_4 => ?_) (fun c_4 => ?_)
    · have h := h1 c_4
      refine lv_iconst (v := (0 : Int32)) hx hb dX6_mergeIfSmall_73 (by decide) ?_
      exact W.zret (v := (0 : Int32)) hx hb hr (by decide) (fun t ht hW => ⟨⟨(0 : Int32), f, rfl, h, by rw [ht]; exact hF, FK.moved hW.alike hK⟩, hS.F ht⟩) hS.2.2 dX6_mergeIfSmall_74
    · have h := h2 c_4
      refine lv_aload_n hx hb dX6_mergeIfSmall_60 rfl (lv_at hl 0 rfl) ?_
      refine lv_iload_n hx hb dX6_mergeIfSmall_61 rfl (lv_at hl 1 rfl) ?_
      refine lv_iload_n hx hb dX6_mergeIfSmall_62 rfl (lv_at hl 2 rfl) ?_
      obtain ⟨⟨fs_r_5, hrc_r_5⟩, h⟩ := h
      refine fw_cV_i (As := [.int x1, .int x2]) (rest := []) ⟨hx, hb, hml, hown, hts⟩ (cc_X6_mergeWithNext l G h) (⟨callB_of 2 hts ggX6_mergeIfSmall_X6_mergeWithNext rfl rfl rfl (hts (.initialized RX6) (by decide +kernel)) (hts (.methodLink RX6 83 yX6_mergeWithNext) (by decide +kernel)) (by decide +kernel) ⟨Nat.le_of_ble_eq_true rfl, Nat.le_of_ble_eq_true rfl⟩, hts (.instanceMethod yX6_mergeWithNext) (by decide +kernel), hts (.selects RX6 yX6_mergeWithNext yX6_mergeWithNext) (by decide +kernel)⟩) rfl hrc_r_5 hK hZ hF hS hA rfl hl.1 rfl (Nat.le_of_ble_eq_true rfl) dX6_mergeIfSmall_63 ⟨Nat.zero_le _, Nat.zero_le _⟩ (fun r_5 f_6 H locs h hF hS => ?_)
      obtain ⟨h1, h2⟩ := h
      refine lv_if_eq (tgt := 73) hx hb dX6_mergeIfSmall_66 (by decide) (fun c_7 => ?_) (fun c_7 => ?_)
      · have h := h1 c_7
        refine lv_iconst (v := (0 : Int32)) hx hb dX6_mergeIfSmall_73 (by decide) ?_
        exact W.zret (v := (0 : Int32)) hx hb hr (by decide) (fun t ht hW => ⟨⟨(0 : Int32), f_6, rfl, h, by rw [ht]; exact hF, FK.moved hW.alike hK⟩, hS.F ht⟩) hS.2.2 dX6_mergeIfSmall_74
      · have h := h2 c_7
        refine lv_iconst (v := (1 : Int32)) hx hb dX6_mergeIfSmall_69 (by decide) ?_
        refine lv_goto (tgt := 74) hx hb dX6_mergeIfSmall_70 (by decide) ?_
        exact W.zret (v := (1 : Int32)) hx hb hr (by decide) (fun t ht hW => ⟨⟨(1 : Int32), f_6, rfl, h, by rw [ht]; exact hF, FK.moved hW.alike hK⟩, hS.F ht⟩) hS.2.2 dX6_mergeIfSmall_74
  have hl := lv_entry ([.ref a0, .int x1, .int x2]) (n := 3) (Nat.le_of_ble_eq_true rfl)
  rw [lg_entry_eq]
  generalize (lg_sl ([.ref a0, .int x1, .int x2]) ++ List.replicate (3 - (lg_sl ([.ref a0, .int x1, .int x2])).length) Slot.unset).toArray = ls at hl ⊢
  have hl : lv_has ls 3 [(0, .ref a0), (1, .int x1), (2, .int x2)] := hl
  unfold wp_X6_mergeIfSmall at h
  refine lv_aload_n hx hb dX6_mergeIfSmall_0 rfl (lv_at hl 0 rfl) ?_
  obtain ⟨fs_9, a_8, he_fs_9, hv_fs_9, h⟩ := h
  refine fw_get (C := RX6) (T := TX6) (N := 3) hx hb hts hin_X6 hown hK hF he_fs_9 rfl 0 (by decide) (hts (.fieldLink RX6 13 "FrontCodedIndex$Remover" "tree" "LFrontCodedIndex$Tree;") (by decide +kernel)) (fun _ h9 => h9) hv_fs_9 dX6_mergeIfSmall_1 ?_
  refine lv_iload_n hx hb dX6_mergeIfSmall_4 rfl (lv_at hl 1 rfl) ?_
  refine lv_iload_n hx hb dX6_mergeIfSmall_5 rfl (lv_at hl 2 rfl) ?_
  obtain ⟨⟨fs_r_10, hrc_r_10⟩, h⟩ := h
  refine fw_cV_i_p (As := [.int x1, .int x2]) (rest := []) ⟨hx, hb, hml, hown, hts⟩ (cc_X7_pageBytes l G h) (⟨callB_of 2 hts ggX6_mergeIfSmall_X7_pageBytes rfl rfl rfl (hts (.initialized RX7) (by decide +kernel)) (hts (.methodLink RX6 74 yX7_pageBytes) (by decide +kernel)) (by decide +kernel) ⟨Nat.le_of_ble_eq_true rfl, Nat.le_of_ble_eq_true rfl⟩, hts (.instanceMethod yX7_pageBytes) (by decide +kernel), hts (.selects RX7 yX7_pageBytes yX7_pageBytes) (by decide +kernel)⟩) rfl hrc_r_10 hK hZ hF hS hA rfl hl.1 rfl (Nat.le_of_ble_eq_true rfl) dX6_mergeIfSmall_6 ⟨Nat.zero_le _, Nat.zero_le _⟩ (fun r_10 H locs h hF hS => ?_)
  refine lv_aload_n hx hb dX6_mergeIfSmall_9 rfl (lv_at hl 0 rfl) ?_
  obtain ⟨fs_12, a_11, he_fs_12, hv_fs_12, h⟩ := h
  refine fw_get (C := RX6) (T := TX6) (N := 3) hx hb hts hin_X6 hown hK hF he_fs_12 rfl 0 (by decide) (hts (.fieldLink RX6 13 "FrontCodedIndex$Remover" "tree" "LFrontCodedIndex$Tree;") (by decide +kernel)) (fun _ h9 => h9) hv_fs_12 dX6_mergeIfSmall_10 ?_
  obtain ⟨fs_14, v_13, he_fs_14, hv_fs_14, h⟩ := h
  refine fw_getN (C := RX7) (T := TX7) (N := 8) hx hb hts hin_X7 hown hK hF he_fs_14 rfl 7 (by decide) (va_Nw.use rfl (hZ.2.1 (.fieldLinkNest RX6 77 "FrontCodedIndex$Tree" "capacity" "I" "FrontCodedIndex") (by decide +kernel))) (fun _ h9 => h9) hv_fs_14 dX6_mergeIfSmall_13 ?_
  refine lv_iconst (v := (2 : Int32)) hx hb dX6_mergeIfSmall_16 (by decide) ?_
  obtain ⟨hne, h⟩ := h
  refine lv_idiv hx hb dX6_mergeIfSmall_17 hne ?_
  obtain ⟨h1, h2⟩ := h
  refine lv_icmp_lt (tgt := 23) hx hb dX6_mergeIfSmall_18 (by decide) (fun c_15 => ?_) (fun c_15 => ?_)
  · have h := h1 c_15
    refine lv_aload_n hx hb dX6_mergeIfSmall_23 rfl (lv_at hl 0 rfl) ?_
    obtain ⟨fs_17, a_16, he_fs_17, hv_fs_17, h⟩ := h
    refine fw_get (C := RX6) (T := TX6) (N := 3) hx hb hts hin_X6 hown hK hF he_fs_17 rfl 0 (by decide) (hts (.fieldLink RX6 13 "FrontCodedIndex$Remover" "tree" "LFrontCodedIndex$Tree;") (by decide +kernel)) (fun _ h9 => h9) hv_fs_17 dX6_mergeIfSmall_24 ?_
    refine lv_iload_n hx hb dX6_mergeIfSmall_27 rfl (lv_at hl 1 rfl) ?_
    refine lv_iload_n hx hb dX6_mergeIfSmall_28 rfl (lv_at hl 2 rfl) ?_
    obtain ⟨⟨fs_r_18, hrc_r_18⟩, h⟩ := h
    refine fw_cV_i_p (As := [.int x1, .int x2]) (rest := []) ⟨hx, hb, hml, hown, hts⟩ (cc_X7_hasLeftSibling l G h) (⟨callB_of 2 hts ggX6_mergeIfSmall_X7_hasLeftSibling rfl rfl rfl (hts (.initialized RX7) (by decide +kernel)) (hts (.methodLink RX6 80 yX7_hasLeftSibling) (by decide +kernel)) (by decide +kernel) ⟨Nat.le_of_ble_eq_true rfl, Nat.le_of_ble_eq_true rfl⟩, hts (.instanceMethod yX7_hasLeftSibling) (by decide +kernel), hts (.selects RX7 yX7_hasLeftSibling yX7_hasLeftSibling) (by decide +kernel)⟩) rfl hrc_r_18 hK hZ hF hS hA rfl hl.1 rfl (Nat.le_of_ble_eq_true rfl) dX6_mergeIfSmall_29 ⟨Nat.zero_le _, Nat.zero_le _⟩ (fun r_18 H locs h hF hS => ?_)
    obtain ⟨h1, h2⟩ := h
    refine lv_if_eq (tgt := 48) hx hb dX6_mergeIfSmall_32 (by decide) (fun c_19 => ?_) (fun c_19 => ?_)
    · have h := h1 c_19
      exact J48 f _ _ _ h hF hS (lv_sub hl [0, 1, 2] rfl)
    · have h := h2 c_19
      refine lv_aload_n hx hb dX6_mergeIfSmall_35 rfl (lv_at hl 0 rfl) ?_
      refine lv_iload_n hx hb dX6_mergeIfSmall_36 rfl (lv_at hl 1 rfl) ?_
      refine lv_iload_n hx hb dX6_mergeIfSmall_37 rfl (lv_at hl 2 rfl) ?_
      refine lv_iconst (v := (1 : Int32)) hx hb dX6_mergeIfSmall_38 (by decide) ?_
      refine lv_isub hx hb dX6_mergeIfSmall_39 ?_
      obtain ⟨⟨fs_r_20, hrc_r_20⟩, h⟩ := h
      refine fw_cV_i (As := [.int x1, .int (x2 - (1 : Int32))]) (rest := []) ⟨hx, hb, hml, hown, hts⟩ (cc_X6_mergeWithNext l G h) (⟨callB_of 2 hts ggX6_mergeIfSmall_X6_mergeWithNext rfl rfl rfl (hts (.initialized RX6) (by decide +kernel)) (hts (.methodLink RX6 83 yX6_mergeWithNext) (by decide +kernel)) (by decide +kernel) ⟨Nat.le_of_ble_eq_true rfl, Nat.le_of_ble_eq_true rfl⟩, hts (.instanceMethod yX6_mergeWithNext) (by decide +kernel), hts (.selects RX6 yX6_mergeWithNext yX6_mergeWithNext) (by decide +kernel)⟩) rfl hrc_r_20 hK hZ hF hS hA rfl hl.1 rfl (Nat.le_of_ble_eq_true rfl) dX6_mergeIfSmall_40 ⟨Nat.zero_le _, Nat.zero_le _⟩ (fun r_20 f_21 H locs h hF hS => ?_)
      obtain ⟨h1, h2⟩ := h
      refine lv_if_eq (tgt := 48) hx hb dX6_mergeIfSmall_43 (by decide) (fun c_22 => ?_) (fun c_22 => ?_)
      · have h := h1 c_22
        exact J48 f_21 _ _ _ h hF hS (lv_sub hl [0, 1, 2] rfl)
      · have h := h2 c_22
        refine lv_iconst (v := (1 : Int32)) hx hb dX6_mergeIfSmall_46 (by decide) ?_
        exact W.zret (v := (1 : Int32)) hx hb hr (by decide) (fun t ht hW => ⟨⟨(1 : Int32), f_21, rfl, h, by rw [ht]; exact hF, FK.moved hW.alike hK⟩, hS.F ht⟩) hS.2.2 dX6_mergeIfSmall_47
  · have h := h2 c_15
    refine lv_iconst (v := (0 : Int32)) hx hb dX6_mergeIfSmall_21 (by decide) ?_
    exact W.zret (v := (0 : Int32)) hx hb hr (by decide) (fun t ht hW => ⟨⟨(0 : Int32), f, rfl, h, by rw [ht]; exact hF, FK.moved hW.alike hK⟩, hS.F ht⟩) hS.2.2 dX6_mergeIfSmall_22
theorem dX6_removeEntry_0 : decode cX6_removeEntry 0 = .ok (.aload_n 0, 1) := by decide +kernel
theorem dX6_removeEntry_1 : decode cX6_removeEntry 1 = .ok (.getfield 13, 3) := by decide +kernel
theorem dX6_removeEntry_4 : decode cX6_removeEntry 4 = .ok (.getfield 21, 3) := by decide +kernel
theorem dX6_removeEntry_7 : decode cX6_removeEntry 7 = .ok (.iload_n 1, 1) := by decide +kernel
theorem dX6_removeEntry_8 : decode cX6_removeEntry 8 = .ok (.invokevirtual 27, 3) := by decide +kernel
theorem dX6_removeEntry_11 : decode cX6_removeEntry 11 = .ok (.istore_n 2, 1) := by decide +kernel
theorem dX6_removeEntry_12 : decode cX6_removeEntry 12 = .ok (.aload_n 0, 1) := by decide +kernel
theorem dX6_removeEntry_13 : decode cX6_removeEntry 13 = .ok (.getfield 13, 3) := by decide +kernel
theorem dX6_removeEntry_16 : decode cX6_removeEntry 16 = .ok (.iconst 0, 1) := by decide +kernel
theorem dX6_removeEntry_17 : decode cX6_removeEntry 17 = .ok (.invokevirtual 33, 3) := by decide +kernel
theorem dX6_removeEntry_20 : decode cX6_removeEntry 20 = .ok (.iload_n 1, 1) := by decide +kernel
theorem dX6_removeEntry_21 : decode cX6_removeEntry 21 = .ok (.invokevirtual 37, 3) := by decide +kernel
theorem dX6_removeEntry_24 : decode cX6_removeEntry 24 = .ok (.istore_n 3, 1) := by decide +kernel
theorem dX6_removeEntry_25 : decode cX6_removeEntry 25 = .ok (.aload_n 0, 1) := by decide +kernel
theorem dX6_removeEntry_26 : decode cX6_removeEntry 26 = .ok (.getfield 13, 3) := by decide +kernel
theorem dX6_removeEntry_29 : decode cX6_removeEntry 29 = .ok (.getfield 40, 3) := by decide +kernel
theorem dX6_removeEntry_32 : decode cX6_removeEntry 32 = .ok (.iload_n 1, 1) := by decide +kernel
theorem dX6_removeEntry_33 : decode cX6_removeEntry 33 = .ok (.invokevirtual 44, 3) := by decide +kernel
theorem dX6_removeEntry_36 : decode cX6_removeEntry 36 = .ok (.aload_n 0, 1) := by decide +kernel
theorem dX6_removeEntry_37 : decode cX6_removeEntry 37 = .ok (.getfield 13, 3) := by decide +kernel
theorem dX6_removeEntry_40 : decode cX6_removeEntry 40 = .ok (.getfield 21, 3) := by decide +kernel
theorem dX6_removeEntry_43 : decode cX6_removeEntry 43 = .ok (.iload_n 1, 1) := by decide +kernel
theorem dX6_removeEntry_44 : decode cX6_removeEntry 44 = .ok (.invokevirtual 50, 3) := by decide +kernel
theorem dX6_removeEntry_47 : decode cX6_removeEntry 47 = .ok (.aload_n 0, 1) := by decide +kernel
theorem dX6_removeEntry_48 : decode cX6_removeEntry 48 = .ok (.getfield 13, 3) := by decide +kernel
theorem dX6_removeEntry_51 : decode cX6_removeEntry 51 = .ok (.iconst 0, 1) := by decide +kernel
theorem dX6_removeEntry_52 : decode cX6_removeEntry 52 = .ok (.invokevirtual 33, 3) := by decide +kernel
theorem dX6_removeEntry_55 : decode cX6_removeEntry 55 = .ok (.iload_n 3, 1) := by decide +kernel
theorem dX6_removeEntry_56 : decode cX6_removeEntry 56 = .ok (.iconst (-1), 1) := by decide +kernel
theorem dX6_removeEntry_57 : decode cX6_removeEntry 57 = .ok (.invokevirtual 51, 3) := by decide +kernel
theorem dX6_removeEntry_60 : decode cX6_removeEntry 60 = .ok (.aload_n 0, 1) := by decide +kernel
theorem dX6_removeEntry_61 : decode cX6_removeEntry 61 = .ok (.getfield 17, 3) := by decide +kernel
theorem dX6_removeEntry_64 : decode cX6_removeEntry 64 = .ok (.iload_n 1, 1) := by decide +kernel
theorem dX6_removeEntry_65 : decode cX6_removeEntry 65 = .ok (.invokevirtual 55, 3) := by decide +kernel
theorem dX6_removeEntry_68 : decode cX6_removeEntry 68 = .ok (.iconst 0, 1) := by decide +kernel
theorem dX6_removeEntry_69 : decode cX6_removeEntry 69 = .ok (.istore 4, 2) := by decide +kernel
theorem dX6_removeEntry_71 : decode cX6_removeEntry 71 = .ok (.iload 4, 2) := by decide +kernel
theorem dX6_removeEntry_73 : decode cX6_removeEntry 73 = .ok (.aload_n 0, 1) := by decide +kernel
theorem dX6_removeEntry_74 : decode cX6_removeEntry 74 = .ok (.getfield 13, 3) := by decide +kernel
theorem dX6_removeEntry_77 : decode cX6_removeEntry 77 = .ok (.getfield 60, 3) := by decide +kernel
theorem dX6_removeEntry_80 : decode cX6_removeEntry 80 = .ok (.iconst 1, 1) := by decide +kernel
theorem dX6_removeEntry_81 : decode cX6_removeEntry 81 = .ok (.isub, 1) := by decide +kernel
theorem dX6_removeEntry_82 : decode cX6_removeEntry 82 = .ok (.if_icmp .ge 37, 3) := by decide +kernel
theorem dX6_removeEntry_85 : decode cX6_removeEntry 85 = .ok (.aload_n 0, 1) := by decide +kernel
theorem dX6_removeEntry_86 : decode cX6_removeEntry 86 = .ok (.getfield 13, 3) := by decide +kernel
theorem dX6_removeEntry_89 : decode cX6_removeEntry 89 = .ok (.iload 4, 2) := by decide +kernel
theorem dX6_removeEntry_91 : decode cX6_removeEntry 91 = .ok (.iload_n 3, 1) := by decide +kernel
theorem dX6_removeEntry_92 : decode cX6_removeEntry 92 = .ok (.invokevirtual 63, 3) := by decide +kernel
theorem dX6_removeEntry_95 : decode cX6_removeEntry 95 = .ok (.istore 5, 2) := by decide +kernel
theorem dX6_removeEntry_97 : decode cX6_removeEntry 97 = .ok (.aload_n 0, 1) := by decide +kernel
theorem dX6_removeEntry_98 : decode cX6_removeEntry 98 = .ok (.iload 4, 2) := by decide +kernel
theorem dX6_removeEntry_100 : decode cX6_removeEntry 100 = .ok (.iload_n 3, 1) := by decide +kernel
theorem dX6_removeEntry_101 : decode cX6_removeEntry 101 = .ok (.invokevirtual 67, 3) := by decide +kernel
theorem dX6_removeEntry_104 : decode cX6_removeEntry 104 = .ok (.ifCond .ne 6, 3) := by decide +kernel
theorem dX6_removeEntry_107 : decode cX6_removeEntry 107 = .ok (.goto 12, 3) := by decide +kernel
theorem dX6_removeEntry_110 : decode cX6_removeEntry 110 = .ok (.iload 5, 2) := by decide +kernel
theorem dX6_removeEntry_112 : decode cX6_removeEntry 112 = .ok (.istore_n 3, 1) := by decide +kernel
theorem dX6_removeEntry_113 : decode cX6_removeEntry 113 = .ok (.iinc 4 1, 3) := by decide +kernel
theorem dX6_removeEntry_116 : decode cX6_removeEntry 116 = .ok (.goto (-45), 3) := by decide +kernel
theorem dX6_removeEntry_119 : decode cX6_removeEntry 119 = .ok (.aload_n 0, 1) := by decide +kernel
theorem dX6_removeEntry_120 : decode cX6_removeEntry 120 = .ok (.getfield 13, 3) := by decide +kernel
theorem dX6_removeEntry_123 : decode cX6_removeEntry 123 = .ok (.getfield 60, 3) := by decide +kernel
theorem dX6_removeEntry_126 : decode cX6_removeEntry 126 = .ok (.iconst 1, 1) := by decide +kernel
theorem dX6_removeEntry_127 : decode cX6_removeEntry 127 = .ok (.if_icmp .le 40, 3) := by decide +kernel
theorem dX6_removeEntry_130 : decode cX6_removeEntry 130 = .ok (.aload_n 0, 1) := by decide +kernel
theorem dX6_removeEntry_131 : decode cX6_removeEntry 131 = .ok (.getfield 13, 3) := by decide +kernel
theorem dX6_removeEntry_134 : decode cX6_removeEntry 134 = .ok (.aload_n 0, 1) := by decide +kernel
theorem dX6_removeEntry_135 : decode cX6_removeEntry 135 = .ok (.getfield 13, 3) := by decide +kernel
theorem dX6_removeEntry_138 : decode cX6_removeEntry 138 = .ok (.getfield 60, 3) := by decide +kernel
theorem dX6_removeEntry_141 : decode cX6_removeEntry 141 = .ok (.iconst 1, 1) := by decide +kernel
theorem dX6_removeEntry_142 : decode cX6_removeEntry 142 = .ok (.isub, 1) := by decide +kernel
theorem dX6_removeEntry_143 : decode cX6_removeEntry 143 = .ok (.iconst 0, 1) := by decide +kernel
theorem dX6_removeEntry_144 : decode cX6_removeEntry 144 = .ok (.invokevirtual 71, 3) := by decide +kernel
theorem dX6_removeEntry_147 : decode cX6_removeEntry 147 = .ok (.iconst 1, 1) := by decide +kernel
theorem dX6_removeEntry_148 : decode cX6_removeEntry 148 = .ok (.if_icmp .ne 19, 3) := by decide +kernel
theorem dX6_removeEntry_151 : decode cX6_removeEntry 151 = .ok (.aload_n 0, 1) := by decide +kernel
theorem dX6_removeEntry_152 : decode cX6_removeEntry 152 = .ok (.getfield 13, 3) := by decide +kernel
theorem dX6_removeEntry_155 : decode cX6_removeEntry 155 = .ok (.dup, 1) := by decide +kernel
theorem dX6_removeEntry_156 : decode cX6_removeEntry 156 = .ok (.getfield 60, 3) := by decide +kernel
theorem dX6_removeEntry_159 : decode cX6_removeEntry 159 = .ok (.iconst 1, 1) := by decide +kernel
theorem dX6_removeEntry_160 : decode cX6_removeEntry 160 = .ok (.isub, 1) := by decide +kernel
theorem dX6_removeEntry_161 : decode cX6_removeEntry 161 = .ok (.putfield 60, 3) := by decide +kernel
theorem dX6_removeEntry_164 : decode cX6_removeEntry 164 = .ok (.goto (-45), 3) := by decide +kernel
theorem dX6_removeEntry_167 : decode cX6_removeEntry 167 = .ok (.iload_n 2, 1) := by decide +kernel
theorem dX6_removeEntry_168 : decode cX6_removeEntry 168 = .ok (.ireturn, 1) := by decide +kernel
set_option maxRecDepth 20000 in
theorem ggX6_removeEntry_X0_entryRemoved : GoodIn wsX6_removeEntry wsX0_entryRemoved := goodIn_r _ [83, 84, 173] (by decide +kernel) (by decide +kernel)
set_option maxRecDepth 20000 in
theorem ggX6_removeEntry_X2_addFrom : GoodIn wsX6_removeEntry wsX2_addFrom := goodIn_r _ [74, 75, 76, 77, 78, 8, 9, 166, 167] (by decide +kernel) (by decide +kernel)
set_option maxRecDepth 20000 in
theorem ggX6_removeEntry_X2_at : GoodIn wsX6_removeEntry wsX2_at := goodIn_r _ [7, 8, 9, 166, 167] (by decide +kernel) (by decide +kernel)
set_option maxRecDepth 20000 in
theorem ggX6_removeEntry_X2_countNotAbove : GoodIn wsX6_removeEntry wsX2_countNotAbove := goodIn_r _ [44, 8, 45, 4, 5, 6, 7, 9, 166, 167] (by decide +kernel) (by decide +kernel)
set_option maxRecDepth 20000 in
theorem ggX6_removeEntry_X2_delete : GoodIn wsX6_removeEntry wsX2_delete := goodIn_r _ [70, 8, 9, 166, 167] (by decide +kernel) (by decide +kernel)
set_option maxRecDepth 20000 in
theorem ggX6_removeEntry_X4_delete : GoodIn wsX6_removeEntry wsX4_delete := goodIn_r _ [50, 51, 52, 19, 20, 21, 22, 23, 53, 54, 55, 56, 40, 28, 29, 30, 31, 32, 33, 34, 35, 57, 58, 59, 60, 61, 62, 63, 64, 65, 66, 171, 172, 168, 169, 170] (by decide +kernel) (by decide +kernel)
set_option maxRecDepth 20000 in
theorem ggX6_removeEntry_X6_mergeIfSmall : GoodIn wsX6_removeEntry wsX6_mergeIfSmall := goodIn_r _ [95, 1, 96, 97, 98, 13, 99, 100, 101, 102, 103, 89, 11, 12, 14, 15, 16, 17, 18, 19, 20, 21, 22, 23, 24, 25, 26, 27, 28, 29, 30, 31, 32, 33, 34, 35, 36, 37, 38, 39, 40, 104, 4, 5, 6, 7, 8, 9, 105, 106, 107, 108, 109, 110, 111, 112, 113, 114, 115, 116, 117, 49, 118, 51, 119, 120, 52, 121, 122, 123, 124, 125, 126, 127, 128, 129, 130, 131, 132, 133, 134, 135, 136, 137, 138, 139, 140, 141, 142, 86, 87, 88, 90, 42, 43, 44, 45, 143, 144, 145, 94, 146, 147, 148, 149, 150, 10, 85, 71, 72, 73, 74, 75, 76, 77, 78, 67, 68, 69, 70, 46, 47, 48, 50, 53, 54, 55, 56, 57, 58, 59, 60, 61, 62, 63, 64, 65, 66, 151, 152, 153, 154, 155, 156, 157, 158, 159, 160, 161, 162, 163, 164, 165, 168, 169, 170, 166, 167, 171, 172, 174] (by decide +kernel) (by decide +kernel)
set_option maxRecDepth 20000 in
theorem ggX6_removeEntry_X7_endOf : GoodIn wsX6_removeEntry wsX7_endOf := goodIn_r _ [108, 89, 11, 12, 13, 14, 15, 16, 17, 18, 19, 20, 21, 22, 23, 24, 25, 26, 27, 28, 29, 30, 31, 32, 33, 34, 35, 36, 37, 38, 39, 40, 104, 4, 5, 6, 7, 8, 9, 158, 159, 160, 161, 162, 163, 164, 165, 168, 169, 170, 166, 167] (by decide +kernel) (by decide +kernel)
set_option maxRecDepth 20000 in
theorem ggX6_removeEntry_X7_parentOf : GoodIn wsX6_removeEntry wsX7_parentOf := goodIn_r _ [88, 89, 11, 12, 13, 14, 15, 16, 17, 18, 19, 20, 21, 22, 23, 24, 25, 26, 27, 28, 29, 30, 31, 32, 33, 34, 35, 36, 37, 38, 39, 40, 90, 42, 43, 6, 44, 8, 45, 4, 5, 7, 9, 158, 159, 160, 161, 162, 163, 164, 165, 168, 169, 170, 166, 167] (by decide +kernel) (by decide +kernel)
set_option maxRecDepth 20000 in
theorem ggX6_removeEntry_X7_tier : GoodIn wsX6_removeEntry wsX7_tier := goodIn_r _ [14, 15, 16, 17, 18, 19, 20, 21, 22, 23, 24, 25, 26, 27, 28, 29, 30, 31, 32, 33, 34, 35, 36, 37, 38, 39, 40, 158, 159, 160, 161, 162, 163, 164, 165, 168, 169, 170] (by decide +kernel) (by decide +kernel)
def wp_X6_removeEntry_119 (a0 : Nat) (y2 : Int32) (K : Int32 → FT → Prop)  (C119 : FT → Prop) : FT → Prop := fun s9 => match s9 with
  | f => gA f a0 9 0 fun a_1 => gI f a_1 10 6 fun v_3 => ((v_3 ≤ (1 : Int32) → K y2 f) ∧
 (¬ (v_3 ≤ (1 : Int32)) → gA f a0 9 0 fun a_6 => gA f a0 9 0 fun a_8 => gI f a_8 10 6 fun v_10 => isO f a_6 10 ∧ wp_X7_endOf a_6 (v_10 - (1 : Int32)) (0 : Int32) f (fun r_12 => ((¬ r_12 = (1 : Int32) → K y2 f) ∧
 (r_12 = (1 : Int32) → gA f a0 9 0 fun a_14 => gI f a_14 10 6 fun v_16 => pV f a_14 10 6 (.int (v_16 - (1 : Int32))) fun f_19 => C119 f_19)))))
def wp_X6_removeEntry_71 (a0 : Nat) (y2 : Int32) (K : Int32 → FT → Prop)  (C71 : Int32 × Int32 × FT → Prop) : Int32 × Int32 × FT → Prop := fun s9 => match s9 with
  | (y3, y4, f) => gA f a0 9 0 fun a_20 => gI f a_20 10 6 fun v_22 => (((v_22 - (1 : Int32)) ≤ y4 → ∃ n_25, loopW (wp_X6_removeEntry_119 a0 y2 K) n_25 f) ∧
 (¬ ((v_22 - (1 : Int32)) ≤ y4) → gA f a0 9 0 fun a_26 => isO f a_26 10 ∧ wp_X7_parentOf a_26 y4 y3 f (fun r_28 => isO f a0 9 ∧ wp_X6_mergeIfSmall a0 y4 y3 f (fun r_29 f_30 => ((¬ r_29 = (0 : Int32) → ∀ v_32 : Int32, v_32 = y4 + 1 → C71 (r_28, v_32, f_30)) ∧
 (r_29 = (0 : Int32) → ∃ n_34, loopW (wp_X6_removeEntry_119 a0 y2 K) n_34 f_30))))))
def wp_X6_removeEntry (a0 : Nat) (x1 : Int32) (f : FT) (K : Int32 → FT → Prop) : Prop :=
  gA f a0 9 0 fun a_35 => gA f a_35 10 1 fun a_37 => isO f a_37 5 ∧ wp_X2_at a_37 x1 f (fun r_39 => gA f a0 9 0 fun a_40 => isO f a_40 10 ∧ wp_X7_tier a_40 (0 : Int32) f (fun a_42 => isO f a_42 5 ∧ wp_X2_countNotAbove a_42 x1 f (fun r_43 => gA f a0 9 0 fun a_44 => gA f a_44 10 0 fun a_46 => isO f a_46 7 ∧ wp_X4_delete a_46 x1 f (fun f_49 => gA f_49 a0 9 0 fun a_50 => gA f_49 a_50 10 1 fun a_52 => isO f_49 a_52 5 ∧ wp_X2_delete a_52 x1 f_49 (fun f_55 => gA f_55 a0 9 0 fun a_56 => isO f_55 a_56 10 ∧ wp_X7_tier a_56 (0 : Int32) f_55 (fun a_58 => isO f_55 a_58 5 ∧ wp_X2_addFrom a_58 r_43 (-1 : Int32) f_55 (fun f_60 => gA f_60 a0 9 1 fun a_61 => isO f_60 a_61 3 ∧ wp_X0_entryRemoved a_61 x1 f_60 (fun f_64 => ∃ n_65, loopW (wp_X6_removeEntry_71 a0 r_39 K) n_65 (r_43, (0 : Int32), f_64)))))))))
set_option maxHeartbeats 4000000 in
set_option maxRecDepth 100000 in
theorem cc_X6_removeEntry (l : Launch) (G : GG) {f : FT} {sz : Nat} {a0 : Nat} {x1 : Int32} {K : Int32 → FT → Prop} (h : wp_X6_removeEntry a0 x1 f K) : Met l yX6_removeEntry wsX6_removeEntry ({ frames := 8, cells := 0, slots := 0, locals := 185 } : Room) (FP G [.ref a0, .int x1] f sz) (va_Qi (fun r f9 => K r f9 : Int32 → FT → Prop) (FB G (fA f sz)) (fA f sz)) 0 0 (fA f sz) := by
  refine Met.ofW (cc := cX6_removeEntry) (maxL := 6) (ret := (some .int)) (by decide) rfl ?_
  intro p e s m args below meth c s₁ B hml hv
  obtain ⟨rfl, hsz, hF, hK, hZ⟩ := hv
  have hx := B.exec
  have hb := B.bytes
  have hr := B.returns
  have hts := atoms_spec (ws := wsX6_removeEntry) B.pre
  have hown : s.vm.findClass RX6 = some m.cls := findClass_of_methodNamed B.named
  have hlocks := B.notSynchronized
  subst hsz
  have hF := hF.self (sz := s.heap.size)
  generalize hAe : fA f s.heap.size = A at hF hZ ⊢
  have hA : ∀ q : Nat, s.heap.size ≤ q → A q := fun q h => by rw [← hAe]; exact Or.inr h
  have hS : va_S A s.heap s.heap [] := va_S.rf
  have hin_X6 : ∀ w ∈ wsX60, w ∈ wsX6_removeEntry := by decide +kernel
  have hin_X7 : ∀ w ∈ wsX70, w ∈ wsX6_removeEntry := by decide +kernel
  have L119 : ∀ (y2 : Int32) (j9 : Nat) (f : FT) (H : Heap) (locs : List Loc) (ls : Array Slot), loopW (wp_X6_removeEntry_119 a0 y2 K ) j9 f → Fw G A f H → va_S A s.heap H locs → lv_has ls 6 [(0, .ref a0), (2, .int y2)] → W p l e ({ frames := 8, cells := 0, slots := 0, locals := 185 } : Room) s m ([.ref a0, .int x1] : List Value).toArray below meth c H locs 0 0 (MQ below (va_Qi (fun r f9 => K r f9 : Int32 → FT → Prop) (FB G A) A) ([.ref a0, .int x1] : List Value).toArray s 0 0 A) (F0 m 119 ls []) := by
    intro y2 j9
    induction j9 with
    | zero => intro f H locs ls h; exact h.elim
    | succ j9 ih119 =>
      intro f H locs ls h hF hS hl
      have h : wp_X6_removeEntry_119 a0 y2 K  (loopW (wp_X6_removeEntry_119 a0 y2 K ) j9) f := h
      generalize loopW (wp_X6_removeEntry_119 a0 y2 K ) j9 = C119 at ih119 h
      unfold wp_X6_removeEntry_119 at h
      refine lv_aload_n hx hb dX6_removeEntry_119 rfl (lv_at hl 0 rfl) ?_
      obtain ⟨fs_2, a_1, he_fs_2, hv_fs_2, h⟩ := h
      refine fw_get (C := RX6) (T := TX6) (N := 3) hx hb hts hin_X6 hown hK hF he_fs_2 rfl 0 (by decide) (hts (.fieldLink RX6 13 "FrontCodedIndex$Remover" "tree" "LFrontCodedIndex$Tree;") (by decide +kernel)) (fun _ h9 => h9) hv_fs_2 dX6_removeEntry_120 ?_
      obtain ⟨fs_4, v_3, he_fs_4, hv_fs_4, h⟩ := h
      refine fw_getN (C := RX7) (T := TX7) (N := 8) hx hb hts hin_X7 hown hK hF he_fs_4 rfl 6 (by decide) (va_Nw.use rfl (hZ.2.1 (.fieldLinkNest RX6 60 "FrontCodedIndex$Tree" "tierTotal" "I" "FrontCodedIndex") (by decide +kernel))) (fun _ h9 => h9) hv_fs_4 dX6_removeEntry_123 ?_
      refine lv_iconst (v := (1 : Int32)) hx hb dX6_removeEntry_126 (by decide) ?_
      obtain ⟨h1, h2⟩ := h
      refine lv_icmp_le (tgt := 167) hx hb dX6_removeEntry_127 (by decide) (fun c_5 => ?_) (fun c_5 => ?_)
      · have h := h1 c_5
        refine lv_iload_n hx hb dX6_removeEntry_167 rfl (lv_at hl 1 rfl) ?_
        exact W.iret (v := y2) hx hb hr (fun t ht hW => ⟨⟨y2, f, rfl, h, by rw [ht]; exact hF, FK.moved hW.alike hK⟩, hS.F ht⟩) hS.2.2 dX6_removeEntry_168
      · have h := h2 c_5
        refine lv_aload_n hx hb dX6_removeEntry_130 rfl (lv_at hl 0 rfl) ?_
        obtain ⟨fs_7, a_6, he_fs_7, hv_fs_7, h⟩ := h
        refine fw_get (C := RX6) (T := TX6) (N := 3) hx hb hts hin_X6 hown hK hF he_fs_7 rfl 0 (by decide) (hts (.fieldLink RX6 13 "FrontCodedIndex$Remover" "tree" "LFrontCodedIndex$Tree;") (by decide +kernel)) (fun _ h9 => h9) hv_fs_7 dX6_removeEntry_131 ?_
        refine lv_aload_n hx hb dX6_removeEntry_134 rfl (lv_at hl 0 rfl) ?_
        obtain ⟨fs_9, a_8, he_fs_9, hv_fs_9, h⟩ := h
        refine fw_get (C := RX6) (T := TX6) (N := 3) hx hb hts hin_X6 hown hK hF he_fs_9 rfl 0 (by decide) (hts (.fieldLink RX6 13 "FrontCodedIndex$Remover" "tree" "LFrontCodedIndex$Tree;") (by decide +kernel)) (fun _ h9 => h9) hv_fs_9 dX6_removeEntry_135 ?_
        obtain ⟨fs_11, v_10, he_fs_11, hv_fs_11, h⟩ := h
        refine fw_getN (C := RX7) (T := TX7) (N := 8) hx hb hts hin_X7 hown hK hF he_fs_11 rfl 6 (by decide) (va_Nw.use rfl (hZ.2.1 (.fieldLinkNest RX6 60 "FrontCodedIndex$Tree" "tierTotal" "I" "FrontCodedIndex") (by decide +kernel))) (fun _ h9 => h9) hv_fs_11 dX6_removeEntry_138 ?_
        refine lv_iconst (v := (1 : Int32)) hx hb dX6_removeEntry_141 (by decide) ?_
        refine lv_isub hx hb dX6_removeEntry_142 ?_
        refine lv_iconst (v := (0 : Int32)) hx hb dX6_removeEntry_143 (by decide) ?_
        obtain ⟨⟨fs_r_12, hrc_r_12⟩, h⟩ := h
        refine fw_cV_i_p (As := [.int (v_10 - (1 : Int32)), .int (0 : Int32)]) (rest := []) ⟨hx, hb, hml, hown, hts⟩ (cc_X7_endOf l G h) (⟨callB_of 2 hts ggX6_removeEntry_X7_endOf rfl rfl rfl (hts (.initialized RX7) (by decide +kernel)) (hts (.methodLink RX6 71 yX7_endOf) (by decide +kernel)) (by decide +kernel) ⟨Nat.le_of_ble_eq_true rfl, Nat.le_of_ble_eq_true rfl⟩, hts (.instanceMethod yX7_endOf) (by decide +kernel), hts (.selects RX7 yX7_endOf yX7_endOf) (by decide +kernel)⟩) rfl hrc_r_12 hK hZ hF hS hA rfl hl.1 rfl (Nat.le_of_ble_eq_true rfl) dX6_removeEntry_144 ⟨Nat.zero_le _, Nat.zero_le _⟩ (fun r_12 H locs h hF hS => ?_)
        refine lv_iconst (v := (1 : Int32)) hx hb dX6_removeEntry_147 (by decide) ?_
        obtain ⟨h1, h2⟩ := h
        refine lv_icmp_ne (tgt := 167) hx hb dX6_removeEntry_148 (by decide) (fun c_13 => ?_) (fun c_13 => ?_)
        · have h := h1 c_13
          refine lv_iload_n hx hb dX6_removeEntry_167 rfl (lv_at hl 1 rfl) ?_
          exact W.iret (v := y2) hx hb hr (fun t ht hW => ⟨⟨y2, f, rfl, h, by rw [ht]; exact hF, FK.moved hW.alike hK⟩, hS.F ht⟩) hS.2.2 dX6_removeEntry_168
        · have h := h2 c_13
          refine lv_aload_n hx hb dX6_removeEntry_151 rfl (lv_at hl 0 rfl) ?_
          obtain ⟨fs_15, a_14, he_fs_15, hv_fs_15, h⟩ := h
          refine fw_get (C := RX6) (T := TX6) (N := 3) hx hb hts hin_X6 hown hK hF he_fs_15 rfl 0 (by decide) (hts (.fieldLink RX6 13 "FrontCodedIndex$Remover" "tree" "LFrontCodedIndex$Tree;") (by decide +kernel)) (fun _ h9 => h9) hv_fs_15 dX6_removeEntry_152 ?_
          refine lv_dup hx hb dX6_removeEntry_155 rfl ?_
          obtain ⟨fs_17, v_16, he_fs_17, hv_fs_17, h⟩ := h
          refine fw_getN (C := RX7) (T := TX7) (N := 8) hx hb hts hin_X7 hown hK hF he_fs_17 rfl 6 (by decide) (va_Nw.use rfl (hZ.2.1 (.fieldLinkNest RX6 60 "FrontCodedIndex$Tree" "tierTotal" "I" "FrontCodedIndex") (by decide +kernel))) (fun _ h9 => h9) hv_fs_17 dX6_removeEntry_156 ?_
          refine lv_iconst (v := (1 : Int32)) hx hb dX6_removeEntry_159 (by decide) ?_
          refine lv_isub hx hb dX6_removeEntry_160 ?_
          obtain ⟨fs_18, he_fs_18, hl_fs_18, h⟩ := h
          refine fw_putN (v := .int (v_16 - (1 : Int32))) (ty := .int) (C := RX7) (T := TX7) (N := 8) hx hb hts hin_X7 tyX7 (tyX7_ok) nmX7 hown hK hF hS he_fs_18 rfl 6 (by decide) (va_Nw.use rfl (hZ.2.1 (.fieldLinkNest RX6 60 "FrontCodedIndex$Tree" "tierTotal" "I" "FrontCodedIndex") (by decide +kernel))) (fun _ h9 => h9) rfl (by decide +kernel) rfl rfl hl_fs_18 dX6_removeEntry_161 (fun H locs hF hS => ?_)
          obtain ⟨f_19, hf_f_19⟩ : ∃ z, z = fup f a_14 (.inr (10, fs_18.set 6 (.int (v_16 - (1 : Int32))))) := ⟨_, rfl⟩
          rw [← hf_f_19] at hF; have h := h f_19 hf_f_19
          refine lv_goto (tgt := 119) hx hb dX6_removeEntry_164 (by decide) ?_
          exact ih119 f_19 _ _ _ h hF hS (lv_sub hl [0, 1] rfl)
  have L71 : ∀ (y2 : Int32) (j9 : Nat) (y3 : Int32) (y4 : Int32) (f : FT) (H : Heap) (locs : List Loc) (ls : Array Slot), loopW (wp_X6_removeEntry_71 a0 y2 K ) j9 (y3, y4, f) → Fw G A f H → va_S A s.heap H locs → lv_has ls 6 [(0, .ref a0), (2, .int y2), (3, .int y3), (4, .int y4)] → W p l e ({ frames := 8, cells := 0, slots := 0, locals := 185 } : Room) s m ([.ref a0, .int x1] : List Value).toArray below meth c H locs 0 0 (MQ below (va_Qi (fun r f9 => K r f9 : Int32 → FT → Prop) (FB G A) A) ([.ref a0, .int x1] : List Value).toArray s 0 0 A) (F0 m 71 ls []) := by
    intro y2 j9
    induction j9 with
    | zero => intro y3 y4 f H locs ls h; exact h.elim
    | succ j9 ih71 =>
      intro y3 y4 f H locs ls h hF hS hl
      have h : wp_X6_removeEntry_71 a0 y2 K  (loopW (wp_X6_removeEntry_71 a0 y2 K ) j9) (y3, y4, f) := h
      generalize loopW (wp_X6_removeEntry_71 a0 y2 K ) j9 = C71 at ih71 h
      unfold wp_X6_removeEntry_71 at h
      refine lv_iload hx hb dX6_removeEntry_71 (lv_at hl 3 rfl) ?_
      refine lv_aload_n hx hb dX6_removeEntry_73 rfl (lv_at hl 0 rfl) ?_
      obtain ⟨fs_21, a_20, he_fs_21, hv_fs_21, h⟩ := h
      refine fw_get (C := RX6) (T := TX6) (N := 3) hx hb hts hin_X6 hown hK hF he_fs_21 rfl 0 (by decide) (hts (.fieldLink RX6 13 "FrontCodedIndex$Remover" "tree" "LFrontCodedIndex$Tree;") (by decide +kernel)) (fun _ h9 => h9) hv_fs_21 dX6_removeEntry_74 ?_
      obtain ⟨fs_23, v_22, he_fs_23, hv_fs_23, h⟩ := h
      refine fw_getN (C := RX7) (T := TX7) (N := 8) hx hb hts hin_X7 hown hK hF he_fs_23 rfl 6 (by decide) (va_Nw.use rfl (hZ.2.1 (.fieldLinkNest RX6 60 "FrontCodedIndex$Tree" "tierTotal" "I" "FrontCodedIndex") (by decide +kernel))) (fun _ h9 => h9) hv_fs_23 dX6_removeEntry_77 ?_
      refine lv_iconst (v := (1 : Int32)) hx hb dX6_removeEntry_80 (by decide) ?_
      refine lv_isub hx hb dX6_removeEntry_81 ?_
      obtain ⟨h1, h2⟩ := h
      refine lv_icmp_ge (tgt := 119) hx hb dX6_removeEntry_82 (by decide) (fun c_24 => ?_) (fun c_24 => ?_)
      · have h := h1 c_24
        obtain ⟨n_25, h⟩ := h
        exact L119 y2 n_25 f _ _ _ h hF hS (lv_sub hl [0, 1] rfl)
      · have h := h2 c_24
        refine lv_aload_n hx hb dX6_removeEntry_85 rfl (lv_at hl 0 rfl) ?_
        obtain ⟨fs_27, a_26, he_fs_27, hv_fs_27, h⟩ := h
        refine fw_get (C := RX6) (T := TX6) (N := 3) hx hb hts hin_X6 hown hK hF he_fs_27 rfl 0 (by decide) (hts (.fieldLink RX6 13 "FrontCodedIndex$Remover" "tree" "LFrontCodedIndex$Tree;") (by decide +kernel)) (fun _ h9 => h9) hv_fs_27 dX6_removeEntry_86 ?_
        refine lv_iload hx hb dX6_removeEntry_89 (lv_at hl 3 rfl) ?_
        refine lv_iload_n hx hb dX6_removeEntry_91 rfl (lv_at hl 2 rfl) ?_
        obtain ⟨⟨fs_r_28, hrc_r_28⟩, h⟩ := h
        refine fw_cV_i_p (As := [.int y4, .int y3]) (rest := []) ⟨hx, hb, hml, hown, hts⟩ (cc_X7_parentOf l G h) (⟨callB_of 2 hts ggX6_removeEntry_X7_parentOf rfl rfl rfl (hts (.initialized RX7) (by decide +kernel)) (hts (.methodLink RX6 63 yX7_parentOf) (by decide +kernel)) (by decide +kernel) ⟨Nat.le_of_ble_eq_true rfl, Nat.le_of_ble_eq_true rfl⟩, hts (.instanceMethod yX7_parentOf) (by decide +kernel), hts (.selects RX7 yX7_parentOf yX7_parentOf) (by decide +kernel)⟩) rfl hrc_r_28 hK hZ hF hS hA rfl hl.1 rfl (Nat.le_of_ble_eq_true rfl) dX6_removeEntry_92 ⟨Nat.zero_le _, Nat.zero_le _⟩ (fun r_28 H locs h hF hS => ?_)
        refine lv_istore (lv' := [(5, .int r_28), (0, .ref a0), (2, .int y2), (3, .int y3), (4, .int y4)]) hx hb dX6_removeEntry_95 hl (by decide) rfl (fun ls hl => ?_)
        refine lv_aload_n hx hb dX6_removeEntry_97 rfl (lv_at hl 1 rfl) ?_
        refine lv_iload hx hb dX6_removeEntry_98 (lv_at hl 4 rfl) ?_
        refine lv_iload_n hx hb dX6_removeEntry_100 rfl (lv_at hl 3 rfl) ?_
        obtain ⟨⟨fs_r_29, hrc_r_29⟩, h⟩ := h
        refine fw_cV_i (As := [.int y4, .int y3]) (rest := []) ⟨hx, hb, hml, hown, hts⟩ (cc_X6_mergeIfSmall l G h) (⟨callB_of 2 hts ggX6_removeEntry_X6_mergeIfSmall rfl rfl rfl (hts (.initialized RX6) (by decide +kernel)) (hts (.methodLink RX6 67 yX6_mergeIfSmall) (by decide +kernel)) (by decide +kernel) ⟨Nat.le_of_ble_eq_true rfl, Nat.le_of_ble_eq_true rfl⟩, hts (.instanceMethod yX6_mergeIfSmall) (by decide +kernel), hts (.selects RX6 yX6_mergeIfSmall yX6_mergeIfSmall) (by decide +kernel)⟩) rfl hrc_r_29 hK hZ hF hS hA rfl hl.1 rfl (Nat.le_of_ble_eq_true rfl) dX6_removeEntry_101 ⟨Nat.zero_le _, Nat.zero_le _⟩ (fun r_29 f_30 H locs h hF hS => ?_)
        obtain ⟨h1, h2⟩ := h
        refine lv_if_ne (tgt := 110) hx hb dX6_removeEntry_104 (by decide) (fun c_31 => ?_) (fun c_31 => ?_)
        · have h := h1 c_31
          refine lv_iload hx hb dX6_removeEntry_110 (lv_at hl 0 rfl) ?_
          refine lv_istore_n (lv' := [(3, .int r_28), (5, .int r_28), (0, .ref a0), (2, .int y2), (4, .int y4)]) hx hb dX6_removeEntry_112 rfl hl (by decide) rfl (fun ls hl => ?_)
          obtain ⟨v_32, e_33⟩ : ∃ y : Int32, y = y4 + 1 := ⟨_, rfl⟩
          have h := h v_32 e_33
          refine lv_iinc (v := v_32) (lv' := [(4, .int v_32), (3, .int r_28), (5, .int r_28), (0, .ref a0), (2, .int y2)]) hx hb dX6_removeEntry_113 hl (k := 4) rfl (by rw [e_33]; rfl) (by decide) rfl (fun ls hl => ?_)
          refine lv_goto (tgt := 71) hx hb dX6_removeEntry_116 (by decide) ?_
          exact ih71 r_28 v_32 f_30 _ _ _ h hF hS (lv_sub hl [3, 4, 1, 0] rfl)
        · have h := h2 c_31
          refine lv_goto (tgt := 119) hx hb dX6_removeEntry_107 (by decide) ?_
          obtain ⟨n_34, h⟩ := h
          exact L119 y2 n_34 f_30 _ _ _ h hF hS (lv_sub hl [1, 2] rfl)
  have hl := lv_entry ([.ref a0, .int x1]) (n := 6) (Nat.le_of_ble_eq_true rfl)
  rw [lg_entry_eq]
  generalize (lg_sl ([.ref a0, .int x1]) ++ List.replicate (6 - (lg_sl ([.ref a0, .int x1])).length) Slot.unset).toArray = ls at hl ⊢
  have hl : lv_has ls 6 [(0, .ref a0), (1, .int x1)] := hl
  unfold wp_X6_removeEntry at h
  refine lv_aload_n hx hb dX6_removeEntry_0 rfl (lv_at hl 0 rfl) ?_
  obtain ⟨fs_36, a_35, he_fs_36, hv_fs_36, h⟩ := h
  refine fw_get (C := RX6) (T := TX6) (N := 3) hx hb hts hin_X6 hown hK hF he_fs_36 rfl 0 (by decide) (hts (.fieldLink RX6 13 "FrontCodedIndex$Remover" "tree" "LFrontCodedIndex$Tree;") (by decide +kernel)) (fun _ h9 => h9) hv_fs_36 dX6_removeEntry_1 ?_
  obtain ⟨fs_38, a_37, he_fs_38, hv_fs_38, h⟩ := h
  refine fw_getN (C := RX7) (T := TX7) (N := 8) hx hb hts hin_X7 hown hK hF he_fs_38 rfl 1 (by decide) (va_Nw.use rfl (hZ.2.1 (.fieldLinkNest RX6 21 "FrontCodedIndex$Tree" "values" "LFrontCodedIndex$IntRow;" "FrontCodedIndex") (by decide +kernel))) (fun _ h9 => h9) hv_fs_38 dX6_removeEntry_4 ?_
  refine lv_iload_n hx hb dX6_removeEntry_7 rfl (lv_at hl 1 rfl) ?_
  obtain ⟨⟨fs_r_39, hrc_r_39⟩, h⟩ := h
  refine fw_cV_i_p (As := [.int x1]) (rest := []) ⟨hx, hb, hml, hown, hts⟩ (cc_X2_at l G h) (⟨callB_of 1 hts ggX6_removeEntry_X2_at rfl rfl rfl (hts (.initialized RX2) (by decide +kernel)) (hts (.methodLink RX6 27 yX2_at) (by decide +kernel)) (by decide +kernel) ⟨Nat.le_of_ble_eq_true rfl, Nat.le_of_ble_eq_true rfl⟩, hts (.instanceMethod yX2_at) (by decide +kernel), hts (.selects RX2 yX2_at yX2_at) (by decide +kernel)⟩) rfl hrc_r_39 hK hZ hF hS hA rfl hl.1 rfl (Nat.le_of_ble_eq_true rfl) dX6_removeEntry_8 ⟨Nat.zero_le _, Nat.zero_le _⟩ (fun r_39 H locs h hF hS => ?_)
  refine lv_istore_n (lv' := [(2, .int r_39), (0, .ref a0), (1, .int x1)]) hx hb dX6_removeEntry_11 rfl hl (by decide) rfl (fun ls hl => ?_)
  refine lv_aload_n hx hb dX6_removeEntry_12 rfl (lv_at hl 1 rfl) ?_
  obtain ⟨fs_41, a_40, he_fs_41, hv_fs_41, h⟩ := h
  refine fw_get (C := RX6) (T := TX6) (N := 3) hx hb hts hin_X6 hown hK hF he_fs_41 rfl 0 (by decide) (hts (.fieldLink RX6 13 "FrontCodedIndex$Remover" "tree" "LFrontCodedIndex$Tree;") (by decide +kernel)) (fun _ h9 => h9) hv_fs_41 dX6_removeEntry_13 ?_
  refine lv_iconst (v := (0 : Int32)) hx hb dX6_removeEntry_16 (by decide) ?_
  obtain ⟨⟨fs_a_42, hrc_a_42⟩, h⟩ := h
  refine fw_cV_q_p (As := [.int (0 : Int32)]) (rest := []) ⟨hx, hb, hml, hown, hts⟩ (cc_X7_tier l G h) (⟨callB_of 1 hts ggX6_removeEntry_X7_tier rfl rfl rfl (hts (.initialized RX7) (by decide +kernel)) (hts (.methodLink RX6 33 yX7_tier) (by decide +kernel)) (by decide +kernel) ⟨Nat.le_of_ble_eq_true rfl, Nat.le_of_ble_eq_true rfl⟩, hts (.instanceMethod yX7_tier) (by decide +kernel), hts (.selects RX7 yX7_tier yX7_tier) (by decide +kernel)⟩) rfl hrc_a_42 hK hZ hF hS hA rfl hl.1 rfl (Nat.le_of_ble_eq_true rfl) dX6_removeEntry_17 ⟨Nat.zero_le _, Nat.zero_le _⟩ (fun a_42 H locs h hF hS => ?_)
  refine lv_iload_n hx hb dX6_removeEntry_20 rfl (lv_at hl 2 rfl) ?_
  obtain ⟨⟨fs_r_43, hrc_r_43⟩, h⟩ := h
  refine fw_cV_i_p (As := [.int x1]) (rest := []) ⟨hx, hb, hml, hown, hts⟩ (cc_X2_countNotAbove l G h) (⟨callB_of 1 hts ggX6_removeEntry_X2_countNotAbove rfl rfl rfl (hts (.initialized RX2) (by decide +kernel)) (hts (.methodLink RX6 37 yX2_countNotAbove) (by decide +kernel)) (by decide +kernel) ⟨Nat.le_of_ble_eq_true rfl, Nat.le_of_ble_eq_true rfl⟩, hts (.instanceMethod yX2_countNotAbove) (by decide +kernel), hts (.selects RX2 yX2_countNotAbove yX2_countNotAbove) (by decide +kernel)⟩) rfl hrc_r_43 hK hZ hF hS hA rfl hl.1 rfl (Nat.le_of_ble_eq_true rfl) dX6_removeEntry_21 ⟨Nat.zero_le _, Nat.zero_le _⟩ (fun r_43 H locs h hF hS => ?_)
  refine lv_istore_n (lv' := [(3, .int r_43), (2, .int r_39), (0, .ref a0), (1, .int x1)]) hx hb dX6_removeEntry_24 rfl hl (by decide) rfl (fun ls hl => ?_)
  refine lv_aload_n hx hb dX6_removeEntry_25 rfl (lv_at hl 2 rfl) ?_
  obtain ⟨fs_45, a_44, he_fs_45, hv_fs_45, h⟩ := h
  refine fw_get (C := RX6) (T := TX6) (N := 3) hx hb hts hin_X6 hown hK hF he_fs_45 rfl 0 (by decide) (hts (.fieldLink RX6 13 "FrontCodedIndex$Remover" "tree" "LFrontCodedIndex$Tree;") (by decide +kernel)) (fun _ h9 => h9) hv_fs_45 dX6_removeEntry_26 ?_
  obtain ⟨fs_47, a_46, he_fs_47, hv_fs_47, h⟩ := h
  refine fw_getN (C := RX7) (T := TX7) (N := 8) hx hb hts hin_X7 hown hK hF he_fs_47 rfl 0 (by decide) (va_Nw.use rfl (hZ.2.1 (.fieldLinkNest RX6 40 "FrontCodedIndex$Tree" "keys" "LFrontCodedIndex$KeyRow;" "FrontCodedIndex") (by decide +kernel))) (fun _ h9 => h9) hv_fs_47 dX6_removeEntry_29 ?_
  refine lv_iload_n hx hb dX6_removeEntry_32 rfl (lv_at hl 3 rfl) ?_
  obtain ⟨⟨fs_u_48, hrc_u_48⟩, h⟩ := h
  refine fw_cV_v (As := [.int x1]) (rest := []) ⟨hx, hb, hml, hown, hts⟩ (cc_X4_delete l G h) (⟨callB_of 1 hts ggX6_removeEntry_X4_delete rfl rfl rfl (hts (.initialized RX4) (by decide +kernel)) (hts (.methodLink RX6 44 yX4_delete) (by decide +kernel)) (by decide +kernel) ⟨Nat.le_of_ble_eq_true rfl, Nat.le_of_ble_eq_true rfl⟩, hts (.instanceMethod yX4_delete) (by decide +kernel), hts (.selects RX4 yX4_delete yX4_delete) (by decide +kernel)⟩) rfl hrc_u_48 hK hZ hF hS hA rfl hl.1 rfl (Nat.le_of_ble_eq_true rfl) dX6_removeEntry_33 ⟨Nat.zero_le _, Nat.zero_le _⟩ (fun f_49 H locs h hF hS => ?_)
  refine lv_aload_n hx hb dX6_removeEntry_36 rfl (lv_at hl 2 rfl) ?_
  obtain ⟨fs_51, a_50, he_fs_51, hv_fs_51, h⟩ := h
  refine fw_get (C := RX6) (T := TX6) (N := 3) hx hb hts hin_X6 hown hK hF he_fs_51 rfl 0 (by decide) (hts (.fieldLink RX6 13 "FrontCodedIndex$Remover" "tree" "LFrontCodedIndex$Tree;") (by decide +kernel)) (fun _ h9 => h9) hv_fs_51 dX6_removeEntry_37 ?_
  obtain ⟨fs_53, a_52, he_fs_53, hv_fs_53, h⟩ := h
  refine fw_getN (C := RX7) (T := TX7) (N := 8) hx hb hts hin_X7 hown hK hF he_fs_53 rfl 1 (by decide) (va_Nw.use rfl (hZ.2.1 (.fieldLinkNest RX6 21 "FrontCodedIndex$Tree" "values" "LFrontCodedIndex$IntRow;" "FrontCodedIndex") (by decide +kernel))) (fun _ h9 => h9) hv_fs_53 dX6_removeEntry_40 ?_
  refine lv_iload_n hx hb dX6_removeEntry_43 rfl (lv_at hl 3 rfl) ?_
  obtain ⟨⟨fs_u_54, hrc_u_54⟩, h⟩ := h
  refine fw_cV_v (As := [.int x1]) (rest := []) ⟨hx, hb, hml, hown, hts⟩ (cc_X2_delete l G h) (⟨callB_of 1 hts ggX6_removeEntry_X2_delete rfl rfl rfl (hts (.initialized RX2) (by decide +kernel)) (hts (.methodLink RX6 50 yX2_delete) (by decide +kernel)) (by decide +kernel) ⟨Nat.le_of_ble_eq_true rfl, Nat.le_of_ble_eq_true rfl⟩, hts (.instanceMethod yX2_delete) (by decide +kernel), hts (.selects RX2 yX2_delete yX2_delete) (by decide +kernel)⟩) rfl hrc_u_54 hK hZ hF hS hA rfl hl.1 rfl (Nat.le_of_ble_eq_true rfl) dX6_removeEntry_44 ⟨Nat.zero_le _, Nat.zero_le _⟩ (fun f_55 H locs h hF hS => ?_)
  refine lv_aload_n hx hb dX6_removeEntry_47 rfl (lv_at hl 2 rfl) ?_
  obtain ⟨fs_57, a_56, he_fs_57, hv_fs_57, h⟩ := h
  refine fw_get (C := RX6) (T := TX6) (N := 3) hx hb hts hin_X6 hown hK hF he_fs_57 rfl 0 (by decide) (hts (.fieldLink RX6 13 "FrontCodedIndex$Remover" "tree" "LFrontCodedIndex$Tree;") (by decide +kernel)) (fun _ h9 => h9) hv_fs_57 dX6_removeEntry_48 ?_
  refine lv_iconst (v := (0 : Int32)) hx hb dX6_removeEntry_51 (by decide) ?_
  obtain ⟨⟨fs_a_58, hrc_a_58⟩, h⟩ := h
  refine fw_cV_q_p (As := [.int (0 : Int32)]) (rest := []) ⟨hx, hb, hml, hown, hts⟩ (cc_X7_tier l G h) (⟨callB_of 1 hts ggX6_removeEntry_X7_tier rfl rfl rfl (hts (.initialized RX7) (by decide +kernel)) (hts (.methodLink RX6 33 yX7_tier) (by decide +kernel)) (by decide +kernel) ⟨Nat.le_of_ble_eq_true rfl, Nat.le_of_ble_eq_true rfl⟩, hts (.instanceMethod yX7_tier) (by decide +kernel), hts (.selects RX7 yX7_tier yX7_tier) (by decide +kernel)⟩) rfl hrc_a_58 hK hZ hF hS hA rfl hl.1 rfl (Nat.le_of_ble_eq_true rfl) dX6_removeEntry_52 ⟨Nat.zero_le _, Nat.zero_le _⟩ (fun a_58 H locs h hF hS => ?_)
  refine lv_iload_n hx hb dX6_removeEntry_55 rfl (lv_at hl 0 rfl) ?_
  refine lv_iconst (v := (-1 : Int32)) hx hb dX6_removeEntry_56 (by decide) ?_
  obtain ⟨⟨fs_u_59, hrc_u_59⟩, h⟩ := h
  refine fw_cV_v (As := [.int r_43, .int (-1 : Int32)]) (rest := []) ⟨hx, hb, hml, hown, hts⟩ (cc_X2_addFrom l G h) (⟨callB_of 2 hts ggX6_removeEntry_X2_addFrom rfl rfl rfl (hts (.initialized RX2) (by decide +kernel)) (hts (.methodLink RX6 51 yX2_addFrom) (by decide +kernel)) (by decide +kernel) ⟨Nat.le_of_ble_eq_true rfl, Nat.le_of_ble_eq_true rfl⟩, hts (.instanceMethod yX2_addFrom) (by decide +kernel), hts (.selects RX2 yX2_addFrom yX2_addFrom) (by decide +kernel)⟩) rfl hrc_u_59 hK hZ hF hS hA rfl hl.1 rfl (Nat.le_of_ble_eq_true rfl) dX6_removeEntry_57 ⟨Nat.zero_le _, Nat.zero_le _⟩ (fun f_60 H locs h hF hS => ?_)
  refine lv_aload_n hx hb dX6_removeEntry_60 rfl (lv_at hl 2 rfl) ?_
  obtain ⟨fs_62, a_61, he_fs_62, hv_fs_62, h⟩ := h
  refine fw_get (C := RX6) (T := TX6) (N := 3) hx hb hts hin_X6 hown hK hF he_fs_62 rfl 1 (by decide) (hts (.fieldLink RX6 17 "FrontCodedIndex$Remover" "cursors" "LFrontCodedIndex$Cursors;") (by decide +kernel)) (fun _ h9 => h9) hv_fs_62 dX6_removeEntry_61 ?_
  refine lv_iload_n hx hb dX6_removeEntry_64 rfl (lv_at hl 3 rfl) ?_
  obtain ⟨⟨fs_u_63, hrc_u_63⟩, h⟩ := h
  refine fw_cV_v (As := [.int x1]) (rest := []) ⟨hx, hb, hml, hown, hts⟩ (cc_X0_entryRemoved l G h) (⟨callB_of 1 hts ggX6_removeEntry_X0_entryRemoved rfl rfl rfl (hts (.initialized RX0) (by decide +kernel)) (hts (.methodLink RX6 55 yX0_entryRemoved) (by decide +kernel)) (by decide +kernel) ⟨Nat.le_of_ble_eq_true rfl, Nat.le_of_ble_eq_true rfl⟩, hts (.instanceMethod yX0_entryRemoved) (by decide +kernel), hts (.selects RX0 yX0_entryRemoved yX0_entryRemoved) (by decide +kernel)⟩) rfl hrc_u_63 hK hZ hF hS hA rfl hl.1 rfl (Nat.le_of_ble_eq_true rfl) dX6_removeEntry_65 ⟨Nat.zero_le _, Nat.zero_le _⟩ (fun f_64 H locs h hF hS => ?_)
  refine lv_iconst (v := (0 : Int32)) hx hb dX6_removeEntry_68 (by decide) ?_
  refine lv_istore (lv' := [(4, .int (0 : Int32)), (3, .int r_43), (2, .int r_39), (0, .ref a0), (1, .int x1)]) hx hb dX6_removeEntry_69 hl (by decide) rfl (fun ls hl => ?_)
  obtain ⟨n_65, h⟩ := h
  exact L71 r_39 n_65 r_43 (0 : Int32) f_64 _ _ _ h hF hS (lv_sub hl [3, 2, 1, 0] rfl)
theorem dX7_allPages_0 : decode cX7_allPages 0 = .ok (.iconst 0, 1) := by decide +kernel
theorem dX7_allPages_1 : decode cX7_allPages 1 = .ok (.istore_n 1, 1) := by decide +kernel
theorem dX7_allPages_2 : decode cX7_allPages 2 = .ok (.iconst 0, 1) := by decide +kernel
theorem dX7_allPages_3 : decode cX7_allPages 3 = .ok (.istore_n 2, 1) := by decide +kernel
theorem dX7_allPages_4 : decode cX7_allPages 4 = .ok (.iload_n 2, 1) := by decide +kernel
theorem dX7_allPages_5 : decode cX7_allPages 5 = .ok (.aload_n 0, 1) := by decide +kernel
theorem dX7_allPages_6 : decode cX7_allPages 6 = .ok (.getfield 47, 3) := by decide +kernel
theorem dX7_allPages_9 : decode cX7_allPages 9 = .ok (.if_icmp .ge 17, 3) := by decide +kernel
theorem dX7_allPages_12 : decode cX7_allPages 12 = .ok (.iload_n 1, 1) := by decide +kernel
theorem dX7_allPages_13 : decode cX7_allPages 13 = .ok (.aload_n 0, 1) := by decide +kernel
theorem dX7_allPages_14 : decode cX7_allPages 14 = .ok (.iload_n 2, 1) := by decide +kernel
theorem dX7_allPages_15 : decode cX7_allPages 15 = .ok (.invokevirtual 84, 3) := by decide +kernel
theorem dX7_allPages_18 : decode cX7_allPages 18 = .ok (.iadd, 1) := by decide +kernel
theorem dX7_allPages_19 : decode cX7_allPages 19 = .ok (.istore_n 1, 1) := by decide +kernel
theorem dX7_allPages_20 : decode cX7_allPages 20 = .ok (.iinc 2 1, 3) := by decide +kernel
theorem dX7_allPages_23 : decode cX7_allPages 23 = .ok (.goto (-19), 3) := by decide +kernel
theorem dX7_allPages_26 : decode cX7_allPages 26 = .ok (.iload_n 1, 1) := by decide +kernel
theorem dX7_allPages_27 : decode cX7_allPages 27 = .ok (.ireturn, 1) := by decide +kernel
set_option maxRecDepth 20000 in
theorem ggX7_allPages_X7_pageTotal : GoodIn wsX7_allPages wsX7_pageTotal := goodIn_r _ [6, 7, 8, 9, 5, 10, 11, 12, 13, 14, 15, 16, 17, 18, 19, 20, 21, 22, 23, 24, 25, 26, 27, 28, 29, 30, 31, 32, 33, 34, 35, 36, 37, 38, 39, 40, 41, 42, 43, 44, 45, 46, 47, 48, 49, 50, 51, 52, 53, 54, 55] (by decide +kernel) (by decide +kernel)
def wp_X7_allPages_4 (a0 : Nat) (f : FT) (K : Int32 → Prop)  (C4 : Int32 × Int32 → Prop) : Int32 × Int32 → Prop := fun s9 => match s9 with
  | (y1, y2) => gI f a0 10 6 fun v_1 => ((v_1 ≤ y2 → K y1) ∧
 (¬ (v_1 ≤ y2) → isO f a0 10 ∧ wp_X7_pageTotal a0 y2 f (fun r_4 => ∀ v_5 : Int32, v_5 = (y1 + r_4) → ∀ v_7 : Int32, v_7 = y2 + 1 → C4 (v_5, v_7))))
def wp_X7_allPages (a0 : Nat) (f : FT) (K : Int32 → Prop) : Prop :=
  ∃ n_9, loopW (wp_X7_allPages_4 a0 f K) n_9 ((0 : Int32), (0 : Int32))
set_option maxHeartbeats 4000000 in
set_option maxRecDepth 100000 in
theorem cc_X7_allPages (l : Launch) (G : GG) {f : FT} {sz : Nat} {a0 : Nat} {K : Int32 → Prop} (h : wp_X7_allPages a0 f K) : Met l yX7_allPages wsX7_allPages ({ frames := 5, cells := 0, slots := 0, locals := 106 } : Room) (FP G [.ref a0] f sz) (va_Qi (fun r f9 => K r ∧ f9 = f : Int32 → FT → Prop) (FB G (fA f sz)) (fA f sz)) 0 0 (fA f sz) := by
  refine Met.ofW (cc := cX7_allPages) (maxL := 3) (ret := (some .int)) (by decide) rfl ?_
  intro p e s m args below meth c s₁ B hml hv
  obtain ⟨rfl, hsz, hF, hK, hZ⟩ := hv
  have hx := B.exec
  have hb := B.bytes
  have hr := B.returns
  have hts := atoms_spec (ws := wsX7_allPages) B.pre
  have hown : s.vm.findClass RX7 = some m.cls := findClass_of_methodNamed B.named
  have hlocks := B.notSynchronized
  subst hsz
  have hF := hF.self (sz := s.heap.size)
  generalize hAe : fA f s.heap.size = A at hF hZ ⊢
  have hA : ∀ q : Nat, s.heap.size ≤ q → A q := fun q h => by rw [← hAe]; exact Or.inr h
  have hS : va_S A s.heap s.heap [] := va_S.rf
  have hin_X7 : ∀ w ∈ wsX70, w ∈ wsX7_allPages := by decide +kernel
  have L4 : ∀  (j9 : Nat) (y1 : Int32) (y2 : Int32) (H : Heap) (locs : List Loc) (ls : Array Slot), loopW (wp_X7_allPages_4 a0 f K ) j9 (y1, y2) → Fw G A f H → va_S A s.heap H locs → lv_has ls 3 [(0, .ref a0), (1, .int y1), (2, .int y2)] → W p l e ({ frames := 5, cells := 0, slots := 0, locals := 106 } : Room) s m ([.ref a0] : List Value).toArray below meth c H locs 0 0 (MQ below (va_Qi (fun r f9 => K r ∧ f9 = f : Int32 → FT → Prop) (FB G A) A) ([.ref a0] : List Value).toArray s 0 0 A) (F0 m 4 ls []) := by
    intro  j9
    induction j9 with
    | zero => intro y1 y2 H locs ls h; exact h.elim
    | succ j9 ih4 =>
      intro y1 y2 H locs ls h hF hS hl
      have h : wp_X7_allPages_4 a0 f K  (loopW (wp_X7_allPages_4 a0 f K ) j9) (y1, y2) := h
      generalize loopW (wp_X7_allPages_4 a0 f K ) j9 = C4 at ih4 h
      unfold wp_X7_allPages_4 at h
      refine lv_iload_n hx hb dX7_allPages_4 rfl (lv_at hl 2 rfl) ?_
      refine lv_aload_n hx hb dX7_allPages_5 rfl (lv_at hl 0 rfl) ?_
      obtain ⟨fs_2, v_1, he_fs_2, hv_fs_2, h⟩ := h
      refine fw_get (C := RX7) (T := TX7) (N := 8) hx hb hts hin_X7 hown hK hF he_fs_2 rfl 6 (by decide) (hts (.fieldLink RX7 47 "FrontCodedIndex$Tree" "tierTotal" "I") (by decide +kernel)) (fun _ h9 => h9) hv_fs_2 dX7_allPages_6 ?_
      obtain ⟨h1, h2⟩ := h
      refine lv_icmp_ge (tgt := 26) hx hb dX7_allPages_9 (by decide) (fun c_3 => ?_) (fun c_3 => ?_)
      · have h := h1 c_3
        refine lv_iload_n hx hb dX7_allPages_26 rfl (lv_at hl 1 rfl) ?_
        exact W.iret (v := y1) hx hb hr (fun t ht hW => ⟨⟨y1, f, rfl, ⟨h, rfl⟩, by rw [ht]; exact hF, FK.moved hW.alike hK⟩, hS.F ht⟩) hS.2.2 dX7_allPages_27
      · have h := h2 c_3
        refine lv_iload_n hx hb dX7_allPages_12 rfl (lv_at hl 1 rfl) ?_
        refine lv_aload_n hx hb dX7_allPages_13 rfl (lv_at hl 0 rfl) ?_
        refine lv_iload_n hx hb dX7_allPages_14 rfl (lv_at hl 2 rfl) ?_
        obtain ⟨⟨fs_r_4, hrc_r_4⟩, h⟩ := h
        refine fw_cV_i_p (As := [.int y2]) (rest := [.int y1]) ⟨hx, hb, hml, hown, hts⟩ (cc_X7_pageTotal l G h) (⟨callB_of 1 hts ggX7_allPages_X7_pageTotal rfl rfl rfl (hts (.initialized RX7) (by decide +kernel)) (hts (.methodLink RX7 84 yX7_pageTotal) (by decide +kernel)) (by decide +kernel) ⟨Nat.le_of_ble_eq_true rfl, Nat.le_of_ble_eq_true rfl⟩, hts (.instanceMethod yX7_pageTotal) (by decide +kernel), hts (.selects RX7 yX7_pageTotal yX7_pageTotal) (by decide +kernel)⟩) rfl hrc_r_4 hK hZ hF hS hA rfl hl.1 rfl (Nat.le_of_ble_eq_true rfl) dX7_allPages_15 ⟨Nat.zero_le _, Nat.zero_le _⟩ (fun r_4 H locs h hF hS => ?_)
        refine lv_iadd hx hb dX7_allPages_18 ?_
        refine lv_topi (fun v_5 e_6 => ?_)
        have h := h v_5 e_6
        refine lv_istore_n (lv' := [(1, .int v_5), (0, .ref a0), (2, .int y2)]) hx hb dX7_allPages_19 rfl hl (by decide) rfl (fun ls hl => ?_)
        obtain ⟨v_7, e_8⟩ : ∃ y : Int32, y = y2 + 1 := ⟨_, rfl⟩
        have h := h v_7 e_8
        refine lv_iinc (v := v_7) (lv' := [(2, .int v_7), (1, .int v_5), (0, .ref a0)]) hx hb dX7_allPages_20 hl (k := 2) rfl (by rw [e_8]; rfl) (by decide) rfl (fun ls hl => ?_)
        refine lv_goto (tgt := 4) hx hb dX7_allPages_23 (by decide) ?_
        exact ih4 v_5 v_7 _ _ _ h hF hS (lv_sub hl [2, 1, 0] rfl)
  have hl := lv_entry ([.ref a0]) (n := 3) (Nat.le_of_ble_eq_true rfl)
  rw [lg_entry_eq]
  generalize (lg_sl ([.ref a0]) ++ List.replicate (3 - (lg_sl ([.ref a0])).length) Slot.unset).toArray = ls at hl ⊢
  have hl : lv_has ls 3 [(0, .ref a0)] := hl
  unfold wp_X7_allPages at h
  refine lv_iconst (v := (0 : Int32)) hx hb dX7_allPages_0 (by decide) ?_
  refine lv_istore_n (lv' := [(1, .int (0 : Int32)), (0, .ref a0)]) hx hb dX7_allPages_1 rfl hl (by decide) rfl (fun ls hl => ?_)
  refine lv_iconst (v := (0 : Int32)) hx hb dX7_allPages_2 (by decide) ?_
  refine lv_istore_n (lv' := [(2, .int (0 : Int32)), (1, .int (0 : Int32)), (0, .ref a0)]) hx hb dX7_allPages_3 rfl hl (by decide) rfl (fun ls hl => ?_)
  obtain ⟨n_9, h⟩ := h
  exact L4 n_9 (0 : Int32) (0 : Int32) _ _ _ h hF hS (lv_sub hl [2, 1, 0] rfl)
theorem dX7_copyFrom_0 : decode cX7_copyFrom 0 = .ok (.aload_n 0, 1) := by decide +kernel
theorem dX7_copyFrom_1 : decode cX7_copyFrom 1 = .ok (.getfield 12, 3) := by decide +kernel
theorem dX7_copyFrom_4 : decode cX7_copyFrom 4 = .ok (.aload_n 1, 1) := by decide +kernel
theorem dX7_copyFrom_5 : decode cX7_copyFrom 5 = .ok (.getfield 12, 3) := by decide +kernel
theorem dX7_copyFrom_8 : decode cX7_copyFrom 8 = .ok (.invokevirtual 125, 3) := by decide +kernel
theorem dX7_copyFrom_11 : decode cX7_copyFrom 11 = .ok (.aload_n 0, 1) := by decide +kernel
theorem dX7_copyFrom_12 : decode cX7_copyFrom 12 = .ok (.getfield 21, 3) := by decide +kernel
theorem dX7_copyFrom_15 : decode cX7_copyFrom 15 = .ok (.aload_n 1, 1) := by decide +kernel
theorem dX7_copyFrom_16 : decode cX7_copyFrom 16 = .ok (.getfield 21, 3) := by decide +kernel
theorem dX7_copyFrom_19 : decode cX7_copyFrom 19 = .ok (.invokevirtual 129, 3) := by decide +kernel
theorem dX7_copyFrom_22 : decode cX7_copyFrom 22 = .ok (.aload_n 0, 1) := by decide +kernel
theorem dX7_copyFrom_23 : decode cX7_copyFrom 23 = .ok (.getfield 25, 3) := by decide +kernel
theorem dX7_copyFrom_26 : decode cX7_copyFrom 26 = .ok (.aload_n 1, 1) := by decide +kernel
theorem dX7_copyFrom_27 : decode cX7_copyFrom 27 = .ok (.getfield 25, 3) := by decide +kernel
theorem dX7_copyFrom_30 : decode cX7_copyFrom 30 = .ok (.invokevirtual 125, 3) := by decide +kernel
theorem dX7_copyFrom_33 : decode cX7_copyFrom 33 = .ok (.aload_n 0, 1) := by decide +kernel
theorem dX7_copyFrom_34 : decode cX7_copyFrom 34 = .ok (.aload_n 1, 1) := by decide +kernel
theorem dX7_copyFrom_35 : decode cX7_copyFrom 35 = .ok (.getfield 51, 3) := by decide +kernel
theorem dX7_copyFrom_38 : decode cX7_copyFrom 38 = .ok (.putfield 51, 3) := by decide +kernel
theorem dX7_copyFrom_41 : decode cX7_copyFrom 41 = .ok (.aload_n 0, 1) := by decide +kernel
theorem dX7_copyFrom_42 : decode cX7_copyFrom 42 = .ok (.iconst 0, 1) := by decide +kernel
theorem dX7_copyFrom_43 : decode cX7_copyFrom 43 = .ok (.putfield 47, 3) := by decide +kernel
theorem dX7_copyFrom_46 : decode cX7_copyFrom 46 = .ok (.iconst 0, 1) := by decide +kernel
theorem dX7_copyFrom_47 : decode cX7_copyFrom 47 = .ok (.istore_n 2, 1) := by decide +kernel
theorem dX7_copyFrom_48 : decode cX7_copyFrom 48 = .ok (.iload_n 2, 1) := by decide +kernel
theorem dX7_copyFrom_49 : decode cX7_copyFrom 49 = .ok (.aload_n 1, 1) := by decide +kernel
theorem dX7_copyFrom_50 : decode cX7_copyFrom 50 = .ok (.getfield 47, 3) := by decide +kernel
theorem dX7_copyFrom_53 : decode cX7_copyFrom 53 = .ok (.if_icmp .ge 21, 3) := by decide +kernel
theorem dX7_copyFrom_56 : decode cX7_copyFrom 56 = .ok (.aload_n 0, 1) := by decide +kernel
theorem dX7_copyFrom_57 : decode cX7_copyFrom 57 = .ok (.invokevirtual 54, 3) := by decide +kernel
theorem dX7_copyFrom_60 : decode cX7_copyFrom 60 = .ok (.aload_n 1, 1) := by decide +kernel
theorem dX7_copyFrom_61 : decode cX7_copyFrom 61 = .ok (.iload_n 2, 1) := by decide +kernel
theorem dX7_copyFrom_62 : decode cX7_copyFrom 62 = .ok (.invokevirtual 74, 3) := by decide +kernel
theorem dX7_copyFrom_65 : decode cX7_copyFrom 65 = .ok (.invokevirtual 129, 3) := by decide +kernel
theorem dX7_copyFrom_68 : decode cX7_copyFrom 68 = .ok (.iinc 2 1, 3) := by decide +kernel
theorem dX7_copyFrom_71 : decode cX7_copyFrom 71 = .ok (.goto (-23), 3) := by decide +kernel
theorem dX7_copyFrom_74 : decode cX7_copyFrom 74 = .ok (.return_, 1) := by decide +kernel
set_option maxRecDepth 20000 in
theorem ggX7_copyFrom_X2_copyFrom : GoodIn wsX7_copyFrom wsX2_copyFrom := goodIn_r _ [97, 98, 99, 100, 101, 96, 102, 103, 104, 105, 106, 107, 108, 109, 110, 111, 112, 113, 75, 114, 115, 116, 117, 118, 119, 120, 121, 86, 87, 61, 88, 89, 90, 91, 92, 161, 162] (by decide +kernel) (by decide +kernel)
set_option maxRecDepth 20000 in
theorem ggX7_copyFrom_X4_copyFrom : GoodIn wsX7_copyFrom wsX4_copyFrom := goodIn_r _ [10, 11, 12, 13, 14, 15, 16, 17, 18, 19, 20, 21, 22, 23, 24, 25, 26, 27, 28, 29, 30, 31, 32, 33, 34, 35, 36, 37, 38, 39, 40, 41, 42, 43, 44, 45, 46, 47, 48, 49, 50, 51, 52, 53, 54, 55, 56, 57, 58, 59, 60, 61, 62, 63, 64, 65, 66, 67, 68, 69, 70, 71, 72, 73, 74, 75, 76, 77, 78, 79, 80, 81, 82, 83, 84, 85, 86, 87, 88, 89, 90, 91, 92, 156, 157, 158, 159, 160] (by decide +kernel) (by decide +kernel)
set_option maxRecDepth 20000 in
theorem ggX7_copyFrom_X7_addTier : GoodIn wsX7_copyFrom wsX7_addTier := goodIn_r _ [126, 5, 127, 128, 129, 96, 130, 23, 24, 16, 25, 21, 131, 132, 133, 134, 135, 121, 103, 98, 136, 43, 44, 45, 18, 19, 20, 46, 47, 48, 49, 50, 51, 52, 53, 54, 55, 56, 57, 58, 59, 60, 61, 62, 63, 64, 65, 66, 67, 68, 69, 70, 71, 72, 73, 74, 75, 76, 77, 78, 79, 80, 81, 82, 83, 84, 85, 86, 87, 88, 89, 90, 91, 92, 137, 138, 139, 125, 140, 141, 142, 143, 27, 28, 29, 30, 31, 32, 33, 34, 35, 36, 37, 38, 39, 40, 41, 144, 145, 146, 147, 148, 149, 150, 151, 152, 153, 154, 155, 161, 162, 158, 159, 160] (by decide +kernel) (by decide +kernel)
set_option maxRecDepth 20000 in
theorem ggX7_copyFrom_X7_tier : GoodIn wsX7_copyFrom wsX7_tier := goodIn_r _ [140, 127, 141, 142, 130, 23, 24, 16, 25, 21, 143, 27, 28, 29, 30, 31, 32, 33, 34, 35, 36, 37, 38, 39, 40, 41, 20, 148, 149, 150, 151, 152, 153, 154, 155, 158, 159, 160] (by decide +kernel) (by decide +kernel)
def wp_X7_copyFrom_48 (zd : Nat) (a0 : Nat) (a1 : Nat) (K : FT → Prop)  (C48 : Int32 × FT × Nat × Nat → Prop) : Int32 × FT × Nat × Nat → Prop := fun s9 => match s9 with
  | (y2, f, bc, bs) => gI f a1 10 6 fun v_1 => ((v_1 ≤ y2 → K f) ∧
 (¬ (v_1 ≤ y2) → ∃ ga_6 gb_7 : Nat, ga_6 ≤ bc ∧ gb_7 ≤ bs ∧ isO f a0 10 ∧ wp_X7_addTier zd a0 f ga_6 gb_7 (fun a_4 f_5 => isO f_5 a1 10 ∧ wp_X7_tier a1 y2 f_5 (fun a_10 => ∃ ga_13 gb_14 : Nat, ga_13 ≤ (bc - ga_6) ∧ gb_14 ≤ (bs - gb_7) ∧ isO f_5 a_4 5 ∧ wp_X2_copyFrom a_4 a_10 f_5 ga_13 gb_14 (fun f_12 => ∀ v_17 : Int32, v_17 = y2 + 1 → C48 (v_17, f_12, ((bc - ga_6) - ga_13), ((bs - gb_7) - gb_14)))))))
def wp_X7_copyFrom (zd : Nat) (a0 : Nat) (a1 : Nat) (f : FT) (mc ms : Nat) (K : FT → Prop) : Prop :=
  gA f a0 10 0 fun a_19 => gA f a1 10 0 fun a_21 => ∃ ga_25 gb_26 : Nat, ga_25 ≤ mc ∧ gb_26 ≤ ms ∧ isO f a_19 7 ∧ wp_X4_copyFrom zd a_19 a_21 f ga_25 gb_26 (fun f_24 => gA f_24 a0 10 1 fun a_29 => gA f_24 a1 10 1 fun a_31 => ∃ ga_35 gb_36 : Nat, ga_35 ≤ (mc - ga_25) ∧ gb_36 ≤ (ms - gb_26) ∧ isO f_24 a_29 5 ∧ wp_X2_copyFrom a_29 a_31 f_24 ga_35 gb_36 (fun f_34 => gA f_34 a0 10 2 fun a_39 => gA f_34 a1 10 2 fun a_41 => ∃ ga_45 gb_46 : Nat, ga_45 ≤ ((mc - ga_25) - ga_35) ∧ gb_46 ≤ ((ms - gb_26) - gb_36) ∧ isO f_34 a_39 7 ∧ wp_X4_copyFrom zd a_39 a_41 f_34 ga_45 gb_46 (fun f_44 => gI f_44 a1 10 7 fun v_49 => pV f_44 a0 10 7 (.int v_49) fun f_52 => pV f_52 a0 10 6 (.int (0 : Int32)) fun f_54 => ∃ n_55, loopW (wp_X7_copyFrom_48 zd a0 a1 K) n_55 ((0 : Int32), f_54, (((mc - ga_25) - ga_35) - ga_45), (((ms - gb_26) - gb_36) - gb_46)))))
set_option maxHeartbeats 4000000 in
set_option maxRecDepth 100000 in
theorem cc_X7_copyFrom (l : Launch) (G : GG) {zd : Nat} (hzd : G.2.2 0 = zd) {f : FT} {sz : Nat} {a0 : Nat} {a1 : Nat} {mc ms : Nat} {K : FT → Prop} (h : wp_X7_copyFrom zd a0 a1 f mc ms K) : Met l yX7_copyFrom wsX7_copyFrom ({ frames := 8, cells := mc, slots := ms, locals := 193 } : Room) (FP G [.ref a0, .ref a1] f sz) (va_Qv (fun f9 => K f9 : FT → Prop) (FB G (fA f sz)) (fA f sz)) mc ms (fA f sz) := by
  refine Met.ofW (cc := cX7_copyFrom) (maxL := 3) (ret := none) (by decide) rfl ?_
  intro p e s m args below meth c s₁ B hml hv
  obtain ⟨rfl, hsz, hF, hK, hZ⟩ := hv
  have hx := B.exec
  have hb := B.bytes
  have hr := B.returns
  have hts := atoms_spec (ws := wsX7_copyFrom) B.pre
  have hown : s.vm.findClass RX7 = some m.cls := findClass_of_methodNamed B.named
  have hlocks := B.notSynchronized
  subst hsz
  have hF := hF.self (sz := s.heap.size)
  generalize hAe : fA f s.heap.size = A at hF hZ ⊢
  have hA : ∀ q : Nat, s.heap.size ≤ q → A q := fun q h => by rw [← hAe]; exact Or.inr h
  have hS : va_S A s.heap s.heap [] := va_S.rf
  have hZ9 : va_Z "java/util/ArrayList" "DEFAULTCAPACITY_EMPTY_ELEMENTDATA" "[Ljava/lang/Object;" (.ref zd) A s s.heap := by rw [← hzd]; exact hZ.1
  have hin_X7 : ∀ w ∈ wsX70, w ∈ wsX7_copyFrom := by decide +kernel
  have hbc : 0 + mc ≤ mc := by omega
  have hbs : 0 + ms ≤ ms := by omega
  have L48 : ∀  (j9 : Nat) (y2 : Int32) (f : FT) (bc : Nat) (bs : Nat) (H : Heap) (locs : List Loc) (ls : Array Slot) (cs sl : Nat), loopW (wp_X7_copyFrom_48 zd a0 a1 K ) j9 (y2, f, bc, bs) → cs + bc ≤ mc → sl + bs ≤ ms → Fw G A f H → va_S A s.heap H locs → lv_has ls 3 [(0, .ref a0), (1, .ref a1), (2, .int y2)] → W p l e ({ frames := 8, cells := mc, slots := ms, locals := 193 } : Room) s m ([.ref a0, .ref a1] : List Value).toArray below meth c H locs cs sl (MQ below (va_Qv (fun f9 => K f9 : FT → Prop) (FB G A) A) ([.ref a0, .ref a1] : List Value).toArray s mc ms A) (F0 m 48 ls []) := by
    intro  j9
    induction j9 with
    | zero => intro y2 f bc bs H locs ls cs sl h; exact h.elim
    | succ j9 ih48 =>
      intro y2 f bc bs H locs ls cs sl h hbc hbs hF hS hl
      have h : wp_X7_copyFrom_48 zd a0 a1 K  (loopW (wp_X7_copyFrom_48 zd a0 a1 K ) j9) (y2, f, bc, bs) := h
      generalize loopW (wp_X7_copyFrom_48 zd a0 a1 K ) j9 = C48 at ih48 h
      unfold wp_X7_copyFrom_48 at h
      refine lv_iload_n hx hb dX7_copyFrom_48 rfl (lv_at hl 2 rfl) ?_
      refine lv_aload_n hx hb dX7_copyFrom_49 rfl (lv_at hl 1 rfl) ?_
      obtain ⟨fs_2, v_1, he_fs_2, hv_fs_2, h⟩ := h
      refine fw_get (C := RX7) (T := TX7) (N := 8) hx hb hts hin_X7 hown hK hF he_fs_2 rfl 6 (by decide) (hts (.fieldLink RX7 47 "FrontCodedIndex$Tree" "tierTotal" "I") (by decide +kernel)) (fun _ h9 => h9) hv_fs_2 dX7_copyFrom_50 ?_
      obtain ⟨h1, h2⟩ := h
      refine lv_icmp_ge (tgt := 74) hx hb dX7_copyFrom_53 (by decide) (fun c_3 => ?_) (fun c_3 => ?_)
      · have h := h1 c_3
        refine W.widen (k := mc) (n := ms) (by omega) (by omega) ?_
        exact W.vret hx hb hr (fun t ht hW => ⟨⟨f, rfl, h, by rw [ht]; exact hF, FK.moved hW.alike hK⟩, hS.F ht⟩) hS.2.2 dX7_copyFrom_74
      · have h := h2 c_3
        refine lv_aload_n hx hb dX7_copyFrom_56 rfl (lv_at hl 0 rfl) ?_
        obtain ⟨ga_6, gb_7, hga_ga_6, hgb_ga_6, h⟩ := h
        obtain ⟨⟨fs_a_4, hrc_a_4⟩, h⟩ := h
        refine fw_cV_q_w (As := []) (rest := []) ⟨hx, hb, hml, hown, hts⟩ (cc_X7_addTier l G hzd h) (⟨callB_of 0 hts ggX7_copyFrom_X7_addTier rfl rfl rfl (hts (.initialized RX7) (by decide +kernel)) (hts (.methodLink RX7 54 yX7_addTier) (by decide +kernel)) (by decide +kernel) ⟨Nat.le_of_ble_eq_true rfl, Nat.le_of_ble_eq_true rfl⟩, hts (.instanceMethod yX7_addTier) (by decide +kernel), hts (.selects RX7 yX7_addTier yX7_addTier) (by decide +kernel)⟩) rfl hrc_a_4 hK hZ hF hS hA rfl hl.1 rfl (Nat.le_of_ble_eq_true rfl) dX7_copyFrom_57 ⟨by show _ ≤ mc; omega, by show _ ≤ ms; omega⟩ (fun a_4 f_5 H locs h hF hS => ?_)
        obtain ⟨cs_8, hcs⟩ : ∃ z, z = (cs + ga_6) := ⟨_, rfl⟩; obtain ⟨sl_9, hsl⟩ : ∃ z, z = (sl + gb_7) := ⟨_, rfl⟩
        have hbc : cs_8 + (bc - ga_6) ≤ mc := by omega
        have hbs : sl_9 + (bs - gb_7) ≤ ms := by omega
        refine W.widen (k := cs_8) (n := sl_9) (by omega) (by omega) ?_
        clear hcs hsl
        refine lv_aload_n hx hb dX7_copyFrom_60 rfl (lv_at hl 1 rfl) ?_
        refine lv_iload_n hx hb dX7_copyFrom_61 rfl (lv_at hl 2 rfl) ?_
        obtain ⟨⟨fs_a_10, hrc_a_10⟩, h⟩ := h
        refine fw_cV_q_p (As := [.int y2]) (rest := [.ref a_4]) ⟨hx, hb, hml, hown, hts⟩ (cc_X7_tier l G h) (⟨callB_of 1 hts ggX7_copyFrom_X7_tier rfl rfl rfl (hts (.initialized RX7) (by decide +kernel)) (hts (.methodLink RX7 74 yX7_tier) (by decide +kernel)) (by decide +kernel) ⟨Nat.le_of_ble_eq_true rfl, Nat.le_of_ble_eq_true rfl⟩, hts (.instanceMethod yX7_tier) (by decide +kernel), hts (.selects RX7 yX7_tier yX7_tier) (by decide +kernel)⟩) rfl hrc_a_10 hK hZ hF hS hA rfl hl.1 rfl (Nat.le_of_ble_eq_true rfl) dX7_copyFrom_62 ⟨by show _ ≤ mc; omega, by show _ ≤ ms; omega⟩ (fun a_10 H locs h hF hS => ?_)
        simp only [Nat.add_zero]
        obtain ⟨ga_13, gb_14, hga_ga_13, hgb_ga_13, h⟩ := h
        obtain ⟨⟨fs_u_11, hrc_u_11⟩, h⟩ := h
        refine fw_cV_v (As := [.ref a_10]) (rest := []) ⟨hx, hb, hml, hown, hts⟩ (cc_X2_copyFrom l G h) (⟨callB_of 1 hts ggX7_copyFrom_X2_copyFrom rfl rfl rfl (hts (.initialized RX2) (by decide +kernel)) (hts (.methodLink RX7 129 yX2_copyFrom) (by decide +kernel)) (by decide +kernel) ⟨Nat.le_of_ble_eq_true rfl, Nat.le_of_ble_eq_true rfl⟩, hts (.instanceMethod yX2_copyFrom) (by decide +kernel), hts (.selects RX2 yX2_copyFrom yX2_copyFrom) (by decide +kernel)⟩) rfl hrc_u_11 hK hZ hF hS hA rfl hl.1 rfl (Nat.le_of_ble_eq_true rfl) dX7_copyFrom_65 ⟨by show _ ≤ mc; omega, by show _ ≤ ms; omega⟩ (fun f_12 H locs h hF hS => ?_)
        obtain ⟨cs_15, hcs⟩ : ∃ z, z = (cs_8 + ga_13) := ⟨_, rfl⟩; obtain ⟨sl_16, hsl⟩ : ∃ z, z = (sl_9 + gb_14) := ⟨_, rfl⟩
        have hbc : cs_15 + ((bc - ga_6) - ga_13) ≤ mc := by omega
        have hbs : sl_16 + ((bs - gb_7) - gb_14) ≤ ms := by omega
        refine W.widen (k := cs_15) (n := sl_16) (by omega) (by omega) ?_
        clear hcs hsl
        obtain ⟨v_17, e_18⟩ : ∃ y : Int32, y = y2 + 1 := ⟨_, rfl⟩
        have h := h v_17 e_18
        refine lv_iinc (v := v_17) (lv' := [(2, .int v_17), (0, .ref a0), (1, .ref a1)]) hx hb dX7_copyFrom_68 hl (k := 2) rfl (by rw [e_18]; rfl) (by decide) rfl (fun ls hl => ?_)
        refine lv_goto (tgt := 48) hx hb dX7_copyFrom_71 (by decide) ?_
        exact ih48 v_17 f_12 ((bc - ga_6) - ga_13) ((bs - gb_7) - gb_14) _ _ _ _ _ h hbc hbs hF hS (lv_sub hl [1, 2, 0] rfl)
  have hl := lv_entry ([.ref a0, .ref a1]) (n := 3) (Nat.le_of_ble_eq_true rfl)
  rw [lg_entry_eq]
  generalize (lg_sl ([.ref a0, .ref a1]) ++ List.replicate (3 - (lg_sl ([.ref a0, .ref a1])).length) Slot.unset).toArray = ls at hl ⊢
  have hl : lv_has ls 3 [(0, .ref a0), (1, .ref a1)] := hl
  unfold wp_X7_copyFrom at h
  refine lv_aload_n hx hb dX7_copyFrom_0 rfl (lv_at hl 0 rfl) ?_
  obtain ⟨fs_20, a_19, he_fs_20, hv_fs_20, h⟩ := h
  refine fw_get (C := RX7) (T := TX7) (N := 8) hx hb hts hin_X7 hown hK hF he_fs_20 rfl 0 (by decide) (hts (.fieldLink RX7 12 "FrontCodedIndex$Tree" "keys" "LFrontCodedIndex$KeyRow;") (by decide +kernel)) (fun _ h9 => h9) hv_fs_20 dX7_copyFrom_1 ?_
  refine lv_aload_n hx hb dX7_copyFrom_4 rfl (lv_at hl 1 rfl) ?_
  obtain ⟨fs_22, a_21, he_fs_22, hv_fs_22, h⟩ := h
  refine fw_get (C := RX7) (T := TX7) (N := 8) hx hb hts hin_X7 hown hK hF he_fs_22 rfl 0 (by decide) (hts (.fieldLink RX7 12 "FrontCodedIndex$Tree" "keys" "LFrontCodedIndex$KeyRow;") (by decide +kernel)) (fun _ h9 => h9) hv_fs_22 dX7_copyFrom_5 ?_
  obtain ⟨ga_25, gb_26, hga_ga_25, hgb_ga_25, h⟩ := h
  obtain ⟨⟨fs_u_23, hrc_u_23⟩, h⟩ := h
  refine fw_cV_v (As := [.ref a_21]) (rest := []) ⟨hx, hb, hml, hown, hts⟩ (cc_X4_copyFrom l G hzd h) (⟨callB_of 1 hts ggX7_copyFrom_X4_copyFrom rfl rfl rfl (hts (.initialized RX4) (by decide +kernel)) (hts (.methodLink RX7 125 yX4_copyFrom) (by decide +kernel)) (by decide +kernel) ⟨Nat.le_of_ble_eq_true rfl, Nat.le_of_ble_eq_true rfl⟩, hts (.instanceMethod yX4_copyFrom) (by decide +kernel), hts (.selects RX4 yX4_copyFrom yX4_copyFrom) (by decide +kernel)⟩) rfl hrc_u_23 hK hZ hF hS hA rfl hl.1 rfl (Nat.le_of_ble_eq_true rfl) dX7_copyFrom_8 ⟨by show _ ≤ mc; omega, by show _ ≤ ms; omega⟩ (fun f_24 H locs h hF hS => ?_)
  obtain ⟨cs_27, hcs⟩ : ∃ z, z = (0 + ga_25) := ⟨_, rfl⟩; obtain ⟨sl_28, hsl⟩ : ∃ z, z = (0 + gb_26) := ⟨_, rfl⟩
  have hbc : cs_27 + (mc - ga_25) ≤ mc := by omega
  have hbs : sl_28 + (ms - gb_26) ≤ ms := by omega
  refine W.widen (k := cs_27) (n := sl_28) (by omega) (by omega) ?_
  clear hcs hsl
  refine lv_aload_n hx hb dX7_copyFrom_11 rfl (lv_at hl 0 rfl) ?_
  obtain ⟨fs_30, a_29, he_fs_30, hv_fs_30, h⟩ := h
  refine fw_get (C := RX7) (T := TX7) (N := 8) hx hb hts hin_X7 hown hK hF he_fs_30 rfl 1 (by decide) (hts (.fieldLink RX7 21 "FrontCodedIndex$Tree" "values" "LFrontCodedIndex$IntRow;") (by decide +kernel)) (fun _ h9 => h9) hv_fs_30 dX7_copyFrom_12 ?_
  refine lv_aload_n hx hb dX7_copyFrom_15 rfl (lv_at hl 1 rfl) ?_
  obtain ⟨fs_32, a_31, he_fs_32, hv_fs_32, h⟩ := h
  refine fw_get (C := RX7) (T := TX7) (N := 8) hx hb hts hin_X7 hown hK hF he_fs_32 rfl 1 (by decide) (hts (.fieldLink RX7 21 "FrontCodedIndex$Tree" "values" "LFrontCodedIndex$IntRow;") (by decide +kernel)) (fun _ h9 => h9) hv_fs_32 dX7_copyFrom_16 ?_
  obtain ⟨ga_35, gb_36, hga_ga_35, hgb_ga_35, h⟩ := h
  obtain ⟨⟨fs_u_33, hrc_u_33⟩, h⟩ := h
  refine fw_cV_v (As := [.ref a_31]) (rest := []) ⟨hx, hb, hml, hown, hts⟩ (cc_X2_copyFrom l G h) (⟨callB_of 1 hts ggX7_copyFrom_X2_copyFrom rfl rfl rfl (hts (.initialized RX2) (by decide +kernel)) (hts (.methodLink RX7 129 yX2_copyFrom) (by decide +kernel)) (by decide +kernel) ⟨Nat.le_of_ble_eq_true rfl, Nat.le_of_ble_eq_true rfl⟩, hts (.instanceMethod yX2_copyFrom) (by decide +kernel), hts (.selects RX2 yX2_copyFrom yX2_copyFrom) (by decide +kernel)⟩) rfl hrc_u_33 hK hZ hF hS hA rfl hl.1 rfl (Nat.le_of_ble_eq_true rfl) dX7_copyFrom_19 ⟨by show _ ≤ mc; omega, by show _ ≤ ms; omega⟩ (fun f_34 H locs h hF hS => ?_)
  obtain ⟨cs_37, hcs⟩ : ∃ z, z = (cs_27 + ga_35) := ⟨_, rfl⟩; obtain ⟨sl_38, hsl⟩ : ∃ z, z = (sl_28 + gb_36) := ⟨_, rfl⟩
  have hbc : cs_37 + ((mc - ga_25) - ga_35) ≤ mc := by omega
  have hbs : sl_38 + ((ms - gb_26) - gb_36) ≤ ms := by omega
  refine W.widen (k := cs_37) (n := sl_38) (by omega) (by omega) ?_
  clear hcs hsl
  refine lv_aload_n hx hb dX7_copyFrom_22 rfl (lv_at hl 0 rfl) ?_
  obtain ⟨fs_40, a_39, he_fs_40, hv_fs_40, h⟩ := h
  refine fw_get (C := RX7) (T := TX7) (N := 8) hx hb hts hin_X7 hown hK hF he_fs_40 rfl 2 (by decide) (hts (.fieldLink RX7 25 "FrontCodedIndex$Tree" "separators" "LFrontCodedIndex$KeyRow;") (by decide +kernel)) (fun _ h9 => h9) hv_fs_40 dX7_copyFrom_23 ?_
  refine lv_aload_n hx hb dX7_copyFrom_26 rfl (lv_at hl 1 rfl) ?_
  obtain ⟨fs_42, a_41, he_fs_42, hv_fs_42, h⟩ := h
  refine fw_get (C := RX7) (T := TX7) (N := 8) hx hb hts hin_X7 hown hK hF he_fs_42 rfl 2 (by decide) (hts (.fieldLink RX7 25 "FrontCodedIndex$Tree" "separators" "LFrontCodedIndex$KeyRow;") (by decide +kernel)) (fun _ h9 => h9) hv_fs_42 dX7_copyFrom_27 ?_
  obtain ⟨ga_45, gb_46, hga_ga_45, hgb_ga_45, h⟩ := h
  obtain ⟨⟨fs_u_43, hrc_u_43⟩, h⟩ := h
  refine fw_cV_v (As := [.ref a_41]) (rest := []) ⟨hx, hb, hml, hown, hts⟩ (cc_X4_copyFrom l G hzd h) (⟨callB_of 1 hts ggX7_copyFrom_X4_copyFrom rfl rfl rfl (hts (.initialized RX4) (by decide +kernel)) (hts (.methodLink RX7 125 yX4_copyFrom) (by decide +kernel)) (by decide +kernel) ⟨Nat.le_of_ble_eq_true rfl, Nat.le_of_ble_eq_true rfl⟩, hts (.instanceMethod yX4_copyFrom) (by decide +kernel), hts (.selects RX4 yX4_copyFrom yX4_copyFrom) (by decide +kernel)⟩) rfl hrc_u_43 hK hZ hF hS hA rfl hl.1 rfl (Nat.le_of_ble_eq_true rfl) dX7_copyFrom_30 ⟨by show _ ≤ mc; omega, by show _ ≤ ms; omega⟩ (fun f_44 H locs h hF hS => ?_)
  obtain ⟨cs_47, hcs⟩ : ∃ z, z = (cs_37 + ga_45) := ⟨_, rfl⟩; obtain ⟨sl_48, hsl⟩ : ∃ z, z = (sl_38 + gb_46) := ⟨_, rfl⟩
  have hbc : cs_47 + (((mc - ga_25) - ga_35) - ga_45) ≤ mc := by omega
  have hbs : sl_48 + (((ms - gb_26) - gb_36) - gb_46) ≤ ms := by omega
  refine W.widen (k := cs_47) (n := sl_48) (by omega) (by omega) ?_
  clear hcs hsl
  refine lv_aload_n hx hb dX7_copyFrom_33 rfl (lv_at hl 0 rfl) ?_
  refine lv_aload_n hx hb dX7_copyFrom_34 rfl (lv_at hl 1 rfl) ?_
  obtain ⟨fs_50, v_49, he_fs_50, hv_fs_50, h⟩ := h
  refine fw_get (C := RX7) (T := TX7) (N := 8) hx hb hts hin_X7 hown hK hF he_fs_50 rfl 7 (by decide) (hts (.fieldLink RX7 51 "FrontCodedIndex$Tree" "capacity" "I") (by decide +kernel)) (fun _ h9 => h9) hv_fs_50 dX7_copyFrom_35 ?_
  obtain ⟨fs_51, he_fs_51, hl_fs_51, h⟩ := h
  refine fw_put (v := .int v_49) (ty := .int) (C := RX7) (T := TX7) (N := 8) hx hb hts hin_X7 tyX7 (tyX7_ok) nmX7 hown hK hF hS he_fs_51 rfl 7 (by decide) (hts (.fieldLink RX7 51 "FrontCodedIndex$Tree" "capacity" "I") (by decide +kernel)) (fun _ h9 => h9) rfl (by decide +kernel) rfl rfl hl_fs_51 dX7_copyFrom_38 (fun H locs hF hS => ?_)
  obtain ⟨f_52, hf_f_52⟩ : ∃ z, z = fup f_44 a0 (.inr (10, fs_51.set 7 (.int v_49))) := ⟨_, rfl⟩
  rw [← hf_f_52] at hF; have h := h f_52 hf_f_52
  refine lv_aload_n hx hb dX7_copyFrom_41 rfl (lv_at hl 0 rfl) ?_
  refine lv_iconst (v := (0 : Int32)) hx hb dX7_copyFrom_42 (by decide) ?_
  obtain ⟨fs_53, he_fs_53, hl_fs_53, h⟩ := h
  refine fw_put (v := .int (0 : Int32)) (ty := .int) (C := RX7) (T := TX7) (N := 8) hx hb hts hin_X7 tyX7 (tyX7_ok) nmX7 hown hK hF hS he_fs_53 rfl 6 (by decide) (hts (.fieldLink RX7 47 "FrontCodedIndex$Tree" "tierTotal" "I") (by decide +kernel)) (fun _ h9 => h9) rfl (by decide +kernel) rfl rfl hl_fs_53 dX7_copyFrom_43 (fun H locs hF hS => ?_)
  obtain ⟨f_54, hf_f_54⟩ : ∃ z, z = fup f_52 a0 (.inr (10, fs_53.set 6 (.int (0 : Int32)))) := ⟨_, rfl⟩
  rw [← hf_f_54] at hF; have h := h f_54 hf_f_54
  refine lv_iconst (v := (0 : Int32)) hx hb dX7_copyFrom_46 (by decide) ?_
  refine lv_istore_n (lv' := [(2, .int (0 : Int32)), (0, .ref a0), (1, .ref a1)]) hx hb dX7_copyFrom_47 rfl hl (by decide) rfl (fun ls hl => ?_)
  obtain ⟨n_55, h⟩ := h
  exact L48 n_55 (0 : Int32) f_54 (((mc - ga_25) - ga_35) - ga_45) (((ms - gb_26) - gb_36) - gb_46) _ _ _ _ _ h hbc hbs hF hS (lv_sub hl [1, 2, 0] rfl)
theorem dX7_init_0 : decode cX7_init 0 = .ok (.aload_n 0, 1) := by decide +kernel
theorem dX7_init_1 : decode cX7_init 1 = .ok (.invokespecial 3, 3) := by decide +kernel
theorem dX7_init_4 : decode cX7_init 4 = .ok (.aload_n 0, 1) := by decide +kernel
theorem dX7_init_5 : decode cX7_init 5 = .ok (.new 9, 3) := by decide +kernel
theorem dX7_init_8 : decode cX7_init 8 = .ok (.dup, 1) := by decide +kernel
theorem dX7_init_9 : decode cX7_init 9 = .ok (.invokespecial 11, 3) := by decide +kernel
theorem dX7_init_12 : decode cX7_init 12 = .ok (.putfield 12, 3) := by decide +kernel
theorem dX7_init_15 : decode cX7_init 15 = .ok (.aload_n 0, 1) := by decide +kernel
theorem dX7_init_16 : decode cX7_init 16 = .ok (.new 18, 3) := by decide +kernel
theorem dX7_init_19 : decode cX7_init 19 = .ok (.dup, 1) := by decide +kernel
theorem dX7_init_20 : decode cX7_init 20 = .ok (.invokespecial 20, 3) := by decide +kernel
theorem dX7_init_23 : decode cX7_init 23 = .ok (.putfield 21, 3) := by decide +kernel
theorem dX7_init_26 : decode cX7_init 26 = .ok (.aload_n 0, 1) := by decide +kernel
theorem dX7_init_27 : decode cX7_init 27 = .ok (.new 9, 3) := by decide +kernel
theorem dX7_init_30 : decode cX7_init 30 = .ok (.dup, 1) := by decide +kernel
theorem dX7_init_31 : decode cX7_init 31 = .ok (.invokespecial 11, 3) := by decide +kernel
theorem dX7_init_34 : decode cX7_init 34 = .ok (.putfield 25, 3) := by decide +kernel
theorem dX7_init_37 : decode cX7_init 37 = .ok (.aload_n 0, 1) := by decide +kernel
theorem dX7_init_38 : decode cX7_init 38 = .ok (.new 28, 3) := by decide +kernel
theorem dX7_init_41 : decode cX7_init 41 = .ok (.dup, 1) := by decide +kernel
theorem dX7_init_42 : decode cX7_init 42 = .ok (.invokespecial 30, 3) := by decide +kernel
theorem dX7_init_45 : decode cX7_init 45 = .ok (.putfield 31, 3) := by decide +kernel
theorem dX7_init_48 : decode cX7_init 48 = .ok (.aload_n 0, 1) := by decide +kernel
theorem dX7_init_49 : decode cX7_init 49 = .ok (.new 18, 3) := by decide +kernel
theorem dX7_init_52 : decode cX7_init 52 = .ok (.dup, 1) := by decide +kernel
theorem dX7_init_53 : decode cX7_init 53 = .ok (.invokespecial 20, 3) := by decide +kernel
theorem dX7_init_56 : decode cX7_init 56 = .ok (.putfield 35, 3) := by decide +kernel
theorem dX7_init_59 : decode cX7_init 59 = .ok (.aload_n 0, 1) := by decide +kernel
theorem dX7_init_60 : decode cX7_init 60 = .ok (.new 38, 3) := by decide +kernel
theorem dX7_init_63 : decode cX7_init 63 = .ok (.dup, 1) := by decide +kernel
theorem dX7_init_64 : decode cX7_init 64 = .ok (.iconst 0, 1) := by decide +kernel
theorem dX7_init_65 : decode cX7_init 65 = .ok (.newarray .byte, 2) := by decide +kernel
theorem dX7_init_67 : decode cX7_init 67 = .ok (.invokespecial 40, 3) := by decide +kernel
theorem dX7_init_70 : decode cX7_init 70 = .ok (.putfield 43, 3) := by decide +kernel
theorem dX7_init_73 : decode cX7_init 73 = .ok (.aload_n 0, 1) := by decide +kernel
theorem dX7_init_74 : decode cX7_init 74 = .ok (.iconst 0, 1) := by decide +kernel
theorem dX7_init_75 : decode cX7_init 75 = .ok (.putfield 47, 3) := by decide +kernel
theorem dX7_init_78 : decode cX7_init 78 = .ok (.aload_n 0, 1) := by decide +kernel
theorem dX7_init_79 : decode cX7_init 79 = .ok (.bipush 96, 2) := by decide +kernel
theorem dX7_init_81 : decode cX7_init 81 = .ok (.putfield 51, 3) := by decide +kernel
theorem dX7_init_84 : decode cX7_init 84 = .ok (.aload_n 0, 1) := by decide +kernel
theorem dX7_init_85 : decode cX7_init 85 = .ok (.invokevirtual 54, 3) := by decide +kernel
theorem dX7_init_88 : decode cX7_init 88 = .ok (.iconst 0, 1) := by decide +kernel
theorem dX7_init_89 : decode cX7_init 89 = .ok (.invokevirtual 58, 3) := by decide +kernel
theorem dX7_init_92 : decode cX7_init 92 = .ok (.return_, 1) := by decide +kernel
set_option maxRecDepth 20000 in
theorem ggX7_init_Jx4a65c_init_da8c8 : GoodIn wsX7_init wsJx4a65c_init_da8c8 := goodIn_r _ [34, 35, 36, 37, 38, 39, 40, 41, 42, 43, 44, 45, 46, 2, 3, 176, 177, 178] (by decide +kernel) (by decide +kernel)
set_option maxRecDepth 20000 in
theorem ggX7_init_X2_append : GoodIn wsX7_init wsX2_append := goodIn_r _ [150, 57, 151, 152, 153, 10, 154, 56, 155, 156, 104, 157, 158, 159, 160, 161, 162, 163, 55, 115, 116, 90, 117, 118, 119, 120, 121, 174, 175] (by decide +kernel) (by decide +kernel)
set_option maxRecDepth 20000 in
theorem ggX7_init_X2_init : GoodIn wsX7_init wsX2_init := goodIn_r _ [53, 54, 2, 3, 55, 56, 57, 174, 175] (by decide +kernel) (by decide +kernel)
set_option maxRecDepth 20000 in
theorem ggX7_init_X3_init : GoodIn wsX7_init wsX3_init := goodIn_r _ [49, 50, 2, 3, 51, 179] (by decide +kernel) (by decide +kernel)
set_option maxRecDepth 20000 in
theorem ggX7_init_X4_init : GoodIn wsX7_init wsX4_init := goodIn_r _ [26, 27, 2, 3, 28, 14, 15, 29, 30, 19, 20, 21, 31, 32, 33, 34, 35, 36, 37, 38, 39, 40, 41, 42, 43, 44, 45, 46, 47, 48, 49, 50, 51, 176, 177, 178, 164, 165, 179] (by decide +kernel) (by decide +kernel)
set_option maxRecDepth 20000 in
theorem ggX7_init_X7_addTier : GoodIn wsX7_init wsX7_addTier := goodIn_r _ [64, 23, 16, 8, 9, 10, 65, 66, 67, 15, 68, 69, 52, 53, 54, 2, 3, 55, 56, 57, 70, 71, 72, 73, 74, 75, 36, 76, 77, 78, 79, 80, 81, 82, 83, 84, 85, 86, 87, 35, 88, 89, 90, 91, 92, 93, 94, 95, 96, 97, 98, 99, 100, 101, 102, 103, 104, 105, 106, 107, 108, 109, 110, 111, 112, 113, 114, 115, 116, 117, 118, 119, 120, 121, 122, 123, 124, 63, 125, 126, 17, 127, 128, 129, 130, 131, 132, 133, 134, 135, 136, 137, 138, 139, 140, 141, 142, 143, 144, 145, 146, 166, 167, 168, 169, 170, 171, 172, 173, 174, 175, 176, 177, 178] (by decide +kernel) (by decide +kernel)
def wp_X7_init (zd : Nat) (a0 : Nat) (f : FT) (mc ms : Nat) (K : FT → Prop) : Prop :=
  nO f 7 [.null, .null] 2 mc ms fun q_1 f_2 => ∃ ga_7 gb_8 : Nat, ga_7 ≤ (mc - 1) ∧ gb_8 ≤ (ms - 2) ∧ wp_X4_init zd q_1 f_2 ga_7 gb_8 (fun f_6 => pV f_6 a0 10 0 (.ref q_1) fun f_12 => nO f_12 5 [.null, .int 0] 2 ((mc - 1) - ga_7) ((ms - 2) - gb_8) fun q_13 f_14 => ∃ ga_19 gb_20 : Nat, ga_19 ≤ (((mc - 1) - ga_7) - 1) ∧ gb_20 ≤ (((ms - 2) - gb_8) - 2) ∧ wp_X2_init q_13 f_14 ga_19 gb_20 (fun f_18 => pV f_18 a0 10 1 (.ref q_13) fun f_24 => nO f_24 7 [.null, .null] 2 ((((mc - 1) - ga_7) - 1) - ga_19) ((((ms - 2) - gb_8) - 2) - gb_20) fun q_25 f_26 => ∃ ga_31 gb_32 : Nat, ga_31 ≤ (((((mc - 1) - ga_7) - 1) - ga_19) - 1) ∧ gb_32 ≤ (((((ms - 2) - gb_8) - 2) - gb_20) - 2) ∧ wp_X4_init zd q_25 f_26 ga_31 gb_32 (fun f_30 => pV f_30 a0 10 2 (.ref q_25) fun f_36 => nO f_36 2 [.int 0, .null, .int 0] 3 ((((((mc - 1) - ga_7) - 1) - ga_19) - 1) - ga_31) ((((((ms - 2) - gb_8) - 2) - gb_20) - 2) - gb_32) fun q_37 f_38 => wp_Jx4a65c_init_da8c8 zd q_37 f_38 (fun f_42 => pV f_42 a0 10 3 (.ref q_37) fun f_44 => nO f_44 5 [.null, .int 0] 2 (((((((mc - 1) - ga_7) - 1) - ga_19) - 1) - ga_31) - 1) (((((((ms - 2) - gb_8) - 2) - gb_20) - 2) - gb_32) - 3) fun q_45 f_46 => ∃ ga_51 gb_52 : Nat, ga_51 ≤ ((((((((mc - 1) - ga_7) - 1) - ga_19) - 1) - ga_31) - 1) - 1) ∧ gb_52 ≤ ((((((((ms - 2) - gb_8) - 2) - gb_20) - 2) - gb_32) - 3) - 2) ∧ wp_X2_init q_45 f_46 ga_51 gb_52 (fun f_50 => pV f_50 a0 10 4 (.ref q_45) fun f_56 => nO f_56 6 [.null] 1 (((((((((mc - 1) - ga_7) - 1) - ga_19) - 1) - ga_31) - 1) - 1) - ga_51) (((((((((ms - 2) - gb_8) - 2) - gb_20) - 2) - gb_32) - 3) - 2) - gb_52) fun q_57 f_58 => nA f_58 0 (0 : Int32) ((((((((((mc - 1) - ga_7) - 1) - ga_19) - 1) - ga_31) - 1) - 1) - ga_51) - 1) ((((((((((ms - 2) - gb_8) - 2) - gb_20) - 2) - gb_32) - 3) - 2) - gb_52) - 1) fun n_63 q_61 f_62 => wp_X3_init q_57 q_61 f_62 (fun f_67 => pV f_67 a0 10 5 (.ref q_57) fun f_69 => pV f_69 a0 10 6 (.int (0 : Int32)) fun f_71 => pV f_71 a0 10 7 (.int (96 : Int32)) fun f_73 => ∃ ga_76 gb_77 : Nat, ga_76 ≤ (((((((((((mc - 1) - ga_7) - 1) - ga_19) - 1) - ga_31) - 1) - 1) - ga_51) - 1) - 1) ∧ gb_77 ≤ (((((((((((ms - 2) - gb_8) - 2) - gb_20) - 2) - gb_32) - 3) - 2) - gb_52) - 1) - n_63) ∧ isO f_73 a0 10 ∧ wp_X7_addTier zd a0 f_73 ga_76 gb_77 (fun a_74 f_75 => ∃ ga_82 gb_83 : Nat, ga_82 ≤ ((((((((((((mc - 1) - ga_7) - 1) - ga_19) - 1) - ga_31) - 1) - 1) - ga_51) - 1) - 1) - ga_76) ∧ gb_83 ≤ ((((((((((((ms - 2) - gb_8) - 2) - gb_20) - 2) - gb_32) - 3) - 2) - gb_52) - 1) - n_63) - gb_77) ∧ isO f_75 a_74 5 ∧ wp_X2_append a_74 (0 : Int32) f_75 ga_82 gb_83 (fun f_81 => K f_81))))))))
set_option maxHeartbeats 4000000 in
set_option maxRecDepth 100000 in
theorem cc_X7_init (l : Launch) (G : GG) {zd : Nat} (hzd : G.2.2 0 = zd) {f : FT} {sz : Nat} {a0 : Nat} {mc ms : Nat} {K : FT → Prop} (h : wp_X7_init zd a0 f mc ms K) : Met l yX7_init wsX7_init ({ frames := 8, cells := mc, slots := ms, locals := 192 } : Room) (FP G [.ref a0] f sz) (va_Qv (fun f9 => K f9 : FT → Prop) (FB G (fA f sz)) (fA f sz)) mc ms (fA f sz) := by
  refine Met.ofW (cc := cX7_init) (maxL := 1) (ret := none) (by decide) rfl ?_
  intro p e s m args below meth c s₁ B hml hv
  obtain ⟨rfl, hsz, hF, hK, hZ⟩ := hv
  have hx := B.exec
  have hb := B.bytes
  have hr := B.returns
  have hts := atoms_spec (ws := wsX7_init) B.pre
  have hown : s.vm.findClass RX7 = some m.cls := findClass_of_methodNamed B.named
  have hlocks := B.notSynchronized
  have hin : meth.name = "<init>" := (name_of_methodNamed B.named B.method).1
  subst hsz
  have hF := hF.self (sz := s.heap.size)
  generalize hAe : fA f s.heap.size = A at hF hZ ⊢
  have hA : ∀ q : Nat, s.heap.size ≤ q → A q := fun q h => by rw [← hAe]; exact Or.inr h
  have hS : va_S A s.heap s.heap [] := va_S.rf
  have hZ9 : va_Z "java/util/ArrayList" "DEFAULTCAPACITY_EMPTY_ELEMENTDATA" "[Ljava/lang/Object;" (.ref zd) A s s.heap := by rw [← hzd]; exact hZ.1
  have hin_Jx4a65c : ∀ w ∈ wsJx4a65c0, w ∈ wsX7_init := by decide +kernel
  have hin_X2 : ∀ w ∈ wsX20, w ∈ wsX7_init := by decide +kernel
  have hin_X3 : ∀ w ∈ wsX30, w ∈ wsX7_init := by decide +kernel
  have hin_X4 : ∀ w ∈ wsX40, w ∈ wsX7_init := by decide +kernel
  have hin_X7 : ∀ w ∈ wsX70, w ∈ wsX7_init := by decide +kernel
  have hbc : 0 + mc ≤ mc := by omega
  have hbs : 0 + ms ≤ ms := by omega
  have hl := lv_entry ([.ref a0]) (n := 1) (Nat.le_of_ble_eq_true rfl)
  rw [lg_entry_eq]
  generalize (lg_sl ([.ref a0]) ++ List.replicate (1 - (lg_sl ([.ref a0])).length) Slot.unset).toArray = ls at hl ⊢
  have hl : lv_has ls 1 [(0, .ref a0)] := hl
  unfold wp_X7_init at h
  refine lv_aload_n hx hb dX7_init_0 rfl (lv_at hl 0 rfl) ?_
  refine W.objInit hx hb hown (hts (.methodLink RX7 3 objectInit) (by decide +kernel)) (hts (.instanceMethod objectInit) (by decide +kernel)) (hts (.code objectInit ⟨#[0xb1]⟩ 1 none) (by decide +kernel)) rfl (by rw [hml]; exact hl.1) rfl dX7_init_1 (Nat.le_of_ble_eq_true rfl) (Nat.le_of_ble_eq_true rfl) ?_
  refine W.eq (g2 := F0 m 4 ls []) rfl ?_
  refine lv_aload_n hx hb dX7_init_4 rfl (lv_at hl 0 rfl) ?_
  obtain ⟨hb1, hb2, h⟩ := h
  refine fw_new (ci := 7) (fs := [.null, .null]) (C := RX4) (T := TX4) (N := 2) hx hb hts hin_X4 tyX4 tyX4_ok hown (hts (.classLink RX7 9 RX4) (by decide +kernel)) (hts (.instantiable RX4 2) (by decide +kernel)) (hts (.initialized RX4) (by decide +kernel)) hK hF hS hA rfl (fun j hj => by rcases (show j = 0 ∨ j = 1 by omega) with rfl | rfl <;> rfl) (by show _ ≤ mc; omega) (by show _ ≤ ms; omega) dX7_init_5 (fun q_1 H hn_q_1 hF hS => ?_)
  obtain ⟨f_2, hf_f_2⟩ : ∃ z, z = fup f q_1 (.inr (7, [.null, .null])) := ⟨_, rfl⟩
  rw [← hf_f_2] at hF; have h := h q_1 hn_q_1 f_2 hf_f_2
  obtain ⟨cs_3, hcs⟩ : ∃ z, z = (0 + 1) := ⟨_, rfl⟩; obtain ⟨sl_4, hsl⟩ : ∃ z, z = (0 + 2) := ⟨_, rfl⟩
  have hbc : cs_3 + (mc - 1) ≤ mc := by omega
  have hbs : sl_4 + (ms - 2) ≤ ms := by omega
  refine W.widen (k := cs_3) (n := sl_4) (by omega) (by omega) ?_
  clear hcs hsl
  refine lv_dup hx hb dX7_init_8 rfl ?_
  obtain ⟨ga_7, gb_8, hga_ga_7, hgb_ga_7, h⟩ := h
  refine fw_cIN_v (As := []) (rest := [.ref q_1, .ref a0]) ⟨hx, hb, hml, hown, hts⟩ (cc_X4_init l G hzd h) (⟨va_cnB 0 hts ggX7_init_X4_init rfl rfl rfl (hZ.2.1 (.methodLinkNest RX7 11 yX4_init "FrontCodedIndex") (by decide +kernel)) (hts (.initialized RX4) (by decide +kernel)) (by decide +kernel) ⟨Nat.le_of_ble_eq_true rfl, Nat.le_of_ble_eq_true rfl⟩, rfl, hts (.instanceMethod yX4_init) (by decide +kernel)⟩) hK hZ hF hS hA rfl hl.1 rfl (Nat.le_of_ble_eq_true rfl) dX7_init_9 ⟨by show _ ≤ mc; omega, by show _ ≤ ms; omega⟩ (fun f_6 H locs h hF hS => ?_)
  obtain ⟨cs_9, hcs⟩ : ∃ z, z = (cs_3 + ga_7) := ⟨_, rfl⟩; obtain ⟨sl_10, hsl⟩ : ∃ z, z = (sl_4 + gb_8) := ⟨_, rfl⟩
  have hbc : cs_9 + ((mc - 1) - ga_7) ≤ mc := by omega
  have hbs : sl_10 + ((ms - 2) - gb_8) ≤ ms := by omega
  refine W.widen (k := cs_9) (n := sl_10) (by omega) (by omega) ?_
  clear hcs hsl
  obtain ⟨fs_11, he_fs_11, hl_fs_11, h⟩ := h
  refine fw_putF (v := .ref q_1) (ty := (.object "FrontCodedIndex$KeyRow")) (C := RX7) (T := TX7) (N := 8) hx hb hts hin_X7 tyX7 (tyX7_ok) nmX7 hown hK hF hS he_fs_11 rfl 0 (by decide) (hts (.fieldLink RX7 12 "FrontCodedIndex$Tree" "keys" "LFrontCodedIndex$KeyRow;") (by decide +kernel)) (fun _ h9 => h9) rfl hin rfl (by decide +kernel) rfl rfl hl_fs_11 dX7_init_12 (fun H locs hF hS => ?_)
  obtain ⟨f_12, hf_f_12⟩ : ∃ z, z = fup f_6 a0 (.inr (10, fs_11.set 0 (.ref q_1))) := ⟨_, rfl⟩
  rw [← hf_f_12] at hF; have h := h f_12 hf_f_12
  refine lv_aload_n hx hb dX7_init_15 rfl (lv_at hl 0 rfl) ?_
  obtain ⟨hb1, hb2, h⟩ := h
  refine fw_new (ci := 5) (fs := [.null, .int 0]) (C := RX2) (T := TX2) (N := 2) hx hb hts hin_X2 tyX2 tyX2_ok hown (hts (.classLink RX7 18 RX2) (by decide +kernel)) (hts (.instantiable RX2 2) (by decide +kernel)) (hts (.initialized RX2) (by decide +kernel)) hK hF hS hA rfl (fun j hj => by rcases (show j = 0 ∨ j = 1 by omega) with rfl | rfl <;> rfl) (by show _ ≤ mc; omega) (by show _ ≤ ms; omega) dX7_init_16 (fun q_13 H hn_q_13 hF hS => ?_)
  obtain ⟨f_14, hf_f_14⟩ : ∃ z, z = fup f_12 q_13 (.inr (5, [.null, .int 0])) := ⟨_, rfl⟩
  rw [← hf_f_14] at hF; have h := h q_13 hn_q_13 f_14 hf_f_14
  obtain ⟨cs_15, hcs⟩ : ∃ z, z = (cs_9 + 1) := ⟨_, rfl⟩; obtain ⟨sl_16, hsl⟩ : ∃ z, z = (sl_10 + 2) := ⟨_, rfl⟩
  have hbc : cs_15 + (((mc - 1) - ga_7) - 1) ≤ mc := by omega
  have hbs : sl_16 + (((ms - 2) - gb_8) - 2) ≤ ms := by omega
  refine W.widen (k := cs_15) (n := sl_16) (by omega) (by omega) ?_
  clear hcs hsl
  refine lv_dup hx hb dX7_init_19 rfl ?_
  obtain ⟨ga_19, gb_20, hga_ga_19, hgb_ga_19, h⟩ := h
  refine fw_cIN_v (As := []) (rest := [.ref q_13, .ref a0]) ⟨hx, hb, hml, hown, hts⟩ (cc_X2_init l G h) (⟨va_cnB 0 hts ggX7_init_X2_init rfl rfl rfl (hZ.2.1 (.methodLinkNest RX7 20 yX2_init "FrontCodedIndex") (by decide +kernel)) (hts (.initialized RX2) (by decide +kernel)) (by decide +kernel) ⟨Nat.le_of_ble_eq_true rfl, Nat.le_of_ble_eq_true rfl⟩, rfl, hts (.instanceMethod yX2_init) (by decide +kernel)⟩) hK hZ hF hS hA rfl hl.1 rfl (Nat.le_of_ble_eq_true rfl) dX7_init_20 ⟨by show _ ≤ mc; omega, by show _ ≤ ms; omega⟩ (fun f_18 H locs h hF hS => ?_)
  obtain ⟨cs_21, hcs⟩ : ∃ z, z = (cs_15 + ga_19) := ⟨_, rfl⟩; obtain ⟨sl_22, hsl⟩ : ∃ z, z = (sl_16 + gb_20) := ⟨_, rfl⟩
  have hbc : cs_21 + ((((mc - 1) - ga_7) - 1) - ga_19) ≤ mc := by omega
  have hbs : sl_22 + ((((ms - 2) - gb_8) - 2) - gb_20) ≤ ms := by omega
  refine W.widen (k := cs_21) (n := sl_22) (by omega) (by omega) ?_
  clear hcs hsl
  obtain ⟨fs_23, he_fs_23, hl_fs_23, h⟩ := h
  refine fw_putF (v := .ref q_13) (ty := (.object "FrontCodedIndex$IntRow")) (C := RX7) (T := TX7) (N := 8) hx hb hts hin_X7 tyX7 (tyX7_ok) nmX7 hown hK hF hS he_fs_23 rfl 1 (by decide) (hts (.fieldLink RX7 21 "FrontCodedIndex$Tree" "values" "LFrontCodedIndex$IntRow;") (by decide +kernel)) (fun _ h9 => h9) rfl hin rfl (by decide +kernel) rfl rfl hl_fs_23 dX7_init_23 (fun H locs hF hS => ?_)
  obtain ⟨f_24, hf_f_24⟩ : ∃ z, z = fup f_18 a0 (.inr (10, fs_23.set 1 (.ref q_13))) := ⟨_, rfl⟩
  rw [← hf_f_24] at hF; have h := h f_24 hf_f_24
  refine lv_aload_n hx hb dX7_init_26 rfl (lv_at hl 0 rfl) ?_
  obtain ⟨hb1, hb2, h⟩ := h
  refine fw_new (ci := 7) (fs := [.null, .null]) (C := RX4) (T := TX4) (N := 2) hx hb hts hin_X4 tyX4 tyX4_ok hown (hts (.classLink RX7 9 RX4) (by decide +kernel)) (hts (.instantiable RX4 2) (by decide +kernel)) (hts (.initialized RX4) (by decide +kernel)) hK hF hS hA rfl (fun j hj => by rcases (show j = 0 ∨ j = 1 by omega) with rfl | rfl <;> rfl) (by show _ ≤ mc; omega) (by show _ ≤ ms; omega) dX7_init_27 (fun q_25 H hn_q_25 hF hS => ?_)
  obtain ⟨f_26, hf_f_26⟩ : ∃ z, z = fup f_24 q_25 (.inr (7, [.null, .null])) := ⟨_, rfl⟩
  rw [← hf_f_26] at hF; have h := h q_25 hn_q_25 f_26 hf_f_26
  obtain ⟨cs_27, hcs⟩ : ∃ z, z = (cs_21 + 1) := ⟨_, rfl⟩; obtain ⟨sl_28, hsl⟩ : ∃ z, z = (sl_22 + 2) := ⟨_, rfl⟩
  have hbc : cs_27 + (((((mc - 1) - ga_7) - 1) - ga_19) - 1) ≤ mc := by omega
  have hbs : sl_28 + (((((ms - 2) - gb_8) - 2) - gb_20) - 2) ≤ ms := by omega
  refine W.widen (k := cs_27) (n := sl_28) (by omega) (by omega) ?_
  clear hcs hsl
  refine lv_dup hx hb dX7_init_30 rfl ?_
  obtain ⟨ga_31, gb_32, hga_ga_31, hgb_ga_31, h⟩ := h
  refine fw_cIN_v (As := []) (rest := [.ref q_25, .ref a0]) ⟨hx, hb, hml, hown, hts⟩ (cc_X4_init l G hzd h) (⟨va_cnB 0 hts ggX7_init_X4_init rfl rfl rfl (hZ.2.1 (.methodLinkNest RX7 11 yX4_init "FrontCodedIndex") (by decide +kernel)) (hts (.initialized RX4) (by decide +kernel)) (by decide +kernel) ⟨Nat.le_of_ble_eq_true rfl, Nat.le_of_ble_eq_true rfl⟩, rfl, hts (.instanceMethod yX4_init) (by decide +kernel)⟩) hK hZ hF hS hA rfl hl.1 rfl (Nat.le_of_ble_eq_true rfl) dX7_init_31 ⟨by show _ ≤ mc; omega, by show _ ≤ ms; omega⟩ (fun f_30 H locs h hF hS => ?_)
  obtain ⟨cs_33, hcs⟩ : ∃ z, z = (cs_27 + ga_31) := ⟨_, rfl⟩; obtain ⟨sl_34, hsl⟩ : ∃ z, z = (sl_28 + gb_32) := ⟨_, rfl⟩
  have hbc : cs_33 + ((((((mc - 1) - ga_7) - 1) - ga_19) - 1) - ga_31) ≤ mc := by omega
  have hbs : sl_34 + ((((((ms - 2) - gb_8) - 2) - gb_20) - 2) - gb_32) ≤ ms := by omega
  refine W.widen (k := cs_33) (n := sl_34) (by omega) (by omega) ?_
  clear hcs hsl
  obtain ⟨fs_35, he_fs_35, hl_fs_35, h⟩ := h
  refine fw_putF (v := .ref q_25) (ty := (.object "FrontCodedIndex$KeyRow")) (C := RX7) (T := TX7) (N := 8) hx hb hts hin_X7 tyX7 (tyX7_ok) nmX7 hown hK hF hS he_fs_35 rfl 2 (by decide) (hts (.fieldLink RX7 25 "FrontCodedIndex$Tree" "separators" "LFrontCodedIndex$KeyRow;") (by decide +kernel)) (fun _ h9 => h9) rfl hin rfl (by decide +kernel) rfl rfl hl_fs_35 dX7_init_34 (fun H locs hF hS => ?_)
  obtain ⟨f_36, hf_f_36⟩ : ∃ z, z = fup f_30 a0 (.inr (10, fs_35.set 2 (.ref q_25))) := ⟨_, rfl⟩
  rw [← hf_f_36] at hF; have h := h f_36 hf_f_36
  refine lv_aload_n hx hb dX7_init_37 rfl (lv_at hl 0 rfl) ?_
  obtain ⟨hb1, hb2, h⟩ := h
  refine fw_new (ci := 2) (fs := [.int 0, .null, .int 0]) (C := RJx4a65c) (T := TJx4a65c) (N := 3) hx hb hts hin_Jx4a65c tyJx4a65c tyJx4a65c_ok hown (hts (.classLink RX7 28 RJx4a65c) (by decide +kernel)) (hts (.instantiable RJx4a65c 3) (by decide +kernel)) (hts (.initialized RJx4a65c) (by decide +kernel)) hK hF hS hA rfl (fun j hj => by rcases (show j = 0 ∨ j = 1 ∨ j = 2 by omega) with rfl | rfl | rfl <;> rfl) (by show _ ≤ mc; omega) (by show _ ≤ ms; omega) dX7_init_38 (fun q_37 H hn_q_37 hF hS => ?_)
  obtain ⟨f_38, hf_f_38⟩ : ∃ z, z = fup f_36 q_37 (.inr (2, [.int 0, .null, .int 0])) := ⟨_, rfl⟩
  rw [← hf_f_38] at hF; have h := h q_37 hn_q_37 f_38 hf_f_38
  obtain ⟨cs_39, hcs⟩ : ∃ z, z = (cs_33 + 1) := ⟨_, rfl⟩; obtain ⟨sl_40, hsl⟩ : ∃ z, z = (sl_34 + 3) := ⟨_, rfl⟩
  have hbc : cs_39 + (((((((mc - 1) - ga_7) - 1) - ga_19) - 1) - ga_31) - 1) ≤ mc := by omega
  have hbs : sl_40 + (((((((ms - 2) - gb_8) - 2) - gb_20) - 2) - gb_32) - 3) ≤ ms := by omega
  refine W.widen (k := cs_39) (n := sl_40) (by omega) (by omega) ?_
  clear hcs hsl
  refine lv_dup hx hb dX7_init_41 rfl ?_
  refine fw_cI_v (As := []) (rest := [.ref q_37, .ref a0]) ⟨hx, hb, hml, hown, hts⟩ (cc_Jx4a65c_init_da8c8 l G hzd h) (⟨callB_of 0 hts ggX7_init_Jx4a65c_init_da8c8 rfl rfl rfl (hts (.initialized RJx4a65c) (by decide +kernel)) (hts (.methodLink RX7 30 yJx4a65c_init_da8c8) (by decide +kernel)) (by decide +kernel) ⟨Nat.le_of_ble_eq_true rfl, Nat.le_of_ble_eq_true rfl⟩, rfl, hts (.instanceMethod yJx4a65c_init_da8c8) (by decide +kernel)⟩) hK hZ hF hS hA rfl hl.1 rfl (Nat.le_of_ble_eq_true rfl) dX7_init_42 ⟨by show _ ≤ mc; omega, by show _ ≤ ms; omega⟩ (fun f_42 H locs h hF hS => ?_)
  simp only [Nat.add_zero]
  obtain ⟨fs_43, he_fs_43, hl_fs_43, h⟩ := h
  refine fw_putF (v := .ref q_37) (ty := (.object "java/util/ArrayList")) (C := RX7) (T := TX7) (N := 8) hx hb hts hin_X7 tyX7 (tyX7_ok) nmX7 hown hK hF hS he_fs_43 rfl 3 (by decide) (hts (.fieldLink RX7 31 "FrontCodedIndex$Tree" "tiers" "Ljava/util/ArrayList;") (by decide +kernel)) (fun _ h9 => h9) rfl hin rfl (by decide +kernel) rfl rfl hl_fs_43 dX7_init_45 (fun H locs hF hS => ?_)
  obtain ⟨f_44, hf_f_44⟩ : ∃ z, z = fup f_42 a0 (.inr (10, fs_43.set 3 (.ref q_37))) := ⟨_, rfl⟩
  rw [← hf_f_44] at hF; have h := h f_44 hf_f_44
  refine lv_aload_n hx hb dX7_init_48 rfl (lv_at hl 0 rfl) ?_
  obtain ⟨hb1, hb2, h⟩ := h
  refine fw_new (ci := 5) (fs := [.null, .int 0]) (C := RX2) (T := TX2) (N := 2) hx hb hts hin_X2 tyX2 tyX2_ok hown (hts (.classLink RX7 18 RX2) (by decide +kernel)) (hts (.instantiable RX2 2) (by decide +kernel)) (hts (.initialized RX2) (by decide +kernel)) hK hF hS hA rfl (fun j hj => by rcases (show j = 0 ∨ j = 1 by omega) with rfl | rfl <;> rfl) (by show _ ≤ mc; omega) (by show _ ≤ ms; omega) dX7_init_49 (fun q_45 H hn_q_45 hF hS => ?_)
  obtain ⟨f_46, hf_f_46⟩ : ∃ z, z = fup f_44 q_45 (.inr (5, [.null, .int 0])) := ⟨_, rfl⟩
  rw [← hf_f_46] at hF; have h := h q_45 hn_q_45 f_46 hf_f_46
  obtain ⟨cs_47, hcs⟩ : ∃ z, z = (cs_39 + 1) := ⟨_, rfl⟩; obtain ⟨sl_48, hsl⟩ : ∃ z, z = (sl_40 + 2) := ⟨_, rfl⟩
  have hbc : cs_47 + ((((((((mc - 1) - ga_7) - 1) - ga_19) - 1) - ga_31) - 1) - 1) ≤ mc := by omega
  have hbs : sl_48 + ((((((((ms - 2) - gb_8) - 2) - gb_20) - 2) - gb_32) - 3) - 2) ≤ ms := by omega
  refine W.widen (k := cs_47) (n := sl_48) (by omega) (by omega) ?_
  clear hcs hsl
  refine lv_dup hx hb dX7_init_52 rfl ?_
  obtain ⟨ga_51, gb_52, hga_ga_51, hgb_ga_51, h⟩ := h
  refine fw_cIN_v (As := []) (rest := [.ref q_45, .ref a0]) ⟨hx, hb, hml, hown, hts⟩ (cc_X2_init l G h) (⟨va_cnB 0 hts ggX7_init_X2_init rfl rfl rfl (hZ.2.1 (.methodLinkNest RX7 20 yX2_init "FrontCodedIndex") (by decide +kernel)) (hts (.initialized RX2) (by decide +kernel)) (by decide +kernel) ⟨Nat.le_of_ble_eq_true rfl, Nat.le_of_ble_eq_true rfl⟩, rfl, hts (.instanceMethod yX2_init) (by decide +kernel)⟩) hK hZ hF hS hA rfl hl.1 rfl (Nat.le_of_ble_eq_true rfl) dX7_init_53 ⟨by show _ ≤ mc; omega, by show _ ≤ ms; omega⟩ (fun f_50 H locs h hF hS => ?_)
  obtain ⟨cs_53, hcs⟩ : ∃ z, z = (cs_47 + ga_51) := ⟨_, rfl⟩; obtain ⟨sl_54, hsl⟩ : ∃ z, z = (sl_48 + gb_52) := ⟨_, rfl⟩
  have hbc : cs_53 + (((((((((mc - 1) - ga_7) - 1) - ga_19) - 1) - ga_31) - 1) - 1) - ga_51) ≤ mc := by omega
  have hbs : sl_54 + (((((((((ms - 2) - gb_8) - 2) - gb_20) - 2) - gb_32) - 3) - 2) - gb_52) ≤ ms := by omega
  refine W.widen (k := cs_53) (n := sl_54) (by omega) (by omega) ?_
  clear hcs hsl
  obtain ⟨fs_55, he_fs_55, hl_fs_55, h⟩ := h
  refine fw_putF (v := .ref q_45) (ty := (.object "FrontCodedIndex$IntRow")) (C := RX7) (T := TX7) (N := 8) hx hb hts hin_X7 tyX7 (tyX7_ok) nmX7 hown hK hF hS he_fs_55 rfl 4 (by decide) (hts (.fieldLink RX7 35 "FrontCodedIndex$Tree" "noTier" "LFrontCodedIndex$IntRow;") (by decide +kernel)) (fun _ h9 => h9) rfl hin rfl (by decide +kernel) rfl rfl hl_fs_55 dX7_init_56 (fun H locs hF hS => ?_)
  obtain ⟨f_56, hf_f_56⟩ : ∃ z, z = fup f_50 a0 (.inr (10, fs_55.set 4 (.ref q_45))) := ⟨_, rfl⟩
  rw [← hf_f_56] at hF; have h := h f_56 hf_f_56
  refine lv_aload_n hx hb dX7_init_59 rfl (lv_at hl 0 rfl) ?_
  obtain ⟨hb1, hb2, h⟩ := h
  refine fw_new (ci := 6) (fs := [.null]) (C := RX3) (T := TX3) (N := 1) hx hb hts hin_X3 tyX3 tyX3_ok hown (hts (.classLink RX7 38 RX3) (by decide +kernel)) (hts (.instantiable RX3 1) (by decide +kernel)) (hts (.initialized RX3) (by decide +kernel)) hK hF hS hA rfl (fun j hj => by rcases (show j = 0 by omega) with rfl <;> rfl) (by show _ ≤ mc; omega) (by show _ ≤ ms; omega) dX7_init_60 (fun q_57 H hn_q_57 hF hS => ?_)
  obtain ⟨f_58, hf_f_58⟩ : ∃ z, z = fup f_56 q_57 (.inr (6, [.null])) := ⟨_, rfl⟩
  rw [← hf_f_58] at hF; have h := h q_57 hn_q_57 f_58 hf_f_58
  obtain ⟨cs_59, hcs⟩ : ∃ z, z = (cs_53 + 1) := ⟨_, rfl⟩; obtain ⟨sl_60, hsl⟩ : ∃ z, z = (sl_54 + 1) := ⟨_, rfl⟩
  have hbc : cs_59 + ((((((((((mc - 1) - ga_7) - 1) - ga_19) - 1) - ga_31) - 1) - 1) - ga_51) - 1) ≤ mc := by omega
  have hbs : sl_60 + ((((((((((ms - 2) - gb_8) - 2) - gb_20) - 2) - gb_32) - 3) - 2) - gb_52) - 1) ≤ ms := by omega
  refine W.widen (k := cs_59) (n := sl_60) (by omega) (by omega) ?_
  clear hcs hsl
  refine lv_dup hx hb dX7_init_63 rfl ?_
  refine lv_iconst (v := (0 : Int32)) hx hb dX7_init_64 (by decide) ?_
  obtain ⟨hb0, n_63, hN, hb1, hb2, hb3, h⟩ := h
  refine fw_newa (atype := .byte) (a0 := (n_63, .inl fun _ => 0)) hx hb (hts (.arrayClass .byte) (by decide +kernel)) (ty := .byte) rfl 0 rfl va_RA_byte hK hF hS hA (fun cA => rfl) hb0 hN (by show _ * 1 ≤ _; omega) (by show _ ≤ mc; omega) (by show _ ≤ ms; omega) dX7_init_65 (fun q_61 H hn_q_61 hF hS => ?_)
  obtain ⟨f_62, hf_f_62⟩ : ∃ z, z = fup f_58 q_61 (.inl (0, (n_63, .inl fun _ => 0))) := ⟨_, rfl⟩
  rw [← hf_f_62] at hF; have h := h q_61 hn_q_61 f_62 hf_f_62
  obtain ⟨cs_64, hcs⟩ : ∃ z, z = (cs_59 + 1) := ⟨_, rfl⟩; obtain ⟨sl_65, hsl⟩ : ∃ z, z = (sl_60 + n_63) := ⟨_, rfl⟩
  have hbc : cs_64 + (((((((((((mc - 1) - ga_7) - 1) - ga_19) - 1) - ga_31) - 1) - 1) - ga_51) - 1) - 1) ≤ mc := by omega
  have hbs : sl_65 + (((((((((((ms - 2) - gb_8) - 2) - gb_20) - 2) - gb_32) - 3) - 2) - gb_52) - 1) - n_63) ≤ ms := by omega
  refine W.widen (k := cs_64) (n := sl_65) (by omega) (by omega) ?_
  clear hcs hsl
  refine fw_cI_v (As := [.ref q_61]) (rest := [.ref q_57, .ref a0]) ⟨hx, hb, hml, hown, hts⟩ (cc_X3_init l G h) (⟨callB_of 1 hts ggX7_init_X3_init rfl rfl rfl (hts (.initialized RX3) (by decide +kernel)) (hts (.methodLink RX7 40 yX3_init) (by decide +kernel)) (by decide +kernel) ⟨Nat.le_of_ble_eq_true rfl, Nat.le_of_ble_eq_true rfl⟩, rfl, hts (.instanceMethod yX3_init) (by decide +kernel)⟩) hK hZ hF hS hA rfl hl.1 rfl (Nat.le_of_ble_eq_true rfl) dX7_init_67 ⟨by show _ ≤ mc; omega, by show _ ≤ ms; omega⟩ (fun f_67 H locs h hF hS => ?_)
  simp only [Nat.add_zero]
  obtain ⟨fs_68, he_fs_68, hl_fs_68, h⟩ := h
  refine fw_putF (v := .ref q_57) (ty := (.object "FrontCodedIndex$Key")) (C := RX7) (T := TX7) (N := 8) hx hb hts hin_X7 tyX7 (tyX7_ok) nmX7 hown hK hF hS he_fs_68 rfl 5 (by decide) (hts (.fieldLink RX7 43 "FrontCodedIndex$Tree" "noKey" "LFrontCodedIndex$Key;") (by decide +kernel)) (fun _ h9 => h9) rfl hin rfl (by decide +kernel) rfl rfl hl_fs_68 dX7_init_70 (fun H locs hF hS => ?_)
  obtain ⟨f_69, hf_f_69⟩ : ∃ z, z = fup f_67 a0 (.inr (10, fs_68.set 5 (.ref q_57))) := ⟨_, rfl⟩
  rw [← hf_f_69] at hF; have h := h f_69 hf_f_69
  refine lv_aload_n hx hb dX7_init_73 rfl (lv_at hl 0 rfl) ?_
  refine lv_iconst (v := (0 : Int32)) hx hb dX7_init_74 (by decide) ?_
  obtain ⟨fs_70, he_fs_70, hl_fs_70, h⟩ := h
  refine fw_put (v := .int (0 : Int32)) (ty := .int) (C := RX7) (T := TX7) (N := 8) hx hb hts hin_X7 tyX7 (tyX7_ok) nmX7 hown hK hF hS he_fs_70 rfl 6 (by decide) (hts (.fieldLink RX7 47 "FrontCodedIndex$Tree" "tierTotal" "I") (by decide +kernel)) (fun _ h9 => h9) rfl (by decide +kernel) rfl rfl hl_fs_70 dX7_init_75 (fun H locs hF hS => ?_)
  obtain ⟨f_71, hf_f_71⟩ : ∃ z, z = fup f_69 a0 (.inr (10, fs_70.set 6 (.int (0 : Int32)))) := ⟨_, rfl⟩
  rw [← hf_f_71] at hF; have h := h f_71 hf_f_71
  refine lv_aload_n hx hb dX7_init_78 rfl (lv_at hl 0 rfl) ?_
  refine lv_bipush (v := (96 : Int32)) hx hb dX7_init_79 (by decide) ?_
  obtain ⟨fs_72, he_fs_72, hl_fs_72, h⟩ := h
  refine fw_put (v := .int (96 : Int32)) (ty := .int) (C := RX7) (T := TX7) (N := 8) hx hb hts hin_X7 tyX7 (tyX7_ok) nmX7 hown hK hF hS he_fs_72 rfl 7 (by decide) (hts (.fieldLink RX7 51 "FrontCodedIndex$Tree" "capacity" "I") (by decide +kernel)) (fun _ h9 => h9) rfl (by decide +kernel) rfl rfl hl_fs_72 dX7_init_81 (fun H locs hF hS => ?_)
  obtain ⟨f_73, hf_f_73⟩ : ∃ z, z = fup f_71 a0 (.inr (10, fs_72.set 7 (.int (96 : Int32)))) := ⟨_, rfl⟩
  rw [← hf_f_73] at hF; have h := h f_73 hf_f_73
  refine lv_aload_n hx hb dX7_init_84 rfl (lv_at hl 0 rfl) ?_
  obtain ⟨ga_76, gb_77, hga_ga_76, hgb_ga_76, h⟩ := h
  obtain ⟨⟨fs_a_74, hrc_a_74⟩, h⟩ := h
  refine fw_cV_q_w (As := []) (rest := []) ⟨hx, hb, hml, hown, hts⟩ (cc_X7_addTier l G hzd h) (⟨callB_of 0 hts ggX7_init_X7_addTier rfl rfl rfl (hts (.initialized RX7) (by decide +kernel)) (hts (.methodLink RX7 54 yX7_addTier) (by decide +kernel)) (by decide +kernel) ⟨Nat.le_of_ble_eq_true rfl, Nat.le_of_ble_eq_true rfl⟩, hts (.instanceMethod yX7_addTier) (by decide +kernel), hts (.selects RX7 yX7_addTier yX7_addTier) (by decide +kernel)⟩) rfl hrc_a_74 hK hZ hF hS hA rfl hl.1 rfl (Nat.le_of_ble_eq_true rfl) dX7_init_85 ⟨by show _ ≤ mc; omega, by show _ ≤ ms; omega⟩ (fun a_74 f_75 H locs h hF hS => ?_)
  obtain ⟨cs_78, hcs⟩ : ∃ z, z = (cs_64 + ga_76) := ⟨_, rfl⟩; obtain ⟨sl_79, hsl⟩ : ∃ z, z = (sl_65 + gb_77) := ⟨_, rfl⟩
  have hbc : cs_78 + ((((((((((((mc - 1) - ga_7) - 1) - ga_19) - 1) - ga_31) - 1) - 1) - ga_51) - 1) - 1) - ga_76) ≤ mc := by omega
  have hbs : sl_79 + ((((((((((((ms - 2) - gb_8) - 2) - gb_20) - 2) - gb_32) - 3) - 2) - gb_52) - 1) - n_63) - gb_77) ≤ ms := by omega
  refine W.widen (k := cs_78) (n := sl_79) (by omega) (by omega) ?_
  clear hcs hsl
  refine lv_iconst (v := (0 : Int32)) hx hb dX7_init_88 (by decide) ?_
  obtain ⟨ga_82, gb_83, hga_ga_82, hgb_ga_82, h⟩ := h
  obtain ⟨⟨fs_u_80, hrc_u_80⟩, h⟩ := h
  refine fw_cV_v (As := [.int (0 : Int32)]) (rest := []) ⟨hx, hb, hml, hown, hts⟩ (cc_X2_append l G h) (⟨callB_of 1 hts ggX7_init_X2_append rfl rfl rfl (hts (.initialized RX2) (by decide +kernel)) (hts (.methodLink RX7 58 yX2_append) (by decide +kernel)) (by decide +kernel) ⟨Nat.le_of_ble_eq_true rfl, Nat.le_of_ble_eq_true rfl⟩, hts (.instanceMethod yX2_append) (by decide +kernel), hts (.selects RX2 yX2_append yX2_append) (by decide +kernel)⟩) rfl hrc_u_80 hK hZ hF hS hA rfl hl.1 rfl (Nat.le_of_ble_eq_true rfl) dX7_init_89 ⟨by show _ ≤ mc; omega, by show _ ≤ ms; omega⟩ (fun f_81 H locs h hF hS => ?_)
  obtain ⟨cs_84, hcs⟩ : ∃ z, z = (cs_78 + ga_82) := ⟨_, rfl⟩; obtain ⟨sl_85, hsl⟩ : ∃ z, z = (sl_79 + gb_83) := ⟨_, rfl⟩
  have hbc : cs_84 + (((((((((((((mc - 1) - ga_7) - 1) - ga_19) - 1) - ga_31) - 1) - 1) - ga_51) - 1) - 1) - ga_76) - ga_82) ≤ mc := by omega
  have hbs : sl_85 + (((((((((((((ms - 2) - gb_8) - 2) - gb_20) - 2) - gb_32) - 3) - 2) - gb_52) - 1) - n_63) - gb_77) - gb_83) ≤ ms := by omega
  refine W.widen (k := cs_84) (n := sl_85) (by omega) (by omega) ?_
  clear hcs hsl
  refine W.widen (k := mc) (n := ms) (by omega) (by omega) ?_
  exact W.vret hx hb hr (fun t ht hW => ⟨⟨f_81, rfl, h, by rw [ht]; exact hF, FK.moved hW.alike hK⟩, hS.F ht⟩) hS.2.2 dX7_init_92
