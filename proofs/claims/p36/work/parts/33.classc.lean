theorem dX1_evenCut_0 : decode cX1_evenCut 0 = .ok (.aload_n 0, 1) := by decide +kernel
theorem dX1_evenCut_1 : decode cX1_evenCut 1 = .ok (.getfield 16, 3) := by decide +kernel
theorem dX1_evenCut_4 : decode cX1_evenCut 4 = .ok (.iload_n 1, 1) := by decide +kernel
theorem dX1_evenCut_5 : decode cX1_evenCut 5 = .ok (.iload_n 2, 1) := by decide +kernel
theorem dX1_evenCut_6 : decode cX1_evenCut 6 = .ok (.invokevirtual 99, 3) := by decide +kernel
theorem dX1_evenCut_9 : decode cX1_evenCut 9 = .ok (.istore_n 3, 1) := by decide +kernel
theorem dX1_evenCut_10 : decode cX1_evenCut 10 = .ok (.aload_n 0, 1) := by decide +kernel
theorem dX1_evenCut_11 : decode cX1_evenCut 11 = .ok (.getfield 16, 3) := by decide +kernel
theorem dX1_evenCut_14 : decode cX1_evenCut 14 = .ok (.iload_n 1, 1) := by decide +kernel
theorem dX1_evenCut_15 : decode cX1_evenCut 15 = .ok (.iload_n 2, 1) := by decide +kernel
theorem dX1_evenCut_16 : decode cX1_evenCut 16 = .ok (.invokevirtual 96, 3) := by decide +kernel
theorem dX1_evenCut_19 : decode cX1_evenCut 19 = .ok (.istore 4, 2) := by decide +kernel
theorem dX1_evenCut_21 : decode cX1_evenCut 21 = .ok (.iload_n 3, 1) := by decide +kernel
theorem dX1_evenCut_22 : decode cX1_evenCut 22 = .ok (.iconst 1, 1) := by decide +kernel
theorem dX1_evenCut_23 : decode cX1_evenCut 23 = .ok (.iadd, 1) := by decide +kernel
theorem dX1_evenCut_24 : decode cX1_evenCut 24 = .ok (.istore 5, 2) := by decide +kernel
theorem dX1_evenCut_26 : decode cX1_evenCut 26 = .ok (.iconst (-1), 1) := by decide +kernel
theorem dX1_evenCut_27 : decode cX1_evenCut 27 = .ok (.istore 6, 2) := by decide +kernel
theorem dX1_evenCut_29 : decode cX1_evenCut 29 = .ok (.iload_n 3, 1) := by decide +kernel
theorem dX1_evenCut_30 : decode cX1_evenCut 30 = .ok (.iconst 1, 1) := by decide +kernel
theorem dX1_evenCut_31 : decode cX1_evenCut 31 = .ok (.iadd, 1) := by decide +kernel
theorem dX1_evenCut_32 : decode cX1_evenCut 32 = .ok (.istore 7, 2) := by decide +kernel
theorem dX1_evenCut_34 : decode cX1_evenCut 34 = .ok (.iload 7, 2) := by decide +kernel
theorem dX1_evenCut_36 : decode cX1_evenCut 36 = .ok (.iload 4, 2) := by decide +kernel
theorem dX1_evenCut_38 : decode cX1_evenCut 38 = .ok (.if_icmp .ge 62, 3) := by decide +kernel
theorem dX1_evenCut_41 : decode cX1_evenCut 41 = .ok (.aload_n 0, 1) := by decide +kernel
theorem dX1_evenCut_42 : decode cX1_evenCut 42 = .ok (.getfield 16, 3) := by decide +kernel
theorem dX1_evenCut_45 : decode cX1_evenCut 45 = .ok (.iload_n 1, 1) := by decide +kernel
theorem dX1_evenCut_46 : decode cX1_evenCut 46 = .ok (.iload_n 3, 1) := by decide +kernel
theorem dX1_evenCut_47 : decode cX1_evenCut 47 = .ok (.iload 7, 2) := by decide +kernel
theorem dX1_evenCut_49 : decode cX1_evenCut 49 = .ok (.invokevirtual 102, 3) := by decide +kernel
theorem dX1_evenCut_52 : decode cX1_evenCut 52 = .ok (.istore 8, 2) := by decide +kernel
theorem dX1_evenCut_54 : decode cX1_evenCut 54 = .ok (.iload 8, 2) := by decide +kernel
theorem dX1_evenCut_56 : decode cX1_evenCut 56 = .ok (.aload_n 0, 1) := by decide +kernel
theorem dX1_evenCut_57 : decode cX1_evenCut 57 = .ok (.getfield 16, 3) := by decide +kernel
theorem dX1_evenCut_60 : decode cX1_evenCut 60 = .ok (.iload_n 1, 1) := by decide +kernel
theorem dX1_evenCut_61 : decode cX1_evenCut 61 = .ok (.iload 7, 2) := by decide +kernel
theorem dX1_evenCut_63 : decode cX1_evenCut 63 = .ok (.iload 4, 2) := by decide +kernel
theorem dX1_evenCut_65 : decode cX1_evenCut 65 = .ok (.invokevirtual 102, 3) := by decide +kernel
theorem dX1_evenCut_68 : decode cX1_evenCut 68 = .ok (.isub, 1) := by decide +kernel
theorem dX1_evenCut_69 : decode cX1_evenCut 69 = .ok (.invokestatic 131, 3) := by decide +kernel
theorem dX1_evenCut_72 : decode cX1_evenCut 72 = .ok (.istore 9, 2) := by decide +kernel
theorem dX1_evenCut_74 : decode cX1_evenCut 74 = .ok (.iload 6, 2) := by decide +kernel
theorem dX1_evenCut_76 : decode cX1_evenCut 76 = .ok (.ifCond .lt 10, 3) := by decide +kernel
theorem dX1_evenCut_79 : decode cX1_evenCut 79 = .ok (.iload 9, 2) := by decide +kernel
theorem dX1_evenCut_81 : decode cX1_evenCut 81 = .ok (.iload 6, 2) := by decide +kernel
theorem dX1_evenCut_83 : decode cX1_evenCut 83 = .ok (.if_icmp .ge 11, 3) := by decide +kernel
theorem dX1_evenCut_86 : decode cX1_evenCut 86 = .ok (.iload 9, 2) := by decide +kernel
theorem dX1_evenCut_88 : decode cX1_evenCut 88 = .ok (.istore 6, 2) := by decide +kernel
theorem dX1_evenCut_90 : decode cX1_evenCut 90 = .ok (.iload 7, 2) := by decide +kernel
theorem dX1_evenCut_92 : decode cX1_evenCut 92 = .ok (.istore 5, 2) := by decide +kernel
theorem dX1_evenCut_94 : decode cX1_evenCut 94 = .ok (.iinc 7 1, 3) := by decide +kernel
theorem dX1_evenCut_97 : decode cX1_evenCut 97 = .ok (.goto (-63), 3) := by decide +kernel
theorem dX1_evenCut_100 : decode cX1_evenCut 100 = .ok (.iload 5, 2) := by decide +kernel
theorem dX1_evenCut_102 : decode cX1_evenCut 102 = .ok (.ireturn, 1) := by decide +kernel
set_option maxRecDepth 20000 in
theorem ggX1_evenCut_X7_endOf : GoodIn wsX1_evenCut wsX7_endOf := goodIn_r _ [51, 11, 12, 13, 9, 14, 15, 16, 17, 18, 19, 20, 21, 22, 23, 24, 25, 26, 27, 28, 29, 30, 31, 32, 33, 34, 35, 36, 37, 38, 39, 40, 41, 42, 43, 44, 45, 46, 47, 87, 88, 89, 90, 91, 92, 93, 94, 95, 96, 97, 98, 99] (by decide +kernel) (by decide +kernel)
set_option maxRecDepth 20000 in
theorem ggX1_evenCut_X7_spanBytes : GoodIn wsX1_evenCut wsX7_spanBytes := goodIn_r _ [55, 56, 57, 58, 59, 60, 61, 62, 63, 64, 65, 66, 19, 20, 21, 22, 23, 67, 25, 26, 27, 28, 29, 30, 31, 32, 33, 34, 35, 36, 37, 38, 39, 40, 68, 69, 70, 9, 71, 72, 11, 12, 13, 14, 15, 16, 17, 18, 24, 41, 42, 43, 44, 45, 46, 47, 73, 74, 75, 76, 77, 78, 79, 80, 81, 82, 87, 88, 89, 90, 91, 92, 93, 94, 100, 101, 95, 96, 97, 98, 99, 102] (by decide +kernel) (by decide +kernel)
set_option maxRecDepth 20000 in
theorem ggX1_evenCut_X7_startOf : GoodIn wsX1_evenCut wsX7_startOf := goodIn_r _ [10, 11, 12, 13, 9, 14, 15, 16, 17, 18, 19, 20, 21, 22, 23, 24, 25, 26, 27, 28, 29, 30, 31, 32, 33, 34, 35, 36, 37, 38, 39, 40, 41, 42, 43, 44, 45, 46, 47, 87, 88, 89, 90, 91, 92, 93, 94, 95, 96, 97, 98, 99] (by decide +kernel) (by decide +kernel)
def wp_X1_evenCut_94 (a0 : Nat) (x1 : Int32) (y3 : Int32) (y4 : Int32) (y5 : Int32) (y6 : Int32) (y7 : Int32) (f : FT) (K : Int32 → Prop) (C34 : Int32 × Int32 × Int32 → Prop) : Prop :=
  ∀ v_1 : Int32, v_1 = y7 + 1 → C34 (y5, y6, v_1)
def wp_X1_evenCut_86 (a0 : Nat) (x1 : Int32) (y3 : Int32) (y4 : Int32) (y7 : Int32) (y9 : Int32) (f : FT) (K : Int32 → Prop) (C34 : Int32 × Int32 × Int32 → Prop) : Prop :=
  wp_X1_evenCut_94 a0 x1 y3 y4 y7 y9 y7 f K C34
def wp_X1_evenCut_34 (a0 : Nat) (x1 : Int32) (y3 : Int32) (y4 : Int32) (f : FT) (K : Int32 → Prop)  (C34 : Int32 × Int32 × Int32 → Prop) : Int32 × Int32 × Int32 → Prop := fun s9 => match s9 with
  | (y5, y6, y7) => ((y4 ≤ y7 → K y5) ∧
 (¬ (y4 ≤ y7) → gA f a0 4 0 fun a_4 => isO f a_4 10 ∧ wp_X7_spanBytes a_4 x1 y3 y7 f (fun r_6 => gA f a0 4 0 fun a_7 => isO f a_7 10 ∧ wp_X7_spanBytes a_7 x1 y7 y4 f (fun r_9 => ∀ v_10 : Int32, v_10 = (jabs (r_6 - r_9)) → ((y6 < (0 : Int32) → wp_X1_evenCut_86 a0 x1 y3 y4 y7 v_10 f K C34) ∧
 (¬ (y6 < (0 : Int32)) → ((y6 ≤ v_10 → wp_X1_evenCut_94 a0 x1 y3 y4 y5 y6 y7 f K C34) ∧
 (¬ (y6 ≤ v_10) → wp_X1_evenCut_86 a0 x1 y3 y4 y7 v_10 f K C34))))))))
def wp_X1_evenCut (a0 : Nat) (x1 : Int32) (x2 : Int32) (f : FT) (K : Int32 → Prop) : Prop :=
  gA f a0 4 0 fun a_13 => isO f a_13 10 ∧ wp_X7_startOf a_13 x1 x2 f (fun r_15 => gA f a0 4 0 fun a_16 => isO f a_16 10 ∧ wp_X7_endOf a_16 x1 x2 f (fun r_18 => ∀ v_19 : Int32, v_19 = (r_15 + (1 : Int32)) → ∀ v_21 : Int32, v_21 = (r_15 + (1 : Int32)) → ∃ n_23, loopW (wp_X1_evenCut_34 a0 x1 r_15 r_18 f K) n_23 (v_19, (-1 : Int32), v_21)))
set_option maxHeartbeats 4000000 in
set_option maxRecDepth 100000 in
theorem cc_X1_evenCut (l : Launch) (G : GG) {f : FT} {sz : Nat} {a0 : Nat} {x1 : Int32} {x2 : Int32} {K : Int32 → Prop} (h : wp_X1_evenCut a0 x1 x2 f K) : Met l yX1_evenCut wsX1_evenCut ({ frames := 6, cells := 0, slots := 0, locals := 139 } : Room) (FP G [.ref a0, .int x1, .int x2] f sz) (va_Qi (fun r f9 => K r ∧ f9 = f : Int32 → FT → Prop) (FB G (fA f sz)) (fA f sz)) 0 0 (fA f sz) := by
  refine Met.ofW (cc := cX1_evenCut) (maxL := 10) (ret := (some .int)) (by decide) rfl ?_
  intro p e s m args below meth c s₁ B hml hv
  obtain ⟨rfl, hsz, hF, hK, hZ⟩ := hv
  have hx := B.exec
  have hb := B.bytes
  have hr := B.returns
  have hts := atoms_spec (ws := wsX1_evenCut) B.pre
  have hown : s.vm.findClass RX1 = some m.cls := findClass_of_methodNamed B.named
  have hlocks := B.notSynchronized
  subst hsz
  have hF := hF.self (sz := s.heap.size)
  generalize hAe : fA f s.heap.size = A at hF hZ ⊢
  have hA : ∀ q : Nat, s.heap.size ≤ q → A q := fun q h => by rw [← hAe]; exact Or.inr h
  have hS : va_S A s.heap s.heap [] := va_S.rf
  have hin_X1 : ∀ w ∈ wsX10, w ∈ wsX1_evenCut := by decide +kernel
  have L34 : ∀ (y3 : Int32) (y4 : Int32) (j9 : Nat) (y5 : Int32) (y6 : Int32) (y7 : Int32) (H : Heap) (locs : List Loc) (ls : Array Slot), loopW (wp_X1_evenCut_34 a0 x1 y3 y4 f K ) j9 (y5, y6, y7) → Fw G A f H → va_S A s.heap H locs → lv_has ls 10 [(0, .ref a0), (1, .int x1), (3, .int y3), (4, .int y4), (5, .int y5), (6, .int y6), (7, .int y7)] → W p l e ({ frames := 6, cells := 0, slots := 0, locals := 139 } : Room) s m ([.ref a0, .int x1, .int x2] : List Value).toArray below meth c H locs 0 0 (MQ below (va_Qi (fun r f9 => K r ∧ f9 = f : Int32 → FT → Prop) (FB G A) A) ([.ref a0, .int x1, .int x2] : List Value).toArray s 0 0 A) (F0 m 34 ls []) := by
    intro y3 y4 j9
    induction j9 with
    | zero => intro y5 y6 y7 H locs ls h; exact h.elim
    | succ j9 ih34 =>
      intro y5 y6 y7 H locs ls h hF hS hl
      have h : wp_X1_evenCut_34 a0 x1 y3 y4 f K  (loopW (wp_X1_evenCut_34 a0 x1 y3 y4 f K ) j9) (y5, y6, y7) := h
      generalize loopW (wp_X1_evenCut_34 a0 x1 y3 y4 f K ) j9 = C34 at ih34 h
      unfold wp_X1_evenCut_34 at h
      have J94 : ∀ (y5 : Int32) (y6 : Int32) (y7 : Int32) (H : Heap) (locs : List Loc) (ls : Array Slot), wp_X1_evenCut_94 a0 x1 y3 y4 y5 y6 y7 f K C34 → Fw G A f H → va_S A s.heap H locs → lv_has ls 10 [(0, .ref a0), (1, .int x1), (3, .int y3), (4, .int y4), (5, .int y5), (6, .int y6), (7, .int y7)] → W p l e ({ frames := 6, cells := 0, slots := 0, locals := 139 } : Room) s m ([.ref a0, .int x1, .int x2] : List Value).toArray below meth c H locs 0 0 (MQ below (va_Qi (fun r f9 => K r ∧ f9 = f : Int32 → FT → Prop) (FB G A) A) ([.ref a0, .int x1, .int x2] : List Value).toArray s 0 0 A) (F0 m 94 ls []) := by
        intro y5 y6 y7 H locs ls h hF hS hl
        unfold wp_X1_evenCut_94 at h
        obtain ⟨v_1, e_2⟩ : ∃ y : Int32, y = y7 + 1 := ⟨_, rfl⟩
        have h := h v_1 e_2
        refine lv_iinc (v := v_1) (lv' := [(7, .int v_1), (0, .ref a0), (1, .int x1), (3, .int y3), (4, .int y4), (5, .int y5), (6, .int y6)]) hx hb dX1_evenCut_94 hl (k := 6) rfl (by rw [e_2]; rfl) (by decide) rfl (fun ls hl => ?_)
        refine lv_goto (tgt := 34) hx hb dX1_evenCut_97 (by decide) ?_
        exact ih34 y5 y6 v_1 _ _ _ h hF hS (lv_sub hl [1, 2, 3, 4, 5, 6, 0] rfl)
      have J86 : ∀ (y7 : Int32) (y9 : Int32) (H : Heap) (locs : List Loc) (ls : Array Slot), wp_X1_evenCut_86 a0 x1 y3 y4 y7 y9 f K C34 → Fw G A f H → va_S A s.heap H locs → lv_has ls 10 [(0, .ref a0), (1, .int x1), (3, .int y3), (4, .int y4), (7, .int y7), (9, .int y9)] → W p l e ({ frames := 6, cells := 0, slots := 0, locals := 139 } : Room) s m ([.ref a0, .int x1, .int x2] : List Value).toArray below meth c H locs 0 0 (MQ below (va_Qi (fun r f9 => K r ∧ f9 = f : Int32 → FT → Prop) (FB G A) A) ([.ref a0, .int x1, .int x2] : List Value).toArray s 0 0 A) (F0 m 86 ls []) := by
        intro y7 y9 H locs ls h hF hS hl
        unfold wp_X1_evenCut_86 at h
        refine lv_iload hx hb dX1_evenCut_86 (lv_at hl 5 rfl) ?_
        refine lv_istore (lv' := [(6, .int y9), (0, .ref a0), (1, .int x1), (3, .int y3), (4, .int y4), (7, .int y7), (9, .int y9)]) hx hb dX1_evenCut_88 hl (by decide) rfl (fun ls hl => ?_)
        refine lv_iload hx hb dX1_evenCut_90 (lv_at hl 5 rfl) ?_
        refine lv_istore (lv' := [(5, .int y7), (6, .int y9), (0, .ref a0), (1, .int x1), (3, .int y3), (4, .int y4), (7, .int y7), (9, .int y9)]) hx hb dX1_evenCut_92 hl (by decide) rfl (fun ls hl => ?_)
        exact J94 y7 y9 y7 _ _ _ h hF hS (lv_sub hl [2, 3, 4, 5, 0, 1, 6] rfl)
      refine lv_iload hx hb dX1_evenCut_34 (lv_at hl 6 rfl) ?_
      refine lv_iload hx hb dX1_evenCut_36 (lv_at hl 3 rfl) ?_
      obtain ⟨h1, h2⟩ := h
      refine lv_icmp_ge (tgt := 100) hx hb dX1_evenCut_38 (by decide) (fun c_3 => ?_) (fun c_3 => ?_)
      · have h := h1 c_3
        refine lv_iload hx hb dX1_evenCut_100 (lv_at hl 4 rfl) ?_
        exact W.iret (v := y5) hx hb hr (fun t ht hW => ⟨⟨y5, f, rfl, ⟨h, rfl⟩, by rw [ht]; exact hF, FK.moved hW.alike hK⟩, hS.F ht⟩) hS.2.2 dX1_evenCut_102
      · have h := h2 c_3
        refine lv_aload_n hx hb dX1_evenCut_41 rfl (lv_at hl 0 rfl) ?_
        obtain ⟨fs_5, a_4, he_fs_5, hv_fs_5, h⟩ := h
        refine fw_get (C := RX1) (T := TX1) (N := 4) hx hb hts hin_X1 hown hK hF he_fs_5 rfl 0 (by decide) (hts (.fieldLink RX1 16 "FrontCodedIndex$Inserter" "tree" "LFrontCodedIndex$Tree;") (by decide +kernel)) (fun _ h9 => h9) hv_fs_5 dX1_evenCut_42 ?_
        refine lv_iload_n hx hb dX1_evenCut_45 rfl (lv_at hl 1 rfl) ?_
        refine lv_iload_n hx hb dX1_evenCut_46 rfl (lv_at hl 2 rfl) ?_
        refine lv_iload hx hb dX1_evenCut_47 (lv_at hl 6 rfl) ?_
        obtain ⟨⟨fs_r_6, hrc_r_6⟩, h⟩ := h
        refine fw_cV_i_p (As := [.int x1, .int y3, .int y7]) (rest := []) ⟨hx, hb, hml, hown, hts⟩ (cc_X7_spanBytes l G h) (⟨callB_of 3 hts ggX1_evenCut_X7_spanBytes rfl rfl rfl (hts (.initialized RX7) (by decide +kernel)) (hts (.methodLink RX1 102 yX7_spanBytes) (by decide +kernel)) (by decide +kernel) ⟨Nat.le_of_ble_eq_true rfl, Nat.le_of_ble_eq_true rfl⟩, hts (.instanceMethod yX7_spanBytes) (by decide +kernel), hts (.selects RX7 yX7_spanBytes yX7_spanBytes) (by decide +kernel)⟩) rfl hrc_r_6 hK hZ hF hS hA rfl hl.1 rfl (Nat.le_of_ble_eq_true rfl) dX1_evenCut_49 ⟨Nat.zero_le _, Nat.zero_le _⟩ (fun r_6 H locs h hF hS => ?_)
        refine lv_istore (lv' := [(8, .int r_6), (0, .ref a0), (1, .int x1), (3, .int y3), (4, .int y4), (5, .int y5), (6, .int y6), (7, .int y7)]) hx hb dX1_evenCut_52 hl (by decide) rfl (fun ls hl => ?_)
        refine lv_iload hx hb dX1_evenCut_54 (lv_at hl 0 rfl) ?_
        refine lv_aload_n hx hb dX1_evenCut_56 rfl (lv_at hl 1 rfl) ?_
        obtain ⟨fs_8, a_7, he_fs_8, hv_fs_8, h⟩ := h
        refine fw_get (C := RX1) (T := TX1) (N := 4) hx hb hts hin_X1 hown hK hF he_fs_8 rfl 0 (by decide) (hts (.fieldLink RX1 16 "FrontCodedIndex$Inserter" "tree" "LFrontCodedIndex$Tree;") (by decide +kernel)) (fun _ h9 => h9) hv_fs_8 dX1_evenCut_57 ?_
        refine lv_iload_n hx hb dX1_evenCut_60 rfl (lv_at hl 2 rfl) ?_
        refine lv_iload hx hb dX1_evenCut_61 (lv_at hl 7 rfl) ?_
        refine lv_iload hx hb dX1_evenCut_63 (lv_at hl 4 rfl) ?_
        obtain ⟨⟨fs_r_9, hrc_r_9⟩, h⟩ := h
        refine fw_cV_i_p (As := [.int x1, .int y7, .int y4]) (rest := [.int r_6]) ⟨hx, hb, hml, hown, hts⟩ (cc_X7_spanBytes l G h) (⟨callB_of 3 hts ggX1_evenCut_X7_spanBytes rfl rfl rfl (hts (.initialized RX7) (by decide +kernel)) (hts (.methodLink RX1 102 yX7_spanBytes) (by decide +kernel)) (by decide +kernel) ⟨Nat.le_of_ble_eq_true rfl, Nat.le_of_ble_eq_true rfl⟩, hts (.instanceMethod yX7_spanBytes) (by decide +kernel), hts (.selects RX7 yX7_spanBytes yX7_spanBytes) (by decide +kernel)⟩) rfl hrc_r_9 hK hZ hF hS hA rfl hl.1 rfl (Nat.le_of_ble_eq_true rfl) dX1_evenCut_65 ⟨Nat.zero_le _, Nat.zero_le _⟩ (fun r_9 H locs h hF hS => ?_)
        refine lv_isub hx hb dX1_evenCut_68 ?_
        refine va_mabs hx hb (hml.trans hl.1.symm) hown (hts (.methodLink RX1 131 Lib.Math.abs.name) (by decide +kernel)) (hts (.static Lib.Math.abs.name) (by decide +kernel)) (hts (.initialized "java/lang/Math") (by decide +kernel)) (hts (.code Lib.Math.abs.name Lib.Math.abs.code 1 (some .int)) (by decide +kernel)) (Nat.le_of_ble_eq_true rfl) (Nat.le_of_ble_eq_true rfl) (Nat.zero_le _) (Nat.zero_le _) dX1_evenCut_69 ?_
        refine lv_topi (fun v_10 e_v_10 => ?_)
        have h := h v_10 e_v_10
        refine lv_istore (lv' := [(9, .int v_10), (8, .int r_6), (0, .ref a0), (1, .int x1), (3, .int y3), (4, .int y4), (5, .int y5), (6, .int y6), (7, .int y7)]) hx hb dX1_evenCut_72 hl (by decide) rfl (fun ls hl => ?_)
        refine lv_iload hx hb dX1_evenCut_74 (lv_at hl 7 rfl) ?_
        obtain ⟨h1, h2⟩ := h
        refine lv_if_lt (tgt := 86) hx hb dX1_evenCut_76 (by decide) (fun c_11 => ?_) (fun c_11 => ?_)
        · have h := h1 c_11
          exact J86 y7 v_10 _ _ _ h hF hS (lv_sub hl [2, 3, 4, 5, 8, 0] rfl)
        · have h := h2 c_11
          refine lv_iload hx hb dX1_evenCut_79 (lv_at hl 0 rfl) ?_
          refine lv_iload hx hb dX1_evenCut_81 (lv_at hl 7 rfl) ?_
          obtain ⟨h1, h2⟩ := h
          refine lv_icmp_ge (tgt := 94) hx hb dX1_evenCut_83 (by decide) (fun c_12 => ?_) (fun c_12 => ?_)
          · have h := h1 c_12
            exact J94 y5 y6 y7 _ _ _ h hF hS (lv_sub hl [2, 3, 4, 5, 6, 7, 8] rfl)
          · have h := h2 c_12
            exact J86 y7 v_10 _ _ _ h hF hS (lv_sub hl [2, 3, 4, 5, 8, 0] rfl)
  have hl := lv_entry ([.ref a0, .int x1, .int x2]) (n := 10) (Nat.le_of_ble_eq_true rfl)
  rw [lg_entry_eq]
  generalize (lg_sl ([.ref a0, .int x1, .int x2]) ++ List.replicate (10 - (lg_sl ([.ref a0, .int x1, .int x2])).length) Slot.unset).toArray = ls at hl ⊢
  have hl : lv_has ls 10 [(0, .ref a0), (1, .int x1), (2, .int x2)] := hl
  unfold wp_X1_evenCut at h
  refine lv_aload_n hx hb dX1_evenCut_0 rfl (lv_at hl 0 rfl) ?_
  obtain ⟨fs_14, a_13, he_fs_14, hv_fs_14, h⟩ := h
  refine fw_get (C := RX1) (T := TX1) (N := 4) hx hb hts hin_X1 hown hK hF he_fs_14 rfl 0 (by decide) (hts (.fieldLink RX1 16 "FrontCodedIndex$Inserter" "tree" "LFrontCodedIndex$Tree;") (by decide +kernel)) (fun _ h9 => h9) hv_fs_14 dX1_evenCut_1 ?_
  refine lv_iload_n hx hb dX1_evenCut_4 rfl (lv_at hl 1 rfl) ?_
  refine lv_iload_n hx hb dX1_evenCut_5 rfl (lv_at hl 2 rfl) ?_
  obtain ⟨⟨fs_r_15, hrc_r_15⟩, h⟩ := h
  refine fw_cV_i_p (As := [.int x1, .int x2]) (rest := []) ⟨hx, hb, hml, hown, hts⟩ (cc_X7_startOf l G h) (⟨callB_of 2 hts ggX1_evenCut_X7_startOf rfl rfl rfl (hts (.initialized RX7) (by decide +kernel)) (hts (.methodLink RX1 99 yX7_startOf) (by decide +kernel)) (by decide +kernel) ⟨Nat.le_of_ble_eq_true rfl, Nat.le_of_ble_eq_true rfl⟩, hts (.instanceMethod yX7_startOf) (by decide +kernel), hts (.selects RX7 yX7_startOf yX7_startOf) (by decide +kernel)⟩) rfl hrc_r_15 hK hZ hF hS hA rfl hl.1 rfl (Nat.le_of_ble_eq_true rfl) dX1_evenCut_6 ⟨Nat.zero_le _, Nat.zero_le _⟩ (fun r_15 H locs h hF hS => ?_)
  refine lv_istore_n (lv' := [(3, .int r_15), (0, .ref a0), (1, .int x1), (2, .int x2)]) hx hb dX1_evenCut_9 rfl hl (by decide) rfl (fun ls hl => ?_)
  refine lv_aload_n hx hb dX1_evenCut_10 rfl (lv_at hl 1 rfl) ?_
  obtain ⟨fs_17, a_16, he_fs_17, hv_fs_17, h⟩ := h
  refine fw_get (C := RX1) (T := TX1) (N := 4) hx hb hts hin_X1 hown hK hF he_fs_17 rfl 0 (by decide) (hts (.fieldLink RX1 16 "FrontCodedIndex$Inserter" "tree" "LFrontCodedIndex$Tree;") (by decide +kernel)) (fun _ h9 => h9) hv_fs_17 dX1_evenCut_11 ?_
  refine lv_iload_n hx hb dX1_evenCut_14 rfl (lv_at hl 2 rfl) ?_
  refine lv_iload_n hx hb dX1_evenCut_15 rfl (lv_at hl 3 rfl) ?_
  obtain ⟨⟨fs_r_18, hrc_r_18⟩, h⟩ := h
  refine fw_cV_i_p (As := [.int x1, .int x2]) (rest := []) ⟨hx, hb, hml, hown, hts⟩ (cc_X7_endOf l G h) (⟨callB_of 2 hts ggX1_evenCut_X7_endOf rfl rfl rfl (hts (.initialized RX7) (by decide +kernel)) (hts (.methodLink RX1 96 yX7_endOf) (by decide +kernel)) (by decide +kernel) ⟨Nat.le_of_ble_eq_true rfl, Nat.le_of_ble_eq_true rfl⟩, hts (.instanceMethod yX7_endOf) (by decide +kernel), hts (.selects RX7 yX7_endOf yX7_endOf) (by decide +kernel)⟩) rfl hrc_r_18 hK hZ hF hS hA rfl hl.1 rfl (Nat.le_of_ble_eq_true rfl) dX1_evenCut_16 ⟨Nat.zero_le _, Nat.zero_le _⟩ (fun r_18 H locs h hF hS => ?_)
  refine lv_istore (lv' := [(4, .int r_18), (3, .int r_15), (0, .ref a0), (1, .int x1), (2, .int x2)]) hx hb dX1_evenCut_19 hl (by decide) rfl (fun ls hl => ?_)
  refine lv_iload_n hx hb dX1_evenCut_21 rfl (lv_at hl 1 rfl) ?_
  refine lv_iconst (v := (1 : Int32)) hx hb dX1_evenCut_22 (by decide) ?_
  refine lv_iadd hx hb dX1_evenCut_23 ?_
  refine lv_topi (fun v_19 e_20 => ?_)
  have h := h v_19 e_20
  refine lv_istore (lv' := [(5, .int v_19), (4, .int r_18), (3, .int r_15), (0, .ref a0), (1, .int x1), (2, .int x2)]) hx hb dX1_evenCut_24 hl (by decide) rfl (fun ls hl => ?_)
  refine lv_iconst (v := (-1 : Int32)) hx hb dX1_evenCut_26 (by decide) ?_
  refine lv_istore (lv' := [(6, .int (-1 : Int32)), (5, .int v_19), (4, .int r_18), (3, .int r_15), (0, .ref a0), (1, .int x1), (2, .int x2)]) hx hb dX1_evenCut_27 hl (by decide) rfl (fun ls hl => ?_)
  refine lv_iload_n hx hb dX1_evenCut_29 rfl (lv_at hl 3 rfl) ?_
  refine lv_iconst (v := (1 : Int32)) hx hb dX1_evenCut_30 (by decide) ?_
  refine lv_iadd hx hb dX1_evenCut_31 ?_
  refine lv_topi (fun v_21 e_22 => ?_)
  have h := h v_21 e_22
  refine lv_istore (lv' := [(7, .int v_21), (6, .int (-1 : Int32)), (5, .int v_19), (4, .int r_18), (3, .int r_15), (0, .ref a0), (1, .int x1), (2, .int x2)]) hx hb dX1_evenCut_32 hl (by decide) rfl (fun ls hl => ?_)
  obtain ⟨n_23, h⟩ := h
  exact L34 r_15 r_18 n_23 v_19 (-1 : Int32) v_21 _ _ _ h hF hS (lv_sub hl [5, 6, 4, 3, 2, 1, 0] rfl)
theorem dX2_countNotAbove_0 : decode cX2_countNotAbove 0 = .ok (.iconst 0, 1) := by decide +kernel
theorem dX2_countNotAbove_1 : decode cX2_countNotAbove 1 = .ok (.istore_n 2, 1) := by decide +kernel
theorem dX2_countNotAbove_2 : decode cX2_countNotAbove 2 = .ok (.aload_n 0, 1) := by decide +kernel
theorem dX2_countNotAbove_3 : decode cX2_countNotAbove 3 = .ok (.getfield 13, 3) := by decide +kernel
theorem dX2_countNotAbove_6 : decode cX2_countNotAbove 6 = .ok (.istore_n 3, 1) := by decide +kernel
theorem dX2_countNotAbove_7 : decode cX2_countNotAbove 7 = .ok (.iload_n 2, 1) := by decide +kernel
theorem dX2_countNotAbove_8 : decode cX2_countNotAbove 8 = .ok (.iload_n 3, 1) := by decide +kernel
theorem dX2_countNotAbove_9 : decode cX2_countNotAbove 9 = .ok (.if_icmp .ge 34, 3) := by decide +kernel
theorem dX2_countNotAbove_12 : decode cX2_countNotAbove 12 = .ok (.iload_n 2, 1) := by decide +kernel
theorem dX2_countNotAbove_13 : decode cX2_countNotAbove 13 = .ok (.iload_n 3, 1) := by decide +kernel
theorem dX2_countNotAbove_14 : decode cX2_countNotAbove 14 = .ok (.iadd, 1) := by decide +kernel
theorem dX2_countNotAbove_15 : decode cX2_countNotAbove 15 = .ok (.iconst 2, 1) := by decide +kernel
theorem dX2_countNotAbove_16 : decode cX2_countNotAbove 16 = .ok (.idiv, 1) := by decide +kernel
theorem dX2_countNotAbove_17 : decode cX2_countNotAbove 17 = .ok (.istore 4, 2) := by decide +kernel
theorem dX2_countNotAbove_19 : decode cX2_countNotAbove 19 = .ok (.aload_n 0, 1) := by decide +kernel
theorem dX2_countNotAbove_20 : decode cX2_countNotAbove 20 = .ok (.iload 4, 2) := by decide +kernel
theorem dX2_countNotAbove_22 : decode cX2_countNotAbove 22 = .ok (.invokevirtual 33, 3) := by decide +kernel
theorem dX2_countNotAbove_25 : decode cX2_countNotAbove 25 = .ok (.iload_n 1, 1) := by decide +kernel
theorem dX2_countNotAbove_26 : decode cX2_countNotAbove 26 = .ok (.if_icmp .gt 11, 3) := by decide +kernel
theorem dX2_countNotAbove_29 : decode cX2_countNotAbove 29 = .ok (.iload 4, 2) := by decide +kernel
theorem dX2_countNotAbove_31 : decode cX2_countNotAbove 31 = .ok (.iconst 1, 1) := by decide +kernel
theorem dX2_countNotAbove_32 : decode cX2_countNotAbove 32 = .ok (.iadd, 1) := by decide +kernel
theorem dX2_countNotAbove_33 : decode cX2_countNotAbove 33 = .ok (.istore_n 2, 1) := by decide +kernel
theorem dX2_countNotAbove_34 : decode cX2_countNotAbove 34 = .ok (.goto 6, 3) := by decide +kernel
theorem dX2_countNotAbove_37 : decode cX2_countNotAbove 37 = .ok (.iload 4, 2) := by decide +kernel
theorem dX2_countNotAbove_39 : decode cX2_countNotAbove 39 = .ok (.istore_n 3, 1) := by decide +kernel
theorem dX2_countNotAbove_40 : decode cX2_countNotAbove 40 = .ok (.goto (-33), 3) := by decide +kernel
theorem dX2_countNotAbove_43 : decode cX2_countNotAbove 43 = .ok (.iload_n 2, 1) := by decide +kernel
theorem dX2_countNotAbove_44 : decode cX2_countNotAbove 44 = .ok (.ireturn, 1) := by decide +kernel
set_option maxRecDepth 20000 in
theorem ggX2_countNotAbove_X2_at : GoodIn wsX2_countNotAbove wsX2_at := goodIn_r _ [6, 1, 7, 8, 9] (by decide +kernel) (by decide +kernel)
def wp_X2_countNotAbove_7 (a0 : Nat) (x1 : Int32) (f : FT) (K : Int32 → Prop)  (C7 : Int32 × Int32 → Prop) : Int32 × Int32 → Prop := fun s9 => match s9 with
  | (y2, y3) => ((y3 ≤ y2 → K y2) ∧
 (¬ (y3 ≤ y2) → (¬ (2 : Int32) = 0) ∧ ∀ v_2 : Int32, v_2 = ((y2 + y3) / (2 : Int32)) → isO f a0 5 ∧ wp_X2_at a0 v_2 f (fun r_4 => ((x1 < r_4 → C7 (y2, v_2)) ∧
 (¬ (x1 < r_4) → ∀ v_6 : Int32, v_6 = (v_2 + (1 : Int32)) → C7 (v_6, y3))))))
def wp_X2_countNotAbove (a0 : Nat) (x1 : Int32) (f : FT) (K : Int32 → Prop) : Prop :=
  gI f a0 5 1 fun v_8 => ∃ n_10, loopW (wp_X2_countNotAbove_7 a0 x1 f K) n_10 ((0 : Int32), v_8)
set_option maxHeartbeats 4000000 in
set_option maxRecDepth 100000 in
theorem cc_X2_countNotAbove (l : Launch) (G : GG) {f : FT} {sz : Nat} {a0 : Nat} {x1 : Int32} {K : Int32 → Prop} (h : wp_X2_countNotAbove a0 x1 f K) : Met l yX2_countNotAbove wsX2_countNotAbove ({ frames := 1, cells := 0, slots := 0, locals := 21 } : Room) (FP G [.ref a0, .int x1] f sz) (va_Qi (fun r f9 => K r ∧ f9 = f : Int32 → FT → Prop) (FB G (fA f sz)) (fA f sz)) 0 0 (fA f sz) := by
  refine Met.ofW (cc := cX2_countNotAbove) (maxL := 5) (ret := (some .int)) (by decide) rfl ?_
  intro p e s m args below meth c s₁ B hml hv
  obtain ⟨rfl, hsz, hF, hK, hZ⟩ := hv
  have hx := B.exec
  have hb := B.bytes
  have hr := B.returns
  have hts := atoms_spec (ws := wsX2_countNotAbove) B.pre
  have hown : s.vm.findClass RX2 = some m.cls := findClass_of_methodNamed B.named
  have hlocks := B.notSynchronized
  subst hsz
  have hF := hF.self (sz := s.heap.size)
  generalize hAe : fA f s.heap.size = A at hF hZ ⊢
  have hA : ∀ q : Nat, s.heap.size ≤ q → A q := fun q h => by rw [← hAe]; exact Or.inr h
  have hS : va_S A s.heap s.heap [] := va_S.rf
  have hin_X2 : ∀ w ∈ wsX20, w ∈ wsX2_countNotAbove := by decide +kernel
  have L7 : ∀  (j9 : Nat) (y2 : Int32) (y3 : Int32) (H : Heap) (locs : List Loc) (ls : Array Slot), loopW (wp_X2_countNotAbove_7 a0 x1 f K ) j9 (y2, y3) → Fw G A f H → va_S A s.heap H locs → lv_has ls 5 [(0, .ref a0), (1, .int x1), (2, .int y2), (3, .int y3)] → W p l e ({ frames := 1, cells := 0, slots := 0, locals := 21 } : Room) s m ([.ref a0, .int x1] : List Value).toArray below meth c H locs 0 0 (MQ below (va_Qi (fun r f9 => K r ∧ f9 = f : Int32 → FT → Prop) (FB G A) A) ([.ref a0, .int x1] : List Value).toArray s 0 0 A) (F0 m 7 ls []) := by
    intro  j9
    induction j9 with
    | zero => intro y2 y3 H locs ls h; exact h.elim
    | succ j9 ih7 =>
      intro y2 y3 H locs ls h hF hS hl
      have h : wp_X2_countNotAbove_7 a0 x1 f K  (loopW (wp_X2_countNotAbove_7 a0 x1 f K ) j9) (y2, y3) := h
      generalize loopW (wp_X2_countNotAbove_7 a0 x1 f K ) j9 = C7 at ih7 h
      unfold wp_X2_countNotAbove_7 at h
      refine lv_iload_n hx hb dX2_countNotAbove_7 rfl (lv_at hl 2 rfl) ?_
      refine lv_iload_n hx hb dX2_countNotAbove_8 rfl (lv_at hl 3 rfl) ?_
      obtain ⟨h1, h2⟩ := h
      refine lv_icmp_ge (tgt := 43) hx hb dX2_countNotAbove_9 (by decide) (fun c_1 => ?_) (fun c_1 => ?_)
      · have h := h1 c_1
        refine lv_iload_n hx hb dX2_countNotAbove_43 rfl (lv_at hl 2 rfl) ?_
        exact W.iret (v := y2) hx hb hr (fun t ht hW => ⟨⟨y2, f, rfl, ⟨h, rfl⟩, by rw [ht]; exact hF, FK.moved hW.alike hK⟩, hS.F ht⟩) hS.2.2 dX2_countNotAbove_44
      · have h := h2 c_1
        refine lv_iload_n hx hb dX2_countNotAbove_12 rfl (lv_at hl 2 rfl) ?_
        refine lv_iload_n hx hb dX2_countNotAbove_13 rfl (lv_at hl 3 rfl) ?_
        refine lv_iadd hx hb dX2_countNotAbove_14 ?_
        refine lv_iconst (v := (2 : Int32)) hx hb dX2_countNotAbove_15 (by decide) ?_
        obtain ⟨hne, h⟩ := h
        refine lv_idiv hx hb dX2_countNotAbove_16 hne ?_
        refine lv_topi (fun v_2 e_3 => ?_)
        have h := h v_2 e_3
        refine lv_istore (lv' := [(4, .int v_2), (0, .ref a0), (1, .int x1), (2, .int y2), (3, .int y3)]) hx hb dX2_countNotAbove_17 hl (by decide) rfl (fun ls hl => ?_)
        refine lv_aload_n hx hb dX2_countNotAbove_19 rfl (lv_at hl 1 rfl) ?_
        refine lv_iload hx hb dX2_countNotAbove_20 (lv_at hl 0 rfl) ?_
        obtain ⟨⟨fs_r_4, hrc_r_4⟩, h⟩ := h
        refine fw_cV_i_p (As := [.int v_2]) (rest := []) ⟨hx, hb, hml, hown, hts⟩ (cc_X2_at l G h) (⟨callB_of 1 hts ggX2_countNotAbove_X2_at rfl rfl rfl (hts (.initialized RX2) (by decide +kernel)) (hts (.methodLink RX2 33 yX2_at) (by decide +kernel)) (by decide +kernel) ⟨Nat.le_of_ble_eq_true rfl, Nat.le_of_ble_eq_true rfl⟩, hts (.instanceMethod yX2_at) (by decide +kernel), hts (.selects RX2 yX2_at yX2_at) (by decide +kernel)⟩) rfl hrc_r_4 hK hZ hF hS hA rfl hl.1 rfl (Nat.le_of_ble_eq_true rfl) dX2_countNotAbove_22 ⟨Nat.zero_le _, Nat.zero_le _⟩ (fun r_4 H locs h hF hS => ?_)
        refine lv_iload_n hx hb dX2_countNotAbove_25 rfl (lv_at hl 2 rfl) ?_
        obtain ⟨h1, h2⟩ := h
        refine lv_icmp_gt (tgt := 37) hx hb dX2_countNotAbove_26 (by decide) (fun c_5 => ?_) (fun c_5 => ?_)
        · have h := h1 c_5
          refine lv_iload hx hb dX2_countNotAbove_37 (lv_at hl 0 rfl) ?_
          refine lv_istore_n (lv' := [(3, .int v_2), (4, .int v_2), (0, .ref a0), (1, .int x1), (2, .int y2)]) hx hb dX2_countNotAbove_39 rfl hl (by decide) rfl (fun ls hl => ?_)
          refine lv_goto (tgt := 7) hx hb dX2_countNotAbove_40 (by decide) ?_
          exact ih7 y2 v_2 _ _ _ h hF hS (lv_sub hl [2, 3, 4, 0] rfl)
        · have h := h2 c_5
          refine lv_iload hx hb dX2_countNotAbove_29 (lv_at hl 0 rfl) ?_
          refine lv_iconst (v := (1 : Int32)) hx hb dX2_countNotAbove_31 (by decide) ?_
          refine lv_iadd hx hb dX2_countNotAbove_32 ?_
          refine lv_topi (fun v_6 e_7 => ?_)
          have h := h v_6 e_7
          refine lv_istore_n (lv' := [(2, .int v_6), (4, .int v_2), (0, .ref a0), (1, .int x1), (3, .int y3)]) hx hb dX2_countNotAbove_33 rfl hl (by decide) rfl (fun ls hl => ?_)
          refine lv_goto (tgt := 40) hx hb dX2_countNotAbove_34 (by decide) ?_
          refine lv_goto (tgt := 7) hx hb dX2_countNotAbove_40 (by decide) ?_
          exact ih7 v_6 y3 _ _ _ h hF hS (lv_sub hl [2, 3, 0, 4] rfl)
  have hl := lv_entry ([.ref a0, .int x1]) (n := 5) (Nat.le_of_ble_eq_true rfl)
  rw [lg_entry_eq]
  generalize (lg_sl ([.ref a0, .int x1]) ++ List.replicate (5 - (lg_sl ([.ref a0, .int x1])).length) Slot.unset).toArray = ls at hl ⊢
  have hl : lv_has ls 5 [(0, .ref a0), (1, .int x1)] := hl
  unfold wp_X2_countNotAbove at h
  refine lv_iconst (v := (0 : Int32)) hx hb dX2_countNotAbove_0 (by decide) ?_
  refine lv_istore_n (lv' := [(2, .int (0 : Int32)), (0, .ref a0), (1, .int x1)]) hx hb dX2_countNotAbove_1 rfl hl (by decide) rfl (fun ls hl => ?_)
  refine lv_aload_n hx hb dX2_countNotAbove_2 rfl (lv_at hl 1 rfl) ?_
  obtain ⟨fs_9, v_8, he_fs_9, hv_fs_9, h⟩ := h
  refine fw_get (C := RX2) (T := TX2) (N := 2) hx hb hts hin_X2 hown hK hF he_fs_9 rfl 1 (by decide) (hts (.fieldLink RX2 13 "FrontCodedIndex$IntRow" "count" "I") (by decide +kernel)) (fun _ h9 => h9) hv_fs_9 dX2_countNotAbove_3 ?_
  refine lv_istore_n (lv' := [(3, .int v_8), (2, .int (0 : Int32)), (0, .ref a0), (1, .int x1)]) hx hb dX2_countNotAbove_6 rfl hl (by decide) rfl (fun ls hl => ?_)
  obtain ⟨n_10, h⟩ := h
  exact L7 n_10 (0 : Int32) v_8 _ _ _ h hF hS (lv_sub hl [2, 3, 1, 0] rfl)
theorem dX7_parentOf_0 : decode cX7_parentOf 0 = .ok (.aload_n 0, 1) := by decide +kernel
theorem dX7_parentOf_1 : decode cX7_parentOf 1 = .ok (.iload_n 1, 1) := by decide +kernel
theorem dX7_parentOf_2 : decode cX7_parentOf 2 = .ok (.iconst 1, 1) := by decide +kernel
theorem dX7_parentOf_3 : decode cX7_parentOf 3 = .ok (.iadd, 1) := by decide +kernel
theorem dX7_parentOf_4 : decode cX7_parentOf 4 = .ok (.invokevirtual 74, 3) := by decide +kernel
theorem dX7_parentOf_7 : decode cX7_parentOf 7 = .ok (.iload_n 2, 1) := by decide +kernel
theorem dX7_parentOf_8 : decode cX7_parentOf 8 = .ok (.invokevirtual 91, 3) := by decide +kernel
theorem dX7_parentOf_11 : decode cX7_parentOf 11 = .ok (.ireturn, 1) := by decide +kernel
set_option maxRecDepth 20000 in
theorem ggX7_parentOf_X2_countNotAbove : GoodIn wsX7_parentOf wsX2_countNotAbove := goodIn_r _ [36, 37, 38, 39, 40, 35, 41, 42, 54, 55] (by decide +kernel) (by decide +kernel)
set_option maxRecDepth 20000 in
theorem ggX7_parentOf_X7_tier : GoodIn wsX7_parentOf wsX7_tier := goodIn_r _ [5, 6, 7, 8, 9, 10, 11, 12, 13, 14, 15, 16, 17, 18, 19, 20, 21, 22, 23, 24, 25, 26, 27, 28, 29, 30, 31, 43, 44, 45, 46, 47, 48, 49, 50, 51, 52, 53] (by decide +kernel) (by decide +kernel)
def wp_X7_parentOf (a0 : Nat) (x1 : Int32) (x2 : Int32) (f : FT) (K : Int32 → Prop) : Prop :=
  isO f a0 10 ∧ wp_X7_tier a0 (x1 + (1 : Int32)) f (fun a_1 => isO f a_1 5 ∧ wp_X2_countNotAbove a_1 x2 f (fun r_2 => K r_2))
set_option maxHeartbeats 4000000 in
set_option maxRecDepth 100000 in
theorem cc_X7_parentOf (l : Launch) (G : GG) {f : FT} {sz : Nat} {a0 : Nat} {x1 : Int32} {x2 : Int32} {K : Int32 → Prop} (h : wp_X7_parentOf a0 x1 x2 f K) : Met l yX7_parentOf wsX7_parentOf ({ frames := 4, cells := 0, slots := 0, locals := 85 } : Room) (FP G [.ref a0, .int x1, .int x2] f sz) (va_Qi (fun r f9 => K r ∧ f9 = f : Int32 → FT → Prop) (FB G (fA f sz)) (fA f sz)) 0 0 (fA f sz) := by
  refine Met.ofW (cc := cX7_parentOf) (maxL := 3) (ret := (some .int)) (by decide) rfl ?_
  intro p e s m args below meth c s₁ B hml hv
  obtain ⟨rfl, hsz, hF, hK, hZ⟩ := hv
  have hx := B.exec
  have hb := B.bytes
  have hr := B.returns
  have hts := atoms_spec (ws := wsX7_parentOf) B.pre
  have hown : s.vm.findClass RX7 = some m.cls := findClass_of_methodNamed B.named
  have hlocks := B.notSynchronized
  subst hsz
  have hF := hF.self (sz := s.heap.size)
  generalize hAe : fA f s.heap.size = A at hF hZ ⊢
  have hA : ∀ q : Nat, s.heap.size ≤ q → A q := fun q h => by rw [← hAe]; exact Or.inr h
  have hS : va_S A s.heap s.heap [] := va_S.rf
  have hl := lv_entry ([.ref a0, .int x1, .int x2]) (n := 3) (Nat.le_of_ble_eq_true rfl)
  rw [lg_entry_eq]
  generalize (lg_sl ([.ref a0, .int x1, .int x2]) ++ List.replicate (3 - (lg_sl ([.ref a0, .int x1, .int x2])).length) Slot.unset).toArray = ls at hl ⊢
  have hl : lv_has ls 3 [(0, .ref a0), (1, .int x1), (2, .int x2)] := hl
  unfold wp_X7_parentOf at h
  refine lv_aload_n hx hb dX7_parentOf_0 rfl (lv_at hl 0 rfl) ?_
  refine lv_iload_n hx hb dX7_parentOf_1 rfl (lv_at hl 1 rfl) ?_
  refine lv_iconst (v := (1 : Int32)) hx hb dX7_parentOf_2 (by decide) ?_
  refine lv_iadd hx hb dX7_parentOf_3 ?_
  obtain ⟨⟨fs_a_1, hrc_a_1⟩, h⟩ := h
  refine fw_cV_q_p (As := [.int (x1 + (1 : Int32))]) (rest := []) ⟨hx, hb, hml, hown, hts⟩ (cc_X7_tier l G h) (⟨callB_of 1 hts ggX7_parentOf_X7_tier rfl rfl rfl (hts (.initialized RX7) (by decide +kernel)) (hts (.methodLink RX7 74 yX7_tier) (by decide +kernel)) (by decide +kernel) ⟨Nat.le_of_ble_eq_true rfl, Nat.le_of_ble_eq_true rfl⟩, hts (.instanceMethod yX7_tier) (by decide +kernel), hts (.selects RX7 yX7_tier yX7_tier) (by decide +kernel)⟩) rfl hrc_a_1 hK hZ hF hS hA rfl hl.1 rfl (Nat.le_of_ble_eq_true rfl) dX7_parentOf_4 ⟨Nat.zero_le _, Nat.zero_le _⟩ (fun a_1 H locs h hF hS => ?_)
  refine lv_iload_n hx hb dX7_parentOf_7 rfl (lv_at hl 2 rfl) ?_
  obtain ⟨⟨fs_r_2, hrc_r_2⟩, h⟩ := h
  refine fw_cV_i_p (As := [.int x2]) (rest := []) ⟨hx, hb, hml, hown, hts⟩ (cc_X2_countNotAbove l G h) (⟨callB_of 1 hts ggX7_parentOf_X2_countNotAbove rfl rfl rfl (hts (.initialized RX2) (by decide +kernel)) (hts (.methodLink RX7 91 yX2_countNotAbove) (by decide +kernel)) (by decide +kernel) ⟨Nat.le_of_ble_eq_true rfl, Nat.le_of_ble_eq_true rfl⟩, hts (.instanceMethod yX2_countNotAbove) (by decide +kernel), hts (.selects RX2 yX2_countNotAbove yX2_countNotAbove) (by decide +kernel)⟩) rfl hrc_r_2 hK hZ hF hS hA rfl hl.1 rfl (Nat.le_of_ble_eq_true rfl) dX7_parentOf_8 ⟨Nat.zero_le _, Nat.zero_le _⟩ (fun r_2 H locs h hF hS => ?_)
  exact W.iret (v := r_2) hx hb hr (fun t ht hW => ⟨⟨r_2, f, rfl, ⟨h, rfl⟩, by rw [ht]; exact hF, FK.moved hW.alike hK⟩, hS.F ht⟩) hS.2.2 dX7_parentOf_11
theorem dX7_hasLeftSibling_0 : decode cX7_hasLeftSibling 0 = .ok (.iload_n 1, 1) := by decide +kernel
theorem dX7_hasLeftSibling_1 : decode cX7_hasLeftSibling 1 = .ok (.iconst 1, 1) := by decide +kernel
theorem dX7_hasLeftSibling_2 : decode cX7_hasLeftSibling 2 = .ok (.iadd, 1) := by decide +kernel
theorem dX7_hasLeftSibling_3 : decode cX7_hasLeftSibling 3 = .ok (.aload_n 0, 1) := by decide +kernel
theorem dX7_hasLeftSibling_4 : decode cX7_hasLeftSibling 4 = .ok (.getfield 47, 3) := by decide +kernel
theorem dX7_hasLeftSibling_7 : decode cX7_hasLeftSibling 7 = .ok (.if_icmp .ge 24, 3) := by decide +kernel
theorem dX7_hasLeftSibling_10 : decode cX7_hasLeftSibling 10 = .ok (.iload_n 2, 1) := by decide +kernel
theorem dX7_hasLeftSibling_11 : decode cX7_hasLeftSibling 11 = .ok (.aload_n 0, 1) := by decide +kernel
theorem dX7_hasLeftSibling_12 : decode cX7_hasLeftSibling 12 = .ok (.iload_n 1, 1) := by decide +kernel
theorem dX7_hasLeftSibling_13 : decode cX7_hasLeftSibling 13 = .ok (.iconst 1, 1) := by decide +kernel
theorem dX7_hasLeftSibling_14 : decode cX7_hasLeftSibling 14 = .ok (.iadd, 1) := by decide +kernel
theorem dX7_hasLeftSibling_15 : decode cX7_hasLeftSibling 15 = .ok (.aload_n 0, 1) := by decide +kernel
theorem dX7_hasLeftSibling_16 : decode cX7_hasLeftSibling 16 = .ok (.iload_n 1, 1) := by decide +kernel
theorem dX7_hasLeftSibling_17 : decode cX7_hasLeftSibling 17 = .ok (.iload_n 2, 1) := by decide +kernel
theorem dX7_hasLeftSibling_18 : decode cX7_hasLeftSibling 18 = .ok (.invokevirtual 94, 3) := by decide +kernel
theorem dX7_hasLeftSibling_21 : decode cX7_hasLeftSibling 21 = .ok (.invokevirtual 98, 3) := by decide +kernel
theorem dX7_hasLeftSibling_24 : decode cX7_hasLeftSibling 24 = .ok (.if_icmp .le 7, 3) := by decide +kernel
theorem dX7_hasLeftSibling_27 : decode cX7_hasLeftSibling 27 = .ok (.iconst 1, 1) := by decide +kernel
theorem dX7_hasLeftSibling_28 : decode cX7_hasLeftSibling 28 = .ok (.goto 4, 3) := by decide +kernel
theorem dX7_hasLeftSibling_31 : decode cX7_hasLeftSibling 31 = .ok (.iconst 0, 1) := by decide +kernel
theorem dX7_hasLeftSibling_32 : decode cX7_hasLeftSibling 32 = .ok (.ireturn, 1) := by decide +kernel
set_option maxRecDepth 20000 in
theorem ggX7_hasLeftSibling_X7_parentOf : GoodIn wsX7_hasLeftSibling wsX7_parentOf := goodIn_r _ [6, 7, 8, 9, 5, 10, 11, 12, 13, 14, 15, 16, 17, 18, 19, 20, 21, 22, 23, 24, 25, 26, 27, 28, 29, 30, 31, 32, 33, 34, 35, 36, 37, 38, 39, 40, 41, 42, 43, 44, 45, 46, 47, 53, 54, 55, 56, 57, 58, 59, 60, 61, 62, 63, 64, 65] (by decide +kernel) (by decide +kernel)
set_option maxRecDepth 20000 in
theorem ggX7_hasLeftSibling_X7_startOf : GoodIn wsX7_hasLeftSibling wsX7_startOf := goodIn_r _ [51, 7, 8, 9, 5, 10, 11, 12, 13, 14, 15, 16, 17, 18, 19, 20, 21, 22, 23, 24, 25, 26, 27, 28, 29, 30, 31, 32, 33, 34, 35, 36, 52, 44, 45, 40, 46, 42, 47, 53, 54, 55, 56, 57, 58, 59, 60, 61, 62, 63, 64, 65] (by decide +kernel) (by decide +kernel)
def wp_X7_hasLeftSibling (a0 : Nat) (x1 : Int32) (x2 : Int32) (f : FT) (K : Int32 → Prop) : Prop :=
  gI f a0 10 6 fun v_1 => ((v_1 ≤ (x1 + (1 : Int32)) → K (0 : Int32)) ∧
 (¬ (v_1 ≤ (x1 + (1 : Int32))) → isO f a0 10 ∧ wp_X7_parentOf a0 x1 x2 f (fun r_4 => isO f a0 10 ∧ wp_X7_startOf a0 (x1 + (1 : Int32)) r_4 f (fun r_5 => ((x2 ≤ r_5 → K (0 : Int32)) ∧
 (¬ (x2 ≤ r_5) → K (1 : Int32)))))))
set_option maxHeartbeats 4000000 in
set_option maxRecDepth 100000 in
theorem cc_X7_hasLeftSibling (l : Launch) (G : GG) {f : FT} {sz : Nat} {a0 : Nat} {x1 : Int32} {x2 : Int32} {K : Int32 → Prop} (h : wp_X7_hasLeftSibling a0 x1 x2 f K) : Met l yX7_hasLeftSibling wsX7_hasLeftSibling ({ frames := 5, cells := 0, slots := 0, locals := 107 } : Room) (FP G [.ref a0, .int x1, .int x2] f sz) (va_Qi (fun r f9 => K r ∧ f9 = f : Int32 → FT → Prop) (FB G (fA f sz)) (fA f sz)) 0 0 (fA f sz) := by
  refine Met.ofW (cc := cX7_hasLeftSibling) (maxL := 3) (ret := (some .boolean)) (by decide) rfl ?_
  intro p e s m args below meth c s₁ B hml hv
  obtain ⟨rfl, hsz, hF, hK, hZ⟩ := hv
  have hx := B.exec
  have hb := B.bytes
  have hr := B.returns
  have hts := atoms_spec (ws := wsX7_hasLeftSibling) B.pre
  have hown : s.vm.findClass RX7 = some m.cls := findClass_of_methodNamed B.named
  have hlocks := B.notSynchronized
  subst hsz
  have hF := hF.self (sz := s.heap.size)
  generalize hAe : fA f s.heap.size = A at hF hZ ⊢
  have hA : ∀ q : Nat, s.heap.size ≤ q → A q := fun q h => by rw [← hAe]; exact Or.inr h
  have hS : va_S A s.heap s.heap [] := va_S.rf
  have hin_X7 : ∀ w ∈ wsX70, w ∈ wsX7_hasLeftSibling := by decide +kernel
  have hl := lv_entry ([.ref a0, .int x1, .int x2]) (n := 3) (Nat.le_of_ble_eq_true rfl)
  rw [lg_entry_eq]
  generalize (lg_sl ([.ref a0, .int x1, .int x2]) ++ List.replicate (3 - (lg_sl ([.ref a0, .int x1, .int x2])).length) Slot.unset).toArray = ls at hl ⊢
  have hl : lv_has ls 3 [(0, .ref a0), (1, .int x1), (2, .int x2)] := hl
  unfold wp_X7_hasLeftSibling at h
  refine lv_iload_n hx hb dX7_hasLeftSibling_0 rfl (lv_at hl 1 rfl) ?_
  refine lv_iconst (v := (1 : Int32)) hx hb dX7_hasLeftSibling_1 (by decide) ?_
  refine lv_iadd hx hb dX7_hasLeftSibling_2 ?_
  refine lv_aload_n hx hb dX7_hasLeftSibling_3 rfl (lv_at hl 0 rfl) ?_
  obtain ⟨fs_2, v_1, he_fs_2, hv_fs_2, h⟩ := h
  refine fw_get (C := RX7) (T := TX7) (N := 8) hx hb hts hin_X7 hown hK hF he_fs_2 rfl 6 (by decide) (hts (.fieldLink RX7 47 "FrontCodedIndex$Tree" "tierTotal" "I") (by decide +kernel)) (fun _ h9 => h9) hv_fs_2 dX7_hasLeftSibling_4 ?_
  obtain ⟨h1, h2⟩ := h
  refine lv_icmp_ge (tgt := 31) hx hb dX7_hasLeftSibling_7 (by decide) (fun c_3 => ?_) (fun c_3 => ?_)
  · have h := h1 c_3
    refine lv_iconst (v := (0 : Int32)) hx hb dX7_hasLeftSibling_31 (by decide) ?_
    exact W.zret (v := (0 : Int32)) hx hb hr (by decide) (fun t ht hW => ⟨⟨(0 : Int32), f, rfl, ⟨h, rfl⟩, by rw [ht]; exact hF, FK.moved hW.alike hK⟩, hS.F ht⟩) hS.2.2 dX7_hasLeftSibling_32
  · have h := h2 c_3
    refine lv_iload_n hx hb dX7_hasLeftSibling_10 rfl (lv_at hl 2 rfl) ?_
    refine lv_aload_n hx hb dX7_hasLeftSibling_11 rfl (lv_at hl 0 rfl) ?_
    refine lv_iload_n hx hb dX7_hasLeftSibling_12 rfl (lv_at hl 1 rfl) ?_
    refine lv_iconst (v := (1 : Int32)) hx hb dX7_hasLeftSibling_13 (by decide) ?_
    refine lv_iadd hx hb dX7_hasLeftSibling_14 ?_
    refine lv_aload_n hx hb dX7_hasLeftSibling_15 rfl (lv_at hl 0 rfl) ?_
    refine lv_iload_n hx hb dX7_hasLeftSibling_16 rfl (lv_at hl 1 rfl) ?_
    refine lv_iload_n hx hb dX7_hasLeftSibling_17 rfl (lv_at hl 2 rfl) ?_
    obtain ⟨⟨fs_r_4, hrc_r_4⟩, h⟩ := h
    refine fw_cV_i_p (As := [.int x1, .int x2]) (rest := [.int (x1 + (1 : Int32)), .ref a0, .int x2]) ⟨hx, hb, hml, hown, hts⟩ (cc_X7_parentOf l G h) (⟨callB_of 2 hts ggX7_hasLeftSibling_X7_parentOf rfl rfl rfl (hts (.initialized RX7) (by decide +kernel)) (hts (.methodLink RX7 94 yX7_parentOf) (by decide +kernel)) (by decide +kernel) ⟨Nat.le_of_ble_eq_true rfl, Nat.le_of_ble_eq_true rfl⟩, hts (.instanceMethod yX7_parentOf) (by decide +kernel), hts (.selects RX7 yX7_parentOf yX7_parentOf) (by decide +kernel)⟩) rfl hrc_r_4 hK hZ hF hS hA rfl hl.1 rfl (Nat.le_of_ble_eq_true rfl) dX7_hasLeftSibling_18 ⟨Nat.zero_le _, Nat.zero_le _⟩ (fun r_4 H locs h hF hS => ?_)
    obtain ⟨⟨fs_r_5, hrc_r_5⟩, h⟩ := h
    refine fw_cV_i_p (As := [.int (x1 + (1 : Int32)), .int r_4]) (rest := [.int x2]) ⟨hx, hb, hml, hown, hts⟩ (cc_X7_startOf l G h) (⟨callB_of 2 hts ggX7_hasLeftSibling_X7_startOf rfl rfl rfl (hts (.initialized RX7) (by decide +kernel)) (hts (.methodLink RX7 98 yX7_startOf) (by decide +kernel)) (by decide +kernel) ⟨Nat.le_of_ble_eq_true rfl, Nat.le_of_ble_eq_true rfl⟩, hts (.instanceMethod yX7_startOf) (by decide +kernel), hts (.selects RX7 yX7_startOf yX7_startOf) (by decide +kernel)⟩) rfl hrc_r_5 hK hZ hF hS hA rfl hl.1 rfl (Nat.le_of_ble_eq_true rfl) dX7_hasLeftSibling_21 ⟨Nat.zero_le _, Nat.zero_le _⟩ (fun r_5 H locs h hF hS => ?_)
    obtain ⟨h1, h2⟩ := h
    refine lv_icmp_le (tgt := 31) hx hb dX7_hasLeftSibling_24 (by decide) (fun c_6 => ?_) (fun c_6 => ?_)
    · have h := h1 c_6
      refine lv_iconst (v := (0 : Int32)) hx hb dX7_hasLeftSibling_31 (by decide) ?_
      exact W.zret (v := (0 : Int32)) hx hb hr (by decide) (fun t ht hW => ⟨⟨(0 : Int32), f, rfl, ⟨h, rfl⟩, by rw [ht]; exact hF, FK.moved hW.alike hK⟩, hS.F ht⟩) hS.2.2 dX7_hasLeftSibling_32
    · have h := h2 c_6
      refine lv_iconst (v := (1 : Int32)) hx hb dX7_hasLeftSibling_27 (by decide) ?_
      refine lv_goto (tgt := 32) hx hb dX7_hasLeftSibling_28 (by decide) ?_
      exact W.zret (v := (1 : Int32)) hx hb hr (by decide) (fun t ht hW => ⟨⟨(1 : Int32), f, rfl, ⟨h, rfl⟩, by rw [ht]; exact hF, FK.moved hW.alike hK⟩, hS.F ht⟩) hS.2.2 dX7_hasLeftSibling_32
theorem dX2_replace_0 : decode cX2_replace 0 = .ok (.iload_n 1, 1) := by decide +kernel
theorem dX2_replace_1 : decode cX2_replace 1 = .ok (.ifCond .lt 27, 3) := by decide +kernel
theorem dX2_replace_4 : decode cX2_replace 4 = .ok (.iload_n 1, 1) := by decide +kernel
theorem dX2_replace_5 : decode cX2_replace 5 = .ok (.aload_n 0, 1) := by decide +kernel
theorem dX2_replace_6 : decode cX2_replace 6 = .ok (.getfield 13, 3) := by decide +kernel
theorem dX2_replace_9 : decode cX2_replace 9 = .ok (.if_icmp .ge 19, 3) := by decide +kernel
theorem dX2_replace_12 : decode cX2_replace 12 = .ok (.iload_n 1, 1) := by decide +kernel
theorem dX2_replace_13 : decode cX2_replace 13 = .ok (.aload_n 0, 1) := by decide +kernel
theorem dX2_replace_14 : decode cX2_replace 14 = .ok (.getfield 9, 3) := by decide +kernel
theorem dX2_replace_17 : decode cX2_replace 17 = .ok (.arraylength, 1) := by decide +kernel
theorem dX2_replace_18 : decode cX2_replace 18 = .ok (.if_icmp .ge 10, 3) := by decide +kernel
theorem dX2_replace_21 : decode cX2_replace 21 = .ok (.aload_n 0, 1) := by decide +kernel
theorem dX2_replace_22 : decode cX2_replace 22 = .ok (.getfield 9, 3) := by decide +kernel
theorem dX2_replace_25 : decode cX2_replace 25 = .ok (.iload_n 1, 1) := by decide +kernel
theorem dX2_replace_26 : decode cX2_replace 26 = .ok (.iload_n 2, 1) := by decide +kernel
theorem dX2_replace_27 : decode cX2_replace 27 = .ok (.iastore, 1) := by decide +kernel
theorem dX2_replace_28 : decode cX2_replace 28 = .ok (.return_, 1) := by decide +kernel
def wp_X2_replace (a0 : Nat) (x1 : Int32) (x2 : Int32) (f : FT) (K : FT → Prop) : Prop :=
  ((x1 < (0 : Int32) → K f) ∧
 (¬ (x1 < (0 : Int32)) → gI f a0 5 1 fun v_2 => ((v_2 ≤ x1 → K f) ∧
 (¬ (v_2 ≤ x1) → gA f a0 5 0 fun a_5 => aL f a_5 fun v_7 => ((v_7 ≤ x1 → K f) ∧
 (¬ (v_7 ≤ x1) → gA f a0 5 0 fun a_10 => sI f a_10 x1 x2 fun f_13 => K f_13))))))
set_option maxHeartbeats 4000000 in
set_option maxRecDepth 100000 in
theorem cc_X2_replace (l : Launch) (G : GG) {f : FT} {sz : Nat} {a0 : Nat} {x1 : Int32} {x2 : Int32} {K : FT → Prop} (h : wp_X2_replace a0 x1 x2 f K) : Met l yX2_replace wsX2_replace ({ frames := 0, cells := 0, slots := 0, locals := 0 } : Room) (FP G [.ref a0, .int x1, .int x2] f sz) (va_Qv (fun f9 => K f9 : FT → Prop) (FB G (fA f sz)) (fA f sz)) 0 0 (fA f sz) := by
  refine Met.ofW (cc := cX2_replace) (maxL := 3) (ret := none) (by decide) rfl ?_
  intro p e s m args below meth c s₁ B hml hv
  obtain ⟨rfl, hsz, hF, hK, hZ⟩ := hv
  have hx := B.exec
  have hb := B.bytes
  have hr := B.returns
  have hts := atoms_spec (ws := wsX2_replace) B.pre
  have hown : s.vm.findClass RX2 = some m.cls := findClass_of_methodNamed B.named
  have hlocks := B.notSynchronized
  subst hsz
  have hF := hF.self (sz := s.heap.size)
  generalize hAe : fA f s.heap.size = A at hF hZ ⊢
  have hA : ∀ q : Nat, s.heap.size ≤ q → A q := fun q h => by rw [← hAe]; exact Or.inr h
  have hS : va_S A s.heap s.heap [] := va_S.rf
  have hin_X2 : ∀ w ∈ wsX20, w ∈ wsX2_replace := by decide +kernel
  have hl := lv_entry ([.ref a0, .int x1, .int x2]) (n := 3) (Nat.le_of_ble_eq_true rfl)
  rw [lg_entry_eq]
  generalize (lg_sl ([.ref a0, .int x1, .int x2]) ++ List.replicate (3 - (lg_sl ([.ref a0, .int x1, .int x2])).length) Slot.unset).toArray = ls at hl ⊢
  have hl : lv_has ls 3 [(0, .ref a0), (1, .int x1), (2, .int x2)] := hl
  unfold wp_X2_replace at h
  refine lv_iload_n hx hb dX2_replace_0 rfl (lv_at hl 1 rfl) ?_
  obtain ⟨h1, h2⟩ := h
  refine lv_if_lt (tgt := 28) hx hb dX2_replace_1 (by decide) (fun c_1 => ?_) (fun c_1 => ?_)
  · have h := h1 c_1
    exact W.vret hx hb hr (fun t ht hW => ⟨⟨f, rfl, h, by rw [ht]; exact hF, FK.moved hW.alike hK⟩, hS.F ht⟩) hS.2.2 dX2_replace_28
  · have h := h2 c_1
    refine lv_iload_n hx hb dX2_replace_4 rfl (lv_at hl 1 rfl) ?_
    refine lv_aload_n hx hb dX2_replace_5 rfl (lv_at hl 0 rfl) ?_
    obtain ⟨fs_3, v_2, he_fs_3, hv_fs_3, h⟩ := h
    refine fw_get (C := RX2) (T := TX2) (N := 2) hx hb hts hin_X2 hown hK hF he_fs_3 rfl 1 (by decide) (hts (.fieldLink RX2 13 "FrontCodedIndex$IntRow" "count" "I") (by decide +kernel)) (fun _ h9 => h9) hv_fs_3 dX2_replace_6 ?_
    obtain ⟨h1, h2⟩ := h
    refine lv_icmp_ge (tgt := 28) hx hb dX2_replace_9 (by decide) (fun c_4 => ?_) (fun c_4 => ?_)
    · have h := h1 c_4
      exact W.vret hx hb hr (fun t ht hW => ⟨⟨f, rfl, h, by rw [ht]; exact hF, FK.moved hW.alike hK⟩, hS.F ht⟩) hS.2.2 dX2_replace_28
    · have h := h2 c_4
      refine lv_iload_n hx hb dX2_replace_12 rfl (lv_at hl 1 rfl) ?_
      refine lv_aload_n hx hb dX2_replace_13 rfl (lv_at hl 0 rfl) ?_
      obtain ⟨fs_6, a_5, he_fs_6, hv_fs_6, h⟩ := h
      refine fw_get (C := RX2) (T := TX2) (N := 2) hx hb hts hin_X2 hown hK hF he_fs_6 rfl 0 (by decide) (hts (.fieldLink RX2 9 "FrontCodedIndex$IntRow" "cells" "[I") (by decide +kernel)) (fun _ h9 => h9) hv_fs_6 dX2_replace_14 ?_
      obtain ⟨t_q_8, q_8, he_q_8, ht_q_8, h⟩ := h
      refine fw_alen hx hb hK hF he_q_8 ht_q_8 dX2_replace_17 ?_
      refine lv_topi (fun v_7 e_v_7 => ?_)
      have h := h v_7 e_v_7
      obtain ⟨h1, h2⟩ := h
      refine lv_icmp_ge (tgt := 28) hx hb dX2_replace_18 (by decide) (fun c_9 => ?_) (fun c_9 => ?_)
      · have h := h1 c_9
        exact W.vret hx hb hr (fun t ht hW => ⟨⟨f, rfl, h, by rw [ht]; exact hF, FK.moved hW.alike hK⟩, hS.F ht⟩) hS.2.2 dX2_replace_28
      · have h := h2 c_9
        refine lv_aload_n hx hb dX2_replace_21 rfl (lv_at hl 0 rfl) ?_
        obtain ⟨fs_11, a_10, he_fs_11, hv_fs_11, h⟩ := h
        refine fw_get (C := RX2) (T := TX2) (N := 2) hx hb hts hin_X2 hown hK hF he_fs_11 rfl 0 (by decide) (hts (.fieldLink RX2 9 "FrontCodedIndex$IntRow" "cells" "[I") (by decide +kernel)) (fun _ h9 => h9) hv_fs_11 dX2_replace_22 ?_
        refine lv_iload_n hx hb dX2_replace_25 rfl (lv_at hl 1 rfl) ?_
        refine lv_iload_n hx hb dX2_replace_26 rfl (lv_at hl 2 rfl) ?_
        obtain ⟨n_q_12, q_12, he_q_12, hi_q_12, h⟩ := h
        refine fw_iast hx hb hK hF hS he_q_12 hi_q_12 dX2_replace_27 (fun H locs hF hS => ?_)
        obtain ⟨f_13, hf_f_13⟩ : ∃ z, z = fup f a_10 (.inl (1, n_q_12, .inl (upd q_12 (x1).toNatClampNeg x2))) := ⟨_, rfl⟩
        rw [← hf_f_13] at hF; have h := h f_13 hf_f_13
        exact W.vret hx hb hr (fun t ht hW => ⟨⟨f_13, rfl, h, by rw [ht]; exact hF, FK.moved hW.alike hK⟩, hS.F ht⟩) hS.2.2 dX2_replace_28
theorem dJ7_copyOf_9075b_0 : decode cJ7_copyOf_9075b 0 = .ok (.iload_n 1, 1) := by decide +kernel
theorem dJ7_copyOf_9075b_1 : decode cJ7_copyOf_9075b 1 = .ok (.aload_n 0, 1) := by decide +kernel
theorem dJ7_copyOf_9075b_2 : decode cJ7_copyOf_9075b 2 = .ok (.arraylength, 1) := by decide +kernel
theorem dJ7_copyOf_9075b_3 : decode cJ7_copyOf_9075b 3 = .ok (.if_icmp .ne 11, 3) := by decide +kernel
theorem dJ7_copyOf_9075b_6 : decode cJ7_copyOf_9075b 6 = .ok (.aload_n 0, 1) := by decide +kernel
theorem dJ7_copyOf_9075b_7 : decode cJ7_copyOf_9075b 7 = .ok (.invokevirtual 310, 3) := by decide +kernel
theorem dJ7_copyOf_9075b_10 : decode cJ7_copyOf_9075b 10 = .ok (.checkcast 311, 3) := by decide +kernel
theorem dJ7_copyOf_9075b_13 : decode cJ7_copyOf_9075b 13 = .ok (.areturn, 1) := by decide +kernel
theorem dJ7_copyOf_9075b_14 : decode cJ7_copyOf_9075b 14 = .ok (.iload_n 1, 1) := by decide +kernel
theorem dJ7_copyOf_9075b_15 : decode cJ7_copyOf_9075b 15 = .ok (.newarray .byte, 2) := by decide +kernel
theorem dJ7_copyOf_9075b_17 : decode cJ7_copyOf_9075b 17 = .ok (.astore_n 2, 1) := by decide +kernel
theorem dJ7_copyOf_9075b_18 : decode cJ7_copyOf_9075b 18 = .ok (.aload_n 0, 1) := by decide +kernel
theorem dJ7_copyOf_9075b_19 : decode cJ7_copyOf_9075b 19 = .ok (.iconst 0, 1) := by decide +kernel
theorem dJ7_copyOf_9075b_20 : decode cJ7_copyOf_9075b 20 = .ok (.aload_n 2, 1) := by decide +kernel
theorem dJ7_copyOf_9075b_21 : decode cJ7_copyOf_9075b 21 = .ok (.iconst 0, 1) := by decide +kernel
theorem dJ7_copyOf_9075b_22 : decode cJ7_copyOf_9075b 22 = .ok (.aload_n 0, 1) := by decide +kernel
theorem dJ7_copyOf_9075b_23 : decode cJ7_copyOf_9075b 23 = .ok (.arraylength, 1) := by decide +kernel
theorem dJ7_copyOf_9075b_24 : decode cJ7_copyOf_9075b 24 = .ok (.iload_n 1, 1) := by decide +kernel
theorem dJ7_copyOf_9075b_25 : decode cJ7_copyOf_9075b 25 = .ok (.invokestatic 304, 3) := by decide +kernel
theorem dJ7_copyOf_9075b_28 : decode cJ7_copyOf_9075b 28 = .ok (.invokestatic 150, 3) := by decide +kernel
theorem dJ7_copyOf_9075b_31 : decode cJ7_copyOf_9075b 31 = .ok (.aload_n 2, 1) := by decide +kernel
theorem dJ7_copyOf_9075b_32 : decode cJ7_copyOf_9075b 32 = .ok (.areturn, 1) := by decide +kernel
def wp_J7_copyOf_9075b (a0 : Nat) (x1 : Int32) (f : FT) (mc ms : Nat) (K : Nat → FT → Prop) : Prop :=
  aL f a0 fun v_1 => ((¬ x1 = v_1 → nA f 0 x1 mc ms fun n_6 q_4 f_5 => aL f_5 a0 fun v_9 => ∀ v_11 : Int32, v_11 = (jmin v_9 x1) → cP f_5 0 .byte a0 (0 : Int32) q_4 (0 : Int32) v_11 fun f_13 => K q_4 f_13) ∧
 (x1 = v_1 → cL f 0 .byte a0 mc ms fun n_16 q_14 f_15 => isA f_15 q_14 0 ∧ K q_14 f_15))
set_option maxHeartbeats 4000000 in
set_option maxRecDepth 100000 in
theorem cc_J7_copyOf_9075b (l : Launch) (G : GG) {f : FT} {sz : Nat} {a0 : Nat} {x1 : Int32} {mc ms : Nat} {K : Nat → FT → Prop} (h : wp_J7_copyOf_9075b a0 x1 f mc ms K) : Met l yJ7_copyOf_9075b wsJ7_copyOf_9075b ({ frames := 1, cells := mc, slots := ms, locals := 40 } : Room) (FP G [.ref a0, .int x1] f sz) (va_Qq (fun r f9 => ∃ q, r = some q ∧ K q f9 : Option Nat → FT → Prop) (FB G (fA f sz)) (fA f sz)) mc ms (fA f sz) := by
  refine Met.ofW (cc := cJ7_copyOf_9075b) (maxL := 3) (ret := (some (.array .byte))) (by decide) rfl ?_
  intro p e s m args below meth c s₁ B hml hv
  obtain ⟨rfl, hsz, hF, hK, hZ⟩ := hv
  have hx := B.exec
  have hb := B.bytes
  have hr := B.returns
  have hts := atoms_spec (ws := wsJ7_copyOf_9075b) B.pre
  have hown : s.vm.findClass RJ7 = some m.cls := findClass_of_methodNamed B.named
  have hlocks := B.notSynchronized
  subst hsz
  have hF := hF.self (sz := s.heap.size)
  generalize hAe : fA f s.heap.size = A at hF hZ ⊢
  have hA : ∀ q : Nat, s.heap.size ≤ q → A q := fun q h => by rw [← hAe]; exact Or.inr h
  have hS : va_S A s.heap s.heap [] := va_S.rf
  have hbc : 0 + mc ≤ mc := by omega
  have hbs : 0 + ms ≤ ms := by omega
  have hl := lv_entry ([.ref a0, .int x1]) (n := 3) (Nat.le_of_ble_eq_true rfl)
  rw [lg_entry_eq]
  generalize (lg_sl ([.ref a0, .int x1]) ++ List.replicate (3 - (lg_sl ([.ref a0, .int x1])).length) Slot.unset).toArray = ls at hl ⊢
  have hl : lv_has ls 3 [(0, .ref a0), (1, .int x1)] := hl
  unfold wp_J7_copyOf_9075b at h
  refine lv_iload_n hx hb dJ7_copyOf_9075b_0 rfl (lv_at hl 1 rfl) ?_
  refine lv_aload_n hx hb dJ7_copyOf_9075b_1 rfl (lv_at hl 0 rfl) ?_
  obtain ⟨t_q_2, q_2, he_q_2, ht_q_2, h⟩ := h
  refine fw_alen hx hb hK hF he_q_2 ht_q_2 dJ7_copyOf_9075b_2 ?_
  refine lv_topi (fun v_1 e_v_1 => ?_)
  have h := h v_1 e_v_1
  obtain ⟨h1, h2⟩ := h
  refine lv_icmp_ne (tgt := 14) hx hb dJ7_copyOf_9075b_3 (by decide) (fun c_3 => ?_) (fun c_3 => ?_)
  · have h := h1 c_3
    refine lv_iload_n hx hb dJ7_copyOf_9075b_14 rfl (lv_at hl 1 rfl) ?_
    obtain ⟨hb0, n_6, hN, hb1, hb2, hb3, h⟩ := h
    refine fw_newa (atype := .byte) (a0 := (n_6, .inl fun _ => 0)) hx hb (hts (.arrayClass .byte) (by decide +kernel)) (ty := .byte) rfl 0 rfl va_RA_byte hK hF hS hA (fun cA => rfl) hb0 hN (by show _ * 1 ≤ _; omega) (by show _ ≤ mc; omega) (by show _ ≤ ms; omega) dJ7_copyOf_9075b_15 (fun q_4 H hn_q_4 hF hS => ?_)
    obtain ⟨f_5, hf_f_5⟩ : ∃ z, z = fup f q_4 (.inl (0, (n_6, .inl fun _ => 0))) := ⟨_, rfl⟩
    rw [← hf_f_5] at hF; have h := h q_4 hn_q_4 f_5 hf_f_5
    obtain ⟨cs_7, hcs⟩ : ∃ z, z = (0 + 1) := ⟨_, rfl⟩; obtain ⟨sl_8, hsl⟩ : ∃ z, z = (0 + n_6) := ⟨_, rfl⟩
    have hbc : cs_7 + (mc - 1) ≤ mc := by omega
    have hbs : sl_8 + (ms - n_6) ≤ ms := by omega
    refine W.widen (k := cs_7) (n := sl_8) (by omega) (by omega) ?_
    clear hcs hsl
    refine lv_astore_n (lv' := [(2, .ref q_4), (0, .ref a0), (1, .int x1)]) hx hb dJ7_copyOf_9075b_17 rfl hl (by decide) rfl (fun ls hl => ?_)
    refine lv_aload_n hx hb dJ7_copyOf_9075b_18 rfl (lv_at hl 1 rfl) ?_
    refine lv_iconst (v := (0 : Int32)) hx hb dJ7_copyOf_9075b_19 (by decide) ?_
    refine lv_aload_n hx hb dJ7_copyOf_9075b_20 rfl (lv_at hl 0 rfl) ?_
    refine lv_iconst (v := (0 : Int32)) hx hb dJ7_copyOf_9075b_21 (by decide) ?_
    refine lv_aload_n hx hb dJ7_copyOf_9075b_22 rfl (lv_at hl 1 rfl) ?_
    obtain ⟨t_q_10, q_10, he_q_10, ht_q_10, h⟩ := h
    refine fw_alen hx hb hK hF he_q_10 ht_q_10 dJ7_copyOf_9075b_23 ?_
    refine lv_topi (fun v_9 e_v_9 => ?_)
    have h := h v_9 e_v_9
    refine lv_iload_n hx hb dJ7_copyOf_9075b_24 rfl (lv_at hl 2 rfl) ?_
    refine va_mmin hx hb (hml.trans hl.1.symm) hown (hts (.methodLink RJ7 304 Lib.Math.min.name) (by decide +kernel)) (hts (.static Lib.Math.min.name) (by decide +kernel)) (hts (.initialized "java/lang/Math") (by decide +kernel)) (hts (.code Lib.Math.min.name Lib.Math.min.code 2 (some .int)) (by decide +kernel)) (Nat.le_of_ble_eq_true rfl) (Nat.le_of_ble_eq_true rfl) (by show _ ≤ mc; omega) (by show _ ≤ ms; omega) dJ7_copyOf_9075b_25 ?_
    refine lv_topi (fun v_11 e_v_11 => ?_)
    have h := h v_11 e_v_11
    obtain ⟨n0_q_12, n1_q_12, g0_q_12, g1_q_12, he0_q_12, he1_q_12, hc1_q_12, hc2_q_12, hc3_q_12, hc4_q_12, hc5_q_12, hel_q_12, h⟩ := h
    refine fw_copyP hx hb (hml.trans hl.1.symm) hown (hts (.methodLink RJ7 150 arraycopyName) (by decide +kernel)) (hts (.native arraycopyName) (by decide +kernel)) (hts (.static arraycopyName) (by decide +kernel)) (hts (.initialized "java/lang/System") (by decide +kernel)) hK hF hS 0 rfl rfl he0_q_12 he1_q_12 hc1_q_12 hc2_q_12 hc3_q_12 hc4_q_12 hc5_q_12 hel_q_12 (Nat.le_of_ble_eq_true rfl) (Nat.le_of_ble_eq_true rfl) dJ7_copyOf_9075b_28 (fun H locs hF hS => ?_)
    obtain ⟨f_13, hf_f_13⟩ : ∃ z, z = fup f_5 q_4 (.inl (0, n1_q_12, .inl (va_cpy g0_q_12 g1_q_12 ((0 : Int32)).toNatClampNeg ((0 : Int32)).toNatClampNeg (v_11).toNatClampNeg))) := ⟨_, rfl⟩
    rw [← hf_f_13] at hF; have h := h f_13 hf_f_13
    refine lv_aload_n hx hb dJ7_copyOf_9075b_31 rfl (lv_at hl 0 rfl) ?_
    refine W.widen (k := mc) (n := ms) (by omega) (by omega) ?_
    exact W.aret (v := .ref q_4) hx hb hr (Or.inr ⟨_, rfl⟩) (Or.inr ⟨q_4, rfl⟩) (fun t ht hW => ⟨⟨some q_4, f_13, rfl, ⟨_, rfl, h⟩, by rw [ht]; exact hF, FK.moved hW.alike hK⟩, hS.F ht⟩) hS.2.2 dJ7_copyOf_9075b_32
  · have h := h2 c_3
    refine lv_aload_n hx hb dJ7_copyOf_9075b_6 rfl (lv_at hl 0 rfl) ?_
    obtain ⟨n_16, x_17, he_x_17, hft_x_17, hb1, hb2, h⟩ := h
    refine fw_clone hx hb (hml.trans hl.1.symm) hown (hts (.methodLink RJ7 310 ⟨"[B", "clone", "()Ljava/lang/Object;"⟩) (by decide +kernel)) (hts (.sameMethod "[B" "java/lang/Object" "clone" "()Ljava/lang/Object;") (by decide +kernel)) (hts (.native ⟨"java/lang/Object", "clone", "()Ljava/lang/Object;"⟩) (by decide +kernel)) (hts (.instanceMethod ⟨"java/lang/Object", "clone", "()Ljava/lang/Object;"⟩) (by decide +kernel)) (hts (.selects "[B" ⟨"[B", "clone", "()Ljava/lang/Object;"⟩ ⟨"java/lang/Object", "clone", "()Ljava/lang/Object;"⟩) (by decide +kernel)) hK.2.2.2.2.1 hK hF hS hA 0 he_x_17 rfl hK.nm0 (fits_arr hft_x_17) (Nat.le_of_ble_eq_true rfl) (Nat.le_of_ble_eq_true rfl) (by show _ ≤ mc; omega) (by show _ + n_16 ≤ ms; omega) dJ7_copyOf_9075b_7 (fun q_14 H hn_q_14 hF hS => ?_)
    obtain ⟨f_15, hf_f_15⟩ : ∃ z, z = fup f q_14 (.inl (0, n_16, .inl x_17)) := ⟨_, rfl⟩
    rw [← hf_f_15] at hF; have h := h q_14 hn_q_14 f_15 hf_f_15
    obtain ⟨cs_18, hcs⟩ : ∃ z, z = (0 + 1) := ⟨_, rfl⟩; obtain ⟨sl_19, hsl⟩ : ∃ z, z = (0 + n_16) := ⟨_, rfl⟩
    have hbc : cs_18 + (mc - 1) ≤ mc := by omega
    have hbs : sl_19 + (ms - n_16) ≤ ms := by omega
    refine W.widen (k := cs_18) (n := sl_19) (by omega) (by omega) ?_
    clear hcs hsl
    obtain ⟨⟨q_20, he_q_20⟩, h⟩ := h
    refine fw_castA hx hb hown (hts (.classLink RJ7 311 "[B") (by decide +kernel)) hF he_q_20 hK.nm0 dJ7_copyOf_9075b_10 ?_
    refine W.widen (k := mc) (n := ms) (by omega) (by omega) ?_
    exact W.aret (v := .ref q_14) hx hb hr (Or.inr ⟨_, rfl⟩) (Or.inr ⟨q_14, rfl⟩) (fun t ht hW => ⟨⟨some q_14, f_15, rfl, ⟨_, rfl, h⟩, by rw [ht]; exact hF, FK.moved hW.alike hK⟩, hS.F ht⟩) hS.2.2 dJ7_copyOf_9075b_13
theorem dX3_init_0 : decode cX3_init 0 = .ok (.aload_n 0, 1) := by decide +kernel
theorem dX3_init_1 : decode cX3_init 1 = .ok (.invokespecial 1, 3) := by decide +kernel
theorem dX3_init_4 : decode cX3_init 4 = .ok (.aload_n 0, 1) := by decide +kernel
theorem dX3_init_5 : decode cX3_init 5 = .ok (.aload_n 1, 1) := by decide +kernel
theorem dX3_init_6 : decode cX3_init 6 = .ok (.putfield 7, 3) := by decide +kernel
theorem dX3_init_9 : decode cX3_init 9 = .ok (.return_, 1) := by decide +kernel
def wp_X3_init (a0 : Nat) (a1 : Nat) (f : FT) (K : FT → Prop) : Prop :=
  pV f a0 6 0 (.ref a1) fun f_2 => K f_2
set_option maxHeartbeats 4000000 in
set_option maxRecDepth 100000 in
theorem cc_X3_init (l : Launch) (G : GG) {f : FT} {sz : Nat} {a0 : Nat} {a1 : Nat} {K : FT → Prop} (h : wp_X3_init a0 a1 f K) : Met l yX3_init wsX3_init ({ frames := 1, cells := 0, slots := 0, locals := 20 } : Room) (FP G [.ref a0, .ref a1] f sz) (va_Qv (fun f9 => K f9 : FT → Prop) (FB G (fA f sz)) (fA f sz)) 0 0 (fA f sz) := by
  refine Met.ofW (cc := cX3_init) (maxL := 2) (ret := none) (by decide) rfl ?_
  intro p e s m args below meth c s₁ B hml hv
  obtain ⟨rfl, hsz, hF, hK, hZ⟩ := hv
  have hx := B.exec
  have hb := B.bytes
  have hr := B.returns
  have hts := atoms_spec (ws := wsX3_init) B.pre
  have hown : s.vm.findClass RX3 = some m.cls := findClass_of_methodNamed B.named
  have hlocks := B.notSynchronized
  have hin : meth.name = "<init>" := (name_of_methodNamed B.named B.method).1
  subst hsz
  have hF := hF.self (sz := s.heap.size)
  generalize hAe : fA f s.heap.size = A at hF hZ ⊢
  have hA : ∀ q : Nat, s.heap.size ≤ q → A q := fun q h => by rw [← hAe]; exact Or.inr h
  have hS : va_S A s.heap s.heap [] := va_S.rf
  have hin_X3 : ∀ w ∈ wsX30, w ∈ wsX3_init := by decide +kernel
  have hl := lv_entry ([.ref a0, .ref a1]) (n := 2) (Nat.le_of_ble_eq_true rfl)
  rw [lg_entry_eq]
  generalize (lg_sl ([.ref a0, .ref a1]) ++ List.replicate (2 - (lg_sl ([.ref a0, .ref a1])).length) Slot.unset).toArray = ls at hl ⊢
  have hl : lv_has ls 2 [(0, .ref a0), (1, .ref a1)] := hl
  unfold wp_X3_init at h
  refine lv_aload_n hx hb dX3_init_0 rfl (lv_at hl 0 rfl) ?_
  refine W.objInit hx hb hown (hts (.methodLink RX3 1 objectInit) (by decide +kernel)) (hts (.instanceMethod objectInit) (by decide +kernel)) (hts (.code objectInit ⟨#[0xb1]⟩ 1 none) (by decide +kernel)) rfl (by rw [hml]; exact hl.1) rfl dX3_init_1 (Nat.le_of_ble_eq_true rfl) (Nat.le_of_ble_eq_true rfl) ?_
  refine W.eq (g2 := F0 m 4 ls []) rfl ?_
  refine lv_aload_n hx hb dX3_init_4 rfl (lv_at hl 0 rfl) ?_
  refine lv_aload_n hx hb dX3_init_5 rfl (lv_at hl 1 rfl) ?_
  obtain ⟨fs_1, he_fs_1, hl_fs_1, h⟩ := h
  refine fw_putF (v := .ref a1) (ty := (.array .byte)) (C := RX3) (T := TX3) (N := 1) hx hb hts hin_X3 tyX3 (tyX3_ok) nmX3 hown hK hF hS he_fs_1 rfl 0 (by decide) (hts (.fieldLink RX3 7 "FrontCodedIndex$Key" "bytes" "[B") (by decide +kernel)) (fun _ h9 => h9) rfl hin rfl (by decide +kernel) rfl rfl hl_fs_1 dX3_init_6 (fun H locs hF hS => ?_)
  obtain ⟨f_2, hf_f_2⟩ : ∃ z, z = fup f a0 (.inr (6, fs_1.set 0 (.ref a1))) := ⟨_, rfl⟩
  rw [← hf_f_2] at hF; have h := h f_2 hf_f_2
  exact W.vret hx hb hr (fun t ht hW => ⟨⟨f_2, rfl, h, by rw [ht]; exact hF, FK.moved hW.alike hK⟩, hS.F ht⟩) hS.2.2 dX3_init_9
theorem dX3_prefix_0 : decode cX3_prefix 0 = .ok (.new 8, 3) := by decide +kernel
theorem dX3_prefix_3 : decode cX3_prefix 3 = .ok (.dup, 1) := by decide +kernel
theorem dX3_prefix_4 : decode cX3_prefix 4 = .ok (.aload_n 0, 1) := by decide +kernel
theorem dX3_prefix_5 : decode cX3_prefix 5 = .ok (.getfield 7, 3) := by decide +kernel
theorem dX3_prefix_8 : decode cX3_prefix 8 = .ok (.iconst 0, 1) := by decide +kernel
theorem dX3_prefix_9 : decode cX3_prefix 9 = .ok (.iload_n 1, 1) := by decide +kernel
theorem dX3_prefix_10 : decode cX3_prefix 10 = .ok (.aload_n 0, 1) := by decide +kernel
theorem dX3_prefix_11 : decode cX3_prefix 11 = .ok (.getfield 7, 3) := by decide +kernel
theorem dX3_prefix_14 : decode cX3_prefix 14 = .ok (.arraylength, 1) := by decide +kernel
theorem dX3_prefix_15 : decode cX3_prefix 15 = .ok (.invokestatic 21, 3) := by decide +kernel
theorem dX3_prefix_18 : decode cX3_prefix 18 = .ok (.invokestatic 27, 3) := by decide +kernel
theorem dX3_prefix_21 : decode cX3_prefix 21 = .ok (.invokestatic 30, 3) := by decide +kernel
theorem dX3_prefix_24 : decode cX3_prefix 24 = .ok (.invokespecial 36, 3) := by decide +kernel
theorem dX3_prefix_27 : decode cX3_prefix 27 = .ok (.areturn, 1) := by decide +kernel
set_option maxRecDepth 20000 in
theorem ggX3_prefix_J7_copyOf_9075b : GoodIn wsX3_prefix wsJ7_copyOf_9075b := goodIn_r _ [15, 16, 17, 18, 19, 20, 21, 22, 23, 6, 7, 8, 24, 25, 26, 27] (by decide +kernel) (by decide +kernel)
set_option maxRecDepth 20000 in
theorem ggX3_prefix_X3_init : GoodIn wsX3_prefix wsX3_init := goodIn_r _ [30, 31, 32, 33, 4, 34] (by decide +kernel) (by decide +kernel)
def wp_X3_prefix (a0 : Nat) (x1 : Int32) (f : FT) (mc ms : Nat) (K : Nat → FT → Prop) : Prop :=
  nO f 6 [.null] 1 mc ms fun q_1 f_2 => gA f_2 a0 6 0 fun a_5 => gA f_2 a0 6 0 fun a_7 => aL f_2 a_7 fun v_9 => ∀ v_11 : Int32, v_11 = (jmin x1 v_9) → ∀ v_12 : Int32, v_12 = (jmax (0 : Int32) v_11) → ∃ ga_15 gb_16 : Nat, ga_15 ≤ (mc - 1) ∧ gb_16 ≤ (ms - 1) ∧ wp_J7_copyOf_9075b a_5 v_12 f_2 ga_15 gb_16 (fun a_13 f_14 => wp_X3_init q_1 a_13 f_14 (fun f_20 => K q_1 f_20))
set_option maxHeartbeats 4000000 in
set_option maxRecDepth 100000 in
theorem cc_X3_prefix (l : Launch) (G : GG) {f : FT} {sz : Nat} {a0 : Nat} {x1 : Int32} {mc ms : Nat} {K : Nat → FT → Prop} (h : wp_X3_prefix a0 x1 f mc ms K) : Met l yX3_prefix wsX3_prefix ({ frames := 2, cells := mc, slots := ms, locals := 62 } : Room) (FP G [.ref a0, .int x1] f sz) (va_Qq (fun r f9 => ∃ q, r = some q ∧ K q f9 : Option Nat → FT → Prop) (FB G (fA f sz)) (fA f sz)) mc ms (fA f sz) := by
  refine Met.ofW (cc := cX3_prefix) (maxL := 2) (ret := (some (.object "FrontCodedIndex$Key"))) (by decide) rfl ?_
  intro p e s m args below meth c s₁ B hml hv
  obtain ⟨rfl, hsz, hF, hK, hZ⟩ := hv
  have hx := B.exec
  have hb := B.bytes
  have hr := B.returns
  have hts := atoms_spec (ws := wsX3_prefix) B.pre
  have hown : s.vm.findClass RX3 = some m.cls := findClass_of_methodNamed B.named
  have hlocks := B.notSynchronized
  subst hsz
  have hF := hF.self (sz := s.heap.size)
  generalize hAe : fA f s.heap.size = A at hF hZ ⊢
  have hA : ∀ q : Nat, s.heap.size ≤ q → A q := fun q h => by rw [← hAe]; exact Or.inr h
  have hS : va_S A s.heap s.heap [] := va_S.rf
  have hin_X3 : ∀ w ∈ wsX30, w ∈ wsX3_prefix := by decide +kernel
  have hbc : 0 + mc ≤ mc := by omega
  have hbs : 0 + ms ≤ ms := by omega
  have hl := lv_entry ([.ref a0, .int x1]) (n := 2) (Nat.le_of_ble_eq_true rfl)
  rw [lg_entry_eq]
  generalize (lg_sl ([.ref a0, .int x1]) ++ List.replicate (2 - (lg_sl ([.ref a0, .int x1])).length) Slot.unset).toArray = ls at hl ⊢
  have hl : lv_has ls 2 [(0, .ref a0), (1, .int x1)] := hl
  unfold wp_X3_prefix at h
  obtain ⟨hb1, hb2, h⟩ := h
  refine fw_new (ci := 6) (fs := [.null]) (C := RX3) (T := TX3) (N := 1) hx hb hts hin_X3 tyX3 tyX3_ok hown (hts (.classLink RX3 8 RX3) (by decide +kernel)) (hts (.instantiable RX3 1) (by decide +kernel)) (hts (.initialized RX3) (by decide +kernel)) hK hF hS hA rfl (fun j hj => by rcases (show j = 0 by omega) with rfl <;> rfl) (by show _ ≤ mc; omega) (by show _ ≤ ms; omega) dX3_prefix_0 (fun q_1 H hn_q_1 hF hS => ?_)
  obtain ⟨f_2, hf_f_2⟩ : ∃ z, z = fup f q_1 (.inr (6, [.null])) := ⟨_, rfl⟩
  rw [← hf_f_2] at hF; have h := h q_1 hn_q_1 f_2 hf_f_2
  obtain ⟨cs_3, hcs⟩ : ∃ z, z = (0 + 1) := ⟨_, rfl⟩; obtain ⟨sl_4, hsl⟩ : ∃ z, z = (0 + 1) := ⟨_, rfl⟩
  have hbc : cs_3 + (mc - 1) ≤ mc := by omega
  have hbs : sl_4 + (ms - 1) ≤ ms := by omega
  refine W.widen (k := cs_3) (n := sl_4) (by omega) (by omega) ?_
  clear hcs hsl
  refine lv_dup hx hb dX3_prefix_3 rfl ?_
  refine lv_aload_n hx hb dX3_prefix_4 rfl (lv_at hl 0 rfl) ?_
  obtain ⟨fs_6, a_5, he_fs_6, hv_fs_6, h⟩ := h
  refine fw_get (C := RX3) (T := TX3) (N := 1) hx hb hts hin_X3 hown hK hF he_fs_6 rfl 0 (by decide) (hts (.fieldLink RX3 7 "FrontCodedIndex$Key" "bytes" "[B") (by decide +kernel)) (fun _ h9 => h9) hv_fs_6 dX3_prefix_5 ?_
  refine lv_iconst (v := (0 : Int32)) hx hb dX3_prefix_8 (by decide) ?_
  refine lv_iload_n hx hb dX3_prefix_9 rfl (lv_at hl 1 rfl) ?_
  refine lv_aload_n hx hb dX3_prefix_10 rfl (lv_at hl 0 rfl) ?_
  obtain ⟨fs_8, a_7, he_fs_8, hv_fs_8, h⟩ := h
  refine fw_get (C := RX3) (T := TX3) (N := 1) hx hb hts hin_X3 hown hK hF he_fs_8 rfl 0 (by decide) (hts (.fieldLink RX3 7 "FrontCodedIndex$Key" "bytes" "[B") (by decide +kernel)) (fun _ h9 => h9) hv_fs_8 dX3_prefix_11 ?_
  obtain ⟨t_q_10, q_10, he_q_10, ht_q_10, h⟩ := h
  refine fw_alen hx hb hK hF he_q_10 ht_q_10 dX3_prefix_14 ?_
  refine lv_topi (fun v_9 e_v_9 => ?_)
  have h := h v_9 e_v_9
  refine va_mmin hx hb (hml.trans hl.1.symm) hown (hts (.methodLink RX3 21 Lib.Math.min.name) (by decide +kernel)) (hts (.static Lib.Math.min.name) (by decide +kernel)) (hts (.initialized "java/lang/Math") (by decide +kernel)) (hts (.code Lib.Math.min.name Lib.Math.min.code 2 (some .int)) (by decide +kernel)) (Nat.le_of_ble_eq_true rfl) (Nat.le_of_ble_eq_true rfl) (by show _ ≤ mc; omega) (by show _ ≤ ms; omega) dX3_prefix_15 ?_
  refine lv_topi (fun v_11 e_v_11 => ?_)
  have h := h v_11 e_v_11
  refine va_mmax hx hb (hml.trans hl.1.symm) hown (hts (.methodLink RX3 27 Lib.Math.max.name) (by decide +kernel)) (hts (.static Lib.Math.max.name) (by decide +kernel)) (hts (.initialized "java/lang/Math") (by decide +kernel)) (hts (.code Lib.Math.max.name Lib.Math.max.code 2 (some .int)) (by decide +kernel)) (Nat.le_of_ble_eq_true rfl) (Nat.le_of_ble_eq_true rfl) (by show _ ≤ mc; omega) (by show _ ≤ ms; omega) dX3_prefix_18 ?_
  refine lv_topi (fun v_12 e_v_12 => ?_)
  have h := h v_12 e_v_12
  obtain ⟨ga_15, gb_16, hga_ga_15, hgb_ga_15, h⟩ := h
  refine fw_cS_q_w (As := [.ref a_5, .int v_12]) (rest := [.ref q_1, .ref q_1]) ⟨hx, hb, hml, hown, hts⟩ (cc_J7_copyOf_9075b l G h) (⟨callB_of 2 hts ggX3_prefix_J7_copyOf_9075b rfl rfl rfl (hts (.initialized RJ7) (by decide +kernel)) (hts (.methodLink RX3 30 yJ7_copyOf_9075b) (by decide +kernel)) (by decide +kernel) ⟨Nat.le_of_ble_eq_true rfl, Nat.le_of_ble_eq_true rfl⟩, hts (.static yJ7_copyOf_9075b) (by decide +kernel)⟩) hK hZ hF hS hA rfl hl.1 rfl (Nat.le_of_ble_eq_true rfl) dX3_prefix_21 ⟨by show _ ≤ mc; omega, by show _ ≤ ms; omega⟩ (fun a_13 f_14 H locs h hF hS => ?_)
  obtain ⟨cs_17, hcs⟩ : ∃ z, z = (cs_3 + ga_15) := ⟨_, rfl⟩; obtain ⟨sl_18, hsl⟩ : ∃ z, z = (sl_4 + gb_16) := ⟨_, rfl⟩
  have hbc : cs_17 + ((mc - 1) - ga_15) ≤ mc := by omega
  have hbs : sl_18 + ((ms - 1) - gb_16) ≤ ms := by omega
  refine W.widen (k := cs_17) (n := sl_18) (by omega) (by omega) ?_
  clear hcs hsl
  refine fw_cI_v (As := [.ref a_13]) (rest := [.ref q_1]) ⟨hx, hb, hml, hown, hts⟩ (cc_X3_init l G h) (⟨callB_of 1 hts ggX3_prefix_X3_init rfl rfl rfl (hts (.initialized RX3) (by decide +kernel)) (hts (.methodLink RX3 36 yX3_init) (by decide +kernel)) (by decide +kernel) ⟨Nat.le_of_ble_eq_true rfl, Nat.le_of_ble_eq_true rfl⟩, rfl, hts (.instanceMethod yX3_init) (by decide +kernel)⟩) hK hZ hF hS hA rfl hl.1 rfl (Nat.le_of_ble_eq_true rfl) dX3_prefix_24 ⟨by show _ ≤ mc; omega, by show _ ≤ ms; omega⟩ (fun f_20 H locs h hF hS => ?_)
  simp only [Nat.add_zero]
  refine W.widen (k := mc) (n := ms) (by omega) (by omega) ?_
  exact W.aret (v := .ref q_1) hx hb hr (Or.inl ⟨_, rfl⟩) (Or.inr ⟨q_1, rfl⟩) (fun t ht hW => ⟨⟨some q_1, f_20, rfl, ⟨_, rfl, h⟩, by rw [ht]; exact hF, FK.moved hW.alike hK⟩, hS.F ht⟩) hS.2.2 dX3_prefix_27
theorem dX7_shortestBefore_0 : decode cX7_shortestBefore 0 = .ok (.aload_n 0, 1) := by decide +kernel
theorem dX7_shortestBefore_1 : decode cX7_shortestBefore 1 = .ok (.getfield 12, 3) := by decide +kernel
theorem dX7_shortestBefore_4 : decode cX7_shortestBefore 4 = .ok (.iload_n 1, 1) := by decide +kernel
theorem dX7_shortestBefore_5 : decode cX7_shortestBefore 5 = .ok (.invokevirtual 104, 3) := by decide +kernel
theorem dX7_shortestBefore_8 : decode cX7_shortestBefore 8 = .ok (.astore_n 2, 1) := by decide +kernel
theorem dX7_shortestBefore_9 : decode cX7_shortestBefore 9 = .ok (.aload_n 2, 1) := by decide +kernel
theorem dX7_shortestBefore_10 : decode cX7_shortestBefore 10 = .ok (.aload_n 2, 1) := by decide +kernel
theorem dX7_shortestBefore_11 : decode cX7_shortestBefore 11 = .ok (.aload_n 0, 1) := by decide +kernel
theorem dX7_shortestBefore_12 : decode cX7_shortestBefore 12 = .ok (.getfield 12, 3) := by decide +kernel
theorem dX7_shortestBefore_15 : decode cX7_shortestBefore 15 = .ok (.iload_n 1, 1) := by decide +kernel
theorem dX7_shortestBefore_16 : decode cX7_shortestBefore 16 = .ok (.iconst 1, 1) := by decide +kernel
theorem dX7_shortestBefore_17 : decode cX7_shortestBefore 17 = .ok (.isub, 1) := by decide +kernel
theorem dX7_shortestBefore_18 : decode cX7_shortestBefore 18 = .ok (.invokevirtual 104, 3) := by decide +kernel
theorem dX7_shortestBefore_21 : decode cX7_shortestBefore 21 = .ok (.invokevirtual 118, 3) := by decide +kernel
theorem dX7_shortestBefore_24 : decode cX7_shortestBefore 24 = .ok (.iconst 1, 1) := by decide +kernel
theorem dX7_shortestBefore_25 : decode cX7_shortestBefore 25 = .ok (.iadd, 1) := by decide +kernel
theorem dX7_shortestBefore_26 : decode cX7_shortestBefore 26 = .ok (.invokevirtual 122, 3) := by decide +kernel
theorem dX7_shortestBefore_29 : decode cX7_shortestBefore 29 = .ok (.areturn, 1) := by decide +kernel
set_option maxRecDepth 20000 in
theorem ggX7_shortestBefore_X3_prefix : GoodIn wsX7_shortestBefore wsX3_prefix := goodIn_r _ [42, 43, 44, 36, 38, 45, 46, 47, 48, 49, 50, 51, 52, 53, 54, 55, 56, 57, 58, 59, 60, 61, 62, 63, 64, 65, 66, 67, 68, 69, 70, 71, 72, 73, 87] (by decide +kernel) (by decide +kernel)
set_option maxRecDepth 20000 in
theorem ggX7_shortestBefore_X3_sharedWith : GoodIn wsX7_shortestBefore wsX3_sharedWith := goodIn_r _ [37, 38, 87] (by decide +kernel) (by decide +kernel)
set_option maxRecDepth 20000 in
theorem ggX7_shortestBefore_X4_at : GoodIn wsX7_shortestBefore wsX4_at := goodIn_r _ [6, 7, 8, 9, 10, 11, 12, 13, 14, 15, 16, 17, 18, 19, 20, 21, 22, 23, 24, 25, 26, 27, 28, 29, 30, 31, 32, 82, 83, 84, 85, 86] (by decide +kernel) (by decide +kernel)
def wp_X7_shortestBefore (a0 : Nat) (x1 : Int32) (f : FT) (mc ms : Nat) (K : Nat → FT → Prop) : Prop :=
  gA f a0 10 0 fun a_1 => isO f a_1 7 ∧ wp_X4_at a_1 x1 f (fun a_3 => gA f a0 10 0 fun a_4 => isO f a_4 7 ∧ wp_X4_at a_4 (x1 - (1 : Int32)) f (fun a_6 => isO f a_3 6 ∧ wp_X3_sharedWith a_3 a_6 f (fun r_7 => ∃ ga_10 gb_11 : Nat, ga_10 ≤ mc ∧ gb_11 ≤ ms ∧ isO f a_3 6 ∧ wp_X3_prefix a_3 (r_7 + (1 : Int32)) f ga_10 gb_11 (fun a_8 f_9 => K a_8 f_9))))
set_option maxHeartbeats 4000000 in
set_option maxRecDepth 100000 in
theorem cc_X7_shortestBefore (l : Launch) (G : GG) {f : FT} {sz : Nat} {a0 : Nat} {x1 : Int32} {mc ms : Nat} {K : Nat → FT → Prop} (h : wp_X7_shortestBefore a0 x1 f mc ms K) : Met l yX7_shortestBefore wsX7_shortestBefore ({ frames := 4, cells := mc, slots := ms, locals := 85 } : Room) (FP G [.ref a0, .int x1] f sz) (va_Qq (fun r f9 => ∃ q, r = some q ∧ K q f9 : Option Nat → FT → Prop) (FB G (fA f sz)) (fA f sz)) mc ms (fA f sz) := by
  refine Met.ofW (cc := cX7_shortestBefore) (maxL := 3) (ret := (some (.object "FrontCodedIndex$Key"))) (by decide) rfl ?_
  intro p e s m args below meth c s₁ B hml hv
  obtain ⟨rfl, hsz, hF, hK, hZ⟩ := hv
  have hx := B.exec
  have hb := B.bytes
  have hr := B.returns
  have hts := atoms_spec (ws := wsX7_shortestBefore) B.pre
  have hown : s.vm.findClass RX7 = some m.cls := findClass_of_methodNamed B.named
  have hlocks := B.notSynchronized
  subst hsz
  have hF := hF.self (sz := s.heap.size)
  generalize hAe : fA f s.heap.size = A at hF hZ ⊢
  have hA : ∀ q : Nat, s.heap.size ≤ q → A q := fun q h => by rw [← hAe]; exact Or.inr h
  have hS : va_S A s.heap s.heap [] := va_S.rf
  have hin_X7 : ∀ w ∈ wsX70, w ∈ wsX7_shortestBefore := by decide +kernel
  have hbc : 0 + mc ≤ mc := by omega
  have hbs : 0 + ms ≤ ms := by omega
  have hl := lv_entry ([.ref a0, .int x1]) (n := 3) (Nat.le_of_ble_eq_true rfl)
  rw [lg_entry_eq]
  generalize (lg_sl ([.ref a0, .int x1]) ++ List.replicate (3 - (lg_sl ([.ref a0, .int x1])).length) Slot.unset).toArray = ls at hl ⊢
  have hl : lv_has ls 3 [(0, .ref a0), (1, .int x1)] := hl
  unfold wp_X7_shortestBefore at h
  refine lv_aload_n hx hb dX7_shortestBefore_0 rfl (lv_at hl 0 rfl) ?_
  obtain ⟨fs_2, a_1, he_fs_2, hv_fs_2, h⟩ := h
  refine fw_get (C := RX7) (T := TX7) (N := 8) hx hb hts hin_X7 hown hK hF he_fs_2 rfl 0 (by decide) (hts (.fieldLink RX7 12 "FrontCodedIndex$Tree" "keys" "LFrontCodedIndex$KeyRow;") (by decide +kernel)) (fun _ h9 => h9) hv_fs_2 dX7_shortestBefore_1 ?_
  refine lv_iload_n hx hb dX7_shortestBefore_4 rfl (lv_at hl 1 rfl) ?_
  obtain ⟨⟨fs_a_3, hrc_a_3⟩, h⟩ := h
  refine fw_cV_q_p (As := [.int x1]) (rest := []) ⟨hx, hb, hml, hown, hts⟩ (cc_X4_at l G h) (⟨callB_of 1 hts ggX7_shortestBefore_X4_at rfl rfl rfl (hts (.initialized RX4) (by decide +kernel)) (hts (.methodLink RX7 104 yX4_at) (by decide +kernel)) (by decide +kernel) ⟨Nat.le_of_ble_eq_true rfl, Nat.le_of_ble_eq_true rfl⟩, hts (.instanceMethod yX4_at) (by decide +kernel), hts (.selects RX4 yX4_at yX4_at) (by decide +kernel)⟩) rfl hrc_a_3 hK hZ hF hS hA rfl hl.1 rfl (Nat.le_of_ble_eq_true rfl) dX7_shortestBefore_5 ⟨by show _ ≤ mc; omega, by show _ ≤ ms; omega⟩ (fun a_3 H locs h hF hS => ?_)
  simp only [Nat.add_zero]
  refine lv_astore_n (lv' := [(2, .ref a_3), (0, .ref a0), (1, .int x1)]) hx hb dX7_shortestBefore_8 rfl hl (by decide) rfl (fun ls hl => ?_)
  refine lv_aload_n hx hb dX7_shortestBefore_9 rfl (lv_at hl 0 rfl) ?_
  refine lv_aload_n hx hb dX7_shortestBefore_10 rfl (lv_at hl 0 rfl) ?_
  refine lv_aload_n hx hb dX7_shortestBefore_11 rfl (lv_at hl 1 rfl) ?_
  obtain ⟨fs_5, a_4, he_fs_5, hv_fs_5, h⟩ := h
  refine fw_get (C := RX7) (T := TX7) (N := 8) hx hb hts hin_X7 hown hK hF he_fs_5 rfl 0 (by decide) (hts (.fieldLink RX7 12 "FrontCodedIndex$Tree" "keys" "LFrontCodedIndex$KeyRow;") (by decide +kernel)) (fun _ h9 => h9) hv_fs_5 dX7_shortestBefore_12 ?_
  refine lv_iload_n hx hb dX7_shortestBefore_15 rfl (lv_at hl 2 rfl) ?_
  refine lv_iconst (v := (1 : Int32)) hx hb dX7_shortestBefore_16 (by decide) ?_
  refine lv_isub hx hb dX7_shortestBefore_17 ?_
  obtain ⟨⟨fs_a_6, hrc_a_6⟩, h⟩ := h
  refine fw_cV_q_p (As := [.int (x1 - (1 : Int32))]) (rest := [.ref a_3, .ref a_3]) ⟨hx, hb, hml, hown, hts⟩ (cc_X4_at l G h) (⟨callB_of 1 hts ggX7_shortestBefore_X4_at rfl rfl rfl (hts (.initialized RX4) (by decide +kernel)) (hts (.methodLink RX7 104 yX4_at) (by decide +kernel)) (by decide +kernel) ⟨Nat.le_of_ble_eq_true rfl, Nat.le_of_ble_eq_true rfl⟩, hts (.instanceMethod yX4_at) (by decide +kernel), hts (.selects RX4 yX4_at yX4_at) (by decide +kernel)⟩) rfl hrc_a_6 hK hZ hF hS hA rfl hl.1 rfl (Nat.le_of_ble_eq_true rfl) dX7_shortestBefore_18 ⟨by show _ ≤ mc; omega, by show _ ≤ ms; omega⟩ (fun a_6 H locs h hF hS => ?_)
  simp only [Nat.add_zero]
  obtain ⟨⟨fs_r_7, hrc_r_7⟩, h⟩ := h
  refine fw_cV_i_p (As := [.ref a_6]) (rest := [.ref a_3]) ⟨hx, hb, hml, hown, hts⟩ (cc_X3_sharedWith l G h) (⟨callB_of 1 hts ggX7_shortestBefore_X3_sharedWith rfl rfl rfl (hts (.initialized RX3) (by decide +kernel)) (hts (.methodLink RX7 118 yX3_sharedWith) (by decide +kernel)) (by decide +kernel) ⟨Nat.le_of_ble_eq_true rfl, Nat.le_of_ble_eq_true rfl⟩, hts (.instanceMethod yX3_sharedWith) (by decide +kernel), hts (.selects RX3 yX3_sharedWith yX3_sharedWith) (by decide +kernel)⟩) rfl hrc_r_7 hK hZ hF hS hA rfl hl.1 rfl (Nat.le_of_ble_eq_true rfl) dX7_shortestBefore_21 ⟨by show _ ≤ mc; omega, by show _ ≤ ms; omega⟩ (fun r_7 H locs h hF hS => ?_)
  simp only [Nat.add_zero]
  refine lv_iconst (v := (1 : Int32)) hx hb dX7_shortestBefore_24 (by decide) ?_
  refine lv_iadd hx hb dX7_shortestBefore_25 ?_
  obtain ⟨ga_10, gb_11, hga_ga_10, hgb_ga_10, h⟩ := h
  obtain ⟨⟨fs_a_8, hrc_a_8⟩, h⟩ := h
  refine fw_cV_q_w (As := [.int (r_7 + (1 : Int32))]) (rest := []) ⟨hx, hb, hml, hown, hts⟩ (cc_X3_prefix l G h) (⟨callB_of 1 hts ggX7_shortestBefore_X3_prefix rfl rfl rfl (hts (.initialized RX3) (by decide +kernel)) (hts (.methodLink RX7 122 yX3_prefix) (by decide +kernel)) (by decide +kernel) ⟨Nat.le_of_ble_eq_true rfl, Nat.le_of_ble_eq_true rfl⟩, hts (.instanceMethod yX3_prefix) (by decide +kernel), hts (.selects RX3 yX3_prefix yX3_prefix) (by decide +kernel)⟩) rfl hrc_a_8 hK hZ hF hS hA rfl hl.1 rfl (Nat.le_of_ble_eq_true rfl) dX7_shortestBefore_26 ⟨by show _ ≤ mc; omega, by show _ ≤ ms; omega⟩ (fun a_8 f_9 H locs h hF hS => ?_)
  obtain ⟨cs_12, hcs⟩ : ∃ z, z = (0 + ga_10) := ⟨_, rfl⟩; obtain ⟨sl_13, hsl⟩ : ∃ z, z = (0 + gb_11) := ⟨_, rfl⟩
  have hbc : cs_12 + (mc - ga_10) ≤ mc := by omega
  have hbs : sl_13 + (ms - gb_11) ≤ ms := by omega
  refine W.widen (k := cs_12) (n := sl_13) (by omega) (by omega) ?_
  clear hcs hsl
  refine W.widen (k := mc) (n := ms) (by omega) (by omega) ?_
  exact W.aret (v := .ref a_8) hx hb hr (Or.inl ⟨_, rfl⟩) (Or.inr ⟨a_8, rfl⟩) (fun t ht hW => ⟨⟨some a_8, f_9, rfl, ⟨_, rfl, h⟩, by rw [ht]; exact hF, FK.moved hW.alike hK⟩, hS.F ht⟩) hS.2.2 dX7_shortestBefore_29
theorem dJx4a65c_set_bcc79_0 : decode cJx4a65c_set_bcc79 0 = .ok (.iload_n 1, 1) := by decide +kernel
theorem dJx4a65c_set_bcc79_1 : decode cJx4a65c_set_bcc79 1 = .ok (.aload_n 0, 1) := by decide +kernel
theorem dJx4a65c_set_bcc79_2 : decode cJx4a65c_set_bcc79 2 = .ok (.getfield 48, 3) := by decide +kernel
theorem dJx4a65c_set_bcc79_5 : decode cJx4a65c_set_bcc79 5 = .ok (.invokestatic 118, 3) := by decide +kernel
theorem dJx4a65c_set_bcc79_8 : decode cJx4a65c_set_bcc79 8 = .ok (.pop, 1) := by decide +kernel
theorem dJx4a65c_set_bcc79_9 : decode cJx4a65c_set_bcc79 9 = .ok (.aload_n 0, 1) := by decide +kernel
theorem dJx4a65c_set_bcc79_10 : decode cJx4a65c_set_bcc79 10 = .ok (.iload_n 1, 1) := by decide +kernel
theorem dJx4a65c_set_bcc79_11 : decode cJx4a65c_set_bcc79 11 = .ok (.invokevirtual 123, 3) := by decide +kernel
theorem dJx4a65c_set_bcc79_14 : decode cJx4a65c_set_bcc79 14 = .ok (.astore_n 3, 1) := by decide +kernel
theorem dJx4a65c_set_bcc79_15 : decode cJx4a65c_set_bcc79 15 = .ok (.aload_n 0, 1) := by decide +kernel
theorem dJx4a65c_set_bcc79_16 : decode cJx4a65c_set_bcc79 16 = .ok (.getfield 9, 3) := by decide +kernel
theorem dJx4a65c_set_bcc79_19 : decode cJx4a65c_set_bcc79 19 = .ok (.iload_n 1, 1) := by decide +kernel
theorem dJx4a65c_set_bcc79_20 : decode cJx4a65c_set_bcc79 20 = .ok (.aload_n 2, 1) := by decide +kernel
theorem dJx4a65c_set_bcc79_21 : decode cJx4a65c_set_bcc79 21 = .ok (.aastore, 1) := by decide +kernel
theorem dJx4a65c_set_bcc79_22 : decode cJx4a65c_set_bcc79 22 = .ok (.aload_n 3, 1) := by decide +kernel
theorem dJx4a65c_set_bcc79_23 : decode cJx4a65c_set_bcc79 23 = .ok (.areturn, 1) := by decide +kernel
set_option maxRecDepth 20000 in
theorem ggJx4a65c_set_bcc79_J15_checkIndex_7cf53 : GoodIn wsJx4a65c_set_bcc79 wsJ15_checkIndex_7cf53 := goodIn_r _ [6, 7, 8, 9, 10] (by decide +kernel) (by decide +kernel)
set_option maxRecDepth 20000 in
theorem ggJx4a65c_set_bcc79_Jx4a65c_elementData_915e3 : GoodIn wsJx4a65c_set_bcc79 wsJx4a65c_elementData_915e3 := goodIn_r _ [15, 2, 16, 17, 18] (by decide +kernel) (by decide +kernel)
def wp_Jx4a65c_set_bcc79 (a0 : Nat) (x1 : Int32) (a2 : Nat) (f : FT) (K : Nat → FT → Prop) : Prop :=
  gI f a0 2 2 fun v_1 => wp_J15_checkIndex_7cf53 x1 v_1 f (fun r_3 => isO f a0 2 ∧ wp_Jx4a65c_elementData_915e3 a0 x1 f (fun a_4 => gA f a0 2 1 fun a_5 => sA f a_5 x1 a2 fun f_8 => K a_4 f_8))
set_option maxHeartbeats 4000000 in
set_option maxRecDepth 100000 in
theorem cc_Jx4a65c_set_bcc79 (l : Launch) (G : GG) {f : FT} {sz : Nat} {a0 : Nat} {x1 : Int32} {a2 : Nat} {K : Nat → FT → Prop} (h : wp_Jx4a65c_set_bcc79 a0 x1 a2 f K) : Met l yJx4a65c_set_bcc79 wsJx4a65c_set_bcc79 ({ frames := 2, cells := 0, slots := 0, locals := 43 } : Room) (FP G [.ref a0, .int x1, .ref a2] f sz) (va_Qq (fun r f9 => ∃ q, r = some q ∧ K q f9 : Option Nat → FT → Prop) (FB G (fA f sz)) (fA f sz)) 0 0 (fA f sz) := by
  refine Met.ofW (cc := cJx4a65c_set_bcc79) (maxL := 4) (ret := (some (.object "java/lang/Object"))) (by decide) rfl ?_
  intro p e s m args below meth c s₁ B hml hv
  obtain ⟨rfl, hsz, hF, hK, hZ⟩ := hv
  have hx := B.exec
  have hb := B.bytes
  have hr := B.returns
  have hts := atoms_spec (ws := wsJx4a65c_set_bcc79) B.pre
  have hown : s.vm.findClass RJx4a65c = some m.cls := findClass_of_methodNamed B.named
  have hlocks := B.notSynchronized
  subst hsz
  have hF := hF.self (sz := s.heap.size)
  generalize hAe : fA f s.heap.size = A at hF hZ ⊢
  have hA : ∀ q : Nat, s.heap.size ≤ q → A q := fun q h => by rw [← hAe]; exact Or.inr h
  have hS : va_S A s.heap s.heap [] := va_S.rf
  have hin_Jx4a65c : ∀ w ∈ wsJx4a65c0, w ∈ wsJx4a65c_set_bcc79 := by decide +kernel
  have hl := lv_entry ([.ref a0, .int x1, .ref a2]) (n := 4) (Nat.le_of_ble_eq_true rfl)
  rw [lg_entry_eq]
  generalize (lg_sl ([.ref a0, .int x1, .ref a2]) ++ List.replicate (4 - (lg_sl ([.ref a0, .int x1, .ref a2])).length) Slot.unset).toArray = ls at hl ⊢
  have hl : lv_has ls 4 [(0, .ref a0), (1, .int x1), (2, .ref a2)] := hl
  unfold wp_Jx4a65c_set_bcc79 at h
  refine lv_iload_n hx hb dJx4a65c_set_bcc79_0 rfl (lv_at hl 1 rfl) ?_
  refine lv_aload_n hx hb dJx4a65c_set_bcc79_1 rfl (lv_at hl 0 rfl) ?_
  obtain ⟨fs_2, v_1, he_fs_2, hv_fs_2, h⟩ := h
  refine fw_get (C := RJx4a65c) (T := TJx4a65c) (N := 3) hx hb hts hin_Jx4a65c hown hK hF he_fs_2 rfl 2 (by decide) (hts (.fieldLink RJx4a65c 48 "java/util/ArrayList" "size" "I") (by decide +kernel)) (fun _ h9 => h9) hv_fs_2 dJx4a65c_set_bcc79_2 ?_
  refine fw_cS_i_p (As := [.int x1, .int v_1]) (rest := []) ⟨hx, hb, hml, hown, hts⟩ (cc_J15_checkIndex_7cf53 l G h) (⟨callB_of 2 hts ggJx4a65c_set_bcc79_J15_checkIndex_7cf53 rfl rfl rfl (hts (.initialized RJ15) (by decide +kernel)) (hts (.methodLink RJx4a65c 118 yJ15_checkIndex_7cf53) (by decide +kernel)) (by decide +kernel) ⟨Nat.le_of_ble_eq_true rfl, Nat.le_of_ble_eq_true rfl⟩, hts (.static yJ15_checkIndex_7cf53) (by decide +kernel)⟩) hK hZ hF hS hA rfl hl.1 rfl (Nat.le_of_ble_eq_true rfl) dJx4a65c_set_bcc79_5 ⟨Nat.zero_le _, Nat.zero_le _⟩ (fun r_3 H locs h hF hS => ?_)
  refine lv_pop hx hb dJx4a65c_set_bcc79_8 rfl ?_
  refine lv_aload_n hx hb dJx4a65c_set_bcc79_9 rfl (lv_at hl 0 rfl) ?_
  refine lv_iload_n hx hb dJx4a65c_set_bcc79_10 rfl (lv_at hl 1 rfl) ?_
  obtain ⟨⟨fs_a_4, hrc_a_4⟩, h⟩ := h
  refine fw_cV_q_p (As := [.int x1]) (rest := []) ⟨hx, hb, hml, hown, hts⟩ (cc_Jx4a65c_elementData_915e3 l G h) (⟨callB_of 1 hts ggJx4a65c_set_bcc79_Jx4a65c_elementData_915e3 rfl rfl rfl (hts (.initialized RJx4a65c) (by decide +kernel)) (hts (.methodLink RJx4a65c 123 yJx4a65c_elementData_915e3) (by decide +kernel)) (by decide +kernel) ⟨Nat.le_of_ble_eq_true rfl, Nat.le_of_ble_eq_true rfl⟩, hts (.instanceMethod yJx4a65c_elementData_915e3) (by decide +kernel), hts (.selects RJx4a65c yJx4a65c_elementData_915e3 yJx4a65c_elementData_915e3) (by decide +kernel)⟩) rfl hrc_a_4 hK hZ hF hS hA rfl hl.1 rfl (Nat.le_of_ble_eq_true rfl) dJx4a65c_set_bcc79_11 ⟨Nat.zero_le _, Nat.zero_le _⟩ (fun a_4 H locs h hF hS => ?_)
  refine lv_astore_n (lv' := [(3, .ref a_4), (0, .ref a0), (1, .int x1), (2, .ref a2)]) hx hb dJx4a65c_set_bcc79_14 rfl hl (by decide) rfl (fun ls hl => ?_)
  refine lv_aload_n hx hb dJx4a65c_set_bcc79_15 rfl (lv_at hl 1 rfl) ?_
  obtain ⟨fs_6, a_5, he_fs_6, hv_fs_6, h⟩ := h
  refine fw_get (C := RJx4a65c) (T := TJx4a65c) (N := 3) hx hb hts hin_Jx4a65c hown hK hF he_fs_6 rfl 1 (by decide) (hts (.fieldLink RJx4a65c 9 "java/util/ArrayList" "elementData" "[Ljava/lang/Object;") (by decide +kernel)) (fun _ h9 => h9) hv_fs_6 dJx4a65c_set_bcc79_16 ?_
  refine lv_iload_n hx hb dJx4a65c_set_bcc79_19 rfl (lv_at hl 2 rfl) ?_
  refine lv_aload_n hx hb dJx4a65c_set_bcc79_20 rfl (lv_at hl 3 rfl) ?_
  obtain ⟨n_q_7, q_7, ci_q_7, vs_q_7, he_q_7, hi_q_7, hv_q_7, hci_q_7, h⟩ := h
  refine fw_aast hx hb hK hF hS he_q_7 hv_q_7 hci_q_7 hi_q_7 dJx4a65c_set_bcc79_21 (fun H locs hF hS => ?_)
  obtain ⟨f_8, hf_f_8⟩ : ∃ z, z = fup f a_5 (.inl (2, n_q_7, .inr (.inr (.inr (.inr (va_up q_7 (x1).toNatClampNeg (some a2))))))) := ⟨_, rfl⟩
  rw [← hf_f_8] at hF; have h := h f_8 hf_f_8
  refine lv_aload_n hx hb dJx4a65c_set_bcc79_22 rfl (lv_at hl 0 rfl) ?_
  exact W.aret (v := .ref a_4) hx hb hr (Or.inl ⟨_, rfl⟩) (Or.inr ⟨a_4, rfl⟩) (fun t ht hW => ⟨⟨some a_4, f_8, rfl, ⟨_, rfl, h⟩, by rw [ht]; exact hF, FK.moved hW.alike hK⟩, hS.F ht⟩) hS.2.2 dJx4a65c_set_bcc79_23
theorem dX4_replace_0 : decode cX4_replace 0 = .ok (.iload_n 1, 1) := by decide +kernel
theorem dX4_replace_1 : decode cX4_replace 1 = .ok (.ifCond .lt 24, 3) := by decide +kernel
theorem dX4_replace_4 : decode cX4_replace 4 = .ok (.iload_n 1, 1) := by decide +kernel
theorem dX4_replace_5 : decode cX4_replace 5 = .ok (.aload_n 0, 1) := by decide +kernel
theorem dX4_replace_6 : decode cX4_replace 6 = .ok (.getfield 10, 3) := by decide +kernel
theorem dX4_replace_9 : decode cX4_replace 9 = .ok (.invokevirtual 25, 3) := by decide +kernel
theorem dX4_replace_12 : decode cX4_replace 12 = .ok (.if_icmp .ge 13, 3) := by decide +kernel
theorem dX4_replace_15 : decode cX4_replace 15 = .ok (.aload_n 0, 1) := by decide +kernel
theorem dX4_replace_16 : decode cX4_replace 16 = .ok (.getfield 10, 3) := by decide +kernel
theorem dX4_replace_19 : decode cX4_replace 19 = .ok (.iload_n 1, 1) := by decide +kernel
theorem dX4_replace_20 : decode cX4_replace 20 = .ok (.aload_n 2, 1) := by decide +kernel
theorem dX4_replace_21 : decode cX4_replace 21 = .ok (.invokevirtual 40, 3) := by decide +kernel
theorem dX4_replace_24 : decode cX4_replace 24 = .ok (.pop, 1) := by decide +kernel
theorem dX4_replace_25 : decode cX4_replace 25 = .ok (.return_, 1) := by decide +kernel
set_option maxRecDepth 20000 in
theorem ggX4_replace_Jx4a65c_set_bcc79 : GoodIn wsX4_replace wsJx4a65c_set_bcc79 := goodIn_r _ [11, 7, 12, 13, 14, 15, 16, 17, 18, 19, 20, 21, 22, 23, 5, 24, 27, 28, 29] (by decide +kernel) (by decide +kernel)
set_option maxRecDepth 20000 in
theorem ggX4_replace_Jx4a65c_size_8abf5 : GoodIn wsX4_replace wsJx4a65c_size_8abf5 := goodIn_r _ [6, 7, 27, 28, 29] (by decide +kernel) (by decide +kernel)
def wp_X4_replace (a0 : Nat) (x1 : Int32) (a2 : Nat) (f : FT) (K : FT → Prop) : Prop :=
  ((x1 < (0 : Int32) → K f) ∧
 (¬ (x1 < (0 : Int32)) → gA f a0 7 0 fun a_2 => isO f a_2 2 ∧ wp_Jx4a65c_size_8abf5 a_2 f (fun r_4 => ((r_4 ≤ x1 → K f) ∧
 (¬ (r_4 ≤ x1) → gA f a0 7 0 fun a_6 => isO f a_6 2 ∧ wp_Jx4a65c_set_bcc79 a_6 x1 a2 f (fun a_8 f_9 => K f_9))))))
set_option maxHeartbeats 4000000 in
set_option maxRecDepth 100000 in
theorem cc_X4_replace (l : Launch) (G : GG) {f : FT} {sz : Nat} {a0 : Nat} {x1 : Int32} {a2 : Nat} {K : FT → Prop} (h : wp_X4_replace a0 x1 a2 f K) : Met l yX4_replace wsX4_replace ({ frames := 3, cells := 0, slots := 0, locals := 66 } : Room) (FP G [.ref a0, .int x1, .ref a2] f sz) (va_Qv (fun f9 => K f9 : FT → Prop) (FB G (fA f sz)) (fA f sz)) 0 0 (fA f sz) := by
  refine Met.ofW (cc := cX4_replace) (maxL := 3) (ret := none) (by decide) rfl ?_
  intro p e s m args below meth c s₁ B hml hv
  obtain ⟨rfl, hsz, hF, hK, hZ⟩ := hv
  have hx := B.exec
  have hb := B.bytes
  have hr := B.returns
  have hts := atoms_spec (ws := wsX4_replace) B.pre
  have hown : s.vm.findClass RX4 = some m.cls := findClass_of_methodNamed B.named
  have hlocks := B.notSynchronized
  subst hsz
  have hF := hF.self (sz := s.heap.size)
  generalize hAe : fA f s.heap.size = A at hF hZ ⊢
  have hA : ∀ q : Nat, s.heap.size ≤ q → A q := fun q h => by rw [← hAe]; exact Or.inr h
  have hS : va_S A s.heap s.heap [] := va_S.rf
  have hin_X4 : ∀ w ∈ wsX40, w ∈ wsX4_replace := by decide +kernel
  have hl := lv_entry ([.ref a0, .int x1, .ref a2]) (n := 3) (Nat.le_of_ble_eq_true rfl)
  rw [lg_entry_eq]
  generalize (lg_sl ([.ref a0, .int x1, .ref a2]) ++ List.replicate (3 - (lg_sl ([.ref a0, .int x1, .ref a2])).length) Slot.unset).toArray = ls at hl ⊢
  have hl : lv_has ls 3 [(0, .ref a0), (1, .int x1), (2, .ref a2)] := hl
  unfold wp_X4_replace at h
  refine lv_iload_n hx hb dX4_replace_0 rfl (lv_at hl 1 rfl) ?_
  obtain ⟨h1, h2⟩ := h
  refine lv_if_lt (tgt := 25) hx hb dX4_replace_1 (by decide) (fun c_1 => ?_) (fun c_1 => ?_)
  · have h := h1 c_1
    exact W.vret hx hb hr (fun t ht hW => ⟨⟨f, rfl, h, by rw [ht]; exact hF, FK.moved hW.alike hK⟩, hS.F ht⟩) hS.2.2 dX4_replace_25
  · have h := h2 c_1
    refine lv_iload_n hx hb dX4_replace_4 rfl (lv_at hl 1 rfl) ?_
    refine lv_aload_n hx hb dX4_replace_5 rfl (lv_at hl 0 rfl) ?_
    obtain ⟨fs_3, a_2, he_fs_3, hv_fs_3, h⟩ := h
    refine fw_get (C := RX4) (T := TX4) (N := 2) hx hb hts hin_X4 hown hK hF he_fs_3 rfl 0 (by decide) (hts (.fieldLink RX4 10 "FrontCodedIndex$KeyRow" "cells" "Ljava/util/ArrayList;") (by decide +kernel)) (fun _ h9 => h9) hv_fs_3 dX4_replace_6 ?_
    obtain ⟨⟨fs_r_4, hrc_r_4⟩, h⟩ := h
    refine fw_cV_i_p (As := []) (rest := [.int x1]) ⟨hx, hb, hml, hown, hts⟩ (cc_Jx4a65c_size_8abf5 l G h) (⟨callB_of 0 hts ggX4_replace_Jx4a65c_size_8abf5 rfl rfl rfl (hts (.initialized RJx4a65c) (by decide +kernel)) (hts (.methodLink RX4 25 yJx4a65c_size_8abf5) (by decide +kernel)) (by decide +kernel) ⟨Nat.le_of_ble_eq_true rfl, Nat.le_of_ble_eq_true rfl⟩, hts (.instanceMethod yJx4a65c_size_8abf5) (by decide +kernel), hts (.selects RJx4a65c yJx4a65c_size_8abf5 yJx4a65c_size_8abf5) (by decide +kernel)⟩) rfl hrc_r_4 hK hZ hF hS hA rfl hl.1 rfl (Nat.le_of_ble_eq_true rfl) dX4_replace_9 ⟨Nat.zero_le _, Nat.zero_le _⟩ (fun r_4 H locs h hF hS => ?_)
    obtain ⟨h1, h2⟩ := h
    refine lv_icmp_ge (tgt := 25) hx hb dX4_replace_12 (by decide) (fun c_5 => ?_) (fun c_5 => ?_)
    · have h := h1 c_5
      exact W.vret hx hb hr (fun t ht hW => ⟨⟨f, rfl, h, by rw [ht]; exact hF, FK.moved hW.alike hK⟩, hS.F ht⟩) hS.2.2 dX4_replace_25
    · have h := h2 c_5
      refine lv_aload_n hx hb dX4_replace_15 rfl (lv_at hl 0 rfl) ?_
      obtain ⟨fs_7, a_6, he_fs_7, hv_fs_7, h⟩ := h
      refine fw_get (C := RX4) (T := TX4) (N := 2) hx hb hts hin_X4 hown hK hF he_fs_7 rfl 0 (by decide) (hts (.fieldLink RX4 10 "FrontCodedIndex$KeyRow" "cells" "Ljava/util/ArrayList;") (by decide +kernel)) (fun _ h9 => h9) hv_fs_7 dX4_replace_16 ?_
      refine lv_iload_n hx hb dX4_replace_19 rfl (lv_at hl 1 rfl) ?_
      refine lv_aload_n hx hb dX4_replace_20 rfl (lv_at hl 2 rfl) ?_
      obtain ⟨⟨fs_a_8, hrc_a_8⟩, h⟩ := h
      refine fw_cV_q_w (As := [.int x1, .ref a2]) (rest := []) ⟨hx, hb, hml, hown, hts⟩ (cc_Jx4a65c_set_bcc79 l G h) (⟨callB_of 2 hts ggX4_replace_Jx4a65c_set_bcc79 rfl rfl rfl (hts (.initialized RJx4a65c) (by decide +kernel)) (hts (.methodLink RX4 40 yJx4a65c_set_bcc79) (by decide +kernel)) (by decide +kernel) ⟨Nat.le_of_ble_eq_true rfl, Nat.le_of_ble_eq_true rfl⟩, hts (.instanceMethod yJx4a65c_set_bcc79) (by decide +kernel), hts (.selects RJx4a65c yJx4a65c_set_bcc79 yJx4a65c_set_bcc79) (by decide +kernel)⟩) rfl hrc_a_8 hK hZ hF hS hA rfl hl.1 rfl (Nat.le_of_ble_eq_true rfl) dX4_replace_21 ⟨Nat.zero_le _, Nat.zero_le _⟩ (fun a_8 f_9 H locs h hF hS => ?_)
      refine lv_pop hx hb dX4_replace_24 rfl ?_
      exact W.vret hx hb hr (fun t ht hW => ⟨⟨f_9, rfl, h, by rw [ht]; exact hF, FK.moved hW.alike hK⟩, hS.F ht⟩) hS.2.2 dX4_replace_25
theorem dX1_moveBoundary_0 : decode cX1_moveBoundary 0 = .ok (.aload_n 0, 1) := by decide +kernel
theorem dX1_moveBoundary_1 : decode cX1_moveBoundary 1 = .ok (.getfield 16, 3) := by decide +kernel
theorem dX1_moveBoundary_4 : decode cX1_moveBoundary 4 = .ok (.iconst 0, 1) := by decide +kernel
theorem dX1_moveBoundary_5 : decode cX1_moveBoundary 5 = .ok (.invokevirtual 79, 3) := by decide +kernel
theorem dX1_moveBoundary_8 : decode cX1_moveBoundary 8 = .ok (.iload_n 1, 1) := by decide +kernel
theorem dX1_moveBoundary_9 : decode cX1_moveBoundary 9 = .ok (.iload_n 2, 1) := by decide +kernel
theorem dX1_moveBoundary_10 : decode cX1_moveBoundary 10 = .ok (.invokevirtual 112, 3) := by decide +kernel
theorem dX1_moveBoundary_13 : decode cX1_moveBoundary 13 = .ok (.aload_n 0, 1) := by decide +kernel
theorem dX1_moveBoundary_14 : decode cX1_moveBoundary 14 = .ok (.getfield 16, 3) := by decide +kernel
theorem dX1_moveBoundary_17 : decode cX1_moveBoundary 17 = .ok (.getfield 64, 3) := by decide +kernel
theorem dX1_moveBoundary_20 : decode cX1_moveBoundary 20 = .ok (.iload_n 1, 1) := by decide +kernel
theorem dX1_moveBoundary_21 : decode cX1_moveBoundary 21 = .ok (.aload_n 0, 1) := by decide +kernel
theorem dX1_moveBoundary_22 : decode cX1_moveBoundary 22 = .ok (.getfield 16, 3) := by decide +kernel
theorem dX1_moveBoundary_25 : decode cX1_moveBoundary 25 = .ok (.iload_n 2, 1) := by decide +kernel
theorem dX1_moveBoundary_26 : decode cX1_moveBoundary 26 = .ok (.invokevirtual 115, 3) := by decide +kernel
theorem dX1_moveBoundary_29 : decode cX1_moveBoundary 29 = .ok (.invokevirtual 119, 3) := by decide +kernel
theorem dX1_moveBoundary_32 : decode cX1_moveBoundary 32 = .ok (.aload_n 0, 1) := by decide +kernel
theorem dX1_moveBoundary_33 : decode cX1_moveBoundary 33 = .ok (.dup, 1) := by decide +kernel
theorem dX1_moveBoundary_34 : decode cX1_moveBoundary 34 = .ok (.getfield 13, 3) := by decide +kernel
theorem dX1_moveBoundary_37 : decode cX1_moveBoundary 37 = .ok (.iconst 1, 1) := by decide +kernel
theorem dX1_moveBoundary_38 : decode cX1_moveBoundary 38 = .ok (.iadd, 1) := by decide +kernel
theorem dX1_moveBoundary_39 : decode cX1_moveBoundary 39 = .ok (.putfield 13, 3) := by decide +kernel
theorem dX1_moveBoundary_42 : decode cX1_moveBoundary 42 = .ok (.return_, 1) := by decide +kernel
set_option maxRecDepth 20000 in
theorem ggX1_moveBoundary_X2_replace : GoodIn wsX1_moveBoundary wsX2_replace := goodIn_r _ [38, 39, 40, 120, 121] (by decide +kernel) (by decide +kernel)
set_option maxRecDepth 20000 in
theorem ggX1_moveBoundary_X4_replace : GoodIn wsX1_moveBoundary wsX4_replace := goodIn_r _ [100, 51, 54, 12, 13, 14, 15, 16, 101, 102, 103, 104, 33, 21, 22, 23, 24, 25, 26, 27, 28, 29, 30, 31, 32, 122, 123, 117, 118, 119] (by decide +kernel) (by decide +kernel)
set_option maxRecDepth 20000 in
theorem ggX1_moveBoundary_X7_shortestBefore : GoodIn wsX1_moveBoundary wsX7_shortestBefore := goodIn_r _ [44, 45, 46, 47, 48, 49, 50, 51, 52, 53, 54, 12, 13, 14, 15, 16, 55, 18, 19, 20, 21, 22, 23, 24, 25, 26, 27, 28, 29, 30, 31, 32, 33, 56, 57, 58, 59, 60, 61, 62, 63, 64, 65, 66, 67, 68, 69, 70, 71, 72, 73, 74, 75, 76, 77, 78, 79, 80, 81, 82, 83, 84, 85, 86, 87, 88, 89, 90, 91, 92, 93, 94, 95, 96, 109, 110, 111, 112, 113, 114, 115, 116, 122, 123, 117, 118, 119, 124] (by decide +kernel) (by decide +kernel)
set_option maxRecDepth 20000 in
theorem ggX1_moveBoundary_X7_tier : GoodIn wsX1_moveBoundary wsX7_tier := goodIn_r _ [7, 8, 9, 10, 11, 12, 13, 14, 15, 16, 17, 18, 19, 20, 21, 22, 23, 24, 25, 26, 27, 28, 29, 30, 31, 32, 33, 109, 110, 111, 112, 113, 114, 115, 116, 117, 118, 119] (by decide +kernel) (by decide +kernel)
def wp_X1_moveBoundary (a0 : Nat) (x1 : Int32) (x2 : Int32) (f : FT) (mc ms : Nat) (K : FT → Prop) : Prop :=
  gA f a0 4 0 fun a_1 => isO f a_1 10 ∧ wp_X7_tier a_1 (0 : Int32) f (fun a_3 => isO f a_3 5 ∧ wp_X2_replace a_3 x1 x2 f (fun f_5 => gA f_5 a0 4 0 fun a_6 => gA f_5 a_6 10 2 fun a_8 => gA f_5 a0 4 0 fun a_10 => ∃ ga_14 gb_15 : Nat, ga_14 ≤ mc ∧ gb_15 ≤ ms ∧ isO f_5 a_10 10 ∧ wp_X7_shortestBefore a_10 x2 f_5 ga_14 gb_15 (fun a_12 f_13 => isO f_13 a_8 7 ∧ wp_X4_replace a_8 x1 a_12 f_13 (fun f_19 => gI f_19 a0 4 3 fun v_20 => pV f_19 a0 4 3 (.int (v_20 + (1 : Int32))) fun f_23 => K f_23))))
set_option maxHeartbeats 4000000 in
set_option maxRecDepth 100000 in
theorem cc_X1_moveBoundary (l : Launch) (G : GG) {f : FT} {sz : Nat} {a0 : Nat} {x1 : Int32} {x2 : Int32} {mc ms : Nat} {K : FT → Prop} (h : wp_X1_moveBoundary a0 x1 x2 f mc ms K) : Met l yX1_moveBoundary wsX1_moveBoundary ({ frames := 5, cells := mc, slots := ms, locals := 107 } : Room) (FP G [.ref a0, .int x1, .int x2] f sz) (va_Qv (fun f9 => K f9 : FT → Prop) (FB G (fA f sz)) (fA f sz)) mc ms (fA f sz) := by
  refine Met.ofW (cc := cX1_moveBoundary) (maxL := 3) (ret := none) (by decide) rfl ?_
  intro p e s m args below meth c s₁ B hml hv
  obtain ⟨rfl, hsz, hF, hK, hZ⟩ := hv
  have hx := B.exec
  have hb := B.bytes
  have hr := B.returns
  have hts := atoms_spec (ws := wsX1_moveBoundary) B.pre
  have hown : s.vm.findClass RX1 = some m.cls := findClass_of_methodNamed B.named
  have hlocks := B.notSynchronized
  subst hsz
  have hF := hF.self (sz := s.heap.size)
  generalize hAe : fA f s.heap.size = A at hF hZ ⊢
  have hA : ∀ q : Nat, s.heap.size ≤ q → A q := fun q h => by rw [← hAe]; exact Or.inr h
  have hS : va_S A s.heap s.heap [] := va_S.rf
  have hin_X1 : ∀ w ∈ wsX10, w ∈ wsX1_moveBoundary := by decide +kernel
  have hin_X7 : ∀ w ∈ wsX70, w ∈ wsX1_moveBoundary := by decide +kernel
  have hbc : 0 + mc ≤ mc := by omega
  have hbs : 0 + ms ≤ ms := by omega
  have hl := lv_entry ([.ref a0, .int x1, .int x2]) (n := 3) (Nat.le_of_ble_eq_true rfl)
  rw [lg_entry_eq]
  generalize (lg_sl ([.ref a0, .int x1, .int x2]) ++ List.replicate (3 - (lg_sl ([.ref a0, .int x1, .int x2])).length) Slot.unset).toArray = ls at hl ⊢
  have hl : lv_has ls 3 [(0, .ref a0), (1, .int x1), (2, .int x2)] := hl
  unfold wp_X1_moveBoundary at h
  refine lv_aload_n hx hb dX1_moveBoundary_0 rfl (lv_at hl 0 rfl) ?_
  obtain ⟨fs_2, a_1, he_fs_2, hv_fs_2, h⟩ := h
  refine fw_get (C := RX1) (T := TX1) (N := 4) hx hb hts hin_X1 hown hK hF he_fs_2 rfl 0 (by decide) (hts (.fieldLink RX1 16 "FrontCodedIndex$Inserter" "tree" "LFrontCodedIndex$Tree;") (by decide +kernel)) (fun _ h9 => h9) hv_fs_2 dX1_moveBoundary_1 ?_
  refine lv_iconst (v := (0 : Int32)) hx hb dX1_moveBoundary_4 (by decide) ?_
  obtain ⟨⟨fs_a_3, hrc_a_3⟩, h⟩ := h
  refine fw_cV_q_p (As := [.int (0 : Int32)]) (rest := []) ⟨hx, hb, hml, hown, hts⟩ (cc_X7_tier l G h) (⟨callB_of 1 hts ggX1_moveBoundary_X7_tier rfl rfl rfl (hts (.initialized RX7) (by decide +kernel)) (hts (.methodLink RX1 79 yX7_tier) (by decide +kernel)) (by decide +kernel) ⟨Nat.le_of_ble_eq_true rfl, Nat.le_of_ble_eq_true rfl⟩, hts (.instanceMethod yX7_tier) (by decide +kernel), hts (.selects RX7 yX7_tier yX7_tier) (by decide +kernel)⟩) rfl hrc_a_3 hK hZ hF hS hA rfl hl.1 rfl (Nat.le_of_ble_eq_true rfl) dX1_moveBoundary_5 ⟨by show _ ≤ mc; omega, by show _ ≤ ms; omega⟩ (fun a_3 H locs h hF hS => ?_)
  simp only [Nat.add_zero]
  refine lv_iload_n hx hb dX1_moveBoundary_8 rfl (lv_at hl 1 rfl) ?_
  refine lv_iload_n hx hb dX1_moveBoundary_9 rfl (lv_at hl 2 rfl) ?_
  obtain ⟨⟨fs_u_4, hrc_u_4⟩, h⟩ := h
  refine fw_cV_v (As := [.int x1, .int x2]) (rest := []) ⟨hx, hb, hml, hown, hts⟩ (cc_X2_replace l G h) (⟨callB_of 2 hts ggX1_moveBoundary_X2_replace rfl rfl rfl (hts (.initialized RX2) (by decide +kernel)) (hts (.methodLink RX1 112 yX2_replace) (by decide +kernel)) (by decide +kernel) ⟨Nat.le_of_ble_eq_true rfl, Nat.le_of_ble_eq_true rfl⟩, hts (.instanceMethod yX2_replace) (by decide +kernel), hts (.selects RX2 yX2_replace yX2_replace) (by decide +kernel)⟩) rfl hrc_u_4 hK hZ hF hS hA rfl hl.1 rfl (Nat.le_of_ble_eq_true rfl) dX1_moveBoundary_10 ⟨by show _ ≤ mc; omega, by show _ ≤ ms; omega⟩ (fun f_5 H locs h hF hS => ?_)
  simp only [Nat.add_zero]
  refine lv_aload_n hx hb dX1_moveBoundary_13 rfl (lv_at hl 0 rfl) ?_
  obtain ⟨fs_7, a_6, he_fs_7, hv_fs_7, h⟩ := h
  refine fw_get (C := RX1) (T := TX1) (N := 4) hx hb hts hin_X1 hown hK hF he_fs_7 rfl 0 (by decide) (hts (.fieldLink RX1 16 "FrontCodedIndex$Inserter" "tree" "LFrontCodedIndex$Tree;") (by decide +kernel)) (fun _ h9 => h9) hv_fs_7 dX1_moveBoundary_14 ?_
  obtain ⟨fs_9, a_8, he_fs_9, hv_fs_9, h⟩ := h
  refine fw_getN (C := RX7) (T := TX7) (N := 8) hx hb hts hin_X7 hown hK hF he_fs_9 rfl 2 (by decide) (va_Nw.use rfl (hZ.2.1 (.fieldLinkNest RX1 64 "FrontCodedIndex$Tree" "separators" "LFrontCodedIndex$KeyRow;" "FrontCodedIndex") (by decide +kernel))) (fun _ h9 => h9) hv_fs_9 dX1_moveBoundary_17 ?_
  refine lv_iload_n hx hb dX1_moveBoundary_20 rfl (lv_at hl 1 rfl) ?_
  refine lv_aload_n hx hb dX1_moveBoundary_21 rfl (lv_at hl 0 rfl) ?_
  obtain ⟨fs_11, a_10, he_fs_11, hv_fs_11, h⟩ := h
  refine fw_get (C := RX1) (T := TX1) (N := 4) hx hb hts hin_X1 hown hK hF he_fs_11 rfl 0 (by decide) (hts (.fieldLink RX1 16 "FrontCodedIndex$Inserter" "tree" "LFrontCodedIndex$Tree;") (by decide +kernel)) (fun _ h9 => h9) hv_fs_11 dX1_moveBoundary_22 ?_
  refine lv_iload_n hx hb dX1_moveBoundary_25 rfl (lv_at hl 2 rfl) ?_
  obtain ⟨ga_14, gb_15, hga_ga_14, hgb_ga_14, h⟩ := h
  obtain ⟨⟨fs_a_12, hrc_a_12⟩, h⟩ := h
  refine fw_cV_q_w (As := [.int x2]) (rest := [.int x1, .ref a_8]) ⟨hx, hb, hml, hown, hts⟩ (cc_X7_shortestBefore l G h) (⟨callB_of 1 hts ggX1_moveBoundary_X7_shortestBefore rfl rfl rfl (hts (.initialized RX7) (by decide +kernel)) (hts (.methodLink RX1 115 yX7_shortestBefore) (by decide +kernel)) (by decide +kernel) ⟨Nat.le_of_ble_eq_true rfl, Nat.le_of_ble_eq_true rfl⟩, hts (.instanceMethod yX7_shortestBefore) (by decide +kernel), hts (.selects RX7 yX7_shortestBefore yX7_shortestBefore) (by decide +kernel)⟩) rfl hrc_a_12 hK hZ hF hS hA rfl hl.1 rfl (Nat.le_of_ble_eq_true rfl) dX1_moveBoundary_26 ⟨by show _ ≤ mc; omega, by show _ ≤ ms; omega⟩ (fun a_12 f_13 H locs h hF hS => ?_)
  obtain ⟨cs_16, hcs⟩ : ∃ z, z = (0 + ga_14) := ⟨_, rfl⟩; obtain ⟨sl_17, hsl⟩ : ∃ z, z = (0 + gb_15) := ⟨_, rfl⟩
  have hbc : cs_16 + (mc - ga_14) ≤ mc := by omega
  have hbs : sl_17 + (ms - gb_15) ≤ ms := by omega
  refine W.widen (k := cs_16) (n := sl_17) (by omega) (by omega) ?_
  clear hcs hsl
  obtain ⟨⟨fs_u_18, hrc_u_18⟩, h⟩ := h
  refine fw_cV_v (As := [.int x1, .ref a_12]) (rest := []) ⟨hx, hb, hml, hown, hts⟩ (cc_X4_replace l G h) (⟨callB_of 2 hts ggX1_moveBoundary_X4_replace rfl rfl rfl (hts (.initialized RX4) (by decide +kernel)) (hts (.methodLink RX1 119 yX4_replace) (by decide +kernel)) (by decide +kernel) ⟨Nat.le_of_ble_eq_true rfl, Nat.le_of_ble_eq_true rfl⟩, hts (.instanceMethod yX4_replace) (by decide +kernel), hts (.selects RX4 yX4_replace yX4_replace) (by decide +kernel)⟩) rfl hrc_u_18 hK hZ hF hS hA rfl hl.1 rfl (Nat.le_of_ble_eq_true rfl) dX1_moveBoundary_29 ⟨by show _ ≤ mc; omega, by show _ ≤ ms; omega⟩ (fun f_19 H locs h hF hS => ?_)
  simp only [Nat.add_zero]
  refine lv_aload_n hx hb dX1_moveBoundary_32 rfl (lv_at hl 0 rfl) ?_
  refine lv_dup hx hb dX1_moveBoundary_33 rfl ?_
  obtain ⟨fs_21, v_20, he_fs_21, hv_fs_21, h⟩ := h
  refine fw_get (C := RX1) (T := TX1) (N := 4) hx hb hts hin_X1 hown hK hF he_fs_21 rfl 3 (by decide) (hts (.fieldLink RX1 13 "FrontCodedIndex$Inserter" "redistributions" "I") (by decide +kernel)) (fun _ h9 => h9) hv_fs_21 dX1_moveBoundary_34 ?_
  refine lv_iconst (v := (1 : Int32)) hx hb dX1_moveBoundary_37 (by decide) ?_
  refine lv_iadd hx hb dX1_moveBoundary_38 ?_
  obtain ⟨fs_22, he_fs_22, hl_fs_22, h⟩ := h
  refine fw_put (v := .int (v_20 + (1 : Int32))) (ty := .int) (C := RX1) (T := TX1) (N := 4) hx hb hts hin_X1 tyX1 (tyX1_ok) nmX1 hown hK hF hS he_fs_22 rfl 3 (by decide) (hts (.fieldLink RX1 13 "FrontCodedIndex$Inserter" "redistributions" "I") (by decide +kernel)) (fun _ h9 => h9) rfl (by decide +kernel) rfl rfl hl_fs_22 dX1_moveBoundary_39 (fun H locs hF hS => ?_)
  obtain ⟨f_23, hf_f_23⟩ : ∃ z, z = fup f_19 a0 (.inr (4, fs_22.set 3 (.int (v_20 + (1 : Int32))))) := ⟨_, rfl⟩
  rw [← hf_f_23] at hF; have h := h f_23 hf_f_23
  refine W.widen (k := mc) (n := ms) (by omega) (by omega) ?_
  exact W.vret hx hb hr (fun t ht hW => ⟨⟨f_23, rfl, h, by rw [ht]; exact hF, FK.moved hW.alike hK⟩, hS.F ht⟩) hS.2.2 dX1_moveBoundary_42
theorem dX1_giveLeft_0 : decode cX1_giveLeft 0 = .ok (.aload_n 0, 1) := by decide +kernel
theorem dX1_giveLeft_1 : decode cX1_giveLeft 1 = .ok (.getfield 16, 3) := by decide +kernel
theorem dX1_giveLeft_4 : decode cX1_giveLeft 4 = .ok (.iconst 0, 1) := by decide +kernel
theorem dX1_giveLeft_5 : decode cX1_giveLeft 5 = .ok (.iload_n 1, 1) := by decide +kernel
theorem dX1_giveLeft_6 : decode cX1_giveLeft 6 = .ok (.invokevirtual 92, 3) := by decide +kernel
theorem dX1_giveLeft_9 : decode cX1_giveLeft 9 = .ok (.ifCond .ne 5, 3) := by decide +kernel
theorem dX1_giveLeft_12 : decode cX1_giveLeft 12 = .ok (.iconst 0, 1) := by decide +kernel
theorem dX1_giveLeft_13 : decode cX1_giveLeft 13 = .ok (.ireturn, 1) := by decide +kernel
theorem dX1_giveLeft_14 : decode cX1_giveLeft 14 = .ok (.aload_n 0, 1) := by decide +kernel
theorem dX1_giveLeft_15 : decode cX1_giveLeft 15 = .ok (.getfield 16, 3) := by decide +kernel
theorem dX1_giveLeft_18 : decode cX1_giveLeft 18 = .ok (.iconst 0, 1) := by decide +kernel
theorem dX1_giveLeft_19 : decode cX1_giveLeft 19 = .ok (.iload_n 1, 1) := by decide +kernel
theorem dX1_giveLeft_20 : decode cX1_giveLeft 20 = .ok (.invokevirtual 96, 3) := by decide +kernel
theorem dX1_giveLeft_23 : decode cX1_giveLeft 23 = .ok (.istore_n 2, 1) := by decide +kernel
theorem dX1_giveLeft_24 : decode cX1_giveLeft 24 = .ok (.aload_n 0, 1) := by decide +kernel
theorem dX1_giveLeft_25 : decode cX1_giveLeft 25 = .ok (.getfield 16, 3) := by decide +kernel
theorem dX1_giveLeft_28 : decode cX1_giveLeft 28 = .ok (.iconst 0, 1) := by decide +kernel
theorem dX1_giveLeft_29 : decode cX1_giveLeft 29 = .ok (.iload_n 1, 1) := by decide +kernel
theorem dX1_giveLeft_30 : decode cX1_giveLeft 30 = .ok (.invokevirtual 99, 3) := by decide +kernel
theorem dX1_giveLeft_33 : decode cX1_giveLeft 33 = .ok (.iconst 1, 1) := by decide +kernel
theorem dX1_giveLeft_34 : decode cX1_giveLeft 34 = .ok (.iadd, 1) := by decide +kernel
theorem dX1_giveLeft_35 : decode cX1_giveLeft 35 = .ok (.istore_n 3, 1) := by decide +kernel
theorem dX1_giveLeft_36 : decode cX1_giveLeft 36 = .ok (.iload_n 3, 1) := by decide +kernel
theorem dX1_giveLeft_37 : decode cX1_giveLeft 37 = .ok (.iload_n 2, 1) := by decide +kernel
theorem dX1_giveLeft_38 : decode cX1_giveLeft 38 = .ok (.if_icmp .ge 29, 3) := by decide +kernel
theorem dX1_giveLeft_41 : decode cX1_giveLeft 41 = .ok (.aload_n 0, 1) := by decide +kernel
theorem dX1_giveLeft_42 : decode cX1_giveLeft 42 = .ok (.getfield 16, 3) := by decide +kernel
theorem dX1_giveLeft_45 : decode cX1_giveLeft 45 = .ok (.iconst 0, 1) := by decide +kernel
theorem dX1_giveLeft_46 : decode cX1_giveLeft 46 = .ok (.iload_n 3, 1) := by decide +kernel
theorem dX1_giveLeft_47 : decode cX1_giveLeft 47 = .ok (.iload_n 2, 1) := by decide +kernel
theorem dX1_giveLeft_48 : decode cX1_giveLeft 48 = .ok (.invokevirtual 102, 3) := by decide +kernel
theorem dX1_giveLeft_51 : decode cX1_giveLeft 51 = .ok (.aload_n 0, 1) := by decide +kernel
theorem dX1_giveLeft_52 : decode cX1_giveLeft 52 = .ok (.getfield 16, 3) := by decide +kernel
theorem dX1_giveLeft_55 : decode cX1_giveLeft 55 = .ok (.getfield 34, 3) := by decide +kernel
theorem dX1_giveLeft_58 : decode cX1_giveLeft 58 = .ok (.if_icmp .le 9, 3) := by decide +kernel
theorem dX1_giveLeft_61 : decode cX1_giveLeft 61 = .ok (.iinc 3 1, 3) := by decide +kernel
theorem dX1_giveLeft_64 : decode cX1_giveLeft 64 = .ok (.goto (-28), 3) := by decide +kernel
theorem dX1_giveLeft_67 : decode cX1_giveLeft 67 = .ok (.aload_n 0, 1) := by decide +kernel
theorem dX1_giveLeft_68 : decode cX1_giveLeft 68 = .ok (.getfield 16, 3) := by decide +kernel
theorem dX1_giveLeft_71 : decode cX1_giveLeft 71 = .ok (.iconst 0, 1) := by decide +kernel
theorem dX1_giveLeft_72 : decode cX1_giveLeft 72 = .ok (.aload_n 0, 1) := by decide +kernel
theorem dX1_giveLeft_73 : decode cX1_giveLeft 73 = .ok (.getfield 16, 3) := by decide +kernel
theorem dX1_giveLeft_76 : decode cX1_giveLeft 76 = .ok (.iconst 0, 1) := by decide +kernel
theorem dX1_giveLeft_77 : decode cX1_giveLeft 77 = .ok (.iload_n 1, 1) := by decide +kernel
theorem dX1_giveLeft_78 : decode cX1_giveLeft 78 = .ok (.iconst 1, 1) := by decide +kernel
theorem dX1_giveLeft_79 : decode cX1_giveLeft 79 = .ok (.isub, 1) := by decide +kernel
theorem dX1_giveLeft_80 : decode cX1_giveLeft 80 = .ok (.invokevirtual 99, 3) := by decide +kernel
theorem dX1_giveLeft_83 : decode cX1_giveLeft 83 = .ok (.iload_n 3, 1) := by decide +kernel
theorem dX1_giveLeft_84 : decode cX1_giveLeft 84 = .ok (.invokevirtual 102, 3) := by decide +kernel
theorem dX1_giveLeft_87 : decode cX1_giveLeft 87 = .ok (.aload_n 0, 1) := by decide +kernel
theorem dX1_giveLeft_88 : decode cX1_giveLeft 88 = .ok (.getfield 16, 3) := by decide +kernel
theorem dX1_giveLeft_91 : decode cX1_giveLeft 91 = .ok (.getfield 34, 3) := by decide +kernel
theorem dX1_giveLeft_94 : decode cX1_giveLeft 94 = .ok (.if_icmp .le 5, 3) := by decide +kernel
theorem dX1_giveLeft_97 : decode cX1_giveLeft 97 = .ok (.iconst 0, 1) := by decide +kernel
theorem dX1_giveLeft_98 : decode cX1_giveLeft 98 = .ok (.ireturn, 1) := by decide +kernel
theorem dX1_giveLeft_99 : decode cX1_giveLeft 99 = .ok (.aload_n 0, 1) := by decide +kernel
theorem dX1_giveLeft_100 : decode cX1_giveLeft 100 = .ok (.iload_n 1, 1) := by decide +kernel
theorem dX1_giveLeft_101 : decode cX1_giveLeft 101 = .ok (.iconst 1, 1) := by decide +kernel
theorem dX1_giveLeft_102 : decode cX1_giveLeft 102 = .ok (.isub, 1) := by decide +kernel
theorem dX1_giveLeft_103 : decode cX1_giveLeft 103 = .ok (.iload_n 3, 1) := by decide +kernel
theorem dX1_giveLeft_104 : decode cX1_giveLeft 104 = .ok (.invokevirtual 106, 3) := by decide +kernel
theorem dX1_giveLeft_107 : decode cX1_giveLeft 107 = .ok (.iconst 1, 1) := by decide +kernel
theorem dX1_giveLeft_108 : decode cX1_giveLeft 108 = .ok (.ireturn, 1) := by decide +kernel
set_option maxRecDepth 20000 in
theorem ggX1_giveLeft_X1_moveBoundary : GoodIn wsX1_giveLeft wsX1_moveBoundary := goodIn_r _ [98, 1, 99, 100, 13, 14, 5, 15, 16, 17, 18, 19, 20, 21, 22, 23, 24, 25, 26, 27, 28, 29, 30, 31, 32, 33, 34, 35, 36, 37, 38, 39, 40, 41, 101, 102, 103, 45, 104, 47, 52, 105, 106, 107, 108, 68, 69, 70, 71, 72, 73, 74, 75, 76, 77, 78, 90, 91, 92, 87, 93, 89, 109, 110, 111, 112, 113, 114, 115, 116, 117, 118, 119, 120, 121, 122, 123, 124, 125, 126, 127, 128, 129, 130, 131, 132, 133, 134, 135, 136, 137, 138, 139, 140, 141, 142, 143, 144, 145, 146, 147, 148, 149, 150, 151, 152, 153, 154, 155, 156, 157, 158, 159, 160, 161, 162, 163, 164, 165, 166, 167, 168, 169, 170, 171] (by decide +kernel) (by decide +kernel)
set_option maxRecDepth 20000 in
theorem ggX1_giveLeft_X7_endOf : GoodIn wsX1_giveLeft wsX7_endOf := goodIn_r _ [61, 12, 13, 14, 5, 15, 16, 17, 18, 19, 20, 21, 22, 23, 24, 25, 26, 27, 28, 29, 30, 31, 32, 33, 34, 35, 36, 37, 38, 39, 40, 41, 57, 49, 50, 45, 51, 47, 52, 156, 157, 158, 159, 160, 161, 162, 163, 164, 165, 166, 167, 168] (by decide +kernel) (by decide +kernel)
set_option maxRecDepth 20000 in
theorem ggX1_giveLeft_X7_hasLeftSibling : GoodIn wsX1_giveLeft wsX7_hasLeftSibling := goodIn_r _ [6, 7, 8, 9, 10, 5, 11, 12, 13, 14, 15, 16, 17, 18, 19, 20, 21, 22, 23, 24, 25, 26, 27, 28, 29, 30, 31, 32, 33, 34, 35, 36, 37, 38, 39, 40, 41, 42, 43, 44, 45, 46, 47, 48, 49, 50, 51, 52, 53, 54, 55, 56, 57, 156, 157, 158, 159, 160, 161, 162, 163, 164, 165, 166, 167, 168] (by decide +kernel) (by decide +kernel)
set_option maxRecDepth 20000 in
theorem ggX1_giveLeft_X7_spanBytes : GoodIn wsX1_giveLeft wsX7_spanBytes := goodIn_r _ [66, 67, 68, 69, 70, 71, 72, 73, 74, 75, 76, 77, 20, 21, 22, 23, 24, 78, 26, 27, 28, 29, 30, 31, 32, 33, 34, 35, 36, 37, 38, 39, 40, 41, 79, 80, 81, 5, 82, 83, 12, 13, 14, 15, 16, 17, 18, 19, 25, 57, 49, 50, 45, 51, 47, 52, 84, 85, 86, 87, 88, 89, 90, 91, 92, 93, 156, 157, 158, 159, 160, 161, 162, 163, 169, 170, 164, 165, 166, 167, 168, 171] (by decide +kernel) (by decide +kernel)
set_option maxRecDepth 20000 in
theorem ggX1_giveLeft_X7_startOf : GoodIn wsX1_giveLeft wsX7_startOf := goodIn_r _ [56, 12, 13, 14, 5, 15, 16, 17, 18, 19, 20, 21, 22, 23, 24, 25, 26, 27, 28, 29, 30, 31, 32, 33, 34, 35, 36, 37, 38, 39, 40, 41, 57, 49, 50, 45, 51, 47, 52, 156, 157, 158, 159, 160, 161, 162, 163, 164, 165, 166, 167, 168] (by decide +kernel) (by decide +kernel)
def wp_X1_giveLeft_67 (a0 : Nat) (x1 : Int32) (y3 : Int32) (f : FT) (bc bs : Nat) (K : Int32 → FT → Prop)  : Prop :=
  gA f a0 4 0 fun a_1 => gA f a0 4 0 fun a_3 => isO f a_3 10 ∧ wp_X7_startOf a_3 (0 : Int32) (x1 - (1 : Int32)) f (fun r_5 => isO f a_1 10 ∧ wp_X7_spanBytes a_1 (0 : Int32) r_5 y3 f (fun r_6 => gA f a0 4 0 fun a_7 => gI f a_7 10 7 fun v_9 => ((r_6 ≤ v_9 → ∃ ga_14 gb_15 : Nat, ga_14 ≤ bc ∧ gb_15 ≤ bs ∧ isO f a0 4 ∧ wp_X1_moveBoundary a0 (x1 - (1 : Int32)) y3 f ga_14 gb_15 (fun f_13 => K (1 : Int32) f_13)) ∧
 (¬ (r_6 ≤ v_9) → K (0 : Int32) f))))
def wp_X1_giveLeft_36 (a0 : Nat) (x1 : Int32) (y2 : Int32) (K : Int32 → FT → Prop)  (C36 : Int32 × FT × Nat × Nat → Prop) : Int32 × FT × Nat × Nat → Prop := fun s9 => match s9 with
  | (y3, f, bc, bs) => ((y2 ≤ y3 → wp_X1_giveLeft_67 a0 x1 y3 f bc bs K) ∧
 (¬ (y2 ≤ y3) → gA f a0 4 0 fun a_19 => isO f a_19 10 ∧ wp_X7_spanBytes a_19 (0 : Int32) y3 y2 f (fun r_21 => gA f a0 4 0 fun a_22 => gI f a_22 10 7 fun v_24 => ((r_21 ≤ v_24 → wp_X1_giveLeft_67 a0 x1 y3 f bc bs K) ∧
 (¬ (r_21 ≤ v_24) → ∀ v_27 : Int32, v_27 = y3 + 1 → C36 (v_27, f, bc, bs))))))
def wp_X1_giveLeft (a0 : Nat) (x1 : Int32) (f : FT) (mc ms : Nat) (K : Int32 → FT → Prop) : Prop :=
  gA f a0 4 0 fun a_29 => isO f a_29 10 ∧ wp_X7_hasLeftSibling a_29 (0 : Int32) x1 f (fun r_31 => ((¬ r_31 = (0 : Int32) → gA f a0 4 0 fun a_33 => isO f a_33 10 ∧ wp_X7_endOf a_33 (0 : Int32) x1 f (fun r_35 => gA f a0 4 0 fun a_36 => isO f a_36 10 ∧ wp_X7_startOf a_36 (0 : Int32) x1 f (fun r_38 => ∀ v_39 : Int32, v_39 = (r_38 + (1 : Int32)) → ∃ n_41, loopW (wp_X1_giveLeft_36 a0 x1 r_35 K) n_41 (v_39, f, mc, ms)))) ∧
 (r_31 = (0 : Int32) → K (0 : Int32) f)))
set_option maxHeartbeats 4000000 in
set_option maxRecDepth 100000 in
theorem cc_X1_giveLeft (l : Launch) (G : GG) {f : FT} {sz : Nat} {a0 : Nat} {x1 : Int32} {mc ms : Nat} {K : Int32 → FT → Prop} (h : wp_X1_giveLeft a0 x1 f mc ms K) : Met l yX1_giveLeft wsX1_giveLeft ({ frames := 6, cells := mc, slots := ms, locals := 139 } : Room) (FP G [.ref a0, .int x1] f sz) (va_Qi (fun r f9 => K r f9 : Int32 → FT → Prop) (FB G (fA f sz)) (fA f sz)) mc ms (fA f sz) := by
  refine Met.ofW (cc := cX1_giveLeft) (maxL := 4) (ret := (some .boolean)) (by decide) rfl ?_
  intro p e s m args below meth c s₁ B hml hv
  obtain ⟨rfl, hsz, hF, hK, hZ⟩ := hv
  have hx := B.exec
  have hb := B.bytes
  have hr := B.returns
  have hts := atoms_spec (ws := wsX1_giveLeft) B.pre
  have hown : s.vm.findClass RX1 = some m.cls := findClass_of_methodNamed B.named
  have hlocks := B.notSynchronized
  subst hsz
  have hF := hF.self (sz := s.heap.size)
  generalize hAe : fA f s.heap.size = A at hF hZ ⊢
  have hA : ∀ q : Nat, s.heap.size ≤ q → A q := fun q h => by rw [← hAe]; exact Or.inr h
  have hS : va_S A s.heap s.heap [] := va_S.rf
  have hin_X1 : ∀ w ∈ wsX10, w ∈ wsX1_giveLeft := by decide +kernel
  have hin_X7 : ∀ w ∈ wsX70, w ∈ wsX1_giveLeft := by decide +kernel
  have hbc : 0 + mc ≤ mc := by omega
  have hbs : 0 + ms ≤ ms := by omega
  have J67 : ∀ (y3 : Int32) (f : FT) (bc : Nat) (bs : Nat) (H : Heap) (locs : List Loc) (ls : Array Slot) (cs sl : Nat), wp_X1_giveLeft_67 a0 x1 y3 f bc bs K  → cs + bc ≤ mc → sl + bs ≤ ms → Fw G A f H → va_S A s.heap H locs → lv_has ls 4 [(0, .ref a0), (1, .int x1), (3, .int y3)] → W p l e ({ frames := 6, cells := mc, slots := ms, locals := 139 } : Room) s m ([.ref a0, .int x1] : List Value).toArray below meth c H locs cs sl (MQ below (va_Qi (fun r f9 => K r f9 : Int32 → FT → Prop) (FB G A) A) ([.ref a0, .int x1] : List Value).toArray s mc ms A) (F0 m 67 ls []) := by
    intro y3 f bc bs H locs ls cs sl h hbc hbs hF hS hl
    unfold wp_X1_giveLeft_67 at h
    refine lv_aload_n hx hb dX1_giveLeft_67 rfl (lv_at hl 0 rfl) ?_
    obtain ⟨fs_2, a_1, he_fs_2, hv_fs_2, h⟩ := h
    refine fw_get (C := RX1) (T := TX1) (N := 4) hx hb hts hin_X1 hown hK hF he_fs_2 rfl 0 (by decide) (hts (.fieldLink RX1 16 "FrontCodedIndex$Inserter" "tree" "LFrontCodedIndex$Tree;") (by decide +kernel)) (fun _ h9 => h9) hv_fs_2 dX1_giveLeft_68 ?_
    refine lv_iconst (v := (0 : Int32)) hx hb dX1_giveLeft_71 (by decide) ?_
    refine lv_aload_n hx hb dX1_giveLeft_72 rfl (lv_at hl 0 rfl) ?_
    obtain ⟨fs_4, a_3, he_fs_4, hv_fs_4, h⟩ := h
    refine fw_get (C := RX1) (T := TX1) (N := 4) hx hb hts hin_X1 hown hK hF he_fs_4 rfl 0 (by decide) (hts (.fieldLink RX1 16 "FrontCodedIndex$Inserter" "tree" "LFrontCodedIndex$Tree;") (by decide +kernel)) (fun _ h9 => h9) hv_fs_4 dX1_giveLeft_73 ?_
    refine lv_iconst (v := (0 : Int32)) hx hb dX1_giveLeft_76 (by decide) ?_
    refine lv_iload_n hx hb dX1_giveLeft_77 rfl (lv_at hl 1 rfl) ?_
    refine lv_iconst (v := (1 : Int32)) hx hb dX1_giveLeft_78 (by decide) ?_
    refine lv_isub hx hb dX1_giveLeft_79 ?_
    obtain ⟨⟨fs_r_5, hrc_r_5⟩, h⟩ := h
    refine fw_cV_i_p (As := [.int (0 : Int32), .int (x1 - (1 : Int32))]) (rest := [.int (0 : Int32), .ref a_1]) ⟨hx, hb, hml, hown, hts⟩ (cc_X7_startOf l G h) (⟨callB_of 2 hts ggX1_giveLeft_X7_startOf rfl rfl rfl (hts (.initialized RX7) (by decide +kernel)) (hts (.methodLink RX1 99 yX7_startOf) (by decide +kernel)) (by decide +kernel) ⟨Nat.le_of_ble_eq_true rfl, Nat.le_of_ble_eq_true rfl⟩, hts (.instanceMethod yX7_startOf) (by decide +kernel), hts (.selects RX7 yX7_startOf yX7_startOf) (by decide +kernel)⟩) rfl hrc_r_5 hK hZ hF hS hA rfl hl.1 rfl (Nat.le_of_ble_eq_true rfl) dX1_giveLeft_80 ⟨by show _ ≤ mc; omega, by show _ ≤ ms; omega⟩ (fun r_5 H locs h hF hS => ?_)
    simp only [Nat.add_zero]
    refine lv_iload_n hx hb dX1_giveLeft_83 rfl (lv_at hl 2 rfl) ?_
    obtain ⟨⟨fs_r_6, hrc_r_6⟩, h⟩ := h
    refine fw_cV_i_p (As := [.int (0 : Int32), .int r_5, .int y3]) (rest := []) ⟨hx, hb, hml, hown, hts⟩ (cc_X7_spanBytes l G h) (⟨callB_of 3 hts ggX1_giveLeft_X7_spanBytes rfl rfl rfl (hts (.initialized RX7) (by decide +kernel)) (hts (.methodLink RX1 102 yX7_spanBytes) (by decide +kernel)) (by decide +kernel) ⟨Nat.le_of_ble_eq_true rfl, Nat.le_of_ble_eq_true rfl⟩, hts (.instanceMethod yX7_spanBytes) (by decide +kernel), hts (.selects RX7 yX7_spanBytes yX7_spanBytes) (by decide +kernel)⟩) rfl hrc_r_6 hK hZ hF hS hA rfl hl.1 rfl (Nat.le_of_ble_eq_true rfl) dX1_giveLeft_84 ⟨by show _ ≤ mc; omega, by show _ ≤ ms; omega⟩ (fun r_6 H locs h hF hS => ?_)
    simp only [Nat.add_zero]
    refine lv_aload_n hx hb dX1_giveLeft_87 rfl (lv_at hl 0 rfl) ?_
    obtain ⟨fs_8, a_7, he_fs_8, hv_fs_8, h⟩ := h
    refine fw_get (C := RX1) (T := TX1) (N := 4) hx hb hts hin_X1 hown hK hF he_fs_8 rfl 0 (by decide) (hts (.fieldLink RX1 16 "FrontCodedIndex$Inserter" "tree" "LFrontCodedIndex$Tree;") (by decide +kernel)) (fun _ h9 => h9) hv_fs_8 dX1_giveLeft_88 ?_
    obtain ⟨fs_10, v_9, he_fs_10, hv_fs_10, h⟩ := h
    refine fw_getN (C := RX7) (T := TX7) (N := 8) hx hb hts hin_X7 hown hK hF he_fs_10 rfl 7 (by decide) (va_Nw.use rfl (hZ.2.1 (.fieldLinkNest RX1 34 "FrontCodedIndex$Tree" "capacity" "I" "FrontCodedIndex") (by decide +kernel))) (fun _ h9 => h9) hv_fs_10 dX1_giveLeft_91 ?_
    obtain ⟨h1, h2⟩ := h
    refine lv_icmp_le (tgt := 99) hx hb dX1_giveLeft_94 (by decide) (fun c_11 => ?_) (fun c_11 => ?_)
    · have h := h1 c_11
      refine lv_aload_n hx hb dX1_giveLeft_99 rfl (lv_at hl 0 rfl) ?_
      refine lv_iload_n hx hb dX1_giveLeft_100 rfl (lv_at hl 1 rfl) ?_
      refine lv_iconst (v := (1 : Int32)) hx hb dX1_giveLeft_101 (by decide) ?_
      refine lv_isub hx hb dX1_giveLeft_102 ?_
      refine lv_iload_n hx hb dX1_giveLeft_103 rfl (lv_at hl 2 rfl) ?_
      obtain ⟨ga_14, gb_15, hga_ga_14, hgb_ga_14, h⟩ := h
      obtain ⟨⟨fs_u_12, hrc_u_12⟩, h⟩ := h
      refine fw_cV_v (As := [.int (x1 - (1 : Int32)), .int y3]) (rest := []) ⟨hx, hb, hml, hown, hts⟩ (cc_X1_moveBoundary l G h) (⟨callB_of 2 hts ggX1_giveLeft_X1_moveBoundary rfl rfl rfl (hts (.initialized RX1) (by decide +kernel)) (hts (.methodLink RX1 106 yX1_moveBoundary) (by decide +kernel)) (by decide +kernel) ⟨Nat.le_of_ble_eq_true rfl, Nat.le_of_ble_eq_true rfl⟩, hts (.instanceMethod yX1_moveBoundary) (by decide +kernel), hts (.selects RX1 yX1_moveBoundary yX1_moveBoundary) (by decide +kernel)⟩) rfl hrc_u_12 hK hZ hF hS hA rfl hl.1 rfl (Nat.le_of_ble_eq_true rfl) dX1_giveLeft_104 ⟨by show _ ≤ mc; omega, by show _ ≤ ms; omega⟩ (fun f_13 H locs h hF hS => ?_)
      obtain ⟨cs_16, hcs⟩ : ∃ z, z = (cs + ga_14) := ⟨_, rfl⟩; obtain ⟨sl_17, hsl⟩ : ∃ z, z = (sl + gb_15) := ⟨_, rfl⟩
      have hbc : cs_16 + (bc - ga_14) ≤ mc := by omega
      have hbs : sl_17 + (bs - gb_15) ≤ ms := by omega
      refine W.widen (k := cs_16) (n := sl_17) (by omega) (by omega) ?_
      clear hcs hsl
      refine lv_iconst (v := (1 : Int32)) hx hb dX1_giveLeft_107 (by decide) ?_
      refine W.widen (k := mc) (n := ms) (by omega) (by omega) ?_
      exact W.zret (v := (1 : Int32)) hx hb hr (by decide) (fun t ht hW => ⟨⟨(1 : Int32), f_13, rfl, h, by rw [ht]; exact hF, FK.moved hW.alike hK⟩, hS.F ht⟩) hS.2.2 dX1_giveLeft_108
    · have h := h2 c_11
      refine lv_iconst (v := (0 : Int32)) hx hb dX1_giveLeft_97 (by decide) ?_
      refine W.widen (k := mc) (n := ms) (by omega) (by omega) ?_
      exact W.zret (v := (0 : Int32)) hx hb hr (by decide) (fun t ht hW => ⟨⟨(0 : Int32), f, rfl, h, by rw [ht]; exact hF, FK.moved hW.alike hK⟩, hS.F ht⟩) hS.2.2 dX1_giveLeft_98
  have L36 : ∀ (y2 : Int32) (j9 : Nat) (y3 : Int32) (f : FT) (bc : Nat) (bs : Nat) (H : Heap) (locs : List Loc) (ls : Array Slot) (cs sl : Nat), loopW (wp_X1_giveLeft_36 a0 x1 y2 K ) j9 (y3, f, bc, bs) → cs + bc ≤ mc → sl + bs ≤ ms → Fw G A f H → va_S A s.heap H locs → lv_has ls 4 [(0, .ref a0), (1, .int x1), (2, .int y2), (3, .int y3)] → W p l e ({ frames := 6, cells := mc, slots := ms, locals := 139 } : Room) s m ([.ref a0, .int x1] : List Value).toArray below meth c H locs cs sl (MQ below (va_Qi (fun r f9 => K r f9 : Int32 → FT → Prop) (FB G A) A) ([.ref a0, .int x1] : List Value).toArray s mc ms A) (F0 m 36 ls []) := by
    intro y2 j9
    induction j9 with
    | zero => intro y3 f bc bs H locs ls cs sl h; exact h.elim
    | succ j9 ih36 =>
      intro y3 f bc bs H locs ls cs sl h hbc hbs hF hS hl
      have h : wp_X1_giveLeft_36 a0 x1 y2 K  (loopW (wp_X1_giveLeft_36 a0 x1 y2 K ) j9) (y3, f, bc, bs) := h
      generalize loopW (wp_X1_giveLeft_36 a0 x1 y2 K ) j9 = C36 at ih36 h
      unfold wp_X1_giveLeft_36 at h
      refine lv_iload_n hx hb dX1_giveLeft_36 rfl (lv_at hl 3 rfl) ?_
      refine lv_iload_n hx hb dX1_giveLeft_37 rfl (lv_at hl 2 rfl) ?_
      obtain ⟨h1, h2⟩ := h
      refine lv_icmp_ge (tgt := 67) hx hb dX1_giveLeft_38 (by decide) (fun c_18 => ?_) (fun c_18 => ?_)
      · have h := h1 c_18
        exact J67 y3 f bc bs _ _ _ _ _ h hbc hbs hF hS (lv_sub hl [0, 1, 3] rfl)
      · have h := h2 c_18
        refine lv_aload_n hx hb dX1_giveLeft_41 rfl (lv_at hl 0 rfl) ?_
        obtain ⟨fs_20, a_19, he_fs_20, hv_fs_20, h⟩ := h
        refine fw_get (C := RX1) (T := TX1) (N := 4) hx hb hts hin_X1 hown hK hF he_fs_20 rfl 0 (by decide) (hts (.fieldLink RX1 16 "FrontCodedIndex$Inserter" "tree" "LFrontCodedIndex$Tree;") (by decide +kernel)) (fun _ h9 => h9) hv_fs_20 dX1_giveLeft_42 ?_
        refine lv_iconst (v := (0 : Int32)) hx hb dX1_giveLeft_45 (by decide) ?_
        refine lv_iload_n hx hb dX1_giveLeft_46 rfl (lv_at hl 3 rfl) ?_
        refine lv_iload_n hx hb dX1_giveLeft_47 rfl (lv_at hl 2 rfl) ?_
        obtain ⟨⟨fs_r_21, hrc_r_21⟩, h⟩ := h
        refine fw_cV_i_p (As := [.int (0 : Int32), .int y3, .int y2]) (rest := []) ⟨hx, hb, hml, hown, hts⟩ (cc_X7_spanBytes l G h) (⟨callB_of 3 hts ggX1_giveLeft_X7_spanBytes rfl rfl rfl (hts (.initialized RX7) (by decide +kernel)) (hts (.methodLink RX1 102 yX7_spanBytes) (by decide +kernel)) (by decide +kernel) ⟨Nat.le_of_ble_eq_true rfl, Nat.le_of_ble_eq_true rfl⟩, hts (.instanceMethod yX7_spanBytes) (by decide +kernel), hts (.selects RX7 yX7_spanBytes yX7_spanBytes) (by decide +kernel)⟩) rfl hrc_r_21 hK hZ hF hS hA rfl hl.1 rfl (Nat.le_of_ble_eq_true rfl) dX1_giveLeft_48 ⟨by show _ ≤ mc; omega, by show _ ≤ ms; omega⟩ (fun r_21 H locs h hF hS => ?_)
        simp only [Nat.add_zero]
        refine lv_aload_n hx hb dX1_giveLeft_51 rfl (lv_at hl 0 rfl) ?_
        obtain ⟨fs_23, a_22, he_fs_23, hv_fs_23, h⟩ := h
        refine fw_get (C := RX1) (T := TX1) (N := 4) hx hb hts hin_X1 hown hK hF he_fs_23 rfl 0 (by decide) (hts (.fieldLink RX1 16 "FrontCodedIndex$Inserter" "tree" "LFrontCodedIndex$Tree;") (by decide +kernel)) (fun _ h9 => h9) hv_fs_23 dX1_giveLeft_52 ?_
        obtain ⟨fs_25, v_24, he_fs_25, hv_fs_25, h⟩ := h
        refine fw_getN (C := RX7) (T := TX7) (N := 8) hx hb hts hin_X7 hown hK hF he_fs_25 rfl 7 (by decide) (va_Nw.use rfl (hZ.2.1 (.fieldLinkNest RX1 34 "FrontCodedIndex$Tree" "capacity" "I" "FrontCodedIndex") (by decide +kernel))) (fun _ h9 => h9) hv_fs_25 dX1_giveLeft_55 ?_
        obtain ⟨h1, h2⟩ := h
        refine lv_icmp_le (tgt := 67) hx hb dX1_giveLeft_58 (by decide) (fun c_26 => ?_) (fun c_26 => ?_)
        · have h := h1 c_26
          exact J67 y3 f bc bs _ _ _ _ _ h hbc hbs hF hS (lv_sub hl [0, 1, 3] rfl)
        · have h := h2 c_26
          obtain ⟨v_27, e_28⟩ : ∃ y : Int32, y = y3 + 1 := ⟨_, rfl⟩
          have h := h v_27 e_28
          refine lv_iinc (v := v_27) (lv' := [(3, .int v_27), (0, .ref a0), (1, .int x1), (2, .int y2)]) hx hb dX1_giveLeft_61 hl (k := 3) rfl (by rw [e_28]; rfl) (by decide) rfl (fun ls hl => ?_)
          refine lv_goto (tgt := 36) hx hb dX1_giveLeft_64 (by decide) ?_
          exact ih36 v_27 f bc bs _ _ _ _ _ h hbc hbs hF hS (lv_sub hl [1, 2, 3, 0] rfl)
  have hl := lv_entry ([.ref a0, .int x1]) (n := 4) (Nat.le_of_ble_eq_true rfl)
  rw [lg_entry_eq]
  generalize (lg_sl ([.ref a0, .int x1]) ++ List.replicate (4 - (lg_sl ([.ref a0, .int x1])).length) Slot.unset).toArray = ls at hl ⊢
  have hl : lv_has ls 4 [(0, .ref a0), (1, .int x1)] := hl
  unfold wp_X1_giveLeft at h
  refine lv_aload_n hx hb dX1_giveLeft_0 rfl (lv_at hl 0 rfl) ?_
  obtain ⟨fs_30, a_29, he_fs_30, hv_fs_30, h⟩ := h
  refine fw_get (C := RX1) (T := TX1) (N := 4) hx hb hts hin_X1 hown hK hF he_fs_30 rfl 0 (by decide) (hts (.fieldLink RX1 16 "FrontCodedIndex$Inserter" "tree" "LFrontCodedIndex$Tree;") (by decide +kernel)) (fun _ h9 => h9) hv_fs_30 dX1_giveLeft_1 ?_
  refine lv_iconst (v := (0 : Int32)) hx hb dX1_giveLeft_4 (by decide) ?_
  refine lv_iload_n hx hb dX1_giveLeft_5 rfl (lv_at hl 1 rfl) ?_
  obtain ⟨⟨fs_r_31, hrc_r_31⟩, h⟩ := h
  refine fw_cV_i_p (As := [.int (0 : Int32), .int x1]) (rest := []) ⟨hx, hb, hml, hown, hts⟩ (cc_X7_hasLeftSibling l G h) (⟨callB_of 2 hts ggX1_giveLeft_X7_hasLeftSibling rfl rfl rfl (hts (.initialized RX7) (by decide +kernel)) (hts (.methodLink RX1 92 yX7_hasLeftSibling) (by decide +kernel)) (by decide +kernel) ⟨Nat.le_of_ble_eq_true rfl, Nat.le_of_ble_eq_true rfl⟩, hts (.instanceMethod yX7_hasLeftSibling) (by decide +kernel), hts (.selects RX7 yX7_hasLeftSibling yX7_hasLeftSibling) (by decide +kernel)⟩) rfl hrc_r_31 hK hZ hF hS hA rfl hl.1 rfl (Nat.le_of_ble_eq_true rfl) dX1_giveLeft_6 ⟨by show _ ≤ mc; omega, by show _ ≤ ms; omega⟩ (fun r_31 H locs h hF hS => ?_)
  simp only [Nat.add_zero]
  obtain ⟨h1, h2⟩ := h
  refine lv_if_ne (tgt := 14) hx hb dX1_giveLeft_9 (by decide) (fun c_32 => ?_) (fun c_32 => ?_)
  · have h := h1 c_32
    refine lv_aload_n hx hb dX1_giveLeft_14 rfl (lv_at hl 0 rfl) ?_
    obtain ⟨fs_34, a_33, he_fs_34, hv_fs_34, h⟩ := h
    refine fw_get (C := RX1) (T := TX1) (N := 4) hx hb hts hin_X1 hown hK hF he_fs_34 rfl 0 (by decide) (hts (.fieldLink RX1 16 "FrontCodedIndex$Inserter" "tree" "LFrontCodedIndex$Tree;") (by decide +kernel)) (fun _ h9 => h9) hv_fs_34 dX1_giveLeft_15 ?_
    refine lv_iconst (v := (0 : Int32)) hx hb dX1_giveLeft_18 (by decide) ?_
    refine lv_iload_n hx hb dX1_giveLeft_19 rfl (lv_at hl 1 rfl) ?_
    obtain ⟨⟨fs_r_35, hrc_r_35⟩, h⟩ := h
    refine fw_cV_i_p (As := [.int (0 : Int32), .int x1]) (rest := []) ⟨hx, hb, hml, hown, hts⟩ (cc_X7_endOf l G h) (⟨callB_of 2 hts ggX1_giveLeft_X7_endOf rfl rfl rfl (hts (.initialized RX7) (by decide +kernel)) (hts (.methodLink RX1 96 yX7_endOf) (by decide +kernel)) (by decide +kernel) ⟨Nat.le_of_ble_eq_true rfl, Nat.le_of_ble_eq_true rfl⟩, hts (.instanceMethod yX7_endOf) (by decide +kernel), hts (.selects RX7 yX7_endOf yX7_endOf) (by decide +kernel)⟩) rfl hrc_r_35 hK hZ hF hS hA rfl hl.1 rfl (Nat.le_of_ble_eq_true rfl) dX1_giveLeft_20 ⟨by show _ ≤ mc; omega, by show _ ≤ ms; omega⟩ (fun r_35 H locs h hF hS => ?_)
    simp only [Nat.add_zero]
    refine lv_istore_n (lv' := [(2, .int r_35), (0, .ref a0), (1, .int x1)]) hx hb dX1_giveLeft_23 rfl hl (by decide) rfl (fun ls hl => ?_)
    refine lv_aload_n hx hb dX1_giveLeft_24 rfl (lv_at hl 1 rfl) ?_
    obtain ⟨fs_37, a_36, he_fs_37, hv_fs_37, h⟩ := h
    refine fw_get (C := RX1) (T := TX1) (N := 4) hx hb hts hin_X1 hown hK hF he_fs_37 rfl 0 (by decide) (hts (.fieldLink RX1 16 "FrontCodedIndex$Inserter" "tree" "LFrontCodedIndex$Tree;") (by decide +kernel)) (fun _ h9 => h9) hv_fs_37 dX1_giveLeft_25 ?_
    refine lv_iconst (v := (0 : Int32)) hx hb dX1_giveLeft_28 (by decide) ?_
    refine lv_iload_n hx hb dX1_giveLeft_29 rfl (lv_at hl 2 rfl) ?_
    obtain ⟨⟨fs_r_38, hrc_r_38⟩, h⟩ := h
    refine fw_cV_i_p (As := [.int (0 : Int32), .int x1]) (rest := []) ⟨hx, hb, hml, hown, hts⟩ (cc_X7_startOf l G h) (⟨callB_of 2 hts ggX1_giveLeft_X7_startOf rfl rfl rfl (hts (.initialized RX7) (by decide +kernel)) (hts (.methodLink RX1 99 yX7_startOf) (by decide +kernel)) (by decide +kernel) ⟨Nat.le_of_ble_eq_true rfl, Nat.le_of_ble_eq_true rfl⟩, hts (.instanceMethod yX7_startOf) (by decide +kernel), hts (.selects RX7 yX7_startOf yX7_startOf) (by decide +kernel)⟩) rfl hrc_r_38 hK hZ hF hS hA rfl hl.1 rfl (Nat.le_of_ble_eq_true rfl) dX1_giveLeft_30 ⟨by show _ ≤ mc; omega, by show _ ≤ ms; omega⟩ (fun r_38 H locs h hF hS => ?_)
    simp only [Nat.add_zero]
    refine lv_iconst (v := (1 : Int32)) hx hb dX1_giveLeft_33 (by decide) ?_
    refine lv_iadd hx hb dX1_giveLeft_34 ?_
    refine lv_topi (fun v_39 e_40 => ?_)
    have h := h v_39 e_40
    refine lv_istore_n (lv' := [(3, .int v_39), (2, .int r_35), (0, .ref a0), (1, .int x1)]) hx hb dX1_giveLeft_35 rfl hl (by decide) rfl (fun ls hl => ?_)
    obtain ⟨n_41, h⟩ := h
    exact L36 r_35 n_41 v_39 f mc ms _ _ _ _ _ h hbc hbs hF hS (lv_sub hl [2, 3, 1, 0] rfl)
  · have h := h2 c_32
    refine lv_iconst (v := (0 : Int32)) hx hb dX1_giveLeft_12 (by decide) ?_
    refine W.widen (k := mc) (n := ms) (by omega) (by omega) ?_
    exact W.zret (v := (0 : Int32)) hx hb hr (by decide) (fun t ht hW => ⟨⟨(0 : Int32), f, rfl, h, by rw [ht]; exact hF, FK.moved hW.alike hK⟩, hS.F ht⟩) hS.2.2 dX1_giveLeft_13
theorem dX7_hasRightSibling_0 : decode cX7_hasRightSibling 0 = .ok (.iload_n 1, 1) := by decide +kernel
theorem dX7_hasRightSibling_1 : decode cX7_hasRightSibling 1 = .ok (.iconst 1, 1) := by decide +kernel
theorem dX7_hasRightSibling_2 : decode cX7_hasRightSibling 2 = .ok (.iadd, 1) := by decide +kernel
theorem dX7_hasRightSibling_3 : decode cX7_hasRightSibling 3 = .ok (.aload_n 0, 1) := by decide +kernel
theorem dX7_hasRightSibling_4 : decode cX7_hasRightSibling 4 = .ok (.getfield 47, 3) := by decide +kernel
theorem dX7_hasRightSibling_7 : decode cX7_hasRightSibling 7 = .ok (.if_icmp .ge 26, 3) := by decide +kernel
theorem dX7_hasRightSibling_10 : decode cX7_hasRightSibling 10 = .ok (.iload_n 2, 1) := by decide +kernel
theorem dX7_hasRightSibling_11 : decode cX7_hasRightSibling 11 = .ok (.iconst 1, 1) := by decide +kernel
theorem dX7_hasRightSibling_12 : decode cX7_hasRightSibling 12 = .ok (.iadd, 1) := by decide +kernel
theorem dX7_hasRightSibling_13 : decode cX7_hasRightSibling 13 = .ok (.aload_n 0, 1) := by decide +kernel
theorem dX7_hasRightSibling_14 : decode cX7_hasRightSibling 14 = .ok (.iload_n 1, 1) := by decide +kernel
theorem dX7_hasRightSibling_15 : decode cX7_hasRightSibling 15 = .ok (.iconst 1, 1) := by decide +kernel
theorem dX7_hasRightSibling_16 : decode cX7_hasRightSibling 16 = .ok (.iadd, 1) := by decide +kernel
theorem dX7_hasRightSibling_17 : decode cX7_hasRightSibling 17 = .ok (.aload_n 0, 1) := by decide +kernel
theorem dX7_hasRightSibling_18 : decode cX7_hasRightSibling 18 = .ok (.iload_n 1, 1) := by decide +kernel
theorem dX7_hasRightSibling_19 : decode cX7_hasRightSibling 19 = .ok (.iload_n 2, 1) := by decide +kernel
theorem dX7_hasRightSibling_20 : decode cX7_hasRightSibling 20 = .ok (.invokevirtual 94, 3) := by decide +kernel
theorem dX7_hasRightSibling_23 : decode cX7_hasRightSibling 23 = .ok (.invokevirtual 101, 3) := by decide +kernel
theorem dX7_hasRightSibling_26 : decode cX7_hasRightSibling 26 = .ok (.if_icmp .ge 7, 3) := by decide +kernel
theorem dX7_hasRightSibling_29 : decode cX7_hasRightSibling 29 = .ok (.iconst 1, 1) := by decide +kernel
theorem dX7_hasRightSibling_30 : decode cX7_hasRightSibling 30 = .ok (.goto 4, 3) := by decide +kernel
theorem dX7_hasRightSibling_33 : decode cX7_hasRightSibling 33 = .ok (.iconst 0, 1) := by decide +kernel
theorem dX7_hasRightSibling_34 : decode cX7_hasRightSibling 34 = .ok (.ireturn, 1) := by decide +kernel
set_option maxRecDepth 20000 in
theorem ggX7_hasRightSibling_X7_endOf : GoodIn wsX7_hasRightSibling wsX7_endOf := goodIn_r _ [51, 7, 8, 9, 5, 10, 11, 12, 13, 14, 15, 16, 17, 18, 19, 20, 21, 22, 23, 24, 25, 26, 27, 28, 29, 30, 31, 32, 33, 34, 35, 36, 52, 44, 45, 40, 46, 42, 47, 53, 54, 55, 56, 57, 58, 59, 60, 61, 62, 63, 64, 65] (by decide +kernel) (by decide +kernel)
set_option maxRecDepth 20000 in
theorem ggX7_hasRightSibling_X7_parentOf : GoodIn wsX7_hasRightSibling wsX7_parentOf := goodIn_r _ [6, 7, 8, 9, 5, 10, 11, 12, 13, 14, 15, 16, 17, 18, 19, 20, 21, 22, 23, 24, 25, 26, 27, 28, 29, 30, 31, 32, 33, 34, 35, 36, 37, 38, 39, 40, 41, 42, 43, 44, 45, 46, 47, 53, 54, 55, 56, 57, 58, 59, 60, 61, 62, 63, 64, 65] (by decide +kernel) (by decide +kernel)
def wp_X7_hasRightSibling (a0 : Nat) (x1 : Int32) (x2 : Int32) (f : FT) (K : Int32 → Prop) : Prop :=
  gI f a0 10 6 fun v_1 => ((v_1 ≤ (x1 + (1 : Int32)) → K (0 : Int32)) ∧
 (¬ (v_1 ≤ (x1 + (1 : Int32))) → isO f a0 10 ∧ wp_X7_parentOf a0 x1 x2 f (fun r_4 => isO f a0 10 ∧ wp_X7_endOf a0 (x1 + (1 : Int32)) r_4 f (fun r_5 => ((r_5 ≤ (x2 + (1 : Int32)) → K (0 : Int32)) ∧
 (¬ (r_5 ≤ (x2 + (1 : Int32))) → K (1 : Int32)))))))
set_option maxHeartbeats 4000000 in
set_option maxRecDepth 100000 in
theorem cc_X7_hasRightSibling (l : Launch) (G : GG) {f : FT} {sz : Nat} {a0 : Nat} {x1 : Int32} {x2 : Int32} {K : Int32 → Prop} (h : wp_X7_hasRightSibling a0 x1 x2 f K) : Met l yX7_hasRightSibling wsX7_hasRightSibling ({ frames := 5, cells := 0, slots := 0, locals := 107 } : Room) (FP G [.ref a0, .int x1, .int x2] f sz) (va_Qi (fun r f9 => K r ∧ f9 = f : Int32 → FT → Prop) (FB G (fA f sz)) (fA f sz)) 0 0 (fA f sz) := by
  refine Met.ofW (cc := cX7_hasRightSibling) (maxL := 3) (ret := (some .boolean)) (by decide) rfl ?_
  intro p e s m args below meth c s₁ B hml hv
  obtain ⟨rfl, hsz, hF, hK, hZ⟩ := hv
  have hx := B.exec
  have hb := B.bytes
  have hr := B.returns
  have hts := atoms_spec (ws := wsX7_hasRightSibling) B.pre
  have hown : s.vm.findClass RX7 = some m.cls := findClass_of_methodNamed B.named
  have hlocks := B.notSynchronized
  subst hsz
  have hF := hF.self (sz := s.heap.size)
  generalize hAe : fA f s.heap.size = A at hF hZ ⊢
  have hA : ∀ q : Nat, s.heap.size ≤ q → A q := fun q h => by rw [← hAe]; exact Or.inr h
  have hS : va_S A s.heap s.heap [] := va_S.rf
  have hin_X7 : ∀ w ∈ wsX70, w ∈ wsX7_hasRightSibling := by decide +kernel
  have hl := lv_entry ([.ref a0, .int x1, .int x2]) (n := 3) (Nat.le_of_ble_eq_true rfl)
  rw [lg_entry_eq]
  generalize (lg_sl ([.ref a0, .int x1, .int x2]) ++ List.replicate (3 - (lg_sl ([.ref a0, .int x1, .int x2])).length) Slot.unset).toArray = ls at hl ⊢
  have hl : lv_has ls 3 [(0, .ref a0), (1, .int x1), (2, .int x2)] := hl
  unfold wp_X7_hasRightSibling at h
  refine lv_iload_n hx hb dX7_hasRightSibling_0 rfl (lv_at hl 1 rfl) ?_
  refine lv_iconst (v := (1 : Int32)) hx hb dX7_hasRightSibling_1 (by decide) ?_
  refine lv_iadd hx hb dX7_hasRightSibling_2 ?_
  refine lv_aload_n hx hb dX7_hasRightSibling_3 rfl (lv_at hl 0 rfl) ?_
  obtain ⟨fs_2, v_1, he_fs_2, hv_fs_2, h⟩ := h
  refine fw_get (C := RX7) (T := TX7) (N := 8) hx hb hts hin_X7 hown hK hF he_fs_2 rfl 6 (by decide) (hts (.fieldLink RX7 47 "FrontCodedIndex$Tree" "tierTotal" "I") (by decide +kernel)) (fun _ h9 => h9) hv_fs_2 dX7_hasRightSibling_4 ?_
  obtain ⟨h1, h2⟩ := h
  refine lv_icmp_ge (tgt := 33) hx hb dX7_hasRightSibling_7 (by decide) (fun c_3 => ?_) (fun c_3 => ?_)
  · have h := h1 c_3
    refine lv_iconst (v := (0 : Int32)) hx hb dX7_hasRightSibling_33 (by decide) ?_
    exact W.zret (v := (0 : Int32)) hx hb hr (by decide) (fun t ht hW => ⟨⟨(0 : Int32), f, rfl, ⟨h, rfl⟩, by rw [ht]; exact hF, FK.moved hW.alike hK⟩, hS.F ht⟩) hS.2.2 dX7_hasRightSibling_34
  · have h := h2 c_3
    refine lv_iload_n hx hb dX7_hasRightSibling_10 rfl (lv_at hl 2 rfl) ?_
    refine lv_iconst (v := (1 : Int32)) hx hb dX7_hasRightSibling_11 (by decide) ?_
    refine lv_iadd hx hb dX7_hasRightSibling_12 ?_
    refine lv_aload_n hx hb dX7_hasRightSibling_13 rfl (lv_at hl 0 rfl) ?_
    refine lv_iload_n hx hb dX7_hasRightSibling_14 rfl (lv_at hl 1 rfl) ?_
    refine lv_iconst (v := (1 : Int32)) hx hb dX7_hasRightSibling_15 (by decide) ?_
    refine lv_iadd hx hb dX7_hasRightSibling_16 ?_
    refine lv_aload_n hx hb dX7_hasRightSibling_17 rfl (lv_at hl 0 rfl) ?_
    refine lv_iload_n hx hb dX7_hasRightSibling_18 rfl (lv_at hl 1 rfl) ?_
    refine lv_iload_n hx hb dX7_hasRightSibling_19 rfl (lv_at hl 2 rfl) ?_
    obtain ⟨⟨fs_r_4, hrc_r_4⟩, h⟩ := h
    refine fw_cV_i_p (As := [.int x1, .int x2]) (rest := [.int (x1 + (1 : Int32)), .ref a0, .int (x2 + (1 : Int32))]) ⟨hx, hb, hml, hown, hts⟩ (cc_X7_parentOf l G h) (⟨callB_of 2 hts ggX7_hasRightSibling_X7_parentOf rfl rfl rfl (hts (.initialized RX7) (by decide +kernel)) (hts (.methodLink RX7 94 yX7_parentOf) (by decide +kernel)) (by decide +kernel) ⟨Nat.le_of_ble_eq_true rfl, Nat.le_of_ble_eq_true rfl⟩, hts (.instanceMethod yX7_parentOf) (by decide +kernel), hts (.selects RX7 yX7_parentOf yX7_parentOf) (by decide +kernel)⟩) rfl hrc_r_4 hK hZ hF hS hA rfl hl.1 rfl (Nat.le_of_ble_eq_true rfl) dX7_hasRightSibling_20 ⟨Nat.zero_le _, Nat.zero_le _⟩ (fun r_4 H locs h hF hS => ?_)
    obtain ⟨⟨fs_r_5, hrc_r_5⟩, h⟩ := h
    refine fw_cV_i_p (As := [.int (x1 + (1 : Int32)), .int r_4]) (rest := [.int (x2 + (1 : Int32))]) ⟨hx, hb, hml, hown, hts⟩ (cc_X7_endOf l G h) (⟨callB_of 2 hts ggX7_hasRightSibling_X7_endOf rfl rfl rfl (hts (.initialized RX7) (by decide +kernel)) (hts (.methodLink RX7 101 yX7_endOf) (by decide +kernel)) (by decide +kernel) ⟨Nat.le_of_ble_eq_true rfl, Nat.le_of_ble_eq_true rfl⟩, hts (.instanceMethod yX7_endOf) (by decide +kernel), hts (.selects RX7 yX7_endOf yX7_endOf) (by decide +kernel)⟩) rfl hrc_r_5 hK hZ hF hS hA rfl hl.1 rfl (Nat.le_of_ble_eq_true rfl) dX7_hasRightSibling_23 ⟨Nat.zero_le _, Nat.zero_le _⟩ (fun r_5 H locs h hF hS => ?_)
    obtain ⟨h1, h2⟩ := h
    refine lv_icmp_ge (tgt := 33) hx hb dX7_hasRightSibling_26 (by decide) (fun c_6 => ?_) (fun c_6 => ?_)
    · have h := h1 c_6
      refine lv_iconst (v := (0 : Int32)) hx hb dX7_hasRightSibling_33 (by decide) ?_
      exact W.zret (v := (0 : Int32)) hx hb hr (by decide) (fun t ht hW => ⟨⟨(0 : Int32), f, rfl, ⟨h, rfl⟩, by rw [ht]; exact hF, FK.moved hW.alike hK⟩, hS.F ht⟩) hS.2.2 dX7_hasRightSibling_34
    · have h := h2 c_6
      refine lv_iconst (v := (1 : Int32)) hx hb dX7_hasRightSibling_29 (by decide) ?_
      refine lv_goto (tgt := 34) hx hb dX7_hasRightSibling_30 (by decide) ?_
      exact W.zret (v := (1 : Int32)) hx hb hr (by decide) (fun t ht hW => ⟨⟨(1 : Int32), f, rfl, ⟨h, rfl⟩, by rw [ht]; exact hF, FK.moved hW.alike hK⟩, hS.F ht⟩) hS.2.2 dX7_hasRightSibling_34
theorem dX1_giveRight_0 : decode cX1_giveRight 0 = .ok (.aload_n 0, 1) := by decide +kernel
theorem dX1_giveRight_1 : decode cX1_giveRight 1 = .ok (.getfield 16, 3) := by decide +kernel
theorem dX1_giveRight_4 : decode cX1_giveRight 4 = .ok (.iconst 0, 1) := by decide +kernel
theorem dX1_giveRight_5 : decode cX1_giveRight 5 = .ok (.iload_n 1, 1) := by decide +kernel
theorem dX1_giveRight_6 : decode cX1_giveRight 6 = .ok (.invokevirtual 109, 3) := by decide +kernel
theorem dX1_giveRight_9 : decode cX1_giveRight 9 = .ok (.ifCond .ne 5, 3) := by decide +kernel
theorem dX1_giveRight_12 : decode cX1_giveRight 12 = .ok (.iconst 0, 1) := by decide +kernel
theorem dX1_giveRight_13 : decode cX1_giveRight 13 = .ok (.ireturn, 1) := by decide +kernel
theorem dX1_giveRight_14 : decode cX1_giveRight 14 = .ok (.aload_n 0, 1) := by decide +kernel
theorem dX1_giveRight_15 : decode cX1_giveRight 15 = .ok (.getfield 16, 3) := by decide +kernel
theorem dX1_giveRight_18 : decode cX1_giveRight 18 = .ok (.iconst 0, 1) := by decide +kernel
theorem dX1_giveRight_19 : decode cX1_giveRight 19 = .ok (.iload_n 1, 1) := by decide +kernel
theorem dX1_giveRight_20 : decode cX1_giveRight 20 = .ok (.invokevirtual 99, 3) := by decide +kernel
theorem dX1_giveRight_23 : decode cX1_giveRight 23 = .ok (.istore_n 2, 1) := by decide +kernel
theorem dX1_giveRight_24 : decode cX1_giveRight 24 = .ok (.aload_n 0, 1) := by decide +kernel
theorem dX1_giveRight_25 : decode cX1_giveRight 25 = .ok (.getfield 16, 3) := by decide +kernel
theorem dX1_giveRight_28 : decode cX1_giveRight 28 = .ok (.iconst 0, 1) := by decide +kernel
theorem dX1_giveRight_29 : decode cX1_giveRight 29 = .ok (.iload_n 1, 1) := by decide +kernel
theorem dX1_giveRight_30 : decode cX1_giveRight 30 = .ok (.invokevirtual 96, 3) := by decide +kernel
theorem dX1_giveRight_33 : decode cX1_giveRight 33 = .ok (.iconst 1, 1) := by decide +kernel
theorem dX1_giveRight_34 : decode cX1_giveRight 34 = .ok (.isub, 1) := by decide +kernel
theorem dX1_giveRight_35 : decode cX1_giveRight 35 = .ok (.istore_n 3, 1) := by decide +kernel
theorem dX1_giveRight_36 : decode cX1_giveRight 36 = .ok (.iload_n 3, 1) := by decide +kernel
theorem dX1_giveRight_37 : decode cX1_giveRight 37 = .ok (.iload_n 2, 1) := by decide +kernel
theorem dX1_giveRight_38 : decode cX1_giveRight 38 = .ok (.if_icmp .le 29, 3) := by decide +kernel
theorem dX1_giveRight_41 : decode cX1_giveRight 41 = .ok (.aload_n 0, 1) := by decide +kernel
theorem dX1_giveRight_42 : decode cX1_giveRight 42 = .ok (.getfield 16, 3) := by decide +kernel
theorem dX1_giveRight_45 : decode cX1_giveRight 45 = .ok (.iconst 0, 1) := by decide +kernel
theorem dX1_giveRight_46 : decode cX1_giveRight 46 = .ok (.iload_n 2, 1) := by decide +kernel
theorem dX1_giveRight_47 : decode cX1_giveRight 47 = .ok (.iload_n 3, 1) := by decide +kernel
theorem dX1_giveRight_48 : decode cX1_giveRight 48 = .ok (.invokevirtual 102, 3) := by decide +kernel
theorem dX1_giveRight_51 : decode cX1_giveRight 51 = .ok (.aload_n 0, 1) := by decide +kernel
theorem dX1_giveRight_52 : decode cX1_giveRight 52 = .ok (.getfield 16, 3) := by decide +kernel
theorem dX1_giveRight_55 : decode cX1_giveRight 55 = .ok (.getfield 34, 3) := by decide +kernel
theorem dX1_giveRight_58 : decode cX1_giveRight 58 = .ok (.if_icmp .le 9, 3) := by decide +kernel
theorem dX1_giveRight_61 : decode cX1_giveRight 61 = .ok (.iinc 3 (-1), 3) := by decide +kernel
theorem dX1_giveRight_64 : decode cX1_giveRight 64 = .ok (.goto (-28), 3) := by decide +kernel
theorem dX1_giveRight_67 : decode cX1_giveRight 67 = .ok (.aload_n 0, 1) := by decide +kernel
theorem dX1_giveRight_68 : decode cX1_giveRight 68 = .ok (.getfield 16, 3) := by decide +kernel
theorem dX1_giveRight_71 : decode cX1_giveRight 71 = .ok (.iconst 0, 1) := by decide +kernel
theorem dX1_giveRight_72 : decode cX1_giveRight 72 = .ok (.iload_n 3, 1) := by decide +kernel
theorem dX1_giveRight_73 : decode cX1_giveRight 73 = .ok (.aload_n 0, 1) := by decide +kernel
theorem dX1_giveRight_74 : decode cX1_giveRight 74 = .ok (.getfield 16, 3) := by decide +kernel
theorem dX1_giveRight_77 : decode cX1_giveRight 77 = .ok (.iconst 0, 1) := by decide +kernel
theorem dX1_giveRight_78 : decode cX1_giveRight 78 = .ok (.iload_n 1, 1) := by decide +kernel
theorem dX1_giveRight_79 : decode cX1_giveRight 79 = .ok (.iconst 1, 1) := by decide +kernel
theorem dX1_giveRight_80 : decode cX1_giveRight 80 = .ok (.iadd, 1) := by decide +kernel
theorem dX1_giveRight_81 : decode cX1_giveRight 81 = .ok (.invokevirtual 96, 3) := by decide +kernel
theorem dX1_giveRight_84 : decode cX1_giveRight 84 = .ok (.invokevirtual 102, 3) := by decide +kernel
theorem dX1_giveRight_87 : decode cX1_giveRight 87 = .ok (.aload_n 0, 1) := by decide +kernel
theorem dX1_giveRight_88 : decode cX1_giveRight 88 = .ok (.getfield 16, 3) := by decide +kernel
theorem dX1_giveRight_91 : decode cX1_giveRight 91 = .ok (.getfield 34, 3) := by decide +kernel
theorem dX1_giveRight_94 : decode cX1_giveRight 94 = .ok (.if_icmp .le 5, 3) := by decide +kernel
theorem dX1_giveRight_97 : decode cX1_giveRight 97 = .ok (.iconst 0, 1) := by decide +kernel
theorem dX1_giveRight_98 : decode cX1_giveRight 98 = .ok (.ireturn, 1) := by decide +kernel
theorem dX1_giveRight_99 : decode cX1_giveRight 99 = .ok (.aload_n 0, 1) := by decide +kernel
theorem dX1_giveRight_100 : decode cX1_giveRight 100 = .ok (.iload_n 1, 1) := by decide +kernel
theorem dX1_giveRight_101 : decode cX1_giveRight 101 = .ok (.iload_n 3, 1) := by decide +kernel
theorem dX1_giveRight_102 : decode cX1_giveRight 102 = .ok (.invokevirtual 106, 3) := by decide +kernel
theorem dX1_giveRight_105 : decode cX1_giveRight 105 = .ok (.iconst 1, 1) := by decide +kernel
theorem dX1_giveRight_106 : decode cX1_giveRight 106 = .ok (.ireturn, 1) := by decide +kernel
set_option maxRecDepth 20000 in
theorem ggX1_giveRight_X1_moveBoundary : GoodIn wsX1_giveRight wsX1_moveBoundary := goodIn_r _ [98, 1, 99, 100, 13, 14, 5, 15, 16, 17, 18, 19, 20, 21, 22, 23, 24, 25, 26, 27, 28, 29, 30, 31, 32, 33, 34, 35, 36, 37, 38, 39, 40, 41, 101, 102, 103, 45, 104, 47, 52, 105, 106, 107, 108, 68, 69, 70, 71, 72, 73, 74, 75, 76, 77, 78, 90, 91, 92, 87, 93, 89, 109, 110, 111, 112, 113, 114, 115, 116, 117, 118, 119, 120, 121, 122, 123, 124, 125, 126, 127, 128, 129, 130, 131, 132, 133, 134, 135, 136, 137, 138, 139, 140, 141, 142, 143, 144, 145, 146, 147, 148, 149, 150, 151, 152, 153, 154, 155, 156, 157, 158, 159, 160, 161, 162, 163, 164, 165, 166, 167, 168, 169, 170, 171] (by decide +kernel) (by decide +kernel)
set_option maxRecDepth 20000 in
theorem ggX1_giveRight_X7_endOf : GoodIn wsX1_giveRight wsX7_endOf := goodIn_r _ [56, 12, 13, 14, 5, 15, 16, 17, 18, 19, 20, 21, 22, 23, 24, 25, 26, 27, 28, 29, 30, 31, 32, 33, 34, 35, 36, 37, 38, 39, 40, 41, 57, 49, 50, 45, 51, 47, 52, 156, 157, 158, 159, 160, 161, 162, 163, 164, 165, 166, 167, 168] (by decide +kernel) (by decide +kernel)
set_option maxRecDepth 20000 in
theorem ggX1_giveRight_X7_hasRightSibling : GoodIn wsX1_giveRight wsX7_hasRightSibling := goodIn_r _ [6, 7, 8, 9, 10, 5, 11, 12, 13, 14, 15, 16, 17, 18, 19, 20, 21, 22, 23, 24, 25, 26, 27, 28, 29, 30, 31, 32, 33, 34, 35, 36, 37, 38, 39, 40, 41, 42, 43, 44, 45, 46, 47, 48, 49, 50, 51, 52, 53, 54, 55, 56, 57, 156, 157, 158, 159, 160, 161, 162, 163, 164, 165, 166, 167, 168] (by decide +kernel) (by decide +kernel)
set_option maxRecDepth 20000 in
theorem ggX1_giveRight_X7_spanBytes : GoodIn wsX1_giveRight wsX7_spanBytes := goodIn_r _ [66, 67, 68, 69, 70, 71, 72, 73, 74, 75, 76, 77, 20, 21, 22, 23, 24, 78, 26, 27, 28, 29, 30, 31, 32, 33, 34, 35, 36, 37, 38, 39, 40, 41, 79, 80, 81, 5, 82, 83, 12, 13, 14, 15, 16, 17, 18, 19, 25, 57, 49, 50, 45, 51, 47, 52, 84, 85, 86, 87, 88, 89, 90, 91, 92, 93, 156, 157, 158, 159, 160, 161, 162, 163, 169, 170, 164, 165, 166, 167, 168, 171] (by decide +kernel) (by decide +kernel)
set_option maxRecDepth 20000 in
theorem ggX1_giveRight_X7_startOf : GoodIn wsX1_giveRight wsX7_startOf := goodIn_r _ [61, 12, 13, 14, 5, 15, 16, 17, 18, 19, 20, 21, 22, 23, 24, 25, 26, 27, 28, 29, 30, 31, 32, 33, 34, 35, 36, 37, 38, 39, 40, 41, 57, 49, 50, 45, 51, 47, 52, 156, 157, 158, 159, 160, 161, 162, 163, 164, 165, 166, 167, 168] (by decide +kernel) (by decide +kernel)
def wp_X1_giveRight_67 (a0 : Nat) (x1 : Int32) (y3 : Int32) (f : FT) (bc bs : Nat) (K : Int32 → FT → Prop)  : Prop :=
  gA f a0 4 0 fun a_1 => gA f a0 4 0 fun a_3 => isO f a_3 10 ∧ wp_X7_endOf a_3 (0 : Int32) (x1 + (1 : Int32)) f (fun r_5 => isO f a_1 10 ∧ wp_X7_spanBytes a_1 (0 : Int32) y3 r_5 f (fun r_6 => gA f a0 4 0 fun a_7 => gI f a_7 10 7 fun v_9 => ((r_6 ≤ v_9 → ∃ ga_14 gb_15 : Nat, ga_14 ≤ bc ∧ gb_15 ≤ bs ∧ isO f a0 4 ∧ wp_X1_moveBoundary a0 x1 y3 f ga_14 gb_15 (fun f_13 => K (1 : Int32) f_13)) ∧
 (¬ (r_6 ≤ v_9) → K (0 : Int32) f))))
def wp_X1_giveRight_36 (a0 : Nat) (x1 : Int32) (y2 : Int32) (K : Int32 → FT → Prop)  (C36 : Int32 × FT × Nat × Nat → Prop) : Int32 × FT × Nat × Nat → Prop := fun s9 => match s9 with
  | (y3, f, bc, bs) => ((y3 ≤ y2 → wp_X1_giveRight_67 a0 x1 y3 f bc bs K) ∧
 (¬ (y3 ≤ y2) → gA f a0 4 0 fun a_19 => isO f a_19 10 ∧ wp_X7_spanBytes a_19 (0 : Int32) y2 y3 f (fun r_21 => gA f a0 4 0 fun a_22 => gI f a_22 10 7 fun v_24 => ((r_21 ≤ v_24 → wp_X1_giveRight_67 a0 x1 y3 f bc bs K) ∧
 (¬ (r_21 ≤ v_24) → ∀ v_27 : Int32, v_27 = y3 + (-1) → C36 (v_27, f, bc, bs))))))
def wp_X1_giveRight (a0 : Nat) (x1 : Int32) (f : FT) (mc ms : Nat) (K : Int32 → FT → Prop) : Prop :=
  gA f a0 4 0 fun a_29 => isO f a_29 10 ∧ wp_X7_hasRightSibling a_29 (0 : Int32) x1 f (fun r_31 => ((¬ r_31 = (0 : Int32) → gA f a0 4 0 fun a_33 => isO f a_33 10 ∧ wp_X7_startOf a_33 (0 : Int32) x1 f (fun r_35 => gA f a0 4 0 fun a_36 => isO f a_36 10 ∧ wp_X7_endOf a_36 (0 : Int32) x1 f (fun r_38 => ∀ v_39 : Int32, v_39 = (r_38 - (1 : Int32)) → ∃ n_41, loopW (wp_X1_giveRight_36 a0 x1 r_35 K) n_41 (v_39, f, mc, ms)))) ∧
 (r_31 = (0 : Int32) → K (0 : Int32) f)))
set_option maxHeartbeats 4000000 in
set_option maxRecDepth 100000 in
theorem cc_X1_giveRight (l : Launch) (G : GG) {f : FT} {sz : Nat} {a0 : Nat} {x1 : Int32} {mc ms : Nat} {K : Int32 → FT → Prop} (h : wp_X1_giveRight a0 x1 f mc ms K) : Met l yX1_giveRight wsX1_giveRight ({ frames := 6, cells := mc, slots := ms, locals := 139 } : Room) (FP G [.ref a0, .int x1] f sz) (va_Qi (fun r f9 => K r f9 : Int32 → FT → Prop) (FB G (fA f sz)) (fA f sz)) mc ms (fA f sz) := by
  refine Met.ofW (cc := cX1_giveRight) (maxL := 4) (ret := (some .boolean)) (by decide) rfl ?_
  intro p e s m args below meth c s₁ B hml hv
  obtain ⟨rfl, hsz, hF, hK, hZ⟩ := hv
  have hx := B.exec
  have hb := B.bytes
  have hr := B.returns
  have hts := atoms_spec (ws := wsX1_giveRight) B.pre
  have hown : s.vm.findClass RX1 = some m.cls := findClass_of_methodNamed B.named
  have hlocks := B.notSynchronized
  subst hsz
  have hF := hF.self (sz := s.heap.size)
  generalize hAe : fA f s.heap.size = A at hF hZ ⊢
  have hA : ∀ q : Nat, s.heap.size ≤ q → A q := fun q h => by rw [← hAe]; exact Or.inr h
  have hS : va_S A s.heap s.heap [] := va_S.rf
  have hin_X1 : ∀ w ∈ wsX10, w ∈ wsX1_giveRight := by decide +kernel
  have hin_X7 : ∀ w ∈ wsX70, w ∈ wsX1_giveRight := by decide +kernel
  have hbc : 0 + mc ≤ mc := by omega
  have hbs : 0 + ms ≤ ms := by omega
  have J67 : ∀ (y3 : Int32) (f : FT) (bc : Nat) (bs : Nat) (H : Heap) (locs : List Loc) (ls : Array Slot) (cs sl : Nat), wp_X1_giveRight_67 a0 x1 y3 f bc bs K  → cs + bc ≤ mc → sl + bs ≤ ms → Fw G A f H → va_S A s.heap H locs → lv_has ls 4 [(0, .ref a0), (1, .int x1), (3, .int y3)] → W p l e ({ frames := 6, cells := mc, slots := ms, locals := 139 } : Room) s m ([.ref a0, .int x1] : List Value).toArray below meth c H locs cs sl (MQ below (va_Qi (fun r f9 => K r f9 : Int32 → FT → Prop) (FB G A) A) ([.ref a0, .int x1] : List Value).toArray s mc ms A) (F0 m 67 ls []) := by
    intro y3 f bc bs H locs ls cs sl h hbc hbs hF hS hl
    unfold wp_X1_giveRight_67 at h
    refine lv_aload_n hx hb dX1_giveRight_67 rfl (lv_at hl 0 rfl) ?_
    obtain ⟨fs_2, a_1, he_fs_2, hv_fs_2, h⟩ := h
    refine fw_get (C := RX1) (T := TX1) (N := 4) hx hb hts hin_X1 hown hK hF he_fs_2 rfl 0 (by decide) (hts (.fieldLink RX1 16 "FrontCodedIndex$Inserter" "tree" "LFrontCodedIndex$Tree;") (by decide +kernel)) (fun _ h9 => h9) hv_fs_2 dX1_giveRight_68 ?_
    refine lv_iconst (v := (0 : Int32)) hx hb dX1_giveRight_71 (by decide) ?_
    refine lv_iload_n hx hb dX1_giveRight_72 rfl (lv_at hl 2 rfl) ?_
    refine lv_aload_n hx hb dX1_giveRight_73 rfl (lv_at hl 0 rfl) ?_
    obtain ⟨fs_4, a_3, he_fs_4, hv_fs_4, h⟩ := h
    refine fw_get (C := RX1) (T := TX1) (N := 4) hx hb hts hin_X1 hown hK hF he_fs_4 rfl 0 (by decide) (hts (.fieldLink RX1 16 "FrontCodedIndex$Inserter" "tree" "LFrontCodedIndex$Tree;") (by decide +kernel)) (fun _ h9 => h9) hv_fs_4 dX1_giveRight_74 ?_
    refine lv_iconst (v := (0 : Int32)) hx hb dX1_giveRight_77 (by decide) ?_
    refine lv_iload_n hx hb dX1_giveRight_78 rfl (lv_at hl 1 rfl) ?_
    refine lv_iconst (v := (1 : Int32)) hx hb dX1_giveRight_79 (by decide) ?_
    refine lv_iadd hx hb dX1_giveRight_80 ?_
    obtain ⟨⟨fs_r_5, hrc_r_5⟩, h⟩ := h
    refine fw_cV_i_p (As := [.int (0 : Int32), .int (x1 + (1 : Int32))]) (rest := [.int y3, .int (0 : Int32), .ref a_1]) ⟨hx, hb, hml, hown, hts⟩ (cc_X7_endOf l G h) (⟨callB_of 2 hts ggX1_giveRight_X7_endOf rfl rfl rfl (hts (.initialized RX7) (by decide +kernel)) (hts (.methodLink RX1 96 yX7_endOf) (by decide +kernel)) (by decide +kernel) ⟨Nat.le_of_ble_eq_true rfl, Nat.le_of_ble_eq_true rfl⟩, hts (.instanceMethod yX7_endOf) (by decide +kernel), hts (.selects RX7 yX7_endOf yX7_endOf) (by decide +kernel)⟩) rfl hrc_r_5 hK hZ hF hS hA rfl hl.1 rfl (Nat.le_of_ble_eq_true rfl) dX1_giveRight_81 ⟨by show _ ≤ mc; omega, by show _ ≤ ms; omega⟩ (fun r_5 H locs h hF hS => ?_)
    simp only [Nat.add_zero]
    obtain ⟨⟨fs_r_6, hrc_r_6⟩, h⟩ := h
    refine fw_cV_i_p (As := [.int (0 : Int32), .int y3, .int r_5]) (rest := []) ⟨hx, hb, hml, hown, hts⟩ (cc_X7_spanBytes l G h) (⟨callB_of 3 hts ggX1_giveRight_X7_spanBytes rfl rfl rfl (hts (.initialized RX7) (by decide +kernel)) (hts (.methodLink RX1 102 yX7_spanBytes) (by decide +kernel)) (by decide +kernel) ⟨Nat.le_of_ble_eq_true rfl, Nat.le_of_ble_eq_true rfl⟩, hts (.instanceMethod yX7_spanBytes) (by decide +kernel), hts (.selects RX7 yX7_spanBytes yX7_spanBytes) (by decide +kernel)⟩) rfl hrc_r_6 hK hZ hF hS hA rfl hl.1 rfl (Nat.le_of_ble_eq_true rfl) dX1_giveRight_84 ⟨by show _ ≤ mc; omega, by show _ ≤ ms; omega⟩ (fun r_6 H locs h hF hS => ?_)
    simp only [Nat.add_zero]
    refine lv_aload_n hx hb dX1_giveRight_87 rfl (lv_at hl 0 rfl) ?_
    obtain ⟨fs_8, a_7, he_fs_8, hv_fs_8, h⟩ := h
    refine fw_get (C := RX1) (T := TX1) (N := 4) hx hb hts hin_X1 hown hK hF he_fs_8 rfl 0 (by decide) (hts (.fieldLink RX1 16 "FrontCodedIndex$Inserter" "tree" "LFrontCodedIndex$Tree;") (by decide +kernel)) (fun _ h9 => h9) hv_fs_8 dX1_giveRight_88 ?_
    obtain ⟨fs_10, v_9, he_fs_10, hv_fs_10, h⟩ := h
    refine fw_getN (C := RX7) (T := TX7) (N := 8) hx hb hts hin_X7 hown hK hF he_fs_10 rfl 7 (by decide) (va_Nw.use rfl (hZ.2.1 (.fieldLinkNest RX1 34 "FrontCodedIndex$Tree" "capacity" "I" "FrontCodedIndex") (by decide +kernel))) (fun _ h9 => h9) hv_fs_10 dX1_giveRight_91 ?_
    obtain ⟨h1, h2⟩ := h
    refine lv_icmp_le (tgt := 99) hx hb dX1_giveRight_94 (by decide) (fun c_11 => ?_) (fun c_11 => ?_)
    · have h := h1 c_11
      refine lv_aload_n hx hb dX1_giveRight_99 rfl (lv_at hl 0 rfl) ?_
      refine lv_iload_n hx hb dX1_giveRight_100 rfl (lv_at hl 1 rfl) ?_
      refine lv_iload_n hx hb dX1_giveRight_101 rfl (lv_at hl 2 rfl) ?_
      obtain ⟨ga_14, gb_15, hga_ga_14, hgb_ga_14, h⟩ := h
      obtain ⟨⟨fs_u_12, hrc_u_12⟩, h⟩ := h
      refine fw_cV_v (As := [.int x1, .int y3]) (rest := []) ⟨hx, hb, hml, hown, hts⟩ (cc_X1_moveBoundary l G h) (⟨callB_of 2 hts ggX1_giveRight_X1_moveBoundary rfl rfl rfl (hts (.initialized RX1) (by decide +kernel)) (hts (.methodLink RX1 106 yX1_moveBoundary) (by decide +kernel)) (by decide +kernel) ⟨Nat.le_of_ble_eq_true rfl, Nat.le_of_ble_eq_true rfl⟩, hts (.instanceMethod yX1_moveBoundary) (by decide +kernel), hts (.selects RX1 yX1_moveBoundary yX1_moveBoundary) (by decide +kernel)⟩) rfl hrc_u_12 hK hZ hF hS hA rfl hl.1 rfl (Nat.le_of_ble_eq_true rfl) dX1_giveRight_102 ⟨by show _ ≤ mc; omega, by show _ ≤ ms; omega⟩ (fun f_13 H locs h hF hS => ?_)
      obtain ⟨cs_16, hcs⟩ : ∃ z, z = (cs + ga_14) := ⟨_, rfl⟩; obtain ⟨sl_17, hsl⟩ : ∃ z, z = (sl + gb_15) := ⟨_, rfl⟩
      have hbc : cs_16 + (bc - ga_14) ≤ mc := by omega
      have hbs : sl_17 + (bs - gb_15) ≤ ms := by omega
      refine W.widen (k := cs_16) (n := sl_17) (by omega) (by omega) ?_
      clear hcs hsl
      refine lv_iconst (v := (1 : Int32)) hx hb dX1_giveRight_105 (by decide) ?_
      refine W.widen (k := mc) (n := ms) (by omega) (by omega) ?_
      exact W.zret (v := (1 : Int32)) hx hb hr (by decide) (fun t ht hW => ⟨⟨(1 : Int32), f_13, rfl, h, by rw [ht]; exact hF, FK.moved hW.alike hK⟩, hS.F ht⟩) hS.2.2 dX1_giveRight_106
    · have h := h2 c_11
      refine lv_iconst (v := (0 : Int32)) hx hb dX1_giveRight_97 (by decide) ?_
      refine W.widen (k := mc) (n := ms) (by omega) (by omega) ?_
      exact W.zret (v := (0 : Int32)) hx hb hr (by decide) (fun t ht hW => ⟨⟨(0 : Int32), f, rfl, h, by rw [ht]; exact hF, FK.moved hW.alike hK⟩, hS.F ht⟩) hS.2.2 dX1_giveRight_98
  have L36 : ∀ (y2 : Int32) (j9 : Nat) (y3 : Int32) (f : FT) (bc : Nat) (bs : Nat) (H : Heap) (locs : List Loc) (ls : Array Slot) (cs sl : Nat), loopW (wp_X1_giveRight_36 a0 x1 y2 K ) j9 (y3, f, bc, bs) → cs + bc ≤ mc → sl + bs ≤ ms → Fw G A f H → va_S A s.heap H locs → lv_has ls 4 [(0, .ref a0), (1, .int x1), (2, .int y2), (3, .int y3)] → W p l e ({ frames := 6, cells := mc, slots := ms, locals := 139 } : Room) s m ([.ref a0, .int x1] : List Value).toArray below meth c H locs cs sl (MQ below (va_Qi (fun r f9 => K r f9 : Int32 → FT → Prop) (FB G A) A) ([.ref a0, .int x1] : List Value).toArray s mc ms A) (F0 m 36 ls []) := by
    intro y2 j9
    induction j9 with
    | zero => intro y3 f bc bs H locs ls cs sl h; exact h.elim
    | succ j9 ih36 =>
      intro y3 f bc bs H locs ls cs sl h hbc hbs hF hS hl
      have h : wp_X1_giveRight_36 a0 x1 y2 K  (loopW (wp_X1_giveRight_36 a0 x1 y2 K ) j9) (y3, f, bc, bs) := h
      generalize loopW (wp_X1_giveRight_36 a0 x1 y2 K ) j9 = C36 at ih36 h
      unfold wp_X1_giveRight_36 at h
      refine lv_iload_n hx hb dX1_giveRight_36 rfl (lv_at hl 3 rfl) ?_
      refine lv_iload_n hx hb dX1_giveRight_37 rfl (lv_at hl 2 rfl) ?_
      obtain ⟨h1, h2⟩ := h
      refine lv_icmp_le (tgt := 67) hx hb dX1_giveRight_38 (by decide) (fun c_18 => ?_) (fun c_18 => ?_)
      · have h := h1 c_18
        exact J67 y3 f bc bs _ _ _ _ _ h hbc hbs hF hS (lv_sub hl [0, 1, 3] rfl)
      · have h := h2 c_18
        refine lv_aload_n hx hb dX1_giveRight_41 rfl (lv_at hl 0 rfl) ?_
        obtain ⟨fs_20, a_19, he_fs_20, hv_fs_20, h⟩ := h
        refine fw_get (C := RX1) (T := TX1) (N := 4) hx hb hts hin_X1 hown hK hF he_fs_20 rfl 0 (by decide) (hts (.fieldLink RX1 16 "FrontCodedIndex$Inserter" "tree" "LFrontCodedIndex$Tree;") (by decide +kernel)) (fun _ h9 => h9) hv_fs_20 dX1_giveRight_42 ?_
        refine lv_iconst (v := (0 : Int32)) hx hb dX1_giveRight_45 (by decide) ?_
        refine lv_iload_n hx hb dX1_giveRight_46 rfl (lv_at hl 2 rfl) ?_
        refine lv_iload_n hx hb dX1_giveRight_47 rfl (lv_at hl 3 rfl) ?_
        obtain ⟨⟨fs_r_21, hrc_r_21⟩, h⟩ := h
        refine fw_cV_i_p (As := [.int (0 : Int32), .int y2, .int y3]) (rest := []) ⟨hx, hb, hml, hown, hts⟩ (cc_X7_spanBytes l G h) (⟨callB_of 3 hts ggX1_giveRight_X7_spanBytes rfl rfl rfl (hts (.initialized RX7) (by decide +kernel)) (hts (.methodLink RX1 102 yX7_spanBytes) (by decide +kernel)) (by decide +kernel) ⟨Nat.le_of_ble_eq_true rfl, Nat.le_of_ble_eq_true rfl⟩, hts (.instanceMethod yX7_spanBytes) (by decide +kernel), hts (.selects RX7 yX7_spanBytes yX7_spanBytes) (by decide +kernel)⟩) rfl hrc_r_21 hK hZ hF hS hA rfl hl.1 rfl (Nat.le_of_ble_eq_true rfl) dX1_giveRight_48 ⟨by show _ ≤ mc; omega, by show _ ≤ ms; omega⟩ (fun r_21 H locs h hF hS => ?_)
        simp only [Nat.add_zero]
        refine lv_aload_n hx hb dX1_giveRight_51 rfl (lv_at hl 0 rfl) ?_
        obtain ⟨fs_23, a_22, he_fs_23, hv_fs_23, h⟩ := h
        refine fw_get (C := RX1) (T := TX1) (N := 4) hx hb hts hin_X1 hown hK hF he_fs_23 rfl 0 (by decide) (hts (.fieldLink RX1 16 "FrontCodedIndex$Inserter" "tree" "LFrontCodedIndex$Tree;") (by decide +kernel)) (fun _ h9 => h9) hv_fs_23 dX1_giveRight_52 ?_
        obtain ⟨fs_25, v_24, he_fs_25, hv_fs_25, h⟩ := h
        refine fw_getN (C := RX7) (T := TX7) (N := 8) hx hb hts hin_X7 hown hK hF he_fs_25 rfl 7 (by decide) (va_Nw.use rfl (hZ.2.1 (.fieldLinkNest RX1 34 "FrontCodedIndex$Tree" "capacity" "I" "FrontCodedIndex") (by decide +kernel))) (fun _ h9 => h9) hv_fs_25 dX1_giveRight_55 ?_
        obtain ⟨h1, h2⟩ := h
        refine lv_icmp_le (tgt := 67) hx hb dX1_giveRight_58 (by decide) (fun c_26 => ?_) (fun c_26 => ?_)
        · have h := h1 c_26
          exact J67 y3 f bc bs _ _ _ _ _ h hbc hbs hF hS (lv_sub hl [0, 1, 3] rfl)
        · have h := h2 c_26
          obtain ⟨v_27, e_28⟩ : ∃ y : Int32, y = y3 + (-1) := ⟨_, rfl⟩
          have h := h v_27 e_28
          refine lv_iinc (v := v_27) (lv' := [(3, .int v_27), (0, .ref a0), (1, .int x1), (2, .int y2)]) hx hb dX1_giveRight_61 hl (k := 3) rfl (by rw [e_28]; rfl) (by decide) rfl (fun ls hl => ?_)
          refine lv_goto (tgt := 36) hx hb dX1_giveRight_64 (by decide) ?_
          exact ih36 v_27 f bc bs _ _ _ _ _ h hbc hbs hF hS (lv_sub hl [1, 2, 3, 0] rfl)
  have hl := lv_entry ([.ref a0, .int x1]) (n := 4) (Nat.le_of_ble_eq_true rfl)
  rw [lg_entry_eq]
  generalize (lg_sl ([.ref a0, .int x1]) ++ List.replicate (4 - (lg_sl ([.ref a0, .int x1])).length) Slot.unset).toArray = ls at hl ⊢
  have hl : lv_has ls 4 [(0, .ref a0), (1, .int x1)] := hl
  unfold wp_X1_giveRight at h
  refine lv_aload_n hx hb dX1_giveRight_0 rfl (lv_at hl 0 rfl) ?_
  obtain ⟨fs_30, a_29, he_fs_30, hv_fs_30, h⟩ := h
  refine fw_get (C := RX1) (T := TX1) (N := 4) hx hb hts hin_X1 hown hK hF he_fs_30 rfl 0 (by decide) (hts (.fieldLink RX1 16 "FrontCodedIndex$Inserter" "tree" "LFrontCodedIndex$Tree;") (by decide +kernel)) (fun _ h9 => h9) hv_fs_30 dX1_giveRight_1 ?_
  refine lv_iconst (v := (0 : Int32)) hx hb dX1_giveRight_4 (by decide) ?_
  refine lv_iload_n hx hb dX1_giveRight_5 rfl (lv_at hl 1 rfl) ?_
  obtain ⟨⟨fs_r_31, hrc_r_31⟩, h⟩ := h
  refine fw_cV_i_p (As := [.int (0 : Int32), .int x1]) (rest := []) ⟨hx, hb, hml, hown, hts⟩ (cc_X7_hasRightSibling l G h) (⟨callB_of 2 hts ggX1_giveRight_X7_hasRightSibling rfl rfl rfl (hts (.initialized RX7) (by decide +kernel)) (hts (.methodLink RX1 109 yX7_hasRightSibling) (by decide +kernel)) (by decide +kernel) ⟨Nat.le_of_ble_eq_true rfl, Nat.le_of_ble_eq_true rfl⟩, hts (.instanceMethod yX7_hasRightSibling) (by decide +kernel), hts (.selects RX7 yX7_hasRightSibling yX7_hasRightSibling) (by decide +kernel)⟩) rfl hrc_r_31 hK hZ hF hS hA rfl hl.1 rfl (Nat.le_of_ble_eq_true rfl) dX1_giveRight_6 ⟨by show _ ≤ mc; omega, by show _ ≤ ms; omega⟩ (fun r_31 H locs h hF hS => ?_)
  simp only [Nat.add_zero]
  obtain ⟨h1, h2⟩ := h
  refine lv_if_ne (tgt := 14) hx hb dX1_giveRight_9 (by decide) (fun c_32 => ?_) (fun c_32 => ?_)
  · have h := h1 c_32
    refine lv_aload_n hx hb dX1_giveRight_14 rfl (lv_at hl 0 rfl) ?_
    obtain ⟨fs_34, a_33, he_fs_34, hv_fs_34, h⟩ := h
    refine fw_get (C := RX1) (T := TX1) (N := 4) hx hb hts hin_X1 hown hK hF he_fs_34 rfl 0 (by decide) (hts (.fieldLink RX1 16 "FrontCodedIndex$Inserter" "tree" "LFrontCodedIndex$Tree;") (by decide +kernel)) (fun _ h9 => h9) hv_fs_34 dX1_giveRight_15 ?_
    refine lv_iconst (v := (0 : Int32)) hx hb dX1_giveRight_18 (by decide) ?_
    refine lv_iload_n hx hb dX1_giveRight_19 rfl (lv_at hl 1 rfl) ?_
    obtain ⟨⟨fs_r_35, hrc_r_35⟩, h⟩ := h
    refine fw_cV_i_p (As := [.int (0 : Int32), .int x1]) (rest := []) ⟨hx, hb, hml, hown, hts⟩ (cc_X7_startOf l G h) (⟨callB_of 2 hts ggX1_giveRight_X7_startOf rfl rfl rfl (hts (.initialized RX7) (by decide +kernel)) (hts (.methodLink RX1 99 yX7_startOf) (by decide +kernel)) (by decide +kernel) ⟨Nat.le_of_ble_eq_true rfl, Nat.le_of_ble_eq_true rfl⟩, hts (.instanceMethod yX7_startOf) (by decide +kernel), hts (.selects RX7 yX7_startOf yX7_startOf) (by decide +kernel)⟩) rfl hrc_r_35 hK hZ hF hS hA rfl hl.1 rfl (Nat.le_of_ble_eq_true rfl) dX1_giveRight_20 ⟨by show _ ≤ mc; omega, by show _ ≤ ms; omega⟩ (fun r_35 H locs h hF hS => ?_)
    simp only [Nat.add_zero]
    refine lv_istore_n (lv' := [(2, .int r_35), (0, .ref a0), (1, .int x1)]) hx hb dX1_giveRight_23 rfl hl (by decide) rfl (fun ls hl => ?_)
    refine lv_aload_n hx hb dX1_giveRight_24 rfl (lv_at hl 1 rfl) ?_
    obtain ⟨fs_37, a_36, he_fs_37, hv_fs_37, h⟩ := h
    refine fw_get (C := RX1) (T := TX1) (N := 4) hx hb hts hin_X1 hown hK hF he_fs_37 rfl 0 (by decide) (hts (.fieldLink RX1 16 "FrontCodedIndex$Inserter" "tree" "LFrontCodedIndex$Tree;") (by decide +kernel)) (fun _ h9 => h9) hv_fs_37 dX1_giveRight_25 ?_
    refine lv_iconst (v := (0 : Int32)) hx hb dX1_giveRight_28 (by decide) ?_
    refine lv_iload_n hx hb dX1_giveRight_29 rfl (lv_at hl 2 rfl) ?_
    obtain ⟨⟨fs_r_38, hrc_r_38⟩, h⟩ := h
    refine fw_cV_i_p (As := [.int (0 : Int32), .int x1]) (rest := []) ⟨hx, hb, hml, hown, hts⟩ (cc_X7_endOf l G h) (⟨callB_of 2 hts ggX1_giveRight_X7_endOf rfl rfl rfl (hts (.initialized RX7) (by decide +kernel)) (hts (.methodLink RX1 96 yX7_endOf) (by decide +kernel)) (by decide +kernel) ⟨Nat.le_of_ble_eq_true rfl, Nat.le_of_ble_eq_true rfl⟩, hts (.instanceMethod yX7_endOf) (by decide +kernel), hts (.selects RX7 yX7_endOf yX7_endOf) (by decide +kernel)⟩) rfl hrc_r_38 hK hZ hF hS hA rfl hl.1 rfl (Nat.le_of_ble_eq_true rfl) dX1_giveRight_30 ⟨by show _ ≤ mc; omega, by show _ ≤ ms; omega⟩ (fun r_38 H locs h hF hS => ?_)
    simp only [Nat.add_zero]
    refine lv_iconst (v := (1 : Int32)) hx hb dX1_giveRight_33 (by decide) ?_
    refine lv_isub hx hb dX1_giveRight_34 ?_
    refine lv_topi (fun v_39 e_40 => ?_)
    have h := h v_39 e_40
    refine lv_istore_n (lv' := [(3, .int v_39), (2, .int r_35), (0, .ref a0), (1, .int x1)]) hx hb dX1_giveRight_35 rfl hl (by decide) rfl (fun ls hl => ?_)
    obtain ⟨n_41, h⟩ := h
    exact L36 r_35 n_41 v_39 f mc ms _ _ _ _ _ h hbc hbs hF hS (lv_sub hl [2, 3, 1, 0] rfl)
  · have h := h2 c_32
    refine lv_iconst (v := (0 : Int32)) hx hb dX1_giveRight_12 (by decide) ?_
    refine W.widen (k := mc) (n := ms) (by omega) (by omega) ?_
    exact W.zret (v := (0 : Int32)) hx hb hr (by decide) (fun t ht hW => ⟨⟨(0 : Int32), f, rfl, h, by rw [ht]; exact hF, FK.moved hW.alike hK⟩, hS.F ht⟩) hS.2.2 dX1_giveRight_13
