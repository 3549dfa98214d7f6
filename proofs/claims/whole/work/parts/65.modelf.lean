theorem dX9_removeRange_0 : decode cX9_removeRange 0 = .ok (.aload_n 0, 1) := by decide +kernel
theorem dX9_removeRange_1 : decode cX9_removeRange 1 = .ok (.aload_n 0, 1) := by decide +kernel
theorem dX9_removeRange_2 : decode cX9_removeRange 2 = .ok (.getfield 13, 3) := by decide +kernel
theorem dX9_removeRange_5 : decode cX9_removeRange 5 = .ok (.aload_n 0, 1) := by decide +kernel
theorem dX9_removeRange_6 : decode cX9_removeRange 6 = .ok (.getfield 96, 3) := by decide +kernel
theorem dX9_removeRange_9 : decode cX9_removeRange 9 = .ok (.invokevirtual 171, 3) := by decide +kernel
theorem dX9_removeRange_12 : decode cX9_removeRange 12 = .ok (.istore_n 1, 1) := by decide +kernel
theorem dX9_removeRange_13 : decode cX9_removeRange 13 = .ok (.iconst 0, 1) := by decide +kernel
theorem dX9_removeRange_14 : decode cX9_removeRange 14 = .ok (.istore_n 2, 1) := by decide +kernel
theorem dX9_removeRange_15 : decode cX9_removeRange 15 = .ok (.iload_n 1, 1) := by decide +kernel
theorem dX9_removeRange_16 : decode cX9_removeRange 16 = .ok (.aload_n 0, 1) := by decide +kernel
theorem dX9_removeRange_17 : decode cX9_removeRange 17 = .ok (.getfield 106, 3) := by decide +kernel
theorem dX9_removeRange_20 : decode cX9_removeRange 20 = .ok (.if_icmp .ge 31, 3) := by decide +kernel
theorem dX9_removeRange_23 : decode cX9_removeRange 23 = .ok (.aload_n 0, 1) := by decide +kernel
theorem dX9_removeRange_24 : decode cX9_removeRange 24 = .ok (.iload_n 1, 1) := by decide +kernel
theorem dX9_removeRange_25 : decode cX9_removeRange 25 = .ok (.aload_n 0, 1) := by decide +kernel
theorem dX9_removeRange_26 : decode cX9_removeRange 26 = .ok (.getfield 7, 3) := by decide +kernel
theorem dX9_removeRange_29 : decode cX9_removeRange 29 = .ok (.aload_n 0, 1) := by decide +kernel
theorem dX9_removeRange_30 : decode cX9_removeRange 30 = .ok (.getfield 88, 3) := by decide +kernel
theorem dX9_removeRange_33 : decode cX9_removeRange 33 = .ok (.invokevirtual 109, 3) := by decide +kernel
theorem dX9_removeRange_36 : decode cX9_removeRange 36 = .ok (.ifCond .ge 15, 3) := by decide +kernel
theorem dX9_removeRange_39 : decode cX9_removeRange 39 = .ok (.aload_n 0, 1) := by decide +kernel
theorem dX9_removeRange_40 : decode cX9_removeRange 40 = .ok (.iload_n 1, 1) := by decide +kernel
theorem dX9_removeRange_41 : decode cX9_removeRange 41 = .ok (.invokevirtual 204, 3) := by decide +kernel
theorem dX9_removeRange_44 : decode cX9_removeRange 44 = .ok (.pop, 1) := by decide +kernel
theorem dX9_removeRange_45 : decode cX9_removeRange 45 = .ok (.iinc 2 1, 3) := by decide +kernel
theorem dX9_removeRange_48 : decode cX9_removeRange 48 = .ok (.goto (-33), 3) := by decide +kernel
theorem dX9_removeRange_51 : decode cX9_removeRange 51 = .ok (.aload_n 0, 1) := by decide +kernel
theorem dX9_removeRange_52 : decode cX9_removeRange 52 = .ok (.iload_n 2, 1) := by decide +kernel
theorem dX9_removeRange_53 : decode cX9_removeRange 53 = .ok (.invokevirtual 91, 3) := by decide +kernel
theorem dX9_removeRange_56 : decode cX9_removeRange 56 = .ok (.ireturn, 1) := by decide +kernel
set_option maxRecDepth 20000 in
theorem ggX9_removeRange_X9_against : GoodIn wsX9_removeRange wsX9_against := goodIn_r _ [14, 15, 16, 17, 18, 9, 19, 20, 21, 22, 92, 93, 94, 95, 96, 97, 98, 99, 100, 101, 102, 103, 104, 105, 106, 107, 108, 109, 110, 111, 112, 113, 114, 115, 116, 117, 118, 119, 120, 121, 122, 123, 124, 125] (by decide +kernel) (by decide +kernel)
set_option maxRecDepth 20000 in
theorem ggX9_removeRange_X9_done : GoodIn wsX9_removeRange wsX9_done := goodIn_r _ [90, 91, 92, 93, 94, 95, 96, 97, 98, 99, 100, 101, 102, 103, 104, 105, 106, 107, 108, 109, 110, 111, 112, 113, 114, 115, 116, 117, 118, 119, 120, 121, 122, 123, 124, 125] (by decide +kernel) (by decide +kernel)
set_option maxRecDepth 20000 in
theorem ggX9_removeRange_X9_less : GoodIn wsX9_removeRange wsX9_less := goodIn_r _ [10, 3, 11, 12, 13, 9, 14, 15, 16, 17, 18, 19, 20, 21, 22, 92, 93, 94, 95, 96, 97, 98, 99, 100, 101, 102, 103, 104, 105, 106, 107, 108, 109, 110, 111, 112, 113, 114, 115, 116, 117, 118, 119, 120, 121, 122, 123, 124, 125] (by decide +kernel) (by decide +kernel)
set_option maxRecDepth 20000 in
theorem ggX9_removeRange_X9_removes : GoodIn wsX9_removeRange wsX9_removes := goodIn_r _ [26, 27, 3, 28, 29, 30, 31, 32, 33, 34, 9, 35, 36, 37, 38, 39, 40, 41, 42, 16, 15, 43, 44, 45, 46, 47, 48, 49, 50, 51, 52, 53, 54, 55, 56, 57, 58, 59, 60, 61, 62, 63, 20, 21, 22, 64, 65, 66, 67, 68, 69, 70, 71, 72, 73, 74, 75, 76, 77, 78, 79, 80, 81, 82, 83, 84, 85, 86, 92, 93, 94, 95, 96, 97, 98, 99, 100, 101, 102, 103, 104, 105, 106, 107, 108, 109, 110, 111, 112, 113, 114, 115, 116, 117, 118, 119, 120, 121, 122, 123, 124, 125] (by decide +kernel) (by decide +kernel)
def wp_X9_removeRange_51  (y2 : Int32) (n : Nat → Int32) (g : Nat → Nat → Int32) (K : Int32 → (Nat → Int32) → (Nat → Nat → Int32) → Prop)  : Prop :=
  wp_X9_done y2 n g (fun r_1 n_3 g_4 => K r_1 n_3 g_4)
def wp_X9_removeRange_15 (y1 : Int32) (K : Int32 → (Nat → Int32) → (Nat → Nat → Int32) → Prop)  (C15 : Int32 × (Nat → Int32) × (Nat → Nat → Int32) → Prop) : Int32 × (Nat → Int32) × (Nat → Nat → Int32) → Prop := fun s9 => match s9 with
  | (y2, n, g) => (((n 9) ≤ y1 → wp_X9_removeRange_51 y2 n g K) ∧
 (¬ ((n 9) ≤ y1) → wp_X9_against y1 2 (n 1) n g (fun r_6 => (((0 : Int32) ≤ r_6 → wp_X9_removeRange_51 y2 n g K) ∧
 (¬ ((0 : Int32) ≤ r_6) → wp_X9_removes y1 n g (fun r_8 n_10 g_11 => ∀ v_12 : Int32, v_12 = y2 + 1 → C15 (v_12, n_10, g_11)))))))
def wp_X9_removeRange  (n : Nat → Int32) (g : Nat → Nat → Int32) (K : Int32 → (Nat → Int32) → (Nat → Nat → Int32) → Prop) : Prop :=
  wp_X9_less 4 (n 3) n g (fun r_14 => ∃ n_15, loopW (wp_X9_removeRange_15 r_14 K) n_15 ((0 : Int32), n, g))
set_option maxHeartbeats 4000000 in
set_option maxRecDepth 100000 in
theorem cc_X9_removeRange (l : Launch) (G : GG) {mo : Nat} {ad : Nat → Nat} (had : MAd mo ad) {n : Nat → Int32} {g : Nat → Nat → Int32} {sz : Nat}  {K : Int32 → (Nat → Int32) → (Nat → Nat → Int32) → Prop} (h : wp_X9_removeRange  n g K) : Met l yX9_removeRange wsX9_removeRange ({ frames := 8, cells := 0, slots := 0, locals := 196 } : Room) (FP G [.ref mo] (mf mo ad n g) sz) (va_Qi (fun r f9 => ∃ n9 g9, f9 = mf mo ad n9 g9 ∧ K r n9 g9 : Int32 → FT → Prop) (FB G (fA (mf mo ad n g) sz)) (fA (mf mo ad n g) sz)) 0 0 (fA (mf mo ad n g) sz) := by
  refine Met.ofW (cc := cX9_removeRange) (maxL := 3) (ret := (some .int)) (by decide) rfl ?_
  intro p e s m args below meth c s₁ B hml hv
  obtain ⟨rfl, hsz, hF, hK, hZ⟩ := hv
  have hx := B.exec
  have hb := B.bytes
  have hr := B.returns
  have hts := atoms_spec (ws := wsX9_removeRange) B.pre
  have hown : s.vm.findClass RX9 = some m.cls := findClass_of_methodNamed B.named
  have hlocks := B.notSynchronized
  subst hsz
  have hF := hF.self (sz := s.heap.size)
  generalize hAe : fA (mf mo ad n g) s.heap.size = A at hF hZ ⊢
  have hA : ∀ q : Nat, s.heap.size ≤ q → A q := fun q h => by rw [← hAe]; exact Or.inr h
  have hS : va_S A s.heap s.heap [] := va_S.rf
  have hin_X9 : ∀ w ∈ wsX90, w ∈ wsX9_removeRange := by decide +kernel
  have J51 : ∀ (y2 : Int32) (n : Nat → Int32) (g : Nat → Nat → Int32) (H : Heap) (locs : List Loc) (ls : Array Slot), wp_X9_removeRange_51 y2 n g K  → Fw G A (mf mo ad n g) H → va_S A s.heap H locs → lv_has ls 3 [(0, .ref mo), (2, .int y2)] → W p l e ({ frames := 8, cells := 0, slots := 0, locals := 196 } : Room) s m ([.ref mo] : List Value).toArray below meth c H locs 0 0 (MQ below (va_Qi (fun r f9 => ∃ n9 g9, f9 = mf mo ad n9 g9 ∧ K r n9 g9 : Int32 → FT → Prop) (FB G A) A) ([.ref mo] : List Value).toArray s 0 0 A) (F0 m 51 ls []) := by
    intro y2 n g H locs ls h hF hS hl
    unfold wp_X9_removeRange_51 at h
    refine lv_aload_n hx hb dX9_removeRange_51 rfl (lv_at hl 0 rfl) ?_
    refine lv_iload_n hx hb dX9_removeRange_52 rfl (lv_at hl 1 rfl) ?_
    refine fw_cV_i (As := [.int y2]) (rest := []) ⟨hx, hb, hml, hown, hts⟩ (cc_X9_done l G had h) (⟨callB_of 1 hts ggX9_removeRange_X9_done rfl rfl rfl (hts (.initialized RX9) (by decide +kernel)) (hts (.methodLink RX9 91 yX9_done) (by decide +kernel)) (by decide +kernel) ⟨Nat.le_of_ble_eq_true rfl, Nat.le_of_ble_eq_true rfl⟩, hts (.instanceMethod yX9_done) (by decide +kernel), hts (.selects RX9 yX9_done yX9_done) (by decide +kernel)⟩) rfl mf_obj hK hZ hF hS hA rfl hl.1 rfl (Nat.le_of_ble_eq_true rfl) dX9_removeRange_53 ⟨Nat.zero_le _, Nat.zero_le _⟩ (fun r_1 f9 H locs h hF hS => ?_)
    obtain ⟨n_3, g_4, rfl, h⟩ := h
    exact W.iret (v := r_1) hx hb hr (fun t ht hW => ⟨⟨r_1, (mf mo ad n_3 g_4), rfl, ⟨_, _, rfl, h⟩, by rw [ht]; exact hF, FK.moved hW.alike hK⟩, hS.F ht⟩) hS.2.2 dX9_removeRange_56
  have L15 : ∀ (y1 : Int32) (j9 : Nat) (y2 : Int32) (n : Nat → Int32) (g : Nat → Nat → Int32) (H : Heap) (locs : List Loc) (ls : Array Slot), loopW (wp_X9_removeRange_15 y1 K ) j9 (y2, n, g) → Fw G A (mf mo ad n g) H → va_S A s.heap H locs → lv_has ls 3 [(0, .ref mo), (1, .int y1), (2, .int y2)] → W p l e ({ frames := 8, cells := 0, slots := 0, locals := 196 } : Room) s m ([.ref mo] : List Value).toArray below meth c H locs 0 0 (MQ below (va_Qi (fun r f9 => ∃ n9 g9, f9 = mf mo ad n9 g9 ∧ K r n9 g9 : Int32 → FT → Prop) (FB G A) A) ([.ref mo] : List Value).toArray s 0 0 A) (F0 m 15 ls []) := by
    intro y1 j9
    induction j9 with
    | zero => intro y2 n g H locs ls h; exact h.elim
    | succ j9 ih15 =>
      intro y2 n g H locs ls h hF hS hl
      have h : wp_X9_removeRange_15 y1 K  (loopW (wp_X9_removeRange_15 y1 K ) j9) (y2, n, g) := h
      generalize loopW (wp_X9_removeRange_15 y1 K ) j9 = C15 at ih15 h
      unfold wp_X9_removeRange_15 at h
      refine lv_iload_n hx hb dX9_removeRange_15 rfl (lv_at hl 1 rfl) ?_
      refine lv_aload_n hx hb dX9_removeRange_16 rfl (lv_at hl 0 rfl) ?_
      refine fw_get (C := RX9) (T := TX9) (N := 34) hx hb hts hin_X9 hown hK hF mf_obj rfl 9 (by decide) (hts (.fieldLink RX9 106 "FrontCodedIndexModel" "entries" "I") (by decide +kernel)) (fun _ h9 => h9) rfl dX9_removeRange_17 ?_
      obtain ⟨h1, h2⟩ := h
      refine lv_icmp_ge (tgt := 51) hx hb dX9_removeRange_20 (by decide) (fun c_5 => ?_) (fun c_5 => ?_)
      · have h := h1 c_5
        exact J51 y2 n g _ _ _ h hF hS (lv_sub hl [0, 2] rfl)
      · have h := h2 c_5
        refine lv_aload_n hx hb dX9_removeRange_23 rfl (lv_at hl 0 rfl) ?_
        refine lv_iload_n hx hb dX9_removeRange_24 rfl (lv_at hl 1 rfl) ?_
        refine lv_aload_n hx hb dX9_removeRange_25 rfl (lv_at hl 0 rfl) ?_
        refine fw_get (C := RX9) (T := TX9) (N := 34) hx hb hts hin_X9 hown hK hF mf_obj rfl 2 (by decide) (hts (.fieldLink RX9 7 "FrontCodedIndexModel" "key" "[I") (by decide +kernel)) (fun _ h9 => h9) rfl dX9_removeRange_26 ?_
        refine lv_aload_n hx hb dX9_removeRange_29 rfl (lv_at hl 0 rfl) ?_
        refine fw_get (C := RX9) (T := TX9) (N := 34) hx hb hts hin_X9 hown hK hF mf_obj rfl 1 (by decide) (hts (.fieldLink RX9 88 "FrontCodedIndexModel" "keySize" "I") (by decide +kernel)) (fun _ h9 => h9) rfl dX9_removeRange_30 ?_
        refine fw_cV_i_p (As := [.int y1, .ref (ad 2), .int (n 1)]) (rest := []) ⟨hx, hb, hml, hown, hts⟩ (cc_X9_against l G had h) (⟨callB_of 3 hts ggX9_removeRange_X9_against rfl rfl rfl (hts (.initialized RX9) (by decide +kernel)) (hts (.methodLink RX9 109 yX9_against) (by decide +kernel)) (by decide +kernel) ⟨Nat.le_of_ble_eq_true rfl, Nat.le_of_ble_eq_true rfl⟩, hts (.instanceMethod yX9_against) (by decide +kernel), hts (.selects RX9 yX9_against yX9_against) (by decide +kernel)⟩) rfl mf_obj hK hZ hF hS hA rfl hl.1 rfl (Nat.le_of_ble_eq_true rfl) dX9_removeRange_33 ⟨Nat.zero_le _, Nat.zero_le _⟩ (fun r_6 H locs h hF hS => ?_)
        obtain ⟨h1, h2⟩ := h
        refine lv_if_ge (tgt := 51) hx hb dX9_removeRange_36 (by decide) (fun c_7 => ?_) (fun c_7 => ?_)
        · have h := h1 c_7
          exact J51 y2 n g _ _ _ h hF hS (lv_sub hl [0, 2] rfl)
        · have h := h2 c_7
          refine lv_aload_n hx hb dX9_removeRange_39 rfl (lv_at hl 0 rfl) ?_
          refine lv_iload_n hx hb dX9_removeRange_40 rfl (lv_at hl 1 rfl) ?_
          refine fw_cV_i (As := [.int y1]) (rest := []) ⟨hx, hb, hml, hown, hts⟩ (cc_X9_removes l G had h) (⟨callB_of 1 hts ggX9_removeRange_X9_removes rfl rfl rfl (hts (.initialized RX9) (by decide +kernel)) (hts (.methodLink RX9 204 yX9_removes) (by decide +kernel)) (by decide +kernel) ⟨Nat.le_of_ble_eq_true rfl, Nat.le_of_ble_eq_true rfl⟩, hts (.instanceMethod yX9_removes) (by decide +kernel), hts (.selects RX9 yX9_removes yX9_removes) (by decide +kernel)⟩) rfl mf_obj hK hZ hF hS hA rfl hl.1 rfl (Nat.le_of_ble_eq_true rfl) dX9_removeRange_41 ⟨Nat.zero_le _, Nat.zero_le _⟩ (fun r_8 f9 H locs h hF hS => ?_)
          obtain ⟨n_10, g_11, rfl, h⟩ := h
          refine lv_pop hx hb dX9_removeRange_44 rfl ?_
          obtain ⟨v_12, e_13⟩ : ∃ y : Int32, y = y2 + 1 := ⟨_, rfl⟩
          have h := h v_12 e_13
          refine lv_iinc (v := v_12) (lv' := [(2, .int v_12), (0, .ref mo), (1, .int y1)]) hx hb dX9_removeRange_45 hl (k := 2) rfl (by rw [e_13]; rfl) (by decide) rfl (fun ls hl => ?_)
          refine lv_goto (tgt := 15) hx hb dX9_removeRange_48 (by decide) ?_
          exact ih15 v_12 n_10 g_11 _ _ _ h hF hS (lv_sub hl [1, 2, 0] rfl)
  have hl := lv_entry ([.ref mo]) (n := 3) (Nat.le_of_ble_eq_true rfl)
  rw [lg_entry_eq]
  generalize (lg_sl ([.ref mo]) ++ List.replicate (3 - (lg_sl ([.ref mo])).length) Slot.unset).toArray = ls at hl ⊢
  have hl : lv_has ls 3 [(0, .ref mo)] := hl
  unfold wp_X9_removeRange at h
  refine lv_aload_n hx hb dX9_removeRange_0 rfl (lv_at hl 0 rfl) ?_
  refine lv_aload_n hx hb dX9_removeRange_1 rfl (lv_at hl 0 rfl) ?_
  refine fw_get (C := RX9) (T := TX9) (N := 34) hx hb hts hin_X9 hown hK hF mf_obj rfl 4 (by decide) (hts (.fieldLink RX9 13 "FrontCodedIndexModel" "bound" "[I") (by decide +kernel)) (fun _ h9 => h9) rfl dX9_removeRange_2 ?_
  refine lv_aload_n hx hb dX9_removeRange_5 rfl (lv_at hl 0 rfl) ?_
  refine fw_get (C := RX9) (T := TX9) (N := 34) hx hb hts hin_X9 hown hK hF mf_obj rfl 3 (by decide) (hts (.fieldLink RX9 96 "FrontCodedIndexModel" "boundSize" "I") (by decide +kernel)) (fun _ h9 => h9) rfl dX9_removeRange_6 ?_
  refine fw_cV_i_p (As := [.ref (ad 4), .int (n 3)]) (rest := []) ⟨hx, hb, hml, hown, hts⟩ (cc_X9_less l G had h) (⟨callB_of 2 hts ggX9_removeRange_X9_less rfl rfl rfl (hts (.initialized RX9) (by decide +kernel)) (hts (.methodLink RX9 171 yX9_less) (by decide +kernel)) (by decide +kernel) ⟨Nat.le_of_ble_eq_true rfl, Nat.le_of_ble_eq_true rfl⟩, hts (.instanceMethod yX9_less) (by decide +kernel), hts (.selects RX9 yX9_less yX9_less) (by decide +kernel)⟩) rfl mf_obj hK hZ hF hS hA rfl hl.1 rfl (Nat.le_of_ble_eq_true rfl) dX9_removeRange_9 ⟨Nat.zero_le _, Nat.zero_le _⟩ (fun r_14 H locs h hF hS => ?_)
  refine lv_istore_n (lv' := [(1, .int r_14), (0, .ref mo)]) hx hb dX9_removeRange_12 rfl hl (by decide) rfl (fun ls hl => ?_)
  refine lv_iconst (v := (0 : Int32)) hx hb dX9_removeRange_13 (by decide) ?_
  refine lv_istore_n (lv' := [(2, .int (0 : Int32)), (1, .int r_14), (0, .ref mo)]) hx hb dX9_removeRange_14 rfl hl (by decide) rfl (fun ls hl => ?_)
  obtain ⟨n_15, h⟩ := h
  exact L15 r_14 n_15 (0 : Int32) n g _ _ _ h hF hS (lv_sub hl [2, 1, 0] rfl)
theorem dX9_restoreSnapshot_0 : decode cX9_restoreSnapshot 0 = .ok (.aload_n 0, 1) := by decide +kernel
theorem dX9_restoreSnapshot_1 : decode cX9_restoreSnapshot 1 = .ok (.getfield 243, 3) := by decide +kernel
theorem dX9_restoreSnapshot_4 : decode cX9_restoreSnapshot 4 = .ok (.ifCond .ne 9, 3) := by decide +kernel
theorem dX9_restoreSnapshot_7 : decode cX9_restoreSnapshot 7 = .ok (.aload_n 0, 1) := by decide +kernel
theorem dX9_restoreSnapshot_8 : decode cX9_restoreSnapshot 8 = .ok (.iconst 1, 1) := by decide +kernel
theorem dX9_restoreSnapshot_9 : decode cX9_restoreSnapshot 9 = .ok (.invokevirtual 84, 3) := by decide +kernel
theorem dX9_restoreSnapshot_12 : decode cX9_restoreSnapshot 12 = .ok (.ireturn, 1) := by decide +kernel
theorem dX9_restoreSnapshot_13 : decode cX9_restoreSnapshot 13 = .ok (.aload_n 0, 1) := by decide +kernel
theorem dX9_restoreSnapshot_14 : decode cX9_restoreSnapshot 14 = .ok (.aload_n 0, 1) := by decide +kernel
theorem dX9_restoreSnapshot_15 : decode cX9_restoreSnapshot 15 = .ok (.getfield 247, 3) := by decide +kernel
theorem dX9_restoreSnapshot_18 : decode cX9_restoreSnapshot 18 = .ok (.putfield 16, 3) := by decide +kernel
theorem dX9_restoreSnapshot_21 : decode cX9_restoreSnapshot 21 = .ok (.aload_n 0, 1) := by decide +kernel
theorem dX9_restoreSnapshot_22 : decode cX9_restoreSnapshot 22 = .ok (.aload_n 0, 1) := by decide +kernel
theorem dX9_restoreSnapshot_23 : decode cX9_restoreSnapshot 23 = .ok (.getfield 250, 3) := by decide +kernel
theorem dX9_restoreSnapshot_26 : decode cX9_restoreSnapshot 26 = .ok (.putfield 106, 3) := by decide +kernel
theorem dX9_restoreSnapshot_29 : decode cX9_restoreSnapshot 29 = .ok (.aload_n 0, 1) := by decide +kernel
theorem dX9_restoreSnapshot_30 : decode cX9_restoreSnapshot 30 = .ok (.aload_n 0, 1) := by decide +kernel
theorem dX9_restoreSnapshot_31 : decode cX9_restoreSnapshot 31 = .ok (.getfield 253, 3) := by decide +kernel
theorem dX9_restoreSnapshot_34 : decode cX9_restoreSnapshot 34 = .ok (.putfield 29, 3) := by decide +kernel
theorem dX9_restoreSnapshot_37 : decode cX9_restoreSnapshot 37 = .ok (.aload_n 0, 1) := by decide +kernel
theorem dX9_restoreSnapshot_38 : decode cX9_restoreSnapshot 38 = .ok (.getfield 56, 3) := by decide +kernel
theorem dX9_restoreSnapshot_41 : decode cX9_restoreSnapshot 41 = .ok (.aload_n 0, 1) := by decide +kernel
theorem dX9_restoreSnapshot_42 : decode cX9_restoreSnapshot 42 = .ok (.getfield 20, 3) := by decide +kernel
theorem dX9_restoreSnapshot_45 : decode cX9_restoreSnapshot 45 = .ok (.sipush 300, 3) := by decide +kernel
theorem dX9_restoreSnapshot_48 : decode cX9_restoreSnapshot 48 = .ok (.invokestatic 256, 3) := by decide +kernel
theorem dX9_restoreSnapshot_51 : decode cX9_restoreSnapshot 51 = .ok (.aload_n 0, 1) := by decide +kernel
theorem dX9_restoreSnapshot_52 : decode cX9_restoreSnapshot 52 = .ok (.getfield 59, 3) := by decide +kernel
theorem dX9_restoreSnapshot_55 : decode cX9_restoreSnapshot 55 = .ok (.aload_n 0, 1) := by decide +kernel
theorem dX9_restoreSnapshot_56 : decode cX9_restoreSnapshot 56 = .ok (.getfield 23, 3) := by decide +kernel
theorem dX9_restoreSnapshot_59 : decode cX9_restoreSnapshot 59 = .ok (.sipush 3600, 3) := by decide +kernel
theorem dX9_restoreSnapshot_62 : decode cX9_restoreSnapshot 62 = .ok (.invokestatic 256, 3) := by decide +kernel
theorem dX9_restoreSnapshot_65 : decode cX9_restoreSnapshot 65 = .ok (.aload_n 0, 1) := by decide +kernel
theorem dX9_restoreSnapshot_66 : decode cX9_restoreSnapshot 66 = .ok (.getfield 62, 3) := by decide +kernel
theorem dX9_restoreSnapshot_69 : decode cX9_restoreSnapshot 69 = .ok (.aload_n 0, 1) := by decide +kernel
theorem dX9_restoreSnapshot_70 : decode cX9_restoreSnapshot 70 = .ok (.getfield 26, 3) := by decide +kernel
theorem dX9_restoreSnapshot_73 : decode cX9_restoreSnapshot 73 = .ok (.sipush 300, 3) := by decide +kernel
theorem dX9_restoreSnapshot_76 : decode cX9_restoreSnapshot 76 = .ok (.invokestatic 256, 3) := by decide +kernel
theorem dX9_restoreSnapshot_79 : decode cX9_restoreSnapshot 79 = .ok (.aload_n 0, 1) := by decide +kernel
theorem dX9_restoreSnapshot_80 : decode cX9_restoreSnapshot 80 = .ok (.getfield 65, 3) := by decide +kernel
theorem dX9_restoreSnapshot_83 : decode cX9_restoreSnapshot 83 = .ok (.aload_n 0, 1) := by decide +kernel
theorem dX9_restoreSnapshot_84 : decode cX9_restoreSnapshot 84 = .ok (.getfield 32, 3) := by decide +kernel
theorem dX9_restoreSnapshot_87 : decode cX9_restoreSnapshot 87 = .ok (.bipush 12, 2) := by decide +kernel
theorem dX9_restoreSnapshot_89 : decode cX9_restoreSnapshot 89 = .ok (.invokestatic 256, 3) := by decide +kernel
theorem dX9_restoreSnapshot_92 : decode cX9_restoreSnapshot 92 = .ok (.aload_n 0, 1) := by decide +kernel
theorem dX9_restoreSnapshot_93 : decode cX9_restoreSnapshot 93 = .ok (.getfield 68, 3) := by decide +kernel
theorem dX9_restoreSnapshot_96 : decode cX9_restoreSnapshot 96 = .ok (.aload_n 0, 1) := by decide +kernel
theorem dX9_restoreSnapshot_97 : decode cX9_restoreSnapshot 97 = .ok (.getfield 35, 3) := by decide +kernel
theorem dX9_restoreSnapshot_100 : decode cX9_restoreSnapshot 100 = .ok (.sipush 4800, 3) := by decide +kernel
theorem dX9_restoreSnapshot_103 : decode cX9_restoreSnapshot 103 = .ok (.invokestatic 256, 3) := by decide +kernel
theorem dX9_restoreSnapshot_106 : decode cX9_restoreSnapshot 106 = .ok (.aload_n 0, 1) := by decide +kernel
theorem dX9_restoreSnapshot_107 : decode cX9_restoreSnapshot 107 = .ok (.getfield 71, 3) := by decide +kernel
theorem dX9_restoreSnapshot_110 : decode cX9_restoreSnapshot 110 = .ok (.aload_n 0, 1) := by decide +kernel
theorem dX9_restoreSnapshot_111 : decode cX9_restoreSnapshot 111 = .ok (.getfield 38, 3) := by decide +kernel
theorem dX9_restoreSnapshot_114 : decode cX9_restoreSnapshot 114 = .ok (.sipush 400, 3) := by decide +kernel
theorem dX9_restoreSnapshot_117 : decode cX9_restoreSnapshot 117 = .ok (.invokestatic 256, 3) := by decide +kernel
theorem dX9_restoreSnapshot_120 : decode cX9_restoreSnapshot 120 = .ok (.aload_n 0, 1) := by decide +kernel
theorem dX9_restoreSnapshot_121 : decode cX9_restoreSnapshot 121 = .ok (.getfield 74, 3) := by decide +kernel
theorem dX9_restoreSnapshot_124 : decode cX9_restoreSnapshot 124 = .ok (.aload_n 0, 1) := by decide +kernel
theorem dX9_restoreSnapshot_125 : decode cX9_restoreSnapshot 125 = .ok (.getfield 41, 3) := by decide +kernel
theorem dX9_restoreSnapshot_128 : decode cX9_restoreSnapshot 128 = .ok (.sipush 4800, 3) := by decide +kernel
theorem dX9_restoreSnapshot_131 : decode cX9_restoreSnapshot 131 = .ok (.invokestatic 256, 3) := by decide +kernel
theorem dX9_restoreSnapshot_134 : decode cX9_restoreSnapshot 134 = .ok (.aload_n 0, 1) := by decide +kernel
theorem dX9_restoreSnapshot_135 : decode cX9_restoreSnapshot 135 = .ok (.invokevirtual 237, 3) := by decide +kernel
theorem dX9_restoreSnapshot_138 : decode cX9_restoreSnapshot 138 = .ok (.aload_n 0, 1) := by decide +kernel
theorem dX9_restoreSnapshot_139 : decode cX9_restoreSnapshot 139 = .ok (.aload_n 0, 1) := by decide +kernel
theorem dX9_restoreSnapshot_140 : decode cX9_restoreSnapshot 140 = .ok (.getfield 106, 3) := by decide +kernel
theorem dX9_restoreSnapshot_143 : decode cX9_restoreSnapshot 143 = .ok (.invokevirtual 91, 3) := by decide +kernel
theorem dX9_restoreSnapshot_146 : decode cX9_restoreSnapshot 146 = .ok (.ireturn, 1) := by decide +kernel
set_option maxRecDepth 20000 in
theorem ggX9_restoreSnapshot_X9_closesAll : GoodIn wsX9_restoreSnapshot wsX9_closesAll := goodIn_r _ [34, 35, 40, 41, 42, 43, 44, 45, 46, 47, 48, 49, 50, 51, 52, 53, 54, 55, 56, 57, 58, 59, 60, 61, 62, 63, 64, 65, 66, 67, 68, 69, 70, 71, 72, 73] (by decide +kernel) (by decide +kernel)
set_option maxRecDepth 20000 in
theorem ggX9_restoreSnapshot_X9_copy : GoodIn wsX9_restoreSnapshot wsX9_copy := goodIn_r _ [30] (by decide +kernel) (by decide +kernel)
set_option maxRecDepth 20000 in
theorem ggX9_restoreSnapshot_X9_done : GoodIn wsX9_restoreSnapshot wsX9_done := goodIn_r _ [39, 27, 40, 41, 42, 43, 44, 45, 46, 47, 48, 49, 50, 51, 52, 53, 54, 55, 56, 57, 58, 59, 60, 61, 62, 63, 64, 65, 66, 67, 68, 69, 70, 71, 72, 73] (by decide +kernel) (by decide +kernel)
set_option maxRecDepth 20000 in
theorem ggX9_restoreSnapshot_X9_fails : GoodIn wsX9_restoreSnapshot wsX9_fails := goodIn_r _ [26, 27, 40, 41, 42, 43, 44, 45, 46, 47, 48, 49, 50, 51, 52, 53, 54, 55, 56, 57, 58, 59, 60, 61, 62, 63, 64, 65, 66, 67, 68, 69, 70, 71, 72, 73] (by decide +kernel) (by decide +kernel)
def wp_X9_restoreSnapshot  (n : Nat → Int32) (g : Nat → Nat → Int32) (K : Int32 → (Nat → Int32) → (Nat → Nat → Int32) → Prop) : Prop :=
  ((¬ (n 23) = (0 : Int32) → ∀ n_2 : Nat → Int32, n_2 = upd n 5 (n 24) → ∀ n_3 : Nat → Int32, n_3 = upd n_2 9 (n_2 25) → ∀ n_4 : Nat → Int32, n_4 = upd n_3 13 (n_3 26) → wp_X9_copy 27 10 (300 : Int32) n_4 g (fun n_7 g_8 => wp_X9_copy 28 11 (3600 : Int32) n_7 g_8 (fun n_11 g_12 => wp_X9_copy 29 12 (300 : Int32) n_11 g_12 (fun n_15 g_16 => wp_X9_copy 30 14 (12 : Int32) n_15 g_16 (fun n_19 g_20 => wp_X9_copy 31 15 (4800 : Int32) n_19 g_20 (fun n_23 g_24 => wp_X9_copy 32 16 (400 : Int32) n_23 g_24 (fun n_27 g_28 => wp_X9_copy 33 17 (4800 : Int32) n_27 g_28 (fun n_31 g_32 => wp_X9_closesAll  n_31 g_32 (fun n_35 g_36 => wp_X9_done (n_35 9) n_35 g_36 (fun r_37 n_39 g_40 => K r_37 n_39 g_40)))))))))) ∧
 ((n 23) = (0 : Int32) → wp_X9_fails (1 : Int32) n g (fun r_41 n_43 g_44 => K r_41 n_43 g_44)))
set_option maxHeartbeats 4000000 in
set_option maxRecDepth 100000 in
theorem cc_X9_restoreSnapshot (l : Launch) (G : GG) {mo : Nat} {ad : Nat → Nat} (had : MAd mo ad) {n : Nat → Int32} {g : Nat → Nat → Int32} {sz : Nat}  {K : Int32 → (Nat → Int32) → (Nat → Nat → Int32) → Prop} (h : wp_X9_restoreSnapshot  n g K) : Met l yX9_restoreSnapshot wsX9_restoreSnapshot ({ frames := 1, cells := 0, slots := 0, locals := 23 } : Room) (FP G [.ref mo] (mf mo ad n g) sz) (va_Qi (fun r f9 => ∃ n9 g9, f9 = mf mo ad n9 g9 ∧ K r n9 g9 : Int32 → FT → Prop) (FB G (fA (mf mo ad n g) sz)) (fA (mf mo ad n g) sz)) 0 0 (fA (mf mo ad n g) sz) := by
  refine Met.ofW (cc := cX9_restoreSnapshot) (maxL := 1) (ret := (some .int)) (by decide) rfl ?_
  intro p e s m args below meth c s₁ B hml hv
  obtain ⟨rfl, hsz, hF, hK, hZ⟩ := hv
  have hx := B.exec
  have hb := B.bytes
  have hr := B.returns
  have hts := atoms_spec (ws := wsX9_restoreSnapshot) B.pre
  have hown : s.vm.findClass RX9 = some m.cls := findClass_of_methodNamed B.named
  have hlocks := B.notSynchronized
  subst hsz
  have hF := hF.self (sz := s.heap.size)
  generalize hAe : fA (mf mo ad n g) s.heap.size = A at hF hZ ⊢
  have hA : ∀ q : Nat, s.heap.size ≤ q → A q := fun q h => by rw [← hAe]; exact Or.inr h
  have hS : va_S A s.heap s.heap [] := va_S.rf
  have hin_X9 : ∀ w ∈ wsX90, w ∈ wsX9_restoreSnapshot := by decide +kernel
  have hl := lv_entry ([.ref mo]) (n := 1) (Nat.le_of_ble_eq_true rfl)
  rw [lg_entry_eq]
  generalize (lg_sl ([.ref mo]) ++ List.replicate (1 - (lg_sl ([.ref mo])).length) Slot.unset).toArray = ls at hl ⊢
  have hl : lv_has ls 1 [(0, .ref mo)] := hl
  unfold wp_X9_restoreSnapshot at h
  refine lv_aload_n hx hb dX9_restoreSnapshot_0 rfl (lv_at hl 0 rfl) ?_
  refine fw_get (C := RX9) (T := TX9) (N := 34) hx hb hts hin_X9 hown hK hF mf_obj rfl 23 (by decide) (hts (.fieldLink RX9 243 "FrontCodedIndexModel" "hasSaved" "Z") (by decide +kernel)) (fun _ h9 => h9) rfl dX9_restoreSnapshot_1 ?_
  obtain ⟨h1, h2⟩ := h
  refine lv_if_ne (tgt := 13) hx hb dX9_restoreSnapshot_4 (by decide) (fun c_1 => ?_) (fun c_1 => ?_)
  · have h := h1 c_1
    refine lv_aload_n hx hb dX9_restoreSnapshot_13 rfl (lv_at hl 0 rfl) ?_
    refine lv_aload_n hx hb dX9_restoreSnapshot_14 rfl (lv_at hl 0 rfl) ?_
    refine fw_get (C := RX9) (T := TX9) (N := 34) hx hb hts hin_X9 hown hK hF mf_obj rfl 24 (by decide) (hts (.fieldLink RX9 247 "FrontCodedIndexModel" "savedCapacity" "I") (by decide +kernel)) (fun _ h9 => h9) rfl dX9_restoreSnapshot_15 ?_
    refine fw_put (v := .int (n 24)) (ty := .int) (C := RX9) (T := TX9) (N := 34) hx hb hts hin_X9 tyX9 tyX9_ok nmX9 hown hK hF hS mf_obj rfl 5 (by decide) (hts (.fieldLink RX9 16 "FrontCodedIndexModel" "capacity" "I") (by decide +kernel)) (fun _ h9 => h9) rfl (by decide +kernel) rfl rfl (show 5 < 34 by decide) dX9_restoreSnapshot_18 (fun H locs hF hS => ?_)
    rw [mf_put 5 (n 24) rfl] at hF
    obtain ⟨n_2, hn_n_2⟩ : ∃ z, z = upd n 5 (n 24) := ⟨_, rfl⟩
    rw [← hn_n_2] at hF; have h := h n_2 hn_n_2
    refine lv_aload_n hx hb dX9_restoreSnapshot_21 rfl (lv_at hl 0 rfl) ?_
    refine lv_aload_n hx hb dX9_restoreSnapshot_22 rfl (lv_at hl 0 rfl) ?_
    refine fw_get (C := RX9) (T := TX9) (N := 34) hx hb hts hin_X9 hown hK hF mf_obj rfl 25 (by decide) (hts (.fieldLink RX9 250 "FrontCodedIndexModel" "savedEntries" "I") (by decide +kernel)) (fun _ h9 => h9) rfl dX9_restoreSnapshot_23 ?_
    refine fw_put (v := .int (n_2 25)) (ty := .int) (C := RX9) (T := TX9) (N := 34) hx hb hts hin_X9 tyX9 tyX9_ok nmX9 hown hK hF hS mf_obj rfl 9 (by decide) (hts (.fieldLink RX9 106 "FrontCodedIndexModel" "entries" "I") (by decide +kernel)) (fun _ h9 => h9) rfl (by decide +kernel) rfl rfl (show 9 < 34 by decide) dX9_restoreSnapshot_26 (fun H locs hF hS => ?_)
    rw [mf_put 9 (n_2 25) rfl] at hF
    obtain ⟨n_3, hn_n_3⟩ : ∃ z, z = upd n_2 9 (n_2 25) := ⟨_, rfl⟩
    rw [← hn_n_3] at hF; have h := h n_3 hn_n_3
    refine lv_aload_n hx hb dX9_restoreSnapshot_29 rfl (lv_at hl 0 rfl) ?_
    refine lv_aload_n hx hb dX9_restoreSnapshot_30 rfl (lv_at hl 0 rfl) ?_
    refine fw_get (C := RX9) (T := TX9) (N := 34) hx hb hts hin_X9 hown hK hF mf_obj rfl 26 (by decide) (hts (.fieldLink RX9 253 "FrontCodedIndexModel" "savedLevels" "I") (by decide +kernel)) (fun _ h9 => h9) rfl dX9_restoreSnapshot_31 ?_
    refine fw_put (v := .int (n_3 26)) (ty := .int) (C := RX9) (T := TX9) (N := 34) hx hb hts hin_X9 tyX9 tyX9_ok nmX9 hown hK hF hS mf_obj rfl 13 (by decide) (hts (.fieldLink RX9 29 "FrontCodedIndexModel" "levels" "I") (by decide +kernel)) (fun _ h9 => h9) rfl (by decide +kernel) rfl rfl (show 13 < 34 by decide) dX9_restoreSnapshot_34 (fun H locs hF hS => ?_)
    rw [mf_put 13 (n_3 26) rfl] at hF
    obtain ⟨n_4, hn_n_4⟩ : ∃ z, z = upd n_3 13 (n_3 26) := ⟨_, rfl⟩
    rw [← hn_n_4] at hF; have h := h n_4 hn_n_4
    refine lv_aload_n hx hb dX9_restoreSnapshot_37 rfl (lv_at hl 0 rfl) ?_
    refine fw_get (C := RX9) (T := TX9) (N := 34) hx hb hts hin_X9 hown hK hF mf_obj rfl 27 (by decide) (hts (.fieldLink RX9 56 "FrontCodedIndexModel" "savedSizeOf" "[I") (by decide +kernel)) (fun _ h9 => h9) rfl dX9_restoreSnapshot_38 ?_
    refine lv_aload_n hx hb dX9_restoreSnapshot_41 rfl (lv_at hl 0 rfl) ?_
    refine fw_get (C := RX9) (T := TX9) (N := 34) hx hb hts hin_X9 hown hK hF mf_obj rfl 10 (by decide) (hts (.fieldLink RX9 20 "FrontCodedIndexModel" "sizeOf" "[I") (by decide +kernel)) (fun _ h9 => h9) rfl dX9_restoreSnapshot_42 ?_
    refine lv_sipush (v := (300 : Int32)) hx hb dX9_restoreSnapshot_45 (by decide) ?_
    refine fw_cS_v (As := [.ref (ad 27), .ref (ad 10), .int (300 : Int32)]) (rest := []) ⟨hx, hb, hml, hown, hts⟩ (cc_X9_copy l G had h) (⟨callB_of 3 hts ggX9_restoreSnapshot_X9_copy rfl rfl rfl (hts (.initialized RX9) (by decide +kernel)) (hts (.methodLink RX9 256 yX9_copy) (by decide +kernel)) (by decide +kernel) ⟨Nat.le_of_ble_eq_true rfl, Nat.le_of_ble_eq_true rfl⟩, hts (.static yX9_copy) (by decide +kernel)⟩) hK hZ hF hS hA rfl hl.1 rfl (Nat.le_of_ble_eq_true rfl) dX9_restoreSnapshot_48 ⟨Nat.zero_le _, Nat.zero_le _⟩ (fun f9 H locs h hF hS => ?_)
    obtain ⟨n_7, g_8, rfl, h⟩ := h
    refine lv_aload_n hx hb dX9_restoreSnapshot_51 rfl (lv_at hl 0 rfl) ?_
    refine fw_get (C := RX9) (T := TX9) (N := 34) hx hb hts hin_X9 hown hK hF mf_obj rfl 28 (by decide) (hts (.fieldLink RX9 59 "FrontCodedIndexModel" "savedBytes" "[I") (by decide +kernel)) (fun _ h9 => h9) rfl dX9_restoreSnapshot_52 ?_
    refine lv_aload_n hx hb dX9_restoreSnapshot_55 rfl (lv_at hl 0 rfl) ?_
    refine fw_get (C := RX9) (T := TX9) (N := 34) hx hb hts hin_X9 hown hK hF mf_obj rfl 11 (by decide) (hts (.fieldLink RX9 23 "FrontCodedIndexModel" "bytes" "[I") (by decide +kernel)) (fun _ h9 => h9) rfl dX9_restoreSnapshot_56 ?_
    refine lv_sipush (v := (3600 : Int32)) hx hb dX9_restoreSnapshot_59 (by decide) ?_
    refine fw_cS_v (As := [.ref (ad 28), .ref (ad 11), .int (3600 : Int32)]) (rest := []) ⟨hx, hb, hml, hown, hts⟩ (cc_X9_copy l G had h) (⟨callB_of 3 hts ggX9_restoreSnapshot_X9_copy rfl rfl rfl (hts (.initialized RX9) (by decide +kernel)) (hts (.methodLink RX9 256 yX9_copy) (by decide +kernel)) (by decide +kernel) ⟨Nat.le_of_ble_eq_true rfl, Nat.le_of_ble_eq_true rfl⟩, hts (.static yX9_copy) (by decide +kernel)⟩) hK hZ hF hS hA rfl hl.1 rfl (Nat.le_of_ble_eq_true rfl) dX9_restoreSnapshot_62 ⟨Nat.zero_le _, Nat.zero_le _⟩ (fun f9 H locs h hF hS => ?_)
    obtain ⟨n_11, g_12, rfl, h⟩ := h
    refine lv_aload_n hx hb dX9_restoreSnapshot_65 rfl (lv_at hl 0 rfl) ?_
    refine fw_get (C := RX9) (T := TX9) (N := 34) hx hb hts hin_X9 hown hK hF mf_obj rfl 29 (by decide) (hts (.fieldLink RX9 62 "FrontCodedIndexModel" "savedValues" "[I") (by decide +kernel)) (fun _ h9 => h9) rfl dX9_restoreSnapshot_66 ?_
    refine lv_aload_n hx hb dX9_restoreSnapshot_69 rfl (lv_at hl 0 rfl) ?_
    refine fw_get (C := RX9) (T := TX9) (N := 34) hx hb hts hin_X9 hown hK hF mf_obj rfl 12 (by decide) (hts (.fieldLink RX9 26 "FrontCodedIndexModel" "values" "[I") (by decide +kernel)) (fun _ h9 => h9) rfl dX9_restoreSnapshot_70 ?_
    refine lv_sipush (v := (300 : Int32)) hx hb dX9_restoreSnapshot_73 (by decide) ?_
    refine fw_cS_v (As := [.ref (ad 29), .ref (ad 12), .int (300 : Int32)]) (rest := []) ⟨hx, hb, hml, hown, hts⟩ (cc_X9_copy l G had h) (⟨callB_of 3 hts ggX9_restoreSnapshot_X9_copy rfl rfl rfl (hts (.initialized RX9) (by decide +kernel)) (hts (.methodLink RX9 256 yX9_copy) (by decide +kernel)) (by decide +kernel) ⟨Nat.le_of_ble_eq_true rfl, Nat.le_of_ble_eq_true rfl⟩, hts (.static yX9_copy) (by decide +kernel)⟩) hK hZ hF hS hA rfl hl.1 rfl (Nat.le_of_ble_eq_true rfl) dX9_restoreSnapshot_76 ⟨Nat.zero_le _, Nat.zero_le _⟩ (fun f9 H locs h hF hS => ?_)
    obtain ⟨n_15, g_16, rfl, h⟩ := h
    refine lv_aload_n hx hb dX9_restoreSnapshot_79 rfl (lv_at hl 0 rfl) ?_
    refine fw_get (C := RX9) (T := TX9) (N := 34) hx hb hts hin_X9 hown hK hF mf_obj rfl 30 (by decide) (hts (.fieldLink RX9 65 "FrontCodedIndexModel" "savedMany" "[I") (by decide +kernel)) (fun _ h9 => h9) rfl dX9_restoreSnapshot_80 ?_
    refine lv_aload_n hx hb dX9_restoreSnapshot_83 rfl (lv_at hl 0 rfl) ?_
    refine fw_get (C := RX9) (T := TX9) (N := 34) hx hb hts hin_X9 hown hK hF mf_obj rfl 14 (by decide) (hts (.fieldLink RX9 32 "FrontCodedIndexModel" "many" "[I") (by decide +kernel)) (fun _ h9 => h9) rfl dX9_restoreSnapshot_84 ?_
    refine lv_bipush (v := (12 : Int32)) hx hb dX9_restoreSnapshot_87 (by decide) ?_
    refine fw_cS_v (As := [.ref (ad 30), .ref (ad 14), .int (12 : Int32)]) (rest := []) ⟨hx, hb, hml, hown, hts⟩ (cc_X9_copy l G had h) (⟨callB_of 3 hts ggX9_restoreSnapshot_X9_copy rfl rfl rfl (hts (.initialized RX9) (by decide +kernel)) (hts (.methodLink RX9 256 yX9_copy) (by decide +kernel)) (by decide +kernel) ⟨Nat.le_of_ble_eq_true rfl, Nat.le_of_ble_eq_true rfl⟩, hts (.static yX9_copy) (by decide +kernel)⟩) hK hZ hF hS hA rfl hl.1 rfl (Nat.le_of_ble_eq_true rfl) dX9_restoreSnapshot_89 ⟨Nat.zero_le _, Nat.zero_le _⟩ (fun f9 H locs h hF hS => ?_)
    obtain ⟨n_19, g_20, rfl, h⟩ := h
    refine lv_aload_n hx hb dX9_restoreSnapshot_92 rfl (lv_at hl 0 rfl) ?_
    refine fw_get (C := RX9) (T := TX9) (N := 34) hx hb hts hin_X9 hown hK hF mf_obj rfl 31 (by decide) (hts (.fieldLink RX9 68 "FrontCodedIndexModel" "savedParts" "[I") (by decide +kernel)) (fun _ h9 => h9) rfl dX9_restoreSnapshot_93 ?_
    refine lv_aload_n hx hb dX9_restoreSnapshot_96 rfl (lv_at hl 0 rfl) ?_
    refine fw_get (C := RX9) (T := TX9) (N := 34) hx hb hts hin_X9 hown hK hF mf_obj rfl 15 (by decide) (hts (.fieldLink RX9 35 "FrontCodedIndexModel" "parts" "[I") (by decide +kernel)) (fun _ h9 => h9) rfl dX9_restoreSnapshot_97 ?_
    refine lv_sipush (v := (4800 : Int32)) hx hb dX9_restoreSnapshot_100 (by decide) ?_
    refine fw_cS_v (As := [.ref (ad 31), .ref (ad 15), .int (4800 : Int32)]) (rest := []) ⟨hx, hb, hml, hown, hts⟩ (cc_X9_copy l G had h) (⟨callB_of 3 hts ggX9_restoreSnapshot_X9_copy rfl rfl rfl (hts (.initialized RX9) (by decide +kernel)) (hts (.methodLink RX9 256 yX9_copy) (by decide +kernel)) (by decide +kernel) ⟨Nat.le_of_ble_eq_true rfl, Nat.le_of_ble_eq_true rfl⟩, hts (.static yX9_copy) (by decide +kernel)⟩) hK hZ hF hS hA rfl hl.1 rfl (Nat.le_of_ble_eq_true rfl) dX9_restoreSnapshot_103 ⟨Nat.zero_le _, Nat.zero_le _⟩ (fun f9 H locs h hF hS => ?_)
    obtain ⟨n_23, g_24, rfl, h⟩ := h
    refine lv_aload_n hx hb dX9_restoreSnapshot_106 rfl (lv_at hl 0 rfl) ?_
    refine fw_get (C := RX9) (T := TX9) (N := 34) hx hb hts hin_X9 hown hK hF mf_obj rfl 32 (by decide) (hts (.fieldLink RX9 71 "FrontCodedIndexModel" "savedSepSize" "[I") (by decide +kernel)) (fun _ h9 => h9) rfl dX9_restoreSnapshot_107 ?_
    refine lv_aload_n hx hb dX9_restoreSnapshot_110 rfl (lv_at hl 0 rfl) ?_
    refine fw_get (C := RX9) (T := TX9) (N := 34) hx hb hts hin_X9 hown hK hF mf_obj rfl 16 (by decide) (hts (.fieldLink RX9 38 "FrontCodedIndexModel" "sepSize" "[I") (by decide +kernel)) (fun _ h9 => h9) rfl dX9_restoreSnapshot_111 ?_
    refine lv_sipush (v := (400 : Int32)) hx hb dX9_restoreSnapshot_114 (by decide) ?_
    refine fw_cS_v (As := [.ref (ad 32), .ref (ad 16), .int (400 : Int32)]) (rest := []) ⟨hx, hb, hml, hown, hts⟩ (cc_X9_copy l G had h) (⟨callB_of 3 hts ggX9_restoreSnapshot_X9_copy rfl rfl rfl (hts (.initialized RX9) (by decide +kernel)) (hts (.methodLink RX9 256 yX9_copy) (by decide +kernel)) (by decide +kernel) ⟨Nat.le_of_ble_eq_true rfl, Nat.le_of_ble_eq_true rfl⟩, hts (.static yX9_copy) (by decide +kernel)⟩) hK hZ hF hS hA rfl hl.1 rfl (Nat.le_of_ble_eq_true rfl) dX9_restoreSnapshot_117 ⟨Nat.zero_le _, Nat.zero_le _⟩ (fun f9 H locs h hF hS => ?_)
    obtain ⟨n_27, g_28, rfl, h⟩ := h
    refine lv_aload_n hx hb dX9_restoreSnapshot_120 rfl (lv_at hl 0 rfl) ?_
    refine fw_get (C := RX9) (T := TX9) (N := 34) hx hb hts hin_X9 hown hK hF mf_obj rfl 33 (by decide) (hts (.fieldLink RX9 74 "FrontCodedIndexModel" "savedSep" "[I") (by decide +kernel)) (fun _ h9 => h9) rfl dX9_restoreSnapshot_121 ?_
    refine lv_aload_n hx hb dX9_restoreSnapshot_124 rfl (lv_at hl 0 rfl) ?_
    refine fw_get (C := RX9) (T := TX9) (N := 34) hx hb hts hin_X9 hown hK hF mf_obj rfl 17 (by decide) (hts (.fieldLink RX9 41 "FrontCodedIndexModel" "sep" "[I") (by decide +kernel)) (fun _ h9 => h9) rfl dX9_restoreSnapshot_125 ?_
    refine lv_sipush (v := (4800 : Int32)) hx hb dX9_restoreSnapshot_128 (by decide) ?_
    refine fw_cS_v (As := [.ref (ad 33), .ref (ad 17), .int (4800 : Int32)]) (rest := []) ⟨hx, hb, hml, hown, hts⟩ (cc_X9_copy l G had h) (⟨callB_of 3 hts ggX9_restoreSnapshot_X9_copy rfl rfl rfl (hts (.initialized RX9) (by decide +kernel)) (hts (.methodLink RX9 256 yX9_copy) (by decide +kernel)) (by decide +kernel) ⟨Nat.le_of_ble_eq_true rfl, Nat.le_of_ble_eq_true rfl⟩, hts (.static yX9_copy) (by decide +kernel)⟩) hK hZ hF hS hA rfl hl.1 rfl (Nat.le_of_ble_eq_true rfl) dX9_restoreSnapshot_131 ⟨Nat.zero_le _, Nat.zero_le _⟩ (fun f9 H locs h hF hS => ?_)
    obtain ⟨n_31, g_32, rfl, h⟩ := h
    refine lv_aload_n hx hb dX9_restoreSnapshot_134 rfl (lv_at hl 0 rfl) ?_
    refine fw_cV_v (As := []) (rest := []) ⟨hx, hb, hml, hown, hts⟩ (cc_X9_closesAll l G had h) (⟨callB_of 0 hts ggX9_restoreSnapshot_X9_closesAll rfl rfl rfl (hts (.initialized RX9) (by decide +kernel)) (hts (.methodLink RX9 237 yX9_closesAll) (by decide +kernel)) (by decide +kernel) ⟨Nat.le_of_ble_eq_true rfl, Nat.le_of_ble_eq_true rfl⟩, hts (.instanceMethod yX9_closesAll) (by decide +kernel), hts (.selects RX9 yX9_closesAll yX9_closesAll) (by decide +kernel)⟩) rfl mf_obj hK hZ hF hS hA rfl hl.1 rfl (Nat.le_of_ble_eq_true rfl) dX9_restoreSnapshot_135 ⟨Nat.zero_le _, Nat.zero_le _⟩ (fun f9 H locs h hF hS => ?_)
    obtain ⟨n_35, g_36, rfl, h⟩ := h
    refine lv_aload_n hx hb dX9_restoreSnapshot_138 rfl (lv_at hl 0 rfl) ?_
    refine lv_aload_n hx hb dX9_restoreSnapshot_139 rfl (lv_at hl 0 rfl) ?_
    refine fw_get (C := RX9) (T := TX9) (N := 34) hx hb hts hin_X9 hown hK hF mf_obj rfl 9 (by decide) (hts (.fieldLink RX9 106 "FrontCodedIndexModel" "entries" "I") (by decide +kernel)) (fun _ h9 => h9) rfl dX9_restoreSnapshot_140 ?_
    refine fw_cV_i (As := [.int (n_35 9)]) (rest := []) ⟨hx, hb, hml, hown, hts⟩ (cc_X9_done l G had h) (⟨callB_of 1 hts ggX9_restoreSnapshot_X9_done rfl rfl rfl (hts (.initialized RX9) (by decide +kernel)) (hts (.methodLink RX9 91 yX9_done) (by decide +kernel)) (by decide +kernel) ⟨Nat.le_of_ble_eq_true rfl, Nat.le_of_ble_eq_true rfl⟩, hts (.instanceMethod yX9_done) (by decide +kernel), hts (.selects RX9 yX9_done yX9_done) (by decide +kernel)⟩) rfl mf_obj hK hZ hF hS hA rfl hl.1 rfl (Nat.le_of_ble_eq_true rfl) dX9_restoreSnapshot_143 ⟨Nat.zero_le _, Nat.zero_le _⟩ (fun r_37 f9 H locs h hF hS => ?_)
    obtain ⟨n_39, g_40, rfl, h⟩ := h
    exact W.iret (v := r_37) hx hb hr (fun t ht hW => ⟨⟨r_37, (mf mo ad n_39 g_40), rfl, ⟨_, _, rfl, h⟩, by rw [ht]; exact hF, FK.moved hW.alike hK⟩, hS.F ht⟩) hS.2.2 dX9_restoreSnapshot_146
  · have h := h2 c_1
    refine lv_aload_n hx hb dX9_restoreSnapshot_7 rfl (lv_at hl 0 rfl) ?_
    refine lv_iconst (v := (1 : Int32)) hx hb dX9_restoreSnapshot_8 (by decide) ?_
    refine fw_cV_i (As := [.int (1 : Int32)]) (rest := []) ⟨hx, hb, hml, hown, hts⟩ (cc_X9_fails l G had h) (⟨callB_of 1 hts ggX9_restoreSnapshot_X9_fails rfl rfl rfl (hts (.initialized RX9) (by decide +kernel)) (hts (.methodLink RX9 84 yX9_fails) (by decide +kernel)) (by decide +kernel) ⟨Nat.le_of_ble_eq_true rfl, Nat.le_of_ble_eq_true rfl⟩, hts (.instanceMethod yX9_fails) (by decide +kernel), hts (.selects RX9 yX9_fails yX9_fails) (by decide +kernel)⟩) rfl mf_obj hK hZ hF hS hA rfl hl.1 rfl (Nat.le_of_ble_eq_true rfl) dX9_restoreSnapshot_9 ⟨Nat.zero_le _, Nat.zero_le _⟩ (fun r_41 f9 H locs h hF hS => ?_)
    obtain ⟨n_43, g_44, rfl, h⟩ := h
    exact W.iret (v := r_41) hx hb hr (fun t ht hW => ⟨⟨r_41, (mf mo ad n_43 g_44), rfl, ⟨_, _, rfl, h⟩, by rw [ht]; exact hF, FK.moved hW.alike hK⟩, hS.F ht⟩) hS.2.2 dX9_restoreSnapshot_12
theorem dX9_retreat_0 : decode cX9_retreat 0 = .ok (.aload_n 0, 1) := by decide +kernel
theorem dX9_retreat_1 : decode cX9_retreat 1 = .ok (.iload_n 1, 1) := by decide +kernel
theorem dX9_retreat_2 : decode cX9_retreat 2 = .ok (.invokevirtual 231, 3) := by decide +kernel
theorem dX9_retreat_5 : decode cX9_retreat 5 = .ok (.istore_n 2, 1) := by decide +kernel
theorem dX9_retreat_6 : decode cX9_retreat 6 = .ok (.iload_n 2, 1) := by decide +kernel
theorem dX9_retreat_7 : decode cX9_retreat 7 = .ok (.iconst 1, 1) := by decide +kernel
theorem dX9_retreat_8 : decode cX9_retreat 8 = .ok (.if_icmp .eq 8, 3) := by decide +kernel
theorem dX9_retreat_11 : decode cX9_retreat 11 = .ok (.iload_n 2, 1) := by decide +kernel
theorem dX9_retreat_12 : decode cX9_retreat 12 = .ok (.iconst 2, 1) := by decide +kernel
theorem dX9_retreat_13 : decode cX9_retreat 13 = .ok (.if_icmp .ne 9, 3) := by decide +kernel
theorem dX9_retreat_16 : decode cX9_retreat 16 = .ok (.aload_n 0, 1) := by decide +kernel
theorem dX9_retreat_17 : decode cX9_retreat 17 = .ok (.iload_n 2, 1) := by decide +kernel
theorem dX9_retreat_18 : decode cX9_retreat 18 = .ok (.invokevirtual 84, 3) := by decide +kernel
theorem dX9_retreat_21 : decode cX9_retreat 21 = .ok (.ireturn, 1) := by decide +kernel
theorem dX9_retreat_22 : decode cX9_retreat 22 = .ok (.aload_n 0, 1) := by decide +kernel
theorem dX9_retreat_23 : decode cX9_retreat 23 = .ok (.getfield 44, 3) := by decide +kernel
theorem dX9_retreat_26 : decode cX9_retreat 26 = .ok (.iload_n 1, 1) := by decide +kernel
theorem dX9_retreat_27 : decode cX9_retreat 27 = .ok (.iaload, 1) := by decide +kernel
theorem dX9_retreat_28 : decode cX9_retreat 28 = .ok (.ifCond .ne 9, 3) := by decide +kernel
theorem dX9_retreat_31 : decode cX9_retreat 31 = .ok (.aload_n 0, 1) := by decide +kernel
theorem dX9_retreat_32 : decode cX9_retreat 32 = .ok (.iconst 3, 1) := by decide +kernel
theorem dX9_retreat_33 : decode cX9_retreat 33 = .ok (.invokevirtual 84, 3) := by decide +kernel
theorem dX9_retreat_36 : decode cX9_retreat 36 = .ok (.ireturn, 1) := by decide +kernel
theorem dX9_retreat_37 : decode cX9_retreat 37 = .ok (.aload_n 0, 1) := by decide +kernel
theorem dX9_retreat_38 : decode cX9_retreat 38 = .ok (.getfield 44, 3) := by decide +kernel
theorem dX9_retreat_41 : decode cX9_retreat 41 = .ok (.iload_n 1, 1) := by decide +kernel
theorem dX9_retreat_42 : decode cX9_retreat 42 = .ok (.dup2, 1) := by decide +kernel
theorem dX9_retreat_43 : decode cX9_retreat 43 = .ok (.iaload, 1) := by decide +kernel
theorem dX9_retreat_44 : decode cX9_retreat 44 = .ok (.iconst 1, 1) := by decide +kernel
theorem dX9_retreat_45 : decode cX9_retreat 45 = .ok (.isub, 1) := by decide +kernel
theorem dX9_retreat_46 : decode cX9_retreat 46 = .ok (.iastore, 1) := by decide +kernel
theorem dX9_retreat_47 : decode cX9_retreat 47 = .ok (.aload_n 0, 1) := by decide +kernel
theorem dX9_retreat_48 : decode cX9_retreat 48 = .ok (.aload_n 0, 1) := by decide +kernel
theorem dX9_retreat_49 : decode cX9_retreat 49 = .ok (.getfield 26, 3) := by decide +kernel
theorem dX9_retreat_52 : decode cX9_retreat 52 = .ok (.aload_n 0, 1) := by decide +kernel
theorem dX9_retreat_53 : decode cX9_retreat 53 = .ok (.getfield 44, 3) := by decide +kernel
theorem dX9_retreat_56 : decode cX9_retreat 56 = .ok (.iload_n 1, 1) := by decide +kernel
theorem dX9_retreat_57 : decode cX9_retreat 57 = .ok (.iaload, 1) := by decide +kernel
theorem dX9_retreat_58 : decode cX9_retreat 58 = .ok (.iaload, 1) := by decide +kernel
theorem dX9_retreat_59 : decode cX9_retreat 59 = .ok (.invokevirtual 91, 3) := by decide +kernel
theorem dX9_retreat_62 : decode cX9_retreat 62 = .ok (.ireturn, 1) := by decide +kernel
set_option maxRecDepth 20000 in
theorem ggX9_retreat_X9_done : GoodIn wsX9_retreat wsX9_done := goodIn_r _ [23, 19, 24, 25, 26, 27, 28, 29, 30, 31, 32, 33, 34, 35, 36, 37, 38, 39, 40, 41, 42, 43, 44, 45, 46, 47, 48, 49, 50, 51, 52, 53, 54, 55, 56, 57] (by decide +kernel) (by decide +kernel)
set_option maxRecDepth 20000 in
theorem ggX9_retreat_X9_fails : GoodIn wsX9_retreat wsX9_fails := goodIn_r _ [18, 19, 24, 25, 26, 27, 28, 29, 30, 31, 32, 33, 34, 35, 36, 37, 38, 39, 40, 41, 42, 43, 44, 45, 46, 47, 48, 49, 50, 51, 52, 53, 54, 55, 56, 57] (by decide +kernel) (by decide +kernel)
set_option maxRecDepth 20000 in
theorem ggX9_retreat_X9_lacks : GoodIn wsX9_retreat wsX9_lacks := goodIn_r _ [7, 1, 8, 9, 10, 6, 11, 12, 13, 14, 24, 25, 26, 27, 28, 29, 30, 31, 32, 33, 34, 35, 36, 37, 38, 39, 40, 41, 42, 43, 44, 45, 46, 47, 48, 49, 50, 51, 52, 53, 54, 55, 56, 57] (by decide +kernel) (by decide +kernel)
def wp_X9_retreat_16  (y2 : Int32) (n : Nat → Int32) (g : Nat → Nat → Int32) (K : Int32 → (Nat → Int32) → (Nat → Nat → Int32) → Prop)  : Prop :=
  wp_X9_fails y2 n g (fun r_1 n_3 g_4 => K r_1 n_3 g_4)
def wp_X9_retreat (x1 : Int32) (n : Nat → Int32) (g : Nat → Nat → Int32) (K : Int32 → (Nat → Int32) → (Nat → Nat → Int32) → Prop) : Prop :=
  wp_X9_lacks x1 n g (fun r_5 => ((r_5 = (1 : Int32) → wp_X9_retreat_16 r_5 n g K) ∧
 (¬ (r_5 = (1 : Int32)) → ((¬ r_5 = (2 : Int32) → vp_in x1 (mlen 18) ∧ ∀ v_9 : Int32, v_9 = g 18 (x1).toNatClampNeg → ((¬ v_9 = (0 : Int32) → vp_in x1 (mlen 18) ∧ ∀ v_12 : Int32, v_12 = g 18 (x1).toNatClampNeg → vp_in x1 (mlen 18) ∧ ∀ g_14 : Nat → Nat → Int32, g_14 = mup g 18 (x1).toNatClampNeg (v_12 - (1 : Int32)) → vp_in x1 (mlen 18) ∧ ∀ v_16 : Int32, v_16 = g_14 18 (x1).toNatClampNeg → vp_in v_16 (mlen 12) ∧ ∀ v_18 : Int32, v_18 = g_14 12 (v_16).toNatClampNeg → wp_X9_done v_18 n g_14 (fun r_19 n_21 g_22 => K r_19 n_21 g_22)) ∧
 (v_9 = (0 : Int32) → wp_X9_fails (3 : Int32) n g (fun r_23 n_25 g_26 => K r_23 n_25 g_26)))) ∧
 (r_5 = (2 : Int32) → wp_X9_retreat_16 r_5 n g K)))))
set_option maxHeartbeats 4000000 in
set_option maxRecDepth 100000 in
theorem cc_X9_retreat (l : Launch) (G : GG) {mo : Nat} {ad : Nat → Nat} (had : MAd mo ad) {n : Nat → Int32} {g : Nat → Nat → Int32} {sz : Nat} {x1 : Int32} {K : Int32 → (Nat → Int32) → (Nat → Nat → Int32) → Prop} (h : wp_X9_retreat x1 n g K) : Met l yX9_retreat wsX9_retreat ({ frames := 3, cells := 0, slots := 0, locals := 63 } : Room) (FP G [.ref mo, .int x1] (mf mo ad n g) sz) (va_Qi (fun r f9 => ∃ n9 g9, f9 = mf mo ad n9 g9 ∧ K r n9 g9 : Int32 → FT → Prop) (FB G (fA (mf mo ad n g) sz)) (fA (mf mo ad n g) sz)) 0 0 (fA (mf mo ad n g) sz) := by
  refine Met.ofW (cc := cX9_retreat) (maxL := 3) (ret := (some .int)) (by decide) rfl ?_
  intro p e s m args below meth c s₁ B hml hv
  obtain ⟨rfl, hsz, hF, hK, hZ⟩ := hv
  have hx := B.exec
  have hb := B.bytes
  have hr := B.returns
  have hts := atoms_spec (ws := wsX9_retreat) B.pre
  have hown : s.vm.findClass RX9 = some m.cls := findClass_of_methodNamed B.named
  have hlocks := B.notSynchronized
  subst hsz
  have hF := hF.self (sz := s.heap.size)
  generalize hAe : fA (mf mo ad n g) s.heap.size = A at hF hZ ⊢
  have hA : ∀ q : Nat, s.heap.size ≤ q → A q := fun q h => by rw [← hAe]; exact Or.inr h
  have hS : va_S A s.heap s.heap [] := va_S.rf
  have hin_X9 : ∀ w ∈ wsX90, w ∈ wsX9_retreat := by decide +kernel
  have J16 : ∀ (y2 : Int32) (n : Nat → Int32) (g : Nat → Nat → Int32) (H : Heap) (locs : List Loc) (ls : Array Slot), wp_X9_retreat_16 y2 n g K  → Fw G A (mf mo ad n g) H → va_S A s.heap H locs → lv_has ls 3 [(0, .ref mo), (2, .int y2)] → W p l e ({ frames := 3, cells := 0, slots := 0, locals := 63 } : Room) s m ([.ref mo, .int x1] : List Value).toArray below meth c H locs 0 0 (MQ below (va_Qi (fun r f9 => ∃ n9 g9, f9 = mf mo ad n9 g9 ∧ K r n9 g9 : Int32 → FT → Prop) (FB G A) A) ([.ref mo, .int x1] : List Value).toArray s 0 0 A) (F0 m 16 ls []) := by
    intro y2 n g H locs ls h hF hS hl
    unfold wp_X9_retreat_16 at h
    refine lv_aload_n hx hb dX9_retreat_16 rfl (lv_at hl 0 rfl) ?_
    refine lv_iload_n hx hb dX9_retreat_17 rfl (lv_at hl 1 rfl) ?_
    refine fw_cV_i (As := [.int y2]) (rest := []) ⟨hx, hb, hml, hown, hts⟩ (cc_X9_fails l G had h) (⟨callB_of 1 hts ggX9_retreat_X9_fails rfl rfl rfl (hts (.initialized RX9) (by decide +kernel)) (hts (.methodLink RX9 84 yX9_fails) (by decide +kernel)) (by decide +kernel) ⟨Nat.le_of_ble_eq_true rfl, Nat.le_of_ble_eq_true rfl⟩, hts (.instanceMethod yX9_fails) (by decide +kernel), hts (.selects RX9 yX9_fails yX9_fails) (by decide +kernel)⟩) rfl mf_obj hK hZ hF hS hA rfl hl.1 rfl (Nat.le_of_ble_eq_true rfl) dX9_retreat_18 ⟨Nat.zero_le _, Nat.zero_le _⟩ (fun r_1 f9 H locs h hF hS => ?_)
    obtain ⟨n_3, g_4, rfl, h⟩ := h
    exact W.iret (v := r_1) hx hb hr (fun t ht hW => ⟨⟨r_1, (mf mo ad n_3 g_4), rfl, ⟨_, _, rfl, h⟩, by rw [ht]; exact hF, FK.moved hW.alike hK⟩, hS.F ht⟩) hS.2.2 dX9_retreat_21
  have hl := lv_entry ([.ref mo, .int x1]) (n := 3) (Nat.le_of_ble_eq_true rfl)
  rw [lg_entry_eq]
  generalize (lg_sl ([.ref mo, .int x1]) ++ List.replicate (3 - (lg_sl ([.ref mo, .int x1])).length) Slot.unset).toArray = ls at hl ⊢
  have hl : lv_has ls 3 [(0, .ref mo), (1, .int x1)] := hl
  unfold wp_X9_retreat at h
  refine lv_aload_n hx hb dX9_retreat_0 rfl (lv_at hl 0 rfl) ?_
  refine lv_iload_n hx hb dX9_retreat_1 rfl (lv_at hl 1 rfl) ?_
  refine fw_cV_i_p (As := [.int x1]) (rest := []) ⟨hx, hb, hml, hown, hts⟩ (cc_X9_lacks l G had h) (⟨callB_of 1 hts ggX9_retreat_X9_lacks rfl rfl rfl (hts (.initialized RX9) (by decide +kernel)) (hts (.methodLink RX9 231 yX9_lacks) (by decide +kernel)) (by decide +kernel) ⟨Nat.le_of_ble_eq_true rfl, Nat.le_of_ble_eq_true rfl⟩, hts (.instanceMethod yX9_lacks) (by decide +kernel), hts (.selects RX9 yX9_lacks yX9_lacks) (by decide +kernel)⟩) rfl mf_obj hK hZ hF hS hA rfl hl.1 rfl (Nat.le_of_ble_eq_true rfl) dX9_retreat_2 ⟨Nat.zero_le _, Nat.zero_le _⟩ (fun r_5 H locs h hF hS => ?_)
  refine lv_istore_n (lv' := [(2, .int r_5), (0, .ref mo), (1, .int x1)]) hx hb dX9_retreat_5 rfl hl (by decide) rfl (fun ls hl => ?_)
  refine lv_iload_n hx hb dX9_retreat_6 rfl (lv_at hl 0 rfl) ?_
  refine lv_iconst (v := (1 : Int32)) hx hb dX9_retreat_7 (by decide) ?_
  obtain ⟨h1, h2⟩ := h
  refine lv_icmp_eq (tgt := 16) hx hb dX9_retreat_8 (by decide) (fun c_6 => ?_) (fun c_6 => ?_)
  · have h := h1 c_6
    exact J16 r_5 n g _ _ _ h hF hS (lv_sub hl [1, 0] rfl)
  · have h := h2 c_6
    refine lv_iload_n hx hb dX9_retreat_11 rfl (lv_at hl 0 rfl) ?_
    refine lv_iconst (v := (2 : Int32)) hx hb dX9_retreat_12 (by decide) ?_
    obtain ⟨h1, h2⟩ := h
    refine lv_icmp_ne (tgt := 22) hx hb dX9_retreat_13 (by decide) (fun c_7 => ?_) (fun c_7 => ?_)
    · have h := h1 c_7
      refine lv_aload_n hx hb dX9_retreat_22 rfl (lv_at hl 1 rfl) ?_
      refine fw_get (C := RX9) (T := TX9) (N := 34) hx hb hts hin_X9 hown hK hF mf_obj rfl 18 (by decide) (hts (.fieldLink RX9 44 "FrontCodedIndexModel" "cursors" "[I") (by decide +kernel)) (fun _ h9 => h9) rfl dX9_retreat_23 ?_
      refine lv_iload_n hx hb dX9_retreat_26 rfl (lv_at hl 2 rfl) ?_
      obtain ⟨hi_i_8, h⟩ := h
      refine fw_iald hx hb hK hF (mf_arr had 18 (by decide)) hi_i_8 dX9_retreat_27 ?_
      refine lv_topi (fun v_9 e_v_9 => ?_)
      have h := h v_9 e_v_9
      obtain ⟨h1, h2⟩ := h
      refine lv_if_ne (tgt := 37) hx hb dX9_retreat_28 (by decide) (fun c_10 => ?_) (fun c_10 => ?_)
      · have h := h1 c_10
        refine lv_aload_n hx hb dX9_retreat_37 rfl (lv_at hl 1 rfl) ?_
        refine fw_get (C := RX9) (T := TX9) (N := 34) hx hb hts hin_X9 hown hK hF mf_obj rfl 18 (by decide) (hts (.fieldLink RX9 44 "FrontCodedIndexModel" "cursors" "[I") (by decide +kernel)) (fun _ h9 => h9) rfl dX9_retreat_38 ?_
        refine lv_iload_n hx hb dX9_retreat_41 rfl (lv_at hl 2 rfl) ?_
        refine lv_dup2_11 hx hb dX9_retreat_42 rfl rfl ?_
        obtain ⟨hi_i_11, h⟩ := h
        refine fw_iald hx hb hK hF (mf_arr had 18 (by decide)) hi_i_11 dX9_retreat_43 ?_
        refine lv_topi (fun v_12 e_v_12 => ?_)
        have h := h v_12 e_v_12
        refine lv_iconst (v := (1 : Int32)) hx hb dX9_retreat_44 (by decide) ?_
        refine lv_isub hx hb dX9_retreat_45 ?_
        obtain ⟨hi_i_13, h⟩ := h
        refine fw_iast hx hb hK hF hS (mf_arr had 18 (by decide)) hi_i_13 dX9_retreat_46 (fun H locs hF hS => ?_)
        rw [mf_st had 18 (by decide)] at hF
        obtain ⟨g_14, hg_g_14⟩ : ∃ z, z = mup g 18 (x1).toNatClampNeg (v_12 - (1 : Int32)) := ⟨_, rfl⟩
        rw [← hg_g_14] at hF; have h := h g_14 hg_g_14
        refine lv_aload_n hx hb dX9_retreat_47 rfl (lv_at hl 1 rfl) ?_
        refine lv_aload_n hx hb dX9_retreat_48 rfl (lv_at hl 1 rfl) ?_
        refine fw_get (C := RX9) (T := TX9) (N := 34) hx hb hts hin_X9 hown hK hF mf_obj rfl 12 (by decide) (hts (.fieldLink RX9 26 "FrontCodedIndexModel" "values" "[I") (by decide +kernel)) (fun _ h9 => h9) rfl dX9_retreat_49 ?_
        refine lv_aload_n hx hb dX9_retreat_52 rfl (lv_at hl 1 rfl) ?_
        refine fw_get (C := RX9) (T := TX9) (N := 34) hx hb hts hin_X9 hown hK hF mf_obj rfl 18 (by decide) (hts (.fieldLink RX9 44 "FrontCodedIndexModel" "cursors" "[I") (by decide +kernel)) (fun _ h9 => h9) rfl dX9_retreat_53 ?_
        refine lv_iload_n hx hb dX9_retreat_56 rfl (lv_at hl 2 rfl) ?_
        obtain ⟨hi_i_15, h⟩ := h
        refine fw_iald hx hb hK hF (mf_arr had 18 (by decide)) hi_i_15 dX9_retreat_57 ?_
        refine lv_topi (fun v_16 e_v_16 => ?_)
        have h := h v_16 e_v_16
        obtain ⟨hi_i_17, h⟩ := h
        refine fw_iald hx hb hK hF (mf_arr had 12 (by decide)) hi_i_17 dX9_retreat_58 ?_
        refine lv_topi (fun v_18 e_v_18 => ?_)
        have h := h v_18 e_v_18
        refine fw_cV_i (As := [.int v_18]) (rest := []) ⟨hx, hb, hml, hown, hts⟩ (cc_X9_done l G had h) (⟨callB_of 1 hts ggX9_retreat_X9_done rfl rfl rfl (hts (.initialized RX9) (by decide +kernel)) (hts (.methodLink RX9 91 yX9_done) (by decide +kernel)) (by decide +kernel) ⟨Nat.le_of_ble_eq_true rfl, Nat.le_of_ble_eq_true rfl⟩, hts (.instanceMethod yX9_done) (by decide +kernel), hts (.selects RX9 yX9_done yX9_done) (by decide +kernel)⟩) rfl mf_obj hK hZ hF hS hA rfl hl.1 rfl (Nat.le_of_ble_eq_true rfl) dX9_retreat_59 ⟨Nat.zero_le _, Nat.zero_le _⟩ (fun r_19 f9 H locs h hF hS => ?_)
        obtain ⟨n_21, g_22, rfl, h⟩ := h
        exact W.iret (v := r_19) hx hb hr (fun t ht hW => ⟨⟨r_19, (mf mo ad n_21 g_22), rfl, ⟨_, _, rfl, h⟩, by rw [ht]; exact hF, FK.moved hW.alike hK⟩, hS.F ht⟩) hS.2.2 dX9_retreat_62
      · have h := h2 c_10
        refine lv_aload_n hx hb dX9_retreat_31 rfl (lv_at hl 1 rfl) ?_
        refine lv_iconst (v := (3 : Int32)) hx hb dX9_retreat_32 (by decide) ?_
        refine fw_cV_i (As := [.int (3 : Int32)]) (rest := []) ⟨hx, hb, hml, hown, hts⟩ (cc_X9_fails l G had h) (⟨callB_of 1 hts ggX9_retreat_X9_fails rfl rfl rfl (hts (.initialized RX9) (by decide +kernel)) (hts (.methodLink RX9 84 yX9_fails) (by decide +kernel)) (by decide +kernel) ⟨Nat.le_of_ble_eq_true rfl, Nat.le_of_ble_eq_true rfl⟩, hts (.instanceMethod yX9_fails) (by decide +kernel), hts (.selects RX9 yX9_fails yX9_fails) (by decide +kernel)⟩) rfl mf_obj hK hZ hF hS hA rfl hl.1 rfl (Nat.le_of_ble_eq_true rfl) dX9_retreat_33 ⟨Nat.zero_le _, Nat.zero_le _⟩ (fun r_23 f9 H locs h hF hS => ?_)
        obtain ⟨n_25, g_26, rfl, h⟩ := h
        exact W.iret (v := r_23) hx hb hr (fun t ht hW => ⟨⟨r_23, (mf mo ad n_25 g_26), rfl, ⟨_, _, rfl, h⟩, by rw [ht]; exact hF, FK.moved hW.alike hK⟩, hS.F ht⟩) hS.2.2 dX9_retreat_36
    · have h := h2 c_7
      exact J16 r_5 n g _ _ _ h hF hS (lv_sub hl [1, 0] rfl)
theorem dX9_saveSnapshot_0 : decode cX9_saveSnapshot 0 = .ok (.aload_n 0, 1) := by decide +kernel
theorem dX9_saveSnapshot_1 : decode cX9_saveSnapshot 1 = .ok (.iconst 1, 1) := by decide +kernel
theorem dX9_saveSnapshot_2 : decode cX9_saveSnapshot 2 = .ok (.putfield 243, 3) := by decide +kernel
theorem dX9_saveSnapshot_5 : decode cX9_saveSnapshot 5 = .ok (.aload_n 0, 1) := by decide +kernel
theorem dX9_saveSnapshot_6 : decode cX9_saveSnapshot 6 = .ok (.aload_n 0, 1) := by decide +kernel
theorem dX9_saveSnapshot_7 : decode cX9_saveSnapshot 7 = .ok (.getfield 16, 3) := by decide +kernel
theorem dX9_saveSnapshot_10 : decode cX9_saveSnapshot 10 = .ok (.putfield 247, 3) := by decide +kernel
theorem dX9_saveSnapshot_13 : decode cX9_saveSnapshot 13 = .ok (.aload_n 0, 1) := by decide +kernel
theorem dX9_saveSnapshot_14 : decode cX9_saveSnapshot 14 = .ok (.aload_n 0, 1) := by decide +kernel
theorem dX9_saveSnapshot_15 : decode cX9_saveSnapshot 15 = .ok (.getfield 106, 3) := by decide +kernel
theorem dX9_saveSnapshot_18 : decode cX9_saveSnapshot 18 = .ok (.putfield 250, 3) := by decide +kernel
theorem dX9_saveSnapshot_21 : decode cX9_saveSnapshot 21 = .ok (.aload_n 0, 1) := by decide +kernel
theorem dX9_saveSnapshot_22 : decode cX9_saveSnapshot 22 = .ok (.aload_n 0, 1) := by decide +kernel
theorem dX9_saveSnapshot_23 : decode cX9_saveSnapshot 23 = .ok (.getfield 29, 3) := by decide +kernel
theorem dX9_saveSnapshot_26 : decode cX9_saveSnapshot 26 = .ok (.putfield 253, 3) := by decide +kernel
theorem dX9_saveSnapshot_29 : decode cX9_saveSnapshot 29 = .ok (.aload_n 0, 1) := by decide +kernel
theorem dX9_saveSnapshot_30 : decode cX9_saveSnapshot 30 = .ok (.getfield 20, 3) := by decide +kernel
theorem dX9_saveSnapshot_33 : decode cX9_saveSnapshot 33 = .ok (.aload_n 0, 1) := by decide +kernel
theorem dX9_saveSnapshot_34 : decode cX9_saveSnapshot 34 = .ok (.getfield 56, 3) := by decide +kernel
theorem dX9_saveSnapshot_37 : decode cX9_saveSnapshot 37 = .ok (.sipush 300, 3) := by decide +kernel
theorem dX9_saveSnapshot_40 : decode cX9_saveSnapshot 40 = .ok (.invokestatic 256, 3) := by decide +kernel
theorem dX9_saveSnapshot_43 : decode cX9_saveSnapshot 43 = .ok (.aload_n 0, 1) := by decide +kernel
theorem dX9_saveSnapshot_44 : decode cX9_saveSnapshot 44 = .ok (.getfield 23, 3) := by decide +kernel
theorem dX9_saveSnapshot_47 : decode cX9_saveSnapshot 47 = .ok (.aload_n 0, 1) := by decide +kernel
theorem dX9_saveSnapshot_48 : decode cX9_saveSnapshot 48 = .ok (.getfield 59, 3) := by decide +kernel
theorem dX9_saveSnapshot_51 : decode cX9_saveSnapshot 51 = .ok (.sipush 3600, 3) := by decide +kernel
theorem dX9_saveSnapshot_54 : decode cX9_saveSnapshot 54 = .ok (.invokestatic 256, 3) := by decide +kernel
theorem dX9_saveSnapshot_57 : decode cX9_saveSnapshot 57 = .ok (.aload_n 0, 1) := by decide +kernel
theorem dX9_saveSnapshot_58 : decode cX9_saveSnapshot 58 = .ok (.getfield 26, 3) := by decide +kernel
theorem dX9_saveSnapshot_61 : decode cX9_saveSnapshot 61 = .ok (.aload_n 0, 1) := by decide +kernel
theorem dX9_saveSnapshot_62 : decode cX9_saveSnapshot 62 = .ok (.getfield 62, 3) := by decide +kernel
theorem dX9_saveSnapshot_65 : decode cX9_saveSnapshot 65 = .ok (.sipush 300, 3) := by decide +kernel
theorem dX9_saveSnapshot_68 : decode cX9_saveSnapshot 68 = .ok (.invokestatic 256, 3) := by decide +kernel
theorem dX9_saveSnapshot_71 : decode cX9_saveSnapshot 71 = .ok (.aload_n 0, 1) := by decide +kernel
theorem dX9_saveSnapshot_72 : decode cX9_saveSnapshot 72 = .ok (.getfield 32, 3) := by decide +kernel
theorem dX9_saveSnapshot_75 : decode cX9_saveSnapshot 75 = .ok (.aload_n 0, 1) := by decide +kernel
theorem dX9_saveSnapshot_76 : decode cX9_saveSnapshot 76 = .ok (.getfield 65, 3) := by decide +kernel
theorem dX9_saveSnapshot_79 : decode cX9_saveSnapshot 79 = .ok (.bipush 12, 2) := by decide +kernel
theorem dX9_saveSnapshot_81 : decode cX9_saveSnapshot 81 = .ok (.invokestatic 256, 3) := by decide +kernel
theorem dX9_saveSnapshot_84 : decode cX9_saveSnapshot 84 = .ok (.aload_n 0, 1) := by decide +kernel
theorem dX9_saveSnapshot_85 : decode cX9_saveSnapshot 85 = .ok (.getfield 35, 3) := by decide +kernel
theorem dX9_saveSnapshot_88 : decode cX9_saveSnapshot 88 = .ok (.aload_n 0, 1) := by decide +kernel
theorem dX9_saveSnapshot_89 : decode cX9_saveSnapshot 89 = .ok (.getfield 68, 3) := by decide +kernel
theorem dX9_saveSnapshot_92 : decode cX9_saveSnapshot 92 = .ok (.sipush 4800, 3) := by decide +kernel
theorem dX9_saveSnapshot_95 : decode cX9_saveSnapshot 95 = .ok (.invokestatic 256, 3) := by decide +kernel
theorem dX9_saveSnapshot_98 : decode cX9_saveSnapshot 98 = .ok (.aload_n 0, 1) := by decide +kernel
theorem dX9_saveSnapshot_99 : decode cX9_saveSnapshot 99 = .ok (.getfield 38, 3) := by decide +kernel
theorem dX9_saveSnapshot_102 : decode cX9_saveSnapshot 102 = .ok (.aload_n 0, 1) := by decide +kernel
theorem dX9_saveSnapshot_103 : decode cX9_saveSnapshot 103 = .ok (.getfield 71, 3) := by decide +kernel
theorem dX9_saveSnapshot_106 : decode cX9_saveSnapshot 106 = .ok (.sipush 400, 3) := by decide +kernel
theorem dX9_saveSnapshot_109 : decode cX9_saveSnapshot 109 = .ok (.invokestatic 256, 3) := by decide +kernel
theorem dX9_saveSnapshot_112 : decode cX9_saveSnapshot 112 = .ok (.aload_n 0, 1) := by decide +kernel
theorem dX9_saveSnapshot_113 : decode cX9_saveSnapshot 113 = .ok (.getfield 41, 3) := by decide +kernel
theorem dX9_saveSnapshot_116 : decode cX9_saveSnapshot 116 = .ok (.aload_n 0, 1) := by decide +kernel
theorem dX9_saveSnapshot_117 : decode cX9_saveSnapshot 117 = .ok (.getfield 74, 3) := by decide +kernel
theorem dX9_saveSnapshot_120 : decode cX9_saveSnapshot 120 = .ok (.sipush 4800, 3) := by decide +kernel
theorem dX9_saveSnapshot_123 : decode cX9_saveSnapshot 123 = .ok (.invokestatic 256, 3) := by decide +kernel
theorem dX9_saveSnapshot_126 : decode cX9_saveSnapshot 126 = .ok (.aload_n 0, 1) := by decide +kernel
theorem dX9_saveSnapshot_127 : decode cX9_saveSnapshot 127 = .ok (.aload_n 0, 1) := by decide +kernel
theorem dX9_saveSnapshot_128 : decode cX9_saveSnapshot 128 = .ok (.getfield 106, 3) := by decide +kernel
theorem dX9_saveSnapshot_131 : decode cX9_saveSnapshot 131 = .ok (.invokevirtual 91, 3) := by decide +kernel
theorem dX9_saveSnapshot_134 : decode cX9_saveSnapshot 134 = .ok (.ireturn, 1) := by decide +kernel
set_option maxRecDepth 20000 in
theorem ggX9_saveSnapshot_X9_copy : GoodIn wsX9_saveSnapshot wsX9_copy := goodIn_r _ [25] (by decide +kernel) (by decide +kernel)
set_option maxRecDepth 20000 in
theorem ggX9_saveSnapshot_X9_done : GoodIn wsX9_saveSnapshot wsX9_done := goodIn_r _ [29, 30, 31, 32, 33, 34, 35, 36, 37, 38, 39, 40, 41, 42, 43, 44, 45, 46, 47, 48, 49, 50, 51, 52, 53, 54, 55, 56, 57, 58, 59, 60, 61, 62, 63, 64] (by decide +kernel) (by decide +kernel)
def wp_X9_saveSnapshot  (n : Nat → Int32) (g : Nat → Nat → Int32) (K : Int32 → (Nat → Int32) → (Nat → Nat → Int32) → Prop) : Prop :=
  ∀ n_1 : Nat → Int32, n_1 = upd n 23 (1 : Int32) → ∀ n_2 : Nat → Int32, n_2 = upd n_1 24 (n_1 5) → ∀ n_3 : Nat → Int32, n_3 = upd n_2 25 (n_2 9) → ∀ n_4 : Nat → Int32, n_4 = upd n_3 26 (n_3 13) → wp_X9_copy 10 27 (300 : Int32) n_4 g (fun n_7 g_8 => wp_X9_copy 11 28 (3600 : Int32) n_7 g_8 (fun n_11 g_12 => wp_X9_copy 12 29 (300 : Int32) n_11 g_12 (fun n_15 g_16 => wp_X9_copy 14 30 (12 : Int32) n_15 g_16 (fun n_19 g_20 => wp_X9_copy 15 31 (4800 : Int32) n_19 g_20 (fun n_23 g_24 => wp_X9_copy 16 32 (400 : Int32) n_23 g_24 (fun n_27 g_28 => wp_X9_copy 17 33 (4800 : Int32) n_27 g_28 (fun n_31 g_32 => wp_X9_done (n_31 9) n_31 g_32 (fun r_33 n_35 g_36 => K r_33 n_35 g_36))))))))
set_option maxHeartbeats 4000000 in
set_option maxRecDepth 100000 in
theorem cc_X9_saveSnapshot (l : Launch) (G : GG) {mo : Nat} {ad : Nat → Nat} (had : MAd mo ad) {n : Nat → Int32} {g : Nat → Nat → Int32} {sz : Nat}  {K : Int32 → (Nat → Int32) → (Nat → Nat → Int32) → Prop} (h : wp_X9_saveSnapshot  n g K) : Met l yX9_saveSnapshot wsX9_saveSnapshot ({ frames := 1, cells := 0, slots := 0, locals := 23 } : Room) (FP G [.ref mo] (mf mo ad n g) sz) (va_Qi (fun r f9 => ∃ n9 g9, f9 = mf mo ad n9 g9 ∧ K r n9 g9 : Int32 → FT → Prop) (FB G (fA (mf mo ad n g) sz)) (fA (mf mo ad n g) sz)) 0 0 (fA (mf mo ad n g) sz) := by
  refine Met.ofW (cc := cX9_saveSnapshot) (maxL := 1) (ret := (some .int)) (by decide) rfl ?_
  intro p e s m args below meth c s₁ B hml hv
  obtain ⟨rfl, hsz, hF, hK, hZ⟩ := hv
  have hx := B.exec
  have hb := B.bytes
  have hr := B.returns
  have hts := atoms_spec (ws := wsX9_saveSnapshot) B.pre
  have hown : s.vm.findClass RX9 = some m.cls := findClass_of_methodNamed B.named
  have hlocks := B.notSynchronized
  subst hsz
  have hF := hF.self (sz := s.heap.size)
  generalize hAe : fA (mf mo ad n g) s.heap.size = A at hF hZ ⊢
  have hA : ∀ q : Nat, s.heap.size ≤ q → A q := fun q h => by rw [← hAe]; exact Or.inr h
  have hS : va_S A s.heap s.heap [] := va_S.rf
  have hin_X9 : ∀ w ∈ wsX90, w ∈ wsX9_saveSnapshot := by decide +kernel
  have hl := lv_entry ([.ref mo]) (n := 1) (Nat.le_of_ble_eq_true rfl)
  rw [lg_entry_eq]
  generalize (lg_sl ([.ref mo]) ++ List.replicate (1 - (lg_sl ([.ref mo])).length) Slot.unset).toArray = ls at hl ⊢
  have hl : lv_has ls 1 [(0, .ref mo)] := hl
  unfold wp_X9_saveSnapshot at h
  refine lv_aload_n hx hb dX9_saveSnapshot_0 rfl (lv_at hl 0 rfl) ?_
  refine lv_iconst (v := (1 : Int32)) hx hb dX9_saveSnapshot_1 (by decide) ?_
  refine fw_put (v := .int (1 : Int32)) (ty := .boolean) (C := RX9) (T := TX9) (N := 34) hx hb hts hin_X9 tyX9 tyX9_ok nmX9 hown hK hF hS mf_obj rfl 23 (by decide) (hts (.fieldLink RX9 243 "FrontCodedIndexModel" "hasSaved" "Z") (by decide +kernel)) (fun _ h9 => h9) rfl (by decide +kernel) rfl rfl (show 23 < 34 by decide) dX9_saveSnapshot_2 (fun H locs hF hS => ?_)
  rw [mf_put 23 (1 : Int32) rfl] at hF
  obtain ⟨n_1, hn_n_1⟩ : ∃ z, z = upd n 23 (1 : Int32) := ⟨_, rfl⟩
  rw [← hn_n_1] at hF; have h := h n_1 hn_n_1
  refine lv_aload_n hx hb dX9_saveSnapshot_5 rfl (lv_at hl 0 rfl) ?_
  refine lv_aload_n hx hb dX9_saveSnapshot_6 rfl (lv_at hl 0 rfl) ?_
  refine fw_get (C := RX9) (T := TX9) (N := 34) hx hb hts hin_X9 hown hK hF mf_obj rfl 5 (by decide) (hts (.fieldLink RX9 16 "FrontCodedIndexModel" "capacity" "I") (by decide +kernel)) (fun _ h9 => h9) rfl dX9_saveSnapshot_7 ?_
  refine fw_put (v := .int (n_1 5)) (ty := .int) (C := RX9) (T := TX9) (N := 34) hx hb hts hin_X9 tyX9 tyX9_ok nmX9 hown hK hF hS mf_obj rfl 24 (by decide) (hts (.fieldLink RX9 247 "FrontCodedIndexModel" "savedCapacity" "I") (by decide +kernel)) (fun _ h9 => h9) rfl (by decide +kernel) rfl rfl (show 24 < 34 by decide) dX9_saveSnapshot_10 (fun H locs hF hS => ?_)
  rw [mf_put 24 (n_1 5) rfl] at hF
  obtain ⟨n_2, hn_n_2⟩ : ∃ z, z = upd n_1 24 (n_1 5) := ⟨_, rfl⟩
  rw [← hn_n_2] at hF; have h := h n_2 hn_n_2
  refine lv_aload_n hx hb dX9_saveSnapshot_13 rfl (lv_at hl 0 rfl) ?_
  refine lv_aload_n hx hb dX9_saveSnapshot_14 rfl (lv_at hl 0 rfl) ?_
  refine fw_get (C := RX9) (T := TX9) (N := 34) hx hb hts hin_X9 hown hK hF mf_obj rfl 9 (by decide) (hts (.fieldLink RX9 106 "FrontCodedIndexModel" "entries" "I") (by decide +kernel)) (fun _ h9 => h9) rfl dX9_saveSnapshot_15 ?_
  refine fw_put (v := .int (n_2 9)) (ty := .int) (C := RX9) (T := TX9) (N := 34) hx hb hts hin_X9 tyX9 tyX9_ok nmX9 hown hK hF hS mf_obj rfl 25 (by decide) (hts (.fieldLink RX9 250 "FrontCodedIndexModel" "savedEntries" "I") (by decide +kernel)) (fun _ h9 => h9) rfl (by decide +kernel) rfl rfl (show 25 < 34 by decide) dX9_saveSnapshot_18 (fun H locs hF hS => ?_)
  rw [mf_put 25 (n_2 9) rfl] at hF
  obtain ⟨n_3, hn_n_3⟩ : ∃ z, z = upd n_2 25 (n_2 9) := ⟨_, rfl⟩
  rw [← hn_n_3] at hF; have h := h n_3 hn_n_3
  refine lv_aload_n hx hb dX9_saveSnapshot_21 rfl (lv_at hl 0 rfl) ?_
  refine lv_aload_n hx hb dX9_saveSnapshot_22 rfl (lv_at hl 0 rfl) ?_
  refine fw_get (C := RX9) (T := TX9) (N := 34) hx hb hts hin_X9 hown hK hF mf_obj rfl 13 (by decide) (hts (.fieldLink RX9 29 "FrontCodedIndexModel" "levels" "I") (by decide +kernel)) (fun _ h9 => h9) rfl dX9_saveSnapshot_23 ?_
  refine fw_put (v := .int (n_3 13)) (ty := .int) (C := RX9) (T := TX9) (N := 34) hx hb hts hin_X9 tyX9 tyX9_ok nmX9 hown hK hF hS mf_obj rfl 26 (by decide) (hts (.fieldLink RX9 253 "FrontCodedIndexModel" "savedLevels" "I") (by decide +kernel)) (fun _ h9 => h9) rfl (by decide +kernel) rfl rfl (show 26 < 34 by decide) dX9_saveSnapshot_26 (fun H locs hF hS => ?_)
  rw [mf_put 26 (n_3 13) rfl] at hF
  obtain ⟨n_4, hn_n_4⟩ : ∃ z, z = upd n_3 26 (n_3 13) := ⟨_, rfl⟩
  rw [← hn_n_4] at hF; have h := h n_4 hn_n_4
  refine lv_aload_n hx hb dX9_saveSnapshot_29 rfl (lv_at hl 0 rfl) ?_
  refine fw_get (C := RX9) (T := TX9) (N := 34) hx hb hts hin_X9 hown hK hF mf_obj rfl 10 (by decide) (hts (.fieldLink RX9 20 "FrontCodedIndexModel" "sizeOf" "[I") (by decide +kernel)) (fun _ h9 => h9) rfl dX9_saveSnapshot_30 ?_
  refine lv_aload_n hx hb dX9_saveSnapshot_33 rfl (lv_at hl 0 rfl) ?_
  refine fw_get (C := RX9) (T := TX9) (N := 34) hx hb hts hin_X9 hown hK hF mf_obj rfl 27 (by decide) (hts (.fieldLink RX9 56 "FrontCodedIndexModel" "savedSizeOf" "[I") (by decide +kernel)) (fun _ h9 => h9) rfl dX9_saveSnapshot_34 ?_
  refine lv_sipush (v := (300 : Int32)) hx hb dX9_saveSnapshot_37 (by decide) ?_
  refine fw_cS_v (As := [.ref (ad 10), .ref (ad 27), .int (300 : Int32)]) (rest := []) ⟨hx, hb, hml, hown, hts⟩ (cc_X9_copy l G had h) (⟨callB_of 3 hts ggX9_saveSnapshot_X9_copy rfl rfl rfl (hts (.initialized RX9) (by decide +kernel)) (hts (.methodLink RX9 256 yX9_copy) (by decide +kernel)) (by decide +kernel) ⟨Nat.le_of_ble_eq_true rfl, Nat.le_of_ble_eq_true rfl⟩, hts (.static yX9_copy) (by decide +kernel)⟩) hK hZ hF hS hA rfl hl.1 rfl (Nat.le_of_ble_eq_true rfl) dX9_saveSnapshot_40 ⟨Nat.zero_le _, Nat.zero_le _⟩ (fun f9 H locs h hF hS => ?_)
  obtain ⟨n_7, g_8, rfl, h⟩ := h
  refine lv_aload_n hx hb dX9_saveSnapshot_43 rfl (lv_at hl 0 rfl) ?_
  refine fw_get (C := RX9) (T := TX9) (N := 34) hx hb hts hin_X9 hown hK hF mf_obj rfl 11 (by decide) (hts (.fieldLink RX9 23 "FrontCodedIndexModel" "bytes" "[I") (by decide +kernel)) (fun _ h9 => h9) rfl dX9_saveSnapshot_44 ?_
  refine lv_aload_n hx hb dX9_saveSnapshot_47 rfl (lv_at hl 0 rfl) ?_
  refine fw_get (C := RX9) (T := TX9) (N := 34) hx hb hts hin_X9 hown hK hF mf_obj rfl 28 (by decide) (hts (.fieldLink RX9 59 "FrontCodedIndexModel" "savedBytes" "[I") (by decide +kernel)) (fun _ h9 => h9) rfl dX9_saveSnapshot_48 ?_
  refine lv_sipush (v := (3600 : Int32)) hx hb dX9_saveSnapshot_51 (by decide) ?_
  refine fw_cS_v (As := [.ref (ad 11), .ref (ad 28), .int (3600 : Int32)]) (rest := []) ⟨hx, hb, hml, hown, hts⟩ (cc_X9_copy l G had h) (⟨callB_of 3 hts ggX9_saveSnapshot_X9_copy rfl rfl rfl (hts (.initialized RX9) (by decide +kernel)) (hts (.methodLink RX9 256 yX9_copy) (by decide +kernel)) (by decide +kernel) ⟨Nat.le_of_ble_eq_true rfl, Nat.le_of_ble_eq_true rfl⟩, hts (.static yX9_copy) (by decide +kernel)⟩) hK hZ hF hS hA rfl hl.1 rfl (Nat.le_of_ble_eq_true rfl) dX9_saveSnapshot_54 ⟨Nat.zero_le _, Nat.zero_le _⟩ (fun f9 H locs h hF hS => ?_)
  obtain ⟨n_11, g_12, rfl, h⟩ := h
  refine lv_aload_n hx hb dX9_saveSnapshot_57 rfl (lv_at hl 0 rfl) ?_
  refine fw_get (C := RX9) (T := TX9) (N := 34) hx hb hts hin_X9 hown hK hF mf_obj rfl 12 (by decide) (hts (.fieldLink RX9 26 "FrontCodedIndexModel" "values" "[I") (by decide +kernel)) (fun _ h9 => h9) rfl dX9_saveSnapshot_58 ?_
  refine lv_aload_n hx hb dX9_saveSnapshot_61 rfl (lv_at hl 0 rfl) ?_
  refine fw_get (C := RX9) (T := TX9) (N := 34) hx hb hts hin_X9 hown hK hF mf_obj rfl 29 (by decide) (hts (.fieldLink RX9 62 "FrontCodedIndexModel" "savedValues" "[I") (by decide +kernel)) (fun _ h9 => h9) rfl dX9_saveSnapshot_62 ?_
  refine lv_sipush (v := (300 : Int32)) hx hb dX9_saveSnapshot_65 (by decide) ?_
  refine fw_cS_v (As := [.ref (ad 12), .ref (ad 29), .int (300 : Int32)]) (rest := []) ⟨hx, hb, hml, hown, hts⟩ (cc_X9_copy l G had h) (⟨callB_of 3 hts ggX9_saveSnapshot_X9_copy rfl rfl rfl (hts (.initialized RX9) (by decide +kernel)) (hts (.methodLink RX9 256 yX9_copy) (by decide +kernel)) (by decide +kernel) ⟨Nat.le_of_ble_eq_true rfl, Nat.le_of_ble_eq_true rfl⟩, hts (.static yX9_copy) (by decide +kernel)⟩) hK hZ hF hS hA rfl hl.1 rfl (Nat.le_of_ble_eq_true rfl) dX9_saveSnapshot_68 ⟨Nat.zero_le _, Nat.zero_le _⟩ (fun f9 H locs h hF hS => ?_)
  obtain ⟨n_15, g_16, rfl, h⟩ := h
  refine lv_aload_n hx hb dX9_saveSnapshot_71 rfl (lv_at hl 0 rfl) ?_
  refine fw_get (C := RX9) (T := TX9) (N := 34) hx hb hts hin_X9 hown hK hF mf_obj rfl 14 (by decide) (hts (.fieldLink RX9 32 "FrontCodedIndexModel" "many" "[I") (by decide +kernel)) (fun _ h9 => h9) rfl dX9_saveSnapshot_72 ?_
  refine lv_aload_n hx hb dX9_saveSnapshot_75 rfl (lv_at hl 0 rfl) ?_
  refine fw_get (C := RX9) (T := TX9) (N := 34) hx hb hts hin_X9 hown hK hF mf_obj rfl 30 (by decide) (hts (.fieldLink RX9 65 "FrontCodedIndexModel" "savedMany" "[I") (by decide +kernel)) (fun _ h9 => h9) rfl dX9_saveSnapshot_76 ?_
  refine lv_bipush (v := (12 : Int32)) hx hb dX9_saveSnapshot_79 (by decide) ?_
  refine fw_cS_v (As := [.ref (ad 14), .ref (ad 30), .int (12 : Int32)]) (rest := []) ⟨hx, hb, hml, hown, hts⟩ (cc_X9_copy l G had h) (⟨callB_of 3 hts ggX9_saveSnapshot_X9_copy rfl rfl rfl (hts (.initialized RX9) (by decide +kernel)) (hts (.methodLink RX9 256 yX9_copy) (by decide +kernel)) (by decide +kernel) ⟨Nat.le_of_ble_eq_true rfl, Nat.le_of_ble_eq_true rfl⟩, hts (.static yX9_copy) (by decide +kernel)⟩) hK hZ hF hS hA rfl hl.1 rfl (Nat.le_of_ble_eq_true rfl) dX9_saveSnapshot_81 ⟨Nat.zero_le _, Nat.zero_le _⟩ (fun f9 H locs h hF hS => ?_)
  obtain ⟨n_19, g_20, rfl, h⟩ := h
  refine lv_aload_n hx hb dX9_saveSnapshot_84 rfl (lv_at hl 0 rfl) ?_
  refine fw_get (C := RX9) (T := TX9) (N := 34) hx hb hts hin_X9 hown hK hF mf_obj rfl 15 (by decide) (hts (.fieldLink RX9 35 "FrontCodedIndexModel" "parts" "[I") (by decide +kernel)) (fun _ h9 => h9) rfl dX9_saveSnapshot_85 ?_
  refine lv_aload_n hx hb dX9_saveSnapshot_88 rfl (lv_at hl 0 rfl) ?_
  refine fw_get (C := RX9) (T := TX9) (N := 34) hx hb hts hin_X9 hown hK hF mf_obj rfl 31 (by decide) (hts (.fieldLink RX9 68 "FrontCodedIndexModel" "savedParts" "[I") (by decide +kernel)) (fun _ h9 => h9) rfl dX9_saveSnapshot_89 ?_
  refine lv_sipush (v := (4800 : Int32)) hx hb dX9_saveSnapshot_92 (by decide) ?_
  refine fw_cS_v (As := [.ref (ad 15), .ref (ad 31), .int (4800 : Int32)]) (rest := []) ⟨hx, hb, hml, hown, hts⟩ (cc_X9_copy l G had h) (⟨callB_of 3 hts ggX9_saveSnapshot_X9_copy rfl rfl rfl (hts (.initialized RX9) (by decide +kernel)) (hts (.methodLink RX9 256 yX9_copy) (by decide +kernel)) (by decide +kernel) ⟨Nat.le_of_ble_eq_true rfl, Nat.le_of_ble_eq_true rfl⟩, hts (.static yX9_copy) (by decide +kernel)⟩) hK hZ hF hS hA rfl hl.1 rfl (Nat.le_of_ble_eq_true rfl) dX9_saveSnapshot_95 ⟨Nat.zero_le _, Nat.zero_le _⟩ (fun f9 H locs h hF hS => ?_)
  obtain ⟨n_23, g_24, rfl, h⟩ := h
  refine lv_aload_n hx hb dX9_saveSnapshot_98 rfl (lv_at hl 0 rfl) ?_
  refine fw_get (C := RX9) (T := TX9) (N := 34) hx hb hts hin_X9 hown hK hF mf_obj rfl 16 (by decide) (hts (.fieldLink RX9 38 "FrontCodedIndexModel" "sepSize" "[I") (by decide +kernel)) (fun _ h9 => h9) rfl dX9_saveSnapshot_99 ?_
  refine lv_aload_n hx hb dX9_saveSnapshot_102 rfl (lv_at hl 0 rfl) ?_
  refine fw_get (C := RX9) (T := TX9) (N := 34) hx hb hts hin_X9 hown hK hF mf_obj rfl 32 (by decide) (hts (.fieldLink RX9 71 "FrontCodedIndexModel" "savedSepSize" "[I") (by decide +kernel)) (fun _ h9 => h9) rfl dX9_saveSnapshot_103 ?_
  refine lv_sipush (v := (400 : Int32)) hx hb dX9_saveSnapshot_106 (by decide) ?_
  refine fw_cS_v (As := [.ref (ad 16), .ref (ad 32), .int (400 : Int32)]) (rest := []) ⟨hx, hb, hml, hown, hts⟩ (cc_X9_copy l G had h) (⟨callB_of 3 hts ggX9_saveSnapshot_X9_copy rfl rfl rfl (hts (.initialized RX9) (by decide +kernel)) (hts (.methodLink RX9 256 yX9_copy) (by decide +kernel)) (by decide +kernel) ⟨Nat.le_of_ble_eq_true rfl, Nat.le_of_ble_eq_true rfl⟩, hts (.static yX9_copy) (by decide +kernel)⟩) hK hZ hF hS hA rfl hl.1 rfl (Nat.le_of_ble_eq_true rfl) dX9_saveSnapshot_109 ⟨Nat.zero_le _, Nat.zero_le _⟩ (fun f9 H locs h hF hS => ?_)
  obtain ⟨n_27, g_28, rfl, h⟩ := h
  refine lv_aload_n hx hb dX9_saveSnapshot_112 rfl (lv_at hl 0 rfl) ?_
  refine fw_get (C := RX9) (T := TX9) (N := 34) hx hb hts hin_X9 hown hK hF mf_obj rfl 17 (by decide) (hts (.fieldLink RX9 41 "FrontCodedIndexModel" "sep" "[I") (by decide +kernel)) (fun _ h9 => h9) rfl dX9_saveSnapshot_113 ?_
  refine lv_aload_n hx hb dX9_saveSnapshot_116 rfl (lv_at hl 0 rfl) ?_
  refine fw_get (C := RX9) (T := TX9) (N := 34) hx hb hts hin_X9 hown hK hF mf_obj rfl 33 (by decide) (hts (.fieldLink RX9 74 "FrontCodedIndexModel" "savedSep" "[I") (by decide +kernel)) (fun _ h9 => h9) rfl dX9_saveSnapshot_117 ?_
  refine lv_sipush (v := (4800 : Int32)) hx hb dX9_saveSnapshot_120 (by decide) ?_
  refine fw_cS_v (As := [.ref (ad 17), .ref (ad 33), .int (4800 : Int32)]) (rest := []) ⟨hx, hb, hml, hown, hts⟩ (cc_X9_copy l G had h) (⟨callB_of 3 hts ggX9_saveSnapshot_X9_copy rfl rfl rfl (hts (.initialized RX9) (by decide +kernel)) (hts (.methodLink RX9 256 yX9_copy) (by decide +kernel)) (by decide +kernel) ⟨Nat.le_of_ble_eq_true rfl, Nat.le_of_ble_eq_true rfl⟩, hts (.static yX9_copy) (by decide +kernel)⟩) hK hZ hF hS hA rfl hl.1 rfl (Nat.le_of_ble_eq_true rfl) dX9_saveSnapshot_123 ⟨Nat.zero_le _, Nat.zero_le _⟩ (fun f9 H locs h hF hS => ?_)
  obtain ⟨n_31, g_32, rfl, h⟩ := h
  refine lv_aload_n hx hb dX9_saveSnapshot_126 rfl (lv_at hl 0 rfl) ?_
  refine lv_aload_n hx hb dX9_saveSnapshot_127 rfl (lv_at hl 0 rfl) ?_
  refine fw_get (C := RX9) (T := TX9) (N := 34) hx hb hts hin_X9 hown hK hF mf_obj rfl 9 (by decide) (hts (.fieldLink RX9 106 "FrontCodedIndexModel" "entries" "I") (by decide +kernel)) (fun _ h9 => h9) rfl dX9_saveSnapshot_128 ?_
  refine fw_cV_i (As := [.int (n_31 9)]) (rest := []) ⟨hx, hb, hml, hown, hts⟩ (cc_X9_done l G had h) (⟨callB_of 1 hts ggX9_saveSnapshot_X9_done rfl rfl rfl (hts (.initialized RX9) (by decide +kernel)) (hts (.methodLink RX9 91 yX9_done) (by decide +kernel)) (by decide +kernel) ⟨Nat.le_of_ble_eq_true rfl, Nat.le_of_ble_eq_true rfl⟩, hts (.instanceMethod yX9_done) (by decide +kernel), hts (.selects RX9 yX9_done yX9_done) (by decide +kernel)⟩) rfl mf_obj hK hZ hF hS hA rfl hl.1 rfl (Nat.le_of_ble_eq_true rfl) dX9_saveSnapshot_131 ⟨Nat.zero_le _, Nat.zero_le _⟩ (fun r_33 f9 H locs h hF hS => ?_)
  obtain ⟨n_35, g_36, rfl, h⟩ := h
  exact W.iret (v := r_33) hx hb hr (fun t ht hW => ⟨⟨r_33, (mf mo ad n_35 g_36), rfl, ⟨_, _, rfl, h⟩, by rw [ht]; exact hF, FK.moved hW.alike hK⟩, hS.F ht⟩) hS.2.2 dX9_saveSnapshot_134
theorem dX9_select_0 : decode cX9_select 0 = .ok (.iload_n 1, 1) := by decide +kernel
theorem dX9_select_1 : decode cX9_select 1 = .ok (.iconst 0, 1) := by decide +kernel
theorem dX9_select_2 : decode cX9_select 2 = .ok (.aload_n 0, 1) := by decide +kernel
theorem dX9_select_3 : decode cX9_select 3 = .ok (.getfield 106, 3) := by decide +kernel
theorem dX9_select_6 : decode cX9_select 6 = .ok (.iconst 1, 1) := by decide +kernel
theorem dX9_select_7 : decode cX9_select 7 = .ok (.isub, 1) := by decide +kernel
theorem dX9_select_8 : decode cX9_select 8 = .ok (.invokestatic 80, 3) := by decide +kernel
theorem dX9_select_11 : decode cX9_select 11 = .ok (.ifCond .eq 11, 3) := by decide +kernel
theorem dX9_select_14 : decode cX9_select 14 = .ok (.aload_n 0, 1) := by decide +kernel
theorem dX9_select_15 : decode cX9_select 15 = .ok (.iload_n 1, 1) := by decide +kernel
theorem dX9_select_16 : decode cX9_select 16 = .ok (.invokevirtual 207, 3) := by decide +kernel
theorem dX9_select_19 : decode cX9_select 19 = .ok (.goto 8, 3) := by decide +kernel
theorem dX9_select_22 : decode cX9_select 22 = .ok (.aload_n 0, 1) := by decide +kernel
theorem dX9_select_23 : decode cX9_select 23 = .ok (.iconst 1, 1) := by decide +kernel
theorem dX9_select_24 : decode cX9_select 24 = .ok (.invokevirtual 84, 3) := by decide +kernel
theorem dX9_select_27 : decode cX9_select 27 = .ok (.ireturn, 1) := by decide +kernel
set_option maxRecDepth 20000 in
theorem ggX9_select_X9_fails : GoodIn wsX9_select wsX9_fails := goodIn_r _ [23, 19, 24, 25, 26, 27, 28, 29, 30, 31, 32, 33, 34, 35, 36, 37, 38, 39, 40, 41, 42, 43, 44, 45, 46, 47, 48, 49, 50, 51, 52, 53, 54, 55, 56, 57] (by decide +kernel) (by decide +kernel)
set_option maxRecDepth 20000 in
theorem ggX9_select_X9_in : GoodIn wsX9_select wsX9_in := goodIn_r _ [5] (by decide +kernel) (by decide +kernel)
set_option maxRecDepth 20000 in
theorem ggX9_select_X9_keyIs : GoodIn wsX9_select wsX9_keyIs := goodIn_r _ [9, 10, 11, 12, 13, 14, 15, 16, 17, 4, 18, 19, 24, 25, 26, 27, 28, 29, 30, 31, 32, 33, 34, 35, 36, 37, 38, 39, 40, 41, 42, 43, 44, 45, 46, 47, 48, 49, 50, 51, 52, 53, 54, 55, 56, 57] (by decide +kernel) (by decide +kernel)
def wp_X9_select (x1 : Int32) (n : Nat → Int32) (g : Nat → Nat → Int32) (K : Int32 → (Nat → Int32) → (Nat → Nat → Int32) → Prop) : Prop :=
  wp_X9_in x1 (0 : Int32) ((n 9) - (1 : Int32)) n g (fun r_1 => ((r_1 = (0 : Int32) → wp_X9_fails (1 : Int32) n g (fun r_3 n_5 g_6 => K r_3 n_5 g_6)) ∧
 (¬ (r_1 = (0 : Int32)) → wp_X9_keyIs x1 n g (fun r_7 n_9 g_10 => K r_7 n_9 g_10))))
set_option maxHeartbeats 4000000 in
set_option maxRecDepth 100000 in
theorem cc_X9_select (l : Launch) (G : GG) {mo : Nat} {ad : Nat → Nat} (had : MAd mo ad) {n : Nat → Int32} {g : Nat → Nat → Int32} {sz : Nat} {x1 : Int32} {K : Int32 → (Nat → Int32) → (Nat → Nat → Int32) → Prop} (h : wp_X9_select x1 n g K) : Met l yX9_select wsX9_select ({ frames := 2, cells := 0, slots := 0, locals := 43 } : Room) (FP G [.ref mo, .int x1] (mf mo ad n g) sz) (va_Qi (fun r f9 => ∃ n9 g9, f9 = mf mo ad n9 g9 ∧ K r n9 g9 : Int32 → FT → Prop) (FB G (fA (mf mo ad n g) sz)) (fA (mf mo ad n g) sz)) 0 0 (fA (mf mo ad n g) sz) := by
  refine Met.ofW (cc := cX9_select) (maxL := 2) (ret := (some .int)) (by decide) rfl ?_
  intro p e s m args below meth c s₁ B hml hv
  obtain ⟨rfl, hsz, hF, hK, hZ⟩ := hv
  have hx := B.exec
  have hb := B.bytes
  have hr := B.returns
  have hts := atoms_spec (ws := wsX9_select) B.pre
  have hown : s.vm.findClass RX9 = some m.cls := findClass_of_methodNamed B.named
  have hlocks := B.notSynchronized
  subst hsz
  have hF := hF.self (sz := s.heap.size)
  generalize hAe : fA (mf mo ad n g) s.heap.size = A at hF hZ ⊢
  have hA : ∀ q : Nat, s.heap.size ≤ q → A q := fun q h => by rw [← hAe]; exact Or.inr h
  have hS : va_S A s.heap s.heap [] := va_S.rf
  have hin_X9 : ∀ w ∈ wsX90, w ∈ wsX9_select := by decide +kernel
  have hl := lv_entry ([.ref mo, .int x1]) (n := 2) (Nat.le_of_ble_eq_true rfl)
  rw [lg_entry_eq]
  generalize (lg_sl ([.ref mo, .int x1]) ++ List.replicate (2 - (lg_sl ([.ref mo, .int x1])).length) Slot.unset).toArray = ls at hl ⊢
  have hl : lv_has ls 2 [(0, .ref mo), (1, .int x1)] := hl
  unfold wp_X9_select at h
  refine lv_iload_n hx hb dX9_select_0 rfl (lv_at hl 1 rfl) ?_
  refine lv_iconst (v := (0 : Int32)) hx hb dX9_select_1 (by decide) ?_
  refine lv_aload_n hx hb dX9_select_2 rfl (lv_at hl 0 rfl) ?_
  refine fw_get (C := RX9) (T := TX9) (N := 34) hx hb hts hin_X9 hown hK hF mf_obj rfl 9 (by decide) (hts (.fieldLink RX9 106 "FrontCodedIndexModel" "entries" "I") (by decide +kernel)) (fun _ h9 => h9) rfl dX9_select_3 ?_
  refine lv_iconst (v := (1 : Int32)) hx hb dX9_select_6 (by decide) ?_
  refine lv_isub hx hb dX9_select_7 ?_
  refine fw_cS_i_p (As := [.int x1, .int (0 : Int32), .int ((n 9) - (1 : Int32))]) (rest := []) ⟨hx, hb, hml, hown, hts⟩ (cc_X9_in l G had h) (⟨callB_of 3 hts ggX9_select_X9_in rfl rfl rfl (hts (.initialized RX9) (by decide +kernel)) (hts (.methodLink RX9 80 yX9_in) (by decide +kernel)) (by decide +kernel) ⟨Nat.le_of_ble_eq_true rfl, Nat.le_of_ble_eq_true rfl⟩, hts (.static yX9_in) (by decide +kernel)⟩) hK hZ hF hS hA rfl hl.1 rfl (Nat.le_of_ble_eq_true rfl) dX9_select_8 ⟨Nat.zero_le _, Nat.zero_le _⟩ (fun r_1 H locs h hF hS => ?_)
  obtain ⟨h1, h2⟩ := h
  refine lv_if_eq (tgt := 22) hx hb dX9_select_11 (by decide) (fun c_2 => ?_) (fun c_2 => ?_)
  · have h := h1 c_2
    refine lv_aload_n hx hb dX9_select_22 rfl (lv_at hl 0 rfl) ?_
    refine lv_iconst (v := (1 : Int32)) hx hb dX9_select_23 (by decide) ?_
    refine fw_cV_i (As := [.int (1 : Int32)]) (rest := []) ⟨hx, hb, hml, hown, hts⟩ (cc_X9_fails l G had h) (⟨callB_of 1 hts ggX9_select_X9_fails rfl rfl rfl (hts (.initialized RX9) (by decide +kernel)) (hts (.methodLink RX9 84 yX9_fails) (by decide +kernel)) (by decide +kernel) ⟨Nat.le_of_ble_eq_true rfl, Nat.le_of_ble_eq_true rfl⟩, hts (.instanceMethod yX9_fails) (by decide +kernel), hts (.selects RX9 yX9_fails yX9_fails) (by decide +kernel)⟩) rfl mf_obj hK hZ hF hS hA rfl hl.1 rfl (Nat.le_of_ble_eq_true rfl) dX9_select_24 ⟨Nat.zero_le _, Nat.zero_le _⟩ (fun r_3 f9 H locs h hF hS => ?_)
    obtain ⟨n_5, g_6, rfl, h⟩ := h
    exact W.iret (v := r_3) hx hb hr (fun t ht hW => ⟨⟨r_3, (mf mo ad n_5 g_6), rfl, ⟨_, _, rfl, h⟩, by rw [ht]; exact hF, FK.moved hW.alike hK⟩, hS.F ht⟩) hS.2.2 dX9_select_27
  · have h := h2 c_2
    refine lv_aload_n hx hb dX9_select_14 rfl (lv_at hl 0 rfl) ?_
    refine lv_iload_n hx hb dX9_select_15 rfl (lv_at hl 1 rfl) ?_
    refine fw_cV_i (As := [.int x1]) (rest := []) ⟨hx, hb, hml, hown, hts⟩ (cc_X9_keyIs l G had h) (⟨callB_of 1 hts ggX9_select_X9_keyIs rfl rfl rfl (hts (.initialized RX9) (by decide +kernel)) (hts (.methodLink RX9 207 yX9_keyIs) (by decide +kernel)) (by decide +kernel) ⟨Nat.le_of_ble_eq_true rfl, Nat.le_of_ble_eq_true rfl⟩, hts (.instanceMethod yX9_keyIs) (by decide +kernel), hts (.selects RX9 yX9_keyIs yX9_keyIs) (by decide +kernel)⟩) rfl mf_obj hK hZ hF hS hA rfl hl.1 rfl (Nat.le_of_ble_eq_true rfl) dX9_select_16 ⟨Nat.zero_le _, Nat.zero_le _⟩ (fun r_7 f9 H locs h hF hS => ?_)
    obtain ⟨n_9, g_10, rfl, h⟩ := h
    refine lv_goto (tgt := 27) hx hb dX9_select_19 (by decide) ?_
    exact W.iret (v := r_7) hx hb hr (fun t ht hW => ⟨⟨r_7, (mf mo ad n_9 g_10), rfl, ⟨_, _, rfl, h⟩, by rw [ht]; exact hF, FK.moved hW.alike hK⟩, hS.F ht⟩) hS.2.2 dX9_select_27
theorem dX9_separator_0 : decode cX9_separator 0 = .ok (.aload_n 0, 1) := by decide +kernel
theorem dX9_separator_1 : decode cX9_separator 1 = .ok (.iload_n 1, 1) := by decide +kernel
theorem dX9_separator_2 : decode cX9_separator 2 = .ok (.iload_n 2, 1) := by decide +kernel
theorem dX9_separator_3 : decode cX9_separator 3 = .ok (.invokevirtual 210, 3) := by decide +kernel
theorem dX9_separator_6 : decode cX9_separator 6 = .ok (.ifCond .ne 9, 3) := by decide +kernel
theorem dX9_separator_9 : decode cX9_separator 9 = .ok (.aload_n 0, 1) := by decide +kernel
theorem dX9_separator_10 : decode cX9_separator 10 = .ok (.iconst 1, 1) := by decide +kernel
theorem dX9_separator_11 : decode cX9_separator 11 = .ok (.invokevirtual 84, 3) := by decide +kernel
theorem dX9_separator_14 : decode cX9_separator 14 = .ok (.ireturn, 1) := by decide +kernel
theorem dX9_separator_15 : decode cX9_separator 15 = .ok (.aload_n 0, 1) := by decide +kernel
theorem dX9_separator_16 : decode cX9_separator 16 = .ok (.getfield 29, 3) := by decide +kernel
theorem dX9_separator_19 : decode cX9_separator 19 = .ok (.iconst 1, 1) := by decide +kernel
theorem dX9_separator_20 : decode cX9_separator 20 = .ok (.isub, 1) := by decide +kernel
theorem dX9_separator_21 : decode cX9_separator 21 = .ok (.iload_n 1, 1) := by decide +kernel
theorem dX9_separator_22 : decode cX9_separator 22 = .ok (.isub, 1) := by decide +kernel
theorem dX9_separator_23 : decode cX9_separator 23 = .ok (.istore 4, 2) := by decide +kernel
theorem dX9_separator_25 : decode cX9_separator 25 = .ok (.iload 4, 2) := by decide +kernel
theorem dX9_separator_27 : decode cX9_separator 27 = .ok (.ifCond .eq 24, 3) := by decide +kernel
theorem dX9_separator_30 : decode cX9_separator 30 = .ok (.iload_n 3, 1) := by decide +kernel
theorem dX9_separator_31 : decode cX9_separator 31 = .ok (.iconst 0, 1) := by decide +kernel
theorem dX9_separator_32 : decode cX9_separator 32 = .ok (.aload_n 0, 1) := by decide +kernel
theorem dX9_separator_33 : decode cX9_separator 33 = .ok (.getfield 35, 3) := by decide +kernel
theorem dX9_separator_36 : decode cX9_separator 36 = .ok (.iload 4, 2) := by decide +kernel
theorem dX9_separator_38 : decode cX9_separator 38 = .ok (.iload_n 2, 1) := by decide +kernel
theorem dX9_separator_39 : decode cX9_separator 39 = .ok (.invokestatic 113, 3) := by decide +kernel
theorem dX9_separator_42 : decode cX9_separator 42 = .ok (.iaload, 1) := by decide +kernel
theorem dX9_separator_43 : decode cX9_separator 43 = .ok (.iconst 2, 1) := by decide +kernel
theorem dX9_separator_44 : decode cX9_separator 44 = .ok (.isub, 1) := by decide +kernel
theorem dX9_separator_45 : decode cX9_separator 45 = .ok (.invokestatic 80, 3) := by decide +kernel
theorem dX9_separator_48 : decode cX9_separator 48 = .ok (.ifCond .ne 9, 3) := by decide +kernel
theorem dX9_separator_51 : decode cX9_separator 51 = .ok (.aload_n 0, 1) := by decide +kernel
theorem dX9_separator_52 : decode cX9_separator 52 = .ok (.iconst 2, 1) := by decide +kernel
theorem dX9_separator_53 : decode cX9_separator 53 = .ok (.invokevirtual 84, 3) := by decide +kernel
theorem dX9_separator_56 : decode cX9_separator 56 = .ok (.ireturn, 1) := by decide +kernel
theorem dX9_separator_57 : decode cX9_separator 57 = .ok (.aload_n 0, 1) := by decide +kernel
theorem dX9_separator_58 : decode cX9_separator 58 = .ok (.iload 4, 2) := by decide +kernel
theorem dX9_separator_60 : decode cX9_separator 60 = .ok (.iconst 1, 1) := by decide +kernel
theorem dX9_separator_61 : decode cX9_separator 61 = .ok (.isub, 1) := by decide +kernel
theorem dX9_separator_62 : decode cX9_separator 62 = .ok (.aload_n 0, 1) := by decide +kernel
theorem dX9_separator_63 : decode cX9_separator 63 = .ok (.iload 4, 2) := by decide +kernel
theorem dX9_separator_65 : decode cX9_separator 65 = .ok (.iload_n 2, 1) := by decide +kernel
theorem dX9_separator_66 : decode cX9_separator 66 = .ok (.invokevirtual 117, 3) := by decide +kernel
theorem dX9_separator_69 : decode cX9_separator 69 = .ok (.iload_n 3, 1) := by decide +kernel
theorem dX9_separator_70 : decode cX9_separator 70 = .ok (.iadd, 1) := by decide +kernel
theorem dX9_separator_71 : decode cX9_separator 71 = .ok (.invokevirtual 120, 3) := by decide +kernel
theorem dX9_separator_74 : decode cX9_separator 74 = .ok (.istore 5, 2) := by decide +kernel
theorem dX9_separator_76 : decode cX9_separator 76 = .ok (.aload_n 0, 1) := by decide +kernel
theorem dX9_separator_77 : decode cX9_separator 77 = .ok (.aload_n 0, 1) := by decide +kernel
theorem dX9_separator_78 : decode cX9_separator 78 = .ok (.getfield 38, 3) := by decide +kernel
theorem dX9_separator_81 : decode cX9_separator 81 = .ok (.iload 5, 2) := by decide +kernel
theorem dX9_separator_83 : decode cX9_separator 83 = .ok (.iaload, 1) := by decide +kernel
theorem dX9_separator_84 : decode cX9_separator 84 = .ok (.putfield 88, 3) := by decide +kernel
theorem dX9_separator_87 : decode cX9_separator 87 = .ok (.iconst 0, 1) := by decide +kernel
theorem dX9_separator_88 : decode cX9_separator 88 = .ok (.istore 6, 2) := by decide +kernel
theorem dX9_separator_90 : decode cX9_separator 90 = .ok (.iload 6, 2) := by decide +kernel
theorem dX9_separator_92 : decode cX9_separator 92 = .ok (.aload_n 0, 1) := by decide +kernel
theorem dX9_separator_93 : decode cX9_separator 93 = .ok (.getfield 88, 3) := by decide +kernel
theorem dX9_separator_96 : decode cX9_separator 96 = .ok (.if_icmp .ge 29, 3) := by decide +kernel
theorem dX9_separator_99 : decode cX9_separator 99 = .ok (.aload_n 0, 1) := by decide +kernel
theorem dX9_separator_100 : decode cX9_separator 100 = .ok (.getfield 7, 3) := by decide +kernel
theorem dX9_separator_103 : decode cX9_separator 103 = .ok (.iload 6, 2) := by decide +kernel
theorem dX9_separator_105 : decode cX9_separator 105 = .ok (.aload_n 0, 1) := by decide +kernel
theorem dX9_separator_106 : decode cX9_separator 106 = .ok (.getfield 41, 3) := by decide +kernel
theorem dX9_separator_109 : decode cX9_separator 109 = .ok (.bipush 12, 2) := by decide +kernel
theorem dX9_separator_111 : decode cX9_separator 111 = .ok (.iload 5, 2) := by decide +kernel
theorem dX9_separator_113 : decode cX9_separator 113 = .ok (.imul, 1) := by decide +kernel
theorem dX9_separator_114 : decode cX9_separator 114 = .ok (.iload 6, 2) := by decide +kernel
theorem dX9_separator_116 : decode cX9_separator 116 = .ok (.iadd, 1) := by decide +kernel
theorem dX9_separator_117 : decode cX9_separator 117 = .ok (.iaload, 1) := by decide +kernel
theorem dX9_separator_118 : decode cX9_separator 118 = .ok (.iastore, 1) := by decide +kernel
theorem dX9_separator_119 : decode cX9_separator 119 = .ok (.iinc 6 1, 3) := by decide +kernel
theorem dX9_separator_122 : decode cX9_separator 122 = .ok (.goto (-32), 3) := by decide +kernel
theorem dX9_separator_125 : decode cX9_separator 125 = .ok (.aload_n 0, 1) := by decide +kernel
theorem dX9_separator_126 : decode cX9_separator 126 = .ok (.aload_n 0, 1) := by decide +kernel
theorem dX9_separator_127 : decode cX9_separator 127 = .ok (.getfield 88, 3) := by decide +kernel
theorem dX9_separator_130 : decode cX9_separator 130 = .ok (.invokevirtual 91, 3) := by decide +kernel
theorem dX9_separator_133 : decode cX9_separator 133 = .ok (.ireturn, 1) := by decide +kernel
set_option maxRecDepth 20000 in
theorem ggX9_separator_X9_at : GoodIn wsX9_separator wsX9_at := goodIn_r _ [23] (by decide +kernel) (by decide +kernel)
set_option maxRecDepth 20000 in
theorem ggX9_separator_X9_done : GoodIn wsX9_separator wsX9_done := goodIn_r _ [35, 20, 36, 37, 38, 39, 40, 41, 42, 43, 44, 45, 46, 47, 48, 49, 50, 51, 52, 53, 54, 55, 56, 57, 58, 59, 60, 61, 62, 63, 64, 65, 66, 67, 68, 69] (by decide +kernel) (by decide +kernel)
set_option maxRecDepth 20000 in
theorem ggX9_separator_X9_fails : GoodIn wsX9_separator wsX9_fails := goodIn_r _ [19, 20, 36, 37, 38, 39, 40, 41, 42, 43, 44, 45, 46, 47, 48, 49, 50, 51, 52, 53, 54, 55, 56, 57, 58, 59, 60, 61, 62, 63, 64, 65, 66, 67, 68, 69] (by decide +kernel) (by decide +kernel)
set_option maxRecDepth 20000 in
theorem ggX9_separator_X9_firstOf : GoodIn wsX9_separator wsX9_firstOf := goodIn_r _ [27, 2, 21, 22, 10, 23, 36, 37, 38, 39, 40, 41, 42, 43, 44, 45, 46, 47, 48, 49, 50, 51, 52, 53, 54, 55, 56, 57, 58, 59, 60, 61, 62, 63, 64, 65, 66, 67, 68, 69] (by decide +kernel) (by decide +kernel)
set_option maxRecDepth 20000 in
theorem ggX9_separator_X9_in : GoodIn wsX9_separator wsX9_in := goodIn_r _ [15] (by decide +kernel) (by decide +kernel)
set_option maxRecDepth 20000 in
theorem ggX9_separator_X9_isPage : GoodIn wsX9_separator wsX9_isPage := goodIn_r _ [11, 1, 12, 13, 14, 10, 15, 36, 37, 38, 39, 40, 41, 42, 43, 44, 45, 46, 47, 48, 49, 50, 51, 52, 53, 54, 55, 56, 57, 58, 59, 60, 61, 62, 63, 64, 65, 66, 67, 68, 69] (by decide +kernel) (by decide +kernel)
set_option maxRecDepth 20000 in
theorem ggX9_separator_X9_lastLeaf : GoodIn wsX9_separator wsX9_lastLeaf := goodIn_r _ [31, 24, 25, 26, 10, 27, 2, 21, 22, 23, 36, 37, 38, 39, 40, 41, 42, 43, 44, 45, 46, 47, 48, 49, 50, 51, 52, 53, 54, 55, 56, 57, 58, 59, 60, 61, 62, 63, 64, 65, 66, 67, 68, 69] (by decide +kernel) (by decide +kernel)
def wp_X9_separator_51   (n : Nat → Int32) (g : Nat → Nat → Int32) (K : Int32 → (Nat → Int32) → (Nat → Nat → Int32) → Prop)  : Prop :=
  wp_X9_fails (2 : Int32) n g (fun r_1 n_3 g_4 => K r_1 n_3 g_4)
def wp_X9_separator_90 (y5 : Int32) (K : Int32 → (Nat → Int32) → (Nat → Nat → Int32) → Prop)  (C90 : Int32 × (Nat → Int32) × (Nat → Nat → Int32) → Prop) : Int32 × (Nat → Int32) × (Nat → Nat → Int32) → Prop := fun s9 => match s9 with
  | (y6, n, g) => (((n 1) ≤ y6 → wp_X9_done (n 1) n g (fun r_6 n_8 g_9 => K r_6 n_8 g_9)) ∧
 (¬ ((n 1) ≤ y6) → vp_in (((12 : Int32) * y5) + y6) (mlen 17) ∧ ∀ v_11 : Int32, v_11 = g 17 ((((12 : Int32) * y5) + y6)).toNatClampNeg → vp_in y6 (mlen 2) ∧ ∀ g_13 : Nat → Nat → Int32, g_13 = mup g 2 (y6).toNatClampNeg v_11 → ∀ v_14 : Int32, v_14 = y6 + 1 → C90 (v_14, n, g_13)))
def wp_X9_separator (x1 : Int32) (x2 : Int32) (x3 : Int32) (n : Nat → Int32) (g : Nat → Nat → Int32) (K : Int32 → (Nat → Int32) → (Nat → Nat → Int32) → Prop) : Prop :=
  wp_X9_isPage x1 x2 n g (fun r_16 => ((¬ r_16 = (0 : Int32) → ∀ v_18 : Int32, v_18 = (((n 13) - (1 : Int32)) - x1) → ((v_18 = (0 : Int32) → wp_X9_separator_51 n g K) ∧
 (¬ (v_18 = (0 : Int32)) → wp_X9_at v_18 x2 n g (fun r_21 => vp_in r_21 (mlen 15) ∧ ∀ v_23 : Int32, v_23 = g 15 (r_21).toNatClampNeg → wp_X9_in x3 (0 : Int32) (v_23 - (2 : Int32)) n g (fun r_24 => ((¬ r_24 = (0 : Int32) → wp_X9_firstOf v_18 x2 n g (fun r_26 => wp_X9_lastLeaf (v_18 - (1 : Int32)) (r_26 + x3) n g (fun r_27 => vp_in r_27 (mlen 16) ∧ ∀ v_29 : Int32, v_29 = g 16 (r_27).toNatClampNeg → ∀ n_30 : Nat → Int32, n_30 = upd n 1 v_29 → ∃ n_31, loopW (wp_X9_separator_90 r_27 K) n_31 ((0 : Int32), n_30, g)))) ∧
 (r_24 = (0 : Int32) → wp_X9_separator_51 n g K))))))) ∧
 (r_16 = (0 : Int32) → wp_X9_fails (1 : Int32) n g (fun r_32 n_34 g_35 => K r_32 n_34 g_35))))
set_option maxHeartbeats 4000000 in
set_option maxRecDepth 100000 in
theorem cc_X9_separator (l : Launch) (G : GG) {mo : Nat} {ad : Nat → Nat} (had : MAd mo ad) {n : Nat → Int32} {g : Nat → Nat → Int32} {sz : Nat} {x1 : Int32} {x2 : Int32} {x3 : Int32} {K : Int32 → (Nat → Int32) → (Nat → Nat → Int32) → Prop} (h : wp_X9_separator x1 x2 x3 n g K) : Met l yX9_separator wsX9_separator ({ frames := 3, cells := 0, slots := 0, locals := 69 } : Room) (FP G [.ref mo, .int x1, .int x2, .int x3] (mf mo ad n g) sz) (va_Qi (fun r f9 => ∃ n9 g9, f9 = mf mo ad n9 g9 ∧ K r n9 g9 : Int32 → FT → Prop) (FB G (fA (mf mo ad n g) sz)) (fA (mf mo ad n g) sz)) 0 0 (fA (mf mo ad n g) sz) := by
  refine Met.ofW (cc := cX9_separator) (maxL := 7) (ret := (some .int)) (by decide) rfl ?_
  intro p e s m args below meth c s₁ B hml hv
  obtain ⟨rfl, hsz, hF, hK, hZ⟩ := hv
  have hx := B.exec
  have hb := B.bytes
  have hr := B.returns
  have hts := atoms_spec (ws := wsX9_separator) B.pre
  have hown : s.vm.findClass RX9 = some m.cls := findClass_of_methodNamed B.named
  have hlocks := B.notSynchronized
  subst hsz
  have hF := hF.self (sz := s.heap.size)
  generalize hAe : fA (mf mo ad n g) s.heap.size = A at hF hZ ⊢
  have hA : ∀ q : Nat, s.heap.size ≤ q → A q := fun q h => by rw [← hAe]; exact Or.inr h
  have hS : va_S A s.heap s.heap [] := va_S.rf
  have hin_X9 : ∀ w ∈ wsX90, w ∈ wsX9_separator := by decide +kernel
  have J51 : ∀ (n : Nat → Int32) (g : Nat → Nat → Int32) (H : Heap) (locs : List Loc) (ls : Array Slot), wp_X9_separator_51  n g K  → Fw G A (mf mo ad n g) H → va_S A s.heap H locs → lv_has ls 7 [(0, .ref mo)] → W p l e ({ frames := 3, cells := 0, slots := 0, locals := 69 } : Room) s m ([.ref mo, .int x1, .int x2, .int x3] : List Value).toArray below meth c H locs 0 0 (MQ below (va_Qi (fun r f9 => ∃ n9 g9, f9 = mf mo ad n9 g9 ∧ K r n9 g9 : Int32 → FT → Prop) (FB G A) A) ([.ref mo, .int x1, .int x2, .int x3] : List Value).toArray s 0 0 A) (F0 m 51 ls []) := by
    intro n g H locs ls h hF hS hl
    unfold wp_X9_separator_51 at h
    refine lv_aload_n hx hb dX9_separator_51 rfl (lv_at hl 0 rfl) ?_
    refine lv_iconst (v := (2 : Int32)) hx hb dX9_separator_52 (by decide) ?_
    refine fw_cV_i (As := [.int (2 : Int32)]) (rest := []) ⟨hx, hb, hml, hown, hts⟩ (cc_X9_fails l G had h) (⟨callB_of 1 hts ggX9_separator_X9_fails rfl rfl rfl (hts (.initialized RX9) (by decide +kernel)) (hts (.methodLink RX9 84 yX9_fails) (by decide +kernel)) (by decide +kernel) ⟨Nat.le_of_ble_eq_true rfl, Nat.le_of_ble_eq_true rfl⟩, hts (.instanceMethod yX9_fails) (by decide +kernel), hts (.selects RX9 yX9_fails yX9_fails) (by decide +kernel)⟩) rfl mf_obj hK hZ hF hS hA rfl hl.1 rfl (Nat.le_of_ble_eq_true rfl) dX9_separator_53 ⟨Nat.zero_le _, Nat.zero_le _⟩ (fun r_1 f9 H locs h hF hS => ?_)
    obtain ⟨n_3, g_4, rfl, h⟩ := h
    exact W.iret (v := r_1) hx hb hr (fun t ht hW => ⟨⟨r_1, (mf mo ad n_3 g_4), rfl, ⟨_, _, rfl, h⟩, by rw [ht]; exact hF, FK.moved hW.alike hK⟩, hS.F ht⟩) hS.2.2 dX9_separator_56
  have L90 : ∀ (y5 : Int32) (j9 : Nat) (y6 : Int32) (n : Nat → Int32) (g : Nat → Nat → Int32) (H : Heap) (locs : List Loc) (ls : Array Slot), loopW (wp_X9_separator_90 y5 K ) j9 (y6, n, g) → Fw G A (mf mo ad n g) H → va_S A s.heap H locs → lv_has ls 7 [(0, .ref mo), (5, .int y5), (6, .int y6)] → W p l e ({ frames := 3, cells := 0, slots := 0, locals := 69 } : Room) s m ([.ref mo, .int x1, .int x2, .int x3] : List Value).toArray below meth c H locs 0 0 (MQ below (va_Qi (fun r f9 => ∃ n9 g9, f9 = mf mo ad n9 g9 ∧ K r n9 g9 : Int32 → FT → Prop) (FB G A) A) ([.ref mo, .int x1, .int x2, .int x3] : List Value).toArray s 0 0 A) (F0 m 90 ls []) := by
    intro y5 j9
    induction j9 with
    | zero => intro y6 n g H locs ls h; exact h.elim
    | succ j9 ih90 =>
      intro y6 n g H locs ls h hF hS hl
      have h : wp_X9_separator_90 y5 K  (loopW (wp_X9_separator_90 y5 K ) j9) (y6, n, g) := h
      generalize loopW (wp_X9_separator_90 y5 K ) j9 = C90 at ih90 h
      unfold wp_X9_separator_90 at h
      refine lv_iload hx hb dX9_separator_90 (lv_at hl 2 rfl) ?_
      refine lv_aload_n hx hb dX9_separator_92 rfl (lv_at hl 0 rfl) ?_
      refine fw_get (C := RX9) (T := TX9) (N := 34) hx hb hts hin_X9 hown hK hF mf_obj rfl 1 (by decide) (hts (.fieldLink RX9 88 "FrontCodedIndexModel" "keySize" "I") (by decide +kernel)) (fun _ h9 => h9) rfl dX9_separator_93 ?_
      obtain ⟨h1, h2⟩ := h
      refine lv_icmp_ge (tgt := 125) hx hb dX9_separator_96 (by decide) (fun c_5 => ?_) (fun c_5 => ?_)
      · have h := h1 c_5
        refine lv_aload_n hx hb dX9_separator_125 rfl (lv_at hl 0 rfl) ?_
        refine lv_aload_n hx hb dX9_separator_126 rfl (lv_at hl 0 rfl) ?_
        refine fw_get (C := RX9) (T := TX9) (N := 34) hx hb hts hin_X9 hown hK hF mf_obj rfl 1 (by decide) (hts (.fieldLink RX9 88 "FrontCodedIndexModel" "keySize" "I") (by decide +kernel)) (fun _ h9 => h9) rfl dX9_separator_127 ?_
        refine fw_cV_i (As := [.int (n 1)]) (rest := []) ⟨hx, hb, hml, hown, hts⟩ (cc_X9_done l G had h) (⟨callB_of 1 hts ggX9_separator_X9_done rfl rfl rfl (hts (.initialized RX9) (by decide +kernel)) (hts (.methodLink RX9 91 yX9_done) (by decide +kernel)) (by decide +kernel) ⟨Nat.le_of_ble_eq_true rfl, Nat.le_of_ble_eq_true rfl⟩, hts (.instanceMethod yX9_done) (by decide +kernel), hts (.selects RX9 yX9_done yX9_done) (by decide +kernel)⟩) rfl mf_obj hK hZ hF hS hA rfl hl.1 rfl (Nat.le_of_ble_eq_true rfl) dX9_separator_130 ⟨Nat.zero_le _, Nat.zero_le _⟩ (fun r_6 f9 H locs h hF hS => ?_)
        obtain ⟨n_8, g_9, rfl, h⟩ := h
        exact W.iret (v := r_6) hx hb hr (fun t ht hW => ⟨⟨r_6, (mf mo ad n_8 g_9), rfl, ⟨_, _, rfl, h⟩, by rw [ht]; exact hF, FK.moved hW.alike hK⟩, hS.F ht⟩) hS.2.2 dX9_separator_133
      · have h := h2 c_5
        refine lv_aload_n hx hb dX9_separator_99 rfl (lv_at hl 0 rfl) ?_
        refine fw_get (C := RX9) (T := TX9) (N := 34) hx hb hts hin_X9 hown hK hF mf_obj rfl 2 (by decide) (hts (.fieldLink RX9 7 "FrontCodedIndexModel" "key" "[I") (by decide +kernel)) (fun _ h9 => h9) rfl dX9_separator_100 ?_
        refine lv_iload hx hb dX9_separator_103 (lv_at hl 2 rfl) ?_
        refine lv_aload_n hx hb dX9_separator_105 rfl (lv_at hl 0 rfl) ?_
        refine fw_get (C := RX9) (T := TX9) (N := 34) hx hb hts hin_X9 hown hK hF mf_obj rfl 17 (by decide) (hts (.fieldLink RX9 41 "FrontCodedIndexModel" "sep" "[I") (by decide +kernel)) (fun _ h9 => h9) rfl dX9_separator_106 ?_
        refine lv_bipush (v := (12 : Int32)) hx hb dX9_separator_109 (by decide) ?_
        refine lv_iload hx hb dX9_separator_111 (lv_at hl 1 rfl) ?_
        refine lv_imul hx hb dX9_separator_113 ?_
        refine lv_iload hx hb dX9_separator_114 (lv_at hl 2 rfl) ?_
        refine lv_iadd hx hb dX9_separator_116 ?_
        obtain ⟨hi_i_10, h⟩ := h
        refine fw_iald hx hb hK hF (mf_arr had 17 (by decide)) hi_i_10 dX9_separator_117 ?_
        refine lv_topi (fun v_11 e_v_11 => ?_)
        have h := h v_11 e_v_11
        obtain ⟨hi_i_12, h⟩ := h
        refine fw_iast hx hb hK hF hS (mf_arr had 2 (by decide)) hi_i_12 dX9_separator_118 (fun H locs hF hS => ?_)
        rw [mf_st had 2 (by decide)] at hF
        obtain ⟨g_13, hg_g_13⟩ : ∃ z, z = mup g 2 (y6).toNatClampNeg v_11 := ⟨_, rfl⟩
        rw [← hg_g_13] at hF; have h := h g_13 hg_g_13
        obtain ⟨v_14, e_15⟩ : ∃ y : Int32, y = y6 + 1 := ⟨_, rfl⟩
        have h := h v_14 e_15
        refine lv_iinc (v := v_14) (lv' := [(6, .int v_14), (0, .ref mo), (5, .int y5)]) hx hb dX9_separator_119 hl (k := 2) rfl (by rw [e_15]; rfl) (by decide) rfl (fun ls hl => ?_)
        refine lv_goto (tgt := 90) hx hb dX9_separator_122 (by decide) ?_
        exact ih90 v_14 n g_13 _ _ _ h hF hS (lv_sub hl [1, 2, 0] rfl)
  have hl := lv_entry ([.ref mo, .int x1, .int x2, .int x3]) (n := 7) (Nat.le_of_ble_eq_true rfl)
  rw [lg_entry_eq]
  generalize (lg_sl ([.ref mo, .int x1, .int x2, .int x3]) ++ List.replicate (7 - (lg_sl ([.ref mo, .int x1, .int x2, .int x3])).length) Slot.unset).toArray = ls at hl ⊢
  have hl : lv_has ls 7 [(0, .ref mo), (1, .int x1), (2, .int x2), (3, .int x3)] := hl
  unfold wp_X9_separator at h
  refine lv_aload_n hx hb dX9_separator_0 rfl (lv_at hl 0 rfl) ?_
  refine lv_iload_n hx hb dX9_separator_1 rfl (lv_at hl 1 rfl) ?_
  refine lv_iload_n hx hb dX9_separator_2 rfl (lv_at hl 2 rfl) ?_
  refine fw_cV_i_p (As := [.int x1, .int x2]) (rest := []) ⟨hx, hb, hml, hown, hts⟩ (cc_X9_isPage l G had h) (⟨callB_of 2 hts ggX9_separator_X9_isPage rfl rfl rfl (hts (.initialized RX9) (by decide +kernel)) (hts (.methodLink RX9 210 yX9_isPage) (by decide +kernel)) (by decide +kernel) ⟨Nat.le_of_ble_eq_true rfl, Nat.le_of_ble_eq_true rfl⟩, hts (.instanceMethod yX9_isPage) (by decide +kernel), hts (.selects RX9 yX9_isPage yX9_isPage) (by decide +kernel)⟩) rfl mf_obj hK hZ hF hS hA rfl hl.1 rfl (Nat.le_of_ble_eq_true rfl) dX9_separator_3 ⟨Nat.zero_le _, Nat.zero_le _⟩ (fun r_16 H locs h hF hS => ?_)
  obtain ⟨h1, h2⟩ := h
  refine lv_if_ne (tgt := 15) hx hb dX9_separator_6 (by decide) (fun c_17 => ?_) (fun c_17 => ?_)
  · have h := h1 c_17
    refine lv_aload_n hx hb dX9_separator_15 rfl (lv_at hl 0 rfl) ?_
    refine fw_get (C := RX9) (T := TX9) (N := 34) hx hb hts hin_X9 hown hK hF mf_obj rfl 13 (by decide) (hts (.fieldLink RX9 29 "FrontCodedIndexModel" "levels" "I") (by decide +kernel)) (fun _ h9 => h9) rfl dX9_separator_16 ?_
    refine lv_iconst (v := (1 : Int32)) hx hb dX9_separator_19 (by decide) ?_
    refine lv_isub hx hb dX9_separator_20 ?_
    refine lv_iload_n hx hb dX9_separator_21 rfl (lv_at hl 1 rfl) ?_
    refine lv_isub hx hb dX9_separator_22 ?_
    refine lv_topi (fun v_18 e_19 => ?_)
    have h := h v_18 e_19
    refine lv_istore (lv' := [(4, .int v_18), (0, .ref mo), (1, .int x1), (2, .int x2), (3, .int x3)]) hx hb dX9_separator_23 hl (by decide) rfl (fun ls hl => ?_)
    refine lv_iload hx hb dX9_separator_25 (lv_at hl 0 rfl) ?_
    obtain ⟨h1, h2⟩ := h
    refine lv_if_eq (tgt := 51) hx hb dX9_separator_27 (by decide) (fun c_20 => ?_) (fun c_20 => ?_)
    · have h := h1 c_20
      exact J51 n g _ _ _ h hF hS (lv_sub hl [1] rfl)
    · have h := h2 c_20
      refine lv_iload_n hx hb dX9_separator_30 rfl (lv_at hl 4 rfl) ?_
      refine lv_iconst (v := (0 : Int32)) hx hb dX9_separator_31 (by decide) ?_
      refine lv_aload_n hx hb dX9_separator_32 rfl (lv_at hl 1 rfl) ?_
      refine fw_get (C := RX9) (T := TX9) (N := 34) hx hb hts hin_X9 hown hK hF mf_obj rfl 15 (by decide) (hts (.fieldLink RX9 35 "FrontCodedIndexModel" "parts" "[I") (by decide +kernel)) (fun _ h9 => h9) rfl dX9_separator_33 ?_
      refine lv_iload hx hb dX9_separator_36 (lv_at hl 0 rfl) ?_
      refine lv_iload_n hx hb dX9_separator_38 rfl (lv_at hl 3 rfl) ?_
      refine fw_cS_i_p (As := [.int v_18, .int x2]) (rest := [.ref (ad 15), .int (0 : Int32), .int x3]) ⟨hx, hb, hml, hown, hts⟩ (cc_X9_at l G had h) (⟨callB_of 2 hts ggX9_separator_X9_at rfl rfl rfl (hts (.initialized RX9) (by decide +kernel)) (hts (.methodLink RX9 113 yX9_at) (by decide +kernel)) (by decide +kernel) ⟨Nat.le_of_ble_eq_true rfl, Nat.le_of_ble_eq_true rfl⟩, hts (.static yX9_at) (by decide +kernel)⟩) hK hZ hF hS hA rfl hl.1 rfl (Nat.le_of_ble_eq_true rfl) dX9_separator_39 ⟨Nat.zero_le _, Nat.zero_le _⟩ (fun r_21 H locs h hF hS => ?_)
      obtain ⟨hi_i_22, h⟩ := h
      refine fw_iald hx hb hK hF (mf_arr had 15 (by decide)) hi_i_22 dX9_separator_42 ?_
      refine lv_topi (fun v_23 e_v_23 => ?_)
      have h := h v_23 e_v_23
      refine lv_iconst (v := (2 : Int32)) hx hb dX9_separator_43 (by decide) ?_
      refine lv_isub hx hb dX9_separator_44 ?_
      refine fw_cS_i_p (As := [.int x3, .int (0 : Int32), .int (v_23 - (2 : Int32))]) (rest := []) ⟨hx, hb, hml, hown, hts⟩ (cc_X9_in l G had h) (⟨callB_of 3 hts ggX9_separator_X9_in rfl rfl rfl (hts (.initialized RX9) (by decide +kernel)) (hts (.methodLink RX9 80 yX9_in) (by decide +kernel)) (by decide +kernel) ⟨Nat.le_of_ble_eq_true rfl, Nat.le_of_ble_eq_true rfl⟩, hts (.static yX9_in) (by decide +kernel)⟩) hK hZ hF hS hA rfl hl.1 rfl (Nat.le_of_ble_eq_true rfl) dX9_separator_45 ⟨Nat.zero_le _, Nat.zero_le _⟩ (fun r_24 H locs h hF hS => ?_)
      obtain ⟨h1, h2⟩ := h
      refine lv_if_ne (tgt := 57) hx hb dX9_separator_48 (by decide) (fun c_25 => ?_) (fun c_25 => ?_)
      · have h := h1 c_25
        refine lv_aload_n hx hb dX9_separator_57 rfl (lv_at hl 1 rfl) ?_
        refine lv_iload hx hb dX9_separator_58 (lv_at hl 0 rfl) ?_
        refine lv_iconst (v := (1 : Int32)) hx hb dX9_separator_60 (by decide) ?_
        refine lv_isub hx hb dX9_separator_61 ?_
        refine lv_aload_n hx hb dX9_separator_62 rfl (lv_at hl 1 rfl) ?_
        refine lv_iload hx hb dX9_separator_63 (lv_at hl 0 rfl) ?_
        refine lv_iload_n hx hb dX9_separator_65 rfl (lv_at hl 3 rfl) ?_
        refine fw_cV_i_p (As := [.int v_18, .int x2]) (rest := [.int (v_18 - (1 : Int32)), .ref mo]) ⟨hx, hb, hml, hown, hts⟩ (cc_X9_firstOf l G had h) (⟨callB_of 2 hts ggX9_separator_X9_firstOf rfl rfl rfl (hts (.initialized RX9) (by decide +kernel)) (hts (.methodLink RX9 117 yX9_firstOf) (by decide +kernel)) (by decide +kernel) ⟨Nat.le_of_ble_eq_true rfl, Nat.le_of_ble_eq_true rfl⟩, hts (.instanceMethod yX9_firstOf) (by decide +kernel), hts (.selects RX9 yX9_firstOf yX9_firstOf) (by decide +kernel)⟩) rfl mf_obj hK hZ hF hS hA rfl hl.1 rfl (Nat.le_of_ble_eq_true rfl) dX9_separator_66 ⟨Nat.zero_le _, Nat.zero_le _⟩ (fun r_26 H locs h hF hS => ?_)
        refine lv_iload_n hx hb dX9_separator_69 rfl (lv_at hl 4 rfl) ?_
        refine lv_iadd hx hb dX9_separator_70 ?_
        refine fw_cV_i_p (As := [.int (v_18 - (1 : Int32)), .int (r_26 + x3)]) (rest := []) ⟨hx, hb, hml, hown, hts⟩ (cc_X9_lastLeaf l G had h) (⟨callB_of 2 hts ggX9_separator_X9_lastLeaf rfl rfl rfl (hts (.initialized RX9) (by decide +kernel)) (hts (.methodLink RX9 120 yX9_lastLeaf) (by decide +kernel)) (by decide +kernel) ⟨Nat.le_of_ble_eq_true rfl, Nat.le_of_ble_eq_true rfl⟩, hts (.instanceMethod yX9_lastLeaf) (by decide +kernel), hts (.selects RX9 yX9_lastLeaf yX9_lastLeaf) (by decide +kernel)⟩) rfl mf_obj hK hZ hF hS hA rfl hl.1 rfl (Nat.le_of_ble_eq_true rfl) dX9_separator_71 ⟨Nat.zero_le _, Nat.zero_le _⟩ (fun r_27 H locs h hF hS => ?_)
        refine lv_istore (lv' := [(5, .int r_27), (4, .int v_18), (0, .ref mo), (1, .int x1), (2, .int x2), (3, .int x3)]) hx hb dX9_separator_74 hl (by decide) rfl (fun ls hl => ?_)
        refine lv_aload_n hx hb dX9_separator_76 rfl (lv_at hl 2 rfl) ?_
        refine lv_aload_n hx hb dX9_separator_77 rfl (lv_at hl 2 rfl) ?_
        refine fw_get (C := RX9) (T := TX9) (N := 34) hx hb hts hin_X9 hown hK hF mf_obj rfl 16 (by decide) (hts (.fieldLink RX9 38 "FrontCodedIndexModel" "sepSize" "[I") (by decide +kernel)) (fun _ h9 => h9) rfl dX9_separator_78 ?_
        refine lv_iload hx hb dX9_separator_81 (lv_at hl 0 rfl) ?_
        obtain ⟨hi_i_28, h⟩ := h
        refine fw_iald hx hb hK hF (mf_arr had 16 (by decide)) hi_i_28 dX9_separator_83 ?_
        refine lv_topi (fun v_29 e_v_29 => ?_)
        have h := h v_29 e_v_29
        refine fw_put (v := .int v_29) (ty := .int) (C := RX9) (T := TX9) (N := 34) hx hb hts hin_X9 tyX9 tyX9_ok nmX9 hown hK hF hS mf_obj rfl 1 (by decide) (hts (.fieldLink RX9 88 "FrontCodedIndexModel" "keySize" "I") (by decide +kernel)) (fun _ h9 => h9) rfl (by decide +kernel) rfl rfl (show 1 < 34 by decide) dX9_separator_84 (fun H locs hF hS => ?_)
        rw [mf_put 1 v_29 rfl] at hF
        obtain ⟨n_30, hn_n_30⟩ : ∃ z, z = upd n 1 v_29 := ⟨_, rfl⟩
        rw [← hn_n_30] at hF; have h := h n_30 hn_n_30
        refine lv_iconst (v := (0 : Int32)) hx hb dX9_separator_87 (by decide) ?_
        refine lv_istore (lv' := [(6, .int (0 : Int32)), (5, .int r_27), (4, .int v_18), (0, .ref mo), (1, .int x1), (2, .int x2), (3, .int x3)]) hx hb dX9_separator_88 hl (by decide) rfl (fun ls hl => ?_)
        obtain ⟨n_31, h⟩ := h
        exact L90 r_27 n_31 (0 : Int32) n_30 g _ _ _ h hF hS (lv_sub hl [3, 1, 0] rfl)
      · have h := h2 c_25
        exact J51 n g _ _ _ h hF hS (lv_sub hl [1] rfl)
  · have h := h2 c_17
    refine lv_aload_n hx hb dX9_separator_9 rfl (lv_at hl 0 rfl) ?_
    refine lv_iconst (v := (1 : Int32)) hx hb dX9_separator_10 (by decide) ?_
    refine fw_cV_i (As := [.int (1 : Int32)]) (rest := []) ⟨hx, hb, hml, hown, hts⟩ (cc_X9_fails l G had h) (⟨callB_of 1 hts ggX9_separator_X9_fails rfl rfl rfl (hts (.initialized RX9) (by decide +kernel)) (hts (.methodLink RX9 84 yX9_fails) (by decide +kernel)) (by decide +kernel) ⟨Nat.le_of_ble_eq_true rfl, Nat.le_of_ble_eq_true rfl⟩, hts (.instanceMethod yX9_fails) (by decide +kernel), hts (.selects RX9 yX9_fails yX9_fails) (by decide +kernel)⟩) rfl mf_obj hK hZ hF hS hA rfl hl.1 rfl (Nat.le_of_ble_eq_true rfl) dX9_separator_11 ⟨Nat.zero_le _, Nat.zero_le _⟩ (fun r_32 f9 H locs h hF hS => ?_)
    obtain ⟨n_34, g_35, rfl, h⟩ := h
    exact W.iret (v := r_32) hx hb hr (fun t ht hW => ⟨⟨r_32, (mf mo ad n_34 g_35), rfl, ⟨_, _, rfl, h⟩, by rw [ht]; exact hF, FK.moved hW.alike hK⟩, hS.F ht⟩) hS.2.2 dX9_separator_14
theorem dX9_setCapacity_0 : decode cX9_setCapacity 0 = .ok (.iload_n 1, 1) := by decide +kernel
theorem dX9_setCapacity_1 : decode cX9_setCapacity 1 = .ok (.bipush 64, 2) := by decide +kernel
theorem dX9_setCapacity_3 : decode cX9_setCapacity 3 = .ok (.sipush 200, 3) := by decide +kernel
theorem dX9_setCapacity_6 : decode cX9_setCapacity 6 = .ok (.invokestatic 80, 3) := by decide +kernel
theorem dX9_setCapacity_9 : decode cX9_setCapacity 9 = .ok (.ifCond .ne 9, 3) := by decide +kernel
theorem dX9_setCapacity_12 : decode cX9_setCapacity 12 = .ok (.aload_n 0, 1) := by decide +kernel
theorem dX9_setCapacity_13 : decode cX9_setCapacity 13 = .ok (.iconst 1, 1) := by decide +kernel
theorem dX9_setCapacity_14 : decode cX9_setCapacity 14 = .ok (.invokevirtual 84, 3) := by decide +kernel
theorem dX9_setCapacity_17 : decode cX9_setCapacity 17 = .ok (.ireturn, 1) := by decide +kernel
theorem dX9_setCapacity_18 : decode cX9_setCapacity 18 = .ok (.aload_n 0, 1) := by decide +kernel
theorem dX9_setCapacity_19 : decode cX9_setCapacity 19 = .ok (.getfield 106, 3) := by decide +kernel
theorem dX9_setCapacity_22 : decode cX9_setCapacity 22 = .ok (.ifCond .le 9, 3) := by decide +kernel
theorem dX9_setCapacity_25 : decode cX9_setCapacity 25 = .ok (.aload_n 0, 1) := by decide +kernel
theorem dX9_setCapacity_26 : decode cX9_setCapacity 26 = .ok (.iconst 2, 1) := by decide +kernel
theorem dX9_setCapacity_27 : decode cX9_setCapacity 27 = .ok (.invokevirtual 84, 3) := by decide +kernel
theorem dX9_setCapacity_30 : decode cX9_setCapacity 30 = .ok (.ireturn, 1) := by decide +kernel
theorem dX9_setCapacity_31 : decode cX9_setCapacity 31 = .ok (.aload_n 0, 1) := by decide +kernel
theorem dX9_setCapacity_32 : decode cX9_setCapacity 32 = .ok (.getfield 16, 3) := by decide +kernel
theorem dX9_setCapacity_35 : decode cX9_setCapacity 35 = .ok (.istore_n 2, 1) := by decide +kernel
theorem dX9_setCapacity_36 : decode cX9_setCapacity 36 = .ok (.aload_n 0, 1) := by decide +kernel
theorem dX9_setCapacity_37 : decode cX9_setCapacity 37 = .ok (.iload_n 1, 1) := by decide +kernel
theorem dX9_setCapacity_38 : decode cX9_setCapacity 38 = .ok (.putfield 16, 3) := by decide +kernel
theorem dX9_setCapacity_41 : decode cX9_setCapacity 41 = .ok (.aload_n 0, 1) := by decide +kernel
theorem dX9_setCapacity_42 : decode cX9_setCapacity 42 = .ok (.iload_n 2, 1) := by decide +kernel
theorem dX9_setCapacity_43 : decode cX9_setCapacity 43 = .ok (.invokevirtual 91, 3) := by decide +kernel
theorem dX9_setCapacity_46 : decode cX9_setCapacity 46 = .ok (.ireturn, 1) := by decide +kernel
set_option maxRecDepth 20000 in
theorem ggX9_setCapacity_X9_done : GoodIn wsX9_setCapacity wsX9_done := goodIn_r _ [15, 11, 16, 17, 18, 19, 20, 21, 22, 23, 24, 25, 26, 27, 28, 29, 30, 31, 32, 33, 34, 35, 36, 37, 38, 39, 40, 41, 42, 43, 44, 45, 46, 47, 48, 49] (by decide +kernel) (by decide +kernel)
set_option maxRecDepth 20000 in
theorem ggX9_setCapacity_X9_fails : GoodIn wsX9_setCapacity wsX9_fails := goodIn_r _ [10, 11, 16, 17, 18, 19, 20, 21, 22, 23, 24, 25, 26, 27, 28, 29, 30, 31, 32, 33, 34, 35, 36, 37, 38, 39, 40, 41, 42, 43, 44, 45, 46, 47, 48, 49] (by decide +kernel) (by decide +kernel)
set_option maxRecDepth 20000 in
theorem ggX9_setCapacity_X9_in : GoodIn wsX9_setCapacity wsX9_in := goodIn_r _ [6] (by decide +kernel) (by decide +kernel)
def wp_X9_setCapacity (x1 : Int32) (n : Nat → Int32) (g : Nat → Nat → Int32) (K : Int32 → (Nat → Int32) → (Nat → Nat → Int32) → Prop) : Prop :=
  wp_X9_in x1 (64 : Int32) (200 : Int32) n g (fun r_1 => ((¬ r_1 = (0 : Int32) → (((n 9) ≤ (0 : Int32) → ∀ v_4 : Int32, v_4 = (n 5) → ∀ n_6 : Nat → Int32, n_6 = upd n 5 x1 → wp_X9_done v_4 n_6 g (fun r_7 n_9 g_10 => K r_7 n_9 g_10)) ∧
 (¬ ((n 9) ≤ (0 : Int32)) → wp_X9_fails (2 : Int32) n g (fun r_11 n_13 g_14 => K r_11 n_13 g_14)))) ∧
 (r_1 = (0 : Int32) → wp_X9_fails (1 : Int32) n g (fun r_15 n_17 g_18 => K r_15 n_17 g_18))))
set_option maxHeartbeats 4000000 in
set_option maxRecDepth 100000 in
theorem cc_X9_setCapacity (l : Launch) (G : GG) {mo : Nat} {ad : Nat → Nat} (had : MAd mo ad) {n : Nat → Int32} {g : Nat → Nat → Int32} {sz : Nat} {x1 : Int32} {K : Int32 → (Nat → Int32) → (Nat → Nat → Int32) → Prop} (h : wp_X9_setCapacity x1 n g K) : Met l yX9_setCapacity wsX9_setCapacity ({ frames := 1, cells := 0, slots := 0, locals := 22 } : Room) (FP G [.ref mo, .int x1] (mf mo ad n g) sz) (va_Qi (fun r f9 => ∃ n9 g9, f9 = mf mo ad n9 g9 ∧ K r n9 g9 : Int32 → FT → Prop) (FB G (fA (mf mo ad n g) sz)) (fA (mf mo ad n g) sz)) 0 0 (fA (mf mo ad n g) sz) := by
  refine Met.ofW (cc := cX9_setCapacity) (maxL := 3) (ret := (some .int)) (by decide) rfl ?_
  intro p e s m args below meth c s₁ B hml hv
  obtain ⟨rfl, hsz, hF, hK, hZ⟩ := hv
  have hx := B.exec
  have hb := B.bytes
  have hr := B.returns
  have hts := atoms_spec (ws := wsX9_setCapacity) B.pre
  have hown : s.vm.findClass RX9 = some m.cls := findClass_of_methodNamed B.named
  have hlocks := B.notSynchronized
  subst hsz
  have hF := hF.self (sz := s.heap.size)
  generalize hAe : fA (mf mo ad n g) s.heap.size = A at hF hZ ⊢
  have hA : ∀ q : Nat, s.heap.size ≤ q → A q := fun q h => by rw [← hAe]; exact Or.inr h
  have hS : va_S A s.heap s.heap [] := va_S.rf
  have hin_X9 : ∀ w ∈ wsX90, w ∈ wsX9_setCapacity := by decide +kernel
  have hl := lv_entry ([.ref mo, .int x1]) (n := 3) (Nat.le_of_ble_eq_true rfl)
  rw [lg_entry_eq]
  generalize (lg_sl ([.ref mo, .int x1]) ++ List.replicate (3 - (lg_sl ([.ref mo, .int x1])).length) Slot.unset).toArray = ls at hl ⊢
  have hl : lv_has ls 3 [(0, .ref mo), (1, .int x1)] := hl
  unfold wp_X9_setCapacity at h
  refine lv_iload_n hx hb dX9_setCapacity_0 rfl (lv_at hl 1 rfl) ?_
  refine lv_bipush (v := (64 : Int32)) hx hb dX9_setCapacity_1 (by decide) ?_
  refine lv_sipush (v := (200 : Int32)) hx hb dX9_setCapacity_3 (by decide) ?_
  refine fw_cS_i_p (As := [.int x1, .int (64 : Int32), .int (200 : Int32)]) (rest := []) ⟨hx, hb, hml, hown, hts⟩ (cc_X9_in l G had h) (⟨callB_of 3 hts ggX9_setCapacity_X9_in rfl rfl rfl (hts (.initialized RX9) (by decide +kernel)) (hts (.methodLink RX9 80 yX9_in) (by decide +kernel)) (by decide +kernel) ⟨Nat.le_of_ble_eq_true rfl, Nat.le_of_ble_eq_true rfl⟩, hts (.static yX9_in) (by decide +kernel)⟩) hK hZ hF hS hA rfl hl.1 rfl (Nat.le_of_ble_eq_true rfl) dX9_setCapacity_6 ⟨Nat.zero_le _, Nat.zero_le _⟩ (fun r_1 H locs h hF hS => ?_)
  obtain ⟨h1, h2⟩ := h
  refine lv_if_ne (tgt := 18) hx hb dX9_setCapacity_9 (by decide) (fun c_2 => ?_) (fun c_2 => ?_)
  · have h := h1 c_2
    refine lv_aload_n hx hb dX9_setCapacity_18 rfl (lv_at hl 0 rfl) ?_
    refine fw_get (C := RX9) (T := TX9) (N := 34) hx hb hts hin_X9 hown hK hF mf_obj rfl 9 (by decide) (hts (.fieldLink RX9 106 "FrontCodedIndexModel" "entries" "I") (by decide +kernel)) (fun _ h9 => h9) rfl dX9_setCapacity_19 ?_
    obtain ⟨h1, h2⟩ := h
    refine lv_if_le (tgt := 31) hx hb dX9_setCapacity_22 (by decide) (fun c_3 => ?_) (fun c_3 => ?_)
    · have h := h1 c_3
      refine lv_aload_n hx hb dX9_setCapacity_31 rfl (lv_at hl 0 rfl) ?_
      refine fw_get (C := RX9) (T := TX9) (N := 34) hx hb hts hin_X9 hown hK hF mf_obj rfl 5 (by decide) (hts (.fieldLink RX9 16 "FrontCodedIndexModel" "capacity" "I") (by decide +kernel)) (fun _ h9 => h9) rfl dX9_setCapacity_32 ?_
      refine lv_topi (fun v_4 e_5 => ?_)
      have h := h v_4 e_5
      refine lv_istore_n (lv' := [(2, .int v_4), (0, .ref mo), (1, .int x1)]) hx hb dX9_setCapacity_35 rfl hl (by decide) rfl (fun ls hl => ?_)
      refine lv_aload_n hx hb dX9_setCapacity_36 rfl (lv_at hl 1 rfl) ?_
      refine lv_iload_n hx hb dX9_setCapacity_37 rfl (lv_at hl 2 rfl) ?_
      refine fw_put (v := .int x1) (ty := .int) (C := RX9) (T := TX9) (N := 34) hx hb hts hin_X9 tyX9 tyX9_ok nmX9 hown hK hF hS mf_obj rfl 5 (by decide) (hts (.fieldLink RX9 16 "FrontCodedIndexModel" "capacity" "I") (by decide +kernel)) (fun _ h9 => h9) rfl (by decide +kernel) rfl rfl (show 5 < 34 by decide) dX9_setCapacity_38 (fun H locs hF hS => ?_)
      rw [mf_put 5 x1 rfl] at hF
      obtain ⟨n_6, hn_n_6⟩ : ∃ z, z = upd n 5 x1 := ⟨_, rfl⟩
      rw [← hn_n_6] at hF; have h := h n_6 hn_n_6
      refine lv_aload_n hx hb dX9_setCapacity_41 rfl (lv_at hl 1 rfl) ?_
      refine lv_iload_n hx hb dX9_setCapacity_42 rfl (lv_at hl 0 rfl) ?_
      refine fw_cV_i (As := [.int v_4]) (rest := []) ⟨hx, hb, hml, hown, hts⟩ (cc_X9_done l G had h) (⟨callB_of 1 hts ggX9_setCapacity_X9_done rfl rfl rfl (hts (.initialized RX9) (by decide +kernel)) (hts (.methodLink RX9 91 yX9_done) (by decide +kernel)) (by decide +kernel) ⟨Nat.le_of_ble_eq_true rfl, Nat.le_of_ble_eq_true rfl⟩, hts (.instanceMethod yX9_done) (by decide +kernel), hts (.selects RX9 yX9_done yX9_done) (by decide +kernel)⟩) rfl mf_obj hK hZ hF hS hA rfl hl.1 rfl (Nat.le_of_ble_eq_true rfl) dX9_setCapacity_43 ⟨Nat.zero_le _, Nat.zero_le _⟩ (fun r_7 f9 H locs h hF hS => ?_)
      obtain ⟨n_9, g_10, rfl, h⟩ := h
      exact W.iret (v := r_7) hx hb hr (fun t ht hW => ⟨⟨r_7, (mf mo ad n_9 g_10), rfl, ⟨_, _, rfl, h⟩, by rw [ht]; exact hF, FK.moved hW.alike hK⟩, hS.F ht⟩) hS.2.2 dX9_setCapacity_46
    · have h := h2 c_3
      refine lv_aload_n hx hb dX9_setCapacity_25 rfl (lv_at hl 0 rfl) ?_
      refine lv_iconst (v := (2 : Int32)) hx hb dX9_setCapacity_26 (by decide) ?_
      refine fw_cV_i (As := [.int (2 : Int32)]) (rest := []) ⟨hx, hb, hml, hown, hts⟩ (cc_X9_fails l G had h) (⟨callB_of 1 hts ggX9_setCapacity_X9_fails rfl rfl rfl (hts (.initialized RX9) (by decide +kernel)) (hts (.methodLink RX9 84 yX9_fails) (by decide +kernel)) (by decide +kernel) ⟨Nat.le_of_ble_eq_true rfl, Nat.le_of_ble_eq_true rfl⟩, hts (.instanceMethod yX9_fails) (by decide +kernel), hts (.selects RX9 yX9_fails yX9_fails) (by decide +kernel)⟩) rfl mf_obj hK hZ hF hS hA rfl hl.1 rfl (Nat.le_of_ble_eq_true rfl) dX9_setCapacity_27 ⟨Nat.zero_le _, Nat.zero_le _⟩ (fun r_11 f9 H locs h hF hS => ?_)
      obtain ⟨n_13, g_14, rfl, h⟩ := h
      exact W.iret (v := r_11) hx hb hr (fun t ht hW => ⟨⟨r_11, (mf mo ad n_13 g_14), rfl, ⟨_, _, rfl, h⟩, by rw [ht]; exact hF, FK.moved hW.alike hK⟩, hS.F ht⟩) hS.2.2 dX9_setCapacity_30
  · have h := h2 c_2
    refine lv_aload_n hx hb dX9_setCapacity_12 rfl (lv_at hl 0 rfl) ?_
    refine lv_iconst (v := (1 : Int32)) hx hb dX9_setCapacity_13 (by decide) ?_
    refine fw_cV_i (As := [.int (1 : Int32)]) (rest := []) ⟨hx, hb, hml, hown, hts⟩ (cc_X9_fails l G had h) (⟨callB_of 1 hts ggX9_setCapacity_X9_fails rfl rfl rfl (hts (.initialized RX9) (by decide +kernel)) (hts (.methodLink RX9 84 yX9_fails) (by decide +kernel)) (by decide +kernel) ⟨Nat.le_of_ble_eq_true rfl, Nat.le_of_ble_eq_true rfl⟩, hts (.instanceMethod yX9_fails) (by decide +kernel), hts (.selects RX9 yX9_fails yX9_fails) (by decide +kernel)⟩) rfl mf_obj hK hZ hF hS hA rfl hl.1 rfl (Nat.le_of_ble_eq_true rfl) dX9_setCapacity_14 ⟨Nat.zero_le _, Nat.zero_le _⟩ (fun r_15 f9 H locs h hF hS => ?_)
    obtain ⟨n_17, g_18, rfl, h⟩ := h
    exact W.iret (v := r_15) hx hb hr (fun t ht hW => ⟨⟨r_15, (mf mo ad n_17 g_18), rfl, ⟨_, _, rfl, h⟩, by rw [ht]; exact hF, FK.moved hW.alike hK⟩, hS.F ht⟩) hS.2.2 dX9_setCapacity_17
theorem dX9_setKey_0 : decode cX9_setKey 0 = .ok (.iload_n 3, 1) := by decide +kernel
theorem dX9_setKey_1 : decode cX9_setKey 1 = .ok (.iconst 0, 1) := by decide +kernel
theorem dX9_setKey_2 : decode cX9_setKey 2 = .ok (.bipush 8, 2) := by decide +kernel
theorem dX9_setKey_4 : decode cX9_setKey 4 = .ok (.invokestatic 80, 3) := by decide +kernel
theorem dX9_setKey_7 : decode cX9_setKey 7 = .ok (.ifCond .ne 9, 3) := by decide +kernel
theorem dX9_setKey_10 : decode cX9_setKey 10 = .ok (.aload_n 0, 1) := by decide +kernel
theorem dX9_setKey_11 : decode cX9_setKey 11 = .ok (.iconst 1, 1) := by decide +kernel
theorem dX9_setKey_12 : decode cX9_setKey 12 = .ok (.invokevirtual 84, 3) := by decide +kernel
theorem dX9_setKey_15 : decode cX9_setKey 15 = .ok (.ireturn, 1) := by decide +kernel
theorem dX9_setKey_16 : decode cX9_setKey 16 = .ok (.aload_n 0, 1) := by decide +kernel
theorem dX9_setKey_17 : decode cX9_setKey 17 = .ok (.iload_n 3, 1) := by decide +kernel
theorem dX9_setKey_18 : decode cX9_setKey 18 = .ok (.putfield 88, 3) := by decide +kernel
theorem dX9_setKey_21 : decode cX9_setKey 21 = .ok (.iconst 0, 1) := by decide +kernel
theorem dX9_setKey_22 : decode cX9_setKey 22 = .ok (.istore 4, 2) := by decide +kernel
theorem dX9_setKey_24 : decode cX9_setKey 24 = .ok (.iconst 0, 1) := by decide +kernel
theorem dX9_setKey_25 : decode cX9_setKey 25 = .ok (.istore 5, 2) := by decide +kernel
theorem dX9_setKey_27 : decode cX9_setKey 27 = .ok (.iload 5, 2) := by decide +kernel
theorem dX9_setKey_29 : decode cX9_setKey 29 = .ok (.iload_n 3, 1) := by decide +kernel
theorem dX9_setKey_30 : decode cX9_setKey 30 = .ok (.if_icmp .ge 52, 3) := by decide +kernel
theorem dX9_setKey_33 : decode cX9_setKey 33 = .ok (.aload_n 0, 1) := by decide +kernel
theorem dX9_setKey_34 : decode cX9_setKey 34 = .ok (.getfield 7, 3) := by decide +kernel
theorem dX9_setKey_37 : decode cX9_setKey 37 = .ok (.iload 5, 2) := by decide +kernel
theorem dX9_setKey_39 : decode cX9_setKey 39 = .ok (.lload_n 1, 1) := by decide +kernel
theorem dX9_setKey_40 : decode cX9_setKey 40 = .ok (.bipush 8, 2) := by decide +kernel
theorem dX9_setKey_42 : decode cX9_setKey 42 = .ok (.iload_n 3, 1) := by decide +kernel
theorem dX9_setKey_43 : decode cX9_setKey 43 = .ok (.iconst 1, 1) := by decide +kernel
theorem dX9_setKey_44 : decode cX9_setKey 44 = .ok (.isub, 1) := by decide +kernel
theorem dX9_setKey_45 : decode cX9_setKey 45 = .ok (.iload 5, 2) := by decide +kernel
theorem dX9_setKey_47 : decode cX9_setKey 47 = .ok (.isub, 1) := by decide +kernel
theorem dX9_setKey_48 : decode cX9_setKey 48 = .ok (.imul, 1) := by decide +kernel
theorem dX9_setKey_49 : decode cX9_setKey 49 = .ok (.lushr, 1) := by decide +kernel
theorem dX9_setKey_50 : decode cX9_setKey 50 = .ok (.ldc2_w 94, 3) := by decide +kernel
theorem dX9_setKey_53 : decode cX9_setKey 53 = .ok (.land, 1) := by decide +kernel
theorem dX9_setKey_54 : decode cX9_setKey 54 = .ok (.l2i, 1) := by decide +kernel
theorem dX9_setKey_55 : decode cX9_setKey 55 = .ok (.iastore, 1) := by decide +kernel
theorem dX9_setKey_56 : decode cX9_setKey 56 = .ok (.iload 4, 2) := by decide +kernel
theorem dX9_setKey_58 : decode cX9_setKey 58 = .ok (.aload_n 0, 1) := by decide +kernel
theorem dX9_setKey_59 : decode cX9_setKey 59 = .ok (.getfield 7, 3) := by decide +kernel
theorem dX9_setKey_62 : decode cX9_setKey 62 = .ok (.iload 5, 2) := by decide +kernel
theorem dX9_setKey_64 : decode cX9_setKey 64 = .ok (.iaload, 1) := by decide +kernel
theorem dX9_setKey_65 : decode cX9_setKey 65 = .ok (.ifCond .ne 7, 3) := by decide +kernel
theorem dX9_setKey_68 : decode cX9_setKey 68 = .ok (.iconst 1, 1) := by decide +kernel
theorem dX9_setKey_69 : decode cX9_setKey 69 = .ok (.goto 4, 3) := by decide +kernel
theorem dX9_setKey_72 : decode cX9_setKey 72 = .ok (.iconst 0, 1) := by decide +kernel
theorem dX9_setKey_73 : decode cX9_setKey 73 = .ok (.iadd, 1) := by decide +kernel
theorem dX9_setKey_74 : decode cX9_setKey 74 = .ok (.istore 4, 2) := by decide +kernel
theorem dX9_setKey_76 : decode cX9_setKey 76 = .ok (.iinc 5 1, 3) := by decide +kernel
theorem dX9_setKey_79 : decode cX9_setKey 79 = .ok (.goto (-52), 3) := by decide +kernel
theorem dX9_setKey_82 : decode cX9_setKey 82 = .ok (.aload_n 0, 1) := by decide +kernel
theorem dX9_setKey_83 : decode cX9_setKey 83 = .ok (.iload 4, 2) := by decide +kernel
theorem dX9_setKey_85 : decode cX9_setKey 85 = .ok (.invokevirtual 91, 3) := by decide +kernel
theorem dX9_setKey_88 : decode cX9_setKey 88 = .ok (.ireturn, 1) := by decide +kernel
set_option maxRecDepth 20000 in
theorem ggX9_setKey_X9_done : GoodIn wsX9_setKey wsX9_done := goodIn_r _ [16, 12, 17, 18, 19, 20, 21, 22, 23, 24, 25, 26, 27, 28, 29, 30, 31, 32, 33, 34, 35, 36, 37, 38, 39, 40, 41, 42, 43, 44, 45, 46, 47, 48, 49, 50] (by decide +kernel) (by decide +kernel)
set_option maxRecDepth 20000 in
theorem ggX9_setKey_X9_fails : GoodIn wsX9_setKey wsX9_fails := goodIn_r _ [11, 12, 17, 18, 19, 20, 21, 22, 23, 24, 25, 26, 27, 28, 29, 30, 31, 32, 33, 34, 35, 36, 37, 38, 39, 40, 41, 42, 43, 44, 45, 46, 47, 48, 49, 50] (by decide +kernel) (by decide +kernel)
set_option maxRecDepth 20000 in
theorem ggX9_setKey_X9_in : GoodIn wsX9_setKey wsX9_in := goodIn_r _ [7] (by decide +kernel) (by decide +kernel)
def wp_X9_setKey_73 (w1 : Int64) (x3 : Int32) (y5 : Int32) (z0 : Int32) (z1 : Int32) (n : Nat → Int32) (g : Nat → Nat → Int32) (K : Int32 → (Nat → Int32) → (Nat → Nat → Int32) → Prop) (C27 : Int32 × Int32 × (Nat → Int32) × (Nat → Nat → Int32) → Prop) : Prop :=
  ∀ v_1 : Int32, v_1 = (z1 + z0) → ∀ v_3 : Int32, v_3 = y5 + 1 → C27 (v_1, v_3, n, g)
def wp_X9_setKey_27 (w1 : Int64) (x3 : Int32) (K : Int32 → (Nat → Int32) → (Nat → Nat → Int32) → Prop)  (C27 : Int32 × Int32 × (Nat → Int32) × (Nat → Nat → Int32) → Prop) : Int32 × Int32 × (Nat → Int32) × (Nat → Nat → Int32) → Prop := fun s9 => match s9 with
  | (y4, y5, n, g) => ((x3 ≤ y5 → wp_X9_done y4 n g (fun r_6 n_8 g_9 => K r_6 n_8 g_9)) ∧
 (¬ (x3 ≤ y5) → vp_in y5 (mlen 2) ∧ ∀ g_11 : Nat → Nat → Int32, g_11 = mup g 2 (y5).toNatClampNeg (Int64.toInt32 ((lushr w1 ((8 : Int32) * ((x3 - (1 : Int32)) - y5))) &&& (127 : Int64))) → vp_in y5 (mlen 2) ∧ ∀ v_13 : Int32, v_13 = g_11 2 (y5).toNatClampNeg → ((¬ v_13 = (0 : Int32) → wp_X9_setKey_73 w1 x3 y5 (0 : Int32) y4 n g_11 K C27) ∧
 (v_13 = (0 : Int32) → wp_X9_setKey_73 w1 x3 y5 (1 : Int32) y4 n g_11 K C27))))
def wp_X9_setKey (w1 : Int64) (x3 : Int32) (n : Nat → Int32) (g : Nat → Nat → Int32) (K : Int32 → (Nat → Int32) → (Nat → Nat → Int32) → Prop) : Prop :=
  wp_X9_in x3 (0 : Int32) (8 : Int32) n g (fun r_15 => ((¬ r_15 = (0 : Int32) → ∀ n_17 : Nat → Int32, n_17 = upd n 1 x3 → ∃ n_18, loopW (wp_X9_setKey_27 w1 x3 K) n_18 ((0 : Int32), (0 : Int32), n_17, g)) ∧
 (r_15 = (0 : Int32) → wp_X9_fails (1 : Int32) n g (fun r_19 n_21 g_22 => K r_19 n_21 g_22))))
set_option maxHeartbeats 4000000 in
set_option maxRecDepth 100000 in
theorem cc_X9_setKey (l : Launch) (G : GG) {mo : Nat} {ad : Nat → Nat} (had : MAd mo ad) {n : Nat → Int32} {g : Nat → Nat → Int32} {sz : Nat} {w1 : Int64} {x3 : Int32} {K : Int32 → (Nat → Int32) → (Nat → Nat → Int32) → Prop} (h : wp_X9_setKey w1 x3 n g K) : Met l yX9_setKey wsX9_setKey ({ frames := 1, cells := 0, slots := 0, locals := 22 } : Room) (FP G [.ref mo, .long w1, .int x3] (mf mo ad n g) sz) (va_Qi (fun r f9 => ∃ n9 g9, f9 = mf mo ad n9 g9 ∧ K r n9 g9 : Int32 → FT → Prop) (FB G (fA (mf mo ad n g) sz)) (fA (mf mo ad n g) sz)) 0 0 (fA (mf mo ad n g) sz) := by
  refine Met.ofW (cc := cX9_setKey) (maxL := 6) (ret := (some .int)) (by decide) rfl ?_
  intro p e s m args below meth c s₁ B hml hv
  obtain ⟨rfl, hsz, hF, hK, hZ⟩ := hv
  have hx := B.exec
  have hb := B.bytes
  have hr := B.returns
  have hts := atoms_spec (ws := wsX9_setKey) B.pre
  have hown : s.vm.findClass RX9 = some m.cls := findClass_of_methodNamed B.named
  have hlocks := B.notSynchronized
  subst hsz
  have hF := hF.self (sz := s.heap.size)
  generalize hAe : fA (mf mo ad n g) s.heap.size = A at hF hZ ⊢
  have hA : ∀ q : Nat, s.heap.size ≤ q → A q := fun q h => by rw [← hAe]; exact Or.inr h
  have hS : va_S A s.heap s.heap [] := va_S.rf
  have hin_X9 : ∀ w ∈ wsX90, w ∈ wsX9_setKey := by decide +kernel
  have L27 : ∀  (j9 : Nat) (y4 : Int32) (y5 : Int32) (n : Nat → Int32) (g : Nat → Nat → Int32) (H : Heap) (locs : List Loc) (ls : Array Slot), loopW (wp_X9_setKey_27 w1 x3 K ) j9 (y4, y5, n, g) → Fw G A (mf mo ad n g) H → va_S A s.heap H locs → lv_has ls 6 [(0, .ref mo), (1, .long w1), (3, .int x3), (4, .int y4), (5, .int y5)] → W p l e ({ frames := 1, cells := 0, slots := 0, locals := 22 } : Room) s m ([.ref mo, .long w1, .int x3] : List Value).toArray below meth c H locs 0 0 (MQ below (va_Qi (fun r f9 => ∃ n9 g9, f9 = mf mo ad n9 g9 ∧ K r n9 g9 : Int32 → FT → Prop) (FB G A) A) ([.ref mo, .long w1, .int x3] : List Value).toArray s 0 0 A) (F0 m 27 ls []) := by
    intro  j9
    induction j9 with
    | zero => intro y4 y5 n g H locs ls h; exact h.elim
    | succ j9 ih27 =>
      intro y4 y5 n g H locs ls h hF hS hl
      have h : wp_X9_setKey_27 w1 x3 K  (loopW (wp_X9_setKey_27 w1 x3 K ) j9) (y4, y5, n, g) := h
      generalize loopW (wp_X9_setKey_27 w1 x3 K ) j9 = C27 at ih27 h
      unfold wp_X9_setKey_27 at h
      have J73 : ∀ (y5 : Int32) (z0 : Int32) (z1 : Int32) (n : Nat → Int32) (g : Nat → Nat → Int32) (H : Heap) (locs : List Loc) (ls : Array Slot), wp_X9_setKey_73 w1 x3 y5 z0 z1 n g K C27 → Fw G A (mf mo ad n g) H → va_S A s.heap H locs → lv_has ls 6 [(0, .ref mo), (1, .long w1), (3, .int x3), (5, .int y5)] → W p l e ({ frames := 1, cells := 0, slots := 0, locals := 22 } : Room) s m ([.ref mo, .long w1, .int x3] : List Value).toArray below meth c H locs 0 0 (MQ below (va_Qi (fun r f9 => ∃ n9 g9, f9 = mf mo ad n9 g9 ∧ K r n9 g9 : Int32 → FT → Prop) (FB G A) A) ([.ref mo, .long w1, .int x3] : List Value).toArray s 0 0 A) (F0 m 73 ls [.int z0, .int z1]) := by
        intro y5 z0 z1 n g H locs ls h hF hS hl
        unfold wp_X9_setKey_73 at h
        refine lv_iadd hx hb dX9_setKey_73 ?_
        refine lv_topi (fun v_1 e_2 => ?_)
        have h := h v_1 e_2
        refine lv_istore (lv' := [(4, .int v_1), (0, .ref mo), (1, .long w1), (3, .int x3), (5, .int y5)]) hx hb dX9_setKey_74 hl (by decide) rfl (fun ls hl => ?_)
        obtain ⟨v_3, e_4⟩ : ∃ y : Int32, y = y5 + 1 := ⟨_, rfl⟩
        have h := h v_3 e_4
        refine lv_iinc (v := v_3) (lv' := [(5, .int v_3), (4, .int v_1), (0, .ref mo), (1, .long w1), (3, .int x3)]) hx hb dX9_setKey_76 hl (k := 4) rfl (by rw [e_4]; rfl) (by decide) rfl (fun ls hl => ?_)
        refine lv_goto (tgt := 27) hx hb dX9_setKey_79 (by decide) ?_
        exact ih27 v_1 v_3 n g _ _ _ h hF hS (lv_sub hl [2, 3, 4, 1, 0] rfl)
      refine lv_iload hx hb dX9_setKey_27 (lv_at hl 4 rfl) ?_
      refine lv_iload_n hx hb dX9_setKey_29 rfl (lv_at hl 2 rfl) ?_
      obtain ⟨h1, h2⟩ := h
      refine lv_icmp_ge (tgt := 82) hx hb dX9_setKey_30 (by decide) (fun c_5 => ?_) (fun c_5 => ?_)
      · have h := h1 c_5
        refine lv_aload_n hx hb dX9_setKey_82 rfl (lv_at hl 0 rfl) ?_
        refine lv_iload hx hb dX9_setKey_83 (lv_at hl 3 rfl) ?_
        refine fw_cV_i (As := [.int y4]) (rest := []) ⟨hx, hb, hml, hown, hts⟩ (cc_X9_done l G had h) (⟨callB_of 1 hts ggX9_setKey_X9_done rfl rfl rfl (hts (.initialized RX9) (by decide +kernel)) (hts (.methodLink RX9 91 yX9_done) (by decide +kernel)) (by decide +kernel) ⟨Nat.le_of_ble_eq_true rfl, Nat.le_of_ble_eq_true rfl⟩, hts (.instanceMethod yX9_done) (by decide +kernel), hts (.selects RX9 yX9_done yX9_done) (by decide +kernel)⟩) rfl mf_obj hK hZ hF hS hA rfl hl.1 rfl (Nat.le_of_ble_eq_true rfl) dX9_setKey_85 ⟨Nat.zero_le _, Nat.zero_le _⟩ (fun r_6 f9 H locs h hF hS => ?_)
        obtain ⟨n_8, g_9, rfl, h⟩ := h
        exact W.iret (v := r_6) hx hb hr (fun t ht hW => ⟨⟨r_6, (mf mo ad n_8 g_9), rfl, ⟨_, _, rfl, h⟩, by rw [ht]; exact hF, FK.moved hW.alike hK⟩, hS.F ht⟩) hS.2.2 dX9_setKey_88
      · have h := h2 c_5
        refine lv_aload_n hx hb dX9_setKey_33 rfl (lv_at hl 0 rfl) ?_
        refine fw_get (C := RX9) (T := TX9) (N := 34) hx hb hts hin_X9 hown hK hF mf_obj rfl 2 (by decide) (hts (.fieldLink RX9 7 "FrontCodedIndexModel" "key" "[I") (by decide +kernel)) (fun _ h9 => h9) rfl dX9_setKey_34 ?_
        refine lv_iload hx hb dX9_setKey_37 (lv_at hl 4 rfl) ?_
        refine lv_lload_n hx hb dX9_setKey_39 rfl (lv_at hl 1 rfl) ?_
        refine lv_bipush (v := (8 : Int32)) hx hb dX9_setKey_40 (by decide) ?_
        refine lv_iload_n hx hb dX9_setKey_42 rfl (lv_at hl 2 rfl) ?_
        refine lv_iconst (v := (1 : Int32)) hx hb dX9_setKey_43 (by decide) ?_
        refine lv_isub hx hb dX9_setKey_44 ?_
        refine lv_iload hx hb dX9_setKey_45 (lv_at hl 4 rfl) ?_
        refine lv_isub hx hb dX9_setKey_47 ?_
        refine lv_imul hx hb dX9_setKey_48 ?_
        refine lv_lushr (v := (lushr w1 ((8 : Int32) * ((x3 - (1 : Int32)) - y5)))) hx hb dX9_setKey_49 rfl ?_
        refine lv_ldc2 hx hb hown (hts (.constantLong RX9 94 (127 : Int64)) (by decide +kernel)) dX9_setKey_50 ?_
        refine lv_land hx hb dX9_setKey_53 ?_
        refine lv_l2i (v := (Int64.toInt32 ((lushr w1 ((8 : Int32) * ((x3 - (1 : Int32)) - y5))) &&& (127 : Int64)))) hx hb dX9_setKey_54 rfl ?_
        obtain ⟨hi_i_10, h⟩ := h
        refine fw_iast hx hb hK hF hS (mf_arr had 2 (by decide)) hi_i_10 dX9_setKey_55 (fun H locs hF hS => ?_)
        rw [mf_st had 2 (by decide)] at hF
        obtain ⟨g_11, hg_g_11⟩ : ∃ z, z = mup g 2 (y5).toNatClampNeg (Int64.toInt32 ((lushr w1 ((8 : Int32) * ((x3 - (1 : Int32)) - y5))) &&& (127 : Int64))) := ⟨_, rfl⟩
        rw [← hg_g_11] at hF; have h := h g_11 hg_g_11
        refine lv_iload hx hb dX9_setKey_56 (lv_at hl 3 rfl) ?_
        refine lv_aload_n hx hb dX9_setKey_58 rfl (lv_at hl 0 rfl) ?_
        refine fw_get (C := RX9) (T := TX9) (N := 34) hx hb hts hin_X9 hown hK hF mf_obj rfl 2 (by decide) (hts (.fieldLink RX9 7 "FrontCodedIndexModel" "key" "[I") (by decide +kernel)) (fun _ h9 => h9) rfl dX9_setKey_59 ?_
        refine lv_iload hx hb dX9_setKey_62 (lv_at hl 4 rfl) ?_
        obtain ⟨hi_i_12, h⟩ := h
        refine fw_iald hx hb hK hF (mf_arr had 2 (by decide)) hi_i_12 dX9_setKey_64 ?_
        refine lv_topi (fun v_13 e_v_13 => ?_)
        have h := h v_13 e_v_13
        obtain ⟨h1, h2⟩ := h
        refine lv_if_ne (tgt := 72) hx hb dX9_setKey_65 (by decide) (fun c_14 => ?_) (fun c_14 => ?_)
        · have h := h1 c_14
          refine lv_iconst (v := (0 : Int32)) hx hb dX9_setKey_72 (by decide) ?_
          exact J73 y5 (0 : Int32) y4 n g_11 _ _ _ h hF hS (lv_sub hl [0, 1, 2, 4] rfl)
        · have h := h2 c_14
          refine lv_iconst (v := (1 : Int32)) hx hb dX9_setKey_68 (by decide) ?_
          refine lv_goto (tgt := 73) hx hb dX9_setKey_69 (by decide) ?_
          exact J73 y5 (1 : Int32) y4 n g_11 _ _ _ h hF hS (lv_sub hl [0, 1, 2, 4] rfl)
  have hl := lv_entry ([.ref mo, .long w1, .int x3]) (n := 6) (Nat.le_of_ble_eq_true rfl)
  rw [lg_entry_eq]
  generalize (lg_sl ([.ref mo, .long w1, .int x3]) ++ List.replicate (6 - (lg_sl ([.ref mo, .long w1, .int x3])).length) Slot.unset).toArray = ls at hl ⊢
  have hl : lv_has ls 6 [(0, .ref mo), (1, .long w1), (3, .int x3)] := hl
  unfold wp_X9_setKey at h
  refine lv_iload_n hx hb dX9_setKey_0 rfl (lv_at hl 2 rfl) ?_
  refine lv_iconst (v := (0 : Int32)) hx hb dX9_setKey_1 (by decide) ?_
  refine lv_bipush (v := (8 : Int32)) hx hb dX9_setKey_2 (by decide) ?_
  refine fw_cS_i_p (As := [.int x3, .int (0 : Int32), .int (8 : Int32)]) (rest := []) ⟨hx, hb, hml, hown, hts⟩ (cc_X9_in l G had h) (⟨callB_of 3 hts ggX9_setKey_X9_in rfl rfl rfl (hts (.initialized RX9) (by decide +kernel)) (hts (.methodLink RX9 80 yX9_in) (by decide +kernel)) (by decide +kernel) ⟨Nat.le_of_ble_eq_true rfl, Nat.le_of_ble_eq_true rfl⟩, hts (.static yX9_in) (by decide +kernel)⟩) hK hZ hF hS hA rfl hl.1 rfl (Nat.le_of_ble_eq_true rfl) dX9_setKey_4 ⟨Nat.zero_le _, Nat.zero_le _⟩ (fun r_15 H locs h hF hS => ?_)
  obtain ⟨h1, h2⟩ := h
  refine lv_if_ne (tgt := 16) hx hb dX9_setKey_7 (by decide) (fun c_16 => ?_) (fun c_16 => ?_)
  · have h := h1 c_16
    refine lv_aload_n hx hb dX9_setKey_16 rfl (lv_at hl 0 rfl) ?_
    refine lv_iload_n hx hb dX9_setKey_17 rfl (lv_at hl 2 rfl) ?_
    refine fw_put (v := .int x3) (ty := .int) (C := RX9) (T := TX9) (N := 34) hx hb hts hin_X9 tyX9 tyX9_ok nmX9 hown hK hF hS mf_obj rfl 1 (by decide) (hts (.fieldLink RX9 88 "FrontCodedIndexModel" "keySize" "I") (by decide +kernel)) (fun _ h9 => h9) rfl (by decide +kernel) rfl rfl (show 1 < 34 by decide) dX9_setKey_18 (fun H locs hF hS => ?_)
    rw [mf_put 1 x3 rfl] at hF
    obtain ⟨n_17, hn_n_17⟩ : ∃ z, z = upd n 1 x3 := ⟨_, rfl⟩
    rw [← hn_n_17] at hF; have h := h n_17 hn_n_17
    refine lv_iconst (v := (0 : Int32)) hx hb dX9_setKey_21 (by decide) ?_
    refine lv_istore (lv' := [(4, .int (0 : Int32)), (0, .ref mo), (1, .long w1), (3, .int x3)]) hx hb dX9_setKey_22 hl (by decide) rfl (fun ls hl => ?_)
    refine lv_iconst (v := (0 : Int32)) hx hb dX9_setKey_24 (by decide) ?_
    refine lv_istore (lv' := [(5, .int (0 : Int32)), (4, .int (0 : Int32)), (0, .ref mo), (1, .long w1), (3, .int x3)]) hx hb dX9_setKey_25 hl (by decide) rfl (fun ls hl => ?_)
    obtain ⟨n_18, h⟩ := h
    exact L27 n_18 (0 : Int32) (0 : Int32) n_17 g _ _ _ h hF hS (lv_sub hl [2, 3, 4, 1, 0] rfl)
  · have h := h2 c_16
    refine lv_aload_n hx hb dX9_setKey_10 rfl (lv_at hl 0 rfl) ?_
    refine lv_iconst (v := (1 : Int32)) hx hb dX9_setKey_11 (by decide) ?_
    refine fw_cV_i (As := [.int (1 : Int32)]) (rest := []) ⟨hx, hb, hml, hown, hts⟩ (cc_X9_fails l G had h) (⟨callB_of 1 hts ggX9_setKey_X9_fails rfl rfl rfl (hts (.initialized RX9) (by decide +kernel)) (hts (.methodLink RX9 84 yX9_fails) (by decide +kernel)) (by decide +kernel) ⟨Nat.le_of_ble_eq_true rfl, Nat.le_of_ble_eq_true rfl⟩, hts (.instanceMethod yX9_fails) (by decide +kernel), hts (.selects RX9 yX9_fails yX9_fails) (by decide +kernel)⟩) rfl mf_obj hK hZ hF hS hA rfl hl.1 rfl (Nat.le_of_ble_eq_true rfl) dX9_setKey_12 ⟨Nat.zero_le _, Nat.zero_le _⟩ (fun r_19 f9 H locs h hF hS => ?_)
    obtain ⟨n_21, g_22, rfl, h⟩ := h
    exact W.iret (v := r_19) hx hb hr (fun t ht hW => ⟨⟨r_19, (mf mo ad n_21 g_22), rfl, ⟨_, _, rfl, h⟩, by rw [ht]; exact hF, FK.moved hW.alike hK⟩, hS.F ht⟩) hS.2.2 dX9_setKey_15
theorem dX9_size_0 : decode cX9_size 0 = .ok (.aload_n 0, 1) := by decide +kernel
theorem dX9_size_1 : decode cX9_size 1 = .ok (.aload_n 0, 1) := by decide +kernel
theorem dX9_size_2 : decode cX9_size 2 = .ok (.getfield 106, 3) := by decide +kernel
theorem dX9_size_5 : decode cX9_size 5 = .ok (.invokevirtual 91, 3) := by decide +kernel
theorem dX9_size_8 : decode cX9_size 8 = .ok (.ireturn, 1) := by decide +kernel
set_option maxRecDepth 20000 in
theorem ggX9_size_X9_done : GoodIn wsX9_size wsX9_done := goodIn_r _ [6, 7, 8, 9, 10, 11, 12, 13, 14, 15, 16, 17, 18, 19, 20, 21, 22, 23, 24, 25, 26, 27, 28, 29, 30, 31, 32, 33, 34, 35, 36, 37, 38, 39, 40, 41] (by decide +kernel) (by decide +kernel)
def wp_X9_size  (n : Nat → Int32) (g : Nat → Nat → Int32) (K : Int32 → (Nat → Int32) → (Nat → Nat → Int32) → Prop) : Prop :=
  wp_X9_done (n 9) n g (fun r_1 n_3 g_4 => K r_1 n_3 g_4)
set_option maxHeartbeats 4000000 in
set_option maxRecDepth 100000 in
theorem cc_X9_size (l : Launch) (G : GG) {mo : Nat} {ad : Nat → Nat} (had : MAd mo ad) {n : Nat → Int32} {g : Nat → Nat → Int32} {sz : Nat}  {K : Int32 → (Nat → Int32) → (Nat → Nat → Int32) → Prop} (h : wp_X9_size  n g K) : Met l yX9_size wsX9_size ({ frames := 1, cells := 0, slots := 0, locals := 21 } : Room) (FP G [.ref mo] (mf mo ad n g) sz) (va_Qi (fun r f9 => ∃ n9 g9, f9 = mf mo ad n9 g9 ∧ K r n9 g9 : Int32 → FT → Prop) (FB G (fA (mf mo ad n g) sz)) (fA (mf mo ad n g) sz)) 0 0 (fA (mf mo ad n g) sz) := by
  refine Met.ofW (cc := cX9_size) (maxL := 1) (ret := (some .int)) (by decide) rfl ?_
  intro p e s m args below meth c s₁ B hml hv
  obtain ⟨rfl, hsz, hF, hK, hZ⟩ := hv
  have hx := B.exec
  have hb := B.bytes
  have hr := B.returns
  have hts := atoms_spec (ws := wsX9_size) B.pre
  have hown : s.vm.findClass RX9 = some m.cls := findClass_of_methodNamed B.named
  have hlocks := B.notSynchronized
  subst hsz
  have hF := hF.self (sz := s.heap.size)
  generalize hAe : fA (mf mo ad n g) s.heap.size = A at hF hZ ⊢
  have hA : ∀ q : Nat, s.heap.size ≤ q → A q := fun q h => by rw [← hAe]; exact Or.inr h
  have hS : va_S A s.heap s.heap [] := va_S.rf
  have hin_X9 : ∀ w ∈ wsX90, w ∈ wsX9_size := by decide +kernel
  have hl := lv_entry ([.ref mo]) (n := 1) (Nat.le_of_ble_eq_true rfl)
  rw [lg_entry_eq]
  generalize (lg_sl ([.ref mo]) ++ List.replicate (1 - (lg_sl ([.ref mo])).length) Slot.unset).toArray = ls at hl ⊢
  have hl : lv_has ls 1 [(0, .ref mo)] := hl
  unfold wp_X9_size at h
  refine lv_aload_n hx hb dX9_size_0 rfl (lv_at hl 0 rfl) ?_
  refine lv_aload_n hx hb dX9_size_1 rfl (lv_at hl 0 rfl) ?_
  refine fw_get (C := RX9) (T := TX9) (N := 34) hx hb hts hin_X9 hown hK hF mf_obj rfl 9 (by decide) (hts (.fieldLink RX9 106 "FrontCodedIndexModel" "entries" "I") (by decide +kernel)) (fun _ h9 => h9) rfl dX9_size_2 ?_
  refine fw_cV_i (As := [.int (n 9)]) (rest := []) ⟨hx, hb, hml, hown, hts⟩ (cc_X9_done l G had h) (⟨callB_of 1 hts ggX9_size_X9_done rfl rfl rfl (hts (.initialized RX9) (by decide +kernel)) (hts (.methodLink RX9 91 yX9_done) (by decide +kernel)) (by decide +kernel) ⟨Nat.le_of_ble_eq_true rfl, Nat.le_of_ble_eq_true rfl⟩, hts (.instanceMethod yX9_done) (by decide +kernel), hts (.selects RX9 yX9_done yX9_done) (by decide +kernel)⟩) rfl mf_obj hK hZ hF hS hA rfl hl.1 rfl (Nat.le_of_ble_eq_true rfl) dX9_size_5 ⟨Nat.zero_le _, Nat.zero_le _⟩ (fun r_1 f9 H locs h hF hS => ?_)
  obtain ⟨n_3, g_4, rfl, h⟩ := h
  exact W.iret (v := r_1) hx hb hr (fun t ht hW => ⟨⟨r_1, (mf mo ad n_3 g_4), rfl, ⟨_, _, rfl, h⟩, by rw [ht]; exact hF, FK.moved hW.alike hK⟩, hS.F ht⟩) hS.2.2 dX9_size_8
theorem dX9_statistic_0 : decode cX9_statistic 0 = .ok (.iload_n 1, 1) := by decide +kernel
theorem dX9_statistic_1 : decode cX9_statistic 1 = .ok (.iconst 0, 1) := by decide +kernel
theorem dX9_statistic_2 : decode cX9_statistic 2 = .ok (.iconst 4, 1) := by decide +kernel
theorem dX9_statistic_3 : decode cX9_statistic 3 = .ok (.invokestatic 80, 3) := by decide +kernel
theorem dX9_statistic_6 : decode cX9_statistic 6 = .ok (.ifCond .ne 9, 3) := by decide +kernel
theorem dX9_statistic_9 : decode cX9_statistic 9 = .ok (.aload_n 0, 1) := by decide +kernel
theorem dX9_statistic_10 : decode cX9_statistic 10 = .ok (.iconst 1, 1) := by decide +kernel
theorem dX9_statistic_11 : decode cX9_statistic 11 = .ok (.invokevirtual 84, 3) := by decide +kernel
theorem dX9_statistic_14 : decode cX9_statistic 14 = .ok (.ireturn, 1) := by decide +kernel
theorem dX9_statistic_15 : decode cX9_statistic 15 = .ok (.iconst 0, 1) := by decide +kernel
theorem dX9_statistic_16 : decode cX9_statistic 16 = .ok (.istore_n 2, 1) := by decide +kernel
theorem dX9_statistic_17 : decode cX9_statistic 17 = .ok (.iconst 0, 1) := by decide +kernel
theorem dX9_statistic_18 : decode cX9_statistic 18 = .ok (.istore_n 3, 1) := by decide +kernel
theorem dX9_statistic_19 : decode cX9_statistic 19 = .ok (.iload_n 3, 1) := by decide +kernel
theorem dX9_statistic_20 : decode cX9_statistic 20 = .ok (.aload_n 0, 1) := by decide +kernel
theorem dX9_statistic_21 : decode cX9_statistic 21 = .ok (.getfield 29, 3) := by decide +kernel
theorem dX9_statistic_24 : decode cX9_statistic 24 = .ok (.if_icmp .ge 17, 3) := by decide +kernel
theorem dX9_statistic_27 : decode cX9_statistic 27 = .ok (.iload_n 2, 1) := by decide +kernel
theorem dX9_statistic_28 : decode cX9_statistic 28 = .ok (.aload_n 0, 1) := by decide +kernel
theorem dX9_statistic_29 : decode cX9_statistic 29 = .ok (.iload_n 3, 1) := by decide +kernel
theorem dX9_statistic_30 : decode cX9_statistic 30 = .ok (.invokevirtual 213, 3) := by decide +kernel
theorem dX9_statistic_33 : decode cX9_statistic 33 = .ok (.iadd, 1) := by decide +kernel
theorem dX9_statistic_34 : decode cX9_statistic 34 = .ok (.istore_n 2, 1) := by decide +kernel
theorem dX9_statistic_35 : decode cX9_statistic 35 = .ok (.iinc 3 1, 3) := by decide +kernel
theorem dX9_statistic_38 : decode cX9_statistic 38 = .ok (.goto (-19), 3) := by decide +kernel
theorem dX9_statistic_41 : decode cX9_statistic 41 = .ok (.aload_n 0, 1) := by decide +kernel
theorem dX9_statistic_42 : decode cX9_statistic 42 = .ok (.iload_n 1, 1) := by decide +kernel
theorem dX9_statistic_43 : decode cX9_statistic 43 = .ok (.ifCond .ne 7, 3) := by decide +kernel
theorem dX9_statistic_46 : decode cX9_statistic 46 = .ok (.iload_n 2, 1) := by decide +kernel
theorem dX9_statistic_47 : decode cX9_statistic 47 = .ok (.goto 43, 3) := by decide +kernel
theorem dX9_statistic_50 : decode cX9_statistic 50 = .ok (.iload_n 1, 1) := by decide +kernel
theorem dX9_statistic_51 : decode cX9_statistic 51 = .ok (.iconst 1, 1) := by decide +kernel
theorem dX9_statistic_52 : decode cX9_statistic 52 = .ok (.if_icmp .ne 10, 3) := by decide +kernel
theorem dX9_statistic_55 : decode cX9_statistic 55 = .ok (.aload_n 0, 1) := by decide +kernel
theorem dX9_statistic_56 : decode cX9_statistic 56 = .ok (.invokevirtual 216, 3) := by decide +kernel
theorem dX9_statistic_59 : decode cX9_statistic 59 = .ok (.goto 31, 3) := by decide +kernel
theorem dX9_statistic_62 : decode cX9_statistic 62 = .ok (.iload_n 1, 1) := by decide +kernel
theorem dX9_statistic_63 : decode cX9_statistic 63 = .ok (.iconst 2, 1) := by decide +kernel
theorem dX9_statistic_64 : decode cX9_statistic 64 = .ok (.if_icmp .ne 10, 3) := by decide +kernel
theorem dX9_statistic_67 : decode cX9_statistic 67 = .ok (.aload_n 0, 1) := by decide +kernel
theorem dX9_statistic_68 : decode cX9_statistic 68 = .ok (.getfield 158, 3) := by decide +kernel
theorem dX9_statistic_71 : decode cX9_statistic 71 = .ok (.goto 19, 3) := by decide +kernel
theorem dX9_statistic_74 : decode cX9_statistic 74 = .ok (.iload_n 1, 1) := by decide +kernel
theorem dX9_statistic_75 : decode cX9_statistic 75 = .ok (.iconst 3, 1) := by decide +kernel
theorem dX9_statistic_76 : decode cX9_statistic 76 = .ok (.if_icmp .ne 10, 3) := by decide +kernel
theorem dX9_statistic_79 : decode cX9_statistic 79 = .ok (.aload_n 0, 1) := by decide +kernel
theorem dX9_statistic_80 : decode cX9_statistic 80 = .ok (.getfield 148, 3) := by decide +kernel
theorem dX9_statistic_83 : decode cX9_statistic 83 = .ok (.goto 7, 3) := by decide +kernel
theorem dX9_statistic_86 : decode cX9_statistic 86 = .ok (.aload_n 0, 1) := by decide +kernel
theorem dX9_statistic_87 : decode cX9_statistic 87 = .ok (.getfield 201, 3) := by decide +kernel
theorem dX9_statistic_90 : decode cX9_statistic 90 = .ok (.invokevirtual 91, 3) := by decide +kernel
theorem dX9_statistic_93 : decode cX9_statistic 93 = .ok (.ireturn, 1) := by decide +kernel
set_option maxRecDepth 20000 in
theorem ggX9_statistic_X9_done : GoodIn wsX9_statistic wsX9_done := goodIn_r _ [61, 13, 62, 63, 64, 65, 66, 67, 68, 69, 70, 71, 72, 73, 74, 75, 76, 77, 78, 79, 80, 81, 82, 83, 84, 85, 86, 87, 88, 89, 90, 91, 92, 93, 94, 95] (by decide +kernel) (by decide +kernel)
set_option maxRecDepth 20000 in
theorem ggX9_statistic_X9_fails : GoodIn wsX9_statistic wsX9_fails := goodIn_r _ [12, 13, 62, 63, 64, 65, 66, 67, 68, 69, 70, 71, 72, 73, 74, 75, 76, 77, 78, 79, 80, 81, 82, 83, 84, 85, 86, 87, 88, 89, 90, 91, 92, 93, 94, 95] (by decide +kernel) (by decide +kernel)
set_option maxRecDepth 20000 in
theorem ggX9_statistic_X9_in : GoodIn wsX9_statistic wsX9_in := goodIn_r _ [8] (by decide +kernel) (by decide +kernel)
set_option maxRecDepth 20000 in
theorem ggX9_statistic_X9_pages : GoodIn wsX9_statistic wsX9_pages := goodIn_r _ [57, 1, 18, 62, 63, 64, 65, 66, 67, 68, 69, 70, 71, 72, 73, 74, 75, 76, 77, 78, 79, 80, 81, 82, 83, 84, 85, 86, 87, 88, 89, 90, 91, 92, 93, 94, 95] (by decide +kernel) (by decide +kernel)
set_option maxRecDepth 20000 in
theorem ggX9_statistic_X9_sumOf : GoodIn wsX9_statistic wsX9_sumOf := goodIn_r _ [17, 18, 19, 20, 21, 7, 22, 23, 24, 25, 26, 27, 28, 29, 30, 31, 32, 33, 34, 35, 36, 37, 38, 39, 40, 41, 42, 43, 44, 45, 46, 47, 48, 49, 50, 51, 52, 53, 62, 63, 64, 65, 66, 67, 68, 69, 70, 71, 72, 73, 74, 75, 76, 77, 78, 79, 80, 81, 82, 83, 84, 85, 86, 87, 88, 89, 90, 91, 92, 93, 94, 95] (by decide +kernel) (by decide +kernel)
def wp_X9_statistic_90  (z0 : Int32) (n : Nat → Int32) (g : Nat → Nat → Int32) (K : Int32 → (Nat → Int32) → (Nat → Nat → Int32) → Prop)  : Prop :=
  wp_X9_done z0 n g (fun r_1 n_3 g_4 => K r_1 n_3 g_4)
def wp_X9_statistic_19 (x1 : Int32) (K : Int32 → (Nat → Int32) → (Nat → Nat → Int32) → Prop)  (C19 : Int32 × Int32 × (Nat → Int32) × (Nat → Nat → Int32) → Prop) : Int32 × Int32 × (Nat → Int32) × (Nat → Nat → Int32) → Prop := fun s9 => match s9 with
  | (y2, y3, n, g) => (((n 13) ≤ y3 → ((¬ x1 = (0 : Int32) → ((¬ x1 = (1 : Int32) → ((¬ x1 = (2 : Int32) → ((¬ x1 = (3 : Int32) → wp_X9_statistic_90 (n 8) n g K) ∧
 (x1 = (3 : Int32) → wp_X9_statistic_90 (n 7) n g K))) ∧
 (x1 = (2 : Int32) → wp_X9_statistic_90 (n 6) n g K))) ∧
 (x1 = (1 : Int32) → wp_X9_pages  n g (fun r_10 => wp_X9_statistic_90 r_10 n g K)))) ∧
 (x1 = (0 : Int32) → wp_X9_statistic_90 y2 n g K))) ∧
 (¬ ((n 13) ≤ y3) → wp_X9_sumOf y3 n g (fun r_11 => ∀ v_12 : Int32, v_12 = (y2 + r_11) → ∀ v_14 : Int32, v_14 = y3 + 1 → C19 (v_12, v_14, n, g))))
def wp_X9_statistic (x1 : Int32) (n : Nat → Int32) (g : Nat → Nat → Int32) (K : Int32 → (Nat → Int32) → (Nat → Nat → Int32) → Prop) : Prop :=
  wp_X9_in x1 (0 : Int32) (4 : Int32) n g (fun r_16 => ((¬ r_16 = (0 : Int32) → ∃ n_18, loopW (wp_X9_statistic_19 x1 K) n_18 ((0 : Int32), (0 : Int32), n, g)) ∧
 (r_16 = (0 : Int32) → wp_X9_fails (1 : Int32) n g (fun r_19 n_21 g_22 => K r_19 n_21 g_22))))
set_option maxHeartbeats 4000000 in
set_option maxRecDepth 100000 in
theorem cc_X9_statistic (l : Launch) (G : GG) {mo : Nat} {ad : Nat → Nat} (had : MAd mo ad) {n : Nat → Int32} {g : Nat → Nat → Int32} {sz : Nat} {x1 : Int32} {K : Int32 → (Nat → Int32) → (Nat → Nat → Int32) → Prop} (h : wp_X9_statistic x1 n g K) : Met l yX9_statistic wsX9_statistic ({ frames := 7, cells := 0, slots := 0, locals := 165 } : Room) (FP G [.ref mo, .int x1] (mf mo ad n g) sz) (va_Qi (fun r f9 => ∃ n9 g9, f9 = mf mo ad n9 g9 ∧ K r n9 g9 : Int32 → FT → Prop) (FB G (fA (mf mo ad n g) sz)) (fA (mf mo ad n g) sz)) 0 0 (fA (mf mo ad n g) sz) := by
  refine Met.ofW (cc := cX9_statistic) (maxL := 4) (ret := (some .int)) (by decide) rfl ?_
  intro p e s m args below meth c s₁ B hml hv
  obtain ⟨rfl, hsz, hF, hK, hZ⟩ := hv
  have hx := B.exec
  have hb := B.bytes
  have hr := B.returns
  have hts := atoms_spec (ws := wsX9_statistic) B.pre
  have hown : s.vm.findClass RX9 = some m.cls := findClass_of_methodNamed B.named
  have hlocks := B.notSynchronized
  subst hsz
  have hF := hF.self (sz := s.heap.size)
  generalize hAe : fA (mf mo ad n g) s.heap.size = A at hF hZ ⊢
  have hA : ∀ q : Nat, s.heap.size ≤ q → A q := fun q h => by rw [← hAe]; exact Or.inr h
  have hS : va_S A s.heap s.heap [] := va_S.rf
  have hin_X9 : ∀ w ∈ wsX90, w ∈ wsX9_statistic := by decide +kernel
  have J90 : ∀ (z0 : Int32) (n : Nat → Int32) (g : Nat → Nat → Int32) (H : Heap) (locs : List Loc) (ls : Array Slot), wp_X9_statistic_90 z0 n g K  → Fw G A (mf mo ad n g) H → va_S A s.heap H locs → lv_has ls 4 [] → W p l e ({ frames := 7, cells := 0, slots := 0, locals := 165 } : Room) s m ([.ref mo, .int x1] : List Value).toArray below meth c H locs 0 0 (MQ below (va_Qi (fun r f9 => ∃ n9 g9, f9 = mf mo ad n9 g9 ∧ K r n9 g9 : Int32 → FT → Prop) (FB G A) A) ([.ref mo, .int x1] : List Value).toArray s 0 0 A) (F0 m 90 ls [.int z0, .ref mo]) := by
    intro z0 n g H locs ls h hF hS hl
    unfold wp_X9_statistic_90 at h
    refine fw_cV_i (As := [.int z0]) (rest := []) ⟨hx, hb, hml, hown, hts⟩ (cc_X9_done l G had h) (⟨callB_of 1 hts ggX9_statistic_X9_done rfl rfl rfl (hts (.initialized RX9) (by decide +kernel)) (hts (.methodLink RX9 91 yX9_done) (by decide +kernel)) (by decide +kernel) ⟨Nat.le_of_ble_eq_true rfl, Nat.le_of_ble_eq_true rfl⟩, hts (.instanceMethod yX9_done) (by decide +kernel), hts (.selects RX9 yX9_done yX9_done) (by decide +kernel)⟩) rfl mf_obj hK hZ hF hS hA rfl hl.1 rfl (Nat.le_of_ble_eq_true rfl) dX9_statistic_90 ⟨Nat.zero_le _, Nat.zero_le _⟩ (fun r_1 f9 H locs h hF hS => ?_)
    obtain ⟨n_3, g_4, rfl, h⟩ := h
    exact W.iret (v := r_1) hx hb hr (fun t ht hW => ⟨⟨r_1, (mf mo ad n_3 g_4), rfl, ⟨_, _, rfl, h⟩, by rw [ht]; exact hF, FK.moved hW.alike hK⟩, hS.F ht⟩) hS.2.2 dX9_statistic_93
  have L19 : ∀  (j9 : Nat) (y2 : Int32) (y3 : Int32) (n : Nat → Int32) (g : Nat → Nat → Int32) (H : Heap) (locs : List Loc) (ls : Array Slot), loopW (wp_X9_statistic_19 x1 K ) j9 (y2, y3, n, g) → Fw G A (mf mo ad n g) H → va_S A s.heap H locs → lv_has ls 4 [(0, .ref mo), (1, .int x1), (2, .int y2), (3, .int y3)] → W p l e ({ frames := 7, cells := 0, slots := 0, locals := 165 } : Room) s m ([.ref mo, .int x1] : List Value).toArray below meth c H locs 0 0 (MQ below (va_Qi (fun r f9 => ∃ n9 g9, f9 = mf mo ad n9 g9 ∧ K r n9 g9 : Int32 → FT → Prop) (FB G A) A) ([.ref mo, .int x1] : List Value).toArray s 0 0 A) (F0 m 19 ls []) := by
    intro  j9
    induction j9 with
    | zero => intro y2 y3 n g H locs ls h; exact h.elim
    | succ j9 ih19 =>
      intro y2 y3 n g H locs ls h hF hS hl
      have h : wp_X9_statistic_19 x1 K  (loopW (wp_X9_statistic_19 x1 K ) j9) (y2, y3, n, g) := h
      generalize loopW (wp_X9_statistic_19 x1 K ) j9 = C19 at ih19 h
      unfold wp_X9_statistic_19 at h
      refine lv_iload_n hx hb dX9_statistic_19 rfl (lv_at hl 3 rfl) ?_
      refine lv_aload_n hx hb dX9_statistic_20 rfl (lv_at hl 0 rfl) ?_
      refine fw_get (C := RX9) (T := TX9) (N := 34) hx hb hts hin_X9 hown hK hF mf_obj rfl 13 (by decide) (hts (.fieldLink RX9 29 "FrontCodedIndexModel" "levels" "I") (by decide +kernel)) (fun _ h9 => h9) rfl dX9_statistic_21 ?_
      obtain ⟨h1, h2⟩ := h
      refine lv_icmp_ge (tgt := 41) hx hb dX9_statistic_24 (by decide) (fun c_5 => ?_) (fun c_5 => ?_)
      · have h := h1 c_5
        refine lv_aload_n hx hb dX9_statistic_41 rfl (lv_at hl 0 rfl) ?_
        refine lv_iload_n hx hb dX9_statistic_42 rfl (lv_at hl 1 rfl) ?_
        obtain ⟨h1, h2⟩ := h
        refine lv_if_ne (tgt := 50) hx hb dX9_statistic_43 (by decide) (fun c_6 => ?_) (fun c_6 => ?_)
        · have h := h1 c_6
          refine lv_iload_n hx hb dX9_statistic_50 rfl (lv_at hl 1 rfl) ?_
          refine lv_iconst (v := (1 : Int32)) hx hb dX9_statistic_51 (by decide) ?_
          obtain ⟨h1, h2⟩ := h
          refine lv_icmp_ne (tgt := 62) hx hb dX9_statistic_52 (by decide) (fun c_7 => ?_) (fun c_7 => ?_)
          · have h := h1 c_7
            refine lv_iload_n hx hb dX9_statistic_62 rfl (lv_at hl 1 rfl) ?_
            refine lv_iconst (v := (2 : Int32)) hx hb dX9_statistic_63 (by decide) ?_
            obtain ⟨h1, h2⟩ := h
            refine lv_icmp_ne (tgt := 74) hx hb dX9_statistic_64 (by decide) (fun c_8 => ?_) (fun c_8 => ?_)
            · have h := h1 c_8
              refine lv_iload_n hx hb dX9_statistic_74 rfl (lv_at hl 1 rfl) ?_
              refine lv_iconst (v := (3 : Int32)) hx hb dX9_statistic_75 (by decide) ?_
              obtain ⟨h1, h2⟩ := h
              refine lv_icmp_ne (tgt := 86) hx hb dX9_statistic_76 (by decide) (fun c_9 => ?_) (fun c_9 => ?_)
              · have h := h1 c_9
                refine lv_aload_n hx hb dX9_statistic_86 rfl (lv_at hl 0 rfl) ?_
                refine fw_get (C := RX9) (T := TX9) (N := 34) hx hb hts hin_X9 hown hK hF mf_obj rfl 8 (by decide) (hts (.fieldLink RX9 201 "FrontCodedIndexModel" "merges" "I") (by decide +kernel)) (fun _ h9 => h9) rfl dX9_statistic_87 ?_
                exact J90 (n 8) n g _ _ _ h hF hS (lv_sub hl [] rfl)
              · have h := h2 c_9
                refine lv_aload_n hx hb dX9_statistic_79 rfl (lv_at hl 0 rfl) ?_
                refine fw_get (C := RX9) (T := TX9) (N := 34) hx hb hts hin_X9 hown hK hF mf_obj rfl 7 (by decide) (hts (.fieldLink RX9 148 "FrontCodedIndexModel" "moves" "I") (by decide +kernel)) (fun _ h9 => h9) rfl dX9_statistic_80 ?_
                refine lv_goto (tgt := 90) hx hb dX9_statistic_83 (by decide) ?_
                exact J90 (n 7) n g _ _ _ h hF hS (lv_sub hl [] rfl)
            · have h := h2 c_8
              refine lv_aload_n hx hb dX9_statistic_67 rfl (lv_at hl 0 rfl) ?_
              refine fw_get (C := RX9) (T := TX9) (N := 34) hx hb hts hin_X9 hown hK hF mf_obj rfl 6 (by decide) (hts (.fieldLink RX9 158 "FrontCodedIndexModel" "splits" "I") (by decide +kernel)) (fun _ h9 => h9) rfl dX9_statistic_68 ?_
              refine lv_goto (tgt := 90) hx hb dX9_statistic_71 (by decide) ?_
              exact J90 (n 6) n g _ _ _ h hF hS (lv_sub hl [] rfl)
          · have h := h2 c_7
            refine lv_aload_n hx hb dX9_statistic_55 rfl (lv_at hl 0 rfl) ?_
            refine fw_cV_i_p (As := []) (rest := [.ref mo]) ⟨hx, hb, hml, hown, hts⟩ (cc_X9_pages l G had h) (⟨callB_of 0 hts ggX9_statistic_X9_pages rfl rfl rfl (hts (.initialized RX9) (by decide +kernel)) (hts (.methodLink RX9 216 yX9_pages) (by decide +kernel)) (by decide +kernel) ⟨Nat.le_of_ble_eq_true rfl, Nat.le_of_ble_eq_true rfl⟩, hts (.instanceMethod yX9_pages) (by decide +kernel), hts (.selects RX9 yX9_pages yX9_pages) (by decide +kernel)⟩) rfl mf_obj hK hZ hF hS hA rfl hl.1 rfl (Nat.le_of_ble_eq_true rfl) dX9_statistic_56 ⟨Nat.zero_le _, Nat.zero_le _⟩ (fun r_10 H locs h hF hS => ?_)
            refine lv_goto (tgt := 90) hx hb dX9_statistic_59 (by decide) ?_
            exact J90 r_10 n g _ _ _ h hF hS (lv_sub hl [] rfl)
        · have h := h2 c_6
          refine lv_iload_n hx hb dX9_statistic_46 rfl (lv_at hl 2 rfl) ?_
          refine lv_goto (tgt := 90) hx hb dX9_statistic_47 (by decide) ?_
          exact J90 y2 n g _ _ _ h hF hS (lv_sub hl [] rfl)
      · have h := h2 c_5
        refine lv_iload_n hx hb dX9_statistic_27 rfl (lv_at hl 2 rfl) ?_
        refine lv_aload_n hx hb dX9_statistic_28 rfl (lv_at hl 0 rfl) ?_
        refine lv_iload_n hx hb dX9_statistic_29 rfl (lv_at hl 3 rfl) ?_
        refine fw_cV_i_p (As := [.int y3]) (rest := [.int y2]) ⟨hx, hb, hml, hown, hts⟩ (cc_X9_sumOf l G had h) (⟨callB_of 1 hts ggX9_statistic_X9_sumOf rfl rfl rfl (hts (.initialized RX9) (by decide +kernel)) (hts (.methodLink RX9 213 yX9_sumOf) (by decide +kernel)) (by decide +kernel) ⟨Nat.le_of_ble_eq_true rfl, Nat.le_of_ble_eq_true rfl⟩, hts (.instanceMethod yX9_sumOf) (by decide +kernel), hts (.selects RX9 yX9_sumOf yX9_sumOf) (by decide +kernel)⟩) rfl mf_obj hK hZ hF hS hA rfl hl.1 rfl (Nat.le_of_ble_eq_true rfl) dX9_statistic_30 ⟨Nat.zero_le _, Nat.zero_le _⟩ (fun r_11 H locs h hF hS => ?_)
        refine lv_iadd hx hb dX9_statistic_33 ?_
        refine lv_topi (fun v_12 e_13 => ?_)
        have h := h v_12 e_13
        refine lv_istore_n (lv' := [(2, .int v_12), (0, .ref mo), (1, .int x1), (3, .int y3)]) hx hb dX9_statistic_34 rfl hl (by decide) rfl (fun ls hl => ?_)
        obtain ⟨v_14, e_15⟩ : ∃ y : Int32, y = y3 + 1 := ⟨_, rfl⟩
        have h := h v_14 e_15
        refine lv_iinc (v := v_14) (lv' := [(3, .int v_14), (2, .int v_12), (0, .ref mo), (1, .int x1)]) hx hb dX9_statistic_35 hl (k := 3) rfl (by rw [e_15]; rfl) (by decide) rfl (fun ls hl => ?_)
        refine lv_goto (tgt := 19) hx hb dX9_statistic_38 (by decide) ?_
        exact ih19 v_12 v_14 n g _ _ _ h hF hS (lv_sub hl [2, 3, 1, 0] rfl)
  have hl := lv_entry ([.ref mo, .int x1]) (n := 4) (Nat.le_of_ble_eq_true rfl)
  rw [lg_entry_eq]
  generalize (lg_sl ([.ref mo, .int x1]) ++ List.replicate (4 - (lg_sl ([.ref mo, .int x1])).length) Slot.unset).toArray = ls at hl ⊢
  have hl : lv_has ls 4 [(0, .ref mo), (1, .int x1)] := hl
  unfold wp_X9_statistic at h
  refine lv_iload_n hx hb dX9_statistic_0 rfl (lv_at hl 1 rfl) ?_
  refine lv_iconst (v := (0 : Int32)) hx hb dX9_statistic_1 (by decide) ?_
  refine lv_iconst (v := (4 : Int32)) hx hb dX9_statistic_2 (by decide) ?_
  refine fw_cS_i_p (As := [.int x1, .int (0 : Int32), .int (4 : Int32)]) (rest := []) ⟨hx, hb, hml, hown, hts⟩ (cc_X9_in l G had h) (⟨callB_of 3 hts ggX9_statistic_X9_in rfl rfl rfl (hts (.initialized RX9) (by decide +kernel)) (hts (.methodLink RX9 80 yX9_in) (by decide +kernel)) (by decide +kernel) ⟨Nat.le_of_ble_eq_true rfl, Nat.le_of_ble_eq_true rfl⟩, hts (.static yX9_in) (by decide +kernel)⟩) hK hZ hF hS hA rfl hl.1 rfl (Nat.le_of_ble_eq_true rfl) dX9_statistic_3 ⟨Nat.zero_le _, Nat.zero_le _⟩ (fun r_16 H locs h hF hS => ?_)
  obtain ⟨h1, h2⟩ := h
  refine lv_if_ne (tgt := 15) hx hb dX9_statistic_6 (by decide) (fun c_17 => ?_) (fun c_17 => ?_)
  · have h := h1 c_17
    refine lv_iconst (v := (0 : Int32)) hx hb dX9_statistic_15 (by decide) ?_
    refine lv_istore_n (lv' := [(2, .int (0 : Int32)), (0, .ref mo), (1, .int x1)]) hx hb dX9_statistic_16 rfl hl (by decide) rfl (fun ls hl => ?_)
    refine lv_iconst (v := (0 : Int32)) hx hb dX9_statistic_17 (by decide) ?_
    refine lv_istore_n (lv' := [(3, .int (0 : Int32)), (2, .int (0 : Int32)), (0, .ref mo), (1, .int x1)]) hx hb dX9_statistic_18 rfl hl (by decide) rfl (fun ls hl => ?_)
    obtain ⟨n_18, h⟩ := h
    exact L19 n_18 (0 : Int32) (0 : Int32) n g _ _ _ h hF hS (lv_sub hl [2, 3, 1, 0] rfl)
  · have h := h2 c_17
    refine lv_aload_n hx hb dX9_statistic_9 rfl (lv_at hl 0 rfl) ?_
    refine lv_iconst (v := (1 : Int32)) hx hb dX9_statistic_10 (by decide) ?_
    refine fw_cV_i (As := [.int (1 : Int32)]) (rest := []) ⟨hx, hb, hml, hown, hts⟩ (cc_X9_fails l G had h) (⟨callB_of 1 hts ggX9_statistic_X9_fails rfl rfl rfl (hts (.initialized RX9) (by decide +kernel)) (hts (.methodLink RX9 84 yX9_fails) (by decide +kernel)) (by decide +kernel) ⟨Nat.le_of_ble_eq_true rfl, Nat.le_of_ble_eq_true rfl⟩, hts (.instanceMethod yX9_fails) (by decide +kernel), hts (.selects RX9 yX9_fails yX9_fails) (by decide +kernel)⟩) rfl mf_obj hK hZ hF hS hA rfl hl.1 rfl (Nat.le_of_ble_eq_true rfl) dX9_statistic_11 ⟨Nat.zero_le _, Nat.zero_le _⟩ (fun r_19 f9 H locs h hF hS => ?_)
    obtain ⟨n_21, g_22, rfl, h⟩ := h
    exact W.iret (v := r_19) hx hb hr (fun t ht hW => ⟨⟨r_19, (mf mo ad n_21 g_22), rfl, ⟨_, _, rfl, h⟩, by rw [ht]; exact hF, FK.moved hW.alike hK⟩, hS.F ht⟩) hS.2.2 dX9_statistic_14
theorem dX9_swapBound_0 : decode cX9_swapBound 0 = .ok (.iconst 0, 1) := by decide +kernel
theorem dX9_swapBound_1 : decode cX9_swapBound 1 = .ok (.istore_n 1, 1) := by decide +kernel
theorem dX9_swapBound_2 : decode cX9_swapBound 2 = .ok (.iload_n 1, 1) := by decide +kernel
theorem dX9_swapBound_3 : decode cX9_swapBound 3 = .ok (.bipush 12, 2) := by decide +kernel
theorem dX9_swapBound_5 : decode cX9_swapBound 5 = .ok (.if_icmp .ge 35, 3) := by decide +kernel
theorem dX9_swapBound_8 : decode cX9_swapBound 8 = .ok (.aload_n 0, 1) := by decide +kernel
theorem dX9_swapBound_9 : decode cX9_swapBound 9 = .ok (.getfield 7, 3) := by decide +kernel
theorem dX9_swapBound_12 : decode cX9_swapBound 12 = .ok (.iload_n 1, 1) := by decide +kernel
theorem dX9_swapBound_13 : decode cX9_swapBound 13 = .ok (.iaload, 1) := by decide +kernel
theorem dX9_swapBound_14 : decode cX9_swapBound 14 = .ok (.istore_n 2, 1) := by decide +kernel
theorem dX9_swapBound_15 : decode cX9_swapBound 15 = .ok (.aload_n 0, 1) := by decide +kernel
theorem dX9_swapBound_16 : decode cX9_swapBound 16 = .ok (.getfield 7, 3) := by decide +kernel
theorem dX9_swapBound_19 : decode cX9_swapBound 19 = .ok (.iload_n 1, 1) := by decide +kernel
theorem dX9_swapBound_20 : decode cX9_swapBound 20 = .ok (.aload_n 0, 1) := by decide +kernel
theorem dX9_swapBound_21 : decode cX9_swapBound 21 = .ok (.getfield 13, 3) := by decide +kernel
theorem dX9_swapBound_24 : decode cX9_swapBound 24 = .ok (.iload_n 1, 1) := by decide +kernel
theorem dX9_swapBound_25 : decode cX9_swapBound 25 = .ok (.iaload, 1) := by decide +kernel
theorem dX9_swapBound_26 : decode cX9_swapBound 26 = .ok (.iastore, 1) := by decide +kernel
theorem dX9_swapBound_27 : decode cX9_swapBound 27 = .ok (.aload_n 0, 1) := by decide +kernel
theorem dX9_swapBound_28 : decode cX9_swapBound 28 = .ok (.getfield 13, 3) := by decide +kernel
theorem dX9_swapBound_31 : decode cX9_swapBound 31 = .ok (.iload_n 1, 1) := by decide +kernel
theorem dX9_swapBound_32 : decode cX9_swapBound 32 = .ok (.iload_n 2, 1) := by decide +kernel
theorem dX9_swapBound_33 : decode cX9_swapBound 33 = .ok (.iastore, 1) := by decide +kernel
theorem dX9_swapBound_34 : decode cX9_swapBound 34 = .ok (.iinc 1 1, 3) := by decide +kernel
theorem dX9_swapBound_37 : decode cX9_swapBound 37 = .ok (.goto (-35), 3) := by decide +kernel
theorem dX9_swapBound_40 : decode cX9_swapBound 40 = .ok (.aload_n 0, 1) := by decide +kernel
theorem dX9_swapBound_41 : decode cX9_swapBound 41 = .ok (.getfield 88, 3) := by decide +kernel
theorem dX9_swapBound_44 : decode cX9_swapBound 44 = .ok (.istore_n 1, 1) := by decide +kernel
theorem dX9_swapBound_45 : decode cX9_swapBound 45 = .ok (.aload_n 0, 1) := by decide +kernel
theorem dX9_swapBound_46 : decode cX9_swapBound 46 = .ok (.aload_n 0, 1) := by decide +kernel
theorem dX9_swapBound_47 : decode cX9_swapBound 47 = .ok (.getfield 96, 3) := by decide +kernel
theorem dX9_swapBound_50 : decode cX9_swapBound 50 = .ok (.putfield 88, 3) := by decide +kernel
theorem dX9_swapBound_53 : decode cX9_swapBound 53 = .ok (.aload_n 0, 1) := by decide +kernel
theorem dX9_swapBound_54 : decode cX9_swapBound 54 = .ok (.iload_n 1, 1) := by decide +kernel
theorem dX9_swapBound_55 : decode cX9_swapBound 55 = .ok (.putfield 96, 3) := by decide +kernel
theorem dX9_swapBound_58 : decode cX9_swapBound 58 = .ok (.aload_n 0, 1) := by decide +kernel
theorem dX9_swapBound_59 : decode cX9_swapBound 59 = .ok (.aload_n 0, 1) := by decide +kernel
theorem dX9_swapBound_60 : decode cX9_swapBound 60 = .ok (.getfield 88, 3) := by decide +kernel
theorem dX9_swapBound_63 : decode cX9_swapBound 63 = .ok (.invokevirtual 91, 3) := by decide +kernel
theorem dX9_swapBound_66 : decode cX9_swapBound 66 = .ok (.ireturn, 1) := by decide +kernel
set_option maxRecDepth 20000 in
theorem ggX9_swapBound_X9_done : GoodIn wsX9_swapBound wsX9_done := goodIn_r _ [9, 10, 11, 12, 13, 14, 15, 16, 17, 18, 19, 20, 21, 22, 23, 24, 25, 26, 27, 28, 29, 30, 31, 32, 33, 34, 35, 36, 37, 38, 39, 40, 41, 42, 43, 44] (by decide +kernel) (by decide +kernel)
def wp_X9_swapBound_2  (K : Int32 → (Nat → Int32) → (Nat → Nat → Int32) → Prop)  (C2 : Int32 × (Nat → Int32) × (Nat → Nat → Int32) → Prop) : Int32 × (Nat → Int32) × (Nat → Nat → Int32) → Prop := fun s9 => match s9 with
  | (y1, n, g) => (((12 : Int32) ≤ y1 → ∀ v_2 : Int32, v_2 = (n 1) → ∀ n_4 : Nat → Int32, n_4 = upd n 1 (n 3) → ∀ n_5 : Nat → Int32, n_5 = upd n_4 3 v_2 → wp_X9_done (n_5 1) n_5 g (fun r_6 n_8 g_9 => K r_6 n_8 g_9)) ∧
 (¬ ((12 : Int32) ≤ y1) → vp_in y1 (mlen 2) ∧ ∀ v_11 : Int32, v_11 = g 2 (y1).toNatClampNeg → vp_in y1 (mlen 4) ∧ ∀ v_13 : Int32, v_13 = g 4 (y1).toNatClampNeg → vp_in y1 (mlen 2) ∧ ∀ g_15 : Nat → Nat → Int32, g_15 = mup g 2 (y1).toNatClampNeg v_13 → vp_in y1 (mlen 4) ∧ ∀ g_17 : Nat → Nat → Int32, g_17 = mup g_15 4 (y1).toNatClampNeg v_11 → ∀ v_18 : Int32, v_18 = y1 + 1 → C2 (v_18, n, g_17)))
def wp_X9_swapBound  (n : Nat → Int32) (g : Nat → Nat → Int32) (K : Int32 → (Nat → Int32) → (Nat → Nat → Int32) → Prop) : Prop :=
  ∃ n_20, loopW (wp_X9_swapBound_2 K) n_20 ((0 : Int32), n, g)
set_option maxHeartbeats 4000000 in
set_option maxRecDepth 100000 in
theorem cc_X9_swapBound (l : Launch) (G : GG) {mo : Nat} {ad : Nat → Nat} (had : MAd mo ad) {n : Nat → Int32} {g : Nat → Nat → Int32} {sz : Nat}  {K : Int32 → (Nat → Int32) → (Nat → Nat → Int32) → Prop} (h : wp_X9_swapBound  n g K) : Met l yX9_swapBound wsX9_swapBound ({ frames := 1, cells := 0, slots := 0, locals := 21 } : Room) (FP G [.ref mo] (mf mo ad n g) sz) (va_Qi (fun r f9 => ∃ n9 g9, f9 = mf mo ad n9 g9 ∧ K r n9 g9 : Int32 → FT → Prop) (FB G (fA (mf mo ad n g) sz)) (fA (mf mo ad n g) sz)) 0 0 (fA (mf mo ad n g) sz) := by
  refine Met.ofW (cc := cX9_swapBound) (maxL := 3) (ret := (some .int)) (by decide) rfl ?_
  intro p e s m args below meth c s₁ B hml hv
  obtain ⟨rfl, hsz, hF, hK, hZ⟩ := hv
  have hx := B.exec
  have hb := B.bytes
  have hr := B.returns
  have hts := atoms_spec (ws := wsX9_swapBound) B.pre
  have hown : s.vm.findClass RX9 = some m.cls := findClass_of_methodNamed B.named
  have hlocks := B.notSynchronized
  subst hsz
  have hF := hF.self (sz := s.heap.size)
  generalize hAe : fA (mf mo ad n g) s.heap.size = A at hF hZ ⊢
  have hA : ∀ q : Nat, s.heap.size ≤ q → A q := fun q h => by rw [← hAe]; exact Or.inr h
  have hS : va_S A s.heap s.heap [] := va_S.rf
  have hin_X9 : ∀ w ∈ wsX90, w ∈ wsX9_swapBound := by decide +kernel
  have L2 : ∀  (j9 : Nat) (y1 : Int32) (n : Nat → Int32) (g : Nat → Nat → Int32) (H : Heap) (locs : List Loc) (ls : Array Slot), loopW (wp_X9_swapBound_2  K ) j9 (y1, n, g) → Fw G A (mf mo ad n g) H → va_S A s.heap H locs → lv_has ls 3 [(0, .ref mo), (1, .int y1)] → W p l e ({ frames := 1, cells := 0, slots := 0, locals := 21 } : Room) s m ([.ref mo] : List Value).toArray below meth c H locs 0 0 (MQ below (va_Qi (fun r f9 => ∃ n9 g9, f9 = mf mo ad n9 g9 ∧ K r n9 g9 : Int32 → FT → Prop) (FB G A) A) ([.ref mo] : List Value).toArray s 0 0 A) (F0 m 2 ls []) := by
    intro  j9
    induction j9 with
    | zero => intro y1 n g H locs ls h; exact h.elim
    | succ j9 ih2 =>
      intro y1 n g H locs ls h hF hS hl
      have h : wp_X9_swapBound_2  K  (loopW (wp_X9_swapBound_2  K ) j9) (y1, n, g) := h
      generalize loopW (wp_X9_swapBound_2  K ) j9 = C2 at ih2 h
      unfold wp_X9_swapBound_2 at h
      refine lv_iload_n hx hb dX9_swapBound_2 rfl (lv_at hl 1 rfl) ?_
      refine lv_bipush (v := (12 : Int32)) hx hb dX9_swapBound_3 (by decide) ?_
      obtain ⟨h1, h2⟩ := h
      refine lv_icmp_ge (tgt := 40) hx hb dX9_swapBound_5 (by decide) (fun c_1 => ?_) (fun c_1 => ?_)
      · have h := h1 c_1
        refine lv_aload_n hx hb dX9_swapBound_40 rfl (lv_at hl 0 rfl) ?_
        refine fw_get (C := RX9) (T := TX9) (N := 34) hx hb hts hin_X9 hown hK hF mf_obj rfl 1 (by decide) (hts (.fieldLink RX9 88 "FrontCodedIndexModel" "keySize" "I") (by decide +kernel)) (fun _ h9 => h9) rfl dX9_swapBound_41 ?_
        refine lv_topi (fun v_2 e_3 => ?_)
        have h := h v_2 e_3
        refine lv_istore_n (lv' := [(1, .int v_2), (0, .ref mo)]) hx hb dX9_swapBound_44 rfl hl (by decide) rfl (fun ls hl => ?_)
        refine lv_aload_n hx hb dX9_swapBound_45 rfl (lv_at hl 1 rfl) ?_
        refine lv_aload_n hx hb dX9_swapBound_46 rfl (lv_at hl 1 rfl) ?_
        refine fw_get (C := RX9) (T := TX9) (N := 34) hx hb hts hin_X9 hown hK hF mf_obj rfl 3 (by decide) (hts (.fieldLink RX9 96 "FrontCodedIndexModel" "boundSize" "I") (by decide +kernel)) (fun _ h9 => h9) rfl dX9_swapBound_47 ?_
        refine fw_put (v := .int (n 3)) (ty := .int) (C := RX9) (T := TX9) (N := 34) hx hb hts hin_X9 tyX9 tyX9_ok nmX9 hown hK hF hS mf_obj rfl 1 (by decide) (hts (.fieldLink RX9 88 "FrontCodedIndexModel" "keySize" "I") (by decide +kernel)) (fun _ h9 => h9) rfl (by decide +kernel) rfl rfl (show 1 < 34 by decide) dX9_swapBound_50 (fun H locs hF hS => ?_)
        rw [mf_put 1 (n 3) rfl] at hF
        obtain ⟨n_4, hn_n_4⟩ : ∃ z, z = upd n 1 (n 3) := ⟨_, rfl⟩
        rw [← hn_n_4] at hF; have h := h n_4 hn_n_4
        refine lv_aload_n hx hb dX9_swapBound_53 rfl (lv_at hl 1 rfl) ?_
        refine lv_iload_n hx hb dX9_swapBound_54 rfl (lv_at hl 0 rfl) ?_
        refine fw_put (v := .int v_2) (ty := .int) (C := RX9) (T := TX9) (N := 34) hx hb hts hin_X9 tyX9 tyX9_ok nmX9 hown hK hF hS mf_obj rfl 3 (by decide) (hts (.fieldLink RX9 96 "FrontCodedIndexModel" "boundSize" "I") (by decide +kernel)) (fun _ h9 => h9) rfl (by decide +kernel) rfl rfl (show 3 < 34 by decide) dX9_swapBound_55 (fun H locs hF hS => ?_)
        rw [mf_put 3 v_2 rfl] at hF
        obtain ⟨n_5, hn_n_5⟩ : ∃ z, z = upd n_4 3 v_2 := ⟨_, rfl⟩
        rw [← hn_n_5] at hF; have h := h n_5 hn_n_5
        refine lv_aload_n hx hb dX9_swapBound_58 rfl (lv_at hl 1 rfl) ?_
        refine lv_aload_n hx hb dX9_swapBound_59 rfl (lv_at hl 1 rfl) ?_
        refine fw_get (C := RX9) (T := TX9) (N := 34) hx hb hts hin_X9 hown hK hF mf_obj rfl 1 (by decide) (hts (.fieldLink RX9 88 "FrontCodedIndexModel" "keySize" "I") (by decide +kernel)) (fun _ h9 => h9) rfl dX9_swapBound_60 ?_
        refine fw_cV_i (As := [.int (n_5 1)]) (rest := []) ⟨hx, hb, hml, hown, hts⟩ (cc_X9_done l G had h) (⟨callB_of 1 hts ggX9_swapBound_X9_done rfl rfl rfl (hts (.initialized RX9) (by decide +kernel)) (hts (.methodLink RX9 91 yX9_done) (by decide +kernel)) (by decide +kernel) ⟨Nat.le_of_ble_eq_true rfl, Nat.le_of_ble_eq_true rfl⟩, hts (.instanceMethod yX9_done) (by decide +kernel), hts (.selects RX9 yX9_done yX9_done) (by decide +kernel)⟩) rfl mf_obj hK hZ hF hS hA rfl hl.1 rfl (Nat.le_of_ble_eq_true rfl) dX9_swapBound_63 ⟨Nat.zero_le _, Nat.zero_le _⟩ (fun r_6 f9 H locs h hF hS => ?_)
        obtain ⟨n_8, g_9, rfl, h⟩ := h
        exact W.iret (v := r_6) hx hb hr (fun t ht hW => ⟨⟨r_6, (mf mo ad n_8 g_9), rfl, ⟨_, _, rfl, h⟩, by rw [ht]; exact hF, FK.moved hW.alike hK⟩, hS.F ht⟩) hS.2.2 dX9_swapBound_66
      · have h := h2 c_1
        refine lv_aload_n hx hb dX9_swapBound_8 rfl (lv_at hl 0 rfl) ?_
        refine fw_get (C := RX9) (T := TX9) (N := 34) hx hb hts hin_X9 hown hK hF mf_obj rfl 2 (by decide) (hts (.fieldLink RX9 7 "FrontCodedIndexModel" "key" "[I") (by decide +kernel)) (fun _ h9 => h9) rfl dX9_swapBound_9 ?_
        refine lv_iload_n hx hb dX9_swapBound_12 rfl (lv_at hl 1 rfl) ?_
        obtain ⟨hi_i_10, h⟩ := h
        refine fw_iald hx hb hK hF (mf_arr had 2 (by decide)) hi_i_10 dX9_swapBound_13 ?_
        refine lv_topi (fun v_11 e_v_11 => ?_)
        have h := h v_11 e_v_11
        refine lv_istore_n (lv' := [(2, .int v_11), (0, .ref mo), (1, .int y1)]) hx hb dX9_swapBound_14 rfl hl (by decide) rfl (fun ls hl => ?_)
        refine lv_aload_n hx hb dX9_swapBound_15 rfl (lv_at hl 1 rfl) ?_
        refine fw_get (C := RX9) (T := TX9) (N := 34) hx hb hts hin_X9 hown hK hF mf_obj rfl 2 (by decide) (hts (.fieldLink RX9 7 "FrontCodedIndexModel" "key" "[I") (by decide +kernel)) (fun _ h9 => h9) rfl dX9_swapBound_16 ?_
        refine lv_iload_n hx hb dX9_swapBound_19 rfl (lv_at hl 2 rfl) ?_
        refine lv_aload_n hx hb dX9_swapBound_20 rfl (lv_at hl 1 rfl) ?_
        refine fw_get (C := RX9) (T := TX9) (N := 34) hx hb hts hin_X9 hown hK hF mf_obj rfl 4 (by decide) (hts (.fieldLink RX9 13 "FrontCodedIndexModel" "bound" "[I") (by decide +kernel)) (fun _ h9 => h9) rfl dX9_swapBound_21 ?_
        refine lv_iload_n hx hb dX9_swapBound_24 rfl (lv_at hl 2 rfl) ?_
        obtain ⟨hi_i_12, h⟩ := h
        refine fw_iald hx hb hK hF (mf_arr had 4 (by decide)) hi_i_12 dX9_swapBound_25 ?_
        refine lv_topi (fun v_13 e_v_13 => ?_)
        have h := h v_13 e_v_13
        obtain ⟨hi_i_14, h⟩ := h
        refine fw_iast hx hb hK hF hS (mf_arr had 2 (by decide)) hi_i_14 dX9_swapBound_26 (fun H locs hF hS => ?_)
        rw [mf_st had 2 (by decide)] at hF
        obtain ⟨g_15, hg_g_15⟩ : ∃ z, z = mup g 2 (y1).toNatClampNeg v_13 := ⟨_, rfl⟩
        rw [← hg_g_15] at hF; have h := h g_15 hg_g_15
        refine lv_aload_n hx hb dX9_swapBound_27 rfl (lv_at hl 1 rfl) ?_
        refine fw_get (C := RX9) (T := TX9) (N := 34) hx hb hts hin_X9 hown hK hF mf_obj rfl 4 (by decide) (hts (.fieldLink RX9 13 "FrontCodedIndexModel" "bound" "[I") (by decide +kernel)) (fun _ h9 => h9) rfl dX9_swapBound_28 ?_
        refine lv_iload_n hx hb dX9_swapBound_31 rfl (lv_at hl 2 rfl) ?_
        refine lv_iload_n hx hb dX9_swapBound_32 rfl (lv_at hl 0 rfl) ?_
        obtain ⟨hi_i_16, h⟩ := h
        refine fw_iast hx hb hK hF hS (mf_arr had 4 (by decide)) hi_i_16 dX9_swapBound_33 (fun H locs hF hS => ?_)
        rw [mf_st had 4 (by decide)] at hF
        obtain ⟨g_17, hg_g_17⟩ : ∃ z, z = mup g_15 4 (y1).toNatClampNeg v_11 := ⟨_, rfl⟩
        rw [← hg_g_17] at hF; have h := h g_17 hg_g_17
        obtain ⟨v_18, e_19⟩ : ∃ y : Int32, y = y1 + 1 := ⟨_, rfl⟩
        have h := h v_18 e_19
        refine lv_iinc (v := v_18) (lv' := [(1, .int v_18), (2, .int v_11), (0, .ref mo)]) hx hb dX9_swapBound_34 hl (k := 2) rfl (by rw [e_19]; rfl) (by decide) rfl (fun ls hl => ?_)
        refine lv_goto (tgt := 2) hx hb dX9_swapBound_37 (by decide) ?_
        exact ih2 v_18 n g_17 _ _ _ h hF hS (lv_sub hl [2, 0] rfl)
  have hl := lv_entry ([.ref mo]) (n := 3) (Nat.le_of_ble_eq_true rfl)
  rw [lg_entry_eq]
  generalize (lg_sl ([.ref mo]) ++ List.replicate (3 - (lg_sl ([.ref mo])).length) Slot.unset).toArray = ls at hl ⊢
  have hl : lv_has ls 3 [(0, .ref mo)] := hl
  unfold wp_X9_swapBound at h
  refine lv_iconst (v := (0 : Int32)) hx hb dX9_swapBound_0 (by decide) ?_
  refine lv_istore_n (lv' := [(1, .int (0 : Int32)), (0, .ref mo)]) hx hb dX9_swapBound_1 rfl hl (by decide) rfl (fun ls hl => ?_)
  obtain ⟨n_20, h⟩ := h
  exact L2 n_20 (0 : Int32) n g _ _ _ h hF hS (lv_sub hl [1, 0] rfl)
