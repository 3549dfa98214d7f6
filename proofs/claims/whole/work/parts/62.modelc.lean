theorem dX9_lastLeaf_0 : decode cX9_lastLeaf 0 = .ok (.iload_n 2, 1) := by decide +kernel
theorem dX9_lastLeaf_1 : decode cX9_lastLeaf 1 = .ok (.iconst 1, 1) := by decide +kernel
theorem dX9_lastLeaf_2 : decode cX9_lastLeaf 2 = .ok (.iadd, 1) := by decide +kernel
theorem dX9_lastLeaf_3 : decode cX9_lastLeaf 3 = .ok (.istore_n 3, 1) := by decide +kernel
theorem dX9_lastLeaf_4 : decode cX9_lastLeaf 4 = .ok (.iload_n 1, 1) := by decide +kernel
theorem dX9_lastLeaf_5 : decode cX9_lastLeaf 5 = .ok (.istore 4, 2) := by decide +kernel
theorem dX9_lastLeaf_7 : decode cX9_lastLeaf 7 = .ok (.iload 4, 2) := by decide +kernel
theorem dX9_lastLeaf_9 : decode cX9_lastLeaf 9 = .ok (.ifCond .le 17, 3) := by decide +kernel
theorem dX9_lastLeaf_12 : decode cX9_lastLeaf 12 = .ok (.aload_n 0, 1) := by decide +kernel
theorem dX9_lastLeaf_13 : decode cX9_lastLeaf 13 = .ok (.iload 4, 2) := by decide +kernel
theorem dX9_lastLeaf_15 : decode cX9_lastLeaf 15 = .ok (.iload_n 3, 1) := by decide +kernel
theorem dX9_lastLeaf_16 : decode cX9_lastLeaf 16 = .ok (.invokevirtual 117, 3) := by decide +kernel
theorem dX9_lastLeaf_19 : decode cX9_lastLeaf 19 = .ok (.istore_n 3, 1) := by decide +kernel
theorem dX9_lastLeaf_20 : decode cX9_lastLeaf 20 = .ok (.iinc 4 (-1), 3) := by decide +kernel
theorem dX9_lastLeaf_23 : decode cX9_lastLeaf 23 = .ok (.goto (-16), 3) := by decide +kernel
theorem dX9_lastLeaf_26 : decode cX9_lastLeaf 26 = .ok (.iload_n 3, 1) := by decide +kernel
theorem dX9_lastLeaf_27 : decode cX9_lastLeaf 27 = .ok (.iconst 1, 1) := by decide +kernel
theorem dX9_lastLeaf_28 : decode cX9_lastLeaf 28 = .ok (.isub, 1) := by decide +kernel
theorem dX9_lastLeaf_29 : decode cX9_lastLeaf 29 = .ok (.ireturn, 1) := by decide +kernel
set_option maxRecDepth 20000 in
theorem ggX9_lastLeaf_X9_firstOf : GoodIn wsX9_lastLeaf wsX9_firstOf := goodIn_r _ [5, 6, 7, 8, 4, 9, 10, 11, 12, 13, 14, 15, 16, 17, 18, 19, 20, 21, 22, 23, 24, 25, 26, 27, 28, 29, 30, 31, 32, 33, 34, 35, 36, 37, 38, 39, 40, 41, 42, 43] (by decide +kernel) (by decide +kernel)
def wp_X9_lastLeaf_7  (n : Nat → Int32) (g : Nat → Nat → Int32) (K : Int32 → Prop)  (C7 : Int32 × Int32 → Prop) : Int32 × Int32 → Prop := fun s9 => match s9 with
  | (y3, y4) => ((y4 ≤ (0 : Int32) → K (y3 - (1 : Int32))) ∧
 (¬ (y4 ≤ (0 : Int32)) → wp_X9_firstOf y4 y3 n g (fun r_2 => ∀ v_3 : Int32, v_3 = y4 + (-1) → C7 (r_2, v_3))))
def wp_X9_lastLeaf (x1 : Int32) (x2 : Int32) (n : Nat → Int32) (g : Nat → Nat → Int32) (K : Int32 → Prop) : Prop :=
  ∀ v_5 : Int32, v_5 = (x2 + (1 : Int32)) → ∃ n_7, loopW (wp_X9_lastLeaf_7 n g K) n_7 (v_5, x1)
set_option maxHeartbeats 4000000 in
set_option maxRecDepth 100000 in
theorem cc_X9_lastLeaf (l : Launch) (G : GG) {mo : Nat} {ad : Nat → Nat} (had : MAd mo ad) {n : Nat → Int32} {g : Nat → Nat → Int32} {sz : Nat} {x1 : Int32} {x2 : Int32} {K : Int32 → Prop} (h : wp_X9_lastLeaf x1 x2 n g K) : Met l yX9_lastLeaf wsX9_lastLeaf ({ frames := 2, cells := 0, slots := 0, locals := 45 } : Room) (FP G [.ref mo, .int x1, .int x2] (mf mo ad n g) sz) (va_Qi (fun r f9 => K r ∧ f9 = mf mo ad n g : Int32 → FT → Prop) (FB G (fA (mf mo ad n g) sz)) (fA (mf mo ad n g) sz)) 0 0 (fA (mf mo ad n g) sz) := by
  refine Met.ofW (cc := cX9_lastLeaf) (maxL := 5) (ret := (some .int)) (by decide) rfl ?_
  intro p e s m args below meth c s₁ B hml hv
  obtain ⟨rfl, hsz, hF, hK, hZ⟩ := hv
  have hx := B.exec
  have hb := B.bytes
  have hr := B.returns
  have hts := atoms_spec (ws := wsX9_lastLeaf) B.pre
  have hown : s.vm.findClass RX9 = some m.cls := findClass_of_methodNamed B.named
  have hlocks := B.notSynchronized
  subst hsz
  have hF := hF.self (sz := s.heap.size)
  generalize hAe : fA (mf mo ad n g) s.heap.size = A at hF hZ ⊢
  have hA : ∀ q : Nat, s.heap.size ≤ q → A q := fun q h => by rw [← hAe]; exact Or.inr h
  have hS : va_S A s.heap s.heap [] := va_S.rf
  have L7 : ∀  (j9 : Nat) (y3 : Int32) (y4 : Int32) (H : Heap) (locs : List Loc) (ls : Array Slot), loopW (wp_X9_lastLeaf_7  n g K ) j9 (y3, y4) → Fw G A (mf mo ad n g) H → va_S A s.heap H locs → lv_has ls 5 [(0, .ref mo), (3, .int y3), (4, .int y4)] → W p l e ({ frames := 2, cells := 0, slots := 0, locals := 45 } : Room) s m ([.ref mo, .int x1, .int x2] : List Value).toArray below meth c H locs 0 0 (MQ below (va_Qi (fun r f9 => K r ∧ f9 = mf mo ad n g : Int32 → FT → Prop) (FB G A) A) ([.ref mo, .int x1, .int x2] : List Value).toArray s 0 0 A) (F0 m 7 ls []) := by
    intro  j9
    induction j9 with
    | zero => intro y3 y4 H locs ls h; exact h.elim
    | succ j9 ih7 =>
      intro y3 y4 H locs ls h hF hS hl
      have h : wp_X9_lastLeaf_7  n g K  (loopW (wp_X9_lastLeaf_7  n g K ) j9) (y3, y4) := h
      generalize loopW (wp_X9_lastLeaf_7  n g K ) j9 = C7 at ih7 h
      unfold wp_X9_lastLeaf_7 at h
      refine lv_iload hx hb dX9_lastLeaf_7 (lv_at hl 2 rfl) ?_
      obtain ⟨h1, h2⟩ := h
      refine lv_if_le (tgt := 26) hx hb dX9_lastLeaf_9 (by decide) (fun c_1 => ?_) (fun c_1 => ?_)
      · have h := h1 c_1
        refine lv_iload_n hx hb dX9_lastLeaf_26 rfl (lv_at hl 1 rfl) ?_
        refine lv_iconst (v := (1 : Int32)) hx hb dX9_lastLeaf_27 (by decide) ?_
        refine lv_isub hx hb dX9_lastLeaf_28 ?_
        exact W.iret (v := (y3 - (1 : Int32))) hx hb hr (fun t ht hW => ⟨⟨(y3 - (1 : Int32)), (mf mo ad n g), rfl, ⟨h, rfl⟩, by rw [ht]; exact hF, FK.moved hW.alike hK⟩, hS.F ht⟩) hS.2.2 dX9_lastLeaf_29
      · have h := h2 c_1
        refine lv_aload_n hx hb dX9_lastLeaf_12 rfl (lv_at hl 0 rfl) ?_
        refine lv_iload hx hb dX9_lastLeaf_13 (lv_at hl 2 rfl) ?_
        refine lv_iload_n hx hb dX9_lastLeaf_15 rfl (lv_at hl 1 rfl) ?_
        refine fw_cV_i_p (As := [.int y4, .int y3]) (rest := []) ⟨hx, hb, hml, hown, hts⟩ (cc_X9_firstOf l G had h) (⟨callB_of 2 hts ggX9_lastLeaf_X9_firstOf rfl rfl rfl (hts (.initialized RX9) (by decide +kernel)) (hts (.methodLink RX9 117 yX9_firstOf) (by decide +kernel)) (by decide +kernel) ⟨Nat.le_of_ble_eq_true rfl, Nat.le_of_ble_eq_true rfl⟩, hts (.instanceMethod yX9_firstOf) (by decide +kernel), hts (.selects RX9 yX9_firstOf yX9_firstOf) (by decide +kernel)⟩) rfl mf_obj hK hZ hF hS hA rfl hl.1 rfl (Nat.le_of_ble_eq_true rfl) dX9_lastLeaf_16 ⟨Nat.zero_le _, Nat.zero_le _⟩ (fun r_2 H locs h hF hS => ?_)
        refine lv_istore_n (lv' := [(3, .int r_2), (0, .ref mo), (4, .int y4)]) hx hb dX9_lastLeaf_19 rfl hl (by decide) rfl (fun ls hl => ?_)
        obtain ⟨v_3, e_4⟩ : ∃ y : Int32, y = y4 + (-1) := ⟨_, rfl⟩
        have h := h v_3 e_4
        refine lv_iinc (v := v_3) (lv' := [(4, .int v_3), (3, .int r_2), (0, .ref mo)]) hx hb dX9_lastLeaf_20 hl (k := 2) rfl (by rw [e_4]; rfl) (by decide) rfl (fun ls hl => ?_)
        refine lv_goto (tgt := 7) hx hb dX9_lastLeaf_23 (by decide) ?_
        exact ih7 r_2 v_3 _ _ _ h hF hS (lv_sub hl [2, 1, 0] rfl)
  have hl := lv_entry ([.ref mo, .int x1, .int x2]) (n := 5) (Nat.le_of_ble_eq_true rfl)
  rw [lg_entry_eq]
  generalize (lg_sl ([.ref mo, .int x1, .int x2]) ++ List.replicate (5 - (lg_sl ([.ref mo, .int x1, .int x2])).length) Slot.unset).toArray = ls at hl ⊢
  have hl : lv_has ls 5 [(0, .ref mo), (1, .int x1), (2, .int x2)] := hl
  unfold wp_X9_lastLeaf at h
  refine lv_iload_n hx hb dX9_lastLeaf_0 rfl (lv_at hl 2 rfl) ?_
  refine lv_iconst (v := (1 : Int32)) hx hb dX9_lastLeaf_1 (by decide) ?_
  refine lv_iadd hx hb dX9_lastLeaf_2 ?_
  refine lv_topi (fun v_5 e_6 => ?_)
  have h := h v_5 e_6
  refine lv_istore_n (lv' := [(3, .int v_5), (0, .ref mo), (1, .int x1), (2, .int x2)]) hx hb dX9_lastLeaf_3 rfl hl (by decide) rfl (fun ls hl => ?_)
  refine lv_iload_n hx hb dX9_lastLeaf_4 rfl (lv_at hl 2 rfl) ?_
  refine lv_istore (lv' := [(4, .int x1), (3, .int v_5), (0, .ref mo), (1, .int x1), (2, .int x2)]) hx hb dX9_lastLeaf_5 hl (by decide) rfl (fun ls hl => ?_)
  obtain ⟨n_7, h⟩ := h
  exact L7 n_7 v_5 x1 _ _ _ h hF hS (lv_sub hl [2, 1, 0] rfl)
theorem dX9_innerSize_0 : decode cX9_innerSize 0 = .ok (.bipush 8, 2) := by decide +kernel
theorem dX9_innerSize_2 : decode cX9_innerSize 2 = .ok (.iconst 4, 1) := by decide +kernel
theorem dX9_innerSize_3 : decode cX9_innerSize 3 = .ok (.iload_n 3, 1) := by decide +kernel
theorem dX9_innerSize_4 : decode cX9_innerSize 4 = .ok (.imul, 1) := by decide +kernel
theorem dX9_innerSize_5 : decode cX9_innerSize 5 = .ok (.iadd, 1) := by decide +kernel
theorem dX9_innerSize_6 : decode cX9_innerSize 6 = .ok (.istore 4, 2) := by decide +kernel
theorem dX9_innerSize_8 : decode cX9_innerSize 8 = .ok (.iconst (-1), 1) := by decide +kernel
theorem dX9_innerSize_9 : decode cX9_innerSize 9 = .ok (.istore 5, 2) := by decide +kernel
theorem dX9_innerSize_11 : decode cX9_innerSize 11 = .ok (.iload_n 2, 1) := by decide +kernel
theorem dX9_innerSize_12 : decode cX9_innerSize 12 = .ok (.istore 6, 2) := by decide +kernel
theorem dX9_innerSize_14 : decode cX9_innerSize 14 = .ok (.iload 6, 2) := by decide +kernel
theorem dX9_innerSize_16 : decode cX9_innerSize 16 = .ok (.iload_n 2, 1) := by decide +kernel
theorem dX9_innerSize_17 : decode cX9_innerSize 17 = .ok (.iload_n 3, 1) := by decide +kernel
theorem dX9_innerSize_18 : decode cX9_innerSize 18 = .ok (.iadd, 1) := by decide +kernel
theorem dX9_innerSize_19 : decode cX9_innerSize 19 = .ok (.iconst 1, 1) := by decide +kernel
theorem dX9_innerSize_20 : decode cX9_innerSize 20 = .ok (.isub, 1) := by decide +kernel
theorem dX9_innerSize_21 : decode cX9_innerSize 21 = .ok (.if_icmp .ge 86, 3) := by decide +kernel
theorem dX9_innerSize_24 : decode cX9_innerSize 24 = .ok (.aload_n 0, 1) := by decide +kernel
theorem dX9_innerSize_25 : decode cX9_innerSize 25 = .ok (.iload_n 1, 1) := by decide +kernel
theorem dX9_innerSize_26 : decode cX9_innerSize 26 = .ok (.iload 6, 2) := by decide +kernel
theorem dX9_innerSize_28 : decode cX9_innerSize 28 = .ok (.invokevirtual 120, 3) := by decide +kernel
theorem dX9_innerSize_31 : decode cX9_innerSize 31 = .ok (.istore 7, 2) := by decide +kernel
theorem dX9_innerSize_33 : decode cX9_innerSize 33 = .ok (.iload 5, 2) := by decide +kernel
theorem dX9_innerSize_35 : decode cX9_innerSize 35 = .ok (.iconst (-1), 1) := by decide +kernel
theorem dX9_innerSize_36 : decode cX9_innerSize 36 = .ok (.if_icmp .ne 7, 3) := by decide +kernel
theorem dX9_innerSize_39 : decode cX9_innerSize 39 = .ok (.iconst 0, 1) := by decide +kernel
theorem dX9_innerSize_40 : decode cX9_innerSize 40 = .ok (.goto 38, 3) := by decide +kernel
theorem dX9_innerSize_43 : decode cX9_innerSize 43 = .ok (.aload_n 0, 1) := by decide +kernel
theorem dX9_innerSize_44 : decode cX9_innerSize 44 = .ok (.getfield 41, 3) := by decide +kernel
theorem dX9_innerSize_47 : decode cX9_innerSize 47 = .ok (.bipush 12, 2) := by decide +kernel
theorem dX9_innerSize_49 : decode cX9_innerSize 49 = .ok (.iload 5, 2) := by decide +kernel
theorem dX9_innerSize_51 : decode cX9_innerSize 51 = .ok (.imul, 1) := by decide +kernel
theorem dX9_innerSize_52 : decode cX9_innerSize 52 = .ok (.aload_n 0, 1) := by decide +kernel
theorem dX9_innerSize_53 : decode cX9_innerSize 53 = .ok (.getfield 38, 3) := by decide +kernel
theorem dX9_innerSize_56 : decode cX9_innerSize 56 = .ok (.iload 5, 2) := by decide +kernel
theorem dX9_innerSize_58 : decode cX9_innerSize 58 = .ok (.iaload, 1) := by decide +kernel
theorem dX9_innerSize_59 : decode cX9_innerSize 59 = .ok (.aload_n 0, 1) := by decide +kernel
theorem dX9_innerSize_60 : decode cX9_innerSize 60 = .ok (.getfield 41, 3) := by decide +kernel
theorem dX9_innerSize_63 : decode cX9_innerSize 63 = .ok (.bipush 12, 2) := by decide +kernel
theorem dX9_innerSize_65 : decode cX9_innerSize 65 = .ok (.iload 7, 2) := by decide +kernel
theorem dX9_innerSize_67 : decode cX9_innerSize 67 = .ok (.imul, 1) := by decide +kernel
theorem dX9_innerSize_68 : decode cX9_innerSize 68 = .ok (.aload_n 0, 1) := by decide +kernel
theorem dX9_innerSize_69 : decode cX9_innerSize 69 = .ok (.getfield 38, 3) := by decide +kernel
theorem dX9_innerSize_72 : decode cX9_innerSize 72 = .ok (.iload 7, 2) := by decide +kernel
theorem dX9_innerSize_74 : decode cX9_innerSize 74 = .ok (.iaload, 1) := by decide +kernel
theorem dX9_innerSize_75 : decode cX9_innerSize 75 = .ok (.invokestatic 99, 3) := by decide +kernel
theorem dX9_innerSize_78 : decode cX9_innerSize 78 = .ok (.istore 8, 2) := by decide +kernel
theorem dX9_innerSize_80 : decode cX9_innerSize 80 = .ok (.iload 4, 2) := by decide +kernel
theorem dX9_innerSize_82 : decode cX9_innerSize 82 = .ok (.iconst 3, 1) := by decide +kernel
theorem dX9_innerSize_83 : decode cX9_innerSize 83 = .ok (.aload_n 0, 1) := by decide +kernel
theorem dX9_innerSize_84 : decode cX9_innerSize 84 = .ok (.getfield 38, 3) := by decide +kernel
theorem dX9_innerSize_87 : decode cX9_innerSize 87 = .ok (.iload 7, 2) := by decide +kernel
theorem dX9_innerSize_89 : decode cX9_innerSize 89 = .ok (.iaload, 1) := by decide +kernel
theorem dX9_innerSize_90 : decode cX9_innerSize 90 = .ok (.iadd, 1) := by decide +kernel
theorem dX9_innerSize_91 : decode cX9_innerSize 91 = .ok (.iload 8, 2) := by decide +kernel
theorem dX9_innerSize_93 : decode cX9_innerSize 93 = .ok (.isub, 1) := by decide +kernel
theorem dX9_innerSize_94 : decode cX9_innerSize 94 = .ok (.iadd, 1) := by decide +kernel
theorem dX9_innerSize_95 : decode cX9_innerSize 95 = .ok (.istore 4, 2) := by decide +kernel
theorem dX9_innerSize_97 : decode cX9_innerSize 97 = .ok (.iload 7, 2) := by decide +kernel
theorem dX9_innerSize_99 : decode cX9_innerSize 99 = .ok (.istore 5, 2) := by decide +kernel
theorem dX9_innerSize_101 : decode cX9_innerSize 101 = .ok (.iinc 6 1, 3) := by decide +kernel
theorem dX9_innerSize_104 : decode cX9_innerSize 104 = .ok (.goto (-90), 3) := by decide +kernel
theorem dX9_innerSize_107 : decode cX9_innerSize 107 = .ok (.iload 4, 2) := by decide +kernel
theorem dX9_innerSize_109 : decode cX9_innerSize 109 = .ok (.ireturn, 1) := by decide +kernel
set_option maxRecDepth 20000 in
theorem ggX9_innerSize_X9_lastLeaf : GoodIn wsX9_innerSize wsX9_lastLeaf := goodIn_r _ [7, 8, 9, 10, 6, 11, 12, 13, 14, 15, 19, 20, 21, 22, 23, 24, 25, 26, 27, 28, 29, 30, 31, 32, 33, 34, 35, 36, 37, 38, 39, 40, 41, 42, 43, 44, 45, 46, 47, 48, 49, 50, 51, 52] (by decide +kernel) (by decide +kernel)
set_option maxRecDepth 20000 in
theorem ggX9_innerSize_X9_shared : GoodIn wsX9_innerSize wsX9_shared := goodIn_r _ [18] (by decide +kernel) (by decide +kernel)
def wp_X9_innerSize_78 (x1 : Int32) (x2 : Int32) (x3 : Int32) (y4 : Int32) (y6 : Int32) (y7 : Int32) (z0 : Int32) (n : Nat → Int32) (g : Nat → Nat → Int32) (K : Int32 → Prop) (C14 : Int32 × Int32 × Int32 → Prop) : Prop :=
  vp_in y7 (mlen 16) ∧ ∀ v_2 : Int32, v_2 = g 16 (y7).toNatClampNeg → ∀ v_3 : Int32, v_3 = (y4 + (((3 : Int32) + v_2) - z0)) → ∀ v_5 : Int32, v_5 = y6 + 1 → C14 (v_3, y7, v_5)
def wp_X9_innerSize_14 (x1 : Int32) (x2 : Int32) (x3 : Int32) (n : Nat → Int32) (g : Nat → Nat → Int32) (K : Int32 → Prop)  (C14 : Int32 × Int32 × Int32 → Prop) : Int32 × Int32 × Int32 → Prop := fun s9 => match s9 with
  | (y4, y5, y6) => ((((x2 + x3) - (1 : Int32)) ≤ y6 → K y4) ∧
 (¬ (((x2 + x3) - (1 : Int32)) ≤ y6) → wp_X9_lastLeaf x1 y6 n g (fun r_8 => ((¬ y5 = (-1 : Int32) → vp_in y5 (mlen 16) ∧ ∀ v_11 : Int32, v_11 = g 16 (y5).toNatClampNeg → vp_in r_8 (mlen 16) ∧ ∀ v_13 : Int32, v_13 = g 16 (r_8).toNatClampNeg → wp_X9_shared 17 ((12 : Int32) * y5) v_11 17 ((12 : Int32) * r_8) v_13 n g (fun r_14 => wp_X9_innerSize_78 x1 x2 x3 y4 y6 r_8 r_14 n g K C14)) ∧
 (y5 = (-1 : Int32) → wp_X9_innerSize_78 x1 x2 x3 y4 y6 r_8 (0 : Int32) n g K C14)))))
def wp_X9_innerSize (x1 : Int32) (x2 : Int32) (x3 : Int32) (n : Nat → Int32) (g : Nat → Nat → Int32) (K : Int32 → Prop) : Prop :=
  ∀ v_15 : Int32, v_15 = ((8 : Int32) + ((4 : Int32) * x3)) → ∃ n_17, loopW (wp_X9_innerSize_14 x1 x2 x3 n g K) n_17 (v_15, (-1 : Int32), x2)
set_option maxHeartbeats 4000000 in
set_option maxRecDepth 100000 in
theorem cc_X9_innerSize (l : Launch) (G : GG) {mo : Nat} {ad : Nat → Nat} (had : MAd mo ad) {n : Nat → Int32} {g : Nat → Nat → Int32} {sz : Nat} {x1 : Int32} {x2 : Int32} {x3 : Int32} {K : Int32 → Prop} (h : wp_X9_innerSize x1 x2 x3 n g K) : Met l yX9_innerSize wsX9_innerSize ({ frames := 3, cells := 0, slots := 0, locals := 69 } : Room) (FP G [.ref mo, .int x1, .int x2, .int x3] (mf mo ad n g) sz) (va_Qi (fun r f9 => K r ∧ f9 = mf mo ad n g : Int32 → FT → Prop) (FB G (fA (mf mo ad n g) sz)) (fA (mf mo ad n g) sz)) 0 0 (fA (mf mo ad n g) sz) := by
  refine Met.ofW (cc := cX9_innerSize) (maxL := 9) (ret := (some .int)) (by decide) rfl ?_
  intro p e s m args below meth c s₁ B hml hv
  obtain ⟨rfl, hsz, hF, hK, hZ⟩ := hv
  have hx := B.exec
  have hb := B.bytes
  have hr := B.returns
  have hts := atoms_spec (ws := wsX9_innerSize) B.pre
  have hown : s.vm.findClass RX9 = some m.cls := findClass_of_methodNamed B.named
  have hlocks := B.notSynchronized
  subst hsz
  have hF := hF.self (sz := s.heap.size)
  generalize hAe : fA (mf mo ad n g) s.heap.size = A at hF hZ ⊢
  have hA : ∀ q : Nat, s.heap.size ≤ q → A q := fun q h => by rw [← hAe]; exact Or.inr h
  have hS : va_S A s.heap s.heap [] := va_S.rf
  have hin_X9 : ∀ w ∈ wsX90, w ∈ wsX9_innerSize := by decide +kernel
  have L14 : ∀  (j9 : Nat) (y4 : Int32) (y5 : Int32) (y6 : Int32) (H : Heap) (locs : List Loc) (ls : Array Slot), loopW (wp_X9_innerSize_14 x1 x2 x3 n g K ) j9 (y4, y5, y6) → Fw G A (mf mo ad n g) H → va_S A s.heap H locs → lv_has ls 9 [(0, .ref mo), (1, .int x1), (2, .int x2), (3, .int x3), (4, .int y4), (5, .int y5), (6, .int y6)] → W p l e ({ frames := 3, cells := 0, slots := 0, locals := 69 } : Room) s m ([.ref mo, .int x1, .int x2, .int x3] : List Value).toArray below meth c H locs 0 0 (MQ below (va_Qi (fun r f9 => K r ∧ f9 = mf mo ad n g : Int32 → FT → Prop) (FB G A) A) ([.ref mo, .int x1, .int x2, .int x3] : List Value).toArray s 0 0 A) (F0 m 14 ls []) := by
    intro  j9
    induction j9 with
    | zero => intro y4 y5 y6 H locs ls h; exact h.elim
    | succ j9 ih14 =>
      intro y4 y5 y6 H locs ls h hF hS hl
      have h : wp_X9_innerSize_14 x1 x2 x3 n g K  (loopW (wp_X9_innerSize_14 x1 x2 x3 n g K ) j9) (y4, y5, y6) := h
      generalize loopW (wp_X9_innerSize_14 x1 x2 x3 n g K ) j9 = C14 at ih14 h
      unfold wp_X9_innerSize_14 at h
      have J78 : ∀ (y4 : Int32) (y6 : Int32) (y7 : Int32) (z0 : Int32) (H : Heap) (locs : List Loc) (ls : Array Slot), wp_X9_innerSize_78 x1 x2 x3 y4 y6 y7 z0 n g K C14 → Fw G A (mf mo ad n g) H → va_S A s.heap H locs → lv_has ls 9 [(0, .ref mo), (1, .int x1), (2, .int x2), (3, .int x3), (4, .int y4), (6, .int y6), (7, .int y7)] → W p l e ({ frames := 3, cells := 0, slots := 0, locals := 69 } : Room) s m ([.ref mo, .int x1, .int x2, .int x3] : List Value).toArray below meth c H locs 0 0 (MQ below (va_Qi (fun r f9 => K r ∧ f9 = mf mo ad n g : Int32 → FT → Prop) (FB G A) A) ([.ref mo, .int x1, .int x2, .int x3] : List Value).toArray s 0 0 A) (F0 m 78 ls [.int z0]) := by
        intro y4 y6 y7 z0 H locs ls h hF hS hl
        unfold wp_X9_innerSize_78 at h
        refine lv_istore (lv' := [(8, .int z0), (0, .ref mo), (1, .int x1), (2, .int x2), (3, .int x3), (4, .int y4), (6, .int y6), (7, .int y7)]) hx hb dX9_innerSize_78 hl (by decide) rfl (fun ls hl => ?_)
        refine lv_iload hx hb dX9_innerSize_80 (lv_at hl 5 rfl) ?_
        refine lv_iconst (v := (3 : Int32)) hx hb dX9_innerSize_82 (by decide) ?_
        refine lv_aload_n hx hb dX9_innerSize_83 rfl (lv_at hl 1 rfl) ?_
        refine fw_get (C := RX9) (T := TX9) (N := 34) hx hb hts hin_X9 hown hK hF mf_obj rfl 16 (by decide) (hts (.fieldLink RX9 38 "FrontCodedIndexModel" "sepSize" "[I") (by decide +kernel)) (fun _ h9 => h9) rfl dX9_innerSize_84 ?_
        refine lv_iload hx hb dX9_innerSize_87 (lv_at hl 7 rfl) ?_
        obtain ⟨hi_i_1, h⟩ := h
        refine fw_iald hx hb hK hF (mf_arr had 16 (by decide)) hi_i_1 dX9_innerSize_89 ?_
        refine lv_topi (fun v_2 e_v_2 => ?_)
        have h := h v_2 e_v_2
        refine lv_iadd hx hb dX9_innerSize_90 ?_
        refine lv_iload hx hb dX9_innerSize_91 (lv_at hl 0 rfl) ?_
        refine lv_isub hx hb dX9_innerSize_93 ?_
        refine lv_iadd hx hb dX9_innerSize_94 ?_
        refine lv_topi (fun v_3 e_4 => ?_)
        have h := h v_3 e_4
        refine lv_istore (lv' := [(4, .int v_3), (8, .int z0), (0, .ref mo), (1, .int x1), (2, .int x2), (3, .int x3), (6, .int y6), (7, .int y7)]) hx hb dX9_innerSize_95 hl (by decide) rfl (fun ls hl => ?_)
        refine lv_iload hx hb dX9_innerSize_97 (lv_at hl 7 rfl) ?_
        refine lv_istore (lv' := [(5, .int y7), (4, .int v_3), (8, .int z0), (0, .ref mo), (1, .int x1), (2, .int x2), (3, .int x3), (6, .int y6), (7, .int y7)]) hx hb dX9_innerSize_99 hl (by decide) rfl (fun ls hl => ?_)
        obtain ⟨v_5, e_6⟩ : ∃ y : Int32, y = y6 + 1 := ⟨_, rfl⟩
        have h := h v_5 e_6
        refine lv_iinc (v := v_5) (lv' := [(6, .int v_5), (5, .int y7), (4, .int v_3), (8, .int z0), (0, .ref mo), (1, .int x1), (2, .int x2), (3, .int x3), (7, .int y7)]) hx hb dX9_innerSize_101 hl (k := 7) rfl (by rw [e_6]; rfl) (by decide) rfl (fun ls hl => ?_)
        refine lv_goto (tgt := 14) hx hb dX9_innerSize_104 (by decide) ?_
        exact ih14 v_3 y7 v_5 _ _ _ h hF hS (lv_sub hl [4, 5, 6, 7, 2, 1, 0] rfl)
      refine lv_iload hx hb dX9_innerSize_14 (lv_at hl 6 rfl) ?_
      refine lv_iload_n hx hb dX9_innerSize_16 rfl (lv_at hl 2 rfl) ?_
      refine lv_iload_n hx hb dX9_innerSize_17 rfl (lv_at hl 3 rfl) ?_
      refine lv_iadd hx hb dX9_innerSize_18 ?_
      refine lv_iconst (v := (1 : Int32)) hx hb dX9_innerSize_19 (by decide) ?_
      refine lv_isub hx hb dX9_innerSize_20 ?_
      obtain ⟨h1, h2⟩ := h
      refine lv_icmp_ge (tgt := 107) hx hb dX9_innerSize_21 (by decide) (fun c_7 => ?_) (fun c_7 => ?_)
      · have h := h1 c_7
        refine lv_iload hx hb dX9_innerSize_107 (lv_at hl 4 rfl) ?_
        exact W.iret (v := y4) hx hb hr (fun t ht hW => ⟨⟨y4, (mf mo ad n g), rfl, ⟨h, rfl⟩, by rw [ht]; exact hF, FK.moved hW.alike hK⟩, hS.F ht⟩) hS.2.2 dX9_innerSize_109
      · have h := h2 c_7
        refine lv_aload_n hx hb dX9_innerSize_24 rfl (lv_at hl 0 rfl) ?_
        refine lv_iload_n hx hb dX9_innerSize_25 rfl (lv_at hl 1 rfl) ?_
        refine lv_iload hx hb dX9_innerSize_26 (lv_at hl 6 rfl) ?_
        refine fw_cV_i_p (As := [.int x1, .int y6]) (rest := []) ⟨hx, hb, hml, hown, hts⟩ (cc_X9_lastLeaf l G had h) (⟨callB_of 2 hts ggX9_innerSize_X9_lastLeaf rfl rfl rfl (hts (.initialized RX9) (by decide +kernel)) (hts (.methodLink RX9 120 yX9_lastLeaf) (by decide +kernel)) (by decide +kernel) ⟨Nat.le_of_ble_eq_true rfl, Nat.le_of_ble_eq_true rfl⟩, hts (.instanceMethod yX9_lastLeaf) (by decide +kernel), hts (.selects RX9 yX9_lastLeaf yX9_lastLeaf) (by decide +kernel)⟩) rfl mf_obj hK hZ hF hS hA rfl hl.1 rfl (Nat.le_of_ble_eq_true rfl) dX9_innerSize_28 ⟨Nat.zero_le _, Nat.zero_le _⟩ (fun r_8 H locs h hF hS => ?_)
        refine lv_istore (lv' := [(7, .int r_8), (0, .ref mo), (1, .int x1), (2, .int x2), (3, .int x3), (4, .int y4), (5, .int y5), (6, .int y6)]) hx hb dX9_innerSize_31 hl (by decide) rfl (fun ls hl => ?_)
        refine lv_iload hx hb dX9_innerSize_33 (lv_at hl 6 rfl) ?_
        refine lv_iconst (v := (-1 : Int32)) hx hb dX9_innerSize_35 (by decide) ?_
        obtain ⟨h1, h2⟩ := h
        refine lv_icmp_ne (tgt := 43) hx hb dX9_innerSize_36 (by decide) (fun c_9 => ?_) (fun c_9 => ?_)
        · have h := h1 c_9
          refine lv_aload_n hx hb dX9_innerSize_43 rfl (lv_at hl 1 rfl) ?_
          refine fw_get (C := RX9) (T := TX9) (N := 34) hx hb hts hin_X9 hown hK hF mf_obj rfl 17 (by decide) (hts (.fieldLink RX9 41 "FrontCodedIndexModel" "sep" "[I") (by decide +kernel)) (fun _ h9 => h9) rfl dX9_innerSize_44 ?_
          refine lv_bipush (v := (12 : Int32)) hx hb dX9_innerSize_47 (by decide) ?_
          refine lv_iload hx hb dX9_innerSize_49 (lv_at hl 6 rfl) ?_
          refine lv_imul hx hb dX9_innerSize_51 ?_
          refine lv_aload_n hx hb dX9_innerSize_52 rfl (lv_at hl 1 rfl) ?_
          refine fw_get (C := RX9) (T := TX9) (N := 34) hx hb hts hin_X9 hown hK hF mf_obj rfl 16 (by decide) (hts (.fieldLink RX9 38 "FrontCodedIndexModel" "sepSize" "[I") (by decide +kernel)) (fun _ h9 => h9) rfl dX9_innerSize_53 ?_
          refine lv_iload hx hb dX9_innerSize_56 (lv_at hl 6 rfl) ?_
          obtain ⟨hi_i_10, h⟩ := h
          refine fw_iald hx hb hK hF (mf_arr had 16 (by decide)) hi_i_10 dX9_innerSize_58 ?_
          refine lv_topi (fun v_11 e_v_11 => ?_)
          have h := h v_11 e_v_11
          refine lv_aload_n hx hb dX9_innerSize_59 rfl (lv_at hl 1 rfl) ?_
          refine fw_get (C := RX9) (T := TX9) (N := 34) hx hb hts hin_X9 hown hK hF mf_obj rfl 17 (by decide) (hts (.fieldLink RX9 41 "FrontCodedIndexModel" "sep" "[I") (by decide +kernel)) (fun _ h9 => h9) rfl dX9_innerSize_60 ?_
          refine lv_bipush (v := (12 : Int32)) hx hb dX9_innerSize_63 (by decide) ?_
          refine lv_iload hx hb dX9_innerSize_65 (lv_at hl 0 rfl) ?_
          refine lv_imul hx hb dX9_innerSize_67 ?_
          refine lv_aload_n hx hb dX9_innerSize_68 rfl (lv_at hl 1 rfl) ?_
          refine fw_get (C := RX9) (T := TX9) (N := 34) hx hb hts hin_X9 hown hK hF mf_obj rfl 16 (by decide) (hts (.fieldLink RX9 38 "FrontCodedIndexModel" "sepSize" "[I") (by decide +kernel)) (fun _ h9 => h9) rfl dX9_innerSize_69 ?_
          refine lv_iload hx hb dX9_innerSize_72 (lv_at hl 0 rfl) ?_
          obtain ⟨hi_i_12, h⟩ := h
          refine fw_iald hx hb hK hF (mf_arr had 16 (by decide)) hi_i_12 dX9_innerSize_74 ?_
          refine lv_topi (fun v_13 e_v_13 => ?_)
          have h := h v_13 e_v_13
          refine fw_cS_i_p (As := [.ref (ad 17), .int ((12 : Int32) * y5), .int v_11, .ref (ad 17), .int ((12 : Int32) * r_8), .int v_13]) (rest := []) ⟨hx, hb, hml, hown, hts⟩ (cc_X9_shared l G had h) (⟨callB_of 6 hts ggX9_innerSize_X9_shared rfl rfl rfl (hts (.initialized RX9) (by decide +kernel)) (hts (.methodLink RX9 99 yX9_shared) (by decide +kernel)) (by decide +kernel) ⟨Nat.le_of_ble_eq_true rfl, Nat.le_of_ble_eq_true rfl⟩, hts (.static yX9_shared) (by decide +kernel)⟩) hK hZ hF hS hA rfl hl.1 rfl (Nat.le_of_ble_eq_true rfl) dX9_innerSize_75 ⟨Nat.zero_le _, Nat.zero_le _⟩ (fun r_14 H locs h hF hS => ?_)
          exact J78 y4 y6 r_8 r_14 _ _ _ h hF hS (lv_sub hl [1, 2, 3, 4, 5, 7, 0] rfl)
        · have h := h2 c_9
          refine lv_iconst (v := (0 : Int32)) hx hb dX9_innerSize_39 (by decide) ?_
          refine lv_goto (tgt := 78) hx hb dX9_innerSize_40 (by decide) ?_
          exact J78 y4 y6 r_8 (0 : Int32) _ _ _ h hF hS (lv_sub hl [1, 2, 3, 4, 5, 7, 0] rfl)
  have hl := lv_entry ([.ref mo, .int x1, .int x2, .int x3]) (n := 9) (Nat.le_of_ble_eq_true rfl)
  rw [lg_entry_eq]
  generalize (lg_sl ([.ref mo, .int x1, .int x2, .int x3]) ++ List.replicate (9 - (lg_sl ([.ref mo, .int x1, .int x2, .int x3])).length) Slot.unset).toArray = ls at hl ⊢
  have hl : lv_has ls 9 [(0, .ref mo), (1, .int x1), (2, .int x2), (3, .int x3)] := hl
  unfold wp_X9_innerSize at h
  refine lv_bipush (v := (8 : Int32)) hx hb dX9_innerSize_0 (by decide) ?_
  refine lv_iconst (v := (4 : Int32)) hx hb dX9_innerSize_2 (by decide) ?_
  refine lv_iload_n hx hb dX9_innerSize_3 rfl (lv_at hl 3 rfl) ?_
  refine lv_imul hx hb dX9_innerSize_4 ?_
  refine lv_iadd hx hb dX9_innerSize_5 ?_
  refine lv_topi (fun v_15 e_16 => ?_)
  have h := h v_15 e_16
  refine lv_istore (lv' := [(4, .int v_15), (0, .ref mo), (1, .int x1), (2, .int x2), (3, .int x3)]) hx hb dX9_innerSize_6 hl (by decide) rfl (fun ls hl => ?_)
  refine lv_iconst (v := (-1 : Int32)) hx hb dX9_innerSize_8 (by decide) ?_
  refine lv_istore (lv' := [(5, .int (-1 : Int32)), (4, .int v_15), (0, .ref mo), (1, .int x1), (2, .int x2), (3, .int x3)]) hx hb dX9_innerSize_9 hl (by decide) rfl (fun ls hl => ?_)
  refine lv_iload_n hx hb dX9_innerSize_11 rfl (lv_at hl 4 rfl) ?_
  refine lv_istore (lv' := [(6, .int x2), (5, .int (-1 : Int32)), (4, .int v_15), (0, .ref mo), (1, .int x1), (2, .int x2), (3, .int x3)]) hx hb dX9_innerSize_12 hl (by decide) rfl (fun ls hl => ?_)
  obtain ⟨n_17, h⟩ := h
  exact L14 n_17 v_15 (-1 : Int32) x2 _ _ _ h hF hS (lv_sub hl [3, 4, 5, 6, 2, 1, 0] rfl)
theorem dX9_partSize_0 : decode cX9_partSize 0 = .ok (.iload_n 1, 1) := by decide +kernel
theorem dX9_partSize_1 : decode cX9_partSize 1 = .ok (.ifCond .ne 12, 3) := by decide +kernel
theorem dX9_partSize_4 : decode cX9_partSize 4 = .ok (.aload_n 0, 1) := by decide +kernel
theorem dX9_partSize_5 : decode cX9_partSize 5 = .ok (.iload_n 2, 1) := by decide +kernel
theorem dX9_partSize_6 : decode cX9_partSize 6 = .ok (.iload_n 3, 1) := by decide +kernel
theorem dX9_partSize_7 : decode cX9_partSize 7 = .ok (.invokevirtual 123, 3) := by decide +kernel
theorem dX9_partSize_10 : decode cX9_partSize 10 = .ok (.goto 12, 3) := by decide +kernel
theorem dX9_partSize_13 : decode cX9_partSize 13 = .ok (.aload_n 0, 1) := by decide +kernel
theorem dX9_partSize_14 : decode cX9_partSize 14 = .ok (.iload_n 1, 1) := by decide +kernel
theorem dX9_partSize_15 : decode cX9_partSize 15 = .ok (.iconst 1, 1) := by decide +kernel
theorem dX9_partSize_16 : decode cX9_partSize 16 = .ok (.isub, 1) := by decide +kernel
theorem dX9_partSize_17 : decode cX9_partSize 17 = .ok (.iload_n 2, 1) := by decide +kernel
theorem dX9_partSize_18 : decode cX9_partSize 18 = .ok (.iload_n 3, 1) := by decide +kernel
theorem dX9_partSize_19 : decode cX9_partSize 19 = .ok (.invokevirtual 126, 3) := by decide +kernel
theorem dX9_partSize_22 : decode cX9_partSize 22 = .ok (.ireturn, 1) := by decide +kernel
set_option maxRecDepth 20000 in
theorem ggX9_partSize_X9_innerSize : GoodIn wsX9_partSize wsX9_innerSize := goodIn_r _ [14, 15, 16, 17, 18, 19, 4, 20, 21, 22, 23, 24, 25, 26, 27, 28, 8, 9, 10, 29, 30, 31, 32, 33, 34, 35, 36, 37, 38, 39, 40, 41, 42, 43, 44, 45, 46, 47, 48, 49, 50, 51, 52, 53, 54, 55, 56, 57, 58, 59, 60, 61, 62] (by decide +kernel) (by decide +kernel)
set_option maxRecDepth 20000 in
theorem ggX9_partSize_X9_leafSize : GoodIn wsX9_partSize wsX9_leafSize := goodIn_r _ [5, 6, 7, 8, 9, 4, 10, 29, 30, 31, 32, 33, 34, 35, 36, 37, 38, 39, 40, 41, 42, 43, 44, 45, 46, 47, 48, 49, 50, 51, 52, 53, 54, 55, 56, 57, 58, 59, 60, 61, 62] (by decide +kernel) (by decide +kernel)
def wp_X9_partSize (x1 : Int32) (x2 : Int32) (x3 : Int32) (n : Nat → Int32) (g : Nat → Nat → Int32) (K : Int32 → Prop) : Prop :=
  ((¬ x1 = (0 : Int32) → wp_X9_innerSize (x1 - (1 : Int32)) x2 x3 n g (fun r_2 => K r_2)) ∧
 (x1 = (0 : Int32) → wp_X9_leafSize x2 x3 n g (fun r_3 => K r_3)))
set_option maxHeartbeats 4000000 in
set_option maxRecDepth 100000 in
theorem cc_X9_partSize (l : Launch) (G : GG) {mo : Nat} {ad : Nat → Nat} (had : MAd mo ad) {n : Nat → Int32} {g : Nat → Nat → Int32} {sz : Nat} {x1 : Int32} {x2 : Int32} {x3 : Int32} {K : Int32 → Prop} (h : wp_X9_partSize x1 x2 x3 n g K) : Met l yX9_partSize wsX9_partSize ({ frames := 4, cells := 0, slots := 0, locals := 97 } : Room) (FP G [.ref mo, .int x1, .int x2, .int x3] (mf mo ad n g) sz) (va_Qi (fun r f9 => K r ∧ f9 = mf mo ad n g : Int32 → FT → Prop) (FB G (fA (mf mo ad n g) sz)) (fA (mf mo ad n g) sz)) 0 0 (fA (mf mo ad n g) sz) := by
  refine Met.ofW (cc := cX9_partSize) (maxL := 4) (ret := (some .int)) (by decide) rfl ?_
  intro p e s m args below meth c s₁ B hml hv
  obtain ⟨rfl, hsz, hF, hK, hZ⟩ := hv
  have hx := B.exec
  have hb := B.bytes
  have hr := B.returns
  have hts := atoms_spec (ws := wsX9_partSize) B.pre
  have hown : s.vm.findClass RX9 = some m.cls := findClass_of_methodNamed B.named
  have hlocks := B.notSynchronized
  subst hsz
  have hF := hF.self (sz := s.heap.size)
  generalize hAe : fA (mf mo ad n g) s.heap.size = A at hF hZ ⊢
  have hA : ∀ q : Nat, s.heap.size ≤ q → A q := fun q h => by rw [← hAe]; exact Or.inr h
  have hS : va_S A s.heap s.heap [] := va_S.rf
  have hl := lv_entry ([.ref mo, .int x1, .int x2, .int x3]) (n := 4) (Nat.le_of_ble_eq_true rfl)
  rw [lg_entry_eq]
  generalize (lg_sl ([.ref mo, .int x1, .int x2, .int x3]) ++ List.replicate (4 - (lg_sl ([.ref mo, .int x1, .int x2, .int x3])).length) Slot.unset).toArray = ls at hl ⊢
  have hl : lv_has ls 4 [(0, .ref mo), (1, .int x1), (2, .int x2), (3, .int x3)] := hl
  unfold wp_X9_partSize at h
  refine lv_iload_n hx hb dX9_partSize_0 rfl (lv_at hl 1 rfl) ?_
  obtain ⟨h1, h2⟩ := h
  refine lv_if_ne (tgt := 13) hx hb dX9_partSize_1 (by decide) (fun c_1 => ?_) (fun c_1 => ?_)
  · have h := h1 c_1
    refine lv_aload_n hx hb dX9_partSize_13 rfl (lv_at hl 0 rfl) ?_
    refine lv_iload_n hx hb dX9_partSize_14 rfl (lv_at hl 1 rfl) ?_
    refine lv_iconst (v := (1 : Int32)) hx hb dX9_partSize_15 (by decide) ?_
    refine lv_isub hx hb dX9_partSize_16 ?_
    refine lv_iload_n hx hb dX9_partSize_17 rfl (lv_at hl 2 rfl) ?_
    refine lv_iload_n hx hb dX9_partSize_18 rfl (lv_at hl 3 rfl) ?_
    refine fw_cV_i_p (As := [.int (x1 - (1 : Int32)), .int x2, .int x3]) (rest := []) ⟨hx, hb, hml, hown, hts⟩ (cc_X9_innerSize l G had h) (⟨callB_of 3 hts ggX9_partSize_X9_innerSize rfl rfl rfl (hts (.initialized RX9) (by decide +kernel)) (hts (.methodLink RX9 126 yX9_innerSize) (by decide +kernel)) (by decide +kernel) ⟨Nat.le_of_ble_eq_true rfl, Nat.le_of_ble_eq_true rfl⟩, hts (.instanceMethod yX9_innerSize) (by decide +kernel), hts (.selects RX9 yX9_innerSize yX9_innerSize) (by decide +kernel)⟩) rfl mf_obj hK hZ hF hS hA rfl hl.1 rfl (Nat.le_of_ble_eq_true rfl) dX9_partSize_19 ⟨Nat.zero_le _, Nat.zero_le _⟩ (fun r_2 H locs h hF hS => ?_)
    exact W.iret (v := r_2) hx hb hr (fun t ht hW => ⟨⟨r_2, (mf mo ad n g), rfl, ⟨h, rfl⟩, by rw [ht]; exact hF, FK.moved hW.alike hK⟩, hS.F ht⟩) hS.2.2 dX9_partSize_22
  · have h := h2 c_1
    refine lv_aload_n hx hb dX9_partSize_4 rfl (lv_at hl 0 rfl) ?_
    refine lv_iload_n hx hb dX9_partSize_5 rfl (lv_at hl 2 rfl) ?_
    refine lv_iload_n hx hb dX9_partSize_6 rfl (lv_at hl 3 rfl) ?_
    refine fw_cV_i_p (As := [.int x2, .int x3]) (rest := []) ⟨hx, hb, hml, hown, hts⟩ (cc_X9_leafSize l G had h) (⟨callB_of 2 hts ggX9_partSize_X9_leafSize rfl rfl rfl (hts (.initialized RX9) (by decide +kernel)) (hts (.methodLink RX9 123 yX9_leafSize) (by decide +kernel)) (by decide +kernel) ⟨Nat.le_of_ble_eq_true rfl, Nat.le_of_ble_eq_true rfl⟩, hts (.instanceMethod yX9_leafSize) (by decide +kernel), hts (.selects RX9 yX9_leafSize yX9_leafSize) (by decide +kernel)⟩) rfl mf_obj hK hZ hF hS hA rfl hl.1 rfl (Nat.le_of_ble_eq_true rfl) dX9_partSize_7 ⟨Nat.zero_le _, Nat.zero_le _⟩ (fun r_3 H locs h hF hS => ?_)
    refine lv_goto (tgt := 22) hx hb dX9_partSize_10 (by decide) ?_
    exact W.iret (v := r_3) hx hb hr (fun t ht hW => ⟨⟨r_3, (mf mo ad n g), rfl, ⟨h, rfl⟩, by rw [ht]; exact hF, FK.moved hW.alike hK⟩, hS.F ht⟩) hS.2.2 dX9_partSize_22
theorem dX9_sizeOfPage_0 : decode cX9_sizeOfPage 0 = .ok (.aload_n 0, 1) := by decide +kernel
theorem dX9_sizeOfPage_1 : decode cX9_sizeOfPage 1 = .ok (.iload_n 1, 1) := by decide +kernel
theorem dX9_sizeOfPage_2 : decode cX9_sizeOfPage 2 = .ok (.aload_n 0, 1) := by decide +kernel
theorem dX9_sizeOfPage_3 : decode cX9_sizeOfPage 3 = .ok (.iload_n 1, 1) := by decide +kernel
theorem dX9_sizeOfPage_4 : decode cX9_sizeOfPage 4 = .ok (.iload_n 2, 1) := by decide +kernel
theorem dX9_sizeOfPage_5 : decode cX9_sizeOfPage 5 = .ok (.invokevirtual 117, 3) := by decide +kernel
theorem dX9_sizeOfPage_8 : decode cX9_sizeOfPage 8 = .ok (.aload_n 0, 1) := by decide +kernel
theorem dX9_sizeOfPage_9 : decode cX9_sizeOfPage 9 = .ok (.getfield 35, 3) := by decide +kernel
theorem dX9_sizeOfPage_12 : decode cX9_sizeOfPage 12 = .ok (.iload_n 1, 1) := by decide +kernel
theorem dX9_sizeOfPage_13 : decode cX9_sizeOfPage 13 = .ok (.iload_n 2, 1) := by decide +kernel
theorem dX9_sizeOfPage_14 : decode cX9_sizeOfPage 14 = .ok (.invokestatic 113, 3) := by decide +kernel
theorem dX9_sizeOfPage_17 : decode cX9_sizeOfPage 17 = .ok (.iaload, 1) := by decide +kernel
theorem dX9_sizeOfPage_18 : decode cX9_sizeOfPage 18 = .ok (.invokevirtual 130, 3) := by decide +kernel
theorem dX9_sizeOfPage_21 : decode cX9_sizeOfPage 21 = .ok (.ireturn, 1) := by decide +kernel
set_option maxRecDepth 20000 in
theorem ggX9_sizeOfPage_X9_at : GoodIn wsX9_sizeOfPage wsX9_at := goodIn_r _ [9] (by decide +kernel) (by decide +kernel)
set_option maxRecDepth 20000 in
theorem ggX9_sizeOfPage_X9_firstOf : GoodIn wsX9_sizeOfPage wsX9_firstOf := goodIn_r _ [6, 1, 7, 8, 5, 9, 33, 34, 35, 36, 37, 38, 39, 40, 41, 42, 43, 44, 45, 46, 47, 48, 49, 50, 51, 52, 53, 54, 55, 56, 57, 58, 59, 60, 61, 62, 63, 64, 65, 66] (by decide +kernel) (by decide +kernel)
set_option maxRecDepth 20000 in
theorem ggX9_sizeOfPage_X9_partSize : GoodIn wsX9_sizeOfPage wsX9_partSize := goodIn_r _ [13, 14, 15, 16, 5, 17, 18, 19, 20, 21, 22, 23, 24, 25, 26, 27, 28, 29, 30, 31, 32, 2, 3, 4, 6, 1, 7, 8, 9, 33, 34, 35, 36, 37, 38, 39, 40, 41, 42, 43, 44, 45, 46, 47, 48, 49, 50, 51, 52, 53, 54, 55, 56, 57, 58, 59, 60, 61, 62, 63, 64, 65, 66] (by decide +kernel) (by decide +kernel)
def wp_X9_sizeOfPage (x1 : Int32) (x2 : Int32) (n : Nat → Int32) (g : Nat → Nat → Int32) (K : Int32 → Prop) : Prop :=
  wp_X9_firstOf x1 x2 n g (fun r_1 => wp_X9_at x1 x2 n g (fun r_2 => vp_in r_2 (mlen 15) ∧ ∀ v_4 : Int32, v_4 = g 15 (r_2).toNatClampNeg → wp_X9_partSize x1 r_1 v_4 n g (fun r_5 => K r_5)))
set_option maxHeartbeats 4000000 in
set_option maxRecDepth 100000 in
theorem cc_X9_sizeOfPage (l : Launch) (G : GG) {mo : Nat} {ad : Nat → Nat} (had : MAd mo ad) {n : Nat → Int32} {g : Nat → Nat → Int32} {sz : Nat} {x1 : Int32} {x2 : Int32} {K : Int32 → Prop} (h : wp_X9_sizeOfPage x1 x2 n g K) : Met l yX9_sizeOfPage wsX9_sizeOfPage ({ frames := 5, cells := 0, slots := 0, locals := 120 } : Room) (FP G [.ref mo, .int x1, .int x2] (mf mo ad n g) sz) (va_Qi (fun r f9 => K r ∧ f9 = mf mo ad n g : Int32 → FT → Prop) (FB G (fA (mf mo ad n g) sz)) (fA (mf mo ad n g) sz)) 0 0 (fA (mf mo ad n g) sz) := by
  refine Met.ofW (cc := cX9_sizeOfPage) (maxL := 3) (ret := (some .int)) (by decide) rfl ?_
  intro p e s m args below meth c s₁ B hml hv
  obtain ⟨rfl, hsz, hF, hK, hZ⟩ := hv
  have hx := B.exec
  have hb := B.bytes
  have hr := B.returns
  have hts := atoms_spec (ws := wsX9_sizeOfPage) B.pre
  have hown : s.vm.findClass RX9 = some m.cls := findClass_of_methodNamed B.named
  have hlocks := B.notSynchronized
  subst hsz
  have hF := hF.self (sz := s.heap.size)
  generalize hAe : fA (mf mo ad n g) s.heap.size = A at hF hZ ⊢
  have hA : ∀ q : Nat, s.heap.size ≤ q → A q := fun q h => by rw [← hAe]; exact Or.inr h
  have hS : va_S A s.heap s.heap [] := va_S.rf
  have hin_X9 : ∀ w ∈ wsX90, w ∈ wsX9_sizeOfPage := by decide +kernel
  have hl := lv_entry ([.ref mo, .int x1, .int x2]) (n := 3) (Nat.le_of_ble_eq_true rfl)
  rw [lg_entry_eq]
  generalize (lg_sl ([.ref mo, .int x1, .int x2]) ++ List.replicate (3 - (lg_sl ([.ref mo, .int x1, .int x2])).length) Slot.unset).toArray = ls at hl ⊢
  have hl : lv_has ls 3 [(0, .ref mo), (1, .int x1), (2, .int x2)] := hl
  unfold wp_X9_sizeOfPage at h
  refine lv_aload_n hx hb dX9_sizeOfPage_0 rfl (lv_at hl 0 rfl) ?_
  refine lv_iload_n hx hb dX9_sizeOfPage_1 rfl (lv_at hl 1 rfl) ?_
  refine lv_aload_n hx hb dX9_sizeOfPage_2 rfl (lv_at hl 0 rfl) ?_
  refine lv_iload_n hx hb dX9_sizeOfPage_3 rfl (lv_at hl 1 rfl) ?_
  refine lv_iload_n hx hb dX9_sizeOfPage_4 rfl (lv_at hl 2 rfl) ?_
  refine fw_cV_i_p (As := [.int x1, .int x2]) (rest := [.int x1, .ref mo]) ⟨hx, hb, hml, hown, hts⟩ (cc_X9_firstOf l G had h) (⟨callB_of 2 hts ggX9_sizeOfPage_X9_firstOf rfl rfl rfl (hts (.initialized RX9) (by decide +kernel)) (hts (.methodLink RX9 117 yX9_firstOf) (by decide +kernel)) (by decide +kernel) ⟨Nat.le_of_ble_eq_true rfl, Nat.le_of_ble_eq_true rfl⟩, hts (.instanceMethod yX9_firstOf) (by decide +kernel), hts (.selects RX9 yX9_firstOf yX9_firstOf) (by decide +kernel)⟩) rfl mf_obj hK hZ hF hS hA rfl hl.1 rfl (Nat.le_of_ble_eq_true rfl) dX9_sizeOfPage_5 ⟨Nat.zero_le _, Nat.zero_le _⟩ (fun r_1 H locs h hF hS => ?_)
  refine lv_aload_n hx hb dX9_sizeOfPage_8 rfl (lv_at hl 0 rfl) ?_
  refine fw_get (C := RX9) (T := TX9) (N := 34) hx hb hts hin_X9 hown hK hF mf_obj rfl 15 (by decide) (hts (.fieldLink RX9 35 "FrontCodedIndexModel" "parts" "[I") (by decide +kernel)) (fun _ h9 => h9) rfl dX9_sizeOfPage_9 ?_
  refine lv_iload_n hx hb dX9_sizeOfPage_12 rfl (lv_at hl 1 rfl) ?_
  refine lv_iload_n hx hb dX9_sizeOfPage_13 rfl (lv_at hl 2 rfl) ?_
  refine fw_cS_i_p (As := [.int x1, .int x2]) (rest := [.ref (ad 15), .int r_1, .int x1, .ref mo]) ⟨hx, hb, hml, hown, hts⟩ (cc_X9_at l G had h) (⟨callB_of 2 hts ggX9_sizeOfPage_X9_at rfl rfl rfl (hts (.initialized RX9) (by decide +kernel)) (hts (.methodLink RX9 113 yX9_at) (by decide +kernel)) (by decide +kernel) ⟨Nat.le_of_ble_eq_true rfl, Nat.le_of_ble_eq_true rfl⟩, hts (.static yX9_at) (by decide +kernel)⟩) hK hZ hF hS hA rfl hl.1 rfl (Nat.le_of_ble_eq_true rfl) dX9_sizeOfPage_14 ⟨Nat.zero_le _, Nat.zero_le _⟩ (fun r_2 H locs h hF hS => ?_)
  obtain ⟨hi_i_3, h⟩ := h
  refine fw_iald hx hb hK hF (mf_arr had 15 (by decide)) hi_i_3 dX9_sizeOfPage_17 ?_
  refine lv_topi (fun v_4 e_v_4 => ?_)
  have h := h v_4 e_v_4
  refine fw_cV_i_p (As := [.int x1, .int r_1, .int v_4]) (rest := []) ⟨hx, hb, hml, hown, hts⟩ (cc_X9_partSize l G had h) (⟨callB_of 3 hts ggX9_sizeOfPage_X9_partSize rfl rfl rfl (hts (.initialized RX9) (by decide +kernel)) (hts (.methodLink RX9 130 yX9_partSize) (by decide +kernel)) (by decide +kernel) ⟨Nat.le_of_ble_eq_true rfl, Nat.le_of_ble_eq_true rfl⟩, hts (.instanceMethod yX9_partSize) (by decide +kernel), hts (.selects RX9 yX9_partSize yX9_partSize) (by decide +kernel)⟩) rfl mf_obj hK hZ hF hS hA rfl hl.1 rfl (Nat.le_of_ble_eq_true rfl) dX9_sizeOfPage_18 ⟨Nat.zero_le _, Nat.zero_le _⟩ (fun r_5 H locs h hF hS => ?_)
  exact W.iret (v := r_5) hx hb hr (fun t ht hW => ⟨⟨r_5, (mf mo ad n g), rfl, ⟨h, rfl⟩, by rw [ht]; exact hF, FK.moved hW.alike hK⟩, hS.F ht⟩) hS.2.2 dX9_sizeOfPage_21
theorem dX9_half_0 : decode cX9_half 0 = .ok (.aload_n 0, 1) := by decide +kernel
theorem dX9_half_1 : decode cX9_half 1 = .ok (.iload_n 1, 1) := by decide +kernel
theorem dX9_half_2 : decode cX9_half 2 = .ok (.iload_n 2, 1) := by decide +kernel
theorem dX9_half_3 : decode cX9_half 3 = .ok (.invokevirtual 117, 3) := by decide +kernel
theorem dX9_half_6 : decode cX9_half 6 = .ok (.istore_n 3, 1) := by decide +kernel
theorem dX9_half_7 : decode cX9_half 7 = .ok (.aload_n 0, 1) := by decide +kernel
theorem dX9_half_8 : decode cX9_half 8 = .ok (.getfield 35, 3) := by decide +kernel
theorem dX9_half_11 : decode cX9_half 11 = .ok (.iload_n 1, 1) := by decide +kernel
theorem dX9_half_12 : decode cX9_half 12 = .ok (.iload_n 2, 1) := by decide +kernel
theorem dX9_half_13 : decode cX9_half 13 = .ok (.invokestatic 113, 3) := by decide +kernel
theorem dX9_half_16 : decode cX9_half 16 = .ok (.iaload, 1) := by decide +kernel
theorem dX9_half_17 : decode cX9_half 17 = .ok (.istore 4, 2) := by decide +kernel
theorem dX9_half_19 : decode cX9_half 19 = .ok (.iconst 1, 1) := by decide +kernel
theorem dX9_half_20 : decode cX9_half 20 = .ok (.istore 5, 2) := by decide +kernel
theorem dX9_half_22 : decode cX9_half 22 = .ok (.iconst (-1), 1) := by decide +kernel
theorem dX9_half_23 : decode cX9_half 23 = .ok (.istore 6, 2) := by decide +kernel
theorem dX9_half_25 : decode cX9_half 25 = .ok (.iconst 1, 1) := by decide +kernel
theorem dX9_half_26 : decode cX9_half 26 = .ok (.istore 7, 2) := by decide +kernel
theorem dX9_half_28 : decode cX9_half 28 = .ok (.iload 7, 2) := by decide +kernel
theorem dX9_half_30 : decode cX9_half 30 = .ok (.iload 4, 2) := by decide +kernel
theorem dX9_half_32 : decode cX9_half 32 = .ok (.if_icmp .ge 70, 3) := by decide +kernel
theorem dX9_half_35 : decode cX9_half 35 = .ok (.aload_n 0, 1) := by decide +kernel
theorem dX9_half_36 : decode cX9_half 36 = .ok (.iload_n 1, 1) := by decide +kernel
theorem dX9_half_37 : decode cX9_half 37 = .ok (.iload_n 3, 1) := by decide +kernel
theorem dX9_half_38 : decode cX9_half 38 = .ok (.iload 7, 2) := by decide +kernel
theorem dX9_half_40 : decode cX9_half 40 = .ok (.invokevirtual 130, 3) := by decide +kernel
theorem dX9_half_43 : decode cX9_half 43 = .ok (.aload_n 0, 1) := by decide +kernel
theorem dX9_half_44 : decode cX9_half 44 = .ok (.iload_n 1, 1) := by decide +kernel
theorem dX9_half_45 : decode cX9_half 45 = .ok (.iload_n 3, 1) := by decide +kernel
theorem dX9_half_46 : decode cX9_half 46 = .ok (.iload 7, 2) := by decide +kernel
theorem dX9_half_48 : decode cX9_half 48 = .ok (.iadd, 1) := by decide +kernel
theorem dX9_half_49 : decode cX9_half 49 = .ok (.iload 4, 2) := by decide +kernel
theorem dX9_half_51 : decode cX9_half 51 = .ok (.iload 7, 2) := by decide +kernel
theorem dX9_half_53 : decode cX9_half 53 = .ok (.isub, 1) := by decide +kernel
theorem dX9_half_54 : decode cX9_half 54 = .ok (.invokevirtual 130, 3) := by decide +kernel
theorem dX9_half_57 : decode cX9_half 57 = .ok (.isub, 1) := by decide +kernel
theorem dX9_half_58 : decode cX9_half 58 = .ok (.istore 8, 2) := by decide +kernel
theorem dX9_half_60 : decode cX9_half 60 = .ok (.iload 8, 2) := by decide +kernel
theorem dX9_half_62 : decode cX9_half 62 = .ok (.ifCond .ge 9, 3) := by decide +kernel
theorem dX9_half_65 : decode cX9_half 65 = .ok (.iload 8, 2) := by decide +kernel
theorem dX9_half_67 : decode cX9_half 67 = .ok (.ineg, 1) := by decide +kernel
theorem dX9_half_68 : decode cX9_half 68 = .ok (.goto 5, 3) := by decide +kernel
theorem dX9_half_71 : decode cX9_half 71 = .ok (.iload 8, 2) := by decide +kernel
theorem dX9_half_73 : decode cX9_half 73 = .ok (.istore 8, 2) := by decide +kernel
theorem dX9_half_75 : decode cX9_half 75 = .ok (.iload 6, 2) := by decide +kernel
theorem dX9_half_77 : decode cX9_half 77 = .ok (.iconst (-1), 1) := by decide +kernel
theorem dX9_half_78 : decode cX9_half 78 = .ok (.if_icmp .eq 10, 3) := by decide +kernel
theorem dX9_half_81 : decode cX9_half 81 = .ok (.iload 8, 2) := by decide +kernel
theorem dX9_half_83 : decode cX9_half 83 = .ok (.iload 6, 2) := by decide +kernel
theorem dX9_half_85 : decode cX9_half 85 = .ok (.if_icmp .ge 11, 3) := by decide +kernel
theorem dX9_half_88 : decode cX9_half 88 = .ok (.iload 8, 2) := by decide +kernel
theorem dX9_half_90 : decode cX9_half 90 = .ok (.istore 6, 2) := by decide +kernel
theorem dX9_half_92 : decode cX9_half 92 = .ok (.iload 7, 2) := by decide +kernel
theorem dX9_half_94 : decode cX9_half 94 = .ok (.istore 5, 2) := by decide +kernel
theorem dX9_half_96 : decode cX9_half 96 = .ok (.iinc 7 1, 3) := by decide +kernel
theorem dX9_half_99 : decode cX9_half 99 = .ok (.goto (-71), 3) := by decide +kernel
theorem dX9_half_102 : decode cX9_half 102 = .ok (.iload 5, 2) := by decide +kernel
theorem dX9_half_104 : decode cX9_half 104 = .ok (.ireturn, 1) := by decide +kernel
set_option maxRecDepth 20000 in
theorem ggX9_half_X9_at : GoodIn wsX9_half wsX9_at := goodIn_r _ [9] (by decide +kernel) (by decide +kernel)
set_option maxRecDepth 20000 in
theorem ggX9_half_X9_firstOf : GoodIn wsX9_half wsX9_firstOf := goodIn_r _ [6, 1, 7, 8, 5, 9, 33, 34, 35, 36, 37, 38, 39, 40, 41, 42, 43, 44, 45, 46, 47, 48, 49, 50, 51, 52, 53, 54, 55, 56, 57, 58, 59, 60, 61, 62, 63, 64, 65, 66] (by decide +kernel) (by decide +kernel)
set_option maxRecDepth 20000 in
theorem ggX9_half_X9_partSize : GoodIn wsX9_half wsX9_partSize := goodIn_r _ [13, 14, 15, 16, 5, 17, 18, 19, 20, 21, 22, 23, 24, 25, 26, 27, 28, 29, 30, 31, 32, 2, 3, 4, 6, 1, 7, 8, 9, 33, 34, 35, 36, 37, 38, 39, 40, 41, 42, 43, 44, 45, 46, 47, 48, 49, 50, 51, 52, 53, 54, 55, 56, 57, 58, 59, 60, 61, 62, 63, 64, 65, 66] (by decide +kernel) (by decide +kernel)
def wp_X9_half_96 (x1 : Int32) (y3 : Int32) (y4 : Int32) (y5 : Int32) (y6 : Int32) (y7 : Int32) (n : Nat → Int32) (g : Nat → Nat → Int32) (K : Int32 → Prop) (C28 : Int32 × Int32 × Int32 → Prop) : Prop :=
  ∀ v_1 : Int32, v_1 = y7 + 1 → C28 (y5, y6, v_1)
def wp_X9_half_88 (x1 : Int32) (y3 : Int32) (y4 : Int32) (y7 : Int32) (y8 : Int32) (n : Nat → Int32) (g : Nat → Nat → Int32) (K : Int32 → Prop) (C28 : Int32 × Int32 × Int32 → Prop) : Prop :=
  wp_X9_half_96 x1 y3 y4 y7 y8 y7 n g K C28
def wp_X9_half_73 (x1 : Int32) (y3 : Int32) (y4 : Int32) (y5 : Int32) (y6 : Int32) (y7 : Int32) (z0 : Int32) (n : Nat → Int32) (g : Nat → Nat → Int32) (K : Int32 → Prop) (C28 : Int32 × Int32 × Int32 → Prop) : Prop :=
  ((y6 = (-1 : Int32) → wp_X9_half_88 x1 y3 y4 y7 z0 n g K C28) ∧
 (¬ (y6 = (-1 : Int32)) → ((y6 ≤ z0 → wp_X9_half_96 x1 y3 y4 y5 y6 y7 n g K C28) ∧
 (¬ (y6 ≤ z0) → wp_X9_half_88 x1 y3 y4 y7 z0 n g K C28))))
def wp_X9_half_28 (x1 : Int32) (y3 : Int32) (y4 : Int32) (n : Nat → Int32) (g : Nat → Nat → Int32) (K : Int32 → Prop)  (C28 : Int32 × Int32 × Int32 → Prop) : Int32 × Int32 × Int32 → Prop := fun s9 => match s9 with
  | (y5, y6, y7) => ((y4 ≤ y7 → K y5) ∧
 (¬ (y4 ≤ y7) → wp_X9_partSize x1 y3 y7 n g (fun r_6 => wp_X9_partSize x1 (y3 + y7) (y4 - y7) n g (fun r_7 => ∀ v_8 : Int32, v_8 = (r_6 - r_7) → (((0 : Int32) ≤ v_8 → wp_X9_half_73 x1 y3 y4 y5 y6 y7 v_8 n g K C28) ∧
 (¬ ((0 : Int32) ≤ v_8) → wp_X9_half_73 x1 y3 y4 y5 y6 y7 (-v_8) n g K C28))))))
def wp_X9_half (x1 : Int32) (x2 : Int32) (n : Nat → Int32) (g : Nat → Nat → Int32) (K : Int32 → Prop) : Prop :=
  wp_X9_firstOf x1 x2 n g (fun r_11 => wp_X9_at x1 x2 n g (fun r_12 => vp_in r_12 (mlen 15) ∧ ∀ v_14 : Int32, v_14 = g 15 (r_12).toNatClampNeg → ∃ n_15, loopW (wp_X9_half_28 x1 r_11 v_14 n g K) n_15 ((1 : Int32), (-1 : Int32), (1 : Int32))))
set_option maxHeartbeats 4000000 in
set_option maxRecDepth 100000 in
theorem cc_X9_half (l : Launch) (G : GG) {mo : Nat} {ad : Nat → Nat} (had : MAd mo ad) {n : Nat → Int32} {g : Nat → Nat → Int32} {sz : Nat} {x1 : Int32} {x2 : Int32} {K : Int32 → Prop} (h : wp_X9_half x1 x2 n g K) : Met l yX9_half wsX9_half ({ frames := 5, cells := 0, slots := 0, locals := 120 } : Room) (FP G [.ref mo, .int x1, .int x2] (mf mo ad n g) sz) (va_Qi (fun r f9 => K r ∧ f9 = mf mo ad n g : Int32 → FT → Prop) (FB G (fA (mf mo ad n g) sz)) (fA (mf mo ad n g) sz)) 0 0 (fA (mf mo ad n g) sz) := by
  refine Met.ofW (cc := cX9_half) (maxL := 9) (ret := (some .int)) (by decide) rfl ?_
  intro p e s m args below meth c s₁ B hml hv
  obtain ⟨rfl, hsz, hF, hK, hZ⟩ := hv
  have hx := B.exec
  have hb := B.bytes
  have hr := B.returns
  have hts := atoms_spec (ws := wsX9_half) B.pre
  have hown : s.vm.findClass RX9 = some m.cls := findClass_of_methodNamed B.named
  have hlocks := B.notSynchronized
  subst hsz
  have hF := hF.self (sz := s.heap.size)
  generalize hAe : fA (mf mo ad n g) s.heap.size = A at hF hZ ⊢
  have hA : ∀ q : Nat, s.heap.size ≤ q → A q := fun q h => by rw [← hAe]; exact Or.inr h
  have hS : va_S A s.heap s.heap [] := va_S.rf
  have hin_X9 : ∀ w ∈ wsX90, w ∈ wsX9_half := by decide +kernel
  have L28 : ∀ (y3 : Int32) (y4 : Int32) (j9 : Nat) (y5 : Int32) (y6 : Int32) (y7 : Int32) (H : Heap) (locs : List Loc) (ls : Array Slot), loopW (wp_X9_half_28 x1 y3 y4 n g K ) j9 (y5, y6, y7) → Fw G A (mf mo ad n g) H → va_S A s.heap H locs → lv_has ls 9 [(0, .ref mo), (1, .int x1), (3, .int y3), (4, .int y4), (5, .int y5), (6, .int y6), (7, .int y7)] → W p l e ({ frames := 5, cells := 0, slots := 0, locals := 120 } : Room) s m ([.ref mo, .int x1, .int x2] : List Value).toArray below meth c H locs 0 0 (MQ below (va_Qi (fun r f9 => K r ∧ f9 = mf mo ad n g : Int32 → FT → Prop) (FB G A) A) ([.ref mo, .int x1, .int x2] : List Value).toArray s 0 0 A) (F0 m 28 ls []) := by
    intro y3 y4 j9
    induction j9 with
    | zero => intro y5 y6 y7 H locs ls h; exact h.elim
    | succ j9 ih28 =>
      intro y5 y6 y7 H locs ls h hF hS hl
      have h : wp_X9_half_28 x1 y3 y4 n g K  (loopW (wp_X9_half_28 x1 y3 y4 n g K ) j9) (y5, y6, y7) := h
      generalize loopW (wp_X9_half_28 x1 y3 y4 n g K ) j9 = C28 at ih28 h
      unfold wp_X9_half_28 at h
      have J96 : ∀ (y5 : Int32) (y6 : Int32) (y7 : Int32) (H : Heap) (locs : List Loc) (ls : Array Slot), wp_X9_half_96 x1 y3 y4 y5 y6 y7 n g K C28 → Fw G A (mf mo ad n g) H → va_S A s.heap H locs → lv_has ls 9 [(0, .ref mo), (1, .int x1), (3, .int y3), (4, .int y4), (5, .int y5), (6, .int y6), (7, .int y7)] → W p l e ({ frames := 5, cells := 0, slots := 0, locals := 120 } : Room) s m ([.ref mo, .int x1, .int x2] : List Value).toArray below meth c H locs 0 0 (MQ below (va_Qi (fun r f9 => K r ∧ f9 = mf mo ad n g : Int32 → FT → Prop) (FB G A) A) ([.ref mo, .int x1, .int x2] : List Value).toArray s 0 0 A) (F0 m 96 ls []) := by
        intro y5 y6 y7 H locs ls h hF hS hl
        unfold wp_X9_half_96 at h
        obtain ⟨v_1, e_2⟩ : ∃ y : Int32, y = y7 + 1 := ⟨_, rfl⟩
        have h := h v_1 e_2
        refine lv_iinc (v := v_1) (lv' := [(7, .int v_1), (0, .ref mo), (1, .int x1), (3, .int y3), (4, .int y4), (5, .int y5), (6, .int y6)]) hx hb dX9_half_96 hl (k := 6) rfl (by rw [e_2]; rfl) (by decide) rfl (fun ls hl => ?_)
        refine lv_goto (tgt := 28) hx hb dX9_half_99 (by decide) ?_
        exact ih28 y5 y6 v_1 _ _ _ h hF hS (lv_sub hl [1, 2, 3, 4, 5, 6, 0] rfl)
      have J88 : ∀ (y7 : Int32) (y8 : Int32) (H : Heap) (locs : List Loc) (ls : Array Slot), wp_X9_half_88 x1 y3 y4 y7 y8 n g K C28 → Fw G A (mf mo ad n g) H → va_S A s.heap H locs → lv_has ls 9 [(0, .ref mo), (1, .int x1), (3, .int y3), (4, .int y4), (7, .int y7), (8, .int y8)] → W p l e ({ frames := 5, cells := 0, slots := 0, locals := 120 } : Room) s m ([.ref mo, .int x1, .int x2] : List Value).toArray below meth c H locs 0 0 (MQ below (va_Qi (fun r f9 => K r ∧ f9 = mf mo ad n g : Int32 → FT → Prop) (FB G A) A) ([.ref mo, .int x1, .int x2] : List Value).toArray s 0 0 A) (F0 m 88 ls []) := by
        intro y7 y8 H locs ls h hF hS hl
        unfold wp_X9_half_88 at h
        refine lv_iload hx hb dX9_half_88 (lv_at hl 5 rfl) ?_
        refine lv_istore (lv' := [(6, .int y8), (0, .ref mo), (1, .int x1), (3, .int y3), (4, .int y4), (7, .int y7), (8, .int y8)]) hx hb dX9_half_90 hl (by decide) rfl (fun ls hl => ?_)
        refine lv_iload hx hb dX9_half_92 (lv_at hl 5 rfl) ?_
        refine lv_istore (lv' := [(5, .int y7), (6, .int y8), (0, .ref mo), (1, .int x1), (3, .int y3), (4, .int y4), (7, .int y7), (8, .int y8)]) hx hb dX9_half_94 hl (by decide) rfl (fun ls hl => ?_)
        exact J96 y7 y8 y7 _ _ _ h hF hS (lv_sub hl [2, 3, 4, 5, 0, 1, 6] rfl)
      have J73 : ∀ (y5 : Int32) (y6 : Int32) (y7 : Int32) (z0 : Int32) (H : Heap) (locs : List Loc) (ls : Array Slot), wp_X9_half_73 x1 y3 y4 y5 y6 y7 z0 n g K C28 → Fw G A (mf mo ad n g) H → va_S A s.heap H locs → lv_has ls 9 [(0, .ref mo), (1, .int x1), (3, .int y3), (4, .int y4), (5, .int y5), (6, .int y6), (7, .int y7)] → W p l e ({ frames := 5, cells := 0, slots := 0, locals := 120 } : Room) s m ([.ref mo, .int x1, .int x2] : List Value).toArray below meth c H locs 0 0 (MQ below (va_Qi (fun r f9 => K r ∧ f9 = mf mo ad n g : Int32 → FT → Prop) (FB G A) A) ([.ref mo, .int x1, .int x2] : List Value).toArray s 0 0 A) (F0 m 73 ls [.int z0]) := by
        intro y5 y6 y7 z0 H locs ls h hF hS hl
        unfold wp_X9_half_73 at h
        refine lv_istore (lv' := [(8, .int z0), (0, .ref mo), (1, .int x1), (3, .int y3), (4, .int y4), (5, .int y5), (6, .int y6), (7, .int y7)]) hx hb dX9_half_73 hl (by decide) rfl (fun ls hl => ?_)
        refine lv_iload hx hb dX9_half_75 (lv_at hl 6 rfl) ?_
        refine lv_iconst (v := (-1 : Int32)) hx hb dX9_half_77 (by decide) ?_
        obtain ⟨h1, h2⟩ := h
        refine lv_icmp_eq (tgt := 88) hx hb dX9_half_78 (by decide) (fun c_3 => ?_) (fun c_3 => ?_)
        · have h := h1 c_3
          exact J88 y7 z0 _ _ _ h hF hS (lv_sub hl [1, 2, 3, 4, 7, 0] rfl)
        · have h := h2 c_3
          refine lv_iload hx hb dX9_half_81 (lv_at hl 0 rfl) ?_
          refine lv_iload hx hb dX9_half_83 (lv_at hl 6 rfl) ?_
          obtain ⟨h1, h2⟩ := h
          refine lv_icmp_ge (tgt := 96) hx hb dX9_half_85 (by decide) (fun c_4 => ?_) (fun c_4 => ?_)
          · have h := h1 c_4
            exact J96 y5 y6 y7 _ _ _ h hF hS (lv_sub hl [1, 2, 3, 4, 5, 6, 7] rfl)
          · have h := h2 c_4
            exact J88 y7 z0 _ _ _ h hF hS (lv_sub hl [1, 2, 3, 4, 7, 0] rfl)
      refine lv_iload hx hb dX9_half_28 (lv_at hl 6 rfl) ?_
      refine lv_iload hx hb dX9_half_30 (lv_at hl 3 rfl) ?_
      obtain ⟨h1, h2⟩ := h
      refine lv_icmp_ge (tgt := 102) hx hb dX9_half_32 (by decide) (fun c_5 => ?_) (fun c_5 => ?_)
      · have h := h1 c_5
        refine lv_iload hx hb dX9_half_102 (lv_at hl 4 rfl) ?_
        exact W.iret (v := y5) hx hb hr (fun t ht hW => ⟨⟨y5, (mf mo ad n g), rfl, ⟨h, rfl⟩, by rw [ht]; exact hF, FK.moved hW.alike hK⟩, hS.F ht⟩) hS.2.2 dX9_half_104
      · have h := h2 c_5
        refine lv_aload_n hx hb dX9_half_35 rfl (lv_at hl 0 rfl) ?_
        refine lv_iload_n hx hb dX9_half_36 rfl (lv_at hl 1 rfl) ?_
        refine lv_iload_n hx hb dX9_half_37 rfl (lv_at hl 2 rfl) ?_
        refine lv_iload hx hb dX9_half_38 (lv_at hl 6 rfl) ?_
        refine fw_cV_i_p (As := [.int x1, .int y3, .int y7]) (rest := []) ⟨hx, hb, hml, hown, hts⟩ (cc_X9_partSize l G had h) (⟨callB_of 3 hts ggX9_half_X9_partSize rfl rfl rfl (hts (.initialized RX9) (by decide +kernel)) (hts (.methodLink RX9 130 yX9_partSize) (by decide +kernel)) (by decide +kernel) ⟨Nat.le_of_ble_eq_true rfl, Nat.le_of_ble_eq_true rfl⟩, hts (.instanceMethod yX9_partSize) (by decide +kernel), hts (.selects RX9 yX9_partSize yX9_partSize) (by decide +kernel)⟩) rfl mf_obj hK hZ hF hS hA rfl hl.1 rfl (Nat.le_of_ble_eq_true rfl) dX9_half_40 ⟨Nat.zero_le _, Nat.zero_le _⟩ (fun r_6 H locs h hF hS => ?_)
        refine lv_aload_n hx hb dX9_half_43 rfl (lv_at hl 0 rfl) ?_
        refine lv_iload_n hx hb dX9_half_44 rfl (lv_at hl 1 rfl) ?_
        refine lv_iload_n hx hb dX9_half_45 rfl (lv_at hl 2 rfl) ?_
        refine lv_iload hx hb dX9_half_46 (lv_at hl 6 rfl) ?_
        refine lv_iadd hx hb dX9_half_48 ?_
        refine lv_iload hx hb dX9_half_49 (lv_at hl 3 rfl) ?_
        refine lv_iload hx hb dX9_half_51 (lv_at hl 6 rfl) ?_
        refine lv_isub hx hb dX9_half_53 ?_
        refine fw_cV_i_p (As := [.int x1, .int (y3 + y7), .int (y4 - y7)]) (rest := [.int r_6]) ⟨hx, hb, hml, hown, hts⟩ (cc_X9_partSize l G had h) (⟨callB_of 3 hts ggX9_half_X9_partSize rfl rfl rfl (hts (.initialized RX9) (by decide +kernel)) (hts (.methodLink RX9 130 yX9_partSize) (by decide +kernel)) (by decide +kernel) ⟨Nat.le_of_ble_eq_true rfl, Nat.le_of_ble_eq_true rfl⟩, hts (.instanceMethod yX9_partSize) (by decide +kernel), hts (.selects RX9 yX9_partSize yX9_partSize) (by decide +kernel)⟩) rfl mf_obj hK hZ hF hS hA rfl hl.1 rfl (Nat.le_of_ble_eq_true rfl) dX9_half_54 ⟨Nat.zero_le _, Nat.zero_le _⟩ (fun r_7 H locs h hF hS => ?_)
        refine lv_isub hx hb dX9_half_57 ?_
        refine lv_topi (fun v_8 e_9 => ?_)
        have h := h v_8 e_9
        refine lv_istore (lv' := [(8, .int v_8), (0, .ref mo), (1, .int x1), (3, .int y3), (4, .int y4), (5, .int y5), (6, .int y6), (7, .int y7)]) hx hb dX9_half_58 hl (by decide) rfl (fun ls hl => ?_)
        refine lv_iload hx hb dX9_half_60 (lv_at hl 0 rfl) ?_
        obtain ⟨h1, h2⟩ := h
        refine lv_if_ge (tgt := 71) hx hb dX9_half_62 (by decide) (fun c_10 => ?_) (fun c_10 => ?_)
        · have h := h1 c_10
          refine lv_iload hx hb dX9_half_71 (lv_at hl 0 rfl) ?_
          exact J73 y5 y6 y7 v_8 _ _ _ h hF hS (lv_sub hl [1, 2, 3, 4, 5, 6, 7] rfl)
        · have h := h2 c_10
          refine lv_iload hx hb dX9_half_65 (lv_at hl 0 rfl) ?_
          refine lv_ineg hx hb dX9_half_67 ?_
          refine lv_goto (tgt := 73) hx hb dX9_half_68 (by decide) ?_
          exact J73 y5 y6 y7 (-v_8) _ _ _ h hF hS (lv_sub hl [1, 2, 3, 4, 5, 6, 7] rfl)
  have hl := lv_entry ([.ref mo, .int x1, .int x2]) (n := 9) (Nat.le_of_ble_eq_true rfl)
  rw [lg_entry_eq]
  generalize (lg_sl ([.ref mo, .int x1, .int x2]) ++ List.replicate (9 - (lg_sl ([.ref mo, .int x1, .int x2])).length) Slot.unset).toArray = ls at hl ⊢
  have hl : lv_has ls 9 [(0, .ref mo), (1, .int x1), (2, .int x2)] := hl
  unfold wp_X9_half at h
  refine lv_aload_n hx hb dX9_half_0 rfl (lv_at hl 0 rfl) ?_
  refine lv_iload_n hx hb dX9_half_1 rfl (lv_at hl 1 rfl) ?_
  refine lv_iload_n hx hb dX9_half_2 rfl (lv_at hl 2 rfl) ?_
  refine fw_cV_i_p (As := [.int x1, .int x2]) (rest := []) ⟨hx, hb, hml, hown, hts⟩ (cc_X9_firstOf l G had h) (⟨callB_of 2 hts ggX9_half_X9_firstOf rfl rfl rfl (hts (.initialized RX9) (by decide +kernel)) (hts (.methodLink RX9 117 yX9_firstOf) (by decide +kernel)) (by decide +kernel) ⟨Nat.le_of_ble_eq_true rfl, Nat.le_of_ble_eq_true rfl⟩, hts (.instanceMethod yX9_firstOf) (by decide +kernel), hts (.selects RX9 yX9_firstOf yX9_firstOf) (by decide +kernel)⟩) rfl mf_obj hK hZ hF hS hA rfl hl.1 rfl (Nat.le_of_ble_eq_true rfl) dX9_half_3 ⟨Nat.zero_le _, Nat.zero_le _⟩ (fun r_11 H locs h hF hS => ?_)
  refine lv_istore_n (lv' := [(3, .int r_11), (0, .ref mo), (1, .int x1), (2, .int x2)]) hx hb dX9_half_6 rfl hl (by decide) rfl (fun ls hl => ?_)
  refine lv_aload_n hx hb dX9_half_7 rfl (lv_at hl 1 rfl) ?_
  refine fw_get (C := RX9) (T := TX9) (N := 34) hx hb hts hin_X9 hown hK hF mf_obj rfl 15 (by decide) (hts (.fieldLink RX9 35 "FrontCodedIndexModel" "parts" "[I") (by decide +kernel)) (fun _ h9 => h9) rfl dX9_half_8 ?_
  refine lv_iload_n hx hb dX9_half_11 rfl (lv_at hl 2 rfl) ?_
  refine lv_iload_n hx hb dX9_half_12 rfl (lv_at hl 3 rfl) ?_
  refine fw_cS_i_p (As := [.int x1, .int x2]) (rest := [.ref (ad 15)]) ⟨hx, hb, hml, hown, hts⟩ (cc_X9_at l G had h) (⟨callB_of 2 hts ggX9_half_X9_at rfl rfl rfl (hts (.initialized RX9) (by decide +kernel)) (hts (.methodLink RX9 113 yX9_at) (by decide +kernel)) (by decide +kernel) ⟨Nat.le_of_ble_eq_true rfl, Nat.le_of_ble_eq_true rfl⟩, hts (.static yX9_at) (by decide +kernel)⟩) hK hZ hF hS hA rfl hl.1 rfl (Nat.le_of_ble_eq_true rfl) dX9_half_13 ⟨Nat.zero_le _, Nat.zero_le _⟩ (fun r_12 H locs h hF hS => ?_)
  obtain ⟨hi_i_13, h⟩ := h
  refine fw_iald hx hb hK hF (mf_arr had 15 (by decide)) hi_i_13 dX9_half_16 ?_
  refine lv_topi (fun v_14 e_v_14 => ?_)
  have h := h v_14 e_v_14
  refine lv_istore (lv' := [(4, .int v_14), (3, .int r_11), (0, .ref mo), (1, .int x1), (2, .int x2)]) hx hb dX9_half_17 hl (by decide) rfl (fun ls hl => ?_)
  refine lv_iconst (v := (1 : Int32)) hx hb dX9_half_19 (by decide) ?_
  refine lv_istore (lv' := [(5, .int (1 : Int32)), (4, .int v_14), (3, .int r_11), (0, .ref mo), (1, .int x1), (2, .int x2)]) hx hb dX9_half_20 hl (by decide) rfl (fun ls hl => ?_)
  refine lv_iconst (v := (-1 : Int32)) hx hb dX9_half_22 (by decide) ?_
  refine lv_istore (lv' := [(6, .int (-1 : Int32)), (5, .int (1 : Int32)), (4, .int v_14), (3, .int r_11), (0, .ref mo), (1, .int x1), (2, .int x2)]) hx hb dX9_half_23 hl (by decide) rfl (fun ls hl => ?_)
  refine lv_iconst (v := (1 : Int32)) hx hb dX9_half_25 (by decide) ?_
  refine lv_istore (lv' := [(7, .int (1 : Int32)), (6, .int (-1 : Int32)), (5, .int (1 : Int32)), (4, .int v_14), (3, .int r_11), (0, .ref mo), (1, .int x1), (2, .int x2)]) hx hb dX9_half_26 hl (by decide) rfl (fun ls hl => ?_)
  obtain ⟨n_15, h⟩ := h
  exact L28 r_11 v_14 n_15 (1 : Int32) (-1 : Int32) (1 : Int32) _ _ _ h hF hS (lv_sub hl [5, 6, 4, 3, 2, 1, 0] rfl)
theorem dX9_parts_0 : decode cX9_parts 0 = .ok (.aload_n 0, 1) := by decide +kernel
theorem dX9_parts_1 : decode cX9_parts 1 = .ok (.iload_n 1, 1) := by decide +kernel
theorem dX9_parts_2 : decode cX9_parts 2 = .ok (.iload_n 2, 1) := by decide +kernel
theorem dX9_parts_3 : decode cX9_parts 3 = .ok (.invokevirtual 151, 3) := by decide +kernel
theorem dX9_parts_6 : decode cX9_parts 6 = .ok (.istore_n 3, 1) := by decide +kernel
theorem dX9_parts_7 : decode cX9_parts 7 = .ok (.aload_n 0, 1) := by decide +kernel
theorem dX9_parts_8 : decode cX9_parts 8 = .ok (.getfield 35, 3) := by decide +kernel
theorem dX9_parts_11 : decode cX9_parts 11 = .ok (.iload_n 1, 1) := by decide +kernel
theorem dX9_parts_12 : decode cX9_parts 12 = .ok (.iload_n 2, 1) := by decide +kernel
theorem dX9_parts_13 : decode cX9_parts 13 = .ok (.invokestatic 113, 3) := by decide +kernel
theorem dX9_parts_16 : decode cX9_parts 16 = .ok (.iaload, 1) := by decide +kernel
theorem dX9_parts_17 : decode cX9_parts 17 = .ok (.iload_n 3, 1) := by decide +kernel
theorem dX9_parts_18 : decode cX9_parts 18 = .ok (.isub, 1) := by decide +kernel
theorem dX9_parts_19 : decode cX9_parts 19 = .ok (.istore 4, 2) := by decide +kernel
theorem dX9_parts_21 : decode cX9_parts 21 = .ok (.iload_n 1, 1) := by decide +kernel
theorem dX9_parts_22 : decode cX9_parts 22 = .ok (.aload_n 0, 1) := by decide +kernel
theorem dX9_parts_23 : decode cX9_parts 23 = .ok (.getfield 29, 3) := by decide +kernel
theorem dX9_parts_26 : decode cX9_parts 26 = .ok (.iconst 1, 1) := by decide +kernel
theorem dX9_parts_27 : decode cX9_parts 27 = .ok (.isub, 1) := by decide +kernel
theorem dX9_parts_28 : decode cX9_parts 28 = .ok (.if_icmp .ge 14, 3) := by decide +kernel
theorem dX9_parts_31 : decode cX9_parts 31 = .ok (.aload_n 0, 1) := by decide +kernel
theorem dX9_parts_32 : decode cX9_parts 32 = .ok (.iload_n 1, 1) := by decide +kernel
theorem dX9_parts_33 : decode cX9_parts 33 = .ok (.iconst 1, 1) := by decide +kernel
theorem dX9_parts_34 : decode cX9_parts 34 = .ok (.iadd, 1) := by decide +kernel
theorem dX9_parts_35 : decode cX9_parts 35 = .ok (.iload_n 2, 1) := by decide +kernel
theorem dX9_parts_36 : decode cX9_parts 36 = .ok (.invokevirtual 137, 3) := by decide +kernel
theorem dX9_parts_39 : decode cX9_parts 39 = .ok (.goto 4, 3) := by decide +kernel
theorem dX9_parts_42 : decode cX9_parts 42 = .ok (.iconst (-1), 1) := by decide +kernel
theorem dX9_parts_43 : decode cX9_parts 43 = .ok (.istore 5, 2) := by decide +kernel
theorem dX9_parts_45 : decode cX9_parts 45 = .ok (.aload_n 0, 1) := by decide +kernel
theorem dX9_parts_46 : decode cX9_parts 46 = .ok (.getfield 35, 3) := by decide +kernel
theorem dX9_parts_49 : decode cX9_parts 49 = .ok (.iload_n 1, 1) := by decide +kernel
theorem dX9_parts_50 : decode cX9_parts 50 = .ok (.iload_n 2, 1) := by decide +kernel
theorem dX9_parts_51 : decode cX9_parts 51 = .ok (.invokestatic 113, 3) := by decide +kernel
theorem dX9_parts_54 : decode cX9_parts 54 = .ok (.iload_n 3, 1) := by decide +kernel
theorem dX9_parts_55 : decode cX9_parts 55 = .ok (.iastore, 1) := by decide +kernel
theorem dX9_parts_56 : decode cX9_parts 56 = .ok (.aload_n 0, 1) := by decide +kernel
theorem dX9_parts_57 : decode cX9_parts 57 = .ok (.iload_n 1, 1) := by decide +kernel
theorem dX9_parts_58 : decode cX9_parts 58 = .ok (.iload_n 2, 1) := by decide +kernel
theorem dX9_parts_59 : decode cX9_parts 59 = .ok (.iload 4, 2) := by decide +kernel
theorem dX9_parts_61 : decode cX9_parts 61 = .ok (.invokevirtual 154, 3) := by decide +kernel
theorem dX9_parts_64 : decode cX9_parts 64 = .ok (.aload_n 0, 1) := by decide +kernel
theorem dX9_parts_65 : decode cX9_parts 65 = .ok (.dup, 1) := by decide +kernel
theorem dX9_parts_66 : decode cX9_parts 66 = .ok (.getfield 158, 3) := by decide +kernel
theorem dX9_parts_69 : decode cX9_parts 69 = .ok (.iconst 1, 1) := by decide +kernel
theorem dX9_parts_70 : decode cX9_parts 70 = .ok (.iadd, 1) := by decide +kernel
theorem dX9_parts_71 : decode cX9_parts 71 = .ok (.putfield 158, 3) := by decide +kernel
theorem dX9_parts_74 : decode cX9_parts 74 = .ok (.iload_n 1, 1) := by decide +kernel
theorem dX9_parts_75 : decode cX9_parts 75 = .ok (.ifCond .ne 8, 3) := by decide +kernel
theorem dX9_parts_78 : decode cX9_parts 78 = .ok (.aload_n 0, 1) := by decide +kernel
theorem dX9_parts_79 : decode cX9_parts 79 = .ok (.iload_n 2, 1) := by decide +kernel
theorem dX9_parts_80 : decode cX9_parts 80 = .ok (.invokevirtual 144, 3) := by decide +kernel
theorem dX9_parts_83 : decode cX9_parts 83 = .ok (.iload 5, 2) := by decide +kernel
theorem dX9_parts_85 : decode cX9_parts 85 = .ok (.iconst (-1), 1) := by decide +kernel
theorem dX9_parts_86 : decode cX9_parts 86 = .ok (.if_icmp .ne 40, 3) := by decide +kernel
theorem dX9_parts_89 : decode cX9_parts 89 = .ok (.aload_n 0, 1) := by decide +kernel
theorem dX9_parts_90 : decode cX9_parts 90 = .ok (.getfield 32, 3) := by decide +kernel
theorem dX9_parts_93 : decode cX9_parts 93 = .ok (.aload_n 0, 1) := by decide +kernel
theorem dX9_parts_94 : decode cX9_parts 94 = .ok (.getfield 29, 3) := by decide +kernel
theorem dX9_parts_97 : decode cX9_parts 97 = .ok (.iconst 1, 1) := by decide +kernel
theorem dX9_parts_98 : decode cX9_parts 98 = .ok (.iastore, 1) := by decide +kernel
theorem dX9_parts_99 : decode cX9_parts 99 = .ok (.aload_n 0, 1) := by decide +kernel
theorem dX9_parts_100 : decode cX9_parts 100 = .ok (.getfield 35, 3) := by decide +kernel
theorem dX9_parts_103 : decode cX9_parts 103 = .ok (.aload_n 0, 1) := by decide +kernel
theorem dX9_parts_104 : decode cX9_parts 104 = .ok (.getfield 29, 3) := by decide +kernel
theorem dX9_parts_107 : decode cX9_parts 107 = .ok (.iconst 0, 1) := by decide +kernel
theorem dX9_parts_108 : decode cX9_parts 108 = .ok (.invokestatic 113, 3) := by decide +kernel
theorem dX9_parts_111 : decode cX9_parts 111 = .ok (.iconst 2, 1) := by decide +kernel
theorem dX9_parts_112 : decode cX9_parts 112 = .ok (.iastore, 1) := by decide +kernel
theorem dX9_parts_113 : decode cX9_parts 113 = .ok (.aload_n 0, 1) := by decide +kernel
theorem dX9_parts_114 : decode cX9_parts 114 = .ok (.dup, 1) := by decide +kernel
theorem dX9_parts_115 : decode cX9_parts 115 = .ok (.getfield 29, 3) := by decide +kernel
theorem dX9_parts_118 : decode cX9_parts 118 = .ok (.iconst 1, 1) := by decide +kernel
theorem dX9_parts_119 : decode cX9_parts 119 = .ok (.iadd, 1) := by decide +kernel
theorem dX9_parts_120 : decode cX9_parts 120 = .ok (.putfield 29, 3) := by decide +kernel
theorem dX9_parts_123 : decode cX9_parts 123 = .ok (.goto 20, 3) := by decide +kernel
theorem dX9_parts_126 : decode cX9_parts 126 = .ok (.aload_n 0, 1) := by decide +kernel
theorem dX9_parts_127 : decode cX9_parts 127 = .ok (.getfield 35, 3) := by decide +kernel
theorem dX9_parts_130 : decode cX9_parts 130 = .ok (.iload_n 1, 1) := by decide +kernel
theorem dX9_parts_131 : decode cX9_parts 131 = .ok (.iconst 1, 1) := by decide +kernel
theorem dX9_parts_132 : decode cX9_parts 132 = .ok (.iadd, 1) := by decide +kernel
theorem dX9_parts_133 : decode cX9_parts 133 = .ok (.iload 5, 2) := by decide +kernel
theorem dX9_parts_135 : decode cX9_parts 135 = .ok (.invokestatic 113, 3) := by decide +kernel
theorem dX9_parts_138 : decode cX9_parts 138 = .ok (.dup2, 1) := by decide +kernel
theorem dX9_parts_139 : decode cX9_parts 139 = .ok (.iaload, 1) := by decide +kernel
theorem dX9_parts_140 : decode cX9_parts 140 = .ok (.iconst 1, 1) := by decide +kernel
theorem dX9_parts_141 : decode cX9_parts 141 = .ok (.iadd, 1) := by decide +kernel
theorem dX9_parts_142 : decode cX9_parts 142 = .ok (.iastore, 1) := by decide +kernel
theorem dX9_parts_143 : decode cX9_parts 143 = .ok (.return_, 1) := by decide +kernel
set_option maxRecDepth 20000 in
theorem ggX9_parts_X9_at : GoodIn wsX9_parts wsX9_at := goodIn_r _ [16] (by decide +kernel) (by decide +kernel)
set_option maxRecDepth 20000 in
theorem ggX9_parts_X9_comes : GoodIn wsX9_parts wsX9_comes := goodIn_r _ [47, 4, 1, 34, 35, 14, 15, 8, 16, 48, 49, 50, 51, 56, 57, 58, 59, 60, 61, 62, 63, 64, 65, 66, 67, 68, 69, 70, 71, 72, 73, 74, 75, 76, 77, 78, 79, 80, 81, 82, 83, 84, 85, 86, 87, 88, 89] (by decide +kernel) (by decide +kernel)
set_option maxRecDepth 20000 in
theorem ggX9_parts_X9_half : GoodIn wsX9_parts wsX9_half := goodIn_r _ [9, 1, 10, 11, 12, 8, 13, 14, 15, 16, 17, 18, 19, 20, 21, 22, 23, 24, 25, 26, 27, 28, 29, 30, 31, 32, 33, 34, 35, 36, 37, 38, 39, 56, 57, 58, 59, 60, 61, 62, 63, 64, 65, 66, 67, 68, 69, 70, 71, 72, 73, 74, 75, 76, 77, 78, 79, 80, 81, 82, 83, 84, 85, 86, 87, 88, 89] (by decide +kernel) (by decide +kernel)
set_option maxRecDepth 20000 in
theorem ggX9_parts_X9_pageOf : GoodIn wsX9_parts wsX9_pageOf := goodIn_r _ [43, 1, 14, 15, 8, 16, 56, 57, 58, 59, 60, 61, 62, 63, 64, 65, 66, 67, 68, 69, 70, 71, 72, 73, 74, 75, 76, 77, 78, 79, 80, 81, 82, 83, 84, 85, 86, 87, 88, 89] (by decide +kernel) (by decide +kernel)
set_option maxRecDepth 20000 in
theorem ggX9_parts_X9_separates : GoodIn wsX9_parts wsX9_separates := goodIn_r _ [55, 25, 26, 10, 11, 12, 8, 13, 1, 14, 15, 16, 27, 28, 29, 48, 49, 50, 51, 35, 34, 56, 57, 58, 59, 60, 61, 62, 63, 64, 65, 66, 67, 68, 69, 70, 71, 72, 73, 74, 75, 76, 77, 78, 79, 80, 81, 82, 83, 84, 85, 86, 87, 88, 89] (by decide +kernel) (by decide +kernel)
def wp_X9_parts_83 (x1 : Int32) (y5 : Int32) (n : Nat → Int32) (g : Nat → Nat → Int32) (K : (Nat → Int32) → (Nat → Nat → Int32) → Prop)  : Prop :=
  ((¬ y5 = (-1 : Int32) → wp_X9_at (x1 + (1 : Int32)) y5 n g (fun r_2 => vp_in r_2 (mlen 15) ∧ ∀ v_4 : Int32, v_4 = g 15 (r_2).toNatClampNeg → vp_in r_2 (mlen 15) ∧ ∀ g_6 : Nat → Nat → Int32, g_6 = mup g 15 (r_2).toNatClampNeg (v_4 + (1 : Int32)) → K n g_6)) ∧
 (y5 = (-1 : Int32) → vp_in (n 13) (mlen 14) ∧ ∀ g_8 : Nat → Nat → Int32, g_8 = mup g 14 ((n 13)).toNatClampNeg (1 : Int32) → wp_X9_at (n 13) (0 : Int32) n g_8 (fun r_9 => vp_in r_9 (mlen 15) ∧ ∀ g_11 : Nat → Nat → Int32, g_11 = mup g_8 15 (r_9).toNatClampNeg (2 : Int32) → ∀ n_12 : Nat → Int32, n_12 = upd n 13 ((n 13) + (1 : Int32)) → K n_12 g_11)))
def wp_X9_parts_43 (x1 : Int32) (x2 : Int32) (y3 : Int32) (y4 : Int32) (z0 : Int32) (n : Nat → Int32) (g : Nat → Nat → Int32) (K : (Nat → Int32) → (Nat → Nat → Int32) → Prop)  : Prop :=
  wp_X9_at x1 x2 n g (fun r_13 => vp_in r_13 (mlen 15) ∧ ∀ g_15 : Nat → Nat → Int32, g_15 = mup g 15 (r_13).toNatClampNeg y3 → wp_X9_comes x1 x2 y4 n g_15 (fun n_18 g_19 => ∀ n_20 : Nat → Int32, n_20 = upd n_18 6 ((n_18 6) + (1 : Int32)) → ((¬ x1 = (0 : Int32) → wp_X9_parts_83 x1 z0 n_20 g_19 K) ∧
 (x1 = (0 : Int32) → wp_X9_separates x2 n_20 g_19 (fun n_24 g_25 => wp_X9_parts_83 x1 z0 n_24 g_25 K)))))
def wp_X9_parts (x1 : Int32) (x2 : Int32) (n : Nat → Int32) (g : Nat → Nat → Int32) (K : (Nat → Int32) → (Nat → Nat → Int32) → Prop) : Prop :=
  wp_X9_half x1 x2 n g (fun r_26 => wp_X9_at x1 x2 n g (fun r_27 => vp_in r_27 (mlen 15) ∧ ∀ v_29 : Int32, v_29 = g 15 (r_27).toNatClampNeg → ∀ v_30 : Int32, v_30 = (v_29 - r_26) → ((((n 13) - (1 : Int32)) ≤ x1 → wp_X9_parts_43 x1 x2 r_26 v_30 (-1 : Int32) n g K) ∧
 (¬ (((n 13) - (1 : Int32)) ≤ x1) → wp_X9_pageOf (x1 + (1 : Int32)) x2 n g (fun r_33 => wp_X9_parts_43 x1 x2 r_26 v_30 r_33 n g K)))))
set_option maxHeartbeats 4000000 in
set_option maxRecDepth 100000 in
theorem cc_X9_parts (l : Launch) (G : GG) {mo : Nat} {ad : Nat → Nat} (had : MAd mo ad) {n : Nat → Int32} {g : Nat → Nat → Int32} {sz : Nat} {x1 : Int32} {x2 : Int32} {K : (Nat → Int32) → (Nat → Nat → Int32) → Prop} (h : wp_X9_parts x1 x2 n g K) : Met l yX9_parts wsX9_parts ({ frames := 6, cells := 0, slots := 0, locals := 148 } : Room) (FP G [.ref mo, .int x1, .int x2] (mf mo ad n g) sz) (va_Qv (fun f9 => ∃ n9 g9, f9 = mf mo ad n9 g9 ∧ K n9 g9 : FT → Prop) (FB G (fA (mf mo ad n g) sz)) (fA (mf mo ad n g) sz)) 0 0 (fA (mf mo ad n g) sz) := by
  refine Met.ofW (cc := cX9_parts) (maxL := 6) (ret := none) (by decide) rfl ?_
  intro p e s m args below meth c s₁ B hml hv
  obtain ⟨rfl, hsz, hF, hK, hZ⟩ := hv
  have hx := B.exec
  have hb := B.bytes
  have hr := B.returns
  have hts := atoms_spec (ws := wsX9_parts) B.pre
  have hown : s.vm.findClass RX9 = some m.cls := findClass_of_methodNamed B.named
  have hlocks := B.notSynchronized
  subst hsz
  have hF := hF.self (sz := s.heap.size)
  generalize hAe : fA (mf mo ad n g) s.heap.size = A at hF hZ ⊢
  have hA : ∀ q : Nat, s.heap.size ≤ q → A q := fun q h => by rw [← hAe]; exact Or.inr h
  have hS : va_S A s.heap s.heap [] := va_S.rf
  have hin_X9 : ∀ w ∈ wsX90, w ∈ wsX9_parts := by decide +kernel
  have J83 : ∀ (y5 : Int32) (n : Nat → Int32) (g : Nat → Nat → Int32) (H : Heap) (locs : List Loc) (ls : Array Slot), wp_X9_parts_83 x1 y5 n g K  → Fw G A (mf mo ad n g) H → va_S A s.heap H locs → lv_has ls 6 [(0, .ref mo), (1, .int x1), (5, .int y5)] → W p l e ({ frames := 6, cells := 0, slots := 0, locals := 148 } : Room) s m ([.ref mo, .int x1, .int x2] : List Value).toArray below meth c H locs 0 0 (MQ below (va_Qv (fun f9 => ∃ n9 g9, f9 = mf mo ad n9 g9 ∧ K n9 g9 : FT → Prop) (FB G A) A) ([.ref mo, .int x1, .int x2] : List Value).toArray s 0 0 A) (F0 m 83 ls []) := by
    intro y5 n g H locs ls h hF hS hl
    unfold wp_X9_parts_83 at h
    refine lv_iload hx hb dX9_parts_83 (lv_at hl 2 rfl) ?_
    refine lv_iconst (v := (-1 : Int32)) hx hb dX9_parts_85 (by decide) ?_
    obtain ⟨h1, h2⟩ := h
    refine lv_icmp_ne (tgt := 126) hx hb dX9_parts_86 (by decide) (fun c_1 => ?_) (fun c_1 => ?_)
    · have h := h1 c_1
      refine lv_aload_n hx hb dX9_parts_126 rfl (lv_at hl 0 rfl) ?_
      refine fw_get (C := RX9) (T := TX9) (N := 34) hx hb hts hin_X9 hown hK hF mf_obj rfl 15 (by decide) (hts (.fieldLink RX9 35 "FrontCodedIndexModel" "parts" "[I") (by decide +kernel)) (fun _ h9 => h9) rfl dX9_parts_127 ?_
      refine lv_iload_n hx hb dX9_parts_130 rfl (lv_at hl 1 rfl) ?_
      refine lv_iconst (v := (1 : Int32)) hx hb dX9_parts_131 (by decide) ?_
      refine lv_iadd hx hb dX9_parts_132 ?_
      refine lv_iload hx hb dX9_parts_133 (lv_at hl 2 rfl) ?_
      refine fw_cS_i_p (As := [.int (x1 + (1 : Int32)), .int y5]) (rest := [.ref (ad 15)]) ⟨hx, hb, hml, hown, hts⟩ (cc_X9_at l G had h) (⟨callB_of 2 hts ggX9_parts_X9_at rfl rfl rfl (hts (.initialized RX9) (by decide +kernel)) (hts (.methodLink RX9 113 yX9_at) (by decide +kernel)) (by decide +kernel) ⟨Nat.le_of_ble_eq_true rfl, Nat.le_of_ble_eq_true rfl⟩, hts (.static yX9_at) (by decide +kernel)⟩) hK hZ hF hS hA rfl hl.1 rfl (Nat.le_of_ble_eq_true rfl) dX9_parts_135 ⟨Nat.zero_le _, Nat.zero_le _⟩ (fun r_2 H locs h hF hS => ?_)
      refine lv_dup2_11 hx hb dX9_parts_138 rfl rfl ?_
      obtain ⟨hi_i_3, h⟩ := h
      refine fw_iald hx hb hK hF (mf_arr had 15 (by decide)) hi_i_3 dX9_parts_139 ?_
      refine lv_topi (fun v_4 e_v_4 => ?_)
      have h := h v_4 e_v_4
      refine lv_iconst (v := (1 : Int32)) hx hb dX9_parts_140 (by decide) ?_
      refine lv_iadd hx hb dX9_parts_141 ?_
      obtain ⟨hi_i_5, h⟩ := h
      refine fw_iast hx hb hK hF hS (mf_arr had 15 (by decide)) hi_i_5 dX9_parts_142 (fun H locs hF hS => ?_)
      rw [mf_st had 15 (by decide)] at hF
      obtain ⟨g_6, hg_g_6⟩ : ∃ z, z = mup g 15 (r_2).toNatClampNeg (v_4 + (1 : Int32)) := ⟨_, rfl⟩
      rw [← hg_g_6] at hF; have h := h g_6 hg_g_6
      exact W.vret hx hb hr (fun t ht hW => ⟨⟨(mf mo ad n g_6), rfl, ⟨_, _, rfl, h⟩, by rw [ht]; exact hF, FK.moved hW.alike hK⟩, hS.F ht⟩) hS.2.2 dX9_parts_143
    · have h := h2 c_1
      refine lv_aload_n hx hb dX9_parts_89 rfl (lv_at hl 0 rfl) ?_
      refine fw_get (C := RX9) (T := TX9) (N := 34) hx hb hts hin_X9 hown hK hF mf_obj rfl 14 (by decide) (hts (.fieldLink RX9 32 "FrontCodedIndexModel" "many" "[I") (by decide +kernel)) (fun _ h9 => h9) rfl dX9_parts_90 ?_
      refine lv_aload_n hx hb dX9_parts_93 rfl (lv_at hl 0 rfl) ?_
      refine fw_get (C := RX9) (T := TX9) (N := 34) hx hb hts hin_X9 hown hK hF mf_obj rfl 13 (by decide) (hts (.fieldLink RX9 29 "FrontCodedIndexModel" "levels" "I") (by decide +kernel)) (fun _ h9 => h9) rfl dX9_parts_94 ?_
      refine lv_iconst (v := (1 : Int32)) hx hb dX9_parts_97 (by decide) ?_
      obtain ⟨hi_i_7, h⟩ := h
      refine fw_iast hx hb hK hF hS (mf_arr had 14 (by decide)) hi_i_7 dX9_parts_98 (fun H locs hF hS => ?_)
      rw [mf_st had 14 (by decide)] at hF
      obtain ⟨g_8, hg_g_8⟩ : ∃ z, z = mup g 14 ((n 13)).toNatClampNeg (1 : Int32) := ⟨_, rfl⟩
      rw [← hg_g_8] at hF; have h := h g_8 hg_g_8
      refine lv_aload_n hx hb dX9_parts_99 rfl (lv_at hl 0 rfl) ?_
      refine fw_get (C := RX9) (T := TX9) (N := 34) hx hb hts hin_X9 hown hK hF mf_obj rfl 15 (by decide) (hts (.fieldLink RX9 35 "FrontCodedIndexModel" "parts" "[I") (by decide +kernel)) (fun _ h9 => h9) rfl dX9_parts_100 ?_
      refine lv_aload_n hx hb dX9_parts_103 rfl (lv_at hl 0 rfl) ?_
      refine fw_get (C := RX9) (T := TX9) (N := 34) hx hb hts hin_X9 hown hK hF mf_obj rfl 13 (by decide) (hts (.fieldLink RX9 29 "FrontCodedIndexModel" "levels" "I") (by decide +kernel)) (fun _ h9 => h9) rfl dX9_parts_104 ?_
      refine lv_iconst (v := (0 : Int32)) hx hb dX9_parts_107 (by decide) ?_
      refine fw_cS_i_p (As := [.int (n 13), .int (0 : Int32)]) (rest := [.ref (ad 15)]) ⟨hx, hb, hml, hown, hts⟩ (cc_X9_at l G had h) (⟨callB_of 2 hts ggX9_parts_X9_at rfl rfl rfl (hts (.initialized RX9) (by decide +kernel)) (hts (.methodLink RX9 113 yX9_at) (by decide +kernel)) (by decide +kernel) ⟨Nat.le_of_ble_eq_true rfl, Nat.le_of_ble_eq_true rfl⟩, hts (.static yX9_at) (by decide +kernel)⟩) hK hZ hF hS hA rfl hl.1 rfl (Nat.le_of_ble_eq_true rfl) dX9_parts_108 ⟨Nat.zero_le _, Nat.zero_le _⟩ (fun r_9 H locs h hF hS => ?_)
      refine lv_iconst (v := (2 : Int32)) hx hb dX9_parts_111 (by decide) ?_
      obtain ⟨hi_i_10, h⟩ := h
      refine fw_iast hx hb hK hF hS (mf_arr had 15 (by decide)) hi_i_10 dX9_parts_112 (fun H locs hF hS => ?_)
      rw [mf_st had 15 (by decide)] at hF
      obtain ⟨g_11, hg_g_11⟩ : ∃ z, z = mup g_8 15 (r_9).toNatClampNeg (2 : Int32) := ⟨_, rfl⟩
      rw [← hg_g_11] at hF; have h := h g_11 hg_g_11
      refine lv_aload_n hx hb dX9_parts_113 rfl (lv_at hl 0 rfl) ?_
      refine lv_dup hx hb dX9_parts_114 rfl ?_
      refine fw_get (C := RX9) (T := TX9) (N := 34) hx hb hts hin_X9 hown hK hF mf_obj rfl 13 (by decide) (hts (.fieldLink RX9 29 "FrontCodedIndexModel" "levels" "I") (by decide +kernel)) (fun _ h9 => h9) rfl dX9_parts_115 ?_
      refine lv_iconst (v := (1 : Int32)) hx hb dX9_parts_118 (by decide) ?_
      refine lv_iadd hx hb dX9_parts_119 ?_
      refine fw_put (v := .int ((n 13) + (1 : Int32))) (ty := .int) (C := RX9) (T := TX9) (N := 34) hx hb hts hin_X9 tyX9 tyX9_ok nmX9 hown hK hF hS mf_obj rfl 13 (by decide) (hts (.fieldLink RX9 29 "FrontCodedIndexModel" "levels" "I") (by decide +kernel)) (fun _ h9 => h9) rfl (by decide +kernel) rfl rfl (show 13 < 34 by decide) dX9_parts_120 (fun H locs hF hS => ?_)
      rw [mf_put 13 ((n 13) + (1 : Int32)) rfl] at hF
      obtain ⟨n_12, hn_n_12⟩ : ∃ z, z = upd n 13 ((n 13) + (1 : Int32)) := ⟨_, rfl⟩
      rw [← hn_n_12] at hF; have h := h n_12 hn_n_12
      refine lv_goto (tgt := 143) hx hb dX9_parts_123 (by decide) ?_
      exact W.vret hx hb hr (fun t ht hW => ⟨⟨(mf mo ad n_12 g_11), rfl, ⟨_, _, rfl, h⟩, by rw [ht]; exact hF, FK.moved hW.alike hK⟩, hS.F ht⟩) hS.2.2 dX9_parts_143
  have J43 : ∀ (y3 : Int32) (y4 : Int32) (z0 : Int32) (n : Nat → Int32) (g : Nat → Nat → Int32) (H : Heap) (locs : List Loc) (ls : Array Slot), wp_X9_parts_43 x1 x2 y3 y4 z0 n g K  → Fw G A (mf mo ad n g) H → va_S A s.heap H locs → lv_has ls 6 [(0, .ref mo), (1, .int x1), (2, .int x2), (3, .int y3), (4, .int y4)] → W p l e ({ frames := 6, cells := 0, slots := 0, locals := 148 } : Room) s m ([.ref mo, .int x1, .int x2] : List Value).toArray below meth c H locs 0 0 (MQ below (va_Qv (fun f9 => ∃ n9 g9, f9 = mf mo ad n9 g9 ∧ K n9 g9 : FT → Prop) (FB G A) A) ([.ref mo, .int x1, .int x2] : List Value).toArray s 0 0 A) (F0 m 43 ls [.int z0]) := by
    intro y3 y4 z0 n g H locs ls h hF hS hl
    unfold wp_X9_parts_43 at h
    refine lv_istore (lv' := [(5, .int z0), (0, .ref mo), (1, .int x1), (2, .int x2), (3, .int y3), (4, .int y4)]) hx hb dX9_parts_43 hl (by decide) rfl (fun ls hl => ?_)
    refine lv_aload_n hx hb dX9_parts_45 rfl (lv_at hl 1 rfl) ?_
    refine fw_get (C := RX9) (T := TX9) (N := 34) hx hb hts hin_X9 hown hK hF mf_obj rfl 15 (by decide) (hts (.fieldLink RX9 35 "FrontCodedIndexModel" "parts" "[I") (by decide +kernel)) (fun _ h9 => h9) rfl dX9_parts_46 ?_
    refine lv_iload_n hx hb dX9_parts_49 rfl (lv_at hl 2 rfl) ?_
    refine lv_iload_n hx hb dX9_parts_50 rfl (lv_at hl 3 rfl) ?_
    refine fw_cS_i_p (As := [.int x1, .int x2]) (rest := [.ref (ad 15)]) ⟨hx, hb, hml, hown, hts⟩ (cc_X9_at l G had h) (⟨callB_of 2 hts ggX9_parts_X9_at rfl rfl rfl (hts (.initialized RX9) (by decide +kernel)) (hts (.methodLink RX9 113 yX9_at) (by decide +kernel)) (by decide +kernel) ⟨Nat.le_of_ble_eq_true rfl, Nat.le_of_ble_eq_true rfl⟩, hts (.static yX9_at) (by decide +kernel)⟩) hK hZ hF hS hA rfl hl.1 rfl (Nat.le_of_ble_eq_true rfl) dX9_parts_51 ⟨Nat.zero_le _, Nat.zero_le _⟩ (fun r_13 H locs h hF hS => ?_)
    refine lv_iload_n hx hb dX9_parts_54 rfl (lv_at hl 4 rfl) ?_
    obtain ⟨hi_i_14, h⟩ := h
    refine fw_iast hx hb hK hF hS (mf_arr had 15 (by decide)) hi_i_14 dX9_parts_55 (fun H locs hF hS => ?_)
    rw [mf_st had 15 (by decide)] at hF
    obtain ⟨g_15, hg_g_15⟩ : ∃ z, z = mup g 15 (r_13).toNatClampNeg y3 := ⟨_, rfl⟩
    rw [← hg_g_15] at hF; have h := h g_15 hg_g_15
    refine lv_aload_n hx hb dX9_parts_56 rfl (lv_at hl 1 rfl) ?_
    refine lv_iload_n hx hb dX9_parts_57 rfl (lv_at hl 2 rfl) ?_
    refine lv_iload_n hx hb dX9_parts_58 rfl (lv_at hl 3 rfl) ?_
    refine lv_iload hx hb dX9_parts_59 (lv_at hl 5 rfl) ?_
    refine fw_cV_v (As := [.int x1, .int x2, .int y4]) (rest := []) ⟨hx, hb, hml, hown, hts⟩ (cc_X9_comes l G had h) (⟨callB_of 3 hts ggX9_parts_X9_comes rfl rfl rfl (hts (.initialized RX9) (by decide +kernel)) (hts (.methodLink RX9 154 yX9_comes) (by decide +kernel)) (by decide +kernel) ⟨Nat.le_of_ble_eq_true rfl, Nat.le_of_ble_eq_true rfl⟩, hts (.instanceMethod yX9_comes) (by decide +kernel), hts (.selects RX9 yX9_comes yX9_comes) (by decide +kernel)⟩) rfl mf_obj hK hZ hF hS hA rfl hl.1 rfl (Nat.le_of_ble_eq_true rfl) dX9_parts_61 ⟨Nat.zero_le _, Nat.zero_le _⟩ (fun f9 H locs h hF hS => ?_)
    obtain ⟨n_18, g_19, rfl, h⟩ := h
    refine lv_aload_n hx hb dX9_parts_64 rfl (lv_at hl 1 rfl) ?_
    refine lv_dup hx hb dX9_parts_65 rfl ?_
    refine fw_get (C := RX9) (T := TX9) (N := 34) hx hb hts hin_X9 hown hK hF mf_obj rfl 6 (by decide) (hts (.fieldLink RX9 158 "FrontCodedIndexModel" "splits" "I") (by decide +kernel)) (fun _ h9 => h9) rfl dX9_parts_66 ?_
    refine lv_iconst (v := (1 : Int32)) hx hb dX9_parts_69 (by decide) ?_
    refine lv_iadd hx hb dX9_parts_70 ?_
    refine fw_put (v := .int ((n_18 6) + (1 : Int32))) (ty := .int) (C := RX9) (T := TX9) (N := 34) hx hb hts hin_X9 tyX9 tyX9_ok nmX9 hown hK hF hS mf_obj rfl 6 (by decide) (hts (.fieldLink RX9 158 "FrontCodedIndexModel" "splits" "I") (by decide +kernel)) (fun _ h9 => h9) rfl (by decide +kernel) rfl rfl (show 6 < 34 by decide) dX9_parts_71 (fun H locs hF hS => ?_)
    rw [mf_put 6 ((n_18 6) + (1 : Int32)) rfl] at hF
    obtain ⟨n_20, hn_n_20⟩ : ∃ z, z = upd n_18 6 ((n_18 6) + (1 : Int32)) := ⟨_, rfl⟩
    rw [← hn_n_20] at hF; have h := h n_20 hn_n_20
    refine lv_iload_n hx hb dX9_parts_74 rfl (lv_at hl 2 rfl) ?_
    obtain ⟨h1, h2⟩ := h
    refine lv_if_ne (tgt := 83) hx hb dX9_parts_75 (by decide) (fun c_21 => ?_) (fun c_21 => ?_)
    · have h := h1 c_21
      exact J83 z0 n_20 g_19 _ _ _ h hF hS (lv_sub hl [1, 2, 0] rfl)
    · have h := h2 c_21
      refine lv_aload_n hx hb dX9_parts_78 rfl (lv_at hl 1 rfl) ?_
      refine lv_iload_n hx hb dX9_parts_79 rfl (lv_at hl 3 rfl) ?_
      refine fw_cV_v (As := [.int x2]) (rest := []) ⟨hx, hb, hml, hown, hts⟩ (cc_X9_separates l G had h) (⟨callB_of 1 hts ggX9_parts_X9_separates rfl rfl rfl (hts (.initialized RX9) (by decide +kernel)) (hts (.methodLink RX9 144 yX9_separates) (by decide +kernel)) (by decide +kernel) ⟨Nat.le_of_ble_eq_true rfl, Nat.le_of_ble_eq_true rfl⟩, hts (.instanceMethod yX9_separates) (by decide +kernel), hts (.selects RX9 yX9_separates yX9_separates) (by decide +kernel)⟩) rfl mf_obj hK hZ hF hS hA rfl hl.1 rfl (Nat.le_of_ble_eq_true rfl) dX9_parts_80 ⟨Nat.zero_le _, Nat.zero_le _⟩ (fun f9 H locs h hF hS => ?_)
      obtain ⟨n_24, g_25, rfl, h⟩ := h
      exact J83 z0 n_24 g_25 _ _ _ h hF hS (lv_sub hl [1, 2, 0] rfl)
  have hl := lv_entry ([.ref mo, .int x1, .int x2]) (n := 6) (Nat.le_of_ble_eq_true rfl)
  rw [lg_entry_eq]
  generalize (lg_sl ([.ref mo, .int x1, .int x2]) ++ List.replicate (6 - (lg_sl ([.ref mo, .int x1, .int x2])).length) Slot.unset).toArray = ls at hl ⊢
  have hl : lv_has ls 6 [(0, .ref mo), (1, .int x1), (2, .int x2)] := hl
  unfold wp_X9_parts at h
  refine lv_aload_n hx hb dX9_parts_0 rfl (lv_at hl 0 rfl) ?_
  refine lv_iload_n hx hb dX9_parts_1 rfl (lv_at hl 1 rfl) ?_
  refine lv_iload_n hx hb dX9_parts_2 rfl (lv_at hl 2 rfl) ?_
  refine fw_cV_i_p (As := [.int x1, .int x2]) (rest := []) ⟨hx, hb, hml, hown, hts⟩ (cc_X9_half l G had h) (⟨callB_of 2 hts ggX9_parts_X9_half rfl rfl rfl (hts (.initialized RX9) (by decide +kernel)) (hts (.methodLink RX9 151 yX9_half) (by decide +kernel)) (by decide +kernel) ⟨Nat.le_of_ble_eq_true rfl, Nat.le_of_ble_eq_true rfl⟩, hts (.instanceMethod yX9_half) (by decide +kernel), hts (.selects RX9 yX9_half yX9_half) (by decide +kernel)⟩) rfl mf_obj hK hZ hF hS hA rfl hl.1 rfl (Nat.le_of_ble_eq_true rfl) dX9_parts_3 ⟨Nat.zero_le _, Nat.zero_le _⟩ (fun r_26 H locs h hF hS => ?_)
  refine lv_istore_n (lv' := [(3, .int r_26), (0, .ref mo), (1, .int x1), (2, .int x2)]) hx hb dX9_parts_6 rfl hl (by decide) rfl (fun ls hl => ?_)
  refine lv_aload_n hx hb dX9_parts_7 rfl (lv_at hl 1 rfl) ?_
  refine fw_get (C := RX9) (T := TX9) (N := 34) hx hb hts hin_X9 hown hK hF mf_obj rfl 15 (by decide) (hts (.fieldLink RX9 35 "FrontCodedIndexModel" "parts" "[I") (by decide +kernel)) (fun _ h9 => h9) rfl dX9_parts_8 ?_
  refine lv_iload_n hx hb dX9_parts_11 rfl (lv_at hl 2 rfl) ?_
  refine lv_iload_n hx hb dX9_parts_12 rfl (lv_at hl 3 rfl) ?_
  refine fw_cS_i_p (As := [.int x1, .int x2]) (rest := [.ref (ad 15)]) ⟨hx, hb, hml, hown, hts⟩ (cc_X9_at l G had h) (⟨callB_of 2 hts ggX9_parts_X9_at rfl rfl rfl (hts (.initialized RX9) (by decide +kernel)) (hts (.methodLink RX9 113 yX9_at) (by decide +kernel)) (by decide +kernel) ⟨Nat.le_of_ble_eq_true rfl, Nat.le_of_ble_eq_true rfl⟩, hts (.static yX9_at) (by decide +kernel)⟩) hK hZ hF hS hA rfl hl.1 rfl (Nat.le_of_ble_eq_true rfl) dX9_parts_13 ⟨Nat.zero_le _, Nat.zero_le _⟩ (fun r_27 H locs h hF hS => ?_)
  obtain ⟨hi_i_28, h⟩ := h
  refine fw_iald hx hb hK hF (mf_arr had 15 (by decide)) hi_i_28 dX9_parts_16 ?_
  refine lv_topi (fun v_29 e_v_29 => ?_)
  have h := h v_29 e_v_29
  refine lv_iload_n hx hb dX9_parts_17 rfl (lv_at hl 0 rfl) ?_
  refine lv_isub hx hb dX9_parts_18 ?_
  refine lv_topi (fun v_30 e_31 => ?_)
  have h := h v_30 e_31
  refine lv_istore (lv' := [(4, .int v_30), (3, .int r_26), (0, .ref mo), (1, .int x1), (2, .int x2)]) hx hb dX9_parts_19 hl (by decide) rfl (fun ls hl => ?_)
  refine lv_iload_n hx hb dX9_parts_21 rfl (lv_at hl 3 rfl) ?_
  refine lv_aload_n hx hb dX9_parts_22 rfl (lv_at hl 2 rfl) ?_
  refine fw_get (C := RX9) (T := TX9) (N := 34) hx hb hts hin_X9 hown hK hF mf_obj rfl 13 (by decide) (hts (.fieldLink RX9 29 "FrontCodedIndexModel" "levels" "I") (by decide +kernel)) (fun _ h9 => h9) rfl dX9_parts_23 ?_
  refine lv_iconst (v := (1 : Int32)) hx hb dX9_parts_26 (by decide) ?_
  refine lv_isub hx hb dX9_parts_27 ?_
  obtain ⟨h1, h2⟩ := h
  refine lv_icmp_ge (tgt := 42) hx hb dX9_parts_28 (by decide) (fun c_32 => ?_) (fun c_32 => ?_)
  · have h := h1 c_32
    refine lv_iconst (v := (-1 : Int32)) hx hb dX9_parts_42 (by decide) ?_
    exact J43 r_26 v_30 (-1 : Int32) n g _ _ _ h hF hS (lv_sub hl [2, 3, 4, 1, 0] rfl)
  · have h := h2 c_32
    refine lv_aload_n hx hb dX9_parts_31 rfl (lv_at hl 2 rfl) ?_
    refine lv_iload_n hx hb dX9_parts_32 rfl (lv_at hl 3 rfl) ?_
    refine lv_iconst (v := (1 : Int32)) hx hb dX9_parts_33 (by decide) ?_
    refine lv_iadd hx hb dX9_parts_34 ?_
    refine lv_iload_n hx hb dX9_parts_35 rfl (lv_at hl 4 rfl) ?_
    refine fw_cV_i_p (As := [.int (x1 + (1 : Int32)), .int x2]) (rest := []) ⟨hx, hb, hml, hown, hts⟩ (cc_X9_pageOf l G had h) (⟨callB_of 2 hts ggX9_parts_X9_pageOf rfl rfl rfl (hts (.initialized RX9) (by decide +kernel)) (hts (.methodLink RX9 137 yX9_pageOf) (by decide +kernel)) (by decide +kernel) ⟨Nat.le_of_ble_eq_true rfl, Nat.le_of_ble_eq_true rfl⟩, hts (.instanceMethod yX9_pageOf) (by decide +kernel), hts (.selects RX9 yX9_pageOf yX9_pageOf) (by decide +kernel)⟩) rfl mf_obj hK hZ hF hS hA rfl hl.1 rfl (Nat.le_of_ble_eq_true rfl) dX9_parts_36 ⟨Nat.zero_le _, Nat.zero_le _⟩ (fun r_33 H locs h hF hS => ?_)
    refine lv_goto (tgt := 43) hx hb dX9_parts_39 (by decide) ?_
    exact J43 r_26 v_30 r_33 n g _ _ _ h hF hS (lv_sub hl [2, 3, 4, 1, 0] rfl)
theorem dX9_grows_0 : decode cX9_grows 0 = .ok (.aload_n 0, 1) := by decide +kernel
theorem dX9_grows_1 : decode cX9_grows 1 = .ok (.iconst 0, 1) := by decide +kernel
theorem dX9_grows_2 : decode cX9_grows 2 = .ok (.iload_n 1, 1) := by decide +kernel
theorem dX9_grows_3 : decode cX9_grows 3 = .ok (.invokevirtual 161, 3) := by decide +kernel
theorem dX9_grows_6 : decode cX9_grows 6 = .ok (.aload_n 0, 1) := by decide +kernel
theorem dX9_grows_7 : decode cX9_grows 7 = .ok (.getfield 16, 3) := by decide +kernel
theorem dX9_grows_10 : decode cX9_grows 10 = .ok (.if_icmp .gt 4, 3) := by decide +kernel
theorem dX9_grows_13 : decode cX9_grows 13 = .ok (.return_, 1) := by decide +kernel
theorem dX9_grows_14 : decode cX9_grows 14 = .ok (.aload_n 0, 1) := by decide +kernel
theorem dX9_grows_15 : decode cX9_grows 15 = .ok (.getfield 29, 3) := by decide +kernel
theorem dX9_grows_18 : decode cX9_grows 18 = .ok (.iconst 1, 1) := by decide +kernel
theorem dX9_grows_19 : decode cX9_grows 19 = .ok (.if_icmp .ne 7, 3) := by decide +kernel
theorem dX9_grows_22 : decode cX9_grows 22 = .ok (.iconst 1, 1) := by decide +kernel
theorem dX9_grows_23 : decode cX9_grows 23 = .ok (.goto 4, 3) := by decide +kernel
theorem dX9_grows_26 : decode cX9_grows 26 = .ok (.iconst 0, 1) := by decide +kernel
theorem dX9_grows_27 : decode cX9_grows 27 = .ok (.istore_n 2, 1) := by decide +kernel
theorem dX9_grows_28 : decode cX9_grows 28 = .ok (.aload_n 0, 1) := by decide +kernel
theorem dX9_grows_29 : decode cX9_grows 29 = .ok (.iload_n 1, 1) := by decide +kernel
theorem dX9_grows_30 : decode cX9_grows 30 = .ok (.iconst 1, 1) := by decide +kernel
theorem dX9_grows_31 : decode cX9_grows 31 = .ok (.invokevirtual 164, 3) := by decide +kernel
theorem dX9_grows_34 : decode cX9_grows 34 = .ok (.ifCond .ne 18, 3) := by decide +kernel
theorem dX9_grows_37 : decode cX9_grows 37 = .ok (.aload_n 0, 1) := by decide +kernel
theorem dX9_grows_38 : decode cX9_grows 38 = .ok (.iload_n 1, 1) := by decide +kernel
theorem dX9_grows_39 : decode cX9_grows 39 = .ok (.iconst 0, 1) := by decide +kernel
theorem dX9_grows_40 : decode cX9_grows 40 = .ok (.invokevirtual 164, 3) := by decide +kernel
theorem dX9_grows_43 : decode cX9_grows 43 = .ok (.ifCond .ne 9, 3) := by decide +kernel
theorem dX9_grows_46 : decode cX9_grows 46 = .ok (.aload_n 0, 1) := by decide +kernel
theorem dX9_grows_47 : decode cX9_grows 47 = .ok (.iconst 0, 1) := by decide +kernel
theorem dX9_grows_48 : decode cX9_grows 48 = .ok (.iload_n 1, 1) := by decide +kernel
theorem dX9_grows_49 : decode cX9_grows 49 = .ok (.invokevirtual 168, 3) := by decide +kernel
theorem dX9_grows_52 : decode cX9_grows 52 = .ok (.iload_n 2, 1) := by decide +kernel
theorem dX9_grows_53 : decode cX9_grows 53 = .ok (.ifCond .eq 7, 3) := by decide +kernel
theorem dX9_grows_56 : decode cX9_grows 56 = .ok (.iconst 0, 1) := by decide +kernel
theorem dX9_grows_57 : decode cX9_grows 57 = .ok (.goto 9, 3) := by decide +kernel
theorem dX9_grows_60 : decode cX9_grows 60 = .ok (.aload_n 0, 1) := by decide +kernel
theorem dX9_grows_61 : decode cX9_grows 61 = .ok (.iconst 1, 1) := by decide +kernel
theorem dX9_grows_62 : decode cX9_grows 62 = .ok (.iload_n 1, 1) := by decide +kernel
theorem dX9_grows_63 : decode cX9_grows 63 = .ok (.invokevirtual 137, 3) := by decide +kernel
theorem dX9_grows_66 : decode cX9_grows 66 = .ok (.istore_n 3, 1) := by decide +kernel
theorem dX9_grows_67 : decode cX9_grows 67 = .ok (.iconst 1, 1) := by decide +kernel
theorem dX9_grows_68 : decode cX9_grows 68 = .ok (.istore 4, 2) := by decide +kernel
theorem dX9_grows_70 : decode cX9_grows 70 = .ok (.iload_n 2, 1) := by decide +kernel
theorem dX9_grows_71 : decode cX9_grows 71 = .ok (.ifCond .ne 75, 3) := by decide +kernel
theorem dX9_grows_74 : decode cX9_grows 74 = .ok (.iload 4, 2) := by decide +kernel
theorem dX9_grows_76 : decode cX9_grows 76 = .ok (.aload_n 0, 1) := by decide +kernel
theorem dX9_grows_77 : decode cX9_grows 77 = .ok (.getfield 29, 3) := by decide +kernel
theorem dX9_grows_80 : decode cX9_grows 80 = .ok (.if_icmp .ge 66, 3) := by decide +kernel
theorem dX9_grows_83 : decode cX9_grows 83 = .ok (.aload_n 0, 1) := by decide +kernel
theorem dX9_grows_84 : decode cX9_grows 84 = .ok (.iload 4, 2) := by decide +kernel
theorem dX9_grows_86 : decode cX9_grows 86 = .ok (.iload_n 3, 1) := by decide +kernel
theorem dX9_grows_87 : decode cX9_grows 87 = .ok (.invokevirtual 161, 3) := by decide +kernel
theorem dX9_grows_90 : decode cX9_grows 90 = .ok (.aload_n 0, 1) := by decide +kernel
theorem dX9_grows_91 : decode cX9_grows 91 = .ok (.getfield 16, 3) := by decide +kernel
theorem dX9_grows_94 : decode cX9_grows 94 = .ok (.if_icmp .gt 4, 3) := by decide +kernel
theorem dX9_grows_97 : decode cX9_grows 97 = .ok (.return_, 1) := by decide +kernel
theorem dX9_grows_98 : decode cX9_grows 98 = .ok (.iload 4, 2) := by decide +kernel
theorem dX9_grows_100 : decode cX9_grows 100 = .ok (.aload_n 0, 1) := by decide +kernel
theorem dX9_grows_101 : decode cX9_grows 101 = .ok (.getfield 29, 3) := by decide +kernel
theorem dX9_grows_104 : decode cX9_grows 104 = .ok (.iconst 1, 1) := by decide +kernel
theorem dX9_grows_105 : decode cX9_grows 105 = .ok (.isub, 1) := by decide +kernel
theorem dX9_grows_106 : decode cX9_grows 106 = .ok (.if_icmp .ne 7, 3) := by decide +kernel
theorem dX9_grows_109 : decode cX9_grows 109 = .ok (.iconst 1, 1) := by decide +kernel
theorem dX9_grows_110 : decode cX9_grows 110 = .ok (.goto 4, 3) := by decide +kernel
theorem dX9_grows_113 : decode cX9_grows 113 = .ok (.iconst 0, 1) := by decide +kernel
theorem dX9_grows_114 : decode cX9_grows 114 = .ok (.istore_n 2, 1) := by decide +kernel
theorem dX9_grows_115 : decode cX9_grows 115 = .ok (.aload_n 0, 1) := by decide +kernel
theorem dX9_grows_116 : decode cX9_grows 116 = .ok (.iload 4, 2) := by decide +kernel
theorem dX9_grows_118 : decode cX9_grows 118 = .ok (.iload_n 3, 1) := by decide +kernel
theorem dX9_grows_119 : decode cX9_grows 119 = .ok (.invokevirtual 168, 3) := by decide +kernel
theorem dX9_grows_122 : decode cX9_grows 122 = .ok (.iload_n 2, 1) := by decide +kernel
theorem dX9_grows_123 : decode cX9_grows 123 = .ok (.ifCond .eq 7, 3) := by decide +kernel
theorem dX9_grows_126 : decode cX9_grows 126 = .ok (.iconst 0, 1) := by decide +kernel
theorem dX9_grows_127 : decode cX9_grows 127 = .ok (.goto 12, 3) := by decide +kernel
theorem dX9_grows_130 : decode cX9_grows 130 = .ok (.aload_n 0, 1) := by decide +kernel
theorem dX9_grows_131 : decode cX9_grows 131 = .ok (.iload 4, 2) := by decide +kernel
theorem dX9_grows_133 : decode cX9_grows 133 = .ok (.iconst 1, 1) := by decide +kernel
theorem dX9_grows_134 : decode cX9_grows 134 = .ok (.iadd, 1) := by decide +kernel
theorem dX9_grows_135 : decode cX9_grows 135 = .ok (.iload_n 3, 1) := by decide +kernel
theorem dX9_grows_136 : decode cX9_grows 136 = .ok (.invokevirtual 137, 3) := by decide +kernel
theorem dX9_grows_139 : decode cX9_grows 139 = .ok (.istore_n 3, 1) := by decide +kernel
theorem dX9_grows_140 : decode cX9_grows 140 = .ok (.iinc 4 1, 3) := by decide +kernel
theorem dX9_grows_143 : decode cX9_grows 143 = .ok (.goto (-73), 3) := by decide +kernel
theorem dX9_grows_146 : decode cX9_grows 146 = .ok (.return_, 1) := by decide +kernel
set_option maxRecDepth 20000 in
theorem ggX9_grows_X9_gives : GoodIn wsX9_grows wsX9_gives := goodIn_r _ [42, 8, 1, 43, 44, 45, 46, 6, 47, 48, 2, 49, 50, 51, 52, 13, 14, 15, 9, 10, 11, 12, 20, 21, 22, 23, 24, 25, 26, 27, 28, 53, 54, 55, 56, 57, 58, 59, 60, 34, 33, 74, 75, 76, 77, 78, 79, 80, 81, 82, 83, 84, 85, 86, 87, 88, 89, 90, 91, 92, 93, 94, 95, 96, 97, 98, 99, 100, 101, 102, 103, 104, 105, 106, 107] (by decide +kernel) (by decide +kernel)
set_option maxRecDepth 20000 in
theorem ggX9_grows_X9_pageOf : GoodIn wsX9_grows wsX9_pageOf := goodIn_r _ [52, 8, 13, 14, 6, 15, 74, 75, 76, 77, 78, 79, 80, 81, 82, 83, 84, 85, 86, 87, 88, 89, 90, 91, 92, 93, 94, 95, 96, 97, 98, 99, 100, 101, 102, 103, 104, 105, 106, 107] (by decide +kernel) (by decide +kernel)
set_option maxRecDepth 20000 in
theorem ggX9_grows_X9_parts : GoodIn wsX9_grows wsX9_parts := goodIn_r _ [64, 8, 2, 65, 48, 66, 67, 68, 6, 69, 9, 10, 11, 12, 13, 14, 15, 16, 17, 18, 19, 20, 21, 22, 23, 24, 25, 26, 27, 28, 29, 30, 31, 32, 33, 34, 35, 36, 37, 38, 49, 50, 51, 52, 70, 71, 72, 73, 57, 58, 59, 60, 53, 54, 55, 56, 74, 75, 76, 77, 78, 79, 80, 81, 82, 83, 84, 85, 86, 87, 88, 89, 90, 91, 92, 93, 94, 95, 96, 97, 98, 99, 100, 101, 102, 103, 104, 105, 106, 107] (by decide +kernel) (by decide +kernel)
set_option maxRecDepth 20000 in
theorem ggX9_grows_X9_sizeOfPage : GoodIn wsX9_grows wsX9_sizeOfPage := goodIn_r _ [7, 8, 9, 10, 11, 6, 12, 13, 14, 15, 16, 17, 18, 19, 20, 21, 22, 23, 24, 25, 26, 27, 28, 29, 30, 31, 32, 33, 34, 35, 36, 37, 38, 74, 75, 76, 77, 78, 79, 80, 81, 82, 83, 84, 85, 86, 87, 88, 89, 90, 91, 92, 93, 94, 95, 96, 97, 98, 99, 100, 101, 102, 103, 104, 105, 106, 107] (by decide +kernel) (by decide +kernel)
def wp_X9_grows_139  (y2 : Int32) (y4 : Int32) (z0 : Int32) (n : Nat → Int32) (g : Nat → Nat → Int32) (K : (Nat → Int32) → (Nat → Nat → Int32) → Prop) (C70 : Int32 × Int32 × Int32 × (Nat → Int32) × (Nat → Nat → Int32) → Prop) : Prop :=
  ∀ v_1 : Int32, v_1 = y4 + 1 → C70 (y2, z0, v_1, n, g)
def wp_X9_grows_114  (y3 : Int32) (y4 : Int32) (z0 : Int32) (n : Nat → Int32) (g : Nat → Nat → Int32) (K : (Nat → Int32) → (Nat → Nat → Int32) → Prop) (C70 : Int32 × Int32 × Int32 × (Nat → Int32) × (Nat → Nat → Int32) → Prop) : Prop :=
  wp_X9_parts y4 y3 n g (fun n_5 g_6 => ((z0 = (0 : Int32) → wp_X9_pageOf (y4 + (1 : Int32)) y3 n_5 g_6 (fun r_8 => wp_X9_grows_139 z0 y4 r_8 n_5 g_6 K C70)) ∧
 (¬ (z0 = (0 : Int32)) → wp_X9_grows_139 z0 y4 (0 : Int32) n_5 g_6 K C70)))
def wp_X9_grows_70  (K : (Nat → Int32) → (Nat → Nat → Int32) → Prop)  (C70 : Int32 × Int32 × Int32 × (Nat → Int32) × (Nat → Nat → Int32) → Prop) : Int32 × Int32 × Int32 × (Nat → Int32) × (Nat → Nat → Int32) → Prop := fun s9 => match s9 with
  | (y2, y3, y4, n, g) => ((¬ y2 = (0 : Int32) → K n g) ∧
 (y2 = (0 : Int32) → (((n 13) ≤ y4 → K n g) ∧
 (¬ ((n 13) ≤ y4) → wp_X9_sizeOfPage y4 y3 n g (fun r_11 => (((n 5) < r_11 → ((¬ y4 = ((n 13) - (1 : Int32)) → wp_X9_grows_114 y3 y4 (0 : Int32) n g K C70) ∧
 (y4 = ((n 13) - (1 : Int32)) → wp_X9_grows_114 y3 y4 (1 : Int32) n g K C70))) ∧
 (¬ ((n 5) < r_11) → K n g)))))))
def wp_X9_grows_66  (y2 : Int32) (z0 : Int32) (n : Nat → Int32) (g : Nat → Nat → Int32) (K : (Nat → Int32) → (Nat → Nat → Int32) → Prop)  : Prop :=
  ∃ n_14, loopW (wp_X9_grows_70 K) n_14 (y2, z0, (1 : Int32), n, g)
def wp_X9_grows_52 (x1 : Int32) (y2 : Int32) (n : Nat → Int32) (g : Nat → Nat → Int32) (K : (Nat → Int32) → (Nat → Nat → Int32) → Prop)  : Prop :=
  ((y2 = (0 : Int32) → wp_X9_pageOf (1 : Int32) x1 n g (fun r_16 => wp_X9_grows_66 y2 r_16 n g K)) ∧
 (¬ (y2 = (0 : Int32)) → wp_X9_grows_66 y2 (0 : Int32) n g K))
def wp_X9_grows_27 (x1 : Int32) (z0 : Int32) (n : Nat → Int32) (g : Nat → Nat → Int32) (K : (Nat → Int32) → (Nat → Nat → Int32) → Prop)  : Prop :=
  wp_X9_gives x1 (1 : Int32) n g (fun r_17 n_19 g_20 => ((¬ r_17 = (0 : Int32) → wp_X9_grows_52 x1 z0 n_19 g_20 K) ∧
 (r_17 = (0 : Int32) → wp_X9_gives x1 (0 : Int32) n_19 g_20 (fun r_22 n_24 g_25 => ((¬ r_22 = (0 : Int32) → wp_X9_grows_52 x1 z0 n_24 g_25 K) ∧
 (r_22 = (0 : Int32) → wp_X9_parts (0 : Int32) x1 n_24 g_25 (fun n_29 g_30 => wp_X9_grows_52 x1 z0 n_29 g_30 K)))))))
def wp_X9_grows (x1 : Int32) (n : Nat → Int32) (g : Nat → Nat → Int32) (K : (Nat → Int32) → (Nat → Nat → Int32) → Prop) : Prop :=
  wp_X9_sizeOfPage (0 : Int32) x1 n g (fun r_31 => (((n 5) < r_31 → ((¬ (n 13) = (1 : Int32) → wp_X9_grows_27 x1 (0 : Int32) n g K) ∧
 ((n 13) = (1 : Int32) → wp_X9_grows_27 x1 (1 : Int32) n g K))) ∧
 (¬ ((n 5) < r_31) → K n g)))
set_option maxHeartbeats 4000000 in
set_option maxRecDepth 100000 in
theorem cc_X9_grows (l : Launch) (G : GG) {mo : Nat} {ad : Nat → Nat} (had : MAd mo ad) {n : Nat → Int32} {g : Nat → Nat → Int32} {sz : Nat} {x1 : Int32} {K : (Nat → Int32) → (Nat → Nat → Int32) → Prop} (h : wp_X9_grows x1 n g K) : Met l yX9_grows wsX9_grows ({ frames := 7, cells := 0, slots := 0, locals := 173 } : Room) (FP G [.ref mo, .int x1] (mf mo ad n g) sz) (va_Qv (fun f9 => ∃ n9 g9, f9 = mf mo ad n9 g9 ∧ K n9 g9 : FT → Prop) (FB G (fA (mf mo ad n g) sz)) (fA (mf mo ad n g) sz)) 0 0 (fA (mf mo ad n g) sz) := by
  refine Met.ofW (cc := cX9_grows) (maxL := 5) (ret := none) (by decide) rfl ?_
  intro p e s m args below meth c s₁ B hml hv
  obtain ⟨rfl, hsz, hF, hK, hZ⟩ := hv
  have hx := B.exec
  have hb := B.bytes
  have hr := B.returns
  have hts := atoms_spec (ws := wsX9_grows) B.pre
  have hown : s.vm.findClass RX9 = some m.cls := findClass_of_methodNamed B.named
  have hlocks := B.notSynchronized
  subst hsz
  have hF := hF.self (sz := s.heap.size)
  generalize hAe : fA (mf mo ad n g) s.heap.size = A at hF hZ ⊢
  have hA : ∀ q : Nat, s.heap.size ≤ q → A q := fun q h => by rw [← hAe]; exact Or.inr h
  have hS : va_S A s.heap s.heap [] := va_S.rf
  have hin_X9 : ∀ w ∈ wsX90, w ∈ wsX9_grows := by decide +kernel
  have L70 : ∀  (j9 : Nat) (y2 : Int32) (y3 : Int32) (y4 : Int32) (n : Nat → Int32) (g : Nat → Nat → Int32) (H : Heap) (locs : List Loc) (ls : Array Slot), loopW (wp_X9_grows_70  K ) j9 (y2, y3, y4, n, g) → Fw G A (mf mo ad n g) H → va_S A s.heap H locs → lv_has ls 5 [(0, .ref mo), (2, .int y2), (3, .int y3), (4, .int y4)] → W p l e ({ frames := 7, cells := 0, slots := 0, locals := 173 } : Room) s m ([.ref mo, .int x1] : List Value).toArray below meth c H locs 0 0 (MQ below (va_Qv (fun f9 => ∃ n9 g9, f9 = mf mo ad n9 g9 ∧ K n9 g9 : FT → Prop) (FB G A) A) ([.ref mo, .int x1] : List Value).toArray s 0 0 A) (F0 m 70 ls []) := by
    intro  j9
    induction j9 with
    | zero => intro y2 y3 y4 n g H locs ls h; exact h.elim
    | succ j9 ih70 =>
      intro y2 y3 y4 n g H locs ls h hF hS hl
      have h : wp_X9_grows_70  K  (loopW (wp_X9_grows_70  K ) j9) (y2, y3, y4, n, g) := h
      generalize loopW (wp_X9_grows_70  K ) j9 = C70 at ih70 h
      unfold wp_X9_grows_70 at h
      have J139 : ∀ (y2 : Int32) (y4 : Int32) (z0 : Int32) (n : Nat → Int32) (g : Nat → Nat → Int32) (H : Heap) (locs : List Loc) (ls : Array Slot), wp_X9_grows_139 y2 y4 z0 n g K C70 → Fw G A (mf mo ad n g) H → va_S A s.heap H locs → lv_has ls 5 [(0, .ref mo), (2, .int y2), (4, .int y4)] → W p l e ({ frames := 7, cells := 0, slots := 0, locals := 173 } : Room) s m ([.ref mo, .int x1] : List Value).toArray below meth c H locs 0 0 (MQ below (va_Qv (fun f9 => ∃ n9 g9, f9 = mf mo ad n9 g9 ∧ K n9 g9 : FT → Prop) (FB G A) A) ([.ref mo, .int x1] : List Value).toArray s 0 0 A) (F0 m 139 ls [.int z0]) := by
        intro y2 y4 z0 n g H locs ls h hF hS hl
        unfold wp_X9_grows_139 at h
        refine lv_istore_n (lv' := [(3, .int z0), (0, .ref mo), (2, .int y2), (4, .int y4)]) hx hb dX9_grows_139 rfl hl (by decide) rfl (fun ls hl => ?_)
        obtain ⟨v_1, e_2⟩ : ∃ y : Int32, y = y4 + 1 := ⟨_, rfl⟩
        have h := h v_1 e_2
        refine lv_iinc (v := v_1) (lv' := [(4, .int v_1), (3, .int z0), (0, .ref mo), (2, .int y2)]) hx hb dX9_grows_140 hl (k := 3) rfl (by rw [e_2]; rfl) (by decide) rfl (fun ls hl => ?_)
        refine lv_goto (tgt := 70) hx hb dX9_grows_143 (by decide) ?_
        exact ih70 y2 z0 v_1 n g _ _ _ h hF hS (lv_sub hl [2, 3, 1, 0] rfl)
      have J114 : ∀ (y3 : Int32) (y4 : Int32) (z0 : Int32) (n : Nat → Int32) (g : Nat → Nat → Int32) (H : Heap) (locs : List Loc) (ls : Array Slot), wp_X9_grows_114 y3 y4 z0 n g K C70 → Fw G A (mf mo ad n g) H → va_S A s.heap H locs → lv_has ls 5 [(0, .ref mo), (3, .int y3), (4, .int y4)] → W p l e ({ frames := 7, cells := 0, slots := 0, locals := 173 } : Room) s m ([.ref mo, .int x1] : List Value).toArray below meth c H locs 0 0 (MQ below (va_Qv (fun f9 => ∃ n9 g9, f9 = mf mo ad n9 g9 ∧ K n9 g9 : FT → Prop) (FB G A) A) ([.ref mo, .int x1] : List Value).toArray s 0 0 A) (F0 m 114 ls [.int z0]) := by
        intro y3 y4 z0 n g H locs ls h hF hS hl
        unfold wp_X9_grows_114 at h
        refine lv_istore_n (lv' := [(2, .int z0), (0, .ref mo), (3, .int y3), (4, .int y4)]) hx hb dX9_grows_114 rfl hl (by decide) rfl (fun ls hl => ?_)
        refine lv_aload_n hx hb dX9_grows_115 rfl (lv_at hl 1 rfl) ?_
        refine lv_iload hx hb dX9_grows_116 (lv_at hl 3 rfl) ?_
        refine lv_iload_n hx hb dX9_grows_118 rfl (lv_at hl 2 rfl) ?_
        refine fw_cV_v (As := [.int y4, .int y3]) (rest := []) ⟨hx, hb, hml, hown, hts⟩ (cc_X9_parts l G had h) (⟨callB_of 2 hts ggX9_grows_X9_parts rfl rfl rfl (hts (.initialized RX9) (by decide +kernel)) (hts (.methodLink RX9 168 yX9_parts) (by decide +kernel)) (by decide +kernel) ⟨Nat.le_of_ble_eq_true rfl, Nat.le_of_ble_eq_true rfl⟩, hts (.instanceMethod yX9_parts) (by decide +kernel), hts (.selects RX9 yX9_parts yX9_parts) (by decide +kernel)⟩) rfl mf_obj hK hZ hF hS hA rfl hl.1 rfl (Nat.le_of_ble_eq_true rfl) dX9_grows_119 ⟨Nat.zero_le _, Nat.zero_le _⟩ (fun f9 H locs h hF hS => ?_)
        obtain ⟨n_5, g_6, rfl, h⟩ := h
        refine lv_iload_n hx hb dX9_grows_122 rfl (lv_at hl 0 rfl) ?_
        obtain ⟨h1, h2⟩ := h
        refine lv_if_eq (tgt := 130) hx hb dX9_grows_123 (by decide) (fun c_7 => ?_) (fun c_7 => ?_)
        · have h := h1 c_7
          refine lv_aload_n hx hb dX9_grows_130 rfl (lv_at hl 1 rfl) ?_
          refine lv_iload hx hb dX9_grows_131 (lv_at hl 3 rfl) ?_
          refine lv_iconst (v := (1 : Int32)) hx hb dX9_grows_133 (by decide) ?_
          refine lv_iadd hx hb dX9_grows_134 ?_
          refine lv_iload_n hx hb dX9_grows_135 rfl (lv_at hl 2 rfl) ?_
          refine fw_cV_i_p (As := [.int (y4 + (1 : Int32)), .int y3]) (rest := []) ⟨hx, hb, hml, hown, hts⟩ (cc_X9_pageOf l G had h) (⟨callB_of 2 hts ggX9_grows_X9_pageOf rfl rfl rfl (hts (.initialized RX9) (by decide +kernel)) (hts (.methodLink RX9 137 yX9_pageOf) (by decide +kernel)) (by decide +kernel) ⟨Nat.le_of_ble_eq_true rfl, Nat.le_of_ble_eq_true rfl⟩, hts (.instanceMethod yX9_pageOf) (by decide +kernel), hts (.selects RX9 yX9_pageOf yX9_pageOf) (by decide +kernel)⟩) rfl mf_obj hK hZ hF hS hA rfl hl.1 rfl (Nat.le_of_ble_eq_true rfl) dX9_grows_136 ⟨Nat.zero_le _, Nat.zero_le _⟩ (fun r_8 H locs h hF hS => ?_)
          exact J139 z0 y4 r_8 n_5 g_6 _ _ _ h hF hS (lv_sub hl [1, 0, 3] rfl)
        · have h := h2 c_7
          refine lv_iconst (v := (0 : Int32)) hx hb dX9_grows_126 (by decide) ?_
          refine lv_goto (tgt := 139) hx hb dX9_grows_127 (by decide) ?_
          exact J139 z0 y4 (0 : Int32) n_5 g_6 _ _ _ h hF hS (lv_sub hl [1, 0, 3] rfl)
      refine lv_iload_n hx hb dX9_grows_70 rfl (lv_at hl 1 rfl) ?_
      obtain ⟨h1, h2⟩ := h
      refine lv_if_ne (tgt := 146) hx hb dX9_grows_71 (by decide) (fun c_9 => ?_) (fun c_9 => ?_)
      · have h := h1 c_9
        exact W.vret hx hb hr (fun t ht hW => ⟨⟨(mf mo ad n g), rfl, ⟨_, _, rfl, h⟩, by rw [ht]; exact hF, FK.moved hW.alike hK⟩, hS.F ht⟩) hS.2.2 dX9_grows_146
      · have h := h2 c_9
        refine lv_iload hx hb dX9_grows_74 (lv_at hl 3 rfl) ?_
        refine lv_aload_n hx hb dX9_grows_76 rfl (lv_at hl 0 rfl) ?_
        refine fw_get (C := RX9) (T := TX9) (N := 34) hx hb hts hin_X9 hown hK hF mf_obj rfl 13 (by decide) (hts (.fieldLink RX9 29 "FrontCodedIndexModel" "levels" "I") (by decide +kernel)) (fun _ h9 => h9) rfl dX9_grows_77 ?_
        obtain ⟨h1, h2⟩ := h
        refine lv_icmp_ge (tgt := 146) hx hb dX9_grows_80 (by decide) (fun c_10 => ?_) (fun c_10 => ?_)
        · have h := h1 c_10
          exact W.vret hx hb hr (fun t ht hW => ⟨⟨(mf mo ad n g), rfl, ⟨_, _, rfl, h⟩, by rw [ht]; exact hF, FK.moved hW.alike hK⟩, hS.F ht⟩) hS.2.2 dX9_grows_146
        · have h := h2 c_10
          refine lv_aload_n hx hb dX9_grows_83 rfl (lv_at hl 0 rfl) ?_
          refine lv_iload hx hb dX9_grows_84 (lv_at hl 3 rfl) ?_
          refine lv_iload_n hx hb dX9_grows_86 rfl (lv_at hl 2 rfl) ?_
          refine fw_cV_i_p (As := [.int y4, .int y3]) (rest := []) ⟨hx, hb, hml, hown, hts⟩ (cc_X9_sizeOfPage l G had h) (⟨callB_of 2 hts ggX9_grows_X9_sizeOfPage rfl rfl rfl (hts (.initialized RX9) (by decide +kernel)) (hts (.methodLink RX9 161 yX9_sizeOfPage) (by decide +kernel)) (by decide +kernel) ⟨Nat.le_of_ble_eq_true rfl, Nat.le_of_ble_eq_true rfl⟩, hts (.instanceMethod yX9_sizeOfPage) (by decide +kernel), hts (.selects RX9 yX9_sizeOfPage yX9_sizeOfPage) (by decide +kernel)⟩) rfl mf_obj hK hZ hF hS hA rfl hl.1 rfl (Nat.le_of_ble_eq_true rfl) dX9_grows_87 ⟨Nat.zero_le _, Nat.zero_le _⟩ (fun r_11 H locs h hF hS => ?_)
          refine lv_aload_n hx hb dX9_grows_90 rfl (lv_at hl 0 rfl) ?_
          refine fw_get (C := RX9) (T := TX9) (N := 34) hx hb hts hin_X9 hown hK hF mf_obj rfl 5 (by decide) (hts (.fieldLink RX9 16 "FrontCodedIndexModel" "capacity" "I") (by decide +kernel)) (fun _ h9 => h9) rfl dX9_grows_91 ?_
          obtain ⟨h1, h2⟩ := h
          refine lv_icmp_gt (tgt := 98) hx hb dX9_grows_94 (by decide) (fun c_12 => ?_) (fun c_12 => ?_)
          · have h := h1 c_12
            refine lv_iload hx hb dX9_grows_98 (lv_at hl 3 rfl) ?_
            refine lv_aload_n hx hb dX9_grows_100 rfl (lv_at hl 0 rfl) ?_
            refine fw_get (C := RX9) (T := TX9) (N := 34) hx hb hts hin_X9 hown hK hF mf_obj rfl 13 (by decide) (hts (.fieldLink RX9 29 "FrontCodedIndexModel" "levels" "I") (by decide +kernel)) (fun _ h9 => h9) rfl dX9_grows_101 ?_
            refine lv_iconst (v := (1 : Int32)) hx hb dX9_grows_104 (by decide) ?_
            refine lv_isub hx hb dX9_grows_105 ?_
            obtain ⟨h1, h2⟩ := h
            refine lv_icmp_ne (tgt := 113) hx hb dX9_grows_106 (by decide) (fun c_13 => ?_) (fun c_13 => ?_)
            · have h := h1 c_13
              refine lv_iconst (v := (0 : Int32)) hx hb dX9_grows_113 (by decide) ?_
              exact J114 y3 y4 (0 : Int32) n g _ _ _ h hF hS (lv_sub hl [0, 2, 3] rfl)
            · have h := h2 c_13
              refine lv_iconst (v := (1 : Int32)) hx hb dX9_grows_109 (by decide) ?_
              refine lv_goto (tgt := 114) hx hb dX9_grows_110 (by decide) ?_
              exact J114 y3 y4 (1 : Int32) n g _ _ _ h hF hS (lv_sub hl [0, 2, 3] rfl)
          · have h := h2 c_12
            exact W.vret hx hb hr (fun t ht hW => ⟨⟨(mf mo ad n g), rfl, ⟨_, _, rfl, h⟩, by rw [ht]; exact hF, FK.moved hW.alike hK⟩, hS.F ht⟩) hS.2.2 dX9_grows_97
  have J66 : ∀ (y2 : Int32) (z0 : Int32) (n : Nat → Int32) (g : Nat → Nat → Int32) (H : Heap) (locs : List Loc) (ls : Array Slot), wp_X9_grows_66 y2 z0 n g K  → Fw G A (mf mo ad n g) H → va_S A s.heap H locs → lv_has ls 5 [(0, .ref mo), (2, .int y2)] → W p l e ({ frames := 7, cells := 0, slots := 0, locals := 173 } : Room) s m ([.ref mo, .int x1] : List Value).toArray below meth c H locs 0 0 (MQ below (va_Qv (fun f9 => ∃ n9 g9, f9 = mf mo ad n9 g9 ∧ K n9 g9 : FT → Prop) (FB G A) A) ([.ref mo, .int x1] : List Value).toArray s 0 0 A) (F0 m 66 ls [.int z0]) := by
    intro y2 z0 n g H locs ls h hF hS hl
    unfold wp_X9_grows_66 at h
    refine lv_istore_n (lv' := [(3, .int z0), (0, .ref mo), (2, .int y2)]) hx hb dX9_grows_66 rfl hl (by decide) rfl (fun ls hl => ?_)
    refine lv_iconst (v := (1 : Int32)) hx hb dX9_grows_67 (by decide) ?_
    refine lv_istore (lv' := [(4, .int (1 : Int32)), (3, .int z0), (0, .ref mo), (2, .int y2)]) hx hb dX9_grows_68 hl (by decide) rfl (fun ls hl => ?_)
    obtain ⟨n_14, h⟩ := h
    exact L70 n_14 y2 z0 (1 : Int32) n g _ _ _ h hF hS (lv_sub hl [2, 3, 1, 0] rfl)
  have J52 : ∀ (y2 : Int32) (n : Nat → Int32) (g : Nat → Nat → Int32) (H : Heap) (locs : List Loc) (ls : Array Slot), wp_X9_grows_52 x1 y2 n g K  → Fw G A (mf mo ad n g) H → va_S A s.heap H locs → lv_has ls 5 [(0, .ref mo), (1, .int x1), (2, .int y2)] → W p l e ({ frames := 7, cells := 0, slots := 0, locals := 173 } : Room) s m ([.ref mo, .int x1] : List Value).toArray below meth c H locs 0 0 (MQ below (va_Qv (fun f9 => ∃ n9 g9, f9 = mf mo ad n9 g9 ∧ K n9 g9 : FT → Prop) (FB G A) A) ([.ref mo, .int x1] : List Value).toArray s 0 0 A) (F0 m 52 ls []) := by
    intro y2 n g H locs ls h hF hS hl
    unfold wp_X9_grows_52 at h
    refine lv_iload_n hx hb dX9_grows_52 rfl (lv_at hl 2 rfl) ?_
    obtain ⟨h1, h2⟩ := h
    refine lv_if_eq (tgt := 60) hx hb dX9_grows_53 (by decide) (fun c_15 => ?_) (fun c_15 => ?_)
    · have h := h1 c_15
      refine lv_aload_n hx hb dX9_grows_60 rfl (lv_at hl 0 rfl) ?_
      refine lv_iconst (v := (1 : Int32)) hx hb dX9_grows_61 (by decide) ?_
      refine lv_iload_n hx hb dX9_grows_62 rfl (lv_at hl 1 rfl) ?_
      refine fw_cV_i_p (As := [.int (1 : Int32), .int x1]) (rest := []) ⟨hx, hb, hml, hown, hts⟩ (cc_X9_pageOf l G had h) (⟨callB_of 2 hts ggX9_grows_X9_pageOf rfl rfl rfl (hts (.initialized RX9) (by decide +kernel)) (hts (.methodLink RX9 137 yX9_pageOf) (by decide +kernel)) (by decide +kernel) ⟨Nat.le_of_ble_eq_true rfl, Nat.le_of_ble_eq_true rfl⟩, hts (.instanceMethod yX9_pageOf) (by decide +kernel), hts (.selects RX9 yX9_pageOf yX9_pageOf) (by decide +kernel)⟩) rfl mf_obj hK hZ hF hS hA rfl hl.1 rfl (Nat.le_of_ble_eq_true rfl) dX9_grows_63 ⟨Nat.zero_le _, Nat.zero_le _⟩ (fun r_16 H locs h hF hS => ?_)
      exact J66 y2 r_16 n g _ _ _ h hF hS (lv_sub hl [0, 2] rfl)
    · have h := h2 c_15
      refine lv_iconst (v := (0 : Int32)) hx hb dX9_grows_56 (by decide) ?_
      refine lv_goto (tgt := 66) hx hb dX9_grows_57 (by decide) ?_
      exact J66 y2 (0 : Int32) n g _ _ _ h hF hS (lv_sub hl [0, 2] rfl)
  have J27 : ∀ (z0 : Int32) (n : Nat → Int32) (g : Nat → Nat → Int32) (H : Heap) (locs : List Loc) (ls : Array Slot), wp_X9_grows_27 x1 z0 n g K  → Fw G A (mf mo ad n g) H → va_S A s.heap H locs → lv_has ls 5 [(0, .ref mo), (1, .int x1)] → W p l e ({ frames := 7, cells := 0, slots := 0, locals := 173 } : Room) s m ([.ref mo, .int x1] : List Value).toArray below meth c H locs 0 0 (MQ below (va_Qv (fun f9 => ∃ n9 g9, f9 = mf mo ad n9 g9 ∧ K n9 g9 : FT → Prop) (FB G A) A) ([.ref mo, .int x1] : List Value).toArray s 0 0 A) (F0 m 27 ls [.int z0]) := by
    intro z0 n g H locs ls h hF hS hl
    unfold wp_X9_grows_27 at h
    refine lv_istore_n (lv' := [(2, .int z0), (0, .ref mo), (1, .int x1)]) hx hb dX9_grows_27 rfl hl (by decide) rfl (fun ls hl => ?_)
    refine lv_aload_n hx hb dX9_grows_28 rfl (lv_at hl 1 rfl) ?_
    refine lv_iload_n hx hb dX9_grows_29 rfl (lv_at hl 2 rfl) ?_
    refine lv_iconst (v := (1 : Int32)) hx hb dX9_grows_30 (by decide) ?_
    refine fw_cV_i (As := [.int x1, .int (1 : Int32)]) (rest := []) ⟨hx, hb, hml, hown, hts⟩ (cc_X9_gives l G had h) (⟨callB_of 2 hts ggX9_grows_X9_gives rfl rfl rfl (hts (.initialized RX9) (by decide +kernel)) (hts (.methodLink RX9 164 yX9_gives) (by decide +kernel)) (by decide +kernel) ⟨Nat.le_of_ble_eq_true rfl, Nat.le_of_ble_eq_true rfl⟩, hts (.instanceMethod yX9_gives) (by decide +kernel), hts (.selects RX9 yX9_gives yX9_gives) (by decide +kernel)⟩) rfl mf_obj hK hZ hF hS hA rfl hl.1 rfl (Nat.le_of_ble_eq_true rfl) dX9_grows_31 ⟨Nat.zero_le _, Nat.zero_le _⟩ (fun r_17 f9 H locs h hF hS => ?_)
    obtain ⟨n_19, g_20, rfl, h⟩ := h
    obtain ⟨h1, h2⟩ := h
    refine lv_if_ne (tgt := 52) hx hb dX9_grows_34 (by decide) (fun c_21 => ?_) (fun c_21 => ?_)
    · have h := h1 c_21
      exact J52 z0 n_19 g_20 _ _ _ h hF hS (lv_sub hl [1, 2, 0] rfl)
    · have h := h2 c_21
      refine lv_aload_n hx hb dX9_grows_37 rfl (lv_at hl 1 rfl) ?_
      refine lv_iload_n hx hb dX9_grows_38 rfl (lv_at hl 2 rfl) ?_
      refine lv_iconst (v := (0 : Int32)) hx hb dX9_grows_39 (by decide) ?_
      refine fw_cV_i (As := [.int x1, .int (0 : Int32)]) (rest := []) ⟨hx, hb, hml, hown, hts⟩ (cc_X9_gives l G had h) (⟨callB_of 2 hts ggX9_grows_X9_gives rfl rfl rfl (hts (.initialized RX9) (by decide +kernel)) (hts (.methodLink RX9 164 yX9_gives) (by decide +kernel)) (by decide +kernel) ⟨Nat.le_of_ble_eq_true rfl, Nat.le_of_ble_eq_true rfl⟩, hts (.instanceMethod yX9_gives) (by decide +kernel), hts (.selects RX9 yX9_gives yX9_gives) (by decide +kernel)⟩) rfl mf_obj hK hZ hF hS hA rfl hl.1 rfl (Nat.le_of_ble_eq_true rfl) dX9_grows_40 ⟨Nat.zero_le _, Nat.zero_le _⟩ (fun r_22 f9 H locs h hF hS => ?_)
      obtain ⟨n_24, g_25, rfl, h⟩ := h
      obtain ⟨h1, h2⟩ := h
      refine lv_if_ne (tgt := 52) hx hb dX9_grows_43 (by decide) (fun c_26 => ?_) (fun c_26 => ?_)
      · have h := h1 c_26
        exact J52 z0 n_24 g_25 _ _ _ h hF hS (lv_sub hl [1, 2, 0] rfl)
      · have h := h2 c_26
        refine lv_aload_n hx hb dX9_grows_46 rfl (lv_at hl 1 rfl) ?_
        refine lv_iconst (v := (0 : Int32)) hx hb dX9_grows_47 (by decide) ?_
        refine lv_iload_n hx hb dX9_grows_48 rfl (lv_at hl 2 rfl) ?_
        refine fw_cV_v (As := [.int (0 : Int32), .int x1]) (rest := []) ⟨hx, hb, hml, hown, hts⟩ (cc_X9_parts l G had h) (⟨callB_of 2 hts ggX9_grows_X9_parts rfl rfl rfl (hts (.initialized RX9) (by decide +kernel)) (hts (.methodLink RX9 168 yX9_parts) (by decide +kernel)) (by decide +kernel) ⟨Nat.le_of_ble_eq_true rfl, Nat.le_of_ble_eq_true rfl⟩, hts (.instanceMethod yX9_parts) (by decide +kernel), hts (.selects RX9 yX9_parts yX9_parts) (by decide +kernel)⟩) rfl mf_obj hK hZ hF hS hA rfl hl.1 rfl (Nat.le_of_ble_eq_true rfl) dX9_grows_49 ⟨Nat.zero_le _, Nat.zero_le _⟩ (fun f9 H locs h hF hS => ?_)
        obtain ⟨n_29, g_30, rfl, h⟩ := h
        exact J52 z0 n_29 g_30 _ _ _ h hF hS (lv_sub hl [1, 2, 0] rfl)
  have hl := lv_entry ([.ref mo, .int x1]) (n := 5) (Nat.le_of_ble_eq_true rfl)
  rw [lg_entry_eq]
  generalize (lg_sl ([.ref mo, .int x1]) ++ List.replicate (5 - (lg_sl ([.ref mo, .int x1])).length) Slot.unset).toArray = ls at hl ⊢
  have hl : lv_has ls 5 [(0, .ref mo), (1, .int x1)] := hl
  unfold wp_X9_grows at h
  refine lv_aload_n hx hb dX9_grows_0 rfl (lv_at hl 0 rfl) ?_
  refine lv_iconst (v := (0 : Int32)) hx hb dX9_grows_1 (by decide) ?_
  refine lv_iload_n hx hb dX9_grows_2 rfl (lv_at hl 1 rfl) ?_
  refine fw_cV_i_p (As := [.int (0 : Int32), .int x1]) (rest := []) ⟨hx, hb, hml, hown, hts⟩ (cc_X9_sizeOfPage l G had h) (⟨callB_of 2 hts ggX9_grows_X9_sizeOfPage rfl rfl rfl (hts (.initialized RX9) (by decide +kernel)) (hts (.methodLink RX9 161 yX9_sizeOfPage) (by decide +kernel)) (by decide +kernel) ⟨Nat.le_of_ble_eq_true rfl, Nat.le_of_ble_eq_true rfl⟩, hts (.instanceMethod yX9_sizeOfPage) (by decide +kernel), hts (.selects RX9 yX9_sizeOfPage yX9_sizeOfPage) (by decide +kernel)⟩) rfl mf_obj hK hZ hF hS hA rfl hl.1 rfl (Nat.le_of_ble_eq_true rfl) dX9_grows_3 ⟨Nat.zero_le _, Nat.zero_le _⟩ (fun r_31 H locs h hF hS => ?_)
  refine lv_aload_n hx hb dX9_grows_6 rfl (lv_at hl 0 rfl) ?_
  refine fw_get (C := RX9) (T := TX9) (N := 34) hx hb hts hin_X9 hown hK hF mf_obj rfl 5 (by decide) (hts (.fieldLink RX9 16 "FrontCodedIndexModel" "capacity" "I") (by decide +kernel)) (fun _ h9 => h9) rfl dX9_grows_7 ?_
  obtain ⟨h1, h2⟩ := h
  refine lv_icmp_gt (tgt := 14) hx hb dX9_grows_10 (by decide) (fun c_32 => ?_) (fun c_32 => ?_)
  · have h := h1 c_32
    refine lv_aload_n hx hb dX9_grows_14 rfl (lv_at hl 0 rfl) ?_
    refine fw_get (C := RX9) (T := TX9) (N := 34) hx hb hts hin_X9 hown hK hF mf_obj rfl 13 (by decide) (hts (.fieldLink RX9 29 "FrontCodedIndexModel" "levels" "I") (by decide +kernel)) (fun _ h9 => h9) rfl dX9_grows_15 ?_
    refine lv_iconst (v := (1 : Int32)) hx hb dX9_grows_18 (by decide) ?_
    obtain ⟨h1, h2⟩ := h
    refine lv_icmp_ne (tgt := 26) hx hb dX9_grows_19 (by decide) (fun c_33 => ?_) (fun c_33 => ?_)
    · have h := h1 c_33
      refine lv_iconst (v := (0 : Int32)) hx hb dX9_grows_26 (by decide) ?_
      exact J27 (0 : Int32) n g _ _ _ h hF hS (lv_sub hl [0, 1] rfl)
    · have h := h2 c_33
      refine lv_iconst (v := (1 : Int32)) hx hb dX9_grows_22 (by decide) ?_
      refine lv_goto (tgt := 27) hx hb dX9_grows_23 (by decide) ?_
      exact J27 (1 : Int32) n g _ _ _ h hF hS (lv_sub hl [0, 1] rfl)
  · have h := h2 c_32
    exact W.vret hx hb hr (fun t ht hW => ⟨⟨(mf mo ad n g), rfl, ⟨_, _, rfl, h⟩, by rw [ht]; exact hF, FK.moved hW.alike hK⟩, hS.F ht⟩) hS.2.2 dX9_grows_13
theorem dX9_height_0 : decode cX9_height 0 = .ok (.aload_n 0, 1) := by decide +kernel
theorem dX9_height_1 : decode cX9_height 1 = .ok (.aload_n 0, 1) := by decide +kernel
theorem dX9_height_2 : decode cX9_height 2 = .ok (.getfield 29, 3) := by decide +kernel
theorem dX9_height_5 : decode cX9_height 5 = .ok (.invokevirtual 91, 3) := by decide +kernel
theorem dX9_height_8 : decode cX9_height 8 = .ok (.ireturn, 1) := by decide +kernel
set_option maxRecDepth 20000 in
theorem ggX9_height_X9_done : GoodIn wsX9_height wsX9_done := goodIn_r _ [6, 7, 8, 9, 10, 11, 12, 13, 14, 15, 16, 17, 18, 19, 20, 21, 22, 23, 24, 25, 26, 27, 28, 29, 30, 31, 32, 33, 34, 35, 36, 37, 38, 39, 40, 41] (by decide +kernel) (by decide +kernel)
def wp_X9_height  (n : Nat → Int32) (g : Nat → Nat → Int32) (K : Int32 → (Nat → Int32) → (Nat → Nat → Int32) → Prop) : Prop :=
  wp_X9_done (n 13) n g (fun r_1 n_3 g_4 => K r_1 n_3 g_4)
set_option maxHeartbeats 4000000 in
set_option maxRecDepth 100000 in
theorem cc_X9_height (l : Launch) (G : GG) {mo : Nat} {ad : Nat → Nat} (had : MAd mo ad) {n : Nat → Int32} {g : Nat → Nat → Int32} {sz : Nat}  {K : Int32 → (Nat → Int32) → (Nat → Nat → Int32) → Prop} (h : wp_X9_height  n g K) : Met l yX9_height wsX9_height ({ frames := 1, cells := 0, slots := 0, locals := 21 } : Room) (FP G [.ref mo] (mf mo ad n g) sz) (va_Qi (fun r f9 => ∃ n9 g9, f9 = mf mo ad n9 g9 ∧ K r n9 g9 : Int32 → FT → Prop) (FB G (fA (mf mo ad n g) sz)) (fA (mf mo ad n g) sz)) 0 0 (fA (mf mo ad n g) sz) := by
  refine Met.ofW (cc := cX9_height) (maxL := 1) (ret := (some .int)) (by decide) rfl ?_
  intro p e s m args below meth c s₁ B hml hv
  obtain ⟨rfl, hsz, hF, hK, hZ⟩ := hv
  have hx := B.exec
  have hb := B.bytes
  have hr := B.returns
  have hts := atoms_spec (ws := wsX9_height) B.pre
  have hown : s.vm.findClass RX9 = some m.cls := findClass_of_methodNamed B.named
  have hlocks := B.notSynchronized
  subst hsz
  have hF := hF.self (sz := s.heap.size)
  generalize hAe : fA (mf mo ad n g) s.heap.size = A at hF hZ ⊢
  have hA : ∀ q : Nat, s.heap.size ≤ q → A q := fun q h => by rw [← hAe]; exact Or.inr h
  have hS : va_S A s.heap s.heap [] := va_S.rf
  have hin_X9 : ∀ w ∈ wsX90, w ∈ wsX9_height := by decide +kernel
  have hl := lv_entry ([.ref mo]) (n := 1) (Nat.le_of_ble_eq_true rfl)
  rw [lg_entry_eq]
  generalize (lg_sl ([.ref mo]) ++ List.replicate (1 - (lg_sl ([.ref mo])).length) Slot.unset).toArray = ls at hl ⊢
  have hl : lv_has ls 1 [(0, .ref mo)] := hl
  unfold wp_X9_height at h
  refine lv_aload_n hx hb dX9_height_0 rfl (lv_at hl 0 rfl) ?_
  refine lv_aload_n hx hb dX9_height_1 rfl (lv_at hl 0 rfl) ?_
  refine fw_get (C := RX9) (T := TX9) (N := 34) hx hb hts hin_X9 hown hK hF mf_obj rfl 13 (by decide) (hts (.fieldLink RX9 29 "FrontCodedIndexModel" "levels" "I") (by decide +kernel)) (fun _ h9 => h9) rfl dX9_height_2 ?_
  refine fw_cV_i (As := [.int (n 13)]) (rest := []) ⟨hx, hb, hml, hown, hts⟩ (cc_X9_done l G had h) (⟨callB_of 1 hts ggX9_height_X9_done rfl rfl rfl (hts (.initialized RX9) (by decide +kernel)) (hts (.methodLink RX9 91 yX9_done) (by decide +kernel)) (by decide +kernel) ⟨Nat.le_of_ble_eq_true rfl, Nat.le_of_ble_eq_true rfl⟩, hts (.instanceMethod yX9_done) (by decide +kernel), hts (.selects RX9 yX9_done yX9_done) (by decide +kernel)⟩) rfl mf_obj hK hZ hF hS hA rfl hl.1 rfl (Nat.le_of_ble_eq_true rfl) dX9_height_5 ⟨Nat.zero_le _, Nat.zero_le _⟩ (fun r_1 f9 H locs h hF hS => ?_)
  obtain ⟨n_3, g_4, rfl, h⟩ := h
  exact W.iret (v := r_1) hx hb hr (fun t ht hW => ⟨⟨r_1, (mf mo ad n_3 g_4), rfl, ⟨_, _, rfl, h⟩, by rw [ht]; exact hF, FK.moved hW.alike hK⟩, hS.F ht⟩) hS.2.2 dX9_height_8
theorem dX9_isPage_0 : decode cX9_isPage 0 = .ok (.iload_n 1, 1) := by decide +kernel
theorem dX9_isPage_1 : decode cX9_isPage 1 = .ok (.iconst 0, 1) := by decide +kernel
theorem dX9_isPage_2 : decode cX9_isPage 2 = .ok (.aload_n 0, 1) := by decide +kernel
theorem dX9_isPage_3 : decode cX9_isPage 3 = .ok (.getfield 29, 3) := by decide +kernel
theorem dX9_isPage_6 : decode cX9_isPage 6 = .ok (.iconst 1, 1) := by decide +kernel
theorem dX9_isPage_7 : decode cX9_isPage 7 = .ok (.isub, 1) := by decide +kernel
theorem dX9_isPage_8 : decode cX9_isPage 8 = .ok (.invokestatic 80, 3) := by decide +kernel
theorem dX9_isPage_11 : decode cX9_isPage 11 = .ok (.ifCond .eq 48, 3) := by decide +kernel
theorem dX9_isPage_14 : decode cX9_isPage 14 = .ok (.iload_n 2, 1) := by decide +kernel
theorem dX9_isPage_15 : decode cX9_isPage 15 = .ok (.iconst 0, 1) := by decide +kernel
theorem dX9_isPage_16 : decode cX9_isPage 16 = .ok (.aload_n 0, 1) := by decide +kernel
theorem dX9_isPage_17 : decode cX9_isPage 17 = .ok (.getfield 32, 3) := by decide +kernel
theorem dX9_isPage_20 : decode cX9_isPage 20 = .ok (.iload_n 1, 1) := by decide +kernel
theorem dX9_isPage_21 : decode cX9_isPage 21 = .ok (.iconst 0, 1) := by decide +kernel
theorem dX9_isPage_22 : decode cX9_isPage 22 = .ok (.aload_n 0, 1) := by decide +kernel
theorem dX9_isPage_23 : decode cX9_isPage 23 = .ok (.getfield 29, 3) := by decide +kernel
theorem dX9_isPage_26 : decode cX9_isPage 26 = .ok (.iconst 1, 1) := by decide +kernel
theorem dX9_isPage_27 : decode cX9_isPage 27 = .ok (.isub, 1) := by decide +kernel
theorem dX9_isPage_28 : decode cX9_isPage 28 = .ok (.invokestatic 80, 3) := by decide +kernel
theorem dX9_isPage_31 : decode cX9_isPage 31 = .ok (.ifCond .eq 14, 3) := by decide +kernel
theorem dX9_isPage_34 : decode cX9_isPage 34 = .ok (.aload_n 0, 1) := by decide +kernel
theorem dX9_isPage_35 : decode cX9_isPage 35 = .ok (.getfield 29, 3) := by decide +kernel
theorem dX9_isPage_38 : decode cX9_isPage 38 = .ok (.iconst 1, 1) := by decide +kernel
theorem dX9_isPage_39 : decode cX9_isPage 39 = .ok (.isub, 1) := by decide +kernel
theorem dX9_isPage_40 : decode cX9_isPage 40 = .ok (.iload_n 1, 1) := by decide +kernel
theorem dX9_isPage_41 : decode cX9_isPage 41 = .ok (.isub, 1) := by decide +kernel
theorem dX9_isPage_42 : decode cX9_isPage 42 = .ok (.goto 4, 3) := by decide +kernel
theorem dX9_isPage_45 : decode cX9_isPage 45 = .ok (.iconst 0, 1) := by decide +kernel
theorem dX9_isPage_46 : decode cX9_isPage 46 = .ok (.iaload, 1) := by decide +kernel
theorem dX9_isPage_47 : decode cX9_isPage 47 = .ok (.iconst 1, 1) := by decide +kernel
theorem dX9_isPage_48 : decode cX9_isPage 48 = .ok (.isub, 1) := by decide +kernel
theorem dX9_isPage_49 : decode cX9_isPage 49 = .ok (.invokestatic 80, 3) := by decide +kernel
theorem dX9_isPage_52 : decode cX9_isPage 52 = .ok (.ifCond .eq 7, 3) := by decide +kernel
theorem dX9_isPage_55 : decode cX9_isPage 55 = .ok (.iconst 1, 1) := by decide +kernel
theorem dX9_isPage_56 : decode cX9_isPage 56 = .ok (.goto 4, 3) := by decide +kernel
theorem dX9_isPage_59 : decode cX9_isPage 59 = .ok (.iconst 0, 1) := by decide +kernel
theorem dX9_isPage_60 : decode cX9_isPage 60 = .ok (.ireturn, 1) := by decide +kernel
set_option maxRecDepth 20000 in
theorem ggX9_isPage_X9_in : GoodIn wsX9_isPage wsX9_in := goodIn_r _ [6] (by decide +kernel) (by decide +kernel)
def wp_X9_isPage_46  (z0 : Int32) (kb1 : Nat) (z2 : Int32) (z3 : Int32) (n : Nat → Int32) (g : Nat → Nat → Int32) (K : Int32 → Prop)  : Prop :=
  kb1 ∈ mAI ∧ vp_in z0 (mlen kb1) ∧ ∀ v_2 : Int32, v_2 = g kb1 (z0).toNatClampNeg → wp_X9_in z3 z2 (v_2 - (1 : Int32)) n g (fun r_3 => ((r_3 = (0 : Int32) → K (0 : Int32)) ∧
 (¬ (r_3 = (0 : Int32)) → K (1 : Int32))))
def wp_X9_isPage (x1 : Int32) (x2 : Int32) (n : Nat → Int32) (g : Nat → Nat → Int32) (K : Int32 → Prop) : Prop :=
  wp_X9_in x1 (0 : Int32) ((n 13) - (1 : Int32)) n g (fun r_5 => ((r_5 = (0 : Int32) → K (0 : Int32)) ∧
 (¬ (r_5 = (0 : Int32)) → wp_X9_in x1 (0 : Int32) ((n 13) - (1 : Int32)) n g (fun r_7 => ((r_7 = (0 : Int32) → wp_X9_isPage_46 (0 : Int32) 14 (0 : Int32) x2 n g K) ∧
 (¬ (r_7 = (0 : Int32)) → wp_X9_isPage_46 (((n 13) - (1 : Int32)) - x1) 14 (0 : Int32) x2 n g K))))))
set_option maxHeartbeats 4000000 in
set_option maxRecDepth 100000 in
theorem cc_X9_isPage (l : Launch) (G : GG) {mo : Nat} {ad : Nat → Nat} (had : MAd mo ad) {n : Nat → Int32} {g : Nat → Nat → Int32} {sz : Nat} {x1 : Int32} {x2 : Int32} {K : Int32 → Prop} (h : wp_X9_isPage x1 x2 n g K) : Met l yX9_isPage wsX9_isPage ({ frames := 1, cells := 0, slots := 0, locals := 22 } : Room) (FP G [.ref mo, .int x1, .int x2] (mf mo ad n g) sz) (va_Qi (fun r f9 => K r ∧ f9 = mf mo ad n g : Int32 → FT → Prop) (FB G (fA (mf mo ad n g) sz)) (fA (mf mo ad n g) sz)) 0 0 (fA (mf mo ad n g) sz) := by
  refine Met.ofW (cc := cX9_isPage) (maxL := 3) (ret := (some .boolean)) (by decide) rfl ?_
  intro p e s m args below meth c s₁ B hml hv
  obtain ⟨rfl, hsz, hF, hK, hZ⟩ := hv
  have hx := B.exec
  have hb := B.bytes
  have hr := B.returns
  have hts := atoms_spec (ws := wsX9_isPage) B.pre
  have hown : s.vm.findClass RX9 = some m.cls := findClass_of_methodNamed B.named
  have hlocks := B.notSynchronized
  subst hsz
  have hF := hF.self (sz := s.heap.size)
  generalize hAe : fA (mf mo ad n g) s.heap.size = A at hF hZ ⊢
  have hA : ∀ q : Nat, s.heap.size ≤ q → A q := fun q h => by rw [← hAe]; exact Or.inr h
  have hS : va_S A s.heap s.heap [] := va_S.rf
  have hin_X9 : ∀ w ∈ wsX90, w ∈ wsX9_isPage := by decide +kernel
  have J46 : ∀ (z0 : Int32) (kb1 : Nat) (z2 : Int32) (z3 : Int32) (H : Heap) (locs : List Loc) (ls : Array Slot), wp_X9_isPage_46 z0 kb1 z2 z3 n g K  → Fw G A (mf mo ad n g) H → va_S A s.heap H locs → lv_has ls 3 [] → W p l e ({ frames := 1, cells := 0, slots := 0, locals := 22 } : Room) s m ([.ref mo, .int x1, .int x2] : List Value).toArray below meth c H locs 0 0 (MQ below (va_Qi (fun r f9 => K r ∧ f9 = mf mo ad n g : Int32 → FT → Prop) (FB G A) A) ([.ref mo, .int x1, .int x2] : List Value).toArray s 0 0 A) (F0 m 46 ls [.int z0, .ref (ad kb1), .int z2, .int z3]) := by
    intro z0 kb1 z2 z3 H locs ls h hF hS hl
    unfold wp_X9_isPage_46 at h
    obtain ⟨hm_i_1, hi_i_1, h⟩ := h
    refine fw_iald hx hb hK hF (mf_arr had kb1 hm_i_1) hi_i_1 dX9_isPage_46 ?_
    refine lv_topi (fun v_2 e_v_2 => ?_)
    have h := h v_2 e_v_2
    refine lv_iconst (v := (1 : Int32)) hx hb dX9_isPage_47 (by decide) ?_
    refine lv_isub hx hb dX9_isPage_48 ?_
    refine fw_cS_i_p (As := [.int z3, .int z2, .int (v_2 - (1 : Int32))]) (rest := []) ⟨hx, hb, hml, hown, hts⟩ (cc_X9_in l G had h) (⟨callB_of 3 hts ggX9_isPage_X9_in rfl rfl rfl (hts (.initialized RX9) (by decide +kernel)) (hts (.methodLink RX9 80 yX9_in) (by decide +kernel)) (by decide +kernel) ⟨Nat.le_of_ble_eq_true rfl, Nat.le_of_ble_eq_true rfl⟩, hts (.static yX9_in) (by decide +kernel)⟩) hK hZ hF hS hA rfl hl.1 rfl (Nat.le_of_ble_eq_true rfl) dX9_isPage_49 ⟨Nat.zero_le _, Nat.zero_le _⟩ (fun r_3 H locs h hF hS => ?_)
    obtain ⟨h1, h2⟩ := h
    refine lv_if_eq (tgt := 59) hx hb dX9_isPage_52 (by decide) (fun c_4 => ?_) (fun c_4 => ?_)
    · have h := h1 c_4
      refine lv_iconst (v := (0 : Int32)) hx hb dX9_isPage_59 (by decide) ?_
      exact W.zret (v := (0 : Int32)) hx hb hr (by decide) (fun t ht hW => ⟨⟨(0 : Int32), (mf mo ad n g), rfl, ⟨h, rfl⟩, by rw [ht]; exact hF, FK.moved hW.alike hK⟩, hS.F ht⟩) hS.2.2 dX9_isPage_60
    · have h := h2 c_4
      refine lv_iconst (v := (1 : Int32)) hx hb dX9_isPage_55 (by decide) ?_
      refine lv_goto (tgt := 60) hx hb dX9_isPage_56 (by decide) ?_
      exact W.zret (v := (1 : Int32)) hx hb hr (by decide) (fun t ht hW => ⟨⟨(1 : Int32), (mf mo ad n g), rfl, ⟨h, rfl⟩, by rw [ht]; exact hF, FK.moved hW.alike hK⟩, hS.F ht⟩) hS.2.2 dX9_isPage_60
  have hl := lv_entry ([.ref mo, .int x1, .int x2]) (n := 3) (Nat.le_of_ble_eq_true rfl)
  rw [lg_entry_eq]
  generalize (lg_sl ([.ref mo, .int x1, .int x2]) ++ List.replicate (3 - (lg_sl ([.ref mo, .int x1, .int x2])).length) Slot.unset).toArray = ls at hl ⊢
  have hl : lv_has ls 3 [(0, .ref mo), (1, .int x1), (2, .int x2)] := hl
  unfold wp_X9_isPage at h
  refine lv_iload_n hx hb dX9_isPage_0 rfl (lv_at hl 1 rfl) ?_
  refine lv_iconst (v := (0 : Int32)) hx hb dX9_isPage_1 (by decide) ?_
  refine lv_aload_n hx hb dX9_isPage_2 rfl (lv_at hl 0 rfl) ?_
  refine fw_get (C := RX9) (T := TX9) (N := 34) hx hb hts hin_X9 hown hK hF mf_obj rfl 13 (by decide) (hts (.fieldLink RX9 29 "FrontCodedIndexModel" "levels" "I") (by decide +kernel)) (fun _ h9 => h9) rfl dX9_isPage_3 ?_
  refine lv_iconst (v := (1 : Int32)) hx hb dX9_isPage_6 (by decide) ?_
  refine lv_isub hx hb dX9_isPage_7 ?_
  refine fw_cS_i_p (As := [.int x1, .int (0 : Int32), .int ((n 13) - (1 : Int32))]) (rest := []) ⟨hx, hb, hml, hown, hts⟩ (cc_X9_in l G had h) (⟨callB_of 3 hts ggX9_isPage_X9_in rfl rfl rfl (hts (.initialized RX9) (by decide +kernel)) (hts (.methodLink RX9 80 yX9_in) (by decide +kernel)) (by decide +kernel) ⟨Nat.le_of_ble_eq_true rfl, Nat.le_of_ble_eq_true rfl⟩, hts (.static yX9_in) (by decide +kernel)⟩) hK hZ hF hS hA rfl hl.1 rfl (Nat.le_of_ble_eq_true rfl) dX9_isPage_8 ⟨Nat.zero_le _, Nat.zero_le _⟩ (fun r_5 H locs h hF hS => ?_)
  obtain ⟨h1, h2⟩ := h
  refine lv_if_eq (tgt := 59) hx hb dX9_isPage_11 (by decide) (fun c_6 => ?_) (fun c_6 => ?_)
  · have h := h1 c_6
    refine lv_iconst (v := (0 : Int32)) hx hb dX9_isPage_59 (by decide) ?_
    exact W.zret (v := (0 : Int32)) hx hb hr (by decide) (fun t ht hW => ⟨⟨(0 : Int32), (mf mo ad n g), rfl, ⟨h, rfl⟩, by rw [ht]; exact hF, FK.moved hW.alike hK⟩, hS.F ht⟩) hS.2.2 dX9_isPage_60
  · have h := h2 c_6
    refine lv_iload_n hx hb dX9_isPage_14 rfl (lv_at hl 2 rfl) ?_
    refine lv_iconst (v := (0 : Int32)) hx hb dX9_isPage_15 (by decide) ?_
    refine lv_aload_n hx hb dX9_isPage_16 rfl (lv_at hl 0 rfl) ?_
    refine fw_get (C := RX9) (T := TX9) (N := 34) hx hb hts hin_X9 hown hK hF mf_obj rfl 14 (by decide) (hts (.fieldLink RX9 32 "FrontCodedIndexModel" "many" "[I") (by decide +kernel)) (fun _ h9 => h9) rfl dX9_isPage_17 ?_
    refine lv_iload_n hx hb dX9_isPage_20 rfl (lv_at hl 1 rfl) ?_
    refine lv_iconst (v := (0 : Int32)) hx hb dX9_isPage_21 (by decide) ?_
    refine lv_aload_n hx hb dX9_isPage_22 rfl (lv_at hl 0 rfl) ?_
    refine fw_get (C := RX9) (T := TX9) (N := 34) hx hb hts hin_X9 hown hK hF mf_obj rfl 13 (by decide) (hts (.fieldLink RX9 29 "FrontCodedIndexModel" "levels" "I") (by decide +kernel)) (fun _ h9 => h9) rfl dX9_isPage_23 ?_
    refine lv_iconst (v := (1 : Int32)) hx hb dX9_isPage_26 (by decide) ?_
    refine lv_isub hx hb dX9_isPage_27 ?_
    refine fw_cS_i_p (As := [.int x1, .int (0 : Int32), .int ((n 13) - (1 : Int32))]) (rest := [.ref (ad 14), .int (0 : Int32), .int x2]) ⟨hx, hb, hml, hown, hts⟩ (cc_X9_in l G had h) (⟨callB_of 3 hts ggX9_isPage_X9_in rfl rfl rfl (hts (.initialized RX9) (by decide +kernel)) (hts (.methodLink RX9 80 yX9_in) (by decide +kernel)) (by decide +kernel) ⟨Nat.le_of_ble_eq_true rfl, Nat.le_of_ble_eq_true rfl⟩, hts (.static yX9_in) (by decide +kernel)⟩) hK hZ hF hS hA rfl hl.1 rfl (Nat.le_of_ble_eq_true rfl) dX9_isPage_28 ⟨Nat.zero_le _, Nat.zero_le _⟩ (fun r_7 H locs h hF hS => ?_)
    obtain ⟨h1, h2⟩ := h
    refine lv_if_eq (tgt := 45) hx hb dX9_isPage_31 (by decide) (fun c_8 => ?_) (fun c_8 => ?_)
    · have h := h1 c_8
      refine lv_iconst (v := (0 : Int32)) hx hb dX9_isPage_45 (by decide) ?_
      exact J46 (0 : Int32) 14 (0 : Int32) x2 _ _ _ h hF hS (lv_sub hl [] rfl)
    · have h := h2 c_8
      refine lv_aload_n hx hb dX9_isPage_34 rfl (lv_at hl 0 rfl) ?_
      refine fw_get (C := RX9) (T := TX9) (N := 34) hx hb hts hin_X9 hown hK hF mf_obj rfl 13 (by decide) (hts (.fieldLink RX9 29 "FrontCodedIndexModel" "levels" "I") (by decide +kernel)) (fun _ h9 => h9) rfl dX9_isPage_35 ?_
      refine lv_iconst (v := (1 : Int32)) hx hb dX9_isPage_38 (by decide) ?_
      refine lv_isub hx hb dX9_isPage_39 ?_
      refine lv_iload_n hx hb dX9_isPage_40 rfl (lv_at hl 1 rfl) ?_
      refine lv_isub hx hb dX9_isPage_41 ?_
      refine lv_goto (tgt := 46) hx hb dX9_isPage_42 (by decide) ?_
      exact J46 (((n 13) - (1 : Int32)) - x1) 14 (0 : Int32) x2 _ _ _ h hF hS (lv_sub hl [] rfl)
theorem dX9_joins_0 : decode cX9_joins 0 = .ok (.aload_n 0, 1) := by decide +kernel
theorem dX9_joins_1 : decode cX9_joins 1 = .ok (.getfield 35, 3) := by decide +kernel
theorem dX9_joins_4 : decode cX9_joins 4 = .ok (.iload_n 1, 1) := by decide +kernel
theorem dX9_joins_5 : decode cX9_joins 5 = .ok (.iload_n 2, 1) := by decide +kernel
theorem dX9_joins_6 : decode cX9_joins 6 = .ok (.iconst 1, 1) := by decide +kernel
theorem dX9_joins_7 : decode cX9_joins 7 = .ok (.isub, 1) := by decide +kernel
theorem dX9_joins_8 : decode cX9_joins 8 = .ok (.invokestatic 113, 3) := by decide +kernel
theorem dX9_joins_11 : decode cX9_joins 11 = .ok (.dup2, 1) := by decide +kernel
theorem dX9_joins_12 : decode cX9_joins 12 = .ok (.iaload, 1) := by decide +kernel
theorem dX9_joins_13 : decode cX9_joins 13 = .ok (.aload_n 0, 1) := by decide +kernel
theorem dX9_joins_14 : decode cX9_joins 14 = .ok (.getfield 35, 3) := by decide +kernel
theorem dX9_joins_17 : decode cX9_joins 17 = .ok (.iload_n 1, 1) := by decide +kernel
theorem dX9_joins_18 : decode cX9_joins 18 = .ok (.iload_n 2, 1) := by decide +kernel
theorem dX9_joins_19 : decode cX9_joins 19 = .ok (.invokestatic 113, 3) := by decide +kernel
theorem dX9_joins_22 : decode cX9_joins 22 = .ok (.iaload, 1) := by decide +kernel
theorem dX9_joins_23 : decode cX9_joins 23 = .ok (.iadd, 1) := by decide +kernel
theorem dX9_joins_24 : decode cX9_joins 24 = .ok (.iastore, 1) := by decide +kernel
theorem dX9_joins_25 : decode cX9_joins 25 = .ok (.iload_n 2, 1) := by decide +kernel
theorem dX9_joins_26 : decode cX9_joins 26 = .ok (.istore_n 3, 1) := by decide +kernel
theorem dX9_joins_27 : decode cX9_joins 27 = .ok (.iload_n 3, 1) := by decide +kernel
theorem dX9_joins_28 : decode cX9_joins 28 = .ok (.aload_n 0, 1) := by decide +kernel
theorem dX9_joins_29 : decode cX9_joins 29 = .ok (.getfield 32, 3) := by decide +kernel
theorem dX9_joins_32 : decode cX9_joins 32 = .ok (.iload_n 1, 1) := by decide +kernel
theorem dX9_joins_33 : decode cX9_joins 33 = .ok (.iaload, 1) := by decide +kernel
theorem dX9_joins_34 : decode cX9_joins 34 = .ok (.iconst 1, 1) := by decide +kernel
theorem dX9_joins_35 : decode cX9_joins 35 = .ok (.isub, 1) := by decide +kernel
theorem dX9_joins_36 : decode cX9_joins 36 = .ok (.if_icmp .ge 31, 3) := by decide +kernel
theorem dX9_joins_39 : decode cX9_joins 39 = .ok (.aload_n 0, 1) := by decide +kernel
theorem dX9_joins_40 : decode cX9_joins 40 = .ok (.getfield 35, 3) := by decide +kernel
theorem dX9_joins_43 : decode cX9_joins 43 = .ok (.iload_n 1, 1) := by decide +kernel
theorem dX9_joins_44 : decode cX9_joins 44 = .ok (.iload_n 3, 1) := by decide +kernel
theorem dX9_joins_45 : decode cX9_joins 45 = .ok (.invokestatic 113, 3) := by decide +kernel
theorem dX9_joins_48 : decode cX9_joins 48 = .ok (.aload_n 0, 1) := by decide +kernel
theorem dX9_joins_49 : decode cX9_joins 49 = .ok (.getfield 35, 3) := by decide +kernel
theorem dX9_joins_52 : decode cX9_joins 52 = .ok (.iload_n 1, 1) := by decide +kernel
theorem dX9_joins_53 : decode cX9_joins 53 = .ok (.iload_n 3, 1) := by decide +kernel
theorem dX9_joins_54 : decode cX9_joins 54 = .ok (.iconst 1, 1) := by decide +kernel
theorem dX9_joins_55 : decode cX9_joins 55 = .ok (.iadd, 1) := by decide +kernel
theorem dX9_joins_56 : decode cX9_joins 56 = .ok (.invokestatic 113, 3) := by decide +kernel
theorem dX9_joins_59 : decode cX9_joins 59 = .ok (.iaload, 1) := by decide +kernel
theorem dX9_joins_60 : decode cX9_joins 60 = .ok (.iastore, 1) := by decide +kernel
theorem dX9_joins_61 : decode cX9_joins 61 = .ok (.iinc 3 1, 3) := by decide +kernel
theorem dX9_joins_64 : decode cX9_joins 64 = .ok (.goto (-37), 3) := by decide +kernel
theorem dX9_joins_67 : decode cX9_joins 67 = .ok (.iload_n 2, 1) := by decide +kernel
theorem dX9_joins_68 : decode cX9_joins 68 = .ok (.iconst 1, 1) := by decide +kernel
theorem dX9_joins_69 : decode cX9_joins 69 = .ok (.isub, 1) := by decide +kernel
theorem dX9_joins_70 : decode cX9_joins 70 = .ok (.istore_n 3, 1) := by decide +kernel
theorem dX9_joins_71 : decode cX9_joins 71 = .ok (.iload_n 1, 1) := by decide +kernel
theorem dX9_joins_72 : decode cX9_joins 72 = .ok (.ifCond .ne 44, 3) := by decide +kernel
theorem dX9_joins_75 : decode cX9_joins 75 = .ok (.iload_n 3, 1) := by decide +kernel
theorem dX9_joins_76 : decode cX9_joins 76 = .ok (.aload_n 0, 1) := by decide +kernel
theorem dX9_joins_77 : decode cX9_joins 77 = .ok (.getfield 32, 3) := by decide +kernel
theorem dX9_joins_80 : decode cX9_joins 80 = .ok (.iconst 0, 1) := by decide +kernel
theorem dX9_joins_81 : decode cX9_joins 81 = .ok (.iaload, 1) := by decide +kernel
theorem dX9_joins_82 : decode cX9_joins 82 = .ok (.iconst 1, 1) := by decide +kernel
theorem dX9_joins_83 : decode cX9_joins 83 = .ok (.isub, 1) := by decide +kernel
theorem dX9_joins_84 : decode cX9_joins 84 = .ok (.if_icmp .ge 32, 3) := by decide +kernel
theorem dX9_joins_87 : decode cX9_joins 87 = .ok (.aload_n 0, 1) := by decide +kernel
theorem dX9_joins_88 : decode cX9_joins 88 = .ok (.iload_n 3, 1) := by decide +kernel
theorem dX9_joins_89 : decode cX9_joins 89 = .ok (.aload_n 0, 1) := by decide +kernel
theorem dX9_joins_90 : decode cX9_joins 90 = .ok (.getfield 41, 3) := by decide +kernel
theorem dX9_joins_93 : decode cX9_joins 93 = .ok (.bipush 12, 2) := by decide +kernel
theorem dX9_joins_95 : decode cX9_joins 95 = .ok (.iload_n 3, 1) := by decide +kernel
theorem dX9_joins_96 : decode cX9_joins 96 = .ok (.iconst 1, 1) := by decide +kernel
theorem dX9_joins_97 : decode cX9_joins 97 = .ok (.iadd, 1) := by decide +kernel
theorem dX9_joins_98 : decode cX9_joins 98 = .ok (.imul, 1) := by decide +kernel
theorem dX9_joins_99 : decode cX9_joins 99 = .ok (.aload_n 0, 1) := by decide +kernel
theorem dX9_joins_100 : decode cX9_joins 100 = .ok (.getfield 38, 3) := by decide +kernel
theorem dX9_joins_103 : decode cX9_joins 103 = .ok (.iload_n 3, 1) := by decide +kernel
theorem dX9_joins_104 : decode cX9_joins 104 = .ok (.iconst 1, 1) := by decide +kernel
theorem dX9_joins_105 : decode cX9_joins 105 = .ok (.iadd, 1) := by decide +kernel
theorem dX9_joins_106 : decode cX9_joins 106 = .ok (.iaload, 1) := by decide +kernel
theorem dX9_joins_107 : decode cX9_joins 107 = .ok (.invokevirtual 133, 3) := by decide +kernel
theorem dX9_joins_110 : decode cX9_joins 110 = .ok (.iinc 3 1, 3) := by decide +kernel
theorem dX9_joins_113 : decode cX9_joins 113 = .ok (.goto (-42), 3) := by decide +kernel
theorem dX9_joins_116 : decode cX9_joins 116 = .ok (.aload_n 0, 1) := by decide +kernel
theorem dX9_joins_117 : decode cX9_joins 117 = .ok (.getfield 32, 3) := by decide +kernel
theorem dX9_joins_120 : decode cX9_joins 120 = .ok (.iload_n 1, 1) := by decide +kernel
theorem dX9_joins_121 : decode cX9_joins 121 = .ok (.dup2, 1) := by decide +kernel
theorem dX9_joins_122 : decode cX9_joins 122 = .ok (.iaload, 1) := by decide +kernel
theorem dX9_joins_123 : decode cX9_joins 123 = .ok (.iconst 1, 1) := by decide +kernel
theorem dX9_joins_124 : decode cX9_joins 124 = .ok (.isub, 1) := by decide +kernel
theorem dX9_joins_125 : decode cX9_joins 125 = .ok (.iastore, 1) := by decide +kernel
theorem dX9_joins_126 : decode cX9_joins 126 = .ok (.return_, 1) := by decide +kernel
set_option maxRecDepth 20000 in
theorem ggX9_joins_X9_at : GoodIn wsX9_joins wsX9_at := goodIn_r _ [8] (by decide +kernel) (by decide +kernel)
set_option maxRecDepth 20000 in
theorem ggX9_joins_X9_sets : GoodIn wsX9_joins wsX9_sets := goodIn_r _ [12, 4, 3, 13, 14, 15, 16, 17, 18, 19, 20, 21, 22, 23, 24, 25, 26, 27, 28, 29, 30, 31, 32, 33, 34, 35, 36, 37, 38, 39, 40, 41, 42, 43, 44, 45, 46] (by decide +kernel) (by decide +kernel)
def wp_X9_joins_116 (x1 : Int32)  (n : Nat → Int32) (g : Nat → Nat → Int32) (K : (Nat → Int32) → (Nat → Nat → Int32) → Prop)  : Prop :=
  vp_in x1 (mlen 14) ∧ ∀ v_2 : Int32, v_2 = g 14 (x1).toNatClampNeg → vp_in x1 (mlen 14) ∧ ∀ g_4 : Nat → Nat → Int32, g_4 = mup g 14 (x1).toNatClampNeg (v_2 - (1 : Int32)) → K n g_4
def wp_X9_joins_71 (x1 : Int32) (K : (Nat → Int32) → (Nat → Nat → Int32) → Prop)  (C71 : Int32 × (Nat → Int32) × (Nat → Nat → Int32) → Prop) : Int32 × (Nat → Int32) × (Nat → Nat → Int32) → Prop := fun s9 => match s9 with
  | (y3, n, g) => ((¬ x1 = (0 : Int32) → wp_X9_joins_116 x1 n g K) ∧
 (x1 = (0 : Int32) → vp_in (0 : Int32) (mlen 14) ∧ ∀ v_7 : Int32, v_7 = g 14 ((0 : Int32)).toNatClampNeg → (((v_7 - (1 : Int32)) ≤ y3 → wp_X9_joins_116 x1 n g K) ∧
 (¬ ((v_7 - (1 : Int32)) ≤ y3) → vp_in (y3 + (1 : Int32)) (mlen 16) ∧ ∀ v_10 : Int32, v_10 = g 16 ((y3 + (1 : Int32))).toNatClampNeg → wp_X9_sets y3 17 ((12 : Int32) * (y3 + (1 : Int32))) v_10 n g (fun n_13 g_14 => ∀ v_15 : Int32, v_15 = y3 + 1 → C71 (v_15, n_13, g_14))))))
def wp_X9_joins_27 (x1 : Int32) (x2 : Int32) (K : (Nat → Int32) → (Nat → Nat → Int32) → Prop)  (C27 : Int32 × (Nat → Int32) × (Nat → Nat → Int32) → Prop) : Int32 × (Nat → Int32) × (Nat → Nat → Int32) → Prop := fun s9 => match s9 with
  | (y3, n, g) => vp_in x1 (mlen 14) ∧ ∀ v_18 : Int32, v_18 = g 14 (x1).toNatClampNeg → (((v_18 - (1 : Int32)) ≤ y3 → ∀ v_20 : Int32, v_20 = (x2 - (1 : Int32)) → ∃ n_22, loopW (wp_X9_joins_71 x1 K) n_22 (v_20, n, g)) ∧
 (¬ ((v_18 - (1 : Int32)) ≤ y3) → wp_X9_at x1 y3 n g (fun r_23 => wp_X9_at x1 (y3 + (1 : Int32)) n g (fun r_24 => vp_in r_24 (mlen 15) ∧ ∀ v_26 : Int32, v_26 = g 15 (r_24).toNatClampNeg → vp_in r_23 (mlen 15) ∧ ∀ g_28 : Nat → Nat → Int32, g_28 = mup g 15 (r_23).toNatClampNeg v_26 → ∀ v_29 : Int32, v_29 = y3 + 1 → C27 (v_29, n, g_28)))))
def wp_X9_joins (x1 : Int32) (x2 : Int32) (n : Nat → Int32) (g : Nat → Nat → Int32) (K : (Nat → Int32) → (Nat → Nat → Int32) → Prop) : Prop :=
  wp_X9_at x1 (x2 - (1 : Int32)) n g (fun r_31 => vp_in r_31 (mlen 15) ∧ ∀ v_33 : Int32, v_33 = g 15 (r_31).toNatClampNeg → wp_X9_at x1 x2 n g (fun r_34 => vp_in r_34 (mlen 15) ∧ ∀ v_36 : Int32, v_36 = g 15 (r_34).toNatClampNeg → vp_in r_31 (mlen 15) ∧ ∀ g_38 : Nat → Nat → Int32, g_38 = mup g 15 (r_31).toNatClampNeg (v_33 + v_36) → ∃ n_39, loopW (wp_X9_joins_27 x1 x2 K) n_39 (x2, n, g_38)))
set_option maxHeartbeats 4000000 in
set_option maxRecDepth 100000 in
theorem cc_X9_joins (l : Launch) (G : GG) {mo : Nat} {ad : Nat → Nat} (had : MAd mo ad) {n : Nat → Int32} {g : Nat → Nat → Int32} {sz : Nat} {x1 : Int32} {x2 : Int32} {K : (Nat → Int32) → (Nat → Nat → Int32) → Prop} (h : wp_X9_joins x1 x2 n g K) : Met l yX9_joins wsX9_joins ({ frames := 1, cells := 0, slots := 0, locals := 25 } : Room) (FP G [.ref mo, .int x1, .int x2] (mf mo ad n g) sz) (va_Qv (fun f9 => ∃ n9 g9, f9 = mf mo ad n9 g9 ∧ K n9 g9 : FT → Prop) (FB G (fA (mf mo ad n g) sz)) (fA (mf mo ad n g) sz)) 0 0 (fA (mf mo ad n g) sz) := by
  refine Met.ofW (cc := cX9_joins) (maxL := 4) (ret := none) (by decide) rfl ?_
  intro p e s m args below meth c s₁ B hml hv
  obtain ⟨rfl, hsz, hF, hK, hZ⟩ := hv
  have hx := B.exec
  have hb := B.bytes
  have hr := B.returns
  have hts := atoms_spec (ws := wsX9_joins) B.pre
  have hown : s.vm.findClass RX9 = some m.cls := findClass_of_methodNamed B.named
  have hlocks := B.notSynchronized
  subst hsz
  have hF := hF.self (sz := s.heap.size)
  generalize hAe : fA (mf mo ad n g) s.heap.size = A at hF hZ ⊢
  have hA : ∀ q : Nat, s.heap.size ≤ q → A q := fun q h => by rw [← hAe]; exact Or.inr h
  have hS : va_S A s.heap s.heap [] := va_S.rf
  have hin_X9 : ∀ w ∈ wsX90, w ∈ wsX9_joins := by decide +kernel
  have J116 : ∀ (n : Nat → Int32) (g : Nat → Nat → Int32) (H : Heap) (locs : List Loc) (ls : Array Slot), wp_X9_joins_116 x1 n g K  → Fw G A (mf mo ad n g) H → va_S A s.heap H locs → lv_has ls 4 [(0, .ref mo), (1, .int x1)] → W p l e ({ frames := 1, cells := 0, slots := 0, locals := 25 } : Room) s m ([.ref mo, .int x1, .int x2] : List Value).toArray below meth c H locs 0 0 (MQ below (va_Qv (fun f9 => ∃ n9 g9, f9 = mf mo ad n9 g9 ∧ K n9 g9 : FT → Prop) (FB G A) A) ([.ref mo, .int x1, .int x2] : List Value).toArray s 0 0 A) (F0 m 116 ls []) := by
    intro n g H locs ls h hF hS hl
    unfold wp_X9_joins_116 at h
    refine lv_aload_n hx hb dX9_joins_116 rfl (lv_at hl 0 rfl) ?_
    refine fw_get (C := RX9) (T := TX9) (N := 34) hx hb hts hin_X9 hown hK hF mf_obj rfl 14 (by decide) (hts (.fieldLink RX9 32 "FrontCodedIndexModel" "many" "[I") (by decide +kernel)) (fun _ h9 => h9) rfl dX9_joins_117 ?_
    refine lv_iload_n hx hb dX9_joins_120 rfl (lv_at hl 1 rfl) ?_
    refine lv_dup2_11 hx hb dX9_joins_121 rfl rfl ?_
    obtain ⟨hi_i_1, h⟩ := h
    refine fw_iald hx hb hK hF (mf_arr had 14 (by decide)) hi_i_1 dX9_joins_122 ?_
    refine lv_topi (fun v_2 e_v_2 => ?_)
    have h := h v_2 e_v_2
    refine lv_iconst (v := (1 : Int32)) hx hb dX9_joins_123 (by decide) ?_
    refine lv_isub hx hb dX9_joins_124 ?_
    obtain ⟨hi_i_3, h⟩ := h
    refine fw_iast hx hb hK hF hS (mf_arr had 14 (by decide)) hi_i_3 dX9_joins_125 (fun H locs hF hS => ?_)
    rw [mf_st had 14 (by decide)] at hF
    obtain ⟨g_4, hg_g_4⟩ : ∃ z, z = mup g 14 (x1).toNatClampNeg (v_2 - (1 : Int32)) := ⟨_, rfl⟩
    rw [← hg_g_4] at hF; have h := h g_4 hg_g_4
    exact W.vret hx hb hr (fun t ht hW => ⟨⟨(mf mo ad n g_4), rfl, ⟨_, _, rfl, h⟩, by rw [ht]; exact hF, FK.moved hW.alike hK⟩, hS.F ht⟩) hS.2.2 dX9_joins_126
  have L71 : ∀  (j9 : Nat) (y3 : Int32) (n : Nat → Int32) (g : Nat → Nat → Int32) (H : Heap) (locs : List Loc) (ls : Array Slot), loopW (wp_X9_joins_71 x1 K ) j9 (y3, n, g) → Fw G A (mf mo ad n g) H → va_S A s.heap H locs → lv_has ls 4 [(0, .ref mo), (1, .int x1), (3, .int y3)] → W p l e ({ frames := 1, cells := 0, slots := 0, locals := 25 } : Room) s m ([.ref mo, .int x1, .int x2] : List Value).toArray below meth c H locs 0 0 (MQ below (va_Qv (fun f9 => ∃ n9 g9, f9 = mf mo ad n9 g9 ∧ K n9 g9 : FT → Prop) (FB G A) A) ([.ref mo, .int x1, .int x2] : List Value).toArray s 0 0 A) (F0 m 71 ls []) := by
    intro  j9
    induction j9 with
    | zero => intro y3 n g H locs ls h; exact h.elim
    | succ j9 ih71 =>
      intro y3 n g H locs ls h hF hS hl
      have h : wp_X9_joins_71 x1 K  (loopW (wp_X9_joins_71 x1 K ) j9) (y3, n, g) := h
      generalize loopW (wp_X9_joins_71 x1 K ) j9 = C71 at ih71 h
      unfold wp_X9_joins_71 at h
      refine lv_iload_n hx hb dX9_joins_71 rfl (lv_at hl 1 rfl) ?_
      obtain ⟨h1, h2⟩ := h
      refine lv_if_ne (tgt := 116) hx hb dX9_joins_72 (by decide) (fun c_5 => ?_) (fun c_5 => ?_)
      · have h := h1 c_5
        exact J116 n g _ _ _ h hF hS (lv_sub hl [0, 1] rfl)
      · have h := h2 c_5
        refine lv_iload_n hx hb dX9_joins_75 rfl (lv_at hl 2 rfl) ?_
        refine lv_aload_n hx hb dX9_joins_76 rfl (lv_at hl 0 rfl) ?_
        refine fw_get (C := RX9) (T := TX9) (N := 34) hx hb hts hin_X9 hown hK hF mf_obj rfl 14 (by decide) (hts (.fieldLink RX9 32 "FrontCodedIndexModel" "many" "[I") (by decide +kernel)) (fun _ h9 => h9) rfl dX9_joins_77 ?_
        refine lv_iconst (v := (0 : Int32)) hx hb dX9_joins_80 (by decide) ?_
        obtain ⟨hi_i_6, h⟩ := h
        refine fw_iald hx hb hK hF (mf_arr had 14 (by decide)) hi_i_6 dX9_joins_81 ?_
        refine lv_topi (fun v_7 e_v_7 => ?_)
        have h := h v_7 e_v_7
        refine lv_iconst (v := (1 : Int32)) hx hb dX9_joins_82 (by decide) ?_
        refine lv_isub hx hb dX9_joins_83 ?_
        obtain ⟨h1, h2⟩ := h
        refine lv_icmp_ge (tgt := 116) hx hb dX9_joins_84 (by decide) (fun c_8 => ?_) (fun c_8 => ?_)
        · have h := h1 c_8
          exact J116 n g _ _ _ h hF hS (lv_sub hl [0, 1] rfl)
        · have h := h2 c_8
          refine lv_aload_n hx hb dX9_joins_87 rfl (lv_at hl 0 rfl) ?_
          refine lv_iload_n hx hb dX9_joins_88 rfl (lv_at hl 2 rfl) ?_
          refine lv_aload_n hx hb dX9_joins_89 rfl (lv_at hl 0 rfl) ?_
          refine fw_get (C := RX9) (T := TX9) (N := 34) hx hb hts hin_X9 hown hK hF mf_obj rfl 17 (by decide) (hts (.fieldLink RX9 41 "FrontCodedIndexModel" "sep" "[I") (by decide +kernel)) (fun _ h9 => h9) rfl dX9_joins_90 ?_
          refine lv_bipush (v := (12 : Int32)) hx hb dX9_joins_93 (by decide) ?_
          refine lv_iload_n hx hb dX9_joins_95 rfl (lv_at hl 2 rfl) ?_
          refine lv_iconst (v := (1 : Int32)) hx hb dX9_joins_96 (by decide) ?_
          refine lv_iadd hx hb dX9_joins_97 ?_
          refine lv_imul hx hb dX9_joins_98 ?_
          refine lv_aload_n hx hb dX9_joins_99 rfl (lv_at hl 0 rfl) ?_
          refine fw_get (C := RX9) (T := TX9) (N := 34) hx hb hts hin_X9 hown hK hF mf_obj rfl 16 (by decide) (hts (.fieldLink RX9 38 "FrontCodedIndexModel" "sepSize" "[I") (by decide +kernel)) (fun _ h9 => h9) rfl dX9_joins_100 ?_
          refine lv_iload_n hx hb dX9_joins_103 rfl (lv_at hl 2 rfl) ?_
          refine lv_iconst (v := (1 : Int32)) hx hb dX9_joins_104 (by decide) ?_
          refine lv_iadd hx hb dX9_joins_105 ?_
          obtain ⟨hi_i_9, h⟩ := h
          refine fw_iald hx hb hK hF (mf_arr had 16 (by decide)) hi_i_9 dX9_joins_106 ?_
          refine lv_topi (fun v_10 e_v_10 => ?_)
          have h := h v_10 e_v_10
          refine fw_cV_v (As := [.int y3, .ref (ad 17), .int ((12 : Int32) * (y3 + (1 : Int32))), .int v_10]) (rest := []) ⟨hx, hb, hml, hown, hts⟩ (cc_X9_sets l G had h) (⟨callB_of 4 hts ggX9_joins_X9_sets rfl rfl rfl (hts (.initialized RX9) (by decide +kernel)) (hts (.methodLink RX9 133 yX9_sets) (by decide +kernel)) (by decide +kernel) ⟨Nat.le_of_ble_eq_true rfl, Nat.le_of_ble_eq_true rfl⟩, hts (.instanceMethod yX9_sets) (by decide +kernel), hts (.selects RX9 yX9_sets yX9_sets) (by decide +kernel)⟩) rfl mf_obj hK hZ hF hS hA rfl hl.1 rfl (Nat.le_of_ble_eq_true rfl) dX9_joins_107 ⟨Nat.zero_le _, Nat.zero_le _⟩ (fun f9 H locs h hF hS => ?_)
          obtain ⟨n_13, g_14, rfl, h⟩ := h
          obtain ⟨v_15, e_16⟩ : ∃ y : Int32, y = y3 + 1 := ⟨_, rfl⟩
          have h := h v_15 e_16
          refine lv_iinc (v := v_15) (lv' := [(3, .int v_15), (0, .ref mo), (1, .int x1)]) hx hb dX9_joins_110 hl (k := 2) rfl (by rw [e_16]; rfl) (by decide) rfl (fun ls hl => ?_)
          refine lv_goto (tgt := 71) hx hb dX9_joins_113 (by decide) ?_
          exact ih71 v_15 n_13 g_14 _ _ _ h hF hS (lv_sub hl [1, 2, 0] rfl)
  have L27 : ∀  (j9 : Nat) (y3 : Int32) (n : Nat → Int32) (g : Nat → Nat → Int32) (H : Heap) (locs : List Loc) (ls : Array Slot), loopW (wp_X9_joins_27 x1 x2 K ) j9 (y3, n, g) → Fw G A (mf mo ad n g) H → va_S A s.heap H locs → lv_has ls 4 [(0, .ref mo), (1, .int x1), (2, .int x2), (3, .int y3)] → W p l e ({ frames := 1, cells := 0, slots := 0, locals := 25 } : Room) s m ([.ref mo, .int x1, .int x2] : List Value).toArray below meth c H locs 0 0 (MQ below (va_Qv (fun f9 => ∃ n9 g9, f9 = mf mo ad n9 g9 ∧ K n9 g9 : FT → Prop) (FB G A) A) ([.ref mo, .int x1, .int x2] : List Value).toArray s 0 0 A) (F0 m 27 ls []) := by
    intro  j9
    induction j9 with
    | zero => intro y3 n g H locs ls h; exact h.elim
    | succ j9 ih27 =>
      intro y3 n g H locs ls h hF hS hl
      have h : wp_X9_joins_27 x1 x2 K  (loopW (wp_X9_joins_27 x1 x2 K ) j9) (y3, n, g) := h
      generalize loopW (wp_X9_joins_27 x1 x2 K ) j9 = C27 at ih27 h
      unfold wp_X9_joins_27 at h
      refine lv_iload_n hx hb dX9_joins_27 rfl (lv_at hl 3 rfl) ?_
      refine lv_aload_n hx hb dX9_joins_28 rfl (lv_at hl 0 rfl) ?_
      refine fw_get (C := RX9) (T := TX9) (N := 34) hx hb hts hin_X9 hown hK hF mf_obj rfl 14 (by decide) (hts (.fieldLink RX9 32 "FrontCodedIndexModel" "many" "[I") (by decide +kernel)) (fun _ h9 => h9) rfl dX9_joins_29 ?_
      refine lv_iload_n hx hb dX9_joins_32 rfl (lv_at hl 1 rfl) ?_
      obtain ⟨hi_i_17, h⟩ := h
      refine fw_iald hx hb hK hF (mf_arr had 14 (by decide)) hi_i_17 dX9_joins_33 ?_
      refine lv_topi (fun v_18 e_v_18 => ?_)
      have h := h v_18 e_v_18
      refine lv_iconst (v := (1 : Int32)) hx hb dX9_joins_34 (by decide) ?_
      refine lv_isub hx hb dX9_joins_35 ?_
      obtain ⟨h1, h2⟩ := h
      refine lv_icmp_ge (tgt := 67) hx hb dX9_joins_36 (by decide) (fun c_19 => ?_) (fun c_19 => ?_)
      · have h := h1 c_19
        refine lv_iload_n hx hb dX9_joins_67 rfl (lv_at hl 2 rfl) ?_
        refine lv_iconst (v := (1 : Int32)) hx hb dX9_joins_68 (by decide) ?_
        refine lv_isub hx hb dX9_joins_69 ?_
        refine lv_topi (fun v_20 e_21 => ?_)
        have h := h v_20 e_21
        refine lv_istore_n (lv' := [(3, .int v_20), (0, .ref mo), (1, .int x1), (2, .int x2)]) hx hb dX9_joins_70 rfl hl (by decide) rfl (fun ls hl => ?_)
        obtain ⟨n_22, h⟩ := h
        exact L71 n_22 v_20 n g _ _ _ h hF hS (lv_sub hl [1, 2, 0] rfl)
      · have h := h2 c_19
        refine lv_aload_n hx hb dX9_joins_39 rfl (lv_at hl 0 rfl) ?_
        refine fw_get (C := RX9) (T := TX9) (N := 34) hx hb hts hin_X9 hown hK hF mf_obj rfl 15 (by decide) (hts (.fieldLink RX9 35 "FrontCodedIndexModel" "parts" "[I") (by decide +kernel)) (fun _ h9 => h9) rfl dX9_joins_40 ?_
        refine lv_iload_n hx hb dX9_joins_43 rfl (lv_at hl 1 rfl) ?_
        refine lv_iload_n hx hb dX9_joins_44 rfl (lv_at hl 3 rfl) ?_
        refine fw_cS_i_p (As := [.int x1, .int y3]) (rest := [.ref (ad 15)]) ⟨hx, hb, hml, hown, hts⟩ (cc_X9_at l G had h) (⟨callB_of 2 hts ggX9_joins_X9_at rfl rfl rfl (hts (.initialized RX9) (by decide +kernel)) (hts (.methodLink RX9 113 yX9_at) (by decide +kernel)) (by decide +kernel) ⟨Nat.le_of_ble_eq_true rfl, Nat.le_of_ble_eq_true rfl⟩, hts (.static yX9_at) (by decide +kernel)⟩) hK hZ hF hS hA rfl hl.1 rfl (Nat.le_of_ble_eq_true rfl) dX9_joins_45 ⟨Nat.zero_le _, Nat.zero_le _⟩ (fun r_23 H locs h hF hS => ?_)
        refine lv_aload_n hx hb dX9_joins_48 rfl (lv_at hl 0 rfl) ?_
        refine fw_get (C := RX9) (T := TX9) (N := 34) hx hb hts hin_X9 hown hK hF mf_obj rfl 15 (by decide) (hts (.fieldLink RX9 35 "FrontCodedIndexModel" "parts" "[I") (by decide +kernel)) (fun _ h9 => h9) rfl dX9_joins_49 ?_
        refine lv_iload_n hx hb dX9_joins_52 rfl (lv_at hl 1 rfl) ?_
        refine lv_iload_n hx hb dX9_joins_53 rfl (lv_at hl 3 rfl) ?_
        refine lv_iconst (v := (1 : Int32)) hx hb dX9_joins_54 (by decide) ?_
        refine lv_iadd hx hb dX9_joins_55 ?_
        refine fw_cS_i_p (As := [.int x1, .int (y3 + (1 : Int32))]) (rest := [.ref (ad 15), .int r_23, .ref (ad 15)]) ⟨hx, hb, hml, hown, hts⟩ (cc_X9_at l G had h) (⟨callB_of 2 hts ggX9_joins_X9_at rfl rfl rfl (hts (.initialized RX9) (by decide +kernel)) (hts (.methodLink RX9 113 yX9_at) (by decide +kernel)) (by decide +kernel) ⟨Nat.le_of_ble_eq_true rfl, Nat.le_of_ble_eq_true rfl⟩, hts (.static yX9_at) (by decide +kernel)⟩) hK hZ hF hS hA rfl hl.1 rfl (Nat.le_of_ble_eq_true rfl) dX9_joins_56 ⟨Nat.zero_le _, Nat.zero_le _⟩ (fun r_24 H locs h hF hS => ?_)
        obtain ⟨hi_i_25, h⟩ := h
        refine fw_iald hx hb hK hF (mf_arr had 15 (by decide)) hi_i_25 dX9_joins_59 ?_
        refine lv_topi (fun v_26 e_v_26 => ?_)
        have h := h v_26 e_v_26
        obtain ⟨hi_i_27, h⟩ := h
        refine fw_iast hx hb hK hF hS (mf_arr had 15 (by decide)) hi_i_27 dX9_joins_60 (fun H locs hF hS => ?_)
        rw [mf_st had 15 (by decide)] at hF
        obtain ⟨g_28, hg_g_28⟩ : ∃ z, z = mup g 15 (r_23).toNatClampNeg v_26 := ⟨_, rfl⟩
        rw [← hg_g_28] at hF; have h := h g_28 hg_g_28
        obtain ⟨v_29, e_30⟩ : ∃ y : Int32, y = y3 + 1 := ⟨_, rfl⟩
        have h := h v_29 e_30
        refine lv_iinc (v := v_29) (lv' := [(3, .int v_29), (0, .ref mo), (1, .int x1), (2, .int x2)]) hx hb dX9_joins_61 hl (k := 3) rfl (by rw [e_30]; rfl) (by decide) rfl (fun ls hl => ?_)
        refine lv_goto (tgt := 27) hx hb dX9_joins_64 (by decide) ?_
        exact ih27 v_29 n g_28 _ _ _ h hF hS (lv_sub hl [1, 2, 3, 0] rfl)
  have hl := lv_entry ([.ref mo, .int x1, .int x2]) (n := 4) (Nat.le_of_ble_eq_true rfl)
  rw [lg_entry_eq]
  generalize (lg_sl ([.ref mo, .int x1, .int x2]) ++ List.replicate (4 - (lg_sl ([.ref mo, .int x1, .int x2])).length) Slot.unset).toArray = ls at hl ⊢
  have hl : lv_has ls 4 [(0, .ref mo), (1, .int x1), (2, .int x2)] := hl
  unfold wp_X9_joins at h
  refine lv_aload_n hx hb dX9_joins_0 rfl (lv_at hl 0 rfl) ?_
  refine fw_get (C := RX9) (T := TX9) (N := 34) hx hb hts hin_X9 hown hK hF mf_obj rfl 15 (by decide) (hts (.fieldLink RX9 35 "FrontCodedIndexModel" "parts" "[I") (by decide +kernel)) (fun _ h9 => h9) rfl dX9_joins_1 ?_
  refine lv_iload_n hx hb dX9_joins_4 rfl (lv_at hl 1 rfl) ?_
  refine lv_iload_n hx hb dX9_joins_5 rfl (lv_at hl 2 rfl) ?_
  refine lv_iconst (v := (1 : Int32)) hx hb dX9_joins_6 (by decide) ?_
  refine lv_isub hx hb dX9_joins_7 ?_
  refine fw_cS_i_p (As := [.int x1, .int (x2 - (1 : Int32))]) (rest := [.ref (ad 15)]) ⟨hx, hb, hml, hown, hts⟩ (cc_X9_at l G had h) (⟨callB_of 2 hts ggX9_joins_X9_at rfl rfl rfl (hts (.initialized RX9) (by decide +kernel)) (hts (.methodLink RX9 113 yX9_at) (by decide +kernel)) (by decide +kernel) ⟨Nat.le_of_ble_eq_true rfl, Nat.le_of_ble_eq_true rfl⟩, hts (.static yX9_at) (by decide +kernel)⟩) hK hZ hF hS hA rfl hl.1 rfl (Nat.le_of_ble_eq_true rfl) dX9_joins_8 ⟨Nat.zero_le _, Nat.zero_le _⟩ (fun r_31 H locs h hF hS => ?_)
  refine lv_dup2_11 hx hb dX9_joins_11 rfl rfl ?_
  obtain ⟨hi_i_32, h⟩ := h
  refine fw_iald hx hb hK hF (mf_arr had 15 (by decide)) hi_i_32 dX9_joins_12 ?_
  refine lv_topi (fun v_33 e_v_33 => ?_)
  have h := h v_33 e_v_33
  refine lv_aload_n hx hb dX9_joins_13 rfl (lv_at hl 0 rfl) ?_
  refine fw_get (C := RX9) (T := TX9) (N := 34) hx hb hts hin_X9 hown hK hF mf_obj rfl 15 (by decide) (hts (.fieldLink RX9 35 "FrontCodedIndexModel" "parts" "[I") (by decide +kernel)) (fun _ h9 => h9) rfl dX9_joins_14 ?_
  refine lv_iload_n hx hb dX9_joins_17 rfl (lv_at hl 1 rfl) ?_
  refine lv_iload_n hx hb dX9_joins_18 rfl (lv_at hl 2 rfl) ?_
  refine fw_cS_i_p (As := [.int x1, .int x2]) (rest := [.ref (ad 15), .int v_33, .int r_31, .ref (ad 15)]) ⟨hx, hb, hml, hown, hts⟩ (cc_X9_at l G had h) (⟨callB_of 2 hts ggX9_joins_X9_at rfl rfl rfl (hts (.initialized RX9) (by decide +kernel)) (hts (.methodLink RX9 113 yX9_at) (by decide +kernel)) (by decide +kernel) ⟨Nat.le_of_ble_eq_true rfl, Nat.le_of_ble_eq_true rfl⟩, hts (.static yX9_at) (by decide +kernel)⟩) hK hZ hF hS hA rfl hl.1 rfl (Nat.le_of_ble_eq_true rfl) dX9_joins_19 ⟨Nat.zero_le _, Nat.zero_le _⟩ (fun r_34 H locs h hF hS => ?_)
  obtain ⟨hi_i_35, h⟩ := h
  refine fw_iald hx hb hK hF (mf_arr had 15 (by decide)) hi_i_35 dX9_joins_22 ?_
  refine lv_topi (fun v_36 e_v_36 => ?_)
  have h := h v_36 e_v_36
  refine lv_iadd hx hb dX9_joins_23 ?_
  obtain ⟨hi_i_37, h⟩ := h
  refine fw_iast hx hb hK hF hS (mf_arr had 15 (by decide)) hi_i_37 dX9_joins_24 (fun H locs hF hS => ?_)
  rw [mf_st had 15 (by decide)] at hF
  obtain ⟨g_38, hg_g_38⟩ : ∃ z, z = mup g 15 (r_31).toNatClampNeg (v_33 + v_36) := ⟨_, rfl⟩
  rw [← hg_g_38] at hF; have h := h g_38 hg_g_38
  refine lv_iload_n hx hb dX9_joins_25 rfl (lv_at hl 2 rfl) ?_
  refine lv_istore_n (lv' := [(3, .int x2), (0, .ref mo), (1, .int x1), (2, .int x2)]) hx hb dX9_joins_26 rfl hl (by decide) rfl (fun ls hl => ?_)
  obtain ⟨n_39, h⟩ := h
  exact L27 n_39 x2 n g_38 _ _ _ h hF hS (lv_sub hl [1, 2, 3, 0] rfl)
