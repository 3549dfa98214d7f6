theorem dJ7_fill_53178_0 : decode cJ7_fill_53178 0 = .ok (.iconst 0, 1) := by decide +kernel
theorem dJ7_fill_53178_1 : decode cJ7_fill_53178 1 = .ok (.istore_n 2, 1) := by decide +kernel
theorem dJ7_fill_53178_2 : decode cJ7_fill_53178 2 = .ok (.aload_n 0, 1) := by decide +kernel
theorem dJ7_fill_53178_3 : decode cJ7_fill_53178 3 = .ok (.arraylength, 1) := by decide +kernel
theorem dJ7_fill_53178_4 : decode cJ7_fill_53178 4 = .ok (.istore_n 3, 1) := by decide +kernel
theorem dJ7_fill_53178_5 : decode cJ7_fill_53178 5 = .ok (.iload_n 2, 1) := by decide +kernel
theorem dJ7_fill_53178_6 : decode cJ7_fill_53178 6 = .ok (.iload_n 3, 1) := by decide +kernel
theorem dJ7_fill_53178_7 : decode cJ7_fill_53178 7 = .ok (.if_icmp .ge 13, 3) := by decide +kernel
theorem dJ7_fill_53178_10 : decode cJ7_fill_53178 10 = .ok (.aload_n 0, 1) := by decide +kernel
theorem dJ7_fill_53178_11 : decode cJ7_fill_53178 11 = .ok (.iload_n 2, 1) := by decide +kernel
theorem dJ7_fill_53178_12 : decode cJ7_fill_53178 12 = .ok (.iload_n 1, 1) := by decide +kernel
theorem dJ7_fill_53178_13 : decode cJ7_fill_53178 13 = .ok (.iastore, 1) := by decide +kernel
theorem dJ7_fill_53178_14 : decode cJ7_fill_53178 14 = .ok (.iinc 2 1, 3) := by decide +kernel
theorem dJ7_fill_53178_17 : decode cJ7_fill_53178 17 = .ok (.goto (-12), 3) := by decide +kernel
theorem dJ7_fill_53178_20 : decode cJ7_fill_53178 20 = .ok (.return_, 1) := by decide +kernel
def wp_J7_fill_53178_5 (a0 : Nat) (x1 : Int32) (y3 : Int32) (K : FT → Prop)  (C5 : Int32 × FT → Prop) : Int32 × FT → Prop := fun s9 => match s9 with
  | (y2, f) => ((y3 ≤ y2 → K f) ∧
 (¬ (y3 ≤ y2) → sI f a0 y2 x1 fun f_3 => ∀ v_4 : Int32, v_4 = y2 + 1 → C5 (v_4, f_3)))
def wp_J7_fill_53178 (a0 : Nat) (x1 : Int32) (f : FT) (K : FT → Prop) : Prop :=
  aL f a0 fun v_6 => ∃ n_8, loopW (wp_J7_fill_53178_5 a0 x1 v_6 K) n_8 ((0 : Int32), f)
set_option maxHeartbeats 4000000 in
set_option maxRecDepth 100000 in
theorem cc_J7_fill_53178 (l : Launch) (G : GG) {f : FT} {sz : Nat} {a0 : Nat} {x1 : Int32} {K : FT → Prop} (h : wp_J7_fill_53178 a0 x1 f K) : Met l yJ7_fill_53178 wsJ7_fill_53178 ({ frames := 0, cells := 0, slots := 0, locals := 0 } : Room) (FP G [.ref a0, .int x1] f sz) (va_Qv (fun f9 => K f9 : FT → Prop) (FB G (fA f sz)) (fA f sz)) 0 0 (fA f sz) := by
  refine Met.ofW (cc := cJ7_fill_53178) (maxL := 4) (ret := none) (by decide) rfl ?_
  intro p e s m args below meth c s₁ B hml hv
  obtain ⟨rfl, hsz, hF, hK, hZ⟩ := hv
  have hx := B.exec
  have hb := B.bytes
  have hr := B.returns
  have hts := atoms_spec (ws := wsJ7_fill_53178) B.pre
  have hown : s.vm.findClass RJ7 = some m.cls := findClass_of_methodNamed B.named
  have hlocks := B.notSynchronized
  subst hsz
  have hF := hF.self (sz := s.heap.size)
  generalize hAe : fA f s.heap.size = A at hF hZ ⊢
  have hA : ∀ q : Nat, s.heap.size ≤ q → A q := fun q h => by rw [← hAe]; exact Or.inr h
  have hS : va_S A s.heap s.heap [] := va_S.rf
  have L5 : ∀ (y3 : Int32) (j9 : Nat) (y2 : Int32) (f : FT) (H : Heap) (locs : List Loc) (ls : Array Slot), loopW (wp_J7_fill_53178_5 a0 x1 y3 K ) j9 (y2, f) → Fw G A f H → va_S A s.heap H locs → lv_has ls 4 [(0, .ref a0), (1, .int x1), (2, .int y2), (3, .int y3)] → W p l e ({ frames := 0, cells := 0, slots := 0, locals := 0 } : Room) s m ([.ref a0, .int x1] : List Value).toArray below meth c H locs 0 0 (MQ below (va_Qv (fun f9 => K f9 : FT → Prop) (FB G A) A) ([.ref a0, .int x1] : List Value).toArray s 0 0 A) (F0 m 5 ls []) := by
    intro y3 j9
    induction j9 with
    | zero => intro y2 f H locs ls h; exact h.elim
    | succ j9 ih5 =>
      intro y2 f H locs ls h hF hS hl
      have h : wp_J7_fill_53178_5 a0 x1 y3 K  (loopW (wp_J7_fill_53178_5 a0 x1 y3 K ) j9) (y2, f) := h
      generalize loopW (wp_J7_fill_53178_5 a0 x1 y3 K ) j9 = C5 at ih5 h
      unfold wp_J7_fill_53178_5 at h
      refine lv_iload_n hx hb dJ7_fill_53178_5 rfl (lv_at hl 2 rfl) ?_
      refine lv_iload_n hx hb dJ7_fill_53178_6 rfl (lv_at hl 3 rfl) ?_
      obtain ⟨h1, h2⟩ := h
      refine lv_icmp_ge (tgt := 20) hx hb dJ7_fill_53178_7 (by decide) (fun c_1 => ?_) (fun c_1 => ?_)
      · have h := h1 c_1
        exact W.vret hx hb hr (fun t ht hW => ⟨⟨f, rfl, h, by rw [ht]; exact hF, FK.moved hW.alike hK⟩, hS.F ht⟩) hS.2.2 dJ7_fill_53178_20
      · have h := h2 c_1
        refine lv_aload_n hx hb dJ7_fill_53178_10 rfl (lv_at hl 0 rfl) ?_
        refine lv_iload_n hx hb dJ7_fill_53178_11 rfl (lv_at hl 2 rfl) ?_
        refine lv_iload_n hx hb dJ7_fill_53178_12 rfl (lv_at hl 1 rfl) ?_
        obtain ⟨n_q_2, q_2, he_q_2, hi_q_2, h⟩ := h
        refine fw_iast hx hb hK hF hS he_q_2 hi_q_2 dJ7_fill_53178_13 (fun H locs hF hS => ?_)
        obtain ⟨f_3, hf_f_3⟩ : ∃ z, z = fup f a0 (.inl (1, n_q_2, .inl (upd q_2 (y2).toNatClampNeg x1))) := ⟨_, rfl⟩
        rw [← hf_f_3] at hF; have h := h f_3 hf_f_3
        obtain ⟨v_4, e_5⟩ : ∃ y : Int32, y = y2 + 1 := ⟨_, rfl⟩
        have h := h v_4 e_5
        refine lv_iinc (v := v_4) (lv' := [(2, .int v_4), (0, .ref a0), (1, .int x1), (3, .int y3)]) hx hb dJ7_fill_53178_14 hl (k := 2) rfl (by rw [e_5]; rfl) (by decide) rfl (fun ls hl => ?_)
        refine lv_goto (tgt := 5) hx hb dJ7_fill_53178_17 (by decide) ?_
        exact ih5 v_4 f_3 _ _ _ h hF hS (lv_sub hl [1, 2, 0, 3] rfl)
  have hl := lv_entry ([.ref a0, .int x1]) (n := 4) (Nat.le_of_ble_eq_true rfl)
  rw [lg_entry_eq]
  generalize (lg_sl ([.ref a0, .int x1]) ++ List.replicate (4 - (lg_sl ([.ref a0, .int x1])).length) Slot.unset).toArray = ls at hl ⊢
  have hl : lv_has ls 4 [(0, .ref a0), (1, .int x1)] := hl
  unfold wp_J7_fill_53178 at h
  refine lv_iconst (v := (0 : Int32)) hx hb dJ7_fill_53178_0 (by decide) ?_
  refine lv_istore_n (lv' := [(2, .int (0 : Int32)), (0, .ref a0), (1, .int x1)]) hx hb dJ7_fill_53178_1 rfl hl (by decide) rfl (fun ls hl => ?_)
  refine lv_aload_n hx hb dJ7_fill_53178_2 rfl (lv_at hl 1 rfl) ?_
  obtain ⟨t_q_7, q_7, he_q_7, ht_q_7, h⟩ := h
  refine fw_alen hx hb hK hF he_q_7 ht_q_7 dJ7_fill_53178_3 ?_
  refine lv_topi (fun v_6 e_v_6 => ?_)
  have h := h v_6 e_v_6
  refine lv_istore_n (lv' := [(3, .int v_6), (2, .int (0 : Int32)), (0, .ref a0), (1, .int x1)]) hx hb dJ7_fill_53178_4 rfl hl (by decide) rfl (fun ls hl => ?_)
  obtain ⟨n_8, h⟩ := h
  exact L5 v_6 n_8 (0 : Int32) f _ _ _ h hF hS (lv_sub hl [2, 3, 1, 0] rfl)
theorem dX0_closeAll_0 : decode cX0_closeAll 0 = .ok (.aload_n 0, 1) := by decide +kernel
theorem dX0_closeAll_1 : decode cX0_closeAll 1 = .ok (.getfield 9, 3) := by decide +kernel
theorem dX0_closeAll_4 : decode cX0_closeAll 4 = .ok (.iconst (-1), 1) := by decide +kernel
theorem dX0_closeAll_5 : decode cX0_closeAll 5 = .ok (.invokestatic 15, 3) := by decide +kernel
theorem dX0_closeAll_8 : decode cX0_closeAll 8 = .ok (.return_, 1) := by decide +kernel
set_option maxRecDepth 20000 in
theorem ggX0_closeAll_J7_fill_53178 : GoodIn wsX0_closeAll wsJ7_fill_53178 := goodIn_r _ [5] (by decide +kernel) (by decide +kernel)
def wp_X0_closeAll (a0 : Nat) (f : FT) (K : FT → Prop) : Prop :=
  gA f a0 3 0 fun a_1 => wp_J7_fill_53178 a_1 (-1 : Int32) f (fun f_4 => K f_4)
set_option maxHeartbeats 4000000 in
set_option maxRecDepth 100000 in
theorem cc_X0_closeAll (l : Launch) (G : GG) {f : FT} {sz : Nat} {a0 : Nat} {K : FT → Prop} (h : wp_X0_closeAll a0 f K) : Met l yX0_closeAll wsX0_closeAll ({ frames := 1, cells := 0, slots := 0, locals := 23 } : Room) (FP G [.ref a0] f sz) (va_Qv (fun f9 => K f9 : FT → Prop) (FB G (fA f sz)) (fA f sz)) 0 0 (fA f sz) := by
  refine Met.ofW (cc := cX0_closeAll) (maxL := 1) (ret := none) (by decide) rfl ?_
  intro p e s m args below meth c s₁ B hml hv
  obtain ⟨rfl, hsz, hF, hK, hZ⟩ := hv
  have hx := B.exec
  have hb := B.bytes
  have hr := B.returns
  have hts := atoms_spec (ws := wsX0_closeAll) B.pre
  have hown : s.vm.findClass RX0 = some m.cls := findClass_of_methodNamed B.named
  have hlocks := B.notSynchronized
  subst hsz
  have hF := hF.self (sz := s.heap.size)
  generalize hAe : fA f s.heap.size = A at hF hZ ⊢
  have hA : ∀ q : Nat, s.heap.size ≤ q → A q := fun q h => by rw [← hAe]; exact Or.inr h
  have hS : va_S A s.heap s.heap [] := va_S.rf
  have hin_X0 : ∀ w ∈ wsX00, w ∈ wsX0_closeAll := by decide +kernel
  have hl := lv_entry ([.ref a0]) (n := 1) (Nat.le_of_ble_eq_true rfl)
  rw [lg_entry_eq]
  generalize (lg_sl ([.ref a0]) ++ List.replicate (1 - (lg_sl ([.ref a0])).length) Slot.unset).toArray = ls at hl ⊢
  have hl : lv_has ls 1 [(0, .ref a0)] := hl
  unfold wp_X0_closeAll at h
  refine lv_aload_n hx hb dX0_closeAll_0 rfl (lv_at hl 0 rfl) ?_
  obtain ⟨fs_2, a_1, he_fs_2, hv_fs_2, h⟩ := h
  refine fw_get (C := RX0) (T := TX0) (N := 1) hx hb hts hin_X0 hown hK hF he_fs_2 rfl 0 (by decide) (hts (.fieldLink RX0 9 "FrontCodedIndex$Cursors" "places" "[I") (by decide +kernel)) (fun _ h9 => h9) hv_fs_2 dX0_closeAll_1 ?_
  refine lv_iconst (v := (-1 : Int32)) hx hb dX0_closeAll_4 (by decide) ?_
  refine fw_cS_v (As := [.ref a_1, .int (-1 : Int32)]) (rest := []) ⟨hx, hb, hml, hown, hts⟩ (cc_J7_fill_53178 l G h) (⟨callB_of 2 hts ggX0_closeAll_J7_fill_53178 rfl rfl rfl (hts (.initialized RJ7) (by decide +kernel)) (hts (.methodLink RX0 15 yJ7_fill_53178) (by decide +kernel)) (by decide +kernel) ⟨Nat.le_of_ble_eq_true rfl, Nat.le_of_ble_eq_true rfl⟩, hts (.static yJ7_fill_53178) (by decide +kernel)⟩) hK hZ hF hS hA rfl hl.1 rfl (Nat.le_of_ble_eq_true rfl) dX0_closeAll_5 ⟨Nat.zero_le _, Nat.zero_le _⟩ (fun f_4 H locs h hF hS => ?_)
  exact W.vret hx hb hr (fun t ht hW => ⟨⟨f_4, rfl, h, by rw [ht]; exact hF, FK.moved hW.alike hK⟩, hS.F ht⟩) hS.2.2 dX0_closeAll_8
theorem dX0_entryAdded_0 : decode cX0_entryAdded 0 = .ok (.iconst 0, 1) := by decide +kernel
theorem dX0_entryAdded_1 : decode cX0_entryAdded 1 = .ok (.istore_n 2, 1) := by decide +kernel
theorem dX0_entryAdded_2 : decode cX0_entryAdded 2 = .ok (.iload_n 2, 1) := by decide +kernel
theorem dX0_entryAdded_3 : decode cX0_entryAdded 3 = .ok (.aload_n 0, 1) := by decide +kernel
theorem dX0_entryAdded_4 : decode cX0_entryAdded 4 = .ok (.getfield 9, 3) := by decide +kernel
theorem dX0_entryAdded_7 : decode cX0_entryAdded 7 = .ok (.arraylength, 1) := by decide +kernel
theorem dX0_entryAdded_8 : decode cX0_entryAdded 8 = .ok (.if_icmp .ge 29, 3) := by decide +kernel
theorem dX0_entryAdded_11 : decode cX0_entryAdded 11 = .ok (.aload_n 0, 1) := by decide +kernel
theorem dX0_entryAdded_12 : decode cX0_entryAdded 12 = .ok (.getfield 9, 3) := by decide +kernel
theorem dX0_entryAdded_15 : decode cX0_entryAdded 15 = .ok (.iload_n 2, 1) := by decide +kernel
theorem dX0_entryAdded_16 : decode cX0_entryAdded 16 = .ok (.iaload, 1) := by decide +kernel
theorem dX0_entryAdded_17 : decode cX0_entryAdded 17 = .ok (.iload_n 1, 1) := by decide +kernel
theorem dX0_entryAdded_18 : decode cX0_entryAdded 18 = .ok (.if_icmp .lt 13, 3) := by decide +kernel
theorem dX0_entryAdded_21 : decode cX0_entryAdded 21 = .ok (.aload_n 0, 1) := by decide +kernel
theorem dX0_entryAdded_22 : decode cX0_entryAdded 22 = .ok (.getfield 9, 3) := by decide +kernel
theorem dX0_entryAdded_25 : decode cX0_entryAdded 25 = .ok (.iload_n 2, 1) := by decide +kernel
theorem dX0_entryAdded_26 : decode cX0_entryAdded 26 = .ok (.dup2, 1) := by decide +kernel
theorem dX0_entryAdded_27 : decode cX0_entryAdded 27 = .ok (.iaload, 1) := by decide +kernel
theorem dX0_entryAdded_28 : decode cX0_entryAdded 28 = .ok (.iconst 1, 1) := by decide +kernel
theorem dX0_entryAdded_29 : decode cX0_entryAdded 29 = .ok (.iadd, 1) := by decide +kernel
theorem dX0_entryAdded_30 : decode cX0_entryAdded 30 = .ok (.iastore, 1) := by decide +kernel
theorem dX0_entryAdded_31 : decode cX0_entryAdded 31 = .ok (.iinc 2 1, 3) := by decide +kernel
theorem dX0_entryAdded_34 : decode cX0_entryAdded 34 = .ok (.goto (-32), 3) := by decide +kernel
theorem dX0_entryAdded_37 : decode cX0_entryAdded 37 = .ok (.return_, 1) := by decide +kernel
def wp_X0_entryAdded_31 (a0 : Nat) (x1 : Int32) (y2 : Int32) (f : FT) (K : FT → Prop) (C2 : Int32 × FT → Prop) : Prop :=
  ∀ v_1 : Int32, v_1 = y2 + 1 → C2 (v_1, f)
def wp_X0_entryAdded_2 (a0 : Nat) (x1 : Int32) (K : FT → Prop)  (C2 : Int32 × FT → Prop) : Int32 × FT → Prop := fun s9 => match s9 with
  | (y2, f) => gA f a0 3 0 fun a_3 => aL f a_3 fun v_5 => ((v_5 ≤ y2 → K f) ∧
 (¬ (v_5 ≤ y2) → gA f a0 3 0 fun a_8 => aI f a_8 1 y2 fun v_10 => ((v_10 < x1 → wp_X0_entryAdded_31 a0 x1 y2 f K C2) ∧
 (¬ (v_10 < x1) → gA f a0 3 0 fun a_13 => aI f a_13 1 y2 fun v_15 => sI f a_13 y2 (v_15 + (1 : Int32)) fun f_18 => wp_X0_entryAdded_31 a0 x1 y2 f_18 K C2))))
def wp_X0_entryAdded (a0 : Nat) (x1 : Int32) (f : FT) (K : FT → Prop) : Prop :=
  ∃ n_19, loopW (wp_X0_entryAdded_2 a0 x1 K) n_19 ((0 : Int32), f)
set_option maxHeartbeats 4000000 in
set_option maxRecDepth 100000 in
theorem cc_X0_entryAdded (l : Launch) (G : GG) {f : FT} {sz : Nat} {a0 : Nat} {x1 : Int32} {K : FT → Prop} (h : wp_X0_entryAdded a0 x1 f K) : Met l yX0_entryAdded wsX0_entryAdded ({ frames := 0, cells := 0, slots := 0, locals := 0 } : Room) (FP G [.ref a0, .int x1] f sz) (va_Qv (fun f9 => K f9 : FT → Prop) (FB G (fA f sz)) (fA f sz)) 0 0 (fA f sz) := by
  refine Met.ofW (cc := cX0_entryAdded) (maxL := 3) (ret := none) (by decide) rfl ?_
  intro p e s m args below meth c s₁ B hml hv
  obtain ⟨rfl, hsz, hF, hK, hZ⟩ := hv
  have hx := B.exec
  have hb := B.bytes
  have hr := B.returns
  have hts := atoms_spec (ws := wsX0_entryAdded) B.pre
  have hown : s.vm.findClass RX0 = some m.cls := findClass_of_methodNamed B.named
  have hlocks := B.notSynchronized
  subst hsz
  have hF := hF.self (sz := s.heap.size)
  generalize hAe : fA f s.heap.size = A at hF hZ ⊢
  have hA : ∀ q : Nat, s.heap.size ≤ q → A q := fun q h => by rw [← hAe]; exact Or.inr h
  have hS : va_S A s.heap s.heap [] := va_S.rf
  have hin_X0 : ∀ w ∈ wsX00, w ∈ wsX0_entryAdded := by decide +kernel
  have L2 : ∀  (j9 : Nat) (y2 : Int32) (f : FT) (H : Heap) (locs : List Loc) (ls : Array Slot), loopW (wp_X0_entryAdded_2 a0 x1 K ) j9 (y2, f) → Fw G A f H → va_S A s.heap H locs → lv_has ls 3 [(0, .ref a0), (1, .int x1), (2, .int y2)] → W p l e ({ frames := 0, cells := 0, slots := 0, locals := 0 } : Room) s m ([.ref a0, .int x1] : List Value).toArray below meth c H locs 0 0 (MQ below (va_Qv (fun f9 => K f9 : FT → Prop) (FB G A) A) ([.ref a0, .int x1] : List Value).toArray s 0 0 A) (F0 m 2 ls []) := by
    intro  j9
    induction j9 with
    | zero => intro y2 f H locs ls h; exact h.elim
    | succ j9 ih2 =>
      intro y2 f H locs ls h hF hS hl
      have h : wp_X0_entryAdded_2 a0 x1 K  (loopW (wp_X0_entryAdded_2 a0 x1 K ) j9) (y2, f) := h
      generalize loopW (wp_X0_entryAdded_2 a0 x1 K ) j9 = C2 at ih2 h
      unfold wp_X0_entryAdded_2 at h
      have J31 : ∀ (y2 : Int32) (f : FT) (H : Heap) (locs : List Loc) (ls : Array Slot), wp_X0_entryAdded_31 a0 x1 y2 f K C2 → Fw G A f H → va_S A s.heap H locs → lv_has ls 3 [(0, .ref a0), (1, .int x1), (2, .int y2)] → W p l e ({ frames := 0, cells := 0, slots := 0, locals := 0 } : Room) s m ([.ref a0, .int x1] : List Value).toArray below meth c H locs 0 0 (MQ below (va_Qv (fun f9 => K f9 : FT → Prop) (FB G A) A) ([.ref a0, .int x1] : List Value).toArray s 0 0 A) (F0 m 31 ls []) := by
        intro y2 f H locs ls h hF hS hl
        unfold wp_X0_entryAdded_31 at h
        obtain ⟨v_1, e_2⟩ : ∃ y : Int32, y = y2 + 1 := ⟨_, rfl⟩
        have h := h v_1 e_2
        refine lv_iinc (v := v_1) (lv' := [(2, .int v_1), (0, .ref a0), (1, .int x1)]) hx hb dX0_entryAdded_31 hl (k := 2) rfl (by rw [e_2]; rfl) (by decide) rfl (fun ls hl => ?_)
        refine lv_goto (tgt := 2) hx hb dX0_entryAdded_34 (by decide) ?_
        exact ih2 v_1 f _ _ _ h hF hS (lv_sub hl [1, 2, 0] rfl)
      refine lv_iload_n hx hb dX0_entryAdded_2 rfl (lv_at hl 2 rfl) ?_
      refine lv_aload_n hx hb dX0_entryAdded_3 rfl (lv_at hl 0 rfl) ?_
      obtain ⟨fs_4, a_3, he_fs_4, hv_fs_4, h⟩ := h
      refine fw_get (C := RX0) (T := TX0) (N := 1) hx hb hts hin_X0 hown hK hF he_fs_4 rfl 0 (by decide) (hts (.fieldLink RX0 9 "FrontCodedIndex$Cursors" "places" "[I") (by decide +kernel)) (fun _ h9 => h9) hv_fs_4 dX0_entryAdded_4 ?_
      obtain ⟨t_q_6, q_6, he_q_6, ht_q_6, h⟩ := h
      refine fw_alen hx hb hK hF he_q_6 ht_q_6 dX0_entryAdded_7 ?_
      refine lv_topi (fun v_5 e_v_5 => ?_)
      have h := h v_5 e_v_5
      obtain ⟨h1, h2⟩ := h
      refine lv_icmp_ge (tgt := 37) hx hb dX0_entryAdded_8 (by decide) (fun c_7 => ?_) (fun c_7 => ?_)
      · have h := h1 c_7
        exact W.vret hx hb hr (fun t ht hW => ⟨⟨f, rfl, h, by rw [ht]; exact hF, FK.moved hW.alike hK⟩, hS.F ht⟩) hS.2.2 dX0_entryAdded_37
      · have h := h2 c_7
        refine lv_aload_n hx hb dX0_entryAdded_11 rfl (lv_at hl 0 rfl) ?_
        obtain ⟨fs_9, a_8, he_fs_9, hv_fs_9, h⟩ := h
        refine fw_get (C := RX0) (T := TX0) (N := 1) hx hb hts hin_X0 hown hK hF he_fs_9 rfl 0 (by decide) (hts (.fieldLink RX0 9 "FrontCodedIndex$Cursors" "places" "[I") (by decide +kernel)) (fun _ h9 => h9) hv_fs_9 dX0_entryAdded_12 ?_
        refine lv_iload_n hx hb dX0_entryAdded_15 rfl (lv_at hl 2 rfl) ?_
        obtain ⟨n_q_11, q_11, he_q_11, hi_q_11, h⟩ := h
        refine fw_iald hx hb hK hF he_q_11 hi_q_11 dX0_entryAdded_16 ?_
        refine lv_topi (fun v_10 e_v_10 => ?_)
        have h := h v_10 e_v_10
        refine lv_iload_n hx hb dX0_entryAdded_17 rfl (lv_at hl 1 rfl) ?_
        obtain ⟨h1, h2⟩ := h
        refine lv_icmp_lt (tgt := 31) hx hb dX0_entryAdded_18 (by decide) (fun c_12 => ?_) (fun c_12 => ?_)
        · have h := h1 c_12
          exact J31 y2 f _ _ _ h hF hS (lv_sub hl [0, 1, 2] rfl)
        · have h := h2 c_12
          refine lv_aload_n hx hb dX0_entryAdded_21 rfl (lv_at hl 0 rfl) ?_
          obtain ⟨fs_14, a_13, he_fs_14, hv_fs_14, h⟩ := h
          refine fw_get (C := RX0) (T := TX0) (N := 1) hx hb hts hin_X0 hown hK hF he_fs_14 rfl 0 (by decide) (hts (.fieldLink RX0 9 "FrontCodedIndex$Cursors" "places" "[I") (by decide +kernel)) (fun _ h9 => h9) hv_fs_14 dX0_entryAdded_22 ?_
          refine lv_iload_n hx hb dX0_entryAdded_25 rfl (lv_at hl 2 rfl) ?_
          refine lv_dup2_11 hx hb dX0_entryAdded_26 rfl rfl ?_
          obtain ⟨n_q_16, q_16, he_q_16, hi_q_16, h⟩ := h
          refine fw_iald hx hb hK hF he_q_16 hi_q_16 dX0_entryAdded_27 ?_
          refine lv_topi (fun v_15 e_v_15 => ?_)
          have h := h v_15 e_v_15
          refine lv_iconst (v := (1 : Int32)) hx hb dX0_entryAdded_28 (by decide) ?_
          refine lv_iadd hx hb dX0_entryAdded_29 ?_
          obtain ⟨n_q_17, q_17, he_q_17, hi_q_17, h⟩ := h
          refine fw_iast hx hb hK hF hS he_q_17 hi_q_17 dX0_entryAdded_30 (fun H locs hF hS => ?_)
          obtain ⟨f_18, hf_f_18⟩ : ∃ z, z = fup f a_13 (.inl (1, n_q_17, .inl (upd q_17 (y2).toNatClampNeg (v_15 + (1 : Int32))))) := ⟨_, rfl⟩
          rw [← hf_f_18] at hF; have h := h f_18 hf_f_18
          exact J31 y2 f_18 _ _ _ h hF hS (lv_sub hl [0, 1, 2] rfl)
  have hl := lv_entry ([.ref a0, .int x1]) (n := 3) (Nat.le_of_ble_eq_true rfl)
  rw [lg_entry_eq]
  generalize (lg_sl ([.ref a0, .int x1]) ++ List.replicate (3 - (lg_sl ([.ref a0, .int x1])).length) Slot.unset).toArray = ls at hl ⊢
  have hl : lv_has ls 3 [(0, .ref a0), (1, .int x1)] := hl
  unfold wp_X0_entryAdded at h
  refine lv_iconst (v := (0 : Int32)) hx hb dX0_entryAdded_0 (by decide) ?_
  refine lv_istore_n (lv' := [(2, .int (0 : Int32)), (0, .ref a0), (1, .int x1)]) hx hb dX0_entryAdded_1 rfl hl (by decide) rfl (fun ls hl => ?_)
  obtain ⟨n_19, h⟩ := h
  exact L2 n_19 (0 : Int32) f _ _ _ h hF hS (lv_sub hl [1, 2, 0] rfl)
theorem dX0_entryRemoved_0 : decode cX0_entryRemoved 0 = .ok (.iconst 0, 1) := by decide +kernel
theorem dX0_entryRemoved_1 : decode cX0_entryRemoved 1 = .ok (.istore_n 2, 1) := by decide +kernel
theorem dX0_entryRemoved_2 : decode cX0_entryRemoved 2 = .ok (.iload_n 2, 1) := by decide +kernel
theorem dX0_entryRemoved_3 : decode cX0_entryRemoved 3 = .ok (.aload_n 0, 1) := by decide +kernel
theorem dX0_entryRemoved_4 : decode cX0_entryRemoved 4 = .ok (.getfield 9, 3) := by decide +kernel
theorem dX0_entryRemoved_7 : decode cX0_entryRemoved 7 = .ok (.arraylength, 1) := by decide +kernel
theorem dX0_entryRemoved_8 : decode cX0_entryRemoved 8 = .ok (.if_icmp .ge 29, 3) := by decide +kernel
theorem dX0_entryRemoved_11 : decode cX0_entryRemoved 11 = .ok (.aload_n 0, 1) := by decide +kernel
theorem dX0_entryRemoved_12 : decode cX0_entryRemoved 12 = .ok (.getfield 9, 3) := by decide +kernel
theorem dX0_entryRemoved_15 : decode cX0_entryRemoved 15 = .ok (.iload_n 2, 1) := by decide +kernel
theorem dX0_entryRemoved_16 : decode cX0_entryRemoved 16 = .ok (.iaload, 1) := by decide +kernel
theorem dX0_entryRemoved_17 : decode cX0_entryRemoved 17 = .ok (.iload_n 1, 1) := by decide +kernel
theorem dX0_entryRemoved_18 : decode cX0_entryRemoved 18 = .ok (.if_icmp .le 13, 3) := by decide +kernel
theorem dX0_entryRemoved_21 : decode cX0_entryRemoved 21 = .ok (.aload_n 0, 1) := by decide +kernel
theorem dX0_entryRemoved_22 : decode cX0_entryRemoved 22 = .ok (.getfield 9, 3) := by decide +kernel
theorem dX0_entryRemoved_25 : decode cX0_entryRemoved 25 = .ok (.iload_n 2, 1) := by decide +kernel
theorem dX0_entryRemoved_26 : decode cX0_entryRemoved 26 = .ok (.dup2, 1) := by decide +kernel
theorem dX0_entryRemoved_27 : decode cX0_entryRemoved 27 = .ok (.iaload, 1) := by decide +kernel
theorem dX0_entryRemoved_28 : decode cX0_entryRemoved 28 = .ok (.iconst 1, 1) := by decide +kernel
theorem dX0_entryRemoved_29 : decode cX0_entryRemoved 29 = .ok (.isub, 1) := by decide +kernel
theorem dX0_entryRemoved_30 : decode cX0_entryRemoved 30 = .ok (.iastore, 1) := by decide +kernel
theorem dX0_entryRemoved_31 : decode cX0_entryRemoved 31 = .ok (.iinc 2 1, 3) := by decide +kernel
theorem dX0_entryRemoved_34 : decode cX0_entryRemoved 34 = .ok (.goto (-32), 3) := by decide +kernel
theorem dX0_entryRemoved_37 : decode cX0_entryRemoved 37 = .ok (.return_, 1) := by decide +kernel
def wp_X0_entryRemoved_31 (a0 : Nat) (x1 : Int32) (y2 : Int32) (f : FT) (K : FT → Prop) (C2 : Int32 × FT → Prop) : Prop :=
  ∀ v_1 : Int32, v_1 = y2 + 1 → C2 (v_1, f)
def wp_X0_entryRemoved_2 (a0 : Nat) (x1 : Int32) (K : FT → Prop)  (C2 : Int32 × FT → Prop) : Int32 × FT → Prop := fun s9 => match s9 with
  | (y2, f) => gA f a0 3 0 fun a_3 => aL f a_3 fun v_5 => ((v_5 ≤ y2 → K f) ∧
 (¬ (v_5 ≤ y2) → gA f a0 3 0 fun a_8 => aI f a_8 1 y2 fun v_10 => ((v_10 ≤ x1 → wp_X0_entryRemoved_31 a0 x1 y2 f K C2) ∧
 (¬ (v_10 ≤ x1) → gA f a0 3 0 fun a_13 => aI f a_13 1 y2 fun v_15 => sI f a_13 y2 (v_15 - (1 : Int32)) fun f_18 => wp_X0_entryRemoved_31 a0 x1 y2 f_18 K C2))))
def wp_X0_entryRemoved (a0 : Nat) (x1 : Int32) (f : FT) (K : FT → Prop) : Prop :=
  ∃ n_19, loopW (wp_X0_entryRemoved_2 a0 x1 K) n_19 ((0 : Int32), f)
set_option maxHeartbeats 4000000 in
set_option maxRecDepth 100000 in
theorem cc_X0_entryRemoved (l : Launch) (G : GG) {f : FT} {sz : Nat} {a0 : Nat} {x1 : Int32} {K : FT → Prop} (h : wp_X0_entryRemoved a0 x1 f K) : Met l yX0_entryRemoved wsX0_entryRemoved ({ frames := 0, cells := 0, slots := 0, locals := 0 } : Room) (FP G [.ref a0, .int x1] f sz) (va_Qv (fun f9 => K f9 : FT → Prop) (FB G (fA f sz)) (fA f sz)) 0 0 (fA f sz) := by
  refine Met.ofW (cc := cX0_entryRemoved) (maxL := 3) (ret := none) (by decide) rfl ?_
  intro p e s m args below meth c s₁ B hml hv
  obtain ⟨rfl, hsz, hF, hK, hZ⟩ := hv
  have hx := B.exec
  have hb := B.bytes
  have hr := B.returns
  have hts := atoms_spec (ws := wsX0_entryRemoved) B.pre
  have hown : s.vm.findClass RX0 = some m.cls := findClass_of_methodNamed B.named
  have hlocks := B.notSynchronized
  subst hsz
  have hF := hF.self (sz := s.heap.size)
  generalize hAe : fA f s.heap.size = A at hF hZ ⊢
  have hA : ∀ q : Nat, s.heap.size ≤ q → A q := fun q h => by rw [← hAe]; exact Or.inr h
  have hS : va_S A s.heap s.heap [] := va_S.rf
  have hin_X0 : ∀ w ∈ wsX00, w ∈ wsX0_entryRemoved := by decide +kernel
  have L2 : ∀  (j9 : Nat) (y2 : Int32) (f : FT) (H : Heap) (locs : List Loc) (ls : Array Slot), loopW (wp_X0_entryRemoved_2 a0 x1 K ) j9 (y2, f) → Fw G A f H → va_S A s.heap H locs → lv_has ls 3 [(0, .ref a0), (1, .int x1), (2, .int y2)] → W p l e ({ frames := 0, cells := 0, slots := 0, locals := 0 } : Room) s m ([.ref a0, .int x1] : List Value).toArray below meth c H locs 0 0 (MQ below (va_Qv (fun f9 => K f9 : FT → Prop) (FB G A) A) ([.ref a0, .int x1] : List Value).toArray s 0 0 A) (F0 m 2 ls []) := by
    intro  j9
    induction j9 with
    | zero => intro y2 f H locs ls h; exact h.elim
    | succ j9 ih2 =>
      intro y2 f H locs ls h hF hS hl
      have h : wp_X0_entryRemoved_2 a0 x1 K  (loopW (wp_X0_entryRemoved_2 a0 x1 K ) j9) (y2, f) := h
      generalize loopW (wp_X0_entryRemoved_2 a0 x1 K ) j9 = C2 at ih2 h
      unfold wp_X0_entryRemoved_2 at h
      have J31 : ∀ (y2 : Int32) (f : FT) (H : Heap) (locs : List Loc) (ls : Array Slot), wp_X0_entryRemoved_31 a0 x1 y2 f K C2 → Fw G A f H → va_S A s.heap H locs → lv_has ls 3 [(0, .ref a0), (1, .int x1), (2, .int y2)] → W p l e ({ frames := 0, cells := 0, slots := 0, locals := 0 } : Room) s m ([.ref a0, .int x1] : List Value).toArray below meth c H locs 0 0 (MQ below (va_Qv (fun f9 => K f9 : FT → Prop) (FB G A) A) ([.ref a0, .int x1] : List Value).toArray s 0 0 A) (F0 m 31 ls []) := by
        intro y2 f H locs ls h hF hS hl
        unfold wp_X0_entryRemoved_31 at h
        obtain ⟨v_1, e_2⟩ : ∃ y : Int32, y = y2 + 1 := ⟨_, rfl⟩
        have h := h v_1 e_2
        refine lv_iinc (v := v_1) (lv' := [(2, .int v_1), (0, .ref a0), (1, .int x1)]) hx hb dX0_entryRemoved_31 hl (k := 2) rfl (by rw [e_2]; rfl) (by decide) rfl (fun ls hl => ?_)
        refine lv_goto (tgt := 2) hx hb dX0_entryRemoved_34 (by decide) ?_
        exact ih2 v_1 f _ _ _ h hF hS (lv_sub hl [1, 2, 0] rfl)
      refine lv_iload_n hx hb dX0_entryRemoved_2 rfl (lv_at hl 2 rfl) ?_
      refine lv_aload_n hx hb dX0_entryRemoved_3 rfl (lv_at hl 0 rfl) ?_
      obtain ⟨fs_4, a_3, he_fs_4, hv_fs_4, h⟩ := h
      refine fw_get (C := RX0) (T := TX0) (N := 1) hx hb hts hin_X0 hown hK hF he_fs_4 rfl 0 (by decide) (hts (.fieldLink RX0 9 "FrontCodedIndex$Cursors" "places" "[I") (by decide +kernel)) (fun _ h9 => h9) hv_fs_4 dX0_entryRemoved_4 ?_
      obtain ⟨t_q_6, q_6, he_q_6, ht_q_6, h⟩ := h
      refine fw_alen hx hb hK hF he_q_6 ht_q_6 dX0_entryRemoved_7 ?_
      refine lv_topi (fun v_5 e_v_5 => ?_)
      have h := h v_5 e_v_5
      obtain ⟨h1, h2⟩ := h
      refine lv_icmp_ge (tgt := 37) hx hb dX0_entryRemoved_8 (by decide) (fun c_7 => ?_) (fun c_7 => ?_)
      · have h := h1 c_7
        exact W.vret hx hb hr (fun t ht hW => ⟨⟨f, rfl, h, by rw [ht]; exact hF, FK.moved hW.alike hK⟩, hS.F ht⟩) hS.2.2 dX0_entryRemoved_37
      · have h := h2 c_7
        refine lv_aload_n hx hb dX0_entryRemoved_11 rfl (lv_at hl 0 rfl) ?_
        obtain ⟨fs_9, a_8, he_fs_9, hv_fs_9, h⟩ := h
        refine fw_get (C := RX0) (T := TX0) (N := 1) hx hb hts hin_X0 hown hK hF he_fs_9 rfl 0 (by decide) (hts (.fieldLink RX0 9 "FrontCodedIndex$Cursors" "places" "[I") (by decide +kernel)) (fun _ h9 => h9) hv_fs_9 dX0_entryRemoved_12 ?_
        refine lv_iload_n hx hb dX0_entryRemoved_15 rfl (lv_at hl 2 rfl) ?_
        obtain ⟨n_q_11, q_11, he_q_11, hi_q_11, h⟩ := h
        refine fw_iald hx hb hK hF he_q_11 hi_q_11 dX0_entryRemoved_16 ?_
        refine lv_topi (fun v_10 e_v_10 => ?_)
        have h := h v_10 e_v_10
        refine lv_iload_n hx hb dX0_entryRemoved_17 rfl (lv_at hl 1 rfl) ?_
        obtain ⟨h1, h2⟩ := h
        refine lv_icmp_le (tgt := 31) hx hb dX0_entryRemoved_18 (by decide) (fun c_12 => ?_) (fun c_12 => ?_)
        · have h := h1 c_12
          exact J31 y2 f _ _ _ h hF hS (lv_sub hl [0, 1, 2] rfl)
        · have h := h2 c_12
          refine lv_aload_n hx hb dX0_entryRemoved_21 rfl (lv_at hl 0 rfl) ?_
          obtain ⟨fs_14, a_13, he_fs_14, hv_fs_14, h⟩ := h
          refine fw_get (C := RX0) (T := TX0) (N := 1) hx hb hts hin_X0 hown hK hF he_fs_14 rfl 0 (by decide) (hts (.fieldLink RX0 9 "FrontCodedIndex$Cursors" "places" "[I") (by decide +kernel)) (fun _ h9 => h9) hv_fs_14 dX0_entryRemoved_22 ?_
          refine lv_iload_n hx hb dX0_entryRemoved_25 rfl (lv_at hl 2 rfl) ?_
          refine lv_dup2_11 hx hb dX0_entryRemoved_26 rfl rfl ?_
          obtain ⟨n_q_16, q_16, he_q_16, hi_q_16, h⟩ := h
          refine fw_iald hx hb hK hF he_q_16 hi_q_16 dX0_entryRemoved_27 ?_
          refine lv_topi (fun v_15 e_v_15 => ?_)
          have h := h v_15 e_v_15
          refine lv_iconst (v := (1 : Int32)) hx hb dX0_entryRemoved_28 (by decide) ?_
          refine lv_isub hx hb dX0_entryRemoved_29 ?_
          obtain ⟨n_q_17, q_17, he_q_17, hi_q_17, h⟩ := h
          refine fw_iast hx hb hK hF hS he_q_17 hi_q_17 dX0_entryRemoved_30 (fun H locs hF hS => ?_)
          obtain ⟨f_18, hf_f_18⟩ : ∃ z, z = fup f a_13 (.inl (1, n_q_17, .inl (upd q_17 (y2).toNatClampNeg (v_15 - (1 : Int32))))) := ⟨_, rfl⟩
          rw [← hf_f_18] at hF; have h := h f_18 hf_f_18
          exact J31 y2 f_18 _ _ _ h hF hS (lv_sub hl [0, 1, 2] rfl)
  have hl := lv_entry ([.ref a0, .int x1]) (n := 3) (Nat.le_of_ble_eq_true rfl)
  rw [lg_entry_eq]
  generalize (lg_sl ([.ref a0, .int x1]) ++ List.replicate (3 - (lg_sl ([.ref a0, .int x1])).length) Slot.unset).toArray = ls at hl ⊢
  have hl : lv_has ls 3 [(0, .ref a0), (1, .int x1)] := hl
  unfold wp_X0_entryRemoved at h
  refine lv_iconst (v := (0 : Int32)) hx hb dX0_entryRemoved_0 (by decide) ?_
  refine lv_istore_n (lv' := [(2, .int (0 : Int32)), (0, .ref a0), (1, .int x1)]) hx hb dX0_entryRemoved_1 rfl hl (by decide) rfl (fun ls hl => ?_)
  obtain ⟨n_19, h⟩ := h
  exact L2 n_19 (0 : Int32) f _ _ _ h hF hS (lv_sub hl [1, 2, 0] rfl)
theorem dX0_init_0 : decode cX0_init 0 = .ok (.aload_n 0, 1) := by decide +kernel
theorem dX0_init_1 : decode cX0_init 1 = .ok (.invokespecial 3, 3) := by decide +kernel
theorem dX0_init_4 : decode cX0_init 4 = .ok (.aload_n 0, 1) := by decide +kernel
theorem dX0_init_5 : decode cX0_init 5 = .ok (.iconst 4, 1) := by decide +kernel
theorem dX0_init_6 : decode cX0_init 6 = .ok (.newarray .int, 2) := by decide +kernel
theorem dX0_init_8 : decode cX0_init 8 = .ok (.putfield 9, 3) := by decide +kernel
theorem dX0_init_11 : decode cX0_init 11 = .ok (.aload_n 0, 1) := by decide +kernel
theorem dX0_init_12 : decode cX0_init 12 = .ok (.getfield 9, 3) := by decide +kernel
theorem dX0_init_15 : decode cX0_init 15 = .ok (.iconst (-1), 1) := by decide +kernel
theorem dX0_init_16 : decode cX0_init 16 = .ok (.invokestatic 15, 3) := by decide +kernel
theorem dX0_init_19 : decode cX0_init 19 = .ok (.return_, 1) := by decide +kernel
set_option maxRecDepth 20000 in
theorem ggX0_init_J7_fill_53178 : GoodIn wsX0_init wsJ7_fill_53178 := goodIn_r _ [9] (by decide +kernel) (by decide +kernel)
def wp_X0_init (a0 : Nat) (f : FT) (mc ms : Nat) (K : FT → Prop) : Prop :=
  nA f 1 (4 : Int32) mc ms fun n_3 q_1 f_2 => pV f_2 a0 3 0 (.ref q_1) fun f_7 => gA f_7 a0 3 0 fun a_8 => wp_J7_fill_53178 a_8 (-1 : Int32) f_7 (fun f_11 => K f_11)
set_option maxHeartbeats 4000000 in
set_option maxRecDepth 100000 in
theorem cc_X0_init (l : Launch) (G : GG) {f : FT} {sz : Nat} {a0 : Nat} {mc ms : Nat} {K : FT → Prop} (h : wp_X0_init a0 f mc ms K) : Met l yX0_init wsX0_init ({ frames := 1, cells := mc, slots := ms, locals := 23 } : Room) (FP G [.ref a0] f sz) (va_Qv (fun f9 => K f9 : FT → Prop) (FB G (fA f sz)) (fA f sz)) mc ms (fA f sz) := by
  refine Met.ofW (cc := cX0_init) (maxL := 1) (ret := none) (by decide) rfl ?_
  intro p e s m args below meth c s₁ B hml hv
  obtain ⟨rfl, hsz, hF, hK, hZ⟩ := hv
  have hx := B.exec
  have hb := B.bytes
  have hr := B.returns
  have hts := atoms_spec (ws := wsX0_init) B.pre
  have hown : s.vm.findClass RX0 = some m.cls := findClass_of_methodNamed B.named
  have hlocks := B.notSynchronized
  have hin : meth.name = "<init>" := (name_of_methodNamed B.named B.method).1
  subst hsz
  have hF := hF.self (sz := s.heap.size)
  generalize hAe : fA f s.heap.size = A at hF hZ ⊢
  have hA : ∀ q : Nat, s.heap.size ≤ q → A q := fun q h => by rw [← hAe]; exact Or.inr h
  have hS : va_S A s.heap s.heap [] := va_S.rf
  have hin_X0 : ∀ w ∈ wsX00, w ∈ wsX0_init := by decide +kernel
  have hbc : 0 + mc ≤ mc := by omega
  have hbs : 0 + ms ≤ ms := by omega
  have hl := lv_entry ([.ref a0]) (n := 1) (Nat.le_of_ble_eq_true rfl)
  rw [lg_entry_eq]
  generalize (lg_sl ([.ref a0]) ++ List.replicate (1 - (lg_sl ([.ref a0])).length) Slot.unset).toArray = ls at hl ⊢
  have hl : lv_has ls 1 [(0, .ref a0)] := hl
  unfold wp_X0_init at h
  refine lv_aload_n hx hb dX0_init_0 rfl (lv_at hl 0 rfl) ?_
  refine W.objInit hx hb hown (hts (.methodLink RX0 3 objectInit) (by decide +kernel)) (hts (.instanceMethod objectInit) (by decide +kernel)) (hts (.code objectInit ⟨#[0xb1]⟩ 1 none) (by decide +kernel)) rfl (by rw [hml]; exact hl.1) rfl dX0_init_1 (Nat.le_of_ble_eq_true rfl) (Nat.le_of_ble_eq_true rfl) ?_
  refine W.eq (g2 := F0 m 4 ls []) rfl ?_
  refine lv_aload_n hx hb dX0_init_4 rfl (lv_at hl 0 rfl) ?_
  refine lv_iconst (v := (4 : Int32)) hx hb dX0_init_5 (by decide) ?_
  obtain ⟨hb0, n_3, hN, hb1, hb2, hb3, h⟩ := h
  refine fw_newa (atype := .int) (a0 := (n_3, .inl fun _ => 0)) hx hb (hts (.arrayClass .int) (by decide +kernel)) (ty := .int) rfl 1 rfl va_RA_int hK hF hS hA (fun cA => rfl) hb0 hN (by show _ * 4 ≤ _; omega) (by show _ ≤ mc; omega) (by show _ ≤ ms; omega) dX0_init_6 (fun q_1 H hn_q_1 hF hS => ?_)
  obtain ⟨f_2, hf_f_2⟩ : ∃ z, z = fup f q_1 (.inl (1, (n_3, .inl fun _ => 0))) := ⟨_, rfl⟩
  rw [← hf_f_2] at hF; have h := h q_1 hn_q_1 f_2 hf_f_2
  obtain ⟨cs_4, hcs⟩ : ∃ z, z = (0 + 1) := ⟨_, rfl⟩; obtain ⟨sl_5, hsl⟩ : ∃ z, z = (0 + n_3) := ⟨_, rfl⟩
  have hbc : cs_4 + (mc - 1) ≤ mc := by omega
  have hbs : sl_5 + (ms - n_3) ≤ ms := by omega
  refine W.widen (k := cs_4) (n := sl_5) (by omega) (by omega) ?_
  clear hcs hsl
  obtain ⟨fs_6, he_fs_6, hl_fs_6, h⟩ := h
  refine fw_putF (v := .ref q_1) (ty := (.array .int)) (C := RX0) (T := TX0) (N := 1) hx hb hts hin_X0 tyX0 (tyX0_ok) nmX0 hown hK hF hS he_fs_6 rfl 0 (by decide) (hts (.fieldLink RX0 9 "FrontCodedIndex$Cursors" "places" "[I") (by decide +kernel)) (fun _ h9 => h9) rfl hin rfl (by decide +kernel) rfl rfl hl_fs_6 dX0_init_8 (fun H locs hF hS => ?_)
  obtain ⟨f_7, hf_f_7⟩ : ∃ z, z = fup f_2 a0 (.inr (3, fs_6.set 0 (.ref q_1))) := ⟨_, rfl⟩
  rw [← hf_f_7] at hF; have h := h f_7 hf_f_7
  refine lv_aload_n hx hb dX0_init_11 rfl (lv_at hl 0 rfl) ?_
  obtain ⟨fs_9, a_8, he_fs_9, hv_fs_9, h⟩ := h
  refine fw_get (C := RX0) (T := TX0) (N := 1) hx hb hts hin_X0 hown hK hF he_fs_9 rfl 0 (by decide) (hts (.fieldLink RX0 9 "FrontCodedIndex$Cursors" "places" "[I") (by decide +kernel)) (fun _ h9 => h9) hv_fs_9 dX0_init_12 ?_
  refine lv_iconst (v := (-1 : Int32)) hx hb dX0_init_15 (by decide) ?_
  refine fw_cS_v (As := [.ref a_8, .int (-1 : Int32)]) (rest := []) ⟨hx, hb, hml, hown, hts⟩ (cc_J7_fill_53178 l G h) (⟨callB_of 2 hts ggX0_init_J7_fill_53178 rfl rfl rfl (hts (.initialized RJ7) (by decide +kernel)) (hts (.methodLink RX0 15 yJ7_fill_53178) (by decide +kernel)) (by decide +kernel) ⟨Nat.le_of_ble_eq_true rfl, Nat.le_of_ble_eq_true rfl⟩, hts (.static yJ7_fill_53178) (by decide +kernel)⟩) hK hZ hF hS hA rfl hl.1 rfl (Nat.le_of_ble_eq_true rfl) dX0_init_16 ⟨by show _ ≤ mc; omega, by show _ ≤ ms; omega⟩ (fun f_11 H locs h hF hS => ?_)
  simp only [Nat.add_zero]
  refine W.widen (k := mc) (n := ms) (by omega) (by omega) ?_
  exact W.vret hx hb hr (fun t ht hW => ⟨⟨f_11, rfl, h, by rw [ht]; exact hF, FK.moved hW.alike hK⟩, hS.F ht⟩) hS.2.2 dX0_init_19
theorem dX0_place_0 : decode cX0_place 0 = .ok (.iload_n 1, 1) := by decide +kernel
theorem dX0_place_1 : decode cX0_place 1 = .ok (.ifCond .lt 19, 3) := by decide +kernel
theorem dX0_place_4 : decode cX0_place 4 = .ok (.iload_n 1, 1) := by decide +kernel
theorem dX0_place_5 : decode cX0_place 5 = .ok (.aload_n 0, 1) := by decide +kernel
theorem dX0_place_6 : decode cX0_place 6 = .ok (.getfield 9, 3) := by decide +kernel
theorem dX0_place_9 : decode cX0_place 9 = .ok (.arraylength, 1) := by decide +kernel
theorem dX0_place_10 : decode cX0_place 10 = .ok (.if_icmp .ge 10, 3) := by decide +kernel
theorem dX0_place_13 : decode cX0_place 13 = .ok (.aload_n 0, 1) := by decide +kernel
theorem dX0_place_14 : decode cX0_place 14 = .ok (.getfield 9, 3) := by decide +kernel
theorem dX0_place_17 : decode cX0_place 17 = .ok (.iload_n 1, 1) := by decide +kernel
theorem dX0_place_18 : decode cX0_place 18 = .ok (.iload_n 2, 1) := by decide +kernel
theorem dX0_place_19 : decode cX0_place 19 = .ok (.iastore, 1) := by decide +kernel
theorem dX0_place_20 : decode cX0_place 20 = .ok (.return_, 1) := by decide +kernel
def wp_X0_place (a0 : Nat) (x1 : Int32) (x2 : Int32) (f : FT) (K : FT → Prop) : Prop :=
  ((x1 < (0 : Int32) → K f) ∧
 (¬ (x1 < (0 : Int32)) → gA f a0 3 0 fun a_2 => aL f a_2 fun v_4 => ((v_4 ≤ x1 → K f) ∧
 (¬ (v_4 ≤ x1) → gA f a0 3 0 fun a_7 => sI f a_7 x1 x2 fun f_10 => K f_10))))
set_option maxHeartbeats 4000000 in
set_option maxRecDepth 100000 in
theorem cc_X0_place (l : Launch) (G : GG) {f : FT} {sz : Nat} {a0 : Nat} {x1 : Int32} {x2 : Int32} {K : FT → Prop} (h : wp_X0_place a0 x1 x2 f K) : Met l yX0_place wsX0_place ({ frames := 0, cells := 0, slots := 0, locals := 0 } : Room) (FP G [.ref a0, .int x1, .int x2] f sz) (va_Qv (fun f9 => K f9 : FT → Prop) (FB G (fA f sz)) (fA f sz)) 0 0 (fA f sz) := by
  refine Met.ofW (cc := cX0_place) (maxL := 3) (ret := none) (by decide) rfl ?_
  intro p e s m args below meth c s₁ B hml hv
  obtain ⟨rfl, hsz, hF, hK, hZ⟩ := hv
  have hx := B.exec
  have hb := B.bytes
  have hr := B.returns
  have hts := atoms_spec (ws := wsX0_place) B.pre
  have hown : s.vm.findClass RX0 = some m.cls := findClass_of_methodNamed B.named
  have hlocks := B.notSynchronized
  subst hsz
  have hF := hF.self (sz := s.heap.size)
  generalize hAe : fA f s.heap.size = A at hF hZ ⊢
  have hA : ∀ q : Nat, s.heap.size ≤ q → A q := fun q h => by rw [← hAe]; exact Or.inr h
  have hS : va_S A s.heap s.heap [] := va_S.rf
  have hin_X0 : ∀ w ∈ wsX00, w ∈ wsX0_place := by decide +kernel
  have hl := lv_entry ([.ref a0, .int x1, .int x2]) (n := 3) (Nat.le_of_ble_eq_true rfl)
  rw [lg_entry_eq]
  generalize (lg_sl ([.ref a0, .int x1, .int x2]) ++ List.replicate (3 - (lg_sl ([.ref a0, .int x1, .int x2])).length) Slot.unset).toArray = ls at hl ⊢
  have hl : lv_has ls 3 [(0, .ref a0), (1, .int x1), (2, .int x2)] := hl
  unfold wp_X0_place at h
  refine lv_iload_n hx hb dX0_place_0 rfl (lv_at hl 1 rfl) ?_
  obtain ⟨h1, h2⟩ := h
  refine lv_if_lt (tgt := 20) hx hb dX0_place_1 (by decide) (fun c_1 => ?_) (fun c_1 => ?_)
  · have h := h1 c_1
    exact W.vret hx hb hr (fun t ht hW => ⟨⟨f, rfl, h, by rw [ht]; exact hF, FK.moved hW.alike hK⟩, hS.F ht⟩) hS.2.2 dX0_place_20
  · have h := h2 c_1
    refine lv_iload_n hx hb dX0_place_4 rfl (lv_at hl 1 rfl) ?_
    refine lv_aload_n hx hb dX0_place_5 rfl (lv_at hl 0 rfl) ?_
    obtain ⟨fs_3, a_2, he_fs_3, hv_fs_3, h⟩ := h
    refine fw_get (C := RX0) (T := TX0) (N := 1) hx hb hts hin_X0 hown hK hF he_fs_3 rfl 0 (by decide) (hts (.fieldLink RX0 9 "FrontCodedIndex$Cursors" "places" "[I") (by decide +kernel)) (fun _ h9 => h9) hv_fs_3 dX0_place_6 ?_
    obtain ⟨t_q_5, q_5, he_q_5, ht_q_5, h⟩ := h
    refine fw_alen hx hb hK hF he_q_5 ht_q_5 dX0_place_9 ?_
    refine lv_topi (fun v_4 e_v_4 => ?_)
    have h := h v_4 e_v_4
    obtain ⟨h1, h2⟩ := h
    refine lv_icmp_ge (tgt := 20) hx hb dX0_place_10 (by decide) (fun c_6 => ?_) (fun c_6 => ?_)
    · have h := h1 c_6
      exact W.vret hx hb hr (fun t ht hW => ⟨⟨f, rfl, h, by rw [ht]; exact hF, FK.moved hW.alike hK⟩, hS.F ht⟩) hS.2.2 dX0_place_20
    · have h := h2 c_6
      refine lv_aload_n hx hb dX0_place_13 rfl (lv_at hl 0 rfl) ?_
      obtain ⟨fs_8, a_7, he_fs_8, hv_fs_8, h⟩ := h
      refine fw_get (C := RX0) (T := TX0) (N := 1) hx hb hts hin_X0 hown hK hF he_fs_8 rfl 0 (by decide) (hts (.fieldLink RX0 9 "FrontCodedIndex$Cursors" "places" "[I") (by decide +kernel)) (fun _ h9 => h9) hv_fs_8 dX0_place_14 ?_
      refine lv_iload_n hx hb dX0_place_17 rfl (lv_at hl 1 rfl) ?_
      refine lv_iload_n hx hb dX0_place_18 rfl (lv_at hl 2 rfl) ?_
      obtain ⟨n_q_9, q_9, he_q_9, hi_q_9, h⟩ := h
      refine fw_iast hx hb hK hF hS he_q_9 hi_q_9 dX0_place_19 (fun H locs hF hS => ?_)
      obtain ⟨f_10, hf_f_10⟩ : ∃ z, z = fup f a_7 (.inl (1, n_q_9, .inl (upd q_9 (x1).toNatClampNeg x2))) := ⟨_, rfl⟩
      rw [← hf_f_10] at hF; have h := h f_10 hf_f_10
      exact W.vret hx hb hr (fun t ht hW => ⟨⟨f_10, rfl, h, by rw [ht]; exact hF, FK.moved hW.alike hK⟩, hS.F ht⟩) hS.2.2 dX0_place_20
theorem dX0_placeOf_0 : decode cX0_placeOf 0 = .ok (.iload_n 1, 1) := by decide +kernel
theorem dX0_placeOf_1 : decode cX0_placeOf 1 = .ok (.ifCond .lt 21, 3) := by decide +kernel
theorem dX0_placeOf_4 : decode cX0_placeOf 4 = .ok (.iload_n 1, 1) := by decide +kernel
theorem dX0_placeOf_5 : decode cX0_placeOf 5 = .ok (.aload_n 0, 1) := by decide +kernel
theorem dX0_placeOf_6 : decode cX0_placeOf 6 = .ok (.getfield 9, 3) := by decide +kernel
theorem dX0_placeOf_9 : decode cX0_placeOf 9 = .ok (.arraylength, 1) := by decide +kernel
theorem dX0_placeOf_10 : decode cX0_placeOf 10 = .ok (.if_icmp .ge 12, 3) := by decide +kernel
theorem dX0_placeOf_13 : decode cX0_placeOf 13 = .ok (.aload_n 0, 1) := by decide +kernel
theorem dX0_placeOf_14 : decode cX0_placeOf 14 = .ok (.getfield 9, 3) := by decide +kernel
theorem dX0_placeOf_17 : decode cX0_placeOf 17 = .ok (.iload_n 1, 1) := by decide +kernel
theorem dX0_placeOf_18 : decode cX0_placeOf 18 = .ok (.iaload, 1) := by decide +kernel
theorem dX0_placeOf_19 : decode cX0_placeOf 19 = .ok (.goto 4, 3) := by decide +kernel
theorem dX0_placeOf_22 : decode cX0_placeOf 22 = .ok (.iconst (-1), 1) := by decide +kernel
theorem dX0_placeOf_23 : decode cX0_placeOf 23 = .ok (.ireturn, 1) := by decide +kernel
def wp_X0_placeOf (a0 : Nat) (x1 : Int32) (f : FT) (K : Int32 → Prop) : Prop :=
  ((x1 < (0 : Int32) → K (-1 : Int32)) ∧
 (¬ (x1 < (0 : Int32)) → gA f a0 3 0 fun a_2 => aL f a_2 fun v_4 => ((v_4 ≤ x1 → K (-1 : Int32)) ∧
 (¬ (v_4 ≤ x1) → gA f a0 3 0 fun a_7 => aI f a_7 1 x1 fun v_9 => K v_9))))
set_option maxHeartbeats 4000000 in
set_option maxRecDepth 100000 in
theorem cc_X0_placeOf (l : Launch) (G : GG) {f : FT} {sz : Nat} {a0 : Nat} {x1 : Int32} {K : Int32 → Prop} (h : wp_X0_placeOf a0 x1 f K) : Met l yX0_placeOf wsX0_placeOf ({ frames := 0, cells := 0, slots := 0, locals := 0 } : Room) (FP G [.ref a0, .int x1] f sz) (va_Qi (fun r f9 => K r ∧ f9 = f : Int32 → FT → Prop) (FB G (fA f sz)) (fA f sz)) 0 0 (fA f sz) := by
  refine Met.ofW (cc := cX0_placeOf) (maxL := 2) (ret := (some .int)) (by decide) rfl ?_
  intro p e s m args below meth c s₁ B hml hv
  obtain ⟨rfl, hsz, hF, hK, hZ⟩ := hv
  have hx := B.exec
  have hb := B.bytes
  have hr := B.returns
  have hts := atoms_spec (ws := wsX0_placeOf) B.pre
  have hown : s.vm.findClass RX0 = some m.cls := findClass_of_methodNamed B.named
  have hlocks := B.notSynchronized
  subst hsz
  have hF := hF.self (sz := s.heap.size)
  generalize hAe : fA f s.heap.size = A at hF hZ ⊢
  have hA : ∀ q : Nat, s.heap.size ≤ q → A q := fun q h => by rw [← hAe]; exact Or.inr h
  have hS : va_S A s.heap s.heap [] := va_S.rf
  have hin_X0 : ∀ w ∈ wsX00, w ∈ wsX0_placeOf := by decide +kernel
  have hl := lv_entry ([.ref a0, .int x1]) (n := 2) (Nat.le_of_ble_eq_true rfl)
  rw [lg_entry_eq]
  generalize (lg_sl ([.ref a0, .int x1]) ++ List.replicate (2 - (lg_sl ([.ref a0, .int x1])).length) Slot.unset).toArray = ls at hl ⊢
  have hl : lv_has ls 2 [(0, .ref a0), (1, .int x1)] := hl
  unfold wp_X0_placeOf at h
  refine lv_iload_n hx hb dX0_placeOf_0 rfl (lv_at hl 1 rfl) ?_
  obtain ⟨h1, h2⟩ := h
  refine lv_if_lt (tgt := 22) hx hb dX0_placeOf_1 (by decide) (fun c_1 => ?_) (fun c_1 => ?_)
  · have h := h1 c_1
    refine lv_iconst (v := (-1 : Int32)) hx hb dX0_placeOf_22 (by decide) ?_
    exact W.iret (v := (-1 : Int32)) hx hb hr (fun t ht hW => ⟨⟨(-1 : Int32), f, rfl, ⟨h, rfl⟩, by rw [ht]; exact hF, FK.moved hW.alike hK⟩, hS.F ht⟩) hS.2.2 dX0_placeOf_23
  · have h := h2 c_1
    refine lv_iload_n hx hb dX0_placeOf_4 rfl (lv_at hl 1 rfl) ?_
    refine lv_aload_n hx hb dX0_placeOf_5 rfl (lv_at hl 0 rfl) ?_
    obtain ⟨fs_3, a_2, he_fs_3, hv_fs_3, h⟩ := h
    refine fw_get (C := RX0) (T := TX0) (N := 1) hx hb hts hin_X0 hown hK hF he_fs_3 rfl 0 (by decide) (hts (.fieldLink RX0 9 "FrontCodedIndex$Cursors" "places" "[I") (by decide +kernel)) (fun _ h9 => h9) hv_fs_3 dX0_placeOf_6 ?_
    obtain ⟨t_q_5, q_5, he_q_5, ht_q_5, h⟩ := h
    refine fw_alen hx hb hK hF he_q_5 ht_q_5 dX0_placeOf_9 ?_
    refine lv_topi (fun v_4 e_v_4 => ?_)
    have h := h v_4 e_v_4
    obtain ⟨h1, h2⟩ := h
    refine lv_icmp_ge (tgt := 22) hx hb dX0_placeOf_10 (by decide) (fun c_6 => ?_) (fun c_6 => ?_)
    · have h := h1 c_6
      refine lv_iconst (v := (-1 : Int32)) hx hb dX0_placeOf_22 (by decide) ?_
      exact W.iret (v := (-1 : Int32)) hx hb hr (fun t ht hW => ⟨⟨(-1 : Int32), f, rfl, ⟨h, rfl⟩, by rw [ht]; exact hF, FK.moved hW.alike hK⟩, hS.F ht⟩) hS.2.2 dX0_placeOf_23
    · have h := h2 c_6
      refine lv_aload_n hx hb dX0_placeOf_13 rfl (lv_at hl 0 rfl) ?_
      obtain ⟨fs_8, a_7, he_fs_8, hv_fs_8, h⟩ := h
      refine fw_get (C := RX0) (T := TX0) (N := 1) hx hb hts hin_X0 hown hK hF he_fs_8 rfl 0 (by decide) (hts (.fieldLink RX0 9 "FrontCodedIndex$Cursors" "places" "[I") (by decide +kernel)) (fun _ h9 => h9) hv_fs_8 dX0_placeOf_14 ?_
      refine lv_iload_n hx hb dX0_placeOf_17 rfl (lv_at hl 1 rfl) ?_
      obtain ⟨n_q_10, q_10, he_q_10, hi_q_10, h⟩ := h
      refine fw_iald hx hb hK hF he_q_10 hi_q_10 dX0_placeOf_18 ?_
      refine lv_topi (fun v_9 e_v_9 => ?_)
      have h := h v_9 e_v_9
      refine lv_goto (tgt := 23) hx hb dX0_placeOf_19 (by decide) ?_
      exact W.iret (v := v_9) hx hb hr (fun t ht hW => ⟨⟨v_9, f, rfl, ⟨h, rfl⟩, by rw [ht]; exact hF, FK.moved hW.alike hK⟩, hS.F ht⟩) hS.2.2 dX0_placeOf_23
theorem dJx4a65c_size_8abf5_0 : decode cJx4a65c_size_8abf5 0 = .ok (.aload_n 0, 1) := by decide +kernel
theorem dJx4a65c_size_8abf5_1 : decode cJx4a65c_size_8abf5 1 = .ok (.getfield 48, 3) := by decide +kernel
theorem dJx4a65c_size_8abf5_4 : decode cJx4a65c_size_8abf5 4 = .ok (.ireturn, 1) := by decide +kernel
def wp_Jx4a65c_size_8abf5 (a0 : Nat) (f : FT) (K : Int32 → Prop) : Prop :=
  gI f a0 2 2 fun v_1 => K v_1
set_option maxHeartbeats 4000000 in
set_option maxRecDepth 100000 in
theorem cc_Jx4a65c_size_8abf5 (l : Launch) (G : GG) {f : FT} {sz : Nat} {a0 : Nat} {K : Int32 → Prop} (h : wp_Jx4a65c_size_8abf5 a0 f K) : Met l yJx4a65c_size_8abf5 wsJx4a65c_size_8abf5 ({ frames := 0, cells := 0, slots := 0, locals := 0 } : Room) (FP G [.ref a0] f sz) (va_Qi (fun r f9 => K r ∧ f9 = f : Int32 → FT → Prop) (FB G (fA f sz)) (fA f sz)) 0 0 (fA f sz) := by
  refine Met.ofW (cc := cJx4a65c_size_8abf5) (maxL := 1) (ret := (some .int)) (by decide) rfl ?_
  intro p e s m args below meth c s₁ B hml hv
  obtain ⟨rfl, hsz, hF, hK, hZ⟩ := hv
  have hx := B.exec
  have hb := B.bytes
  have hr := B.returns
  have hts := atoms_spec (ws := wsJx4a65c_size_8abf5) B.pre
  have hown : s.vm.findClass RJx4a65c = some m.cls := findClass_of_methodNamed B.named
  have hlocks := B.notSynchronized
  subst hsz
  have hF := hF.self (sz := s.heap.size)
  generalize hAe : fA f s.heap.size = A at hF hZ ⊢
  have hA : ∀ q : Nat, s.heap.size ≤ q → A q := fun q h => by rw [← hAe]; exact Or.inr h
  have hS : va_S A s.heap s.heap [] := va_S.rf
  have hin_Jx4a65c : ∀ w ∈ wsJx4a65c0, w ∈ wsJx4a65c_size_8abf5 := by decide +kernel
  have hl := lv_entry ([.ref a0]) (n := 1) (Nat.le_of_ble_eq_true rfl)
  rw [lg_entry_eq]
  generalize (lg_sl ([.ref a0]) ++ List.replicate (1 - (lg_sl ([.ref a0])).length) Slot.unset).toArray = ls at hl ⊢
  have hl : lv_has ls 1 [(0, .ref a0)] := hl
  unfold wp_Jx4a65c_size_8abf5 at h
  refine lv_aload_n hx hb dJx4a65c_size_8abf5_0 rfl (lv_at hl 0 rfl) ?_
  obtain ⟨fs_2, v_1, he_fs_2, hv_fs_2, h⟩ := h
  refine fw_get (C := RJx4a65c) (T := TJx4a65c) (N := 3) hx hb hts hin_Jx4a65c hown hK hF he_fs_2 rfl 2 (by decide) (hts (.fieldLink RJx4a65c 48 "java/util/ArrayList" "size" "I") (by decide +kernel)) (fun _ h9 => h9) hv_fs_2 dJx4a65c_size_8abf5_1 ?_
  exact W.iret (v := v_1) hx hb hr (fun t ht hW => ⟨⟨v_1, f, rfl, ⟨h, rfl⟩, by rw [ht]; exact hF, FK.moved hW.alike hK⟩, hS.F ht⟩) hS.2.2 dJx4a65c_size_8abf5_4
theorem dJ3_checkIndex_8e157_0 : decode cJ3_checkIndex_8e157 0 = .ok (.iload_n 0, 1) := by decide +kernel
theorem dJ3_checkIndex_8e157_1 : decode cJ3_checkIndex_8e157 1 = .ok (.ifCond .lt 8, 3) := by decide +kernel
theorem dJ3_checkIndex_8e157_4 : decode cJ3_checkIndex_8e157 4 = .ok (.iload_n 0, 1) := by decide +kernel
theorem dJ3_checkIndex_8e157_5 : decode cJ3_checkIndex_8e157 5 = .ok (.iload_n 1, 1) := by decide +kernel
theorem dJ3_checkIndex_8e157_6 : decode cJ3_checkIndex_8e157 6 = .ok (.if_icmp .lt 10, 3) := by decide +kernel
theorem dJ3_checkIndex_8e157_16 : decode cJ3_checkIndex_8e157 16 = .ok (.iload_n 0, 1) := by decide +kernel
theorem dJ3_checkIndex_8e157_17 : decode cJ3_checkIndex_8e157 17 = .ok (.ireturn, 1) := by decide +kernel
def wp_J3_checkIndex_8e157 (x0 : Int32) (x1 : Int32) (f : FT) (K : Int32 → Prop) : Prop :=
  ((x0 < (0 : Int32) → False) ∧
 (¬ (x0 < (0 : Int32)) → ((x0 < x1 → K x0) ∧
 (¬ (x0 < x1) → False))))
set_option maxHeartbeats 4000000 in
set_option maxRecDepth 100000 in
theorem cc_J3_checkIndex_8e157 (l : Launch) (G : GG) {f : FT} {sz : Nat} {x0 : Int32} {x1 : Int32} {K : Int32 → Prop} (h : wp_J3_checkIndex_8e157 x0 x1 f K) : Met l yJ3_checkIndex_8e157 wsJ3_checkIndex_8e157 ({ frames := 0, cells := 0, slots := 0, locals := 0 } : Room) (FP G [.int x0, .int x1, .null] f sz) (va_Qi (fun r f9 => K r ∧ f9 = f : Int32 → FT → Prop) (FB G (fA f sz)) (fA f sz)) 0 0 (fA f sz) := by
  refine Met.ofW (cc := cJ3_checkIndex_8e157) (maxL := 3) (ret := (some .int)) (by decide) rfl ?_
  intro p e s m args below meth c s₁ B hml hv
  obtain ⟨rfl, hsz, hF, hK, hZ⟩ := hv
  have hx := B.exec
  have hb := B.bytes
  have hr := B.returns
  have hts := atoms_spec (ws := wsJ3_checkIndex_8e157) B.pre
  have hown : s.vm.findClass RJ3 = some m.cls := findClass_of_methodNamed B.named
  have hlocks := B.notSynchronized
  subst hsz
  have hF := hF.self (sz := s.heap.size)
  generalize hAe : fA f s.heap.size = A at hF hZ ⊢
  have hA : ∀ q : Nat, s.heap.size ≤ q → A q := fun q h => by rw [← hAe]; exact Or.inr h
  have hS : va_S A s.heap s.heap [] := va_S.rf
  have hl := lv_entry ([.int x0, .int x1, .null]) (n := 3) (Nat.le_of_ble_eq_true rfl)
  rw [lg_entry_eq]
  generalize (lg_sl ([.int x0, .int x1, .null]) ++ List.replicate (3 - (lg_sl ([.int x0, .int x1, .null])).length) Slot.unset).toArray = ls at hl ⊢
  have hl : lv_has ls 3 [(0, .int x0), (1, .int x1), (2, .null)] := hl
  unfold wp_J3_checkIndex_8e157 at h
  refine lv_iload_n hx hb dJ3_checkIndex_8e157_0 rfl (lv_at hl 0 rfl) ?_
  obtain ⟨h1, h2⟩ := h
  refine lv_if_lt (tgt := 9) hx hb dJ3_checkIndex_8e157_1 (by decide) (fun c_1 => ?_) (fun c_1 => ?_)
  · have h := h1 c_1
    exact h.elim
  · have h := h2 c_1
    refine lv_iload_n hx hb dJ3_checkIndex_8e157_4 rfl (lv_at hl 0 rfl) ?_
    refine lv_iload_n hx hb dJ3_checkIndex_8e157_5 rfl (lv_at hl 1 rfl) ?_
    obtain ⟨h1, h2⟩ := h
    refine lv_icmp_lt (tgt := 16) hx hb dJ3_checkIndex_8e157_6 (by decide) (fun c_2 => ?_) (fun c_2 => ?_)
    · have h := h1 c_2
      refine lv_iload_n hx hb dJ3_checkIndex_8e157_16 rfl (lv_at hl 0 rfl) ?_
      exact W.iret (v := x0) hx hb hr (fun t ht hW => ⟨⟨x0, f, rfl, ⟨h, rfl⟩, by rw [ht]; exact hF, FK.moved hW.alike hK⟩, hS.F ht⟩) hS.2.2 dJ3_checkIndex_8e157_17
    · have h := h2 c_2
      exact h.elim
theorem dJ15_checkIndex_7cf53_0 : decode cJ15_checkIndex_7cf53 0 = .ok (.iload_n 0, 1) := by decide +kernel
theorem dJ15_checkIndex_7cf53_1 : decode cJ15_checkIndex_7cf53 1 = .ok (.iload_n 1, 1) := by decide +kernel
theorem dJ15_checkIndex_7cf53_2 : decode cJ15_checkIndex_7cf53 2 = .ok (.aconst_null, 1) := by decide +kernel
theorem dJ15_checkIndex_7cf53_3 : decode cJ15_checkIndex_7cf53 3 = .ok (.invokestatic 105, 3) := by decide +kernel
theorem dJ15_checkIndex_7cf53_6 : decode cJ15_checkIndex_7cf53 6 = .ok (.ireturn, 1) := by decide +kernel
set_option maxRecDepth 20000 in
theorem ggJ15_checkIndex_7cf53_J3_checkIndex_8e157 : GoodIn wsJ15_checkIndex_7cf53 wsJ3_checkIndex_8e157 := goodIn_r _ [4] (by decide +kernel) (by decide +kernel)
def wp_J15_checkIndex_7cf53 (x0 : Int32) (x1 : Int32) (f : FT) (K : Int32 → Prop) : Prop :=
  wp_J3_checkIndex_8e157 x0 x1 f (fun r_1 => K r_1)
set_option maxHeartbeats 4000000 in
set_option maxRecDepth 100000 in
theorem cc_J15_checkIndex_7cf53 (l : Launch) (G : GG) {f : FT} {sz : Nat} {x0 : Int32} {x1 : Int32} {K : Int32 → Prop} (h : wp_J15_checkIndex_7cf53 x0 x1 f K) : Met l yJ15_checkIndex_7cf53 wsJ15_checkIndex_7cf53 ({ frames := 1, cells := 0, slots := 0, locals := 22 } : Room) (FP G [.int x0, .int x1] f sz) (va_Qi (fun r f9 => K r ∧ f9 = f : Int32 → FT → Prop) (FB G (fA f sz)) (fA f sz)) 0 0 (fA f sz) := by
  refine Met.ofW (cc := cJ15_checkIndex_7cf53) (maxL := 2) (ret := (some .int)) (by decide) rfl ?_
  intro p e s m args below meth c s₁ B hml hv
  obtain ⟨rfl, hsz, hF, hK, hZ⟩ := hv
  have hx := B.exec
  have hb := B.bytes
  have hr := B.returns
  have hts := atoms_spec (ws := wsJ15_checkIndex_7cf53) B.pre
  have hown : s.vm.findClass RJ15 = some m.cls := findClass_of_methodNamed B.named
  have hlocks := B.notSynchronized
  subst hsz
  have hF := hF.self (sz := s.heap.size)
  generalize hAe : fA f s.heap.size = A at hF hZ ⊢
  have hA : ∀ q : Nat, s.heap.size ≤ q → A q := fun q h => by rw [← hAe]; exact Or.inr h
  have hS : va_S A s.heap s.heap [] := va_S.rf
  have hl := lv_entry ([.int x0, .int x1]) (n := 2) (Nat.le_of_ble_eq_true rfl)
  rw [lg_entry_eq]
  generalize (lg_sl ([.int x0, .int x1]) ++ List.replicate (2 - (lg_sl ([.int x0, .int x1])).length) Slot.unset).toArray = ls at hl ⊢
  have hl : lv_has ls 2 [(0, .int x0), (1, .int x1)] := hl
  unfold wp_J15_checkIndex_7cf53 at h
  refine lv_iload_n hx hb dJ15_checkIndex_7cf53_0 rfl (lv_at hl 0 rfl) ?_
  refine lv_iload_n hx hb dJ15_checkIndex_7cf53_1 rfl (lv_at hl 1 rfl) ?_
  refine lv_null hx hb dJ15_checkIndex_7cf53_2 ?_
  refine fw_cS_i_p (As := [.int x0, .int x1, .null]) (rest := []) ⟨hx, hb, hml, hown, hts⟩ (cc_J3_checkIndex_8e157 l G h) (⟨callB_of 3 hts ggJ15_checkIndex_7cf53_J3_checkIndex_8e157 rfl rfl rfl (hts (.initialized RJ3) (by decide +kernel)) (hts (.methodLink RJ15 105 yJ3_checkIndex_8e157) (by decide +kernel)) (by decide +kernel) ⟨Nat.le_of_ble_eq_true rfl, Nat.le_of_ble_eq_true rfl⟩, hts (.static yJ3_checkIndex_8e157) (by decide +kernel)⟩) hK hZ hF hS hA rfl hl.1 rfl (Nat.le_of_ble_eq_true rfl) dJ15_checkIndex_7cf53_3 ⟨Nat.zero_le _, Nat.zero_le _⟩ (fun r_1 H locs h hF hS => ?_)
  exact W.iret (v := r_1) hx hb hr (fun t ht hW => ⟨⟨r_1, f, rfl, ⟨h, rfl⟩, by rw [ht]; exact hF, FK.moved hW.alike hK⟩, hS.F ht⟩) hS.2.2 dJ15_checkIndex_7cf53_6
theorem dJx4a65c_elementData_915e3_0 : decode cJx4a65c_elementData_915e3 0 = .ok (.aload_n 0, 1) := by decide +kernel
theorem dJx4a65c_elementData_915e3_1 : decode cJx4a65c_elementData_915e3 1 = .ok (.getfield 9, 3) := by decide +kernel
theorem dJx4a65c_elementData_915e3_4 : decode cJx4a65c_elementData_915e3 4 = .ok (.iload_n 1, 1) := by decide +kernel
theorem dJx4a65c_elementData_915e3_5 : decode cJx4a65c_elementData_915e3 5 = .ok (.aaload, 1) := by decide +kernel
theorem dJx4a65c_elementData_915e3_6 : decode cJx4a65c_elementData_915e3 6 = .ok (.areturn, 1) := by decide +kernel
def wp_Jx4a65c_elementData_915e3 (a0 : Nat) (x1 : Int32) (f : FT) (K : Nat → Prop) : Prop :=
  gA f a0 2 1 fun a_1 => aA f a_1 x1 fun a_3 => K a_3
set_option maxHeartbeats 4000000 in
set_option maxRecDepth 100000 in
theorem cc_Jx4a65c_elementData_915e3 (l : Launch) (G : GG) {f : FT} {sz : Nat} {a0 : Nat} {x1 : Int32} {K : Nat → Prop} (h : wp_Jx4a65c_elementData_915e3 a0 x1 f K) : Met l yJx4a65c_elementData_915e3 wsJx4a65c_elementData_915e3 ({ frames := 0, cells := 0, slots := 0, locals := 0 } : Room) (FP G [.ref a0, .int x1] f sz) (va_Qq (fun r f9 => ∃ q, r = some q ∧ K q ∧ f9 = f : Option Nat → FT → Prop) (FB G (fA f sz)) (fA f sz)) 0 0 (fA f sz) := by
  refine Met.ofW (cc := cJx4a65c_elementData_915e3) (maxL := 2) (ret := (some (.object "java/lang/Object"))) (by decide) rfl ?_
  intro p e s m args below meth c s₁ B hml hv
  obtain ⟨rfl, hsz, hF, hK, hZ⟩ := hv
  have hx := B.exec
  have hb := B.bytes
  have hr := B.returns
  have hts := atoms_spec (ws := wsJx4a65c_elementData_915e3) B.pre
  have hown : s.vm.findClass RJx4a65c = some m.cls := findClass_of_methodNamed B.named
  have hlocks := B.notSynchronized
  subst hsz
  have hF := hF.self (sz := s.heap.size)
  generalize hAe : fA f s.heap.size = A at hF hZ ⊢
  have hA : ∀ q : Nat, s.heap.size ≤ q → A q := fun q h => by rw [← hAe]; exact Or.inr h
  have hS : va_S A s.heap s.heap [] := va_S.rf
  have hin_Jx4a65c : ∀ w ∈ wsJx4a65c0, w ∈ wsJx4a65c_elementData_915e3 := by decide +kernel
  have hl := lv_entry ([.ref a0, .int x1]) (n := 2) (Nat.le_of_ble_eq_true rfl)
  rw [lg_entry_eq]
  generalize (lg_sl ([.ref a0, .int x1]) ++ List.replicate (2 - (lg_sl ([.ref a0, .int x1])).length) Slot.unset).toArray = ls at hl ⊢
  have hl : lv_has ls 2 [(0, .ref a0), (1, .int x1)] := hl
  unfold wp_Jx4a65c_elementData_915e3 at h
  refine lv_aload_n hx hb dJx4a65c_elementData_915e3_0 rfl (lv_at hl 0 rfl) ?_
  obtain ⟨fs_2, a_1, he_fs_2, hv_fs_2, h⟩ := h
  refine fw_get (C := RJx4a65c) (T := TJx4a65c) (N := 3) hx hb hts hin_Jx4a65c hown hK hF he_fs_2 rfl 1 (by decide) (hts (.fieldLink RJx4a65c 9 "java/util/ArrayList" "elementData" "[Ljava/lang/Object;") (by decide +kernel)) (fun _ h9 => h9) hv_fs_2 dJx4a65c_elementData_915e3_1 ?_
  refine lv_iload_n hx hb dJx4a65c_elementData_915e3_4 rfl (lv_at hl 1 rfl) ?_
  obtain ⟨n_q_4, q_4, a_3, he_q_4, hi_q_4, hv_q_4, h⟩ := h
  refine fw_aaldA hx hb hK hF he_q_4 hi_q_4 hv_q_4 dJx4a65c_elementData_915e3_5 ?_
  exact W.aret (v := .ref a_3) hx hb hr (Or.inl ⟨_, rfl⟩) (Or.inr ⟨a_3, rfl⟩) (fun t ht hW => ⟨⟨some a_3, f, rfl, ⟨_, rfl, ⟨h, rfl⟩⟩, by rw [ht]; exact hF, FK.moved hW.alike hK⟩, hS.F ht⟩) hS.2.2 dJx4a65c_elementData_915e3_6
theorem dJx4a65c_get_915e3_0 : decode cJx4a65c_get_915e3 0 = .ok (.iload_n 1, 1) := by decide +kernel
theorem dJx4a65c_get_915e3_1 : decode cJx4a65c_get_915e3 1 = .ok (.aload_n 0, 1) := by decide +kernel
theorem dJx4a65c_get_915e3_2 : decode cJx4a65c_get_915e3 2 = .ok (.getfield 48, 3) := by decide +kernel
theorem dJx4a65c_get_915e3_5 : decode cJx4a65c_get_915e3 5 = .ok (.invokestatic 118, 3) := by decide +kernel
theorem dJx4a65c_get_915e3_8 : decode cJx4a65c_get_915e3 8 = .ok (.pop, 1) := by decide +kernel
theorem dJx4a65c_get_915e3_9 : decode cJx4a65c_get_915e3 9 = .ok (.aload_n 0, 1) := by decide +kernel
theorem dJx4a65c_get_915e3_10 : decode cJx4a65c_get_915e3 10 = .ok (.iload_n 1, 1) := by decide +kernel
theorem dJx4a65c_get_915e3_11 : decode cJx4a65c_get_915e3 11 = .ok (.invokevirtual 123, 3) := by decide +kernel
theorem dJx4a65c_get_915e3_14 : decode cJx4a65c_get_915e3 14 = .ok (.areturn, 1) := by decide +kernel
set_option maxRecDepth 20000 in
theorem ggJx4a65c_get_915e3_J15_checkIndex_7cf53 : GoodIn wsJx4a65c_get_915e3 wsJ15_checkIndex_7cf53 := goodIn_r _ [5, 6, 7, 8, 9] (by decide +kernel) (by decide +kernel)
set_option maxRecDepth 20000 in
theorem ggJx4a65c_get_915e3_Jx4a65c_elementData_915e3 : GoodIn wsJx4a65c_get_915e3 wsJx4a65c_elementData_915e3 := goodIn_r _ [14, 15, 16, 17, 18] (by decide +kernel) (by decide +kernel)
def wp_Jx4a65c_get_915e3 (a0 : Nat) (x1 : Int32) (f : FT) (K : Nat → Prop) : Prop :=
  gI f a0 2 2 fun v_1 => wp_J15_checkIndex_7cf53 x1 v_1 f (fun r_3 => isO f a0 2 ∧ wp_Jx4a65c_elementData_915e3 a0 x1 f (fun a_4 => K a_4))
set_option maxHeartbeats 4000000 in
set_option maxRecDepth 100000 in
theorem cc_Jx4a65c_get_915e3 (l : Launch) (G : GG) {f : FT} {sz : Nat} {a0 : Nat} {x1 : Int32} {K : Nat → Prop} (h : wp_Jx4a65c_get_915e3 a0 x1 f K) : Met l yJx4a65c_get_915e3 wsJx4a65c_get_915e3 ({ frames := 2, cells := 0, slots := 0, locals := 43 } : Room) (FP G [.ref a0, .int x1] f sz) (va_Qq (fun r f9 => ∃ q, r = some q ∧ K q ∧ f9 = f : Option Nat → FT → Prop) (FB G (fA f sz)) (fA f sz)) 0 0 (fA f sz) := by
  refine Met.ofW (cc := cJx4a65c_get_915e3) (maxL := 2) (ret := (some (.object "java/lang/Object"))) (by decide) rfl ?_
  intro p e s m args below meth c s₁ B hml hv
  obtain ⟨rfl, hsz, hF, hK, hZ⟩ := hv
  have hx := B.exec
  have hb := B.bytes
  have hr := B.returns
  have hts := atoms_spec (ws := wsJx4a65c_get_915e3) B.pre
  have hown : s.vm.findClass RJx4a65c = some m.cls := findClass_of_methodNamed B.named
  have hlocks := B.notSynchronized
  subst hsz
  have hF := hF.self (sz := s.heap.size)
  generalize hAe : fA f s.heap.size = A at hF hZ ⊢
  have hA : ∀ q : Nat, s.heap.size ≤ q → A q := fun q h => by rw [← hAe]; exact Or.inr h
  have hS : va_S A s.heap s.heap [] := va_S.rf
  have hin_Jx4a65c : ∀ w ∈ wsJx4a65c0, w ∈ wsJx4a65c_get_915e3 := by decide +kernel
  have hl := lv_entry ([.ref a0, .int x1]) (n := 2) (Nat.le_of_ble_eq_true rfl)
  rw [lg_entry_eq]
  generalize (lg_sl ([.ref a0, .int x1]) ++ List.replicate (2 - (lg_sl ([.ref a0, .int x1])).length) Slot.unset).toArray = ls at hl ⊢
  have hl : lv_has ls 2 [(0, .ref a0), (1, .int x1)] := hl
  unfold wp_Jx4a65c_get_915e3 at h
  refine lv_iload_n hx hb dJx4a65c_get_915e3_0 rfl (lv_at hl 1 rfl) ?_
  refine lv_aload_n hx hb dJx4a65c_get_915e3_1 rfl (lv_at hl 0 rfl) ?_
  obtain ⟨fs_2, v_1, he_fs_2, hv_fs_2, h⟩ := h
  refine fw_get (C := RJx4a65c) (T := TJx4a65c) (N := 3) hx hb hts hin_Jx4a65c hown hK hF he_fs_2 rfl 2 (by decide) (hts (.fieldLink RJx4a65c 48 "java/util/ArrayList" "size" "I") (by decide +kernel)) (fun _ h9 => h9) hv_fs_2 dJx4a65c_get_915e3_2 ?_
  refine fw_cS_i_p (As := [.int x1, .int v_1]) (rest := []) ⟨hx, hb, hml, hown, hts⟩ (cc_J15_checkIndex_7cf53 l G h) (⟨callB_of 2 hts ggJx4a65c_get_915e3_J15_checkIndex_7cf53 rfl rfl rfl (hts (.initialized RJ15) (by decide +kernel)) (hts (.methodLink RJx4a65c 118 yJ15_checkIndex_7cf53) (by decide +kernel)) (by decide +kernel) ⟨Nat.le_of_ble_eq_true rfl, Nat.le_of_ble_eq_true rfl⟩, hts (.static yJ15_checkIndex_7cf53) (by decide +kernel)⟩) hK hZ hF hS hA rfl hl.1 rfl (Nat.le_of_ble_eq_true rfl) dJx4a65c_get_915e3_5 ⟨Nat.zero_le _, Nat.zero_le _⟩ (fun r_3 H locs h hF hS => ?_)
  refine lv_pop hx hb dJx4a65c_get_915e3_8 rfl ?_
  refine lv_aload_n hx hb dJx4a65c_get_915e3_9 rfl (lv_at hl 0 rfl) ?_
  refine lv_iload_n hx hb dJx4a65c_get_915e3_10 rfl (lv_at hl 1 rfl) ?_
  obtain ⟨⟨fs_a_4, hrc_a_4⟩, h⟩ := h
  refine fw_cV_q_p (As := [.int x1]) (rest := []) ⟨hx, hb, hml, hown, hts⟩ (cc_Jx4a65c_elementData_915e3 l G h) (⟨callB_of 1 hts ggJx4a65c_get_915e3_Jx4a65c_elementData_915e3 rfl rfl rfl (hts (.initialized RJx4a65c) (by decide +kernel)) (hts (.methodLink RJx4a65c 123 yJx4a65c_elementData_915e3) (by decide +kernel)) (by decide +kernel) ⟨Nat.le_of_ble_eq_true rfl, Nat.le_of_ble_eq_true rfl⟩, hts (.instanceMethod yJx4a65c_elementData_915e3) (by decide +kernel), hts (.selects RJx4a65c yJx4a65c_elementData_915e3 yJx4a65c_elementData_915e3) (by decide +kernel)⟩) rfl hrc_a_4 hK hZ hF hS hA rfl hl.1 rfl (Nat.le_of_ble_eq_true rfl) dJx4a65c_get_915e3_11 ⟨Nat.zero_le _, Nat.zero_le _⟩ (fun a_4 H locs h hF hS => ?_)
  exact W.aret (v := .ref a_4) hx hb hr (Or.inl ⟨_, rfl⟩) (Or.inr ⟨a_4, rfl⟩) (fun t ht hW => ⟨⟨some a_4, f, rfl, ⟨_, rfl, ⟨h, rfl⟩⟩, by rw [ht]; exact hF, FK.moved hW.alike hK⟩, hS.F ht⟩) hS.2.2 dJx4a65c_get_915e3_14
theorem dX4_at_0 : decode cX4_at 0 = .ok (.iload_n 1, 1) := by decide +kernel
theorem dX4_at_1 : decode cX4_at 1 = .ok (.ifCond .lt 28, 3) := by decide +kernel
theorem dX4_at_4 : decode cX4_at 4 = .ok (.iload_n 1, 1) := by decide +kernel
theorem dX4_at_5 : decode cX4_at 5 = .ok (.aload_n 0, 1) := by decide +kernel
theorem dX4_at_6 : decode cX4_at 6 = .ok (.getfield 10, 3) := by decide +kernel
theorem dX4_at_9 : decode cX4_at 9 = .ok (.invokevirtual 25, 3) := by decide +kernel
theorem dX4_at_12 : decode cX4_at 12 = .ok (.if_icmp .ge 17, 3) := by decide +kernel
theorem dX4_at_15 : decode cX4_at 15 = .ok (.aload_n 0, 1) := by decide +kernel
theorem dX4_at_16 : decode cX4_at 16 = .ok (.getfield 10, 3) := by decide +kernel
theorem dX4_at_19 : decode cX4_at 19 = .ok (.iload_n 1, 1) := by decide +kernel
theorem dX4_at_20 : decode cX4_at 20 = .ok (.invokevirtual 29, 3) := by decide +kernel
theorem dX4_at_23 : decode cX4_at 23 = .ok (.checkcast 16, 3) := by decide +kernel
theorem dX4_at_26 : decode cX4_at 26 = .ok (.goto 7, 3) := by decide +kernel
theorem dX4_at_29 : decode cX4_at 29 = .ok (.aload_n 0, 1) := by decide +kernel
theorem dX4_at_30 : decode cX4_at 30 = .ok (.getfield 21, 3) := by decide +kernel
theorem dX4_at_33 : decode cX4_at 33 = .ok (.areturn, 1) := by decide +kernel
set_option maxRecDepth 20000 in
theorem ggX4_at_Jx4a65c_get_915e3 : GoodIn wsX4_at wsJx4a65c_get_915e3 := goodIn_r _ [13, 9, 14, 15, 16, 17, 18, 19, 20, 21, 22, 23, 24, 7, 25, 26, 29, 30, 31] (by decide +kernel) (by decide +kernel)
set_option maxRecDepth 20000 in
theorem ggX4_at_Jx4a65c_size_8abf5 : GoodIn wsX4_at wsJx4a65c_size_8abf5 := goodIn_r _ [8, 9, 29, 30, 31] (by decide +kernel) (by decide +kernel)
def wp_X4_at (a0 : Nat) (x1 : Int32) (f : FT) (K : Nat → Prop) : Prop :=
  ((x1 < (0 : Int32) → gA f a0 7 1 fun a_2 => K a_2) ∧
 (¬ (x1 < (0 : Int32)) → gA f a0 7 0 fun a_4 => isO f a_4 2 ∧ wp_Jx4a65c_size_8abf5 a_4 f (fun r_6 => ((r_6 ≤ x1 → gA f a0 7 1 fun a_8 => K a_8) ∧
 (¬ (r_6 ≤ x1) → gA f a0 7 0 fun a_10 => isO f a_10 2 ∧ wp_Jx4a65c_get_915e3 a_10 x1 f (fun a_12 => isO f a_12 6 ∧ K a_12))))))
set_option maxHeartbeats 4000000 in
set_option maxRecDepth 100000 in
theorem cc_X4_at (l : Launch) (G : GG) {f : FT} {sz : Nat} {a0 : Nat} {x1 : Int32} {K : Nat → Prop} (h : wp_X4_at a0 x1 f K) : Met l yX4_at wsX4_at ({ frames := 3, cells := 0, slots := 0, locals := 64 } : Room) (FP G [.ref a0, .int x1] f sz) (va_Qq (fun r f9 => ∃ q, r = some q ∧ K q ∧ f9 = f : Option Nat → FT → Prop) (FB G (fA f sz)) (fA f sz)) 0 0 (fA f sz) := by
  refine Met.ofW (cc := cX4_at) (maxL := 2) (ret := (some (.object "FrontCodedIndex$Key"))) (by decide) rfl ?_
  intro p e s m args below meth c s₁ B hml hv
  obtain ⟨rfl, hsz, hF, hK, hZ⟩ := hv
  have hx := B.exec
  have hb := B.bytes
  have hr := B.returns
  have hts := atoms_spec (ws := wsX4_at) B.pre
  have hown : s.vm.findClass RX4 = some m.cls := findClass_of_methodNamed B.named
  have hlocks := B.notSynchronized
  subst hsz
  have hF := hF.self (sz := s.heap.size)
  generalize hAe : fA f s.heap.size = A at hF hZ ⊢
  have hA : ∀ q : Nat, s.heap.size ≤ q → A q := fun q h => by rw [← hAe]; exact Or.inr h
  have hS : va_S A s.heap s.heap [] := va_S.rf
  have hin_X4 : ∀ w ∈ wsX40, w ∈ wsX4_at := by decide +kernel
  have hl := lv_entry ([.ref a0, .int x1]) (n := 2) (Nat.le_of_ble_eq_true rfl)
  rw [lg_entry_eq]
  generalize (lg_sl ([.ref a0, .int x1]) ++ List.replicate (2 - (lg_sl ([.ref a0, .int x1])).length) Slot.unset).toArray = ls at hl ⊢
  have hl : lv_has ls 2 [(0, .ref a0), (1, .int x1)] := hl
  unfold wp_X4_at at h
  refine lv_iload_n hx hb dX4_at_0 rfl (lv_at hl 1 rfl) ?_
  obtain ⟨h1, h2⟩ := h
  refine lv_if_lt (tgt := 29) hx hb dX4_at_1 (by decide) (fun c_1 => ?_) (fun c_1 => ?_)
  · have h := h1 c_1
    refine lv_aload_n hx hb dX4_at_29 rfl (lv_at hl 0 rfl) ?_
    obtain ⟨fs_3, a_2, he_fs_3, hv_fs_3, h⟩ := h
    refine fw_get (C := RX4) (T := TX4) (N := 2) hx hb hts hin_X4 hown hK hF he_fs_3 rfl 1 (by decide) (hts (.fieldLink RX4 21 "FrontCodedIndex$KeyRow" "none" "LFrontCodedIndex$Key;") (by decide +kernel)) (fun _ h9 => h9) hv_fs_3 dX4_at_30 ?_
    exact W.aret (v := .ref a_2) hx hb hr (Or.inl ⟨_, rfl⟩) (Or.inr ⟨a_2, rfl⟩) (fun t ht hW => ⟨⟨some a_2, f, rfl, ⟨_, rfl, ⟨h, rfl⟩⟩, by rw [ht]; exact hF, FK.moved hW.alike hK⟩, hS.F ht⟩) hS.2.2 dX4_at_33
  · have h := h2 c_1
    refine lv_iload_n hx hb dX4_at_4 rfl (lv_at hl 1 rfl) ?_
    refine lv_aload_n hx hb dX4_at_5 rfl (lv_at hl 0 rfl) ?_
    obtain ⟨fs_5, a_4, he_fs_5, hv_fs_5, h⟩ := h
    refine fw_get (C := RX4) (T := TX4) (N := 2) hx hb hts hin_X4 hown hK hF he_fs_5 rfl 0 (by decide) (hts (.fieldLink RX4 10 "FrontCodedIndex$KeyRow" "cells" "Ljava/util/ArrayList;") (by decide +kernel)) (fun _ h9 => h9) hv_fs_5 dX4_at_6 ?_
    obtain ⟨⟨fs_r_6, hrc_r_6⟩, h⟩ := h
    refine fw_cV_i_p (As := []) (rest := [.int x1]) ⟨hx, hb, hml, hown, hts⟩ (cc_Jx4a65c_size_8abf5 l G h) (⟨callB_of 0 hts ggX4_at_Jx4a65c_size_8abf5 rfl rfl rfl (hts (.initialized RJx4a65c) (by decide +kernel)) (hts (.methodLink RX4 25 yJx4a65c_size_8abf5) (by decide +kernel)) (by decide +kernel) ⟨Nat.le_of_ble_eq_true rfl, Nat.le_of_ble_eq_true rfl⟩, hts (.instanceMethod yJx4a65c_size_8abf5) (by decide +kernel), hts (.selects RJx4a65c yJx4a65c_size_8abf5 yJx4a65c_size_8abf5) (by decide +kernel)⟩) rfl hrc_r_6 hK hZ hF hS hA rfl hl.1 rfl (Nat.le_of_ble_eq_true rfl) dX4_at_9 ⟨Nat.zero_le _, Nat.zero_le _⟩ (fun r_6 H locs h hF hS => ?_)
    obtain ⟨h1, h2⟩ := h
    refine lv_icmp_ge (tgt := 29) hx hb dX4_at_12 (by decide) (fun c_7 => ?_) (fun c_7 => ?_)
    · have h := h1 c_7
      refine lv_aload_n hx hb dX4_at_29 rfl (lv_at hl 0 rfl) ?_
      obtain ⟨fs_9, a_8, he_fs_9, hv_fs_9, h⟩ := h
      refine fw_get (C := RX4) (T := TX4) (N := 2) hx hb hts hin_X4 hown hK hF he_fs_9 rfl 1 (by decide) (hts (.fieldLink RX4 21 "FrontCodedIndex$KeyRow" "none" "LFrontCodedIndex$Key;") (by decide +kernel)) (fun _ h9 => h9) hv_fs_9 dX4_at_30 ?_
      exact W.aret (v := .ref a_8) hx hb hr (Or.inl ⟨_, rfl⟩) (Or.inr ⟨a_8, rfl⟩) (fun t ht hW => ⟨⟨some a_8, f, rfl, ⟨_, rfl, ⟨h, rfl⟩⟩, by rw [ht]; exact hF, FK.moved hW.alike hK⟩, hS.F ht⟩) hS.2.2 dX4_at_33
    · have h := h2 c_7
      refine lv_aload_n hx hb dX4_at_15 rfl (lv_at hl 0 rfl) ?_
      obtain ⟨fs_11, a_10, he_fs_11, hv_fs_11, h⟩ := h
      refine fw_get (C := RX4) (T := TX4) (N := 2) hx hb hts hin_X4 hown hK hF he_fs_11 rfl 0 (by decide) (hts (.fieldLink RX4 10 "FrontCodedIndex$KeyRow" "cells" "Ljava/util/ArrayList;") (by decide +kernel)) (fun _ h9 => h9) hv_fs_11 dX4_at_16 ?_
      refine lv_iload_n hx hb dX4_at_19 rfl (lv_at hl 1 rfl) ?_
      obtain ⟨⟨fs_a_12, hrc_a_12⟩, h⟩ := h
      refine fw_cV_q_p (As := [.int x1]) (rest := []) ⟨hx, hb, hml, hown, hts⟩ (cc_Jx4a65c_get_915e3 l G h) (⟨callB_of 1 hts ggX4_at_Jx4a65c_get_915e3 rfl rfl rfl (hts (.initialized RJx4a65c) (by decide +kernel)) (hts (.methodLink RX4 29 yJx4a65c_get_915e3) (by decide +kernel)) (by decide +kernel) ⟨Nat.le_of_ble_eq_true rfl, Nat.le_of_ble_eq_true rfl⟩, hts (.instanceMethod yJx4a65c_get_915e3) (by decide +kernel), hts (.selects RJx4a65c yJx4a65c_get_915e3 yJx4a65c_get_915e3) (by decide +kernel)⟩) rfl hrc_a_12 hK hZ hF hS hA rfl hl.1 rfl (Nat.le_of_ble_eq_true rfl) dX4_at_20 ⟨Nat.zero_le _, Nat.zero_le _⟩ (fun a_12 H locs h hF hS => ?_)
      obtain ⟨⟨q_13, he_q_13⟩, h⟩ := h
      refine va_castS hx hb hown (hts (.classLink RX4 16 RX3) (by decide +kernel)) (hK.1.1 6 _ rfl).2 (Fw.recv hK hF rfl he_q_13) dX4_at_23 ?_
      refine lv_goto (tgt := 33) hx hb dX4_at_26 (by decide) ?_
      exact W.aret (v := .ref a_12) hx hb hr (Or.inl ⟨_, rfl⟩) (Or.inr ⟨a_12, rfl⟩) (fun t ht hW => ⟨⟨some a_12, f, rfl, ⟨_, rfl, ⟨h, rfl⟩⟩, by rw [ht]; exact hF, FK.moved hW.alike hK⟩, hS.F ht⟩) hS.2.2 dX4_at_33
theorem dX3_sharedWith_0 : decode cX3_sharedWith 0 = .ok (.iconst 0, 1) := by decide +kernel
theorem dX3_sharedWith_1 : decode cX3_sharedWith 1 = .ok (.istore_n 2, 1) := by decide +kernel
theorem dX3_sharedWith_2 : decode cX3_sharedWith 2 = .ok (.iload_n 2, 1) := by decide +kernel
theorem dX3_sharedWith_3 : decode cX3_sharedWith 3 = .ok (.aload_n 0, 1) := by decide +kernel
theorem dX3_sharedWith_4 : decode cX3_sharedWith 4 = .ok (.getfield 7, 3) := by decide +kernel
theorem dX3_sharedWith_7 : decode cX3_sharedWith 7 = .ok (.arraylength, 1) := by decide +kernel
theorem dX3_sharedWith_8 : decode cX3_sharedWith 8 = .ok (.if_icmp .ge 33, 3) := by decide +kernel
theorem dX3_sharedWith_11 : decode cX3_sharedWith 11 = .ok (.iload_n 2, 1) := by decide +kernel
theorem dX3_sharedWith_12 : decode cX3_sharedWith 12 = .ok (.aload_n 1, 1) := by decide +kernel
theorem dX3_sharedWith_13 : decode cX3_sharedWith 13 = .ok (.getfield 7, 3) := by decide +kernel
theorem dX3_sharedWith_16 : decode cX3_sharedWith 16 = .ok (.arraylength, 1) := by decide +kernel
theorem dX3_sharedWith_17 : decode cX3_sharedWith 17 = .ok (.if_icmp .ge 24, 3) := by decide +kernel
theorem dX3_sharedWith_20 : decode cX3_sharedWith 20 = .ok (.aload_n 0, 1) := by decide +kernel
theorem dX3_sharedWith_21 : decode cX3_sharedWith 21 = .ok (.getfield 7, 3) := by decide +kernel
theorem dX3_sharedWith_24 : decode cX3_sharedWith 24 = .ok (.iload_n 2, 1) := by decide +kernel
theorem dX3_sharedWith_25 : decode cX3_sharedWith 25 = .ok (.baload, 1) := by decide +kernel
theorem dX3_sharedWith_26 : decode cX3_sharedWith 26 = .ok (.aload_n 1, 1) := by decide +kernel
theorem dX3_sharedWith_27 : decode cX3_sharedWith 27 = .ok (.getfield 7, 3) := by decide +kernel
theorem dX3_sharedWith_30 : decode cX3_sharedWith 30 = .ok (.iload_n 2, 1) := by decide +kernel
theorem dX3_sharedWith_31 : decode cX3_sharedWith 31 = .ok (.baload, 1) := by decide +kernel
theorem dX3_sharedWith_32 : decode cX3_sharedWith 32 = .ok (.if_icmp .ne 9, 3) := by decide +kernel
theorem dX3_sharedWith_35 : decode cX3_sharedWith 35 = .ok (.iinc 2 1, 3) := by decide +kernel
theorem dX3_sharedWith_38 : decode cX3_sharedWith 38 = .ok (.goto (-36), 3) := by decide +kernel
theorem dX3_sharedWith_41 : decode cX3_sharedWith 41 = .ok (.iload_n 2, 1) := by decide +kernel
theorem dX3_sharedWith_42 : decode cX3_sharedWith 42 = .ok (.ireturn, 1) := by decide +kernel
def wp_X3_sharedWith_2 (a0 : Nat) (a1 : Nat) (f : FT) (K : Int32 → Prop)  (C2 : Int32 → Prop) : Int32 → Prop := fun s9 => match s9 with
  | y2 => gA f a0 6 0 fun a_1 => aL f a_1 fun v_3 => ((v_3 ≤ y2 → K y2) ∧
 (¬ (v_3 ≤ y2) → gA f a1 6 0 fun a_6 => aL f a_6 fun v_8 => ((v_8 ≤ y2 → K y2) ∧
 (¬ (v_8 ≤ y2) → gA f a0 6 0 fun a_11 => aI f a_11 0 y2 fun v_13 => gA f a1 6 0 fun a_15 => aI f a_15 0 y2 fun v_17 => ((¬ v_13 = v_17 → K y2) ∧
 (v_13 = v_17 → ∀ v_20 : Int32, v_20 = y2 + 1 → C2 v_20))))))
def wp_X3_sharedWith (a0 : Nat) (a1 : Nat) (f : FT) (K : Int32 → Prop) : Prop :=
  ∃ n_22, loopW (wp_X3_sharedWith_2 a0 a1 f K) n_22 (0 : Int32)
set_option maxHeartbeats 4000000 in
set_option maxRecDepth 100000 in
theorem cc_X3_sharedWith (l : Launch) (G : GG) {f : FT} {sz : Nat} {a0 : Nat} {a1 : Nat} {K : Int32 → Prop} (h : wp_X3_sharedWith a0 a1 f K) : Met l yX3_sharedWith wsX3_sharedWith ({ frames := 0, cells := 0, slots := 0, locals := 0 } : Room) (FP G [.ref a0, .ref a1] f sz) (va_Qi (fun r f9 => K r ∧ f9 = f : Int32 → FT → Prop) (FB G (fA f sz)) (fA f sz)) 0 0 (fA f sz) := by
  refine Met.ofW (cc := cX3_sharedWith) (maxL := 3) (ret := (some .int)) (by decide) rfl ?_
  intro p e s m args below meth c s₁ B hml hv
  obtain ⟨rfl, hsz, hF, hK, hZ⟩ := hv
  have hx := B.exec
  have hb := B.bytes
  have hr := B.returns
  have hts := atoms_spec (ws := wsX3_sharedWith) B.pre
  have hown : s.vm.findClass RX3 = some m.cls := findClass_of_methodNamed B.named
  have hlocks := B.notSynchronized
  subst hsz
  have hF := hF.self (sz := s.heap.size)
  generalize hAe : fA f s.heap.size = A at hF hZ ⊢
  have hA : ∀ q : Nat, s.heap.size ≤ q → A q := fun q h => by rw [← hAe]; exact Or.inr h
  have hS : va_S A s.heap s.heap [] := va_S.rf
  have hin_X3 : ∀ w ∈ wsX30, w ∈ wsX3_sharedWith := by decide +kernel
  have L2 : ∀  (j9 : Nat) (y2 : Int32) (H : Heap) (locs : List Loc) (ls : Array Slot), loopW (wp_X3_sharedWith_2 a0 a1 f K ) j9 y2 → Fw G A f H → va_S A s.heap H locs → lv_has ls 3 [(0, .ref a0), (1, .ref a1), (2, .int y2)] → W p l e ({ frames := 0, cells := 0, slots := 0, locals := 0 } : Room) s m ([.ref a0, .ref a1] : List Value).toArray below meth c H locs 0 0 (MQ below (va_Qi (fun r f9 => K r ∧ f9 = f : Int32 → FT → Prop) (FB G A) A) ([.ref a0, .ref a1] : List Value).toArray s 0 0 A) (F0 m 2 ls []) := by
    intro  j9
    induction j9 with
    | zero => intro y2 H locs ls h; exact h.elim
    | succ j9 ih2 =>
      intro y2 H locs ls h hF hS hl
      have h : wp_X3_sharedWith_2 a0 a1 f K  (loopW (wp_X3_sharedWith_2 a0 a1 f K ) j9) y2 := h
      generalize loopW (wp_X3_sharedWith_2 a0 a1 f K ) j9 = C2 at ih2 h
      unfold wp_X3_sharedWith_2 at h
      refine lv_iload_n hx hb dX3_sharedWith_2 rfl (lv_at hl 2 rfl) ?_
      refine lv_aload_n hx hb dX3_sharedWith_3 rfl (lv_at hl 0 rfl) ?_
      obtain ⟨fs_2, a_1, he_fs_2, hv_fs_2, h⟩ := h
      refine fw_get (C := RX3) (T := TX3) (N := 1) hx hb hts hin_X3 hown hK hF he_fs_2 rfl 0 (by decide) (hts (.fieldLink RX3 7 "FrontCodedIndex$Key" "bytes" "[B") (by decide +kernel)) (fun _ h9 => h9) hv_fs_2 dX3_sharedWith_4 ?_
      obtain ⟨t_q_4, q_4, he_q_4, ht_q_4, h⟩ := h
      refine fw_alen hx hb hK hF he_q_4 ht_q_4 dX3_sharedWith_7 ?_
      refine lv_topi (fun v_3 e_v_3 => ?_)
      have h := h v_3 e_v_3
      obtain ⟨h1, h2⟩ := h
      refine lv_icmp_ge (tgt := 41) hx hb dX3_sharedWith_8 (by decide) (fun c_5 => ?_) (fun c_5 => ?_)
      · have h := h1 c_5
        refine lv_iload_n hx hb dX3_sharedWith_41 rfl (lv_at hl 2 rfl) ?_
        exact W.iret (v := y2) hx hb hr (fun t ht hW => ⟨⟨y2, f, rfl, ⟨h, rfl⟩, by rw [ht]; exact hF, FK.moved hW.alike hK⟩, hS.F ht⟩) hS.2.2 dX3_sharedWith_42
      · have h := h2 c_5
        refine lv_iload_n hx hb dX3_sharedWith_11 rfl (lv_at hl 2 rfl) ?_
        refine lv_aload_n hx hb dX3_sharedWith_12 rfl (lv_at hl 1 rfl) ?_
        obtain ⟨fs_7, a_6, he_fs_7, hv_fs_7, h⟩ := h
        refine fw_get (C := RX3) (T := TX3) (N := 1) hx hb hts hin_X3 hown hK hF he_fs_7 rfl 0 (by decide) (hts (.fieldLink RX3 7 "FrontCodedIndex$Key" "bytes" "[B") (by decide +kernel)) (fun _ h9 => h9) hv_fs_7 dX3_sharedWith_13 ?_
        obtain ⟨t_q_9, q_9, he_q_9, ht_q_9, h⟩ := h
        refine fw_alen hx hb hK hF he_q_9 ht_q_9 dX3_sharedWith_16 ?_
        refine lv_topi (fun v_8 e_v_8 => ?_)
        have h := h v_8 e_v_8
        obtain ⟨h1, h2⟩ := h
        refine lv_icmp_ge (tgt := 41) hx hb dX3_sharedWith_17 (by decide) (fun c_10 => ?_) (fun c_10 => ?_)
        · have h := h1 c_10
          refine lv_iload_n hx hb dX3_sharedWith_41 rfl (lv_at hl 2 rfl) ?_
          exact W.iret (v := y2) hx hb hr (fun t ht hW => ⟨⟨y2, f, rfl, ⟨h, rfl⟩, by rw [ht]; exact hF, FK.moved hW.alike hK⟩, hS.F ht⟩) hS.2.2 dX3_sharedWith_42
        · have h := h2 c_10
          refine lv_aload_n hx hb dX3_sharedWith_20 rfl (lv_at hl 0 rfl) ?_
          obtain ⟨fs_12, a_11, he_fs_12, hv_fs_12, h⟩ := h
          refine fw_get (C := RX3) (T := TX3) (N := 1) hx hb hts hin_X3 hown hK hF he_fs_12 rfl 0 (by decide) (hts (.fieldLink RX3 7 "FrontCodedIndex$Key" "bytes" "[B") (by decide +kernel)) (fun _ h9 => h9) hv_fs_12 dX3_sharedWith_21 ?_
          refine lv_iload_n hx hb dX3_sharedWith_24 rfl (lv_at hl 2 rfl) ?_
          obtain ⟨n_q_14, q_14, he_q_14, hi_q_14, h⟩ := h
          refine fw_bald hx hb hK hF he_q_14 hi_q_14 dX3_sharedWith_25 ?_
          refine lv_topi (fun v_13 e_v_13 => ?_)
          have h := h v_13 e_v_13
          refine lv_aload_n hx hb dX3_sharedWith_26 rfl (lv_at hl 1 rfl) ?_
          obtain ⟨fs_16, a_15, he_fs_16, hv_fs_16, h⟩ := h
          refine fw_get (C := RX3) (T := TX3) (N := 1) hx hb hts hin_X3 hown hK hF he_fs_16 rfl 0 (by decide) (hts (.fieldLink RX3 7 "FrontCodedIndex$Key" "bytes" "[B") (by decide +kernel)) (fun _ h9 => h9) hv_fs_16 dX3_sharedWith_27 ?_
          refine lv_iload_n hx hb dX3_sharedWith_30 rfl (lv_at hl 2 rfl) ?_
          obtain ⟨n_q_18, q_18, he_q_18, hi_q_18, h⟩ := h
          refine fw_bald hx hb hK hF he_q_18 hi_q_18 dX3_sharedWith_31 ?_
          refine lv_topi (fun v_17 e_v_17 => ?_)
          have h := h v_17 e_v_17
          obtain ⟨h1, h2⟩ := h
          refine lv_icmp_ne (tgt := 41) hx hb dX3_sharedWith_32 (by decide) (fun c_19 => ?_) (fun c_19 => ?_)
          · have h := h1 c_19
            refine lv_iload_n hx hb dX3_sharedWith_41 rfl (lv_at hl 2 rfl) ?_
            exact W.iret (v := y2) hx hb hr (fun t ht hW => ⟨⟨y2, f, rfl, ⟨h, rfl⟩, by rw [ht]; exact hF, FK.moved hW.alike hK⟩, hS.F ht⟩) hS.2.2 dX3_sharedWith_42
          · have h := h2 c_19
            obtain ⟨v_20, e_21⟩ : ∃ y : Int32, y = y2 + 1 := ⟨_, rfl⟩
            have h := h v_20 e_21
            refine lv_iinc (v := v_20) (lv' := [(2, .int v_20), (0, .ref a0), (1, .ref a1)]) hx hb dX3_sharedWith_35 hl (k := 2) rfl (by rw [e_21]; rfl) (by decide) rfl (fun ls hl => ?_)
            refine lv_goto (tgt := 2) hx hb dX3_sharedWith_38 (by decide) ?_
            exact ih2 v_20 _ _ _ h hF hS (lv_sub hl [1, 2, 0] rfl)
  have hl := lv_entry ([.ref a0, .ref a1]) (n := 3) (Nat.le_of_ble_eq_true rfl)
  rw [lg_entry_eq]
  generalize (lg_sl ([.ref a0, .ref a1]) ++ List.replicate (3 - (lg_sl ([.ref a0, .ref a1])).length) Slot.unset).toArray = ls at hl ⊢
  have hl : lv_has ls 3 [(0, .ref a0), (1, .ref a1)] := hl
  unfold wp_X3_sharedWith at h
  refine lv_iconst (v := (0 : Int32)) hx hb dX3_sharedWith_0 (by decide) ?_
  refine lv_istore_n (lv' := [(2, .int (0 : Int32)), (0, .ref a0), (1, .ref a1)]) hx hb dX3_sharedWith_1 rfl hl (by decide) rfl (fun ls hl => ?_)
  obtain ⟨n_22, h⟩ := h
  exact L2 n_22 (0 : Int32) _ _ _ h hF hS (lv_sub hl [1, 2, 0] rfl)
theorem dX3_byteAt_0 : decode cX3_byteAt 0 = .ok (.iload_n 1, 1) := by decide +kernel
theorem dX3_byteAt_1 : decode cX3_byteAt 1 = .ok (.ifCond .lt 21, 3) := by decide +kernel
theorem dX3_byteAt_4 : decode cX3_byteAt 4 = .ok (.iload_n 1, 1) := by decide +kernel
theorem dX3_byteAt_5 : decode cX3_byteAt 5 = .ok (.aload_n 0, 1) := by decide +kernel
theorem dX3_byteAt_6 : decode cX3_byteAt 6 = .ok (.getfield 7, 3) := by decide +kernel
theorem dX3_byteAt_9 : decode cX3_byteAt 9 = .ok (.arraylength, 1) := by decide +kernel
theorem dX3_byteAt_10 : decode cX3_byteAt 10 = .ok (.if_icmp .ge 12, 3) := by decide +kernel
theorem dX3_byteAt_13 : decode cX3_byteAt 13 = .ok (.aload_n 0, 1) := by decide +kernel
theorem dX3_byteAt_14 : decode cX3_byteAt 14 = .ok (.getfield 7, 3) := by decide +kernel
theorem dX3_byteAt_17 : decode cX3_byteAt 17 = .ok (.iload_n 1, 1) := by decide +kernel
theorem dX3_byteAt_18 : decode cX3_byteAt 18 = .ok (.baload, 1) := by decide +kernel
theorem dX3_byteAt_19 : decode cX3_byteAt 19 = .ok (.goto 4, 3) := by decide +kernel
theorem dX3_byteAt_22 : decode cX3_byteAt 22 = .ok (.iconst (-1), 1) := by decide +kernel
theorem dX3_byteAt_23 : decode cX3_byteAt 23 = .ok (.ireturn, 1) := by decide +kernel
def wp_X3_byteAt (a0 : Nat) (x1 : Int32) (f : FT) (K : Int32 → Prop) : Prop :=
  ((x1 < (0 : Int32) → K (-1 : Int32)) ∧
 (¬ (x1 < (0 : Int32)) → gA f a0 6 0 fun a_2 => aL f a_2 fun v_4 => ((v_4 ≤ x1 → K (-1 : Int32)) ∧
 (¬ (v_4 ≤ x1) → gA f a0 6 0 fun a_7 => aI f a_7 0 x1 fun v_9 => K v_9))))
set_option maxHeartbeats 4000000 in
set_option maxRecDepth 100000 in
theorem cc_X3_byteAt (l : Launch) (G : GG) {f : FT} {sz : Nat} {a0 : Nat} {x1 : Int32} {K : Int32 → Prop} (h : wp_X3_byteAt a0 x1 f K) : Met l yX3_byteAt wsX3_byteAt ({ frames := 0, cells := 0, slots := 0, locals := 0 } : Room) (FP G [.ref a0, .int x1] f sz) (va_Qi (fun r f9 => K r ∧ f9 = f : Int32 → FT → Prop) (FB G (fA f sz)) (fA f sz)) 0 0 (fA f sz) := by
  refine Met.ofW (cc := cX3_byteAt) (maxL := 2) (ret := (some .int)) (by decide) rfl ?_
  intro p e s m args below meth c s₁ B hml hv
  obtain ⟨rfl, hsz, hF, hK, hZ⟩ := hv
  have hx := B.exec
  have hb := B.bytes
  have hr := B.returns
  have hts := atoms_spec (ws := wsX3_byteAt) B.pre
  have hown : s.vm.findClass RX3 = some m.cls := findClass_of_methodNamed B.named
  have hlocks := B.notSynchronized
  subst hsz
  have hF := hF.self (sz := s.heap.size)
  generalize hAe : fA f s.heap.size = A at hF hZ ⊢
  have hA : ∀ q : Nat, s.heap.size ≤ q → A q := fun q h => by rw [← hAe]; exact Or.inr h
  have hS : va_S A s.heap s.heap [] := va_S.rf
  have hin_X3 : ∀ w ∈ wsX30, w ∈ wsX3_byteAt := by decide +kernel
  have hl := lv_entry ([.ref a0, .int x1]) (n := 2) (Nat.le_of_ble_eq_true rfl)
  rw [lg_entry_eq]
  generalize (lg_sl ([.ref a0, .int x1]) ++ List.replicate (2 - (lg_sl ([.ref a0, .int x1])).length) Slot.unset).toArray = ls at hl ⊢
  have hl : lv_has ls 2 [(0, .ref a0), (1, .int x1)] := hl
  unfold wp_X3_byteAt at h
  refine lv_iload_n hx hb dX3_byteAt_0 rfl (lv_at hl 1 rfl) ?_
  obtain ⟨h1, h2⟩ := h
  refine lv_if_lt (tgt := 22) hx hb dX3_byteAt_1 (by decide) (fun c_1 => ?_) (fun c_1 => ?_)
  · have h := h1 c_1
    refine lv_iconst (v := (-1 : Int32)) hx hb dX3_byteAt_22 (by decide) ?_
    exact W.iret (v := (-1 : Int32)) hx hb hr (fun t ht hW => ⟨⟨(-1 : Int32), f, rfl, ⟨h, rfl⟩, by rw [ht]; exact hF, FK.moved hW.alike hK⟩, hS.F ht⟩) hS.2.2 dX3_byteAt_23
  · have h := h2 c_1
    refine lv_iload_n hx hb dX3_byteAt_4 rfl (lv_at hl 1 rfl) ?_
    refine lv_aload_n hx hb dX3_byteAt_5 rfl (lv_at hl 0 rfl) ?_
    obtain ⟨fs_3, a_2, he_fs_3, hv_fs_3, h⟩ := h
    refine fw_get (C := RX3) (T := TX3) (N := 1) hx hb hts hin_X3 hown hK hF he_fs_3 rfl 0 (by decide) (hts (.fieldLink RX3 7 "FrontCodedIndex$Key" "bytes" "[B") (by decide +kernel)) (fun _ h9 => h9) hv_fs_3 dX3_byteAt_6 ?_
    obtain ⟨t_q_5, q_5, he_q_5, ht_q_5, h⟩ := h
    refine fw_alen hx hb hK hF he_q_5 ht_q_5 dX3_byteAt_9 ?_
    refine lv_topi (fun v_4 e_v_4 => ?_)
    have h := h v_4 e_v_4
    obtain ⟨h1, h2⟩ := h
    refine lv_icmp_ge (tgt := 22) hx hb dX3_byteAt_10 (by decide) (fun c_6 => ?_) (fun c_6 => ?_)
    · have h := h1 c_6
      refine lv_iconst (v := (-1 : Int32)) hx hb dX3_byteAt_22 (by decide) ?_
      exact W.iret (v := (-1 : Int32)) hx hb hr (fun t ht hW => ⟨⟨(-1 : Int32), f, rfl, ⟨h, rfl⟩, by rw [ht]; exact hF, FK.moved hW.alike hK⟩, hS.F ht⟩) hS.2.2 dX3_byteAt_23
    · have h := h2 c_6
      refine lv_aload_n hx hb dX3_byteAt_13 rfl (lv_at hl 0 rfl) ?_
      obtain ⟨fs_8, a_7, he_fs_8, hv_fs_8, h⟩ := h
      refine fw_get (C := RX3) (T := TX3) (N := 1) hx hb hts hin_X3 hown hK hF he_fs_8 rfl 0 (by decide) (hts (.fieldLink RX3 7 "FrontCodedIndex$Key" "bytes" "[B") (by decide +kernel)) (fun _ h9 => h9) hv_fs_8 dX3_byteAt_14 ?_
      refine lv_iload_n hx hb dX3_byteAt_17 rfl (lv_at hl 1 rfl) ?_
      obtain ⟨n_q_10, q_10, he_q_10, hi_q_10, h⟩ := h
      refine fw_bald hx hb hK hF he_q_10 hi_q_10 dX3_byteAt_18 ?_
      refine lv_topi (fun v_9 e_v_9 => ?_)
      have h := h v_9 e_v_9
      refine lv_goto (tgt := 23) hx hb dX3_byteAt_19 (by decide) ?_
      exact W.iret (v := v_9) hx hb hr (fun t ht hW => ⟨⟨v_9, f, rfl, ⟨h, rfl⟩, by rw [ht]; exact hF, FK.moved hW.alike hK⟩, hS.F ht⟩) hS.2.2 dX3_byteAt_23
theorem dX3_compareWith_0 : decode cX3_compareWith 0 = .ok (.aload_n 0, 1) := by decide +kernel
theorem dX3_compareWith_1 : decode cX3_compareWith 1 = .ok (.aload_n 1, 1) := by decide +kernel
theorem dX3_compareWith_2 : decode cX3_compareWith 2 = .ok (.invokevirtual 13, 3) := by decide +kernel
theorem dX3_compareWith_5 : decode cX3_compareWith 5 = .ok (.istore_n 2, 1) := by decide +kernel
theorem dX3_compareWith_6 : decode cX3_compareWith 6 = .ok (.aload_n 0, 1) := by decide +kernel
theorem dX3_compareWith_7 : decode cX3_compareWith 7 = .ok (.iload_n 2, 1) := by decide +kernel
theorem dX3_compareWith_8 : decode cX3_compareWith 8 = .ok (.invokevirtual 17, 3) := by decide +kernel
theorem dX3_compareWith_11 : decode cX3_compareWith 11 = .ok (.aload_n 1, 1) := by decide +kernel
theorem dX3_compareWith_12 : decode cX3_compareWith 12 = .ok (.iload_n 2, 1) := by decide +kernel
theorem dX3_compareWith_13 : decode cX3_compareWith 13 = .ok (.invokevirtual 17, 3) := by decide +kernel
theorem dX3_compareWith_16 : decode cX3_compareWith 16 = .ok (.isub, 1) := by decide +kernel
theorem dX3_compareWith_17 : decode cX3_compareWith 17 = .ok (.ireturn, 1) := by decide +kernel
set_option maxRecDepth 20000 in
theorem ggX3_compareWith_X3_byteAt : GoodIn wsX3_compareWith wsX3_byteAt := goodIn_r _ [10, 6, 11] (by decide +kernel) (by decide +kernel)
set_option maxRecDepth 20000 in
theorem ggX3_compareWith_X3_sharedWith : GoodIn wsX3_compareWith wsX3_sharedWith := goodIn_r _ [5, 6, 11] (by decide +kernel) (by decide +kernel)
def wp_X3_compareWith (a0 : Nat) (a1 : Nat) (f : FT) (K : Int32 → Prop) : Prop :=
  isO f a0 6 ∧ wp_X3_sharedWith a0 a1 f (fun r_1 => isO f a0 6 ∧ wp_X3_byteAt a0 r_1 f (fun r_2 => isO f a1 6 ∧ wp_X3_byteAt a1 r_1 f (fun r_3 => K (r_2 - r_3))))
set_option maxHeartbeats 4000000 in
set_option maxRecDepth 100000 in
theorem cc_X3_compareWith (l : Launch) (G : GG) {f : FT} {sz : Nat} {a0 : Nat} {a1 : Nat} {K : Int32 → Prop} (h : wp_X3_compareWith a0 a1 f K) : Met l yX3_compareWith wsX3_compareWith ({ frames := 1, cells := 0, slots := 0, locals := 22 } : Room) (FP G [.ref a0, .ref a1] f sz) (va_Qi (fun r f9 => K r ∧ f9 = f : Int32 → FT → Prop) (FB G (fA f sz)) (fA f sz)) 0 0 (fA f sz) := by
  refine Met.ofW (cc := cX3_compareWith) (maxL := 3) (ret := (some .int)) (by decide) rfl ?_
  intro p e s m args below meth c s₁ B hml hv
  obtain ⟨rfl, hsz, hF, hK, hZ⟩ := hv
  have hx := B.exec
  have hb := B.bytes
  have hr := B.returns
  have hts := atoms_spec (ws := wsX3_compareWith) B.pre
  have hown : s.vm.findClass RX3 = some m.cls := findClass_of_methodNamed B.named
  have hlocks := B.notSynchronized
  subst hsz
  have hF := hF.self (sz := s.heap.size)
  generalize hAe : fA f s.heap.size = A at hF hZ ⊢
  have hA : ∀ q : Nat, s.heap.size ≤ q → A q := fun q h => by rw [← hAe]; exact Or.inr h
  have hS : va_S A s.heap s.heap [] := va_S.rf
  have hl := lv_entry ([.ref a0, .ref a1]) (n := 3) (Nat.le_of_ble_eq_true rfl)
  rw [lg_entry_eq]
  generalize (lg_sl ([.ref a0, .ref a1]) ++ List.replicate (3 - (lg_sl ([.ref a0, .ref a1])).length) Slot.unset).toArray = ls at hl ⊢
  have hl : lv_has ls 3 [(0, .ref a0), (1, .ref a1)] := hl
  unfold wp_X3_compareWith at h
  refine lv_aload_n hx hb dX3_compareWith_0 rfl (lv_at hl 0 rfl) ?_
  refine lv_aload_n hx hb dX3_compareWith_1 rfl (lv_at hl 1 rfl) ?_
  obtain ⟨⟨fs_r_1, hrc_r_1⟩, h⟩ := h
  refine fw_cV_i_p (As := [.ref a1]) (rest := []) ⟨hx, hb, hml, hown, hts⟩ (cc_X3_sharedWith l G h) (⟨callB_of 1 hts ggX3_compareWith_X3_sharedWith rfl rfl rfl (hts (.initialized RX3) (by decide +kernel)) (hts (.methodLink RX3 13 yX3_sharedWith) (by decide +kernel)) (by decide +kernel) ⟨Nat.le_of_ble_eq_true rfl, Nat.le_of_ble_eq_true rfl⟩, hts (.instanceMethod yX3_sharedWith) (by decide +kernel), hts (.selects RX3 yX3_sharedWith yX3_sharedWith) (by decide +kernel)⟩) rfl hrc_r_1 hK hZ hF hS hA rfl hl.1 rfl (Nat.le_of_ble_eq_true rfl) dX3_compareWith_2 ⟨Nat.zero_le _, Nat.zero_le _⟩ (fun r_1 H locs h hF hS => ?_)
  refine lv_istore_n (lv' := [(2, .int r_1), (0, .ref a0), (1, .ref a1)]) hx hb dX3_compareWith_5 rfl hl (by decide) rfl (fun ls hl => ?_)
  refine lv_aload_n hx hb dX3_compareWith_6 rfl (lv_at hl 1 rfl) ?_
  refine lv_iload_n hx hb dX3_compareWith_7 rfl (lv_at hl 0 rfl) ?_
  obtain ⟨⟨fs_r_2, hrc_r_2⟩, h⟩ := h
  refine fw_cV_i_p (As := [.int r_1]) (rest := []) ⟨hx, hb, hml, hown, hts⟩ (cc_X3_byteAt l G h) (⟨callB_of 1 hts ggX3_compareWith_X3_byteAt rfl rfl rfl (hts (.initialized RX3) (by decide +kernel)) (hts (.methodLink RX3 17 yX3_byteAt) (by decide +kernel)) (by decide +kernel) ⟨Nat.le_of_ble_eq_true rfl, Nat.le_of_ble_eq_true rfl⟩, hts (.instanceMethod yX3_byteAt) (by decide +kernel), hts (.selects RX3 yX3_byteAt yX3_byteAt) (by decide +kernel)⟩) rfl hrc_r_2 hK hZ hF hS hA rfl hl.1 rfl (Nat.le_of_ble_eq_true rfl) dX3_compareWith_8 ⟨Nat.zero_le _, Nat.zero_le _⟩ (fun r_2 H locs h hF hS => ?_)
  refine lv_aload_n hx hb dX3_compareWith_11 rfl (lv_at hl 2 rfl) ?_
  refine lv_iload_n hx hb dX3_compareWith_12 rfl (lv_at hl 0 rfl) ?_
  obtain ⟨⟨fs_r_3, hrc_r_3⟩, h⟩ := h
  refine fw_cV_i_p (As := [.int r_1]) (rest := [.int r_2]) ⟨hx, hb, hml, hown, hts⟩ (cc_X3_byteAt l G h) (⟨callB_of 1 hts ggX3_compareWith_X3_byteAt rfl rfl rfl (hts (.initialized RX3) (by decide +kernel)) (hts (.methodLink RX3 17 yX3_byteAt) (by decide +kernel)) (by decide +kernel) ⟨Nat.le_of_ble_eq_true rfl, Nat.le_of_ble_eq_true rfl⟩, hts (.instanceMethod yX3_byteAt) (by decide +kernel), hts (.selects RX3 yX3_byteAt yX3_byteAt) (by decide +kernel)⟩) rfl hrc_r_3 hK hZ hF hS hA rfl hl.1 rfl (Nat.le_of_ble_eq_true rfl) dX3_compareWith_13 ⟨Nat.zero_le _, Nat.zero_le _⟩ (fun r_3 H locs h hF hS => ?_)
  refine lv_isub hx hb dX3_compareWith_16 ?_
  exact W.iret (v := (r_2 - r_3)) hx hb hr (fun t ht hW => ⟨⟨(r_2 - r_3), f, rfl, ⟨h, rfl⟩, by rw [ht]; exact hF, FK.moved hW.alike hK⟩, hS.F ht⟩) hS.2.2 dX3_compareWith_17
theorem dX4_countBelow_0 : decode cX4_countBelow 0 = .ok (.iconst 0, 1) := by decide +kernel
theorem dX4_countBelow_1 : decode cX4_countBelow 1 = .ok (.istore_n 3, 1) := by decide +kernel
theorem dX4_countBelow_2 : decode cX4_countBelow 2 = .ok (.aload_n 0, 1) := by decide +kernel
theorem dX4_countBelow_3 : decode cX4_countBelow 3 = .ok (.getfield 10, 3) := by decide +kernel
theorem dX4_countBelow_6 : decode cX4_countBelow 6 = .ok (.invokevirtual 25, 3) := by decide +kernel
theorem dX4_countBelow_9 : decode cX4_countBelow 9 = .ok (.istore 4, 2) := by decide +kernel
theorem dX4_countBelow_11 : decode cX4_countBelow 11 = .ok (.iload_n 3, 1) := by decide +kernel
theorem dX4_countBelow_12 : decode cX4_countBelow 12 = .ok (.iload 4, 2) := by decide +kernel
theorem dX4_countBelow_14 : decode cX4_countBelow 14 = .ok (.if_icmp .ge 52, 3) := by decide +kernel
theorem dX4_countBelow_17 : decode cX4_countBelow 17 = .ok (.iload_n 3, 1) := by decide +kernel
theorem dX4_countBelow_18 : decode cX4_countBelow 18 = .ok (.iload 4, 2) := by decide +kernel
theorem dX4_countBelow_20 : decode cX4_countBelow 20 = .ok (.iadd, 1) := by decide +kernel
theorem dX4_countBelow_21 : decode cX4_countBelow 21 = .ok (.iconst 2, 1) := by decide +kernel
theorem dX4_countBelow_22 : decode cX4_countBelow 22 = .ok (.idiv, 1) := by decide +kernel
theorem dX4_countBelow_23 : decode cX4_countBelow 23 = .ok (.istore 5, 2) := by decide +kernel
theorem dX4_countBelow_25 : decode cX4_countBelow 25 = .ok (.aload_n 0, 1) := by decide +kernel
theorem dX4_countBelow_26 : decode cX4_countBelow 26 = .ok (.iload 5, 2) := by decide +kernel
theorem dX4_countBelow_28 : decode cX4_countBelow 28 = .ok (.invokevirtual 50, 3) := by decide +kernel
theorem dX4_countBelow_31 : decode cX4_countBelow 31 = .ok (.aload_n 1, 1) := by decide +kernel
theorem dX4_countBelow_32 : decode cX4_countBelow 32 = .ok (.invokevirtual 54, 3) := by decide +kernel
theorem dX4_countBelow_35 : decode cX4_countBelow 35 = .ok (.istore 6, 2) := by decide +kernel
theorem dX4_countBelow_37 : decode cX4_countBelow 37 = .ok (.iload 6, 2) := by decide +kernel
theorem dX4_countBelow_39 : decode cX4_countBelow 39 = .ok (.ifCond .lt 12, 3) := by decide +kernel
theorem dX4_countBelow_42 : decode cX4_countBelow 42 = .ok (.iload 6, 2) := by decide +kernel
theorem dX4_countBelow_44 : decode cX4_countBelow 44 = .ok (.ifCond .ne 15, 3) := by decide +kernel
theorem dX4_countBelow_47 : decode cX4_countBelow 47 = .ok (.iload_n 2, 1) := by decide +kernel
theorem dX4_countBelow_48 : decode cX4_countBelow 48 = .ok (.ifCond .eq 11, 3) := by decide +kernel
theorem dX4_countBelow_51 : decode cX4_countBelow 51 = .ok (.iload 5, 2) := by decide +kernel
theorem dX4_countBelow_53 : decode cX4_countBelow 53 = .ok (.iconst 1, 1) := by decide +kernel
theorem dX4_countBelow_54 : decode cX4_countBelow 54 = .ok (.iadd, 1) := by decide +kernel
theorem dX4_countBelow_55 : decode cX4_countBelow 55 = .ok (.istore_n 3, 1) := by decide +kernel
theorem dX4_countBelow_56 : decode cX4_countBelow 56 = .ok (.goto 7, 3) := by decide +kernel
theorem dX4_countBelow_59 : decode cX4_countBelow 59 = .ok (.iload 5, 2) := by decide +kernel
theorem dX4_countBelow_61 : decode cX4_countBelow 61 = .ok (.istore 4, 2) := by decide +kernel
theorem dX4_countBelow_63 : decode cX4_countBelow 63 = .ok (.goto (-52), 3) := by decide +kernel
theorem dX4_countBelow_66 : decode cX4_countBelow 66 = .ok (.iload_n 3, 1) := by decide +kernel
theorem dX4_countBelow_67 : decode cX4_countBelow 67 = .ok (.ireturn, 1) := by decide +kernel
set_option maxRecDepth 20000 in
theorem ggX4_countBelow_Jx4a65c_size_8abf5 : GoodIn wsX4_countBelow wsJx4a65c_size_8abf5 := goodIn_r _ [6, 7, 48, 49, 50] (by decide +kernel) (by decide +kernel)
set_option maxRecDepth 20000 in
theorem ggX4_countBelow_X3_compareWith : GoodIn wsX4_countBelow wsX3_compareWith := goodIn_r _ [36, 37, 38, 39, 35, 40, 41, 42, 43, 44, 45, 51] (by decide +kernel) (by decide +kernel)
set_option maxRecDepth 20000 in
theorem ggX4_countBelow_X4_at : GoodIn wsX4_countBelow wsX4_at := goodIn_r _ [12, 1, 13, 14, 2, 3, 4, 5, 6, 7, 15, 16, 17, 18, 19, 20, 21, 22, 23, 24, 25, 26, 27, 28, 29, 30, 31, 46, 47, 48, 49, 50] (by decide +kernel) (by decide +kernel)
def wp_X4_countBelow_51 (a0 : Nat) (a1 : Nat) (x2 : Int32) (y4 : Int32) (y5 : Int32) (f : FT) (K : Int32 → Prop) (C11 : Int32 × Int32 → Prop) : Prop :=
  ∀ v_1 : Int32, v_1 = (y5 + (1 : Int32)) → C11 (v_1, y4)
def wp_X4_countBelow_59 (a0 : Nat) (a1 : Nat) (x2 : Int32) (y3 : Int32) (y5 : Int32) (f : FT) (K : Int32 → Prop) (C11 : Int32 × Int32 → Prop) : Prop :=
  C11 (y3, y5)
def wp_X4_countBelow_11 (a0 : Nat) (a1 : Nat) (x2 : Int32) (f : FT) (K : Int32 → Prop)  (C11 : Int32 × Int32 → Prop) : Int32 × Int32 → Prop := fun s9 => match s9 with
  | (y3, y4) => ((y4 ≤ y3 → K y3) ∧
 (¬ (y4 ≤ y3) → (¬ (2 : Int32) = 0) ∧ ∀ v_4 : Int32, v_4 = ((y3 + y4) / (2 : Int32)) → isO f a0 7 ∧ wp_X4_at a0 v_4 f (fun a_6 => isO f a_6 6 ∧ wp_X3_compareWith a_6 a1 f (fun r_7 => ((r_7 < (0 : Int32) → wp_X4_countBelow_51 a0 a1 x2 y4 v_4 f K C11) ∧
 (¬ (r_7 < (0 : Int32)) → ((¬ r_7 = (0 : Int32) → wp_X4_countBelow_59 a0 a1 x2 y3 v_4 f K C11) ∧
 (r_7 = (0 : Int32) → ((x2 = (0 : Int32) → wp_X4_countBelow_59 a0 a1 x2 y3 v_4 f K C11) ∧
 (¬ (x2 = (0 : Int32)) → wp_X4_countBelow_51 a0 a1 x2 y4 v_4 f K C11))))))))))
def wp_X4_countBelow (a0 : Nat) (a1 : Nat) (x2 : Int32) (f : FT) (K : Int32 → Prop) : Prop :=
  gA f a0 7 0 fun a_11 => isO f a_11 2 ∧ wp_Jx4a65c_size_8abf5 a_11 f (fun r_13 => ∃ n_14, loopW (wp_X4_countBelow_11 a0 a1 x2 f K) n_14 ((0 : Int32), r_13))
set_option maxHeartbeats 4000000 in
set_option maxRecDepth 100000 in
theorem cc_X4_countBelow (l : Launch) (G : GG) {f : FT} {sz : Nat} {a0 : Nat} {a1 : Nat} {x2 : Int32} {K : Int32 → Prop} (h : wp_X4_countBelow a0 a1 x2 f K) : Met l yX4_countBelow wsX4_countBelow ({ frames := 4, cells := 0, slots := 0, locals := 85 } : Room) (FP G [.ref a0, .ref a1, .int x2] f sz) (va_Qi (fun r f9 => K r ∧ f9 = f : Int32 → FT → Prop) (FB G (fA f sz)) (fA f sz)) 0 0 (fA f sz) := by
  refine Met.ofW (cc := cX4_countBelow) (maxL := 7) (ret := (some .int)) (by decide) rfl ?_
  intro p e s m args below meth c s₁ B hml hv
  obtain ⟨rfl, hsz, hF, hK, hZ⟩ := hv
  have hx := B.exec
  have hb := B.bytes
  have hr := B.returns
  have hts := atoms_spec (ws := wsX4_countBelow) B.pre
  have hown : s.vm.findClass RX4 = some m.cls := findClass_of_methodNamed B.named
  have hlocks := B.notSynchronized
  subst hsz
  have hF := hF.self (sz := s.heap.size)
  generalize hAe : fA f s.heap.size = A at hF hZ ⊢
  have hA : ∀ q : Nat, s.heap.size ≤ q → A q := fun q h => by rw [← hAe]; exact Or.inr h
  have hS : va_S A s.heap s.heap [] := va_S.rf
  have hin_X4 : ∀ w ∈ wsX40, w ∈ wsX4_countBelow := by decide +kernel
  have L11 : ∀  (j9 : Nat) (y3 : Int32) (y4 : Int32) (H : Heap) (locs : List Loc) (ls : Array Slot), loopW (wp_X4_countBelow_11 a0 a1 x2 f K ) j9 (y3, y4) → Fw G A f H → va_S A s.heap H locs → lv_has ls 7 [(0, .ref a0), (1, .ref a1), (2, .int x2), (3, .int y3), (4, .int y4)] → W p l e ({ frames := 4, cells := 0, slots := 0, locals := 85 } : Room) s m ([.ref a0, .ref a1, .int x2] : List Value).toArray below meth c H locs 0 0 (MQ below (va_Qi (fun r f9 => K r ∧ f9 = f : Int32 → FT → Prop) (FB G A) A) ([.ref a0, .ref a1, .int x2] : List Value).toArray s 0 0 A) (F0 m 11 ls []) := by
    intro  j9
    induction j9 with
    | zero => intro y3 y4 H locs ls h; exact h.elim
    | succ j9 ih11 =>
      intro y3 y4 H locs ls h hF hS hl
      have h : wp_X4_countBelow_11 a0 a1 x2 f K  (loopW (wp_X4_countBelow_11 a0 a1 x2 f K ) j9) (y3, y4) := h
      generalize loopW (wp_X4_countBelow_11 a0 a1 x2 f K ) j9 = C11 at ih11 h
      unfold wp_X4_countBelow_11 at h
      have J51 : ∀ (y4 : Int32) (y5 : Int32) (H : Heap) (locs : List Loc) (ls : Array Slot), wp_X4_countBelow_51 a0 a1 x2 y4 y5 f K C11 → Fw G A f H → va_S A s.heap H locs → lv_has ls 7 [(0, .ref a0), (1, .ref a1), (2, .int x2), (4, .int y4), (5, .int y5)] → W p l e ({ frames := 4, cells := 0, slots := 0, locals := 85 } : Room) s m ([.ref a0, .ref a1, .int x2] : List Value).toArray below meth c H locs 0 0 (MQ below (va_Qi (fun r f9 => K r ∧ f9 = f : Int32 → FT → Prop) (FB G A) A) ([.ref a0, .ref a1, .int x2] : List Value).toArray s 0 0 A) (F0 m 51 ls []) := by
        intro y4 y5 H locs ls h hF hS hl
        unfold wp_X4_countBelow_51 at h
        refine lv_iload hx hb dX4_countBelow_51 (lv_at hl 4 rfl) ?_
        refine lv_iconst (v := (1 : Int32)) hx hb dX4_countBelow_53 (by decide) ?_
        refine lv_iadd hx hb dX4_countBelow_54 ?_
        refine lv_topi (fun v_1 e_2 => ?_)
        have h := h v_1 e_2
        refine lv_istore_n (lv' := [(3, .int v_1), (0, .ref a0), (1, .ref a1), (2, .int x2), (4, .int y4), (5, .int y5)]) hx hb dX4_countBelow_55 rfl hl (by decide) rfl (fun ls hl => ?_)
        refine lv_goto (tgt := 63) hx hb dX4_countBelow_56 (by decide) ?_
        refine lv_goto (tgt := 11) hx hb dX4_countBelow_63 (by decide) ?_
        exact ih11 v_1 y4 _ _ _ h hF hS (lv_sub hl [1, 2, 3, 0, 4] rfl)
      have J59 : ∀ (y3 : Int32) (y5 : Int32) (H : Heap) (locs : List Loc) (ls : Array Slot), wp_X4_countBelow_59 a0 a1 x2 y3 y5 f K C11 → Fw G A f H → va_S A s.heap H locs → lv_has ls 7 [(0, .ref a0), (1, .ref a1), (2, .int x2), (3, .int y3), (5, .int y5)] → W p l e ({ frames := 4, cells := 0, slots := 0, locals := 85 } : Room) s m ([.ref a0, .ref a1, .int x2] : List Value).toArray below meth c H locs 0 0 (MQ below (va_Qi (fun r f9 => K r ∧ f9 = f : Int32 → FT → Prop) (FB G A) A) ([.ref a0, .ref a1, .int x2] : List Value).toArray s 0 0 A) (F0 m 59 ls []) := by
        intro y3 y5 H locs ls h hF hS hl
        unfold wp_X4_countBelow_59 at h
        refine lv_iload hx hb dX4_countBelow_59 (lv_at hl 4 rfl) ?_
        refine lv_istore (lv' := [(4, .int y5), (0, .ref a0), (1, .ref a1), (2, .int x2), (3, .int y3), (5, .int y5)]) hx hb dX4_countBelow_61 hl (by decide) rfl (fun ls hl => ?_)
        refine lv_goto (tgt := 11) hx hb dX4_countBelow_63 (by decide) ?_
        exact ih11 y3 y5 _ _ _ h hF hS (lv_sub hl [1, 2, 3, 4, 0] rfl)
      refine lv_iload_n hx hb dX4_countBelow_11 rfl (lv_at hl 3 rfl) ?_
      refine lv_iload hx hb dX4_countBelow_12 (lv_at hl 4 rfl) ?_
      obtain ⟨h1, h2⟩ := h
      refine lv_icmp_ge (tgt := 66) hx hb dX4_countBelow_14 (by decide) (fun c_3 => ?_) (fun c_3 => ?_)
      · have h := h1 c_3
        refine lv_iload_n hx hb dX4_countBelow_66 rfl (lv_at hl 3 rfl) ?_
        exact W.iret (v := y3) hx hb hr (fun t ht hW => ⟨⟨y3, f, rfl, ⟨h, rfl⟩, by rw [ht]; exact hF, FK.moved hW.alike hK⟩, hS.F ht⟩) hS.2.2 dX4_countBelow_67
      · have h := h2 c_3
        refine lv_iload_n hx hb dX4_countBelow_17 rfl (lv_at hl 3 rfl) ?_
        refine lv_iload hx hb dX4_countBelow_18 (lv_at hl 4 rfl) ?_
        refine lv_iadd hx hb dX4_countBelow_20 ?_
        refine lv_iconst (v := (2 : Int32)) hx hb dX4_countBelow_21 (by decide) ?_
        obtain ⟨hne, h⟩ := h
        refine lv_idiv hx hb dX4_countBelow_22 hne ?_
        refine lv_topi (fun v_4 e_5 => ?_)
        have h := h v_4 e_5
        refine lv_istore (lv' := [(5, .int v_4), (0, .ref a0), (1, .ref a1), (2, .int x2), (3, .int y3), (4, .int y4)]) hx hb dX4_countBelow_23 hl (by decide) rfl (fun ls hl => ?_)
        refine lv_aload_n hx hb dX4_countBelow_25 rfl (lv_at hl 1 rfl) ?_
        refine lv_iload hx hb dX4_countBelow_26 (lv_at hl 0 rfl) ?_
        obtain ⟨⟨fs_a_6, hrc_a_6⟩, h⟩ := h
        refine fw_cV_q_p (As := [.int v_4]) (rest := []) ⟨hx, hb, hml, hown, hts⟩ (cc_X4_at l G h) (⟨callB_of 1 hts ggX4_countBelow_X4_at rfl rfl rfl (hts (.initialized RX4) (by decide +kernel)) (hts (.methodLink RX4 50 yX4_at) (by decide +kernel)) (by decide +kernel) ⟨Nat.le_of_ble_eq_true rfl, Nat.le_of_ble_eq_true rfl⟩, hts (.instanceMethod yX4_at) (by decide +kernel), hts (.selects RX4 yX4_at yX4_at) (by decide +kernel)⟩) rfl hrc_a_6 hK hZ hF hS hA rfl hl.1 rfl (Nat.le_of_ble_eq_true rfl) dX4_countBelow_28 ⟨Nat.zero_le _, Nat.zero_le _⟩ (fun a_6 H locs h hF hS => ?_)
        refine lv_aload_n hx hb dX4_countBelow_31 rfl (lv_at hl 2 rfl) ?_
        obtain ⟨⟨fs_r_7, hrc_r_7⟩, h⟩ := h
        refine fw_cV_i_p (As := [.ref a1]) (rest := []) ⟨hx, hb, hml, hown, hts⟩ (cc_X3_compareWith l G h) (⟨callB_of 1 hts ggX4_countBelow_X3_compareWith rfl rfl rfl (hts (.initialized RX3) (by decide +kernel)) (hts (.methodLink RX4 54 yX3_compareWith) (by decide +kernel)) (by decide +kernel) ⟨Nat.le_of_ble_eq_true rfl, Nat.le_of_ble_eq_true rfl⟩, hts (.instanceMethod yX3_compareWith) (by decide +kernel), hts (.selects RX3 yX3_compareWith yX3_compareWith) (by decide +kernel)⟩) rfl hrc_r_7 hK hZ hF hS hA rfl hl.1 rfl (Nat.le_of_ble_eq_true rfl) dX4_countBelow_32 ⟨Nat.zero_le _, Nat.zero_le _⟩ (fun r_7 H locs h hF hS => ?_)
        refine lv_istore (lv' := [(6, .int r_7), (5, .int v_4), (0, .ref a0), (1, .ref a1), (2, .int x2), (3, .int y3), (4, .int y4)]) hx hb dX4_countBelow_35 hl (by decide) rfl (fun ls hl => ?_)
        refine lv_iload hx hb dX4_countBelow_37 (lv_at hl 0 rfl) ?_
        obtain ⟨h1, h2⟩ := h
        refine lv_if_lt (tgt := 51) hx hb dX4_countBelow_39 (by decide) (fun c_8 => ?_) (fun c_8 => ?_)
        · have h := h1 c_8
          exact J51 y4 v_4 _ _ _ h hF hS (lv_sub hl [2, 3, 4, 6, 1] rfl)
        · have h := h2 c_8
          refine lv_iload hx hb dX4_countBelow_42 (lv_at hl 0 rfl) ?_
          obtain ⟨h1, h2⟩ := h
          refine lv_if_ne (tgt := 59) hx hb dX4_countBelow_44 (by decide) (fun c_9 => ?_) (fun c_9 => ?_)
          · have h := h1 c_9
            exact J59 y3 v_4 _ _ _ h hF hS (lv_sub hl [2, 3, 4, 5, 1] rfl)
          · have h := h2 c_9
            refine lv_iload_n hx hb dX4_countBelow_47 rfl (lv_at hl 4 rfl) ?_
            obtain ⟨h1, h2⟩ := h
            refine lv_if_eq (tgt := 59) hx hb dX4_countBelow_48 (by decide) (fun c_10 => ?_) (fun c_10 => ?_)
            · have h := h1 c_10
              exact J59 y3 v_4 _ _ _ h hF hS (lv_sub hl [2, 3, 4, 5, 1] rfl)
            · have h := h2 c_10
              exact J51 y4 v_4 _ _ _ h hF hS (lv_sub hl [2, 3, 4, 6, 1] rfl)
  have hl := lv_entry ([.ref a0, .ref a1, .int x2]) (n := 7) (Nat.le_of_ble_eq_true rfl)
  rw [lg_entry_eq]
  generalize (lg_sl ([.ref a0, .ref a1, .int x2]) ++ List.replicate (7 - (lg_sl ([.ref a0, .ref a1, .int x2])).length) Slot.unset).toArray = ls at hl ⊢
  have hl : lv_has ls 7 [(0, .ref a0), (1, .ref a1), (2, .int x2)] := hl
  unfold wp_X4_countBelow at h
  refine lv_iconst (v := (0 : Int32)) hx hb dX4_countBelow_0 (by decide) ?_
  refine lv_istore_n (lv' := [(3, .int (0 : Int32)), (0, .ref a0), (1, .ref a1), (2, .int x2)]) hx hb dX4_countBelow_1 rfl hl (by decide) rfl (fun ls hl => ?_)
  refine lv_aload_n hx hb dX4_countBelow_2 rfl (lv_at hl 1 rfl) ?_
  obtain ⟨fs_12, a_11, he_fs_12, hv_fs_12, h⟩ := h
  refine fw_get (C := RX4) (T := TX4) (N := 2) hx hb hts hin_X4 hown hK hF he_fs_12 rfl 0 (by decide) (hts (.fieldLink RX4 10 "FrontCodedIndex$KeyRow" "cells" "Ljava/util/ArrayList;") (by decide +kernel)) (fun _ h9 => h9) hv_fs_12 dX4_countBelow_3 ?_
  obtain ⟨⟨fs_r_13, hrc_r_13⟩, h⟩ := h
  refine fw_cV_i_p (As := []) (rest := []) ⟨hx, hb, hml, hown, hts⟩ (cc_Jx4a65c_size_8abf5 l G h) (⟨callB_of 0 hts ggX4_countBelow_Jx4a65c_size_8abf5 rfl rfl rfl (hts (.initialized RJx4a65c) (by decide +kernel)) (hts (.methodLink RX4 25 yJx4a65c_size_8abf5) (by decide +kernel)) (by decide +kernel) ⟨Nat.le_of_ble_eq_true rfl, Nat.le_of_ble_eq_true rfl⟩, hts (.instanceMethod yJx4a65c_size_8abf5) (by decide +kernel), hts (.selects RJx4a65c yJx4a65c_size_8abf5 yJx4a65c_size_8abf5) (by decide +kernel)⟩) rfl hrc_r_13 hK hZ hF hS hA rfl hl.1 rfl (Nat.le_of_ble_eq_true rfl) dX4_countBelow_6 ⟨Nat.zero_le _, Nat.zero_le _⟩ (fun r_13 H locs h hF hS => ?_)
  refine lv_istore (lv' := [(4, .int r_13), (3, .int (0 : Int32)), (0, .ref a0), (1, .ref a1), (2, .int x2)]) hx hb dX4_countBelow_9 hl (by decide) rfl (fun ls hl => ?_)
  obtain ⟨n_14, h⟩ := h
  exact L11 n_14 (0 : Int32) r_13 _ _ _ h hF hS (lv_sub hl [2, 3, 4, 1, 0] rfl)
theorem dJx4a65c_rangeCheckForAdd_d00df_0 : decode cJx4a65c_rangeCheckForAdd_d00df 0 = .ok (.iload_n 1, 1) := by decide +kernel
theorem dJx4a65c_rangeCheckForAdd_d00df_1 : decode cJx4a65c_rangeCheckForAdd_d00df 1 = .ok (.aload_n 0, 1) := by decide +kernel
theorem dJx4a65c_rangeCheckForAdd_d00df_2 : decode cJx4a65c_rangeCheckForAdd_d00df 2 = .ok (.getfield 48, 3) := by decide +kernel
theorem dJx4a65c_rangeCheckForAdd_d00df_5 : decode cJx4a65c_rangeCheckForAdd_d00df 5 = .ok (.if_icmp .gt 7, 3) := by decide +kernel
theorem dJx4a65c_rangeCheckForAdd_d00df_8 : decode cJx4a65c_rangeCheckForAdd_d00df 8 = .ok (.iload_n 1, 1) := by decide +kernel
theorem dJx4a65c_rangeCheckForAdd_d00df_9 : decode cJx4a65c_rangeCheckForAdd_d00df 9 = .ok (.ifCond .ge 16, 3) := by decide +kernel
theorem dJx4a65c_rangeCheckForAdd_d00df_25 : decode cJx4a65c_rangeCheckForAdd_d00df 25 = .ok (.return_, 1) := by decide +kernel
def wp_Jx4a65c_rangeCheckForAdd_d00df (a0 : Nat) (x1 : Int32) (f : FT) (K : Prop) : Prop :=
  gI f a0 2 2 fun v_1 => ((v_1 < x1 → False) ∧
 (¬ (v_1 < x1) → (((0 : Int32) ≤ x1 → K) ∧
 (¬ ((0 : Int32) ≤ x1) → False))))
set_option maxHeartbeats 4000000 in
set_option maxRecDepth 100000 in
theorem cc_Jx4a65c_rangeCheckForAdd_d00df (l : Launch) (G : GG) {f : FT} {sz : Nat} {a0 : Nat} {x1 : Int32} {K : Prop} (h : wp_Jx4a65c_rangeCheckForAdd_d00df a0 x1 f K) : Met l yJx4a65c_rangeCheckForAdd_d00df wsJx4a65c_rangeCheckForAdd_d00df ({ frames := 0, cells := 0, slots := 0, locals := 0 } : Room) (FP G [.ref a0, .int x1] f sz) (va_Qv (fun f9 => K ∧ f9 = f : FT → Prop) (FB G (fA f sz)) (fA f sz)) 0 0 (fA f sz) := by
  refine Met.ofW (cc := cJx4a65c_rangeCheckForAdd_d00df) (maxL := 2) (ret := none) (by decide) rfl ?_
  intro p e s m args below meth c s₁ B hml hv
  obtain ⟨rfl, hsz, hF, hK, hZ⟩ := hv
  have hx := B.exec
  have hb := B.bytes
  have hr := B.returns
  have hts := atoms_spec (ws := wsJx4a65c_rangeCheckForAdd_d00df) B.pre
  have hown : s.vm.findClass RJx4a65c = some m.cls := findClass_of_methodNamed B.named
  have hlocks := B.notSynchronized
  subst hsz
  have hF := hF.self (sz := s.heap.size)
  generalize hAe : fA f s.heap.size = A at hF hZ ⊢
  have hA : ∀ q : Nat, s.heap.size ≤ q → A q := fun q h => by rw [← hAe]; exact Or.inr h
  have hS : va_S A s.heap s.heap [] := va_S.rf
  have hin_Jx4a65c : ∀ w ∈ wsJx4a65c0, w ∈ wsJx4a65c_rangeCheckForAdd_d00df := by decide +kernel
  have hl := lv_entry ([.ref a0, .int x1]) (n := 2) (Nat.le_of_ble_eq_true rfl)
  rw [lg_entry_eq]
  generalize (lg_sl ([.ref a0, .int x1]) ++ List.replicate (2 - (lg_sl ([.ref a0, .int x1])).length) Slot.unset).toArray = ls at hl ⊢
  have hl : lv_has ls 2 [(0, .ref a0), (1, .int x1)] := hl
  unfold wp_Jx4a65c_rangeCheckForAdd_d00df at h
  refine lv_iload_n hx hb dJx4a65c_rangeCheckForAdd_d00df_0 rfl (lv_at hl 1 rfl) ?_
  refine lv_aload_n hx hb dJx4a65c_rangeCheckForAdd_d00df_1 rfl (lv_at hl 0 rfl) ?_
  obtain ⟨fs_2, v_1, he_fs_2, hv_fs_2, h⟩ := h
  refine fw_get (C := RJx4a65c) (T := TJx4a65c) (N := 3) hx hb hts hin_Jx4a65c hown hK hF he_fs_2 rfl 2 (by decide) (hts (.fieldLink RJx4a65c 48 "java/util/ArrayList" "size" "I") (by decide +kernel)) (fun _ h9 => h9) hv_fs_2 dJx4a65c_rangeCheckForAdd_d00df_2 ?_
  obtain ⟨h1, h2⟩ := h
  refine lv_icmp_gt (tgt := 12) hx hb dJx4a65c_rangeCheckForAdd_d00df_5 (by decide) (fun c_3 => ?_) (fun c_3 => ?_)
  · have h := h1 c_3
    exact h.elim
  · have h := h2 c_3
    refine lv_iload_n hx hb dJx4a65c_rangeCheckForAdd_d00df_8 rfl (lv_at hl 1 rfl) ?_
    obtain ⟨h1, h2⟩ := h
    refine lv_if_ge (tgt := 25) hx hb dJx4a65c_rangeCheckForAdd_d00df_9 (by decide) (fun c_4 => ?_) (fun c_4 => ?_)
    · have h := h1 c_4
      exact W.vret hx hb hr (fun t ht hW => ⟨⟨f, rfl, ⟨h, rfl⟩, by rw [ht]; exact hF, FK.moved hW.alike hK⟩, hS.F ht⟩) hS.2.2 dJx4a65c_rangeCheckForAdd_d00df_25
    · have h := h2 c_4
      exact h.elim
theorem dJ8_hugeLength_7cf53_0 : decode cJ8_hugeLength_7cf53 0 = .ok (.iload_n 0, 1) := by decide +kernel
theorem dJ8_hugeLength_7cf53_1 : decode cJ8_hugeLength_7cf53 1 = .ok (.iload_n 1, 1) := by decide +kernel
theorem dJ8_hugeLength_7cf53_2 : decode cJ8_hugeLength_7cf53 2 = .ok (.iadd, 1) := by decide +kernel
theorem dJ8_hugeLength_7cf53_3 : decode cJ8_hugeLength_7cf53 3 = .ok (.istore_n 2, 1) := by decide +kernel
theorem dJ8_hugeLength_7cf53_4 : decode cJ8_hugeLength_7cf53 4 = .ok (.iload_n 2, 1) := by decide +kernel
theorem dJ8_hugeLength_7cf53_5 : decode cJ8_hugeLength_7cf53 5 = .ok (.ifCond .ge 44, 3) := by decide +kernel
theorem dJ8_hugeLength_7cf53_49 : decode cJ8_hugeLength_7cf53 49 = .ok (.iload_n 2, 1) := by decide +kernel
theorem dJ8_hugeLength_7cf53_50 : decode cJ8_hugeLength_7cf53 50 = .ok (.ldc 200, 2) := by decide +kernel
theorem dJ8_hugeLength_7cf53_52 : decode cJ8_hugeLength_7cf53 52 = .ok (.if_icmp .gt 6, 3) := by decide +kernel
theorem dJ8_hugeLength_7cf53_55 : decode cJ8_hugeLength_7cf53 55 = .ok (.ldc 200, 2) := by decide +kernel
theorem dJ8_hugeLength_7cf53_57 : decode cJ8_hugeLength_7cf53 57 = .ok (.ireturn, 1) := by decide +kernel
theorem dJ8_hugeLength_7cf53_58 : decode cJ8_hugeLength_7cf53 58 = .ok (.iload_n 2, 1) := by decide +kernel
theorem dJ8_hugeLength_7cf53_59 : decode cJ8_hugeLength_7cf53 59 = .ok (.ireturn, 1) := by decide +kernel
def wp_J8_hugeLength_7cf53 (x0 : Int32) (x1 : Int32) (f : FT) (K : Int32 → Prop) : Prop :=
  ∀ v_1 : Int32, v_1 = (x0 + x1) → (((0 : Int32) ≤ v_1 → (((2147483639 : Int32) < v_1 → K v_1) ∧
 (¬ ((2147483639 : Int32) < v_1) → K (2147483639 : Int32)))) ∧
 (¬ ((0 : Int32) ≤ v_1) → False))
set_option maxHeartbeats 4000000 in
set_option maxRecDepth 100000 in
theorem cc_J8_hugeLength_7cf53 (l : Launch) (G : GG) {f : FT} {sz : Nat} {x0 : Int32} {x1 : Int32} {K : Int32 → Prop} (h : wp_J8_hugeLength_7cf53 x0 x1 f K) : Met l yJ8_hugeLength_7cf53 wsJ8_hugeLength_7cf53 ({ frames := 0, cells := 0, slots := 0, locals := 0 } : Room) (FP G [.int x0, .int x1] f sz) (va_Qi (fun r f9 => K r ∧ f9 = f : Int32 → FT → Prop) (FB G (fA f sz)) (fA f sz)) 0 0 (fA f sz) := by
  refine Met.ofW (cc := cJ8_hugeLength_7cf53) (maxL := 3) (ret := (some .int)) (by decide) rfl ?_
  intro p e s m args below meth c s₁ B hml hv
  obtain ⟨rfl, hsz, hF, hK, hZ⟩ := hv
  have hx := B.exec
  have hb := B.bytes
  have hr := B.returns
  have hts := atoms_spec (ws := wsJ8_hugeLength_7cf53) B.pre
  have hown : s.vm.findClass RJ8 = some m.cls := findClass_of_methodNamed B.named
  have hlocks := B.notSynchronized
  subst hsz
  have hF := hF.self (sz := s.heap.size)
  generalize hAe : fA f s.heap.size = A at hF hZ ⊢
  have hA : ∀ q : Nat, s.heap.size ≤ q → A q := fun q h => by rw [← hAe]; exact Or.inr h
  have hS : va_S A s.heap s.heap [] := va_S.rf
  have hl := lv_entry ([.int x0, .int x1]) (n := 3) (Nat.le_of_ble_eq_true rfl)
  rw [lg_entry_eq]
  generalize (lg_sl ([.int x0, .int x1]) ++ List.replicate (3 - (lg_sl ([.int x0, .int x1])).length) Slot.unset).toArray = ls at hl ⊢
  have hl : lv_has ls 3 [(0, .int x0), (1, .int x1)] := hl
  unfold wp_J8_hugeLength_7cf53 at h
  refine lv_iload_n hx hb dJ8_hugeLength_7cf53_0 rfl (lv_at hl 0 rfl) ?_
  refine lv_iload_n hx hb dJ8_hugeLength_7cf53_1 rfl (lv_at hl 1 rfl) ?_
  refine lv_iadd hx hb dJ8_hugeLength_7cf53_2 ?_
  refine lv_topi (fun v_1 e_2 => ?_)
  have h := h v_1 e_2
  refine lv_istore_n (lv' := [(2, .int v_1), (0, .int x0), (1, .int x1)]) hx hb dJ8_hugeLength_7cf53_3 rfl hl (by decide) rfl (fun ls hl => ?_)
  refine lv_iload_n hx hb dJ8_hugeLength_7cf53_4 rfl (lv_at hl 0 rfl) ?_
  obtain ⟨h1, h2⟩ := h
  refine lv_if_ge (tgt := 49) hx hb dJ8_hugeLength_7cf53_5 (by decide) (fun c_3 => ?_) (fun c_3 => ?_)
  · have h := h1 c_3
    refine lv_iload_n hx hb dJ8_hugeLength_7cf53_49 rfl (lv_at hl 0 rfl) ?_
    refine lv_ldc hx hb hown (hts (.constant RJ8 200 (2147483639 : Int32)) (by decide +kernel)) dJ8_hugeLength_7cf53_50 ?_
    obtain ⟨h1, h2⟩ := h
    refine lv_icmp_gt (tgt := 58) hx hb dJ8_hugeLength_7cf53_52 (by decide) (fun c_4 => ?_) (fun c_4 => ?_)
    · have h := h1 c_4
      refine lv_iload_n hx hb dJ8_hugeLength_7cf53_58 rfl (lv_at hl 0 rfl) ?_
      exact W.iret (v := v_1) hx hb hr (fun t ht hW => ⟨⟨v_1, f, rfl, ⟨h, rfl⟩, by rw [ht]; exact hF, FK.moved hW.alike hK⟩, hS.F ht⟩) hS.2.2 dJ8_hugeLength_7cf53_59
    · have h := h2 c_4
      refine lv_ldc hx hb hown (hts (.constant RJ8 200 (2147483639 : Int32)) (by decide +kernel)) dJ8_hugeLength_7cf53_55 ?_
      exact W.iret (v := (2147483639 : Int32)) hx hb hr (fun t ht hW => ⟨⟨(2147483639 : Int32), f, rfl, ⟨h, rfl⟩, by rw [ht]; exact hF, FK.moved hW.alike hK⟩, hS.F ht⟩) hS.2.2 dJ8_hugeLength_7cf53_57
  · have h := h2 c_3
    exact h.elim
theorem dJ8_newLength_cabcc_0 : decode cJ8_newLength_cabcc 0 = .ok (.iload_n 0, 1) := by decide +kernel
theorem dJ8_newLength_cabcc_1 : decode cJ8_newLength_cabcc 1 = .ok (.iload_n 1, 1) := by decide +kernel
theorem dJ8_newLength_cabcc_2 : decode cJ8_newLength_cabcc 2 = .ok (.iload_n 2, 1) := by decide +kernel
theorem dJ8_newLength_cabcc_3 : decode cJ8_newLength_cabcc 3 = .ok (.invokestatic 194, 3) := by decide +kernel
theorem dJ8_newLength_cabcc_6 : decode cJ8_newLength_cabcc 6 = .ok (.iadd, 1) := by decide +kernel
theorem dJ8_newLength_cabcc_7 : decode cJ8_newLength_cabcc 7 = .ok (.istore_n 3, 1) := by decide +kernel
theorem dJ8_newLength_cabcc_8 : decode cJ8_newLength_cabcc 8 = .ok (.iconst 0, 1) := by decide +kernel
theorem dJ8_newLength_cabcc_9 : decode cJ8_newLength_cabcc 9 = .ok (.iload_n 3, 1) := by decide +kernel
theorem dJ8_newLength_cabcc_10 : decode cJ8_newLength_cabcc 10 = .ok (.if_icmp .ge 11, 3) := by decide +kernel
theorem dJ8_newLength_cabcc_13 : decode cJ8_newLength_cabcc 13 = .ok (.iload_n 3, 1) := by decide +kernel
theorem dJ8_newLength_cabcc_14 : decode cJ8_newLength_cabcc 14 = .ok (.ldc 200, 2) := by decide +kernel
theorem dJ8_newLength_cabcc_16 : decode cJ8_newLength_cabcc 16 = .ok (.if_icmp .gt 5, 3) := by decide +kernel
theorem dJ8_newLength_cabcc_19 : decode cJ8_newLength_cabcc 19 = .ok (.iload_n 3, 1) := by decide +kernel
theorem dJ8_newLength_cabcc_20 : decode cJ8_newLength_cabcc 20 = .ok (.ireturn, 1) := by decide +kernel
theorem dJ8_newLength_cabcc_21 : decode cJ8_newLength_cabcc 21 = .ok (.iload_n 0, 1) := by decide +kernel
theorem dJ8_newLength_cabcc_22 : decode cJ8_newLength_cabcc 22 = .ok (.iload_n 1, 1) := by decide +kernel
theorem dJ8_newLength_cabcc_23 : decode cJ8_newLength_cabcc 23 = .ok (.invokestatic 201, 3) := by decide +kernel
theorem dJ8_newLength_cabcc_26 : decode cJ8_newLength_cabcc 26 = .ok (.ireturn, 1) := by decide +kernel
set_option maxRecDepth 20000 in
theorem ggJ8_newLength_cabcc_J8_hugeLength_7cf53 : GoodIn wsJ8_newLength_cabcc wsJ8_hugeLength_7cf53 := goodIn_r _ [9, 5] (by decide +kernel) (by decide +kernel)
def wp_J8_newLength_cabcc_21 (x0 : Int32) (x1 : Int32)  (f : FT) (K : Int32 → Prop)  : Prop :=
  wp_J8_hugeLength_7cf53 x0 x1 f (fun r_1 => K r_1)
def wp_J8_newLength_cabcc (x0 : Int32) (x1 : Int32) (x2 : Int32) (f : FT) (K : Int32 → Prop) : Prop :=
  ∀ v_2 : Int32, v_2 = (jmax x1 x2) → ∀ v_3 : Int32, v_3 = (x0 + v_2) → ((v_3 ≤ (0 : Int32) → wp_J8_newLength_cabcc_21 x0 x1 f K) ∧
 (¬ (v_3 ≤ (0 : Int32)) → (((2147483639 : Int32) < v_3 → wp_J8_newLength_cabcc_21 x0 x1 f K) ∧
 (¬ ((2147483639 : Int32) < v_3) → K v_3))))
set_option maxHeartbeats 4000000 in
set_option maxRecDepth 100000 in
theorem cc_J8_newLength_cabcc (l : Launch) (G : GG) {f : FT} {sz : Nat} {x0 : Int32} {x1 : Int32} {x2 : Int32} {K : Int32 → Prop} (h : wp_J8_newLength_cabcc x0 x1 x2 f K) : Met l yJ8_newLength_cabcc wsJ8_newLength_cabcc ({ frames := 1, cells := 0, slots := 0, locals := 22 } : Room) (FP G [.int x0, .int x1, .int x2] f sz) (va_Qi (fun r f9 => K r ∧ f9 = f : Int32 → FT → Prop) (FB G (fA f sz)) (fA f sz)) 0 0 (fA f sz) := by
  refine Met.ofW (cc := cJ8_newLength_cabcc) (maxL := 4) (ret := (some .int)) (by decide) rfl ?_
  intro p e s m args below meth c s₁ B hml hv
  obtain ⟨rfl, hsz, hF, hK, hZ⟩ := hv
  have hx := B.exec
  have hb := B.bytes
  have hr := B.returns
  have hts := atoms_spec (ws := wsJ8_newLength_cabcc) B.pre
  have hown : s.vm.findClass RJ8 = some m.cls := findClass_of_methodNamed B.named
  have hlocks := B.notSynchronized
  subst hsz
  have hF := hF.self (sz := s.heap.size)
  generalize hAe : fA f s.heap.size = A at hF hZ ⊢
  have hA : ∀ q : Nat, s.heap.size ≤ q → A q := fun q h => by rw [← hAe]; exact Or.inr h
  have hS : va_S A s.heap s.heap [] := va_S.rf
  have J21 : ∀ (H : Heap) (locs : List Loc) (ls : Array Slot), wp_J8_newLength_cabcc_21 x0 x1 f K  → Fw G A f H → va_S A s.heap H locs → lv_has ls 4 [(0, .int x0), (1, .int x1)] → W p l e ({ frames := 1, cells := 0, slots := 0, locals := 22 } : Room) s m ([.int x0, .int x1, .int x2] : List Value).toArray below meth c H locs 0 0 (MQ below (va_Qi (fun r f9 => K r ∧ f9 = f : Int32 → FT → Prop) (FB G A) A) ([.int x0, .int x1, .int x2] : List Value).toArray s 0 0 A) (F0 m 21 ls []) := by
    intro H locs ls h hF hS hl
    unfold wp_J8_newLength_cabcc_21 at h
    refine lv_iload_n hx hb dJ8_newLength_cabcc_21 rfl (lv_at hl 0 rfl) ?_
    refine lv_iload_n hx hb dJ8_newLength_cabcc_22 rfl (lv_at hl 1 rfl) ?_
    refine fw_cS_i_p (As := [.int x0, .int x1]) (rest := []) ⟨hx, hb, hml, hown, hts⟩ (cc_J8_hugeLength_7cf53 l G h) (⟨callB_of 2 hts ggJ8_newLength_cabcc_J8_hugeLength_7cf53 rfl rfl rfl (hts (.initialized RJ8) (by decide +kernel)) (hts (.methodLink RJ8 201 yJ8_hugeLength_7cf53) (by decide +kernel)) (by decide +kernel) ⟨Nat.le_of_ble_eq_true rfl, Nat.le_of_ble_eq_true rfl⟩, hts (.static yJ8_hugeLength_7cf53) (by decide +kernel)⟩) hK hZ hF hS hA rfl hl.1 rfl (Nat.le_of_ble_eq_true rfl) dJ8_newLength_cabcc_23 ⟨Nat.zero_le _, Nat.zero_le _⟩ (fun r_1 H locs h hF hS => ?_)
    exact W.iret (v := r_1) hx hb hr (fun t ht hW => ⟨⟨r_1, f, rfl, ⟨h, rfl⟩, by rw [ht]; exact hF, FK.moved hW.alike hK⟩, hS.F ht⟩) hS.2.2 dJ8_newLength_cabcc_26
  have hl := lv_entry ([.int x0, .int x1, .int x2]) (n := 4) (Nat.le_of_ble_eq_true rfl)
  rw [lg_entry_eq]
  generalize (lg_sl ([.int x0, .int x1, .int x2]) ++ List.replicate (4 - (lg_sl ([.int x0, .int x1, .int x2])).length) Slot.unset).toArray = ls at hl ⊢
  have hl : lv_has ls 4 [(0, .int x0), (1, .int x1), (2, .int x2)] := hl
  unfold wp_J8_newLength_cabcc at h
  refine lv_iload_n hx hb dJ8_newLength_cabcc_0 rfl (lv_at hl 0 rfl) ?_
  refine lv_iload_n hx hb dJ8_newLength_cabcc_1 rfl (lv_at hl 1 rfl) ?_
  refine lv_iload_n hx hb dJ8_newLength_cabcc_2 rfl (lv_at hl 2 rfl) ?_
  refine va_mmax hx hb (hml.trans hl.1.symm) hown (hts (.methodLink RJ8 194 Lib.Math.max.name) (by decide +kernel)) (hts (.static Lib.Math.max.name) (by decide +kernel)) (hts (.initialized "java/lang/Math") (by decide +kernel)) (hts (.code Lib.Math.max.name Lib.Math.max.code 2 (some .int)) (by decide +kernel)) (Nat.le_of_ble_eq_true rfl) (Nat.le_of_ble_eq_true rfl) (Nat.zero_le _) (Nat.zero_le _) dJ8_newLength_cabcc_3 ?_
  refine lv_topi (fun v_2 e_v_2 => ?_)
  have h := h v_2 e_v_2
  refine lv_iadd hx hb dJ8_newLength_cabcc_6 ?_
  refine lv_topi (fun v_3 e_4 => ?_)
  have h := h v_3 e_4
  refine lv_istore_n (lv' := [(3, .int v_3), (0, .int x0), (1, .int x1), (2, .int x2)]) hx hb dJ8_newLength_cabcc_7 rfl hl (by decide) rfl (fun ls hl => ?_)
  refine lv_iconst (v := (0 : Int32)) hx hb dJ8_newLength_cabcc_8 (by decide) ?_
  refine lv_iload_n hx hb dJ8_newLength_cabcc_9 rfl (lv_at hl 0 rfl) ?_
  obtain ⟨h1, h2⟩ := h
  refine lv_icmp_ge (tgt := 21) hx hb dJ8_newLength_cabcc_10 (by decide) (fun c_5 => ?_) (fun c_5 => ?_)
  · have h := h1 c_5
    exact J21  _ _ _ h hF hS (lv_sub hl [1, 2] rfl)
  · have h := h2 c_5
    refine lv_iload_n hx hb dJ8_newLength_cabcc_13 rfl (lv_at hl 0 rfl) ?_
    refine lv_ldc hx hb hown (hts (.constant RJ8 200 (2147483639 : Int32)) (by decide +kernel)) dJ8_newLength_cabcc_14 ?_
    obtain ⟨h1, h2⟩ := h
    refine lv_icmp_gt (tgt := 21) hx hb dJ8_newLength_cabcc_16 (by decide) (fun c_6 => ?_) (fun c_6 => ?_)
    · have h := h1 c_6
      exact J21  _ _ _ h hF hS (lv_sub hl [1, 2] rfl)
    · have h := h2 c_6
      refine lv_iload_n hx hb dJ8_newLength_cabcc_19 rfl (lv_at hl 0 rfl) ?_
      exact W.iret (v := v_3) hx hb hr (fun t ht hW => ⟨⟨v_3, f, rfl, ⟨h, rfl⟩, by rw [ht]; exact hF, FK.moved hW.alike hK⟩, hS.F ht⟩) hS.2.2 dJ8_newLength_cabcc_20
theorem dJ7_copyOf_6403c_0 : decode cJ7_copyOf_6403c 0 = .ok (.aload_n 2, 1) := by decide +kernel
theorem dJ7_copyOf_6403c_1 : decode cJ7_copyOf_6403c 1 = .ok (.ldc 110, 2) := by decide +kernel
theorem dJ7_copyOf_6403c_3 : decode cJ7_copyOf_6403c 3 = .ok (.if_acmp .ne 10, 3) := by decide +kernel
theorem dJ7_copyOf_6403c_6 : decode cJ7_copyOf_6403c 6 = .ok (.iload_n 1, 1) := by decide +kernel
theorem dJ7_copyOf_6403c_7 : decode cJ7_copyOf_6403c 7 = .ok (.anewarray 2, 3) := by decide +kernel
theorem dJ7_copyOf_6403c_10 : decode cJ7_copyOf_6403c 10 = .ok (.goto 14, 3) := by decide +kernel
theorem dJ7_copyOf_6403c_24 : decode cJ7_copyOf_6403c 24 = .ok (.astore_n 3, 1) := by decide +kernel
theorem dJ7_copyOf_6403c_25 : decode cJ7_copyOf_6403c 25 = .ok (.aload_n 0, 1) := by decide +kernel
theorem dJ7_copyOf_6403c_26 : decode cJ7_copyOf_6403c 26 = .ok (.iconst 0, 1) := by decide +kernel
theorem dJ7_copyOf_6403c_27 : decode cJ7_copyOf_6403c 27 = .ok (.aload_n 3, 1) := by decide +kernel
theorem dJ7_copyOf_6403c_28 : decode cJ7_copyOf_6403c 28 = .ok (.iconst 0, 1) := by decide +kernel
theorem dJ7_copyOf_6403c_29 : decode cJ7_copyOf_6403c 29 = .ok (.aload_n 0, 1) := by decide +kernel
theorem dJ7_copyOf_6403c_30 : decode cJ7_copyOf_6403c 30 = .ok (.arraylength, 1) := by decide +kernel
theorem dJ7_copyOf_6403c_31 : decode cJ7_copyOf_6403c 31 = .ok (.iload_n 1, 1) := by decide +kernel
theorem dJ7_copyOf_6403c_32 : decode cJ7_copyOf_6403c 32 = .ok (.invokestatic 304, 3) := by decide +kernel
theorem dJ7_copyOf_6403c_35 : decode cJ7_copyOf_6403c 35 = .ok (.invokestatic 150, 3) := by decide +kernel
theorem dJ7_copyOf_6403c_38 : decode cJ7_copyOf_6403c 38 = .ok (.aload_n 3, 1) := by decide +kernel
theorem dJ7_copyOf_6403c_39 : decode cJ7_copyOf_6403c 39 = .ok (.areturn, 1) := by decide +kernel
def wp_J7_copyOf_6403c_24 (zd : Nat) (a0 : Nat) (x1 : Int32) (b0 : Nat) (f : FT) (bc bs : Nat) (K : Nat → FT → Prop)  : Prop :=
  aL f a0 fun v_1 => ∀ v_3 : Int32, v_3 = (jmin v_1 x1) → cR f a0 (0 : Int32) b0 (0 : Int32) v_3 fun f_5 => K b0 f_5
def wp_J7_copyOf_6403c (zd : Nat) (a0 : Nat) (x1 : Int32) (f : FT) (mc ms : Nat) (K : Nat → FT → Prop) : Prop :=
  nRz zd f x1 mc ms fun n_9 q_7 f_8 => wp_J7_copyOf_6403c_24 zd a0 x1 q_7 f_8 (mc - 1) (ms - n_9) K
set_option maxHeartbeats 4000000 in
set_option maxRecDepth 100000 in
theorem cc_J7_copyOf_6403c (l : Launch) (G : GG) {zd : Nat} (hzd : G.2.2 0 = zd) {f : FT} {sz : Nat} {a0 : Nat} {x1 : Int32} {mc ms : Nat} {K : Nat → FT → Prop} (h : wp_J7_copyOf_6403c zd a0 x1 f mc ms K) : Met l yJ7_copyOf_6403c wsJ7_copyOf_6403c ({ frames := 1, cells := mc, slots := ms, locals := 40 } : Room) (FP G [.ref a0, .int x1, .ref (G.2.2 1)] f sz) (va_Qq (fun r f9 => ∃ q, r = some q ∧ K q f9 : Option Nat → FT → Prop) (FB G (fA f sz)) (fA f sz)) mc ms (fA f sz) := by
  refine Met.ofW (cc := cJ7_copyOf_6403c) (maxL := 4) (ret := (some (.array (.object "java/lang/Object")))) (by decide) rfl ?_
  intro p e s m args below meth c s₁ B hml hv
  obtain ⟨rfl, hsz, hF, hK, hZ⟩ := hv
  have hx := B.exec
  have hb := B.bytes
  have hr := B.returns
  have hts := atoms_spec (ws := wsJ7_copyOf_6403c) B.pre
  have hown : s.vm.findClass RJ7 = some m.cls := findClass_of_methodNamed B.named
  have hlocks := B.notSynchronized
  subst hsz
  have hF := hF.self (sz := s.heap.size)
  generalize hAe : fA f s.heap.size = A at hF hZ ⊢
  have hA : ∀ q : Nat, s.heap.size ≤ q → A q := fun q h => by rw [← hAe]; exact Or.inr h
  have hS : va_S A s.heap s.heap [] := va_S.rf
  have hZ9 : va_Z "java/util/ArrayList" "DEFAULTCAPACITY_EMPTY_ELEMENTDATA" "[Ljava/lang/Object;" (.ref zd) A s s.heap := by rw [← hzd]; exact hZ.1
  have hbc : 0 + mc ≤ mc := by omega
  have hbs : 0 + ms ≤ ms := by omega
  have J24 : ∀ (b0 : Nat) (f : FT) (bc : Nat) (bs : Nat) (H : Heap) (locs : List Loc) (ls : Array Slot) (cs sl : Nat), wp_J7_copyOf_6403c_24 zd a0 x1 b0 f bc bs K  → cs + bc ≤ mc → sl + bs ≤ ms → Fw G A f H → va_S A s.heap H locs → lv_has ls 4 [(0, .ref a0), (1, .int x1)] → W p l e ({ frames := 1, cells := mc, slots := ms, locals := 40 } : Room) s m ([.ref a0, .int x1, .ref (G.2.2 1)] : List Value).toArray below meth c H locs cs sl (MQ below (va_Qq (fun r f9 => ∃ q, r = some q ∧ K q f9 : Option Nat → FT → Prop) (FB G A) A) ([.ref a0, .int x1, .ref (G.2.2 1)] : List Value).toArray s mc ms A) (F0 m 24 ls [.ref b0]) := by
    intro b0 f bc bs H locs ls cs sl h hbc hbs hF hS hl
    unfold wp_J7_copyOf_6403c_24 at h
    refine lv_astore_n (lv' := [(3, .ref b0), (0, .ref a0), (1, .int x1)]) hx hb dJ7_copyOf_6403c_24 rfl hl (by decide) rfl (fun ls hl => ?_)
    refine lv_aload_n hx hb dJ7_copyOf_6403c_25 rfl (lv_at hl 1 rfl) ?_
    refine lv_iconst (v := (0 : Int32)) hx hb dJ7_copyOf_6403c_26 (by decide) ?_
    refine lv_aload_n hx hb dJ7_copyOf_6403c_27 rfl (lv_at hl 0 rfl) ?_
    refine lv_iconst (v := (0 : Int32)) hx hb dJ7_copyOf_6403c_28 (by decide) ?_
    refine lv_aload_n hx hb dJ7_copyOf_6403c_29 rfl (lv_at hl 1 rfl) ?_
    obtain ⟨t_q_2, q_2, he_q_2, ht_q_2, h⟩ := h
    refine fw_alen hx hb hK hF he_q_2 ht_q_2 dJ7_copyOf_6403c_30 ?_
    refine lv_topi (fun v_1 e_v_1 => ?_)
    have h := h v_1 e_v_1
    refine lv_iload_n hx hb dJ7_copyOf_6403c_31 rfl (lv_at hl 2 rfl) ?_
    refine va_mmin hx hb (hml.trans hl.1.symm) hown (hts (.methodLink RJ7 304 Lib.Math.min.name) (by decide +kernel)) (hts (.static Lib.Math.min.name) (by decide +kernel)) (hts (.initialized "java/lang/Math") (by decide +kernel)) (hts (.code Lib.Math.min.name Lib.Math.min.code 2 (some .int)) (by decide +kernel)) (Nat.le_of_ble_eq_true rfl) (Nat.le_of_ble_eq_true rfl) (by show _ ≤ mc; omega) (by show _ ≤ ms; omega) dJ7_copyOf_6403c_32 ?_
    refine lv_topi (fun v_3 e_v_3 => ?_)
    have h := h v_3 e_v_3
    obtain ⟨n0_q_4, n1_q_4, g0_q_4, g1_q_4, he0_q_4, he1_q_4, hc1_q_4, hc2_q_4, hc3_q_4, hc4_q_4, hc5_q_4, hel_q_4, h⟩ := h
    refine fw_copyR hx hb (hml.trans hl.1.symm) hown (hts (.methodLink RJ7 150 arraycopyName) (by decide +kernel)) (hts (.native arraycopyName) (by decide +kernel)) (hts (.static arraycopyName) (by decide +kernel)) (hts (.initialized "java/lang/System") (by decide +kernel)) hK hF hS he0_q_4 he1_q_4 hc1_q_4 hc2_q_4 hc3_q_4 hc4_q_4 hc5_q_4 hel_q_4 (Nat.le_of_ble_eq_true rfl) (Nat.le_of_ble_eq_true rfl) dJ7_copyOf_6403c_35 (fun H locs hF hS => ?_)
    obtain ⟨f_5, hf_f_5⟩ : ∃ z, z = fup f b0 (.inl (2, n1_q_4, .inr (.inr (.inr (.inr (va_cpy g0_q_4 g1_q_4 ((0 : Int32)).toNatClampNeg ((0 : Int32)).toNatClampNeg (v_3).toNatClampNeg)))))) := ⟨_, rfl⟩
    rw [← hf_f_5] at hF; have h := h f_5 hf_f_5
    refine lv_aload_n hx hb dJ7_copyOf_6403c_38 rfl (lv_at hl 0 rfl) ?_
    refine W.widen (k := mc) (n := ms) (by omega) (by omega) ?_
    exact W.aret (v := .ref b0) hx hb hr (Or.inr ⟨_, rfl⟩) (Or.inr ⟨b0, rfl⟩) (fun t ht hW => ⟨⟨some b0, f_5, rfl, ⟨_, rfl, h⟩, by rw [ht]; exact hF, FK.moved hW.alike hK⟩, hS.F ht⟩) hS.2.2 dJ7_copyOf_6403c_39
  have hl := lv_entry ([.ref a0, .int x1, .ref (G.2.2 1)]) (n := 4) (Nat.le_of_ble_eq_true rfl)
  rw [lg_entry_eq]
  generalize (lg_sl ([.ref a0, .int x1, .ref (G.2.2 1)]) ++ List.replicate (4 - (lg_sl ([.ref a0, .int x1, .ref (G.2.2 1)])).length) Slot.unset).toArray = ls at hl ⊢
  have hl : lv_has ls 4 [(0, .ref a0), (1, .int x1), (2, .ref (G.2.2 1))] := hl
  unfold wp_J7_copyOf_6403c at h
  refine lv_aload_n hx hb dJ7_copyOf_6403c_0 rfl (lv_at hl 2 rfl) ?_
  refine va_ldcM hx hb hown (hts (.classLink RJ7 110 "[Ljava/lang/Object;") (by decide +kernel)) hK.2.2.2.2.2.1 dJ7_copyOf_6403c_1 ?_
  refine lv_acmp_ne (rx := some (G.2.2 1)) (ry := some (G.2.2 1)) (tgt := 13) hx hb dJ7_copyOf_6403c_3 (by decide) (fun c_6 => absurd rfl c_6) (fun c_6 => ?_)
  refine lv_iload_n hx hb dJ7_copyOf_6403c_6 rfl (lv_at hl 1 rfl) ?_
  obtain ⟨hb0, n_9, hN, hb1, hb2, hb3, h⟩ := h
  refine fw_anew hx hb hown (hts (.classLink RJ7 2 "java/lang/Object") (by decide +kernel)) hK hF hS hA hb0 hN (by omega) (by show _ ≤ mc; omega) (by show _ ≤ ms; omega) dJ7_copyOf_6403c_7 (fun q_7 H hn_q_7 hF hS => ?_)
  obtain ⟨f_8, hf_f_8⟩ : ∃ z, z = fup f q_7 (.inl (2, (n_9, .inr (.inr (.inr (.inr (fun _ => none))))))) := ⟨_, rfl⟩
  have hne_q_7 : q_7 ≠ zd := fun e9 => hZ.2.2.2 (by rw [hzd, ← e9]; exact (Fw.in hF (fup_self _ _ _)).1)
  rw [← hf_f_8] at hF; have h := h q_7 hn_q_7 hne_q_7 f_8 hf_f_8
  obtain ⟨cs_10, hcs⟩ : ∃ z, z = (0 + 1) := ⟨_, rfl⟩; obtain ⟨sl_11, hsl⟩ : ∃ z, z = (0 + n_9) := ⟨_, rfl⟩
  have hbc : cs_10 + (mc - 1) ≤ mc := by omega
  have hbs : sl_11 + (ms - n_9) ≤ ms := by omega
  refine W.widen (k := cs_10) (n := sl_11) (by omega) (by omega) ?_
  clear hcs hsl
  refine lv_goto (tgt := 24) hx hb dJ7_copyOf_6403c_10 (by decide) ?_
  exact J24 q_7 f_8 (mc - 1) (ms - n_9) _ _ _ _ _ h hbc hbs hF hS (lv_sub hl [0, 1] rfl)
theorem dJ7_copyOf_1904c_0 : decode cJ7_copyOf_1904c 0 = .ok (.aload_n 0, 1) := by decide +kernel
theorem dJ7_copyOf_1904c_1 : decode cJ7_copyOf_1904c 1 = .ok (.iload_n 1, 1) := by decide +kernel
theorem dJ7_copyOf_1904c_2 : decode cJ7_copyOf_1904c 2 = .ok (.aload_n 0, 1) := by decide +kernel
theorem dJ7_copyOf_1904c_3 : decode cJ7_copyOf_1904c 3 = .ok (.invokevirtual 86, 3) := by decide +kernel
theorem dJ7_copyOf_1904c_6 : decode cJ7_copyOf_1904c 6 = .ok (.invokestatic 300, 3) := by decide +kernel
theorem dJ7_copyOf_1904c_9 : decode cJ7_copyOf_1904c 9 = .ok (.areturn, 1) := by decide +kernel
set_option maxRecDepth 20000 in
theorem ggJ7_copyOf_1904c_J7_copyOf_6403c : GoodIn wsJ7_copyOf_1904c wsJ7_copyOf_6403c := goodIn_r _ [8, 9, 10, 11, 12, 13, 14, 15, 16, 17, 18] (by decide +kernel) (by decide +kernel)
def wp_J7_copyOf_1904c (zd : Nat) (a0 : Nat) (x1 : Int32) (f : FT) (mc ms : Nat) (K : Nat → FT → Prop) : Prop :=
  isA f a0 2 ∧ ∃ ga_4 gb_5 : Nat, ga_4 ≤ mc ∧ gb_5 ≤ ms ∧ wp_J7_copyOf_6403c zd a0 x1 f ga_4 gb_5 (fun a_2 f_3 => K a_2 f_3)
set_option maxHeartbeats 4000000 in
set_option maxRecDepth 100000 in
theorem cc_J7_copyOf_1904c (l : Launch) (G : GG) {zd : Nat} (hzd : G.2.2 0 = zd) {f : FT} {sz : Nat} {a0 : Nat} {x1 : Int32} {mc ms : Nat} {K : Nat → FT → Prop} (h : wp_J7_copyOf_1904c zd a0 x1 f mc ms K) : Met l yJ7_copyOf_1904c wsJ7_copyOf_1904c ({ frames := 2, cells := mc, slots := ms, locals := 63 } : Room) (FP G [.ref a0, .int x1] f sz) (va_Qq (fun r f9 => ∃ q, r = some q ∧ K q f9 : Option Nat → FT → Prop) (FB G (fA f sz)) (fA f sz)) mc ms (fA f sz) := by
  refine Met.ofW (cc := cJ7_copyOf_1904c) (maxL := 2) (ret := (some (.array (.object "java/lang/Object")))) (by decide) rfl ?_
  intro p e s m args below meth c s₁ B hml hv
  obtain ⟨rfl, hsz, hF, hK, hZ⟩ := hv
  have hx := B.exec
  have hb := B.bytes
  have hr := B.returns
  have hts := atoms_spec (ws := wsJ7_copyOf_1904c) B.pre
  have hown : s.vm.findClass RJ7 = some m.cls := findClass_of_methodNamed B.named
  have hlocks := B.notSynchronized
  subst hsz
  have hF := hF.self (sz := s.heap.size)
  generalize hAe : fA f s.heap.size = A at hF hZ ⊢
  have hA : ∀ q : Nat, s.heap.size ≤ q → A q := fun q h => by rw [← hAe]; exact Or.inr h
  have hS : va_S A s.heap s.heap [] := va_S.rf
  have hZ9 : va_Z "java/util/ArrayList" "DEFAULTCAPACITY_EMPTY_ELEMENTDATA" "[Ljava/lang/Object;" (.ref zd) A s s.heap := by rw [← hzd]; exact hZ.1
  have hbc : 0 + mc ≤ mc := by omega
  have hbs : 0 + ms ≤ ms := by omega
  have hl := lv_entry ([.ref a0, .int x1]) (n := 2) (Nat.le_of_ble_eq_true rfl)
  rw [lg_entry_eq]
  generalize (lg_sl ([.ref a0, .int x1]) ++ List.replicate (2 - (lg_sl ([.ref a0, .int x1])).length) Slot.unset).toArray = ls at hl ⊢
  have hl : lv_has ls 2 [(0, .ref a0), (1, .int x1)] := hl
  unfold wp_J7_copyOf_1904c at h
  refine lv_aload_n hx hb dJ7_copyOf_1904c_0 rfl (lv_at hl 0 rfl) ?_
  refine lv_iload_n hx hb dJ7_copyOf_1904c_1 rfl (lv_at hl 1 rfl) ?_
  refine lv_aload_n hx hb dJ7_copyOf_1904c_2 rfl (lv_at hl 0 rfl) ?_
  obtain ⟨⟨q_1, he_q_1⟩, h⟩ := h
  refine va_getC hx hb (hml.trans hl.1.symm) hown (hts (.methodLink RJ7 86 ⟨"java/lang/Object", "getClass", "()Ljava/lang/Class;"⟩) (by decide +kernel)) (va_Dc.use hK.2.2.2.2.2.2.2) (hts (.selects "[Ljava/lang/Object;" ⟨"java/lang/Object", "getClass", "()Ljava/lang/Class;"⟩ ⟨"java/lang/Object", "getClass", "()Ljava/lang/Class;"⟩) (by decide +kernel)) (hts (.instanceMethod ⟨"java/lang/Object", "getClass", "()Ljava/lang/Class;"⟩) (by decide +kernel)) (hts (.native ⟨"java/lang/Object", "getClass", "()Ljava/lang/Class;"⟩) (by decide +kernel)) hK.2.2.2.2.2.1 (Fw.recvA hK.nm2 hF he_q_1) (Nat.le_of_ble_eq_true rfl) (Nat.le_of_ble_eq_true rfl) dJ7_copyOf_1904c_3 ?_
  obtain ⟨ga_4, gb_5, hga_ga_4, hgb_ga_4, h⟩ := h
  refine fw_cS_q_w (As := [.ref a0, .int x1, .ref (G.2.2 1)]) (rest := []) ⟨hx, hb, hml, hown, hts⟩ (cc_J7_copyOf_6403c l G hzd h) (⟨callB_of 3 hts ggJ7_copyOf_1904c_J7_copyOf_6403c rfl rfl rfl (hts (.initialized RJ7) (by decide +kernel)) (hts (.methodLink RJ7 300 yJ7_copyOf_6403c) (by decide +kernel)) (by decide +kernel) ⟨Nat.le_of_ble_eq_true rfl, Nat.le_of_ble_eq_true rfl⟩, hts (.static yJ7_copyOf_6403c) (by decide +kernel)⟩) hK hZ hF hS hA rfl hl.1 rfl (Nat.le_of_ble_eq_true rfl) dJ7_copyOf_1904c_6 ⟨by show _ ≤ mc; omega, by show _ ≤ ms; omega⟩ (fun a_2 f_3 H locs h hF hS => ?_)
  obtain ⟨cs_6, hcs⟩ : ∃ z, z = (0 + ga_4) := ⟨_, rfl⟩; obtain ⟨sl_7, hsl⟩ : ∃ z, z = (0 + gb_5) := ⟨_, rfl⟩
  have hbc : cs_6 + (mc - ga_4) ≤ mc := by omega
  have hbs : sl_7 + (ms - gb_5) ≤ ms := by omega
  refine W.widen (k := cs_6) (n := sl_7) (by omega) (by omega) ?_
  clear hcs hsl
  refine W.widen (k := mc) (n := ms) (by omega) (by omega) ?_
  exact W.aret (v := .ref a_2) hx hb hr (Or.inr ⟨_, rfl⟩) (Or.inr ⟨a_2, rfl⟩) (fun t ht hW => ⟨⟨some a_2, f_3, rfl, ⟨_, rfl, h⟩, by rw [ht]; exact hF, FK.moved hW.alike hK⟩, hS.F ht⟩) hS.2.2 dJ7_copyOf_1904c_9
