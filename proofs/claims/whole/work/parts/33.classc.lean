theorem dX2_count_0 : decode cX2_count 0 = .ok (.aload_n 0, 1) := by decide +kernel
theorem dX2_count_1 : decode cX2_count 1 = .ok (.getfield 13, 3) := by decide +kernel
theorem dX2_count_4 : decode cX2_count 4 = .ok (.ireturn, 1) := by decide +kernel
def wp_X2_count (a0 : Nat) (f : FT) (K : Int32 → Prop) : Prop :=
  gI f a0 5 1 fun v_1 => K v_1
set_option maxHeartbeats 4000000 in
set_option maxRecDepth 100000 in
theorem cc_X2_count (l : Launch) (G : GG) {f : FT} {sz : Nat} {a0 : Nat} {K : Int32 → Prop} (h : wp_X2_count a0 f K) : Met l yX2_count wsX2_count ({ frames := 0, cells := 0, slots := 0, locals := 0 } : Room) (FP G [.ref a0] f sz) (va_Qi (fun r f9 => K r ∧ f9 = f : Int32 → FT → Prop) (FB G (fA f sz)) (fA f sz)) 0 0 (fA f sz) := by
  refine Met.ofW (cc := cX2_count) (maxL := 1) (ret := (some .int)) (by decide) rfl ?_
  intro p e s m args below meth c s₁ B hml hv
  obtain ⟨rfl, hsz, hF, hK, hZ⟩ := hv
  have hx := B.exec
  have hb := B.bytes
  have hr := B.returns
  have hts := atoms_spec (ws := wsX2_count) B.pre
  have hown : s.vm.findClass RX2 = some m.cls := findClass_of_methodNamed B.named
  have hlocks := B.notSynchronized
  subst hsz
  have hF := hF.self (sz := s.heap.size)
  generalize hAe : fA f s.heap.size = A at hF hZ ⊢
  have hA : ∀ q : Nat, s.heap.size ≤ q → A q := fun q h => by rw [← hAe]; exact Or.inr h
  have hS : va_S A s.heap s.heap [] := va_S.rf
  have hin_X2 : ∀ w ∈ wsX20, w ∈ wsX2_count := by decide +kernel
  have hl := lv_entry ([.ref a0]) (n := 1) (Nat.le_of_ble_eq_true rfl)
  rw [lg_entry_eq]
  generalize (lg_sl ([.ref a0]) ++ List.replicate (1 - (lg_sl ([.ref a0])).length) Slot.unset).toArray = ls at hl ⊢
  have hl : lv_has ls 1 [(0, .ref a0)] := hl
  unfold wp_X2_count at h
  refine lv_aload_n hx hb dX2_count_0 rfl (lv_at hl 0 rfl) ?_
  obtain ⟨fs_2, v_1, he_fs_2, hv_fs_2, h⟩ := h
  refine fw_get (C := RX2) (T := TX2) (N := 2) hx hb hts hin_X2 hown hK hF he_fs_2 rfl 1 (by decide) (hts (.fieldLink RX2 13 "FrontCodedIndex$IntRow" "count" "I") (by decide +kernel)) (fun _ h9 => h9) hv_fs_2 dX2_count_1 ?_
  exact W.iret (v := v_1) hx hb hr (fun t ht hW => ⟨⟨v_1, f, rfl, ⟨h, rfl⟩, by rw [ht]; exact hF, FK.moved hW.alike hK⟩, hS.F ht⟩) hS.2.2 dX2_count_4
theorem dX2_delete_0 : decode cX2_delete 0 = .ok (.iload_n 1, 1) := by decide +kernel
theorem dX2_delete_1 : decode cX2_delete 1 = .ok (.ifCond .lt 23, 3) := by decide +kernel
theorem dX2_delete_4 : decode cX2_delete 4 = .ok (.iload_n 1, 1) := by decide +kernel
theorem dX2_delete_5 : decode cX2_delete 5 = .ok (.aload_n 0, 1) := by decide +kernel
theorem dX2_delete_6 : decode cX2_delete 6 = .ok (.getfield 13, 3) := by decide +kernel
theorem dX2_delete_9 : decode cX2_delete 9 = .ok (.if_icmp .ge 15, 3) := by decide +kernel
theorem dX2_delete_12 : decode cX2_delete 12 = .ok (.aload_n 0, 1) := by decide +kernel
theorem dX2_delete_13 : decode cX2_delete 13 = .ok (.getfield 13, 3) := by decide +kernel
theorem dX2_delete_16 : decode cX2_delete 16 = .ok (.aload_n 0, 1) := by decide +kernel
theorem dX2_delete_17 : decode cX2_delete 17 = .ok (.getfield 9, 3) := by decide +kernel
theorem dX2_delete_20 : decode cX2_delete 20 = .ok (.arraylength, 1) := by decide +kernel
theorem dX2_delete_21 : decode cX2_delete 21 = .ok (.if_icmp .le 4, 3) := by decide +kernel
theorem dX2_delete_24 : decode cX2_delete 24 = .ok (.return_, 1) := by decide +kernel
theorem dX2_delete_25 : decode cX2_delete 25 = .ok (.aload_n 0, 1) := by decide +kernel
theorem dX2_delete_26 : decode cX2_delete 26 = .ok (.dup, 1) := by decide +kernel
theorem dX2_delete_27 : decode cX2_delete 27 = .ok (.getfield 13, 3) := by decide +kernel
theorem dX2_delete_30 : decode cX2_delete 30 = .ok (.iconst 1, 1) := by decide +kernel
theorem dX2_delete_31 : decode cX2_delete 31 = .ok (.isub, 1) := by decide +kernel
theorem dX2_delete_32 : decode cX2_delete 32 = .ok (.putfield 13, 3) := by decide +kernel
theorem dX2_delete_35 : decode cX2_delete 35 = .ok (.iload_n 1, 1) := by decide +kernel
theorem dX2_delete_36 : decode cX2_delete 36 = .ok (.istore_n 2, 1) := by decide +kernel
theorem dX2_delete_37 : decode cX2_delete 37 = .ok (.iload_n 2, 1) := by decide +kernel
theorem dX2_delete_38 : decode cX2_delete 38 = .ok (.aload_n 0, 1) := by decide +kernel
theorem dX2_delete_39 : decode cX2_delete 39 = .ok (.getfield 13, 3) := by decide +kernel
theorem dX2_delete_42 : decode cX2_delete 42 = .ok (.if_icmp .ge 23, 3) := by decide +kernel
theorem dX2_delete_45 : decode cX2_delete 45 = .ok (.aload_n 0, 1) := by decide +kernel
theorem dX2_delete_46 : decode cX2_delete 46 = .ok (.getfield 9, 3) := by decide +kernel
theorem dX2_delete_49 : decode cX2_delete 49 = .ok (.iload_n 2, 1) := by decide +kernel
theorem dX2_delete_50 : decode cX2_delete 50 = .ok (.aload_n 0, 1) := by decide +kernel
theorem dX2_delete_51 : decode cX2_delete 51 = .ok (.getfield 9, 3) := by decide +kernel
theorem dX2_delete_54 : decode cX2_delete 54 = .ok (.iload_n 2, 1) := by decide +kernel
theorem dX2_delete_55 : decode cX2_delete 55 = .ok (.iconst 1, 1) := by decide +kernel
theorem dX2_delete_56 : decode cX2_delete 56 = .ok (.iadd, 1) := by decide +kernel
theorem dX2_delete_57 : decode cX2_delete 57 = .ok (.iaload, 1) := by decide +kernel
theorem dX2_delete_58 : decode cX2_delete 58 = .ok (.iastore, 1) := by decide +kernel
theorem dX2_delete_59 : decode cX2_delete 59 = .ok (.iinc 2 1, 3) := by decide +kernel
theorem dX2_delete_62 : decode cX2_delete 62 = .ok (.goto (-25), 3) := by decide +kernel
theorem dX2_delete_65 : decode cX2_delete 65 = .ok (.return_, 1) := by decide +kernel
def wp_X2_delete_37 (a0 : Nat) (K : FT → Prop)  (C37 : Int32 × FT → Prop) : Int32 × FT → Prop := fun s9 => match s9 with
  | (x2, f) => gI f a0 5 1 fun v_1 => ((v_1 ≤ x2 → K f) ∧
 (¬ (v_1 ≤ x2) → gA f a0 5 0 fun a_4 => gA f a0 5 0 fun a_6 => aI f a_6 1 (x2 + (1 : Int32)) fun v_8 => sI f a_4 x2 v_8 fun f_11 => ∀ v_12 : Int32, v_12 = x2 + 1 → C37 (v_12, f_11)))
def wp_X2_delete (a0 : Nat) (x1 : Int32) (f : FT) (K : FT → Prop) : Prop :=
  ((x1 < (0 : Int32) → K f) ∧
 (¬ (x1 < (0 : Int32)) → gI f a0 5 1 fun v_15 => ((v_15 ≤ x1 → K f) ∧
 (¬ (v_15 ≤ x1) → gI f a0 5 1 fun v_18 => gA f a0 5 0 fun a_20 => aL f a_20 fun v_22 => ((v_18 ≤ v_22 → gI f a0 5 1 fun v_25 => pV f a0 5 1 (.int (v_25 - (1 : Int32))) fun f_28 => ∃ n_29, loopW (wp_X2_delete_37 a0 K) n_29 (x1, f_28)) ∧
 (¬ (v_18 ≤ v_22) → K f))))))
set_option maxHeartbeats 4000000 in
set_option maxRecDepth 100000 in
theorem cc_X2_delete (l : Launch) (G : GG) {f : FT} {sz : Nat} {a0 : Nat} {x1 : Int32} {K : FT → Prop} (h : wp_X2_delete a0 x1 f K) : Met l yX2_delete wsX2_delete ({ frames := 0, cells := 0, slots := 0, locals := 0 } : Room) (FP G [.ref a0, .int x1] f sz) (va_Qv (fun f9 => K f9 : FT → Prop) (FB G (fA f sz)) (fA f sz)) 0 0 (fA f sz) := by
  refine Met.ofW (cc := cX2_delete) (maxL := 3) (ret := none) (by decide) rfl ?_
  intro p e s m args below meth c s₁ B hml hv
  obtain ⟨rfl, hsz, hF, hK, hZ⟩ := hv
  have hx := B.exec
  have hb := B.bytes
  have hr := B.returns
  have hts := atoms_spec (ws := wsX2_delete) B.pre
  have hown : s.vm.findClass RX2 = some m.cls := findClass_of_methodNamed B.named
  have hlocks := B.notSynchronized
  subst hsz
  have hF := hF.self (sz := s.heap.size)
  generalize hAe : fA f s.heap.size = A at hF hZ ⊢
  have hA : ∀ q : Nat, s.heap.size ≤ q → A q := fun q h => by rw [← hAe]; exact Or.inr h
  have hS : va_S A s.heap s.heap [] := va_S.rf
  have hin_X2 : ∀ w ∈ wsX20, w ∈ wsX2_delete := by decide +kernel
  have L37 : ∀  (j9 : Nat) (x2 : Int32) (f : FT) (H : Heap) (locs : List Loc) (ls : Array Slot), loopW (wp_X2_delete_37 a0 K ) j9 (x2, f) → Fw G A f H → va_S A s.heap H locs → lv_has ls 3 [(0, .ref a0), (2, .int x2)] → W p l e ({ frames := 0, cells := 0, slots := 0, locals := 0 } : Room) s m ([.ref a0, .int x1] : List Value).toArray below meth c H locs 0 0 (MQ below (va_Qv (fun f9 => K f9 : FT → Prop) (FB G A) A) ([.ref a0, .int x1] : List Value).toArray s 0 0 A) (F0 m 37 ls []) := by
    intro  j9
    induction j9 with
    | zero => intro x2 f H locs ls h; exact h.elim
    | succ j9 ih37 =>
      intro x2 f H locs ls h hF hS hl
      have h : wp_X2_delete_37 a0 K  (loopW (wp_X2_delete_37 a0 K ) j9) (x2, f) := h
      generalize loopW (wp_X2_delete_37 a0 K ) j9 = C37 at ih37 h
      unfold wp_X2_delete_37 at h
      refine lv_iload_n hx hb dX2_delete_37 rfl (lv_at hl 1 rfl) ?_
      refine lv_aload_n hx hb dX2_delete_38 rfl (lv_at hl 0 rfl) ?_
      obtain ⟨fs_2, v_1, he_fs_2, hv_fs_2, h⟩ := h
      refine fw_get (C := RX2) (T := TX2) (N := 2) hx hb hts hin_X2 hown hK hF he_fs_2 rfl 1 (by decide) (hts (.fieldLink RX2 13 "FrontCodedIndex$IntRow" "count" "I") (by decide +kernel)) (fun _ h9 => h9) hv_fs_2 dX2_delete_39 ?_
      obtain ⟨h1, h2⟩ := h
      refine lv_icmp_ge (tgt := 65) hx hb dX2_delete_42 (by decide) (fun c_3 => ?_) (fun c_3 => ?_)
      · have h := h1 c_3
        exact W.vret hx hb hr (fun t ht hW => ⟨⟨f, rfl, h, by rw [ht]; exact hF, FK.moved hW.alike hK⟩, hS.F ht⟩) hS.2.2 dX2_delete_65
      · have h := h2 c_3
        refine lv_aload_n hx hb dX2_delete_45 rfl (lv_at hl 0 rfl) ?_
        obtain ⟨fs_5, a_4, he_fs_5, hv_fs_5, h⟩ := h
        refine fw_get (C := RX2) (T := TX2) (N := 2) hx hb hts hin_X2 hown hK hF he_fs_5 rfl 0 (by decide) (hts (.fieldLink RX2 9 "FrontCodedIndex$IntRow" "cells" "[I") (by decide +kernel)) (fun _ h9 => h9) hv_fs_5 dX2_delete_46 ?_
        refine lv_iload_n hx hb dX2_delete_49 rfl (lv_at hl 1 rfl) ?_
        refine lv_aload_n hx hb dX2_delete_50 rfl (lv_at hl 0 rfl) ?_
        obtain ⟨fs_7, a_6, he_fs_7, hv_fs_7, h⟩ := h
        refine fw_get (C := RX2) (T := TX2) (N := 2) hx hb hts hin_X2 hown hK hF he_fs_7 rfl 0 (by decide) (hts (.fieldLink RX2 9 "FrontCodedIndex$IntRow" "cells" "[I") (by decide +kernel)) (fun _ h9 => h9) hv_fs_7 dX2_delete_51 ?_
        refine lv_iload_n hx hb dX2_delete_54 rfl (lv_at hl 1 rfl) ?_
        refine lv_iconst (v := (1 : Int32)) hx hb dX2_delete_55 (by decide) ?_
        refine lv_iadd hx hb dX2_delete_56 ?_
        obtain ⟨n_q_9, q_9, he_q_9, hi_q_9, h⟩ := h
        refine fw_iald hx hb hK hF he_q_9 hi_q_9 dX2_delete_57 ?_
        refine lv_topi (fun v_8 e_v_8 => ?_)
        have h := h v_8 e_v_8
        obtain ⟨n_q_10, q_10, he_q_10, hi_q_10, h⟩ := h
        refine fw_iast hx hb hK hF hS he_q_10 hi_q_10 dX2_delete_58 (fun H locs hF hS => ?_)
        obtain ⟨f_11, hf_f_11⟩ : ∃ z, z = fup f a_4 (.inl (1, n_q_10, .inl (upd q_10 (x2).toNatClampNeg v_8))) := ⟨_, rfl⟩
        rw [← hf_f_11] at hF; have h := h f_11 hf_f_11
        obtain ⟨v_12, e_13⟩ : ∃ y : Int32, y = x2 + 1 := ⟨_, rfl⟩
        have h := h v_12 e_13
        refine lv_iinc (v := v_12) (lv' := [(2, .int v_12), (0, .ref a0)]) hx hb dX2_delete_59 hl (k := 1) rfl (by rw [e_13]; rfl) (by decide) rfl (fun ls hl => ?_)
        refine lv_goto (tgt := 37) hx hb dX2_delete_62 (by decide) ?_
        exact ih37 v_12 f_11 _ _ _ h hF hS (lv_sub hl [1, 0] rfl)
  have hl := lv_entry ([.ref a0, .int x1]) (n := 3) (Nat.le_of_ble_eq_true rfl)
  rw [lg_entry_eq]
  generalize (lg_sl ([.ref a0, .int x1]) ++ List.replicate (3 - (lg_sl ([.ref a0, .int x1])).length) Slot.unset).toArray = ls at hl ⊢
  have hl : lv_has ls 3 [(0, .ref a0), (1, .int x1)] := hl
  unfold wp_X2_delete at h
  refine lv_iload_n hx hb dX2_delete_0 rfl (lv_at hl 1 rfl) ?_
  obtain ⟨h1, h2⟩ := h
  refine lv_if_lt (tgt := 24) hx hb dX2_delete_1 (by decide) (fun c_14 => ?_) (fun c_14 => ?_)
  · have h := h1 c_14
    exact W.vret hx hb hr (fun t ht hW => ⟨⟨f, rfl, h, by rw [ht]; exact hF, FK.moved hW.alike hK⟩, hS.F ht⟩) hS.2.2 dX2_delete_24
  · have h := h2 c_14
    refine lv_iload_n hx hb dX2_delete_4 rfl (lv_at hl 1 rfl) ?_
    refine lv_aload_n hx hb dX2_delete_5 rfl (lv_at hl 0 rfl) ?_
    obtain ⟨fs_16, v_15, he_fs_16, hv_fs_16, h⟩ := h
    refine fw_get (C := RX2) (T := TX2) (N := 2) hx hb hts hin_X2 hown hK hF he_fs_16 rfl 1 (by decide) (hts (.fieldLink RX2 13 "FrontCodedIndex$IntRow" "count" "I") (by decide +kernel)) (fun _ h9 => h9) hv_fs_16 dX2_delete_6 ?_
    obtain ⟨h1, h2⟩ := h
    refine lv_icmp_ge (tgt := 24) hx hb dX2_delete_9 (by decide) (fun c_17 => ?_) (fun c_17 => ?_)
    · have h := h1 c_17
      exact W.vret hx hb hr (fun t ht hW => ⟨⟨f, rfl, h, by rw [ht]; exact hF, FK.moved hW.alike hK⟩, hS.F ht⟩) hS.2.2 dX2_delete_24
    · have h := h2 c_17
      refine lv_aload_n hx hb dX2_delete_12 rfl (lv_at hl 0 rfl) ?_
      obtain ⟨fs_19, v_18, he_fs_19, hv_fs_19, h⟩ := h
      refine fw_get (C := RX2) (T := TX2) (N := 2) hx hb hts hin_X2 hown hK hF he_fs_19 rfl 1 (by decide) (hts (.fieldLink RX2 13 "FrontCodedIndex$IntRow" "count" "I") (by decide +kernel)) (fun _ h9 => h9) hv_fs_19 dX2_delete_13 ?_
      refine lv_aload_n hx hb dX2_delete_16 rfl (lv_at hl 0 rfl) ?_
      obtain ⟨fs_21, a_20, he_fs_21, hv_fs_21, h⟩ := h
      refine fw_get (C := RX2) (T := TX2) (N := 2) hx hb hts hin_X2 hown hK hF he_fs_21 rfl 0 (by decide) (hts (.fieldLink RX2 9 "FrontCodedIndex$IntRow" "cells" "[I") (by decide +kernel)) (fun _ h9 => h9) hv_fs_21 dX2_delete_17 ?_
      obtain ⟨t_q_23, q_23, he_q_23, ht_q_23, h⟩ := h
      refine fw_alen hx hb hK hF he_q_23 ht_q_23 dX2_delete_20 ?_
      refine lv_topi (fun v_22 e_v_22 => ?_)
      have h := h v_22 e_v_22
      obtain ⟨h1, h2⟩ := h
      refine lv_icmp_le (tgt := 25) hx hb dX2_delete_21 (by decide) (fun c_24 => ?_) (fun c_24 => ?_)
      · have h := h1 c_24
        refine lv_aload_n hx hb dX2_delete_25 rfl (lv_at hl 0 rfl) ?_
        refine lv_dup hx hb dX2_delete_26 rfl ?_
        obtain ⟨fs_26, v_25, he_fs_26, hv_fs_26, h⟩ := h
        refine fw_get (C := RX2) (T := TX2) (N := 2) hx hb hts hin_X2 hown hK hF he_fs_26 rfl 1 (by decide) (hts (.fieldLink RX2 13 "FrontCodedIndex$IntRow" "count" "I") (by decide +kernel)) (fun _ h9 => h9) hv_fs_26 dX2_delete_27 ?_
        refine lv_iconst (v := (1 : Int32)) hx hb dX2_delete_30 (by decide) ?_
        refine lv_isub hx hb dX2_delete_31 ?_
        obtain ⟨fs_27, he_fs_27, hl_fs_27, h⟩ := h
        refine fw_put (v := .int (v_25 - (1 : Int32))) (ty := .int) (C := RX2) (T := TX2) (N := 2) hx hb hts hin_X2 tyX2 (tyX2_ok) nmX2 hown hK hF hS he_fs_27 rfl 1 (by decide) (hts (.fieldLink RX2 13 "FrontCodedIndex$IntRow" "count" "I") (by decide +kernel)) (fun _ h9 => h9) rfl (by decide +kernel) rfl rfl hl_fs_27 dX2_delete_32 (fun H locs hF hS => ?_)
        obtain ⟨f_28, hf_f_28⟩ : ∃ z, z = fup f a0 (.inr (5, fs_27.set 1 (.int (v_25 - (1 : Int32))))) := ⟨_, rfl⟩
        rw [← hf_f_28] at hF; have h := h f_28 hf_f_28
        refine lv_iload_n hx hb dX2_delete_35 rfl (lv_at hl 1 rfl) ?_
        refine lv_istore_n (lv' := [(2, .int x1), (0, .ref a0), (1, .int x1)]) hx hb dX2_delete_36 rfl hl (by decide) rfl (fun ls hl => ?_)
        obtain ⟨n_29, h⟩ := h
        exact L37 n_29 x1 f_28 _ _ _ h hF hS (lv_sub hl [1, 0] rfl)
      · have h := h2 c_24
        exact W.vret hx hb hr (fun t ht hW => ⟨⟨f, rfl, h, by rw [ht]; exact hF, FK.moved hW.alike hK⟩, hS.F ht⟩) hS.2.2 dX2_delete_24
theorem dX2_init_0 : decode cX2_init 0 = .ok (.aload_n 0, 1) := by decide +kernel
theorem dX2_init_1 : decode cX2_init 1 = .ok (.invokespecial 1, 3) := by decide +kernel
theorem dX2_init_4 : decode cX2_init 4 = .ok (.aload_n 0, 1) := by decide +kernel
theorem dX2_init_5 : decode cX2_init 5 = .ok (.bipush 16, 2) := by decide +kernel
theorem dX2_init_7 : decode cX2_init 7 = .ok (.newarray .int, 2) := by decide +kernel
theorem dX2_init_9 : decode cX2_init 9 = .ok (.putfield 9, 3) := by decide +kernel
theorem dX2_init_12 : decode cX2_init 12 = .ok (.aload_n 0, 1) := by decide +kernel
theorem dX2_init_13 : decode cX2_init 13 = .ok (.iconst 0, 1) := by decide +kernel
theorem dX2_init_14 : decode cX2_init 14 = .ok (.putfield 13, 3) := by decide +kernel
theorem dX2_init_17 : decode cX2_init 17 = .ok (.return_, 1) := by decide +kernel
def wp_X2_init (a0 : Nat) (f : FT) (mc ms : Nat) (K : FT → Prop) : Prop :=
  nA f 1 (16 : Int32) mc ms fun n_3 q_1 f_2 => pV f_2 a0 5 0 (.ref q_1) fun f_7 => pV f_7 a0 5 1 (.int (0 : Int32)) fun f_9 => K f_9
set_option maxHeartbeats 4000000 in
set_option maxRecDepth 100000 in
theorem cc_X2_init (l : Launch) (G : GG) {f : FT} {sz : Nat} {a0 : Nat} {mc ms : Nat} {K : FT → Prop} (h : wp_X2_init a0 f mc ms K) : Met l yX2_init wsX2_init ({ frames := 1, cells := mc, slots := ms, locals := 20 } : Room) (FP G [.ref a0] f sz) (va_Qv (fun f9 => K f9 : FT → Prop) (FB G (fA f sz)) (fA f sz)) mc ms (fA f sz) := by
  refine Met.ofW (cc := cX2_init) (maxL := 1) (ret := none) (by decide) rfl ?_
  intro p e s m args below meth c s₁ B hml hv
  obtain ⟨rfl, hsz, hF, hK, hZ⟩ := hv
  have hx := B.exec
  have hb := B.bytes
  have hr := B.returns
  have hts := atoms_spec (ws := wsX2_init) B.pre
  have hown : s.vm.findClass RX2 = some m.cls := findClass_of_methodNamed B.named
  have hlocks := B.notSynchronized
  have hin : meth.name = "<init>" := (name_of_methodNamed B.named B.method).1
  subst hsz
  have hF := hF.self (sz := s.heap.size)
  generalize hAe : fA f s.heap.size = A at hF hZ ⊢
  have hA : ∀ q : Nat, s.heap.size ≤ q → A q := fun q h => by rw [← hAe]; exact Or.inr h
  have hS : va_S A s.heap s.heap [] := va_S.rf
  have hin_X2 : ∀ w ∈ wsX20, w ∈ wsX2_init := by decide +kernel
  have hbc : 0 + mc ≤ mc := by omega
  have hbs : 0 + ms ≤ ms := by omega
  have hl := lv_entry ([.ref a0]) (n := 1) (Nat.le_of_ble_eq_true rfl)
  rw [lg_entry_eq]
  generalize (lg_sl ([.ref a0]) ++ List.replicate (1 - (lg_sl ([.ref a0])).length) Slot.unset).toArray = ls at hl ⊢
  have hl : lv_has ls 1 [(0, .ref a0)] := hl
  unfold wp_X2_init at h
  refine lv_aload_n hx hb dX2_init_0 rfl (lv_at hl 0 rfl) ?_
  refine W.objInit hx hb hown (hts (.methodLink RX2 1 objectInit) (by decide +kernel)) (hts (.instanceMethod objectInit) (by decide +kernel)) (hts (.code objectInit ⟨#[0xb1]⟩ 1 none) (by decide +kernel)) rfl (by rw [hml]; exact hl.1) rfl dX2_init_1 (Nat.le_of_ble_eq_true rfl) (Nat.le_of_ble_eq_true rfl) ?_
  refine W.eq (g2 := F0 m 4 ls []) rfl ?_
  refine lv_aload_n hx hb dX2_init_4 rfl (lv_at hl 0 rfl) ?_
  refine lv_bipush (v := (16 : Int32)) hx hb dX2_init_5 (by decide) ?_
  obtain ⟨hb0, n_3, hN, hb1, hb2, hb3, h⟩ := h
  refine fw_newa (a0 := (n_3, .inl fun _ => 0)) hx hb (hts (.arrayClass .int) (by decide +kernel)) (ty := .int) rfl 1 rfl va_RA_int hK hF hS hA (fun cA => rfl) hb0 hN (by show _ * 4 ≤ _; omega) (by show _ ≤ mc; omega) (by show _ ≤ ms; omega) dX2_init_7 (fun q_1 H hn_q_1 hF hS => ?_)
  obtain ⟨f_2, hf_f_2⟩ : ∃ z, z = fup f q_1 (.inl (1, (n_3, .inl fun _ => 0))) := ⟨_, rfl⟩
  rw [← hf_f_2] at hF; have h := h q_1 hn_q_1 f_2 hf_f_2
  have hbc : (0 + 1) + (mc - 1) ≤ mc := by omega
  have hbs : (0 + n_3) + (ms - n_3) ≤ ms := by omega
  generalize (0 + 1) = cs_4 at hbc ⊢; generalize (0 + n_3) = sl_5 at hbs ⊢
  obtain ⟨fs_6, he_fs_6, hl_fs_6, h⟩ := h
  refine fw_put (v := .ref q_1) (ty := (.array .int)) (C := RX2) (T := TX2) (N := 2) hx hb hts hin_X2 tyX2 (tyX2_ok) nmX2 hown hK hF hS he_fs_6 rfl 0 (by decide) (hts (.fieldLink RX2 9 "FrontCodedIndex$IntRow" "cells" "[I") (by decide +kernel)) (fun _ h9 => h9) rfl (by decide +kernel) rfl rfl hl_fs_6 dX2_init_9 (fun H locs hF hS => ?_)
  obtain ⟨f_7, hf_f_7⟩ : ∃ z, z = fup f_2 a0 (.inr (5, fs_6.set 0 (.ref q_1))) := ⟨_, rfl⟩
  rw [← hf_f_7] at hF; have h := h f_7 hf_f_7
  refine lv_aload_n hx hb dX2_init_12 rfl (lv_at hl 0 rfl) ?_
  refine lv_iconst (v := (0 : Int32)) hx hb dX2_init_13 (by decide) ?_
  obtain ⟨fs_8, he_fs_8, hl_fs_8, h⟩ := h
  refine fw_put (v := .int (0 : Int32)) (ty := .int) (C := RX2) (T := TX2) (N := 2) hx hb hts hin_X2 tyX2 (tyX2_ok) nmX2 hown hK hF hS he_fs_8 rfl 1 (by decide) (hts (.fieldLink RX2 13 "FrontCodedIndex$IntRow" "count" "I") (by decide +kernel)) (fun _ h9 => h9) rfl (by decide +kernel) rfl rfl hl_fs_8 dX2_init_14 (fun H locs hF hS => ?_)
  obtain ⟨f_9, hf_f_9⟩ : ∃ z, z = fup f_7 a0 (.inr (5, fs_8.set 1 (.int (0 : Int32)))) := ⟨_, rfl⟩
  rw [← hf_f_9] at hF; have h := h f_9 hf_f_9
  refine W.widen (k := mc) (n := ms) (by omega) (by omega) ?_
  exact W.vret hx hb hr (fun t ht hW => ⟨⟨f_9, rfl, h, by rw [ht]; exact hF, FK.moved hW.alike hK⟩, hS.F ht⟩) hS.2.2 dX2_init_17
theorem dX3_withByte_0 : decode cX3_withByte 0 = .ok (.aload_n 0, 1) := by decide +kernel
theorem dX3_withByte_1 : decode cX3_withByte 1 = .ok (.getfield 7, 3) := by decide +kernel
theorem dX3_withByte_4 : decode cX3_withByte 4 = .ok (.aload_n 0, 1) := by decide +kernel
theorem dX3_withByte_5 : decode cX3_withByte 5 = .ok (.getfield 7, 3) := by decide +kernel
theorem dX3_withByte_8 : decode cX3_withByte 8 = .ok (.arraylength, 1) := by decide +kernel
theorem dX3_withByte_9 : decode cX3_withByte 9 = .ok (.iconst 1, 1) := by decide +kernel
theorem dX3_withByte_10 : decode cX3_withByte 10 = .ok (.iadd, 1) := by decide +kernel
theorem dX3_withByte_11 : decode cX3_withByte 11 = .ok (.invokestatic 30, 3) := by decide +kernel
theorem dX3_withByte_14 : decode cX3_withByte 14 = .ok (.astore_n 2, 1) := by decide +kernel
theorem dX3_withByte_15 : decode cX3_withByte 15 = .ok (.aload_n 2, 1) := by decide +kernel
theorem dX3_withByte_16 : decode cX3_withByte 16 = .ok (.aload_n 0, 1) := by decide +kernel
theorem dX3_withByte_17 : decode cX3_withByte 17 = .ok (.getfield 7, 3) := by decide +kernel
theorem dX3_withByte_20 : decode cX3_withByte 20 = .ok (.arraylength, 1) := by decide +kernel
theorem dX3_withByte_21 : decode cX3_withByte 21 = .ok (.iload_n 1, 1) := by decide +kernel
theorem dX3_withByte_22 : decode cX3_withByte 22 = .ok (.i2b, 1) := by decide +kernel
theorem dX3_withByte_23 : decode cX3_withByte 23 = .ok (.bastore, 1) := by decide +kernel
theorem dX3_withByte_24 : decode cX3_withByte 24 = .ok (.new 8, 3) := by decide +kernel
theorem dX3_withByte_27 : decode cX3_withByte 27 = .ok (.dup, 1) := by decide +kernel
theorem dX3_withByte_28 : decode cX3_withByte 28 = .ok (.aload_n 2, 1) := by decide +kernel
theorem dX3_withByte_29 : decode cX3_withByte 29 = .ok (.invokespecial 36, 3) := by decide +kernel
theorem dX3_withByte_32 : decode cX3_withByte 32 = .ok (.areturn, 1) := by decide +kernel
set_option maxRecDepth 20000 in
theorem ggX3_withByte_J7_copyOf_9075b : GoodIn wsX3_withByte wsJ7_copyOf_9075b := goodIn_r _ [8, 9, 10, 11, 12, 13, 14, 15, 16, 17, 18, 19, 20, 21, 22, 23] (by decide +kernel) (by decide +kernel)
set_option maxRecDepth 20000 in
theorem ggX3_withByte_X3_init : GoodIn wsX3_withByte wsX3_init := goodIn_r _ [26, 27, 28, 29, 1, 30] (by decide +kernel) (by decide +kernel)
def wp_X3_withByte (a0 : Nat) (x1 : Int32) (f : FT) (mc ms : Nat) (K : Nat → FT → Prop) : Prop :=
  gA f a0 6 0 fun a_1 => gA f a0 6 0 fun a_3 => aL f a_3 fun v_5 => ∃ ga_9 gb_10 : Nat, ga_9 ≤ mc ∧ gb_10 ≤ ms ∧ wp_J7_copyOf_9075b a_1 (v_5 + (1 : Int32)) f ga_9 gb_10 (fun a_7 f_8 => gA f_8 a0 6 0 fun a_13 => aL f_8 a_13 fun v_15 => sB f_8 a_7 v_15 (i2b x1) fun f_18 => nO f_18 6 [.null] 1 (mc - ga_9) (ms - gb_10) fun q_19 f_20 => wp_X3_init q_19 a_7 f_20 (fun f_24 => K q_19 f_24))
set_option maxHeartbeats 4000000 in
set_option maxRecDepth 100000 in
theorem cc_X3_withByte (l : Launch) (G : GG) {f : FT} {sz : Nat} {a0 : Nat} {x1 : Int32} {mc ms : Nat} {K : Nat → FT → Prop} (h : wp_X3_withByte a0 x1 f mc ms K) : Met l yX3_withByte wsX3_withByte ({ frames := 2, cells := mc, slots := ms, locals := 62 } : Room) (FP G [.ref a0, .int x1] f sz) (va_Qq (fun r f9 => ∃ q, r = some q ∧ K q f9 : Option Nat → FT → Prop) (FB G (fA f sz)) (fA f sz)) mc ms (fA f sz) := by
  refine Met.ofW (cc := cX3_withByte) (maxL := 3) (ret := (some (.object "FrontCodedIndex$Key"))) (by decide) rfl ?_
  intro p e s m args below meth c s₁ B hml hv
  obtain ⟨rfl, hsz, hF, hK, hZ⟩ := hv
  have hx := B.exec
  have hb := B.bytes
  have hr := B.returns
  have hts := atoms_spec (ws := wsX3_withByte) B.pre
  have hown : s.vm.findClass RX3 = some m.cls := findClass_of_methodNamed B.named
  have hlocks := B.notSynchronized
  subst hsz
  have hF := hF.self (sz := s.heap.size)
  generalize hAe : fA f s.heap.size = A at hF hZ ⊢
  have hA : ∀ q : Nat, s.heap.size ≤ q → A q := fun q h => by rw [← hAe]; exact Or.inr h
  have hS : va_S A s.heap s.heap [] := va_S.rf
  have hin_X3 : ∀ w ∈ wsX30, w ∈ wsX3_withByte := by decide +kernel
  have hbc : 0 + mc ≤ mc := by omega
  have hbs : 0 + ms ≤ ms := by omega
  have hl := lv_entry ([.ref a0, .int x1]) (n := 3) (Nat.le_of_ble_eq_true rfl)
  rw [lg_entry_eq]
  generalize (lg_sl ([.ref a0, .int x1]) ++ List.replicate (3 - (lg_sl ([.ref a0, .int x1])).length) Slot.unset).toArray = ls at hl ⊢
  have hl : lv_has ls 3 [(0, .ref a0), (1, .int x1)] := hl
  unfold wp_X3_withByte at h
  refine lv_aload_n hx hb dX3_withByte_0 rfl (lv_at hl 0 rfl) ?_
  obtain ⟨fs_2, a_1, he_fs_2, hv_fs_2, h⟩ := h
  refine fw_get (C := RX3) (T := TX3) (N := 1) hx hb hts hin_X3 hown hK hF he_fs_2 rfl 0 (by decide) (hts (.fieldLink RX3 7 "FrontCodedIndex$Key" "bytes" "[B") (by decide +kernel)) (fun _ h9 => h9) hv_fs_2 dX3_withByte_1 ?_
  refine lv_aload_n hx hb dX3_withByte_4 rfl (lv_at hl 0 rfl) ?_
  obtain ⟨fs_4, a_3, he_fs_4, hv_fs_4, h⟩ := h
  refine fw_get (C := RX3) (T := TX3) (N := 1) hx hb hts hin_X3 hown hK hF he_fs_4 rfl 0 (by decide) (hts (.fieldLink RX3 7 "FrontCodedIndex$Key" "bytes" "[B") (by decide +kernel)) (fun _ h9 => h9) hv_fs_4 dX3_withByte_5 ?_
  obtain ⟨t_q_6, q_6, he_q_6, ht_q_6, h⟩ := h
  refine fw_alen hx hb hK hF he_q_6 ht_q_6 dX3_withByte_8 ?_
  refine lv_topi (fun v_5 e_v_5 => ?_)
  have h := h v_5 e_v_5
  refine lv_iconst (v := (1 : Int32)) hx hb dX3_withByte_9 (by decide) ?_
  refine lv_iadd hx hb dX3_withByte_10 ?_
  obtain ⟨ga_9, gb_10, hga_ga_9, hgb_ga_9, h⟩ := h
  refine fw_cS_q_w (As := [.ref a_1, .int (v_5 + (1 : Int32))]) (rest := []) ⟨hx, hb, hml, hown, hts⟩ (cc_J7_copyOf_9075b l G h) (⟨callB_of 2 hts ggX3_withByte_J7_copyOf_9075b rfl rfl rfl (hts (.initialized RJ7) (by decide +kernel)) (hts (.methodLink RX3 30 yJ7_copyOf_9075b) (by decide +kernel)) (by decide +kernel) ⟨Nat.le_of_ble_eq_true rfl, Nat.le_of_ble_eq_true rfl⟩, hts (.static yJ7_copyOf_9075b) (by decide +kernel)⟩) hK hZ hF hS hA rfl hl.1 rfl (Nat.le_of_ble_eq_true rfl) dX3_withByte_11 ⟨by show _ ≤ mc; omega, by show _ ≤ ms; omega⟩ (fun a_7 f_8 H locs h hF hS => ?_)
  have hbc : (0 + ga_9) + (mc - ga_9) ≤ mc := by omega
  have hbs : (0 + gb_10) + (ms - gb_10) ≤ ms := by omega
  generalize (0 + ga_9) = cs_11 at hbc ⊢; generalize (0 + gb_10) = sl_12 at hbs ⊢
  refine lv_astore_n (lv' := [(2, .ref a_7), (0, .ref a0), (1, .int x1)]) hx hb dX3_withByte_14 rfl hl (by decide) rfl (fun ls hl => ?_)
  refine lv_aload_n hx hb dX3_withByte_15 rfl (lv_at hl 0 rfl) ?_
  refine lv_aload_n hx hb dX3_withByte_16 rfl (lv_at hl 1 rfl) ?_
  obtain ⟨fs_14, a_13, he_fs_14, hv_fs_14, h⟩ := h
  refine fw_get (C := RX3) (T := TX3) (N := 1) hx hb hts hin_X3 hown hK hF he_fs_14 rfl 0 (by decide) (hts (.fieldLink RX3 7 "FrontCodedIndex$Key" "bytes" "[B") (by decide +kernel)) (fun _ h9 => h9) hv_fs_14 dX3_withByte_17 ?_
  obtain ⟨t_q_16, q_16, he_q_16, ht_q_16, h⟩ := h
  refine fw_alen hx hb hK hF he_q_16 ht_q_16 dX3_withByte_20 ?_
  refine lv_topi (fun v_15 e_v_15 => ?_)
  have h := h v_15 e_v_15
  refine lv_iload_n hx hb dX3_withByte_21 rfl (lv_at hl 2 rfl) ?_
  refine lv_i2b (v := (i2b x1)) hx hb dX3_withByte_22 rfl ?_
  obtain ⟨n_q_17, q_17, he_q_17, hi_q_17, h⟩ := h
  refine fw_bast hx hb hK hF hS he_q_17 hi_q_17 dX3_withByte_23 (fun H locs hF hS => ?_)
  obtain ⟨f_18, hf_f_18⟩ : ∃ z, z = fup f_8 a_7 (.inl (0, n_q_17, .inl (upd q_17 (v_15).toNatClampNeg (vp_nar .byte (i2b x1))))) := ⟨_, rfl⟩
  rw [← hf_f_18] at hF; have h := h f_18 hf_f_18
  obtain ⟨hb1, hb2, h⟩ := h
  refine fw_new (ci := 6) (fs := [.null]) (C := RX3) (T := TX3) (N := 1) hx hb hts hin_X3 tyX3 tyX3_ok hown (hts (.classLink RX3 8 RX3) (by decide +kernel)) (hts (.instantiable RX3 1) (by decide +kernel)) (hts (.initialized RX3) (by decide +kernel)) hK hF hS hA rfl (fun j hj => by rcases (show j = 0 by omega) with rfl <;> rfl) (by show _ ≤ mc; omega) (by show _ ≤ ms; omega) dX3_withByte_24 (fun q_19 H hn_q_19 hF hS => ?_)
  obtain ⟨f_20, hf_f_20⟩ : ∃ z, z = fup f_18 q_19 (.inr (6, [.null])) := ⟨_, rfl⟩
  rw [← hf_f_20] at hF; have h := h q_19 hn_q_19 f_20 hf_f_20
  have hbc : (cs_11 + 1) + ((mc - ga_9) - 1) ≤ mc := by omega
  have hbs : (sl_12 + 1) + ((ms - gb_10) - 1) ≤ ms := by omega
  generalize (cs_11 + 1) = cs_21 at hbc ⊢; generalize (sl_12 + 1) = sl_22 at hbs ⊢
  refine lv_dup hx hb dX3_withByte_27 rfl ?_
  refine lv_aload_n hx hb dX3_withByte_28 rfl (lv_at hl 0 rfl) ?_
  refine fw_cI_v (As := [.ref a_7]) (rest := [.ref q_19]) ⟨hx, hb, hml, hown, hts⟩ (cc_X3_init l G h) (⟨callB_of 1 hts ggX3_withByte_X3_init rfl rfl rfl (hts (.initialized RX3) (by decide +kernel)) (hts (.methodLink RX3 36 yX3_init) (by decide +kernel)) (by decide +kernel) ⟨Nat.le_of_ble_eq_true rfl, Nat.le_of_ble_eq_true rfl⟩, rfl, hts (.instanceMethod yX3_init) (by decide +kernel)⟩) hK hZ hF hS hA rfl hl.1 rfl (Nat.le_of_ble_eq_true rfl) dX3_withByte_29 ⟨by show _ ≤ mc; omega, by show _ ≤ ms; omega⟩ (fun f_24 H locs h hF hS => ?_)
  simp only [Nat.add_zero]
  refine W.widen (k := mc) (n := ms) (by omega) (by omega) ?_
  exact W.aret (v := .ref q_19) hx hb hr (Or.inl ⟨_, rfl⟩) (Or.inr ⟨q_19, rfl⟩) (fun t ht hW => ⟨⟨some q_19, f_24, rfl, ⟨_, rfl, h⟩, by rw [ht]; exact hF, FK.moved hW.alike hK⟩, hS.F ht⟩) hS.2.2 dX3_withByte_32
theorem dX4_append_0 : decode cX4_append 0 = .ok (.aload_n 0, 1) := by decide +kernel
theorem dX4_append_1 : decode cX4_append 1 = .ok (.getfield 10, 3) := by decide +kernel
theorem dX4_append_4 : decode cX4_append 4 = .ok (.aload_n 1, 1) := by decide +kernel
theorem dX4_append_5 : decode cX4_append 5 = .ok (.invokevirtual 33, 3) := by decide +kernel
theorem dX4_append_8 : decode cX4_append 8 = .ok (.pop, 1) := by decide +kernel
theorem dX4_append_9 : decode cX4_append 9 = .ok (.return_, 1) := by decide +kernel
set_option maxRecDepth 20000 in
theorem ggX4_append_Jx4a65c_add_9ea2d : GoodIn wsX4_append wsJx4a65c_add_9ea2d := goodIn_r _ [6, 7, 8, 9, 10, 11, 12, 13, 5, 14, 15, 16, 17, 18, 19, 20, 21, 22, 23, 24, 25, 26, 27, 28, 29, 30, 31, 32, 33, 34, 35, 36, 37, 38, 39, 40, 41, 42, 43, 44, 45, 46, 47, 48, 49, 50, 51, 52, 53, 54, 55, 56, 57, 60, 61, 62] (by decide +kernel) (by decide +kernel)
def wp_X4_append (zd : Nat) (a0 : Nat) (a1 : Nat) (f : FT) (mc ms : Nat) (K : FT → Prop) : Prop :=
  gA f a0 7 0 fun a_1 => ∃ ga_5 gb_6 : Nat, ga_5 ≤ mc ∧ gb_6 ≤ ms ∧ isO f a_1 2 ∧ wp_Jx4a65c_add_9ea2d zd a_1 a1 f ga_5 gb_6 (fun r_3 f_4 => K f_4)
set_option maxHeartbeats 4000000 in
set_option maxRecDepth 100000 in
theorem cc_X4_append (l : Launch) (G : GG) {zd : Nat} (hzd : G.2.2 0 = zd) {f : FT} {sz : Nat} {a0 : Nat} {a1 : Nat} {mc ms : Nat} {K : FT → Prop} (h : wp_X4_append zd a0 a1 f mc ms K) : Met l yX4_append wsX4_append ({ frames := 7, cells := mc, slots := ms, locals := 171 } : Room) (FP G [.ref a0, .ref a1] f sz) (va_Qv (fun f9 => K f9 : FT → Prop) (FB G (fA f sz)) (fA f sz)) mc ms (fA f sz) := by
  refine Met.ofW (cc := cX4_append) (maxL := 2) (ret := none) (by decide) rfl ?_
  intro p e s m args below meth c s₁ B hml hv
  obtain ⟨rfl, hsz, hF, hK, hZ⟩ := hv
  have hx := B.exec
  have hb := B.bytes
  have hr := B.returns
  have hts := atoms_spec (ws := wsX4_append) B.pre
  have hown : s.vm.findClass RX4 = some m.cls := findClass_of_methodNamed B.named
  have hlocks := B.notSynchronized
  subst hsz
  have hF := hF.self (sz := s.heap.size)
  generalize hAe : fA f s.heap.size = A at hF hZ ⊢
  have hA : ∀ q : Nat, s.heap.size ≤ q → A q := fun q h => by rw [← hAe]; exact Or.inr h
  have hS : va_S A s.heap s.heap [] := va_S.rf
  have hZ9 : va_Z "java/util/ArrayList" "DEFAULTCAPACITY_EMPTY_ELEMENTDATA" "[Ljava/lang/Object;" (.ref zd) A s s.heap := by rw [← hzd]; exact hZ
  have hin_X4 : ∀ w ∈ wsX40, w ∈ wsX4_append := by decide +kernel
  have hbc : 0 + mc ≤ mc := by omega
  have hbs : 0 + ms ≤ ms := by omega
  have hl := lv_entry ([.ref a0, .ref a1]) (n := 2) (Nat.le_of_ble_eq_true rfl)
  rw [lg_entry_eq]
  generalize (lg_sl ([.ref a0, .ref a1]) ++ List.replicate (2 - (lg_sl ([.ref a0, .ref a1])).length) Slot.unset).toArray = ls at hl ⊢
  have hl : lv_has ls 2 [(0, .ref a0), (1, .ref a1)] := hl
  unfold wp_X4_append at h
  refine lv_aload_n hx hb dX4_append_0 rfl (lv_at hl 0 rfl) ?_
  obtain ⟨fs_2, a_1, he_fs_2, hv_fs_2, h⟩ := h
  refine fw_get (C := RX4) (T := TX4) (N := 2) hx hb hts hin_X4 hown hK hF he_fs_2 rfl 0 (by decide) (hts (.fieldLink RX4 10 "FrontCodedIndex$KeyRow" "cells" "Ljava/util/ArrayList;") (by decide +kernel)) (fun _ h9 => h9) hv_fs_2 dX4_append_1 ?_
  refine lv_aload_n hx hb dX4_append_4 rfl (lv_at hl 1 rfl) ?_
  obtain ⟨ga_5, gb_6, hga_ga_5, hgb_ga_5, h⟩ := h
  obtain ⟨⟨fs_r_3, hrc_r_3⟩, h⟩ := h
  refine fw_cV_i (As := [.ref a1]) (rest := []) ⟨hx, hb, hml, hown, hts⟩ (cc_Jx4a65c_add_9ea2d l G hzd h) (⟨callB_of 1 hts ggX4_append_Jx4a65c_add_9ea2d rfl rfl rfl (hts (.initialized RJx4a65c) (by decide +kernel)) (hts (.methodLink RX4 33 yJx4a65c_add_9ea2d) (by decide +kernel)) (by decide +kernel) ⟨Nat.le_of_ble_eq_true rfl, Nat.le_of_ble_eq_true rfl⟩, hts (.instanceMethod yJx4a65c_add_9ea2d) (by decide +kernel), hts (.selects RJx4a65c yJx4a65c_add_9ea2d yJx4a65c_add_9ea2d) (by decide +kernel)⟩) rfl hrc_r_3 hK hZ hF hS hA rfl hl.1 rfl (Nat.le_of_ble_eq_true rfl) dX4_append_5 ⟨by show _ ≤ mc; omega, by show _ ≤ ms; omega⟩ (fun r_3 f_4 H locs h hF hS => ?_)
  have hbc : (0 + ga_5) + (mc - ga_5) ≤ mc := by omega
  have hbs : (0 + gb_6) + (ms - gb_6) ≤ ms := by omega
  generalize (0 + ga_5) = cs_7 at hbc ⊢; generalize (0 + gb_6) = sl_8 at hbs ⊢
  refine lv_pop hx hb dX4_append_8 rfl ?_
  refine W.widen (k := mc) (n := ms) (by omega) (by omega) ?_
  exact W.vret hx hb hr (fun t ht hW => ⟨⟨f_4, rfl, h, by rw [ht]; exact hF, FK.moved hW.alike hK⟩, hS.F ht⟩) hS.2.2 dX4_append_9
theorem dJx4a65c_clear_da8c8_0 : decode cJx4a65c_clear_da8c8 0 = .ok (.aload_n 0, 1) := by decide +kernel
theorem dJx4a65c_clear_da8c8_1 : decode cJx4a65c_clear_da8c8 1 = .ok (.dup, 1) := by decide +kernel
theorem dJx4a65c_clear_da8c8_2 : decode cJx4a65c_clear_da8c8 2 = .ok (.getfield 63, 3) := by decide +kernel
theorem dJx4a65c_clear_da8c8_5 : decode cJx4a65c_clear_da8c8 5 = .ok (.iconst 1, 1) := by decide +kernel
theorem dJx4a65c_clear_da8c8_6 : decode cJx4a65c_clear_da8c8 6 = .ok (.iadd, 1) := by decide +kernel
theorem dJx4a65c_clear_da8c8_7 : decode cJx4a65c_clear_da8c8 7 = .ok (.putfield 63, 3) := by decide +kernel
theorem dJx4a65c_clear_da8c8_10 : decode cJx4a65c_clear_da8c8 10 = .ok (.aload_n 0, 1) := by decide +kernel
theorem dJx4a65c_clear_da8c8_11 : decode cJx4a65c_clear_da8c8 11 = .ok (.getfield 9, 3) := by decide +kernel
theorem dJx4a65c_clear_da8c8_14 : decode cJx4a65c_clear_da8c8 14 = .ok (.astore_n 1, 1) := by decide +kernel
theorem dJx4a65c_clear_da8c8_15 : decode cJx4a65c_clear_da8c8 15 = .ok (.aload_n 0, 1) := by decide +kernel
theorem dJx4a65c_clear_da8c8_16 : decode cJx4a65c_clear_da8c8 16 = .ok (.getfield 48, 3) := by decide +kernel
theorem dJx4a65c_clear_da8c8_19 : decode cJx4a65c_clear_da8c8 19 = .ok (.istore_n 2, 1) := by decide +kernel
theorem dJx4a65c_clear_da8c8_20 : decode cJx4a65c_clear_da8c8 20 = .ok (.aload_n 0, 1) := by decide +kernel
theorem dJx4a65c_clear_da8c8_21 : decode cJx4a65c_clear_da8c8 21 = .ok (.iconst 0, 1) := by decide +kernel
theorem dJx4a65c_clear_da8c8_22 : decode cJx4a65c_clear_da8c8 22 = .ok (.dup_x1, 1) := by decide +kernel
theorem dJx4a65c_clear_da8c8_23 : decode cJx4a65c_clear_da8c8 23 = .ok (.putfield 48, 3) := by decide +kernel
theorem dJx4a65c_clear_da8c8_26 : decode cJx4a65c_clear_da8c8 26 = .ok (.istore_n 3, 1) := by decide +kernel
theorem dJx4a65c_clear_da8c8_27 : decode cJx4a65c_clear_da8c8 27 = .ok (.iload_n 3, 1) := by decide +kernel
theorem dJx4a65c_clear_da8c8_28 : decode cJx4a65c_clear_da8c8 28 = .ok (.iload_n 2, 1) := by decide +kernel
theorem dJx4a65c_clear_da8c8_29 : decode cJx4a65c_clear_da8c8 29 = .ok (.if_icmp .ge 13, 3) := by decide +kernel
theorem dJx4a65c_clear_da8c8_32 : decode cJx4a65c_clear_da8c8 32 = .ok (.aload_n 1, 1) := by decide +kernel
theorem dJx4a65c_clear_da8c8_33 : decode cJx4a65c_clear_da8c8 33 = .ok (.iload_n 3, 1) := by decide +kernel
theorem dJx4a65c_clear_da8c8_34 : decode cJx4a65c_clear_da8c8 34 = .ok (.aconst_null, 1) := by decide +kernel
theorem dJx4a65c_clear_da8c8_35 : decode cJx4a65c_clear_da8c8 35 = .ok (.aastore, 1) := by decide +kernel
theorem dJx4a65c_clear_da8c8_36 : decode cJx4a65c_clear_da8c8 36 = .ok (.iinc 3 1, 3) := by decide +kernel
theorem dJx4a65c_clear_da8c8_39 : decode cJx4a65c_clear_da8c8 39 = .ok (.goto (-12), 3) := by decide +kernel
theorem dJx4a65c_clear_da8c8_42 : decode cJx4a65c_clear_da8c8 42 = .ok (.return_, 1) := by decide +kernel
def wp_Jx4a65c_clear_da8c8_27 (a1 : Nat) (x2 : Int32) (K : FT → Prop)  (C27 : Int32 × FT → Prop) : Int32 × FT → Prop := fun s9 => match s9 with
  | (x3, f) => ((x2 ≤ x3 → K f) ∧
 (¬ (x2 ≤ x3) → sN f a1 x3 fun f_3 => ∀ v_4 : Int32, v_4 = x3 + 1 → C27 (v_4, f_3)))
def wp_Jx4a65c_clear_da8c8 (a0 : Nat) (f : FT) (K : FT → Prop) : Prop :=
  gI f a0 2 0 fun v_6 => pV f a0 2 0 (.int (v_6 + (1 : Int32))) fun f_9 => gA f_9 a0 2 1 fun a_10 => gI f_9 a0 2 2 fun v_12 => pV f_9 a0 2 2 (.int (0 : Int32)) fun f_15 => ∃ n_16, loopW (wp_Jx4a65c_clear_da8c8_27 a_10 v_12 K) n_16 ((0 : Int32), f_15)
set_option maxHeartbeats 4000000 in
set_option maxRecDepth 100000 in
theorem cc_Jx4a65c_clear_da8c8 (l : Launch) (G : GG) {f : FT} {sz : Nat} {a0 : Nat} {K : FT → Prop} (h : wp_Jx4a65c_clear_da8c8 a0 f K) : Met l yJx4a65c_clear_da8c8 wsJx4a65c_clear_da8c8 ({ frames := 0, cells := 0, slots := 0, locals := 0 } : Room) (FP G [.ref a0] f sz) (va_Qv (fun f9 => K f9 : FT → Prop) (FB G (fA f sz)) (fA f sz)) 0 0 (fA f sz) := by
  refine Met.ofW (cc := cJx4a65c_clear_da8c8) (maxL := 4) (ret := none) (by decide) rfl ?_
  intro p e s m args below meth c s₁ B hml hv
  obtain ⟨rfl, hsz, hF, hK, hZ⟩ := hv
  have hx := B.exec
  have hb := B.bytes
  have hr := B.returns
  have hts := atoms_spec (ws := wsJx4a65c_clear_da8c8) B.pre
  have hown : s.vm.findClass RJx4a65c = some m.cls := findClass_of_methodNamed B.named
  have hlocks := B.notSynchronized
  subst hsz
  have hF := hF.self (sz := s.heap.size)
  generalize hAe : fA f s.heap.size = A at hF hZ ⊢
  have hA : ∀ q : Nat, s.heap.size ≤ q → A q := fun q h => by rw [← hAe]; exact Or.inr h
  have hS : va_S A s.heap s.heap [] := va_S.rf
  have hin_Jx4a65c : ∀ w ∈ wsJx4a65c0, w ∈ wsJx4a65c_clear_da8c8 := by decide +kernel
  have L27 : ∀ (a1 : Nat) (x2 : Int32) (j9 : Nat) (x3 : Int32) (f : FT) (H : Heap) (locs : List Loc) (ls : Array Slot), loopW (wp_Jx4a65c_clear_da8c8_27 a1 x2 K ) j9 (x3, f) → Fw G A f H → va_S A s.heap H locs → lv_has ls 4 [(1, .ref a1), (2, .int x2), (3, .int x3)] → W p l e ({ frames := 0, cells := 0, slots := 0, locals := 0 } : Room) s m ([.ref a0] : List Value).toArray below meth c H locs 0 0 (MQ below (va_Qv (fun f9 => K f9 : FT → Prop) (FB G A) A) ([.ref a0] : List Value).toArray s 0 0 A) (F0 m 27 ls []) := by
    intro a1 x2 j9
    induction j9 with
    | zero => intro x3 f H locs ls h; exact h.elim
    | succ j9 ih27 =>
      intro x3 f H locs ls h hF hS hl
      have h : wp_Jx4a65c_clear_da8c8_27 a1 x2 K  (loopW (wp_Jx4a65c_clear_da8c8_27 a1 x2 K ) j9) (x3, f) := h
      generalize loopW (wp_Jx4a65c_clear_da8c8_27 a1 x2 K ) j9 = C27 at ih27 h
      unfold wp_Jx4a65c_clear_da8c8_27 at h
      refine lv_iload_n hx hb dJx4a65c_clear_da8c8_27 rfl (lv_at hl 2 rfl) ?_
      refine lv_iload_n hx hb dJx4a65c_clear_da8c8_28 rfl (lv_at hl 1 rfl) ?_
      obtain ⟨h1, h2⟩ := h
      refine lv_icmp_ge (tgt := 42) hx hb dJx4a65c_clear_da8c8_29 (by decide) (fun c_1 => ?_) (fun c_1 => ?_)
      · have h := h1 c_1
        exact W.vret hx hb hr (fun t ht hW => ⟨⟨f, rfl, h, by rw [ht]; exact hF, FK.moved hW.alike hK⟩, hS.F ht⟩) hS.2.2 dJx4a65c_clear_da8c8_42
      · have h := h2 c_1
        refine lv_aload_n hx hb dJx4a65c_clear_da8c8_32 rfl (lv_at hl 0 rfl) ?_
        refine lv_iload_n hx hb dJx4a65c_clear_da8c8_33 rfl (lv_at hl 2 rfl) ?_
        refine lv_null hx hb dJx4a65c_clear_da8c8_34 ?_
        obtain ⟨n_q_2, q_2, he_q_2, hi_q_2, h⟩ := h
        refine fw_aastN hx hb hK hF hS he_q_2 hi_q_2 dJx4a65c_clear_da8c8_35 (fun H locs hF hS => ?_)
        obtain ⟨f_3, hf_f_3⟩ : ∃ z, z = fup f a1 (.inl (2, n_q_2, .inr (.inr (.inr (.inr (va_up q_2 (x3).toNatClampNeg none)))))) := ⟨_, rfl⟩
        rw [← hf_f_3] at hF; have h := h f_3 hf_f_3
        obtain ⟨v_4, e_5⟩ : ∃ y : Int32, y = x3 + 1 := ⟨_, rfl⟩
        have h := h v_4 e_5
        refine lv_iinc (v := v_4) (lv' := [(3, .int v_4), (1, .ref a1), (2, .int x2)]) hx hb dJx4a65c_clear_da8c8_36 hl (k := 2) rfl (by rw [e_5]; rfl) (by decide) rfl (fun ls hl => ?_)
        refine lv_goto (tgt := 27) hx hb dJx4a65c_clear_da8c8_39 (by decide) ?_
        exact ih27 v_4 f_3 _ _ _ h hF hS (lv_sub hl [1, 2, 0] rfl)
  have hl := lv_entry ([.ref a0]) (n := 4) (Nat.le_of_ble_eq_true rfl)
  rw [lg_entry_eq]
  generalize (lg_sl ([.ref a0]) ++ List.replicate (4 - (lg_sl ([.ref a0])).length) Slot.unset).toArray = ls at hl ⊢
  have hl : lv_has ls 4 [(0, .ref a0)] := hl
  unfold wp_Jx4a65c_clear_da8c8 at h
  refine lv_aload_n hx hb dJx4a65c_clear_da8c8_0 rfl (lv_at hl 0 rfl) ?_
  refine lv_dup hx hb dJx4a65c_clear_da8c8_1 rfl ?_
  obtain ⟨fs_7, v_6, he_fs_7, hv_fs_7, h⟩ := h
  refine fw_get (C := RJx4a65c) (T := TJx4a65c) (N := 3) hx hb hts hin_Jx4a65c hown hK hF he_fs_7 rfl 0 (by decide) (hts (.fieldLink RJx4a65c 63 "java/util/ArrayList" "modCount" "I") (by decide +kernel)) (fun x9 h9 => u_same (hts (.sameField "java/util/ArrayList" "java/util/AbstractList" "modCount" "I") (by decide +kernel)) x9 h9) hv_fs_7 dJx4a65c_clear_da8c8_2 ?_
  refine lv_iconst (v := (1 : Int32)) hx hb dJx4a65c_clear_da8c8_5 (by decide) ?_
  refine lv_iadd hx hb dJx4a65c_clear_da8c8_6 ?_
  obtain ⟨fs_8, he_fs_8, hl_fs_8, h⟩ := h
  refine fw_put (v := .int (v_6 + (1 : Int32))) (ty := .int) (C := RJx4a65c) (T := TJx4a65c) (N := 3) hx hb hts hin_Jx4a65c tyJx4a65c (tyJx4a65c_ok) nmJx4a65c hown hK hF hS he_fs_8 rfl 0 (by decide) (hts (.fieldLink RJx4a65c 63 "java/util/ArrayList" "modCount" "I") (by decide +kernel)) (fun x9 h9 => u_same (hts (.sameField "java/util/ArrayList" "java/util/AbstractList" "modCount" "I") (by decide +kernel)) x9 h9) rfl (by decide +kernel) rfl rfl hl_fs_8 dJx4a65c_clear_da8c8_7 (fun H locs hF hS => ?_)
  obtain ⟨f_9, hf_f_9⟩ : ∃ z, z = fup f a0 (.inr (2, fs_8.set 0 (.int (v_6 + (1 : Int32))))) := ⟨_, rfl⟩
  rw [← hf_f_9] at hF; have h := h f_9 hf_f_9
  refine lv_aload_n hx hb dJx4a65c_clear_da8c8_10 rfl (lv_at hl 0 rfl) ?_
  obtain ⟨fs_11, a_10, he_fs_11, hv_fs_11, h⟩ := h
  refine fw_get (C := RJx4a65c) (T := TJx4a65c) (N := 3) hx hb hts hin_Jx4a65c hown hK hF he_fs_11 rfl 1 (by decide) (hts (.fieldLink RJx4a65c 9 "java/util/ArrayList" "elementData" "[Ljava/lang/Object;") (by decide +kernel)) (fun _ h9 => h9) hv_fs_11 dJx4a65c_clear_da8c8_11 ?_
  refine lv_astore_n (lv' := [(1, .ref a_10), (0, .ref a0)]) hx hb dJx4a65c_clear_da8c8_14 rfl hl (by decide) rfl (fun ls hl => ?_)
  refine lv_aload_n hx hb dJx4a65c_clear_da8c8_15 rfl (lv_at hl 1 rfl) ?_
  obtain ⟨fs_13, v_12, he_fs_13, hv_fs_13, h⟩ := h
  refine fw_get (C := RJx4a65c) (T := TJx4a65c) (N := 3) hx hb hts hin_Jx4a65c hown hK hF he_fs_13 rfl 2 (by decide) (hts (.fieldLink RJx4a65c 48 "java/util/ArrayList" "size" "I") (by decide +kernel)) (fun _ h9 => h9) hv_fs_13 dJx4a65c_clear_da8c8_16 ?_
  refine lv_istore_n (lv' := [(2, .int v_12), (1, .ref a_10), (0, .ref a0)]) hx hb dJx4a65c_clear_da8c8_19 rfl hl (by decide) rfl (fun ls hl => ?_)
  refine lv_aload_n hx hb dJx4a65c_clear_da8c8_20 rfl (lv_at hl 2 rfl) ?_
  refine lv_iconst (v := (0 : Int32)) hx hb dJx4a65c_clear_da8c8_21 (by decide) ?_
  refine lv_dup_x1 hx hb dJx4a65c_clear_da8c8_22 rfl rfl ?_
  obtain ⟨fs_14, he_fs_14, hl_fs_14, h⟩ := h
  refine fw_put (v := .int (0 : Int32)) (ty := .int) (C := RJx4a65c) (T := TJx4a65c) (N := 3) hx hb hts hin_Jx4a65c tyJx4a65c (tyJx4a65c_ok) nmJx4a65c hown hK hF hS he_fs_14 rfl 2 (by decide) (hts (.fieldLink RJx4a65c 48 "java/util/ArrayList" "size" "I") (by decide +kernel)) (fun _ h9 => h9) rfl (by decide +kernel) rfl rfl hl_fs_14 dJx4a65c_clear_da8c8_23 (fun H locs hF hS => ?_)
  obtain ⟨f_15, hf_f_15⟩ : ∃ z, z = fup f_9 a0 (.inr (2, fs_14.set 2 (.int (0 : Int32)))) := ⟨_, rfl⟩
  rw [← hf_f_15] at hF; have h := h f_15 hf_f_15
  refine lv_istore_n (lv' := [(3, .int (0 : Int32)), (2, .int v_12), (1, .ref a_10), (0, .ref a0)]) hx hb dJx4a65c_clear_da8c8_26 rfl hl (by decide) rfl (fun ls hl => ?_)
  obtain ⟨n_16, h⟩ := h
  exact L27 a_10 v_12 n_16 (0 : Int32) f_15 _ _ _ h hF hS (lv_sub hl [2, 1, 0] rfl)
theorem dX4_count_0 : decode cX4_count 0 = .ok (.aload_n 0, 1) := by decide +kernel
theorem dX4_count_1 : decode cX4_count 1 = .ok (.getfield 10, 3) := by decide +kernel
theorem dX4_count_4 : decode cX4_count 4 = .ok (.invokevirtual 25, 3) := by decide +kernel
theorem dX4_count_7 : decode cX4_count 7 = .ok (.ireturn, 1) := by decide +kernel
set_option maxRecDepth 20000 in
theorem ggX4_count_Jx4a65c_size_8abf5 : GoodIn wsX4_count wsJx4a65c_size_8abf5 := goodIn_r _ [6, 7, 10, 11, 12] (by decide +kernel) (by decide +kernel)
def wp_X4_count (a0 : Nat) (f : FT) (K : Int32 → Prop) : Prop :=
  gA f a0 7 0 fun a_1 => isO f a_1 2 ∧ wp_Jx4a65c_size_8abf5 a_1 f (fun r_3 => K r_3)
set_option maxHeartbeats 4000000 in
set_option maxRecDepth 100000 in
theorem cc_X4_count (l : Launch) (G : GG) {f : FT} {sz : Nat} {a0 : Nat} {K : Int32 → Prop} (h : wp_X4_count a0 f K) : Met l yX4_count wsX4_count ({ frames := 1, cells := 0, slots := 0, locals := 20 } : Room) (FP G [.ref a0] f sz) (va_Qi (fun r f9 => K r ∧ f9 = f : Int32 → FT → Prop) (FB G (fA f sz)) (fA f sz)) 0 0 (fA f sz) := by
  refine Met.ofW (cc := cX4_count) (maxL := 1) (ret := (some .int)) (by decide) rfl ?_
  intro p e s m args below meth c s₁ B hml hv
  obtain ⟨rfl, hsz, hF, hK, hZ⟩ := hv
  have hx := B.exec
  have hb := B.bytes
  have hr := B.returns
  have hts := atoms_spec (ws := wsX4_count) B.pre
  have hown : s.vm.findClass RX4 = some m.cls := findClass_of_methodNamed B.named
  have hlocks := B.notSynchronized
  subst hsz
  have hF := hF.self (sz := s.heap.size)
  generalize hAe : fA f s.heap.size = A at hF hZ ⊢
  have hA : ∀ q : Nat, s.heap.size ≤ q → A q := fun q h => by rw [← hAe]; exact Or.inr h
  have hS : va_S A s.heap s.heap [] := va_S.rf
  have hin_X4 : ∀ w ∈ wsX40, w ∈ wsX4_count := by decide +kernel
  have hl := lv_entry ([.ref a0]) (n := 1) (Nat.le_of_ble_eq_true rfl)
  rw [lg_entry_eq]
  generalize (lg_sl ([.ref a0]) ++ List.replicate (1 - (lg_sl ([.ref a0])).length) Slot.unset).toArray = ls at hl ⊢
  have hl : lv_has ls 1 [(0, .ref a0)] := hl
  unfold wp_X4_count at h
  refine lv_aload_n hx hb dX4_count_0 rfl (lv_at hl 0 rfl) ?_
  obtain ⟨fs_2, a_1, he_fs_2, hv_fs_2, h⟩ := h
  refine fw_get (C := RX4) (T := TX4) (N := 2) hx hb hts hin_X4 hown hK hF he_fs_2 rfl 0 (by decide) (hts (.fieldLink RX4 10 "FrontCodedIndex$KeyRow" "cells" "Ljava/util/ArrayList;") (by decide +kernel)) (fun _ h9 => h9) hv_fs_2 dX4_count_1 ?_
  obtain ⟨⟨fs_r_3, hrc_r_3⟩, h⟩ := h
  refine fw_cV_i_p (As := []) (rest := []) ⟨hx, hb, hml, hown, hts⟩ (cc_Jx4a65c_size_8abf5 l G h) (⟨callB_of 0 hts ggX4_count_Jx4a65c_size_8abf5 rfl rfl rfl (hts (.initialized RJx4a65c) (by decide +kernel)) (hts (.methodLink RX4 25 yJx4a65c_size_8abf5) (by decide +kernel)) (by decide +kernel) ⟨Nat.le_of_ble_eq_true rfl, Nat.le_of_ble_eq_true rfl⟩, hts (.instanceMethod yJx4a65c_size_8abf5) (by decide +kernel), hts (.selects RJx4a65c yJx4a65c_size_8abf5 yJx4a65c_size_8abf5) (by decide +kernel)⟩) rfl hrc_r_3 hK hZ hF hS hA rfl hl.1 rfl (Nat.le_of_ble_eq_true rfl) dX4_count_4 ⟨Nat.zero_le _, Nat.zero_le _⟩ (fun r_3 H locs h hF hS => ?_)
  exact W.iret (v := r_3) hx hb hr (fun t ht hW => ⟨⟨r_3, f, rfl, ⟨h, rfl⟩, by rw [ht]; exact hF, FK.moved hW.alike hK⟩, hS.F ht⟩) hS.2.2 dX4_count_7
theorem dJx4a65c_fastRemove_b59b0_0 : decode cJx4a65c_fastRemove_b59b0 0 = .ok (.aload_n 0, 1) := by decide +kernel
theorem dJx4a65c_fastRemove_b59b0_1 : decode cJx4a65c_fastRemove_b59b0 1 = .ok (.dup, 1) := by decide +kernel
theorem dJx4a65c_fastRemove_b59b0_2 : decode cJx4a65c_fastRemove_b59b0 2 = .ok (.getfield 63, 3) := by decide +kernel
theorem dJx4a65c_fastRemove_b59b0_5 : decode cJx4a65c_fastRemove_b59b0 5 = .ok (.iconst 1, 1) := by decide +kernel
theorem dJx4a65c_fastRemove_b59b0_6 : decode cJx4a65c_fastRemove_b59b0 6 = .ok (.iadd, 1) := by decide +kernel
theorem dJx4a65c_fastRemove_b59b0_7 : decode cJx4a65c_fastRemove_b59b0 7 = .ok (.putfield 63, 3) := by decide +kernel
theorem dJx4a65c_fastRemove_b59b0_10 : decode cJx4a65c_fastRemove_b59b0 10 = .ok (.aload_n 0, 1) := by decide +kernel
theorem dJx4a65c_fastRemove_b59b0_11 : decode cJx4a65c_fastRemove_b59b0 11 = .ok (.getfield 48, 3) := by decide +kernel
theorem dJx4a65c_fastRemove_b59b0_14 : decode cJx4a65c_fastRemove_b59b0 14 = .ok (.iconst 1, 1) := by decide +kernel
theorem dJx4a65c_fastRemove_b59b0_15 : decode cJx4a65c_fastRemove_b59b0 15 = .ok (.isub, 1) := by decide +kernel
theorem dJx4a65c_fastRemove_b59b0_16 : decode cJx4a65c_fastRemove_b59b0 16 = .ok (.dup, 1) := by decide +kernel
theorem dJx4a65c_fastRemove_b59b0_17 : decode cJx4a65c_fastRemove_b59b0 17 = .ok (.istore_n 3, 1) := by decide +kernel
theorem dJx4a65c_fastRemove_b59b0_18 : decode cJx4a65c_fastRemove_b59b0 18 = .ok (.iload_n 2, 1) := by decide +kernel
theorem dJx4a65c_fastRemove_b59b0_19 : decode cJx4a65c_fastRemove_b59b0 19 = .ok (.if_icmp .le 15, 3) := by decide +kernel
theorem dJx4a65c_fastRemove_b59b0_22 : decode cJx4a65c_fastRemove_b59b0 22 = .ok (.aload_n 1, 1) := by decide +kernel
theorem dJx4a65c_fastRemove_b59b0_23 : decode cJx4a65c_fastRemove_b59b0 23 = .ok (.iload_n 2, 1) := by decide +kernel
theorem dJx4a65c_fastRemove_b59b0_24 : decode cJx4a65c_fastRemove_b59b0 24 = .ok (.iconst 1, 1) := by decide +kernel
theorem dJx4a65c_fastRemove_b59b0_25 : decode cJx4a65c_fastRemove_b59b0 25 = .ok (.iadd, 1) := by decide +kernel
theorem dJx4a65c_fastRemove_b59b0_26 : decode cJx4a65c_fastRemove_b59b0 26 = .ok (.aload_n 1, 1) := by decide +kernel
theorem dJx4a65c_fastRemove_b59b0_27 : decode cJx4a65c_fastRemove_b59b0 27 = .ok (.iload_n 2, 1) := by decide +kernel
theorem dJx4a65c_fastRemove_b59b0_28 : decode cJx4a65c_fastRemove_b59b0 28 = .ok (.iload_n 3, 1) := by decide +kernel
theorem dJx4a65c_fastRemove_b59b0_29 : decode cJx4a65c_fastRemove_b59b0 29 = .ok (.iload_n 2, 1) := by decide +kernel
theorem dJx4a65c_fastRemove_b59b0_30 : decode cJx4a65c_fastRemove_b59b0 30 = .ok (.isub, 1) := by decide +kernel
theorem dJx4a65c_fastRemove_b59b0_31 : decode cJx4a65c_fastRemove_b59b0 31 = .ok (.invokestatic 112, 3) := by decide +kernel
theorem dJx4a65c_fastRemove_b59b0_34 : decode cJx4a65c_fastRemove_b59b0 34 = .ok (.aload_n 1, 1) := by decide +kernel
theorem dJx4a65c_fastRemove_b59b0_35 : decode cJx4a65c_fastRemove_b59b0 35 = .ok (.aload_n 0, 1) := by decide +kernel
theorem dJx4a65c_fastRemove_b59b0_36 : decode cJx4a65c_fastRemove_b59b0 36 = .ok (.iload_n 3, 1) := by decide +kernel
theorem dJx4a65c_fastRemove_b59b0_37 : decode cJx4a65c_fastRemove_b59b0 37 = .ok (.dup_x1, 1) := by decide +kernel
theorem dJx4a65c_fastRemove_b59b0_38 : decode cJx4a65c_fastRemove_b59b0 38 = .ok (.putfield 48, 3) := by decide +kernel
theorem dJx4a65c_fastRemove_b59b0_41 : decode cJx4a65c_fastRemove_b59b0 41 = .ok (.aconst_null, 1) := by decide +kernel
theorem dJx4a65c_fastRemove_b59b0_42 : decode cJx4a65c_fastRemove_b59b0 42 = .ok (.aastore, 1) := by decide +kernel
theorem dJx4a65c_fastRemove_b59b0_43 : decode cJx4a65c_fastRemove_b59b0 43 = .ok (.return_, 1) := by decide +kernel
def wp_Jx4a65c_fastRemove_b59b0_34 (a0 : Nat) (a1 : Nat) (x3 : Int32) (f : FT) (K : FT → Prop)  : Prop :=
  pV f a0 2 2 (.int x3) fun f_2 => sN f_2 a1 x3 fun f_4 => K f_4
def wp_Jx4a65c_fastRemove_b59b0 (a0 : Nat) (a1 : Nat) (x2 : Int32) (f : FT) (K : FT → Prop) : Prop :=
  gI f a0 2 0 fun v_5 => pV f a0 2 0 (.int (v_5 + (1 : Int32))) fun f_8 => gI f_8 a0 2 2 fun v_9 => ∀ v_11 : Int32, v_11 = (v_9 - (1 : Int32)) → (((v_9 - (1 : Int32)) ≤ x2 → wp_Jx4a65c_fastRemove_b59b0_34 a0 a1 v_11 f_8 K) ∧
 (¬ ((v_9 - (1 : Int32)) ≤ x2) → cR f_8 a1 (x2 + (1 : Int32)) a1 x2 (v_11 - x2) fun f_15 => wp_Jx4a65c_fastRemove_b59b0_34 a0 a1 v_11 f_15 K))
set_option maxHeartbeats 4000000 in
set_option maxRecDepth 100000 in
theorem cc_Jx4a65c_fastRemove_b59b0 (l : Launch) (G : GG) {f : FT} {sz : Nat} {a0 : Nat} {a1 : Nat} {x2 : Int32} {K : FT → Prop} (h : wp_Jx4a65c_fastRemove_b59b0 a0 a1 x2 f K) : Met l yJx4a65c_fastRemove_b59b0 wsJx4a65c_fastRemove_b59b0 ({ frames := 1, cells := 0, slots := 0, locals := 40 } : Room) (FP G [.ref a0, .ref a1, .int x2] f sz) (va_Qv (fun f9 => K f9 : FT → Prop) (FB G (fA f sz)) (fA f sz)) 0 0 (fA f sz) := by
  refine Met.ofW (cc := cJx4a65c_fastRemove_b59b0) (maxL := 4) (ret := none) (by decide) rfl ?_
  intro p e s m args below meth c s₁ B hml hv
  obtain ⟨rfl, hsz, hF, hK, hZ⟩ := hv
  have hx := B.exec
  have hb := B.bytes
  have hr := B.returns
  have hts := atoms_spec (ws := wsJx4a65c_fastRemove_b59b0) B.pre
  have hown : s.vm.findClass RJx4a65c = some m.cls := findClass_of_methodNamed B.named
  have hlocks := B.notSynchronized
  subst hsz
  have hF := hF.self (sz := s.heap.size)
  generalize hAe : fA f s.heap.size = A at hF hZ ⊢
  have hA : ∀ q : Nat, s.heap.size ≤ q → A q := fun q h => by rw [← hAe]; exact Or.inr h
  have hS : va_S A s.heap s.heap [] := va_S.rf
  have hin_Jx4a65c : ∀ w ∈ wsJx4a65c0, w ∈ wsJx4a65c_fastRemove_b59b0 := by decide +kernel
  have J34 : ∀ (x3 : Int32) (f : FT) (H : Heap) (locs : List Loc) (ls : Array Slot), wp_Jx4a65c_fastRemove_b59b0_34 a0 a1 x3 f K  → Fw G A f H → va_S A s.heap H locs → lv_has ls 4 [(0, .ref a0), (1, .ref a1), (3, .int x3)] → W p l e ({ frames := 1, cells := 0, slots := 0, locals := 40 } : Room) s m ([.ref a0, .ref a1, .int x2] : List Value).toArray below meth c H locs 0 0 (MQ below (va_Qv (fun f9 => K f9 : FT → Prop) (FB G A) A) ([.ref a0, .ref a1, .int x2] : List Value).toArray s 0 0 A) (F0 m 34 ls []) := by
    intro x3 f H locs ls h hF hS hl
    unfold wp_Jx4a65c_fastRemove_b59b0_34 at h
    refine lv_aload_n hx hb dJx4a65c_fastRemove_b59b0_34 rfl (lv_at hl 1 rfl) ?_
    refine lv_aload_n hx hb dJx4a65c_fastRemove_b59b0_35 rfl (lv_at hl 0 rfl) ?_
    refine lv_iload_n hx hb dJx4a65c_fastRemove_b59b0_36 rfl (lv_at hl 2 rfl) ?_
    refine lv_dup_x1 hx hb dJx4a65c_fastRemove_b59b0_37 rfl rfl ?_
    obtain ⟨fs_1, he_fs_1, hl_fs_1, h⟩ := h
    refine fw_put (v := .int x3) (ty := .int) (C := RJx4a65c) (T := TJx4a65c) (N := 3) hx hb hts hin_Jx4a65c tyJx4a65c (tyJx4a65c_ok) nmJx4a65c hown hK hF hS he_fs_1 rfl 2 (by decide) (hts (.fieldLink RJx4a65c 48 "java/util/ArrayList" "size" "I") (by decide +kernel)) (fun _ h9 => h9) rfl (by decide +kernel) rfl rfl hl_fs_1 dJx4a65c_fastRemove_b59b0_38 (fun H locs hF hS => ?_)
    obtain ⟨f_2, hf_f_2⟩ : ∃ z, z = fup f a0 (.inr (2, fs_1.set 2 (.int x3))) := ⟨_, rfl⟩
    rw [← hf_f_2] at hF; have h := h f_2 hf_f_2
    refine lv_null hx hb dJx4a65c_fastRemove_b59b0_41 ?_
    obtain ⟨n_q_3, q_3, he_q_3, hi_q_3, h⟩ := h
    refine fw_aastN hx hb hK hF hS he_q_3 hi_q_3 dJx4a65c_fastRemove_b59b0_42 (fun H locs hF hS => ?_)
    obtain ⟨f_4, hf_f_4⟩ : ∃ z, z = fup f_2 a1 (.inl (2, n_q_3, .inr (.inr (.inr (.inr (va_up q_3 (x3).toNatClampNeg none)))))) := ⟨_, rfl⟩
    rw [← hf_f_4] at hF; have h := h f_4 hf_f_4
    exact W.vret hx hb hr (fun t ht hW => ⟨⟨f_4, rfl, h, by rw [ht]; exact hF, FK.moved hW.alike hK⟩, hS.F ht⟩) hS.2.2 dJx4a65c_fastRemove_b59b0_43
  have hl := lv_entry ([.ref a0, .ref a1, .int x2]) (n := 4) (Nat.le_of_ble_eq_true rfl)
  rw [lg_entry_eq]
  generalize (lg_sl ([.ref a0, .ref a1, .int x2]) ++ List.replicate (4 - (lg_sl ([.ref a0, .ref a1, .int x2])).length) Slot.unset).toArray = ls at hl ⊢
  have hl : lv_has ls 4 [(0, .ref a0), (1, .ref a1), (2, .int x2)] := hl
  unfold wp_Jx4a65c_fastRemove_b59b0 at h
  refine lv_aload_n hx hb dJx4a65c_fastRemove_b59b0_0 rfl (lv_at hl 0 rfl) ?_
  refine lv_dup hx hb dJx4a65c_fastRemove_b59b0_1 rfl ?_
  obtain ⟨fs_6, v_5, he_fs_6, hv_fs_6, h⟩ := h
  refine fw_get (C := RJx4a65c) (T := TJx4a65c) (N := 3) hx hb hts hin_Jx4a65c hown hK hF he_fs_6 rfl 0 (by decide) (hts (.fieldLink RJx4a65c 63 "java/util/ArrayList" "modCount" "I") (by decide +kernel)) (fun x9 h9 => u_same (hts (.sameField "java/util/ArrayList" "java/util/AbstractList" "modCount" "I") (by decide +kernel)) x9 h9) hv_fs_6 dJx4a65c_fastRemove_b59b0_2 ?_
  refine lv_iconst (v := (1 : Int32)) hx hb dJx4a65c_fastRemove_b59b0_5 (by decide) ?_
  refine lv_iadd hx hb dJx4a65c_fastRemove_b59b0_6 ?_
  obtain ⟨fs_7, he_fs_7, hl_fs_7, h⟩ := h
  refine fw_put (v := .int (v_5 + (1 : Int32))) (ty := .int) (C := RJx4a65c) (T := TJx4a65c) (N := 3) hx hb hts hin_Jx4a65c tyJx4a65c (tyJx4a65c_ok) nmJx4a65c hown hK hF hS he_fs_7 rfl 0 (by decide) (hts (.fieldLink RJx4a65c 63 "java/util/ArrayList" "modCount" "I") (by decide +kernel)) (fun x9 h9 => u_same (hts (.sameField "java/util/ArrayList" "java/util/AbstractList" "modCount" "I") (by decide +kernel)) x9 h9) rfl (by decide +kernel) rfl rfl hl_fs_7 dJx4a65c_fastRemove_b59b0_7 (fun H locs hF hS => ?_)
  obtain ⟨f_8, hf_f_8⟩ : ∃ z, z = fup f a0 (.inr (2, fs_7.set 0 (.int (v_5 + (1 : Int32))))) := ⟨_, rfl⟩
  rw [← hf_f_8] at hF; have h := h f_8 hf_f_8
  refine lv_aload_n hx hb dJx4a65c_fastRemove_b59b0_10 rfl (lv_at hl 0 rfl) ?_
  obtain ⟨fs_10, v_9, he_fs_10, hv_fs_10, h⟩ := h
  refine fw_get (C := RJx4a65c) (T := TJx4a65c) (N := 3) hx hb hts hin_Jx4a65c hown hK hF he_fs_10 rfl 2 (by decide) (hts (.fieldLink RJx4a65c 48 "java/util/ArrayList" "size" "I") (by decide +kernel)) (fun _ h9 => h9) hv_fs_10 dJx4a65c_fastRemove_b59b0_11 ?_
  refine lv_iconst (v := (1 : Int32)) hx hb dJx4a65c_fastRemove_b59b0_14 (by decide) ?_
  refine lv_isub hx hb dJx4a65c_fastRemove_b59b0_15 ?_
  refine lv_dup hx hb dJx4a65c_fastRemove_b59b0_16 rfl ?_
  refine lv_topi (fun v_11 e_12 => ?_)
  have h := h v_11 e_12
  refine lv_istore_n (lv' := [(3, .int v_11), (0, .ref a0), (1, .ref a1), (2, .int x2)]) hx hb dJx4a65c_fastRemove_b59b0_17 rfl hl (by decide) rfl (fun ls hl => ?_)
  refine lv_iload_n hx hb dJx4a65c_fastRemove_b59b0_18 rfl (lv_at hl 3 rfl) ?_
  obtain ⟨h1, h2⟩ := h
  refine lv_icmp_le (tgt := 34) hx hb dJx4a65c_fastRemove_b59b0_19 (by decide) (fun c_13 => ?_) (fun c_13 => ?_)
  · have h := h1 c_13
    exact J34 v_11 f_8 _ _ _ h hF hS (lv_sub hl [1, 2, 0] rfl)
  · have h := h2 c_13
    refine lv_aload_n hx hb dJx4a65c_fastRemove_b59b0_22 rfl (lv_at hl 2 rfl) ?_
    refine lv_iload_n hx hb dJx4a65c_fastRemove_b59b0_23 rfl (lv_at hl 3 rfl) ?_
    refine lv_iconst (v := (1 : Int32)) hx hb dJx4a65c_fastRemove_b59b0_24 (by decide) ?_
    refine lv_iadd hx hb dJx4a65c_fastRemove_b59b0_25 ?_
    refine lv_aload_n hx hb dJx4a65c_fastRemove_b59b0_26 rfl (lv_at hl 2 rfl) ?_
    refine lv_iload_n hx hb dJx4a65c_fastRemove_b59b0_27 rfl (lv_at hl 3 rfl) ?_
    refine lv_iload_n hx hb dJx4a65c_fastRemove_b59b0_28 rfl (lv_at hl 0 rfl) ?_
    refine lv_iload_n hx hb dJx4a65c_fastRemove_b59b0_29 rfl (lv_at hl 3 rfl) ?_
    refine lv_isub hx hb dJx4a65c_fastRemove_b59b0_30 ?_
    obtain ⟨n0_q_14, n1_q_14, g0_q_14, g1_q_14, he0_q_14, he1_q_14, hc1_q_14, hc2_q_14, hc3_q_14, hc4_q_14, hc5_q_14, hel_q_14, h⟩ := h
    refine fw_copyR hx hb (hml.trans hl.1.symm) hown (hts (.methodLink RJx4a65c 112 arraycopyName) (by decide +kernel)) (hts (.native arraycopyName) (by decide +kernel)) (hts (.static arraycopyName) (by decide +kernel)) (hts (.initialized "java/lang/System") (by decide +kernel)) hK hF hS he0_q_14 he1_q_14 hc1_q_14 hc2_q_14 hc3_q_14 hc4_q_14 hc5_q_14 hel_q_14 (by decide) (by decide) dJx4a65c_fastRemove_b59b0_31 (fun H locs hF hS => ?_)
    obtain ⟨f_15, hf_f_15⟩ : ∃ z, z = fup f_8 a1 (.inl (2, n1_q_14, .inr (.inr (.inr (.inr (va_cpy g0_q_14 g1_q_14 ((x2 + (1 : Int32))).toNatClampNeg (x2).toNatClampNeg ((v_11 - x2)).toNatClampNeg)))))) := ⟨_, rfl⟩
    rw [← hf_f_15] at hF; have h := h f_15 hf_f_15
    exact J34 v_11 f_15 _ _ _ h hF hS (lv_sub hl [1, 2, 0] rfl)
theorem dJx4a65c_remove_915e3_0 : decode cJx4a65c_remove_915e3 0 = .ok (.iload_n 1, 1) := by decide +kernel
theorem dJx4a65c_remove_915e3_1 : decode cJx4a65c_remove_915e3 1 = .ok (.aload_n 0, 1) := by decide +kernel
theorem dJx4a65c_remove_915e3_2 : decode cJx4a65c_remove_915e3 2 = .ok (.getfield 48, 3) := by decide +kernel
theorem dJx4a65c_remove_915e3_5 : decode cJx4a65c_remove_915e3 5 = .ok (.invokestatic 118, 3) := by decide +kernel
theorem dJx4a65c_remove_915e3_8 : decode cJx4a65c_remove_915e3 8 = .ok (.pop, 1) := by decide +kernel
theorem dJx4a65c_remove_915e3_9 : decode cJx4a65c_remove_915e3 9 = .ok (.aload_n 0, 1) := by decide +kernel
theorem dJx4a65c_remove_915e3_10 : decode cJx4a65c_remove_915e3 10 = .ok (.getfield 9, 3) := by decide +kernel
theorem dJx4a65c_remove_915e3_13 : decode cJx4a65c_remove_915e3 13 = .ok (.astore_n 2, 1) := by decide +kernel
theorem dJx4a65c_remove_915e3_14 : decode cJx4a65c_remove_915e3 14 = .ok (.aload_n 2, 1) := by decide +kernel
theorem dJx4a65c_remove_915e3_15 : decode cJx4a65c_remove_915e3 15 = .ok (.iload_n 1, 1) := by decide +kernel
theorem dJx4a65c_remove_915e3_16 : decode cJx4a65c_remove_915e3 16 = .ok (.aaload, 1) := by decide +kernel
theorem dJx4a65c_remove_915e3_17 : decode cJx4a65c_remove_915e3 17 = .ok (.astore_n 3, 1) := by decide +kernel
theorem dJx4a65c_remove_915e3_18 : decode cJx4a65c_remove_915e3 18 = .ok (.aload_n 0, 1) := by decide +kernel
theorem dJx4a65c_remove_915e3_19 : decode cJx4a65c_remove_915e3 19 = .ok (.aload_n 2, 1) := by decide +kernel
theorem dJx4a65c_remove_915e3_20 : decode cJx4a65c_remove_915e3 20 = .ok (.iload_n 1, 1) := by decide +kernel
theorem dJx4a65c_remove_915e3_21 : decode cJx4a65c_remove_915e3 21 = .ok (.invokevirtual 144, 3) := by decide +kernel
theorem dJx4a65c_remove_915e3_24 : decode cJx4a65c_remove_915e3 24 = .ok (.aload_n 3, 1) := by decide +kernel
theorem dJx4a65c_remove_915e3_25 : decode cJx4a65c_remove_915e3 25 = .ok (.areturn, 1) := by decide +kernel
set_option maxRecDepth 20000 in
theorem ggJx4a65c_remove_915e3_J15_checkIndex_7cf53 : GoodIn wsJx4a65c_remove_915e3 wsJ15_checkIndex_7cf53 := goodIn_r _ [6, 7, 8, 9, 10] (by decide +kernel) (by decide +kernel)
set_option maxRecDepth 20000 in
theorem ggJx4a65c_remove_915e3_Jx4a65c_fastRemove_b59b0 : GoodIn wsJx4a65c_remove_915e3 wsJx4a65c_fastRemove_b59b0 := goodIn_r _ [15, 16, 17, 1, 18, 19, 20, 21, 22, 23, 24] (by decide +kernel) (by decide +kernel)
def wp_Jx4a65c_remove_915e3 (a0 : Nat) (x1 : Int32) (f : FT) (K : Nat → FT → Prop) : Prop :=
  gI f a0 2 2 fun v_1 => wp_J15_checkIndex_7cf53 x1 v_1 f (fun r_3 => gA f a0 2 1 fun a_4 => aA f a_4 x1 fun a_6 => isO f a0 2 ∧ wp_Jx4a65c_fastRemove_b59b0 a0 a_4 x1 f (fun f_9 => K a_6 f_9))
set_option maxHeartbeats 4000000 in
set_option maxRecDepth 100000 in
theorem cc_Jx4a65c_remove_915e3 (l : Launch) (G : GG) {f : FT} {sz : Nat} {a0 : Nat} {x1 : Int32} {K : Nat → FT → Prop} (h : wp_Jx4a65c_remove_915e3 a0 x1 f K) : Met l yJx4a65c_remove_915e3 wsJx4a65c_remove_915e3 ({ frames := 2, cells := 0, slots := 0, locals := 63 } : Room) (FP G [.ref a0, .int x1] f sz) (va_Qq (fun r f9 => ∃ q, r = some q ∧ K q f9 : Option Nat → FT → Prop) (FB G (fA f sz)) (fA f sz)) 0 0 (fA f sz) := by
  refine Met.ofW (cc := cJx4a65c_remove_915e3) (maxL := 4) (ret := (some (.object "java/lang/Object"))) (by decide) rfl ?_
  intro p e s m args below meth c s₁ B hml hv
  obtain ⟨rfl, hsz, hF, hK, hZ⟩ := hv
  have hx := B.exec
  have hb := B.bytes
  have hr := B.returns
  have hts := atoms_spec (ws := wsJx4a65c_remove_915e3) B.pre
  have hown : s.vm.findClass RJx4a65c = some m.cls := findClass_of_methodNamed B.named
  have hlocks := B.notSynchronized
  subst hsz
  have hF := hF.self (sz := s.heap.size)
  generalize hAe : fA f s.heap.size = A at hF hZ ⊢
  have hA : ∀ q : Nat, s.heap.size ≤ q → A q := fun q h => by rw [← hAe]; exact Or.inr h
  have hS : va_S A s.heap s.heap [] := va_S.rf
  have hin_Jx4a65c : ∀ w ∈ wsJx4a65c0, w ∈ wsJx4a65c_remove_915e3 := by decide +kernel
  have hl := lv_entry ([.ref a0, .int x1]) (n := 4) (Nat.le_of_ble_eq_true rfl)
  rw [lg_entry_eq]
  generalize (lg_sl ([.ref a0, .int x1]) ++ List.replicate (4 - (lg_sl ([.ref a0, .int x1])).length) Slot.unset).toArray = ls at hl ⊢
  have hl : lv_has ls 4 [(0, .ref a0), (1, .int x1)] := hl
  unfold wp_Jx4a65c_remove_915e3 at h
  refine lv_iload_n hx hb dJx4a65c_remove_915e3_0 rfl (lv_at hl 1 rfl) ?_
  refine lv_aload_n hx hb dJx4a65c_remove_915e3_1 rfl (lv_at hl 0 rfl) ?_
  obtain ⟨fs_2, v_1, he_fs_2, hv_fs_2, h⟩ := h
  refine fw_get (C := RJx4a65c) (T := TJx4a65c) (N := 3) hx hb hts hin_Jx4a65c hown hK hF he_fs_2 rfl 2 (by decide) (hts (.fieldLink RJx4a65c 48 "java/util/ArrayList" "size" "I") (by decide +kernel)) (fun _ h9 => h9) hv_fs_2 dJx4a65c_remove_915e3_2 ?_
  refine fw_cS_i_p (As := [.int x1, .int v_1]) (rest := []) ⟨hx, hb, hml, hown, hts⟩ (cc_J15_checkIndex_7cf53 l G h) (⟨callB_of 2 hts ggJx4a65c_remove_915e3_J15_checkIndex_7cf53 rfl rfl rfl (hts (.initialized RJ15) (by decide +kernel)) (hts (.methodLink RJx4a65c 118 yJ15_checkIndex_7cf53) (by decide +kernel)) (by decide +kernel) ⟨Nat.le_of_ble_eq_true rfl, Nat.le_of_ble_eq_true rfl⟩, hts (.static yJ15_checkIndex_7cf53) (by decide +kernel)⟩) hK hZ hF hS hA rfl hl.1 rfl (Nat.le_of_ble_eq_true rfl) dJx4a65c_remove_915e3_5 ⟨Nat.zero_le _, Nat.zero_le _⟩ (fun r_3 H locs h hF hS => ?_)
  refine lv_pop hx hb dJx4a65c_remove_915e3_8 rfl ?_
  refine lv_aload_n hx hb dJx4a65c_remove_915e3_9 rfl (lv_at hl 0 rfl) ?_
  obtain ⟨fs_5, a_4, he_fs_5, hv_fs_5, h⟩ := h
  refine fw_get (C := RJx4a65c) (T := TJx4a65c) (N := 3) hx hb hts hin_Jx4a65c hown hK hF he_fs_5 rfl 1 (by decide) (hts (.fieldLink RJx4a65c 9 "java/util/ArrayList" "elementData" "[Ljava/lang/Object;") (by decide +kernel)) (fun _ h9 => h9) hv_fs_5 dJx4a65c_remove_915e3_10 ?_
  refine lv_astore_n (lv' := [(2, .ref a_4), (0, .ref a0), (1, .int x1)]) hx hb dJx4a65c_remove_915e3_13 rfl hl (by decide) rfl (fun ls hl => ?_)
  refine lv_aload_n hx hb dJx4a65c_remove_915e3_14 rfl (lv_at hl 0 rfl) ?_
  refine lv_iload_n hx hb dJx4a65c_remove_915e3_15 rfl (lv_at hl 2 rfl) ?_
  obtain ⟨n_q_7, q_7, a_6, he_q_7, hi_q_7, hv_q_7, h⟩ := h
  refine fw_aaldA hx hb hK hF he_q_7 hi_q_7 hv_q_7 dJx4a65c_remove_915e3_16 ?_
  refine lv_astore_n (lv' := [(3, .ref a_6), (2, .ref a_4), (0, .ref a0), (1, .int x1)]) hx hb dJx4a65c_remove_915e3_17 rfl hl (by decide) rfl (fun ls hl => ?_)
  refine lv_aload_n hx hb dJx4a65c_remove_915e3_18 rfl (lv_at hl 2 rfl) ?_
  refine lv_aload_n hx hb dJx4a65c_remove_915e3_19 rfl (lv_at hl 1 rfl) ?_
  refine lv_iload_n hx hb dJx4a65c_remove_915e3_20 rfl (lv_at hl 3 rfl) ?_
  obtain ⟨⟨fs_u_8, hrc_u_8⟩, h⟩ := h
  refine fw_cV_v (As := [.ref a_4, .int x1]) (rest := []) ⟨hx, hb, hml, hown, hts⟩ (cc_Jx4a65c_fastRemove_b59b0 l G h) (⟨callB_of 2 hts ggJx4a65c_remove_915e3_Jx4a65c_fastRemove_b59b0 rfl rfl rfl (hts (.initialized RJx4a65c) (by decide +kernel)) (hts (.methodLink RJx4a65c 144 yJx4a65c_fastRemove_b59b0) (by decide +kernel)) (by decide +kernel) ⟨Nat.le_of_ble_eq_true rfl, Nat.le_of_ble_eq_true rfl⟩, hts (.instanceMethod yJx4a65c_fastRemove_b59b0) (by decide +kernel), hts (.selects RJx4a65c yJx4a65c_fastRemove_b59b0 yJx4a65c_fastRemove_b59b0) (by decide +kernel)⟩) rfl hrc_u_8 hK hZ hF hS hA rfl hl.1 rfl (Nat.le_of_ble_eq_true rfl) dJx4a65c_remove_915e3_21 ⟨Nat.zero_le _, Nat.zero_le _⟩ (fun f_9 H locs h hF hS => ?_)
  refine lv_aload_n hx hb dJx4a65c_remove_915e3_24 rfl (lv_at hl 0 rfl) ?_
  exact W.aret (v := .ref a_6) hx hb hr (Or.inl ⟨_, rfl⟩) (Or.inr ⟨a_6, rfl⟩) (fun t ht hW => ⟨⟨some a_6, f_9, rfl, ⟨_, rfl, h⟩, by rw [ht]; exact hF, FK.moved hW.alike hK⟩, hS.F ht⟩) hS.2.2 dJx4a65c_remove_915e3_25
theorem dX4_delete_0 : decode cX4_delete 0 = .ok (.iload_n 1, 1) := by decide +kernel
theorem dX4_delete_1 : decode cX4_delete 1 = .ok (.ifCond .lt 23, 3) := by decide +kernel
theorem dX4_delete_4 : decode cX4_delete 4 = .ok (.iload_n 1, 1) := by decide +kernel
theorem dX4_delete_5 : decode cX4_delete 5 = .ok (.aload_n 0, 1) := by decide +kernel
theorem dX4_delete_6 : decode cX4_delete 6 = .ok (.getfield 10, 3) := by decide +kernel
theorem dX4_delete_9 : decode cX4_delete 9 = .ok (.invokevirtual 25, 3) := by decide +kernel
theorem dX4_delete_12 : decode cX4_delete 12 = .ok (.if_icmp .ge 12, 3) := by decide +kernel
theorem dX4_delete_15 : decode cX4_delete 15 = .ok (.aload_n 0, 1) := by decide +kernel
theorem dX4_delete_16 : decode cX4_delete 16 = .ok (.getfield 10, 3) := by decide +kernel
theorem dX4_delete_19 : decode cX4_delete 19 = .ok (.iload_n 1, 1) := by decide +kernel
theorem dX4_delete_20 : decode cX4_delete 20 = .ok (.invokevirtual 44, 3) := by decide +kernel
theorem dX4_delete_23 : decode cX4_delete 23 = .ok (.pop, 1) := by decide +kernel
theorem dX4_delete_24 : decode cX4_delete 24 = .ok (.return_, 1) := by decide +kernel
set_option maxRecDepth 20000 in
theorem ggX4_delete_Jx4a65c_remove_915e3 : GoodIn wsX4_delete wsJx4a65c_remove_915e3 := goodIn_r _ [11, 7, 12, 13, 14, 15, 16, 17, 18, 19, 20, 21, 22, 23, 5, 24, 25, 26, 27, 28, 29, 30, 33, 34, 35] (by decide +kernel) (by decide +kernel)
set_option maxRecDepth 20000 in
theorem ggX4_delete_Jx4a65c_size_8abf5 : GoodIn wsX4_delete wsJx4a65c_size_8abf5 := goodIn_r _ [6, 7, 33, 34, 35] (by decide +kernel) (by decide +kernel)
def wp_X4_delete (a0 : Nat) (x1 : Int32) (f : FT) (K : FT → Prop) : Prop :=
  ((x1 < (0 : Int32) → K f) ∧
 (¬ (x1 < (0 : Int32)) → gA f a0 7 0 fun a_2 => isO f a_2 2 ∧ wp_Jx4a65c_size_8abf5 a_2 f (fun r_4 => ((r_4 ≤ x1 → K f) ∧
 (¬ (r_4 ≤ x1) → gA f a0 7 0 fun a_6 => isO f a_6 2 ∧ wp_Jx4a65c_remove_915e3 a_6 x1 f (fun a_8 f_9 => K f_9))))))
set_option maxHeartbeats 4000000 in
set_option maxRecDepth 100000 in
theorem cc_X4_delete (l : Launch) (G : GG) {f : FT} {sz : Nat} {a0 : Nat} {x1 : Int32} {K : FT → Prop} (h : wp_X4_delete a0 x1 f K) : Met l yX4_delete wsX4_delete ({ frames := 3, cells := 0, slots := 0, locals := 86 } : Room) (FP G [.ref a0, .int x1] f sz) (va_Qv (fun f9 => K f9 : FT → Prop) (FB G (fA f sz)) (fA f sz)) 0 0 (fA f sz) := by
  refine Met.ofW (cc := cX4_delete) (maxL := 2) (ret := none) (by decide) rfl ?_
  intro p e s m args below meth c s₁ B hml hv
  obtain ⟨rfl, hsz, hF, hK, hZ⟩ := hv
  have hx := B.exec
  have hb := B.bytes
  have hr := B.returns
  have hts := atoms_spec (ws := wsX4_delete) B.pre
  have hown : s.vm.findClass RX4 = some m.cls := findClass_of_methodNamed B.named
  have hlocks := B.notSynchronized
  subst hsz
  have hF := hF.self (sz := s.heap.size)
  generalize hAe : fA f s.heap.size = A at hF hZ ⊢
  have hA : ∀ q : Nat, s.heap.size ≤ q → A q := fun q h => by rw [← hAe]; exact Or.inr h
  have hS : va_S A s.heap s.heap [] := va_S.rf
  have hin_X4 : ∀ w ∈ wsX40, w ∈ wsX4_delete := by decide +kernel
  have hl := lv_entry ([.ref a0, .int x1]) (n := 2) (Nat.le_of_ble_eq_true rfl)
  rw [lg_entry_eq]
  generalize (lg_sl ([.ref a0, .int x1]) ++ List.replicate (2 - (lg_sl ([.ref a0, .int x1])).length) Slot.unset).toArray = ls at hl ⊢
  have hl : lv_has ls 2 [(0, .ref a0), (1, .int x1)] := hl
  unfold wp_X4_delete at h
  refine lv_iload_n hx hb dX4_delete_0 rfl (lv_at hl 1 rfl) ?_
  obtain ⟨h1, h2⟩ := h
  refine lv_if_lt (tgt := 24) hx hb dX4_delete_1 (by decide) (fun c_1 => ?_) (fun c_1 => ?_)
  · have h := h1 c_1
    exact W.vret hx hb hr (fun t ht hW => ⟨⟨f, rfl, h, by rw [ht]; exact hF, FK.moved hW.alike hK⟩, hS.F ht⟩) hS.2.2 dX4_delete_24
  · have h := h2 c_1
    refine lv_iload_n hx hb dX4_delete_4 rfl (lv_at hl 1 rfl) ?_
    refine lv_aload_n hx hb dX4_delete_5 rfl (lv_at hl 0 rfl) ?_
    obtain ⟨fs_3, a_2, he_fs_3, hv_fs_3, h⟩ := h
    refine fw_get (C := RX4) (T := TX4) (N := 2) hx hb hts hin_X4 hown hK hF he_fs_3 rfl 0 (by decide) (hts (.fieldLink RX4 10 "FrontCodedIndex$KeyRow" "cells" "Ljava/util/ArrayList;") (by decide +kernel)) (fun _ h9 => h9) hv_fs_3 dX4_delete_6 ?_
    obtain ⟨⟨fs_r_4, hrc_r_4⟩, h⟩ := h
    refine fw_cV_i_p (As := []) (rest := [.int x1]) ⟨hx, hb, hml, hown, hts⟩ (cc_Jx4a65c_size_8abf5 l G h) (⟨callB_of 0 hts ggX4_delete_Jx4a65c_size_8abf5 rfl rfl rfl (hts (.initialized RJx4a65c) (by decide +kernel)) (hts (.methodLink RX4 25 yJx4a65c_size_8abf5) (by decide +kernel)) (by decide +kernel) ⟨Nat.le_of_ble_eq_true rfl, Nat.le_of_ble_eq_true rfl⟩, hts (.instanceMethod yJx4a65c_size_8abf5) (by decide +kernel), hts (.selects RJx4a65c yJx4a65c_size_8abf5 yJx4a65c_size_8abf5) (by decide +kernel)⟩) rfl hrc_r_4 hK hZ hF hS hA rfl hl.1 rfl (Nat.le_of_ble_eq_true rfl) dX4_delete_9 ⟨Nat.zero_le _, Nat.zero_le _⟩ (fun r_4 H locs h hF hS => ?_)
    obtain ⟨h1, h2⟩ := h
    refine lv_icmp_ge (tgt := 24) hx hb dX4_delete_12 (by decide) (fun c_5 => ?_) (fun c_5 => ?_)
    · have h := h1 c_5
      exact W.vret hx hb hr (fun t ht hW => ⟨⟨f, rfl, h, by rw [ht]; exact hF, FK.moved hW.alike hK⟩, hS.F ht⟩) hS.2.2 dX4_delete_24
    · have h := h2 c_5
      refine lv_aload_n hx hb dX4_delete_15 rfl (lv_at hl 0 rfl) ?_
      obtain ⟨fs_7, a_6, he_fs_7, hv_fs_7, h⟩ := h
      refine fw_get (C := RX4) (T := TX4) (N := 2) hx hb hts hin_X4 hown hK hF he_fs_7 rfl 0 (by decide) (hts (.fieldLink RX4 10 "FrontCodedIndex$KeyRow" "cells" "Ljava/util/ArrayList;") (by decide +kernel)) (fun _ h9 => h9) hv_fs_7 dX4_delete_16 ?_
      refine lv_iload_n hx hb dX4_delete_19 rfl (lv_at hl 1 rfl) ?_
      obtain ⟨⟨fs_a_8, hrc_a_8⟩, h⟩ := h
      refine fw_cV_q_w (As := [.int x1]) (rest := []) ⟨hx, hb, hml, hown, hts⟩ (cc_Jx4a65c_remove_915e3 l G h) (⟨callB_of 1 hts ggX4_delete_Jx4a65c_remove_915e3 rfl rfl rfl (hts (.initialized RJx4a65c) (by decide +kernel)) (hts (.methodLink RX4 44 yJx4a65c_remove_915e3) (by decide +kernel)) (by decide +kernel) ⟨Nat.le_of_ble_eq_true rfl, Nat.le_of_ble_eq_true rfl⟩, hts (.instanceMethod yJx4a65c_remove_915e3) (by decide +kernel), hts (.selects RJx4a65c yJx4a65c_remove_915e3 yJx4a65c_remove_915e3) (by decide +kernel)⟩) rfl hrc_a_8 hK hZ hF hS hA rfl hl.1 rfl (Nat.le_of_ble_eq_true rfl) dX4_delete_20 ⟨Nat.zero_le _, Nat.zero_le _⟩ (fun a_8 f_9 H locs h hF hS => ?_)
      refine lv_pop hx hb dX4_delete_23 rfl ?_
      exact W.vret hx hb hr (fun t ht hW => ⟨⟨f_9, rfl, h, by rw [ht]; exact hF, FK.moved hW.alike hK⟩, hS.F ht⟩) hS.2.2 dX4_delete_24
theorem dX4_empty_0 : decode cX4_empty 0 = .ok (.aload_n 0, 1) := by decide +kernel
theorem dX4_empty_1 : decode cX4_empty 1 = .ok (.getfield 10, 3) := by decide +kernel
theorem dX4_empty_4 : decode cX4_empty 4 = .ok (.invokevirtual 47, 3) := by decide +kernel
theorem dX4_empty_7 : decode cX4_empty 7 = .ok (.return_, 1) := by decide +kernel
set_option maxRecDepth 20000 in
theorem ggX4_empty_Jx4a65c_clear_da8c8 : GoodIn wsX4_empty wsJx4a65c_clear_da8c8 := goodIn_r _ [6, 7, 8, 9, 10, 13, 14, 15] (by decide +kernel) (by decide +kernel)
def wp_X4_empty (a0 : Nat) (f : FT) (K : FT → Prop) : Prop :=
  gA f a0 7 0 fun a_1 => isO f a_1 2 ∧ wp_Jx4a65c_clear_da8c8 a_1 f (fun f_4 => K f_4)
set_option maxHeartbeats 4000000 in
set_option maxRecDepth 100000 in
theorem cc_X4_empty (l : Launch) (G : GG) {f : FT} {sz : Nat} {a0 : Nat} {K : FT → Prop} (h : wp_X4_empty a0 f K) : Met l yX4_empty wsX4_empty ({ frames := 1, cells := 0, slots := 0, locals := 23 } : Room) (FP G [.ref a0] f sz) (va_Qv (fun f9 => K f9 : FT → Prop) (FB G (fA f sz)) (fA f sz)) 0 0 (fA f sz) := by
  refine Met.ofW (cc := cX4_empty) (maxL := 1) (ret := none) (by decide) rfl ?_
  intro p e s m args below meth c s₁ B hml hv
  obtain ⟨rfl, hsz, hF, hK, hZ⟩ := hv
  have hx := B.exec
  have hb := B.bytes
  have hr := B.returns
  have hts := atoms_spec (ws := wsX4_empty) B.pre
  have hown : s.vm.findClass RX4 = some m.cls := findClass_of_methodNamed B.named
  have hlocks := B.notSynchronized
  subst hsz
  have hF := hF.self (sz := s.heap.size)
  generalize hAe : fA f s.heap.size = A at hF hZ ⊢
  have hA : ∀ q : Nat, s.heap.size ≤ q → A q := fun q h => by rw [← hAe]; exact Or.inr h
  have hS : va_S A s.heap s.heap [] := va_S.rf
  have hin_X4 : ∀ w ∈ wsX40, w ∈ wsX4_empty := by decide +kernel
  have hl := lv_entry ([.ref a0]) (n := 1) (Nat.le_of_ble_eq_true rfl)
  rw [lg_entry_eq]
  generalize (lg_sl ([.ref a0]) ++ List.replicate (1 - (lg_sl ([.ref a0])).length) Slot.unset).toArray = ls at hl ⊢
  have hl : lv_has ls 1 [(0, .ref a0)] := hl
  unfold wp_X4_empty at h
  refine lv_aload_n hx hb dX4_empty_0 rfl (lv_at hl 0 rfl) ?_
  obtain ⟨fs_2, a_1, he_fs_2, hv_fs_2, h⟩ := h
  refine fw_get (C := RX4) (T := TX4) (N := 2) hx hb hts hin_X4 hown hK hF he_fs_2 rfl 0 (by decide) (hts (.fieldLink RX4 10 "FrontCodedIndex$KeyRow" "cells" "Ljava/util/ArrayList;") (by decide +kernel)) (fun _ h9 => h9) hv_fs_2 dX4_empty_1 ?_
  obtain ⟨⟨fs_u_3, hrc_u_3⟩, h⟩ := h
  refine fw_cV_v (As := []) (rest := []) ⟨hx, hb, hml, hown, hts⟩ (cc_Jx4a65c_clear_da8c8 l G h) (⟨callB_of 0 hts ggX4_empty_Jx4a65c_clear_da8c8 rfl rfl rfl (hts (.initialized RJx4a65c) (by decide +kernel)) (hts (.methodLink RX4 47 yJx4a65c_clear_da8c8) (by decide +kernel)) (by decide +kernel) ⟨Nat.le_of_ble_eq_true rfl, Nat.le_of_ble_eq_true rfl⟩, hts (.instanceMethod yJx4a65c_clear_da8c8) (by decide +kernel), hts (.selects RJx4a65c yJx4a65c_clear_da8c8 yJx4a65c_clear_da8c8) (by decide +kernel)⟩) rfl hrc_u_3 hK hZ hF hS hA rfl hl.1 rfl (Nat.le_of_ble_eq_true rfl) dX4_empty_4 ⟨Nat.zero_le _, Nat.zero_le _⟩ (fun f_4 H locs h hF hS => ?_)
  exact W.vret hx hb hr (fun t ht hW => ⟨⟨f_4, rfl, h, by rw [ht]; exact hF, FK.moved hW.alike hK⟩, hS.F ht⟩) hS.2.2 dX4_empty_7
theorem dJxa1e45_init_da8c8_0 : decode cJxa1e45_init_da8c8 0 = .ok (.aload_n 0, 1) := by decide +kernel
theorem dJxa1e45_init_da8c8_1 : decode cJxa1e45_init_da8c8 1 = .ok (.invokespecial 1, 3) := by decide +kernel
theorem dJxa1e45_init_da8c8_4 : decode cJxa1e45_init_da8c8 4 = .ok (.return_, 1) := by decide +kernel
def wp_Jxa1e45_init_da8c8 (a0 : Nat) (f : FT) (K : Prop) : Prop :=
  K
set_option maxHeartbeats 4000000 in
set_option maxRecDepth 100000 in
theorem cc_Jxa1e45_init_da8c8 (l : Launch) (G : GG) {f : FT} {sz : Nat} {a0 : Nat} {K : Prop} (h : wp_Jxa1e45_init_da8c8 a0 f K) : Met l yJxa1e45_init_da8c8 wsJxa1e45_init_da8c8 ({ frames := 1, cells := 0, slots := 0, locals := 20 } : Room) (FP G [.ref a0] f sz) (va_Qv (fun f9 => K ∧ f9 = f : FT → Prop) (FB G (fA f sz)) (fA f sz)) 0 0 (fA f sz) := by
  refine Met.ofW (cc := cJxa1e45_init_da8c8) (maxL := 1) (ret := none) (by decide) rfl ?_
  intro p e s m args below meth c s₁ B hml hv
  obtain ⟨rfl, hsz, hF, hK, hZ⟩ := hv
  have hx := B.exec
  have hb := B.bytes
  have hr := B.returns
  have hts := atoms_spec (ws := wsJxa1e45_init_da8c8) B.pre
  have hown : s.vm.findClass RJxa1e45 = some m.cls := findClass_of_methodNamed B.named
  have hlocks := B.notSynchronized
  have hin : meth.name = "<init>" := (name_of_methodNamed B.named B.method).1
  subst hsz
  have hF := hF.self (sz := s.heap.size)
  generalize hAe : fA f s.heap.size = A at hF hZ ⊢
  have hA : ∀ q : Nat, s.heap.size ≤ q → A q := fun q h => by rw [← hAe]; exact Or.inr h
  have hS : va_S A s.heap s.heap [] := va_S.rf
  have hl := lv_entry ([.ref a0]) (n := 1) (Nat.le_of_ble_eq_true rfl)
  rw [lg_entry_eq]
  generalize (lg_sl ([.ref a0]) ++ List.replicate (1 - (lg_sl ([.ref a0])).length) Slot.unset).toArray = ls at hl ⊢
  have hl : lv_has ls 1 [(0, .ref a0)] := hl
  unfold wp_Jxa1e45_init_da8c8 at h
  refine lv_aload_n hx hb dJxa1e45_init_da8c8_0 rfl (lv_at hl 0 rfl) ?_
  refine W.objInit hx hb hown (hts (.methodLink RJxa1e45 1 objectInit) (by decide +kernel)) (hts (.instanceMethod objectInit) (by decide +kernel)) (hts (.code objectInit ⟨#[0xb1]⟩ 1 none) (by decide +kernel)) rfl (by rw [hml]; exact hl.1) rfl dJxa1e45_init_da8c8_1 (Nat.le_of_ble_eq_true rfl) (Nat.le_of_ble_eq_true rfl) ?_
  refine W.eq (g2 := F0 m 4 ls []) rfl ?_
  exact W.vret hx hb hr (fun t ht hW => ⟨⟨f, rfl, ⟨h, rfl⟩, by rw [ht]; exact hF, FK.moved hW.alike hK⟩, hS.F ht⟩) hS.2.2 dJxa1e45_init_da8c8_4
theorem dJxc12de_init_da8c8_0 : decode cJxc12de_init_da8c8 0 = .ok (.aload_n 0, 1) := by decide +kernel
theorem dJxc12de_init_da8c8_1 : decode cJxc12de_init_da8c8 1 = .ok (.invokespecial 1, 3) := by decide +kernel
theorem dJxc12de_init_da8c8_4 : decode cJxc12de_init_da8c8 4 = .ok (.aload_n 0, 1) := by decide +kernel
theorem dJxc12de_init_da8c8_5 : decode cJxc12de_init_da8c8 5 = .ok (.iconst 0, 1) := by decide +kernel
theorem dJxc12de_init_da8c8_6 : decode cJxc12de_init_da8c8 6 = .ok (.putfield 7, 3) := by decide +kernel
theorem dJxc12de_init_da8c8_9 : decode cJxc12de_init_da8c8 9 = .ok (.return_, 1) := by decide +kernel
set_option maxRecDepth 20000 in
theorem ggJxc12de_init_da8c8_Jxa1e45_init_da8c8 : GoodIn wsJxc12de_init_da8c8 wsJxa1e45_init_da8c8 := goodIn_r _ [5, 6, 7, 8] (by decide +kernel) (by decide +kernel)
def wp_Jxc12de_init_da8c8 (a0 : Nat) (f : FT) (K : FT → Prop) : Prop :=
  wp_Jxa1e45_init_da8c8 a0 f (pV f a0 2 0 (.int (0 : Int32)) fun f_3 => K f_3)
set_option maxHeartbeats 4000000 in
set_option maxRecDepth 100000 in
theorem cc_Jxc12de_init_da8c8 (l : Launch) (G : GG) {f : FT} {sz : Nat} {a0 : Nat} {K : FT → Prop} (h : wp_Jxc12de_init_da8c8 a0 f K) : Met l yJxc12de_init_da8c8 wsJxc12de_init_da8c8 ({ frames := 2, cells := 0, slots := 0, locals := 40 } : Room) (FP G [.ref a0] f sz) (va_Qv (fun f9 => K f9 : FT → Prop) (FB G (fA f sz)) (fA f sz)) 0 0 (fA f sz) := by
  refine Met.ofW (cc := cJxc12de_init_da8c8) (maxL := 1) (ret := none) (by decide) rfl ?_
  intro p e s m args below meth c s₁ B hml hv
  obtain ⟨rfl, hsz, hF, hK, hZ⟩ := hv
  have hx := B.exec
  have hb := B.bytes
  have hr := B.returns
  have hts := atoms_spec (ws := wsJxc12de_init_da8c8) B.pre
  have hown : s.vm.findClass RJxc12de = some m.cls := findClass_of_methodNamed B.named
  have hlocks := B.notSynchronized
  have hin : meth.name = "<init>" := (name_of_methodNamed B.named B.method).1
  subst hsz
  have hF := hF.self (sz := s.heap.size)
  generalize hAe : fA f s.heap.size = A at hF hZ ⊢
  have hA : ∀ q : Nat, s.heap.size ≤ q → A q := fun q h => by rw [← hAe]; exact Or.inr h
  have hS : va_S A s.heap s.heap [] := va_S.rf
  have hin_Jx4a65c : ∀ w ∈ wsJx4a65c0, w ∈ wsJxc12de_init_da8c8 := by decide +kernel
  have hl := lv_entry ([.ref a0]) (n := 1) (Nat.le_of_ble_eq_true rfl)
  rw [lg_entry_eq]
  generalize (lg_sl ([.ref a0]) ++ List.replicate (1 - (lg_sl ([.ref a0])).length) Slot.unset).toArray = ls at hl ⊢
  have hl : lv_has ls 1 [(0, .ref a0)] := hl
  unfold wp_Jxc12de_init_da8c8 at h
  refine lv_aload_n hx hb dJxc12de_init_da8c8_0 rfl (lv_at hl 0 rfl) ?_
  refine fw_cI_v_p (As := []) (rest := []) ⟨hx, hb, hml, hown, hts⟩ (cc_Jxa1e45_init_da8c8 l G h) (⟨callB_of 0 hts ggJxc12de_init_da8c8_Jxa1e45_init_da8c8 rfl rfl rfl (hts (.initialized RJxa1e45) (by decide +kernel)) (hts (.methodLink RJxc12de 1 yJxa1e45_init_da8c8) (by decide +kernel)) (by decide +kernel) ⟨Nat.le_of_ble_eq_true rfl, Nat.le_of_ble_eq_true rfl⟩, rfl, hts (.instanceMethod yJxa1e45_init_da8c8) (by decide +kernel)⟩) hK hZ hF hS hA rfl hl.1 rfl (Nat.le_of_ble_eq_true rfl) dJxc12de_init_da8c8_1 ⟨Nat.zero_le _, Nat.zero_le _⟩ (fun  H locs h hF hS => ?_)
  refine lv_aload_n hx hb dJxc12de_init_da8c8_4 rfl (lv_at hl 0 rfl) ?_
  refine lv_iconst (v := (0 : Int32)) hx hb dJxc12de_init_da8c8_5 (by decide) ?_
  obtain ⟨fs_2, he_fs_2, hl_fs_2, h⟩ := h
  refine fw_put (v := .int (0 : Int32)) (ty := .int) (C := RJx4a65c) (T := TJx4a65c) (N := 3) hx hb hts hin_Jx4a65c tyJx4a65c (tyJx4a65c_ok) nmJx4a65c hown hK hF hS he_fs_2 rfl 0 (by decide) (hts (.fieldLink RJxc12de 7 "java/util/AbstractList" "modCount" "I") (by decide +kernel)) (fun _ h9 => h9) rfl (by decide +kernel) rfl rfl hl_fs_2 dJxc12de_init_da8c8_6 (fun H locs hF hS => ?_)
  obtain ⟨f_3, hf_f_3⟩ : ∃ z, z = fup f a0 (.inr (2, fs_2.set 0 (.int (0 : Int32)))) := ⟨_, rfl⟩
  rw [← hf_f_3] at hF; have h := h f_3 hf_f_3
  exact W.vret hx hb hr (fun t ht hW => ⟨⟨f_3, rfl, h, by rw [ht]; exact hF, FK.moved hW.alike hK⟩, hS.F ht⟩) hS.2.2 dJxc12de_init_da8c8_9
theorem dJx4a65c_init_da8c8_0 : decode cJx4a65c_init_da8c8 0 = .ok (.aload_n 0, 1) := by decide +kernel
theorem dJx4a65c_init_da8c8_1 : decode cJx4a65c_init_da8c8 1 = .ok (.invokespecial 1, 3) := by decide +kernel
theorem dJx4a65c_init_da8c8_4 : decode cJx4a65c_init_da8c8 4 = .ok (.aload_n 0, 1) := by decide +kernel
theorem dJx4a65c_init_da8c8_5 : decode cJx4a65c_init_da8c8 5 = .ok (.getstatic 39, 3) := by decide +kernel
theorem dJx4a65c_init_da8c8_8 : decode cJx4a65c_init_da8c8 8 = .ok (.putfield 9, 3) := by decide +kernel
theorem dJx4a65c_init_da8c8_11 : decode cJx4a65c_init_da8c8 11 = .ok (.return_, 1) := by decide +kernel
set_option maxRecDepth 20000 in
theorem ggJx4a65c_init_da8c8_Jxc12de_init_da8c8 : GoodIn wsJx4a65c_init_da8c8 wsJxc12de_init_da8c8 := goodIn_r _ [6, 7, 8, 9, 10, 11, 12, 13, 14, 15, 16, 17] (by decide +kernel) (by decide +kernel)
def wp_Jx4a65c_init_da8c8 (zd : Nat) (a0 : Nat) (f : FT) (K : FT → Prop) : Prop :=
  wp_Jxc12de_init_da8c8 a0 f (fun f_2 => pV f_2 a0 2 1 (.ref zd) fun f_4 => K f_4)
set_option maxHeartbeats 4000000 in
set_option maxRecDepth 100000 in
theorem cc_Jx4a65c_init_da8c8 (l : Launch) (G : GG) {zd : Nat} (hzd : G.2.2 0 = zd) {f : FT} {sz : Nat} {a0 : Nat} {K : FT → Prop} (h : wp_Jx4a65c_init_da8c8 zd a0 f K) : Met l yJx4a65c_init_da8c8 wsJx4a65c_init_da8c8 ({ frames := 3, cells := 0, slots := 0, locals := 60 } : Room) (FP G [.ref a0] f sz) (va_Qv (fun f9 => K f9 : FT → Prop) (FB G (fA f sz)) (fA f sz)) 0 0 (fA f sz) := by
  refine Met.ofW (cc := cJx4a65c_init_da8c8) (maxL := 1) (ret := none) (by decide) rfl ?_
  intro p e s m args below meth c s₁ B hml hv
  obtain ⟨rfl, hsz, hF, hK, hZ⟩ := hv
  have hx := B.exec
  have hb := B.bytes
  have hr := B.returns
  have hts := atoms_spec (ws := wsJx4a65c_init_da8c8) B.pre
  have hown : s.vm.findClass RJx4a65c = some m.cls := findClass_of_methodNamed B.named
  have hlocks := B.notSynchronized
  have hin : meth.name = "<init>" := (name_of_methodNamed B.named B.method).1
  subst hsz
  have hF := hF.self (sz := s.heap.size)
  generalize hAe : fA f s.heap.size = A at hF hZ ⊢
  have hA : ∀ q : Nat, s.heap.size ≤ q → A q := fun q h => by rw [← hAe]; exact Or.inr h
  have hS : va_S A s.heap s.heap [] := va_S.rf
  have hZ9 : va_Z "java/util/ArrayList" "DEFAULTCAPACITY_EMPTY_ELEMENTDATA" "[Ljava/lang/Object;" (.ref zd) A s s.heap := by rw [← hzd]; exact hZ
  have hin_Jx4a65c : ∀ w ∈ wsJx4a65c0, w ∈ wsJx4a65c_init_da8c8 := by decide +kernel
  have hl := lv_entry ([.ref a0]) (n := 1) (Nat.le_of_ble_eq_true rfl)
  rw [lg_entry_eq]
  generalize (lg_sl ([.ref a0]) ++ List.replicate (1 - (lg_sl ([.ref a0])).length) Slot.unset).toArray = ls at hl ⊢
  have hl : lv_has ls 1 [(0, .ref a0)] := hl
  unfold wp_Jx4a65c_init_da8c8 at h
  refine lv_aload_n hx hb dJx4a65c_init_da8c8_0 rfl (lv_at hl 0 rfl) ?_
  refine fw_cI_v (As := []) (rest := []) ⟨hx, hb, hml, hown, hts⟩ (cc_Jxc12de_init_da8c8 l G h) (⟨callB_of 0 hts ggJx4a65c_init_da8c8_Jxc12de_init_da8c8 rfl rfl rfl (hts (.initialized RJxc12de) (by decide +kernel)) (hts (.methodLink RJx4a65c 1 yJxc12de_init_da8c8) (by decide +kernel)) (by decide +kernel) ⟨Nat.le_of_ble_eq_true rfl, Nat.le_of_ble_eq_true rfl⟩, rfl, hts (.instanceMethod yJxc12de_init_da8c8) (by decide +kernel)⟩) hK hZ hF hS hA rfl hl.1 rfl (Nat.le_of_ble_eq_true rfl) dJx4a65c_init_da8c8_1 ⟨Nat.zero_le _, Nat.zero_le _⟩ (fun f_2 H locs h hF hS => ?_)
  refine lv_aload_n hx hb dJx4a65c_init_da8c8_4 rfl (lv_at hl 0 rfl) ?_
  refine va_gets hx hb hZ9 hS hown (hts (.fieldLink RJx4a65c 39 "java/util/ArrayList" "DEFAULTCAPACITY_EMPTY_ELEMENTDATA" "[Ljava/lang/Object;") (by decide +kernel)) (fun _ h9 => h9) dJx4a65c_init_da8c8_5 ?_
  obtain ⟨fs_3, he_fs_3, hl_fs_3, h⟩ := h
  refine fw_put (v := .ref zd) (ty := (.array (.object "java/lang/Object"))) (C := RJx4a65c) (T := TJx4a65c) (N := 3) hx hb hts hin_Jx4a65c tyJx4a65c (tyJx4a65c_ok) nmJx4a65c hown hK hF hS he_fs_3 rfl 1 (by decide) (hts (.fieldLink RJx4a65c 9 "java/util/ArrayList" "elementData" "[Ljava/lang/Object;") (by decide +kernel)) (fun _ h9 => h9) rfl (by decide +kernel) rfl rfl hl_fs_3 dJx4a65c_init_da8c8_8 (fun H locs hF hS => ?_)
  obtain ⟨f_4, hf_f_4⟩ : ∃ z, z = fup f_2 a0 (.inr (2, fs_3.set 1 (.ref zd))) := ⟨_, rfl⟩
  rw [← hf_f_4] at hF; have h := h f_4 hf_f_4
  exact W.vret hx hb hr (fun t ht hW => ⟨⟨f_4, rfl, h, by rw [ht]; exact hF, FK.moved hW.alike hK⟩, hS.F ht⟩) hS.2.2 dJx4a65c_init_da8c8_11

def wp_X4_init (zd : Nat) (a0 : Nat) (f : FT) (mc ms : Nat) (K : FT → Prop) : Prop :=
  False
set_option maxHeartbeats 4000000 in
set_option maxRecDepth 100000 in
theorem cc_X4_init (l : Launch) (G : GG) {zd : Nat} (hzd : G.2.2 0 = zd) {f : FT} {sz : Nat} {a0 : Nat} {mc ms : Nat} {K : FT → Prop} (h : wp_X4_init zd a0 f mc ms K) : Met l yX4_init wsX4_init ({ frames := 4, cells := mc, slots := ms, locals := 80 } : Room) (FP G [.ref a0] f sz) (va_Qv (fun f9 => K f9 : FT → Prop) (FB G (fA f sz)) (fA f sz)) mc ms (fA f sz) := by
  refine Met.ofW (cc := cX4_init) (maxL := 1) (ret := none) (by decide) rfl ?_
  intro p e s m args below meth c s₁ B hml hv
  obtain ⟨rfl, hsz, hF, hK, hZ⟩ := hv
  have hx := B.exec
  have hb := B.bytes
  have hr := B.returns
  have hts := atoms_spec (ws := wsX4_init) B.pre
  have hown : s.vm.findClass RX4 = some m.cls := findClass_of_methodNamed B.named
  have hlocks := B.notSynchronized
  have hin : meth.name = "<init>" := (name_of_methodNamed B.named B.method).1
  subst hsz
  have hF := hF.self (sz := s.heap.size)
  generalize hAe : fA f s.heap.size = A at hF hZ ⊢
  have hA : ∀ q : Nat, s.heap.size ≤ q → A q := fun q h => by rw [← hAe]; exact Or.inr h
  have hS : va_S A s.heap s.heap [] := va_S.rf
  have hZ9 : va_Z "java/util/ArrayList" "DEFAULTCAPACITY_EMPTY_ELEMENTDATA" "[Ljava/lang/Object;" (.ref zd) A s s.heap := by rw [← hzd]; exact hZ
  have hbc : 0 + mc ≤ mc := by omega
  have hbs : 0 + ms ≤ ms := by omega
  have hl := lv_entry ([.ref a0]) (n := 1) (Nat.le_of_ble_eq_true rfl)
  rw [lg_entry_eq]
  generalize (lg_sl ([.ref a0]) ++ List.replicate (1 - (lg_sl ([.ref a0])).length) Slot.unset).toArray = ls at hl ⊢
  have hl : lv_has ls 1 [(0, .ref a0)] := hl
  unfold wp_X4_init at h
  exact h.elim
theorem dX5_append_0 : decode cX5_append 0 = .ok (.aload_n 0, 1) := by decide +kernel
theorem dX5_append_1 : decode cX5_append 1 = .ok (.getfield 12, 3) := by decide +kernel
theorem dX5_append_4 : decode cX5_append 4 = .ok (.aload_n 1, 1) := by decide +kernel
theorem dX5_append_5 : decode cX5_append 5 = .ok (.invokevirtual 39, 3) := by decide +kernel
theorem dX5_append_8 : decode cX5_append 8 = .ok (.aload_n 0, 1) := by decide +kernel
theorem dX5_append_9 : decode cX5_append 9 = .ok (.getfield 21, 3) := by decide +kernel
theorem dX5_append_12 : decode cX5_append 12 = .ok (.iload_n 2, 1) := by decide +kernel
theorem dX5_append_13 : decode cX5_append 13 = .ok (.invokevirtual 43, 3) := by decide +kernel
theorem dX5_append_16 : decode cX5_append 16 = .ok (.return_, 1) := by decide +kernel
set_option maxRecDepth 20000 in
theorem ggX5_append_X2_append : GoodIn wsX5_append wsX2_append := goodIn_r _ [69, 70, 71, 72, 73, 68, 74, 75, 76, 77, 47, 78, 79, 80, 81, 82, 83, 84, 85, 58, 59, 33, 60, 61, 62, 63, 64, 93, 94] (by decide +kernel) (by decide +kernel)
set_option maxRecDepth 20000 in
theorem ggX5_append_X4_append : GoodIn wsX5_append wsX4_append := goodIn_r _ [7, 8, 9, 10, 11, 12, 13, 14, 15, 16, 17, 18, 19, 20, 21, 22, 23, 24, 25, 26, 27, 28, 29, 30, 31, 32, 33, 34, 35, 36, 37, 38, 39, 40, 41, 42, 43, 44, 45, 46, 47, 48, 49, 50, 51, 52, 53, 54, 55, 56, 57, 58, 59, 60, 61, 62, 63, 64, 88, 89, 90, 91, 92] (by decide +kernel) (by decide +kernel)
def wp_X5_append (zd : Nat) (a0 : Nat) (a1 : Nat) (x2 : Int32) (f : FT) (mc ms : Nat) (K : FT → Prop) : Prop :=
  gA f a0 8 0 fun a_1 => ∃ ga_5 gb_6 : Nat, ga_5 ≤ mc ∧ gb_6 ≤ ms ∧ isO f a_1 7 ∧ wp_X4_append zd a_1 a1 f ga_5 gb_6 (fun f_4 => gA f_4 a0 8 1 fun a_9 => ∃ ga_13 gb_14 : Nat, ga_13 ≤ (mc - ga_5) ∧ gb_14 ≤ (ms - gb_6) ∧ isO f_4 a_9 5 ∧ wp_X2_append a_9 x2 f_4 ga_13 gb_14 (fun f_12 => K f_12))
set_option maxHeartbeats 4000000 in
set_option maxRecDepth 100000 in
theorem cc_X5_append (l : Launch) (G : GG) {zd : Nat} (hzd : G.2.2 0 = zd) {f : FT} {sz : Nat} {a0 : Nat} {a1 : Nat} {x2 : Int32} {mc ms : Nat} {K : FT → Prop} (h : wp_X5_append zd a0 a1 x2 f mc ms K) : Met l yX5_append wsX5_append ({ frames := 8, cells := mc, slots := ms, locals := 192 } : Room) (FP G [.ref a0, .ref a1, .int x2] f sz) (va_Qv (fun f9 => K f9 : FT → Prop) (FB G (fA f sz)) (fA f sz)) mc ms (fA f sz) := by
  refine Met.ofW (cc := cX5_append) (maxL := 3) (ret := none) (by decide) rfl ?_
  intro p e s m args below meth c s₁ B hml hv
  obtain ⟨rfl, hsz, hF, hK, hZ⟩ := hv
  have hx := B.exec
  have hb := B.bytes
  have hr := B.returns
  have hts := atoms_spec (ws := wsX5_append) B.pre
  have hown : s.vm.findClass RX5 = some m.cls := findClass_of_methodNamed B.named
  have hlocks := B.notSynchronized
  subst hsz
  have hF := hF.self (sz := s.heap.size)
  generalize hAe : fA f s.heap.size = A at hF hZ ⊢
  have hA : ∀ q : Nat, s.heap.size ≤ q → A q := fun q h => by rw [← hAe]; exact Or.inr h
  have hS : va_S A s.heap s.heap [] := va_S.rf
  have hZ9 : va_Z "java/util/ArrayList" "DEFAULTCAPACITY_EMPTY_ELEMENTDATA" "[Ljava/lang/Object;" (.ref zd) A s s.heap := by rw [← hzd]; exact hZ
  have hin_X5 : ∀ w ∈ wsX50, w ∈ wsX5_append := by decide +kernel
  have hbc : 0 + mc ≤ mc := by omega
  have hbs : 0 + ms ≤ ms := by omega
  have hl := lv_entry ([.ref a0, .ref a1, .int x2]) (n := 3) (Nat.le_of_ble_eq_true rfl)
  rw [lg_entry_eq]
  generalize (lg_sl ([.ref a0, .ref a1, .int x2]) ++ List.replicate (3 - (lg_sl ([.ref a0, .ref a1, .int x2])).length) Slot.unset).toArray = ls at hl ⊢
  have hl : lv_has ls 3 [(0, .ref a0), (1, .ref a1), (2, .int x2)] := hl
  unfold wp_X5_append at h
  refine lv_aload_n hx hb dX5_append_0 rfl (lv_at hl 0 rfl) ?_
  obtain ⟨fs_2, a_1, he_fs_2, hv_fs_2, h⟩ := h
  refine fw_get (C := RX5) (T := TX5) (N := 2) hx hb hts hin_X5 hown hK hF he_fs_2 rfl 0 (by decide) (hts (.fieldLink RX5 12 "FrontCodedIndex$LoadList" "keys" "LFrontCodedIndex$KeyRow;") (by decide +kernel)) (fun _ h9 => h9) hv_fs_2 dX5_append_1 ?_
  refine lv_aload_n hx hb dX5_append_4 rfl (lv_at hl 1 rfl) ?_
  obtain ⟨ga_5, gb_6, hga_ga_5, hgb_ga_5, h⟩ := h
  obtain ⟨⟨fs_u_3, hrc_u_3⟩, h⟩ := h
  refine fw_cV_v (As := [.ref a1]) (rest := []) ⟨hx, hb, hml, hown, hts⟩ (cc_X4_append l G hzd h) (⟨callB_of 1 hts ggX5_append_X4_append rfl rfl rfl (hts (.initialized RX4) (by decide +kernel)) (hts (.methodLink RX5 39 yX4_append) (by decide +kernel)) (by decide +kernel) ⟨Nat.le_of_ble_eq_true rfl, Nat.le_of_ble_eq_true rfl⟩, hts (.instanceMethod yX4_append) (by decide +kernel), hts (.selects RX4 yX4_append yX4_append) (by decide +kernel)⟩) rfl hrc_u_3 hK hZ hF hS hA rfl hl.1 rfl (Nat.le_of_ble_eq_true rfl) dX5_append_5 ⟨by show _ ≤ mc; omega, by show _ ≤ ms; omega⟩ (fun f_4 H locs h hF hS => ?_)
  have hbc : (0 + ga_5) + (mc - ga_5) ≤ mc := by omega
  have hbs : (0 + gb_6) + (ms - gb_6) ≤ ms := by omega
  generalize (0 + ga_5) = cs_7 at hbc ⊢; generalize (0 + gb_6) = sl_8 at hbs ⊢
  refine lv_aload_n hx hb dX5_append_8 rfl (lv_at hl 0 rfl) ?_
  obtain ⟨fs_10, a_9, he_fs_10, hv_fs_10, h⟩ := h
  refine fw_get (C := RX5) (T := TX5) (N := 2) hx hb hts hin_X5 hown hK hF he_fs_10 rfl 1 (by decide) (hts (.fieldLink RX5 21 "FrontCodedIndex$LoadList" "values" "LFrontCodedIndex$IntRow;") (by decide +kernel)) (fun _ h9 => h9) hv_fs_10 dX5_append_9 ?_
  refine lv_iload_n hx hb dX5_append_12 rfl (lv_at hl 2 rfl) ?_
  obtain ⟨ga_13, gb_14, hga_ga_13, hgb_ga_13, h⟩ := h
  obtain ⟨⟨fs_u_11, hrc_u_11⟩, h⟩ := h
  refine fw_cV_v (As := [.int x2]) (rest := []) ⟨hx, hb, hml, hown, hts⟩ (cc_X2_append l G h) (⟨callB_of 1 hts ggX5_append_X2_append rfl rfl rfl (hts (.initialized RX2) (by decide +kernel)) (hts (.methodLink RX5 43 yX2_append) (by decide +kernel)) (by decide +kernel) ⟨Nat.le_of_ble_eq_true rfl, Nat.le_of_ble_eq_true rfl⟩, hts (.instanceMethod yX2_append) (by decide +kernel), hts (.selects RX2 yX2_append yX2_append) (by decide +kernel)⟩) rfl hrc_u_11 hK hZ hF hS hA rfl hl.1 rfl (Nat.le_of_ble_eq_true rfl) dX5_append_13 ⟨by show _ ≤ mc; omega, by show _ ≤ ms; omega⟩ (fun f_12 H locs h hF hS => ?_)
  have hbc : (cs_7 + ga_13) + ((mc - ga_5) - ga_13) ≤ mc := by omega
  have hbs : (sl_8 + gb_14) + ((ms - gb_6) - gb_14) ≤ ms := by omega
  generalize (cs_7 + ga_13) = cs_15 at hbc ⊢; generalize (sl_8 + gb_14) = sl_16 at hbs ⊢
  refine W.widen (k := mc) (n := ms) (by omega) (by omega) ?_
  exact W.vret hx hb hr (fun t ht hW => ⟨⟨f_12, rfl, h, by rw [ht]; exact hF, FK.moved hW.alike hK⟩, hS.F ht⟩) hS.2.2 dX5_append_16
theorem dX5_empty_0 : decode cX5_empty 0 = .ok (.aload_n 0, 1) := by decide +kernel
theorem dX5_empty_1 : decode cX5_empty 1 = .ok (.getfield 12, 3) := by decide +kernel
theorem dX5_empty_4 : decode cX5_empty 4 = .ok (.invokevirtual 46, 3) := by decide +kernel
theorem dX5_empty_7 : decode cX5_empty 7 = .ok (.aload_n 0, 1) := by decide +kernel
theorem dX5_empty_8 : decode cX5_empty 8 = .ok (.getfield 21, 3) := by decide +kernel
theorem dX5_empty_11 : decode cX5_empty 11 = .ok (.invokevirtual 49, 3) := by decide +kernel
theorem dX5_empty_14 : decode cX5_empty 14 = .ok (.return_, 1) := by decide +kernel
set_option maxRecDepth 20000 in
theorem ggX5_empty_X2_empty : GoodIn wsX5_empty wsX2_empty := goodIn_r _ [22, 23, 31, 32] (by decide +kernel) (by decide +kernel)
set_option maxRecDepth 20000 in
theorem ggX5_empty_X4_empty : GoodIn wsX5_empty wsX4_empty := goodIn_r _ [7, 8, 9, 10, 11, 12, 13, 14, 15, 16, 17, 26, 27, 28, 29, 30] (by decide +kernel) (by decide +kernel)
def wp_X5_empty (a0 : Nat) (f : FT) (K : FT → Prop) : Prop :=
  gA f a0 8 0 fun a_1 => isO f a_1 7 ∧ wp_X4_empty a_1 f (fun f_4 => gA f_4 a0 8 1 fun a_5 => isO f_4 a_5 5 ∧ wp_X2_empty a_5 f_4 (fun f_8 => K f_8))
set_option maxHeartbeats 4000000 in
set_option maxRecDepth 100000 in
theorem cc_X5_empty (l : Launch) (G : GG) {f : FT} {sz : Nat} {a0 : Nat} {K : FT → Prop} (h : wp_X5_empty a0 f K) : Met l yX5_empty wsX5_empty ({ frames := 2, cells := 0, slots := 0, locals := 43 } : Room) (FP G [.ref a0] f sz) (va_Qv (fun f9 => K f9 : FT → Prop) (FB G (fA f sz)) (fA f sz)) 0 0 (fA f sz) := by
  refine Met.ofW (cc := cX5_empty) (maxL := 1) (ret := none) (by decide) rfl ?_
  intro p e s m args below meth c s₁ B hml hv
  obtain ⟨rfl, hsz, hF, hK, hZ⟩ := hv
  have hx := B.exec
  have hb := B.bytes
  have hr := B.returns
  have hts := atoms_spec (ws := wsX5_empty) B.pre
  have hown : s.vm.findClass RX5 = some m.cls := findClass_of_methodNamed B.named
  have hlocks := B.notSynchronized
  subst hsz
  have hF := hF.self (sz := s.heap.size)
  generalize hAe : fA f s.heap.size = A at hF hZ ⊢
  have hA : ∀ q : Nat, s.heap.size ≤ q → A q := fun q h => by rw [← hAe]; exact Or.inr h
  have hS : va_S A s.heap s.heap [] := va_S.rf
  have hin_X5 : ∀ w ∈ wsX50, w ∈ wsX5_empty := by decide +kernel
  have hl := lv_entry ([.ref a0]) (n := 1) (Nat.le_of_ble_eq_true rfl)
  rw [lg_entry_eq]
  generalize (lg_sl ([.ref a0]) ++ List.replicate (1 - (lg_sl ([.ref a0])).length) Slot.unset).toArray = ls at hl ⊢
  have hl : lv_has ls 1 [(0, .ref a0)] := hl
  unfold wp_X5_empty at h
  refine lv_aload_n hx hb dX5_empty_0 rfl (lv_at hl 0 rfl) ?_
  obtain ⟨fs_2, a_1, he_fs_2, hv_fs_2, h⟩ := h
  refine fw_get (C := RX5) (T := TX5) (N := 2) hx hb hts hin_X5 hown hK hF he_fs_2 rfl 0 (by decide) (hts (.fieldLink RX5 12 "FrontCodedIndex$LoadList" "keys" "LFrontCodedIndex$KeyRow;") (by decide +kernel)) (fun _ h9 => h9) hv_fs_2 dX5_empty_1 ?_
  obtain ⟨⟨fs_u_3, hrc_u_3⟩, h⟩ := h
  refine fw_cV_v (As := []) (rest := []) ⟨hx, hb, hml, hown, hts⟩ (cc_X4_empty l G h) (⟨callB_of 0 hts ggX5_empty_X4_empty rfl rfl rfl (hts (.initialized RX4) (by decide +kernel)) (hts (.methodLink RX5 46 yX4_empty) (by decide +kernel)) (by decide +kernel) ⟨Nat.le_of_ble_eq_true rfl, Nat.le_of_ble_eq_true rfl⟩, hts (.instanceMethod yX4_empty) (by decide +kernel), hts (.selects RX4 yX4_empty yX4_empty) (by decide +kernel)⟩) rfl hrc_u_3 hK hZ hF hS hA rfl hl.1 rfl (Nat.le_of_ble_eq_true rfl) dX5_empty_4 ⟨Nat.zero_le _, Nat.zero_le _⟩ (fun f_4 H locs h hF hS => ?_)
  refine lv_aload_n hx hb dX5_empty_7 rfl (lv_at hl 0 rfl) ?_
  obtain ⟨fs_6, a_5, he_fs_6, hv_fs_6, h⟩ := h
  refine fw_get (C := RX5) (T := TX5) (N := 2) hx hb hts hin_X5 hown hK hF he_fs_6 rfl 1 (by decide) (hts (.fieldLink RX5 21 "FrontCodedIndex$LoadList" "values" "LFrontCodedIndex$IntRow;") (by decide +kernel)) (fun _ h9 => h9) hv_fs_6 dX5_empty_8 ?_
  obtain ⟨⟨fs_u_7, hrc_u_7⟩, h⟩ := h
  refine fw_cV_v (As := []) (rest := []) ⟨hx, hb, hml, hown, hts⟩ (cc_X2_empty l G h) (⟨callB_of 0 hts ggX5_empty_X2_empty rfl rfl rfl (hts (.initialized RX2) (by decide +kernel)) (hts (.methodLink RX5 49 yX2_empty) (by decide +kernel)) (by decide +kernel) ⟨Nat.le_of_ble_eq_true rfl, Nat.le_of_ble_eq_true rfl⟩, hts (.instanceMethod yX2_empty) (by decide +kernel), hts (.selects RX2 yX2_empty yX2_empty) (by decide +kernel)⟩) rfl hrc_u_7 hK hZ hF hS hA rfl hl.1 rfl (Nat.le_of_ble_eq_true rfl) dX5_empty_11 ⟨Nat.zero_le _, Nat.zero_le _⟩ (fun f_8 H locs h hF hS => ?_)
  exact W.vret hx hb hr (fun t ht hW => ⟨⟨f_8, rfl, h, by rw [ht]; exact hF, FK.moved hW.alike hK⟩, hS.F ht⟩) hS.2.2 dX5_empty_14

def wp_X5_init (a0 : Nat) (f : FT) (mc ms : Nat) (K : FT → Prop) : Prop :=
  False
set_option maxHeartbeats 4000000 in
set_option maxRecDepth 100000 in
theorem cc_X5_init (l : Launch) (G : GG) {f : FT} {sz : Nat} {a0 : Nat} {mc ms : Nat} {K : FT → Prop} (h : wp_X5_init a0 f mc ms K) : Met l yX5_init wsX5_init ({ frames := 1, cells := mc, slots := ms, locals := 20 } : Room) (FP G [.ref a0] f sz) (va_Qv (fun f9 => K f9 : FT → Prop) (FB G (fA f sz)) (fA f sz)) mc ms (fA f sz) := by
  refine Met.ofW (cc := cX5_init) (maxL := 1) (ret := none) (by decide) rfl ?_
  intro p e s m args below meth c s₁ B hml hv
  obtain ⟨rfl, hsz, hF, hK, hZ⟩ := hv
  have hx := B.exec
  have hb := B.bytes
  have hr := B.returns
  have hts := atoms_spec (ws := wsX5_init) B.pre
  have hown : s.vm.findClass RX5 = some m.cls := findClass_of_methodNamed B.named
  have hlocks := B.notSynchronized
  have hin : meth.name = "<init>" := (name_of_methodNamed B.named B.method).1
  subst hsz
  have hF := hF.self (sz := s.heap.size)
  generalize hAe : fA f s.heap.size = A at hF hZ ⊢
  have hA : ∀ q : Nat, s.heap.size ≤ q → A q := fun q h => by rw [← hAe]; exact Or.inr h
  have hS : va_S A s.heap s.heap [] := va_S.rf
  have hbc : 0 + mc ≤ mc := by omega
  have hbs : 0 + ms ≤ ms := by omega
  have hl := lv_entry ([.ref a0]) (n := 1) (Nat.le_of_ble_eq_true rfl)
  rw [lg_entry_eq]
  generalize (lg_sl ([.ref a0]) ++ List.replicate (1 - (lg_sl ([.ref a0])).length) Slot.unset).toArray = ls at hl ⊢
  have hl : lv_has ls 1 [(0, .ref a0)] := hl
  unfold wp_X5_init at h
  exact h.elim
theorem dX6_init_0 : decode cX6_init 0 = .ok (.aload_n 0, 1) := by decide +kernel
theorem dX6_init_1 : decode cX6_init 1 = .ok (.invokespecial 1, 3) := by decide +kernel
theorem dX6_init_4 : decode cX6_init 4 = .ok (.aload_n 0, 1) := by decide +kernel
theorem dX6_init_5 : decode cX6_init 5 = .ok (.iconst 0, 1) := by decide +kernel
theorem dX6_init_6 : decode cX6_init 6 = .ok (.putfield 7, 3) := by decide +kernel
theorem dX6_init_9 : decode cX6_init 9 = .ok (.aload_n 0, 1) := by decide +kernel
theorem dX6_init_10 : decode cX6_init 10 = .ok (.aload_n 1, 1) := by decide +kernel
theorem dX6_init_11 : decode cX6_init 11 = .ok (.putfield 13, 3) := by decide +kernel
theorem dX6_init_14 : decode cX6_init 14 = .ok (.aload_n 0, 1) := by decide +kernel
theorem dX6_init_15 : decode cX6_init 15 = .ok (.aload_n 2, 1) := by decide +kernel
theorem dX6_init_16 : decode cX6_init 16 = .ok (.putfield 17, 3) := by decide +kernel
theorem dX6_init_19 : decode cX6_init 19 = .ok (.return_, 1) := by decide +kernel
def wp_X6_init (a0 : Nat) (a1 : Nat) (a2 : Nat) (f : FT) (K : FT → Prop) : Prop :=
  pV f a0 9 2 (.int (0 : Int32)) fun f_2 => pV f_2 a0 9 0 (.ref a1) fun f_4 => pV f_4 a0 9 1 (.ref a2) fun f_6 => K f_6
set_option maxHeartbeats 4000000 in
set_option maxRecDepth 100000 in
theorem cc_X6_init (l : Launch) (G : GG) {f : FT} {sz : Nat} {a0 : Nat} {a1 : Nat} {a2 : Nat} {K : FT → Prop} (h : wp_X6_init a0 a1 a2 f K) : Met l yX6_init wsX6_init ({ frames := 1, cells := 0, slots := 0, locals := 20 } : Room) (FP G [.ref a0, .ref a1, .ref a2] f sz) (va_Qv (fun f9 => K f9 : FT → Prop) (FB G (fA f sz)) (fA f sz)) 0 0 (fA f sz) := by
  refine Met.ofW (cc := cX6_init) (maxL := 3) (ret := none) (by decide) rfl ?_
  intro p e s m args below meth c s₁ B hml hv
  obtain ⟨rfl, hsz, hF, hK, hZ⟩ := hv
  have hx := B.exec
  have hb := B.bytes
  have hr := B.returns
  have hts := atoms_spec (ws := wsX6_init) B.pre
  have hown : s.vm.findClass RX6 = some m.cls := findClass_of_methodNamed B.named
  have hlocks := B.notSynchronized
  have hin : meth.name = "<init>" := (name_of_methodNamed B.named B.method).1
  subst hsz
  have hF := hF.self (sz := s.heap.size)
  generalize hAe : fA f s.heap.size = A at hF hZ ⊢
  have hA : ∀ q : Nat, s.heap.size ≤ q → A q := fun q h => by rw [← hAe]; exact Or.inr h
  have hS : va_S A s.heap s.heap [] := va_S.rf
  have hin_X6 : ∀ w ∈ wsX60, w ∈ wsX6_init := by decide +kernel
  have hl := lv_entry ([.ref a0, .ref a1, .ref a2]) (n := 3) (Nat.le_of_ble_eq_true rfl)
  rw [lg_entry_eq]
  generalize (lg_sl ([.ref a0, .ref a1, .ref a2]) ++ List.replicate (3 - (lg_sl ([.ref a0, .ref a1, .ref a2])).length) Slot.unset).toArray = ls at hl ⊢
  have hl : lv_has ls 3 [(0, .ref a0), (1, .ref a1), (2, .ref a2)] := hl
  unfold wp_X6_init at h
  refine lv_aload_n hx hb dX6_init_0 rfl (lv_at hl 0 rfl) ?_
  refine W.objInit hx hb hown (hts (.methodLink RX6 1 objectInit) (by decide +kernel)) (hts (.instanceMethod objectInit) (by decide +kernel)) (hts (.code objectInit ⟨#[0xb1]⟩ 1 none) (by decide +kernel)) rfl (by rw [hml]; exact hl.1) rfl dX6_init_1 (Nat.le_of_ble_eq_true rfl) (Nat.le_of_ble_eq_true rfl) ?_
  refine W.eq (g2 := F0 m 4 ls []) rfl ?_
  refine lv_aload_n hx hb dX6_init_4 rfl (lv_at hl 0 rfl) ?_
  refine lv_iconst (v := (0 : Int32)) hx hb dX6_init_5 (by decide) ?_
  obtain ⟨fs_1, he_fs_1, hl_fs_1, h⟩ := h
  refine fw_put (v := .int (0 : Int32)) (ty := .int) (C := RX6) (T := TX6) (N := 3) hx hb hts hin_X6 tyX6 (tyX6_ok) nmX6 hown hK hF hS he_fs_1 rfl 2 (by decide) (hts (.fieldLink RX6 7 "FrontCodedIndex$Remover" "merges" "I") (by decide +kernel)) (fun _ h9 => h9) rfl (by decide +kernel) rfl rfl hl_fs_1 dX6_init_6 (fun H locs hF hS => ?_)
  obtain ⟨f_2, hf_f_2⟩ : ∃ z, z = fup f a0 (.inr (9, fs_1.set 2 (.int (0 : Int32)))) := ⟨_, rfl⟩
  rw [← hf_f_2] at hF; have h := h f_2 hf_f_2
  refine lv_aload_n hx hb dX6_init_9 rfl (lv_at hl 0 rfl) ?_
  refine lv_aload_n hx hb dX6_init_10 rfl (lv_at hl 1 rfl) ?_
  obtain ⟨fs_3, he_fs_3, hl_fs_3, h⟩ := h
  refine fw_putF (v := .ref a1) (ty := (.object "FrontCodedIndex$Tree")) (C := RX6) (T := TX6) (N := 3) hx hb hts hin_X6 tyX6 (tyX6_ok) nmX6 hown hK hF hS he_fs_3 rfl 0 (by decide) (hts (.fieldLink RX6 13 "FrontCodedIndex$Remover" "tree" "LFrontCodedIndex$Tree;") (by decide +kernel)) (fun _ h9 => h9) rfl hin rfl (by decide +kernel) rfl rfl hl_fs_3 dX6_init_11 (fun H locs hF hS => ?_)
  obtain ⟨f_4, hf_f_4⟩ : ∃ z, z = fup f_2 a0 (.inr (9, fs_3.set 0 (.ref a1))) := ⟨_, rfl⟩
  rw [← hf_f_4] at hF; have h := h f_4 hf_f_4
  refine lv_aload_n hx hb dX6_init_14 rfl (lv_at hl 0 rfl) ?_
  refine lv_aload_n hx hb dX6_init_15 rfl (lv_at hl 2 rfl) ?_
  obtain ⟨fs_5, he_fs_5, hl_fs_5, h⟩ := h
  refine fw_putF (v := .ref a2) (ty := (.object "FrontCodedIndex$Cursors")) (C := RX6) (T := TX6) (N := 3) hx hb hts hin_X6 tyX6 (tyX6_ok) nmX6 hown hK hF hS he_fs_5 rfl 1 (by decide) (hts (.fieldLink RX6 17 "FrontCodedIndex$Remover" "cursors" "LFrontCodedIndex$Cursors;") (by decide +kernel)) (fun _ h9 => h9) rfl hin rfl (by decide +kernel) rfl rfl hl_fs_5 dX6_init_16 (fun H locs hF hS => ?_)
  obtain ⟨f_6, hf_f_6⟩ : ∃ z, z = fup f_4 a0 (.inr (9, fs_5.set 1 (.ref a2))) := ⟨_, rfl⟩
  rw [← hf_f_6] at hF; have h := h f_6 hf_f_6
  exact W.vret hx hb hr (fun t ht hW => ⟨⟨f_6, rfl, h, by rw [ht]; exact hF, FK.moved hW.alike hK⟩, hS.F ht⟩) hS.2.2 dX6_init_19
