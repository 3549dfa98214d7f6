theorem inlX8 : ∀ w ∈ wsX80, w ∈ wsL_law := fun _ h => List.mem_append_left _ (List.mem_append_left _ (List.mem_append_left _ (List.mem_append_left _ (List.mem_append_left _ (List.mem_append_left _ (List.mem_append_left _ (List.mem_append_left _ (List.mem_append_left _ (List.mem_append_left _ (List.mem_append_left _ (List.mem_append_left _ (List.mem_append_left _ (List.mem_append_left _ (List.mem_append_left _ (List.mem_append_right _ h)))))))))))))))
theorem inlX9 : ∀ w ∈ wsX90, w ∈ wsL_law := fun _ h => List.mem_append_left _ (List.mem_append_left _ (List.mem_append_left _ (List.mem_append_left _ (List.mem_append_left _ (List.mem_append_left _ (List.mem_append_left _ (List.mem_append_left _ (List.mem_append_left _ (List.mem_append_left _ (List.mem_append_left _ (List.mem_append_left _ (List.mem_append_left _ (List.mem_append_left _ (List.mem_append_right _ h))))))))))))))
set_option maxRecDepth 20000 in
theorem ggL_law_X8_init : GoodIn wsL_law wsX8_init := goodIn_r _ [10, 11, 12, 13, 14, 15, 16, 17, 18, 19, 20, 21, 22, 23, 24, 25, 26, 27, 28, 29, 30, 31, 32, 33, 34, 35, 36, 37, 38, 39, 40, 41, 42, 43, 44, 45, 46, 47, 48, 49, 50, 51, 52, 53, 54, 55, 56, 57, 58, 59, 60, 61, 62, 63, 64, 65, 66, 67, 68, 69, 70, 71, 72, 73, 74, 75, 76, 77, 78, 79, 80, 81, 82, 83, 84, 85, 86, 87, 88, 89, 90, 91, 92, 93, 94, 95, 96, 97, 98, 99, 100, 101, 102, 103, 104, 105, 106, 107, 108, 109, 110, 111, 112, 113, 114, 115, 116, 117, 118, 119, 120, 121, 122, 123, 124, 125, 126, 127, 128, 129, 130, 131, 132, 133, 134, 135, 136, 137, 138, 139, 140, 141, 142, 143, 144, 145, 146, 147, 148, 149, 150, 151, 152, 153, 154, 155, 156, 157, 158, 159, 160, 161, 162, 163, 164, 165, 166, 167, 168, 169, 170, 171, 172, 173, 174, 175, 176, 177, 178, 179, 180, 181, 182, 183, 184, 185, 186, 187, 188, 189, 190, 191, 192, 193, 194, 195, 196, 197, 198, 199, 200, 201, 202, 203, 204, 205, 206, 207, 208, 209, 210, 211, 212, 213, 214, 215, 216, 217, 218, 219, 220, 221, 222, 223, 224, 225, 226, 227, 228, 229, 230, 231, 232, 1191, 1192, 1193, 1194, 1195, 1196, 1197, 1198, 1148, 1149, 1150, 1151, 1152, 1153, 1154, 1155, 1156, 1199, 1200, 1201, 1202, 1203, 1204, 1205, 1206, 1207, 1208, 1209, 1210, 1211, 1212, 1213, 1214, 1215, 1216] (by decide +kernel) (by decide +kernel)
set_option maxRecDepth 20000 in
theorem ggL_law_X9_init : GoodIn wsL_law wsX9_init := goodIn_r _ [235, 236, 12, 13, 94, 237, 238, 239, 240, 241, 242, 243, 244, 245, 246, 247, 248, 249, 250, 251, 252, 253, 254, 255, 256, 257, 258, 1157, 1158, 1159, 1160, 1161, 1162, 1163, 1164, 1165, 1166, 1167, 1168, 1169, 1170, 1171, 1172, 1173, 1174, 1175, 1176, 1177, 1178, 1179, 1180, 1181, 1182, 1183, 1184, 1185, 1186, 1187, 1188, 1189, 1190] (by decide +kernel) (by decide +kernel)
theorem dL_law_0 : decode code 0 = .ok (.new 8, 3) := by decide +kernel
theorem dL_law_3 : decode code 3 = .ok (.dup, 1) := by decide +kernel
theorem dL_law_4 : decode code 4 = .ok (.invokespecial 98, 3) := by decide +kernel
theorem dL_law_7 : decode code 7 = .ok (.astore_n 1, 1) := by decide +kernel
theorem dL_law_8 : decode code 8 = .ok (.new 99, 3) := by decide +kernel
theorem dL_law_11 : decode code 11 = .ok (.dup, 1) := by decide +kernel
theorem dL_law_12 : decode code 12 = .ok (.invokespecial 101, 3) := by decide +kernel
theorem dL_law_15 : decode code 15 = .ok (.astore_n 2, 1) := by decide +kernel
theorem dL_law_16 : decode code 16 = .ok (.iconst 1, 1) := by decide +kernel
theorem dL_law_17 : decode code 17 = .ok (.newarray .long, 2) := by decide +kernel
theorem dL_law_19 : decode code 19 = .ok (.astore_n 3, 1) := by decide +kernel
theorem dL_law_20 : decode code 20 = .ok (.iconst 0, 1) := by decide +kernel
theorem dL_law_21 : decode code 21 = .ok (.istore 4, 2) := by decide +kernel
theorem Fw.sub {G : GG} {A : Nat → Prop} {f f' : FT} {H : Heap} (h : Fw G A f H) (hs : ∀ q e, f' q = some e → f q = some e) : Fw G A f' H := by
  obtain ⟨ws, hP, hD, hm⟩ := h
  have hpw : ws.Pairwise (fun x y => x.1 ≠ y.1) := by
    rw [List.pairwise_iff_getElem]
    intro i j hi hj hij e
    have := hD.1 i j ws[i] ws[j] (List.getElem?_eq_getElem hi) (List.getElem?_eq_getElem hj) e
    omega
  have hpf := hpw.filter (fun x => (f' x.1).isSome)
  have hmem : ∀ x, x ∈ ws.filter (fun x => (f' x.1).isSome) → x ∈ ws := fun x hx => (List.mem_filter.mp hx).1
  refine ⟨ws.filter (fun x => (f' x.1).isSome), fun k q hq => ?_, ⟨fun i j x y hx hy e => ?_, fun k q hq => ?_⟩, fun a e => ?_⟩
  · obtain ⟨i, hi⟩ := List.getElem?_of_mem (hmem q (List.mem_of_getElem? hq))
    exact hP i q hi
  · obtain ⟨hi, rfl⟩ := List.getElem?_eq_some_iff.mp hx
    obtain ⟨hj, rfl⟩ := List.getElem?_eq_some_iff.mp hy
    rcases Nat.lt_trichotomy i j with h1 | h1 | h1
    · exact absurd e ((List.pairwise_iff_getElem.mp hpf) i j hi hj h1)
    · exact h1
    · exact absurd e.symm ((List.pairwise_iff_getElem.mp hpf) j i hj hi h1)
  · obtain ⟨i, hi⟩ := List.getElem?_of_mem (hmem q (List.mem_of_getElem? hq))
    exact hD.2 i q hi
  · rw [List.mem_filter]
    constructor
    · rintro ⟨h1, h2⟩
      obtain ⟨e', h3, h4⟩ := (hm a e).mp h1
      obtain ⟨e2, h5⟩ := Option.isSome_iff_exists.mp h2
      have h6 := hs a e2 h5
      rw [h3] at h6
      cases h6
      exact ⟨e', h5, h4⟩
    · rintro ⟨e', h1, h2⟩
      exact ⟨(hm a e).mpr ⟨e', hs a e' h1, h2⟩, by simp [h1]⟩
def wp_law_at23 (zd : Nat) (xs : Nat → Int32) (L xo mo oo : Nat) (f : FT) (bc bs : Nat) : Prop := ∃ (fc : FT) (ad : Nat → Nat) (n : Nat → Int32) (g : Nat → Nat → Int32), (∀ q e, fc q = some e → f q = some e) ∧ (∀ q e, mf mo ad n g q = some e → f q = some e) ∧ dj fc (mf mo ad n g) ∧ MAd mo ad ∧ ∃ j9, loopW (wp_law_23 zd xs L xo oo) j9 ((0 : Int32), fc, n, g, bc, bs)
def nJ (f : FT) (len : Int32) (bc bs : Nat) (K : Nat → Nat → FT → Prop) : Prop := ¬ len < 0 ∧ ∃ n : Nat, len.toNatClampNeg = n ∧ 1 ≤ bc ∧ n ≤ bs ∧ n ≤ 10000000 ∧ ∀ q, f q = none → ∀ f1, f1 = fup f q (.inl (3, (n, .inr (.inl fun _ => 0)))) → K n q f1
def wp_law_0 (zd : Nat) (xs : Nat → Int32) (L : Nat) (f : FT) : Prop :=
  nO f 11 [.null, .null, .null, .null, .null, .null, .int 0, .null, .null] 9 601024 7293034 fun q_1 f_2 => ∃ ga_7 gb_8 : Nat, ga_7 ≤ (601024 - 1) ∧ gb_8 ≤ (7293034 - 9) ∧ wp_X8_init zd q_1 f_2 ga_7 gb_8 (fun f_6 => nO f_6 12 [.int 0, .int 0, .null, .int 0, .null, .int 0, .int 0, .int 0, .int 0, .int 0, .null, .null, .null, .int 0, .null, .null, .null, .null, .null, .int 0, .null, .null, .null, .int 0, .int 0, .int 0, .int 0, .null, .null, .null, .null, .null, .null, .null] 34 ((601024 - 1) - ga_7) ((7293034 - 9) - gb_8) fun q_11 f_12 => ∃ ga_17 gb_18 : Nat, ga_17 ≤ (((601024 - 1) - ga_7) - 1) ∧ gb_18 ≤ (((7293034 - 9) - gb_8) - 34) ∧ wp_X9_init q_11 f_12 ga_17 gb_18 (fun f_16 => nJ f_16 (1 : Int32) ((((601024 - 1) - ga_7) - 1) - ga_17) ((((7293034 - 9) - gb_8) - 34) - gb_18) fun n_23 q_21 f_22 => wp_law_at23 zd xs L q_1 q_11 q_21 f_22 (((((601024 - 1) - ga_7) - 1) - ga_17) - 1) (((((7293034 - 9) - gb_8) - 34) - gb_18) - n_23)))
set_option maxHeartbeats 4000000 in
set_option maxRecDepth 100000 in
theorem law_pre {p : Program} {l : Launch} {e : Env} {s : State} {m : MethodId} {below : List Frame} {meth : Method} {c : Code} {b L : Nat} {xs : Nat → Int32} (hlt : l.stackTraces = false) (C0 : lw_At p s m meth c b L xs) {G : GG} (hK : FK G s) (hZ : FZ G (fun q : Nat => s.heap.size ≤ q) s s.heap) (hX : FX9 G (fun q : Nat => s.heap.size ≤ q) s s.heap) (hXN : FXN s) {zd : Nat} (hzd : G.2.2 0 = zd) {f : FT} (hF : Fw G (fun q : Nat => s.heap.size ≤ q) f s.heap) (h : wp_law_0 zd xs L f) : W p l e room_1 s m #[Value.ref b] below meth c s.heap [] 0 0 (lw_Z below #[Value.ref b] s) (entryFrame m ([Value.ref b] : List Value).toArray 7) := by
  obtain ⟨hx, hb, hr, hml, hown, hts0, hXs, hbl, hlocks, hgv⟩ := id C0
  have hts : ∀ w ∈ wsL_law, w.before #[Value.ref b] s = true := fun w h => hts0 w (wsL_law_in w h)
  have hA : ∀ q : Nat, s.heap.size ≤ q → (fun q : Nat => s.heap.size ≤ q) q := fun _ h => h
  have hbA : ¬ (fun q : Nat => s.heap.size ≤ q) b := Nat.not_le.mpr hbl
  have hS : va_S (fun q : Nat => s.heap.size ≤ q) s.heap s.heap [] := va_S.rf
  have hin_X8 : ∀ w ∈ wsX80, w ∈ wsL_law := inlX8
  have hin_X9 : ∀ w ∈ wsX90, w ∈ wsL_law := inlX9
  have hbc : 0 + 601024 ≤ 601024 := by omega
  have hbs : 0 + 7293034 ≤ 7293034 := by omega
  have hl := lv_entry ([.ref b]) (n := 7) (Nat.le_of_ble_eq_true rfl)
  rw [lg_entry_eq]
  generalize (lg_sl ([.ref b]) ++ List.replicate (7 - (lg_sl ([.ref b])).length) Slot.unset).toArray = ls at hl ⊢
  have hl : lv_has ls 7 [(0, .ref b)] := hl
  unfold wp_law_0 at h
  obtain ⟨hb1, hb2, h⟩ := h
  refine fw_new (ci := 11) (fs := [.null, .null, .null, .null, .null, .null, .int 0, .null, .null]) (C := RX8) (T := TX8) (N := 9) hx hb hts hin_X8 tyX8 tyX8_ok hown (hts0 (.classLink RL 8 RX8) (List.mem_of_getElem? (i := 93) (by decide +kernel))) (hts0 (.instantiable RX8 9) (List.mem_of_getElem? (i := 94) (by decide +kernel))) (hts0 (.initialized RX8) (List.mem_of_getElem? (i := 59) (by decide +kernel))) hK hF hS hA rfl (fun j hj => by rcases (show j = 0 ∨ j = 1 ∨ j = 2 ∨ j = 3 ∨ j = 4 ∨ j = 5 ∨ j = 6 ∨ j = 7 ∨ j = 8 by omega) with rfl | rfl | rfl | rfl | rfl | rfl | rfl | rfl | rfl <;> rfl) (by show _ ≤ 601024; omega) (by show _ ≤ 7293034; omega) dL_law_0 (fun q_1 H hn_q_1 hF hS => ?_)
  obtain ⟨f_2, hf_f_2⟩ : ∃ z, z = fup f q_1 (.inr (11, [.null, .null, .null, .null, .null, .null, .int 0, .null, .null])) := ⟨_, rfl⟩
  rw [← hf_f_2] at hF; have h := h q_1 hn_q_1 f_2 hf_f_2
  obtain ⟨cs_3, hcs⟩ : ∃ z, z = (0 + 1) := ⟨_, rfl⟩; obtain ⟨sl_4, hsl⟩ : ∃ z, z = (0 + 9) := ⟨_, rfl⟩
  have hbc : cs_3 + (601024 - 1) ≤ 601024 := by omega
  have hbs : sl_4 + (7293034 - 9) ≤ 7293034 := by omega
  refine W.widen (k := cs_3) (n := sl_4) (by omega) (by omega) ?_
  clear hcs hsl
  refine lv_dup hx hb dL_law_3 rfl ?_
  obtain ⟨ga_7, gb_8, hga_ga_7, hgb_ga_7, h⟩ := h
  refine fw_cI_v (As := []) (rest := [.ref q_1]) ⟨hx, hb, hml, hown, hts⟩ (cc_X8_init l G hzd h) (⟨callB_of 0 hts ggL_law_X8_init rfl rfl rfl (hts0 (.initialized RX8) (List.mem_of_getElem? (i := 59) (by decide +kernel))) (hts0 (.methodLink RL 98 yX8_init) (List.mem_of_getElem? (i := 95) (by decide +kernel))) (by decide +kernel) ⟨Nat.le_of_ble_eq_true rfl, Nat.le_of_ble_eq_true rfl⟩, rfl, (hts0 (.instanceMethod yX8_init) (List.mem_of_getElem? (i := 96) (by decide +kernel)))⟩) hK hZ hF hS hA rfl hl.1 rfl (Nat.le_of_ble_eq_true rfl) dL_law_4 ⟨by show _ ≤ 601024; omega, by show _ ≤ 7293034; omega⟩ (fun f_6 H locs h hF hS => ?_)
  obtain ⟨cs_9, hcs⟩ : ∃ z, z = (cs_3 + ga_7) := ⟨_, rfl⟩; obtain ⟨sl_10, hsl⟩ : ∃ z, z = (sl_4 + gb_8) := ⟨_, rfl⟩
  have hbc : cs_9 + ((601024 - 1) - ga_7) ≤ 601024 := by omega
  have hbs : sl_10 + ((7293034 - 9) - gb_8) ≤ 7293034 := by omega
  refine W.widen (k := cs_9) (n := sl_10) (by omega) (by omega) ?_
  clear hcs hsl
  refine lv_astore_n (lv' := [(1, .ref q_1), (0, .ref b)]) hx hb dL_law_7 rfl hl (by decide) rfl (fun ls hl => ?_)
  obtain ⟨hb1, hb2, h⟩ := h
  refine fw_new (ci := 12) (fs := [.int 0, .int 0, .null, .int 0, .null, .int 0, .int 0, .int 0, .int 0, .int 0, .null, .null, .null, .int 0, .null, .null, .null, .null, .null, .int 0, .null, .null, .null, .int 0, .int 0, .int 0, .int 0, .null, .null, .null, .null, .null, .null, .null]) (C := RX9) (T := TX9) (N := 34) hx hb hts hin_X9 tyX9 tyX9_ok hown (hts0 (.classLink RL 99 RX9) (List.mem_of_getElem? (i := 1356) (by decide +kernel))) (hts0 (.instantiable RX9 34) (List.mem_of_getElem? (i := 1357) (by decide +kernel))) (hts0 (.initialized RX9) (List.mem_of_getElem? (i := 77) (by decide +kernel))) hK hF hS hA rfl (fun j hj => by rcases (show j = 0 ∨ j = 1 ∨ j = 2 ∨ j = 3 ∨ j = 4 ∨ j = 5 ∨ j = 6 ∨ j = 7 ∨ j = 8 ∨ j = 9 ∨ j = 10 ∨ j = 11 ∨ j = 12 ∨ j = 13 ∨ j = 14 ∨ j = 15 ∨ j = 16 ∨ j = 17 ∨ j = 18 ∨ j = 19 ∨ j = 20 ∨ j = 21 ∨ j = 22 ∨ j = 23 ∨ j = 24 ∨ j = 25 ∨ j = 26 ∨ j = 27 ∨ j = 28 ∨ j = 29 ∨ j = 30 ∨ j = 31 ∨ j = 32 ∨ j = 33 by omega) with rfl | rfl | rfl | rfl | rfl | rfl | rfl | rfl | rfl | rfl | rfl | rfl | rfl | rfl | rfl | rfl | rfl | rfl | rfl | rfl | rfl | rfl | rfl | rfl | rfl | rfl | rfl | rfl | rfl | rfl | rfl | rfl | rfl | rfl <;> rfl) (by show _ ≤ 601024; omega) (by show _ ≤ 7293034; omega) dL_law_8 (fun q_11 H hn_q_11 hF hS => ?_)
  obtain ⟨f_12, hf_f_12⟩ : ∃ z, z = fup f_6 q_11 (.inr (12, [.int 0, .int 0, .null, .int 0, .null, .int 0, .int 0, .int 0, .int 0, .int 0, .null, .null, .null, .int 0, .null, .null, .null, .null, .null, .int 0, .null, .null, .null, .int 0, .int 0, .int 0, .int 0, .null, .null, .null, .null, .null, .null, .null])) := ⟨_, rfl⟩
  rw [← hf_f_12] at hF; have h := h q_11 hn_q_11 f_12 hf_f_12
  obtain ⟨cs_13, hcs⟩ : ∃ z, z = (cs_9 + 1) := ⟨_, rfl⟩; obtain ⟨sl_14, hsl⟩ : ∃ z, z = (sl_10 + 34) := ⟨_, rfl⟩
  have hbc : cs_13 + (((601024 - 1) - ga_7) - 1) ≤ 601024 := by omega
  have hbs : sl_14 + (((7293034 - 9) - gb_8) - 34) ≤ 7293034 := by omega
  refine W.widen (k := cs_13) (n := sl_14) (by omega) (by omega) ?_
  clear hcs hsl
  refine lv_dup hx hb dL_law_11 rfl ?_
  obtain ⟨ga_17, gb_18, hga_ga_17, hgb_ga_17, h⟩ := h
  refine fw_cI_v (As := []) (rest := [.ref q_11]) ⟨hx, hb, hml, hown, hts⟩ (cc_X9_init l G h) (⟨callB_of 0 hts ggL_law_X9_init rfl rfl rfl (hts0 (.initialized RX9) (List.mem_of_getElem? (i := 77) (by decide +kernel))) (hts0 (.methodLink RL 101 yX9_init) (List.mem_of_getElem? (i := 1358) (by decide +kernel))) (by decide +kernel) ⟨Nat.le_of_ble_eq_true rfl, Nat.le_of_ble_eq_true rfl⟩, rfl, (hts0 (.instanceMethod yX9_init) (List.mem_of_getElem? (i := 1359) (by decide +kernel)))⟩) hK hZ hF hS hA rfl hl.1 rfl (Nat.le_of_ble_eq_true rfl) dL_law_12 ⟨by show _ ≤ 601024; omega, by show _ ≤ 7293034; omega⟩ (fun f_16 H locs h hF hS => ?_)
  obtain ⟨cs_19, hcs⟩ : ∃ z, z = (cs_13 + ga_17) := ⟨_, rfl⟩; obtain ⟨sl_20, hsl⟩ : ∃ z, z = (sl_14 + gb_18) := ⟨_, rfl⟩
  have hbc : cs_19 + ((((601024 - 1) - ga_7) - 1) - ga_17) ≤ 601024 := by omega
  have hbs : sl_20 + ((((7293034 - 9) - gb_8) - 34) - gb_18) ≤ 7293034 := by omega
  refine W.widen (k := cs_19) (n := sl_20) (by omega) (by omega) ?_
  clear hcs hsl
  refine lv_astore_n (lv' := [(2, .ref q_11), (1, .ref q_1), (0, .ref b)]) hx hb dL_law_15 rfl hl (by decide) rfl (fun ls hl => ?_)
  refine lv_iconst (v := (1 : Int32)) hx hb dL_law_16 (by decide) ?_
  obtain ⟨hb0, n_23, hN, hb1, hb2, hb3, h⟩ := h
  refine fw_newa (atype := .long) (a0 := (n_23, .inr (.inl fun _ => 0))) hx hb (hts0 (.arrayClass .long) (List.mem_of_getElem? (i := 1768) (by decide +kernel))) (ty := .long) rfl 3 rfl va_RA_long hK hF hS hA (fun cA => rfl) hb0 hN (by show _ * 8 ≤ _; omega) (by show _ ≤ 601024; omega) (by show _ ≤ 7293034; omega) dL_law_17 (fun q_21 H hn_q_21 hF hS => ?_)
  obtain ⟨f_22, hf_f_22⟩ : ∃ z, z = fup f_16 q_21 (.inl (3, (n_23, .inr (.inl fun _ => 0)))) := ⟨_, rfl⟩
  rw [← hf_f_22] at hF; have h := h q_21 hn_q_21 f_22 hf_f_22
  obtain ⟨cs_24, hcs⟩ : ∃ z, z = (cs_19 + 1) := ⟨_, rfl⟩; obtain ⟨sl_25, hsl⟩ : ∃ z, z = (sl_20 + n_23) := ⟨_, rfl⟩
  have hbc : cs_24 + (((((601024 - 1) - ga_7) - 1) - ga_17) - 1) ≤ 601024 := by omega
  have hbs : sl_25 + (((((7293034 - 9) - gb_8) - 34) - gb_18) - n_23) ≤ 7293034 := by omega
  refine W.widen (k := cs_24) (n := sl_25) (by omega) (by omega) ?_
  clear hcs hsl
  refine lv_astore_n (lv' := [(3, .ref q_21), (2, .ref q_11), (1, .ref q_1), (0, .ref b)]) hx hb dL_law_19 rfl hl (by decide) rfl (fun ls hl => ?_)
  refine lv_iconst (v := (0 : Int32)) hx hb dL_law_20 (by decide) ?_
  refine lv_istore (lv' := [(4, .int (0 : Int32)), (3, .ref q_21), (2, .ref q_11), (1, .ref q_1), (0, .ref b)]) hx hb dL_law_21 hl (by decide) rfl (fun ls hl => ?_)
  obtain ⟨fc, ad, n, g, hs1, hs2, hd, had, j9, h⟩ := h
  exact law_loop hlt C0 hK hZ hX hXN hzd had j9 _ fc n g _ _ _ _ _ _ _ h hbc hbs (hF.sub hs1) (hF.sub hs2) hd hS (lv_sub hl [4, 3, 2, 1, 0] rfl)
