theorem dL_law_23 : decode code 23 = .ok (.iload 4, 2) := by decide +kernel
theorem dL_law_25 : decode code 25 = .ok (.aload_n 0, 1) := by decide +kernel
theorem dL_law_26 : decode code 26 = .ok (.arraylength, 1) := by decide +kernel
theorem dL_law_27 : decode code 27 = .ok (.iconst 4, 1) := by decide +kernel
theorem dL_law_28 : decode code 28 = .ok (.isub, 1) := by decide +kernel
theorem dL_law_29 : decode code 29 = .ok (.if_icmp .gt 1750, 3) := by decide +kernel
theorem dL_law_1779 : decode code 1779 = .ok (.iconst 1, 1) := by decide +kernel
theorem dL_law_1780 : decode code 1780 = .ok (.ireturn, 1) := by decide +kernel
theorem dL_law_1773 : decode code 1773 = .ok (.iinc 4 4, 3) := by decide +kernel
theorem dL_law_1776 : decode code 1776 = .ok (.goto (-1753), 3) := by decide +kernel
theorem dL_law_32 : decode code 32 = .ok (.aload_n 0, 1) := by decide +kernel
theorem dL_law_33 : decode code 33 = .ok (.iload 4, 2) := by decide +kernel
theorem dL_law_35 : decode code 35 = .ok (.iaload, 1) := by decide +kernel
theorem dL_law_36 : decode code 36 = .ok (.bipush 63, 2) := by decide +kernel
theorem dL_law_38 : decode code 38 = .ok (.iand, 1) := by decide +kernel
theorem dL_law_39 : decode code 39 = .ok (.tableswitch 1734 0 32 #[145, 201, 301, 357, 413, 426, 482, 545, 589, 633, 646, 659, 672, 728, 772, 785, 798, 854, 922, 990, 1070, 1126, 1140, 1203, 1266, 1329, 1385, 1441, 1497, 1565, 1621, 1677, 1690], 145) := by decide +kernel
abbrev law_S : Type := Int32 × FT × (Nat → Int32) × (Nat → Nat → Int32) × Nat × Nat
def wp_law_next (C : law_S → Prop) : law_S → Prop := fun s9 => match s9 with
  | (y4, f, n, g, bc, bs) => ∀ v : Int32, v = y4 + 4 → C (v, f, n, g, bc, bs)
def wp_law_23 (zd : Nat) (xs : Nat → Int32) (L xo oo : Nat) (C : law_S → Prop) : law_S → Prop := fun s9 => match s9 with
  | (y4, f, n, g, bc, bs) => ∀ v0 : Int32, v0 = Int32.ofNat L → (¬ (v0 - (4 : Int32) < y4) → vp_in y4 L ∧ ∀ v1 : Int32, v1 = xs y4.toNatClampNeg → ∀ v2 : Int32, v2 = v1 &&& (63 : Int32) → (v2 = (0 : Int32) → wp_law_c0 zd xs L xo oo y4 f n g bc bs (wp_law_next C)) ∧
 (v2 = (1 : Int32) → wp_law_c1 zd xs L xo oo y4 f n g bc bs (wp_law_next C)) ∧
 (v2 = (2 : Int32) → wp_law_c2 zd xs L xo oo y4 f n g bc bs (wp_law_next C)) ∧
 (v2 = (3 : Int32) → wp_law_c3 zd xs L xo oo y4 f n g bc bs (wp_law_next C)) ∧
 (v2 = (4 : Int32) → wp_law_c4 zd xs L xo oo y4 f n g bc bs (wp_law_next C)) ∧
 (v2 = (5 : Int32) → wp_law_c5 zd xs L xo oo y4 f n g bc bs (wp_law_next C)) ∧
 (v2 = (6 : Int32) → wp_law_c6 zd xs L xo oo y4 f n g bc bs (wp_law_next C)) ∧
 (v2 = (7 : Int32) → wp_law_c7 zd xs L xo oo y4 f n g bc bs (wp_law_next C)) ∧
 (v2 = (8 : Int32) → wp_law_c8 zd xs L xo oo y4 f n g bc bs (wp_law_next C)) ∧
 (v2 = (9 : Int32) → wp_law_c9 zd xs L xo oo y4 f n g bc bs (wp_law_next C)) ∧
 (v2 = (10 : Int32) → wp_law_c10 zd xs L xo oo y4 f n g bc bs (wp_law_next C)) ∧
 (v2 = (11 : Int32) → wp_law_c11 zd xs L xo oo y4 f n g bc bs (wp_law_next C)) ∧
 (v2 = (12 : Int32) → wp_law_c12 zd xs L xo oo y4 f n g bc bs (wp_law_next C)) ∧
 (v2 = (13 : Int32) → wp_law_c13 zd xs L xo oo y4 f n g bc bs (wp_law_next C)) ∧
 (v2 = (14 : Int32) → wp_law_c14 zd xs L xo oo y4 f n g bc bs (wp_law_next C)) ∧
 (v2 = (15 : Int32) → wp_law_c15 zd xs L xo oo y4 f n g bc bs (wp_law_next C)) ∧
 (v2 = (16 : Int32) → wp_law_c16 zd xs L xo oo y4 f n g bc bs (wp_law_next C)) ∧
 (v2 = (17 : Int32) → wp_law_c17 zd xs L xo oo y4 f n g bc bs (wp_law_next C)) ∧
 (v2 = (18 : Int32) → wp_law_c18 zd xs L xo oo y4 f n g bc bs (wp_law_next C)) ∧
 (v2 = (19 : Int32) → wp_law_c19 zd xs L xo oo y4 f n g bc bs (wp_law_next C)) ∧
 (v2 = (20 : Int32) → wp_law_c20 zd xs L xo oo y4 f n g bc bs (wp_law_next C)) ∧
 (v2 = (21 : Int32) → wp_law_c21 zd xs L xo oo y4 f n g bc bs (wp_law_next C)) ∧
 (v2 = (22 : Int32) → wp_law_c22 zd xs L xo oo y4 f n g bc bs (wp_law_next C)) ∧
 (v2 = (23 : Int32) → wp_law_c23 zd xs L xo oo y4 f n g bc bs (wp_law_next C)) ∧
 (v2 = (24 : Int32) → wp_law_c24 zd xs L xo oo y4 f n g bc bs (wp_law_next C)) ∧
 (v2 = (25 : Int32) → wp_law_c25 zd xs L xo oo y4 f n g bc bs (wp_law_next C)) ∧
 (v2 = (26 : Int32) → wp_law_c26 zd xs L xo oo y4 f n g bc bs (wp_law_next C)) ∧
 (v2 = (27 : Int32) → wp_law_c27 zd xs L xo oo y4 f n g bc bs (wp_law_next C)) ∧
 (v2 = (28 : Int32) → wp_law_c28 zd xs L xo oo y4 f n g bc bs (wp_law_next C)) ∧
 (v2 = (29 : Int32) → wp_law_c29 zd xs L xo oo y4 f n g bc bs (wp_law_next C)) ∧
 (v2 = (30 : Int32) → wp_law_c30 zd xs L xo oo y4 f n g bc bs (wp_law_next C)) ∧
 (v2 = (31 : Int32) → wp_law_c31 zd xs L xo oo y4 f n g bc bs (wp_law_next C)) ∧
 (v2 = (32 : Int32) → wp_law_c32 zd xs L xo oo y4 f n g bc bs (wp_law_next C)) ∧
 wp_law_next C (y4, f, n, g, bc, bs))
set_option maxHeartbeats 8000000 in
set_option maxRecDepth 100000 in
theorem law_loop {p : Program} {l : Launch} {e : Env} {s : State} {m : MethodId} {below : List Frame} {meth : Method} {c : Code} {b L : Nat} {xs : Nat → Int32} (hlt : l.stackTraces = false) (C0 : lw_At p s m meth c b L xs) {G : GG} (hK : FK G s) (hZ : FZ G (fun q : Nat => s.heap.size ≤ q) s s.heap) (hX : FX9 G (fun q : Nat => s.heap.size ≤ q) s s.heap) (hXN : FXN s) {zd : Nat} (hzd : G.2.2 0 = zd) {xo mo oo : Nat} {ad : Nat → Nat} (had : MAd mo ad) : ∀ (j9 : Nat) (y4 : Int32) (f : FT) (n : Nat → Int32) (g : Nat → Nat → Int32) (bc bs : Nat) (H : Heap) (locs : List Loc) (ls : Array Slot) (cs sl : Nat), loopW (wp_law_23 zd xs L xo oo) j9 (y4, f, n, g, bc, bs) → cs + bc ≤ 601024 → sl + bs ≤ 7293034 → Fw G (fun q : Nat => s.heap.size ≤ q) f H → Fw G (fun q : Nat => s.heap.size ≤ q) (mf mo ad n g) H → dj f (mf mo ad n g) → va_S (fun q : Nat => s.heap.size ≤ q) s.heap H locs → lv_has ls 7 [(0, .ref b), (1, .ref xo), (2, .ref mo), (3, .ref oo), (4, .int y4)] → W p l e room_1 s m #[Value.ref b] below meth c H locs cs sl (lw_Z below #[Value.ref b] s) (F0 m 23 ls []) := by
  obtain ⟨hx, hb, hr, hml, hown, hts0, hXs, hbl, hlocks, hgv⟩ := id C0
  have hts : ∀ w ∈ wsL_law, w.before #[Value.ref b] s = true := fun w h => hts0 w (wsL_law_in w h)
  have hA : ∀ q : Nat, s.heap.size ≤ q → (fun q : Nat => s.heap.size ≤ q) q := fun _ h => h
  have hbA : ¬ (fun q : Nat => s.heap.size ≤ q) b := Nat.not_le.mpr hbl
  intro j9
  induction j9 with
  | zero => intro y4 f n g bc bs H locs ls cs sl h; exact h.elim
  | succ j9 ih =>
    intro y4 f n g bc bs H locs ls cs sl h hbc hbs hF hF2 hd hS hl
    have h : wp_law_23 zd xs L xo oo (loopW (wp_law_23 zd xs L xo oo) j9) (y4, f, n, g, bc, bs) := h
    generalize loopW (wp_law_23 zd xs L xo oo) j9 = C23 at ih h
    unfold wp_law_23 at h
    refine lv_iload hx hb dL_law_23 (lv_at hl 4 rfl) ?_
    refine lv_aload_n hx hb dL_law_25 rfl (lv_at hl 0 rfl) ?_
    refine va_slen hx hb hXs hbl hbA hS dL_law_26 ?_
    refine lv_topi (fun v0 e0 => ?_)
    have h := h v0 e0
    refine lv_iconst (v := (4 : Int32)) hx hb dL_law_27 (by decide) ?_
    refine lv_isub hx hb dL_law_28 ?_
    refine lv_icmp_gt (tgt := 1779) hx hb dL_law_29 (by decide) (fun c1 => ?_) (fun c1 => ?_)
    · refine lv_iconst (v := (1 : Int32)) hx hb dL_law_1779 (by decide) ?_
      refine va_forget (fun q hq => hS.2.2 q hq) ?_
      refine W.widen (k := 601024) (n := 7293034) (by omega) (by omega) ?_
      exact lw_ret (Drawn.sameBut.refl s.drawn lw_cs) hx hb hr hlocks dL_law_1780
    · have h := h c1
      obtain ⟨hi, h⟩ := h
      refine lv_aload_n hx hb dL_law_32 rfl (lv_at hl 0 rfl) ?_
      refine lv_iload hx hb dL_law_33 (lv_at hl 4 rfl) ?_
      refine va_sld hx hb hXs hbl hbA hS hi dL_law_35 ?_
      refine lv_topi (fun v1 e1 => ?_)
      have h := h v1 e1
      refine lv_bipush (v := (63 : Int32)) hx hb dL_law_36 (by decide) ?_
      refine lv_iand hx hb dL_law_38 ?_
      refine lv_topi (fun v2 e2 => ?_)
      have h := h v2 e2
      obtain ⟨j, hj, ej⟩ := pk_andE v1 (m := 63) 6 (by decide)
      have e3 : v2 = nI j := e2.trans ej
      obtain ⟨h0, h1, h2, h3, h4, h5, h6, h7, h8, h9, h10, h11, h12, h13, h14, h15, h16, h17, h18, h19, h20, h21, h22, h23, h24, h25, h26, h27, h28, h29, h30, h31, h32, h33⟩ := h
      have hC : ∀ (y4 : Int32) (f : FT) (n : Nat → Int32) (g : Nat → Nat → Int32) (bc bs : Nat) (H : Heap) (locs : List Loc) (ls : Array Slot) (cs sl : Nat), wp_law_next C23 (y4, f, n, g, bc, bs) → cs + bc ≤ 601024 → sl + bs ≤ 7293034 → Fw G (fun q : Nat => s.heap.size ≤ q) f H → Fw G (fun q : Nat => s.heap.size ≤ q) (mf mo ad n g) H → dj f (mf mo ad n g) → va_S (fun q : Nat => s.heap.size ≤ q) s.heap H locs → lv_has ls 7 [(0, .ref b), (1, .ref xo), (2, .ref mo), (3, .ref oo), (4, .int y4)] → W p l e room_1 s m #[Value.ref b] below meth c H locs cs sl (lw_Z below #[Value.ref b] s) (F0 m 1773 ls []) := by
        intro y4 f n g bc bs H locs ls cs sl h hbc hbs hF hF2 hd hS hl
        obtain ⟨v, ev⟩ : ∃ z : Int32, z = y4 + 4 := ⟨_, rfl⟩
        have h := h v ev
        refine lv_iinc (v := v) (lv' := [(4, .int v), (0, .ref b), (1, .ref xo), (2, .ref mo), (3, .ref oo)]) hx hb dL_law_1773 hl (k := 4) rfl (by rw [ev]; rfl) (by decide) rfl (fun ls hl => ?_)
        refine lv_goto (tgt := 23) hx hb dL_law_1776 (by decide) ?_
        exact ih v f n g bc bs _ _ _ _ _ h hbc hbs hF hF2 hd hS (lv_sub hl [1, 2, 3, 4, 0] rfl)
      rcases (show j = 0 ∨ j = 1 ∨ j = 2 ∨ j = 3 ∨ j = 4 ∨ j = 5 ∨ j = 6 ∨ j = 7 ∨ j = 8 ∨ j = 9 ∨ j = 10 ∨ j = 11 ∨ j = 12 ∨ j = 13 ∨ j = 14 ∨ j = 15 ∨ j = 16 ∨ j = 17 ∨ j = 18 ∨ j = 19 ∨ j = 20 ∨ j = 21 ∨ j = 22 ∨ j = 23 ∨ j = 24 ∨ j = 25 ∨ j = 26 ∨ j = 27 ∨ j = 28 ∨ j = 29 ∨ j = 30 ∨ j = 31 ∨ j = 32 ∨ 33 ≤ j by omega) with rfl | rfl | rfl | rfl | rfl | rfl | rfl | rfl | rfl | rfl | rfl | rfl | rfl | rfl | rfl | rfl | rfl | rfl | rfl | rfl | rfl | rfl | rfl | rfl | rfl | rfl | rfl | rfl | rfl | rfl | rfl | rfl | rfl | hj3
      · have e4 : v2 = (0 : Int32) := e3.trans (by decide)
        have h := h0 e4
        rw [e4]
        refine lv_tableIn (x := (0 : Int32)) (off := 145) (tgt := 184) hx hb dL_law_39 (by decide) (by decide) (by decide) (by decide) ?_
        exact law_c0 hlt C0 hK hZ hX hXN hzd had y4 f n g bc bs _ _ _ _ _ hC h hbc hbs hF hF2 hd hS hl
      · have e4 : v2 = (1 : Int32) := e3.trans (by decide)
        have h := h1 e4
        rw [e4]
        refine lv_tableIn (x := (1 : Int32)) (off := 201) (tgt := 240) hx hb dL_law_39 (by decide) (by decide) (by decide) (by decide) ?_
        exact law_c1 hlt C0 hK hZ hX hXN hzd had y4 f n g bc bs _ _ _ _ _ hC h hbc hbs hF hF2 hd hS hl
      · have e4 : v2 = (2 : Int32) := e3.trans (by decide)
        have h := h2 e4
        rw [e4]
        refine lv_tableIn (x := (2 : Int32)) (off := 301) (tgt := 340) hx hb dL_law_39 (by decide) (by decide) (by decide) (by decide) ?_
        exact law_c2 hlt C0 hK hZ hX hXN hzd had y4 f n g bc bs _ _ _ _ _ hC h hbc hbs hF hF2 hd hS hl
      · have e4 : v2 = (3 : Int32) := e3.trans (by decide)
        have h := h3 e4
        rw [e4]
        refine lv_tableIn (x := (3 : Int32)) (off := 357) (tgt := 396) hx hb dL_law_39 (by decide) (by decide) (by decide) (by decide) ?_
        exact law_c3 hlt C0 hK hZ hX hXN hzd had y4 f n g bc bs _ _ _ _ _ hC h hbc hbs hF hF2 hd hS hl
      · have e4 : v2 = (4 : Int32) := e3.trans (by decide)
        have h := h4 e4
        rw [e4]
        refine lv_tableIn (x := (4 : Int32)) (off := 413) (tgt := 452) hx hb dL_law_39 (by decide) (by decide) (by decide) (by decide) ?_
        exact law_c4 hlt C0 hK hZ hX hXN hzd had y4 f n g bc bs _ _ _ _ _ hC h hbc hbs hF hF2 hd hS hl
      · have e4 : v2 = (5 : Int32) := e3.trans (by decide)
        have h := h5 e4
        rw [e4]
        refine lv_tableIn (x := (5 : Int32)) (off := 426) (tgt := 465) hx hb dL_law_39 (by decide) (by decide) (by decide) (by decide) ?_
        exact law_c5 hlt C0 hK hZ hX hXN hzd had y4 f n g bc bs _ _ _ _ _ hC h hbc hbs hF hF2 hd hS hl
      · have e4 : v2 = (6 : Int32) := e3.trans (by decide)
        have h := h6 e4
        rw [e4]
        refine lv_tableIn (x := (6 : Int32)) (off := 482) (tgt := 521) hx hb dL_law_39 (by decide) (by decide) (by decide) (by decide) ?_
        exact law_c6 hlt C0 hK hZ hX hXN hzd had y4 f n g bc bs _ _ _ _ _ hC h hbc hbs hF hF2 hd hS hl
      · have e4 : v2 = (7 : Int32) := e3.trans (by decide)
        have h := h7 e4
        rw [e4]
        refine lv_tableIn (x := (7 : Int32)) (off := 545) (tgt := 584) hx hb dL_law_39 (by decide) (by decide) (by decide) (by decide) ?_
        exact law_c7 hlt C0 hK hZ hX hXN hzd had y4 f n g bc bs _ _ _ _ _ hC h hbc hbs hF hF2 hd hS hl
      · have e4 : v2 = (8 : Int32) := e3.trans (by decide)
        have h := h8 e4
        rw [e4]
        refine lv_tableIn (x := (8 : Int32)) (off := 589) (tgt := 628) hx hb dL_law_39 (by decide) (by decide) (by decide) (by decide) ?_
        exact law_c8 hlt C0 hK hZ hX hXN hzd had y4 f n g bc bs _ _ _ _ _ hC h hbc hbs hF hF2 hd hS hl
      · have e4 : v2 = (9 : Int32) := e3.trans (by decide)
        have h := h9 e4
        rw [e4]
        refine lv_tableIn (x := (9 : Int32)) (off := 633) (tgt := 672) hx hb dL_law_39 (by decide) (by decide) (by decide) (by decide) ?_
        exact law_c9 hlt C0 hK hZ hX hXN hzd had y4 f n g bc bs _ _ _ _ _ hC h hbc hbs hF hF2 hd hS hl
      · have e4 : v2 = (10 : Int32) := e3.trans (by decide)
        have h := h10 e4
        rw [e4]
        refine lv_tableIn (x := (10 : Int32)) (off := 646) (tgt := 685) hx hb dL_law_39 (by decide) (by decide) (by decide) (by decide) ?_
        exact law_c10 hlt C0 hK hZ hX hXN hzd had y4 f n g bc bs _ _ _ _ _ hC h hbc hbs hF hF2 hd hS hl
      · have e4 : v2 = (11 : Int32) := e3.trans (by decide)
        have h := h11 e4
        rw [e4]
        refine lv_tableIn (x := (11 : Int32)) (off := 659) (tgt := 698) hx hb dL_law_39 (by decide) (by decide) (by decide) (by decide) ?_
        exact law_c11 hlt C0 hK hZ hX hXN hzd had y4 f n g bc bs _ _ _ _ _ hC h hbc hbs hF hF2 hd hS hl
      · have e4 : v2 = (12 : Int32) := e3.trans (by decide)
        have h := h12 e4
        rw [e4]
        refine lv_tableIn (x := (12 : Int32)) (off := 672) (tgt := 711) hx hb dL_law_39 (by decide) (by decide) (by decide) (by decide) ?_
        exact law_c12 hlt C0 hK hZ hX hXN hzd had y4 f n g bc bs _ _ _ _ _ hC h hbc hbs hF hF2 hd hS hl
      · have e4 : v2 = (13 : Int32) := e3.trans (by decide)
        have h := h13 e4
        rw [e4]
        refine lv_tableIn (x := (13 : Int32)) (off := 728) (tgt := 767) hx hb dL_law_39 (by decide) (by decide) (by decide) (by decide) ?_
        exact law_c13 hlt C0 hK hZ hX hXN hzd had y4 f n g bc bs _ _ _ _ _ hC h hbc hbs hF hF2 hd hS hl
      · have e4 : v2 = (14 : Int32) := e3.trans (by decide)
        have h := h14 e4
        rw [e4]
        refine lv_tableIn (x := (14 : Int32)) (off := 772) (tgt := 811) hx hb dL_law_39 (by decide) (by decide) (by decide) (by decide) ?_
        exact law_c14 hlt C0 hK hZ hX hXN hzd had y4 f n g bc bs _ _ _ _ _ hC h hbc hbs hF hF2 hd hS hl
      · have e4 : v2 = (15 : Int32) := e3.trans (by decide)
        have h := h15 e4
        rw [e4]
        refine lv_tableIn (x := (15 : Int32)) (off := 785) (tgt := 824) hx hb dL_law_39 (by decide) (by decide) (by decide) (by decide) ?_
        exact law_c15 hlt C0 hK hZ hX hXN hzd had y4 f n g bc bs _ _ _ _ _ hC h hbc hbs hF hF2 hd hS hl
      · have e4 : v2 = (16 : Int32) := e3.trans (by decide)
        have h := h16 e4
        rw [e4]
        refine lv_tableIn (x := (16 : Int32)) (off := 798) (tgt := 837) hx hb dL_law_39 (by decide) (by decide) (by decide) (by decide) ?_
        exact law_c16 hlt C0 hK hZ hX hXN hzd had y4 f n g bc bs _ _ _ _ _ hC h hbc hbs hF hF2 hd hS hl
      · have e4 : v2 = (17 : Int32) := e3.trans (by decide)
        have h := h17 e4
        rw [e4]
        refine lv_tableIn (x := (17 : Int32)) (off := 854) (tgt := 893) hx hb dL_law_39 (by decide) (by decide) (by decide) (by decide) ?_
        exact law_c17 hlt C0 hK hZ hX hXN hzd had y4 f n g bc bs _ _ _ _ _ hC h hbc hbs hF hF2 hd hS hl
      · have e4 : v2 = (18 : Int32) := e3.trans (by decide)
        have h := h18 e4
        rw [e4]
        refine lv_tableIn (x := (18 : Int32)) (off := 922) (tgt := 961) hx hb dL_law_39 (by decide) (by decide) (by decide) (by decide) ?_
        exact law_c18 hlt C0 hK hZ hX hXN hzd had y4 f n g bc bs _ _ _ _ _ hC h hbc hbs hF hF2 hd hS hl
      · have e4 : v2 = (19 : Int32) := e3.trans (by decide)
        have h := h19 e4
        rw [e4]
        refine lv_tableIn (x := (19 : Int32)) (off := 990) (tgt := 1029) hx hb dL_law_39 (by decide) (by decide) (by decide) (by decide) ?_
        exact law_c19 hlt C0 hK hZ hX hXN hzd had y4 f n g bc bs _ _ _ _ _ hC h hbc hbs hF hF2 hd hS hl
      · have e4 : v2 = (20 : Int32) := e3.trans (by decide)
        have h := h20 e4
        rw [e4]
        refine lv_tableIn (x := (20 : Int32)) (off := 1070) (tgt := 1109) hx hb dL_law_39 (by decide) (by decide) (by decide) (by decide) ?_
        exact law_c20 hlt C0 hK hZ hX hXN hzd had y4 f n g bc bs _ _ _ _ _ hC h hbc hbs hF hF2 hd hS hl
      · have e4 : v2 = (21 : Int32) := e3.trans (by decide)
        have h := h21 e4
        rw [e4]
        refine lv_tableIn (x := (21 : Int32)) (off := 1126) (tgt := 1165) hx hb dL_law_39 (by decide) (by decide) (by decide) (by decide) ?_
        exact law_c21 hlt C0 hK hZ hX hXN hzd had y4 f n g bc bs _ _ _ _ _ hC h hbc hbs hF hF2 hd hS hl
      · have e4 : v2 = (22 : Int32) := e3.trans (by decide)
        have h := h22 e4
        rw [e4]
        refine lv_tableIn (x := (22 : Int32)) (off := 1140) (tgt := 1179) hx hb dL_law_39 (by decide) (by decide) (by decide) (by decide) ?_
        exact law_c22 hlt C0 hK hZ hX hXN hzd had y4 f n g bc bs _ _ _ _ _ hC h hbc hbs hF hF2 hd hS hl
      · have e4 : v2 = (23 : Int32) := e3.trans (by decide)
        have h := h23 e4
        rw [e4]
        refine lv_tableIn (x := (23 : Int32)) (off := 1203) (tgt := 1242) hx hb dL_law_39 (by decide) (by decide) (by decide) (by decide) ?_
        exact law_c23 hlt C0 hK hZ hX hXN hzd had y4 f n g bc bs _ _ _ _ _ hC h hbc hbs hF hF2 hd hS hl
      · have e4 : v2 = (24 : Int32) := e3.trans (by decide)
        have h := h24 e4
        rw [e4]
        refine lv_tableIn (x := (24 : Int32)) (off := 1266) (tgt := 1305) hx hb dL_law_39 (by decide) (by decide) (by decide) (by decide) ?_
        exact law_c24 hlt C0 hK hZ hX hXN hzd had y4 f n g bc bs _ _ _ _ _ hC h hbc hbs hF hF2 hd hS hl
      · have e4 : v2 = (25 : Int32) := e3.trans (by decide)
        have h := h25 e4
        rw [e4]
        refine lv_tableIn (x := (25 : Int32)) (off := 1329) (tgt := 1368) hx hb dL_law_39 (by decide) (by decide) (by decide) (by decide) ?_
        exact law_c25 hlt C0 hK hZ hX hXN hzd had y4 f n g bc bs _ _ _ _ _ hC h hbc hbs hF hF2 hd hS hl
      · have e4 : v2 = (26 : Int32) := e3.trans (by decide)
        have h := h26 e4
        rw [e4]
        refine lv_tableIn (x := (26 : Int32)) (off := 1385) (tgt := 1424) hx hb dL_law_39 (by decide) (by decide) (by decide) (by decide) ?_
        exact law_c26 hlt C0 hK hZ hX hXN hzd had y4 f n g bc bs _ _ _ _ _ hC h hbc hbs hF hF2 hd hS hl
      · have e4 : v2 = (27 : Int32) := e3.trans (by decide)
        have h := h27 e4
        rw [e4]
        refine lv_tableIn (x := (27 : Int32)) (off := 1441) (tgt := 1480) hx hb dL_law_39 (by decide) (by decide) (by decide) (by decide) ?_
        exact law_c27 hlt C0 hK hZ hX hXN hzd had y4 f n g bc bs _ _ _ _ _ hC h hbc hbs hF hF2 hd hS hl
      · have e4 : v2 = (28 : Int32) := e3.trans (by decide)
        have h := h28 e4
        rw [e4]
        refine lv_tableIn (x := (28 : Int32)) (off := 1497) (tgt := 1536) hx hb dL_law_39 (by decide) (by decide) (by decide) (by decide) ?_
        exact law_c28 hlt C0 hK hZ hX hXN hzd had y4 f n g bc bs _ _ _ _ _ hC h hbc hbs hF hF2 hd hS hl
      · have e4 : v2 = (29 : Int32) := e3.trans (by decide)
        have h := h29 e4
        rw [e4]
        refine lv_tableIn (x := (29 : Int32)) (off := 1565) (tgt := 1604) hx hb dL_law_39 (by decide) (by decide) (by decide) (by decide) ?_
        exact law_c29 hlt C0 hK hZ hX hXN hzd had y4 f n g bc bs _ _ _ _ _ hC h hbc hbs hF hF2 hd hS hl
      · have e4 : v2 = (30 : Int32) := e3.trans (by decide)
        have h := h30 e4
        rw [e4]
        refine lv_tableIn (x := (30 : Int32)) (off := 1621) (tgt := 1660) hx hb dL_law_39 (by decide) (by decide) (by decide) (by decide) ?_
        exact law_c30 hlt C0 hK hZ hX hXN hzd had y4 f n g bc bs _ _ _ _ _ hC h hbc hbs hF hF2 hd hS hl
      · have e4 : v2 = (31 : Int32) := e3.trans (by decide)
        have h := h31 e4
        rw [e4]
        refine lv_tableIn (x := (31 : Int32)) (off := 1677) (tgt := 1716) hx hb dL_law_39 (by decide) (by decide) (by decide) (by decide) ?_
        exact law_c31 hlt C0 hK hZ hX hXN hzd had y4 f n g bc bs _ _ _ _ _ hC h hbc hbs hF hF2 hd hS hl
      · have e4 : v2 = (32 : Int32) := e3.trans (by decide)
        have h := h32 e4
        rw [e4]
        refine lv_tableIn (x := (32 : Int32)) (off := 1690) (tgt := 1729) hx hb dL_law_39 (by decide) (by decide) (by decide) (by decide) ?_
        exact law_c32 hlt C0 hK hZ hX hXN hzd had y4 f n g bc bs _ _ _ _ _ hC h hbc hbs hF hF2 hd hS hl
      · refine lv_tableOut (tgt := 1773) hx hb dL_law_39 (Or.inr ?_) (by decide) ?_
        · rw [e3, nI_toInt (by omega)]
          omega
        · exact hC y4 f n g bc bs _ _ _ _ _ h33 hbc hbs hF hF2 hd hS hl
