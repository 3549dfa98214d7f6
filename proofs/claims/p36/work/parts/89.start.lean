/-! the law's start: what the tables and the premises say -/
theorem mem_pick {big ws : List Cond} (is : List Nat) (h : is.filterMap (fun i => big[i]?) = ws) : ∀ w ∈ ws, w ∈ big := by
  subst h
  intro w hw
  obtain ⟨i, -, e⟩ := List.mem_filterMap.mp hw
  exact List.mem_of_getElem? e
def gAd (zd mi : Nat) (sa : Nat → Nat) : Nat → Nat := fun k => if k = 0 then zd else if k = 1 then mi else sa (k - 100)
theorem gAd_s (zd mi : Nat) (sa : Nat → Nat) (k : Nat) : gAd zd mi sa (100 + k) = sa k := by
  unfold gAd
  rw [if_neg (by omega), if_neg (by omega), Nat.add_sub_cancel_left]
set_option maxRecDepth 20000 in
theorem hin0 : ∀ w ∈ u_ws RJx4a65c TJx4a65c 3, w ∈ tables_1 := mem_pick [757, 753, 755] (by decide +kernel)
set_option maxRecDepth 20000 in
theorem hin1 : ∀ w ∈ u_ws RJx4a65c TJx4a65c 3, w ∈ tables_1 := mem_pick [757, 753, 755] (by decide +kernel)
set_option maxRecDepth 20000 in
theorem hin2 : ∀ w ∈ u_ws RJx4a65c TJx4a65c 3, w ∈ tables_1 := mem_pick [757, 753, 755] (by decide +kernel)
set_option maxRecDepth 20000 in
theorem hin3 : ∀ w ∈ u_ws RX0 TX0 1, w ∈ tables_1 := mem_pick [823] (by decide +kernel)
set_option maxRecDepth 20000 in
theorem hin4 : ∀ w ∈ u_ws RX1 TX1 4, w ∈ tables_1 := mem_pick [837, 839, 841, 843] (by decide +kernel)
set_option maxRecDepth 20000 in
theorem hin5 : ∀ w ∈ u_ws RX2 TX2 2, w ∈ tables_1 := mem_pick [409, 411] (by decide +kernel)
set_option maxRecDepth 20000 in
theorem hin6 : ∀ w ∈ u_ws RX3 TX3 1, w ∈ tables_1 := mem_pick [136] (by decide +kernel)
set_option maxRecDepth 20000 in
theorem hin7 : ∀ w ∈ u_ws RX4 TX4 2, w ∈ tables_1 := mem_pick [763, 765] (by decide +kernel)
set_option maxRecDepth 20000 in
theorem hin8 : ∀ w ∈ u_ws RX5 TX5 2, w ∈ tables_1 := mem_pick [873, 875] (by decide +kernel)
set_option maxRecDepth 20000 in
theorem hin9 : ∀ w ∈ u_ws RX6 TX6 3, w ∈ tables_1 := mem_pick [855, 857, 859] (by decide +kernel)
set_option maxRecDepth 20000 in
theorem hin10 : ∀ w ∈ u_ws RX7 TX7 8, w ∈ tables_1 := mem_pick [799, 801, 803, 805, 807, 809, 811, 813] (by decide +kernel)
set_option maxRecDepth 20000 in
theorem hin11 : ∀ w ∈ u_ws RX8 TX8 9, w ∈ tables_1 := mem_pick [889, 891, 893, 895, 897, 899, 901, 903, 905] (by decide +kernel)
set_option maxRecDepth 20000 in
theorem nest_in : ∀ w ∈ nestW, w ∈ tables_1 := mem_pick [796, 791, 775, 784, 780, 776, 781, 786, 793, 779, 774, 792, 797, 785, 777, 798, 782, 794, 834, 836, 854, 868, 870, 733, 403, 863] (by decide +kernel)
set_option maxRecDepth 20000 in
theorem thr_in : ∀ w ∈ thrB, w ∈ tables_1 := mem_pick [38, 40, 42, 36, 200, 523, 444] (by decide +kernel)
set_option maxRecDepth 20000 in
theorem str_in : ∀ w ∈ strQ.map (fun q => Cond.stringRef RX8 q.1 q.2), w ∈ tables_1 := mem_pick [708, 709, 78, 912, 913, 207, 530, 564, 614, 631, 697, 451, 583, 608, 609] (by decide +kernel)
set_option maxRecDepth 20000 in
theorem str_ex : ∀ w ∈ strQ.map (fun q => Cond.exactly (.string RX8 q.1) "java/lang/String"), w ∈ flatC (Jvm.Cond.and given_1 narrow_1) := mem_pick [383, 421, 11, 457, 502, 44, 106, 135, 266, 304, 348, 70, 169, 201, 231] (by decide +kernel)
set_option maxHeartbeats 4000000 in
set_option maxRecDepth 100000 in
theorem start_K {s : State} {b : Nat} (htb : ∀ w ∈ tables_1, w.before #[Value.ref b] s = true) : ∃ (dC : Nat → ClassId) (dI : Nat → Nat → Nat) (tC : Nat → ClassId), ∀ (zf : Nat → Nat), va_K ((dC, dI), tC, zf).1 vwCl (fTys ((dC, dI), tC, zf)) s := by
  have hc : ∀ k : Nat, ∃ x : ClassId × (Nat → Nat), ∀ q, vwCl[k]? = some q → u_Kn s q.1 q.2.1 q.2.2 x.1 x.2 := by
    intro k
    match k with
    | 0 =>
      obtain ⟨c, i, h⟩ := u_known (C := RJx4a65c) (T := TJx4a65c) (N := 3) (n := 3) htb hin0 (htb _ (List.mem_of_getElem? (i := 235) (by decide +kernel)))
      exact ⟨(c, i), fun q hq => by
        have e := Option.some.inj (show some ((RJx4a65c, TJx4a65c, 3) : vw_C) = some q from hq)
        subst e; exact h⟩
    | 1 =>
      obtain ⟨c, i, h⟩ := u_known (C := RJx4a65c) (T := TJx4a65c) (N := 3) (n := 3) htb hin1 (htb _ (List.mem_of_getElem? (i := 235) (by decide +kernel)))
      exact ⟨(c, i), fun q hq => by
        have e := Option.some.inj (show some ((RJx4a65c, TJx4a65c, 3) : vw_C) = some q from hq)
        subst e; exact h⟩
    | 2 =>
      obtain ⟨c, i, h⟩ := u_known (C := RJx4a65c) (T := TJx4a65c) (N := 3) (n := 3) htb hin2 (htb _ (List.mem_of_getElem? (i := 235) (by decide +kernel)))
      exact ⟨(c, i), fun q hq => by
        have e := Option.some.inj (show some ((RJx4a65c, TJx4a65c, 3) : vw_C) = some q from hq)
        subst e; exact h⟩
    | 3 =>
      obtain ⟨c, i, h⟩ := u_known (C := RX0) (T := TX0) (N := 1) (n := 1) htb hin3 (htb _ (List.mem_of_getElem? (i := 817) (by decide +kernel)))
      exact ⟨(c, i), fun q hq => by
        have e := Option.some.inj (show some ((RX0, TX0, 1) : vw_C) = some q from hq)
        subst e; exact h⟩
    | 4 =>
      obtain ⟨c, i, h⟩ := u_known (C := RX1) (T := TX1) (N := 4) (n := 4) htb hin4 (htb _ (List.mem_of_getElem? (i := 221) (by decide +kernel)))
      exact ⟨(c, i), fun q hq => by
        have e := Option.some.inj (show some ((RX1, TX1, 4) : vw_C) = some q from hq)
        subst e; exact h⟩
    | 5 =>
      obtain ⟨c, i, h⟩ := u_known (C := RX2) (T := TX2) (N := 2) (n := 2) htb hin5 (htb _ (List.mem_of_getElem? (i := 402) (by decide +kernel)))
      exact ⟨(c, i), fun q hq => by
        have e := Option.some.inj (show some ((RX2, TX2, 2) : vw_C) = some q from hq)
        subst e; exact h⟩
    | 6 =>
      obtain ⟨c, i, h⟩ := u_known (C := RX3) (T := TX3) (N := 1) (n := 1) htb hin6 (htb _ (List.mem_of_getElem? (i := 110) (by decide +kernel)))
      exact ⟨(c, i), fun q hq => by
        have e := Option.some.inj (show some ((RX3, TX3, 1) : vw_C) = some q from hq)
        subst e; exact h⟩
    | 7 =>
      obtain ⟨c, i, h⟩ := u_known (C := RX4) (T := TX4) (N := 2) (n := 2) htb hin7 (htb _ (List.mem_of_getElem? (i := 732) (by decide +kernel)))
      exact ⟨(c, i), fun q hq => by
        have e := Option.some.inj (show some ((RX4, TX4, 2) : vw_C) = some q from hq)
        subst e; exact h⟩
    | 8 =>
      obtain ⟨c, i, h⟩ := u_known (C := RX5) (T := TX5) (N := 2) (n := 2) htb hin8 (htb _ (List.mem_of_getElem? (i := 658) (by decide +kernel)))
      exact ⟨(c, i), fun q hq => by
        have e := Option.some.inj (show some ((RX5, TX5, 2) : vw_C) = some q from hq)
        subst e; exact h⟩
    | 9 =>
      obtain ⟨c, i, h⟩ := u_known (C := RX6) (T := TX6) (N := 3) (n := 3) htb hin9 (htb _ (List.mem_of_getElem? (i := 496) (by decide +kernel)))
      exact ⟨(c, i), fun q hq => by
        have e := Option.some.inj (show some ((RX6, TX6, 3) : vw_C) = some q from hq)
        subst e; exact h⟩
    | 10 =>
      obtain ⟨c, i, h⟩ := u_known (C := RX7) (T := TX7) (N := 8) (n := 8) htb hin10 (htb _ (List.mem_of_getElem? (i := 726) (by decide +kernel)))
      exact ⟨(c, i), fun q hq => by
        have e := Option.some.inj (show some ((RX7, TX7, 8) : vw_C) = some q from hq)
        subst e; exact h⟩
    | 11 =>
      obtain ⟨c, i, h⟩ := u_known (C := RX8) (T := TX8) (N := 9) (n := 9) htb hin11 (htb _ (List.mem_of_getElem? (i := 440) (by decide +kernel)))
      exact ⟨(c, i), fun q hq => by
        have e := Option.some.inj (show some ((RX8, TX8, 9) : vw_C) = some q from hq)
        subst e; exact h⟩
    | k + 12 => exact ⟨(0, fun _ => 0), fun q hq => by
        have h1 := (List.getElem?_eq_some_iff.mp hq).1
        have h2 : vwCl.length = 12 := rfl
        omega⟩
  obtain ⟨dd, hd⟩ := Classical.axiomOfChoice hc
  obtain ⟨c0, k0, p0, a1, a2, a3⟩ := Cond.arrayClass_spec (htb (.arrayClass .byte) (List.mem_of_getElem? (i := 104) (by decide +kernel)))
  obtain ⟨c1, k1, p1, b1, b2, b3⟩ := Cond.arrayClass_spec (htb (.arrayClass .int) (List.mem_of_getElem? (i := 414) (by decide +kernel)))
  obtain ⟨p2, c2, k2, e1, e2, e3, e4, e5⟩ := Cond.arrayOver_spec (htb (.arrayOver (.object "java/lang/Object")) (List.mem_of_getElem? (i := 280) (by decide +kernel)))
  refine ⟨fun k => (dd k).1, fun k => (dd k).2, fun k => if k = 0 then c0 else if k = 1 then c1 else if k = 2 then c2 else c1, fun zf => ⟨fun k q hq => hd k q hq, fun k q hq => ?_⟩⟩
  match k, hq with
  | 0, hq =>
    have e := Option.some.inj (show some ((c0, FieldType.byte) : ClassId × FieldType) = some q from hq)
    subst e
    exact ⟨fun n z => ⟨(fun k h => by cases h), k0, a2, p0, a3⟩, a1⟩
  | 1, hq =>
    have e := Option.some.inj (show some ((c1, FieldType.int) : ClassId × FieldType) = some q from hq)
    subst e
    exact ⟨fun n z => ⟨(fun k h => by cases h), k1, b2, p1, b3⟩, b1⟩
  | 2, hq =>
    have e := Option.some.inj (show some ((c2, FieldType.object "java/lang/Object") : ClassId × FieldType) = some q from hq)
    subst e
    exact ⟨fun n z => ⟨(fun k h => by cases h), k2, e3, p2, e4⟩, k2, p2, e3, e4, e1, e5⟩
  | 3, hq =>
    have e := Option.some.inj (show some ((c1, FieldType.int) : ClassId × FieldType) = some q from hq)
    subst e
    exact ⟨fun n z => ⟨(fun k h => by cases h), k1, b2, p1, b3⟩, b1⟩
  | k + 4, hq =>
    have h1 := (List.getElem?_eq_some_iff.mp hq).1
    have h2 : (fTys (((fun k => (dd k).1), (fun k => (dd k).2)), (fun k => if k = 0 then c0 else if k = 1 then c1 else if k = 2 then c2 else c1), zf)).length = 4 := rfl
    omega
set_option maxHeartbeats 4000000 in
set_option maxRecDepth 100000 in
theorem start_strings {s : State} {b : Nat} (htb : ∀ w ∈ tables_1, w.before #[Value.ref b] s = true) (hfl : ∀ w ∈ flatC (Jvm.Cond.and given_1 narrow_1), w.before #[Value.ref b] s = true) : ∃ sa : Nat → Nat, ∀ q ∈ strQ, vk_R RX8 q.1 q.2 (sa q.1) s := by
  refine ⟨fun k => match (Term.string RX8 k).eval #[Value.ref b] s none [] s with | some (.ref a) => a | _ => 0, fun q hq => ?_⟩
  have h1 := htb _ (str_in _ (List.mem_map.mpr ⟨q, hq, rfl⟩))
  have h2 := hfl _ (str_ex _ (List.mem_map.mpr ⟨q, hq, rfl⟩))
  obtain ⟨a, c, cell, k, q1, -⟩ := Cond.exactly_spec (args := #[Value.ref b]) (first := s) (o := none) (s := s) (idx := []) (t := .string RX8 q.1) (cls := "java/lang/String") h2
  have e : (match (Term.string RX8 q.1).eval #[Value.ref b] s none [] s with | some (.ref a) => a | _ => 0) = a := by rw [q1]
  show vk_R RX8 q.1 q.2 (match (Term.string RX8 q.1).eval #[Value.ref b] s none [] s with | some (.ref a) => a | _ => 0) s
  rw [e]
  exact vk_R.of h1 q1
set_option maxHeartbeats 4000000 in
set_option maxRecDepth 100000 in
theorem whole_start {p : Program} {e : Env} {s : State} {m : MethodId} {below : List Frame} {meth : Method} {c : Code} (l : Launch) (hflags : l.flags = flags0) {b L : Nat} {xs : Nat → Int32} (hL : L ≤ 260) (C0 : lw_At p s m meth c b L xs) : W p l e room_1 s m #[Value.ref b] below meth c s.heap [] 0 0 (lw_Z below #[Value.ref b] s) (entryFrame m ([Value.ref b] : List Value).toArray 13) := by
  obtain ⟨hx, hb, hr, hml, hown, hts, hX, hbl, hlocks, hgv⟩ := id C0
  have htb : ∀ w ∈ tables_1, w.before #[Value.ref b] s = true := fun w h => hts w (List.mem_append_right _ h)
  have hfl : ∀ w ∈ flatC (Jvm.Cond.and given_1 narrow_1), w.before #[Value.ref b] s = true := flat_of_before _ hgv
  have hA : ∀ a : Nat, a < s.heap.size → ¬ (fun q : Nat => s.heap.size ≤ q) a := fun a h z => absurd h (Nat.not_lt.mpr z)
  have hlt : l.stackTraces = false := by
    unfold Launch.stackTraces
    rw [hflags]
    decide +kernel
  obtain ⟨dC, dI, tC, hK⟩ := start_K htb
  obtain ⟨sa, hs⟩ := start_strings htb hfl
  obtain ⟨mi, hmi⟩ := va_Mi.of (hfl (.isRef (.mirror "[Ljava/lang/Object;")) (List.mem_of_getElem? (i := 10) (by decide +kernel)))
  obtain ⟨zd, hz, hT⟩ := va_Tof (args := #[Value.ref b]) (s := s) (tm := Jvm.Term.static "java/util/ArrayList" "DEFAULTCAPACITY_EMPTY_ELEMENTDATA" "[Ljava/lang/Object;") (ty := .object "java/lang/Object") (N := 0) (f := fun _ => .null) (A := fun q : Nat => s.heap.size ≤ q) (by decide) (hfl _ (List.mem_of_getElem? (i := 7) (by decide +kernel))) (va_eqt (z := 0) (hfl _ (List.mem_of_getElem? (i := 9) (by decide +kernel)))) (fun j hj => absurd hj (Nat.not_lt_zero j)) hA
  have hZ0 : va_Z "java/util/ArrayList" "DEFAULTCAPACITY_EMPTY_ELEMENTDATA" "[Ljava/lang/Object;" (.ref zd) (fun q : Nat => s.heap.size ≤ q) s s.heap := va_Zof (args := #[Value.ref b]) (htb _ (List.mem_of_getElem? (i := 246) (by decide +kernel))) (htb _ (List.mem_of_getElem? (i := 6) (by decide +kernel))) hz hA
  have hFX : FX ((dC, dI), tC, gAd zd mi sa) s := ⟨va_Nw.of rfl (htb _ (List.mem_of_getElem? (i := 919) (by decide +kernel))), va_Nw.of rfl (htb _ (List.mem_of_getElem? (i := 920) (by decide +kernel))), va_Nw.of rfl (htb _ (List.mem_of_getElem? (i := 295) (by decide +kernel))), va_Nw.of rfl (htb _ (List.mem_of_getElem? (i := 125) (by decide +kernel))), hmi, va_AO.of (htb _ (List.mem_of_getElem? (i := 280) (by decide +kernel))), va_Dc.of (htb _ (List.mem_of_getElem? (i := 933) (by decide +kernel)))⟩
  have hFN : FN s := fun w hw => va_Nw.of (nestW_tab w hw) (htb w (nest_in w hw))
  have hFT : FT9 s := fun w hw => va_Nw.of (thrB_tab w hw) (htb w (thr_in w hw))
  have hU := vx_Zqof (args := #[Value.ref b]) (s := s) (C := Bundle.tN) (n := "UNASSIGNED_STACK") (d := Bundle.steD) (A := fun q : Nat => s.heap.size ≤ q) (htb _ (List.mem_of_getElem? (i := 63) (by decide +kernel))) (htb _ (List.mem_of_getElem? (i := 19) (by decide +kernel))) (hfl _ (List.mem_of_getElem? (i := 4) (by decide +kernel))) hA
  have hS := vx_Zqof (args := #[Value.ref b]) (s := s) (C := Bundle.tN) (n := "SUPPRESSED_SENTINEL") (d := Bundle.listD) (A := fun q : Nat => s.heap.size ≤ q) (htb _ (List.mem_of_getElem? (i := 65) (by decide +kernel))) (htb _ (List.mem_of_getElem? (i := 19) (by decide +kernel))) (hfl _ (List.mem_of_getElem? (i := 5) (by decide +kernel))) hA
  have hF : Fw ((dC, dI), tC, gAd zd mi sa) (fun q : Nat => s.heap.size ≤ q) (fun _ => none) s.heap := ⟨[], fun k q h => by simp at h, ⟨fun i j p q h => by simp at h, fun k q h => by simp at h⟩, fun a e => ⟨fun h => by simp at h, fun h => by
    obtain ⟨e', h1, -⟩ := h
    cases h1⟩⟩
  exact law_walk hlt C0 (G := ((dC, dI), tC, gAd zd mi sa)) ⟨hK _, hFX⟩ ⟨hZ0, hFN, hT, hT.out⟩ ⟨fun q hq => by
    show vk_R RX8 q.1 q.2 (gAd zd mi sa (100 + q.1)) s
    rw [gAd_s]; exact hs q hq, hFT, hU, hS⟩ (zd := zd) rfl hF (K := True) (Z2.s_L_law hL (by decide) (by decide) trivial)
