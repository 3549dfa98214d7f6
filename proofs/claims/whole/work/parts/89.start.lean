/-! the law's start: what the tables and the premises say -/
theorem mem_pick {big ws : List Cond} (is : List Nat) (h : is.filterMap (fun i => big[i]?) = ws) : ∀ w ∈ ws, w ∈ big := by
  subst h
  intro w hw
  obtain ⟨i, -, e⟩ := List.mem_filterMap.mp hw
  exact List.mem_of_getElem? e
def gAd (zd mi : Nat) (sa : Nat → Nat) : Nat → Nat := fun k => if k = 0 then zd else if k = 1 then mi else sa (k - 100)
theorem gAd_s (zd mi : Nat) (sa : Nat → Nat) (k : Nat) : gAd zd mi sa (100 + k) = sa k := by
  unfold gAd
  rw [if_neg (by omega), if_neg (by omega), Nat.add_sub_cancel_left]
set_option maxRecDepth 20000 in
theorem hin0 : ∀ w ∈ u_ws RJ0 TJ0 4, w ∈ tables_1 := mem_pick [982, 984, 986, 988] (by decide +kernel)
set_option maxRecDepth 20000 in
theorem hin1 : ∀ w ∈ u_ws RJ4 TJ4 4, w ∈ tables_1 := mem_pick [791, 793, 795, 797] (by decide +kernel)
set_option maxRecDepth 20000 in
theorem hin2 : ∀ w ∈ u_ws RJx4a65c TJx4a65c 3, w ∈ tables_1 := mem_pick [78, 74, 76] (by decide +kernel)
set_option maxRecDepth 20000 in
theorem hin3 : ∀ w ∈ u_ws RX0 TX0 1, w ∈ tables_1 := mem_pick [282] (by decide +kernel)
set_option maxRecDepth 20000 in
theorem hin4 : ∀ w ∈ u_ws RX1 TX1 4, w ∈ tables_1 := mem_pick [297, 299, 301, 303] (by decide +kernel)
set_option maxRecDepth 20000 in
theorem hin5 : ∀ w ∈ u_ws RX2 TX2 2, w ∈ tables_1 := mem_pick [107, 109] (by decide +kernel)
set_option maxRecDepth 20000 in
theorem hin6 : ∀ w ∈ u_ws RX3 TX3 1, w ∈ tables_1 := mem_pick [88] (by decide +kernel)
set_option maxRecDepth 20000 in
theorem hin7 : ∀ w ∈ u_ws RX4 TX4 2, w ∈ tables_1 := mem_pick [94, 96] (by decide +kernel)
set_option maxRecDepth 20000 in
theorem hin8 : ∀ w ∈ u_ws RX5 TX5 2, w ∈ tables_1 := mem_pick [336, 338] (by decide +kernel)
set_option maxRecDepth 20000 in
theorem hin9 : ∀ w ∈ u_ws RX6 TX6 3, w ∈ tables_1 := mem_pick [316, 318, 320] (by decide +kernel)
set_option maxRecDepth 20000 in
theorem hin10 : ∀ w ∈ u_ws RX7 TX7 8, w ∈ tables_1 := mem_pick [255, 257, 259, 261, 263, 265, 267, 269] (by decide +kernel)
set_option maxRecDepth 20000 in
theorem hin11 : ∀ w ∈ u_ws RX8 TX8 9, w ∈ tables_1 := mem_pick [352, 354, 356, 358, 360, 362, 364, 366, 368] (by decide +kernel)
set_option maxRecDepth 20000 in
theorem hin12 : ∀ w ∈ u_ws RX9 TX9 34, w ∈ tables_1 := mem_pick [1338, 1340, 1342, 1344, 1346, 1348, 1350, 1352, 1354, 1356, 1358, 1360, 1362, 1364, 1366, 1368, 1370, 1372, 1374, 1376, 1378, 1380, 1382, 1384, 1386, 1388, 1390, 1392, 1394, 1396, 1398, 1400, 1402, 1404] (by decide +kernel)
set_option maxRecDepth 20000 in
theorem nest_in : ∀ w ∈ nestW, w ∈ tables_1 := mem_pick [252, 247, 231, 240, 236, 232, 237, 242, 249, 235, 230, 248, 253, 241, 233, 254, 238, 250, 294, 296, 315, 334, 330, 332, 51, 101, 325] (by decide +kernel)
set_option maxRecDepth 20000 in
theorem thr_in : ∀ w ∈ thrB, w ∈ tables_1 := mem_pick [575, 577, 579, 573, 641, 702, 1059] (by decide +kernel)
set_option maxRecDepth 20000 in
theorem str_in : ∀ w ∈ strQ.map (fun q => Cond.stringRef RX8 q.1 q.2), w ∈ tables_1 := mem_pick [613, 648, 676, 685, 709, 724, 725, 742, 1088, 1096, 1108, 1141, 1155, 1207, 1236, 1244, 1261, 1297, 1066, 1124, 1167, 1198, 1199] (by decide +kernel)
set_option maxRecDepth 20000 in
theorem str_ex : ∀ w ∈ strQ.map (fun q => Cond.exactly (.string RX8 q.1) "java/lang/String"), w ∈ flatC (Jvm.Cond.and given_1 narrow_1) := mem_pick [286, 313, 337, 364, 397, 429, 461, 485, 574, 600, 622, 673, 703, 812, 842, 875, 919, 954, 540, 648, 733, 760, 784] (by decide +kernel)
set_option maxRecDepth 20000 in
theorem nc_in : ∀ w ∈ ncP.map (fun q => Cond.not (.castable q.1 q.2)), w ∈ flatC (Jvm.Cond.and given_1 narrow_1) := mem_pick [248, 264, 280, 232, 265, 281, 233, 249, 282, 236, 252, 268] (by decide +kernel)
set_option maxHeartbeats 4000000 in
set_option maxRecDepth 100000 in
theorem start_K {s : State} {b : Nat} (htb : ∀ w ∈ tables_1, w.before #[Value.ref b] s = true) : ∃ (dC : Nat → ClassId) (dI : Nat → Nat → Nat) (tC : Nat → ClassId), ∀ (zf : Nat → Nat), va_K ((dC, dI), tC, zf).1 vwCl (fTys ((dC, dI), tC, zf)) s := by
  have hc : ∀ k : Nat, ∃ x : ClassId × (Nat → Nat), ∀ q, vwCl[k]? = some q → u_Kn s q.1 q.2.1 q.2.2 x.1 x.2 := by
    intro k
    match k with
    | 0 =>
      obtain ⟨c, i, h⟩ := u_known (C := RJ0) (T := TJ0) (N := 4) (n := 4) htb hin0 (htb _ (List.mem_of_getElem? (i := 928) (by decide +kernel)))
      exact ⟨(c, i), fun q hq => by
        have e := Option.some.inj (show some ((RJ0, TJ0, 4) : vw_C) = some q from hq)
        subst e; exact h⟩
    | 1 =>
      obtain ⟨c, i, h⟩ := u_known (C := RJ4) (T := TJ4) (N := 4) (n := 4) htb hin1 (htb _ (List.mem_of_getElem? (i := 770) (by decide +kernel)))
      exact ⟨(c, i), fun q hq => by
        have e := Option.some.inj (show some ((RJ4, TJ4, 4) : vw_C) = some q from hq)
        subst e; exact h⟩
    | 2 =>
      obtain ⟨c, i, h⟩ := u_known (C := RJx4a65c) (T := TJx4a65c) (N := 3) (n := 3) htb hin2 (htb _ (List.mem_of_getElem? (i := 56) (by decide +kernel)))
      exact ⟨(c, i), fun q hq => by
        have e := Option.some.inj (show some ((RJx4a65c, TJx4a65c, 3) : vw_C) = some q from hq)
        subst e; exact h⟩
    | 3 =>
      obtain ⟨c, i, h⟩ := u_known (C := RX0) (T := TX0) (N := 1) (n := 1) htb hin3 (htb _ (List.mem_of_getElem? (i := 273) (by decide +kernel)))
      exact ⟨(c, i), fun q hq => by
        have e := Option.some.inj (show some ((RX0, TX0, 1) : vw_C) = some q from hq)
        subst e; exact h⟩
    | 4 =>
      obtain ⟨c, i, h⟩ := u_known (C := RX1) (T := TX1) (N := 4) (n := 4) htb hin4 (htb _ (List.mem_of_getElem? (i := 286) (by decide +kernel)))
      exact ⟨(c, i), fun q hq => by
        have e := Option.some.inj (show some ((RX1, TX1, 4) : vw_C) = some q from hq)
        subst e; exact h⟩
    | 5 =>
      obtain ⟨c, i, h⟩ := u_known (C := RX2) (T := TX2) (N := 2) (n := 2) htb hin5 (htb _ (List.mem_of_getElem? (i := 100) (by decide +kernel)))
      exact ⟨(c, i), fun q hq => by
        have e := Option.some.inj (show some ((RX2, TX2, 2) : vw_C) = some q from hq)
        subst e; exact h⟩
    | 6 =>
      obtain ⟨c, i, h⟩ := u_known (C := RX3) (T := TX3) (N := 1) (n := 1) htb hin6 (htb _ (List.mem_of_getElem? (i := 82) (by decide +kernel)))
      exact ⟨(c, i), fun q hq => by
        have e := Option.some.inj (show some ((RX3, TX3, 1) : vw_C) = some q from hq)
        subst e; exact h⟩
    | 7 =>
      obtain ⟨c, i, h⟩ := u_known (C := RX4) (T := TX4) (N := 2) (n := 2) htb hin7 (htb _ (List.mem_of_getElem? (i := 50) (by decide +kernel)))
      exact ⟨(c, i), fun q hq => by
        have e := Option.some.inj (show some ((RX4, TX4, 2) : vw_C) = some q from hq)
        subst e; exact h⟩
    | 8 =>
      obtain ⟨c, i, h⟩ := u_known (C := RX5) (T := TX5) (N := 2) (n := 2) htb hin8 (htb _ (List.mem_of_getElem? (i := 324) (by decide +kernel)))
      exact ⟨(c, i), fun q hq => by
        have e := Option.some.inj (show some ((RX5, TX5, 2) : vw_C) = some q from hq)
        subst e; exact h⟩
    | 9 =>
      obtain ⟨c, i, h⟩ := u_known (C := RX6) (T := TX6) (N := 3) (n := 3) htb hin9 (htb _ (List.mem_of_getElem? (i := 307) (by decide +kernel)))
      exact ⟨(c, i), fun q hq => by
        have e := Option.some.inj (show some ((RX6, TX6, 3) : vw_C) = some q from hq)
        subst e; exact h⟩
    | 10 =>
      obtain ⟨c, i, h⟩ := u_known (C := RX7) (T := TX7) (N := 8) (n := 8) htb hin10 (htb _ (List.mem_of_getElem? (i := 44) (by decide +kernel)))
      exact ⟨(c, i), fun q hq => by
        have e := Option.some.inj (show some ((RX7, TX7, 8) : vw_C) = some q from hq)
        subst e; exact h⟩
    | 11 =>
      obtain ⟨c, i, h⟩ := u_known (C := RX8) (T := TX8) (N := 9) (n := 9) htb hin11 (htb _ (List.mem_of_getElem? (i := 36) (by decide +kernel)))
      exact ⟨(c, i), fun q hq => by
        have e := Option.some.inj (show some ((RX8, TX8, 9) : vw_C) = some q from hq)
        subst e; exact h⟩
    | 12 =>
      obtain ⟨c, i, h⟩ := u_known (C := RX9) (T := TX9) (N := 34) (n := 34) htb hin12 (htb _ (List.mem_of_getElem? (i := 1299) (by decide +kernel)))
      exact ⟨(c, i), fun q hq => by
        have e := Option.some.inj (show some ((RX9, TX9, 34) : vw_C) = some q from hq)
        subst e; exact h⟩
    | k + 13 => exact ⟨(0, fun _ => 0), fun q hq => by
        have h1 := (List.getElem?_eq_some_iff.mp hq).1
        have h2 : vwCl.length = 13 := rfl
        omega⟩
  obtain ⟨dd, hd⟩ := Classical.axiomOfChoice hc
  obtain ⟨c0, k0, p0, a1, a2, a3⟩ := Cond.arrayClass_spec (htb (.arrayClass .byte) (List.mem_of_getElem? (i := 91) (by decide +kernel)))
  obtain ⟨c1, k1, p1, b1, b2, b3⟩ := Cond.arrayClass_spec (htb (.arrayClass .int) (List.mem_of_getElem? (i := 112) (by decide +kernel)))
  obtain ⟨p2, c2, k2, e1, e2, e3, e4, e5⟩ := Cond.arrayOver_spec (htb (.arrayOver (.object "java/lang/Object")) (List.mem_of_getElem? (i := 179) (by decide +kernel)))
  obtain ⟨c3, k3, p3, d1, d2, d3⟩ := Cond.arrayClass_spec (htb (.arrayClass .long) (List.mem_of_getElem? (i := 1710) (by decide +kernel)))
  refine ⟨fun k => (dd k).1, fun k => (dd k).2, fun k => if k = 0 then c0 else if k = 1 then c1 else if k = 2 then c2 else c3, fun zf => ⟨fun k q hq => hd k q hq, fun k q hq => ?_⟩⟩
  match k, hq with
  | 0, hq =>
    have e := Option.some.inj (show some ((c0, FieldType.byte) : ClassId × FieldType) = some q from hq)
    subst e
    exact ⟨fun n z => ⟨(fun k h => by cases h), k0, a2, p0, a3⟩, a1⟩
  | 1, hq =>
    have e := Option.some.inj (show some ((c1, FieldType.int) : ClassId × FieldType) = some q from hq)
    subst e
    exact ⟨fun n z => ⟨(fun k h => by cases h), k1, b2, p1, b3⟩, b1⟩
  | 2, hq =>
    have e := Option.some.inj (show some ((c2, FieldType.object "java/lang/Object") : ClassId × FieldType) = some q from hq)
    subst e
    exact ⟨fun n z => ⟨(fun k h => by cases h), k2, e3, p2, e4⟩, k2, p2, e3, e4, e1, e5⟩
  | 3, hq =>
    have e := Option.some.inj (show some ((c3, FieldType.long) : ClassId × FieldType) = some q from hq)
    subst e
    exact ⟨fun n z => ⟨(fun k h => by cases h), k3, d2, p3, d3⟩, d1⟩
  | k + 4, hq =>
    have h1 := (List.getElem?_eq_some_iff.mp hq).1
    have h2 : (fTys (((fun k => (dd k).1), (fun k => (dd k).2)), (fun k => if k = 0 then c0 else if k = 1 then c1 else if k = 2 then c2 else c3), zf)).length = 4 := rfl
    omega
set_option maxHeartbeats 4000000 in
set_option maxRecDepth 100000 in
theorem start_strings {s : State} {b : Nat} (htb : ∀ w ∈ tables_1, w.before #[Value.ref b] s = true) (hfl : ∀ w ∈ flatC (Jvm.Cond.and given_1 narrow_1), w.before #[Value.ref b] s = true) : ∃ sa : Nat → Nat, ∀ q ∈ strQ, vk_R RX8 q.1 q.2 (sa q.1) s := by
  refine ⟨fun k => match (Term.string RX8 k).eval #[Value.ref b] s none [] s with | some (.ref a) => a | _ => 0, fun q hq => ?_⟩
  have h1 := htb _ (str_in _ (List.mem_map.mpr ⟨q, hq, rfl⟩))
  have h2 := hfl _ (str_ex _ (List.mem_map.mpr ⟨q, hq, rfl⟩))
  obtain ⟨a, c, cell, k, q1, -⟩ := Cond.exactly_spec (args := #[Value.ref b]) (first := s) (o := none) (s := s) (idx := []) (t := .string RX8 q.1) (cls := "java/lang/String") h2
  have e : (match (Term.string RX8 q.1).eval #[Value.ref b] s none [] s with | some (.ref a) => a | _ => 0) = a := by rw [q1]
  show vk_R RX8 q.1 q.2 (match (Term.string RX8 q.1).eval #[Value.ref b] s none [] s with | some (.ref a) => a | _ => 0) s
  rw [e]
  exact vk_R.of h1 q1
set_option maxHeartbeats 4000000 in
set_option maxRecDepth 100000 in
theorem whole_start {p : Program} {e : Env} {s : State} {m : MethodId} {below : List Frame} {meth : Method} {c : Code} (l : Launch) (hflags : l.flags = flags0) {b L : Nat} {xs : Nat → Int32} (hL : L ≤ 2048) (C0 : lw_At p s m meth c b L xs) : W p l e room_1 s m #[Value.ref b] below meth c s.heap [] 0 0 (lw_Z below #[Value.ref b] s) (entryFrame m ([Value.ref b] : List Value).toArray 7) := by
  obtain ⟨hx, hb, hr, hml, hown, hts, hX, hbl, hlocks, hgv⟩ := id C0
  have htb : ∀ w ∈ tables_1, w.before #[Value.ref b] s = true := fun w h => hts w (List.mem_append_right _ h)
  have hfl : ∀ w ∈ flatC (Jvm.Cond.and given_1 narrow_1), w.before #[Value.ref b] s = true := flat_of_before _ hgv
  have hA : ∀ a : Nat, a < s.heap.size → ¬ (fun q : Nat => s.heap.size ≤ q) a := fun a h z => absurd h (Nat.not_lt.mpr z)
  have hlt : l.stackTraces = false := by
    unfold Launch.stackTraces
    rw [hflags]
    decide +kernel
  obtain ⟨dC, dI, tC, hK⟩ := start_K htb
  obtain ⟨sa, hs⟩ := start_strings htb hfl
  obtain ⟨mi, hmi⟩ := va_Mi.of (hfl (.isRef (.mirror "[Ljava/lang/Object;")) (List.mem_of_getElem? (i := 285) (by decide +kernel)))
  obtain ⟨zd, hz, hT⟩ := va_Tof (args := #[Value.ref b]) (s := s) (tm := Jvm.Term.static "java/util/ArrayList" "DEFAULTCAPACITY_EMPTY_ELEMENTDATA" "[Ljava/lang/Object;") (ty := .object "java/lang/Object") (N := 0) (f := fun _ => .null) (A := fun q : Nat => s.heap.size ≤ q) (by decide) (hfl _ (List.mem_of_getElem? (i := 5) (by decide +kernel))) (va_eqt (z := 0) (hfl _ (List.mem_of_getElem? (i := 7) (by decide +kernel)))) (fun j hj => absurd hj (Nat.not_lt_zero j)) hA
  have hZ0 : va_Z "java/util/ArrayList" "DEFAULTCAPACITY_EMPTY_ELEMENTDATA" "[Ljava/lang/Object;" (.ref zd) (fun q : Nat => s.heap.size ≤ q) s s.heap := va_Zof (args := #[Value.ref b]) (htb _ (List.mem_of_getElem? (i := 68) (by decide +kernel))) (htb _ (List.mem_of_getElem? (i := 6) (by decide +kernel))) hz hA
  have hFX : FX ((dC, dI), tC, gAd zd mi sa) s := ⟨va_Nw.of rfl (htb _ (List.mem_of_getElem? (i := 1724) (by decide +kernel))), va_Nw.of rfl (htb _ (List.mem_of_getElem? (i := 1725) (by decide +kernel))), va_Nw.of rfl (htb _ (List.mem_of_getElem? (i := 227) (by decide +kernel))), va_Nw.of rfl (htb _ (List.mem_of_getElem? (i := 665) (by decide +kernel))), hmi, va_AO.of (htb _ (List.mem_of_getElem? (i := 179) (by decide +kernel))), va_Dc.of (htb _ (List.mem_of_getElem? (i := 1740) (by decide +kernel)))⟩
  have hFN : FN s := fun w hw => va_Nw.of (nestW_tab w hw) (htb w (nest_in w hw))
  have hFT : FT9 s := fun w hw => va_Nw.of (thrB_tab w hw) (htb w (thr_in w hw))
  have hU := vx_Zqof (args := #[Value.ref b]) (s := s) (C := Bundle.tN) (n := "UNASSIGNED_STACK") (d := Bundle.steD) (A := fun q : Nat => s.heap.size ≤ q) (htb _ (List.mem_of_getElem? (i := 598) (by decide +kernel))) (htb _ (List.mem_of_getElem? (i := 20) (by decide +kernel))) (hfl _ (List.mem_of_getElem? (i := 8) (by decide +kernel))) hA
  have hS := vx_Zqof (args := #[Value.ref b]) (s := s) (C := Bundle.tN) (n := "SUPPRESSED_SENTINEL") (d := Bundle.listD) (A := fun q : Nat => s.heap.size ≤ q) (htb _ (List.mem_of_getElem? (i := 600) (by decide +kernel))) (htb _ (List.mem_of_getElem? (i := 20) (by decide +kernel))) (hfl _ (List.mem_of_getElem? (i := 9) (by decide +kernel))) hA
  have hXN : FXN s := fun q hq => va_Nc.of (hfl _ (nc_in _ (List.mem_map.mpr ⟨q, hq, rfl⟩)))
  have hF : Fw ((dC, dI), tC, gAd zd mi sa) (fun q : Nat => s.heap.size ≤ q) (fun _ => none) s.heap := ⟨[], fun k q h => by simp at h, ⟨fun i j p q h => by simp at h, fun k q h => by simp at h⟩, fun a e => ⟨fun h => by simp at h, fun h => by
    obtain ⟨e', h1, -⟩ := h
    cases h1⟩⟩
  exact law_pre hlt C0 (G := ((dC, dI), tC, gAd zd mi sa)) ⟨hK _, hFX⟩ ⟨hZ0, hFN, hT, hT.out⟩ ⟨fun q hq => by
    show vk_R RX8 q.1 q.2 (gAd zd mi sa (100 + q.1)) s
    rw [gAd_s]; exact hs q hq, hFT, hU, hS⟩ hXN (zd := zd) rfl hF (Z2.s_law0 hL)
