section
variable {zd : Nat} {f f' : FT} {o o' : Z2.OW} {xo oo : Nat} {ad ad2 : Nat → Nat} {ca ia ra la ka ba : Nat} {T T2 U : Z2.Tr} {sv : Bool} {cu cu2 : Nat → Option Nat} {ky bd : Z2.Key} {w : Nat} {wk : Nat → Z2.Key} {wv : Nat → Int32} {n n' : Nat → Int32} {g g' : Nat → Nat → Int32} {c L bc bs : Nat} {xs : Nat → Int32} {y4 : Int32}
theorem Z2.MW.old {T3 : Tr} (M : MW n g T U sv cu ky bd w wk wv) (a : MT n' g' T3) (nn : ∀ k, k ≠ 0 → n' k = n k) (gg : ∀ k, k ≠ 12 → g' k = g k) (e : T3.c0 = T.c0 ∧ T3.c1 = T.c1 ∧ T3.c2 = T.c2 := by exact ⟨rfl, rfl, rfl⟩) : MW n' g' T3 U sv cu ky bd w wk wv := by
  obtain ⟨m1, ⟨t1, t2, t3⟩, m3, m4, m5, m6, m7, m8, m9, m10, m11⟩ := M
  obtain ⟨e1, e2, e3⟩ := e
  refine ⟨a, ⟨by rw [nn 6 (by decide), e1]; exact t1, by rw [nn 7 (by decide), e2]; exact t2, by rw [nn 8 (by decide), e3]; exact t3⟩, by rw [nn 23 (by decide)]; exact m3, fun h => (m4 h).same (nn _ (by decide)) (nn _ (by decide)) (nn _ (by decide)) (gg _ (by decide)) (gg _ (by decide)) (gg _ (by decide)) (gg _ (by decide)) (gg _ (by decide)) (gg _ (by decide)) (gg _ (by decide)), by rw [nn 1 (by decide)]; exact m5, fun i hi => by rw [gg 2 (by decide)]; exact m6 i hi, by rw [nn 3 (by decide)]; exact m7, fun i hi => by rw [gg 4 (by decide)]; exact m8 i hi, fun i hi => by rw [gg 18 (by decide)]; exact m9 i hi, ⟨fun i hi => by rw [gg 20 (by decide)]; exact m10.1 i hi, fun i hi j hj => by rw [gg 21 (by decide)]; exact m10.2.1 i hi j hj, fun i hi => by rw [gg 22 (by decide)]; exact m10.2.2 i hi⟩, by rw [nn 19 (by decide)]; exact m11⟩
theorem Z2.MW.queue {w2 : Nat} {wk2 : Nat → Key} {wv2 : Nat → Int32} (M : MW n g T U sv cu ky bd w wk wv) (a : WG g' w2 wk2 wv2) (gg : ∀ k, k ≠ 20 → k ≠ 21 → k ≠ 22 → g' k = g k) : MW (upd (upd n 19 (zI w2)) 0 0) g' T U sv cu ky bd w2 wk2 wv2 := by
  obtain ⟨m1, m2, m3, m4, m5, m6, m7, m8, m9, m10, m11⟩ := M
  have hg : ∀ k, k < 20 → g' k = g k := fun k h => gg k (by omega) (by omega) (by omega)
  have hg2 : ∀ k, 22 < k → g' k = g k := fun k h => gg k (by omega) (by omega) (by omega)
  exact ⟨m1.same rfl rfl rfl (hg _ (by decide)) (hg _ (by decide)) (hg _ (by decide)) (hg _ (by decide)) (hg _ (by decide)) (hg _ (by decide)) (hg _ (by decide)), m2, m3, fun h => (m4 h).same rfl rfl rfl (hg2 _ (by decide)) (hg2 _ (by decide)) (hg2 _ (by decide)) (hg2 _ (by decide)) (hg2 _ (by decide)) (hg2 _ (by decide)) (hg2 _ (by decide)), m5, fun i hi => by rw [hg 2 (by decide)]; exact m6 i hi, m7, fun i hi => by rw [hg 4 (by decide)]; exact m8 i hi, fun i hi => by rw [hg 18 (by decide)]; exact m9 i hi, a, rfl⟩
theorem Z2.MW.load {limit : Nat} (M : MW n g T U sv cu ky bd w wk wv) (a : MT n' g' (T.load w wk wv limit)) (b : CT n' T) (z : n' 19 = 0) (nn : ∀ k, k ≠ 0 → k ≠ 9 → k ≠ 13 → k ≠ 19 → n' k = n k) (gg : ∀ k, k < 10 ∨ 18 < k → g' k = g k) (cc : ∀ i, i < 4 → g' 18 i = -2) : MW n' g' (T.load w wk wv limit) U sv (fun _ => none) ky bd 0 wk wv := by
  obtain ⟨m1, m2, m3, m4, m5, m6, m7, m8, m9, m10, m11⟩ := M
  obtain ⟨t1, t2, t3⟩ := b
  obtain ⟨e1, e2, e3⟩ := Tr.load_c T w wk wv limit
  exact ⟨a, ⟨by rw [e1]; exact t1, by rw [e2]; exact t2, by rw [e3]; exact t3⟩, by rw [nn 23 (by decide) (by decide) (by decide) (by decide)]; exact m3, fun h => (m4 h).same (nn _ (by decide) (by decide) (by decide) (by decide)) (nn _ (by decide) (by decide) (by decide) (by decide)) (nn _ (by decide) (by decide) (by decide) (by decide)) (gg _ (by decide)) (gg _ (by decide)) (gg _ (by decide)) (gg _ (by decide)) (gg _ (by decide)) (gg _ (by decide)) (gg _ (by decide)), by rw [nn 1 (by decide) (by decide) (by decide) (by decide)]; exact m5, fun i hi => by rw [gg 2 (by decide)]; exact m6 i hi, by rw [nn 3 (by decide) (by decide) (by decide) (by decide)]; exact m7, fun i hi => by rw [gg 4 (by decide)]; exact m8 i hi, fun i hi => cc i hi, ⟨fun i hi => absurd hi (by omega), fun i hi => absurd hi (by omega), fun i hi => absurd hi (by omega)⟩, z⟩
theorem Z2.INV.old (V : INV c T U sv cu ky bd w wk) (v : Nat → Int32) : INV (c + 1) (Tr.mk T.cap T.n T.ks v T.h T.m T.E T.S T.c0 T.c1 T.c2) U sv cu ky bd w wk := by
  obtain ⟨v1, v2, v3, v4, v5, v6, v7, v8, v9, v10, v11⟩ := V.next
  exact ⟨⟨v1.cap, v1.n3, v1.vk, v1.srt, v1.h1, v1.m1, v1.mono, v1.last, v1.strict, v1.one, v1.lastT, v1.top, v1.svk, v1.ssrt, v1.sl, v1.sr⟩, v2.same rfl (fun _ _ => rfl) (fun _ _ _ => rfl), v3, v4, v5, v6, v7, v8, v9, v10, v11⟩
theorem Z2.INV.cap (V : INV c T U sv cu ky bd w wk) (k : Nat) (hk : 64 ≤ k ∧ k ≤ 200) : INV (c + 1) (Tr.mk k T.n T.ks T.vs T.h T.m T.E T.S T.c0 T.c1 T.c2) U sv cu ky bd w wk := by
  obtain ⟨v1, v2, v3, v4, v5, v6, v7, v8, v9, v10, v11⟩ := V.next
  exact ⟨⟨hk, v1.n3, v1.vk, v1.srt, v1.h1, v1.m1, v1.mono, v1.last, v1.strict, v1.one, v1.lastT, v1.top, v1.svk, v1.ssrt, v1.sl, v1.sr⟩, v2.same rfl (fun _ _ => rfl) (fun _ _ _ => rfl), v3, v4, v5, v6, v7, v8, v9, v10, v11⟩
theorem Z2.INV.inz (V : INV c T U sv cu ky bd w wk) (v : Int32) (hn : T.n < 300) (y : ¬ (T.less ky < T.n ∧ T.ks (T.less ky) = ky)) : INV (c + 1) (T.insert ky v) U sv (cuIns cu (T.less ky)) ky bd w wk := by
  obtain ⟨u1, u2, u3, u4, u5, -⟩ := id V
  obtain ⟨v1, v2, v3, v4, v5, v6, v7, v8, v9, v10, v11⟩ := V.next
  have hnew := u1.fresh y
  obtain ⟨a1, a2, a3, a4⟩ := Tr.insert_spec u1 u5 v hn hnew
  have en : (T.insert ky v).n = T.n + 1 := a2.n
  have ek : (T.insert ky v).ks = ins T.ks (T.less ky) ky := a2.ks
  have ll : T.less ky ≤ T.n := ff_le _ _
  refine ⟨a1, (u2.insert u1 u5 v hn hnew).wide (by omega), Or.inr ⟨?_, T.less ky, by omega, by rw [ek, ins_eq]⟩, fun i j hi e => ?_, v5, v6, v7, v8, v9, v10, v11⟩
  · rcases u3 with z | ⟨z, i, hi, e⟩
    · omega
    · exact absurd e (hnew i hi)
  · rw [en]; exact cuIns_le u4 i j hi e
theorem Z2.INV.queue (V : INV c T U sv cu ky bd w wk) (hw : w < 300) (h : 0 < w → klt (wk (w - 1)) ky) : INV (c + 1) T U sv cu ky bd (w + 1) (stt wk w ky) := by
  obtain ⟨-, -, -, -, -, -, -, -, u9, u10, -⟩ := id V
  obtain ⟨v1, v2, v3, v4, v5, v6, v7, v8, v9, v10, v11⟩ := V.next
  refine ⟨v1, v2, v3, v4, v5, v6, by omega, fun i hi => ?_, fun i j hij hj => ?_, Or.inr ⟨?_, by omega, by rw [Nat.add_sub_cancel, stt_same]⟩, v11⟩
  · by_cases e : i = w
    · rw [e, stt_same]; exact v5
    · rw [stt_ne _ _ e]; exact v8 i (by omega)
  · rw [stt_ne _ _ (show i ≠ w by omega)]
    by_cases e : j = w
    · rw [e, stt_same]
      have a := h (by omega)
      by_cases e2 : i = w - 1
      · rw [e2]; exact a
      · exact klt_trans (v9 i (w - 1) (by omega) (by omega)) a
    · rw [stt_ne _ _ e]; exact v9 i j hij (by omega)
  · rcases u10 with z | ⟨z, z2, z3⟩
    · omega
    · have a := h z2
      rw [z3] at a
      exact absurd a (klt_irrefl _)
theorem Z2.INV.load (V : INV c T U sv cu ky bd w wk) (limit : Nat) : INV (c + 1) (T.load w wk wv limit) U sv (fun _ => none) ky bd 0 wk := by
  obtain ⟨u1, u2, u3, u4, u5, u6, u7, u8, u9, u10, u11⟩ := id V
  obtain ⟨v1, v2, v3, v4, v5, v6, v7, v8, v9, v10, v11⟩ := V.next
  obtain ⟨a1, a2, a3, a4, a5, a6, a7⟩ := Tr.load_spec (T := T) (wv := wv) (limit := limit) u1.cap u7 u8 u9
  have hw : 2 * w ≤ c + 1 := by rcases u10 with z | z <;> omega
  refine ⟨a1, a2.wide ?_, Or.inl ?_, fun i j _ e => (by cases e), v5, v6, by omega, fun i hi => absurd hi (by omega), fun i j _ hj => absurd hj (by omega), Or.inl (by omega), v11⟩
  · rcases a3 with z | z <;> omega
  · rcases a3 with z | z <;> omega
end
