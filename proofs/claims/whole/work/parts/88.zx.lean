/-! the reference: load -/
section
variable {n : Nat → Int32} {g : Nat → Nat → Int32} {T : Z2.Tr}
theorem Z2.s9_leafSizeG {c0 : Nat} {ks : Nat → Key} (hsz : ∀ i, i < c0 → g 10 i = zI (ks i).length) (hkb : ∀ i, i < c0 → KA g 11 (12 * i) (ks i)) (hj : ∀ i, i < 400 → ∃ q, q ≤ 12 ∧ g 16 i = zI q) (hv : ∀ i, i < c0 → VK (ks i)) (hn : c0 ≤ 300) {a c : Nat} (hc : a + c ≤ c0) {K : Int32 → Prop} (hK : K (zI (8 + cbi 7 ks c a []))) : wp_X9_leafSize (zI a) (zI c) n g K := by
  have M : MT (fun k => if k = 9 then zI c0 else 0) g (Tr.mk 0 c0 ks (fun i => g 12 i) 0 (fun _ => 0) (fun _ _ => 0) (fun _ => []) 0 0 0) :=
    MTf.mk rfl rfl rfl hsz hkb (fun _ _ => rfl) (fun t ht => absurd ht (Nat.not_lt_zero t)) (fun t ht => absurd ht (Nat.not_lt_zero t)) (fun i hi => absurd hi (Nat.not_lt_zero _)) (fun i hi => absurd hi (Nat.not_lt_zero _)) hj
  exact s9_leafSize M hv hn hc hK
/-- the tiers above the leaves -/
theorem Z2.s9_load181 {R : Tr} {limit : Nat} {K : Int32 → (Nat → Int32) → (Nat → Nat → Int32) → Prop} (M : MT n g T) (L : T.LM) (hm : T.m 0 ≤ 301) (hlim : limit < 10000) (hR : Tr.tiers limit (300 - T.h) T T.h = R) (hK : ∀ n' g', MT n' g' R → n' 0 = 0 → (∀ k, k ≠ 0 → k ≠ 13 → n' k = n k) → (∀ k, k ≠ 14 → k ≠ 15 → g' k = g k) → K (zI (sumTo R.m R.h)) n' g') : ∃ q, loopW (wp_X9_load_181 (zI limit) K) q (n, g) := by
  refine loopW_of (fun s => ∃ n1 g1 U, s = (n1, g1) ∧ MT n1 g1 U ∧ U.LM ∧ U.m 0 ≤ 301 ∧ Tr.tiers limit (300 - U.h) U U.h = R ∧ (∀ k, k ≠ 13 → n1 k = n k) ∧ (∀ k, k ≠ 14 → k ≠ 15 → g1 k = g k)) (fun s => 20 - (s.1 13).toNatClampNeg) ?_ _ ⟨n, g, T, rfl, M, L, hm, hR, fun _ _ => rfl, fun _ _ _ => rfl⟩
  rintro C s ⟨n1, g1, U, rfl, M1, L1, hm1, hR1, p1, p2⟩ hC
  have h10 := L1.h10 hm1
  have h1 := L1.h1
  have hmt := L1.m_le0 (t := U.h - 1) (by omega)
  have hm0 := L1.m1 (U.h - 1) (by omega)
  have e13 : n1 13 = zI U.h := M1.ch
  have e14 : g1 14 (U.h - 1) = zI (U.m (U.h - 1)) := M1.m _ (by omega)
  show vp_in (n1 13 - 1) (mlen 14) ∧ _
  rw [e13, show zI U.h - 1 = zI (U.h - 1) from zI_sub h1]
  refine rd (show U.h - 1 < 12 by omega) (by decide) ?_
  rw [e14]
  have ek : 300 - U.h = (299 - U.h) + 1 := by omega
  rw [ek] at hR1
  have hR1 : (if 1 < U.m (U.h - 1) then Tr.tiers limit (299 - U.h) (U.tier U.h (U.m (U.h - 1)) 2 limit) (U.h + 1) else U) = R := hR1
  refine ⟨fun z => ?_, fun z => ?_⟩
  · rw [show (1 : Int32) = zI 1 from rfl, zI_le (by omega) (by omega)] at z
    rw [if_neg (by omega)] at hR1
    subst hR1
    refine s9_pages M1 (by omega) ?_
    rintro n2 rfl
    exact hK _ _ (MTf.mk M1.cap M1.cn M1.ch M1.sz M1.kb M1.vs M1.m M1.pt M1.ss M1.sb M1.jk) rfl (fun k a b => by unfold upd; rw [if_neg a]; exact p1 k b) p2
  · rw [show (1 : Int32) = zI 1 from rfl, zI_le (by omega) (by omega)] at z
    rw [if_pos (by omega)] at hR1
    refine rd (show U.h - 1 < 12 by omega) (by decide) ?_
    rw [e14]
    obtain ⟨LT, lt⟩ := Tr.tier_LM L1 limit (by omega)
    have e0 : (U.tier U.h (U.m (U.h - 1)) 2 limit).m 0 = U.m 0 := stt_ne U.m _ (by omega)
    have hvS : ∀ j, j + 1 < U.m (U.h - 1) → (U.S (sx U.E (U.h - 1) j)).length ≤ 12 := fun j hj => (L1.svk _ (L1.sx_in (by omega) hj)).1
    have psz : ∀ a b, U.psz U.h a b = 8 + 4 * (b - a) + cbi 3 (fun i => U.S (sx U.E (U.h - 1) i)) (b - 1 - a) a [] := fun a b => if_neg (by omega)
    refine s9_lays (t := U.h) (F := U.psz U.h) (e0 := U.E U.h) (by omega) (by omega) hlim (fun a b hab hb => ?_) (fun g2 q1 q2 q3 a c K2 hc1 hc2 hK2 => ⟨fun _ => ?_, fun y => ?_⟩) (fun y => by omega) (fun g2 c e hpos hs P => ?_)
    · rw [psz]
      have := cbi_le (f := 3) (k := fun i => U.S (sx U.E (U.h - 1) i)) (b - 1 - a) a [] (fun j j1 j2 => hvS j (by omega))
      omega
    · have M2 : MT n1 g2 U := by
        have f10 := q1 10 (by decide) (by decide)
        have f11 := q1 11 (by decide) (by decide)
        have f12 := q1 12 (by decide) (by decide)
        have f16 := q1 16 (by decide) (by decide)
        have f17 := q1 17 (by decide) (by decide)
        refine MT.mk2 M1.cap M1.cn M1.ch (fun i hi => by rw [f10]; exact M1.sz i hi) (fun i hi j hj => by rw [f11]; exact M1.kb i hi j hj) (fun i hi => by rw [f12]; exact M1.vs i hi) (fun t ht => by rw [q2 t (by omega)]; exact M1.m t ht) (fun t ht q hq => ?_) (M1.sp.same f16 f17)
        have a1 := L1.m_le0 (t := t) ht
        rw [q3 _ (by omega)]; exact M1.pt t ht q hq
      rw [show zI U.h - 1 = zI (U.h - 1) from zI_sub h1]
      refine s9_innerSizeL M2 L1 (by omega) (by omega) (by omega) hc1 hc2 ?_
      rw [psz, show a + c - a = c by omega, show a + c - 1 - a = c - 1 by omega] at hK2
      exact hK2
    · rw [show (0 : Int32) = zI 0 from rfl, zI_inj (by omega) (by omega)] at y; omega
    · rw [if_neg (show ¬ U.h = 0 by omega)] at hs
      obtain ⟨r1, r2, r3, r4⟩ := P
      rintro n2 rfl
      have eT : U.tier U.h (U.m (U.h - 1)) 2 limit = Tr.mk U.cap U.n U.ks U.vs (U.h + 1) (stt U.m U.h c) (stt U.E U.h e) U.S U.c0 U.c1 U.c2 := by
        unfold Tr.tier; rw [hs]
      have e13' : upd n1 13 (n1 13 + 1) 13 = zI (U.h + 1) := by rw [upd_same, e13]; exact zI_add U.h 1
      refine hC _ ⟨_, g2, U.tier U.h (U.m (U.h - 1)) 2 limit, rfl, ?_, LT, by rw [e0]; exact hm1, ?_, fun k hk => by unfold upd; rw [if_neg hk]; exact p1 k hk, fun k a b => by rw [r4 k a b]; exact p2 k a b⟩ ?_
      · rw [eT]
        have f10 := r4 10 (by decide) (by decide)
        have f11 := r4 11 (by decide) (by decide)
        have f12 := r4 12 (by decide) (by decide)
        have f16 := r4 16 (by decide) (by decide)
        have f17 := r4 17 (by decide) (by decide)
        refine MT.mk2 M1.cap M1.cn e13' (fun i hi => by rw [f10]; exact M1.sz i hi) (fun i hi j hj => by rw [f11]; exact M1.kb i hi j hj) (fun i hi => by rw [f12]; exact M1.vs i hi) (fun t ht => ?_) (fun t ht q hq => ?_) ?_
        · have ht : t < U.h + 1 := ht
          show g2 14 t = zI (stt U.m U.h c t)
          rw [r1]
          by_cases y : t = U.h
          · rw [y, upd_same, stt_same]
          · rw [upd_ne _ _ y, stt_ne _ _ y]; exact M1.m t (by omega)
        · have ht : t < U.h + 1 := ht
          have hq : q < stt U.m U.h c t := hq
          show g2 15 (400 * t + q) = zI (stt U.E U.h e t q - st (stt U.E U.h e t) q)
          by_cases y : t = U.h
          · subst y
            rw [stt_same] at hq
            rw [stt_same]; exact r2 q hq
          · rw [stt_ne _ _ y] at hq
            have a1 := L1.m_le0 (t := t) (by omega)
            rw [stt_ne _ _ y, r3 _ (by omega)]; exact M1.pt t (by omega) q hq
        · show SP g2 (stt U.m U.h c 0 - 1) U.S
          rw [stt_ne _ _ (by omega)]
          exact M1.sp.same f16 f17
      · show Tr.tiers limit (300 - (U.h + 1)) _ (U.h + 1) = R
        rw [show 300 - (U.h + 1) = 299 - U.h by omega]; exact hR1
      · show 20 - (upd n1 13 (n1 13 + 1) 13).toNatClampNeg < 20 - (n1 13).toNatClampNeg
        rw [e13', e13, zI_clamp (by omega), zI_clamp (by omega)]; omega
end
