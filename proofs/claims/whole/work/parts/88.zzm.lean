/-! the class's face: setKey -/
theorem Z2.lushr_0 (w : Int64) : lushr w ((8 : Int32) * zI 0) = w := by
  have : w.toUInt64 >>> (((8 : Int32) * zI 0).toInt64.toUInt64 &&& Int64.toUInt64 63) = w.toUInt64 := by
    rw [← UInt64.toNat_inj, UInt64.toNat_shiftRight]; rfl
  show (w.toUInt64 >>> (((8 : Int32) * zI 0).toInt64.toUInt64 &&& Int64.toUInt64 63)).toInt64 = w
  rw [this]; rfl
theorem Z2.lushr_go (w : Int64) (s1 s2 s3 : UInt64) (h : s3.toNat % 64 = s1.toNat % 64 + s2.toNat % 64) : (((w.toUInt64 >>> s1).toInt64.toUInt64) >>> s2).toInt64 = (w.toUInt64 >>> s3).toInt64 := by
  have : (w.toUInt64 >>> s1) >>> s2 = w.toUInt64 >>> s3 := by
    rw [← UInt64.toNat_inj, UInt64.toNat_shiftRight, UInt64.toNat_shiftRight, UInt64.toNat_shiftRight, h, Nat.shiftRight_add]
  show ((w.toUInt64 >>> s1) >>> s2).toInt64 = _
  rw [this]
theorem Z2.lushr_step (w : Int64) : ∀ k, k < 7 → lushr (lushr w ((8 : Int32) * zI k)) 8 = lushr w ((8 : Int32) * zI (k + 1)) := by
  intro k hk
  rcases k with _ | _ | _ | _ | _ | _ | _ | k
  · exact lushr_go w _ _ _ rfl
  · exact lushr_go w _ _ _ rfl
  · exact lushr_go w _ _ _ rfl
  · exact lushr_go w _ _ _ rfl
  · exact lushr_go w _ _ _ rfl
  · exact lushr_go w _ _ _ rfl
  · exact lushr_go w _ _ _ rfl
  · omega
theorem Z2.kbyte_rng (w : Int64) (k : Nat) : (0 : Int32) ≤ kbyte w k ∧ kbyte w k ≤ 127 := by
  unfold kbyte
  generalize lushr w ((8 : Int32) * zI k) = x
  have h1 : (x.toBitVec &&& (127 : Int64).toBitVec).toNat ≤ 127 := by
    rw [BitVec.toNat_and]; exact Nat.and_le_right
  have e : (x &&& 127).toInt = ((x.toBitVec &&& (127 : Int64).toBitVec).toNat : Int) := BitVec.toInt_eq_toNat_of_lt (x := x.toBitVec &&& (127 : Int64).toBitVec) (by omega)
  have e2 : (Int64.toInt32 (x &&& 127)).toInt = ((x.toBitVec &&& (127 : Int64).toBitVec).toNat : Int) := by
    rw [Int64.toInt_toInt32, e, Int.bmod_eq_of_le (by omega) (by omega)]
  have z0 : (0 : Int32).toInt = 0 := rfl
  have z1 : (127 : Int32).toInt = 127 := rfl
  rw [Int32.le_iff_toInt_le, Int32.le_iff_toInt_le, e2, z0, z1]
  omega
theorem Z2.kyOf_VK (w : Int64) {c : Nat} (hc : c ≤ 8) : VK (kyOf w c) := by
  refine ⟨by rw [kyOf_len]; omega, fun b hb => ?_⟩
  unfold kyOf at hb
  rw [List.mem_map] at hb
  obtain ⟨j, -, rfl⟩ := hb
  exact kbyte_rng w _
theorem Z2.cnt_rev (p : Nat → Bool) (c : Nat) : ∀ k, k ≤ c → cnt (fun j => p (c - 1 - j)) k + cnt p (c - k) = cnt p c := by
  intro k
  induction k with
  | zero => intro _; show 0 + cnt p c = cnt p c; omega
  | succ k ih =>
    intro hk
    have := ih (by omega)
    rw [show c - k = (c - (k + 1)) + 1 by omega] at this
    have this : cnt (fun j => p (c - 1 - j)) k + (cnt p (c - (k + 1)) + (if p (c - (k + 1)) = true then 1 else 0)) = cnt p c := this
    show cnt (fun j => p (c - 1 - j)) k + (if p (c - 1 - k) = true then 1 else 0) + cnt p (c - (k + 1)) = cnt p c
    rw [show c - 1 - k = c - (k + 1) by omega]; omega
section
variable {zd : Nat} {f f' : FT} {o o' : Z2.OW} {xo oo : Nat} {ad ad2 : Nat → Nat} {ca ia ra la ka ba : Nat} {T U : Z2.Tr} {sv : Bool} {cu cu2 : Nat → Option Nat} {ky bd : Z2.Key} {w : Nat} {wk : Nat → Z2.Key} {wv : Nat → Int32} {mc ms : Nat}
theorem Z2.s_X8_setKey (W : CX zd f o xo oo ad ad2 ca ia ra la ka ba T U sv cu ky bd w wk wv) (b1 : 2 ≤ mc) (b2 : 13 ≤ ms) {lw : Int64} {x : Int32} {K : Int32 → FT → Prop} {KX : String → FT → Prop} (h1 : (∀ c, c ≤ 8 → x ≠ zI c) → KX "java/lang/IllegalArgumentException" f) (h0 : ∀ c, c ≤ 8 → x = zI c → ∀ f' o' ka', CX zd f' o' xo oo ad ad2 ca ia ra la ka' ba T U sv cu (kyOf lw c) bd w wk wv → K (zI (cnt (fun j => dec (kbyte lw (c - 1 - j) = 0)) c)) f') : wp_X8_setKey xo lw x f mc ms K KX := by
  refine ⟨fun z => ⟨by omega, by omega, h1 (fun i hi e => ?_)⟩, fun z => ⟨fun y => ?_, fun y => ⟨by omega, by omega, h1 (fun i hi e => y ?_)⟩⟩⟩
  · rw [e] at z; exact absurd z (zI_neg (by omega))
  · obtain ⟨c, hc, e⟩ := asZ (N := 8) (by decide) (Int32.not_lt.mp z) y
    replace h0 := h0 c hc e
    subst e
    refine nA_g (by omega) (by omega) (by omega) (fun q f1 hq e1 n1 => ?_)
    rintro v rfl
    refine loopW_of (fun s => ∃ k u fk gg bc bs, s = (zI (cnt (fun k => dec (kbyte lw k = 0)) k), u, zI (c - k) - 1, fk, bc, bs) ∧ k ≤ c ∧ (k < c → u = lushr lw ((8 : Int32) * zI k)) ∧ fk q = some (.inl (0, c, .inl gg)) ∧ (∀ b, b ≠ q → fk b = f b) ∧ (∀ j, c - k ≤ j → j < c → gg j = kbyte lw (c - 1 - j)) ∧ 1 ≤ bc ∧ 1 ≤ bs) (fun s => (s.2.2.1 + 1).toNatClampNeg) ?_ _ ⟨0, lw, f1, fun _ => 0, mc - 1, ms - c, rfl, Nat.zero_le _, fun _ => (lushr_0 lw).symm, e1, n1, fun j h1 h2 => by omega, by omega, by omega⟩
    rintro C s ⟨k, u, fk, gg, bc, bs, rfl, hk, hu, g1, g2, g3, g4, g5⟩ hC
    refine ⟨fun y => ?_, fun y => ?_⟩
    · have ek : k = c := by
        rcases Nat.lt_or_ge k c with g | g
        · rw [show zI (c - k) - 1 = zI (c - k - 1) from zI_sub (show 1 ≤ c - k by omega)] at y
          exact absurd y (zI_neg (by omega))
        · omega
      subst ek
      refine nO_g g4 g5 (fun q2 f2 hq2 e2 n2 => ?_)
      have qq : q2 ≠ q := fun e => by rw [e, g1] at hq2; cases hq2
      refine pV_g e2 (by simp) (fun f3 e3 n3 => ?_)
      have old : ∀ a, f a ≠ none → a ≠ q ∧ a ≠ q2 := fun a ha => by
        have a1 : a ≠ q := fun e => ha (by rw [e]; exact hq)
        exact ⟨a1, fun e => ha (by rw [← g2 a a1, e]; exact hq2)⟩
      have F : Fr (fun _ => False) f o f3 (oup (oup o q none) q2 none) := fun a ha => by
        obtain ⟨a1, a2⟩ := old a ha
        have e : f3 a = f a := by rw [n3 a a2, n2 a a2, g2 a a1]
        exact ⟨by rw [e]; exact ha, by rw [oup_ne _ _ a2, oup_ne _ _ a1], fun _ => e⟩
      have HK : KY f3 (oup (oup o q none) q2 none) q2 (kyOf lw k) := by
        refine ⟨q, gg, e3, ?_, fun i hi => ?_, oup_self _ _ _, ?_, kyOf_VK lw hc⟩
        · rw [n3 q (Ne.symm qq), n2 q (Ne.symm qq), kyOf_len]; exact g1
        · rw [kyOf_len] at hi
          rw [kyOf_get lw k hi]; exact g3 i (by omega) hi
        · rw [oup_ne _ _ (Ne.symm qq), oup_self]
      have W1 := W.fr F (fun q _ h => h)
      refine pV_g W1.1 (by simp) (fun f4 e4 n4 => ?_)
      have W2 := W1.obj (sv2 := sv) e4 n4 HK W1.2.2.2.2.2.2.2.2.2.1
      have := h0 f4 _ q2 W2
      have er := cnt_rev (fun j => dec (kbyte lw j = 0)) k k (Nat.le_refl _)
      rw [Nat.sub_self] at er
      have er : cnt (fun j => dec (kbyte lw (k - 1 - j) = 0)) k + 0 = cnt (fun j => dec (kbyte lw j = 0)) k := er
      rw [Nat.add_zero] at er
      rw [er] at this
      exact this
    · have hkc : k < c := by
        rcases Nat.lt_or_ge k c with g | g
        · exact g
        · rw [show c - k = 0 by omega] at y; exact absurd (by decide) y
      rw [hu hkc, show zI (c - k) - 1 = zI (c - k - 1) from zI_sub (show 1 ≤ c - k by omega)]
      obtain ⟨r1, r2⟩ := kbyte_rng lw k
      have ev : vp_nar .byte (i2b (kbyte lw k)) = kbyte lw k := by
        show (i2b (kbyte lw k)).toInt8.toInt32 = kbyte lw k
        unfold i2b; rw [byte_keep r1 r2, byte_keep r1 r2]
      have ev2 : vp_nar .byte (i2b (Int64.toInt32 ((lushr lw ((8 : Int32) * zI k)) &&& (127 : Int64)))) = kbyte lw k := ev
      refine ⟨c, gg, g1, in_i (by omega) (by omega), ?_⟩
      rintro f2 rfl
      rw [zI_clamp (by omega), ev2]
      have e2 : fup fk q (.inl (0, c, .inl (upd gg (c - k - 1) (kbyte lw k)))) q = some (.inl (0, c, .inl (upd gg (c - k - 1) (kbyte lw k)))) := fup_self _ _ _
      refine ⟨c, _, e2, in_i (by omega) (by omega), ?_⟩
      rintro v rfl
      rw [zI_clamp (by omega), upd_same]
      have nx : ∀ (d : Nat) (z : Int32), z = zI (cnt (fun k => dec (kbyte lw k = 0)) k + d) → d = (if dec (kbyte lw k = 0) = true then 1 else 0) → wp_X8_setKey_65 xo q z (lushr lw ((8 : Int32) * zI k)) (zI (c - k - 1)) (fup fk q (.inl (0, c, .inl (upd gg (c - k - 1) (kbyte lw k))))) bc bs K KX C := fun d z hz hd => by
        rintro v rfl u2 rfl
        have ec : zI (c - k - 1) + (-1) = zI (c - (k + 1)) - 1 := by
          rw [show c - k - 1 = c - (k + 1) by omega, Int32.sub_eq_add_neg]
        rw [ec]
        refine hC _ ⟨k + 1, _, _, _, bc, bs, by rw [hz, hd]; rfl, by omega, fun h => lushr_step lw k (by omega), e2, fun b hb => by rw [fup_ne _ _ hb]; exact g2 b hb, fun j j1 j2 => ?_, g4, g5⟩ ?_
        · by_cases x : j = c - k - 1
          · rw [x, upd_same, show c - 1 - (c - k - 1) = k by omega]
          · rw [upd_ne _ _ x]; exact g3 j (by omega) j2
        · show (zI (c - (k + 1)) - 1 + 1).toNatClampNeg < (zI (c - k) - 1 + 1).toNatClampNeg
          rw [Int32.sub_add_cancel, Int32.sub_add_cancel, zI_clamp (by omega), zI_clamp (by omega)]; omega
      refine ⟨fun y => nx 0 _ rfl ?_, fun y => ?_⟩
      · have y : ¬ kbyte lw k = 0 := y
        rw [if_neg (fun v => y ((dec_iff _).mp v))]
      · have y : kbyte lw k = 0 := y
        rintro v rfl
        exact nx 1 _ (zI_add _ 1) (by rw [if_pos ((dec_iff _).mpr y)])
  · rw [e, show (8 : Int32) = zI 8 from rfl, zI_le (by omega) (by omega)]; exact hi
end
