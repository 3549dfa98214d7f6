theorem dX9_init_0 : decode cX9_init 0 = .ok (.aload_n 0, 1) := by decide +kernel
theorem dX9_init_1 : decode cX9_init 1 = .ok (.invokespecial 1, 3) := by decide +kernel
theorem dX9_init_4 : decode cX9_init 4 = .ok (.aload_n 0, 1) := by decide +kernel
theorem dX9_init_5 : decode cX9_init 5 = .ok (.bipush 12, 2) := by decide +kernel
theorem dX9_init_7 : decode cX9_init 7 = .ok (.newarray .int, 2) := by decide +kernel
theorem dX9_init_9 : decode cX9_init 9 = .ok (.putfield 7, 3) := by decide +kernel
theorem dX9_init_12 : decode cX9_init 12 = .ok (.aload_n 0, 1) := by decide +kernel
theorem dX9_init_13 : decode cX9_init 13 = .ok (.bipush 12, 2) := by decide +kernel
theorem dX9_init_15 : decode cX9_init 15 = .ok (.newarray .int, 2) := by decide +kernel
theorem dX9_init_17 : decode cX9_init 17 = .ok (.putfield 13, 3) := by decide +kernel
theorem dX9_init_20 : decode cX9_init 20 = .ok (.aload_n 0, 1) := by decide +kernel
theorem dX9_init_21 : decode cX9_init 21 = .ok (.bipush 96, 2) := by decide +kernel
theorem dX9_init_23 : decode cX9_init 23 = .ok (.putfield 16, 3) := by decide +kernel
theorem dX9_init_26 : decode cX9_init 26 = .ok (.aload_n 0, 1) := by decide +kernel
theorem dX9_init_27 : decode cX9_init 27 = .ok (.sipush 300, 3) := by decide +kernel
theorem dX9_init_30 : decode cX9_init 30 = .ok (.newarray .int, 2) := by decide +kernel
theorem dX9_init_32 : decode cX9_init 32 = .ok (.putfield 20, 3) := by decide +kernel
theorem dX9_init_35 : decode cX9_init 35 = .ok (.aload_n 0, 1) := by decide +kernel
theorem dX9_init_36 : decode cX9_init 36 = .ok (.sipush 3600, 3) := by decide +kernel
theorem dX9_init_39 : decode cX9_init 39 = .ok (.newarray .int, 2) := by decide +kernel
theorem dX9_init_41 : decode cX9_init 41 = .ok (.putfield 23, 3) := by decide +kernel
theorem dX9_init_44 : decode cX9_init 44 = .ok (.aload_n 0, 1) := by decide +kernel
theorem dX9_init_45 : decode cX9_init 45 = .ok (.sipush 300, 3) := by decide +kernel
theorem dX9_init_48 : decode cX9_init 48 = .ok (.newarray .int, 2) := by decide +kernel
theorem dX9_init_50 : decode cX9_init 50 = .ok (.putfield 26, 3) := by decide +kernel
theorem dX9_init_53 : decode cX9_init 53 = .ok (.aload_n 0, 1) := by decide +kernel
theorem dX9_init_54 : decode cX9_init 54 = .ok (.iconst 1, 1) := by decide +kernel
theorem dX9_init_55 : decode cX9_init 55 = .ok (.putfield 29, 3) := by decide +kernel
theorem dX9_init_58 : decode cX9_init 58 = .ok (.aload_n 0, 1) := by decide +kernel
theorem dX9_init_59 : decode cX9_init 59 = .ok (.bipush 12, 2) := by decide +kernel
theorem dX9_init_61 : decode cX9_init 61 = .ok (.newarray .int, 2) := by decide +kernel
theorem dX9_init_63 : decode cX9_init 63 = .ok (.putfield 32, 3) := by decide +kernel
theorem dX9_init_66 : decode cX9_init 66 = .ok (.aload_n 0, 1) := by decide +kernel
theorem dX9_init_67 : decode cX9_init 67 = .ok (.sipush 4800, 3) := by decide +kernel
theorem dX9_init_70 : decode cX9_init 70 = .ok (.newarray .int, 2) := by decide +kernel
theorem dX9_init_72 : decode cX9_init 72 = .ok (.putfield 35, 3) := by decide +kernel
theorem dX9_init_75 : decode cX9_init 75 = .ok (.aload_n 0, 1) := by decide +kernel
theorem dX9_init_76 : decode cX9_init 76 = .ok (.sipush 400, 3) := by decide +kernel
theorem dX9_init_79 : decode cX9_init 79 = .ok (.newarray .int, 2) := by decide +kernel
theorem dX9_init_81 : decode cX9_init 81 = .ok (.putfield 38, 3) := by decide +kernel
theorem dX9_init_84 : decode cX9_init 84 = .ok (.aload_n 0, 1) := by decide +kernel
theorem dX9_init_85 : decode cX9_init 85 = .ok (.sipush 4800, 3) := by decide +kernel
theorem dX9_init_88 : decode cX9_init 88 = .ok (.newarray .int, 2) := by decide +kernel
theorem dX9_init_90 : decode cX9_init 90 = .ok (.putfield 41, 3) := by decide +kernel
theorem dX9_init_93 : decode cX9_init 93 = .ok (.aload_n 0, 1) := by decide +kernel
theorem dX9_init_94 : decode cX9_init 94 = .ok (.iconst 4, 1) := by decide +kernel
theorem dX9_init_95 : decode cX9_init 95 = .ok (.newarray .int, 2) := by decide +kernel
theorem dX9_init_97 : decode cX9_init 97 = .ok (.dup, 1) := by decide +kernel
theorem dX9_init_98 : decode cX9_init 98 = .ok (.iconst 0, 1) := by decide +kernel
theorem dX9_init_99 : decode cX9_init 99 = .ok (.bipush (-2), 2) := by decide +kernel
theorem dX9_init_101 : decode cX9_init 101 = .ok (.iastore, 1) := by decide +kernel
theorem dX9_init_102 : decode cX9_init 102 = .ok (.dup, 1) := by decide +kernel
theorem dX9_init_103 : decode cX9_init 103 = .ok (.iconst 1, 1) := by decide +kernel
theorem dX9_init_104 : decode cX9_init 104 = .ok (.bipush (-2), 2) := by decide +kernel
theorem dX9_init_106 : decode cX9_init 106 = .ok (.iastore, 1) := by decide +kernel
theorem dX9_init_107 : decode cX9_init 107 = .ok (.dup, 1) := by decide +kernel
theorem dX9_init_108 : decode cX9_init 108 = .ok (.iconst 2, 1) := by decide +kernel
theorem dX9_init_109 : decode cX9_init 109 = .ok (.bipush (-2), 2) := by decide +kernel
theorem dX9_init_111 : decode cX9_init 111 = .ok (.iastore, 1) := by decide +kernel
theorem dX9_init_112 : decode cX9_init 112 = .ok (.dup, 1) := by decide +kernel
theorem dX9_init_113 : decode cX9_init 113 = .ok (.iconst 3, 1) := by decide +kernel
theorem dX9_init_114 : decode cX9_init 114 = .ok (.bipush (-2), 2) := by decide +kernel
theorem dX9_init_116 : decode cX9_init 116 = .ok (.iastore, 1) := by decide +kernel
theorem dX9_init_117 : decode cX9_init 117 = .ok (.putfield 44, 3) := by decide +kernel
theorem dX9_init_120 : decode cX9_init 120 = .ok (.aload_n 0, 1) := by decide +kernel
theorem dX9_init_121 : decode cX9_init 121 = .ok (.sipush 300, 3) := by decide +kernel
theorem dX9_init_124 : decode cX9_init 124 = .ok (.newarray .int, 2) := by decide +kernel
theorem dX9_init_126 : decode cX9_init 126 = .ok (.putfield 47, 3) := by decide +kernel
theorem dX9_init_129 : decode cX9_init 129 = .ok (.aload_n 0, 1) := by decide +kernel
theorem dX9_init_130 : decode cX9_init 130 = .ok (.sipush 3600, 3) := by decide +kernel
theorem dX9_init_133 : decode cX9_init 133 = .ok (.newarray .int, 2) := by decide +kernel
theorem dX9_init_135 : decode cX9_init 135 = .ok (.putfield 50, 3) := by decide +kernel
theorem dX9_init_138 : decode cX9_init 138 = .ok (.aload_n 0, 1) := by decide +kernel
theorem dX9_init_139 : decode cX9_init 139 = .ok (.sipush 300, 3) := by decide +kernel
theorem dX9_init_142 : decode cX9_init 142 = .ok (.newarray .int, 2) := by decide +kernel
theorem dX9_init_144 : decode cX9_init 144 = .ok (.putfield 53, 3) := by decide +kernel
theorem dX9_init_147 : decode cX9_init 147 = .ok (.aload_n 0, 1) := by decide +kernel
theorem dX9_init_148 : decode cX9_init 148 = .ok (.sipush 300, 3) := by decide +kernel
theorem dX9_init_151 : decode cX9_init 151 = .ok (.newarray .int, 2) := by decide +kernel
theorem dX9_init_153 : decode cX9_init 153 = .ok (.putfield 56, 3) := by decide +kernel
theorem dX9_init_156 : decode cX9_init 156 = .ok (.aload_n 0, 1) := by decide +kernel
theorem dX9_init_157 : decode cX9_init 157 = .ok (.sipush 3600, 3) := by decide +kernel
theorem dX9_init_160 : decode cX9_init 160 = .ok (.newarray .int, 2) := by decide +kernel
theorem dX9_init_162 : decode cX9_init 162 = .ok (.putfield 59, 3) := by decide +kernel
theorem dX9_init_165 : decode cX9_init 165 = .ok (.aload_n 0, 1) := by decide +kernel
theorem dX9_init_166 : decode cX9_init 166 = .ok (.sipush 300, 3) := by decide +kernel
theorem dX9_init_169 : decode cX9_init 169 = .ok (.newarray .int, 2) := by decide +kernel
theorem dX9_init_171 : decode cX9_init 171 = .ok (.putfield 62, 3) := by decide +kernel
theorem dX9_init_174 : decode cX9_init 174 = .ok (.aload_n 0, 1) := by decide +kernel
theorem dX9_init_175 : decode cX9_init 175 = .ok (.bipush 12, 2) := by decide +kernel
theorem dX9_init_177 : decode cX9_init 177 = .ok (.newarray .int, 2) := by decide +kernel
theorem dX9_init_179 : decode cX9_init 179 = .ok (.putfield 65, 3) := by decide +kernel
theorem dX9_init_182 : decode cX9_init 182 = .ok (.aload_n 0, 1) := by decide +kernel
theorem dX9_init_183 : decode cX9_init 183 = .ok (.sipush 4800, 3) := by decide +kernel
theorem dX9_init_186 : decode cX9_init 186 = .ok (.newarray .int, 2) := by decide +kernel
theorem dX9_init_188 : decode cX9_init 188 = .ok (.putfield 68, 3) := by decide +kernel
theorem dX9_init_191 : decode cX9_init 191 = .ok (.aload_n 0, 1) := by decide +kernel
theorem dX9_init_192 : decode cX9_init 192 = .ok (.sipush 400, 3) := by decide +kernel
theorem dX9_init_195 : decode cX9_init 195 = .ok (.newarray .int, 2) := by decide +kernel
theorem dX9_init_197 : decode cX9_init 197 = .ok (.putfield 71, 3) := by decide +kernel
theorem dX9_init_200 : decode cX9_init 200 = .ok (.aload_n 0, 1) := by decide +kernel
theorem dX9_init_201 : decode cX9_init 201 = .ok (.sipush 4800, 3) := by decide +kernel
theorem dX9_init_204 : decode cX9_init 204 = .ok (.newarray .int, 2) := by decide +kernel
theorem dX9_init_206 : decode cX9_init 206 = .ok (.putfield 74, 3) := by decide +kernel
theorem dX9_init_209 : decode cX9_init 209 = .ok (.aload_n 0, 1) := by decide +kernel
theorem dX9_init_210 : decode cX9_init 210 = .ok (.getfield 32, 3) := by decide +kernel
theorem dX9_init_213 : decode cX9_init 213 = .ok (.iconst 0, 1) := by decide +kernel
theorem dX9_init_214 : decode cX9_init 214 = .ok (.iconst 1, 1) := by decide +kernel
theorem dX9_init_215 : decode cX9_init 215 = .ok (.iastore, 1) := by decide +kernel
theorem dX9_init_216 : decode cX9_init 216 = .ok (.return_, 1) := by decide +kernel
def wp_X9_init (a0 : Nat) (f : FT) (mc ms : Nat) (K : FT → Prop) : Prop :=
  nA f 1 (12 : Int32) mc ms fun n_3 q_1 f_2 => pV f_2 a0 12 2 (.ref q_1) fun f_7 => nA f_7 1 (12 : Int32) (mc - 1) (ms - n_3) fun n_10 q_8 f_9 => pV f_9 a0 12 4 (.ref q_8) fun f_14 => pV f_14 a0 12 5 (.int (96 : Int32)) fun f_16 => nA f_16 1 (300 : Int32) ((mc - 1) - 1) ((ms - n_3) - n_10) fun n_19 q_17 f_18 => pV f_18 a0 12 10 (.ref q_17) fun f_23 => nA f_23 1 (3600 : Int32) (((mc - 1) - 1) - 1) (((ms - n_3) - n_10) - n_19) fun n_26 q_24 f_25 => pV f_25 a0 12 11 (.ref q_24) fun f_30 => nA f_30 1 (300 : Int32) ((((mc - 1) - 1) - 1) - 1) ((((ms - n_3) - n_10) - n_19) - n_26) fun n_33 q_31 f_32 => pV f_32 a0 12 12 (.ref q_31) fun f_37 => pV f_37 a0 12 13 (.int (1 : Int32)) fun f_39 => nA f_39 1 (12 : Int32) (((((mc - 1) - 1) - 1) - 1) - 1) (((((ms - n_3) - n_10) - n_19) - n_26) - n_33) fun n_42 q_40 f_41 => pV f_41 a0 12 14 (.ref q_40) fun f_46 => nA f_46 1 (4800 : Int32) ((((((mc - 1) - 1) - 1) - 1) - 1) - 1) ((((((ms - n_3) - n_10) - n_19) - n_26) - n_33) - n_42) fun n_49 q_47 f_48 => pV f_48 a0 12 15 (.ref q_47) fun f_53 => nA f_53 1 (400 : Int32) (((((((mc - 1) - 1) - 1) - 1) - 1) - 1) - 1) (((((((ms - n_3) - n_10) - n_19) - n_26) - n_33) - n_42) - n_49) fun n_56 q_54 f_55 => pV f_55 a0 12 16 (.ref q_54) fun f_60 => nA f_60 1 (4800 : Int32) ((((((((mc - 1) - 1) - 1) - 1) - 1) - 1) - 1) - 1) ((((((((ms - n_3) - n_10) - n_19) - n_26) - n_33) - n_42) - n_49) - n_56) fun n_63 q_61 f_62 => pV f_62 a0 12 17 (.ref q_61) fun f_67 => nA f_67 1 (4 : Int32) (((((((((mc - 1) - 1) - 1) - 1) - 1) - 1) - 1) - 1) - 1) (((((((((ms - n_3) - n_10) - n_19) - n_26) - n_33) - n_42) - n_49) - n_56) - n_63) fun n_70 q_68 f_69 => sI f_69 q_68 (0 : Int32) (-2 : Int32) fun f_74 => sI f_74 q_68 (1 : Int32) (-2 : Int32) fun f_76 => sI f_76 q_68 (2 : Int32) (-2 : Int32) fun f_78 => sI f_78 q_68 (3 : Int32) (-2 : Int32) fun f_80 => pV f_80 a0 12 18 (.ref q_68) fun f_82 => nA f_82 1 (300 : Int32) ((((((((((mc - 1) - 1) - 1) - 1) - 1) - 1) - 1) - 1) - 1) - 1) ((((((((((ms - n_3) - n_10) - n_19) - n_26) - n_33) - n_42) - n_49) - n_56) - n_63) - n_70) fun n_85 q_83 f_84 => pV f_84 a0 12 20 (.ref q_83) fun f_89 => nA f_89 1 (3600 : Int32) (((((((((((mc - 1) - 1) - 1) - 1) - 1) - 1) - 1) - 1) - 1) - 1) - 1) (((((((((((ms - n_3) - n_10) - n_19) - n_26) - n_33) - n_42) - n_49) - n_56) - n_63) - n_70) - n_85) fun n_92 q_90 f_91 => pV f_91 a0 12 21 (.ref q_90) fun f_96 => nA f_96 1 (300 : Int32) ((((((((((((mc - 1) - 1) - 1) - 1) - 1) - 1) - 1) - 1) - 1) - 1) - 1) - 1) ((((((((((((ms - n_3) - n_10) - n_19) - n_26) - n_33) - n_42) - n_49) - n_56) - n_63) - n_70) - n_85) - n_92) fun n_99 q_97 f_98 => pV f_98 a0 12 22 (.ref q_97) fun f_103 => nA f_103 1 (300 : Int32) (((((((((((((mc - 1) - 1) - 1) - 1) - 1) - 1) - 1) - 1) - 1) - 1) - 1) - 1) - 1) (((((((((((((ms - n_3) - n_10) - n_19) - n_26) - n_33) - n_42) - n_49) - n_56) - n_63) - n_70) - n_85) - n_92) - n_99) fun n_106 q_104 f_105 => pV f_105 a0 12 27 (.ref q_104) fun f_110 => nA f_110 1 (3600 : Int32) ((((((((((((((mc - 1) - 1) - 1) - 1) - 1) - 1) - 1) - 1) - 1) - 1) - 1) - 1) - 1) - 1) ((((((((((((((ms - n_3) - n_10) - n_19) - n_26) - n_33) - n_42) - n_49) - n_56) - n_63) - n_70) - n_85) - n_92) - n_99) - n_106) fun n_113 q_111 f_112 => pV f_112 a0 12 28 (.ref q_111) fun f_117 => nA f_117 1 (300 : Int32) (((((((((((((((mc - 1) - 1) - 1) - 1) - 1) - 1) - 1) - 1) - 1) - 1) - 1) - 1) - 1) - 1) - 1) (((((((((((((((ms - n_3) - n_10) - n_19) - n_26) - n_33) - n_42) - n_49) - n_56) - n_63) - n_70) - n_85) - n_92) - n_99) - n_106) - n_113) fun n_120 q_118 f_119 => pV f_119 a0 12 29 (.ref q_118) fun f_124 => nA f_124 1 (12 : Int32) ((((((((((((((((mc - 1) - 1) - 1) - 1) - 1) - 1) - 1) - 1) - 1) - 1) - 1) - 1) - 1) - 1) - 1) - 1) ((((((((((((((((ms - n_3) - n_10) - n_19) - n_26) - n_33) - n_42) - n_49) - n_56) - n_63) - n_70) - n_85) - n_92) - n_99) - n_106) - n_113) - n_120) fun n_127 q_125 f_126 => pV f_126 a0 12 30 (.ref q_125) fun f_131 => nA f_131 1 (4800 : Int32) (((((((((((((((((mc - 1) - 1) - 1) - 1) - 1) - 1) - 1) - 1) - 1) - 1) - 1) - 1) - 1) - 1) - 1) - 1) - 1) (((((((((((((((((ms - n_3) - n_10) - n_19) - n_26) - n_33) - n_42) - n_49) - n_56) - n_63) - n_70) - n_85) - n_92) - n_99) - n_106) - n_113) - n_120) - n_127) fun n_134 q_132 f_133 => pV f_133 a0 12 31 (.ref q_132) fun f_138 => nA f_138 1 (400 : Int32) ((((((((((((((((((mc - 1) - 1) - 1) - 1) - 1) - 1) - 1) - 1) - 1) - 1) - 1) - 1) - 1) - 1) - 1) - 1) - 1) - 1) ((((((((((((((((((ms - n_3) - n_10) - n_19) - n_26) - n_33) - n_42) - n_49) - n_56) - n_63) - n_70) - n_85) - n_92) - n_99) - n_106) - n_113) - n_120) - n_127) - n_134) fun n_141 q_139 f_140 => pV f_140 a0 12 32 (.ref q_139) fun f_145 => nA f_145 1 (4800 : Int32) (((((((((((((((((((mc - 1) - 1) - 1) - 1) - 1) - 1) - 1) - 1) - 1) - 1) - 1) - 1) - 1) - 1) - 1) - 1) - 1) - 1) - 1) (((((((((((((((((((ms - n_3) - n_10) - n_19) - n_26) - n_33) - n_42) - n_49) - n_56) - n_63) - n_70) - n_85) - n_92) - n_99) - n_106) - n_113) - n_120) - n_127) - n_134) - n_141) fun n_148 q_146 f_147 => pV f_147 a0 12 33 (.ref q_146) fun f_152 => gA f_152 a0 12 14 fun a_153 => sI f_152 a_153 (0 : Int32) (1 : Int32) fun f_156 => K f_156
set_option maxHeartbeats 4000000 in
set_option maxRecDepth 100000 in
theorem cc_X9_init (l : Launch) (G : GG) {f : FT} {sz : Nat} {a0 : Nat} {mc ms : Nat} {K : FT → Prop} (h : wp_X9_init a0 f mc ms K) : Met l yX9_init wsX9_init ({ frames := 1, cells := mc, slots := ms, locals := 20 } : Room) (FP G [.ref a0] f sz) (va_Qv (fun f9 => K f9 : FT → Prop) (FB G (fA f sz)) (fA f sz)) mc ms (fA f sz) := by
  refine Met.ofW (cc := cX9_init) (maxL := 1) (ret := none) (by decide) rfl ?_
  intro p e s m args below meth c s₁ B hml hv
  obtain ⟨rfl, hsz, hF, hK, hZ⟩ := hv
  have hx := B.exec
  have hb := B.bytes
  have hr := B.returns
  have hts := atoms_spec (ws := wsX9_init) B.pre
  have hown : s.vm.findClass RX9 = some m.cls := findClass_of_methodNamed B.named
  have hlocks := B.notSynchronized
  have hin : meth.name = "<init>" := (name_of_methodNamed B.named B.method).1
  subst hsz
  have hF := hF.self (sz := s.heap.size)
  generalize hAe : fA f s.heap.size = A at hF hZ ⊢
  have hA : ∀ q : Nat, s.heap.size ≤ q → A q := fun q h => by rw [← hAe]; exact Or.inr h
  have hS : va_S A s.heap s.heap [] := va_S.rf
  have hin_X9 : ∀ w ∈ wsX90, w ∈ wsX9_init := by decide +kernel
  have hbc : 0 + mc ≤ mc := by omega
  have hbs : 0 + ms ≤ ms := by omega
  have hl := lv_entry ([.ref a0]) (n := 1) (Nat.le_of_ble_eq_true rfl)
  rw [lg_entry_eq]
  generalize (lg_sl ([.ref a0]) ++ List.replicate (1 - (lg_sl ([.ref a0])).length) Slot.unset).toArray = ls at hl ⊢
  have hl : lv_has ls 1 [(0, .ref a0)] := hl
  unfold wp_X9_init at h
  refine lv_aload_n hx hb dX9_init_0 rfl (lv_at hl 0 rfl) ?_
  refine W.objInit hx hb hown (hts (.methodLink RX9 1 objectInit) (by decide +kernel)) (hts (.instanceMethod objectInit) (by decide +kernel)) (hts (.code objectInit ⟨#[0xb1]⟩ 1 none) (by decide +kernel)) rfl (by rw [hml]; exact hl.1) rfl dX9_init_1 (Nat.le_of_ble_eq_true rfl) (Nat.le_of_ble_eq_true rfl) ?_
  refine W.eq (g2 := F0 m 4 ls []) rfl ?_
  refine lv_aload_n hx hb dX9_init_4 rfl (lv_at hl 0 rfl) ?_
  refine lv_bipush (v := (12 : Int32)) hx hb dX9_init_5 (by decide) ?_
  obtain ⟨hb0, n_3, hN, hb1, hb2, hb3, h⟩ := h
  refine fw_newa (atype := .int) (a0 := (n_3, .inl fun _ => 0)) hx hb (hts (.arrayClass .int) (by decide +kernel)) (ty := .int) rfl 1 rfl va_RA_int hK hF hS hA (fun cA => rfl) hb0 hN (by show _ * 4 ≤ _; omega) (by show _ ≤ mc; omega) (by show _ ≤ ms; omega) dX9_init_7 (fun q_1 H hn_q_1 hF hS => ?_)
  obtain ⟨f_2, hf_f_2⟩ : ∃ z, z = fup f q_1 (.inl (1, (n_3, .inl fun _ => 0))) := ⟨_, rfl⟩
  rw [← hf_f_2] at hF; have h := h q_1 hn_q_1 f_2 hf_f_2
  obtain ⟨cs_4, hcs⟩ : ∃ z, z = (0 + 1) := ⟨_, rfl⟩; obtain ⟨sl_5, hsl⟩ : ∃ z, z = (0 + n_3) := ⟨_, rfl⟩
  have hbc : cs_4 + (mc - 1) ≤ mc := by omega
  have hbs : sl_5 + (ms - n_3) ≤ ms := by omega
  refine W.widen (k := cs_4) (n := sl_5) (by omega) (by omega) ?_
  clear hcs hsl
  obtain ⟨fs_6, he_fs_6, hl_fs_6, h⟩ := h
  refine fw_putF (v := .ref q_1) (ty := (.array .int)) (C := RX9) (T := TX9) (N := 34) hx hb hts hin_X9 tyX9 (tyX9_ok) nmX9 hown hK hF hS he_fs_6 rfl 2 (by decide) (hts (.fieldLink RX9 7 "FrontCodedIndexModel" "key" "[I") (by decide +kernel)) (fun _ h9 => h9) rfl hin rfl (by decide +kernel) rfl rfl hl_fs_6 dX9_init_9 (fun H locs hF hS => ?_)
  obtain ⟨f_7, hf_f_7⟩ : ∃ z, z = fup f_2 a0 (.inr (12, fs_6.set 2 (.ref q_1))) := ⟨_, rfl⟩
  rw [← hf_f_7] at hF; have h := h f_7 hf_f_7
  refine lv_aload_n hx hb dX9_init_12 rfl (lv_at hl 0 rfl) ?_
  refine lv_bipush (v := (12 : Int32)) hx hb dX9_init_13 (by decide) ?_
  obtain ⟨hb0, n_10, hN, hb1, hb2, hb3, h⟩ := h
  refine fw_newa (atype := .int) (a0 := (n_10, .inl fun _ => 0)) hx hb (hts (.arrayClass .int) (by decide +kernel)) (ty := .int) rfl 1 rfl va_RA_int hK hF hS hA (fun cA => rfl) hb0 hN (by show _ * 4 ≤ _; omega) (by show _ ≤ mc; omega) (by show _ ≤ ms; omega) dX9_init_15 (fun q_8 H hn_q_8 hF hS => ?_)
  obtain ⟨f_9, hf_f_9⟩ : ∃ z, z = fup f_7 q_8 (.inl (1, (n_10, .inl fun _ => 0))) := ⟨_, rfl⟩
  rw [← hf_f_9] at hF; have h := h q_8 hn_q_8 f_9 hf_f_9
  obtain ⟨cs_11, hcs⟩ : ∃ z, z = (cs_4 + 1) := ⟨_, rfl⟩; obtain ⟨sl_12, hsl⟩ : ∃ z, z = (sl_5 + n_10) := ⟨_, rfl⟩
  have hbc : cs_11 + ((mc - 1) - 1) ≤ mc := by omega
  have hbs : sl_12 + ((ms - n_3) - n_10) ≤ ms := by omega
  refine W.widen (k := cs_11) (n := sl_12) (by omega) (by omega) ?_
  clear hcs hsl
  obtain ⟨fs_13, he_fs_13, hl_fs_13, h⟩ := h
  refine fw_putF (v := .ref q_8) (ty := (.array .int)) (C := RX9) (T := TX9) (N := 34) hx hb hts hin_X9 tyX9 (tyX9_ok) nmX9 hown hK hF hS he_fs_13 rfl 4 (by decide) (hts (.fieldLink RX9 13 "FrontCodedIndexModel" "bound" "[I") (by decide +kernel)) (fun _ h9 => h9) rfl hin rfl (by decide +kernel) rfl rfl hl_fs_13 dX9_init_17 (fun H locs hF hS => ?_)
  obtain ⟨f_14, hf_f_14⟩ : ∃ z, z = fup f_9 a0 (.inr (12, fs_13.set 4 (.ref q_8))) := ⟨_, rfl⟩
  rw [← hf_f_14] at hF; have h := h f_14 hf_f_14
  refine lv_aload_n hx hb dX9_init_20 rfl (lv_at hl 0 rfl) ?_
  refine lv_bipush (v := (96 : Int32)) hx hb dX9_init_21 (by decide) ?_
  obtain ⟨fs_15, he_fs_15, hl_fs_15, h⟩ := h
  refine fw_put (v := .int (96 : Int32)) (ty := .int) (C := RX9) (T := TX9) (N := 34) hx hb hts hin_X9 tyX9 (tyX9_ok) nmX9 hown hK hF hS he_fs_15 rfl 5 (by decide) (hts (.fieldLink RX9 16 "FrontCodedIndexModel" "capacity" "I") (by decide +kernel)) (fun _ h9 => h9) rfl (by decide +kernel) rfl rfl hl_fs_15 dX9_init_23 (fun H locs hF hS => ?_)
  obtain ⟨f_16, hf_f_16⟩ : ∃ z, z = fup f_14 a0 (.inr (12, fs_15.set 5 (.int (96 : Int32)))) := ⟨_, rfl⟩
  rw [← hf_f_16] at hF; have h := h f_16 hf_f_16
  refine lv_aload_n hx hb dX9_init_26 rfl (lv_at hl 0 rfl) ?_
  refine lv_sipush (v := (300 : Int32)) hx hb dX9_init_27 (by decide) ?_
  obtain ⟨hb0, n_19, hN, hb1, hb2, hb3, h⟩ := h
  refine fw_newa (atype := .int) (a0 := (n_19, .inl fun _ => 0)) hx hb (hts (.arrayClass .int) (by decide +kernel)) (ty := .int) rfl 1 rfl va_RA_int hK hF hS hA (fun cA => rfl) hb0 hN (by show _ * 4 ≤ _; omega) (by show _ ≤ mc; omega) (by show _ ≤ ms; omega) dX9_init_30 (fun q_17 H hn_q_17 hF hS => ?_)
  obtain ⟨f_18, hf_f_18⟩ : ∃ z, z = fup f_16 q_17 (.inl (1, (n_19, .inl fun _ => 0))) := ⟨_, rfl⟩
  rw [← hf_f_18] at hF; have h := h q_17 hn_q_17 f_18 hf_f_18
  obtain ⟨cs_20, hcs⟩ : ∃ z, z = (cs_11 + 1) := ⟨_, rfl⟩; obtain ⟨sl_21, hsl⟩ : ∃ z, z = (sl_12 + n_19) := ⟨_, rfl⟩
  have hbc : cs_20 + (((mc - 1) - 1) - 1) ≤ mc := by omega
  have hbs : sl_21 + (((ms - n_3) - n_10) - n_19) ≤ ms := by omega
  refine W.widen (k := cs_20) (n := sl_21) (by omega) (by omega) ?_
  clear hcs hsl
  obtain ⟨fs_22, he_fs_22, hl_fs_22, h⟩ := h
  refine fw_putF (v := .ref q_17) (ty := (.array .int)) (C := RX9) (T := TX9) (N := 34) hx hb hts hin_X9 tyX9 (tyX9_ok) nmX9 hown hK hF hS he_fs_22 rfl 10 (by decide) (hts (.fieldLink RX9 20 "FrontCodedIndexModel" "sizeOf" "[I") (by decide +kernel)) (fun _ h9 => h9) rfl hin rfl (by decide +kernel) rfl rfl hl_fs_22 dX9_init_32 (fun H locs hF hS => ?_)
  obtain ⟨f_23, hf_f_23⟩ : ∃ z, z = fup f_18 a0 (.inr (12, fs_22.set 10 (.ref q_17))) := ⟨_, rfl⟩
  rw [← hf_f_23] at hF; have h := h f_23 hf_f_23
  refine lv_aload_n hx hb dX9_init_35 rfl (lv_at hl 0 rfl) ?_
  refine lv_sipush (v := (3600 : Int32)) hx hb dX9_init_36 (by decide) ?_
  obtain ⟨hb0, n_26, hN, hb1, hb2, hb3, h⟩ := h
  refine fw_newa (atype := .int) (a0 := (n_26, .inl fun _ => 0)) hx hb (hts (.arrayClass .int) (by decide +kernel)) (ty := .int) rfl 1 rfl va_RA_int hK hF hS hA (fun cA => rfl) hb0 hN (by show _ * 4 ≤ _; omega) (by show _ ≤ mc; omega) (by show _ ≤ ms; omega) dX9_init_39 (fun q_24 H hn_q_24 hF hS => ?_)
  obtain ⟨f_25, hf_f_25⟩ : ∃ z, z = fup f_23 q_24 (.inl (1, (n_26, .inl fun _ => 0))) := ⟨_, rfl⟩
  rw [← hf_f_25] at hF; have h := h q_24 hn_q_24 f_25 hf_f_25
  obtain ⟨cs_27, hcs⟩ : ∃ z, z = (cs_20 + 1) := ⟨_, rfl⟩; obtain ⟨sl_28, hsl⟩ : ∃ z, z = (sl_21 + n_26) := ⟨_, rfl⟩
  have hbc : cs_27 + ((((mc - 1) - 1) - 1) - 1) ≤ mc := by omega
  have hbs : sl_28 + ((((ms - n_3) - n_10) - n_19) - n_26) ≤ ms := by omega
  refine W.widen (k := cs_27) (n := sl_28) (by omega) (by omega) ?_
  clear hcs hsl
  obtain ⟨fs_29, he_fs_29, hl_fs_29, h⟩ := h
  refine fw_putF (v := .ref q_24) (ty := (.array .int)) (C := RX9) (T := TX9) (N := 34) hx hb hts hin_X9 tyX9 (tyX9_ok) nmX9 hown hK hF hS he_fs_29 rfl 11 (by decide) (hts (.fieldLink RX9 23 "FrontCodedIndexModel" "bytes" "[I") (by decide +kernel)) (fun _ h9 => h9) rfl hin rfl (by decide +kernel) rfl rfl hl_fs_29 dX9_init_41 (fun H locs hF hS => ?_)
  obtain ⟨f_30, hf_f_30⟩ : ∃ z, z = fup f_25 a0 (.inr (12, fs_29.set 11 (.ref q_24))) := ⟨_, rfl⟩
  rw [← hf_f_30] at hF; have h := h f_30 hf_f_30
  refine lv_aload_n hx hb dX9_init_44 rfl (lv_at hl 0 rfl) ?_
  refine lv_sipush (v := (300 : Int32)) hx hb dX9_init_45 (by decide) ?_
  obtain ⟨hb0, n_33, hN, hb1, hb2, hb3, h⟩ := h
  refine fw_newa (atype := .int) (a0 := (n_33, .inl fun _ => 0)) hx hb (hts (.arrayClass .int) (by decide +kernel)) (ty := .int) rfl 1 rfl va_RA_int hK hF hS hA (fun cA => rfl) hb0 hN (by show _ * 4 ≤ _; omega) (by show _ ≤ mc; omega) (by show _ ≤ ms; omega) dX9_init_48 (fun q_31 H hn_q_31 hF hS => ?_)
  obtain ⟨f_32, hf_f_32⟩ : ∃ z, z = fup f_30 q_31 (.inl (1, (n_33, .inl fun _ => 0))) := ⟨_, rfl⟩
  rw [← hf_f_32] at hF; have h := h q_31 hn_q_31 f_32 hf_f_32
  obtain ⟨cs_34, hcs⟩ : ∃ z, z = (cs_27 + 1) := ⟨_, rfl⟩; obtain ⟨sl_35, hsl⟩ : ∃ z, z = (sl_28 + n_33) := ⟨_, rfl⟩
  have hbc : cs_34 + (((((mc - 1) - 1) - 1) - 1) - 1) ≤ mc := by omega
  have hbs : sl_35 + (((((ms - n_3) - n_10) - n_19) - n_26) - n_33) ≤ ms := by omega
  refine W.widen (k := cs_34) (n := sl_35) (by omega) (by omega) ?_
  clear hcs hsl
  obtain ⟨fs_36, he_fs_36, hl_fs_36, h⟩ := h
  refine fw_putF (v := .ref q_31) (ty := (.array .int)) (C := RX9) (T := TX9) (N := 34) hx hb hts hin_X9 tyX9 (tyX9_ok) nmX9 hown hK hF hS he_fs_36 rfl 12 (by decide) (hts (.fieldLink RX9 26 "FrontCodedIndexModel" "values" "[I") (by decide +kernel)) (fun _ h9 => h9) rfl hin rfl (by decide +kernel) rfl rfl hl_fs_36 dX9_init_50 (fun H locs hF hS => ?_)
  obtain ⟨f_37, hf_f_37⟩ : ∃ z, z = fup f_32 a0 (.inr (12, fs_36.set 12 (.ref q_31))) := ⟨_, rfl⟩
  rw [← hf_f_37] at hF; have h := h f_37 hf_f_37
  refine lv_aload_n hx hb dX9_init_53 rfl (lv_at hl 0 rfl) ?_
  refine lv_iconst (v := (1 : Int32)) hx hb dX9_init_54 (by decide) ?_
  obtain ⟨fs_38, he_fs_38, hl_fs_38, h⟩ := h
  refine fw_put (v := .int (1 : Int32)) (ty := .int) (C := RX9) (T := TX9) (N := 34) hx hb hts hin_X9 tyX9 (tyX9_ok) nmX9 hown hK hF hS he_fs_38 rfl 13 (by decide) (hts (.fieldLink RX9 29 "FrontCodedIndexModel" "levels" "I") (by decide +kernel)) (fun _ h9 => h9) rfl (by decide +kernel) rfl rfl hl_fs_38 dX9_init_55 (fun H locs hF hS => ?_)
  obtain ⟨f_39, hf_f_39⟩ : ∃ z, z = fup f_37 a0 (.inr (12, fs_38.set 13 (.int (1 : Int32)))) := ⟨_, rfl⟩
  rw [← hf_f_39] at hF; have h := h f_39 hf_f_39
  refine lv_aload_n hx hb dX9_init_58 rfl (lv_at hl 0 rfl) ?_
  refine lv_bipush (v := (12 : Int32)) hx hb dX9_init_59 (by decide) ?_
  obtain ⟨hb0, n_42, hN, hb1, hb2, hb3, h⟩ := h
  refine fw_newa (atype := .int) (a0 := (n_42, .inl fun _ => 0)) hx hb (hts (.arrayClass .int) (by decide +kernel)) (ty := .int) rfl 1 rfl va_RA_int hK hF hS hA (fun cA => rfl) hb0 hN (by show _ * 4 ≤ _; omega) (by show _ ≤ mc; omega) (by show _ ≤ ms; omega) dX9_init_61 (fun q_40 H hn_q_40 hF hS => ?_)
  obtain ⟨f_41, hf_f_41⟩ : ∃ z, z = fup f_39 q_40 (.inl (1, (n_42, .inl fun _ => 0))) := ⟨_, rfl⟩
  rw [← hf_f_41] at hF; have h := h q_40 hn_q_40 f_41 hf_f_41
  obtain ⟨cs_43, hcs⟩ : ∃ z, z = (cs_34 + 1) := ⟨_, rfl⟩; obtain ⟨sl_44, hsl⟩ : ∃ z, z = (sl_35 + n_42) := ⟨_, rfl⟩
  have hbc : cs_43 + ((((((mc - 1) - 1) - 1) - 1) - 1) - 1) ≤ mc := by omega
  have hbs : sl_44 + ((((((ms - n_3) - n_10) - n_19) - n_26) - n_33) - n_42) ≤ ms := by omega
  refine W.widen (k := cs_43) (n := sl_44) (by omega) (by omega) ?_
  clear hcs hsl
  obtain ⟨fs_45, he_fs_45, hl_fs_45, h⟩ := h
  refine fw_putF (v := .ref q_40) (ty := (.array .int)) (C := RX9) (T := TX9) (N := 34) hx hb hts hin_X9 tyX9 (tyX9_ok) nmX9 hown hK hF hS he_fs_45 rfl 14 (by decide) (hts (.fieldLink RX9 32 "FrontCodedIndexModel" "many" "[I") (by decide +kernel)) (fun _ h9 => h9) rfl hin rfl (by decide +kernel) rfl rfl hl_fs_45 dX9_init_63 (fun H locs hF hS => ?_)
  obtain ⟨f_46, hf_f_46⟩ : ∃ z, z = fup f_41 a0 (.inr (12, fs_45.set 14 (.ref q_40))) := ⟨_, rfl⟩
  rw [← hf_f_46] at hF; have h := h f_46 hf_f_46
  refine lv_aload_n hx hb dX9_init_66 rfl (lv_at hl 0 rfl) ?_
  refine lv_sipush (v := (4800 : Int32)) hx hb dX9_init_67 (by decide) ?_
  obtain ⟨hb0, n_49, hN, hb1, hb2, hb3, h⟩ := h
  refine fw_newa (atype := .int) (a0 := (n_49, .inl fun _ => 0)) hx hb (hts (.arrayClass .int) (by decide +kernel)) (ty := .int) rfl 1 rfl va_RA_int hK hF hS hA (fun cA => rfl) hb0 hN (by show _ * 4 ≤ _; omega) (by show _ ≤ mc; omega) (by show _ ≤ ms; omega) dX9_init_70 (fun q_47 H hn_q_47 hF hS => ?_)
  obtain ⟨f_48, hf_f_48⟩ : ∃ z, z = fup f_46 q_47 (.inl (1, (n_49, .inl fun _ => 0))) := ⟨_, rfl⟩
  rw [← hf_f_48] at hF; have h := h q_47 hn_q_47 f_48 hf_f_48
  obtain ⟨cs_50, hcs⟩ : ∃ z, z = (cs_43 + 1) := ⟨_, rfl⟩; obtain ⟨sl_51, hsl⟩ : ∃ z, z = (sl_44 + n_49) := ⟨_, rfl⟩
  have hbc : cs_50 + (((((((mc - 1) - 1) - 1) - 1) - 1) - 1) - 1) ≤ mc := by omega
  have hbs : sl_51 + (((((((ms - n_3) - n_10) - n_19) - n_26) - n_33) - n_42) - n_49) ≤ ms := by omega
  refine W.widen (k := cs_50) (n := sl_51) (by omega) (by omega) ?_
  clear hcs hsl
  obtain ⟨fs_52, he_fs_52, hl_fs_52, h⟩ := h
  refine fw_putF (v := .ref q_47) (ty := (.array .int)) (C := RX9) (T := TX9) (N := 34) hx hb hts hin_X9 tyX9 (tyX9_ok) nmX9 hown hK hF hS he_fs_52 rfl 15 (by decide) (hts (.fieldLink RX9 35 "FrontCodedIndexModel" "parts" "[I") (by decide +kernel)) (fun _ h9 => h9) rfl hin rfl (by decide +kernel) rfl rfl hl_fs_52 dX9_init_72 (fun H locs hF hS => ?_)
  obtain ⟨f_53, hf_f_53⟩ : ∃ z, z = fup f_48 a0 (.inr (12, fs_52.set 15 (.ref q_47))) := ⟨_, rfl⟩
  rw [← hf_f_53] at hF; have h := h f_53 hf_f_53
  refine lv_aload_n hx hb dX9_init_75 rfl (lv_at hl 0 rfl) ?_
  refine lv_sipush (v := (400 : Int32)) hx hb dX9_init_76 (by decide) ?_
  obtain ⟨hb0, n_56, hN, hb1, hb2, hb3, h⟩ := h
  refine fw_newa (atype := .int) (a0 := (n_56, .inl fun _ => 0)) hx hb (hts (.arrayClass .int) (by decide +kernel)) (ty := .int) rfl 1 rfl va_RA_int hK hF hS hA (fun cA => rfl) hb0 hN (by show _ * 4 ≤ _; omega) (by show _ ≤ mc; omega) (by show _ ≤ ms; omega) dX9_init_79 (fun q_54 H hn_q_54 hF hS => ?_)
  obtain ⟨f_55, hf_f_55⟩ : ∃ z, z = fup f_53 q_54 (.inl (1, (n_56, .inl fun _ => 0))) := ⟨_, rfl⟩
  rw [← hf_f_55] at hF; have h := h q_54 hn_q_54 f_55 hf_f_55
  obtain ⟨cs_57, hcs⟩ : ∃ z, z = (cs_50 + 1) := ⟨_, rfl⟩; obtain ⟨sl_58, hsl⟩ : ∃ z, z = (sl_51 + n_56) := ⟨_, rfl⟩
  have hbc : cs_57 + ((((((((mc - 1) - 1) - 1) - 1) - 1) - 1) - 1) - 1) ≤ mc := by omega
  have hbs : sl_58 + ((((((((ms - n_3) - n_10) - n_19) - n_26) - n_33) - n_42) - n_49) - n_56) ≤ ms := by omega
  refine W.widen (k := cs_57) (n := sl_58) (by omega) (by omega) ?_
  clear hcs hsl
  obtain ⟨fs_59, he_fs_59, hl_fs_59, h⟩ := h
  refine fw_putF (v := .ref q_54) (ty := (.array .int)) (C := RX9) (T := TX9) (N := 34) hx hb hts hin_X9 tyX9 (tyX9_ok) nmX9 hown hK hF hS he_fs_59 rfl 16 (by decide) (hts (.fieldLink RX9 38 "FrontCodedIndexModel" "sepSize" "[I") (by decide +kernel)) (fun _ h9 => h9) rfl hin rfl (by decide +kernel) rfl rfl hl_fs_59 dX9_init_81 (fun H locs hF hS => ?_)
  obtain ⟨f_60, hf_f_60⟩ : ∃ z, z = fup f_55 a0 (.inr (12, fs_59.set 16 (.ref q_54))) := ⟨_, rfl⟩
  rw [← hf_f_60] at hF; have h := h f_60 hf_f_60
  refine lv_aload_n hx hb dX9_init_84 rfl (lv_at hl 0 rfl) ?_
  refine lv_sipush (v := (4800 : Int32)) hx hb dX9_init_85 (by decide) ?_
  obtain ⟨hb0, n_63, hN, hb1, hb2, hb3, h⟩ := h
  refine fw_newa (atype := .int) (a0 := (n_63, .inl fun _ => 0)) hx hb (hts (.arrayClass .int) (by decide +kernel)) (ty := .int) rfl 1 rfl va_RA_int hK hF hS hA (fun cA => rfl) hb0 hN (by show _ * 4 ≤ _; omega) (by show _ ≤ mc; omega) (by show _ ≤ ms; omega) dX9_init_88 (fun q_61 H hn_q_61 hF hS => ?_)
  obtain ⟨f_62, hf_f_62⟩ : ∃ z, z = fup f_60 q_61 (.inl (1, (n_63, .inl fun _ => 0))) := ⟨_, rfl⟩
  rw [← hf_f_62] at hF; have h := h q_61 hn_q_61 f_62 hf_f_62
  obtain ⟨cs_64, hcs⟩ : ∃ z, z = (cs_57 + 1) := ⟨_, rfl⟩; obtain ⟨sl_65, hsl⟩ : ∃ z, z = (sl_58 + n_63) := ⟨_, rfl⟩
  have hbc : cs_64 + (((((((((mc - 1) - 1) - 1) - 1) - 1) - 1) - 1) - 1) - 1) ≤ mc := by omega
  have hbs : sl_65 + (((((((((ms - n_3) - n_10) - n_19) - n_26) - n_33) - n_42) - n_49) - n_56) - n_63) ≤ ms := by omega
  refine W.widen (k := cs_64) (n := sl_65) (by omega) (by omega) ?_
  clear hcs hsl
  obtain ⟨fs_66, he_fs_66, hl_fs_66, h⟩ := h
  refine fw_putF (v := .ref q_61) (ty := (.array .int)) (C := RX9) (T := TX9) (N := 34) hx hb hts hin_X9 tyX9 (tyX9_ok) nmX9 hown hK hF hS he_fs_66 rfl 17 (by decide) (hts (.fieldLink RX9 41 "FrontCodedIndexModel" "sep" "[I") (by decide +kernel)) (fun _ h9 => h9) rfl hin rfl (by decide +kernel) rfl rfl hl_fs_66 dX9_init_90 (fun H locs hF hS => ?_)
  obtain ⟨f_67, hf_f_67⟩ : ∃ z, z = fup f_62 a0 (.inr (12, fs_66.set 17 (.ref q_61))) := ⟨_, rfl⟩
  rw [← hf_f_67] at hF; have h := h f_67 hf_f_67
  refine lv_aload_n hx hb dX9_init_93 rfl (lv_at hl 0 rfl) ?_
  refine lv_iconst (v := (4 : Int32)) hx hb dX9_init_94 (by decide) ?_
  obtain ⟨hb0, n_70, hN, hb1, hb2, hb3, h⟩ := h
  refine fw_newa (atype := .int) (a0 := (n_70, .inl fun _ => 0)) hx hb (hts (.arrayClass .int) (by decide +kernel)) (ty := .int) rfl 1 rfl va_RA_int hK hF hS hA (fun cA => rfl) hb0 hN (by show _ * 4 ≤ _; omega) (by show _ ≤ mc; omega) (by show _ ≤ ms; omega) dX9_init_95 (fun q_68 H hn_q_68 hF hS => ?_)
  obtain ⟨f_69, hf_f_69⟩ : ∃ z, z = fup f_67 q_68 (.inl (1, (n_70, .inl fun _ => 0))) := ⟨_, rfl⟩
  rw [← hf_f_69] at hF; have h := h q_68 hn_q_68 f_69 hf_f_69
  obtain ⟨cs_71, hcs⟩ : ∃ z, z = (cs_64 + 1) := ⟨_, rfl⟩; obtain ⟨sl_72, hsl⟩ : ∃ z, z = (sl_65 + n_70) := ⟨_, rfl⟩
  have hbc : cs_71 + ((((((((((mc - 1) - 1) - 1) - 1) - 1) - 1) - 1) - 1) - 1) - 1) ≤ mc := by omega
  have hbs : sl_72 + ((((((((((ms - n_3) - n_10) - n_19) - n_26) - n_33) - n_42) - n_49) - n_56) - n_63) - n_70) ≤ ms := by omega
  refine W.widen (k := cs_71) (n := sl_72) (by omega) (by omega) ?_
  clear hcs hsl
  refine lv_dup hx hb dX9_init_97 rfl ?_
  refine lv_iconst (v := (0 : Int32)) hx hb dX9_init_98 (by decide) ?_
  refine lv_bipush (v := (-2 : Int32)) hx hb dX9_init_99 (by decide) ?_
  obtain ⟨n_q_73, q_73, he_q_73, hi_q_73, h⟩ := h
  refine fw_iast hx hb hK hF hS he_q_73 hi_q_73 dX9_init_101 (fun H locs hF hS => ?_)
  obtain ⟨f_74, hf_f_74⟩ : ∃ z, z = fup f_69 q_68 (.inl (1, n_q_73, .inl (upd q_73 ((0 : Int32)).toNatClampNeg (-2 : Int32)))) := ⟨_, rfl⟩
  rw [← hf_f_74] at hF; have h := h f_74 hf_f_74
  refine lv_dup hx hb dX9_init_102 rfl ?_
  refine lv_iconst (v := (1 : Int32)) hx hb dX9_init_103 (by decide) ?_
  refine lv_bipush (v := (-2 : Int32)) hx hb dX9_init_104 (by decide) ?_
  obtain ⟨n_q_75, q_75, he_q_75, hi_q_75, h⟩ := h
  refine fw_iast hx hb hK hF hS he_q_75 hi_q_75 dX9_init_106 (fun H locs hF hS => ?_)
  obtain ⟨f_76, hf_f_76⟩ : ∃ z, z = fup f_74 q_68 (.inl (1, n_q_75, .inl (upd q_75 ((1 : Int32)).toNatClampNeg (-2 : Int32)))) := ⟨_, rfl⟩
  rw [← hf_f_76] at hF; have h := h f_76 hf_f_76
  refine lv_dup hx hb dX9_init_107 rfl ?_
  refine lv_iconst (v := (2 : Int32)) hx hb dX9_init_108 (by decide) ?_
  refine lv_bipush (v := (-2 : Int32)) hx hb dX9_init_109 (by decide) ?_
  obtain ⟨n_q_77, q_77, he_q_77, hi_q_77, h⟩ := h
  refine fw_iast hx hb hK hF hS he_q_77 hi_q_77 dX9_init_111 (fun H locs hF hS => ?_)
  obtain ⟨f_78, hf_f_78⟩ : ∃ z, z = fup f_76 q_68 (.inl (1, n_q_77, .inl (upd q_77 ((2 : Int32)).toNatClampNeg (-2 : Int32)))) := ⟨_, rfl⟩
  rw [← hf_f_78] at hF; have h := h f_78 hf_f_78
  refine lv_dup hx hb dX9_init_112 rfl ?_
  refine lv_iconst (v := (3 : Int32)) hx hb dX9_init_113 (by decide) ?_
  refine lv_bipush (v := (-2 : Int32)) hx hb dX9_init_114 (by decide) ?_
  obtain ⟨n_q_79, q_79, he_q_79, hi_q_79, h⟩ := h
  refine fw_iast hx hb hK hF hS he_q_79 hi_q_79 dX9_init_116 (fun H locs hF hS => ?_)
  obtain ⟨f_80, hf_f_80⟩ : ∃ z, z = fup f_78 q_68 (.inl (1, n_q_79, .inl (upd q_79 ((3 : Int32)).toNatClampNeg (-2 : Int32)))) := ⟨_, rfl⟩
  rw [← hf_f_80] at hF; have h := h f_80 hf_f_80
  obtain ⟨fs_81, he_fs_81, hl_fs_81, h⟩ := h
  refine fw_putF (v := .ref q_68) (ty := (.array .int)) (C := RX9) (T := TX9) (N := 34) hx hb hts hin_X9 tyX9 (tyX9_ok) nmX9 hown hK hF hS he_fs_81 rfl 18 (by decide) (hts (.fieldLink RX9 44 "FrontCodedIndexModel" "cursors" "[I") (by decide +kernel)) (fun _ h9 => h9) rfl hin rfl (by decide +kernel) rfl rfl hl_fs_81 dX9_init_117 (fun H locs hF hS => ?_)
  obtain ⟨f_82, hf_f_82⟩ : ∃ z, z = fup f_80 a0 (.inr (12, fs_81.set 18 (.ref q_68))) := ⟨_, rfl⟩
  rw [← hf_f_82] at hF; have h := h f_82 hf_f_82
  refine lv_aload_n hx hb dX9_init_120 rfl (lv_at hl 0 rfl) ?_
  refine lv_sipush (v := (300 : Int32)) hx hb dX9_init_121 (by decide) ?_
  obtain ⟨hb0, n_85, hN, hb1, hb2, hb3, h⟩ := h
  refine fw_newa (atype := .int) (a0 := (n_85, .inl fun _ => 0)) hx hb (hts (.arrayClass .int) (by decide +kernel)) (ty := .int) rfl 1 rfl va_RA_int hK hF hS hA (fun cA => rfl) hb0 hN (by show _ * 4 ≤ _; omega) (by show _ ≤ mc; omega) (by show _ ≤ ms; omega) dX9_init_124 (fun q_83 H hn_q_83 hF hS => ?_)
  obtain ⟨f_84, hf_f_84⟩ : ∃ z, z = fup f_82 q_83 (.inl (1, (n_85, .inl fun _ => 0))) := ⟨_, rfl⟩
  rw [← hf_f_84] at hF; have h := h q_83 hn_q_83 f_84 hf_f_84
  obtain ⟨cs_86, hcs⟩ : ∃ z, z = (cs_71 + 1) := ⟨_, rfl⟩; obtain ⟨sl_87, hsl⟩ : ∃ z, z = (sl_72 + n_85) := ⟨_, rfl⟩
  have hbc : cs_86 + (((((((((((mc - 1) - 1) - 1) - 1) - 1) - 1) - 1) - 1) - 1) - 1) - 1) ≤ mc := by omega
  have hbs : sl_87 + (((((((((((ms - n_3) - n_10) - n_19) - n_26) - n_33) - n_42) - n_49) - n_56) - n_63) - n_70) - n_85) ≤ ms := by omega
  refine W.widen (k := cs_86) (n := sl_87) (by omega) (by omega) ?_
  clear hcs hsl
  obtain ⟨fs_88, he_fs_88, hl_fs_88, h⟩ := h
  refine fw_putF (v := .ref q_83) (ty := (.array .int)) (C := RX9) (T := TX9) (N := 34) hx hb hts hin_X9 tyX9 (tyX9_ok) nmX9 hown hK hF hS he_fs_88 rfl 20 (by decide) (hts (.fieldLink RX9 47 "FrontCodedIndexModel" "waitSize" "[I") (by decide +kernel)) (fun _ h9 => h9) rfl hin rfl (by decide +kernel) rfl rfl hl_fs_88 dX9_init_126 (fun H locs hF hS => ?_)
  obtain ⟨f_89, hf_f_89⟩ : ∃ z, z = fup f_84 a0 (.inr (12, fs_88.set 20 (.ref q_83))) := ⟨_, rfl⟩
  rw [← hf_f_89] at hF; have h := h f_89 hf_f_89
  refine lv_aload_n hx hb dX9_init_129 rfl (lv_at hl 0 rfl) ?_
  refine lv_sipush (v := (3600 : Int32)) hx hb dX9_init_130 (by decide) ?_
  obtain ⟨hb0, n_92, hN, hb1, hb2, hb3, h⟩ := h
  refine fw_newa (atype := .int) (a0 := (n_92, .inl fun _ => 0)) hx hb (hts (.arrayClass .int) (by decide +kernel)) (ty := .int) rfl 1 rfl va_RA_int hK hF hS hA (fun cA => rfl) hb0 hN (by show _ * 4 ≤ _; omega) (by show _ ≤ mc; omega) (by show _ ≤ ms; omega) dX9_init_133 (fun q_90 H hn_q_90 hF hS => ?_)
  obtain ⟨f_91, hf_f_91⟩ : ∃ z, z = fup f_89 q_90 (.inl (1, (n_92, .inl fun _ => 0))) := ⟨_, rfl⟩
  rw [← hf_f_91] at hF; have h := h q_90 hn_q_90 f_91 hf_f_91
  obtain ⟨cs_93, hcs⟩ : ∃ z, z = (cs_86 + 1) := ⟨_, rfl⟩; obtain ⟨sl_94, hsl⟩ : ∃ z, z = (sl_87 + n_92) := ⟨_, rfl⟩
  have hbc : cs_93 + ((((((((((((mc - 1) - 1) - 1) - 1) - 1) - 1) - 1) - 1) - 1) - 1) - 1) - 1) ≤ mc := by omega
  have hbs : sl_94 + ((((((((((((ms - n_3) - n_10) - n_19) - n_26) - n_33) - n_42) - n_49) - n_56) - n_63) - n_70) - n_85) - n_92) ≤ ms := by omega
  refine W.widen (k := cs_93) (n := sl_94) (by omega) (by omega) ?_
  clear hcs hsl
  obtain ⟨fs_95, he_fs_95, hl_fs_95, h⟩ := h
  refine fw_putF (v := .ref q_90) (ty := (.array .int)) (C := RX9) (T := TX9) (N := 34) hx hb hts hin_X9 tyX9 (tyX9_ok) nmX9 hown hK hF hS he_fs_95 rfl 21 (by decide) (hts (.fieldLink RX9 50 "FrontCodedIndexModel" "waitBytes" "[I") (by decide +kernel)) (fun _ h9 => h9) rfl hin rfl (by decide +kernel) rfl rfl hl_fs_95 dX9_init_135 (fun H locs hF hS => ?_)
  obtain ⟨f_96, hf_f_96⟩ : ∃ z, z = fup f_91 a0 (.inr (12, fs_95.set 21 (.ref q_90))) := ⟨_, rfl⟩
  rw [← hf_f_96] at hF; have h := h f_96 hf_f_96
  refine lv_aload_n hx hb dX9_init_138 rfl (lv_at hl 0 rfl) ?_
  refine lv_sipush (v := (300 : Int32)) hx hb dX9_init_139 (by decide) ?_
  obtain ⟨hb0, n_99, hN, hb1, hb2, hb3, h⟩ := h
  refine fw_newa (atype := .int) (a0 := (n_99, .inl fun _ => 0)) hx hb (hts (.arrayClass .int) (by decide +kernel)) (ty := .int) rfl 1 rfl va_RA_int hK hF hS hA (fun cA => rfl) hb0 hN (by show _ * 4 ≤ _; omega) (by show _ ≤ mc; omega) (by show _ ≤ ms; omega) dX9_init_142 (fun q_97 H hn_q_97 hF hS => ?_)
  obtain ⟨f_98, hf_f_98⟩ : ∃ z, z = fup f_96 q_97 (.inl (1, (n_99, .inl fun _ => 0))) := ⟨_, rfl⟩
  rw [← hf_f_98] at hF; have h := h q_97 hn_q_97 f_98 hf_f_98
  obtain ⟨cs_100, hcs⟩ : ∃ z, z = (cs_93 + 1) := ⟨_, rfl⟩; obtain ⟨sl_101, hsl⟩ : ∃ z, z = (sl_94 + n_99) := ⟨_, rfl⟩
  have hbc : cs_100 + (((((((((((((mc - 1) - 1) - 1) - 1) - 1) - 1) - 1) - 1) - 1) - 1) - 1) - 1) - 1) ≤ mc := by omega
  have hbs : sl_101 + (((((((((((((ms - n_3) - n_10) - n_19) - n_26) - n_33) - n_42) - n_49) - n_56) - n_63) - n_70) - n_85) - n_92) - n_99) ≤ ms := by omega
  refine W.widen (k := cs_100) (n := sl_101) (by omega) (by omega) ?_
  clear hcs hsl
  obtain ⟨fs_102, he_fs_102, hl_fs_102, h⟩ := h
  refine fw_putF (v := .ref q_97) (ty := (.array .int)) (C := RX9) (T := TX9) (N := 34) hx hb hts hin_X9 tyX9 (tyX9_ok) nmX9 hown hK hF hS he_fs_102 rfl 22 (by decide) (hts (.fieldLink RX9 53 "FrontCodedIndexModel" "waitValues" "[I") (by decide +kernel)) (fun _ h9 => h9) rfl hin rfl (by decide +kernel) rfl rfl hl_fs_102 dX9_init_144 (fun H locs hF hS => ?_)
  obtain ⟨f_103, hf_f_103⟩ : ∃ z, z = fup f_98 a0 (.inr (12, fs_102.set 22 (.ref q_97))) := ⟨_, rfl⟩
  rw [← hf_f_103] at hF; have h := h f_103 hf_f_103
  refine lv_aload_n hx hb dX9_init_147 rfl (lv_at hl 0 rfl) ?_
  refine lv_sipush (v := (300 : Int32)) hx hb dX9_init_148 (by decide) ?_
  obtain ⟨hb0, n_106, hN, hb1, hb2, hb3, h⟩ := h
  refine fw_newa (atype := .int) (a0 := (n_106, .inl fun _ => 0)) hx hb (hts (.arrayClass .int) (by decide +kernel)) (ty := .int) rfl 1 rfl va_RA_int hK hF hS hA (fun cA => rfl) hb0 hN (by show _ * 4 ≤ _; omega) (by show _ ≤ mc; omega) (by show _ ≤ ms; omega) dX9_init_151 (fun q_104 H hn_q_104 hF hS => ?_)
  obtain ⟨f_105, hf_f_105⟩ : ∃ z, z = fup f_103 q_104 (.inl (1, (n_106, .inl fun _ => 0))) := ⟨_, rfl⟩
  rw [← hf_f_105] at hF; have h := h q_104 hn_q_104 f_105 hf_f_105
  obtain ⟨cs_107, hcs⟩ : ∃ z, z = (cs_100 + 1) := ⟨_, rfl⟩; obtain ⟨sl_108, hsl⟩ : ∃ z, z = (sl_101 + n_106) := ⟨_, rfl⟩
  have hbc : cs_107 + ((((((((((((((mc - 1) - 1) - 1) - 1) - 1) - 1) - 1) - 1) - 1) - 1) - 1) - 1) - 1) - 1) ≤ mc := by omega
  have hbs : sl_108 + ((((((((((((((ms - n_3) - n_10) - n_19) - n_26) - n_33) - n_42) - n_49) - n_56) - n_63) - n_70) - n_85) - n_92) - n_99) - n_106) ≤ ms := by omega
  refine W.widen (k := cs_107) (n := sl_108) (by omega) (by omega) ?_
  clear hcs hsl
  obtain ⟨fs_109, he_fs_109, hl_fs_109, h⟩ := h
  refine fw_putF (v := .ref q_104) (ty := (.array .int)) (C := RX9) (T := TX9) (N := 34) hx hb hts hin_X9 tyX9 (tyX9_ok) nmX9 hown hK hF hS he_fs_109 rfl 27 (by decide) (hts (.fieldLink RX9 56 "FrontCodedIndexModel" "savedSizeOf" "[I") (by decide +kernel)) (fun _ h9 => h9) rfl hin rfl (by decide +kernel) rfl rfl hl_fs_109 dX9_init_153 (fun H locs hF hS => ?_)
  obtain ⟨f_110, hf_f_110⟩ : ∃ z, z = fup f_105 a0 (.inr (12, fs_109.set 27 (.ref q_104))) := ⟨_, rfl⟩
  rw [← hf_f_110] at hF; have h := h f_110 hf_f_110
  refine lv_aload_n hx hb dX9_init_156 rfl (lv_at hl 0 rfl) ?_
  refine lv_sipush (v := (3600 : Int32)) hx hb dX9_init_157 (by decide) ?_
  obtain ⟨hb0, n_113, hN, hb1, hb2, hb3, h⟩ := h
  refine fw_newa (atype := .int) (a0 := (n_113, .inl fun _ => 0)) hx hb (hts (.arrayClass .int) (by decide +kernel)) (ty := .int) rfl 1 rfl va_RA_int hK hF hS hA (fun cA => rfl) hb0 hN (by show _ * 4 ≤ _; omega) (by show _ ≤ mc; omega) (by show _ ≤ ms; omega) dX9_init_160 (fun q_111 H hn_q_111 hF hS => ?_)
  obtain ⟨f_112, hf_f_112⟩ : ∃ z, z = fup f_110 q_111 (.inl (1, (n_113, .inl fun _ => 0))) := ⟨_, rfl⟩
  rw [← hf_f_112] at hF; have h := h q_111 hn_q_111 f_112 hf_f_112
  obtain ⟨cs_114, hcs⟩ : ∃ z, z = (cs_107 + 1) := ⟨_, rfl⟩; obtain ⟨sl_115, hsl⟩ : ∃ z, z = (sl_108 + n_113) := ⟨_, rfl⟩
  have hbc : cs_114 + (((((((((((((((mc - 1) - 1) - 1) - 1) - 1) - 1) - 1) - 1) - 1) - 1) - 1) - 1) - 1) - 1) - 1) ≤ mc := by omega
  have hbs : sl_115 + (((((((((((((((ms - n_3) - n_10) - n_19) - n_26) - n_33) - n_42) - n_49) - n_56) - n_63) - n_70) - n_85) - n_92) - n_99) - n_106) - n_113) ≤ ms := by omega
  refine W.widen (k := cs_114) (n := sl_115) (by omega) (by omega) ?_
  clear hcs hsl
  obtain ⟨fs_116, he_fs_116, hl_fs_116, h⟩ := h
  refine fw_putF (v := .ref q_111) (ty := (.array .int)) (C := RX9) (T := TX9) (N := 34) hx hb hts hin_X9 tyX9 (tyX9_ok) nmX9 hown hK hF hS he_fs_116 rfl 28 (by decide) (hts (.fieldLink RX9 59 "FrontCodedIndexModel" "savedBytes" "[I") (by decide +kernel)) (fun _ h9 => h9) rfl hin rfl (by decide +kernel) rfl rfl hl_fs_116 dX9_init_162 (fun H locs hF hS => ?_)
  obtain ⟨f_117, hf_f_117⟩ : ∃ z, z = fup f_112 a0 (.inr (12, fs_116.set 28 (.ref q_111))) := ⟨_, rfl⟩
  rw [← hf_f_117] at hF; have h := h f_117 hf_f_117
  refine lv_aload_n hx hb dX9_init_165 rfl (lv_at hl 0 rfl) ?_
  refine lv_sipush (v := (300 : Int32)) hx hb dX9_init_166 (by decide) ?_
  obtain ⟨hb0, n_120, hN, hb1, hb2, hb3, h⟩ := h
  refine fw_newa (atype := .int) (a0 := (n_120, .inl fun _ => 0)) hx hb (hts (.arrayClass .int) (by decide +kernel)) (ty := .int) rfl 1 rfl va_RA_int hK hF hS hA (fun cA => rfl) hb0 hN (by show _ * 4 ≤ _; omega) (by show _ ≤ mc; omega) (by show _ ≤ ms; omega) dX9_init_169 (fun q_118 H hn_q_118 hF hS => ?_)
  obtain ⟨f_119, hf_f_119⟩ : ∃ z, z = fup f_117 q_118 (.inl (1, (n_120, .inl fun _ => 0))) := ⟨_, rfl⟩
  rw [← hf_f_119] at hF; have h := h q_118 hn_q_118 f_119 hf_f_119
  obtain ⟨cs_121, hcs⟩ : ∃ z, z = (cs_114 + 1) := ⟨_, rfl⟩; obtain ⟨sl_122, hsl⟩ : ∃ z, z = (sl_115 + n_120) := ⟨_, rfl⟩
  have hbc : cs_121 + ((((((((((((((((mc - 1) - 1) - 1) - 1) - 1) - 1) - 1) - 1) - 1) - 1) - 1) - 1) - 1) - 1) - 1) - 1) ≤ mc := by omega
  have hbs : sl_122 + ((((((((((((((((ms - n_3) - n_10) - n_19) - n_26) - n_33) - n_42) - n_49) - n_56) - n_63) - n_70) - n_85) - n_92) - n_99) - n_106) - n_113) - n_120) ≤ ms := by omega
  refine W.widen (k := cs_121) (n := sl_122) (by omega) (by omega) ?_
  clear hcs hsl
  obtain ⟨fs_123, he_fs_123, hl_fs_123, h⟩ := h
  refine fw_putF (v := .ref q_118) (ty := (.array .int)) (C := RX9) (T := TX9) (N := 34) hx hb hts hin_X9 tyX9 (tyX9_ok) nmX9 hown hK hF hS he_fs_123 rfl 29 (by decide) (hts (.fieldLink RX9 62 "FrontCodedIndexModel" "savedValues" "[I") (by decide +kernel)) (fun _ h9 => h9) rfl hin rfl (by decide +kernel) rfl rfl hl_fs_123 dX9_init_171 (fun H locs hF hS => ?_)
  obtain ⟨f_124, hf_f_124⟩ : ∃ z, z = fup f_119 a0 (.inr (12, fs_123.set 29 (.ref q_118))) := ⟨_, rfl⟩
  rw [← hf_f_124] at hF; have h := h f_124 hf_f_124
  refine lv_aload_n hx hb dX9_init_174 rfl (lv_at hl 0 rfl) ?_
  refine lv_bipush (v := (12 : Int32)) hx hb dX9_init_175 (by decide) ?_
  obtain ⟨hb0, n_127, hN, hb1, hb2, hb3, h⟩ := h
  refine fw_newa (atype := .int) (a0 := (n_127, .inl fun _ => 0)) hx hb (hts (.arrayClass .int) (by decide +kernel)) (ty := .int) rfl 1 rfl va_RA_int hK hF hS hA (fun cA => rfl) hb0 hN (by show _ * 4 ≤ _; omega) (by show _ ≤ mc; omega) (by show _ ≤ ms; omega) dX9_init_177 (fun q_125 H hn_q_125 hF hS => ?_)
  obtain ⟨f_126, hf_f_126⟩ : ∃ z, z = fup f_124 q_125 (.inl (1, (n_127, .inl fun _ => 0))) := ⟨_, rfl⟩
  rw [← hf_f_126] at hF; have h := h q_125 hn_q_125 f_126 hf_f_126
  obtain ⟨cs_128, hcs⟩ : ∃ z, z = (cs_121 + 1) := ⟨_, rfl⟩; obtain ⟨sl_129, hsl⟩ : ∃ z, z = (sl_122 + n_127) := ⟨_, rfl⟩
  have hbc : cs_128 + (((((((((((((((((mc - 1) - 1) - 1) - 1) - 1) - 1) - 1) - 1) - 1) - 1) - 1) - 1) - 1) - 1) - 1) - 1) - 1) ≤ mc := by omega
  have hbs : sl_129 + (((((((((((((((((ms - n_3) - n_10) - n_19) - n_26) - n_33) - n_42) - n_49) - n_56) - n_63) - n_70) - n_85) - n_92) - n_99) - n_106) - n_113) - n_120) - n_127) ≤ ms := by omega
  refine W.widen (k := cs_128) (n := sl_129) (by omega) (by omega) ?_
  clear hcs hsl
  obtain ⟨fs_130, he_fs_130, hl_fs_130, h⟩ := h
  refine fw_putF (v := .ref q_125) (ty := (.array .int)) (C := RX9) (T := TX9) (N := 34) hx hb hts hin_X9 tyX9 (tyX9_ok) nmX9 hown hK hF hS he_fs_130 rfl 30 (by decide) (hts (.fieldLink RX9 65 "FrontCodedIndexModel" "savedMany" "[I") (by decide +kernel)) (fun _ h9 => h9) rfl hin rfl (by decide +kernel) rfl rfl hl_fs_130 dX9_init_179 (fun H locs hF hS => ?_)
  obtain ⟨f_131, hf_f_131⟩ : ∃ z, z = fup f_126 a0 (.inr (12, fs_130.set 30 (.ref q_125))) := ⟨_, rfl⟩
  rw [← hf_f_131] at hF; have h := h f_131 hf_f_131
  refine lv_aload_n hx hb dX9_init_182 rfl (lv_at hl 0 rfl) ?_
  refine lv_sipush (v := (4800 : Int32)) hx hb dX9_init_183 (by decide) ?_
  obtain ⟨hb0, n_134, hN, hb1, hb2, hb3, h⟩ := h
  refine fw_newa (atype := .int) (a0 := (n_134, .inl fun _ => 0)) hx hb (hts (.arrayClass .int) (by decide +kernel)) (ty := .int) rfl 1 rfl va_RA_int hK hF hS hA (fun cA => rfl) hb0 hN (by show _ * 4 ≤ _; omega) (by show _ ≤ mc; omega) (by show _ ≤ ms; omega) dX9_init_186 (fun q_132 H hn_q_132 hF hS => ?_)
  obtain ⟨f_133, hf_f_133⟩ : ∃ z, z = fup f_131 q_132 (.inl (1, (n_134, .inl fun _ => 0))) := ⟨_, rfl⟩
  rw [← hf_f_133] at hF; have h := h q_132 hn_q_132 f_133 hf_f_133
  obtain ⟨cs_135, hcs⟩ : ∃ z, z = (cs_128 + 1) := ⟨_, rfl⟩; obtain ⟨sl_136, hsl⟩ : ∃ z, z = (sl_129 + n_134) := ⟨_, rfl⟩
  have hbc : cs_135 + ((((((((((((((((((mc - 1) - 1) - 1) - 1) - 1) - 1) - 1) - 1) - 1) - 1) - 1) - 1) - 1) - 1) - 1) - 1) - 1) - 1) ≤ mc := by omega
  have hbs : sl_136 + ((((((((((((((((((ms - n_3) - n_10) - n_19) - n_26) - n_33) - n_42) - n_49) - n_56) - n_63) - n_70) - n_85) - n_92) - n_99) - n_106) - n_113) - n_120) - n_127) - n_134) ≤ ms := by omega
  refine W.widen (k := cs_135) (n := sl_136) (by omega) (by omega) ?_
  clear hcs hsl
  obtain ⟨fs_137, he_fs_137, hl_fs_137, h⟩ := h
  refine fw_putF (v := .ref q_132) (ty := (.array .int)) (C := RX9) (T := TX9) (N := 34) hx hb hts hin_X9 tyX9 (tyX9_ok) nmX9 hown hK hF hS he_fs_137 rfl 31 (by decide) (hts (.fieldLink RX9 68 "FrontCodedIndexModel" "savedParts" "[I") (by decide +kernel)) (fun _ h9 => h9) rfl hin rfl (by decide +kernel) rfl rfl hl_fs_137 dX9_init_188 (fun H locs hF hS => ?_)
  obtain ⟨f_138, hf_f_138⟩ : ∃ z, z = fup f_133 a0 (.inr (12, fs_137.set 31 (.ref q_132))) := ⟨_, rfl⟩
  rw [← hf_f_138] at hF; have h := h f_138 hf_f_138
  refine lv_aload_n hx hb dX9_init_191 rfl (lv_at hl 0 rfl) ?_
  refine lv_sipush (v := (400 : Int32)) hx hb dX9_init_192 (by decide) ?_
  obtain ⟨hb0, n_141, hN, hb1, hb2, hb3, h⟩ := h
  refine fw_newa (atype := .int) (a0 := (n_141, .inl fun _ => 0)) hx hb (hts (.arrayClass .int) (by decide +kernel)) (ty := .int) rfl 1 rfl va_RA_int hK hF hS hA (fun cA => rfl) hb0 hN (by show _ * 4 ≤ _; omega) (by show _ ≤ mc; omega) (by show _ ≤ ms; omega) dX9_init_195 (fun q_139 H hn_q_139 hF hS => ?_)
  obtain ⟨f_140, hf_f_140⟩ : ∃ z, z = fup f_138 q_139 (.inl (1, (n_141, .inl fun _ => 0))) := ⟨_, rfl⟩
  rw [← hf_f_140] at hF; have h := h q_139 hn_q_139 f_140 hf_f_140
  obtain ⟨cs_142, hcs⟩ : ∃ z, z = (cs_135 + 1) := ⟨_, rfl⟩; obtain ⟨sl_143, hsl⟩ : ∃ z, z = (sl_136 + n_141) := ⟨_, rfl⟩
  have hbc : cs_142 + (((((((((((((((((((mc - 1) - 1) - 1) - 1) - 1) - 1) - 1) - 1) - 1) - 1) - 1) - 1) - 1) - 1) - 1) - 1) - 1) - 1) - 1) ≤ mc := by omega
  have hbs : sl_143 + (((((((((((((((((((ms - n_3) - n_10) - n_19) - n_26) - n_33) - n_42) - n_49) - n_56) - n_63) - n_70) - n_85) - n_92) - n_99) - n_106) - n_113) - n_120) - n_127) - n_134) - n_141) ≤ ms := by omega
  refine W.widen (k := cs_142) (n := sl_143) (by omega) (by omega) ?_
  clear hcs hsl
  obtain ⟨fs_144, he_fs_144, hl_fs_144, h⟩ := h
  refine fw_putF (v := .ref q_139) (ty := (.array .int)) (C := RX9) (T := TX9) (N := 34) hx hb hts hin_X9 tyX9 (tyX9_ok) nmX9 hown hK hF hS he_fs_144 rfl 32 (by decide) (hts (.fieldLink RX9 71 "FrontCodedIndexModel" "savedSepSize" "[I") (by decide +kernel)) (fun _ h9 => h9) rfl hin rfl (by decide +kernel) rfl rfl hl_fs_144 dX9_init_197 (fun H locs hF hS => ?_)
  obtain ⟨f_145, hf_f_145⟩ : ∃ z, z = fup f_140 a0 (.inr (12, fs_144.set 32 (.ref q_139))) := ⟨_, rfl⟩
  rw [← hf_f_145] at hF; have h := h f_145 hf_f_145
  refine lv_aload_n hx hb dX9_init_200 rfl (lv_at hl 0 rfl) ?_
  refine lv_sipush (v := (4800 : Int32)) hx hb dX9_init_201 (by decide) ?_
  obtain ⟨hb0, n_148, hN, hb1, hb2, hb3, h⟩ := h
  refine fw_newa (atype := .int) (a0 := (n_148, .inl fun _ => 0)) hx hb (hts (.arrayClass .int) (by decide +kernel)) (ty := .int) rfl 1 rfl va_RA_int hK hF hS hA (fun cA => rfl) hb0 hN (by show _ * 4 ≤ _; omega) (by show _ ≤ mc; omega) (by show _ ≤ ms; omega) dX9_init_204 (fun q_146 H hn_q_146 hF hS => ?_)
  obtain ⟨f_147, hf_f_147⟩ : ∃ z, z = fup f_145 q_146 (.inl (1, (n_148, .inl fun _ => 0))) := ⟨_, rfl⟩
  rw [← hf_f_147] at hF; have h := h q_146 hn_q_146 f_147 hf_f_147
  obtain ⟨cs_149, hcs⟩ : ∃ z, z = (cs_142 + 1) := ⟨_, rfl⟩; obtain ⟨sl_150, hsl⟩ : ∃ z, z = (sl_143 + n_148) := ⟨_, rfl⟩
  have hbc : cs_149 + ((((((((((((((((((((mc - 1) - 1) - 1) - 1) - 1) - 1) - 1) - 1) - 1) - 1) - 1) - 1) - 1) - 1) - 1) - 1) - 1) - 1) - 1) - 1) ≤ mc := by omega
  have hbs : sl_150 + ((((((((((((((((((((ms - n_3) - n_10) - n_19) - n_26) - n_33) - n_42) - n_49) - n_56) - n_63) - n_70) - n_85) - n_92) - n_99) - n_106) - n_113) - n_120) - n_127) - n_134) - n_141) - n_148) ≤ ms := by omega
  refine W.widen (k := cs_149) (n := sl_150) (by omega) (by omega) ?_
  clear hcs hsl
  obtain ⟨fs_151, he_fs_151, hl_fs_151, h⟩ := h
  refine fw_putF (v := .ref q_146) (ty := (.array .int)) (C := RX9) (T := TX9) (N := 34) hx hb hts hin_X9 tyX9 (tyX9_ok) nmX9 hown hK hF hS he_fs_151 rfl 33 (by decide) (hts (.fieldLink RX9 74 "FrontCodedIndexModel" "savedSep" "[I") (by decide +kernel)) (fun _ h9 => h9) rfl hin rfl (by decide +kernel) rfl rfl hl_fs_151 dX9_init_206 (fun H locs hF hS => ?_)
  obtain ⟨f_152, hf_f_152⟩ : ∃ z, z = fup f_147 a0 (.inr (12, fs_151.set 33 (.ref q_146))) := ⟨_, rfl⟩
  rw [← hf_f_152] at hF; have h := h f_152 hf_f_152
  refine lv_aload_n hx hb dX9_init_209 rfl (lv_at hl 0 rfl) ?_
  obtain ⟨fs_154, a_153, he_fs_154, hv_fs_154, h⟩ := h
  refine fw_get (C := RX9) (T := TX9) (N := 34) hx hb hts hin_X9 hown hK hF he_fs_154 rfl 14 (by decide) (hts (.fieldLink RX9 32 "FrontCodedIndexModel" "many" "[I") (by decide +kernel)) (fun _ h9 => h9) hv_fs_154 dX9_init_210 ?_
  refine lv_iconst (v := (0 : Int32)) hx hb dX9_init_213 (by decide) ?_
  refine lv_iconst (v := (1 : Int32)) hx hb dX9_init_214 (by decide) ?_
  obtain ⟨n_q_155, q_155, he_q_155, hi_q_155, h⟩ := h
  refine fw_iast hx hb hK hF hS he_q_155 hi_q_155 dX9_init_215 (fun H locs hF hS => ?_)
  obtain ⟨f_156, hf_f_156⟩ : ∃ z, z = fup f_152 a_153 (.inl (1, n_q_155, .inl (upd q_155 ((0 : Int32)).toNatClampNeg (1 : Int32)))) := ⟨_, rfl⟩
  rw [← hf_f_156] at hF; have h := h f_156 hf_f_156
  refine W.widen (k := mc) (n := ms) (by omega) (by omega) ?_
  exact W.vret hx hb hr (fun t ht hW => ⟨⟨f_156, rfl, h, by rw [ht]; exact hF, FK.moved hW.alike hK⟩, hS.F ht⟩) hS.2.2 dX9_init_216
