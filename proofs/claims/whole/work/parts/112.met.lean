set_option maxRecDepth 100000 in
set_option maxHeartbeats 4000000 in
theorem w_X10_copies_221 {X : Gc} {ad : Nat → Nat} {res : (Unit × Mem)} {r_50 : Int32 → Mem → Option (Unit × Mem)} (C : Gk X ad cX10_copies "NineTonguesModel" 4 1) (Rt : Gr X ad none none res.2) (x1 : Int32) (x2 : Int32) (x3 : Int32) (M : Mem) (h_50 : ∀ (x3 : Int32) (M : Mem), r_50 x3 M = some res → G X ad 50 4 [(0, .ref (ad 108)), (1, .int x1), (2, .int x2), (3, .int x3)] [] M) (hf : f_X10_copies_221 r_50 x1 x2 x3 M = some res) : G X ad 221 4 [(0, .ref (ad 108)), (1, .int x1), (2, .int x2), (3, .int x3)] [] M := by
  unfold f_X10_copies_221 at hf
  refine G.iinc (pl := 3) (v := (x3 + 1)) (lv' := [(3, .int (x3 + 1)), (0, .ref (ad 108)), (1, .int x1), (2, .int x2)]) C dX10_copies_221 rfl rfl (by decide) rfl ?_
  refine G.goto (tgt := 50) C dX10_copies_224 (by decide) ?_
  refine G.sub (lv' := [(0, .ref (ad 108)), (1, .int x1), (2, .int x2), (3, .int (x3 + 1))]) [1, 2, 3, 0] rfl ?_
  exact h_50 (x3 + 1) M hf
set_option maxRecDepth 100000 in
set_option maxHeartbeats 4000000 in
theorem w_X10_copies_193 {X : Gc} {ad : Nat → Nat} {res : (Unit × Mem)} {r_50 : Int32 → Mem → Option (Unit × Mem)} (C : Gk X ad cX10_copies "NineTonguesModel" 4 1) (Rt : Gr X ad none none res.2) (x1 : Int32) (x2 : Int32) (x3 : Int32) (M : Mem) (h_50 : ∀ (x3 : Int32) (M : Mem), r_50 x3 M = some res → G X ad 50 4 [(0, .ref (ad 108)), (1, .int x1), (2, .int x2), (3, .int x3)] [] M) (hf : f_X10_copies_193 r_50 x1 x2 x3 M = some res) : G X ad 193 4 [(0, .ref (ad 108)), (1, .int x1), (2, .int x2), (3, .int x3)] [] M := by
  unfold f_X10_copies_193 at hf
  refine G.iload_n (pl := 3) C dX10_copies_193 rfl rfl ?_
  refine G.bipush (v := 12) C dX10_copies_194 (by decide) ?_
  refine G.icmp_ge (tgt := 221) C dX10_copies_196 (by decide) (fun hc1 => ?_) (fun hc1 => ?_)
  · replace hf := gIf hf hc1
    exact w_X10_copies_221 C Rt x1 x2 x3 M h_50 hf
  · replace hf := gIfn hf hc1
    refine G.aload_n (pl := 0) C dX10_copies_199 rfl rfl ?_
    refine gf10_9 C o_108 k4_106 dX10_copies_200 ?_
    refine G.bipush (v := 12) C dX10_copies_203 (by decide) ?_
    refine G.iload_n (pl := 2) C dX10_copies_205 rfl rfl ?_
    refine G.imul C dX10_copies_206 ?_
    refine G.iload_n (pl := 3) C dX10_copies_207 rfl rfl ?_
    refine G.iadd C dX10_copies_208 ?_
    refine G.aload_n (pl := 0) C dX10_copies_209 rfl rfl ?_
    refine gf10_9 C o_108 k4_106 dX10_copies_210 ?_
    refine G.bipush (v := 12) C dX10_copies_213 (by decide) ?_
    refine G.iload_n (pl := 1) C dX10_copies_215 rfl rfl ?_
    refine G.imul C dX10_copies_216 ?_
    refine G.iload_n (pl := 3) C dX10_copies_217 rfl rfl ?_
    refine G.iadd C dX10_copies_218 ?_
    obtain ⟨v1, ev1, hi1, hf⟩ := rd_some hf
    refine G.iald C a_118 hi1 ev1 dX10_copies_219 ?_
    obtain ⟨hi2, hf⟩ := ck_some hf
    obtain ⟨M1, eM1, hf⟩ := stm_some hf
    refine G.iast C a_118 hi2 eM1 dX10_copies_220 ?_
    exact w_X10_copies_221 C Rt x1 x2 x3 M1 h_50 hf
set_option maxRecDepth 100000 in
set_option maxHeartbeats 4000000 in
theorem w_X10_copies_165 {X : Gc} {ad : Nat → Nat} {res : (Unit × Mem)} {r_50 : Int32 → Mem → Option (Unit × Mem)} (C : Gk X ad cX10_copies "NineTonguesModel" 4 1) (Rt : Gr X ad none none res.2) (x1 : Int32) (x2 : Int32) (x3 : Int32) (M : Mem) (h_50 : ∀ (x3 : Int32) (M : Mem), r_50 x3 M = some res → G X ad 50 4 [(0, .ref (ad 108)), (1, .int x1), (2, .int x2), (3, .int x3)] [] M) (hf : f_X10_copies_165 r_50 x1 x2 x3 M = some res) : G X ad 165 4 [(0, .ref (ad 108)), (1, .int x1), (2, .int x2), (3, .int x3)] [] M := by
  unfold f_X10_copies_165 at hf
  refine G.iload_n (pl := 3) C dX10_copies_165 rfl rfl ?_
  refine G.bipush (v := 16) C dX10_copies_166 (by decide) ?_
  refine G.icmp_ge (tgt := 193) C dX10_copies_168 (by decide) (fun hc1 => ?_) (fun hc1 => ?_)
  · replace hf := gIf hf hc1
    exact w_X10_copies_193 C Rt x1 x2 x3 M h_50 hf
  · replace hf := gIfn hf hc1
    refine G.aload_n (pl := 0) C dX10_copies_171 rfl rfl ?_
    refine gf10_8 C o_108 k4_105 dX10_copies_172 ?_
    refine G.bipush (v := 16) C dX10_copies_175 (by decide) ?_
    refine G.iload_n (pl := 2) C dX10_copies_177 rfl rfl ?_
    refine G.imul C dX10_copies_178 ?_
    refine G.iload_n (pl := 3) C dX10_copies_179 rfl rfl ?_
    refine G.iadd C dX10_copies_180 ?_
    refine G.aload_n (pl := 0) C dX10_copies_181 rfl rfl ?_
    refine gf10_8 C o_108 k4_105 dX10_copies_182 ?_
    refine G.bipush (v := 16) C dX10_copies_185 (by decide) ?_
    refine G.iload_n (pl := 1) C dX10_copies_187 rfl rfl ?_
    refine G.imul C dX10_copies_188 ?_
    refine G.iload_n (pl := 3) C dX10_copies_189 rfl rfl ?_
    refine G.iadd C dX10_copies_190 ?_
    obtain ⟨v1, ev1, hi1, hf⟩ := rd_some hf
    refine G.iald C a_117 hi1 ev1 dX10_copies_191 ?_
    obtain ⟨hi2, hf⟩ := ck_some hf
    obtain ⟨M1, eM1, hf⟩ := stm_some hf
    refine G.iast C a_117 hi2 eM1 dX10_copies_192 ?_
    exact w_X10_copies_193 C Rt x1 x2 x3 M1 h_50 hf
set_option maxRecDepth 100000 in
set_option maxHeartbeats 4000000 in
theorem w_X10_copies_137 {X : Gc} {ad : Nat → Nat} {res : (Unit × Mem)} {r_50 : Int32 → Mem → Option (Unit × Mem)} (C : Gk X ad cX10_copies "NineTonguesModel" 4 1) (Rt : Gr X ad none none res.2) (x1 : Int32) (x2 : Int32) (x3 : Int32) (M : Mem) (h_50 : ∀ (x3 : Int32) (M : Mem), r_50 x3 M = some res → G X ad 50 4 [(0, .ref (ad 108)), (1, .int x1), (2, .int x2), (3, .int x3)] [] M) (hf : f_X10_copies_137 r_50 x1 x2 x3 M = some res) : G X ad 137 4 [(0, .ref (ad 108)), (1, .int x1), (2, .int x2), (3, .int x3)] [] M := by
  unfold f_X10_copies_137 at hf
  refine G.iload_n (pl := 3) C dX10_copies_137 rfl rfl ?_
  refine G.bipush (v := 96) C dX10_copies_138 (by decide) ?_
  refine G.icmp_ge (tgt := 165) C dX10_copies_140 (by decide) (fun hc1 => ?_) (fun hc1 => ?_)
  · replace hf := gIf hf hc1
    exact w_X10_copies_165 C Rt x1 x2 x3 M h_50 hf
  · replace hf := gIfn hf hc1
    refine G.aload_n (pl := 0) C dX10_copies_143 rfl rfl ?_
    refine gf10_7 C o_108 k4_104 dX10_copies_144 ?_
    refine G.bipush (v := 96) C dX10_copies_147 (by decide) ?_
    refine G.iload_n (pl := 2) C dX10_copies_149 rfl rfl ?_
    refine G.imul C dX10_copies_150 ?_
    refine G.iload_n (pl := 3) C dX10_copies_151 rfl rfl ?_
    refine G.iadd C dX10_copies_152 ?_
    refine G.aload_n (pl := 0) C dX10_copies_153 rfl rfl ?_
    refine gf10_7 C o_108 k4_104 dX10_copies_154 ?_
    refine G.bipush (v := 96) C dX10_copies_157 (by decide) ?_
    refine G.iload_n (pl := 1) C dX10_copies_159 rfl rfl ?_
    refine G.imul C dX10_copies_160 ?_
    refine G.iload_n (pl := 3) C dX10_copies_161 rfl rfl ?_
    refine G.iadd C dX10_copies_162 ?_
    obtain ⟨v1, ev1, hi1, hf⟩ := rd_some hf
    refine G.iald C a_116 hi1 ev1 dX10_copies_163 ?_
    obtain ⟨hi2, hf⟩ := ck_some hf
    obtain ⟨M1, eM1, hf⟩ := stm_some hf
    refine G.iast C a_116 hi2 eM1 dX10_copies_164 ?_
    exact w_X10_copies_165 C Rt x1 x2 x3 M1 h_50 hf
set_option maxRecDepth 100000 in
set_option maxHeartbeats 4000000 in
theorem w_X10_copies_109 {X : Gc} {ad : Nat → Nat} {res : (Unit × Mem)} {r_50 : Int32 → Mem → Option (Unit × Mem)} (C : Gk X ad cX10_copies "NineTonguesModel" 4 1) (Rt : Gr X ad none none res.2) (x1 : Int32) (x2 : Int32) (x3 : Int32) (M : Mem) (h_50 : ∀ (x3 : Int32) (M : Mem), r_50 x3 M = some res → G X ad 50 4 [(0, .ref (ad 108)), (1, .int x1), (2, .int x2), (3, .int x3)] [] M) (hf : f_X10_copies_109 r_50 x1 x2 x3 M = some res) : G X ad 109 4 [(0, .ref (ad 108)), (1, .int x1), (2, .int x2), (3, .int x3)] [] M := by
  unfold f_X10_copies_109 at hf
  refine G.iload_n (pl := 3) C dX10_copies_109 rfl rfl ?_
  refine G.bipush (v := 60) C dX10_copies_110 (by decide) ?_
  refine G.icmp_ge (tgt := 137) C dX10_copies_112 (by decide) (fun hc1 => ?_) (fun hc1 => ?_)
  · replace hf := gIf hf hc1
    exact w_X10_copies_137 C Rt x1 x2 x3 M h_50 hf
  · replace hf := gIfn hf hc1
    refine G.aload_n (pl := 0) C dX10_copies_115 rfl rfl ?_
    refine gf10_6 C o_108 k4_103 dX10_copies_116 ?_
    refine G.bipush (v := 60) C dX10_copies_119 (by decide) ?_
    refine G.iload_n (pl := 2) C dX10_copies_121 rfl rfl ?_
    refine G.imul C dX10_copies_122 ?_
    refine G.iload_n (pl := 3) C dX10_copies_123 rfl rfl ?_
    refine G.iadd C dX10_copies_124 ?_
    refine G.aload_n (pl := 0) C dX10_copies_125 rfl rfl ?_
    refine gf10_6 C o_108 k4_103 dX10_copies_126 ?_
    refine G.bipush (v := 60) C dX10_copies_129 (by decide) ?_
    refine G.iload_n (pl := 1) C dX10_copies_131 rfl rfl ?_
    refine G.imul C dX10_copies_132 ?_
    refine G.iload_n (pl := 3) C dX10_copies_133 rfl rfl ?_
    refine G.iadd C dX10_copies_134 ?_
    obtain ⟨v1, ev1, hi1, hf⟩ := rd_some hf
    refine G.iald C a_115 hi1 ev1 dX10_copies_135 ?_
    obtain ⟨hi2, hf⟩ := ck_some hf
    obtain ⟨M1, eM1, hf⟩ := stm_some hf
    refine G.iast C a_115 hi2 eM1 dX10_copies_136 ?_
    exact w_X10_copies_137 C Rt x1 x2 x3 M1 h_50 hf
set_option maxRecDepth 100000 in
set_option maxHeartbeats 4000000 in
theorem w_X10_copies_50_b {X : Gc} {ad : Nat → Nat} {res : (Unit × Mem)} {r_50 : Int32 → Mem → Option (Unit × Mem)} (C : Gk X ad cX10_copies "NineTonguesModel" 4 1) (Rt : Gr X ad none none res.2) (x1 : Int32) (x2 : Int32) (h_50 : ∀ (x3 : Int32) (M : Mem), r_50 x3 M = some res → G X ad 50 4 [(0, .ref (ad 108)), (1, .int x1), (2, .int x2), (3, .int x3)] [] M) (x3 : Int32) (M : Mem) (hf : f_X10_copies_50_b r_50 x1 x2 x3 M = some res) : G X ad 50 4 [(0, .ref (ad 108)), (1, .int x1), (2, .int x2), (3, .int x3)] [] M := by
  unfold f_X10_copies_50_b at hf
  refine G.iload_n (pl := 3) C dX10_copies_50 rfl rfl ?_
  refine G.sipush (v := 144) C dX10_copies_51 (by decide) ?_
  refine G.icmp_ge (tgt := 227) C dX10_copies_54 (by decide) (fun hc1 => ?_) (fun hc1 => ?_)
  · replace hf := gIf hf hc1
    cases hf
    exact G.vret C Rt dX10_copies_227
  · replace hf := gIfn hf hc1
    refine G.aload_n (pl := 0) C dX10_copies_57 rfl rfl ?_
    refine gf10_5 C o_108 k4_102 dX10_copies_58 ?_
    refine G.sipush (v := 144) C dX10_copies_61 (by decide) ?_
    refine G.iload_n (pl := 2) C dX10_copies_64 rfl rfl ?_
    refine G.imul C dX10_copies_65 ?_
    refine G.iload_n (pl := 3) C dX10_copies_66 rfl rfl ?_
    refine G.iadd C dX10_copies_67 ?_
    refine G.aload_n (pl := 0) C dX10_copies_68 rfl rfl ?_
    refine gf10_5 C o_108 k4_102 dX10_copies_69 ?_
    refine G.sipush (v := 144) C dX10_copies_72 (by decide) ?_
    refine G.iload_n (pl := 1) C dX10_copies_75 rfl rfl ?_
    refine G.imul C dX10_copies_76 ?_
    refine G.iload_n (pl := 3) C dX10_copies_77 rfl rfl ?_
    refine G.iadd C dX10_copies_78 ?_
    obtain ⟨v1, ev1, hi1, hf⟩ := rd_some hf
    refine G.iald C a_114 hi1 ev1 dX10_copies_79 ?_
    obtain ⟨hi2, hf⟩ := ck_some hf
    obtain ⟨M1, eM1, hf⟩ := stm_some hf
    refine G.iast C a_114 hi2 eM1 dX10_copies_80 ?_
    refine G.iload_n (pl := 3) C dX10_copies_81 rfl rfl ?_
    refine G.bipush (v := 24) C dX10_copies_82 (by decide) ?_
    refine G.icmp_ge (tgt := 109) C dX10_copies_84 (by decide) (fun hc2 => ?_) (fun hc2 => ?_)
    · replace hf := gIf hf hc2
      exact w_X10_copies_109 C Rt x1 x2 x3 M1 h_50 hf
    · replace hf := gIfn hf hc2
      refine G.aload_n (pl := 0) C dX10_copies_87 rfl rfl ?_
      refine gf10_4 C o_108 k4_101 dX10_copies_88 ?_
      refine G.bipush (v := 24) C dX10_copies_91 (by decide) ?_
      refine G.iload_n (pl := 2) C dX10_copies_93 rfl rfl ?_
      refine G.imul C dX10_copies_94 ?_
      refine G.iload_n (pl := 3) C dX10_copies_95 rfl rfl ?_
      refine G.iadd C dX10_copies_96 ?_
      refine G.aload_n (pl := 0) C dX10_copies_97 rfl rfl ?_
      refine gf10_4 C o_108 k4_101 dX10_copies_98 ?_
      refine G.bipush (v := 24) C dX10_copies_101 (by decide) ?_
      refine G.iload_n (pl := 1) C dX10_copies_103 rfl rfl ?_
      refine G.imul C dX10_copies_104 ?_
      refine G.iload_n (pl := 3) C dX10_copies_105 rfl rfl ?_
      refine G.iadd C dX10_copies_106 ?_
      obtain ⟨v2, ev2, hi3, hf⟩ := rd_some hf
      refine G.iald C a_113 hi3 ev2 dX10_copies_107 ?_
      obtain ⟨hi4, hf⟩ := ck_some hf
      obtain ⟨M2, eM2, hf⟩ := stm_some hf
      refine G.iast C a_113 hi4 eM2 dX10_copies_108 ?_
      exact w_X10_copies_109 C Rt x1 x2 x3 M2 h_50 hf
theorem w_X10_copies_50 {X : Gc} {ad : Nat → Nat} {res : (Unit × Mem)} (C : Gk X ad cX10_copies "NineTonguesModel" 4 1) (Rt : Gr X ad none none res.2) (x1 : Int32) (x2 : Int32) : ∀ (n : Nat) (x3 : Int32) (M : Mem), f_X10_copies_50 x1 x2 n x3 M = some res → G X ad 50 4 [(0, .ref (ad 108)), (1, .int x1), (2, .int x2), (3, .int x3)] [] M := by
  intro n
  induction n with
  | zero => intro x3 M hf; exact absurd (show (none : Option (Unit × Mem)) = some res from hf) (fun h => nomatch h)
  | succ n ih => intro x3 M hf; exact w_X10_copies_50_b C Rt x1 x2 ih x3 M hf
set_option maxRecDepth 100000 in
set_option maxHeartbeats 4000000 in
theorem w_X10_copies_E {X : Gc} {ad : Nat → Nat} {res : (Unit × Mem)} (C : Gk X ad cX10_copies "NineTonguesModel" 4 1) (Rt : Gr X ad none none res.2) (x1 : Int32) (x2 : Int32) (M : Mem) (hf : f_X10_copies x1 x2 M = some res) : G X ad 0 4 [(0, .ref (ad 108)), (1, .int x1), (2, .int x2)] [] M := by
  unfold f_X10_copies at hf
  refine G.aload_n (pl := 0) C dX10_copies_0 rfl rfl ?_
  refine gf10_0 C o_108 k4_97 dX10_copies_1 ?_
  refine G.iload_n (pl := 2) C dX10_copies_4 rfl rfl ?_
  refine G.aload_n (pl := 0) C dX10_copies_5 rfl rfl ?_
  refine gf10_0 C o_108 k4_97 dX10_copies_6 ?_
  refine G.iload_n (pl := 1) C dX10_copies_9 rfl rfl ?_
  obtain ⟨v1, ev1, hi1, hf⟩ := rd_some hf
  refine G.iald C a_109 hi1 ev1 dX10_copies_10 ?_
  obtain ⟨hi2, hf⟩ := ck_some hf
  obtain ⟨M1, eM1, hf⟩ := stm_some hf
  refine G.iast C a_109 hi2 eM1 dX10_copies_11 ?_
  refine G.aload_n (pl := 0) C dX10_copies_12 rfl rfl ?_
  refine gf10_1 C o_108 k4_98 dX10_copies_13 ?_
  refine G.iload_n (pl := 2) C dX10_copies_16 rfl rfl ?_
  refine G.aload_n (pl := 0) C dX10_copies_17 rfl rfl ?_
  refine gf10_1 C o_108 k4_98 dX10_copies_18 ?_
  refine G.iload_n (pl := 1) C dX10_copies_21 rfl rfl ?_
  obtain ⟨v2, ev2, hi3, hf⟩ := rd_some hf
  refine G.iald C a_110 hi3 ev2 dX10_copies_22 ?_
  obtain ⟨hi4, hf⟩ := ck_some hf
  obtain ⟨M2, eM2, hf⟩ := stm_some hf
  refine G.iast C a_110 hi4 eM2 dX10_copies_23 ?_
  refine G.aload_n (pl := 0) C dX10_copies_24 rfl rfl ?_
  refine gf10_2 C o_108 k4_99 dX10_copies_25 ?_
  refine G.iload_n (pl := 2) C dX10_copies_28 rfl rfl ?_
  refine G.aload_n (pl := 0) C dX10_copies_29 rfl rfl ?_
  refine gf10_2 C o_108 k4_99 dX10_copies_30 ?_
  refine G.iload_n (pl := 1) C dX10_copies_33 rfl rfl ?_
  obtain ⟨v3, ev3, hi5, hf⟩ := rd_some hf
  refine G.iald C a_111 hi5 ev3 dX10_copies_34 ?_
  obtain ⟨hi6, hf⟩ := ck_some hf
  obtain ⟨M3, eM3, hf⟩ := stm_some hf
  refine G.iast C a_111 hi6 eM3 dX10_copies_35 ?_
  refine G.aload_n (pl := 0) C dX10_copies_36 rfl rfl ?_
  refine gf10_3 C o_108 k4_100 dX10_copies_37 ?_
  refine G.iload_n (pl := 2) C dX10_copies_40 rfl rfl ?_
  refine G.aload_n (pl := 0) C dX10_copies_41 rfl rfl ?_
  refine gf10_3 C o_108 k4_100 dX10_copies_42 ?_
  refine G.iload_n (pl := 1) C dX10_copies_45 rfl rfl ?_
  obtain ⟨v4, ev4, hi7, hf⟩ := rd_some hf
  refine G.iald C a_112 hi7 ev4 dX10_copies_46 ?_
  obtain ⟨hi8, hf⟩ := ck_some hf
  obtain ⟨M4, eM4, hf⟩ := stm_some hf
  refine G.iast C a_112 hi8 eM4 dX10_copies_47 ?_
  refine G.iconst (v := 0) C dX10_copies_48 (by decide) ?_
  refine G.istore_n (lv' := [(3, .int (0 : Int32)), (0, .ref (ad 108)), (1, .int x1), (2, .int x2)]) C dX10_copies_49 rfl (by decide) rfl ?_
  refine G.sub (lv' := [(0, .ref (ad 108)), (1, .int x1), (2, .int x2), (3, .int (0 : Int32))]) [1, 2, 3, 0] rfl ?_
  exact w_X10_copies_50 C Rt x1 x2 FU (0 : Int32) M4 hf
theorem mv_X10_copies : gMV yX10_copies cX10_copies 4 none 2 := ⟨k5_213, kS_56, k1_12, k5_214, ⟨by decide +kernel, by decide +kernel, by decide +kernel⟩, by decide⟩
theorem c_X10_copies {res : (Unit × Mem)} {x1 : Int32} {x2 : Int32} {M : Mem} (hf : f_X10_copies x1 x2 M = some res) : Ct yX10_copies cX10_copies 4 none 1 (fun ad => [.ref (ad 108), .int x1, .int x2]) M none res.2 :=
  Ct.of (by decide +kernel) (fun _ => Nat.le_of_ble_eq_true rfl) (fun X ad C Rt => w_X10_copies_E C Rt x1 x2 M hf)
set_option maxRecDepth 100000 in
set_option maxHeartbeats 4000000 in
theorem w_X10_image_E {X : Gc} {ad : Nat → Nat} {res : (Int32 × Mem)} (C : Gk X ad cX10_image "NineTonguesModel" 2 2) (Rt : Gr X ad (some .int) (some (.int res.1)) res.2) (x1 : Int32) (M : Mem) (hf : f_X10_image x1 M = some res) : G X ad 0 2 [(0, .ref (ad 108)), (1, .int x1)] [] M := by
  unfold f_X10_image at hf
  refine G.iload_n (pl := 1) C dX10_image_0 rfl rfl ?_
  refine G.iconst (v := 0) C dX10_image_1 (by decide) ?_
  refine G.iconst (v := 1) C dX10_image_2 (by decide) ?_
  obtain ⟨v1, hr1, hf⟩ := cp_some hf
  refine G.callS (st1 := [.int v1]) C [.int x1, .int (0 : Int32), .int (1 : Int32)] [] (c_X10_between hr1) mv_X10_between k4_189 rfl rfl rfl (Nat.le_of_ble_eq_true rfl) (by decide) dX10_image_3 rfl ?_
  refine G.if_ne (tgt := 16) C dX10_image_6 (by decide) (fun hc1 => ?_) (fun hc1 => ?_)
  · replace hf := gIfn hf hc1
    refine G.aload_n (pl := 0) C dX10_image_16 rfl rfl ?_
    refine G.iconst (v := 0) C dX10_image_17 (by decide) ?_
    refine G.iload_n (pl := 1) C dX10_image_18 rfl rfl ?_
    refine G.iconst (v := 1) C dX10_image_19 (by decide) ?_
    refine G.iadd C dX10_image_20 ?_
    obtain ⟨u, M1, hr2, hf⟩ := cl_some hf
    refine G.callV (st1 := []) C [.int (0 : Int32), .int (x1 + (1 : Int32))] [] (c_X10_copies hr2) mv_X10_copies k5_211 o_108.1 (fun _ => gShp_20 o_108) rfl rfl rfl rfl rfl (Nat.le_of_ble_eq_true rfl) (by decide) dX10_image_21 rfl ?_
    refine G.aload_n (pl := 0) C dX10_image_24 rfl rfl ?_
    refine gf10_10 C o_108 k4_107 dX10_image_25 ?_
    refine G.iload_n (pl := 1) C dX10_image_28 rfl rfl ?_
    refine G.iconst (v := 1) C dX10_image_29 (by decide) ?_
    obtain ⟨hi1, hf⟩ := ck_some hf
    obtain ⟨M2, eM1, hf⟩ := stm_some hf
    refine G.zast C az_119 hi1 eM1 dX10_image_30 ?_
    refine G.iconst (v := 1) C dX10_image_31 (by decide) ?_
    cases hf
    exact G.iret C Rt dX10_image_32
  · replace hf := gIf hf hc1
    refine G.aload_n (pl := 0) C dX10_image_9 rfl rfl ?_
    refine G.bipush (v := (-2)) C dX10_image_10 (by decide) ?_
    obtain ⟨v2, M3, hr3, hf⟩ := cl_some hf
    refine G.callV (st1 := [.int v2]) C [.int (-2 : Int32)] [] (c_X10_bad hr3) mv_X10_bad k4_192 o_108.1 (fun _ => gShp_20 o_108) rfl rfl rfl rfl rfl (Nat.le_of_ble_eq_true rfl) (by decide) dX10_image_12 rfl ?_
    cases hf
    exact G.iret C Rt dX10_image_15
theorem mv_X10_image : gMV yX10_image cX10_image 2 (some .int) 1 := ⟨k5_208, k5_209, k1_12, k5_210, ⟨by decide +kernel, by decide +kernel, by decide +kernel⟩, by decide⟩
theorem c_X10_image {res : (Int32 × Mem)} {x1 : Int32} {M : Mem} (hf : f_X10_image x1 M = some res) : Ct yX10_image cX10_image 2 (some .int) 2 (fun ad => [.ref (ad 108), .int x1]) M (some (.int res.1)) res.2 :=
  Ct.of (by decide +kernel) (fun _ => Nat.le_of_ble_eq_true rfl) (fun X ad C Rt => w_X10_image_E C Rt x1 M hf)
set_option maxRecDepth 100000 in
set_option maxHeartbeats 4000000 in
theorem w_X10_from_E {X : Gc} {ad : Nat → Nat} {res : (Int32 × Mem)} (C : Gk X ad cX10_from "NineTonguesModel" 2 2) (Rt : Gr X ad (some .int) (some (.int res.1)) res.2) (x1 : Int32) (M : Mem) (hf : f_X10_from x1 M = some res) : G X ad 0 2 [(0, .ref (ad 108)), (1, .int x1)] [] M := by
  unfold f_X10_from at hf
  refine G.iload_n (pl := 1) C dX10_from_0 rfl rfl ?_
  refine G.iconst (v := 0) C dX10_from_1 (by decide) ?_
  refine G.iconst (v := 1) C dX10_from_2 (by decide) ?_
  obtain ⟨v1, hr1, hf⟩ := cp_some hf
  refine G.callS (st1 := [.int v1]) C [.int x1, .int (0 : Int32), .int (1 : Int32)] [] (c_X10_between hr1) mv_X10_between k4_189 rfl rfl rfl (Nat.le_of_ble_eq_true rfl) (by decide) dX10_from_3 rfl ?_
  refine G.if_ne (tgt := 16) C dX10_from_6 (by decide) (fun hc1 => ?_) (fun hc1 => ?_)
  · replace hf := gIfn hf hc1
    refine G.aload_n (pl := 0) C dX10_from_16 rfl rfl ?_
    refine gf10_10 C o_108 k4_107 dX10_from_17 ?_
    refine G.iload_n (pl := 1) C dX10_from_20 rfl rfl ?_
    obtain ⟨v2, ev1, hi1, hf⟩ := rd_some hf
    refine G.zald C az_119 hi1 ev1 dX10_from_21 ?_
    refine G.if_ne (tgt := 32) C dX10_from_22 (by decide) (fun hc2 => ?_) (fun hc2 => ?_)
    · replace hf := gIfn hf hc2
      refine G.aload_n (pl := 0) C dX10_from_32 rfl rfl ?_
      refine G.iload_n (pl := 1) C dX10_from_33 rfl rfl ?_
      refine G.iconst (v := 1) C dX10_from_34 (by decide) ?_
      refine G.iadd C dX10_from_35 ?_
      refine G.iconst (v := 0) C dX10_from_36 (by decide) ?_
      obtain ⟨u, M1, hr2, hf⟩ := cl_some hf
      refine G.callV (st1 := []) C [.int (x1 + (1 : Int32)), .int (0 : Int32)] [] (c_X10_copies hr2) mv_X10_copies k5_211 o_108.1 (fun _ => gShp_20 o_108) rfl rfl rfl rfl rfl (Nat.le_of_ble_eq_true rfl) (by decide) dX10_from_37 rfl ?_
      refine G.iconst (v := 1) C dX10_from_40 (by decide) ?_
      cases hf
      exact G.iret C Rt dX10_from_41
    · replace hf := gIf hf hc2
      refine G.aload_n (pl := 0) C dX10_from_25 rfl rfl ?_
      refine G.bipush (v := (-3)) C dX10_from_26 (by decide) ?_
      obtain ⟨v3, M2, hr3, hf⟩ := cl_some hf
      refine G.callV (st1 := [.int v3]) C [.int (-3 : Int32)] [] (c_X10_no hr3) mv_X10_no k5_40 o_108.1 (fun _ => gShp_20 o_108) rfl rfl rfl rfl rfl (Nat.le_of_ble_eq_true rfl) (by decide) dX10_from_28 rfl ?_
      cases hf
      exact G.iret C Rt dX10_from_31
  · replace hf := gIf hf hc1
    refine G.aload_n (pl := 0) C dX10_from_9 rfl rfl ?_
    refine G.bipush (v := (-2)) C dX10_from_10 (by decide) ?_
    obtain ⟨v4, M3, hr4, hf⟩ := cl_some hf
    refine G.callV (st1 := [.int v4]) C [.int (-2 : Int32)] [] (c_X10_bad hr4) mv_X10_bad k4_192 o_108.1 (fun _ => gShp_20 o_108) rfl rfl rfl rfl rfl (Nat.le_of_ble_eq_true rfl) (by decide) dX10_from_12 rfl ?_
    cases hf
    exact G.iret C Rt dX10_from_15
theorem mv_X10_from : gMV yX10_from cX10_from 2 (some .int) 1 := ⟨k5_216, k5_217, k1_12, k5_218, ⟨by decide +kernel, by decide +kernel, by decide +kernel⟩, by decide⟩
theorem c_X10_from {res : (Int32 × Mem)} {x1 : Int32} {M : Mem} (hf : f_X10_from x1 M = some res) : Ct yX10_from cX10_from 2 (some .int) 2 (fun ad => [.ref (ad 108), .int x1]) M (some (.int res.1)) res.2 :=
  Ct.of (by decide +kernel) (fun _ => Nat.le_of_ble_eq_true rfl) (fun X ad C Rt => w_X10_from_E C Rt x1 M hf)
set_option maxRecDepth 100000 in
set_option maxHeartbeats 4000000 in
theorem w_X10_status_E {X : Gc} {ad : Nat → Nat} {res : (Int32 × Mem)} (C : Gk X ad cX10_status "NineTonguesModel" 2 2) (Rt : Gr X ad (some .int) (some (.int res.1)) res.2) (x1 : Int32) (M : Mem) (hf : f_X10_status x1 M = some res) : G X ad 0 2 [(0, .ref (ad 108)), (1, .int x1)] [] M := by
  unfold f_X10_status at hf
  refine G.iload_n (pl := 1) C dX10_status_0 rfl rfl ?_
  refine G.iconst (v := 0) C dX10_status_1 (by decide) ?_
  refine G.iconst (v := 2) C dX10_status_2 (by decide) ?_
  obtain ⟨v1, hr1, hf⟩ := cp_some hf
  refine G.callS (st1 := [.int v1]) C [.int x1, .int (0 : Int32), .int (2 : Int32)] [] (c_X10_between hr1) mv_X10_between k4_189 rfl rfl rfl (Nat.le_of_ble_eq_true rfl) (by decide) dX10_status_3 rfl ?_
  refine G.if_eq (tgt := 18) C dX10_status_6 (by decide) (fun hc1 => ?_) (fun hc1 => ?_)
  · replace hf := gIf hf hc1
    refine G.aload_n (pl := 0) C dX10_status_18 rfl rfl ?_
    refine G.iconst (v := (-1)) C dX10_status_19 (by decide) ?_
    obtain ⟨v2, M1, hr2, hf⟩ := cl_some hf
    refine G.callV (st1 := [.int v2]) C [.int (-1 : Int32)] [] (c_X10_bad hr2) mv_X10_bad k4_192 o_108.1 (fun _ => gShp_20 o_108) rfl rfl rfl rfl rfl (Nat.le_of_ble_eq_true rfl) (by decide) dX10_status_20 rfl ?_
    cases hf
    exact G.iret C Rt dX10_status_23
  · replace hf := gIfn hf hc1
    refine G.aload_n (pl := 0) C dX10_status_9 rfl rfl ?_
    refine gf10_13 C o_108 k4_110 dX10_status_10 ?_
    refine G.iload_n (pl := 1) C dX10_status_13 rfl rfl ?_
    obtain ⟨v3, ev1, hi1, hf⟩ := rd_some hf
    refine G.iald C a_120 hi1 ev1 dX10_status_14 ?_
    refine G.goto (tgt := 23) C dX10_status_15 (by decide) ?_
    cases hf
    exact G.iret C Rt dX10_status_23
theorem mv_X10_status : gMV yX10_status cX10_status 2 (some .int) 1 := ⟨k5_220, k5_221, k1_12, k5_222, ⟨by decide +kernel, by decide +kernel, by decide +kernel⟩, by decide⟩
theorem c_X10_status {res : (Int32 × Mem)} {x1 : Int32} {M : Mem} (hf : f_X10_status x1 M = some res) : Ct yX10_status cX10_status 2 (some .int) 2 (fun ad => [.ref (ad 108), .int x1]) M (some (.int res.1)) res.2 :=
  Ct.of (by decide +kernel) (fun _ => Nat.le_of_ble_eq_true rfl) (fun X ad C Rt => w_X10_status_E C Rt x1 M hf)
set_option maxRecDepth 100000 in
set_option maxHeartbeats 4000000 in
theorem w_X10_counted_E {X : Gc} {ad : Nat → Nat} {res : Int32} {M : Mem} (C : Gk X ad cX10_counted "NineTonguesModel" 2 3) (Rt : Gr X ad (some .int) (some (.int res)) M) (x1 : Int32) (hf : f_X10_counted x1 M = some res) : G X ad 0 2 [(0, .ref (ad 108)), (1, .int x1)] [] M := by
  unfold f_X10_counted at hf
  refine G.iload_n (pl := 1) C dX10_counted_0 rfl rfl ?_
  refine G.if_ne (tgt := 13) C dX10_counted_1 (by decide) (fun hc1 => ?_) (fun hc1 => ?_)
  · replace hf := gIfn hf hc1
    refine G.iload_n (pl := 1) C dX10_counted_13 rfl rfl ?_
    refine G.iconst (v := 1) C dX10_counted_14 (by decide) ?_
    refine G.icmp_ne (tgt := 27) C dX10_counted_15 (by decide) (fun hc2 => ?_) (fun hc2 => ?_)
    · replace hf := gIfn hf hc2
      refine G.iload_n (pl := 1) C dX10_counted_27 rfl rfl ?_
      refine G.iconst (v := 2) C dX10_counted_28 (by decide) ?_
      refine G.icmp_ne (tgt := 41) C dX10_counted_29 (by decide) (fun hc3 => ?_) (fun hc3 => ?_)
      · replace hf := gIfn hf hc3
        refine G.iload_n (pl := 1) C dX10_counted_41 rfl rfl ?_
        refine G.iconst (v := 3) C dX10_counted_42 (by decide) ?_
        refine G.icmp_ne (tgt := 55) C dX10_counted_43 (by decide) (fun hc4 => ?_) (fun hc4 => ?_)
        · replace hf := gIfn hf hc4
          refine G.aload_n (pl := 0) C dX10_counted_55 rfl rfl ?_
          refine G.iload_n (pl := 1) C dX10_counted_56 rfl rfl ?_
          refine G.iconst (v := 4) C dX10_counted_57 (by decide) ?_
          refine G.isub C dX10_counted_58 ?_
          obtain ⟨v1, hr1, hf⟩ := cp_some hf
          refine G.callV (st1 := [.int v1]) C [.int (x1 - (4 : Int32))] [] (c_X10_isTongue hr1) mv_X10_isTongue k4_204 o_108.1 (fun _ => gShp_20 o_108) rfl rfl rfl rfl rfl (Nat.le_of_ble_eq_true rfl) (by decide) dX10_counted_59 rfl ?_
          refine G.if_eq (tgt := 80) C dX10_counted_62 (by decide) (fun hc5 => ?_) (fun hc5 => ?_)
          · replace hf := gIf hf hc5
            refine G.iconst (v := 0) C dX10_counted_80 (by decide) ?_
            cases hf
            exact G.iret C Rt dX10_counted_81
          · replace hf := gIfn hf hc5
            refine G.aload_n (pl := 0) C dX10_counted_65 rfl rfl ?_
            refine gf10_4 C o_108 k4_101 dX10_counted_66 ?_
            refine G.iconst (v := 4) C dX10_counted_69 (by decide) ?_
            refine G.iload_n (pl := 1) C dX10_counted_70 rfl rfl ?_
            refine G.iconst (v := 4) C dX10_counted_71 (by decide) ?_
            refine G.isub C dX10_counted_72 ?_
            refine G.imul C dX10_counted_73 ?_
            refine G.iconst (v := 3) C dX10_counted_74 (by decide) ?_
            refine G.iadd C dX10_counted_75 ?_
            obtain ⟨v2, ev1, hi1, hf⟩ := rd_some hf
            refine G.iald C a_113 hi1 ev1 dX10_counted_76 ?_
            refine G.goto (tgt := 81) C dX10_counted_77 (by decide) ?_
            cases hf
            exact G.iret C Rt dX10_counted_81
        · replace hf := gIf hf hc4
          refine G.aload_n (pl := 0) C dX10_counted_46 rfl rfl ?_
          refine gf10_3 C o_108 k4_100 dX10_counted_47 ?_
          refine G.iconst (v := 0) C dX10_counted_50 (by decide) ?_
          refine G.iald (v := (M.1 112 0)) C a_112 (vp_inC (by decide)) rfl dX10_counted_51 ?_
          refine G.goto (tgt := 81) C dX10_counted_52 (by decide) ?_
          cases hf
          exact G.iret C Rt dX10_counted_81
      · replace hf := gIf hf hc3
        refine G.aload_n (pl := 0) C dX10_counted_32 rfl rfl ?_
        refine gf10_2 C o_108 k4_99 dX10_counted_33 ?_
        refine G.iconst (v := 0) C dX10_counted_36 (by decide) ?_
        refine G.iald (v := (M.1 111 0)) C a_111 (vp_inC (by decide)) rfl dX10_counted_37 ?_
        refine G.goto (tgt := 81) C dX10_counted_38 (by decide) ?_
        cases hf
        exact G.iret C Rt dX10_counted_81
    · replace hf := gIf hf hc2
      refine G.aload_n (pl := 0) C dX10_counted_18 rfl rfl ?_
      refine gf10_1 C o_108 k4_98 dX10_counted_19 ?_
      refine G.iconst (v := 0) C dX10_counted_22 (by decide) ?_
      refine G.iald (v := (M.1 110 0)) C a_110 (vp_inC (by decide)) rfl dX10_counted_23 ?_
      refine G.goto (tgt := 81) C dX10_counted_24 (by decide) ?_
      cases hf
      exact G.iret C Rt dX10_counted_81
  · replace hf := gIf hf hc1
    refine G.aload_n (pl := 0) C dX10_counted_4 rfl rfl ?_
    refine gf10_0 C o_108 k4_97 dX10_counted_5 ?_
    refine G.iconst (v := 0) C dX10_counted_8 (by decide) ?_
    refine G.iald (v := (M.1 109 0)) C a_109 (vp_inC (by decide)) rfl dX10_counted_9 ?_
    refine G.goto (tgt := 81) C dX10_counted_10 (by decide) ?_
    cases hf
    exact G.iret C Rt dX10_counted_81
theorem mv_X10_counted : gMV yX10_counted cX10_counted 2 (some .int) 1 := ⟨k5_229, kS_57, k1_12, k5_230, ⟨by decide +kernel, by decide +kernel, by decide +kernel⟩, by decide⟩
theorem c_X10_counted {res : Int32} {x1 : Int32} {M : Mem} (hf : f_X10_counted x1 M = some res) : Ct yX10_counted cX10_counted 2 (some .int) 3 (fun ad => [.ref (ad 108), .int x1]) M (some (.int res)) M :=
  Ct.of (by decide +kernel) (fun _ => Nat.le_of_ble_eq_true rfl) (fun X ad C Rt => w_X10_counted_E C Rt x1 hf)
set_option maxRecDepth 100000 in
set_option maxHeartbeats 4000000 in
theorem w_X10_count_E {X : Gc} {ad : Nat → Nat} {res : (Int32 × Mem)} (C : Gk X ad cX10_count "NineTonguesModel" 2 4) (Rt : Gr X ad (some .int) (some (.int res.1)) res.2) (x1 : Int32) (M : Mem) (hf : f_X10_count x1 M = some res) : G X ad 0 2 [(0, .ref (ad 108)), (1, .int x1)] [] M := by
  unfold f_X10_count at hf
  refine G.iload_n (pl := 1) C dX10_count_0 rfl rfl ?_
  refine G.iconst (v := 0) C dX10_count_1 (by decide) ?_
  refine G.bipush (v := 9) C dX10_count_2 (by decide) ?_
  obtain ⟨v1, hr1, hf⟩ := cp_some hf
  refine G.callS (st1 := [.int v1]) C [.int x1, .int (0 : Int32), .int (9 : Int32)] [] (c_X10_between hr1) mv_X10_between k4_189 rfl rfl rfl (Nat.le_of_ble_eq_true rfl) (by decide) dX10_count_4 rfl ?_
  refine G.if_eq (tgt := 18) C dX10_count_7 (by decide) (fun hc1 => ?_) (fun hc1 => ?_)
  · replace hf := gIf hf hc1
    refine G.aload_n (pl := 0) C dX10_count_18 rfl rfl ?_
    refine G.bipush (v := (-2)) C dX10_count_19 (by decide) ?_
    obtain ⟨v2, M1, hr2, hf⟩ := cl_some hf
    refine G.callV (st1 := [.int v2]) C [.int (-2 : Int32)] [] (c_X10_bad hr2) mv_X10_bad k4_192 o_108.1 (fun _ => gShp_20 o_108) rfl rfl rfl rfl rfl (Nat.le_of_ble_eq_true rfl) (by decide) dX10_count_21 rfl ?_
    cases hf
    exact G.iret C Rt dX10_count_24
  · replace hf := gIfn hf hc1
    refine G.aload_n (pl := 0) C dX10_count_10 rfl rfl ?_
    refine G.iload_n (pl := 1) C dX10_count_11 rfl rfl ?_
    obtain ⟨v3, hr3, hf⟩ := cp_some hf
    refine G.callV (st1 := [.int v3]) C [.int x1] [] (c_X10_counted hr3) mv_X10_counted k5_227 o_108.1 (fun _ => gShp_20 o_108) rfl rfl rfl rfl rfl (Nat.le_of_ble_eq_true rfl) (by decide) dX10_count_12 rfl ?_
    refine G.goto (tgt := 24) C dX10_count_15 (by decide) ?_
    cases hf
    exact G.iret C Rt dX10_count_24
theorem mv_X10_count : gMV yX10_count cX10_count 2 (some .int) 1 := ⟨k5_224, k5_225, k1_12, k5_226, ⟨by decide +kernel, by decide +kernel, by decide +kernel⟩, by decide⟩
theorem c_X10_count {res : (Int32 × Mem)} {x1 : Int32} {M : Mem} (hf : f_X10_count x1 M = some res) : Ct yX10_count cX10_count 2 (some .int) 4 (fun ad => [.ref (ad 108), .int x1]) M (some (.int res.1)) res.2 :=
  Ct.of (by decide +kernel) (fun _ => Nat.le_of_ble_eq_true rfl) (fun X ad C Rt => w_X10_count_E C Rt x1 M hf)
set_option maxRecDepth 100000 in
set_option maxHeartbeats 4000000 in
theorem w_X10_sums_E {X : Gc} {ad : Nat → Nat} {res : (Unit × Mem)} (C : Gk X ad cX10_sums "NineTonguesModel" 3 1) (Rt : Gr X ad none none res.2) (x1 : Int64) (M : Mem) (hf : f_X10_sums x1 M = some res) : G X ad 0 3 [(0, .ref (ad 108)), (1, .long x1)] [] M := by
  unfold f_X10_sums at hf
  refine G.aload_n (pl := 0) C dX10_sums_0 rfl rfl ?_
  refine G.ldc2 C k6_0 dX10_sums_1 ?_
  refine G.aload_n (pl := 0) C dX10_sums_4 rfl rfl ?_
  refine gf10_28 C o_108 k4_125 dX10_sums_5 ?_
  refine G.lmul C dX10_sums_8 ?_
  refine G.lload_n (pl := 1) C dX10_sums_9 rfl rfl ?_
  refine G.ladd C dX10_sums_10 ?_
  obtain ⟨M1, eM1, hf⟩ := stm_some hf
  refine gp10_28 C o_108 k4_125 eM1 dX10_sums_11 ?_
  cases hf
  exact G.vret C Rt dX10_sums_14
theorem mv_X10_sums : gMV yX10_sums cX10_sums 3 none 1 := ⟨k5_238, kS_58, k1_12, k5_239, ⟨by decide +kernel, by decide +kernel, by decide +kernel⟩, by decide⟩
theorem c_X10_sums {res : (Unit × Mem)} {x1 : Int64} {M : Mem} (hf : f_X10_sums x1 M = some res) : Ct yX10_sums cX10_sums 3 none 1 (fun ad => [.ref (ad 108), .long x1]) M none res.2 :=
  Ct.of (by decide +kernel) (fun _ => Nat.le_of_ble_eq_true rfl) (fun X ad C Rt => w_X10_sums_E C Rt x1 M hf)
set_option maxRecDepth 100000 in
set_option maxHeartbeats 4000000 in
theorem w_X10_digest_252_b {X : Gc} {ad : Nat → Nat} {res : (Int64 × Mem)} {r_252 : Int32 → Mem → Option (Int64 × Mem)} (C : Gk X ad cX10_digest "NineTonguesModel" 3 4) (Rt : Gr X ad (some .long) (some (.long res.1)) res.2) (h_252 : ∀ (x1 : Int32) (M : Mem), r_252 x1 M = some res → G X ad 252 3 [(0, .ref (ad 108)), (1, .int x1)] [] M) (x1 : Int32) (M : Mem) (hf : f_X10_digest_252_b r_252 x1 M = some res) : G X ad 252 3 [(0, .ref (ad 108)), (1, .int x1)] [] M := by
  unfold f_X10_digest_252_b at hf
  refine G.iload_n (pl := 1) C dX10_digest_252 rfl rfl ?_
  refine G.iconst (v := 4) C dX10_digest_253 (by decide) ?_
  refine G.aload_n (pl := 0) C dX10_digest_254 rfl rfl ?_
  refine gf10_3 C o_108 k4_100 dX10_digest_255 ?_
  refine G.iconst (v := 0) C dX10_digest_258 (by decide) ?_
  refine G.iald (v := (M.1 112 0)) C a_112 (vp_inC (by decide)) rfl dX10_digest_259 ?_
  refine G.imul C dX10_digest_260 ?_
  refine G.icmp_ge (tgt := 281) C dX10_digest_261 (by decide) (fun hc1 => ?_) (fun hc1 => ?_)
  · replace hf := gIf hf hc1
    refine G.aload_n (pl := 0) C dX10_digest_281 rfl rfl ?_
    refine G.aload_n (pl := 0) C dX10_digest_282 rfl rfl ?_
    refine gf10_11 C o_108 k4_108 dX10_digest_283 ?_
    refine G.i2l C dX10_digest_286 ?_
    obtain ⟨u, M1, hr1, hf⟩ := cl_some hf
    refine G.callV (st1 := []) C [.long (M.1 108 11).toInt64] [] (c_X10_sums hr1) mv_X10_sums k5_236 o_108.1 (fun _ => gShp_20 o_108) rfl rfl rfl rfl rfl (Nat.le_of_ble_eq_true rfl) (by decide) dX10_digest_287 rfl ?_
    refine G.aload_n (pl := 0) C dX10_digest_290 rfl rfl ?_
    refine G.aload_n (pl := 0) C dX10_digest_291 rfl rfl ?_
    refine gf10_12 C o_108 k4_109 dX10_digest_292 ?_
    refine G.i2l C dX10_digest_295 ?_
    obtain ⟨u, M2, hr2, hf⟩ := cl_some hf
    refine G.callV (st1 := []) C [.long (M1.1 108 12).toInt64] [] (c_X10_sums hr2) mv_X10_sums k5_236 o_108.1 (fun _ => gShp_20 o_108) rfl rfl rfl rfl rfl (Nat.le_of_ble_eq_true rfl) (by decide) dX10_digest_296 rfl ?_
    refine G.aload_n (pl := 0) C dX10_digest_299 rfl rfl ?_
    refine gf10_28 C o_108 k4_125 dX10_digest_300 ?_
    cases hf
    exact G.lret C Rt dX10_digest_303
  · replace hf := gIfn hf hc1
    refine G.aload_n (pl := 0) C dX10_digest_264 rfl rfl ?_
    refine G.aload_n (pl := 0) C dX10_digest_265 rfl rfl ?_
    refine gf10_7 C o_108 k4_104 dX10_digest_266 ?_
    refine G.iload_n (pl := 1) C dX10_digest_269 rfl rfl ?_
    obtain ⟨v1, ev1, hi1, hf⟩ := rd_some hf
    refine G.iald C a_116 hi1 ev1 dX10_digest_270 ?_
    refine G.i2l C dX10_digest_271 ?_
    obtain ⟨u, M3, hr3, hf⟩ := cl_some hf
    refine G.callV (st1 := []) C [.long v1.toInt64] [] (c_X10_sums hr3) mv_X10_sums k5_236 o_108.1 (fun _ => gShp_20 o_108) rfl rfl rfl rfl rfl (Nat.le_of_ble_eq_true rfl) (by decide) dX10_digest_272 rfl ?_
    refine G.iinc (pl := 1) (v := (x1 + 1)) (lv' := [(1, .int (x1 + 1)), (0, .ref (ad 108))]) C dX10_digest_275 rfl rfl (by decide) rfl ?_
    refine G.goto (tgt := 252) C dX10_digest_278 (by decide) ?_
    refine G.sub (lv' := [(0, .ref (ad 108)), (1, .int (x1 + 1))]) [1, 0] rfl ?_
    exact h_252 (x1 + 1) M3 hf
theorem w_X10_digest_252 {X : Gc} {ad : Nat → Nat} {res : (Int64 × Mem)} (C : Gk X ad cX10_digest "NineTonguesModel" 3 4) (Rt : Gr X ad (some .long) (some (.long res.1)) res.2) : ∀ (n : Nat) (x1 : Int32) (M : Mem), f_X10_digest_252 n x1 M = some res → G X ad 252 3 [(0, .ref (ad 108)), (1, .int x1)] [] M := by
  intro n
  induction n with
  | zero => intro x1 M hf; exact absurd (show (none : Option (Int64 × Mem)) = some res from hf) (fun h => nomatch h)
  | succ n ih => intro x1 M hf; exact w_X10_digest_252_b C Rt ih x1 M hf
set_option maxRecDepth 100000 in
set_option maxHeartbeats 4000000 in
theorem w_X10_digest_227_b {X : Gc} {ad : Nat → Nat} {res : (Int64 × Mem)} {r_227 : Int32 → Mem → Option (Int64 × Mem)} (C : Gk X ad cX10_digest "NineTonguesModel" 3 4) (Rt : Gr X ad (some .long) (some (.long res.1)) res.2) (h_227 : ∀ (x1 : Int32) (M : Mem), r_227 x1 M = some res → G X ad 227 3 [(0, .ref (ad 108)), (1, .int x1)] [] M) (x1 : Int32) (M : Mem) (hf : f_X10_digest_227_b r_227 x1 M = some res) : G X ad 227 3 [(0, .ref (ad 108)), (1, .int x1)] [] M := by
  unfold f_X10_digest_227_b at hf
  refine G.iload_n (pl := 1) C dX10_digest_227 rfl rfl ?_
  refine G.bipush (v := 10) C dX10_digest_228 (by decide) ?_
  refine G.icmp_ge (tgt := 250) C dX10_digest_230 (by decide) (fun hc1 => ?_) (fun hc1 => ?_)
  · replace hf := gIf hf hc1
    refine G.iconst (v := 0) C dX10_digest_250 (by decide) ?_
    refine G.istore_n (lv' := [(1, .int (0 : Int32)), (0, .ref (ad 108))]) C dX10_digest_251 rfl (by decide) rfl ?_
    refine G.sub (lv' := [(0, .ref (ad 108)), (1, .int (0 : Int32))]) [1, 0] rfl ?_
    exact w_X10_digest_252 C Rt FU (0 : Int32) M hf
  · replace hf := gIfn hf hc1
    refine G.aload_n (pl := 0) C dX10_digest_233 rfl rfl ?_
    refine G.aload_n (pl := 0) C dX10_digest_234 rfl rfl ?_
    refine gf10_9 C o_108 k4_106 dX10_digest_235 ?_
    refine G.iload_n (pl := 1) C dX10_digest_238 rfl rfl ?_
    obtain ⟨v1, ev1, hi1, hf⟩ := rd_some hf
    refine G.iald C a_118 hi1 ev1 dX10_digest_239 ?_
    refine G.i2l C dX10_digest_240 ?_
    obtain ⟨u, M1, hr1, hf⟩ := cl_some hf
    refine G.callV (st1 := []) C [.long v1.toInt64] [] (c_X10_sums hr1) mv_X10_sums k5_236 o_108.1 (fun _ => gShp_20 o_108) rfl rfl rfl rfl rfl (Nat.le_of_ble_eq_true rfl) (by decide) dX10_digest_241 rfl ?_
    refine G.iinc (pl := 1) (v := (x1 + 1)) (lv' := [(1, .int (x1 + 1)), (0, .ref (ad 108))]) C dX10_digest_244 rfl rfl (by decide) rfl ?_
    refine G.goto (tgt := 227) C dX10_digest_247 (by decide) ?_
    refine G.sub (lv' := [(0, .ref (ad 108)), (1, .int (x1 + 1))]) [1, 0] rfl ?_
    exact h_227 (x1 + 1) M1 hf
theorem w_X10_digest_227 {X : Gc} {ad : Nat → Nat} {res : (Int64 × Mem)} (C : Gk X ad cX10_digest "NineTonguesModel" 3 4) (Rt : Gr X ad (some .long) (some (.long res.1)) res.2) : ∀ (n : Nat) (x1 : Int32) (M : Mem), f_X10_digest_227 n x1 M = some res → G X ad 227 3 [(0, .ref (ad 108)), (1, .int x1)] [] M := by
  intro n
  induction n with
  | zero => intro x1 M hf; exact absurd (show (none : Option (Int64 × Mem)) = some res from hf) (fun h => nomatch h)
  | succ n ih => intro x1 M hf; exact w_X10_digest_227_b C Rt ih x1 M hf
set_option maxRecDepth 100000 in
set_option maxHeartbeats 4000000 in
theorem w_X10_digest_198_b {X : Gc} {ad : Nat → Nat} {res : (Int64 × Mem)} {r_198 : Int32 → Mem → Option (Int64 × Mem)} (C : Gk X ad cX10_digest "NineTonguesModel" 3 4) (Rt : Gr X ad (some .long) (some (.long res.1)) res.2) (h_198 : ∀ (x1 : Int32) (M : Mem), r_198 x1 M = some res → G X ad 198 3 [(0, .ref (ad 108)), (1, .int x1)] [] M) (x1 : Int32) (M : Mem) (hf : f_X10_digest_198_b r_198 x1 M = some res) : G X ad 198 3 [(0, .ref (ad 108)), (1, .int x1)] [] M := by
  unfold f_X10_digest_198_b at hf
  refine G.iload_n (pl := 1) C dX10_digest_198 rfl rfl ?_
  refine G.aload_n (pl := 0) C dX10_digest_199 rfl rfl ?_
  refine gf10_2 C o_108 k4_99 dX10_digest_200 ?_
  refine G.iconst (v := 0) C dX10_digest_203 (by decide) ?_
  refine G.iald (v := (M.1 111 0)) C a_111 (vp_inC (by decide)) rfl dX10_digest_204 ?_
  refine G.icmp_ge (tgt := 225) C dX10_digest_205 (by decide) (fun hc1 => ?_) (fun hc1 => ?_)
  · replace hf := gIf hf hc1
    refine G.iconst (v := 0) C dX10_digest_225 (by decide) ?_
    refine G.istore_n (lv' := [(1, .int (0 : Int32)), (0, .ref (ad 108))]) C dX10_digest_226 rfl (by decide) rfl ?_
    refine G.sub (lv' := [(0, .ref (ad 108)), (1, .int (0 : Int32))]) [1, 0] rfl ?_
    exact w_X10_digest_227 C Rt FU (0 : Int32) M hf
  · replace hf := gIfn hf hc1
    refine G.aload_n (pl := 0) C dX10_digest_208 rfl rfl ?_
    refine G.aload_n (pl := 0) C dX10_digest_209 rfl rfl ?_
    refine gf10_6 C o_108 k4_103 dX10_digest_210 ?_
    refine G.iload_n (pl := 1) C dX10_digest_213 rfl rfl ?_
    obtain ⟨v1, ev1, hi1, hf⟩ := rd_some hf
    refine G.iald C a_115 hi1 ev1 dX10_digest_214 ?_
    refine G.i2l C dX10_digest_215 ?_
    obtain ⟨u, M1, hr1, hf⟩ := cl_some hf
    refine G.callV (st1 := []) C [.long v1.toInt64] [] (c_X10_sums hr1) mv_X10_sums k5_236 o_108.1 (fun _ => gShp_20 o_108) rfl rfl rfl rfl rfl (Nat.le_of_ble_eq_true rfl) (by decide) dX10_digest_216 rfl ?_
    refine G.iinc (pl := 1) (v := (x1 + 1)) (lv' := [(1, .int (x1 + 1)), (0, .ref (ad 108))]) C dX10_digest_219 rfl rfl (by decide) rfl ?_
    refine G.goto (tgt := 198) C dX10_digest_222 (by decide) ?_
    refine G.sub (lv' := [(0, .ref (ad 108)), (1, .int (x1 + 1))]) [1, 0] rfl ?_
    exact h_198 (x1 + 1) M1 hf
theorem w_X10_digest_198 {X : Gc} {ad : Nat → Nat} {res : (Int64 × Mem)} (C : Gk X ad cX10_digest "NineTonguesModel" 3 4) (Rt : Gr X ad (some .long) (some (.long res.1)) res.2) : ∀ (n : Nat) (x1 : Int32) (M : Mem), f_X10_digest_198 n x1 M = some res → G X ad 198 3 [(0, .ref (ad 108)), (1, .int x1)] [] M := by
  intro n
  induction n with
  | zero => intro x1 M hf; exact absurd (show (none : Option (Int64 × Mem)) = some res from hf) (fun h => nomatch h)
  | succ n ih => intro x1 M hf; exact w_X10_digest_198_b C Rt ih x1 M hf
set_option maxRecDepth 100000 in
set_option maxHeartbeats 4000000 in
theorem w_X10_digest_173_b {X : Gc} {ad : Nat → Nat} {res : (Int64 × Mem)} {r_173 : Int32 → Mem → Option (Int64 × Mem)} (C : Gk X ad cX10_digest "NineTonguesModel" 3 4) (Rt : Gr X ad (some .long) (some (.long res.1)) res.2) (h_173 : ∀ (x1 : Int32) (M : Mem), r_173 x1 M = some res → G X ad 173 3 [(0, .ref (ad 108)), (1, .int x1)] [] M) (x1 : Int32) (M : Mem) (hf : f_X10_digest_173_b r_173 x1 M = some res) : G X ad 173 3 [(0, .ref (ad 108)), (1, .int x1)] [] M := by
  unfold f_X10_digest_173_b at hf
  refine G.iload_n (pl := 1) C dX10_digest_173 rfl rfl ?_
  refine G.bipush (v := 16) C dX10_digest_174 (by decide) ?_
  refine G.icmp_ge (tgt := 196) C dX10_digest_176 (by decide) (fun hc1 => ?_) (fun hc1 => ?_)
  · replace hf := gIf hf hc1
    refine G.iconst (v := 0) C dX10_digest_196 (by decide) ?_
    refine G.istore_n (lv' := [(1, .int (0 : Int32)), (0, .ref (ad 108))]) C dX10_digest_197 rfl (by decide) rfl ?_
    refine G.sub (lv' := [(0, .ref (ad 108)), (1, .int (0 : Int32))]) [1, 0] rfl ?_
    exact w_X10_digest_198 C Rt FU (0 : Int32) M hf
  · replace hf := gIfn hf hc1
    refine G.aload_n (pl := 0) C dX10_digest_179 rfl rfl ?_
    refine G.aload_n (pl := 0) C dX10_digest_180 rfl rfl ?_
    refine gf10_8 C o_108 k4_105 dX10_digest_181 ?_
    refine G.iload_n (pl := 1) C dX10_digest_184 rfl rfl ?_
    obtain ⟨v1, ev1, hi1, hf⟩ := rd_some hf
    refine G.iald C a_117 hi1 ev1 dX10_digest_185 ?_
    refine G.i2l C dX10_digest_186 ?_
    obtain ⟨u, M1, hr1, hf⟩ := cl_some hf
    refine G.callV (st1 := []) C [.long v1.toInt64] [] (c_X10_sums hr1) mv_X10_sums k5_236 o_108.1 (fun _ => gShp_20 o_108) rfl rfl rfl rfl rfl (Nat.le_of_ble_eq_true rfl) (by decide) dX10_digest_187 rfl ?_
    refine G.iinc (pl := 1) (v := (x1 + 1)) (lv' := [(1, .int (x1 + 1)), (0, .ref (ad 108))]) C dX10_digest_190 rfl rfl (by decide) rfl ?_
    refine G.goto (tgt := 173) C dX10_digest_193 (by decide) ?_
    refine G.sub (lv' := [(0, .ref (ad 108)), (1, .int (x1 + 1))]) [1, 0] rfl ?_
    exact h_173 (x1 + 1) M1 hf
theorem w_X10_digest_173 {X : Gc} {ad : Nat → Nat} {res : (Int64 × Mem)} (C : Gk X ad cX10_digest "NineTonguesModel" 3 4) (Rt : Gr X ad (some .long) (some (.long res.1)) res.2) : ∀ (n : Nat) (x1 : Int32) (M : Mem), f_X10_digest_173 n x1 M = some res → G X ad 173 3 [(0, .ref (ad 108)), (1, .int x1)] [] M := by
  intro n
  induction n with
  | zero => intro x1 M hf; exact absurd (show (none : Option (Int64 × Mem)) = some res from hf) (fun h => nomatch h)
  | succ n ih => intro x1 M hf; exact w_X10_digest_173_b C Rt ih x1 M hf
set_option maxRecDepth 100000 in
set_option maxHeartbeats 4000000 in
theorem w_X10_digest_143_b {X : Gc} {ad : Nat → Nat} {res : (Int64 × Mem)} {r_143 : Int32 → Mem → Option (Int64 × Mem)} (C : Gk X ad cX10_digest "NineTonguesModel" 3 4) (Rt : Gr X ad (some .long) (some (.long res.1)) res.2) (h_143 : ∀ (x1 : Int32) (M : Mem), r_143 x1 M = some res → G X ad 143 3 [(0, .ref (ad 108)), (1, .int x1)] [] M) (x1 : Int32) (M : Mem) (hf : f_X10_digest_143_b r_143 x1 M = some res) : G X ad 143 3 [(0, .ref (ad 108)), (1, .int x1)] [] M := by
  unfold f_X10_digest_143_b at hf
  refine G.iload_n (pl := 1) C dX10_digest_143 rfl rfl ?_
  refine G.aload_n (pl := 0) C dX10_digest_144 rfl rfl ?_
  refine gf10_1 C o_108 k4_98 dX10_digest_145 ?_
  refine G.iconst (v := 0) C dX10_digest_148 (by decide) ?_
  refine G.iald (v := (M.1 110 0)) C a_110 (vp_inC (by decide)) rfl dX10_digest_149 ?_
  refine G.icmp_ge (tgt := 170) C dX10_digest_150 (by decide) (fun hc1 => ?_) (fun hc1 => ?_)
  · replace hf := gIf hf hc1
    refine G.bipush (v := 12) C dX10_digest_170 (by decide) ?_
    refine G.istore_n (lv' := [(1, .int (12 : Int32)), (0, .ref (ad 108))]) C dX10_digest_172 rfl (by decide) rfl ?_
    refine G.sub (lv' := [(0, .ref (ad 108)), (1, .int (12 : Int32))]) [1, 0] rfl ?_
    exact w_X10_digest_173 C Rt FU (12 : Int32) M hf
  · replace hf := gIfn hf hc1
    refine G.aload_n (pl := 0) C dX10_digest_153 rfl rfl ?_
    refine G.aload_n (pl := 0) C dX10_digest_154 rfl rfl ?_
    refine gf10_8 C o_108 k4_105 dX10_digest_155 ?_
    refine G.iload_n (pl := 1) C dX10_digest_158 rfl rfl ?_
    obtain ⟨v1, ev1, hi1, hf⟩ := rd_some hf
    refine G.iald C a_117 hi1 ev1 dX10_digest_159 ?_
    refine G.i2l C dX10_digest_160 ?_
    obtain ⟨u, M1, hr1, hf⟩ := cl_some hf
    refine G.callV (st1 := []) C [.long v1.toInt64] [] (c_X10_sums hr1) mv_X10_sums k5_236 o_108.1 (fun _ => gShp_20 o_108) rfl rfl rfl rfl rfl (Nat.le_of_ble_eq_true rfl) (by decide) dX10_digest_161 rfl ?_
    refine G.iinc (pl := 1) (v := (x1 + 1)) (lv' := [(1, .int (x1 + 1)), (0, .ref (ad 108))]) C dX10_digest_164 rfl rfl (by decide) rfl ?_
    refine G.goto (tgt := 143) C dX10_digest_167 (by decide) ?_
    refine G.sub (lv' := [(0, .ref (ad 108)), (1, .int (x1 + 1))]) [1, 0] rfl ?_
    exact h_143 (x1 + 1) M1 hf
theorem w_X10_digest_143 {X : Gc} {ad : Nat → Nat} {res : (Int64 × Mem)} (C : Gk X ad cX10_digest "NineTonguesModel" 3 4) (Rt : Gr X ad (some .long) (some (.long res.1)) res.2) : ∀ (n : Nat) (x1 : Int32) (M : Mem), f_X10_digest_143 n x1 M = some res → G X ad 143 3 [(0, .ref (ad 108)), (1, .int x1)] [] M := by
  intro n
  induction n with
  | zero => intro x1 M hf; exact absurd (show (none : Option (Int64 × Mem)) = some res from hf) (fun h => nomatch h)
  | succ n ih => intro x1 M hf; exact w_X10_digest_143_b C Rt ih x1 M hf
set_option maxRecDepth 100000 in
set_option maxHeartbeats 4000000 in
theorem w_X10_digest_73_b {X : Gc} {ad : Nat → Nat} {res : (Int64 × Mem)} {r_33 : Int32 → Mem → Option (Int64 × Mem)} {r_73 : Int32 → Mem → Option (Int64 × Mem)} (C : Gk X ad cX10_digest "NineTonguesModel" 3 4) (Rt : Gr X ad (some .long) (some (.long res.1)) res.2) (x1 : Int32) (h_33 : ∀ (x1 : Int32) (M : Mem), r_33 x1 M = some res → G X ad 33 3 [(0, .ref (ad 108)), (1, .int x1)] [] M) (h_73 : ∀ (x2 : Int32) (M : Mem), r_73 x2 M = some res → G X ad 73 3 [(0, .ref (ad 108)), (1, .int x1), (2, .int x2)] [] M) (x2 : Int32) (M : Mem) (hf : f_X10_digest_73_b r_33 r_73 x1 x2 M = some res) : G X ad 73 3 [(0, .ref (ad 108)), (1, .int x1), (2, .int x2)] [] M := by
  unfold f_X10_digest_73_b at hf
  refine G.iload_n (pl := 2) C dX10_digest_73 rfl rfl ?_
  refine G.iconst (v := 3) C dX10_digest_74 (by decide) ?_
  refine G.aload_n (pl := 0) C dX10_digest_75 rfl rfl ?_
  refine gf10_4 C o_108 k4_101 dX10_digest_76 ?_
  refine G.iconst (v := 4) C dX10_digest_79 (by decide) ?_
  refine G.iload_n (pl := 1) C dX10_digest_80 rfl rfl ?_
  refine G.imul C dX10_digest_81 ?_
  refine G.iconst (v := 3) C dX10_digest_82 (by decide) ?_
  refine G.iadd C dX10_digest_83 ?_
  obtain ⟨v1, ev1, hi1, hf⟩ := rd_some hf
  refine G.iald C a_113 hi1 ev1 dX10_digest_84 ?_
  refine G.imul C dX10_digest_85 ?_
  refine G.icmp_ge (tgt := 111) C dX10_digest_86 (by decide) (fun hc1 => ?_) (fun hc1 => ?_)
  · replace hf := gIf hf hc1
    refine G.iinc (pl := 1) (v := (x1 + 1)) (lv' := [(1, .int (x1 + 1)), (0, .ref (ad 108)), (2, .int x2)]) C dX10_digest_111 rfl rfl (by decide) rfl ?_
    refine G.goto (tgt := 33) C dX10_digest_114 (by decide) ?_
    refine G.sub (lv' := [(0, .ref (ad 108)), (1, .int (x1 + 1))]) [1, 0] rfl ?_
    exact h_33 (x1 + 1) M hf
  · replace hf := gIfn hf hc1
    refine G.aload_n (pl := 0) C dX10_digest_89 rfl rfl ?_
    refine G.aload_n (pl := 0) C dX10_digest_90 rfl rfl ?_
    refine gf10_5 C o_108 k4_102 dX10_digest_91 ?_
    refine G.bipush (v := 24) C dX10_digest_94 (by decide) ?_
    refine G.iload_n (pl := 1) C dX10_digest_96 rfl rfl ?_
    refine G.imul C dX10_digest_97 ?_
    refine G.iload_n (pl := 2) C dX10_digest_98 rfl rfl ?_
    refine G.iadd C dX10_digest_99 ?_
    obtain ⟨v2, ev2, hi2, hf⟩ := rd_some hf
    refine G.iald C a_114 hi2 ev2 dX10_digest_100 ?_
    refine G.i2l C dX10_digest_101 ?_
    obtain ⟨u, M1, hr1, hf⟩ := cl_some hf
    refine G.callV (st1 := []) C [.long v2.toInt64] [] (c_X10_sums hr1) mv_X10_sums k5_236 o_108.1 (fun _ => gShp_20 o_108) rfl rfl rfl rfl rfl (Nat.le_of_ble_eq_true rfl) (by decide) dX10_digest_102 rfl ?_
    refine G.iinc (pl := 2) (v := (x2 + 1)) (lv' := [(2, .int (x2 + 1)), (0, .ref (ad 108)), (1, .int x1)]) C dX10_digest_105 rfl rfl (by decide) rfl ?_
    refine G.goto (tgt := 73) C dX10_digest_108 (by decide) ?_
    refine G.sub (lv' := [(0, .ref (ad 108)), (1, .int x1), (2, .int (x2 + 1))]) [1, 2, 0] rfl ?_
    exact h_73 (x2 + 1) M1 hf
theorem w_X10_digest_73 {X : Gc} {ad : Nat → Nat} {res : (Int64 × Mem)} {r_33 : Int32 → Mem → Option (Int64 × Mem)} (C : Gk X ad cX10_digest "NineTonguesModel" 3 4) (Rt : Gr X ad (some .long) (some (.long res.1)) res.2) (x1 : Int32) (h_33 : ∀ (x1 : Int32) (M : Mem), r_33 x1 M = some res → G X ad 33 3 [(0, .ref (ad 108)), (1, .int x1)] [] M) : ∀ (n : Nat) (x2 : Int32) (M : Mem), f_X10_digest_73 r_33 x1 n x2 M = some res → G X ad 73 3 [(0, .ref (ad 108)), (1, .int x1), (2, .int x2)] [] M := by
  intro n
  induction n with
  | zero => intro x2 M hf; exact absurd (show (none : Option (Int64 × Mem)) = some res from hf) (fun h => nomatch h)
  | succ n ih => intro x2 M hf; exact w_X10_digest_73_b C Rt x1 h_33 ih x2 M hf
set_option maxRecDepth 100000 in
set_option maxHeartbeats 4000000 in
theorem w_X10_digest_45_b {X : Gc} {ad : Nat → Nat} {res : (Int64 × Mem)} {r_33 : Int32 → Mem → Option (Int64 × Mem)} {r_45 : Int32 → Mem → Option (Int64 × Mem)} (C : Gk X ad cX10_digest "NineTonguesModel" 3 4) (Rt : Gr X ad (some .long) (some (.long res.1)) res.2) (x1 : Int32) (h_33 : ∀ (x1 : Int32) (M : Mem), r_33 x1 M = some res → G X ad 33 3 [(0, .ref (ad 108)), (1, .int x1)] [] M) (h_45 : ∀ (x2 : Int32) (M : Mem), r_45 x2 M = some res → G X ad 45 3 [(0, .ref (ad 108)), (1, .int x1), (2, .int x2)] [] M) (x2 : Int32) (M : Mem) (hf : f_X10_digest_45_b r_33 r_45 x1 x2 M = some res) : G X ad 45 3 [(0, .ref (ad 108)), (1, .int x1), (2, .int x2)] [] M := by
  unfold f_X10_digest_45_b at hf
  refine G.iload_n (pl := 2) C dX10_digest_45 rfl rfl ?_
  refine G.iconst (v := 3) C dX10_digest_46 (by decide) ?_
  refine G.icmp_ge (tgt := 71) C dX10_digest_47 (by decide) (fun hc1 => ?_) (fun hc1 => ?_)
  · replace hf := gIf hf hc1
    refine G.iconst (v := 0) C dX10_digest_71 (by decide) ?_
    refine G.istore_n (lv' := [(2, .int (0 : Int32)), (0, .ref (ad 108)), (1, .int x1)]) C dX10_digest_72 rfl (by decide) rfl ?_
    refine G.sub (lv' := [(0, .ref (ad 108)), (1, .int x1), (2, .int (0 : Int32))]) [1, 2, 0] rfl ?_
    exact w_X10_digest_73 C Rt x1 h_33 FU (0 : Int32) M hf
  · replace hf := gIfn hf hc1
    refine G.aload_n (pl := 0) C dX10_digest_50 rfl rfl ?_
    refine G.aload_n (pl := 0) C dX10_digest_51 rfl rfl ?_
    refine gf10_4 C o_108 k4_101 dX10_digest_52 ?_
    refine G.iconst (v := 4) C dX10_digest_55 (by decide) ?_
    refine G.iload_n (pl := 1) C dX10_digest_56 rfl rfl ?_
    refine G.imul C dX10_digest_57 ?_
    refine G.iload_n (pl := 2) C dX10_digest_58 rfl rfl ?_
    refine G.iadd C dX10_digest_59 ?_
    obtain ⟨v1, ev1, hi1, hf⟩ := rd_some hf
    refine G.iald C a_113 hi1 ev1 dX10_digest_60 ?_
    refine G.i2l C dX10_digest_61 ?_
    obtain ⟨u, M1, hr1, hf⟩ := cl_some hf
    refine G.callV (st1 := []) C [.long v1.toInt64] [] (c_X10_sums hr1) mv_X10_sums k5_236 o_108.1 (fun _ => gShp_20 o_108) rfl rfl rfl rfl rfl (Nat.le_of_ble_eq_true rfl) (by decide) dX10_digest_62 rfl ?_
    refine G.iinc (pl := 2) (v := (x2 + 1)) (lv' := [(2, .int (x2 + 1)), (0, .ref (ad 108)), (1, .int x1)]) C dX10_digest_65 rfl rfl (by decide) rfl ?_
    refine G.goto (tgt := 45) C dX10_digest_68 (by decide) ?_
    refine G.sub (lv' := [(0, .ref (ad 108)), (1, .int x1), (2, .int (x2 + 1))]) [1, 2, 0] rfl ?_
    exact h_45 (x2 + 1) M1 hf
theorem w_X10_digest_45 {X : Gc} {ad : Nat → Nat} {res : (Int64 × Mem)} {r_33 : Int32 → Mem → Option (Int64 × Mem)} (C : Gk X ad cX10_digest "NineTonguesModel" 3 4) (Rt : Gr X ad (some .long) (some (.long res.1)) res.2) (x1 : Int32) (h_33 : ∀ (x1 : Int32) (M : Mem), r_33 x1 M = some res → G X ad 33 3 [(0, .ref (ad 108)), (1, .int x1)] [] M) : ∀ (n : Nat) (x2 : Int32) (M : Mem), f_X10_digest_45 r_33 x1 n x2 M = some res → G X ad 45 3 [(0, .ref (ad 108)), (1, .int x1), (2, .int x2)] [] M := by
  intro n
  induction n with
  | zero => intro x2 M hf; exact absurd (show (none : Option (Int64 × Mem)) = some res from hf) (fun h => nomatch h)
  | succ n ih => intro x2 M hf; exact w_X10_digest_45_b C Rt x1 h_33 ih x2 M hf
set_option maxRecDepth 100000 in
set_option maxHeartbeats 4000000 in
theorem w_X10_digest_33_b {X : Gc} {ad : Nat → Nat} {res : (Int64 × Mem)} {r_33 : Int32 → Mem → Option (Int64 × Mem)} (C : Gk X ad cX10_digest "NineTonguesModel" 3 4) (Rt : Gr X ad (some .long) (some (.long res.1)) res.2) (h_33 : ∀ (x1 : Int32) (M : Mem), r_33 x1 M = some res → G X ad 33 3 [(0, .ref (ad 108)), (1, .int x1)] [] M) (x1 : Int32) (M : Mem) (hf : f_X10_digest_33_b r_33 x1 M = some res) : G X ad 33 3 [(0, .ref (ad 108)), (1, .int x1)] [] M := by
  unfold f_X10_digest_33_b at hf
  refine G.iload_n (pl := 1) C dX10_digest_33 rfl rfl ?_
  refine G.aload_n (pl := 0) C dX10_digest_34 rfl rfl ?_
  refine gf10_0 C o_108 k4_97 dX10_digest_35 ?_
  refine G.iconst (v := 0) C dX10_digest_38 (by decide) ?_
  refine G.iald (v := (M.1 109 0)) C a_109 (vp_inC (by decide)) rfl dX10_digest_39 ?_
  refine G.icmp_ge (tgt := 117) C dX10_digest_40 (by decide) (fun hc1 => ?_) (fun hc1 => ?_)
  · replace hf := gIf hf hc1
    refine G.aload_n (pl := 0) C dX10_digest_117 rfl rfl ?_
    refine G.aload_n (pl := 0) C dX10_digest_118 rfl rfl ?_
    refine gf10_9 C o_108 k4_106 dX10_digest_119 ?_
    refine G.bipush (v := 10) C dX10_digest_122 (by decide) ?_
    refine G.iald (v := (M.1 118 10)) C a_118 (vp_inC (by decide)) rfl dX10_digest_124 ?_
    refine G.i2l C dX10_digest_125 ?_
    obtain ⟨u, M1, hr1, hf⟩ := cl_some hf
    refine G.callV (st1 := []) C [.long (M.1 118 10).toInt64] [] (c_X10_sums hr1) mv_X10_sums k5_236 o_108.1 (fun _ => gShp_20 o_108) rfl rfl rfl rfl rfl (Nat.le_of_ble_eq_true rfl) (by decide) dX10_digest_126 rfl ?_
    refine G.aload_n (pl := 0) C dX10_digest_129 rfl rfl ?_
    refine G.aload_n (pl := 0) C dX10_digest_130 rfl rfl ?_
    refine gf10_9 C o_108 k4_106 dX10_digest_131 ?_
    refine G.bipush (v := 11) C dX10_digest_134 (by decide) ?_
    refine G.iald (v := (M1.1 118 11)) C a_118 (vp_inC (by decide)) rfl dX10_digest_136 ?_
    refine G.i2l C dX10_digest_137 ?_
    obtain ⟨u, M2, hr2, hf⟩ := cl_some hf
    refine G.callV (st1 := []) C [.long (M1.1 118 11).toInt64] [] (c_X10_sums hr2) mv_X10_sums k5_236 o_108.1 (fun _ => gShp_20 o_108) rfl rfl rfl rfl rfl (Nat.le_of_ble_eq_true rfl) (by decide) dX10_digest_138 rfl ?_
    refine G.iconst (v := 0) C dX10_digest_141 (by decide) ?_
    refine G.istore_n (lv' := [(1, .int (0 : Int32)), (0, .ref (ad 108))]) C dX10_digest_142 rfl (by decide) rfl ?_
    refine G.sub (lv' := [(0, .ref (ad 108)), (1, .int (0 : Int32))]) [1, 0] rfl ?_
    exact w_X10_digest_143 C Rt FU (0 : Int32) M2 hf
  · replace hf := gIfn hf hc1
    refine G.iconst (v := 0) C dX10_digest_43 (by decide) ?_
    refine G.istore_n (lv' := [(2, .int (0 : Int32)), (0, .ref (ad 108)), (1, .int x1)]) C dX10_digest_44 rfl (by decide) rfl ?_
    refine G.sub (lv' := [(0, .ref (ad 108)), (1, .int x1), (2, .int (0 : Int32))]) [1, 2, 0] rfl ?_
    exact w_X10_digest_45 C Rt x1 h_33 FU (0 : Int32) M hf
theorem w_X10_digest_33 {X : Gc} {ad : Nat → Nat} {res : (Int64 × Mem)} (C : Gk X ad cX10_digest "NineTonguesModel" 3 4) (Rt : Gr X ad (some .long) (some (.long res.1)) res.2) : ∀ (n : Nat) (x1 : Int32) (M : Mem), f_X10_digest_33 n x1 M = some res → G X ad 33 3 [(0, .ref (ad 108)), (1, .int x1)] [] M := by
  intro n
  induction n with
  | zero => intro x1 M hf; exact absurd (show (none : Option (Int64 × Mem)) = some res from hf) (fun h => nomatch h)
  | succ n ih => intro x1 M hf; exact w_X10_digest_33_b C Rt ih x1 M hf
set_option maxRecDepth 100000 in
set_option maxHeartbeats 4000000 in
theorem w_X10_digest_9_b {X : Gc} {ad : Nat → Nat} {res : (Int64 × Mem)} {r_9 : Int32 → Mem → Option (Int64 × Mem)} (C : Gk X ad cX10_digest "NineTonguesModel" 3 4) (Rt : Gr X ad (some .long) (some (.long res.1)) res.2) (h_9 : ∀ (x1 : Int32) (M : Mem), r_9 x1 M = some res → G X ad 9 3 [(0, .ref (ad 108)), (1, .int x1)] [] M) (x1 : Int32) (M : Mem) (hf : f_X10_digest_9_b r_9 x1 M = some res) : G X ad 9 3 [(0, .ref (ad 108)), (1, .int x1)] [] M := by
  unfold f_X10_digest_9_b at hf
  refine G.iload_n (pl := 1) C dX10_digest_9 rfl rfl ?_
  refine G.bipush (v := 10) C dX10_digest_10 (by decide) ?_
  refine G.icmp_ge (tgt := 31) C dX10_digest_12 (by decide) (fun hc1 => ?_) (fun hc1 => ?_)
  · replace hf := gIf hf hc1
    refine G.iconst (v := 0) C dX10_digest_31 (by decide) ?_
    refine G.istore_n (lv' := [(1, .int (0 : Int32)), (0, .ref (ad 108))]) C dX10_digest_32 rfl (by decide) rfl ?_
    refine G.sub (lv' := [(0, .ref (ad 108)), (1, .int (0 : Int32))]) [1, 0] rfl ?_
    exact w_X10_digest_33 C Rt FU (0 : Int32) M hf
  · replace hf := gIfn hf hc1
    refine G.aload_n (pl := 0) C dX10_digest_15 rfl rfl ?_
    refine G.aload_n (pl := 0) C dX10_digest_16 rfl rfl ?_
    refine G.iload_n (pl := 1) C dX10_digest_17 rfl rfl ?_
    obtain ⟨v1, hr1, hf⟩ := cp_some hf
    refine G.callV (st1 := [.int v1, .ref (ad 108)]) C [.int x1] [.ref (ad 108)] (c_X10_counted hr1) mv_X10_counted k5_227 o_108.1 (fun _ => gShp_20 o_108) rfl rfl rfl rfl rfl (Nat.le_of_ble_eq_true rfl) (by decide) dX10_digest_18 rfl ?_
    refine G.i2l C dX10_digest_21 ?_
    obtain ⟨u, M1, hr2, hf⟩ := cl_some hf
    refine G.callV (st1 := []) C [.long v1.toInt64] [] (c_X10_sums hr2) mv_X10_sums k5_236 o_108.1 (fun _ => gShp_20 o_108) rfl rfl rfl rfl rfl (Nat.le_of_ble_eq_true rfl) (by decide) dX10_digest_22 rfl ?_
    refine G.iinc (pl := 1) (v := (x1 + 1)) (lv' := [(1, .int (x1 + 1)), (0, .ref (ad 108))]) C dX10_digest_25 rfl rfl (by decide) rfl ?_
    refine G.goto (tgt := 9) C dX10_digest_28 (by decide) ?_
    refine G.sub (lv' := [(0, .ref (ad 108)), (1, .int (x1 + 1))]) [1, 0] rfl ?_
    exact h_9 (x1 + 1) M1 hf
theorem w_X10_digest_9 {X : Gc} {ad : Nat → Nat} {res : (Int64 × Mem)} (C : Gk X ad cX10_digest "NineTonguesModel" 3 4) (Rt : Gr X ad (some .long) (some (.long res.1)) res.2) : ∀ (n : Nat) (x1 : Int32) (M : Mem), f_X10_digest_9 n x1 M = some res → G X ad 9 3 [(0, .ref (ad 108)), (1, .int x1)] [] M := by
  intro n
  induction n with
  | zero => intro x1 M hf; exact absurd (show (none : Option (Int64 × Mem)) = some res from hf) (fun h => nomatch h)
  | succ n ih => intro x1 M hf; exact w_X10_digest_9_b C Rt ih x1 M hf
set_option maxRecDepth 100000 in
set_option maxHeartbeats 4000000 in
theorem w_X10_digest_E {X : Gc} {ad : Nat → Nat} {res : (Int64 × Mem)} (C : Gk X ad cX10_digest "NineTonguesModel" 3 4) (Rt : Gr X ad (some .long) (some (.long res.1)) res.2) (M : Mem) (hf : f_X10_digest M = some res) : G X ad 0 3 [(0, .ref (ad 108))] [] M := by
  unfold f_X10_digest at hf
  refine G.aload_n (pl := 0) C dX10_digest_0 rfl rfl ?_
  refine G.ldc2 C k5_235 dX10_digest_1 ?_
  obtain ⟨M1, eM1, hf⟩ := stm_some hf
  refine gp10_28 C o_108 k4_125 eM1 dX10_digest_4 ?_
  refine G.iconst (v := 0) C dX10_digest_7 (by decide) ?_
  refine G.istore_n (lv' := [(1, .int (0 : Int32)), (0, .ref (ad 108))]) C dX10_digest_8 rfl (by decide) rfl ?_
  refine G.sub (lv' := [(0, .ref (ad 108)), (1, .int (0 : Int32))]) [1, 0] rfl ?_
  exact w_X10_digest_9 C Rt FU (0 : Int32) M1 hf
theorem mv_X10_digest : gMV yX10_digest cX10_digest 3 (some .long) 0 := ⟨k5_232, k5_233, k1_12, k5_234, ⟨by decide +kernel, by decide +kernel, by decide +kernel⟩, by decide⟩
theorem c_X10_digest {res : (Int64 × Mem)} {M : Mem} (hf : f_X10_digest M = some res) : Ct yX10_digest cX10_digest 3 (some .long) 4 (fun ad => [.ref (ad 108)]) M (some (.long res.1)) res.2 :=
  Ct.of (by decide +kernel) (fun _ => Nat.le_of_ble_eq_true rfl) (fun X ad C Rt => w_X10_digest_E C Rt M hf)
