set_option maxRecDepth 100000 in
set_option maxHeartbeats 4000000 in
theorem w_X10_reads_240 {X : Gc} {ad : Nat → Nat} {res : (Int32 × Mem)} (C : Gk X ad cX10_reads "NineTonguesModel" 7 4) (Rt : Gr X ad (some .int) (some (.int res.1)) res.2) (M : Mem) (hf : f_X10_reads_240 M = some res) : G X ad 240 7 [(0, .ref (ad 108))] [] M := by
  unfold f_X10_reads_240 at hf
  refine G.aload_n (pl := 0) C dX10_reads_240 rfl rfl ?_
  refine gf10_2 C o_108 k4_99 dX10_reads_241 ?_
  refine G.iconst (v := 0) C dX10_reads_244 (by decide) ?_
  refine G.iald (v := (M.1 111 0)) C a_111 (vp_inC (by decide)) rfl dX10_reads_245 ?_
  refine G.goto (tgt := 250) C dX10_reads_246 (by decide) ?_
  cases hf
  exact G.iret C Rt dX10_reads_250
set_option maxRecDepth 100000 in
set_option maxHeartbeats 4000000 in
theorem w_X10_reads_224 {X : Gc} {ad : Nat → Nat} {res : (Int32 × Mem)} {r_19 : Int32 → Int32 → Int32 → Mem → Option (Int32 × Mem)} (C : Gk X ad cX10_reads "NineTonguesModel" 7 4) (Rt : Gr X ad (some .int) (some (.int res.1)) res.2) (x1 : Int32) (x2 : Int32) (M : Mem) (h_19 : ∀ (x1 : Int32) (x2 : Int32) (x3 : Int32) (M : Mem), r_19 x1 x2 x3 M = some res → G X ad 19 7 [(0, .ref (ad 108)), (1, .int x1), (2, .int x2), (3, .int x3)] [] M) (hf : f_X10_reads_224 r_19 x1 x2 M = some res) : G X ad 224 7 [(0, .ref (ad 108)), (1, .int x1), (2, .int x2)] [] M := by
  unfold f_X10_reads_224 at hf
  refine G.aload_n (pl := 0) C dX10_reads_224 rfl rfl ?_
  obtain ⟨v1, M1, hr1, hf⟩ := cl_some hf
  refine G.callV (st1 := [.int v1]) C [] [] (c_X10_next hr1) mv_X10_next k5_16 o_108.1 (fun _ => gShp_20 o_108) rfl rfl rfl rfl rfl (Nat.le_of_ble_eq_true rfl) (by decide) dX10_reads_225 rfl ?_
  refine G.istore_n (lv' := [(3, .int v1), (0, .ref (ad 108)), (1, .int x1), (2, .int x2)]) C dX10_reads_228 rfl (by decide) rfl ?_
  refine G.goto (tgt := 19) C dX10_reads_229 (by decide) ?_
  refine G.sub (lv' := [(0, .ref (ad 108)), (1, .int x1), (2, .int x2), (3, .int v1)]) [1, 2, 3, 0] rfl ?_
  exact h_19 x1 x2 v1 M1 hf
set_option maxRecDepth 100000 in
set_option maxHeartbeats 4000000 in
theorem w_X10_reads_153 {X : Gc} {ad : Nat → Nat} {res : (Int32 × Mem)} {r_19 : Int32 → Int32 → Int32 → Mem → Option (Int32 × Mem)} (C : Gk X ad cX10_reads "NineTonguesModel" 7 4) (Rt : Gr X ad (some .int) (some (.int res.1)) res.2) (x1 : Int32) (x2 : Int32) (x3 : Int32) (x4 : Int32) (M : Mem) (h_19 : ∀ (x1 : Int32) (x2 : Int32) (x3 : Int32) (M : Mem), r_19 x1 x2 x3 M = some res → G X ad 19 7 [(0, .ref (ad 108)), (1, .int x1), (2, .int x2), (3, .int x3)] [] M) (hf : f_X10_reads_153 r_19 x1 x2 x3 x4 M = some res) : G X ad 153 7 [(0, .ref (ad 108)), (1, .int x1), (2, .int x2), (3, .int x3), (4, .int x4)] [] M := by
  unfold f_X10_reads_153 at hf
  refine G.iload_n (pl := 3) C dX10_reads_153 rfl rfl ?_
  refine G.bipush (v := 41) C dX10_reads_154 (by decide) ?_
  refine G.icmp_ne (tgt := 221) C dX10_reads_156 (by decide) (fun hc1 => ?_) (fun hc1 => ?_)
  · replace hf := gIfn hf hc1
    refine G.iload (pl := 4) C dX10_reads_221 rfl ?_
    cases hf
    exact G.iret C Rt dX10_reads_223
  · replace hf := gIf hf hc1
    refine G.iload_n (pl := 1) C dX10_reads_159 rfl rfl ?_
    refine G.if_le (tgt := 221) C dX10_reads_160 (by decide) (fun hc2 => ?_) (fun hc2 => ?_)
    · replace hf := gIf hf hc2
      refine G.iload (pl := 4) C dX10_reads_221 rfl ?_
      cases hf
      exact G.iret C Rt dX10_reads_223
    · replace hf := gIfn hf hc2
      refine G.iload_n (pl := 2) C dX10_reads_163 rfl rfl ?_
      refine G.if_eq (tgt := 221) C dX10_reads_164 (by decide) (fun hc3 => ?_) (fun hc3 => ?_)
      · replace hf := gIf hf hc3
        refine G.iload (pl := 4) C dX10_reads_221 rfl ?_
        cases hf
        exact G.iret C Rt dX10_reads_223
      · replace hf := gIfn hf hc3
        refine G.aload_n (pl := 0) C dX10_reads_167 rfl rfl ?_
        obtain ⟨v1, M1, hr1, hf⟩ := cl_some hf
        refine G.callV (st1 := [.int v1]) C [] [] (c_X10_next hr1) mv_X10_next k5_16 o_108.1 (fun _ => gShp_20 o_108) rfl rfl rfl rfl rfl (Nat.le_of_ble_eq_true rfl) (by decide) dX10_reads_168 rfl ?_
        refine G.istore (lv' := [(5, .int v1), (0, .ref (ad 108)), (1, .int x1), (2, .int x2), (3, .int x3), (4, .int x4)]) C dX10_reads_171 (by decide) rfl ?_
        refine G.iload (pl := 0) C dX10_reads_173 rfl ?_
        refine G.bipush (v := 49) C dX10_reads_175 (by decide) ?_
        refine G.bipush (v := 57) C dX10_reads_177 (by decide) ?_
        obtain ⟨v2, hr2, hf⟩ := cp_some hf
        refine G.callS (st1 := [.int v2]) C [.int v1, .int (49 : Int32), .int (57 : Int32)] [] (c_X10_between hr2) mv_X10_between k4_189 rfl rfl rfl (Nat.le_of_ble_eq_true rfl) (by decide) dX10_reads_179 rfl ?_
        refine G.if_ne (tgt := 190) C dX10_reads_182 (by decide) (fun hc4 => ?_) (fun hc4 => ?_)
        · replace hf := gIfn hf hc4
          refine G.aload_n (pl := 1) C dX10_reads_190 rfl rfl ?_
          refine G.dup C dX10_reads_191 rfl ?_
          refine gf10_16 C o_108 k4_113 dX10_reads_192 ?_
          refine G.iconst (v := 1) C dX10_reads_195 (by decide) ?_
          refine G.iadd C dX10_reads_196 ?_
          obtain ⟨M2, eM1, hf⟩ := stm_some hf
          refine gp10_16 C o_108 k4_113 eM1 dX10_reads_197 ?_
          refine G.iinc (pl := 2) (v := (x1 + (-1))) (lv' := [(1, .int (x1 + (-1))), (5, .int v1), (0, .ref (ad 108)), (2, .int x2), (3, .int x3), (4, .int x4)]) C dX10_reads_200 rfl rfl (by decide) rfl ?_
          refine G.aload_n (pl := 2) C dX10_reads_203 rfl rfl ?_
          refine G.aload_n (pl := 2) C dX10_reads_204 rfl rfl ?_
          refine gf10_17 C o_108 k4_114 dX10_reads_205 ?_
          refine G.iload_n (pl := 0) C dX10_reads_208 rfl rfl ?_
          obtain ⟨v3, ev1, hi1, hf⟩ := rd_some hf
          refine G.iald C a_122 hi1 ev1 dX10_reads_209 ?_
          refine G.iload (pl := 1) C dX10_reads_210 rfl ?_
          refine G.bipush (v := 48) C dX10_reads_212 (by decide) ?_
          refine G.isub C dX10_reads_214 ?_
          obtain ⟨u, M3, hr3, hf⟩ := cl_some hf
          refine G.callV (st1 := []) C [.int v3, .int (v1 - (48 : Int32))] [] (c_X10_again hr3) mv_X10_again k5_28 o_108.1 (fun _ => gShp_20 o_108) rfl rfl rfl rfl rfl (Nat.le_of_ble_eq_true rfl) (by decide) dX10_reads_215 rfl ?_
          refine G.goto (tgt := 224) C dX10_reads_218 (by decide) ?_
          refine G.sub (lv' := [(0, .ref (ad 108)), (1, .int (x1 + (-1))), (2, .int x2)]) [2, 0, 3] rfl ?_
          exact w_X10_reads_224 C Rt (x1 + (-1)) x2 M3 h_19 hf
        · replace hf := gIf hf hc4
          refine G.aload_n (pl := 1) C dX10_reads_185 rfl rfl ?_
          refine gf10_16 C o_108 k4_113 dX10_reads_186 ?_
          cases hf
          exact G.iret C Rt dX10_reads_189
set_option maxRecDepth 100000 in
set_option maxHeartbeats 4000000 in
theorem w_X10_reads_124 {X : Gc} {ad : Nat → Nat} {res : (Int32 × Mem)} {r_19 : Int32 → Int32 → Int32 → Mem → Option (Int32 × Mem)} (C : Gk X ad cX10_reads "NineTonguesModel" 7 4) (Rt : Gr X ad (some .int) (some (.int res.1)) res.2) (x1 : Int32) (x2 : Int32) (x3 : Int32) (x4 : Int32) (M : Mem) (h_19 : ∀ (x1 : Int32) (x2 : Int32) (x3 : Int32) (M : Mem), r_19 x1 x2 x3 M = some res → G X ad 19 7 [(0, .ref (ad 108)), (1, .int x1), (2, .int x2), (3, .int x3)] [] M) (hf : f_X10_reads_124 r_19 x1 x2 x3 x4 M = some res) : G X ad 124 7 [(0, .ref (ad 108)), (1, .int x1), (2, .int x2), (3, .int x3), (4, .int x4)] [] M := by
  unfold f_X10_reads_124 at hf
  refine G.iload_n (pl := 3) C dX10_reads_124 rfl rfl ?_
  refine G.bipush (v := 40) C dX10_reads_125 (by decide) ?_
  refine G.icmp_ne (tgt := 153) C dX10_reads_127 (by decide) (fun hc1 => ?_) (fun hc1 => ?_)
  · replace hf := gIfn hf hc1
    exact w_X10_reads_153 C Rt x1 x2 x3 x4 M h_19 hf
  · replace hf := gIf hf hc1
    refine G.iload_n (pl := 1) C dX10_reads_130 rfl rfl ?_
    refine G.iconst (v := 4) C dX10_reads_131 (by decide) ?_
    refine G.icmp_ge (tgt := 153) C dX10_reads_132 (by decide) (fun hc2 => ?_) (fun hc2 => ?_)
    · replace hf := gIf hf hc2
      exact w_X10_reads_153 C Rt x1 x2 x3 x4 M h_19 hf
    · replace hf := gIfn hf hc2
      refine G.aload_n (pl := 0) C dX10_reads_135 rfl rfl ?_
      refine gf10_17 C o_108 k4_114 dX10_reads_136 ?_
      refine G.iload_n (pl := 1) C dX10_reads_139 rfl rfl ?_
      refine G.aload_n (pl := 0) C dX10_reads_140 rfl rfl ?_
      refine gf10_14 C o_108 k4_111 dX10_reads_141 ?_
      obtain ⟨hi1, hf⟩ := ck_some hf
      obtain ⟨M1, eM1, hf⟩ := stm_some hf
      refine G.iast C a_122 hi1 eM1 dX10_reads_144 ?_
      refine G.iinc (pl := 1) (v := (x1 + 1)) (lv' := [(1, .int (x1 + 1)), (0, .ref (ad 108)), (2, .int x2), (3, .int x3), (4, .int x4)]) C dX10_reads_145 rfl rfl (by decide) rfl ?_
      refine G.iconst (v := 0) C dX10_reads_148 (by decide) ?_
      refine G.istore_n (lv' := [(2, .int (0 : Int32)), (1, .int (x1 + 1)), (0, .ref (ad 108)), (3, .int x3), (4, .int x4)]) C dX10_reads_149 rfl (by decide) rfl ?_
      refine G.goto (tgt := 224) C dX10_reads_150 (by decide) ?_
      refine G.sub (lv' := [(0, .ref (ad 108)), (1, .int (x1 + 1)), (2, .int (0 : Int32))]) [2, 1, 0] rfl ?_
      exact w_X10_reads_224 C Rt (x1 + 1) (0 : Int32) M1 h_19 hf
set_option maxRecDepth 100000 in
set_option maxHeartbeats 4000000 in
theorem w_X10_reads_116 {X : Gc} {ad : Nat → Nat} {res : (Int32 × Mem)} {r_19 : Int32 → Int32 → Int32 → Mem → Option (Int32 × Mem)} (C : Gk X ad cX10_reads "NineTonguesModel" 7 4) (Rt : Gr X ad (some .int) (some (.int res.1)) res.2) (x1 : Int32) (t2 : Int32) (t1 : Int32) (M : Mem) (h_19 : ∀ (x1 : Int32) (x2 : Int32) (x3 : Int32) (M : Mem), r_19 x1 x2 x3 M = some res → G X ad 19 7 [(0, .ref (ad 108)), (1, .int x1), (2, .int x2), (3, .int x3)] [] M) (hf : f_X10_reads_116 r_19 x1 t2 t1 M = some res) : G X ad 116 7 [(0, .ref (ad 108)), (1, .int x1)] [.int t2, .int t1, .ref (ad 108)] M := by
  unfold f_X10_reads_116 at hf
  obtain ⟨u, M1, hr1, hf⟩ := cl_some hf
  refine G.callV (st1 := []) C [.int t1, .int t2] [] (c_X10_puts hr1) mv_X10_puts k5_24 o_108.1 (fun _ => gShp_20 o_108) rfl rfl rfl rfl rfl (Nat.le_of_ble_eq_true rfl) (by decide) dX10_reads_116 rfl ?_
  refine G.iconst (v := 1) C dX10_reads_119 (by decide) ?_
  refine G.istore_n (lv' := [(2, .int (1 : Int32)), (0, .ref (ad 108)), (1, .int x1)]) C dX10_reads_120 rfl (by decide) rfl ?_
  refine G.goto (tgt := 224) C dX10_reads_121 (by decide) ?_
  refine G.sub (lv' := [(0, .ref (ad 108)), (1, .int x1), (2, .int (1 : Int32))]) [1, 2, 0] rfl ?_
  exact w_X10_reads_224 C Rt x1 (1 : Int32) M1 h_19 hf
set_option maxRecDepth 100000 in
set_option maxHeartbeats 4000000 in
theorem w_X10_reads_93 {X : Gc} {ad : Nat → Nat} {res : (Int32 × Mem)} {r_19 : Int32 → Int32 → Int32 → Mem → Option (Int32 × Mem)} (C : Gk X ad cX10_reads "NineTonguesModel" 7 4) (Rt : Gr X ad (some .int) (some (.int res.1)) res.2) (x1 : Int32) (x3 : Int32) (x5 : Int32) (x6 : Int32) (t2 : Int32) (t1 : Int32) (M : Mem) (h_19 : ∀ (x1 : Int32) (x2 : Int32) (x3 : Int32) (M : Mem), r_19 x1 x2 x3 M = some res → G X ad 19 7 [(0, .ref (ad 108)), (1, .int x1), (2, .int x2), (3, .int x3)] [] M) (hf : f_X10_reads_93 r_19 x1 x3 x5 x6 t2 t1 M = some res) : G X ad 93 7 [(0, .ref (ad 108)), (1, .int x1), (3, .int x3), (5, .int x5), (6, .int x6)] [.int t2, .int t1, .ref (ad 108)] M := by
  unfold f_X10_reads_93 at hf
  refine G.iadd C dX10_reads_93 ?_
  obtain ⟨M1, eM1, hf⟩ := stm_some hf
  refine gp10_16 C o_108 k4_113 eM1 dX10_reads_94 ?_
  refine G.aload_n (pl := 0) C dX10_reads_97 rfl rfl ?_
  refine G.iload_n (pl := 2) C dX10_reads_98 rfl rfl ?_
  refine G.bipush (v := 97) C dX10_reads_99 (by decide) ?_
  refine G.isub C dX10_reads_101 ?_
  refine G.iload (pl := 4) C dX10_reads_102 rfl ?_
  refine G.if_eq (tgt := 115) C dX10_reads_104 (by decide) (fun hc1 => ?_) (fun hc1 => ?_)
  · replace hf := gIf hf hc1
    refine G.iconst (v := 0) C dX10_reads_115 (by decide) ?_
    refine G.sub (lv' := [(0, .ref (ad 108)), (1, .int x1)]) [0, 1] rfl ?_
    exact w_X10_reads_116 C Rt x1 (0 : Int32) (x3 - (97 : Int32)) M1 h_19 hf
  · replace hf := gIfn hf hc1
    refine G.iload (pl := 3) C dX10_reads_107 rfl ?_
    refine G.bipush (v := 48) C dX10_reads_109 (by decide) ?_
    refine G.isub C dX10_reads_111 ?_
    refine G.goto (tgt := 116) C dX10_reads_112 (by decide) ?_
    refine G.sub (lv' := [(0, .ref (ad 108)), (1, .int x1)]) [0, 1] rfl ?_
    exact w_X10_reads_116 C Rt x1 (x5 - (48 : Int32)) (x3 - (97 : Int32)) M1 h_19 hf
set_option maxRecDepth 100000 in
set_option maxHeartbeats 4000000 in
theorem w_X10_reads_19_b {X : Gc} {ad : Nat → Nat} {res : (Int32 × Mem)} {r_19 : Int32 → Int32 → Int32 → Mem → Option (Int32 × Mem)} (C : Gk X ad cX10_reads "NineTonguesModel" 7 4) (Rt : Gr X ad (some .int) (some (.int res.1)) res.2) (h_19 : ∀ (x1 : Int32) (x2 : Int32) (x3 : Int32) (M : Mem), r_19 x1 x2 x3 M = some res → G X ad 19 7 [(0, .ref (ad 108)), (1, .int x1), (2, .int x2), (3, .int x3)] [] M) (x1 : Int32) (x2 : Int32) (x3 : Int32) (M : Mem) (hf : f_X10_reads_19_b r_19 x1 x2 x3 M = some res) : G X ad 19 7 [(0, .ref (ad 108)), (1, .int x1), (2, .int x2), (3, .int x3)] [] M := by
  unfold f_X10_reads_19_b at hf
  refine G.iload_n (pl := 3) C dX10_reads_19 rfl rfl ?_
  refine G.if_lt (tgt := 232) C dX10_reads_20 (by decide) (fun hc1 => ?_) (fun hc1 => ?_)
  · replace hf := gIf hf hc1
    refine G.iload_n (pl := 1) C dX10_reads_232 rfl rfl ?_
    refine G.if_gt (tgt := 240) C dX10_reads_233 (by decide) (fun hc2 => ?_) (fun hc2 => ?_)
    · replace hf := gIf hf hc2
      refine G.sub (lv' := [(0, .ref (ad 108))]) [0] rfl ?_
      exact w_X10_reads_240 C Rt M hf
    · replace hf := gIfn hf hc2
      refine G.iload_n (pl := 2) C dX10_reads_236 rfl rfl ?_
      refine G.if_ne (tgt := 249) C dX10_reads_237 (by decide) (fun hc3 => ?_) (fun hc3 => ?_)
      · replace hf := gIfn hf hc3
        refine G.iconst (v := (-1)) C dX10_reads_249 (by decide) ?_
        cases hf
        exact G.iret C Rt dX10_reads_250
      · replace hf := gIf hf hc3
        refine G.sub (lv' := [(0, .ref (ad 108))]) [0] rfl ?_
        exact w_X10_reads_240 C Rt M hf
  · replace hf := gIfn hf hc1
    refine G.aload_n (pl := 0) C dX10_reads_23 rfl rfl ?_
    refine gf10_16 C o_108 k4_113 dX10_reads_24 ?_
    refine G.istore (lv' := [(4, .int (M.1 108 16)), (0, .ref (ad 108)), (1, .int x1), (2, .int x2), (3, .int x3)]) C dX10_reads_27 (by decide) rfl ?_
    refine G.aload_n (pl := 1) C dX10_reads_29 rfl rfl ?_
    refine G.dup C dX10_reads_30 rfl ?_
    refine gf10_16 C o_108 k4_113 dX10_reads_31 ?_
    refine G.iconst (v := 1) C dX10_reads_34 (by decide) ?_
    refine G.iadd C dX10_reads_35 ?_
    obtain ⟨M1, eM1, hf⟩ := stm_some hf
    refine gp10_16 C o_108 k4_113 eM1 dX10_reads_36 ?_
    refine G.iload_n (pl := 4) C dX10_reads_39 rfl rfl ?_
    refine G.bipush (v := 97) C dX10_reads_40 (by decide) ?_
    refine G.bipush (v := 102) C dX10_reads_42 (by decide) ?_
    obtain ⟨v1, hr1, hf⟩ := cp_some hf
    refine G.callS (st1 := [.int v1]) C [.int x3, .int (97 : Int32), .int (102 : Int32)] [] (c_X10_between hr1) mv_X10_between k4_189 rfl rfl rfl (Nat.le_of_ble_eq_true rfl) (by decide) dX10_reads_44 rfl ?_
    refine G.if_eq (tgt := 124) C dX10_reads_47 (by decide) (fun hc4 => ?_) (fun hc4 => ?_)
    · replace hf := gIf hf hc4
      refine G.sub (lv' := [(0, .ref (ad 108)), (1, .int x1), (2, .int x2), (3, .int x3), (4, .int (M.1 108 16))]) [1, 2, 3, 4, 0] rfl ?_
      exact w_X10_reads_124 C Rt x1 x2 x3 (M.1 108 16) M1 h_19 hf
    · replace hf := gIfn hf hc4
      refine G.aload_n (pl := 1) C dX10_reads_50 rfl rfl ?_
      refine G.iload_n (pl := 4) C dX10_reads_51 rfl rfl ?_
      refine G.bipush (v := 97) C dX10_reads_52 (by decide) ?_
      refine G.isub C dX10_reads_54 ?_
      obtain ⟨v2, hr2, hf⟩ := cp_some hf
      refine G.callV (st1 := [.int v2]) C [.int (x3 - (97 : Int32))] [] (c_X10_speaks hr2) mv_X10_speaks k5_20 o_108.1 (fun _ => gShp_20 o_108) rfl rfl rfl rfl rfl (Nat.le_of_ble_eq_true rfl) (by decide) dX10_reads_55 rfl ?_
      refine G.if_eq (tgt := 124) C dX10_reads_58 (by decide) (fun hc5 => ?_) (fun hc5 => ?_)
      · replace hf := gIf hf hc5
        refine G.sub (lv' := [(0, .ref (ad 108)), (1, .int x1), (2, .int x2), (3, .int x3), (4, .int (M.1 108 16))]) [1, 2, 3, 4, 0] rfl ?_
        exact w_X10_reads_124 C Rt x1 x2 x3 (M.1 108 16) M1 h_19 hf
      · replace hf := gIfn hf hc5
        refine G.aload_n (pl := 1) C dX10_reads_61 rfl rfl ?_
        obtain ⟨v3, M2, hr3, hf⟩ := cl_some hf
        refine G.callV (st1 := [.int v3]) C [] [] (c_X10_next hr3) mv_X10_next k5_16 o_108.1 (fun _ => gShp_20 o_108) rfl rfl rfl rfl rfl (Nat.le_of_ble_eq_true rfl) (by decide) dX10_reads_62 rfl ?_
        refine G.istore (lv' := [(5, .int v3), (4, .int (M.1 108 16)), (0, .ref (ad 108)), (1, .int x1), (2, .int x2), (3, .int x3)]) C dX10_reads_65 (by decide) rfl ?_
        refine G.iload (pl := 0) C dX10_reads_67 rfl ?_
        refine G.bipush (v := 48) C dX10_reads_69 (by decide) ?_
        refine G.bipush (v := 53) C dX10_reads_71 (by decide) ?_
        obtain ⟨v4, hr4, hf⟩ := cp_some hf
        refine G.callS (st1 := [.int v4]) C [.int v3, .int (48 : Int32), .int (53 : Int32)] [] (c_X10_between hr4) mv_X10_between k4_189 rfl rfl rfl (Nat.le_of_ble_eq_true rfl) (by decide) dX10_reads_73 rfl ?_
        refine G.istore (lv' := [(6, .int v4), (5, .int v3), (4, .int (M.1 108 16)), (0, .ref (ad 108)), (1, .int x1), (2, .int x2), (3, .int x3)]) C dX10_reads_76 (by decide) rfl ?_
        refine G.aload_n (pl := 3) C dX10_reads_78 rfl rfl ?_
        refine G.dup C dX10_reads_79 rfl ?_
        refine gf10_16 C o_108 k4_113 dX10_reads_80 ?_
        refine G.iload (pl := 0) C dX10_reads_83 rfl ?_
        refine G.if_eq (tgt := 92) C dX10_reads_85 (by decide) (fun hc6 => ?_) (fun hc6 => ?_)
        · replace hf := gIf hf hc6
          refine G.iconst (v := 0) C dX10_reads_92 (by decide) ?_
          refine G.sub (lv' := [(0, .ref (ad 108)), (1, .int x1), (3, .int x3), (5, .int v3), (6, .int v4)]) [3, 4, 6, 1, 0] rfl ?_
          exact w_X10_reads_93 C Rt x1 x3 v3 v4 (0 : Int32) (M2.1 108 16) M2 h_19 hf
        · replace hf := gIfn hf hc6
          refine G.iconst (v := 1) C dX10_reads_88 (by decide) ?_
          refine G.goto (tgt := 93) C dX10_reads_89 (by decide) ?_
          refine G.sub (lv' := [(0, .ref (ad 108)), (1, .int x1), (3, .int x3), (5, .int v3), (6, .int v4)]) [3, 4, 6, 1, 0] rfl ?_
          exact w_X10_reads_93 C Rt x1 x3 v3 v4 (1 : Int32) (M2.1 108 16) M2 h_19 hf
theorem w_X10_reads_19 {X : Gc} {ad : Nat → Nat} {res : (Int32 × Mem)} (C : Gk X ad cX10_reads "NineTonguesModel" 7 4) (Rt : Gr X ad (some .int) (some (.int res.1)) res.2) : ∀ (n : Nat) (x1 : Int32) (x2 : Int32) (x3 : Int32) (M : Mem), f_X10_reads_19 n x1 x2 x3 M = some res → G X ad 19 7 [(0, .ref (ad 108)), (1, .int x1), (2, .int x2), (3, .int x3)] [] M := by
  intro n
  induction n with
  | zero => intro x1 x2 x3 M hf; exact absurd (show (none : Option (Int32 × Mem)) = some res from hf) (fun h => nomatch h)
  | succ n ih => intro x1 x2 x3 M hf; exact w_X10_reads_19_b C Rt ih x1 x2 x3 M hf
set_option maxRecDepth 100000 in
set_option maxHeartbeats 4000000 in
theorem w_X10_reads_E {X : Gc} {ad : Nat → Nat} {res : (Int32 × Mem)} (C : Gk X ad cX10_reads "NineTonguesModel" 7 4) (Rt : Gr X ad (some .int) (some (.int res.1)) res.2) (M : Mem) (hf : f_X10_reads M = some res) : G X ad 0 7 [(0, .ref (ad 108))] [] M := by
  unfold f_X10_reads at hf
  refine G.aload_n (pl := 0) C dX10_reads_0 rfl rfl ?_
  refine G.iconst (v := 0) C dX10_reads_1 (by decide) ?_
  obtain ⟨M1, eM1, hf⟩ := stm_some hf
  refine gp10_16 C o_108 k4_113 eM1 dX10_reads_2 ?_
  refine G.aload_n (pl := 0) C dX10_reads_5 rfl rfl ?_
  refine G.iconst (v := 0) C dX10_reads_6 (by decide) ?_
  obtain ⟨M2, eM2, hf⟩ := stm_some hf
  refine gp10_14 C o_108 k4_111 eM2 dX10_reads_7 ?_
  refine G.iconst (v := 0) C dX10_reads_10 (by decide) ?_
  refine G.istore_n (lv' := [(1, .int (0 : Int32)), (0, .ref (ad 108))]) C dX10_reads_11 rfl (by decide) rfl ?_
  refine G.iconst (v := 0) C dX10_reads_12 (by decide) ?_
  refine G.istore_n (lv' := [(2, .int (0 : Int32)), (1, .int (0 : Int32)), (0, .ref (ad 108))]) C dX10_reads_13 rfl (by decide) rfl ?_
  refine G.aload_n (pl := 2) C dX10_reads_14 rfl rfl ?_
  obtain ⟨v1, M3, hr1, hf⟩ := cl_some hf
  refine G.callV (st1 := [.int v1]) C [] [] (c_X10_next hr1) mv_X10_next k5_16 o_108.1 (fun _ => gShp_20 o_108) rfl rfl rfl rfl rfl (Nat.le_of_ble_eq_true rfl) (by decide) dX10_reads_15 rfl ?_
  refine G.istore_n (lv' := [(3, .int v1), (2, .int (0 : Int32)), (1, .int (0 : Int32)), (0, .ref (ad 108))]) C dX10_reads_18 rfl (by decide) rfl ?_
  refine G.sub (lv' := [(0, .ref (ad 108)), (1, .int (0 : Int32)), (2, .int (0 : Int32)), (3, .int v1)]) [3, 2, 1, 0] rfl ?_
  exact w_X10_reads_19 C Rt FU (0 : Int32) (0 : Int32) v1 M3 hf
theorem mv_X10_reads : gMV yX10_reads cX10_reads 7 (some .int) 0 := ⟨k5_14, kS_30, k1_12, k5_15, ⟨by decide +kernel, by decide +kernel, by decide +kernel⟩, by decide⟩
theorem c_X10_reads {res : (Int32 × Mem)} {M : Mem} (hf : f_X10_reads M = some res) : Ct yX10_reads cX10_reads 7 (some .int) 4 (fun ad => [.ref (ad 108)]) M (some (.int res.1)) res.2 :=
  Ct.of (by decide +kernel) (fun _ => Nat.le_of_ble_eq_true rfl) (fun X ad C Rt => w_X10_reads_E C Rt M hf)
set_option maxRecDepth 100000 in
set_option maxHeartbeats 4000000 in
theorem w_X10_fault_E {X : Gc} {ad : Nat → Nat} {res : (Int32 × Mem)} (C : Gk X ad cX10_fault "NineTonguesModel" 1 5) (Rt : Gr X ad (some .int) (some (.int res.1)) res.2) (M : Mem) (hf : f_X10_fault M = some res) : G X ad 0 1 [(0, .ref (ad 108))] [] M := by
  unfold f_X10_fault at hf
  refine G.aload_n (pl := 0) C dX10_fault_0 rfl rfl ?_
  obtain ⟨v1, M1, hr1, hf⟩ := cl_some hf
  refine G.callV (st1 := [.int v1]) C [] [] (c_X10_reads hr1) mv_X10_reads k5_12 o_108.1 (fun _ => gShp_20 o_108) rfl rfl rfl rfl rfl (Nat.le_of_ble_eq_true rfl) (by decide) dX10_fault_1 rfl ?_
  cases hf
  exact G.iret C Rt dX10_fault_4
theorem mv_X10_fault : gMV yX10_fault cX10_fault 1 (some .int) 0 := ⟨k5_9, k5_10, k1_12, k5_11, ⟨by decide +kernel, by decide +kernel, by decide +kernel⟩, by decide⟩
theorem c_X10_fault {res : (Int32 × Mem)} {M : Mem} (hf : f_X10_fault M = some res) : Ct yX10_fault cX10_fault 1 (some .int) 5 (fun ad => [.ref (ad 108)]) M (some (.int res.1)) res.2 :=
  Ct.of (by decide +kernel) (fun _ => Nat.le_of_ble_eq_true rfl) (fun X ad C Rt => w_X10_fault_E C Rt M hf)
set_option maxRecDepth 100000 in
set_option maxHeartbeats 4000000 in
theorem w_X10_isPath_E {X : Gc} {ad : Nat → Nat} {res : (Int32 × Mem)} (C : Gk X ad cX10_isPath "NineTonguesModel" 1 5) (Rt : Gr X ad (some .boolean) (some (.int res.1)) res.2) (M : Mem) (hf : f_X10_isPath M = some res) : G X ad 0 1 [(0, .ref (ad 108))] [] M := by
  unfold f_X10_isPath at hf
  refine G.aload_n (pl := 0) C dX10_isPath_0 rfl rfl ?_
  obtain ⟨v1, M1, hr1, hf⟩ := cl_some hf
  refine G.callV (st1 := [.int v1]) C [] [] (c_X10_reads hr1) mv_X10_reads k5_12 o_108.1 (fun _ => gShp_20 o_108) rfl rfl rfl rfl rfl (Nat.le_of_ble_eq_true rfl) (by decide) dX10_isPath_1 rfl ?_
  refine G.iconst (v := (-1)) C dX10_isPath_4 (by decide) ?_
  refine G.icmp_ne (tgt := 22) C dX10_isPath_5 (by decide) (fun hc1 => ?_) (fun hc1 => ?_)
  · replace hf := gIfn hf hc1
    refine G.iconst (v := 0) C dX10_isPath_22 (by decide) ?_
    cases hf
    exact G.zret C rfl Rt dX10_isPath_23
  · replace hf := gIf hf hc1
    refine G.aload_n (pl := 0) C dX10_isPath_8 rfl rfl ?_
    refine gf10_14 C o_108 k4_111 dX10_isPath_9 ?_
    refine G.sipush (v := 200) C dX10_isPath_12 (by decide) ?_
    refine G.icmp_gt (tgt := 22) C dX10_isPath_15 (by decide) (fun hc2 => ?_) (fun hc2 => ?_)
    · replace hf := gIf hf hc2
      refine G.iconst (v := 0) C dX10_isPath_22 (by decide) ?_
      cases hf
      exact G.zret C rfl Rt dX10_isPath_23
    · replace hf := gIfn hf hc2
      refine G.iconst (v := 1) C dX10_isPath_18 (by decide) ?_
      refine G.goto (tgt := 23) C dX10_isPath_19 (by decide) ?_
      cases hf
      exact G.zret C rfl Rt dX10_isPath_23
theorem mv_X10_isPath : gMV yX10_isPath cX10_isPath 1 (some .boolean) 0 := ⟨k5_38, kS_35, k1_12, k5_39, ⟨by decide +kernel, by decide +kernel, by decide +kernel⟩, by decide⟩
theorem c_X10_isPath {res : (Int32 × Mem)} {M : Mem} (hf : f_X10_isPath M = some res) : Ct yX10_isPath cX10_isPath 1 (some .boolean) 5 (fun ad => [.ref (ad 108)]) M (some (.int res.1)) res.2 :=
  Ct.of (by decide +kernel) (fun _ => Nat.le_of_ble_eq_true rfl) (fun X ad C Rt => w_X10_isPath_E C Rt M hf)
set_option maxRecDepth 100000 in
set_option maxHeartbeats 4000000 in
theorem w_X10_length_E {X : Gc} {ad : Nat → Nat} {res : (Int32 × Mem)} (C : Gk X ad cX10_length "NineTonguesModel" 1 6) (Rt : Gr X ad (some .int) (some (.int res.1)) res.2) (M : Mem) (hf : f_X10_length M = some res) : G X ad 0 1 [(0, .ref (ad 108))] [] M := by
  unfold f_X10_length at hf
  refine G.aload_n (pl := 0) C dX10_length_0 rfl rfl ?_
  obtain ⟨v1, M1, hr1, hf⟩ := cl_some hf
  refine G.callV (st1 := [.int v1]) C [] [] (c_X10_isPath hr1) mv_X10_isPath k5_36 o_108.1 (fun _ => gShp_20 o_108) rfl rfl rfl rfl rfl (Nat.le_of_ble_eq_true rfl) (by decide) dX10_length_1 rfl ?_
  refine G.if_eq (tgt := 14) C dX10_length_4 (by decide) (fun hc1 => ?_) (fun hc1 => ?_)
  · replace hf := gIf hf hc1
    refine G.aload_n (pl := 0) C dX10_length_14 rfl rfl ?_
    refine G.bipush (v := (-3)) C dX10_length_15 (by decide) ?_
    obtain ⟨v2, M2, hr2, hf⟩ := cl_some hf
    refine G.callV (st1 := [.int v2]) C [.int (-3 : Int32)] [] (c_X10_no hr2) mv_X10_no k5_40 o_108.1 (fun _ => gShp_20 o_108) rfl rfl rfl rfl rfl (Nat.le_of_ble_eq_true rfl) (by decide) dX10_length_17 rfl ?_
    cases hf
    exact G.iret C Rt dX10_length_20
  · replace hf := gIfn hf hc1
    refine G.aload_n (pl := 0) C dX10_length_7 rfl rfl ?_
    refine gf10_14 C o_108 k4_111 dX10_length_8 ?_
    refine G.goto (tgt := 20) C dX10_length_11 (by decide) ?_
    cases hf
    exact G.iret C Rt dX10_length_20
theorem mv_X10_length : gMV yX10_length cX10_length 1 (some .int) 0 := ⟨k5_33, k5_34, k1_12, k5_35, ⟨by decide +kernel, by decide +kernel, by decide +kernel⟩, by decide⟩
theorem c_X10_length {res : (Int32 × Mem)} {M : Mem} (hf : f_X10_length M = some res) : Ct yX10_length cX10_length 1 (some .int) 6 (fun ad => [.ref (ad 108)]) M (some (.int res.1)) res.2 :=
  Ct.of (by decide +kernel) (fun _ => Nat.le_of_ble_eq_true rfl) (fun X ad C Rt => w_X10_length_E C Rt M hf)
set_option maxRecDepth 100000 in
set_option maxHeartbeats 4000000 in
theorem w_X10_goes_46_b {X : Gc} {ad : Nat → Nat} {res : (Int32 × Mem)} {r_46 : Int32 → Mem → Option (Int32 × Mem)} (C : Gk X ad cX10_goes "NineTonguesModel" 2 6) (Rt : Gr X ad (some .boolean) (some (.int res.1)) res.2) (h_46 : ∀ (x1 : Int32) (M : Mem), r_46 x1 M = some res → G X ad 46 2 [(0, .ref (ad 108)), (1, .int x1)] [] M) (x1 : Int32) (M : Mem) (hf : f_X10_goes_46_b r_46 x1 M = some res) : G X ad 46 2 [(0, .ref (ad 108)), (1, .int x1)] [] M := by
  unfold f_X10_goes_46_b at hf
  refine G.iload_n (pl := 1) C dX10_goes_46 rfl rfl ?_
  refine G.aload_n (pl := 0) C dX10_goes_47 rfl rfl ?_
  refine gf10_14 C o_108 k4_111 dX10_goes_48 ?_
  refine G.icmp_ge (tgt := 101) C dX10_goes_51 (by decide) (fun hc1 => ?_) (fun hc1 => ?_)
  · replace hf := gIf hf hc1
    refine G.iconst (v := 1) C dX10_goes_101 (by decide) ?_
    cases hf
    exact G.zret C rfl Rt dX10_goes_102
  · replace hf := gIfn hf hc1
    refine G.aload_n (pl := 0) C dX10_goes_54 rfl rfl ?_
    refine G.aload_n (pl := 0) C dX10_goes_55 rfl rfl ?_
    refine gf10_18 C o_108 k4_115 dX10_goes_56 ?_
    refine G.bipush (v := 16) C dX10_goes_59 (by decide) ?_
    refine G.iload_n (pl := 1) C dX10_goes_61 rfl rfl ?_
    refine G.imul C dX10_goes_62 ?_
    refine G.aload_n (pl := 0) C dX10_goes_63 rfl rfl ?_
    refine gf10_18 C o_108 k4_115 dX10_goes_64 ?_
    refine G.bipush (v := 16) C dX10_goes_67 (by decide) ?_
    refine G.iload_n (pl := 1) C dX10_goes_69 rfl rfl ?_
    refine G.imul C dX10_goes_70 ?_
    refine G.bipush (v := 16) C dX10_goes_71 (by decide) ?_
    refine G.iadd C dX10_goes_73 ?_
    refine G.aload_n (pl := 0) C dX10_goes_74 rfl rfl ?_
    refine gf10_15 C o_108 k4_112 dX10_goes_75 ?_
    refine G.iconst (v := 2) C dX10_goes_78 (by decide) ?_
    refine G.iload_n (pl := 1) C dX10_goes_79 rfl rfl ?_
    refine G.imul C dX10_goes_80 ?_
    obtain ⟨v1, ev1, hi1, hf⟩ := rd_some hf
    refine G.iald C a_121 hi1 ev1 dX10_goes_81 ?_
    refine G.aload_n (pl := 0) C dX10_goes_82 rfl rfl ?_
    refine gf10_15 C o_108 k4_112 dX10_goes_83 ?_
    refine G.iconst (v := 2) C dX10_goes_86 (by decide) ?_
    refine G.iload_n (pl := 1) C dX10_goes_87 rfl rfl ?_
    refine G.imul C dX10_goes_88 ?_
    refine G.iconst (v := 1) C dX10_goes_89 (by decide) ?_
    refine G.iadd C dX10_goes_90 ?_
    obtain ⟨v2, ev2, hi2, hf⟩ := rd_some hf
    refine G.iald C a_121 hi2 ev2 dX10_goes_91 ?_
    obtain ⟨u, M1, hr1, hf⟩ := cl_some hf
    refine G.callV (st1 := []) C [.ref (ad 123), .int ((16 : Int32) * x1), .ref (ad 123), .int (((16 : Int32) * x1) + (16 : Int32)), .int v1, .int v2] [] (c_X10_carries a_123 a_123 hr1) mv_X10_carries k5_52 o_108.1 (fun _ => gShp_20 o_108) rfl rfl rfl rfl rfl (Nat.le_of_ble_eq_true rfl) (by decide) dX10_goes_92 rfl ?_
    refine G.iinc (pl := 1) (v := (x1 + 1)) (lv' := [(1, .int (x1 + 1)), (0, .ref (ad 108))]) C dX10_goes_95 rfl rfl (by decide) rfl ?_
    refine G.goto (tgt := 46) C dX10_goes_98 (by decide) ?_
    refine G.sub (lv' := [(0, .ref (ad 108)), (1, .int (x1 + 1))]) [1, 0] rfl ?_
    exact h_46 (x1 + 1) M1 hf
theorem w_X10_goes_46 {X : Gc} {ad : Nat → Nat} {res : (Int32 × Mem)} (C : Gk X ad cX10_goes "NineTonguesModel" 2 6) (Rt : Gr X ad (some .boolean) (some (.int res.1)) res.2) : ∀ (n : Nat) (x1 : Int32) (M : Mem), f_X10_goes_46 n x1 M = some res → G X ad 46 2 [(0, .ref (ad 108)), (1, .int x1)] [] M := by
  intro n
  induction n with
  | zero => intro x1 M hf; exact absurd (show (none : Option (Int32 × Mem)) = some res from hf) (fun h => nomatch h)
  | succ n ih => intro x1 M hf; exact w_X10_goes_46_b C Rt ih x1 M hf
set_option maxRecDepth 100000 in
set_option maxHeartbeats 4000000 in
theorem w_X10_goes_20_b {X : Gc} {ad : Nat → Nat} {res : (Int32 × Mem)} {r_20 : Int32 → Mem → Option (Int32 × Mem)} (C : Gk X ad cX10_goes "NineTonguesModel" 2 6) (Rt : Gr X ad (some .boolean) (some (.int res.1)) res.2) (h_20 : ∀ (x1 : Int32) (M : Mem), r_20 x1 M = some res → G X ad 20 2 [(0, .ref (ad 108)), (1, .int x1)] [] M) (x1 : Int32) (M : Mem) (hf : f_X10_goes_20_b r_20 x1 M = some res) : G X ad 20 2 [(0, .ref (ad 108)), (1, .int x1)] [] M := by
  unfold f_X10_goes_20_b at hf
  refine G.iload_n (pl := 1) C dX10_goes_20 rfl rfl ?_
  refine G.bipush (v := 16) C dX10_goes_21 (by decide) ?_
  refine G.icmp_ge (tgt := 44) C dX10_goes_23 (by decide) (fun hc1 => ?_) (fun hc1 => ?_)
  · replace hf := gIf hf hc1
    refine G.iconst (v := 0) C dX10_goes_44 (by decide) ?_
    refine G.istore_n (lv' := [(1, .int (0 : Int32)), (0, .ref (ad 108))]) C dX10_goes_45 rfl (by decide) rfl ?_
    refine G.sub (lv' := [(0, .ref (ad 108)), (1, .int (0 : Int32))]) [1, 0] rfl ?_
    exact w_X10_goes_46 C Rt FU (0 : Int32) M hf
  · replace hf := gIfn hf hc1
    refine G.aload_n (pl := 0) C dX10_goes_26 rfl rfl ?_
    refine gf10_18 C o_108 k4_115 dX10_goes_27 ?_
    refine G.iload_n (pl := 1) C dX10_goes_30 rfl rfl ?_
    refine G.aload_n (pl := 0) C dX10_goes_31 rfl rfl ?_
    refine gf10_8 C o_108 k4_105 dX10_goes_32 ?_
    refine G.iload_n (pl := 1) C dX10_goes_35 rfl rfl ?_
    obtain ⟨v1, ev1, hi1, hf⟩ := rd_some hf
    refine G.iald C a_117 hi1 ev1 dX10_goes_36 ?_
    obtain ⟨hi2, hf⟩ := ck_some hf
    obtain ⟨M1, eM1, hf⟩ := stm_some hf
    refine G.iast C a_123 hi2 eM1 dX10_goes_37 ?_
    refine G.iinc (pl := 1) (v := (x1 + 1)) (lv' := [(1, .int (x1 + 1)), (0, .ref (ad 108))]) C dX10_goes_38 rfl rfl (by decide) rfl ?_
    refine G.goto (tgt := 20) C dX10_goes_41 (by decide) ?_
    refine G.sub (lv' := [(0, .ref (ad 108)), (1, .int (x1 + 1))]) [1, 0] rfl ?_
    exact h_20 (x1 + 1) M1 hf
theorem w_X10_goes_20 {X : Gc} {ad : Nat → Nat} {res : (Int32 × Mem)} (C : Gk X ad cX10_goes "NineTonguesModel" 2 6) (Rt : Gr X ad (some .boolean) (some (.int res.1)) res.2) : ∀ (n : Nat) (x1 : Int32) (M : Mem), f_X10_goes_20 n x1 M = some res → G X ad 20 2 [(0, .ref (ad 108)), (1, .int x1)] [] M := by
  intro n
  induction n with
  | zero => intro x1 M hf; exact absurd (show (none : Option (Int32 × Mem)) = some res from hf) (fun h => nomatch h)
  | succ n ih => intro x1 M hf; exact w_X10_goes_20_b C Rt ih x1 M hf
set_option maxRecDepth 100000 in
set_option maxHeartbeats 4000000 in
theorem w_X10_goes_E {X : Gc} {ad : Nat → Nat} {res : (Int32 × Mem)} (C : Gk X ad cX10_goes "NineTonguesModel" 2 6) (Rt : Gr X ad (some .boolean) (some (.int res.1)) res.2) (M : Mem) (hf : f_X10_goes M = some res) : G X ad 0 2 [(0, .ref (ad 108))] [] M := by
  unfold f_X10_goes at hf
  refine G.aload_n (pl := 0) C dX10_goes_0 rfl rfl ?_
  obtain ⟨v1, M1, hr1, hf⟩ := cl_some hf
  refine G.callV (st1 := [.int v1]) C [] [] (c_X10_isPath hr1) mv_X10_isPath k5_36 o_108.1 (fun _ => gShp_20 o_108) rfl rfl rfl rfl rfl (Nat.le_of_ble_eq_true rfl) (by decide) dX10_goes_1 rfl ?_
  refine G.if_eq (tgt := 16) C dX10_goes_4 (by decide) (fun hc1 => ?_) (fun hc1 => ?_)
  · replace hf := gIf hf hc1
    refine G.iconst (v := 0) C dX10_goes_16 (by decide) ?_
    cases hf
    exact G.zret C rfl Rt dX10_goes_17
  · replace hf := gIfn hf hc1
    refine G.aload_n (pl := 0) C dX10_goes_7 rfl rfl ?_
    refine gf10_1 C o_108 k4_98 dX10_goes_8 ?_
    refine G.iconst (v := 0) C dX10_goes_11 (by decide) ?_
    refine G.iald (v := (M1.1 110 0)) C a_110 (vp_inC (by decide)) rfl dX10_goes_12 ?_
    refine G.if_ne (tgt := 18) C dX10_goes_13 (by decide) (fun hc2 => ?_) (fun hc2 => ?_)
    · replace hf := gIfn hf hc2
      refine G.iconst (v := 0) C dX10_goes_18 (by decide) ?_
      refine G.istore_n (lv' := [(1, .int (0 : Int32)), (0, .ref (ad 108))]) C dX10_goes_19 rfl (by decide) rfl ?_
      refine G.sub (lv' := [(0, .ref (ad 108)), (1, .int (0 : Int32))]) [1, 0] rfl ?_
      exact w_X10_goes_20 C Rt FU (0 : Int32) M1 hf
    · replace hf := gIf hf hc2
      refine G.iconst (v := 0) C dX10_goes_16 (by decide) ?_
      cases hf
      exact G.zret C rfl Rt dX10_goes_17
theorem mv_X10_goes : gMV yX10_goes cX10_goes 2 (some .boolean) 0 := ⟨k5_50, kS_37, k1_12, k5_51, ⟨by decide +kernel, by decide +kernel, by decide +kernel⟩, by decide⟩
theorem c_X10_goes {res : (Int32 × Mem)} {M : Mem} (hf : f_X10_goes M = some res) : Ct yX10_goes cX10_goes 2 (some .boolean) 6 (fun ad => [.ref (ad 108)]) M (some (.int res.1)) res.2 :=
  Ct.of (by decide +kernel) (fun _ => Nat.le_of_ble_eq_true rfl) (fun X ad C Rt => w_X10_goes_E C Rt M hf)
set_option maxRecDepth 100000 in
set_option maxHeartbeats 4000000 in
theorem w_X10_parts_56 {X : Gc} {ad : Nat → Nat} {res : (Int32 × Mem)} (C : Gk X ad cX10_parts "NineTonguesModel" 3 7) (Rt : Gr X ad (some .int) (some (.int res.1)) res.2) (M : Mem) (hf : f_X10_parts_56 M = some res) : G X ad 56 3 [(0, .ref (ad 108))] [] M := by
  unfold f_X10_parts_56 at hf
  refine G.aload_n (pl := 0) C dX10_parts_56 rfl rfl ?_
  refine G.bipush (v := (-2)) C dX10_parts_57 (by decide) ?_
  obtain ⟨v1, M1, hr1, hf⟩ := cl_some hf
  refine G.callV (st1 := [.int v1]) C [.int (-2 : Int32)] [] (c_X10_bad hr1) mv_X10_bad k4_192 o_108.1 (fun _ => gShp_20 o_108) rfl rfl rfl rfl rfl (Nat.le_of_ble_eq_true rfl) (by decide) dX10_parts_59 rfl ?_
  cases hf
  exact G.iret C Rt dX10_parts_62
set_option maxRecDepth 100000 in
set_option maxHeartbeats 4000000 in
theorem w_X10_parts_E {X : Gc} {ad : Nat → Nat} {res : (Int32 × Mem)} (C : Gk X ad cX10_parts "NineTonguesModel" 3 7) (Rt : Gr X ad (some .int) (some (.int res.1)) res.2) (x1 : Int32) (x2 : Int32) (M : Mem) (hf : f_X10_parts x1 x2 M = some res) : G X ad 0 3 [(0, .ref (ad 108)), (1, .int x1), (2, .int x2)] [] M := by
  unfold f_X10_parts at hf
  refine G.aload_n (pl := 0) C dX10_parts_0 rfl rfl ?_
  obtain ⟨v1, M1, hr1, hf⟩ := cl_some hf
  refine G.callV (st1 := [.int v1]) C [] [] (c_X10_goes hr1) mv_X10_goes k5_48 o_108.1 (fun _ => gShp_20 o_108) rfl rfl rfl rfl rfl (Nat.le_of_ble_eq_true rfl) (by decide) dX10_parts_1 rfl ?_
  refine G.if_ne (tgt := 14) C dX10_parts_4 (by decide) (fun hc1 => ?_) (fun hc1 => ?_)
  · replace hf := gIfn hf hc1
    refine G.iload_n (pl := 1) C dX10_parts_14 rfl rfl ?_
    refine G.iconst (v := 0) C dX10_parts_15 (by decide) ?_
    refine G.aload_n (pl := 0) C dX10_parts_16 rfl rfl ?_
    refine gf10_14 C o_108 k4_111 dX10_parts_17 ?_
    obtain ⟨v2, hr2, hf⟩ := cp_some hf
    refine G.callS (st1 := [.int v2]) C [.int x1, .int (0 : Int32), .int (M1.1 108 14)] [] (c_X10_between hr2) mv_X10_between k4_189 rfl rfl rfl (Nat.le_of_ble_eq_true rfl) (by decide) dX10_parts_20 rfl ?_
    refine G.if_eq (tgt := 56) C dX10_parts_23 (by decide) (fun hc2 => ?_) (fun hc2 => ?_)
    · replace hf := gIf hf hc2
      refine G.sub (lv' := [(0, .ref (ad 108))]) [0] rfl ?_
      exact w_X10_parts_56 C Rt M1 hf
    · replace hf := gIfn hf hc2
      refine G.iload_n (pl := 2) C dX10_parts_26 rfl rfl ?_
      refine G.iconst (v := 0) C dX10_parts_27 (by decide) ?_
      refine G.aload_n (pl := 0) C dX10_parts_28 rfl rfl ?_
      refine gf10_1 C o_108 k4_98 dX10_parts_29 ?_
      refine G.iconst (v := 0) C dX10_parts_32 (by decide) ?_
      refine G.iald (v := (M1.1 110 0)) C a_110 (vp_inC (by decide)) rfl dX10_parts_33 ?_
      refine G.iconst (v := 1) C dX10_parts_34 (by decide) ?_
      refine G.isub C dX10_parts_35 ?_
      obtain ⟨v3, hr3, hf⟩ := cp_some hf
      refine G.callS (st1 := [.int v3]) C [.int x2, .int (0 : Int32), .int ((M1.1 110 0) - (1 : Int32))] [] (c_X10_between hr3) mv_X10_between k4_189 rfl rfl rfl (Nat.le_of_ble_eq_true rfl) (by decide) dX10_parts_36 rfl ?_
      refine G.if_eq (tgt := 56) C dX10_parts_39 (by decide) (fun hc3 => ?_) (fun hc3 => ?_)
      · replace hf := gIf hf hc3
        refine G.sub (lv' := [(0, .ref (ad 108))]) [0] rfl ?_
        exact w_X10_parts_56 C Rt M1 hf
      · replace hf := gIfn hf hc3
        refine G.aload_n (pl := 0) C dX10_parts_42 rfl rfl ?_
        refine gf10_18 C o_108 k4_115 dX10_parts_43 ?_
        refine G.bipush (v := 16) C dX10_parts_46 (by decide) ?_
        refine G.iload_n (pl := 1) C dX10_parts_48 rfl rfl ?_
        refine G.imul C dX10_parts_49 ?_
        refine G.iload_n (pl := 2) C dX10_parts_50 rfl rfl ?_
        refine G.iadd C dX10_parts_51 ?_
        obtain ⟨v4, ev1, hi1, hf⟩ := rd_some hf
        refine G.iald C a_123 hi1 ev1 dX10_parts_52 ?_
        refine G.goto (tgt := 62) C dX10_parts_53 (by decide) ?_
        cases hf
        exact G.iret C Rt dX10_parts_62
  · replace hf := gIf hf hc1
    refine G.aload_n (pl := 0) C dX10_parts_7 rfl rfl ?_
    refine G.bipush (v := (-3)) C dX10_parts_8 (by decide) ?_
    obtain ⟨v5, M2, hr4, hf⟩ := cl_some hf
    refine G.callV (st1 := [.int v5]) C [.int (-3 : Int32)] [] (c_X10_no hr4) mv_X10_no k5_40 o_108.1 (fun _ => gShp_20 o_108) rfl rfl rfl rfl rfl (Nat.le_of_ble_eq_true rfl) (by decide) dX10_parts_10 rfl ?_
    cases hf
    exact G.iret C Rt dX10_parts_13
theorem mv_X10_parts : gMV yX10_parts cX10_parts 3 (some .int) 2 := ⟨k5_45, k5_46, k1_12, k5_47, ⟨by decide +kernel, by decide +kernel, by decide +kernel⟩, by decide⟩
theorem c_X10_parts {res : (Int32 × Mem)} {x1 : Int32} {x2 : Int32} {M : Mem} (hf : f_X10_parts x1 x2 M = some res) : Ct yX10_parts cX10_parts 3 (some .int) 7 (fun ad => [.ref (ad 108), .int x1, .int x2]) M (some (.int res.1)) res.2 :=
  Ct.of (by decide +kernel) (fun _ => Nat.le_of_ble_eq_true rfl) (fun X ad C Rt => w_X10_parts_E C Rt x1 x2 M hf)
set_option maxRecDepth 100000 in
set_option maxHeartbeats 4000000 in
theorem w_X10_formOf_52 {X : Gc} {ad : Nat → Nat} {res : (Int32 × Mem)} (C : Gk X ad cX10_formOf "NineTonguesModel" 3 7) (Rt : Gr X ad (some .int) (some (.int res.1)) res.2) (M : Mem) (hf : f_X10_formOf_52 M = some res) : G X ad 52 3 [(0, .ref (ad 108))] [] M := by
  unfold f_X10_formOf_52 at hf
  refine G.aload_n (pl := 0) C dX10_formOf_52 rfl rfl ?_
  refine G.bipush (v := (-10)) C dX10_formOf_53 (by decide) ?_
  obtain ⟨v1, M1, hr1, hf⟩ := cl_some hf
  refine G.callV (st1 := [.int v1]) C [.int (-10 : Int32)] [] (c_X10_bad hr1) mv_X10_bad k4_192 o_108.1 (fun _ => gShp_20 o_108) rfl rfl rfl rfl rfl (Nat.le_of_ble_eq_true rfl) (by decide) dX10_formOf_55 rfl ?_
  cases hf
  exact G.iret C Rt dX10_formOf_58
set_option maxRecDepth 100000 in
set_option maxHeartbeats 4000000 in
theorem w_X10_formOf_E {X : Gc} {ad : Nat → Nat} {res : (Int32 × Mem)} (C : Gk X ad cX10_formOf "NineTonguesModel" 3 7) (Rt : Gr X ad (some .int) (some (.int res.1)) res.2) (x1 : Int32) (x2 : Int32) (M : Mem) (hf : f_X10_formOf x1 x2 M = some res) : G X ad 0 3 [(0, .ref (ad 108)), (1, .int x1), (2, .int x2)] [] M := by
  unfold f_X10_formOf at hf
  refine G.aload_n (pl := 0) C dX10_formOf_0 rfl rfl ?_
  obtain ⟨v1, M1, hr1, hf⟩ := cl_some hf
  refine G.callV (st1 := [.int v1]) C [] [] (c_X10_goes hr1) mv_X10_goes k5_48 o_108.1 (fun _ => gShp_20 o_108) rfl rfl rfl rfl rfl (Nat.le_of_ble_eq_true rfl) (by decide) dX10_formOf_1 rfl ?_
  refine G.if_ne (tgt := 14) C dX10_formOf_4 (by decide) (fun hc1 => ?_) (fun hc1 => ?_)
  · replace hf := gIfn hf hc1
    refine G.iload_n (pl := 1) C dX10_formOf_14 rfl rfl ?_
    refine G.iconst (v := 0) C dX10_formOf_15 (by decide) ?_
    refine G.aload_n (pl := 0) C dX10_formOf_16 rfl rfl ?_
    refine gf10_14 C o_108 k4_111 dX10_formOf_17 ?_
    obtain ⟨v2, hr2, hf⟩ := cp_some hf
    refine G.callS (st1 := [.int v2]) C [.int x1, .int (0 : Int32), .int (M1.1 108 14)] [] (c_X10_between hr2) mv_X10_between k4_189 rfl rfl rfl (Nat.le_of_ble_eq_true rfl) (by decide) dX10_formOf_20 rfl ?_
    refine G.if_eq (tgt := 52) C dX10_formOf_23 (by decide) (fun hc2 => ?_) (fun hc2 => ?_)
    · replace hf := gIf hf hc2
      refine G.sub (lv' := [(0, .ref (ad 108))]) [0] rfl ?_
      exact w_X10_formOf_52 C Rt M1 hf
    · replace hf := gIfn hf hc2
      refine G.iload_n (pl := 2) C dX10_formOf_26 rfl rfl ?_
      refine G.iconst (v := 0) C dX10_formOf_27 (by decide) ?_
      refine G.iconst (v := 3) C dX10_formOf_28 (by decide) ?_
      obtain ⟨v3, hr3, hf⟩ := cp_some hf
      refine G.callS (st1 := [.int v3]) C [.int x2, .int (0 : Int32), .int (3 : Int32)] [] (c_X10_between hr3) mv_X10_between k4_189 rfl rfl rfl (Nat.le_of_ble_eq_true rfl) (by decide) dX10_formOf_29 rfl ?_
      refine G.if_eq (tgt := 52) C dX10_formOf_32 (by decide) (fun hc3 => ?_) (fun hc3 => ?_)
      · replace hf := gIf hf hc3
        refine G.sub (lv' := [(0, .ref (ad 108))]) [0] rfl ?_
        exact w_X10_formOf_52 C Rt M1 hf
      · replace hf := gIfn hf hc3
        refine G.aload_n (pl := 0) C dX10_formOf_35 rfl rfl ?_
        refine gf10_18 C o_108 k4_115 dX10_formOf_36 ?_
        refine G.bipush (v := 16) C dX10_formOf_39 (by decide) ?_
        refine G.iload_n (pl := 1) C dX10_formOf_41 rfl rfl ?_
        refine G.imul C dX10_formOf_42 ?_
        refine G.bipush (v := 12) C dX10_formOf_43 (by decide) ?_
        refine G.iadd C dX10_formOf_45 ?_
        refine G.iload_n (pl := 2) C dX10_formOf_46 rfl rfl ?_
        refine G.iadd C dX10_formOf_47 ?_
        obtain ⟨v4, ev1, hi1, hf⟩ := rd_some hf
        refine G.iald C a_123 hi1 ev1 dX10_formOf_48 ?_
        refine G.goto (tgt := 58) C dX10_formOf_49 (by decide) ?_
        cases hf
        exact G.iret C Rt dX10_formOf_58
  · replace hf := gIf hf hc1
    refine G.aload_n (pl := 0) C dX10_formOf_7 rfl rfl ?_
    refine G.bipush (v := (-3)) C dX10_formOf_8 (by decide) ?_
    obtain ⟨v5, M2, hr4, hf⟩ := cl_some hf
    refine G.callV (st1 := [.int v5]) C [.int (-3 : Int32)] [] (c_X10_no hr4) mv_X10_no k5_40 o_108.1 (fun _ => gShp_20 o_108) rfl rfl rfl rfl rfl (Nat.le_of_ble_eq_true rfl) (by decide) dX10_formOf_10 rfl ?_
    cases hf
    exact G.iret C Rt dX10_formOf_13
theorem mv_X10_formOf : gMV yX10_formOf cX10_formOf 3 (some .int) 2 := ⟨k5_61, k5_62, k1_12, k5_63, ⟨by decide +kernel, by decide +kernel, by decide +kernel⟩, by decide⟩
theorem c_X10_formOf {res : (Int32 × Mem)} {x1 : Int32} {x2 : Int32} {M : Mem} (hf : f_X10_formOf x1 x2 M = some res) : Ct yX10_formOf cX10_formOf 3 (some .int) 7 (fun ad => [.ref (ad 108), .int x1, .int x2]) M (some (.int res.1)) res.2 :=
  Ct.of (by decide +kernel) (fun _ => Nat.le_of_ble_eq_true rfl) (fun X ad C Rt => w_X10_formOf_E C Rt x1 x2 M hf)
set_option maxRecDepth 100000 in
set_option maxHeartbeats 4000000 in
theorem w_X10_step_35 {X : Gc} {ad : Nat → Nat} {res : (Int32 × Mem)} (C : Gk X ad cX10_step "NineTonguesModel" 9 7) (Rt : Gr X ad (some .int) (some (.int res.1)) res.2) (M : Mem) (hf : f_X10_step_35 M = some res) : G X ad 35 9 [(0, .ref (ad 108))] [] M := by
  unfold f_X10_step_35 at hf
  refine G.aload_n (pl := 0) C dX10_step_35 rfl rfl ?_
  refine G.bipush (v := (-2)) C dX10_step_36 (by decide) ?_
  obtain ⟨v1, M1, hr1, hf⟩ := cl_some hf
  refine G.callV (st1 := [.int v1]) C [.int (-2 : Int32)] [] (c_X10_bad hr1) mv_X10_bad k4_192 o_108.1 (fun _ => gShp_20 o_108) rfl rfl rfl rfl rfl (Nat.le_of_ble_eq_true rfl) (by decide) dX10_step_38 rfl ?_
  cases hf
  exact G.iret C Rt dX10_step_41
set_option maxRecDepth 100000 in
set_option maxHeartbeats 4000000 in
theorem w_X10_step_238 {X : Gc} {ad : Nat → Nat} {res : (Int32 × Mem)} {r_150 : Int32 → Int32 → Mem → Option (Int32 × Mem)} (C : Gk X ad cX10_step "NineTonguesModel" 9 7) (Rt : Gr X ad (some .int) (some (.int res.1)) res.2) (x2 : Int32) (x3 : Int32) (x4 : Int32) (x6 : Int32) (t1 : Int32) (t0 : Int32) (M : Mem) (h_150 : ∀ (x5 : Int32) (x6 : Int32) (M : Mem), r_150 x5 x6 M = some res → G X ad 150 9 [(0, .ref (ad 108)), (2, .int x2), (3, .int x3), (4, .int x4), (5, .int x5), (6, .int x6)] [] M) (hf : f_X10_step_238 r_150 x2 x3 x4 x6 t1 t0 M = some res) : G X ad 238 9 [(0, .ref (ad 108)), (2, .int x2), (3, .int x3), (4, .int x4), (6, .int x6)] [.int t1, .int t0] M := by
  unfold f_X10_step_238 at hf
  refine G.iadd C dX10_step_238 ?_
  refine G.istore (lv' := [(5, .int (t0 + t1)), (0, .ref (ad 108)), (2, .int x2), (3, .int x3), (4, .int x4), (6, .int x6)]) C dX10_step_239 (by decide) rfl ?_
  refine G.iinc (pl := 5) (v := (x6 + 1)) (lv' := [(6, .int (x6 + 1)), (5, .int (t0 + t1)), (0, .ref (ad 108)), (2, .int x2), (3, .int x3), (4, .int x4)]) C dX10_step_241 rfl rfl (by decide) rfl ?_
  refine G.goto (tgt := 150) C dX10_step_244 (by decide) ?_
  refine G.sub (lv' := [(0, .ref (ad 108)), (2, .int x2), (3, .int x3), (4, .int x4), (5, .int (t0 + t1)), (6, .int (x6 + 1))]) [2, 3, 4, 5, 1, 0] rfl ?_
  exact h_150 (t0 + t1) (x6 + 1) M hf
set_option maxRecDepth 100000 in
set_option maxHeartbeats 4000000 in
theorem w_X10_step_237 {X : Gc} {ad : Nat → Nat} {res : (Int32 × Mem)} {r_150 : Int32 → Int32 → Mem → Option (Int32 × Mem)} (C : Gk X ad cX10_step "NineTonguesModel" 9 7) (Rt : Gr X ad (some .int) (some (.int res.1)) res.2) (x2 : Int32) (x3 : Int32) (x4 : Int32) (x6 : Int32) (t0 : Int32) (M : Mem) (h_150 : ∀ (x5 : Int32) (x6 : Int32) (M : Mem), r_150 x5 x6 M = some res → G X ad 150 9 [(0, .ref (ad 108)), (2, .int x2), (3, .int x3), (4, .int x4), (5, .int x5), (6, .int x6)] [] M) (hf : f_X10_step_237 r_150 x2 x3 x4 x6 t0 M = some res) : G X ad 237 9 [(0, .ref (ad 108)), (2, .int x2), (3, .int x3), (4, .int x4), (6, .int x6)] [.int t0] M := by
  unfold f_X10_step_237 at hf
  refine G.iconst (v := 0) C dX10_step_237 (by decide) ?_
  exact w_X10_step_238 C Rt x2 x3 x4 x6 (0 : Int32) t0 M h_150 hf
set_option maxRecDepth 100000 in
set_option maxHeartbeats 4000000 in
theorem w_X10_step_233 {X : Gc} {ad : Nat → Nat} {res : (Int32 × Mem)} {r_150 : Int32 → Int32 → Mem → Option (Int32 × Mem)} (C : Gk X ad cX10_step "NineTonguesModel" 9 7) (Rt : Gr X ad (some .int) (some (.int res.1)) res.2) (x2 : Int32) (x3 : Int32) (x4 : Int32) (x6 : Int32) (t0 : Int32) (M : Mem) (h_150 : ∀ (x5 : Int32) (x6 : Int32) (M : Mem), r_150 x5 x6 M = some res → G X ad 150 9 [(0, .ref (ad 108)), (2, .int x2), (3, .int x3), (4, .int x4), (5, .int x5), (6, .int x6)] [] M) (hf : f_X10_step_233 r_150 x2 x3 x4 x6 t0 M = some res) : G X ad 233 9 [(0, .ref (ad 108)), (2, .int x2), (3, .int x3), (4, .int x4), (6, .int x6)] [.int t0] M := by
  unfold f_X10_step_233 at hf
  refine G.iconst (v := 1) C dX10_step_233 (by decide) ?_
  refine G.goto (tgt := 238) C dX10_step_234 (by decide) ?_
  exact w_X10_step_238 C Rt x2 x3 x4 x6 (1 : Int32) t0 M h_150 hf
set_option maxRecDepth 100000 in
set_option maxHeartbeats 4000000 in
theorem w_X10_step_218 {X : Gc} {ad : Nat → Nat} {res : (Int32 × Mem)} {r_150 : Int32 → Int32 → Mem → Option (Int32 × Mem)} (C : Gk X ad cX10_step "NineTonguesModel" 9 7) (Rt : Gr X ad (some .int) (some (.int res.1)) res.2) (x2 : Int32) (x3 : Int32) (x4 : Int32) (x6 : Int32) (x7 : Int32) (x8 : Int32) (t0 : Int32) (M : Mem) (h_150 : ∀ (x5 : Int32) (x6 : Int32) (M : Mem), r_150 x5 x6 M = some res → G X ad 150 9 [(0, .ref (ad 108)), (2, .int x2), (3, .int x3), (4, .int x4), (5, .int x5), (6, .int x6)] [] M) (hf : f_X10_step_218 r_150 x2 x3 x4 x6 x7 x8 t0 M = some res) : G X ad 218 9 [(0, .ref (ad 108)), (2, .int x2), (3, .int x3), (4, .int x4), (6, .int x6), (7, .int x7), (8, .int x8)] [.int t0] M := by
  unfold f_X10_step_218 at hf
  refine G.iload_n (pl := 1) C dX10_step_218 rfl rfl ?_
  refine G.iconst (v := 3) C dX10_step_219 (by decide) ?_
  refine G.icmp_ne (tgt := 237) C dX10_step_220 (by decide) (fun hc1 => ?_) (fun hc1 => ?_)
  · replace hf := gIfn hf hc1
    refine G.sub (lv' := [(0, .ref (ad 108)), (2, .int x2), (3, .int x3), (4, .int x4), (6, .int x6)]) [0, 1, 2, 3, 4] rfl ?_
    exact w_X10_step_237 C Rt x2 x3 x4 x6 t0 M h_150 hf
  · replace hf := gIf hf hc1
    refine G.iload (pl := 5) C dX10_step_223 rfl ?_
    refine G.if_eq (tgt := 237) C dX10_step_225 (by decide) (fun hc2 => ?_) (fun hc2 => ?_)
    · replace hf := gIf hf hc2
      refine G.sub (lv' := [(0, .ref (ad 108)), (2, .int x2), (3, .int x3), (4, .int x4), (6, .int x6)]) [0, 1, 2, 3, 4] rfl ?_
      exact w_X10_step_237 C Rt x2 x3 x4 x6 t0 M h_150 hf
    · replace hf := gIfn hf hc2
      refine G.iload (pl := 6) C dX10_step_228 rfl ?_
      refine G.if_ne (tgt := 237) C dX10_step_230 (by decide) (fun hc3 => ?_) (fun hc3 => ?_)
      · replace hf := gIfn hf hc3
        refine G.sub (lv' := [(0, .ref (ad 108)), (2, .int x2), (3, .int x3), (4, .int x4), (6, .int x6)]) [0, 1, 2, 3, 4] rfl ?_
        exact w_X10_step_237 C Rt x2 x3 x4 x6 t0 M h_150 hf
      · replace hf := gIf hf hc3
        refine G.sub (lv' := [(0, .ref (ad 108)), (2, .int x2), (3, .int x3), (4, .int x4), (6, .int x6)]) [0, 1, 2, 3, 4] rfl ?_
        exact w_X10_step_233 C Rt x2 x3 x4 x6 t0 M h_150 hf
set_option maxRecDepth 100000 in
set_option maxHeartbeats 4000000 in
theorem w_X10_step_199 {X : Gc} {ad : Nat → Nat} {res : (Int32 × Mem)} {r_150 : Int32 → Int32 → Mem → Option (Int32 × Mem)} (C : Gk X ad cX10_step "NineTonguesModel" 9 7) (Rt : Gr X ad (some .int) (some (.int res.1)) res.2) (x2 : Int32) (x3 : Int32) (x4 : Int32) (x5 : Int32) (x6 : Int32) (x7 : Int32) (t0 : Int32) (M : Mem) (h_150 : ∀ (x5 : Int32) (x6 : Int32) (M : Mem), r_150 x5 x6 M = some res → G X ad 150 9 [(0, .ref (ad 108)), (2, .int x2), (3, .int x3), (4, .int x4), (5, .int x5), (6, .int x6)] [] M) (hf : f_X10_step_199 r_150 x2 x3 x4 x5 x6 x7 t0 M = some res) : G X ad 199 9 [(0, .ref (ad 108)), (2, .int x2), (3, .int x3), (4, .int x4), (5, .int x5), (6, .int x6), (7, .int x7)] [.int t0] M := by
  unfold f_X10_step_199 at hf
  refine G.istore (lv' := [(8, .int t0), (0, .ref (ad 108)), (2, .int x2), (3, .int x3), (4, .int x4), (5, .int x5), (6, .int x6), (7, .int x7)]) C dX10_step_199 (by decide) rfl ?_
  refine G.iload (pl := 5) C dX10_step_201 rfl ?_
  refine G.iload_n (pl := 2) C dX10_step_203 rfl rfl ?_
  refine G.iconst (v := 2) C dX10_step_204 (by decide) ?_
  refine G.icmp_ne (tgt := 218) C dX10_step_205 (by decide) (fun hc1 => ?_) (fun hc1 => ?_)
  · replace hf := gIfn hf hc1
    refine G.sub (lv' := [(0, .ref (ad 108)), (2, .int x2), (3, .int x3), (4, .int x4), (6, .int x6), (7, .int x7), (8, .int t0)]) [1, 2, 3, 4, 6, 7, 0] rfl ?_
    exact w_X10_step_218 C Rt x2 x3 x4 x6 x7 t0 x5 M h_150 hf
  · replace hf := gIf hf hc1
    refine G.iload (pl := 7) C dX10_step_208 rfl ?_
    refine G.if_ne (tgt := 218) C dX10_step_210 (by decide) (fun hc2 => ?_) (fun hc2 => ?_)
    · replace hf := gIfn hf hc2
      refine G.sub (lv' := [(0, .ref (ad 108)), (2, .int x2), (3, .int x3), (4, .int x4), (6, .int x6), (7, .int x7), (8, .int t0)]) [1, 2, 3, 4, 6, 7, 0] rfl ?_
      exact w_X10_step_218 C Rt x2 x3 x4 x6 x7 t0 x5 M h_150 hf
    · replace hf := gIf hf hc2
      refine G.iload (pl := 0) C dX10_step_213 rfl ?_
      refine G.if_ne (tgt := 233) C dX10_step_215 (by decide) (fun hc3 => ?_) (fun hc3 => ?_)
      · replace hf := gIfn hf hc3
        refine G.sub (lv' := [(0, .ref (ad 108)), (2, .int x2), (3, .int x3), (4, .int x4), (6, .int x6)]) [1, 2, 3, 4, 6] rfl ?_
        exact w_X10_step_233 C Rt x2 x3 x4 x6 x5 M h_150 hf
      · replace hf := gIf hf hc3
        refine G.sub (lv' := [(0, .ref (ad 108)), (2, .int x2), (3, .int x3), (4, .int x4), (6, .int x6), (7, .int x7), (8, .int t0)]) [1, 2, 3, 4, 6, 7, 0] rfl ?_
        exact w_X10_step_218 C Rt x2 x3 x4 x6 x7 t0 x5 M h_150 hf
set_option maxRecDepth 100000 in
set_option maxHeartbeats 4000000 in
theorem w_X10_step_179 {X : Gc} {ad : Nat → Nat} {res : (Int32 × Mem)} {r_150 : Int32 → Int32 → Mem → Option (Int32 × Mem)} (C : Gk X ad cX10_step "NineTonguesModel" 9 7) (Rt : Gr X ad (some .int) (some (.int res.1)) res.2) (x2 : Int32) (x3 : Int32) (x4 : Int32) (x5 : Int32) (x6 : Int32) (t0 : Int32) (M : Mem) (h_150 : ∀ (x5 : Int32) (x6 : Int32) (M : Mem), r_150 x5 x6 M = some res → G X ad 150 9 [(0, .ref (ad 108)), (2, .int x2), (3, .int x3), (4, .int x4), (5, .int x5), (6, .int x6)] [] M) (hf : f_X10_step_179 r_150 x2 x3 x4 x5 x6 t0 M = some res) : G X ad 179 9 [(0, .ref (ad 108)), (2, .int x2), (3, .int x3), (4, .int x4), (5, .int x5), (6, .int x6)] [.int t0] M := by
  unfold f_X10_step_179 at hf
  refine G.istore (lv' := [(7, .int t0), (0, .ref (ad 108)), (2, .int x2), (3, .int x3), (4, .int x4), (5, .int x5), (6, .int x6)]) C dX10_step_179 (by decide) rfl ?_
  refine G.aload_n (pl := 1) C dX10_step_181 rfl rfl ?_
  refine gf10_18 C o_108 k4_115 dX10_step_182 ?_
  refine G.iload (pl := 4) C dX10_step_185 rfl ?_
  refine G.iload (pl := 6) C dX10_step_187 rfl ?_
  refine G.iadd C dX10_step_189 ?_
  obtain ⟨v1, ev1, hi1, hf⟩ := rd_some hf
  refine G.iald C a_123 hi1 ev1 dX10_step_190 ?_
  refine G.if_lt (tgt := 198) C dX10_step_191 (by decide) (fun hc1 => ?_) (fun hc1 => ?_)
  · replace hf := gIf hf hc1
    refine G.iconst (v := 0) C dX10_step_198 (by decide) ?_
    refine G.sub (lv' := [(0, .ref (ad 108)), (2, .int x2), (3, .int x3), (4, .int x4), (5, .int x5), (6, .int x6), (7, .int t0)]) [1, 2, 3, 4, 5, 6, 0] rfl ?_
    exact w_X10_step_199 C Rt x2 x3 x4 x5 x6 t0 (0 : Int32) M h_150 hf
  · replace hf := gIfn hf hc1
    refine G.iconst (v := 1) C dX10_step_194 (by decide) ?_
    refine G.goto (tgt := 199) C dX10_step_195 (by decide) ?_
    refine G.sub (lv' := [(0, .ref (ad 108)), (2, .int x2), (3, .int x3), (4, .int x4), (5, .int x5), (6, .int x6), (7, .int t0)]) [1, 2, 3, 4, 5, 6, 0] rfl ?_
    exact w_X10_step_199 C Rt x2 x3 x4 x5 x6 t0 (1 : Int32) M h_150 hf
set_option maxRecDepth 100000 in
set_option maxHeartbeats 4000000 in
theorem w_X10_step_150_b {X : Gc} {ad : Nat → Nat} {res : (Int32 × Mem)} {r_150 : Int32 → Int32 → Mem → Option (Int32 × Mem)} (C : Gk X ad cX10_step "NineTonguesModel" 9 7) (Rt : Gr X ad (some .int) (some (.int res.1)) res.2) (x2 : Int32) (x3 : Int32) (x4 : Int32) (h_150 : ∀ (x5 : Int32) (x6 : Int32) (M : Mem), r_150 x5 x6 M = some res → G X ad 150 9 [(0, .ref (ad 108)), (2, .int x2), (3, .int x3), (4, .int x4), (5, .int x5), (6, .int x6)] [] M) (x5 : Int32) (x6 : Int32) (M : Mem) (hf : f_X10_step_150_b r_150 x2 x3 x4 x5 x6 M = some res) : G X ad 150 9 [(0, .ref (ad 108)), (2, .int x2), (3, .int x3), (4, .int x4), (5, .int x5), (6, .int x6)] [] M := by
  unfold f_X10_step_150_b at hf
  refine G.iload (pl := 5) C dX10_step_150 rfl ?_
  refine G.bipush (v := 16) C dX10_step_152 (by decide) ?_
  refine G.icmp_ge (tgt := 247) C dX10_step_154 (by decide) (fun hc1 => ?_) (fun hc1 => ?_)
  · replace hf := gIf hf hc1
    refine G.iload (pl := 4) C dX10_step_247 rfl ?_
    cases hf
    exact G.iret C Rt dX10_step_249
  · replace hf := gIfn hf hc1
    refine G.iload_n (pl := 1) C dX10_step_157 rfl rfl ?_
    refine G.iconst (v := 1) C dX10_step_158 (by decide) ?_
    refine G.icmp_le (tgt := 247) C dX10_step_159 (by decide) (fun hc2 => ?_) (fun hc2 => ?_)
    · replace hf := gIf hf hc2
      refine G.iload (pl := 4) C dX10_step_247 rfl ?_
      cases hf
      exact G.iret C Rt dX10_step_249
    · replace hf := gIfn hf hc2
      refine G.aload_n (pl := 0) C dX10_step_162 rfl rfl ?_
      refine gf10_18 C o_108 k4_115 dX10_step_163 ?_
      refine G.iload_n (pl := 2) C dX10_step_166 rfl rfl ?_
      refine G.iload (pl := 5) C dX10_step_167 rfl ?_
      refine G.iadd C dX10_step_169 ?_
      obtain ⟨v1, ev1, hi1, hf⟩ := rd_some hf
      refine G.iald C a_123 hi1 ev1 dX10_step_170 ?_
      refine G.if_lt (tgt := 178) C dX10_step_171 (by decide) (fun hc3 => ?_) (fun hc3 => ?_)
      · replace hf := gIf hf hc3
        refine G.iconst (v := 0) C dX10_step_178 (by decide) ?_
        exact w_X10_step_179 C Rt x2 x3 x4 x5 x6 (0 : Int32) M h_150 hf
      · replace hf := gIfn hf hc3
        refine G.iconst (v := 1) C dX10_step_174 (by decide) ?_
        refine G.goto (tgt := 179) C dX10_step_175 (by decide) ?_
        exact w_X10_step_179 C Rt x2 x3 x4 x5 x6 (1 : Int32) M h_150 hf
theorem w_X10_step_150 {X : Gc} {ad : Nat → Nat} {res : (Int32 × Mem)} (C : Gk X ad cX10_step "NineTonguesModel" 9 7) (Rt : Gr X ad (some .int) (some (.int res.1)) res.2) (x2 : Int32) (x3 : Int32) (x4 : Int32) : ∀ (n : Nat) (x5 : Int32) (x6 : Int32) (M : Mem), f_X10_step_150 x2 x3 x4 n x5 x6 M = some res → G X ad 150 9 [(0, .ref (ad 108)), (2, .int x2), (3, .int x3), (4, .int x4), (5, .int x5), (6, .int x6)] [] M := by
  intro n
  induction n with
  | zero => intro x5 x6 M hf; exact absurd (show (none : Option (Int32 × Mem)) = some res from hf) (fun h => nomatch h)
  | succ n ih => intro x5 x6 M hf; exact w_X10_step_150_b C Rt x2 x3 x4 ih x5 x6 M hf
set_option maxRecDepth 100000 in
set_option maxHeartbeats 4000000 in
theorem w_X10_step_146 {X : Gc} {ad : Nat → Nat} {res : (Int32 × Mem)} (C : Gk X ad cX10_step "NineTonguesModel" 9 7) (Rt : Gr X ad (some .int) (some (.int res.1)) res.2) (x2 : Int32) (x3 : Int32) (x4 : Int32) (x5 : Int32) (M : Mem) (hf : f_X10_step_146 x2 x3 x4 x5 M = some res) : G X ad 146 9 [(0, .ref (ad 108)), (2, .int x2), (3, .int x3), (4, .int x4), (5, .int x5)] [] M := by
  unfold f_X10_step_146 at hf
  refine G.bipush (v := 12) C dX10_step_146 (by decide) ?_
  refine G.istore (lv' := [(6, .int (12 : Int32)), (0, .ref (ad 108)), (2, .int x2), (3, .int x3), (4, .int x4), (5, .int x5)]) C dX10_step_148 (by decide) rfl ?_
  refine G.sub (lv' := [(0, .ref (ad 108)), (2, .int x2), (3, .int x3), (4, .int x4), (5, .int x5), (6, .int (12 : Int32))]) [1, 2, 3, 4, 5, 0] rfl ?_
  exact w_X10_step_150 C Rt x2 x3 x4 FU x5 (12 : Int32) M hf
set_option maxRecDepth 100000 in
set_option maxHeartbeats 4000000 in
theorem w_X10_step_137 {X : Gc} {ad : Nat → Nat} {res : (Int32 × Mem)} {r_62 : Int32 → Int32 → Mem → Option (Int32 × Mem)} (C : Gk X ad cX10_step "NineTonguesModel" 9 7) (Rt : Gr X ad (some .int) (some (.int res.1)) res.2) (x2 : Int32) (x3 : Int32) (x4 : Int32) (x6 : Int32) (t1 : Int32) (t0 : Int32) (M : Mem) (h_62 : ∀ (x5 : Int32) (x6 : Int32) (M : Mem), r_62 x5 x6 M = some res → G X ad 62 9 [(0, .ref (ad 108)), (2, .int x2), (3, .int x3), (4, .int x4), (5, .int x5), (6, .int x6)] [] M) (hf : f_X10_step_137 r_62 x2 x3 x4 x6 t1 t0 M = some res) : G X ad 137 9 [(0, .ref (ad 108)), (2, .int x2), (3, .int x3), (4, .int x4), (6, .int x6)] [.int t1, .int t0] M := by
  unfold f_X10_step_137 at hf
  refine G.iadd C dX10_step_137 ?_
  refine G.istore (lv' := [(5, .int (t0 + t1)), (0, .ref (ad 108)), (2, .int x2), (3, .int x3), (4, .int x4), (6, .int x6)]) C dX10_step_138 (by decide) rfl ?_
  refine G.iinc (pl := 5) (v := (x6 + 1)) (lv' := [(6, .int (x6 + 1)), (5, .int (t0 + t1)), (0, .ref (ad 108)), (2, .int x2), (3, .int x3), (4, .int x4)]) C dX10_step_140 rfl rfl (by decide) rfl ?_
  refine G.goto (tgt := 62) C dX10_step_143 (by decide) ?_
  refine G.sub (lv' := [(0, .ref (ad 108)), (2, .int x2), (3, .int x3), (4, .int x4), (5, .int (t0 + t1)), (6, .int (x6 + 1))]) [2, 3, 4, 5, 1, 0] rfl ?_
  exact h_62 (t0 + t1) (x6 + 1) M hf
set_option maxRecDepth 100000 in
set_option maxHeartbeats 4000000 in
theorem w_X10_step_62_b {X : Gc} {ad : Nat → Nat} {res : (Int32 × Mem)} {r_62 : Int32 → Int32 → Mem → Option (Int32 × Mem)} (C : Gk X ad cX10_step "NineTonguesModel" 9 7) (Rt : Gr X ad (some .int) (some (.int res.1)) res.2) (x2 : Int32) (x3 : Int32) (x4 : Int32) (h_62 : ∀ (x5 : Int32) (x6 : Int32) (M : Mem), r_62 x5 x6 M = some res → G X ad 62 9 [(0, .ref (ad 108)), (2, .int x2), (3, .int x3), (4, .int x4), (5, .int x5), (6, .int x6)] [] M) (x5 : Int32) (x6 : Int32) (M : Mem) (hf : f_X10_step_62_b r_62 x2 x3 x4 x5 x6 M = some res) : G X ad 62 9 [(0, .ref (ad 108)), (2, .int x2), (3, .int x3), (4, .int x4), (5, .int x5), (6, .int x6)] [] M := by
  unfold f_X10_step_62_b at hf
  refine G.iload (pl := 5) C dX10_step_62 rfl ?_
  refine G.aload_n (pl := 0) C dX10_step_64 rfl rfl ?_
  refine gf10_1 C o_108 k4_98 dX10_step_65 ?_
  refine G.iconst (v := 0) C dX10_step_68 (by decide) ?_
  refine G.iald (v := (M.1 110 0)) C a_110 (vp_inC (by decide)) rfl dX10_step_69 ?_
  refine G.icmp_ge (tgt := 146) C dX10_step_70 (by decide) (fun hc1 => ?_) (fun hc1 => ?_)
  · replace hf := gIf hf hc1
    refine G.sub (lv' := [(0, .ref (ad 108)), (2, .int x2), (3, .int x3), (4, .int x4), (5, .int x5)]) [0, 1, 2, 3, 4] rfl ?_
    exact w_X10_step_146 C Rt x2 x3 x4 x5 M hf
  · replace hf := gIfn hf hc1
    refine G.iload_n (pl := 1) C dX10_step_73 rfl rfl ?_
    refine G.iconst (v := 2) C dX10_step_74 (by decide) ?_
    refine G.icmp_ge (tgt := 146) C dX10_step_75 (by decide) (fun hc2 => ?_) (fun hc2 => ?_)
    · replace hf := gIf hf hc2
      refine G.sub (lv' := [(0, .ref (ad 108)), (2, .int x2), (3, .int x3), (4, .int x4), (5, .int x5)]) [0, 1, 2, 3, 4] rfl ?_
      exact w_X10_step_146 C Rt x2 x3 x4 x5 M hf
    · replace hf := gIfn hf hc2
      refine G.iload (pl := 4) C dX10_step_78 rfl ?_
      refine G.iload_n (pl := 1) C dX10_step_80 rfl rfl ?_
      refine G.if_ne (tgt := 112) C dX10_step_81 (by decide) (fun hc3 => ?_) (fun hc3 => ?_)
      · replace hf := gIfn hf hc3
        refine G.aload_n (pl := 0) C dX10_step_112 rfl rfl ?_
        refine gf10_18 C o_108 k4_115 dX10_step_113 ?_
        refine G.iload (pl := 3) C dX10_step_116 rfl ?_
        refine G.iload (pl := 5) C dX10_step_118 rfl ?_
        refine G.iadd C dX10_step_120 ?_
        obtain ⟨v1, ev1, hi1, hf⟩ := rd_some hf
        refine G.iald C a_123 hi1 ev1 dX10_step_121 ?_
        refine G.aload_n (pl := 0) C dX10_step_122 rfl rfl ?_
        refine gf10_18 C o_108 k4_115 dX10_step_123 ?_
        refine G.iload_n (pl := 2) C dX10_step_126 rfl rfl ?_
        refine G.iload (pl := 5) C dX10_step_127 rfl ?_
        refine G.iadd C dX10_step_129 ?_
        obtain ⟨v2, ev2, hi2, hf⟩ := rd_some hf
        refine G.iald C a_123 hi2 ev2 dX10_step_130 ?_
        refine G.iconst (v := (-1)) C dX10_step_131 (by decide) ?_
        refine G.ixor C dX10_step_132 ?_
        refine G.iand C dX10_step_133 ?_
        obtain ⟨v3, hr1, hf⟩ := cp_some hf
        refine G.callS (st1 := [.int v3, .int x5]) C [.int (v1 &&& (v2 ^^^ (-1 : Int32)))] [.int x5] (c_X10_bits hr1) mv_X10_bits k4_236 rfl rfl rfl (Nat.le_of_ble_eq_true rfl) (by decide) dX10_step_134 rfl ?_
        refine G.sub (lv' := [(0, .ref (ad 108)), (2, .int x2), (3, .int x3), (4, .int x4), (6, .int x6)]) [0, 1, 2, 3, 5] rfl ?_
        exact w_X10_step_137 C Rt x2 x3 x4 x6 v3 x5 M h_62 hf
      · replace hf := gIf hf hc3
        refine G.aload_n (pl := 0) C dX10_step_84 rfl rfl ?_
        refine gf10_18 C o_108 k4_115 dX10_step_85 ?_
        refine G.iload_n (pl := 2) C dX10_step_88 rfl rfl ?_
        refine G.iload (pl := 5) C dX10_step_89 rfl ?_
        refine G.iadd C dX10_step_91 ?_
        obtain ⟨v4, ev3, hi3, hf⟩ := rd_some hf
        refine G.iald C a_123 hi3 ev3 dX10_step_92 ?_
        refine G.aload_n (pl := 0) C dX10_step_93 rfl rfl ?_
        refine gf10_18 C o_108 k4_115 dX10_step_94 ?_
        refine G.iload (pl := 3) C dX10_step_97 rfl ?_
        refine G.iload (pl := 5) C dX10_step_99 rfl ?_
        refine G.iadd C dX10_step_101 ?_
        obtain ⟨v5, ev4, hi4, hf⟩ := rd_some hf
        refine G.iald C a_123 hi4 ev4 dX10_step_102 ?_
        refine G.iconst (v := (-1)) C dX10_step_103 (by decide) ?_
        refine G.ixor C dX10_step_104 ?_
        refine G.iand C dX10_step_105 ?_
        obtain ⟨v6, hr2, hf⟩ := cp_some hf
        refine G.callS (st1 := [.int v6, .int x5]) C [.int (v4 &&& (v5 ^^^ (-1 : Int32)))] [.int x5] (c_X10_bits hr2) mv_X10_bits k4_236 rfl rfl rfl (Nat.le_of_ble_eq_true rfl) (by decide) dX10_step_106 rfl ?_
        refine G.goto (tgt := 137) C dX10_step_109 (by decide) ?_
        refine G.sub (lv' := [(0, .ref (ad 108)), (2, .int x2), (3, .int x3), (4, .int x4), (6, .int x6)]) [0, 1, 2, 3, 5] rfl ?_
        exact w_X10_step_137 C Rt x2 x3 x4 x6 v6 x5 M h_62 hf
theorem w_X10_step_62 {X : Gc} {ad : Nat → Nat} {res : (Int32 × Mem)} (C : Gk X ad cX10_step "NineTonguesModel" 9 7) (Rt : Gr X ad (some .int) (some (.int res.1)) res.2) (x2 : Int32) (x3 : Int32) (x4 : Int32) : ∀ (n : Nat) (x5 : Int32) (x6 : Int32) (M : Mem), f_X10_step_62 x2 x3 x4 n x5 x6 M = some res → G X ad 62 9 [(0, .ref (ad 108)), (2, .int x2), (3, .int x3), (4, .int x4), (5, .int x5), (6, .int x6)] [] M := by
  intro n
  induction n with
  | zero => intro x5 x6 M hf; exact absurd (show (none : Option (Int32 × Mem)) = some res from hf) (fun h => nomatch h)
  | succ n ih => intro x5 x6 M hf; exact w_X10_step_62_b C Rt x2 x3 x4 ih x5 x6 M hf
set_option maxRecDepth 100000 in
set_option maxHeartbeats 4000000 in
theorem w_X10_step_E {X : Gc} {ad : Nat → Nat} {res : (Int32 × Mem)} (C : Gk X ad cX10_step "NineTonguesModel" 9 7) (Rt : Gr X ad (some .int) (some (.int res.1)) res.2) (x1 : Int32) (x2 : Int32) (M : Mem) (hf : f_X10_step x1 x2 M = some res) : G X ad 0 9 [(0, .ref (ad 108)), (1, .int x1), (2, .int x2)] [] M := by
  unfold f_X10_step at hf
  refine G.aload_n (pl := 0) C dX10_step_0 rfl rfl ?_
  obtain ⟨v1, M1, hr1, hf⟩ := cl_some hf
  refine G.callV (st1 := [.int v1]) C [] [] (c_X10_goes hr1) mv_X10_goes k5_48 o_108.1 (fun _ => gShp_20 o_108) rfl rfl rfl rfl rfl (Nat.le_of_ble_eq_true rfl) (by decide) dX10_step_1 rfl ?_
  refine G.if_ne (tgt := 14) C dX10_step_4 (by decide) (fun hc1 => ?_) (fun hc1 => ?_)
  · replace hf := gIfn hf hc1
    refine G.iload_n (pl := 1) C dX10_step_14 rfl rfl ?_
    refine G.iconst (v := 1) C dX10_step_15 (by decide) ?_
    refine G.aload_n (pl := 0) C dX10_step_16 rfl rfl ?_
    refine gf10_14 C o_108 k4_111 dX10_step_17 ?_
    obtain ⟨v2, hr2, hf⟩ := cp_some hf
    refine G.callS (st1 := [.int v2]) C [.int x1, .int (1 : Int32), .int (M1.1 108 14)] [] (c_X10_between hr2) mv_X10_between k4_189 rfl rfl rfl (Nat.le_of_ble_eq_true rfl) (by decide) dX10_step_20 rfl ?_
    refine G.if_eq (tgt := 35) C dX10_step_23 (by decide) (fun hc2 => ?_) (fun hc2 => ?_)
    · replace hf := gIf hf hc2
      refine G.sub (lv' := [(0, .ref (ad 108))]) [0] rfl ?_
      exact w_X10_step_35 C Rt M1 hf
    · replace hf := gIfn hf hc2
      refine G.iload_n (pl := 2) C dX10_step_26 rfl rfl ?_
      refine G.iconst (v := 0) C dX10_step_27 (by decide) ?_
      refine G.iconst (v := 3) C dX10_step_28 (by decide) ?_
      obtain ⟨v3, hr3, hf⟩ := cp_some hf
      refine G.callS (st1 := [.int v3]) C [.int x2, .int (0 : Int32), .int (3 : Int32)] [] (c_X10_between hr3) mv_X10_between k4_189 rfl rfl rfl (Nat.le_of_ble_eq_true rfl) (by decide) dX10_step_29 rfl ?_
      refine G.if_ne (tgt := 42) C dX10_step_32 (by decide) (fun hc3 => ?_) (fun hc3 => ?_)
      · replace hf := gIfn hf hc3
        refine G.bipush (v := 16) C dX10_step_42 (by decide) ?_
        refine G.iload_n (pl := 1) C dX10_step_44 rfl rfl ?_
        refine G.imul C dX10_step_45 ?_
        refine G.bipush (v := 16) C dX10_step_46 (by decide) ?_
        refine G.isub C dX10_step_48 ?_
        refine G.istore_n (lv' := [(3, .int (((16 : Int32) * x1) - (16 : Int32))), (0, .ref (ad 108)), (1, .int x1), (2, .int x2)]) C dX10_step_49 rfl (by decide) rfl ?_
        refine G.bipush (v := 16) C dX10_step_50 (by decide) ?_
        refine G.iload_n (pl := 2) C dX10_step_52 rfl rfl ?_
        refine G.imul C dX10_step_53 ?_
        refine G.istore (lv' := [(4, .int ((16 : Int32) * x1)), (3, .int (((16 : Int32) * x1) - (16 : Int32))), (0, .ref (ad 108)), (1, .int x1), (2, .int x2)]) C dX10_step_54 (by decide) rfl ?_
        refine G.iconst (v := 0) C dX10_step_56 (by decide) ?_
        refine G.istore (lv' := [(5, .int (0 : Int32)), (4, .int ((16 : Int32) * x1)), (3, .int (((16 : Int32) * x1) - (16 : Int32))), (0, .ref (ad 108)), (1, .int x1), (2, .int x2)]) C dX10_step_57 (by decide) rfl ?_
        refine G.iconst (v := 0) C dX10_step_59 (by decide) ?_
        refine G.istore (lv' := [(6, .int (0 : Int32)), (5, .int (0 : Int32)), (4, .int ((16 : Int32) * x1)), (3, .int (((16 : Int32) * x1) - (16 : Int32))), (0, .ref (ad 108)), (1, .int x1), (2, .int x2)]) C dX10_step_60 (by decide) rfl ?_
        refine G.sub (lv' := [(0, .ref (ad 108)), (2, .int x2), (3, .int (((16 : Int32) * x1) - (16 : Int32))), (4, .int ((16 : Int32) * x1)), (5, .int (0 : Int32)), (6, .int (0 : Int32))]) [4, 6, 3, 2, 1, 0] rfl ?_
        exact w_X10_step_62 C Rt x2 (((16 : Int32) * x1) - (16 : Int32)) ((16 : Int32) * x1) FU (0 : Int32) (0 : Int32) M1 hf
      · replace hf := gIf hf hc3
        refine G.sub (lv' := [(0, .ref (ad 108))]) [0] rfl ?_
        exact w_X10_step_35 C Rt M1 hf
  · replace hf := gIf hf hc1
    refine G.aload_n (pl := 0) C dX10_step_7 rfl rfl ?_
    refine G.bipush (v := (-3)) C dX10_step_8 (by decide) ?_
    obtain ⟨v4, M2, hr4, hf⟩ := cl_some hf
    refine G.callV (st1 := [.int v4]) C [.int (-3 : Int32)] [] (c_X10_no hr4) mv_X10_no k5_40 o_108.1 (fun _ => gShp_20 o_108) rfl rfl rfl rfl rfl (Nat.le_of_ble_eq_true rfl) (by decide) dX10_step_10 rfl ?_
    cases hf
    exact G.iret C Rt dX10_step_13
theorem mv_X10_step : gMV yX10_step cX10_step 9 (some .int) 2 := ⟨k5_65, k5_66, k1_12, k5_67, ⟨by decide +kernel, by decide +kernel, by decide +kernel⟩, by decide⟩
theorem c_X10_step {res : (Int32 × Mem)} {x1 : Int32} {x2 : Int32} {M : Mem} (hf : f_X10_step x1 x2 M = some res) : Ct yX10_step cX10_step 9 (some .int) 7 (fun ad => [.ref (ad 108), .int x1, .int x2]) M (some (.int res.1)) res.2 :=
  Ct.of (by decide +kernel) (fun _ => Nat.le_of_ble_eq_true rfl) (fun X ad C Rt => w_X10_step_E C Rt x1 x2 M hf)
set_option maxRecDepth 100000 in
set_option maxHeartbeats 4000000 in
theorem w_X10_apart_79 {X : Gc} {ad : Nat → Nat} {res : Int32} {q1 n1 q3 n3 : Nat} {M : Mem} {r_49 : Int32 → Int32 → Option Int32} (hq1 : gArr n1 q1) (hq3 : gArr n3 q3) (C : Gk X ad cX10_apart "NineTonguesModel" 7 2) (Rt : Gr X ad (some .int) (some (.int res)) M) (x2 : Int32) (x4 : Int32) (x6 : Int32) (t1 : Int32) (t0 : Int32) (h_49 : ∀ (x5 : Int32) (x6 : Int32), r_49 x5 x6 = some res → G X ad 49 7 [(1, .ref (ad q1)), (2, .int x2), (3, .ref (ad q3)), (4, .int x4), (5, .int x5), (6, .int x6)] [] M) (hf : f_X10_apart_79 q1 n1 q3 n3 M r_49 x2 x4 x6 t1 t0 = some res) : G X ad 79 7 [(1, .ref (ad q1)), (2, .int x2), (3, .ref (ad q3)), (4, .int x4), (6, .int x6)] [.int t1, .int t0] M := by
  unfold f_X10_apart_79 at hf
  refine G.iadd C dX10_apart_79 ?_
  refine G.istore (lv' := [(5, .int (t0 + t1)), (1, .ref (ad q1)), (2, .int x2), (3, .ref (ad q3)), (4, .int x4), (6, .int x6)]) C dX10_apart_80 (by decide) rfl ?_
  refine G.iinc (pl := 5) (v := (x6 + 1)) (lv' := [(6, .int (x6 + 1)), (5, .int (t0 + t1)), (1, .ref (ad q1)), (2, .int x2), (3, .ref (ad q3)), (4, .int x4)]) C dX10_apart_82 rfl rfl (by decide) rfl ?_
  refine G.goto (tgt := 49) C dX10_apart_85 (by decide) ?_
  refine G.sub (lv' := [(1, .ref (ad q1)), (2, .int x2), (3, .ref (ad q3)), (4, .int x4), (5, .int (t0 + t1)), (6, .int (x6 + 1))]) [2, 3, 4, 5, 1, 0] rfl ?_
  exact h_49 (t0 + t1) (x6 + 1)  hf
set_option maxRecDepth 100000 in
set_option maxHeartbeats 4000000 in
theorem w_X10_apart_49_b {X : Gc} {ad : Nat → Nat} {res : Int32} {q1 n1 q3 n3 : Nat} {M : Mem} {r_49 : Int32 → Int32 → Option Int32} (hq1 : gArr n1 q1) (hq3 : gArr n3 q3) (C : Gk X ad cX10_apart "NineTonguesModel" 7 2) (Rt : Gr X ad (some .int) (some (.int res)) M) (x2 : Int32) (x4 : Int32) (h_49 : ∀ (x5 : Int32) (x6 : Int32), r_49 x5 x6 = some res → G X ad 49 7 [(1, .ref (ad q1)), (2, .int x2), (3, .ref (ad q3)), (4, .int x4), (5, .int x5), (6, .int x6)] [] M) (x5 : Int32) (x6 : Int32) (hf : f_X10_apart_49_b q1 n1 q3 n3 M r_49 x2 x4 x5 x6 = some res) : G X ad 49 7 [(1, .ref (ad q1)), (2, .int x2), (3, .ref (ad q3)), (4, .int x4), (5, .int x5), (6, .int x6)] [] M := by
  unfold f_X10_apart_49_b at hf
  refine G.iload (pl := 5) C dX10_apart_49 rfl ?_
  refine G.bipush (v := 16) C dX10_apart_51 (by decide) ?_
  refine G.icmp_ge (tgt := 88) C dX10_apart_53 (by decide) (fun hc1 => ?_) (fun hc1 => ?_)
  · replace hf := gIf hf hc1
    refine G.iload (pl := 4) C dX10_apart_88 rfl ?_
    cases hf
    exact G.iret C Rt dX10_apart_90
  · replace hf := gIfn hf hc1
    refine G.iload (pl := 4) C dX10_apart_56 rfl ?_
    refine G.aload_n (pl := 0) C dX10_apart_58 rfl rfl ?_
    refine G.iload_n (pl := 1) C dX10_apart_59 rfl rfl ?_
    refine G.iload (pl := 5) C dX10_apart_60 rfl ?_
    refine G.iadd C dX10_apart_62 ?_
    obtain ⟨v1, ev1, hi1, hf⟩ := rd_some hf
    refine G.iald C hq1 hi1 ev1 dX10_apart_63 ?_
    refine G.aload_n (pl := 2) C dX10_apart_64 rfl rfl ?_
    refine G.iload (pl := 3) C dX10_apart_65 rfl ?_
    refine G.iload (pl := 5) C dX10_apart_67 rfl ?_
    refine G.iadd C dX10_apart_69 ?_
    obtain ⟨v2, ev2, hi2, hf⟩ := rd_some hf
    refine G.iald C hq3 hi2 ev2 dX10_apart_70 ?_
    refine G.icmp_ne (tgt := 78) C dX10_apart_71 (by decide) (fun hc2 => ?_) (fun hc2 => ?_)
    · replace hf := gIfn hf hc2
      refine G.iconst (v := 1) C dX10_apart_78 (by decide) ?_
      refine G.sub (lv' := [(1, .ref (ad q1)), (2, .int x2), (3, .ref (ad q3)), (4, .int x4), (6, .int x6)]) [0, 1, 2, 3, 5] rfl ?_
      exact w_X10_apart_79 hq1 hq3 C Rt x2 x4 x6 (1 : Int32) x5 h_49 hf
    · replace hf := gIf hf hc2
      refine G.iconst (v := 0) C dX10_apart_74 (by decide) ?_
      refine G.goto (tgt := 79) C dX10_apart_75 (by decide) ?_
      refine G.sub (lv' := [(1, .ref (ad q1)), (2, .int x2), (3, .ref (ad q3)), (4, .int x4), (6, .int x6)]) [0, 1, 2, 3, 5] rfl ?_
      exact w_X10_apart_79 hq1 hq3 C Rt x2 x4 x6 (0 : Int32) x5 h_49 hf
theorem w_X10_apart_49 {X : Gc} {ad : Nat → Nat} {res : Int32} {q1 n1 q3 n3 : Nat} {M : Mem} (hq1 : gArr n1 q1) (hq3 : gArr n3 q3) (C : Gk X ad cX10_apart "NineTonguesModel" 7 2) (Rt : Gr X ad (some .int) (some (.int res)) M) (x2 : Int32) (x4 : Int32) : ∀ (n : Nat) (x5 : Int32) (x6 : Int32), f_X10_apart_49 q1 n1 q3 n3 M x2 x4 n x5 x6 = some res → G X ad 49 7 [(1, .ref (ad q1)), (2, .int x2), (3, .ref (ad q3)), (4, .int x4), (5, .int x5), (6, .int x6)] [] M := by
  intro n
  induction n with
  | zero => intro x5 x6 hf; exact absurd (show (none : Option Int32) = some res from hf) (fun h => nomatch h)
  | succ n ih => intro x5 x6 hf; exact w_X10_apart_49_b hq1 hq3 C Rt x2 x4 ih x5 x6 hf
set_option maxRecDepth 100000 in
set_option maxHeartbeats 4000000 in
theorem w_X10_apart_6_b {X : Gc} {ad : Nat → Nat} {res : Int32} {q1 n1 q3 n3 : Nat} {M : Mem} {r_6 : Int32 → Int32 → Option Int32} (hq1 : gArr n1 q1) (hq3 : gArr n3 q3) (C : Gk X ad cX10_apart "NineTonguesModel" 7 2) (Rt : Gr X ad (some .int) (some (.int res)) M) (x2 : Int32) (x4 : Int32) (h_6 : ∀ (x5 : Int32) (x6 : Int32), r_6 x5 x6 = some res → G X ad 6 7 [(0, .ref (ad 108)), (1, .ref (ad q1)), (2, .int x2), (3, .ref (ad q3)), (4, .int x4), (5, .int x5), (6, .int x6)] [] M) (x5 : Int32) (x6 : Int32) (hf : f_X10_apart_6_b q1 n1 q3 n3 M r_6 x2 x4 x5 x6 = some res) : G X ad 6 7 [(0, .ref (ad 108)), (1, .ref (ad q1)), (2, .int x2), (3, .ref (ad q3)), (4, .int x4), (5, .int x5), (6, .int x6)] [] M := by
  unfold f_X10_apart_6_b at hf
  refine G.iload (pl := 6) C dX10_apart_6 rfl ?_
  refine G.aload_n (pl := 0) C dX10_apart_8 rfl rfl ?_
  refine gf10_1 C o_108 k4_98 dX10_apart_9 ?_
  refine G.iconst (v := 0) C dX10_apart_12 (by decide) ?_
  refine G.iald (v := (M.1 110 0)) C a_110 (vp_inC (by decide)) rfl dX10_apart_13 ?_
  refine G.icmp_ge (tgt := 45) C dX10_apart_14 (by decide) (fun hc1 => ?_) (fun hc1 => ?_)
  · replace hf := gIf hf hc1
    refine G.bipush (v := 12) C dX10_apart_45 (by decide) ?_
    refine G.istore (lv' := [(6, .int (12 : Int32)), (0, .ref (ad 108)), (1, .ref (ad q1)), (2, .int x2), (3, .ref (ad q3)), (4, .int x4), (5, .int x5)]) C dX10_apart_47 (by decide) rfl ?_
    refine G.sub (lv' := [(1, .ref (ad q1)), (2, .int x2), (3, .ref (ad q3)), (4, .int x4), (5, .int x5), (6, .int (12 : Int32))]) [2, 3, 4, 5, 6, 0] rfl ?_
    exact w_X10_apart_49 hq1 hq3 C Rt x2 x4 FU x5 (12 : Int32) hf
  · replace hf := gIfn hf hc1
    refine G.iload (pl := 5) C dX10_apart_17 rfl ?_
    refine G.aload_n (pl := 1) C dX10_apart_19 rfl rfl ?_
    refine G.iload_n (pl := 2) C dX10_apart_20 rfl rfl ?_
    refine G.iload (pl := 6) C dX10_apart_21 rfl ?_
    refine G.iadd C dX10_apart_23 ?_
    obtain ⟨v1, ev1, hi1, hf⟩ := rd_some hf
    refine G.iald C hq1 hi1 ev1 dX10_apart_24 ?_
    refine G.aload_n (pl := 3) C dX10_apart_25 rfl rfl ?_
    refine G.iload (pl := 4) C dX10_apart_26 rfl ?_
    refine G.iload (pl := 6) C dX10_apart_28 rfl ?_
    refine G.iadd C dX10_apart_30 ?_
    obtain ⟨v2, ev2, hi2, hf⟩ := rd_some hf
    refine G.iald C hq3 hi2 ev2 dX10_apart_31 ?_
    refine G.ixor C dX10_apart_32 ?_
    obtain ⟨v3, hr1, hf⟩ := cp_some hf
    refine G.callS (st1 := [.int v3, .int x5]) C [.int (v1 ^^^ v2)] [.int x5] (c_X10_bits hr1) mv_X10_bits k4_236 rfl rfl rfl (Nat.le_of_ble_eq_true rfl) (by decide) dX10_apart_33 rfl ?_
    refine G.iadd C dX10_apart_36 ?_
    refine G.istore (lv' := [(5, .int (x5 + v3)), (0, .ref (ad 108)), (1, .ref (ad q1)), (2, .int x2), (3, .ref (ad q3)), (4, .int x4), (6, .int x6)]) C dX10_apart_37 (by decide) rfl ?_
    refine G.iinc (pl := 6) (v := (x6 + 1)) (lv' := [(6, .int (x6 + 1)), (5, .int (x5 + v3)), (0, .ref (ad 108)), (1, .ref (ad q1)), (2, .int x2), (3, .ref (ad q3)), (4, .int x4)]) C dX10_apart_39 rfl rfl (by decide) rfl ?_
    refine G.goto (tgt := 6) C dX10_apart_42 (by decide) ?_
    refine G.sub (lv' := [(0, .ref (ad 108)), (1, .ref (ad q1)), (2, .int x2), (3, .ref (ad q3)), (4, .int x4), (5, .int (x5 + v3)), (6, .int (x6 + 1))]) [2, 3, 4, 5, 6, 1, 0] rfl ?_
    exact h_6 (x5 + v3) (x6 + 1)  hf
theorem w_X10_apart_6 {X : Gc} {ad : Nat → Nat} {res : Int32} {q1 n1 q3 n3 : Nat} {M : Mem} (hq1 : gArr n1 q1) (hq3 : gArr n3 q3) (C : Gk X ad cX10_apart "NineTonguesModel" 7 2) (Rt : Gr X ad (some .int) (some (.int res)) M) (x2 : Int32) (x4 : Int32) : ∀ (n : Nat) (x5 : Int32) (x6 : Int32), f_X10_apart_6 q1 n1 q3 n3 M x2 x4 n x5 x6 = some res → G X ad 6 7 [(0, .ref (ad 108)), (1, .ref (ad q1)), (2, .int x2), (3, .ref (ad q3)), (4, .int x4), (5, .int x5), (6, .int x6)] [] M := by
  intro n
  induction n with
  | zero => intro x5 x6 hf; exact absurd (show (none : Option Int32) = some res from hf) (fun h => nomatch h)
  | succ n ih => intro x5 x6 hf; exact w_X10_apart_6_b hq1 hq3 C Rt x2 x4 ih x5 x6 hf
set_option maxRecDepth 100000 in
set_option maxHeartbeats 4000000 in
theorem w_X10_apart_E {X : Gc} {ad : Nat → Nat} {res : Int32} {q1 n1 q3 n3 : Nat} {M : Mem} (hq1 : gArr n1 q1) (hq3 : gArr n3 q3) (C : Gk X ad cX10_apart "NineTonguesModel" 7 2) (Rt : Gr X ad (some .int) (some (.int res)) M) (x2 : Int32) (x4 : Int32) (hf : f_X10_apart q1 n1 q3 n3 x2 x4 M = some res) : G X ad 0 7 [(0, .ref (ad 108)), (1, .ref (ad q1)), (2, .int x2), (3, .ref (ad q3)), (4, .int x4)] [] M := by
  unfold f_X10_apart at hf
  refine G.iconst (v := 0) C dX10_apart_0 (by decide) ?_
  refine G.istore (lv' := [(5, .int (0 : Int32)), (0, .ref (ad 108)), (1, .ref (ad q1)), (2, .int x2), (3, .ref (ad q3)), (4, .int x4)]) C dX10_apart_1 (by decide) rfl ?_
  refine G.iconst (v := 0) C dX10_apart_3 (by decide) ?_
  refine G.istore (lv' := [(6, .int (0 : Int32)), (5, .int (0 : Int32)), (0, .ref (ad 108)), (1, .ref (ad q1)), (2, .int x2), (3, .ref (ad q3)), (4, .int x4)]) C dX10_apart_4 (by decide) rfl ?_
  refine G.sub (lv' := [(0, .ref (ad 108)), (1, .ref (ad q1)), (2, .int x2), (3, .ref (ad q3)), (4, .int x4), (5, .int (0 : Int32)), (6, .int (0 : Int32))]) [2, 3, 4, 5, 6, 1, 0] rfl ?_
  exact w_X10_apart_6 hq1 hq3 C Rt x2 x4 FU (0 : Int32) (0 : Int32) hf
theorem mv_X10_apart : gMV yX10_apart cX10_apart 7 (some .int) 4 := ⟨k5_74, kS_40, k1_12, k5_75, ⟨by decide +kernel, by decide +kernel, by decide +kernel⟩, by decide⟩
theorem c_X10_apart {res : Int32} {q1 n1 q3 n3 : Nat} {x2 : Int32} {x4 : Int32} {M : Mem} (hq1 : gArr n1 q1) (hq3 : gArr n3 q3) (hf : f_X10_apart q1 n1 q3 n3 x2 x4 M = some res) : Ct yX10_apart cX10_apart 7 (some .int) 2 (fun ad => [.ref (ad 108), .ref (ad q1), .int x2, .ref (ad q3), .int x4]) M (some (.int res)) M :=
  Ct.of (by decide +kernel) (fun _ => Nat.le_of_ble_eq_true rfl) (fun X ad C Rt => w_X10_apart_E hq1 hq3 C Rt x2 x4 hf)
set_option maxRecDepth 100000 in
set_option maxHeartbeats 4000000 in
theorem w_X10_unlike_61 {X : Gc} {ad : Nat → Nat} {res : (Int32 × Mem)} (C : Gk X ad cX10_unlike "NineTonguesModel" 3 7) (Rt : Gr X ad (some .int) (some (.int res.1)) res.2) (M : Mem) (hf : f_X10_unlike_61 M = some res) : G X ad 61 3 [(0, .ref (ad 108))] [] M := by
  unfold f_X10_unlike_61 at hf
  refine G.aload_n (pl := 0) C dX10_unlike_61 rfl rfl ?_
  refine G.bipush (v := (-2)) C dX10_unlike_62 (by decide) ?_
  obtain ⟨v1, M1, hr1, hf⟩ := cl_some hf
  refine G.callV (st1 := [.int v1]) C [.int (-2 : Int32)] [] (c_X10_bad hr1) mv_X10_bad k4_192 o_108.1 (fun _ => gShp_20 o_108) rfl rfl rfl rfl rfl (Nat.le_of_ble_eq_true rfl) (by decide) dX10_unlike_64 rfl ?_
  cases hf
  exact G.iret C Rt dX10_unlike_67
set_option maxRecDepth 100000 in
set_option maxHeartbeats 4000000 in
theorem w_X10_unlike_E {X : Gc} {ad : Nat → Nat} {res : (Int32 × Mem)} (C : Gk X ad cX10_unlike "NineTonguesModel" 3 7) (Rt : Gr X ad (some .int) (some (.int res.1)) res.2) (x1 : Int32) (x2 : Int32) (M : Mem) (hf : f_X10_unlike x1 x2 M = some res) : G X ad 0 3 [(0, .ref (ad 108)), (1, .int x1), (2, .int x2)] [] M := by
  unfold f_X10_unlike at hf
  refine G.aload_n (pl := 0) C dX10_unlike_0 rfl rfl ?_
  obtain ⟨v1, M1, hr1, hf⟩ := cl_some hf
  refine G.callV (st1 := [.int v1]) C [] [] (c_X10_goes hr1) mv_X10_goes k5_48 o_108.1 (fun _ => gShp_20 o_108) rfl rfl rfl rfl rfl (Nat.le_of_ble_eq_true rfl) (by decide) dX10_unlike_1 rfl ?_
  refine G.if_ne (tgt := 14) C dX10_unlike_4 (by decide) (fun hc1 => ?_) (fun hc1 => ?_)
  · replace hf := gIfn hf hc1
    refine G.iload_n (pl := 1) C dX10_unlike_14 rfl rfl ?_
    refine G.iconst (v := 0) C dX10_unlike_15 (by decide) ?_
    refine G.aload_n (pl := 0) C dX10_unlike_16 rfl rfl ?_
    refine gf10_14 C o_108 k4_111 dX10_unlike_17 ?_
    obtain ⟨v2, hr2, hf⟩ := cp_some hf
    refine G.callS (st1 := [.int v2]) C [.int x1, .int (0 : Int32), .int (M1.1 108 14)] [] (c_X10_between hr2) mv_X10_between k4_189 rfl rfl rfl (Nat.le_of_ble_eq_true rfl) (by decide) dX10_unlike_20 rfl ?_
    refine G.if_eq (tgt := 61) C dX10_unlike_23 (by decide) (fun hc2 => ?_) (fun hc2 => ?_)
    · replace hf := gIf hf hc2
      refine G.sub (lv' := [(0, .ref (ad 108))]) [0] rfl ?_
      exact w_X10_unlike_61 C Rt M1 hf
    · replace hf := gIfn hf hc2
      refine G.iload_n (pl := 2) C dX10_unlike_26 rfl rfl ?_
      refine G.iconst (v := 0) C dX10_unlike_27 (by decide) ?_
      refine G.aload_n (pl := 0) C dX10_unlike_28 rfl rfl ?_
      refine gf10_14 C o_108 k4_111 dX10_unlike_29 ?_
      obtain ⟨v3, hr3, hf⟩ := cp_some hf
      refine G.callS (st1 := [.int v3]) C [.int x2, .int (0 : Int32), .int (M1.1 108 14)] [] (c_X10_between hr3) mv_X10_between k4_189 rfl rfl rfl (Nat.le_of_ble_eq_true rfl) (by decide) dX10_unlike_32 rfl ?_
      refine G.if_eq (tgt := 61) C dX10_unlike_35 (by decide) (fun hc3 => ?_) (fun hc3 => ?_)
      · replace hf := gIf hf hc3
        refine G.sub (lv' := [(0, .ref (ad 108))]) [0] rfl ?_
        exact w_X10_unlike_61 C Rt M1 hf
      · replace hf := gIfn hf hc3
        refine G.aload_n (pl := 0) C dX10_unlike_38 rfl rfl ?_
        refine G.aload_n (pl := 0) C dX10_unlike_39 rfl rfl ?_
        refine gf10_18 C o_108 k4_115 dX10_unlike_40 ?_
        refine G.bipush (v := 16) C dX10_unlike_43 (by decide) ?_
        refine G.iload_n (pl := 1) C dX10_unlike_45 rfl rfl ?_
        refine G.imul C dX10_unlike_46 ?_
        refine G.aload_n (pl := 0) C dX10_unlike_47 rfl rfl ?_
        refine gf10_18 C o_108 k4_115 dX10_unlike_48 ?_
        refine G.bipush (v := 16) C dX10_unlike_51 (by decide) ?_
        refine G.iload_n (pl := 2) C dX10_unlike_53 rfl rfl ?_
        refine G.imul C dX10_unlike_54 ?_
        obtain ⟨v4, hr4, hf⟩ := cp_some hf
        refine G.callV (st1 := [.int v4]) C [.ref (ad 123), .int ((16 : Int32) * x1), .ref (ad 123), .int ((16 : Int32) * x2)] [] (c_X10_apart a_123 a_123 hr4) mv_X10_apart k5_72 o_108.1 (fun _ => gShp_20 o_108) rfl rfl rfl rfl rfl (Nat.le_of_ble_eq_true rfl) (by decide) dX10_unlike_55 rfl ?_
        refine G.goto (tgt := 67) C dX10_unlike_58 (by decide) ?_
        cases hf
        exact G.iret C Rt dX10_unlike_67
  · replace hf := gIf hf hc1
    refine G.aload_n (pl := 0) C dX10_unlike_7 rfl rfl ?_
    refine G.bipush (v := (-3)) C dX10_unlike_8 (by decide) ?_
    obtain ⟨v5, M2, hr5, hf⟩ := cl_some hf
    refine G.callV (st1 := [.int v5]) C [.int (-3 : Int32)] [] (c_X10_no hr5) mv_X10_no k5_40 o_108.1 (fun _ => gShp_20 o_108) rfl rfl rfl rfl rfl (Nat.le_of_ble_eq_true rfl) (by decide) dX10_unlike_10 rfl ?_
    cases hf
    exact G.iret C Rt dX10_unlike_13
theorem mv_X10_unlike : gMV yX10_unlike cX10_unlike 3 (some .int) 2 := ⟨k5_69, k5_70, k1_12, k5_71, ⟨by decide +kernel, by decide +kernel, by decide +kernel⟩, by decide⟩
theorem c_X10_unlike {res : (Int32 × Mem)} {x1 : Int32} {x2 : Int32} {M : Mem} (hf : f_X10_unlike x1 x2 M = some res) : Ct yX10_unlike cX10_unlike 3 (some .int) 7 (fun ad => [.ref (ad 108), .int x1, .int x2]) M (some (.int res.1)) res.2 :=
  Ct.of (by decide +kernel) (fun _ => Nat.le_of_ble_eq_true rfl) (fun X ad C Rt => w_X10_unlike_E C Rt x1 x2 M hf)
set_option maxRecDepth 100000 in
set_option maxHeartbeats 4000000 in
theorem w_X10_gone_40 {X : Gc} {ad : Nat → Nat} {res : (Int32 × Mem)} (C : Gk X ad cX10_gone "NineTonguesModel" 5 7) (Rt : Gr X ad (some .int) (some (.int res.1)) res.2) (M : Mem) (hf : f_X10_gone_40 M = some res) : G X ad 40 5 [(0, .ref (ad 108))] [] M := by
  unfold f_X10_gone_40 at hf
  refine G.aload_n (pl := 0) C dX10_gone_40 rfl rfl ?_
  refine G.bipush (v := (-2)) C dX10_gone_41 (by decide) ?_
  obtain ⟨v1, M1, hr1, hf⟩ := cl_some hf
  refine G.callV (st1 := [.int v1]) C [.int (-2 : Int32)] [] (c_X10_bad hr1) mv_X10_bad k4_192 o_108.1 (fun _ => gShp_20 o_108) rfl rfl rfl rfl rfl (Nat.le_of_ble_eq_true rfl) (by decide) dX10_gone_43 rfl ?_
  cases hf
  exact G.iret C Rt dX10_gone_46
set_option maxRecDepth 100000 in
set_option maxHeartbeats 4000000 in
theorem w_X10_gone_87 {X : Gc} {ad : Nat → Nat} {res : (Int32 × Mem)} {r_52 : Int32 → Int32 → Mem → Option (Int32 × Mem)} (C : Gk X ad cX10_gone "NineTonguesModel" 5 7) (Rt : Gr X ad (some .int) (some (.int res.1)) res.2) (x1 : Int32) (x2 : Int32) (x4 : Int32) (t0 : Int32) (M : Mem) (h_52 : ∀ (x3 : Int32) (x4 : Int32) (M : Mem), r_52 x3 x4 M = some res → G X ad 52 5 [(0, .ref (ad 108)), (1, .int x1), (2, .int x2), (3, .int x3), (4, .int x4)] [] M) (hf : f_X10_gone_87 r_52 x1 x2 x4 t0 M = some res) : G X ad 87 5 [(0, .ref (ad 108)), (1, .int x1), (2, .int x2), (4, .int x4)] [.int t0] M := by
  unfold f_X10_gone_87 at hf
  refine G.istore_n (lv' := [(3, .int t0), (0, .ref (ad 108)), (1, .int x1), (2, .int x2), (4, .int x4)]) C dX10_gone_87 rfl (by decide) rfl ?_
  refine G.iinc (pl := 4) (v := (x4 + 1)) (lv' := [(4, .int (x4 + 1)), (3, .int t0), (0, .ref (ad 108)), (1, .int x1), (2, .int x2)]) C dX10_gone_88 rfl rfl (by decide) rfl ?_
  refine G.goto (tgt := 52) C dX10_gone_91 (by decide) ?_
  refine G.sub (lv' := [(0, .ref (ad 108)), (1, .int x1), (2, .int x2), (3, .int t0), (4, .int (x4 + 1))]) [2, 3, 4, 1, 0] rfl ?_
  exact h_52 t0 (x4 + 1) M hf
set_option maxRecDepth 100000 in
set_option maxHeartbeats 4000000 in
theorem w_X10_gone_52_b {X : Gc} {ad : Nat → Nat} {res : (Int32 × Mem)} {r_52 : Int32 → Int32 → Mem → Option (Int32 × Mem)} (C : Gk X ad cX10_gone "NineTonguesModel" 5 7) (Rt : Gr X ad (some .int) (some (.int res.1)) res.2) (x1 : Int32) (x2 : Int32) (h_52 : ∀ (x3 : Int32) (x4 : Int32) (M : Mem), r_52 x3 x4 M = some res → G X ad 52 5 [(0, .ref (ad 108)), (1, .int x1), (2, .int x2), (3, .int x3), (4, .int x4)] [] M) (x3 : Int32) (x4 : Int32) (M : Mem) (hf : f_X10_gone_52_b r_52 x1 x2 x3 x4 M = some res) : G X ad 52 5 [(0, .ref (ad 108)), (1, .int x1), (2, .int x2), (3, .int x3), (4, .int x4)] [] M := by
  unfold f_X10_gone_52_b at hf
  refine G.iload (pl := 4) C dX10_gone_52 rfl ?_
  refine G.aload_n (pl := 0) C dX10_gone_54 rfl rfl ?_
  refine gf10_14 C o_108 k4_111 dX10_gone_55 ?_
  refine G.icmp_gt (tgt := 94) C dX10_gone_58 (by decide) (fun hc1 => ?_) (fun hc1 => ?_)
  · replace hf := gIf hf hc1
    refine G.iload_n (pl := 3) C dX10_gone_94 rfl rfl ?_
    refine G.if_ge (tgt := 102) C dX10_gone_95 (by decide) (fun hc2 => ?_) (fun hc2 => ?_)
    · replace hf := gIf hf hc2
      refine G.iload_n (pl := 3) C dX10_gone_102 rfl rfl ?_
      refine G.aload_n (pl := 0) C dX10_gone_103 rfl rfl ?_
      refine gf10_14 C o_108 k4_111 dX10_gone_104 ?_
      refine G.icmp_ne (tgt := 114) C dX10_gone_107 (by decide) (fun hc3 => ?_) (fun hc3 => ?_)
      · replace hf := gIfn hf hc3
        refine G.iload_n (pl := 3) C dX10_gone_114 rfl rfl ?_
        refine G.iconst (v := 1) C dX10_gone_115 (by decide) ?_
        refine G.iadd C dX10_gone_116 ?_
        cases hf
        exact G.iret C Rt dX10_gone_117
      · replace hf := gIf hf hc3
        refine G.iconst (v := (-1)) C dX10_gone_110 (by decide) ?_
        refine G.goto (tgt := 117) C dX10_gone_111 (by decide) ?_
        cases hf
        exact G.iret C Rt dX10_gone_117
    · replace hf := gIfn hf hc2
      refine G.iconst (v := 0) C dX10_gone_98 (by decide) ?_
      refine G.goto (tgt := 117) C dX10_gone_99 (by decide) ?_
      cases hf
      exact G.iret C Rt dX10_gone_117
  · replace hf := gIfn hf hc1
    refine G.aload_n (pl := 0) C dX10_gone_61 rfl rfl ?_
    refine gf10_18 C o_108 k4_115 dX10_gone_62 ?_
    refine G.bipush (v := 16) C dX10_gone_65 (by decide) ?_
    refine G.iload (pl := 4) C dX10_gone_67 rfl ?_
    refine G.imul C dX10_gone_69 ?_
    refine G.iload_n (pl := 1) C dX10_gone_70 rfl rfl ?_
    refine G.iadd C dX10_gone_71 ?_
    obtain ⟨v1, ev1, hi1, hf⟩ := rd_some hf
    refine G.iald C a_123 hi1 ev1 dX10_gone_72 ?_
    refine G.iload_n (pl := 2) C dX10_gone_73 rfl rfl ?_
    refine G.ishr C dX10_gone_74 ?_
    refine G.iconst (v := 1) C dX10_gone_75 (by decide) ?_
    refine G.iand C dX10_gone_76 ?_
    refine G.iconst (v := 1) C dX10_gone_77 (by decide) ?_
    refine G.icmp_ne (tgt := 86) C dX10_gone_78 (by decide) (fun hc4 => ?_) (fun hc4 => ?_)
    · replace hf := gIfn hf hc4
      refine G.iload_n (pl := 3) C dX10_gone_86 rfl rfl ?_
      refine G.sub (lv' := [(0, .ref (ad 108)), (1, .int x1), (2, .int x2), (4, .int x4)]) [0, 1, 2, 4] rfl ?_
      exact w_X10_gone_87 C Rt x1 x2 x4 x3 M h_52 hf
    · replace hf := gIf hf hc4
      refine G.iload (pl := 4) C dX10_gone_81 rfl ?_
      refine G.goto (tgt := 87) C dX10_gone_83 (by decide) ?_
      refine G.sub (lv' := [(0, .ref (ad 108)), (1, .int x1), (2, .int x2), (4, .int x4)]) [0, 1, 2, 4] rfl ?_
      exact w_X10_gone_87 C Rt x1 x2 x4 x4 M h_52 hf
theorem w_X10_gone_52 {X : Gc} {ad : Nat → Nat} {res : (Int32 × Mem)} (C : Gk X ad cX10_gone "NineTonguesModel" 5 7) (Rt : Gr X ad (some .int) (some (.int res.1)) res.2) (x1 : Int32) (x2 : Int32) : ∀ (n : Nat) (x3 : Int32) (x4 : Int32) (M : Mem), f_X10_gone_52 x1 x2 n x3 x4 M = some res → G X ad 52 5 [(0, .ref (ad 108)), (1, .int x1), (2, .int x2), (3, .int x3), (4, .int x4)] [] M := by
  intro n
  induction n with
  | zero => intro x3 x4 M hf; exact absurd (show (none : Option (Int32 × Mem)) = some res from hf) (fun h => nomatch h)
  | succ n ih => intro x3 x4 M hf; exact w_X10_gone_52_b C Rt x1 x2 ih x3 x4 M hf
set_option maxRecDepth 100000 in
set_option maxHeartbeats 4000000 in
theorem w_X10_gone_E {X : Gc} {ad : Nat → Nat} {res : (Int32 × Mem)} (C : Gk X ad cX10_gone "NineTonguesModel" 5 7) (Rt : Gr X ad (some .int) (some (.int res.1)) res.2) (x1 : Int32) (x2 : Int32) (M : Mem) (hf : f_X10_gone x1 x2 M = some res) : G X ad 0 5 [(0, .ref (ad 108)), (1, .int x1), (2, .int x2)] [] M := by
  unfold f_X10_gone at hf
  refine G.aload_n (pl := 0) C dX10_gone_0 rfl rfl ?_
  obtain ⟨v1, M1, hr1, hf⟩ := cl_some hf
  refine G.callV (st1 := [.int v1]) C [] [] (c_X10_goes hr1) mv_X10_goes k5_48 o_108.1 (fun _ => gShp_20 o_108) rfl rfl rfl rfl rfl (Nat.le_of_ble_eq_true rfl) (by decide) dX10_gone_1 rfl ?_
  refine G.if_ne (tgt := 14) C dX10_gone_4 (by decide) (fun hc1 => ?_) (fun hc1 => ?_)
  · replace hf := gIfn hf hc1
    refine G.iload_n (pl := 1) C dX10_gone_14 rfl rfl ?_
    refine G.iconst (v := 0) C dX10_gone_15 (by decide) ?_
    refine G.aload_n (pl := 0) C dX10_gone_16 rfl rfl ?_
    refine gf10_1 C o_108 k4_98 dX10_gone_17 ?_
    refine G.iconst (v := 0) C dX10_gone_20 (by decide) ?_
    refine G.iald (v := (M1.1 110 0)) C a_110 (vp_inC (by decide)) rfl dX10_gone_21 ?_
    refine G.iconst (v := 1) C dX10_gone_22 (by decide) ?_
    refine G.isub C dX10_gone_23 ?_
    obtain ⟨v2, hr2, hf⟩ := cp_some hf
    refine G.callS (st1 := [.int v2]) C [.int x1, .int (0 : Int32), .int ((M1.1 110 0) - (1 : Int32))] [] (c_X10_between hr2) mv_X10_between k4_189 rfl rfl rfl (Nat.le_of_ble_eq_true rfl) (by decide) dX10_gone_24 rfl ?_
    refine G.if_eq (tgt := 40) C dX10_gone_27 (by decide) (fun hc2 => ?_) (fun hc2 => ?_)
    · replace hf := gIf hf hc2
      refine G.sub (lv' := [(0, .ref (ad 108))]) [0] rfl ?_
      exact w_X10_gone_40 C Rt M1 hf
    · replace hf := gIfn hf hc2
      refine G.iload_n (pl := 2) C dX10_gone_30 rfl rfl ?_
      refine G.iconst (v := 0) C dX10_gone_31 (by decide) ?_
      refine G.bipush (v := 7) C dX10_gone_32 (by decide) ?_
      obtain ⟨v3, hr3, hf⟩ := cp_some hf
      refine G.callS (st1 := [.int v3]) C [.int x2, .int (0 : Int32), .int (7 : Int32)] [] (c_X10_between hr3) mv_X10_between k4_189 rfl rfl rfl (Nat.le_of_ble_eq_true rfl) (by decide) dX10_gone_34 rfl ?_
      refine G.if_ne (tgt := 47) C dX10_gone_37 (by decide) (fun hc3 => ?_) (fun hc3 => ?_)
      · replace hf := gIfn hf hc3
        refine G.iconst (v := (-1)) C dX10_gone_47 (by decide) ?_
        refine G.istore_n (lv' := [(3, .int (-1 : Int32)), (0, .ref (ad 108)), (1, .int x1), (2, .int x2)]) C dX10_gone_48 rfl (by decide) rfl ?_
        refine G.iconst (v := 0) C dX10_gone_49 (by decide) ?_
        refine G.istore (lv' := [(4, .int (0 : Int32)), (3, .int (-1 : Int32)), (0, .ref (ad 108)), (1, .int x1), (2, .int x2)]) C dX10_gone_50 (by decide) rfl ?_
        refine G.sub (lv' := [(0, .ref (ad 108)), (1, .int x1), (2, .int x2), (3, .int (-1 : Int32)), (4, .int (0 : Int32))]) [2, 3, 4, 1, 0] rfl ?_
        exact w_X10_gone_52 C Rt x1 x2 FU (-1 : Int32) (0 : Int32) M1 hf
      · replace hf := gIf hf hc3
        refine G.sub (lv' := [(0, .ref (ad 108))]) [0] rfl ?_
        exact w_X10_gone_40 C Rt M1 hf
  · replace hf := gIf hf hc1
    refine G.aload_n (pl := 0) C dX10_gone_7 rfl rfl ?_
    refine G.bipush (v := (-3)) C dX10_gone_8 (by decide) ?_
    obtain ⟨v4, M2, hr4, hf⟩ := cl_some hf
    refine G.callV (st1 := [.int v4]) C [.int (-3 : Int32)] [] (c_X10_no hr4) mv_X10_no k5_40 o_108.1 (fun _ => gShp_20 o_108) rfl rfl rfl rfl rfl (Nat.le_of_ble_eq_true rfl) (by decide) dX10_gone_10 rfl ?_
    cases hf
    exact G.iret C Rt dX10_gone_13
theorem mv_X10_gone : gMV yX10_gone cX10_gone 5 (some .int) 2 := ⟨k5_77, k5_78, k1_12, k5_79, ⟨by decide +kernel, by decide +kernel, by decide +kernel⟩, by decide⟩
theorem c_X10_gone {res : (Int32 × Mem)} {x1 : Int32} {x2 : Int32} {M : Mem} (hf : f_X10_gone x1 x2 M = some res) : Ct yX10_gone cX10_gone 5 (some .int) 7 (fun ad => [.ref (ad 108), .int x1, .int x2]) M (some (.int res.1)) res.2 :=
  Ct.of (by decide +kernel) (fun _ => Nat.le_of_ble_eq_true rfl) (fun X ad C Rt => w_X10_gone_E C Rt x1 x2 M hf)
set_option maxRecDepth 100000 in
set_option maxHeartbeats 4000000 in
theorem w_X10_isKind_E {X : Gc} {ad : Nat → Nat} {res : Int32} {M : Mem} (C : Gk X ad cX10_isKind "NineTonguesModel" 1 2) (Rt : Gr X ad (some .boolean) (some (.int res)) M) (x0 : Int32) (hf : f_X10_isKind x0 M = some res) : G X ad 0 1 [(0, .int x0)] [] M := by
  unfold f_X10_isKind at hf
  refine G.iload_n (pl := 0) C dX10_isKind_0 rfl rfl ?_
  refine G.iconst (v := 0) C dX10_isKind_1 (by decide) ?_
  refine G.iconst (v := 5) C dX10_isKind_2 (by decide) ?_
  obtain ⟨v1, hr1, hf⟩ := cp_some hf
  refine G.callS (st1 := [.int v1]) C [.int x0, .int (0 : Int32), .int (5 : Int32)] [] (c_X10_between hr1) mv_X10_between k4_189 rfl rfl rfl (Nat.le_of_ble_eq_true rfl) (by decide) dX10_isKind_3 rfl ?_
  obtain ⟨hz, hf⟩ := rz_some hf
  cases hf
  exact G.zret C hz Rt dX10_isKind_6
theorem mv_X10_isKind : gMS yX10_isKind cX10_isKind 1 (some .boolean) 1 := ⟨k5_85, k1_12, k5_86, ⟨by decide +kernel, by decide +kernel, by decide +kernel⟩, by decide⟩
theorem c_X10_isKind {res : Int32} {x0 : Int32} {M : Mem} (hf : f_X10_isKind x0 M = some res) : Ct yX10_isKind cX10_isKind 1 (some .boolean) 2 (fun ad => [.int x0]) M (some (.int res)) M :=
  Ct.of (by decide +kernel) (fun _ => Nat.le_of_ble_eq_true rfl) (fun X ad C Rt => w_X10_isKind_E C Rt x0 hf)
