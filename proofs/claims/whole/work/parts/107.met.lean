set_option maxRecDepth 100000 in
set_option maxHeartbeats 4000000 in
theorem w_X10_form_18 {X : Gc} {ad : Nat → Nat} {res : (Int32 × Mem)} (C : Gk X ad cX10_form "NineTonguesModel" 4 2) (Rt : Gr X ad (some .int) (some (.int res.1)) res.2) (M : Mem) (hf : f_X10_form_18 M = some res) : G X ad 18 4 [(0, .ref (ad 108))] [] M := by
  unfold f_X10_form_18 at hf
  refine G.aload_n (pl := 0) C dX10_form_18 rfl rfl ?_
  refine G.bipush (v := (-10)) C dX10_form_19 (by decide) ?_
  obtain ⟨v1, M1, hr1, hf⟩ := cl_some hf
  refine G.callV (st1 := [.int v1]) C [.int (-10 : Int32)] [] (c_X10_bad hr1) mv_X10_bad k4_192 o_108.1 (fun _ => gShp_20 o_108) rfl rfl rfl rfl rfl (Nat.le_of_ble_eq_true rfl) (by decide) dX10_form_21 rfl ?_
  cases hf
  exact G.iret C Rt dX10_form_24
set_option maxRecDepth 100000 in
set_option maxHeartbeats 4000000 in
theorem w_X10_form_E {X : Gc} {ad : Nat → Nat} {res : (Int32 × Mem)} (C : Gk X ad cX10_form "NineTonguesModel" 4 2) (Rt : Gr X ad (some .int) (some (.int res.1)) res.2) (x1 : Int32) (x2 : Int32) (M : Mem) (hf : f_X10_form x1 x2 M = some res) : G X ad 0 4 [(0, .ref (ad 108)), (1, .int x1), (2, .int x2)] [] M := by
  unfold f_X10_form at hf
  refine G.iload_n (pl := 1) C dX10_form_0 rfl rfl ?_
  refine G.iconst (v := 0) C dX10_form_1 (by decide) ?_
  refine G.iconst (v := 3) C dX10_form_2 (by decide) ?_
  obtain ⟨v1, hr1, hf⟩ := cp_some hf
  refine G.callS (st1 := [.int v1]) C [.int x1, .int (0 : Int32), .int (3 : Int32)] [] (c_X10_between hr1) mv_X10_between k4_189 rfl rfl rfl (Nat.le_of_ble_eq_true rfl) (by decide) dX10_form_3 rfl ?_
  refine G.if_eq (tgt := 18) C dX10_form_6 (by decide) (fun hc1 => ?_) (fun hc1 => ?_)
  · replace hf := gIf hf hc1
    refine G.sub (lv' := [(0, .ref (ad 108))]) [0] rfl ?_
    exact w_X10_form_18 C Rt M hf
  · replace hf := gIfn hf hc1
    refine G.iload_n (pl := 2) C dX10_form_9 rfl rfl ?_
    refine G.iconst (v := (-1)) C dX10_form_10 (by decide) ?_
    refine G.iconst (v := 1) C dX10_form_11 (by decide) ?_
    obtain ⟨v2, hr2, hf⟩ := cp_some hf
    refine G.callS (st1 := [.int v2]) C [.int x2, .int (-1 : Int32), .int (1 : Int32)] [] (c_X10_between hr2) mv_X10_between k4_189 rfl rfl rfl (Nat.le_of_ble_eq_true rfl) (by decide) dX10_form_12 rfl ?_
    refine G.if_ne (tgt := 25) C dX10_form_15 (by decide) (fun hc2 => ?_) (fun hc2 => ?_)
    · replace hf := gIfn hf hc2
      refine G.aload_n (pl := 0) C dX10_form_25 rfl rfl ?_
      refine gf10_8 C o_108 k4_105 dX10_form_26 ?_
      refine G.bipush (v := 12) C dX10_form_29 (by decide) ?_
      refine G.iload_n (pl := 1) C dX10_form_31 rfl rfl ?_
      refine G.iadd C dX10_form_32 ?_
      obtain ⟨v3, ev1, hi1, hf⟩ := rd_some hf
      refine G.iald C a_117 hi1 ev1 dX10_form_33 ?_
      refine G.istore_n (lv' := [(3, .int v3), (0, .ref (ad 108)), (1, .int x1), (2, .int x2)]) C dX10_form_34 rfl (by decide) rfl ?_
      refine G.aload_n (pl := 1) C dX10_form_35 rfl rfl ?_
      refine gf10_8 C o_108 k4_105 dX10_form_36 ?_
      refine G.bipush (v := 12) C dX10_form_39 (by decide) ?_
      refine G.iload_n (pl := 2) C dX10_form_41 rfl rfl ?_
      refine G.iadd C dX10_form_42 ?_
      refine G.iload_n (pl := 3) C dX10_form_43 rfl rfl ?_
      obtain ⟨hi2, hf⟩ := ck_some hf
      obtain ⟨M1, eM1, hf⟩ := stm_some hf
      refine G.iast C a_117 hi2 eM1 dX10_form_44 ?_
      refine G.iload_n (pl := 0) C dX10_form_45 rfl rfl ?_
      cases hf
      exact G.iret C Rt dX10_form_46
    · replace hf := gIf hf hc2
      refine G.sub (lv' := [(0, .ref (ad 108))]) [0] rfl ?_
      exact w_X10_form_18 C Rt M hf
theorem mv_X10_form : gMV yX10_form cX10_form 4 (some .int) 2 := ⟨k4_217, k4_218, k1_12, k4_219, ⟨by decide +kernel, by decide +kernel, by decide +kernel⟩, by decide⟩
theorem c_X10_form {res : (Int32 × Mem)} {x1 : Int32} {x2 : Int32} {M : Mem} (hf : f_X10_form x1 x2 M = some res) : Ct yX10_form cX10_form 4 (some .int) 2 (fun ad => [.ref (ad 108), .int x1, .int x2]) M (some (.int res.1)) res.2 :=
  Ct.of (by decide +kernel) (fun _ => Nat.le_of_ble_eq_true rfl) (fun X ad C Rt => w_X10_form_E C Rt x1 x2 M hf)
set_option maxRecDepth 100000 in
set_option maxHeartbeats 4000000 in
theorem w_X10_hush_38 {X : Gc} {ad : Nat → Nat} {res : (Int32 × Mem)} {r_16 : Int32 → Mem → Option (Int32 × Mem)} (C : Gk X ad cX10_hush "NineTonguesModel" 3 1) (Rt : Gr X ad (some .int) (some (.int res.1)) res.2) (x1 : Int32) (x2 : Int32) (t2 : Int32) (t1 : Int32) (M : Mem) (h_16 : ∀ (x2 : Int32) (M : Mem), r_16 x2 M = some res → G X ad 16 3 [(0, .ref (ad 108)), (1, .int x1), (2, .int x2)] [] M) (hf : f_X10_hush_38 r_16 x1 x2 t2 t1 M = some res) : G X ad 38 3 [(0, .ref (ad 108)), (1, .int x1), (2, .int x2)] [.int t2, .int t1, .ref (ad 117)] M := by
  unfold f_X10_hush_38 at hf
  obtain ⟨hi1, hf⟩ := ck_some hf
  obtain ⟨M1, eM1, hf⟩ := stm_some hf
  refine G.iast C a_117 hi1 eM1 dX10_hush_38 ?_
  refine G.iinc (pl := 2) (v := (x2 + 1)) (lv' := [(2, .int (x2 + 1)), (0, .ref (ad 108)), (1, .int x1)]) C dX10_hush_39 rfl rfl (by decide) rfl ?_
  refine G.goto (tgt := 16) C dX10_hush_42 (by decide) ?_
  refine G.sub (lv' := [(0, .ref (ad 108)), (1, .int x1), (2, .int (x2 + 1))]) [1, 2, 0] rfl ?_
  exact h_16 (x2 + 1) M1 hf
set_option maxRecDepth 100000 in
set_option maxHeartbeats 4000000 in
theorem w_X10_hush_16_b {X : Gc} {ad : Nat → Nat} {res : (Int32 × Mem)} {r_16 : Int32 → Mem → Option (Int32 × Mem)} (C : Gk X ad cX10_hush "NineTonguesModel" 3 1) (Rt : Gr X ad (some .int) (some (.int res.1)) res.2) (x1 : Int32) (h_16 : ∀ (x2 : Int32) (M : Mem), r_16 x2 M = some res → G X ad 16 3 [(0, .ref (ad 108)), (1, .int x1), (2, .int x2)] [] M) (x2 : Int32) (M : Mem) (hf : f_X10_hush_16_b r_16 x1 x2 M = some res) : G X ad 16 3 [(0, .ref (ad 108)), (1, .int x1), (2, .int x2)] [] M := by
  unfold f_X10_hush_16_b at hf
  refine G.iload_n (pl := 2) C dX10_hush_16 rfl rfl ?_
  refine G.bipush (v := 16) C dX10_hush_17 (by decide) ?_
  refine G.icmp_ge (tgt := 45) C dX10_hush_19 (by decide) (fun hc1 => ?_) (fun hc1 => ?_)
  · replace hf := gIf hf hc1
    refine G.iload_n (pl := 1) C dX10_hush_45 rfl rfl ?_
    cases hf
    exact G.iret C Rt dX10_hush_46
  · replace hf := gIfn hf hc1
    refine G.aload_n (pl := 0) C dX10_hush_22 rfl rfl ?_
    refine gf10_8 C o_108 k4_105 dX10_hush_23 ?_
    refine G.iload_n (pl := 2) C dX10_hush_26 rfl rfl ?_
    refine G.iload_n (pl := 2) C dX10_hush_27 rfl rfl ?_
    refine G.bipush (v := 6) C dX10_hush_28 (by decide) ?_
    refine G.icmp_ge (tgt := 37) C dX10_hush_30 (by decide) (fun hc2 => ?_) (fun hc2 => ?_)
    · replace hf := gIf hf hc2
      refine G.iconst (v := (-1)) C dX10_hush_37 (by decide) ?_
      exact w_X10_hush_38 C Rt x1 x2 (-1 : Int32) x2 M h_16 hf
    · replace hf := gIfn hf hc2
      refine G.iconst (v := 0) C dX10_hush_33 (by decide) ?_
      refine G.goto (tgt := 38) C dX10_hush_34 (by decide) ?_
      exact w_X10_hush_38 C Rt x1 x2 (0 : Int32) x2 M h_16 hf
theorem w_X10_hush_16 {X : Gc} {ad : Nat → Nat} {res : (Int32 × Mem)} (C : Gk X ad cX10_hush "NineTonguesModel" 3 1) (Rt : Gr X ad (some .int) (some (.int res.1)) res.2) (x1 : Int32) : ∀ (n : Nat) (x2 : Int32) (M : Mem), f_X10_hush_16 x1 n x2 M = some res → G X ad 16 3 [(0, .ref (ad 108)), (1, .int x1), (2, .int x2)] [] M := by
  intro n
  induction n with
  | zero => intro x2 M hf; exact absurd (show (none : Option (Int32 × Mem)) = some res from hf) (fun h => nomatch h)
  | succ n ih => intro x2 M hf; exact w_X10_hush_16_b C Rt x1 ih x2 M hf
set_option maxRecDepth 100000 in
set_option maxHeartbeats 4000000 in
theorem w_X10_hush_E {X : Gc} {ad : Nat → Nat} {res : (Int32 × Mem)} (C : Gk X ad cX10_hush "NineTonguesModel" 3 1) (Rt : Gr X ad (some .int) (some (.int res.1)) res.2) (M : Mem) (hf : f_X10_hush M = some res) : G X ad 0 3 [(0, .ref (ad 108))] [] M := by
  unfold f_X10_hush at hf
  refine G.aload_n (pl := 0) C dX10_hush_0 rfl rfl ?_
  refine gf10_1 C o_108 k4_98 dX10_hush_1 ?_
  refine G.iconst (v := 0) C dX10_hush_4 (by decide) ?_
  refine G.iald (v := (M.1 110 0)) C a_110 (vp_inC (by decide)) rfl dX10_hush_5 ?_
  refine G.istore_n (lv' := [(1, .int (M.1 110 0)), (0, .ref (ad 108))]) C dX10_hush_6 rfl (by decide) rfl ?_
  refine G.aload_n (pl := 1) C dX10_hush_7 rfl rfl ?_
  refine gf10_1 C o_108 k4_98 dX10_hush_8 ?_
  refine G.iconst (v := 0) C dX10_hush_11 (by decide) ?_
  refine G.iconst (v := 0) C dX10_hush_12 (by decide) ?_
  obtain ⟨M1, eM1, hf⟩ := stm_some hf
  refine G.iast C a_110 (vp_inC (by decide)) eM1 dX10_hush_13 ?_
  refine G.iconst (v := 0) C dX10_hush_14 (by decide) ?_
  refine G.istore_n (lv' := [(2, .int (0 : Int32)), (1, .int (M.1 110 0)), (0, .ref (ad 108))]) C dX10_hush_15 rfl (by decide) rfl ?_
  refine G.sub (lv' := [(0, .ref (ad 108)), (1, .int (M.1 110 0)), (2, .int (0 : Int32))]) [2, 1, 0] rfl ?_
  exact w_X10_hush_16 C Rt (M.1 110 0) FU (0 : Int32) M1 hf
theorem mv_X10_hush : gMV yX10_hush cX10_hush 3 (some .int) 0 := ⟨k4_221, k4_222, k1_12, k4_223, ⟨by decide +kernel, by decide +kernel, by decide +kernel⟩, by decide⟩
theorem c_X10_hush {res : (Int32 × Mem)} {M : Mem} (hf : f_X10_hush M = some res) : Ct yX10_hush cX10_hush 3 (some .int) 1 (fun ad => [.ref (ad 108)]) M (some (.int res.1)) res.2 :=
  Ct.of (by decide +kernel) (fun _ => Nat.le_of_ble_eq_true rfl) (fun X ad C Rt => w_X10_hush_E C Rt M hf)
set_option maxRecDepth 100000 in
set_option maxHeartbeats 4000000 in
theorem w_X10_costs_182 {X : Gc} {ad : Nat → Nat} {res : Int32} {M : Mem} (C : Gk X ad cX10_costs "NineTonguesModel" 9 2) (Rt : Gr X ad (some .int) (some (.int res)) M) (t1 : Int32) (t0 : Int32) (hf : f_X10_costs_182 M t1 t0 = some res) : G X ad 182 9 [] [.int t1, .int t0] M := by
  unfold f_X10_costs_182 at hf
  refine G.iadd C dX10_costs_182 ?_
  cases hf
  exact G.iret C Rt dX10_costs_183
set_option maxRecDepth 100000 in
set_option maxHeartbeats 4000000 in
theorem w_X10_costs_199 {X : Gc} {ad : Nat → Nat} {res : Int32} {M : Mem} (C : Gk X ad cX10_costs "NineTonguesModel" 9 2) (Rt : Gr X ad (some .int) (some (.int res)) M) (t1 : Int32) (t0 : Int32) (hf : f_X10_costs_199 M t1 t0 = some res) : G X ad 199 9 [] [.int t1, .int t0] M := by
  unfold f_X10_costs_199 at hf
  refine G.iadd C dX10_costs_199 ?_
  cases hf
  exact G.iret C Rt dX10_costs_200
set_option maxRecDepth 100000 in
set_option maxHeartbeats 4000000 in
theorem w_X10_costs_74 {X : Gc} {ad : Nat → Nat} {res : Int32} {M : Mem} (C : Gk X ad cX10_costs "NineTonguesModel" 9 2) (Rt : Gr X ad (some .int) (some (.int res)) M) (x1 : Int32) (x4 : Int32) (x5 : Int32) (x6 : Int32) (x7 : Int32) (t0 : Int32) (hf : f_X10_costs_74 M x1 x4 x5 x6 x7 t0 = some res) : G X ad 74 9 [(0, .ref (ad 108)), (1, .int x1), (4, .int x4), (5, .int x5), (6, .int x6), (7, .int x7)] [.int t0] M := by
  unfold f_X10_costs_74 at hf
  refine G.istore (lv' := [(8, .int t0), (0, .ref (ad 108)), (1, .int x1), (4, .int x4), (5, .int x5), (6, .int x6), (7, .int x7)]) C dX10_costs_74 (by decide) rfl ?_
  refine G.iload_n (pl := 2) C dX10_costs_76 rfl rfl ?_
  by_cases hs1 : x1 = 0
  · replace hf := gIf hf hs1
    refine G.tableIn (tgt := 112) (off := 35) C dX10_costs_77 (by rw [hs1]; decide) (by rw [hs1]; decide) (by rw [hs1]; rfl) (by decide) ?_
    refine G.iload (pl := 6) C dX10_costs_112 rfl ?_
    cases hf
    exact G.iret C Rt dX10_costs_114
  · replace hf := gIfn hf hs1
    by_cases hs2 : x1 = 1
    · replace hf := gIf hf hs2
      refine G.tableIn (tgt := 115) (off := 38) C dX10_costs_77 (by rw [hs2]; decide) (by rw [hs2]; decide) (by rw [hs2]; rfl) (by decide) ?_
      refine G.iload (pl := 6) C dX10_costs_115 rfl ?_
      refine G.aload_n (pl := 1) C dX10_costs_117 rfl rfl ?_
      refine gf10_9 C o_108 k4_106 dX10_costs_118 ?_
      refine G.bipush (v := 11) C dX10_costs_121 (by decide) ?_
      refine G.iald (v := (M.1 118 11)) C a_118 (vp_inC (by decide)) rfl dX10_costs_123 ?_
      refine G.iload (pl := 5) C dX10_costs_124 rfl ?_
      refine G.imul C dX10_costs_126 ?_
      refine G.iadd C dX10_costs_127 ?_
      cases hf
      exact G.iret C Rt dX10_costs_128
    · replace hf := gIfn hf hs2
      by_cases hs3 : x1 = 2
      · replace hf := gIf hf hs3
        refine G.tableIn (tgt := 129) (off := 52) C dX10_costs_77 (by rw [hs3]; decide) (by rw [hs3]; decide) (by rw [hs3]; rfl) (by decide) ?_
        refine G.iload (pl := 6) C dX10_costs_129 rfl ?_
        refine G.aload_n (pl := 1) C dX10_costs_131 rfl rfl ?_
        refine gf10_9 C o_108 k4_106 dX10_costs_132 ?_
        refine G.bipush (v := 10) C dX10_costs_135 (by decide) ?_
        refine G.iald (v := (M.1 118 10)) C a_118 (vp_inC (by decide)) rfl dX10_costs_137 ?_
        refine G.iload (pl := 4) C dX10_costs_138 rfl ?_
        refine G.imul C dX10_costs_140 ?_
        refine G.iadd C dX10_costs_141 ?_
        cases hf
        exact G.iret C Rt dX10_costs_142
      · replace hf := gIfn hf hs3
        by_cases hs4 : x1 = 3
        · replace hf := gIf hf hs4
          refine G.tableIn (tgt := 143) (off := 66) C dX10_costs_77 (by rw [hs4]; decide) (by rw [hs4]; decide) (by rw [hs4]; rfl) (by decide) ?_
          refine G.iload (pl := 6) C dX10_costs_143 rfl ?_
          refine G.aload_n (pl := 1) C dX10_costs_145 rfl rfl ?_
          refine gf10_5 C o_108 k4_102 dX10_costs_146 ?_
          refine G.iload (pl := 3) C dX10_costs_149 rfl ?_
          refine G.iconst (v := 2) C dX10_costs_151 (by decide) ?_
          refine G.iadd C dX10_costs_152 ?_
          obtain ⟨v1, ev1, hi1, hf⟩ := rd_some hf
          refine G.iald C a_114 hi1 ev1 dX10_costs_153 ?_
          refine G.isub C dX10_costs_154 ?_
          cases hf
          exact G.iret C Rt dX10_costs_155
        · replace hf := gIfn hf hs4
          by_cases hs5 : x1 = 4
          · replace hf := gIf hf hs5
            refine G.tableIn (tgt := 156) (off := 79) C dX10_costs_77 (by rw [hs5]; decide) (by rw [hs5]; decide) (by rw [hs5]; rfl) (by decide) ?_
            refine G.iload (pl := 6) C dX10_costs_156 rfl ?_
            refine G.aload_n (pl := 1) C dX10_costs_158 rfl rfl ?_
            refine gf10_9 C o_108 k4_106 dX10_costs_159 ?_
            refine G.bipush (v := 11) C dX10_costs_162 (by decide) ?_
            refine G.iald (v := (M.1 118 11)) C a_118 (vp_inC (by decide)) rfl dX10_costs_164 ?_
            refine G.iload (pl := 5) C dX10_costs_165 rfl ?_
            refine G.imul C dX10_costs_167 ?_
            refine G.iadd C dX10_costs_168 ?_
            refine G.iload (pl := 0) C dX10_costs_169 rfl ?_
            refine G.if_ge (tgt := 180) C dX10_costs_171 (by decide) (fun hc1 => ?_) (fun hc1 => ?_)
            · replace hf := gIf hf hc1
              refine G.iload (pl := 0) C dX10_costs_180 rfl ?_
              refine G.sub (lv' := []) [] rfl ?_
              exact w_X10_costs_182 C Rt t0 (x7 + ((M.1 118 11) * x6)) hf
            · replace hf := gIfn hf hc1
              refine G.iload (pl := 0) C dX10_costs_174 rfl ?_
              refine G.ineg C dX10_costs_176 ?_
              refine G.goto (tgt := 182) C dX10_costs_177 (by decide) ?_
              refine G.sub (lv' := []) [] rfl ?_
              exact w_X10_costs_182 C Rt (-t0) (x7 + ((M.1 118 11) * x6)) hf
          · replace hf := gIfn hf hs5
            refine G.tableOut (tgt := 184) C dX10_costs_77 (gSw (n := 5) (fun k hk => by match k, hk with | 0, _ => exact hs1 | 1, _ => exact hs2 | 2, _ => exact hs3 | 3, _ => exact hs4 | 4, _ => exact hs5 | k + 5, hk => exact absurd hk (by omega)) (by decide)) (by decide) ?_
            refine G.iload (pl := 6) C dX10_costs_184 rfl ?_
            refine G.iload (pl := 4) C dX10_costs_186 rfl ?_
            refine G.iload (pl := 5) C dX10_costs_188 rfl ?_
            refine G.iadd C dX10_costs_190 ?_
            refine G.if_le (tgt := 198) C dX10_costs_191 (by decide) (fun hc2 => ?_) (fun hc2 => ?_)
            · replace hf := gIf hf hc2
              refine G.iconst (v := 0) C dX10_costs_198 (by decide) ?_
              refine G.sub (lv' := []) [] rfl ?_
              exact w_X10_costs_199 C Rt (0 : Int32) x7 hf
            · replace hf := gIfn hf hc2
              refine G.iconst (v := 5) C dX10_costs_194 (by decide) ?_
              refine G.goto (tgt := 199) C dX10_costs_195 (by decide) ?_
              refine G.sub (lv' := []) [] rfl ?_
              exact w_X10_costs_199 C Rt (5 : Int32) x7 hf
set_option maxRecDepth 100000 in
set_option maxHeartbeats 4000000 in
theorem w_X10_costs_E {X : Gc} {ad : Nat → Nat} {res : Int32} {M : Mem} (C : Gk X ad cX10_costs "NineTonguesModel" 9 2) (Rt : Gr X ad (some .int) (some (.int res)) M) (x1 : Int32) (x2 : Int32) (x3 : Int32) (x4 : Int32) (hf : f_X10_costs x1 x2 x3 x4 M = some res) : G X ad 0 9 [(0, .ref (ad 108)), (1, .int x1), (2, .int x2), (3, .int x3), (4, .int x4)] [] M := by
  unfold f_X10_costs at hf
  refine G.iload_n (pl := 2) C dX10_costs_0 rfl rfl ?_
  refine G.aload_n (pl := 0) C dX10_costs_1 rfl rfl ?_
  refine gf10_5 C o_108 k4_102 dX10_costs_2 ?_
  refine G.iload (pl := 4) C dX10_costs_5 rfl ?_
  obtain ⟨v1, ev1, hi1, hf⟩ := rd_some hf
  refine G.iald C a_114 hi1 ev1 dX10_costs_7 ?_
  refine G.iconst (v := (-1)) C dX10_costs_8 (by decide) ?_
  refine G.ixor C dX10_costs_9 ?_
  refine G.iand C dX10_costs_10 ?_
  obtain ⟨v2, hr1, hf⟩ := cp_some hf
  refine G.callS (st1 := [.int v2]) C [.int (x2 &&& (v1 ^^^ (-1 : Int32)))] [] (c_X10_bits hr1) mv_X10_bits k4_236 rfl rfl rfl (Nat.le_of_ble_eq_true rfl) (by decide) dX10_costs_11 rfl ?_
  refine G.istore (lv' := [(5, .int v2), (0, .ref (ad 108)), (1, .int x1), (2, .int x2), (3, .int x3), (4, .int x4)]) C dX10_costs_14 (by decide) rfl ?_
  refine G.aload_n (pl := 1) C dX10_costs_16 rfl rfl ?_
  refine gf10_5 C o_108 k4_102 dX10_costs_17 ?_
  refine G.iload (pl := 5) C dX10_costs_20 rfl ?_
  obtain ⟨v3, ev2, hi2, hf⟩ := rd_some hf
  refine G.iald C a_114 hi2 ev2 dX10_costs_22 ?_
  refine G.iload_n (pl := 3) C dX10_costs_23 rfl rfl ?_
  refine G.iconst (v := (-1)) C dX10_costs_24 (by decide) ?_
  refine G.ixor C dX10_costs_25 ?_
  refine G.iand C dX10_costs_26 ?_
  obtain ⟨v4, hr2, hf⟩ := cp_some hf
  refine G.callS (st1 := [.int v4]) C [.int (v3 &&& (x2 ^^^ (-1 : Int32)))] [] (c_X10_bits hr2) mv_X10_bits k4_236 rfl rfl rfl (Nat.le_of_ble_eq_true rfl) (by decide) dX10_costs_27 rfl ?_
  refine G.istore (lv' := [(6, .int v4), (5, .int v2), (0, .ref (ad 108)), (1, .int x1), (2, .int x2), (3, .int x3), (4, .int x4)]) C dX10_costs_30 (by decide) rfl ?_
  refine G.aload_n (pl := 2) C dX10_costs_32 rfl rfl ?_
  refine gf10_9 C o_108 k4_106 dX10_costs_33 ?_
  refine G.bipush (v := 10) C dX10_costs_36 (by decide) ?_
  refine G.iald (v := (M.1 118 10)) C a_118 (vp_inC (by decide)) rfl dX10_costs_38 ?_
  refine G.iload (pl := 1) C dX10_costs_39 rfl ?_
  refine G.imul C dX10_costs_41 ?_
  refine G.aload_n (pl := 2) C dX10_costs_42 rfl rfl ?_
  refine gf10_9 C o_108 k4_106 dX10_costs_43 ?_
  refine G.bipush (v := 11) C dX10_costs_46 (by decide) ?_
  refine G.iald (v := (M.1 118 11)) C a_118 (vp_inC (by decide)) rfl dX10_costs_48 ?_
  refine G.iload (pl := 0) C dX10_costs_49 rfl ?_
  refine G.imul C dX10_costs_51 ?_
  refine G.iadd C dX10_costs_52 ?_
  refine G.istore (lv' := [(7, .int (((M.1 118 10) * v2) + ((M.1 118 11) * v4))), (6, .int v4), (5, .int v2), (0, .ref (ad 108)), (1, .int x1), (2, .int x2), (3, .int x3), (4, .int x4)]) C dX10_costs_53 (by decide) rfl ?_
  refine G.iload_n (pl := 6) C dX10_costs_55 rfl rfl ?_
  refine G.if_ge (tgt := 63) C dX10_costs_56 (by decide) (fun hc1 => ?_) (fun hc1 => ?_)
  · replace hf := gIf hf hc1
    refine G.iload_n (pl := 6) C dX10_costs_63 rfl rfl ?_
    refine G.aload_n (pl := 3) C dX10_costs_64 rfl rfl ?_
    refine gf10_5 C o_108 k4_102 dX10_costs_65 ?_
    refine G.iload (pl := 7) C dX10_costs_68 rfl ?_
    refine G.iconst (v := 1) C dX10_costs_70 (by decide) ?_
    refine G.iadd C dX10_costs_71 ?_
    obtain ⟨v5, ev3, hi3, hf⟩ := rd_some hf
    refine G.iald C a_114 hi3 ev3 dX10_costs_72 ?_
    refine G.isub C dX10_costs_73 ?_
    refine G.sub (lv' := [(0, .ref (ad 108)), (1, .int x1), (4, .int x4), (5, .int v2), (6, .int v4), (7, .int (((M.1 118 10) * v2) + ((M.1 118 11) * v4)))]) [3, 4, 7, 2, 1, 0] rfl ?_
    exact w_X10_costs_74 C Rt x1 x4 v2 v4 (((M.1 118 10) * v2) + ((M.1 118 11) * v4)) (x3 - v5) hf
  · replace hf := gIfn hf hc1
    refine G.iconst (v := 0) C dX10_costs_59 (by decide) ?_
    refine G.goto (tgt := 74) C dX10_costs_60 (by decide) ?_
    refine G.sub (lv' := [(0, .ref (ad 108)), (1, .int x1), (4, .int x4), (5, .int v2), (6, .int v4), (7, .int (((M.1 118 10) * v2) + ((M.1 118 11) * v4)))]) [3, 4, 7, 2, 1, 0] rfl ?_
    exact w_X10_costs_74 C Rt x1 x4 v2 v4 (((M.1 118 10) * v2) + ((M.1 118 11) * v4)) (0 : Int32) hf
theorem mv_X10_costs : gMV yX10_costs cX10_costs 9 (some .int) 4 := ⟨k4_234, kS_29, k1_12, k4_235, ⟨by decide +kernel, by decide +kernel, by decide +kernel⟩, by decide⟩
theorem c_X10_costs {res : Int32} {x1 : Int32} {x2 : Int32} {x3 : Int32} {x4 : Int32} {M : Mem} (hf : f_X10_costs x1 x2 x3 x4 M = some res) : Ct yX10_costs cX10_costs 9 (some .int) 2 (fun ad => [.ref (ad 108), .int x1, .int x2, .int x3, .int x4]) M (some (.int res)) M :=
  Ct.of (by decide +kernel) (fun _ => Nat.le_of_ble_eq_true rfl) (fun X ad C Rt => w_X10_costs_E C Rt x1 x2 x3 x4 hf)
set_option maxRecDepth 100000 in
set_option maxHeartbeats 4000000 in
theorem w_X10_cost_35 {X : Gc} {ad : Nat → Nat} {res : (Int32 × Mem)} (C : Gk X ad cX10_cost "NineTonguesModel" 5 4) (Rt : Gr X ad (some .int) (some (.int res.1)) res.2) (M : Mem) (hf : f_X10_cost_35 M = some res) : G X ad 35 5 [(0, .ref (ad 108))] [] M := by
  unfold f_X10_cost_35 at hf
  refine G.aload_n (pl := 0) C dX10_cost_35 rfl rfl ?_
  refine G.sipush (v := (-1000)) C dX10_cost_36 (by decide) ?_
  obtain ⟨v1, M1, hr1, hf⟩ := cl_some hf
  refine G.callV (st1 := [.int v1]) C [.int (-1000 : Int32)] [] (c_X10_bad hr1) mv_X10_bad k4_192 o_108.1 (fun _ => gShp_20 o_108) rfl rfl rfl rfl rfl (Nat.le_of_ble_eq_true rfl) (by decide) dX10_cost_39 rfl ?_
  cases hf
  exact G.iret C Rt dX10_cost_42
set_option maxRecDepth 100000 in
set_option maxHeartbeats 4000000 in
theorem w_X10_cost_E {X : Gc} {ad : Nat → Nat} {res : (Int32 × Mem)} (C : Gk X ad cX10_cost "NineTonguesModel" 5 4) (Rt : Gr X ad (some .int) (some (.int res.1)) res.2) (x1 : Int32) (x2 : Int32) (x3 : Int32) (x4 : Int32) (M : Mem) (hf : f_X10_cost x1 x2 x3 x4 M = some res) : G X ad 0 5 [(0, .ref (ad 108)), (1, .int x1), (2, .int x2), (3, .int x3), (4, .int x4)] [] M := by
  unfold f_X10_cost at hf
  refine G.iload_n (pl := 1) C dX10_cost_0 rfl rfl ?_
  refine G.iconst (v := 0) C dX10_cost_1 (by decide) ?_
  refine G.iconst (v := 5) C dX10_cost_2 (by decide) ?_
  obtain ⟨v1, hr1, hf⟩ := cp_some hf
  refine G.callS (st1 := [.int v1]) C [.int x1, .int (0 : Int32), .int (5 : Int32)] [] (c_X10_between hr1) mv_X10_between k4_189 rfl rfl rfl (Nat.le_of_ble_eq_true rfl) (by decide) dX10_cost_3 rfl ?_
  refine G.if_eq (tgt := 35) C dX10_cost_6 (by decide) (fun hc1 => ?_) (fun hc1 => ?_)
  · replace hf := gIf hf hc1
    refine G.sub (lv' := [(0, .ref (ad 108))]) [0] rfl ?_
    exact w_X10_cost_35 C Rt M hf
  · replace hf := gIfn hf hc1
    refine G.iload_n (pl := 2) C dX10_cost_9 rfl rfl ?_
    refine G.iconst (v := 0) C dX10_cost_10 (by decide) ?_
    refine G.aload_n (pl := 0) C dX10_cost_11 rfl rfl ?_
    refine gf10_1 C o_108 k4_98 dX10_cost_12 ?_
    refine G.iconst (v := 0) C dX10_cost_15 (by decide) ?_
    refine G.iald (v := (M.1 110 0)) C a_110 (vp_inC (by decide)) rfl dX10_cost_16 ?_
    refine G.iconst (v := 1) C dX10_cost_17 (by decide) ?_
    refine G.isub C dX10_cost_18 ?_
    obtain ⟨v2, hr2, hf⟩ := cp_some hf
    refine G.callS (st1 := [.int v2]) C [.int x2, .int (0 : Int32), .int ((M.1 110 0) - (1 : Int32))] [] (c_X10_between hr2) mv_X10_between k4_189 rfl rfl rfl (Nat.le_of_ble_eq_true rfl) (by decide) dX10_cost_19 rfl ?_
    refine G.if_eq (tgt := 35) C dX10_cost_22 (by decide) (fun hc2 => ?_) (fun hc2 => ?_)
    · replace hf := gIf hf hc2
      refine G.sub (lv' := [(0, .ref (ad 108))]) [0] rfl ?_
      exact w_X10_cost_35 C Rt M hf
    · replace hf := gIfn hf hc2
      refine G.aload_n (pl := 0) C dX10_cost_25 rfl rfl ?_
      refine G.iload_n (pl := 3) C dX10_cost_26 rfl rfl ?_
      refine G.iload (pl := 4) C dX10_cost_27 rfl ?_
      obtain ⟨v3, hr3, hf⟩ := cp_some hf
      refine G.callV (st1 := [.int v3]) C [.int x3, .int x4] [] (c_X10_isWord hr3) mv_X10_isWord k4_228 o_108.1 (fun _ => gShp_20 o_108) rfl rfl rfl rfl rfl (Nat.le_of_ble_eq_true rfl) (by decide) dX10_cost_29 rfl ?_
      refine G.if_ne (tgt := 43) C dX10_cost_32 (by decide) (fun hc3 => ?_) (fun hc3 => ?_)
      · replace hf := gIfn hf hc3
        refine G.aload_n (pl := 0) C dX10_cost_43 rfl rfl ?_
        refine G.iload_n (pl := 1) C dX10_cost_44 rfl rfl ?_
        refine G.aload_n (pl := 0) C dX10_cost_45 rfl rfl ?_
        refine gf10_8 C o_108 k4_105 dX10_cost_46 ?_
        refine G.iload_n (pl := 2) C dX10_cost_49 rfl rfl ?_
        obtain ⟨v4, ev1, hi1, hf⟩ := rd_some hf
        refine G.iald C a_117 hi1 ev1 dX10_cost_50 ?_
        refine G.aload_n (pl := 0) C dX10_cost_51 rfl rfl ?_
        refine gf10_8 C o_108 k4_105 dX10_cost_52 ?_
        refine G.bipush (v := 6) C dX10_cost_55 (by decide) ?_
        refine G.iload_n (pl := 2) C dX10_cost_57 rfl rfl ?_
        refine G.iadd C dX10_cost_58 ?_
        obtain ⟨v5, ev2, hi2, hf⟩ := rd_some hf
        refine G.iald C a_117 hi2 ev2 dX10_cost_59 ?_
        refine G.bipush (v := 24) C dX10_cost_60 (by decide) ?_
        refine G.iload_n (pl := 3) C dX10_cost_62 rfl rfl ?_
        refine G.imul C dX10_cost_63 ?_
        refine G.iconst (v := 3) C dX10_cost_64 (by decide) ?_
        refine G.iload (pl := 4) C dX10_cost_65 rfl ?_
        refine G.imul C dX10_cost_67 ?_
        refine G.iadd C dX10_cost_68 ?_
        obtain ⟨v6, hr4, hf⟩ := cp_some hf
        refine G.callV (st1 := [.int v6]) C [.int x1, .int v4, .int v5, .int (((24 : Int32) * x3) + ((3 : Int32) * x4))] [] (c_X10_costs hr4) mv_X10_costs k4_232 o_108.1 (fun _ => gShp_20 o_108) rfl rfl rfl rfl rfl (Nat.le_of_ble_eq_true rfl) (by decide) dX10_cost_69 rfl ?_
        cases hf
        exact G.iret C Rt dX10_cost_72
      · replace hf := gIf hf hc3
        refine G.sub (lv' := [(0, .ref (ad 108))]) [0] rfl ?_
        exact w_X10_cost_35 C Rt M hf
theorem mv_X10_cost : gMV yX10_cost cX10_cost 5 (some .int) 4 := ⟨k4_225, k4_226, k1_12, k4_227, ⟨by decide +kernel, by decide +kernel, by decide +kernel⟩, by decide⟩
theorem c_X10_cost {res : (Int32 × Mem)} {x1 : Int32} {x2 : Int32} {x3 : Int32} {x4 : Int32} {M : Mem} (hf : f_X10_cost x1 x2 x3 x4 M = some res) : Ct yX10_cost cX10_cost 5 (some .int) 4 (fun ad => [.ref (ad 108), .int x1, .int x2, .int x3, .int x4]) M (some (.int res.1)) res.2 :=
  Ct.of (by decide +kernel) (fun _ => Nat.le_of_ble_eq_true rfl) (fun X ad C Rt => w_X10_cost_E C Rt x1 x2 x3 x4 M hf)
set_option maxRecDepth 100000 in
set_option maxHeartbeats 4000000 in
theorem w_X10_gets_97 {X : Gc} {ad : Nat → Nat} {res : Int32} {M : Mem} {r_10 : Int32 → Int32 → Option Int32} (C : Gk X ad cX10_gets "NineTonguesModel" 9 3) (Rt : Gr X ad (some .int) (some (.int res)) M) (x1 : Int32) (x2 : Int32) (x3 : Int32) (x4 : Int32) (x6 : Int32) (t0 : Int32) (h_10 : ∀ (x5 : Int32) (x6 : Int32), r_10 x5 x6 = some res → G X ad 10 9 [(0, .ref (ad 108)), (1, .int x1), (2, .int x2), (3, .int x3), (4, .int x4), (5, .int x5), (6, .int x6)] [] M) (hf : f_X10_gets_97 M r_10 x1 x2 x3 x4 x6 t0 = some res) : G X ad 97 9 [(0, .ref (ad 108)), (1, .int x1), (2, .int x2), (3, .int x3), (4, .int x4), (6, .int x6)] [.int t0] M := by
  unfold f_X10_gets_97 at hf
  refine G.istore (lv' := [(5, .int t0), (0, .ref (ad 108)), (1, .int x1), (2, .int x2), (3, .int x3), (4, .int x4), (6, .int x6)]) C dX10_gets_97 (by decide) rfl ?_
  refine G.iinc (pl := 6) (v := (x6 + 1)) (lv' := [(6, .int (x6 + 1)), (5, .int t0), (0, .ref (ad 108)), (1, .int x1), (2, .int x2), (3, .int x3), (4, .int x4)]) C dX10_gets_99 rfl rfl (by decide) rfl ?_
  refine G.goto (tgt := 10) C dX10_gets_102 (by decide) ?_
  refine G.sub (lv' := [(0, .ref (ad 108)), (1, .int x1), (2, .int x2), (3, .int x3), (4, .int x4), (5, .int t0), (6, .int (x6 + 1))]) [2, 3, 4, 5, 6, 1, 0] rfl ?_
  exact h_10 t0 (x6 + 1)  hf
set_option maxRecDepth 100000 in
set_option maxHeartbeats 4000000 in
theorem w_X10_gets_90 {X : Gc} {ad : Nat → Nat} {res : Int32} {M : Mem} {r_10 : Int32 → Int32 → Option Int32} (C : Gk X ad cX10_gets "NineTonguesModel" 9 3) (Rt : Gr X ad (some .int) (some (.int res)) M) (x1 : Int32) (x2 : Int32) (x3 : Int32) (x4 : Int32) (x6 : Int32) (x7 : Int32) (h_10 : ∀ (x5 : Int32) (x6 : Int32), r_10 x5 x6 = some res → G X ad 10 9 [(0, .ref (ad 108)), (1, .int x1), (2, .int x2), (3, .int x3), (4, .int x4), (5, .int x5), (6, .int x6)] [] M) (hf : f_X10_gets_90 M r_10 x1 x2 x3 x4 x6 x7 = some res) : G X ad 90 9 [(0, .ref (ad 108)), (1, .int x1), (2, .int x2), (3, .int x3), (4, .int x4), (6, .int x6), (7, .int x7)] [] M := by
  unfold f_X10_gets_90 at hf
  refine G.iload (pl := 6) C dX10_gets_90 rfl ?_
  refine G.goto (tgt := 97) C dX10_gets_92 (by decide) ?_
  refine G.sub (lv' := [(0, .ref (ad 108)), (1, .int x1), (2, .int x2), (3, .int x3), (4, .int x4), (6, .int x6)]) [0, 1, 2, 3, 4, 5] rfl ?_
  exact w_X10_gets_97 C Rt x1 x2 x3 x4 x6 x7 h_10 hf
set_option maxRecDepth 100000 in
set_option maxHeartbeats 4000000 in
theorem w_X10_gets_95 {X : Gc} {ad : Nat → Nat} {res : Int32} {M : Mem} {r_10 : Int32 → Int32 → Option Int32} (C : Gk X ad cX10_gets "NineTonguesModel" 9 3) (Rt : Gr X ad (some .int) (some (.int res)) M) (x1 : Int32) (x2 : Int32) (x3 : Int32) (x4 : Int32) (x5 : Int32) (x6 : Int32) (h_10 : ∀ (x5 : Int32) (x6 : Int32), r_10 x5 x6 = some res → G X ad 10 9 [(0, .ref (ad 108)), (1, .int x1), (2, .int x2), (3, .int x3), (4, .int x4), (5, .int x5), (6, .int x6)] [] M) (hf : f_X10_gets_95 M r_10 x1 x2 x3 x4 x5 x6 = some res) : G X ad 95 9 [(0, .ref (ad 108)), (1, .int x1), (2, .int x2), (3, .int x3), (4, .int x4), (5, .int x5), (6, .int x6)] [] M := by
  unfold f_X10_gets_95 at hf
  refine G.iload (pl := 5) C dX10_gets_95 rfl ?_
  refine G.sub (lv' := [(0, .ref (ad 108)), (1, .int x1), (2, .int x2), (3, .int x3), (4, .int x4), (6, .int x6)]) [0, 1, 2, 3, 4, 6] rfl ?_
  exact w_X10_gets_97 C Rt x1 x2 x3 x4 x6 x5 h_10 hf
set_option maxRecDepth 100000 in
set_option maxHeartbeats 4000000 in
theorem w_X10_gets_10_b {X : Gc} {ad : Nat → Nat} {res : Int32} {M : Mem} {r_10 : Int32 → Int32 → Option Int32} (C : Gk X ad cX10_gets "NineTonguesModel" 9 3) (Rt : Gr X ad (some .int) (some (.int res)) M) (x1 : Int32) (x2 : Int32) (x3 : Int32) (x4 : Int32) (h_10 : ∀ (x5 : Int32) (x6 : Int32), r_10 x5 x6 = some res → G X ad 10 9 [(0, .ref (ad 108)), (1, .int x1), (2, .int x2), (3, .int x3), (4, .int x4), (5, .int x5), (6, .int x6)] [] M) (x5 : Int32) (x6 : Int32) (hf : f_X10_gets_10_b M r_10 x1 x2 x3 x4 x5 x6 = some res) : G X ad 10 9 [(0, .ref (ad 108)), (1, .int x1), (2, .int x2), (3, .int x3), (4, .int x4), (5, .int x5), (6, .int x6)] [] M := by
  unfold f_X10_gets_10_b at hf
  refine G.iload (pl := 6) C dX10_gets_10 rfl ?_
  refine G.aload_n (pl := 0) C dX10_gets_12 rfl rfl ?_
  refine gf10_4 C o_108 k4_101 dX10_gets_13 ?_
  refine G.iconst (v := 4) C dX10_gets_16 (by decide) ?_
  refine G.iload (pl := 4) C dX10_gets_17 rfl ?_
  refine G.imul C dX10_gets_19 ?_
  refine G.iconst (v := 3) C dX10_gets_20 (by decide) ?_
  refine G.iadd C dX10_gets_21 ?_
  obtain ⟨v1, ev1, hi1, hf⟩ := rd_some hf
  refine G.iald C a_113 hi1 ev1 dX10_gets_22 ?_
  refine G.icmp_ge (tgt := 105) C dX10_gets_23 (by decide) (fun hc1 => ?_) (fun hc1 => ?_)
  · replace hf := gIf hf hc1
    refine G.iload (pl := 5) C dX10_gets_105 rfl ?_
    cases hf
    exact G.iret C Rt dX10_gets_107
  · replace hf := gIfn hf hc1
    refine G.bipush (v := 24) C dX10_gets_26 (by decide) ?_
    refine G.iload (pl := 4) C dX10_gets_28 rfl ?_
    refine G.imul C dX10_gets_30 ?_
    refine G.iconst (v := 3) C dX10_gets_31 (by decide) ?_
    refine G.iload (pl := 6) C dX10_gets_32 rfl ?_
    refine G.imul C dX10_gets_34 ?_
    refine G.iadd C dX10_gets_35 ?_
    refine G.istore (lv' := [(7, .int (((24 : Int32) * x4) + ((3 : Int32) * x6))), (0, .ref (ad 108)), (1, .int x1), (2, .int x2), (3, .int x3), (4, .int x4), (5, .int x5), (6, .int x6)]) C dX10_gets_36 (by decide) rfl ?_
    refine G.aload_n (pl := 1) C dX10_gets_38 rfl rfl ?_
    refine G.iload_n (pl := 2) C dX10_gets_39 rfl rfl ?_
    refine G.iload_n (pl := 3) C dX10_gets_40 rfl rfl ?_
    refine G.iload_n (pl := 4) C dX10_gets_41 rfl rfl ?_
    refine G.iload (pl := 6) C dX10_gets_42 rfl ?_
    obtain ⟨v2, hr1, hf⟩ := cp_some hf
    refine G.callV (st1 := [.int v2]) C [.int x1, .int x2, .int x3, .int x5] [] (c_X10_costs hr1) mv_X10_costs k4_232 o_108.1 (fun _ => gShp_20 o_108) rfl rfl rfl rfl rfl (Nat.le_of_ble_eq_true rfl) (by decide) dX10_gets_44 rfl ?_
    refine G.aload_n (pl := 1) C dX10_gets_47 rfl rfl ?_
    refine G.iload_n (pl := 2) C dX10_gets_48 rfl rfl ?_
    refine G.iload_n (pl := 3) C dX10_gets_49 rfl rfl ?_
    refine G.iload_n (pl := 4) C dX10_gets_50 rfl rfl ?_
    refine G.iload (pl := 0) C dX10_gets_51 rfl ?_
    obtain ⟨v3, hr2, hf⟩ := cp_some hf
    refine G.callV (st1 := [.int v3, .int v2]) C [.int x1, .int x2, .int x3, .int (((24 : Int32) * x4) + ((3 : Int32) * x6))] [.int v2] (c_X10_costs hr2) mv_X10_costs k4_232 o_108.1 (fun _ => gShp_20 o_108) rfl rfl rfl rfl rfl (Nat.le_of_ble_eq_true rfl) (by decide) dX10_gets_53 rfl ?_
    refine G.isub C dX10_gets_56 ?_
    refine G.istore (lv' := [(8, .int (v2 - v3)), (7, .int (((24 : Int32) * x4) + ((3 : Int32) * x6))), (0, .ref (ad 108)), (1, .int x1), (2, .int x2), (3, .int x3), (4, .int x4), (5, .int x5), (6, .int x6)]) C dX10_gets_57 (by decide) rfl ?_
    refine G.iload (pl := 0) C dX10_gets_59 rfl ?_
    refine G.if_gt (tgt := 90) C dX10_gets_61 (by decide) (fun hc2 => ?_) (fun hc2 => ?_)
    · replace hf := gIf hf hc2
      refine G.sub (lv' := [(0, .ref (ad 108)), (1, .int x1), (2, .int x2), (3, .int x3), (4, .int x4), (6, .int x6), (7, .int (((24 : Int32) * x4) + ((3 : Int32) * x6)))]) [2, 3, 4, 5, 6, 8, 1] rfl ?_
      exact w_X10_gets_90 C Rt x1 x2 x3 x4 x6 (((24 : Int32) * x4) + ((3 : Int32) * x6)) h_10 hf
    · replace hf := gIfn hf hc2
      refine G.iload (pl := 0) C dX10_gets_64 rfl ?_
      refine G.if_ne (tgt := 95) C dX10_gets_66 (by decide) (fun hc3 => ?_) (fun hc3 => ?_)
      · replace hf := gIfn hf hc3
        refine G.sub (lv' := [(0, .ref (ad 108)), (1, .int x1), (2, .int x2), (3, .int x3), (4, .int x4), (5, .int x5), (6, .int x6)]) [2, 3, 4, 5, 6, 7, 8] rfl ?_
        exact w_X10_gets_95 C Rt x1 x2 x3 x4 x5 x6 h_10 hf
      · replace hf := gIf hf hc3
        refine G.aload_n (pl := 2) C dX10_gets_69 rfl rfl ?_
        refine gf10_5 C o_108 k4_102 dX10_gets_70 ?_
        refine G.iload (pl := 1) C dX10_gets_73 rfl ?_
        refine G.iconst (v := 2) C dX10_gets_75 (by decide) ?_
        refine G.iadd C dX10_gets_76 ?_
        obtain ⟨v4, ev2, hi2, hf⟩ := rd_some hf
        refine G.iald C a_114 hi2 ev2 dX10_gets_77 ?_
        refine G.aload_n (pl := 2) C dX10_gets_78 rfl rfl ?_
        refine gf10_5 C o_108 k4_102 dX10_gets_79 ?_
        refine G.iload (pl := 7) C dX10_gets_82 rfl ?_
        refine G.iconst (v := 2) C dX10_gets_84 (by decide) ?_
        refine G.iadd C dX10_gets_85 ?_
        obtain ⟨v5, ev3, hi3, hf⟩ := rd_some hf
        refine G.iald C a_114 hi3 ev3 dX10_gets_86 ?_
        refine G.icmp_le (tgt := 95) C dX10_gets_87 (by decide) (fun hc4 => ?_) (fun hc4 => ?_)
        · replace hf := gIf hf hc4
          refine G.sub (lv' := [(0, .ref (ad 108)), (1, .int x1), (2, .int x2), (3, .int x3), (4, .int x4), (5, .int x5), (6, .int x6)]) [2, 3, 4, 5, 6, 7, 8] rfl ?_
          exact w_X10_gets_95 C Rt x1 x2 x3 x4 x5 x6 h_10 hf
        · replace hf := gIfn hf hc4
          refine G.sub (lv' := [(0, .ref (ad 108)), (1, .int x1), (2, .int x2), (3, .int x3), (4, .int x4), (6, .int x6), (7, .int (((24 : Int32) * x4) + ((3 : Int32) * x6)))]) [2, 3, 4, 5, 6, 8, 1] rfl ?_
          exact w_X10_gets_90 C Rt x1 x2 x3 x4 x6 (((24 : Int32) * x4) + ((3 : Int32) * x6)) h_10 hf
theorem w_X10_gets_10 {X : Gc} {ad : Nat → Nat} {res : Int32} {M : Mem} (C : Gk X ad cX10_gets "NineTonguesModel" 9 3) (Rt : Gr X ad (some .int) (some (.int res)) M) (x1 : Int32) (x2 : Int32) (x3 : Int32) (x4 : Int32) : ∀ (n : Nat) (x5 : Int32) (x6 : Int32), f_X10_gets_10 M x1 x2 x3 x4 n x5 x6 = some res → G X ad 10 9 [(0, .ref (ad 108)), (1, .int x1), (2, .int x2), (3, .int x3), (4, .int x4), (5, .int x5), (6, .int x6)] [] M := by
  intro n
  induction n with
  | zero => intro x5 x6 hf; exact absurd (show (none : Option Int32) = some res from hf) (fun h => nomatch h)
  | succ n ih => intro x5 x6 hf; exact w_X10_gets_10_b C Rt x1 x2 x3 x4 ih x5 x6 hf
set_option maxRecDepth 100000 in
set_option maxHeartbeats 4000000 in
theorem w_X10_gets_E {X : Gc} {ad : Nat → Nat} {res : Int32} {M : Mem} (C : Gk X ad cX10_gets "NineTonguesModel" 9 3) (Rt : Gr X ad (some .int) (some (.int res)) M) (x1 : Int32) (x2 : Int32) (x3 : Int32) (x4 : Int32) (hf : f_X10_gets x1 x2 x3 x4 M = some res) : G X ad 0 9 [(0, .ref (ad 108)), (1, .int x1), (2, .int x2), (3, .int x3), (4, .int x4)] [] M := by
  unfold f_X10_gets at hf
  refine G.bipush (v := 24) C dX10_gets_0 (by decide) ?_
  refine G.iload (pl := 4) C dX10_gets_2 rfl ?_
  refine G.imul C dX10_gets_4 ?_
  refine G.istore (lv' := [(5, .int ((24 : Int32) * x4)), (0, .ref (ad 108)), (1, .int x1), (2, .int x2), (3, .int x3), (4, .int x4)]) C dX10_gets_5 (by decide) rfl ?_
  refine G.iconst (v := 1) C dX10_gets_7 (by decide) ?_
  refine G.istore (lv' := [(6, .int (1 : Int32)), (5, .int ((24 : Int32) * x4)), (0, .ref (ad 108)), (1, .int x1), (2, .int x2), (3, .int x3), (4, .int x4)]) C dX10_gets_8 (by decide) rfl ?_
  refine G.sub (lv' := [(0, .ref (ad 108)), (1, .int x1), (2, .int x2), (3, .int x3), (4, .int x4), (5, .int ((24 : Int32) * x4)), (6, .int (1 : Int32))]) [2, 3, 4, 5, 6, 1, 0] rfl ?_
  exact w_X10_gets_10 C Rt x1 x2 x3 x4 FU ((24 : Int32) * x4) (1 : Int32) hf
theorem mv_X10_gets : gMV yX10_gets cX10_gets 9 (some .int) 4 := ⟨k5_58, kS_39, k1_12, k5_59, ⟨by decide +kernel, by decide +kernel, by decide +kernel⟩, by decide⟩
theorem c_X10_gets {res : Int32} {x1 : Int32} {x2 : Int32} {x3 : Int32} {x4 : Int32} {M : Mem} (hf : f_X10_gets x1 x2 x3 x4 M = some res) : Ct yX10_gets cX10_gets 9 (some .int) 3 (fun ad => [.ref (ad 108), .int x1, .int x2, .int x3, .int x4]) M (some (.int res)) M :=
  Ct.of (by decide +kernel) (fun _ => Nat.le_of_ble_eq_true rfl) (fun X ad C Rt => w_X10_gets_E C Rt x1 x2 x3 x4 hf)
set_option maxRecDepth 100000 in
set_option maxHeartbeats 4000000 in
theorem w_X10_carries_203 {X : Gc} {ad : Nat → Nat} {res : (Unit × Mem)} {q1 n1 q3 n3 : Nat} {r_110 : Int32 → Mem → Option (Unit × Mem)} (hq1 : gArr n1 q1) (hq3 : gArr n3 q3) (C : Gk X ad cX10_carries "NineTonguesModel" 9 4) (Rt : Gr X ad none none res.2) (x2 : Int32) (x4 : Int32) (x5 : Int32) (x7 : Int32) (t2 : Int32) (t1 : Int32) (M : Mem) (h_110 : ∀ (x7 : Int32) (M : Mem), r_110 x7 M = some res → G X ad 110 9 [(0, .ref (ad 108)), (1, .ref (ad q1)), (2, .int x2), (3, .ref (ad q3)), (4, .int x4), (5, .int x5), (7, .int x7)] [] M) (hf : f_X10_carries_203 q1 n1 q3 n3 r_110 x2 x4 x5 x7 t2 t1 M = some res) : G X ad 203 9 [(0, .ref (ad 108)), (1, .ref (ad q1)), (2, .int x2), (3, .ref (ad q3)), (4, .int x4), (5, .int x5), (7, .int x7)] [.int t2, .int t1, .ref (ad q3)] M := by
  unfold f_X10_carries_203 at hf
  obtain ⟨hi1, hf⟩ := ck_some hf
  obtain ⟨M1, eM1, hf⟩ := stm_some hf
  refine G.iast C hq3 hi1 eM1 dX10_carries_203 ?_
  refine G.iinc (pl := 6) (v := (x7 + 1)) (lv' := [(7, .int (x7 + 1)), (0, .ref (ad 108)), (1, .ref (ad q1)), (2, .int x2), (3, .ref (ad q3)), (4, .int x4), (5, .int x5)]) C dX10_carries_204 rfl rfl (by decide) rfl ?_
  refine G.goto (tgt := 110) C dX10_carries_207 (by decide) ?_
  refine G.sub (lv' := [(0, .ref (ad 108)), (1, .ref (ad q1)), (2, .int x2), (3, .ref (ad q3)), (4, .int x4), (5, .int x5), (7, .int (x7 + 1))]) [1, 2, 3, 4, 5, 6, 0] rfl ?_
  exact h_110 (x7 + 1) M1 hf
set_option maxRecDepth 100000 in
set_option maxHeartbeats 4000000 in
theorem w_X10_carries_201 {X : Gc} {ad : Nat → Nat} {res : (Unit × Mem)} {q1 n1 q3 n3 : Nat} {r_110 : Int32 → Mem → Option (Unit × Mem)} (hq1 : gArr n1 q1) (hq3 : gArr n3 q3) (C : Gk X ad cX10_carries "NineTonguesModel" 9 4) (Rt : Gr X ad none none res.2) (x2 : Int32) (x4 : Int32) (x5 : Int32) (x7 : Int32) (x8 : Int32) (t1 : Int32) (M : Mem) (h_110 : ∀ (x7 : Int32) (M : Mem), r_110 x7 M = some res → G X ad 110 9 [(0, .ref (ad 108)), (1, .ref (ad q1)), (2, .int x2), (3, .ref (ad q3)), (4, .int x4), (5, .int x5), (7, .int x7)] [] M) (hf : f_X10_carries_201 q1 n1 q3 n3 r_110 x2 x4 x5 x7 x8 t1 M = some res) : G X ad 201 9 [(0, .ref (ad 108)), (1, .ref (ad q1)), (2, .int x2), (3, .ref (ad q3)), (4, .int x4), (5, .int x5), (7, .int x7), (8, .int x8)] [.int t1, .ref (ad q3)] M := by
  unfold f_X10_carries_201 at hf
  refine G.iload (pl := 7) C dX10_carries_201 rfl ?_
  refine G.sub (lv' := [(0, .ref (ad 108)), (1, .ref (ad q1)), (2, .int x2), (3, .ref (ad q3)), (4, .int x4), (5, .int x5), (7, .int x7)]) [0, 1, 2, 3, 4, 5, 6] rfl ?_
  exact w_X10_carries_203 hq1 hq3 C Rt x2 x4 x5 x7 x8 t1 M h_110 hf
set_option maxRecDepth 100000 in
set_option maxHeartbeats 4000000 in
theorem w_X10_carries_148 {X : Gc} {ad : Nat → Nat} {res : (Unit × Mem)} {q1 n1 q3 n3 : Nat} {r_110 : Int32 → Mem → Option (Unit × Mem)} (hq1 : gArr n1 q1) (hq3 : gArr n3 q3) (C : Gk X ad cX10_carries "NineTonguesModel" 9 4) (Rt : Gr X ad none none res.2) (x2 : Int32) (x4 : Int32) (x5 : Int32) (x7 : Int32) (t0 : Int32) (M : Mem) (h_110 : ∀ (x7 : Int32) (M : Mem), r_110 x7 M = some res → G X ad 110 9 [(0, .ref (ad 108)), (1, .ref (ad q1)), (2, .int x2), (3, .ref (ad q3)), (4, .int x4), (5, .int x5), (7, .int x7)] [] M) (hf : f_X10_carries_148 q1 n1 q3 n3 r_110 x2 x4 x5 x7 t0 M = some res) : G X ad 148 9 [(0, .ref (ad 108)), (1, .ref (ad q1)), (2, .int x2), (3, .ref (ad q3)), (4, .int x4), (5, .int x5), (7, .int x7)] [.int t0] M := by
  unfold f_X10_carries_148 at hf
  refine G.istore (lv' := [(8, .int t0), (0, .ref (ad 108)), (1, .ref (ad q1)), (2, .int x2), (3, .ref (ad q3)), (4, .int x4), (5, .int x5), (7, .int x7)]) C dX10_carries_148 (by decide) rfl ?_
  refine G.aload_n (pl := 4) C dX10_carries_150 rfl rfl ?_
  refine G.iload (pl := 5) C dX10_carries_151 rfl ?_
  refine G.bipush (v := 12) C dX10_carries_153 (by decide) ?_
  refine G.iadd C dX10_carries_155 ?_
  refine G.iload (pl := 7) C dX10_carries_156 rfl ?_
  refine G.iadd C dX10_carries_158 ?_
  refine G.aload_n (pl := 1) C dX10_carries_159 rfl rfl ?_
  refine gf10_4 C o_108 k4_101 dX10_carries_160 ?_
  refine G.iconst (v := 4) C dX10_carries_163 (by decide) ?_
  refine G.iload (pl := 6) C dX10_carries_164 rfl ?_
  refine G.imul C dX10_carries_166 ?_
  obtain ⟨v1, ev1, hi1, hf⟩ := rd_some hf
  refine G.iald C a_113 hi1 ev1 dX10_carries_167 ?_
  refine G.iload (pl := 7) C dX10_carries_168 rfl ?_
  refine G.ishr C dX10_carries_170 ?_
  refine G.iconst (v := 1) C dX10_carries_171 (by decide) ?_
  refine G.iand C dX10_carries_172 ?_
  refine G.iconst (v := 1) C dX10_carries_173 (by decide) ?_
  refine G.icmp_ne (tgt := 201) C dX10_carries_174 (by decide) (fun hc1 => ?_) (fun hc1 => ?_)
  · replace hf := gIfn hf hc1
    refine G.sub (lv' := [(0, .ref (ad 108)), (1, .ref (ad q1)), (2, .int x2), (3, .ref (ad q3)), (4, .int x4), (5, .int x5), (7, .int x7), (8, .int t0)]) [1, 2, 3, 4, 5, 6, 7, 0] rfl ?_
    exact w_X10_carries_201 hq1 hq3 C Rt x2 x4 x5 x7 t0 ((x4 + (12 : Int32)) + x7) M h_110 hf
  · replace hf := gIf hf hc1
    refine G.iload (pl := 0) C dX10_carries_177 rfl ?_
    refine G.if_ge (tgt := 201) C dX10_carries_179 (by decide) (fun hc2 => ?_) (fun hc2 => ?_)
    · replace hf := gIf hf hc2
      refine G.sub (lv' := [(0, .ref (ad 108)), (1, .ref (ad q1)), (2, .int x2), (3, .ref (ad q3)), (4, .int x4), (5, .int x5), (7, .int x7), (8, .int t0)]) [1, 2, 3, 4, 5, 6, 7, 0] rfl ?_
      exact w_X10_carries_201 hq1 hq3 C Rt x2 x4 x5 x7 t0 ((x4 + (12 : Int32)) + x7) M h_110 hf
    · replace hf := gIfn hf hc2
      refine G.aload_n (pl := 1) C dX10_carries_182 rfl rfl ?_
      refine gf10_4 C o_108 k4_101 dX10_carries_183 ?_
      refine G.iconst (v := 4) C dX10_carries_186 (by decide) ?_
      refine G.iload (pl := 6) C dX10_carries_187 rfl ?_
      refine G.imul C dX10_carries_189 ?_
      refine G.iconst (v := 2) C dX10_carries_190 (by decide) ?_
      refine G.iadd C dX10_carries_191 ?_
      obtain ⟨v2, ev2, hi2, hf⟩ := rd_some hf
      refine G.iald C a_113 hi2 ev2 dX10_carries_192 ?_
      refine G.iload (pl := 7) C dX10_carries_193 rfl ?_
      refine G.ishr C dX10_carries_195 ?_
      refine G.iconst (v := 1) C dX10_carries_196 (by decide) ?_
      refine G.iand C dX10_carries_197 ?_
      refine G.goto (tgt := 203) C dX10_carries_198 (by decide) ?_
      refine G.sub (lv' := [(0, .ref (ad 108)), (1, .ref (ad q1)), (2, .int x2), (3, .ref (ad q3)), (4, .int x4), (5, .int x5), (7, .int x7)]) [1, 2, 3, 4, 5, 6, 7] rfl ?_
      exact w_X10_carries_203 hq1 hq3 C Rt x2 x4 x5 x7 ((v2 >>> (x7 &&& 31)) &&& (1 : Int32)) ((x4 + (12 : Int32)) + x7) M h_110 hf
set_option maxRecDepth 100000 in
set_option maxHeartbeats 4000000 in
theorem w_X10_carries_110_b {X : Gc} {ad : Nat → Nat} {res : (Unit × Mem)} {q1 n1 q3 n3 : Nat} {r_110 : Int32 → Mem → Option (Unit × Mem)} (hq1 : gArr n1 q1) (hq3 : gArr n3 q3) (C : Gk X ad cX10_carries "NineTonguesModel" 9 4) (Rt : Gr X ad none none res.2) (x2 : Int32) (x4 : Int32) (x5 : Int32) (h_110 : ∀ (x7 : Int32) (M : Mem), r_110 x7 M = some res → G X ad 110 9 [(0, .ref (ad 108)), (1, .ref (ad q1)), (2, .int x2), (3, .ref (ad q3)), (4, .int x4), (5, .int x5), (7, .int x7)] [] M) (x7 : Int32) (M : Mem) (hf : f_X10_carries_110_b q1 n1 q3 n3 r_110 x2 x4 x5 x7 M = some res) : G X ad 110 9 [(0, .ref (ad 108)), (1, .ref (ad q1)), (2, .int x2), (3, .ref (ad q3)), (4, .int x4), (5, .int x5), (7, .int x7)] [] M := by
  unfold f_X10_carries_110_b at hf
  refine G.iload (pl := 6) C dX10_carries_110 rfl ?_
  refine G.iconst (v := 4) C dX10_carries_112 (by decide) ?_
  refine G.icmp_ge (tgt := 210) C dX10_carries_113 (by decide) (fun hc1 => ?_) (fun hc1 => ?_)
  · replace hf := gIf hf hc1
    cases hf
    exact G.vret C Rt dX10_carries_210
  · replace hf := gIfn hf hc1
    refine G.aload_n (pl := 0) C dX10_carries_116 rfl rfl ?_
    refine gf10_4 C o_108 k4_101 dX10_carries_117 ?_
    refine G.iconst (v := 4) C dX10_carries_120 (by decide) ?_
    refine G.iload (pl := 5) C dX10_carries_121 rfl ?_
    refine G.imul C dX10_carries_123 ?_
    refine G.iconst (v := 1) C dX10_carries_124 (by decide) ?_
    refine G.iadd C dX10_carries_125 ?_
    obtain ⟨v1, ev1, hi1, hf⟩ := rd_some hf
    refine G.iald C a_113 hi1 ev1 dX10_carries_126 ?_
    refine G.iload (pl := 6) C dX10_carries_127 rfl ?_
    refine G.ishr C dX10_carries_129 ?_
    refine G.iconst (v := 1) C dX10_carries_130 (by decide) ?_
    refine G.iand C dX10_carries_131 ?_
    refine G.if_ne (tgt := 139) C dX10_carries_132 (by decide) (fun hc2 => ?_) (fun hc2 => ?_)
    · replace hf := gIfn hf hc2
      refine G.aload_n (pl := 1) C dX10_carries_139 rfl rfl ?_
      refine G.iload_n (pl := 2) C dX10_carries_140 rfl rfl ?_
      refine G.bipush (v := 12) C dX10_carries_141 (by decide) ?_
      refine G.iadd C dX10_carries_143 ?_
      refine G.iload (pl := 6) C dX10_carries_144 rfl ?_
      refine G.iadd C dX10_carries_146 ?_
      obtain ⟨v2, ev2, hi2, hf⟩ := rd_some hf
      refine G.iald C hq1 hi2 ev2 dX10_carries_147 ?_
      exact w_X10_carries_148 hq1 hq3 C Rt x2 x4 x5 x7 v2 M h_110 hf
    · replace hf := gIf hf hc2
      refine G.iconst (v := (-1)) C dX10_carries_135 (by decide) ?_
      refine G.goto (tgt := 148) C dX10_carries_136 (by decide) ?_
      exact w_X10_carries_148 hq1 hq3 C Rt x2 x4 x5 x7 (-1 : Int32) M h_110 hf
theorem w_X10_carries_110 {X : Gc} {ad : Nat → Nat} {res : (Unit × Mem)} {q1 n1 q3 n3 : Nat} (hq1 : gArr n1 q1) (hq3 : gArr n3 q3) (C : Gk X ad cX10_carries "NineTonguesModel" 9 4) (Rt : Gr X ad none none res.2) (x2 : Int32) (x4 : Int32) (x5 : Int32) : ∀ (n : Nat) (x7 : Int32) (M : Mem), f_X10_carries_110 q1 n1 q3 n3 x2 x4 x5 n x7 M = some res → G X ad 110 9 [(0, .ref (ad 108)), (1, .ref (ad q1)), (2, .int x2), (3, .ref (ad q3)), (4, .int x4), (5, .int x5), (7, .int x7)] [] M := by
  intro n
  induction n with
  | zero => intro x7 M hf; exact absurd (show (none : Option (Unit × Mem)) = some res from hf) (fun h => nomatch h)
  | succ n ih => intro x7 M hf; exact w_X10_carries_110_b hq1 hq3 C Rt x2 x4 x5 ih x7 M hf
set_option maxRecDepth 100000 in
set_option maxHeartbeats 4000000 in
theorem w_X10_carries_100 {X : Gc} {ad : Nat → Nat} {res : (Unit × Mem)} {q1 n1 q3 n3 : Nat} {r_3 : Int32 → Mem → Option (Unit × Mem)} (hq1 : gArr n1 q1) (hq3 : gArr n3 q3) (C : Gk X ad cX10_carries "NineTonguesModel" 9 4) (Rt : Gr X ad none none res.2) (x2 : Int32) (x4 : Int32) (x5 : Int32) (x6 : Int32) (x7 : Int32) (t2 : Int32) (t1 : Int32) (M : Mem) (h_3 : ∀ (x7 : Int32) (M : Mem), r_3 x7 M = some res → G X ad 3 9 [(0, .ref (ad 108)), (1, .ref (ad q1)), (2, .int x2), (3, .ref (ad q3)), (4, .int x4), (5, .int x5), (6, .int x6), (7, .int x7)] [] M) (hf : f_X10_carries_100 q1 n1 q3 n3 r_3 x2 x4 x5 x6 x7 t2 t1 M = some res) : G X ad 100 9 [(0, .ref (ad 108)), (1, .ref (ad q1)), (2, .int x2), (3, .ref (ad q3)), (4, .int x4), (5, .int x5), (6, .int x6), (7, .int x7)] [.int t2, .int t1, .ref (ad q3)] M := by
  unfold f_X10_carries_100 at hf
  obtain ⟨hi1, hf⟩ := ck_some hf
  obtain ⟨M1, eM1, hf⟩ := stm_some hf
  refine G.iast C hq3 hi1 eM1 dX10_carries_100 ?_
  refine G.iinc (pl := 7) (v := (x7 + 1)) (lv' := [(7, .int (x7 + 1)), (0, .ref (ad 108)), (1, .ref (ad q1)), (2, .int x2), (3, .ref (ad q3)), (4, .int x4), (5, .int x5), (6, .int x6)]) C dX10_carries_101 rfl rfl (by decide) rfl ?_
  refine G.goto (tgt := 3) C dX10_carries_104 (by decide) ?_
  refine G.sub (lv' := [(0, .ref (ad 108)), (1, .ref (ad q1)), (2, .int x2), (3, .ref (ad q3)), (4, .int x4), (5, .int x5), (6, .int x6), (7, .int (x7 + 1))]) [1, 2, 3, 4, 5, 6, 7, 0] rfl ?_
  exact h_3 (x7 + 1) M1 hf
set_option maxRecDepth 100000 in
set_option maxHeartbeats 4000000 in
theorem w_X10_carries_72 {X : Gc} {ad : Nat → Nat} {res : (Unit × Mem)} {q1 n1 q3 n3 : Nat} {r_3 : Int32 → Mem → Option (Unit × Mem)} (hq1 : gArr n1 q1) (hq3 : gArr n3 q3) (C : Gk X ad cX10_carries "NineTonguesModel" 9 4) (Rt : Gr X ad none none res.2) (x2 : Int32) (x4 : Int32) (x5 : Int32) (x6 : Int32) (x7 : Int32) (x8 : Int32) (t2 : Int32) (t1 : Int32) (M : Mem) (h_3 : ∀ (x7 : Int32) (M : Mem), r_3 x7 M = some res → G X ad 3 9 [(0, .ref (ad 108)), (1, .ref (ad q1)), (2, .int x2), (3, .ref (ad q3)), (4, .int x4), (5, .int x5), (6, .int x6), (7, .int x7)] [] M) (hf : f_X10_carries_72 q1 n1 q3 n3 r_3 x2 x4 x5 x6 x7 x8 t2 t1 M = some res) : G X ad 72 9 [(0, .ref (ad 108)), (1, .ref (ad q1)), (2, .int x2), (3, .ref (ad q3)), (4, .int x4), (5, .int x5), (6, .int x6), (7, .int x7), (8, .int x8)] [.int t2, .int t1, .ref (ad q3)] M := by
  unfold f_X10_carries_72 at hf
  obtain ⟨hi1, hf⟩ := ck_some hf
  obtain ⟨M1, eM1, hf⟩ := stm_some hf
  refine G.iast C hq3 hi1 eM1 dX10_carries_72 ?_
  refine G.aload_n (pl := 3) C dX10_carries_73 rfl rfl ?_
  refine G.iload (pl := 4) C dX10_carries_74 rfl ?_
  refine G.bipush (v := 6) C dX10_carries_76 (by decide) ?_
  refine G.iadd C dX10_carries_78 ?_
  refine G.iload (pl := 7) C dX10_carries_79 rfl ?_
  refine G.iadd C dX10_carries_81 ?_
  refine G.iload (pl := 8) C dX10_carries_82 rfl ?_
  refine G.if_ge (tgt := 91) C dX10_carries_84 (by decide) (fun hc1 => ?_) (fun hc1 => ?_)
  · replace hf := gIf hf hc1
    refine G.aload_n (pl := 0) C dX10_carries_91 rfl rfl ?_
    refine gf10_5 C o_108 k4_102 dX10_carries_92 ?_
    refine G.iload (pl := 8) C dX10_carries_95 rfl ?_
    refine G.iconst (v := 1) C dX10_carries_97 (by decide) ?_
    refine G.iadd C dX10_carries_98 ?_
    obtain ⟨v1, ev1, hi2, hf⟩ := rd_some hf
    refine G.iald C a_114 hi2 ev1 dX10_carries_99 ?_
    refine G.sub (lv' := [(0, .ref (ad 108)), (1, .ref (ad q1)), (2, .int x2), (3, .ref (ad q3)), (4, .int x4), (5, .int x5), (6, .int x6), (7, .int x7)]) [0, 1, 2, 3, 4, 5, 6, 7] rfl ?_
    exact w_X10_carries_100 hq1 hq3 C Rt x2 x4 x5 x6 x7 v1 ((x4 + (6 : Int32)) + x7) M1 h_3 hf
  · replace hf := gIfn hf hc1
    refine G.iconst (v := (-1)) C dX10_carries_87 (by decide) ?_
    refine G.goto (tgt := 100) C dX10_carries_88 (by decide) ?_
    refine G.sub (lv' := [(0, .ref (ad 108)), (1, .ref (ad q1)), (2, .int x2), (3, .ref (ad q3)), (4, .int x4), (5, .int x5), (6, .int x6), (7, .int x7)]) [0, 1, 2, 3, 4, 5, 6, 7] rfl ?_
    exact w_X10_carries_100 hq1 hq3 C Rt x2 x4 x5 x6 x7 (-1 : Int32) ((x4 + (6 : Int32)) + x7) M1 h_3 hf
set_option maxRecDepth 100000 in
set_option maxHeartbeats 4000000 in
theorem w_X10_carries_48 {X : Gc} {ad : Nat → Nat} {res : (Unit × Mem)} {q1 n1 q3 n3 : Nat} {r_3 : Int32 → Mem → Option (Unit × Mem)} (hq1 : gArr n1 q1) (hq3 : gArr n3 q3) (C : Gk X ad cX10_carries "NineTonguesModel" 9 4) (Rt : Gr X ad none none res.2) (x2 : Int32) (x4 : Int32) (x5 : Int32) (x6 : Int32) (x7 : Int32) (t0 : Int32) (M : Mem) (h_3 : ∀ (x7 : Int32) (M : Mem), r_3 x7 M = some res → G X ad 3 9 [(0, .ref (ad 108)), (1, .ref (ad q1)), (2, .int x2), (3, .ref (ad q3)), (4, .int x4), (5, .int x5), (6, .int x6), (7, .int x7)] [] M) (hf : f_X10_carries_48 q1 n1 q3 n3 r_3 x2 x4 x5 x6 x7 t0 M = some res) : G X ad 48 9 [(0, .ref (ad 108)), (1, .ref (ad q1)), (2, .int x2), (3, .ref (ad q3)), (4, .int x4), (5, .int x5), (6, .int x6), (7, .int x7)] [.int t0] M := by
  unfold f_X10_carries_48 at hf
  refine G.istore (lv' := [(8, .int t0), (0, .ref (ad 108)), (1, .ref (ad q1)), (2, .int x2), (3, .ref (ad q3)), (4, .int x4), (5, .int x5), (6, .int x6), (7, .int x7)]) C dX10_carries_48 (by decide) rfl ?_
  refine G.aload_n (pl := 4) C dX10_carries_50 rfl rfl ?_
  refine G.iload (pl := 5) C dX10_carries_51 rfl ?_
  refine G.iload (pl := 8) C dX10_carries_53 rfl ?_
  refine G.iadd C dX10_carries_55 ?_
  refine G.iload (pl := 0) C dX10_carries_56 rfl ?_
  refine G.if_ge (tgt := 65) C dX10_carries_58 (by decide) (fun hc1 => ?_) (fun hc1 => ?_)
  · replace hf := gIf hf hc1
    refine G.aload_n (pl := 1) C dX10_carries_65 rfl rfl ?_
    refine gf10_5 C o_108 k4_102 dX10_carries_66 ?_
    refine G.iload (pl := 0) C dX10_carries_69 rfl ?_
    obtain ⟨v1, ev1, hi1, hf⟩ := rd_some hf
    refine G.iald C a_114 hi1 ev1 dX10_carries_71 ?_
    refine G.sub (lv' := [(0, .ref (ad 108)), (1, .ref (ad q1)), (2, .int x2), (3, .ref (ad q3)), (4, .int x4), (5, .int x5), (6, .int x6), (7, .int x7), (8, .int t0)]) [1, 2, 3, 4, 5, 6, 7, 8, 0] rfl ?_
    exact w_X10_carries_72 hq1 hq3 C Rt x2 x4 x5 x6 x7 t0 v1 (x4 + x7) M h_3 hf
  · replace hf := gIfn hf hc1
    refine G.iconst (v := 0) C dX10_carries_61 (by decide) ?_
    refine G.goto (tgt := 72) C dX10_carries_62 (by decide) ?_
    refine G.sub (lv' := [(0, .ref (ad 108)), (1, .ref (ad q1)), (2, .int x2), (3, .ref (ad q3)), (4, .int x4), (5, .int x5), (6, .int x6), (7, .int x7), (8, .int t0)]) [1, 2, 3, 4, 5, 6, 7, 8, 0] rfl ?_
    exact w_X10_carries_72 hq1 hq3 C Rt x2 x4 x5 x6 x7 t0 (0 : Int32) (x4 + x7) M h_3 hf
set_option maxRecDepth 100000 in
set_option maxHeartbeats 4000000 in
theorem w_X10_carries_3_b {X : Gc} {ad : Nat → Nat} {res : (Unit × Mem)} {q1 n1 q3 n3 : Nat} {r_3 : Int32 → Mem → Option (Unit × Mem)} (hq1 : gArr n1 q1) (hq3 : gArr n3 q3) (C : Gk X ad cX10_carries "NineTonguesModel" 9 4) (Rt : Gr X ad none none res.2) (x2 : Int32) (x4 : Int32) (x5 : Int32) (x6 : Int32) (h_3 : ∀ (x7 : Int32) (M : Mem), r_3 x7 M = some res → G X ad 3 9 [(0, .ref (ad 108)), (1, .ref (ad q1)), (2, .int x2), (3, .ref (ad q3)), (4, .int x4), (5, .int x5), (6, .int x6), (7, .int x7)] [] M) (x7 : Int32) (M : Mem) (hf : f_X10_carries_3_b q1 n1 q3 n3 r_3 x2 x4 x5 x6 x7 M = some res) : G X ad 3 9 [(0, .ref (ad 108)), (1, .ref (ad q1)), (2, .int x2), (3, .ref (ad q3)), (4, .int x4), (5, .int x5), (6, .int x6), (7, .int x7)] [] M := by
  unfold f_X10_carries_3_b at hf
  refine G.iload (pl := 7) C dX10_carries_3 rfl ?_
  refine G.bipush (v := 6) C dX10_carries_5 (by decide) ?_
  refine G.icmp_ge (tgt := 107) C dX10_carries_7 (by decide) (fun hc1 => ?_) (fun hc1 => ?_)
  · replace hf := gIf hf hc1
    refine G.iconst (v := 0) C dX10_carries_107 (by decide) ?_
    refine G.istore (lv' := [(7, .int (0 : Int32)), (0, .ref (ad 108)), (1, .ref (ad q1)), (2, .int x2), (3, .ref (ad q3)), (4, .int x4), (5, .int x5), (6, .int x6)]) C dX10_carries_108 (by decide) rfl ?_
    refine G.sub (lv' := [(0, .ref (ad 108)), (1, .ref (ad q1)), (2, .int x2), (3, .ref (ad q3)), (4, .int x4), (5, .int x5), (7, .int (0 : Int32))]) [1, 2, 3, 4, 5, 6, 0] rfl ?_
    exact w_X10_carries_110 hq1 hq3 C Rt x2 x4 x5 FU (0 : Int32) M hf
  · replace hf := gIfn hf hc1
    refine G.iload (pl := 7) C dX10_carries_10 rfl ?_
    refine G.aload_n (pl := 0) C dX10_carries_12 rfl rfl ?_
    refine gf10_1 C o_108 k4_98 dX10_carries_13 ?_
    refine G.iconst (v := 0) C dX10_carries_16 (by decide) ?_
    refine G.iald (v := (M.1 110 0)) C a_110 (vp_inC (by decide)) rfl dX10_carries_17 ?_
    refine G.icmp_ge (tgt := 47) C dX10_carries_18 (by decide) (fun hc2 => ?_) (fun hc2 => ?_)
    · replace hf := gIf hf hc2
      refine G.iconst (v := (-1)) C dX10_carries_47 (by decide) ?_
      exact w_X10_carries_48 hq1 hq3 C Rt x2 x4 x5 x6 x7 (-1 : Int32) M h_3 hf
    · replace hf := gIfn hf hc2
      refine G.aload_n (pl := 0) C dX10_carries_21 rfl rfl ?_
      refine G.iload (pl := 6) C dX10_carries_22 rfl ?_
      refine G.aload_n (pl := 1) C dX10_carries_24 rfl rfl ?_
      refine G.iload_n (pl := 2) C dX10_carries_25 rfl rfl ?_
      refine G.iload (pl := 7) C dX10_carries_26 rfl ?_
      refine G.iadd C dX10_carries_28 ?_
      obtain ⟨v1, ev1, hi1, hf⟩ := rd_some hf
      refine G.iald C hq1 hi1 ev1 dX10_carries_29 ?_
      refine G.aload_n (pl := 1) C dX10_carries_30 rfl rfl ?_
      refine G.iload_n (pl := 2) C dX10_carries_31 rfl rfl ?_
      refine G.bipush (v := 6) C dX10_carries_32 (by decide) ?_
      refine G.iadd C dX10_carries_34 ?_
      refine G.iload (pl := 7) C dX10_carries_35 rfl ?_
      refine G.iadd C dX10_carries_37 ?_
      obtain ⟨v2, ev2, hi2, hf⟩ := rd_some hf
      refine G.iald C hq1 hi2 ev2 dX10_carries_38 ?_
      refine G.iload (pl := 5) C dX10_carries_39 rfl ?_
      obtain ⟨v3, hr1, hf⟩ := cp_some hf
      refine G.callV (st1 := [.int v3]) C [.int x6, .int v1, .int v2, .int x5] [] (c_X10_gets hr1) mv_X10_gets k5_56 o_108.1 (fun _ => gShp_20 o_108) rfl rfl rfl rfl rfl (Nat.le_of_ble_eq_true rfl) (by decide) dX10_carries_41 rfl ?_
      refine G.goto (tgt := 48) C dX10_carries_44 (by decide) ?_
      exact w_X10_carries_48 hq1 hq3 C Rt x2 x4 x5 x6 x7 v3 M h_3 hf
theorem w_X10_carries_3 {X : Gc} {ad : Nat → Nat} {res : (Unit × Mem)} {q1 n1 q3 n3 : Nat} (hq1 : gArr n1 q1) (hq3 : gArr n3 q3) (C : Gk X ad cX10_carries "NineTonguesModel" 9 4) (Rt : Gr X ad none none res.2) (x2 : Int32) (x4 : Int32) (x5 : Int32) (x6 : Int32) : ∀ (n : Nat) (x7 : Int32) (M : Mem), f_X10_carries_3 q1 n1 q3 n3 x2 x4 x5 x6 n x7 M = some res → G X ad 3 9 [(0, .ref (ad 108)), (1, .ref (ad q1)), (2, .int x2), (3, .ref (ad q3)), (4, .int x4), (5, .int x5), (6, .int x6), (7, .int x7)] [] M := by
  intro n
  induction n with
  | zero => intro x7 M hf; exact absurd (show (none : Option (Unit × Mem)) = some res from hf) (fun h => nomatch h)
  | succ n ih => intro x7 M hf; exact w_X10_carries_3_b hq1 hq3 C Rt x2 x4 x5 x6 ih x7 M hf
set_option maxRecDepth 100000 in
set_option maxHeartbeats 4000000 in
theorem w_X10_carries_E {X : Gc} {ad : Nat → Nat} {res : (Unit × Mem)} {q1 n1 q3 n3 : Nat} (hq1 : gArr n1 q1) (hq3 : gArr n3 q3) (C : Gk X ad cX10_carries "NineTonguesModel" 9 4) (Rt : Gr X ad none none res.2) (x2 : Int32) (x4 : Int32) (x5 : Int32) (x6 : Int32) (M : Mem) (hf : f_X10_carries q1 n1 q3 n3 x2 x4 x5 x6 M = some res) : G X ad 0 9 [(0, .ref (ad 108)), (1, .ref (ad q1)), (2, .int x2), (3, .ref (ad q3)), (4, .int x4), (5, .int x5), (6, .int x6)] [] M := by
  unfold f_X10_carries at hf
  refine G.iconst (v := 0) C dX10_carries_0 (by decide) ?_
  refine G.istore (lv' := [(7, .int (0 : Int32)), (0, .ref (ad 108)), (1, .ref (ad q1)), (2, .int x2), (3, .ref (ad q3)), (4, .int x4), (5, .int x5), (6, .int x6)]) C dX10_carries_1 (by decide) rfl ?_
  refine G.sub (lv' := [(0, .ref (ad 108)), (1, .ref (ad q1)), (2, .int x2), (3, .ref (ad q3)), (4, .int x4), (5, .int x5), (6, .int x6), (7, .int (0 : Int32))]) [1, 2, 3, 4, 5, 6, 7, 0] rfl ?_
  exact w_X10_carries_3 hq1 hq3 C Rt x2 x4 x5 x6 FU (0 : Int32) M hf
theorem mv_X10_carries : gMV yX10_carries cX10_carries 9 none 6 := ⟨k5_54, kS_38, k1_12, k5_55, ⟨by decide +kernel, by decide +kernel, by decide +kernel⟩, by decide⟩
theorem c_X10_carries {res : (Unit × Mem)} {q1 n1 q3 n3 : Nat} {x2 : Int32} {x4 : Int32} {x5 : Int32} {x6 : Int32} {M : Mem} (hq1 : gArr n1 q1) (hq3 : gArr n3 q3) (hf : f_X10_carries q1 n1 q3 n3 x2 x4 x5 x6 M = some res) : Ct yX10_carries cX10_carries 9 none 4 (fun ad => [.ref (ad 108), .ref (ad q1), .int x2, .ref (ad q3), .int x4, .int x5, .int x6]) M none res.2 :=
  Ct.of (by decide +kernel) (fun _ => Nat.le_of_ble_eq_true rfl) (fun X ad C Rt => w_X10_carries_E hq1 hq3 C Rt x2 x4 x5 x6 M hf)
set_option maxRecDepth 100000 in
set_option maxHeartbeats 4000000 in
theorem w_X10_type_40_b {X : Gc} {ad : Nat → Nat} {res : (Int32 × Mem)} {r_40 : Int32 → Mem → Option (Int32 × Mem)} (C : Gk X ad cX10_type "NineTonguesModel" 5 2) (Rt : Gr X ad (some .int) (some (.int res.1)) res.2) (x1 : Int64) (h_40 : ∀ (x4 : Int32) (M : Mem), r_40 x4 M = some res → G X ad 40 5 [(0, .ref (ad 108)), (1, .long x1), (4, .int x4)] [] M) (x4 : Int32) (M : Mem) (hf : f_X10_type_40_b r_40 x1 x4 M = some res) : G X ad 40 5 [(0, .ref (ad 108)), (1, .long x1), (4, .int x4)] [] M := by
  unfold f_X10_type_40_b at hf
  refine G.iload (pl := 2) C dX10_type_40 rfl ?_
  refine G.if_lt (tgt := 84) C dX10_type_42 (by decide) (fun hc1 => ?_) (fun hc1 => ?_)
  · replace hf := gIf hf hc1
    refine G.aload_n (pl := 0) C dX10_type_84 rfl rfl ?_
    refine gf10_2 C o_108 k4_99 dX10_type_85 ?_
    refine G.iconst (v := 0) C dX10_type_88 (by decide) ?_
    refine G.iald (v := (M.1 111 0)) C a_111 (vp_inC (by decide)) rfl dX10_type_89 ?_
    cases hf
    exact G.iret C Rt dX10_type_90
  · replace hf := gIfn hf hc1
    refine G.aload_n (pl := 0) C dX10_type_45 rfl rfl ?_
    refine gf10_6 C o_108 k4_103 dX10_type_46 ?_
    refine G.aload_n (pl := 0) C dX10_type_49 rfl rfl ?_
    refine gf10_2 C o_108 k4_99 dX10_type_50 ?_
    refine G.iconst (v := 0) C dX10_type_53 (by decide) ?_
    refine G.iald (v := (M.1 111 0)) C a_111 (vp_inC (by decide)) rfl dX10_type_54 ?_
    refine G.lload_n (pl := 1) C dX10_type_55 rfl rfl ?_
    refine G.bipush (v := 8) C dX10_type_56 (by decide) ?_
    refine G.iload (pl := 2) C dX10_type_58 rfl ?_
    refine G.imul C dX10_type_60 ?_
    refine G.lshr C dX10_type_61 ?_
    refine G.ldc2 C k5_3 dX10_type_62 ?_
    refine G.land C dX10_type_65 ?_
    refine G.l2i C dX10_type_66 ?_
    obtain ⟨hi1, hf⟩ := ck_some hf
    obtain ⟨M1, eM1, hf⟩ := stm_some hf
    refine G.iast C a_115 hi1 eM1 dX10_type_67 ?_
    refine G.aload_n (pl := 0) C dX10_type_68 rfl rfl ?_
    refine gf10_2 C o_108 k4_99 dX10_type_69 ?_
    refine G.iconst (v := 0) C dX10_type_72 (by decide) ?_
    refine G.dup2 C dX10_type_73 rfl rfl ?_
    refine G.iald (v := (M1.1 111 0)) C a_111 (vp_inC (by decide)) rfl dX10_type_74 ?_
    refine G.iconst (v := 1) C dX10_type_75 (by decide) ?_
    refine G.iadd C dX10_type_76 ?_
    obtain ⟨M2, eM2, hf⟩ := stm_some hf
    refine G.iast C a_111 (vp_inC (by decide)) eM2 dX10_type_77 ?_
    refine G.iinc (pl := 2) (v := (x4 + (-1))) (lv' := [(4, .int (x4 + (-1))), (0, .ref (ad 108)), (1, .long x1)]) C dX10_type_78 rfl rfl (by decide) rfl ?_
    refine G.goto (tgt := 40) C dX10_type_81 (by decide) ?_
    refine G.sub (lv' := [(0, .ref (ad 108)), (1, .long x1), (4, .int (x4 + (-1)))]) [1, 2, 0] rfl ?_
    exact h_40 (x4 + (-1)) M2 hf
theorem w_X10_type_40 {X : Gc} {ad : Nat → Nat} {res : (Int32 × Mem)} (C : Gk X ad cX10_type "NineTonguesModel" 5 2) (Rt : Gr X ad (some .int) (some (.int res.1)) res.2) (x1 : Int64) : ∀ (n : Nat) (x4 : Int32) (M : Mem), f_X10_type_40 x1 n x4 M = some res → G X ad 40 5 [(0, .ref (ad 108)), (1, .long x1), (4, .int x4)] [] M := by
  intro n
  induction n with
  | zero => intro x4 M hf; exact absurd (show (none : Option (Int32 × Mem)) = some res from hf) (fun h => nomatch h)
  | succ n ih => intro x4 M hf; exact w_X10_type_40_b C Rt x1 ih x4 M hf
set_option maxRecDepth 100000 in
set_option maxHeartbeats 4000000 in
theorem w_X10_type_E {X : Gc} {ad : Nat → Nat} {res : (Int32 × Mem)} (C : Gk X ad cX10_type "NineTonguesModel" 5 2) (Rt : Gr X ad (some .int) (some (.int res.1)) res.2) (x1 : Int64) (x3 : Int32) (M : Mem) (hf : f_X10_type x1 x3 M = some res) : G X ad 0 5 [(0, .ref (ad 108)), (1, .long x1), (3, .int x3)] [] M := by
  unfold f_X10_type at hf
  refine G.iload_n (pl := 2) C dX10_type_0 rfl rfl ?_
  refine G.iconst (v := 1) C dX10_type_1 (by decide) ?_
  refine G.bipush (v := 8) C dX10_type_2 (by decide) ?_
  obtain ⟨v1, hr1, hf⟩ := cp_some hf
  refine G.callS (st1 := [.int v1]) C [.int x3, .int (1 : Int32), .int (8 : Int32)] [] (c_X10_between hr1) mv_X10_between k4_189 rfl rfl rfl (Nat.le_of_ble_eq_true rfl) (by decide) dX10_type_4 rfl ?_
  refine G.if_ne (tgt := 17) C dX10_type_7 (by decide) (fun hc1 => ?_) (fun hc1 => ?_)
  · replace hf := gIfn hf hc1
    refine G.aload_n (pl := 0) C dX10_type_17 rfl rfl ?_
    refine gf10_2 C o_108 k4_99 dX10_type_18 ?_
    refine G.iconst (v := 0) C dX10_type_21 (by decide) ?_
    refine G.iald (v := (M.1 111 0)) C a_111 (vp_inC (by decide)) rfl dX10_type_22 ?_
    refine G.iload_n (pl := 2) C dX10_type_23 rfl rfl ?_
    refine G.iadd C dX10_type_24 ?_
    refine G.bipush (v := 60) C dX10_type_25 (by decide) ?_
    refine G.icmp_le (tgt := 35) C dX10_type_27 (by decide) (fun hc2 => ?_) (fun hc2 => ?_)
    · replace hf := gIf hf hc2
      refine G.iload_n (pl := 2) C dX10_type_35 rfl rfl ?_
      refine G.iconst (v := 1) C dX10_type_36 (by decide) ?_
      refine G.isub C dX10_type_37 ?_
      refine G.istore (lv' := [(4, .int (x3 - (1 : Int32))), (0, .ref (ad 108)), (1, .long x1), (3, .int x3)]) C dX10_type_38 (by decide) rfl ?_
      refine G.sub (lv' := [(0, .ref (ad 108)), (1, .long x1), (4, .int (x3 - (1 : Int32)))]) [1, 2, 0] rfl ?_
      exact w_X10_type_40 C Rt x1 FU (x3 - (1 : Int32)) M hf
    · replace hf := gIfn hf hc2
      refine G.aload_n (pl := 0) C dX10_type_30 rfl rfl ?_
      obtain ⟨v2, M1, hr2, hf⟩ := cl_some hf
      refine G.callV (st1 := [.int v2]) C [] [] (c_X10_full hr2) mv_X10_full k4_196 o_108.1 (fun _ => gShp_20 o_108) rfl rfl rfl rfl rfl (Nat.le_of_ble_eq_true rfl) (by decide) dX10_type_31 rfl ?_
      cases hf
      exact G.iret C Rt dX10_type_34
  · replace hf := gIf hf hc1
    refine G.aload_n (pl := 0) C dX10_type_10 rfl rfl ?_
    refine G.bipush (v := (-2)) C dX10_type_11 (by decide) ?_
    obtain ⟨v3, M2, hr3, hf⟩ := cl_some hf
    refine G.callV (st1 := [.int v3]) C [.int (-2 : Int32)] [] (c_X10_bad hr3) mv_X10_bad k4_192 o_108.1 (fun _ => gShp_20 o_108) rfl rfl rfl rfl rfl (Nat.le_of_ble_eq_true rfl) (by decide) dX10_type_13 rfl ?_
    cases hf
    exact G.iret C Rt dX10_type_16
theorem mv_X10_type : gMV yX10_type cX10_type 5 (some .int) 2 := ⟨k5_0, k5_1, k1_12, k5_2, ⟨by decide +kernel, by decide +kernel, by decide +kernel⟩, by decide⟩
theorem c_X10_type {res : (Int32 × Mem)} {x1 : Int64} {x3 : Int32} {M : Mem} (hf : f_X10_type x1 x3 M = some res) : Ct yX10_type cX10_type 5 (some .int) 2 (fun ad => [.ref (ad 108), .long x1, .int x3]) M (some (.int res.1)) res.2 :=
  Ct.of (by decide +kernel) (fun _ => Nat.le_of_ble_eq_true rfl) (fun X ad C Rt => w_X10_type_E C Rt x1 x3 M hf)
set_option maxRecDepth 100000 in
set_option maxHeartbeats 4000000 in
theorem w_X10_clear_E {X : Gc} {ad : Nat → Nat} {res : (Int32 × Mem)} (C : Gk X ad cX10_clear "NineTonguesModel" 2 1) (Rt : Gr X ad (some .int) (some (.int res.1)) res.2) (M : Mem) (hf : f_X10_clear M = some res) : G X ad 0 2 [(0, .ref (ad 108))] [] M := by
  unfold f_X10_clear at hf
  refine G.aload_n (pl := 0) C dX10_clear_0 rfl rfl ?_
  refine gf10_2 C o_108 k4_99 dX10_clear_1 ?_
  refine G.iconst (v := 0) C dX10_clear_4 (by decide) ?_
  refine G.iald (v := (M.1 111 0)) C a_111 (vp_inC (by decide)) rfl dX10_clear_5 ?_
  refine G.istore_n (lv' := [(1, .int (M.1 111 0)), (0, .ref (ad 108))]) C dX10_clear_6 rfl (by decide) rfl ?_
  refine G.aload_n (pl := 1) C dX10_clear_7 rfl rfl ?_
  refine gf10_2 C o_108 k4_99 dX10_clear_8 ?_
  refine G.iconst (v := 0) C dX10_clear_11 (by decide) ?_
  refine G.iconst (v := 0) C dX10_clear_12 (by decide) ?_
  obtain ⟨M1, eM1, hf⟩ := stm_some hf
  refine G.iast C a_111 (vp_inC (by decide)) eM1 dX10_clear_13 ?_
  refine G.iload_n (pl := 0) C dX10_clear_14 rfl rfl ?_
  cases hf
  exact G.iret C Rt dX10_clear_15
theorem mv_X10_clear : gMV yX10_clear cX10_clear 2 (some .int) 0 := ⟨k5_5, k5_6, k1_12, k5_7, ⟨by decide +kernel, by decide +kernel, by decide +kernel⟩, by decide⟩
theorem c_X10_clear {res : (Int32 × Mem)} {M : Mem} (hf : f_X10_clear M = some res) : Ct yX10_clear cX10_clear 2 (some .int) 1 (fun ad => [.ref (ad 108)]) M (some (.int res.1)) res.2 :=
  Ct.of (by decide +kernel) (fun _ => Nat.le_of_ble_eq_true rfl) (fun X ad C Rt => w_X10_clear_E C Rt M hf)
set_option maxRecDepth 100000 in
set_option maxHeartbeats 4000000 in
theorem w_X10_next_40 {X : Gc} {ad : Nat → Nat} {res : (Int32 × Mem)} (C : Gk X ad cX10_next "NineTonguesModel" 1 1) (Rt : Gr X ad (some .int) (some (.int res.1)) res.2) (M : Mem) (hf : f_X10_next_40 M = some res) : G X ad 40 1 [(0, .ref (ad 108))] [] M := by
  unfold f_X10_next_40 at hf
  refine G.aload_n (pl := 0) C dX10_next_40 rfl rfl ?_
  refine gf10_16 C o_108 k4_113 dX10_next_41 ?_
  refine G.aload_n (pl := 0) C dX10_next_44 rfl rfl ?_
  refine gf10_2 C o_108 k4_99 dX10_next_45 ?_
  refine G.iconst (v := 0) C dX10_next_48 (by decide) ?_
  refine G.iald (v := (M.1 111 0)) C a_111 (vp_inC (by decide)) rfl dX10_next_49 ?_
  refine G.icmp_ge (tgt := 65) C dX10_next_50 (by decide) (fun hc1 => ?_) (fun hc1 => ?_)
  · replace hf := gIf hf hc1
    refine G.iconst (v := (-1)) C dX10_next_65 (by decide) ?_
    cases hf
    exact G.iret C Rt dX10_next_66
  · replace hf := gIfn hf hc1
    refine G.aload_n (pl := 0) C dX10_next_53 rfl rfl ?_
    refine gf10_6 C o_108 k4_103 dX10_next_54 ?_
    refine G.aload_n (pl := 0) C dX10_next_57 rfl rfl ?_
    refine gf10_16 C o_108 k4_113 dX10_next_58 ?_
    obtain ⟨v1, ev1, hi1, hf⟩ := rd_some hf
    refine G.iald C a_115 hi1 ev1 dX10_next_61 ?_
    refine G.goto (tgt := 66) C dX10_next_62 (by decide) ?_
    cases hf
    exact G.iret C Rt dX10_next_66
set_option maxRecDepth 100000 in
set_option maxHeartbeats 4000000 in
theorem w_X10_next_0_b {X : Gc} {ad : Nat → Nat} {res : (Int32 × Mem)} {r_0 : Mem → Option (Int32 × Mem)} (C : Gk X ad cX10_next "NineTonguesModel" 1 1) (Rt : Gr X ad (some .int) (some (.int res.1)) res.2) (h_0 : ∀ (M : Mem), r_0  M = some res → G X ad 0 1 [(0, .ref (ad 108))] [] M) (M : Mem) (hf : f_X10_next_0_b r_0 M = some res) : G X ad 0 1 [(0, .ref (ad 108))] [] M := by
  unfold f_X10_next_0_b at hf
  refine G.aload_n (pl := 0) C dX10_next_0 rfl rfl ?_
  refine gf10_16 C o_108 k4_113 dX10_next_1 ?_
  refine G.aload_n (pl := 0) C dX10_next_4 rfl rfl ?_
  refine gf10_2 C o_108 k4_99 dX10_next_5 ?_
  refine G.iconst (v := 0) C dX10_next_8 (by decide) ?_
  refine G.iald (v := (M.1 111 0)) C a_111 (vp_inC (by decide)) rfl dX10_next_9 ?_
  refine G.icmp_ge (tgt := 40) C dX10_next_10 (by decide) (fun hc1 => ?_) (fun hc1 => ?_)
  · replace hf := gIf hf hc1
    exact w_X10_next_40 C Rt M hf
  · replace hf := gIfn hf hc1
    refine G.aload_n (pl := 0) C dX10_next_13 rfl rfl ?_
    refine gf10_6 C o_108 k4_103 dX10_next_14 ?_
    refine G.aload_n (pl := 0) C dX10_next_17 rfl rfl ?_
    refine gf10_16 C o_108 k4_113 dX10_next_18 ?_
    obtain ⟨v1, ev1, hi1, hf⟩ := rd_some hf
    refine G.iald C a_115 hi1 ev1 dX10_next_21 ?_
    refine G.bipush (v := 32) C dX10_next_22 (by decide) ?_
    refine G.icmp_ne (tgt := 40) C dX10_next_24 (by decide) (fun hc2 => ?_) (fun hc2 => ?_)
    · replace hf := gIfn hf hc2
      exact w_X10_next_40 C Rt M hf
    · replace hf := gIf hf hc2
      refine G.aload_n (pl := 0) C dX10_next_27 rfl rfl ?_
      refine G.dup C dX10_next_28 rfl ?_
      refine gf10_16 C o_108 k4_113 dX10_next_29 ?_
      refine G.iconst (v := 1) C dX10_next_32 (by decide) ?_
      refine G.iadd C dX10_next_33 ?_
      obtain ⟨M1, eM1, hf⟩ := stm_some hf
      refine gp10_16 C o_108 k4_113 eM1 dX10_next_34 ?_
      refine G.goto (tgt := 0) C dX10_next_37 (by decide) ?_
      exact h_0  M1 hf
theorem w_X10_next_0 {X : Gc} {ad : Nat → Nat} {res : (Int32 × Mem)} (C : Gk X ad cX10_next "NineTonguesModel" 1 1) (Rt : Gr X ad (some .int) (some (.int res.1)) res.2) : ∀ (n : Nat) (M : Mem), f_X10_next_0 n M = some res → G X ad 0 1 [(0, .ref (ad 108))] [] M := by
  intro n
  induction n with
  | zero => intro M hf; exact absurd (show (none : Option (Int32 × Mem)) = some res from hf) (fun h => nomatch h)
  | succ n ih => intro M hf; exact w_X10_next_0_b C Rt ih M hf
set_option maxRecDepth 100000 in
set_option maxHeartbeats 4000000 in
theorem w_X10_next_E {X : Gc} {ad : Nat → Nat} {res : (Int32 × Mem)} (C : Gk X ad cX10_next "NineTonguesModel" 1 1) (Rt : Gr X ad (some .int) (some (.int res.1)) res.2) (M : Mem) (hf : f_X10_next M = some res) : G X ad 0 1 [(0, .ref (ad 108))] [] M := by
  unfold f_X10_next at hf
  exact w_X10_next_0 C Rt FU M hf
theorem mv_X10_next : gMV yX10_next cX10_next 1 (some .int) 0 := ⟨k5_18, kS_31, k1_12, k5_19, ⟨by decide +kernel, by decide +kernel, by decide +kernel⟩, by decide⟩
theorem c_X10_next {res : (Int32 × Mem)} {M : Mem} (hf : f_X10_next M = some res) : Ct yX10_next cX10_next 1 (some .int) 1 (fun ad => [.ref (ad 108)]) M (some (.int res.1)) res.2 :=
  Ct.of (by decide +kernel) (fun _ => Nat.le_of_ble_eq_true rfl) (fun X ad C Rt => w_X10_next_E C Rt M hf)
set_option maxRecDepth 100000 in
set_option maxHeartbeats 4000000 in
theorem w_X10_puts_E {X : Gc} {ad : Nat → Nat} {res : (Unit × Mem)} (C : Gk X ad cX10_puts "NineTonguesModel" 3 1) (Rt : Gr X ad none none res.2) (x1 : Int32) (x2 : Int32) (M : Mem) (hf : f_X10_puts x1 x2 M = some res) : G X ad 0 3 [(0, .ref (ad 108)), (1, .int x1), (2, .int x2)] [] M := by
  unfold f_X10_puts at hf
  refine G.aload_n (pl := 0) C dX10_puts_0 rfl rfl ?_
  refine gf10_14 C o_108 k4_111 dX10_puts_1 ?_
  refine G.sipush (v := 200) C dX10_puts_4 (by decide) ?_
  refine G.icmp_gt (tgt := 46) C dX10_puts_7 (by decide) (fun hc1 => ?_) (fun hc1 => ?_)
  · replace hf := gIf hf hc1
    cases hf
    exact G.vret C Rt dX10_puts_46
  · replace hf := gIfn hf hc1
    refine G.aload_n (pl := 0) C dX10_puts_10 rfl rfl ?_
    refine gf10_15 C o_108 k4_112 dX10_puts_11 ?_
    refine G.iconst (v := 2) C dX10_puts_14 (by decide) ?_
    refine G.aload_n (pl := 0) C dX10_puts_15 rfl rfl ?_
    refine gf10_14 C o_108 k4_111 dX10_puts_16 ?_
    refine G.imul C dX10_puts_19 ?_
    refine G.iload_n (pl := 1) C dX10_puts_20 rfl rfl ?_
    obtain ⟨hi1, hf⟩ := ck_some hf
    obtain ⟨M1, eM1, hf⟩ := stm_some hf
    refine G.iast C a_121 hi1 eM1 dX10_puts_21 ?_
    refine G.aload_n (pl := 0) C dX10_puts_22 rfl rfl ?_
    refine gf10_15 C o_108 k4_112 dX10_puts_23 ?_
    refine G.iconst (v := 2) C dX10_puts_26 (by decide) ?_
    refine G.aload_n (pl := 0) C dX10_puts_27 rfl rfl ?_
    refine gf10_14 C o_108 k4_111 dX10_puts_28 ?_
    refine G.imul C dX10_puts_31 ?_
    refine G.iconst (v := 1) C dX10_puts_32 (by decide) ?_
    refine G.iadd C dX10_puts_33 ?_
    refine G.iload_n (pl := 2) C dX10_puts_34 rfl rfl ?_
    obtain ⟨hi2, hf⟩ := ck_some hf
    obtain ⟨M2, eM2, hf⟩ := stm_some hf
    refine G.iast C a_121 hi2 eM2 dX10_puts_35 ?_
    refine G.aload_n (pl := 0) C dX10_puts_36 rfl rfl ?_
    refine G.dup C dX10_puts_37 rfl ?_
    refine gf10_14 C o_108 k4_111 dX10_puts_38 ?_
    refine G.iconst (v := 1) C dX10_puts_41 (by decide) ?_
    refine G.iadd C dX10_puts_42 ?_
    obtain ⟨M3, eM3, hf⟩ := stm_some hf
    refine gp10_14 C o_108 k4_111 eM3 dX10_puts_43 ?_
    cases hf
    exact G.vret C Rt dX10_puts_46
theorem mv_X10_puts : gMV yX10_puts cX10_puts 3 none 2 := ⟨k5_26, kS_33, k1_12, k5_27, ⟨by decide +kernel, by decide +kernel, by decide +kernel⟩, by decide⟩
theorem c_X10_puts {res : (Unit × Mem)} {x1 : Int32} {x2 : Int32} {M : Mem} (hf : f_X10_puts x1 x2 M = some res) : Ct yX10_puts cX10_puts 3 none 1 (fun ad => [.ref (ad 108), .int x1, .int x2]) M none res.2 :=
  Ct.of (by decide +kernel) (fun _ => Nat.le_of_ble_eq_true rfl) (fun X ad C Rt => w_X10_puts_E C Rt x1 x2 M hf)
set_option maxRecDepth 100000 in
set_option maxHeartbeats 4000000 in
theorem w_X10_again_10_b {X : Gc} {ad : Nat → Nat} {res : (Unit × Mem)} {r_10 : Int32 → Mem → Option (Unit × Mem)} (C : Gk X ad cX10_again "NineTonguesModel" 5 2) (Rt : Gr X ad none none res.2) (x1 : Int32) (x2 : Int32) (x3 : Int32) (h_10 : ∀ (x4 : Int32) (M : Mem), r_10 x4 M = some res → G X ad 10 5 [(0, .ref (ad 108)), (1, .int x1), (2, .int x2), (3, .int x3), (4, .int x4)] [] M) (x4 : Int32) (M : Mem) (hf : f_X10_again_10_b r_10 x1 x2 x3 x4 M = some res) : G X ad 10 5 [(0, .ref (ad 108)), (1, .int x1), (2, .int x2), (3, .int x3), (4, .int x4)] [] M := by
  unfold f_X10_again_10_b at hf
  refine G.iload (pl := 4) C dX10_again_10 rfl ?_
  refine G.iload_n (pl := 3) C dX10_again_12 rfl rfl ?_
  refine G.iload_n (pl := 2) C dX10_again_13 rfl rfl ?_
  refine G.iconst (v := 1) C dX10_again_14 (by decide) ?_
  refine G.isub C dX10_again_15 ?_
  refine G.imul C dX10_again_16 ?_
  refine G.icmp_ge (tgt := 64) C dX10_again_17 (by decide) (fun hc1 => ?_) (fun hc1 => ?_)
  · replace hf := gIf hf hc1
    cases hf
    exact G.vret C Rt dX10_again_64
  · replace hf := gIfn hf hc1
    refine G.aload_n (pl := 0) C dX10_again_20 rfl rfl ?_
    refine gf10_14 C o_108 k4_111 dX10_again_21 ?_
    refine G.sipush (v := 200) C dX10_again_24 (by decide) ?_
    refine G.icmp_gt (tgt := 64) C dX10_again_27 (by decide) (fun hc2 => ?_) (fun hc2 => ?_)
    · replace hf := gIf hf hc2
      cases hf
      exact G.vret C Rt dX10_again_64
    · replace hf := gIfn hf hc2
      refine G.aload_n (pl := 0) C dX10_again_30 rfl rfl ?_
      refine G.aload_n (pl := 0) C dX10_again_31 rfl rfl ?_
      refine gf10_15 C o_108 k4_112 dX10_again_32 ?_
      refine G.iconst (v := 2) C dX10_again_35 (by decide) ?_
      refine G.iload_n (pl := 1) C dX10_again_36 rfl rfl ?_
      refine G.iload (pl := 4) C dX10_again_37 rfl ?_
      refine G.iadd C dX10_again_39 ?_
      refine G.imul C dX10_again_40 ?_
      obtain ⟨v1, ev1, hi1, hf⟩ := rd_some hf
      refine G.iald C a_121 hi1 ev1 dX10_again_41 ?_
      refine G.aload_n (pl := 0) C dX10_again_42 rfl rfl ?_
      refine gf10_15 C o_108 k4_112 dX10_again_43 ?_
      refine G.iconst (v := 2) C dX10_again_46 (by decide) ?_
      refine G.iload_n (pl := 1) C dX10_again_47 rfl rfl ?_
      refine G.iload (pl := 4) C dX10_again_48 rfl ?_
      refine G.iadd C dX10_again_50 ?_
      refine G.imul C dX10_again_51 ?_
      refine G.iconst (v := 1) C dX10_again_52 (by decide) ?_
      refine G.iadd C dX10_again_53 ?_
      obtain ⟨v2, ev2, hi2, hf⟩ := rd_some hf
      refine G.iald C a_121 hi2 ev2 dX10_again_54 ?_
      obtain ⟨u, M1, hr1, hf⟩ := cl_some hf
      refine G.callV (st1 := []) C [.int v1, .int v2] [] (c_X10_puts hr1) mv_X10_puts k5_24 o_108.1 (fun _ => gShp_20 o_108) rfl rfl rfl rfl rfl (Nat.le_of_ble_eq_true rfl) (by decide) dX10_again_55 rfl ?_
      refine G.iinc (pl := 4) (v := (x4 + 1)) (lv' := [(4, .int (x4 + 1)), (0, .ref (ad 108)), (1, .int x1), (2, .int x2), (3, .int x3)]) C dX10_again_58 rfl rfl (by decide) rfl ?_
      refine G.goto (tgt := 10) C dX10_again_61 (by decide) ?_
      refine G.sub (lv' := [(0, .ref (ad 108)), (1, .int x1), (2, .int x2), (3, .int x3), (4, .int (x4 + 1))]) [1, 2, 3, 4, 0] rfl ?_
      exact h_10 (x4 + 1) M1 hf
theorem w_X10_again_10 {X : Gc} {ad : Nat → Nat} {res : (Unit × Mem)} (C : Gk X ad cX10_again "NineTonguesModel" 5 2) (Rt : Gr X ad none none res.2) (x1 : Int32) (x2 : Int32) (x3 : Int32) : ∀ (n : Nat) (x4 : Int32) (M : Mem), f_X10_again_10 x1 x2 x3 n x4 M = some res → G X ad 10 5 [(0, .ref (ad 108)), (1, .int x1), (2, .int x2), (3, .int x3), (4, .int x4)] [] M := by
  intro n
  induction n with
  | zero => intro x4 M hf; exact absurd (show (none : Option (Unit × Mem)) = some res from hf) (fun h => nomatch h)
  | succ n ih => intro x4 M hf; exact w_X10_again_10_b C Rt x1 x2 x3 ih x4 M hf
set_option maxRecDepth 100000 in
set_option maxHeartbeats 4000000 in
theorem w_X10_again_E {X : Gc} {ad : Nat → Nat} {res : (Unit × Mem)} (C : Gk X ad cX10_again "NineTonguesModel" 5 2) (Rt : Gr X ad none none res.2) (x1 : Int32) (x2 : Int32) (M : Mem) (hf : f_X10_again x1 x2 M = some res) : G X ad 0 5 [(0, .ref (ad 108)), (1, .int x1), (2, .int x2)] [] M := by
  unfold f_X10_again at hf
  refine G.aload_n (pl := 0) C dX10_again_0 rfl rfl ?_
  refine gf10_14 C o_108 k4_111 dX10_again_1 ?_
  refine G.iload_n (pl := 1) C dX10_again_4 rfl rfl ?_
  refine G.isub C dX10_again_5 ?_
  refine G.istore_n (lv' := [(3, .int ((M.1 108 14) - x1)), (0, .ref (ad 108)), (1, .int x1), (2, .int x2)]) C dX10_again_6 rfl (by decide) rfl ?_
  refine G.iconst (v := 0) C dX10_again_7 (by decide) ?_
  refine G.istore (lv' := [(4, .int (0 : Int32)), (3, .int ((M.1 108 14) - x1)), (0, .ref (ad 108)), (1, .int x1), (2, .int x2)]) C dX10_again_8 (by decide) rfl ?_
  refine G.sub (lv' := [(0, .ref (ad 108)), (1, .int x1), (2, .int x2), (3, .int ((M.1 108 14) - x1)), (4, .int (0 : Int32))]) [2, 3, 4, 1, 0] rfl ?_
  exact w_X10_again_10 C Rt x1 x2 ((M.1 108 14) - x1) FU (0 : Int32) M hf
theorem mv_X10_again : gMV yX10_again cX10_again 5 none 2 := ⟨k5_30, kS_34, k1_12, k5_31, ⟨by decide +kernel, by decide +kernel, by decide +kernel⟩, by decide⟩
theorem c_X10_again {res : (Unit × Mem)} {x1 : Int32} {x2 : Int32} {M : Mem} (hf : f_X10_again x1 x2 M = some res) : Ct yX10_again cX10_again 5 none 2 (fun ad => [.ref (ad 108), .int x1, .int x2]) M none res.2 :=
  Ct.of (by decide +kernel) (fun _ => Nat.le_of_ble_eq_true rfl) (fun X ad C Rt => w_X10_again_E C Rt x1 x2 M hf)
