set_option maxRecDepth 100000 in
set_option maxHeartbeats 4000000 in
theorem w_X10_counts_114 {X : Gc} {ad : Nat → Nat} {res : (Unit × Mem)} (C : Gk X ad cX10_counts "NineTonguesModel" 5 1) (Rt : Gr X ad none none res.2) (t3 : Int32) (t2 : Int32) (t1 : Int32) (M : Mem) (hf : f_X10_counts_114 t3 t2 t1 M = some res) : G X ad 114 5 [] [.int t3, .int t2, .int t1, .ref (ad 128)] M := by
  unfold f_X10_counts_114 at hf
  refine G.iadd C dX10_counts_114 ?_
  obtain ⟨hi1, hf⟩ := ck_some hf
  obtain ⟨M1, eM1, hf⟩ := stm_some hf
  refine G.iast C a_128 hi1 eM1 dX10_counts_115 ?_
  cases hf
  exact G.vret C Rt dX10_counts_116
set_option maxRecDepth 100000 in
set_option maxHeartbeats 4000000 in
theorem w_X10_counts_95 {X : Gc} {ad : Nat → Nat} {res : (Unit × Mem)} (C : Gk X ad cX10_counts "NineTonguesModel" 5 1) (Rt : Gr X ad none none res.2) (x3 : Int32) (x4 : Int32) (t3 : Int32) (t2 : Int32) (t1 : Int32) (M : Mem) (hf : f_X10_counts_95 x3 x4 t3 t2 t1 M = some res) : G X ad 95 5 [(0, .ref (ad 108)), (3, .int x3), (4, .int x4)] [.int t3, .int t2, .int t1, .ref (ad 128)] M := by
  unfold f_X10_counts_95 at hf
  refine G.iadd C dX10_counts_95 ?_
  obtain ⟨hi1, hf⟩ := ck_some hf
  obtain ⟨M1, eM1, hf⟩ := stm_some hf
  refine G.iast C a_128 hi1 eM1 dX10_counts_96 ?_
  refine G.aload_n (pl := 0) C dX10_counts_97 rfl rfl ?_
  refine gf10_23 C o_108 k4_120 dX10_counts_98 ?_
  refine G.iload_n (pl := 1) C dX10_counts_101 rfl rfl ?_
  refine G.dup2 C dX10_counts_102 rfl rfl ?_
  obtain ⟨v1, ev1, hi2, hf⟩ := rd_some hf
  refine G.iald C a_128 hi2 ev1 dX10_counts_103 ?_
  refine G.iload (pl := 2) C dX10_counts_104 rfl ?_
  refine G.if_eq (tgt := 113) C dX10_counts_106 (by decide) (fun hc1 => ?_) (fun hc1 => ?_)
  · replace hf := gIf hf hc1
    refine G.iconst (v := 1) C dX10_counts_113 (by decide) ?_
    refine G.sub (lv' := []) [] rfl ?_
    exact w_X10_counts_114 C Rt (1 : Int32) v1 x3 M1 hf
  · replace hf := gIfn hf hc1
    refine G.iconst (v := 0) C dX10_counts_109 (by decide) ?_
    refine G.goto (tgt := 114) C dX10_counts_110 (by decide) ?_
    refine G.sub (lv' := []) [] rfl ?_
    exact w_X10_counts_114 C Rt (0 : Int32) v1 x3 M1 hf
set_option maxRecDepth 100000 in
set_option maxHeartbeats 4000000 in
theorem w_X10_counts_76 {X : Gc} {ad : Nat → Nat} {res : (Unit × Mem)} (C : Gk X ad cX10_counts "NineTonguesModel" 5 1) (Rt : Gr X ad none none res.2) (x2 : Int32) (x3 : Int32) (x4 : Int32) (t3 : Int32) (t2 : Int32) (t1 : Int32) (M : Mem) (hf : f_X10_counts_76 x2 x3 x4 t3 t2 t1 M = some res) : G X ad 76 5 [(0, .ref (ad 108)), (2, .int x2), (3, .int x3), (4, .int x4)] [.int t3, .int t2, .int t1, .ref (ad 128)] M := by
  unfold f_X10_counts_76 at hf
  refine G.iadd C dX10_counts_76 ?_
  obtain ⟨hi1, hf⟩ := ck_some hf
  obtain ⟨M1, eM1, hf⟩ := stm_some hf
  refine G.iast C a_128 hi1 eM1 dX10_counts_77 ?_
  refine G.aload_n (pl := 0) C dX10_counts_78 rfl rfl ?_
  refine gf10_23 C o_108 k4_120 dX10_counts_79 ?_
  refine G.iload_n (pl := 1) C dX10_counts_82 rfl rfl ?_
  refine G.dup2 C dX10_counts_83 rfl rfl ?_
  obtain ⟨v1, ev1, hi2, hf⟩ := rd_some hf
  refine G.iald C a_128 hi2 ev1 dX10_counts_84 ?_
  refine G.iload (pl := 3) C dX10_counts_85 rfl ?_
  refine G.if_eq (tgt := 94) C dX10_counts_87 (by decide) (fun hc1 => ?_) (fun hc1 => ?_)
  · replace hf := gIf hf hc1
    refine G.iconst (v := 1) C dX10_counts_94 (by decide) ?_
    refine G.sub (lv' := [(0, .ref (ad 108)), (3, .int x3), (4, .int x4)]) [0, 2, 3] rfl ?_
    exact w_X10_counts_95 C Rt x3 x4 (1 : Int32) v1 x2 M1 hf
  · replace hf := gIfn hf hc1
    refine G.iconst (v := 0) C dX10_counts_90 (by decide) ?_
    refine G.goto (tgt := 95) C dX10_counts_91 (by decide) ?_
    refine G.sub (lv' := [(0, .ref (ad 108)), (3, .int x3), (4, .int x4)]) [0, 2, 3] rfl ?_
    exact w_X10_counts_95 C Rt x3 x4 (0 : Int32) v1 x2 M1 hf
set_option maxRecDepth 100000 in
set_option maxHeartbeats 4000000 in
theorem w_X10_counts_25 {X : Gc} {ad : Nat → Nat} {res : (Unit × Mem)} (C : Gk X ad cX10_counts "NineTonguesModel" 5 1) (Rt : Gr X ad none none res.2) (x1 : Int32) (x2 : Int32) (x3 : Int32) (x4 : Int32) (t2 : Int32) (t1 : Int32) (M : Mem) (hf : f_X10_counts_25 x1 x2 x3 x4 t2 t1 M = some res) : G X ad 25 5 [(0, .ref (ad 108)), (1, .int x1), (2, .int x2), (3, .int x3), (4, .int x4)] [.int t2, .int t1, .ref (ad 108)] M := by
  unfold f_X10_counts_25 at hf
  refine G.iadd C dX10_counts_25 ?_
  obtain ⟨M1, eM1, hf⟩ := stm_some hf
  refine gp10_25 C o_108 k4_122 eM1 dX10_counts_26 ?_
  refine G.aload_n (pl := 0) C dX10_counts_29 rfl rfl ?_
  refine gf10_22 C o_108 k4_119 dX10_counts_30 ?_
  refine G.iload_n (pl := 1) C dX10_counts_33 rfl rfl ?_
  refine G.dup2 C dX10_counts_34 rfl rfl ?_
  obtain ⟨v1, ev1, hi1, hf⟩ := rd_some hf
  refine G.iald C a_127 hi1 ev1 dX10_counts_35 ?_
  refine G.iconst (v := 1) C dX10_counts_36 (by decide) ?_
  refine G.iadd C dX10_counts_37 ?_
  obtain ⟨hi2, hf⟩ := ck_some hf
  obtain ⟨M2, eM2, hf⟩ := stm_some hf
  refine G.iast C a_127 hi2 eM2 dX10_counts_38 ?_
  refine G.aload_n (pl := 0) C dX10_counts_39 rfl rfl ?_
  refine gf10_22 C o_108 k4_119 dX10_counts_40 ?_
  refine G.iload_n (pl := 2) C dX10_counts_43 rfl rfl ?_
  refine G.dup2 C dX10_counts_44 rfl rfl ?_
  obtain ⟨v2, ev2, hi3, hf⟩ := rd_some hf
  refine G.iald C a_127 hi3 ev2 dX10_counts_45 ?_
  refine G.iconst (v := 1) C dX10_counts_46 (by decide) ?_
  refine G.iadd C dX10_counts_47 ?_
  obtain ⟨hi4, hf⟩ := ck_some hf
  obtain ⟨M3, eM3, hf⟩ := stm_some hf
  refine G.iast C a_127 hi4 eM3 dX10_counts_48 ?_
  refine G.aload_n (pl := 0) C dX10_counts_49 rfl rfl ?_
  refine gf10_22 C o_108 k4_119 dX10_counts_50 ?_
  refine G.iload_n (pl := 3) C dX10_counts_53 rfl rfl ?_
  refine G.dup2 C dX10_counts_54 rfl rfl ?_
  obtain ⟨v3, ev3, hi5, hf⟩ := rd_some hf
  refine G.iald C a_127 hi5 ev3 dX10_counts_55 ?_
  refine G.iconst (v := 1) C dX10_counts_56 (by decide) ?_
  refine G.iadd C dX10_counts_57 ?_
  obtain ⟨hi6, hf⟩ := ck_some hf
  obtain ⟨M4, eM4, hf⟩ := stm_some hf
  refine G.iast C a_127 hi6 eM4 dX10_counts_58 ?_
  refine G.aload_n (pl := 0) C dX10_counts_59 rfl rfl ?_
  refine gf10_23 C o_108 k4_120 dX10_counts_60 ?_
  refine G.iload_n (pl := 1) C dX10_counts_63 rfl rfl ?_
  refine G.dup2 C dX10_counts_64 rfl rfl ?_
  obtain ⟨v4, ev4, hi7, hf⟩ := rd_some hf
  refine G.iald C a_128 hi7 ev4 dX10_counts_65 ?_
  refine G.iload (pl := 4) C dX10_counts_66 rfl ?_
  refine G.if_eq (tgt := 75) C dX10_counts_68 (by decide) (fun hc1 => ?_) (fun hc1 => ?_)
  · replace hf := gIf hf hc1
    refine G.iconst (v := 1) C dX10_counts_75 (by decide) ?_
    refine G.sub (lv' := [(0, .ref (ad 108)), (2, .int x2), (3, .int x3), (4, .int x4)]) [0, 2, 3, 4] rfl ?_
    exact w_X10_counts_76 C Rt x2 x3 x4 (1 : Int32) v4 x1 M4 hf
  · replace hf := gIfn hf hc1
    refine G.iconst (v := 0) C dX10_counts_71 (by decide) ?_
    refine G.goto (tgt := 76) C dX10_counts_72 (by decide) ?_
    refine G.sub (lv' := [(0, .ref (ad 108)), (2, .int x2), (3, .int x3), (4, .int x4)]) [0, 2, 3, 4] rfl ?_
    exact w_X10_counts_76 C Rt x2 x3 x4 (0 : Int32) v4 x1 M4 hf
set_option maxRecDepth 100000 in
set_option maxHeartbeats 4000000 in
theorem w_X10_counts_E {X : Gc} {ad : Nat → Nat} {res : (Unit × Mem)} (C : Gk X ad cX10_counts "NineTonguesModel" 5 1) (Rt : Gr X ad none none res.2) (x1 : Int32) (x2 : Int32) (x3 : Int32) (x4 : Int32) (M : Mem) (hf : f_X10_counts x1 x2 x3 x4 M = some res) : G X ad 0 5 [(0, .ref (ad 108)), (1, .int x1), (2, .int x2), (3, .int x3), (4, .int x4)] [] M := by
  unfold f_X10_counts at hf
  refine G.aload_n (pl := 0) C dX10_counts_0 rfl rfl ?_
  refine G.dup C dX10_counts_1 rfl ?_
  refine gf10_24 C o_108 k4_121 dX10_counts_2 ?_
  refine G.iconst (v := 1) C dX10_counts_5 (by decide) ?_
  refine G.iadd C dX10_counts_6 ?_
  obtain ⟨M1, eM1, hf⟩ := stm_some hf
  refine gp10_24 C o_108 k4_121 eM1 dX10_counts_7 ?_
  refine G.aload_n (pl := 0) C dX10_counts_10 rfl rfl ?_
  refine G.dup C dX10_counts_11 rfl ?_
  refine gf10_25 C o_108 k4_122 dX10_counts_12 ?_
  refine G.iload (pl := 4) C dX10_counts_15 rfl ?_
  refine G.if_eq (tgt := 24) C dX10_counts_17 (by decide) (fun hc1 => ?_) (fun hc1 => ?_)
  · replace hf := gIf hf hc1
    refine G.iconst (v := 0) C dX10_counts_24 (by decide) ?_
    exact w_X10_counts_25 C Rt x1 x2 x3 x4 (0 : Int32) (M1.1 108 25) M1 hf
  · replace hf := gIfn hf hc1
    refine G.iconst (v := 1) C dX10_counts_20 (by decide) ?_
    refine G.goto (tgt := 25) C dX10_counts_21 (by decide) ?_
    exact w_X10_counts_25 C Rt x1 x2 x3 x4 (1 : Int32) (M1.1 108 25) M1 hf
theorem mv_X10_counts : gMV yX10_counts cX10_counts 5 none 4 := ⟨k5_181, kS_54, k1_12, k5_182, ⟨by decide +kernel, by decide +kernel, by decide +kernel⟩, by decide⟩
theorem c_X10_counts {res : (Unit × Mem)} {x1 : Int32} {x2 : Int32} {x3 : Int32} {x4 : Int32} {M : Mem} (hf : f_X10_counts x1 x2 x3 x4 M = some res) : Ct yX10_counts cX10_counts 5 none 1 (fun ad => [.ref (ad 108), .int x1, .int x2, .int x3, .int x4]) M none res.2 :=
  Ct.of (by decide +kernel) (fun _ => Nat.le_of_ble_eq_true rfl) (fun X ad C Rt => w_X10_counts_E C Rt x1 x2 x3 x4 M hf)
set_option maxRecDepth 100000 in
set_option maxHeartbeats 4000000 in
theorem w_X10_ring_127 {X : Gc} {ad : Nat → Nat} {res : (Unit × Mem)} {r_3 : Int32 → Mem → Option (Unit × Mem)} (C : Gk X ad cX10_ring "NineTonguesModel" 11 2) (Rt : Gr X ad none none res.2) (x1 : Int32) (x2 : Int32) (x3 : Int32) (x4 : Int32) (x5 : Int32) (M : Mem) (h_3 : ∀ (x5 : Int32) (M : Mem), r_3 x5 M = some res → G X ad 3 11 [(0, .ref (ad 108)), (1, .int x1), (2, .int x2), (3, .int x3), (4, .int x4), (5, .int x5)] [] M) (hf : f_X10_ring_127 r_3 x1 x2 x3 x4 x5 M = some res) : G X ad 127 11 [(0, .ref (ad 108)), (1, .int x1), (2, .int x2), (3, .int x3), (4, .int x4), (5, .int x5)] [] M := by
  unfold f_X10_ring_127 at hf
  refine G.iinc (pl := 5) (v := (x5 + 1)) (lv' := [(5, .int (x5 + 1)), (0, .ref (ad 108)), (1, .int x1), (2, .int x2), (3, .int x3), (4, .int x4)]) C dX10_ring_127 rfl rfl (by decide) rfl ?_
  refine G.goto (tgt := 3) C dX10_ring_130 (by decide) ?_
  refine G.sub (lv' := [(0, .ref (ad 108)), (1, .int x1), (2, .int x2), (3, .int x3), (4, .int x4), (5, .int (x5 + 1))]) [1, 2, 3, 4, 5, 0] rfl ?_
  exact h_3 (x5 + 1) M hf
set_option maxRecDepth 100000 in
set_option maxHeartbeats 4000000 in
theorem w_X10_ring_121 {X : Gc} {ad : Nat → Nat} {res : (Unit × Mem)} {r_29 : Int32 → Mem → Option (Unit × Mem)} (C : Gk X ad cX10_ring "NineTonguesModel" 11 2) (Rt : Gr X ad none none res.2) (x1 : Int32) (x2 : Int32) (x3 : Int32) (x4 : Int32) (x5 : Int32) (x6 : Int32) (x7 : Int32) (M : Mem) (h_29 : ∀ (x7 : Int32) (M : Mem), r_29 x7 M = some res → G X ad 29 11 [(0, .ref (ad 108)), (1, .int x1), (2, .int x2), (3, .int x3), (4, .int x4), (5, .int x5), (6, .int x6), (7, .int x7)] [] M) (hf : f_X10_ring_121 r_29 x1 x2 x3 x4 x5 x6 x7 M = some res) : G X ad 121 11 [(0, .ref (ad 108)), (1, .int x1), (2, .int x2), (3, .int x3), (4, .int x4), (5, .int x5), (6, .int x6), (7, .int x7)] [] M := by
  unfold f_X10_ring_121 at hf
  refine G.iinc (pl := 7) (v := (x7 + 1)) (lv' := [(7, .int (x7 + 1)), (0, .ref (ad 108)), (1, .int x1), (2, .int x2), (3, .int x3), (4, .int x4), (5, .int x5), (6, .int x6)]) C dX10_ring_121 rfl rfl (by decide) rfl ?_
  refine G.goto (tgt := 29) C dX10_ring_124 (by decide) ?_
  refine G.sub (lv' := [(0, .ref (ad 108)), (1, .int x1), (2, .int x2), (3, .int x3), (4, .int x4), (5, .int x5), (6, .int x6), (7, .int (x7 + 1))]) [1, 2, 3, 4, 5, 6, 7, 0] rfl ?_
  exact h_29 (x7 + 1) M hf
set_option maxRecDepth 100000 in
set_option maxHeartbeats 4000000 in
theorem w_X10_ring_115 {X : Gc} {ad : Nat → Nat} {res : (Unit × Mem)} {r_60 : Int32 → Mem → Option (Unit × Mem)} (C : Gk X ad cX10_ring "NineTonguesModel" 11 2) (Rt : Gr X ad none none res.2) (x1 : Int32) (x2 : Int32) (x3 : Int32) (x4 : Int32) (x5 : Int32) (x6 : Int32) (x7 : Int32) (x8 : Int32) (x9 : Int32) (M : Mem) (h_60 : ∀ (x9 : Int32) (M : Mem), r_60 x9 M = some res → G X ad 60 11 [(0, .ref (ad 108)), (1, .int x1), (2, .int x2), (3, .int x3), (4, .int x4), (5, .int x5), (6, .int x6), (7, .int x7), (8, .int x8), (9, .int x9)] [] M) (hf : f_X10_ring_115 r_60 x1 x2 x3 x4 x5 x6 x7 x8 x9 M = some res) : G X ad 115 11 [(0, .ref (ad 108)), (1, .int x1), (2, .int x2), (3, .int x3), (4, .int x4), (5, .int x5), (6, .int x6), (7, .int x7), (8, .int x8), (9, .int x9)] [] M := by
  unfold f_X10_ring_115 at hf
  refine G.iinc (pl := 9) (v := (x9 + 1)) (lv' := [(9, .int (x9 + 1)), (0, .ref (ad 108)), (1, .int x1), (2, .int x2), (3, .int x3), (4, .int x4), (5, .int x5), (6, .int x6), (7, .int x7), (8, .int x8)]) C dX10_ring_115 rfl rfl (by decide) rfl ?_
  refine G.goto (tgt := 60) C dX10_ring_118 (by decide) ?_
  refine G.sub (lv' := [(0, .ref (ad 108)), (1, .int x1), (2, .int x2), (3, .int x3), (4, .int x4), (5, .int x5), (6, .int x6), (7, .int x7), (8, .int x8), (9, .int (x9 + 1))]) [1, 2, 3, 4, 5, 6, 7, 8, 9, 0] rfl ?_
  exact h_60 (x9 + 1) M hf
set_option maxRecDepth 100000 in
set_option maxHeartbeats 4000000 in
theorem w_X10_ring_112 {X : Gc} {ad : Nat → Nat} {res : (Unit × Mem)} {r_60 : Int32 → Mem → Option (Unit × Mem)} (C : Gk X ad cX10_ring "NineTonguesModel" 11 2) (Rt : Gr X ad none none res.2) (x1 : Int32) (x2 : Int32) (x3 : Int32) (x4 : Int32) (x5 : Int32) (x6 : Int32) (x7 : Int32) (x8 : Int32) (x9 : Int32) (t4 : Int32) (t3 : Int32) (t2 : Int32) (t1 : Int32) (M : Mem) (h_60 : ∀ (x9 : Int32) (M : Mem), r_60 x9 M = some res → G X ad 60 11 [(0, .ref (ad 108)), (1, .int x1), (2, .int x2), (3, .int x3), (4, .int x4), (5, .int x5), (6, .int x6), (7, .int x7), (8, .int x8), (9, .int x9)] [] M) (hf : f_X10_ring_112 r_60 x1 x2 x3 x4 x5 x6 x7 x8 x9 t4 t3 t2 t1 M = some res) : G X ad 112 11 [(0, .ref (ad 108)), (1, .int x1), (2, .int x2), (3, .int x3), (4, .int x4), (5, .int x5), (6, .int x6), (7, .int x7), (8, .int x8), (9, .int x9)] [.int t4, .int t3, .int t2, .int t1, .ref (ad 108)] M := by
  unfold f_X10_ring_112 at hf
  obtain ⟨u, M1, hr1, hf⟩ := cl_some hf
  refine G.callV (st1 := []) C [.int t1, .int t2, .int t3, .int t4] [] (c_X10_counts hr1) mv_X10_counts k5_179 o_108.1 (fun _ => gShp_20 o_108) rfl rfl rfl rfl rfl (Nat.le_of_ble_eq_true rfl) (by decide) dX10_ring_112 rfl ?_
  exact w_X10_ring_115 C Rt x1 x2 x3 x4 x5 x6 x7 x8 x9 M1 h_60 hf
set_option maxRecDepth 100000 in
set_option maxHeartbeats 4000000 in
theorem w_X10_ring_60_b {X : Gc} {ad : Nat → Nat} {res : (Unit × Mem)} {r_29 : Int32 → Mem → Option (Unit × Mem)} {r_60 : Int32 → Mem → Option (Unit × Mem)} (C : Gk X ad cX10_ring "NineTonguesModel" 11 2) (Rt : Gr X ad none none res.2) (x1 : Int32) (x2 : Int32) (x3 : Int32) (x4 : Int32) (x5 : Int32) (x6 : Int32) (x7 : Int32) (x8 : Int32) (h_29 : ∀ (x7 : Int32) (M : Mem), r_29 x7 M = some res → G X ad 29 11 [(0, .ref (ad 108)), (1, .int x1), (2, .int x2), (3, .int x3), (4, .int x4), (5, .int x5), (6, .int x6), (7, .int x7)] [] M) (h_60 : ∀ (x9 : Int32) (M : Mem), r_60 x9 M = some res → G X ad 60 11 [(0, .ref (ad 108)), (1, .int x1), (2, .int x2), (3, .int x3), (4, .int x4), (5, .int x5), (6, .int x6), (7, .int x7), (8, .int x8), (9, .int x9)] [] M) (x9 : Int32) (M : Mem) (hf : f_X10_ring_60_b r_29 r_60 x1 x2 x3 x4 x5 x6 x7 x8 x9 M = some res) : G X ad 60 11 [(0, .ref (ad 108)), (1, .int x1), (2, .int x2), (3, .int x3), (4, .int x4), (5, .int x5), (6, .int x6), (7, .int x7), (8, .int x8), (9, .int x9)] [] M := by
  unfold f_X10_ring_60_b at hf
  refine G.iload (pl := 9) C dX10_ring_60 rfl ?_
  refine G.aload_n (pl := 0) C dX10_ring_62 rfl rfl ?_
  refine gf10_3 C o_108 k4_100 dX10_ring_63 ?_
  refine G.iconst (v := 0) C dX10_ring_66 (by decide) ?_
  refine G.iald (v := (M.1 112 0)) C a_112 (vp_inC (by decide)) rfl dX10_ring_67 ?_
  refine G.icmp_ge (tgt := 121) C dX10_ring_68 (by decide) (fun hc1 => ?_) (fun hc1 => ?_)
  · replace hf := gIf hf hc1
    refine G.sub (lv' := [(0, .ref (ad 108)), (1, .int x1), (2, .int x2), (3, .int x3), (4, .int x4), (5, .int x5), (6, .int x6), (7, .int x7)]) [0, 1, 2, 3, 4, 5, 6, 7] rfl ?_
    exact w_X10_ring_121 C Rt x1 x2 x3 x4 x5 x6 x7 M h_29 hf
  · replace hf := gIfn hf hc1
    refine G.iload (pl := 8) C dX10_ring_71 rfl ?_
    refine G.if_lt (tgt := 121) C dX10_ring_73 (by decide) (fun hc2 => ?_) (fun hc2 => ?_)
    · replace hf := gIf hf hc2
      refine G.sub (lv' := [(0, .ref (ad 108)), (1, .int x1), (2, .int x2), (3, .int x3), (4, .int x4), (5, .int x5), (6, .int x6), (7, .int x7)]) [0, 1, 2, 3, 4, 5, 6, 7] rfl ?_
      exact w_X10_ring_121 C Rt x1 x2 x3 x4 x5 x6 x7 M h_29 hf
    · replace hf := gIfn hf hc2
      refine G.aload_n (pl := 0) C dX10_ring_76 rfl rfl ?_
      refine G.iload (pl := 9) C dX10_ring_77 rfl ?_
      refine G.iload_n (pl := 3) C dX10_ring_79 rfl rfl ?_
      refine G.iload (pl := 8) C dX10_ring_80 rfl ?_
      refine G.iload_n (pl := 1) C dX10_ring_82 rfl rfl ?_
      obtain ⟨v1, hr1, hf⟩ := cp_some hf
      refine G.callV (st1 := [.int v1]) C [.int x9, .int x3, .int x8, .int x1] [] (c_X10_leads hr1) mv_X10_leads k5_175 o_108.1 (fun _ => gShp_20 o_108) rfl rfl rfl rfl rfl (Nat.le_of_ble_eq_true rfl) (by decide) dX10_ring_83 rfl ?_
      refine G.istore (lv' := [(10, .int v1), (0, .ref (ad 108)), (1, .int x1), (2, .int x2), (3, .int x3), (4, .int x4), (5, .int x5), (6, .int x6), (7, .int x7), (8, .int x8), (9, .int x9)]) C dX10_ring_86 (by decide) rfl ?_
      refine G.iload (pl := 0) C dX10_ring_88 rfl ?_
      refine G.if_lt (tgt := 115) C dX10_ring_90 (by decide) (fun hc3 => ?_) (fun hc3 => ?_)
      · replace hf := gIf hf hc3
        refine G.sub (lv' := [(0, .ref (ad 108)), (1, .int x1), (2, .int x2), (3, .int x3), (4, .int x4), (5, .int x5), (6, .int x6), (7, .int x7), (8, .int x8), (9, .int x9)]) [1, 2, 3, 4, 5, 6, 7, 8, 9, 10] rfl ?_
        exact w_X10_ring_115 C Rt x1 x2 x3 x4 x5 x6 x7 x8 x9 M h_60 hf
      · replace hf := gIfn hf hc3
        refine G.aload_n (pl := 1) C dX10_ring_93 rfl rfl ?_
        refine G.iload (pl := 6) C dX10_ring_94 rfl ?_
        refine G.iload (pl := 8) C dX10_ring_96 rfl ?_
        refine G.iload (pl := 10) C dX10_ring_98 rfl ?_
        refine G.iload (pl := 0) C dX10_ring_100 rfl ?_
        refine G.iload (pl := 5) C dX10_ring_102 rfl ?_
        refine G.icmp_ne (tgt := 111) C dX10_ring_104 (by decide) (fun hc4 => ?_) (fun hc4 => ?_)
        · replace hf := gIfn hf hc4
          refine G.iconst (v := 0) C dX10_ring_111 (by decide) ?_
          refine G.sub (lv' := [(0, .ref (ad 108)), (1, .int x1), (2, .int x2), (3, .int x3), (4, .int x4), (5, .int x5), (6, .int x6), (7, .int x7), (8, .int x8), (9, .int x9)]) [1, 2, 3, 4, 5, 6, 7, 8, 9, 10] rfl ?_
          exact w_X10_ring_112 C Rt x1 x2 x3 x4 x5 x6 x7 x8 x9 (0 : Int32) x9 x7 x5 M h_60 hf
        · replace hf := gIf hf hc4
          refine G.iconst (v := 1) C dX10_ring_107 (by decide) ?_
          refine G.goto (tgt := 112) C dX10_ring_108 (by decide) ?_
          refine G.sub (lv' := [(0, .ref (ad 108)), (1, .int x1), (2, .int x2), (3, .int x3), (4, .int x4), (5, .int x5), (6, .int x6), (7, .int x7), (8, .int x8), (9, .int x9)]) [1, 2, 3, 4, 5, 6, 7, 8, 9, 10] rfl ?_
          exact w_X10_ring_112 C Rt x1 x2 x3 x4 x5 x6 x7 x8 x9 (1 : Int32) x9 x7 x5 M h_60 hf
theorem w_X10_ring_60 {X : Gc} {ad : Nat → Nat} {res : (Unit × Mem)} {r_29 : Int32 → Mem → Option (Unit × Mem)} (C : Gk X ad cX10_ring "NineTonguesModel" 11 2) (Rt : Gr X ad none none res.2) (x1 : Int32) (x2 : Int32) (x3 : Int32) (x4 : Int32) (x5 : Int32) (x6 : Int32) (x7 : Int32) (x8 : Int32) (h_29 : ∀ (x7 : Int32) (M : Mem), r_29 x7 M = some res → G X ad 29 11 [(0, .ref (ad 108)), (1, .int x1), (2, .int x2), (3, .int x3), (4, .int x4), (5, .int x5), (6, .int x6), (7, .int x7)] [] M) : ∀ (n : Nat) (x9 : Int32) (M : Mem), f_X10_ring_60 r_29 x1 x2 x3 x4 x5 x6 x7 x8 n x9 M = some res → G X ad 60 11 [(0, .ref (ad 108)), (1, .int x1), (2, .int x2), (3, .int x3), (4, .int x4), (5, .int x5), (6, .int x6), (7, .int x7), (8, .int x8), (9, .int x9)] [] M := by
  intro n
  induction n with
  | zero => intro x9 M hf; exact absurd (show (none : Option (Unit × Mem)) = some res from hf) (fun h => nomatch h)
  | succ n ih => intro x9 M hf; exact w_X10_ring_60_b C Rt x1 x2 x3 x4 x5 x6 x7 x8 h_29 ih x9 M hf
set_option maxRecDepth 100000 in
set_option maxHeartbeats 4000000 in
theorem w_X10_ring_29_b {X : Gc} {ad : Nat → Nat} {res : (Unit × Mem)} {r_3 : Int32 → Mem → Option (Unit × Mem)} {r_29 : Int32 → Mem → Option (Unit × Mem)} (C : Gk X ad cX10_ring "NineTonguesModel" 11 2) (Rt : Gr X ad none none res.2) (x1 : Int32) (x2 : Int32) (x3 : Int32) (x4 : Int32) (x5 : Int32) (x6 : Int32) (h_3 : ∀ (x5 : Int32) (M : Mem), r_3 x5 M = some res → G X ad 3 11 [(0, .ref (ad 108)), (1, .int x1), (2, .int x2), (3, .int x3), (4, .int x4), (5, .int x5)] [] M) (h_29 : ∀ (x7 : Int32) (M : Mem), r_29 x7 M = some res → G X ad 29 11 [(0, .ref (ad 108)), (1, .int x1), (2, .int x2), (3, .int x3), (4, .int x4), (5, .int x5), (6, .int x6), (7, .int x7)] [] M) (x7 : Int32) (M : Mem) (hf : f_X10_ring_29_b r_3 r_29 x1 x2 x3 x4 x5 x6 x7 M = some res) : G X ad 29 11 [(0, .ref (ad 108)), (1, .int x1), (2, .int x2), (3, .int x3), (4, .int x4), (5, .int x5), (6, .int x6), (7, .int x7)] [] M := by
  unfold f_X10_ring_29_b at hf
  refine G.iload (pl := 7) C dX10_ring_29 rfl ?_
  refine G.aload_n (pl := 0) C dX10_ring_31 rfl rfl ?_
  refine gf10_3 C o_108 k4_100 dX10_ring_32 ?_
  refine G.iconst (v := 0) C dX10_ring_35 (by decide) ?_
  refine G.iald (v := (M.1 112 0)) C a_112 (vp_inC (by decide)) rfl dX10_ring_36 ?_
  refine G.icmp_ge (tgt := 127) C dX10_ring_37 (by decide) (fun hc1 => ?_) (fun hc1 => ?_)
  · replace hf := gIf hf hc1
    refine G.sub (lv' := [(0, .ref (ad 108)), (1, .int x1), (2, .int x2), (3, .int x3), (4, .int x4), (5, .int x5)]) [0, 1, 2, 3, 4, 5] rfl ?_
    exact w_X10_ring_127 C Rt x1 x2 x3 x4 x5 M h_3 hf
  · replace hf := gIfn hf hc1
    refine G.iload (pl := 6) C dX10_ring_40 rfl ?_
    refine G.if_lt (tgt := 127) C dX10_ring_42 (by decide) (fun hc2 => ?_) (fun hc2 => ?_)
    · replace hf := gIf hf hc2
      refine G.sub (lv' := [(0, .ref (ad 108)), (1, .int x1), (2, .int x2), (3, .int x3), (4, .int x4), (5, .int x5)]) [0, 1, 2, 3, 4, 5] rfl ?_
      exact w_X10_ring_127 C Rt x1 x2 x3 x4 x5 M h_3 hf
    · replace hf := gIfn hf hc2
      refine G.aload_n (pl := 0) C dX10_ring_45 rfl rfl ?_
      refine G.iload (pl := 7) C dX10_ring_46 rfl ?_
      refine G.iload_n (pl := 2) C dX10_ring_48 rfl rfl ?_
      refine G.iload (pl := 6) C dX10_ring_49 rfl ?_
      refine G.iload_n (pl := 3) C dX10_ring_51 rfl rfl ?_
      obtain ⟨v1, hr1, hf⟩ := cp_some hf
      refine G.callV (st1 := [.int v1]) C [.int x7, .int x2, .int x6, .int x3] [] (c_X10_leads hr1) mv_X10_leads k5_175 o_108.1 (fun _ => gShp_20 o_108) rfl rfl rfl rfl rfl (Nat.le_of_ble_eq_true rfl) (by decide) dX10_ring_52 rfl ?_
      refine G.istore (lv' := [(8, .int v1), (0, .ref (ad 108)), (1, .int x1), (2, .int x2), (3, .int x3), (4, .int x4), (5, .int x5), (6, .int x6), (7, .int x7)]) C dX10_ring_55 (by decide) rfl ?_
      refine G.iconst (v := 0) C dX10_ring_57 (by decide) ?_
      refine G.istore (lv' := [(9, .int (0 : Int32)), (8, .int v1), (0, .ref (ad 108)), (1, .int x1), (2, .int x2), (3, .int x3), (4, .int x4), (5, .int x5), (6, .int x6), (7, .int x7)]) C dX10_ring_58 (by decide) rfl ?_
      refine G.sub (lv' := [(0, .ref (ad 108)), (1, .int x1), (2, .int x2), (3, .int x3), (4, .int x4), (5, .int x5), (6, .int x6), (7, .int x7), (8, .int v1), (9, .int (0 : Int32))]) [2, 3, 4, 5, 6, 7, 8, 9, 1, 0] rfl ?_
      exact w_X10_ring_60 C Rt x1 x2 x3 x4 x5 x6 x7 v1 h_29 FU (0 : Int32) M hf
theorem w_X10_ring_29 {X : Gc} {ad : Nat → Nat} {res : (Unit × Mem)} {r_3 : Int32 → Mem → Option (Unit × Mem)} (C : Gk X ad cX10_ring "NineTonguesModel" 11 2) (Rt : Gr X ad none none res.2) (x1 : Int32) (x2 : Int32) (x3 : Int32) (x4 : Int32) (x5 : Int32) (x6 : Int32) (h_3 : ∀ (x5 : Int32) (M : Mem), r_3 x5 M = some res → G X ad 3 11 [(0, .ref (ad 108)), (1, .int x1), (2, .int x2), (3, .int x3), (4, .int x4), (5, .int x5)] [] M) : ∀ (n : Nat) (x7 : Int32) (M : Mem), f_X10_ring_29 r_3 x1 x2 x3 x4 x5 x6 n x7 M = some res → G X ad 29 11 [(0, .ref (ad 108)), (1, .int x1), (2, .int x2), (3, .int x3), (4, .int x4), (5, .int x5), (6, .int x6), (7, .int x7)] [] M := by
  intro n
  induction n with
  | zero => intro x7 M hf; exact absurd (show (none : Option (Unit × Mem)) = some res from hf) (fun h => nomatch h)
  | succ n ih => intro x7 M hf; exact w_X10_ring_29_b C Rt x1 x2 x3 x4 x5 x6 h_3 ih x7 M hf
set_option maxRecDepth 100000 in
set_option maxHeartbeats 4000000 in
theorem w_X10_ring_3_b {X : Gc} {ad : Nat → Nat} {res : (Unit × Mem)} {r_3 : Int32 → Mem → Option (Unit × Mem)} (C : Gk X ad cX10_ring "NineTonguesModel" 11 2) (Rt : Gr X ad none none res.2) (x1 : Int32) (x2 : Int32) (x3 : Int32) (x4 : Int32) (h_3 : ∀ (x5 : Int32) (M : Mem), r_3 x5 M = some res → G X ad 3 11 [(0, .ref (ad 108)), (1, .int x1), (2, .int x2), (3, .int x3), (4, .int x4), (5, .int x5)] [] M) (x5 : Int32) (M : Mem) (hf : f_X10_ring_3_b r_3 x1 x2 x3 x4 x5 M = some res) : G X ad 3 11 [(0, .ref (ad 108)), (1, .int x1), (2, .int x2), (3, .int x3), (4, .int x4), (5, .int x5)] [] M := by
  unfold f_X10_ring_3_b at hf
  refine G.iload (pl := 5) C dX10_ring_3 rfl ?_
  refine G.aload_n (pl := 0) C dX10_ring_5 rfl rfl ?_
  refine gf10_3 C o_108 k4_100 dX10_ring_6 ?_
  refine G.iconst (v := 0) C dX10_ring_9 (by decide) ?_
  refine G.iald (v := (M.1 112 0)) C a_112 (vp_inC (by decide)) rfl dX10_ring_10 ?_
  refine G.icmp_ge (tgt := 133) C dX10_ring_11 (by decide) (fun hc1 => ?_) (fun hc1 => ?_)
  · replace hf := gIf hf hc1
    cases hf
    exact G.vret C Rt dX10_ring_133
  · replace hf := gIfn hf hc1
    refine G.aload_n (pl := 0) C dX10_ring_14 rfl rfl ?_
    refine G.iload (pl := 5) C dX10_ring_15 rfl ?_
    refine G.iload_n (pl := 1) C dX10_ring_17 rfl rfl ?_
    refine G.iload (pl := 4) C dX10_ring_18 rfl ?_
    refine G.iload_n (pl := 2) C dX10_ring_20 rfl rfl ?_
    obtain ⟨v1, hr1, hf⟩ := cp_some hf
    refine G.callV (st1 := [.int v1]) C [.int x5, .int x1, .int x4, .int x2] [] (c_X10_leads hr1) mv_X10_leads k5_175 o_108.1 (fun _ => gShp_20 o_108) rfl rfl rfl rfl rfl (Nat.le_of_ble_eq_true rfl) (by decide) dX10_ring_21 rfl ?_
    refine G.istore (lv' := [(6, .int v1), (0, .ref (ad 108)), (1, .int x1), (2, .int x2), (3, .int x3), (4, .int x4), (5, .int x5)]) C dX10_ring_24 (by decide) rfl ?_
    refine G.iconst (v := 0) C dX10_ring_26 (by decide) ?_
    refine G.istore (lv' := [(7, .int (0 : Int32)), (6, .int v1), (0, .ref (ad 108)), (1, .int x1), (2, .int x2), (3, .int x3), (4, .int x4), (5, .int x5)]) C dX10_ring_27 (by decide) rfl ?_
    refine G.sub (lv' := [(0, .ref (ad 108)), (1, .int x1), (2, .int x2), (3, .int x3), (4, .int x4), (5, .int x5), (6, .int v1), (7, .int (0 : Int32))]) [2, 3, 4, 5, 6, 7, 1, 0] rfl ?_
    exact w_X10_ring_29 C Rt x1 x2 x3 x4 x5 v1 h_3 FU (0 : Int32) M hf
theorem w_X10_ring_3 {X : Gc} {ad : Nat → Nat} {res : (Unit × Mem)} (C : Gk X ad cX10_ring "NineTonguesModel" 11 2) (Rt : Gr X ad none none res.2) (x1 : Int32) (x2 : Int32) (x3 : Int32) (x4 : Int32) : ∀ (n : Nat) (x5 : Int32) (M : Mem), f_X10_ring_3 x1 x2 x3 x4 n x5 M = some res → G X ad 3 11 [(0, .ref (ad 108)), (1, .int x1), (2, .int x2), (3, .int x3), (4, .int x4), (5, .int x5)] [] M := by
  intro n
  induction n with
  | zero => intro x5 M hf; exact absurd (show (none : Option (Unit × Mem)) = some res from hf) (fun h => nomatch h)
  | succ n ih => intro x5 M hf; exact w_X10_ring_3_b C Rt x1 x2 x3 x4 ih x5 M hf
set_option maxRecDepth 100000 in
set_option maxHeartbeats 4000000 in
theorem w_X10_ring_E {X : Gc} {ad : Nat → Nat} {res : (Unit × Mem)} (C : Gk X ad cX10_ring "NineTonguesModel" 11 2) (Rt : Gr X ad none none res.2) (x1 : Int32) (x2 : Int32) (x3 : Int32) (x4 : Int32) (M : Mem) (hf : f_X10_ring x1 x2 x3 x4 M = some res) : G X ad 0 11 [(0, .ref (ad 108)), (1, .int x1), (2, .int x2), (3, .int x3), (4, .int x4)] [] M := by
  unfold f_X10_ring at hf
  refine G.iconst (v := 0) C dX10_ring_0 (by decide) ?_
  refine G.istore (lv' := [(5, .int (0 : Int32)), (0, .ref (ad 108)), (1, .int x1), (2, .int x2), (3, .int x3), (4, .int x4)]) C dX10_ring_1 (by decide) rfl ?_
  refine G.sub (lv' := [(0, .ref (ad 108)), (1, .int x1), (2, .int x2), (3, .int x3), (4, .int x4), (5, .int (0 : Int32))]) [1, 2, 3, 4, 5, 0] rfl ?_
  exact w_X10_ring_3 C Rt x1 x2 x3 x4 FU (0 : Int32) M hf
theorem mv_X10_ring : gMV yX10_ring cX10_ring 11 none 4 := ⟨k5_173, kS_52, k1_12, k5_174, ⟨by decide +kernel, by decide +kernel, by decide +kernel⟩, by decide⟩
theorem c_X10_ring {res : (Unit × Mem)} {x1 : Int32} {x2 : Int32} {x3 : Int32} {x4 : Int32} {M : Mem} (hf : f_X10_ring x1 x2 x3 x4 M = some res) : Ct yX10_ring cX10_ring 11 none 2 (fun ad => [.ref (ad 108), .int x1, .int x2, .int x3, .int x4]) M none res.2 :=
  Ct.of (by decide +kernel) (fun _ => Nat.le_of_ble_eq_true rfl) (fun X ad C Rt => w_X10_ring_E C Rt x1 x2 x3 x4 M hf)
set_option maxRecDepth 100000 in
set_option maxHeartbeats 4000000 in
theorem w_X10_allRings_116 {X : Gc} {ad : Nat → Nat} {res : (Unit × Mem)} {r_68 : Int32 → Mem → Option (Unit × Mem)} (C : Gk X ad cX10_allRings "NineTonguesModel" 5 3) (Rt : Gr X ad none none res.2) (x1 : Int32) (x2 : Int32) (x3 : Int32) (M : Mem) (h_68 : ∀ (x3 : Int32) (M : Mem), r_68 x3 M = some res → G X ad 68 5 [(0, .ref (ad 108)), (1, .int x1), (2, .int x2), (3, .int x3)] [] M) (hf : f_X10_allRings_116 r_68 x1 x2 x3 M = some res) : G X ad 116 5 [(0, .ref (ad 108)), (1, .int x1), (2, .int x2), (3, .int x3)] [] M := by
  unfold f_X10_allRings_116 at hf
  refine G.iinc (pl := 3) (v := (x3 + 1)) (lv' := [(3, .int (x3 + 1)), (0, .ref (ad 108)), (1, .int x1), (2, .int x2)]) C dX10_allRings_116 rfl rfl (by decide) rfl ?_
  refine G.goto (tgt := 68) C dX10_allRings_119 (by decide) ?_
  refine G.sub (lv' := [(0, .ref (ad 108)), (1, .int x1), (2, .int x2), (3, .int (x3 + 1))]) [1, 2, 3, 0] rfl ?_
  exact h_68 (x3 + 1) M hf
set_option maxRecDepth 100000 in
set_option maxHeartbeats 4000000 in
theorem w_X10_allRings_81_b {X : Gc} {ad : Nat → Nat} {res : (Unit × Mem)} {r_68 : Int32 → Mem → Option (Unit × Mem)} {r_81 : Int32 → Mem → Option (Unit × Mem)} (C : Gk X ad cX10_allRings "NineTonguesModel" 5 3) (Rt : Gr X ad none none res.2) (x1 : Int32) (x2 : Int32) (x3 : Int32) (h_68 : ∀ (x3 : Int32) (M : Mem), r_68 x3 M = some res → G X ad 68 5 [(0, .ref (ad 108)), (1, .int x1), (2, .int x2), (3, .int x3)] [] M) (h_81 : ∀ (x4 : Int32) (M : Mem), r_81 x4 M = some res → G X ad 81 5 [(0, .ref (ad 108)), (1, .int x1), (2, .int x2), (3, .int x3), (4, .int x4)] [] M) (x4 : Int32) (M : Mem) (hf : f_X10_allRings_81_b r_68 r_81 x1 x2 x3 x4 M = some res) : G X ad 81 5 [(0, .ref (ad 108)), (1, .int x1), (2, .int x2), (3, .int x3), (4, .int x4)] [] M := by
  unfold f_X10_allRings_81_b at hf
  refine G.iload (pl := 4) C dX10_allRings_81 rfl ?_
  refine G.aload_n (pl := 0) C dX10_allRings_83 rfl rfl ?_
  refine gf10_4 C o_108 k4_101 dX10_allRings_84 ?_
  refine G.iconst (v := 4) C dX10_allRings_87 (by decide) ?_
  refine G.iload_n (pl := 1) C dX10_allRings_88 rfl rfl ?_
  refine G.imul C dX10_allRings_89 ?_
  refine G.iconst (v := 3) C dX10_allRings_90 (by decide) ?_
  refine G.iadd C dX10_allRings_91 ?_
  obtain ⟨v1, ev1, hi1, hf⟩ := rd_some hf
  refine G.iald C a_113 hi1 ev1 dX10_allRings_92 ?_
  refine G.icmp_ge (tgt := 116) C dX10_allRings_93 (by decide) (fun hc1 => ?_) (fun hc1 => ?_)
  · replace hf := gIf hf hc1
    refine G.sub (lv' := [(0, .ref (ad 108)), (1, .int x1), (2, .int x2), (3, .int x3)]) [0, 1, 2, 3] rfl ?_
    exact w_X10_allRings_116 C Rt x1 x2 x3 M h_68 hf
  · replace hf := gIfn hf hc1
    refine G.iload_n (pl := 2) C dX10_allRings_96 rfl rfl ?_
    refine G.iload_n (pl := 3) C dX10_allRings_97 rfl rfl ?_
    refine G.icmp_eq (tgt := 116) C dX10_allRings_98 (by decide) (fun hc2 => ?_) (fun hc2 => ?_)
    · replace hf := gIf hf hc2
      refine G.sub (lv' := [(0, .ref (ad 108)), (1, .int x1), (2, .int x2), (3, .int x3)]) [0, 1, 2, 3] rfl ?_
      exact w_X10_allRings_116 C Rt x1 x2 x3 M h_68 hf
    · replace hf := gIfn hf hc2
      refine G.aload_n (pl := 0) C dX10_allRings_101 rfl rfl ?_
      refine G.iload_n (pl := 1) C dX10_allRings_102 rfl rfl ?_
      refine G.iload_n (pl := 2) C dX10_allRings_103 rfl rfl ?_
      refine G.iload_n (pl := 3) C dX10_allRings_104 rfl rfl ?_
      refine G.iload (pl := 4) C dX10_allRings_105 rfl ?_
      obtain ⟨u, M1, hr1, hf⟩ := cl_some hf
      refine G.callV (st1 := []) C [.int x1, .int x2, .int x3, .int x4] [] (c_X10_ring hr1) mv_X10_ring k5_171 o_108.1 (fun _ => gShp_20 o_108) rfl rfl rfl rfl rfl (Nat.le_of_ble_eq_true rfl) (by decide) dX10_allRings_107 rfl ?_
      refine G.iinc (pl := 4) (v := (x4 + 1)) (lv' := [(4, .int (x4 + 1)), (0, .ref (ad 108)), (1, .int x1), (2, .int x2), (3, .int x3)]) C dX10_allRings_110 rfl rfl (by decide) rfl ?_
      refine G.goto (tgt := 81) C dX10_allRings_113 (by decide) ?_
      refine G.sub (lv' := [(0, .ref (ad 108)), (1, .int x1), (2, .int x2), (3, .int x3), (4, .int (x4 + 1))]) [1, 2, 3, 4, 0] rfl ?_
      exact h_81 (x4 + 1) M1 hf
theorem w_X10_allRings_81 {X : Gc} {ad : Nat → Nat} {res : (Unit × Mem)} {r_68 : Int32 → Mem → Option (Unit × Mem)} (C : Gk X ad cX10_allRings "NineTonguesModel" 5 3) (Rt : Gr X ad none none res.2) (x1 : Int32) (x2 : Int32) (x3 : Int32) (h_68 : ∀ (x3 : Int32) (M : Mem), r_68 x3 M = some res → G X ad 68 5 [(0, .ref (ad 108)), (1, .int x1), (2, .int x2), (3, .int x3)] [] M) : ∀ (n : Nat) (x4 : Int32) (M : Mem), f_X10_allRings_81 r_68 x1 x2 x3 n x4 M = some res → G X ad 81 5 [(0, .ref (ad 108)), (1, .int x1), (2, .int x2), (3, .int x3), (4, .int x4)] [] M := by
  intro n
  induction n with
  | zero => intro x4 M hf; exact absurd (show (none : Option (Unit × Mem)) = some res from hf) (fun h => nomatch h)
  | succ n ih => intro x4 M hf; exact w_X10_allRings_81_b C Rt x1 x2 x3 h_68 ih x4 M hf
set_option maxRecDepth 100000 in
set_option maxHeartbeats 4000000 in
theorem w_X10_allRings_68_b {X : Gc} {ad : Nat → Nat} {res : (Unit × Mem)} {r_54 : Int32 → Mem → Option (Unit × Mem)} {r_68 : Int32 → Mem → Option (Unit × Mem)} (C : Gk X ad cX10_allRings "NineTonguesModel" 5 3) (Rt : Gr X ad none none res.2) (x1 : Int32) (x2 : Int32) (h_54 : ∀ (x2 : Int32) (M : Mem), r_54 x2 M = some res → G X ad 54 5 [(0, .ref (ad 108)), (1, .int x1), (2, .int x2)] [] M) (h_68 : ∀ (x3 : Int32) (M : Mem), r_68 x3 M = some res → G X ad 68 5 [(0, .ref (ad 108)), (1, .int x1), (2, .int x2), (3, .int x3)] [] M) (x3 : Int32) (M : Mem) (hf : f_X10_allRings_68_b r_54 r_68 x1 x2 x3 M = some res) : G X ad 68 5 [(0, .ref (ad 108)), (1, .int x1), (2, .int x2), (3, .int x3)] [] M := by
  unfold f_X10_allRings_68_b at hf
  refine G.iload_n (pl := 3) C dX10_allRings_68 rfl rfl ?_
  refine G.aload_n (pl := 0) C dX10_allRings_69 rfl rfl ?_
  refine gf10_0 C o_108 k4_97 dX10_allRings_70 ?_
  refine G.iconst (v := 0) C dX10_allRings_73 (by decide) ?_
  refine G.iald (v := (M.1 109 0)) C a_109 (vp_inC (by decide)) rfl dX10_allRings_74 ?_
  refine G.icmp_ge (tgt := 122) C dX10_allRings_75 (by decide) (fun hc1 => ?_) (fun hc1 => ?_)
  · replace hf := gIf hf hc1
    refine G.iinc (pl := 2) (v := (x2 + 1)) (lv' := [(2, .int (x2 + 1)), (0, .ref (ad 108)), (1, .int x1), (3, .int x3)]) C dX10_allRings_122 rfl rfl (by decide) rfl ?_
    refine G.goto (tgt := 54) C dX10_allRings_125 (by decide) ?_
    refine G.sub (lv' := [(0, .ref (ad 108)), (1, .int x1), (2, .int (x2 + 1))]) [1, 2, 0] rfl ?_
    exact h_54 (x2 + 1) M hf
  · replace hf := gIfn hf hc1
    refine G.iconst (v := 0) C dX10_allRings_78 (by decide) ?_
    refine G.istore (lv' := [(4, .int (0 : Int32)), (0, .ref (ad 108)), (1, .int x1), (2, .int x2), (3, .int x3)]) C dX10_allRings_79 (by decide) rfl ?_
    refine G.sub (lv' := [(0, .ref (ad 108)), (1, .int x1), (2, .int x2), (3, .int x3), (4, .int (0 : Int32))]) [1, 2, 3, 4, 0] rfl ?_
    exact w_X10_allRings_81 C Rt x1 x2 x3 h_68 FU (0 : Int32) M hf
theorem w_X10_allRings_68 {X : Gc} {ad : Nat → Nat} {res : (Unit × Mem)} {r_54 : Int32 → Mem → Option (Unit × Mem)} (C : Gk X ad cX10_allRings "NineTonguesModel" 5 3) (Rt : Gr X ad none none res.2) (x1 : Int32) (x2 : Int32) (h_54 : ∀ (x2 : Int32) (M : Mem), r_54 x2 M = some res → G X ad 54 5 [(0, .ref (ad 108)), (1, .int x1), (2, .int x2)] [] M) : ∀ (n : Nat) (x3 : Int32) (M : Mem), f_X10_allRings_68 r_54 x1 x2 n x3 M = some res → G X ad 68 5 [(0, .ref (ad 108)), (1, .int x1), (2, .int x2), (3, .int x3)] [] M := by
  intro n
  induction n with
  | zero => intro x3 M hf; exact absurd (show (none : Option (Unit × Mem)) = some res from hf) (fun h => nomatch h)
  | succ n ih => intro x3 M hf; exact w_X10_allRings_68_b C Rt x1 x2 h_54 ih x3 M hf
set_option maxRecDepth 100000 in
set_option maxHeartbeats 4000000 in
theorem w_X10_allRings_54_b {X : Gc} {ad : Nat → Nat} {res : (Unit × Mem)} {r_40 : Int32 → Mem → Option (Unit × Mem)} {r_54 : Int32 → Mem → Option (Unit × Mem)} (C : Gk X ad cX10_allRings "NineTonguesModel" 5 3) (Rt : Gr X ad none none res.2) (x1 : Int32) (h_40 : ∀ (x1 : Int32) (M : Mem), r_40 x1 M = some res → G X ad 40 5 [(0, .ref (ad 108)), (1, .int x1)] [] M) (h_54 : ∀ (x2 : Int32) (M : Mem), r_54 x2 M = some res → G X ad 54 5 [(0, .ref (ad 108)), (1, .int x1), (2, .int x2)] [] M) (x2 : Int32) (M : Mem) (hf : f_X10_allRings_54_b r_40 r_54 x1 x2 M = some res) : G X ad 54 5 [(0, .ref (ad 108)), (1, .int x1), (2, .int x2)] [] M := by
  unfold f_X10_allRings_54_b at hf
  refine G.iload_n (pl := 2) C dX10_allRings_54 rfl rfl ?_
  refine G.aload_n (pl := 0) C dX10_allRings_55 rfl rfl ?_
  refine gf10_0 C o_108 k4_97 dX10_allRings_56 ?_
  refine G.iconst (v := 0) C dX10_allRings_59 (by decide) ?_
  refine G.iald (v := (M.1 109 0)) C a_109 (vp_inC (by decide)) rfl dX10_allRings_60 ?_
  refine G.icmp_ge (tgt := 128) C dX10_allRings_61 (by decide) (fun hc1 => ?_) (fun hc1 => ?_)
  · replace hf := gIf hf hc1
    refine G.iinc (pl := 1) (v := (x1 + 1)) (lv' := [(1, .int (x1 + 1)), (0, .ref (ad 108)), (2, .int x2)]) C dX10_allRings_128 rfl rfl (by decide) rfl ?_
    refine G.goto (tgt := 40) C dX10_allRings_131 (by decide) ?_
    refine G.sub (lv' := [(0, .ref (ad 108)), (1, .int (x1 + 1))]) [1, 0] rfl ?_
    exact h_40 (x1 + 1) M hf
  · replace hf := gIfn hf hc1
    refine G.iload_n (pl := 1) C dX10_allRings_64 rfl rfl ?_
    refine G.iconst (v := 1) C dX10_allRings_65 (by decide) ?_
    refine G.iadd C dX10_allRings_66 ?_
    refine G.istore_n (lv' := [(3, .int (x1 + (1 : Int32))), (0, .ref (ad 108)), (1, .int x1), (2, .int x2)]) C dX10_allRings_67 rfl (by decide) rfl ?_
    refine G.sub (lv' := [(0, .ref (ad 108)), (1, .int x1), (2, .int x2), (3, .int (x1 + (1 : Int32)))]) [1, 2, 3, 0] rfl ?_
    exact w_X10_allRings_68 C Rt x1 x2 h_54 FU (x1 + (1 : Int32)) M hf
theorem w_X10_allRings_54 {X : Gc} {ad : Nat → Nat} {res : (Unit × Mem)} {r_40 : Int32 → Mem → Option (Unit × Mem)} (C : Gk X ad cX10_allRings "NineTonguesModel" 5 3) (Rt : Gr X ad none none res.2) (x1 : Int32) (h_40 : ∀ (x1 : Int32) (M : Mem), r_40 x1 M = some res → G X ad 40 5 [(0, .ref (ad 108)), (1, .int x1)] [] M) : ∀ (n : Nat) (x2 : Int32) (M : Mem), f_X10_allRings_54 r_40 x1 n x2 M = some res → G X ad 54 5 [(0, .ref (ad 108)), (1, .int x1), (2, .int x2)] [] M := by
  intro n
  induction n with
  | zero => intro x2 M hf; exact absurd (show (none : Option (Unit × Mem)) = some res from hf) (fun h => nomatch h)
  | succ n ih => intro x2 M hf; exact w_X10_allRings_54_b C Rt x1 h_40 ih x2 M hf
set_option maxRecDepth 100000 in
set_option maxHeartbeats 4000000 in
theorem w_X10_allRings_40_b {X : Gc} {ad : Nat → Nat} {res : (Unit × Mem)} {r_40 : Int32 → Mem → Option (Unit × Mem)} (C : Gk X ad cX10_allRings "NineTonguesModel" 5 3) (Rt : Gr X ad none none res.2) (h_40 : ∀ (x1 : Int32) (M : Mem), r_40 x1 M = some res → G X ad 40 5 [(0, .ref (ad 108)), (1, .int x1)] [] M) (x1 : Int32) (M : Mem) (hf : f_X10_allRings_40_b r_40 x1 M = some res) : G X ad 40 5 [(0, .ref (ad 108)), (1, .int x1)] [] M := by
  unfold f_X10_allRings_40_b at hf
  refine G.iload_n (pl := 1) C dX10_allRings_40 rfl rfl ?_
  refine G.aload_n (pl := 0) C dX10_allRings_41 rfl rfl ?_
  refine gf10_0 C o_108 k4_97 dX10_allRings_42 ?_
  refine G.iconst (v := 0) C dX10_allRings_45 (by decide) ?_
  refine G.iald (v := (M.1 109 0)) C a_109 (vp_inC (by decide)) rfl dX10_allRings_46 ?_
  refine G.icmp_ge (tgt := 134) C dX10_allRings_47 (by decide) (fun hc1 => ?_) (fun hc1 => ?_)
  · replace hf := gIf hf hc1
    cases hf
    exact G.vret C Rt dX10_allRings_134
  · replace hf := gIfn hf hc1
    refine G.iload_n (pl := 1) C dX10_allRings_50 rfl rfl ?_
    refine G.iconst (v := 1) C dX10_allRings_51 (by decide) ?_
    refine G.iadd C dX10_allRings_52 ?_
    refine G.istore_n (lv' := [(2, .int (x1 + (1 : Int32))), (0, .ref (ad 108)), (1, .int x1)]) C dX10_allRings_53 rfl (by decide) rfl ?_
    refine G.sub (lv' := [(0, .ref (ad 108)), (1, .int x1), (2, .int (x1 + (1 : Int32)))]) [1, 2, 0] rfl ?_
    exact w_X10_allRings_54 C Rt x1 h_40 FU (x1 + (1 : Int32)) M hf
theorem w_X10_allRings_40 {X : Gc} {ad : Nat → Nat} {res : (Unit × Mem)} (C : Gk X ad cX10_allRings "NineTonguesModel" 5 3) (Rt : Gr X ad none none res.2) : ∀ (n : Nat) (x1 : Int32) (M : Mem), f_X10_allRings_40 n x1 M = some res → G X ad 40 5 [(0, .ref (ad 108)), (1, .int x1)] [] M := by
  intro n
  induction n with
  | zero => intro x1 M hf; exact absurd (show (none : Option (Unit × Mem)) = some res from hf) (fun h => nomatch h)
  | succ n ih => intro x1 M hf; exact w_X10_allRings_40_b C Rt ih x1 M hf
set_option maxRecDepth 100000 in
set_option maxHeartbeats 4000000 in
theorem w_X10_allRings_12_b {X : Gc} {ad : Nat → Nat} {res : (Unit × Mem)} {r_12 : Int32 → Mem → Option (Unit × Mem)} (C : Gk X ad cX10_allRings "NineTonguesModel" 5 3) (Rt : Gr X ad none none res.2) (h_12 : ∀ (x1 : Int32) (M : Mem), r_12 x1 M = some res → G X ad 12 5 [(0, .ref (ad 108)), (1, .int x1)] [] M) (x1 : Int32) (M : Mem) (hf : f_X10_allRings_12_b r_12 x1 M = some res) : G X ad 12 5 [(0, .ref (ad 108)), (1, .int x1)] [] M := by
  unfold f_X10_allRings_12_b at hf
  refine G.iload_n (pl := 1) C dX10_allRings_12 rfl rfl ?_
  refine G.bipush (v := 24) C dX10_allRings_13 (by decide) ?_
  refine G.icmp_ge (tgt := 38) C dX10_allRings_15 (by decide) (fun hc1 => ?_) (fun hc1 => ?_)
  · replace hf := gIf hf hc1
    refine G.iconst (v := 0) C dX10_allRings_38 (by decide) ?_
    refine G.istore_n (lv' := [(1, .int (0 : Int32)), (0, .ref (ad 108))]) C dX10_allRings_39 rfl (by decide) rfl ?_
    refine G.sub (lv' := [(0, .ref (ad 108)), (1, .int (0 : Int32))]) [1, 0] rfl ?_
    exact w_X10_allRings_40 C Rt FU (0 : Int32) M hf
  · replace hf := gIfn hf hc1
    refine G.aload_n (pl := 0) C dX10_allRings_18 rfl rfl ?_
    refine gf10_22 C o_108 k4_119 dX10_allRings_19 ?_
    refine G.iload_n (pl := 1) C dX10_allRings_22 rfl rfl ?_
    refine G.iconst (v := 0) C dX10_allRings_23 (by decide) ?_
    obtain ⟨hi1, hf⟩ := ck_some hf
    obtain ⟨M1, eM1, hf⟩ := stm_some hf
    refine G.iast C a_127 hi1 eM1 dX10_allRings_24 ?_
    refine G.aload_n (pl := 0) C dX10_allRings_25 rfl rfl ?_
    refine gf10_23 C o_108 k4_120 dX10_allRings_26 ?_
    refine G.iload_n (pl := 1) C dX10_allRings_29 rfl rfl ?_
    refine G.iconst (v := 0) C dX10_allRings_30 (by decide) ?_
    obtain ⟨hi2, hf⟩ := ck_some hf
    obtain ⟨M2, eM2, hf⟩ := stm_some hf
    refine G.iast C a_128 hi2 eM2 dX10_allRings_31 ?_
    refine G.iinc (pl := 1) (v := (x1 + 1)) (lv' := [(1, .int (x1 + 1)), (0, .ref (ad 108))]) C dX10_allRings_32 rfl rfl (by decide) rfl ?_
    refine G.goto (tgt := 12) C dX10_allRings_35 (by decide) ?_
    refine G.sub (lv' := [(0, .ref (ad 108)), (1, .int (x1 + 1))]) [1, 0] rfl ?_
    exact h_12 (x1 + 1) M2 hf
theorem w_X10_allRings_12 {X : Gc} {ad : Nat → Nat} {res : (Unit × Mem)} (C : Gk X ad cX10_allRings "NineTonguesModel" 5 3) (Rt : Gr X ad none none res.2) : ∀ (n : Nat) (x1 : Int32) (M : Mem), f_X10_allRings_12 n x1 M = some res → G X ad 12 5 [(0, .ref (ad 108)), (1, .int x1)] [] M := by
  intro n
  induction n with
  | zero => intro x1 M hf; exact absurd (show (none : Option (Unit × Mem)) = some res from hf) (fun h => nomatch h)
  | succ n ih => intro x1 M hf; exact w_X10_allRings_12_b C Rt ih x1 M hf
set_option maxRecDepth 100000 in
set_option maxHeartbeats 4000000 in
theorem w_X10_allRings_E {X : Gc} {ad : Nat → Nat} {res : (Unit × Mem)} (C : Gk X ad cX10_allRings "NineTonguesModel" 5 3) (Rt : Gr X ad none none res.2) (M : Mem) (hf : f_X10_allRings M = some res) : G X ad 0 5 [(0, .ref (ad 108))] [] M := by
  unfold f_X10_allRings at hf
  refine G.aload_n (pl := 0) C dX10_allRings_0 rfl rfl ?_
  refine G.iconst (v := 0) C dX10_allRings_1 (by decide) ?_
  obtain ⟨M1, eM1, hf⟩ := stm_some hf
  refine gp10_24 C o_108 k4_121 eM1 dX10_allRings_2 ?_
  refine G.aload_n (pl := 0) C dX10_allRings_5 rfl rfl ?_
  refine G.iconst (v := 0) C dX10_allRings_6 (by decide) ?_
  obtain ⟨M2, eM2, hf⟩ := stm_some hf
  refine gp10_25 C o_108 k4_122 eM2 dX10_allRings_7 ?_
  refine G.iconst (v := 0) C dX10_allRings_10 (by decide) ?_
  refine G.istore_n (lv' := [(1, .int (0 : Int32)), (0, .ref (ad 108))]) C dX10_allRings_11 rfl (by decide) rfl ?_
  refine G.sub (lv' := [(0, .ref (ad 108)), (1, .int (0 : Int32))]) [1, 0] rfl ?_
  exact w_X10_allRings_12 C Rt FU (0 : Int32) M2 hf
theorem mv_X10_allRings : gMV yX10_allRings cX10_allRings 5 none 0 := ⟨k5_169, kS_51, k1_12, k5_170, ⟨by decide +kernel, by decide +kernel, by decide +kernel⟩, by decide⟩
theorem c_X10_allRings {res : (Unit × Mem)} {M : Mem} (hf : f_X10_allRings M = some res) : Ct yX10_allRings cX10_allRings 5 none 3 (fun ad => [.ref (ad 108)]) M none res.2 :=
  Ct.of (by decide +kernel) (fun _ => Nat.le_of_ble_eq_true rfl) (fun X ad C Rt => w_X10_allRings_E C Rt M hf)
set_option maxRecDepth 100000 in
set_option maxHeartbeats 4000000 in
theorem w_X10_rings_E {X : Gc} {ad : Nat → Nat} {res : (Int32 × Mem)} (C : Gk X ad cX10_rings "NineTonguesModel" 2 4) (Rt : Gr X ad (some .int) (some (.int res.1)) res.2) (x1 : Int32) (M : Mem) (hf : f_X10_rings x1 M = some res) : G X ad 0 2 [(0, .ref (ad 108)), (1, .int x1)] [] M := by
  unfold f_X10_rings at hf
  refine G.iload_n (pl := 1) C dX10_rings_0 rfl rfl ?_
  refine G.iconst (v := 0) C dX10_rings_1 (by decide) ?_
  refine G.iconst (v := 1) C dX10_rings_2 (by decide) ?_
  obtain ⟨v1, hr1, hf⟩ := cp_some hf
  refine G.callS (st1 := [.int v1]) C [.int x1, .int (0 : Int32), .int (1 : Int32)] [] (c_X10_between hr1) mv_X10_between k4_189 rfl rfl rfl (Nat.le_of_ble_eq_true rfl) (by decide) dX10_rings_3 rfl ?_
  refine G.if_ne (tgt := 16) C dX10_rings_6 (by decide) (fun hc1 => ?_) (fun hc1 => ?_)
  · replace hf := gIfn hf hc1
    refine G.aload_n (pl := 0) C dX10_rings_16 rfl rfl ?_
    obtain ⟨u, M1, hr2, hf⟩ := cl_some hf
    refine G.callV (st1 := []) C [] [] (c_X10_allRings hr2) mv_X10_allRings k5_167 o_108.1 (fun _ => gShp_20 o_108) rfl rfl rfl rfl rfl (Nat.le_of_ble_eq_true rfl) (by decide) dX10_rings_17 rfl ?_
    refine G.iload_n (pl := 1) C dX10_rings_20 rfl rfl ?_
    refine G.if_ne (tgt := 31) C dX10_rings_21 (by decide) (fun hc2 => ?_) (fun hc2 => ?_)
    · replace hf := gIfn hf hc2
      refine G.aload_n (pl := 0) C dX10_rings_31 rfl rfl ?_
      refine gf10_25 C o_108 k4_122 dX10_rings_32 ?_
      cases hf
      exact G.iret C Rt dX10_rings_35
    · replace hf := gIf hf hc2
      refine G.aload_n (pl := 0) C dX10_rings_24 rfl rfl ?_
      refine gf10_24 C o_108 k4_121 dX10_rings_25 ?_
      refine G.goto (tgt := 35) C dX10_rings_28 (by decide) ?_
      cases hf
      exact G.iret C Rt dX10_rings_35
  · replace hf := gIf hf hc1
    refine G.aload_n (pl := 0) C dX10_rings_9 rfl rfl ?_
    refine G.bipush (v := (-2)) C dX10_rings_10 (by decide) ?_
    obtain ⟨v2, M2, hr3, hf⟩ := cl_some hf
    refine G.callV (st1 := [.int v2]) C [.int (-2 : Int32)] [] (c_X10_bad hr3) mv_X10_bad k4_192 o_108.1 (fun _ => gShp_20 o_108) rfl rfl rfl rfl rfl (Nat.le_of_ble_eq_true rfl) (by decide) dX10_rings_12 rfl ?_
    cases hf
    exact G.iret C Rt dX10_rings_15
theorem mv_X10_rings : gMV yX10_rings cX10_rings 2 (some .int) 1 := ⟨k5_164, k5_165, k1_12, k5_166, ⟨by decide +kernel, by decide +kernel, by decide +kernel⟩, by decide⟩
theorem c_X10_rings {res : (Int32 × Mem)} {x1 : Int32} {M : Mem} (hf : f_X10_rings x1 M = some res) : Ct yX10_rings cX10_rings 2 (some .int) 4 (fun ad => [.ref (ad 108), .int x1]) M (some (.int res.1)) res.2 :=
  Ct.of (by decide +kernel) (fun _ => Nat.le_of_ble_eq_true rfl) (fun X ad C Rt => w_X10_rings_E C Rt x1 M hf)
set_option maxRecDepth 100000 in
set_option maxHeartbeats 4000000 in
theorem w_X10_atFault_E {X : Gc} {ad : Nat → Nat} {res : (Int32 × Mem)} (C : Gk X ad cX10_atFault "NineTonguesModel" 2 4) (Rt : Gr X ad (some .int) (some (.int res.1)) res.2) (x1 : Int32) (M : Mem) (hf : f_X10_atFault x1 M = some res) : G X ad 0 2 [(0, .ref (ad 108)), (1, .int x1)] [] M := by
  unfold f_X10_atFault at hf
  refine G.iload_n (pl := 1) C dX10_atFault_0 rfl rfl ?_
  refine G.iconst (v := 0) C dX10_atFault_1 (by decide) ?_
  refine G.aload_n (pl := 0) C dX10_atFault_2 rfl rfl ?_
  refine gf10_3 C o_108 k4_100 dX10_atFault_3 ?_
  refine G.iconst (v := 0) C dX10_atFault_6 (by decide) ?_
  refine G.iald (v := (M.1 112 0)) C a_112 (vp_inC (by decide)) rfl dX10_atFault_7 ?_
  refine G.iconst (v := 1) C dX10_atFault_8 (by decide) ?_
  refine G.isub C dX10_atFault_9 ?_
  obtain ⟨v1, hr1, hf⟩ := cp_some hf
  refine G.callS (st1 := [.int v1]) C [.int x1, .int (0 : Int32), .int ((M.1 112 0) - (1 : Int32))] [] (c_X10_between hr1) mv_X10_between k4_189 rfl rfl rfl (Nat.le_of_ble_eq_true rfl) (by decide) dX10_atFault_10 rfl ?_
  refine G.if_ne (tgt := 23) C dX10_atFault_13 (by decide) (fun hc1 => ?_) (fun hc1 => ?_)
  · replace hf := gIfn hf hc1
    refine G.aload_n (pl := 0) C dX10_atFault_23 rfl rfl ?_
    obtain ⟨u, M1, hr2, hf⟩ := cl_some hf
    refine G.callV (st1 := []) C [] [] (c_X10_allRings hr2) mv_X10_allRings k5_167 o_108.1 (fun _ => gShp_20 o_108) rfl rfl rfl rfl rfl (Nat.le_of_ble_eq_true rfl) (by decide) dX10_atFault_24 rfl ?_
    refine G.aload_n (pl := 0) C dX10_atFault_27 rfl rfl ?_
    refine gf10_22 C o_108 k4_119 dX10_atFault_28 ?_
    refine G.iload_n (pl := 1) C dX10_atFault_31 rfl rfl ?_
    obtain ⟨v2, ev1, hi1, hf⟩ := rd_some hf
    refine G.iald C a_127 hi1 ev1 dX10_atFault_32 ?_
    refine G.if_ne (tgt := 43) C dX10_atFault_33 (by decide) (fun hc2 => ?_) (fun hc2 => ?_)
    · replace hf := gIfn hf hc2
      refine G.aload_n (pl := 0) C dX10_atFault_43 rfl rfl ?_
      refine G.aload_n (pl := 0) C dX10_atFault_44 rfl rfl ?_
      refine gf10_23 C o_108 k4_120 dX10_atFault_45 ?_
      refine G.iload_n (pl := 1) C dX10_atFault_48 rfl rfl ?_
      obtain ⟨v3, ev2, hi2, hf⟩ := rd_some hf
      refine G.iald C a_128 hi2 ev2 dX10_atFault_49 ?_
      refine G.aload_n (pl := 0) C dX10_atFault_50 rfl rfl ?_
      refine gf10_22 C o_108 k4_119 dX10_atFault_51 ?_
      refine G.iload_n (pl := 1) C dX10_atFault_54 rfl rfl ?_
      obtain ⟨v4, ev3, hi3, hf⟩ := rd_some hf
      refine G.iald C a_127 hi3 ev3 dX10_atFault_55 ?_
      obtain ⟨u, M2, hr3, hf⟩ := cl_some hf
      refine G.callV (st1 := []) C [.int v3, .int v4] [] (c_X10_fraction hr3) mv_X10_fraction k5_151 o_108.1 (fun _ => gShp_20 o_108) rfl rfl rfl rfl rfl (Nat.le_of_ble_eq_true rfl) (by decide) dX10_atFault_56 rfl ?_
      refine G.iconst (v := 1) C dX10_atFault_59 (by decide) ?_
      cases hf
      exact G.iret C Rt dX10_atFault_60
    · replace hf := gIf hf hc2
      refine G.aload_n (pl := 0) C dX10_atFault_36 rfl rfl ?_
      refine G.bipush (v := (-3)) C dX10_atFault_37 (by decide) ?_
      obtain ⟨v5, M3, hr4, hf⟩ := cl_some hf
      refine G.callV (st1 := [.int v5]) C [.int (-3 : Int32)] [] (c_X10_no hr4) mv_X10_no k5_40 o_108.1 (fun _ => gShp_20 o_108) rfl rfl rfl rfl rfl (Nat.le_of_ble_eq_true rfl) (by decide) dX10_atFault_39 rfl ?_
      cases hf
      exact G.iret C Rt dX10_atFault_42
  · replace hf := gIf hf hc1
    refine G.aload_n (pl := 0) C dX10_atFault_16 rfl rfl ?_
    refine G.bipush (v := (-2)) C dX10_atFault_17 (by decide) ?_
    obtain ⟨v6, M4, hr5, hf⟩ := cl_some hf
    refine G.callV (st1 := [.int v6]) C [.int (-2 : Int32)] [] (c_X10_bad hr5) mv_X10_bad k4_192 o_108.1 (fun _ => gShp_20 o_108) rfl rfl rfl rfl rfl (Nat.le_of_ble_eq_true rfl) (by decide) dX10_atFault_19 rfl ?_
    cases hf
    exact G.iret C Rt dX10_atFault_22
theorem mv_X10_atFault : gMV yX10_atFault cX10_atFault 2 (some .int) 1 := ⟨k5_184, k5_185, k1_12, k5_186, ⟨by decide +kernel, by decide +kernel, by decide +kernel⟩, by decide⟩
theorem c_X10_atFault {res : (Int32 × Mem)} {x1 : Int32} {M : Mem} (hf : f_X10_atFault x1 M = some res) : Ct yX10_atFault cX10_atFault 2 (some .int) 4 (fun ad => [.ref (ad 108), .int x1]) M (some (.int res.1)) res.2 :=
  Ct.of (by decide +kernel) (fun _ => Nat.le_of_ble_eq_true rfl) (fun X ad C Rt => w_X10_atFault_E C Rt x1 M hf)
set_option maxRecDepth 100000 in
set_option maxHeartbeats 4000000 in
theorem w_X10_worst_70 {X : Gc} {ad : Nat → Nat} {res : (Int32 × Mem)} {r_8 : Int32 → Int32 → Mem → Option (Int32 × Mem)} (C : Gk X ad cX10_worst "NineTonguesModel" 3 4) (Rt : Gr X ad (some .int) (some (.int res.1)) res.2) (x2 : Int32) (t0 : Int32) (M : Mem) (h_8 : ∀ (x1 : Int32) (x2 : Int32) (M : Mem), r_8 x1 x2 M = some res → G X ad 8 3 [(0, .ref (ad 108)), (1, .int x1), (2, .int x2)] [] M) (hf : f_X10_worst_70 r_8 x2 t0 M = some res) : G X ad 70 3 [(0, .ref (ad 108)), (2, .int x2)] [.int t0] M := by
  unfold f_X10_worst_70 at hf
  refine G.istore_n (lv' := [(1, .int t0), (0, .ref (ad 108)), (2, .int x2)]) C dX10_worst_70 rfl (by decide) rfl ?_
  refine G.iinc (pl := 2) (v := (x2 + 1)) (lv' := [(2, .int (x2 + 1)), (1, .int t0), (0, .ref (ad 108))]) C dX10_worst_71 rfl rfl (by decide) rfl ?_
  refine G.goto (tgt := 8) C dX10_worst_74 (by decide) ?_
  refine G.sub (lv' := [(0, .ref (ad 108)), (1, .int t0), (2, .int (x2 + 1))]) [2, 1, 0] rfl ?_
  exact h_8 t0 (x2 + 1) M hf
set_option maxRecDepth 100000 in
set_option maxHeartbeats 4000000 in
theorem w_X10_worst_69 {X : Gc} {ad : Nat → Nat} {res : (Int32 × Mem)} {r_8 : Int32 → Int32 → Mem → Option (Int32 × Mem)} (C : Gk X ad cX10_worst "NineTonguesModel" 3 4) (Rt : Gr X ad (some .int) (some (.int res.1)) res.2) (x1 : Int32) (x2 : Int32) (M : Mem) (h_8 : ∀ (x1 : Int32) (x2 : Int32) (M : Mem), r_8 x1 x2 M = some res → G X ad 8 3 [(0, .ref (ad 108)), (1, .int x1), (2, .int x2)] [] M) (hf : f_X10_worst_69 r_8 x1 x2 M = some res) : G X ad 69 3 [(0, .ref (ad 108)), (1, .int x1), (2, .int x2)] [] M := by
  unfold f_X10_worst_69 at hf
  refine G.iload_n (pl := 1) C dX10_worst_69 rfl rfl ?_
  refine G.sub (lv' := [(0, .ref (ad 108)), (2, .int x2)]) [0, 2] rfl ?_
  exact w_X10_worst_70 C Rt x2 x1 M h_8 hf
set_option maxRecDepth 100000 in
set_option maxHeartbeats 4000000 in
theorem w_X10_worst_65 {X : Gc} {ad : Nat → Nat} {res : (Int32 × Mem)} {r_8 : Int32 → Int32 → Mem → Option (Int32 × Mem)} (C : Gk X ad cX10_worst "NineTonguesModel" 3 4) (Rt : Gr X ad (some .int) (some (.int res.1)) res.2) (x2 : Int32) (M : Mem) (h_8 : ∀ (x1 : Int32) (x2 : Int32) (M : Mem), r_8 x1 x2 M = some res → G X ad 8 3 [(0, .ref (ad 108)), (1, .int x1), (2, .int x2)] [] M) (hf : f_X10_worst_65 r_8 x2 M = some res) : G X ad 65 3 [(0, .ref (ad 108)), (2, .int x2)] [] M := by
  unfold f_X10_worst_65 at hf
  refine G.iload_n (pl := 1) C dX10_worst_65 rfl rfl ?_
  refine G.goto (tgt := 70) C dX10_worst_66 (by decide) ?_
  exact w_X10_worst_70 C Rt x2 x2 M h_8 hf
set_option maxRecDepth 100000 in
set_option maxHeartbeats 4000000 in
theorem w_X10_worst_8_b {X : Gc} {ad : Nat → Nat} {res : (Int32 × Mem)} {r_8 : Int32 → Int32 → Mem → Option (Int32 × Mem)} (C : Gk X ad cX10_worst "NineTonguesModel" 3 4) (Rt : Gr X ad (some .int) (some (.int res.1)) res.2) (h_8 : ∀ (x1 : Int32) (x2 : Int32) (M : Mem), r_8 x1 x2 M = some res → G X ad 8 3 [(0, .ref (ad 108)), (1, .int x1), (2, .int x2)] [] M) (x1 : Int32) (x2 : Int32) (M : Mem) (hf : f_X10_worst_8_b r_8 x1 x2 M = some res) : G X ad 8 3 [(0, .ref (ad 108)), (1, .int x1), (2, .int x2)] [] M := by
  unfold f_X10_worst_8_b at hf
  refine G.iload_n (pl := 2) C dX10_worst_8 rfl rfl ?_
  refine G.aload_n (pl := 0) C dX10_worst_9 rfl rfl ?_
  refine gf10_3 C o_108 k4_100 dX10_worst_10 ?_
  refine G.iconst (v := 0) C dX10_worst_13 (by decide) ?_
  refine G.iald (v := (M.1 112 0)) C a_112 (vp_inC (by decide)) rfl dX10_worst_14 ?_
  refine G.icmp_ge (tgt := 77) C dX10_worst_15 (by decide) (fun hc1 => ?_) (fun hc1 => ?_)
  · replace hf := gIf hf hc1
    refine G.iload_n (pl := 1) C dX10_worst_77 rfl rfl ?_
    cases hf
    exact G.iret C Rt dX10_worst_78
  · replace hf := gIfn hf hc1
    refine G.aload_n (pl := 0) C dX10_worst_18 rfl rfl ?_
    refine gf10_22 C o_108 k4_119 dX10_worst_19 ?_
    refine G.iload_n (pl := 2) C dX10_worst_22 rfl rfl ?_
    obtain ⟨v1, ev1, hi1, hf⟩ := rd_some hf
    refine G.iald C a_127 hi1 ev1 dX10_worst_23 ?_
    refine G.if_le (tgt := 69) C dX10_worst_24 (by decide) (fun hc2 => ?_) (fun hc2 => ?_)
    · replace hf := gIf hf hc2
      exact w_X10_worst_69 C Rt x1 x2 M h_8 hf
    · replace hf := gIfn hf hc2
      refine G.iload_n (pl := 1) C dX10_worst_27 rfl rfl ?_
      refine G.if_lt (tgt := 65) C dX10_worst_28 (by decide) (fun hc3 => ?_) (fun hc3 => ?_)
      · replace hf := gIf hf hc3
        refine G.sub (lv' := [(0, .ref (ad 108)), (2, .int x2)]) [0, 2] rfl ?_
        exact w_X10_worst_65 C Rt x2 M h_8 hf
      · replace hf := gIfn hf hc3
        refine G.aload_n (pl := 0) C dX10_worst_31 rfl rfl ?_
        refine gf10_23 C o_108 k4_120 dX10_worst_32 ?_
        refine G.iload_n (pl := 2) C dX10_worst_35 rfl rfl ?_
        obtain ⟨v2, ev2, hi2, hf⟩ := rd_some hf
        refine G.iald C a_128 hi2 ev2 dX10_worst_36 ?_
        refine G.i2l C dX10_worst_37 ?_
        refine G.aload_n (pl := 0) C dX10_worst_38 rfl rfl ?_
        refine gf10_22 C o_108 k4_119 dX10_worst_39 ?_
        refine G.iload_n (pl := 1) C dX10_worst_42 rfl rfl ?_
        obtain ⟨v3, ev3, hi3, hf⟩ := rd_some hf
        refine G.iald C a_127 hi3 ev3 dX10_worst_43 ?_
        refine G.i2l C dX10_worst_44 ?_
        refine G.lmul C dX10_worst_45 ?_
        refine G.aload_n (pl := 0) C dX10_worst_46 rfl rfl ?_
        refine gf10_23 C o_108 k4_120 dX10_worst_47 ?_
        refine G.iload_n (pl := 1) C dX10_worst_50 rfl rfl ?_
        obtain ⟨v4, ev4, hi4, hf⟩ := rd_some hf
        refine G.iald C a_128 hi4 ev4 dX10_worst_51 ?_
        refine G.i2l C dX10_worst_52 ?_
        refine G.aload_n (pl := 0) C dX10_worst_53 rfl rfl ?_
        refine gf10_22 C o_108 k4_119 dX10_worst_54 ?_
        refine G.iload_n (pl := 2) C dX10_worst_57 rfl rfl ?_
        obtain ⟨v5, ev5, hi5, hf⟩ := rd_some hf
        refine G.iald C a_127 hi5 ev5 dX10_worst_58 ?_
        refine G.i2l C dX10_worst_59 ?_
        refine G.lmul C dX10_worst_60 ?_
        refine G.lcmp C dX10_worst_61 ?_
        refine G.if_le (tgt := 69) C dX10_worst_62 (by decide) (fun hc4 => ?_) (fun hc4 => ?_)
        · replace hf := gIf hf hc4
          exact w_X10_worst_69 C Rt x1 x2 M h_8 hf
        · replace hf := gIfn hf hc4
          refine G.sub (lv' := [(0, .ref (ad 108)), (2, .int x2)]) [0, 2] rfl ?_
          exact w_X10_worst_65 C Rt x2 M h_8 hf
theorem w_X10_worst_8 {X : Gc} {ad : Nat → Nat} {res : (Int32 × Mem)} (C : Gk X ad cX10_worst "NineTonguesModel" 3 4) (Rt : Gr X ad (some .int) (some (.int res.1)) res.2) : ∀ (n : Nat) (x1 : Int32) (x2 : Int32) (M : Mem), f_X10_worst_8 n x1 x2 M = some res → G X ad 8 3 [(0, .ref (ad 108)), (1, .int x1), (2, .int x2)] [] M := by
  intro n
  induction n with
  | zero => intro x1 x2 M hf; exact absurd (show (none : Option (Int32 × Mem)) = some res from hf) (fun h => nomatch h)
  | succ n ih => intro x1 x2 M hf; exact w_X10_worst_8_b C Rt ih x1 x2 M hf
set_option maxRecDepth 100000 in
set_option maxHeartbeats 4000000 in
theorem w_X10_worst_E {X : Gc} {ad : Nat → Nat} {res : (Int32 × Mem)} (C : Gk X ad cX10_worst "NineTonguesModel" 3 4) (Rt : Gr X ad (some .int) (some (.int res.1)) res.2) (M : Mem) (hf : f_X10_worst M = some res) : G X ad 0 3 [(0, .ref (ad 108))] [] M := by
  unfold f_X10_worst at hf
  refine G.aload_n (pl := 0) C dX10_worst_0 rfl rfl ?_
  obtain ⟨u, M1, hr1, hf⟩ := cl_some hf
  refine G.callV (st1 := []) C [] [] (c_X10_allRings hr1) mv_X10_allRings k5_167 o_108.1 (fun _ => gShp_20 o_108) rfl rfl rfl rfl rfl (Nat.le_of_ble_eq_true rfl) (by decide) dX10_worst_1 rfl ?_
  refine G.iconst (v := (-1)) C dX10_worst_4 (by decide) ?_
  refine G.istore_n (lv' := [(1, .int (-1 : Int32)), (0, .ref (ad 108))]) C dX10_worst_5 rfl (by decide) rfl ?_
  refine G.iconst (v := 0) C dX10_worst_6 (by decide) ?_
  refine G.istore_n (lv' := [(2, .int (0 : Int32)), (1, .int (-1 : Int32)), (0, .ref (ad 108))]) C dX10_worst_7 rfl (by decide) rfl ?_
  refine G.sub (lv' := [(0, .ref (ad 108)), (1, .int (-1 : Int32)), (2, .int (0 : Int32))]) [2, 1, 0] rfl ?_
  exact w_X10_worst_8 C Rt FU (-1 : Int32) (0 : Int32) M1 hf
theorem mv_X10_worst : gMV yX10_worst cX10_worst 3 (some .int) 0 := ⟨k5_188, k5_189, k1_12, k5_190, ⟨by decide +kernel, by decide +kernel, by decide +kernel⟩, by decide⟩
theorem c_X10_worst {res : (Int32 × Mem)} {M : Mem} (hf : f_X10_worst M = some res) : Ct yX10_worst cX10_worst 3 (some .int) 4 (fun ad => [.ref (ad 108)]) M (some (.int res.1)) res.2 :=
  Ct.of (by decide +kernel) (fun _ => Nat.le_of_ble_eq_true rfl) (fun X ad C Rt => w_X10_worst_E C Rt M hf)
set_option maxRecDepth 100000 in
set_option maxHeartbeats 4000000 in
theorem w_X10_joins_157 {X : Gc} {ad : Nat → Nat} {res : (Unit × Mem)} {r_27 : Int32 → Mem → Option (Unit × Mem)} (C : Gk X ad cX10_joins "NineTonguesModel" 5 4) (Rt : Gr X ad none none res.2) (x1 : Int32) (M : Mem) (h_27 : ∀ (x1 : Int32) (M : Mem), r_27 x1 M = some res → G X ad 27 5 [(0, .ref (ad 108)), (1, .int x1)] [] M) (hf : f_X10_joins_157 r_27 x1 M = some res) : G X ad 157 5 [(0, .ref (ad 108)), (1, .int x1)] [] M := by
  unfold f_X10_joins_157 at hf
  refine G.iinc (pl := 1) (v := (x1 + 1)) (lv' := [(1, .int (x1 + 1)), (0, .ref (ad 108))]) C dX10_joins_157 rfl rfl (by decide) rfl ?_
  refine G.goto (tgt := 27) C dX10_joins_160 (by decide) ?_
  refine G.sub (lv' := [(0, .ref (ad 108)), (1, .int (x1 + 1))]) [1, 0] rfl ?_
  exact h_27 (x1 + 1) M hf
set_option maxRecDepth 100000 in
set_option maxHeartbeats 4000000 in
theorem w_X10_joins_150 {X : Gc} {ad : Nat → Nat} {res : (Unit × Mem)} {r_98 : Int32 → Mem → Option (Unit × Mem)} (C : Gk X ad cX10_joins "NineTonguesModel" 5 4) (Rt : Gr X ad none none res.2) (x1 : Int32) (x2 : Int32) (x3 : Int32) (x4 : Int32) (t2 : Int32) (t1 : Int32) (M : Mem) (h_98 : ∀ (x4 : Int32) (M : Mem), r_98 x4 M = some res → G X ad 98 5 [(0, .ref (ad 108)), (1, .int x1), (2, .int x2), (3, .int x3), (4, .int x4)] [] M) (hf : f_X10_joins_150 r_98 x1 x2 x3 x4 t2 t1 M = some res) : G X ad 150 5 [(0, .ref (ad 108)), (1, .int x1), (2, .int x2), (3, .int x3), (4, .int x4)] [.int t2, .int t1, .ref (ad 129)] M := by
  unfold f_X10_joins_150 at hf
  obtain ⟨hi1, hf⟩ := ck_some hf
  obtain ⟨M1, eM1, hf⟩ := stm_some hf
  refine G.iast C a_129 hi1 eM1 dX10_joins_150 ?_
  refine G.iinc (pl := 4) (v := (x4 + 1)) (lv' := [(4, .int (x4 + 1)), (0, .ref (ad 108)), (1, .int x1), (2, .int x2), (3, .int x3)]) C dX10_joins_151 rfl rfl (by decide) rfl ?_
  refine G.goto (tgt := 98) C dX10_joins_154 (by decide) ?_
  refine G.sub (lv' := [(0, .ref (ad 108)), (1, .int x1), (2, .int x2), (3, .int x3), (4, .int (x4 + 1))]) [1, 2, 3, 4, 0] rfl ?_
  exact h_98 (x4 + 1) M1 hf
set_option maxRecDepth 100000 in
set_option maxHeartbeats 4000000 in
theorem w_X10_joins_98_b {X : Gc} {ad : Nat → Nat} {res : (Unit × Mem)} {r_27 : Int32 → Mem → Option (Unit × Mem)} {r_98 : Int32 → Mem → Option (Unit × Mem)} (C : Gk X ad cX10_joins "NineTonguesModel" 5 4) (Rt : Gr X ad none none res.2) (x1 : Int32) (x2 : Int32) (x3 : Int32) (h_27 : ∀ (x1 : Int32) (M : Mem), r_27 x1 M = some res → G X ad 27 5 [(0, .ref (ad 108)), (1, .int x1)] [] M) (h_98 : ∀ (x4 : Int32) (M : Mem), r_98 x4 M = some res → G X ad 98 5 [(0, .ref (ad 108)), (1, .int x1), (2, .int x2), (3, .int x3), (4, .int x4)] [] M) (x4 : Int32) (M : Mem) (hf : f_X10_joins_98_b r_27 r_98 x1 x2 x3 x4 M = some res) : G X ad 98 5 [(0, .ref (ad 108)), (1, .int x1), (2, .int x2), (3, .int x3), (4, .int x4)] [] M := by
  unfold f_X10_joins_98_b at hf
  refine G.iload (pl := 4) C dX10_joins_98 rfl ?_
  refine G.bipush (v := 48) C dX10_joins_100 (by decide) ?_
  refine G.icmp_ge (tgt := 157) C dX10_joins_102 (by decide) (fun hc1 => ?_) (fun hc1 => ?_)
  · replace hf := gIf hf hc1
    refine G.sub (lv' := [(0, .ref (ad 108)), (1, .int x1)]) [0, 1] rfl ?_
    exact w_X10_joins_157 C Rt x1 M h_27 hf
  · replace hf := gIfn hf hc1
    refine G.iconst (v := 2) C dX10_joins_105 (by decide) ?_
    refine G.aload_n (pl := 0) C dX10_joins_106 rfl rfl ?_
    refine gf10_23 C o_108 k4_120 dX10_joins_107 ?_
    refine G.iload_n (pl := 1) C dX10_joins_110 rfl rfl ?_
    obtain ⟨v1, ev1, hi1, hf⟩ := rd_some hf
    refine G.iald C a_128 hi1 ev1 dX10_joins_111 ?_
    refine G.imul C dX10_joins_112 ?_
    refine G.aload_n (pl := 0) C dX10_joins_113 rfl rfl ?_
    refine gf10_22 C o_108 k4_119 dX10_joins_114 ?_
    refine G.iload_n (pl := 1) C dX10_joins_117 rfl rfl ?_
    obtain ⟨v2, ev2, hi2, hf⟩ := rd_some hf
    refine G.iald C a_127 hi2 ev2 dX10_joins_118 ?_
    refine G.icmp_gt (tgt := 157) C dX10_joins_119 (by decide) (fun hc2 => ?_) (fun hc2 => ?_)
    · replace hf := gIf hf hc2
      refine G.sub (lv' := [(0, .ref (ad 108)), (1, .int x1)]) [0, 1] rfl ?_
      exact w_X10_joins_157 C Rt x1 M h_27 hf
    · replace hf := gIfn hf hc2
      refine G.aload_n (pl := 0) C dX10_joins_122 rfl rfl ?_
      refine gf10_26 C o_108 k4_123 dX10_joins_123 ?_
      refine G.iload (pl := 4) C dX10_joins_126 rfl ?_
      refine G.aload_n (pl := 0) C dX10_joins_128 rfl rfl ?_
      refine gf10_26 C o_108 k4_123 dX10_joins_129 ?_
      refine G.iload (pl := 4) C dX10_joins_132 rfl ?_
      obtain ⟨v3, ev3, hi3, hf⟩ := rd_some hf
      refine G.iald C a_129 hi3 ev3 dX10_joins_134 ?_
      refine G.iload_n (pl := 2) C dX10_joins_135 rfl rfl ?_
      refine G.icmp_ne (tgt := 143) C dX10_joins_136 (by decide) (fun hc3 => ?_) (fun hc3 => ?_)
      · replace hf := gIfn hf hc3
        refine G.aload_n (pl := 0) C dX10_joins_143 rfl rfl ?_
        refine gf10_26 C o_108 k4_123 dX10_joins_144 ?_
        refine G.iload (pl := 4) C dX10_joins_147 rfl ?_
        obtain ⟨v4, ev4, hi4, hf⟩ := rd_some hf
        refine G.iald C a_129 hi4 ev4 dX10_joins_149 ?_
        exact w_X10_joins_150 C Rt x1 x2 x3 x4 v4 x4 M h_98 hf
      · replace hf := gIf hf hc3
        refine G.iload_n (pl := 3) C dX10_joins_139 rfl rfl ?_
        refine G.goto (tgt := 150) C dX10_joins_140 (by decide) ?_
        exact w_X10_joins_150 C Rt x1 x2 x3 x4 x3 x4 M h_98 hf
theorem w_X10_joins_98 {X : Gc} {ad : Nat → Nat} {res : (Unit × Mem)} {r_27 : Int32 → Mem → Option (Unit × Mem)} (C : Gk X ad cX10_joins "NineTonguesModel" 5 4) (Rt : Gr X ad none none res.2) (x1 : Int32) (x2 : Int32) (x3 : Int32) (h_27 : ∀ (x1 : Int32) (M : Mem), r_27 x1 M = some res → G X ad 27 5 [(0, .ref (ad 108)), (1, .int x1)] [] M) : ∀ (n : Nat) (x4 : Int32) (M : Mem), f_X10_joins_98 r_27 x1 x2 x3 n x4 M = some res → G X ad 98 5 [(0, .ref (ad 108)), (1, .int x1), (2, .int x2), (3, .int x3), (4, .int x4)] [] M := by
  intro n
  induction n with
  | zero => intro x4 M hf; exact absurd (show (none : Option (Unit × Mem)) = some res from hf) (fun h => nomatch h)
  | succ n ih => intro x4 M hf; exact w_X10_joins_98_b C Rt x1 x2 x3 h_27 ih x4 M hf
set_option maxRecDepth 100000 in
set_option maxHeartbeats 4000000 in
theorem w_X10_joins_27_b {X : Gc} {ad : Nat → Nat} {res : (Unit × Mem)} {r_27 : Int32 → Mem → Option (Unit × Mem)} (C : Gk X ad cX10_joins "NineTonguesModel" 5 4) (Rt : Gr X ad none none res.2) (h_27 : ∀ (x1 : Int32) (M : Mem), r_27 x1 M = some res → G X ad 27 5 [(0, .ref (ad 108)), (1, .int x1)] [] M) (x1 : Int32) (M : Mem) (hf : f_X10_joins_27_b r_27 x1 M = some res) : G X ad 27 5 [(0, .ref (ad 108)), (1, .int x1)] [] M := by
  unfold f_X10_joins_27_b at hf
  refine G.iload_n (pl := 1) C dX10_joins_27 rfl rfl ?_
  refine G.aload_n (pl := 0) C dX10_joins_28 rfl rfl ?_
  refine gf10_3 C o_108 k4_100 dX10_joins_29 ?_
  refine G.iconst (v := 0) C dX10_joins_32 (by decide) ?_
  refine G.iald (v := (M.1 112 0)) C a_112 (vp_inC (by decide)) rfl dX10_joins_33 ?_
  refine G.icmp_ge (tgt := 163) C dX10_joins_34 (by decide) (fun hc1 => ?_) (fun hc1 => ?_)
  · replace hf := gIf hf hc1
    cases hf
    exact G.vret C Rt dX10_joins_163
  · replace hf := gIfn hf hc1
    refine G.aload_n (pl := 0) C dX10_joins_37 rfl rfl ?_
    refine gf10_26 C o_108 k4_123 dX10_joins_38 ?_
    refine G.bipush (v := 8) C dX10_joins_41 (by decide) ?_
    refine G.aload_n (pl := 0) C dX10_joins_43 rfl rfl ?_
    refine gf10_7 C o_108 k4_104 dX10_joins_44 ?_
    refine G.iconst (v := 4) C dX10_joins_47 (by decide) ?_
    refine G.iload_n (pl := 1) C dX10_joins_48 rfl rfl ?_
    refine G.imul C dX10_joins_49 ?_
    obtain ⟨v1, ev1, hi1, hf⟩ := rd_some hf
    refine G.iald C a_116 hi1 ev1 dX10_joins_50 ?_
    refine G.imul C dX10_joins_51 ?_
    refine G.aload_n (pl := 0) C dX10_joins_52 rfl rfl ?_
    refine gf10_7 C o_108 k4_104 dX10_joins_53 ?_
    refine G.iconst (v := 4) C dX10_joins_56 (by decide) ?_
    refine G.iload_n (pl := 1) C dX10_joins_57 rfl rfl ?_
    refine G.imul C dX10_joins_58 ?_
    refine G.iconst (v := 1) C dX10_joins_59 (by decide) ?_
    refine G.iadd C dX10_joins_60 ?_
    obtain ⟨v2, ev2, hi2, hf⟩ := rd_some hf
    refine G.iald C a_116 hi2 ev2 dX10_joins_61 ?_
    refine G.iadd C dX10_joins_62 ?_
    obtain ⟨v3, ev3, hi3, hf⟩ := rd_some hf
    refine G.iald C a_129 hi3 ev3 dX10_joins_63 ?_
    refine G.istore_n (lv' := [(2, .int v3), (0, .ref (ad 108)), (1, .int x1)]) C dX10_joins_64 rfl (by decide) rfl ?_
    refine G.aload_n (pl := 1) C dX10_joins_65 rfl rfl ?_
    refine gf10_26 C o_108 k4_123 dX10_joins_66 ?_
    refine G.bipush (v := 8) C dX10_joins_69 (by decide) ?_
    refine G.aload_n (pl := 1) C dX10_joins_71 rfl rfl ?_
    refine gf10_7 C o_108 k4_104 dX10_joins_72 ?_
    refine G.iconst (v := 4) C dX10_joins_75 (by decide) ?_
    refine G.iload_n (pl := 2) C dX10_joins_76 rfl rfl ?_
    refine G.imul C dX10_joins_77 ?_
    refine G.iconst (v := 2) C dX10_joins_78 (by decide) ?_
    refine G.iadd C dX10_joins_79 ?_
    obtain ⟨v4, ev4, hi4, hf⟩ := rd_some hf
    refine G.iald C a_116 hi4 ev4 dX10_joins_80 ?_
    refine G.imul C dX10_joins_81 ?_
    refine G.aload_n (pl := 1) C dX10_joins_82 rfl rfl ?_
    refine gf10_7 C o_108 k4_104 dX10_joins_83 ?_
    refine G.iconst (v := 4) C dX10_joins_86 (by decide) ?_
    refine G.iload_n (pl := 2) C dX10_joins_87 rfl rfl ?_
    refine G.imul C dX10_joins_88 ?_
    refine G.iconst (v := 3) C dX10_joins_89 (by decide) ?_
    refine G.iadd C dX10_joins_90 ?_
    obtain ⟨v5, ev5, hi5, hf⟩ := rd_some hf
    refine G.iald C a_116 hi5 ev5 dX10_joins_91 ?_
    refine G.iadd C dX10_joins_92 ?_
    obtain ⟨v6, ev6, hi6, hf⟩ := rd_some hf
    refine G.iald C a_129 hi6 ev6 dX10_joins_93 ?_
    refine G.istore_n (lv' := [(3, .int v6), (2, .int v3), (0, .ref (ad 108)), (1, .int x1)]) C dX10_joins_94 rfl (by decide) rfl ?_
    refine G.iconst (v := 0) C dX10_joins_95 (by decide) ?_
    refine G.istore (lv' := [(4, .int (0 : Int32)), (3, .int v6), (2, .int v3), (0, .ref (ad 108)), (1, .int x1)]) C dX10_joins_96 (by decide) rfl ?_
    refine G.sub (lv' := [(0, .ref (ad 108)), (1, .int x1), (2, .int v3), (3, .int v6), (4, .int (0 : Int32))]) [3, 4, 2, 1, 0] rfl ?_
    exact w_X10_joins_98 C Rt x1 v3 v6 h_27 FU (0 : Int32) M hf
theorem w_X10_joins_27 {X : Gc} {ad : Nat → Nat} {res : (Unit × Mem)} (C : Gk X ad cX10_joins "NineTonguesModel" 5 4) (Rt : Gr X ad none none res.2) : ∀ (n : Nat) (x1 : Int32) (M : Mem), f_X10_joins_27 n x1 M = some res → G X ad 27 5 [(0, .ref (ad 108)), (1, .int x1)] [] M := by
  intro n
  induction n with
  | zero => intro x1 M hf; exact absurd (show (none : Option (Unit × Mem)) = some res from hf) (fun h => nomatch h)
  | succ n ih => intro x1 M hf; exact w_X10_joins_27_b C Rt ih x1 M hf
set_option maxRecDepth 100000 in
set_option maxHeartbeats 4000000 in
theorem w_X10_joins_6_b {X : Gc} {ad : Nat → Nat} {res : (Unit × Mem)} {r_6 : Int32 → Mem → Option (Unit × Mem)} (C : Gk X ad cX10_joins "NineTonguesModel" 5 4) (Rt : Gr X ad none none res.2) (h_6 : ∀ (x1 : Int32) (M : Mem), r_6 x1 M = some res → G X ad 6 5 [(0, .ref (ad 108)), (1, .int x1)] [] M) (x1 : Int32) (M : Mem) (hf : f_X10_joins_6_b r_6 x1 M = some res) : G X ad 6 5 [(0, .ref (ad 108)), (1, .int x1)] [] M := by
  unfold f_X10_joins_6_b at hf
  refine G.iload_n (pl := 1) C dX10_joins_6 rfl rfl ?_
  refine G.bipush (v := 48) C dX10_joins_7 (by decide) ?_
  refine G.icmp_ge (tgt := 25) C dX10_joins_9 (by decide) (fun hc1 => ?_) (fun hc1 => ?_)
  · replace hf := gIf hf hc1
    refine G.iconst (v := 0) C dX10_joins_25 (by decide) ?_
    refine G.istore_n (lv' := [(1, .int (0 : Int32)), (0, .ref (ad 108))]) C dX10_joins_26 rfl (by decide) rfl ?_
    refine G.sub (lv' := [(0, .ref (ad 108)), (1, .int (0 : Int32))]) [1, 0] rfl ?_
    exact w_X10_joins_27 C Rt FU (0 : Int32) M hf
  · replace hf := gIfn hf hc1
    refine G.aload_n (pl := 0) C dX10_joins_12 rfl rfl ?_
    refine gf10_26 C o_108 k4_123 dX10_joins_13 ?_
    refine G.iload_n (pl := 1) C dX10_joins_16 rfl rfl ?_
    refine G.iload_n (pl := 1) C dX10_joins_17 rfl rfl ?_
    obtain ⟨hi1, hf⟩ := ck_some hf
    obtain ⟨M1, eM1, hf⟩ := stm_some hf
    refine G.iast C a_129 hi1 eM1 dX10_joins_18 ?_
    refine G.iinc (pl := 1) (v := (x1 + 1)) (lv' := [(1, .int (x1 + 1)), (0, .ref (ad 108))]) C dX10_joins_19 rfl rfl (by decide) rfl ?_
    refine G.goto (tgt := 6) C dX10_joins_22 (by decide) ?_
    refine G.sub (lv' := [(0, .ref (ad 108)), (1, .int (x1 + 1))]) [1, 0] rfl ?_
    exact h_6 (x1 + 1) M1 hf
theorem w_X10_joins_6 {X : Gc} {ad : Nat → Nat} {res : (Unit × Mem)} (C : Gk X ad cX10_joins "NineTonguesModel" 5 4) (Rt : Gr X ad none none res.2) : ∀ (n : Nat) (x1 : Int32) (M : Mem), f_X10_joins_6 n x1 M = some res → G X ad 6 5 [(0, .ref (ad 108)), (1, .int x1)] [] M := by
  intro n
  induction n with
  | zero => intro x1 M hf; exact absurd (show (none : Option (Unit × Mem)) = some res from hf) (fun h => nomatch h)
  | succ n ih => intro x1 M hf; exact w_X10_joins_6_b C Rt ih x1 M hf
set_option maxRecDepth 100000 in
set_option maxHeartbeats 4000000 in
theorem w_X10_joins_E {X : Gc} {ad : Nat → Nat} {res : (Unit × Mem)} (C : Gk X ad cX10_joins "NineTonguesModel" 5 4) (Rt : Gr X ad none none res.2) (M : Mem) (hf : f_X10_joins M = some res) : G X ad 0 5 [(0, .ref (ad 108))] [] M := by
  unfold f_X10_joins at hf
  refine G.aload_n (pl := 0) C dX10_joins_0 rfl rfl ?_
  obtain ⟨u, M1, hr1, hf⟩ := cl_some hf
  refine G.callV (st1 := []) C [] [] (c_X10_allRings hr1) mv_X10_allRings k5_167 o_108.1 (fun _ => gShp_20 o_108) rfl rfl rfl rfl rfl (Nat.le_of_ble_eq_true rfl) (by decide) dX10_joins_1 rfl ?_
  refine G.iconst (v := 0) C dX10_joins_4 (by decide) ?_
  refine G.istore_n (lv' := [(1, .int (0 : Int32)), (0, .ref (ad 108))]) C dX10_joins_5 rfl (by decide) rfl ?_
  refine G.sub (lv' := [(0, .ref (ad 108)), (1, .int (0 : Int32))]) [1, 0] rfl ?_
  exact w_X10_joins_6 C Rt FU (0 : Int32) M1 hf
theorem mv_X10_joins : gMV yX10_joins cX10_joins 5 none 0 := ⟨k5_197, kS_55, k1_12, k5_198, ⟨by decide +kernel, by decide +kernel, by decide +kernel⟩, by decide⟩
theorem c_X10_joins {res : (Unit × Mem)} {M : Mem} (hf : f_X10_joins M = some res) : Ct yX10_joins cX10_joins 5 none 4 (fun ad => [.ref (ad 108)]) M none res.2 :=
  Ct.of (by decide +kernel) (fun _ => Nat.le_of_ble_eq_true rfl) (fun X ad C Rt => w_X10_joins_E C Rt M hf)
set_option maxRecDepth 100000 in
set_option maxHeartbeats 4000000 in
theorem w_X10_sets_95 {X : Gc} {ad : Nat → Nat} {res : (Int32 × Mem)} {r_8 : Int32 → Int32 → Mem → Option (Int32 × Mem)} (C : Gk X ad cX10_sets "NineTonguesModel" 5 5) (Rt : Gr X ad (some .int) (some (.int res.1)) res.2) (x2 : Int32) (t1 : Int32) (t0 : Int32) (M : Mem) (h_8 : ∀ (x1 : Int32) (x2 : Int32) (M : Mem), r_8 x1 x2 M = some res → G X ad 8 5 [(0, .ref (ad 108)), (1, .int x1), (2, .int x2)] [] M) (hf : f_X10_sets_95 r_8 x2 t1 t0 M = some res) : G X ad 95 5 [(0, .ref (ad 108)), (2, .int x2)] [.int t1, .int t0] M := by
  unfold f_X10_sets_95 at hf
  refine G.iadd C dX10_sets_95 ?_
  refine G.istore_n (lv' := [(1, .int (t0 + t1)), (0, .ref (ad 108)), (2, .int x2)]) C dX10_sets_96 rfl (by decide) rfl ?_
  refine G.iinc (pl := 2) (v := (x2 + 1)) (lv' := [(2, .int (x2 + 1)), (1, .int (t0 + t1)), (0, .ref (ad 108))]) C dX10_sets_97 rfl rfl (by decide) rfl ?_
  refine G.goto (tgt := 8) C dX10_sets_100 (by decide) ?_
  refine G.sub (lv' := [(0, .ref (ad 108)), (1, .int (t0 + t1)), (2, .int (x2 + 1))]) [2, 1, 0] rfl ?_
  exact h_8 (t0 + t1) (x2 + 1) M hf
set_option maxRecDepth 100000 in
set_option maxHeartbeats 4000000 in
theorem w_X10_sets_78 {X : Gc} {ad : Nat → Nat} {res : (Int32 × Mem)} {r_30 : Int32 → Int32 → Mem → Option (Int32 × Mem)} (C : Gk X ad cX10_sets "NineTonguesModel" 5 5) (Rt : Gr X ad (some .int) (some (.int res.1)) res.2) (x1 : Int32) (x2 : Int32) (x4 : Int32) (t0 : Int32) (M : Mem) (h_30 : ∀ (x3 : Int32) (x4 : Int32) (M : Mem), r_30 x3 x4 M = some res → G X ad 30 5 [(0, .ref (ad 108)), (1, .int x1), (2, .int x2), (3, .int x3), (4, .int x4)] [] M) (hf : f_X10_sets_78 r_30 x1 x2 x4 t0 M = some res) : G X ad 78 5 [(0, .ref (ad 108)), (1, .int x1), (2, .int x2), (4, .int x4)] [.int t0] M := by
  unfold f_X10_sets_78 at hf
  refine G.istore_n (lv' := [(3, .int t0), (0, .ref (ad 108)), (1, .int x1), (2, .int x2), (4, .int x4)]) C dX10_sets_78 rfl (by decide) rfl ?_
  refine G.iinc (pl := 4) (v := (x4 + 1)) (lv' := [(4, .int (x4 + 1)), (3, .int t0), (0, .ref (ad 108)), (1, .int x1), (2, .int x2)]) C dX10_sets_79 rfl rfl (by decide) rfl ?_
  refine G.goto (tgt := 30) C dX10_sets_82 (by decide) ?_
  refine G.sub (lv' := [(0, .ref (ad 108)), (1, .int x1), (2, .int x2), (3, .int t0), (4, .int (x4 + 1))]) [2, 3, 4, 1, 0] rfl ?_
  exact h_30 t0 (x4 + 1) M hf
set_option maxRecDepth 100000 in
set_option maxHeartbeats 4000000 in
theorem w_X10_sets_77 {X : Gc} {ad : Nat → Nat} {res : (Int32 × Mem)} {r_30 : Int32 → Int32 → Mem → Option (Int32 × Mem)} (C : Gk X ad cX10_sets "NineTonguesModel" 5 5) (Rt : Gr X ad (some .int) (some (.int res.1)) res.2) (x1 : Int32) (x2 : Int32) (x4 : Int32) (M : Mem) (h_30 : ∀ (x3 : Int32) (x4 : Int32) (M : Mem), r_30 x3 x4 M = some res → G X ad 30 5 [(0, .ref (ad 108)), (1, .int x1), (2, .int x2), (3, .int x3), (4, .int x4)] [] M) (hf : f_X10_sets_77 r_30 x1 x2 x4 M = some res) : G X ad 77 5 [(0, .ref (ad 108)), (1, .int x1), (2, .int x2), (4, .int x4)] [] M := by
  unfold f_X10_sets_77 at hf
  refine G.iconst (v := 0) C dX10_sets_77 (by decide) ?_
  exact w_X10_sets_78 C Rt x1 x2 x4 (0 : Int32) M h_30 hf
set_option maxRecDepth 100000 in
set_option maxHeartbeats 4000000 in
theorem w_X10_sets_73 {X : Gc} {ad : Nat → Nat} {res : (Int32 × Mem)} {r_30 : Int32 → Int32 → Mem → Option (Int32 × Mem)} (C : Gk X ad cX10_sets "NineTonguesModel" 5 5) (Rt : Gr X ad (some .int) (some (.int res.1)) res.2) (x1 : Int32) (x2 : Int32) (x4 : Int32) (M : Mem) (h_30 : ∀ (x3 : Int32) (x4 : Int32) (M : Mem), r_30 x3 x4 M = some res → G X ad 30 5 [(0, .ref (ad 108)), (1, .int x1), (2, .int x2), (3, .int x3), (4, .int x4)] [] M) (hf : f_X10_sets_73 r_30 x1 x2 x4 M = some res) : G X ad 73 5 [(0, .ref (ad 108)), (1, .int x1), (2, .int x2), (4, .int x4)] [] M := by
  unfold f_X10_sets_73 at hf
  refine G.iconst (v := 1) C dX10_sets_73 (by decide) ?_
  refine G.goto (tgt := 78) C dX10_sets_74 (by decide) ?_
  exact w_X10_sets_78 C Rt x1 x2 x4 (1 : Int32) M h_30 hf
set_option maxRecDepth 100000 in
set_option maxHeartbeats 4000000 in
theorem w_X10_sets_30_b {X : Gc} {ad : Nat → Nat} {res : (Int32 × Mem)} {r_8 : Int32 → Int32 → Mem → Option (Int32 × Mem)} {r_30 : Int32 → Int32 → Mem → Option (Int32 × Mem)} (C : Gk X ad cX10_sets "NineTonguesModel" 5 5) (Rt : Gr X ad (some .int) (some (.int res.1)) res.2) (x1 : Int32) (x2 : Int32) (h_8 : ∀ (x1 : Int32) (x2 : Int32) (M : Mem), r_8 x1 x2 M = some res → G X ad 8 5 [(0, .ref (ad 108)), (1, .int x1), (2, .int x2)] [] M) (h_30 : ∀ (x3 : Int32) (x4 : Int32) (M : Mem), r_30 x3 x4 M = some res → G X ad 30 5 [(0, .ref (ad 108)), (1, .int x1), (2, .int x2), (3, .int x3), (4, .int x4)] [] M) (x3 : Int32) (x4 : Int32) (M : Mem) (hf : f_X10_sets_30_b r_8 r_30 x1 x2 x3 x4 M = some res) : G X ad 30 5 [(0, .ref (ad 108)), (1, .int x1), (2, .int x2), (3, .int x3), (4, .int x4)] [] M := by
  unfold f_X10_sets_30_b at hf
  refine G.iload (pl := 4) C dX10_sets_30 rfl ?_
  refine G.iload_n (pl := 2) C dX10_sets_32 rfl rfl ?_
  refine G.icmp_ge (tgt := 85) C dX10_sets_33 (by decide) (fun hc1 => ?_) (fun hc1 => ?_)
  · replace hf := gIf hf hc1
    refine G.iload_n (pl := 1) C dX10_sets_85 rfl rfl ?_
    refine G.iload_n (pl := 3) C dX10_sets_86 rfl rfl ?_
    refine G.if_eq (tgt := 94) C dX10_sets_87 (by decide) (fun hc2 => ?_) (fun hc2 => ?_)
    · replace hf := gIf hf hc2
      refine G.iconst (v := 0) C dX10_sets_94 (by decide) ?_
      refine G.sub (lv' := [(0, .ref (ad 108)), (2, .int x2)]) [0, 2] rfl ?_
      exact w_X10_sets_95 C Rt x2 (0 : Int32) x1 M h_8 hf
    · replace hf := gIfn hf hc2
      refine G.iconst (v := 1) C dX10_sets_90 (by decide) ?_
      refine G.goto (tgt := 95) C dX10_sets_91 (by decide) ?_
      refine G.sub (lv' := [(0, .ref (ad 108)), (2, .int x2)]) [0, 2] rfl ?_
      exact w_X10_sets_95 C Rt x2 (1 : Int32) x1 M h_8 hf
  · replace hf := gIfn hf hc1
    refine G.iload_n (pl := 3) C dX10_sets_36 rfl rfl ?_
    refine G.if_eq (tgt := 77) C dX10_sets_37 (by decide) (fun hc3 => ?_) (fun hc3 => ?_)
    · replace hf := gIf hf hc3
      refine G.sub (lv' := [(0, .ref (ad 108)), (1, .int x1), (2, .int x2), (4, .int x4)]) [0, 1, 2, 4] rfl ?_
      exact w_X10_sets_77 C Rt x1 x2 x4 M h_30 hf
    · replace hf := gIfn hf hc3
      refine G.aload_n (pl := 0) C dX10_sets_40 rfl rfl ?_
      refine G.iload (pl := 4) C dX10_sets_41 rfl ?_
      refine G.bipush (v := 8) C dX10_sets_43 (by decide) ?_
      refine G.idiv C (by decide) dX10_sets_45 ?_
      refine G.iload (pl := 4) C dX10_sets_46 rfl ?_
      refine G.bipush (v := 8) C dX10_sets_48 (by decide) ?_
      refine G.irem C (by decide) dX10_sets_50 ?_
      obtain ⟨v1, hr1, hf⟩ := cp_some hf
      refine G.callV (st1 := [.int v1]) C [.int (x4 / (8 : Int32)), .int (x4 % (8 : Int32))] [] (c_X10_isWord hr1) mv_X10_isWord k4_228 o_108.1 (fun _ => gShp_20 o_108) rfl rfl rfl rfl rfl (Nat.le_of_ble_eq_true rfl) (by decide) dX10_sets_51 rfl ?_
      refine G.if_eq (tgt := 73) C dX10_sets_54 (by decide) (fun hc4 => ?_) (fun hc4 => ?_)
      · replace hf := gIf hf hc4
        refine G.sub (lv' := [(0, .ref (ad 108)), (1, .int x1), (2, .int x2), (4, .int x4)]) [0, 1, 2, 4] rfl ?_
        exact w_X10_sets_73 C Rt x1 x2 x4 M h_30 hf
      · replace hf := gIfn hf hc4
        refine G.aload_n (pl := 0) C dX10_sets_57 rfl rfl ?_
        refine gf10_26 C o_108 k4_123 dX10_sets_58 ?_
        refine G.iload (pl := 4) C dX10_sets_61 rfl ?_
        obtain ⟨v2, ev1, hi1, hf⟩ := rd_some hf
        refine G.iald C a_129 hi1 ev1 dX10_sets_63 ?_
        refine G.aload_n (pl := 0) C dX10_sets_64 rfl rfl ?_
        refine gf10_26 C o_108 k4_123 dX10_sets_65 ?_
        refine G.iload_n (pl := 2) C dX10_sets_68 rfl rfl ?_
        obtain ⟨v3, ev2, hi2, hf⟩ := rd_some hf
        refine G.iald C a_129 hi2 ev2 dX10_sets_69 ?_
        refine G.icmp_eq (tgt := 77) C dX10_sets_70 (by decide) (fun hc5 => ?_) (fun hc5 => ?_)
        · replace hf := gIf hf hc5
          refine G.sub (lv' := [(0, .ref (ad 108)), (1, .int x1), (2, .int x2), (4, .int x4)]) [0, 1, 2, 4] rfl ?_
          exact w_X10_sets_77 C Rt x1 x2 x4 M h_30 hf
        · replace hf := gIfn hf hc5
          refine G.sub (lv' := [(0, .ref (ad 108)), (1, .int x1), (2, .int x2), (4, .int x4)]) [0, 1, 2, 4] rfl ?_
          exact w_X10_sets_73 C Rt x1 x2 x4 M h_30 hf
theorem w_X10_sets_30 {X : Gc} {ad : Nat → Nat} {res : (Int32 × Mem)} {r_8 : Int32 → Int32 → Mem → Option (Int32 × Mem)} (C : Gk X ad cX10_sets "NineTonguesModel" 5 5) (Rt : Gr X ad (some .int) (some (.int res.1)) res.2) (x1 : Int32) (x2 : Int32) (h_8 : ∀ (x1 : Int32) (x2 : Int32) (M : Mem), r_8 x1 x2 M = some res → G X ad 8 5 [(0, .ref (ad 108)), (1, .int x1), (2, .int x2)] [] M) : ∀ (n : Nat) (x3 : Int32) (x4 : Int32) (M : Mem), f_X10_sets_30 r_8 x1 x2 n x3 x4 M = some res → G X ad 30 5 [(0, .ref (ad 108)), (1, .int x1), (2, .int x2), (3, .int x3), (4, .int x4)] [] M := by
  intro n
  induction n with
  | zero => intro x3 x4 M hf; exact absurd (show (none : Option (Int32 × Mem)) = some res from hf) (fun h => nomatch h)
  | succ n ih => intro x3 x4 M hf; exact w_X10_sets_30_b C Rt x1 x2 h_8 ih x3 x4 M hf
set_option maxRecDepth 100000 in
set_option maxHeartbeats 4000000 in
theorem w_X10_sets_8_b {X : Gc} {ad : Nat → Nat} {res : (Int32 × Mem)} {r_8 : Int32 → Int32 → Mem → Option (Int32 × Mem)} (C : Gk X ad cX10_sets "NineTonguesModel" 5 5) (Rt : Gr X ad (some .int) (some (.int res.1)) res.2) (h_8 : ∀ (x1 : Int32) (x2 : Int32) (M : Mem), r_8 x1 x2 M = some res → G X ad 8 5 [(0, .ref (ad 108)), (1, .int x1), (2, .int x2)] [] M) (x1 : Int32) (x2 : Int32) (M : Mem) (hf : f_X10_sets_8_b r_8 x1 x2 M = some res) : G X ad 8 5 [(0, .ref (ad 108)), (1, .int x1), (2, .int x2)] [] M := by
  unfold f_X10_sets_8_b at hf
  refine G.iload_n (pl := 2) C dX10_sets_8 rfl rfl ?_
  refine G.bipush (v := 48) C dX10_sets_9 (by decide) ?_
  refine G.icmp_ge (tgt := 103) C dX10_sets_11 (by decide) (fun hc1 => ?_) (fun hc1 => ?_)
  · replace hf := gIf hf hc1
    refine G.iload_n (pl := 1) C dX10_sets_103 rfl rfl ?_
    cases hf
    exact G.iret C Rt dX10_sets_104
  · replace hf := gIfn hf hc1
    refine G.aload_n (pl := 0) C dX10_sets_14 rfl rfl ?_
    refine G.iload_n (pl := 2) C dX10_sets_15 rfl rfl ?_
    refine G.bipush (v := 8) C dX10_sets_16 (by decide) ?_
    refine G.idiv C (by decide) dX10_sets_18 ?_
    refine G.iload_n (pl := 2) C dX10_sets_19 rfl rfl ?_
    refine G.bipush (v := 8) C dX10_sets_20 (by decide) ?_
    refine G.irem C (by decide) dX10_sets_22 ?_
    obtain ⟨v1, hr1, hf⟩ := cp_some hf
    refine G.callV (st1 := [.int v1]) C [.int (x2 / (8 : Int32)), .int (x2 % (8 : Int32))] [] (c_X10_isWord hr1) mv_X10_isWord k4_228 o_108.1 (fun _ => gShp_20 o_108) rfl rfl rfl rfl rfl (Nat.le_of_ble_eq_true rfl) (by decide) dX10_sets_23 rfl ?_
    refine G.istore_n (lv' := [(3, .int v1), (0, .ref (ad 108)), (1, .int x1), (2, .int x2)]) C dX10_sets_26 rfl (by decide) rfl ?_
    refine G.iconst (v := 0) C dX10_sets_27 (by decide) ?_
    refine G.istore (lv' := [(4, .int (0 : Int32)), (3, .int v1), (0, .ref (ad 108)), (1, .int x1), (2, .int x2)]) C dX10_sets_28 (by decide) rfl ?_
    refine G.sub (lv' := [(0, .ref (ad 108)), (1, .int x1), (2, .int x2), (3, .int v1), (4, .int (0 : Int32))]) [2, 3, 4, 1, 0] rfl ?_
    exact w_X10_sets_30 C Rt x1 x2 h_8 FU v1 (0 : Int32) M hf
theorem w_X10_sets_8 {X : Gc} {ad : Nat → Nat} {res : (Int32 × Mem)} (C : Gk X ad cX10_sets "NineTonguesModel" 5 5) (Rt : Gr X ad (some .int) (some (.int res.1)) res.2) : ∀ (n : Nat) (x1 : Int32) (x2 : Int32) (M : Mem), f_X10_sets_8 n x1 x2 M = some res → G X ad 8 5 [(0, .ref (ad 108)), (1, .int x1), (2, .int x2)] [] M := by
  intro n
  induction n with
  | zero => intro x1 x2 M hf; exact absurd (show (none : Option (Int32 × Mem)) = some res from hf) (fun h => nomatch h)
  | succ n ih => intro x1 x2 M hf; exact w_X10_sets_8_b C Rt ih x1 x2 M hf
set_option maxRecDepth 100000 in
set_option maxHeartbeats 4000000 in
theorem w_X10_sets_E {X : Gc} {ad : Nat → Nat} {res : (Int32 × Mem)} (C : Gk X ad cX10_sets "NineTonguesModel" 5 5) (Rt : Gr X ad (some .int) (some (.int res.1)) res.2) (M : Mem) (hf : f_X10_sets M = some res) : G X ad 0 5 [(0, .ref (ad 108))] [] M := by
  unfold f_X10_sets at hf
  refine G.aload_n (pl := 0) C dX10_sets_0 rfl rfl ?_
  obtain ⟨u, M1, hr1, hf⟩ := cl_some hf
  refine G.callV (st1 := []) C [] [] (c_X10_joins hr1) mv_X10_joins k5_195 o_108.1 (fun _ => gShp_20 o_108) rfl rfl rfl rfl rfl (Nat.le_of_ble_eq_true rfl) (by decide) dX10_sets_1 rfl ?_
  refine G.iconst (v := 0) C dX10_sets_4 (by decide) ?_
  refine G.istore_n (lv' := [(1, .int (0 : Int32)), (0, .ref (ad 108))]) C dX10_sets_5 rfl (by decide) rfl ?_
  refine G.iconst (v := 0) C dX10_sets_6 (by decide) ?_
  refine G.istore_n (lv' := [(2, .int (0 : Int32)), (1, .int (0 : Int32)), (0, .ref (ad 108))]) C dX10_sets_7 rfl (by decide) rfl ?_
  refine G.sub (lv' := [(0, .ref (ad 108)), (1, .int (0 : Int32)), (2, .int (0 : Int32))]) [2, 1, 0] rfl ?_
  exact w_X10_sets_8 C Rt FU (0 : Int32) (0 : Int32) M1 hf
theorem mv_X10_sets : gMV yX10_sets cX10_sets 5 (some .int) 0 := ⟨k5_192, k5_193, k1_12, k5_194, ⟨by decide +kernel, by decide +kernel, by decide +kernel⟩, by decide⟩
theorem c_X10_sets {res : (Int32 × Mem)} {M : Mem} (hf : f_X10_sets M = some res) : Ct yX10_sets cX10_sets 5 (some .int) 5 (fun ad => [.ref (ad 108)]) M (some (.int res.1)) res.2 :=
  Ct.of (by decide +kernel) (fun _ => Nat.le_of_ble_eq_true rfl) (fun X ad C Rt => w_X10_sets_E C Rt M hf)
set_option maxRecDepth 100000 in
set_option maxHeartbeats 4000000 in
theorem w_X10_alike_19 {X : Gc} {ad : Nat → Nat} {res : (Int32 × Mem)} (C : Gk X ad cX10_alike "NineTonguesModel" 5 5) (Rt : Gr X ad (some .int) (some (.int res.1)) res.2) (M : Mem) (hf : f_X10_alike_19 M = some res) : G X ad 19 5 [(0, .ref (ad 108))] [] M := by
  unfold f_X10_alike_19 at hf
  refine G.aload_n (pl := 0) C dX10_alike_19 rfl rfl ?_
  refine G.bipush (v := (-2)) C dX10_alike_20 (by decide) ?_
  obtain ⟨v1, M1, hr1, hf⟩ := cl_some hf
  refine G.callV (st1 := [.int v1]) C [.int (-2 : Int32)] [] (c_X10_bad hr1) mv_X10_bad k4_192 o_108.1 (fun _ => gShp_20 o_108) rfl rfl rfl rfl rfl (Nat.le_of_ble_eq_true rfl) (by decide) dX10_alike_22 rfl ?_
  cases hf
  exact G.iret C Rt dX10_alike_25
set_option maxRecDepth 100000 in
set_option maxHeartbeats 4000000 in
theorem w_X10_alike_E {X : Gc} {ad : Nat → Nat} {res : (Int32 × Mem)} (C : Gk X ad cX10_alike "NineTonguesModel" 5 5) (Rt : Gr X ad (some .int) (some (.int res.1)) res.2) (x1 : Int32) (x2 : Int32) (x3 : Int32) (x4 : Int32) (M : Mem) (hf : f_X10_alike x1 x2 x3 x4 M = some res) : G X ad 0 5 [(0, .ref (ad 108)), (1, .int x1), (2, .int x2), (3, .int x3), (4, .int x4)] [] M := by
  unfold f_X10_alike at hf
  refine G.aload_n (pl := 0) C dX10_alike_0 rfl rfl ?_
  refine G.iload_n (pl := 1) C dX10_alike_1 rfl rfl ?_
  refine G.iload_n (pl := 2) C dX10_alike_2 rfl rfl ?_
  obtain ⟨v1, hr1, hf⟩ := cp_some hf
  refine G.callV (st1 := [.int v1]) C [.int x1, .int x2] [] (c_X10_isWord hr1) mv_X10_isWord k4_228 o_108.1 (fun _ => gShp_20 o_108) rfl rfl rfl rfl rfl (Nat.le_of_ble_eq_true rfl) (by decide) dX10_alike_3 rfl ?_
  refine G.if_eq (tgt := 19) C dX10_alike_6 (by decide) (fun hc1 => ?_) (fun hc1 => ?_)
  · replace hf := gIf hf hc1
    refine G.sub (lv' := [(0, .ref (ad 108))]) [0] rfl ?_
    exact w_X10_alike_19 C Rt M hf
  · replace hf := gIfn hf hc1
    refine G.aload_n (pl := 0) C dX10_alike_9 rfl rfl ?_
    refine G.iload_n (pl := 3) C dX10_alike_10 rfl rfl ?_
    refine G.iload (pl := 4) C dX10_alike_11 rfl ?_
    obtain ⟨v2, hr2, hf⟩ := cp_some hf
    refine G.callV (st1 := [.int v2]) C [.int x3, .int x4] [] (c_X10_isWord hr2) mv_X10_isWord k4_228 o_108.1 (fun _ => gShp_20 o_108) rfl rfl rfl rfl rfl (Nat.le_of_ble_eq_true rfl) (by decide) dX10_alike_13 rfl ?_
    refine G.if_ne (tgt := 26) C dX10_alike_16 (by decide) (fun hc2 => ?_) (fun hc2 => ?_)
    · replace hf := gIfn hf hc2
      refine G.aload_n (pl := 0) C dX10_alike_26 rfl rfl ?_
      obtain ⟨u, M1, hr3, hf⟩ := cl_some hf
      refine G.callV (st1 := []) C [] [] (c_X10_joins hr3) mv_X10_joins k5_195 o_108.1 (fun _ => gShp_20 o_108) rfl rfl rfl rfl rfl (Nat.le_of_ble_eq_true rfl) (by decide) dX10_alike_27 rfl ?_
      refine G.aload_n (pl := 0) C dX10_alike_30 rfl rfl ?_
      refine gf10_26 C o_108 k4_123 dX10_alike_31 ?_
      refine G.bipush (v := 8) C dX10_alike_34 (by decide) ?_
      refine G.iload_n (pl := 1) C dX10_alike_36 rfl rfl ?_
      refine G.imul C dX10_alike_37 ?_
      refine G.iload_n (pl := 2) C dX10_alike_38 rfl rfl ?_
      refine G.iadd C dX10_alike_39 ?_
      obtain ⟨v3, ev1, hi1, hf⟩ := rd_some hf
      refine G.iald C a_129 hi1 ev1 dX10_alike_40 ?_
      refine G.aload_n (pl := 0) C dX10_alike_41 rfl rfl ?_
      refine gf10_26 C o_108 k4_123 dX10_alike_42 ?_
      refine G.bipush (v := 8) C dX10_alike_45 (by decide) ?_
      refine G.iload_n (pl := 3) C dX10_alike_47 rfl rfl ?_
      refine G.imul C dX10_alike_48 ?_
      refine G.iload (pl := 4) C dX10_alike_49 rfl ?_
      refine G.iadd C dX10_alike_51 ?_
      obtain ⟨v4, ev2, hi2, hf⟩ := rd_some hf
      refine G.iald C a_129 hi2 ev2 dX10_alike_52 ?_
      refine G.icmp_ne (tgt := 60) C dX10_alike_53 (by decide) (fun hc3 => ?_) (fun hc3 => ?_)
      · replace hf := gIfn hf hc3
        refine G.iconst (v := 0) C dX10_alike_60 (by decide) ?_
        cases hf
        exact G.iret C Rt dX10_alike_61
      · replace hf := gIf hf hc3
        refine G.iconst (v := 1) C dX10_alike_56 (by decide) ?_
        refine G.goto (tgt := 61) C dX10_alike_57 (by decide) ?_
        cases hf
        exact G.iret C Rt dX10_alike_61
    · replace hf := gIf hf hc2
      refine G.sub (lv' := [(0, .ref (ad 108))]) [0] rfl ?_
      exact w_X10_alike_19 C Rt M hf
theorem mv_X10_alike : gMV yX10_alike cX10_alike 5 (some .int) 4 := ⟨k5_200, k5_201, k1_12, k5_202, ⟨by decide +kernel, by decide +kernel, by decide +kernel⟩, by decide⟩
theorem c_X10_alike {res : (Int32 × Mem)} {x1 : Int32} {x2 : Int32} {x3 : Int32} {x4 : Int32} {M : Mem} (hf : f_X10_alike x1 x2 x3 x4 M = some res) : Ct yX10_alike cX10_alike 5 (some .int) 5 (fun ad => [.ref (ad 108), .int x1, .int x2, .int x3, .int x4]) M (some (.int res.1)) res.2 :=
  Ct.of (by decide +kernel) (fun _ => Nat.le_of_ble_eq_true rfl) (fun X ad C Rt => w_X10_alike_E C Rt x1 x2 x3 x4 M hf)
set_option maxRecDepth 100000 in
set_option maxHeartbeats 4000000 in
theorem w_X10_part_E {X : Gc} {ad : Nat → Nat} {res : (Int32 × Mem)} (C : Gk X ad cX10_part "NineTonguesModel" 2 2) (Rt : Gr X ad (some .int) (some (.int res.1)) res.2) (x1 : Int32) (M : Mem) (hf : f_X10_part x1 M = some res) : G X ad 0 2 [(0, .ref (ad 108)), (1, .int x1)] [] M := by
  unfold f_X10_part at hf
  refine G.iload_n (pl := 1) C dX10_part_0 rfl rfl ?_
  refine G.if_ne (tgt := 11) C dX10_part_1 (by decide) (fun hc1 => ?_) (fun hc1 => ?_)
  · replace hf := gIfn hf hc1
    refine G.iload_n (pl := 1) C dX10_part_11 rfl rfl ?_
    refine G.iconst (v := 1) C dX10_part_12 (by decide) ?_
    refine G.icmp_ne (tgt := 23) C dX10_part_13 (by decide) (fun hc2 => ?_) (fun hc2 => ?_)
    · replace hf := gIfn hf hc2
      refine G.aload_n (pl := 0) C dX10_part_23 rfl rfl ?_
      refine G.bipush (v := (-2)) C dX10_part_24 (by decide) ?_
      obtain ⟨v1, M1, hr1, hf⟩ := cl_some hf
      refine G.callV (st1 := [.int v1]) C [.int (-2 : Int32)] [] (c_X10_bad hr1) mv_X10_bad k4_192 o_108.1 (fun _ => gShp_20 o_108) rfl rfl rfl rfl rfl (Nat.le_of_ble_eq_true rfl) (by decide) dX10_part_26 rfl ?_
      cases hf
      exact G.iret C Rt dX10_part_29
    · replace hf := gIf hf hc2
      refine G.aload_n (pl := 0) C dX10_part_16 rfl rfl ?_
      refine gf10_12 C o_108 k4_109 dX10_part_17 ?_
      refine G.goto (tgt := 29) C dX10_part_20 (by decide) ?_
      cases hf
      exact G.iret C Rt dX10_part_29
  · replace hf := gIf hf hc1
    refine G.aload_n (pl := 0) C dX10_part_4 rfl rfl ?_
    refine gf10_11 C o_108 k4_108 dX10_part_5 ?_
    refine G.goto (tgt := 29) C dX10_part_8 (by decide) ?_
    cases hf
    exact G.iret C Rt dX10_part_29
theorem mv_X10_part : gMV yX10_part cX10_part 2 (some .int) 1 := ⟨k5_204, k5_205, k1_12, k5_206, ⟨by decide +kernel, by decide +kernel, by decide +kernel⟩, by decide⟩
theorem c_X10_part {res : (Int32 × Mem)} {x1 : Int32} {M : Mem} (hf : f_X10_part x1 M = some res) : Ct yX10_part cX10_part 2 (some .int) 2 (fun ad => [.ref (ad 108), .int x1]) M (some (.int res.1)) res.2 :=
  Ct.of (by decide +kernel) (fun _ => Nat.le_of_ble_eq_true rfl) (fun X ad C Rt => w_X10_part_E C Rt x1 M hf)
