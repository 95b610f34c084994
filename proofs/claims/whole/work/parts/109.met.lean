set_option maxRecDepth 100000 in
set_option maxHeartbeats 4000000 in
theorem w_X10_codes_4_b {X : Gc} {ad : Nat → Nat} {res : Int32} {M : Mem} {r_4 : Int32 → Int32 → Option Int32} (C : Gk X ad cX10_codes "NineTonguesModel" 4 1) (Rt : Gr X ad (some .int) (some (.int res)) M) (x1 : Int32) (h_4 : ∀ (x2 : Int32) (x3 : Int32), r_4 x2 x3 = some res → G X ad 4 4 [(0, .ref (ad 108)), (1, .int x1), (2, .int x2), (3, .int x3)] [] M) (x2 : Int32) (x3 : Int32) (hf : f_X10_codes_4_b M r_4 x1 x2 x3 = some res) : G X ad 4 4 [(0, .ref (ad 108)), (1, .int x1), (2, .int x2), (3, .int x3)] [] M := by
  unfold f_X10_codes_4_b at hf
  refine G.iload_n (pl := 3) C dX10_codes_4 rfl rfl ?_
  refine G.iload_n (pl := 1) C dX10_codes_5 rfl rfl ?_
  refine G.icmp_ge (tgt := 24) C dX10_codes_6 (by decide) (fun hc1 => ?_) (fun hc1 => ?_)
  · replace hf := gIf hf hc1
    refine G.iload_n (pl := 2) C dX10_codes_24 rfl rfl ?_
    cases hf
    exact G.iret C Rt dX10_codes_25
  · replace hf := gIfn hf hc1
    refine G.iload_n (pl := 2) C dX10_codes_9 rfl rfl ?_
    refine G.aload_n (pl := 0) C dX10_codes_10 rfl rfl ?_
    refine gf10_0 C o_108 k4_97 dX10_codes_11 ?_
    refine G.iconst (v := 0) C dX10_codes_14 (by decide) ?_
    refine G.iald (v := (M.1 109 0)) C a_109 (vp_inC (by decide)) rfl dX10_codes_15 ?_
    refine G.imul C dX10_codes_16 ?_
    refine G.istore_n (lv' := [(2, .int (x2 * (M.1 109 0))), (0, .ref (ad 108)), (1, .int x1), (3, .int x3)]) C dX10_codes_17 rfl (by decide) rfl ?_
    refine G.iinc (pl := 3) (v := (x3 + 1)) (lv' := [(3, .int (x3 + 1)), (2, .int (x2 * (M.1 109 0))), (0, .ref (ad 108)), (1, .int x1)]) C dX10_codes_18 rfl rfl (by decide) rfl ?_
    refine G.goto (tgt := 4) C dX10_codes_21 (by decide) ?_
    refine G.sub (lv' := [(0, .ref (ad 108)), (1, .int x1), (2, .int (x2 * (M.1 109 0))), (3, .int (x3 + 1))]) [2, 3, 1, 0] rfl ?_
    exact h_4 (x2 * (M.1 109 0)) (x3 + 1)  hf
theorem w_X10_codes_4 {X : Gc} {ad : Nat → Nat} {res : Int32} {M : Mem} (C : Gk X ad cX10_codes "NineTonguesModel" 4 1) (Rt : Gr X ad (some .int) (some (.int res)) M) (x1 : Int32) : ∀ (n : Nat) (x2 : Int32) (x3 : Int32), f_X10_codes_4 M x1 n x2 x3 = some res → G X ad 4 4 [(0, .ref (ad 108)), (1, .int x1), (2, .int x2), (3, .int x3)] [] M := by
  intro n
  induction n with
  | zero => intro x2 x3 hf; exact absurd (show (none : Option Int32) = some res from hf) (fun h => nomatch h)
  | succ n ih => intro x2 x3 hf; exact w_X10_codes_4_b C Rt x1 ih x2 x3 hf
set_option maxRecDepth 100000 in
set_option maxHeartbeats 4000000 in
theorem w_X10_codes_E {X : Gc} {ad : Nat → Nat} {res : Int32} {M : Mem} (C : Gk X ad cX10_codes "NineTonguesModel" 4 1) (Rt : Gr X ad (some .int) (some (.int res)) M) (x1 : Int32) (hf : f_X10_codes x1 M = some res) : G X ad 0 4 [(0, .ref (ad 108)), (1, .int x1)] [] M := by
  unfold f_X10_codes at hf
  refine G.iconst (v := 1) C dX10_codes_0 (by decide) ?_
  refine G.istore_n (lv' := [(2, .int (1 : Int32)), (0, .ref (ad 108)), (1, .int x1)]) C dX10_codes_1 rfl (by decide) rfl ?_
  refine G.iconst (v := 0) C dX10_codes_2 (by decide) ?_
  refine G.istore_n (lv' := [(3, .int (0 : Int32)), (2, .int (1 : Int32)), (0, .ref (ad 108)), (1, .int x1)]) C dX10_codes_3 rfl (by decide) rfl ?_
  refine G.sub (lv' := [(0, .ref (ad 108)), (1, .int x1), (2, .int (1 : Int32)), (3, .int (0 : Int32))]) [2, 3, 1, 0] rfl ?_
  exact w_X10_codes_4 C Rt x1 FU (1 : Int32) (0 : Int32) hf
theorem mv_X10_codes : gMV yX10_codes cX10_codes 4 (some .int) 1 := ⟨k5_93, kS_42, k1_12, k5_94, ⟨by decide +kernel, by decide +kernel, by decide +kernel⟩, by decide⟩
theorem c_X10_codes {res : Int32} {x1 : Int32} {M : Mem} (hf : f_X10_codes x1 M = some res) : Ct yX10_codes cX10_codes 4 (some .int) 1 (fun ad => [.ref (ad 108), .int x1]) M (some (.int res)) M :=
  Ct.of (by decide +kernel) (fun _ => Nat.le_of_ble_eq_true rfl) (fun X ad C Rt => w_X10_codes_E C Rt x1 hf)
set_option maxRecDepth 100000 in
set_option maxHeartbeats 4000000 in
theorem w_X10_tries_108_b {X : Gc} {ad : Nat → Nat} {res : (Int32 × Mem)} {r_108 : Int32 → Mem → Option (Int32 × Mem)} (C : Gk X ad cX10_tries "NineTonguesModel" 7 5) (Rt : Gr X ad (some .boolean) (some (.int res.1)) res.2) (x1 : Int32) (x2 : Int32) (x5 : Int32) (h_108 : ∀ (x6 : Int32) (M : Mem), r_108 x6 M = some res → G X ad 108 7 [(0, .ref (ad 108)), (1, .int x1), (2, .int x2), (5, .int x5), (6, .int x6)] [] M) (x6 : Int32) (M : Mem) (hf : f_X10_tries_108_b r_108 x1 x2 x5 x6 M = some res) : G X ad 108 7 [(0, .ref (ad 108)), (1, .int x1), (2, .int x2), (5, .int x5), (6, .int x6)] [] M := by
  unfold f_X10_tries_108_b at hf
  refine G.iload (pl := 4) C dX10_tries_108 rfl ?_
  refine G.iload_n (pl := 2) C dX10_tries_110 rfl rfl ?_
  refine G.icmp_ge (tgt := 147) C dX10_tries_111 (by decide) (fun hc1 => ?_) (fun hc1 => ?_)
  · replace hf := gIf hf hc1
    refine G.iload (pl := 3) C dX10_tries_147 rfl ?_
    obtain ⟨hz, hf⟩ := rz_some hf
    cases hf
    exact G.zret C hz Rt dX10_tries_149
  · replace hf := gIfn hf hc1
    refine G.iload (pl := 3) C dX10_tries_114 rfl ?_
    refine G.if_eq (tgt := 147) C dX10_tries_116 (by decide) (fun hc2 => ?_) (fun hc2 => ?_)
    · replace hf := gIf hf hc2
      refine G.iload (pl := 3) C dX10_tries_147 rfl ?_
      obtain ⟨hz, hf⟩ := rz_some hf
      cases hf
      exact G.zret C hz Rt dX10_tries_149
    · replace hf := gIfn hf hc2
      refine G.aload_n (pl := 0) C dX10_tries_119 rfl rfl ?_
      refine G.aload_n (pl := 0) C dX10_tries_120 rfl rfl ?_
      refine gf10_20 C o_108 k4_117 dX10_tries_121 ?_
      refine G.iconst (v := 0) C dX10_tries_124 (by decide) ?_
      refine G.aload_n (pl := 0) C dX10_tries_125 rfl rfl ?_
      refine gf10_20 C o_108 k4_117 dX10_tries_126 ?_
      refine G.iconst (v := 0) C dX10_tries_129 (by decide) ?_
      refine G.aload_n (pl := 0) C dX10_tries_130 rfl rfl ?_
      refine gf10_21 C o_108 k4_118 dX10_tries_131 ?_
      refine G.iload (pl := 4) C dX10_tries_134 rfl ?_
      obtain ⟨v1, ev1, hi1, hf⟩ := rd_some hf
      refine G.iald C a_126 hi1 ev1 dX10_tries_136 ?_
      refine G.iload_n (pl := 1) C dX10_tries_137 rfl rfl ?_
      obtain ⟨u, M1, hr1, hf⟩ := cl_some hf
      refine G.callV (st1 := []) C [.ref (ad 125), .int (0 : Int32), .ref (ad 125), .int (0 : Int32), .int v1, .int x1] [] (c_X10_carries a_125 a_125 hr1) mv_X10_carries k5_52 o_108.1 (fun _ => gShp_20 o_108) rfl rfl rfl rfl rfl (Nat.le_of_ble_eq_true rfl) (by decide) dX10_tries_138 rfl ?_
      refine G.iinc (pl := 4) (v := (x6 + 1)) (lv' := [(6, .int (x6 + 1)), (0, .ref (ad 108)), (1, .int x1), (2, .int x2), (5, .int x5)]) C dX10_tries_141 rfl rfl (by decide) rfl ?_
      refine G.goto (tgt := 108) C dX10_tries_144 (by decide) ?_
      refine G.sub (lv' := [(0, .ref (ad 108)), (1, .int x1), (2, .int x2), (5, .int x5), (6, .int (x6 + 1))]) [1, 2, 3, 4, 0] rfl ?_
      exact h_108 (x6 + 1) M1 hf
theorem w_X10_tries_108 {X : Gc} {ad : Nat → Nat} {res : (Int32 × Mem)} (C : Gk X ad cX10_tries "NineTonguesModel" 7 5) (Rt : Gr X ad (some .boolean) (some (.int res.1)) res.2) (x1 : Int32) (x2 : Int32) (x5 : Int32) : ∀ (n : Nat) (x6 : Int32) (M : Mem), f_X10_tries_108 x1 x2 x5 n x6 M = some res → G X ad 108 7 [(0, .ref (ad 108)), (1, .int x1), (2, .int x2), (5, .int x5), (6, .int x6)] [] M := by
  intro n
  induction n with
  | zero => intro x6 M hf; exact absurd (show (none : Option (Int32 × Mem)) = some res from hf) (fun h => nomatch h)
  | succ n ih => intro x6 M hf; exact w_X10_tries_108_b C Rt x1 x2 x5 ih x6 M hf
set_option maxRecDepth 100000 in
set_option maxHeartbeats 4000000 in
theorem w_X10_tries_78_b {X : Gc} {ad : Nat → Nat} {res : (Int32 × Mem)} {r_78 : Int32 → Mem → Option (Int32 × Mem)} (C : Gk X ad cX10_tries "NineTonguesModel" 7 5) (Rt : Gr X ad (some .boolean) (some (.int res.1)) res.2) (x1 : Int32) (x2 : Int32) (x5 : Int32) (h_78 : ∀ (x6 : Int32) (M : Mem), r_78 x6 M = some res → G X ad 78 7 [(0, .ref (ad 108)), (1, .int x1), (2, .int x2), (5, .int x5), (6, .int x6)] [] M) (x6 : Int32) (M : Mem) (hf : f_X10_tries_78_b r_78 x1 x2 x5 x6 M = some res) : G X ad 78 7 [(0, .ref (ad 108)), (1, .int x1), (2, .int x2), (5, .int x5), (6, .int x6)] [] M := by
  unfold f_X10_tries_78_b at hf
  refine G.iload (pl := 4) C dX10_tries_78 rfl ?_
  refine G.bipush (v := 16) C dX10_tries_80 (by decide) ?_
  refine G.icmp_ge (tgt := 105) C dX10_tries_82 (by decide) (fun hc1 => ?_) (fun hc1 => ?_)
  · replace hf := gIf hf hc1
    refine G.iconst (v := 0) C dX10_tries_105 (by decide) ?_
    refine G.istore (lv' := [(6, .int (0 : Int32)), (0, .ref (ad 108)), (1, .int x1), (2, .int x2), (5, .int x5)]) C dX10_tries_106 (by decide) rfl ?_
    refine G.sub (lv' := [(0, .ref (ad 108)), (1, .int x1), (2, .int x2), (5, .int x5), (6, .int (0 : Int32))]) [1, 2, 3, 4, 0] rfl ?_
    exact w_X10_tries_108 C Rt x1 x2 x5 FU (0 : Int32) M hf
  · replace hf := gIfn hf hc1
    refine G.aload_n (pl := 0) C dX10_tries_85 rfl rfl ?_
    refine gf10_20 C o_108 k4_117 dX10_tries_86 ?_
    refine G.iload (pl := 4) C dX10_tries_89 rfl ?_
    refine G.aload_n (pl := 0) C dX10_tries_91 rfl rfl ?_
    refine gf10_8 C o_108 k4_105 dX10_tries_92 ?_
    refine G.iload (pl := 4) C dX10_tries_95 rfl ?_
    obtain ⟨v1, ev1, hi1, hf⟩ := rd_some hf
    refine G.iald C a_117 hi1 ev1 dX10_tries_97 ?_
    obtain ⟨hi2, hf⟩ := ck_some hf
    obtain ⟨M1, eM1, hf⟩ := stm_some hf
    refine G.iast C a_125 hi2 eM1 dX10_tries_98 ?_
    refine G.iinc (pl := 4) (v := (x6 + 1)) (lv' := [(6, .int (x6 + 1)), (0, .ref (ad 108)), (1, .int x1), (2, .int x2), (5, .int x5)]) C dX10_tries_99 rfl rfl (by decide) rfl ?_
    refine G.goto (tgt := 78) C dX10_tries_102 (by decide) ?_
    refine G.sub (lv' := [(0, .ref (ad 108)), (1, .int x1), (2, .int x2), (5, .int x5), (6, .int (x6 + 1))]) [1, 2, 3, 4, 0] rfl ?_
    exact h_78 (x6 + 1) M1 hf
theorem w_X10_tries_78 {X : Gc} {ad : Nat → Nat} {res : (Int32 × Mem)} (C : Gk X ad cX10_tries "NineTonguesModel" 7 5) (Rt : Gr X ad (some .boolean) (some (.int res.1)) res.2) (x1 : Int32) (x2 : Int32) (x5 : Int32) : ∀ (n : Nat) (x6 : Int32) (M : Mem), f_X10_tries_78 x1 x2 x5 n x6 M = some res → G X ad 78 7 [(0, .ref (ad 108)), (1, .int x1), (2, .int x2), (5, .int x5), (6, .int x6)] [] M := by
  intro n
  induction n with
  | zero => intro x6 M hf; exact absurd (show (none : Option (Int32 × Mem)) = some res from hf) (fun h => nomatch h)
  | succ n ih => intro x6 M hf; exact w_X10_tries_78_b C Rt x1 x2 x5 ih x6 M hf
set_option maxRecDepth 100000 in
set_option maxHeartbeats 4000000 in
theorem w_X10_tries_67 {X : Gc} {ad : Nat → Nat} {res : (Int32 × Mem)} {r_11 : Int32 → Int32 → Int32 → Mem → Option (Int32 × Mem)} (C : Gk X ad cX10_tries "NineTonguesModel" 7 5) (Rt : Gr X ad (some .boolean) (some (.int res.1)) res.2) (x1 : Int32) (x2 : Int32) (x4 : Int32) (x6 : Int32) (t0 : Int32) (M : Mem) (h_11 : ∀ (x4 : Int32) (x5 : Int32) (x6 : Int32) (M : Mem), r_11 x4 x5 x6 M = some res → G X ad 11 7 [(0, .ref (ad 108)), (1, .int x1), (2, .int x2), (4, .int x4), (5, .int x5), (6, .int x6)] [] M) (hf : f_X10_tries_67 r_11 x1 x2 x4 x6 t0 M = some res) : G X ad 67 7 [(0, .ref (ad 108)), (1, .int x1), (2, .int x2), (4, .int x4), (6, .int x6)] [.int t0] M := by
  unfold f_X10_tries_67 at hf
  refine G.istore (lv' := [(5, .int t0), (0, .ref (ad 108)), (1, .int x1), (2, .int x2), (4, .int x4), (6, .int x6)]) C dX10_tries_67 (by decide) rfl ?_
  refine G.iinc (pl := 5) (v := (x6 + (-1))) (lv' := [(6, .int (x6 + (-1))), (5, .int t0), (0, .ref (ad 108)), (1, .int x1), (2, .int x2), (4, .int x4)]) C dX10_tries_69 rfl rfl (by decide) rfl ?_
  refine G.goto (tgt := 11) C dX10_tries_72 (by decide) ?_
  refine G.sub (lv' := [(0, .ref (ad 108)), (1, .int x1), (2, .int x2), (4, .int x4), (5, .int t0), (6, .int (x6 + (-1)))]) [2, 3, 4, 5, 1, 0] rfl ?_
  exact h_11 x4 t0 (x6 + (-1)) M hf
set_option maxRecDepth 100000 in
set_option maxHeartbeats 4000000 in
theorem w_X10_tries_66 {X : Gc} {ad : Nat → Nat} {res : (Int32 × Mem)} {r_11 : Int32 → Int32 → Int32 → Mem → Option (Int32 × Mem)} (C : Gk X ad cX10_tries "NineTonguesModel" 7 5) (Rt : Gr X ad (some .boolean) (some (.int res.1)) res.2) (x1 : Int32) (x2 : Int32) (x4 : Int32) (x6 : Int32) (M : Mem) (h_11 : ∀ (x4 : Int32) (x5 : Int32) (x6 : Int32) (M : Mem), r_11 x4 x5 x6 M = some res → G X ad 11 7 [(0, .ref (ad 108)), (1, .int x1), (2, .int x2), (4, .int x4), (5, .int x5), (6, .int x6)] [] M) (hf : f_X10_tries_66 r_11 x1 x2 x4 x6 M = some res) : G X ad 66 7 [(0, .ref (ad 108)), (1, .int x1), (2, .int x2), (4, .int x4), (6, .int x6)] [] M := by
  unfold f_X10_tries_66 at hf
  refine G.iconst (v := 0) C dX10_tries_66 (by decide) ?_
  exact w_X10_tries_67 C Rt x1 x2 x4 x6 (0 : Int32) M h_11 hf
set_option maxRecDepth 100000 in
set_option maxHeartbeats 4000000 in
theorem w_X10_tries_11_b {X : Gc} {ad : Nat → Nat} {res : (Int32 × Mem)} {r_11 : Int32 → Int32 → Int32 → Mem → Option (Int32 × Mem)} (C : Gk X ad cX10_tries "NineTonguesModel" 7 5) (Rt : Gr X ad (some .boolean) (some (.int res.1)) res.2) (x1 : Int32) (x2 : Int32) (h_11 : ∀ (x4 : Int32) (x5 : Int32) (x6 : Int32) (M : Mem), r_11 x4 x5 x6 M = some res → G X ad 11 7 [(0, .ref (ad 108)), (1, .int x1), (2, .int x2), (4, .int x4), (5, .int x5), (6, .int x6)] [] M) (x4 : Int32) (x5 : Int32) (x6 : Int32) (M : Mem) (hf : f_X10_tries_11_b r_11 x1 x2 x4 x5 x6 M = some res) : G X ad 11 7 [(0, .ref (ad 108)), (1, .int x1), (2, .int x2), (4, .int x4), (5, .int x5), (6, .int x6)] [] M := by
  unfold f_X10_tries_11_b at hf
  refine G.iload (pl := 5) C dX10_tries_11 rfl ?_
  refine G.if_lt (tgt := 75) C dX10_tries_13 (by decide) (fun hc1 => ?_) (fun hc1 => ?_)
  · replace hf := gIf hf hc1
    refine G.iconst (v := 0) C dX10_tries_75 (by decide) ?_
    refine G.istore (lv' := [(6, .int (0 : Int32)), (0, .ref (ad 108)), (1, .int x1), (2, .int x2), (4, .int x4), (5, .int x5)]) C dX10_tries_76 (by decide) rfl ?_
    refine G.sub (lv' := [(0, .ref (ad 108)), (1, .int x1), (2, .int x2), (5, .int x5), (6, .int (0 : Int32))]) [1, 2, 3, 5, 0] rfl ?_
    exact w_X10_tries_78 C Rt x1 x2 x5 FU (0 : Int32) M hf
  · replace hf := gIfn hf hc1
    refine G.aload_n (pl := 0) C dX10_tries_16 rfl rfl ?_
    refine gf10_21 C o_108 k4_118 dX10_tries_17 ?_
    refine G.iload (pl := 5) C dX10_tries_20 rfl ?_
    refine G.iload (pl := 3) C dX10_tries_22 rfl ?_
    refine G.aload_n (pl := 0) C dX10_tries_24 rfl rfl ?_
    refine gf10_0 C o_108 k4_97 dX10_tries_25 ?_
    refine G.iconst (v := 0) C dX10_tries_28 (by decide) ?_
    refine G.iald (v := (M.1 109 0)) C a_109 (vp_inC (by decide)) rfl dX10_tries_29 ?_
    obtain ⟨hn1, hf⟩ := dz_some hf
    refine G.irem C hn1 dX10_tries_30 ?_
    obtain ⟨hi1, hf⟩ := ck_some hf
    obtain ⟨M1, eM1, hf⟩ := stm_some hf
    refine G.iast C a_126 hi1 eM1 dX10_tries_31 ?_
    refine G.iload (pl := 3) C dX10_tries_32 rfl ?_
    refine G.aload_n (pl := 0) C dX10_tries_34 rfl rfl ?_
    refine gf10_0 C o_108 k4_97 dX10_tries_35 ?_
    refine G.iconst (v := 0) C dX10_tries_38 (by decide) ?_
    refine G.iald (v := (M1.1 109 0)) C a_109 (vp_inC (by decide)) rfl dX10_tries_39 ?_
    obtain ⟨hn2, hf⟩ := dz_some hf
    refine G.idiv C hn2 dX10_tries_40 ?_
    refine G.istore (lv' := [(4, .int (x4 / (M1.1 109 0))), (0, .ref (ad 108)), (1, .int x1), (2, .int x2), (5, .int x5), (6, .int x6)]) C dX10_tries_41 (by decide) rfl ?_
    refine G.iload (pl := 4) C dX10_tries_43 rfl ?_
    refine G.if_eq (tgt := 66) C dX10_tries_45 (by decide) (fun hc2 => ?_) (fun hc2 => ?_)
    · replace hf := gIf hf hc2
      refine G.sub (lv' := [(0, .ref (ad 108)), (1, .int x1), (2, .int x2), (4, .int (x4 / (M1.1 109 0))), (6, .int x6)]) [1, 2, 3, 0, 5] rfl ?_
      exact w_X10_tries_66 C Rt x1 x2 (x4 / (M1.1 109 0)) x6 M1 h_11 hf
    · replace hf := gIfn hf hc2
      refine G.aload_n (pl := 1) C dX10_tries_48 rfl rfl ?_
      refine G.aload_n (pl := 1) C dX10_tries_49 rfl rfl ?_
      refine gf10_21 C o_108 k4_118 dX10_tries_50 ?_
      refine G.iload (pl := 5) C dX10_tries_53 rfl ?_
      obtain ⟨v1, ev1, hi2, hf⟩ := rd_some hf
      refine G.iald C a_126 hi2 ev1 dX10_tries_55 ?_
      obtain ⟨v2, hr1, hf⟩ := cp_some hf
      refine G.callV (st1 := [.int v2]) C [.int v1] [] (c_X10_speaks hr1) mv_X10_speaks k5_20 o_108.1 (fun _ => gShp_20 o_108) rfl rfl rfl rfl rfl (Nat.le_of_ble_eq_true rfl) (by decide) dX10_tries_56 rfl ?_
      refine G.if_eq (tgt := 66) C dX10_tries_59 (by decide) (fun hc3 => ?_) (fun hc3 => ?_)
      · replace hf := gIf hf hc3
        refine G.sub (lv' := [(0, .ref (ad 108)), (1, .int x1), (2, .int x2), (4, .int (x4 / (M1.1 109 0))), (6, .int x6)]) [1, 2, 3, 0, 5] rfl ?_
        exact w_X10_tries_66 C Rt x1 x2 (x4 / (M1.1 109 0)) x6 M1 h_11 hf
      · replace hf := gIfn hf hc3
        refine G.iconst (v := 1) C dX10_tries_62 (by decide) ?_
        refine G.goto (tgt := 67) C dX10_tries_63 (by decide) ?_
        refine G.sub (lv' := [(0, .ref (ad 108)), (1, .int x1), (2, .int x2), (4, .int (x4 / (M1.1 109 0))), (6, .int x6)]) [1, 2, 3, 0, 5] rfl ?_
        exact w_X10_tries_67 C Rt x1 x2 (x4 / (M1.1 109 0)) x6 (1 : Int32) M1 h_11 hf
theorem w_X10_tries_11 {X : Gc} {ad : Nat → Nat} {res : (Int32 × Mem)} (C : Gk X ad cX10_tries "NineTonguesModel" 7 5) (Rt : Gr X ad (some .boolean) (some (.int res.1)) res.2) (x1 : Int32) (x2 : Int32) : ∀ (n : Nat) (x4 : Int32) (x5 : Int32) (x6 : Int32) (M : Mem), f_X10_tries_11 x1 x2 n x4 x5 x6 M = some res → G X ad 11 7 [(0, .ref (ad 108)), (1, .int x1), (2, .int x2), (4, .int x4), (5, .int x5), (6, .int x6)] [] M := by
  intro n
  induction n with
  | zero => intro x4 x5 x6 M hf; exact absurd (show (none : Option (Int32 × Mem)) = some res from hf) (fun h => nomatch h)
  | succ n ih => intro x4 x5 x6 M hf; exact w_X10_tries_11_b C Rt x1 x2 ih x4 x5 x6 M hf
set_option maxRecDepth 100000 in
set_option maxHeartbeats 4000000 in
theorem w_X10_tries_E {X : Gc} {ad : Nat → Nat} {res : (Int32 × Mem)} (C : Gk X ad cX10_tries "NineTonguesModel" 7 5) (Rt : Gr X ad (some .boolean) (some (.int res.1)) res.2) (x1 : Int32) (x2 : Int32) (x3 : Int32) (M : Mem) (hf : f_X10_tries x1 x2 x3 M = some res) : G X ad 0 7 [(0, .ref (ad 108)), (1, .int x1), (2, .int x2), (3, .int x3)] [] M := by
  unfold f_X10_tries at hf
  refine G.iload_n (pl := 3) C dX10_tries_0 rfl rfl ?_
  refine G.istore (lv' := [(4, .int x3), (0, .ref (ad 108)), (1, .int x1), (2, .int x2), (3, .int x3)]) C dX10_tries_1 (by decide) rfl ?_
  refine G.iconst (v := 1) C dX10_tries_3 (by decide) ?_
  refine G.istore (lv' := [(5, .int (1 : Int32)), (4, .int x3), (0, .ref (ad 108)), (1, .int x1), (2, .int x2), (3, .int x3)]) C dX10_tries_4 (by decide) rfl ?_
  refine G.iload_n (pl := 4) C dX10_tries_6 rfl rfl ?_
  refine G.iconst (v := 1) C dX10_tries_7 (by decide) ?_
  refine G.isub C dX10_tries_8 ?_
  refine G.istore (lv' := [(6, .int (x2 - (1 : Int32))), (5, .int (1 : Int32)), (4, .int x3), (0, .ref (ad 108)), (1, .int x1), (2, .int x2), (3, .int x3)]) C dX10_tries_9 (by decide) rfl ?_
  refine G.sub (lv' := [(0, .ref (ad 108)), (1, .int x1), (2, .int x2), (4, .int x3), (5, .int (1 : Int32)), (6, .int (x2 - (1 : Int32)))]) [3, 4, 5, 2, 1, 0] rfl ?_
  exact w_X10_tries_11 C Rt x1 x2 FU x3 (1 : Int32) (x2 - (1 : Int32)) M hf
theorem mv_X10_tries : gMV yX10_tries cX10_tries 7 (some .boolean) 3 := ⟨k5_97, kS_43, k1_12, k5_98, ⟨by decide +kernel, by decide +kernel, by decide +kernel⟩, by decide⟩
theorem c_X10_tries {res : (Int32 × Mem)} {x1 : Int32} {x2 : Int32} {x3 : Int32} {M : Mem} (hf : f_X10_tries x1 x2 x3 M = some res) : Ct yX10_tries cX10_tries 7 (some .boolean) 5 (fun ad => [.ref (ad 108), .int x1, .int x2, .int x3]) M (some (.int res.1)) res.2 :=
  Ct.of (by decide +kernel) (fun _ => Nat.le_of_ble_eq_true rfl) (fun X ad C Rt => w_X10_tries_E C Rt x1 x2 x3 M hf)
set_option maxRecDepth 100000 in
set_option maxHeartbeats 4000000 in
theorem w_X10_bestOver_102 {X : Gc} {ad : Nat → Nat} {res : (Int32 × Mem)} {r_13 : Int32 → Int32 → Mem → Option (Int32 × Mem)} (C : Gk X ad cX10_bestOver "NineTonguesModel" 7 6) (Rt : Gr X ad (some .int) (some (.int res.1)) res.2) (x1 : Int32) (x2 : Int32) (x3 : Int32) (x4 : Int32) (x5 : Int32) (M : Mem) (h_13 : ∀ (x4 : Int32) (x5 : Int32) (M : Mem), r_13 x4 x5 M = some res → G X ad 13 7 [(0, .ref (ad 108)), (1, .int x1), (2, .int x2), (3, .int x3), (4, .int x4), (5, .int x5)] [] M) (hf : f_X10_bestOver_102 r_13 x1 x2 x3 x4 x5 M = some res) : G X ad 102 7 [(0, .ref (ad 108)), (1, .int x1), (2, .int x2), (3, .int x3), (4, .int x4), (5, .int x5)] [] M := by
  unfold f_X10_bestOver_102 at hf
  refine G.iinc (pl := 5) (v := (x5 + 1)) (lv' := [(5, .int (x5 + 1)), (0, .ref (ad 108)), (1, .int x1), (2, .int x2), (3, .int x3), (4, .int x4)]) C dX10_bestOver_102 rfl rfl (by decide) rfl ?_
  refine G.goto (tgt := 13) C dX10_bestOver_105 (by decide) ?_
  refine G.sub (lv' := [(0, .ref (ad 108)), (1, .int x1), (2, .int x2), (3, .int x3), (4, .int x4), (5, .int (x5 + 1))]) [1, 2, 3, 4, 5, 0] rfl ?_
  exact h_13 x4 (x5 + 1) M hf
set_option maxRecDepth 100000 in
set_option maxHeartbeats 4000000 in
theorem w_X10_bestOver_100 {X : Gc} {ad : Nat → Nat} {res : (Int32 × Mem)} {r_13 : Int32 → Int32 → Mem → Option (Int32 × Mem)} (C : Gk X ad cX10_bestOver "NineTonguesModel" 7 6) (Rt : Gr X ad (some .int) (some (.int res.1)) res.2) (x1 : Int32) (x2 : Int32) (x3 : Int32) (x5 : Int32) (t0 : Int32) (M : Mem) (h_13 : ∀ (x4 : Int32) (x5 : Int32) (M : Mem), r_13 x4 x5 M = some res → G X ad 13 7 [(0, .ref (ad 108)), (1, .int x1), (2, .int x2), (3, .int x3), (4, .int x4), (5, .int x5)] [] M) (hf : f_X10_bestOver_100 r_13 x1 x2 x3 x5 t0 M = some res) : G X ad 100 7 [(0, .ref (ad 108)), (1, .int x1), (2, .int x2), (3, .int x3), (5, .int x5)] [.int t0] M := by
  unfold f_X10_bestOver_100 at hf
  refine G.istore (lv' := [(4, .int t0), (0, .ref (ad 108)), (1, .int x1), (2, .int x2), (3, .int x3), (5, .int x5)]) C dX10_bestOver_100 (by decide) rfl ?_
  refine G.sub (lv' := [(0, .ref (ad 108)), (1, .int x1), (2, .int x2), (3, .int x3), (4, .int t0), (5, .int x5)]) [1, 2, 3, 4, 0, 5] rfl ?_
  exact w_X10_bestOver_102 C Rt x1 x2 x3 t0 x5 M h_13 hf
set_option maxRecDepth 100000 in
set_option maxHeartbeats 4000000 in
theorem w_X10_bestOver_83 {X : Gc} {ad : Nat → Nat} {res : (Int32 × Mem)} {r_13 : Int32 → Int32 → Mem → Option (Int32 × Mem)} (C : Gk X ad cX10_bestOver "NineTonguesModel" 7 6) (Rt : Gr X ad (some .int) (some (.int res.1)) res.2) (x1 : Int32) (x2 : Int32) (x3 : Int32) (x4 : Int32) (x5 : Int32) (x6 : Int32) (t1 : Int32) (M : Mem) (h_13 : ∀ (x4 : Int32) (x5 : Int32) (M : Mem), r_13 x4 x5 M = some res → G X ad 13 7 [(0, .ref (ad 108)), (1, .int x1), (2, .int x2), (3, .int x3), (4, .int x4), (5, .int x5)] [] M) (hf : f_X10_bestOver_83 r_13 x1 x2 x3 x4 x5 x6 t1 M = some res) : G X ad 83 7 [(0, .ref (ad 108)), (1, .int x1), (2, .int x2), (3, .int x3), (4, .int x4), (5, .int x5), (6, .int x6)] [.int t1, .ref (ad 108)] M := by
  unfold f_X10_bestOver_83 at hf
  obtain ⟨M1, eM1, hf⟩ := stm_some hf
  refine gp10_27 C o_108 k4_124 eM1 dX10_bestOver_83 ?_
  refine G.iload (pl := 6) C dX10_bestOver_86 rfl ?_
  refine G.iload (pl := 4) C dX10_bestOver_88 rfl ?_
  refine G.icmp_ge (tgt := 98) C dX10_bestOver_90 (by decide) (fun hc1 => ?_) (fun hc1 => ?_)
  · replace hf := gIf hf hc1
    refine G.iload (pl := 4) C dX10_bestOver_98 rfl ?_
    refine G.sub (lv' := [(0, .ref (ad 108)), (1, .int x1), (2, .int x2), (3, .int x3), (5, .int x5)]) [0, 1, 2, 3, 5] rfl ?_
    exact w_X10_bestOver_100 C Rt x1 x2 x3 x5 x4 M1 h_13 hf
  · replace hf := gIfn hf hc1
    refine G.iload (pl := 6) C dX10_bestOver_93 rfl ?_
    refine G.goto (tgt := 100) C dX10_bestOver_95 (by decide) ?_
    refine G.sub (lv' := [(0, .ref (ad 108)), (1, .int x1), (2, .int x2), (3, .int x3), (5, .int x5)]) [0, 1, 2, 3, 5] rfl ?_
    exact w_X10_bestOver_100 C Rt x1 x2 x3 x5 x6 M1 h_13 hf
set_option maxRecDepth 100000 in
set_option maxHeartbeats 4000000 in
theorem w_X10_bestOver_13_b {X : Gc} {ad : Nat → Nat} {res : (Int32 × Mem)} {r_13 : Int32 → Int32 → Mem → Option (Int32 × Mem)} (C : Gk X ad cX10_bestOver "NineTonguesModel" 7 6) (Rt : Gr X ad (some .int) (some (.int res.1)) res.2) (x1 : Int32) (x2 : Int32) (x3 : Int32) (h_13 : ∀ (x4 : Int32) (x5 : Int32) (M : Mem), r_13 x4 x5 M = some res → G X ad 13 7 [(0, .ref (ad 108)), (1, .int x1), (2, .int x2), (3, .int x3), (4, .int x4), (5, .int x5)] [] M) (x4 : Int32) (x5 : Int32) (M : Mem) (hf : f_X10_bestOver_13_b r_13 x1 x2 x3 x4 x5 M = some res) : G X ad 13 7 [(0, .ref (ad 108)), (1, .int x1), (2, .int x2), (3, .int x3), (4, .int x4), (5, .int x5)] [] M := by
  unfold f_X10_bestOver_13_b at hf
  refine G.iload (pl := 5) C dX10_bestOver_13 rfl ?_
  refine G.aload_n (pl := 0) C dX10_bestOver_15 rfl rfl ?_
  refine G.iload_n (pl := 3) C dX10_bestOver_16 rfl rfl ?_
  obtain ⟨v1, hr1, hf⟩ := cp_some hf
  refine G.callV (st1 := [.int v1, .int x5]) C [.int x3] [.int x5] (c_X10_codes hr1) mv_X10_codes k5_91 o_108.1 (fun _ => gShp_20 o_108) rfl rfl rfl rfl rfl (Nat.le_of_ble_eq_true rfl) (by decide) dX10_bestOver_17 rfl ?_
  refine G.icmp_ge (tgt := 108) C dX10_bestOver_20 (by decide) (fun hc1 => ?_) (fun hc1 => ?_)
  · replace hf := gIf hf hc1
    refine G.iload (pl := 4) C dX10_bestOver_108 rfl ?_
    cases hf
    exact G.iret C Rt dX10_bestOver_110
  · replace hf := gIfn hf hc1
    refine G.aload_n (pl := 0) C dX10_bestOver_23 rfl rfl ?_
    refine G.iload_n (pl := 1) C dX10_bestOver_24 rfl rfl ?_
    refine G.iload_n (pl := 3) C dX10_bestOver_25 rfl rfl ?_
    refine G.iload (pl := 5) C dX10_bestOver_26 rfl ?_
    obtain ⟨v2, M1, hr2, hf⟩ := cl_some hf
    refine G.callV (st1 := [.int v2]) C [.int x1, .int x3, .int x5] [] (c_X10_tries hr2) mv_X10_tries k5_95 o_108.1 (fun _ => gShp_20 o_108) rfl rfl rfl rfl rfl (Nat.le_of_ble_eq_true rfl) (by decide) dX10_bestOver_28 rfl ?_
    refine G.if_eq (tgt := 102) C dX10_bestOver_31 (by decide) (fun hc2 => ?_) (fun hc2 => ?_)
    · replace hf := gIf hf hc2
      exact w_X10_bestOver_102 C Rt x1 x2 x3 x4 x5 M1 h_13 hf
    · replace hf := gIfn hf hc2
      refine G.aload_n (pl := 0) C dX10_bestOver_34 rfl rfl ?_
      refine G.aload_n (pl := 0) C dX10_bestOver_35 rfl rfl ?_
      refine gf10_20 C o_108 k4_117 dX10_bestOver_36 ?_
      refine G.iconst (v := 0) C dX10_bestOver_39 (by decide) ?_
      refine G.aload_n (pl := 0) C dX10_bestOver_40 rfl rfl ?_
      refine gf10_20 C o_108 k4_117 dX10_bestOver_41 ?_
      refine G.iconst (v := 0) C dX10_bestOver_44 (by decide) ?_
      refine G.iload_n (pl := 2) C dX10_bestOver_45 rfl rfl ?_
      refine G.iload_n (pl := 1) C dX10_bestOver_46 rfl rfl ?_
      obtain ⟨u, M2, hr3, hf⟩ := cl_some hf
      refine G.callV (st1 := []) C [.ref (ad 125), .int (0 : Int32), .ref (ad 125), .int (0 : Int32), .int x2, .int x1] [] (c_X10_carries a_125 a_125 hr3) mv_X10_carries k5_52 o_108.1 (fun _ => gShp_20 o_108) rfl rfl rfl rfl rfl (Nat.le_of_ble_eq_true rfl) (by decide) dX10_bestOver_47 rfl ?_
      refine G.aload_n (pl := 0) C dX10_bestOver_50 rfl rfl ?_
      refine G.aload_n (pl := 0) C dX10_bestOver_51 rfl rfl ?_
      refine gf10_20 C o_108 k4_117 dX10_bestOver_52 ?_
      refine G.iconst (v := 0) C dX10_bestOver_55 (by decide) ?_
      refine G.aload_n (pl := 0) C dX10_bestOver_56 rfl rfl ?_
      refine gf10_8 C o_108 k4_105 dX10_bestOver_57 ?_
      refine G.iconst (v := 0) C dX10_bestOver_60 (by decide) ?_
      obtain ⟨v3, hr4, hf⟩ := cp_some hf
      refine G.callV (st1 := [.int v3]) C [.ref (ad 125), .int (0 : Int32), .ref (ad 117), .int (0 : Int32)] [] (c_X10_apart a_125 a_117 hr4) mv_X10_apart k5_72 o_108.1 (fun _ => gShp_20 o_108) rfl rfl rfl rfl rfl (Nat.le_of_ble_eq_true rfl) (by decide) dX10_bestOver_61 rfl ?_
      refine G.istore (lv' := [(6, .int v3), (0, .ref (ad 108)), (1, .int x1), (2, .int x2), (3, .int x3), (4, .int x4), (5, .int x5)]) C dX10_bestOver_64 (by decide) rfl ?_
      refine G.aload_n (pl := 1) C dX10_bestOver_66 rfl rfl ?_
      refine G.iload (pl := 0) C dX10_bestOver_67 rfl ?_
      refine G.iload (pl := 5) C dX10_bestOver_69 rfl ?_
      refine G.icmp_ge (tgt := 79) C dX10_bestOver_71 (by decide) (fun hc3 => ?_) (fun hc3 => ?_)
      · replace hf := gIf hf hc3
        refine G.aload_n (pl := 1) C dX10_bestOver_79 rfl rfl ?_
        refine gf10_27 C o_108 k4_124 dX10_bestOver_80 ?_
        refine G.sub (lv' := [(0, .ref (ad 108)), (1, .int x1), (2, .int x2), (3, .int x3), (4, .int x4), (5, .int x5), (6, .int v3)]) [1, 2, 3, 4, 5, 6, 0] rfl ?_
        exact w_X10_bestOver_83 C Rt x1 x2 x3 x4 x5 v3 (M2.1 108 27) M2 h_13 hf
      · replace hf := gIfn hf hc3
        refine G.iload (pl := 6) C dX10_bestOver_74 rfl ?_
        refine G.goto (tgt := 83) C dX10_bestOver_76 (by decide) ?_
        refine G.sub (lv' := [(0, .ref (ad 108)), (1, .int x1), (2, .int x2), (3, .int x3), (4, .int x4), (5, .int x5), (6, .int v3)]) [1, 2, 3, 4, 5, 6, 0] rfl ?_
        exact w_X10_bestOver_83 C Rt x1 x2 x3 x4 x5 v3 x5 M2 h_13 hf
theorem w_X10_bestOver_13 {X : Gc} {ad : Nat → Nat} {res : (Int32 × Mem)} (C : Gk X ad cX10_bestOver "NineTonguesModel" 7 6) (Rt : Gr X ad (some .int) (some (.int res.1)) res.2) (x1 : Int32) (x2 : Int32) (x3 : Int32) : ∀ (n : Nat) (x4 : Int32) (x5 : Int32) (M : Mem), f_X10_bestOver_13 x1 x2 x3 n x4 x5 M = some res → G X ad 13 7 [(0, .ref (ad 108)), (1, .int x1), (2, .int x2), (3, .int x3), (4, .int x4), (5, .int x5)] [] M := by
  intro n
  induction n with
  | zero => intro x4 x5 M hf; exact absurd (show (none : Option (Int32 × Mem)) = some res from hf) (fun h => nomatch h)
  | succ n ih => intro x4 x5 M hf; exact w_X10_bestOver_13_b C Rt x1 x2 x3 ih x4 x5 M hf
set_option maxRecDepth 100000 in
set_option maxHeartbeats 4000000 in
theorem w_X10_bestOver_E {X : Gc} {ad : Nat → Nat} {res : (Int32 × Mem)} (C : Gk X ad cX10_bestOver "NineTonguesModel" 7 6) (Rt : Gr X ad (some .int) (some (.int res.1)) res.2) (x1 : Int32) (x2 : Int32) (x3 : Int32) (M : Mem) (hf : f_X10_bestOver x1 x2 x3 M = some res) : G X ad 0 7 [(0, .ref (ad 108)), (1, .int x1), (2, .int x2), (3, .int x3)] [] M := by
  unfold f_X10_bestOver at hf
  refine G.sipush (v := 1000) C dX10_bestOver_0 (by decide) ?_
  refine G.istore (lv' := [(4, .int (1000 : Int32)), (0, .ref (ad 108)), (1, .int x1), (2, .int x2), (3, .int x3)]) C dX10_bestOver_3 (by decide) rfl ?_
  refine G.aload_n (pl := 1) C dX10_bestOver_5 rfl rfl ?_
  refine G.iconst (v := 0) C dX10_bestOver_6 (by decide) ?_
  obtain ⟨M1, eM1, hf⟩ := stm_some hf
  refine gp10_27 C o_108 k4_124 eM1 dX10_bestOver_7 ?_
  refine G.iconst (v := 0) C dX10_bestOver_10 (by decide) ?_
  refine G.istore (lv' := [(5, .int (0 : Int32)), (4, .int (1000 : Int32)), (0, .ref (ad 108)), (1, .int x1), (2, .int x2), (3, .int x3)]) C dX10_bestOver_11 (by decide) rfl ?_
  refine G.sub (lv' := [(0, .ref (ad 108)), (1, .int x1), (2, .int x2), (3, .int x3), (4, .int (1000 : Int32)), (5, .int (0 : Int32))]) [2, 3, 4, 5, 1, 0] rfl ?_
  exact w_X10_bestOver_13 C Rt x1 x2 x3 FU (1000 : Int32) (0 : Int32) M1 hf
theorem mv_X10_bestOver : gMV yX10_bestOver cX10_bestOver 7 (some .int) 3 := ⟨k5_89, kS_41, k1_12, k5_90, ⟨by decide +kernel, by decide +kernel, by decide +kernel⟩, by decide⟩
theorem c_X10_bestOver {res : (Int32 × Mem)} {x1 : Int32} {x2 : Int32} {x3 : Int32} {M : Mem} (hf : f_X10_bestOver x1 x2 x3 M = some res) : Ct yX10_bestOver cX10_bestOver 7 (some .int) 6 (fun ad => [.ref (ad 108), .int x1, .int x2, .int x3]) M (some (.int res.1)) res.2 :=
  Ct.of (by decide +kernel) (fun _ => Nat.le_of_ble_eq_true rfl) (fun X ad C Rt => w_X10_bestOver_E C Rt x1 x2 x3 M hf)
set_option maxRecDepth 100000 in
set_option maxHeartbeats 4000000 in
theorem w_X10_best_36 {X : Gc} {ad : Nat → Nat} {res : (Int32 × Mem)} (C : Gk X ad cX10_best "NineTonguesModel" 6 7) (Rt : Gr X ad (some .int) (some (.int res.1)) res.2) (M : Mem) (hf : f_X10_best_36 M = some res) : G X ad 36 6 [(0, .ref (ad 108))] [] M := by
  unfold f_X10_best_36 at hf
  refine G.aload_n (pl := 0) C dX10_best_36 rfl rfl ?_
  refine G.bipush (v := (-2)) C dX10_best_37 (by decide) ?_
  obtain ⟨v1, M1, hr1, hf⟩ := cl_some hf
  refine G.callV (st1 := [.int v1]) C [.int (-2 : Int32)] [] (c_X10_bad hr1) mv_X10_bad k4_192 o_108.1 (fun _ => gShp_20 o_108) rfl rfl rfl rfl rfl (Nat.le_of_ble_eq_true rfl) (by decide) dX10_best_39 rfl ?_
  cases hf
  exact G.iret C Rt dX10_best_42
set_option maxRecDepth 100000 in
set_option maxHeartbeats 4000000 in
theorem w_X10_best_60 {X : Gc} {ad : Nat → Nat} {res : (Int32 × Mem)} (C : Gk X ad cX10_best "NineTonguesModel" 6 7) (Rt : Gr X ad (some .int) (some (.int res.1)) res.2) (M : Mem) (hf : f_X10_best_60 M = some res) : G X ad 60 6 [(0, .ref (ad 108))] [] M := by
  unfold f_X10_best_60 at hf
  refine G.aload_n (pl := 0) C dX10_best_60 rfl rfl ?_
  refine G.bipush (v := (-3)) C dX10_best_61 (by decide) ?_
  obtain ⟨v1, M1, hr1, hf⟩ := cl_some hf
  refine G.callV (st1 := [.int v1]) C [.int (-3 : Int32)] [] (c_X10_no hr1) mv_X10_no k5_40 o_108.1 (fun _ => gShp_20 o_108) rfl rfl rfl rfl rfl (Nat.le_of_ble_eq_true rfl) (by decide) dX10_best_63 rfl ?_
  cases hf
  exact G.iret C Rt dX10_best_66
set_option maxRecDepth 100000 in
set_option maxHeartbeats 4000000 in
theorem w_X10_best_E {X : Gc} {ad : Nat → Nat} {res : (Int32 × Mem)} (C : Gk X ad cX10_best "NineTonguesModel" 6 7) (Rt : Gr X ad (some .int) (some (.int res.1)) res.2) (x1 : Int32) (x2 : Int32) (x3 : Int32) (x4 : Int32) (M : Mem) (hf : f_X10_best x1 x2 x3 x4 M = some res) : G X ad 0 6 [(0, .ref (ad 108)), (1, .int x1), (2, .int x2), (3, .int x3), (4, .int x4)] [] M := by
  unfold f_X10_best at hf
  refine G.iload_n (pl := 1) C dX10_best_0 rfl rfl ?_
  obtain ⟨v1, hr1, hf⟩ := cp_some hf
  refine G.callS (st1 := [.int v1]) C [.int x1] [] (c_X10_isKind hr1) mv_X10_isKind k5_84 rfl rfl rfl (Nat.le_of_ble_eq_true rfl) (by decide) dX10_best_1 rfl ?_
  refine G.if_eq (tgt := 36) C dX10_best_4 (by decide) (fun hc1 => ?_) (fun hc1 => ?_)
  · replace hf := gIf hf hc1
    refine G.sub (lv' := [(0, .ref (ad 108))]) [0] rfl ?_
    exact w_X10_best_36 C Rt M hf
  · replace hf := gIfn hf hc1
    refine G.aload_n (pl := 0) C dX10_best_7 rfl rfl ?_
    refine G.iload_n (pl := 2) C dX10_best_8 rfl rfl ?_
    obtain ⟨v2, hr2, hf⟩ := cp_some hf
    refine G.callV (st1 := [.int v2]) C [.int x2] [] (c_X10_isTongue hr2) mv_X10_isTongue k4_204 o_108.1 (fun _ => gShp_20 o_108) rfl rfl rfl rfl rfl (Nat.le_of_ble_eq_true rfl) (by decide) dX10_best_9 rfl ?_
    refine G.if_eq (tgt := 36) C dX10_best_12 (by decide) (fun hc2 => ?_) (fun hc2 => ?_)
    · replace hf := gIf hf hc2
      refine G.sub (lv' := [(0, .ref (ad 108))]) [0] rfl ?_
      exact w_X10_best_36 C Rt M hf
    · replace hf := gIfn hf hc2
      refine G.iload_n (pl := 3) C dX10_best_15 rfl rfl ?_
      refine G.iconst (v := 0) C dX10_best_16 (by decide) ?_
      refine G.iconst (v := 3) C dX10_best_17 (by decide) ?_
      obtain ⟨v3, hr3, hf⟩ := cp_some hf
      refine G.callS (st1 := [.int v3]) C [.int x3, .int (0 : Int32), .int (3 : Int32)] [] (c_X10_between hr3) mv_X10_between k4_189 rfl rfl rfl (Nat.le_of_ble_eq_true rfl) (by decide) dX10_best_18 rfl ?_
      refine G.if_eq (tgt := 36) C dX10_best_21 (by decide) (fun hc3 => ?_) (fun hc3 => ?_)
      · replace hf := gIf hf hc3
        refine G.sub (lv' := [(0, .ref (ad 108))]) [0] rfl ?_
        exact w_X10_best_36 C Rt M hf
      · replace hf := gIfn hf hc3
        refine G.iload (pl := 4) C dX10_best_24 rfl ?_
        refine G.iconst (v := (-1)) C dX10_best_26 (by decide) ?_
        refine G.iload_n (pl := 3) C dX10_best_27 rfl rfl ?_
        refine G.iconst (v := 1) C dX10_best_28 (by decide) ?_
        refine G.isub C dX10_best_29 ?_
        obtain ⟨v4, hr4, hf⟩ := cp_some hf
        refine G.callS (st1 := [.int v4]) C [.int x4, .int (-1 : Int32), .int (x3 - (1 : Int32))] [] (c_X10_between hr4) mv_X10_between k4_189 rfl rfl rfl (Nat.le_of_ble_eq_true rfl) (by decide) dX10_best_30 rfl ?_
        refine G.if_ne (tgt := 43) C dX10_best_33 (by decide) (fun hc4 => ?_) (fun hc4 => ?_)
        · replace hf := gIfn hf hc4
          refine G.aload_n (pl := 0) C dX10_best_43 rfl rfl ?_
          refine gf10_1 C o_108 k4_98 dX10_best_44 ?_
          refine G.iconst (v := 0) C dX10_best_47 (by decide) ?_
          refine G.iald (v := (M.1 110 0)) C a_110 (vp_inC (by decide)) rfl dX10_best_48 ?_
          refine G.if_eq (tgt := 60) C dX10_best_49 (by decide) (fun hc5 => ?_) (fun hc5 => ?_)
          · replace hf := gIf hf hc5
            refine G.sub (lv' := [(0, .ref (ad 108))]) [0] rfl ?_
            exact w_X10_best_60 C Rt M hf
          · replace hf := gIfn hf hc5
            refine G.aload_n (pl := 0) C dX10_best_52 rfl rfl ?_
            refine G.iload_n (pl := 2) C dX10_best_53 rfl rfl ?_
            obtain ⟨v5, hr5, hf⟩ := cp_some hf
            refine G.callV (st1 := [.int v5]) C [.int x2] [] (c_X10_speaks hr5) mv_X10_speaks k5_20 o_108.1 (fun _ => gShp_20 o_108) rfl rfl rfl rfl rfl (Nat.le_of_ble_eq_true rfl) (by decide) dX10_best_54 rfl ?_
            refine G.if_ne (tgt := 67) C dX10_best_57 (by decide) (fun hc6 => ?_) (fun hc6 => ?_)
            · replace hf := gIfn hf hc6
              refine G.aload_n (pl := 0) C dX10_best_67 rfl rfl ?_
              refine G.iload_n (pl := 1) C dX10_best_68 rfl rfl ?_
              refine G.iload_n (pl := 2) C dX10_best_69 rfl rfl ?_
              refine G.iload_n (pl := 3) C dX10_best_70 rfl rfl ?_
              obtain ⟨v6, M1, hr6, hf⟩ := cl_some hf
              refine G.callV (st1 := [.int v6]) C [.int x1, .int x2, .int x3] [] (c_X10_bestOver hr6) mv_X10_bestOver k5_87 o_108.1 (fun _ => gShp_20 o_108) rfl rfl rfl rfl rfl (Nat.le_of_ble_eq_true rfl) (by decide) dX10_best_71 rfl ?_
              refine G.istore (lv' := [(5, .int v6), (0, .ref (ad 108)), (1, .int x1), (2, .int x2), (3, .int x3), (4, .int x4)]) C dX10_best_74 (by decide) rfl ?_
              refine G.iload (pl := 5) C dX10_best_76 rfl ?_
              refine G.if_ge (tgt := 84) C dX10_best_78 (by decide) (fun hc7 => ?_) (fun hc7 => ?_)
              · replace hf := gIf hf hc7
                refine G.aload_n (pl := 1) C dX10_best_84 rfl rfl ?_
                refine G.iload_n (pl := 2) C dX10_best_85 rfl rfl ?_
                refine G.iload_n (pl := 4) C dX10_best_86 rfl rfl ?_
                refine G.aload_n (pl := 1) C dX10_best_87 rfl rfl ?_
                refine gf10_27 C o_108 k4_124 dX10_best_88 ?_
                obtain ⟨v7, M2, hr7, hf⟩ := cl_some hf
                refine G.callV (st1 := [.int v7]) C [.int x1, .int x3, .int (M1.1 108 27)] [] (c_X10_tries hr7) mv_X10_tries k5_95 o_108.1 (fun _ => gShp_20 o_108) rfl rfl rfl rfl rfl (Nat.le_of_ble_eq_true rfl) (by decide) dX10_best_91 rfl ?_
                refine G.if_eq (tgt := 107) C dX10_best_94 (by decide) (fun hc8 => ?_) (fun hc8 => ?_)
                · replace hf := gIf hf hc8
                  refine G.bipush (v := (-2)) C dX10_best_107 (by decide) ?_
                  cases hf
                  exact G.iret C Rt dX10_best_109
                · replace hf := gIfn hf hc8
                  refine G.aload_n (pl := 1) C dX10_best_97 rfl rfl ?_
                  refine gf10_21 C o_108 k4_118 dX10_best_98 ?_
                  refine G.iload (pl := 5) C dX10_best_101 rfl ?_
                  obtain ⟨v8, ev1, hi1, hf⟩ := rd_some hf
                  refine G.iald C a_126 hi1 ev1 dX10_best_103 ?_
                  refine G.goto (tgt := 109) C dX10_best_104 (by decide) ?_
                  cases hf
                  exact G.iret C Rt dX10_best_109
              · replace hf := gIfn hf hc7
                refine G.iload (pl := 0) C dX10_best_81 rfl ?_
                cases hf
                exact G.iret C Rt dX10_best_83
            · replace hf := gIf hf hc6
              refine G.sub (lv' := [(0, .ref (ad 108))]) [0] rfl ?_
              exact w_X10_best_60 C Rt M hf
        · replace hf := gIf hf hc4
          refine G.sub (lv' := [(0, .ref (ad 108))]) [0] rfl ?_
          exact w_X10_best_36 C Rt M hf
theorem mv_X10_best : gMV yX10_best cX10_best 6 (some .int) 4 := ⟨k5_81, k5_82, k1_12, k5_83, ⟨by decide +kernel, by decide +kernel, by decide +kernel⟩, by decide⟩
theorem c_X10_best {res : (Int32 × Mem)} {x1 : Int32} {x2 : Int32} {x3 : Int32} {x4 : Int32} {M : Mem} (hf : f_X10_best x1 x2 x3 x4 M = some res) : Ct yX10_best cX10_best 6 (some .int) 7 (fun ad => [.ref (ad 108), .int x1, .int x2, .int x3, .int x4]) M (some (.int res.1)) res.2 :=
  Ct.of (by decide +kernel) (fun _ => Nat.le_of_ble_eq_true rfl) (fun X ad C Rt => w_X10_best_E C Rt x1 x2 x3 x4 M hf)
set_option maxRecDepth 100000 in
set_option maxHeartbeats 4000000 in
theorem w_X10_third_15 {X : Gc} {ad : Nat → Nat} {res : (Int32 × Mem)} (C : Gk X ad cX10_third "NineTonguesModel" 3 7) (Rt : Gr X ad (some .int) (some (.int res.1)) res.2) (M : Mem) (hf : f_X10_third_15 M = some res) : G X ad 15 3 [(0, .ref (ad 108))] [] M := by
  unfold f_X10_third_15 at hf
  refine G.aload_n (pl := 0) C dX10_third_15 rfl rfl ?_
  refine G.bipush (v := (-2)) C dX10_third_16 (by decide) ?_
  obtain ⟨v1, M1, hr1, hf⟩ := cl_some hf
  refine G.callV (st1 := [.int v1]) C [.int (-2 : Int32)] [] (c_X10_bad hr1) mv_X10_bad k4_192 o_108.1 (fun _ => gShp_20 o_108) rfl rfl rfl rfl rfl (Nat.le_of_ble_eq_true rfl) (by decide) dX10_third_18 rfl ?_
  cases hf
  exact G.iret C Rt dX10_third_21
set_option maxRecDepth 100000 in
set_option maxHeartbeats 4000000 in
theorem w_X10_third_39 {X : Gc} {ad : Nat → Nat} {res : (Int32 × Mem)} (C : Gk X ad cX10_third "NineTonguesModel" 3 7) (Rt : Gr X ad (some .int) (some (.int res.1)) res.2) (M : Mem) (hf : f_X10_third_39 M = some res) : G X ad 39 3 [(0, .ref (ad 108))] [] M := by
  unfold f_X10_third_39 at hf
  refine G.aload_n (pl := 0) C dX10_third_39 rfl rfl ?_
  refine G.bipush (v := (-3)) C dX10_third_40 (by decide) ?_
  obtain ⟨v1, M1, hr1, hf⟩ := cl_some hf
  refine G.callV (st1 := [.int v1]) C [.int (-3 : Int32)] [] (c_X10_no hr1) mv_X10_no k5_40 o_108.1 (fun _ => gShp_20 o_108) rfl rfl rfl rfl rfl (Nat.le_of_ble_eq_true rfl) (by decide) dX10_third_42 rfl ?_
  cases hf
  exact G.iret C Rt dX10_third_45
set_option maxRecDepth 100000 in
set_option maxHeartbeats 4000000 in
theorem w_X10_third_E {X : Gc} {ad : Nat → Nat} {res : (Int32 × Mem)} (C : Gk X ad cX10_third "NineTonguesModel" 3 7) (Rt : Gr X ad (some .int) (some (.int res.1)) res.2) (x1 : Int32) (x2 : Int32) (M : Mem) (hf : f_X10_third x1 x2 M = some res) : G X ad 0 3 [(0, .ref (ad 108)), (1, .int x1), (2, .int x2)] [] M := by
  unfold f_X10_third at hf
  refine G.iload_n (pl := 1) C dX10_third_0 rfl rfl ?_
  obtain ⟨v1, hr1, hf⟩ := cp_some hf
  refine G.callS (st1 := [.int v1]) C [.int x1] [] (c_X10_isKind hr1) mv_X10_isKind k5_84 rfl rfl rfl (Nat.le_of_ble_eq_true rfl) (by decide) dX10_third_1 rfl ?_
  refine G.if_eq (tgt := 15) C dX10_third_4 (by decide) (fun hc1 => ?_) (fun hc1 => ?_)
  · replace hf := gIf hf hc1
    refine G.sub (lv' := [(0, .ref (ad 108))]) [0] rfl ?_
    exact w_X10_third_15 C Rt M hf
  · replace hf := gIfn hf hc1
    refine G.aload_n (pl := 0) C dX10_third_7 rfl rfl ?_
    refine G.iload_n (pl := 2) C dX10_third_8 rfl rfl ?_
    obtain ⟨v2, hr2, hf⟩ := cp_some hf
    refine G.callV (st1 := [.int v2]) C [.int x2] [] (c_X10_isTongue hr2) mv_X10_isTongue k4_204 o_108.1 (fun _ => gShp_20 o_108) rfl rfl rfl rfl rfl (Nat.le_of_ble_eq_true rfl) (by decide) dX10_third_9 rfl ?_
    refine G.if_ne (tgt := 22) C dX10_third_12 (by decide) (fun hc2 => ?_) (fun hc2 => ?_)
    · replace hf := gIfn hf hc2
      refine G.aload_n (pl := 0) C dX10_third_22 rfl rfl ?_
      refine gf10_1 C o_108 k4_98 dX10_third_23 ?_
      refine G.iconst (v := 0) C dX10_third_26 (by decide) ?_
      refine G.iald (v := (M.1 110 0)) C a_110 (vp_inC (by decide)) rfl dX10_third_27 ?_
      refine G.if_eq (tgt := 39) C dX10_third_28 (by decide) (fun hc3 => ?_) (fun hc3 => ?_)
      · replace hf := gIf hf hc3
        refine G.sub (lv' := [(0, .ref (ad 108))]) [0] rfl ?_
        exact w_X10_third_39 C Rt M hf
      · replace hf := gIfn hf hc3
        refine G.aload_n (pl := 0) C dX10_third_31 rfl rfl ?_
        refine G.iload_n (pl := 2) C dX10_third_32 rfl rfl ?_
        obtain ⟨v3, hr3, hf⟩ := cp_some hf
        refine G.callV (st1 := [.int v3]) C [.int x2] [] (c_X10_speaks hr3) mv_X10_speaks k5_20 o_108.1 (fun _ => gShp_20 o_108) rfl rfl rfl rfl rfl (Nat.le_of_ble_eq_true rfl) (by decide) dX10_third_33 rfl ?_
        refine G.if_ne (tgt := 46) C dX10_third_36 (by decide) (fun hc4 => ?_) (fun hc4 => ?_)
        · replace hf := gIfn hf hc4
          refine G.aload_n (pl := 0) C dX10_third_46 rfl rfl ?_
          refine G.iload_n (pl := 1) C dX10_third_47 rfl rfl ?_
          refine G.iload_n (pl := 2) C dX10_third_48 rfl rfl ?_
          refine G.iconst (v := 1) C dX10_third_49 (by decide) ?_
          obtain ⟨v4, M1, hr4, hf⟩ := cl_some hf
          refine G.callV (st1 := [.int v4]) C [.int x1, .int x2, .int (1 : Int32)] [] (c_X10_bestOver hr4) mv_X10_bestOver k5_87 o_108.1 (fun _ => gShp_20 o_108) rfl rfl rfl rfl rfl (Nat.le_of_ble_eq_true rfl) (by decide) dX10_third_50 rfl ?_
          refine G.aload_n (pl := 0) C dX10_third_53 rfl rfl ?_
          refine G.iload_n (pl := 1) C dX10_third_54 rfl rfl ?_
          refine G.iload_n (pl := 2) C dX10_third_55 rfl rfl ?_
          refine G.iconst (v := 0) C dX10_third_56 (by decide) ?_
          obtain ⟨v5, M2, hr5, hf⟩ := cl_some hf
          refine G.callV (st1 := [.int v5, .int v4]) C [.int x1, .int x2, .int (0 : Int32)] [.int v4] (c_X10_bestOver hr5) mv_X10_bestOver k5_87 o_108.1 (fun _ => gShp_20 o_108) rfl rfl rfl rfl rfl (Nat.le_of_ble_eq_true rfl) (by decide) dX10_third_57 rfl ?_
          refine G.icmp_ge (tgt := 67) C dX10_third_60 (by decide) (fun hc5 => ?_) (fun hc5 => ?_)
          · replace hf := gIf hf hc5
            refine G.iconst (v := 0) C dX10_third_67 (by decide) ?_
            cases hf
            exact G.iret C Rt dX10_third_68
          · replace hf := gIfn hf hc5
            refine G.iconst (v := 1) C dX10_third_63 (by decide) ?_
            refine G.goto (tgt := 68) C dX10_third_64 (by decide) ?_
            cases hf
            exact G.iret C Rt dX10_third_68
        · replace hf := gIf hf hc4
          refine G.sub (lv' := [(0, .ref (ad 108))]) [0] rfl ?_
          exact w_X10_third_39 C Rt M hf
    · replace hf := gIf hf hc2
      refine G.sub (lv' := [(0, .ref (ad 108))]) [0] rfl ?_
      exact w_X10_third_15 C Rt M hf
theorem mv_X10_third : gMV yX10_third cX10_third 3 (some .int) 2 := ⟨k5_100, k5_101, k1_12, k5_102, ⟨by decide +kernel, by decide +kernel, by decide +kernel⟩, by decide⟩
theorem c_X10_third {res : (Int32 × Mem)} {x1 : Int32} {x2 : Int32} {M : Mem} (hf : f_X10_third x1 x2 M = some res) : Ct yX10_third cX10_third 3 (some .int) 7 (fun ad => [.ref (ad 108), .int x1, .int x2]) M (some (.int res.1)) res.2 :=
  Ct.of (by decide +kernel) (fun _ => Nat.le_of_ble_eq_true rfl) (fun X ad C Rt => w_X10_third_E C Rt x1 x2 M hf)
set_option maxRecDepth 100000 in
set_option maxHeartbeats 4000000 in
theorem w_X10_isSame_48 {X : Gc} {ad : Nat → Nat} {res : Int32} {M : Mem} {r_5 : Int32 → Int32 → Option Int32} (C : Gk X ad cX10_isSame "NineTonguesModel" 5 1) (Rt : Gr X ad (some .boolean) (some (.int res)) M) (x1 : Int32) (x2 : Int32) (x4 : Int32) (t0 : Int32) (h_5 : ∀ (x3 : Int32) (x4 : Int32), r_5 x3 x4 = some res → G X ad 5 5 [(0, .ref (ad 108)), (1, .int x1), (2, .int x2), (3, .int x3), (4, .int x4)] [] M) (hf : f_X10_isSame_48 M r_5 x1 x2 x4 t0 = some res) : G X ad 48 5 [(0, .ref (ad 108)), (1, .int x1), (2, .int x2), (4, .int x4)] [.int t0] M := by
  unfold f_X10_isSame_48 at hf
  refine G.istore_n (lv' := [(3, .int t0), (0, .ref (ad 108)), (1, .int x1), (2, .int x2), (4, .int x4)]) C dX10_isSame_48 rfl (by decide) rfl ?_
  refine G.iinc (pl := 4) (v := (x4 + 1)) (lv' := [(4, .int (x4 + 1)), (3, .int t0), (0, .ref (ad 108)), (1, .int x1), (2, .int x2)]) C dX10_isSame_49 rfl rfl (by decide) rfl ?_
  refine G.goto (tgt := 5) C dX10_isSame_52 (by decide) ?_
  refine G.sub (lv' := [(0, .ref (ad 108)), (1, .int x1), (2, .int x2), (3, .int t0), (4, .int (x4 + 1))]) [2, 3, 4, 1, 0] rfl ?_
  exact h_5 t0 (x4 + 1)  hf
set_option maxRecDepth 100000 in
set_option maxHeartbeats 4000000 in
theorem w_X10_isSame_47 {X : Gc} {ad : Nat → Nat} {res : Int32} {M : Mem} {r_5 : Int32 → Int32 → Option Int32} (C : Gk X ad cX10_isSame "NineTonguesModel" 5 1) (Rt : Gr X ad (some .boolean) (some (.int res)) M) (x1 : Int32) (x2 : Int32) (x4 : Int32) (h_5 : ∀ (x3 : Int32) (x4 : Int32), r_5 x3 x4 = some res → G X ad 5 5 [(0, .ref (ad 108)), (1, .int x1), (2, .int x2), (3, .int x3), (4, .int x4)] [] M) (hf : f_X10_isSame_47 M r_5 x1 x2 x4 = some res) : G X ad 47 5 [(0, .ref (ad 108)), (1, .int x1), (2, .int x2), (4, .int x4)] [] M := by
  unfold f_X10_isSame_47 at hf
  refine G.iconst (v := 0) C dX10_isSame_47 (by decide) ?_
  exact w_X10_isSame_48 C Rt x1 x2 x4 (0 : Int32) h_5 hf
set_option maxRecDepth 100000 in
set_option maxHeartbeats 4000000 in
theorem w_X10_isSame_5_b {X : Gc} {ad : Nat → Nat} {res : Int32} {M : Mem} {r_5 : Int32 → Int32 → Option Int32} (C : Gk X ad cX10_isSame "NineTonguesModel" 5 1) (Rt : Gr X ad (some .boolean) (some (.int res)) M) (x1 : Int32) (x2 : Int32) (h_5 : ∀ (x3 : Int32) (x4 : Int32), r_5 x3 x4 = some res → G X ad 5 5 [(0, .ref (ad 108)), (1, .int x1), (2, .int x2), (3, .int x3), (4, .int x4)] [] M) (x3 : Int32) (x4 : Int32) (hf : f_X10_isSame_5_b M r_5 x1 x2 x3 x4 = some res) : G X ad 5 5 [(0, .ref (ad 108)), (1, .int x1), (2, .int x2), (3, .int x3), (4, .int x4)] [] M := by
  unfold f_X10_isSame_5_b at hf
  refine G.iload (pl := 4) C dX10_isSame_5 rfl ?_
  refine G.bipush (v := 16) C dX10_isSame_7 (by decide) ?_
  refine G.icmp_ge (tgt := 55) C dX10_isSame_9 (by decide) (fun hc1 => ?_) (fun hc1 => ?_)
  · replace hf := gIf hf hc1
    refine G.iload_n (pl := 3) C dX10_isSame_55 rfl rfl ?_
    obtain ⟨hz, hf⟩ := rz_some hf
    cases hf
    exact G.zret C hz Rt dX10_isSame_56
  · replace hf := gIfn hf hc1
    refine G.iload_n (pl := 3) C dX10_isSame_12 rfl rfl ?_
    refine G.if_eq (tgt := 47) C dX10_isSame_13 (by decide) (fun hc2 => ?_) (fun hc2 => ?_)
    · replace hf := gIf hf hc2
      refine G.sub (lv' := [(0, .ref (ad 108)), (1, .int x1), (2, .int x2), (4, .int x4)]) [0, 1, 2, 4] rfl ?_
      exact w_X10_isSame_47 C Rt x1 x2 x4 h_5 hf
    · replace hf := gIfn hf hc2
      refine G.aload_n (pl := 0) C dX10_isSame_16 rfl rfl ?_
      refine gf10_19 C o_108 k4_116 dX10_isSame_17 ?_
      refine G.bipush (v := 16) C dX10_isSame_20 (by decide) ?_
      refine G.iload_n (pl := 1) C dX10_isSame_22 rfl rfl ?_
      refine G.imul C dX10_isSame_23 ?_
      refine G.iload (pl := 4) C dX10_isSame_24 rfl ?_
      refine G.iadd C dX10_isSame_26 ?_
      obtain ⟨v1, ev1, hi1, hf⟩ := rd_some hf
      refine G.iald C a_124 hi1 ev1 dX10_isSame_27 ?_
      refine G.aload_n (pl := 0) C dX10_isSame_28 rfl rfl ?_
      refine gf10_19 C o_108 k4_116 dX10_isSame_29 ?_
      refine G.bipush (v := 16) C dX10_isSame_32 (by decide) ?_
      refine G.iload_n (pl := 2) C dX10_isSame_34 rfl rfl ?_
      refine G.imul C dX10_isSame_35 ?_
      refine G.iload (pl := 4) C dX10_isSame_36 rfl ?_
      refine G.iadd C dX10_isSame_38 ?_
      obtain ⟨v2, ev2, hi2, hf⟩ := rd_some hf
      refine G.iald C a_124 hi2 ev2 dX10_isSame_39 ?_
      refine G.icmp_ne (tgt := 47) C dX10_isSame_40 (by decide) (fun hc3 => ?_) (fun hc3 => ?_)
      · replace hf := gIfn hf hc3
        refine G.sub (lv' := [(0, .ref (ad 108)), (1, .int x1), (2, .int x2), (4, .int x4)]) [0, 1, 2, 4] rfl ?_
        exact w_X10_isSame_47 C Rt x1 x2 x4 h_5 hf
      · replace hf := gIf hf hc3
        refine G.iconst (v := 1) C dX10_isSame_43 (by decide) ?_
        refine G.goto (tgt := 48) C dX10_isSame_44 (by decide) ?_
        refine G.sub (lv' := [(0, .ref (ad 108)), (1, .int x1), (2, .int x2), (4, .int x4)]) [0, 1, 2, 4] rfl ?_
        exact w_X10_isSame_48 C Rt x1 x2 x4 (1 : Int32) h_5 hf
theorem w_X10_isSame_5 {X : Gc} {ad : Nat → Nat} {res : Int32} {M : Mem} (C : Gk X ad cX10_isSame "NineTonguesModel" 5 1) (Rt : Gr X ad (some .boolean) (some (.int res)) M) (x1 : Int32) (x2 : Int32) : ∀ (n : Nat) (x3 : Int32) (x4 : Int32), f_X10_isSame_5 M x1 x2 n x3 x4 = some res → G X ad 5 5 [(0, .ref (ad 108)), (1, .int x1), (2, .int x2), (3, .int x3), (4, .int x4)] [] M := by
  intro n
  induction n with
  | zero => intro x3 x4 hf; exact absurd (show (none : Option Int32) = some res from hf) (fun h => nomatch h)
  | succ n ih => intro x3 x4 hf; exact w_X10_isSame_5_b C Rt x1 x2 ih x3 x4 hf
set_option maxRecDepth 100000 in
set_option maxHeartbeats 4000000 in
theorem w_X10_isSame_E {X : Gc} {ad : Nat → Nat} {res : Int32} {M : Mem} (C : Gk X ad cX10_isSame "NineTonguesModel" 5 1) (Rt : Gr X ad (some .boolean) (some (.int res)) M) (x1 : Int32) (x2 : Int32) (hf : f_X10_isSame x1 x2 M = some res) : G X ad 0 5 [(0, .ref (ad 108)), (1, .int x1), (2, .int x2)] [] M := by
  unfold f_X10_isSame at hf
  refine G.iconst (v := 1) C dX10_isSame_0 (by decide) ?_
  refine G.istore_n (lv' := [(3, .int (1 : Int32)), (0, .ref (ad 108)), (1, .int x1), (2, .int x2)]) C dX10_isSame_1 rfl (by decide) rfl ?_
  refine G.iconst (v := 0) C dX10_isSame_2 (by decide) ?_
  refine G.istore (lv' := [(4, .int (0 : Int32)), (3, .int (1 : Int32)), (0, .ref (ad 108)), (1, .int x1), (2, .int x2)]) C dX10_isSame_3 (by decide) rfl ?_
  refine G.sub (lv' := [(0, .ref (ad 108)), (1, .int x1), (2, .int x2), (3, .int (1 : Int32)), (4, .int (0 : Int32))]) [2, 3, 4, 1, 0] rfl ?_
  exact w_X10_isSame_5 C Rt x1 x2 FU (1 : Int32) (0 : Int32) hf
theorem mv_X10_isSame : gMV yX10_isSame cX10_isSame 5 (some .boolean) 2 := ⟨k5_109, kS_44, k1_12, k5_110, ⟨by decide +kernel, by decide +kernel, by decide +kernel⟩, by decide⟩
theorem c_X10_isSame {res : Int32} {x1 : Int32} {x2 : Int32} {M : Mem} (hf : f_X10_isSame x1 x2 M = some res) : Ct yX10_isSame cX10_isSame 5 (some .boolean) 1 (fun ad => [.ref (ad 108), .int x1, .int x2]) M (some (.int res)) M :=
  Ct.of (by decide +kernel) (fun _ => Nat.le_of_ble_eq_true rfl) (fun X ad C Rt => w_X10_isSame_E C Rt x1 x2 hf)
set_option maxRecDepth 100000 in
set_option maxHeartbeats 4000000 in
theorem w_X10_round_33 {X : Gc} {ad : Nat → Nat} {res : (Int32 × Mem)} (C : Gk X ad cX10_round "NineTonguesModel" 8 5) (Rt : Gr X ad (some .int) (some (.int res.1)) res.2) (M : Mem) (hf : f_X10_round_33 M = some res) : G X ad 33 8 [(0, .ref (ad 108))] [] M := by
  unfold f_X10_round_33 at hf
  refine G.aload_n (pl := 0) C dX10_round_33 rfl rfl ?_
  refine G.bipush (v := (-2)) C dX10_round_34 (by decide) ?_
  obtain ⟨v1, M1, hr1, hf⟩ := cl_some hf
  refine G.callV (st1 := [.int v1]) C [.int (-2 : Int32)] [] (c_X10_bad hr1) mv_X10_bad k4_192 o_108.1 (fun _ => gShp_20 o_108) rfl rfl rfl rfl rfl (Nat.le_of_ble_eq_true rfl) (by decide) dX10_round_36 rfl ?_
  cases hf
  exact G.iret C Rt dX10_round_39
set_option maxRecDepth 100000 in
set_option maxHeartbeats 4000000 in
theorem w_X10_round_65 {X : Gc} {ad : Nat → Nat} {res : (Int32 × Mem)} (C : Gk X ad cX10_round "NineTonguesModel" 8 5) (Rt : Gr X ad (some .int) (some (.int res.1)) res.2) (M : Mem) (hf : f_X10_round_65 M = some res) : G X ad 65 8 [(0, .ref (ad 108))] [] M := by
  unfold f_X10_round_65 at hf
  refine G.aload_n (pl := 0) C dX10_round_65 rfl rfl ?_
  refine G.bipush (v := (-3)) C dX10_round_66 (by decide) ?_
  obtain ⟨v1, M1, hr1, hf⟩ := cl_some hf
  refine G.callV (st1 := [.int v1]) C [.int (-3 : Int32)] [] (c_X10_no hr1) mv_X10_no k5_40 o_108.1 (fun _ => gShp_20 o_108) rfl rfl rfl rfl rfl (Nat.le_of_ble_eq_true rfl) (by decide) dX10_round_68 rfl ?_
  cases hf
  exact G.iret C Rt dX10_round_71
set_option maxRecDepth 100000 in
set_option maxHeartbeats 4000000 in
theorem w_X10_round_196 {X : Gc} {ad : Nat → Nat} {res : (Int32 × Mem)} {r_166 : Int32 → Int32 → Mem → Option (Int32 × Mem)} (C : Gk X ad cX10_round "NineTonguesModel" 8 5) (Rt : Gr X ad (some .int) (some (.int res.1)) res.2) (x1 : Int32) (x2 : Int32) (x3 : Int32) (x4 : Int32) (x5 : Int32) (x7 : Int32) (t0 : Int32) (M : Mem) (h_166 : ∀ (x6 : Int32) (x7 : Int32) (M : Mem), r_166 x6 x7 M = some res → G X ad 166 8 [(0, .ref (ad 108)), (1, .int x1), (2, .int x2), (3, .int x3), (4, .int x4), (5, .int x5), (6, .int x6), (7, .int x7)] [] M) (hf : f_X10_round_196 r_166 x1 x2 x3 x4 x5 x7 t0 M = some res) : G X ad 196 8 [(0, .ref (ad 108)), (1, .int x1), (2, .int x2), (3, .int x3), (4, .int x4), (5, .int x5), (7, .int x7)] [.int t0] M := by
  unfold f_X10_round_196 at hf
  refine G.istore (lv' := [(6, .int t0), (0, .ref (ad 108)), (1, .int x1), (2, .int x2), (3, .int x3), (4, .int x4), (5, .int x5), (7, .int x7)]) C dX10_round_196 (by decide) rfl ?_
  refine G.iinc (pl := 7) (v := (x7 + 1)) (lv' := [(7, .int (x7 + 1)), (6, .int t0), (0, .ref (ad 108)), (1, .int x1), (2, .int x2), (3, .int x3), (4, .int x4), (5, .int x5)]) C dX10_round_198 rfl rfl (by decide) rfl ?_
  refine G.goto (tgt := 166) C dX10_round_201 (by decide) ?_
  refine G.sub (lv' := [(0, .ref (ad 108)), (1, .int x1), (2, .int x2), (3, .int x3), (4, .int x4), (5, .int x5), (6, .int t0), (7, .int (x7 + 1))]) [2, 3, 4, 5, 6, 7, 1, 0] rfl ?_
  exact h_166 t0 (x7 + 1) M hf
set_option maxRecDepth 100000 in
set_option maxHeartbeats 4000000 in
theorem w_X10_round_194 {X : Gc} {ad : Nat → Nat} {res : (Int32 × Mem)} {r_166 : Int32 → Int32 → Mem → Option (Int32 × Mem)} (C : Gk X ad cX10_round "NineTonguesModel" 8 5) (Rt : Gr X ad (some .int) (some (.int res.1)) res.2) (x1 : Int32) (x2 : Int32) (x3 : Int32) (x4 : Int32) (x5 : Int32) (x6 : Int32) (x7 : Int32) (M : Mem) (h_166 : ∀ (x6 : Int32) (x7 : Int32) (M : Mem), r_166 x6 x7 M = some res → G X ad 166 8 [(0, .ref (ad 108)), (1, .int x1), (2, .int x2), (3, .int x3), (4, .int x4), (5, .int x5), (6, .int x6), (7, .int x7)] [] M) (hf : f_X10_round_194 r_166 x1 x2 x3 x4 x5 x6 x7 M = some res) : G X ad 194 8 [(0, .ref (ad 108)), (1, .int x1), (2, .int x2), (3, .int x3), (4, .int x4), (5, .int x5), (6, .int x6), (7, .int x7)] [] M := by
  unfold f_X10_round_194 at hf
  refine G.iload (pl := 6) C dX10_round_194 rfl ?_
  refine G.sub (lv' := [(0, .ref (ad 108)), (1, .int x1), (2, .int x2), (3, .int x3), (4, .int x4), (5, .int x5), (7, .int x7)]) [0, 1, 2, 3, 4, 5, 7] rfl ?_
  exact w_X10_round_196 C Rt x1 x2 x3 x4 x5 x7 x6 M h_166 hf
set_option maxRecDepth 100000 in
set_option maxHeartbeats 4000000 in
theorem w_X10_round_166_b {X : Gc} {ad : Nat → Nat} {res : (Int32 × Mem)} {r_108 : Int32 → Int32 → Mem → Option (Int32 × Mem)} {r_166 : Int32 → Int32 → Mem → Option (Int32 × Mem)} (C : Gk X ad cX10_round "NineTonguesModel" 8 5) (Rt : Gr X ad (some .int) (some (.int res.1)) res.2) (x1 : Int32) (x2 : Int32) (x3 : Int32) (x4 : Int32) (x5 : Int32) (h_108 : ∀ (x5 : Int32) (x6 : Int32) (M : Mem), r_108 x5 x6 M = some res → G X ad 108 8 [(0, .ref (ad 108)), (1, .int x1), (2, .int x2), (3, .int x3), (4, .int x4), (5, .int x5), (6, .int x6)] [] M) (h_166 : ∀ (x6 : Int32) (x7 : Int32) (M : Mem), r_166 x6 x7 M = some res → G X ad 166 8 [(0, .ref (ad 108)), (1, .int x1), (2, .int x2), (3, .int x3), (4, .int x4), (5, .int x5), (6, .int x6), (7, .int x7)] [] M) (x6 : Int32) (x7 : Int32) (M : Mem) (hf : f_X10_round_166_b r_108 r_166 x1 x2 x3 x4 x5 x6 x7 M = some res) : G X ad 166 8 [(0, .ref (ad 108)), (1, .int x1), (2, .int x2), (3, .int x3), (4, .int x4), (5, .int x5), (6, .int x6), (7, .int x7)] [] M := by
  unfold f_X10_round_166_b at hf
  refine G.iload (pl := 7) C dX10_round_166 rfl ?_
  refine G.iload (pl := 5) C dX10_round_168 rfl ?_
  refine G.icmp_ge (tgt := 204) C dX10_round_170 (by decide) (fun hc1 => ?_) (fun hc1 => ?_)
  · replace hf := gIf hf hc1
    refine G.iinc (pl := 5) (v := (x5 + 1)) (lv' := [(5, .int (x5 + 1)), (0, .ref (ad 108)), (1, .int x1), (2, .int x2), (3, .int x3), (4, .int x4), (6, .int x6), (7, .int x7)]) C dX10_round_204 rfl rfl (by decide) rfl ?_
    refine G.goto (tgt := 108) C dX10_round_207 (by decide) ?_
    refine G.sub (lv' := [(0, .ref (ad 108)), (1, .int x1), (2, .int x2), (3, .int x3), (4, .int x4), (5, .int (x5 + 1)), (6, .int x6)]) [1, 2, 3, 4, 5, 0, 6] rfl ?_
    exact h_108 (x5 + 1) x6 M hf
  · replace hf := gIfn hf hc1
    refine G.iload (pl := 6) C dX10_round_173 rfl ?_
    refine G.if_ge (tgt := 194) C dX10_round_175 (by decide) (fun hc2 => ?_) (fun hc2 => ?_)
    · replace hf := gIf hf hc2
      exact w_X10_round_194 C Rt x1 x2 x3 x4 x5 x6 x7 M h_166 hf
    · replace hf := gIfn hf hc2
      refine G.aload_n (pl := 0) C dX10_round_178 rfl rfl ?_
      refine G.iload (pl := 7) C dX10_round_179 rfl ?_
      refine G.iload (pl := 5) C dX10_round_181 rfl ?_
      obtain ⟨v1, hr1, hf⟩ := cp_some hf
      refine G.callV (st1 := [.int v1]) C [.int x7, .int x5] [] (c_X10_isSame hr1) mv_X10_isSame k5_107 o_108.1 (fun _ => gShp_20 o_108) rfl rfl rfl rfl rfl (Nat.le_of_ble_eq_true rfl) (by decide) dX10_round_183 rfl ?_
      refine G.if_eq (tgt := 194) C dX10_round_186 (by decide) (fun hc3 => ?_) (fun hc3 => ?_)
      · replace hf := gIf hf hc3
        exact w_X10_round_194 C Rt x1 x2 x3 x4 x5 x6 x7 M h_166 hf
      · replace hf := gIfn hf hc3
        refine G.iload (pl := 7) C dX10_round_189 rfl ?_
        refine G.goto (tgt := 196) C dX10_round_191 (by decide) ?_
        refine G.sub (lv' := [(0, .ref (ad 108)), (1, .int x1), (2, .int x2), (3, .int x3), (4, .int x4), (5, .int x5), (7, .int x7)]) [0, 1, 2, 3, 4, 5, 7] rfl ?_
        exact w_X10_round_196 C Rt x1 x2 x3 x4 x5 x7 x7 M h_166 hf
theorem w_X10_round_166 {X : Gc} {ad : Nat → Nat} {res : (Int32 × Mem)} {r_108 : Int32 → Int32 → Mem → Option (Int32 × Mem)} (C : Gk X ad cX10_round "NineTonguesModel" 8 5) (Rt : Gr X ad (some .int) (some (.int res.1)) res.2) (x1 : Int32) (x2 : Int32) (x3 : Int32) (x4 : Int32) (x5 : Int32) (h_108 : ∀ (x5 : Int32) (x6 : Int32) (M : Mem), r_108 x5 x6 M = some res → G X ad 108 8 [(0, .ref (ad 108)), (1, .int x1), (2, .int x2), (3, .int x3), (4, .int x4), (5, .int x5), (6, .int x6)] [] M) : ∀ (n : Nat) (x6 : Int32) (x7 : Int32) (M : Mem), f_X10_round_166 r_108 x1 x2 x3 x4 x5 n x6 x7 M = some res → G X ad 166 8 [(0, .ref (ad 108)), (1, .int x1), (2, .int x2), (3, .int x3), (4, .int x4), (5, .int x5), (6, .int x6), (7, .int x7)] [] M := by
  intro n
  induction n with
  | zero => intro x6 x7 M hf; exact absurd (show (none : Option (Int32 × Mem)) = some res from hf) (fun h => nomatch h)
  | succ n ih => intro x6 x7 M hf; exact w_X10_round_166_b C Rt x1 x2 x3 x4 x5 h_108 ih x6 x7 M hf
set_option maxRecDepth 100000 in
set_option maxHeartbeats 4000000 in
theorem w_X10_round_108_b {X : Gc} {ad : Nat → Nat} {res : (Int32 × Mem)} {r_108 : Int32 → Int32 → Mem → Option (Int32 × Mem)} (C : Gk X ad cX10_round "NineTonguesModel" 8 5) (Rt : Gr X ad (some .int) (some (.int res.1)) res.2) (x1 : Int32) (x2 : Int32) (x3 : Int32) (x4 : Int32) (h_108 : ∀ (x5 : Int32) (x6 : Int32) (M : Mem), r_108 x5 x6 M = some res → G X ad 108 8 [(0, .ref (ad 108)), (1, .int x1), (2, .int x2), (3, .int x3), (4, .int x4), (5, .int x5), (6, .int x6)] [] M) (x5 : Int32) (x6 : Int32) (M : Mem) (hf : f_X10_round_108_b r_108 x1 x2 x3 x4 x5 x6 M = some res) : G X ad 108 8 [(0, .ref (ad 108)), (1, .int x1), (2, .int x2), (3, .int x3), (4, .int x4), (5, .int x5), (6, .int x6)] [] M := by
  unfold f_X10_round_108_b at hf
  refine G.iload (pl := 6) C dX10_round_108 rfl ?_
  refine G.if_ge (tgt := 210) C dX10_round_110 (by decide) (fun hc1 => ?_) (fun hc1 => ?_)
  · replace hf := gIf hf hc1
    refine G.iload (pl := 4) C dX10_round_210 rfl ?_
    refine G.if_ne (tgt := 220) C dX10_round_212 (by decide) (fun hc2 => ?_) (fun hc2 => ?_)
    · replace hf := gIfn hf hc2
      refine G.iload (pl := 5) C dX10_round_220 rfl ?_
      refine G.iconst (v := 1) C dX10_round_222 (by decide) ?_
      refine G.isub C dX10_round_223 ?_
      refine G.iload (pl := 6) C dX10_round_224 rfl ?_
      refine G.isub C dX10_round_226 ?_
      cases hf
      exact G.iret C Rt dX10_round_227
    · replace hf := gIf hf hc2
      refine G.iload (pl := 6) C dX10_round_215 rfl ?_
      refine G.goto (tgt := 227) C dX10_round_217 (by decide) ?_
      cases hf
      exact G.iret C Rt dX10_round_227
  · replace hf := gIfn hf hc1
    refine G.aload_n (pl := 0) C dX10_round_113 rfl rfl ?_
    refine G.aload_n (pl := 0) C dX10_round_114 rfl rfl ?_
    refine gf10_19 C o_108 k4_116 dX10_round_115 ?_
    refine G.bipush (v := 16) C dX10_round_118 (by decide) ?_
    refine G.iload (pl := 5) C dX10_round_120 rfl ?_
    refine G.iconst (v := 1) C dX10_round_122 (by decide) ?_
    refine G.isub C dX10_round_123 ?_
    refine G.imul C dX10_round_124 ?_
    refine G.aload_n (pl := 0) C dX10_round_125 rfl rfl ?_
    refine gf10_19 C o_108 k4_116 dX10_round_126 ?_
    refine G.bipush (v := 16) C dX10_round_129 (by decide) ?_
    refine G.iload (pl := 5) C dX10_round_131 rfl ?_
    refine G.imul C dX10_round_133 ?_
    refine G.iload_n (pl := 3) C dX10_round_134 rfl rfl ?_
    refine G.iload_n (pl := 1) C dX10_round_135 rfl rfl ?_
    obtain ⟨u, M1, hr1, hf⟩ := cl_some hf
    refine G.callV (st1 := []) C [.ref (ad 124), .int ((16 : Int32) * (x5 - (1 : Int32))), .ref (ad 124), .int ((16 : Int32) * x5), .int x3, .int x1] [] (c_X10_carries a_124 a_124 hr1) mv_X10_carries k5_52 o_108.1 (fun _ => gShp_20 o_108) rfl rfl rfl rfl rfl (Nat.le_of_ble_eq_true rfl) (by decide) dX10_round_136 rfl ?_
    refine G.aload_n (pl := 0) C dX10_round_139 rfl rfl ?_
    refine G.aload_n (pl := 0) C dX10_round_140 rfl rfl ?_
    refine gf10_19 C o_108 k4_116 dX10_round_141 ?_
    refine G.bipush (v := 16) C dX10_round_144 (by decide) ?_
    refine G.iload (pl := 5) C dX10_round_146 rfl ?_
    refine G.imul C dX10_round_148 ?_
    refine G.aload_n (pl := 0) C dX10_round_149 rfl rfl ?_
    refine gf10_19 C o_108 k4_116 dX10_round_150 ?_
    refine G.bipush (v := 16) C dX10_round_153 (by decide) ?_
    refine G.iload (pl := 5) C dX10_round_155 rfl ?_
    refine G.imul C dX10_round_157 ?_
    refine G.iload_n (pl := 2) C dX10_round_158 rfl rfl ?_
    refine G.iload_n (pl := 1) C dX10_round_159 rfl rfl ?_
    obtain ⟨u, M2, hr2, hf⟩ := cl_some hf
    refine G.callV (st1 := []) C [.ref (ad 124), .int ((16 : Int32) * x5), .ref (ad 124), .int ((16 : Int32) * x5), .int x2, .int x1] [] (c_X10_carries a_124 a_124 hr2) mv_X10_carries k5_52 o_108.1 (fun _ => gShp_20 o_108) rfl rfl rfl rfl rfl (Nat.le_of_ble_eq_true rfl) (by decide) dX10_round_160 rfl ?_
    refine G.iconst (v := 0) C dX10_round_163 (by decide) ?_
    refine G.istore (lv' := [(7, .int (0 : Int32)), (0, .ref (ad 108)), (1, .int x1), (2, .int x2), (3, .int x3), (4, .int x4), (5, .int x5), (6, .int x6)]) C dX10_round_164 (by decide) rfl ?_
    refine G.sub (lv' := [(0, .ref (ad 108)), (1, .int x1), (2, .int x2), (3, .int x3), (4, .int x4), (5, .int x5), (6, .int x6), (7, .int (0 : Int32))]) [1, 2, 3, 4, 5, 6, 7, 0] rfl ?_
    exact w_X10_round_166 C Rt x1 x2 x3 x4 x5 h_108 FU x6 (0 : Int32) M2 hf
theorem w_X10_round_108 {X : Gc} {ad : Nat → Nat} {res : (Int32 × Mem)} (C : Gk X ad cX10_round "NineTonguesModel" 8 5) (Rt : Gr X ad (some .int) (some (.int res.1)) res.2) (x1 : Int32) (x2 : Int32) (x3 : Int32) (x4 : Int32) : ∀ (n : Nat) (x5 : Int32) (x6 : Int32) (M : Mem), f_X10_round_108 x1 x2 x3 x4 n x5 x6 M = some res → G X ad 108 8 [(0, .ref (ad 108)), (1, .int x1), (2, .int x2), (3, .int x3), (4, .int x4), (5, .int x5), (6, .int x6)] [] M := by
  intro n
  induction n with
  | zero => intro x5 x6 M hf; exact absurd (show (none : Option (Int32 × Mem)) = some res from hf) (fun h => nomatch h)
  | succ n ih => intro x5 x6 M hf; exact w_X10_round_108_b C Rt x1 x2 x3 x4 ih x5 x6 M hf
set_option maxRecDepth 100000 in
set_option maxHeartbeats 4000000 in
theorem w_X10_round_75_b {X : Gc} {ad : Nat → Nat} {res : (Int32 × Mem)} {r_75 : Int32 → Mem → Option (Int32 × Mem)} (C : Gk X ad cX10_round "NineTonguesModel" 8 5) (Rt : Gr X ad (some .int) (some (.int res.1)) res.2) (x1 : Int32) (x2 : Int32) (x3 : Int32) (x4 : Int32) (h_75 : ∀ (x5 : Int32) (M : Mem), r_75 x5 M = some res → G X ad 75 8 [(0, .ref (ad 108)), (1, .int x1), (2, .int x2), (3, .int x3), (4, .int x4), (5, .int x5)] [] M) (x5 : Int32) (M : Mem) (hf : f_X10_round_75_b r_75 x1 x2 x3 x4 x5 M = some res) : G X ad 75 8 [(0, .ref (ad 108)), (1, .int x1), (2, .int x2), (3, .int x3), (4, .int x4), (5, .int x5)] [] M := by
  unfold f_X10_round_75_b at hf
  refine G.iload (pl := 5) C dX10_round_75 rfl ?_
  refine G.bipush (v := 16) C dX10_round_77 (by decide) ?_
  refine G.icmp_ge (tgt := 102) C dX10_round_79 (by decide) (fun hc1 => ?_) (fun hc1 => ?_)
  · replace hf := gIf hf hc1
    refine G.iconst (v := 1) C dX10_round_102 (by decide) ?_
    refine G.istore (lv' := [(5, .int (1 : Int32)), (0, .ref (ad 108)), (1, .int x1), (2, .int x2), (3, .int x3), (4, .int x4)]) C dX10_round_103 (by decide) rfl ?_
    refine G.iconst (v := (-1)) C dX10_round_105 (by decide) ?_
    refine G.istore (lv' := [(6, .int (-1 : Int32)), (5, .int (1 : Int32)), (0, .ref (ad 108)), (1, .int x1), (2, .int x2), (3, .int x3), (4, .int x4)]) C dX10_round_106 (by decide) rfl ?_
    refine G.sub (lv' := [(0, .ref (ad 108)), (1, .int x1), (2, .int x2), (3, .int x3), (4, .int x4), (5, .int (1 : Int32)), (6, .int (-1 : Int32))]) [2, 3, 4, 5, 6, 1, 0] rfl ?_
    exact w_X10_round_108 C Rt x1 x2 x3 x4 FU (1 : Int32) (-1 : Int32) M hf
  · replace hf := gIfn hf hc1
    refine G.aload_n (pl := 0) C dX10_round_82 rfl rfl ?_
    refine gf10_19 C o_108 k4_116 dX10_round_83 ?_
    refine G.iload (pl := 5) C dX10_round_86 rfl ?_
    refine G.aload_n (pl := 0) C dX10_round_88 rfl rfl ?_
    refine gf10_8 C o_108 k4_105 dX10_round_89 ?_
    refine G.iload (pl := 5) C dX10_round_92 rfl ?_
    obtain ⟨v1, ev1, hi1, hf⟩ := rd_some hf
    refine G.iald C a_117 hi1 ev1 dX10_round_94 ?_
    obtain ⟨hi2, hf⟩ := ck_some hf
    obtain ⟨M1, eM1, hf⟩ := stm_some hf
    refine G.iast C a_124 hi2 eM1 dX10_round_95 ?_
    refine G.iinc (pl := 5) (v := (x5 + 1)) (lv' := [(5, .int (x5 + 1)), (0, .ref (ad 108)), (1, .int x1), (2, .int x2), (3, .int x3), (4, .int x4)]) C dX10_round_96 rfl rfl (by decide) rfl ?_
    refine G.goto (tgt := 75) C dX10_round_99 (by decide) ?_
    refine G.sub (lv' := [(0, .ref (ad 108)), (1, .int x1), (2, .int x2), (3, .int x3), (4, .int x4), (5, .int (x5 + 1))]) [1, 2, 3, 4, 5, 0] rfl ?_
    exact h_75 (x5 + 1) M1 hf
theorem w_X10_round_75 {X : Gc} {ad : Nat → Nat} {res : (Int32 × Mem)} (C : Gk X ad cX10_round "NineTonguesModel" 8 5) (Rt : Gr X ad (some .int) (some (.int res.1)) res.2) (x1 : Int32) (x2 : Int32) (x3 : Int32) (x4 : Int32) : ∀ (n : Nat) (x5 : Int32) (M : Mem), f_X10_round_75 x1 x2 x3 x4 n x5 M = some res → G X ad 75 8 [(0, .ref (ad 108)), (1, .int x1), (2, .int x2), (3, .int x3), (4, .int x4), (5, .int x5)] [] M := by
  intro n
  induction n with
  | zero => intro x5 M hf; exact absurd (show (none : Option (Int32 × Mem)) = some res from hf) (fun h => nomatch h)
  | succ n ih => intro x5 M hf; exact w_X10_round_75_b C Rt x1 x2 x3 x4 ih x5 M hf
set_option maxRecDepth 100000 in
set_option maxHeartbeats 4000000 in
theorem w_X10_round_E {X : Gc} {ad : Nat → Nat} {res : (Int32 × Mem)} (C : Gk X ad cX10_round "NineTonguesModel" 8 5) (Rt : Gr X ad (some .int) (some (.int res.1)) res.2) (x1 : Int32) (x2 : Int32) (x3 : Int32) (x4 : Int32) (M : Mem) (hf : f_X10_round x1 x2 x3 x4 M = some res) : G X ad 0 8 [(0, .ref (ad 108)), (1, .int x1), (2, .int x2), (3, .int x3), (4, .int x4)] [] M := by
  unfold f_X10_round at hf
  refine G.iload_n (pl := 1) C dX10_round_0 rfl rfl ?_
  obtain ⟨v1, hr1, hf⟩ := cp_some hf
  refine G.callS (st1 := [.int v1]) C [.int x1] [] (c_X10_isKind hr1) mv_X10_isKind k5_84 rfl rfl rfl (Nat.le_of_ble_eq_true rfl) (by decide) dX10_round_1 rfl ?_
  refine G.if_eq (tgt := 33) C dX10_round_4 (by decide) (fun hc1 => ?_) (fun hc1 => ?_)
  · replace hf := gIf hf hc1
    refine G.sub (lv' := [(0, .ref (ad 108))]) [0] rfl ?_
    exact w_X10_round_33 C Rt M hf
  · replace hf := gIfn hf hc1
    refine G.aload_n (pl := 0) C dX10_round_7 rfl rfl ?_
    refine G.iload_n (pl := 2) C dX10_round_8 rfl rfl ?_
    obtain ⟨v2, hr2, hf⟩ := cp_some hf
    refine G.callV (st1 := [.int v2]) C [.int x2] [] (c_X10_isTongue hr2) mv_X10_isTongue k4_204 o_108.1 (fun _ => gShp_20 o_108) rfl rfl rfl rfl rfl (Nat.le_of_ble_eq_true rfl) (by decide) dX10_round_9 rfl ?_
    refine G.if_eq (tgt := 33) C dX10_round_12 (by decide) (fun hc2 => ?_) (fun hc2 => ?_)
    · replace hf := gIf hf hc2
      refine G.sub (lv' := [(0, .ref (ad 108))]) [0] rfl ?_
      exact w_X10_round_33 C Rt M hf
    · replace hf := gIfn hf hc2
      refine G.aload_n (pl := 0) C dX10_round_15 rfl rfl ?_
      refine G.iload_n (pl := 3) C dX10_round_16 rfl rfl ?_
      obtain ⟨v3, hr3, hf⟩ := cp_some hf
      refine G.callV (st1 := [.int v3]) C [.int x3] [] (c_X10_isTongue hr3) mv_X10_isTongue k4_204 o_108.1 (fun _ => gShp_20 o_108) rfl rfl rfl rfl rfl (Nat.le_of_ble_eq_true rfl) (by decide) dX10_round_17 rfl ?_
      refine G.if_eq (tgt := 33) C dX10_round_20 (by decide) (fun hc3 => ?_) (fun hc3 => ?_)
      · replace hf := gIf hf hc3
        refine G.sub (lv' := [(0, .ref (ad 108))]) [0] rfl ?_
        exact w_X10_round_33 C Rt M hf
      · replace hf := gIfn hf hc3
        refine G.iload (pl := 4) C dX10_round_23 rfl ?_
        refine G.iconst (v := 0) C dX10_round_25 (by decide) ?_
        refine G.iconst (v := 1) C dX10_round_26 (by decide) ?_
        obtain ⟨v4, hr4, hf⟩ := cp_some hf
        refine G.callS (st1 := [.int v4]) C [.int x4, .int (0 : Int32), .int (1 : Int32)] [] (c_X10_between hr4) mv_X10_between k4_189 rfl rfl rfl (Nat.le_of_ble_eq_true rfl) (by decide) dX10_round_27 rfl ?_
        refine G.if_ne (tgt := 40) C dX10_round_30 (by decide) (fun hc4 => ?_) (fun hc4 => ?_)
        · replace hf := gIfn hf hc4
          refine G.aload_n (pl := 0) C dX10_round_40 rfl rfl ?_
          refine gf10_1 C o_108 k4_98 dX10_round_41 ?_
          refine G.iconst (v := 0) C dX10_round_44 (by decide) ?_
          refine G.iald (v := (M.1 110 0)) C a_110 (vp_inC (by decide)) rfl dX10_round_45 ?_
          refine G.if_eq (tgt := 65) C dX10_round_46 (by decide) (fun hc5 => ?_) (fun hc5 => ?_)
          · replace hf := gIf hf hc5
            refine G.sub (lv' := [(0, .ref (ad 108))]) [0] rfl ?_
            exact w_X10_round_65 C Rt M hf
          · replace hf := gIfn hf hc5
            refine G.aload_n (pl := 0) C dX10_round_49 rfl rfl ?_
            refine G.iload_n (pl := 2) C dX10_round_50 rfl rfl ?_
            obtain ⟨v5, hr5, hf⟩ := cp_some hf
            refine G.callV (st1 := [.int v5]) C [.int x2] [] (c_X10_speaks hr5) mv_X10_speaks k5_20 o_108.1 (fun _ => gShp_20 o_108) rfl rfl rfl rfl rfl (Nat.le_of_ble_eq_true rfl) (by decide) dX10_round_51 rfl ?_
            refine G.if_eq (tgt := 65) C dX10_round_54 (by decide) (fun hc6 => ?_) (fun hc6 => ?_)
            · replace hf := gIf hf hc6
              refine G.sub (lv' := [(0, .ref (ad 108))]) [0] rfl ?_
              exact w_X10_round_65 C Rt M hf
            · replace hf := gIfn hf hc6
              refine G.aload_n (pl := 0) C dX10_round_57 rfl rfl ?_
              refine G.iload_n (pl := 3) C dX10_round_58 rfl rfl ?_
              obtain ⟨v6, hr6, hf⟩ := cp_some hf
              refine G.callV (st1 := [.int v6]) C [.int x3] [] (c_X10_speaks hr6) mv_X10_speaks k5_20 o_108.1 (fun _ => gShp_20 o_108) rfl rfl rfl rfl rfl (Nat.le_of_ble_eq_true rfl) (by decide) dX10_round_59 rfl ?_
              refine G.if_ne (tgt := 72) C dX10_round_62 (by decide) (fun hc7 => ?_) (fun hc7 => ?_)
              · replace hf := gIfn hf hc7
                refine G.iconst (v := 0) C dX10_round_72 (by decide) ?_
                refine G.istore (lv' := [(5, .int (0 : Int32)), (0, .ref (ad 108)), (1, .int x1), (2, .int x2), (3, .int x3), (4, .int x4)]) C dX10_round_73 (by decide) rfl ?_
                refine G.sub (lv' := [(0, .ref (ad 108)), (1, .int x1), (2, .int x2), (3, .int x3), (4, .int x4), (5, .int (0 : Int32))]) [1, 2, 3, 4, 5, 0] rfl ?_
                exact w_X10_round_75 C Rt x1 x2 x3 x4 FU (0 : Int32) M hf
              · replace hf := gIf hf hc7
                refine G.sub (lv' := [(0, .ref (ad 108))]) [0] rfl ?_
                exact w_X10_round_65 C Rt M hf
        · replace hf := gIf hf hc4
          refine G.sub (lv' := [(0, .ref (ad 108))]) [0] rfl ?_
          exact w_X10_round_33 C Rt M hf
theorem mv_X10_round : gMV yX10_round cX10_round 8 (some .int) 4 := ⟨k5_104, k5_105, k1_12, k5_106, ⟨by decide +kernel, by decide +kernel, by decide +kernel⟩, by decide⟩
theorem c_X10_round {res : (Int32 × Mem)} {x1 : Int32} {x2 : Int32} {x3 : Int32} {x4 : Int32} {M : Mem} (hf : f_X10_round x1 x2 x3 x4 M = some res) : Ct yX10_round cX10_round 8 (some .int) 5 (fun ad => [.ref (ad 108), .int x1, .int x2, .int x3, .int x4]) M (some (.int res.1)) res.2 :=
  Ct.of (by decide +kernel) (fun _ => Nat.le_of_ble_eq_true rfl) (fun X ad C Rt => w_X10_round_E C Rt x1 x2 x3 x4 M hf)
set_option maxRecDepth 100000 in
set_option maxHeartbeats 4000000 in
theorem w_X10_common_23 {X : Gc} {ad : Nat → Nat} {res : (Int32 × Mem)} (C : Gk X ad cX10_common "NineTonguesModel" 6 4) (Rt : Gr X ad (some .int) (some (.int res.1)) res.2) (M : Mem) (hf : f_X10_common_23 M = some res) : G X ad 23 6 [(0, .ref (ad 108))] [] M := by
  unfold f_X10_common_23 at hf
  refine G.aload_n (pl := 0) C dX10_common_23 rfl rfl ?_
  refine G.bipush (v := (-2)) C dX10_common_24 (by decide) ?_
  obtain ⟨v1, M1, hr1, hf⟩ := cl_some hf
  refine G.callV (st1 := [.int v1]) C [.int (-2 : Int32)] [] (c_X10_bad hr1) mv_X10_bad k4_192 o_108.1 (fun _ => gShp_20 o_108) rfl rfl rfl rfl rfl (Nat.le_of_ble_eq_true rfl) (by decide) dX10_common_26 rfl ?_
  cases hf
  exact G.iret C Rt dX10_common_29
set_option maxRecDepth 100000 in
set_option maxHeartbeats 4000000 in
theorem w_X10_common_93 {X : Gc} {ad : Nat → Nat} {res : (Int32 × Mem)} {r_40 : Int32 → Int32 → Int32 → Mem → Option (Int32 × Mem)} (C : Gk X ad cX10_common "NineTonguesModel" 6 4) (Rt : Gr X ad (some .int) (some (.int res.1)) res.2) (x1 : Int32) (x2 : Int32) (x3 : Int32) (x4 : Int32) (x5 : Int32) (M : Mem) (h_40 : ∀ (x3 : Int32) (x4 : Int32) (x5 : Int32) (M : Mem), r_40 x3 x4 x5 M = some res → G X ad 40 6 [(0, .ref (ad 108)), (1, .int x1), (2, .int x2), (3, .int x3), (4, .int x4), (5, .int x5)] [] M) (hf : f_X10_common_93 r_40 x1 x2 x3 x4 x5 M = some res) : G X ad 93 6 [(0, .ref (ad 108)), (1, .int x1), (2, .int x2), (3, .int x3), (4, .int x4), (5, .int x5)] [] M := by
  unfold f_X10_common_93 at hf
  refine G.iinc (pl := 5) (v := (x5 + 1)) (lv' := [(5, .int (x5 + 1)), (0, .ref (ad 108)), (1, .int x1), (2, .int x2), (3, .int x3), (4, .int x4)]) C dX10_common_93 rfl rfl (by decide) rfl ?_
  refine G.goto (tgt := 40) C dX10_common_96 (by decide) ?_
  refine G.sub (lv' := [(0, .ref (ad 108)), (1, .int x1), (2, .int x2), (3, .int x3), (4, .int x4), (5, .int (x5 + 1))]) [1, 2, 3, 4, 5, 0] rfl ?_
  exact h_40 x3 x4 (x5 + 1) M hf
set_option maxRecDepth 100000 in
set_option maxHeartbeats 4000000 in
theorem w_X10_common_40_b {X : Gc} {ad : Nat → Nat} {res : (Int32 × Mem)} {r_40 : Int32 → Int32 → Int32 → Mem → Option (Int32 × Mem)} (C : Gk X ad cX10_common "NineTonguesModel" 6 4) (Rt : Gr X ad (some .int) (some (.int res.1)) res.2) (x1 : Int32) (x2 : Int32) (h_40 : ∀ (x3 : Int32) (x4 : Int32) (x5 : Int32) (M : Mem), r_40 x3 x4 x5 M = some res → G X ad 40 6 [(0, .ref (ad 108)), (1, .int x1), (2, .int x2), (3, .int x3), (4, .int x4), (5, .int x5)] [] M) (x3 : Int32) (x4 : Int32) (x5 : Int32) (M : Mem) (hf : f_X10_common_40_b r_40 x1 x2 x3 x4 x5 M = some res) : G X ad 40 6 [(0, .ref (ad 108)), (1, .int x1), (2, .int x2), (3, .int x3), (4, .int x4), (5, .int x5)] [] M := by
  unfold f_X10_common_40_b at hf
  refine G.iload (pl := 5) C dX10_common_40 rfl ?_
  refine G.aload_n (pl := 0) C dX10_common_42 rfl rfl ?_
  refine gf10_0 C o_108 k4_97 dX10_common_43 ?_
  refine G.iconst (v := 0) C dX10_common_46 (by decide) ?_
  refine G.iald (v := (M.1 109 0)) C a_109 (vp_inC (by decide)) rfl dX10_common_47 ?_
  refine G.icmp_ge (tgt := 99) C dX10_common_48 (by decide) (fun hc1 => ?_) (fun hc1 => ?_)
  · replace hf := gIf hf hc1
    refine G.iload (pl := 4) C dX10_common_99 rfl ?_
    refine G.if_ne (tgt := 113) C dX10_common_101 (by decide) (fun hc2 => ?_) (fun hc2 => ?_)
    · replace hf := gIfn hf hc2
      refine G.iload_n (pl := 3) C dX10_common_113 rfl rfl ?_
      cases hf
      exact G.iret C Rt dX10_common_114
    · replace hf := gIf hf hc2
      refine G.aload_n (pl := 0) C dX10_common_104 rfl rfl ?_
      refine G.bipush (v := (-3)) C dX10_common_105 (by decide) ?_
      obtain ⟨v1, M1, hr1, hf⟩ := cl_some hf
      refine G.callV (st1 := [.int v1]) C [.int (-3 : Int32)] [] (c_X10_no hr1) mv_X10_no k5_40 o_108.1 (fun _ => gShp_20 o_108) rfl rfl rfl rfl rfl (Nat.le_of_ble_eq_true rfl) (by decide) dX10_common_107 rfl ?_
      refine G.goto (tgt := 114) C dX10_common_110 (by decide) ?_
      cases hf
      exact G.iret C Rt dX10_common_114
  · replace hf := gIfn hf hc1
    refine G.aload_n (pl := 0) C dX10_common_51 rfl rfl ?_
    refine G.iload (pl := 5) C dX10_common_52 rfl ?_
    obtain ⟨v2, hr2, hf⟩ := cp_some hf
    refine G.callV (st1 := [.int v2]) C [.int x5] [] (c_X10_speaks hr2) mv_X10_speaks k5_20 o_108.1 (fun _ => gShp_20 o_108) rfl rfl rfl rfl rfl (Nat.le_of_ble_eq_true rfl) (by decide) dX10_common_54 rfl ?_
    refine G.if_eq (tgt := 93) C dX10_common_57 (by decide) (fun hc3 => ?_) (fun hc3 => ?_)
    · replace hf := gIf hf hc3
      exact w_X10_common_93 C Rt x1 x2 x3 x4 x5 M h_40 hf
    · replace hf := gIfn hf hc3
      refine G.iload_n (pl := 3) C dX10_common_60 rfl rfl ?_
      refine G.aload_n (pl := 0) C dX10_common_61 rfl rfl ?_
      refine gf10_5 C o_108 k4_102 dX10_common_62 ?_
      refine G.aload_n (pl := 0) C dX10_common_65 rfl rfl ?_
      refine G.iload_n (pl := 1) C dX10_common_66 rfl rfl ?_
      refine G.aload_n (pl := 0) C dX10_common_67 rfl rfl ?_
      refine gf10_8 C o_108 k4_105 dX10_common_68 ?_
      refine G.iload_n (pl := 2) C dX10_common_71 rfl rfl ?_
      obtain ⟨v3, ev1, hi1, hf⟩ := rd_some hf
      refine G.iald C a_117 hi1 ev1 dX10_common_72 ?_
      refine G.aload_n (pl := 0) C dX10_common_73 rfl rfl ?_
      refine gf10_8 C o_108 k4_105 dX10_common_74 ?_
      refine G.bipush (v := 6) C dX10_common_77 (by decide) ?_
      refine G.iload_n (pl := 2) C dX10_common_79 rfl rfl ?_
      refine G.iadd C dX10_common_80 ?_
      obtain ⟨v4, ev2, hi2, hf⟩ := rd_some hf
      refine G.iald C a_117 hi2 ev2 dX10_common_81 ?_
      refine G.iload (pl := 5) C dX10_common_82 rfl ?_
      obtain ⟨v5, hr3, hf⟩ := cp_some hf
      refine G.callV (st1 := [.int v5, .ref (ad 114), .int x3]) C [.int x1, .int v3, .int v4, .int x5] [.ref (ad 114), .int x3] (c_X10_gets hr3) mv_X10_gets k5_56 o_108.1 (fun _ => gShp_20 o_108) rfl rfl rfl rfl rfl (Nat.le_of_ble_eq_true rfl) (by decide) dX10_common_84 rfl ?_
      obtain ⟨v6, ev3, hi3, hf⟩ := rd_some hf
      refine G.iald C a_114 hi3 ev3 dX10_common_87 ?_
      refine G.iand C dX10_common_88 ?_
      refine G.istore_n (lv' := [(3, .int (x3 &&& v6)), (0, .ref (ad 108)), (1, .int x1), (2, .int x2), (4, .int x4), (5, .int x5)]) C dX10_common_89 rfl (by decide) rfl ?_
      refine G.iinc (pl := 4) (v := (x4 + 1)) (lv' := [(4, .int (x4 + 1)), (3, .int (x3 &&& v6)), (0, .ref (ad 108)), (1, .int x1), (2, .int x2), (5, .int x5)]) C dX10_common_90 rfl rfl (by decide) rfl ?_
      refine G.sub (lv' := [(0, .ref (ad 108)), (1, .int x1), (2, .int x2), (3, .int (x3 &&& v6)), (4, .int (x4 + 1)), (5, .int x5)]) [2, 3, 4, 1, 0, 5] rfl ?_
      exact w_X10_common_93 C Rt x1 x2 (x3 &&& v6) (x4 + 1) x5 M h_40 hf
theorem w_X10_common_40 {X : Gc} {ad : Nat → Nat} {res : (Int32 × Mem)} (C : Gk X ad cX10_common "NineTonguesModel" 6 4) (Rt : Gr X ad (some .int) (some (.int res.1)) res.2) (x1 : Int32) (x2 : Int32) : ∀ (n : Nat) (x3 : Int32) (x4 : Int32) (x5 : Int32) (M : Mem), f_X10_common_40 x1 x2 n x3 x4 x5 M = some res → G X ad 40 6 [(0, .ref (ad 108)), (1, .int x1), (2, .int x2), (3, .int x3), (4, .int x4), (5, .int x5)] [] M := by
  intro n
  induction n with
  | zero => intro x3 x4 x5 M hf; exact absurd (show (none : Option (Int32 × Mem)) = some res from hf) (fun h => nomatch h)
  | succ n ih => intro x3 x4 x5 M hf; exact w_X10_common_40_b C Rt x1 x2 ih x3 x4 x5 M hf
set_option maxRecDepth 100000 in
set_option maxHeartbeats 4000000 in
theorem w_X10_common_E {X : Gc} {ad : Nat → Nat} {res : (Int32 × Mem)} (C : Gk X ad cX10_common "NineTonguesModel" 6 4) (Rt : Gr X ad (some .int) (some (.int res.1)) res.2) (x1 : Int32) (x2 : Int32) (M : Mem) (hf : f_X10_common x1 x2 M = some res) : G X ad 0 6 [(0, .ref (ad 108)), (1, .int x1), (2, .int x2)] [] M := by
  unfold f_X10_common at hf
  refine G.iload_n (pl := 1) C dX10_common_0 rfl rfl ?_
  obtain ⟨v1, hr1, hf⟩ := cp_some hf
  refine G.callS (st1 := [.int v1]) C [.int x1] [] (c_X10_isKind hr1) mv_X10_isKind k5_84 rfl rfl rfl (Nat.le_of_ble_eq_true rfl) (by decide) dX10_common_1 rfl ?_
  refine G.if_eq (tgt := 23) C dX10_common_4 (by decide) (fun hc1 => ?_) (fun hc1 => ?_)
  · replace hf := gIf hf hc1
    refine G.sub (lv' := [(0, .ref (ad 108))]) [0] rfl ?_
    exact w_X10_common_23 C Rt M hf
  · replace hf := gIfn hf hc1
    refine G.iload_n (pl := 2) C dX10_common_7 rfl rfl ?_
    refine G.iconst (v := 0) C dX10_common_8 (by decide) ?_
    refine G.aload_n (pl := 0) C dX10_common_9 rfl rfl ?_
    refine gf10_1 C o_108 k4_98 dX10_common_10 ?_
    refine G.iconst (v := 0) C dX10_common_13 (by decide) ?_
    refine G.iald (v := (M.1 110 0)) C a_110 (vp_inC (by decide)) rfl dX10_common_14 ?_
    refine G.iconst (v := 1) C dX10_common_15 (by decide) ?_
    refine G.isub C dX10_common_16 ?_
    obtain ⟨v2, hr2, hf⟩ := cp_some hf
    refine G.callS (st1 := [.int v2]) C [.int x2, .int (0 : Int32), .int ((M.1 110 0) - (1 : Int32))] [] (c_X10_between hr2) mv_X10_between k4_189 rfl rfl rfl (Nat.le_of_ble_eq_true rfl) (by decide) dX10_common_17 rfl ?_
    refine G.if_ne (tgt := 30) C dX10_common_20 (by decide) (fun hc2 => ?_) (fun hc2 => ?_)
    · replace hf := gIfn hf hc2
      refine G.sipush (v := 255) C dX10_common_30 (by decide) ?_
      refine G.istore_n (lv' := [(3, .int (255 : Int32)), (0, .ref (ad 108)), (1, .int x1), (2, .int x2)]) C dX10_common_33 rfl (by decide) rfl ?_
      refine G.iconst (v := 0) C dX10_common_34 (by decide) ?_
      refine G.istore (lv' := [(4, .int (0 : Int32)), (3, .int (255 : Int32)), (0, .ref (ad 108)), (1, .int x1), (2, .int x2)]) C dX10_common_35 (by decide) rfl ?_
      refine G.iconst (v := 0) C dX10_common_37 (by decide) ?_
      refine G.istore (lv' := [(5, .int (0 : Int32)), (4, .int (0 : Int32)), (3, .int (255 : Int32)), (0, .ref (ad 108)), (1, .int x1), (2, .int x2)]) C dX10_common_38 (by decide) rfl ?_
      refine G.sub (lv' := [(0, .ref (ad 108)), (1, .int x1), (2, .int x2), (3, .int (255 : Int32)), (4, .int (0 : Int32)), (5, .int (0 : Int32))]) [3, 4, 5, 2, 1, 0] rfl ?_
      exact w_X10_common_40 C Rt x1 x2 FU (255 : Int32) (0 : Int32) (0 : Int32) M hf
    · replace hf := gIf hf hc2
      refine G.sub (lv' := [(0, .ref (ad 108))]) [0] rfl ?_
      exact w_X10_common_23 C Rt M hf
theorem mv_X10_common : gMV yX10_common cX10_common 6 (some .int) 2 := ⟨k5_112, k5_113, k1_12, k5_114, ⟨by decide +kernel, by decide +kernel, by decide +kernel⟩, by decide⟩
theorem c_X10_common {res : (Int32 × Mem)} {x1 : Int32} {x2 : Int32} {M : Mem} (hf : f_X10_common x1 x2 M = some res) : Ct yX10_common cX10_common 6 (some .int) 4 (fun ad => [.ref (ad 108), .int x1, .int x2]) M (some (.int res.1)) res.2 :=
  Ct.of (by decide +kernel) (fun _ => Nat.le_of_ble_eq_true rfl) (fun X ad C Rt => w_X10_common_E C Rt x1 x2 M hf)
set_option maxRecDepth 100000 in
set_option maxHeartbeats 4000000 in
theorem w_X10_isBorne_80 {X : Gc} {ad : Nat → Nat} {res : Int32} {M : Mem} {r_6 : Int32 → Int32 → Option Int32} (C : Gk X ad cX10_isBorne "NineTonguesModel" 7 4) (Rt : Gr X ad (some .boolean) (some (.int res)) M) (x1 : Int32) (x2 : Int32) (x3 : Int32) (x4 : Int32) (x5 : Int32) (h_6 : ∀ (x4 : Int32) (x5 : Int32), r_6 x4 x5 = some res → G X ad 6 7 [(0, .ref (ad 108)), (1, .int x1), (2, .int x2), (3, .int x3), (4, .int x4), (5, .int x5)] [] M) (hf : f_X10_isBorne_80 M r_6 x1 x2 x3 x4 x5 = some res) : G X ad 80 7 [(0, .ref (ad 108)), (1, .int x1), (2, .int x2), (3, .int x3), (4, .int x4), (5, .int x5)] [] M := by
  unfold f_X10_isBorne_80 at hf
  refine G.iinc (pl := 5) (v := (x5 + 1)) (lv' := [(5, .int (x5 + 1)), (0, .ref (ad 108)), (1, .int x1), (2, .int x2), (3, .int x3), (4, .int x4)]) C dX10_isBorne_80 rfl rfl (by decide) rfl ?_
  refine G.goto (tgt := 6) C dX10_isBorne_83 (by decide) ?_
  refine G.sub (lv' := [(0, .ref (ad 108)), (1, .int x1), (2, .int x2), (3, .int x3), (4, .int x4), (5, .int (x5 + 1))]) [1, 2, 3, 4, 5, 0] rfl ?_
  exact h_6 x4 (x5 + 1)  hf
set_option maxRecDepth 100000 in
set_option maxHeartbeats 4000000 in
theorem w_X10_isBorne_78 {X : Gc} {ad : Nat → Nat} {res : Int32} {M : Mem} {r_6 : Int32 → Int32 → Option Int32} (C : Gk X ad cX10_isBorne "NineTonguesModel" 7 4) (Rt : Gr X ad (some .boolean) (some (.int res)) M) (x1 : Int32) (x2 : Int32) (x3 : Int32) (x5 : Int32) (t0 : Int32) (h_6 : ∀ (x4 : Int32) (x5 : Int32), r_6 x4 x5 = some res → G X ad 6 7 [(0, .ref (ad 108)), (1, .int x1), (2, .int x2), (3, .int x3), (4, .int x4), (5, .int x5)] [] M) (hf : f_X10_isBorne_78 M r_6 x1 x2 x3 x5 t0 = some res) : G X ad 78 7 [(0, .ref (ad 108)), (1, .int x1), (2, .int x2), (3, .int x3), (5, .int x5)] [.int t0] M := by
  unfold f_X10_isBorne_78 at hf
  refine G.istore (lv' := [(4, .int t0), (0, .ref (ad 108)), (1, .int x1), (2, .int x2), (3, .int x3), (5, .int x5)]) C dX10_isBorne_78 (by decide) rfl ?_
  refine G.sub (lv' := [(0, .ref (ad 108)), (1, .int x1), (2, .int x2), (3, .int x3), (4, .int t0), (5, .int x5)]) [1, 2, 3, 4, 0, 5] rfl ?_
  exact w_X10_isBorne_80 C Rt x1 x2 x3 t0 x5 h_6 hf
set_option maxRecDepth 100000 in
set_option maxHeartbeats 4000000 in
theorem w_X10_isBorne_77 {X : Gc} {ad : Nat → Nat} {res : Int32} {M : Mem} {r_6 : Int32 → Int32 → Option Int32} (C : Gk X ad cX10_isBorne "NineTonguesModel" 7 4) (Rt : Gr X ad (some .boolean) (some (.int res)) M) (x1 : Int32) (x2 : Int32) (x3 : Int32) (x5 : Int32) (h_6 : ∀ (x4 : Int32) (x5 : Int32), r_6 x4 x5 = some res → G X ad 6 7 [(0, .ref (ad 108)), (1, .int x1), (2, .int x2), (3, .int x3), (4, .int x4), (5, .int x5)] [] M) (hf : f_X10_isBorne_77 M r_6 x1 x2 x3 x5 = some res) : G X ad 77 7 [(0, .ref (ad 108)), (1, .int x1), (2, .int x2), (3, .int x3), (5, .int x5)] [] M := by
  unfold f_X10_isBorne_77 at hf
  refine G.iconst (v := 0) C dX10_isBorne_77 (by decide) ?_
  exact w_X10_isBorne_78 C Rt x1 x2 x3 x5 (0 : Int32) h_6 hf
set_option maxRecDepth 100000 in
set_option maxHeartbeats 4000000 in
theorem w_X10_isBorne_6_b {X : Gc} {ad : Nat → Nat} {res : Int32} {M : Mem} {r_6 : Int32 → Int32 → Option Int32} (C : Gk X ad cX10_isBorne "NineTonguesModel" 7 4) (Rt : Gr X ad (some .boolean) (some (.int res)) M) (x1 : Int32) (x2 : Int32) (x3 : Int32) (h_6 : ∀ (x4 : Int32) (x5 : Int32), r_6 x4 x5 = some res → G X ad 6 7 [(0, .ref (ad 108)), (1, .int x1), (2, .int x2), (3, .int x3), (4, .int x4), (5, .int x5)] [] M) (x4 : Int32) (x5 : Int32) (hf : f_X10_isBorne_6_b M r_6 x1 x2 x3 x4 x5 = some res) : G X ad 6 7 [(0, .ref (ad 108)), (1, .int x1), (2, .int x2), (3, .int x3), (4, .int x4), (5, .int x5)] [] M := by
  unfold f_X10_isBorne_6_b at hf
  refine G.iload (pl := 5) C dX10_isBorne_6 rfl ?_
  refine G.aload_n (pl := 0) C dX10_isBorne_8 rfl rfl ?_
  refine gf10_0 C o_108 k4_97 dX10_isBorne_9 ?_
  refine G.iconst (v := 0) C dX10_isBorne_12 (by decide) ?_
  refine G.iald (v := (M.1 109 0)) C a_109 (vp_inC (by decide)) rfl dX10_isBorne_13 ?_
  refine G.icmp_ge (tgt := 86) C dX10_isBorne_14 (by decide) (fun hc1 => ?_) (fun hc1 => ?_)
  · replace hf := gIf hf hc1
    refine G.iload (pl := 4) C dX10_isBorne_86 rfl ?_
    obtain ⟨hz, hf⟩ := rz_some hf
    cases hf
    exact G.zret C hz Rt dX10_isBorne_88
  · replace hf := gIfn hf hc1
    refine G.aload_n (pl := 0) C dX10_isBorne_17 rfl rfl ?_
    refine G.iload (pl := 5) C dX10_isBorne_18 rfl ?_
    obtain ⟨v1, hr1, hf⟩ := cp_some hf
    refine G.callV (st1 := [.int v1]) C [.int x5] [] (c_X10_speaks hr1) mv_X10_speaks k5_20 o_108.1 (fun _ => gShp_20 o_108) rfl rfl rfl rfl rfl (Nat.le_of_ble_eq_true rfl) (by decide) dX10_isBorne_20 rfl ?_
    refine G.if_eq (tgt := 80) C dX10_isBorne_23 (by decide) (fun hc2 => ?_) (fun hc2 => ?_)
    · replace hf := gIf hf hc2
      exact w_X10_isBorne_80 C Rt x1 x2 x3 x4 x5 h_6 hf
    · replace hf := gIfn hf hc2
      refine G.aload_n (pl := 0) C dX10_isBorne_26 rfl rfl ?_
      refine G.iload_n (pl := 1) C dX10_isBorne_27 rfl rfl ?_
      refine G.iload_n (pl := 3) C dX10_isBorne_28 rfl rfl ?_
      refine G.iconst (v := (-1)) C dX10_isBorne_29 (by decide) ?_
      refine G.iload (pl := 5) C dX10_isBorne_30 rfl ?_
      obtain ⟨v2, hr2, hf⟩ := cp_some hf
      refine G.callV (st1 := [.int v2]) C [.int x1, .int x3, .int (-1 : Int32), .int x5] [] (c_X10_gets hr2) mv_X10_gets k5_56 o_108.1 (fun _ => gShp_20 o_108) rfl rfl rfl rfl rfl (Nat.le_of_ble_eq_true rfl) (by decide) dX10_isBorne_32 rfl ?_
      refine G.istore (lv' := [(6, .int v2), (0, .ref (ad 108)), (1, .int x1), (2, .int x2), (3, .int x3), (4, .int x4), (5, .int x5)]) C dX10_isBorne_35 (by decide) rfl ?_
      refine G.iload (pl := 5) C dX10_isBorne_37 rfl ?_
      refine G.if_eq (tgt := 77) C dX10_isBorne_39 (by decide) (fun hc3 => ?_) (fun hc3 => ?_)
      · replace hf := gIf hf hc3
        refine G.sub (lv' := [(0, .ref (ad 108)), (1, .int x1), (2, .int x2), (3, .int x3), (5, .int x5)]) [1, 2, 3, 4, 6] rfl ?_
        exact w_X10_isBorne_77 C Rt x1 x2 x3 x5 h_6 hf
      · replace hf := gIfn hf hc3
        refine G.aload_n (pl := 1) C dX10_isBorne_42 rfl rfl ?_
        refine gf10_5 C o_108 k4_102 dX10_isBorne_43 ?_
        refine G.aload_n (pl := 1) C dX10_isBorne_46 rfl rfl ?_
        refine G.iload_n (pl := 2) C dX10_isBorne_47 rfl rfl ?_
        refine G.aload_n (pl := 1) C dX10_isBorne_48 rfl rfl ?_
        refine gf10_5 C o_108 k4_102 dX10_isBorne_49 ?_
        refine G.iload (pl := 0) C dX10_isBorne_52 rfl ?_
        obtain ⟨v3, ev1, hi1, hf⟩ := rd_some hf
        refine G.iald C a_114 hi1 ev1 dX10_isBorne_54 ?_
        refine G.aload_n (pl := 1) C dX10_isBorne_55 rfl rfl ?_
        refine gf10_5 C o_108 k4_102 dX10_isBorne_56 ?_
        refine G.iload (pl := 0) C dX10_isBorne_59 rfl ?_
        refine G.iconst (v := 1) C dX10_isBorne_61 (by decide) ?_
        refine G.iadd C dX10_isBorne_62 ?_
        obtain ⟨v4, ev2, hi2, hf⟩ := rd_some hf
        refine G.iald C a_114 hi2 ev2 dX10_isBorne_63 ?_
        refine G.iload_n (pl := 3) C dX10_isBorne_64 rfl rfl ?_
        obtain ⟨v5, hr3, hf⟩ := cp_some hf
        refine G.callV (st1 := [.int v5, .ref (ad 114)]) C [.int x1, .int v3, .int v4, .int x2] [.ref (ad 114)] (c_X10_gets hr3) mv_X10_gets k5_56 o_108.1 (fun _ => gShp_20 o_108) rfl rfl rfl rfl rfl (Nat.le_of_ble_eq_true rfl) (by decide) dX10_isBorne_65 rfl ?_
        obtain ⟨v6, ev3, hi3, hf⟩ := rd_some hf
        refine G.iald C a_114 hi3 ev3 dX10_isBorne_68 ?_
        refine G.iload_n (pl := 4) C dX10_isBorne_69 rfl rfl ?_
        refine G.icmp_ne (tgt := 77) C dX10_isBorne_70 (by decide) (fun hc4 => ?_) (fun hc4 => ?_)
        · replace hf := gIfn hf hc4
          refine G.sub (lv' := [(0, .ref (ad 108)), (1, .int x1), (2, .int x2), (3, .int x3), (5, .int x5)]) [1, 2, 3, 4, 6] rfl ?_
          exact w_X10_isBorne_77 C Rt x1 x2 x3 x5 h_6 hf
        · replace hf := gIf hf hc4
          refine G.iconst (v := 1) C dX10_isBorne_73 (by decide) ?_
          refine G.goto (tgt := 78) C dX10_isBorne_74 (by decide) ?_
          refine G.sub (lv' := [(0, .ref (ad 108)), (1, .int x1), (2, .int x2), (3, .int x3), (5, .int x5)]) [1, 2, 3, 4, 6] rfl ?_
          exact w_X10_isBorne_78 C Rt x1 x2 x3 x5 (1 : Int32) h_6 hf
theorem w_X10_isBorne_6 {X : Gc} {ad : Nat → Nat} {res : Int32} {M : Mem} (C : Gk X ad cX10_isBorne "NineTonguesModel" 7 4) (Rt : Gr X ad (some .boolean) (some (.int res)) M) (x1 : Int32) (x2 : Int32) (x3 : Int32) : ∀ (n : Nat) (x4 : Int32) (x5 : Int32), f_X10_isBorne_6 M x1 x2 x3 n x4 x5 = some res → G X ad 6 7 [(0, .ref (ad 108)), (1, .int x1), (2, .int x2), (3, .int x3), (4, .int x4), (5, .int x5)] [] M := by
  intro n
  induction n with
  | zero => intro x4 x5 hf; exact absurd (show (none : Option Int32) = some res from hf) (fun h => nomatch h)
  | succ n ih => intro x4 x5 hf; exact w_X10_isBorne_6_b C Rt x1 x2 x3 ih x4 x5 hf
set_option maxRecDepth 100000 in
set_option maxHeartbeats 4000000 in
theorem w_X10_isBorne_E {X : Gc} {ad : Nat → Nat} {res : Int32} {M : Mem} (C : Gk X ad cX10_isBorne "NineTonguesModel" 7 4) (Rt : Gr X ad (some .boolean) (some (.int res)) M) (x1 : Int32) (x2 : Int32) (x3 : Int32) (hf : f_X10_isBorne x1 x2 x3 M = some res) : G X ad 0 7 [(0, .ref (ad 108)), (1, .int x1), (2, .int x2), (3, .int x3)] [] M := by
  unfold f_X10_isBorne at hf
  refine G.iconst (v := 1) C dX10_isBorne_0 (by decide) ?_
  refine G.istore (lv' := [(4, .int (1 : Int32)), (0, .ref (ad 108)), (1, .int x1), (2, .int x2), (3, .int x3)]) C dX10_isBorne_1 (by decide) rfl ?_
  refine G.iconst (v := 0) C dX10_isBorne_3 (by decide) ?_
  refine G.istore (lv' := [(5, .int (0 : Int32)), (4, .int (1 : Int32)), (0, .ref (ad 108)), (1, .int x1), (2, .int x2), (3, .int x3)]) C dX10_isBorne_4 (by decide) rfl ?_
  refine G.sub (lv' := [(0, .ref (ad 108)), (1, .int x1), (2, .int x2), (3, .int x3), (4, .int (1 : Int32)), (5, .int (0 : Int32))]) [2, 3, 4, 5, 1, 0] rfl ?_
  exact w_X10_isBorne_6 C Rt x1 x2 x3 FU (1 : Int32) (0 : Int32) hf
theorem mv_X10_isBorne : gMV yX10_isBorne cX10_isBorne 7 (some .boolean) 3 := ⟨k5_125, kS_46, k1_12, k5_126, ⟨by decide +kernel, by decide +kernel, by decide +kernel⟩, by decide⟩
theorem c_X10_isBorne {res : Int32} {x1 : Int32} {x2 : Int32} {x3 : Int32} {M : Mem} (hf : f_X10_isBorne x1 x2 x3 M = some res) : Ct yX10_isBorne cX10_isBorne 7 (some .boolean) 4 (fun ad => [.ref (ad 108), .int x1, .int x2, .int x3]) M (some (.int res)) M :=
  Ct.of (by decide +kernel) (fun _ => Nat.le_of_ble_eq_true rfl) (fun X ad C Rt => w_X10_isBorne_E C Rt x1 x2 x3 hf)
set_option maxRecDepth 100000 in
set_option maxHeartbeats 4000000 in
theorem w_X10_borne_37 {X : Gc} {ad : Nat → Nat} {res : Int32} {M : Mem} {r_6 : Int32 → Int32 → Option Int32} (C : Gk X ad cX10_borne "NineTonguesModel" 6 5) (Rt : Gr X ad (some .int) (some (.int res)) M) (x1 : Int32) (x2 : Int32) (x3 : Int32) (x4 : Int32) (x5 : Int32) (h_6 : ∀ (x4 : Int32) (x5 : Int32), r_6 x4 x5 = some res → G X ad 6 6 [(0, .ref (ad 108)), (1, .int x1), (2, .int x2), (3, .int x3), (4, .int x4), (5, .int x5)] [] M) (hf : f_X10_borne_37 M r_6 x1 x2 x3 x4 x5 = some res) : G X ad 37 6 [(0, .ref (ad 108)), (1, .int x1), (2, .int x2), (3, .int x3), (4, .int x4), (5, .int x5)] [] M := by
  unfold f_X10_borne_37 at hf
  refine G.iinc (pl := 5) (v := (x5 + 1)) (lv' := [(5, .int (x5 + 1)), (0, .ref (ad 108)), (1, .int x1), (2, .int x2), (3, .int x3), (4, .int x4)]) C dX10_borne_37 rfl rfl (by decide) rfl ?_
  refine G.goto (tgt := 6) C dX10_borne_40 (by decide) ?_
  refine G.sub (lv' := [(0, .ref (ad 108)), (1, .int x1), (2, .int x2), (3, .int x3), (4, .int x4), (5, .int (x5 + 1))]) [1, 2, 3, 4, 5, 0] rfl ?_
  exact h_6 x4 (x5 + 1)  hf
set_option maxRecDepth 100000 in
set_option maxHeartbeats 4000000 in
theorem w_X10_borne_6_b {X : Gc} {ad : Nat → Nat} {res : Int32} {M : Mem} {r_6 : Int32 → Int32 → Option Int32} (C : Gk X ad cX10_borne "NineTonguesModel" 6 5) (Rt : Gr X ad (some .int) (some (.int res)) M) (x1 : Int32) (x2 : Int32) (x3 : Int32) (h_6 : ∀ (x4 : Int32) (x5 : Int32), r_6 x4 x5 = some res → G X ad 6 6 [(0, .ref (ad 108)), (1, .int x1), (2, .int x2), (3, .int x3), (4, .int x4), (5, .int x5)] [] M) (x4 : Int32) (x5 : Int32) (hf : f_X10_borne_6_b M r_6 x1 x2 x3 x4 x5 = some res) : G X ad 6 6 [(0, .ref (ad 108)), (1, .int x1), (2, .int x2), (3, .int x3), (4, .int x4), (5, .int x5)] [] M := by
  unfold f_X10_borne_6_b at hf
  refine G.iload (pl := 5) C dX10_borne_6 rfl ?_
  refine G.sipush (v := 256) C dX10_borne_8 (by decide) ?_
  refine G.icmp_ge (tgt := 43) C dX10_borne_11 (by decide) (fun hc1 => ?_) (fun hc1 => ?_)
  · replace hf := gIf hf hc1
    refine G.iload_n (pl := 3) C dX10_borne_43 rfl rfl ?_
    refine G.if_ge (tgt := 52) C dX10_borne_44 (by decide) (fun hc2 => ?_) (fun hc2 => ?_)
    · replace hf := gIf hf hc2
      refine G.bipush (v := (-5)) C dX10_borne_52 (by decide) ?_
      cases hf
      exact G.iret C Rt dX10_borne_54
    · replace hf := gIfn hf hc2
      refine G.iload (pl := 4) C dX10_borne_47 rfl ?_
      refine G.goto (tgt := 54) C dX10_borne_49 (by decide) ?_
      cases hf
      exact G.iret C Rt dX10_borne_54
  · replace hf := gIfn hf hc1
    refine G.aload_n (pl := 0) C dX10_borne_14 rfl rfl ?_
    refine G.iload_n (pl := 1) C dX10_borne_15 rfl rfl ?_
    refine G.iload_n (pl := 2) C dX10_borne_16 rfl rfl ?_
    refine G.iload (pl := 5) C dX10_borne_17 rfl ?_
    obtain ⟨v1, hr1, hf⟩ := cp_some hf
    refine G.callV (st1 := [.int v1]) C [.int x1, .int x2, .int x5] [] (c_X10_isBorne hr1) mv_X10_isBorne k5_123 o_108.1 (fun _ => gShp_20 o_108) rfl rfl rfl rfl rfl (Nat.le_of_ble_eq_true rfl) (by decide) dX10_borne_19 rfl ?_
    refine G.if_eq (tgt := 37) C dX10_borne_22 (by decide) (fun hc3 => ?_) (fun hc3 => ?_)
    · replace hf := gIf hf hc3
      exact w_X10_borne_37 C Rt x1 x2 x3 x4 x5 h_6 hf
    · replace hf := gIfn hf hc3
      refine G.iload (pl := 4) C dX10_borne_25 rfl ?_
      refine G.iload_n (pl := 3) C dX10_borne_27 rfl rfl ?_
      refine G.icmp_ne (tgt := 34) C dX10_borne_28 (by decide) (fun hc4 => ?_) (fun hc4 => ?_)
      · replace hf := gIfn hf hc4
        refine G.iinc (pl := 4) (v := (x4 + 1)) (lv' := [(4, .int (x4 + 1)), (0, .ref (ad 108)), (1, .int x1), (2, .int x2), (3, .int x3), (5, .int x5)]) C dX10_borne_34 rfl rfl (by decide) rfl ?_
        refine G.sub (lv' := [(0, .ref (ad 108)), (1, .int x1), (2, .int x2), (3, .int x3), (4, .int (x4 + 1)), (5, .int x5)]) [1, 2, 3, 4, 0, 5] rfl ?_
        exact w_X10_borne_37 C Rt x1 x2 x3 (x4 + 1) x5 h_6 hf
      · replace hf := gIf hf hc4
        refine G.iload (pl := 5) C dX10_borne_31 rfl ?_
        cases hf
        exact G.iret C Rt dX10_borne_33
theorem w_X10_borne_6 {X : Gc} {ad : Nat → Nat} {res : Int32} {M : Mem} (C : Gk X ad cX10_borne "NineTonguesModel" 6 5) (Rt : Gr X ad (some .int) (some (.int res)) M) (x1 : Int32) (x2 : Int32) (x3 : Int32) : ∀ (n : Nat) (x4 : Int32) (x5 : Int32), f_X10_borne_6 M x1 x2 x3 n x4 x5 = some res → G X ad 6 6 [(0, .ref (ad 108)), (1, .int x1), (2, .int x2), (3, .int x3), (4, .int x4), (5, .int x5)] [] M := by
  intro n
  induction n with
  | zero => intro x4 x5 hf; exact absurd (show (none : Option Int32) = some res from hf) (fun h => nomatch h)
  | succ n ih => intro x4 x5 hf; exact w_X10_borne_6_b C Rt x1 x2 x3 ih x4 x5 hf
set_option maxRecDepth 100000 in
set_option maxHeartbeats 4000000 in
theorem w_X10_borne_E {X : Gc} {ad : Nat → Nat} {res : Int32} {M : Mem} (C : Gk X ad cX10_borne "NineTonguesModel" 6 5) (Rt : Gr X ad (some .int) (some (.int res)) M) (x1 : Int32) (x2 : Int32) (x3 : Int32) (hf : f_X10_borne x1 x2 x3 M = some res) : G X ad 0 6 [(0, .ref (ad 108)), (1, .int x1), (2, .int x2), (3, .int x3)] [] M := by
  unfold f_X10_borne at hf
  refine G.iconst (v := 0) C dX10_borne_0 (by decide) ?_
  refine G.istore (lv' := [(4, .int (0 : Int32)), (0, .ref (ad 108)), (1, .int x1), (2, .int x2), (3, .int x3)]) C dX10_borne_1 (by decide) rfl ?_
  refine G.iconst (v := 1) C dX10_borne_3 (by decide) ?_
  refine G.istore (lv' := [(5, .int (1 : Int32)), (4, .int (0 : Int32)), (0, .ref (ad 108)), (1, .int x1), (2, .int x2), (3, .int x3)]) C dX10_borne_4 (by decide) rfl ?_
  refine G.sub (lv' := [(0, .ref (ad 108)), (1, .int x1), (2, .int x2), (3, .int x3), (4, .int (0 : Int32)), (5, .int (1 : Int32))]) [2, 3, 4, 5, 1, 0] rfl ?_
  exact w_X10_borne_6 C Rt x1 x2 x3 FU (0 : Int32) (1 : Int32) hf
theorem mv_X10_borne : gMV yX10_borne cX10_borne 6 (some .int) 3 := ⟨k5_121, kS_45, k1_12, k5_122, ⟨by decide +kernel, by decide +kernel, by decide +kernel⟩, by decide⟩
theorem c_X10_borne {res : Int32} {x1 : Int32} {x2 : Int32} {x3 : Int32} {M : Mem} (hf : f_X10_borne x1 x2 x3 M = some res) : Ct yX10_borne cX10_borne 6 (some .int) 5 (fun ad => [.ref (ad 108), .int x1, .int x2, .int x3]) M (some (.int res)) M :=
  Ct.of (by decide +kernel) (fun _ => Nat.le_of_ble_eq_true rfl) (fun X ad C Rt => w_X10_borne_E C Rt x1 x2 x3 hf)
set_option maxRecDepth 100000 in
set_option maxHeartbeats 4000000 in
theorem w_X10_bears_20 {X : Gc} {ad : Nat → Nat} {res : (Int32 × Mem)} (C : Gk X ad cX10_bears "NineTonguesModel" 4 6) (Rt : Gr X ad (some .int) (some (.int res.1)) res.2) (M : Mem) (hf : f_X10_bears_20 M = some res) : G X ad 20 4 [(0, .ref (ad 108))] [] M := by
  unfold f_X10_bears_20 at hf
  refine G.aload_n (pl := 0) C dX10_bears_20 rfl rfl ?_
  refine G.bipush (v := (-10)) C dX10_bears_21 (by decide) ?_
  obtain ⟨v1, M1, hr1, hf⟩ := cl_some hf
  refine G.callV (st1 := [.int v1]) C [.int (-10 : Int32)] [] (c_X10_bad hr1) mv_X10_bad k4_192 o_108.1 (fun _ => gShp_20 o_108) rfl rfl rfl rfl rfl (Nat.le_of_ble_eq_true rfl) (by decide) dX10_bears_23 rfl ?_
  cases hf
  exact G.iret C Rt dX10_bears_26
set_option maxRecDepth 100000 in
set_option maxHeartbeats 4000000 in
theorem w_X10_bears_E {X : Gc} {ad : Nat → Nat} {res : (Int32 × Mem)} (C : Gk X ad cX10_bears "NineTonguesModel" 4 6) (Rt : Gr X ad (some .int) (some (.int res.1)) res.2) (x1 : Int32) (x2 : Int32) (x3 : Int32) (M : Mem) (hf : f_X10_bears x1 x2 x3 M = some res) : G X ad 0 4 [(0, .ref (ad 108)), (1, .int x1), (2, .int x2), (3, .int x3)] [] M := by
  unfold f_X10_bears at hf
  refine G.iload_n (pl := 1) C dX10_bears_0 rfl rfl ?_
  obtain ⟨v1, hr1, hf⟩ := cp_some hf
  refine G.callS (st1 := [.int v1]) C [.int x1] [] (c_X10_isKind hr1) mv_X10_isKind k5_84 rfl rfl rfl (Nat.le_of_ble_eq_true rfl) (by decide) dX10_bears_1 rfl ?_
  refine G.if_eq (tgt := 20) C dX10_bears_4 (by decide) (fun hc1 => ?_) (fun hc1 => ?_)
  · replace hf := gIf hf hc1
    refine G.sub (lv' := [(0, .ref (ad 108))]) [0] rfl ?_
    exact w_X10_bears_20 C Rt M hf
  · replace hf := gIfn hf hc1
    refine G.aload_n (pl := 0) C dX10_bears_7 rfl rfl ?_
    refine G.iload_n (pl := 2) C dX10_bears_8 rfl rfl ?_
    obtain ⟨v2, hr2, hf⟩ := cp_some hf
    refine G.callV (st1 := [.int v2]) C [.int x2] [] (c_X10_isTongue hr2) mv_X10_isTongue k4_204 o_108.1 (fun _ => gShp_20 o_108) rfl rfl rfl rfl rfl (Nat.le_of_ble_eq_true rfl) (by decide) dX10_bears_9 rfl ?_
    refine G.if_eq (tgt := 20) C dX10_bears_12 (by decide) (fun hc2 => ?_) (fun hc2 => ?_)
    · replace hf := gIf hf hc2
      refine G.sub (lv' := [(0, .ref (ad 108))]) [0] rfl ?_
      exact w_X10_bears_20 C Rt M hf
    · replace hf := gIfn hf hc2
      refine G.iload_n (pl := 3) C dX10_bears_15 rfl rfl ?_
      refine G.iconst (v := (-1)) C dX10_bears_16 (by decide) ?_
      refine G.icmp_ge (tgt := 27) C dX10_bears_17 (by decide) (fun hc3 => ?_) (fun hc3 => ?_)
      · replace hf := gIf hf hc3
        refine G.aload_n (pl := 0) C dX10_bears_27 rfl rfl ?_
        refine G.iload_n (pl := 2) C dX10_bears_28 rfl rfl ?_
        obtain ⟨v3, hr3, hf⟩ := cp_some hf
        refine G.callV (st1 := [.int v3]) C [.int x2] [] (c_X10_speaks hr3) mv_X10_speaks k5_20 o_108.1 (fun _ => gShp_20 o_108) rfl rfl rfl rfl rfl (Nat.le_of_ble_eq_true rfl) (by decide) dX10_bears_29 rfl ?_
        refine G.if_eq (tgt := 45) C dX10_bears_32 (by decide) (fun hc4 => ?_) (fun hc4 => ?_)
        · replace hf := gIf hf hc4
          refine G.aload_n (pl := 0) C dX10_bears_45 rfl rfl ?_
          refine G.bipush (v := (-20)) C dX10_bears_46 (by decide) ?_
          obtain ⟨v4, M1, hr4, hf⟩ := cl_some hf
          refine G.callV (st1 := [.int v4]) C [.int (-20 : Int32)] [] (c_X10_no hr4) mv_X10_no k5_40 o_108.1 (fun _ => gShp_20 o_108) rfl rfl rfl rfl rfl (Nat.le_of_ble_eq_true rfl) (by decide) dX10_bears_48 rfl ?_
          cases hf
          exact G.iret C Rt dX10_bears_51
        · replace hf := gIfn hf hc4
          refine G.aload_n (pl := 0) C dX10_bears_35 rfl rfl ?_
          refine G.iload_n (pl := 1) C dX10_bears_36 rfl rfl ?_
          refine G.iload_n (pl := 2) C dX10_bears_37 rfl rfl ?_
          refine G.iload_n (pl := 3) C dX10_bears_38 rfl rfl ?_
          obtain ⟨v5, hr5, hf⟩ := cp_some hf
          refine G.callV (st1 := [.int v5]) C [.int x1, .int x2, .int x3] [] (c_X10_borne hr5) mv_X10_borne k5_119 o_108.1 (fun _ => gShp_20 o_108) rfl rfl rfl rfl rfl (Nat.le_of_ble_eq_true rfl) (by decide) dX10_bears_39 rfl ?_
          refine G.goto (tgt := 51) C dX10_bears_42 (by decide) ?_
          cases hf
          exact G.iret C Rt dX10_bears_51
      · replace hf := gIfn hf hc3
        refine G.sub (lv' := [(0, .ref (ad 108))]) [0] rfl ?_
        exact w_X10_bears_20 C Rt M hf
theorem mv_X10_bears : gMV yX10_bears cX10_bears 4 (some .int) 3 := ⟨k5_116, k5_117, k1_12, k5_118, ⟨by decide +kernel, by decide +kernel, by decide +kernel⟩, by decide⟩
theorem c_X10_bears {res : (Int32 × Mem)} {x1 : Int32} {x2 : Int32} {x3 : Int32} {M : Mem} (hf : f_X10_bears x1 x2 x3 M = some res) : Ct yX10_bears cX10_bears 4 (some .int) 6 (fun ad => [.ref (ad 108), .int x1, .int x2, .int x3]) M (some (.int res.1)) res.2 :=
  Ct.of (by decide +kernel) (fun _ => Nat.le_of_ble_eq_true rfl) (fun X ad C Rt => w_X10_bears_E C Rt x1 x2 x3 M hf)
