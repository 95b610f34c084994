set_option maxRecDepth 100000 in
set_option maxHeartbeats 4000000 in
theorem w_X10_tells_108 {X : Gc} {ad : Nat → Nat} {res : Int32} {M : Mem} {r_13 : Int32 → Int32 → Option Int32} (C : Gk X ad cX10_tells "NineTonguesModel" 7 4) (Rt : Gr X ad (some .boolean) (some (.int res)) M) (x1 : Int32) (x3 : Int32) (x4 : Int32) (t0 : Int32) (h_13 : ∀ (x2 : Int32) (x4 : Int32), r_13 x2 x4 = some res → G X ad 13 7 [(0, .ref (ad 108)), (1, .int x1), (2, .int x2), (3, .int x3), (4, .int x4)] [] M) (hf : f_X10_tells_108 M r_13 x1 x3 x4 t0 = some res) : G X ad 108 7 [(0, .ref (ad 108)), (1, .int x1), (3, .int x3), (4, .int x4)] [.int t0] M := by
  unfold f_X10_tells_108 at hf
  refine G.istore_n (lv' := [(2, .int t0), (0, .ref (ad 108)), (1, .int x1), (3, .int x3), (4, .int x4)]) C dX10_tells_108 rfl (by decide) rfl ?_
  refine G.iinc (pl := 4) (v := (x4 + 1)) (lv' := [(4, .int (x4 + 1)), (2, .int t0), (0, .ref (ad 108)), (1, .int x1), (3, .int x3)]) C dX10_tells_109 rfl rfl (by decide) rfl ?_
  refine G.goto (tgt := 13) C dX10_tells_112 (by decide) ?_
  refine G.sub (lv' := [(0, .ref (ad 108)), (1, .int x1), (2, .int t0), (3, .int x3), (4, .int (x4 + 1))]) [2, 3, 1, 4, 0] rfl ?_
  exact h_13 t0 (x4 + 1)  hf
set_option maxRecDepth 100000 in
set_option maxHeartbeats 4000000 in
theorem w_X10_tells_107 {X : Gc} {ad : Nat → Nat} {res : Int32} {M : Mem} {r_13 : Int32 → Int32 → Option Int32} (C : Gk X ad cX10_tells "NineTonguesModel" 7 4) (Rt : Gr X ad (some .boolean) (some (.int res)) M) (x1 : Int32) (x3 : Int32) (x4 : Int32) (h_13 : ∀ (x2 : Int32) (x4 : Int32), r_13 x2 x4 = some res → G X ad 13 7 [(0, .ref (ad 108)), (1, .int x1), (2, .int x2), (3, .int x3), (4, .int x4)] [] M) (hf : f_X10_tells_107 M r_13 x1 x3 x4 = some res) : G X ad 107 7 [(0, .ref (ad 108)), (1, .int x1), (3, .int x3), (4, .int x4)] [] M := by
  unfold f_X10_tells_107 at hf
  refine G.iconst (v := 0) C dX10_tells_107 (by decide) ?_
  exact w_X10_tells_108 C Rt x1 x3 x4 (0 : Int32) h_13 hf
set_option maxRecDepth 100000 in
set_option maxHeartbeats 4000000 in
theorem w_X10_tells_103 {X : Gc} {ad : Nat → Nat} {res : Int32} {M : Mem} {r_13 : Int32 → Int32 → Option Int32} (C : Gk X ad cX10_tells "NineTonguesModel" 7 4) (Rt : Gr X ad (some .boolean) (some (.int res)) M) (x1 : Int32) (x3 : Int32) (x4 : Int32) (h_13 : ∀ (x2 : Int32) (x4 : Int32), r_13 x2 x4 = some res → G X ad 13 7 [(0, .ref (ad 108)), (1, .int x1), (2, .int x2), (3, .int x3), (4, .int x4)] [] M) (hf : f_X10_tells_103 M r_13 x1 x3 x4 = some res) : G X ad 103 7 [(0, .ref (ad 108)), (1, .int x1), (3, .int x3), (4, .int x4)] [] M := by
  unfold f_X10_tells_103 at hf
  refine G.iconst (v := 1) C dX10_tells_103 (by decide) ?_
  refine G.goto (tgt := 108) C dX10_tells_104 (by decide) ?_
  exact w_X10_tells_108 C Rt x1 x3 x4 (1 : Int32) h_13 hf
set_option maxRecDepth 100000 in
set_option maxHeartbeats 4000000 in
theorem w_X10_tells_85 {X : Gc} {ad : Nat → Nat} {res : Int32} {M : Mem} {r_13 : Int32 → Int32 → Option Int32} (C : Gk X ad cX10_tells "NineTonguesModel" 7 4) (Rt : Gr X ad (some .boolean) (some (.int res)) M) (x1 : Int32) (x2 : Int32) (x3 : Int32) (x4 : Int32) (t0 : Int32) (h_13 : ∀ (x2 : Int32) (x4 : Int32), r_13 x2 x4 = some res → G X ad 13 7 [(0, .ref (ad 108)), (1, .int x1), (2, .int x2), (3, .int x3), (4, .int x4)] [] M) (hf : f_X10_tells_85 M r_13 x1 x2 x3 x4 t0 = some res) : G X ad 85 7 [(0, .ref (ad 108)), (1, .int x1), (2, .int x2), (3, .int x3), (4, .int x4)] [.int t0] M := by
  unfold f_X10_tells_85 at hf
  refine G.istore (lv' := [(6, .int t0), (0, .ref (ad 108)), (1, .int x1), (2, .int x2), (3, .int x3), (4, .int x4)]) C dX10_tells_85 (by decide) rfl ?_
  refine G.iload_n (pl := 3) C dX10_tells_87 rfl rfl ?_
  refine G.if_eq (tgt := 107) C dX10_tells_88 (by decide) (fun hc1 => ?_) (fun hc1 => ?_)
  · replace hf := gIf hf hc1
    refine G.sub (lv' := [(0, .ref (ad 108)), (1, .int x1), (3, .int x3), (4, .int x4)]) [1, 2, 4, 5] rfl ?_
    exact w_X10_tells_107 C Rt x1 x3 x4 h_13 hf
  · replace hf := gIfn hf hc1
    refine G.iload (pl := 0) C dX10_tells_91 rfl ?_
    refine G.if_eq (tgt := 103) C dX10_tells_93 (by decide) (fun hc2 => ?_) (fun hc2 => ?_)
    · replace hf := gIf hf hc2
      refine G.sub (lv' := [(0, .ref (ad 108)), (1, .int x1), (3, .int x3), (4, .int x4)]) [1, 2, 4, 5] rfl ?_
      exact w_X10_tells_103 C Rt x1 x3 x4 h_13 hf
    · replace hf := gIfn hf hc2
      refine G.iload (pl := 0) C dX10_tells_96 rfl ?_
      refine G.iload_n (pl := 2) C dX10_tells_98 rfl rfl ?_
      refine G.iand C dX10_tells_99 ?_
      refine G.if_eq (tgt := 107) C dX10_tells_100 (by decide) (fun hc3 => ?_) (fun hc3 => ?_)
      · replace hf := gIf hf hc3
        refine G.sub (lv' := [(0, .ref (ad 108)), (1, .int x1), (3, .int x3), (4, .int x4)]) [1, 2, 4, 5] rfl ?_
        exact w_X10_tells_107 C Rt x1 x3 x4 h_13 hf
      · replace hf := gIfn hf hc3
        refine G.sub (lv' := [(0, .ref (ad 108)), (1, .int x1), (3, .int x3), (4, .int x4)]) [1, 2, 4, 5] rfl ?_
        exact w_X10_tells_103 C Rt x1 x3 x4 h_13 hf
set_option maxRecDepth 100000 in
set_option maxHeartbeats 4000000 in
theorem w_X10_tells_56 {X : Gc} {ad : Nat → Nat} {res : Int32} {M : Mem} {r_13 : Int32 → Int32 → Option Int32} (C : Gk X ad cX10_tells "NineTonguesModel" 7 4) (Rt : Gr X ad (some .boolean) (some (.int res)) M) (x1 : Int32) (x2 : Int32) (x3 : Int32) (x4 : Int32) (t0 : Int32) (h_13 : ∀ (x2 : Int32) (x4 : Int32), r_13 x2 x4 = some res → G X ad 13 7 [(0, .ref (ad 108)), (1, .int x1), (2, .int x2), (3, .int x3), (4, .int x4)] [] M) (hf : f_X10_tells_56 M r_13 x1 x2 x3 x4 t0 = some res) : G X ad 56 7 [(0, .ref (ad 108)), (1, .int x1), (2, .int x2), (3, .int x3), (4, .int x4)] [.int t0] M := by
  unfold f_X10_tells_56 at hf
  refine G.istore (lv' := [(5, .int t0), (0, .ref (ad 108)), (1, .int x1), (2, .int x2), (3, .int x3), (4, .int x4)]) C dX10_tells_56 (by decide) rfl ?_
  refine G.iload (pl := 0) C dX10_tells_58 rfl ?_
  refine G.if_eq (tgt := 84) C dX10_tells_60 (by decide) (fun hc1 => ?_) (fun hc1 => ?_)
  · replace hf := gIf hf hc1
    refine G.iconst (v := 0) C dX10_tells_84 (by decide) ?_
    refine G.sub (lv' := [(0, .ref (ad 108)), (1, .int x1), (2, .int x2), (3, .int x3), (4, .int x4)]) [1, 2, 3, 4, 5] rfl ?_
    exact w_X10_tells_85 C Rt x1 x2 x3 x4 (0 : Int32) h_13 hf
  · replace hf := gIfn hf hc1
    refine G.aload_n (pl := 1) C dX10_tells_63 rfl rfl ?_
    refine gf10_5 C o_108 k4_102 dX10_tells_64 ?_
    refine G.iconst (v := 3) C dX10_tells_67 (by decide) ?_
    refine G.iload_n (pl := 4) C dX10_tells_68 rfl rfl ?_
    refine G.imul C dX10_tells_69 ?_
    obtain ⟨v1, ev1, hi1, hf⟩ := rd_some hf
    refine G.iald C a_114 hi1 ev1 dX10_tells_70 ?_
    refine G.aload_n (pl := 1) C dX10_tells_71 rfl rfl ?_
    refine gf10_5 C o_108 k4_102 dX10_tells_72 ?_
    refine G.iconst (v := 3) C dX10_tells_75 (by decide) ?_
    refine G.iload (pl := 5) C dX10_tells_76 rfl ?_
    refine G.imul C dX10_tells_78 ?_
    obtain ⟨v2, ev2, hi2, hf⟩ := rd_some hf
    refine G.iald C a_114 hi2 ev2 dX10_tells_79 ?_
    refine G.ixor C dX10_tells_80 ?_
    refine G.goto (tgt := 85) C dX10_tells_81 (by decide) ?_
    refine G.sub (lv' := [(0, .ref (ad 108)), (1, .int x1), (2, .int x2), (3, .int x3), (4, .int x4)]) [1, 2, 3, 4, 5] rfl ?_
    exact w_X10_tells_85 C Rt x1 x2 x3 x4 (v1 ^^^ v2) h_13 hf
set_option maxRecDepth 100000 in
set_option maxHeartbeats 4000000 in
theorem w_X10_tells_55 {X : Gc} {ad : Nat → Nat} {res : Int32} {M : Mem} {r_13 : Int32 → Int32 → Option Int32} (C : Gk X ad cX10_tells "NineTonguesModel" 7 4) (Rt : Gr X ad (some .boolean) (some (.int res)) M) (x1 : Int32) (x2 : Int32) (x3 : Int32) (x4 : Int32) (h_13 : ∀ (x2 : Int32) (x4 : Int32), r_13 x2 x4 = some res → G X ad 13 7 [(0, .ref (ad 108)), (1, .int x1), (2, .int x2), (3, .int x3), (4, .int x4)] [] M) (hf : f_X10_tells_55 M r_13 x1 x2 x3 x4 = some res) : G X ad 55 7 [(0, .ref (ad 108)), (1, .int x1), (2, .int x2), (3, .int x3), (4, .int x4)] [] M := by
  unfold f_X10_tells_55 at hf
  refine G.iconst (v := 0) C dX10_tells_55 (by decide) ?_
  exact w_X10_tells_56 C Rt x1 x2 x3 x4 (0 : Int32) h_13 hf
set_option maxRecDepth 100000 in
set_option maxHeartbeats 4000000 in
theorem w_X10_tells_13_b {X : Gc} {ad : Nat → Nat} {res : Int32} {M : Mem} {r_4 : Int32 → Int32 → Option Int32} {r_13 : Int32 → Int32 → Option Int32} (C : Gk X ad cX10_tells "NineTonguesModel" 7 4) (Rt : Gr X ad (some .boolean) (some (.int res)) M) (x1 : Int32) (x3 : Int32) (h_4 : ∀ (x2 : Int32) (x3 : Int32), r_4 x2 x3 = some res → G X ad 4 7 [(0, .ref (ad 108)), (1, .int x1), (2, .int x2), (3, .int x3)] [] M) (h_13 : ∀ (x2 : Int32) (x4 : Int32), r_13 x2 x4 = some res → G X ad 13 7 [(0, .ref (ad 108)), (1, .int x1), (2, .int x2), (3, .int x3), (4, .int x4)] [] M) (x2 : Int32) (x4 : Int32) (hf : f_X10_tells_13_b M r_4 r_13 x1 x3 x2 x4 = some res) : G X ad 13 7 [(0, .ref (ad 108)), (1, .int x1), (2, .int x2), (3, .int x3), (4, .int x4)] [] M := by
  unfold f_X10_tells_13_b at hf
  refine G.iload (pl := 4) C dX10_tells_13 rfl ?_
  refine G.iload_n (pl := 3) C dX10_tells_15 rfl rfl ?_
  refine G.icmp_ge (tgt := 115) C dX10_tells_16 (by decide) (fun hc1 => ?_) (fun hc1 => ?_)
  · replace hf := gIf hf hc1
    refine G.iinc (pl := 3) (v := (x3 + 1)) (lv' := [(3, .int (x3 + 1)), (0, .ref (ad 108)), (1, .int x1), (2, .int x2), (4, .int x4)]) C dX10_tells_115 rfl rfl (by decide) rfl ?_
    refine G.goto (tgt := 4) C dX10_tells_118 (by decide) ?_
    refine G.sub (lv' := [(0, .ref (ad 108)), (1, .int x1), (2, .int x2), (3, .int (x3 + 1))]) [1, 2, 3, 0] rfl ?_
    exact h_4 x2 (x3 + 1)  hf
  · replace hf := gIfn hf hc1
    refine G.aload_n (pl := 0) C dX10_tells_19 rfl rfl ?_
    refine G.iload_n (pl := 3) C dX10_tells_20 rfl rfl ?_
    refine G.bipush (v := 8) C dX10_tells_21 (by decide) ?_
    refine G.idiv C (by decide) dX10_tells_23 ?_
    refine G.iload_n (pl := 3) C dX10_tells_24 rfl rfl ?_
    refine G.bipush (v := 8) C dX10_tells_25 (by decide) ?_
    refine G.irem C (by decide) dX10_tells_27 ?_
    obtain ⟨v1, hr1, hf⟩ := cp_some hf
    refine G.callV (st1 := [.int v1]) C [.int (x3 / (8 : Int32)), .int (x3 % (8 : Int32))] [] (c_X10_isWord hr1) mv_X10_isWord k4_228 o_108.1 (fun _ => gShp_20 o_108) rfl rfl rfl rfl rfl (Nat.le_of_ble_eq_true rfl) (by decide) dX10_tells_28 rfl ?_
    refine G.if_eq (tgt := 55) C dX10_tells_31 (by decide) (fun hc2 => ?_) (fun hc2 => ?_)
    · replace hf := gIf hf hc2
      exact w_X10_tells_55 C Rt x1 x2 x3 x4 h_13 hf
    · replace hf := gIfn hf hc2
      refine G.aload_n (pl := 0) C dX10_tells_34 rfl rfl ?_
      refine G.iload (pl := 4) C dX10_tells_35 rfl ?_
      refine G.bipush (v := 8) C dX10_tells_37 (by decide) ?_
      refine G.idiv C (by decide) dX10_tells_39 ?_
      refine G.iload (pl := 4) C dX10_tells_40 rfl ?_
      refine G.bipush (v := 8) C dX10_tells_42 (by decide) ?_
      refine G.irem C (by decide) dX10_tells_44 ?_
      obtain ⟨v2, hr2, hf⟩ := cp_some hf
      refine G.callV (st1 := [.int v2]) C [.int (x4 / (8 : Int32)), .int (x4 % (8 : Int32))] [] (c_X10_isWord hr2) mv_X10_isWord k4_228 o_108.1 (fun _ => gShp_20 o_108) rfl rfl rfl rfl rfl (Nat.le_of_ble_eq_true rfl) (by decide) dX10_tells_45 rfl ?_
      refine G.if_eq (tgt := 55) C dX10_tells_48 (by decide) (fun hc3 => ?_) (fun hc3 => ?_)
      · replace hf := gIf hf hc3
        exact w_X10_tells_55 C Rt x1 x2 x3 x4 h_13 hf
      · replace hf := gIfn hf hc3
        refine G.iconst (v := 1) C dX10_tells_51 (by decide) ?_
        refine G.goto (tgt := 56) C dX10_tells_52 (by decide) ?_
        exact w_X10_tells_56 C Rt x1 x2 x3 x4 (1 : Int32) h_13 hf
theorem w_X10_tells_13 {X : Gc} {ad : Nat → Nat} {res : Int32} {M : Mem} {r_4 : Int32 → Int32 → Option Int32} (C : Gk X ad cX10_tells "NineTonguesModel" 7 4) (Rt : Gr X ad (some .boolean) (some (.int res)) M) (x1 : Int32) (x3 : Int32) (h_4 : ∀ (x2 : Int32) (x3 : Int32), r_4 x2 x3 = some res → G X ad 4 7 [(0, .ref (ad 108)), (1, .int x1), (2, .int x2), (3, .int x3)] [] M) : ∀ (n : Nat) (x2 : Int32) (x4 : Int32), f_X10_tells_13 M r_4 x1 x3 n x2 x4 = some res → G X ad 13 7 [(0, .ref (ad 108)), (1, .int x1), (2, .int x2), (3, .int x3), (4, .int x4)] [] M := by
  intro n
  induction n with
  | zero => intro x2 x4 hf; exact absurd (show (none : Option Int32) = some res from hf) (fun h => nomatch h)
  | succ n ih => intro x2 x4 hf; exact w_X10_tells_13_b C Rt x1 x3 h_4 ih x2 x4 hf
set_option maxRecDepth 100000 in
set_option maxHeartbeats 4000000 in
theorem w_X10_tells_4_b {X : Gc} {ad : Nat → Nat} {res : Int32} {M : Mem} {r_4 : Int32 → Int32 → Option Int32} (C : Gk X ad cX10_tells "NineTonguesModel" 7 4) (Rt : Gr X ad (some .boolean) (some (.int res)) M) (x1 : Int32) (h_4 : ∀ (x2 : Int32) (x3 : Int32), r_4 x2 x3 = some res → G X ad 4 7 [(0, .ref (ad 108)), (1, .int x1), (2, .int x2), (3, .int x3)] [] M) (x2 : Int32) (x3 : Int32) (hf : f_X10_tells_4_b M r_4 x1 x2 x3 = some res) : G X ad 4 7 [(0, .ref (ad 108)), (1, .int x1), (2, .int x2), (3, .int x3)] [] M := by
  unfold f_X10_tells_4_b at hf
  refine G.iload_n (pl := 3) C dX10_tells_4 rfl rfl ?_
  refine G.bipush (v := 48) C dX10_tells_5 (by decide) ?_
  refine G.icmp_ge (tgt := 121) C dX10_tells_7 (by decide) (fun hc1 => ?_) (fun hc1 => ?_)
  · replace hf := gIf hf hc1
    refine G.iload_n (pl := 2) C dX10_tells_121 rfl rfl ?_
    obtain ⟨hz, hf⟩ := rz_some hf
    cases hf
    exact G.zret C hz Rt dX10_tells_122
  · replace hf := gIfn hf hc1
    refine G.iconst (v := 0) C dX10_tells_10 (by decide) ?_
    refine G.istore (lv' := [(4, .int (0 : Int32)), (0, .ref (ad 108)), (1, .int x1), (2, .int x2), (3, .int x3)]) C dX10_tells_11 (by decide) rfl ?_
    refine G.sub (lv' := [(0, .ref (ad 108)), (1, .int x1), (2, .int x2), (3, .int x3), (4, .int (0 : Int32))]) [1, 2, 3, 4, 0] rfl ?_
    exact w_X10_tells_13 C Rt x1 x3 h_4 FU x2 (0 : Int32) hf
theorem w_X10_tells_4 {X : Gc} {ad : Nat → Nat} {res : Int32} {M : Mem} (C : Gk X ad cX10_tells "NineTonguesModel" 7 4) (Rt : Gr X ad (some .boolean) (some (.int res)) M) (x1 : Int32) : ∀ (n : Nat) (x2 : Int32) (x3 : Int32), f_X10_tells_4 M x1 n x2 x3 = some res → G X ad 4 7 [(0, .ref (ad 108)), (1, .int x1), (2, .int x2), (3, .int x3)] [] M := by
  intro n
  induction n with
  | zero => intro x2 x3 hf; exact absurd (show (none : Option Int32) = some res from hf) (fun h => nomatch h)
  | succ n ih => intro x2 x3 hf; exact w_X10_tells_4_b C Rt x1 ih x2 x3 hf
set_option maxRecDepth 100000 in
set_option maxHeartbeats 4000000 in
theorem w_X10_tells_E {X : Gc} {ad : Nat → Nat} {res : Int32} {M : Mem} (C : Gk X ad cX10_tells "NineTonguesModel" 7 4) (Rt : Gr X ad (some .boolean) (some (.int res)) M) (x1 : Int32) (hf : f_X10_tells x1 M = some res) : G X ad 0 7 [(0, .ref (ad 108)), (1, .int x1)] [] M := by
  unfold f_X10_tells at hf
  refine G.iconst (v := 1) C dX10_tells_0 (by decide) ?_
  refine G.istore_n (lv' := [(2, .int (1 : Int32)), (0, .ref (ad 108)), (1, .int x1)]) C dX10_tells_1 rfl (by decide) rfl ?_
  refine G.iconst (v := 0) C dX10_tells_2 (by decide) ?_
  refine G.istore_n (lv' := [(3, .int (0 : Int32)), (2, .int (1 : Int32)), (0, .ref (ad 108)), (1, .int x1)]) C dX10_tells_3 rfl (by decide) rfl ?_
  refine G.sub (lv' := [(0, .ref (ad 108)), (1, .int x1), (2, .int (1 : Int32)), (3, .int (0 : Int32))]) [2, 3, 1, 0] rfl ?_
  exact w_X10_tells_4 C Rt x1 FU (1 : Int32) (0 : Int32) hf
theorem mv_X10_tells : gMV yX10_tells cX10_tells 7 (some .boolean) 1 := ⟨k5_133, kS_47, k1_12, k5_134, ⟨by decide +kernel, by decide +kernel, by decide +kernel⟩, by decide⟩
theorem c_X10_tells {res : Int32} {x1 : Int32} {M : Mem} (hf : f_X10_tells x1 M = some res) : Ct yX10_tells cX10_tells 7 (some .boolean) 4 (fun ad => [.ref (ad 108), .int x1]) M (some (.int res)) M :=
  Ct.of (by decide +kernel) (fun _ => Nat.le_of_ble_eq_true rfl) (fun X ad C Rt => w_X10_tells_E C Rt x1 hf)
set_option maxRecDepth 100000 in
set_option maxHeartbeats 4000000 in
theorem w_X10_middle_63 {X : Gc} {ad : Nat → Nat} {res : Int32} {M : Mem} {r_6 : Int32 → Int32 → Option Int32} (C : Gk X ad cX10_middle "NineTonguesModel" 4 5) (Rt : Gr X ad (some .int) (some (.int res)) M) (x2 : Int32) (t0 : Int32) (h_6 : ∀ (x1 : Int32) (x2 : Int32), r_6 x1 x2 = some res → G X ad 6 4 [(0, .ref (ad 108)), (1, .int x1), (2, .int x2)] [] M) (hf : f_X10_middle_63 M r_6 x2 t0 = some res) : G X ad 63 4 [(0, .ref (ad 108)), (2, .int x2)] [.int t0] M := by
  unfold f_X10_middle_63 at hf
  refine G.istore_n (lv' := [(1, .int t0), (0, .ref (ad 108)), (2, .int x2)]) C dX10_middle_63 rfl (by decide) rfl ?_
  refine G.iinc (pl := 2) (v := (x2 + 1)) (lv' := [(2, .int (x2 + 1)), (1, .int t0), (0, .ref (ad 108))]) C dX10_middle_64 rfl rfl (by decide) rfl ?_
  refine G.goto (tgt := 6) C dX10_middle_67 (by decide) ?_
  refine G.sub (lv' := [(0, .ref (ad 108)), (1, .int t0), (2, .int (x2 + 1))]) [2, 1, 0] rfl ?_
  exact h_6 t0 (x2 + 1)  hf
set_option maxRecDepth 100000 in
set_option maxHeartbeats 4000000 in
theorem w_X10_middle_62 {X : Gc} {ad : Nat → Nat} {res : Int32} {M : Mem} {r_6 : Int32 → Int32 → Option Int32} (C : Gk X ad cX10_middle "NineTonguesModel" 4 5) (Rt : Gr X ad (some .int) (some (.int res)) M) (x1 : Int32) (x2 : Int32) (h_6 : ∀ (x1 : Int32) (x2 : Int32), r_6 x1 x2 = some res → G X ad 6 4 [(0, .ref (ad 108)), (1, .int x1), (2, .int x2)] [] M) (hf : f_X10_middle_62 M r_6 x1 x2 = some res) : G X ad 62 4 [(0, .ref (ad 108)), (1, .int x1), (2, .int x2)] [] M := by
  unfold f_X10_middle_62 at hf
  refine G.iload_n (pl := 1) C dX10_middle_62 rfl rfl ?_
  refine G.sub (lv' := [(0, .ref (ad 108)), (2, .int x2)]) [0, 2] rfl ?_
  exact w_X10_middle_63 C Rt x2 x1 h_6 hf
set_option maxRecDepth 100000 in
set_option maxHeartbeats 4000000 in
theorem w_X10_middle_45 {X : Gc} {ad : Nat → Nat} {res : Int32} {M : Mem} {r_6 : Int32 → Int32 → Option Int32} (C : Gk X ad cX10_middle "NineTonguesModel" 4 5) (Rt : Gr X ad (some .int) (some (.int res)) M) (x1 : Int32) (x2 : Int32) (t0 : Int32) (h_6 : ∀ (x1 : Int32) (x2 : Int32), r_6 x1 x2 = some res → G X ad 6 4 [(0, .ref (ad 108)), (1, .int x1), (2, .int x2)] [] M) (hf : f_X10_middle_45 M r_6 x1 x2 t0 = some res) : G X ad 45 4 [(0, .ref (ad 108)), (1, .int x1), (2, .int x2)] [.int t0] M := by
  unfold f_X10_middle_45 at hf
  refine G.istore_n (lv' := [(3, .int t0), (0, .ref (ad 108)), (1, .int x1), (2, .int x2)]) C dX10_middle_45 rfl (by decide) rfl ?_
  refine G.iload_n (pl := 0) C dX10_middle_46 rfl rfl ?_
  refine G.if_eq (tgt := 62) C dX10_middle_47 (by decide) (fun hc1 => ?_) (fun hc1 => ?_)
  · replace hf := gIf hf hc1
    refine G.sub (lv' := [(0, .ref (ad 108)), (1, .int x1), (2, .int x2)]) [1, 2, 3] rfl ?_
    exact w_X10_middle_62 C Rt x1 x2 h_6 hf
  · replace hf := gIfn hf hc1
    refine G.aload_n (pl := 1) C dX10_middle_50 rfl rfl ?_
    refine G.iload_n (pl := 3) C dX10_middle_51 rfl rfl ?_
    obtain ⟨v1, hr1, hf⟩ := cp_some hf
    refine G.callV (st1 := [.int v1]) C [.int x2] [] (c_X10_tells hr1) mv_X10_tells k5_131 o_108.1 (fun _ => gShp_20 o_108) rfl rfl rfl rfl rfl (Nat.le_of_ble_eq_true rfl) (by decide) dX10_middle_52 rfl ?_
    refine G.if_eq (tgt := 62) C dX10_middle_55 (by decide) (fun hc2 => ?_) (fun hc2 => ?_)
    · replace hf := gIf hf hc2
      refine G.sub (lv' := [(0, .ref (ad 108)), (1, .int x1), (2, .int x2)]) [1, 2, 3] rfl ?_
      exact w_X10_middle_62 C Rt x1 x2 h_6 hf
    · replace hf := gIfn hf hc2
      refine G.iload_n (pl := 3) C dX10_middle_58 rfl rfl ?_
      refine G.goto (tgt := 63) C dX10_middle_59 (by decide) ?_
      refine G.sub (lv' := [(0, .ref (ad 108)), (2, .int x2)]) [1, 3] rfl ?_
      exact w_X10_middle_63 C Rt x2 x2 h_6 hf
set_option maxRecDepth 100000 in
set_option maxHeartbeats 4000000 in
theorem w_X10_middle_40 {X : Gc} {ad : Nat → Nat} {res : Int32} {M : Mem} {r_6 : Int32 → Int32 → Option Int32} (C : Gk X ad cX10_middle "NineTonguesModel" 4 5) (Rt : Gr X ad (some .int) (some (.int res)) M) (x1 : Int32) (x2 : Int32) (h_6 : ∀ (x1 : Int32) (x2 : Int32), r_6 x1 x2 = some res → G X ad 6 4 [(0, .ref (ad 108)), (1, .int x1), (2, .int x2)] [] M) (hf : f_X10_middle_40 M r_6 x1 x2 = some res) : G X ad 40 4 [(0, .ref (ad 108)), (1, .int x1), (2, .int x2)] [] M := by
  unfold f_X10_middle_40 at hf
  refine G.iconst (v := 1) C dX10_middle_40 (by decide) ?_
  refine G.goto (tgt := 45) C dX10_middle_41 (by decide) ?_
  exact w_X10_middle_45 C Rt x1 x2 (1 : Int32) h_6 hf
set_option maxRecDepth 100000 in
set_option maxHeartbeats 4000000 in
theorem w_X10_middle_44 {X : Gc} {ad : Nat → Nat} {res : Int32} {M : Mem} {r_6 : Int32 → Int32 → Option Int32} (C : Gk X ad cX10_middle "NineTonguesModel" 4 5) (Rt : Gr X ad (some .int) (some (.int res)) M) (x1 : Int32) (x2 : Int32) (h_6 : ∀ (x1 : Int32) (x2 : Int32), r_6 x1 x2 = some res → G X ad 6 4 [(0, .ref (ad 108)), (1, .int x1), (2, .int x2)] [] M) (hf : f_X10_middle_44 M r_6 x1 x2 = some res) : G X ad 44 4 [(0, .ref (ad 108)), (1, .int x1), (2, .int x2)] [] M := by
  unfold f_X10_middle_44 at hf
  refine G.iconst (v := 0) C dX10_middle_44 (by decide) ?_
  exact w_X10_middle_45 C Rt x1 x2 (0 : Int32) h_6 hf
set_option maxRecDepth 100000 in
set_option maxHeartbeats 4000000 in
theorem w_X10_middle_6_b {X : Gc} {ad : Nat → Nat} {res : Int32} {M : Mem} {r_6 : Int32 → Int32 → Option Int32} (C : Gk X ad cX10_middle "NineTonguesModel" 4 5) (Rt : Gr X ad (some .int) (some (.int res)) M) (h_6 : ∀ (x1 : Int32) (x2 : Int32), r_6 x1 x2 = some res → G X ad 6 4 [(0, .ref (ad 108)), (1, .int x1), (2, .int x2)] [] M) (x1 : Int32) (x2 : Int32) (hf : f_X10_middle_6_b M r_6 x1 x2 = some res) : G X ad 6 4 [(0, .ref (ad 108)), (1, .int x1), (2, .int x2)] [] M := by
  unfold f_X10_middle_6_b at hf
  refine G.iload_n (pl := 2) C dX10_middle_6 rfl rfl ?_
  refine G.sipush (v := 256) C dX10_middle_7 (by decide) ?_
  refine G.icmp_ge (tgt := 70) C dX10_middle_10 (by decide) (fun hc1 => ?_) (fun hc1 => ?_)
  · replace hf := gIf hf hc1
    refine G.iload_n (pl := 1) C dX10_middle_70 rfl rfl ?_
    cases hf
    exact G.iret C Rt dX10_middle_71
  · replace hf := gIfn hf hc1
    refine G.iload_n (pl := 2) C dX10_middle_13 rfl rfl ?_
    obtain ⟨v1, hr1, hf⟩ := cp_some hf
    refine G.callS (st1 := [.int v1]) C [.int x2] [] (c_X10_bits hr1) mv_X10_bits k4_236 rfl rfl rfl (Nat.le_of_ble_eq_true rfl) (by decide) dX10_middle_14 rfl ?_
    refine G.iload_n (pl := 1) C dX10_middle_17 rfl rfl ?_
    obtain ⟨v2, hr2, hf⟩ := cp_some hf
    refine G.callS (st1 := [.int v2, .int v1]) C [.int x1] [.int v1] (c_X10_bits hr2) mv_X10_bits k4_236 rfl rfl rfl (Nat.le_of_ble_eq_true rfl) (by decide) dX10_middle_18 rfl ?_
    refine G.icmp_lt (tgt := 40) C dX10_middle_21 (by decide) (fun hc2 => ?_) (fun hc2 => ?_)
    · replace hf := gIf hf hc2
      exact w_X10_middle_40 C Rt x1 x2 h_6 hf
    · replace hf := gIfn hf hc2
      refine G.iload_n (pl := 2) C dX10_middle_24 rfl rfl ?_
      obtain ⟨v3, hr3, hf⟩ := cp_some hf
      refine G.callS (st1 := [.int v3]) C [.int x2] [] (c_X10_bits hr3) mv_X10_bits k4_236 rfl rfl rfl (Nat.le_of_ble_eq_true rfl) (by decide) dX10_middle_25 rfl ?_
      refine G.iload_n (pl := 1) C dX10_middle_28 rfl rfl ?_
      obtain ⟨v4, hr4, hf⟩ := cp_some hf
      refine G.callS (st1 := [.int v4, .int v3]) C [.int x1] [.int v3] (c_X10_bits hr4) mv_X10_bits k4_236 rfl rfl rfl (Nat.le_of_ble_eq_true rfl) (by decide) dX10_middle_29 rfl ?_
      refine G.icmp_ne (tgt := 44) C dX10_middle_32 (by decide) (fun hc3 => ?_) (fun hc3 => ?_)
      · replace hf := gIfn hf hc3
        exact w_X10_middle_44 C Rt x1 x2 h_6 hf
      · replace hf := gIf hf hc3
        refine G.iload_n (pl := 2) C dX10_middle_35 rfl rfl ?_
        refine G.iload_n (pl := 1) C dX10_middle_36 rfl rfl ?_
        refine G.icmp_ge (tgt := 44) C dX10_middle_37 (by decide) (fun hc4 => ?_) (fun hc4 => ?_)
        · replace hf := gIf hf hc4
          exact w_X10_middle_44 C Rt x1 x2 h_6 hf
        · replace hf := gIfn hf hc4
          exact w_X10_middle_40 C Rt x1 x2 h_6 hf
theorem w_X10_middle_6 {X : Gc} {ad : Nat → Nat} {res : Int32} {M : Mem} (C : Gk X ad cX10_middle "NineTonguesModel" 4 5) (Rt : Gr X ad (some .int) (some (.int res)) M) : ∀ (n : Nat) (x1 : Int32) (x2 : Int32), f_X10_middle_6 M n x1 x2 = some res → G X ad 6 4 [(0, .ref (ad 108)), (1, .int x1), (2, .int x2)] [] M := by
  intro n
  induction n with
  | zero => intro x1 x2 hf; exact absurd (show (none : Option Int32) = some res from hf) (fun h => nomatch h)
  | succ n ih => intro x1 x2 hf; exact w_X10_middle_6_b C Rt ih x1 x2 hf
set_option maxRecDepth 100000 in
set_option maxHeartbeats 4000000 in
theorem w_X10_middle_E {X : Gc} {ad : Nat → Nat} {res : Int32} {M : Mem} (C : Gk X ad cX10_middle "NineTonguesModel" 4 5) (Rt : Gr X ad (some .int) (some (.int res)) M) (hf : f_X10_middle M = some res) : G X ad 0 4 [(0, .ref (ad 108))] [] M := by
  unfold f_X10_middle at hf
  refine G.sipush (v := 255) C dX10_middle_0 (by decide) ?_
  refine G.istore_n (lv' := [(1, .int (255 : Int32)), (0, .ref (ad 108))]) C dX10_middle_3 rfl (by decide) rfl ?_
  refine G.iconst (v := 0) C dX10_middle_4 (by decide) ?_
  refine G.istore_n (lv' := [(2, .int (0 : Int32)), (1, .int (255 : Int32)), (0, .ref (ad 108))]) C dX10_middle_5 rfl (by decide) rfl ?_
  refine G.sub (lv' := [(0, .ref (ad 108)), (1, .int (255 : Int32)), (2, .int (0 : Int32))]) [2, 1, 0] rfl ?_
  exact w_X10_middle_6 C Rt FU (255 : Int32) (0 : Int32) hf
theorem mv_X10_middle : gMV yX10_middle cX10_middle 4 (some .int) 0 := ⟨k5_128, k5_129, k1_12, k5_130, ⟨by decide +kernel, by decide +kernel, by decide +kernel⟩, by decide⟩
theorem c_X10_middle {res : Int32} {M : Mem} (hf : f_X10_middle M = some res) : Ct yX10_middle cX10_middle 4 (some .int) 5 (fun ad => [.ref (ad 108)]) M (some (.int res)) M :=
  Ct.of (by decide +kernel) (fun _ => Nat.le_of_ble_eq_true rfl) (fun X ad C Rt => w_X10_middle_E C Rt hf)
set_option maxRecDepth 100000 in
set_option maxHeartbeats 4000000 in
theorem w_X10_end_20 {X : Gc} {ad : Nat → Nat} {res : (Int32 × Mem)} (C : Gk X ad cX10_end "NineTonguesModel" 4 2) (Rt : Gr X ad (some .int) (some (.int res.1)) res.2) (M : Mem) (hf : f_X10_end_20 M = some res) : G X ad 20 4 [(0, .ref (ad 108))] [] M := by
  unfold f_X10_end_20 at hf
  refine G.aload_n (pl := 0) C dX10_end_20 rfl rfl ?_
  refine G.bipush (v := (-2)) C dX10_end_21 (by decide) ?_
  obtain ⟨v1, M1, hr1, hf⟩ := cl_some hf
  refine G.callV (st1 := [.int v1]) C [.int (-2 : Int32)] [] (c_X10_bad hr1) mv_X10_bad k4_192 o_108.1 (fun _ => gShp_20 o_108) rfl rfl rfl rfl rfl (Nat.le_of_ble_eq_true rfl) (by decide) dX10_end_23 rfl ?_
  cases hf
  exact G.iret C Rt dX10_end_26
set_option maxRecDepth 100000 in
set_option maxHeartbeats 4000000 in
theorem w_X10_end_E {X : Gc} {ad : Nat → Nat} {res : (Int32 × Mem)} (C : Gk X ad cX10_end "NineTonguesModel" 4 2) (Rt : Gr X ad (some .int) (some (.int res.1)) res.2) (x1 : Int32) (x2 : Int32) (M : Mem) (hf : f_X10_end x1 x2 M = some res) : G X ad 0 4 [(0, .ref (ad 108)), (1, .int x1), (2, .int x2)] [] M := by
  unfold f_X10_end at hf
  refine G.iload_n (pl := 1) C dX10_end_0 rfl rfl ?_
  refine G.iconst (v := 0) C dX10_end_1 (by decide) ?_
  refine G.iconst (v := 5) C dX10_end_2 (by decide) ?_
  obtain ⟨v1, hr1, hf⟩ := cp_some hf
  refine G.callS (st1 := [.int v1]) C [.int x1, .int (0 : Int32), .int (5 : Int32)] [] (c_X10_between hr1) mv_X10_between k4_189 rfl rfl rfl (Nat.le_of_ble_eq_true rfl) (by decide) dX10_end_3 rfl ?_
  refine G.if_eq (tgt := 20) C dX10_end_6 (by decide) (fun hc1 => ?_) (fun hc1 => ?_)
  · replace hf := gIf hf hc1
    refine G.sub (lv' := [(0, .ref (ad 108))]) [0] rfl ?_
    exact w_X10_end_20 C Rt M hf
  · replace hf := gIfn hf hc1
    refine G.iload_n (pl := 2) C dX10_end_9 rfl rfl ?_
    refine G.iconst (v := 0) C dX10_end_10 (by decide) ?_
    refine G.sipush (v := 255) C dX10_end_11 (by decide) ?_
    obtain ⟨v2, hr2, hf⟩ := cp_some hf
    refine G.callS (st1 := [.int v2]) C [.int x2, .int (0 : Int32), .int (255 : Int32)] [] (c_X10_between hr2) mv_X10_between k4_189 rfl rfl rfl (Nat.le_of_ble_eq_true rfl) (by decide) dX10_end_14 rfl ?_
    refine G.if_ne (tgt := 27) C dX10_end_17 (by decide) (fun hc2 => ?_) (fun hc2 => ?_)
    · replace hf := gIfn hf hc2
      refine G.aload_n (pl := 0) C dX10_end_27 rfl rfl ?_
      refine gf10_9 C o_108 k4_106 dX10_end_28 ?_
      refine G.iload_n (pl := 1) C dX10_end_31 rfl rfl ?_
      obtain ⟨v3, ev1, hi1, hf⟩ := rd_some hf
      refine G.iald C a_118 hi1 ev1 dX10_end_32 ?_
      refine G.istore_n (lv' := [(3, .int v3), (0, .ref (ad 108)), (1, .int x1), (2, .int x2)]) C dX10_end_33 rfl (by decide) rfl ?_
      refine G.aload_n (pl := 1) C dX10_end_34 rfl rfl ?_
      refine gf10_9 C o_108 k4_106 dX10_end_35 ?_
      refine G.iload_n (pl := 2) C dX10_end_38 rfl rfl ?_
      refine G.iload_n (pl := 3) C dX10_end_39 rfl rfl ?_
      obtain ⟨hi2, hf⟩ := ck_some hf
      obtain ⟨M1, eM1, hf⟩ := stm_some hf
      refine G.iast C a_118 hi2 eM1 dX10_end_40 ?_
      refine G.iload_n (pl := 0) C dX10_end_41 rfl rfl ?_
      cases hf
      exact G.iret C Rt dX10_end_42
    · replace hf := gIf hf hc2
      refine G.sub (lv' := [(0, .ref (ad 108))]) [0] rfl ?_
      exact w_X10_end_20 C Rt M hf
theorem mv_X10_end : gMV yX10_end cX10_end 4 (some .int) 2 := ⟨k5_136, k5_137, k1_12, k5_138, ⟨by decide +kernel, by decide +kernel, by decide +kernel⟩, by decide⟩
theorem c_X10_end {res : (Int32 × Mem)} {x1 : Int32} {x2 : Int32} {M : Mem} (hf : f_X10_end x1 x2 M = some res) : Ct yX10_end cX10_end 4 (some .int) 2 (fun ad => [.ref (ad 108), .int x1, .int x2]) M (some (.int res.1)) res.2 :=
  Ct.of (by decide +kernel) (fun _ => Nat.le_of_ble_eq_true rfl) (fun X ad C Rt => w_X10_end_E C Rt x1 x2 M hf)
set_option maxRecDepth 100000 in
set_option maxHeartbeats 4000000 in
theorem w_X10_endForm_19 {X : Gc} {ad : Nat → Nat} {res : (Int32 × Mem)} (C : Gk X ad cX10_endForm "NineTonguesModel" 4 2) (Rt : Gr X ad (some .int) (some (.int res.1)) res.2) (M : Mem) (hf : f_X10_endForm_19 M = some res) : G X ad 19 4 [(0, .ref (ad 108))] [] M := by
  unfold f_X10_endForm_19 at hf
  refine G.aload_n (pl := 0) C dX10_endForm_19 rfl rfl ?_
  refine G.bipush (v := (-10)) C dX10_endForm_20 (by decide) ?_
  obtain ⟨v1, M1, hr1, hf⟩ := cl_some hf
  refine G.callV (st1 := [.int v1]) C [.int (-10 : Int32)] [] (c_X10_bad hr1) mv_X10_bad k4_192 o_108.1 (fun _ => gShp_20 o_108) rfl rfl rfl rfl rfl (Nat.le_of_ble_eq_true rfl) (by decide) dX10_endForm_22 rfl ?_
  cases hf
  exact G.iret C Rt dX10_endForm_25
set_option maxRecDepth 100000 in
set_option maxHeartbeats 4000000 in
theorem w_X10_endForm_E {X : Gc} {ad : Nat → Nat} {res : (Int32 × Mem)} (C : Gk X ad cX10_endForm "NineTonguesModel" 4 2) (Rt : Gr X ad (some .int) (some (.int res.1)) res.2) (x1 : Int32) (x2 : Int32) (M : Mem) (hf : f_X10_endForm x1 x2 M = some res) : G X ad 0 4 [(0, .ref (ad 108)), (1, .int x1), (2, .int x2)] [] M := by
  unfold f_X10_endForm at hf
  refine G.iload_n (pl := 1) C dX10_endForm_0 rfl rfl ?_
  refine G.iconst (v := 0) C dX10_endForm_1 (by decide) ?_
  refine G.iconst (v := 3) C dX10_endForm_2 (by decide) ?_
  obtain ⟨v1, hr1, hf⟩ := cp_some hf
  refine G.callS (st1 := [.int v1]) C [.int x1, .int (0 : Int32), .int (3 : Int32)] [] (c_X10_between hr1) mv_X10_between k4_189 rfl rfl rfl (Nat.le_of_ble_eq_true rfl) (by decide) dX10_endForm_3 rfl ?_
  refine G.if_eq (tgt := 19) C dX10_endForm_6 (by decide) (fun hc1 => ?_) (fun hc1 => ?_)
  · replace hf := gIf hf hc1
    refine G.sub (lv' := [(0, .ref (ad 108))]) [0] rfl ?_
    exact w_X10_endForm_19 C Rt M hf
  · replace hf := gIfn hf hc1
    refine G.iload_n (pl := 2) C dX10_endForm_9 rfl rfl ?_
    refine G.bipush (v := (-2)) C dX10_endForm_10 (by decide) ?_
    refine G.iconst (v := 1) C dX10_endForm_12 (by decide) ?_
    obtain ⟨v2, hr2, hf⟩ := cp_some hf
    refine G.callS (st1 := [.int v2]) C [.int x2, .int (-2 : Int32), .int (1 : Int32)] [] (c_X10_between hr2) mv_X10_between k4_189 rfl rfl rfl (Nat.le_of_ble_eq_true rfl) (by decide) dX10_endForm_13 rfl ?_
    refine G.if_ne (tgt := 26) C dX10_endForm_16 (by decide) (fun hc2 => ?_) (fun hc2 => ?_)
    · replace hf := gIfn hf hc2
      refine G.aload_n (pl := 0) C dX10_endForm_26 rfl rfl ?_
      refine gf10_9 C o_108 k4_106 dX10_endForm_27 ?_
      refine G.bipush (v := 6) C dX10_endForm_30 (by decide) ?_
      refine G.iload_n (pl := 1) C dX10_endForm_32 rfl rfl ?_
      refine G.iadd C dX10_endForm_33 ?_
      obtain ⟨v3, ev1, hi1, hf⟩ := rd_some hf
      refine G.iald C a_118 hi1 ev1 dX10_endForm_34 ?_
      refine G.istore_n (lv' := [(3, .int v3), (0, .ref (ad 108)), (1, .int x1), (2, .int x2)]) C dX10_endForm_35 rfl (by decide) rfl ?_
      refine G.aload_n (pl := 1) C dX10_endForm_36 rfl rfl ?_
      refine gf10_9 C o_108 k4_106 dX10_endForm_37 ?_
      refine G.bipush (v := 6) C dX10_endForm_40 (by decide) ?_
      refine G.iload_n (pl := 2) C dX10_endForm_42 rfl rfl ?_
      refine G.iadd C dX10_endForm_43 ?_
      refine G.iload_n (pl := 3) C dX10_endForm_44 rfl rfl ?_
      obtain ⟨hi2, hf⟩ := ck_some hf
      obtain ⟨M1, eM1, hf⟩ := stm_some hf
      refine G.iast C a_118 hi2 eM1 dX10_endForm_45 ?_
      refine G.iload_n (pl := 0) C dX10_endForm_46 rfl rfl ?_
      cases hf
      exact G.iret C Rt dX10_endForm_47
    · replace hf := gIf hf hc2
      refine G.sub (lv' := [(0, .ref (ad 108))]) [0] rfl ?_
      exact w_X10_endForm_19 C Rt M hf
theorem mv_X10_endForm : gMV yX10_endForm cX10_endForm 4 (some .int) 2 := ⟨k5_140, k5_141, k1_12, k5_142, ⟨by decide +kernel, by decide +kernel, by decide +kernel⟩, by decide⟩
theorem c_X10_endForm {res : (Int32 × Mem)} {x1 : Int32} {x2 : Int32} {M : Mem} (hf : f_X10_endForm x1 x2 M = some res) : Ct yX10_endForm cX10_endForm 4 (some .int) 2 (fun ad => [.ref (ad 108), .int x1, .int x2]) M (some (.int res.1)) res.2 :=
  Ct.of (by decide +kernel) (fun _ => Nat.le_of_ble_eq_true rfl) (fun X ad C Rt => w_X10_endForm_E C Rt x1 x2 M hf)
set_option maxRecDepth 100000 in
set_option maxHeartbeats 4000000 in
theorem w_X10_isEnd_105 {X : Gc} {ad : Nat → Nat} {res : Int32} {M : Mem} {r_56 : Int32 → Int32 → Option Int32} (C : Gk X ad cX10_isEnd "NineTonguesModel" 3 1) (Rt : Gr X ad (some .boolean) (some (.int res)) M) (x2 : Int32) (t0 : Int32) (h_56 : ∀ (x1 : Int32) (x2 : Int32), r_56 x1 x2 = some res → G X ad 56 3 [(0, .ref (ad 108)), (1, .int x1), (2, .int x2)] [] M) (hf : f_X10_isEnd_105 M r_56 x2 t0 = some res) : G X ad 105 3 [(0, .ref (ad 108)), (2, .int x2)] [.int t0] M := by
  unfold f_X10_isEnd_105 at hf
  refine G.istore_n (lv' := [(1, .int t0), (0, .ref (ad 108)), (2, .int x2)]) C dX10_isEnd_105 rfl (by decide) rfl ?_
  refine G.iinc (pl := 2) (v := (x2 + 1)) (lv' := [(2, .int (x2 + 1)), (1, .int t0), (0, .ref (ad 108))]) C dX10_isEnd_106 rfl rfl (by decide) rfl ?_
  refine G.goto (tgt := 56) C dX10_isEnd_109 (by decide) ?_
  refine G.sub (lv' := [(0, .ref (ad 108)), (1, .int t0), (2, .int (x2 + 1))]) [2, 1, 0] rfl ?_
  exact h_56 t0 (x2 + 1)  hf
set_option maxRecDepth 100000 in
set_option maxHeartbeats 4000000 in
theorem w_X10_isEnd_104 {X : Gc} {ad : Nat → Nat} {res : Int32} {M : Mem} {r_56 : Int32 → Int32 → Option Int32} (C : Gk X ad cX10_isEnd "NineTonguesModel" 3 1) (Rt : Gr X ad (some .boolean) (some (.int res)) M) (x2 : Int32) (h_56 : ∀ (x1 : Int32) (x2 : Int32), r_56 x1 x2 = some res → G X ad 56 3 [(0, .ref (ad 108)), (1, .int x1), (2, .int x2)] [] M) (hf : f_X10_isEnd_104 M r_56 x2 = some res) : G X ad 104 3 [(0, .ref (ad 108)), (2, .int x2)] [] M := by
  unfold f_X10_isEnd_104 at hf
  refine G.iconst (v := 0) C dX10_isEnd_104 (by decide) ?_
  exact w_X10_isEnd_105 C Rt x2 (0 : Int32) h_56 hf
set_option maxRecDepth 100000 in
set_option maxHeartbeats 4000000 in
theorem w_X10_isEnd_100 {X : Gc} {ad : Nat → Nat} {res : Int32} {M : Mem} {r_56 : Int32 → Int32 → Option Int32} (C : Gk X ad cX10_isEnd "NineTonguesModel" 3 1) (Rt : Gr X ad (some .boolean) (some (.int res)) M) (x2 : Int32) (h_56 : ∀ (x1 : Int32) (x2 : Int32), r_56 x1 x2 = some res → G X ad 56 3 [(0, .ref (ad 108)), (1, .int x1), (2, .int x2)] [] M) (hf : f_X10_isEnd_100 M r_56 x2 = some res) : G X ad 100 3 [(0, .ref (ad 108)), (2, .int x2)] [] M := by
  unfold f_X10_isEnd_100 at hf
  refine G.iconst (v := 1) C dX10_isEnd_100 (by decide) ?_
  refine G.goto (tgt := 105) C dX10_isEnd_101 (by decide) ?_
  exact w_X10_isEnd_105 C Rt x2 (1 : Int32) h_56 hf
set_option maxRecDepth 100000 in
set_option maxHeartbeats 4000000 in
theorem w_X10_isEnd_56_b {X : Gc} {ad : Nat → Nat} {res : Int32} {M : Mem} {r_56 : Int32 → Int32 → Option Int32} (C : Gk X ad cX10_isEnd "NineTonguesModel" 3 1) (Rt : Gr X ad (some .boolean) (some (.int res)) M) (h_56 : ∀ (x1 : Int32) (x2 : Int32), r_56 x1 x2 = some res → G X ad 56 3 [(0, .ref (ad 108)), (1, .int x1), (2, .int x2)] [] M) (x1 : Int32) (x2 : Int32) (hf : f_X10_isEnd_56_b M r_56 x1 x2 = some res) : G X ad 56 3 [(0, .ref (ad 108)), (1, .int x1), (2, .int x2)] [] M := by
  unfold f_X10_isEnd_56_b at hf
  refine G.iload_n (pl := 2) C dX10_isEnd_56 rfl rfl ?_
  refine G.iconst (v := 4) C dX10_isEnd_57 (by decide) ?_
  refine G.icmp_ge (tgt := 112) C dX10_isEnd_58 (by decide) (fun hc1 => ?_) (fun hc1 => ?_)
  · replace hf := gIf hf hc1
    refine G.iload_n (pl := 1) C dX10_isEnd_112 rfl rfl ?_
    obtain ⟨hz, hf⟩ := rz_some hf
    cases hf
    exact G.zret C hz Rt dX10_isEnd_113
  · replace hf := gIfn hf hc1
    refine G.iload_n (pl := 1) C dX10_isEnd_61 rfl rfl ?_
    refine G.if_eq (tgt := 104) C dX10_isEnd_62 (by decide) (fun hc2 => ?_) (fun hc2 => ?_)
    · replace hf := gIf hf hc2
      refine G.sub (lv' := [(0, .ref (ad 108)), (2, .int x2)]) [0, 2] rfl ?_
      exact w_X10_isEnd_104 C Rt x2 h_56 hf
    · replace hf := gIfn hf hc2
      refine G.aload_n (pl := 0) C dX10_isEnd_65 rfl rfl ?_
      refine gf10_9 C o_108 k4_106 dX10_isEnd_66 ?_
      refine G.bipush (v := 6) C dX10_isEnd_69 (by decide) ?_
      refine G.iload_n (pl := 2) C dX10_isEnd_71 rfl rfl ?_
      refine G.iadd C dX10_isEnd_72 ?_
      obtain ⟨v1, ev1, hi1, hf⟩ := rd_some hf
      refine G.iald C a_118 hi1 ev1 dX10_isEnd_73 ?_
      refine G.bipush (v := (-2)) C dX10_isEnd_74 (by decide) ?_
      refine G.icmp_eq (tgt := 100) C dX10_isEnd_76 (by decide) (fun hc3 => ?_) (fun hc3 => ?_)
      · replace hf := gIf hf hc3
        refine G.sub (lv' := [(0, .ref (ad 108)), (2, .int x2)]) [0, 2] rfl ?_
        exact w_X10_isEnd_100 C Rt x2 h_56 hf
      · replace hf := gIfn hf hc3
        refine G.aload_n (pl := 0) C dX10_isEnd_79 rfl rfl ?_
        refine gf10_20 C o_108 k4_117 dX10_isEnd_80 ?_
        refine G.bipush (v := 12) C dX10_isEnd_83 (by decide) ?_
        refine G.iload_n (pl := 2) C dX10_isEnd_85 rfl rfl ?_
        refine G.iadd C dX10_isEnd_86 ?_
        obtain ⟨v2, ev2, hi2, hf⟩ := rd_some hf
        refine G.iald C a_125 hi2 ev2 dX10_isEnd_87 ?_
        refine G.aload_n (pl := 0) C dX10_isEnd_88 rfl rfl ?_
        refine gf10_9 C o_108 k4_106 dX10_isEnd_89 ?_
        refine G.bipush (v := 6) C dX10_isEnd_92 (by decide) ?_
        refine G.iload_n (pl := 2) C dX10_isEnd_94 rfl rfl ?_
        refine G.iadd C dX10_isEnd_95 ?_
        obtain ⟨v3, ev3, hi3, hf⟩ := rd_some hf
        refine G.iald C a_118 hi3 ev3 dX10_isEnd_96 ?_
        refine G.icmp_ne (tgt := 104) C dX10_isEnd_97 (by decide) (fun hc4 => ?_) (fun hc4 => ?_)
        · replace hf := gIfn hf hc4
          refine G.sub (lv' := [(0, .ref (ad 108)), (2, .int x2)]) [0, 2] rfl ?_
          exact w_X10_isEnd_104 C Rt x2 h_56 hf
        · replace hf := gIf hf hc4
          refine G.sub (lv' := [(0, .ref (ad 108)), (2, .int x2)]) [0, 2] rfl ?_
          exact w_X10_isEnd_100 C Rt x2 h_56 hf
theorem w_X10_isEnd_56 {X : Gc} {ad : Nat → Nat} {res : Int32} {M : Mem} (C : Gk X ad cX10_isEnd "NineTonguesModel" 3 1) (Rt : Gr X ad (some .boolean) (some (.int res)) M) : ∀ (n : Nat) (x1 : Int32) (x2 : Int32), f_X10_isEnd_56 M n x1 x2 = some res → G X ad 56 3 [(0, .ref (ad 108)), (1, .int x1), (2, .int x2)] [] M := by
  intro n
  induction n with
  | zero => intro x1 x2 hf; exact absurd (show (none : Option Int32) = some res from hf) (fun h => nomatch h)
  | succ n ih => intro x1 x2 hf; exact w_X10_isEnd_56_b C Rt ih x1 x2 hf
set_option maxRecDepth 100000 in
set_option maxHeartbeats 4000000 in
theorem w_X10_isEnd_47 {X : Gc} {ad : Nat → Nat} {res : Int32} {M : Mem} {r_4 : Int32 → Int32 → Option Int32} (C : Gk X ad cX10_isEnd "NineTonguesModel" 3 1) (Rt : Gr X ad (some .boolean) (some (.int res)) M) (x2 : Int32) (t0 : Int32) (h_4 : ∀ (x1 : Int32) (x2 : Int32), r_4 x1 x2 = some res → G X ad 4 3 [(0, .ref (ad 108)), (1, .int x1), (2, .int x2)] [] M) (hf : f_X10_isEnd_47 M r_4 x2 t0 = some res) : G X ad 47 3 [(0, .ref (ad 108)), (2, .int x2)] [.int t0] M := by
  unfold f_X10_isEnd_47 at hf
  refine G.istore_n (lv' := [(1, .int t0), (0, .ref (ad 108)), (2, .int x2)]) C dX10_isEnd_47 rfl (by decide) rfl ?_
  refine G.iinc (pl := 2) (v := (x2 + 1)) (lv' := [(2, .int (x2 + 1)), (1, .int t0), (0, .ref (ad 108))]) C dX10_isEnd_48 rfl rfl (by decide) rfl ?_
  refine G.goto (tgt := 4) C dX10_isEnd_51 (by decide) ?_
  refine G.sub (lv' := [(0, .ref (ad 108)), (1, .int t0), (2, .int (x2 + 1))]) [2, 1, 0] rfl ?_
  exact h_4 t0 (x2 + 1)  hf
set_option maxRecDepth 100000 in
set_option maxHeartbeats 4000000 in
theorem w_X10_isEnd_46 {X : Gc} {ad : Nat → Nat} {res : Int32} {M : Mem} {r_4 : Int32 → Int32 → Option Int32} (C : Gk X ad cX10_isEnd "NineTonguesModel" 3 1) (Rt : Gr X ad (some .boolean) (some (.int res)) M) (x2 : Int32) (h_4 : ∀ (x1 : Int32) (x2 : Int32), r_4 x1 x2 = some res → G X ad 4 3 [(0, .ref (ad 108)), (1, .int x1), (2, .int x2)] [] M) (hf : f_X10_isEnd_46 M r_4 x2 = some res) : G X ad 46 3 [(0, .ref (ad 108)), (2, .int x2)] [] M := by
  unfold f_X10_isEnd_46 at hf
  refine G.iconst (v := 0) C dX10_isEnd_46 (by decide) ?_
  exact w_X10_isEnd_47 C Rt x2 (0 : Int32) h_4 hf
set_option maxRecDepth 100000 in
set_option maxHeartbeats 4000000 in
theorem w_X10_isEnd_42 {X : Gc} {ad : Nat → Nat} {res : Int32} {M : Mem} {r_4 : Int32 → Int32 → Option Int32} (C : Gk X ad cX10_isEnd "NineTonguesModel" 3 1) (Rt : Gr X ad (some .boolean) (some (.int res)) M) (x2 : Int32) (h_4 : ∀ (x1 : Int32) (x2 : Int32), r_4 x1 x2 = some res → G X ad 4 3 [(0, .ref (ad 108)), (1, .int x1), (2, .int x2)] [] M) (hf : f_X10_isEnd_42 M r_4 x2 = some res) : G X ad 42 3 [(0, .ref (ad 108)), (2, .int x2)] [] M := by
  unfold f_X10_isEnd_42 at hf
  refine G.iconst (v := 1) C dX10_isEnd_42 (by decide) ?_
  refine G.goto (tgt := 47) C dX10_isEnd_43 (by decide) ?_
  exact w_X10_isEnd_47 C Rt x2 (1 : Int32) h_4 hf
set_option maxRecDepth 100000 in
set_option maxHeartbeats 4000000 in
theorem w_X10_isEnd_4_b {X : Gc} {ad : Nat → Nat} {res : Int32} {M : Mem} {r_4 : Int32 → Int32 → Option Int32} (C : Gk X ad cX10_isEnd "NineTonguesModel" 3 1) (Rt : Gr X ad (some .boolean) (some (.int res)) M) (h_4 : ∀ (x1 : Int32) (x2 : Int32), r_4 x1 x2 = some res → G X ad 4 3 [(0, .ref (ad 108)), (1, .int x1), (2, .int x2)] [] M) (x1 : Int32) (x2 : Int32) (hf : f_X10_isEnd_4_b M r_4 x1 x2 = some res) : G X ad 4 3 [(0, .ref (ad 108)), (1, .int x1), (2, .int x2)] [] M := by
  unfold f_X10_isEnd_4_b at hf
  refine G.iload_n (pl := 2) C dX10_isEnd_4 rfl rfl ?_
  refine G.aload_n (pl := 0) C dX10_isEnd_5 rfl rfl ?_
  refine gf10_1 C o_108 k4_98 dX10_isEnd_6 ?_
  refine G.iconst (v := 0) C dX10_isEnd_9 (by decide) ?_
  refine G.iald (v := (M.1 110 0)) C a_110 (vp_inC (by decide)) rfl dX10_isEnd_10 ?_
  refine G.icmp_ge (tgt := 54) C dX10_isEnd_11 (by decide) (fun hc1 => ?_) (fun hc1 => ?_)
  · replace hf := gIf hf hc1
    refine G.iconst (v := 0) C dX10_isEnd_54 (by decide) ?_
    refine G.istore_n (lv' := [(2, .int (0 : Int32)), (0, .ref (ad 108)), (1, .int x1)]) C dX10_isEnd_55 rfl (by decide) rfl ?_
    refine G.sub (lv' := [(0, .ref (ad 108)), (1, .int x1), (2, .int (0 : Int32))]) [1, 2, 0] rfl ?_
    exact w_X10_isEnd_56 C Rt FU x1 (0 : Int32) hf
  · replace hf := gIfn hf hc1
    refine G.iload_n (pl := 1) C dX10_isEnd_14 rfl rfl ?_
    refine G.if_eq (tgt := 46) C dX10_isEnd_15 (by decide) (fun hc2 => ?_) (fun hc2 => ?_)
    · replace hf := gIf hf hc2
      refine G.sub (lv' := [(0, .ref (ad 108)), (2, .int x2)]) [0, 2] rfl ?_
      exact w_X10_isEnd_46 C Rt x2 h_4 hf
    · replace hf := gIfn hf hc2
      refine G.aload_n (pl := 0) C dX10_isEnd_18 rfl rfl ?_
      refine gf10_9 C o_108 k4_106 dX10_isEnd_19 ?_
      refine G.iload_n (pl := 2) C dX10_isEnd_22 rfl rfl ?_
      obtain ⟨v1, ev1, hi1, hf⟩ := rd_some hf
      refine G.iald C a_118 hi1 ev1 dX10_isEnd_23 ?_
      refine G.if_eq (tgt := 42) C dX10_isEnd_24 (by decide) (fun hc3 => ?_) (fun hc3 => ?_)
      · replace hf := gIf hf hc3
        refine G.sub (lv' := [(0, .ref (ad 108)), (2, .int x2)]) [0, 2] rfl ?_
        exact w_X10_isEnd_42 C Rt x2 h_4 hf
      · replace hf := gIfn hf hc3
        refine G.aload_n (pl := 0) C dX10_isEnd_27 rfl rfl ?_
        refine gf10_20 C o_108 k4_117 dX10_isEnd_28 ?_
        refine G.iload_n (pl := 2) C dX10_isEnd_31 rfl rfl ?_
        obtain ⟨v2, ev2, hi2, hf⟩ := rd_some hf
        refine G.iald C a_125 hi2 ev2 dX10_isEnd_32 ?_
        refine G.aload_n (pl := 0) C dX10_isEnd_33 rfl rfl ?_
        refine gf10_9 C o_108 k4_106 dX10_isEnd_34 ?_
        refine G.iload_n (pl := 2) C dX10_isEnd_37 rfl rfl ?_
        obtain ⟨v3, ev3, hi3, hf⟩ := rd_some hf
        refine G.iald C a_118 hi3 ev3 dX10_isEnd_38 ?_
        refine G.icmp_ne (tgt := 46) C dX10_isEnd_39 (by decide) (fun hc4 => ?_) (fun hc4 => ?_)
        · replace hf := gIfn hf hc4
          refine G.sub (lv' := [(0, .ref (ad 108)), (2, .int x2)]) [0, 2] rfl ?_
          exact w_X10_isEnd_46 C Rt x2 h_4 hf
        · replace hf := gIf hf hc4
          refine G.sub (lv' := [(0, .ref (ad 108)), (2, .int x2)]) [0, 2] rfl ?_
          exact w_X10_isEnd_42 C Rt x2 h_4 hf
theorem w_X10_isEnd_4 {X : Gc} {ad : Nat → Nat} {res : Int32} {M : Mem} (C : Gk X ad cX10_isEnd "NineTonguesModel" 3 1) (Rt : Gr X ad (some .boolean) (some (.int res)) M) : ∀ (n : Nat) (x1 : Int32) (x2 : Int32), f_X10_isEnd_4 M n x1 x2 = some res → G X ad 4 3 [(0, .ref (ad 108)), (1, .int x1), (2, .int x2)] [] M := by
  intro n
  induction n with
  | zero => intro x1 x2 hf; exact absurd (show (none : Option Int32) = some res from hf) (fun h => nomatch h)
  | succ n ih => intro x1 x2 hf; exact w_X10_isEnd_4_b C Rt ih x1 x2 hf
set_option maxRecDepth 100000 in
set_option maxHeartbeats 4000000 in
theorem w_X10_isEnd_E {X : Gc} {ad : Nat → Nat} {res : Int32} {M : Mem} (C : Gk X ad cX10_isEnd "NineTonguesModel" 3 1) (Rt : Gr X ad (some .boolean) (some (.int res)) M) (hf : f_X10_isEnd M = some res) : G X ad 0 3 [(0, .ref (ad 108))] [] M := by
  unfold f_X10_isEnd at hf
  refine G.iconst (v := 1) C dX10_isEnd_0 (by decide) ?_
  refine G.istore_n (lv' := [(1, .int (1 : Int32)), (0, .ref (ad 108))]) C dX10_isEnd_1 rfl (by decide) rfl ?_
  refine G.iconst (v := 0) C dX10_isEnd_2 (by decide) ?_
  refine G.istore_n (lv' := [(2, .int (0 : Int32)), (1, .int (1 : Int32)), (0, .ref (ad 108))]) C dX10_isEnd_3 rfl (by decide) rfl ?_
  refine G.sub (lv' := [(0, .ref (ad 108)), (1, .int (1 : Int32)), (2, .int (0 : Int32))]) [2, 1, 0] rfl ?_
  exact w_X10_isEnd_4 C Rt FU (1 : Int32) (0 : Int32) hf
theorem mv_X10_isEnd : gMV yX10_isEnd cX10_isEnd 3 (some .boolean) 0 := ⟨k5_149, kS_48, k1_12, k5_150, ⟨by decide +kernel, by decide +kernel, by decide +kernel⟩, by decide⟩
theorem c_X10_isEnd {res : Int32} {M : Mem} (hf : f_X10_isEnd M = some res) : Ct yX10_isEnd cX10_isEnd 3 (some .boolean) 1 (fun ad => [.ref (ad 108)]) M (some (.int res)) M :=
  Ct.of (by decide +kernel) (fun _ => Nat.le_of_ble_eq_true rfl) (fun X ad C Rt => w_X10_isEnd_E C Rt hf)
set_option maxRecDepth 100000 in
set_option maxHeartbeats 4000000 in
theorem w_X10_fraction_5_b {X : Gc} {ad : Nat → Nat} {res : (Unit × Mem)} {r_5 : Int32 → Int32 → Mem → Option (Unit × Mem)} (C : Gk X ad cX10_fraction "NineTonguesModel" 6 1) (Rt : Gr X ad none none res.2) (x1 : Int32) (x2 : Int32) (h_5 : ∀ (x3 : Int32) (x4 : Int32) (M : Mem), r_5 x3 x4 M = some res → G X ad 5 6 [(0, .ref (ad 108)), (1, .int x1), (2, .int x2), (3, .int x3), (4, .int x4)] [] M) (x3 : Int32) (x4 : Int32) (M : Mem) (hf : f_X10_fraction_5_b r_5 x1 x2 x3 x4 M = some res) : G X ad 5 6 [(0, .ref (ad 108)), (1, .int x1), (2, .int x2), (3, .int x3), (4, .int x4)] [] M := by
  unfold f_X10_fraction_5_b at hf
  refine G.iload (pl := 4) C dX10_fraction_5 rfl ?_
  refine G.if_eq (tgt := 26) C dX10_fraction_7 (by decide) (fun hc1 => ?_) (fun hc1 => ?_)
  · replace hf := gIf hf hc1
    refine G.aload_n (pl := 0) C dX10_fraction_26 rfl rfl ?_
    refine G.iload_n (pl := 1) C dX10_fraction_27 rfl rfl ?_
    refine G.iload_n (pl := 3) C dX10_fraction_28 rfl rfl ?_
    obtain ⟨hn1, hf⟩ := dz_some hf
    refine G.idiv C hn1 dX10_fraction_29 ?_
    obtain ⟨M1, eM1, hf⟩ := stm_some hf
    refine gp10_11 C o_108 k4_108 eM1 dX10_fraction_30 ?_
    refine G.aload_n (pl := 0) C dX10_fraction_33 rfl rfl ?_
    refine G.iload_n (pl := 2) C dX10_fraction_34 rfl rfl ?_
    refine G.iload_n (pl := 3) C dX10_fraction_35 rfl rfl ?_
    obtain ⟨hn2, hf⟩ := dz_some hf
    refine G.idiv C hn2 dX10_fraction_36 ?_
    obtain ⟨M2, eM2, hf⟩ := stm_some hf
    refine gp10_12 C o_108 k4_109 eM2 dX10_fraction_37 ?_
    cases hf
    exact G.vret C Rt dX10_fraction_40
  · replace hf := gIfn hf hc1
    refine G.iload_n (pl := 3) C dX10_fraction_10 rfl rfl ?_
    refine G.iload (pl := 4) C dX10_fraction_11 rfl ?_
    obtain ⟨hn3, hf⟩ := dz_some hf
    refine G.irem C hn3 dX10_fraction_13 ?_
    refine G.istore (lv' := [(5, .int (x3 % x4)), (0, .ref (ad 108)), (1, .int x1), (2, .int x2), (3, .int x3), (4, .int x4)]) C dX10_fraction_14 (by decide) rfl ?_
    refine G.iload (pl := 5) C dX10_fraction_16 rfl ?_
    refine G.istore_n (lv' := [(3, .int x4), (5, .int (x3 % x4)), (0, .ref (ad 108)), (1, .int x1), (2, .int x2), (4, .int x4)]) C dX10_fraction_18 rfl (by decide) rfl ?_
    refine G.iload (pl := 1) C dX10_fraction_19 rfl ?_
    refine G.istore (lv' := [(4, .int (x3 % x4)), (3, .int x4), (5, .int (x3 % x4)), (0, .ref (ad 108)), (1, .int x1), (2, .int x2)]) C dX10_fraction_21 (by decide) rfl ?_
    refine G.goto (tgt := 5) C dX10_fraction_23 (by decide) ?_
    refine G.sub (lv' := [(0, .ref (ad 108)), (1, .int x1), (2, .int x2), (3, .int x4), (4, .int (x3 % x4))]) [3, 4, 5, 1, 0] rfl ?_
    exact h_5 x4 (x3 % x4) M hf
theorem w_X10_fraction_5 {X : Gc} {ad : Nat → Nat} {res : (Unit × Mem)} (C : Gk X ad cX10_fraction "NineTonguesModel" 6 1) (Rt : Gr X ad none none res.2) (x1 : Int32) (x2 : Int32) : ∀ (n : Nat) (x3 : Int32) (x4 : Int32) (M : Mem), f_X10_fraction_5 x1 x2 n x3 x4 M = some res → G X ad 5 6 [(0, .ref (ad 108)), (1, .int x1), (2, .int x2), (3, .int x3), (4, .int x4)] [] M := by
  intro n
  induction n with
  | zero => intro x3 x4 M hf; exact absurd (show (none : Option (Unit × Mem)) = some res from hf) (fun h => nomatch h)
  | succ n ih => intro x3 x4 M hf; exact w_X10_fraction_5_b C Rt x1 x2 ih x3 x4 M hf
set_option maxRecDepth 100000 in
set_option maxHeartbeats 4000000 in
theorem w_X10_fraction_E {X : Gc} {ad : Nat → Nat} {res : (Unit × Mem)} (C : Gk X ad cX10_fraction "NineTonguesModel" 6 1) (Rt : Gr X ad none none res.2) (x1 : Int32) (x2 : Int32) (M : Mem) (hf : f_X10_fraction x1 x2 M = some res) : G X ad 0 6 [(0, .ref (ad 108)), (1, .int x1), (2, .int x2)] [] M := by
  unfold f_X10_fraction at hf
  refine G.iload_n (pl := 1) C dX10_fraction_0 rfl rfl ?_
  refine G.istore_n (lv' := [(3, .int x1), (0, .ref (ad 108)), (1, .int x1), (2, .int x2)]) C dX10_fraction_1 rfl (by decide) rfl ?_
  refine G.iload_n (pl := 3) C dX10_fraction_2 rfl rfl ?_
  refine G.istore (lv' := [(4, .int x2), (3, .int x1), (0, .ref (ad 108)), (1, .int x1), (2, .int x2)]) C dX10_fraction_3 (by decide) rfl ?_
  refine G.sub (lv' := [(0, .ref (ad 108)), (1, .int x1), (2, .int x2), (3, .int x1), (4, .int x2)]) [2, 3, 4, 1, 0] rfl ?_
  exact w_X10_fraction_5 C Rt x1 x2 FU x1 x2 M hf
theorem mv_X10_fraction : gMV yX10_fraction cX10_fraction 6 none 2 := ⟨k5_153, kS_49, k1_12, k5_154, ⟨by decide +kernel, by decide +kernel, by decide +kernel⟩, by decide⟩
theorem c_X10_fraction {res : (Unit × Mem)} {x1 : Int32} {x2 : Int32} {M : Mem} (hf : f_X10_fraction x1 x2 M = some res) : Ct yX10_fraction cX10_fraction 6 none 1 (fun ad => [.ref (ad 108), .int x1, .int x2]) M none res.2 :=
  Ct.of (by decide +kernel) (fun _ => Nat.le_of_ble_eq_true rfl) (fun X ad C Rt => w_X10_fraction_E C Rt x1 x2 M hf)
set_option maxRecDepth 100000 in
set_option maxHeartbeats 4000000 in
theorem w_X10_which_29 {X : Gc} {ad : Nat → Nat} {res : (Int32 × Mem)} (C : Gk X ad cX10_which "NineTonguesModel" 7 6) (Rt : Gr X ad (some .int) (some (.int res.1)) res.2) (M : Mem) (hf : f_X10_which_29 M = some res) : G X ad 29 7 [(0, .ref (ad 108))] [] M := by
  unfold f_X10_which_29 at hf
  refine G.aload_n (pl := 0) C dX10_which_29 rfl rfl ?_
  refine G.bipush (v := (-2)) C dX10_which_30 (by decide) ?_
  obtain ⟨v1, M1, hr1, hf⟩ := cl_some hf
  refine G.callV (st1 := [.int v1]) C [.int (-2 : Int32)] [] (c_X10_bad hr1) mv_X10_bad k4_192 o_108.1 (fun _ => gShp_20 o_108) rfl rfl rfl rfl rfl (Nat.le_of_ble_eq_true rfl) (by decide) dX10_which_32 rfl ?_
  cases hf
  exact G.iret C Rt dX10_which_35
set_option maxRecDepth 100000 in
set_option maxHeartbeats 4000000 in
theorem w_X10_which_58 {X : Gc} {ad : Nat → Nat} {res : (Int32 × Mem)} (C : Gk X ad cX10_which "NineTonguesModel" 7 6) (Rt : Gr X ad (some .int) (some (.int res.1)) res.2) (M : Mem) (hf : f_X10_which_58 M = some res) : G X ad 58 7 [(0, .ref (ad 108))] [] M := by
  unfold f_X10_which_58 at hf
  refine G.aload_n (pl := 0) C dX10_which_58 rfl rfl ?_
  refine G.bipush (v := (-3)) C dX10_which_59 (by decide) ?_
  obtain ⟨v1, M1, hr1, hf⟩ := cl_some hf
  refine G.callV (st1 := [.int v1]) C [.int (-3 : Int32)] [] (c_X10_no hr1) mv_X10_no k5_40 o_108.1 (fun _ => gShp_20 o_108) rfl rfl rfl rfl rfl (Nat.le_of_ble_eq_true rfl) (by decide) dX10_which_61 rfl ?_
  cases hf
  exact G.iret C Rt dX10_which_64
set_option maxRecDepth 100000 in
set_option maxHeartbeats 4000000 in
theorem w_X10_which_125 {X : Gc} {ad : Nat → Nat} {res : (Int32 × Mem)} {r_74 : Int32 → Int32 → Int32 → Mem → Option (Int32 × Mem)} (C : Gk X ad cX10_which "NineTonguesModel" 7 6) (Rt : Gr X ad (some .int) (some (.int res.1)) res.2) (x1 : Int32) (x2 : Int32) (x3 : Int32) (x4 : Int32) (x5 : Int32) (x6 : Int32) (M : Mem) (h_74 : ∀ (x4 : Int32) (x5 : Int32) (x6 : Int32) (M : Mem), r_74 x4 x5 x6 M = some res → G X ad 74 7 [(0, .ref (ad 108)), (1, .int x1), (2, .int x2), (3, .int x3), (4, .int x4), (5, .int x5), (6, .int x6)] [] M) (hf : f_X10_which_125 r_74 x1 x2 x3 x4 x5 x6 M = some res) : G X ad 125 7 [(0, .ref (ad 108)), (1, .int x1), (2, .int x2), (3, .int x3), (4, .int x4), (5, .int x5), (6, .int x6)] [] M := by
  unfold f_X10_which_125 at hf
  refine G.iinc (pl := 6) (v := (x6 + 1)) (lv' := [(6, .int (x6 + 1)), (0, .ref (ad 108)), (1, .int x1), (2, .int x2), (3, .int x3), (4, .int x4), (5, .int x5)]) C dX10_which_125 rfl rfl (by decide) rfl ?_
  refine G.goto (tgt := 74) C dX10_which_128 (by decide) ?_
  refine G.sub (lv' := [(0, .ref (ad 108)), (1, .int x1), (2, .int x2), (3, .int x3), (4, .int x4), (5, .int x5), (6, .int (x6 + 1))]) [1, 2, 3, 4, 5, 6, 0] rfl ?_
  exact h_74 x4 x5 (x6 + 1) M hf
set_option maxRecDepth 100000 in
set_option maxHeartbeats 4000000 in
theorem w_X10_which_122 {X : Gc} {ad : Nat → Nat} {res : (Int32 × Mem)} {r_74 : Int32 → Int32 → Int32 → Mem → Option (Int32 × Mem)} (C : Gk X ad cX10_which "NineTonguesModel" 7 6) (Rt : Gr X ad (some .int) (some (.int res.1)) res.2) (x1 : Int32) (x2 : Int32) (x3 : Int32) (x4 : Int32) (x6 : Int32) (t1 : Int32) (t0 : Int32) (M : Mem) (h_74 : ∀ (x4 : Int32) (x5 : Int32) (x6 : Int32) (M : Mem), r_74 x4 x5 x6 M = some res → G X ad 74 7 [(0, .ref (ad 108)), (1, .int x1), (2, .int x2), (3, .int x3), (4, .int x4), (5, .int x5), (6, .int x6)] [] M) (hf : f_X10_which_122 r_74 x1 x2 x3 x4 x6 t1 t0 M = some res) : G X ad 122 7 [(0, .ref (ad 108)), (1, .int x1), (2, .int x2), (3, .int x3), (4, .int x4), (6, .int x6)] [.int t1, .int t0] M := by
  unfold f_X10_which_122 at hf
  refine G.iadd C dX10_which_122 ?_
  refine G.istore (lv' := [(5, .int (t0 + t1)), (0, .ref (ad 108)), (1, .int x1), (2, .int x2), (3, .int x3), (4, .int x4), (6, .int x6)]) C dX10_which_123 (by decide) rfl ?_
  refine G.sub (lv' := [(0, .ref (ad 108)), (1, .int x1), (2, .int x2), (3, .int x3), (4, .int x4), (5, .int (t0 + t1)), (6, .int x6)]) [1, 2, 3, 4, 5, 0, 6] rfl ?_
  exact w_X10_which_125 C Rt x1 x2 x3 x4 (t0 + t1) x6 M h_74 hf
set_option maxRecDepth 100000 in
set_option maxHeartbeats 4000000 in
theorem w_X10_which_74_b {X : Gc} {ad : Nat → Nat} {res : (Int32 × Mem)} {r_74 : Int32 → Int32 → Int32 → Mem → Option (Int32 × Mem)} (C : Gk X ad cX10_which "NineTonguesModel" 7 6) (Rt : Gr X ad (some .int) (some (.int res.1)) res.2) (x1 : Int32) (x2 : Int32) (x3 : Int32) (h_74 : ∀ (x4 : Int32) (x5 : Int32) (x6 : Int32) (M : Mem), r_74 x4 x5 x6 M = some res → G X ad 74 7 [(0, .ref (ad 108)), (1, .int x1), (2, .int x2), (3, .int x3), (4, .int x4), (5, .int x5), (6, .int x6)] [] M) (x4 : Int32) (x5 : Int32) (x6 : Int32) (M : Mem) (hf : f_X10_which_74_b r_74 x1 x2 x3 x4 x5 x6 M = some res) : G X ad 74 7 [(0, .ref (ad 108)), (1, .int x1), (2, .int x2), (3, .int x3), (4, .int x4), (5, .int x5), (6, .int x6)] [] M := by
  unfold f_X10_which_74_b at hf
  refine G.iload (pl := 6) C dX10_which_74 rfl ?_
  refine G.aload_n (pl := 0) C dX10_which_76 rfl rfl ?_
  refine G.iload_n (pl := 2) C dX10_which_77 rfl rfl ?_
  obtain ⟨v1, hr1, hf⟩ := cp_some hf
  refine G.callV (st1 := [.int v1, .int x6]) C [.int x2] [.int x6] (c_X10_codes hr1) mv_X10_codes k5_91 o_108.1 (fun _ => gShp_20 o_108) rfl rfl rfl rfl rfl (Nat.le_of_ble_eq_true rfl) (by decide) dX10_which_78 rfl ?_
  refine G.icmp_ge (tgt := 131) C dX10_which_81 (by decide) (fun hc1 => ?_) (fun hc1 => ?_)
  · replace hf := gIf hf hc1
    refine G.iload_n (pl := 3) C dX10_which_131 rfl rfl ?_
    refine G.iconst (v := (-1)) C dX10_which_132 (by decide) ?_
    refine G.icmp_ne (tgt := 139) C dX10_which_133 (by decide) (fun hc2 => ?_) (fun hc2 => ?_)
    · replace hf := gIfn hf hc2
      refine G.iload (pl := 4) C dX10_which_139 rfl ?_
      refine G.if_ne (tgt := 151) C dX10_which_141 (by decide) (fun hc3 => ?_) (fun hc3 => ?_)
      · replace hf := gIfn hf hc3
        refine G.aload_n (pl := 0) C dX10_which_151 rfl rfl ?_
        refine G.iload (pl := 5) C dX10_which_152 rfl ?_
        refine G.iload (pl := 4) C dX10_which_154 rfl ?_
        obtain ⟨u, M1, hr2, hf⟩ := cl_some hf
        refine G.callV (st1 := []) C [.int x5, .int x4] [] (c_X10_fraction hr2) mv_X10_fraction k5_151 o_108.1 (fun _ => gShp_20 o_108) rfl rfl rfl rfl rfl (Nat.le_of_ble_eq_true rfl) (by decide) dX10_which_156 rfl ?_
        refine G.iconst (v := 1) C dX10_which_159 (by decide) ?_
        cases hf
        exact G.iret C Rt dX10_which_160
      · replace hf := gIf hf hc3
        refine G.aload_n (pl := 0) C dX10_which_144 rfl rfl ?_
        refine G.bipush (v := (-3)) C dX10_which_145 (by decide) ?_
        obtain ⟨v2, M2, hr3, hf⟩ := cl_some hf
        refine G.callV (st1 := [.int v2]) C [.int (-3 : Int32)] [] (c_X10_no hr3) mv_X10_no k5_40 o_108.1 (fun _ => gShp_20 o_108) rfl rfl rfl rfl rfl (Nat.le_of_ble_eq_true rfl) (by decide) dX10_which_147 rfl ?_
        cases hf
        exact G.iret C Rt dX10_which_150
    · replace hf := gIf hf hc2
      refine G.iload (pl := 4) C dX10_which_136 rfl ?_
      cases hf
      exact G.iret C Rt dX10_which_138
  · replace hf := gIfn hf hc1
    refine G.aload_n (pl := 0) C dX10_which_84 rfl rfl ?_
    refine G.iload_n (pl := 1) C dX10_which_85 rfl rfl ?_
    refine G.iload_n (pl := 2) C dX10_which_86 rfl rfl ?_
    refine G.iload (pl := 6) C dX10_which_87 rfl ?_
    obtain ⟨v3, M3, hr4, hf⟩ := cl_some hf
    refine G.callV (st1 := [.int v3]) C [.int x1, .int x2, .int x6] [] (c_X10_tries hr4) mv_X10_tries k5_95 o_108.1 (fun _ => gShp_20 o_108) rfl rfl rfl rfl rfl (Nat.le_of_ble_eq_true rfl) (by decide) dX10_which_89 rfl ?_
    refine G.if_eq (tgt := 125) C dX10_which_92 (by decide) (fun hc4 => ?_) (fun hc4 => ?_)
    · replace hf := gIf hf hc4
      exact w_X10_which_125 C Rt x1 x2 x3 x4 x5 x6 M3 h_74 hf
    · replace hf := gIfn hf hc4
      refine G.aload_n (pl := 0) C dX10_which_95 rfl rfl ?_
      obtain ⟨v4, hr5, hf⟩ := cp_some hf
      refine G.callV (st1 := [.int v4]) C [] [] (c_X10_isEnd hr5) mv_X10_isEnd k5_147 o_108.1 (fun _ => gShp_20 o_108) rfl rfl rfl rfl rfl (Nat.le_of_ble_eq_true rfl) (by decide) dX10_which_96 rfl ?_
      refine G.if_eq (tgt := 125) C dX10_which_99 (by decide) (fun hc5 => ?_) (fun hc5 => ?_)
      · replace hf := gIf hf hc5
        exact w_X10_which_125 C Rt x1 x2 x3 x4 x5 x6 M3 h_74 hf
      · replace hf := gIfn hf hc5
        refine G.iinc (pl := 4) (v := (x4 + 1)) (lv' := [(4, .int (x4 + 1)), (0, .ref (ad 108)), (1, .int x1), (2, .int x2), (3, .int x3), (5, .int x5), (6, .int x6)]) C dX10_which_102 rfl rfl (by decide) rfl ?_
        refine G.iload (pl := 5) C dX10_which_105 rfl ?_
        refine G.aload_n (pl := 1) C dX10_which_107 rfl rfl ?_
        refine gf10_21 C o_108 k4_118 dX10_which_108 ?_
        refine G.iconst (v := 0) C dX10_which_111 (by decide) ?_
        refine G.iald (v := (M3.1 126 0)) C a_126 (vp_inC (by decide)) rfl dX10_which_112 ?_
        refine G.iload_n (pl := 4) C dX10_which_113 rfl rfl ?_
        refine G.icmp_ne (tgt := 121) C dX10_which_114 (by decide) (fun hc6 => ?_) (fun hc6 => ?_)
        · replace hf := gIfn hf hc6
          refine G.iconst (v := 0) C dX10_which_121 (by decide) ?_
          refine G.sub (lv' := [(0, .ref (ad 108)), (1, .int x1), (2, .int x2), (3, .int x3), (4, .int (x4 + 1)), (6, .int x6)]) [1, 2, 3, 4, 0, 6] rfl ?_
          exact w_X10_which_122 C Rt x1 x2 x3 (x4 + 1) x6 (0 : Int32) x5 M3 h_74 hf
        · replace hf := gIf hf hc6
          refine G.iconst (v := 1) C dX10_which_117 (by decide) ?_
          refine G.goto (tgt := 122) C dX10_which_118 (by decide) ?_
          refine G.sub (lv' := [(0, .ref (ad 108)), (1, .int x1), (2, .int x2), (3, .int x3), (4, .int (x4 + 1)), (6, .int x6)]) [1, 2, 3, 4, 0, 6] rfl ?_
          exact w_X10_which_122 C Rt x1 x2 x3 (x4 + 1) x6 (1 : Int32) x5 M3 h_74 hf
theorem w_X10_which_74 {X : Gc} {ad : Nat → Nat} {res : (Int32 × Mem)} (C : Gk X ad cX10_which "NineTonguesModel" 7 6) (Rt : Gr X ad (some .int) (some (.int res.1)) res.2) (x1 : Int32) (x2 : Int32) (x3 : Int32) : ∀ (n : Nat) (x4 : Int32) (x5 : Int32) (x6 : Int32) (M : Mem), f_X10_which_74 x1 x2 x3 n x4 x5 x6 M = some res → G X ad 74 7 [(0, .ref (ad 108)), (1, .int x1), (2, .int x2), (3, .int x3), (4, .int x4), (5, .int x5), (6, .int x6)] [] M := by
  intro n
  induction n with
  | zero => intro x4 x5 x6 M hf; exact absurd (show (none : Option (Int32 × Mem)) = some res from hf) (fun h => nomatch h)
  | succ n ih => intro x4 x5 x6 M hf; exact w_X10_which_74_b C Rt x1 x2 x3 ih x4 x5 x6 M hf
set_option maxRecDepth 100000 in
set_option maxHeartbeats 4000000 in
theorem w_X10_which_65 {X : Gc} {ad : Nat → Nat} {res : (Int32 × Mem)} (C : Gk X ad cX10_which "NineTonguesModel" 7 6) (Rt : Gr X ad (some .int) (some (.int res.1)) res.2) (x1 : Int32) (x2 : Int32) (x3 : Int32) (M : Mem) (hf : f_X10_which_65 x1 x2 x3 M = some res) : G X ad 65 7 [(0, .ref (ad 108)), (1, .int x1), (2, .int x2), (3, .int x3)] [] M := by
  unfold f_X10_which_65 at hf
  refine G.iconst (v := 0) C dX10_which_65 (by decide) ?_
  refine G.istore (lv' := [(4, .int (0 : Int32)), (0, .ref (ad 108)), (1, .int x1), (2, .int x2), (3, .int x3)]) C dX10_which_66 (by decide) rfl ?_
  refine G.iconst (v := 0) C dX10_which_68 (by decide) ?_
  refine G.istore (lv' := [(5, .int (0 : Int32)), (4, .int (0 : Int32)), (0, .ref (ad 108)), (1, .int x1), (2, .int x2), (3, .int x3)]) C dX10_which_69 (by decide) rfl ?_
  refine G.iconst (v := 0) C dX10_which_71 (by decide) ?_
  refine G.istore (lv' := [(6, .int (0 : Int32)), (5, .int (0 : Int32)), (4, .int (0 : Int32)), (0, .ref (ad 108)), (1, .int x1), (2, .int x2), (3, .int x3)]) C dX10_which_72 (by decide) rfl ?_
  refine G.sub (lv' := [(0, .ref (ad 108)), (1, .int x1), (2, .int x2), (3, .int x3), (4, .int (0 : Int32)), (5, .int (0 : Int32)), (6, .int (0 : Int32))]) [3, 4, 5, 6, 2, 1, 0] rfl ?_
  exact w_X10_which_74 C Rt x1 x2 x3 FU (0 : Int32) (0 : Int32) (0 : Int32) M hf
set_option maxRecDepth 100000 in
set_option maxHeartbeats 4000000 in
theorem w_X10_which_36 {X : Gc} {ad : Nat → Nat} {res : (Int32 × Mem)} (C : Gk X ad cX10_which "NineTonguesModel" 7 6) (Rt : Gr X ad (some .int) (some (.int res.1)) res.2) (x1 : Int32) (x2 : Int32) (x3 : Int32) (M : Mem) (hf : f_X10_which_36 x1 x2 x3 M = some res) : G X ad 36 7 [(0, .ref (ad 108)), (1, .int x1), (2, .int x2), (3, .int x3)] [] M := by
  unfold f_X10_which_36 at hf
  refine G.aload_n (pl := 0) C dX10_which_36 rfl rfl ?_
  refine gf10_1 C o_108 k4_98 dX10_which_37 ?_
  refine G.iconst (v := 0) C dX10_which_40 (by decide) ?_
  refine G.iald (v := (M.1 110 0)) C a_110 (vp_inC (by decide)) rfl dX10_which_41 ?_
  refine G.if_eq (tgt := 58) C dX10_which_42 (by decide) (fun hc1 => ?_) (fun hc1 => ?_)
  · replace hf := gIf hf hc1
    refine G.sub (lv' := [(0, .ref (ad 108))]) [0] rfl ?_
    exact w_X10_which_58 C Rt M hf
  · replace hf := gIfn hf hc1
    refine G.iload_n (pl := 3) C dX10_which_45 rfl rfl ?_
    refine G.iconst (v := (-1)) C dX10_which_46 (by decide) ?_
    refine G.icmp_eq (tgt := 65) C dX10_which_47 (by decide) (fun hc2 => ?_) (fun hc2 => ?_)
    · replace hf := gIf hf hc2
      exact w_X10_which_65 C Rt x1 x2 x3 M hf
    · replace hf := gIfn hf hc2
      refine G.aload_n (pl := 0) C dX10_which_50 rfl rfl ?_
      refine G.iload_n (pl := 3) C dX10_which_51 rfl rfl ?_
      obtain ⟨v1, hr1, hf⟩ := cp_some hf
      refine G.callV (st1 := [.int v1]) C [.int x3] [] (c_X10_speaks hr1) mv_X10_speaks k5_20 o_108.1 (fun _ => gShp_20 o_108) rfl rfl rfl rfl rfl (Nat.le_of_ble_eq_true rfl) (by decide) dX10_which_52 rfl ?_
      refine G.if_ne (tgt := 65) C dX10_which_55 (by decide) (fun hc3 => ?_) (fun hc3 => ?_)
      · replace hf := gIfn hf hc3
        exact w_X10_which_65 C Rt x1 x2 x3 M hf
      · replace hf := gIf hf hc3
        refine G.sub (lv' := [(0, .ref (ad 108))]) [0] rfl ?_
        exact w_X10_which_58 C Rt M hf
set_option maxRecDepth 100000 in
set_option maxHeartbeats 4000000 in
theorem w_X10_which_E {X : Gc} {ad : Nat → Nat} {res : (Int32 × Mem)} (C : Gk X ad cX10_which "NineTonguesModel" 7 6) (Rt : Gr X ad (some .int) (some (.int res.1)) res.2) (x1 : Int32) (x2 : Int32) (x3 : Int32) (M : Mem) (hf : f_X10_which x1 x2 x3 M = some res) : G X ad 0 7 [(0, .ref (ad 108)), (1, .int x1), (2, .int x2), (3, .int x3)] [] M := by
  unfold f_X10_which at hf
  refine G.iload_n (pl := 1) C dX10_which_0 rfl rfl ?_
  obtain ⟨v1, hr1, hf⟩ := cp_some hf
  refine G.callS (st1 := [.int v1]) C [.int x1] [] (c_X10_isKind hr1) mv_X10_isKind k5_84 rfl rfl rfl (Nat.le_of_ble_eq_true rfl) (by decide) dX10_which_1 rfl ?_
  refine G.if_eq (tgt := 29) C dX10_which_4 (by decide) (fun hc1 => ?_) (fun hc1 => ?_)
  · replace hf := gIf hf hc1
    refine G.sub (lv' := [(0, .ref (ad 108))]) [0] rfl ?_
    exact w_X10_which_29 C Rt M hf
  · replace hf := gIfn hf hc1
    refine G.iload_n (pl := 2) C dX10_which_7 rfl rfl ?_
    refine G.iconst (v := 1) C dX10_which_8 (by decide) ?_
    refine G.iconst (v := 4) C dX10_which_9 (by decide) ?_
    obtain ⟨v2, hr2, hf⟩ := cp_some hf
    refine G.callS (st1 := [.int v2]) C [.int x2, .int (1 : Int32), .int (4 : Int32)] [] (c_X10_between hr2) mv_X10_between k4_189 rfl rfl rfl (Nat.le_of_ble_eq_true rfl) (by decide) dX10_which_10 rfl ?_
    refine G.if_eq (tgt := 29) C dX10_which_13 (by decide) (fun hc2 => ?_) (fun hc2 => ?_)
    · replace hf := gIf hf hc2
      refine G.sub (lv' := [(0, .ref (ad 108))]) [0] rfl ?_
      exact w_X10_which_29 C Rt M hf
    · replace hf := gIfn hf hc2
      refine G.iload_n (pl := 3) C dX10_which_16 rfl rfl ?_
      refine G.iconst (v := (-1)) C dX10_which_17 (by decide) ?_
      refine G.icmp_eq (tgt := 36) C dX10_which_18 (by decide) (fun hc3 => ?_) (fun hc3 => ?_)
      · replace hf := gIf hf hc3
        exact w_X10_which_36 C Rt x1 x2 x3 M hf
      · replace hf := gIfn hf hc3
        refine G.aload_n (pl := 0) C dX10_which_21 rfl rfl ?_
        refine G.iload_n (pl := 3) C dX10_which_22 rfl rfl ?_
        obtain ⟨v3, hr3, hf⟩ := cp_some hf
        refine G.callV (st1 := [.int v3]) C [.int x3] [] (c_X10_isTongue hr3) mv_X10_isTongue k4_204 o_108.1 (fun _ => gShp_20 o_108) rfl rfl rfl rfl rfl (Nat.le_of_ble_eq_true rfl) (by decide) dX10_which_23 rfl ?_
        refine G.if_ne (tgt := 36) C dX10_which_26 (by decide) (fun hc4 => ?_) (fun hc4 => ?_)
        · replace hf := gIfn hf hc4
          exact w_X10_which_36 C Rt x1 x2 x3 M hf
        · replace hf := gIf hf hc4
          refine G.sub (lv' := [(0, .ref (ad 108))]) [0] rfl ?_
          exact w_X10_which_29 C Rt M hf
theorem mv_X10_which : gMV yX10_which cX10_which 7 (some .int) 3 := ⟨k5_144, k5_145, k1_12, k5_146, ⟨by decide +kernel, by decide +kernel, by decide +kernel⟩, by decide⟩
theorem c_X10_which {res : (Int32 × Mem)} {x1 : Int32} {x2 : Int32} {x3 : Int32} {M : Mem} (hf : f_X10_which x1 x2 x3 M = some res) : Ct yX10_which cX10_which 7 (some .int) 6 (fun ad => [.ref (ad 108), .int x1, .int x2, .int x3]) M (some (.int res.1)) res.2 :=
  Ct.of (by decide +kernel) (fun _ => Nat.le_of_ble_eq_true rfl) (fun X ad C Rt => w_X10_which_E C Rt x1 x2 x3 M hf)
set_option maxRecDepth 100000 in
set_option maxHeartbeats 4000000 in
theorem w_X10_isAt_E {X : Gc} {ad : Nat → Nat} {res : Int32} {M : Mem} (C : Gk X ad cX10_isAt "NineTonguesModel" 6 1) (Rt : Gr X ad (some .boolean) (some (.int res)) M) (x1 : Int32) (x2 : Int32) (x3 : Int32) (x4 : Int32) (x5 : Int32) (hf : f_X10_isAt x1 x2 x3 x4 x5 M = some res) : G X ad 0 6 [(0, .ref (ad 108)), (1, .int x1), (2, .int x2), (3, .int x3), (4, .int x4), (5, .int x5)] [] M := by
  unfold f_X10_isAt at hf
  refine G.aload_n (pl := 0) C dX10_isAt_0 rfl rfl ?_
  refine gf10_7 C o_108 k4_104 dX10_isAt_1 ?_
  refine G.iconst (v := 4) C dX10_isAt_4 (by decide) ?_
  refine G.iload_n (pl := 1) C dX10_isAt_5 rfl rfl ?_
  refine G.imul C dX10_isAt_6 ?_
  obtain ⟨v1, ev1, hi1, hf⟩ := rd_some hf
  refine G.iald C a_116 hi1 ev1 dX10_isAt_7 ?_
  refine G.iload_n (pl := 2) C dX10_isAt_8 rfl rfl ?_
  refine G.icmp_ne (tgt := 60) C dX10_isAt_9 (by decide) (fun hc1 => ?_) (fun hc1 => ?_)
  · replace hf := gIfn hf hc1
    refine G.iconst (v := 0) C dX10_isAt_60 (by decide) ?_
    cases hf
    exact G.zret C rfl Rt dX10_isAt_61
  · replace hf := gIf hf hc1
    refine G.aload_n (pl := 0) C dX10_isAt_12 rfl rfl ?_
    refine gf10_7 C o_108 k4_104 dX10_isAt_13 ?_
    refine G.iconst (v := 4) C dX10_isAt_16 (by decide) ?_
    refine G.iload_n (pl := 1) C dX10_isAt_17 rfl rfl ?_
    refine G.imul C dX10_isAt_18 ?_
    refine G.iconst (v := 1) C dX10_isAt_19 (by decide) ?_
    refine G.iadd C dX10_isAt_20 ?_
    obtain ⟨v2, ev2, hi2, hf⟩ := rd_some hf
    refine G.iald C a_116 hi2 ev2 dX10_isAt_21 ?_
    refine G.iload_n (pl := 3) C dX10_isAt_22 rfl rfl ?_
    refine G.icmp_ne (tgt := 60) C dX10_isAt_23 (by decide) (fun hc2 => ?_) (fun hc2 => ?_)
    · replace hf := gIfn hf hc2
      refine G.iconst (v := 0) C dX10_isAt_60 (by decide) ?_
      cases hf
      exact G.zret C rfl Rt dX10_isAt_61
    · replace hf := gIf hf hc2
      refine G.aload_n (pl := 0) C dX10_isAt_26 rfl rfl ?_
      refine gf10_7 C o_108 k4_104 dX10_isAt_27 ?_
      refine G.iconst (v := 4) C dX10_isAt_30 (by decide) ?_
      refine G.iload_n (pl := 1) C dX10_isAt_31 rfl rfl ?_
      refine G.imul C dX10_isAt_32 ?_
      refine G.iconst (v := 2) C dX10_isAt_33 (by decide) ?_
      refine G.iadd C dX10_isAt_34 ?_
      obtain ⟨v3, ev3, hi3, hf⟩ := rd_some hf
      refine G.iald C a_116 hi3 ev3 dX10_isAt_35 ?_
      refine G.iload (pl := 4) C dX10_isAt_36 rfl ?_
      refine G.icmp_ne (tgt := 60) C dX10_isAt_38 (by decide) (fun hc3 => ?_) (fun hc3 => ?_)
      · replace hf := gIfn hf hc3
        refine G.iconst (v := 0) C dX10_isAt_60 (by decide) ?_
        cases hf
        exact G.zret C rfl Rt dX10_isAt_61
      · replace hf := gIf hf hc3
        refine G.aload_n (pl := 0) C dX10_isAt_41 rfl rfl ?_
        refine gf10_7 C o_108 k4_104 dX10_isAt_42 ?_
        refine G.iconst (v := 4) C dX10_isAt_45 (by decide) ?_
        refine G.iload_n (pl := 1) C dX10_isAt_46 rfl rfl ?_
        refine G.imul C dX10_isAt_47 ?_
        refine G.iconst (v := 3) C dX10_isAt_48 (by decide) ?_
        refine G.iadd C dX10_isAt_49 ?_
        obtain ⟨v4, ev4, hi4, hf⟩ := rd_some hf
        refine G.iald C a_116 hi4 ev4 dX10_isAt_50 ?_
        refine G.iload (pl := 5) C dX10_isAt_51 rfl ?_
        refine G.icmp_ne (tgt := 60) C dX10_isAt_53 (by decide) (fun hc4 => ?_) (fun hc4 => ?_)
        · replace hf := gIfn hf hc4
          refine G.iconst (v := 0) C dX10_isAt_60 (by decide) ?_
          cases hf
          exact G.zret C rfl Rt dX10_isAt_61
        · replace hf := gIf hf hc4
          refine G.iconst (v := 1) C dX10_isAt_56 (by decide) ?_
          refine G.goto (tgt := 61) C dX10_isAt_57 (by decide) ?_
          cases hf
          exact G.zret C rfl Rt dX10_isAt_61
theorem mv_X10_isAt : gMV yX10_isAt cX10_isAt 6 (some .boolean) 5 := ⟨k5_161, kS_50, k1_12, k5_162, ⟨by decide +kernel, by decide +kernel, by decide +kernel⟩, by decide⟩
theorem c_X10_isAt {res : Int32} {x1 : Int32} {x2 : Int32} {x3 : Int32} {x4 : Int32} {x5 : Int32} {M : Mem} (hf : f_X10_isAt x1 x2 x3 x4 x5 M = some res) : Ct yX10_isAt cX10_isAt 6 (some .boolean) 1 (fun ad => [.ref (ad 108), .int x1, .int x2, .int x3, .int x4, .int x5]) M (some (.int res)) M :=
  Ct.of (by decide +kernel) (fun _ => Nat.le_of_ble_eq_true rfl) (fun X ad C Rt => w_X10_isAt_E C Rt x1 x2 x3 x4 x5 hf)
set_option maxRecDepth 100000 in
set_option maxHeartbeats 4000000 in
theorem w_X10_pair_91 {X : Gc} {ad : Nat → Nat} {res : (Int32 × Mem)} (C : Gk X ad cX10_pair "NineTonguesModel" 7 4) (Rt : Gr X ad (some .int) (some (.int res.1)) res.2) (x1 : Int32) (x2 : Int32) (x3 : Int32) (x4 : Int32) (x5 : Int32) (M : Mem) (hf : f_X10_pair_91 x1 x2 x3 x4 x5 M = some res) : G X ad 91 7 [(0, .ref (ad 108)), (1, .int x1), (2, .int x2), (3, .int x3), (4, .int x4), (5, .int x5)] [] M := by
  unfold f_X10_pair_91 at hf
  refine G.iload (pl := 5) C dX10_pair_91 rfl ?_
  refine G.if_ne (tgt := 103) C dX10_pair_93 (by decide) (fun hc1 => ?_) (fun hc1 => ?_)
  · replace hf := gIfn hf hc1
    refine G.aload_n (pl := 0) C dX10_pair_103 rfl rfl ?_
    refine gf10_3 C o_108 k4_100 dX10_pair_104 ?_
    refine G.iconst (v := 0) C dX10_pair_107 (by decide) ?_
    refine G.iald (v := (M.1 112 0)) C a_112 (vp_inC (by decide)) rfl dX10_pair_108 ?_
    refine G.istore (lv' := [(6, .int (M.1 112 0)), (0, .ref (ad 108)), (1, .int x1), (2, .int x2), (3, .int x3), (4, .int x4), (5, .int x5)]) C dX10_pair_109 (by decide) rfl ?_
    refine G.iload (pl := 0) C dX10_pair_111 rfl ?_
    refine G.bipush (v := 24) C dX10_pair_113 (by decide) ?_
    refine G.icmp_ne (tgt := 123) C dX10_pair_115 (by decide) (fun hc2 => ?_) (fun hc2 => ?_)
    · replace hf := gIfn hf hc2
      refine G.aload_n (pl := 1) C dX10_pair_123 rfl rfl ?_
      refine gf10_7 C o_108 k4_104 dX10_pair_124 ?_
      refine G.iconst (v := 4) C dX10_pair_127 (by decide) ?_
      refine G.iload (pl := 0) C dX10_pair_128 rfl ?_
      refine G.imul C dX10_pair_130 ?_
      refine G.iload_n (pl := 2) C dX10_pair_131 rfl rfl ?_
      obtain ⟨hi1, hf⟩ := ck_some hf
      obtain ⟨M1, eM1, hf⟩ := stm_some hf
      refine G.iast C a_116 hi1 eM1 dX10_pair_132 ?_
      refine G.aload_n (pl := 1) C dX10_pair_133 rfl rfl ?_
      refine gf10_7 C o_108 k4_104 dX10_pair_134 ?_
      refine G.iconst (v := 4) C dX10_pair_137 (by decide) ?_
      refine G.iload (pl := 0) C dX10_pair_138 rfl ?_
      refine G.imul C dX10_pair_140 ?_
      refine G.iconst (v := 1) C dX10_pair_141 (by decide) ?_
      refine G.iadd C dX10_pair_142 ?_
      refine G.iload_n (pl := 3) C dX10_pair_143 rfl rfl ?_
      obtain ⟨hi2, hf⟩ := ck_some hf
      obtain ⟨M2, eM2, hf⟩ := stm_some hf
      refine G.iast C a_116 hi2 eM2 dX10_pair_144 ?_
      refine G.aload_n (pl := 1) C dX10_pair_145 rfl rfl ?_
      refine gf10_7 C o_108 k4_104 dX10_pair_146 ?_
      refine G.iconst (v := 4) C dX10_pair_149 (by decide) ?_
      refine G.iload (pl := 0) C dX10_pair_150 rfl ?_
      refine G.imul C dX10_pair_152 ?_
      refine G.iconst (v := 2) C dX10_pair_153 (by decide) ?_
      refine G.iadd C dX10_pair_154 ?_
      refine G.iload_n (pl := 4) C dX10_pair_155 rfl rfl ?_
      obtain ⟨hi3, hf⟩ := ck_some hf
      obtain ⟨M3, eM3, hf⟩ := stm_some hf
      refine G.iast C a_116 hi3 eM3 dX10_pair_156 ?_
      refine G.aload_n (pl := 1) C dX10_pair_157 rfl rfl ?_
      refine gf10_7 C o_108 k4_104 dX10_pair_158 ?_
      refine G.iconst (v := 4) C dX10_pair_161 (by decide) ?_
      refine G.iload (pl := 0) C dX10_pair_162 rfl ?_
      refine G.imul C dX10_pair_164 ?_
      refine G.iconst (v := 3) C dX10_pair_165 (by decide) ?_
      refine G.iadd C dX10_pair_166 ?_
      refine G.iload (pl := 5) C dX10_pair_167 rfl ?_
      obtain ⟨hi4, hf⟩ := ck_some hf
      obtain ⟨M4, eM4, hf⟩ := stm_some hf
      refine G.iast C a_116 hi4 eM4 dX10_pair_169 ?_
      refine G.aload_n (pl := 1) C dX10_pair_170 rfl rfl ?_
      refine gf10_3 C o_108 k4_100 dX10_pair_171 ?_
      refine G.iconst (v := 0) C dX10_pair_174 (by decide) ?_
      refine G.dup2 C dX10_pair_175 rfl rfl ?_
      refine G.iald (v := (M4.1 112 0)) C a_112 (vp_inC (by decide)) rfl dX10_pair_176 ?_
      refine G.iconst (v := 1) C dX10_pair_177 (by decide) ?_
      refine G.iadd C dX10_pair_178 ?_
      obtain ⟨M5, eM5, hf⟩ := stm_some hf
      refine G.iast C a_112 (vp_inC (by decide)) eM5 dX10_pair_179 ?_
      refine G.iload (pl := 0) C dX10_pair_180 rfl ?_
      cases hf
      exact G.iret C Rt dX10_pair_182
    · replace hf := gIf hf hc2
      refine G.aload_n (pl := 1) C dX10_pair_118 rfl rfl ?_
      obtain ⟨v1, M6, hr1, hf⟩ := cl_some hf
      refine G.callV (st1 := [.int v1]) C [] [] (c_X10_full hr1) mv_X10_full k4_196 o_108.1 (fun _ => gShp_20 o_108) rfl rfl rfl rfl rfl (Nat.le_of_ble_eq_true rfl) (by decide) dX10_pair_119 rfl ?_
      cases hf
      exact G.iret C Rt dX10_pair_122
  · replace hf := gIf hf hc1
    refine G.aload_n (pl := 0) C dX10_pair_96 rfl rfl ?_
    refine G.bipush (v := (-2)) C dX10_pair_97 (by decide) ?_
    obtain ⟨v2, M7, hr2, hf⟩ := cl_some hf
    refine G.callV (st1 := [.int v2]) C [.int (-2 : Int32)] [] (c_X10_bad hr2) mv_X10_bad k4_192 o_108.1 (fun _ => gShp_20 o_108) rfl rfl rfl rfl rfl (Nat.le_of_ble_eq_true rfl) (by decide) dX10_pair_99 rfl ?_
    cases hf
    exact G.iret C Rt dX10_pair_102
set_option maxRecDepth 100000 in
set_option maxHeartbeats 4000000 in
theorem w_X10_pair_83 {X : Gc} {ad : Nat → Nat} {res : (Int32 × Mem)} {r_34 : Int32 → Int32 → Mem → Option (Int32 × Mem)} (C : Gk X ad cX10_pair "NineTonguesModel" 7 4) (Rt : Gr X ad (some .int) (some (.int res.1)) res.2) (x1 : Int32) (x2 : Int32) (x3 : Int32) (x4 : Int32) (x6 : Int32) (t0 : Int32) (M : Mem) (h_34 : ∀ (x5 : Int32) (x6 : Int32) (M : Mem), r_34 x5 x6 M = some res → G X ad 34 7 [(0, .ref (ad 108)), (1, .int x1), (2, .int x2), (3, .int x3), (4, .int x4), (5, .int x5), (6, .int x6)] [] M) (hf : f_X10_pair_83 r_34 x1 x2 x3 x4 x6 t0 M = some res) : G X ad 83 7 [(0, .ref (ad 108)), (1, .int x1), (2, .int x2), (3, .int x3), (4, .int x4), (6, .int x6)] [.int t0] M := by
  unfold f_X10_pair_83 at hf
  refine G.istore (lv' := [(5, .int t0), (0, .ref (ad 108)), (1, .int x1), (2, .int x2), (3, .int x3), (4, .int x4), (6, .int x6)]) C dX10_pair_83 (by decide) rfl ?_
  refine G.iinc (pl := 6) (v := (x6 + 1)) (lv' := [(6, .int (x6 + 1)), (5, .int t0), (0, .ref (ad 108)), (1, .int x1), (2, .int x2), (3, .int x3), (4, .int x4)]) C dX10_pair_85 rfl rfl (by decide) rfl ?_
  refine G.goto (tgt := 34) C dX10_pair_88 (by decide) ?_
  refine G.sub (lv' := [(0, .ref (ad 108)), (1, .int x1), (2, .int x2), (3, .int x3), (4, .int x4), (5, .int t0), (6, .int (x6 + 1))]) [2, 3, 4, 5, 6, 1, 0] rfl ?_
  exact h_34 t0 (x6 + 1) M hf
set_option maxRecDepth 100000 in
set_option maxHeartbeats 4000000 in
theorem w_X10_pair_82 {X : Gc} {ad : Nat → Nat} {res : (Int32 × Mem)} {r_34 : Int32 → Int32 → Mem → Option (Int32 × Mem)} (C : Gk X ad cX10_pair "NineTonguesModel" 7 4) (Rt : Gr X ad (some .int) (some (.int res.1)) res.2) (x1 : Int32) (x2 : Int32) (x3 : Int32) (x4 : Int32) (x6 : Int32) (M : Mem) (h_34 : ∀ (x5 : Int32) (x6 : Int32) (M : Mem), r_34 x5 x6 M = some res → G X ad 34 7 [(0, .ref (ad 108)), (1, .int x1), (2, .int x2), (3, .int x3), (4, .int x4), (5, .int x5), (6, .int x6)] [] M) (hf : f_X10_pair_82 r_34 x1 x2 x3 x4 x6 M = some res) : G X ad 82 7 [(0, .ref (ad 108)), (1, .int x1), (2, .int x2), (3, .int x3), (4, .int x4), (6, .int x6)] [] M := by
  unfold f_X10_pair_82 at hf
  refine G.iconst (v := 0) C dX10_pair_82 (by decide) ?_
  exact w_X10_pair_83 C Rt x1 x2 x3 x4 x6 (0 : Int32) M h_34 hf
set_option maxRecDepth 100000 in
set_option maxHeartbeats 4000000 in
theorem w_X10_pair_34_b {X : Gc} {ad : Nat → Nat} {res : (Int32 × Mem)} {r_34 : Int32 → Int32 → Mem → Option (Int32 × Mem)} (C : Gk X ad cX10_pair "NineTonguesModel" 7 4) (Rt : Gr X ad (some .int) (some (.int res.1)) res.2) (x1 : Int32) (x2 : Int32) (x3 : Int32) (x4 : Int32) (h_34 : ∀ (x5 : Int32) (x6 : Int32) (M : Mem), r_34 x5 x6 M = some res → G X ad 34 7 [(0, .ref (ad 108)), (1, .int x1), (2, .int x2), (3, .int x3), (4, .int x4), (5, .int x5), (6, .int x6)] [] M) (x5 : Int32) (x6 : Int32) (M : Mem) (hf : f_X10_pair_34_b r_34 x1 x2 x3 x4 x5 x6 M = some res) : G X ad 34 7 [(0, .ref (ad 108)), (1, .int x1), (2, .int x2), (3, .int x3), (4, .int x4), (5, .int x5), (6, .int x6)] [] M := by
  unfold f_X10_pair_34_b at hf
  refine G.iload (pl := 6) C dX10_pair_34 rfl ?_
  refine G.aload_n (pl := 0) C dX10_pair_36 rfl rfl ?_
  refine gf10_3 C o_108 k4_100 dX10_pair_37 ?_
  refine G.iconst (v := 0) C dX10_pair_40 (by decide) ?_
  refine G.iald (v := (M.1 112 0)) C a_112 (vp_inC (by decide)) rfl dX10_pair_41 ?_
  refine G.icmp_ge (tgt := 91) C dX10_pair_42 (by decide) (fun hc1 => ?_) (fun hc1 => ?_)
  · replace hf := gIf hf hc1
    refine G.sub (lv' := [(0, .ref (ad 108)), (1, .int x1), (2, .int x2), (3, .int x3), (4, .int x4), (5, .int x5)]) [0, 1, 2, 3, 4, 5] rfl ?_
    exact w_X10_pair_91 C Rt x1 x2 x3 x4 x5 M hf
  · replace hf := gIfn hf hc1
    refine G.iload (pl := 5) C dX10_pair_45 rfl ?_
    refine G.if_eq (tgt := 91) C dX10_pair_47 (by decide) (fun hc2 => ?_) (fun hc2 => ?_)
    · replace hf := gIf hf hc2
      refine G.sub (lv' := [(0, .ref (ad 108)), (1, .int x1), (2, .int x2), (3, .int x3), (4, .int x4), (5, .int x5)]) [0, 1, 2, 3, 4, 5] rfl ?_
      exact w_X10_pair_91 C Rt x1 x2 x3 x4 x5 M hf
    · replace hf := gIfn hf hc2
      refine G.aload_n (pl := 0) C dX10_pair_50 rfl rfl ?_
      refine G.iload (pl := 6) C dX10_pair_51 rfl ?_
      refine G.iload_n (pl := 1) C dX10_pair_53 rfl rfl ?_
      refine G.iload_n (pl := 2) C dX10_pair_54 rfl rfl ?_
      refine G.iload_n (pl := 3) C dX10_pair_55 rfl rfl ?_
      refine G.iload (pl := 4) C dX10_pair_56 rfl ?_
      obtain ⟨v1, hr1, hf⟩ := cp_some hf
      refine G.callV (st1 := [.int v1]) C [.int x6, .int x1, .int x2, .int x3, .int x4] [] (c_X10_isAt hr1) mv_X10_isAt k5_159 o_108.1 (fun _ => gShp_20 o_108) rfl rfl rfl rfl rfl (Nat.le_of_ble_eq_true rfl) (by decide) dX10_pair_58 rfl ?_
      refine G.if_ne (tgt := 82) C dX10_pair_61 (by decide) (fun hc3 => ?_) (fun hc3 => ?_)
      · replace hf := gIfn hf hc3
        refine G.sub (lv' := [(0, .ref (ad 108)), (1, .int x1), (2, .int x2), (3, .int x3), (4, .int x4), (6, .int x6)]) [0, 1, 2, 3, 4, 6] rfl ?_
        exact w_X10_pair_82 C Rt x1 x2 x3 x4 x6 M h_34 hf
      · replace hf := gIf hf hc3
        refine G.aload_n (pl := 0) C dX10_pair_64 rfl rfl ?_
        refine G.iload (pl := 6) C dX10_pair_65 rfl ?_
        refine G.iload_n (pl := 3) C dX10_pair_67 rfl rfl ?_
        refine G.iload (pl := 4) C dX10_pair_68 rfl ?_
        refine G.iload_n (pl := 1) C dX10_pair_70 rfl rfl ?_
        refine G.iload_n (pl := 2) C dX10_pair_71 rfl rfl ?_
        obtain ⟨v2, hr2, hf⟩ := cp_some hf
        refine G.callV (st1 := [.int v2]) C [.int x6, .int x3, .int x4, .int x1, .int x2] [] (c_X10_isAt hr2) mv_X10_isAt k5_159 o_108.1 (fun _ => gShp_20 o_108) rfl rfl rfl rfl rfl (Nat.le_of_ble_eq_true rfl) (by decide) dX10_pair_72 rfl ?_
        refine G.if_ne (tgt := 82) C dX10_pair_75 (by decide) (fun hc4 => ?_) (fun hc4 => ?_)
        · replace hf := gIfn hf hc4
          refine G.sub (lv' := [(0, .ref (ad 108)), (1, .int x1), (2, .int x2), (3, .int x3), (4, .int x4), (6, .int x6)]) [0, 1, 2, 3, 4, 6] rfl ?_
          exact w_X10_pair_82 C Rt x1 x2 x3 x4 x6 M h_34 hf
        · replace hf := gIf hf hc4
          refine G.iconst (v := 1) C dX10_pair_78 (by decide) ?_
          refine G.goto (tgt := 83) C dX10_pair_79 (by decide) ?_
          refine G.sub (lv' := [(0, .ref (ad 108)), (1, .int x1), (2, .int x2), (3, .int x3), (4, .int x4), (6, .int x6)]) [0, 1, 2, 3, 4, 6] rfl ?_
          exact w_X10_pair_83 C Rt x1 x2 x3 x4 x6 (1 : Int32) M h_34 hf
theorem w_X10_pair_34 {X : Gc} {ad : Nat → Nat} {res : (Int32 × Mem)} (C : Gk X ad cX10_pair "NineTonguesModel" 7 4) (Rt : Gr X ad (some .int) (some (.int res.1)) res.2) (x1 : Int32) (x2 : Int32) (x3 : Int32) (x4 : Int32) : ∀ (n : Nat) (x5 : Int32) (x6 : Int32) (M : Mem), f_X10_pair_34 x1 x2 x3 x4 n x5 x6 M = some res → G X ad 34 7 [(0, .ref (ad 108)), (1, .int x1), (2, .int x2), (3, .int x3), (4, .int x4), (5, .int x5), (6, .int x6)] [] M := by
  intro n
  induction n with
  | zero => intro x5 x6 M hf; exact absurd (show (none : Option (Int32 × Mem)) = some res from hf) (fun h => nomatch h)
  | succ n ih => intro x5 x6 M hf; exact w_X10_pair_34_b C Rt x1 x2 x3 x4 ih x5 x6 M hf
set_option maxRecDepth 100000 in
set_option maxHeartbeats 4000000 in
theorem w_X10_pair_29 {X : Gc} {ad : Nat → Nat} {res : (Int32 × Mem)} (C : Gk X ad cX10_pair "NineTonguesModel" 7 4) (Rt : Gr X ad (some .int) (some (.int res.1)) res.2) (x1 : Int32) (x2 : Int32) (x3 : Int32) (x4 : Int32) (t0 : Int32) (M : Mem) (hf : f_X10_pair_29 x1 x2 x3 x4 t0 M = some res) : G X ad 29 7 [(0, .ref (ad 108)), (1, .int x1), (2, .int x2), (3, .int x3), (4, .int x4)] [.int t0] M := by
  unfold f_X10_pair_29 at hf
  refine G.istore (lv' := [(5, .int t0), (0, .ref (ad 108)), (1, .int x1), (2, .int x2), (3, .int x3), (4, .int x4)]) C dX10_pair_29 (by decide) rfl ?_
  refine G.iconst (v := 0) C dX10_pair_31 (by decide) ?_
  refine G.istore (lv' := [(6, .int (0 : Int32)), (5, .int t0), (0, .ref (ad 108)), (1, .int x1), (2, .int x2), (3, .int x3), (4, .int x4)]) C dX10_pair_32 (by decide) rfl ?_
  refine G.sub (lv' := [(0, .ref (ad 108)), (1, .int x1), (2, .int x2), (3, .int x3), (4, .int x4), (5, .int t0), (6, .int (0 : Int32))]) [2, 3, 4, 5, 6, 1, 0] rfl ?_
  exact w_X10_pair_34 C Rt x1 x2 x3 x4 FU t0 (0 : Int32) M hf
set_option maxRecDepth 100000 in
set_option maxHeartbeats 4000000 in
theorem w_X10_pair_28 {X : Gc} {ad : Nat → Nat} {res : (Int32 × Mem)} (C : Gk X ad cX10_pair "NineTonguesModel" 7 4) (Rt : Gr X ad (some .int) (some (.int res.1)) res.2) (x1 : Int32) (x2 : Int32) (x3 : Int32) (x4 : Int32) (M : Mem) (hf : f_X10_pair_28 x1 x2 x3 x4 M = some res) : G X ad 28 7 [(0, .ref (ad 108)), (1, .int x1), (2, .int x2), (3, .int x3), (4, .int x4)] [] M := by
  unfold f_X10_pair_28 at hf
  refine G.iconst (v := 0) C dX10_pair_28 (by decide) ?_
  exact w_X10_pair_29 C Rt x1 x2 x3 x4 (0 : Int32) M hf
set_option maxRecDepth 100000 in
set_option maxHeartbeats 4000000 in
theorem w_X10_pair_E {X : Gc} {ad : Nat → Nat} {res : (Int32 × Mem)} (C : Gk X ad cX10_pair "NineTonguesModel" 7 4) (Rt : Gr X ad (some .int) (some (.int res.1)) res.2) (x1 : Int32) (x2 : Int32) (x3 : Int32) (x4 : Int32) (M : Mem) (hf : f_X10_pair x1 x2 x3 x4 M = some res) : G X ad 0 7 [(0, .ref (ad 108)), (1, .int x1), (2, .int x2), (3, .int x3), (4, .int x4)] [] M := by
  unfold f_X10_pair at hf
  refine G.aload_n (pl := 0) C dX10_pair_0 rfl rfl ?_
  refine G.iload_n (pl := 1) C dX10_pair_1 rfl rfl ?_
  refine G.iload_n (pl := 2) C dX10_pair_2 rfl rfl ?_
  obtain ⟨v1, hr1, hf⟩ := cp_some hf
  refine G.callV (st1 := [.int v1]) C [.int x1, .int x2] [] (c_X10_isWord hr1) mv_X10_isWord k4_228 o_108.1 (fun _ => gShp_20 o_108) rfl rfl rfl rfl rfl (Nat.le_of_ble_eq_true rfl) (by decide) dX10_pair_3 rfl ?_
  refine G.if_eq (tgt := 28) C dX10_pair_6 (by decide) (fun hc1 => ?_) (fun hc1 => ?_)
  · replace hf := gIf hf hc1
    exact w_X10_pair_28 C Rt x1 x2 x3 x4 M hf
  · replace hf := gIfn hf hc1
    refine G.aload_n (pl := 0) C dX10_pair_9 rfl rfl ?_
    refine G.iload_n (pl := 3) C dX10_pair_10 rfl rfl ?_
    refine G.iload (pl := 4) C dX10_pair_11 rfl ?_
    obtain ⟨v2, hr2, hf⟩ := cp_some hf
    refine G.callV (st1 := [.int v2]) C [.int x3, .int x4] [] (c_X10_isWord hr2) mv_X10_isWord k4_228 o_108.1 (fun _ => gShp_20 o_108) rfl rfl rfl rfl rfl (Nat.le_of_ble_eq_true rfl) (by decide) dX10_pair_13 rfl ?_
    refine G.if_eq (tgt := 28) C dX10_pair_16 (by decide) (fun hc2 => ?_) (fun hc2 => ?_)
    · replace hf := gIf hf hc2
      exact w_X10_pair_28 C Rt x1 x2 x3 x4 M hf
    · replace hf := gIfn hf hc2
      refine G.iload_n (pl := 1) C dX10_pair_19 rfl rfl ?_
      refine G.iload_n (pl := 3) C dX10_pair_20 rfl rfl ?_
      refine G.icmp_eq (tgt := 28) C dX10_pair_21 (by decide) (fun hc3 => ?_) (fun hc3 => ?_)
      · replace hf := gIf hf hc3
        exact w_X10_pair_28 C Rt x1 x2 x3 x4 M hf
      · replace hf := gIfn hf hc3
        refine G.iconst (v := 1) C dX10_pair_24 (by decide) ?_
        refine G.goto (tgt := 29) C dX10_pair_25 (by decide) ?_
        exact w_X10_pair_29 C Rt x1 x2 x3 x4 (1 : Int32) M hf
theorem mv_X10_pair : gMV yX10_pair cX10_pair 7 (some .int) 4 := ⟨k5_156, k5_157, k1_12, k5_158, ⟨by decide +kernel, by decide +kernel, by decide +kernel⟩, by decide⟩
theorem c_X10_pair {res : (Int32 × Mem)} {x1 : Int32} {x2 : Int32} {x3 : Int32} {x4 : Int32} {M : Mem} (hf : f_X10_pair x1 x2 x3 x4 M = some res) : Ct yX10_pair cX10_pair 7 (some .int) 4 (fun ad => [.ref (ad 108), .int x1, .int x2, .int x3, .int x4]) M (some (.int res.1)) res.2 :=
  Ct.of (by decide +kernel) (fun _ => Nat.le_of_ble_eq_true rfl) (fun X ad C Rt => w_X10_pair_E C Rt x1 x2 x3 x4 M hf)
set_option maxRecDepth 100000 in
set_option maxHeartbeats 4000000 in
theorem w_X10_leads_54 {X : Gc} {ad : Nat → Nat} {res : Int32} {M : Mem} (C : Gk X ad cX10_leads "NineTonguesModel" 5 1) (Rt : Gr X ad (some .int) (some (.int res)) M) (x1 : Int32) (x2 : Int32) (x3 : Int32) (x4 : Int32) (hf : f_X10_leads_54 M x1 x2 x3 x4 = some res) : G X ad 54 5 [(0, .ref (ad 108)), (1, .int x1), (2, .int x2), (3, .int x3), (4, .int x4)] [] M := by
  unfold f_X10_leads_54 at hf
  refine G.aload_n (pl := 0) C dX10_leads_54 rfl rfl ?_
  refine gf10_7 C o_108 k4_104 dX10_leads_55 ?_
  refine G.iconst (v := 4) C dX10_leads_58 (by decide) ?_
  refine G.iload_n (pl := 1) C dX10_leads_59 rfl rfl ?_
  refine G.imul C dX10_leads_60 ?_
  refine G.iconst (v := 2) C dX10_leads_61 (by decide) ?_
  refine G.iadd C dX10_leads_62 ?_
  obtain ⟨v1, ev1, hi1, hf⟩ := rd_some hf
  refine G.iald C a_116 hi1 ev1 dX10_leads_63 ?_
  refine G.iload_n (pl := 2) C dX10_leads_64 rfl rfl ?_
  refine G.icmp_ne (tgt := 108) C dX10_leads_65 (by decide) (fun hc1 => ?_) (fun hc1 => ?_)
  · replace hf := gIfn hf hc1
    refine G.iconst (v := (-1)) C dX10_leads_108 (by decide) ?_
    cases hf
    exact G.iret C Rt dX10_leads_109
  · replace hf := gIf hf hc1
    refine G.aload_n (pl := 0) C dX10_leads_68 rfl rfl ?_
    refine gf10_7 C o_108 k4_104 dX10_leads_69 ?_
    refine G.iconst (v := 4) C dX10_leads_72 (by decide) ?_
    refine G.iload_n (pl := 1) C dX10_leads_73 rfl rfl ?_
    refine G.imul C dX10_leads_74 ?_
    refine G.iconst (v := 3) C dX10_leads_75 (by decide) ?_
    refine G.iadd C dX10_leads_76 ?_
    obtain ⟨v2, ev2, hi2, hf⟩ := rd_some hf
    refine G.iald C a_116 hi2 ev2 dX10_leads_77 ?_
    refine G.iload_n (pl := 3) C dX10_leads_78 rfl rfl ?_
    refine G.icmp_ne (tgt := 108) C dX10_leads_79 (by decide) (fun hc2 => ?_) (fun hc2 => ?_)
    · replace hf := gIfn hf hc2
      refine G.iconst (v := (-1)) C dX10_leads_108 (by decide) ?_
      cases hf
      exact G.iret C Rt dX10_leads_109
    · replace hf := gIf hf hc2
      refine G.aload_n (pl := 0) C dX10_leads_82 rfl rfl ?_
      refine gf10_7 C o_108 k4_104 dX10_leads_83 ?_
      refine G.iconst (v := 4) C dX10_leads_86 (by decide) ?_
      refine G.iload_n (pl := 1) C dX10_leads_87 rfl rfl ?_
      refine G.imul C dX10_leads_88 ?_
      obtain ⟨v3, ev3, hi3, hf⟩ := rd_some hf
      refine G.iald C a_116 hi3 ev3 dX10_leads_89 ?_
      refine G.iload (pl := 4) C dX10_leads_90 rfl ?_
      refine G.icmp_ne (tgt := 108) C dX10_leads_92 (by decide) (fun hc3 => ?_) (fun hc3 => ?_)
      · replace hf := gIfn hf hc3
        refine G.iconst (v := (-1)) C dX10_leads_108 (by decide) ?_
        cases hf
        exact G.iret C Rt dX10_leads_109
      · replace hf := gIf hf hc3
        refine G.aload_n (pl := 0) C dX10_leads_95 rfl rfl ?_
        refine gf10_7 C o_108 k4_104 dX10_leads_96 ?_
        refine G.iconst (v := 4) C dX10_leads_99 (by decide) ?_
        refine G.iload_n (pl := 1) C dX10_leads_100 rfl rfl ?_
        refine G.imul C dX10_leads_101 ?_
        refine G.iconst (v := 1) C dX10_leads_102 (by decide) ?_
        refine G.iadd C dX10_leads_103 ?_
        obtain ⟨v4, ev4, hi4, hf⟩ := rd_some hf
        refine G.iald C a_116 hi4 ev4 dX10_leads_104 ?_
        refine G.goto (tgt := 109) C dX10_leads_105 (by decide) ?_
        cases hf
        exact G.iret C Rt dX10_leads_109
set_option maxRecDepth 100000 in
set_option maxHeartbeats 4000000 in
theorem w_X10_leads_E {X : Gc} {ad : Nat → Nat} {res : Int32} {M : Mem} (C : Gk X ad cX10_leads "NineTonguesModel" 5 1) (Rt : Gr X ad (some .int) (some (.int res)) M) (x1 : Int32) (x2 : Int32) (x3 : Int32) (x4 : Int32) (hf : f_X10_leads x1 x2 x3 x4 M = some res) : G X ad 0 5 [(0, .ref (ad 108)), (1, .int x1), (2, .int x2), (3, .int x3), (4, .int x4)] [] M := by
  unfold f_X10_leads at hf
  refine G.aload_n (pl := 0) C dX10_leads_0 rfl rfl ?_
  refine gf10_7 C o_108 k4_104 dX10_leads_1 ?_
  refine G.iconst (v := 4) C dX10_leads_4 (by decide) ?_
  refine G.iload_n (pl := 1) C dX10_leads_5 rfl rfl ?_
  refine G.imul C dX10_leads_6 ?_
  obtain ⟨v1, ev1, hi1, hf⟩ := rd_some hf
  refine G.iald C a_116 hi1 ev1 dX10_leads_7 ?_
  refine G.iload_n (pl := 2) C dX10_leads_8 rfl rfl ?_
  refine G.icmp_ne (tgt := 54) C dX10_leads_9 (by decide) (fun hc1 => ?_) (fun hc1 => ?_)
  · replace hf := gIfn hf hc1
    exact w_X10_leads_54 C Rt x1 x2 x3 x4 hf
  · replace hf := gIf hf hc1
    refine G.aload_n (pl := 0) C dX10_leads_12 rfl rfl ?_
    refine gf10_7 C o_108 k4_104 dX10_leads_13 ?_
    refine G.iconst (v := 4) C dX10_leads_16 (by decide) ?_
    refine G.iload_n (pl := 1) C dX10_leads_17 rfl rfl ?_
    refine G.imul C dX10_leads_18 ?_
    refine G.iconst (v := 1) C dX10_leads_19 (by decide) ?_
    refine G.iadd C dX10_leads_20 ?_
    obtain ⟨v2, ev2, hi2, hf⟩ := rd_some hf
    refine G.iald C a_116 hi2 ev2 dX10_leads_21 ?_
    refine G.iload_n (pl := 3) C dX10_leads_22 rfl rfl ?_
    refine G.icmp_ne (tgt := 54) C dX10_leads_23 (by decide) (fun hc2 => ?_) (fun hc2 => ?_)
    · replace hf := gIfn hf hc2
      exact w_X10_leads_54 C Rt x1 x2 x3 x4 hf
    · replace hf := gIf hf hc2
      refine G.aload_n (pl := 0) C dX10_leads_26 rfl rfl ?_
      refine gf10_7 C o_108 k4_104 dX10_leads_27 ?_
      refine G.iconst (v := 4) C dX10_leads_30 (by decide) ?_
      refine G.iload_n (pl := 1) C dX10_leads_31 rfl rfl ?_
      refine G.imul C dX10_leads_32 ?_
      refine G.iconst (v := 2) C dX10_leads_33 (by decide) ?_
      refine G.iadd C dX10_leads_34 ?_
      obtain ⟨v3, ev3, hi3, hf⟩ := rd_some hf
      refine G.iald C a_116 hi3 ev3 dX10_leads_35 ?_
      refine G.iload (pl := 4) C dX10_leads_36 rfl ?_
      refine G.icmp_ne (tgt := 54) C dX10_leads_38 (by decide) (fun hc3 => ?_) (fun hc3 => ?_)
      · replace hf := gIfn hf hc3
        exact w_X10_leads_54 C Rt x1 x2 x3 x4 hf
      · replace hf := gIf hf hc3
        refine G.aload_n (pl := 0) C dX10_leads_41 rfl rfl ?_
        refine gf10_7 C o_108 k4_104 dX10_leads_42 ?_
        refine G.iconst (v := 4) C dX10_leads_45 (by decide) ?_
        refine G.iload_n (pl := 1) C dX10_leads_46 rfl rfl ?_
        refine G.imul C dX10_leads_47 ?_
        refine G.iconst (v := 3) C dX10_leads_48 (by decide) ?_
        refine G.iadd C dX10_leads_49 ?_
        obtain ⟨v4, ev4, hi4, hf⟩ := rd_some hf
        refine G.iald C a_116 hi4 ev4 dX10_leads_50 ?_
        refine G.goto (tgt := 109) C dX10_leads_51 (by decide) ?_
        cases hf
        exact G.iret C Rt dX10_leads_109
theorem mv_X10_leads : gMV yX10_leads cX10_leads 5 (some .int) 4 := ⟨k5_177, kS_53, k1_12, k5_178, ⟨by decide +kernel, by decide +kernel, by decide +kernel⟩, by decide⟩
theorem c_X10_leads {res : Int32} {x1 : Int32} {x2 : Int32} {x3 : Int32} {x4 : Int32} {M : Mem} (hf : f_X10_leads x1 x2 x3 x4 M = some res) : Ct yX10_leads cX10_leads 5 (some .int) 1 (fun ad => [.ref (ad 108), .int x1, .int x2, .int x3, .int x4]) M (some (.int res)) M :=
  Ct.of (by decide +kernel) (fun _ => Nat.le_of_ble_eq_true rfl) (fun X ad C Rt => w_X10_leads_E C Rt x1 x2 x3 x4 hf)
