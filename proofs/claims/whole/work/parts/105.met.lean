set_option maxRecDepth 100000 in
set_option maxHeartbeats 4000000 in
theorem w_X9_round_45 {X : Gc} {ad : Nat → Nat} {res : (Int32 × Mem)} (C : Gk X ad cX9_round "NineTongues" 7 7) (Rt : Gr X ad (some .int) (some (.int res.1)) res.2) (M : Mem) (hf : f_X9_round_45 M = some res) : G X ad 45 7 [(0, .ref (ad 0))] [] M := by
  unfold f_X9_round_45 at hf
  refine G.aload_n (pl := 0) C dX9_round_45 rfl rfl ?_
  refine G.bipush (v := (-2)) C dX9_round_46 (by decide) ?_
  obtain ⟨v1, M1, hr1, hf⟩ := cl_some hf
  refine G.callV (st1 := [.int v1]) C [.int (-2 : Int32)] [] (c_X9_refuse hr1) mv_X9_refuse k2_88 o_0.1 (fun _ => gShp_19 o_0) rfl rfl rfl rfl rfl (Nat.le_of_ble_eq_true rfl) (by decide) dX9_round_48 rfl ?_
  cases hf
  exact G.iret C Rt dX9_round_51
set_option maxRecDepth 100000 in
set_option maxHeartbeats 4000000 in
theorem w_X9_round_93 {X : Gc} {ad : Nat → Nat} {res : (Int32 × Mem)} (C : Gk X ad cX9_round "NineTongues" 7 7) (Rt : Gr X ad (some .int) (some (.int res.1)) res.2) (M : Mem) (hf : f_X9_round_93 M = some res) : G X ad 93 7 [(0, .ref (ad 0))] [] M := by
  unfold f_X9_round_93 at hf
  refine G.aload_n (pl := 0) C dX9_round_93 rfl rfl ?_
  refine G.bipush (v := (-3)) C dX9_round_94 (by decide) ?_
  obtain ⟨v1, M1, hr1, hf⟩ := cl_some hf
  refine G.callV (st1 := [.int v1]) C [.int (-3 : Int32)] [] (c_X9_refuse hr1) mv_X9_refuse k2_88 o_0.1 (fun _ => gShp_19 o_0) rfl rfl rfl rfl rfl (Nat.le_of_ble_eq_true rfl) (by decide) dX9_round_96 rfl ?_
  cases hf
  exact G.iret C Rt dX9_round_99
set_option maxRecDepth 100000 in
set_option maxHeartbeats 4000000 in
theorem w_X9_round_117_b {X : Gc} {ad : Nat → Nat} {res : (Int32 × Mem)} {r_117 : Int32 → Mem → Option (Int32 × Mem)} (C : Gk X ad cX9_round "NineTongues" 7 7) (Rt : Gr X ad (some .int) (some (.int res.1)) res.2) (x1 : Int32) (x2 : Int32) (x3 : Int32) (x4 : Int32) (h_117 : ∀ (x5 : Int32) (M : Mem), r_117 x5 M = some res → G X ad 117 7 [(0, .ref (ad 0)), (1, .int x1), (2, .int x2), (3, .int x3), (4, .int x4), (5, .int x5)] [] M) (x5 : Int32) (M : Mem) (hf : f_X9_round_117_b r_117 x1 x2 x3 x4 x5 M = some res) : G X ad 117 7 [(0, .ref (ad 0)), (1, .int x1), (2, .int x2), (3, .int x3), (4, .int x4), (5, .int x5)] [] M := by
  unfold f_X9_round_117_b at hf
  refine G.iload (pl := 5) C dX9_round_117 rfl ?_
  refine G.sipush (v := 1000) C dX9_round_119 (by decide) ?_
  refine G.icmp_gt (tgt := 175) C dX9_round_122 (by decide) (fun hc1 => ?_) (fun hc1 => ?_)
  · replace hf := gIf hf hc1
    refine G.iconst (v := (-1)) C dX9_round_175 (by decide) ?_
    cases hf
    exact G.iret C Rt dX9_round_176
  · replace hf := gIfn hf hc1
    refine G.aload_n (pl := 0) C dX9_round_125 rfl rfl ?_
    refine G.aload_n (pl := 0) C dX9_round_126 rfl rfl ?_
    refine gf9_10 C o_0 k2_54 dX9_round_127 ?_
    refine G.iload_n (pl := 1) C dX9_round_130 rfl rfl ?_
    refine G.iload_n (pl := 2) C dX9_round_131 rfl rfl ?_
    refine G.iload_n (pl := 3) C dX9_round_132 rfl rfl ?_
    obtain ⟨u, M1, hr1, hf⟩ := cl_some hf
    refine G.callV (st1 := []) C [.ref (ad 100), .int x1, .int x2, .int x3] [] (c_X9_goRound o_100 hr1) mv_X9_goRound k3_109 o_0.1 (fun _ => gShp_19 o_0) rfl rfl rfl rfl rfl (Nat.le_of_ble_eq_true rfl) (by decide) dX9_round_133 rfl ?_
    refine G.aload_n (pl := 0) C dX9_round_136 rfl rfl ?_
    refine G.iload_n (pl := 1) C dX9_round_137 rfl rfl ?_
    refine G.iload_n (pl := 2) C dX9_round_138 rfl rfl ?_
    refine G.iload_n (pl := 3) C dX9_round_139 rfl rfl ?_
    refine G.iload (pl := 5) C dX9_round_140 rfl ?_
    obtain ⟨v1, M2, hr2, hf⟩ := cl_some hf
    refine G.callV (st1 := [.int v1]) C [.int x1, .int x2, .int x3, .int x5] [] (c_X9_roundLikeNow hr2) mv_X9_roundLikeNow k3_113 o_0.1 (fun _ => gShp_19 o_0) rfl rfl rfl rfl rfl (Nat.le_of_ble_eq_true rfl) (by decide) dX9_round_142 rfl ?_
    refine G.istore (lv' := [(6, .int v1), (0, .ref (ad 0)), (1, .int x1), (2, .int x2), (3, .int x3), (4, .int x4), (5, .int x5)]) C dX9_round_145 (by decide) rfl ?_
    refine G.iload (pl := 0) C dX9_round_147 rfl ?_
    refine G.iconst (v := (-1)) C dX9_round_149 (by decide) ?_
    refine G.icmp_eq (tgt := 169) C dX9_round_150 (by decide) (fun hc2 => ?_) (fun hc2 => ?_)
    · replace hf := gIf hf hc2
      refine G.iinc (pl := 6) (v := (x5 + 1)) (lv' := [(5, .int (x5 + 1)), (6, .int v1), (0, .ref (ad 0)), (1, .int x1), (2, .int x2), (3, .int x3), (4, .int x4)]) C dX9_round_169 rfl rfl (by decide) rfl ?_
      refine G.goto (tgt := 117) C dX9_round_172 (by decide) ?_
      refine G.sub (lv' := [(0, .ref (ad 0)), (1, .int x1), (2, .int x2), (3, .int x3), (4, .int x4), (5, .int (x5 + 1))]) [2, 3, 4, 5, 6, 0] rfl ?_
      exact h_117 (x5 + 1) M2 hf
    · replace hf := gIfn hf hc2
      refine G.iload (pl := 5) C dX9_round_153 rfl ?_
      refine G.if_ne (tgt := 163) C dX9_round_155 (by decide) (fun hc3 => ?_) (fun hc3 => ?_)
      · replace hf := gIfn hf hc3
        refine G.iload (pl := 6) C dX9_round_163 rfl ?_
        refine G.iload (pl := 0) C dX9_round_165 rfl ?_
        refine G.isub C dX9_round_167 ?_
        cases hf
        exact G.iret C Rt dX9_round_168
      · replace hf := gIf hf hc3
        refine G.iload (pl := 0) C dX9_round_158 rfl ?_
        refine G.goto (tgt := 168) C dX9_round_160 (by decide) ?_
        cases hf
        exact G.iret C Rt dX9_round_168
theorem w_X9_round_117 {X : Gc} {ad : Nat → Nat} {res : (Int32 × Mem)} (C : Gk X ad cX9_round "NineTongues" 7 7) (Rt : Gr X ad (some .int) (some (.int res.1)) res.2) (x1 : Int32) (x2 : Int32) (x3 : Int32) (x4 : Int32) : ∀ (n : Nat) (x5 : Int32) (M : Mem), f_X9_round_117 x1 x2 x3 x4 n x5 M = some res → G X ad 117 7 [(0, .ref (ad 0)), (1, .int x1), (2, .int x2), (3, .int x3), (4, .int x4), (5, .int x5)] [] M := by
  intro n
  induction n with
  | zero => intro x5 M hf; exact absurd (show (none : Option (Int32 × Mem)) = some res from hf) (fun h => nomatch h)
  | succ n ih => intro x5 M hf; exact w_X9_round_117_b C Rt x1 x2 x3 x4 ih x5 M hf
set_option maxRecDepth 100000 in
set_option maxHeartbeats 4000000 in
theorem w_X9_round_E {X : Gc} {ad : Nat → Nat} {res : (Int32 × Mem)} (C : Gk X ad cX9_round "NineTongues" 7 7) (Rt : Gr X ad (some .int) (some (.int res.1)) res.2) (x1 : Int32) (x2 : Int32) (x3 : Int32) (x4 : Int32) (M : Mem) (hf : f_X9_round x1 x2 x3 x4 M = some res) : G X ad 0 7 [(0, .ref (ad 0)), (1, .int x1), (2, .int x2), (3, .int x3), (4, .int x4)] [] M := by
  unfold f_X9_round at hf
  refine G.iload_n (pl := 1) C dX9_round_0 rfl rfl ?_
  obtain ⟨v1, hr1, hf⟩ := cp_some hf
  refine G.callS (st1 := [.int v1]) C [.int x1] [] (c_X9_isKind hr1) mv_X9_isKind k2_138 rfl rfl rfl (Nat.le_of_ble_eq_true rfl) (by decide) dX9_round_1 rfl ?_
  refine G.if_eq (tgt := 45) C dX9_round_4 (by decide) (fun hc1 => ?_) (fun hc1 => ?_)
  · replace hf := gIf hf hc1
    refine G.sub (lv' := [(0, .ref (ad 0))]) [0] rfl ?_
    exact w_X9_round_45 C Rt M hf
  · replace hf := gIfn hf hc1
    refine G.aload_n (pl := 0) C dX9_round_7 rfl rfl ?_
    refine gf9_0 C o_0 k2_44 dX9_round_8 ?_
    refine gf8_0 C o_5 k1_174 dX9_round_11 ?_
    refine G.iload_n (pl := 2) C dX9_round_14 rfl rfl ?_
    obtain ⟨v2, hr2, hf⟩ := cp_some hf
    refine G.callV (st1 := [.int v2]) C [.int x2] [] (c_X1_hasTongue hr2) mv_X1_hasTongue k2_104 o_6.1 (fun _ => gShp_11 o_6) rfl rfl rfl rfl rfl (Nat.le_of_ble_eq_true rfl) (by decide) dX9_round_15 rfl ?_
    refine G.if_eq (tgt := 45) C dX9_round_18 (by decide) (fun hc2 => ?_) (fun hc2 => ?_)
    · replace hf := gIf hf hc2
      refine G.sub (lv' := [(0, .ref (ad 0))]) [0] rfl ?_
      exact w_X9_round_45 C Rt M hf
    · replace hf := gIfn hf hc2
      refine G.aload_n (pl := 0) C dX9_round_21 rfl rfl ?_
      refine gf9_0 C o_0 k2_44 dX9_round_22 ?_
      refine gf8_0 C o_5 k1_174 dX9_round_25 ?_
      refine G.iload_n (pl := 3) C dX9_round_28 rfl rfl ?_
      obtain ⟨v3, hr3, hf⟩ := cp_some hf
      refine G.callV (st1 := [.int v3]) C [.int x3] [] (c_X1_hasTongue hr3) mv_X1_hasTongue k2_104 o_6.1 (fun _ => gShp_11 o_6) rfl rfl rfl rfl rfl (Nat.le_of_ble_eq_true rfl) (by decide) dX9_round_29 rfl ?_
      refine G.if_eq (tgt := 45) C dX9_round_32 (by decide) (fun hc3 => ?_) (fun hc3 => ?_)
      · replace hf := gIf hf hc3
        refine G.sub (lv' := [(0, .ref (ad 0))]) [0] rfl ?_
        exact w_X9_round_45 C Rt M hf
      · replace hf := gIfn hf hc3
        refine G.iload (pl := 4) C dX9_round_35 rfl ?_
        refine G.iconst (v := 0) C dX9_round_37 (by decide) ?_
        refine G.iconst (v := 1) C dX9_round_38 (by decide) ?_
        obtain ⟨v4, hr4, hf⟩ := cp_some hf
        refine G.callS (st1 := [.int v4]) C [.int x4, .int (0 : Int32), .int (1 : Int32)] [] (c_X9_isIn hr4) mv_X9_isIn k2_85 rfl rfl rfl (Nat.le_of_ble_eq_true rfl) (by decide) dX9_round_39 rfl ?_
        refine G.if_ne (tgt := 52) C dX9_round_42 (by decide) (fun hc4 => ?_) (fun hc4 => ?_)
        · replace hf := gIfn hf hc4
          refine G.aload_n (pl := 0) C dX9_round_52 rfl rfl ?_
          refine gf9_0 C o_0 k2_44 dX9_round_53 ?_
          refine gf8_1 C o_5 k1_177 dX9_round_56 ?_
          refine gf7_0 C o_14 k1_91 dX9_round_59 ?_
          refine G.if_eq (tgt := 93) C dX9_round_62 (by decide) (fun hc5 => ?_) (fun hc5 => ?_)
          · replace hf := gIf hf hc5
            refine G.sub (lv' := [(0, .ref (ad 0))]) [0] rfl ?_
            exact w_X9_round_93 C Rt M hf
          · replace hf := gIfn hf hc5
            refine G.aload_n (pl := 0) C dX9_round_65 rfl rfl ?_
            refine gf9_0 C o_0 k2_44 dX9_round_66 ?_
            refine gf8_0 C o_5 k1_174 dX9_round_69 ?_
            refine G.iload_n (pl := 2) C dX9_round_72 rfl rfl ?_
            obtain ⟨v5, hr5, hf⟩ := cp_some hf
            refine G.callV (st1 := [.int v5]) C [.int x2] [] (c_X1_hasWords hr5) mv_X1_hasWords k3_64 o_6.1 (fun _ => gShp_11 o_6) rfl rfl rfl rfl rfl (Nat.le_of_ble_eq_true rfl) (by decide) dX9_round_73 rfl ?_
            refine G.if_eq (tgt := 93) C dX9_round_76 (by decide) (fun hc6 => ?_) (fun hc6 => ?_)
            · replace hf := gIf hf hc6
              refine G.sub (lv' := [(0, .ref (ad 0))]) [0] rfl ?_
              exact w_X9_round_93 C Rt M hf
            · replace hf := gIfn hf hc6
              refine G.aload_n (pl := 0) C dX9_round_79 rfl rfl ?_
              refine gf9_0 C o_0 k2_44 dX9_round_80 ?_
              refine gf8_0 C o_5 k1_174 dX9_round_83 ?_
              refine G.iload_n (pl := 3) C dX9_round_86 rfl rfl ?_
              obtain ⟨v6, hr6, hf⟩ := cp_some hf
              refine G.callV (st1 := [.int v6]) C [.int x3] [] (c_X1_hasWords hr6) mv_X1_hasWords k3_64 o_6.1 (fun _ => gShp_11 o_6) rfl rfl rfl rfl rfl (Nat.le_of_ble_eq_true rfl) (by decide) dX9_round_87 rfl ?_
              refine G.if_ne (tgt := 100) C dX9_round_90 (by decide) (fun hc7 => ?_) (fun hc7 => ?_)
              · replace hf := gIfn hf hc7
                refine G.aload_n (pl := 0) C dX9_round_100 rfl rfl ?_
                refine gf9_10 C o_0 k2_54 dX9_round_101 ?_
                refine G.aload_n (pl := 0) C dX9_round_104 rfl rfl ?_
                refine gf9_0 C o_0 k2_44 dX9_round_105 ?_
                refine gf8_1 C o_5 k1_177 dX9_round_108 ?_
                obtain ⟨u, M1, hr7, hf⟩ := cl_some hf
                refine G.callV (st1 := []) C [.ref (ad 14)] [] (c_X7_copyFrom o_100 o_14 hr7) mv_X7_copyFrom k3_5 o_100.1 (fun _ => gShp_17 o_100) rfl rfl rfl rfl rfl (Nat.le_of_ble_eq_true rfl) (by decide) dX9_round_111 rfl ?_
                refine G.iconst (v := 1) C dX9_round_114 (by decide) ?_
                refine G.istore (lv' := [(5, .int (1 : Int32)), (0, .ref (ad 0)), (1, .int x1), (2, .int x2), (3, .int x3), (4, .int x4)]) C dX9_round_115 (by decide) rfl ?_
                refine G.sub (lv' := [(0, .ref (ad 0)), (1, .int x1), (2, .int x2), (3, .int x3), (4, .int x4), (5, .int (1 : Int32))]) [1, 2, 3, 4, 5, 0] rfl ?_
                exact w_X9_round_117 C Rt x1 x2 x3 x4 FU (1 : Int32) M1 hf
              · replace hf := gIf hf hc7
                refine G.sub (lv' := [(0, .ref (ad 0))]) [0] rfl ?_
                exact w_X9_round_93 C Rt M hf
        · replace hf := gIf hf hc4
          refine G.sub (lv' := [(0, .ref (ad 0))]) [0] rfl ?_
          exact w_X9_round_45 C Rt M hf
theorem mv_X9_round : gMV yX9_round cX9_round 7 (some .int) 4 := ⟨k3_106, k3_107, k1_1, k3_108, ⟨by decide +kernel, by decide +kernel, by decide +kernel⟩, by decide⟩
theorem c_X9_round {res : (Int32 × Mem)} {x1 : Int32} {x2 : Int32} {x3 : Int32} {x4 : Int32} {M : Mem} (hf : f_X9_round x1 x2 x3 x4 M = some res) : Ct yX9_round cX9_round 7 (some .int) 7 (fun ad => [.ref (ad 0), .int x1, .int x2, .int x3, .int x4]) M (some (.int res.1)) res.2 :=
  Ct.of (by decide +kernel) (fun _ => Nat.le_of_ble_eq_true rfl) (fun X ad C Rt => w_X9_round_E C Rt x1 x2 x3 x4 M hf)
set_option maxRecDepth 100000 in
set_option maxHeartbeats 4000000 in
theorem w_X9_common_15 {X : Gc} {ad : Nat → Nat} {res : (Int32 × Mem)} (C : Gk X ad cX9_common "NineTongues" 7 5) (Rt : Gr X ad (some .int) (some (.int res.1)) res.2) (M : Mem) (hf : f_X9_common_15 M = some res) : G X ad 15 7 [(0, .ref (ad 0))] [] M := by
  unfold f_X9_common_15 at hf
  refine G.aload_n (pl := 0) C dX9_common_15 rfl rfl ?_
  refine G.bipush (v := (-2)) C dX9_common_16 (by decide) ?_
  obtain ⟨v1, M1, hr1, hf⟩ := cl_some hf
  refine G.callV (st1 := [.int v1]) C [.int (-2 : Int32)] [] (c_X9_refuse hr1) mv_X9_refuse k2_88 o_0.1 (fun _ => gShp_19 o_0) rfl rfl rfl rfl rfl (Nat.le_of_ble_eq_true rfl) (by decide) dX9_common_18 rfl ?_
  cases hf
  exact G.iret C Rt dX9_common_21
set_option maxRecDepth 100000 in
set_option maxHeartbeats 4000000 in
theorem w_X9_common_113 {X : Gc} {ad : Nat → Nat} {res : (Int32 × Mem)} {r_55 : Int32 → Int32 → Mem → Option (Int32 × Mem)} (C : Gk X ad cX9_common "NineTongues" 7 5) (Rt : Gr X ad (some .int) (some (.int res.1)) res.2) (x1 : Int32) (x2 : Int32) (x4 : Int32) (x5 : Int32) (M : Mem) (h_55 : ∀ (x4 : Int32) (x5 : Int32) (M : Mem), r_55 x4 x5 M = some res → G X ad 55 7 [(0, .ref (ad 0)), (1, .int x1), (2, .int x2), (3, .ref (ad 6)), (4, .int x4), (5, .int x5)] [] M) (hf : f_X9_common_113 r_55 x1 x2 x4 x5 M = some res) : G X ad 113 7 [(0, .ref (ad 0)), (1, .int x1), (2, .int x2), (3, .ref (ad 6)), (4, .int x4), (5, .int x5)] [] M := by
  unfold f_X9_common_113 at hf
  refine G.iinc (pl := 4) (v := (x4 + 1)) (lv' := [(4, .int (x4 + 1)), (0, .ref (ad 0)), (1, .int x1), (2, .int x2), (3, .ref (ad 6)), (5, .int x5)]) C dX9_common_113 rfl rfl (by decide) rfl ?_
  refine G.goto (tgt := 55) C dX9_common_116 (by decide) ?_
  refine G.sub (lv' := [(0, .ref (ad 0)), (1, .int x1), (2, .int x2), (3, .ref (ad 6)), (4, .int (x4 + 1)), (5, .int x5)]) [1, 2, 3, 4, 0, 5] rfl ?_
  exact h_55 (x4 + 1) x5 M hf
set_option maxRecDepth 100000 in
set_option maxHeartbeats 4000000 in
theorem w_X9_common_55_b {X : Gc} {ad : Nat → Nat} {res : (Int32 × Mem)} {r_55 : Int32 → Int32 → Mem → Option (Int32 × Mem)} (C : Gk X ad cX9_common "NineTongues" 7 5) (Rt : Gr X ad (some .int) (some (.int res.1)) res.2) (x1 : Int32) (x2 : Int32) (h_55 : ∀ (x4 : Int32) (x5 : Int32) (M : Mem), r_55 x4 x5 M = some res → G X ad 55 7 [(0, .ref (ad 0)), (1, .int x1), (2, .int x2), (3, .ref (ad 6)), (4, .int x4), (5, .int x5)] [] M) (x4 : Int32) (x5 : Int32) (M : Mem) (hf : f_X9_common_55_b r_55 x1 x2 x4 x5 M = some res) : G X ad 55 7 [(0, .ref (ad 0)), (1, .int x1), (2, .int x2), (3, .ref (ad 6)), (4, .int x4), (5, .int x5)] [] M := by
  unfold f_X9_common_55_b at hf
  refine G.iload (pl := 4) C dX9_common_55 rfl ?_
  refine G.aload_n (pl := 3) C dX9_common_57 rfl rfl ?_
  refine gf1_0 C o_6 k1_37 dX9_common_58 ?_
  refine G.icmp_ge (tgt := 119) C dX9_common_61 (by decide) (fun hc1 => ?_) (fun hc1 => ?_)
  · replace hf := gIf hf hc1
    refine G.iload (pl := 5) C dX9_common_119 rfl ?_
    cases hf
    exact G.iret C Rt dX9_common_121
  · replace hf := gIfn hf hc1
    refine G.aload_n (pl := 3) C dX9_common_64 rfl rfl ?_
    refine G.iload (pl := 4) C dX9_common_65 rfl ?_
    obtain ⟨v1, hr1, hf⟩ := cp_some hf
    refine G.callV (st1 := [.int v1]) C [.int x4] [] (c_X1_hasWords hr1) mv_X1_hasWords k3_64 o_6.1 (fun _ => gShp_11 o_6) rfl rfl rfl rfl rfl (Nat.le_of_ble_eq_true rfl) (by decide) dX9_common_67 rfl ?_
    refine G.if_eq (tgt := 113) C dX9_common_70 (by decide) (fun hc2 => ?_) (fun hc2 => ?_)
    · replace hf := gIf hf hc2
      exact w_X9_common_113 C Rt x1 x2 x4 x5 M h_55 hf
    · replace hf := gIfn hf hc2
      refine G.aload_n (pl := 0) C dX9_common_73 rfl rfl ?_
      refine gf9_0 C o_0 k2_44 dX9_common_74 ?_
      refine gf8_1 C o_5 k1_177 dX9_common_77 ?_
      refine G.astore (lv' := [(6, .ref (ad 14)), (0, .ref (ad 0)), (1, .int x1), (2, .int x2), (3, .ref (ad 6)), (4, .int x4), (5, .int x5)]) C dX9_common_80 (by decide) rfl ?_
      refine G.iload (pl := 6) C dX9_common_82 rfl ?_
      refine G.aload_n (pl := 4) C dX9_common_84 rfl rfl ?_
      refine gf1_7 C o_6 k1_50 dX9_common_85 ?_
      refine G.aload_n (pl := 4) C dX9_common_88 rfl rfl ?_
      refine G.iload_n (pl := 2) C dX9_common_89 rfl rfl ?_
      refine G.iload (pl := 5) C dX9_common_90 rfl ?_
      refine G.aload (pl := 0) C dX9_common_92 rfl ?_
      refine gf7_1 C o_14 k1_96 dX9_common_94 ?_
      refine G.iload_n (pl := 3) C dX9_common_97 rfl rfl ?_
      obtain ⟨v2, ev1, hi1, hf⟩ := rd_some hf
      refine G.iald C a_15 hi1 ev1 dX9_common_98 ?_
      refine G.aload (pl := 0) C dX9_common_99 rfl ?_
      refine gf7_2 C o_14 k1_99 dX9_common_101 ?_
      refine G.iload_n (pl := 3) C dX9_common_104 rfl rfl ?_
      obtain ⟨v3, ev2, hi2, hf⟩ := rd_some hf
      refine G.iald C a_16 hi2 ev2 dX9_common_105 ?_
      obtain ⟨v4, hr2, hf⟩ := cp_some hf
      refine G.callV (st1 := [.int v4, .ref (ad 11), .int x5]) C [.int x1, .int x4, .int v2, .int v3] [.ref (ad 11), .int x5] (c_X1_cheapest hr2) mv_X1_cheapest k3_127 o_6.1 (fun _ => gShp_11 o_6) rfl rfl rfl rfl rfl (Nat.le_of_ble_eq_true rfl) (by decide) dX9_common_106 rfl ?_
      obtain ⟨v5, ev3, hi3, hf⟩ := rd_some hf
      refine G.iald C a_11 hi3 ev3 dX9_common_109 ?_
      refine G.iand C dX9_common_110 ?_
      refine G.istore (lv' := [(5, .int (x5 &&& v5)), (6, .ref (ad 14)), (0, .ref (ad 0)), (1, .int x1), (2, .int x2), (3, .ref (ad 6)), (4, .int x4)]) C dX9_common_111 (by decide) rfl ?_
      refine G.sub (lv' := [(0, .ref (ad 0)), (1, .int x1), (2, .int x2), (3, .ref (ad 6)), (4, .int x4), (5, .int (x5 &&& v5))]) [2, 3, 4, 5, 6, 0] rfl ?_
      exact w_X9_common_113 C Rt x1 x2 x4 (x5 &&& v5) M h_55 hf
theorem w_X9_common_55 {X : Gc} {ad : Nat → Nat} {res : (Int32 × Mem)} (C : Gk X ad cX9_common "NineTongues" 7 5) (Rt : Gr X ad (some .int) (some (.int res.1)) res.2) (x1 : Int32) (x2 : Int32) : ∀ (n : Nat) (x4 : Int32) (x5 : Int32) (M : Mem), f_X9_common_55 x1 x2 n x4 x5 M = some res → G X ad 55 7 [(0, .ref (ad 0)), (1, .int x1), (2, .int x2), (3, .ref (ad 6)), (4, .int x4), (5, .int x5)] [] M := by
  intro n
  induction n with
  | zero => intro x4 x5 M hf; exact absurd (show (none : Option (Int32 × Mem)) = some res from hf) (fun h => nomatch h)
  | succ n ih => intro x4 x5 M hf; exact w_X9_common_55_b C Rt x1 x2 ih x4 x5 M hf
set_option maxRecDepth 100000 in
set_option maxHeartbeats 4000000 in
theorem w_X9_common_E {X : Gc} {ad : Nat → Nat} {res : (Int32 × Mem)} (C : Gk X ad cX9_common "NineTongues" 7 5) (Rt : Gr X ad (some .int) (some (.int res.1)) res.2) (x1 : Int32) (x2 : Int32) (M : Mem) (hf : f_X9_common x1 x2 M = some res) : G X ad 0 7 [(0, .ref (ad 0)), (1, .int x1), (2, .int x2)] [] M := by
  unfold f_X9_common at hf
  refine G.iload_n (pl := 1) C dX9_common_0 rfl rfl ?_
  obtain ⟨v1, hr1, hf⟩ := cp_some hf
  refine G.callS (st1 := [.int v1]) C [.int x1] [] (c_X9_isKind hr1) mv_X9_isKind k2_138 rfl rfl rfl (Nat.le_of_ble_eq_true rfl) (by decide) dX9_common_1 rfl ?_
  refine G.if_eq (tgt := 15) C dX9_common_4 (by decide) (fun hc1 => ?_) (fun hc1 => ?_)
  · replace hf := gIf hf hc1
    refine G.sub (lv' := [(0, .ref (ad 0))]) [0] rfl ?_
    exact w_X9_common_15 C Rt M hf
  · replace hf := gIfn hf hc1
    refine G.aload_n (pl := 0) C dX9_common_7 rfl rfl ?_
    refine G.iload_n (pl := 2) C dX9_common_8 rfl rfl ?_
    obtain ⟨v2, hr2, hf⟩ := cp_some hf
    refine G.callV (st1 := [.int v2]) C [.int x2] [] (c_X9_isPlace hr2) mv_X9_isPlace k2_141 o_0.1 (fun _ => gShp_19 o_0) rfl rfl rfl rfl rfl (Nat.le_of_ble_eq_true rfl) (by decide) dX9_common_9 rfl ?_
    refine G.if_ne (tgt := 22) C dX9_common_12 (by decide) (fun hc2 => ?_) (fun hc2 => ?_)
    · replace hf := gIfn hf hc2
      refine G.aload_n (pl := 0) C dX9_common_22 rfl rfl ?_
      refine gf9_0 C o_0 k2_44 dX9_common_23 ?_
      refine gf8_0 C o_5 k1_174 dX9_common_26 ?_
      refine G.astore_n (lv' := [(3, .ref (ad 6)), (0, .ref (ad 0)), (1, .int x1), (2, .int x2)]) C dX9_common_29 rfl (by decide) rfl ?_
      refine G.aload_n (pl := 0) C dX9_common_30 rfl rfl ?_
      refine G.iconst (v := (-1)) C dX9_common_31 (by decide) ?_
      obtain ⟨v3, hr3, hf⟩ := cp_some hf
      refine G.callV (st1 := [.int v3]) C [.int (-1 : Int32)] [] (c_X1_voiceBehind hr3) mv_X1_voiceBehind k3_126 o_6.1 (fun _ => gShp_11 o_6) rfl rfl rfl rfl rfl (Nat.le_of_ble_eq_true rfl) (by decide) dX9_common_32 rfl ?_
      refine G.istore (lv' := [(4, .int v3), (3, .ref (ad 6)), (0, .ref (ad 0)), (1, .int x1), (2, .int x2)]) C dX9_common_35 (by decide) rfl ?_
      refine G.iload (pl := 0) C dX9_common_37 rfl ?_
      refine G.iconst (v := (-1)) C dX9_common_39 (by decide) ?_
      refine G.icmp_ne (tgt := 50) C dX9_common_40 (by decide) (fun hc3 => ?_) (fun hc3 => ?_)
      · replace hf := gIfn hf hc3
        refine G.sipush (v := 255) C dX9_common_50 (by decide) ?_
        refine G.istore (lv' := [(5, .int (255 : Int32)), (4, .int v3), (3, .ref (ad 6)), (0, .ref (ad 0)), (1, .int x1), (2, .int x2)]) C dX9_common_53 (by decide) rfl ?_
        refine G.sub (lv' := [(0, .ref (ad 0)), (1, .int x1), (2, .int x2), (3, .ref (ad 6)), (4, .int v3), (5, .int (255 : Int32))]) [3, 4, 5, 2, 1, 0] rfl ?_
        exact w_X9_common_55 C Rt x1 x2 FU v3 (255 : Int32) M hf
      · replace hf := gIf hf hc3
        refine G.aload_n (pl := 2) C dX9_common_43 rfl rfl ?_
        refine G.bipush (v := (-3)) C dX9_common_44 (by decide) ?_
        obtain ⟨v4, M1, hr4, hf⟩ := cl_some hf
        refine G.callV (st1 := [.int v4]) C [.int (-3 : Int32)] [] (c_X9_refuse hr4) mv_X9_refuse k2_88 o_0.1 (fun _ => gShp_19 o_0) rfl rfl rfl rfl rfl (Nat.le_of_ble_eq_true rfl) (by decide) dX9_common_46 rfl ?_
        cases hf
        exact G.iret C Rt dX9_common_49
    · replace hf := gIf hf hc2
      refine G.sub (lv' := [(0, .ref (ad 0))]) [0] rfl ?_
      exact w_X9_common_15 C Rt M hf
theorem mv_X9_common : gMV yX9_common cX9_common 7 (some .int) 2 := ⟨k3_123, k3_124, k1_1, k3_125, ⟨by decide +kernel, by decide +kernel, by decide +kernel⟩, by decide⟩
theorem c_X9_common {res : (Int32 × Mem)} {x1 : Int32} {x2 : Int32} {M : Mem} (hf : f_X9_common x1 x2 M = some res) : Ct yX9_common cX9_common 7 (some .int) 5 (fun ad => [.ref (ad 0), .int x1, .int x2]) M (some (.int res.1)) res.2 :=
  Ct.of (by decide +kernel) (fun _ => Nat.le_of_ble_eq_true rfl) (fun X ad C Rt => w_X9_common_E C Rt x1 x2 M hf)
set_option maxRecDepth 100000 in
set_option maxHeartbeats 4000000 in
theorem w_X9_bears_26 {X : Gc} {ad : Nat → Nat} {res : (Int32 × Mem)} (C : Gk X ad cX9_bears "NineTongues" 6 5) (Rt : Gr X ad (some .int) (some (.int res.1)) res.2) (M : Mem) (hf : f_X9_bears_26 M = some res) : G X ad 26 6 [(0, .ref (ad 0))] [] M := by
  unfold f_X9_bears_26 at hf
  refine G.aload_n (pl := 0) C dX9_bears_26 rfl rfl ?_
  refine G.bipush (v := (-2)) C dX9_bears_27 (by decide) ?_
  refine G.bipush (v := (-10)) C dX9_bears_29 (by decide) ?_
  obtain ⟨v1, M1, hr1, hf⟩ := cl_some hf
  refine G.callV (st1 := [.int v1]) C [.int (-2 : Int32), .int (-10 : Int32)] [] (c_X9_refuse_ hr1) mv_X9_refuse_ k2_92 o_0.1 (fun _ => gShp_19 o_0) rfl rfl rfl rfl rfl (Nat.le_of_ble_eq_true rfl) (by decide) dX9_bears_31 rfl ?_
  cases hf
  exact G.iret C Rt dX9_bears_34
set_option maxRecDepth 100000 in
set_option maxHeartbeats 4000000 in
theorem w_X9_bears_101 {X : Gc} {ad : Nat → Nat} {res : (Int32 × Mem)} {r_64 : Int32 → Int32 → Mem → Option (Int32 × Mem)} (C : Gk X ad cX9_bears "NineTongues" 6 5) (Rt : Gr X ad (some .int) (some (.int res.1)) res.2) (x1 : Int32) (x2 : Int32) (x3 : Int32) (x4 : Int32) (x5 : Int32) (M : Mem) (h_64 : ∀ (x4 : Int32) (x5 : Int32) (M : Mem), r_64 x4 x5 M = some res → G X ad 64 6 [(0, .ref (ad 0)), (1, .int x1), (2, .int x2), (3, .int x3), (4, .int x4), (5, .int x5)] [] M) (hf : f_X9_bears_101 r_64 x1 x2 x3 x4 x5 M = some res) : G X ad 101 6 [(0, .ref (ad 0)), (1, .int x1), (2, .int x2), (3, .int x3), (4, .int x4), (5, .int x5)] [] M := by
  unfold f_X9_bears_101 at hf
  refine G.iinc (pl := 5) (v := (x5 + 1)) (lv' := [(5, .int (x5 + 1)), (0, .ref (ad 0)), (1, .int x1), (2, .int x2), (3, .int x3), (4, .int x4)]) C dX9_bears_101 rfl rfl (by decide) rfl ?_
  refine G.goto (tgt := 64) C dX9_bears_104 (by decide) ?_
  refine G.sub (lv' := [(0, .ref (ad 0)), (1, .int x1), (2, .int x2), (3, .int x3), (4, .int x4), (5, .int (x5 + 1))]) [1, 2, 3, 4, 5, 0] rfl ?_
  exact h_64 x4 (x5 + 1) M hf
set_option maxRecDepth 100000 in
set_option maxHeartbeats 4000000 in
theorem w_X9_bears_64_b {X : Gc} {ad : Nat → Nat} {res : (Int32 × Mem)} {r_64 : Int32 → Int32 → Mem → Option (Int32 × Mem)} (C : Gk X ad cX9_bears "NineTongues" 6 5) (Rt : Gr X ad (some .int) (some (.int res.1)) res.2) (x1 : Int32) (x2 : Int32) (x3 : Int32) (h_64 : ∀ (x4 : Int32) (x5 : Int32) (M : Mem), r_64 x4 x5 M = some res → G X ad 64 6 [(0, .ref (ad 0)), (1, .int x1), (2, .int x2), (3, .int x3), (4, .int x4), (5, .int x5)] [] M) (x4 : Int32) (x5 : Int32) (M : Mem) (hf : f_X9_bears_64_b r_64 x1 x2 x3 x4 x5 M = some res) : G X ad 64 6 [(0, .ref (ad 0)), (1, .int x1), (2, .int x2), (3, .int x3), (4, .int x4), (5, .int x5)] [] M := by
  unfold f_X9_bears_64_b at hf
  refine G.iload (pl := 5) C dX9_bears_64 rfl ?_
  refine G.sipush (v := 255) C dX9_bears_66 (by decide) ?_
  refine G.icmp_gt (tgt := 107) C dX9_bears_69 (by decide) (fun hc1 => ?_) (fun hc1 => ?_)
  · replace hf := gIf hf hc1
    refine G.iload_n (pl := 3) C dX9_bears_107 rfl rfl ?_
    refine G.iconst (v := (-1)) C dX9_bears_108 (by decide) ?_
    refine G.icmp_ne (tgt := 117) C dX9_bears_109 (by decide) (fun hc2 => ?_) (fun hc2 => ?_)
    · replace hf := gIfn hf hc2
      refine G.bipush (v := (-5)) C dX9_bears_117 (by decide) ?_
      cases hf
      exact G.iret C Rt dX9_bears_119
    · replace hf := gIf hf hc2
      refine G.iload (pl := 4) C dX9_bears_112 rfl ?_
      refine G.goto (tgt := 119) C dX9_bears_114 (by decide) ?_
      cases hf
      exact G.iret C Rt dX9_bears_119
  · replace hf := gIfn hf hc1
    refine G.aload_n (pl := 0) C dX9_bears_72 rfl rfl ?_
    refine gf9_0 C o_0 k2_44 dX9_bears_73 ?_
    refine gf8_0 C o_5 k1_174 dX9_bears_76 ?_
    refine G.iload_n (pl := 1) C dX9_bears_79 rfl rfl ?_
    refine G.iload_n (pl := 2) C dX9_bears_80 rfl rfl ?_
    refine G.iload (pl := 5) C dX9_bears_81 rfl ?_
    obtain ⟨v1, hr1, hf⟩ := cp_some hf
    refine G.callV (st1 := [.int v1]) C [.int x1, .int x2, .int x5] [] (c_X1_isBorne hr1) mv_X1_isBorne k3_132 o_6.1 (fun _ => gShp_11 o_6) rfl rfl rfl rfl rfl (Nat.le_of_ble_eq_true rfl) (by decide) dX9_bears_83 rfl ?_
    refine G.if_eq (tgt := 101) C dX9_bears_86 (by decide) (fun hc3 => ?_) (fun hc3 => ?_)
    · replace hf := gIf hf hc3
      exact w_X9_bears_101 C Rt x1 x2 x3 x4 x5 M h_64 hf
    · replace hf := gIfn hf hc3
      refine G.iload (pl := 4) C dX9_bears_89 rfl ?_
      refine G.iload_n (pl := 3) C dX9_bears_91 rfl rfl ?_
      refine G.icmp_ne (tgt := 98) C dX9_bears_92 (by decide) (fun hc4 => ?_) (fun hc4 => ?_)
      · replace hf := gIfn hf hc4
        refine G.iinc (pl := 4) (v := (x4 + 1)) (lv' := [(4, .int (x4 + 1)), (0, .ref (ad 0)), (1, .int x1), (2, .int x2), (3, .int x3), (5, .int x5)]) C dX9_bears_98 rfl rfl (by decide) rfl ?_
        refine G.sub (lv' := [(0, .ref (ad 0)), (1, .int x1), (2, .int x2), (3, .int x3), (4, .int (x4 + 1)), (5, .int x5)]) [1, 2, 3, 4, 0, 5] rfl ?_
        exact w_X9_bears_101 C Rt x1 x2 x3 (x4 + 1) x5 M h_64 hf
      · replace hf := gIf hf hc4
        refine G.iload (pl := 5) C dX9_bears_95 rfl ?_
        cases hf
        exact G.iret C Rt dX9_bears_97
theorem w_X9_bears_64 {X : Gc} {ad : Nat → Nat} {res : (Int32 × Mem)} (C : Gk X ad cX9_bears "NineTongues" 6 5) (Rt : Gr X ad (some .int) (some (.int res.1)) res.2) (x1 : Int32) (x2 : Int32) (x3 : Int32) : ∀ (n : Nat) (x4 : Int32) (x5 : Int32) (M : Mem), f_X9_bears_64 x1 x2 x3 n x4 x5 M = some res → G X ad 64 6 [(0, .ref (ad 0)), (1, .int x1), (2, .int x2), (3, .int x3), (4, .int x4), (5, .int x5)] [] M := by
  intro n
  induction n with
  | zero => intro x4 x5 M hf; exact absurd (show (none : Option (Int32 × Mem)) = some res from hf) (fun h => nomatch h)
  | succ n ih => intro x4 x5 M hf; exact w_X9_bears_64_b C Rt x1 x2 x3 ih x4 x5 M hf
set_option maxRecDepth 100000 in
set_option maxHeartbeats 4000000 in
theorem w_X9_bears_E {X : Gc} {ad : Nat → Nat} {res : (Int32 × Mem)} (C : Gk X ad cX9_bears "NineTongues" 6 5) (Rt : Gr X ad (some .int) (some (.int res.1)) res.2) (x1 : Int32) (x2 : Int32) (x3 : Int32) (M : Mem) (hf : f_X9_bears x1 x2 x3 M = some res) : G X ad 0 6 [(0, .ref (ad 0)), (1, .int x1), (2, .int x2), (3, .int x3)] [] M := by
  unfold f_X9_bears at hf
  refine G.iload_n (pl := 1) C dX9_bears_0 rfl rfl ?_
  obtain ⟨v1, hr1, hf⟩ := cp_some hf
  refine G.callS (st1 := [.int v1]) C [.int x1] [] (c_X9_isKind hr1) mv_X9_isKind k2_138 rfl rfl rfl (Nat.le_of_ble_eq_true rfl) (by decide) dX9_bears_1 rfl ?_
  refine G.if_eq (tgt := 26) C dX9_bears_4 (by decide) (fun hc1 => ?_) (fun hc1 => ?_)
  · replace hf := gIf hf hc1
    refine G.sub (lv' := [(0, .ref (ad 0))]) [0] rfl ?_
    exact w_X9_bears_26 C Rt M hf
  · replace hf := gIfn hf hc1
    refine G.aload_n (pl := 0) C dX9_bears_7 rfl rfl ?_
    refine gf9_0 C o_0 k2_44 dX9_bears_8 ?_
    refine gf8_0 C o_5 k1_174 dX9_bears_11 ?_
    refine G.iload_n (pl := 2) C dX9_bears_14 rfl rfl ?_
    obtain ⟨v2, hr2, hf⟩ := cp_some hf
    refine G.callV (st1 := [.int v2]) C [.int x2] [] (c_X1_hasTongue hr2) mv_X1_hasTongue k2_104 o_6.1 (fun _ => gShp_11 o_6) rfl rfl rfl rfl rfl (Nat.le_of_ble_eq_true rfl) (by decide) dX9_bears_15 rfl ?_
    refine G.if_eq (tgt := 26) C dX9_bears_18 (by decide) (fun hc2 => ?_) (fun hc2 => ?_)
    · replace hf := gIf hf hc2
      refine G.sub (lv' := [(0, .ref (ad 0))]) [0] rfl ?_
      exact w_X9_bears_26 C Rt M hf
    · replace hf := gIfn hf hc2
      refine G.iload_n (pl := 3) C dX9_bears_21 rfl rfl ?_
      refine G.iconst (v := (-1)) C dX9_bears_22 (by decide) ?_
      refine G.icmp_ge (tgt := 35) C dX9_bears_23 (by decide) (fun hc3 => ?_) (fun hc3 => ?_)
      · replace hf := gIf hf hc3
        refine G.aload_n (pl := 0) C dX9_bears_35 rfl rfl ?_
        refine gf9_0 C o_0 k2_44 dX9_bears_36 ?_
        refine gf8_0 C o_5 k1_174 dX9_bears_39 ?_
        refine G.iload_n (pl := 2) C dX9_bears_42 rfl rfl ?_
        obtain ⟨v3, hr3, hf⟩ := cp_some hf
        refine G.callV (st1 := [.int v3]) C [.int x2] [] (c_X1_hasWords hr3) mv_X1_hasWords k3_64 o_6.1 (fun _ => gShp_11 o_6) rfl rfl rfl rfl rfl (Nat.le_of_ble_eq_true rfl) (by decide) dX9_bears_43 rfl ?_
        refine G.if_ne (tgt := 58) C dX9_bears_46 (by decide) (fun hc4 => ?_) (fun hc4 => ?_)
        · replace hf := gIfn hf hc4
          refine G.iconst (v := 0) C dX9_bears_58 (by decide) ?_
          refine G.istore (lv' := [(4, .int (0 : Int32)), (0, .ref (ad 0)), (1, .int x1), (2, .int x2), (3, .int x3)]) C dX9_bears_59 (by decide) rfl ?_
          refine G.iconst (v := 1) C dX9_bears_61 (by decide) ?_
          refine G.istore (lv' := [(5, .int (1 : Int32)), (4, .int (0 : Int32)), (0, .ref (ad 0)), (1, .int x1), (2, .int x2), (3, .int x3)]) C dX9_bears_62 (by decide) rfl ?_
          refine G.sub (lv' := [(0, .ref (ad 0)), (1, .int x1), (2, .int x2), (3, .int x3), (4, .int (0 : Int32)), (5, .int (1 : Int32))]) [2, 3, 4, 5, 1, 0] rfl ?_
          exact w_X9_bears_64 C Rt x1 x2 x3 FU (0 : Int32) (1 : Int32) M hf
        · replace hf := gIf hf hc4
          refine G.aload_n (pl := 0) C dX9_bears_49 rfl rfl ?_
          refine G.bipush (v := (-3)) C dX9_bears_50 (by decide) ?_
          refine G.bipush (v := (-20)) C dX9_bears_52 (by decide) ?_
          obtain ⟨v4, M1, hr4, hf⟩ := cl_some hf
          refine G.callV (st1 := [.int v4]) C [.int (-3 : Int32), .int (-20 : Int32)] [] (c_X9_refuse_ hr4) mv_X9_refuse_ k2_92 o_0.1 (fun _ => gShp_19 o_0) rfl rfl rfl rfl rfl (Nat.le_of_ble_eq_true rfl) (by decide) dX9_bears_54 rfl ?_
          cases hf
          exact G.iret C Rt dX9_bears_57
      · replace hf := gIfn hf hc3
        refine G.sub (lv' := [(0, .ref (ad 0))]) [0] rfl ?_
        exact w_X9_bears_26 C Rt M hf
theorem mv_X9_bears : gMV yX9_bears cX9_bears 6 (some .int) 3 := ⟨k3_129, k3_130, k1_1, k3_131, ⟨by decide +kernel, by decide +kernel, by decide +kernel⟩, by decide⟩
theorem c_X9_bears {res : (Int32 × Mem)} {x1 : Int32} {x2 : Int32} {x3 : Int32} {M : Mem} (hf : f_X9_bears x1 x2 x3 M = some res) : Ct yX9_bears cX9_bears 6 (some .int) 5 (fun ad => [.ref (ad 0), .int x1, .int x2, .int x3]) M (some (.int res.1)) res.2 :=
  Ct.of (by decide +kernel) (fun _ => Nat.le_of_ble_eq_true rfl) (fun X ad C Rt => w_X9_bears_E C Rt x1 x2 x3 M hf)
set_option maxRecDepth 100000 in
set_option maxHeartbeats 4000000 in
theorem w_X9_middle_40 {X : Gc} {ad : Nat → Nat} {res : Int32} {M : Mem} {r_6 : Int32 → Int32 → Option Int32} (C : Gk X ad cX9_middle "NineTongues" 3 7) (Rt : Gr X ad (some .int) (some (.int res)) M) (x1 : Int32) (x2 : Int32) (h_6 : ∀ (x1 : Int32) (x2 : Int32), r_6 x1 x2 = some res → G X ad 6 3 [(0, .ref (ad 0)), (1, .int x1), (2, .int x2)] [] M) (hf : f_X9_middle_40 M r_6 x1 x2 = some res) : G X ad 40 3 [(0, .ref (ad 0)), (1, .int x1), (2, .int x2)] [] M := by
  unfold f_X9_middle_40 at hf
  refine G.iinc (pl := 2) (v := (x2 + 1)) (lv' := [(2, .int (x2 + 1)), (0, .ref (ad 0)), (1, .int x1)]) C dX9_middle_40 rfl rfl (by decide) rfl ?_
  refine G.goto (tgt := 6) C dX9_middle_43 (by decide) ?_
  refine G.sub (lv' := [(0, .ref (ad 0)), (1, .int x1), (2, .int (x2 + 1))]) [1, 2, 0] rfl ?_
  exact h_6 x1 (x2 + 1)  hf
set_option maxRecDepth 100000 in
set_option maxHeartbeats 4000000 in
theorem w_X9_middle_6_b {X : Gc} {ad : Nat → Nat} {res : Int32} {M : Mem} {r_6 : Int32 → Int32 → Option Int32} (C : Gk X ad cX9_middle "NineTongues" 3 7) (Rt : Gr X ad (some .int) (some (.int res)) M) (h_6 : ∀ (x1 : Int32) (x2 : Int32), r_6 x1 x2 = some res → G X ad 6 3 [(0, .ref (ad 0)), (1, .int x1), (2, .int x2)] [] M) (x1 : Int32) (x2 : Int32) (hf : f_X9_middle_6_b M r_6 x1 x2 = some res) : G X ad 6 3 [(0, .ref (ad 0)), (1, .int x1), (2, .int x2)] [] M := by
  unfold f_X9_middle_6_b at hf
  refine G.iload_n (pl := 2) C dX9_middle_6 rfl rfl ?_
  refine G.sipush (v := 255) C dX9_middle_7 (by decide) ?_
  refine G.icmp_ge (tgt := 46) C dX9_middle_10 (by decide) (fun hc1 => ?_) (fun hc1 => ?_)
  · replace hf := gIf hf hc1
    refine G.iload_n (pl := 1) C dX9_middle_46 rfl rfl ?_
    cases hf
    exact G.iret C Rt dX9_middle_47
  · replace hf := gIfn hf hc1
    refine G.iload_n (pl := 2) C dX9_middle_13 rfl rfl ?_
    obtain ⟨v1, hr1, hf⟩ := cp_some hf
    refine G.callS (st1 := [.int v1]) C [.int x2] [] (c_J6_bitCount_0f7a4 hr1) mv_J6_bitCount_0f7a4 k3_140 rfl rfl rfl (Nat.le_of_ble_eq_true rfl) (by decide) dX9_middle_14 rfl ?_
    refine G.iload_n (pl := 1) C dX9_middle_17 rfl rfl ?_
    obtain ⟨v2, hr2, hf⟩ := cp_some hf
    refine G.callS (st1 := [.int v2, .int v1]) C [.int x1] [.int v1] (c_J6_bitCount_0f7a4 hr2) mv_J6_bitCount_0f7a4 k3_140 rfl rfl rfl (Nat.le_of_ble_eq_true rfl) (by decide) dX9_middle_18 rfl ?_
    refine G.icmp_ge (tgt := 40) C dX9_middle_21 (by decide) (fun hc2 => ?_) (fun hc2 => ?_)
    · replace hf := gIf hf hc2
      exact w_X9_middle_40 C Rt x1 x2 h_6 hf
    · replace hf := gIfn hf hc2
      refine G.aload_n (pl := 0) C dX9_middle_24 rfl rfl ?_
      refine gf9_0 C o_0 k2_44 dX9_middle_25 ?_
      refine gf8_0 C o_5 k1_174 dX9_middle_28 ?_
      refine G.iload_n (pl := 2) C dX9_middle_31 rfl rfl ?_
      obtain ⟨v3, hr3, hf⟩ := cp_some hf
      refine G.callV (st1 := [.int v3]) C [.int x2] [] (c_X1_isToldApartBy hr3) mv_X1_isToldApartBy k3_141 o_6.1 (fun _ => gShp_11 o_6) rfl rfl rfl rfl rfl (Nat.le_of_ble_eq_true rfl) (by decide) dX9_middle_32 rfl ?_
      refine G.if_eq (tgt := 40) C dX9_middle_35 (by decide) (fun hc3 => ?_) (fun hc3 => ?_)
      · replace hf := gIf hf hc3
        exact w_X9_middle_40 C Rt x1 x2 h_6 hf
      · replace hf := gIfn hf hc3
        refine G.iload_n (pl := 2) C dX9_middle_38 rfl rfl ?_
        refine G.istore_n (lv' := [(1, .int x2), (0, .ref (ad 0)), (2, .int x2)]) C dX9_middle_39 rfl (by decide) rfl ?_
        refine G.sub (lv' := [(0, .ref (ad 0)), (1, .int x2), (2, .int x2)]) [1, 0, 2] rfl ?_
        exact w_X9_middle_40 C Rt x2 x2 h_6 hf
theorem w_X9_middle_6 {X : Gc} {ad : Nat → Nat} {res : Int32} {M : Mem} (C : Gk X ad cX9_middle "NineTongues" 3 7) (Rt : Gr X ad (some .int) (some (.int res)) M) : ∀ (n : Nat) (x1 : Int32) (x2 : Int32), f_X9_middle_6 M n x1 x2 = some res → G X ad 6 3 [(0, .ref (ad 0)), (1, .int x1), (2, .int x2)] [] M := by
  intro n
  induction n with
  | zero => intro x1 x2 hf; exact absurd (show (none : Option Int32) = some res from hf) (fun h => nomatch h)
  | succ n ih => intro x1 x2 hf; exact w_X9_middle_6_b C Rt ih x1 x2 hf
set_option maxRecDepth 100000 in
set_option maxHeartbeats 4000000 in
theorem w_X9_middle_E {X : Gc} {ad : Nat → Nat} {res : Int32} {M : Mem} (C : Gk X ad cX9_middle "NineTongues" 3 7) (Rt : Gr X ad (some .int) (some (.int res)) M) (hf : f_X9_middle M = some res) : G X ad 0 3 [(0, .ref (ad 0))] [] M := by
  unfold f_X9_middle at hf
  refine G.sipush (v := 255) C dX9_middle_0 (by decide) ?_
  refine G.istore_n (lv' := [(1, .int (255 : Int32)), (0, .ref (ad 0))]) C dX9_middle_3 rfl (by decide) rfl ?_
  refine G.iconst (v := 0) C dX9_middle_4 (by decide) ?_
  refine G.istore_n (lv' := [(2, .int (0 : Int32)), (1, .int (255 : Int32)), (0, .ref (ad 0))]) C dX9_middle_5 rfl (by decide) rfl ?_
  refine G.sub (lv' := [(0, .ref (ad 0)), (1, .int (255 : Int32)), (2, .int (0 : Int32))]) [2, 1, 0] rfl ?_
  exact w_X9_middle_6 C Rt FU (255 : Int32) (0 : Int32) hf
theorem mv_X9_middle : gMV yX9_middle cX9_middle 3 (some .int) 0 := ⟨k3_137, k3_138, k1_1, k3_139, ⟨by decide +kernel, by decide +kernel, by decide +kernel⟩, by decide⟩
theorem c_X9_middle {res : Int32} {M : Mem} (hf : f_X9_middle M = some res) : Ct yX9_middle cX9_middle 3 (some .int) 7 (fun ad => [.ref (ad 0)]) M (some (.int res)) M :=
  Ct.of (by decide +kernel) (fun _ => Nat.le_of_ble_eq_true rfl) (fun X ad C Rt => w_X9_middle_E C Rt hf)
set_option maxRecDepth 100000 in
set_option maxHeartbeats 4000000 in
theorem w_X9_end_20 {X : Gc} {ad : Nat → Nat} {res : (Int32 × Mem)} (C : Gk X ad cX9_end "NineTongues" 4 3) (Rt : Gr X ad (some .int) (some (.int res.1)) res.2) (M : Mem) (hf : f_X9_end_20 M = some res) : G X ad 20 4 [(0, .ref (ad 0))] [] M := by
  unfold f_X9_end_20 at hf
  refine G.aload_n (pl := 0) C dX9_end_20 rfl rfl ?_
  refine G.bipush (v := (-2)) C dX9_end_21 (by decide) ?_
  obtain ⟨v1, M1, hr1, hf⟩ := cl_some hf
  refine G.callV (st1 := [.int v1]) C [.int (-2 : Int32)] [] (c_X9_refuse hr1) mv_X9_refuse k2_88 o_0.1 (fun _ => gShp_19 o_0) rfl rfl rfl rfl rfl (Nat.le_of_ble_eq_true rfl) (by decide) dX9_end_23 rfl ?_
  cases hf
  exact G.iret C Rt dX9_end_26
set_option maxRecDepth 100000 in
set_option maxHeartbeats 4000000 in
theorem w_X9_end_E {X : Gc} {ad : Nat → Nat} {res : (Int32 × Mem)} (C : Gk X ad cX9_end "NineTongues" 4 3) (Rt : Gr X ad (some .int) (some (.int res.1)) res.2) (x1 : Int32) (x2 : Int32) (M : Mem) (hf : f_X9_end x1 x2 M = some res) : G X ad 0 4 [(0, .ref (ad 0)), (1, .int x1), (2, .int x2)] [] M := by
  unfold f_X9_end at hf
  refine G.iload_n (pl := 1) C dX9_end_0 rfl rfl ?_
  refine G.iconst (v := 0) C dX9_end_1 (by decide) ?_
  refine G.iconst (v := 5) C dX9_end_2 (by decide) ?_
  obtain ⟨v1, hr1, hf⟩ := cp_some hf
  refine G.callS (st1 := [.int v1]) C [.int x1, .int (0 : Int32), .int (5 : Int32)] [] (c_X9_isIn hr1) mv_X9_isIn k2_85 rfl rfl rfl (Nat.le_of_ble_eq_true rfl) (by decide) dX9_end_3 rfl ?_
  refine G.if_eq (tgt := 20) C dX9_end_6 (by decide) (fun hc1 => ?_) (fun hc1 => ?_)
  · replace hf := gIf hf hc1
    refine G.sub (lv' := [(0, .ref (ad 0))]) [0] rfl ?_
    exact w_X9_end_20 C Rt M hf
  · replace hf := gIfn hf hc1
    refine G.iload_n (pl := 2) C dX9_end_9 rfl rfl ?_
    refine G.iconst (v := 0) C dX9_end_10 (by decide) ?_
    refine G.sipush (v := 255) C dX9_end_11 (by decide) ?_
    obtain ⟨v2, hr2, hf⟩ := cp_some hf
    refine G.callS (st1 := [.int v2]) C [.int x2, .int (0 : Int32), .int (255 : Int32)] [] (c_X9_isIn hr2) mv_X9_isIn k2_85 rfl rfl rfl (Nat.le_of_ble_eq_true rfl) (by decide) dX9_end_14 rfl ?_
    refine G.if_ne (tgt := 27) C dX9_end_17 (by decide) (fun hc2 => ?_) (fun hc2 => ?_)
    · replace hf := gIfn hf hc2
      refine G.aload_n (pl := 0) C dX9_end_27 rfl rfl ?_
      refine gf9_0 C o_0 k2_44 dX9_end_28 ?_
      refine gf8_3 C o_5 k1_181 dX9_end_31 ?_
      refine gf0_0 C o_20 k1_142 dX9_end_34 ?_
      refine G.iload_n (pl := 1) C dX9_end_37 rfl rfl ?_
      obtain ⟨v3, ev1, hi1, hf⟩ := rd_some hf
      refine G.iald C a_21 hi1 ev1 dX9_end_38 ?_
      refine G.istore_n (lv' := [(3, .int v3), (0, .ref (ad 0)), (1, .int x1), (2, .int x2)]) C dX9_end_39 rfl (by decide) rfl ?_
      refine G.aload_n (pl := 1) C dX9_end_40 rfl rfl ?_
      refine gf9_0 C o_0 k2_44 dX9_end_41 ?_
      refine gf8_3 C o_5 k1_181 dX9_end_44 ?_
      refine gf0_0 C o_20 k1_142 dX9_end_47 ?_
      refine G.iload_n (pl := 2) C dX9_end_50 rfl rfl ?_
      refine G.iload_n (pl := 3) C dX9_end_51 rfl rfl ?_
      obtain ⟨hi2, hf⟩ := ck_some hf
      obtain ⟨M1, eM1, hf⟩ := stm_some hf
      refine G.iast C a_21 hi2 eM1 dX9_end_52 ?_
      refine G.iload_n (pl := 0) C dX9_end_53 rfl rfl ?_
      cases hf
      exact G.iret C Rt dX9_end_54
    · replace hf := gIf hf hc2
      refine G.sub (lv' := [(0, .ref (ad 0))]) [0] rfl ?_
      exact w_X9_end_20 C Rt M hf
theorem mv_X9_end : gMV yX9_end cX9_end 4 (some .int) 2 := ⟨k3_155, k3_156, k1_1, k3_157, ⟨by decide +kernel, by decide +kernel, by decide +kernel⟩, by decide⟩
theorem c_X9_end {res : (Int32 × Mem)} {x1 : Int32} {x2 : Int32} {M : Mem} (hf : f_X9_end x1 x2 M = some res) : Ct yX9_end cX9_end 4 (some .int) 3 (fun ad => [.ref (ad 0), .int x1, .int x2]) M (some (.int res.1)) res.2 :=
  Ct.of (by decide +kernel) (fun _ => Nat.le_of_ble_eq_true rfl) (fun X ad C Rt => w_X9_end_E C Rt x1 x2 M hf)
set_option maxRecDepth 100000 in
set_option maxHeartbeats 4000000 in
theorem w_X9_endForm_19 {X : Gc} {ad : Nat → Nat} {res : (Int32 × Mem)} (C : Gk X ad cX9_endForm "NineTongues" 4 2) (Rt : Gr X ad (some .int) (some (.int res.1)) res.2) (M : Mem) (hf : f_X9_endForm_19 M = some res) : G X ad 19 4 [(0, .ref (ad 0))] [] M := by
  unfold f_X9_endForm_19 at hf
  refine G.aload_n (pl := 0) C dX9_endForm_19 rfl rfl ?_
  refine G.bipush (v := (-2)) C dX9_endForm_20 (by decide) ?_
  refine G.bipush (v := (-10)) C dX9_endForm_22 (by decide) ?_
  obtain ⟨v1, M1, hr1, hf⟩ := cl_some hf
  refine G.callV (st1 := [.int v1]) C [.int (-2 : Int32), .int (-10 : Int32)] [] (c_X9_refuse_ hr1) mv_X9_refuse_ k2_92 o_0.1 (fun _ => gShp_19 o_0) rfl rfl rfl rfl rfl (Nat.le_of_ble_eq_true rfl) (by decide) dX9_endForm_24 rfl ?_
  cases hf
  exact G.iret C Rt dX9_endForm_27
set_option maxRecDepth 100000 in
set_option maxHeartbeats 4000000 in
theorem w_X9_endForm_E {X : Gc} {ad : Nat → Nat} {res : (Int32 × Mem)} (C : Gk X ad cX9_endForm "NineTongues" 4 2) (Rt : Gr X ad (some .int) (some (.int res.1)) res.2) (x1 : Int32) (x2 : Int32) (M : Mem) (hf : f_X9_endForm x1 x2 M = some res) : G X ad 0 4 [(0, .ref (ad 0)), (1, .int x1), (2, .int x2)] [] M := by
  unfold f_X9_endForm at hf
  refine G.iload_n (pl := 1) C dX9_endForm_0 rfl rfl ?_
  refine G.iconst (v := 0) C dX9_endForm_1 (by decide) ?_
  refine G.iconst (v := 3) C dX9_endForm_2 (by decide) ?_
  obtain ⟨v1, hr1, hf⟩ := cp_some hf
  refine G.callS (st1 := [.int v1]) C [.int x1, .int (0 : Int32), .int (3 : Int32)] [] (c_X9_isIn hr1) mv_X9_isIn k2_85 rfl rfl rfl (Nat.le_of_ble_eq_true rfl) (by decide) dX9_endForm_3 rfl ?_
  refine G.if_eq (tgt := 19) C dX9_endForm_6 (by decide) (fun hc1 => ?_) (fun hc1 => ?_)
  · replace hf := gIf hf hc1
    refine G.sub (lv' := [(0, .ref (ad 0))]) [0] rfl ?_
    exact w_X9_endForm_19 C Rt M hf
  · replace hf := gIfn hf hc1
    refine G.iload_n (pl := 2) C dX9_endForm_9 rfl rfl ?_
    refine G.bipush (v := (-2)) C dX9_endForm_10 (by decide) ?_
    refine G.iconst (v := 1) C dX9_endForm_12 (by decide) ?_
    obtain ⟨v2, hr2, hf⟩ := cp_some hf
    refine G.callS (st1 := [.int v2]) C [.int x2, .int (-2 : Int32), .int (1 : Int32)] [] (c_X9_isIn hr2) mv_X9_isIn k2_85 rfl rfl rfl (Nat.le_of_ble_eq_true rfl) (by decide) dX9_endForm_13 rfl ?_
    refine G.if_ne (tgt := 28) C dX9_endForm_16 (by decide) (fun hc2 => ?_) (fun hc2 => ?_)
    · replace hf := gIfn hf hc2
      refine G.aload_n (pl := 0) C dX9_endForm_28 rfl rfl ?_
      refine gf9_0 C o_0 k2_44 dX9_endForm_29 ?_
      refine gf8_3 C o_5 k1_181 dX9_endForm_32 ?_
      refine gf0_1 C o_20 k1_145 dX9_endForm_35 ?_
      refine G.iload_n (pl := 1) C dX9_endForm_38 rfl rfl ?_
      obtain ⟨v3, ev1, hi1, hf⟩ := rd_some hf
      refine G.iald C a_22 hi1 ev1 dX9_endForm_39 ?_
      refine G.istore_n (lv' := [(3, .int v3), (0, .ref (ad 0)), (1, .int x1), (2, .int x2)]) C dX9_endForm_40 rfl (by decide) rfl ?_
      refine G.aload_n (pl := 1) C dX9_endForm_41 rfl rfl ?_
      refine gf9_0 C o_0 k2_44 dX9_endForm_42 ?_
      refine gf8_3 C o_5 k1_181 dX9_endForm_45 ?_
      refine gf0_1 C o_20 k1_145 dX9_endForm_48 ?_
      refine G.iload_n (pl := 2) C dX9_endForm_51 rfl rfl ?_
      refine G.iload_n (pl := 3) C dX9_endForm_52 rfl rfl ?_
      obtain ⟨hi2, hf⟩ := ck_some hf
      obtain ⟨M1, eM1, hf⟩ := stm_some hf
      refine G.iast C a_22 hi2 eM1 dX9_endForm_53 ?_
      refine G.iload_n (pl := 0) C dX9_endForm_54 rfl rfl ?_
      cases hf
      exact G.iret C Rt dX9_endForm_55
    · replace hf := gIf hf hc2
      refine G.sub (lv' := [(0, .ref (ad 0))]) [0] rfl ?_
      exact w_X9_endForm_19 C Rt M hf
theorem mv_X9_endForm : gMV yX9_endForm cX9_endForm 4 (some .int) 2 := ⟨k3_159, k3_160, k1_1, k3_161, ⟨by decide +kernel, by decide +kernel, by decide +kernel⟩, by decide⟩
theorem c_X9_endForm {res : (Int32 × Mem)} {x1 : Int32} {x2 : Int32} {M : Mem} (hf : f_X9_endForm x1 x2 M = some res) : Ct yX9_endForm cX9_endForm 4 (some .int) 2 (fun ad => [.ref (ad 0), .int x1, .int x2]) M (some (.int res.1)) res.2 :=
  Ct.of (by decide +kernel) (fun _ => Nat.le_of_ble_eq_true rfl) (fun X ad C Rt => w_X9_endForm_E C Rt x1 x2 M hf)
set_option maxRecDepth 100000 in
set_option maxHeartbeats 4000000 in
theorem w_X9_countRowsToEnd_84 {X : Gc} {ad : Nat → Nat} {res : (Int32 × Mem)} {r_28 : Int32 → Int32 → Int32 → Mem → Option (Int32 × Mem)} (C : Gk X ad cX9_countRowsToEnd "NineTongues" 6 7) (Rt : Gr X ad (some .int) (some (.int res.1)) res.2) (x2 : Int32) (x3 : Int32) (x5 : Int32) (M : Mem) (h_28 : ∀ (x3 : Int32) (x4 : Int32) (x5 : Int32) (M : Mem), r_28 x3 x4 x5 M = some res → G X ad 28 6 [(0, .ref (ad 0)), (2, .int x2), (3, .int x3), (4, .int x4), (5, .int x5)] [] M) (hf : f_X9_countRowsToEnd_84 r_28 x2 x3 x5 M = some res) : G X ad 84 6 [(0, .ref (ad 0)), (2, .int x2), (3, .int x3), (5, .int x5)] [] M := by
  unfold f_X9_countRowsToEnd_84 at hf
  refine G.aload_n (pl := 0) C dX9_countRowsToEnd_84 rfl rfl ?_
  refine gf9_7 C o_0 k2_51 dX9_countRowsToEnd_85 ?_
  refine G.aload_n (pl := 0) C dX9_countRowsToEnd_88 rfl rfl ?_
  refine gf9_0 C o_0 k2_44 dX9_countRowsToEnd_89 ?_
  refine gf8_0 C o_5 k1_174 dX9_countRowsToEnd_92 ?_
  obtain ⟨v1, M1, hr1, hf⟩ := cl_some hf
  refine G.callV (st1 := [.int v1]) C [.ref (ad 6)] [] (c_X6_goOn hr1) mv_X6_goOn k3_91 o_72.1 (fun _ => gShp_16 o_72) rfl rfl rfl rfl rfl (Nat.le_of_ble_eq_true rfl) (by decide) dX9_countRowsToEnd_95 rfl ?_
  refine G.istore (lv' := [(4, .int v1), (0, .ref (ad 0)), (2, .int x2), (3, .int x3), (5, .int x5)]) C dX9_countRowsToEnd_98 (by decide) rfl ?_
  refine G.iinc (pl := 4) (v := (x5 + 1)) (lv' := [(5, .int (x5 + 1)), (4, .int v1), (0, .ref (ad 0)), (2, .int x2), (3, .int x3)]) C dX9_countRowsToEnd_100 rfl rfl (by decide) rfl ?_
  refine G.goto (tgt := 28) C dX9_countRowsToEnd_103 (by decide) ?_
  refine G.sub (lv' := [(0, .ref (ad 0)), (2, .int x2), (3, .int x3), (4, .int v1), (5, .int (x5 + 1))]) [2, 3, 4, 1, 0] rfl ?_
  exact h_28 x3 v1 (x5 + 1) M1 hf
set_option maxRecDepth 100000 in
set_option maxHeartbeats 4000000 in
theorem w_X9_countRowsToEnd_28_b {X : Gc} {ad : Nat → Nat} {res : (Int32 × Mem)} {r_28 : Int32 → Int32 → Int32 → Mem → Option (Int32 × Mem)} (C : Gk X ad cX9_countRowsToEnd "NineTongues" 6 7) (Rt : Gr X ad (some .int) (some (.int res.1)) res.2) (x2 : Int32) (h_28 : ∀ (x3 : Int32) (x4 : Int32) (x5 : Int32) (M : Mem), r_28 x3 x4 x5 M = some res → G X ad 28 6 [(0, .ref (ad 0)), (2, .int x2), (3, .int x3), (4, .int x4), (5, .int x5)] [] M) (x3 : Int32) (x4 : Int32) (x5 : Int32) (M : Mem) (hf : f_X9_countRowsToEnd_28_b r_28 x2 x3 x4 x5 M = some res) : G X ad 28 6 [(0, .ref (ad 0)), (2, .int x2), (3, .int x3), (4, .int x4), (5, .int x5)] [] M := by
  unfold f_X9_countRowsToEnd_28_b at hf
  refine G.iload (pl := 3) C dX9_countRowsToEnd_28 rfl ?_
  refine G.if_eq (tgt := 106) C dX9_countRowsToEnd_30 (by decide) (fun hc1 => ?_) (fun hc1 => ?_)
  · replace hf := gIf hf hc1
    refine G.iload_n (pl := 2) C dX9_countRowsToEnd_106 rfl rfl ?_
    cases hf
    exact G.iret C Rt dX9_countRowsToEnd_107
  · replace hf := gIfn hf hc1
    refine G.iload (pl := 4) C dX9_countRowsToEnd_33 rfl ?_
    refine G.sipush (v := 10000) C dX9_countRowsToEnd_35 (by decide) ?_
    refine G.icmp_ge (tgt := 106) C dX9_countRowsToEnd_38 (by decide) (fun hc2 => ?_) (fun hc2 => ?_)
    · replace hf := gIf hf hc2
      refine G.iload_n (pl := 2) C dX9_countRowsToEnd_106 rfl rfl ?_
      cases hf
      exact G.iret C Rt dX9_countRowsToEnd_107
    · replace hf := gIfn hf hc2
      refine G.aload_n (pl := 0) C dX9_countRowsToEnd_41 rfl rfl ?_
      refine gf9_0 C o_0 k2_44 dX9_countRowsToEnd_42 ?_
      refine gf8_3 C o_5 k1_181 dX9_countRowsToEnd_45 ?_
      refine G.aload_n (pl := 0) C dX9_countRowsToEnd_48 rfl rfl ?_
      refine gf9_7 C o_0 k2_51 dX9_countRowsToEnd_49 ?_
      refine gf6_2 C o_72 k2_1 dX9_countRowsToEnd_52 ?_
      refine G.iload_n (pl := 1) C dX9_countRowsToEnd_55 rfl rfl ?_
      obtain ⟨hi1, hf⟩ := ck_some hf
      refine G.aldS C hi1 dX9_countRowsToEnd_56 ?_
      obtain ⟨v1, hr1, hf⟩ := cp_some hf
      refine G.callV (st1 := [.int v1]) C [.ref (ad (76 + 4 * x2.toNatClampNeg))] [] (c_X0_isReached (gxS hi1) hr1) mv_X0_isReached k3_171 o_20.1 (fun _ => gShp_10 o_20) rfl rfl rfl rfl rfl (Nat.le_of_ble_eq_true rfl) (by decide) dX9_countRowsToEnd_57 rfl ?_
      refine G.if_eq (tgt := 84) C dX9_countRowsToEnd_60 (by decide) (fun hc3 => ?_) (fun hc3 => ?_)
      · replace hf := gIf hf hc3
        refine G.sub (lv' := [(0, .ref (ad 0)), (2, .int x2), (3, .int x3), (5, .int x5)]) [0, 1, 2, 4] rfl ?_
        exact w_X9_countRowsToEnd_84 C Rt x2 x3 x5 M h_28 hf
      · replace hf := gIfn hf hc3
        refine G.iinc (pl := 2) (v := (x3 + 1)) (lv' := [(3, .int (x3 + 1)), (0, .ref (ad 0)), (2, .int x2), (4, .int x4), (5, .int x5)]) C dX9_countRowsToEnd_63 rfl rfl (by decide) rfl ?_
        refine G.aload_n (pl := 1) C dX9_countRowsToEnd_66 rfl rfl ?_
        refine gf9_8 C o_0 k2_52 dX9_countRowsToEnd_67 ?_
        refine G.aload_n (pl := 1) C dX9_countRowsToEnd_70 rfl rfl ?_
        refine gf9_7 C o_0 k2_51 dX9_countRowsToEnd_71 ?_
        refine gf6_0 C o_72 k1_237 dX9_countRowsToEnd_74 ?_
        refine G.iconst (v := 0) C dX9_countRowsToEnd_77 (by decide) ?_
        refine G.iald (v := (M.1 73 0)) C a_73 (vp_inC (by decide)) rfl dX9_countRowsToEnd_78 ?_
        refine G.dup2 C dX9_countRowsToEnd_79 rfl rfl ?_
        obtain ⟨v2, ev1, hi2, hf⟩ := rd_some hf
        refine G.iald C a_4 hi2 ev1 dX9_countRowsToEnd_80 ?_
        refine G.iconst (v := 1) C dX9_countRowsToEnd_81 (by decide) ?_
        refine G.iadd C dX9_countRowsToEnd_82 ?_
        obtain ⟨hi3, hf⟩ := ck_some hf
        obtain ⟨M1, eM1, hf⟩ := stm_some hf
        refine G.iast C a_4 hi3 eM1 dX9_countRowsToEnd_83 ?_
        refine G.sub (lv' := [(0, .ref (ad 0)), (2, .int x2), (3, .int (x3 + 1)), (5, .int x5)]) [1, 2, 0, 4] rfl ?_
        exact w_X9_countRowsToEnd_84 C Rt x2 (x3 + 1) x5 M1 h_28 hf
theorem w_X9_countRowsToEnd_28 {X : Gc} {ad : Nat → Nat} {res : (Int32 × Mem)} (C : Gk X ad cX9_countRowsToEnd "NineTongues" 6 7) (Rt : Gr X ad (some .int) (some (.int res.1)) res.2) (x2 : Int32) : ∀ (n : Nat) (x3 : Int32) (x4 : Int32) (x5 : Int32) (M : Mem), f_X9_countRowsToEnd_28 x2 n x3 x4 x5 M = some res → G X ad 28 6 [(0, .ref (ad 0)), (2, .int x2), (3, .int x3), (4, .int x4), (5, .int x5)] [] M := by
  intro n
  induction n with
  | zero => intro x3 x4 x5 M hf; exact absurd (show (none : Option (Int32 × Mem)) = some res from hf) (fun h => nomatch h)
  | succ n ih => intro x3 x4 x5 M hf; exact w_X9_countRowsToEnd_28_b C Rt x2 ih x3 x4 x5 M hf
set_option maxRecDepth 100000 in
set_option maxHeartbeats 4000000 in
theorem w_X9_countRowsToEnd_E {X : Gc} {ad : Nat → Nat} {res : (Int32 × Mem)} (C : Gk X ad cX9_countRowsToEnd "NineTongues" 6 7) (Rt : Gr X ad (some .int) (some (.int res.1)) res.2) (x1 : Int32) (x2 : Int32) (M : Mem) (hf : f_X9_countRowsToEnd x1 x2 M = some res) : G X ad 0 6 [(0, .ref (ad 0)), (1, .int x1), (2, .int x2)] [] M := by
  unfold f_X9_countRowsToEnd at hf
  refine G.iconst (v := 0) C dX9_countRowsToEnd_0 (by decide) ?_
  refine G.istore_n (lv' := [(3, .int (0 : Int32)), (0, .ref (ad 0)), (1, .int x1), (2, .int x2)]) C dX9_countRowsToEnd_1 rfl (by decide) rfl ?_
  refine G.aload_n (pl := 1) C dX9_countRowsToEnd_2 rfl rfl ?_
  refine gf9_8 C o_0 k2_52 dX9_countRowsToEnd_3 ?_
  refine G.iconst (v := 0) C dX9_countRowsToEnd_6 (by decide) ?_
  obtain ⟨u, M1, hr1, hf⟩ := cl_some hf
  refine G.callS (st1 := []) C [.ref (ad 4), .int (0 : Int32)] [] (c_J7_fill_53178 a_4 hr1) mv_J7_fill_53178 k3_170 rfl rfl rfl (Nat.le_of_ble_eq_true rfl) (by decide) dX9_countRowsToEnd_7 rfl ?_
  refine G.aload_n (pl := 1) C dX9_countRowsToEnd_10 rfl rfl ?_
  refine gf9_7 C o_0 k2_51 dX9_countRowsToEnd_11 ?_
  refine G.aload_n (pl := 1) C dX9_countRowsToEnd_14 rfl rfl ?_
  refine gf9_0 C o_0 k2_44 dX9_countRowsToEnd_15 ?_
  refine G.iload_n (pl := 2) C dX9_countRowsToEnd_18 rfl rfl ?_
  refine G.iload_n (pl := 3) C dX9_countRowsToEnd_19 rfl rfl ?_
  obtain ⟨v1, M2, hr2, hf⟩ := cl_some hf
  refine G.callV (st1 := [.int v1]) C [.ref (ad 5), .int x1, .int x2] [] (c_X6_begin hr2) mv_X6_begin k3_69 o_72.1 (fun _ => gShp_16 o_72) rfl rfl rfl rfl rfl (Nat.le_of_ble_eq_true rfl) (by decide) dX9_countRowsToEnd_20 rfl ?_
  refine G.istore (lv' := [(4, .int v1), (3, .int (0 : Int32)), (0, .ref (ad 0)), (1, .int x1), (2, .int x2)]) C dX9_countRowsToEnd_23 (by decide) rfl ?_
  refine G.iconst (v := 0) C dX9_countRowsToEnd_25 (by decide) ?_
  refine G.istore (lv' := [(5, .int (0 : Int32)), (4, .int v1), (3, .int (0 : Int32)), (0, .ref (ad 0)), (1, .int x1), (2, .int x2)]) C dX9_countRowsToEnd_26 (by decide) rfl ?_
  refine G.sub (lv' := [(0, .ref (ad 0)), (2, .int x2), (3, .int (0 : Int32)), (4, .int v1), (5, .int (0 : Int32))]) [3, 5, 2, 1, 0] rfl ?_
  exact w_X9_countRowsToEnd_28 C Rt x2 FU (0 : Int32) v1 (0 : Int32) M2 hf
theorem mv_X9_countRowsToEnd : gMV yX9_countRowsToEnd cX9_countRowsToEnd 6 (some .int) 2 := ⟨k3_168, kS_19, k1_1, k3_169, ⟨by decide +kernel, by decide +kernel, by decide +kernel⟩, by decide⟩
theorem c_X9_countRowsToEnd {res : (Int32 × Mem)} {x1 : Int32} {x2 : Int32} {M : Mem} (hf : f_X9_countRowsToEnd x1 x2 M = some res) : Ct yX9_countRowsToEnd cX9_countRowsToEnd 6 (some .int) 7 (fun ad => [.ref (ad 0), .int x1, .int x2]) M (some (.int res.1)) res.2 :=
  Ct.of (by decide +kernel) (fun _ => Nat.le_of_ble_eq_true rfl) (fun X ad C Rt => w_X9_countRowsToEnd_E C Rt x1 x2 M hf)
set_option maxRecDepth 100000 in
set_option maxHeartbeats 4000000 in
theorem w_X9_greatestDivisor_7_b {X : Gc} {ad : Nat → Nat} {res : Int32} {M : Mem} {r_7 : Int32 → Int32 → Int32 → Option Int32} (C : Gk X ad cX9_greatestDivisor "NineTongues" 6 1) (Rt : Gr X ad (some .int) (some (.int res)) M) (h_7 : ∀ (x2 : Int32) (x3 : Int32) (x4 : Int32), r_7 x2 x3 x4 = some res → G X ad 7 6 [(2, .int x2), (3, .int x3), (4, .int x4)] [] M) (x2 : Int32) (x3 : Int32) (x4 : Int32) (hf : f_X9_greatestDivisor_7_b M r_7 x2 x3 x4 = some res) : G X ad 7 6 [(2, .int x2), (3, .int x3), (4, .int x4)] [] M := by
  unfold f_X9_greatestDivisor_7_b at hf
  refine G.iload (pl := 2) C dX9_greatestDivisor_7 rfl ?_
  refine G.bipush (v := 100) C dX9_greatestDivisor_9 (by decide) ?_
  refine G.icmp_ge (tgt := 34) C dX9_greatestDivisor_11 (by decide) (fun hc1 => ?_) (fun hc1 => ?_)
  · replace hf := gIf hf hc1
    refine G.iload_n (pl := 0) C dX9_greatestDivisor_34 rfl rfl ?_
    cases hf
    exact G.iret C Rt dX9_greatestDivisor_35
  · replace hf := gIfn hf hc1
    refine G.iload_n (pl := 1) C dX9_greatestDivisor_14 rfl rfl ?_
    refine G.if_eq (tgt := 34) C dX9_greatestDivisor_15 (by decide) (fun hc2 => ?_) (fun hc2 => ?_)
    · replace hf := gIf hf hc2
      refine G.iload_n (pl := 0) C dX9_greatestDivisor_34 rfl rfl ?_
      cases hf
      exact G.iret C Rt dX9_greatestDivisor_35
    · replace hf := gIfn hf hc2
      refine G.iload_n (pl := 0) C dX9_greatestDivisor_18 rfl rfl ?_
      refine G.iload_n (pl := 1) C dX9_greatestDivisor_19 rfl rfl ?_
      obtain ⟨hn1, hf⟩ := dz_some hf
      refine G.irem C hn1 dX9_greatestDivisor_20 ?_
      refine G.istore (lv' := [(5, .int (x2 % x3)), (2, .int x2), (3, .int x3), (4, .int x4)]) C dX9_greatestDivisor_21 (by decide) rfl ?_
      refine G.iload_n (pl := 2) C dX9_greatestDivisor_23 rfl rfl ?_
      refine G.istore_n (lv' := [(2, .int x3), (5, .int (x2 % x3)), (3, .int x3), (4, .int x4)]) C dX9_greatestDivisor_24 rfl (by decide) rfl ?_
      refine G.iload (pl := 1) C dX9_greatestDivisor_25 rfl ?_
      refine G.istore_n (lv' := [(3, .int (x2 % x3)), (2, .int x3), (5, .int (x2 % x3)), (4, .int x4)]) C dX9_greatestDivisor_27 rfl (by decide) rfl ?_
      refine G.iinc (pl := 3) (v := (x4 + 1)) (lv' := [(4, .int (x4 + 1)), (3, .int (x2 % x3)), (2, .int x3), (5, .int (x2 % x3))]) C dX9_greatestDivisor_28 rfl rfl (by decide) rfl ?_
      refine G.goto (tgt := 7) C dX9_greatestDivisor_31 (by decide) ?_
      refine G.sub (lv' := [(2, .int x3), (3, .int (x2 % x3)), (4, .int (x4 + 1))]) [2, 1, 0] rfl ?_
      exact h_7 x3 (x2 % x3) (x4 + 1)  hf
theorem w_X9_greatestDivisor_7 {X : Gc} {ad : Nat → Nat} {res : Int32} {M : Mem} (C : Gk X ad cX9_greatestDivisor "NineTongues" 6 1) (Rt : Gr X ad (some .int) (some (.int res)) M) : ∀ (n : Nat) (x2 : Int32) (x3 : Int32) (x4 : Int32), f_X9_greatestDivisor_7 M n x2 x3 x4 = some res → G X ad 7 6 [(2, .int x2), (3, .int x3), (4, .int x4)] [] M := by
  intro n
  induction n with
  | zero => intro x2 x3 x4 hf; exact absurd (show (none : Option Int32) = some res from hf) (fun h => nomatch h)
  | succ n ih => intro x2 x3 x4 hf; exact w_X9_greatestDivisor_7_b C Rt ih x2 x3 x4 hf
set_option maxRecDepth 100000 in
set_option maxHeartbeats 4000000 in
theorem w_X9_greatestDivisor_E {X : Gc} {ad : Nat → Nat} {res : Int32} {M : Mem} (C : Gk X ad cX9_greatestDivisor "NineTongues" 6 1) (Rt : Gr X ad (some .int) (some (.int res)) M) (x0 : Int32) (x1 : Int32) (hf : f_X9_greatestDivisor x0 x1 M = some res) : G X ad 0 6 [(0, .int x0), (1, .int x1)] [] M := by
  unfold f_X9_greatestDivisor at hf
  refine G.iload_n (pl := 0) C dX9_greatestDivisor_0 rfl rfl ?_
  refine G.istore_n (lv' := [(2, .int x0), (0, .int x0), (1, .int x1)]) C dX9_greatestDivisor_1 rfl (by decide) rfl ?_
  refine G.iload_n (pl := 2) C dX9_greatestDivisor_2 rfl rfl ?_
  refine G.istore_n (lv' := [(3, .int x1), (2, .int x0), (0, .int x0), (1, .int x1)]) C dX9_greatestDivisor_3 rfl (by decide) rfl ?_
  refine G.iconst (v := 0) C dX9_greatestDivisor_4 (by decide) ?_
  refine G.istore (lv' := [(4, .int (0 : Int32)), (3, .int x1), (2, .int x0), (0, .int x0), (1, .int x1)]) C dX9_greatestDivisor_5 (by decide) rfl ?_
  refine G.sub (lv' := [(2, .int x0), (3, .int x1), (4, .int (0 : Int32))]) [2, 1, 0] rfl ?_
  exact w_X9_greatestDivisor_7 C Rt FU x0 x1 (0 : Int32) hf
theorem mv_X9_greatestDivisor : gMS yX9_greatestDivisor cX9_greatestDivisor 6 (some .int) 2 := ⟨k3_180, k1_1, k3_181, ⟨by decide +kernel, by decide +kernel, by decide +kernel⟩, by decide⟩
theorem c_X9_greatestDivisor {res : Int32} {x0 : Int32} {x1 : Int32} {M : Mem} (hf : f_X9_greatestDivisor x0 x1 M = some res) : Ct yX9_greatestDivisor cX9_greatestDivisor 6 (some .int) 1 (fun ad => [.int x0, .int x1]) M (some (.int res)) M :=
  Ct.of (by decide +kernel) (fun _ => Nat.le_of_ble_eq_true rfl) (fun X ad C Rt => w_X9_greatestDivisor_E C Rt x0 x1 hf)
set_option maxRecDepth 100000 in
set_option maxHeartbeats 4000000 in
theorem w_X9_keepFraction_E {X : Gc} {ad : Nat → Nat} {res : (Unit × Mem)} (C : Gk X ad cX9_keepFraction "NineTongues" 4 2) (Rt : Gr X ad none none res.2) (x1 : Int32) (x2 : Int32) (M : Mem) (hf : f_X9_keepFraction x1 x2 M = some res) : G X ad 0 4 [(0, .ref (ad 0)), (1, .int x1), (2, .int x2)] [] M := by
  unfold f_X9_keepFraction at hf
  refine G.iload_n (pl := 1) C dX9_keepFraction_0 rfl rfl ?_
  refine G.iload_n (pl := 2) C dX9_keepFraction_1 rfl rfl ?_
  obtain ⟨v1, hr1, hf⟩ := cp_some hf
  refine G.callS (st1 := [.int v1]) C [.int x1, .int x2] [] (c_X9_greatestDivisor hr1) mv_X9_greatestDivisor k3_179 rfl rfl rfl (Nat.le_of_ble_eq_true rfl) (by decide) dX9_keepFraction_2 rfl ?_
  refine G.istore_n (lv' := [(3, .int v1), (0, .ref (ad 0)), (1, .int x1), (2, .int x2)]) C dX9_keepFraction_5 rfl (by decide) rfl ?_
  refine G.iload_n (pl := 0) C dX9_keepFraction_6 rfl rfl ?_
  refine G.if_le (tgt := 24) C dX9_keepFraction_7 (by decide) (fun hc1 => ?_) (fun hc1 => ?_)
  · replace hf := gIf hf hc1
    cases hf
    exact G.vret C Rt dX9_keepFraction_24
  · replace hf := gIfn hf hc1
    refine G.aload_n (pl := 1) C dX9_keepFraction_10 rfl rfl ?_
    refine G.iload_n (pl := 2) C dX9_keepFraction_11 rfl rfl ?_
    refine G.iload_n (pl := 0) C dX9_keepFraction_12 rfl rfl ?_
    obtain ⟨hn1, hf⟩ := dz_some hf
    refine G.idiv C hn1 dX9_keepFraction_13 ?_
    obtain ⟨M1, eM1, hf⟩ := stm_some hf
    refine gp9_4 C o_0 k2_48 eM1 dX9_keepFraction_14 ?_
    refine G.aload_n (pl := 1) C dX9_keepFraction_17 rfl rfl ?_
    refine G.iload_n (pl := 3) C dX9_keepFraction_18 rfl rfl ?_
    refine G.iload_n (pl := 0) C dX9_keepFraction_19 rfl rfl ?_
    obtain ⟨hn2, hf⟩ := dz_some hf
    refine G.idiv C hn2 dX9_keepFraction_20 ?_
    obtain ⟨M2, eM2, hf⟩ := stm_some hf
    refine gp9_5 C o_0 k2_49 eM2 dX9_keepFraction_21 ?_
    cases hf
    exact G.vret C Rt dX9_keepFraction_24
theorem mv_X9_keepFraction : gMV yX9_keepFraction cX9_keepFraction 4 none 2 := ⟨k3_177, kS_20, k1_1, k3_178, ⟨by decide +kernel, by decide +kernel, by decide +kernel⟩, by decide⟩
theorem c_X9_keepFraction {res : (Unit × Mem)} {x1 : Int32} {x2 : Int32} {M : Mem} (hf : f_X9_keepFraction x1 x2 M = some res) : Ct yX9_keepFraction cX9_keepFraction 4 none 2 (fun ad => [.ref (ad 0), .int x1, .int x2]) M none res.2 :=
  Ct.of (by decide +kernel) (fun _ => Nat.le_of_ble_eq_true rfl) (fun X ad C Rt => w_X9_keepFraction_E C Rt x1 x2 M hf)
set_option maxRecDepth 100000 in
set_option maxHeartbeats 4000000 in
theorem w_X9_which_35 {X : Gc} {ad : Nat → Nat} {res : (Int32 × Mem)} (C : Gk X ad cX9_which "NineTongues" 5 8) (Rt : Gr X ad (some .int) (some (.int res.1)) res.2) (M : Mem) (hf : f_X9_which_35 M = some res) : G X ad 35 5 [(0, .ref (ad 0))] [] M := by
  unfold f_X9_which_35 at hf
  refine G.aload_n (pl := 0) C dX9_which_35 rfl rfl ?_
  refine G.bipush (v := (-2)) C dX9_which_36 (by decide) ?_
  obtain ⟨v1, M1, hr1, hf⟩ := cl_some hf
  refine G.callV (st1 := [.int v1]) C [.int (-2 : Int32)] [] (c_X9_refuse hr1) mv_X9_refuse k2_88 o_0.1 (fun _ => gShp_19 o_0) rfl rfl rfl rfl rfl (Nat.le_of_ble_eq_true rfl) (by decide) dX9_which_38 rfl ?_
  cases hf
  exact G.iret C Rt dX9_which_41
set_option maxRecDepth 100000 in
set_option maxHeartbeats 4000000 in
theorem w_X9_which_74 {X : Gc} {ad : Nat → Nat} {res : (Int32 × Mem)} (C : Gk X ad cX9_which "NineTongues" 5 8) (Rt : Gr X ad (some .int) (some (.int res.1)) res.2) (M : Mem) (hf : f_X9_which_74 M = some res) : G X ad 74 5 [(0, .ref (ad 0))] [] M := by
  unfold f_X9_which_74 at hf
  refine G.aload_n (pl := 0) C dX9_which_74 rfl rfl ?_
  refine G.bipush (v := (-3)) C dX9_which_75 (by decide) ?_
  obtain ⟨v1, M1, hr1, hf⟩ := cl_some hf
  refine G.callV (st1 := [.int v1]) C [.int (-3 : Int32)] [] (c_X9_refuse hr1) mv_X9_refuse k2_88 o_0.1 (fun _ => gShp_19 o_0) rfl rfl rfl rfl rfl (Nat.le_of_ble_eq_true rfl) (by decide) dX9_which_77 rfl ?_
  cases hf
  exact G.iret C Rt dX9_which_80
set_option maxRecDepth 100000 in
set_option maxHeartbeats 4000000 in
theorem w_X9_which_81 {X : Gc} {ad : Nat → Nat} {res : (Int32 × Mem)} (C : Gk X ad cX9_which "NineTongues" 5 8) (Rt : Gr X ad (some .int) (some (.int res.1)) res.2) (x1 : Int32) (x2 : Int32) (x3 : Int32) (M : Mem) (hf : f_X9_which_81 x1 x2 x3 M = some res) : G X ad 81 5 [(0, .ref (ad 0)), (1, .int x1), (2, .int x2), (3, .int x3)] [] M := by
  unfold f_X9_which_81 at hf
  refine G.aload_n (pl := 0) C dX9_which_81 rfl rfl ?_
  refine G.iload_n (pl := 1) C dX9_which_82 rfl rfl ?_
  refine G.iload_n (pl := 2) C dX9_which_83 rfl rfl ?_
  obtain ⟨v1, M1, hr1, hf⟩ := cl_some hf
  refine G.callV (st1 := [.int v1]) C [.int x1, .int x2] [] (c_X9_countRowsToEnd hr1) mv_X9_countRowsToEnd k3_166 o_0.1 (fun _ => gShp_19 o_0) rfl rfl rfl rfl rfl (Nat.le_of_ble_eq_true rfl) (by decide) dX9_which_84 rfl ?_
  refine G.istore (lv' := [(4, .int v1), (0, .ref (ad 0)), (1, .int x1), (2, .int x2), (3, .int x3)]) C dX9_which_87 (by decide) rfl ?_
  refine G.iload_n (pl := 4) C dX9_which_89 rfl rfl ?_
  refine G.iconst (v := (-1)) C dX9_which_90 (by decide) ?_
  refine G.icmp_ne (tgt := 97) C dX9_which_91 (by decide) (fun hc1 => ?_) (fun hc1 => ?_)
  · replace hf := gIfn hf hc1
    refine G.iload (pl := 0) C dX9_which_97 rfl ?_
    refine G.if_ne (tgt := 109) C dX9_which_99 (by decide) (fun hc2 => ?_) (fun hc2 => ?_)
    · replace hf := gIfn hf hc2
      refine G.aload_n (pl := 1) C dX9_which_109 rfl rfl ?_
      refine G.aload_n (pl := 1) C dX9_which_110 rfl rfl ?_
      refine gf9_8 C o_0 k2_52 dX9_which_111 ?_
      refine G.iload_n (pl := 4) C dX9_which_114 rfl rfl ?_
      obtain ⟨v2, ev1, hi1, hf⟩ := rd_some hf
      refine G.iald C a_4 hi1 ev1 dX9_which_115 ?_
      refine G.iload (pl := 0) C dX9_which_116 rfl ?_
      obtain ⟨u, M2, hr2, hf⟩ := cl_some hf
      refine G.callV (st1 := []) C [.int v2, .int v1] [] (c_X9_keepFraction hr2) mv_X9_keepFraction k3_175 o_0.1 (fun _ => gShp_19 o_0) rfl rfl rfl rfl rfl (Nat.le_of_ble_eq_true rfl) (by decide) dX9_which_118 rfl ?_
      refine G.iconst (v := 1) C dX9_which_121 (by decide) ?_
      cases hf
      exact G.iret C Rt dX9_which_122
    · replace hf := gIf hf hc2
      refine G.aload_n (pl := 1) C dX9_which_102 rfl rfl ?_
      refine G.bipush (v := (-3)) C dX9_which_103 (by decide) ?_
      obtain ⟨v3, M3, hr3, hf⟩ := cl_some hf
      refine G.callV (st1 := [.int v3]) C [.int (-3 : Int32)] [] (c_X9_refuse hr3) mv_X9_refuse k2_88 o_0.1 (fun _ => gShp_19 o_0) rfl rfl rfl rfl rfl (Nat.le_of_ble_eq_true rfl) (by decide) dX9_which_105 rfl ?_
      cases hf
      exact G.iret C Rt dX9_which_108
  · replace hf := gIf hf hc1
    refine G.iload (pl := 0) C dX9_which_94 rfl ?_
    cases hf
    exact G.iret C Rt dX9_which_96
set_option maxRecDepth 100000 in
set_option maxHeartbeats 4000000 in
theorem w_X9_which_42 {X : Gc} {ad : Nat → Nat} {res : (Int32 × Mem)} (C : Gk X ad cX9_which "NineTongues" 5 8) (Rt : Gr X ad (some .int) (some (.int res.1)) res.2) (x1 : Int32) (x2 : Int32) (x3 : Int32) (M : Mem) (hf : f_X9_which_42 x1 x2 x3 M = some res) : G X ad 42 5 [(0, .ref (ad 0)), (1, .int x1), (2, .int x2), (3, .int x3)] [] M := by
  unfold f_X9_which_42 at hf
  refine G.aload_n (pl := 0) C dX9_which_42 rfl rfl ?_
  refine gf9_0 C o_0 k2_44 dX9_which_43 ?_
  refine gf8_1 C o_5 k1_177 dX9_which_46 ?_
  refine gf7_0 C o_14 k1_91 dX9_which_49 ?_
  refine G.if_eq (tgt := 74) C dX9_which_52 (by decide) (fun hc1 => ?_) (fun hc1 => ?_)
  · replace hf := gIf hf hc1
    refine G.sub (lv' := [(0, .ref (ad 0))]) [0] rfl ?_
    exact w_X9_which_74 C Rt M hf
  · replace hf := gIfn hf hc1
    refine G.iload_n (pl := 3) C dX9_which_55 rfl rfl ?_
    refine G.iconst (v := (-1)) C dX9_which_56 (by decide) ?_
    refine G.icmp_eq (tgt := 81) C dX9_which_57 (by decide) (fun hc2 => ?_) (fun hc2 => ?_)
    · replace hf := gIf hf hc2
      exact w_X9_which_81 C Rt x1 x2 x3 M hf
    · replace hf := gIfn hf hc2
      refine G.aload_n (pl := 0) C dX9_which_60 rfl rfl ?_
      refine gf9_0 C o_0 k2_44 dX9_which_61 ?_
      refine gf8_0 C o_5 k1_174 dX9_which_64 ?_
      refine G.iload_n (pl := 3) C dX9_which_67 rfl rfl ?_
      obtain ⟨v1, hr1, hf⟩ := cp_some hf
      refine G.callV (st1 := [.int v1]) C [.int x3] [] (c_X1_hasWords hr1) mv_X1_hasWords k3_64 o_6.1 (fun _ => gShp_11 o_6) rfl rfl rfl rfl rfl (Nat.le_of_ble_eq_true rfl) (by decide) dX9_which_68 rfl ?_
      refine G.if_ne (tgt := 81) C dX9_which_71 (by decide) (fun hc3 => ?_) (fun hc3 => ?_)
      · replace hf := gIfn hf hc3
        exact w_X9_which_81 C Rt x1 x2 x3 M hf
      · replace hf := gIf hf hc3
        refine G.sub (lv' := [(0, .ref (ad 0))]) [0] rfl ?_
        exact w_X9_which_74 C Rt M hf
set_option maxRecDepth 100000 in
set_option maxHeartbeats 4000000 in
theorem w_X9_which_E {X : Gc} {ad : Nat → Nat} {res : (Int32 × Mem)} (C : Gk X ad cX9_which "NineTongues" 5 8) (Rt : Gr X ad (some .int) (some (.int res.1)) res.2) (x1 : Int32) (x2 : Int32) (x3 : Int32) (M : Mem) (hf : f_X9_which x1 x2 x3 M = some res) : G X ad 0 5 [(0, .ref (ad 0)), (1, .int x1), (2, .int x2), (3, .int x3)] [] M := by
  unfold f_X9_which at hf
  refine G.iload_n (pl := 1) C dX9_which_0 rfl rfl ?_
  obtain ⟨v1, hr1, hf⟩ := cp_some hf
  refine G.callS (st1 := [.int v1]) C [.int x1] [] (c_X9_isKind hr1) mv_X9_isKind k2_138 rfl rfl rfl (Nat.le_of_ble_eq_true rfl) (by decide) dX9_which_1 rfl ?_
  refine G.if_eq (tgt := 35) C dX9_which_4 (by decide) (fun hc1 => ?_) (fun hc1 => ?_)
  · replace hf := gIf hf hc1
    refine G.sub (lv' := [(0, .ref (ad 0))]) [0] rfl ?_
    exact w_X9_which_35 C Rt M hf
  · replace hf := gIfn hf hc1
    refine G.iload_n (pl := 2) C dX9_which_7 rfl rfl ?_
    refine G.iconst (v := 1) C dX9_which_8 (by decide) ?_
    refine G.iconst (v := 4) C dX9_which_9 (by decide) ?_
    obtain ⟨v2, hr2, hf⟩ := cp_some hf
    refine G.callS (st1 := [.int v2]) C [.int x2, .int (1 : Int32), .int (4 : Int32)] [] (c_X9_isIn hr2) mv_X9_isIn k2_85 rfl rfl rfl (Nat.le_of_ble_eq_true rfl) (by decide) dX9_which_10 rfl ?_
    refine G.if_eq (tgt := 35) C dX9_which_13 (by decide) (fun hc2 => ?_) (fun hc2 => ?_)
    · replace hf := gIf hf hc2
      refine G.sub (lv' := [(0, .ref (ad 0))]) [0] rfl ?_
      exact w_X9_which_35 C Rt M hf
    · replace hf := gIfn hf hc2
      refine G.iload_n (pl := 3) C dX9_which_16 rfl rfl ?_
      refine G.iconst (v := (-1)) C dX9_which_17 (by decide) ?_
      refine G.icmp_eq (tgt := 42) C dX9_which_18 (by decide) (fun hc3 => ?_) (fun hc3 => ?_)
      · replace hf := gIf hf hc3
        exact w_X9_which_42 C Rt x1 x2 x3 M hf
      · replace hf := gIfn hf hc3
        refine G.aload_n (pl := 0) C dX9_which_21 rfl rfl ?_
        refine gf9_0 C o_0 k2_44 dX9_which_22 ?_
        refine gf8_0 C o_5 k1_174 dX9_which_25 ?_
        refine G.iload_n (pl := 3) C dX9_which_28 rfl rfl ?_
        obtain ⟨v3, hr3, hf⟩ := cp_some hf
        refine G.callV (st1 := [.int v3]) C [.int x3] [] (c_X1_hasTongue hr3) mv_X1_hasTongue k2_104 o_6.1 (fun _ => gShp_11 o_6) rfl rfl rfl rfl rfl (Nat.le_of_ble_eq_true rfl) (by decide) dX9_which_29 rfl ?_
        refine G.if_ne (tgt := 42) C dX9_which_32 (by decide) (fun hc4 => ?_) (fun hc4 => ?_)
        · replace hf := gIfn hf hc4
          exact w_X9_which_42 C Rt x1 x2 x3 M hf
        · replace hf := gIf hf hc4
          refine G.sub (lv' := [(0, .ref (ad 0))]) [0] rfl ?_
          exact w_X9_which_35 C Rt M hf
theorem mv_X9_which : gMV yX9_which cX9_which 5 (some .int) 3 := ⟨k3_163, k3_164, k1_1, k3_165, ⟨by decide +kernel, by decide +kernel, by decide +kernel⟩, by decide⟩
theorem c_X9_which {res : (Int32 × Mem)} {x1 : Int32} {x2 : Int32} {x3 : Int32} {M : Mem} (hf : f_X9_which x1 x2 x3 M = some res) : Ct yX9_which cX9_which 5 (some .int) 8 (fun ad => [.ref (ad 0), .int x1, .int x2, .int x3]) M (some (.int res.1)) res.2 :=
  Ct.of (by decide +kernel) (fun _ => Nat.le_of_ble_eq_true rfl) (fun X ad C Rt => w_X9_which_E C Rt x1 x2 x3 M hf)
set_option maxRecDepth 100000 in
set_option maxHeartbeats 4000000 in
theorem w_X9_pair_36 {X : Gc} {ad : Nat → Nat} {res : (Int32 × Mem)} (C : Gk X ad cX9_pair "NineTongues" 7 4) (Rt : Gr X ad (some .int) (some (.int res.1)) res.2) (M : Mem) (hf : f_X9_pair_36 M = some res) : G X ad 36 7 [(0, .ref (ad 0))] [] M := by
  unfold f_X9_pair_36 at hf
  refine G.aload_n (pl := 0) C dX9_pair_36 rfl rfl ?_
  refine G.bipush (v := (-2)) C dX9_pair_37 (by decide) ?_
  obtain ⟨v1, M1, hr1, hf⟩ := cl_some hf
  refine G.callV (st1 := [.int v1]) C [.int (-2 : Int32)] [] (c_X9_refuse hr1) mv_X9_refuse k2_88 o_0.1 (fun _ => gShp_19 o_0) rfl rfl rfl rfl rfl (Nat.le_of_ble_eq_true rfl) (by decide) dX9_pair_39 rfl ?_
  cases hf
  exact G.iret C Rt dX9_pair_42
set_option maxRecDepth 100000 in
set_option maxHeartbeats 4000000 in
theorem w_X9_pair_E {X : Gc} {ad : Nat → Nat} {res : (Int32 × Mem)} (C : Gk X ad cX9_pair "NineTongues" 7 4) (Rt : Gr X ad (some .int) (some (.int res.1)) res.2) (x1 : Int32) (x2 : Int32) (x3 : Int32) (x4 : Int32) (M : Mem) (hf : f_X9_pair x1 x2 x3 x4 M = some res) : G X ad 0 7 [(0, .ref (ad 0)), (1, .int x1), (2, .int x2), (3, .int x3), (4, .int x4)] [] M := by
  unfold f_X9_pair at hf
  refine G.iload_n (pl := 1) C dX9_pair_0 rfl rfl ?_
  refine G.iload_n (pl := 3) C dX9_pair_1 rfl rfl ?_
  refine G.icmp_eq (tgt := 36) C dX9_pair_2 (by decide) (fun hc1 => ?_) (fun hc1 => ?_)
  · replace hf := gIf hf hc1
    refine G.sub (lv' := [(0, .ref (ad 0))]) [0] rfl ?_
    exact w_X9_pair_36 C Rt M hf
  · replace hf := gIfn hf hc1
    refine G.aload_n (pl := 0) C dX9_pair_5 rfl rfl ?_
    refine gf9_0 C o_0 k2_44 dX9_pair_6 ?_
    refine gf8_0 C o_5 k1_174 dX9_pair_9 ?_
    refine G.iload_n (pl := 1) C dX9_pair_12 rfl rfl ?_
    refine G.iload_n (pl := 2) C dX9_pair_13 rfl rfl ?_
    obtain ⟨v1, hr1, hf⟩ := cp_some hf
    refine G.callV (st1 := [.int v1]) C [.int x1, .int x2] [] (c_X1_hasWord hr1) mv_X1_hasWord k2_145 o_6.1 (fun _ => gShp_11 o_6) rfl rfl rfl rfl rfl (Nat.le_of_ble_eq_true rfl) (by decide) dX9_pair_14 rfl ?_
    refine G.if_eq (tgt := 36) C dX9_pair_17 (by decide) (fun hc2 => ?_) (fun hc2 => ?_)
    · replace hf := gIf hf hc2
      refine G.sub (lv' := [(0, .ref (ad 0))]) [0] rfl ?_
      exact w_X9_pair_36 C Rt M hf
    · replace hf := gIfn hf hc2
      refine G.aload_n (pl := 0) C dX9_pair_20 rfl rfl ?_
      refine gf9_0 C o_0 k2_44 dX9_pair_21 ?_
      refine gf8_0 C o_5 k1_174 dX9_pair_24 ?_
      refine G.iload_n (pl := 3) C dX9_pair_27 rfl rfl ?_
      refine G.iload (pl := 4) C dX9_pair_28 rfl ?_
      obtain ⟨v2, hr2, hf⟩ := cp_some hf
      refine G.callV (st1 := [.int v2]) C [.int x3, .int x4] [] (c_X1_hasWord hr2) mv_X1_hasWord k2_145 o_6.1 (fun _ => gShp_11 o_6) rfl rfl rfl rfl rfl (Nat.le_of_ble_eq_true rfl) (by decide) dX9_pair_30 rfl ?_
      refine G.if_ne (tgt := 43) C dX9_pair_33 (by decide) (fun hc3 => ?_) (fun hc3 => ?_)
      · replace hf := gIfn hf hc3
        refine G.iload_n (pl := 1) C dX9_pair_43 rfl rfl ?_
        refine G.bipush (v := 8) C dX9_pair_44 (by decide) ?_
        refine G.imul C dX9_pair_46 ?_
        refine G.iload_n (pl := 2) C dX9_pair_47 rfl rfl ?_
        refine G.iadd C dX9_pair_48 ?_
        refine G.istore (lv' := [(5, .int ((x1 * (8 : Int32)) + x2)), (0, .ref (ad 0)), (1, .int x1), (2, .int x2), (3, .int x3), (4, .int x4)]) C dX9_pair_49 (by decide) rfl ?_
        refine G.iload_n (pl := 4) C dX9_pair_51 rfl rfl ?_
        refine G.bipush (v := 8) C dX9_pair_52 (by decide) ?_
        refine G.imul C dX9_pair_54 ?_
        refine G.iload (pl := 5) C dX9_pair_55 rfl ?_
        refine G.iadd C dX9_pair_57 ?_
        refine G.istore (lv' := [(6, .int ((x3 * (8 : Int32)) + x4)), (5, .int ((x1 * (8 : Int32)) + x2)), (0, .ref (ad 0)), (1, .int x1), (2, .int x2), (3, .int x3), (4, .int x4)]) C dX9_pair_58 (by decide) rfl ?_
        refine G.aload_n (pl := 2) C dX9_pair_60 rfl rfl ?_
        refine gf9_0 C o_0 k2_44 dX9_pair_61 ?_
        refine gf8_4 C o_5 k1_183 dX9_pair_64 ?_
        refine G.iload (pl := 1) C dX9_pair_67 rfl ?_
        refine G.iload (pl := 0) C dX9_pair_69 rfl ?_
        obtain ⟨v3, hr3, hf⟩ := cp_some hf
        refine G.callV (st1 := [.int v3]) C [.int ((x1 * (8 : Int32)) + x2), .int ((x3 * (8 : Int32)) + x4)] [] (c_X2_has hr3) mv_X2_has k3_186 o_23.1 (fun _ => gShp_12 o_23) rfl rfl rfl rfl rfl (Nat.le_of_ble_eq_true rfl) (by decide) dX9_pair_71 rfl ?_
        refine G.if_eq (tgt := 84) C dX9_pair_74 (by decide) (fun hc4 => ?_) (fun hc4 => ?_)
        · replace hf := gIf hf hc4
          refine G.aload_n (pl := 2) C dX9_pair_84 rfl rfl ?_
          refine gf9_0 C o_0 k2_44 dX9_pair_85 ?_
          refine gf8_4 C o_5 k1_183 dX9_pair_88 ?_
          refine gf2_0 C o_23 k1_160 dX9_pair_91 ?_
          refine G.bipush (v := 24) C dX9_pair_94 (by decide) ?_
          refine G.icmp_lt (tgt := 106) C dX9_pair_96 (by decide) (fun hc5 => ?_) (fun hc5 => ?_)
          · replace hf := gIf hf hc5
            refine G.aload_n (pl := 2) C dX9_pair_106 rfl rfl ?_
            refine gf9_0 C o_0 k2_44 dX9_pair_107 ?_
            refine gf8_4 C o_5 k1_183 dX9_pair_110 ?_
            refine G.iload (pl := 1) C dX9_pair_113 rfl ?_
            refine G.iload (pl := 0) C dX9_pair_115 rfl ?_
            obtain ⟨v4, M1, hr4, hf⟩ := cl_some hf
            refine G.callV (st1 := [.int v4]) C [.int ((x1 * (8 : Int32)) + x2), .int ((x3 * (8 : Int32)) + x4)] [] (c_X2_add hr4) mv_X2_add k3_194 o_23.1 (fun _ => gShp_12 o_23) rfl rfl rfl rfl rfl (Nat.le_of_ble_eq_true rfl) (by decide) dX9_pair_117 rfl ?_
            cases hf
            exact G.iret C Rt dX9_pair_120
          · replace hf := gIfn hf hc5
            refine G.aload_n (pl := 2) C dX9_pair_99 rfl rfl ?_
            refine G.bipush (v := (-4)) C dX9_pair_100 (by decide) ?_
            obtain ⟨v5, M2, hr5, hf⟩ := cl_some hf
            refine G.callV (st1 := [.int v5]) C [.int (-4 : Int32)] [] (c_X9_refuse hr5) mv_X9_refuse k2_88 o_0.1 (fun _ => gShp_19 o_0) rfl rfl rfl rfl rfl (Nat.le_of_ble_eq_true rfl) (by decide) dX9_pair_102 rfl ?_
            cases hf
            exact G.iret C Rt dX9_pair_105
        · replace hf := gIfn hf hc4
          refine G.aload_n (pl := 2) C dX9_pair_77 rfl rfl ?_
          refine G.bipush (v := (-2)) C dX9_pair_78 (by decide) ?_
          obtain ⟨v6, M3, hr6, hf⟩ := cl_some hf
          refine G.callV (st1 := [.int v6]) C [.int (-2 : Int32)] [] (c_X9_refuse hr6) mv_X9_refuse k2_88 o_0.1 (fun _ => gShp_19 o_0) rfl rfl rfl rfl rfl (Nat.le_of_ble_eq_true rfl) (by decide) dX9_pair_80 rfl ?_
          cases hf
          exact G.iret C Rt dX9_pair_83
      · replace hf := gIf hf hc3
        refine G.sub (lv' := [(0, .ref (ad 0))]) [0] rfl ?_
        exact w_X9_pair_36 C Rt M hf
theorem mv_X9_pair : gMV yX9_pair cX9_pair 7 (some .int) 4 := ⟨k3_183, k3_184, k1_1, k3_185, ⟨by decide +kernel, by decide +kernel, by decide +kernel⟩, by decide⟩
theorem c_X9_pair {res : (Int32 × Mem)} {x1 : Int32} {x2 : Int32} {x3 : Int32} {x4 : Int32} {M : Mem} (hf : f_X9_pair x1 x2 x3 x4 M = some res) : Ct yX9_pair cX9_pair 7 (some .int) 4 (fun ad => [.ref (ad 0), .int x1, .int x2, .int x3, .int x4]) M (some (.int res.1)) res.2 :=
  Ct.of (by decide +kernel) (fun _ => Nat.le_of_ble_eq_true rfl) (fun X ad C Rt => w_X9_pair_E C Rt x1 x2 x3 x4 M hf)
set_option maxRecDepth 100000 in
set_option maxHeartbeats 4000000 in
theorem w_X9_rings_E {X : Gc} {ad : Nat → Nat} {res : (Int32 × Mem)} (C : Gk X ad cX9_rings "NineTongues" 2 4) (Rt : Gr X ad (some .int) (some (.int res.1)) res.2) (x1 : Int32) (M : Mem) (hf : f_X9_rings x1 M = some res) : G X ad 0 2 [(0, .ref (ad 0)), (1, .int x1)] [] M := by
  unfold f_X9_rings at hf
  refine G.iload_n (pl := 1) C dX9_rings_0 rfl rfl ?_
  refine G.iconst (v := 0) C dX9_rings_1 (by decide) ?_
  refine G.iconst (v := 1) C dX9_rings_2 (by decide) ?_
  obtain ⟨v1, hr1, hf⟩ := cp_some hf
  refine G.callS (st1 := [.int v1]) C [.int x1, .int (0 : Int32), .int (1 : Int32)] [] (c_X9_isIn hr1) mv_X9_isIn k2_85 rfl rfl rfl (Nat.le_of_ble_eq_true rfl) (by decide) dX9_rings_3 rfl ?_
  refine G.if_ne (tgt := 16) C dX9_rings_6 (by decide) (fun hc1 => ?_) (fun hc1 => ?_)
  · replace hf := gIfn hf hc1
    refine G.aload_n (pl := 0) C dX9_rings_16 rfl rfl ?_
    refine gf9_9 C o_0 k2_53 dX9_rings_17 ?_
    refine G.aload_n (pl := 0) C dX9_rings_20 rfl rfl ?_
    refine gf9_0 C o_0 k2_44 dX9_rings_21 ?_
    refine gf8_4 C o_5 k1_183 dX9_rings_24 ?_
    obtain ⟨u, M1, hr2, hf⟩ := cl_some hf
    refine G.callV (st1 := []) C [.ref (ad 23)] [] (c_X4_find hr2) mv_X4_find k3_202 o_96.1 (fun _ => gShp_14 o_96) rfl rfl rfl rfl rfl (Nat.le_of_ble_eq_true rfl) (by decide) dX9_rings_27 rfl ?_
    refine G.iload_n (pl := 1) C dX9_rings_30 rfl rfl ?_
    refine G.if_ne (tgt := 44) C dX9_rings_31 (by decide) (fun hc2 => ?_) (fun hc2 => ?_)
    · replace hf := gIfn hf hc2
      refine G.aload_n (pl := 0) C dX9_rings_44 rfl rfl ?_
      refine gf9_9 C o_0 k2_53 dX9_rings_45 ?_
      refine gf4_1 C o_96 k2_24 dX9_rings_48 ?_
      cases hf
      exact G.iret C Rt dX9_rings_51
    · replace hf := gIf hf hc2
      refine G.aload_n (pl := 0) C dX9_rings_34 rfl rfl ?_
      refine gf9_9 C o_0 k2_53 dX9_rings_35 ?_
      refine gf4_0 C o_96 k2_22 dX9_rings_38 ?_
      refine G.goto (tgt := 51) C dX9_rings_41 (by decide) ?_
      cases hf
      exact G.iret C Rt dX9_rings_51
  · replace hf := gIf hf hc1
    refine G.aload_n (pl := 0) C dX9_rings_9 rfl rfl ?_
    refine G.bipush (v := (-2)) C dX9_rings_10 (by decide) ?_
    obtain ⟨v2, M2, hr3, hf⟩ := cl_some hf
    refine G.callV (st1 := [.int v2]) C [.int (-2 : Int32)] [] (c_X9_refuse hr3) mv_X9_refuse k2_88 o_0.1 (fun _ => gShp_19 o_0) rfl rfl rfl rfl rfl (Nat.le_of_ble_eq_true rfl) (by decide) dX9_rings_12 rfl ?_
    cases hf
    exact G.iret C Rt dX9_rings_15
theorem mv_X9_rings : gMV yX9_rings cX9_rings 2 (some .int) 1 := ⟨k3_199, k3_200, k1_1, k3_201, ⟨by decide +kernel, by decide +kernel, by decide +kernel⟩, by decide⟩
theorem c_X9_rings {res : (Int32 × Mem)} {x1 : Int32} {M : Mem} (hf : f_X9_rings x1 M = some res) : Ct yX9_rings cX9_rings 2 (some .int) 4 (fun ad => [.ref (ad 0), .int x1]) M (some (.int res.1)) res.2 :=
  Ct.of (by decide +kernel) (fun _ => Nat.le_of_ble_eq_true rfl) (fun X ad C Rt => w_X9_rings_E C Rt x1 M hf)
set_option maxRecDepth 100000 in
set_option maxHeartbeats 4000000 in
theorem w_X9_atFault_E {X : Gc} {ad : Nat → Nat} {res : (Int32 × Mem)} (C : Gk X ad cX9_atFault "NineTongues" 2 4) (Rt : Gr X ad (some .int) (some (.int res.1)) res.2) (x1 : Int32) (M : Mem) (hf : f_X9_atFault x1 M = some res) : G X ad 0 2 [(0, .ref (ad 0)), (1, .int x1)] [] M := by
  unfold f_X9_atFault at hf
  refine G.iload_n (pl := 1) C dX9_atFault_0 rfl rfl ?_
  refine G.iconst (v := 0) C dX9_atFault_1 (by decide) ?_
  refine G.aload_n (pl := 0) C dX9_atFault_2 rfl rfl ?_
  refine gf9_0 C o_0 k2_44 dX9_atFault_3 ?_
  refine gf8_4 C o_5 k1_183 dX9_atFault_6 ?_
  refine gf2_0 C o_23 k1_160 dX9_atFault_9 ?_
  refine G.iconst (v := 1) C dX9_atFault_12 (by decide) ?_
  refine G.isub C dX9_atFault_13 ?_
  obtain ⟨v1, hr1, hf⟩ := cp_some hf
  refine G.callS (st1 := [.int v1]) C [.int x1, .int (0 : Int32), .int ((M.1 23 0) - (1 : Int32))] [] (c_X9_isIn hr1) mv_X9_isIn k2_85 rfl rfl rfl (Nat.le_of_ble_eq_true rfl) (by decide) dX9_atFault_14 rfl ?_
  refine G.if_ne (tgt := 27) C dX9_atFault_17 (by decide) (fun hc1 => ?_) (fun hc1 => ?_)
  · replace hf := gIfn hf hc1
    refine G.aload_n (pl := 0) C dX9_atFault_27 rfl rfl ?_
    refine gf9_9 C o_0 k2_53 dX9_atFault_28 ?_
    refine G.aload_n (pl := 0) C dX9_atFault_31 rfl rfl ?_
    refine gf9_0 C o_0 k2_44 dX9_atFault_32 ?_
    refine gf8_4 C o_5 k1_183 dX9_atFault_35 ?_
    obtain ⟨u, M1, hr2, hf⟩ := cl_some hf
    refine G.callV (st1 := []) C [.ref (ad 23)] [] (c_X4_find hr2) mv_X4_find k3_202 o_96.1 (fun _ => gShp_14 o_96) rfl rfl rfl rfl rfl (Nat.le_of_ble_eq_true rfl) (by decide) dX9_atFault_38 rfl ?_
    refine G.aload_n (pl := 0) C dX9_atFault_41 rfl rfl ?_
    refine gf9_9 C o_0 k2_53 dX9_atFault_42 ?_
    refine gf4_2 C o_96 k2_26 dX9_atFault_45 ?_
    refine G.iload_n (pl := 1) C dX9_atFault_48 rfl rfl ?_
    obtain ⟨v2, ev1, hi1, hf⟩ := rd_some hf
    refine G.iald C a_97 hi1 ev1 dX9_atFault_49 ?_
    refine G.if_ne (tgt := 60) C dX9_atFault_50 (by decide) (fun hc2 => ?_) (fun hc2 => ?_)
    · replace hf := gIfn hf hc2
      refine G.aload_n (pl := 0) C dX9_atFault_60 rfl rfl ?_
      refine G.aload_n (pl := 0) C dX9_atFault_61 rfl rfl ?_
      refine gf9_9 C o_0 k2_53 dX9_atFault_62 ?_
      refine gf4_3 C o_96 k2_28 dX9_atFault_65 ?_
      refine G.iload_n (pl := 1) C dX9_atFault_68 rfl rfl ?_
      obtain ⟨v3, ev2, hi2, hf⟩ := rd_some hf
      refine G.iald C a_98 hi2 ev2 dX9_atFault_69 ?_
      refine G.aload_n (pl := 0) C dX9_atFault_70 rfl rfl ?_
      refine gf9_9 C o_0 k2_53 dX9_atFault_71 ?_
      refine gf4_2 C o_96 k2_26 dX9_atFault_74 ?_
      refine G.iload_n (pl := 1) C dX9_atFault_77 rfl rfl ?_
      obtain ⟨v4, ev3, hi3, hf⟩ := rd_some hf
      refine G.iald C a_97 hi3 ev3 dX9_atFault_78 ?_
      obtain ⟨u, M2, hr3, hf⟩ := cl_some hf
      refine G.callV (st1 := []) C [.int v3, .int v4] [] (c_X9_keepFraction hr3) mv_X9_keepFraction k3_175 o_0.1 (fun _ => gShp_19 o_0) rfl rfl rfl rfl rfl (Nat.le_of_ble_eq_true rfl) (by decide) dX9_atFault_79 rfl ?_
      refine G.iconst (v := 1) C dX9_atFault_82 (by decide) ?_
      cases hf
      exact G.iret C Rt dX9_atFault_83
    · replace hf := gIf hf hc2
      refine G.aload_n (pl := 0) C dX9_atFault_53 rfl rfl ?_
      refine G.bipush (v := (-3)) C dX9_atFault_54 (by decide) ?_
      obtain ⟨v5, M3, hr4, hf⟩ := cl_some hf
      refine G.callV (st1 := [.int v5]) C [.int (-3 : Int32)] [] (c_X9_refuse hr4) mv_X9_refuse k2_88 o_0.1 (fun _ => gShp_19 o_0) rfl rfl rfl rfl rfl (Nat.le_of_ble_eq_true rfl) (by decide) dX9_atFault_56 rfl ?_
      cases hf
      exact G.iret C Rt dX9_atFault_59
  · replace hf := gIf hf hc1
    refine G.aload_n (pl := 0) C dX9_atFault_20 rfl rfl ?_
    refine G.bipush (v := (-2)) C dX9_atFault_21 (by decide) ?_
    obtain ⟨v6, M4, hr5, hf⟩ := cl_some hf
    refine G.callV (st1 := [.int v6]) C [.int (-2 : Int32)] [] (c_X9_refuse hr5) mv_X9_refuse k2_88 o_0.1 (fun _ => gShp_19 o_0) rfl rfl rfl rfl rfl (Nat.le_of_ble_eq_true rfl) (by decide) dX9_atFault_23 rfl ?_
    cases hf
    exact G.iret C Rt dX9_atFault_26
theorem mv_X9_atFault : gMV yX9_atFault cX9_atFault 2 (some .int) 1 := ⟨k3_221, k3_222, k1_1, k3_223, ⟨by decide +kernel, by decide +kernel, by decide +kernel⟩, by decide⟩
theorem c_X9_atFault {res : (Int32 × Mem)} {x1 : Int32} {M : Mem} (hf : f_X9_atFault x1 M = some res) : Ct yX9_atFault cX9_atFault 2 (some .int) 4 (fun ad => [.ref (ad 0), .int x1]) M (some (.int res.1)) res.2 :=
  Ct.of (by decide +kernel) (fun _ => Nat.le_of_ble_eq_true rfl) (fun X ad C Rt => w_X9_atFault_E C Rt x1 M hf)
