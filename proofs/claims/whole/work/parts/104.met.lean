set_option maxRecDepth 100000 in
set_option maxHeartbeats 4000000 in
theorem w_X9_fault_E {X : Gc} {ad : Nat → Nat} {res : (Int32 × Mem)} (C : Gk X ad cX9_fault "NineTongues" 1 7) (Rt : Gr X ad (some .int) (some (.int res.1)) res.2) (M : Mem) (hf : f_X9_fault M = some res) : G X ad 0 1 [(0, .ref (ad 0))] [] M := by
  unfold f_X9_fault at hf
  refine G.aload_n (pl := 0) C dX9_fault_0 rfl rfl ?_
  refine gf9_6 C o_0 k2_50 dX9_fault_1 ?_
  refine G.aload_n (pl := 0) C dX9_fault_4 rfl rfl ?_
  refine gf9_0 C o_0 k2_44 dX9_fault_5 ?_
  refine gf8_2 C o_5 k1_179 dX9_fault_8 ?_
  refine G.aload_n (pl := 0) C dX9_fault_11 rfl rfl ?_
  refine gf9_0 C o_0 k2_44 dX9_fault_12 ?_
  refine gf8_0 C o_5 k1_174 dX9_fault_15 ?_
  obtain ⟨u, M1, hr1, hf⟩ := cl_some hf
  refine G.callV (st1 := []) C [.ref (ad 18), .ref (ad 6)] [] (c_X5_read hr1) mv_X5_read k2_180 o_68.1 (fun _ => gShp_15 o_68) rfl rfl rfl rfl rfl (Nat.le_of_ble_eq_true rfl) (by decide) dX9_fault_18 rfl ?_
  refine G.aload_n (pl := 0) C dX9_fault_21 rfl rfl ?_
  refine gf9_6 C o_0 k2_50 dX9_fault_22 ?_
  refine gf5_0 C o_68 k1_203 dX9_fault_25 ?_
  cases hf
  exact G.iret C Rt dX9_fault_28
theorem mv_X9_fault : gMV yX9_fault cX9_fault 1 (some .int) 0 := ⟨k2_177, k2_178, k1_1, k2_179, ⟨by decide +kernel, by decide +kernel, by decide +kernel⟩, by decide⟩
theorem c_X9_fault {res : (Int32 × Mem)} {M : Mem} (hf : f_X9_fault M = some res) : Ct yX9_fault cX9_fault 1 (some .int) 7 (fun ad => [.ref (ad 0)]) M (some (.int res.1)) res.2 :=
  Ct.of (by decide +kernel) (fun _ => Nat.le_of_ble_eq_true rfl) (fun X ad C Rt => w_X9_fault_E C Rt M hf)
set_option maxRecDepth 100000 in
set_option maxHeartbeats 4000000 in
theorem w_X9_length_E {X : Gc} {ad : Nat → Nat} {res : (Int32 × Mem)} (C : Gk X ad cX9_length "NineTongues" 1 7) (Rt : Gr X ad (some .int) (some (.int res.1)) res.2) (M : Mem) (hf : f_X9_length M = some res) : G X ad 0 1 [(0, .ref (ad 0))] [] M := by
  unfold f_X9_length at hf
  refine G.aload_n (pl := 0) C dX9_length_0 rfl rfl ?_
  refine gf9_6 C o_0 k2_50 dX9_length_1 ?_
  refine G.aload_n (pl := 0) C dX9_length_4 rfl rfl ?_
  refine gf9_0 C o_0 k2_44 dX9_length_5 ?_
  refine gf8_2 C o_5 k1_179 dX9_length_8 ?_
  refine G.aload_n (pl := 0) C dX9_length_11 rfl rfl ?_
  refine gf9_0 C o_0 k2_44 dX9_length_12 ?_
  refine gf8_0 C o_5 k1_174 dX9_length_15 ?_
  obtain ⟨u, M1, hr1, hf⟩ := cl_some hf
  refine G.callV (st1 := []) C [.ref (ad 18), .ref (ad 6)] [] (c_X5_read hr1) mv_X5_read k2_180 o_68.1 (fun _ => gShp_15 o_68) rfl rfl rfl rfl rfl (Nat.le_of_ble_eq_true rfl) (by decide) dX9_length_18 rfl ?_
  refine G.aload_n (pl := 0) C dX9_length_21 rfl rfl ?_
  refine gf9_6 C o_0 k2_50 dX9_length_22 ?_
  obtain ⟨v1, hr2, hf⟩ := cp_some hf
  refine G.callV (st1 := [.int v1]) C [] [] (c_X5_canBeGone hr2) mv_X5_canBeGone k2_225 o_68.1 (fun _ => gShp_15 o_68) rfl rfl rfl rfl rfl (Nat.le_of_ble_eq_true rfl) (by decide) dX9_length_25 rfl ?_
  refine G.if_eq (tgt := 41) C dX9_length_28 (by decide) (fun hc1 => ?_) (fun hc1 => ?_)
  · replace hf := gIf hf hc1
    refine G.aload_n (pl := 0) C dX9_length_41 rfl rfl ?_
    refine G.bipush (v := (-3)) C dX9_length_42 (by decide) ?_
    obtain ⟨v2, M2, hr3, hf⟩ := cl_some hf
    refine G.callV (st1 := [.int v2]) C [.int (-3 : Int32)] [] (c_X9_refuse hr3) mv_X9_refuse k2_88 o_0.1 (fun _ => gShp_19 o_0) rfl rfl rfl rfl rfl (Nat.le_of_ble_eq_true rfl) (by decide) dX9_length_44 rfl ?_
    cases hf
    exact G.iret C Rt dX9_length_47
  · replace hf := gIfn hf hc1
    refine G.aload_n (pl := 0) C dX9_length_31 rfl rfl ?_
    refine gf9_6 C o_0 k2_50 dX9_length_32 ?_
    refine gf5_1 C o_68 k1_205 dX9_length_35 ?_
    refine G.goto (tgt := 47) C dX9_length_38 (by decide) ?_
    cases hf
    exact G.iret C Rt dX9_length_47
theorem mv_X9_length : gMV yX9_length cX9_length 1 (some .int) 0 := ⟨k2_222, k2_223, k1_1, k2_224, ⟨by decide +kernel, by decide +kernel, by decide +kernel⟩, by decide⟩
theorem c_X9_length {res : (Int32 × Mem)} {M : Mem} (hf : f_X9_length M = some res) : Ct yX9_length cX9_length 1 (some .int) 7 (fun ad => [.ref (ad 0)]) M (some (.int res.1)) res.2 :=
  Ct.of (by decide +kernel) (fun _ => Nat.le_of_ble_eq_true rfl) (fun X ad C Rt => w_X9_length_E C Rt M hf)
set_option maxRecDepth 100000 in
set_option maxHeartbeats 4000000 in
theorem w_X9_goesPath_E {X : Gc} {ad : Nat → Nat} {res : (Int32 × Mem)} (C : Gk X ad cX9_goesPath "NineTongues" 1 7) (Rt : Gr X ad (some .boolean) (some (.int res.1)) res.2) (M : Mem) (hf : f_X9_goesPath M = some res) : G X ad 0 1 [(0, .ref (ad 0))] [] M := by
  unfold f_X9_goesPath at hf
  refine G.aload_n (pl := 0) C dX9_goesPath_0 rfl rfl ?_
  refine gf9_6 C o_0 k2_50 dX9_goesPath_1 ?_
  refine G.aload_n (pl := 0) C dX9_goesPath_4 rfl rfl ?_
  refine gf9_0 C o_0 k2_44 dX9_goesPath_5 ?_
  refine gf8_2 C o_5 k1_179 dX9_goesPath_8 ?_
  refine G.aload_n (pl := 0) C dX9_goesPath_11 rfl rfl ?_
  refine gf9_0 C o_0 k2_44 dX9_goesPath_12 ?_
  refine gf8_0 C o_5 k1_174 dX9_goesPath_15 ?_
  obtain ⟨u, M1, hr1, hf⟩ := cl_some hf
  refine G.callV (st1 := []) C [.ref (ad 18), .ref (ad 6)] [] (c_X5_read hr1) mv_X5_read k2_180 o_68.1 (fun _ => gShp_15 o_68) rfl rfl rfl rfl rfl (Nat.le_of_ble_eq_true rfl) (by decide) dX9_goesPath_18 rfl ?_
  refine G.aload_n (pl := 0) C dX9_goesPath_21 rfl rfl ?_
  refine gf9_6 C o_0 k2_50 dX9_goesPath_22 ?_
  obtain ⟨v1, hr2, hf⟩ := cp_some hf
  refine G.callV (st1 := [.int v1]) C [] [] (c_X5_canBeGone hr2) mv_X5_canBeGone k2_225 o_68.1 (fun _ => gShp_15 o_68) rfl rfl rfl rfl rfl (Nat.le_of_ble_eq_true rfl) (by decide) dX9_goesPath_25 rfl ?_
  refine G.if_eq (tgt := 48) C dX9_goesPath_28 (by decide) (fun hc1 => ?_) (fun hc1 => ?_)
  · replace hf := gIf hf hc1
    refine G.iconst (v := 0) C dX9_goesPath_48 (by decide) ?_
    cases hf
    exact G.zret C rfl Rt dX9_goesPath_49
  · replace hf := gIfn hf hc1
    refine G.aload_n (pl := 0) C dX9_goesPath_31 rfl rfl ?_
    refine gf9_0 C o_0 k2_44 dX9_goesPath_32 ?_
    refine gf8_1 C o_5 k1_177 dX9_goesPath_35 ?_
    refine gf7_0 C o_14 k1_91 dX9_goesPath_38 ?_
    refine G.if_le (tgt := 48) C dX9_goesPath_41 (by decide) (fun hc2 => ?_) (fun hc2 => ?_)
    · replace hf := gIf hf hc2
      refine G.iconst (v := 0) C dX9_goesPath_48 (by decide) ?_
      cases hf
      exact G.zret C rfl Rt dX9_goesPath_49
    · replace hf := gIfn hf hc2
      refine G.iconst (v := 1) C dX9_goesPath_44 (by decide) ?_
      refine G.goto (tgt := 49) C dX9_goesPath_45 (by decide) ?_
      cases hf
      exact G.zret C rfl Rt dX9_goesPath_49
theorem mv_X9_goesPath : gMV yX9_goesPath cX9_goesPath 1 (some .boolean) 0 := ⟨k2_235, kS_10, k1_1, k2_236, ⟨by decide +kernel, by decide +kernel, by decide +kernel⟩, by decide⟩
theorem c_X9_goesPath {res : (Int32 × Mem)} {M : Mem} (hf : f_X9_goesPath M = some res) : Ct yX9_goesPath cX9_goesPath 1 (some .boolean) 7 (fun ad => [.ref (ad 0)]) M (some (.int res.1)) res.2 :=
  Ct.of (by decide +kernel) (fun _ => Nat.le_of_ble_eq_true rfl) (fun X ad C Rt => w_X9_goesPath_E C Rt M hf)
set_option maxRecDepth 100000 in
set_option maxHeartbeats 4000000 in
theorem w_X9_isState_E {X : Gc} {ad : Nat → Nat} {res : Int32} {M : Mem} (C : Gk X ad cX9_isState "NineTongues" 2 2) (Rt : Gr X ad (some .boolean) (some (.int res)) M) (x1 : Int32) (hf : f_X9_isState x1 M = some res) : G X ad 0 2 [(0, .ref (ad 0)), (1, .int x1)] [] M := by
  unfold f_X9_isState at hf
  refine G.iload_n (pl := 1) C dX9_isState_0 rfl rfl ?_
  refine G.iconst (v := 0) C dX9_isState_1 (by decide) ?_
  refine G.aload_n (pl := 0) C dX9_isState_2 rfl rfl ?_
  refine gf9_6 C o_0 k2_50 dX9_isState_3 ?_
  refine gf5_1 C o_68 k1_205 dX9_isState_6 ?_
  obtain ⟨v1, hr1, hf⟩ := cp_some hf
  refine G.callS (st1 := [.int v1]) C [.int x1, .int (0 : Int32), .int (M.1 68 1)] [] (c_X9_isIn hr1) mv_X9_isIn k2_85 rfl rfl rfl (Nat.le_of_ble_eq_true rfl) (by decide) dX9_isState_9 rfl ?_
  obtain ⟨hz, hf⟩ := rz_some hf
  cases hf
  exact G.zret C hz Rt dX9_isState_12
theorem mv_X9_isState : gMV yX9_isState cX9_isState 2 (some .boolean) 1 := ⟨k2_239, kS_11, k1_1, k3_0, ⟨by decide +kernel, by decide +kernel, by decide +kernel⟩, by decide⟩
theorem c_X9_isState {res : Int32} {x1 : Int32} {M : Mem} (hf : f_X9_isState x1 M = some res) : Ct yX9_isState cX9_isState 2 (some .boolean) 2 (fun ad => [.ref (ad 0), .int x1]) M (some (.int res)) M :=
  Ct.of (by decide +kernel) (fun _ => Nat.le_of_ble_eq_true rfl) (fun X ad C Rt => w_X9_isState_E C Rt x1 hf)
set_option maxRecDepth 100000 in
set_option maxHeartbeats 4000000 in
theorem w_X9_goTo_13_b {X : Gc} {ad : Nat → Nat} {res : (Unit × Mem)} {k1 : Nat} {r_13 : Int32 → Mem → Option (Unit × Mem)} (hk1 : gIs 17 k1) (C : Gk X ad cX9_goTo "NineTongues" 4 6) (Rt : Gr X ad none none res.2) (x2 : Int32) (h_13 : ∀ (x3 : Int32) (M : Mem), r_13 x3 M = some res → G X ad 13 4 [(0, .ref (ad 0)), (1, .ref (ad k1)), (2, .int x2), (3, .int x3)] [] M) (x3 : Int32) (M : Mem) (hf : f_X9_goTo_13_b k1 r_13 x2 x3 M = some res) : G X ad 13 4 [(0, .ref (ad 0)), (1, .ref (ad k1)), (2, .int x2), (3, .int x3)] [] M := by
  unfold f_X9_goTo_13_b at hf
  refine G.iload_n (pl := 3) C dX9_goTo_13 rfl rfl ?_
  refine G.iload_n (pl := 2) C dX9_goTo_14 rfl rfl ?_
  refine G.icmp_gt (tgt := 47) C dX9_goTo_15 (by decide) (fun hc1 => ?_) (fun hc1 => ?_)
  · replace hf := gIf hf hc1
    cases hf
    exact G.vret C Rt dX9_goTo_47
  · replace hf := gIfn hf hc1
    refine G.iload_n (pl := 3) C dX9_goTo_18 rfl rfl ?_
    refine G.sipush (v := 200) C dX9_goTo_19 (by decide) ?_
    refine G.icmp_gt (tgt := 47) C dX9_goTo_22 (by decide) (fun hc2 => ?_) (fun hc2 => ?_)
    · replace hf := gIf hf hc2
      cases hf
      exact G.vret C Rt dX9_goTo_47
    · replace hf := gIfn hf hc2
      refine G.aload_n (pl := 0) C dX9_goTo_25 rfl rfl ?_
      refine gf9_6 C o_0 k2_50 dX9_goTo_26 ?_
      refine G.aload_n (pl := 1) C dX9_goTo_29 rfl rfl ?_
      refine G.iload_n (pl := 3) C dX9_goTo_30 rfl rfl ?_
      refine G.aload_n (pl := 0) C dX9_goTo_31 rfl rfl ?_
      refine gf9_0 C o_0 k2_44 dX9_goTo_32 ?_
      refine gf8_0 C o_5 k1_174 dX9_goTo_35 ?_
      obtain ⟨u, M1, hr1, hf⟩ := cl_some hf
      refine G.callV (st1 := []) C [.ref (ad k1), .int x3, .ref (ad 6)] [] (c_X5_goStep hk1 hr1) mv_X5_goStep k3_12 o_68.1 (fun _ => gShp_15 o_68) rfl rfl rfl rfl rfl (Nat.le_of_ble_eq_true rfl) (by decide) dX9_goTo_38 rfl ?_
      refine G.iinc (pl := 3) (v := (x3 + 1)) (lv' := [(3, .int (x3 + 1)), (0, .ref (ad 0)), (1, .ref (ad k1)), (2, .int x2)]) C dX9_goTo_41 rfl rfl (by decide) rfl ?_
      refine G.goto (tgt := 13) C dX9_goTo_44 (by decide) ?_
      refine G.sub (lv' := [(0, .ref (ad 0)), (1, .ref (ad k1)), (2, .int x2), (3, .int (x3 + 1))]) [1, 2, 3, 0] rfl ?_
      exact h_13 (x3 + 1) M1 hf
theorem w_X9_goTo_13 {X : Gc} {ad : Nat → Nat} {res : (Unit × Mem)} {k1 : Nat} (hk1 : gIs 17 k1) (C : Gk X ad cX9_goTo "NineTongues" 4 6) (Rt : Gr X ad none none res.2) (x2 : Int32) : ∀ (n : Nat) (x3 : Int32) (M : Mem), f_X9_goTo_13 k1 x2 n x3 M = some res → G X ad 13 4 [(0, .ref (ad 0)), (1, .ref (ad k1)), (2, .int x2), (3, .int x3)] [] M := by
  intro n
  induction n with
  | zero => intro x3 M hf; exact absurd (show (none : Option (Unit × Mem)) = some res from hf) (fun h => nomatch h)
  | succ n ih => intro x3 M hf; exact w_X9_goTo_13_b hk1 C Rt x2 ih x3 M hf
set_option maxRecDepth 100000 in
set_option maxHeartbeats 4000000 in
theorem w_X9_goTo_E {X : Gc} {ad : Nat → Nat} {res : (Unit × Mem)} {k1 : Nat} (hk1 : gIs 17 k1) (C : Gk X ad cX9_goTo "NineTongues" 4 6) (Rt : Gr X ad none none res.2) (x2 : Int32) (M : Mem) (hf : f_X9_goTo k1 x2 M = some res) : G X ad 0 4 [(0, .ref (ad 0)), (1, .ref (ad k1)), (2, .int x2)] [] M := by
  unfold f_X9_goTo at hf
  refine G.aload_n (pl := 1) C dX9_goTo_0 rfl rfl ?_
  refine G.aload_n (pl := 0) C dX9_goTo_1 rfl rfl ?_
  refine gf9_0 C o_0 k2_44 dX9_goTo_2 ?_
  refine gf8_1 C o_5 k1_177 dX9_goTo_5 ?_
  obtain ⟨u, M1, hr1, hf⟩ := cl_some hf
  refine G.callV (st1 := []) C [.ref (ad 14)] [] (c_X7_copyFrom hk1 o_14 hr1) mv_X7_copyFrom k3_5 hk1.1 (fun _ => gShp_17 hk1) rfl rfl rfl rfl rfl (Nat.le_of_ble_eq_true rfl) (by decide) dX9_goTo_8 rfl ?_
  refine G.iconst (v := 1) C dX9_goTo_11 (by decide) ?_
  refine G.istore_n (lv' := [(3, .int (1 : Int32)), (0, .ref (ad 0)), (1, .ref (ad k1)), (2, .int x2)]) C dX9_goTo_12 rfl (by decide) rfl ?_
  refine G.sub (lv' := [(0, .ref (ad 0)), (1, .ref (ad k1)), (2, .int x2), (3, .int (1 : Int32))]) [1, 2, 3, 0] rfl ?_
  exact w_X9_goTo_13 hk1 C Rt x2 FU (1 : Int32) M1 hf
theorem mv_X9_goTo : gMV yX9_goTo cX9_goTo 4 none 2 := ⟨k3_3, kS_12, k1_1, k3_4, ⟨by decide +kernel, by decide +kernel, by decide +kernel⟩, by decide⟩
theorem c_X9_goTo {res : (Unit × Mem)} {k1 : Nat} {x2 : Int32} {M : Mem} (hk1 : gIs 17 k1) (hf : f_X9_goTo k1 x2 M = some res) : Ct yX9_goTo cX9_goTo 4 none 6 (fun ad => [.ref (ad 0), .ref (ad k1), .int x2]) M none res.2 :=
  Ct.of (by decide +kernel) (fun _ => Nat.le_of_ble_eq_true rfl) (fun X ad C Rt => w_X9_goTo_E hk1 C Rt x2 M hf)
set_option maxRecDepth 100000 in
set_option maxHeartbeats 4000000 in
theorem w_X9_parts_30 {X : Gc} {ad : Nat → Nat} {res : (Int32 × Mem)} (C : Gk X ad cX9_parts "NineTongues" 3 8) (Rt : Gr X ad (some .int) (some (.int res.1)) res.2) (M : Mem) (hf : f_X9_parts_30 M = some res) : G X ad 30 3 [(0, .ref (ad 0))] [] M := by
  unfold f_X9_parts_30 at hf
  refine G.aload_n (pl := 0) C dX9_parts_30 rfl rfl ?_
  refine G.bipush (v := (-2)) C dX9_parts_31 (by decide) ?_
  obtain ⟨v1, M1, hr1, hf⟩ := cl_some hf
  refine G.callV (st1 := [.int v1]) C [.int (-2 : Int32)] [] (c_X9_refuse hr1) mv_X9_refuse k2_88 o_0.1 (fun _ => gShp_19 o_0) rfl rfl rfl rfl rfl (Nat.le_of_ble_eq_true rfl) (by decide) dX9_parts_33 rfl ?_
  cases hf
  exact G.iret C Rt dX9_parts_36
set_option maxRecDepth 100000 in
set_option maxHeartbeats 4000000 in
theorem w_X9_parts_E {X : Gc} {ad : Nat → Nat} {res : (Int32 × Mem)} (C : Gk X ad cX9_parts "NineTongues" 3 8) (Rt : Gr X ad (some .int) (some (.int res.1)) res.2) (x1 : Int32) (x2 : Int32) (M : Mem) (hf : f_X9_parts x1 x2 M = some res) : G X ad 0 3 [(0, .ref (ad 0)), (1, .int x1), (2, .int x2)] [] M := by
  unfold f_X9_parts at hf
  refine G.aload_n (pl := 0) C dX9_parts_0 rfl rfl ?_
  obtain ⟨v1, M1, hr1, hf⟩ := cl_some hf
  refine G.callV (st1 := [.int v1]) C [] [] (c_X9_goesPath hr1) mv_X9_goesPath k2_233 o_0.1 (fun _ => gShp_19 o_0) rfl rfl rfl rfl rfl (Nat.le_of_ble_eq_true rfl) (by decide) dX9_parts_1 rfl ?_
  refine G.if_ne (tgt := 14) C dX9_parts_4 (by decide) (fun hc1 => ?_) (fun hc1 => ?_)
  · replace hf := gIfn hf hc1
    refine G.aload_n (pl := 0) C dX9_parts_14 rfl rfl ?_
    refine G.iload_n (pl := 1) C dX9_parts_15 rfl rfl ?_
    obtain ⟨v2, hr2, hf⟩ := cp_some hf
    refine G.callV (st1 := [.int v2]) C [.int x1] [] (c_X9_isState hr2) mv_X9_isState k2_237 o_0.1 (fun _ => gShp_19 o_0) rfl rfl rfl rfl rfl (Nat.le_of_ble_eq_true rfl) (by decide) dX9_parts_16 rfl ?_
    refine G.if_eq (tgt := 30) C dX9_parts_19 (by decide) (fun hc2 => ?_) (fun hc2 => ?_)
    · replace hf := gIf hf hc2
      refine G.sub (lv' := [(0, .ref (ad 0))]) [0] rfl ?_
      exact w_X9_parts_30 C Rt M1 hf
    · replace hf := gIfn hf hc2
      refine G.aload_n (pl := 0) C dX9_parts_22 rfl rfl ?_
      refine G.iload_n (pl := 2) C dX9_parts_23 rfl rfl ?_
      obtain ⟨v3, hr3, hf⟩ := cp_some hf
      refine G.callV (st1 := [.int v3]) C [.int x2] [] (c_X9_isPlace hr3) mv_X9_isPlace k2_141 o_0.1 (fun _ => gShp_19 o_0) rfl rfl rfl rfl rfl (Nat.le_of_ble_eq_true rfl) (by decide) dX9_parts_24 rfl ?_
      refine G.if_ne (tgt := 37) C dX9_parts_27 (by decide) (fun hc3 => ?_) (fun hc3 => ?_)
      · replace hf := gIfn hf hc3
        refine G.aload_n (pl := 0) C dX9_parts_37 rfl rfl ?_
        refine G.aload_n (pl := 0) C dX9_parts_38 rfl rfl ?_
        refine gf9_10 C o_0 k2_54 dX9_parts_39 ?_
        refine G.iload_n (pl := 1) C dX9_parts_42 rfl rfl ?_
        obtain ⟨u, M2, hr4, hf⟩ := cl_some hf
        refine G.callV (st1 := []) C [.ref (ad 100), .int x1] [] (c_X9_goTo o_100 hr4) mv_X9_goTo k3_1 o_0.1 (fun _ => gShp_19 o_0) rfl rfl rfl rfl rfl (Nat.le_of_ble_eq_true rfl) (by decide) dX9_parts_43 rfl ?_
        refine G.aload_n (pl := 0) C dX9_parts_46 rfl rfl ?_
        refine gf9_10 C o_0 k2_54 dX9_parts_47 ?_
        refine gf7_1 C o_100 k1_96 dX9_parts_50 ?_
        refine G.iload_n (pl := 2) C dX9_parts_53 rfl rfl ?_
        obtain ⟨v4, ev1, hi1, hf⟩ := rd_some hf
        refine G.iald C a_101 hi1 ev1 dX9_parts_54 ?_
        cases hf
        exact G.iret C Rt dX9_parts_55
      · replace hf := gIf hf hc3
        refine G.sub (lv' := [(0, .ref (ad 0))]) [0] rfl ?_
        exact w_X9_parts_30 C Rt M1 hf
  · replace hf := gIf hf hc1
    refine G.aload_n (pl := 0) C dX9_parts_7 rfl rfl ?_
    refine G.bipush (v := (-3)) C dX9_parts_8 (by decide) ?_
    obtain ⟨v5, M3, hr5, hf⟩ := cl_some hf
    refine G.callV (st1 := [.int v5]) C [.int (-3 : Int32)] [] (c_X9_refuse hr5) mv_X9_refuse k2_88 o_0.1 (fun _ => gShp_19 o_0) rfl rfl rfl rfl rfl (Nat.le_of_ble_eq_true rfl) (by decide) dX9_parts_10 rfl ?_
    cases hf
    exact G.iret C Rt dX9_parts_13
theorem mv_X9_parts : gMV yX9_parts cX9_parts 3 (some .int) 2 := ⟨k2_230, k2_231, k1_1, k2_232, ⟨by decide +kernel, by decide +kernel, by decide +kernel⟩, by decide⟩
theorem c_X9_parts {res : (Int32 × Mem)} {x1 : Int32} {x2 : Int32} {M : Mem} (hf : f_X9_parts x1 x2 M = some res) : Ct yX9_parts cX9_parts 3 (some .int) 8 (fun ad => [.ref (ad 0), .int x1, .int x2]) M (some (.int res.1)) res.2 :=
  Ct.of (by decide +kernel) (fun _ => Nat.le_of_ble_eq_true rfl) (fun X ad C Rt => w_X9_parts_E C Rt x1 x2 M hf)
set_option maxRecDepth 100000 in
set_option maxHeartbeats 4000000 in
theorem w_X9_formOf_31 {X : Gc} {ad : Nat → Nat} {res : (Int32 × Mem)} (C : Gk X ad cX9_formOf "NineTongues" 3 8) (Rt : Gr X ad (some .int) (some (.int res.1)) res.2) (M : Mem) (hf : f_X9_formOf_31 M = some res) : G X ad 31 3 [(0, .ref (ad 0))] [] M := by
  unfold f_X9_formOf_31 at hf
  refine G.aload_n (pl := 0) C dX9_formOf_31 rfl rfl ?_
  refine G.bipush (v := (-2)) C dX9_formOf_32 (by decide) ?_
  refine G.bipush (v := (-10)) C dX9_formOf_34 (by decide) ?_
  obtain ⟨v1, M1, hr1, hf⟩ := cl_some hf
  refine G.callV (st1 := [.int v1]) C [.int (-2 : Int32), .int (-10 : Int32)] [] (c_X9_refuse_ hr1) mv_X9_refuse_ k2_92 o_0.1 (fun _ => gShp_19 o_0) rfl rfl rfl rfl rfl (Nat.le_of_ble_eq_true rfl) (by decide) dX9_formOf_36 rfl ?_
  cases hf
  exact G.iret C Rt dX9_formOf_39
set_option maxRecDepth 100000 in
set_option maxHeartbeats 4000000 in
theorem w_X9_formOf_E {X : Gc} {ad : Nat → Nat} {res : (Int32 × Mem)} (C : Gk X ad cX9_formOf "NineTongues" 3 8) (Rt : Gr X ad (some .int) (some (.int res.1)) res.2) (x1 : Int32) (x2 : Int32) (M : Mem) (hf : f_X9_formOf x1 x2 M = some res) : G X ad 0 3 [(0, .ref (ad 0)), (1, .int x1), (2, .int x2)] [] M := by
  unfold f_X9_formOf at hf
  refine G.aload_n (pl := 0) C dX9_formOf_0 rfl rfl ?_
  obtain ⟨v1, M1, hr1, hf⟩ := cl_some hf
  refine G.callV (st1 := [.int v1]) C [] [] (c_X9_goesPath hr1) mv_X9_goesPath k2_233 o_0.1 (fun _ => gShp_19 o_0) rfl rfl rfl rfl rfl (Nat.le_of_ble_eq_true rfl) (by decide) dX9_formOf_1 rfl ?_
  refine G.if_ne (tgt := 14) C dX9_formOf_4 (by decide) (fun hc1 => ?_) (fun hc1 => ?_)
  · replace hf := gIfn hf hc1
    refine G.aload_n (pl := 0) C dX9_formOf_14 rfl rfl ?_
    refine G.iload_n (pl := 1) C dX9_formOf_15 rfl rfl ?_
    obtain ⟨v2, hr2, hf⟩ := cp_some hf
    refine G.callV (st1 := [.int v2]) C [.int x1] [] (c_X9_isState hr2) mv_X9_isState k2_237 o_0.1 (fun _ => gShp_19 o_0) rfl rfl rfl rfl rfl (Nat.le_of_ble_eq_true rfl) (by decide) dX9_formOf_16 rfl ?_
    refine G.if_eq (tgt := 31) C dX9_formOf_19 (by decide) (fun hc2 => ?_) (fun hc2 => ?_)
    · replace hf := gIf hf hc2
      refine G.sub (lv' := [(0, .ref (ad 0))]) [0] rfl ?_
      exact w_X9_formOf_31 C Rt M1 hf
    · replace hf := gIfn hf hc2
      refine G.iload_n (pl := 2) C dX9_formOf_22 rfl rfl ?_
      refine G.iconst (v := 0) C dX9_formOf_23 (by decide) ?_
      refine G.iconst (v := 3) C dX9_formOf_24 (by decide) ?_
      obtain ⟨v3, hr3, hf⟩ := cp_some hf
      refine G.callS (st1 := [.int v3]) C [.int x2, .int (0 : Int32), .int (3 : Int32)] [] (c_X9_isIn hr3) mv_X9_isIn k2_85 rfl rfl rfl (Nat.le_of_ble_eq_true rfl) (by decide) dX9_formOf_25 rfl ?_
      refine G.if_ne (tgt := 40) C dX9_formOf_28 (by decide) (fun hc3 => ?_) (fun hc3 => ?_)
      · replace hf := gIfn hf hc3
        refine G.aload_n (pl := 0) C dX9_formOf_40 rfl rfl ?_
        refine G.aload_n (pl := 0) C dX9_formOf_41 rfl rfl ?_
        refine gf9_10 C o_0 k2_54 dX9_formOf_42 ?_
        refine G.iload_n (pl := 1) C dX9_formOf_45 rfl rfl ?_
        obtain ⟨u, M2, hr4, hf⟩ := cl_some hf
        refine G.callV (st1 := []) C [.ref (ad 100), .int x1] [] (c_X9_goTo o_100 hr4) mv_X9_goTo k3_1 o_0.1 (fun _ => gShp_19 o_0) rfl rfl rfl rfl rfl (Nat.le_of_ble_eq_true rfl) (by decide) dX9_formOf_46 rfl ?_
        refine G.aload_n (pl := 0) C dX9_formOf_49 rfl rfl ?_
        refine gf9_10 C o_0 k2_54 dX9_formOf_50 ?_
        refine gf7_3 C o_100 k1_104 dX9_formOf_53 ?_
        refine G.iload_n (pl := 2) C dX9_formOf_56 rfl rfl ?_
        obtain ⟨v4, ev1, hi1, hf⟩ := rd_some hf
        refine G.iald C a_103 hi1 ev1 dX9_formOf_57 ?_
        cases hf
        exact G.iret C Rt dX9_formOf_58
      · replace hf := gIf hf hc3
        refine G.sub (lv' := [(0, .ref (ad 0))]) [0] rfl ?_
        exact w_X9_formOf_31 C Rt M1 hf
  · replace hf := gIf hf hc1
    refine G.aload_n (pl := 0) C dX9_formOf_7 rfl rfl ?_
    refine G.bipush (v := (-3)) C dX9_formOf_8 (by decide) ?_
    obtain ⟨v5, M3, hr5, hf⟩ := cl_some hf
    refine G.callV (st1 := [.int v5]) C [.int (-3 : Int32)] [] (c_X9_refuse hr5) mv_X9_refuse k2_88 o_0.1 (fun _ => gShp_19 o_0) rfl rfl rfl rfl rfl (Nat.le_of_ble_eq_true rfl) (by decide) dX9_formOf_10 rfl ?_
    cases hf
    exact G.iret C Rt dX9_formOf_13
theorem mv_X9_formOf : gMV yX9_formOf cX9_formOf 3 (some .int) 2 := ⟨k3_31, k3_32, k1_1, k3_33, ⟨by decide +kernel, by decide +kernel, by decide +kernel⟩, by decide⟩
theorem c_X9_formOf {res : (Int32 × Mem)} {x1 : Int32} {x2 : Int32} {M : Mem} (hf : f_X9_formOf x1 x2 M = some res) : Ct yX9_formOf cX9_formOf 3 (some .int) 8 (fun ad => [.ref (ad 0), .int x1, .int x2]) M (some (.int res.1)) res.2 :=
  Ct.of (by decide +kernel) (fun _ => Nat.le_of_ble_eq_true rfl) (fun X ad C Rt => w_X9_formOf_E C Rt x1 x2 M hf)
set_option maxRecDepth 100000 in
set_option maxHeartbeats 4000000 in
theorem w_X9_step_38 {X : Gc} {ad : Nat → Nat} {res : (Int32 × Mem)} (C : Gk X ad cX9_step "NineTongues" 3 8) (Rt : Gr X ad (some .int) (some (.int res.1)) res.2) (M : Mem) (hf : f_X9_step_38 M = some res) : G X ad 38 3 [(0, .ref (ad 0))] [] M := by
  unfold f_X9_step_38 at hf
  refine G.aload_n (pl := 0) C dX9_step_38 rfl rfl ?_
  refine G.bipush (v := (-2)) C dX9_step_39 (by decide) ?_
  obtain ⟨v1, M1, hr1, hf⟩ := cl_some hf
  refine G.callV (st1 := [.int v1]) C [.int (-2 : Int32)] [] (c_X9_refuse hr1) mv_X9_refuse k2_88 o_0.1 (fun _ => gShp_19 o_0) rfl rfl rfl rfl rfl (Nat.le_of_ble_eq_true rfl) (by decide) dX9_step_41 rfl ?_
  cases hf
  exact G.iret C Rt dX9_step_44
set_option maxRecDepth 100000 in
set_option maxHeartbeats 4000000 in
theorem w_X9_step_E {X : Gc} {ad : Nat → Nat} {res : (Int32 × Mem)} (C : Gk X ad cX9_step "NineTongues" 3 8) (Rt : Gr X ad (some .int) (some (.int res.1)) res.2) (x1 : Int32) (x2 : Int32) (M : Mem) (hf : f_X9_step x1 x2 M = some res) : G X ad 0 3 [(0, .ref (ad 0)), (1, .int x1), (2, .int x2)] [] M := by
  unfold f_X9_step at hf
  refine G.aload_n (pl := 0) C dX9_step_0 rfl rfl ?_
  obtain ⟨v1, M1, hr1, hf⟩ := cl_some hf
  refine G.callV (st1 := [.int v1]) C [] [] (c_X9_goesPath hr1) mv_X9_goesPath k2_233 o_0.1 (fun _ => gShp_19 o_0) rfl rfl rfl rfl rfl (Nat.le_of_ble_eq_true rfl) (by decide) dX9_step_1 rfl ?_
  refine G.if_ne (tgt := 14) C dX9_step_4 (by decide) (fun hc1 => ?_) (fun hc1 => ?_)
  · replace hf := gIfn hf hc1
    refine G.iload_n (pl := 1) C dX9_step_14 rfl rfl ?_
    refine G.iconst (v := 1) C dX9_step_15 (by decide) ?_
    refine G.aload_n (pl := 0) C dX9_step_16 rfl rfl ?_
    refine gf9_6 C o_0 k2_50 dX9_step_17 ?_
    refine gf5_1 C o_68 k1_205 dX9_step_20 ?_
    obtain ⟨v2, hr2, hf⟩ := cp_some hf
    refine G.callS (st1 := [.int v2]) C [.int x1, .int (1 : Int32), .int (M1.1 68 1)] [] (c_X9_isIn hr2) mv_X9_isIn k2_85 rfl rfl rfl (Nat.le_of_ble_eq_true rfl) (by decide) dX9_step_23 rfl ?_
    refine G.if_eq (tgt := 38) C dX9_step_26 (by decide) (fun hc2 => ?_) (fun hc2 => ?_)
    · replace hf := gIf hf hc2
      refine G.sub (lv' := [(0, .ref (ad 0))]) [0] rfl ?_
      exact w_X9_step_38 C Rt M1 hf
    · replace hf := gIfn hf hc2
      refine G.iload_n (pl := 2) C dX9_step_29 rfl rfl ?_
      refine G.iconst (v := 0) C dX9_step_30 (by decide) ?_
      refine G.iconst (v := 3) C dX9_step_31 (by decide) ?_
      obtain ⟨v3, hr3, hf⟩ := cp_some hf
      refine G.callS (st1 := [.int v3]) C [.int x2, .int (0 : Int32), .int (3 : Int32)] [] (c_X9_isIn hr3) mv_X9_isIn k2_85 rfl rfl rfl (Nat.le_of_ble_eq_true rfl) (by decide) dX9_step_32 rfl ?_
      refine G.if_ne (tgt := 45) C dX9_step_35 (by decide) (fun hc3 => ?_) (fun hc3 => ?_)
      · replace hf := gIfn hf hc3
        refine G.aload_n (pl := 0) C dX9_step_45 rfl rfl ?_
        refine G.aload_n (pl := 0) C dX9_step_46 rfl rfl ?_
        refine gf9_11 C o_0 k2_55 dX9_step_47 ?_
        refine G.iload_n (pl := 1) C dX9_step_50 rfl rfl ?_
        refine G.iconst (v := 1) C dX9_step_51 (by decide) ?_
        refine G.isub C dX9_step_52 ?_
        obtain ⟨u, M2, hr4, hf⟩ := cl_some hf
        refine G.callV (st1 := []) C [.ref (ad 104), .int (x1 - (1 : Int32))] [] (c_X9_goTo o_104 hr4) mv_X9_goTo k3_1 o_0.1 (fun _ => gShp_19 o_0) rfl rfl rfl rfl rfl (Nat.le_of_ble_eq_true rfl) (by decide) dX9_step_53 rfl ?_
        refine G.aload_n (pl := 0) C dX9_step_56 rfl rfl ?_
        refine gf9_10 C o_0 k2_54 dX9_step_57 ?_
        refine G.aload_n (pl := 0) C dX9_step_60 rfl rfl ?_
        refine gf9_11 C o_0 k2_55 dX9_step_61 ?_
        obtain ⟨u, M3, hr5, hf⟩ := cl_some hf
        refine G.callV (st1 := []) C [.ref (ad 104)] [] (c_X7_copyFrom o_100 o_104 hr5) mv_X7_copyFrom k3_5 o_100.1 (fun _ => gShp_17 o_100) rfl rfl rfl rfl rfl (Nat.le_of_ble_eq_true rfl) (by decide) dX9_step_64 rfl ?_
        refine G.aload_n (pl := 0) C dX9_step_67 rfl rfl ?_
        refine gf9_6 C o_0 k2_50 dX9_step_68 ?_
        refine G.aload_n (pl := 0) C dX9_step_71 rfl rfl ?_
        refine gf9_10 C o_0 k2_54 dX9_step_72 ?_
        refine G.iload_n (pl := 1) C dX9_step_75 rfl rfl ?_
        refine G.aload_n (pl := 0) C dX9_step_76 rfl rfl ?_
        refine gf9_0 C o_0 k2_44 dX9_step_77 ?_
        refine gf8_0 C o_5 k1_174 dX9_step_80 ?_
        obtain ⟨u, M4, hr6, hf⟩ := cl_some hf
        refine G.callV (st1 := []) C [.ref (ad 100), .int x1, .ref (ad 6)] [] (c_X5_goStep o_100 hr6) mv_X5_goStep k3_12 o_68.1 (fun _ => gShp_15 o_68) rfl rfl rfl rfl rfl (Nat.le_of_ble_eq_true rfl) (by decide) dX9_step_83 rfl ?_
        refine G.iload_n (pl := 2) C dX9_step_86 rfl rfl ?_
        by_cases hs1 : x2 = 0
        · replace hf := gIf hf hs1
          refine G.tableIn (tgt := 112) (off := 25) C dX9_step_87 (by rw [hs1]; decide) (by rw [hs1]; decide) (by rw [hs1]; rfl) (by decide) ?_
          refine G.aload_n (pl := 0) C dX9_step_112 rfl rfl ?_
          refine gf9_11 C o_0 k2_55 dX9_step_113 ?_
          refine G.aload_n (pl := 0) C dX9_step_116 rfl rfl ?_
          refine gf9_10 C o_0 k2_54 dX9_step_117 ?_
          obtain ⟨v4, hr7, hf⟩ := cp_some hf
          refine G.callV (st1 := [.int v4]) C [.ref (ad 100)] [] (c_X7_partsBeyond o_104 o_100 hr7) mv_X7_partsBeyond k3_38 o_104.1 (fun _ => gShp_17 o_104) rfl rfl rfl rfl rfl (Nat.le_of_ble_eq_true rfl) (by decide) dX9_step_120 rfl ?_
          cases hf
          exact G.iret C Rt dX9_step_123
        · replace hf := gIfn hf hs1
          by_cases hs2 : x2 = 1
          · replace hf := gIf hf hs2
            refine G.tableIn (tgt := 124) (off := 37) C dX9_step_87 (by rw [hs2]; decide) (by rw [hs2]; decide) (by rw [hs2]; rfl) (by decide) ?_
            refine G.aload_n (pl := 0) C dX9_step_124 rfl rfl ?_
            refine gf9_10 C o_0 k2_54 dX9_step_125 ?_
            refine G.aload_n (pl := 0) C dX9_step_128 rfl rfl ?_
            refine gf9_11 C o_0 k2_55 dX9_step_129 ?_
            obtain ⟨v5, hr8, hf⟩ := cp_some hf
            refine G.callV (st1 := [.int v5]) C [.ref (ad 104)] [] (c_X7_partsBeyond o_100 o_104 hr8) mv_X7_partsBeyond k3_38 o_100.1 (fun _ => gShp_17 o_100) rfl rfl rfl rfl rfl (Nat.le_of_ble_eq_true rfl) (by decide) dX9_step_132 rfl ?_
            cases hf
            exact G.iret C Rt dX9_step_135
          · replace hf := gIfn hf hs2
            by_cases hs3 : x2 = 2
            · replace hf := gIf hf hs3
              refine G.tableIn (tgt := 136) (off := 49) C dX9_step_87 (by rw [hs3]; decide) (by rw [hs3]; decide) (by rw [hs3]; rfl) (by decide) ?_
              refine G.aload_n (pl := 0) C dX9_step_136 rfl rfl ?_
              refine gf9_10 C o_0 k2_54 dX9_step_137 ?_
              refine G.aload_n (pl := 0) C dX9_step_140 rfl rfl ?_
              refine gf9_11 C o_0 k2_55 dX9_step_141 ?_
              obtain ⟨v6, hr9, hf⟩ := cp_some hf
              refine G.callV (st1 := [.int v6]) C [.ref (ad 104)] [] (c_X7_formsBeyond o_100 o_104 hr9) mv_X7_formsBeyond k3_43 o_100.1 (fun _ => gShp_17 o_100) rfl rfl rfl rfl rfl (Nat.le_of_ble_eq_true rfl) (by decide) dX9_step_144 rfl ?_
              cases hf
              exact G.iret C Rt dX9_step_147
            · replace hf := gIfn hf hs3
              refine G.tableOut (tgt := 148) C dX9_step_87 (gSw (n := 3) (fun k hk => by match k, hk with | 0, _ => exact hs1 | 1, _ => exact hs2 | 2, _ => exact hs3 | k + 3, hk => exact absurd hk (by omega)) (by decide)) (by decide) ?_
              refine G.aload_n (pl := 0) C dX9_step_148 rfl rfl ?_
              refine gf9_11 C o_0 k2_55 dX9_step_149 ?_
              refine G.aload_n (pl := 0) C dX9_step_152 rfl rfl ?_
              refine gf9_10 C o_0 k2_54 dX9_step_153 ?_
              obtain ⟨v7, hr10, hf⟩ := cp_some hf
              refine G.callV (st1 := [.int v7]) C [.ref (ad 100)] [] (c_X7_formsBeyond o_104 o_100 hr10) mv_X7_formsBeyond k3_43 o_104.1 (fun _ => gShp_17 o_104) rfl rfl rfl rfl rfl (Nat.le_of_ble_eq_true rfl) (by decide) dX9_step_156 rfl ?_
              cases hf
              exact G.iret C Rt dX9_step_159
      · replace hf := gIf hf hc3
        refine G.sub (lv' := [(0, .ref (ad 0))]) [0] rfl ?_
        exact w_X9_step_38 C Rt M1 hf
  · replace hf := gIf hf hc1
    refine G.aload_n (pl := 0) C dX9_step_7 rfl rfl ?_
    refine G.bipush (v := (-3)) C dX9_step_8 (by decide) ?_
    obtain ⟨v8, M5, hr11, hf⟩ := cl_some hf
    refine G.callV (st1 := [.int v8]) C [.int (-3 : Int32)] [] (c_X9_refuse hr11) mv_X9_refuse k2_88 o_0.1 (fun _ => gShp_19 o_0) rfl rfl rfl rfl rfl (Nat.le_of_ble_eq_true rfl) (by decide) dX9_step_10 rfl ?_
    cases hf
    exact G.iret C Rt dX9_step_13
theorem mv_X9_step : gMV yX9_step cX9_step 3 (some .int) 2 := ⟨k3_35, k3_36, k1_1, k3_37, ⟨by decide +kernel, by decide +kernel, by decide +kernel⟩, by decide⟩
theorem c_X9_step {res : (Int32 × Mem)} {x1 : Int32} {x2 : Int32} {M : Mem} (hf : f_X9_step x1 x2 M = some res) : Ct yX9_step cX9_step 3 (some .int) 8 (fun ad => [.ref (ad 0), .int x1, .int x2]) M (some (.int res.1)) res.2 :=
  Ct.of (by decide +kernel) (fun _ => Nat.le_of_ble_eq_true rfl) (fun X ad C Rt => w_X9_step_E C Rt x1 x2 M hf)
set_option maxRecDepth 100000 in
set_option maxHeartbeats 4000000 in
theorem w_X9_unlike_30 {X : Gc} {ad : Nat → Nat} {res : (Int32 × Mem)} (C : Gk X ad cX9_unlike "NineTongues" 3 8) (Rt : Gr X ad (some .int) (some (.int res.1)) res.2) (M : Mem) (hf : f_X9_unlike_30 M = some res) : G X ad 30 3 [(0, .ref (ad 0))] [] M := by
  unfold f_X9_unlike_30 at hf
  refine G.aload_n (pl := 0) C dX9_unlike_30 rfl rfl ?_
  refine G.bipush (v := (-2)) C dX9_unlike_31 (by decide) ?_
  obtain ⟨v1, M1, hr1, hf⟩ := cl_some hf
  refine G.callV (st1 := [.int v1]) C [.int (-2 : Int32)] [] (c_X9_refuse hr1) mv_X9_refuse k2_88 o_0.1 (fun _ => gShp_19 o_0) rfl rfl rfl rfl rfl (Nat.le_of_ble_eq_true rfl) (by decide) dX9_unlike_33 rfl ?_
  cases hf
  exact G.iret C Rt dX9_unlike_36
set_option maxRecDepth 100000 in
set_option maxHeartbeats 4000000 in
theorem w_X9_unlike_E {X : Gc} {ad : Nat → Nat} {res : (Int32 × Mem)} (C : Gk X ad cX9_unlike "NineTongues" 3 8) (Rt : Gr X ad (some .int) (some (.int res.1)) res.2) (x1 : Int32) (x2 : Int32) (M : Mem) (hf : f_X9_unlike x1 x2 M = some res) : G X ad 0 3 [(0, .ref (ad 0)), (1, .int x1), (2, .int x2)] [] M := by
  unfold f_X9_unlike at hf
  refine G.aload_n (pl := 0) C dX9_unlike_0 rfl rfl ?_
  obtain ⟨v1, M1, hr1, hf⟩ := cl_some hf
  refine G.callV (st1 := [.int v1]) C [] [] (c_X9_goesPath hr1) mv_X9_goesPath k2_233 o_0.1 (fun _ => gShp_19 o_0) rfl rfl rfl rfl rfl (Nat.le_of_ble_eq_true rfl) (by decide) dX9_unlike_1 rfl ?_
  refine G.if_ne (tgt := 14) C dX9_unlike_4 (by decide) (fun hc1 => ?_) (fun hc1 => ?_)
  · replace hf := gIfn hf hc1
    refine G.aload_n (pl := 0) C dX9_unlike_14 rfl rfl ?_
    refine G.iload_n (pl := 1) C dX9_unlike_15 rfl rfl ?_
    obtain ⟨v2, hr2, hf⟩ := cp_some hf
    refine G.callV (st1 := [.int v2]) C [.int x1] [] (c_X9_isState hr2) mv_X9_isState k2_237 o_0.1 (fun _ => gShp_19 o_0) rfl rfl rfl rfl rfl (Nat.le_of_ble_eq_true rfl) (by decide) dX9_unlike_16 rfl ?_
    refine G.if_eq (tgt := 30) C dX9_unlike_19 (by decide) (fun hc2 => ?_) (fun hc2 => ?_)
    · replace hf := gIf hf hc2
      refine G.sub (lv' := [(0, .ref (ad 0))]) [0] rfl ?_
      exact w_X9_unlike_30 C Rt M1 hf
    · replace hf := gIfn hf hc2
      refine G.aload_n (pl := 0) C dX9_unlike_22 rfl rfl ?_
      refine G.iload_n (pl := 2) C dX9_unlike_23 rfl rfl ?_
      obtain ⟨v3, hr3, hf⟩ := cp_some hf
      refine G.callV (st1 := [.int v3]) C [.int x2] [] (c_X9_isState hr3) mv_X9_isState k2_237 o_0.1 (fun _ => gShp_19 o_0) rfl rfl rfl rfl rfl (Nat.le_of_ble_eq_true rfl) (by decide) dX9_unlike_24 rfl ?_
      refine G.if_ne (tgt := 37) C dX9_unlike_27 (by decide) (fun hc3 => ?_) (fun hc3 => ?_)
      · replace hf := gIfn hf hc3
        refine G.aload_n (pl := 0) C dX9_unlike_37 rfl rfl ?_
        refine G.aload_n (pl := 0) C dX9_unlike_38 rfl rfl ?_
        refine gf9_10 C o_0 k2_54 dX9_unlike_39 ?_
        refine G.iload_n (pl := 1) C dX9_unlike_42 rfl rfl ?_
        obtain ⟨u, M2, hr4, hf⟩ := cl_some hf
        refine G.callV (st1 := []) C [.ref (ad 100), .int x1] [] (c_X9_goTo o_100 hr4) mv_X9_goTo k3_1 o_0.1 (fun _ => gShp_19 o_0) rfl rfl rfl rfl rfl (Nat.le_of_ble_eq_true rfl) (by decide) dX9_unlike_43 rfl ?_
        refine G.aload_n (pl := 0) C dX9_unlike_46 rfl rfl ?_
        refine G.aload_n (pl := 0) C dX9_unlike_47 rfl rfl ?_
        refine gf9_11 C o_0 k2_55 dX9_unlike_48 ?_
        refine G.iload_n (pl := 2) C dX9_unlike_51 rfl rfl ?_
        obtain ⟨u, M3, hr5, hf⟩ := cl_some hf
        refine G.callV (st1 := []) C [.ref (ad 104), .int x2] [] (c_X9_goTo o_104 hr5) mv_X9_goTo k3_1 o_0.1 (fun _ => gShp_19 o_0) rfl rfl rfl rfl rfl (Nat.le_of_ble_eq_true rfl) (by decide) dX9_unlike_52 rfl ?_
        refine G.aload_n (pl := 0) C dX9_unlike_55 rfl rfl ?_
        refine gf9_10 C o_0 k2_54 dX9_unlike_56 ?_
        refine G.aload_n (pl := 0) C dX9_unlike_59 rfl rfl ?_
        refine gf9_11 C o_0 k2_55 dX9_unlike_60 ?_
        obtain ⟨v4, hr6, hf⟩ := cp_some hf
        refine G.callV (st1 := [.int v4]) C [.ref (ad 104)] [] (c_X7_unlikeness o_100 o_104 hr6) mv_X7_unlikeness k3_51 o_100.1 (fun _ => gShp_17 o_100) rfl rfl rfl rfl rfl (Nat.le_of_ble_eq_true rfl) (by decide) dX9_unlike_63 rfl ?_
        cases hf
        exact G.iret C Rt dX9_unlike_66
      · replace hf := gIf hf hc3
        refine G.sub (lv' := [(0, .ref (ad 0))]) [0] rfl ?_
        exact w_X9_unlike_30 C Rt M1 hf
  · replace hf := gIf hf hc1
    refine G.aload_n (pl := 0) C dX9_unlike_7 rfl rfl ?_
    refine G.bipush (v := (-3)) C dX9_unlike_8 (by decide) ?_
    obtain ⟨v5, M4, hr7, hf⟩ := cl_some hf
    refine G.callV (st1 := [.int v5]) C [.int (-3 : Int32)] [] (c_X9_refuse hr7) mv_X9_refuse k2_88 o_0.1 (fun _ => gShp_19 o_0) rfl rfl rfl rfl rfl (Nat.le_of_ble_eq_true rfl) (by decide) dX9_unlike_10 rfl ?_
    cases hf
    exact G.iret C Rt dX9_unlike_13
theorem mv_X9_unlike : gMV yX9_unlike cX9_unlike 3 (some .int) 2 := ⟨k3_48, k3_49, k1_1, k3_50, ⟨by decide +kernel, by decide +kernel, by decide +kernel⟩, by decide⟩
theorem c_X9_unlike {res : (Int32 × Mem)} {x1 : Int32} {x2 : Int32} {M : Mem} (hf : f_X9_unlike x1 x2 M = some res) : Ct yX9_unlike cX9_unlike 3 (some .int) 8 (fun ad => [.ref (ad 0), .int x1, .int x2]) M (some (.int res.1)) res.2 :=
  Ct.of (by decide +kernel) (fun _ => Nat.le_of_ble_eq_true rfl) (fun X ad C Rt => w_X9_unlike_E C Rt x1 x2 M hf)
set_option maxRecDepth 100000 in
set_option maxHeartbeats 4000000 in
theorem w_X9_gone_32 {X : Gc} {ad : Nat → Nat} {res : (Int32 × Mem)} (C : Gk X ad cX9_gone "NineTongues" 5 8) (Rt : Gr X ad (some .int) (some (.int res.1)) res.2) (M : Mem) (hf : f_X9_gone_32 M = some res) : G X ad 32 5 [(0, .ref (ad 0))] [] M := by
  unfold f_X9_gone_32 at hf
  refine G.aload_n (pl := 0) C dX9_gone_32 rfl rfl ?_
  refine G.bipush (v := (-2)) C dX9_gone_33 (by decide) ?_
  obtain ⟨v1, M1, hr1, hf⟩ := cl_some hf
  refine G.callV (st1 := [.int v1]) C [.int (-2 : Int32)] [] (c_X9_refuse hr1) mv_X9_refuse k2_88 o_0.1 (fun _ => gShp_19 o_0) rfl rfl rfl rfl rfl (Nat.le_of_ble_eq_true rfl) (by decide) dX9_gone_35 rfl ?_
  cases hf
  exact G.iret C Rt dX9_gone_38
set_option maxRecDepth 100000 in
set_option maxHeartbeats 4000000 in
theorem w_X9_gone_116 {X : Gc} {ad : Nat → Nat} {res : (Int32 × Mem)} {r_58 : Int32 → Int32 → Mem → Option (Int32 × Mem)} (C : Gk X ad cX9_gone "NineTongues" 5 8) (Rt : Gr X ad (some .int) (some (.int res.1)) res.2) (x1 : Int32) (x2 : Int32) (x3 : Int32) (x4 : Int32) (M : Mem) (h_58 : ∀ (x3 : Int32) (x4 : Int32) (M : Mem), r_58 x3 x4 M = some res → G X ad 58 5 [(0, .ref (ad 0)), (1, .int x1), (2, .int x2), (3, .int x3), (4, .int x4)] [] M) (hf : f_X9_gone_116 r_58 x1 x2 x3 x4 M = some res) : G X ad 116 5 [(0, .ref (ad 0)), (1, .int x1), (2, .int x2), (3, .int x3), (4, .int x4)] [] M := by
  unfold f_X9_gone_116 at hf
  refine G.iinc (pl := 4) (v := (x4 + 1)) (lv' := [(4, .int (x4 + 1)), (0, .ref (ad 0)), (1, .int x1), (2, .int x2), (3, .int x3)]) C dX9_gone_116 rfl rfl (by decide) rfl ?_
  refine G.goto (tgt := 58) C dX9_gone_119 (by decide) ?_
  refine G.sub (lv' := [(0, .ref (ad 0)), (1, .int x1), (2, .int x2), (3, .int x3), (4, .int (x4 + 1))]) [1, 2, 3, 4, 0] rfl ?_
  exact h_58 x3 (x4 + 1) M hf
set_option maxRecDepth 100000 in
set_option maxHeartbeats 4000000 in
theorem w_X9_gone_95 {X : Gc} {ad : Nat → Nat} {res : (Int32 × Mem)} {r_58 : Int32 → Int32 → Mem → Option (Int32 × Mem)} (C : Gk X ad cX9_gone "NineTongues" 5 8) (Rt : Gr X ad (some .int) (some (.int res.1)) res.2) (x1 : Int32) (x2 : Int32) (x3 : Int32) (x4 : Int32) (M : Mem) (h_58 : ∀ (x3 : Int32) (x4 : Int32) (M : Mem), r_58 x3 x4 M = some res → G X ad 58 5 [(0, .ref (ad 0)), (1, .int x1), (2, .int x2), (3, .int x3), (4, .int x4)] [] M) (hf : f_X9_gone_95 r_58 x1 x2 x3 x4 M = some res) : G X ad 95 5 [(0, .ref (ad 0)), (1, .int x1), (2, .int x2), (3, .int x3), (4, .int x4)] [] M := by
  unfold f_X9_gone_95 at hf
  refine G.aload_n (pl := 0) C dX9_gone_95 rfl rfl ?_
  refine gf9_10 C o_0 k2_54 dX9_gone_96 ?_
  refine gf7_1 C o_100 k1_96 dX9_gone_99 ?_
  refine G.iload_n (pl := 1) C dX9_gone_102 rfl rfl ?_
  obtain ⟨v1, ev1, hi1, hf⟩ := rd_some hf
  refine G.iald C a_101 hi1 ev1 dX9_gone_103 ?_
  refine G.iload_n (pl := 2) C dX9_gone_104 rfl rfl ?_
  refine G.ishr C dX9_gone_105 ?_
  refine G.iconst (v := 1) C dX9_gone_106 (by decide) ?_
  refine G.iand C dX9_gone_107 ?_
  refine G.if_eq (tgt := 116) C dX9_gone_108 (by decide) (fun hc1 => ?_) (fun hc1 => ?_)
  · replace hf := gIf hf hc1
    exact w_X9_gone_116 C Rt x1 x2 x3 x4 M h_58 hf
  · replace hf := gIfn hf hc1
    refine G.iload (pl := 4) C dX9_gone_111 rfl ?_
    refine G.iconst (v := 1) C dX9_gone_113 (by decide) ?_
    refine G.iadd C dX9_gone_114 ?_
    refine G.istore_n (lv' := [(3, .int (x4 + (1 : Int32))), (0, .ref (ad 0)), (1, .int x1), (2, .int x2), (4, .int x4)]) C dX9_gone_115 rfl (by decide) rfl ?_
    refine G.sub (lv' := [(0, .ref (ad 0)), (1, .int x1), (2, .int x2), (3, .int (x4 + (1 : Int32))), (4, .int x4)]) [1, 2, 3, 0, 4] rfl ?_
    exact w_X9_gone_116 C Rt x1 x2 (x4 + (1 : Int32)) x4 M h_58 hf
set_option maxRecDepth 100000 in
set_option maxHeartbeats 4000000 in
theorem w_X9_gone_58_b {X : Gc} {ad : Nat → Nat} {res : (Int32 × Mem)} {r_58 : Int32 → Int32 → Mem → Option (Int32 × Mem)} (C : Gk X ad cX9_gone "NineTongues" 5 8) (Rt : Gr X ad (some .int) (some (.int res.1)) res.2) (x1 : Int32) (x2 : Int32) (h_58 : ∀ (x3 : Int32) (x4 : Int32) (M : Mem), r_58 x3 x4 M = some res → G X ad 58 5 [(0, .ref (ad 0)), (1, .int x1), (2, .int x2), (3, .int x3), (4, .int x4)] [] M) (x3 : Int32) (x4 : Int32) (M : Mem) (hf : f_X9_gone_58_b r_58 x1 x2 x3 x4 M = some res) : G X ad 58 5 [(0, .ref (ad 0)), (1, .int x1), (2, .int x2), (3, .int x3), (4, .int x4)] [] M := by
  unfold f_X9_gone_58_b at hf
  refine G.iload (pl := 4) C dX9_gone_58 rfl ?_
  refine G.aload_n (pl := 0) C dX9_gone_60 rfl rfl ?_
  refine gf9_6 C o_0 k2_50 dX9_gone_61 ?_
  refine gf5_1 C o_68 k1_205 dX9_gone_64 ?_
  refine G.icmp_gt (tgt := 122) C dX9_gone_67 (by decide) (fun hc1 => ?_) (fun hc1 => ?_)
  · replace hf := gIf hf hc1
    refine G.iload_n (pl := 3) C dX9_gone_122 rfl rfl ?_
    refine G.aload_n (pl := 0) C dX9_gone_123 rfl rfl ?_
    refine gf9_6 C o_0 k2_50 dX9_gone_124 ?_
    refine gf5_1 C o_68 k1_205 dX9_gone_127 ?_
    refine G.icmp_le (tgt := 137) C dX9_gone_130 (by decide) (fun hc2 => ?_) (fun hc2 => ?_)
    · replace hf := gIf hf hc2
      refine G.iload_n (pl := 3) C dX9_gone_137 rfl rfl ?_
      cases hf
      exact G.iret C Rt dX9_gone_138
    · replace hf := gIfn hf hc2
      refine G.iconst (v := (-1)) C dX9_gone_133 (by decide) ?_
      refine G.goto (tgt := 138) C dX9_gone_134 (by decide) ?_
      cases hf
      exact G.iret C Rt dX9_gone_138
  · replace hf := gIfn hf hc1
    refine G.iload (pl := 4) C dX9_gone_70 rfl ?_
    refine G.if_le (tgt := 95) C dX9_gone_72 (by decide) (fun hc3 => ?_) (fun hc3 => ?_)
    · replace hf := gIf hf hc3
      exact w_X9_gone_95 C Rt x1 x2 x3 x4 M h_58 hf
    · replace hf := gIfn hf hc3
      refine G.aload_n (pl := 0) C dX9_gone_75 rfl rfl ?_
      refine gf9_6 C o_0 k2_50 dX9_gone_76 ?_
      refine G.aload_n (pl := 0) C dX9_gone_79 rfl rfl ?_
      refine gf9_10 C o_0 k2_54 dX9_gone_80 ?_
      refine G.iload (pl := 4) C dX9_gone_83 rfl ?_
      refine G.aload_n (pl := 0) C dX9_gone_85 rfl rfl ?_
      refine gf9_0 C o_0 k2_44 dX9_gone_86 ?_
      refine gf8_0 C o_5 k1_174 dX9_gone_89 ?_
      obtain ⟨u, M1, hr1, hf⟩ := cl_some hf
      refine G.callV (st1 := []) C [.ref (ad 100), .int x4, .ref (ad 6)] [] (c_X5_goStep o_100 hr1) mv_X5_goStep k3_12 o_68.1 (fun _ => gShp_15 o_68) rfl rfl rfl rfl rfl (Nat.le_of_ble_eq_true rfl) (by decide) dX9_gone_92 rfl ?_
      exact w_X9_gone_95 C Rt x1 x2 x3 x4 M1 h_58 hf
theorem w_X9_gone_58 {X : Gc} {ad : Nat → Nat} {res : (Int32 × Mem)} (C : Gk X ad cX9_gone "NineTongues" 5 8) (Rt : Gr X ad (some .int) (some (.int res.1)) res.2) (x1 : Int32) (x2 : Int32) : ∀ (n : Nat) (x3 : Int32) (x4 : Int32) (M : Mem), f_X9_gone_58 x1 x2 n x3 x4 M = some res → G X ad 58 5 [(0, .ref (ad 0)), (1, .int x1), (2, .int x2), (3, .int x3), (4, .int x4)] [] M := by
  intro n
  induction n with
  | zero => intro x3 x4 M hf; exact absurd (show (none : Option (Int32 × Mem)) = some res from hf) (fun h => nomatch h)
  | succ n ih => intro x3 x4 M hf; exact w_X9_gone_58_b C Rt x1 x2 ih x3 x4 M hf
set_option maxRecDepth 100000 in
set_option maxHeartbeats 4000000 in
theorem w_X9_gone_E {X : Gc} {ad : Nat → Nat} {res : (Int32 × Mem)} (C : Gk X ad cX9_gone "NineTongues" 5 8) (Rt : Gr X ad (some .int) (some (.int res.1)) res.2) (x1 : Int32) (x2 : Int32) (M : Mem) (hf : f_X9_gone x1 x2 M = some res) : G X ad 0 5 [(0, .ref (ad 0)), (1, .int x1), (2, .int x2)] [] M := by
  unfold f_X9_gone at hf
  refine G.aload_n (pl := 0) C dX9_gone_0 rfl rfl ?_
  obtain ⟨v1, M1, hr1, hf⟩ := cl_some hf
  refine G.callV (st1 := [.int v1]) C [] [] (c_X9_goesPath hr1) mv_X9_goesPath k2_233 o_0.1 (fun _ => gShp_19 o_0) rfl rfl rfl rfl rfl (Nat.le_of_ble_eq_true rfl) (by decide) dX9_gone_1 rfl ?_
  refine G.if_ne (tgt := 14) C dX9_gone_4 (by decide) (fun hc1 => ?_) (fun hc1 => ?_)
  · replace hf := gIfn hf hc1
    refine G.aload_n (pl := 0) C dX9_gone_14 rfl rfl ?_
    refine G.iload_n (pl := 1) C dX9_gone_15 rfl rfl ?_
    obtain ⟨v2, hr2, hf⟩ := cp_some hf
    refine G.callV (st1 := [.int v2]) C [.int x1] [] (c_X9_isPlace hr2) mv_X9_isPlace k2_141 o_0.1 (fun _ => gShp_19 o_0) rfl rfl rfl rfl rfl (Nat.le_of_ble_eq_true rfl) (by decide) dX9_gone_16 rfl ?_
    refine G.if_eq (tgt := 32) C dX9_gone_19 (by decide) (fun hc2 => ?_) (fun hc2 => ?_)
    · replace hf := gIf hf hc2
      refine G.sub (lv' := [(0, .ref (ad 0))]) [0] rfl ?_
      exact w_X9_gone_32 C Rt M1 hf
    · replace hf := gIfn hf hc2
      refine G.iload_n (pl := 2) C dX9_gone_22 rfl rfl ?_
      refine G.iconst (v := 0) C dX9_gone_23 (by decide) ?_
      refine G.bipush (v := 7) C dX9_gone_24 (by decide) ?_
      obtain ⟨v3, hr3, hf⟩ := cp_some hf
      refine G.callS (st1 := [.int v3]) C [.int x2, .int (0 : Int32), .int (7 : Int32)] [] (c_X9_isIn hr3) mv_X9_isIn k2_85 rfl rfl rfl (Nat.le_of_ble_eq_true rfl) (by decide) dX9_gone_26 rfl ?_
      refine G.if_ne (tgt := 39) C dX9_gone_29 (by decide) (fun hc3 => ?_) (fun hc3 => ?_)
      · replace hf := gIfn hf hc3
        refine G.iconst (v := 0) C dX9_gone_39 (by decide) ?_
        refine G.istore_n (lv' := [(3, .int (0 : Int32)), (0, .ref (ad 0)), (1, .int x1), (2, .int x2)]) C dX9_gone_40 rfl (by decide) rfl ?_
        refine G.aload_n (pl := 1) C dX9_gone_41 rfl rfl ?_
        refine gf9_10 C o_0 k2_54 dX9_gone_42 ?_
        refine G.aload_n (pl := 1) C dX9_gone_45 rfl rfl ?_
        refine gf9_0 C o_0 k2_44 dX9_gone_46 ?_
        refine gf8_1 C o_5 k1_177 dX9_gone_49 ?_
        obtain ⟨u, M2, hr4, hf⟩ := cl_some hf
        refine G.callV (st1 := []) C [.ref (ad 14)] [] (c_X7_copyFrom o_100 o_14 hr4) mv_X7_copyFrom k3_5 o_100.1 (fun _ => gShp_17 o_100) rfl rfl rfl rfl rfl (Nat.le_of_ble_eq_true rfl) (by decide) dX9_gone_52 rfl ?_
        refine G.iconst (v := 0) C dX9_gone_55 (by decide) ?_
        refine G.istore (lv' := [(4, .int (0 : Int32)), (3, .int (0 : Int32)), (0, .ref (ad 0)), (1, .int x1), (2, .int x2)]) C dX9_gone_56 (by decide) rfl ?_
        refine G.sub (lv' := [(0, .ref (ad 0)), (1, .int x1), (2, .int x2), (3, .int (0 : Int32)), (4, .int (0 : Int32))]) [2, 3, 4, 1, 0] rfl ?_
        exact w_X9_gone_58 C Rt x1 x2 FU (0 : Int32) (0 : Int32) M2 hf
      · replace hf := gIf hf hc3
        refine G.sub (lv' := [(0, .ref (ad 0))]) [0] rfl ?_
        exact w_X9_gone_32 C Rt M1 hf
  · replace hf := gIf hf hc1
    refine G.aload_n (pl := 0) C dX9_gone_7 rfl rfl ?_
    refine G.bipush (v := (-3)) C dX9_gone_8 (by decide) ?_
    obtain ⟨v4, M3, hr5, hf⟩ := cl_some hf
    refine G.callV (st1 := [.int v4]) C [.int (-3 : Int32)] [] (c_X9_refuse hr5) mv_X9_refuse k2_88 o_0.1 (fun _ => gShp_19 o_0) rfl rfl rfl rfl rfl (Nat.le_of_ble_eq_true rfl) (by decide) dX9_gone_10 rfl ?_
    cases hf
    exact G.iret C Rt dX9_gone_13
theorem mv_X9_gone : gMV yX9_gone cX9_gone 5 (some .int) 2 := ⟨k3_57, k3_58, k1_1, k3_59, ⟨by decide +kernel, by decide +kernel, by decide +kernel⟩, by decide⟩
theorem c_X9_gone {res : (Int32 × Mem)} {x1 : Int32} {x2 : Int32} {M : Mem} (hf : f_X9_gone x1 x2 M = some res) : Ct yX9_gone cX9_gone 5 (some .int) 8 (fun ad => [.ref (ad 0), .int x1, .int x2]) M (some (.int res.1)) res.2 :=
  Ct.of (by decide +kernel) (fun _ => Nat.le_of_ble_eq_true rfl) (fun X ad C Rt => w_X9_gone_E C Rt x1 x2 M hf)
set_option maxRecDepth 100000 in
set_option maxHeartbeats 4000000 in
theorem w_X9_leastUnlike_102 {X : Gc} {ad : Nat → Nat} {res : (Int32 × Mem)} {r_23 : Int32 → Int32 → Int32 → Mem → Option (Int32 × Mem)} (C : Gk X ad cX9_leastUnlike "NineTongues" 8 7) (Rt : Gr X ad (some .int) (some (.int res.1)) res.2) (x1 : Int32) (x2 : Int32) (x3 : Int32) (x4 : Int32) (x6 : Int32) (M : Mem) (h_23 : ∀ (x4 : Int32) (x5 : Int32) (x6 : Int32) (M : Mem), r_23 x4 x5 x6 M = some res → G X ad 23 8 [(0, .ref (ad 0)), (1, .int x1), (2, .int x2), (3, .int x3), (4, .int x4), (5, .int x5), (6, .int x6)] [] M) (hf : f_X9_leastUnlike_102 r_23 x1 x2 x3 x4 x6 M = some res) : G X ad 102 8 [(0, .ref (ad 0)), (1, .int x1), (2, .int x2), (3, .int x3), (4, .int x4), (6, .int x6)] [] M := by
  unfold f_X9_leastUnlike_102 at hf
  refine G.aload_n (pl := 0) C dX9_leastUnlike_102 rfl rfl ?_
  refine gf9_7 C o_0 k2_51 dX9_leastUnlike_103 ?_
  refine G.aload_n (pl := 0) C dX9_leastUnlike_106 rfl rfl ?_
  refine gf9_0 C o_0 k2_44 dX9_leastUnlike_107 ?_
  refine gf8_0 C o_5 k1_174 dX9_leastUnlike_110 ?_
  obtain ⟨v1, M1, hr1, hf⟩ := cl_some hf
  refine G.callV (st1 := [.int v1]) C [.ref (ad 6)] [] (c_X6_goOn hr1) mv_X6_goOn k3_91 o_72.1 (fun _ => gShp_16 o_72) rfl rfl rfl rfl rfl (Nat.le_of_ble_eq_true rfl) (by decide) dX9_leastUnlike_113 rfl ?_
  refine G.istore (lv' := [(5, .int v1), (0, .ref (ad 0)), (1, .int x1), (2, .int x2), (3, .int x3), (4, .int x4), (6, .int x6)]) C dX9_leastUnlike_116 (by decide) rfl ?_
  refine G.iinc (pl := 6) (v := (x6 + 1)) (lv' := [(6, .int (x6 + 1)), (5, .int v1), (0, .ref (ad 0)), (1, .int x1), (2, .int x2), (3, .int x3), (4, .int x4)]) C dX9_leastUnlike_118 rfl rfl (by decide) rfl ?_
  refine G.goto (tgt := 23) C dX9_leastUnlike_121 (by decide) ?_
  refine G.sub (lv' := [(0, .ref (ad 0)), (1, .int x1), (2, .int x2), (3, .int x3), (4, .int x4), (5, .int v1), (6, .int (x6 + 1))]) [2, 3, 4, 5, 6, 1, 0] rfl ?_
  exact h_23 x4 v1 (x6 + 1) M1 hf
set_option maxRecDepth 100000 in
set_option maxHeartbeats 4000000 in
theorem w_X9_leastUnlike_23_b {X : Gc} {ad : Nat → Nat} {res : (Int32 × Mem)} {r_23 : Int32 → Int32 → Int32 → Mem → Option (Int32 × Mem)} (C : Gk X ad cX9_leastUnlike "NineTongues" 8 7) (Rt : Gr X ad (some .int) (some (.int res.1)) res.2) (x1 : Int32) (x2 : Int32) (x3 : Int32) (h_23 : ∀ (x4 : Int32) (x5 : Int32) (x6 : Int32) (M : Mem), r_23 x4 x5 x6 M = some res → G X ad 23 8 [(0, .ref (ad 0)), (1, .int x1), (2, .int x2), (3, .int x3), (4, .int x4), (5, .int x5), (6, .int x6)] [] M) (x4 : Int32) (x5 : Int32) (x6 : Int32) (M : Mem) (hf : f_X9_leastUnlike_23_b r_23 x1 x2 x3 x4 x5 x6 M = some res) : G X ad 23 8 [(0, .ref (ad 0)), (1, .int x1), (2, .int x2), (3, .int x3), (4, .int x4), (5, .int x5), (6, .int x6)] [] M := by
  unfold f_X9_leastUnlike_23_b at hf
  refine G.iload (pl := 5) C dX9_leastUnlike_23 rfl ?_
  refine G.if_eq (tgt := 124) C dX9_leastUnlike_25 (by decide) (fun hc1 => ?_) (fun hc1 => ?_)
  · replace hf := gIf hf hc1
    refine G.iload (pl := 4) C dX9_leastUnlike_124 rfl ?_
    cases hf
    exact G.iret C Rt dX9_leastUnlike_126
  · replace hf := gIfn hf hc1
    refine G.iload (pl := 6) C dX9_leastUnlike_28 rfl ?_
    refine G.sipush (v := 10000) C dX9_leastUnlike_30 (by decide) ?_
    refine G.icmp_ge (tgt := 124) C dX9_leastUnlike_33 (by decide) (fun hc2 => ?_) (fun hc2 => ?_)
    · replace hf := gIf hf hc2
      refine G.iload (pl := 4) C dX9_leastUnlike_124 rfl ?_
      cases hf
      exact G.iret C Rt dX9_leastUnlike_126
    · replace hf := gIfn hf hc2
      refine G.aload_n (pl := 0) C dX9_leastUnlike_36 rfl rfl ?_
      refine gf9_10 C o_0 k2_54 dX9_leastUnlike_37 ?_
      refine G.aload_n (pl := 0) C dX9_leastUnlike_40 rfl rfl ?_
      refine gf9_7 C o_0 k2_51 dX9_leastUnlike_41 ?_
      refine gf6_2 C o_72 k2_1 dX9_leastUnlike_44 ?_
      refine G.iload_n (pl := 3) C dX9_leastUnlike_47 rfl rfl ?_
      obtain ⟨hi1, hf⟩ := ck_some hf
      refine G.aldS C hi1 dX9_leastUnlike_48 ?_
      obtain ⟨u, M1, hr1, hf⟩ := cl_some hf
      refine G.callV (st1 := []) C [.ref (ad (76 + 4 * x3.toNatClampNeg))] [] (c_X7_copyFrom o_100 (gxS hi1) hr1) mv_X7_copyFrom k3_5 o_100.1 (fun _ => gShp_17 o_100) rfl rfl rfl rfl rfl (Nat.le_of_ble_eq_true rfl) (by decide) dX9_leastUnlike_49 rfl ?_
      refine G.aload_n (pl := 0) C dX9_leastUnlike_52 rfl rfl ?_
      refine gf9_0 C o_0 k2_44 dX9_leastUnlike_53 ?_
      refine gf8_0 C o_5 k1_174 dX9_leastUnlike_56 ?_
      refine G.aload_n (pl := 0) C dX9_leastUnlike_59 rfl rfl ?_
      refine gf9_10 C o_0 k2_54 dX9_leastUnlike_60 ?_
      refine G.iload_n (pl := 1) C dX9_leastUnlike_63 rfl rfl ?_
      refine G.iload_n (pl := 2) C dX9_leastUnlike_64 rfl rfl ?_
      obtain ⟨u, M2, hr2, hf⟩ := cl_some hf
      refine G.callV (st1 := []) C [.ref (ad 100), .int x1, .int x2] [] (c_X1_carry o_100 hr2) mv_X1_carry k3_85 o_6.1 (fun _ => gShp_11 o_6) rfl rfl rfl rfl rfl (Nat.le_of_ble_eq_true rfl) (by decide) dX9_leastUnlike_65 rfl ?_
      refine G.aload_n (pl := 0) C dX9_leastUnlike_68 rfl rfl ?_
      refine gf9_10 C o_0 k2_54 dX9_leastUnlike_69 ?_
      refine G.aload_n (pl := 0) C dX9_leastUnlike_72 rfl rfl ?_
      refine gf9_0 C o_0 k2_44 dX9_leastUnlike_73 ?_
      refine gf8_1 C o_5 k1_177 dX9_leastUnlike_76 ?_
      obtain ⟨v1, hr3, hf⟩ := cp_some hf
      refine G.callV (st1 := [.int v1]) C [.ref (ad 14)] [] (c_X7_unlikeness o_100 o_14 hr3) mv_X7_unlikeness k3_51 o_100.1 (fun _ => gShp_17 o_100) rfl rfl rfl rfl rfl (Nat.le_of_ble_eq_true rfl) (by decide) dX9_leastUnlike_79 rfl ?_
      refine G.istore (lv' := [(7, .int v1), (0, .ref (ad 0)), (1, .int x1), (2, .int x2), (3, .int x3), (4, .int x4), (5, .int x5), (6, .int x6)]) C dX9_leastUnlike_82 (by decide) rfl ?_
      refine G.iload (pl := 0) C dX9_leastUnlike_84 rfl ?_
      refine G.iload (pl := 5) C dX9_leastUnlike_86 rfl ?_
      refine G.icmp_ge (tgt := 102) C dX9_leastUnlike_88 (by decide) (fun hc3 => ?_) (fun hc3 => ?_)
      · replace hf := gIf hf hc3
        refine G.sub (lv' := [(0, .ref (ad 0)), (1, .int x1), (2, .int x2), (3, .int x3), (4, .int x4), (6, .int x6)]) [1, 2, 3, 4, 5, 7] rfl ?_
        exact w_X9_leastUnlike_102 C Rt x1 x2 x3 x4 x6 M2 h_23 hf
      · replace hf := gIfn hf hc3
        refine G.iload (pl := 0) C dX9_leastUnlike_91 rfl ?_
        refine G.istore (lv' := [(4, .int v1), (7, .int v1), (0, .ref (ad 0)), (1, .int x1), (2, .int x2), (3, .int x3), (5, .int x5), (6, .int x6)]) C dX9_leastUnlike_93 (by decide) rfl ?_
        refine G.aload_n (pl := 2) C dX9_leastUnlike_95 rfl rfl ?_
        refine gf9_7 C o_0 k2_51 dX9_leastUnlike_96 ?_
        obtain ⟨u, M3, hr4, hf⟩ := cl_some hf
        refine G.callV (st1 := []) C [] [] (c_X6_keepFirst hr4) mv_X6_keepFirst k3_86 o_72.1 (fun _ => gShp_16 o_72) rfl rfl rfl rfl rfl (Nat.le_of_ble_eq_true rfl) (by decide) dX9_leastUnlike_99 rfl ?_
        refine G.sub (lv' := [(0, .ref (ad 0)), (1, .int x1), (2, .int x2), (3, .int x3), (4, .int v1), (6, .int x6)]) [2, 3, 4, 5, 0, 7] rfl ?_
        exact w_X9_leastUnlike_102 C Rt x1 x2 x3 v1 x6 M3 h_23 hf
theorem w_X9_leastUnlike_23 {X : Gc} {ad : Nat → Nat} {res : (Int32 × Mem)} (C : Gk X ad cX9_leastUnlike "NineTongues" 8 7) (Rt : Gr X ad (some .int) (some (.int res.1)) res.2) (x1 : Int32) (x2 : Int32) (x3 : Int32) : ∀ (n : Nat) (x4 : Int32) (x5 : Int32) (x6 : Int32) (M : Mem), f_X9_leastUnlike_23 x1 x2 x3 n x4 x5 x6 M = some res → G X ad 23 8 [(0, .ref (ad 0)), (1, .int x1), (2, .int x2), (3, .int x3), (4, .int x4), (5, .int x5), (6, .int x6)] [] M := by
  intro n
  induction n with
  | zero => intro x4 x5 x6 M hf; exact absurd (show (none : Option (Int32 × Mem)) = some res from hf) (fun h => nomatch h)
  | succ n ih => intro x4 x5 x6 M hf; exact w_X9_leastUnlike_23_b C Rt x1 x2 x3 ih x4 x5 x6 M hf
set_option maxRecDepth 100000 in
set_option maxHeartbeats 4000000 in
theorem w_X9_leastUnlike_E {X : Gc} {ad : Nat → Nat} {res : (Int32 × Mem)} (C : Gk X ad cX9_leastUnlike "NineTongues" 8 7) (Rt : Gr X ad (some .int) (some (.int res.1)) res.2) (x1 : Int32) (x2 : Int32) (x3 : Int32) (M : Mem) (hf : f_X9_leastUnlike x1 x2 x3 M = some res) : G X ad 0 8 [(0, .ref (ad 0)), (1, .int x1), (2, .int x2), (3, .int x3)] [] M := by
  unfold f_X9_leastUnlike at hf
  refine G.sipush (v := 1000) C dX9_leastUnlike_0 (by decide) ?_
  refine G.istore (lv' := [(4, .int (1000 : Int32)), (0, .ref (ad 0)), (1, .int x1), (2, .int x2), (3, .int x3)]) C dX9_leastUnlike_3 (by decide) rfl ?_
  refine G.aload_n (pl := 1) C dX9_leastUnlike_5 rfl rfl ?_
  refine gf9_7 C o_0 k2_51 dX9_leastUnlike_6 ?_
  refine G.aload_n (pl := 1) C dX9_leastUnlike_9 rfl rfl ?_
  refine gf9_0 C o_0 k2_44 dX9_leastUnlike_10 ?_
  refine G.iload_n (pl := 2) C dX9_leastUnlike_13 rfl rfl ?_
  refine G.iload_n (pl := 4) C dX9_leastUnlike_14 rfl rfl ?_
  obtain ⟨v1, M1, hr1, hf⟩ := cl_some hf
  refine G.callV (st1 := [.int v1]) C [.ref (ad 5), .int x1, .int x3] [] (c_X6_begin hr1) mv_X6_begin k3_69 o_72.1 (fun _ => gShp_16 o_72) rfl rfl rfl rfl rfl (Nat.le_of_ble_eq_true rfl) (by decide) dX9_leastUnlike_15 rfl ?_
  refine G.istore (lv' := [(5, .int v1), (4, .int (1000 : Int32)), (0, .ref (ad 0)), (1, .int x1), (2, .int x2), (3, .int x3)]) C dX9_leastUnlike_18 (by decide) rfl ?_
  refine G.iconst (v := 0) C dX9_leastUnlike_20 (by decide) ?_
  refine G.istore (lv' := [(6, .int (0 : Int32)), (5, .int v1), (4, .int (1000 : Int32)), (0, .ref (ad 0)), (1, .int x1), (2, .int x2), (3, .int x3)]) C dX9_leastUnlike_21 (by decide) rfl ?_
  refine G.sub (lv' := [(0, .ref (ad 0)), (1, .int x1), (2, .int x2), (3, .int x3), (4, .int (1000 : Int32)), (5, .int v1), (6, .int (0 : Int32))]) [3, 4, 5, 6, 2, 1, 0] rfl ?_
  exact w_X9_leastUnlike_23 C Rt x1 x2 x3 FU (1000 : Int32) v1 (0 : Int32) M1 hf
theorem mv_X9_leastUnlike : gMV yX9_leastUnlike cX9_leastUnlike 8 (some .int) 3 := ⟨k3_67, kS_14, k1_1, k3_68, ⟨by decide +kernel, by decide +kernel, by decide +kernel⟩, by decide⟩
theorem c_X9_leastUnlike {res : (Int32 × Mem)} {x1 : Int32} {x2 : Int32} {x3 : Int32} {M : Mem} (hf : f_X9_leastUnlike x1 x2 x3 M = some res) : Ct yX9_leastUnlike cX9_leastUnlike 8 (some .int) 7 (fun ad => [.ref (ad 0), .int x1, .int x2, .int x3]) M (some (.int res.1)) res.2 :=
  Ct.of (by decide +kernel) (fun _ => Nat.le_of_ble_eq_true rfl) (fun X ad C Rt => w_X9_leastUnlike_E C Rt x1 x2 x3 M hf)
set_option maxRecDepth 100000 in
set_option maxHeartbeats 4000000 in
theorem w_X9_best_42 {X : Gc} {ad : Nat → Nat} {res : (Int32 × Mem)} (C : Gk X ad cX9_best "NineTongues" 6 8) (Rt : Gr X ad (some .int) (some (.int res.1)) res.2) (M : Mem) (hf : f_X9_best_42 M = some res) : G X ad 42 6 [(0, .ref (ad 0))] [] M := by
  unfold f_X9_best_42 at hf
  refine G.aload_n (pl := 0) C dX9_best_42 rfl rfl ?_
  refine G.bipush (v := (-2)) C dX9_best_43 (by decide) ?_
  obtain ⟨v1, M1, hr1, hf⟩ := cl_some hf
  refine G.callV (st1 := [.int v1]) C [.int (-2 : Int32)] [] (c_X9_refuse hr1) mv_X9_refuse k2_88 o_0.1 (fun _ => gShp_19 o_0) rfl rfl rfl rfl rfl (Nat.le_of_ble_eq_true rfl) (by decide) dX9_best_45 rfl ?_
  cases hf
  exact G.iret C Rt dX9_best_48
set_option maxRecDepth 100000 in
set_option maxHeartbeats 4000000 in
theorem w_X9_best_76 {X : Gc} {ad : Nat → Nat} {res : (Int32 × Mem)} (C : Gk X ad cX9_best "NineTongues" 6 8) (Rt : Gr X ad (some .int) (some (.int res.1)) res.2) (M : Mem) (hf : f_X9_best_76 M = some res) : G X ad 76 6 [(0, .ref (ad 0))] [] M := by
  unfold f_X9_best_76 at hf
  refine G.aload_n (pl := 0) C dX9_best_76 rfl rfl ?_
  refine G.bipush (v := (-3)) C dX9_best_77 (by decide) ?_
  obtain ⟨v1, M1, hr1, hf⟩ := cl_some hf
  refine G.callV (st1 := [.int v1]) C [.int (-3 : Int32)] [] (c_X9_refuse hr1) mv_X9_refuse k2_88 o_0.1 (fun _ => gShp_19 o_0) rfl rfl rfl rfl rfl (Nat.le_of_ble_eq_true rfl) (by decide) dX9_best_79 rfl ?_
  cases hf
  exact G.iret C Rt dX9_best_82
set_option maxRecDepth 100000 in
set_option maxHeartbeats 4000000 in
theorem w_X9_best_E {X : Gc} {ad : Nat → Nat} {res : (Int32 × Mem)} (C : Gk X ad cX9_best "NineTongues" 6 8) (Rt : Gr X ad (some .int) (some (.int res.1)) res.2) (x1 : Int32) (x2 : Int32) (x3 : Int32) (x4 : Int32) (M : Mem) (hf : f_X9_best x1 x2 x3 x4 M = some res) : G X ad 0 6 [(0, .ref (ad 0)), (1, .int x1), (2, .int x2), (3, .int x3), (4, .int x4)] [] M := by
  unfold f_X9_best at hf
  refine G.iload_n (pl := 1) C dX9_best_0 rfl rfl ?_
  obtain ⟨v1, hr1, hf⟩ := cp_some hf
  refine G.callS (st1 := [.int v1]) C [.int x1] [] (c_X9_isKind hr1) mv_X9_isKind k2_138 rfl rfl rfl (Nat.le_of_ble_eq_true rfl) (by decide) dX9_best_1 rfl ?_
  refine G.if_eq (tgt := 42) C dX9_best_4 (by decide) (fun hc1 => ?_) (fun hc1 => ?_)
  · replace hf := gIf hf hc1
    refine G.sub (lv' := [(0, .ref (ad 0))]) [0] rfl ?_
    exact w_X9_best_42 C Rt M hf
  · replace hf := gIfn hf hc1
    refine G.aload_n (pl := 0) C dX9_best_7 rfl rfl ?_
    refine gf9_0 C o_0 k2_44 dX9_best_8 ?_
    refine gf8_0 C o_5 k1_174 dX9_best_11 ?_
    refine G.iload_n (pl := 2) C dX9_best_14 rfl rfl ?_
    obtain ⟨v2, hr2, hf⟩ := cp_some hf
    refine G.callV (st1 := [.int v2]) C [.int x2] [] (c_X1_hasTongue hr2) mv_X1_hasTongue k2_104 o_6.1 (fun _ => gShp_11 o_6) rfl rfl rfl rfl rfl (Nat.le_of_ble_eq_true rfl) (by decide) dX9_best_15 rfl ?_
    refine G.if_eq (tgt := 42) C dX9_best_18 (by decide) (fun hc2 => ?_) (fun hc2 => ?_)
    · replace hf := gIf hf hc2
      refine G.sub (lv' := [(0, .ref (ad 0))]) [0] rfl ?_
      exact w_X9_best_42 C Rt M hf
    · replace hf := gIfn hf hc2
      refine G.iload_n (pl := 3) C dX9_best_21 rfl rfl ?_
      refine G.iconst (v := 0) C dX9_best_22 (by decide) ?_
      refine G.iconst (v := 3) C dX9_best_23 (by decide) ?_
      obtain ⟨v3, hr3, hf⟩ := cp_some hf
      refine G.callS (st1 := [.int v3]) C [.int x3, .int (0 : Int32), .int (3 : Int32)] [] (c_X9_isIn hr3) mv_X9_isIn k2_85 rfl rfl rfl (Nat.le_of_ble_eq_true rfl) (by decide) dX9_best_24 rfl ?_
      refine G.if_eq (tgt := 42) C dX9_best_27 (by decide) (fun hc3 => ?_) (fun hc3 => ?_)
      · replace hf := gIf hf hc3
        refine G.sub (lv' := [(0, .ref (ad 0))]) [0] rfl ?_
        exact w_X9_best_42 C Rt M hf
      · replace hf := gIfn hf hc3
        refine G.iload (pl := 4) C dX9_best_30 rfl ?_
        refine G.iconst (v := (-1)) C dX9_best_32 (by decide) ?_
        refine G.iload_n (pl := 3) C dX9_best_33 rfl rfl ?_
        refine G.iconst (v := 1) C dX9_best_34 (by decide) ?_
        refine G.isub C dX9_best_35 ?_
        obtain ⟨v4, hr4, hf⟩ := cp_some hf
        refine G.callS (st1 := [.int v4]) C [.int x4, .int (-1 : Int32), .int (x3 - (1 : Int32))] [] (c_X9_isIn hr4) mv_X9_isIn k2_85 rfl rfl rfl (Nat.le_of_ble_eq_true rfl) (by decide) dX9_best_36 rfl ?_
        refine G.if_ne (tgt := 49) C dX9_best_39 (by decide) (fun hc4 => ?_) (fun hc4 => ?_)
        · replace hf := gIfn hf hc4
          refine G.aload_n (pl := 0) C dX9_best_49 rfl rfl ?_
          refine gf9_0 C o_0 k2_44 dX9_best_50 ?_
          refine gf8_1 C o_5 k1_177 dX9_best_53 ?_
          refine gf7_0 C o_14 k1_91 dX9_best_56 ?_
          refine G.if_eq (tgt := 76) C dX9_best_59 (by decide) (fun hc5 => ?_) (fun hc5 => ?_)
          · replace hf := gIf hf hc5
            refine G.sub (lv' := [(0, .ref (ad 0))]) [0] rfl ?_
            exact w_X9_best_76 C Rt M hf
          · replace hf := gIfn hf hc5
            refine G.aload_n (pl := 0) C dX9_best_62 rfl rfl ?_
            refine gf9_0 C o_0 k2_44 dX9_best_63 ?_
            refine gf8_0 C o_5 k1_174 dX9_best_66 ?_
            refine G.iload_n (pl := 2) C dX9_best_69 rfl rfl ?_
            obtain ⟨v5, hr5, hf⟩ := cp_some hf
            refine G.callV (st1 := [.int v5]) C [.int x2] [] (c_X1_hasWords hr5) mv_X1_hasWords k3_64 o_6.1 (fun _ => gShp_11 o_6) rfl rfl rfl rfl rfl (Nat.le_of_ble_eq_true rfl) (by decide) dX9_best_70 rfl ?_
            refine G.if_ne (tgt := 83) C dX9_best_73 (by decide) (fun hc6 => ?_) (fun hc6 => ?_)
            · replace hf := gIfn hf hc6
              refine G.aload_n (pl := 0) C dX9_best_83 rfl rfl ?_
              refine G.iload_n (pl := 1) C dX9_best_84 rfl rfl ?_
              refine G.iload_n (pl := 2) C dX9_best_85 rfl rfl ?_
              refine G.iload_n (pl := 3) C dX9_best_86 rfl rfl ?_
              obtain ⟨v6, M1, hr6, hf⟩ := cl_some hf
              refine G.callV (st1 := [.int v6]) C [.int x1, .int x2, .int x3] [] (c_X9_leastUnlike hr6) mv_X9_leastUnlike k3_65 o_0.1 (fun _ => gShp_19 o_0) rfl rfl rfl rfl rfl (Nat.le_of_ble_eq_true rfl) (by decide) dX9_best_87 rfl ?_
              refine G.istore (lv' := [(5, .int v6), (0, .ref (ad 0)), (1, .int x1), (2, .int x2), (3, .int x3), (4, .int x4)]) C dX9_best_90 (by decide) rfl ?_
              refine G.iload (pl := 5) C dX9_best_92 rfl ?_
              refine G.iconst (v := (-1)) C dX9_best_94 (by decide) ?_
              refine G.icmp_ne (tgt := 103) C dX9_best_95 (by decide) (fun hc7 => ?_) (fun hc7 => ?_)
              · replace hf := gIfn hf hc7
                refine G.aload_n (pl := 1) C dX9_best_103 rfl rfl ?_
                refine gf9_7 C o_0 k2_51 dX9_best_104 ?_
                refine gf6_1 C o_72 k1_239 dX9_best_107 ?_
                refine G.iload (pl := 5) C dX9_best_110 rfl ?_
                obtain ⟨v7, ev1, hi1, hf⟩ := rd_some hf
                refine G.iald C a_74 hi1 ev1 dX9_best_112 ?_
                cases hf
                exact G.iret C Rt dX9_best_113
              · replace hf := gIf hf hc7
                refine G.iload (pl := 0) C dX9_best_98 rfl ?_
                refine G.goto (tgt := 113) C dX9_best_100 (by decide) ?_
                cases hf
                exact G.iret C Rt dX9_best_113
            · replace hf := gIf hf hc6
              refine G.sub (lv' := [(0, .ref (ad 0))]) [0] rfl ?_
              exact w_X9_best_76 C Rt M hf
        · replace hf := gIf hf hc4
          refine G.sub (lv' := [(0, .ref (ad 0))]) [0] rfl ?_
          exact w_X9_best_42 C Rt M hf
theorem mv_X9_best : gMV yX9_best cX9_best 6 (some .int) 4 := ⟨k3_61, k3_62, k1_1, k3_63, ⟨by decide +kernel, by decide +kernel, by decide +kernel⟩, by decide⟩
theorem c_X9_best {res : (Int32 × Mem)} {x1 : Int32} {x2 : Int32} {x3 : Int32} {x4 : Int32} {M : Mem} (hf : f_X9_best x1 x2 x3 x4 M = some res) : Ct yX9_best cX9_best 6 (some .int) 8 (fun ad => [.ref (ad 0), .int x1, .int x2, .int x3, .int x4]) M (some (.int res.1)) res.2 :=
  Ct.of (by decide +kernel) (fun _ => Nat.le_of_ble_eq_true rfl) (fun X ad C Rt => w_X9_best_E C Rt x1 x2 x3 x4 M hf)
set_option maxRecDepth 100000 in
set_option maxHeartbeats 4000000 in
theorem w_X9_third_21 {X : Gc} {ad : Nat → Nat} {res : (Int32 × Mem)} (C : Gk X ad cX9_third "NineTongues" 3 8) (Rt : Gr X ad (some .int) (some (.int res.1)) res.2) (M : Mem) (hf : f_X9_third_21 M = some res) : G X ad 21 3 [(0, .ref (ad 0))] [] M := by
  unfold f_X9_third_21 at hf
  refine G.aload_n (pl := 0) C dX9_third_21 rfl rfl ?_
  refine G.bipush (v := (-2)) C dX9_third_22 (by decide) ?_
  obtain ⟨v1, M1, hr1, hf⟩ := cl_some hf
  refine G.callV (st1 := [.int v1]) C [.int (-2 : Int32)] [] (c_X9_refuse hr1) mv_X9_refuse k2_88 o_0.1 (fun _ => gShp_19 o_0) rfl rfl rfl rfl rfl (Nat.le_of_ble_eq_true rfl) (by decide) dX9_third_24 rfl ?_
  cases hf
  exact G.iret C Rt dX9_third_27
set_option maxRecDepth 100000 in
set_option maxHeartbeats 4000000 in
theorem w_X9_third_55 {X : Gc} {ad : Nat → Nat} {res : (Int32 × Mem)} (C : Gk X ad cX9_third "NineTongues" 3 8) (Rt : Gr X ad (some .int) (some (.int res.1)) res.2) (M : Mem) (hf : f_X9_third_55 M = some res) : G X ad 55 3 [(0, .ref (ad 0))] [] M := by
  unfold f_X9_third_55 at hf
  refine G.aload_n (pl := 0) C dX9_third_55 rfl rfl ?_
  refine G.bipush (v := (-3)) C dX9_third_56 (by decide) ?_
  obtain ⟨v1, M1, hr1, hf⟩ := cl_some hf
  refine G.callV (st1 := [.int v1]) C [.int (-3 : Int32)] [] (c_X9_refuse hr1) mv_X9_refuse k2_88 o_0.1 (fun _ => gShp_19 o_0) rfl rfl rfl rfl rfl (Nat.le_of_ble_eq_true rfl) (by decide) dX9_third_58 rfl ?_
  cases hf
  exact G.iret C Rt dX9_third_61
set_option maxRecDepth 100000 in
set_option maxHeartbeats 4000000 in
theorem w_X9_third_E {X : Gc} {ad : Nat → Nat} {res : (Int32 × Mem)} (C : Gk X ad cX9_third "NineTongues" 3 8) (Rt : Gr X ad (some .int) (some (.int res.1)) res.2) (x1 : Int32) (x2 : Int32) (M : Mem) (hf : f_X9_third x1 x2 M = some res) : G X ad 0 3 [(0, .ref (ad 0)), (1, .int x1), (2, .int x2)] [] M := by
  unfold f_X9_third at hf
  refine G.iload_n (pl := 1) C dX9_third_0 rfl rfl ?_
  obtain ⟨v1, hr1, hf⟩ := cp_some hf
  refine G.callS (st1 := [.int v1]) C [.int x1] [] (c_X9_isKind hr1) mv_X9_isKind k2_138 rfl rfl rfl (Nat.le_of_ble_eq_true rfl) (by decide) dX9_third_1 rfl ?_
  refine G.if_eq (tgt := 21) C dX9_third_4 (by decide) (fun hc1 => ?_) (fun hc1 => ?_)
  · replace hf := gIf hf hc1
    refine G.sub (lv' := [(0, .ref (ad 0))]) [0] rfl ?_
    exact w_X9_third_21 C Rt M hf
  · replace hf := gIfn hf hc1
    refine G.aload_n (pl := 0) C dX9_third_7 rfl rfl ?_
    refine gf9_0 C o_0 k2_44 dX9_third_8 ?_
    refine gf8_0 C o_5 k1_174 dX9_third_11 ?_
    refine G.iload_n (pl := 2) C dX9_third_14 rfl rfl ?_
    obtain ⟨v2, hr2, hf⟩ := cp_some hf
    refine G.callV (st1 := [.int v2]) C [.int x2] [] (c_X1_hasTongue hr2) mv_X1_hasTongue k2_104 o_6.1 (fun _ => gShp_11 o_6) rfl rfl rfl rfl rfl (Nat.le_of_ble_eq_true rfl) (by decide) dX9_third_15 rfl ?_
    refine G.if_ne (tgt := 28) C dX9_third_18 (by decide) (fun hc2 => ?_) (fun hc2 => ?_)
    · replace hf := gIfn hf hc2
      refine G.aload_n (pl := 0) C dX9_third_28 rfl rfl ?_
      refine gf9_0 C o_0 k2_44 dX9_third_29 ?_
      refine gf8_1 C o_5 k1_177 dX9_third_32 ?_
      refine gf7_0 C o_14 k1_91 dX9_third_35 ?_
      refine G.if_eq (tgt := 55) C dX9_third_38 (by decide) (fun hc3 => ?_) (fun hc3 => ?_)
      · replace hf := gIf hf hc3
        refine G.sub (lv' := [(0, .ref (ad 0))]) [0] rfl ?_
        exact w_X9_third_55 C Rt M hf
      · replace hf := gIfn hf hc3
        refine G.aload_n (pl := 0) C dX9_third_41 rfl rfl ?_
        refine gf9_0 C o_0 k2_44 dX9_third_42 ?_
        refine gf8_0 C o_5 k1_174 dX9_third_45 ?_
        refine G.iload_n (pl := 2) C dX9_third_48 rfl rfl ?_
        obtain ⟨v3, hr3, hf⟩ := cp_some hf
        refine G.callV (st1 := [.int v3]) C [.int x2] [] (c_X1_hasWords hr3) mv_X1_hasWords k3_64 o_6.1 (fun _ => gShp_11 o_6) rfl rfl rfl rfl rfl (Nat.le_of_ble_eq_true rfl) (by decide) dX9_third_49 rfl ?_
        refine G.if_ne (tgt := 62) C dX9_third_52 (by decide) (fun hc4 => ?_) (fun hc4 => ?_)
        · replace hf := gIfn hf hc4
          refine G.aload_n (pl := 0) C dX9_third_62 rfl rfl ?_
          refine G.iload_n (pl := 1) C dX9_third_63 rfl rfl ?_
          refine G.iload_n (pl := 2) C dX9_third_64 rfl rfl ?_
          refine G.iconst (v := 1) C dX9_third_65 (by decide) ?_
          obtain ⟨v4, M1, hr4, hf⟩ := cl_some hf
          refine G.callV (st1 := [.int v4]) C [.int x1, .int x2, .int (1 : Int32)] [] (c_X9_leastUnlike hr4) mv_X9_leastUnlike k3_65 o_0.1 (fun _ => gShp_19 o_0) rfl rfl rfl rfl rfl (Nat.le_of_ble_eq_true rfl) (by decide) dX9_third_66 rfl ?_
          refine G.aload_n (pl := 0) C dX9_third_69 rfl rfl ?_
          refine G.iload_n (pl := 1) C dX9_third_70 rfl rfl ?_
          refine G.iload_n (pl := 2) C dX9_third_71 rfl rfl ?_
          refine G.iconst (v := 0) C dX9_third_72 (by decide) ?_
          obtain ⟨v5, M2, hr5, hf⟩ := cl_some hf
          refine G.callV (st1 := [.int v5, .int v4]) C [.int x1, .int x2, .int (0 : Int32)] [.int v4] (c_X9_leastUnlike hr5) mv_X9_leastUnlike k3_65 o_0.1 (fun _ => gShp_19 o_0) rfl rfl rfl rfl rfl (Nat.le_of_ble_eq_true rfl) (by decide) dX9_third_73 rfl ?_
          refine G.icmp_ge (tgt := 83) C dX9_third_76 (by decide) (fun hc5 => ?_) (fun hc5 => ?_)
          · replace hf := gIf hf hc5
            refine G.iconst (v := 0) C dX9_third_83 (by decide) ?_
            cases hf
            exact G.iret C Rt dX9_third_84
          · replace hf := gIfn hf hc5
            refine G.iconst (v := 1) C dX9_third_79 (by decide) ?_
            refine G.goto (tgt := 84) C dX9_third_80 (by decide) ?_
            cases hf
            exact G.iret C Rt dX9_third_84
        · replace hf := gIf hf hc4
          refine G.sub (lv' := [(0, .ref (ad 0))]) [0] rfl ?_
          exact w_X9_third_55 C Rt M hf
    · replace hf := gIf hf hc2
      refine G.sub (lv' := [(0, .ref (ad 0))]) [0] rfl ?_
      exact w_X9_third_21 C Rt M hf
theorem mv_X9_third : gMV yX9_third cX9_third 3 (some .int) 2 := ⟨k3_102, k3_103, k1_1, k3_104, ⟨by decide +kernel, by decide +kernel, by decide +kernel⟩, by decide⟩
theorem c_X9_third {res : (Int32 × Mem)} {x1 : Int32} {x2 : Int32} {M : Mem} (hf : f_X9_third x1 x2 M = some res) : Ct yX9_third cX9_third 3 (some .int) 8 (fun ad => [.ref (ad 0), .int x1, .int x2]) M (some (.int res.1)) res.2 :=
  Ct.of (by decide +kernel) (fun _ => Nat.le_of_ble_eq_true rfl) (fun X ad C Rt => w_X9_third_E C Rt x1 x2 M hf)
set_option maxRecDepth 100000 in
set_option maxHeartbeats 4000000 in
theorem w_X9_goRound_E {X : Gc} {ad : Nat → Nat} {res : (Unit × Mem)} {k1 : Nat} (hk1 : gIs 17 k1) (C : Gk X ad cX9_goRound "NineTongues" 5 5) (Rt : Gr X ad none none res.2) (x2 : Int32) (x3 : Int32) (x4 : Int32) (M : Mem) (hf : f_X9_goRound k1 x2 x3 x4 M = some res) : G X ad 0 5 [(0, .ref (ad 0)), (1, .ref (ad k1)), (2, .int x2), (3, .int x3), (4, .int x4)] [] M := by
  unfold f_X9_goRound at hf
  refine G.aload_n (pl := 0) C dX9_goRound_0 rfl rfl ?_
  refine gf9_0 C o_0 k2_44 dX9_goRound_1 ?_
  refine gf8_0 C o_5 k1_174 dX9_goRound_4 ?_
  refine G.aload_n (pl := 1) C dX9_goRound_7 rfl rfl ?_
  refine G.iload_n (pl := 2) C dX9_goRound_8 rfl rfl ?_
  refine G.iload (pl := 4) C dX9_goRound_9 rfl ?_
  obtain ⟨u, M1, hr1, hf⟩ := cl_some hf
  refine G.callV (st1 := []) C [.ref (ad k1), .int x2, .int x4] [] (c_X1_carry hk1 hr1) mv_X1_carry k3_85 o_6.1 (fun _ => gShp_11 o_6) rfl rfl rfl rfl rfl (Nat.le_of_ble_eq_true rfl) (by decide) dX9_goRound_11 rfl ?_
  refine G.aload_n (pl := 0) C dX9_goRound_14 rfl rfl ?_
  refine gf9_0 C o_0 k2_44 dX9_goRound_15 ?_
  refine gf8_0 C o_5 k1_174 dX9_goRound_18 ?_
  refine G.aload_n (pl := 1) C dX9_goRound_21 rfl rfl ?_
  refine G.iload_n (pl := 2) C dX9_goRound_22 rfl rfl ?_
  refine G.iload_n (pl := 3) C dX9_goRound_23 rfl rfl ?_
  obtain ⟨u, M2, hr2, hf⟩ := cl_some hf
  refine G.callV (st1 := []) C [.ref (ad k1), .int x2, .int x3] [] (c_X1_carry hk1 hr2) mv_X1_carry k3_85 o_6.1 (fun _ => gShp_11 o_6) rfl rfl rfl rfl rfl (Nat.le_of_ble_eq_true rfl) (by decide) dX9_goRound_24 rfl ?_
  cases hf
  exact G.vret C Rt dX9_goRound_27
theorem mv_X9_goRound : gMV yX9_goRound cX9_goRound 5 none 4 := ⟨k3_111, kS_16, k1_1, k3_112, ⟨by decide +kernel, by decide +kernel, by decide +kernel⟩, by decide⟩
theorem c_X9_goRound {res : (Unit × Mem)} {k1 : Nat} {x2 : Int32} {x3 : Int32} {x4 : Int32} {M : Mem} (hk1 : gIs 17 k1) (hf : f_X9_goRound k1 x2 x3 x4 M = some res) : Ct yX9_goRound cX9_goRound 5 none 5 (fun ad => [.ref (ad 0), .ref (ad k1), .int x2, .int x3, .int x4]) M none res.2 :=
  Ct.of (by decide +kernel) (fun _ => Nat.le_of_ble_eq_true rfl) (fun X ad C Rt => w_X9_goRound_E hk1 C Rt x2 x3 x4 M hf)
set_option maxRecDepth 100000 in
set_option maxHeartbeats 4000000 in
theorem w_X9_roundLikeNow_17_b {X : Gc} {ad : Nat → Nat} {res : (Int32 × Mem)} {r_17 : Int32 → Mem → Option (Int32 × Mem)} (C : Gk X ad cX9_roundLikeNow "NineTongues" 6 6) (Rt : Gr X ad (some .int) (some (.int res.1)) res.2) (x1 : Int32) (x2 : Int32) (x3 : Int32) (x4 : Int32) (h_17 : ∀ (x5 : Int32) (M : Mem), r_17 x5 M = some res → G X ad 17 6 [(0, .ref (ad 0)), (1, .int x1), (2, .int x2), (3, .int x3), (4, .int x4), (5, .int x5)] [] M) (x5 : Int32) (M : Mem) (hf : f_X9_roundLikeNow_17_b r_17 x1 x2 x3 x4 x5 M = some res) : G X ad 17 6 [(0, .ref (ad 0)), (1, .int x1), (2, .int x2), (3, .int x3), (4, .int x4), (5, .int x5)] [] M := by
  unfold f_X9_roundLikeNow_17_b at hf
  refine G.iload (pl := 5) C dX9_roundLikeNow_17 rfl ?_
  refine G.iload (pl := 4) C dX9_roundLikeNow_19 rfl ?_
  refine G.icmp_ge (tgt := 58) C dX9_roundLikeNow_21 (by decide) (fun hc1 => ?_) (fun hc1 => ?_)
  · replace hf := gIf hf hc1
    refine G.iconst (v := (-1)) C dX9_roundLikeNow_58 (by decide) ?_
    cases hf
    exact G.iret C Rt dX9_roundLikeNow_59
  · replace hf := gIfn hf hc1
    refine G.aload_n (pl := 0) C dX9_roundLikeNow_24 rfl rfl ?_
    refine gf9_11 C o_0 k2_55 dX9_roundLikeNow_25 ?_
    refine G.aload_n (pl := 0) C dX9_roundLikeNow_28 rfl rfl ?_
    refine gf9_10 C o_0 k2_54 dX9_roundLikeNow_29 ?_
    obtain ⟨v1, hr1, hf⟩ := cp_some hf
    refine G.callV (st1 := [.int v1]) C [.ref (ad 100)] [] (c_X7_isSameAs o_104 o_100 hr1) mv_X7_isSameAs k3_117 o_104.1 (fun _ => gShp_17 o_104) rfl rfl rfl rfl rfl (Nat.le_of_ble_eq_true rfl) (by decide) dX9_roundLikeNow_32 rfl ?_
    refine G.if_eq (tgt := 41) C dX9_roundLikeNow_35 (by decide) (fun hc2 => ?_) (fun hc2 => ?_)
    · replace hf := gIf hf hc2
      refine G.aload_n (pl := 0) C dX9_roundLikeNow_41 rfl rfl ?_
      refine G.aload_n (pl := 0) C dX9_roundLikeNow_42 rfl rfl ?_
      refine gf9_11 C o_0 k2_55 dX9_roundLikeNow_43 ?_
      refine G.iload_n (pl := 1) C dX9_roundLikeNow_46 rfl rfl ?_
      refine G.iload_n (pl := 2) C dX9_roundLikeNow_47 rfl rfl ?_
      refine G.iload_n (pl := 3) C dX9_roundLikeNow_48 rfl rfl ?_
      obtain ⟨u, M1, hr2, hf⟩ := cl_some hf
      refine G.callV (st1 := []) C [.ref (ad 104), .int x1, .int x2, .int x3] [] (c_X9_goRound o_104 hr2) mv_X9_goRound k3_109 o_0.1 (fun _ => gShp_19 o_0) rfl rfl rfl rfl rfl (Nat.le_of_ble_eq_true rfl) (by decide) dX9_roundLikeNow_49 rfl ?_
      refine G.iinc (pl := 5) (v := (x5 + 1)) (lv' := [(5, .int (x5 + 1)), (0, .ref (ad 0)), (1, .int x1), (2, .int x2), (3, .int x3), (4, .int x4)]) C dX9_roundLikeNow_52 rfl rfl (by decide) rfl ?_
      refine G.goto (tgt := 17) C dX9_roundLikeNow_55 (by decide) ?_
      refine G.sub (lv' := [(0, .ref (ad 0)), (1, .int x1), (2, .int x2), (3, .int x3), (4, .int x4), (5, .int (x5 + 1))]) [1, 2, 3, 4, 5, 0] rfl ?_
      exact h_17 (x5 + 1) M1 hf
    · replace hf := gIfn hf hc2
      refine G.iload (pl := 5) C dX9_roundLikeNow_38 rfl ?_
      cases hf
      exact G.iret C Rt dX9_roundLikeNow_40
theorem w_X9_roundLikeNow_17 {X : Gc} {ad : Nat → Nat} {res : (Int32 × Mem)} (C : Gk X ad cX9_roundLikeNow "NineTongues" 6 6) (Rt : Gr X ad (some .int) (some (.int res.1)) res.2) (x1 : Int32) (x2 : Int32) (x3 : Int32) (x4 : Int32) : ∀ (n : Nat) (x5 : Int32) (M : Mem), f_X9_roundLikeNow_17 x1 x2 x3 x4 n x5 M = some res → G X ad 17 6 [(0, .ref (ad 0)), (1, .int x1), (2, .int x2), (3, .int x3), (4, .int x4), (5, .int x5)] [] M := by
  intro n
  induction n with
  | zero => intro x5 M hf; exact absurd (show (none : Option (Int32 × Mem)) = some res from hf) (fun h => nomatch h)
  | succ n ih => intro x5 M hf; exact w_X9_roundLikeNow_17_b C Rt x1 x2 x3 x4 ih x5 M hf
set_option maxRecDepth 100000 in
set_option maxHeartbeats 4000000 in
theorem w_X9_roundLikeNow_E {X : Gc} {ad : Nat → Nat} {res : (Int32 × Mem)} (C : Gk X ad cX9_roundLikeNow "NineTongues" 6 6) (Rt : Gr X ad (some .int) (some (.int res.1)) res.2) (x1 : Int32) (x2 : Int32) (x3 : Int32) (x4 : Int32) (M : Mem) (hf : f_X9_roundLikeNow x1 x2 x3 x4 M = some res) : G X ad 0 6 [(0, .ref (ad 0)), (1, .int x1), (2, .int x2), (3, .int x3), (4, .int x4)] [] M := by
  unfold f_X9_roundLikeNow at hf
  refine G.aload_n (pl := 0) C dX9_roundLikeNow_0 rfl rfl ?_
  refine gf9_11 C o_0 k2_55 dX9_roundLikeNow_1 ?_
  refine G.aload_n (pl := 0) C dX9_roundLikeNow_4 rfl rfl ?_
  refine gf9_0 C o_0 k2_44 dX9_roundLikeNow_5 ?_
  refine gf8_1 C o_5 k1_177 dX9_roundLikeNow_8 ?_
  obtain ⟨u, M1, hr1, hf⟩ := cl_some hf
  refine G.callV (st1 := []) C [.ref (ad 14)] [] (c_X7_copyFrom o_104 o_14 hr1) mv_X7_copyFrom k3_5 o_104.1 (fun _ => gShp_17 o_104) rfl rfl rfl rfl rfl (Nat.le_of_ble_eq_true rfl) (by decide) dX9_roundLikeNow_11 rfl ?_
  refine G.iconst (v := 0) C dX9_roundLikeNow_14 (by decide) ?_
  refine G.istore (lv' := [(5, .int (0 : Int32)), (0, .ref (ad 0)), (1, .int x1), (2, .int x2), (3, .int x3), (4, .int x4)]) C dX9_roundLikeNow_15 (by decide) rfl ?_
  refine G.sub (lv' := [(0, .ref (ad 0)), (1, .int x1), (2, .int x2), (3, .int x3), (4, .int x4), (5, .int (0 : Int32))]) [1, 2, 3, 4, 5, 0] rfl ?_
  exact w_X9_roundLikeNow_17 C Rt x1 x2 x3 x4 FU (0 : Int32) M1 hf
theorem mv_X9_roundLikeNow : gMV yX9_roundLikeNow cX9_roundLikeNow 6 (some .int) 4 := ⟨k3_115, kS_17, k1_1, k3_116, ⟨by decide +kernel, by decide +kernel, by decide +kernel⟩, by decide⟩
theorem c_X9_roundLikeNow {res : (Int32 × Mem)} {x1 : Int32} {x2 : Int32} {x3 : Int32} {x4 : Int32} {M : Mem} (hf : f_X9_roundLikeNow x1 x2 x3 x4 M = some res) : Ct yX9_roundLikeNow cX9_roundLikeNow 6 (some .int) 6 (fun ad => [.ref (ad 0), .int x1, .int x2, .int x3, .int x4]) M (some (.int res.1)) res.2 :=
  Ct.of (by decide +kernel) (fun _ => Nat.le_of_ble_eq_true rfl) (fun X ad C Rt => w_X9_roundLikeNow_E C Rt x1 x2 x3 x4 M hf)
