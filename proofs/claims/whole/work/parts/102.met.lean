set_option maxRecDepth 100000 in
set_option maxHeartbeats 4000000 in
theorem w_X4_joinSets_74 {X : Gc} {ad : Nat → Nat} {res : (Unit × Mem)} {r_23 : Int32 → Mem → Option (Unit × Mem)} (C : Gk X ad cX4_joinSets "NineTongues$Rings" 3 2) (Rt : Gr X ad none none res.2) (x2 : Int32) (M : Mem) (h_23 : ∀ (x2 : Int32) (M : Mem), r_23 x2 M = some res → G X ad 23 3 [(0, .ref (ad 96)), (1, .ref (ad 23)), (2, .int x2)] [] M) (hf : f_X4_joinSets_74 r_23 x2 M = some res) : G X ad 74 3 [(0, .ref (ad 96)), (1, .ref (ad 23)), (2, .int x2)] [] M := by
  unfold f_X4_joinSets_74 at hf
  refine G.iinc (pl := 2) (v := (x2 + 1)) (lv' := [(2, .int (x2 + 1)), (0, .ref (ad 96)), (1, .ref (ad 23))]) C dX4_joinSets_74 rfl rfl (by decide) rfl ?_
  refine G.goto (tgt := 23) C dX4_joinSets_77 (by decide) ?_
  refine G.sub (lv' := [(0, .ref (ad 96)), (1, .ref (ad 23)), (2, .int (x2 + 1))]) [1, 2, 0] rfl ?_
  exact h_23 (x2 + 1) M hf
set_option maxRecDepth 100000 in
set_option maxHeartbeats 4000000 in
theorem w_X4_joinSets_23_b {X : Gc} {ad : Nat → Nat} {res : (Unit × Mem)} {r_23 : Int32 → Mem → Option (Unit × Mem)} (C : Gk X ad cX4_joinSets "NineTongues$Rings" 3 2) (Rt : Gr X ad none none res.2) (h_23 : ∀ (x2 : Int32) (M : Mem), r_23 x2 M = some res → G X ad 23 3 [(0, .ref (ad 96)), (1, .ref (ad 23)), (2, .int x2)] [] M) (x2 : Int32) (M : Mem) (hf : f_X4_joinSets_23_b r_23 x2 M = some res) : G X ad 23 3 [(0, .ref (ad 96)), (1, .ref (ad 23)), (2, .int x2)] [] M := by
  unfold f_X4_joinSets_23_b at hf
  refine G.iload_n (pl := 2) C dX4_joinSets_23 rfl rfl ?_
  refine G.aload_n (pl := 1) C dX4_joinSets_24 rfl rfl ?_
  refine gf2_0 C o_23 k1_158 dX4_joinSets_25 ?_
  refine G.icmp_ge (tgt := 80) C dX4_joinSets_28 (by decide) (fun hc1 => ?_) (fun hc1 => ?_)
  · replace hf := gIf hf hc1
    cases hf
    exact G.vret C Rt dX4_joinSets_80
  · replace hf := gIfn hf hc1
    refine G.aload_n (pl := 0) C dX4_joinSets_31 rfl rfl ?_
    refine gf4_3 C o_96 k2_27 dX4_joinSets_32 ?_
    refine G.iload_n (pl := 2) C dX4_joinSets_35 rfl rfl ?_
    obtain ⟨v1, ev1, hi1, hf⟩ := rd_some hf
    refine G.iald C a_98 hi1 ev1 dX4_joinSets_36 ?_
    refine G.iconst (v := 2) C dX4_joinSets_37 (by decide) ?_
    refine G.imul C dX4_joinSets_38 ?_
    refine G.aload_n (pl := 0) C dX4_joinSets_39 rfl rfl ?_
    refine gf4_2 C o_96 k2_25 dX4_joinSets_40 ?_
    refine G.iload_n (pl := 2) C dX4_joinSets_43 rfl rfl ?_
    obtain ⟨v2, ev2, hi2, hf⟩ := rd_some hf
    refine G.iald C a_97 hi2 ev2 dX4_joinSets_44 ?_
    refine G.icmp_gt (tgt := 74) C dX4_joinSets_45 (by decide) (fun hc2 => ?_) (fun hc2 => ?_)
    · replace hf := gIf hf hc2
      exact w_X4_joinSets_74 C Rt x2 M h_23 hf
    · replace hf := gIfn hf hc2
      refine G.aload_n (pl := 0) C dX4_joinSets_48 rfl rfl ?_
      refine G.aload_n (pl := 0) C dX4_joinSets_49 rfl rfl ?_
      refine gf4_4 C o_96 k2_29 dX4_joinSets_50 ?_
      refine G.aload_n (pl := 1) C dX4_joinSets_53 rfl rfl ?_
      refine gf2_1 C o_23 k1_162 dX4_joinSets_54 ?_
      refine G.iload_n (pl := 2) C dX4_joinSets_57 rfl rfl ?_
      obtain ⟨v3, ev3, hi3, hf⟩ := rd_some hf
      refine G.iald C a_24 hi3 ev3 dX4_joinSets_58 ?_
      obtain ⟨v4, ev4, hi4, hf⟩ := rd_some hf
      refine G.iald C a_99 hi4 ev4 dX4_joinSets_59 ?_
      refine G.aload_n (pl := 0) C dX4_joinSets_60 rfl rfl ?_
      refine gf4_4 C o_96 k2_29 dX4_joinSets_61 ?_
      refine G.aload_n (pl := 1) C dX4_joinSets_64 rfl rfl ?_
      refine gf2_2 C o_23 k1_164 dX4_joinSets_65 ?_
      refine G.iload_n (pl := 2) C dX4_joinSets_68 rfl rfl ?_
      obtain ⟨v5, ev5, hi5, hf⟩ := rd_some hf
      refine G.iald C a_25 hi5 ev5 dX4_joinSets_69 ?_
      obtain ⟨v6, ev6, hi6, hf⟩ := rd_some hf
      refine G.iald C a_99 hi6 ev6 dX4_joinSets_70 ?_
      obtain ⟨u, M1, hr1, hf⟩ := cl_some hf
      refine G.callV (st1 := []) C [.int v4, .int v6] [] (c_X4_join hr1) mv_X4_join k4_0 o_96.1 (fun _ => gShp_14 o_96) rfl rfl rfl rfl rfl (Nat.le_of_ble_eq_true rfl) (by decide) dX4_joinSets_71 rfl ?_
      exact w_X4_joinSets_74 C Rt x2 M1 h_23 hf
theorem w_X4_joinSets_23 {X : Gc} {ad : Nat → Nat} {res : (Unit × Mem)} (C : Gk X ad cX4_joinSets "NineTongues$Rings" 3 2) (Rt : Gr X ad none none res.2) : ∀ (n : Nat) (x2 : Int32) (M : Mem), f_X4_joinSets_23 n x2 M = some res → G X ad 23 3 [(0, .ref (ad 96)), (1, .ref (ad 23)), (2, .int x2)] [] M := by
  intro n
  induction n with
  | zero => intro x2 M hf; exact absurd (show (none : Option (Unit × Mem)) = some res from hf) (fun h => nomatch h)
  | succ n ih => intro x2 M hf; exact w_X4_joinSets_23_b C Rt ih x2 M hf
set_option maxRecDepth 100000 in
set_option maxHeartbeats 4000000 in
theorem w_X4_joinSets_2_b {X : Gc} {ad : Nat → Nat} {res : (Unit × Mem)} {r_2 : Int32 → Mem → Option (Unit × Mem)} (C : Gk X ad cX4_joinSets "NineTongues$Rings" 3 2) (Rt : Gr X ad none none res.2) (h_2 : ∀ (x2 : Int32) (M : Mem), r_2 x2 M = some res → G X ad 2 3 [(0, .ref (ad 96)), (1, .ref (ad 23)), (2, .int x2)] [] M) (x2 : Int32) (M : Mem) (hf : f_X4_joinSets_2_b r_2 x2 M = some res) : G X ad 2 3 [(0, .ref (ad 96)), (1, .ref (ad 23)), (2, .int x2)] [] M := by
  unfold f_X4_joinSets_2_b at hf
  refine G.iload_n (pl := 2) C dX4_joinSets_2 rfl rfl ?_
  refine G.bipush (v := 48) C dX4_joinSets_3 (by decide) ?_
  refine G.icmp_ge (tgt := 21) C dX4_joinSets_5 (by decide) (fun hc1 => ?_) (fun hc1 => ?_)
  · replace hf := gIf hf hc1
    refine G.iconst (v := 0) C dX4_joinSets_21 (by decide) ?_
    refine G.istore_n (lv' := [(2, .int (0 : Int32)), (0, .ref (ad 96)), (1, .ref (ad 23))]) C dX4_joinSets_22 rfl (by decide) rfl ?_
    refine G.sub (lv' := [(0, .ref (ad 96)), (1, .ref (ad 23)), (2, .int (0 : Int32))]) [1, 2, 0] rfl ?_
    exact w_X4_joinSets_23 C Rt FU (0 : Int32) M hf
  · replace hf := gIfn hf hc1
    refine G.aload_n (pl := 0) C dX4_joinSets_8 rfl rfl ?_
    refine gf4_4 C o_96 k2_29 dX4_joinSets_9 ?_
    refine G.iload_n (pl := 2) C dX4_joinSets_12 rfl rfl ?_
    refine G.iload_n (pl := 2) C dX4_joinSets_13 rfl rfl ?_
    obtain ⟨hi1, hf⟩ := ck_some hf
    obtain ⟨M1, eM1, hf⟩ := stm_some hf
    refine G.iast C a_99 hi1 eM1 dX4_joinSets_14 ?_
    refine G.iinc (pl := 2) (v := (x2 + 1)) (lv' := [(2, .int (x2 + 1)), (0, .ref (ad 96)), (1, .ref (ad 23))]) C dX4_joinSets_15 rfl rfl (by decide) rfl ?_
    refine G.goto (tgt := 2) C dX4_joinSets_18 (by decide) ?_
    refine G.sub (lv' := [(0, .ref (ad 96)), (1, .ref (ad 23)), (2, .int (x2 + 1))]) [1, 2, 0] rfl ?_
    exact h_2 (x2 + 1) M1 hf
theorem w_X4_joinSets_2 {X : Gc} {ad : Nat → Nat} {res : (Unit × Mem)} (C : Gk X ad cX4_joinSets "NineTongues$Rings" 3 2) (Rt : Gr X ad none none res.2) : ∀ (n : Nat) (x2 : Int32) (M : Mem), f_X4_joinSets_2 n x2 M = some res → G X ad 2 3 [(0, .ref (ad 96)), (1, .ref (ad 23)), (2, .int x2)] [] M := by
  intro n
  induction n with
  | zero => intro x2 M hf; exact absurd (show (none : Option (Unit × Mem)) = some res from hf) (fun h => nomatch h)
  | succ n ih => intro x2 M hf; exact w_X4_joinSets_2_b C Rt ih x2 M hf
set_option maxRecDepth 100000 in
set_option maxHeartbeats 4000000 in
theorem w_X4_joinSets_E {X : Gc} {ad : Nat → Nat} {res : (Unit × Mem)} (C : Gk X ad cX4_joinSets "NineTongues$Rings" 3 2) (Rt : Gr X ad none none res.2) (M : Mem) (hf : f_X4_joinSets M = some res) : G X ad 0 3 [(0, .ref (ad 96)), (1, .ref (ad 23))] [] M := by
  unfold f_X4_joinSets at hf
  refine G.iconst (v := 0) C dX4_joinSets_0 (by decide) ?_
  refine G.istore_n (lv' := [(2, .int (0 : Int32)), (0, .ref (ad 96)), (1, .ref (ad 23))]) C dX4_joinSets_1 rfl (by decide) rfl ?_
  refine G.sub (lv' := [(0, .ref (ad 96)), (1, .ref (ad 23)), (2, .int (0 : Int32))]) [1, 2, 0] rfl ?_
  exact w_X4_joinSets_2 C Rt FU (0 : Int32) M hf
theorem mv_X4_joinSets : gMV yX4_joinSets cX4_joinSets 3 none 1 := ⟨k3_237, k3_238, k1_11, k3_239, ⟨by decide +kernel, by decide +kernel, by decide +kernel⟩, by decide⟩
theorem c_X4_joinSets {res : (Unit × Mem)} {M : Mem} (hf : f_X4_joinSets M = some res) : Ct yX4_joinSets cX4_joinSets 3 none 2 (fun ad => [.ref (ad 96), .ref (ad 23)]) M none res.2 :=
  Ct.of (by decide +kernel) (fun _ => Nat.le_of_ble_eq_true rfl) (fun X ad C Rt => w_X4_joinSets_E C Rt M hf)
set_option maxRecDepth 100000 in
set_option maxHeartbeats 4000000 in
theorem w_X5_addStep_30 {X : Gc} {ad : Nat → Nat} {res : (Unit × Mem)} (C : Gk X ad cX5_addStep "NineTongues$Route" 3 1) (Rt : Gr X ad none none res.2) (M : Mem) (hf : f_X5_addStep_30 M = some res) : G X ad 30 3 [(0, .ref (ad 68))] [] M := by
  unfold f_X5_addStep_30 at hf
  refine G.aload_n (pl := 0) C dX5_addStep_30 rfl rfl ?_
  refine G.aload_n (pl := 0) C dX5_addStep_31 rfl rfl ?_
  refine gf5_1 C o_68 k1_204 dX5_addStep_32 ?_
  refine G.iconst (v := 1) C dX5_addStep_35 (by decide) ?_
  refine G.iadd C dX5_addStep_36 ?_
  refine G.sipush (v := 201) C dX5_addStep_37 (by decide) ?_
  refine G.mmin C k2_197 k2_198 k1_14 k2_199 (Nat.le_of_ble_eq_true rfl) (by decide) dX5_addStep_40 ?_
  obtain ⟨M1, eM1, hf⟩ := stm_some hf
  refine gp5_1 C o_68 k1_204 eM1 dX5_addStep_43 ?_
  cases hf
  exact G.vret C Rt dX5_addStep_46
set_option maxRecDepth 100000 in
set_option maxHeartbeats 4000000 in
theorem w_X5_addStep_E {X : Gc} {ad : Nat → Nat} {res : (Unit × Mem)} (C : Gk X ad cX5_addStep "NineTongues$Route" 3 1) (Rt : Gr X ad none none res.2) (x1 : Int32) (x2 : Int32) (M : Mem) (hf : f_X5_addStep x1 x2 M = some res) : G X ad 0 3 [(0, .ref (ad 68)), (1, .int x1), (2, .int x2)] [] M := by
  unfold f_X5_addStep at hf
  refine G.aload_n (pl := 0) C dX5_addStep_0 rfl rfl ?_
  refine gf5_1 C o_68 k1_204 dX5_addStep_1 ?_
  refine G.sipush (v := 200) C dX5_addStep_4 (by decide) ?_
  refine G.icmp_ge (tgt := 30) C dX5_addStep_7 (by decide) (fun hc1 => ?_) (fun hc1 => ?_)
  · replace hf := gIf hf hc1
    refine G.sub (lv' := [(0, .ref (ad 68))]) [0] rfl ?_
    exact w_X5_addStep_30 C Rt M hf
  · replace hf := gIfn hf hc1
    refine G.aload_n (pl := 0) C dX5_addStep_10 rfl rfl ?_
    refine gf5_5 C o_68 k1_209 dX5_addStep_11 ?_
    refine G.aload_n (pl := 0) C dX5_addStep_14 rfl rfl ?_
    refine gf5_1 C o_68 k1_204 dX5_addStep_15 ?_
    refine G.iload_n (pl := 1) C dX5_addStep_18 rfl rfl ?_
    obtain ⟨hi1, hf⟩ := ck_some hf
    obtain ⟨M1, eM1, hf⟩ := stm_some hf
    refine G.iast C a_70 hi1 eM1 dX5_addStep_19 ?_
    refine G.aload_n (pl := 0) C dX5_addStep_20 rfl rfl ?_
    refine gf5_6 C o_68 k1_210 dX5_addStep_21 ?_
    refine G.aload_n (pl := 0) C dX5_addStep_24 rfl rfl ?_
    refine gf5_1 C o_68 k1_204 dX5_addStep_25 ?_
    refine G.iload_n (pl := 2) C dX5_addStep_28 rfl rfl ?_
    obtain ⟨hi2, hf⟩ := ck_some hf
    obtain ⟨M2, eM2, hf⟩ := stm_some hf
    refine G.iast C a_71 hi2 eM2 dX5_addStep_29 ?_
    refine G.sub (lv' := [(0, .ref (ad 68))]) [0] rfl ?_
    exact w_X5_addStep_30 C Rt M2 hf
theorem mv_X5_addStep : gMV yX5_addStep cX5_addStep 3 none 2 := ⟨k2_195, kS_5, k1_9, k2_196, ⟨by decide +kernel, by decide +kernel, by decide +kernel⟩, by decide⟩
theorem c_X5_addStep {res : (Unit × Mem)} {x1 : Int32} {x2 : Int32} {M : Mem} (hf : f_X5_addStep x1 x2 M = some res) : Ct yX5_addStep cX5_addStep 3 none 1 (fun ad => [.ref (ad 68), .int x1, .int x2]) M none res.2 :=
  Ct.of (by decide +kernel) (fun _ => Nat.le_of_ble_eq_true rfl) (fun X ad C Rt => w_X5_addStep_E C Rt x1 x2 M hf)
set_option maxRecDepth 100000 in
set_option maxHeartbeats 4000000 in
theorem w_X5_takesRounds_105 {X : Gc} {ad : Nat → Nat} {res : (Int32 × Mem)} (C : Gk X ad cX5_takesRounds "NineTongues$Route" 5 2) (Rt : Gr X ad (some .boolean) (some (.int res.1)) res.2) (M : Mem) (hf : f_X5_takesRounds_105 M = some res) : G X ad 105 5 [(0, .ref (ad 68))] [] M := by
  unfold f_X5_takesRounds_105 at hf
  refine G.aload_n (pl := 0) C dX5_takesRounds_105 rfl rfl ?_
  refine G.iconst (v := 2) C dX5_takesRounds_106 (by decide) ?_
  obtain ⟨M1, eM1, hf⟩ := stm_some hf
  refine gp5_2 C o_68 k1_206 eM1 dX5_takesRounds_107 ?_
  refine G.iconst (v := 1) C dX5_takesRounds_110 (by decide) ?_
  cases hf
  exact G.zret C rfl Rt dX5_takesRounds_111
set_option maxRecDepth 100000 in
set_option maxHeartbeats 4000000 in
theorem w_X5_takesRounds_55_b {X : Gc} {ad : Nat → Nat} {res : (Int32 × Mem)} {r_55 : Int32 → Mem → Option (Int32 × Mem)} (C : Gk X ad cX5_takesRounds "NineTongues$Route" 5 2) (Rt : Gr X ad (some .boolean) (some (.int res.1)) res.2) (x2 : Int32) (x3 : Int32) (h_55 : ∀ (x4 : Int32) (M : Mem), r_55 x4 M = some res → G X ad 55 5 [(0, .ref (ad 68)), (2, .int x2), (3, .int x3), (4, .int x4)] [] M) (x4 : Int32) (M : Mem) (hf : f_X5_takesRounds_55_b r_55 x2 x3 x4 M = some res) : G X ad 55 5 [(0, .ref (ad 68)), (2, .int x2), (3, .int x3), (4, .int x4)] [] M := by
  unfold f_X5_takesRounds_55_b at hf
  refine G.iload (pl := 3) C dX5_takesRounds_55 rfl ?_
  refine G.iload_n (pl := 1) C dX5_takesRounds_57 rfl rfl ?_
  refine G.iload_n (pl := 2) C dX5_takesRounds_58 rfl rfl ?_
  refine G.iadd C dX5_takesRounds_59 ?_
  refine G.icmp_ge (tgt := 105) C dX5_takesRounds_60 (by decide) (fun hc1 => ?_) (fun hc1 => ?_)
  · replace hf := gIf hf hc1
    refine G.sub (lv' := [(0, .ref (ad 68))]) [0] rfl ?_
    exact w_X5_takesRounds_105 C Rt M hf
  · replace hf := gIfn hf hc1
    refine G.aload_n (pl := 0) C dX5_takesRounds_63 rfl rfl ?_
    refine gf5_1 C o_68 k1_204 dX5_takesRounds_64 ?_
    refine G.sipush (v := 200) C dX5_takesRounds_67 (by decide) ?_
    refine G.icmp_gt (tgt := 105) C dX5_takesRounds_70 (by decide) (fun hc2 => ?_) (fun hc2 => ?_)
    · replace hf := gIf hf hc2
      refine G.sub (lv' := [(0, .ref (ad 68))]) [0] rfl ?_
      exact w_X5_takesRounds_105 C Rt M hf
    · replace hf := gIfn hf hc2
      refine G.iload (pl := 3) C dX5_takesRounds_73 rfl ?_
      refine G.sipush (v := 200) C dX5_takesRounds_75 (by decide) ?_
      refine G.icmp_ge (tgt := 105) C dX5_takesRounds_78 (by decide) (fun hc3 => ?_) (fun hc3 => ?_)
      · replace hf := gIf hf hc3
        refine G.sub (lv' := [(0, .ref (ad 68))]) [0] rfl ?_
        exact w_X5_takesRounds_105 C Rt M hf
      · replace hf := gIfn hf hc3
        refine G.aload_n (pl := 0) C dX5_takesRounds_81 rfl rfl ?_
        refine G.aload_n (pl := 0) C dX5_takesRounds_82 rfl rfl ?_
        refine gf5_5 C o_68 k1_209 dX5_takesRounds_83 ?_
        refine G.iload (pl := 3) C dX5_takesRounds_86 rfl ?_
        obtain ⟨v1, ev1, hi1, hf⟩ := rd_some hf
        refine G.iald C a_70 hi1 ev1 dX5_takesRounds_88 ?_
        refine G.aload_n (pl := 0) C dX5_takesRounds_89 rfl rfl ?_
        refine gf5_6 C o_68 k1_210 dX5_takesRounds_90 ?_
        refine G.iload (pl := 3) C dX5_takesRounds_93 rfl ?_
        obtain ⟨v2, ev2, hi2, hf⟩ := rd_some hf
        refine G.iald C a_71 hi2 ev2 dX5_takesRounds_95 ?_
        obtain ⟨u, M1, hr1, hf⟩ := cl_some hf
        refine G.callV (st1 := []) C [.int v1, .int v2] [] (c_X5_addStep hr1) mv_X5_addStep k2_193 o_68.1 (fun _ => gShp_15 o_68) rfl rfl rfl rfl rfl (Nat.le_of_ble_eq_true rfl) (by decide) dX5_takesRounds_96 rfl ?_
        refine G.iinc (pl := 3) (v := (x4 + 1)) (lv' := [(4, .int (x4 + 1)), (0, .ref (ad 68)), (2, .int x2), (3, .int x3)]) C dX5_takesRounds_99 rfl rfl (by decide) rfl ?_
        refine G.goto (tgt := 55) C dX5_takesRounds_102 (by decide) ?_
        refine G.sub (lv' := [(0, .ref (ad 68)), (2, .int x2), (3, .int x3), (4, .int (x4 + 1))]) [1, 2, 3, 0] rfl ?_
        exact h_55 (x4 + 1) M1 hf
theorem w_X5_takesRounds_55 {X : Gc} {ad : Nat → Nat} {res : (Int32 × Mem)} (C : Gk X ad cX5_takesRounds "NineTongues$Route" 5 2) (Rt : Gr X ad (some .boolean) (some (.int res.1)) res.2) (x2 : Int32) (x3 : Int32) : ∀ (n : Nat) (x4 : Int32) (M : Mem), f_X5_takesRounds_55 x2 x3 n x4 M = some res → G X ad 55 5 [(0, .ref (ad 68)), (2, .int x2), (3, .int x3), (4, .int x4)] [] M := by
  intro n
  induction n with
  | zero => intro x4 M hf; exact absurd (show (none : Option (Int32 × Mem)) = some res from hf) (fun h => nomatch h)
  | succ n ih => intro x4 M hf; exact w_X5_takesRounds_55_b C Rt x2 x3 ih x4 M hf
set_option maxRecDepth 100000 in
set_option maxHeartbeats 4000000 in
theorem w_X5_takesRounds_E {X : Gc} {ad : Nat → Nat} {res : (Int32 × Mem)} (C : Gk X ad cX5_takesRounds "NineTongues$Route" 5 2) (Rt : Gr X ad (some .boolean) (some (.int res.1)) res.2) (x1 : Int32) (M : Mem) (hf : f_X5_takesRounds x1 M = some res) : G X ad 0 5 [(0, .ref (ad 68)), (1, .int x1)] [] M := by
  unfold f_X5_takesRounds at hf
  refine G.aload_n (pl := 0) C dX5_takesRounds_0 rfl rfl ?_
  refine gf5_3 C o_68 k1_207 dX5_takesRounds_1 ?_
  refine G.if_eq (tgt := 18) C dX5_takesRounds_4 (by decide) (fun hc1 => ?_) (fun hc1 => ?_)
  · replace hf := gIf hf hc1
    refine G.iconst (v := 0) C dX5_takesRounds_18 (by decide) ?_
    cases hf
    exact G.zret C rfl Rt dX5_takesRounds_19
  · replace hf := gIfn hf hc1
    refine G.iload_n (pl := 1) C dX5_takesRounds_7 rfl rfl ?_
    refine G.bipush (v := 49) C dX5_takesRounds_8 (by decide) ?_
    refine G.bipush (v := 57) C dX5_takesRounds_10 (by decide) ?_
    obtain ⟨v1, hr1, hf⟩ := cp_some hf
    refine G.callN (st1 := [.int v1]) C [.int x1, .int (49 : Int32), .int (57 : Int32)] [] (c_X9_isIn hr1) mv_X9_isIn (List.mem_of_getElem? (i := 1) rfl) rfl rfl rfl (Nat.le_of_ble_eq_true rfl) (by decide) dX5_takesRounds_12 rfl ?_
    refine G.if_ne (tgt := 20) C dX5_takesRounds_15 (by decide) (fun hc2 => ?_) (fun hc2 => ?_)
    · replace hf := gIfn hf hc2
      refine G.aload_n (pl := 0) C dX5_takesRounds_20 rfl rfl ?_
      refine G.dup C dX5_takesRounds_21 rfl ?_
      refine gf5_3 C o_68 k1_207 dX5_takesRounds_22 ?_
      refine G.iconst (v := 1) C dX5_takesRounds_25 (by decide) ?_
      refine G.isub C dX5_takesRounds_26 ?_
      obtain ⟨M1, eM1, hf⟩ := stm_some hf
      refine gp5_3 C o_68 k1_207 eM1 dX5_takesRounds_27 ?_
      refine G.aload_n (pl := 0) C dX5_takesRounds_30 rfl rfl ?_
      refine gf5_4 C o_68 k1_208 dX5_takesRounds_31 ?_
      refine G.aload_n (pl := 0) C dX5_takesRounds_34 rfl rfl ?_
      refine gf5_3 C o_68 k1_207 dX5_takesRounds_35 ?_
      obtain ⟨v2, ev1, hi1, hf⟩ := rd_some hf
      refine G.iald C a_69 hi1 ev1 dX5_takesRounds_38 ?_
      refine G.istore_n (lv' := [(2, .int v2), (0, .ref (ad 68)), (1, .int x1)]) C dX5_takesRounds_39 rfl (by decide) rfl ?_
      refine G.aload_n (pl := 1) C dX5_takesRounds_40 rfl rfl ?_
      refine gf5_1 C o_68 k1_204 dX5_takesRounds_41 ?_
      refine G.iload_n (pl := 0) C dX5_takesRounds_44 rfl rfl ?_
      refine G.isub C dX5_takesRounds_45 ?_
      refine G.iload_n (pl := 2) C dX5_takesRounds_46 rfl rfl ?_
      refine G.bipush (v := 49) C dX5_takesRounds_47 (by decide) ?_
      refine G.isub C dX5_takesRounds_49 ?_
      refine G.imul C dX5_takesRounds_50 ?_
      refine G.istore_n (lv' := [(3, .int (((M1.1 68 1) - v2) * (x1 - (49 : Int32)))), (2, .int v2), (0, .ref (ad 68)), (1, .int x1)]) C dX5_takesRounds_51 rfl (by decide) rfl ?_
      refine G.iload_n (pl := 1) C dX5_takesRounds_52 rfl rfl ?_
      refine G.istore (lv' := [(4, .int v2), (3, .int (((M1.1 68 1) - v2) * (x1 - (49 : Int32)))), (2, .int v2), (0, .ref (ad 68)), (1, .int x1)]) C dX5_takesRounds_53 (by decide) rfl ?_
      refine G.sub (lv' := [(0, .ref (ad 68)), (2, .int v2), (3, .int (((M1.1 68 1) - v2) * (x1 - (49 : Int32)))), (4, .int v2)]) [3, 2, 1, 0] rfl ?_
      exact w_X5_takesRounds_55 C Rt v2 (((M1.1 68 1) - v2) * (x1 - (49 : Int32))) FU v2 M1 hf
    · replace hf := gIf hf hc2
      refine G.iconst (v := 0) C dX5_takesRounds_18 (by decide) ?_
      cases hf
      exact G.zret C rfl Rt dX5_takesRounds_19
theorem mv_X5_takesRounds : gMV yX5_takesRounds cX5_takesRounds 5 (some .boolean) 1 := ⟨k2_190, kS_4, k1_9, k2_191, ⟨by decide +kernel, by decide +kernel, by decide +kernel⟩, by decide⟩
theorem c_X5_takesRounds {res : (Int32 × Mem)} {x1 : Int32} {M : Mem} (hf : f_X5_takesRounds x1 M = some res) : Ct yX5_takesRounds cX5_takesRounds 5 (some .boolean) 2 (fun ad => [.ref (ad 68), .int x1]) M (some (.int res.1)) res.2 :=
  Ct.of (by decide +kernel) (fun _ => Nat.le_of_ble_eq_true rfl) (fun X ad C Rt => w_X5_takesRounds_E C Rt x1 M hf)
set_option maxRecDepth 100000 in
set_option maxHeartbeats 4000000 in
theorem w_X5_takesOpening_E {X : Gc} {ad : Nat → Nat} {res : (Int32 × Mem)} (C : Gk X ad cX5_takesOpening "NineTongues$Route" 1 1) (Rt : Gr X ad (some .boolean) (some (.int res.1)) res.2) (M : Mem) (hf : f_X5_takesOpening M = some res) : G X ad 0 1 [(0, .ref (ad 68))] [] M := by
  unfold f_X5_takesOpening at hf
  refine G.aload_n (pl := 0) C dX5_takesOpening_0 rfl rfl ?_
  refine gf5_3 C o_68 k1_207 dX5_takesOpening_1 ?_
  refine G.iconst (v := 4) C dX5_takesOpening_4 (by decide) ?_
  refine G.icmp_lt (tgt := 10) C dX5_takesOpening_5 (by decide) (fun hc1 => ?_) (fun hc1 => ?_)
  · replace hf := gIf hf hc1
    refine G.aload_n (pl := 0) C dX5_takesOpening_10 rfl rfl ?_
    refine gf5_4 C o_68 k1_208 dX5_takesOpening_11 ?_
    refine G.aload_n (pl := 0) C dX5_takesOpening_14 rfl rfl ?_
    refine gf5_3 C o_68 k1_207 dX5_takesOpening_15 ?_
    refine G.aload_n (pl := 0) C dX5_takesOpening_18 rfl rfl ?_
    refine gf5_1 C o_68 k1_204 dX5_takesOpening_19 ?_
    obtain ⟨hi1, hf⟩ := ck_some hf
    obtain ⟨M1, eM1, hf⟩ := stm_some hf
    refine G.iast C a_69 hi1 eM1 dX5_takesOpening_22 ?_
    refine G.aload_n (pl := 0) C dX5_takesOpening_23 rfl rfl ?_
    refine G.dup C dX5_takesOpening_24 rfl ?_
    refine gf5_3 C o_68 k1_207 dX5_takesOpening_25 ?_
    refine G.iconst (v := 1) C dX5_takesOpening_28 (by decide) ?_
    refine G.iadd C dX5_takesOpening_29 ?_
    obtain ⟨M2, eM2, hf⟩ := stm_some hf
    refine gp5_3 C o_68 k1_207 eM2 dX5_takesOpening_30 ?_
    refine G.aload_n (pl := 0) C dX5_takesOpening_33 rfl rfl ?_
    refine G.iconst (v := 0) C dX5_takesOpening_34 (by decide) ?_
    obtain ⟨M3, eM3, hf⟩ := stm_some hf
    refine gp5_2 C o_68 k1_206 eM3 dX5_takesOpening_35 ?_
    refine G.iconst (v := 1) C dX5_takesOpening_38 (by decide) ?_
    cases hf
    exact G.zret C rfl Rt dX5_takesOpening_39
  · replace hf := gIfn hf hc1
    refine G.iconst (v := 0) C dX5_takesOpening_8 (by decide) ?_
    cases hf
    exact G.zret C rfl Rt dX5_takesOpening_9
theorem mv_X5_takesOpening : gMV yX5_takesOpening cX5_takesOpening 1 (some .boolean) 0 := ⟨k2_202, kS_6, k1_9, k2_203, ⟨by decide +kernel, by decide +kernel, by decide +kernel⟩, by decide⟩
theorem c_X5_takesOpening {res : (Int32 × Mem)} {M : Mem} (hf : f_X5_takesOpening M = some res) : Ct yX5_takesOpening cX5_takesOpening 1 (some .boolean) 1 (fun ad => [.ref (ad 68)]) M (some (.int res.1)) res.2 :=
  Ct.of (by decide +kernel) (fun _ => Nat.le_of_ble_eq_true rfl) (fun X ad C Rt => w_X5_takesOpening_E C Rt M hf)
set_option maxRecDepth 100000 in
set_option maxHeartbeats 4000000 in
theorem w_X5_takesClosing_E {X : Gc} {ad : Nat → Nat} {res : (Int32 × Mem)} (C : Gk X ad cX5_takesClosing "NineTongues$Route" 1 1) (Rt : Gr X ad (some .boolean) (some (.int res.1)) res.2) (M : Mem) (hf : f_X5_takesClosing M = some res) : G X ad 0 1 [(0, .ref (ad 68))] [] M := by
  unfold f_X5_takesClosing at hf
  refine G.aload_n (pl := 0) C dX5_takesClosing_0 rfl rfl ?_
  refine gf5_3 C o_68 k1_207 dX5_takesClosing_1 ?_
  refine G.if_eq (tgt := 14) C dX5_takesClosing_4 (by decide) (fun hc1 => ?_) (fun hc1 => ?_)
  · replace hf := gIf hf hc1
    refine G.iconst (v := 0) C dX5_takesClosing_14 (by decide) ?_
    cases hf
    exact G.zret C rfl Rt dX5_takesClosing_15
  · replace hf := gIfn hf hc1
    refine G.aload_n (pl := 0) C dX5_takesClosing_7 rfl rfl ?_
    refine gf5_2 C o_68 k1_206 dX5_takesClosing_8 ?_
    refine G.if_ne (tgt := 16) C dX5_takesClosing_11 (by decide) (fun hc2 => ?_) (fun hc2 => ?_)
    · replace hf := gIfn hf hc2
      refine G.aload_n (pl := 0) C dX5_takesClosing_16 rfl rfl ?_
      refine G.iconst (v := 3) C dX5_takesClosing_17 (by decide) ?_
      obtain ⟨M1, eM1, hf⟩ := stm_some hf
      refine gp5_2 C o_68 k1_206 eM1 dX5_takesClosing_18 ?_
      refine G.iconst (v := 1) C dX5_takesClosing_21 (by decide) ?_
      cases hf
      exact G.zret C rfl Rt dX5_takesClosing_22
    · replace hf := gIf hf hc2
      refine G.iconst (v := 0) C dX5_takesClosing_14 (by decide) ?_
      cases hf
      exact G.zret C rfl Rt dX5_takesClosing_15
theorem mv_X5_takesClosing : gMV yX5_takesClosing cX5_takesClosing 1 (some .boolean) 0 := ⟨k2_206, kS_7, k1_9, k2_207, ⟨by decide +kernel, by decide +kernel, by decide +kernel⟩, by decide⟩
theorem c_X5_takesClosing {res : (Int32 × Mem)} {M : Mem} (hf : f_X5_takesClosing M = some res) : Ct yX5_takesClosing cX5_takesClosing 1 (some .boolean) 1 (fun ad => [.ref (ad 68)]) M (some (.int res.1)) res.2 :=
  Ct.of (by decide +kernel) (fun _ => Nat.le_of_ble_eq_true rfl) (fun X ad C Rt => w_X5_takesClosing_E C Rt M hf)
set_option maxRecDepth 100000 in
set_option maxHeartbeats 4000000 in
theorem w_X9_isKind_E {X : Gc} {ad : Nat → Nat} {res : Int32} {M : Mem} (C : Gk X ad cX9_isKind "NineTongues" 1 2) (Rt : Gr X ad (some .boolean) (some (.int res)) M) (x0 : Int32) (hf : f_X9_isKind x0 M = some res) : G X ad 0 1 [(0, .int x0)] [] M := by
  unfold f_X9_isKind at hf
  refine G.iload_n (pl := 0) C dX9_isKind_0 rfl rfl ?_
  refine G.iconst (v := 0) C dX9_isKind_1 (by decide) ?_
  refine G.iconst (v := 5) C dX9_isKind_2 (by decide) ?_
  obtain ⟨v1, hr1, hf⟩ := cp_some hf
  refine G.callS (st1 := [.int v1]) C [.int x0, .int (0 : Int32), .int (5 : Int32)] [] (c_X9_isIn hr1) mv_X9_isIn k2_85 rfl rfl rfl (Nat.le_of_ble_eq_true rfl) (by decide) dX9_isKind_3 rfl ?_
  obtain ⟨hz, hf⟩ := rz_some hf
  cases hf
  exact G.zret C hz Rt dX9_isKind_6
theorem mv_X9_isKind : gMS yX9_isKind cX9_isKind 1 (some .boolean) 1 := ⟨k2_139, k1_1, k2_140, ⟨by decide +kernel, by decide +kernel, by decide +kernel⟩, by decide⟩
theorem c_X9_isKind {res : Int32} {x0 : Int32} {M : Mem} (hf : f_X9_isKind x0 M = some res) : Ct yX9_isKind cX9_isKind 1 (some .boolean) 2 (fun ad => [.int x0]) M (some (.int res)) M :=
  Ct.of (by decide +kernel) (fun _ => Nat.le_of_ble_eq_true rfl) (fun X ad C Rt => w_X9_isKind_E C Rt x0 hf)
set_option maxRecDepth 100000 in
set_option maxHeartbeats 4000000 in
theorem w_X5_takesKind_43 {X : Gc} {ad : Nat → Nat} {res : (Int32 × Mem)} (C : Gk X ad cX5_takesKind "NineTongues$Route" 2 3) (Rt : Gr X ad (some .boolean) (some (.int res.1)) res.2) (M : Mem) (hf : f_X5_takesKind_43 M = some res) : G X ad 43 2 [(0, .ref (ad 68))] [] M := by
  unfold f_X5_takesKind_43 at hf
  refine G.aload_n (pl := 0) C dX5_takesKind_43 rfl rfl ?_
  refine G.iconst (v := 2) C dX5_takesKind_44 (by decide) ?_
  obtain ⟨M1, eM1, hf⟩ := stm_some hf
  refine gp5_2 C o_68 k1_206 eM1 dX5_takesKind_45 ?_
  refine G.iconst (v := 1) C dX5_takesKind_48 (by decide) ?_
  cases hf
  exact G.zret C rfl Rt dX5_takesKind_49
set_option maxRecDepth 100000 in
set_option maxHeartbeats 4000000 in
theorem w_X5_takesKind_E {X : Gc} {ad : Nat → Nat} {res : (Int32 × Mem)} (C : Gk X ad cX5_takesKind "NineTongues$Route" 2 3) (Rt : Gr X ad (some .boolean) (some (.int res.1)) res.2) (x1 : Int32) (M : Mem) (hf : f_X5_takesKind x1 M = some res) : G X ad 0 2 [(0, .ref (ad 68)), (1, .int x1)] [] M := by
  unfold f_X5_takesKind at hf
  refine G.aload_n (pl := 0) C dX5_takesKind_0 rfl rfl ?_
  refine gf5_2 C o_68 k1_206 dX5_takesKind_1 ?_
  refine G.iconst (v := 1) C dX5_takesKind_4 (by decide) ?_
  refine G.icmp_ne (tgt := 15) C dX5_takesKind_5 (by decide) (fun hc1 => ?_) (fun hc1 => ?_)
  · replace hf := gIfn hf hc1
    refine G.iconst (v := 0) C dX5_takesKind_15 (by decide) ?_
    cases hf
    exact G.zret C rfl Rt dX5_takesKind_16
  · replace hf := gIf hf hc1
    refine G.iload_n (pl := 1) C dX5_takesKind_8 rfl rfl ?_
    obtain ⟨v1, hr1, hf⟩ := cp_some hf
    refine G.callN (st1 := [.int v1]) C [.int x1] [] (c_X9_isKind hr1) mv_X9_isKind (List.mem_of_getElem? (i := 2) rfl) rfl rfl rfl (Nat.le_of_ble_eq_true rfl) (by decide) dX5_takesKind_9 rfl ?_
    refine G.if_ne (tgt := 17) C dX5_takesKind_12 (by decide) (fun hc2 => ?_) (fun hc2 => ?_)
    · replace hf := gIfn hf hc2
      refine G.aload_n (pl := 0) C dX5_takesKind_17 rfl rfl ?_
      refine gf5_1 C o_68 k1_204 dX5_takesKind_18 ?_
      refine G.iconst (v := 1) C dX5_takesKind_21 (by decide) ?_
      refine G.sipush (v := 200) C dX5_takesKind_22 (by decide) ?_
      obtain ⟨v2, hr2, hf⟩ := cp_some hf
      refine G.callN (st1 := [.int v2]) C [.int (M.1 68 1), .int (1 : Int32), .int (200 : Int32)] [] (c_X9_isIn hr2) mv_X9_isIn (List.mem_of_getElem? (i := 1) rfl) rfl rfl rfl (Nat.le_of_ble_eq_true rfl) (by decide) dX5_takesKind_25 rfl ?_
      refine G.if_eq (tgt := 43) C dX5_takesKind_28 (by decide) (fun hc3 => ?_) (fun hc3 => ?_)
      · replace hf := gIf hf hc3
        refine G.sub (lv' := [(0, .ref (ad 68))]) [0] rfl ?_
        exact w_X5_takesKind_43 C Rt M hf
      · replace hf := gIfn hf hc3
        refine G.aload_n (pl := 0) C dX5_takesKind_31 rfl rfl ?_
        refine gf5_6 C o_68 k1_210 dX5_takesKind_32 ?_
        refine G.aload_n (pl := 0) C dX5_takesKind_35 rfl rfl ?_
        refine gf5_1 C o_68 k1_204 dX5_takesKind_36 ?_
        refine G.iconst (v := 1) C dX5_takesKind_39 (by decide) ?_
        refine G.isub C dX5_takesKind_40 ?_
        refine G.iload_n (pl := 1) C dX5_takesKind_41 rfl rfl ?_
        obtain ⟨hi1, hf⟩ := ck_some hf
        obtain ⟨M1, eM1, hf⟩ := stm_some hf
        refine G.iast C a_71 hi1 eM1 dX5_takesKind_42 ?_
        refine G.sub (lv' := [(0, .ref (ad 68))]) [0] rfl ?_
        exact w_X5_takesKind_43 C Rt M1 hf
    · replace hf := gIf hf hc2
      refine G.iconst (v := 0) C dX5_takesKind_15 (by decide) ?_
      cases hf
      exact G.zret C rfl Rt dX5_takesKind_16
theorem mv_X5_takesKind : gMV yX5_takesKind cX5_takesKind 2 (some .boolean) 1 := ⟨k2_210, kS_8, k1_9, k2_211, ⟨by decide +kernel, by decide +kernel, by decide +kernel⟩, by decide⟩
theorem c_X5_takesKind {res : (Int32 × Mem)} {x1 : Int32} {M : Mem} (hf : f_X5_takesKind x1 M = some res) : Ct yX5_takesKind cX5_takesKind 2 (some .boolean) 3 (fun ad => [.ref (ad 68), .int x1]) M (some (.int res.1)) res.2 :=
  Ct.of (by decide +kernel) (fun _ => Nat.le_of_ble_eq_true rfl) (fun X ad C Rt => w_X5_takesKind_E C Rt x1 M hf)
set_option maxRecDepth 100000 in
set_option maxHeartbeats 4000000 in
theorem w_X5_takesLetter_E {X : Gc} {ad : Nat → Nat} {res : (Int32 × Mem)} (C : Gk X ad cX5_takesLetter "NineTongues$Route" 3 4) (Rt : Gr X ad (some .boolean) (some (.int res.1)) res.2) (x1 : Int32) (M : Mem) (hf : f_X5_takesLetter x1 M = some res) : G X ad 0 3 [(0, .ref (ad 68)), (1, .int x1), (2, .ref (ad 6))] [] M := by
  unfold f_X5_takesLetter at hf
  refine G.aload_n (pl := 2) C dX5_takesLetter_0 rfl rfl ?_
  refine G.iload_n (pl := 1) C dX5_takesLetter_1 rfl rfl ?_
  obtain ⟨v1, hr1, hf⟩ := cp_some hf
  refine G.callV (st1 := [.int v1]) C [.int x1] [] (c_X1_hasWords hr1) mv_X1_hasWords k2_217 o_6.1 (fun _ => gShp_11 o_6) rfl rfl rfl rfl rfl (Nat.le_of_ble_eq_true rfl) (by decide) dX5_takesLetter_2 rfl ?_
  refine G.if_ne (tgt := 10) C dX5_takesLetter_5 (by decide) (fun hc1 => ?_) (fun hc1 => ?_)
  · replace hf := gIfn hf hc1
    refine G.aload_n (pl := 0) C dX5_takesLetter_10 rfl rfl ?_
    refine G.iload_n (pl := 1) C dX5_takesLetter_11 rfl rfl ?_
    refine G.iconst (v := 0) C dX5_takesLetter_12 (by decide) ?_
    obtain ⟨u, M1, hr2, hf⟩ := cl_some hf
    refine G.callV (st1 := []) C [.int x1, .int (0 : Int32)] [] (c_X5_addStep hr2) mv_X5_addStep k2_193 o_68.1 (fun _ => gShp_15 o_68) rfl rfl rfl rfl rfl (Nat.le_of_ble_eq_true rfl) (by decide) dX5_takesLetter_13 rfl ?_
    refine G.aload_n (pl := 0) C dX5_takesLetter_16 rfl rfl ?_
    refine G.iconst (v := 1) C dX5_takesLetter_17 (by decide) ?_
    obtain ⟨M2, eM1, hf⟩ := stm_some hf
    refine gp5_2 C o_68 k1_206 eM1 dX5_takesLetter_18 ?_
    refine G.iconst (v := 1) C dX5_takesLetter_21 (by decide) ?_
    cases hf
    exact G.zret C rfl Rt dX5_takesLetter_22
  · replace hf := gIf hf hc1
    refine G.iconst (v := 0) C dX5_takesLetter_8 (by decide) ?_
    cases hf
    exact G.zret C rfl Rt dX5_takesLetter_9
theorem mv_X5_takesLetter : gMV yX5_takesLetter cX5_takesLetter 3 (some .boolean) 2 := ⟨k2_215, kS_9, k1_9, k2_216, ⟨by decide +kernel, by decide +kernel, by decide +kernel⟩, by decide⟩
theorem c_X5_takesLetter {res : (Int32 × Mem)} {x1 : Int32} {M : Mem} (hf : f_X5_takesLetter x1 M = some res) : Ct yX5_takesLetter cX5_takesLetter 3 (some .boolean) 4 (fun ad => [.ref (ad 68), .int x1, .ref (ad 6)]) M (some (.int res.1)) res.2 :=
  Ct.of (by decide +kernel) (fun _ => Nat.le_of_ble_eq_true rfl) (fun X ad C Rt => w_X5_takesLetter_E C Rt x1 M hf)
set_option maxRecDepth 100000 in
set_option maxHeartbeats 4000000 in
theorem w_X5_takes_E {X : Gc} {ad : Nat → Nat} {res : (Int32 × Mem)} (C : Gk X ad cX5_takes "NineTongues$Route" 3 5) (Rt : Gr X ad (some .boolean) (some (.int res.1)) res.2) (x1 : Int32) (M : Mem) (hf : f_X5_takes x1 M = some res) : G X ad 0 3 [(0, .ref (ad 68)), (1, .int x1), (2, .ref (ad 6))] [] M := by
  unfold f_X5_takes at hf
  refine G.aload_n (pl := 0) C dX5_takes_0 rfl rfl ?_
  refine gf5_2 C o_68 k1_206 dX5_takes_1 ?_
  refine G.iconst (v := 3) C dX5_takes_4 (by decide) ?_
  refine G.icmp_ne (tgt := 14) C dX5_takes_5 (by decide) (fun hc1 => ?_) (fun hc1 => ?_)
  · replace hf := gIfn hf hc1
    refine G.iload_n (pl := 1) C dX5_takes_14 rfl rfl ?_
    refine G.bipush (v := 40) C dX5_takes_15 (by decide) ?_
    refine G.icmp_ne (tgt := 25) C dX5_takes_17 (by decide) (fun hc2 => ?_) (fun hc2 => ?_)
    · replace hf := gIfn hf hc2
      refine G.iload_n (pl := 1) C dX5_takes_25 rfl rfl ?_
      refine G.bipush (v := 41) C dX5_takes_26 (by decide) ?_
      refine G.icmp_ne (tgt := 36) C dX5_takes_28 (by decide) (fun hc3 => ?_) (fun hc3 => ?_)
      · replace hf := gIfn hf hc3
        refine G.iload_n (pl := 1) C dX5_takes_36 rfl rfl ?_
        refine G.bipush (v := 48) C dX5_takes_37 (by decide) ?_
        refine G.bipush (v := 57) C dX5_takes_39 (by decide) ?_
        obtain ⟨v1, hr1, hf⟩ := cp_some hf
        refine G.callN (st1 := [.int v1]) C [.int x1, .int (48 : Int32), .int (57 : Int32)] [] (c_X9_isIn hr1) mv_X9_isIn (List.mem_of_getElem? (i := 1) rfl) rfl rfl rfl (Nat.le_of_ble_eq_true rfl) (by decide) dX5_takes_41 rfl ?_
        refine G.if_eq (tgt := 58) C dX5_takes_44 (by decide) (fun hc4 => ?_) (fun hc4 => ?_)
        · replace hf := gIf hf hc4
          refine G.aload_n (pl := 0) C dX5_takes_58 rfl rfl ?_
          refine G.iload_n (pl := 1) C dX5_takes_59 rfl rfl ?_
          refine G.bipush (v := 97) C dX5_takes_60 (by decide) ?_
          refine G.isub C dX5_takes_62 ?_
          refine G.aload_n (pl := 2) C dX5_takes_63 rfl rfl ?_
          obtain ⟨v2, M1, hr2, hf⟩ := cl_some hf
          refine G.callV (st1 := [.int v2]) C [.int (x1 - (97 : Int32)), .ref (ad 6)] [] (c_X5_takesLetter hr2) mv_X5_takesLetter k2_213 o_68.1 (fun _ => gShp_15 o_68) rfl rfl rfl rfl rfl (Nat.le_of_ble_eq_true rfl) (by decide) dX5_takes_64 rfl ?_
          obtain ⟨hz, hf⟩ := rz_some hf
          cases hf
          exact G.zret C hz Rt dX5_takes_67
        · replace hf := gIfn hf hc4
          refine G.aload_n (pl := 0) C dX5_takes_47 rfl rfl ?_
          refine G.iload_n (pl := 1) C dX5_takes_48 rfl rfl ?_
          refine G.bipush (v := 48) C dX5_takes_49 (by decide) ?_
          refine G.isub C dX5_takes_51 ?_
          obtain ⟨v3, M2, hr3, hf⟩ := cl_some hf
          refine G.callV (st1 := [.int v3]) C [.int (x1 - (48 : Int32))] [] (c_X5_takesKind hr3) mv_X5_takesKind k2_208 o_68.1 (fun _ => gShp_15 o_68) rfl rfl rfl rfl rfl (Nat.le_of_ble_eq_true rfl) (by decide) dX5_takes_52 rfl ?_
          refine G.goto (tgt := 67) C dX5_takes_55 (by decide) ?_
          obtain ⟨hz, hf⟩ := rz_some hf
          cases hf
          exact G.zret C hz Rt dX5_takes_67
      · replace hf := gIf hf hc3
        refine G.aload_n (pl := 0) C dX5_takes_31 rfl rfl ?_
        obtain ⟨v4, M3, hr4, hf⟩ := cl_some hf
        refine G.callV (st1 := [.int v4]) C [] [] (c_X5_takesClosing hr4) mv_X5_takesClosing k2_204 o_68.1 (fun _ => gShp_15 o_68) rfl rfl rfl rfl rfl (Nat.le_of_ble_eq_true rfl) (by decide) dX5_takes_32 rfl ?_
        obtain ⟨hz, hf⟩ := rz_some hf
        cases hf
        exact G.zret C hz Rt dX5_takes_35
    · replace hf := gIf hf hc2
      refine G.aload_n (pl := 0) C dX5_takes_20 rfl rfl ?_
      obtain ⟨v5, M4, hr5, hf⟩ := cl_some hf
      refine G.callV (st1 := [.int v5]) C [] [] (c_X5_takesOpening hr5) mv_X5_takesOpening k2_200 o_68.1 (fun _ => gShp_15 o_68) rfl rfl rfl rfl rfl (Nat.le_of_ble_eq_true rfl) (by decide) dX5_takes_21 rfl ?_
      obtain ⟨hz, hf⟩ := rz_some hf
      cases hf
      exact G.zret C hz Rt dX5_takes_24
  · replace hf := gIf hf hc1
    refine G.aload_n (pl := 0) C dX5_takes_8 rfl rfl ?_
    refine G.iload_n (pl := 1) C dX5_takes_9 rfl rfl ?_
    obtain ⟨v6, M5, hr6, hf⟩ := cl_some hf
    refine G.callV (st1 := [.int v6]) C [.int x1] [] (c_X5_takesRounds hr6) mv_X5_takesRounds k2_188 o_68.1 (fun _ => gShp_15 o_68) rfl rfl rfl rfl rfl (Nat.le_of_ble_eq_true rfl) (by decide) dX5_takes_10 rfl ?_
    obtain ⟨hz, hf⟩ := rz_some hf
    cases hf
    exact G.zret C hz Rt dX5_takes_13
theorem mv_X5_takes : gMV yX5_takes cX5_takes 3 (some .boolean) 2 := ⟨k2_186, kS_3, k1_9, k2_187, ⟨by decide +kernel, by decide +kernel, by decide +kernel⟩, by decide⟩
theorem c_X5_takes {res : (Int32 × Mem)} {x1 : Int32} {M : Mem} (hf : f_X5_takes x1 M = some res) : Ct yX5_takes cX5_takes 3 (some .boolean) 5 (fun ad => [.ref (ad 68), .int x1, .ref (ad 6)]) M (some (.int res.1)) res.2 :=
  Ct.of (by decide +kernel) (fun _ => Nat.le_of_ble_eq_true rfl) (fun X ad C Rt => w_X5_takes_E C Rt x1 M hf)
set_option maxRecDepth 100000 in
set_option maxHeartbeats 4000000 in
theorem w_X5_read_89 {X : Gc} {ad : Nat → Nat} {res : (Unit × Mem)} (C : Gk X ad cX5_read "NineTongues$Route" 5 6) (Rt : Gr X ad none none res.2) (M : Mem) (hf : f_X5_read_89 M = some res) : G X ad 89 5 [(0, .ref (ad 68)), (1, .ref (ad 18))] [] M := by
  unfold f_X5_read_89 at hf
  refine G.aload_n (pl := 0) C dX5_read_89 rfl rfl ?_
  refine G.aload_n (pl := 1) C dX5_read_90 rfl rfl ?_
  refine gf3_0 C o_18 k1_122 dX5_read_91 ?_
  obtain ⟨M1, eM1, hf⟩ := stm_some hf
  refine gp5_0 C o_68 k1_202 eM1 dX5_read_94 ?_
  cases hf
  exact G.vret C Rt dX5_read_97
set_option maxRecDepth 100000 in
set_option maxHeartbeats 4000000 in
theorem w_X5_read_61 {X : Gc} {ad : Nat → Nat} {res : (Unit × Mem)} {r_22 : Int32 → Mem → Option (Unit × Mem)} (C : Gk X ad cX5_read "NineTongues$Route" 5 6) (Rt : Gr X ad none none res.2) (x3 : Int32) (M : Mem) (h_22 : ∀ (x3 : Int32) (M : Mem), r_22 x3 M = some res → G X ad 22 5 [(0, .ref (ad 68)), (1, .ref (ad 18)), (2, .ref (ad 6)), (3, .int x3)] [] M) (hf : f_X5_read_61 r_22 x3 M = some res) : G X ad 61 5 [(0, .ref (ad 68)), (1, .ref (ad 18)), (2, .ref (ad 6)), (3, .int x3)] [] M := by
  unfold f_X5_read_61 at hf
  refine G.iinc (pl := 3) (v := (x3 + 1)) (lv' := [(3, .int (x3 + 1)), (0, .ref (ad 68)), (1, .ref (ad 18)), (2, .ref (ad 6))]) C dX5_read_61 rfl rfl (by decide) rfl ?_
  refine G.goto (tgt := 22) C dX5_read_64 (by decide) ?_
  refine G.sub (lv' := [(0, .ref (ad 68)), (1, .ref (ad 18)), (2, .ref (ad 6)), (3, .int (x3 + 1))]) [1, 2, 3, 0] rfl ?_
  exact h_22 (x3 + 1) M hf
set_option maxRecDepth 100000 in
set_option maxHeartbeats 4000000 in
theorem w_X5_read_22_b {X : Gc} {ad : Nat → Nat} {res : (Unit × Mem)} {r_22 : Int32 → Mem → Option (Unit × Mem)} (C : Gk X ad cX5_read "NineTongues$Route" 5 6) (Rt : Gr X ad none none res.2) (h_22 : ∀ (x3 : Int32) (M : Mem), r_22 x3 M = some res → G X ad 22 5 [(0, .ref (ad 68)), (1, .ref (ad 18)), (2, .ref (ad 6)), (3, .int x3)] [] M) (x3 : Int32) (M : Mem) (hf : f_X5_read_22_b r_22 x3 M = some res) : G X ad 22 5 [(0, .ref (ad 68)), (1, .ref (ad 18)), (2, .ref (ad 6)), (3, .int x3)] [] M := by
  unfold f_X5_read_22_b at hf
  refine G.iload_n (pl := 3) C dX5_read_22 rfl rfl ?_
  refine G.aload_n (pl := 1) C dX5_read_23 rfl rfl ?_
  refine gf3_0 C o_18 k1_122 dX5_read_24 ?_
  refine G.icmp_ge (tgt := 67) C dX5_read_27 (by decide) (fun hc1 => ?_) (fun hc1 => ?_)
  · replace hf := gIf hf hc1
    refine G.aload_n (pl := 0) C dX5_read_67 rfl rfl ?_
    refine gf5_3 C o_68 k1_207 dX5_read_68 ?_
    refine G.if_gt (tgt := 89) C dX5_read_71 (by decide) (fun hc2 => ?_) (fun hc2 => ?_)
    · replace hf := gIf hf hc2
      refine G.sub (lv' := [(0, .ref (ad 68)), (1, .ref (ad 18))]) [0, 1] rfl ?_
      exact w_X5_read_89 C Rt M hf
    · replace hf := gIfn hf hc2
      refine G.aload_n (pl := 0) C dX5_read_74 rfl rfl ?_
      refine gf5_2 C o_68 k1_206 dX5_read_75 ?_
      refine G.if_eq (tgt := 89) C dX5_read_78 (by decide) (fun hc3 => ?_) (fun hc3 => ?_)
      · replace hf := gIf hf hc3
        refine G.sub (lv' := [(0, .ref (ad 68)), (1, .ref (ad 18))]) [0, 1] rfl ?_
        exact w_X5_read_89 C Rt M hf
      · replace hf := gIfn hf hc3
        refine G.aload_n (pl := 0) C dX5_read_81 rfl rfl ?_
        refine gf5_2 C o_68 k1_206 dX5_read_82 ?_
        refine G.iconst (v := 3) C dX5_read_85 (by decide) ?_
        refine G.icmp_ne (tgt := 97) C dX5_read_86 (by decide) (fun hc4 => ?_) (fun hc4 => ?_)
        · replace hf := gIfn hf hc4
          cases hf
          exact G.vret C Rt dX5_read_97
        · replace hf := gIf hf hc4
          refine G.sub (lv' := [(0, .ref (ad 68)), (1, .ref (ad 18))]) [0, 1] rfl ?_
          exact w_X5_read_89 C Rt M hf
  · replace hf := gIfn hf hc1
    refine G.aload_n (pl := 1) C dX5_read_30 rfl rfl ?_
    refine gf3_1 C o_18 k1_126 dX5_read_31 ?_
    refine G.iload_n (pl := 3) C dX5_read_34 rfl rfl ?_
    obtain ⟨v1, ev1, hi1, hf⟩ := rd_some hf
    refine G.iald C a_19 hi1 ev1 dX5_read_35 ?_
    refine G.istore (lv' := [(4, .int v1), (0, .ref (ad 68)), (1, .ref (ad 18)), (2, .ref (ad 6)), (3, .int x3)]) C dX5_read_36 (by decide) rfl ?_
    refine G.iload (pl := 0) C dX5_read_38 rfl ?_
    refine G.bipush (v := 32) C dX5_read_40 (by decide) ?_
    refine G.icmp_eq (tgt := 61) C dX5_read_42 (by decide) (fun hc5 => ?_) (fun hc5 => ?_)
    · replace hf := gIf hf hc5
      refine G.sub (lv' := [(0, .ref (ad 68)), (1, .ref (ad 18)), (2, .ref (ad 6)), (3, .int x3)]) [1, 2, 3, 4] rfl ?_
      exact w_X5_read_61 C Rt x3 M h_22 hf
    · replace hf := gIfn hf hc5
      refine G.aload_n (pl := 1) C dX5_read_45 rfl rfl ?_
      refine G.iload (pl := 0) C dX5_read_46 rfl ?_
      refine G.aload_n (pl := 3) C dX5_read_48 rfl rfl ?_
      obtain ⟨v2, M1, hr1, hf⟩ := cl_some hf
      refine G.callV (st1 := [.int v2]) C [.int v1, .ref (ad 6)] [] (c_X5_takes hr1) mv_X5_takes k2_184 o_68.1 (fun _ => gShp_15 o_68) rfl rfl rfl rfl rfl (Nat.le_of_ble_eq_true rfl) (by decide) dX5_read_49 rfl ?_
      refine G.if_ne (tgt := 61) C dX5_read_52 (by decide) (fun hc6 => ?_) (fun hc6 => ?_)
      · replace hf := gIfn hf hc6
        refine G.sub (lv' := [(0, .ref (ad 68)), (1, .ref (ad 18)), (2, .ref (ad 6)), (3, .int x3)]) [1, 2, 3, 4] rfl ?_
        exact w_X5_read_61 C Rt x3 M1 h_22 hf
      · replace hf := gIf hf hc6
        refine G.aload_n (pl := 1) C dX5_read_55 rfl rfl ?_
        refine G.iload_n (pl := 4) C dX5_read_56 rfl rfl ?_
        obtain ⟨M2, eM1, hf⟩ := stm_some hf
        refine gp5_0 C o_68 k1_202 eM1 dX5_read_57 ?_
        cases hf
        exact G.vret C Rt dX5_read_60
theorem w_X5_read_22 {X : Gc} {ad : Nat → Nat} {res : (Unit × Mem)} (C : Gk X ad cX5_read "NineTongues$Route" 5 6) (Rt : Gr X ad none none res.2) : ∀ (n : Nat) (x3 : Int32) (M : Mem), f_X5_read_22 n x3 M = some res → G X ad 22 5 [(0, .ref (ad 68)), (1, .ref (ad 18)), (2, .ref (ad 6)), (3, .int x3)] [] M := by
  intro n
  induction n with
  | zero => intro x3 M hf; exact absurd (show (none : Option (Unit × Mem)) = some res from hf) (fun h => nomatch h)
  | succ n ih => intro x3 M hf; exact w_X5_read_22_b C Rt ih x3 M hf
set_option maxRecDepth 100000 in
set_option maxHeartbeats 4000000 in
theorem w_X5_read_E {X : Gc} {ad : Nat → Nat} {res : (Unit × Mem)} (C : Gk X ad cX5_read "NineTongues$Route" 5 6) (Rt : Gr X ad none none res.2) (M : Mem) (hf : f_X5_read M = some res) : G X ad 0 5 [(0, .ref (ad 68)), (1, .ref (ad 18)), (2, .ref (ad 6))] [] M := by
  unfold f_X5_read at hf
  refine G.aload_n (pl := 0) C dX5_read_0 rfl rfl ?_
  refine G.iconst (v := 0) C dX5_read_1 (by decide) ?_
  obtain ⟨M1, eM1, hf⟩ := stm_some hf
  refine gp5_1 C o_68 k1_204 eM1 dX5_read_2 ?_
  refine G.aload_n (pl := 0) C dX5_read_5 rfl rfl ?_
  refine G.iconst (v := 0) C dX5_read_6 (by decide) ?_
  obtain ⟨M2, eM2, hf⟩ := stm_some hf
  refine gp5_3 C o_68 k1_207 eM2 dX5_read_7 ?_
  refine G.aload_n (pl := 0) C dX5_read_10 rfl rfl ?_
  refine G.iconst (v := 0) C dX5_read_11 (by decide) ?_
  obtain ⟨M3, eM3, hf⟩ := stm_some hf
  refine gp5_2 C o_68 k1_206 eM3 dX5_read_12 ?_
  refine G.aload_n (pl := 0) C dX5_read_15 rfl rfl ?_
  refine G.iconst (v := (-1)) C dX5_read_16 (by decide) ?_
  obtain ⟨M4, eM4, hf⟩ := stm_some hf
  refine gp5_0 C o_68 k1_202 eM4 dX5_read_17 ?_
  refine G.iconst (v := 0) C dX5_read_20 (by decide) ?_
  refine G.istore_n (lv' := [(3, .int (0 : Int32)), (0, .ref (ad 68)), (1, .ref (ad 18)), (2, .ref (ad 6))]) C dX5_read_21 rfl (by decide) rfl ?_
  refine G.sub (lv' := [(0, .ref (ad 68)), (1, .ref (ad 18)), (2, .ref (ad 6)), (3, .int (0 : Int32))]) [1, 2, 3, 0] rfl ?_
  exact w_X5_read_22 C Rt FU (0 : Int32) M4 hf
theorem mv_X5_read : gMV yX5_read cX5_read 5 none 2 := ⟨k2_181, k2_182, k1_9, k2_183, ⟨by decide +kernel, by decide +kernel, by decide +kernel⟩, by decide⟩
theorem c_X5_read {res : (Unit × Mem)} {M : Mem} (hf : f_X5_read M = some res) : Ct yX5_read cX5_read 5 none 6 (fun ad => [.ref (ad 68), .ref (ad 18), .ref (ad 6)]) M none res.2 :=
  Ct.of (by decide +kernel) (fun _ => Nat.le_of_ble_eq_true rfl) (fun X ad C Rt => w_X5_read_E C Rt M hf)
set_option maxRecDepth 100000 in
set_option maxHeartbeats 4000000 in
theorem w_X5_canBeGone_E {X : Gc} {ad : Nat → Nat} {res : Int32} {M : Mem} (C : Gk X ad cX5_canBeGone "NineTongues$Route" 1 1) (Rt : Gr X ad (some .boolean) (some (.int res)) M) (hf : f_X5_canBeGone M = some res) : G X ad 0 1 [(0, .ref (ad 68))] [] M := by
  unfold f_X5_canBeGone at hf
  refine G.aload_n (pl := 0) C dX5_canBeGone_0 rfl rfl ?_
  refine gf5_0 C o_68 k1_202 dX5_canBeGone_1 ?_
  refine G.iconst (v := (-1)) C dX5_canBeGone_4 (by decide) ?_
  refine G.icmp_ne (tgt := 22) C dX5_canBeGone_5 (by decide) (fun hc1 => ?_) (fun hc1 => ?_)
  · replace hf := gIfn hf hc1
    refine G.iconst (v := 0) C dX5_canBeGone_22 (by decide) ?_
    cases hf
    exact G.zret C rfl Rt dX5_canBeGone_23
  · replace hf := gIf hf hc1
    refine G.aload_n (pl := 0) C dX5_canBeGone_8 rfl rfl ?_
    refine gf5_1 C o_68 k1_204 dX5_canBeGone_9 ?_
    refine G.sipush (v := 200) C dX5_canBeGone_12 (by decide) ?_
    refine G.icmp_gt (tgt := 22) C dX5_canBeGone_15 (by decide) (fun hc2 => ?_) (fun hc2 => ?_)
    · replace hf := gIf hf hc2
      refine G.iconst (v := 0) C dX5_canBeGone_22 (by decide) ?_
      cases hf
      exact G.zret C rfl Rt dX5_canBeGone_23
    · replace hf := gIfn hf hc2
      refine G.iconst (v := 1) C dX5_canBeGone_18 (by decide) ?_
      refine G.goto (tgt := 23) C dX5_canBeGone_19 (by decide) ?_
      cases hf
      exact G.zret C rfl Rt dX5_canBeGone_23
theorem mv_X5_canBeGone : gMV yX5_canBeGone cX5_canBeGone 1 (some .boolean) 0 := ⟨k2_226, k2_227, k1_9, k2_228, ⟨by decide +kernel, by decide +kernel, by decide +kernel⟩, by decide⟩
theorem c_X5_canBeGone {res : Int32} {M : Mem} (hf : f_X5_canBeGone M = some res) : Ct yX5_canBeGone cX5_canBeGone 1 (some .boolean) 1 (fun ad => [.ref (ad 68)]) M (some (.int res)) M :=
  Ct.of (by decide +kernel) (fun _ => Nat.le_of_ble_eq_true rfl) (fun X ad C Rt => w_X5_canBeGone_E C Rt hf)
set_option maxRecDepth 100000 in
set_option maxHeartbeats 4000000 in
theorem w_X5_goStep_E {X : Gc} {ad : Nat → Nat} {res : (Unit × Mem)} {k1 : Nat} (hk1 : gIs 17 k1) (C : Gk X ad cX5_goStep "NineTongues$Route" 4 5) (Rt : Gr X ad none none res.2) (x2 : Int32) (M : Mem) (hf : f_X5_goStep k1 x2 M = some res) : G X ad 0 4 [(0, .ref (ad 68)), (1, .ref (ad k1)), (2, .int x2), (3, .ref (ad 6))] [] M := by
  unfold f_X5_goStep at hf
  refine G.iload_n (pl := 2) C dX5_goStep_0 rfl rfl ?_
  refine G.iconst (v := 1) C dX5_goStep_1 (by decide) ?_
  refine G.aload_n (pl := 0) C dX5_goStep_2 rfl rfl ?_
  refine gf5_1 C o_68 k1_204 dX5_goStep_3 ?_
  obtain ⟨v1, hr1, hf⟩ := cp_some hf
  refine G.callN (st1 := [.int v1]) C [.int x2, .int (1 : Int32), .int (M.1 68 1)] [] (c_X9_isIn hr1) mv_X9_isIn (List.mem_of_getElem? (i := 1) rfl) rfl rfl rfl (Nat.le_of_ble_eq_true rfl) (by decide) dX5_goStep_6 rfl ?_
  refine G.if_eq (tgt := 40) C dX5_goStep_9 (by decide) (fun hc1 => ?_) (fun hc1 => ?_)
  · replace hf := gIf hf hc1
    cases hf
    exact G.vret C Rt dX5_goStep_40
  · replace hf := gIfn hf hc1
    refine G.iload_n (pl := 2) C dX5_goStep_12 rfl rfl ?_
    refine G.sipush (v := 200) C dX5_goStep_13 (by decide) ?_
    refine G.icmp_gt (tgt := 40) C dX5_goStep_16 (by decide) (fun hc2 => ?_) (fun hc2 => ?_)
    · replace hf := gIf hf hc2
      cases hf
      exact G.vret C Rt dX5_goStep_40
    · replace hf := gIfn hf hc2
      refine G.aload_n (pl := 3) C dX5_goStep_19 rfl rfl ?_
      refine G.aload_n (pl := 1) C dX5_goStep_20 rfl rfl ?_
      refine G.aload_n (pl := 0) C dX5_goStep_21 rfl rfl ?_
      refine gf5_6 C o_68 k1_210 dX5_goStep_22 ?_
      refine G.iload_n (pl := 2) C dX5_goStep_25 rfl rfl ?_
      refine G.iconst (v := 1) C dX5_goStep_26 (by decide) ?_
      refine G.isub C dX5_goStep_27 ?_
      obtain ⟨v2, ev1, hi1, hf⟩ := rd_some hf
      refine G.iald C a_71 hi1 ev1 dX5_goStep_28 ?_
      refine G.aload_n (pl := 0) C dX5_goStep_29 rfl rfl ?_
      refine gf5_5 C o_68 k1_209 dX5_goStep_30 ?_
      refine G.iload_n (pl := 2) C dX5_goStep_33 rfl rfl ?_
      refine G.iconst (v := 1) C dX5_goStep_34 (by decide) ?_
      refine G.isub C dX5_goStep_35 ?_
      obtain ⟨v3, ev2, hi2, hf⟩ := rd_some hf
      refine G.iald C a_70 hi2 ev2 dX5_goStep_36 ?_
      obtain ⟨u, M1, hr2, hf⟩ := cl_some hf
      refine G.callV (st1 := []) C [.ref (ad k1), .int v2, .int v3] [] (c_X1_carry hk1 hr2) mv_X1_carry k3_16 o_6.1 (fun _ => gShp_11 o_6) rfl rfl rfl rfl rfl (Nat.le_of_ble_eq_true rfl) (by decide) dX5_goStep_37 rfl ?_
      cases hf
      exact G.vret C Rt dX5_goStep_40
theorem mv_X5_goStep : gMV yX5_goStep cX5_goStep 4 none 3 := ⟨k3_13, k3_14, k1_9, k3_15, ⟨by decide +kernel, by decide +kernel, by decide +kernel⟩, by decide⟩
theorem c_X5_goStep {res : (Unit × Mem)} {k1 : Nat} {x2 : Int32} {M : Mem} (hk1 : gIs 17 k1) (hf : f_X5_goStep k1 x2 M = some res) : Ct yX5_goStep cX5_goStep 4 none 5 (fun ad => [.ref (ad 68), .ref (ad k1), .int x2, .ref (ad 6)]) M none res.2 :=
  Ct.of (by decide +kernel) (fun _ => Nat.le_of_ble_eq_true rfl) (fun X ad C Rt => w_X5_goStep_E hk1 C Rt x2 M hf)
set_option maxRecDepth 100000 in
set_option maxHeartbeats 4000000 in
theorem w_X7_copyFrom_E {X : Gc} {ad : Nat → Nat} {res : (Unit × Mem)} {k0 k1 : Nat} (hk0 : gIs 17 k0) (hk1 : gIs 17 k1) (C : Gk X ad cX7_copyFrom "NineTongues$State" 2 1) (Rt : Gr X ad none none res.2) (M : Mem) (hf : f_X7_copyFrom k0 k1 M = some res) : G X ad 0 2 [(0, .ref (ad k0)), (1, .ref (ad k1))] [] M := by
  unfold f_X7_copyFrom at hf
  refine G.aload_n (pl := 0) C dX7_copyFrom_0 rfl rfl ?_
  refine G.aload_n (pl := 1) C dX7_copyFrom_1 rfl rfl ?_
  refine gf7_0 C hk1 k1_88 dX7_copyFrom_2 ?_
  obtain ⟨M1, eM1, hf⟩ := stm_some hf
  refine gp7_0 C hk0 k1_88 eM1 dX7_copyFrom_5 ?_
  refine G.aload_n (pl := 1) C dX7_copyFrom_8 rfl rfl ?_
  refine gf7_1 C hk1 k1_93 dX7_copyFrom_9 ?_
  refine G.iconst (v := 0) C dX7_copyFrom_12 (by decide) ?_
  refine G.aload_n (pl := 0) C dX7_copyFrom_13 rfl rfl ?_
  refine gf7_1 C hk0 k1_93 dX7_copyFrom_14 ?_
  refine G.iconst (v := 0) C dX7_copyFrom_17 (by decide) ?_
  refine G.bipush (v := 6) C dX7_copyFrom_18 (by decide) ?_
  obtain ⟨M2, eM2, hf⟩ := stm_some hf
  refine G.copyi C (gx17_1 hk1) (gx17_1 hk0) k3_9 k3_11 k3_10 k1_15 (by decide) (by decide) (by decide) (by decide) (by decide) (Nat.le_of_ble_eq_true rfl) (by decide) eM2 dX7_copyFrom_20 ?_
  refine G.aload_n (pl := 1) C dX7_copyFrom_23 rfl rfl ?_
  refine gf7_2 C hk1 k1_98 dX7_copyFrom_24 ?_
  refine G.iconst (v := 0) C dX7_copyFrom_27 (by decide) ?_
  refine G.aload_n (pl := 0) C dX7_copyFrom_28 rfl rfl ?_
  refine gf7_2 C hk0 k1_98 dX7_copyFrom_29 ?_
  refine G.iconst (v := 0) C dX7_copyFrom_32 (by decide) ?_
  refine G.bipush (v := 6) C dX7_copyFrom_33 (by decide) ?_
  obtain ⟨M3, eM3, hf⟩ := stm_some hf
  refine G.copyi C (gx17_2 hk1) (gx17_2 hk0) k3_9 k3_11 k3_10 k1_15 (by decide) (by decide) (by decide) (by decide) (by decide) (Nat.le_of_ble_eq_true rfl) (by decide) eM3 dX7_copyFrom_35 ?_
  refine G.aload_n (pl := 1) C dX7_copyFrom_38 rfl rfl ?_
  refine gf7_3 C hk1 k1_101 dX7_copyFrom_39 ?_
  refine G.iconst (v := 0) C dX7_copyFrom_42 (by decide) ?_
  refine G.aload_n (pl := 0) C dX7_copyFrom_43 rfl rfl ?_
  refine gf7_3 C hk0 k1_101 dX7_copyFrom_44 ?_
  refine G.iconst (v := 0) C dX7_copyFrom_47 (by decide) ?_
  refine G.iconst (v := 4) C dX7_copyFrom_48 (by decide) ?_
  obtain ⟨M4, eM4, hf⟩ := stm_some hf
  refine G.copyi C (gx17_3 hk1) (gx17_3 hk0) k3_9 k3_11 k3_10 k1_15 (by decide) (by decide) (by decide) (by decide) (by decide) (Nat.le_of_ble_eq_true rfl) (by decide) eM4 dX7_copyFrom_49 ?_
  cases hf
  exact G.vret C Rt dX7_copyFrom_52
theorem mv_X7_copyFrom : gMV yX7_copyFrom cX7_copyFrom 2 none 1 := ⟨k3_6, k3_7, k1_4, k3_8, ⟨by decide +kernel, by decide +kernel, by decide +kernel⟩, by decide⟩
theorem c_X7_copyFrom {res : (Unit × Mem)} {k0 k1 : Nat} {M : Mem} (hk0 : gIs 17 k0) (hk1 : gIs 17 k1) (hf : f_X7_copyFrom k0 k1 M = some res) : Ct yX7_copyFrom cX7_copyFrom 2 none 1 (fun ad => [.ref (ad k0), .ref (ad k1)]) M none res.2 :=
  Ct.of (by decide +kernel) (fun _ => Nat.le_of_ble_eq_true rfl) (fun X ad C Rt => w_X7_copyFrom_E hk0 hk1 C Rt M hf)
set_option maxRecDepth 100000 in
set_option maxHeartbeats 4000000 in
theorem w_X6_goFrom_2_b {X : Gc} {ad : Nat → Nat} {res : (Unit × Mem)} {r_2 : Int32 → Mem → Option (Unit × Mem)} (C : Gk X ad cX6_goFrom "NineTongues$Rows" 4 5) (Rt : Gr X ad none none res.2) (h_2 : ∀ (x3 : Int32) (M : Mem), r_2 x3 M = some res → G X ad 2 4 [(0, .ref (ad 72)), (2, .ref (ad 6)), (3, .int x3)] [] M) (x3 : Int32) (M : Mem) (hf : f_X6_goFrom_2_b r_2 x3 M = some res) : G X ad 2 4 [(0, .ref (ad 72)), (2, .ref (ad 6)), (3, .int x3)] [] M := by
  unfold f_X6_goFrom_2_b at hf
  refine G.iload_n (pl := 2) C dX6_goFrom_2 rfl rfl ?_
  refine G.aload_n (pl := 0) C dX6_goFrom_3 rfl rfl ?_
  refine gf6_3 C o_72 k2_2 dX6_goFrom_4 ?_
  refine G.icmp_ge (tgt := 55) C dX6_goFrom_7 (by decide) (fun hc1 => ?_) (fun hc1 => ?_)
  · replace hf := gIf hf hc1
    cases hf
    exact G.vret C Rt dX6_goFrom_55
  · replace hf := gIfn hf hc1
    refine G.aload_n (pl := 0) C dX6_goFrom_10 rfl rfl ?_
    refine gf6_2 C o_72 k2_0 dX6_goFrom_11 ?_
    refine G.iload_n (pl := 2) C dX6_goFrom_14 rfl rfl ?_
    refine G.iconst (v := 1) C dX6_goFrom_15 (by decide) ?_
    refine G.iadd C dX6_goFrom_16 ?_
    obtain ⟨hi1, hf⟩ := ck_some hf
    refine G.aldS C hi1 dX6_goFrom_17 ?_
    refine G.aload_n (pl := 0) C dX6_goFrom_18 rfl rfl ?_
    refine gf6_2 C o_72 k2_0 dX6_goFrom_19 ?_
    refine G.iload_n (pl := 2) C dX6_goFrom_22 rfl rfl ?_
    obtain ⟨hi2, hf⟩ := ck_some hf
    refine G.aldS C hi2 dX6_goFrom_23 ?_
    obtain ⟨u, M1, hr1, hf⟩ := cl_some hf
    refine G.callV (st1 := []) C [.ref (ad (76 + 4 * x3.toNatClampNeg))] [] (c_X7_copyFrom (gxS hi1) (gxS hi2) hr1) mv_X7_copyFrom k3_74 (gxS hi1).1 (fun _ => gShp_17 (gxS hi1)) rfl rfl rfl rfl rfl (Nat.le_of_ble_eq_true rfl) (by decide) dX6_goFrom_24 rfl ?_
    refine G.aload_n (pl := 1) C dX6_goFrom_27 rfl rfl ?_
    refine G.aload_n (pl := 0) C dX6_goFrom_28 rfl rfl ?_
    refine gf6_2 C o_72 k2_0 dX6_goFrom_29 ?_
    refine G.iload_n (pl := 2) C dX6_goFrom_32 rfl rfl ?_
    refine G.iconst (v := 1) C dX6_goFrom_33 (by decide) ?_
    refine G.iadd C dX6_goFrom_34 ?_
    obtain ⟨hi3, hf⟩ := ck_some hf
    refine G.aldS C hi3 dX6_goFrom_35 ?_
    refine G.aload_n (pl := 0) C dX6_goFrom_36 rfl rfl ?_
    refine gf6_4 C o_72 k2_3 dX6_goFrom_37 ?_
    refine G.aload_n (pl := 0) C dX6_goFrom_40 rfl rfl ?_
    refine gf6_0 C o_72 k1_236 dX6_goFrom_41 ?_
    refine G.iload_n (pl := 2) C dX6_goFrom_44 rfl rfl ?_
    obtain ⟨v1, ev1, hi4, hf⟩ := rd_some hf
    refine G.iald C a_73 hi4 ev1 dX6_goFrom_45 ?_
    obtain ⟨u, M2, hr2, hf⟩ := cl_some hf
    refine G.callV (st1 := []) C [.ref (ad (76 + 4 * (x3 + (1 : Int32)).toNatClampNeg)), .int (M1.1 72 4), .int v1] [] (c_X1_carry (gxS hi3) hr2) mv_X1_carry k3_84 o_6.1 (fun _ => gShp_11 o_6) rfl rfl rfl rfl rfl (Nat.le_of_ble_eq_true rfl) (by decide) dX6_goFrom_46 rfl ?_
    refine G.iinc (pl := 2) (v := (x3 + 1)) (lv' := [(3, .int (x3 + 1)), (0, .ref (ad 72)), (2, .ref (ad 6))]) C dX6_goFrom_49 rfl rfl (by decide) rfl ?_
    refine G.goto (tgt := 2) C dX6_goFrom_52 (by decide) ?_
    refine G.sub (lv' := [(0, .ref (ad 72)), (2, .ref (ad 6)), (3, .int (x3 + 1))]) [1, 2, 0] rfl ?_
    exact h_2 (x3 + 1) M2 hf
theorem w_X6_goFrom_2 {X : Gc} {ad : Nat → Nat} {res : (Unit × Mem)} (C : Gk X ad cX6_goFrom "NineTongues$Rows" 4 5) (Rt : Gr X ad none none res.2) : ∀ (n : Nat) (x3 : Int32) (M : Mem), f_X6_goFrom_2 n x3 M = some res → G X ad 2 4 [(0, .ref (ad 72)), (2, .ref (ad 6)), (3, .int x3)] [] M := by
  intro n
  induction n with
  | zero => intro x3 M hf; exact absurd (show (none : Option (Unit × Mem)) = some res from hf) (fun h => nomatch h)
  | succ n ih => intro x3 M hf; exact w_X6_goFrom_2_b C Rt ih x3 M hf
set_option maxRecDepth 100000 in
set_option maxHeartbeats 4000000 in
theorem w_X6_goFrom_E {X : Gc} {ad : Nat → Nat} {res : (Unit × Mem)} (C : Gk X ad cX6_goFrom "NineTongues$Rows" 4 5) (Rt : Gr X ad none none res.2) (x1 : Int32) (M : Mem) (hf : f_X6_goFrom x1 M = some res) : G X ad 0 4 [(0, .ref (ad 72)), (1, .int x1), (2, .ref (ad 6))] [] M := by
  unfold f_X6_goFrom at hf
  refine G.iload_n (pl := 1) C dX6_goFrom_0 rfl rfl ?_
  refine G.istore_n (lv' := [(3, .int x1), (0, .ref (ad 72)), (1, .int x1), (2, .ref (ad 6))]) C dX6_goFrom_1 rfl (by decide) rfl ?_
  refine G.sub (lv' := [(0, .ref (ad 72)), (2, .ref (ad 6)), (3, .int x1)]) [1, 3, 0] rfl ?_
  exact w_X6_goFrom_2 C Rt FU x1 M hf
theorem mv_X6_goFrom : gMV yX6_goFrom cX6_goFrom 4 none 2 := ⟨k3_82, kS_15, k1_10, k3_83, ⟨by decide +kernel, by decide +kernel, by decide +kernel⟩, by decide⟩
theorem c_X6_goFrom {res : (Unit × Mem)} {x1 : Int32} {M : Mem} (hf : f_X6_goFrom x1 M = some res) : Ct yX6_goFrom cX6_goFrom 4 none 5 (fun ad => [.ref (ad 72), .int x1, .ref (ad 6)]) M none res.2 :=
  Ct.of (by decide +kernel) (fun _ => Nat.le_of_ble_eq_true rfl) (fun X ad C Rt => w_X6_goFrom_E C Rt x1 M hf)
set_option maxRecDepth 100000 in
set_option maxHeartbeats 4000000 in
theorem w_X6_begin_59 {X : Gc} {ad : Nat → Nat} {res : (Int32 × Mem)} (C : Gk X ad cX6_begin "NineTongues$Rows" 5 6) (Rt : Gr X ad (some .boolean) (some (.int res.1)) res.2) (x4 : Int32) (M : Mem) (hf : f_X6_begin_59 x4 M = some res) : G X ad 59 5 [(0, .ref (ad 72)), (1, .ref (ad 5)), (4, .int x4)] [] M := by
  unfold f_X6_begin_59 at hf
  refine G.aload_n (pl := 0) C dX6_begin_59 rfl rfl ?_
  refine gf6_0 C o_72 k1_236 dX6_begin_60 ?_
  refine G.iload (pl := 2) C dX6_begin_63 rfl ?_
  obtain ⟨u, M1, hr1, hf⟩ := cl_some hf
  refine G.callS (st1 := []) C [.ref (ad 73), .int x4] [] (c_J7_fill_53178 a_73 hr1) mv_J7_fill_53178 k3_79 rfl rfl rfl (Nat.le_of_ble_eq_true rfl) (by decide) dX6_begin_65 rfl ?_
  refine G.aload_n (pl := 0) C dX6_begin_68 rfl rfl ?_
  refine G.iconst (v := 0) C dX6_begin_69 (by decide) ?_
  refine G.aload_n (pl := 1) C dX6_begin_70 rfl rfl ?_
  refine gf8_0 C o_5 k1_173 dX6_begin_71 ?_
  obtain ⟨u, M2, hr2, hf⟩ := cl_some hf
  refine G.callV (st1 := []) C [.int (0 : Int32), .ref (ad 6)] [] (c_X6_goFrom hr2) mv_X6_goFrom k3_80 o_72.1 (fun _ => gShp_16 o_72) rfl rfl rfl rfl rfl (Nat.le_of_ble_eq_true rfl) (by decide) dX6_begin_74 rfl ?_
  refine G.iconst (v := 1) C dX6_begin_77 (by decide) ?_
  cases hf
  exact G.zret C rfl Rt dX6_begin_78
set_option maxRecDepth 100000 in
set_option maxHeartbeats 4000000 in
theorem w_X6_begin_E {X : Gc} {ad : Nat → Nat} {res : (Int32 × Mem)} (C : Gk X ad cX6_begin "NineTongues$Rows" 5 6) (Rt : Gr X ad (some .boolean) (some (.int res.1)) res.2) (x2 : Int32) (x3 : Int32) (M : Mem) (hf : f_X6_begin x2 x3 M = some res) : G X ad 0 5 [(0, .ref (ad 72)), (1, .ref (ad 5)), (2, .int x2), (3, .int x3)] [] M := by
  unfold f_X6_begin at hf
  refine G.iload_n (pl := 3) C dX6_begin_0 rfl rfl ?_
  refine G.iconst (v := 0) C dX6_begin_1 (by decide) ?_
  refine G.iconst (v := 4) C dX6_begin_2 (by decide) ?_
  obtain ⟨v1, hr1, hf⟩ := cp_some hf
  refine G.callN (st1 := [.int v1]) C [.int x3, .int (0 : Int32), .int (4 : Int32)] [] (c_X9_isIn hr1) mv_X9_isIn (List.mem_of_getElem? (i := 3) rfl) rfl rfl rfl (Nat.le_of_ble_eq_true rfl) (by decide) dX6_begin_3 rfl ?_
  refine G.if_ne (tgt := 11) C dX6_begin_6 (by decide) (fun hc1 => ?_) (fun hc1 => ?_)
  · replace hf := gIfn hf hc1
    refine G.aload_n (pl := 0) C dX6_begin_11 rfl rfl ?_
    refine G.iload_n (pl := 3) C dX6_begin_12 rfl rfl ?_
    obtain ⟨M1, eM1, hf⟩ := stm_some hf
    refine gp6_3 C o_72 k2_2 eM1 dX6_begin_13 ?_
    refine G.aload_n (pl := 0) C dX6_begin_16 rfl rfl ?_
    refine G.iload_n (pl := 2) C dX6_begin_17 rfl rfl ?_
    obtain ⟨M2, eM2, hf⟩ := stm_some hf
    refine gp6_4 C o_72 k2_3 eM2 dX6_begin_18 ?_
    refine G.aload_n (pl := 0) C dX6_begin_21 rfl rfl ?_
    refine gf6_2 C o_72 k2_0 dX6_begin_22 ?_
    refine G.iconst (v := 0) C dX6_begin_25 (by decide) ?_
    obtain ⟨hi1, hf⟩ := ck_some hf
    refine G.aldS C hi1 dX6_begin_26 ?_
    refine G.aload_n (pl := 1) C dX6_begin_27 rfl rfl ?_
    refine gf8_1 C o_5 k1_176 dX6_begin_28 ?_
    obtain ⟨u, M3, hr2, hf⟩ := cl_some hf
    refine G.callV (st1 := []) C [.ref (ad 14)] [] (c_X7_copyFrom (gxS hi1) o_14 hr2) mv_X7_copyFrom k3_74 (gxS hi1).1 (fun _ => gShp_17 (gxS hi1)) rfl rfl rfl rfl rfl (Nat.le_of_ble_eq_true rfl) (by decide) dX6_begin_31 rfl ?_
    refine G.aload_n (pl := 1) C dX6_begin_34 rfl rfl ?_
    refine gf8_0 C o_5 k1_173 dX6_begin_35 ?_
    refine G.iconst (v := (-1)) C dX6_begin_38 (by decide) ?_
    obtain ⟨v2, hr3, hf⟩ := cp_some hf
    refine G.callV (st1 := [.int v2]) C [.int (-1 : Int32)] [] (c_X1_voiceBehind hr3) mv_X1_voiceBehind k3_75 o_6.1 (fun _ => gShp_11 o_6) rfl rfl rfl rfl rfl (Nat.le_of_ble_eq_true rfl) (by decide) dX6_begin_39 rfl ?_
    refine G.istore (lv' := [(4, .int v2), (0, .ref (ad 72)), (1, .ref (ad 5)), (2, .int x2), (3, .int x3)]) C dX6_begin_42 (by decide) rfl ?_
    refine G.aload_n (pl := 1) C dX6_begin_44 rfl rfl ?_
    refine gf6_3 C o_72 k2_2 dX6_begin_45 ?_
    refine G.if_le (tgt := 59) C dX6_begin_48 (by decide) (fun hc2 => ?_) (fun hc2 => ?_)
    · replace hf := gIf hf hc2
      refine G.sub (lv' := [(0, .ref (ad 72)), (1, .ref (ad 5)), (4, .int v2)]) [1, 2, 0] rfl ?_
      exact w_X6_begin_59 C Rt v2 M3 hf
    · replace hf := gIfn hf hc2
      refine G.iload (pl := 0) C dX6_begin_51 rfl ?_
      refine G.iconst (v := (-1)) C dX6_begin_53 (by decide) ?_
      refine G.icmp_ne (tgt := 59) C dX6_begin_54 (by decide) (fun hc3 => ?_) (fun hc3 => ?_)
      · replace hf := gIfn hf hc3
        refine G.sub (lv' := [(0, .ref (ad 72)), (1, .ref (ad 5)), (4, .int v2)]) [1, 2, 0] rfl ?_
        exact w_X6_begin_59 C Rt v2 M3 hf
      · replace hf := gIf hf hc3
        refine G.iconst (v := 0) C dX6_begin_57 (by decide) ?_
        cases hf
        exact G.zret C rfl Rt dX6_begin_58
  · replace hf := gIf hf hc1
    refine G.iconst (v := 0) C dX6_begin_9 (by decide) ?_
    cases hf
    exact G.zret C rfl Rt dX6_begin_10
theorem mv_X6_begin : gMV yX6_begin cX6_begin 5 (some .boolean) 3 := ⟨k3_70, k3_71, k1_10, k3_72, ⟨by decide +kernel, by decide +kernel, by decide +kernel⟩, by decide⟩
theorem c_X6_begin {res : (Int32 × Mem)} {x2 : Int32} {x3 : Int32} {M : Mem} (hf : f_X6_begin x2 x3 M = some res) : Ct yX6_begin cX6_begin 5 (some .boolean) 6 (fun ad => [.ref (ad 72), .ref (ad 5), .int x2, .int x3]) M (some (.int res.1)) res.2 :=
  Ct.of (by decide +kernel) (fun _ => Nat.le_of_ble_eq_true rfl) (fun X ad C Rt => w_X6_begin_E C Rt x2 x3 M hf)
set_option maxRecDepth 100000 in
set_option maxHeartbeats 4000000 in
theorem w_J7_rangeCheck_23922_E {X : Gc} {ad : Nat → Nat} {res : Unit} {M : Mem} (C : Gk X ad cJ7_rangeCheck_23922 "java/util/Arrays" 3 1) (Rt : Gr X ad none none M) (x0 : Int32) (x1 : Int32) (x2 : Int32) (hf : f_J7_rangeCheck_23922 x0 x1 x2 M = some res) : G X ad 0 3 [(0, .int x0), (1, .int x1), (2, .int x2)] [] M := by
  unfold f_J7_rangeCheck_23922 at hf
  refine G.iload_n (pl := 1) C dJ7_rangeCheck_23922_0 rfl rfl ?_
  refine G.iload_n (pl := 2) C dJ7_rangeCheck_23922_1 rfl rfl ?_
  refine G.icmp_le (tgt := 46) C dJ7_rangeCheck_23922_2 (by decide) (fun hc1 => ?_) (fun hc1 => ?_)
  · replace hf := gIf hf hc1
    refine G.iload_n (pl := 1) C dJ7_rangeCheck_23922_46 rfl rfl ?_
    refine G.if_ge (tgt := 59) C dJ7_rangeCheck_23922_47 (by decide) (fun hc2 => ?_) (fun hc2 => ?_)
    · replace hf := gIf hf hc2
      refine G.iload_n (pl := 2) C dJ7_rangeCheck_23922_59 rfl rfl ?_
      refine G.iload_n (pl := 0) C dJ7_rangeCheck_23922_60 rfl rfl ?_
      refine G.icmp_le (tgt := 73) C dJ7_rangeCheck_23922_61 (by decide) (fun hc3 => ?_) (fun hc3 => ?_)
      · replace hf := gIf hf hc3
        cases hf
        exact G.vret C Rt dJ7_rangeCheck_23922_73
      · replace hf := gIfn hf hc3
        cases hf
    · replace hf := gIfn hf hc2
      cases hf
  · replace hf := gIfn hf hc1
    cases hf
theorem mv_J7_rangeCheck_23922 : gMS yJ7_rangeCheck_23922 cJ7_rangeCheck_23922 3 none 3 := ⟨k3_99, k1_5, k3_100, ⟨by decide +kernel, by decide +kernel, by decide +kernel⟩, by decide⟩
theorem c_J7_rangeCheck_23922 {res : Unit} {x0 : Int32} {x1 : Int32} {x2 : Int32} {M : Mem} (hf : f_J7_rangeCheck_23922 x0 x1 x2 M = some res) : Ct yJ7_rangeCheck_23922 cJ7_rangeCheck_23922 3 none 1 (fun ad => [.int x0, .int x1, .int x2]) M none M :=
  Ct.of (by decide +kernel) (fun _ => Nat.le_of_ble_eq_true rfl) (fun X ad C Rt => w_J7_rangeCheck_23922_E C Rt x0 x1 x2 hf)
set_option maxRecDepth 100000 in
set_option maxHeartbeats 4000000 in
theorem w_J7_fill_fda19_10_b {X : Gc} {ad : Nat → Nat} {res : (Unit × Mem)} {q0 n0 : Nat} {r_10 : Int32 → Mem → Option (Unit × Mem)} (hq0 : gArr n0 q0) (C : Gk X ad cJ7_fill_fda19 "java/util/Arrays" 5 2) (Rt : Gr X ad none none res.2) (x2 : Int32) (x3 : Int32) (h_10 : ∀ (x4 : Int32) (M : Mem), r_10 x4 M = some res → G X ad 10 5 [(0, .ref (ad q0)), (2, .int x2), (3, .int x3), (4, .int x4)] [] M) (x4 : Int32) (M : Mem) (hf : f_J7_fill_fda19_10_b q0 n0 r_10 x2 x3 x4 M = some res) : G X ad 10 5 [(0, .ref (ad q0)), (2, .int x2), (3, .int x3), (4, .int x4)] [] M := by
  unfold f_J7_fill_fda19_10_b at hf
  refine G.iload (pl := 3) C dJ7_fill_fda19_10 rfl ?_
  refine G.iload_n (pl := 1) C dJ7_fill_fda19_12 rfl rfl ?_
  refine G.icmp_ge (tgt := 27) C dJ7_fill_fda19_13 (by decide) (fun hc1 => ?_) (fun hc1 => ?_)
  · replace hf := gIf hf hc1
    cases hf
    exact G.vret C Rt dJ7_fill_fda19_27
  · replace hf := gIfn hf hc1
    refine G.aload_n (pl := 0) C dJ7_fill_fda19_16 rfl rfl ?_
    refine G.iload (pl := 3) C dJ7_fill_fda19_17 rfl ?_
    refine G.iload_n (pl := 2) C dJ7_fill_fda19_19 rfl rfl ?_
    obtain ⟨hi1, hf⟩ := ck_some hf
    obtain ⟨M1, eM1, hf⟩ := stm_some hf
    refine G.iast C hq0 hi1 eM1 dJ7_fill_fda19_20 ?_
    refine G.iinc (pl := 3) (v := (x4 + 1)) (lv' := [(4, .int (x4 + 1)), (0, .ref (ad q0)), (2, .int x2), (3, .int x3)]) C dJ7_fill_fda19_21 rfl rfl (by decide) rfl ?_
    refine G.goto (tgt := 10) C dJ7_fill_fda19_24 (by decide) ?_
    refine G.sub (lv' := [(0, .ref (ad q0)), (2, .int x2), (3, .int x3), (4, .int (x4 + 1))]) [1, 2, 3, 0] rfl ?_
    exact h_10 (x4 + 1) M1 hf
theorem w_J7_fill_fda19_10 {X : Gc} {ad : Nat → Nat} {res : (Unit × Mem)} {q0 n0 : Nat} (hq0 : gArr n0 q0) (C : Gk X ad cJ7_fill_fda19 "java/util/Arrays" 5 2) (Rt : Gr X ad none none res.2) (x2 : Int32) (x3 : Int32) : ∀ (n : Nat) (x4 : Int32) (M : Mem), f_J7_fill_fda19_10 q0 n0 x2 x3 n x4 M = some res → G X ad 10 5 [(0, .ref (ad q0)), (2, .int x2), (3, .int x3), (4, .int x4)] [] M := by
  intro n
  induction n with
  | zero => intro x4 M hf; exact absurd (show (none : Option (Unit × Mem)) = some res from hf) (fun h => nomatch h)
  | succ n ih => intro x4 M hf; exact w_J7_fill_fda19_10_b hq0 C Rt x2 x3 ih x4 M hf
set_option maxRecDepth 100000 in
set_option maxHeartbeats 4000000 in
theorem w_J7_fill_fda19_E {X : Gc} {ad : Nat → Nat} {res : (Unit × Mem)} {q0 n0 : Nat} (hq0 : gArr n0 q0) (C : Gk X ad cJ7_fill_fda19 "java/util/Arrays" 5 2) (Rt : Gr X ad none none res.2) (x1 : Int32) (x2 : Int32) (x3 : Int32) (M : Mem) (hf : f_J7_fill_fda19 q0 n0 x1 x2 x3 M = some res) : G X ad 0 5 [(0, .ref (ad q0)), (1, .int x1), (2, .int x2), (3, .int x3)] [] M := by
  unfold f_J7_fill_fda19 at hf
  refine G.aload_n (pl := 0) C dJ7_fill_fda19_0 rfl rfl ?_
  refine G.alen (v := (Int32.ofNat n0)) C hq0 rfl dJ7_fill_fda19_1 ?_
  refine G.iload_n (pl := 1) C dJ7_fill_fda19_2 rfl rfl ?_
  refine G.iload_n (pl := 2) C dJ7_fill_fda19_3 rfl rfl ?_
  obtain ⟨u, hr1, hf⟩ := cp_some hf
  refine G.callS (st1 := []) C [.int (Int32.ofNat n0), .int x1, .int x2] [] (c_J7_rangeCheck_23922 hr1) mv_J7_rangeCheck_23922 k3_98 rfl rfl rfl (Nat.le_of_ble_eq_true rfl) (by decide) dJ7_fill_fda19_4 rfl ?_
  refine G.iload_n (pl := 1) C dJ7_fill_fda19_7 rfl rfl ?_
  refine G.istore (lv' := [(4, .int x1), (0, .ref (ad q0)), (1, .int x1), (2, .int x2), (3, .int x3)]) C dJ7_fill_fda19_8 (by decide) rfl ?_
  refine G.sub (lv' := [(0, .ref (ad q0)), (2, .int x2), (3, .int x3), (4, .int x1)]) [1, 3, 4, 0] rfl ?_
  exact w_J7_fill_fda19_10 hq0 C Rt x2 x3 FU x1 M hf
theorem mv_J7_fill_fda19 : gMS yJ7_fill_fda19 cJ7_fill_fda19 5 none 4 := ⟨k3_96, k1_5, k3_97, ⟨by decide +kernel, by decide +kernel, by decide +kernel⟩, by decide⟩
theorem c_J7_fill_fda19 {res : (Unit × Mem)} {q0 n0 : Nat} {x1 : Int32} {x2 : Int32} {x3 : Int32} {M : Mem} (hq0 : gArr n0 q0) (hf : f_J7_fill_fda19 q0 n0 x1 x2 x3 M = some res) : Ct yJ7_fill_fda19 cJ7_fill_fda19 5 none 2 (fun ad => [.ref (ad q0), .int x1, .int x2, .int x3]) M none res.2 :=
  Ct.of (by decide +kernel) (fun _ => Nat.le_of_ble_eq_true rfl) (fun X ad C Rt => w_J7_fill_fda19_E hq0 C Rt x1 x2 x3 M hf)
set_option maxRecDepth 100000 in
set_option maxHeartbeats 4000000 in
theorem w_X6_goOn_7_b {X : Gc} {ad : Nat → Nat} {res : (Int32 × Mem)} {r_7 : Int32 → Mem → Option (Int32 × Mem)} (C : Gk X ad cX6_goOn "NineTongues$Rows" 4 6) (Rt : Gr X ad (some .boolean) (some (.int res.1)) res.2) (h_7 : ∀ (x2 : Int32) (M : Mem), r_7 x2 M = some res → G X ad 7 4 [(0, .ref (ad 72)), (1, .ref (ad 6)), (2, .int x2)] [] M) (x2 : Int32) (M : Mem) (hf : f_X6_goOn_7_b r_7 x2 M = some res) : G X ad 7 4 [(0, .ref (ad 72)), (1, .ref (ad 6)), (2, .int x2)] [] M := by
  unfold f_X6_goOn_7_b at hf
  refine G.iload_n (pl := 2) C dX6_goOn_7 rfl rfl ?_
  refine G.if_lt (tgt := 67) C dX6_goOn_8 (by decide) (fun hc1 => ?_) (fun hc1 => ?_)
  · replace hf := gIf hf hc1
    refine G.iconst (v := 0) C dX6_goOn_67 (by decide) ?_
    cases hf
    exact G.zret C rfl Rt dX6_goOn_68
  · replace hf := gIfn hf hc1
    refine G.aload_n (pl := 1) C dX6_goOn_11 rfl rfl ?_
    refine G.aload_n (pl := 0) C dX6_goOn_12 rfl rfl ?_
    refine gf6_0 C o_72 k1_236 dX6_goOn_13 ?_
    refine G.iload_n (pl := 2) C dX6_goOn_16 rfl rfl ?_
    obtain ⟨v1, ev1, hi1, hf⟩ := rd_some hf
    refine G.iald C a_73 hi1 ev1 dX6_goOn_17 ?_
    obtain ⟨v2, hr1, hf⟩ := cp_some hf
    refine G.callV (st1 := [.int v2]) C [.int v1] [] (c_X1_voiceBehind hr1) mv_X1_voiceBehind k3_75 o_6.1 (fun _ => gShp_11 o_6) rfl rfl rfl rfl rfl (Nat.le_of_ble_eq_true rfl) (by decide) dX6_goOn_18 rfl ?_
    refine G.istore_n (lv' := [(3, .int v2), (0, .ref (ad 72)), (1, .ref (ad 6)), (2, .int x2)]) C dX6_goOn_21 rfl (by decide) rfl ?_
    refine G.iload_n (pl := 0) C dX6_goOn_22 rfl rfl ?_
    refine G.iconst (v := (-1)) C dX6_goOn_23 (by decide) ?_
    refine G.icmp_eq (tgt := 61) C dX6_goOn_24 (by decide) (fun hc2 => ?_) (fun hc2 => ?_)
    · replace hf := gIf hf hc2
      refine G.iinc (pl := 3) (v := (x2 + (-1))) (lv' := [(2, .int (x2 + (-1))), (3, .int v2), (0, .ref (ad 72)), (1, .ref (ad 6))]) C dX6_goOn_61 rfl rfl (by decide) rfl ?_
      refine G.goto (tgt := 7) C dX6_goOn_64 (by decide) ?_
      refine G.sub (lv' := [(0, .ref (ad 72)), (1, .ref (ad 6)), (2, .int (x2 + (-1)))]) [2, 3, 0] rfl ?_
      exact h_7 (x2 + (-1)) M hf
    · replace hf := gIfn hf hc2
      refine G.aload_n (pl := 1) C dX6_goOn_27 rfl rfl ?_
      refine gf6_0 C o_72 k1_236 dX6_goOn_28 ?_
      refine G.iload_n (pl := 3) C dX6_goOn_31 rfl rfl ?_
      refine G.iload_n (pl := 0) C dX6_goOn_32 rfl rfl ?_
      obtain ⟨hi2, hf⟩ := ck_some hf
      obtain ⟨M1, eM1, hf⟩ := stm_some hf
      refine G.iast C a_73 hi2 eM1 dX6_goOn_33 ?_
      refine G.aload_n (pl := 1) C dX6_goOn_34 rfl rfl ?_
      refine gf6_0 C o_72 k1_236 dX6_goOn_35 ?_
      refine G.iload_n (pl := 3) C dX6_goOn_38 rfl rfl ?_
      refine G.iconst (v := 1) C dX6_goOn_39 (by decide) ?_
      refine G.iadd C dX6_goOn_40 ?_
      refine G.aload_n (pl := 1) C dX6_goOn_41 rfl rfl ?_
      refine gf6_3 C o_72 k2_2 dX6_goOn_42 ?_
      refine G.aload_n (pl := 2) C dX6_goOn_45 rfl rfl ?_
      refine G.iconst (v := (-1)) C dX6_goOn_46 (by decide) ?_
      obtain ⟨v3, hr2, hf⟩ := cp_some hf
      refine G.callV (st1 := [.int v3, .int (M1.1 72 3), .int (x2 + (1 : Int32)), .ref (ad 73)]) C [.int (-1 : Int32)] [.int (M1.1 72 3), .int (x2 + (1 : Int32)), .ref (ad 73)] (c_X1_voiceBehind hr2) mv_X1_voiceBehind k3_75 o_6.1 (fun _ => gShp_11 o_6) rfl rfl rfl rfl rfl (Nat.le_of_ble_eq_true rfl) (by decide) dX6_goOn_47 rfl ?_
      obtain ⟨u, M2, hr3, hf⟩ := cl_some hf
      refine G.callS (st1 := []) C [.ref (ad 73), .int (x2 + (1 : Int32)), .int (M1.1 72 3), .int v3] [] (c_J7_fill_fda19 a_73 hr3) mv_J7_fill_fda19 k3_95 rfl rfl rfl (Nat.le_of_ble_eq_true rfl) (by decide) dX6_goOn_50 rfl ?_
      refine G.aload_n (pl := 1) C dX6_goOn_53 rfl rfl ?_
      refine G.iload_n (pl := 3) C dX6_goOn_54 rfl rfl ?_
      refine G.aload_n (pl := 2) C dX6_goOn_55 rfl rfl ?_
      obtain ⟨u, M3, hr4, hf⟩ := cl_some hf
      refine G.callV (st1 := []) C [.int x2, .ref (ad 6)] [] (c_X6_goFrom hr4) mv_X6_goFrom k3_80 o_72.1 (fun _ => gShp_16 o_72) rfl rfl rfl rfl rfl (Nat.le_of_ble_eq_true rfl) (by decide) dX6_goOn_56 rfl ?_
      refine G.iconst (v := 1) C dX6_goOn_59 (by decide) ?_
      cases hf
      exact G.zret C rfl Rt dX6_goOn_60
theorem w_X6_goOn_7 {X : Gc} {ad : Nat → Nat} {res : (Int32 × Mem)} (C : Gk X ad cX6_goOn "NineTongues$Rows" 4 6) (Rt : Gr X ad (some .boolean) (some (.int res.1)) res.2) : ∀ (n : Nat) (x2 : Int32) (M : Mem), f_X6_goOn_7 n x2 M = some res → G X ad 7 4 [(0, .ref (ad 72)), (1, .ref (ad 6)), (2, .int x2)] [] M := by
  intro n
  induction n with
  | zero => intro x2 M hf; exact absurd (show (none : Option (Int32 × Mem)) = some res from hf) (fun h => nomatch h)
  | succ n ih => intro x2 M hf; exact w_X6_goOn_7_b C Rt ih x2 M hf
set_option maxRecDepth 100000 in
set_option maxHeartbeats 4000000 in
theorem w_X6_goOn_E {X : Gc} {ad : Nat → Nat} {res : (Int32 × Mem)} (C : Gk X ad cX6_goOn "NineTongues$Rows" 4 6) (Rt : Gr X ad (some .boolean) (some (.int res.1)) res.2) (M : Mem) (hf : f_X6_goOn M = some res) : G X ad 0 4 [(0, .ref (ad 72)), (1, .ref (ad 6))] [] M := by
  unfold f_X6_goOn at hf
  refine G.aload_n (pl := 0) C dX6_goOn_0 rfl rfl ?_
  refine gf6_3 C o_72 k2_2 dX6_goOn_1 ?_
  refine G.iconst (v := 1) C dX6_goOn_4 (by decide) ?_
  refine G.isub C dX6_goOn_5 ?_
  refine G.istore_n (lv' := [(2, .int ((M.1 72 3) - (1 : Int32))), (0, .ref (ad 72)), (1, .ref (ad 6))]) C dX6_goOn_6 rfl (by decide) rfl ?_
  refine G.sub (lv' := [(0, .ref (ad 72)), (1, .ref (ad 6)), (2, .int ((M.1 72 3) - (1 : Int32)))]) [1, 2, 0] rfl ?_
  exact w_X6_goOn_7 C Rt FU ((M.1 72 3) - (1 : Int32)) M hf
theorem mv_X6_goOn : gMV yX6_goOn cX6_goOn 4 (some .boolean) 1 := ⟨k3_92, k3_93, k1_10, k3_94, ⟨by decide +kernel, by decide +kernel, by decide +kernel⟩, by decide⟩
theorem c_X6_goOn {res : (Int32 × Mem)} {M : Mem} (hf : f_X6_goOn M = some res) : Ct yX6_goOn cX6_goOn 4 (some .boolean) 6 (fun ad => [.ref (ad 72), .ref (ad 6)]) M (some (.int res.1)) res.2 :=
  Ct.of (by decide +kernel) (fun _ => Nat.le_of_ble_eq_true rfl) (fun X ad C Rt => w_X6_goOn_E C Rt M hf)
set_option maxRecDepth 100000 in
set_option maxHeartbeats 4000000 in
theorem w_X6_keepFirst_E {X : Gc} {ad : Nat → Nat} {res : (Unit × Mem)} (C : Gk X ad cX6_keepFirst "NineTongues$Rows" 1 1) (Rt : Gr X ad none none res.2) (M : Mem) (hf : f_X6_keepFirst M = some res) : G X ad 0 1 [(0, .ref (ad 72))] [] M := by
  unfold f_X6_keepFirst at hf
  refine G.aload_n (pl := 0) C dX6_keepFirst_0 rfl rfl ?_
  refine gf6_0 C o_72 k1_236 dX6_keepFirst_1 ?_
  refine G.iconst (v := 0) C dX6_keepFirst_4 (by decide) ?_
  refine G.aload_n (pl := 0) C dX6_keepFirst_5 rfl rfl ?_
  refine gf6_1 C o_72 k1_238 dX6_keepFirst_6 ?_
  refine G.iconst (v := 0) C dX6_keepFirst_9 (by decide) ?_
  refine G.iconst (v := 4) C dX6_keepFirst_10 (by decide) ?_
  obtain ⟨M1, eM1, hf⟩ := stm_some hf
  refine G.copyi C a_73 a_74 k3_90 k3_11 k3_10 k1_15 (by decide) (by decide) (by decide) (by decide) (by decide) (Nat.le_of_ble_eq_true rfl) (by decide) eM1 dX6_keepFirst_11 ?_
  cases hf
  exact G.vret C Rt dX6_keepFirst_14
theorem mv_X6_keepFirst : gMV yX6_keepFirst cX6_keepFirst 1 none 0 := ⟨k3_87, k3_88, k1_10, k3_89, ⟨by decide +kernel, by decide +kernel, by decide +kernel⟩, by decide⟩
theorem c_X6_keepFirst {res : (Unit × Mem)} {M : Mem} (hf : f_X6_keepFirst M = some res) : Ct yX6_keepFirst cX6_keepFirst 1 none 1 (fun ad => [.ref (ad 72)]) M none res.2 :=
  Ct.of (by decide +kernel) (fun _ => Nat.le_of_ble_eq_true rfl) (fun X ad C Rt => w_X6_keepFirst_E C Rt M hf)
set_option maxRecDepth 100000 in
set_option maxHeartbeats 4000000 in
theorem w_X7_empty_E {X : Gc} {ad : Nat → Nat} {res : (Unit × Mem)} {k0 : Nat} (hk0 : gIs 17 k0) (C : Gk X ad cX7_empty "NineTongues$State" 1 2) (Rt : Gr X ad none none res.2) (M : Mem) (hf : f_X7_empty k0 M = some res) : G X ad 0 1 [(0, .ref (ad k0))] [] M := by
  unfold f_X7_empty at hf
  refine G.aload_n (pl := 0) C dX7_empty_0 rfl rfl ?_
  refine G.iconst (v := 0) C dX7_empty_1 (by decide) ?_
  obtain ⟨M1, eM1, hf⟩ := stm_some hf
  refine gp7_0 C hk0 k1_88 eM1 dX7_empty_2 ?_
  refine G.aload_n (pl := 0) C dX7_empty_5 rfl rfl ?_
  refine gf7_3 C hk0 k1_101 dX7_empty_6 ?_
  refine G.iconst (v := (-1)) C dX7_empty_9 (by decide) ?_
  obtain ⟨u, M2, hr1, hf⟩ := cl_some hf
  refine G.callS (st1 := []) C [.ref (ad (k0 + 3)), .int (-1 : Int32)] [] (c_J7_fill_53178 (gx17_3 hk0) hr1) mv_J7_fill_53178 k1_85 rfl rfl rfl (Nat.le_of_ble_eq_true rfl) (by decide) dX7_empty_10 rfl ?_
  cases hf
  exact G.vret C Rt dX7_empty_13
theorem mv_X7_empty : gMV yX7_empty cX7_empty 1 none 0 := ⟨k1_82, k1_83, k1_4, k1_84, ⟨by decide +kernel, by decide +kernel, by decide +kernel⟩, by decide⟩
theorem c_X7_empty {res : (Unit × Mem)} {k0 : Nat} {M : Mem} (hk0 : gIs 17 k0) (hf : f_X7_empty k0 M = some res) : Ct yX7_empty cX7_empty 1 none 2 (fun ad => [.ref (ad k0)]) M none res.2 :=
  Ct.of (by decide +kernel) (fun _ => Nat.le_of_ble_eq_true rfl) (fun X ad C Rt => w_X7_empty_E hk0 C Rt M hf)
set_option maxRecDepth 100000 in
set_option maxHeartbeats 4000000 in
theorem w_X7_addPlace_E {X : Gc} {ad : Nat → Nat} {res : (Int32 × Mem)} {k0 : Nat} (hk0 : gIs 17 k0) (C : Gk X ad cX7_addPlace "NineTongues$State" 2 1) (Rt : Gr X ad (some .int) (some (.int res.1)) res.2) (x1 : Int32) (M : Mem) (hf : f_X7_addPlace k0 x1 M = some res) : G X ad 0 2 [(0, .ref (ad k0)), (1, .int x1)] [] M := by
  unfold f_X7_addPlace at hf
  refine G.aload_n (pl := 0) C dX7_addPlace_0 rfl rfl ?_
  refine gf7_1 C hk0 k1_93 dX7_addPlace_1 ?_
  refine G.aload_n (pl := 0) C dX7_addPlace_4 rfl rfl ?_
  refine gf7_0 C hk0 k1_88 dX7_addPlace_5 ?_
  refine G.iload_n (pl := 1) C dX7_addPlace_8 rfl rfl ?_
  obtain ⟨hi1, hf⟩ := ck_some hf
  obtain ⟨M1, eM1, hf⟩ := stm_some hf
  refine G.iast C (gx17_1 hk0) hi1 eM1 dX7_addPlace_9 ?_
  refine G.aload_n (pl := 0) C dX7_addPlace_10 rfl rfl ?_
  refine gf7_2 C hk0 k1_98 dX7_addPlace_11 ?_
  refine G.aload_n (pl := 0) C dX7_addPlace_14 rfl rfl ?_
  refine gf7_0 C hk0 k1_88 dX7_addPlace_15 ?_
  refine G.iconst (v := (-1)) C dX7_addPlace_18 (by decide) ?_
  obtain ⟨hi2, hf⟩ := ck_some hf
  obtain ⟨M2, eM2, hf⟩ := stm_some hf
  refine G.iast C (gx17_2 hk0) hi2 eM2 dX7_addPlace_19 ?_
  refine G.aload_n (pl := 0) C dX7_addPlace_20 rfl rfl ?_
  refine G.dup C dX7_addPlace_21 rfl ?_
  refine gf7_0 C hk0 k1_88 dX7_addPlace_22 ?_
  refine G.iconst (v := 1) C dX7_addPlace_25 (by decide) ?_
  refine G.iadd C dX7_addPlace_26 ?_
  obtain ⟨M3, eM3, hf⟩ := stm_some hf
  refine gp7_0 C hk0 k1_88 eM3 dX7_addPlace_27 ?_
  refine G.aload_n (pl := 0) C dX7_addPlace_30 rfl rfl ?_
  refine gf7_0 C hk0 k1_88 dX7_addPlace_31 ?_
  refine G.iconst (v := 1) C dX7_addPlace_34 (by decide) ?_
  refine G.isub C dX7_addPlace_35 ?_
  cases hf
  exact G.iret C Rt dX7_addPlace_36
theorem mv_X7_addPlace : gMV yX7_addPlace cX7_addPlace 2 (some .int) 1 := ⟨k2_122, k2_123, k1_4, k2_124, ⟨by decide +kernel, by decide +kernel, by decide +kernel⟩, by decide⟩
theorem c_X7_addPlace {res : (Int32 × Mem)} {k0 : Nat} {x1 : Int32} {M : Mem} (hk0 : gIs 17 k0) (hf : f_X7_addPlace k0 x1 M = some res) : Ct yX7_addPlace cX7_addPlace 2 (some .int) 1 (fun ad => [.ref (ad k0), .int x1]) M (some (.int res.1)) res.2 :=
  Ct.of (by decide +kernel) (fun _ => Nat.le_of_ble_eq_true rfl) (fun X ad C Rt => w_X7_addPlace_E hk0 C Rt x1 M hf)
