set_option maxRecDepth 100000 in
set_option maxHeartbeats 4000000 in
theorem w_X0_copyFrom_E {X : Gc} {ad : Nat → Nat} {res : (Unit × Mem)} {k0 k1 : Nat} (hk0 : gIs 10 k0) (hk1 : gIs 10 k1) (C : Gk X ad cX0_copyFrom "NineTongues$End" 2 1) (Rt : Gr X ad none none res.2) (M : Mem) (hf : f_X0_copyFrom k0 k1 M = some res) : G X ad 0 2 [(0, .ref (ad k0)), (1, .ref (ad k1))] [] M := by
  unfold f_X0_copyFrom at hf
  refine G.aload_n (pl := 1) C dX0_copyFrom_0 rfl rfl ?_
  refine gf0_0 C hk1 k1_140 dX0_copyFrom_1 ?_
  refine G.iconst (v := 0) C dX0_copyFrom_4 (by decide) ?_
  refine G.aload_n (pl := 0) C dX0_copyFrom_5 rfl rfl ?_
  refine gf0_0 C hk0 k1_140 dX0_copyFrom_6 ?_
  refine G.iconst (v := 0) C dX0_copyFrom_9 (by decide) ?_
  refine G.bipush (v := 6) C dX0_copyFrom_10 (by decide) ?_
  obtain ⟨M1, eM1, hf⟩ := stm_some hf
  refine G.copyi C (gx10_0 hk1) (gx10_0 hk0) k4_36 k3_11 k3_10 k1_15 (by decide) (by decide) (by decide) (by decide) (by decide) (Nat.le_of_ble_eq_true rfl) (by decide) eM1 dX0_copyFrom_12 ?_
  refine G.aload_n (pl := 1) C dX0_copyFrom_15 rfl rfl ?_
  refine gf0_1 C hk1 k1_143 dX0_copyFrom_16 ?_
  refine G.iconst (v := 0) C dX0_copyFrom_19 (by decide) ?_
  refine G.aload_n (pl := 0) C dX0_copyFrom_20 rfl rfl ?_
  refine gf0_1 C hk0 k1_143 dX0_copyFrom_21 ?_
  refine G.iconst (v := 0) C dX0_copyFrom_24 (by decide) ?_
  refine G.iconst (v := 4) C dX0_copyFrom_25 (by decide) ?_
  obtain ⟨M2, eM2, hf⟩ := stm_some hf
  refine G.copyi C (gx10_1 hk1) (gx10_1 hk0) k4_36 k3_11 k3_10 k1_15 (by decide) (by decide) (by decide) (by decide) (by decide) (Nat.le_of_ble_eq_true rfl) (by decide) eM2 dX0_copyFrom_26 ?_
  cases hf
  exact G.vret C Rt dX0_copyFrom_29
theorem mv_X0_copyFrom : gMV yX0_copyFrom cX0_copyFrom 2 none 1 := ⟨k4_33, k4_34, k1_7, k4_35, ⟨by decide +kernel, by decide +kernel, by decide +kernel⟩, by decide⟩
theorem c_X0_copyFrom {res : (Unit × Mem)} {k0 k1 : Nat} {M : Mem} (hk0 : gIs 10 k0) (hk1 : gIs 10 k1) (hf : f_X0_copyFrom k0 k1 M = some res) : Ct yX0_copyFrom cX0_copyFrom 2 none 1 (fun ad => [.ref (ad k0), .ref (ad k1)]) M none res.2 :=
  Ct.of (by decide +kernel) (fun _ => Nat.le_of_ble_eq_true rfl) (fun X ad C Rt => w_X0_copyFrom_E hk0 hk1 C Rt M hf)
set_option maxRecDepth 100000 in
set_option maxHeartbeats 4000000 in
theorem w_X0_isReached_77 {X : Gc} {ad : Nat → Nat} {res : Int32} {k1 : Nat} {M : Mem} {r_44 : Int32 → Option Int32} (hk1 : gIs 17 k1) (C : Gk X ad cX0_isReached "NineTongues$End" 3 1) (Rt : Gr X ad (some .boolean) (some (.int res)) M) (x2 : Int32) (h_44 : ∀ (x2 : Int32), r_44 x2 = some res → G X ad 44 3 [(0, .ref (ad 20)), (1, .ref (ad k1)), (2, .int x2)] [] M) (hf : f_X0_isReached_77 k1 M r_44 x2 = some res) : G X ad 77 3 [(0, .ref (ad 20)), (1, .ref (ad k1)), (2, .int x2)] [] M := by
  unfold f_X0_isReached_77 at hf
  refine G.iinc (pl := 2) (v := (x2 + 1)) (lv' := [(2, .int (x2 + 1)), (0, .ref (ad 20)), (1, .ref (ad k1))]) C dX0_isReached_77 rfl rfl (by decide) rfl ?_
  refine G.goto (tgt := 44) C dX0_isReached_80 (by decide) ?_
  refine G.sub (lv' := [(0, .ref (ad 20)), (1, .ref (ad k1)), (2, .int (x2 + 1))]) [1, 2, 0] rfl ?_
  exact h_44 (x2 + 1)  hf
set_option maxRecDepth 100000 in
set_option maxHeartbeats 4000000 in
theorem w_X0_isReached_44_b {X : Gc} {ad : Nat → Nat} {res : Int32} {k1 : Nat} {M : Mem} {r_44 : Int32 → Option Int32} (hk1 : gIs 17 k1) (C : Gk X ad cX0_isReached "NineTongues$End" 3 1) (Rt : Gr X ad (some .boolean) (some (.int res)) M) (h_44 : ∀ (x2 : Int32), r_44 x2 = some res → G X ad 44 3 [(0, .ref (ad 20)), (1, .ref (ad k1)), (2, .int x2)] [] M) (x2 : Int32) (hf : f_X0_isReached_44_b k1 M r_44 x2 = some res) : G X ad 44 3 [(0, .ref (ad 20)), (1, .ref (ad k1)), (2, .int x2)] [] M := by
  unfold f_X0_isReached_44_b at hf
  refine G.iload_n (pl := 2) C dX0_isReached_44 rfl rfl ?_
  refine G.iconst (v := 4) C dX0_isReached_45 (by decide) ?_
  refine G.icmp_ge (tgt := 83) C dX0_isReached_46 (by decide) (fun hc1 => ?_) (fun hc1 => ?_)
  · replace hf := gIf hf hc1
    refine G.iconst (v := 1) C dX0_isReached_83 (by decide) ?_
    cases hf
    exact G.zret C rfl Rt dX0_isReached_84
  · replace hf := gIfn hf hc1
    refine G.aload_n (pl := 0) C dX0_isReached_49 rfl rfl ?_
    refine gf0_1 C o_20 k1_143 dX0_isReached_50 ?_
    refine G.iload_n (pl := 2) C dX0_isReached_53 rfl rfl ?_
    obtain ⟨v1, ev1, hi1, hf⟩ := rd_some hf
    refine G.iald C a_22 hi1 ev1 dX0_isReached_54 ?_
    refine G.bipush (v := (-2)) C dX0_isReached_55 (by decide) ?_
    refine G.icmp_eq (tgt := 77) C dX0_isReached_57 (by decide) (fun hc2 => ?_) (fun hc2 => ?_)
    · replace hf := gIf hf hc2
      exact w_X0_isReached_77 hk1 C Rt x2 h_44 hf
    · replace hf := gIfn hf hc2
      refine G.aload_n (pl := 0) C dX0_isReached_60 rfl rfl ?_
      refine gf0_1 C o_20 k1_143 dX0_isReached_61 ?_
      refine G.iload_n (pl := 2) C dX0_isReached_64 rfl rfl ?_
      obtain ⟨v2, ev2, hi2, hf⟩ := rd_some hf
      refine G.iald C a_22 hi2 ev2 dX0_isReached_65 ?_
      refine G.aload_n (pl := 1) C dX0_isReached_66 rfl rfl ?_
      refine gf7_3 C hk1 k1_102 dX0_isReached_67 ?_
      refine G.iload_n (pl := 2) C dX0_isReached_70 rfl rfl ?_
      obtain ⟨v3, ev3, hi3, hf⟩ := rd_some hf
      refine G.iald C (gx17_3 hk1) hi3 ev3 dX0_isReached_71 ?_
      refine G.icmp_eq (tgt := 77) C dX0_isReached_72 (by decide) (fun hc3 => ?_) (fun hc3 => ?_)
      · replace hf := gIf hf hc3
        exact w_X0_isReached_77 hk1 C Rt x2 h_44 hf
      · replace hf := gIfn hf hc3
        refine G.iconst (v := 0) C dX0_isReached_75 (by decide) ?_
        cases hf
        exact G.zret C rfl Rt dX0_isReached_76
theorem w_X0_isReached_44 {X : Gc} {ad : Nat → Nat} {res : Int32} {k1 : Nat} {M : Mem} (hk1 : gIs 17 k1) (C : Gk X ad cX0_isReached "NineTongues$End" 3 1) (Rt : Gr X ad (some .boolean) (some (.int res)) M) : ∀ (n : Nat) (x2 : Int32), f_X0_isReached_44 k1 M n x2 = some res → G X ad 44 3 [(0, .ref (ad 20)), (1, .ref (ad k1)), (2, .int x2)] [] M := by
  intro n
  induction n with
  | zero => intro x2 hf; exact absurd (show (none : Option Int32) = some res from hf) (fun h => nomatch h)
  | succ n ih => intro x2 hf; exact w_X0_isReached_44_b hk1 C Rt ih x2 hf
set_option maxRecDepth 100000 in
set_option maxHeartbeats 4000000 in
theorem w_X0_isReached_36 {X : Gc} {ad : Nat → Nat} {res : Int32} {k1 : Nat} {M : Mem} {r_2 : Int32 → Option Int32} (hk1 : gIs 17 k1) (C : Gk X ad cX0_isReached "NineTongues$End" 3 1) (Rt : Gr X ad (some .boolean) (some (.int res)) M) (x2 : Int32) (h_2 : ∀ (x2 : Int32), r_2 x2 = some res → G X ad 2 3 [(0, .ref (ad 20)), (1, .ref (ad k1)), (2, .int x2)] [] M) (hf : f_X0_isReached_36 k1 M r_2 x2 = some res) : G X ad 36 3 [(0, .ref (ad 20)), (1, .ref (ad k1)), (2, .int x2)] [] M := by
  unfold f_X0_isReached_36 at hf
  refine G.iinc (pl := 2) (v := (x2 + 1)) (lv' := [(2, .int (x2 + 1)), (0, .ref (ad 20)), (1, .ref (ad k1))]) C dX0_isReached_36 rfl rfl (by decide) rfl ?_
  refine G.goto (tgt := 2) C dX0_isReached_39 (by decide) ?_
  refine G.sub (lv' := [(0, .ref (ad 20)), (1, .ref (ad k1)), (2, .int (x2 + 1))]) [1, 2, 0] rfl ?_
  exact h_2 (x2 + 1)  hf
set_option maxRecDepth 100000 in
set_option maxHeartbeats 4000000 in
theorem w_X0_isReached_2_b {X : Gc} {ad : Nat → Nat} {res : Int32} {k1 : Nat} {M : Mem} {r_2 : Int32 → Option Int32} (hk1 : gIs 17 k1) (C : Gk X ad cX0_isReached "NineTongues$End" 3 1) (Rt : Gr X ad (some .boolean) (some (.int res)) M) (h_2 : ∀ (x2 : Int32), r_2 x2 = some res → G X ad 2 3 [(0, .ref (ad 20)), (1, .ref (ad k1)), (2, .int x2)] [] M) (x2 : Int32) (hf : f_X0_isReached_2_b k1 M r_2 x2 = some res) : G X ad 2 3 [(0, .ref (ad 20)), (1, .ref (ad k1)), (2, .int x2)] [] M := by
  unfold f_X0_isReached_2_b at hf
  refine G.iload_n (pl := 2) C dX0_isReached_2 rfl rfl ?_
  refine G.aload_n (pl := 1) C dX0_isReached_3 rfl rfl ?_
  refine gf7_0 C hk1 k1_89 dX0_isReached_4 ?_
  refine G.icmp_ge (tgt := 42) C dX0_isReached_7 (by decide) (fun hc1 => ?_) (fun hc1 => ?_)
  · replace hf := gIf hf hc1
    refine G.iconst (v := 0) C dX0_isReached_42 (by decide) ?_
    refine G.istore_n (lv' := [(2, .int (0 : Int32)), (0, .ref (ad 20)), (1, .ref (ad k1))]) C dX0_isReached_43 rfl (by decide) rfl ?_
    refine G.sub (lv' := [(0, .ref (ad 20)), (1, .ref (ad k1)), (2, .int (0 : Int32))]) [1, 2, 0] rfl ?_
    exact w_X0_isReached_44 hk1 C Rt FU (0 : Int32) hf
  · replace hf := gIfn hf hc1
    refine G.aload_n (pl := 0) C dX0_isReached_10 rfl rfl ?_
    refine gf0_0 C o_20 k1_140 dX0_isReached_11 ?_
    refine G.iload_n (pl := 2) C dX0_isReached_14 rfl rfl ?_
    obtain ⟨v1, ev1, hi1, hf⟩ := rd_some hf
    refine G.iald C a_21 hi1 ev1 dX0_isReached_15 ?_
    refine G.if_eq (tgt := 36) C dX0_isReached_16 (by decide) (fun hc2 => ?_) (fun hc2 => ?_)
    · replace hf := gIf hf hc2
      exact w_X0_isReached_36 hk1 C Rt x2 h_2 hf
    · replace hf := gIfn hf hc2
      refine G.aload_n (pl := 0) C dX0_isReached_19 rfl rfl ?_
      refine gf0_0 C o_20 k1_140 dX0_isReached_20 ?_
      refine G.iload_n (pl := 2) C dX0_isReached_23 rfl rfl ?_
      obtain ⟨v2, ev2, hi2, hf⟩ := rd_some hf
      refine G.iald C a_21 hi2 ev2 dX0_isReached_24 ?_
      refine G.aload_n (pl := 1) C dX0_isReached_25 rfl rfl ?_
      refine gf7_1 C hk1 k1_94 dX0_isReached_26 ?_
      refine G.iload_n (pl := 2) C dX0_isReached_29 rfl rfl ?_
      obtain ⟨v3, ev3, hi3, hf⟩ := rd_some hf
      refine G.iald C (gx17_1 hk1) hi3 ev3 dX0_isReached_30 ?_
      refine G.icmp_eq (tgt := 36) C dX0_isReached_31 (by decide) (fun hc3 => ?_) (fun hc3 => ?_)
      · replace hf := gIf hf hc3
        exact w_X0_isReached_36 hk1 C Rt x2 h_2 hf
      · replace hf := gIfn hf hc3
        refine G.iconst (v := 0) C dX0_isReached_34 (by decide) ?_
        cases hf
        exact G.zret C rfl Rt dX0_isReached_35
theorem w_X0_isReached_2 {X : Gc} {ad : Nat → Nat} {res : Int32} {k1 : Nat} {M : Mem} (hk1 : gIs 17 k1) (C : Gk X ad cX0_isReached "NineTongues$End" 3 1) (Rt : Gr X ad (some .boolean) (some (.int res)) M) : ∀ (n : Nat) (x2 : Int32), f_X0_isReached_2 k1 M n x2 = some res → G X ad 2 3 [(0, .ref (ad 20)), (1, .ref (ad k1)), (2, .int x2)] [] M := by
  intro n
  induction n with
  | zero => intro x2 hf; exact absurd (show (none : Option Int32) = some res from hf) (fun h => nomatch h)
  | succ n ih => intro x2 hf; exact w_X0_isReached_2_b hk1 C Rt ih x2 hf
set_option maxRecDepth 100000 in
set_option maxHeartbeats 4000000 in
theorem w_X0_isReached_E {X : Gc} {ad : Nat → Nat} {res : Int32} {k1 : Nat} {M : Mem} (hk1 : gIs 17 k1) (C : Gk X ad cX0_isReached "NineTongues$End" 3 1) (Rt : Gr X ad (some .boolean) (some (.int res)) M) (hf : f_X0_isReached k1 M = some res) : G X ad 0 3 [(0, .ref (ad 20)), (1, .ref (ad k1))] [] M := by
  unfold f_X0_isReached at hf
  refine G.iconst (v := 0) C dX0_isReached_0 (by decide) ?_
  refine G.istore_n (lv' := [(2, .int (0 : Int32)), (0, .ref (ad 20)), (1, .ref (ad k1))]) C dX0_isReached_1 rfl (by decide) rfl ?_
  refine G.sub (lv' := [(0, .ref (ad 20)), (1, .ref (ad k1)), (2, .int (0 : Int32))]) [1, 2, 0] rfl ?_
  exact w_X0_isReached_2 hk1 C Rt FU (0 : Int32) hf
theorem mv_X0_isReached : gMV yX0_isReached cX0_isReached 3 (some .boolean) 1 := ⟨k3_172, k3_173, k1_7, k3_174, ⟨by decide +kernel, by decide +kernel, by decide +kernel⟩, by decide⟩
theorem c_X0_isReached {res : Int32} {k1 : Nat} {M : Mem} (hk1 : gIs 17 k1) (hf : f_X0_isReached k1 M = some res) : Ct yX0_isReached cX0_isReached 3 (some .boolean) 1 (fun ad => [.ref (ad 20), .ref (ad k1)]) M (some (.int res)) M :=
  Ct.of (by decide +kernel) (fun _ => Nat.le_of_ble_eq_true rfl) (fun X ad C Rt => w_X0_isReached_E hk1 C Rt hf)
set_option maxRecDepth 100000 in
set_option maxHeartbeats 4000000 in
theorem w_X1_copyFrom_E {X : Gc} {ad : Nat → Nat} {res : (Unit × Mem)} {k0 k1 : Nat} (hk0 : gIs 11 k0) (hk1 : gIs 11 k1) (C : Gk X ad cX1_copyFrom "NineTongues$Lexicon" 2 1) (Rt : Gr X ad none none res.2) (M : Mem) (hf : f_X1_copyFrom k0 k1 M = some res) : G X ad 0 2 [(0, .ref (ad k0)), (1, .ref (ad k1))] [] M := by
  unfold f_X1_copyFrom at hf
  refine G.aload_n (pl := 0) C dX1_copyFrom_0 rfl rfl ?_
  refine G.aload_n (pl := 1) C dX1_copyFrom_1 rfl rfl ?_
  refine gf1_0 C hk1 k1_36 dX1_copyFrom_2 ?_
  obtain ⟨M1, eM1, hf⟩ := stm_some hf
  refine gp1_0 C hk0 k1_36 eM1 dX1_copyFrom_5 ?_
  refine G.aload_n (pl := 0) C dX1_copyFrom_8 rfl rfl ?_
  refine G.aload_n (pl := 1) C dX1_copyFrom_9 rfl rfl ?_
  refine gf1_1 C hk1 k1_39 dX1_copyFrom_10 ?_
  obtain ⟨M2, eM2, hf⟩ := stm_some hf
  refine gp1_1 C hk0 k1_39 eM2 dX1_copyFrom_13 ?_
  refine G.aload_n (pl := 0) C dX1_copyFrom_16 rfl rfl ?_
  refine G.aload_n (pl := 1) C dX1_copyFrom_17 rfl rfl ?_
  refine gf1_2 C hk1 k1_41 dX1_copyFrom_18 ?_
  obtain ⟨M3, eM3, hf⟩ := stm_some hf
  refine gp1_2 C hk0 k1_41 eM3 dX1_copyFrom_21 ?_
  refine G.aload_n (pl := 1) C dX1_copyFrom_24 rfl rfl ?_
  refine gf1_3 C hk1 k1_43 dX1_copyFrom_25 ?_
  refine G.iconst (v := 0) C dX1_copyFrom_28 (by decide) ?_
  refine G.aload_n (pl := 0) C dX1_copyFrom_29 rfl rfl ?_
  refine gf1_3 C hk0 k1_43 dX1_copyFrom_30 ?_
  refine G.iconst (v := 0) C dX1_copyFrom_33 (by decide) ?_
  refine G.bipush (v := 6) C dX1_copyFrom_34 (by decide) ?_
  obtain ⟨M4, eM4, hf⟩ := stm_some hf
  refine G.copyi C (gx11_3 hk1) (gx11_3 hk0) k4_25 k3_11 k3_10 k1_15 (by decide) (by decide) (by decide) (by decide) (by decide) (Nat.le_of_ble_eq_true rfl) (by decide) eM4 dX1_copyFrom_36 ?_
  refine G.aload_n (pl := 1) C dX1_copyFrom_39 rfl rfl ?_
  refine gf1_4 C hk1 k1_44 dX1_copyFrom_40 ?_
  refine G.iconst (v := 0) C dX1_copyFrom_43 (by decide) ?_
  refine G.aload_n (pl := 0) C dX1_copyFrom_44 rfl rfl ?_
  refine gf1_4 C hk0 k1_44 dX1_copyFrom_45 ?_
  refine G.iconst (v := 0) C dX1_copyFrom_48 (by decide) ?_
  refine G.bipush (v := 6) C dX1_copyFrom_49 (by decide) ?_
  obtain ⟨M5, eM5, hf⟩ := stm_some hf
  refine G.copyi C (gx11_4 hk1) (gx11_4 hk0) k4_25 k3_11 k3_10 k1_15 (by decide) (by decide) (by decide) (by decide) (by decide) (Nat.le_of_ble_eq_true rfl) (by decide) eM5 dX1_copyFrom_51 ?_
  refine G.aload_n (pl := 1) C dX1_copyFrom_54 rfl rfl ?_
  refine gf1_5 C hk1 k1_45 dX1_copyFrom_55 ?_
  refine G.iconst (v := 0) C dX1_copyFrom_58 (by decide) ?_
  refine G.aload_n (pl := 0) C dX1_copyFrom_59 rfl rfl ?_
  refine gf1_5 C hk0 k1_45 dX1_copyFrom_60 ?_
  refine G.iconst (v := 0) C dX1_copyFrom_63 (by decide) ?_
  refine G.bipush (v := 6) C dX1_copyFrom_64 (by decide) ?_
  obtain ⟨M6, eM6, hf⟩ := stm_some hf
  refine G.copyi C (gx11_5 hk1) (gx11_5 hk0) k4_25 k3_11 k3_10 k1_15 (by decide) (by decide) (by decide) (by decide) (by decide) (Nat.le_of_ble_eq_true rfl) (by decide) eM6 dX1_copyFrom_66 ?_
  refine G.aload_n (pl := 1) C dX1_copyFrom_69 rfl rfl ?_
  refine gf1_6 C hk1 k1_46 dX1_copyFrom_70 ?_
  refine G.iconst (v := 0) C dX1_copyFrom_73 (by decide) ?_
  refine G.aload_n (pl := 0) C dX1_copyFrom_74 rfl rfl ?_
  refine gf1_6 C hk0 k1_46 dX1_copyFrom_75 ?_
  refine G.iconst (v := 0) C dX1_copyFrom_78 (by decide) ?_
  refine G.bipush (v := 6) C dX1_copyFrom_79 (by decide) ?_
  obtain ⟨M7, eM7, hf⟩ := stm_some hf
  refine G.copyi C (gx11_6 hk1) (gx11_6 hk0) k4_25 k3_11 k3_10 k1_15 (by decide) (by decide) (by decide) (by decide) (by decide) (Nat.le_of_ble_eq_true rfl) (by decide) eM7 dX1_copyFrom_81 ?_
  refine G.aload_n (pl := 1) C dX1_copyFrom_84 rfl rfl ?_
  refine gf1_7 C hk1 k1_49 dX1_copyFrom_85 ?_
  refine G.iconst (v := 0) C dX1_copyFrom_88 (by decide) ?_
  refine G.aload_n (pl := 0) C dX1_copyFrom_89 rfl rfl ?_
  refine gf1_7 C hk0 k1_49 dX1_copyFrom_90 ?_
  refine G.iconst (v := 0) C dX1_copyFrom_93 (by decide) ?_
  refine G.bipush (v := 48) C dX1_copyFrom_94 (by decide) ?_
  obtain ⟨M8, eM8, hf⟩ := stm_some hf
  refine G.copyi C (gx11_7 hk1) (gx11_7 hk0) k4_25 k3_11 k3_10 k1_15 (by decide) (by decide) (by decide) (by decide) (by decide) (Nat.le_of_ble_eq_true rfl) (by decide) eM8 dX1_copyFrom_96 ?_
  refine G.aload_n (pl := 1) C dX1_copyFrom_99 rfl rfl ?_
  refine gf1_8 C hk1 k1_51 dX1_copyFrom_100 ?_
  refine G.iconst (v := 0) C dX1_copyFrom_103 (by decide) ?_
  refine G.aload_n (pl := 0) C dX1_copyFrom_104 rfl rfl ?_
  refine gf1_8 C hk0 k1_51 dX1_copyFrom_105 ?_
  refine G.iconst (v := 0) C dX1_copyFrom_108 (by decide) ?_
  refine G.bipush (v := 48) C dX1_copyFrom_109 (by decide) ?_
  obtain ⟨M9, eM9, hf⟩ := stm_some hf
  refine G.copyi C (gx11_8 hk1) (gx11_8 hk0) k4_25 k3_11 k3_10 k1_15 (by decide) (by decide) (by decide) (by decide) (by decide) (Nat.le_of_ble_eq_true rfl) (by decide) eM9 dX1_copyFrom_111 ?_
  refine G.aload_n (pl := 1) C dX1_copyFrom_114 rfl rfl ?_
  refine gf1_9 C hk1 k1_52 dX1_copyFrom_115 ?_
  refine G.iconst (v := 0) C dX1_copyFrom_118 (by decide) ?_
  refine G.aload_n (pl := 0) C dX1_copyFrom_119 rfl rfl ?_
  refine gf1_9 C hk0 k1_52 dX1_copyFrom_120 ?_
  refine G.iconst (v := 0) C dX1_copyFrom_123 (by decide) ?_
  refine G.bipush (v := 48) C dX1_copyFrom_124 (by decide) ?_
  obtain ⟨M10, eM10, hf⟩ := stm_some hf
  refine G.copyi C (gx11_9 hk1) (gx11_9 hk0) k4_25 k3_11 k3_10 k1_15 (by decide) (by decide) (by decide) (by decide) (by decide) (Nat.le_of_ble_eq_true rfl) (by decide) eM10 dX1_copyFrom_126 ?_
  cases hf
  exact G.vret C Rt dX1_copyFrom_129
theorem mv_X1_copyFrom : gMV yX1_copyFrom cX1_copyFrom 2 none 1 := ⟨k4_22, k4_23, k1_3, k4_24, ⟨by decide +kernel, by decide +kernel, by decide +kernel⟩, by decide⟩
theorem c_X1_copyFrom {res : (Unit × Mem)} {k0 k1 : Nat} {M : Mem} (hk0 : gIs 11 k0) (hk1 : gIs 11 k1) (hf : f_X1_copyFrom k0 k1 M = some res) : Ct yX1_copyFrom cX1_copyFrom 2 none 1 (fun ad => [.ref (ad k0), .ref (ad k1)]) M none res.2 :=
  Ct.of (by decide +kernel) (fun _ => Nat.le_of_ble_eq_true rfl) (fun X ad C Rt => w_X1_copyFrom_E hk0 hk1 C Rt M hf)
set_option maxRecDepth 100000 in
set_option maxHeartbeats 4000000 in
theorem w_X9_isIn_E {X : Gc} {ad : Nat → Nat} {res : Int32} {M : Mem} (C : Gk X ad cX9_isIn "NineTongues" 3 1) (Rt : Gr X ad (some .boolean) (some (.int res)) M) (x0 : Int32) (x1 : Int32) (x2 : Int32) (hf : f_X9_isIn x0 x1 x2 M = some res) : G X ad 0 3 [(0, .int x0), (1, .int x1), (2, .int x2)] [] M := by
  unfold f_X9_isIn at hf
  refine G.iload_n (pl := 0) C dX9_isIn_0 rfl rfl ?_
  refine G.iload_n (pl := 1) C dX9_isIn_1 rfl rfl ?_
  refine G.icmp_lt (tgt := 14) C dX9_isIn_2 (by decide) (fun hc1 => ?_) (fun hc1 => ?_)
  · replace hf := gIf hf hc1
    refine G.iconst (v := 0) C dX9_isIn_14 (by decide) ?_
    cases hf
    exact G.zret C rfl Rt dX9_isIn_15
  · replace hf := gIfn hf hc1
    refine G.iload_n (pl := 0) C dX9_isIn_5 rfl rfl ?_
    refine G.iload_n (pl := 2) C dX9_isIn_6 rfl rfl ?_
    refine G.icmp_gt (tgt := 14) C dX9_isIn_7 (by decide) (fun hc2 => ?_) (fun hc2 => ?_)
    · replace hf := gIf hf hc2
      refine G.iconst (v := 0) C dX9_isIn_14 (by decide) ?_
      cases hf
      exact G.zret C rfl Rt dX9_isIn_15
    · replace hf := gIfn hf hc2
      refine G.iconst (v := 1) C dX9_isIn_10 (by decide) ?_
      refine G.goto (tgt := 15) C dX9_isIn_11 (by decide) ?_
      cases hf
      exact G.zret C rfl Rt dX9_isIn_15
theorem mv_X9_isIn : gMS yX9_isIn cX9_isIn 3 (some .boolean) 3 := ⟨k2_86, k1_1, k2_87, ⟨by decide +kernel, by decide +kernel, by decide +kernel⟩, by decide⟩
theorem c_X9_isIn {res : Int32} {x0 : Int32} {x1 : Int32} {x2 : Int32} {M : Mem} (hf : f_X9_isIn x0 x1 x2 M = some res) : Ct yX9_isIn cX9_isIn 3 (some .boolean) 1 (fun ad => [.int x0, .int x1, .int x2]) M (some (.int res)) M :=
  Ct.of (by decide +kernel) (fun _ => Nat.le_of_ble_eq_true rfl) (fun X ad C Rt => w_X9_isIn_E C Rt x0 x1 x2 hf)
set_option maxRecDepth 100000 in
set_option maxHeartbeats 4000000 in
theorem w_X1_hasTongue_E {X : Gc} {ad : Nat → Nat} {res : Int32} {M : Mem} (C : Gk X ad cX1_hasTongue "NineTongues$Lexicon" 2 2) (Rt : Gr X ad (some .boolean) (some (.int res)) M) (x1 : Int32) (hf : f_X1_hasTongue x1 M = some res) : G X ad 0 2 [(0, .ref (ad 6)), (1, .int x1)] [] M := by
  unfold f_X1_hasTongue at hf
  refine G.iload_n (pl := 1) C dX1_hasTongue_0 rfl rfl ?_
  refine G.iconst (v := 0) C dX1_hasTongue_1 (by decide) ?_
  refine G.aload_n (pl := 0) C dX1_hasTongue_2 rfl rfl ?_
  refine gf1_0 C o_6 k1_36 dX1_hasTongue_3 ?_
  refine G.iconst (v := 1) C dX1_hasTongue_6 (by decide) ?_
  refine G.isub C dX1_hasTongue_7 ?_
  obtain ⟨v1, hr1, hf⟩ := cp_some hf
  refine G.callN (st1 := [.int v1]) C [.int x1, .int (0 : Int32), .int ((M.1 6 0) - (1 : Int32))] [] (c_X9_isIn hr1) mv_X9_isIn (List.mem_of_getElem? (i := 0) rfl) rfl rfl rfl (Nat.le_of_ble_eq_true rfl) (by decide) dX1_hasTongue_8 rfl ?_
  obtain ⟨hz, hf⟩ := rz_some hf
  cases hf
  exact G.zret C hz Rt dX1_hasTongue_11
theorem mv_X1_hasTongue : gMV yX1_hasTongue cX1_hasTongue 2 (some .boolean) 1 := ⟨k2_105, k2_106, k1_3, k2_107, ⟨by decide +kernel, by decide +kernel, by decide +kernel⟩, by decide⟩
theorem c_X1_hasTongue {res : Int32} {x1 : Int32} {M : Mem} (hf : f_X1_hasTongue x1 M = some res) : Ct yX1_hasTongue cX1_hasTongue 2 (some .boolean) 2 (fun ad => [.ref (ad 6), .int x1]) M (some (.int res)) M :=
  Ct.of (by decide +kernel) (fun _ => Nat.le_of_ble_eq_true rfl) (fun X ad C Rt => w_X1_hasTongue_E C Rt x1 hf)
set_option maxRecDepth 100000 in
set_option maxHeartbeats 4000000 in
theorem w_X1_hasWords_E {X : Gc} {ad : Nat → Nat} {res : Int32} {M : Mem} (C : Gk X ad cX1_hasWords "NineTongues$Lexicon" 2 3) (Rt : Gr X ad (some .boolean) (some (.int res)) M) (x1 : Int32) (hf : f_X1_hasWords x1 M = some res) : G X ad 0 2 [(0, .ref (ad 6)), (1, .int x1)] [] M := by
  unfold f_X1_hasWords at hf
  refine G.aload_n (pl := 0) C dX1_hasWords_0 rfl rfl ?_
  refine G.iload_n (pl := 1) C dX1_hasWords_1 rfl rfl ?_
  obtain ⟨v1, hr1, hf⟩ := cp_some hf
  refine G.callV (st1 := [.int v1]) C [.int x1] [] (c_X1_hasTongue hr1) mv_X1_hasTongue k2_149 o_6.1 (fun _ => gShp_11 o_6) rfl rfl rfl rfl rfl (Nat.le_of_ble_eq_true rfl) (by decide) dX1_hasWords_2 rfl ?_
  refine G.if_eq (tgt := 21) C dX1_hasWords_5 (by decide) (fun hc1 => ?_) (fun hc1 => ?_)
  · replace hf := gIf hf hc1
    refine G.iconst (v := 0) C dX1_hasWords_21 (by decide) ?_
    cases hf
    exact G.zret C rfl Rt dX1_hasWords_22
  · replace hf := gIfn hf hc1
    refine G.aload_n (pl := 0) C dX1_hasWords_8 rfl rfl ?_
    refine gf1_6 C o_6 k1_46 dX1_hasWords_9 ?_
    refine G.iload_n (pl := 1) C dX1_hasWords_12 rfl rfl ?_
    obtain ⟨v2, ev1, hi1, hf⟩ := rd_some hf
    refine G.iald C a_10 hi1 ev1 dX1_hasWords_13 ?_
    refine G.if_le (tgt := 21) C dX1_hasWords_14 (by decide) (fun hc2 => ?_) (fun hc2 => ?_)
    · replace hf := gIf hf hc2
      refine G.iconst (v := 0) C dX1_hasWords_21 (by decide) ?_
      cases hf
      exact G.zret C rfl Rt dX1_hasWords_22
    · replace hf := gIfn hf hc2
      refine G.iconst (v := 1) C dX1_hasWords_17 (by decide) ?_
      refine G.goto (tgt := 22) C dX1_hasWords_18 (by decide) ?_
      cases hf
      exact G.zret C rfl Rt dX1_hasWords_22
theorem mv_X1_hasWords : gMV yX1_hasWords cX1_hasWords 2 (some .boolean) 1 := ⟨k2_218, k2_219, k1_3, k2_220, ⟨by decide +kernel, by decide +kernel, by decide +kernel⟩, by decide⟩
theorem c_X1_hasWords {res : Int32} {x1 : Int32} {M : Mem} (hf : f_X1_hasWords x1 M = some res) : Ct yX1_hasWords cX1_hasWords 2 (some .boolean) 3 (fun ad => [.ref (ad 6), .int x1]) M (some (.int res)) M :=
  Ct.of (by decide +kernel) (fun _ => Nat.le_of_ble_eq_true rfl) (fun X ad C Rt => w_X1_hasWords_E C Rt x1 hf)
set_option maxRecDepth 100000 in
set_option maxHeartbeats 4000000 in
theorem w_X1_hasWord_E {X : Gc} {ad : Nat → Nat} {res : Int32} {M : Mem} (C : Gk X ad cX1_hasWord "NineTongues$Lexicon" 3 3) (Rt : Gr X ad (some .boolean) (some (.int res)) M) (x1 : Int32) (x2 : Int32) (hf : f_X1_hasWord x1 x2 M = some res) : G X ad 0 3 [(0, .ref (ad 6)), (1, .int x1), (2, .int x2)] [] M := by
  unfold f_X1_hasWord at hf
  refine G.aload_n (pl := 0) C dX1_hasWord_0 rfl rfl ?_
  refine G.iload_n (pl := 1) C dX1_hasWord_1 rfl rfl ?_
  obtain ⟨v1, hr1, hf⟩ := cp_some hf
  refine G.callV (st1 := [.int v1]) C [.int x1] [] (c_X1_hasTongue hr1) mv_X1_hasTongue k2_149 o_6.1 (fun _ => gShp_11 o_6) rfl rfl rfl rfl rfl (Nat.le_of_ble_eq_true rfl) (by decide) dX1_hasWord_2 rfl ?_
  refine G.if_eq (tgt := 28) C dX1_hasWord_5 (by decide) (fun hc1 => ?_) (fun hc1 => ?_)
  · replace hf := gIf hf hc1
    refine G.iconst (v := 0) C dX1_hasWord_28 (by decide) ?_
    cases hf
    exact G.zret C rfl Rt dX1_hasWord_29
  · replace hf := gIfn hf hc1
    refine G.iload_n (pl := 2) C dX1_hasWord_8 rfl rfl ?_
    refine G.iconst (v := 0) C dX1_hasWord_9 (by decide) ?_
    refine G.aload_n (pl := 0) C dX1_hasWord_10 rfl rfl ?_
    refine gf1_6 C o_6 k1_46 dX1_hasWord_11 ?_
    refine G.iload_n (pl := 1) C dX1_hasWord_14 rfl rfl ?_
    obtain ⟨v2, ev1, hi1, hf⟩ := rd_some hf
    refine G.iald C a_10 hi1 ev1 dX1_hasWord_15 ?_
    refine G.iconst (v := 1) C dX1_hasWord_16 (by decide) ?_
    refine G.isub C dX1_hasWord_17 ?_
    obtain ⟨v3, hr2, hf⟩ := cp_some hf
    refine G.callN (st1 := [.int v3]) C [.int x2, .int (0 : Int32), .int (v2 - (1 : Int32))] [] (c_X9_isIn hr2) mv_X9_isIn (List.mem_of_getElem? (i := 0) rfl) rfl rfl rfl (Nat.le_of_ble_eq_true rfl) (by decide) dX1_hasWord_18 rfl ?_
    refine G.if_eq (tgt := 28) C dX1_hasWord_21 (by decide) (fun hc2 => ?_) (fun hc2 => ?_)
    · replace hf := gIf hf hc2
      refine G.iconst (v := 0) C dX1_hasWord_28 (by decide) ?_
      cases hf
      exact G.zret C rfl Rt dX1_hasWord_29
    · replace hf := gIfn hf hc2
      refine G.iconst (v := 1) C dX1_hasWord_24 (by decide) ?_
      refine G.goto (tgt := 29) C dX1_hasWord_25 (by decide) ?_
      cases hf
      exact G.zret C rfl Rt dX1_hasWord_29
theorem mv_X1_hasWord : gMV yX1_hasWord cX1_hasWord 3 (some .boolean) 2 := ⟨k2_146, k2_147, k1_3, k2_148, ⟨by decide +kernel, by decide +kernel, by decide +kernel⟩, by decide⟩
theorem c_X1_hasWord {res : Int32} {x1 : Int32} {x2 : Int32} {M : Mem} (hf : f_X1_hasWord x1 x2 M = some res) : Ct yX1_hasWord cX1_hasWord 3 (some .boolean) 3 (fun ad => [.ref (ad 6), .int x1, .int x2]) M (some (.int res)) M :=
  Ct.of (by decide +kernel) (fun _ => Nat.le_of_ble_eq_true rfl) (fun X ad C Rt => w_X1_hasWord_E C Rt x1 x2 hf)
set_option maxRecDepth 100000 in
set_option maxHeartbeats 4000000 in
theorem w_X1_isWordAt_E {X : Gc} {ad : Nat → Nat} {res : Int32} {M : Mem} (C : Gk X ad cX1_isWordAt "NineTongues$Lexicon" 2 4) (Rt : Gr X ad (some .boolean) (some (.int res)) M) (x1 : Int32) (hf : f_X1_isWordAt x1 M = some res) : G X ad 0 2 [(0, .ref (ad 6)), (1, .int x1)] [] M := by
  unfold f_X1_isWordAt at hf
  refine G.iload_n (pl := 1) C dX1_isWordAt_0 rfl rfl ?_
  refine G.if_lt (tgt := 23) C dX1_isWordAt_1 (by decide) (fun hc1 => ?_) (fun hc1 => ?_)
  · replace hf := gIf hf hc1
    refine G.iconst (v := 0) C dX1_isWordAt_23 (by decide) ?_
    cases hf
    exact G.zret C rfl Rt dX1_isWordAt_24
  · replace hf := gIfn hf hc1
    refine G.aload_n (pl := 0) C dX1_isWordAt_4 rfl rfl ?_
    refine G.iload_n (pl := 1) C dX1_isWordAt_5 rfl rfl ?_
    refine G.bipush (v := 8) C dX1_isWordAt_6 (by decide) ?_
    refine G.idiv C (by decide) dX1_isWordAt_8 ?_
    refine G.iload_n (pl := 1) C dX1_isWordAt_9 rfl rfl ?_
    refine G.bipush (v := 8) C dX1_isWordAt_10 (by decide) ?_
    refine G.irem C (by decide) dX1_isWordAt_12 ?_
    obtain ⟨v1, hr1, hf⟩ := cp_some hf
    refine G.callV (st1 := [.int v1]) C [.int (x1 / (8 : Int32)), .int (x1 % (8 : Int32))] [] (c_X1_hasWord hr1) mv_X1_hasWord k3_149 o_6.1 (fun _ => gShp_11 o_6) rfl rfl rfl rfl rfl (Nat.le_of_ble_eq_true rfl) (by decide) dX1_isWordAt_13 rfl ?_
    refine G.if_eq (tgt := 23) C dX1_isWordAt_16 (by decide) (fun hc2 => ?_) (fun hc2 => ?_)
    · replace hf := gIf hf hc2
      refine G.iconst (v := 0) C dX1_isWordAt_23 (by decide) ?_
      cases hf
      exact G.zret C rfl Rt dX1_isWordAt_24
    · replace hf := gIfn hf hc2
      refine G.iconst (v := 1) C dX1_isWordAt_19 (by decide) ?_
      refine G.goto (tgt := 24) C dX1_isWordAt_20 (by decide) ?_
      cases hf
      exact G.zret C rfl Rt dX1_isWordAt_24
theorem mv_X1_isWordAt : gMV yX1_isWordAt cX1_isWordAt 2 (some .boolean) 1 := ⟨k3_146, k3_147, k1_3, k3_148, ⟨by decide +kernel, by decide +kernel, by decide +kernel⟩, by decide⟩
theorem c_X1_isWordAt {res : Int32} {x1 : Int32} {M : Mem} (hf : f_X1_isWordAt x1 M = some res) : Ct yX1_isWordAt cX1_isWordAt 2 (some .boolean) 4 (fun ad => [.ref (ad 6), .int x1]) M (some (.int res)) M :=
  Ct.of (by decide +kernel) (fun _ => Nat.le_of_ble_eq_true rfl) (fun X ad C Rt => w_X1_isWordAt_E C Rt x1 hf)
set_option maxRecDepth 100000 in
set_option maxHeartbeats 4000000 in
theorem w_X1_addTongue_E {X : Gc} {ad : Nat → Nat} {res : (Int32 × Mem)} (C : Gk X ad cX1_addTongue "NineTongues$Lexicon" 4 1) (Rt : Gr X ad (some .int) (some (.int res.1)) res.2) (x1 : Int32) (x2 : Int32) (x3 : Int32) (M : Mem) (hf : f_X1_addTongue x1 x2 x3 M = some res) : G X ad 0 4 [(0, .ref (ad 6)), (1, .int x1), (2, .int x2), (3, .int x3)] [] M := by
  unfold f_X1_addTongue at hf
  refine G.aload_n (pl := 0) C dX1_addTongue_0 rfl rfl ?_
  refine gf1_3 C o_6 k1_43 dX1_addTongue_1 ?_
  refine G.aload_n (pl := 0) C dX1_addTongue_4 rfl rfl ?_
  refine gf1_0 C o_6 k1_36 dX1_addTongue_5 ?_
  refine G.iload_n (pl := 1) C dX1_addTongue_8 rfl rfl ?_
  obtain ⟨hi1, hf⟩ := ck_some hf
  obtain ⟨M1, eM1, hf⟩ := stm_some hf
  refine G.iast C a_7 hi1 eM1 dX1_addTongue_9 ?_
  refine G.aload_n (pl := 0) C dX1_addTongue_10 rfl rfl ?_
  refine gf1_4 C o_6 k1_44 dX1_addTongue_11 ?_
  refine G.aload_n (pl := 0) C dX1_addTongue_14 rfl rfl ?_
  refine gf1_0 C o_6 k1_36 dX1_addTongue_15 ?_
  refine G.iload_n (pl := 2) C dX1_addTongue_18 rfl rfl ?_
  obtain ⟨hi2, hf⟩ := ck_some hf
  obtain ⟨M2, eM2, hf⟩ := stm_some hf
  refine G.iast C a_8 hi2 eM2 dX1_addTongue_19 ?_
  refine G.aload_n (pl := 0) C dX1_addTongue_20 rfl rfl ?_
  refine gf1_5 C o_6 k1_45 dX1_addTongue_21 ?_
  refine G.aload_n (pl := 0) C dX1_addTongue_24 rfl rfl ?_
  refine gf1_0 C o_6 k1_36 dX1_addTongue_25 ?_
  refine G.iload_n (pl := 3) C dX1_addTongue_28 rfl rfl ?_
  obtain ⟨hi3, hf⟩ := ck_some hf
  obtain ⟨M3, eM3, hf⟩ := stm_some hf
  refine G.iast C a_9 hi3 eM3 dX1_addTongue_29 ?_
  refine G.aload_n (pl := 0) C dX1_addTongue_30 rfl rfl ?_
  refine gf1_6 C o_6 k1_46 dX1_addTongue_31 ?_
  refine G.aload_n (pl := 0) C dX1_addTongue_34 rfl rfl ?_
  refine gf1_0 C o_6 k1_36 dX1_addTongue_35 ?_
  refine G.iconst (v := 0) C dX1_addTongue_38 (by decide) ?_
  obtain ⟨hi4, hf⟩ := ck_some hf
  obtain ⟨M4, eM4, hf⟩ := stm_some hf
  refine G.iast C a_10 hi4 eM4 dX1_addTongue_39 ?_
  refine G.aload_n (pl := 0) C dX1_addTongue_40 rfl rfl ?_
  refine G.dup C dX1_addTongue_41 rfl ?_
  refine gf1_0 C o_6 k1_36 dX1_addTongue_42 ?_
  refine G.iconst (v := 1) C dX1_addTongue_45 (by decide) ?_
  refine G.iadd C dX1_addTongue_46 ?_
  obtain ⟨M5, eM5, hf⟩ := stm_some hf
  refine gp1_0 C o_6 k1_36 eM5 dX1_addTongue_47 ?_
  refine G.aload_n (pl := 0) C dX1_addTongue_50 rfl rfl ?_
  refine gf1_0 C o_6 k1_36 dX1_addTongue_51 ?_
  refine G.iconst (v := 1) C dX1_addTongue_54 (by decide) ?_
  refine G.isub C dX1_addTongue_55 ?_
  cases hf
  exact G.iret C Rt dX1_addTongue_56
theorem mv_X1_addTongue : gMV yX1_addTongue cX1_addTongue 4 (some .int) 3 := ⟨k2_97, k2_98, k1_3, k2_99, ⟨by decide +kernel, by decide +kernel, by decide +kernel⟩, by decide⟩
theorem c_X1_addTongue {res : (Int32 × Mem)} {x1 : Int32} {x2 : Int32} {x3 : Int32} {M : Mem} (hf : f_X1_addTongue x1 x2 x3 M = some res) : Ct yX1_addTongue cX1_addTongue 4 (some .int) 1 (fun ad => [.ref (ad 6), .int x1, .int x2, .int x3]) M (some (.int res.1)) res.2 :=
  Ct.of (by decide +kernel) (fun _ => Nat.le_of_ble_eq_true rfl) (fun X ad C Rt => w_X1_addTongue_E C Rt x1 x2 x3 M hf)
set_option maxRecDepth 100000 in
set_option maxHeartbeats 4000000 in
theorem w_X1_addWord_E {X : Gc} {ad : Nat → Nat} {res : (Int32 × Mem)} (C : Gk X ad cX1_addWord "NineTongues$Lexicon" 7 1) (Rt : Gr X ad (some .int) (some (.int res.1)) res.2) (x1 : Int32) (x2 : Int32) (x3 : Int32) (x4 : Int32) (M : Mem) (hf : f_X1_addWord x1 x2 x3 x4 M = some res) : G X ad 0 7 [(0, .ref (ad 6)), (1, .int x1), (2, .int x2), (3, .int x3), (4, .int x4)] [] M := by
  unfold f_X1_addWord at hf
  refine G.aload_n (pl := 0) C dX1_addWord_0 rfl rfl ?_
  refine gf1_6 C o_6 k1_46 dX1_addWord_1 ?_
  refine G.iload_n (pl := 1) C dX1_addWord_4 rfl rfl ?_
  obtain ⟨v1, ev1, hi1, hf⟩ := rd_some hf
  refine G.iald C a_10 hi1 ev1 dX1_addWord_5 ?_
  refine G.istore (lv' := [(5, .int v1), (0, .ref (ad 6)), (1, .int x1), (2, .int x2), (3, .int x3), (4, .int x4)]) C dX1_addWord_6 (by decide) rfl ?_
  refine G.iload_n (pl := 2) C dX1_addWord_8 rfl rfl ?_
  refine G.bipush (v := 8) C dX1_addWord_9 (by decide) ?_
  refine G.imul C dX1_addWord_11 ?_
  refine G.iload (pl := 0) C dX1_addWord_12 rfl ?_
  refine G.iadd C dX1_addWord_14 ?_
  refine G.istore (lv' := [(6, .int ((x1 * (8 : Int32)) + v1)), (5, .int v1), (0, .ref (ad 6)), (1, .int x1), (2, .int x2), (3, .int x3), (4, .int x4)]) C dX1_addWord_15 (by decide) rfl ?_
  refine G.aload_n (pl := 2) C dX1_addWord_17 rfl rfl ?_
  refine gf1_7 C o_6 k1_49 dX1_addWord_18 ?_
  refine G.iload (pl := 0) C dX1_addWord_21 rfl ?_
  refine G.iload_n (pl := 4) C dX1_addWord_23 rfl rfl ?_
  obtain ⟨hi2, hf⟩ := ck_some hf
  obtain ⟨M1, eM1, hf⟩ := stm_some hf
  refine G.iast C a_11 hi2 eM1 dX1_addWord_24 ?_
  refine G.aload_n (pl := 2) C dX1_addWord_25 rfl rfl ?_
  refine gf1_8 C o_6 k1_51 dX1_addWord_26 ?_
  refine G.iload (pl := 0) C dX1_addWord_29 rfl ?_
  refine G.iload_n (pl := 5) C dX1_addWord_31 rfl rfl ?_
  obtain ⟨hi3, hf⟩ := ck_some hf
  obtain ⟨M2, eM2, hf⟩ := stm_some hf
  refine G.iast C a_12 hi3 eM2 dX1_addWord_32 ?_
  refine G.aload_n (pl := 2) C dX1_addWord_33 rfl rfl ?_
  refine gf1_9 C o_6 k1_52 dX1_addWord_34 ?_
  refine G.iload (pl := 0) C dX1_addWord_37 rfl ?_
  refine G.iload (pl := 6) C dX1_addWord_39 rfl ?_
  obtain ⟨hi4, hf⟩ := ck_some hf
  obtain ⟨M3, eM3, hf⟩ := stm_some hf
  refine G.iast C a_13 hi4 eM3 dX1_addWord_41 ?_
  refine G.aload_n (pl := 2) C dX1_addWord_42 rfl rfl ?_
  refine gf1_6 C o_6 k1_46 dX1_addWord_43 ?_
  refine G.iload_n (pl := 3) C dX1_addWord_46 rfl rfl ?_
  refine G.dup2 C dX1_addWord_47 rfl rfl ?_
  obtain ⟨v2, ev2, hi5, hf⟩ := rd_some hf
  refine G.iald C a_10 hi5 ev2 dX1_addWord_48 ?_
  refine G.iconst (v := 1) C dX1_addWord_49 (by decide) ?_
  refine G.iadd C dX1_addWord_50 ?_
  obtain ⟨hi6, hf⟩ := ck_some hf
  obtain ⟨M4, eM4, hf⟩ := stm_some hf
  refine G.iast C a_10 hi6 eM4 dX1_addWord_51 ?_
  refine G.iload (pl := 1) C dX1_addWord_52 rfl ?_
  cases hf
  exact G.iret C Rt dX1_addWord_54
theorem mv_X1_addWord : gMV yX1_addWord cX1_addWord 7 (some .int) 4 := ⟨k2_110, k2_111, k1_3, k2_112, ⟨by decide +kernel, by decide +kernel, by decide +kernel⟩, by decide⟩
theorem c_X1_addWord {res : (Int32 × Mem)} {x1 : Int32} {x2 : Int32} {x3 : Int32} {x4 : Int32} {M : Mem} (hf : f_X1_addWord x1 x2 x3 x4 M = some res) : Ct yX1_addWord cX1_addWord 7 (some .int) 1 (fun ad => [.ref (ad 6), .int x1, .int x2, .int x3, .int x4]) M (some (.int res.1)) res.2 :=
  Ct.of (by decide +kernel) (fun _ => Nat.le_of_ble_eq_true rfl) (fun X ad C Rt => w_X1_addWord_E C Rt x1 x2 x3 x4 M hf)
set_option maxRecDepth 100000 in
set_option maxHeartbeats 4000000 in
theorem w_X1_voiceBehind_4_b {X : Gc} {ad : Nat → Nat} {res : Int32} {M : Mem} {r_4 : Int32 → Option Int32} (C : Gk X ad cX1_voiceBehind "NineTongues$Lexicon" 3 4) (Rt : Gr X ad (some .int) (some (.int res)) M) (h_4 : ∀ (x2 : Int32), r_4 x2 = some res → G X ad 4 3 [(0, .ref (ad 6)), (2, .int x2)] [] M) (x2 : Int32) (hf : f_X1_voiceBehind_4_b M r_4 x2 = some res) : G X ad 4 3 [(0, .ref (ad 6)), (2, .int x2)] [] M := by
  unfold f_X1_voiceBehind_4_b at hf
  refine G.iload_n (pl := 1) C dX1_voiceBehind_4 rfl rfl ?_
  refine G.aload_n (pl := 0) C dX1_voiceBehind_5 rfl rfl ?_
  refine gf1_0 C o_6 k1_36 dX1_voiceBehind_6 ?_
  refine G.icmp_ge (tgt := 28) C dX1_voiceBehind_9 (by decide) (fun hc1 => ?_) (fun hc1 => ?_)
  · replace hf := gIf hf hc1
    refine G.iconst (v := (-1)) C dX1_voiceBehind_28 (by decide) ?_
    cases hf
    exact G.iret C Rt dX1_voiceBehind_29
  · replace hf := gIfn hf hc1
    refine G.aload_n (pl := 0) C dX1_voiceBehind_12 rfl rfl ?_
    refine G.iload_n (pl := 1) C dX1_voiceBehind_13 rfl rfl ?_
    obtain ⟨v1, hr1, hf⟩ := cp_some hf
    refine G.callV (st1 := [.int v1]) C [.int x2] [] (c_X1_hasWords hr1) mv_X1_hasWords k3_20 o_6.1 (fun _ => gShp_11 o_6) rfl rfl rfl rfl rfl (Nat.le_of_ble_eq_true rfl) (by decide) dX1_voiceBehind_14 rfl ?_
    refine G.if_eq (tgt := 22) C dX1_voiceBehind_17 (by decide) (fun hc2 => ?_) (fun hc2 => ?_)
    · replace hf := gIf hf hc2
      refine G.iinc (pl := 1) (v := (x2 + 1)) (lv' := [(2, .int (x2 + 1)), (0, .ref (ad 6))]) C dX1_voiceBehind_22 rfl rfl (by decide) rfl ?_
      refine G.goto (tgt := 4) C dX1_voiceBehind_25 (by decide) ?_
      refine G.sub (lv' := [(0, .ref (ad 6)), (2, .int (x2 + 1))]) [1, 0] rfl ?_
      exact h_4 (x2 + 1)  hf
    · replace hf := gIfn hf hc2
      refine G.iload_n (pl := 1) C dX1_voiceBehind_20 rfl rfl ?_
      cases hf
      exact G.iret C Rt dX1_voiceBehind_21
theorem w_X1_voiceBehind_4 {X : Gc} {ad : Nat → Nat} {res : Int32} {M : Mem} (C : Gk X ad cX1_voiceBehind "NineTongues$Lexicon" 3 4) (Rt : Gr X ad (some .int) (some (.int res)) M) : ∀ (n : Nat) (x2 : Int32), f_X1_voiceBehind_4 M n x2 = some res → G X ad 4 3 [(0, .ref (ad 6)), (2, .int x2)] [] M := by
  intro n
  induction n with
  | zero => intro x2 hf; exact absurd (show (none : Option Int32) = some res from hf) (fun h => nomatch h)
  | succ n ih => intro x2 hf; exact w_X1_voiceBehind_4_b C Rt ih x2 hf
set_option maxRecDepth 100000 in
set_option maxHeartbeats 4000000 in
theorem w_X1_voiceBehind_E {X : Gc} {ad : Nat → Nat} {res : Int32} {M : Mem} (C : Gk X ad cX1_voiceBehind "NineTongues$Lexicon" 3 4) (Rt : Gr X ad (some .int) (some (.int res)) M) (x1 : Int32) (hf : f_X1_voiceBehind x1 M = some res) : G X ad 0 3 [(0, .ref (ad 6)), (1, .int x1)] [] M := by
  unfold f_X1_voiceBehind at hf
  refine G.iload_n (pl := 1) C dX1_voiceBehind_0 rfl rfl ?_
  refine G.iconst (v := 1) C dX1_voiceBehind_1 (by decide) ?_
  refine G.iadd C dX1_voiceBehind_2 ?_
  refine G.istore_n (lv' := [(2, .int (x1 + (1 : Int32))), (0, .ref (ad 6)), (1, .int x1)]) C dX1_voiceBehind_3 rfl (by decide) rfl ?_
  refine G.sub (lv' := [(0, .ref (ad 6)), (2, .int (x1 + (1 : Int32)))]) [1, 0] rfl ?_
  exact w_X1_voiceBehind_4 C Rt FU (x1 + (1 : Int32)) hf
theorem mv_X1_voiceBehind : gMV yX1_voiceBehind cX1_voiceBehind 3 (some .int) 1 := ⟨k3_76, k3_77, k1_3, k3_78, ⟨by decide +kernel, by decide +kernel, by decide +kernel⟩, by decide⟩
theorem c_X1_voiceBehind {res : Int32} {x1 : Int32} {M : Mem} (hf : f_X1_voiceBehind x1 M = some res) : Ct yX1_voiceBehind cX1_voiceBehind 3 (some .int) 4 (fun ad => [.ref (ad 6), .int x1]) M (some (.int res)) M :=
  Ct.of (by decide +kernel) (fun _ => Nat.le_of_ble_eq_true rfl) (fun X ad C Rt => w_X1_voiceBehind_E C Rt x1 hf)
set_option maxRecDepth 100000 in
set_option maxHeartbeats 4000000 in
theorem w_J6_bitCount_0f7a4_E {X : Gc} {ad : Nat → Nat} {res : Int32} {M : Mem} (C : Gk X ad cJ6_bitCount_0f7a4 "java/lang/Integer" 1 1) (Rt : Gr X ad (some .int) (some (.int res)) M) (x0 : Int32) (hf : f_J6_bitCount_0f7a4 x0 M = some res) : G X ad 0 1 [(0, .int x0)] [] M := by
  unfold f_J6_bitCount_0f7a4 at hf
  refine G.iload_n (pl := 0) C dJ6_bitCount_0f7a4_0 rfl rfl ?_
  refine G.iload_n (pl := 0) C dJ6_bitCount_0f7a4_1 rfl rfl ?_
  refine G.iconst (v := 1) C dJ6_bitCount_0f7a4_2 (by decide) ?_
  refine G.iushr C dJ6_bitCount_0f7a4_3 ?_
  refine G.ldc_w C k2_157 dJ6_bitCount_0f7a4_4 ?_
  refine G.iand C dJ6_bitCount_0f7a4_7 ?_
  refine G.isub C dJ6_bitCount_0f7a4_8 ?_
  refine G.istore_n (lv' := [(0, .int (x0 - (((x0.toUInt32 >>> ((1 : Int32).toUInt32 &&& Int32.toUInt32 31)).toInt32) &&& (1431655765 : Int32))))]) C dJ6_bitCount_0f7a4_9 rfl (by decide) rfl ?_
  refine G.iload_n (pl := 0) C dJ6_bitCount_0f7a4_10 rfl rfl ?_
  refine G.ldc_w C k2_158 dJ6_bitCount_0f7a4_11 ?_
  refine G.iand C dJ6_bitCount_0f7a4_14 ?_
  refine G.iload_n (pl := 0) C dJ6_bitCount_0f7a4_15 rfl rfl ?_
  refine G.iconst (v := 2) C dJ6_bitCount_0f7a4_16 (by decide) ?_
  refine G.iushr C dJ6_bitCount_0f7a4_17 ?_
  refine G.ldc_w C k2_158 dJ6_bitCount_0f7a4_18 ?_
  refine G.iand C dJ6_bitCount_0f7a4_21 ?_
  refine G.iadd C dJ6_bitCount_0f7a4_22 ?_
  refine G.istore_n (lv' := [(0, .int (((x0 - (((x0.toUInt32 >>> ((1 : Int32).toUInt32 &&& Int32.toUInt32 31)).toInt32) &&& (1431655765 : Int32))) &&& (858993459 : Int32)) + ((((x0 - (((x0.toUInt32 >>> ((1 : Int32).toUInt32 &&& Int32.toUInt32 31)).toInt32) &&& (1431655765 : Int32))).toUInt32 >>> ((2 : Int32).toUInt32 &&& Int32.toUInt32 31)).toInt32) &&& (858993459 : Int32))))]) C dJ6_bitCount_0f7a4_23 rfl (by decide) rfl ?_
  refine G.iload_n (pl := 0) C dJ6_bitCount_0f7a4_24 rfl rfl ?_
  refine G.iload_n (pl := 0) C dJ6_bitCount_0f7a4_25 rfl rfl ?_
  refine G.iconst (v := 4) C dJ6_bitCount_0f7a4_26 (by decide) ?_
  refine G.iushr C dJ6_bitCount_0f7a4_27 ?_
  refine G.iadd C dJ6_bitCount_0f7a4_28 ?_
  refine G.ldc_w C k2_159 dJ6_bitCount_0f7a4_29 ?_
  refine G.iand C dJ6_bitCount_0f7a4_32 ?_
  refine G.istore_n (lv' := [(0, .int (((((x0 - (((x0.toUInt32 >>> ((1 : Int32).toUInt32 &&& Int32.toUInt32 31)).toInt32) &&& (1431655765 : Int32))) &&& (858993459 : Int32)) + ((((x0 - (((x0.toUInt32 >>> ((1 : Int32).toUInt32 &&& Int32.toUInt32 31)).toInt32) &&& (1431655765 : Int32))).toUInt32 >>> ((2 : Int32).toUInt32 &&& Int32.toUInt32 31)).toInt32) &&& (858993459 : Int32))) + (((((x0 - (((x0.toUInt32 >>> ((1 : Int32).toUInt32 &&& Int32.toUInt32 31)).toInt32) &&& (1431655765 : Int32))) &&& (858993459 : Int32)) + ((((x0 - (((x0.toUInt32 >>> ((1 : Int32).toUInt32 &&& Int32.toUInt32 31)).toInt32) &&& (1431655765 : Int32))).toUInt32 >>> ((2 : Int32).toUInt32 &&& Int32.toUInt32 31)).toInt32) &&& (858993459 : Int32))).toUInt32 >>> ((4 : Int32).toUInt32 &&& Int32.toUInt32 31)).toInt32)) &&& (252645135 : Int32)))]) C dJ6_bitCount_0f7a4_33 rfl (by decide) rfl ?_
  refine G.iload_n (pl := 0) C dJ6_bitCount_0f7a4_34 rfl rfl ?_
  refine G.iload_n (pl := 0) C dJ6_bitCount_0f7a4_35 rfl rfl ?_
  refine G.bipush (v := 8) C dJ6_bitCount_0f7a4_36 (by decide) ?_
  refine G.iushr C dJ6_bitCount_0f7a4_38 ?_
  refine G.iadd C dJ6_bitCount_0f7a4_39 ?_
  refine G.istore_n (lv' := [(0, .int ((((((x0 - (((x0.toUInt32 >>> ((1 : Int32).toUInt32 &&& Int32.toUInt32 31)).toInt32) &&& (1431655765 : Int32))) &&& (858993459 : Int32)) + ((((x0 - (((x0.toUInt32 >>> ((1 : Int32).toUInt32 &&& Int32.toUInt32 31)).toInt32) &&& (1431655765 : Int32))).toUInt32 >>> ((2 : Int32).toUInt32 &&& Int32.toUInt32 31)).toInt32) &&& (858993459 : Int32))) + (((((x0 - (((x0.toUInt32 >>> ((1 : Int32).toUInt32 &&& Int32.toUInt32 31)).toInt32) &&& (1431655765 : Int32))) &&& (858993459 : Int32)) + ((((x0 - (((x0.toUInt32 >>> ((1 : Int32).toUInt32 &&& Int32.toUInt32 31)).toInt32) &&& (1431655765 : Int32))).toUInt32 >>> ((2 : Int32).toUInt32 &&& Int32.toUInt32 31)).toInt32) &&& (858993459 : Int32))).toUInt32 >>> ((4 : Int32).toUInt32 &&& Int32.toUInt32 31)).toInt32)) &&& (252645135 : Int32)) + (((((((x0 - (((x0.toUInt32 >>> ((1 : Int32).toUInt32 &&& Int32.toUInt32 31)).toInt32) &&& (1431655765 : Int32))) &&& (858993459 : Int32)) + ((((x0 - (((x0.toUInt32 >>> ((1 : Int32).toUInt32 &&& Int32.toUInt32 31)).toInt32) &&& (1431655765 : Int32))).toUInt32 >>> ((2 : Int32).toUInt32 &&& Int32.toUInt32 31)).toInt32) &&& (858993459 : Int32))) + (((((x0 - (((x0.toUInt32 >>> ((1 : Int32).toUInt32 &&& Int32.toUInt32 31)).toInt32) &&& (1431655765 : Int32))) &&& (858993459 : Int32)) + ((((x0 - (((x0.toUInt32 >>> ((1 : Int32).toUInt32 &&& Int32.toUInt32 31)).toInt32) &&& (1431655765 : Int32))).toUInt32 >>> ((2 : Int32).toUInt32 &&& Int32.toUInt32 31)).toInt32) &&& (858993459 : Int32))).toUInt32 >>> ((4 : Int32).toUInt32 &&& Int32.toUInt32 31)).toInt32)) &&& (252645135 : Int32)).toUInt32 >>> ((8 : Int32).toUInt32 &&& Int32.toUInt32 31)).toInt32)))]) C dJ6_bitCount_0f7a4_40 rfl (by decide) rfl ?_
  refine G.iload_n (pl := 0) C dJ6_bitCount_0f7a4_41 rfl rfl ?_
  refine G.iload_n (pl := 0) C dJ6_bitCount_0f7a4_42 rfl rfl ?_
  refine G.bipush (v := 16) C dJ6_bitCount_0f7a4_43 (by decide) ?_
  refine G.iushr C dJ6_bitCount_0f7a4_45 ?_
  refine G.iadd C dJ6_bitCount_0f7a4_46 ?_
  refine G.istore_n (lv' := [(0, .int (((((((x0 - (((x0.toUInt32 >>> ((1 : Int32).toUInt32 &&& Int32.toUInt32 31)).toInt32) &&& (1431655765 : Int32))) &&& (858993459 : Int32)) + ((((x0 - (((x0.toUInt32 >>> ((1 : Int32).toUInt32 &&& Int32.toUInt32 31)).toInt32) &&& (1431655765 : Int32))).toUInt32 >>> ((2 : Int32).toUInt32 &&& Int32.toUInt32 31)).toInt32) &&& (858993459 : Int32))) + (((((x0 - (((x0.toUInt32 >>> ((1 : Int32).toUInt32 &&& Int32.toUInt32 31)).toInt32) &&& (1431655765 : Int32))) &&& (858993459 : Int32)) + ((((x0 - (((x0.toUInt32 >>> ((1 : Int32).toUInt32 &&& Int32.toUInt32 31)).toInt32) &&& (1431655765 : Int32))).toUInt32 >>> ((2 : Int32).toUInt32 &&& Int32.toUInt32 31)).toInt32) &&& (858993459 : Int32))).toUInt32 >>> ((4 : Int32).toUInt32 &&& Int32.toUInt32 31)).toInt32)) &&& (252645135 : Int32)) + (((((((x0 - (((x0.toUInt32 >>> ((1 : Int32).toUInt32 &&& Int32.toUInt32 31)).toInt32) &&& (1431655765 : Int32))) &&& (858993459 : Int32)) + ((((x0 - (((x0.toUInt32 >>> ((1 : Int32).toUInt32 &&& Int32.toUInt32 31)).toInt32) &&& (1431655765 : Int32))).toUInt32 >>> ((2 : Int32).toUInt32 &&& Int32.toUInt32 31)).toInt32) &&& (858993459 : Int32))) + (((((x0 - (((x0.toUInt32 >>> ((1 : Int32).toUInt32 &&& Int32.toUInt32 31)).toInt32) &&& (1431655765 : Int32))) &&& (858993459 : Int32)) + ((((x0 - (((x0.toUInt32 >>> ((1 : Int32).toUInt32 &&& Int32.toUInt32 31)).toInt32) &&& (1431655765 : Int32))).toUInt32 >>> ((2 : Int32).toUInt32 &&& Int32.toUInt32 31)).toInt32) &&& (858993459 : Int32))).toUInt32 >>> ((4 : Int32).toUInt32 &&& Int32.toUInt32 31)).toInt32)) &&& (252645135 : Int32)).toUInt32 >>> ((8 : Int32).toUInt32 &&& Int32.toUInt32 31)).toInt32)) + ((((((((x0 - (((x0.toUInt32 >>> ((1 : Int32).toUInt32 &&& Int32.toUInt32 31)).toInt32) &&& (1431655765 : Int32))) &&& (858993459 : Int32)) + ((((x0 - (((x0.toUInt32 >>> ((1 : Int32).toUInt32 &&& Int32.toUInt32 31)).toInt32) &&& (1431655765 : Int32))).toUInt32 >>> ((2 : Int32).toUInt32 &&& Int32.toUInt32 31)).toInt32) &&& (858993459 : Int32))) + (((((x0 - (((x0.toUInt32 >>> ((1 : Int32).toUInt32 &&& Int32.toUInt32 31)).toInt32) &&& (1431655765 : Int32))) &&& (858993459 : Int32)) + ((((x0 - (((x0.toUInt32 >>> ((1 : Int32).toUInt32 &&& Int32.toUInt32 31)).toInt32) &&& (1431655765 : Int32))).toUInt32 >>> ((2 : Int32).toUInt32 &&& Int32.toUInt32 31)).toInt32) &&& (858993459 : Int32))).toUInt32 >>> ((4 : Int32).toUInt32 &&& Int32.toUInt32 31)).toInt32)) &&& (252645135 : Int32)) + (((((((x0 - (((x0.toUInt32 >>> ((1 : Int32).toUInt32 &&& Int32.toUInt32 31)).toInt32) &&& (1431655765 : Int32))) &&& (858993459 : Int32)) + ((((x0 - (((x0.toUInt32 >>> ((1 : Int32).toUInt32 &&& Int32.toUInt32 31)).toInt32) &&& (1431655765 : Int32))).toUInt32 >>> ((2 : Int32).toUInt32 &&& Int32.toUInt32 31)).toInt32) &&& (858993459 : Int32))) + (((((x0 - (((x0.toUInt32 >>> ((1 : Int32).toUInt32 &&& Int32.toUInt32 31)).toInt32) &&& (1431655765 : Int32))) &&& (858993459 : Int32)) + ((((x0 - (((x0.toUInt32 >>> ((1 : Int32).toUInt32 &&& Int32.toUInt32 31)).toInt32) &&& (1431655765 : Int32))).toUInt32 >>> ((2 : Int32).toUInt32 &&& Int32.toUInt32 31)).toInt32) &&& (858993459 : Int32))).toUInt32 >>> ((4 : Int32).toUInt32 &&& Int32.toUInt32 31)).toInt32)) &&& (252645135 : Int32)).toUInt32 >>> ((8 : Int32).toUInt32 &&& Int32.toUInt32 31)).toInt32)).toUInt32 >>> ((16 : Int32).toUInt32 &&& Int32.toUInt32 31)).toInt32)))]) C dJ6_bitCount_0f7a4_47 rfl (by decide) rfl ?_
  refine G.iload_n (pl := 0) C dJ6_bitCount_0f7a4_48 rfl rfl ?_
  refine G.bipush (v := 63) C dJ6_bitCount_0f7a4_49 (by decide) ?_
  refine G.iand C dJ6_bitCount_0f7a4_51 ?_
  cases hf
  exact G.iret C Rt dJ6_bitCount_0f7a4_52
theorem mv_J6_bitCount_0f7a4 : gMS yJ6_bitCount_0f7a4 cJ6_bitCount_0f7a4 1 (some .int) 1 := ⟨k2_155, k1_13, k2_156, ⟨by decide +kernel, by decide +kernel, by decide +kernel⟩, by decide⟩
theorem c_J6_bitCount_0f7a4 {res : Int32} {x0 : Int32} {M : Mem} (hf : f_J6_bitCount_0f7a4 x0 M = some res) : Ct yJ6_bitCount_0f7a4 cJ6_bitCount_0f7a4 1 (some .int) 1 (fun ad => [.int x0]) M (some (.int res)) M :=
  Ct.of (by decide +kernel) (fun _ => Nat.le_of_ble_eq_true rfl) (fun X ad C Rt => w_J6_bitCount_0f7a4_E C Rt x0 hf)
set_option maxRecDepth 100000 in
set_option maxHeartbeats 4000000 in
theorem w_X1_costOf_137 {X : Gc} {ad : Nat → Nat} {res : Int32} {M : Mem} (C : Gk X ad cX1_costOf "NineTongues$Lexicon" 8 2) (Rt : Gr X ad (some .int) (some (.int res)) M) (t1 : Int32) (t0 : Int32) (hf : f_X1_costOf_137 M t1 t0 = some res) : G X ad 137 8 [] [.int t1, .int t0] M := by
  unfold f_X1_costOf_137 at hf
  refine G.iadd C dX1_costOf_137 ?_
  cases hf
  exact G.iret C Rt dX1_costOf_138
set_option maxRecDepth 100000 in
set_option maxHeartbeats 4000000 in
theorem w_X1_costOf_E {X : Gc} {ad : Nat → Nat} {res : Int32} {M : Mem} (C : Gk X ad cX1_costOf "NineTongues$Lexicon" 8 2) (Rt : Gr X ad (some .int) (some (.int res)) M) (x1 : Int32) (x2 : Int32) (x3 : Int32) (x4 : Int32) (hf : f_X1_costOf x1 x2 x3 x4 M = some res) : G X ad 0 8 [(0, .ref (ad 6)), (1, .int x1), (2, .int x2), (3, .int x3), (4, .int x4)] [] M := by
  unfold f_X1_costOf at hf
  refine G.aload_n (pl := 0) C dX1_costOf_0 rfl rfl ?_
  refine gf1_1 C o_6 k1_39 dX1_costOf_1 ?_
  refine G.iload_n (pl := 2) C dX1_costOf_4 rfl rfl ?_
  refine G.aload_n (pl := 0) C dX1_costOf_5 rfl rfl ?_
  refine gf1_7 C o_6 k1_49 dX1_costOf_6 ?_
  refine G.iload (pl := 4) C dX1_costOf_9 rfl ?_
  obtain ⟨v1, ev1, hi1, hf⟩ := rd_some hf
  refine G.iald C a_11 hi1 ev1 dX1_costOf_11 ?_
  refine G.iconst (v := (-1)) C dX1_costOf_12 (by decide) ?_
  refine G.ixor C dX1_costOf_13 ?_
  refine G.iand C dX1_costOf_14 ?_
  obtain ⟨v2, hr1, hf⟩ := cp_some hf
  refine G.callS (st1 := [.int v2, .int (M.1 6 1)]) C [.int (x2 &&& (v1 ^^^ (-1 : Int32)))] [.int (M.1 6 1)] (c_J6_bitCount_0f7a4 hr1) mv_J6_bitCount_0f7a4 k2_154 rfl rfl rfl (Nat.le_of_ble_eq_true rfl) (by decide) dX1_costOf_15 rfl ?_
  refine G.imul C dX1_costOf_18 ?_
  refine G.istore (lv' := [(5, .int ((M.1 6 1) * v2)), (0, .ref (ad 6)), (1, .int x1), (2, .int x2), (3, .int x3), (4, .int x4)]) C dX1_costOf_19 (by decide) rfl ?_
  refine G.aload_n (pl := 1) C dX1_costOf_21 rfl rfl ?_
  refine gf1_2 C o_6 k1_41 dX1_costOf_22 ?_
  refine G.aload_n (pl := 1) C dX1_costOf_25 rfl rfl ?_
  refine gf1_7 C o_6 k1_49 dX1_costOf_26 ?_
  refine G.iload (pl := 5) C dX1_costOf_29 rfl ?_
  obtain ⟨v3, ev2, hi2, hf⟩ := rd_some hf
  refine G.iald C a_11 hi2 ev2 dX1_costOf_31 ?_
  refine G.iload_n (pl := 3) C dX1_costOf_32 rfl rfl ?_
  refine G.iconst (v := (-1)) C dX1_costOf_33 (by decide) ?_
  refine G.ixor C dX1_costOf_34 ?_
  refine G.iand C dX1_costOf_35 ?_
  obtain ⟨v4, hr2, hf⟩ := cp_some hf
  refine G.callS (st1 := [.int v4, .int (M.1 6 2)]) C [.int (v3 &&& (x2 ^^^ (-1 : Int32)))] [.int (M.1 6 2)] (c_J6_bitCount_0f7a4 hr2) mv_J6_bitCount_0f7a4 k2_154 rfl rfl rfl (Nat.le_of_ble_eq_true rfl) (by decide) dX1_costOf_36 rfl ?_
  refine G.imul C dX1_costOf_39 ?_
  refine G.istore (lv' := [(6, .int ((M.1 6 2) * v4)), (5, .int ((M.1 6 1) * v2)), (0, .ref (ad 6)), (1, .int x1), (2, .int x2), (3, .int x3), (4, .int x4)]) C dX1_costOf_40 (by decide) rfl ?_
  refine G.iload (pl := 1) C dX1_costOf_42 rfl ?_
  refine G.iload (pl := 0) C dX1_costOf_44 rfl ?_
  refine G.iadd C dX1_costOf_46 ?_
  refine G.istore (lv' := [(7, .int (((M.1 6 1) * v2) + ((M.1 6 2) * v4))), (6, .int ((M.1 6 2) * v4)), (5, .int ((M.1 6 1) * v2)), (0, .ref (ad 6)), (1, .int x1), (2, .int x2), (3, .int x3), (4, .int x4)]) C dX1_costOf_47 (by decide) rfl ?_
  refine G.iload_n (pl := 4) C dX1_costOf_49 rfl rfl ?_
  by_cases hs1 : x1 = 0
  · replace hf := gIf hf hs1
    refine G.tableIn (tgt := 160) (off := 110) C dX1_costOf_50 (by rw [hs1]; decide) (by rw [hs1]; decide) (by rw [hs1]; rfl) (by decide) ?_
    refine G.iload (pl := 0) C dX1_costOf_160 rfl ?_
    cases hf
    exact G.iret C Rt dX1_costOf_162
  · replace hf := gIfn hf hs1
    by_cases hs2 : x1 = 1
    · replace hf := gIf hf hs2
      refine G.tableIn (tgt := 88) (off := 38) C dX1_costOf_50 (by rw [hs2]; decide) (by rw [hs2]; decide) (by rw [hs2]; rfl) (by decide) ?_
      refine G.iload (pl := 0) C dX1_costOf_88 rfl ?_
      refine G.iload (pl := 1) C dX1_costOf_90 rfl ?_
      refine G.iadd C dX1_costOf_92 ?_
      cases hf
      exact G.iret C Rt dX1_costOf_93
    · replace hf := gIfn hf hs2
      by_cases hs3 : x1 = 2
      · replace hf := gIf hf hs3
        refine G.tableIn (tgt := 94) (off := 44) C dX1_costOf_50 (by rw [hs3]; decide) (by rw [hs3]; decide) (by rw [hs3]; rfl) (by decide) ?_
        refine G.iload (pl := 0) C dX1_costOf_94 rfl ?_
        refine G.iload (pl := 2) C dX1_costOf_96 rfl ?_
        refine G.iadd C dX1_costOf_98 ?_
        cases hf
        exact G.iret C Rt dX1_costOf_99
      · replace hf := gIfn hf hs3
        by_cases hs4 : x1 = 3
        · replace hf := gIf hf hs4
          refine G.tableIn (tgt := 100) (off := 50) C dX1_costOf_50 (by rw [hs4]; decide) (by rw [hs4]; decide) (by rw [hs4]; rfl) (by decide) ?_
          refine G.iload (pl := 0) C dX1_costOf_100 rfl ?_
          refine G.aload_n (pl := 3) C dX1_costOf_102 rfl rfl ?_
          refine gf1_9 C o_6 k1_52 dX1_costOf_103 ?_
          refine G.iload (pl := 7) C dX1_costOf_106 rfl ?_
          obtain ⟨v5, ev3, hi3, hf⟩ := rd_some hf
          refine G.iald C a_13 hi3 ev3 dX1_costOf_108 ?_
          refine G.isub C dX1_costOf_109 ?_
          cases hf
          exact G.iret C Rt dX1_costOf_110
        · replace hf := gIfn hf hs4
          by_cases hs5 : x1 = 4
          · replace hf := gIf hf hs5
            refine G.tableIn (tgt := 111) (off := 61) C dX1_costOf_50 (by rw [hs5]; decide) (by rw [hs5]; decide) (by rw [hs5]; rfl) (by decide) ?_
            refine G.iload (pl := 0) C dX1_costOf_111 rfl ?_
            refine G.iload (pl := 1) C dX1_costOf_113 rfl ?_
            refine G.iadd C dX1_costOf_115 ?_
            refine G.iload_n (pl := 6) C dX1_costOf_116 rfl rfl ?_
            refine G.iconst (v := (-1)) C dX1_costOf_117 (by decide) ?_
            refine G.icmp_ne (tgt := 125) C dX1_costOf_118 (by decide) (fun hc1 => ?_) (fun hc1 => ?_)
            · replace hf := gIfn hf hc1
              refine G.aload_n (pl := 3) C dX1_costOf_125 rfl rfl ?_
              refine gf1_8 C o_6 k1_51 dX1_costOf_126 ?_
              refine G.iload (pl := 7) C dX1_costOf_129 rfl ?_
              obtain ⟨v6, ev4, hi4, hf⟩ := rd_some hf
              refine G.iald C a_12 hi4 ev4 dX1_costOf_131 ?_
              refine G.iload_n (pl := 6) C dX1_costOf_132 rfl rfl ?_
              refine G.isub C dX1_costOf_133 ?_
              refine G.mabs C k2_160 k2_161 k1_14 k2_162 (Nat.le_of_ble_eq_true rfl) (by decide) dX1_costOf_134 ?_
              refine G.sub (lv' := []) [] rfl ?_
              exact w_X1_costOf_137 C Rt (if 0 ≤ (v6 - x3) then (v6 - x3) else 0 - (v6 - x3)) ((((M.1 6 1) * v2) + ((M.1 6 2) * v4)) + ((M.1 6 2) * v4)) hf
            · replace hf := gIf hf hc1
              refine G.iconst (v := 0) C dX1_costOf_121 (by decide) ?_
              refine G.goto (tgt := 137) C dX1_costOf_122 (by decide) ?_
              refine G.sub (lv' := []) [] rfl ?_
              exact w_X1_costOf_137 C Rt (0 : Int32) ((((M.1 6 1) * v2) + ((M.1 6 2) * v4)) + ((M.1 6 2) * v4)) hf
          · replace hf := gIfn hf hs5
            by_cases hs6 : x1 = 5
            · replace hf := gIf hf hs6
              refine G.tableIn (tgt := 139) (off := 89) C dX1_costOf_50 (by rw [hs6]; decide) (by rw [hs6]; decide) (by rw [hs6]; rfl) (by decide) ?_
              refine G.iload_n (pl := 5) C dX1_costOf_139 rfl rfl ?_
              refine G.aload_n (pl := 3) C dX1_costOf_140 rfl rfl ?_
              refine gf1_7 C o_6 k1_49 dX1_costOf_141 ?_
              refine G.iload (pl := 7) C dX1_costOf_144 rfl ?_
              obtain ⟨v7, ev5, hi5, hf⟩ := rd_some hf
              refine G.iald C a_11 hi5 ev5 dX1_costOf_146 ?_
              refine G.icmp_ne (tgt := 155) C dX1_costOf_147 (by decide) (fun hc2 => ?_) (fun hc2 => ?_)
              · replace hf := gIfn hf hc2
                refine G.iload (pl := 0) C dX1_costOf_155 rfl ?_
                refine G.iconst (v := 5) C dX1_costOf_157 (by decide) ?_
                refine G.iadd C dX1_costOf_158 ?_
                cases hf
                exact G.iret C Rt dX1_costOf_159
              · replace hf := gIf hf hc2
                refine G.iload (pl := 0) C dX1_costOf_150 rfl ?_
                refine G.goto (tgt := 159) C dX1_costOf_152 (by decide) ?_
                cases hf
                exact G.iret C Rt dX1_costOf_159
            · replace hf := gIfn hf hs6
              refine G.tableOut (tgt := 160) C dX1_costOf_50 (gSw (n := 6) (fun k hk => by match k, hk with | 0, _ => exact hs1 | 1, _ => exact hs2 | 2, _ => exact hs3 | 3, _ => exact hs4 | 4, _ => exact hs5 | 5, _ => exact hs6 | k + 6, hk => exact absurd hk (by omega)) (by decide)) (by decide) ?_
              refine G.iload (pl := 0) C dX1_costOf_160 rfl ?_
              cases hf
              exact G.iret C Rt dX1_costOf_162
theorem mv_X1_costOf : gMV yX1_costOf cX1_costOf 8 (some .int) 4 := ⟨k2_151, k2_152, k1_3, k2_153, ⟨by decide +kernel, by decide +kernel, by decide +kernel⟩, by decide⟩
theorem c_X1_costOf {res : Int32} {x1 : Int32} {x2 : Int32} {x3 : Int32} {x4 : Int32} {M : Mem} (hf : f_X1_costOf x1 x2 x3 x4 M = some res) : Ct yX1_costOf cX1_costOf 8 (some .int) 2 (fun ad => [.ref (ad 6), .int x1, .int x2, .int x3, .int x4]) M (some (.int res)) M :=
  Ct.of (by decide +kernel) (fun _ => Nat.le_of_ble_eq_true rfl) (fun X ad C Rt => w_X1_costOf_E C Rt x1 x2 x3 x4 hf)
set_option maxRecDepth 100000 in
set_option maxHeartbeats 4000000 in
theorem w_X1_cheapest_93 {X : Gc} {ad : Nat → Nat} {res : Int32} {M : Mem} {r_28 : Int32 → Int32 → Int32 → Option Int32} (C : Gk X ad cX1_cheapest "NineTongues$Lexicon" 10 3) (Rt : Gr X ad (some .int) (some (.int res)) M) (x1 : Int32) (x2 : Int32) (x3 : Int32) (x4 : Int32) (x5 : Int32) (x6 : Int32) (x7 : Int32) (x8 : Int32) (h_28 : ∀ (x6 : Int32) (x7 : Int32) (x8 : Int32), r_28 x6 x7 x8 = some res → G X ad 28 10 [(0, .ref (ad 6)), (1, .int x1), (2, .int x2), (3, .int x3), (4, .int x4), (5, .int x5), (6, .int x6), (7, .int x7), (8, .int x8)] [] M) (hf : f_X1_cheapest_93 M r_28 x1 x2 x3 x4 x5 x6 x7 x8 = some res) : G X ad 93 10 [(0, .ref (ad 6)), (1, .int x1), (2, .int x2), (3, .int x3), (4, .int x4), (5, .int x5), (6, .int x6), (7, .int x7), (8, .int x8)] [] M := by
  unfold f_X1_cheapest_93 at hf
  refine G.iinc (pl := 8) (v := (x8 + 1)) (lv' := [(8, .int (x8 + 1)), (0, .ref (ad 6)), (1, .int x1), (2, .int x2), (3, .int x3), (4, .int x4), (5, .int x5), (6, .int x6), (7, .int x7)]) C dX1_cheapest_93 rfl rfl (by decide) rfl ?_
  refine G.goto (tgt := 28) C dX1_cheapest_96 (by decide) ?_
  refine G.sub (lv' := [(0, .ref (ad 6)), (1, .int x1), (2, .int x2), (3, .int x3), (4, .int x4), (5, .int x5), (6, .int x6), (7, .int x7), (8, .int (x8 + 1))]) [1, 2, 3, 4, 5, 6, 7, 8, 0] rfl ?_
  exact h_28 x6 x7 (x8 + 1)  hf
set_option maxRecDepth 100000 in
set_option maxHeartbeats 4000000 in
theorem w_X1_cheapest_85 {X : Gc} {ad : Nat → Nat} {res : Int32} {M : Mem} {r_28 : Int32 → Int32 → Int32 → Option Int32} (C : Gk X ad cX1_cheapest "NineTongues$Lexicon" 10 3) (Rt : Gr X ad (some .int) (some (.int res)) M) (x1 : Int32) (x2 : Int32) (x3 : Int32) (x4 : Int32) (x5 : Int32) (x8 : Int32) (x9 : Int32) (h_28 : ∀ (x6 : Int32) (x7 : Int32) (x8 : Int32), r_28 x6 x7 x8 = some res → G X ad 28 10 [(0, .ref (ad 6)), (1, .int x1), (2, .int x2), (3, .int x3), (4, .int x4), (5, .int x5), (6, .int x6), (7, .int x7), (8, .int x8)] [] M) (hf : f_X1_cheapest_85 M r_28 x1 x2 x3 x4 x5 x8 x9 = some res) : G X ad 85 10 [(0, .ref (ad 6)), (1, .int x1), (2, .int x2), (3, .int x3), (4, .int x4), (5, .int x5), (8, .int x8), (9, .int x9)] [] M := by
  unfold f_X1_cheapest_85 at hf
  refine G.iload (pl := 6) C dX1_cheapest_85 rfl ?_
  refine G.istore (lv' := [(6, .int x8), (0, .ref (ad 6)), (1, .int x1), (2, .int x2), (3, .int x3), (4, .int x4), (5, .int x5), (8, .int x8), (9, .int x9)]) C dX1_cheapest_87 (by decide) rfl ?_
  refine G.iload (pl := 8) C dX1_cheapest_89 rfl ?_
  refine G.istore (lv' := [(7, .int x9), (6, .int x8), (0, .ref (ad 6)), (1, .int x1), (2, .int x2), (3, .int x3), (4, .int x4), (5, .int x5), (8, .int x8), (9, .int x9)]) C dX1_cheapest_91 (by decide) rfl ?_
  refine G.sub (lv' := [(0, .ref (ad 6)), (1, .int x1), (2, .int x2), (3, .int x3), (4, .int x4), (5, .int x5), (6, .int x8), (7, .int x9), (8, .int x8)]) [2, 3, 4, 5, 6, 7, 1, 0, 8] rfl ?_
  exact w_X1_cheapest_93 C Rt x1 x2 x3 x4 x5 x8 x9 x8 h_28 hf
set_option maxRecDepth 100000 in
set_option maxHeartbeats 4000000 in
theorem w_X1_cheapest_28_b {X : Gc} {ad : Nat → Nat} {res : Int32} {M : Mem} {r_28 : Int32 → Int32 → Int32 → Option Int32} (C : Gk X ad cX1_cheapest "NineTongues$Lexicon" 10 3) (Rt : Gr X ad (some .int) (some (.int res)) M) (x1 : Int32) (x2 : Int32) (x3 : Int32) (x4 : Int32) (x5 : Int32) (h_28 : ∀ (x6 : Int32) (x7 : Int32) (x8 : Int32), r_28 x6 x7 x8 = some res → G X ad 28 10 [(0, .ref (ad 6)), (1, .int x1), (2, .int x2), (3, .int x3), (4, .int x4), (5, .int x5), (6, .int x6), (7, .int x7), (8, .int x8)] [] M) (x6 : Int32) (x7 : Int32) (x8 : Int32) (hf : f_X1_cheapest_28_b M r_28 x1 x2 x3 x4 x5 x6 x7 x8 = some res) : G X ad 28 10 [(0, .ref (ad 6)), (1, .int x1), (2, .int x2), (3, .int x3), (4, .int x4), (5, .int x5), (6, .int x6), (7, .int x7), (8, .int x8)] [] M := by
  unfold f_X1_cheapest_28_b at hf
  refine G.iload (pl := 8) C dX1_cheapest_28 rfl ?_
  refine G.iload (pl := 5) C dX1_cheapest_30 rfl ?_
  refine G.aload_n (pl := 0) C dX1_cheapest_32 rfl rfl ?_
  refine gf1_6 C o_6 k1_46 dX1_cheapest_33 ?_
  refine G.iload_n (pl := 2) C dX1_cheapest_36 rfl rfl ?_
  obtain ⟨v1, ev1, hi1, hf⟩ := rd_some hf
  refine G.iald C a_10 hi1 ev1 dX1_cheapest_37 ?_
  refine G.iadd C dX1_cheapest_38 ?_
  refine G.icmp_ge (tgt := 99) C dX1_cheapest_39 (by decide) (fun hc1 => ?_) (fun hc1 => ?_)
  · replace hf := gIf hf hc1
    refine G.iload (pl := 6) C dX1_cheapest_99 rfl ?_
    cases hf
    exact G.iret C Rt dX1_cheapest_101
  · replace hf := gIfn hf hc1
    refine G.aload_n (pl := 0) C dX1_cheapest_42 rfl rfl ?_
    refine G.iload_n (pl := 1) C dX1_cheapest_43 rfl rfl ?_
    refine G.iload_n (pl := 3) C dX1_cheapest_44 rfl rfl ?_
    refine G.iload (pl := 4) C dX1_cheapest_45 rfl ?_
    refine G.iload (pl := 8) C dX1_cheapest_47 rfl ?_
    obtain ⟨v2, hr1, hf⟩ := cp_some hf
    refine G.callV (st1 := [.int v2]) C [.int x1, .int x3, .int x4, .int x8] [] (c_X1_costOf hr1) mv_X1_costOf k3_25 o_6.1 (fun _ => gShp_11 o_6) rfl rfl rfl rfl rfl (Nat.le_of_ble_eq_true rfl) (by decide) dX1_cheapest_49 rfl ?_
    refine G.istore (lv' := [(9, .int v2), (0, .ref (ad 6)), (1, .int x1), (2, .int x2), (3, .int x3), (4, .int x4), (5, .int x5), (6, .int x6), (7, .int x7), (8, .int x8)]) C dX1_cheapest_52 (by decide) rfl ?_
    refine G.iload (pl := 0) C dX1_cheapest_54 rfl ?_
    refine G.iload (pl := 8) C dX1_cheapest_56 rfl ?_
    refine G.icmp_lt (tgt := 85) C dX1_cheapest_58 (by decide) (fun hc2 => ?_) (fun hc2 => ?_)
    · replace hf := gIf hf hc2
      refine G.sub (lv' := [(0, .ref (ad 6)), (1, .int x1), (2, .int x2), (3, .int x3), (4, .int x4), (5, .int x5), (8, .int x8), (9, .int v2)]) [1, 2, 3, 4, 5, 6, 9, 0] rfl ?_
      exact w_X1_cheapest_85 C Rt x1 x2 x3 x4 x5 x8 v2 h_28 hf
    · replace hf := gIfn hf hc2
      refine G.iload (pl := 0) C dX1_cheapest_61 rfl ?_
      refine G.iload (pl := 8) C dX1_cheapest_63 rfl ?_
      refine G.icmp_ne (tgt := 93) C dX1_cheapest_65 (by decide) (fun hc3 => ?_) (fun hc3 => ?_)
      · replace hf := gIfn hf hc3
        refine G.sub (lv' := [(0, .ref (ad 6)), (1, .int x1), (2, .int x2), (3, .int x3), (4, .int x4), (5, .int x5), (6, .int x6), (7, .int x7), (8, .int x8)]) [1, 2, 3, 4, 5, 6, 7, 8, 9] rfl ?_
        exact w_X1_cheapest_93 C Rt x1 x2 x3 x4 x5 x6 x7 x8 h_28 hf
      · replace hf := gIf hf hc3
        refine G.aload_n (pl := 1) C dX1_cheapest_68 rfl rfl ?_
        refine gf1_9 C o_6 k1_52 dX1_cheapest_69 ?_
        refine G.iload (pl := 9) C dX1_cheapest_72 rfl ?_
        obtain ⟨v3, ev2, hi2, hf⟩ := rd_some hf
        refine G.iald C a_13 hi2 ev2 dX1_cheapest_74 ?_
        refine G.aload_n (pl := 1) C dX1_cheapest_75 rfl rfl ?_
        refine gf1_9 C o_6 k1_52 dX1_cheapest_76 ?_
        refine G.iload (pl := 7) C dX1_cheapest_79 rfl ?_
        obtain ⟨v4, ev3, hi3, hf⟩ := rd_some hf
        refine G.iald C a_13 hi3 ev3 dX1_cheapest_81 ?_
        refine G.icmp_le (tgt := 93) C dX1_cheapest_82 (by decide) (fun hc4 => ?_) (fun hc4 => ?_)
        · replace hf := gIf hf hc4
          refine G.sub (lv' := [(0, .ref (ad 6)), (1, .int x1), (2, .int x2), (3, .int x3), (4, .int x4), (5, .int x5), (6, .int x6), (7, .int x7), (8, .int x8)]) [1, 2, 3, 4, 5, 6, 7, 8, 9] rfl ?_
          exact w_X1_cheapest_93 C Rt x1 x2 x3 x4 x5 x6 x7 x8 h_28 hf
        · replace hf := gIfn hf hc4
          refine G.sub (lv' := [(0, .ref (ad 6)), (1, .int x1), (2, .int x2), (3, .int x3), (4, .int x4), (5, .int x5), (8, .int x8), (9, .int v2)]) [1, 2, 3, 4, 5, 6, 9, 0] rfl ?_
          exact w_X1_cheapest_85 C Rt x1 x2 x3 x4 x5 x8 v2 h_28 hf
theorem w_X1_cheapest_28 {X : Gc} {ad : Nat → Nat} {res : Int32} {M : Mem} (C : Gk X ad cX1_cheapest "NineTongues$Lexicon" 10 3) (Rt : Gr X ad (some .int) (some (.int res)) M) (x1 : Int32) (x2 : Int32) (x3 : Int32) (x4 : Int32) (x5 : Int32) : ∀ (n : Nat) (x6 : Int32) (x7 : Int32) (x8 : Int32), f_X1_cheapest_28 M x1 x2 x3 x4 x5 n x6 x7 x8 = some res → G X ad 28 10 [(0, .ref (ad 6)), (1, .int x1), (2, .int x2), (3, .int x3), (4, .int x4), (5, .int x5), (6, .int x6), (7, .int x7), (8, .int x8)] [] M := by
  intro n
  induction n with
  | zero => intro x6 x7 x8 hf; exact absurd (show (none : Option Int32) = some res from hf) (fun h => nomatch h)
  | succ n ih => intro x6 x7 x8 hf; exact w_X1_cheapest_28_b C Rt x1 x2 x3 x4 x5 ih x6 x7 x8 hf
set_option maxRecDepth 100000 in
set_option maxHeartbeats 4000000 in
theorem w_X1_cheapest_E {X : Gc} {ad : Nat → Nat} {res : Int32} {M : Mem} (C : Gk X ad cX1_cheapest "NineTongues$Lexicon" 10 3) (Rt : Gr X ad (some .int) (some (.int res)) M) (x1 : Int32) (x2 : Int32) (x3 : Int32) (x4 : Int32) (hf : f_X1_cheapest x1 x2 x3 x4 M = some res) : G X ad 0 10 [(0, .ref (ad 6)), (1, .int x1), (2, .int x2), (3, .int x3), (4, .int x4)] [] M := by
  unfold f_X1_cheapest at hf
  refine G.iload_n (pl := 2) C dX1_cheapest_0 rfl rfl ?_
  refine G.bipush (v := 8) C dX1_cheapest_1 (by decide) ?_
  refine G.imul C dX1_cheapest_3 ?_
  refine G.istore (lv' := [(5, .int (x2 * (8 : Int32))), (0, .ref (ad 6)), (1, .int x1), (2, .int x2), (3, .int x3), (4, .int x4)]) C dX1_cheapest_4 (by decide) rfl ?_
  refine G.iload (pl := 0) C dX1_cheapest_6 rfl ?_
  refine G.istore (lv' := [(6, .int (x2 * (8 : Int32))), (5, .int (x2 * (8 : Int32))), (0, .ref (ad 6)), (1, .int x1), (2, .int x2), (3, .int x3), (4, .int x4)]) C dX1_cheapest_8 (by decide) rfl ?_
  refine G.aload_n (pl := 2) C dX1_cheapest_10 rfl rfl ?_
  refine G.iload_n (pl := 3) C dX1_cheapest_11 rfl rfl ?_
  refine G.iload_n (pl := 5) C dX1_cheapest_12 rfl rfl ?_
  refine G.iload (pl := 6) C dX1_cheapest_13 rfl ?_
  refine G.iload (pl := 1) C dX1_cheapest_15 rfl ?_
  obtain ⟨v1, hr1, hf⟩ := cp_some hf
  refine G.callV (st1 := [.int v1]) C [.int x1, .int x3, .int x4, .int (x2 * (8 : Int32))] [] (c_X1_costOf hr1) mv_X1_costOf k3_25 o_6.1 (fun _ => gShp_11 o_6) rfl rfl rfl rfl rfl (Nat.le_of_ble_eq_true rfl) (by decide) dX1_cheapest_17 rfl ?_
  refine G.istore (lv' := [(7, .int v1), (6, .int (x2 * (8 : Int32))), (5, .int (x2 * (8 : Int32))), (0, .ref (ad 6)), (1, .int x1), (2, .int x2), (3, .int x3), (4, .int x4)]) C dX1_cheapest_20 (by decide) rfl ?_
  refine G.iload (pl := 2) C dX1_cheapest_22 rfl ?_
  refine G.iconst (v := 1) C dX1_cheapest_24 (by decide) ?_
  refine G.iadd C dX1_cheapest_25 ?_
  refine G.istore (lv' := [(8, .int ((x2 * (8 : Int32)) + (1 : Int32))), (7, .int v1), (6, .int (x2 * (8 : Int32))), (5, .int (x2 * (8 : Int32))), (0, .ref (ad 6)), (1, .int x1), (2, .int x2), (3, .int x3), (4, .int x4)]) C dX1_cheapest_26 (by decide) rfl ?_
  refine G.sub (lv' := [(0, .ref (ad 6)), (1, .int x1), (2, .int x2), (3, .int x3), (4, .int x4), (5, .int (x2 * (8 : Int32))), (6, .int (x2 * (8 : Int32))), (7, .int v1), (8, .int ((x2 * (8 : Int32)) + (1 : Int32)))]) [4, 5, 6, 7, 8, 3, 2, 1, 0] rfl ?_
  exact w_X1_cheapest_28 C Rt x1 x2 x3 x4 (x2 * (8 : Int32)) FU (x2 * (8 : Int32)) v1 ((x2 * (8 : Int32)) + (1 : Int32)) hf
theorem mv_X1_cheapest : gMV yX1_cheapest cX1_cheapest 10 (some .int) 4 := ⟨k3_22, k3_23, k1_3, k3_24, ⟨by decide +kernel, by decide +kernel, by decide +kernel⟩, by decide⟩
theorem c_X1_cheapest {res : Int32} {x1 : Int32} {x2 : Int32} {x3 : Int32} {x4 : Int32} {M : Mem} (hf : f_X1_cheapest x1 x2 x3 x4 M = some res) : Ct yX1_cheapest cX1_cheapest 10 (some .int) 3 (fun ad => [.ref (ad 6), .int x1, .int x2, .int x3, .int x4]) M (some (.int res)) M :=
  Ct.of (by decide +kernel) (fun _ => Nat.le_of_ble_eq_true rfl) (fun X ad C Rt => w_X1_cheapest_E C Rt x1 x2 x3 x4 hf)
set_option maxRecDepth 100000 in
set_option maxHeartbeats 4000000 in
theorem w_X1_formIn_38 {X : Gc} {ad : Nat → Nat} {res : Int32} {M : Mem} (C : Gk X ad cX1_formIn "NineTongues$Lexicon" 5 1) (Rt : Gr X ad (some .int) (some (.int res)) M) (x1 : Int32) (x2 : Int32) (x3 : Int32) (t0 : Int32) (hf : f_X1_formIn_38 M x1 x2 x3 t0 = some res) : G X ad 38 5 [(0, .ref (ad 6)), (1, .int x1), (2, .int x2), (3, .int x3)] [.int t0] M := by
  unfold f_X1_formIn_38 at hf
  refine G.istore (lv' := [(4, .int t0), (0, .ref (ad 6)), (1, .int x1), (2, .int x2), (3, .int x3)]) C dX1_formIn_38 (by decide) rfl ?_
  refine G.iload (pl := 0) C dX1_formIn_40 rfl ?_
  refine G.if_eq (tgt := 58) C dX1_formIn_42 (by decide) (fun hc1 => ?_) (fun hc1 => ?_)
  · replace hf := gIf hf hc1
    refine G.iload_n (pl := 4) C dX1_formIn_58 rfl rfl ?_
    cases hf
    exact G.iret C Rt dX1_formIn_59
  · replace hf := gIfn hf hc1
    refine G.aload_n (pl := 1) C dX1_formIn_45 rfl rfl ?_
    refine gf1_5 C o_6 k1_45 dX1_formIn_46 ?_
    refine G.iload_n (pl := 2) C dX1_formIn_49 rfl rfl ?_
    obtain ⟨v1, ev1, hi1, hf⟩ := rd_some hf
    refine G.iald C a_9 hi1 ev1 dX1_formIn_50 ?_
    refine G.iload_n (pl := 3) C dX1_formIn_51 rfl rfl ?_
    refine G.ishr C dX1_formIn_52 ?_
    refine G.iconst (v := 1) C dX1_formIn_53 (by decide) ?_
    refine G.iand C dX1_formIn_54 ?_
    refine G.goto (tgt := 59) C dX1_formIn_55 (by decide) ?_
    cases hf
    exact G.iret C Rt dX1_formIn_59
set_option maxRecDepth 100000 in
set_option maxHeartbeats 4000000 in
theorem w_X1_formIn_37 {X : Gc} {ad : Nat → Nat} {res : Int32} {M : Mem} (C : Gk X ad cX1_formIn "NineTongues$Lexicon" 5 1) (Rt : Gr X ad (some .int) (some (.int res)) M) (x1 : Int32) (x2 : Int32) (x3 : Int32) (hf : f_X1_formIn_37 M x1 x2 x3 = some res) : G X ad 37 5 [(0, .ref (ad 6)), (1, .int x1), (2, .int x2), (3, .int x3)] [] M := by
  unfold f_X1_formIn_37 at hf
  refine G.iconst (v := 0) C dX1_formIn_37 (by decide) ?_
  exact w_X1_formIn_38 C Rt x1 x2 x3 (0 : Int32) hf
set_option maxRecDepth 100000 in
set_option maxHeartbeats 4000000 in
theorem w_X1_formIn_E {X : Gc} {ad : Nat → Nat} {res : Int32} {M : Mem} (C : Gk X ad cX1_formIn "NineTongues$Lexicon" 5 1) (Rt : Gr X ad (some .int) (some (.int res)) M) (x1 : Int32) (x2 : Int32) (x3 : Int32) (hf : f_X1_formIn x1 x2 x3 M = some res) : G X ad 0 5 [(0, .ref (ad 6)), (1, .int x1), (2, .int x2), (3, .int x3)] [] M := by
  unfold f_X1_formIn at hf
  refine G.aload_n (pl := 0) C dX1_formIn_0 rfl rfl ?_
  refine gf1_4 C o_6 k1_44 dX1_formIn_1 ?_
  refine G.iload_n (pl := 1) C dX1_formIn_4 rfl rfl ?_
  obtain ⟨v1, ev1, hi1, hf⟩ := rd_some hf
  refine G.iald C a_8 hi1 ev1 dX1_formIn_5 ?_
  refine G.iload_n (pl := 2) C dX1_formIn_6 rfl rfl ?_
  refine G.ishr C dX1_formIn_7 ?_
  refine G.iconst (v := 1) C dX1_formIn_8 (by decide) ?_
  refine G.iand C dX1_formIn_9 ?_
  refine G.if_ne (tgt := 15) C dX1_formIn_10 (by decide) (fun hc1 => ?_) (fun hc1 => ?_)
  · replace hf := gIfn hf hc1
    refine G.iload_n (pl := 3) C dX1_formIn_15 rfl rfl ?_
    refine G.iconst (v := (-1)) C dX1_formIn_16 (by decide) ?_
    refine G.icmp_ne (tgt := 37) C dX1_formIn_17 (by decide) (fun hc2 => ?_) (fun hc2 => ?_)
    · replace hf := gIfn hf hc2
      exact w_X1_formIn_37 C Rt x1 x2 x3 hf
    · replace hf := gIf hf hc2
      refine G.aload_n (pl := 0) C dX1_formIn_20 rfl rfl ?_
      refine gf1_3 C o_6 k1_43 dX1_formIn_21 ?_
      refine G.iload_n (pl := 1) C dX1_formIn_24 rfl rfl ?_
      obtain ⟨v2, ev2, hi2, hf⟩ := rd_some hf
      refine G.iald C a_7 hi2 ev2 dX1_formIn_25 ?_
      refine G.iload_n (pl := 2) C dX1_formIn_26 rfl rfl ?_
      refine G.ishr C dX1_formIn_27 ?_
      refine G.iconst (v := 1) C dX1_formIn_28 (by decide) ?_
      refine G.iand C dX1_formIn_29 ?_
      refine G.if_eq (tgt := 37) C dX1_formIn_30 (by decide) (fun hc3 => ?_) (fun hc3 => ?_)
      · replace hf := gIf hf hc3
        exact w_X1_formIn_37 C Rt x1 x2 x3 hf
      · replace hf := gIfn hf hc3
        refine G.iconst (v := 1) C dX1_formIn_33 (by decide) ?_
        refine G.goto (tgt := 38) C dX1_formIn_34 (by decide) ?_
        exact w_X1_formIn_38 C Rt x1 x2 x3 (1 : Int32) hf
  · replace hf := gIf hf hc1
    refine G.iconst (v := (-1)) C dX1_formIn_13 (by decide) ?_
    cases hf
    exact G.iret C Rt dX1_formIn_14
theorem mv_X1_formIn : gMV yX1_formIn cX1_formIn 5 (some .int) 3 := ⟨k3_28, kS_13, k1_3, k3_29, ⟨by decide +kernel, by decide +kernel, by decide +kernel⟩, by decide⟩
theorem c_X1_formIn {res : Int32} {x1 : Int32} {x2 : Int32} {x3 : Int32} {M : Mem} (hf : f_X1_formIn x1 x2 x3 M = some res) : Ct yX1_formIn cX1_formIn 5 (some .int) 1 (fun ad => [.ref (ad 6), .int x1, .int x2, .int x3]) M (some (.int res)) M :=
  Ct.of (by decide +kernel) (fun _ => Nat.le_of_ble_eq_true rfl) (fun X ad C Rt => w_X1_formIn_E C Rt x1 x2 x3 hf)
set_option maxRecDepth 100000 in
set_option maxHeartbeats 4000000 in
theorem w_X1_carry_80_b {X : Gc} {ad : Nat → Nat} {res : (Unit × Mem)} {k1 : Nat} {r_80 : Int32 → Mem → Option (Unit × Mem)} (hk1 : gIs 17 k1) (C : Gk X ad cX1_carry "NineTongues$Lexicon" 6 4) (Rt : Gr X ad none none res.2) (x3 : Int32) (h_80 : ∀ (x4 : Int32) (M : Mem), r_80 x4 M = some res → G X ad 80 6 [(0, .ref (ad 6)), (1, .ref (ad k1)), (3, .int x3), (4, .int x4)] [] M) (x4 : Int32) (M : Mem) (hf : f_X1_carry_80_b k1 r_80 x3 x4 M = some res) : G X ad 80 6 [(0, .ref (ad 6)), (1, .ref (ad k1)), (3, .int x3), (4, .int x4)] [] M := by
  unfold f_X1_carry_80_b at hf
  refine G.iload (pl := 3) C dX1_carry_80 rfl ?_
  refine G.iconst (v := 4) C dX1_carry_82 (by decide) ?_
  refine G.icmp_ge (tgt := 113) C dX1_carry_83 (by decide) (fun hc1 => ?_) (fun hc1 => ?_)
  · replace hf := gIf hf hc1
    cases hf
    exact G.vret C Rt dX1_carry_113
  · replace hf := gIfn hf hc1
    refine G.aload_n (pl := 1) C dX1_carry_86 rfl rfl ?_
    refine gf7_3 C hk1 k1_105 dX1_carry_87 ?_
    refine G.iload (pl := 3) C dX1_carry_90 rfl ?_
    refine G.aload_n (pl := 0) C dX1_carry_92 rfl rfl ?_
    refine G.iload_n (pl := 2) C dX1_carry_93 rfl rfl ?_
    refine G.iload (pl := 3) C dX1_carry_94 rfl ?_
    refine G.aload_n (pl := 1) C dX1_carry_96 rfl rfl ?_
    refine gf7_3 C hk1 k1_105 dX1_carry_97 ?_
    refine G.iload (pl := 3) C dX1_carry_100 rfl ?_
    obtain ⟨v1, ev1, hi1, hf⟩ := rd_some hf
    refine G.iald C (gx17_3 hk1) hi1 ev1 dX1_carry_102 ?_
    obtain ⟨v2, hr1, hf⟩ := cp_some hf
    refine G.callV (st1 := [.int v2, .int x4, .ref (ad (k1 + 3))]) C [.int x3, .int x4, .int v1] [.int x4, .ref (ad (k1 + 3))] (c_X1_formIn hr1) mv_X1_formIn k3_26 o_6.1 (fun _ => gShp_11 o_6) rfl rfl rfl rfl rfl (Nat.le_of_ble_eq_true rfl) (by decide) dX1_carry_103 rfl ?_
    obtain ⟨hi2, hf⟩ := ck_some hf
    obtain ⟨M1, eM1, hf⟩ := stm_some hf
    refine G.iast C (gx17_3 hk1) hi2 eM1 dX1_carry_106 ?_
    refine G.iinc (pl := 3) (v := (x4 + 1)) (lv' := [(4, .int (x4 + 1)), (0, .ref (ad 6)), (1, .ref (ad k1)), (3, .int x3)]) C dX1_carry_107 rfl rfl (by decide) rfl ?_
    refine G.goto (tgt := 80) C dX1_carry_110 (by decide) ?_
    refine G.sub (lv' := [(0, .ref (ad 6)), (1, .ref (ad k1)), (3, .int x3), (4, .int (x4 + 1))]) [1, 2, 3, 0] rfl ?_
    exact h_80 (x4 + 1) M1 hf
theorem w_X1_carry_80 {X : Gc} {ad : Nat → Nat} {res : (Unit × Mem)} {k1 : Nat} (hk1 : gIs 17 k1) (C : Gk X ad cX1_carry "NineTongues$Lexicon" 6 4) (Rt : Gr X ad none none res.2) (x3 : Int32) : ∀ (n : Nat) (x4 : Int32) (M : Mem), f_X1_carry_80 k1 x3 n x4 M = some res → G X ad 80 6 [(0, .ref (ad 6)), (1, .ref (ad k1)), (3, .int x3), (4, .int x4)] [] M := by
  intro n
  induction n with
  | zero => intro x4 M hf; exact absurd (show (none : Option (Unit × Mem)) = some res from hf) (fun h => nomatch h)
  | succ n ih => intro x4 M hf; exact w_X1_carry_80_b hk1 C Rt x3 ih x4 M hf
set_option maxRecDepth 100000 in
set_option maxHeartbeats 4000000 in
theorem w_X1_carry_12_b {X : Gc} {ad : Nat → Nat} {res : (Unit × Mem)} {k1 : Nat} {r_12 : Int32 → Mem → Option (Unit × Mem)} (hk1 : gIs 17 k1) (C : Gk X ad cX1_carry "NineTongues$Lexicon" 6 4) (Rt : Gr X ad none none res.2) (x2 : Int32) (x3 : Int32) (h_12 : ∀ (x4 : Int32) (M : Mem), r_12 x4 M = some res → G X ad 12 6 [(0, .ref (ad 6)), (1, .ref (ad k1)), (2, .int x2), (3, .int x3), (4, .int x4)] [] M) (x4 : Int32) (M : Mem) (hf : f_X1_carry_12_b k1 r_12 x2 x3 x4 M = some res) : G X ad 12 6 [(0, .ref (ad 6)), (1, .ref (ad k1)), (2, .int x2), (3, .int x3), (4, .int x4)] [] M := by
  unfold f_X1_carry_12_b at hf
  refine G.iload (pl := 4) C dX1_carry_12 rfl ?_
  refine G.aload_n (pl := 1) C dX1_carry_14 rfl rfl ?_
  refine gf7_0 C hk1 k1_92 dX1_carry_15 ?_
  refine G.icmp_ge (tgt := 77) C dX1_carry_18 (by decide) (fun hc1 => ?_) (fun hc1 => ?_)
  · replace hf := gIf hf hc1
    refine G.iconst (v := 0) C dX1_carry_77 (by decide) ?_
    refine G.istore (lv' := [(4, .int (0 : Int32)), (0, .ref (ad 6)), (1, .ref (ad k1)), (2, .int x2), (3, .int x3)]) C dX1_carry_78 (by decide) rfl ?_
    refine G.sub (lv' := [(0, .ref (ad 6)), (1, .ref (ad k1)), (3, .int x3), (4, .int (0 : Int32))]) [1, 2, 4, 0] rfl ?_
    exact w_X1_carry_80 hk1 C Rt x3 FU (0 : Int32) M hf
  · replace hf := gIfn hf hc1
    refine G.aload_n (pl := 0) C dX1_carry_21 rfl rfl ?_
    refine G.iload_n (pl := 2) C dX1_carry_22 rfl rfl ?_
    refine G.iload_n (pl := 3) C dX1_carry_23 rfl rfl ?_
    refine G.aload_n (pl := 1) C dX1_carry_24 rfl rfl ?_
    refine gf7_1 C hk1 k1_97 dX1_carry_25 ?_
    refine G.iload (pl := 4) C dX1_carry_28 rfl ?_
    obtain ⟨v1, ev1, hi1, hf⟩ := rd_some hf
    refine G.iald C (gx17_1 hk1) hi1 ev1 dX1_carry_30 ?_
    refine G.aload_n (pl := 1) C dX1_carry_31 rfl rfl ?_
    refine gf7_2 C hk1 k1_100 dX1_carry_32 ?_
    refine G.iload (pl := 4) C dX1_carry_35 rfl ?_
    obtain ⟨v2, ev2, hi2, hf⟩ := rd_some hf
    refine G.iald C (gx17_2 hk1) hi2 ev2 dX1_carry_37 ?_
    obtain ⟨v3, hr1, hf⟩ := cp_some hf
    refine G.callV (st1 := [.int v3]) C [.int x2, .int x3, .int v1, .int v2] [] (c_X1_cheapest hr1) mv_X1_cheapest k3_21 o_6.1 (fun _ => gShp_11 o_6) rfl rfl rfl rfl rfl (Nat.le_of_ble_eq_true rfl) (by decide) dX1_carry_38 rfl ?_
    refine G.istore (lv' := [(5, .int v3), (0, .ref (ad 6)), (1, .ref (ad k1)), (2, .int x2), (3, .int x3), (4, .int x4)]) C dX1_carry_41 (by decide) rfl ?_
    refine G.aload_n (pl := 2) C dX1_carry_43 rfl rfl ?_
    refine gf7_1 C hk1 k1_97 dX1_carry_44 ?_
    refine G.iload (pl := 5) C dX1_carry_47 rfl ?_
    refine G.aload_n (pl := 1) C dX1_carry_49 rfl rfl ?_
    refine gf1_7 C o_6 k1_49 dX1_carry_50 ?_
    refine G.iload (pl := 0) C dX1_carry_53 rfl ?_
    obtain ⟨v4, ev3, hi3, hf⟩ := rd_some hf
    refine G.iald C a_11 hi3 ev3 dX1_carry_55 ?_
    obtain ⟨hi4, hf⟩ := ck_some hf
    obtain ⟨M1, eM1, hf⟩ := stm_some hf
    refine G.iast C (gx17_1 hk1) hi4 eM1 dX1_carry_56 ?_
    refine G.aload_n (pl := 2) C dX1_carry_57 rfl rfl ?_
    refine gf7_2 C hk1 k1_100 dX1_carry_58 ?_
    refine G.iload (pl := 5) C dX1_carry_61 rfl ?_
    refine G.aload_n (pl := 1) C dX1_carry_63 rfl rfl ?_
    refine gf1_8 C o_6 k1_51 dX1_carry_64 ?_
    refine G.iload (pl := 0) C dX1_carry_67 rfl ?_
    obtain ⟨v5, ev4, hi5, hf⟩ := rd_some hf
    refine G.iald C a_12 hi5 ev4 dX1_carry_69 ?_
    obtain ⟨hi6, hf⟩ := ck_some hf
    obtain ⟨M2, eM2, hf⟩ := stm_some hf
    refine G.iast C (gx17_2 hk1) hi6 eM2 dX1_carry_70 ?_
    refine G.iinc (pl := 5) (v := (x4 + 1)) (lv' := [(4, .int (x4 + 1)), (5, .int v3), (0, .ref (ad 6)), (1, .ref (ad k1)), (2, .int x2), (3, .int x3)]) C dX1_carry_71 rfl rfl (by decide) rfl ?_
    refine G.goto (tgt := 12) C dX1_carry_74 (by decide) ?_
    refine G.sub (lv' := [(0, .ref (ad 6)), (1, .ref (ad k1)), (2, .int x2), (3, .int x3), (4, .int (x4 + 1))]) [2, 3, 4, 5, 0] rfl ?_
    exact h_12 (x4 + 1) M2 hf
theorem w_X1_carry_12 {X : Gc} {ad : Nat → Nat} {res : (Unit × Mem)} {k1 : Nat} (hk1 : gIs 17 k1) (C : Gk X ad cX1_carry "NineTongues$Lexicon" 6 4) (Rt : Gr X ad none none res.2) (x2 : Int32) (x3 : Int32) : ∀ (n : Nat) (x4 : Int32) (M : Mem), f_X1_carry_12 k1 x2 x3 n x4 M = some res → G X ad 12 6 [(0, .ref (ad 6)), (1, .ref (ad k1)), (2, .int x2), (3, .int x3), (4, .int x4)] [] M := by
  intro n
  induction n with
  | zero => intro x4 M hf; exact absurd (show (none : Option (Unit × Mem)) = some res from hf) (fun h => nomatch h)
  | succ n ih => intro x4 M hf; exact w_X1_carry_12_b hk1 C Rt x2 x3 ih x4 M hf
set_option maxRecDepth 100000 in
set_option maxHeartbeats 4000000 in
theorem w_X1_carry_E {X : Gc} {ad : Nat → Nat} {res : (Unit × Mem)} {k1 : Nat} (hk1 : gIs 17 k1) (C : Gk X ad cX1_carry "NineTongues$Lexicon" 6 4) (Rt : Gr X ad none none res.2) (x2 : Int32) (x3 : Int32) (M : Mem) (hf : f_X1_carry k1 x2 x3 M = some res) : G X ad 0 6 [(0, .ref (ad 6)), (1, .ref (ad k1)), (2, .int x2), (3, .int x3)] [] M := by
  unfold f_X1_carry at hf
  refine G.aload_n (pl := 0) C dX1_carry_0 rfl rfl ?_
  refine G.iload_n (pl := 3) C dX1_carry_1 rfl rfl ?_
  obtain ⟨v1, hr1, hf⟩ := cp_some hf
  refine G.callV (st1 := [.int v1]) C [.int x3] [] (c_X1_hasWords hr1) mv_X1_hasWords k3_20 o_6.1 (fun _ => gShp_11 o_6) rfl rfl rfl rfl rfl (Nat.le_of_ble_eq_true rfl) (by decide) dX1_carry_2 rfl ?_
  refine G.if_ne (tgt := 9) C dX1_carry_5 (by decide) (fun hc1 => ?_) (fun hc1 => ?_)
  · replace hf := gIfn hf hc1
    refine G.iconst (v := 0) C dX1_carry_9 (by decide) ?_
    refine G.istore (lv' := [(4, .int (0 : Int32)), (0, .ref (ad 6)), (1, .ref (ad k1)), (2, .int x2), (3, .int x3)]) C dX1_carry_10 (by decide) rfl ?_
    refine G.sub (lv' := [(0, .ref (ad 6)), (1, .ref (ad k1)), (2, .int x2), (3, .int x3), (4, .int (0 : Int32))]) [1, 2, 3, 4, 0] rfl ?_
    exact w_X1_carry_12 hk1 C Rt x2 x3 FU (0 : Int32) M hf
  · replace hf := gIf hf hc1
    cases hf
    exact G.vret C Rt dX1_carry_8
theorem mv_X1_carry : gMV yX1_carry cX1_carry 6 none 3 := ⟨k3_17, k3_18, k1_3, k3_19, ⟨by decide +kernel, by decide +kernel, by decide +kernel⟩, by decide⟩
theorem c_X1_carry {res : (Unit × Mem)} {k1 : Nat} {x2 : Int32} {x3 : Int32} {M : Mem} (hk1 : gIs 17 k1) (hf : f_X1_carry k1 x2 x3 M = some res) : Ct yX1_carry cX1_carry 6 none 4 (fun ad => [.ref (ad 6), .ref (ad k1), .int x2, .int x3]) M none res.2 :=
  Ct.of (by decide +kernel) (fun _ => Nat.le_of_ble_eq_true rfl) (fun X ad C Rt => w_X1_carry_E hk1 C Rt x2 x3 M hf)
