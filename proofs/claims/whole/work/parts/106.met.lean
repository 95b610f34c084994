set_option maxRecDepth 100000 in
set_option maxHeartbeats 4000000 in
theorem w_X9_worst_63 {X : Gc} {ad : Nat → Nat} {res : (Int32 × Mem)} {r_18 : Int32 → Int32 → Mem → Option (Int32 × Mem)} (C : Gk X ad cX9_worst "NineTongues" 3 4) (Rt : Gr X ad (some .int) (some (.int res.1)) res.2) (x1 : Int32) (x2 : Int32) (M : Mem) (h_18 : ∀ (x1 : Int32) (x2 : Int32) (M : Mem), r_18 x1 x2 M = some res → G X ad 18 3 [(0, .ref (ad 0)), (1, .int x1), (2, .int x2)] [] M) (hf : f_X9_worst_63 r_18 x1 x2 M = some res) : G X ad 63 3 [(0, .ref (ad 0)), (1, .int x1), (2, .int x2)] [] M := by
  unfold f_X9_worst_63 at hf
  refine G.iinc (pl := 2) (v := (x2 + 1)) (lv' := [(2, .int (x2 + 1)), (0, .ref (ad 0)), (1, .int x1)]) C dX9_worst_63 rfl rfl (by decide) rfl ?_
  refine G.goto (tgt := 18) C dX9_worst_66 (by decide) ?_
  refine G.sub (lv' := [(0, .ref (ad 0)), (1, .int x1), (2, .int (x2 + 1))]) [1, 2, 0] rfl ?_
  exact h_18 x1 (x2 + 1) M hf
set_option maxRecDepth 100000 in
set_option maxHeartbeats 4000000 in
theorem w_X9_worst_61 {X : Gc} {ad : Nat → Nat} {res : (Int32 × Mem)} {r_18 : Int32 → Int32 → Mem → Option (Int32 × Mem)} (C : Gk X ad cX9_worst "NineTongues" 3 4) (Rt : Gr X ad (some .int) (some (.int res.1)) res.2) (x2 : Int32) (M : Mem) (h_18 : ∀ (x1 : Int32) (x2 : Int32) (M : Mem), r_18 x1 x2 M = some res → G X ad 18 3 [(0, .ref (ad 0)), (1, .int x1), (2, .int x2)] [] M) (hf : f_X9_worst_61 r_18 x2 M = some res) : G X ad 61 3 [(0, .ref (ad 0)), (2, .int x2)] [] M := by
  unfold f_X9_worst_61 at hf
  refine G.iload_n (pl := 1) C dX9_worst_61 rfl rfl ?_
  refine G.istore_n (lv' := [(1, .int x2), (0, .ref (ad 0)), (2, .int x2)]) C dX9_worst_62 rfl (by decide) rfl ?_
  refine G.sub (lv' := [(0, .ref (ad 0)), (1, .int x2), (2, .int x2)]) [1, 0, 2] rfl ?_
  exact w_X9_worst_63 C Rt x2 x2 M h_18 hf
set_option maxRecDepth 100000 in
set_option maxHeartbeats 4000000 in
theorem w_X9_worst_18_b {X : Gc} {ad : Nat → Nat} {res : (Int32 × Mem)} {r_18 : Int32 → Int32 → Mem → Option (Int32 × Mem)} (C : Gk X ad cX9_worst "NineTongues" 3 4) (Rt : Gr X ad (some .int) (some (.int res.1)) res.2) (h_18 : ∀ (x1 : Int32) (x2 : Int32) (M : Mem), r_18 x1 x2 M = some res → G X ad 18 3 [(0, .ref (ad 0)), (1, .int x1), (2, .int x2)] [] M) (x1 : Int32) (x2 : Int32) (M : Mem) (hf : f_X9_worst_18_b r_18 x1 x2 M = some res) : G X ad 18 3 [(0, .ref (ad 0)), (1, .int x1), (2, .int x2)] [] M := by
  unfold f_X9_worst_18_b at hf
  refine G.iload_n (pl := 2) C dX9_worst_18 rfl rfl ?_
  refine G.aload_n (pl := 0) C dX9_worst_19 rfl rfl ?_
  refine gf9_0 C o_0 k2_44 dX9_worst_20 ?_
  refine gf8_4 C o_5 k1_183 dX9_worst_23 ?_
  refine gf2_0 C o_23 k1_160 dX9_worst_26 ?_
  refine G.icmp_ge (tgt := 69) C dX9_worst_29 (by decide) (fun hc1 => ?_) (fun hc1 => ?_)
  · replace hf := gIf hf hc1
    refine G.iload_n (pl := 1) C dX9_worst_69 rfl rfl ?_
    cases hf
    exact G.iret C Rt dX9_worst_70
  · replace hf := gIfn hf hc1
    refine G.aload_n (pl := 0) C dX9_worst_32 rfl rfl ?_
    refine gf9_9 C o_0 k2_53 dX9_worst_33 ?_
    refine gf4_2 C o_96 k2_26 dX9_worst_36 ?_
    refine G.iload_n (pl := 2) C dX9_worst_39 rfl rfl ?_
    obtain ⟨v1, ev1, hi1, hf⟩ := rd_some hf
    refine G.iald C a_97 hi1 ev1 dX9_worst_40 ?_
    refine G.if_le (tgt := 63) C dX9_worst_41 (by decide) (fun hc2 => ?_) (fun hc2 => ?_)
    · replace hf := gIf hf hc2
      exact w_X9_worst_63 C Rt x1 x2 M h_18 hf
    · replace hf := gIfn hf hc2
      refine G.iload_n (pl := 1) C dX9_worst_44 rfl rfl ?_
      refine G.iconst (v := (-1)) C dX9_worst_45 (by decide) ?_
      refine G.icmp_eq (tgt := 61) C dX9_worst_46 (by decide) (fun hc3 => ?_) (fun hc3 => ?_)
      · replace hf := gIf hf hc3
        refine G.sub (lv' := [(0, .ref (ad 0)), (2, .int x2)]) [0, 2] rfl ?_
        exact w_X9_worst_61 C Rt x2 M h_18 hf
      · replace hf := gIfn hf hc3
        refine G.aload_n (pl := 0) C dX9_worst_49 rfl rfl ?_
        refine gf9_9 C o_0 k2_53 dX9_worst_50 ?_
        refine G.iload_n (pl := 2) C dX9_worst_53 rfl rfl ?_
        refine G.iload_n (pl := 1) C dX9_worst_54 rfl rfl ?_
        obtain ⟨v2, hr1, hf⟩ := cp_some hf
        refine G.callV (st1 := [.int v2]) C [.int x2, .int x1] [] (c_X4_isWorse hr1) mv_X4_isWorse k3_228 o_96.1 (fun _ => gShp_14 o_96) rfl rfl rfl rfl rfl (Nat.le_of_ble_eq_true rfl) (by decide) dX9_worst_55 rfl ?_
        refine G.if_eq (tgt := 63) C dX9_worst_58 (by decide) (fun hc4 => ?_) (fun hc4 => ?_)
        · replace hf := gIf hf hc4
          exact w_X9_worst_63 C Rt x1 x2 M h_18 hf
        · replace hf := gIfn hf hc4
          refine G.sub (lv' := [(0, .ref (ad 0)), (2, .int x2)]) [0, 2] rfl ?_
          exact w_X9_worst_61 C Rt x2 M h_18 hf
theorem w_X9_worst_18 {X : Gc} {ad : Nat → Nat} {res : (Int32 × Mem)} (C : Gk X ad cX9_worst "NineTongues" 3 4) (Rt : Gr X ad (some .int) (some (.int res.1)) res.2) : ∀ (n : Nat) (x1 : Int32) (x2 : Int32) (M : Mem), f_X9_worst_18 n x1 x2 M = some res → G X ad 18 3 [(0, .ref (ad 0)), (1, .int x1), (2, .int x2)] [] M := by
  intro n
  induction n with
  | zero => intro x1 x2 M hf; exact absurd (show (none : Option (Int32 × Mem)) = some res from hf) (fun h => nomatch h)
  | succ n ih => intro x1 x2 M hf; exact w_X9_worst_18_b C Rt ih x1 x2 M hf
set_option maxRecDepth 100000 in
set_option maxHeartbeats 4000000 in
theorem w_X9_worst_E {X : Gc} {ad : Nat → Nat} {res : (Int32 × Mem)} (C : Gk X ad cX9_worst "NineTongues" 3 4) (Rt : Gr X ad (some .int) (some (.int res.1)) res.2) (M : Mem) (hf : f_X9_worst M = some res) : G X ad 0 3 [(0, .ref (ad 0))] [] M := by
  unfold f_X9_worst at hf
  refine G.aload_n (pl := 0) C dX9_worst_0 rfl rfl ?_
  refine gf9_9 C o_0 k2_53 dX9_worst_1 ?_
  refine G.aload_n (pl := 0) C dX9_worst_4 rfl rfl ?_
  refine gf9_0 C o_0 k2_44 dX9_worst_5 ?_
  refine gf8_4 C o_5 k1_183 dX9_worst_8 ?_
  obtain ⟨u, M1, hr1, hf⟩ := cl_some hf
  refine G.callV (st1 := []) C [.ref (ad 23)] [] (c_X4_find hr1) mv_X4_find k3_202 o_96.1 (fun _ => gShp_14 o_96) rfl rfl rfl rfl rfl (Nat.le_of_ble_eq_true rfl) (by decide) dX9_worst_11 rfl ?_
  refine G.iconst (v := (-1)) C dX9_worst_14 (by decide) ?_
  refine G.istore_n (lv' := [(1, .int (-1 : Int32)), (0, .ref (ad 0))]) C dX9_worst_15 rfl (by decide) rfl ?_
  refine G.iconst (v := 0) C dX9_worst_16 (by decide) ?_
  refine G.istore_n (lv' := [(2, .int (0 : Int32)), (1, .int (-1 : Int32)), (0, .ref (ad 0))]) C dX9_worst_17 rfl (by decide) rfl ?_
  refine G.sub (lv' := [(0, .ref (ad 0)), (1, .int (-1 : Int32)), (2, .int (0 : Int32))]) [2, 1, 0] rfl ?_
  exact w_X9_worst_18 C Rt FU (-1 : Int32) (0 : Int32) M1 hf
theorem mv_X9_worst : gMV yX9_worst cX9_worst 3 (some .int) 0 := ⟨k3_225, k3_226, k1_1, k3_227, ⟨by decide +kernel, by decide +kernel, by decide +kernel⟩, by decide⟩
theorem c_X9_worst {res : (Int32 × Mem)} {M : Mem} (hf : f_X9_worst M = some res) : Ct yX9_worst cX9_worst 3 (some .int) 4 (fun ad => [.ref (ad 0)]) M (some (.int res.1)) res.2 :=
  Ct.of (by decide +kernel) (fun _ => Nat.le_of_ble_eq_true rfl) (fun X ad C Rt => w_X9_worst_E C Rt M hf)
set_option maxRecDepth 100000 in
set_option maxHeartbeats 4000000 in
theorem w_X9_sets_68 {X : Gc} {ad : Nat → Nat} {res : (Int32 × Mem)} {r_32 : Int32 → Int32 → Mem → Option (Int32 × Mem)} (C : Gk X ad cX9_sets "NineTongues" 3 5) (Rt : Gr X ad (some .int) (some (.int res.1)) res.2) (x1 : Int32) (x2 : Int32) (M : Mem) (h_32 : ∀ (x1 : Int32) (x2 : Int32) (M : Mem), r_32 x1 x2 M = some res → G X ad 32 3 [(0, .ref (ad 0)), (1, .int x1), (2, .int x2)] [] M) (hf : f_X9_sets_68 r_32 x1 x2 M = some res) : G X ad 68 3 [(0, .ref (ad 0)), (1, .int x1), (2, .int x2)] [] M := by
  unfold f_X9_sets_68 at hf
  refine G.iinc (pl := 2) (v := (x2 + 1)) (lv' := [(2, .int (x2 + 1)), (0, .ref (ad 0)), (1, .int x1)]) C dX9_sets_68 rfl rfl (by decide) rfl ?_
  refine G.goto (tgt := 32) C dX9_sets_71 (by decide) ?_
  refine G.sub (lv' := [(0, .ref (ad 0)), (1, .int x1), (2, .int (x2 + 1))]) [1, 2, 0] rfl ?_
  exact h_32 x1 (x2 + 1) M hf
set_option maxRecDepth 100000 in
set_option maxHeartbeats 4000000 in
theorem w_X9_sets_32_b {X : Gc} {ad : Nat → Nat} {res : (Int32 × Mem)} {r_32 : Int32 → Int32 → Mem → Option (Int32 × Mem)} (C : Gk X ad cX9_sets "NineTongues" 3 5) (Rt : Gr X ad (some .int) (some (.int res.1)) res.2) (h_32 : ∀ (x1 : Int32) (x2 : Int32) (M : Mem), r_32 x1 x2 M = some res → G X ad 32 3 [(0, .ref (ad 0)), (1, .int x1), (2, .int x2)] [] M) (x1 : Int32) (x2 : Int32) (M : Mem) (hf : f_X9_sets_32_b r_32 x1 x2 M = some res) : G X ad 32 3 [(0, .ref (ad 0)), (1, .int x1), (2, .int x2)] [] M := by
  unfold f_X9_sets_32_b at hf
  refine G.iload_n (pl := 2) C dX9_sets_32 rfl rfl ?_
  refine G.bipush (v := 48) C dX9_sets_33 (by decide) ?_
  refine G.icmp_ge (tgt := 74) C dX9_sets_35 (by decide) (fun hc1 => ?_) (fun hc1 => ?_)
  · replace hf := gIf hf hc1
    refine G.iload_n (pl := 1) C dX9_sets_74 rfl rfl ?_
    cases hf
    exact G.iret C Rt dX9_sets_75
  · replace hf := gIfn hf hc1
    refine G.aload_n (pl := 0) C dX9_sets_38 rfl rfl ?_
    refine gf9_0 C o_0 k2_44 dX9_sets_39 ?_
    refine gf8_0 C o_5 k1_174 dX9_sets_42 ?_
    refine G.iload_n (pl := 2) C dX9_sets_45 rfl rfl ?_
    obtain ⟨v1, hr1, hf⟩ := cp_some hf
    refine G.callV (st1 := [.int v1]) C [.int x2] [] (c_X1_isWordAt hr1) mv_X1_isWordAt k4_4 o_6.1 (fun _ => gShp_11 o_6) rfl rfl rfl rfl rfl (Nat.le_of_ble_eq_true rfl) (by decide) dX9_sets_46 rfl ?_
    refine G.if_eq (tgt := 68) C dX9_sets_49 (by decide) (fun hc2 => ?_) (fun hc2 => ?_)
    · replace hf := gIf hf hc2
      exact w_X9_sets_68 C Rt x1 x2 M h_32 hf
    · replace hf := gIfn hf hc2
      refine G.aload_n (pl := 0) C dX9_sets_52 rfl rfl ?_
      refine gf9_9 C o_0 k2_53 dX9_sets_53 ?_
      refine gf4_4 C o_96 k2_30 dX9_sets_56 ?_
      refine G.iload_n (pl := 2) C dX9_sets_59 rfl rfl ?_
      obtain ⟨v2, ev1, hi1, hf⟩ := rd_some hf
      refine G.iald C a_99 hi1 ev1 dX9_sets_60 ?_
      refine G.iload_n (pl := 2) C dX9_sets_61 rfl rfl ?_
      refine G.icmp_ne (tgt := 68) C dX9_sets_62 (by decide) (fun hc3 => ?_) (fun hc3 => ?_)
      · replace hf := gIfn hf hc3
        exact w_X9_sets_68 C Rt x1 x2 M h_32 hf
      · replace hf := gIf hf hc3
        refine G.iinc (pl := 1) (v := (x1 + 1)) (lv' := [(1, .int (x1 + 1)), (0, .ref (ad 0)), (2, .int x2)]) C dX9_sets_65 rfl rfl (by decide) rfl ?_
        refine G.sub (lv' := [(0, .ref (ad 0)), (1, .int (x1 + 1)), (2, .int x2)]) [1, 0, 2] rfl ?_
        exact w_X9_sets_68 C Rt (x1 + 1) x2 M h_32 hf
theorem w_X9_sets_32 {X : Gc} {ad : Nat → Nat} {res : (Int32 × Mem)} (C : Gk X ad cX9_sets "NineTongues" 3 5) (Rt : Gr X ad (some .int) (some (.int res.1)) res.2) : ∀ (n : Nat) (x1 : Int32) (x2 : Int32) (M : Mem), f_X9_sets_32 n x1 x2 M = some res → G X ad 32 3 [(0, .ref (ad 0)), (1, .int x1), (2, .int x2)] [] M := by
  intro n
  induction n with
  | zero => intro x1 x2 M hf; exact absurd (show (none : Option (Int32 × Mem)) = some res from hf) (fun h => nomatch h)
  | succ n ih => intro x1 x2 M hf; exact w_X9_sets_32_b C Rt ih x1 x2 M hf
set_option maxRecDepth 100000 in
set_option maxHeartbeats 4000000 in
theorem w_X9_sets_E {X : Gc} {ad : Nat → Nat} {res : (Int32 × Mem)} (C : Gk X ad cX9_sets "NineTongues" 3 5) (Rt : Gr X ad (some .int) (some (.int res.1)) res.2) (M : Mem) (hf : f_X9_sets M = some res) : G X ad 0 3 [(0, .ref (ad 0))] [] M := by
  unfold f_X9_sets at hf
  refine G.aload_n (pl := 0) C dX9_sets_0 rfl rfl ?_
  refine gf9_9 C o_0 k2_53 dX9_sets_1 ?_
  refine G.aload_n (pl := 0) C dX9_sets_4 rfl rfl ?_
  refine gf9_0 C o_0 k2_44 dX9_sets_5 ?_
  refine gf8_4 C o_5 k1_183 dX9_sets_8 ?_
  obtain ⟨u, M1, hr1, hf⟩ := cl_some hf
  refine G.callV (st1 := []) C [.ref (ad 23)] [] (c_X4_find hr1) mv_X4_find k3_202 o_96.1 (fun _ => gShp_14 o_96) rfl rfl rfl rfl rfl (Nat.le_of_ble_eq_true rfl) (by decide) dX9_sets_11 rfl ?_
  refine G.aload_n (pl := 0) C dX9_sets_14 rfl rfl ?_
  refine gf9_9 C o_0 k2_53 dX9_sets_15 ?_
  refine G.aload_n (pl := 0) C dX9_sets_18 rfl rfl ?_
  refine gf9_0 C o_0 k2_44 dX9_sets_19 ?_
  refine gf8_4 C o_5 k1_183 dX9_sets_22 ?_
  obtain ⟨u, M2, hr2, hf⟩ := cl_some hf
  refine G.callV (st1 := []) C [.ref (ad 23)] [] (c_X4_joinSets hr2) mv_X4_joinSets k3_236 o_96.1 (fun _ => gShp_14 o_96) rfl rfl rfl rfl rfl (Nat.le_of_ble_eq_true rfl) (by decide) dX9_sets_25 rfl ?_
  refine G.iconst (v := 0) C dX9_sets_28 (by decide) ?_
  refine G.istore_n (lv' := [(1, .int (0 : Int32)), (0, .ref (ad 0))]) C dX9_sets_29 rfl (by decide) rfl ?_
  refine G.iconst (v := 0) C dX9_sets_30 (by decide) ?_
  refine G.istore_n (lv' := [(2, .int (0 : Int32)), (1, .int (0 : Int32)), (0, .ref (ad 0))]) C dX9_sets_31 rfl (by decide) rfl ?_
  refine G.sub (lv' := [(0, .ref (ad 0)), (1, .int (0 : Int32)), (2, .int (0 : Int32))]) [2, 1, 0] rfl ?_
  exact w_X9_sets_32 C Rt FU (0 : Int32) (0 : Int32) M2 hf
theorem mv_X9_sets : gMV yX9_sets cX9_sets 3 (some .int) 0 := ⟨k3_233, k3_234, k1_1, k3_235, ⟨by decide +kernel, by decide +kernel, by decide +kernel⟩, by decide⟩
theorem c_X9_sets {res : (Int32 × Mem)} {M : Mem} (hf : f_X9_sets M = some res) : Ct yX9_sets cX9_sets 3 (some .int) 5 (fun ad => [.ref (ad 0)]) M (some (.int res.1)) res.2 :=
  Ct.of (by decide +kernel) (fun _ => Nat.le_of_ble_eq_true rfl) (fun X ad C Rt => w_X9_sets_E C Rt M hf)
set_option maxRecDepth 100000 in
set_option maxHeartbeats 4000000 in
theorem w_X9_alike_31 {X : Gc} {ad : Nat → Nat} {res : (Int32 × Mem)} (C : Gk X ad cX9_alike "NineTongues" 5 4) (Rt : Gr X ad (some .int) (some (.int res.1)) res.2) (M : Mem) (hf : f_X9_alike_31 M = some res) : G X ad 31 5 [(0, .ref (ad 0))] [] M := by
  unfold f_X9_alike_31 at hf
  refine G.aload_n (pl := 0) C dX9_alike_31 rfl rfl ?_
  refine G.bipush (v := (-2)) C dX9_alike_32 (by decide) ?_
  obtain ⟨v1, M1, hr1, hf⟩ := cl_some hf
  refine G.callV (st1 := [.int v1]) C [.int (-2 : Int32)] [] (c_X9_refuse hr1) mv_X9_refuse k2_88 o_0.1 (fun _ => gShp_19 o_0) rfl rfl rfl rfl rfl (Nat.le_of_ble_eq_true rfl) (by decide) dX9_alike_34 rfl ?_
  cases hf
  exact G.iret C Rt dX9_alike_37
set_option maxRecDepth 100000 in
set_option maxHeartbeats 4000000 in
theorem w_X9_alike_E {X : Gc} {ad : Nat → Nat} {res : (Int32 × Mem)} (C : Gk X ad cX9_alike "NineTongues" 5 4) (Rt : Gr X ad (some .int) (some (.int res.1)) res.2) (x1 : Int32) (x2 : Int32) (x3 : Int32) (x4 : Int32) (M : Mem) (hf : f_X9_alike x1 x2 x3 x4 M = some res) : G X ad 0 5 [(0, .ref (ad 0)), (1, .int x1), (2, .int x2), (3, .int x3), (4, .int x4)] [] M := by
  unfold f_X9_alike at hf
  refine G.aload_n (pl := 0) C dX9_alike_0 rfl rfl ?_
  refine gf9_0 C o_0 k2_44 dX9_alike_1 ?_
  refine gf8_0 C o_5 k1_174 dX9_alike_4 ?_
  refine G.iload_n (pl := 1) C dX9_alike_7 rfl rfl ?_
  refine G.iload_n (pl := 2) C dX9_alike_8 rfl rfl ?_
  obtain ⟨v1, hr1, hf⟩ := cp_some hf
  refine G.callV (st1 := [.int v1]) C [.int x1, .int x2] [] (c_X1_hasWord hr1) mv_X1_hasWord k2_145 o_6.1 (fun _ => gShp_11 o_6) rfl rfl rfl rfl rfl (Nat.le_of_ble_eq_true rfl) (by decide) dX9_alike_9 rfl ?_
  refine G.if_eq (tgt := 31) C dX9_alike_12 (by decide) (fun hc1 => ?_) (fun hc1 => ?_)
  · replace hf := gIf hf hc1
    refine G.sub (lv' := [(0, .ref (ad 0))]) [0] rfl ?_
    exact w_X9_alike_31 C Rt M hf
  · replace hf := gIfn hf hc1
    refine G.aload_n (pl := 0) C dX9_alike_15 rfl rfl ?_
    refine gf9_0 C o_0 k2_44 dX9_alike_16 ?_
    refine gf8_0 C o_5 k1_174 dX9_alike_19 ?_
    refine G.iload_n (pl := 3) C dX9_alike_22 rfl rfl ?_
    refine G.iload (pl := 4) C dX9_alike_23 rfl ?_
    obtain ⟨v2, hr2, hf⟩ := cp_some hf
    refine G.callV (st1 := [.int v2]) C [.int x3, .int x4] [] (c_X1_hasWord hr2) mv_X1_hasWord k2_145 o_6.1 (fun _ => gShp_11 o_6) rfl rfl rfl rfl rfl (Nat.le_of_ble_eq_true rfl) (by decide) dX9_alike_25 rfl ?_
    refine G.if_ne (tgt := 38) C dX9_alike_28 (by decide) (fun hc2 => ?_) (fun hc2 => ?_)
    · replace hf := gIfn hf hc2
      refine G.aload_n (pl := 0) C dX9_alike_38 rfl rfl ?_
      refine gf9_9 C o_0 k2_53 dX9_alike_39 ?_
      refine G.aload_n (pl := 0) C dX9_alike_42 rfl rfl ?_
      refine gf9_0 C o_0 k2_44 dX9_alike_43 ?_
      refine gf8_4 C o_5 k1_183 dX9_alike_46 ?_
      obtain ⟨u, M1, hr3, hf⟩ := cl_some hf
      refine G.callV (st1 := []) C [.ref (ad 23)] [] (c_X4_find hr3) mv_X4_find k3_202 o_96.1 (fun _ => gShp_14 o_96) rfl rfl rfl rfl rfl (Nat.le_of_ble_eq_true rfl) (by decide) dX9_alike_49 rfl ?_
      refine G.aload_n (pl := 0) C dX9_alike_52 rfl rfl ?_
      refine gf9_9 C o_0 k2_53 dX9_alike_53 ?_
      refine G.aload_n (pl := 0) C dX9_alike_56 rfl rfl ?_
      refine gf9_0 C o_0 k2_44 dX9_alike_57 ?_
      refine gf8_4 C o_5 k1_183 dX9_alike_60 ?_
      obtain ⟨u, M2, hr4, hf⟩ := cl_some hf
      refine G.callV (st1 := []) C [.ref (ad 23)] [] (c_X4_joinSets hr4) mv_X4_joinSets k3_236 o_96.1 (fun _ => gShp_14 o_96) rfl rfl rfl rfl rfl (Nat.le_of_ble_eq_true rfl) (by decide) dX9_alike_63 rfl ?_
      refine G.aload_n (pl := 0) C dX9_alike_66 rfl rfl ?_
      refine gf9_9 C o_0 k2_53 dX9_alike_67 ?_
      refine gf4_4 C o_96 k2_30 dX9_alike_70 ?_
      refine G.iload_n (pl := 1) C dX9_alike_73 rfl rfl ?_
      refine G.bipush (v := 8) C dX9_alike_74 (by decide) ?_
      refine G.imul C dX9_alike_76 ?_
      refine G.iload_n (pl := 2) C dX9_alike_77 rfl rfl ?_
      refine G.iadd C dX9_alike_78 ?_
      obtain ⟨v3, ev1, hi1, hf⟩ := rd_some hf
      refine G.iald C a_99 hi1 ev1 dX9_alike_79 ?_
      refine G.aload_n (pl := 0) C dX9_alike_80 rfl rfl ?_
      refine gf9_9 C o_0 k2_53 dX9_alike_81 ?_
      refine gf4_4 C o_96 k2_30 dX9_alike_84 ?_
      refine G.iload_n (pl := 3) C dX9_alike_87 rfl rfl ?_
      refine G.bipush (v := 8) C dX9_alike_88 (by decide) ?_
      refine G.imul C dX9_alike_90 ?_
      refine G.iload (pl := 4) C dX9_alike_91 rfl ?_
      refine G.iadd C dX9_alike_93 ?_
      obtain ⟨v4, ev2, hi2, hf⟩ := rd_some hf
      refine G.iald C a_99 hi2 ev2 dX9_alike_94 ?_
      refine G.icmp_ne (tgt := 102) C dX9_alike_95 (by decide) (fun hc3 => ?_) (fun hc3 => ?_)
      · replace hf := gIfn hf hc3
        refine G.iconst (v := 0) C dX9_alike_102 (by decide) ?_
        cases hf
        exact G.iret C Rt dX9_alike_103
      · replace hf := gIf hf hc3
        refine G.iconst (v := 1) C dX9_alike_98 (by decide) ?_
        refine G.goto (tgt := 103) C dX9_alike_99 (by decide) ?_
        cases hf
        exact G.iret C Rt dX9_alike_103
    · replace hf := gIf hf hc2
      refine G.sub (lv' := [(0, .ref (ad 0))]) [0] rfl ?_
      exact w_X9_alike_31 C Rt M hf
theorem mv_X9_alike : gMV yX9_alike cX9_alike 5 (some .int) 4 := ⟨k4_6, k4_7, k1_1, k4_8, ⟨by decide +kernel, by decide +kernel, by decide +kernel⟩, by decide⟩
theorem c_X9_alike {res : (Int32 × Mem)} {x1 : Int32} {x2 : Int32} {x3 : Int32} {x4 : Int32} {M : Mem} (hf : f_X9_alike x1 x2 x3 x4 M = some res) : Ct yX9_alike cX9_alike 5 (some .int) 4 (fun ad => [.ref (ad 0), .int x1, .int x2, .int x3, .int x4]) M (some (.int res.1)) res.2 :=
  Ct.of (by decide +kernel) (fun _ => Nat.le_of_ble_eq_true rfl) (fun X ad C Rt => w_X9_alike_E C Rt x1 x2 x3 x4 M hf)
set_option maxRecDepth 100000 in
set_option maxHeartbeats 4000000 in
theorem w_X9_part_E {X : Gc} {ad : Nat → Nat} {res : (Int32 × Mem)} (C : Gk X ad cX9_part "NineTongues" 2 3) (Rt : Gr X ad (some .int) (some (.int res.1)) res.2) (x1 : Int32) (M : Mem) (hf : f_X9_part x1 M = some res) : G X ad 0 2 [(0, .ref (ad 0)), (1, .int x1)] [] M := by
  unfold f_X9_part at hf
  refine G.iload_n (pl := 1) C dX9_part_0 rfl rfl ?_
  refine G.iconst (v := 0) C dX9_part_1 (by decide) ?_
  refine G.iconst (v := 1) C dX9_part_2 (by decide) ?_
  obtain ⟨v1, hr1, hf⟩ := cp_some hf
  refine G.callS (st1 := [.int v1]) C [.int x1, .int (0 : Int32), .int (1 : Int32)] [] (c_X9_isIn hr1) mv_X9_isIn k2_85 rfl rfl rfl (Nat.le_of_ble_eq_true rfl) (by decide) dX9_part_3 rfl ?_
  refine G.if_ne (tgt := 16) C dX9_part_6 (by decide) (fun hc1 => ?_) (fun hc1 => ?_)
  · replace hf := gIfn hf hc1
    refine G.iload_n (pl := 1) C dX9_part_16 rfl rfl ?_
    refine G.if_ne (tgt := 27) C dX9_part_17 (by decide) (fun hc2 => ?_) (fun hc2 => ?_)
    · replace hf := gIfn hf hc2
      refine G.aload_n (pl := 0) C dX9_part_27 rfl rfl ?_
      refine gf9_5 C o_0 k2_49 dX9_part_28 ?_
      cases hf
      exact G.iret C Rt dX9_part_31
    · replace hf := gIf hf hc2
      refine G.aload_n (pl := 0) C dX9_part_20 rfl rfl ?_
      refine gf9_4 C o_0 k2_48 dX9_part_21 ?_
      refine G.goto (tgt := 31) C dX9_part_24 (by decide) ?_
      cases hf
      exact G.iret C Rt dX9_part_31
  · replace hf := gIf hf hc1
    refine G.aload_n (pl := 0) C dX9_part_9 rfl rfl ?_
    refine G.bipush (v := (-2)) C dX9_part_10 (by decide) ?_
    obtain ⟨v2, M1, hr2, hf⟩ := cl_some hf
    refine G.callV (st1 := [.int v2]) C [.int (-2 : Int32)] [] (c_X9_refuse hr2) mv_X9_refuse k2_88 o_0.1 (fun _ => gShp_19 o_0) rfl rfl rfl rfl rfl (Nat.le_of_ble_eq_true rfl) (by decide) dX9_part_12 rfl ?_
    cases hf
    exact G.iret C Rt dX9_part_15
theorem mv_X9_part : gMV yX9_part cX9_part 2 (some .int) 1 := ⟨k4_10, k4_11, k1_1, k4_12, ⟨by decide +kernel, by decide +kernel, by decide +kernel⟩, by decide⟩
theorem c_X9_part {res : (Int32 × Mem)} {x1 : Int32} {M : Mem} (hf : f_X9_part x1 M = some res) : Ct yX9_part cX9_part 2 (some .int) 3 (fun ad => [.ref (ad 0), .int x1]) M (some (.int res.1)) res.2 :=
  Ct.of (by decide +kernel) (fun _ => Nat.le_of_ble_eq_true rfl) (fun X ad C Rt => w_X9_part_E C Rt x1 M hf)
set_option maxRecDepth 100000 in
set_option maxHeartbeats 4000000 in
theorem w_X9_image_E {X : Gc} {ad : Nat → Nat} {res : (Int32 × Mem)} (C : Gk X ad cX9_image "NineTongues" 2 3) (Rt : Gr X ad (some .int) (some (.int res.1)) res.2) (x1 : Int32) (M : Mem) (hf : f_X9_image x1 M = some res) : G X ad 0 2 [(0, .ref (ad 0)), (1, .int x1)] [] M := by
  unfold f_X9_image at hf
  refine G.iload_n (pl := 1) C dX9_image_0 rfl rfl ?_
  refine G.iconst (v := 0) C dX9_image_1 (by decide) ?_
  refine G.iconst (v := 1) C dX9_image_2 (by decide) ?_
  obtain ⟨v1, hr1, hf⟩ := cp_some hf
  refine G.callS (st1 := [.int v1]) C [.int x1, .int (0 : Int32), .int (1 : Int32)] [] (c_X9_isIn hr1) mv_X9_isIn k2_85 rfl rfl rfl (Nat.le_of_ble_eq_true rfl) (by decide) dX9_image_3 rfl ?_
  refine G.if_ne (tgt := 16) C dX9_image_6 (by decide) (fun hc1 => ?_) (fun hc1 => ?_)
  · replace hf := gIfn hf hc1
    refine G.aload_n (pl := 0) C dX9_image_16 rfl rfl ?_
    refine gf9_1 C o_0 k2_45 dX9_image_17 ?_
    refine G.iload_n (pl := 1) C dX9_image_20 rfl rfl ?_
    obtain ⟨hi1, hf⟩ := ck_some hf
    refine G.aldK C hi1 dX9_image_21 ?_
    refine G.aload_n (pl := 0) C dX9_image_22 rfl rfl ?_
    refine gf9_0 C o_0 k2_44 dX9_image_23 ?_
    obtain ⟨u, M1, hr2, hf⟩ := cl_some hf
    refine G.callV (st1 := []) C [.ref (ad 5)] [] (c_X8_copyFrom (gxK hi1) o_5 hr2) mv_X8_copyFrom k4_17 (gxK hi1).1 (fun _ => gShp_18 (gxK hi1)) rfl rfl rfl rfl rfl (Nat.le_of_ble_eq_true rfl) (by decide) dX9_image_26 rfl ?_
    refine G.aload_n (pl := 0) C dX9_image_29 rfl rfl ?_
    refine gf9_2 C o_0 k2_46 dX9_image_30 ?_
    refine G.iload_n (pl := 1) C dX9_image_33 rfl rfl ?_
    refine G.iconst (v := 1) C dX9_image_34 (by decide) ?_
    obtain ⟨hi2, hf⟩ := ck_some hf
    obtain ⟨M2, eM1, hf⟩ := stm_some hf
    refine G.zast C az_2 hi2 eM1 dX9_image_35 ?_
    refine G.iconst (v := 1) C dX9_image_36 (by decide) ?_
    cases hf
    exact G.iret C Rt dX9_image_37
  · replace hf := gIf hf hc1
    refine G.aload_n (pl := 0) C dX9_image_9 rfl rfl ?_
    refine G.bipush (v := (-2)) C dX9_image_10 (by decide) ?_
    obtain ⟨v2, M3, hr3, hf⟩ := cl_some hf
    refine G.callV (st1 := [.int v2]) C [.int (-2 : Int32)] [] (c_X9_refuse hr3) mv_X9_refuse k2_88 o_0.1 (fun _ => gShp_19 o_0) rfl rfl rfl rfl rfl (Nat.le_of_ble_eq_true rfl) (by decide) dX9_image_12 rfl ?_
    cases hf
    exact G.iret C Rt dX9_image_15
theorem mv_X9_image : gMV yX9_image cX9_image 2 (some .int) 1 := ⟨k4_14, k4_15, k1_1, k4_16, ⟨by decide +kernel, by decide +kernel, by decide +kernel⟩, by decide⟩
theorem c_X9_image {res : (Int32 × Mem)} {x1 : Int32} {M : Mem} (hf : f_X9_image x1 M = some res) : Ct yX9_image cX9_image 2 (some .int) 3 (fun ad => [.ref (ad 0), .int x1]) M (some (.int res.1)) res.2 :=
  Ct.of (by decide +kernel) (fun _ => Nat.le_of_ble_eq_true rfl) (fun X ad C Rt => w_X9_image_E C Rt x1 M hf)
set_option maxRecDepth 100000 in
set_option maxHeartbeats 4000000 in
theorem w_X9_from_E {X : Gc} {ad : Nat → Nat} {res : (Int32 × Mem)} (C : Gk X ad cX9_from "NineTongues" 2 3) (Rt : Gr X ad (some .int) (some (.int res.1)) res.2) (x1 : Int32) (M : Mem) (hf : f_X9_from x1 M = some res) : G X ad 0 2 [(0, .ref (ad 0)), (1, .int x1)] [] M := by
  unfold f_X9_from at hf
  refine G.iload_n (pl := 1) C dX9_from_0 rfl rfl ?_
  refine G.iconst (v := 0) C dX9_from_1 (by decide) ?_
  refine G.iconst (v := 1) C dX9_from_2 (by decide) ?_
  obtain ⟨v1, hr1, hf⟩ := cp_some hf
  refine G.callS (st1 := [.int v1]) C [.int x1, .int (0 : Int32), .int (1 : Int32)] [] (c_X9_isIn hr1) mv_X9_isIn k2_85 rfl rfl rfl (Nat.le_of_ble_eq_true rfl) (by decide) dX9_from_3 rfl ?_
  refine G.if_ne (tgt := 16) C dX9_from_6 (by decide) (fun hc1 => ?_) (fun hc1 => ?_)
  · replace hf := gIfn hf hc1
    refine G.aload_n (pl := 0) C dX9_from_16 rfl rfl ?_
    refine gf9_2 C o_0 k2_46 dX9_from_17 ?_
    refine G.iload_n (pl := 1) C dX9_from_20 rfl rfl ?_
    obtain ⟨v2, ev1, hi1, hf⟩ := rd_some hf
    refine G.zald C az_2 hi1 ev1 dX9_from_21 ?_
    refine G.if_ne (tgt := 32) C dX9_from_22 (by decide) (fun hc2 => ?_) (fun hc2 => ?_)
    · replace hf := gIfn hf hc2
      refine G.aload_n (pl := 0) C dX9_from_32 rfl rfl ?_
      refine gf9_0 C o_0 k2_44 dX9_from_33 ?_
      refine G.aload_n (pl := 0) C dX9_from_36 rfl rfl ?_
      refine gf9_1 C o_0 k2_45 dX9_from_37 ?_
      refine G.iload_n (pl := 1) C dX9_from_40 rfl rfl ?_
      obtain ⟨hi2, hf⟩ := ck_some hf
      refine G.aldK C hi2 dX9_from_41 ?_
      obtain ⟨u, M1, hr2, hf⟩ := cl_some hf
      refine G.callV (st1 := []) C [.ref (ad (26 + 21 * x1.toNatClampNeg))] [] (c_X8_copyFrom o_5 (gxK hi2) hr2) mv_X8_copyFrom k4_17 o_5.1 (fun _ => gShp_18 o_5) rfl rfl rfl rfl rfl (Nat.le_of_ble_eq_true rfl) (by decide) dX9_from_42 rfl ?_
      refine G.iconst (v := 1) C dX9_from_45 (by decide) ?_
      cases hf
      exact G.iret C Rt dX9_from_46
    · replace hf := gIf hf hc2
      refine G.aload_n (pl := 0) C dX9_from_25 rfl rfl ?_
      refine G.bipush (v := (-3)) C dX9_from_26 (by decide) ?_
      obtain ⟨v3, M2, hr3, hf⟩ := cl_some hf
      refine G.callV (st1 := [.int v3]) C [.int (-3 : Int32)] [] (c_X9_refuse hr3) mv_X9_refuse k2_88 o_0.1 (fun _ => gShp_19 o_0) rfl rfl rfl rfl rfl (Nat.le_of_ble_eq_true rfl) (by decide) dX9_from_28 rfl ?_
      cases hf
      exact G.iret C Rt dX9_from_31
  · replace hf := gIf hf hc1
    refine G.aload_n (pl := 0) C dX9_from_9 rfl rfl ?_
    refine G.bipush (v := (-2)) C dX9_from_10 (by decide) ?_
    obtain ⟨v4, M3, hr4, hf⟩ := cl_some hf
    refine G.callV (st1 := [.int v4]) C [.int (-2 : Int32)] [] (c_X9_refuse hr4) mv_X9_refuse k2_88 o_0.1 (fun _ => gShp_19 o_0) rfl rfl rfl rfl rfl (Nat.le_of_ble_eq_true rfl) (by decide) dX9_from_12 rfl ?_
    cases hf
    exact G.iret C Rt dX9_from_15
theorem mv_X9_from : gMV yX9_from cX9_from 2 (some .int) 1 := ⟨k4_43, k4_44, k1_1, k4_45, ⟨by decide +kernel, by decide +kernel, by decide +kernel⟩, by decide⟩
theorem c_X9_from {res : (Int32 × Mem)} {x1 : Int32} {M : Mem} (hf : f_X9_from x1 M = some res) : Ct yX9_from cX9_from 2 (some .int) 3 (fun ad => [.ref (ad 0), .int x1]) M (some (.int res.1)) res.2 :=
  Ct.of (by decide +kernel) (fun _ => Nat.le_of_ble_eq_true rfl) (fun X ad C Rt => w_X9_from_E C Rt x1 M hf)
set_option maxRecDepth 100000 in
set_option maxHeartbeats 4000000 in
theorem w_X9_status_E {X : Gc} {ad : Nat → Nat} {res : (Int32 × Mem)} (C : Gk X ad cX9_status "NineTongues" 2 2) (Rt : Gr X ad (some .int) (some (.int res.1)) res.2) (x1 : Int32) (M : Mem) (hf : f_X9_status x1 M = some res) : G X ad 0 2 [(0, .ref (ad 0)), (1, .int x1)] [] M := by
  unfold f_X9_status at hf
  refine G.iload_n (pl := 1) C dX9_status_0 rfl rfl ?_
  refine G.iconst (v := 0) C dX9_status_1 (by decide) ?_
  refine G.aload_n (pl := 0) C dX9_status_2 rfl rfl ?_
  refine gf9_3 C o_0 k2_47 dX9_status_3 ?_
  refine G.alen (v := (3 : Int32)) C a_3 rfl dX9_status_6 ?_
  refine G.iconst (v := 1) C dX9_status_7 (by decide) ?_
  refine G.isub C dX9_status_8 ?_
  obtain ⟨v1, hr1, hf⟩ := cp_some hf
  refine G.callS (st1 := [.int v1]) C [.int x1, .int (0 : Int32), .int ((3 : Int32) - (1 : Int32))] [] (c_X9_isIn hr1) mv_X9_isIn k2_85 rfl rfl rfl (Nat.le_of_ble_eq_true rfl) (by decide) dX9_status_9 rfl ?_
  refine G.if_ne (tgt := 23) C dX9_status_12 (by decide) (fun hc1 => ?_) (fun hc1 => ?_)
  · replace hf := gIfn hf hc1
    refine G.aload_n (pl := 0) C dX9_status_23 rfl rfl ?_
    refine gf9_3 C o_0 k2_47 dX9_status_24 ?_
    refine G.iload_n (pl := 1) C dX9_status_27 rfl rfl ?_
    obtain ⟨v2, ev1, hi1, hf⟩ := rd_some hf
    refine G.iald C a_3 hi1 ev1 dX9_status_28 ?_
    cases hf
    exact G.iret C Rt dX9_status_29
  · replace hf := gIf hf hc1
    refine G.aload_n (pl := 0) C dX9_status_15 rfl rfl ?_
    refine G.bipush (v := (-2)) C dX9_status_16 (by decide) ?_
    refine G.iconst (v := (-1)) C dX9_status_18 (by decide) ?_
    obtain ⟨v3, M1, hr2, hf⟩ := cl_some hf
    refine G.callV (st1 := [.int v3]) C [.int (-2 : Int32), .int (-1 : Int32)] [] (c_X9_refuse_ hr2) mv_X9_refuse_ k2_92 o_0.1 (fun _ => gShp_19 o_0) rfl rfl rfl rfl rfl (Nat.le_of_ble_eq_true rfl) (by decide) dX9_status_19 rfl ?_
    cases hf
    exact G.iret C Rt dX9_status_22
theorem mv_X9_status : gMV yX9_status cX9_status 2 (some .int) 1 := ⟨k4_47, k4_48, k1_1, k4_49, ⟨by decide +kernel, by decide +kernel, by decide +kernel⟩, by decide⟩
theorem c_X9_status {res : (Int32 × Mem)} {x1 : Int32} {M : Mem} (hf : f_X9_status x1 M = some res) : Ct yX9_status cX9_status 2 (some .int) 2 (fun ad => [.ref (ad 0), .int x1]) M (some (.int res.1)) res.2 :=
  Ct.of (by decide +kernel) (fun _ => Nat.le_of_ble_eq_true rfl) (fun X ad C Rt => w_X9_status_E C Rt x1 M hf)
set_option maxRecDepth 100000 in
set_option maxHeartbeats 4000000 in
theorem w_X9_count_E {X : Gc} {ad : Nat → Nat} {res : (Int32 × Mem)} (C : Gk X ad cX9_count "NineTongues" 2 5) (Rt : Gr X ad (some .int) (some (.int res.1)) res.2) (x1 : Int32) (M : Mem) (hf : f_X9_count x1 M = some res) : G X ad 0 2 [(0, .ref (ad 0)), (1, .int x1)] [] M := by
  unfold f_X9_count at hf
  refine G.iload_n (pl := 1) C dX9_count_0 rfl rfl ?_
  refine G.iconst (v := 0) C dX9_count_1 (by decide) ?_
  refine G.bipush (v := 9) C dX9_count_2 (by decide) ?_
  obtain ⟨v1, hr1, hf⟩ := cp_some hf
  refine G.callS (st1 := [.int v1]) C [.int x1, .int (0 : Int32), .int (9 : Int32)] [] (c_X9_isIn hr1) mv_X9_isIn k2_85 rfl rfl rfl (Nat.le_of_ble_eq_true rfl) (by decide) dX9_count_4 rfl ?_
  refine G.if_eq (tgt := 21) C dX9_count_7 (by decide) (fun hc1 => ?_) (fun hc1 => ?_)
  · replace hf := gIf hf hc1
    refine G.aload_n (pl := 0) C dX9_count_21 rfl rfl ?_
    refine G.bipush (v := (-2)) C dX9_count_22 (by decide) ?_
    obtain ⟨v2, M1, hr2, hf⟩ := cl_some hf
    refine G.callV (st1 := [.int v2]) C [.int (-2 : Int32)] [] (c_X9_refuse hr2) mv_X9_refuse k2_88 o_0.1 (fun _ => gShp_19 o_0) rfl rfl rfl rfl rfl (Nat.le_of_ble_eq_true rfl) (by decide) dX9_count_24 rfl ?_
    cases hf
    exact G.iret C Rt dX9_count_27
  · replace hf := gIfn hf hc1
    refine G.aload_n (pl := 0) C dX9_count_10 rfl rfl ?_
    refine gf9_0 C o_0 k2_44 dX9_count_11 ?_
    refine G.iload_n (pl := 1) C dX9_count_14 rfl rfl ?_
    obtain ⟨v3, hr3, hf⟩ := cp_some hf
    refine G.callV (st1 := [.int v3]) C [.int x1] [] (c_X8_howMany hr3) mv_X8_howMany k4_54 o_5.1 (fun _ => gShp_18 o_5) rfl rfl rfl rfl rfl (Nat.le_of_ble_eq_true rfl) (by decide) dX9_count_15 rfl ?_
    refine G.goto (tgt := 27) C dX9_count_18 (by decide) ?_
    cases hf
    exact G.iret C Rt dX9_count_27
theorem mv_X9_count : gMV yX9_count cX9_count 2 (some .int) 1 := ⟨k4_51, k4_52, k1_1, k4_53, ⟨by decide +kernel, by decide +kernel, by decide +kernel⟩, by decide⟩
theorem c_X9_count {res : (Int32 × Mem)} {x1 : Int32} {M : Mem} (hf : f_X9_count x1 M = some res) : Ct yX9_count cX9_count 2 (some .int) 5 (fun ad => [.ref (ad 0), .int x1]) M (some (.int res.1)) res.2 :=
  Ct.of (by decide +kernel) (fun _ => Nat.le_of_ble_eq_true rfl) (fun X ad C Rt => w_X9_count_E C Rt x1 M hf)
set_option maxRecDepth 100000 in
set_option maxHeartbeats 4000000 in
theorem w_X9_digest_E {X : Gc} {ad : Nat → Nat} {res : Int64} {M : Mem} (C : Gk X ad cX9_digest "NineTongues" 1 6) (Rt : Gr X ad (some .long) (some (.long res)) M) (hf : f_X9_digest M = some res) : G X ad 0 1 [(0, .ref (ad 0))] [] M := by
  unfold f_X9_digest at hf
  refine G.aload_n (pl := 0) C dX9_digest_0 rfl rfl ?_
  refine gf9_0 C o_0 k2_44 dX9_digest_1 ?_
  refine G.ldc2 C k4_67 dX9_digest_4 ?_
  obtain ⟨v1, hr1, hf⟩ := cp_some hf
  refine G.callV (st1 := [.long v1]) C [.long (599 : Int64)] [] (c_X8_mixAll hr1) mv_X8_mixAll k4_68 o_5.1 (fun _ => gShp_18 o_5) rfl rfl rfl rfl rfl (Nat.le_of_ble_eq_true rfl) (by decide) dX9_digest_7 rfl ?_
  refine G.aload_n (pl := 0) C dX9_digest_10 rfl rfl ?_
  refine gf9_4 C o_0 k2_48 dX9_digest_11 ?_
  refine G.i2l C dX9_digest_14 ?_
  obtain ⟨v2, hr2, hf⟩ := cp_some hf
  refine G.callS (st1 := [.long v2]) C [.long v1, .long (M.1 0 4).toInt64] [] (c_X9_mix hr2) mv_X9_mix k4_85 rfl rfl rfl (Nat.le_of_ble_eq_true rfl) (by decide) dX9_digest_15 rfl ?_
  refine G.aload_n (pl := 0) C dX9_digest_18 rfl rfl ?_
  refine gf9_5 C o_0 k2_49 dX9_digest_19 ?_
  refine G.i2l C dX9_digest_22 ?_
  obtain ⟨v3, hr3, hf⟩ := cp_some hf
  refine G.callS (st1 := [.long v3]) C [.long v2, .long (M.1 0 5).toInt64] [] (c_X9_mix hr3) mv_X9_mix k4_85 rfl rfl rfl (Nat.le_of_ble_eq_true rfl) (by decide) dX9_digest_23 rfl ?_
  cases hf
  exact G.lret C Rt dX9_digest_26
theorem mv_X9_digest : gMV yX9_digest cX9_digest 1 (some .long) 0 := ⟨k4_64, k4_65, k1_1, k4_66, ⟨by decide +kernel, by decide +kernel, by decide +kernel⟩, by decide⟩
theorem c_X9_digest {res : Int64} {M : Mem} (hf : f_X9_digest M = some res) : Ct yX9_digest cX9_digest 1 (some .long) 6 (fun ad => [.ref (ad 0)]) M (some (.long res)) M :=
  Ct.of (by decide +kernel) (fun _ => Nat.le_of_ble_eq_true rfl) (fun X ad C Rt => w_X9_digest_E C Rt hf)
set_option maxRecDepth 100000 in
set_option maxHeartbeats 4000000 in
theorem w_X10_between_E {X : Gc} {ad : Nat → Nat} {res : Int32} {M : Mem} (C : Gk X ad cX10_between "NineTonguesModel" 3 1) (Rt : Gr X ad (some .boolean) (some (.int res)) M) (x0 : Int32) (x1 : Int32) (x2 : Int32) (hf : f_X10_between x0 x1 x2 M = some res) : G X ad 0 3 [(0, .int x0), (1, .int x1), (2, .int x2)] [] M := by
  unfold f_X10_between at hf
  refine G.iload_n (pl := 0) C dX10_between_0 rfl rfl ?_
  refine G.iload_n (pl := 1) C dX10_between_1 rfl rfl ?_
  refine G.icmp_lt (tgt := 14) C dX10_between_2 (by decide) (fun hc1 => ?_) (fun hc1 => ?_)
  · replace hf := gIf hf hc1
    refine G.iconst (v := 0) C dX10_between_14 (by decide) ?_
    cases hf
    exact G.zret C rfl Rt dX10_between_15
  · replace hf := gIfn hf hc1
    refine G.iload_n (pl := 0) C dX10_between_5 rfl rfl ?_
    refine G.iload_n (pl := 2) C dX10_between_6 rfl rfl ?_
    refine G.icmp_gt (tgt := 14) C dX10_between_7 (by decide) (fun hc2 => ?_) (fun hc2 => ?_)
    · replace hf := gIf hf hc2
      refine G.iconst (v := 0) C dX10_between_14 (by decide) ?_
      cases hf
      exact G.zret C rfl Rt dX10_between_15
    · replace hf := gIfn hf hc2
      refine G.iconst (v := 1) C dX10_between_10 (by decide) ?_
      refine G.goto (tgt := 15) C dX10_between_11 (by decide) ?_
      cases hf
      exact G.zret C rfl Rt dX10_between_15
theorem mv_X10_between : gMS yX10_between cX10_between 3 (some .boolean) 3 := ⟨k4_190, k1_12, k4_191, ⟨by decide +kernel, by decide +kernel, by decide +kernel⟩, by decide⟩
theorem c_X10_between {res : Int32} {x0 : Int32} {x1 : Int32} {x2 : Int32} {M : Mem} (hf : f_X10_between x0 x1 x2 M = some res) : Ct yX10_between cX10_between 3 (some .boolean) 1 (fun ad => [.int x0, .int x1, .int x2]) M (some (.int res)) M :=
  Ct.of (by decide +kernel) (fun _ => Nat.le_of_ble_eq_true rfl) (fun X ad C Rt => w_X10_between_E C Rt x0 x1 x2 hf)
set_option maxRecDepth 100000 in
set_option maxHeartbeats 4000000 in
theorem w_X10_bad_E {X : Gc} {ad : Nat → Nat} {res : (Int32 × Mem)} (C : Gk X ad cX10_bad "NineTonguesModel" 2 1) (Rt : Gr X ad (some .int) (some (.int res.1)) res.2) (x1 : Int32) (M : Mem) (hf : f_X10_bad x1 M = some res) : G X ad 0 2 [(0, .ref (ad 108)), (1, .int x1)] [] M := by
  unfold f_X10_bad at hf
  refine G.aload_n (pl := 0) C dX10_bad_0 rfl rfl ?_
  refine gf10_13 C o_108 k4_110 dX10_bad_1 ?_
  refine G.iconst (v := 0) C dX10_bad_4 (by decide) ?_
  refine G.dup2 C dX10_bad_5 rfl rfl ?_
  refine G.iald (v := (M.1 120 0)) C a_120 (vp_inC (by decide)) rfl dX10_bad_6 ?_
  refine G.iconst (v := 1) C dX10_bad_7 (by decide) ?_
  refine G.iadd C dX10_bad_8 ?_
  obtain ⟨M1, eM1, hf⟩ := stm_some hf
  refine G.iast C a_120 (vp_inC (by decide)) eM1 dX10_bad_9 ?_
  refine G.iload_n (pl := 1) C dX10_bad_10 rfl rfl ?_
  cases hf
  exact G.iret C Rt dX10_bad_11
theorem mv_X10_bad : gMV yX10_bad cX10_bad 2 (some .int) 1 := ⟨k4_194, kS_25, k1_12, k4_195, ⟨by decide +kernel, by decide +kernel, by decide +kernel⟩, by decide⟩
theorem c_X10_bad {res : (Int32 × Mem)} {x1 : Int32} {M : Mem} (hf : f_X10_bad x1 M = some res) : Ct yX10_bad cX10_bad 2 (some .int) 1 (fun ad => [.ref (ad 108), .int x1]) M (some (.int res.1)) res.2 :=
  Ct.of (by decide +kernel) (fun _ => Nat.le_of_ble_eq_true rfl) (fun X ad C Rt => w_X10_bad_E C Rt x1 M hf)
set_option maxRecDepth 100000 in
set_option maxHeartbeats 4000000 in
theorem w_X10_no_E {X : Gc} {ad : Nat → Nat} {res : (Int32 × Mem)} (C : Gk X ad cX10_no "NineTonguesModel" 2 1) (Rt : Gr X ad (some .int) (some (.int res.1)) res.2) (x1 : Int32) (M : Mem) (hf : f_X10_no x1 M = some res) : G X ad 0 2 [(0, .ref (ad 108)), (1, .int x1)] [] M := by
  unfold f_X10_no at hf
  refine G.aload_n (pl := 0) C dX10_no_0 rfl rfl ?_
  refine gf10_13 C o_108 k4_110 dX10_no_1 ?_
  refine G.iconst (v := 1) C dX10_no_4 (by decide) ?_
  refine G.dup2 C dX10_no_5 rfl rfl ?_
  refine G.iald (v := (M.1 120 1)) C a_120 (vp_inC (by decide)) rfl dX10_no_6 ?_
  refine G.iconst (v := 1) C dX10_no_7 (by decide) ?_
  refine G.iadd C dX10_no_8 ?_
  obtain ⟨M1, eM1, hf⟩ := stm_some hf
  refine G.iast C a_120 (vp_inC (by decide)) eM1 dX10_no_9 ?_
  refine G.iload_n (pl := 1) C dX10_no_10 rfl rfl ?_
  cases hf
  exact G.iret C Rt dX10_no_11
theorem mv_X10_no : gMV yX10_no cX10_no 2 (some .int) 1 := ⟨k5_42, kS_36, k1_12, k5_43, ⟨by decide +kernel, by decide +kernel, by decide +kernel⟩, by decide⟩
theorem c_X10_no {res : (Int32 × Mem)} {x1 : Int32} {M : Mem} (hf : f_X10_no x1 M = some res) : Ct yX10_no cX10_no 2 (some .int) 1 (fun ad => [.ref (ad 108), .int x1]) M (some (.int res.1)) res.2 :=
  Ct.of (by decide +kernel) (fun _ => Nat.le_of_ble_eq_true rfl) (fun X ad C Rt => w_X10_no_E C Rt x1 M hf)
set_option maxRecDepth 100000 in
set_option maxHeartbeats 4000000 in
theorem w_X10_full_E {X : Gc} {ad : Nat → Nat} {res : (Int32 × Mem)} (C : Gk X ad cX10_full "NineTonguesModel" 1 1) (Rt : Gr X ad (some .int) (some (.int res.1)) res.2) (M : Mem) (hf : f_X10_full M = some res) : G X ad 0 1 [(0, .ref (ad 108))] [] M := by
  unfold f_X10_full at hf
  refine G.aload_n (pl := 0) C dX10_full_0 rfl rfl ?_
  refine gf10_13 C o_108 k4_110 dX10_full_1 ?_
  refine G.iconst (v := 2) C dX10_full_4 (by decide) ?_
  refine G.dup2 C dX10_full_5 rfl rfl ?_
  refine G.iald (v := (M.1 120 2)) C a_120 (vp_inC (by decide)) rfl dX10_full_6 ?_
  refine G.iconst (v := 1) C dX10_full_7 (by decide) ?_
  refine G.iadd C dX10_full_8 ?_
  obtain ⟨M1, eM1, hf⟩ := stm_some hf
  refine G.iast C a_120 (vp_inC (by decide)) eM1 dX10_full_9 ?_
  refine G.bipush (v := (-4)) C dX10_full_10 (by decide) ?_
  cases hf
  exact G.iret C Rt dX10_full_12
theorem mv_X10_full : gMV yX10_full cX10_full 1 (some .int) 0 := ⟨k4_198, kS_26, k1_12, k4_199, ⟨by decide +kernel, by decide +kernel, by decide +kernel⟩, by decide⟩
theorem c_X10_full {res : (Int32 × Mem)} {M : Mem} (hf : f_X10_full M = some res) : Ct yX10_full cX10_full 1 (some .int) 1 (fun ad => [.ref (ad 108)]) M (some (.int res.1)) res.2 :=
  Ct.of (by decide +kernel) (fun _ => Nat.le_of_ble_eq_true rfl) (fun X ad C Rt => w_X10_full_E C Rt M hf)
set_option maxRecDepth 100000 in
set_option maxHeartbeats 4000000 in
theorem w_X10_bits_4_b {X : Gc} {ad : Nat → Nat} {res : Int32} {M : Mem} {r_4 : Int32 → Int32 → Option Int32} (C : Gk X ad cX10_bits "NineTonguesModel" 3 1) (Rt : Gr X ad (some .int) (some (.int res)) M) (x0 : Int32) (h_4 : ∀ (x1 : Int32) (x2 : Int32), r_4 x1 x2 = some res → G X ad 4 3 [(0, .int x0), (1, .int x1), (2, .int x2)] [] M) (x1 : Int32) (x2 : Int32) (hf : f_X10_bits_4_b M r_4 x0 x1 x2 = some res) : G X ad 4 3 [(0, .int x0), (1, .int x1), (2, .int x2)] [] M := by
  unfold f_X10_bits_4_b at hf
  refine G.iload_n (pl := 2) C dX10_bits_4 rfl rfl ?_
  refine G.bipush (v := 8) C dX10_bits_5 (by decide) ?_
  refine G.icmp_ge (tgt := 24) C dX10_bits_7 (by decide) (fun hc1 => ?_) (fun hc1 => ?_)
  · replace hf := gIf hf hc1
    refine G.iload_n (pl := 1) C dX10_bits_24 rfl rfl ?_
    cases hf
    exact G.iret C Rt dX10_bits_25
  · replace hf := gIfn hf hc1
    refine G.iload_n (pl := 1) C dX10_bits_10 rfl rfl ?_
    refine G.iload_n (pl := 0) C dX10_bits_11 rfl rfl ?_
    refine G.iload_n (pl := 2) C dX10_bits_12 rfl rfl ?_
    refine G.ishr C dX10_bits_13 ?_
    refine G.iconst (v := 1) C dX10_bits_14 (by decide) ?_
    refine G.iand C dX10_bits_15 ?_
    refine G.iadd C dX10_bits_16 ?_
    refine G.istore_n (lv' := [(1, .int (x1 + ((x0 >>> (x2 &&& 31)) &&& (1 : Int32)))), (0, .int x0), (2, .int x2)]) C dX10_bits_17 rfl (by decide) rfl ?_
    refine G.iinc (pl := 2) (v := (x2 + 1)) (lv' := [(2, .int (x2 + 1)), (1, .int (x1 + ((x0 >>> (x2 &&& 31)) &&& (1 : Int32)))), (0, .int x0)]) C dX10_bits_18 rfl rfl (by decide) rfl ?_
    refine G.goto (tgt := 4) C dX10_bits_21 (by decide) ?_
    refine G.sub (lv' := [(0, .int x0), (1, .int (x1 + ((x0 >>> (x2 &&& 31)) &&& (1 : Int32)))), (2, .int (x2 + 1))]) [2, 1, 0] rfl ?_
    exact h_4 (x1 + ((x0 >>> (x2 &&& 31)) &&& (1 : Int32))) (x2 + 1)  hf
theorem w_X10_bits_4 {X : Gc} {ad : Nat → Nat} {res : Int32} {M : Mem} (C : Gk X ad cX10_bits "NineTonguesModel" 3 1) (Rt : Gr X ad (some .int) (some (.int res)) M) (x0 : Int32) : ∀ (n : Nat) (x1 : Int32) (x2 : Int32), f_X10_bits_4 M x0 n x1 x2 = some res → G X ad 4 3 [(0, .int x0), (1, .int x1), (2, .int x2)] [] M := by
  intro n
  induction n with
  | zero => intro x1 x2 hf; exact absurd (show (none : Option Int32) = some res from hf) (fun h => nomatch h)
  | succ n ih => intro x1 x2 hf; exact w_X10_bits_4_b C Rt x0 ih x1 x2 hf
set_option maxRecDepth 100000 in
set_option maxHeartbeats 4000000 in
theorem w_X10_bits_E {X : Gc} {ad : Nat → Nat} {res : Int32} {M : Mem} (C : Gk X ad cX10_bits "NineTonguesModel" 3 1) (Rt : Gr X ad (some .int) (some (.int res)) M) (x0 : Int32) (hf : f_X10_bits x0 M = some res) : G X ad 0 3 [(0, .int x0)] [] M := by
  unfold f_X10_bits at hf
  refine G.iconst (v := 0) C dX10_bits_0 (by decide) ?_
  refine G.istore_n (lv' := [(1, .int (0 : Int32)), (0, .int x0)]) C dX10_bits_1 rfl (by decide) rfl ?_
  refine G.iconst (v := 0) C dX10_bits_2 (by decide) ?_
  refine G.istore_n (lv' := [(2, .int (0 : Int32)), (1, .int (0 : Int32)), (0, .int x0)]) C dX10_bits_3 rfl (by decide) rfl ?_
  refine G.sub (lv' := [(0, .int x0), (1, .int (0 : Int32)), (2, .int (0 : Int32))]) [2, 1, 0] rfl ?_
  exact w_X10_bits_4 C Rt x0 FU (0 : Int32) (0 : Int32) hf
theorem mv_X10_bits : gMS yX10_bits cX10_bits 3 (some .int) 1 := ⟨k4_237, k1_12, k4_238, ⟨by decide +kernel, by decide +kernel, by decide +kernel⟩, by decide⟩
theorem c_X10_bits {res : Int32} {x0 : Int32} {M : Mem} (hf : f_X10_bits x0 M = some res) : Ct yX10_bits cX10_bits 3 (some .int) 1 (fun ad => [.int x0]) M (some (.int res)) M :=
  Ct.of (by decide +kernel) (fun _ => Nat.le_of_ble_eq_true rfl) (fun X ad C Rt => w_X10_bits_E C Rt x0 hf)
set_option maxRecDepth 100000 in
set_option maxHeartbeats 4000000 in
theorem w_X10_isTongue_E {X : Gc} {ad : Nat → Nat} {res : Int32} {M : Mem} (C : Gk X ad cX10_isTongue "NineTonguesModel" 2 2) (Rt : Gr X ad (some .boolean) (some (.int res)) M) (x1 : Int32) (hf : f_X10_isTongue x1 M = some res) : G X ad 0 2 [(0, .ref (ad 108)), (1, .int x1)] [] M := by
  unfold f_X10_isTongue at hf
  refine G.iload_n (pl := 1) C dX10_isTongue_0 rfl rfl ?_
  refine G.iconst (v := 0) C dX10_isTongue_1 (by decide) ?_
  refine G.aload_n (pl := 0) C dX10_isTongue_2 rfl rfl ?_
  refine gf10_0 C o_108 k4_97 dX10_isTongue_3 ?_
  refine G.iconst (v := 0) C dX10_isTongue_6 (by decide) ?_
  refine G.iald (v := (M.1 109 0)) C a_109 (vp_inC (by decide)) rfl dX10_isTongue_7 ?_
  refine G.iconst (v := 1) C dX10_isTongue_8 (by decide) ?_
  refine G.isub C dX10_isTongue_9 ?_
  obtain ⟨v1, hr1, hf⟩ := cp_some hf
  refine G.callS (st1 := [.int v1]) C [.int x1, .int (0 : Int32), .int ((M.1 109 0) - (1 : Int32))] [] (c_X10_between hr1) mv_X10_between k4_189 rfl rfl rfl (Nat.le_of_ble_eq_true rfl) (by decide) dX10_isTongue_10 rfl ?_
  obtain ⟨hz, hf⟩ := rz_some hf
  cases hf
  exact G.zret C hz Rt dX10_isTongue_13
theorem mv_X10_isTongue : gMV yX10_isTongue cX10_isTongue 2 (some .boolean) 1 := ⟨k4_206, kS_27, k1_12, k4_207, ⟨by decide +kernel, by decide +kernel, by decide +kernel⟩, by decide⟩
theorem c_X10_isTongue {res : Int32} {x1 : Int32} {M : Mem} (hf : f_X10_isTongue x1 M = some res) : Ct yX10_isTongue cX10_isTongue 2 (some .boolean) 2 (fun ad => [.ref (ad 108), .int x1]) M (some (.int res)) M :=
  Ct.of (by decide +kernel) (fun _ => Nat.le_of_ble_eq_true rfl) (fun X ad C Rt => w_X10_isTongue_E C Rt x1 hf)
set_option maxRecDepth 100000 in
set_option maxHeartbeats 4000000 in
theorem w_X10_isWord_E {X : Gc} {ad : Nat → Nat} {res : Int32} {M : Mem} (C : Gk X ad cX10_isWord "NineTonguesModel" 3 3) (Rt : Gr X ad (some .boolean) (some (.int res)) M) (x1 : Int32) (x2 : Int32) (hf : f_X10_isWord x1 x2 M = some res) : G X ad 0 3 [(0, .ref (ad 108)), (1, .int x1), (2, .int x2)] [] M := by
  unfold f_X10_isWord at hf
  refine G.aload_n (pl := 0) C dX10_isWord_0 rfl rfl ?_
  refine G.iload_n (pl := 1) C dX10_isWord_1 rfl rfl ?_
  obtain ⟨v1, hr1, hf⟩ := cp_some hf
  refine G.callV (st1 := [.int v1]) C [.int x1] [] (c_X10_isTongue hr1) mv_X10_isTongue k4_204 o_108.1 (fun _ => gShp_20 o_108) rfl rfl rfl rfl rfl (Nat.le_of_ble_eq_true rfl) (by decide) dX10_isWord_2 rfl ?_
  refine G.if_eq (tgt := 32) C dX10_isWord_5 (by decide) (fun hc1 => ?_) (fun hc1 => ?_)
  · replace hf := gIf hf hc1
    refine G.iconst (v := 0) C dX10_isWord_32 (by decide) ?_
    cases hf
    exact G.zret C rfl Rt dX10_isWord_33
  · replace hf := gIfn hf hc1
    refine G.iload_n (pl := 2) C dX10_isWord_8 rfl rfl ?_
    refine G.iconst (v := 0) C dX10_isWord_9 (by decide) ?_
    refine G.aload_n (pl := 0) C dX10_isWord_10 rfl rfl ?_
    refine gf10_4 C o_108 k4_101 dX10_isWord_11 ?_
    refine G.iconst (v := 4) C dX10_isWord_14 (by decide) ?_
    refine G.iload_n (pl := 1) C dX10_isWord_15 rfl rfl ?_
    refine G.imul C dX10_isWord_16 ?_
    refine G.iconst (v := 3) C dX10_isWord_17 (by decide) ?_
    refine G.iadd C dX10_isWord_18 ?_
    obtain ⟨v2, ev1, hi1, hf⟩ := rd_some hf
    refine G.iald C a_113 hi1 ev1 dX10_isWord_19 ?_
    refine G.iconst (v := 1) C dX10_isWord_20 (by decide) ?_
    refine G.isub C dX10_isWord_21 ?_
    obtain ⟨v3, hr2, hf⟩ := cp_some hf
    refine G.callS (st1 := [.int v3]) C [.int x2, .int (0 : Int32), .int (v2 - (1 : Int32))] [] (c_X10_between hr2) mv_X10_between k4_189 rfl rfl rfl (Nat.le_of_ble_eq_true rfl) (by decide) dX10_isWord_22 rfl ?_
    refine G.if_eq (tgt := 32) C dX10_isWord_25 (by decide) (fun hc2 => ?_) (fun hc2 => ?_)
    · replace hf := gIf hf hc2
      refine G.iconst (v := 0) C dX10_isWord_32 (by decide) ?_
      cases hf
      exact G.zret C rfl Rt dX10_isWord_33
    · replace hf := gIfn hf hc2
      refine G.iconst (v := 1) C dX10_isWord_28 (by decide) ?_
      refine G.goto (tgt := 33) C dX10_isWord_29 (by decide) ?_
      cases hf
      exact G.zret C rfl Rt dX10_isWord_33
theorem mv_X10_isWord : gMV yX10_isWord cX10_isWord 3 (some .boolean) 2 := ⟨k4_230, kS_28, k1_12, k4_231, ⟨by decide +kernel, by decide +kernel, by decide +kernel⟩, by decide⟩
theorem c_X10_isWord {res : Int32} {x1 : Int32} {x2 : Int32} {M : Mem} (hf : f_X10_isWord x1 x2 M = some res) : Ct yX10_isWord cX10_isWord 3 (some .boolean) 3 (fun ad => [.ref (ad 108), .int x1, .int x2]) M (some (.int res)) M :=
  Ct.of (by decide +kernel) (fun _ => Nat.le_of_ble_eq_true rfl) (fun X ad C Rt => w_X10_isWord_E C Rt x1 x2 hf)
set_option maxRecDepth 100000 in
set_option maxHeartbeats 4000000 in
theorem w_X10_speaks_E {X : Gc} {ad : Nat → Nat} {res : Int32} {M : Mem} (C : Gk X ad cX10_speaks "NineTonguesModel" 2 3) (Rt : Gr X ad (some .boolean) (some (.int res)) M) (x1 : Int32) (hf : f_X10_speaks x1 M = some res) : G X ad 0 2 [(0, .ref (ad 108)), (1, .int x1)] [] M := by
  unfold f_X10_speaks at hf
  refine G.aload_n (pl := 0) C dX10_speaks_0 rfl rfl ?_
  refine G.iload_n (pl := 1) C dX10_speaks_1 rfl rfl ?_
  obtain ⟨v1, hr1, hf⟩ := cp_some hf
  refine G.callV (st1 := [.int v1]) C [.int x1] [] (c_X10_isTongue hr1) mv_X10_isTongue k4_204 o_108.1 (fun _ => gShp_20 o_108) rfl rfl rfl rfl rfl (Nat.le_of_ble_eq_true rfl) (by decide) dX10_speaks_2 rfl ?_
  refine G.if_eq (tgt := 25) C dX10_speaks_5 (by decide) (fun hc1 => ?_) (fun hc1 => ?_)
  · replace hf := gIf hf hc1
    refine G.iconst (v := 0) C dX10_speaks_25 (by decide) ?_
    cases hf
    exact G.zret C rfl Rt dX10_speaks_26
  · replace hf := gIfn hf hc1
    refine G.aload_n (pl := 0) C dX10_speaks_8 rfl rfl ?_
    refine gf10_4 C o_108 k4_101 dX10_speaks_9 ?_
    refine G.iconst (v := 4) C dX10_speaks_12 (by decide) ?_
    refine G.iload_n (pl := 1) C dX10_speaks_13 rfl rfl ?_
    refine G.imul C dX10_speaks_14 ?_
    refine G.iconst (v := 3) C dX10_speaks_15 (by decide) ?_
    refine G.iadd C dX10_speaks_16 ?_
    obtain ⟨v2, ev1, hi1, hf⟩ := rd_some hf
    refine G.iald C a_113 hi1 ev1 dX10_speaks_17 ?_
    refine G.if_le (tgt := 25) C dX10_speaks_18 (by decide) (fun hc2 => ?_) (fun hc2 => ?_)
    · replace hf := gIf hf hc2
      refine G.iconst (v := 0) C dX10_speaks_25 (by decide) ?_
      cases hf
      exact G.zret C rfl Rt dX10_speaks_26
    · replace hf := gIfn hf hc2
      refine G.iconst (v := 1) C dX10_speaks_21 (by decide) ?_
      refine G.goto (tgt := 26) C dX10_speaks_22 (by decide) ?_
      cases hf
      exact G.zret C rfl Rt dX10_speaks_26
theorem mv_X10_speaks : gMV yX10_speaks cX10_speaks 2 (some .boolean) 1 := ⟨k5_22, kS_32, k1_12, k5_23, ⟨by decide +kernel, by decide +kernel, by decide +kernel⟩, by decide⟩
theorem c_X10_speaks {res : Int32} {x1 : Int32} {M : Mem} (hf : f_X10_speaks x1 M = some res) : Ct yX10_speaks cX10_speaks 2 (some .boolean) 3 (fun ad => [.ref (ad 108), .int x1]) M (some (.int res)) M :=
  Ct.of (by decide +kernel) (fun _ => Nat.le_of_ble_eq_true rfl) (fun X ad C Rt => w_X10_speaks_E C Rt x1 hf)
set_option maxRecDepth 100000 in
set_option maxHeartbeats 4000000 in
theorem w_X10_tongue_38 {X : Gc} {ad : Nat → Nat} {res : (Int32 × Mem)} (C : Gk X ad cX10_tongue "NineTonguesModel" 5 2) (Rt : Gr X ad (some .int) (some (.int res.1)) res.2) (M : Mem) (hf : f_X10_tongue_38 M = some res) : G X ad 38 5 [(0, .ref (ad 108))] [] M := by
  unfold f_X10_tongue_38 at hf
  refine G.aload_n (pl := 0) C dX10_tongue_38 rfl rfl ?_
  refine G.bipush (v := (-2)) C dX10_tongue_39 (by decide) ?_
  obtain ⟨v1, M1, hr1, hf⟩ := cl_some hf
  refine G.callV (st1 := [.int v1]) C [.int (-2 : Int32)] [] (c_X10_bad hr1) mv_X10_bad k4_192 o_108.1 (fun _ => gShp_20 o_108) rfl rfl rfl rfl rfl (Nat.le_of_ble_eq_true rfl) (by decide) dX10_tongue_41 rfl ?_
  cases hf
  exact G.iret C Rt dX10_tongue_44
set_option maxRecDepth 100000 in
set_option maxHeartbeats 4000000 in
theorem w_X10_tongue_E {X : Gc} {ad : Nat → Nat} {res : (Int32 × Mem)} (C : Gk X ad cX10_tongue "NineTonguesModel" 5 2) (Rt : Gr X ad (some .int) (some (.int res.1)) res.2) (x1 : Int32) (x2 : Int32) (x3 : Int32) (M : Mem) (hf : f_X10_tongue x1 x2 x3 M = some res) : G X ad 0 5 [(0, .ref (ad 108)), (1, .int x1), (2, .int x2), (3, .int x3)] [] M := by
  unfold f_X10_tongue at hf
  refine G.iload_n (pl := 1) C dX10_tongue_0 rfl rfl ?_
  refine G.iconst (v := 0) C dX10_tongue_1 (by decide) ?_
  refine G.bipush (v := 15) C dX10_tongue_2 (by decide) ?_
  obtain ⟨v1, hr1, hf⟩ := cp_some hf
  refine G.callS (st1 := [.int v1]) C [.int x1, .int (0 : Int32), .int (15 : Int32)] [] (c_X10_between hr1) mv_X10_between k4_189 rfl rfl rfl (Nat.le_of_ble_eq_true rfl) (by decide) dX10_tongue_4 rfl ?_
  refine G.if_eq (tgt := 38) C dX10_tongue_7 (by decide) (fun hc1 => ?_) (fun hc1 => ?_)
  · replace hf := gIf hf hc1
    refine G.sub (lv' := [(0, .ref (ad 108))]) [0] rfl ?_
    exact w_X10_tongue_38 C Rt M hf
  · replace hf := gIfn hf hc1
    refine G.iload_n (pl := 2) C dX10_tongue_10 rfl rfl ?_
    refine G.iconst (v := 0) C dX10_tongue_11 (by decide) ?_
    refine G.bipush (v := 15) C dX10_tongue_12 (by decide) ?_
    obtain ⟨v2, hr2, hf⟩ := cp_some hf
    refine G.callS (st1 := [.int v2]) C [.int x2, .int (0 : Int32), .int (15 : Int32)] [] (c_X10_between hr2) mv_X10_between k4_189 rfl rfl rfl (Nat.le_of_ble_eq_true rfl) (by decide) dX10_tongue_14 rfl ?_
    refine G.if_eq (tgt := 38) C dX10_tongue_17 (by decide) (fun hc2 => ?_) (fun hc2 => ?_)
    · replace hf := gIf hf hc2
      refine G.sub (lv' := [(0, .ref (ad 108))]) [0] rfl ?_
      exact w_X10_tongue_38 C Rt M hf
    · replace hf := gIfn hf hc2
      refine G.iload_n (pl := 3) C dX10_tongue_20 rfl rfl ?_
      refine G.iconst (v := 0) C dX10_tongue_21 (by decide) ?_
      refine G.bipush (v := 15) C dX10_tongue_22 (by decide) ?_
      obtain ⟨v3, hr3, hf⟩ := cp_some hf
      refine G.callS (st1 := [.int v3]) C [.int x3, .int (0 : Int32), .int (15 : Int32)] [] (c_X10_between hr3) mv_X10_between k4_189 rfl rfl rfl (Nat.le_of_ble_eq_true rfl) (by decide) dX10_tongue_24 rfl ?_
      refine G.if_eq (tgt := 38) C dX10_tongue_27 (by decide) (fun hc3 => ?_) (fun hc3 => ?_)
      · replace hf := gIf hf hc3
        refine G.sub (lv' := [(0, .ref (ad 108))]) [0] rfl ?_
        exact w_X10_tongue_38 C Rt M hf
      · replace hf := gIfn hf hc3
        refine G.iload_n (pl := 1) C dX10_tongue_30 rfl rfl ?_
        refine G.iload_n (pl := 2) C dX10_tongue_31 rfl rfl ?_
        refine G.iconst (v := (-1)) C dX10_tongue_32 (by decide) ?_
        refine G.ixor C dX10_tongue_33 ?_
        refine G.iand C dX10_tongue_34 ?_
        refine G.if_eq (tgt := 45) C dX10_tongue_35 (by decide) (fun hc4 => ?_) (fun hc4 => ?_)
        · replace hf := gIf hf hc4
          refine G.aload_n (pl := 0) C dX10_tongue_45 rfl rfl ?_
          refine gf10_0 C o_108 k4_97 dX10_tongue_46 ?_
          refine G.iconst (v := 0) C dX10_tongue_49 (by decide) ?_
          refine G.iald (v := (M.1 109 0)) C a_109 (vp_inC (by decide)) rfl dX10_tongue_50 ?_
          refine G.istore (lv' := [(4, .int (M.1 109 0)), (0, .ref (ad 108)), (1, .int x1), (2, .int x2), (3, .int x3)]) C dX10_tongue_51 (by decide) rfl ?_
          refine G.iload (pl := 0) C dX10_tongue_53 rfl ?_
          refine G.bipush (v := 6) C dX10_tongue_55 (by decide) ?_
          refine G.icmp_ne (tgt := 65) C dX10_tongue_57 (by decide) (fun hc5 => ?_) (fun hc5 => ?_)
          · replace hf := gIfn hf hc5
            refine G.aload_n (pl := 1) C dX10_tongue_65 rfl rfl ?_
            refine gf10_4 C o_108 k4_101 dX10_tongue_66 ?_
            refine G.iconst (v := 4) C dX10_tongue_69 (by decide) ?_
            refine G.iload (pl := 0) C dX10_tongue_70 rfl ?_
            refine G.imul C dX10_tongue_72 ?_
            refine G.iload_n (pl := 2) C dX10_tongue_73 rfl rfl ?_
            obtain ⟨hi1, hf⟩ := ck_some hf
            obtain ⟨M1, eM1, hf⟩ := stm_some hf
            refine G.iast C a_113 hi1 eM1 dX10_tongue_74 ?_
            refine G.aload_n (pl := 1) C dX10_tongue_75 rfl rfl ?_
            refine gf10_4 C o_108 k4_101 dX10_tongue_76 ?_
            refine G.iconst (v := 4) C dX10_tongue_79 (by decide) ?_
            refine G.iload (pl := 0) C dX10_tongue_80 rfl ?_
            refine G.imul C dX10_tongue_82 ?_
            refine G.iconst (v := 1) C dX10_tongue_83 (by decide) ?_
            refine G.iadd C dX10_tongue_84 ?_
            refine G.iload_n (pl := 3) C dX10_tongue_85 rfl rfl ?_
            obtain ⟨hi2, hf⟩ := ck_some hf
            obtain ⟨M2, eM2, hf⟩ := stm_some hf
            refine G.iast C a_113 hi2 eM2 dX10_tongue_86 ?_
            refine G.aload_n (pl := 1) C dX10_tongue_87 rfl rfl ?_
            refine gf10_4 C o_108 k4_101 dX10_tongue_88 ?_
            refine G.iconst (v := 4) C dX10_tongue_91 (by decide) ?_
            refine G.iload (pl := 0) C dX10_tongue_92 rfl ?_
            refine G.imul C dX10_tongue_94 ?_
            refine G.iconst (v := 2) C dX10_tongue_95 (by decide) ?_
            refine G.iadd C dX10_tongue_96 ?_
            refine G.iload_n (pl := 4) C dX10_tongue_97 rfl rfl ?_
            obtain ⟨hi3, hf⟩ := ck_some hf
            obtain ⟨M3, eM3, hf⟩ := stm_some hf
            refine G.iast C a_113 hi3 eM3 dX10_tongue_98 ?_
            refine G.aload_n (pl := 1) C dX10_tongue_99 rfl rfl ?_
            refine gf10_4 C o_108 k4_101 dX10_tongue_100 ?_
            refine G.iconst (v := 4) C dX10_tongue_103 (by decide) ?_
            refine G.iload (pl := 0) C dX10_tongue_104 rfl ?_
            refine G.imul C dX10_tongue_106 ?_
            refine G.iconst (v := 3) C dX10_tongue_107 (by decide) ?_
            refine G.iadd C dX10_tongue_108 ?_
            refine G.iconst (v := 0) C dX10_tongue_109 (by decide) ?_
            obtain ⟨hi4, hf⟩ := ck_some hf
            obtain ⟨M4, eM4, hf⟩ := stm_some hf
            refine G.iast C a_113 hi4 eM4 dX10_tongue_110 ?_
            refine G.aload_n (pl := 1) C dX10_tongue_111 rfl rfl ?_
            refine gf10_0 C o_108 k4_97 dX10_tongue_112 ?_
            refine G.iconst (v := 0) C dX10_tongue_115 (by decide) ?_
            refine G.dup2 C dX10_tongue_116 rfl rfl ?_
            refine G.iald (v := (M4.1 109 0)) C a_109 (vp_inC (by decide)) rfl dX10_tongue_117 ?_
            refine G.iconst (v := 1) C dX10_tongue_118 (by decide) ?_
            refine G.iadd C dX10_tongue_119 ?_
            obtain ⟨M5, eM5, hf⟩ := stm_some hf
            refine G.iast C a_109 (vp_inC (by decide)) eM5 dX10_tongue_120 ?_
            refine G.iload (pl := 0) C dX10_tongue_121 rfl ?_
            cases hf
            exact G.iret C Rt dX10_tongue_123
          · replace hf := gIf hf hc5
            refine G.aload_n (pl := 1) C dX10_tongue_60 rfl rfl ?_
            obtain ⟨v4, M6, hr4, hf⟩ := cl_some hf
            refine G.callV (st1 := [.int v4]) C [] [] (c_X10_full hr4) mv_X10_full k4_196 o_108.1 (fun _ => gShp_20 o_108) rfl rfl rfl rfl rfl (Nat.le_of_ble_eq_true rfl) (by decide) dX10_tongue_61 rfl ?_
            cases hf
            exact G.iret C Rt dX10_tongue_64
        · replace hf := gIfn hf hc4
          refine G.sub (lv' := [(0, .ref (ad 108))]) [0] rfl ?_
          exact w_X10_tongue_38 C Rt M hf
theorem mv_X10_tongue : gMV yX10_tongue cX10_tongue 5 (some .int) 3 := ⟨k4_186, k4_187, k1_12, k4_188, ⟨by decide +kernel, by decide +kernel, by decide +kernel⟩, by decide⟩
theorem c_X10_tongue {res : (Int32 × Mem)} {x1 : Int32} {x2 : Int32} {x3 : Int32} {M : Mem} (hf : f_X10_tongue x1 x2 x3 M = some res) : Ct yX10_tongue cX10_tongue 5 (some .int) 2 (fun ad => [.ref (ad 108), .int x1, .int x2, .int x3]) M (some (.int res.1)) res.2 :=
  Ct.of (by decide +kernel) (fun _ => Nat.le_of_ble_eq_true rfl) (fun X ad C Rt => w_X10_tongue_E C Rt x1 x2 x3 M hf)
set_option maxRecDepth 100000 in
set_option maxHeartbeats 4000000 in
theorem w_X10_word_40 {X : Gc} {ad : Nat → Nat} {res : (Int32 × Mem)} (C : Gk X ad cX10_word "NineTonguesModel" 6 3) (Rt : Gr X ad (some .int) (some (.int res.1)) res.2) (M : Mem) (hf : f_X10_word_40 M = some res) : G X ad 40 6 [(0, .ref (ad 108))] [] M := by
  unfold f_X10_word_40 at hf
  refine G.aload_n (pl := 0) C dX10_word_40 rfl rfl ?_
  refine G.bipush (v := (-2)) C dX10_word_41 (by decide) ?_
  obtain ⟨v1, M1, hr1, hf⟩ := cl_some hf
  refine G.callV (st1 := [.int v1]) C [.int (-2 : Int32)] [] (c_X10_bad hr1) mv_X10_bad k4_192 o_108.1 (fun _ => gShp_20 o_108) rfl rfl rfl rfl rfl (Nat.le_of_ble_eq_true rfl) (by decide) dX10_word_43 rfl ?_
  cases hf
  exact G.iret C Rt dX10_word_46
set_option maxRecDepth 100000 in
set_option maxHeartbeats 4000000 in
theorem w_X10_word_E {X : Gc} {ad : Nat → Nat} {res : (Int32 × Mem)} (C : Gk X ad cX10_word "NineTonguesModel" 6 3) (Rt : Gr X ad (some .int) (some (.int res.1)) res.2) (x1 : Int32) (x2 : Int32) (x3 : Int32) (x4 : Int32) (M : Mem) (hf : f_X10_word x1 x2 x3 x4 M = some res) : G X ad 0 6 [(0, .ref (ad 108)), (1, .int x1), (2, .int x2), (3, .int x3), (4, .int x4)] [] M := by
  unfold f_X10_word at hf
  refine G.aload_n (pl := 0) C dX10_word_0 rfl rfl ?_
  refine G.iload_n (pl := 1) C dX10_word_1 rfl rfl ?_
  obtain ⟨v1, hr1, hf⟩ := cp_some hf
  refine G.callV (st1 := [.int v1]) C [.int x1] [] (c_X10_isTongue hr1) mv_X10_isTongue k4_204 o_108.1 (fun _ => gShp_20 o_108) rfl rfl rfl rfl rfl (Nat.le_of_ble_eq_true rfl) (by decide) dX10_word_2 rfl ?_
  refine G.if_eq (tgt := 40) C dX10_word_5 (by decide) (fun hc1 => ?_) (fun hc1 => ?_)
  · replace hf := gIf hf hc1
    refine G.sub (lv' := [(0, .ref (ad 108))]) [0] rfl ?_
    exact w_X10_word_40 C Rt M hf
  · replace hf := gIfn hf hc1
    refine G.iload_n (pl := 2) C dX10_word_8 rfl rfl ?_
    refine G.iconst (v := 1) C dX10_word_9 (by decide) ?_
    refine G.sipush (v := 255) C dX10_word_10 (by decide) ?_
    obtain ⟨v2, hr2, hf⟩ := cp_some hf
    refine G.callS (st1 := [.int v2]) C [.int x2, .int (1 : Int32), .int (255 : Int32)] [] (c_X10_between hr2) mv_X10_between k4_189 rfl rfl rfl (Nat.le_of_ble_eq_true rfl) (by decide) dX10_word_13 rfl ?_
    refine G.if_eq (tgt := 40) C dX10_word_16 (by decide) (fun hc2 => ?_) (fun hc2 => ?_)
    · replace hf := gIf hf hc2
      refine G.sub (lv' := [(0, .ref (ad 108))]) [0] rfl ?_
      exact w_X10_word_40 C Rt M hf
    · replace hf := gIfn hf hc2
      refine G.iload_n (pl := 3) C dX10_word_19 rfl rfl ?_
      refine G.iconst (v := 0) C dX10_word_20 (by decide) ?_
      refine G.bipush (v := 9) C dX10_word_21 (by decide) ?_
      obtain ⟨v3, hr3, hf⟩ := cp_some hf
      refine G.callS (st1 := [.int v3]) C [.int x3, .int (0 : Int32), .int (9 : Int32)] [] (c_X10_between hr3) mv_X10_between k4_189 rfl rfl rfl (Nat.le_of_ble_eq_true rfl) (by decide) dX10_word_23 rfl ?_
      refine G.if_eq (tgt := 40) C dX10_word_26 (by decide) (fun hc3 => ?_) (fun hc3 => ?_)
      · replace hf := gIf hf hc3
        refine G.sub (lv' := [(0, .ref (ad 108))]) [0] rfl ?_
        exact w_X10_word_40 C Rt M hf
      · replace hf := gIfn hf hc3
        refine G.iload (pl := 4) C dX10_word_29 rfl ?_
        refine G.iconst (v := 0) C dX10_word_31 (by decide) ?_
        refine G.bipush (v := 9) C dX10_word_32 (by decide) ?_
        obtain ⟨v4, hr4, hf⟩ := cp_some hf
        refine G.callS (st1 := [.int v4]) C [.int x4, .int (0 : Int32), .int (9 : Int32)] [] (c_X10_between hr4) mv_X10_between k4_189 rfl rfl rfl (Nat.le_of_ble_eq_true rfl) (by decide) dX10_word_34 rfl ?_
        refine G.if_ne (tgt := 47) C dX10_word_37 (by decide) (fun hc4 => ?_) (fun hc4 => ?_)
        · replace hf := gIfn hf hc4
          refine G.aload_n (pl := 0) C dX10_word_47 rfl rfl ?_
          refine gf10_4 C o_108 k4_101 dX10_word_48 ?_
          refine G.iconst (v := 4) C dX10_word_51 (by decide) ?_
          refine G.iload_n (pl := 1) C dX10_word_52 rfl rfl ?_
          refine G.imul C dX10_word_53 ?_
          refine G.iconst (v := 3) C dX10_word_54 (by decide) ?_
          refine G.iadd C dX10_word_55 ?_
          obtain ⟨v5, ev1, hi1, hf⟩ := rd_some hf
          refine G.iald C a_113 hi1 ev1 dX10_word_56 ?_
          refine G.istore (lv' := [(5, .int v5), (0, .ref (ad 108)), (1, .int x1), (2, .int x2), (3, .int x3), (4, .int x4)]) C dX10_word_57 (by decide) rfl ?_
          refine G.iload (pl := 0) C dX10_word_59 rfl ?_
          refine G.bipush (v := 8) C dX10_word_61 (by decide) ?_
          refine G.icmp_ne (tgt := 71) C dX10_word_63 (by decide) (fun hc5 => ?_) (fun hc5 => ?_)
          · replace hf := gIfn hf hc5
            refine G.aload_n (pl := 1) C dX10_word_71 rfl rfl ?_
            refine gf10_5 C o_108 k4_102 dX10_word_72 ?_
            refine G.bipush (v := 24) C dX10_word_75 (by decide) ?_
            refine G.iload_n (pl := 2) C dX10_word_77 rfl rfl ?_
            refine G.imul C dX10_word_78 ?_
            refine G.iconst (v := 3) C dX10_word_79 (by decide) ?_
            refine G.iload (pl := 0) C dX10_word_80 rfl ?_
            refine G.imul C dX10_word_82 ?_
            refine G.iadd C dX10_word_83 ?_
            refine G.iload_n (pl := 3) C dX10_word_84 rfl rfl ?_
            obtain ⟨hi2, hf⟩ := ck_some hf
            obtain ⟨M1, eM1, hf⟩ := stm_some hf
            refine G.iast C a_114 hi2 eM1 dX10_word_85 ?_
            refine G.aload_n (pl := 1) C dX10_word_86 rfl rfl ?_
            refine gf10_5 C o_108 k4_102 dX10_word_87 ?_
            refine G.bipush (v := 24) C dX10_word_90 (by decide) ?_
            refine G.iload_n (pl := 2) C dX10_word_92 rfl rfl ?_
            refine G.imul C dX10_word_93 ?_
            refine G.iconst (v := 3) C dX10_word_94 (by decide) ?_
            refine G.iload (pl := 0) C dX10_word_95 rfl ?_
            refine G.imul C dX10_word_97 ?_
            refine G.iadd C dX10_word_98 ?_
            refine G.iconst (v := 1) C dX10_word_99 (by decide) ?_
            refine G.iadd C dX10_word_100 ?_
            refine G.iload_n (pl := 4) C dX10_word_101 rfl rfl ?_
            obtain ⟨hi3, hf⟩ := ck_some hf
            obtain ⟨M2, eM2, hf⟩ := stm_some hf
            refine G.iast C a_114 hi3 eM2 dX10_word_102 ?_
            refine G.aload_n (pl := 1) C dX10_word_103 rfl rfl ?_
            refine gf10_5 C o_108 k4_102 dX10_word_104 ?_
            refine G.bipush (v := 24) C dX10_word_107 (by decide) ?_
            refine G.iload_n (pl := 2) C dX10_word_109 rfl rfl ?_
            refine G.imul C dX10_word_110 ?_
            refine G.iconst (v := 3) C dX10_word_111 (by decide) ?_
            refine G.iload (pl := 0) C dX10_word_112 rfl ?_
            refine G.imul C dX10_word_114 ?_
            refine G.iadd C dX10_word_115 ?_
            refine G.iconst (v := 2) C dX10_word_116 (by decide) ?_
            refine G.iadd C dX10_word_117 ?_
            refine G.iload (pl := 5) C dX10_word_118 rfl ?_
            obtain ⟨hi4, hf⟩ := ck_some hf
            obtain ⟨M3, eM3, hf⟩ := stm_some hf
            refine G.iast C a_114 hi4 eM3 dX10_word_120 ?_
            refine G.aload_n (pl := 1) C dX10_word_121 rfl rfl ?_
            refine gf10_4 C o_108 k4_101 dX10_word_122 ?_
            refine G.iconst (v := 4) C dX10_word_125 (by decide) ?_
            refine G.iload_n (pl := 2) C dX10_word_126 rfl rfl ?_
            refine G.imul C dX10_word_127 ?_
            refine G.iconst (v := 3) C dX10_word_128 (by decide) ?_
            refine G.iadd C dX10_word_129 ?_
            refine G.dup2 C dX10_word_130 rfl rfl ?_
            obtain ⟨v6, ev2, hi5, hf⟩ := rd_some hf
            refine G.iald C a_113 hi5 ev2 dX10_word_131 ?_
            refine G.iconst (v := 1) C dX10_word_132 (by decide) ?_
            refine G.iadd C dX10_word_133 ?_
            obtain ⟨hi6, hf⟩ := ck_some hf
            obtain ⟨M4, eM4, hf⟩ := stm_some hf
            refine G.iast C a_113 hi6 eM4 dX10_word_134 ?_
            refine G.iload (pl := 0) C dX10_word_135 rfl ?_
            cases hf
            exact G.iret C Rt dX10_word_137
          · replace hf := gIf hf hc5
            refine G.aload_n (pl := 1) C dX10_word_66 rfl rfl ?_
            obtain ⟨v7, M5, hr5, hf⟩ := cl_some hf
            refine G.callV (st1 := [.int v7]) C [] [] (c_X10_full hr5) mv_X10_full k4_196 o_108.1 (fun _ => gShp_20 o_108) rfl rfl rfl rfl rfl (Nat.le_of_ble_eq_true rfl) (by decide) dX10_word_67 rfl ?_
            cases hf
            exact G.iret C Rt dX10_word_70
        · replace hf := gIf hf hc4
          refine G.sub (lv' := [(0, .ref (ad 108))]) [0] rfl ?_
          exact w_X10_word_40 C Rt M hf
theorem mv_X10_word : gMV yX10_word cX10_word 6 (some .int) 4 := ⟨k4_201, k4_202, k1_12, k4_203, ⟨by decide +kernel, by decide +kernel, by decide +kernel⟩, by decide⟩
theorem c_X10_word {res : (Int32 × Mem)} {x1 : Int32} {x2 : Int32} {x3 : Int32} {x4 : Int32} {M : Mem} (hf : f_X10_word x1 x2 x3 x4 M = some res) : Ct yX10_word cX10_word 6 (some .int) 3 (fun ad => [.ref (ad 108), .int x1, .int x2, .int x3, .int x4]) M (some (.int res.1)) res.2 :=
  Ct.of (by decide +kernel) (fun _ => Nat.le_of_ble_eq_true rfl) (fun X ad C Rt => w_X10_word_E C Rt x1 x2 x3 x4 M hf)
set_option maxRecDepth 100000 in
set_option maxHeartbeats 4000000 in
theorem w_X10_put_19 {X : Gc} {ad : Nat → Nat} {res : (Int32 × Mem)} (C : Gk X ad cX10_put "NineTonguesModel" 4 2) (Rt : Gr X ad (some .int) (some (.int res.1)) res.2) (M : Mem) (hf : f_X10_put_19 M = some res) : G X ad 19 4 [(0, .ref (ad 108))] [] M := by
  unfold f_X10_put_19 at hf
  refine G.aload_n (pl := 0) C dX10_put_19 rfl rfl ?_
  refine G.bipush (v := (-2)) C dX10_put_20 (by decide) ?_
  obtain ⟨v1, M1, hr1, hf⟩ := cl_some hf
  refine G.callV (st1 := [.int v1]) C [.int (-2 : Int32)] [] (c_X10_bad hr1) mv_X10_bad k4_192 o_108.1 (fun _ => gShp_20 o_108) rfl rfl rfl rfl rfl (Nat.le_of_ble_eq_true rfl) (by decide) dX10_put_22 rfl ?_
  cases hf
  exact G.iret C Rt dX10_put_25
set_option maxRecDepth 100000 in
set_option maxHeartbeats 4000000 in
theorem w_X10_put_E {X : Gc} {ad : Nat → Nat} {res : (Int32 × Mem)} (C : Gk X ad cX10_put "NineTonguesModel" 4 2) (Rt : Gr X ad (some .int) (some (.int res.1)) res.2) (x1 : Int32) (x2 : Int32) (M : Mem) (hf : f_X10_put x1 x2 M = some res) : G X ad 0 4 [(0, .ref (ad 108)), (1, .int x1), (2, .int x2)] [] M := by
  unfold f_X10_put at hf
  refine G.iload_n (pl := 1) C dX10_put_0 rfl rfl ?_
  refine G.iconst (v := 0) C dX10_put_1 (by decide) ?_
  refine G.iconst (v := 1) C dX10_put_2 (by decide) ?_
  obtain ⟨v1, hr1, hf⟩ := cp_some hf
  refine G.callS (st1 := [.int v1]) C [.int x1, .int (0 : Int32), .int (1 : Int32)] [] (c_X10_between hr1) mv_X10_between k4_189 rfl rfl rfl (Nat.le_of_ble_eq_true rfl) (by decide) dX10_put_3 rfl ?_
  refine G.if_eq (tgt := 19) C dX10_put_6 (by decide) (fun hc1 => ?_) (fun hc1 => ?_)
  · replace hf := gIf hf hc1
    refine G.sub (lv' := [(0, .ref (ad 108))]) [0] rfl ?_
    exact w_X10_put_19 C Rt M hf
  · replace hf := gIfn hf hc1
    refine G.iload_n (pl := 2) C dX10_put_9 rfl rfl ?_
    refine G.iconst (v := 0) C dX10_put_10 (by decide) ?_
    refine G.bipush (v := 9) C dX10_put_11 (by decide) ?_
    obtain ⟨v2, hr2, hf⟩ := cp_some hf
    refine G.callS (st1 := [.int v2]) C [.int x2, .int (0 : Int32), .int (9 : Int32)] [] (c_X10_between hr2) mv_X10_between k4_189 rfl rfl rfl (Nat.le_of_ble_eq_true rfl) (by decide) dX10_put_13 rfl ?_
    refine G.if_ne (tgt := 26) C dX10_put_16 (by decide) (fun hc2 => ?_) (fun hc2 => ?_)
    · replace hf := gIfn hf hc2
      refine G.aload_n (pl := 0) C dX10_put_26 rfl rfl ?_
      refine gf10_9 C o_108 k4_106 dX10_put_27 ?_
      refine G.bipush (v := 10) C dX10_put_30 (by decide) ?_
      refine G.iload_n (pl := 1) C dX10_put_32 rfl rfl ?_
      refine G.iadd C dX10_put_33 ?_
      obtain ⟨v3, ev1, hi1, hf⟩ := rd_some hf
      refine G.iald C a_118 hi1 ev1 dX10_put_34 ?_
      refine G.istore_n (lv' := [(3, .int v3), (0, .ref (ad 108)), (1, .int x1), (2, .int x2)]) C dX10_put_35 rfl (by decide) rfl ?_
      refine G.aload_n (pl := 1) C dX10_put_36 rfl rfl ?_
      refine gf10_9 C o_108 k4_106 dX10_put_37 ?_
      refine G.bipush (v := 10) C dX10_put_40 (by decide) ?_
      refine G.iload_n (pl := 2) C dX10_put_42 rfl rfl ?_
      refine G.iadd C dX10_put_43 ?_
      refine G.iload_n (pl := 3) C dX10_put_44 rfl rfl ?_
      obtain ⟨hi2, hf⟩ := ck_some hf
      obtain ⟨M1, eM1, hf⟩ := stm_some hf
      refine G.iast C a_118 hi2 eM1 dX10_put_45 ?_
      refine G.iload_n (pl := 0) C dX10_put_46 rfl rfl ?_
      cases hf
      exact G.iret C Rt dX10_put_47
    · replace hf := gIf hf hc2
      refine G.sub (lv' := [(0, .ref (ad 108))]) [0] rfl ?_
      exact w_X10_put_19 C Rt M hf
theorem mv_X10_put : gMV yX10_put cX10_put 4 (some .int) 2 := ⟨k4_209, k4_210, k1_12, k4_211, ⟨by decide +kernel, by decide +kernel, by decide +kernel⟩, by decide⟩
theorem c_X10_put {res : (Int32 × Mem)} {x1 : Int32} {x2 : Int32} {M : Mem} (hf : f_X10_put x1 x2 M = some res) : Ct yX10_put cX10_put 4 (some .int) 2 (fun ad => [.ref (ad 108), .int x1, .int x2]) M (some (.int res.1)) res.2 :=
  Ct.of (by decide +kernel) (fun _ => Nat.le_of_ble_eq_true rfl) (fun X ad C Rt => w_X10_put_E C Rt x1 x2 M hf)
set_option maxRecDepth 100000 in
set_option maxHeartbeats 4000000 in
theorem w_X10_say_E {X : Gc} {ad : Nat → Nat} {res : (Int32 × Mem)} (C : Gk X ad cX10_say "NineTonguesModel" 2 2) (Rt : Gr X ad (some .int) (some (.int res.1)) res.2) (x1 : Int32) (M : Mem) (hf : f_X10_say x1 M = some res) : G X ad 0 2 [(0, .ref (ad 108)), (1, .int x1)] [] M := by
  unfold f_X10_say at hf
  refine G.iload_n (pl := 1) C dX10_say_0 rfl rfl ?_
  refine G.iconst (v := 1) C dX10_say_1 (by decide) ?_
  refine G.sipush (v := 255) C dX10_say_2 (by decide) ?_
  obtain ⟨v1, hr1, hf⟩ := cp_some hf
  refine G.callS (st1 := [.int v1]) C [.int x1, .int (1 : Int32), .int (255 : Int32)] [] (c_X10_between hr1) mv_X10_between k4_189 rfl rfl rfl (Nat.le_of_ble_eq_true rfl) (by decide) dX10_say_5 rfl ?_
  refine G.if_ne (tgt := 18) C dX10_say_8 (by decide) (fun hc1 => ?_) (fun hc1 => ?_)
  · replace hf := gIfn hf hc1
    refine G.aload_n (pl := 0) C dX10_say_18 rfl rfl ?_
    refine gf10_1 C o_108 k4_98 dX10_say_19 ?_
    refine G.iconst (v := 0) C dX10_say_22 (by decide) ?_
    refine G.iald (v := (M.1 110 0)) C a_110 (vp_inC (by decide)) rfl dX10_say_23 ?_
    refine G.bipush (v := 6) C dX10_say_24 (by decide) ?_
    refine G.icmp_ne (tgt := 34) C dX10_say_26 (by decide) (fun hc2 => ?_) (fun hc2 => ?_)
    · replace hf := gIfn hf hc2
      refine G.aload_n (pl := 0) C dX10_say_34 rfl rfl ?_
      refine gf10_8 C o_108 k4_105 dX10_say_35 ?_
      refine G.aload_n (pl := 0) C dX10_say_38 rfl rfl ?_
      refine gf10_1 C o_108 k4_98 dX10_say_39 ?_
      refine G.iconst (v := 0) C dX10_say_42 (by decide) ?_
      refine G.iald (v := (M.1 110 0)) C a_110 (vp_inC (by decide)) rfl dX10_say_43 ?_
      refine G.iload_n (pl := 1) C dX10_say_44 rfl rfl ?_
      obtain ⟨hi1, hf⟩ := ck_some hf
      obtain ⟨M1, eM1, hf⟩ := stm_some hf
      refine G.iast C a_117 hi1 eM1 dX10_say_45 ?_
      refine G.aload_n (pl := 0) C dX10_say_46 rfl rfl ?_
      refine gf10_1 C o_108 k4_98 dX10_say_47 ?_
      refine G.iconst (v := 0) C dX10_say_50 (by decide) ?_
      refine G.dup2 C dX10_say_51 rfl rfl ?_
      refine G.iald (v := (M1.1 110 0)) C a_110 (vp_inC (by decide)) rfl dX10_say_52 ?_
      refine G.iconst (v := 1) C dX10_say_53 (by decide) ?_
      refine G.iadd C dX10_say_54 ?_
      obtain ⟨M2, eM2, hf⟩ := stm_some hf
      refine G.iast C a_110 (vp_inC (by decide)) eM2 dX10_say_55 ?_
      refine G.aload_n (pl := 0) C dX10_say_56 rfl rfl ?_
      refine gf10_1 C o_108 k4_98 dX10_say_57 ?_
      refine G.iconst (v := 0) C dX10_say_60 (by decide) ?_
      refine G.iald (v := (M2.1 110 0)) C a_110 (vp_inC (by decide)) rfl dX10_say_61 ?_
      refine G.iconst (v := 1) C dX10_say_62 (by decide) ?_
      refine G.isub C dX10_say_63 ?_
      cases hf
      exact G.iret C Rt dX10_say_64
    · replace hf := gIf hf hc2
      refine G.aload_n (pl := 0) C dX10_say_29 rfl rfl ?_
      obtain ⟨v2, M3, hr2, hf⟩ := cl_some hf
      refine G.callV (st1 := [.int v2]) C [] [] (c_X10_full hr2) mv_X10_full k4_196 o_108.1 (fun _ => gShp_20 o_108) rfl rfl rfl rfl rfl (Nat.le_of_ble_eq_true rfl) (by decide) dX10_say_30 rfl ?_
      cases hf
      exact G.iret C Rt dX10_say_33
  · replace hf := gIf hf hc1
    refine G.aload_n (pl := 0) C dX10_say_11 rfl rfl ?_
    refine G.bipush (v := (-2)) C dX10_say_12 (by decide) ?_
    obtain ⟨v3, M4, hr3, hf⟩ := cl_some hf
    refine G.callV (st1 := [.int v3]) C [.int (-2 : Int32)] [] (c_X10_bad hr3) mv_X10_bad k4_192 o_108.1 (fun _ => gShp_20 o_108) rfl rfl rfl rfl rfl (Nat.le_of_ble_eq_true rfl) (by decide) dX10_say_14 rfl ?_
    cases hf
    exact G.iret C Rt dX10_say_17
theorem mv_X10_say : gMV yX10_say cX10_say 2 (some .int) 1 := ⟨k4_213, k4_214, k1_12, k4_215, ⟨by decide +kernel, by decide +kernel, by decide +kernel⟩, by decide⟩
theorem c_X10_say {res : (Int32 × Mem)} {x1 : Int32} {M : Mem} (hf : f_X10_say x1 M = some res) : Ct yX10_say cX10_say 2 (some .int) 2 (fun ad => [.ref (ad 108), .int x1]) M (some (.int res.1)) res.2 :=
  Ct.of (by decide +kernel) (fun _ => Nat.le_of_ble_eq_true rfl) (fun X ad C Rt => w_X10_say_E C Rt x1 M hf)
