set_option maxRecDepth 100000 in
set_option maxHeartbeats 4000000 in
theorem w_X1_isBorne_63 {X : Gc} {ad : Nat → Nat} {res : Int32} {M : Mem} {r_3 : Int32 → Option Int32} (C : Gk X ad cX1_isBorne "NineTongues$Lexicon" 6 4) (Rt : Gr X ad (some .boolean) (some (.int res)) M) (x1 : Int32) (x2 : Int32) (x3 : Int32) (x4 : Int32) (h_3 : ∀ (x4 : Int32), r_3 x4 = some res → G X ad 3 6 [(0, .ref (ad 6)), (1, .int x1), (2, .int x2), (3, .int x3), (4, .int x4)] [] M) (hf : f_X1_isBorne_63 M r_3 x1 x2 x3 x4 = some res) : G X ad 63 6 [(0, .ref (ad 6)), (1, .int x1), (2, .int x2), (3, .int x3), (4, .int x4)] [] M := by
  unfold f_X1_isBorne_63 at hf
  refine G.iinc (pl := 4) (v := (x4 + 1)) (lv' := [(4, .int (x4 + 1)), (0, .ref (ad 6)), (1, .int x1), (2, .int x2), (3, .int x3)]) C dX1_isBorne_63 rfl rfl (by decide) rfl ?_
  refine G.goto (tgt := 3) C dX1_isBorne_66 (by decide) ?_
  refine G.sub (lv' := [(0, .ref (ad 6)), (1, .int x1), (2, .int x2), (3, .int x3), (4, .int (x4 + 1))]) [1, 2, 3, 4, 0] rfl ?_
  exact h_3 (x4 + 1)  hf
set_option maxRecDepth 100000 in
set_option maxHeartbeats 4000000 in
theorem w_X1_isBorne_3_b {X : Gc} {ad : Nat → Nat} {res : Int32} {M : Mem} {r_3 : Int32 → Option Int32} (C : Gk X ad cX1_isBorne "NineTongues$Lexicon" 6 4) (Rt : Gr X ad (some .boolean) (some (.int res)) M) (x1 : Int32) (x2 : Int32) (x3 : Int32) (h_3 : ∀ (x4 : Int32), r_3 x4 = some res → G X ad 3 6 [(0, .ref (ad 6)), (1, .int x1), (2, .int x2), (3, .int x3), (4, .int x4)] [] M) (x4 : Int32) (hf : f_X1_isBorne_3_b M r_3 x1 x2 x3 x4 = some res) : G X ad 3 6 [(0, .ref (ad 6)), (1, .int x1), (2, .int x2), (3, .int x3), (4, .int x4)] [] M := by
  unfold f_X1_isBorne_3_b at hf
  refine G.iload (pl := 4) C dX1_isBorne_3 rfl ?_
  refine G.aload_n (pl := 0) C dX1_isBorne_5 rfl rfl ?_
  refine gf1_0 C o_6 k1_36 dX1_isBorne_6 ?_
  refine G.icmp_ge (tgt := 69) C dX1_isBorne_9 (by decide) (fun hc1 => ?_) (fun hc1 => ?_)
  · replace hf := gIf hf hc1
    refine G.iconst (v := 1) C dX1_isBorne_69 (by decide) ?_
    cases hf
    exact G.zret C rfl Rt dX1_isBorne_70
  · replace hf := gIfn hf hc1
    refine G.aload_n (pl := 0) C dX1_isBorne_12 rfl rfl ?_
    refine G.iload (pl := 4) C dX1_isBorne_13 rfl ?_
    obtain ⟨v1, hr1, hf⟩ := cp_some hf
    refine G.callV (st1 := [.int v1]) C [.int x4] [] (c_X1_hasWords hr1) mv_X1_hasWords k3_20 o_6.1 (fun _ => gShp_11 o_6) rfl rfl rfl rfl rfl (Nat.le_of_ble_eq_true rfl) (by decide) dX1_isBorne_15 rfl ?_
    refine G.if_eq (tgt := 63) C dX1_isBorne_18 (by decide) (fun hc2 => ?_) (fun hc2 => ?_)
    · replace hf := gIf hf hc2
      exact w_X1_isBorne_63 C Rt x1 x2 x3 x4 h_3 hf
    · replace hf := gIfn hf hc2
      refine G.aload_n (pl := 0) C dX1_isBorne_21 rfl rfl ?_
      refine G.iload_n (pl := 1) C dX1_isBorne_22 rfl rfl ?_
      refine G.iload (pl := 4) C dX1_isBorne_23 rfl ?_
      refine G.iload_n (pl := 3) C dX1_isBorne_25 rfl rfl ?_
      refine G.iconst (v := (-1)) C dX1_isBorne_26 (by decide) ?_
      obtain ⟨v2, hr2, hf⟩ := cp_some hf
      refine G.callV (st1 := [.int v2]) C [.int x1, .int x4, .int x3, .int (-1 : Int32)] [] (c_X1_cheapest hr2) mv_X1_cheapest k3_21 o_6.1 (fun _ => gShp_11 o_6) rfl rfl rfl rfl rfl (Nat.le_of_ble_eq_true rfl) (by decide) dX1_isBorne_27 rfl ?_
      refine G.istore (lv' := [(5, .int v2), (0, .ref (ad 6)), (1, .int x1), (2, .int x2), (3, .int x3), (4, .int x4)]) C dX1_isBorne_30 (by decide) rfl ?_
      refine G.aload_n (pl := 1) C dX1_isBorne_32 rfl rfl ?_
      refine gf1_7 C o_6 k1_49 dX1_isBorne_33 ?_
      refine G.aload_n (pl := 1) C dX1_isBorne_36 rfl rfl ?_
      refine G.iload_n (pl := 2) C dX1_isBorne_37 rfl rfl ?_
      refine G.iload_n (pl := 3) C dX1_isBorne_38 rfl rfl ?_
      refine G.aload_n (pl := 1) C dX1_isBorne_39 rfl rfl ?_
      refine gf1_7 C o_6 k1_49 dX1_isBorne_40 ?_
      refine G.iload (pl := 0) C dX1_isBorne_43 rfl ?_
      obtain ⟨v3, ev1, hi1, hf⟩ := rd_some hf
      refine G.iald C a_11 hi1 ev1 dX1_isBorne_45 ?_
      refine G.aload_n (pl := 1) C dX1_isBorne_46 rfl rfl ?_
      refine gf1_8 C o_6 k1_51 dX1_isBorne_47 ?_
      refine G.iload (pl := 0) C dX1_isBorne_50 rfl ?_
      obtain ⟨v4, ev2, hi2, hf⟩ := rd_some hf
      refine G.iald C a_12 hi2 ev2 dX1_isBorne_52 ?_
      obtain ⟨v5, hr3, hf⟩ := cp_some hf
      refine G.callV (st1 := [.int v5, .ref (ad 11)]) C [.int x1, .int x2, .int v3, .int v4] [.ref (ad 11)] (c_X1_cheapest hr3) mv_X1_cheapest k3_21 o_6.1 (fun _ => gShp_11 o_6) rfl rfl rfl rfl rfl (Nat.le_of_ble_eq_true rfl) (by decide) dX1_isBorne_53 rfl ?_
      obtain ⟨v6, ev3, hi3, hf⟩ := rd_some hf
      refine G.iald C a_11 hi3 ev3 dX1_isBorne_56 ?_
      refine G.iload_n (pl := 4) C dX1_isBorne_57 rfl rfl ?_
      refine G.icmp_eq (tgt := 63) C dX1_isBorne_58 (by decide) (fun hc3 => ?_) (fun hc3 => ?_)
      · replace hf := gIf hf hc3
        refine G.sub (lv' := [(0, .ref (ad 6)), (1, .int x1), (2, .int x2), (3, .int x3), (4, .int x4)]) [1, 2, 3, 4, 5] rfl ?_
        exact w_X1_isBorne_63 C Rt x1 x2 x3 x4 h_3 hf
      · replace hf := gIfn hf hc3
        refine G.iconst (v := 0) C dX1_isBorne_61 (by decide) ?_
        cases hf
        exact G.zret C rfl Rt dX1_isBorne_62
theorem w_X1_isBorne_3 {X : Gc} {ad : Nat → Nat} {res : Int32} {M : Mem} (C : Gk X ad cX1_isBorne "NineTongues$Lexicon" 6 4) (Rt : Gr X ad (some .boolean) (some (.int res)) M) (x1 : Int32) (x2 : Int32) (x3 : Int32) : ∀ (n : Nat) (x4 : Int32), f_X1_isBorne_3 M x1 x2 x3 n x4 = some res → G X ad 3 6 [(0, .ref (ad 6)), (1, .int x1), (2, .int x2), (3, .int x3), (4, .int x4)] [] M := by
  intro n
  induction n with
  | zero => intro x4 hf; exact absurd (show (none : Option Int32) = some res from hf) (fun h => nomatch h)
  | succ n ih => intro x4 hf; exact w_X1_isBorne_3_b C Rt x1 x2 x3 ih x4 hf
set_option maxRecDepth 100000 in
set_option maxHeartbeats 4000000 in
theorem w_X1_isBorne_E {X : Gc} {ad : Nat → Nat} {res : Int32} {M : Mem} (C : Gk X ad cX1_isBorne "NineTongues$Lexicon" 6 4) (Rt : Gr X ad (some .boolean) (some (.int res)) M) (x1 : Int32) (x2 : Int32) (x3 : Int32) (hf : f_X1_isBorne x1 x2 x3 M = some res) : G X ad 0 6 [(0, .ref (ad 6)), (1, .int x1), (2, .int x2), (3, .int x3)] [] M := by
  unfold f_X1_isBorne at hf
  refine G.iconst (v := 0) C dX1_isBorne_0 (by decide) ?_
  refine G.istore (lv' := [(4, .int (0 : Int32)), (0, .ref (ad 6)), (1, .int x1), (2, .int x2), (3, .int x3)]) C dX1_isBorne_1 (by decide) rfl ?_
  refine G.sub (lv' := [(0, .ref (ad 6)), (1, .int x1), (2, .int x2), (3, .int x3), (4, .int (0 : Int32))]) [1, 2, 3, 4, 0] rfl ?_
  exact w_X1_isBorne_3 C Rt x1 x2 x3 FU (0 : Int32) hf
theorem mv_X1_isBorne : gMV yX1_isBorne cX1_isBorne 6 (some .boolean) 3 := ⟨k3_133, k3_134, k1_3, k3_135, ⟨by decide +kernel, by decide +kernel, by decide +kernel⟩, by decide⟩
theorem c_X1_isBorne {res : Int32} {x1 : Int32} {x2 : Int32} {x3 : Int32} {M : Mem} (hf : f_X1_isBorne x1 x2 x3 M = some res) : Ct yX1_isBorne cX1_isBorne 6 (some .boolean) 4 (fun ad => [.ref (ad 6), .int x1, .int x2, .int x3]) M (some (.int res)) M :=
  Ct.of (by decide +kernel) (fun _ => Nat.le_of_ble_eq_true rfl) (fun X ad C Rt => w_X1_isBorne_E C Rt x1 x2 x3 hf)
set_option maxRecDepth 100000 in
set_option maxHeartbeats 4000000 in
theorem w_X1_isToldFromThoseAhead_44 {X : Gc} {ad : Nat → Nat} {res : Int32} {M : Mem} {r_2 : Int32 → Option Int32} (C : Gk X ad cX1_isToldFromThoseAhead "NineTongues$Lexicon" 5 5) (Rt : Gr X ad (some .boolean) (some (.int res)) M) (x1 : Int32) (x2 : Int32) (x3 : Int32) (h_2 : ∀ (x3 : Int32), r_2 x3 = some res → G X ad 2 5 [(0, .ref (ad 6)), (1, .int x1), (2, .int x2), (3, .int x3)] [] M) (hf : f_X1_isToldFromThoseAhead_44 M r_2 x1 x2 x3 = some res) : G X ad 44 5 [(0, .ref (ad 6)), (1, .int x1), (2, .int x2), (3, .int x3)] [] M := by
  unfold f_X1_isToldFromThoseAhead_44 at hf
  refine G.iinc (pl := 3) (v := (x3 + 1)) (lv' := [(3, .int (x3 + 1)), (0, .ref (ad 6)), (1, .int x1), (2, .int x2)]) C dX1_isToldFromThoseAhead_44 rfl rfl (by decide) rfl ?_
  refine G.goto (tgt := 2) C dX1_isToldFromThoseAhead_47 (by decide) ?_
  refine G.sub (lv' := [(0, .ref (ad 6)), (1, .int x1), (2, .int x2), (3, .int (x3 + 1))]) [1, 2, 3, 0] rfl ?_
  exact h_2 (x3 + 1)  hf
set_option maxRecDepth 100000 in
set_option maxHeartbeats 4000000 in
theorem w_X1_isToldFromThoseAhead_2_b {X : Gc} {ad : Nat → Nat} {res : Int32} {M : Mem} {r_2 : Int32 → Option Int32} (C : Gk X ad cX1_isToldFromThoseAhead "NineTongues$Lexicon" 5 5) (Rt : Gr X ad (some .boolean) (some (.int res)) M) (x1 : Int32) (x2 : Int32) (h_2 : ∀ (x3 : Int32), r_2 x3 = some res → G X ad 2 5 [(0, .ref (ad 6)), (1, .int x1), (2, .int x2), (3, .int x3)] [] M) (x3 : Int32) (hf : f_X1_isToldFromThoseAhead_2_b M r_2 x1 x2 x3 = some res) : G X ad 2 5 [(0, .ref (ad 6)), (1, .int x1), (2, .int x2), (3, .int x3)] [] M := by
  unfold f_X1_isToldFromThoseAhead_2_b at hf
  refine G.iload_n (pl := 3) C dX1_isToldFromThoseAhead_2 rfl rfl ?_
  refine G.iload_n (pl := 1) C dX1_isToldFromThoseAhead_3 rfl rfl ?_
  refine G.icmp_ge (tgt := 50) C dX1_isToldFromThoseAhead_4 (by decide) (fun hc1 => ?_) (fun hc1 => ?_)
  · replace hf := gIf hf hc1
    refine G.iconst (v := 1) C dX1_isToldFromThoseAhead_50 (by decide) ?_
    cases hf
    exact G.zret C rfl Rt dX1_isToldFromThoseAhead_51
  · replace hf := gIfn hf hc1
    refine G.aload_n (pl := 0) C dX1_isToldFromThoseAhead_7 rfl rfl ?_
    refine gf1_7 C o_6 k1_49 dX1_isToldFromThoseAhead_8 ?_
    refine G.iload_n (pl := 1) C dX1_isToldFromThoseAhead_11 rfl rfl ?_
    obtain ⟨v1, ev1, hi1, hf⟩ := rd_some hf
    refine G.iald C a_11 hi1 ev1 dX1_isToldFromThoseAhead_12 ?_
    refine G.aload_n (pl := 0) C dX1_isToldFromThoseAhead_13 rfl rfl ?_
    refine gf1_7 C o_6 k1_49 dX1_isToldFromThoseAhead_14 ?_
    refine G.iload_n (pl := 3) C dX1_isToldFromThoseAhead_17 rfl rfl ?_
    obtain ⟨v2, ev2, hi2, hf⟩ := rd_some hf
    refine G.iald C a_11 hi2 ev2 dX1_isToldFromThoseAhead_18 ?_
    refine G.ixor C dX1_isToldFromThoseAhead_19 ?_
    refine G.istore (lv' := [(4, .int (v1 ^^^ v2)), (0, .ref (ad 6)), (1, .int x1), (2, .int x2), (3, .int x3)]) C dX1_isToldFromThoseAhead_20 (by decide) rfl ?_
    refine G.iload (pl := 0) C dX1_isToldFromThoseAhead_22 rfl ?_
    refine G.if_eq (tgt := 44) C dX1_isToldFromThoseAhead_24 (by decide) (fun hc2 => ?_) (fun hc2 => ?_)
    · replace hf := gIf hf hc2
      refine G.sub (lv' := [(0, .ref (ad 6)), (1, .int x1), (2, .int x2), (3, .int x3)]) [1, 2, 3, 4] rfl ?_
      exact w_X1_isToldFromThoseAhead_44 C Rt x1 x2 x3 h_2 hf
    · replace hf := gIfn hf hc2
      refine G.iload (pl := 0) C dX1_isToldFromThoseAhead_27 rfl ?_
      refine G.iload_n (pl := 3) C dX1_isToldFromThoseAhead_29 rfl rfl ?_
      refine G.iand C dX1_isToldFromThoseAhead_30 ?_
      refine G.if_ne (tgt := 44) C dX1_isToldFromThoseAhead_31 (by decide) (fun hc3 => ?_) (fun hc3 => ?_)
      · replace hf := gIfn hf hc3
        refine G.sub (lv' := [(0, .ref (ad 6)), (1, .int x1), (2, .int x2), (3, .int x3)]) [1, 2, 3, 4] rfl ?_
        exact w_X1_isToldFromThoseAhead_44 C Rt x1 x2 x3 h_2 hf
      · replace hf := gIf hf hc3
        refine G.aload_n (pl := 1) C dX1_isToldFromThoseAhead_34 rfl rfl ?_
        refine G.iload_n (pl := 4) C dX1_isToldFromThoseAhead_35 rfl rfl ?_
        obtain ⟨v3, hr1, hf⟩ := cp_some hf
        refine G.callV (st1 := [.int v3]) C [.int x3] [] (c_X1_isWordAt hr1) mv_X1_isWordAt k3_145 o_6.1 (fun _ => gShp_11 o_6) rfl rfl rfl rfl rfl (Nat.le_of_ble_eq_true rfl) (by decide) dX1_isToldFromThoseAhead_36 rfl ?_
        refine G.if_eq (tgt := 44) C dX1_isToldFromThoseAhead_39 (by decide) (fun hc4 => ?_) (fun hc4 => ?_)
        · replace hf := gIf hf hc4
          refine G.sub (lv' := [(0, .ref (ad 6)), (1, .int x1), (2, .int x2), (3, .int x3)]) [1, 2, 3, 4] rfl ?_
          exact w_X1_isToldFromThoseAhead_44 C Rt x1 x2 x3 h_2 hf
        · replace hf := gIfn hf hc4
          refine G.iconst (v := 0) C dX1_isToldFromThoseAhead_42 (by decide) ?_
          cases hf
          exact G.zret C rfl Rt dX1_isToldFromThoseAhead_43
theorem w_X1_isToldFromThoseAhead_2 {X : Gc} {ad : Nat → Nat} {res : Int32} {M : Mem} (C : Gk X ad cX1_isToldFromThoseAhead "NineTongues$Lexicon" 5 5) (Rt : Gr X ad (some .boolean) (some (.int res)) M) (x1 : Int32) (x2 : Int32) : ∀ (n : Nat) (x3 : Int32), f_X1_isToldFromThoseAhead_2 M x1 x2 n x3 = some res → G X ad 2 5 [(0, .ref (ad 6)), (1, .int x1), (2, .int x2), (3, .int x3)] [] M := by
  intro n
  induction n with
  | zero => intro x3 hf; exact absurd (show (none : Option Int32) = some res from hf) (fun h => nomatch h)
  | succ n ih => intro x3 hf; exact w_X1_isToldFromThoseAhead_2_b C Rt x1 x2 ih x3 hf
set_option maxRecDepth 100000 in
set_option maxHeartbeats 4000000 in
theorem w_X1_isToldFromThoseAhead_E {X : Gc} {ad : Nat → Nat} {res : Int32} {M : Mem} (C : Gk X ad cX1_isToldFromThoseAhead "NineTongues$Lexicon" 5 5) (Rt : Gr X ad (some .boolean) (some (.int res)) M) (x1 : Int32) (x2 : Int32) (hf : f_X1_isToldFromThoseAhead x1 x2 M = some res) : G X ad 0 5 [(0, .ref (ad 6)), (1, .int x1), (2, .int x2)] [] M := by
  unfold f_X1_isToldFromThoseAhead at hf
  refine G.iconst (v := 0) C dX1_isToldFromThoseAhead_0 (by decide) ?_
  refine G.istore_n (lv' := [(3, .int (0 : Int32)), (0, .ref (ad 6)), (1, .int x1), (2, .int x2)]) C dX1_isToldFromThoseAhead_1 rfl (by decide) rfl ?_
  refine G.sub (lv' := [(0, .ref (ad 6)), (1, .int x1), (2, .int x2), (3, .int (0 : Int32))]) [1, 2, 3, 0] rfl ?_
  exact w_X1_isToldFromThoseAhead_2 C Rt x1 x2 FU (0 : Int32) hf
theorem mv_X1_isToldFromThoseAhead : gMV yX1_isToldFromThoseAhead cX1_isToldFromThoseAhead 5 (some .boolean) 2 := ⟨k3_152, kS_18, k1_3, k3_153, ⟨by decide +kernel, by decide +kernel, by decide +kernel⟩, by decide⟩
theorem c_X1_isToldFromThoseAhead {res : Int32} {x1 : Int32} {x2 : Int32} {M : Mem} (hf : f_X1_isToldFromThoseAhead x1 x2 M = some res) : Ct yX1_isToldFromThoseAhead cX1_isToldFromThoseAhead 5 (some .boolean) 5 (fun ad => [.ref (ad 6), .int x1, .int x2]) M (some (.int res)) M :=
  Ct.of (by decide +kernel) (fun _ => Nat.le_of_ble_eq_true rfl) (fun X ad C Rt => w_X1_isToldFromThoseAhead_E C Rt x1 x2 hf)
set_option maxRecDepth 100000 in
set_option maxHeartbeats 4000000 in
theorem w_X1_isToldApartBy_27 {X : Gc} {ad : Nat → Nat} {res : Int32} {M : Mem} {r_2 : Int32 → Option Int32} (C : Gk X ad cX1_isToldApartBy "NineTongues$Lexicon" 3 6) (Rt : Gr X ad (some .boolean) (some (.int res)) M) (x1 : Int32) (x2 : Int32) (h_2 : ∀ (x2 : Int32), r_2 x2 = some res → G X ad 2 3 [(0, .ref (ad 6)), (1, .int x1), (2, .int x2)] [] M) (hf : f_X1_isToldApartBy_27 M r_2 x1 x2 = some res) : G X ad 27 3 [(0, .ref (ad 6)), (1, .int x1), (2, .int x2)] [] M := by
  unfold f_X1_isToldApartBy_27 at hf
  refine G.iinc (pl := 2) (v := (x2 + 1)) (lv' := [(2, .int (x2 + 1)), (0, .ref (ad 6)), (1, .int x1)]) C dX1_isToldApartBy_27 rfl rfl (by decide) rfl ?_
  refine G.goto (tgt := 2) C dX1_isToldApartBy_30 (by decide) ?_
  refine G.sub (lv' := [(0, .ref (ad 6)), (1, .int x1), (2, .int (x2 + 1))]) [1, 2, 0] rfl ?_
  exact h_2 (x2 + 1)  hf
set_option maxRecDepth 100000 in
set_option maxHeartbeats 4000000 in
theorem w_X1_isToldApartBy_2_b {X : Gc} {ad : Nat → Nat} {res : Int32} {M : Mem} {r_2 : Int32 → Option Int32} (C : Gk X ad cX1_isToldApartBy "NineTongues$Lexicon" 3 6) (Rt : Gr X ad (some .boolean) (some (.int res)) M) (x1 : Int32) (h_2 : ∀ (x2 : Int32), r_2 x2 = some res → G X ad 2 3 [(0, .ref (ad 6)), (1, .int x1), (2, .int x2)] [] M) (x2 : Int32) (hf : f_X1_isToldApartBy_2_b M r_2 x1 x2 = some res) : G X ad 2 3 [(0, .ref (ad 6)), (1, .int x1), (2, .int x2)] [] M := by
  unfold f_X1_isToldApartBy_2_b at hf
  refine G.iload_n (pl := 2) C dX1_isToldApartBy_2 rfl rfl ?_
  refine G.bipush (v := 48) C dX1_isToldApartBy_3 (by decide) ?_
  refine G.icmp_ge (tgt := 33) C dX1_isToldApartBy_5 (by decide) (fun hc1 => ?_) (fun hc1 => ?_)
  · replace hf := gIf hf hc1
    refine G.iconst (v := 1) C dX1_isToldApartBy_33 (by decide) ?_
    cases hf
    exact G.zret C rfl Rt dX1_isToldApartBy_34
  · replace hf := gIfn hf hc1
    refine G.aload_n (pl := 0) C dX1_isToldApartBy_8 rfl rfl ?_
    refine G.iload_n (pl := 2) C dX1_isToldApartBy_9 rfl rfl ?_
    obtain ⟨v1, hr1, hf⟩ := cp_some hf
    refine G.callV (st1 := [.int v1]) C [.int x2] [] (c_X1_isWordAt hr1) mv_X1_isWordAt k3_145 o_6.1 (fun _ => gShp_11 o_6) rfl rfl rfl rfl rfl (Nat.le_of_ble_eq_true rfl) (by decide) dX1_isToldApartBy_10 rfl ?_
    refine G.if_eq (tgt := 27) C dX1_isToldApartBy_13 (by decide) (fun hc2 => ?_) (fun hc2 => ?_)
    · replace hf := gIf hf hc2
      exact w_X1_isToldApartBy_27 C Rt x1 x2 h_2 hf
    · replace hf := gIfn hf hc2
      refine G.aload_n (pl := 0) C dX1_isToldApartBy_16 rfl rfl ?_
      refine G.iload_n (pl := 2) C dX1_isToldApartBy_17 rfl rfl ?_
      refine G.iload_n (pl := 1) C dX1_isToldApartBy_18 rfl rfl ?_
      obtain ⟨v2, hr2, hf⟩ := cp_some hf
      refine G.callV (st1 := [.int v2]) C [.int x2, .int x1] [] (c_X1_isToldFromThoseAhead hr2) mv_X1_isToldFromThoseAhead k3_150 o_6.1 (fun _ => gShp_11 o_6) rfl rfl rfl rfl rfl (Nat.le_of_ble_eq_true rfl) (by decide) dX1_isToldApartBy_19 rfl ?_
      refine G.if_ne (tgt := 27) C dX1_isToldApartBy_22 (by decide) (fun hc3 => ?_) (fun hc3 => ?_)
      · replace hf := gIfn hf hc3
        exact w_X1_isToldApartBy_27 C Rt x1 x2 h_2 hf
      · replace hf := gIf hf hc3
        refine G.iconst (v := 0) C dX1_isToldApartBy_25 (by decide) ?_
        cases hf
        exact G.zret C rfl Rt dX1_isToldApartBy_26
theorem w_X1_isToldApartBy_2 {X : Gc} {ad : Nat → Nat} {res : Int32} {M : Mem} (C : Gk X ad cX1_isToldApartBy "NineTongues$Lexicon" 3 6) (Rt : Gr X ad (some .boolean) (some (.int res)) M) (x1 : Int32) : ∀ (n : Nat) (x2 : Int32), f_X1_isToldApartBy_2 M x1 n x2 = some res → G X ad 2 3 [(0, .ref (ad 6)), (1, .int x1), (2, .int x2)] [] M := by
  intro n
  induction n with
  | zero => intro x2 hf; exact absurd (show (none : Option Int32) = some res from hf) (fun h => nomatch h)
  | succ n ih => intro x2 hf; exact w_X1_isToldApartBy_2_b C Rt x1 ih x2 hf
set_option maxRecDepth 100000 in
set_option maxHeartbeats 4000000 in
theorem w_X1_isToldApartBy_E {X : Gc} {ad : Nat → Nat} {res : Int32} {M : Mem} (C : Gk X ad cX1_isToldApartBy "NineTongues$Lexicon" 3 6) (Rt : Gr X ad (some .boolean) (some (.int res)) M) (x1 : Int32) (hf : f_X1_isToldApartBy x1 M = some res) : G X ad 0 3 [(0, .ref (ad 6)), (1, .int x1)] [] M := by
  unfold f_X1_isToldApartBy at hf
  refine G.iconst (v := 0) C dX1_isToldApartBy_0 (by decide) ?_
  refine G.istore_n (lv' := [(2, .int (0 : Int32)), (0, .ref (ad 6)), (1, .int x1)]) C dX1_isToldApartBy_1 rfl (by decide) rfl ?_
  refine G.sub (lv' := [(0, .ref (ad 6)), (1, .int x1), (2, .int (0 : Int32))]) [1, 2, 0] rfl ?_
  exact w_X1_isToldApartBy_2 C Rt x1 FU (0 : Int32) hf
theorem mv_X1_isToldApartBy : gMV yX1_isToldApartBy cX1_isToldApartBy 3 (some .boolean) 1 := ⟨k3_142, k3_143, k1_3, k3_144, ⟨by decide +kernel, by decide +kernel, by decide +kernel⟩, by decide⟩
theorem c_X1_isToldApartBy {res : Int32} {x1 : Int32} {M : Mem} (hf : f_X1_isToldApartBy x1 M = some res) : Ct yX1_isToldApartBy cX1_isToldApartBy 3 (some .boolean) 6 (fun ad => [.ref (ad 6), .int x1]) M (some (.int res)) M :=
  Ct.of (by decide +kernel) (fun _ => Nat.le_of_ble_eq_true rfl) (fun X ad C Rt => w_X1_isToldApartBy_E C Rt x1 hf)
set_option maxRecDepth 100000 in
set_option maxHeartbeats 4000000 in
theorem w_X9_mix_E {X : Gc} {ad : Nat → Nat} {res : Int64} {M : Mem} (C : Gk X ad cX9_mix "NineTongues" 4 1) (Rt : Gr X ad (some .long) (some (.long res)) M) (x0 : Int64) (x2 : Int64) (hf : f_X9_mix x0 x2 M = some res) : G X ad 0 4 [(0, .long x0), (2, .long x2)] [] M := by
  unfold f_X9_mix at hf
  refine G.ldc2 C k4_76 dX9_mix_0 ?_
  refine G.lload_n (pl := 0) C dX9_mix_3 rfl rfl ?_
  refine G.lmul C dX9_mix_4 ?_
  refine G.lload_n (pl := 1) C dX9_mix_5 rfl rfl ?_
  refine G.ladd C dX9_mix_6 ?_
  cases hf
  exact G.lret C Rt dX9_mix_7
theorem mv_X9_mix : gMS yX9_mix cX9_mix 4 (some .long) 2 := ⟨k4_74, k1_1, k4_75, ⟨by decide +kernel, by decide +kernel, by decide +kernel⟩, by decide⟩
theorem c_X9_mix {res : Int64} {x0 : Int64} {x2 : Int64} {M : Mem} (hf : f_X9_mix x0 x2 M = some res) : Ct yX9_mix cX9_mix 4 (some .long) 1 (fun ad => [.long x0, .long x2]) M (some (.long res)) M :=
  Ct.of (by decide +kernel) (fun _ => Nat.le_of_ble_eq_true rfl) (fun X ad C Rt => w_X9_mix_E C Rt x0 x2 hf)
set_option maxRecDepth 100000 in
set_option maxHeartbeats 4000000 in
theorem w_X1_mixTongues_56_b {X : Gc} {ad : Nat → Nat} {res : Int64} {M : Mem} {r_5 : Int64 → Int32 → Option Int64} {r_56 : Int64 → Int32 → Option Int64} (C : Gk X ad cX1_mixTongues "NineTongues$Lexicon" 7 2) (Rt : Gr X ad (some .long) (some (.long res)) M) (x5 : Int32) (h_5 : ∀ (x3 : Int64) (x5 : Int32), r_5 x3 x5 = some res → G X ad 5 7 [(0, .ref (ad 6)), (3, .long x3), (5, .int x5)] [] M) (h_56 : ∀ (x3 : Int64) (x6 : Int32), r_56 x3 x6 = some res → G X ad 56 7 [(0, .ref (ad 6)), (3, .long x3), (5, .int x5), (6, .int x6)] [] M) (x3 : Int64) (x6 : Int32) (hf : f_X1_mixTongues_56_b M r_5 r_56 x5 x3 x6 = some res) : G X ad 56 7 [(0, .ref (ad 6)), (3, .long x3), (5, .int x5), (6, .int x6)] [] M := by
  unfold f_X1_mixTongues_56_b at hf
  refine G.iload (pl := 3) C dX1_mixTongues_56 rfl ?_
  refine G.iload (pl := 2) C dX1_mixTongues_58 rfl ?_
  refine G.bipush (v := 8) C dX1_mixTongues_60 (by decide) ?_
  refine G.imul C dX1_mixTongues_62 ?_
  refine G.aload_n (pl := 0) C dX1_mixTongues_63 rfl rfl ?_
  refine gf1_6 C o_6 k1_46 dX1_mixTongues_64 ?_
  refine G.iload (pl := 2) C dX1_mixTongues_67 rfl ?_
  obtain ⟨v1, ev1, hi1, hf⟩ := rd_some hf
  refine G.iald C a_10 hi1 ev1 dX1_mixTongues_69 ?_
  refine G.iadd C dX1_mixTongues_70 ?_
  refine G.icmp_ge (tgt := 115) C dX1_mixTongues_71 (by decide) (fun hc1 => ?_) (fun hc1 => ?_)
  · replace hf := gIf hf hc1
    refine G.iinc (pl := 2) (v := (x5 + 1)) (lv' := [(5, .int (x5 + 1)), (0, .ref (ad 6)), (3, .long x3), (6, .int x6)]) C dX1_mixTongues_115 rfl rfl (by decide) rfl ?_
    refine G.goto (tgt := 5) C dX1_mixTongues_118 (by decide) ?_
    refine G.sub (lv' := [(0, .ref (ad 6)), (3, .long x3), (5, .int (x5 + 1))]) [1, 2, 0] rfl ?_
    exact h_5 x3 (x5 + 1)  hf
  · replace hf := gIfn hf hc1
    refine G.lload_n (pl := 1) C dX1_mixTongues_74 rfl rfl ?_
    refine G.aload_n (pl := 0) C dX1_mixTongues_75 rfl rfl ?_
    refine gf1_7 C o_6 k1_49 dX1_mixTongues_76 ?_
    refine G.iload (pl := 3) C dX1_mixTongues_79 rfl ?_
    obtain ⟨v2, ev2, hi2, hf⟩ := rd_some hf
    refine G.iald C a_11 hi2 ev2 dX1_mixTongues_81 ?_
    refine G.i2l C dX1_mixTongues_82 ?_
    obtain ⟨v3, hr1, hf⟩ := cp_some hf
    refine G.callN (st1 := [.long v3]) C [.long x3, .long v2.toInt64] [] (c_X9_mix hr1) mv_X9_mix (List.mem_of_getElem? (i := 5) rfl) rfl rfl rfl (Nat.le_of_ble_eq_true rfl) (by decide) dX1_mixTongues_83 rfl ?_
    refine G.aload_n (pl := 0) C dX1_mixTongues_86 rfl rfl ?_
    refine gf1_8 C o_6 k1_51 dX1_mixTongues_87 ?_
    refine G.iload (pl := 3) C dX1_mixTongues_90 rfl ?_
    obtain ⟨v4, ev3, hi3, hf⟩ := rd_some hf
    refine G.iald C a_12 hi3 ev3 dX1_mixTongues_92 ?_
    refine G.i2l C dX1_mixTongues_93 ?_
    obtain ⟨v5, hr2, hf⟩ := cp_some hf
    refine G.callN (st1 := [.long v5]) C [.long v3, .long v4.toInt64] [] (c_X9_mix hr2) mv_X9_mix (List.mem_of_getElem? (i := 5) rfl) rfl rfl rfl (Nat.le_of_ble_eq_true rfl) (by decide) dX1_mixTongues_94 rfl ?_
    refine G.aload_n (pl := 0) C dX1_mixTongues_97 rfl rfl ?_
    refine gf1_9 C o_6 k1_52 dX1_mixTongues_98 ?_
    refine G.iload (pl := 3) C dX1_mixTongues_101 rfl ?_
    obtain ⟨v6, ev4, hi4, hf⟩ := rd_some hf
    refine G.iald C a_13 hi4 ev4 dX1_mixTongues_103 ?_
    refine G.i2l C dX1_mixTongues_104 ?_
    obtain ⟨v7, hr3, hf⟩ := cp_some hf
    refine G.callN (st1 := [.long v7]) C [.long v5, .long v6.toInt64] [] (c_X9_mix hr3) mv_X9_mix (List.mem_of_getElem? (i := 5) rfl) rfl rfl rfl (Nat.le_of_ble_eq_true rfl) (by decide) dX1_mixTongues_105 rfl ?_
    refine G.lstore_n (lv' := [(3, .long v7), (0, .ref (ad 6)), (5, .int x5), (6, .int x6)]) C dX1_mixTongues_108 rfl (by decide) rfl ?_
    refine G.iinc (pl := 3) (v := (x6 + 1)) (lv' := [(6, .int (x6 + 1)), (3, .long v7), (0, .ref (ad 6)), (5, .int x5)]) C dX1_mixTongues_109 rfl rfl (by decide) rfl ?_
    refine G.goto (tgt := 56) C dX1_mixTongues_112 (by decide) ?_
    refine G.sub (lv' := [(0, .ref (ad 6)), (3, .long v7), (5, .int x5), (6, .int (x6 + 1))]) [2, 1, 3, 0] rfl ?_
    exact h_56 v7 (x6 + 1)  hf
theorem w_X1_mixTongues_56 {X : Gc} {ad : Nat → Nat} {res : Int64} {M : Mem} {r_5 : Int64 → Int32 → Option Int64} (C : Gk X ad cX1_mixTongues "NineTongues$Lexicon" 7 2) (Rt : Gr X ad (some .long) (some (.long res)) M) (x5 : Int32) (h_5 : ∀ (x3 : Int64) (x5 : Int32), r_5 x3 x5 = some res → G X ad 5 7 [(0, .ref (ad 6)), (3, .long x3), (5, .int x5)] [] M) : ∀ (n : Nat) (x3 : Int64) (x6 : Int32), f_X1_mixTongues_56 M r_5 x5 n x3 x6 = some res → G X ad 56 7 [(0, .ref (ad 6)), (3, .long x3), (5, .int x5), (6, .int x6)] [] M := by
  intro n
  induction n with
  | zero => intro x3 x6 hf; exact absurd (show (none : Option Int64) = some res from hf) (fun h => nomatch h)
  | succ n ih => intro x3 x6 hf; exact w_X1_mixTongues_56_b C Rt x5 h_5 ih x3 x6 hf
set_option maxRecDepth 100000 in
set_option maxHeartbeats 4000000 in
theorem w_X1_mixTongues_5_b {X : Gc} {ad : Nat → Nat} {res : Int64} {M : Mem} {r_5 : Int64 → Int32 → Option Int64} (C : Gk X ad cX1_mixTongues "NineTongues$Lexicon" 7 2) (Rt : Gr X ad (some .long) (some (.long res)) M) (h_5 : ∀ (x3 : Int64) (x5 : Int32), r_5 x3 x5 = some res → G X ad 5 7 [(0, .ref (ad 6)), (3, .long x3), (5, .int x5)] [] M) (x3 : Int64) (x5 : Int32) (hf : f_X1_mixTongues_5_b M r_5 x3 x5 = some res) : G X ad 5 7 [(0, .ref (ad 6)), (3, .long x3), (5, .int x5)] [] M := by
  unfold f_X1_mixTongues_5_b at hf
  refine G.iload (pl := 2) C dX1_mixTongues_5 rfl ?_
  refine G.aload_n (pl := 0) C dX1_mixTongues_7 rfl rfl ?_
  refine gf1_0 C o_6 k1_36 dX1_mixTongues_8 ?_
  refine G.icmp_ge (tgt := 121) C dX1_mixTongues_11 (by decide) (fun hc1 => ?_) (fun hc1 => ?_)
  · replace hf := gIf hf hc1
    refine G.lload_n (pl := 1) C dX1_mixTongues_121 rfl rfl ?_
    refine G.aload_n (pl := 0) C dX1_mixTongues_122 rfl rfl ?_
    refine gf1_1 C o_6 k1_39 dX1_mixTongues_123 ?_
    refine G.i2l C dX1_mixTongues_126 ?_
    obtain ⟨v1, hr1, hf⟩ := cp_some hf
    refine G.callN (st1 := [.long v1]) C [.long x3, .long (M.1 6 1).toInt64] [] (c_X9_mix hr1) mv_X9_mix (List.mem_of_getElem? (i := 5) rfl) rfl rfl rfl (Nat.le_of_ble_eq_true rfl) (by decide) dX1_mixTongues_127 rfl ?_
    refine G.aload_n (pl := 0) C dX1_mixTongues_130 rfl rfl ?_
    refine gf1_2 C o_6 k1_41 dX1_mixTongues_131 ?_
    refine G.i2l C dX1_mixTongues_134 ?_
    obtain ⟨v2, hr2, hf⟩ := cp_some hf
    refine G.callN (st1 := [.long v2]) C [.long v1, .long (M.1 6 2).toInt64] [] (c_X9_mix hr2) mv_X9_mix (List.mem_of_getElem? (i := 5) rfl) rfl rfl rfl (Nat.le_of_ble_eq_true rfl) (by decide) dX1_mixTongues_135 rfl ?_
    cases hf
    exact G.lret C Rt dX1_mixTongues_138
  · replace hf := gIfn hf hc1
    refine G.lload_n (pl := 1) C dX1_mixTongues_14 rfl rfl ?_
    refine G.aload_n (pl := 0) C dX1_mixTongues_15 rfl rfl ?_
    refine gf1_3 C o_6 k1_43 dX1_mixTongues_16 ?_
    refine G.iload (pl := 2) C dX1_mixTongues_19 rfl ?_
    obtain ⟨v3, ev1, hi1, hf⟩ := rd_some hf
    refine G.iald C a_7 hi1 ev1 dX1_mixTongues_21 ?_
    refine G.i2l C dX1_mixTongues_22 ?_
    obtain ⟨v4, hr3, hf⟩ := cp_some hf
    refine G.callN (st1 := [.long v4]) C [.long x3, .long v3.toInt64] [] (c_X9_mix hr3) mv_X9_mix (List.mem_of_getElem? (i := 5) rfl) rfl rfl rfl (Nat.le_of_ble_eq_true rfl) (by decide) dX1_mixTongues_23 rfl ?_
    refine G.aload_n (pl := 0) C dX1_mixTongues_26 rfl rfl ?_
    refine gf1_4 C o_6 k1_44 dX1_mixTongues_27 ?_
    refine G.iload (pl := 2) C dX1_mixTongues_30 rfl ?_
    obtain ⟨v5, ev2, hi2, hf⟩ := rd_some hf
    refine G.iald C a_8 hi2 ev2 dX1_mixTongues_32 ?_
    refine G.i2l C dX1_mixTongues_33 ?_
    obtain ⟨v6, hr4, hf⟩ := cp_some hf
    refine G.callN (st1 := [.long v6]) C [.long v4, .long v5.toInt64] [] (c_X9_mix hr4) mv_X9_mix (List.mem_of_getElem? (i := 5) rfl) rfl rfl rfl (Nat.le_of_ble_eq_true rfl) (by decide) dX1_mixTongues_34 rfl ?_
    refine G.aload_n (pl := 0) C dX1_mixTongues_37 rfl rfl ?_
    refine gf1_5 C o_6 k1_45 dX1_mixTongues_38 ?_
    refine G.iload (pl := 2) C dX1_mixTongues_41 rfl ?_
    obtain ⟨v7, ev3, hi3, hf⟩ := rd_some hf
    refine G.iald C a_9 hi3 ev3 dX1_mixTongues_43 ?_
    refine G.i2l C dX1_mixTongues_44 ?_
    obtain ⟨v8, hr5, hf⟩ := cp_some hf
    refine G.callN (st1 := [.long v8]) C [.long v6, .long v7.toInt64] [] (c_X9_mix hr5) mv_X9_mix (List.mem_of_getElem? (i := 5) rfl) rfl rfl rfl (Nat.le_of_ble_eq_true rfl) (by decide) dX1_mixTongues_45 rfl ?_
    refine G.lstore_n (lv' := [(3, .long v8), (0, .ref (ad 6)), (5, .int x5)]) C dX1_mixTongues_48 rfl (by decide) rfl ?_
    refine G.iload (pl := 2) C dX1_mixTongues_49 rfl ?_
    refine G.bipush (v := 8) C dX1_mixTongues_51 (by decide) ?_
    refine G.imul C dX1_mixTongues_53 ?_
    refine G.istore (lv' := [(6, .int (x5 * (8 : Int32))), (3, .long v8), (0, .ref (ad 6)), (5, .int x5)]) C dX1_mixTongues_54 (by decide) rfl ?_
    refine G.sub (lv' := [(0, .ref (ad 6)), (3, .long v8), (5, .int x5), (6, .int (x5 * (8 : Int32)))]) [2, 1, 3, 0] rfl ?_
    exact w_X1_mixTongues_56 C Rt x5 h_5 FU v8 (x5 * (8 : Int32)) hf
theorem w_X1_mixTongues_5 {X : Gc} {ad : Nat → Nat} {res : Int64} {M : Mem} (C : Gk X ad cX1_mixTongues "NineTongues$Lexicon" 7 2) (Rt : Gr X ad (some .long) (some (.long res)) M) : ∀ (n : Nat) (x3 : Int64) (x5 : Int32), f_X1_mixTongues_5 M n x3 x5 = some res → G X ad 5 7 [(0, .ref (ad 6)), (3, .long x3), (5, .int x5)] [] M := by
  intro n
  induction n with
  | zero => intro x3 x5 hf; exact absurd (show (none : Option Int64) = some res from hf) (fun h => nomatch h)
  | succ n ih => intro x3 x5 hf; exact w_X1_mixTongues_5_b C Rt ih x3 x5 hf
set_option maxRecDepth 100000 in
set_option maxHeartbeats 4000000 in
theorem w_X1_mixTongues_E {X : Gc} {ad : Nat → Nat} {res : Int64} {M : Mem} (C : Gk X ad cX1_mixTongues "NineTongues$Lexicon" 7 2) (Rt : Gr X ad (some .long) (some (.long res)) M) (x1 : Int64) (hf : f_X1_mixTongues x1 M = some res) : G X ad 0 7 [(0, .ref (ad 6)), (1, .long x1)] [] M := by
  unfold f_X1_mixTongues at hf
  refine G.lload_n (pl := 1) C dX1_mixTongues_0 rfl rfl ?_
  refine G.lstore_n (lv' := [(3, .long x1), (0, .ref (ad 6)), (1, .long x1)]) C dX1_mixTongues_1 rfl (by decide) rfl ?_
  refine G.iconst (v := 0) C dX1_mixTongues_2 (by decide) ?_
  refine G.istore (lv' := [(5, .int (0 : Int32)), (3, .long x1), (0, .ref (ad 6)), (1, .long x1)]) C dX1_mixTongues_3 (by decide) rfl ?_
  refine G.sub (lv' := [(0, .ref (ad 6)), (3, .long x1), (5, .int (0 : Int32))]) [2, 1, 0] rfl ?_
  exact w_X1_mixTongues_5 C Rt FU x1 (0 : Int32) hf
theorem mv_X1_mixTongues : gMV yX1_mixTongues cX1_mixTongues 7 (some .long) 1 := ⟨k4_78, k4_79, k1_3, k4_80, ⟨by decide +kernel, by decide +kernel, by decide +kernel⟩, by decide⟩
theorem c_X1_mixTongues {res : Int64} {x1 : Int64} {M : Mem} (hf : f_X1_mixTongues x1 M = some res) : Ct yX1_mixTongues cX1_mixTongues 7 (some .long) 2 (fun ad => [.ref (ad 6), .long x1]) M (some (.long res)) M :=
  Ct.of (by decide +kernel) (fun _ => Nat.le_of_ble_eq_true rfl) (fun X ad C Rt => w_X1_mixTongues_E C Rt x1 hf)
set_option maxRecDepth 100000 in
set_option maxHeartbeats 4000000 in
theorem w_X2_copyFrom_E {X : Gc} {ad : Nat → Nat} {res : (Unit × Mem)} {k0 k1 : Nat} (hk0 : gIs 12 k0) (hk1 : gIs 12 k1) (C : Gk X ad cX2_copyFrom "NineTongues$Pairs" 2 1) (Rt : Gr X ad none none res.2) (M : Mem) (hf : f_X2_copyFrom k0 k1 M = some res) : G X ad 0 2 [(0, .ref (ad k0)), (1, .ref (ad k1))] [] M := by
  unfold f_X2_copyFrom at hf
  refine G.aload_n (pl := 0) C dX2_copyFrom_0 rfl rfl ?_
  refine G.aload_n (pl := 1) C dX2_copyFrom_1 rfl rfl ?_
  refine gf2_0 C hk1 k1_157 dX2_copyFrom_2 ?_
  obtain ⟨M1, eM1, hf⟩ := stm_some hf
  refine gp2_0 C hk0 k1_157 eM1 dX2_copyFrom_5 ?_
  refine G.aload_n (pl := 1) C dX2_copyFrom_8 rfl rfl ?_
  refine gf2_1 C hk1 k1_161 dX2_copyFrom_9 ?_
  refine G.iconst (v := 0) C dX2_copyFrom_12 (by decide) ?_
  refine G.aload_n (pl := 0) C dX2_copyFrom_13 rfl rfl ?_
  refine gf2_1 C hk0 k1_161 dX2_copyFrom_14 ?_
  refine G.iconst (v := 0) C dX2_copyFrom_17 (by decide) ?_
  refine G.bipush (v := 24) C dX2_copyFrom_18 (by decide) ?_
  obtain ⟨M2, eM2, hf⟩ := stm_some hf
  refine G.copyi C (gx12_1 hk1) (gx12_1 hk0) k4_41 k3_11 k3_10 k1_15 (by decide) (by decide) (by decide) (by decide) (by decide) (Nat.le_of_ble_eq_true rfl) (by decide) eM2 dX2_copyFrom_20 ?_
  refine G.aload_n (pl := 1) C dX2_copyFrom_23 rfl rfl ?_
  refine gf2_2 C hk1 k1_163 dX2_copyFrom_24 ?_
  refine G.iconst (v := 0) C dX2_copyFrom_27 (by decide) ?_
  refine G.aload_n (pl := 0) C dX2_copyFrom_28 rfl rfl ?_
  refine gf2_2 C hk0 k1_163 dX2_copyFrom_29 ?_
  refine G.iconst (v := 0) C dX2_copyFrom_32 (by decide) ?_
  refine G.bipush (v := 24) C dX2_copyFrom_33 (by decide) ?_
  obtain ⟨M3, eM3, hf⟩ := stm_some hf
  refine G.copyi C (gx12_2 hk1) (gx12_2 hk0) k4_41 k3_11 k3_10 k1_15 (by decide) (by decide) (by decide) (by decide) (by decide) (Nat.le_of_ble_eq_true rfl) (by decide) eM3 dX2_copyFrom_35 ?_
  cases hf
  exact G.vret C Rt dX2_copyFrom_38
theorem mv_X2_copyFrom : gMV yX2_copyFrom cX2_copyFrom 2 none 1 := ⟨k4_38, k4_39, k1_8, k4_40, ⟨by decide +kernel, by decide +kernel, by decide +kernel⟩, by decide⟩
theorem c_X2_copyFrom {res : (Unit × Mem)} {k0 k1 : Nat} {M : Mem} (hk0 : gIs 12 k0) (hk1 : gIs 12 k1) (hf : f_X2_copyFrom k0 k1 M = some res) : Ct yX2_copyFrom cX2_copyFrom 2 none 1 (fun ad => [.ref (ad k0), .ref (ad k1)]) M none res.2 :=
  Ct.of (by decide +kernel) (fun _ => Nat.le_of_ble_eq_true rfl) (fun X ad C Rt => w_X2_copyFrom_E hk0 hk1 C Rt M hf)
set_option maxRecDepth 100000 in
set_option maxHeartbeats 4000000 in
theorem w_X2_behind_E {X : Gc} {ad : Nat → Nat} {res : Int32} {M : Mem} (C : Gk X ad cX2_behind "NineTongues$Pairs" 3 1) (Rt : Gr X ad (some .int) (some (.int res)) M) (x1 : Int32) (x2 : Int32) (hf : f_X2_behind x1 x2 M = some res) : G X ad 0 3 [(0, .ref (ad 23)), (1, .int x1), (2, .int x2)] [] M := by
  unfold f_X2_behind at hf
  refine G.aload_n (pl := 0) C dX2_behind_0 rfl rfl ?_
  refine gf2_1 C o_23 k1_161 dX2_behind_1 ?_
  refine G.iload_n (pl := 1) C dX2_behind_4 rfl rfl ?_
  obtain ⟨v1, ev1, hi1, hf⟩ := rd_some hf
  refine G.iald C a_24 hi1 ev1 dX2_behind_5 ?_
  refine G.iload_n (pl := 2) C dX2_behind_6 rfl rfl ?_
  refine G.icmp_ne (tgt := 17) C dX2_behind_7 (by decide) (fun hc1 => ?_) (fun hc1 => ?_)
  · replace hf := gIfn hf hc1
    refine G.aload_n (pl := 0) C dX2_behind_17 rfl rfl ?_
    refine gf2_2 C o_23 k1_163 dX2_behind_18 ?_
    refine G.iload_n (pl := 1) C dX2_behind_21 rfl rfl ?_
    obtain ⟨v2, ev2, hi2, hf⟩ := rd_some hf
    refine G.iald C a_25 hi2 ev2 dX2_behind_22 ?_
    refine G.iload_n (pl := 2) C dX2_behind_23 rfl rfl ?_
    refine G.icmp_ne (tgt := 36) C dX2_behind_24 (by decide) (fun hc2 => ?_) (fun hc2 => ?_)
    · replace hf := gIfn hf hc2
      refine G.iconst (v := (-1)) C dX2_behind_36 (by decide) ?_
      cases hf
      exact G.iret C Rt dX2_behind_37
    · replace hf := gIf hf hc2
      refine G.aload_n (pl := 0) C dX2_behind_27 rfl rfl ?_
      refine gf2_1 C o_23 k1_161 dX2_behind_28 ?_
      refine G.iload_n (pl := 1) C dX2_behind_31 rfl rfl ?_
      obtain ⟨v3, ev3, hi3, hf⟩ := rd_some hf
      refine G.iald C a_24 hi3 ev3 dX2_behind_32 ?_
      refine G.goto (tgt := 37) C dX2_behind_33 (by decide) ?_
      cases hf
      exact G.iret C Rt dX2_behind_37
  · replace hf := gIf hf hc1
    refine G.aload_n (pl := 0) C dX2_behind_10 rfl rfl ?_
    refine gf2_2 C o_23 k1_163 dX2_behind_11 ?_
    refine G.iload_n (pl := 1) C dX2_behind_14 rfl rfl ?_
    obtain ⟨v4, ev4, hi4, hf⟩ := rd_some hf
    refine G.iald C a_25 hi4 ev4 dX2_behind_15 ?_
    cases hf
    exact G.iret C Rt dX2_behind_16
theorem mv_X2_behind : gMV yX2_behind cX2_behind 3 (some .int) 2 := ⟨k3_191, k3_192, k1_8, k3_193, ⟨by decide +kernel, by decide +kernel, by decide +kernel⟩, by decide⟩
theorem c_X2_behind {res : Int32} {x1 : Int32} {x2 : Int32} {M : Mem} (hf : f_X2_behind x1 x2 M = some res) : Ct yX2_behind cX2_behind 3 (some .int) 1 (fun ad => [.ref (ad 23), .int x1, .int x2]) M (some (.int res)) M :=
  Ct.of (by decide +kernel) (fun _ => Nat.le_of_ble_eq_true rfl) (fun X ad C Rt => w_X2_behind_E C Rt x1 x2 hf)
set_option maxRecDepth 100000 in
set_option maxHeartbeats 4000000 in
theorem w_X2_has_2_b {X : Gc} {ad : Nat → Nat} {res : Int32} {M : Mem} {r_2 : Int32 → Option Int32} (C : Gk X ad cX2_has "NineTongues$Pairs" 4 2) (Rt : Gr X ad (some .boolean) (some (.int res)) M) (x1 : Int32) (x2 : Int32) (h_2 : ∀ (x3 : Int32), r_2 x3 = some res → G X ad 2 4 [(0, .ref (ad 23)), (1, .int x1), (2, .int x2), (3, .int x3)] [] M) (x3 : Int32) (hf : f_X2_has_2_b M r_2 x1 x2 x3 = some res) : G X ad 2 4 [(0, .ref (ad 23)), (1, .int x1), (2, .int x2), (3, .int x3)] [] M := by
  unfold f_X2_has_2_b at hf
  refine G.iload_n (pl := 3) C dX2_has_2 rfl rfl ?_
  refine G.aload_n (pl := 0) C dX2_has_3 rfl rfl ?_
  refine gf2_0 C o_23 k1_157 dX2_has_4 ?_
  refine G.icmp_ge (tgt := 28) C dX2_has_7 (by decide) (fun hc1 => ?_) (fun hc1 => ?_)
  · replace hf := gIf hf hc1
    refine G.iconst (v := 0) C dX2_has_28 (by decide) ?_
    cases hf
    exact G.zret C rfl Rt dX2_has_29
  · replace hf := gIfn hf hc1
    refine G.aload_n (pl := 0) C dX2_has_10 rfl rfl ?_
    refine G.iload_n (pl := 3) C dX2_has_11 rfl rfl ?_
    refine G.iload_n (pl := 1) C dX2_has_12 rfl rfl ?_
    obtain ⟨v1, hr1, hf⟩ := cp_some hf
    refine G.callV (st1 := [.int v1]) C [.int x3, .int x1] [] (c_X2_behind hr1) mv_X2_behind k3_190 o_23.1 (fun _ => gShp_12 o_23) rfl rfl rfl rfl rfl (Nat.le_of_ble_eq_true rfl) (by decide) dX2_has_13 rfl ?_
    refine G.iload_n (pl := 2) C dX2_has_16 rfl rfl ?_
    refine G.icmp_ne (tgt := 22) C dX2_has_17 (by decide) (fun hc2 => ?_) (fun hc2 => ?_)
    · replace hf := gIfn hf hc2
      refine G.iinc (pl := 3) (v := (x3 + 1)) (lv' := [(3, .int (x3 + 1)), (0, .ref (ad 23)), (1, .int x1), (2, .int x2)]) C dX2_has_22 rfl rfl (by decide) rfl ?_
      refine G.goto (tgt := 2) C dX2_has_25 (by decide) ?_
      refine G.sub (lv' := [(0, .ref (ad 23)), (1, .int x1), (2, .int x2), (3, .int (x3 + 1))]) [1, 2, 3, 0] rfl ?_
      exact h_2 (x3 + 1)  hf
    · replace hf := gIf hf hc2
      refine G.iconst (v := 1) C dX2_has_20 (by decide) ?_
      cases hf
      exact G.zret C rfl Rt dX2_has_21
theorem w_X2_has_2 {X : Gc} {ad : Nat → Nat} {res : Int32} {M : Mem} (C : Gk X ad cX2_has "NineTongues$Pairs" 4 2) (Rt : Gr X ad (some .boolean) (some (.int res)) M) (x1 : Int32) (x2 : Int32) : ∀ (n : Nat) (x3 : Int32), f_X2_has_2 M x1 x2 n x3 = some res → G X ad 2 4 [(0, .ref (ad 23)), (1, .int x1), (2, .int x2), (3, .int x3)] [] M := by
  intro n
  induction n with
  | zero => intro x3 hf; exact absurd (show (none : Option Int32) = some res from hf) (fun h => nomatch h)
  | succ n ih => intro x3 hf; exact w_X2_has_2_b C Rt x1 x2 ih x3 hf
set_option maxRecDepth 100000 in
set_option maxHeartbeats 4000000 in
theorem w_X2_has_E {X : Gc} {ad : Nat → Nat} {res : Int32} {M : Mem} (C : Gk X ad cX2_has "NineTongues$Pairs" 4 2) (Rt : Gr X ad (some .boolean) (some (.int res)) M) (x1 : Int32) (x2 : Int32) (hf : f_X2_has x1 x2 M = some res) : G X ad 0 4 [(0, .ref (ad 23)), (1, .int x1), (2, .int x2)] [] M := by
  unfold f_X2_has at hf
  refine G.iconst (v := 0) C dX2_has_0 (by decide) ?_
  refine G.istore_n (lv' := [(3, .int (0 : Int32)), (0, .ref (ad 23)), (1, .int x1), (2, .int x2)]) C dX2_has_1 rfl (by decide) rfl ?_
  refine G.sub (lv' := [(0, .ref (ad 23)), (1, .int x1), (2, .int x2), (3, .int (0 : Int32))]) [1, 2, 3, 0] rfl ?_
  exact w_X2_has_2 C Rt x1 x2 FU (0 : Int32) hf
theorem mv_X2_has : gMV yX2_has cX2_has 4 (some .boolean) 2 := ⟨k3_187, k3_188, k1_8, k3_189, ⟨by decide +kernel, by decide +kernel, by decide +kernel⟩, by decide⟩
theorem c_X2_has {res : Int32} {x1 : Int32} {x2 : Int32} {M : Mem} (hf : f_X2_has x1 x2 M = some res) : Ct yX2_has cX2_has 4 (some .boolean) 2 (fun ad => [.ref (ad 23), .int x1, .int x2]) M (some (.int res)) M :=
  Ct.of (by decide +kernel) (fun _ => Nat.le_of_ble_eq_true rfl) (fun X ad C Rt => w_X2_has_E C Rt x1 x2 hf)
set_option maxRecDepth 100000 in
set_option maxHeartbeats 4000000 in
theorem w_X2_add_E {X : Gc} {ad : Nat → Nat} {res : (Int32 × Mem)} (C : Gk X ad cX2_add "NineTongues$Pairs" 3 1) (Rt : Gr X ad (some .int) (some (.int res.1)) res.2) (x1 : Int32) (x2 : Int32) (M : Mem) (hf : f_X2_add x1 x2 M = some res) : G X ad 0 3 [(0, .ref (ad 23)), (1, .int x1), (2, .int x2)] [] M := by
  unfold f_X2_add at hf
  refine G.aload_n (pl := 0) C dX2_add_0 rfl rfl ?_
  refine gf2_1 C o_23 k1_161 dX2_add_1 ?_
  refine G.aload_n (pl := 0) C dX2_add_4 rfl rfl ?_
  refine gf2_0 C o_23 k1_157 dX2_add_5 ?_
  refine G.iload_n (pl := 1) C dX2_add_8 rfl rfl ?_
  obtain ⟨hi1, hf⟩ := ck_some hf
  obtain ⟨M1, eM1, hf⟩ := stm_some hf
  refine G.iast C a_24 hi1 eM1 dX2_add_9 ?_
  refine G.aload_n (pl := 0) C dX2_add_10 rfl rfl ?_
  refine gf2_2 C o_23 k1_163 dX2_add_11 ?_
  refine G.aload_n (pl := 0) C dX2_add_14 rfl rfl ?_
  refine gf2_0 C o_23 k1_157 dX2_add_15 ?_
  refine G.iload_n (pl := 2) C dX2_add_18 rfl rfl ?_
  obtain ⟨hi2, hf⟩ := ck_some hf
  obtain ⟨M2, eM2, hf⟩ := stm_some hf
  refine G.iast C a_25 hi2 eM2 dX2_add_19 ?_
  refine G.aload_n (pl := 0) C dX2_add_20 rfl rfl ?_
  refine G.dup C dX2_add_21 rfl ?_
  refine gf2_0 C o_23 k1_157 dX2_add_22 ?_
  refine G.iconst (v := 1) C dX2_add_25 (by decide) ?_
  refine G.iadd C dX2_add_26 ?_
  obtain ⟨M3, eM3, hf⟩ := stm_some hf
  refine gp2_0 C o_23 k1_157 eM3 dX2_add_27 ?_
  refine G.aload_n (pl := 0) C dX2_add_30 rfl rfl ?_
  refine gf2_0 C o_23 k1_157 dX2_add_31 ?_
  refine G.iconst (v := 1) C dX2_add_34 (by decide) ?_
  refine G.isub C dX2_add_35 ?_
  cases hf
  exact G.iret C Rt dX2_add_36
theorem mv_X2_add : gMV yX2_add cX2_add 3 (some .int) 2 := ⟨k3_195, k3_196, k1_8, k3_197, ⟨by decide +kernel, by decide +kernel, by decide +kernel⟩, by decide⟩
theorem c_X2_add {res : (Int32 × Mem)} {x1 : Int32} {x2 : Int32} {M : Mem} (hf : f_X2_add x1 x2 M = some res) : Ct yX2_add cX2_add 3 (some .int) 1 (fun ad => [.ref (ad 23), .int x1, .int x2]) M (some (.int res.1)) res.2 :=
  Ct.of (by decide +kernel) (fun _ => Nat.le_of_ble_eq_true rfl) (fun X ad C Rt => w_X2_add_E C Rt x1 x2 M hf)
set_option maxRecDepth 100000 in
set_option maxHeartbeats 4000000 in
theorem w_X2_mixPairs_5_b {X : Gc} {ad : Nat → Nat} {res : Int64} {M : Mem} {r_5 : Int64 → Int32 → Option Int64} (C : Gk X ad cX2_mixPairs "NineTongues$Pairs" 6 2) (Rt : Gr X ad (some .long) (some (.long res)) M) (h_5 : ∀ (x3 : Int64) (x5 : Int32), r_5 x3 x5 = some res → G X ad 5 6 [(0, .ref (ad 23)), (3, .long x3), (5, .int x5)] [] M) (x3 : Int64) (x5 : Int32) (hf : f_X2_mixPairs_5_b M r_5 x3 x5 = some res) : G X ad 5 6 [(0, .ref (ad 23)), (3, .long x3), (5, .int x5)] [] M := by
  unfold f_X2_mixPairs_5_b at hf
  refine G.iload (pl := 2) C dX2_mixPairs_5 rfl ?_
  refine G.aload_n (pl := 0) C dX2_mixPairs_7 rfl rfl ?_
  refine gf2_0 C o_23 k1_157 dX2_mixPairs_8 ?_
  refine G.icmp_ge (tgt := 80) C dX2_mixPairs_11 (by decide) (fun hc1 => ?_) (fun hc1 => ?_)
  · replace hf := gIf hf hc1
    refine G.lload_n (pl := 1) C dX2_mixPairs_80 rfl rfl ?_
    cases hf
    exact G.lret C Rt dX2_mixPairs_81
  · replace hf := gIfn hf hc1
    refine G.lload_n (pl := 1) C dX2_mixPairs_14 rfl rfl ?_
    refine G.aload_n (pl := 0) C dX2_mixPairs_15 rfl rfl ?_
    refine gf2_1 C o_23 k1_161 dX2_mixPairs_16 ?_
    refine G.iload (pl := 2) C dX2_mixPairs_19 rfl ?_
    obtain ⟨v1, ev1, hi1, hf⟩ := rd_some hf
    refine G.iald C a_24 hi1 ev1 dX2_mixPairs_21 ?_
    refine G.bipush (v := 8) C dX2_mixPairs_22 (by decide) ?_
    refine G.idiv C (by decide) dX2_mixPairs_24 ?_
    refine G.i2l C dX2_mixPairs_25 ?_
    obtain ⟨v2, hr1, hf⟩ := cp_some hf
    refine G.callN (st1 := [.long v2]) C [.long x3, .long (v1 / (8 : Int32)).toInt64] [] (c_X9_mix hr1) mv_X9_mix (List.mem_of_getElem? (i := 7) rfl) rfl rfl rfl (Nat.le_of_ble_eq_true rfl) (by decide) dX2_mixPairs_26 rfl ?_
    refine G.aload_n (pl := 0) C dX2_mixPairs_29 rfl rfl ?_
    refine gf2_1 C o_23 k1_161 dX2_mixPairs_30 ?_
    refine G.iload (pl := 2) C dX2_mixPairs_33 rfl ?_
    obtain ⟨v3, ev2, hi2, hf⟩ := rd_some hf
    refine G.iald C a_24 hi2 ev2 dX2_mixPairs_35 ?_
    refine G.bipush (v := 8) C dX2_mixPairs_36 (by decide) ?_
    refine G.irem C (by decide) dX2_mixPairs_38 ?_
    refine G.i2l C dX2_mixPairs_39 ?_
    obtain ⟨v4, hr2, hf⟩ := cp_some hf
    refine G.callN (st1 := [.long v4]) C [.long v2, .long (v3 % (8 : Int32)).toInt64] [] (c_X9_mix hr2) mv_X9_mix (List.mem_of_getElem? (i := 7) rfl) rfl rfl rfl (Nat.le_of_ble_eq_true rfl) (by decide) dX2_mixPairs_40 rfl ?_
    refine G.lstore_n (lv' := [(3, .long v4), (0, .ref (ad 23)), (5, .int x5)]) C dX2_mixPairs_43 rfl (by decide) rfl ?_
    refine G.lload_n (pl := 0) C dX2_mixPairs_44 rfl rfl ?_
    refine G.aload_n (pl := 1) C dX2_mixPairs_45 rfl rfl ?_
    refine gf2_2 C o_23 k1_163 dX2_mixPairs_46 ?_
    refine G.iload (pl := 2) C dX2_mixPairs_49 rfl ?_
    obtain ⟨v5, ev3, hi3, hf⟩ := rd_some hf
    refine G.iald C a_25 hi3 ev3 dX2_mixPairs_51 ?_
    refine G.bipush (v := 8) C dX2_mixPairs_52 (by decide) ?_
    refine G.idiv C (by decide) dX2_mixPairs_54 ?_
    refine G.i2l C dX2_mixPairs_55 ?_
    obtain ⟨v6, hr3, hf⟩ := cp_some hf
    refine G.callN (st1 := [.long v6]) C [.long v4, .long (v5 / (8 : Int32)).toInt64] [] (c_X9_mix hr3) mv_X9_mix (List.mem_of_getElem? (i := 7) rfl) rfl rfl rfl (Nat.le_of_ble_eq_true rfl) (by decide) dX2_mixPairs_56 rfl ?_
    refine G.aload_n (pl := 1) C dX2_mixPairs_59 rfl rfl ?_
    refine gf2_2 C o_23 k1_163 dX2_mixPairs_60 ?_
    refine G.iload (pl := 2) C dX2_mixPairs_63 rfl ?_
    obtain ⟨v7, ev4, hi4, hf⟩ := rd_some hf
    refine G.iald C a_25 hi4 ev4 dX2_mixPairs_65 ?_
    refine G.bipush (v := 8) C dX2_mixPairs_66 (by decide) ?_
    refine G.irem C (by decide) dX2_mixPairs_68 ?_
    refine G.i2l C dX2_mixPairs_69 ?_
    obtain ⟨v8, hr4, hf⟩ := cp_some hf
    refine G.callN (st1 := [.long v8]) C [.long v6, .long (v7 % (8 : Int32)).toInt64] [] (c_X9_mix hr4) mv_X9_mix (List.mem_of_getElem? (i := 7) rfl) rfl rfl rfl (Nat.le_of_ble_eq_true rfl) (by decide) dX2_mixPairs_70 rfl ?_
    refine G.lstore_n (lv' := [(3, .long v8), (0, .ref (ad 23)), (5, .int x5)]) C dX2_mixPairs_73 rfl (by decide) rfl ?_
    refine G.iinc (pl := 2) (v := (x5 + 1)) (lv' := [(5, .int (x5 + 1)), (3, .long v8), (0, .ref (ad 23))]) C dX2_mixPairs_74 rfl rfl (by decide) rfl ?_
    refine G.goto (tgt := 5) C dX2_mixPairs_77 (by decide) ?_
    refine G.sub (lv' := [(0, .ref (ad 23)), (3, .long v8), (5, .int (x5 + 1))]) [2, 1, 0] rfl ?_
    exact h_5 v8 (x5 + 1)  hf
theorem w_X2_mixPairs_5 {X : Gc} {ad : Nat → Nat} {res : Int64} {M : Mem} (C : Gk X ad cX2_mixPairs "NineTongues$Pairs" 6 2) (Rt : Gr X ad (some .long) (some (.long res)) M) : ∀ (n : Nat) (x3 : Int64) (x5 : Int32), f_X2_mixPairs_5 M n x3 x5 = some res → G X ad 5 6 [(0, .ref (ad 23)), (3, .long x3), (5, .int x5)] [] M := by
  intro n
  induction n with
  | zero => intro x3 x5 hf; exact absurd (show (none : Option Int64) = some res from hf) (fun h => nomatch h)
  | succ n ih => intro x3 x5 hf; exact w_X2_mixPairs_5_b C Rt ih x3 x5 hf
set_option maxRecDepth 100000 in
set_option maxHeartbeats 4000000 in
theorem w_X2_mixPairs_E {X : Gc} {ad : Nat → Nat} {res : Int64} {M : Mem} (C : Gk X ad cX2_mixPairs "NineTongues$Pairs" 6 2) (Rt : Gr X ad (some .long) (some (.long res)) M) (x1 : Int64) (hf : f_X2_mixPairs x1 M = some res) : G X ad 0 6 [(0, .ref (ad 23)), (1, .long x1)] [] M := by
  unfold f_X2_mixPairs at hf
  refine G.lload_n (pl := 1) C dX2_mixPairs_0 rfl rfl ?_
  refine G.lstore_n (lv' := [(3, .long x1), (0, .ref (ad 23)), (1, .long x1)]) C dX2_mixPairs_1 rfl (by decide) rfl ?_
  refine G.iconst (v := 0) C dX2_mixPairs_2 (by decide) ?_
  refine G.istore (lv' := [(5, .int (0 : Int32)), (3, .long x1), (0, .ref (ad 23)), (1, .long x1)]) C dX2_mixPairs_3 (by decide) rfl ?_
  refine G.sub (lv' := [(0, .ref (ad 23)), (3, .long x1), (5, .int (0 : Int32))]) [2, 1, 0] rfl ?_
  exact w_X2_mixPairs_5 C Rt FU x1 (0 : Int32) hf
theorem mv_X2_mixPairs : gMV yX2_mixPairs cX2_mixPairs 6 (some .long) 1 := ⟨k4_87, k4_88, k1_8, k4_89, ⟨by decide +kernel, by decide +kernel, by decide +kernel⟩, by decide⟩
theorem c_X2_mixPairs {res : Int64} {x1 : Int64} {M : Mem} (hf : f_X2_mixPairs x1 M = some res) : Ct yX2_mixPairs cX2_mixPairs 6 (some .long) 2 (fun ad => [.ref (ad 23), .long x1]) M (some (.long res)) M :=
  Ct.of (by decide +kernel) (fun _ => Nat.le_of_ble_eq_true rfl) (fun X ad C Rt => w_X2_mixPairs_E C Rt x1 hf)
set_option maxRecDepth 100000 in
set_option maxHeartbeats 4000000 in
theorem w_X3_copyFrom_E {X : Gc} {ad : Nat → Nat} {res : (Unit × Mem)} {k0 k1 : Nat} (hk0 : gIs 13 k0) (hk1 : gIs 13 k1) (C : Gk X ad cX3_copyFrom "NineTongues$Path" 2 1) (Rt : Gr X ad none none res.2) (M : Mem) (hf : f_X3_copyFrom k0 k1 M = some res) : G X ad 0 2 [(0, .ref (ad k0)), (1, .ref (ad k1))] [] M := by
  unfold f_X3_copyFrom at hf
  refine G.aload_n (pl := 0) C dX3_copyFrom_0 rfl rfl ?_
  refine G.aload_n (pl := 1) C dX3_copyFrom_1 rfl rfl ?_
  refine gf3_0 C hk1 k1_121 dX3_copyFrom_2 ?_
  obtain ⟨M1, eM1, hf⟩ := stm_some hf
  refine gp3_0 C hk0 k1_121 eM1 dX3_copyFrom_5 ?_
  refine G.aload_n (pl := 1) C dX3_copyFrom_8 rfl rfl ?_
  refine gf3_1 C hk1 k1_125 dX3_copyFrom_9 ?_
  refine G.iconst (v := 0) C dX3_copyFrom_12 (by decide) ?_
  refine G.aload_n (pl := 0) C dX3_copyFrom_13 rfl rfl ?_
  refine gf3_1 C hk0 k1_125 dX3_copyFrom_14 ?_
  refine G.iconst (v := 0) C dX3_copyFrom_17 (by decide) ?_
  refine G.bipush (v := 60) C dX3_copyFrom_18 (by decide) ?_
  obtain ⟨M2, eM2, hf⟩ := stm_some hf
  refine G.copyi C (gx13_1 hk1) (gx13_1 hk0) k4_31 k3_11 k3_10 k1_15 (by decide) (by decide) (by decide) (by decide) (by decide) (Nat.le_of_ble_eq_true rfl) (by decide) eM2 dX3_copyFrom_20 ?_
  cases hf
  exact G.vret C Rt dX3_copyFrom_23
theorem mv_X3_copyFrom : gMV yX3_copyFrom cX3_copyFrom 2 none 1 := ⟨k4_28, k4_29, k1_6, k4_30, ⟨by decide +kernel, by decide +kernel, by decide +kernel⟩, by decide⟩
theorem c_X3_copyFrom {res : (Unit × Mem)} {k0 k1 : Nat} {M : Mem} (hk0 : gIs 13 k0) (hk1 : gIs 13 k1) (hf : f_X3_copyFrom k0 k1 M = some res) : Ct yX3_copyFrom cX3_copyFrom 2 none 1 (fun ad => [.ref (ad k0), .ref (ad k1)]) M none res.2 :=
  Ct.of (by decide +kernel) (fun _ => Nat.le_of_ble_eq_true rfl) (fun X ad C Rt => w_X3_copyFrom_E hk0 hk1 C Rt M hf)
set_option maxRecDepth 100000 in
set_option maxHeartbeats 4000000 in
theorem w_X3_add_5_b {X : Gc} {ad : Nat → Nat} {res : (Unit × Mem)} {r_5 : Int32 → Mem → Option (Unit × Mem)} (C : Gk X ad cX3_add "NineTongues$Path" 5 1) (Rt : Gr X ad none none res.2) (x1 : Int64) (h_5 : ∀ (x4 : Int32) (M : Mem), r_5 x4 M = some res → G X ad 5 5 [(0, .ref (ad 18)), (1, .long x1), (4, .int x4)] [] M) (x4 : Int32) (M : Mem) (hf : f_X3_add_5_b r_5 x1 x4 M = some res) : G X ad 5 5 [(0, .ref (ad 18)), (1, .long x1), (4, .int x4)] [] M := by
  unfold f_X3_add_5_b at hf
  refine G.iload (pl := 2) C dX3_add_5 rfl ?_
  refine G.if_lt (tgt := 56) C dX3_add_7 (by decide) (fun hc1 => ?_) (fun hc1 => ?_)
  · replace hf := gIf hf hc1
    cases hf
    exact G.vret C Rt dX3_add_56
  · replace hf := gIfn hf hc1
    refine G.aload_n (pl := 0) C dX3_add_10 rfl rfl ?_
    refine gf3_0 C o_18 k1_121 dX3_add_11 ?_
    refine G.bipush (v := 60) C dX3_add_14 (by decide) ?_
    refine G.icmp_ge (tgt := 56) C dX3_add_16 (by decide) (fun hc2 => ?_) (fun hc2 => ?_)
    · replace hf := gIf hf hc2
      cases hf
      exact G.vret C Rt dX3_add_56
    · replace hf := gIfn hf hc2
      refine G.aload_n (pl := 0) C dX3_add_19 rfl rfl ?_
      refine gf3_1 C o_18 k1_125 dX3_add_20 ?_
      refine G.aload_n (pl := 0) C dX3_add_23 rfl rfl ?_
      refine gf3_0 C o_18 k1_121 dX3_add_24 ?_
      refine G.lload_n (pl := 1) C dX3_add_27 rfl rfl ?_
      refine G.bipush (v := 8) C dX3_add_28 (by decide) ?_
      refine G.iload (pl := 2) C dX3_add_30 rfl ?_
      refine G.imul C dX3_add_32 ?_
      refine G.lushr C dX3_add_33 ?_
      refine G.ldc2 C k2_171 dX3_add_34 ?_
      refine G.land C dX3_add_37 ?_
      refine G.l2i C dX3_add_38 ?_
      obtain ⟨hi1, hf⟩ := ck_some hf
      obtain ⟨M1, eM1, hf⟩ := stm_some hf
      refine G.iast C a_19 hi1 eM1 dX3_add_39 ?_
      refine G.aload_n (pl := 0) C dX3_add_40 rfl rfl ?_
      refine G.dup C dX3_add_41 rfl ?_
      refine gf3_0 C o_18 k1_121 dX3_add_42 ?_
      refine G.iconst (v := 1) C dX3_add_45 (by decide) ?_
      refine G.iadd C dX3_add_46 ?_
      obtain ⟨M2, eM2, hf⟩ := stm_some hf
      refine gp3_0 C o_18 k1_121 eM2 dX3_add_47 ?_
      refine G.iinc (pl := 2) (v := (x4 + (-1))) (lv' := [(4, .int (x4 + (-1))), (0, .ref (ad 18)), (1, .long x1)]) C dX3_add_50 rfl rfl (by decide) rfl ?_
      refine G.goto (tgt := 5) C dX3_add_53 (by decide) ?_
      refine G.sub (lv' := [(0, .ref (ad 18)), (1, .long x1), (4, .int (x4 + (-1)))]) [1, 2, 0] rfl ?_
      exact h_5 (x4 + (-1)) M2 hf
theorem w_X3_add_5 {X : Gc} {ad : Nat → Nat} {res : (Unit × Mem)} (C : Gk X ad cX3_add "NineTongues$Path" 5 1) (Rt : Gr X ad none none res.2) (x1 : Int64) : ∀ (n : Nat) (x4 : Int32) (M : Mem), f_X3_add_5 x1 n x4 M = some res → G X ad 5 5 [(0, .ref (ad 18)), (1, .long x1), (4, .int x4)] [] M := by
  intro n
  induction n with
  | zero => intro x4 M hf; exact absurd (show (none : Option (Unit × Mem)) = some res from hf) (fun h => nomatch h)
  | succ n ih => intro x4 M hf; exact w_X3_add_5_b C Rt x1 ih x4 M hf
set_option maxRecDepth 100000 in
set_option maxHeartbeats 4000000 in
theorem w_X3_add_E {X : Gc} {ad : Nat → Nat} {res : (Unit × Mem)} (C : Gk X ad cX3_add "NineTongues$Path" 5 1) (Rt : Gr X ad none none res.2) (x1 : Int64) (x3 : Int32) (M : Mem) (hf : f_X3_add x1 x3 M = some res) : G X ad 0 5 [(0, .ref (ad 18)), (1, .long x1), (3, .int x3)] [] M := by
  unfold f_X3_add at hf
  refine G.iload_n (pl := 2) C dX3_add_0 rfl rfl ?_
  refine G.iconst (v := 1) C dX3_add_1 (by decide) ?_
  refine G.isub C dX3_add_2 ?_
  refine G.istore (lv' := [(4, .int (x3 - (1 : Int32))), (0, .ref (ad 18)), (1, .long x1), (3, .int x3)]) C dX3_add_3 (by decide) rfl ?_
  refine G.sub (lv' := [(0, .ref (ad 18)), (1, .long x1), (4, .int (x3 - (1 : Int32)))]) [1, 2, 0] rfl ?_
  exact w_X3_add_5 C Rt x1 FU (x3 - (1 : Int32)) M hf
theorem mv_X3_add : gMV yX3_add cX3_add 5 none 2 := ⟨k2_168, k2_169, k1_6, k2_170, ⟨by decide +kernel, by decide +kernel, by decide +kernel⟩, by decide⟩
theorem c_X3_add {res : (Unit × Mem)} {x1 : Int64} {x3 : Int32} {M : Mem} (hf : f_X3_add x1 x3 M = some res) : Ct yX3_add cX3_add 5 none 1 (fun ad => [.ref (ad 18), .long x1, .int x3]) M none res.2 :=
  Ct.of (by decide +kernel) (fun _ => Nat.le_of_ble_eq_true rfl) (fun X ad C Rt => w_X3_add_E C Rt x1 x3 M hf)
set_option maxRecDepth 100000 in
set_option maxHeartbeats 4000000 in
theorem w_J7_fill_53178_5_b {X : Gc} {ad : Nat → Nat} {res : (Unit × Mem)} {q0 n0 : Nat} {r_5 : Int32 → Mem → Option (Unit × Mem)} (hq0 : gArr n0 q0) (C : Gk X ad cJ7_fill_53178 "java/util/Arrays" 4 1) (Rt : Gr X ad none none res.2) (x1 : Int32) (x3 : Int32) (h_5 : ∀ (x2 : Int32) (M : Mem), r_5 x2 M = some res → G X ad 5 4 [(0, .ref (ad q0)), (1, .int x1), (2, .int x2), (3, .int x3)] [] M) (x2 : Int32) (M : Mem) (hf : f_J7_fill_53178_5_b q0 n0 r_5 x1 x3 x2 M = some res) : G X ad 5 4 [(0, .ref (ad q0)), (1, .int x1), (2, .int x2), (3, .int x3)] [] M := by
  unfold f_J7_fill_53178_5_b at hf
  refine G.iload_n (pl := 2) C dJ7_fill_53178_5 rfl rfl ?_
  refine G.iload_n (pl := 3) C dJ7_fill_53178_6 rfl rfl ?_
  refine G.icmp_ge (tgt := 20) C dJ7_fill_53178_7 (by decide) (fun hc1 => ?_) (fun hc1 => ?_)
  · replace hf := gIf hf hc1
    cases hf
    exact G.vret C Rt dJ7_fill_53178_20
  · replace hf := gIfn hf hc1
    refine G.aload_n (pl := 0) C dJ7_fill_53178_10 rfl rfl ?_
    refine G.iload_n (pl := 2) C dJ7_fill_53178_11 rfl rfl ?_
    refine G.iload_n (pl := 1) C dJ7_fill_53178_12 rfl rfl ?_
    obtain ⟨hi1, hf⟩ := ck_some hf
    obtain ⟨M1, eM1, hf⟩ := stm_some hf
    refine G.iast C hq0 hi1 eM1 dJ7_fill_53178_13 ?_
    refine G.iinc (pl := 2) (v := (x2 + 1)) (lv' := [(2, .int (x2 + 1)), (0, .ref (ad q0)), (1, .int x1), (3, .int x3)]) C dJ7_fill_53178_14 rfl rfl (by decide) rfl ?_
    refine G.goto (tgt := 5) C dJ7_fill_53178_17 (by decide) ?_
    refine G.sub (lv' := [(0, .ref (ad q0)), (1, .int x1), (2, .int (x2 + 1)), (3, .int x3)]) [1, 2, 0, 3] rfl ?_
    exact h_5 (x2 + 1) M1 hf
theorem w_J7_fill_53178_5 {X : Gc} {ad : Nat → Nat} {res : (Unit × Mem)} {q0 n0 : Nat} (hq0 : gArr n0 q0) (C : Gk X ad cJ7_fill_53178 "java/util/Arrays" 4 1) (Rt : Gr X ad none none res.2) (x1 : Int32) (x3 : Int32) : ∀ (n : Nat) (x2 : Int32) (M : Mem), f_J7_fill_53178_5 q0 n0 x1 x3 n x2 M = some res → G X ad 5 4 [(0, .ref (ad q0)), (1, .int x1), (2, .int x2), (3, .int x3)] [] M := by
  intro n
  induction n with
  | zero => intro x2 M hf; exact absurd (show (none : Option (Unit × Mem)) = some res from hf) (fun h => nomatch h)
  | succ n ih => intro x2 M hf; exact w_J7_fill_53178_5_b hq0 C Rt x1 x3 ih x2 M hf
set_option maxRecDepth 100000 in
set_option maxHeartbeats 4000000 in
theorem w_J7_fill_53178_E {X : Gc} {ad : Nat → Nat} {res : (Unit × Mem)} {q0 n0 : Nat} (hq0 : gArr n0 q0) (C : Gk X ad cJ7_fill_53178 "java/util/Arrays" 4 1) (Rt : Gr X ad none none res.2) (x1 : Int32) (M : Mem) (hf : f_J7_fill_53178 q0 n0 x1 M = some res) : G X ad 0 4 [(0, .ref (ad q0)), (1, .int x1)] [] M := by
  unfold f_J7_fill_53178 at hf
  refine G.iconst (v := 0) C dJ7_fill_53178_0 (by decide) ?_
  refine G.istore_n (lv' := [(2, .int (0 : Int32)), (0, .ref (ad q0)), (1, .int x1)]) C dJ7_fill_53178_1 rfl (by decide) rfl ?_
  refine G.aload_n (pl := 1) C dJ7_fill_53178_2 rfl rfl ?_
  refine G.alen (v := (Int32.ofNat n0)) C hq0 rfl dJ7_fill_53178_3 ?_
  refine G.istore_n (lv' := [(3, .int (Int32.ofNat n0)), (2, .int (0 : Int32)), (0, .ref (ad q0)), (1, .int x1)]) C dJ7_fill_53178_4 rfl (by decide) rfl ?_
  refine G.sub (lv' := [(0, .ref (ad q0)), (1, .int x1), (2, .int (0 : Int32)), (3, .int (Int32.ofNat n0))]) [2, 3, 1, 0] rfl ?_
  exact w_J7_fill_53178_5 hq0 C Rt x1 (Int32.ofNat n0) FU (0 : Int32) M hf
theorem mv_J7_fill_53178 : gMS yJ7_fill_53178 cJ7_fill_53178 4 none 2 := ⟨k1_86, k1_5, k1_87, ⟨by decide +kernel, by decide +kernel, by decide +kernel⟩, by decide⟩
theorem c_J7_fill_53178 {res : (Unit × Mem)} {q0 n0 : Nat} {x1 : Int32} {M : Mem} (hq0 : gArr n0 q0) (hf : f_J7_fill_53178 q0 n0 x1 M = some res) : Ct yJ7_fill_53178 cJ7_fill_53178 4 none 1 (fun ad => [.ref (ad q0), .int x1]) M none res.2 :=
  Ct.of (by decide +kernel) (fun _ => Nat.le_of_ble_eq_true rfl) (fun X ad C Rt => w_J7_fill_53178_E hq0 C Rt x1 M hf)
set_option maxRecDepth 100000 in
set_option maxHeartbeats 4000000 in
theorem w_X4_addTo_26 {X : Gc} {ad : Nat → Nat} {res : (Unit × Mem)} (C : Gk X ad cX4_addTo "NineTongues$Rings" 3 1) (Rt : Gr X ad none none res.2) (t3 : Int32) (t2 : Int32) (t1 : Int32) (M : Mem) (hf : f_X4_addTo_26 t3 t2 t1 M = some res) : G X ad 26 3 [] [.int t3, .int t2, .int t1, .ref (ad 98)] M := by
  unfold f_X4_addTo_26 at hf
  refine G.iadd C dX4_addTo_26 ?_
  obtain ⟨hi1, hf⟩ := ck_some hf
  obtain ⟨M1, eM1, hf⟩ := stm_some hf
  refine G.iast C a_98 hi1 eM1 dX4_addTo_27 ?_
  cases hf
  exact G.vret C Rt dX4_addTo_28
set_option maxRecDepth 100000 in
set_option maxHeartbeats 4000000 in
theorem w_X4_addTo_E {X : Gc} {ad : Nat → Nat} {res : (Unit × Mem)} (C : Gk X ad cX4_addTo "NineTongues$Rings" 3 1) (Rt : Gr X ad none none res.2) (x1 : Int32) (x2 : Int32) (M : Mem) (hf : f_X4_addTo x1 x2 M = some res) : G X ad 0 3 [(0, .ref (ad 96)), (1, .int x1), (2, .int x2)] [] M := by
  unfold f_X4_addTo at hf
  refine G.aload_n (pl := 0) C dX4_addTo_0 rfl rfl ?_
  refine gf4_2 C o_96 k2_25 dX4_addTo_1 ?_
  refine G.iload_n (pl := 1) C dX4_addTo_4 rfl rfl ?_
  refine G.dup2 C dX4_addTo_5 rfl rfl ?_
  obtain ⟨v1, ev1, hi1, hf⟩ := rd_some hf
  refine G.iald C a_97 hi1 ev1 dX4_addTo_6 ?_
  refine G.iconst (v := 1) C dX4_addTo_7 (by decide) ?_
  refine G.iadd C dX4_addTo_8 ?_
  obtain ⟨hi2, hf⟩ := ck_some hf
  obtain ⟨M1, eM1, hf⟩ := stm_some hf
  refine G.iast C a_97 hi2 eM1 dX4_addTo_9 ?_
  refine G.aload_n (pl := 0) C dX4_addTo_10 rfl rfl ?_
  refine gf4_3 C o_96 k2_27 dX4_addTo_11 ?_
  refine G.iload_n (pl := 1) C dX4_addTo_14 rfl rfl ?_
  refine G.dup2 C dX4_addTo_15 rfl rfl ?_
  obtain ⟨v2, ev2, hi3, hf⟩ := rd_some hf
  refine G.iald C a_98 hi3 ev2 dX4_addTo_16 ?_
  refine G.iload_n (pl := 2) C dX4_addTo_17 rfl rfl ?_
  refine G.if_eq (tgt := 25) C dX4_addTo_18 (by decide) (fun hc1 => ?_) (fun hc1 => ?_)
  · replace hf := gIf hf hc1
    refine G.iconst (v := 0) C dX4_addTo_25 (by decide) ?_
    refine G.sub (lv' := []) [] rfl ?_
    exact w_X4_addTo_26 C Rt (0 : Int32) v2 x1 M1 hf
  · replace hf := gIfn hf hc1
    refine G.iconst (v := 1) C dX4_addTo_21 (by decide) ?_
    refine G.goto (tgt := 26) C dX4_addTo_22 (by decide) ?_
    refine G.sub (lv' := []) [] rfl ?_
    exact w_X4_addTo_26 C Rt (1 : Int32) v2 x1 M1 hf
theorem mv_X4_addTo : gMV yX4_addTo cX4_addTo 3 none 2 := ⟨k3_218, kS_22, k1_11, k3_219, ⟨by decide +kernel, by decide +kernel, by decide +kernel⟩, by decide⟩
theorem c_X4_addTo {res : (Unit × Mem)} {x1 : Int32} {x2 : Int32} {M : Mem} (hf : f_X4_addTo x1 x2 M = some res) : Ct yX4_addTo cX4_addTo 3 none 1 (fun ad => [.ref (ad 96), .int x1, .int x2]) M none res.2 :=
  Ct.of (by decide +kernel) (fun _ => Nat.le_of_ble_eq_true rfl) (fun X ad C Rt => w_X4_addTo_E C Rt x1 x2 M hf)
set_option maxRecDepth 100000 in
set_option maxHeartbeats 4000000 in
theorem w_X4_close_124 {X : Gc} {ad : Nat → Nat} {res : (Unit × Mem)} {r_3 : Int32 → Mem → Option (Unit × Mem)} (C : Gk X ad cX4_close "NineTongues$Rings" 8 2) (Rt : Gr X ad none none res.2) (x2 : Int32) (x3 : Int32) (x4 : Int32) (x5 : Int32) (x6 : Int32) (M : Mem) (h_3 : ∀ (x6 : Int32) (M : Mem), r_3 x6 M = some res → G X ad 3 8 [(0, .ref (ad 96)), (1, .ref (ad 23)), (2, .int x2), (3, .int x3), (4, .int x4), (5, .int x5), (6, .int x6)] [] M) (hf : f_X4_close_124 r_3 x2 x3 x4 x5 x6 M = some res) : G X ad 124 8 [(0, .ref (ad 96)), (1, .ref (ad 23)), (2, .int x2), (3, .int x3), (4, .int x4), (5, .int x5), (6, .int x6)] [] M := by
  unfold f_X4_close_124 at hf
  refine G.iinc (pl := 6) (v := (x6 + 1)) (lv' := [(6, .int (x6 + 1)), (0, .ref (ad 96)), (1, .ref (ad 23)), (2, .int x2), (3, .int x3), (4, .int x4), (5, .int x5)]) C dX4_close_124 rfl rfl (by decide) rfl ?_
  refine G.goto (tgt := 3) C dX4_close_127 (by decide) ?_
  refine G.sub (lv' := [(0, .ref (ad 96)), (1, .ref (ad 23)), (2, .int x2), (3, .int x3), (4, .int x4), (5, .int x5), (6, .int (x6 + 1))]) [1, 2, 3, 4, 5, 6, 0] rfl ?_
  exact h_3 (x6 + 1) M hf
set_option maxRecDepth 100000 in
set_option maxHeartbeats 4000000 in
theorem w_X4_close_121 {X : Gc} {ad : Nat → Nat} {res : (Unit × Mem)} {r_3 : Int32 → Mem → Option (Unit × Mem)} (C : Gk X ad cX4_close "NineTongues$Rings" 8 2) (Rt : Gr X ad none none res.2) (x2 : Int32) (x3 : Int32) (x4 : Int32) (x5 : Int32) (x6 : Int32) (t2 : Int32) (t1 : Int32) (M : Mem) (h_3 : ∀ (x6 : Int32) (M : Mem), r_3 x6 M = some res → G X ad 3 8 [(0, .ref (ad 96)), (1, .ref (ad 23)), (2, .int x2), (3, .int x3), (4, .int x4), (5, .int x5), (6, .int x6)] [] M) (hf : f_X4_close_121 r_3 x2 x3 x4 x5 x6 t2 t1 M = some res) : G X ad 121 8 [(0, .ref (ad 96)), (1, .ref (ad 23)), (2, .int x2), (3, .int x3), (4, .int x4), (5, .int x5), (6, .int x6)] [.int t2, .int t1, .ref (ad 96)] M := by
  unfold f_X4_close_121 at hf
  obtain ⟨u, M1, hr1, hf⟩ := cl_some hf
  refine G.callV (st1 := []) C [.int t1, .int t2] [] (c_X4_addTo hr1) mv_X4_addTo k3_216 o_96.1 (fun _ => gShp_14 o_96) rfl rfl rfl rfl rfl (Nat.le_of_ble_eq_true rfl) (by decide) dX4_close_121 rfl ?_
  exact w_X4_close_124 C Rt x2 x3 x4 x5 x6 M1 h_3 hf
set_option maxRecDepth 100000 in
set_option maxHeartbeats 4000000 in
theorem w_X4_close_103 {X : Gc} {ad : Nat → Nat} {res : (Unit × Mem)} {r_3 : Int32 → Mem → Option (Unit × Mem)} (C : Gk X ad cX4_close "NineTongues$Rings" 8 2) (Rt : Gr X ad none none res.2) (x2 : Int32) (x3 : Int32) (x4 : Int32) (x5 : Int32) (x6 : Int32) (x7 : Int32) (t2 : Int32) (t1 : Int32) (M : Mem) (h_3 : ∀ (x6 : Int32) (M : Mem), r_3 x6 M = some res → G X ad 3 8 [(0, .ref (ad 96)), (1, .ref (ad 23)), (2, .int x2), (3, .int x3), (4, .int x4), (5, .int x5), (6, .int x6)] [] M) (hf : f_X4_close_103 r_3 x2 x3 x4 x5 x6 x7 t2 t1 M = some res) : G X ad 103 8 [(0, .ref (ad 96)), (1, .ref (ad 23)), (2, .int x2), (3, .int x3), (4, .int x4), (5, .int x5), (6, .int x6), (7, .int x7)] [.int t2, .int t1, .ref (ad 96)] M := by
  unfold f_X4_close_103 at hf
  obtain ⟨u, M1, hr1, hf⟩ := cl_some hf
  refine G.callV (st1 := []) C [.int t1, .int t2] [] (c_X4_addTo hr1) mv_X4_addTo k3_216 o_96.1 (fun _ => gShp_14 o_96) rfl rfl rfl rfl rfl (Nat.le_of_ble_eq_true rfl) (by decide) dX4_close_103 rfl ?_
  refine G.aload_n (pl := 0) C dX4_close_106 rfl rfl ?_
  refine G.iload (pl := 6) C dX4_close_107 rfl ?_
  refine G.iload (pl := 7) C dX4_close_109 rfl ?_
  refine G.iload (pl := 5) C dX4_close_111 rfl ?_
  refine G.icmp_eq (tgt := 120) C dX4_close_113 (by decide) (fun hc1 => ?_) (fun hc1 => ?_)
  · replace hf := gIf hf hc1
    refine G.iconst (v := 0) C dX4_close_120 (by decide) ?_
    refine G.sub (lv' := [(0, .ref (ad 96)), (1, .ref (ad 23)), (2, .int x2), (3, .int x3), (4, .int x4), (5, .int x5), (6, .int x6)]) [0, 1, 2, 3, 4, 5, 6] rfl ?_
    exact w_X4_close_121 C Rt x2 x3 x4 x5 x6 (0 : Int32) x6 M1 h_3 hf
  · replace hf := gIfn hf hc1
    refine G.iconst (v := 1) C dX4_close_116 (by decide) ?_
    refine G.goto (tgt := 121) C dX4_close_117 (by decide) ?_
    refine G.sub (lv' := [(0, .ref (ad 96)), (1, .ref (ad 23)), (2, .int x2), (3, .int x3), (4, .int x4), (5, .int x5), (6, .int x6)]) [0, 1, 2, 3, 4, 5, 6] rfl ?_
    exact w_X4_close_121 C Rt x2 x3 x4 x5 x6 (1 : Int32) x6 M1 h_3 hf
set_option maxRecDepth 100000 in
set_option maxHeartbeats 4000000 in
theorem w_X4_close_86 {X : Gc} {ad : Nat → Nat} {res : (Unit × Mem)} {r_3 : Int32 → Mem → Option (Unit × Mem)} (C : Gk X ad cX4_close "NineTongues$Rings" 8 2) (Rt : Gr X ad none none res.2) (x2 : Int32) (x3 : Int32) (x4 : Int32) (x5 : Int32) (x6 : Int32) (x7 : Int32) (t2 : Int32) (t1 : Int32) (M : Mem) (h_3 : ∀ (x6 : Int32) (M : Mem), r_3 x6 M = some res → G X ad 3 8 [(0, .ref (ad 96)), (1, .ref (ad 23)), (2, .int x2), (3, .int x3), (4, .int x4), (5, .int x5), (6, .int x6)] [] M) (hf : f_X4_close_86 r_3 x2 x3 x4 x5 x6 x7 t2 t1 M = some res) : G X ad 86 8 [(0, .ref (ad 96)), (1, .ref (ad 23)), (2, .int x2), (3, .int x3), (4, .int x4), (5, .int x5), (6, .int x6), (7, .int x7)] [.int t2, .int t1, .ref (ad 96)] M := by
  unfold f_X4_close_86 at hf
  obtain ⟨u, M1, hr1, hf⟩ := cl_some hf
  refine G.callV (st1 := []) C [.int t1, .int t2] [] (c_X4_addTo hr1) mv_X4_addTo k3_216 o_96.1 (fun _ => gShp_14 o_96) rfl rfl rfl rfl rfl (Nat.le_of_ble_eq_true rfl) (by decide) dX4_close_86 rfl ?_
  refine G.aload_n (pl := 0) C dX4_close_89 rfl rfl ?_
  refine G.iload_n (pl := 3) C dX4_close_90 rfl rfl ?_
  refine G.iload (pl := 7) C dX4_close_91 rfl ?_
  refine G.iload (pl := 5) C dX4_close_93 rfl ?_
  refine G.icmp_eq (tgt := 102) C dX4_close_95 (by decide) (fun hc1 => ?_) (fun hc1 => ?_)
  · replace hf := gIf hf hc1
    refine G.iconst (v := 0) C dX4_close_102 (by decide) ?_
    exact w_X4_close_103 C Rt x2 x3 x4 x5 x6 x7 (0 : Int32) x3 M1 h_3 hf
  · replace hf := gIfn hf hc1
    refine G.iconst (v := 1) C dX4_close_98 (by decide) ?_
    refine G.goto (tgt := 103) C dX4_close_99 (by decide) ?_
    exact w_X4_close_103 C Rt x2 x3 x4 x5 x6 x7 (1 : Int32) x3 M1 h_3 hf
set_option maxRecDepth 100000 in
set_option maxHeartbeats 4000000 in
theorem w_X4_close_68 {X : Gc} {ad : Nat → Nat} {res : (Unit × Mem)} {r_3 : Int32 → Mem → Option (Unit × Mem)} (C : Gk X ad cX4_close "NineTongues$Rings" 8 2) (Rt : Gr X ad none none res.2) (x2 : Int32) (x3 : Int32) (x4 : Int32) (x5 : Int32) (x6 : Int32) (x7 : Int32) (t2 : Int32) (t1 : Int32) (M : Mem) (h_3 : ∀ (x6 : Int32) (M : Mem), r_3 x6 M = some res → G X ad 3 8 [(0, .ref (ad 96)), (1, .ref (ad 23)), (2, .int x2), (3, .int x3), (4, .int x4), (5, .int x5), (6, .int x6)] [] M) (hf : f_X4_close_68 r_3 x2 x3 x4 x5 x6 x7 t2 t1 M = some res) : G X ad 68 8 [(0, .ref (ad 96)), (1, .ref (ad 23)), (2, .int x2), (3, .int x3), (4, .int x4), (5, .int x5), (6, .int x6), (7, .int x7)] [.int t2, .int t1, .ref (ad 96)] M := by
  unfold f_X4_close_68 at hf
  refine G.iadd C dX4_close_68 ?_
  obtain ⟨M1, eM1, hf⟩ := stm_some hf
  refine gp4_1 C o_96 k2_23 eM1 dX4_close_69 ?_
  refine G.aload_n (pl := 0) C dX4_close_72 rfl rfl ?_
  refine G.iload_n (pl := 2) C dX4_close_73 rfl rfl ?_
  refine G.iload (pl := 7) C dX4_close_74 rfl ?_
  refine G.iload (pl := 5) C dX4_close_76 rfl ?_
  refine G.icmp_eq (tgt := 85) C dX4_close_78 (by decide) (fun hc1 => ?_) (fun hc1 => ?_)
  · replace hf := gIf hf hc1
    refine G.iconst (v := 0) C dX4_close_85 (by decide) ?_
    exact w_X4_close_86 C Rt x2 x3 x4 x5 x6 x7 (0 : Int32) x2 M1 h_3 hf
  · replace hf := gIfn hf hc1
    refine G.iconst (v := 1) C dX4_close_81 (by decide) ?_
    refine G.goto (tgt := 86) C dX4_close_82 (by decide) ?_
    exact w_X4_close_86 C Rt x2 x3 x4 x5 x6 x7 (1 : Int32) x2 M1 h_3 hf
set_option maxRecDepth 100000 in
set_option maxHeartbeats 4000000 in
theorem w_X4_close_3_b {X : Gc} {ad : Nat → Nat} {res : (Unit × Mem)} {r_3 : Int32 → Mem → Option (Unit × Mem)} (C : Gk X ad cX4_close "NineTongues$Rings" 8 2) (Rt : Gr X ad none none res.2) (x2 : Int32) (x3 : Int32) (x4 : Int32) (x5 : Int32) (h_3 : ∀ (x6 : Int32) (M : Mem), r_3 x6 M = some res → G X ad 3 8 [(0, .ref (ad 96)), (1, .ref (ad 23)), (2, .int x2), (3, .int x3), (4, .int x4), (5, .int x5), (6, .int x6)] [] M) (x6 : Int32) (M : Mem) (hf : f_X4_close_3_b r_3 x2 x3 x4 x5 x6 M = some res) : G X ad 3 8 [(0, .ref (ad 96)), (1, .ref (ad 23)), (2, .int x2), (3, .int x3), (4, .int x4), (5, .int x5), (6, .int x6)] [] M := by
  unfold f_X4_close_3_b at hf
  refine G.iload (pl := 6) C dX4_close_3 rfl ?_
  refine G.aload_n (pl := 1) C dX4_close_5 rfl rfl ?_
  refine gf2_0 C o_23 k1_158 dX4_close_6 ?_
  refine G.icmp_ge (tgt := 130) C dX4_close_9 (by decide) (fun hc1 => ?_) (fun hc1 => ?_)
  · replace hf := gIf hf hc1
    cases hf
    exact G.vret C Rt dX4_close_130
  · replace hf := gIfn hf hc1
    refine G.aload_n (pl := 1) C dX4_close_12 rfl rfl ?_
    refine G.iload (pl := 6) C dX4_close_13 rfl ?_
    refine G.iload (pl := 4) C dX4_close_15 rfl ?_
    obtain ⟨v1, hr1, hf⟩ := cp_some hf
    refine G.callV (st1 := [.int v1]) C [.int x6, .int x4] [] (c_X2_behind hr1) mv_X2_behind k3_211 o_23.1 (fun _ => gShp_12 o_23) rfl rfl rfl rfl rfl (Nat.le_of_ble_eq_true rfl) (by decide) dX4_close_17 rfl ?_
    refine G.istore (lv' := [(7, .int v1), (0, .ref (ad 96)), (1, .ref (ad 23)), (2, .int x2), (3, .int x3), (4, .int x4), (5, .int x5), (6, .int x6)]) C dX4_close_20 (by decide) rfl ?_
    refine G.iload (pl := 0) C dX4_close_22 rfl ?_
    refine G.iconst (v := (-1)) C dX4_close_24 (by decide) ?_
    refine G.icmp_eq (tgt := 124) C dX4_close_25 (by decide) (fun hc2 => ?_) (fun hc2 => ?_)
    · replace hf := gIf hf hc2
      refine G.sub (lv' := [(0, .ref (ad 96)), (1, .ref (ad 23)), (2, .int x2), (3, .int x3), (4, .int x4), (5, .int x5), (6, .int x6)]) [1, 2, 3, 4, 5, 6, 7] rfl ?_
      exact w_X4_close_124 C Rt x2 x3 x4 x5 x6 M h_3 hf
    · replace hf := gIfn hf hc2
      refine G.iload (pl := 0) C dX4_close_28 rfl ?_
      refine G.bipush (v := 8) C dX4_close_30 (by decide) ?_
      refine G.idiv C (by decide) dX4_close_32 ?_
      refine G.iload (pl := 6) C dX4_close_33 rfl ?_
      refine G.bipush (v := 8) C dX4_close_35 (by decide) ?_
      refine G.idiv C (by decide) dX4_close_37 ?_
      refine G.icmp_ne (tgt := 124) C dX4_close_38 (by decide) (fun hc3 => ?_) (fun hc3 => ?_)
      · replace hf := gIfn hf hc3
        refine G.sub (lv' := [(0, .ref (ad 96)), (1, .ref (ad 23)), (2, .int x2), (3, .int x3), (4, .int x4), (5, .int x5), (6, .int x6)]) [1, 2, 3, 4, 5, 6, 7] rfl ?_
        exact w_X4_close_124 C Rt x2 x3 x4 x5 x6 M h_3 hf
      · replace hf := gIf hf hc3
        refine G.aload_n (pl := 1) C dX4_close_41 rfl rfl ?_
        refine G.dup C dX4_close_42 rfl ?_
        refine gf4_0 C o_96 k2_21 dX4_close_43 ?_
        refine G.iconst (v := 1) C dX4_close_46 (by decide) ?_
        refine G.iadd C dX4_close_47 ?_
        obtain ⟨M1, eM1, hf⟩ := stm_some hf
        refine gp4_0 C o_96 k2_21 eM1 dX4_close_48 ?_
        refine G.aload_n (pl := 1) C dX4_close_51 rfl rfl ?_
        refine G.dup C dX4_close_52 rfl ?_
        refine gf4_1 C o_96 k2_23 dX4_close_53 ?_
        refine G.iload (pl := 0) C dX4_close_56 rfl ?_
        refine G.iload (pl := 6) C dX4_close_58 rfl ?_
        refine G.icmp_ne (tgt := 67) C dX4_close_60 (by decide) (fun hc4 => ?_) (fun hc4 => ?_)
        · replace hf := gIfn hf hc4
          refine G.iconst (v := 0) C dX4_close_67 (by decide) ?_
          refine G.sub (lv' := [(0, .ref (ad 96)), (1, .ref (ad 23)), (2, .int x2), (3, .int x3), (4, .int x4), (5, .int x5), (6, .int x6), (7, .int v1)]) [1, 2, 3, 4, 5, 6, 7, 0] rfl ?_
          exact w_X4_close_68 C Rt x2 x3 x4 x5 x6 v1 (0 : Int32) (M1.1 96 1) M1 h_3 hf
        · replace hf := gIf hf hc4
          refine G.iconst (v := 1) C dX4_close_63 (by decide) ?_
          refine G.goto (tgt := 68) C dX4_close_64 (by decide) ?_
          refine G.sub (lv' := [(0, .ref (ad 96)), (1, .ref (ad 23)), (2, .int x2), (3, .int x3), (4, .int x4), (5, .int x5), (6, .int x6), (7, .int v1)]) [1, 2, 3, 4, 5, 6, 7, 0] rfl ?_
          exact w_X4_close_68 C Rt x2 x3 x4 x5 x6 v1 (1 : Int32) (M1.1 96 1) M1 h_3 hf
theorem w_X4_close_3 {X : Gc} {ad : Nat → Nat} {res : (Unit × Mem)} (C : Gk X ad cX4_close "NineTongues$Rings" 8 2) (Rt : Gr X ad none none res.2) (x2 : Int32) (x3 : Int32) (x4 : Int32) (x5 : Int32) : ∀ (n : Nat) (x6 : Int32) (M : Mem), f_X4_close_3 x2 x3 x4 x5 n x6 M = some res → G X ad 3 8 [(0, .ref (ad 96)), (1, .ref (ad 23)), (2, .int x2), (3, .int x3), (4, .int x4), (5, .int x5), (6, .int x6)] [] M := by
  intro n
  induction n with
  | zero => intro x6 M hf; exact absurd (show (none : Option (Unit × Mem)) = some res from hf) (fun h => nomatch h)
  | succ n ih => intro x6 M hf; exact w_X4_close_3_b C Rt x2 x3 x4 x5 ih x6 M hf
set_option maxRecDepth 100000 in
set_option maxHeartbeats 4000000 in
theorem w_X4_close_E {X : Gc} {ad : Nat → Nat} {res : (Unit × Mem)} (C : Gk X ad cX4_close "NineTongues$Rings" 8 2) (Rt : Gr X ad none none res.2) (x2 : Int32) (x3 : Int32) (x4 : Int32) (x5 : Int32) (M : Mem) (hf : f_X4_close x2 x3 x4 x5 M = some res) : G X ad 0 8 [(0, .ref (ad 96)), (1, .ref (ad 23)), (2, .int x2), (3, .int x3), (4, .int x4), (5, .int x5)] [] M := by
  unfold f_X4_close at hf
  refine G.iconst (v := 0) C dX4_close_0 (by decide) ?_
  refine G.istore (lv' := [(6, .int (0 : Int32)), (0, .ref (ad 96)), (1, .ref (ad 23)), (2, .int x2), (3, .int x3), (4, .int x4), (5, .int x5)]) C dX4_close_1 (by decide) rfl ?_
  refine G.sub (lv' := [(0, .ref (ad 96)), (1, .ref (ad 23)), (2, .int x2), (3, .int x3), (4, .int x4), (5, .int x5), (6, .int (0 : Int32))]) [1, 2, 3, 4, 5, 6, 0] rfl ?_
  exact w_X4_close_3 C Rt x2 x3 x4 x5 FU (0 : Int32) M hf
theorem mv_X4_close : gMV yX4_close cX4_close 8 none 5 := ⟨k3_214, kS_21, k1_11, k3_215, ⟨by decide +kernel, by decide +kernel, by decide +kernel⟩, by decide⟩
theorem c_X4_close {res : (Unit × Mem)} {x2 : Int32} {x3 : Int32} {x4 : Int32} {x5 : Int32} {M : Mem} (hf : f_X4_close x2 x3 x4 x5 M = some res) : Ct yX4_close cX4_close 8 none 2 (fun ad => [.ref (ad 96), .ref (ad 23), .int x2, .int x3, .int x4, .int x5]) M none res.2 :=
  Ct.of (by decide +kernel) (fun _ => Nat.le_of_ble_eq_true rfl) (fun X ad C Rt => w_X4_close_E C Rt x2 x3 x4 x5 M hf)
set_option maxRecDepth 100000 in
set_option maxHeartbeats 4000000 in
theorem w_X4_find_120 {X : Gc} {ad : Nat → Nat} {res : (Unit × Mem)} {r_72 : Int32 → Mem → Option (Unit × Mem)} (C : Gk X ad cX4_find "NineTongues$Rings" 7 3) (Rt : Gr X ad none none res.2) (x2 : Int32) (x3 : Int32) (x4 : Int32) (x5 : Int32) (M : Mem) (h_72 : ∀ (x5 : Int32) (M : Mem), r_72 x5 M = some res → G X ad 72 7 [(0, .ref (ad 96)), (1, .ref (ad 23)), (2, .int x2), (3, .int x3), (4, .int x4), (5, .int x5)] [] M) (hf : f_X4_find_120 r_72 x2 x3 x4 x5 M = some res) : G X ad 120 7 [(0, .ref (ad 96)), (1, .ref (ad 23)), (2, .int x2), (3, .int x3), (4, .int x4), (5, .int x5)] [] M := by
  unfold f_X4_find_120 at hf
  refine G.iinc (pl := 5) (v := (x5 + 1)) (lv' := [(5, .int (x5 + 1)), (0, .ref (ad 96)), (1, .ref (ad 23)), (2, .int x2), (3, .int x3), (4, .int x4)]) C dX4_find_120 rfl rfl (by decide) rfl ?_
  refine G.goto (tgt := 72) C dX4_find_123 (by decide) ?_
  refine G.sub (lv' := [(0, .ref (ad 96)), (1, .ref (ad 23)), (2, .int x2), (3, .int x3), (4, .int x4), (5, .int (x5 + 1))]) [1, 2, 3, 4, 5, 0] rfl ?_
  exact h_72 (x5 + 1) M hf
set_option maxRecDepth 100000 in
set_option maxHeartbeats 4000000 in
theorem w_X4_find_72_b {X : Gc} {ad : Nat → Nat} {res : (Unit × Mem)} {r_28 : Int32 → Mem → Option (Unit × Mem)} {r_72 : Int32 → Mem → Option (Unit × Mem)} (C : Gk X ad cX4_find "NineTongues$Rings" 7 3) (Rt : Gr X ad none none res.2) (x2 : Int32) (x3 : Int32) (x4 : Int32) (h_28 : ∀ (x2 : Int32) (M : Mem), r_28 x2 M = some res → G X ad 28 7 [(0, .ref (ad 96)), (1, .ref (ad 23)), (2, .int x2)] [] M) (h_72 : ∀ (x5 : Int32) (M : Mem), r_72 x5 M = some res → G X ad 72 7 [(0, .ref (ad 96)), (1, .ref (ad 23)), (2, .int x2), (3, .int x3), (4, .int x4), (5, .int x5)] [] M) (x5 : Int32) (M : Mem) (hf : f_X4_find_72_b r_28 r_72 x2 x3 x4 x5 M = some res) : G X ad 72 7 [(0, .ref (ad 96)), (1, .ref (ad 23)), (2, .int x2), (3, .int x3), (4, .int x4), (5, .int x5)] [] M := by
  unfold f_X4_find_72_b at hf
  refine G.iload (pl := 5) C dX4_find_72 rfl ?_
  refine G.aload_n (pl := 1) C dX4_find_74 rfl rfl ?_
  refine gf2_0 C o_23 k1_158 dX4_find_75 ?_
  refine G.icmp_ge (tgt := 126) C dX4_find_78 (by decide) (fun hc1 => ?_) (fun hc1 => ?_)
  · replace hf := gIf hf hc1
    refine G.iinc (pl := 2) (v := (x2 + 1)) (lv' := [(2, .int (x2 + 1)), (0, .ref (ad 96)), (1, .ref (ad 23)), (3, .int x3), (4, .int x4), (5, .int x5)]) C dX4_find_126 rfl rfl (by decide) rfl ?_
    refine G.goto (tgt := 28) C dX4_find_129 (by decide) ?_
    refine G.sub (lv' := [(0, .ref (ad 96)), (1, .ref (ad 23)), (2, .int (x2 + 1))]) [1, 2, 0] rfl ?_
    exact h_28 (x2 + 1) M hf
  · replace hf := gIfn hf hc1
    refine G.aload_n (pl := 1) C dX4_find_81 rfl rfl ?_
    refine G.iload (pl := 5) C dX4_find_82 rfl ?_
    refine G.iload (pl := 4) C dX4_find_84 rfl ?_
    obtain ⟨v1, hr1, hf⟩ := cp_some hf
    refine G.callV (st1 := [.int v1]) C [.int x5, .int x4] [] (c_X2_behind hr1) mv_X2_behind k3_211 o_23.1 (fun _ => gShp_12 o_23) rfl rfl rfl rfl rfl (Nat.le_of_ble_eq_true rfl) (by decide) dX4_find_86 rfl ?_
    refine G.istore (lv' := [(6, .int v1), (0, .ref (ad 96)), (1, .ref (ad 23)), (2, .int x2), (3, .int x3), (4, .int x4), (5, .int x5)]) C dX4_find_89 (by decide) rfl ?_
    refine G.iload (pl := 0) C dX4_find_91 rfl ?_
    refine G.iconst (v := (-1)) C dX4_find_93 (by decide) ?_
    refine G.icmp_eq (tgt := 120) C dX4_find_94 (by decide) (fun hc2 => ?_) (fun hc2 => ?_)
    · replace hf := gIf hf hc2
      refine G.sub (lv' := [(0, .ref (ad 96)), (1, .ref (ad 23)), (2, .int x2), (3, .int x3), (4, .int x4), (5, .int x5)]) [1, 2, 3, 4, 5, 6] rfl ?_
      exact w_X4_find_120 C Rt x2 x3 x4 x5 M h_72 hf
    · replace hf := gIfn hf hc2
      refine G.iload (pl := 0) C dX4_find_97 rfl ?_
      refine G.bipush (v := 8) C dX4_find_99 (by decide) ?_
      refine G.idiv C (by decide) dX4_find_101 ?_
      refine G.iload_n (pl := 4) C dX4_find_102 rfl rfl ?_
      refine G.bipush (v := 8) C dX4_find_103 (by decide) ?_
      refine G.idiv C (by decide) dX4_find_105 ?_
      refine G.icmp_le (tgt := 120) C dX4_find_106 (by decide) (fun hc3 => ?_) (fun hc3 => ?_)
      · replace hf := gIf hf hc3
        refine G.sub (lv' := [(0, .ref (ad 96)), (1, .ref (ad 23)), (2, .int x2), (3, .int x3), (4, .int x4), (5, .int x5)]) [1, 2, 3, 4, 5, 6] rfl ?_
        exact w_X4_find_120 C Rt x2 x3 x4 x5 M h_72 hf
      · replace hf := gIfn hf hc3
        refine G.aload_n (pl := 1) C dX4_find_109 rfl rfl ?_
        refine G.aload_n (pl := 2) C dX4_find_110 rfl rfl ?_
        refine G.iload_n (pl := 3) C dX4_find_111 rfl rfl ?_
        refine G.iload (pl := 6) C dX4_find_112 rfl ?_
        refine G.iload (pl := 0) C dX4_find_114 rfl ?_
        refine G.iload_n (pl := 4) C dX4_find_116 rfl rfl ?_
        obtain ⟨u, M1, hr2, hf⟩ := cl_some hf
        refine G.callV (st1 := []) C [.ref (ad 23), .int x2, .int x5, .int v1, .int x3] [] (c_X4_close hr2) mv_X4_close k3_212 o_96.1 (fun _ => gShp_14 o_96) rfl rfl rfl rfl rfl (Nat.le_of_ble_eq_true rfl) (by decide) dX4_find_117 rfl ?_
        refine G.sub (lv' := [(0, .ref (ad 96)), (1, .ref (ad 23)), (2, .int x2), (3, .int x3), (4, .int x4), (5, .int x5)]) [1, 2, 3, 4, 5, 6] rfl ?_
        exact w_X4_find_120 C Rt x2 x3 x4 x5 M1 h_72 hf
theorem w_X4_find_72 {X : Gc} {ad : Nat → Nat} {res : (Unit × Mem)} {r_28 : Int32 → Mem → Option (Unit × Mem)} (C : Gk X ad cX4_find "NineTongues$Rings" 7 3) (Rt : Gr X ad none none res.2) (x2 : Int32) (x3 : Int32) (x4 : Int32) (h_28 : ∀ (x2 : Int32) (M : Mem), r_28 x2 M = some res → G X ad 28 7 [(0, .ref (ad 96)), (1, .ref (ad 23)), (2, .int x2)] [] M) : ∀ (n : Nat) (x5 : Int32) (M : Mem), f_X4_find_72 r_28 x2 x3 x4 n x5 M = some res → G X ad 72 7 [(0, .ref (ad 96)), (1, .ref (ad 23)), (2, .int x2), (3, .int x3), (4, .int x4), (5, .int x5)] [] M := by
  intro n
  induction n with
  | zero => intro x5 M hf; exact absurd (show (none : Option (Unit × Mem)) = some res from hf) (fun h => nomatch h)
  | succ n ih => intro x5 M hf; exact w_X4_find_72_b C Rt x2 x3 x4 h_28 ih x5 M hf
set_option maxRecDepth 100000 in
set_option maxHeartbeats 4000000 in
theorem w_X4_find_28_b {X : Gc} {ad : Nat → Nat} {res : (Unit × Mem)} {r_28 : Int32 → Mem → Option (Unit × Mem)} (C : Gk X ad cX4_find "NineTongues$Rings" 7 3) (Rt : Gr X ad none none res.2) (h_28 : ∀ (x2 : Int32) (M : Mem), r_28 x2 M = some res → G X ad 28 7 [(0, .ref (ad 96)), (1, .ref (ad 23)), (2, .int x2)] [] M) (x2 : Int32) (M : Mem) (hf : f_X4_find_28_b r_28 x2 M = some res) : G X ad 28 7 [(0, .ref (ad 96)), (1, .ref (ad 23)), (2, .int x2)] [] M := by
  unfold f_X4_find_28_b at hf
  refine G.iload_n (pl := 2) C dX4_find_28 rfl rfl ?_
  refine G.aload_n (pl := 1) C dX4_find_29 rfl rfl ?_
  refine gf2_0 C o_23 k1_158 dX4_find_30 ?_
  refine G.icmp_ge (tgt := 132) C dX4_find_33 (by decide) (fun hc1 => ?_) (fun hc1 => ?_)
  · replace hf := gIf hf hc1
    cases hf
    exact G.vret C Rt dX4_find_132
  · replace hf := gIfn hf hc1
    refine G.aload_n (pl := 1) C dX4_find_36 rfl rfl ?_
    refine gf2_1 C o_23 k1_162 dX4_find_37 ?_
    refine G.iload_n (pl := 2) C dX4_find_40 rfl rfl ?_
    obtain ⟨v1, ev1, hi1, hf⟩ := rd_some hf
    refine G.iald C a_24 hi1 ev1 dX4_find_41 ?_
    refine G.aload_n (pl := 1) C dX4_find_42 rfl rfl ?_
    refine gf2_2 C o_23 k1_164 dX4_find_43 ?_
    refine G.iload_n (pl := 2) C dX4_find_46 rfl rfl ?_
    obtain ⟨v2, ev2, hi2, hf⟩ := rd_some hf
    refine G.iald C a_25 hi2 ev2 dX4_find_47 ?_
    refine G.mmin C k3_207 k2_198 k1_14 k2_199 (Nat.le_of_ble_eq_true rfl) (by decide) dX4_find_48 ?_
    refine G.istore_n (lv' := [(3, .int (if v2 < v1 then v2 else v1)), (0, .ref (ad 96)), (1, .ref (ad 23)), (2, .int x2)]) C dX4_find_51 rfl (by decide) rfl ?_
    refine G.aload_n (pl := 2) C dX4_find_52 rfl rfl ?_
    refine gf2_1 C o_23 k1_162 dX4_find_53 ?_
    refine G.iload_n (pl := 3) C dX4_find_56 rfl rfl ?_
    obtain ⟨v3, ev3, hi3, hf⟩ := rd_some hf
    refine G.iald C a_24 hi3 ev3 dX4_find_57 ?_
    refine G.aload_n (pl := 2) C dX4_find_58 rfl rfl ?_
    refine gf2_2 C o_23 k1_164 dX4_find_59 ?_
    refine G.iload_n (pl := 3) C dX4_find_62 rfl rfl ?_
    obtain ⟨v4, ev4, hi4, hf⟩ := rd_some hf
    refine G.iald C a_25 hi4 ev4 dX4_find_63 ?_
    refine G.mmax C k3_208 k3_209 k1_14 k3_210 (Nat.le_of_ble_eq_true rfl) (by decide) dX4_find_64 ?_
    refine G.istore (lv' := [(4, .int (if v3 < v4 then v4 else v3)), (3, .int (if v2 < v1 then v2 else v1)), (0, .ref (ad 96)), (1, .ref (ad 23)), (2, .int x2)]) C dX4_find_67 (by decide) rfl ?_
    refine G.iconst (v := 0) C dX4_find_69 (by decide) ?_
    refine G.istore (lv' := [(5, .int (0 : Int32)), (4, .int (if v3 < v4 then v4 else v3)), (3, .int (if v2 < v1 then v2 else v1)), (0, .ref (ad 96)), (1, .ref (ad 23)), (2, .int x2)]) C dX4_find_70 (by decide) rfl ?_
    refine G.sub (lv' := [(0, .ref (ad 96)), (1, .ref (ad 23)), (2, .int x2), (3, .int (if v2 < v1 then v2 else v1)), (4, .int (if v3 < v4 then v4 else v3)), (5, .int (0 : Int32))]) [3, 4, 5, 2, 1, 0] rfl ?_
    exact w_X4_find_72 C Rt x2 (if v2 < v1 then v2 else v1) (if v3 < v4 then v4 else v3) h_28 FU (0 : Int32) M hf
theorem w_X4_find_28 {X : Gc} {ad : Nat → Nat} {res : (Unit × Mem)} (C : Gk X ad cX4_find "NineTongues$Rings" 7 3) (Rt : Gr X ad none none res.2) : ∀ (n : Nat) (x2 : Int32) (M : Mem), f_X4_find_28 n x2 M = some res → G X ad 28 7 [(0, .ref (ad 96)), (1, .ref (ad 23)), (2, .int x2)] [] M := by
  intro n
  induction n with
  | zero => intro x2 M hf; exact absurd (show (none : Option (Unit × Mem)) = some res from hf) (fun h => nomatch h)
  | succ n ih => intro x2 M hf; exact w_X4_find_28_b C Rt ih x2 M hf
set_option maxRecDepth 100000 in
set_option maxHeartbeats 4000000 in
theorem w_X4_find_E {X : Gc} {ad : Nat → Nat} {res : (Unit × Mem)} (C : Gk X ad cX4_find "NineTongues$Rings" 7 3) (Rt : Gr X ad none none res.2) (M : Mem) (hf : f_X4_find M = some res) : G X ad 0 7 [(0, .ref (ad 96)), (1, .ref (ad 23))] [] M := by
  unfold f_X4_find at hf
  refine G.aload_n (pl := 0) C dX4_find_0 rfl rfl ?_
  refine G.iconst (v := 0) C dX4_find_1 (by decide) ?_
  obtain ⟨M1, eM1, hf⟩ := stm_some hf
  refine gp4_0 C o_96 k2_21 eM1 dX4_find_2 ?_
  refine G.aload_n (pl := 0) C dX4_find_5 rfl rfl ?_
  refine G.iconst (v := 0) C dX4_find_6 (by decide) ?_
  obtain ⟨M2, eM2, hf⟩ := stm_some hf
  refine gp4_1 C o_96 k2_23 eM2 dX4_find_7 ?_
  refine G.aload_n (pl := 0) C dX4_find_10 rfl rfl ?_
  refine gf4_2 C o_96 k2_25 dX4_find_11 ?_
  refine G.iconst (v := 0) C dX4_find_14 (by decide) ?_
  obtain ⟨u, M3, hr1, hf⟩ := cl_some hf
  refine G.callS (st1 := []) C [.ref (ad 97), .int (0 : Int32)] [] (c_J7_fill_53178 a_97 hr1) mv_J7_fill_53178 k3_206 rfl rfl rfl (Nat.le_of_ble_eq_true rfl) (by decide) dX4_find_15 rfl ?_
  refine G.aload_n (pl := 0) C dX4_find_18 rfl rfl ?_
  refine gf4_3 C o_96 k2_27 dX4_find_19 ?_
  refine G.iconst (v := 0) C dX4_find_22 (by decide) ?_
  obtain ⟨u, M4, hr2, hf⟩ := cl_some hf
  refine G.callS (st1 := []) C [.ref (ad 98), .int (0 : Int32)] [] (c_J7_fill_53178 a_98 hr2) mv_J7_fill_53178 k3_206 rfl rfl rfl (Nat.le_of_ble_eq_true rfl) (by decide) dX4_find_23 rfl ?_
  refine G.iconst (v := 0) C dX4_find_26 (by decide) ?_
  refine G.istore_n (lv' := [(2, .int (0 : Int32)), (0, .ref (ad 96)), (1, .ref (ad 23))]) C dX4_find_27 rfl (by decide) rfl ?_
  refine G.sub (lv' := [(0, .ref (ad 96)), (1, .ref (ad 23)), (2, .int (0 : Int32))]) [1, 2, 0] rfl ?_
  exact w_X4_find_28 C Rt FU (0 : Int32) M4 hf
theorem mv_X4_find : gMV yX4_find cX4_find 7 none 1 := ⟨k3_203, k3_204, k1_11, k3_205, ⟨by decide +kernel, by decide +kernel, by decide +kernel⟩, by decide⟩
theorem c_X4_find {res : (Unit × Mem)} {M : Mem} (hf : f_X4_find M = some res) : Ct yX4_find cX4_find 7 none 3 (fun ad => [.ref (ad 96), .ref (ad 23)]) M none res.2 :=
  Ct.of (by decide +kernel) (fun _ => Nat.le_of_ble_eq_true rfl) (fun X ad C Rt => w_X4_find_E C Rt M hf)
set_option maxRecDepth 100000 in
set_option maxHeartbeats 4000000 in
theorem w_X4_isWorse_E {X : Gc} {ad : Nat → Nat} {res : Int32} {M : Mem} (C : Gk X ad cX4_isWorse "NineTongues$Rings" 3 1) (Rt : Gr X ad (some .boolean) (some (.int res)) M) (x1 : Int32) (x2 : Int32) (hf : f_X4_isWorse x1 x2 M = some res) : G X ad 0 3 [(0, .ref (ad 96)), (1, .int x1), (2, .int x2)] [] M := by
  unfold f_X4_isWorse at hf
  refine G.aload_n (pl := 0) C dX4_isWorse_0 rfl rfl ?_
  refine gf4_3 C o_96 k2_27 dX4_isWorse_1 ?_
  refine G.iload_n (pl := 1) C dX4_isWorse_4 rfl rfl ?_
  obtain ⟨v1, ev1, hi1, hf⟩ := rd_some hf
  refine G.iald C a_98 hi1 ev1 dX4_isWorse_5 ?_
  refine G.aload_n (pl := 0) C dX4_isWorse_6 rfl rfl ?_
  refine gf4_2 C o_96 k2_25 dX4_isWorse_7 ?_
  refine G.iload_n (pl := 2) C dX4_isWorse_10 rfl rfl ?_
  obtain ⟨v2, ev2, hi2, hf⟩ := rd_some hf
  refine G.iald C a_97 hi2 ev2 dX4_isWorse_11 ?_
  refine G.imul C dX4_isWorse_12 ?_
  refine G.aload_n (pl := 0) C dX4_isWorse_13 rfl rfl ?_
  refine gf4_3 C o_96 k2_27 dX4_isWorse_14 ?_
  refine G.iload_n (pl := 2) C dX4_isWorse_17 rfl rfl ?_
  obtain ⟨v3, ev3, hi3, hf⟩ := rd_some hf
  refine G.iald C a_98 hi3 ev3 dX4_isWorse_18 ?_
  refine G.aload_n (pl := 0) C dX4_isWorse_19 rfl rfl ?_
  refine gf4_2 C o_96 k2_25 dX4_isWorse_20 ?_
  refine G.iload_n (pl := 1) C dX4_isWorse_23 rfl rfl ?_
  obtain ⟨v4, ev4, hi4, hf⟩ := rd_some hf
  refine G.iald C a_97 hi4 ev4 dX4_isWorse_24 ?_
  refine G.imul C dX4_isWorse_25 ?_
  refine G.icmp_le (tgt := 33) C dX4_isWorse_26 (by decide) (fun hc1 => ?_) (fun hc1 => ?_)
  · replace hf := gIf hf hc1
    refine G.iconst (v := 0) C dX4_isWorse_33 (by decide) ?_
    cases hf
    exact G.zret C rfl Rt dX4_isWorse_34
  · replace hf := gIfn hf hc1
    refine G.iconst (v := 1) C dX4_isWorse_29 (by decide) ?_
    refine G.goto (tgt := 34) C dX4_isWorse_30 (by decide) ?_
    cases hf
    exact G.zret C rfl Rt dX4_isWorse_34
theorem mv_X4_isWorse : gMV yX4_isWorse cX4_isWorse 3 (some .boolean) 2 := ⟨k3_229, k3_230, k1_11, k3_231, ⟨by decide +kernel, by decide +kernel, by decide +kernel⟩, by decide⟩
theorem c_X4_isWorse {res : Int32} {x1 : Int32} {x2 : Int32} {M : Mem} (hf : f_X4_isWorse x1 x2 M = some res) : Ct yX4_isWorse cX4_isWorse 3 (some .boolean) 1 (fun ad => [.ref (ad 96), .int x1, .int x2]) M (some (.int res)) M :=
  Ct.of (by decide +kernel) (fun _ => Nat.le_of_ble_eq_true rfl) (fun X ad C Rt => w_X4_isWorse_E C Rt x1 x2 hf)
set_option maxRecDepth 100000 in
set_option maxHeartbeats 4000000 in
theorem w_X4_join_25 {X : Gc} {ad : Nat → Nat} {res : (Unit × Mem)} {r_2 : Int32 → Mem → Option (Unit × Mem)} (C : Gk X ad cX4_join "NineTongues$Rings" 4 1) (Rt : Gr X ad none none res.2) (x1 : Int32) (x2 : Int32) (x3 : Int32) (M : Mem) (h_2 : ∀ (x3 : Int32) (M : Mem), r_2 x3 M = some res → G X ad 2 4 [(0, .ref (ad 96)), (1, .int x1), (2, .int x2), (3, .int x3)] [] M) (hf : f_X4_join_25 r_2 x1 x2 x3 M = some res) : G X ad 25 4 [(0, .ref (ad 96)), (1, .int x1), (2, .int x2), (3, .int x3)] [] M := by
  unfold f_X4_join_25 at hf
  refine G.iinc (pl := 3) (v := (x3 + 1)) (lv' := [(3, .int (x3 + 1)), (0, .ref (ad 96)), (1, .int x1), (2, .int x2)]) C dX4_join_25 rfl rfl (by decide) rfl ?_
  refine G.goto (tgt := 2) C dX4_join_28 (by decide) ?_
  refine G.sub (lv' := [(0, .ref (ad 96)), (1, .int x1), (2, .int x2), (3, .int (x3 + 1))]) [1, 2, 3, 0] rfl ?_
  exact h_2 (x3 + 1) M hf
set_option maxRecDepth 100000 in
set_option maxHeartbeats 4000000 in
theorem w_X4_join_2_b {X : Gc} {ad : Nat → Nat} {res : (Unit × Mem)} {r_2 : Int32 → Mem → Option (Unit × Mem)} (C : Gk X ad cX4_join "NineTongues$Rings" 4 1) (Rt : Gr X ad none none res.2) (x1 : Int32) (x2 : Int32) (h_2 : ∀ (x3 : Int32) (M : Mem), r_2 x3 M = some res → G X ad 2 4 [(0, .ref (ad 96)), (1, .int x1), (2, .int x2), (3, .int x3)] [] M) (x3 : Int32) (M : Mem) (hf : f_X4_join_2_b r_2 x1 x2 x3 M = some res) : G X ad 2 4 [(0, .ref (ad 96)), (1, .int x1), (2, .int x2), (3, .int x3)] [] M := by
  unfold f_X4_join_2_b at hf
  refine G.iload_n (pl := 3) C dX4_join_2 rfl rfl ?_
  refine G.bipush (v := 48) C dX4_join_3 (by decide) ?_
  refine G.icmp_ge (tgt := 31) C dX4_join_5 (by decide) (fun hc1 => ?_) (fun hc1 => ?_)
  · replace hf := gIf hf hc1
    cases hf
    exact G.vret C Rt dX4_join_31
  · replace hf := gIfn hf hc1
    refine G.aload_n (pl := 0) C dX4_join_8 rfl rfl ?_
    refine gf4_4 C o_96 k2_29 dX4_join_9 ?_
    refine G.iload_n (pl := 3) C dX4_join_12 rfl rfl ?_
    obtain ⟨v1, ev1, hi1, hf⟩ := rd_some hf
    refine G.iald C a_99 hi1 ev1 dX4_join_13 ?_
    refine G.iload_n (pl := 2) C dX4_join_14 rfl rfl ?_
    refine G.icmp_ne (tgt := 25) C dX4_join_15 (by decide) (fun hc2 => ?_) (fun hc2 => ?_)
    · replace hf := gIfn hf hc2
      exact w_X4_join_25 C Rt x1 x2 x3 M h_2 hf
    · replace hf := gIf hf hc2
      refine G.aload_n (pl := 0) C dX4_join_18 rfl rfl ?_
      refine gf4_4 C o_96 k2_29 dX4_join_19 ?_
      refine G.iload_n (pl := 3) C dX4_join_22 rfl rfl ?_
      refine G.iload_n (pl := 1) C dX4_join_23 rfl rfl ?_
      obtain ⟨hi2, hf⟩ := ck_some hf
      obtain ⟨M1, eM1, hf⟩ := stm_some hf
      refine G.iast C a_99 hi2 eM1 dX4_join_24 ?_
      exact w_X4_join_25 C Rt x1 x2 x3 M1 h_2 hf
theorem w_X4_join_2 {X : Gc} {ad : Nat → Nat} {res : (Unit × Mem)} (C : Gk X ad cX4_join "NineTongues$Rings" 4 1) (Rt : Gr X ad none none res.2) (x1 : Int32) (x2 : Int32) : ∀ (n : Nat) (x3 : Int32) (M : Mem), f_X4_join_2 x1 x2 n x3 M = some res → G X ad 2 4 [(0, .ref (ad 96)), (1, .int x1), (2, .int x2), (3, .int x3)] [] M := by
  intro n
  induction n with
  | zero => intro x3 M hf; exact absurd (show (none : Option (Unit × Mem)) = some res from hf) (fun h => nomatch h)
  | succ n ih => intro x3 M hf; exact w_X4_join_2_b C Rt x1 x2 ih x3 M hf
set_option maxRecDepth 100000 in
set_option maxHeartbeats 4000000 in
theorem w_X4_join_E {X : Gc} {ad : Nat → Nat} {res : (Unit × Mem)} (C : Gk X ad cX4_join "NineTongues$Rings" 4 1) (Rt : Gr X ad none none res.2) (x1 : Int32) (x2 : Int32) (M : Mem) (hf : f_X4_join x1 x2 M = some res) : G X ad 0 4 [(0, .ref (ad 96)), (1, .int x1), (2, .int x2)] [] M := by
  unfold f_X4_join at hf
  refine G.iconst (v := 0) C dX4_join_0 (by decide) ?_
  refine G.istore_n (lv' := [(3, .int (0 : Int32)), (0, .ref (ad 96)), (1, .int x1), (2, .int x2)]) C dX4_join_1 rfl (by decide) rfl ?_
  refine G.sub (lv' := [(0, .ref (ad 96)), (1, .int x1), (2, .int x2), (3, .int (0 : Int32))]) [1, 2, 3, 0] rfl ?_
  exact w_X4_join_2 C Rt x1 x2 FU (0 : Int32) M hf
theorem mv_X4_join : gMV yX4_join cX4_join 4 none 2 := ⟨k4_2, kS_23, k1_11, k4_3, ⟨by decide +kernel, by decide +kernel, by decide +kernel⟩, by decide⟩
theorem c_X4_join {res : (Unit × Mem)} {x1 : Int32} {x2 : Int32} {M : Mem} (hf : f_X4_join x1 x2 M = some res) : Ct yX4_join cX4_join 4 none 1 (fun ad => [.ref (ad 96), .int x1, .int x2]) M none res.2 :=
  Ct.of (by decide +kernel) (fun _ => Nat.le_of_ble_eq_true rfl) (fun X ad C Rt => w_X4_join_E C Rt x1 x2 M hf)
