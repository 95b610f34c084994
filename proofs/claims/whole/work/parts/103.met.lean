set_option maxRecDepth 100000 in
set_option maxHeartbeats 4000000 in
theorem w_X7_partsBeyond_4_b {X : Gc} {ad : Nat → Nat} {res : Int32} {k0 k1 : Nat} {M : Mem} {r_4 : Int32 → Int32 → Option Int32} (hk0 : gIs 17 k0) (hk1 : gIs 17 k1) (C : Gk X ad cX7_partsBeyond "NineTongues$State" 4 2) (Rt : Gr X ad (some .int) (some (.int res)) M) (h_4 : ∀ (x2 : Int32) (x3 : Int32), r_4 x2 x3 = some res → G X ad 4 4 [(0, .ref (ad k0)), (1, .ref (ad k1)), (2, .int x2), (3, .int x3)] [] M) (x2 : Int32) (x3 : Int32) (hf : f_X7_partsBeyond_4_b k0 k1 M r_4 x2 x3 = some res) : G X ad 4 4 [(0, .ref (ad k0)), (1, .ref (ad k1)), (2, .int x2), (3, .int x3)] [] M := by
  unfold f_X7_partsBeyond_4_b at hf
  refine G.iload_n (pl := 3) C dX7_partsBeyond_4 rfl rfl ?_
  refine G.aload_n (pl := 0) C dX7_partsBeyond_5 rfl rfl ?_
  refine gf7_0 C hk0 k1_88 dX7_partsBeyond_6 ?_
  refine G.icmp_ge (tgt := 39) C dX7_partsBeyond_9 (by decide) (fun hc1 => ?_) (fun hc1 => ?_)
  · replace hf := gIf hf hc1
    refine G.iload_n (pl := 2) C dX7_partsBeyond_39 rfl rfl ?_
    cases hf
    exact G.iret C Rt dX7_partsBeyond_40
  · replace hf := gIfn hf hc1
    refine G.iload_n (pl := 2) C dX7_partsBeyond_12 rfl rfl ?_
    refine G.aload_n (pl := 0) C dX7_partsBeyond_13 rfl rfl ?_
    refine gf7_1 C hk0 k1_93 dX7_partsBeyond_14 ?_
    refine G.iload_n (pl := 3) C dX7_partsBeyond_17 rfl rfl ?_
    obtain ⟨v1, ev1, hi1, hf⟩ := rd_some hf
    refine G.iald C (gx17_1 hk0) hi1 ev1 dX7_partsBeyond_18 ?_
    refine G.aload_n (pl := 1) C dX7_partsBeyond_19 rfl rfl ?_
    refine gf7_1 C hk1 k1_93 dX7_partsBeyond_20 ?_
    refine G.iload_n (pl := 3) C dX7_partsBeyond_23 rfl rfl ?_
    obtain ⟨v2, ev2, hi2, hf⟩ := rd_some hf
    refine G.iald C (gx17_1 hk1) hi2 ev2 dX7_partsBeyond_24 ?_
    refine G.iconst (v := (-1)) C dX7_partsBeyond_25 (by decide) ?_
    refine G.ixor C dX7_partsBeyond_26 ?_
    refine G.iand C dX7_partsBeyond_27 ?_
    obtain ⟨v3, hr1, hf⟩ := cp_some hf
    refine G.callS (st1 := [.int v3, .int x2]) C [.int (v1 &&& (v2 ^^^ (-1 : Int32)))] [.int x2] (c_J6_bitCount_0f7a4 hr1) mv_J6_bitCount_0f7a4 k3_42 rfl rfl rfl (Nat.le_of_ble_eq_true rfl) (by decide) dX7_partsBeyond_28 rfl ?_
    refine G.iadd C dX7_partsBeyond_31 ?_
    refine G.istore_n (lv' := [(2, .int (x2 + v3)), (0, .ref (ad k0)), (1, .ref (ad k1)), (3, .int x3)]) C dX7_partsBeyond_32 rfl (by decide) rfl ?_
    refine G.iinc (pl := 3) (v := (x3 + 1)) (lv' := [(3, .int (x3 + 1)), (2, .int (x2 + v3)), (0, .ref (ad k0)), (1, .ref (ad k1))]) C dX7_partsBeyond_33 rfl rfl (by decide) rfl ?_
    refine G.goto (tgt := 4) C dX7_partsBeyond_36 (by decide) ?_
    refine G.sub (lv' := [(0, .ref (ad k0)), (1, .ref (ad k1)), (2, .int (x2 + v3)), (3, .int (x3 + 1))]) [2, 3, 1, 0] rfl ?_
    exact h_4 (x2 + v3) (x3 + 1)  hf
theorem w_X7_partsBeyond_4 {X : Gc} {ad : Nat → Nat} {res : Int32} {k0 k1 : Nat} {M : Mem} (hk0 : gIs 17 k0) (hk1 : gIs 17 k1) (C : Gk X ad cX7_partsBeyond "NineTongues$State" 4 2) (Rt : Gr X ad (some .int) (some (.int res)) M) : ∀ (n : Nat) (x2 : Int32) (x3 : Int32), f_X7_partsBeyond_4 k0 k1 M n x2 x3 = some res → G X ad 4 4 [(0, .ref (ad k0)), (1, .ref (ad k1)), (2, .int x2), (3, .int x3)] [] M := by
  intro n
  induction n with
  | zero => intro x2 x3 hf; exact absurd (show (none : Option Int32) = some res from hf) (fun h => nomatch h)
  | succ n ih => intro x2 x3 hf; exact w_X7_partsBeyond_4_b hk0 hk1 C Rt ih x2 x3 hf
set_option maxRecDepth 100000 in
set_option maxHeartbeats 4000000 in
theorem w_X7_partsBeyond_E {X : Gc} {ad : Nat → Nat} {res : Int32} {k0 k1 : Nat} {M : Mem} (hk0 : gIs 17 k0) (hk1 : gIs 17 k1) (C : Gk X ad cX7_partsBeyond "NineTongues$State" 4 2) (Rt : Gr X ad (some .int) (some (.int res)) M) (hf : f_X7_partsBeyond k0 k1 M = some res) : G X ad 0 4 [(0, .ref (ad k0)), (1, .ref (ad k1))] [] M := by
  unfold f_X7_partsBeyond at hf
  refine G.iconst (v := 0) C dX7_partsBeyond_0 (by decide) ?_
  refine G.istore_n (lv' := [(2, .int (0 : Int32)), (0, .ref (ad k0)), (1, .ref (ad k1))]) C dX7_partsBeyond_1 rfl (by decide) rfl ?_
  refine G.iconst (v := 0) C dX7_partsBeyond_2 (by decide) ?_
  refine G.istore_n (lv' := [(3, .int (0 : Int32)), (2, .int (0 : Int32)), (0, .ref (ad k0)), (1, .ref (ad k1))]) C dX7_partsBeyond_3 rfl (by decide) rfl ?_
  refine G.sub (lv' := [(0, .ref (ad k0)), (1, .ref (ad k1)), (2, .int (0 : Int32)), (3, .int (0 : Int32))]) [2, 3, 1, 0] rfl ?_
  exact w_X7_partsBeyond_4 hk0 hk1 C Rt FU (0 : Int32) (0 : Int32) hf
theorem mv_X7_partsBeyond : gMV yX7_partsBeyond cX7_partsBeyond 4 (some .int) 1 := ⟨k3_39, k3_40, k1_4, k3_41, ⟨by decide +kernel, by decide +kernel, by decide +kernel⟩, by decide⟩
theorem c_X7_partsBeyond {res : Int32} {k0 k1 : Nat} {M : Mem} (hk0 : gIs 17 k0) (hk1 : gIs 17 k1) (hf : f_X7_partsBeyond k0 k1 M = some res) : Ct yX7_partsBeyond cX7_partsBeyond 4 (some .int) 2 (fun ad => [.ref (ad k0), .ref (ad k1)]) M (some (.int res)) M :=
  Ct.of (by decide +kernel) (fun _ => Nat.le_of_ble_eq_true rfl) (fun X ad C Rt => w_X7_partsBeyond_E hk0 hk1 C Rt hf)
set_option maxRecDepth 100000 in
set_option maxHeartbeats 4000000 in
theorem w_X7_formsBeyond_32 {X : Gc} {ad : Nat → Nat} {res : Int32} {k0 k1 : Nat} {M : Mem} {r_4 : Int32 → Int32 → Option Int32} (hk0 : gIs 17 k0) (hk1 : gIs 17 k1) (C : Gk X ad cX7_formsBeyond "NineTongues$State" 4 1) (Rt : Gr X ad (some .int) (some (.int res)) M) (x2 : Int32) (x3 : Int32) (h_4 : ∀ (x2 : Int32) (x3 : Int32), r_4 x2 x3 = some res → G X ad 4 4 [(0, .ref (ad k0)), (1, .ref (ad k1)), (2, .int x2), (3, .int x3)] [] M) (hf : f_X7_formsBeyond_32 k0 k1 M r_4 x2 x3 = some res) : G X ad 32 4 [(0, .ref (ad k0)), (1, .ref (ad k1)), (2, .int x2), (3, .int x3)] [] M := by
  unfold f_X7_formsBeyond_32 at hf
  refine G.iinc (pl := 3) (v := (x3 + 1)) (lv' := [(3, .int (x3 + 1)), (0, .ref (ad k0)), (1, .ref (ad k1)), (2, .int x2)]) C dX7_formsBeyond_32 rfl rfl (by decide) rfl ?_
  refine G.goto (tgt := 4) C dX7_formsBeyond_35 (by decide) ?_
  refine G.sub (lv' := [(0, .ref (ad k0)), (1, .ref (ad k1)), (2, .int x2), (3, .int (x3 + 1))]) [1, 2, 3, 0] rfl ?_
  exact h_4 x2 (x3 + 1)  hf
set_option maxRecDepth 100000 in
set_option maxHeartbeats 4000000 in
theorem w_X7_formsBeyond_4_b {X : Gc} {ad : Nat → Nat} {res : Int32} {k0 k1 : Nat} {M : Mem} {r_4 : Int32 → Int32 → Option Int32} (hk0 : gIs 17 k0) (hk1 : gIs 17 k1) (C : Gk X ad cX7_formsBeyond "NineTongues$State" 4 1) (Rt : Gr X ad (some .int) (some (.int res)) M) (h_4 : ∀ (x2 : Int32) (x3 : Int32), r_4 x2 x3 = some res → G X ad 4 4 [(0, .ref (ad k0)), (1, .ref (ad k1)), (2, .int x2), (3, .int x3)] [] M) (x2 : Int32) (x3 : Int32) (hf : f_X7_formsBeyond_4_b k0 k1 M r_4 x2 x3 = some res) : G X ad 4 4 [(0, .ref (ad k0)), (1, .ref (ad k1)), (2, .int x2), (3, .int x3)] [] M := by
  unfold f_X7_formsBeyond_4_b at hf
  refine G.iload_n (pl := 3) C dX7_formsBeyond_4 rfl rfl ?_
  refine G.iconst (v := 4) C dX7_formsBeyond_5 (by decide) ?_
  refine G.icmp_ge (tgt := 38) C dX7_formsBeyond_6 (by decide) (fun hc1 => ?_) (fun hc1 => ?_)
  · replace hf := gIf hf hc1
    refine G.iload_n (pl := 2) C dX7_formsBeyond_38 rfl rfl ?_
    cases hf
    exact G.iret C Rt dX7_formsBeyond_39
  · replace hf := gIfn hf hc1
    refine G.aload_n (pl := 0) C dX7_formsBeyond_9 rfl rfl ?_
    refine gf7_3 C hk0 k1_101 dX7_formsBeyond_10 ?_
    refine G.iload_n (pl := 3) C dX7_formsBeyond_13 rfl rfl ?_
    obtain ⟨v1, ev1, hi1, hf⟩ := rd_some hf
    refine G.iald C (gx17_3 hk0) hi1 ev1 dX7_formsBeyond_14 ?_
    refine G.iconst (v := (-1)) C dX7_formsBeyond_15 (by decide) ?_
    refine G.icmp_eq (tgt := 32) C dX7_formsBeyond_16 (by decide) (fun hc2 => ?_) (fun hc2 => ?_)
    · replace hf := gIf hf hc2
      exact w_X7_formsBeyond_32 hk0 hk1 C Rt x2 x3 h_4 hf
    · replace hf := gIfn hf hc2
      refine G.aload_n (pl := 1) C dX7_formsBeyond_19 rfl rfl ?_
      refine gf7_3 C hk1 k1_101 dX7_formsBeyond_20 ?_
      refine G.iload_n (pl := 3) C dX7_formsBeyond_23 rfl rfl ?_
      obtain ⟨v2, ev2, hi2, hf⟩ := rd_some hf
      refine G.iald C (gx17_3 hk1) hi2 ev2 dX7_formsBeyond_24 ?_
      refine G.iconst (v := (-1)) C dX7_formsBeyond_25 (by decide) ?_
      refine G.icmp_ne (tgt := 32) C dX7_formsBeyond_26 (by decide) (fun hc3 => ?_) (fun hc3 => ?_)
      · replace hf := gIfn hf hc3
        exact w_X7_formsBeyond_32 hk0 hk1 C Rt x2 x3 h_4 hf
      · replace hf := gIf hf hc3
        refine G.iinc (pl := 2) (v := (x2 + 1)) (lv' := [(2, .int (x2 + 1)), (0, .ref (ad k0)), (1, .ref (ad k1)), (3, .int x3)]) C dX7_formsBeyond_29 rfl rfl (by decide) rfl ?_
        refine G.sub (lv' := [(0, .ref (ad k0)), (1, .ref (ad k1)), (2, .int (x2 + 1)), (3, .int x3)]) [1, 2, 0, 3] rfl ?_
        exact w_X7_formsBeyond_32 hk0 hk1 C Rt (x2 + 1) x3 h_4 hf
theorem w_X7_formsBeyond_4 {X : Gc} {ad : Nat → Nat} {res : Int32} {k0 k1 : Nat} {M : Mem} (hk0 : gIs 17 k0) (hk1 : gIs 17 k1) (C : Gk X ad cX7_formsBeyond "NineTongues$State" 4 1) (Rt : Gr X ad (some .int) (some (.int res)) M) : ∀ (n : Nat) (x2 : Int32) (x3 : Int32), f_X7_formsBeyond_4 k0 k1 M n x2 x3 = some res → G X ad 4 4 [(0, .ref (ad k0)), (1, .ref (ad k1)), (2, .int x2), (3, .int x3)] [] M := by
  intro n
  induction n with
  | zero => intro x2 x3 hf; exact absurd (show (none : Option Int32) = some res from hf) (fun h => nomatch h)
  | succ n ih => intro x2 x3 hf; exact w_X7_formsBeyond_4_b hk0 hk1 C Rt ih x2 x3 hf
set_option maxRecDepth 100000 in
set_option maxHeartbeats 4000000 in
theorem w_X7_formsBeyond_E {X : Gc} {ad : Nat → Nat} {res : Int32} {k0 k1 : Nat} {M : Mem} (hk0 : gIs 17 k0) (hk1 : gIs 17 k1) (C : Gk X ad cX7_formsBeyond "NineTongues$State" 4 1) (Rt : Gr X ad (some .int) (some (.int res)) M) (hf : f_X7_formsBeyond k0 k1 M = some res) : G X ad 0 4 [(0, .ref (ad k0)), (1, .ref (ad k1))] [] M := by
  unfold f_X7_formsBeyond at hf
  refine G.iconst (v := 0) C dX7_formsBeyond_0 (by decide) ?_
  refine G.istore_n (lv' := [(2, .int (0 : Int32)), (0, .ref (ad k0)), (1, .ref (ad k1))]) C dX7_formsBeyond_1 rfl (by decide) rfl ?_
  refine G.iconst (v := 0) C dX7_formsBeyond_2 (by decide) ?_
  refine G.istore_n (lv' := [(3, .int (0 : Int32)), (2, .int (0 : Int32)), (0, .ref (ad k0)), (1, .ref (ad k1))]) C dX7_formsBeyond_3 rfl (by decide) rfl ?_
  refine G.sub (lv' := [(0, .ref (ad k0)), (1, .ref (ad k1)), (2, .int (0 : Int32)), (3, .int (0 : Int32))]) [2, 3, 1, 0] rfl ?_
  exact w_X7_formsBeyond_4 hk0 hk1 C Rt FU (0 : Int32) (0 : Int32) hf
theorem mv_X7_formsBeyond : gMV yX7_formsBeyond cX7_formsBeyond 4 (some .int) 1 := ⟨k3_44, k3_45, k1_4, k3_46, ⟨by decide +kernel, by decide +kernel, by decide +kernel⟩, by decide⟩
theorem c_X7_formsBeyond {res : Int32} {k0 k1 : Nat} {M : Mem} (hk0 : gIs 17 k0) (hk1 : gIs 17 k1) (hf : f_X7_formsBeyond k0 k1 M = some res) : Ct yX7_formsBeyond cX7_formsBeyond 4 (some .int) 1 (fun ad => [.ref (ad k0), .ref (ad k1)]) M (some (.int res)) M :=
  Ct.of (by decide +kernel) (fun _ => Nat.le_of_ble_eq_true rfl) (fun X ad C Rt => w_X7_formsBeyond_E hk0 hk1 C Rt hf)
set_option maxRecDepth 100000 in
set_option maxHeartbeats 4000000 in
theorem w_X7_unlikeness_37 {X : Gc} {ad : Nat → Nat} {res : Int32} {k0 k1 : Nat} {M : Mem} {r_14 : Int32 → Int32 → Option Int32} (hk0 : gIs 17 k0) (hk1 : gIs 17 k1) (C : Gk X ad cX7_unlikeness "NineTongues$State" 4 3) (Rt : Gr X ad (some .int) (some (.int res)) M) (x2 : Int32) (x3 : Int32) (h_14 : ∀ (x2 : Int32) (x3 : Int32), r_14 x2 x3 = some res → G X ad 14 4 [(0, .ref (ad k0)), (1, .ref (ad k1)), (2, .int x2), (3, .int x3)] [] M) (hf : f_X7_unlikeness_37 k0 k1 M r_14 x2 x3 = some res) : G X ad 37 4 [(0, .ref (ad k0)), (1, .ref (ad k1)), (2, .int x2), (3, .int x3)] [] M := by
  unfold f_X7_unlikeness_37 at hf
  refine G.iinc (pl := 3) (v := (x3 + 1)) (lv' := [(3, .int (x3 + 1)), (0, .ref (ad k0)), (1, .ref (ad k1)), (2, .int x2)]) C dX7_unlikeness_37 rfl rfl (by decide) rfl ?_
  refine G.goto (tgt := 14) C dX7_unlikeness_40 (by decide) ?_
  refine G.sub (lv' := [(0, .ref (ad k0)), (1, .ref (ad k1)), (2, .int x2), (3, .int (x3 + 1))]) [1, 2, 3, 0] rfl ?_
  exact h_14 x2 (x3 + 1)  hf
set_option maxRecDepth 100000 in
set_option maxHeartbeats 4000000 in
theorem w_X7_unlikeness_14_b {X : Gc} {ad : Nat → Nat} {res : Int32} {k0 k1 : Nat} {M : Mem} {r_14 : Int32 → Int32 → Option Int32} (hk0 : gIs 17 k0) (hk1 : gIs 17 k1) (C : Gk X ad cX7_unlikeness "NineTongues$State" 4 3) (Rt : Gr X ad (some .int) (some (.int res)) M) (h_14 : ∀ (x2 : Int32) (x3 : Int32), r_14 x2 x3 = some res → G X ad 14 4 [(0, .ref (ad k0)), (1, .ref (ad k1)), (2, .int x2), (3, .int x3)] [] M) (x2 : Int32) (x3 : Int32) (hf : f_X7_unlikeness_14_b k0 k1 M r_14 x2 x3 = some res) : G X ad 14 4 [(0, .ref (ad k0)), (1, .ref (ad k1)), (2, .int x2), (3, .int x3)] [] M := by
  unfold f_X7_unlikeness_14_b at hf
  refine G.iload_n (pl := 3) C dX7_unlikeness_14 rfl rfl ?_
  refine G.iconst (v := 4) C dX7_unlikeness_15 (by decide) ?_
  refine G.icmp_ge (tgt := 43) C dX7_unlikeness_16 (by decide) (fun hc1 => ?_) (fun hc1 => ?_)
  · replace hf := gIf hf hc1
    refine G.iload_n (pl := 2) C dX7_unlikeness_43 rfl rfl ?_
    cases hf
    exact G.iret C Rt dX7_unlikeness_44
  · replace hf := gIfn hf hc1
    refine G.aload_n (pl := 0) C dX7_unlikeness_19 rfl rfl ?_
    refine gf7_3 C hk0 k1_101 dX7_unlikeness_20 ?_
    refine G.iload_n (pl := 3) C dX7_unlikeness_23 rfl rfl ?_
    obtain ⟨v1, ev1, hi1, hf⟩ := rd_some hf
    refine G.iald C (gx17_3 hk0) hi1 ev1 dX7_unlikeness_24 ?_
    refine G.aload_n (pl := 1) C dX7_unlikeness_25 rfl rfl ?_
    refine gf7_3 C hk1 k1_101 dX7_unlikeness_26 ?_
    refine G.iload_n (pl := 3) C dX7_unlikeness_29 rfl rfl ?_
    obtain ⟨v2, ev2, hi2, hf⟩ := rd_some hf
    refine G.iald C (gx17_3 hk1) hi2 ev2 dX7_unlikeness_30 ?_
    refine G.icmp_eq (tgt := 37) C dX7_unlikeness_31 (by decide) (fun hc2 => ?_) (fun hc2 => ?_)
    · replace hf := gIf hf hc2
      exact w_X7_unlikeness_37 hk0 hk1 C Rt x2 x3 h_14 hf
    · replace hf := gIfn hf hc2
      refine G.iinc (pl := 2) (v := (x2 + 1)) (lv' := [(2, .int (x2 + 1)), (0, .ref (ad k0)), (1, .ref (ad k1)), (3, .int x3)]) C dX7_unlikeness_34 rfl rfl (by decide) rfl ?_
      refine G.sub (lv' := [(0, .ref (ad k0)), (1, .ref (ad k1)), (2, .int (x2 + 1)), (3, .int x3)]) [1, 2, 0, 3] rfl ?_
      exact w_X7_unlikeness_37 hk0 hk1 C Rt (x2 + 1) x3 h_14 hf
theorem w_X7_unlikeness_14 {X : Gc} {ad : Nat → Nat} {res : Int32} {k0 k1 : Nat} {M : Mem} (hk0 : gIs 17 k0) (hk1 : gIs 17 k1) (C : Gk X ad cX7_unlikeness "NineTongues$State" 4 3) (Rt : Gr X ad (some .int) (some (.int res)) M) : ∀ (n : Nat) (x2 : Int32) (x3 : Int32), f_X7_unlikeness_14 k0 k1 M n x2 x3 = some res → G X ad 14 4 [(0, .ref (ad k0)), (1, .ref (ad k1)), (2, .int x2), (3, .int x3)] [] M := by
  intro n
  induction n with
  | zero => intro x2 x3 hf; exact absurd (show (none : Option Int32) = some res from hf) (fun h => nomatch h)
  | succ n ih => intro x2 x3 hf; exact w_X7_unlikeness_14_b hk0 hk1 C Rt ih x2 x3 hf
set_option maxRecDepth 100000 in
set_option maxHeartbeats 4000000 in
theorem w_X7_unlikeness_E {X : Gc} {ad : Nat → Nat} {res : Int32} {k0 k1 : Nat} {M : Mem} (hk0 : gIs 17 k0) (hk1 : gIs 17 k1) (C : Gk X ad cX7_unlikeness "NineTongues$State" 4 3) (Rt : Gr X ad (some .int) (some (.int res)) M) (hf : f_X7_unlikeness k0 k1 M = some res) : G X ad 0 4 [(0, .ref (ad k0)), (1, .ref (ad k1))] [] M := by
  unfold f_X7_unlikeness at hf
  refine G.aload_n (pl := 0) C dX7_unlikeness_0 rfl rfl ?_
  refine G.aload_n (pl := 1) C dX7_unlikeness_1 rfl rfl ?_
  obtain ⟨v1, hr1, hf⟩ := cp_some hf
  refine G.callV (st1 := [.int v1]) C [.ref (ad k1)] [] (c_X7_partsBeyond hk0 hk1 hr1) mv_X7_partsBeyond k3_55 hk0.1 (fun _ => gShp_17 hk0) rfl rfl rfl rfl rfl (Nat.le_of_ble_eq_true rfl) (by decide) dX7_unlikeness_2 rfl ?_
  refine G.aload_n (pl := 1) C dX7_unlikeness_5 rfl rfl ?_
  refine G.aload_n (pl := 0) C dX7_unlikeness_6 rfl rfl ?_
  obtain ⟨v2, hr2, hf⟩ := cp_some hf
  refine G.callV (st1 := [.int v2, .int v1]) C [.ref (ad k0)] [.int v1] (c_X7_partsBeyond hk1 hk0 hr2) mv_X7_partsBeyond k3_55 hk1.1 (fun _ => gShp_17 hk1) rfl rfl rfl rfl rfl (Nat.le_of_ble_eq_true rfl) (by decide) dX7_unlikeness_7 rfl ?_
  refine G.iadd C dX7_unlikeness_10 ?_
  refine G.istore_n (lv' := [(2, .int (v1 + v2)), (0, .ref (ad k0)), (1, .ref (ad k1))]) C dX7_unlikeness_11 rfl (by decide) rfl ?_
  refine G.iconst (v := 0) C dX7_unlikeness_12 (by decide) ?_
  refine G.istore_n (lv' := [(3, .int (0 : Int32)), (2, .int (v1 + v2)), (0, .ref (ad k0)), (1, .ref (ad k1))]) C dX7_unlikeness_13 rfl (by decide) rfl ?_
  refine G.sub (lv' := [(0, .ref (ad k0)), (1, .ref (ad k1)), (2, .int (v1 + v2)), (3, .int (0 : Int32))]) [2, 3, 1, 0] rfl ?_
  exact w_X7_unlikeness_14 hk0 hk1 C Rt FU (v1 + v2) (0 : Int32) hf
theorem mv_X7_unlikeness : gMV yX7_unlikeness cX7_unlikeness 4 (some .int) 1 := ⟨k3_52, k3_53, k1_4, k3_54, ⟨by decide +kernel, by decide +kernel, by decide +kernel⟩, by decide⟩
theorem c_X7_unlikeness {res : Int32} {k0 k1 : Nat} {M : Mem} (hk0 : gIs 17 k0) (hk1 : gIs 17 k1) (hf : f_X7_unlikeness k0 k1 M = some res) : Ct yX7_unlikeness cX7_unlikeness 4 (some .int) 3 (fun ad => [.ref (ad k0), .ref (ad k1)]) M (some (.int res)) M :=
  Ct.of (by decide +kernel) (fun _ => Nat.le_of_ble_eq_true rfl) (fun X ad C Rt => w_X7_unlikeness_E hk0 hk1 C Rt hf)
set_option maxRecDepth 100000 in
set_option maxHeartbeats 4000000 in
theorem w_X7_isSameAs_2_b {X : Gc} {ad : Nat → Nat} {res : Int32} {k0 k1 : Nat} {M : Mem} {r_2 : Int32 → Option Int32} (hk0 : gIs 17 k0) (hk1 : gIs 17 k1) (C : Gk X ad cX7_isSameAs "NineTongues$State" 3 4) (Rt : Gr X ad (some .boolean) (some (.int res)) M) (h_2 : ∀ (x2 : Int32), r_2 x2 = some res → G X ad 2 3 [(0, .ref (ad k0)), (1, .ref (ad k1)), (2, .int x2)] [] M) (x2 : Int32) (hf : f_X7_isSameAs_2_b k0 k1 M r_2 x2 = some res) : G X ad 2 3 [(0, .ref (ad k0)), (1, .ref (ad k1)), (2, .int x2)] [] M := by
  unfold f_X7_isSameAs_2_b at hf
  refine G.iload_n (pl := 2) C dX7_isSameAs_2 rfl rfl ?_
  refine G.aload_n (pl := 0) C dX7_isSameAs_3 rfl rfl ?_
  refine gf7_0 C hk0 k1_88 dX7_isSameAs_4 ?_
  refine G.icmp_ge (tgt := 33) C dX7_isSameAs_7 (by decide) (fun hc1 => ?_) (fun hc1 => ?_)
  · replace hf := gIf hf hc1
    refine G.aload_n (pl := 0) C dX7_isSameAs_33 rfl rfl ?_
    refine gf7_0 C hk0 k1_88 dX7_isSameAs_34 ?_
    refine G.aload_n (pl := 1) C dX7_isSameAs_37 rfl rfl ?_
    refine gf7_0 C hk1 k1_88 dX7_isSameAs_38 ?_
    refine G.icmp_ne (tgt := 56) C dX7_isSameAs_41 (by decide) (fun hc2 => ?_) (fun hc2 => ?_)
    · replace hf := gIfn hf hc2
      refine G.iconst (v := 0) C dX7_isSameAs_56 (by decide) ?_
      cases hf
      exact G.zret C rfl Rt dX7_isSameAs_57
    · replace hf := gIf hf hc2
      refine G.aload_n (pl := 0) C dX7_isSameAs_44 rfl rfl ?_
      refine G.aload_n (pl := 1) C dX7_isSameAs_45 rfl rfl ?_
      obtain ⟨v1, hr1, hf⟩ := cp_some hf
      refine G.callV (st1 := [.int v1]) C [.ref (ad k1)] [] (c_X7_unlikeness hk0 hk1 hr1) mv_X7_unlikeness k3_121 hk0.1 (fun _ => gShp_17 hk0) rfl rfl rfl rfl rfl (Nat.le_of_ble_eq_true rfl) (by decide) dX7_isSameAs_46 rfl ?_
      refine G.if_ne (tgt := 56) C dX7_isSameAs_49 (by decide) (fun hc3 => ?_) (fun hc3 => ?_)
      · replace hf := gIfn hf hc3
        refine G.iconst (v := 0) C dX7_isSameAs_56 (by decide) ?_
        cases hf
        exact G.zret C rfl Rt dX7_isSameAs_57
      · replace hf := gIf hf hc3
        refine G.iconst (v := 1) C dX7_isSameAs_52 (by decide) ?_
        refine G.goto (tgt := 57) C dX7_isSameAs_53 (by decide) ?_
        cases hf
        exact G.zret C rfl Rt dX7_isSameAs_57
  · replace hf := gIfn hf hc1
    refine G.aload_n (pl := 0) C dX7_isSameAs_10 rfl rfl ?_
    refine gf7_2 C hk0 k1_98 dX7_isSameAs_11 ?_
    refine G.iload_n (pl := 2) C dX7_isSameAs_14 rfl rfl ?_
    obtain ⟨v2, ev1, hi1, hf⟩ := rd_some hf
    refine G.iald C (gx17_2 hk0) hi1 ev1 dX7_isSameAs_15 ?_
    refine G.aload_n (pl := 1) C dX7_isSameAs_16 rfl rfl ?_
    refine gf7_2 C hk1 k1_98 dX7_isSameAs_17 ?_
    refine G.iload_n (pl := 2) C dX7_isSameAs_20 rfl rfl ?_
    obtain ⟨v3, ev2, hi2, hf⟩ := rd_some hf
    refine G.iald C (gx17_2 hk1) hi2 ev2 dX7_isSameAs_21 ?_
    refine G.icmp_eq (tgt := 27) C dX7_isSameAs_22 (by decide) (fun hc4 => ?_) (fun hc4 => ?_)
    · replace hf := gIf hf hc4
      refine G.iinc (pl := 2) (v := (x2 + 1)) (lv' := [(2, .int (x2 + 1)), (0, .ref (ad k0)), (1, .ref (ad k1))]) C dX7_isSameAs_27 rfl rfl (by decide) rfl ?_
      refine G.goto (tgt := 2) C dX7_isSameAs_30 (by decide) ?_
      refine G.sub (lv' := [(0, .ref (ad k0)), (1, .ref (ad k1)), (2, .int (x2 + 1))]) [1, 2, 0] rfl ?_
      exact h_2 (x2 + 1)  hf
    · replace hf := gIfn hf hc4
      refine G.iconst (v := 0) C dX7_isSameAs_25 (by decide) ?_
      cases hf
      exact G.zret C rfl Rt dX7_isSameAs_26
theorem w_X7_isSameAs_2 {X : Gc} {ad : Nat → Nat} {res : Int32} {k0 k1 : Nat} {M : Mem} (hk0 : gIs 17 k0) (hk1 : gIs 17 k1) (C : Gk X ad cX7_isSameAs "NineTongues$State" 3 4) (Rt : Gr X ad (some .boolean) (some (.int res)) M) : ∀ (n : Nat) (x2 : Int32), f_X7_isSameAs_2 k0 k1 M n x2 = some res → G X ad 2 3 [(0, .ref (ad k0)), (1, .ref (ad k1)), (2, .int x2)] [] M := by
  intro n
  induction n with
  | zero => intro x2 hf; exact absurd (show (none : Option Int32) = some res from hf) (fun h => nomatch h)
  | succ n ih => intro x2 hf; exact w_X7_isSameAs_2_b hk0 hk1 C Rt ih x2 hf
set_option maxRecDepth 100000 in
set_option maxHeartbeats 4000000 in
theorem w_X7_isSameAs_E {X : Gc} {ad : Nat → Nat} {res : Int32} {k0 k1 : Nat} {M : Mem} (hk0 : gIs 17 k0) (hk1 : gIs 17 k1) (C : Gk X ad cX7_isSameAs "NineTongues$State" 3 4) (Rt : Gr X ad (some .boolean) (some (.int res)) M) (hf : f_X7_isSameAs k0 k1 M = some res) : G X ad 0 3 [(0, .ref (ad k0)), (1, .ref (ad k1))] [] M := by
  unfold f_X7_isSameAs at hf
  refine G.iconst (v := 0) C dX7_isSameAs_0 (by decide) ?_
  refine G.istore_n (lv' := [(2, .int (0 : Int32)), (0, .ref (ad k0)), (1, .ref (ad k1))]) C dX7_isSameAs_1 rfl (by decide) rfl ?_
  refine G.sub (lv' := [(0, .ref (ad k0)), (1, .ref (ad k1)), (2, .int (0 : Int32))]) [1, 2, 0] rfl ?_
  exact w_X7_isSameAs_2 hk0 hk1 C Rt FU (0 : Int32) hf
theorem mv_X7_isSameAs : gMV yX7_isSameAs cX7_isSameAs 3 (some .boolean) 1 := ⟨k3_118, k3_119, k1_4, k3_120, ⟨by decide +kernel, by decide +kernel, by decide +kernel⟩, by decide⟩
theorem c_X7_isSameAs {res : Int32} {k0 k1 : Nat} {M : Mem} (hk0 : gIs 17 k0) (hk1 : gIs 17 k1) (hf : f_X7_isSameAs k0 k1 M = some res) : Ct yX7_isSameAs cX7_isSameAs 3 (some .boolean) 4 (fun ad => [.ref (ad k0), .ref (ad k1)]) M (some (.int res)) M :=
  Ct.of (by decide +kernel) (fun _ => Nat.le_of_ble_eq_true rfl) (fun X ad C Rt => w_X7_isSameAs_E hk0 hk1 C Rt hf)
set_option maxRecDepth 100000 in
set_option maxHeartbeats 4000000 in
theorem w_X8_copyFrom_E {X : Gc} {ad : Nat → Nat} {res : (Unit × Mem)} {k0 k1 : Nat} (hk0 : gIs 18 k0) (hk1 : gIs 18 k1) (C : Gk X ad cX8_copyFrom "NineTongues$Stock" 2 2) (Rt : Gr X ad none none res.2) (M : Mem) (hf : f_X8_copyFrom k0 k1 M = some res) : G X ad 0 2 [(0, .ref (ad k0)), (1, .ref (ad k1))] [] M := by
  unfold f_X8_copyFrom at hf
  refine G.aload_n (pl := 0) C dX8_copyFrom_0 rfl rfl ?_
  refine gf8_0 C hk0 k1_172 dX8_copyFrom_1 ?_
  refine G.aload_n (pl := 1) C dX8_copyFrom_4 rfl rfl ?_
  refine gf8_0 C hk1 k1_172 dX8_copyFrom_5 ?_
  obtain ⟨u, M1, hr1, hf⟩ := cl_some hf
  refine G.callV (st1 := []) C [.ref (ad (k1 + 1))] [] (c_X1_copyFrom (gx18_0 hk0) (gx18_0 hk1) hr1) mv_X1_copyFrom k4_21 (gx18_0 hk0).1 (fun _ => gShp_11 (gx18_0 hk0)) rfl rfl rfl rfl rfl (Nat.le_of_ble_eq_true rfl) (by decide) dX8_copyFrom_8 rfl ?_
  refine G.aload_n (pl := 0) C dX8_copyFrom_11 rfl rfl ?_
  refine gf8_1 C hk0 k1_175 dX8_copyFrom_12 ?_
  refine G.aload_n (pl := 1) C dX8_copyFrom_15 rfl rfl ?_
  refine gf8_1 C hk1 k1_175 dX8_copyFrom_16 ?_
  obtain ⟨u, M2, hr2, hf⟩ := cl_some hf
  refine G.callV (st1 := []) C [.ref (ad (k1 + 9))] [] (c_X7_copyFrom (gx18_1 hk0) (gx18_1 hk1) hr2) mv_X7_copyFrom k4_26 (gx18_1 hk0).1 (fun _ => gShp_17 (gx18_1 hk0)) rfl rfl rfl rfl rfl (Nat.le_of_ble_eq_true rfl) (by decide) dX8_copyFrom_19 rfl ?_
  refine G.aload_n (pl := 0) C dX8_copyFrom_22 rfl rfl ?_
  refine gf8_2 C hk0 k1_178 dX8_copyFrom_23 ?_
  refine G.aload_n (pl := 1) C dX8_copyFrom_26 rfl rfl ?_
  refine gf8_2 C hk1 k1_178 dX8_copyFrom_27 ?_
  obtain ⟨u, M3, hr3, hf⟩ := cl_some hf
  refine G.callV (st1 := []) C [.ref (ad (k1 + 13))] [] (c_X3_copyFrom (gx18_2 hk0) (gx18_2 hk1) hr3) mv_X3_copyFrom k4_27 (gx18_2 hk0).1 (fun _ => gShp_13 (gx18_2 hk0)) rfl rfl rfl rfl rfl (Nat.le_of_ble_eq_true rfl) (by decide) dX8_copyFrom_30 rfl ?_
  refine G.aload_n (pl := 0) C dX8_copyFrom_33 rfl rfl ?_
  refine gf8_3 C hk0 k1_180 dX8_copyFrom_34 ?_
  refine G.aload_n (pl := 1) C dX8_copyFrom_37 rfl rfl ?_
  refine gf8_3 C hk1 k1_180 dX8_copyFrom_38 ?_
  obtain ⟨u, M4, hr4, hf⟩ := cl_some hf
  refine G.callV (st1 := []) C [.ref (ad (k1 + 15))] [] (c_X0_copyFrom (gx18_3 hk0) (gx18_3 hk1) hr4) mv_X0_copyFrom k4_32 (gx18_3 hk0).1 (fun _ => gShp_10 (gx18_3 hk0)) rfl rfl rfl rfl rfl (Nat.le_of_ble_eq_true rfl) (by decide) dX8_copyFrom_41 rfl ?_
  refine G.aload_n (pl := 0) C dX8_copyFrom_44 rfl rfl ?_
  refine gf8_4 C hk0 k1_182 dX8_copyFrom_45 ?_
  refine G.aload_n (pl := 1) C dX8_copyFrom_48 rfl rfl ?_
  refine gf8_4 C hk1 k1_182 dX8_copyFrom_49 ?_
  obtain ⟨u, M5, hr5, hf⟩ := cl_some hf
  refine G.callV (st1 := []) C [.ref (ad (k1 + 18))] [] (c_X2_copyFrom (gx18_4 hk0) (gx18_4 hk1) hr5) mv_X2_copyFrom k4_37 (gx18_4 hk0).1 (fun _ => gShp_12 (gx18_4 hk0)) rfl rfl rfl rfl rfl (Nat.le_of_ble_eq_true rfl) (by decide) dX8_copyFrom_52 rfl ?_
  cases hf
  exact G.vret C Rt dX8_copyFrom_55
theorem mv_X8_copyFrom : gMV yX8_copyFrom cX8_copyFrom 2 none 1 := ⟨k4_18, k4_19, k1_2, k4_20, ⟨by decide +kernel, by decide +kernel, by decide +kernel⟩, by decide⟩
theorem c_X8_copyFrom {res : (Unit × Mem)} {k0 k1 : Nat} {M : Mem} (hk0 : gIs 18 k0) (hk1 : gIs 18 k1) (hf : f_X8_copyFrom k0 k1 M = some res) : Ct yX8_copyFrom cX8_copyFrom 2 none 2 (fun ad => [.ref (ad k0), .ref (ad k1)]) M none res.2 :=
  Ct.of (by decide +kernel) (fun _ => Nat.le_of_ble_eq_true rfl) (fun X ad C Rt => w_X8_copyFrom_E hk0 hk1 C Rt M hf)
set_option maxRecDepth 100000 in
set_option maxHeartbeats 4000000 in
theorem w_X8_wordsOf_E {X : Gc} {ad : Nat → Nat} {res : Int32} {M : Mem} (C : Gk X ad cX8_wordsOf "NineTongues$Stock" 2 3) (Rt : Gr X ad (some .int) (some (.int res)) M) (x1 : Int32) (hf : f_X8_wordsOf x1 M = some res) : G X ad 0 2 [(0, .ref (ad 5)), (1, .int x1)] [] M := by
  unfold f_X8_wordsOf at hf
  refine G.aload_n (pl := 0) C dX8_wordsOf_0 rfl rfl ?_
  refine gf8_0 C o_5 k1_172 dX8_wordsOf_1 ?_
  refine G.iload_n (pl := 1) C dX8_wordsOf_4 rfl rfl ?_
  obtain ⟨v1, hr1, hf⟩ := cp_some hf
  refine G.callV (st1 := [.int v1]) C [.int x1] [] (c_X1_hasTongue hr1) mv_X1_hasTongue k4_62 o_6.1 (fun _ => gShp_11 o_6) rfl rfl rfl rfl rfl (Nat.le_of_ble_eq_true rfl) (by decide) dX8_wordsOf_5 rfl ?_
  refine G.if_eq (tgt := 23) C dX8_wordsOf_8 (by decide) (fun hc1 => ?_) (fun hc1 => ?_)
  · replace hf := gIf hf hc1
    refine G.iconst (v := 0) C dX8_wordsOf_23 (by decide) ?_
    cases hf
    exact G.iret C Rt dX8_wordsOf_24
  · replace hf := gIfn hf hc1
    refine G.aload_n (pl := 0) C dX8_wordsOf_11 rfl rfl ?_
    refine gf8_0 C o_5 k1_172 dX8_wordsOf_12 ?_
    refine gf1_6 C o_6 k1_48 dX8_wordsOf_15 ?_
    refine G.iload_n (pl := 1) C dX8_wordsOf_18 rfl rfl ?_
    obtain ⟨v2, ev1, hi1, hf⟩ := rd_some hf
    refine G.iald C a_10 hi1 ev1 dX8_wordsOf_19 ?_
    refine G.goto (tgt := 24) C dX8_wordsOf_20 (by decide) ?_
    cases hf
    exact G.iret C Rt dX8_wordsOf_24
theorem mv_X8_wordsOf : gMV yX8_wordsOf cX8_wordsOf 2 (some .int) 1 := ⟨k4_60, kS_24, k1_2, k4_61, ⟨by decide +kernel, by decide +kernel, by decide +kernel⟩, by decide⟩
theorem c_X8_wordsOf {res : Int32} {x1 : Int32} {M : Mem} (hf : f_X8_wordsOf x1 M = some res) : Ct yX8_wordsOf cX8_wordsOf 2 (some .int) 3 (fun ad => [.ref (ad 5), .int x1]) M (some (.int res)) M :=
  Ct.of (by decide +kernel) (fun _ => Nat.le_of_ble_eq_true rfl) (fun X ad C Rt => w_X8_wordsOf_E C Rt x1 hf)
set_option maxRecDepth 100000 in
set_option maxHeartbeats 4000000 in
theorem w_X8_howMany_E {X : Gc} {ad : Nat → Nat} {res : Int32} {M : Mem} (C : Gk X ad cX8_howMany "NineTongues$Stock" 2 4) (Rt : Gr X ad (some .int) (some (.int res)) M) (x1 : Int32) (hf : f_X8_howMany x1 M = some res) : G X ad 0 2 [(0, .ref (ad 5)), (1, .int x1)] [] M := by
  unfold f_X8_howMany at hf
  refine G.iload_n (pl := 1) C dX8_howMany_0 rfl rfl ?_
  by_cases hs1 : x1 = 0
  · replace hf := gIf hf hs1
    refine G.tableIn (tgt := 32) (off := 31) C dX8_howMany_1 (by rw [hs1]; decide) (by rw [hs1]; decide) (by rw [hs1]; rfl) (by decide) ?_
    refine G.aload_n (pl := 0) C dX8_howMany_32 rfl rfl ?_
    refine gf8_0 C o_5 k1_172 dX8_howMany_33 ?_
    refine gf1_0 C o_6 k1_38 dX8_howMany_36 ?_
    cases hf
    exact G.iret C Rt dX8_howMany_39
  · replace hf := gIfn hf hs1
    by_cases hs2 : x1 = 1
    · replace hf := gIf hf hs2
      refine G.tableIn (tgt := 40) (off := 39) C dX8_howMany_1 (by rw [hs2]; decide) (by rw [hs2]; decide) (by rw [hs2]; rfl) (by decide) ?_
      refine G.aload_n (pl := 0) C dX8_howMany_40 rfl rfl ?_
      refine gf8_1 C o_5 k1_175 dX8_howMany_41 ?_
      refine gf7_0 C o_14 k1_90 dX8_howMany_44 ?_
      cases hf
      exact G.iret C Rt dX8_howMany_47
    · replace hf := gIfn hf hs2
      by_cases hs3 : x1 = 2
      · replace hf := gIf hf hs3
        refine G.tableIn (tgt := 48) (off := 47) C dX8_howMany_1 (by rw [hs3]; decide) (by rw [hs3]; decide) (by rw [hs3]; rfl) (by decide) ?_
        refine G.aload_n (pl := 0) C dX8_howMany_48 rfl rfl ?_
        refine gf8_2 C o_5 k1_178 dX8_howMany_49 ?_
        refine gf3_0 C o_18 k1_123 dX8_howMany_52 ?_
        cases hf
        exact G.iret C Rt dX8_howMany_55
      · replace hf := gIfn hf hs3
        by_cases hs4 : x1 = 3
        · replace hf := gIf hf hs4
          refine G.tableIn (tgt := 56) (off := 55) C dX8_howMany_1 (by rw [hs4]; decide) (by rw [hs4]; decide) (by rw [hs4]; rfl) (by decide) ?_
          refine G.aload_n (pl := 0) C dX8_howMany_56 rfl rfl ?_
          refine gf8_4 C o_5 k1_182 dX8_howMany_57 ?_
          refine gf2_0 C o_23 k1_159 dX8_howMany_60 ?_
          cases hf
          exact G.iret C Rt dX8_howMany_63
        · replace hf := gIfn hf hs4
          refine G.tableOut (tgt := 64) C dX8_howMany_1 (gSw (n := 4) (fun k hk => by match k, hk with | 0, _ => exact hs1 | 1, _ => exact hs2 | 2, _ => exact hs3 | 3, _ => exact hs4 | k + 4, hk => exact absurd hk (by omega)) (by decide)) (by decide) ?_
          refine G.aload_n (pl := 0) C dX8_howMany_64 rfl rfl ?_
          refine G.iload_n (pl := 1) C dX8_howMany_65 rfl rfl ?_
          refine G.iconst (v := 4) C dX8_howMany_66 (by decide) ?_
          refine G.isub C dX8_howMany_67 ?_
          obtain ⟨v1, hr1, hf⟩ := cp_some hf
          refine G.callV (st1 := [.int v1]) C [.int (x1 - (4 : Int32))] [] (c_X8_wordsOf hr1) mv_X8_wordsOf k4_58 o_5.1 (fun _ => gShp_18 o_5) rfl rfl rfl rfl rfl (Nat.le_of_ble_eq_true rfl) (by decide) dX8_howMany_68 rfl ?_
          cases hf
          exact G.iret C Rt dX8_howMany_71
theorem mv_X8_howMany : gMV yX8_howMany cX8_howMany 2 (some .int) 1 := ⟨k4_55, k4_56, k1_2, k4_57, ⟨by decide +kernel, by decide +kernel, by decide +kernel⟩, by decide⟩
theorem c_X8_howMany {res : Int32} {x1 : Int32} {M : Mem} (hf : f_X8_howMany x1 M = some res) : Ct yX8_howMany cX8_howMany 2 (some .int) 4 (fun ad => [.ref (ad 5), .int x1]) M (some (.int res)) M :=
  Ct.of (by decide +kernel) (fun _ => Nat.le_of_ble_eq_true rfl) (fun X ad C Rt => w_X8_howMany_E C Rt x1 hf)
set_option maxRecDepth 100000 in
set_option maxHeartbeats 4000000 in
theorem w_X9_mixRow_37 {X : Gc} {ad : Nat → Nat} {res : Int64} {q2 n2 : Nat} {M : Mem} (hq2 : gArr n2 q2) (C : Gk X ad cX9_mixRow "NineTongues" 7 2) (Rt : Gr X ad (some .long) (some (.long res)) M) (x4 : Int64) (hf : f_X9_mixRow_37 q2 n2 M x4 = some res) : G X ad 37 7 [(4, .long x4)] [] M := by
  unfold f_X9_mixRow_37 at hf
  refine G.lload (pl := 0) C dX9_mixRow_37 rfl ?_
  cases hf
  exact G.lret C Rt dX9_mixRow_39
set_option maxRecDepth 100000 in
set_option maxHeartbeats 4000000 in
theorem w_X9_mixRow_6_b {X : Gc} {ad : Nat → Nat} {res : Int64} {q2 n2 : Nat} {M : Mem} {r_6 : Int64 → Int32 → Option Int64} (hq2 : gArr n2 q2) (C : Gk X ad cX9_mixRow "NineTongues" 7 2) (Rt : Gr X ad (some .long) (some (.long res)) M) (x3 : Int32) (h_6 : ∀ (x4 : Int64) (x6 : Int32), r_6 x4 x6 = some res → G X ad 6 7 [(2, .ref (ad q2)), (3, .int x3), (4, .long x4), (6, .int x6)] [] M) (x4 : Int64) (x6 : Int32) (hf : f_X9_mixRow_6_b q2 n2 M r_6 x3 x4 x6 = some res) : G X ad 6 7 [(2, .ref (ad q2)), (3, .int x3), (4, .long x4), (6, .int x6)] [] M := by
  unfold f_X9_mixRow_6_b at hf
  refine G.iload (pl := 3) C dX9_mixRow_6 rfl ?_
  refine G.iload_n (pl := 1) C dX9_mixRow_8 rfl rfl ?_
  refine G.icmp_ge (tgt := 37) C dX9_mixRow_9 (by decide) (fun hc1 => ?_) (fun hc1 => ?_)
  · replace hf := gIf hf hc1
    refine G.sub (lv' := [(4, .long x4)]) [2] rfl ?_
    exact w_X9_mixRow_37 hq2 C Rt x4 hf
  · replace hf := gIfn hf hc1
    refine G.iload (pl := 3) C dX9_mixRow_12 rfl ?_
    refine G.aload_n (pl := 0) C dX9_mixRow_14 rfl rfl ?_
    refine G.alen (v := (Int32.ofNat n2)) C hq2 rfl dX9_mixRow_15 ?_
    refine G.icmp_ge (tgt := 37) C dX9_mixRow_16 (by decide) (fun hc2 => ?_) (fun hc2 => ?_)
    · replace hf := gIf hf hc2
      refine G.sub (lv' := [(4, .long x4)]) [2] rfl ?_
      exact w_X9_mixRow_37 hq2 C Rt x4 hf
    · replace hf := gIfn hf hc2
      refine G.lload (pl := 2) C dX9_mixRow_19 rfl ?_
      refine G.aload_n (pl := 0) C dX9_mixRow_21 rfl rfl ?_
      refine G.iload (pl := 3) C dX9_mixRow_22 rfl ?_
      obtain ⟨v1, ev1, hi1, hf⟩ := rd_some hf
      refine G.iald C hq2 hi1 ev1 dX9_mixRow_24 ?_
      refine G.i2l C dX9_mixRow_25 ?_
      obtain ⟨v2, hr1, hf⟩ := cp_some hf
      refine G.callS (st1 := [.long v2]) C [.long x4, .long v1.toInt64] [] (c_X9_mix hr1) mv_X9_mix k4_85 rfl rfl rfl (Nat.le_of_ble_eq_true rfl) (by decide) dX9_mixRow_26 rfl ?_
      refine G.lstore (lv' := [(4, .long v2), (2, .ref (ad q2)), (3, .int x3), (6, .int x6)]) C dX9_mixRow_29 (by decide) rfl ?_
      refine G.iinc (pl := 3) (v := (x6 + 1)) (lv' := [(6, .int (x6 + 1)), (4, .long v2), (2, .ref (ad q2)), (3, .int x3)]) C dX9_mixRow_31 rfl rfl (by decide) rfl ?_
      refine G.goto (tgt := 6) C dX9_mixRow_34 (by decide) ?_
      refine G.sub (lv' := [(2, .ref (ad q2)), (3, .int x3), (4, .long v2), (6, .int (x6 + 1))]) [2, 3, 1, 0] rfl ?_
      exact h_6 v2 (x6 + 1)  hf
theorem w_X9_mixRow_6 {X : Gc} {ad : Nat → Nat} {res : Int64} {q2 n2 : Nat} {M : Mem} (hq2 : gArr n2 q2) (C : Gk X ad cX9_mixRow "NineTongues" 7 2) (Rt : Gr X ad (some .long) (some (.long res)) M) (x3 : Int32) : ∀ (n : Nat) (x4 : Int64) (x6 : Int32), f_X9_mixRow_6 q2 n2 M x3 n x4 x6 = some res → G X ad 6 7 [(2, .ref (ad q2)), (3, .int x3), (4, .long x4), (6, .int x6)] [] M := by
  intro n
  induction n with
  | zero => intro x4 x6 hf; exact absurd (show (none : Option Int64) = some res from hf) (fun h => nomatch h)
  | succ n ih => intro x4 x6 hf; exact w_X9_mixRow_6_b hq2 C Rt x3 ih x4 x6 hf
set_option maxRecDepth 100000 in
set_option maxHeartbeats 4000000 in
theorem w_X9_mixRow_E {X : Gc} {ad : Nat → Nat} {res : Int64} {q2 n2 : Nat} {M : Mem} (hq2 : gArr n2 q2) (C : Gk X ad cX9_mixRow "NineTongues" 7 2) (Rt : Gr X ad (some .long) (some (.long res)) M) (x0 : Int64) (x3 : Int32) (hf : f_X9_mixRow q2 n2 x0 x3 M = some res) : G X ad 0 7 [(0, .long x0), (2, .ref (ad q2)), (3, .int x3)] [] M := by
  unfold f_X9_mixRow at hf
  refine G.lload_n (pl := 0) C dX9_mixRow_0 rfl rfl ?_
  refine G.lstore (lv' := [(4, .long x0), (0, .long x0), (2, .ref (ad q2)), (3, .int x3)]) C dX9_mixRow_1 (by decide) rfl ?_
  refine G.iconst (v := 0) C dX9_mixRow_3 (by decide) ?_
  refine G.istore (lv' := [(6, .int (0 : Int32)), (4, .long x0), (0, .long x0), (2, .ref (ad q2)), (3, .int x3)]) C dX9_mixRow_4 (by decide) rfl ?_
  refine G.sub (lv' := [(2, .ref (ad q2)), (3, .int x3), (4, .long x0), (6, .int (0 : Int32))]) [3, 4, 1, 0] rfl ?_
  exact w_X9_mixRow_6 hq2 C Rt x3 FU x0 (0 : Int32) hf
theorem mv_X9_mixRow : gMS yX9_mixRow cX9_mixRow 7 (some .long) 3 := ⟨k4_83, k1_1, k4_84, ⟨by decide +kernel, by decide +kernel, by decide +kernel⟩, by decide⟩
theorem c_X9_mixRow {res : Int64} {q2 n2 : Nat} {x0 : Int64} {x3 : Int32} {M : Mem} (hq2 : gArr n2 q2) (hf : f_X9_mixRow q2 n2 x0 x3 M = some res) : Ct yX9_mixRow cX9_mixRow 7 (some .long) 2 (fun ad => [.long x0, .ref (ad q2), .int x3]) M (some (.long res)) M :=
  Ct.of (by decide +kernel) (fun _ => Nat.le_of_ble_eq_true rfl) (fun X ad C Rt => w_X9_mixRow_E hq2 C Rt x0 x3 hf)
set_option maxRecDepth 100000 in
set_option maxHeartbeats 4000000 in
theorem w_X8_mixAll_5_b {X : Gc} {ad : Nat → Nat} {res : Int64} {M : Mem} {r_5 : Int64 → Int32 → Option Int64} (C : Gk X ad cX8_mixAll "NineTongues$Stock" 6 5) (Rt : Gr X ad (some .long) (some (.long res)) M) (h_5 : ∀ (x3 : Int64) (x5 : Int32), r_5 x3 x5 = some res → G X ad 5 6 [(0, .ref (ad 5)), (3, .long x3), (5, .int x5)] [] M) (x3 : Int64) (x5 : Int32) (hf : f_X8_mixAll_5_b M r_5 x3 x5 = some res) : G X ad 5 6 [(0, .ref (ad 5)), (3, .long x3), (5, .int x5)] [] M := by
  unfold f_X8_mixAll_5_b at hf
  refine G.iload (pl := 2) C dX8_mixAll_5 rfl ?_
  refine G.bipush (v := 10) C dX8_mixAll_7 (by decide) ?_
  refine G.icmp_ge (tgt := 30) C dX8_mixAll_9 (by decide) (fun hc1 => ?_) (fun hc1 => ?_)
  · replace hf := gIf hf hc1
    refine G.aload_n (pl := 0) C dX8_mixAll_30 rfl rfl ?_
    refine gf8_0 C o_5 k1_172 dX8_mixAll_31 ?_
    refine G.lload_n (pl := 1) C dX8_mixAll_34 rfl rfl ?_
    obtain ⟨v1, hr1, hf⟩ := cp_some hf
    refine G.callV (st1 := [.long v1]) C [.long x3] [] (c_X1_mixTongues hr1) mv_X1_mixTongues k4_77 o_6.1 (fun _ => gShp_11 o_6) rfl rfl rfl rfl rfl (Nat.le_of_ble_eq_true rfl) (by decide) dX8_mixAll_35 rfl ?_
    refine G.lstore_n (lv' := [(3, .long v1), (0, .ref (ad 5)), (5, .int x5)]) C dX8_mixAll_38 rfl (by decide) rfl ?_
    refine G.lload_n (pl := 0) C dX8_mixAll_39 rfl rfl ?_
    refine G.aload_n (pl := 1) C dX8_mixAll_40 rfl rfl ?_
    refine gf8_1 C o_5 k1_175 dX8_mixAll_41 ?_
    refine gf7_1 C o_14 k1_95 dX8_mixAll_44 ?_
    refine G.aload_n (pl := 1) C dX8_mixAll_47 rfl rfl ?_
    refine gf8_1 C o_5 k1_175 dX8_mixAll_48 ?_
    refine gf7_0 C o_14 k1_90 dX8_mixAll_51 ?_
    obtain ⟨v2, hr2, hf⟩ := cp_some hf
    refine G.callN (st1 := [.long v2]) C [.long v1, .ref (ad 15), .int (M.1 14 0)] [] (c_X9_mixRow a_15 hr2) mv_X9_mixRow (List.mem_of_getElem? (i := 6) rfl) rfl rfl rfl (Nat.le_of_ble_eq_true rfl) (by decide) dX8_mixAll_54 rfl ?_
    refine G.lstore_n (lv' := [(3, .long v2), (0, .ref (ad 5)), (5, .int x5)]) C dX8_mixAll_57 rfl (by decide) rfl ?_
    refine G.lload_n (pl := 0) C dX8_mixAll_58 rfl rfl ?_
    refine G.aload_n (pl := 1) C dX8_mixAll_59 rfl rfl ?_
    refine gf8_1 C o_5 k1_175 dX8_mixAll_60 ?_
    refine gf7_3 C o_14 k1_103 dX8_mixAll_63 ?_
    refine G.iconst (v := 4) C dX8_mixAll_66 (by decide) ?_
    obtain ⟨v3, hr3, hf⟩ := cp_some hf
    refine G.callN (st1 := [.long v3]) C [.long v2, .ref (ad 17), .int (4 : Int32)] [] (c_X9_mixRow a_17 hr3) mv_X9_mixRow (List.mem_of_getElem? (i := 6) rfl) rfl rfl rfl (Nat.le_of_ble_eq_true rfl) (by decide) dX8_mixAll_67 rfl ?_
    refine G.lstore_n (lv' := [(3, .long v3), (0, .ref (ad 5)), (5, .int x5)]) C dX8_mixAll_70 rfl (by decide) rfl ?_
    refine G.lload_n (pl := 0) C dX8_mixAll_71 rfl rfl ?_
    refine G.aload_n (pl := 1) C dX8_mixAll_72 rfl rfl ?_
    refine gf8_2 C o_5 k1_178 dX8_mixAll_73 ?_
    refine gf3_1 C o_18 k1_127 dX8_mixAll_76 ?_
    refine G.aload_n (pl := 1) C dX8_mixAll_79 rfl rfl ?_
    refine gf8_2 C o_5 k1_178 dX8_mixAll_80 ?_
    refine gf3_0 C o_18 k1_123 dX8_mixAll_83 ?_
    obtain ⟨v4, hr4, hf⟩ := cp_some hf
    refine G.callN (st1 := [.long v4]) C [.long v3, .ref (ad 19), .int (M.1 18 0)] [] (c_X9_mixRow a_19 hr4) mv_X9_mixRow (List.mem_of_getElem? (i := 6) rfl) rfl rfl rfl (Nat.le_of_ble_eq_true rfl) (by decide) dX8_mixAll_86 rfl ?_
    refine G.lstore_n (lv' := [(3, .long v4), (0, .ref (ad 5)), (5, .int x5)]) C dX8_mixAll_89 rfl (by decide) rfl ?_
    refine G.lload_n (pl := 0) C dX8_mixAll_90 rfl rfl ?_
    refine G.aload_n (pl := 1) C dX8_mixAll_91 rfl rfl ?_
    refine gf8_3 C o_5 k1_180 dX8_mixAll_92 ?_
    refine gf0_0 C o_20 k1_141 dX8_mixAll_95 ?_
    refine G.bipush (v := 6) C dX8_mixAll_98 (by decide) ?_
    obtain ⟨v5, hr5, hf⟩ := cp_some hf
    refine G.callN (st1 := [.long v5]) C [.long v4, .ref (ad 21), .int (6 : Int32)] [] (c_X9_mixRow a_21 hr5) mv_X9_mixRow (List.mem_of_getElem? (i := 6) rfl) rfl rfl rfl (Nat.le_of_ble_eq_true rfl) (by decide) dX8_mixAll_100 rfl ?_
    refine G.lstore_n (lv' := [(3, .long v5), (0, .ref (ad 5)), (5, .int x5)]) C dX8_mixAll_103 rfl (by decide) rfl ?_
    refine G.lload_n (pl := 0) C dX8_mixAll_104 rfl rfl ?_
    refine G.aload_n (pl := 1) C dX8_mixAll_105 rfl rfl ?_
    refine gf8_3 C o_5 k1_180 dX8_mixAll_106 ?_
    refine gf0_1 C o_20 k1_144 dX8_mixAll_109 ?_
    refine G.iconst (v := 4) C dX8_mixAll_112 (by decide) ?_
    obtain ⟨v6, hr6, hf⟩ := cp_some hf
    refine G.callN (st1 := [.long v6]) C [.long v5, .ref (ad 22), .int (4 : Int32)] [] (c_X9_mixRow a_22 hr6) mv_X9_mixRow (List.mem_of_getElem? (i := 6) rfl) rfl rfl rfl (Nat.le_of_ble_eq_true rfl) (by decide) dX8_mixAll_113 rfl ?_
    refine G.lstore_n (lv' := [(3, .long v6), (0, .ref (ad 5)), (5, .int x5)]) C dX8_mixAll_116 rfl (by decide) rfl ?_
    refine G.aload_n (pl := 1) C dX8_mixAll_117 rfl rfl ?_
    refine gf8_4 C o_5 k1_182 dX8_mixAll_118 ?_
    refine G.lload_n (pl := 0) C dX8_mixAll_121 rfl rfl ?_
    obtain ⟨v7, hr7, hf⟩ := cp_some hf
    refine G.callV (st1 := [.long v7]) C [.long v6] [] (c_X2_mixPairs hr7) mv_X2_mixPairs k4_86 o_23.1 (fun _ => gShp_12 o_23) rfl rfl rfl rfl rfl (Nat.le_of_ble_eq_true rfl) (by decide) dX8_mixAll_122 rfl ?_
    cases hf
    exact G.lret C Rt dX8_mixAll_125
  · replace hf := gIfn hf hc1
    refine G.lload_n (pl := 1) C dX8_mixAll_12 rfl rfl ?_
    refine G.aload_n (pl := 0) C dX8_mixAll_13 rfl rfl ?_
    refine G.iload (pl := 2) C dX8_mixAll_14 rfl ?_
    obtain ⟨v8, hr8, hf⟩ := cp_some hf
    refine G.callV (st1 := [.int v8, .long x3]) C [.int x5] [.long x3] (c_X8_howMany hr8) mv_X8_howMany k4_72 o_5.1 (fun _ => gShp_18 o_5) rfl rfl rfl rfl rfl (Nat.le_of_ble_eq_true rfl) (by decide) dX8_mixAll_16 rfl ?_
    refine G.i2l C dX8_mixAll_19 ?_
    obtain ⟨v9, hr9, hf⟩ := cp_some hf
    refine G.callN (st1 := [.long v9]) C [.long x3, .long v8.toInt64] [] (c_X9_mix hr9) mv_X9_mix (List.mem_of_getElem? (i := 4) rfl) rfl rfl rfl (Nat.le_of_ble_eq_true rfl) (by decide) dX8_mixAll_20 rfl ?_
    refine G.lstore_n (lv' := [(3, .long v9), (0, .ref (ad 5)), (5, .int x5)]) C dX8_mixAll_23 rfl (by decide) rfl ?_
    refine G.iinc (pl := 2) (v := (x5 + 1)) (lv' := [(5, .int (x5 + 1)), (3, .long v9), (0, .ref (ad 5))]) C dX8_mixAll_24 rfl rfl (by decide) rfl ?_
    refine G.goto (tgt := 5) C dX8_mixAll_27 (by decide) ?_
    refine G.sub (lv' := [(0, .ref (ad 5)), (3, .long v9), (5, .int (x5 + 1))]) [2, 1, 0] rfl ?_
    exact h_5 v9 (x5 + 1)  hf
theorem w_X8_mixAll_5 {X : Gc} {ad : Nat → Nat} {res : Int64} {M : Mem} (C : Gk X ad cX8_mixAll "NineTongues$Stock" 6 5) (Rt : Gr X ad (some .long) (some (.long res)) M) : ∀ (n : Nat) (x3 : Int64) (x5 : Int32), f_X8_mixAll_5 M n x3 x5 = some res → G X ad 5 6 [(0, .ref (ad 5)), (3, .long x3), (5, .int x5)] [] M := by
  intro n
  induction n with
  | zero => intro x3 x5 hf; exact absurd (show (none : Option Int64) = some res from hf) (fun h => nomatch h)
  | succ n ih => intro x3 x5 hf; exact w_X8_mixAll_5_b C Rt ih x3 x5 hf
set_option maxRecDepth 100000 in
set_option maxHeartbeats 4000000 in
theorem w_X8_mixAll_E {X : Gc} {ad : Nat → Nat} {res : Int64} {M : Mem} (C : Gk X ad cX8_mixAll "NineTongues$Stock" 6 5) (Rt : Gr X ad (some .long) (some (.long res)) M) (x1 : Int64) (hf : f_X8_mixAll x1 M = some res) : G X ad 0 6 [(0, .ref (ad 5)), (1, .long x1)] [] M := by
  unfold f_X8_mixAll at hf
  refine G.lload_n (pl := 1) C dX8_mixAll_0 rfl rfl ?_
  refine G.lstore_n (lv' := [(3, .long x1), (0, .ref (ad 5)), (1, .long x1)]) C dX8_mixAll_1 rfl (by decide) rfl ?_
  refine G.iconst (v := 0) C dX8_mixAll_2 (by decide) ?_
  refine G.istore (lv' := [(5, .int (0 : Int32)), (3, .long x1), (0, .ref (ad 5)), (1, .long x1)]) C dX8_mixAll_3 (by decide) rfl ?_
  refine G.sub (lv' := [(0, .ref (ad 5)), (3, .long x1), (5, .int (0 : Int32))]) [2, 1, 0] rfl ?_
  exact w_X8_mixAll_5 C Rt FU x1 (0 : Int32) hf
theorem mv_X8_mixAll : gMV yX8_mixAll cX8_mixAll 6 (some .long) 1 := ⟨k4_69, k4_70, k1_2, k4_71, ⟨by decide +kernel, by decide +kernel, by decide +kernel⟩, by decide⟩
theorem c_X8_mixAll {res : Int64} {x1 : Int64} {M : Mem} (hf : f_X8_mixAll x1 M = some res) : Ct yX8_mixAll cX8_mixAll 6 (some .long) 5 (fun ad => [.ref (ad 5), .long x1]) M (some (.long res)) M :=
  Ct.of (by decide +kernel) (fun _ => Nat.le_of_ble_eq_true rfl) (fun X ad C Rt => w_X8_mixAll_E C Rt x1 hf)
set_option maxRecDepth 100000 in
set_option maxHeartbeats 4000000 in
theorem w_X9_refuse__25 {X : Gc} {ad : Nat → Nat} {res : (Int32 × Mem)} (C : Gk X ad cX9_refuse_ "NineTongues" 3 1) (Rt : Gr X ad (some .int) (some (.int res.1)) res.2) (x2 : Int32) (t1 : Int32) (M : Mem) (hf : f_X9_refuse__25 x2 t1 M = some res) : G X ad 25 3 [(2, .int x2)] [.int t1, .ref (ad 3)] M := by
  unfold f_X9_refuse__25 at hf
  refine G.dup2 C dX9_refuse__25 rfl rfl ?_
  obtain ⟨v1, ev1, hi1, hf⟩ := rd_some hf
  refine G.iald C a_3 hi1 ev1 dX9_refuse__26 ?_
  refine G.iconst (v := 1) C dX9_refuse__27 (by decide) ?_
  refine G.iadd C dX9_refuse__28 ?_
  obtain ⟨hi2, hf⟩ := ck_some hf
  obtain ⟨M1, eM1, hf⟩ := stm_some hf
  refine G.iast C a_3 hi2 eM1 dX9_refuse__29 ?_
  refine G.iload_n (pl := 0) C dX9_refuse__30 rfl rfl ?_
  cases hf
  exact G.iret C Rt dX9_refuse__31
set_option maxRecDepth 100000 in
set_option maxHeartbeats 4000000 in
theorem w_X9_refuse__E {X : Gc} {ad : Nat → Nat} {res : (Int32 × Mem)} (C : Gk X ad cX9_refuse_ "NineTongues" 3 1) (Rt : Gr X ad (some .int) (some (.int res.1)) res.2) (x1 : Int32) (x2 : Int32) (M : Mem) (hf : f_X9_refuse_ x1 x2 M = some res) : G X ad 0 3 [(0, .ref (ad 0)), (1, .int x1), (2, .int x2)] [] M := by
  unfold f_X9_refuse_ at hf
  refine G.aload_n (pl := 0) C dX9_refuse__0 rfl rfl ?_
  refine gf9_3 C o_0 k2_47 dX9_refuse__1 ?_
  refine G.iload_n (pl := 1) C dX9_refuse__4 rfl rfl ?_
  refine G.bipush (v := (-2)) C dX9_refuse__5 (by decide) ?_
  refine G.icmp_ne (tgt := 14) C dX9_refuse__7 (by decide) (fun hc1 => ?_) (fun hc1 => ?_)
  · replace hf := gIfn hf hc1
    refine G.iload_n (pl := 1) C dX9_refuse__14 rfl rfl ?_
    refine G.bipush (v := (-3)) C dX9_refuse__15 (by decide) ?_
    refine G.icmp_ne (tgt := 24) C dX9_refuse__17 (by decide) (fun hc2 => ?_) (fun hc2 => ?_)
    · replace hf := gIfn hf hc2
      refine G.iconst (v := 2) C dX9_refuse__24 (by decide) ?_
      refine G.sub (lv' := [(2, .int x2)]) [2] rfl ?_
      exact w_X9_refuse__25 C Rt x2 (2 : Int32) M hf
    · replace hf := gIf hf hc2
      refine G.iconst (v := 1) C dX9_refuse__20 (by decide) ?_
      refine G.goto (tgt := 25) C dX9_refuse__21 (by decide) ?_
      refine G.sub (lv' := [(2, .int x2)]) [2] rfl ?_
      exact w_X9_refuse__25 C Rt x2 (1 : Int32) M hf
  · replace hf := gIf hf hc1
    refine G.iconst (v := 0) C dX9_refuse__10 (by decide) ?_
    refine G.goto (tgt := 25) C dX9_refuse__11 (by decide) ?_
    refine G.sub (lv' := [(2, .int x2)]) [2] rfl ?_
    exact w_X9_refuse__25 C Rt x2 (0 : Int32) M hf
theorem mv_X9_refuse_ : gMV yX9_refuse_ cX9_refuse_ 3 (some .int) 2 := ⟨k2_94, kS_1, k1_1, k2_95, ⟨by decide +kernel, by decide +kernel, by decide +kernel⟩, by decide⟩
theorem c_X9_refuse_ {res : (Int32 × Mem)} {x1 : Int32} {x2 : Int32} {M : Mem} (hf : f_X9_refuse_ x1 x2 M = some res) : Ct yX9_refuse_ cX9_refuse_ 3 (some .int) 1 (fun ad => [.ref (ad 0), .int x1, .int x2]) M (some (.int res.1)) res.2 :=
  Ct.of (by decide +kernel) (fun _ => Nat.le_of_ble_eq_true rfl) (fun X ad C Rt => w_X9_refuse__E C Rt x1 x2 M hf)
set_option maxRecDepth 100000 in
set_option maxHeartbeats 4000000 in
theorem w_X9_refuse_E {X : Gc} {ad : Nat → Nat} {res : (Int32 × Mem)} (C : Gk X ad cX9_refuse "NineTongues" 2 2) (Rt : Gr X ad (some .int) (some (.int res.1)) res.2) (x1 : Int32) (M : Mem) (hf : f_X9_refuse x1 M = some res) : G X ad 0 2 [(0, .ref (ad 0)), (1, .int x1)] [] M := by
  unfold f_X9_refuse at hf
  refine G.aload_n (pl := 0) C dX9_refuse_0 rfl rfl ?_
  refine G.iload_n (pl := 1) C dX9_refuse_1 rfl rfl ?_
  refine G.iload_n (pl := 1) C dX9_refuse_2 rfl rfl ?_
  obtain ⟨v1, M1, hr1, hf⟩ := cl_some hf
  refine G.callV (st1 := [.int v1]) C [.int x1, .int x1] [] (c_X9_refuse_ hr1) mv_X9_refuse_ k2_92 o_0.1 (fun _ => gShp_19 o_0) rfl rfl rfl rfl rfl (Nat.le_of_ble_eq_true rfl) (by decide) dX9_refuse_3 rfl ?_
  cases hf
  exact G.iret C Rt dX9_refuse_6
theorem mv_X9_refuse : gMV yX9_refuse cX9_refuse 2 (some .int) 1 := ⟨k2_90, kS_0, k1_1, k2_91, ⟨by decide +kernel, by decide +kernel, by decide +kernel⟩, by decide⟩
theorem c_X9_refuse {res : (Int32 × Mem)} {x1 : Int32} {M : Mem} (hf : f_X9_refuse x1 M = some res) : Ct yX9_refuse cX9_refuse 2 (some .int) 2 (fun ad => [.ref (ad 0), .int x1]) M (some (.int res.1)) res.2 :=
  Ct.of (by decide +kernel) (fun _ => Nat.le_of_ble_eq_true rfl) (fun X ad C Rt => w_X9_refuse_E C Rt x1 M hf)
set_option maxRecDepth 100000 in
set_option maxHeartbeats 4000000 in
theorem w_X9_tongue_50 {X : Gc} {ad : Nat → Nat} {res : (Int32 × Mem)} (C : Gk X ad cX9_tongue "NineTongues" 5 3) (Rt : Gr X ad (some .int) (some (.int res.1)) res.2) (M : Mem) (hf : f_X9_tongue_50 M = some res) : G X ad 50 5 [(0, .ref (ad 0))] [] M := by
  unfold f_X9_tongue_50 at hf
  refine G.aload_n (pl := 0) C dX9_tongue_50 rfl rfl ?_
  refine G.bipush (v := (-2)) C dX9_tongue_51 (by decide) ?_
  obtain ⟨v1, M1, hr1, hf⟩ := cl_some hf
  refine G.callV (st1 := [.int v1]) C [.int (-2 : Int32)] [] (c_X9_refuse hr1) mv_X9_refuse k2_88 o_0.1 (fun _ => gShp_19 o_0) rfl rfl rfl rfl rfl (Nat.le_of_ble_eq_true rfl) (by decide) dX9_tongue_53 rfl ?_
  cases hf
  exact G.iret C Rt dX9_tongue_56
set_option maxRecDepth 100000 in
set_option maxHeartbeats 4000000 in
theorem w_X9_tongue_35 {X : Gc} {ad : Nat → Nat} {res : (Int32 × Mem)} (C : Gk X ad cX9_tongue "NineTongues" 5 3) (Rt : Gr X ad (some .int) (some (.int res.1)) res.2) (x1 : Int32) (x2 : Int32) (x3 : Int32) (t0 : Int32) (M : Mem) (hf : f_X9_tongue_35 x1 x2 x3 t0 M = some res) : G X ad 35 5 [(0, .ref (ad 0)), (1, .int x1), (2, .int x2), (3, .int x3)] [.int t0] M := by
  unfold f_X9_tongue_35 at hf
  refine G.istore (lv' := [(4, .int t0), (0, .ref (ad 0)), (1, .int x1), (2, .int x2), (3, .int x3)]) C dX9_tongue_35 (by decide) rfl ?_
  refine G.iload (pl := 0) C dX9_tongue_37 rfl ?_
  refine G.if_eq (tgt := 50) C dX9_tongue_39 (by decide) (fun hc1 => ?_) (fun hc1 => ?_)
  · replace hf := gIf hf hc1
    refine G.sub (lv' := [(0, .ref (ad 0))]) [1] rfl ?_
    exact w_X9_tongue_50 C Rt M hf
  · replace hf := gIfn hf hc1
    refine G.iload_n (pl := 2) C dX9_tongue_42 rfl rfl ?_
    refine G.iload_n (pl := 3) C dX9_tongue_43 rfl rfl ?_
    refine G.iconst (v := (-1)) C dX9_tongue_44 (by decide) ?_
    refine G.ixor C dX9_tongue_45 ?_
    refine G.iand C dX9_tongue_46 ?_
    refine G.if_eq (tgt := 57) C dX9_tongue_47 (by decide) (fun hc2 => ?_) (fun hc2 => ?_)
    · replace hf := gIf hf hc2
      refine G.aload_n (pl := 1) C dX9_tongue_57 rfl rfl ?_
      refine gf9_0 C o_0 k2_44 dX9_tongue_58 ?_
      refine gf8_0 C o_5 k1_174 dX9_tongue_61 ?_
      refine gf1_0 C o_6 k1_37 dX9_tongue_64 ?_
      refine G.bipush (v := 6) C dX9_tongue_67 (by decide) ?_
      refine G.icmp_lt (tgt := 79) C dX9_tongue_69 (by decide) (fun hc3 => ?_) (fun hc3 => ?_)
      · replace hf := gIf hf hc3
        refine G.aload_n (pl := 1) C dX9_tongue_79 rfl rfl ?_
        refine gf9_0 C o_0 k2_44 dX9_tongue_80 ?_
        refine gf8_0 C o_5 k1_174 dX9_tongue_83 ?_
        refine G.iload_n (pl := 2) C dX9_tongue_86 rfl rfl ?_
        refine G.iload_n (pl := 3) C dX9_tongue_87 rfl rfl ?_
        refine G.iload_n (pl := 4) C dX9_tongue_88 rfl rfl ?_
        obtain ⟨v1, M1, hr1, hf⟩ := cl_some hf
        refine G.callV (st1 := [.int v1]) C [.int x1, .int x2, .int x3] [] (c_X1_addTongue hr1) mv_X1_addTongue k2_96 o_6.1 (fun _ => gShp_11 o_6) rfl rfl rfl rfl rfl (Nat.le_of_ble_eq_true rfl) (by decide) dX9_tongue_89 rfl ?_
        cases hf
        exact G.iret C Rt dX9_tongue_92
      · replace hf := gIfn hf hc3
        refine G.aload_n (pl := 1) C dX9_tongue_72 rfl rfl ?_
        refine G.bipush (v := (-4)) C dX9_tongue_73 (by decide) ?_
        obtain ⟨v2, M2, hr2, hf⟩ := cl_some hf
        refine G.callV (st1 := [.int v2]) C [.int (-4 : Int32)] [] (c_X9_refuse hr2) mv_X9_refuse k2_88 o_0.1 (fun _ => gShp_19 o_0) rfl rfl rfl rfl rfl (Nat.le_of_ble_eq_true rfl) (by decide) dX9_tongue_75 rfl ?_
        cases hf
        exact G.iret C Rt dX9_tongue_78
    · replace hf := gIfn hf hc2
      refine G.sub (lv' := [(0, .ref (ad 0))]) [1] rfl ?_
      exact w_X9_tongue_50 C Rt M hf
set_option maxRecDepth 100000 in
set_option maxHeartbeats 4000000 in
theorem w_X9_tongue_34 {X : Gc} {ad : Nat → Nat} {res : (Int32 × Mem)} (C : Gk X ad cX9_tongue "NineTongues" 5 3) (Rt : Gr X ad (some .int) (some (.int res.1)) res.2) (x1 : Int32) (x2 : Int32) (x3 : Int32) (M : Mem) (hf : f_X9_tongue_34 x1 x2 x3 M = some res) : G X ad 34 5 [(0, .ref (ad 0)), (1, .int x1), (2, .int x2), (3, .int x3)] [] M := by
  unfold f_X9_tongue_34 at hf
  refine G.iconst (v := 0) C dX9_tongue_34 (by decide) ?_
  exact w_X9_tongue_35 C Rt x1 x2 x3 (0 : Int32) M hf
set_option maxRecDepth 100000 in
set_option maxHeartbeats 4000000 in
theorem w_X9_tongue_E {X : Gc} {ad : Nat → Nat} {res : (Int32 × Mem)} (C : Gk X ad cX9_tongue "NineTongues" 5 3) (Rt : Gr X ad (some .int) (some (.int res.1)) res.2) (x1 : Int32) (x2 : Int32) (x3 : Int32) (M : Mem) (hf : f_X9_tongue x1 x2 x3 M = some res) : G X ad 0 5 [(0, .ref (ad 0)), (1, .int x1), (2, .int x2), (3, .int x3)] [] M := by
  unfold f_X9_tongue at hf
  refine G.iload_n (pl := 1) C dX9_tongue_0 rfl rfl ?_
  refine G.iconst (v := 0) C dX9_tongue_1 (by decide) ?_
  refine G.bipush (v := 15) C dX9_tongue_2 (by decide) ?_
  obtain ⟨v1, hr1, hf⟩ := cp_some hf
  refine G.callS (st1 := [.int v1]) C [.int x1, .int (0 : Int32), .int (15 : Int32)] [] (c_X9_isIn hr1) mv_X9_isIn k2_85 rfl rfl rfl (Nat.le_of_ble_eq_true rfl) (by decide) dX9_tongue_4 rfl ?_
  refine G.if_eq (tgt := 34) C dX9_tongue_7 (by decide) (fun hc1 => ?_) (fun hc1 => ?_)
  · replace hf := gIf hf hc1
    exact w_X9_tongue_34 C Rt x1 x2 x3 M hf
  · replace hf := gIfn hf hc1
    refine G.iload_n (pl := 2) C dX9_tongue_10 rfl rfl ?_
    refine G.iconst (v := 0) C dX9_tongue_11 (by decide) ?_
    refine G.bipush (v := 15) C dX9_tongue_12 (by decide) ?_
    obtain ⟨v2, hr2, hf⟩ := cp_some hf
    refine G.callS (st1 := [.int v2]) C [.int x2, .int (0 : Int32), .int (15 : Int32)] [] (c_X9_isIn hr2) mv_X9_isIn k2_85 rfl rfl rfl (Nat.le_of_ble_eq_true rfl) (by decide) dX9_tongue_14 rfl ?_
    refine G.if_eq (tgt := 34) C dX9_tongue_17 (by decide) (fun hc2 => ?_) (fun hc2 => ?_)
    · replace hf := gIf hf hc2
      exact w_X9_tongue_34 C Rt x1 x2 x3 M hf
    · replace hf := gIfn hf hc2
      refine G.iload_n (pl := 3) C dX9_tongue_20 rfl rfl ?_
      refine G.iconst (v := 0) C dX9_tongue_21 (by decide) ?_
      refine G.bipush (v := 15) C dX9_tongue_22 (by decide) ?_
      obtain ⟨v3, hr3, hf⟩ := cp_some hf
      refine G.callS (st1 := [.int v3]) C [.int x3, .int (0 : Int32), .int (15 : Int32)] [] (c_X9_isIn hr3) mv_X9_isIn k2_85 rfl rfl rfl (Nat.le_of_ble_eq_true rfl) (by decide) dX9_tongue_24 rfl ?_
      refine G.if_eq (tgt := 34) C dX9_tongue_27 (by decide) (fun hc3 => ?_) (fun hc3 => ?_)
      · replace hf := gIf hf hc3
        exact w_X9_tongue_34 C Rt x1 x2 x3 M hf
      · replace hf := gIfn hf hc3
        refine G.iconst (v := 1) C dX9_tongue_30 (by decide) ?_
        refine G.goto (tgt := 35) C dX9_tongue_31 (by decide) ?_
        exact w_X9_tongue_35 C Rt x1 x2 x3 (1 : Int32) M hf
theorem mv_X9_tongue : gMV yX9_tongue cX9_tongue 5 (some .int) 3 := ⟨k2_82, k2_83, k1_1, k2_84, ⟨by decide +kernel, by decide +kernel, by decide +kernel⟩, by decide⟩
theorem c_X9_tongue {res : (Int32 × Mem)} {x1 : Int32} {x2 : Int32} {x3 : Int32} {M : Mem} (hf : f_X9_tongue x1 x2 x3 M = some res) : Ct yX9_tongue cX9_tongue 5 (some .int) 3 (fun ad => [.ref (ad 0), .int x1, .int x2, .int x3]) M (some (.int res.1)) res.2 :=
  Ct.of (by decide +kernel) (fun _ => Nat.le_of_ble_eq_true rfl) (fun X ad C Rt => w_X9_tongue_E C Rt x1 x2 x3 M hf)
set_option maxRecDepth 100000 in
set_option maxHeartbeats 4000000 in
theorem w_X9_word_58 {X : Gc} {ad : Nat → Nat} {res : (Int32 × Mem)} (C : Gk X ad cX9_word "NineTongues" 6 3) (Rt : Gr X ad (some .int) (some (.int res.1)) res.2) (M : Mem) (hf : f_X9_word_58 M = some res) : G X ad 58 6 [(0, .ref (ad 0))] [] M := by
  unfold f_X9_word_58 at hf
  refine G.aload_n (pl := 0) C dX9_word_58 rfl rfl ?_
  refine G.bipush (v := (-2)) C dX9_word_59 (by decide) ?_
  obtain ⟨v1, M1, hr1, hf⟩ := cl_some hf
  refine G.callV (st1 := [.int v1]) C [.int (-2 : Int32)] [] (c_X9_refuse hr1) mv_X9_refuse k2_88 o_0.1 (fun _ => gShp_19 o_0) rfl rfl rfl rfl rfl (Nat.le_of_ble_eq_true rfl) (by decide) dX9_word_61 rfl ?_
  cases hf
  exact G.iret C Rt dX9_word_64
set_option maxRecDepth 100000 in
set_option maxHeartbeats 4000000 in
theorem w_X9_word_37 {X : Gc} {ad : Nat → Nat} {res : (Int32 × Mem)} (C : Gk X ad cX9_word "NineTongues" 6 3) (Rt : Gr X ad (some .int) (some (.int res.1)) res.2) (x1 : Int32) (x2 : Int32) (x3 : Int32) (x4 : Int32) (t0 : Int32) (M : Mem) (hf : f_X9_word_37 x1 x2 x3 x4 t0 M = some res) : G X ad 37 6 [(0, .ref (ad 0)), (1, .int x1), (2, .int x2), (3, .int x3), (4, .int x4)] [.int t0] M := by
  unfold f_X9_word_37 at hf
  refine G.istore (lv' := [(5, .int t0), (0, .ref (ad 0)), (1, .int x1), (2, .int x2), (3, .int x3), (4, .int x4)]) C dX9_word_37 (by decide) rfl ?_
  refine G.iload (pl := 0) C dX9_word_39 rfl ?_
  refine G.if_eq (tgt := 58) C dX9_word_41 (by decide) (fun hc1 => ?_) (fun hc1 => ?_)
  · replace hf := gIf hf hc1
    refine G.sub (lv' := [(0, .ref (ad 0))]) [1] rfl ?_
    exact w_X9_word_58 C Rt M hf
  · replace hf := gIfn hf hc1
    refine G.aload_n (pl := 1) C dX9_word_44 rfl rfl ?_
    refine gf9_0 C o_0 k2_44 dX9_word_45 ?_
    refine gf8_0 C o_5 k1_174 dX9_word_48 ?_
    refine G.iload_n (pl := 2) C dX9_word_51 rfl rfl ?_
    obtain ⟨v1, hr1, hf⟩ := cp_some hf
    refine G.callV (st1 := [.int v1]) C [.int x1] [] (c_X1_hasTongue hr1) mv_X1_hasTongue k2_104 o_6.1 (fun _ => gShp_11 o_6) rfl rfl rfl rfl rfl (Nat.le_of_ble_eq_true rfl) (by decide) dX9_word_52 rfl ?_
    refine G.if_ne (tgt := 65) C dX9_word_55 (by decide) (fun hc2 => ?_) (fun hc2 => ?_)
    · replace hf := gIfn hf hc2
      refine G.aload_n (pl := 1) C dX9_word_65 rfl rfl ?_
      refine gf9_0 C o_0 k2_44 dX9_word_66 ?_
      refine gf8_0 C o_5 k1_174 dX9_word_69 ?_
      refine gf1_6 C o_6 k1_47 dX9_word_72 ?_
      refine G.iload_n (pl := 2) C dX9_word_75 rfl rfl ?_
      obtain ⟨v2, ev1, hi1, hf⟩ := rd_some hf
      refine G.iald C a_10 hi1 ev1 dX9_word_76 ?_
      refine G.bipush (v := 8) C dX9_word_77 (by decide) ?_
      refine G.icmp_lt (tgt := 89) C dX9_word_79 (by decide) (fun hc3 => ?_) (fun hc3 => ?_)
      · replace hf := gIf hf hc3
        refine G.aload_n (pl := 1) C dX9_word_89 rfl rfl ?_
        refine gf9_0 C o_0 k2_44 dX9_word_90 ?_
        refine gf8_0 C o_5 k1_174 dX9_word_93 ?_
        refine G.iload_n (pl := 2) C dX9_word_96 rfl rfl ?_
        refine G.iload_n (pl := 3) C dX9_word_97 rfl rfl ?_
        refine G.iload_n (pl := 4) C dX9_word_98 rfl rfl ?_
        refine G.iload (pl := 5) C dX9_word_99 rfl ?_
        obtain ⟨v3, M1, hr2, hf⟩ := cl_some hf
        refine G.callV (st1 := [.int v3]) C [.int x1, .int x2, .int x3, .int x4] [] (c_X1_addWord hr2) mv_X1_addWord k2_109 o_6.1 (fun _ => gShp_11 o_6) rfl rfl rfl rfl rfl (Nat.le_of_ble_eq_true rfl) (by decide) dX9_word_101 rfl ?_
        cases hf
        exact G.iret C Rt dX9_word_104
      · replace hf := gIfn hf hc3
        refine G.aload_n (pl := 1) C dX9_word_82 rfl rfl ?_
        refine G.bipush (v := (-4)) C dX9_word_83 (by decide) ?_
        obtain ⟨v4, M2, hr3, hf⟩ := cl_some hf
        refine G.callV (st1 := [.int v4]) C [.int (-4 : Int32)] [] (c_X9_refuse hr3) mv_X9_refuse k2_88 o_0.1 (fun _ => gShp_19 o_0) rfl rfl rfl rfl rfl (Nat.le_of_ble_eq_true rfl) (by decide) dX9_word_85 rfl ?_
        cases hf
        exact G.iret C Rt dX9_word_88
    · replace hf := gIf hf hc2
      refine G.sub (lv' := [(0, .ref (ad 0))]) [1] rfl ?_
      exact w_X9_word_58 C Rt M hf
set_option maxRecDepth 100000 in
set_option maxHeartbeats 4000000 in
theorem w_X9_word_36 {X : Gc} {ad : Nat → Nat} {res : (Int32 × Mem)} (C : Gk X ad cX9_word "NineTongues" 6 3) (Rt : Gr X ad (some .int) (some (.int res.1)) res.2) (x1 : Int32) (x2 : Int32) (x3 : Int32) (x4 : Int32) (M : Mem) (hf : f_X9_word_36 x1 x2 x3 x4 M = some res) : G X ad 36 6 [(0, .ref (ad 0)), (1, .int x1), (2, .int x2), (3, .int x3), (4, .int x4)] [] M := by
  unfold f_X9_word_36 at hf
  refine G.iconst (v := 0) C dX9_word_36 (by decide) ?_
  exact w_X9_word_37 C Rt x1 x2 x3 x4 (0 : Int32) M hf
set_option maxRecDepth 100000 in
set_option maxHeartbeats 4000000 in
theorem w_X9_word_E {X : Gc} {ad : Nat → Nat} {res : (Int32 × Mem)} (C : Gk X ad cX9_word "NineTongues" 6 3) (Rt : Gr X ad (some .int) (some (.int res.1)) res.2) (x1 : Int32) (x2 : Int32) (x3 : Int32) (x4 : Int32) (M : Mem) (hf : f_X9_word x1 x2 x3 x4 M = some res) : G X ad 0 6 [(0, .ref (ad 0)), (1, .int x1), (2, .int x2), (3, .int x3), (4, .int x4)] [] M := by
  unfold f_X9_word at hf
  refine G.iload_n (pl := 2) C dX9_word_0 rfl rfl ?_
  refine G.iconst (v := 1) C dX9_word_1 (by decide) ?_
  refine G.sipush (v := 255) C dX9_word_2 (by decide) ?_
  obtain ⟨v1, hr1, hf⟩ := cp_some hf
  refine G.callS (st1 := [.int v1]) C [.int x2, .int (1 : Int32), .int (255 : Int32)] [] (c_X9_isIn hr1) mv_X9_isIn k2_85 rfl rfl rfl (Nat.le_of_ble_eq_true rfl) (by decide) dX9_word_5 rfl ?_
  refine G.if_eq (tgt := 36) C dX9_word_8 (by decide) (fun hc1 => ?_) (fun hc1 => ?_)
  · replace hf := gIf hf hc1
    exact w_X9_word_36 C Rt x1 x2 x3 x4 M hf
  · replace hf := gIfn hf hc1
    refine G.iload_n (pl := 3) C dX9_word_11 rfl rfl ?_
    refine G.iconst (v := 0) C dX9_word_12 (by decide) ?_
    refine G.bipush (v := 9) C dX9_word_13 (by decide) ?_
    obtain ⟨v2, hr2, hf⟩ := cp_some hf
    refine G.callS (st1 := [.int v2]) C [.int x3, .int (0 : Int32), .int (9 : Int32)] [] (c_X9_isIn hr2) mv_X9_isIn k2_85 rfl rfl rfl (Nat.le_of_ble_eq_true rfl) (by decide) dX9_word_15 rfl ?_
    refine G.if_eq (tgt := 36) C dX9_word_18 (by decide) (fun hc2 => ?_) (fun hc2 => ?_)
    · replace hf := gIf hf hc2
      exact w_X9_word_36 C Rt x1 x2 x3 x4 M hf
    · replace hf := gIfn hf hc2
      refine G.iload (pl := 4) C dX9_word_21 rfl ?_
      refine G.iconst (v := 0) C dX9_word_23 (by decide) ?_
      refine G.bipush (v := 9) C dX9_word_24 (by decide) ?_
      obtain ⟨v3, hr3, hf⟩ := cp_some hf
      refine G.callS (st1 := [.int v3]) C [.int x4, .int (0 : Int32), .int (9 : Int32)] [] (c_X9_isIn hr3) mv_X9_isIn k2_85 rfl rfl rfl (Nat.le_of_ble_eq_true rfl) (by decide) dX9_word_26 rfl ?_
      refine G.if_eq (tgt := 36) C dX9_word_29 (by decide) (fun hc3 => ?_) (fun hc3 => ?_)
      · replace hf := gIf hf hc3
        exact w_X9_word_36 C Rt x1 x2 x3 x4 M hf
      · replace hf := gIfn hf hc3
        refine G.iconst (v := 1) C dX9_word_32 (by decide) ?_
        refine G.goto (tgt := 37) C dX9_word_33 (by decide) ?_
        exact w_X9_word_37 C Rt x1 x2 x3 x4 (1 : Int32) M hf
theorem mv_X9_word : gMV yX9_word cX9_word 6 (some .int) 4 := ⟨k2_101, k2_102, k1_1, k2_103, ⟨by decide +kernel, by decide +kernel, by decide +kernel⟩, by decide⟩
theorem c_X9_word {res : (Int32 × Mem)} {x1 : Int32} {x2 : Int32} {x3 : Int32} {x4 : Int32} {M : Mem} (hf : f_X9_word x1 x2 x3 x4 M = some res) : Ct yX9_word cX9_word 6 (some .int) 3 (fun ad => [.ref (ad 0), .int x1, .int x2, .int x3, .int x4]) M (some (.int res.1)) res.2 :=
  Ct.of (by decide +kernel) (fun _ => Nat.le_of_ble_eq_true rfl) (fun X ad C Rt => w_X9_word_E C Rt x1 x2 x3 x4 M hf)
set_option maxRecDepth 100000 in
set_option maxHeartbeats 4000000 in
theorem w_X9_put_19 {X : Gc} {ad : Nat → Nat} {res : (Int32 × Mem)} (C : Gk X ad cX9_put "NineTongues" 4 3) (Rt : Gr X ad (some .int) (some (.int res.1)) res.2) (M : Mem) (hf : f_X9_put_19 M = some res) : G X ad 19 4 [(0, .ref (ad 0))] [] M := by
  unfold f_X9_put_19 at hf
  refine G.aload_n (pl := 0) C dX9_put_19 rfl rfl ?_
  refine G.bipush (v := (-2)) C dX9_put_20 (by decide) ?_
  obtain ⟨v1, M1, hr1, hf⟩ := cl_some hf
  refine G.callV (st1 := [.int v1]) C [.int (-2 : Int32)] [] (c_X9_refuse hr1) mv_X9_refuse k2_88 o_0.1 (fun _ => gShp_19 o_0) rfl rfl rfl rfl rfl (Nat.le_of_ble_eq_true rfl) (by decide) dX9_put_22 rfl ?_
  cases hf
  exact G.iret C Rt dX9_put_25
set_option maxRecDepth 100000 in
set_option maxHeartbeats 4000000 in
theorem w_X9_put_53 {X : Gc} {ad : Nat → Nat} {res : (Int32 × Mem)} (C : Gk X ad cX9_put "NineTongues" 4 3) (Rt : Gr X ad (some .int) (some (.int res.1)) res.2) (x1 : Int32) (x2 : Int32) (t0 : Int32) (M : Mem) (hf : f_X9_put_53 x1 x2 t0 M = some res) : G X ad 53 4 [(0, .ref (ad 0)), (1, .int x1), (2, .int x2)] [.int t0] M := by
  unfold f_X9_put_53 at hf
  refine G.istore_n (lv' := [(3, .int t0), (0, .ref (ad 0)), (1, .int x1), (2, .int x2)]) C dX9_put_53 rfl (by decide) rfl ?_
  refine G.iload_n (pl := 2) C dX9_put_54 rfl rfl ?_
  refine G.if_ne (tgt := 72) C dX9_put_55 (by decide) (fun hc1 => ?_) (fun hc1 => ?_)
  · replace hf := gIfn hf hc1
    refine G.aload_n (pl := 1) C dX9_put_72 rfl rfl ?_
    refine gf9_0 C o_0 k2_44 dX9_put_73 ?_
    refine gf8_0 C o_5 k1_174 dX9_put_76 ?_
    refine G.iload_n (pl := 3) C dX9_put_79 rfl rfl ?_
    obtain ⟨M1, eM1, hf⟩ := stm_some hf
    refine gp1_2 C o_6 k1_42 eM1 dX9_put_80 ?_
    refine G.iload_n (pl := 0) C dX9_put_83 rfl rfl ?_
    cases hf
    exact G.iret C Rt dX9_put_84
  · replace hf := gIf hf hc1
    refine G.aload_n (pl := 1) C dX9_put_58 rfl rfl ?_
    refine gf9_0 C o_0 k2_44 dX9_put_59 ?_
    refine gf8_0 C o_5 k1_174 dX9_put_62 ?_
    refine G.iload_n (pl := 3) C dX9_put_65 rfl rfl ?_
    obtain ⟨M2, eM2, hf⟩ := stm_some hf
    refine gp1_1 C o_6 k1_40 eM2 dX9_put_66 ?_
    refine G.goto (tgt := 83) C dX9_put_69 (by decide) ?_
    refine G.iload_n (pl := 0) C dX9_put_83 rfl rfl ?_
    cases hf
    exact G.iret C Rt dX9_put_84
set_option maxRecDepth 100000 in
set_option maxHeartbeats 4000000 in
theorem w_X9_put_E {X : Gc} {ad : Nat → Nat} {res : (Int32 × Mem)} (C : Gk X ad cX9_put "NineTongues" 4 3) (Rt : Gr X ad (some .int) (some (.int res.1)) res.2) (x1 : Int32) (x2 : Int32) (M : Mem) (hf : f_X9_put x1 x2 M = some res) : G X ad 0 4 [(0, .ref (ad 0)), (1, .int x1), (2, .int x2)] [] M := by
  unfold f_X9_put at hf
  refine G.iload_n (pl := 1) C dX9_put_0 rfl rfl ?_
  refine G.iconst (v := 0) C dX9_put_1 (by decide) ?_
  refine G.iconst (v := 1) C dX9_put_2 (by decide) ?_
  obtain ⟨v1, hr1, hf⟩ := cp_some hf
  refine G.callS (st1 := [.int v1]) C [.int x1, .int (0 : Int32), .int (1 : Int32)] [] (c_X9_isIn hr1) mv_X9_isIn k2_85 rfl rfl rfl (Nat.le_of_ble_eq_true rfl) (by decide) dX9_put_3 rfl ?_
  refine G.if_eq (tgt := 19) C dX9_put_6 (by decide) (fun hc1 => ?_) (fun hc1 => ?_)
  · replace hf := gIf hf hc1
    refine G.sub (lv' := [(0, .ref (ad 0))]) [0] rfl ?_
    exact w_X9_put_19 C Rt M hf
  · replace hf := gIfn hf hc1
    refine G.iload_n (pl := 2) C dX9_put_9 rfl rfl ?_
    refine G.iconst (v := 0) C dX9_put_10 (by decide) ?_
    refine G.bipush (v := 9) C dX9_put_11 (by decide) ?_
    obtain ⟨v2, hr2, hf⟩ := cp_some hf
    refine G.callS (st1 := [.int v2]) C [.int x2, .int (0 : Int32), .int (9 : Int32)] [] (c_X9_isIn hr2) mv_X9_isIn k2_85 rfl rfl rfl (Nat.le_of_ble_eq_true rfl) (by decide) dX9_put_13 rfl ?_
    refine G.if_ne (tgt := 26) C dX9_put_16 (by decide) (fun hc2 => ?_) (fun hc2 => ?_)
    · replace hf := gIfn hf hc2
      refine G.iload_n (pl := 1) C dX9_put_26 rfl rfl ?_
      refine G.if_ne (tgt := 43) C dX9_put_27 (by decide) (fun hc3 => ?_) (fun hc3 => ?_)
      · replace hf := gIfn hf hc3
        refine G.aload_n (pl := 0) C dX9_put_43 rfl rfl ?_
        refine gf9_0 C o_0 k2_44 dX9_put_44 ?_
        refine gf8_0 C o_5 k1_174 dX9_put_47 ?_
        refine gf1_2 C o_6 k1_42 dX9_put_50 ?_
        exact w_X9_put_53 C Rt x1 x2 (M.1 6 2) M hf
      · replace hf := gIf hf hc3
        refine G.aload_n (pl := 0) C dX9_put_30 rfl rfl ?_
        refine gf9_0 C o_0 k2_44 dX9_put_31 ?_
        refine gf8_0 C o_5 k1_174 dX9_put_34 ?_
        refine gf1_1 C o_6 k1_40 dX9_put_37 ?_
        refine G.goto (tgt := 53) C dX9_put_40 (by decide) ?_
        exact w_X9_put_53 C Rt x1 x2 (M.1 6 1) M hf
    · replace hf := gIf hf hc2
      refine G.sub (lv' := [(0, .ref (ad 0))]) [0] rfl ?_
      exact w_X9_put_19 C Rt M hf
theorem mv_X9_put : gMV yX9_put cX9_put 4 (some .int) 2 := ⟨k2_114, k2_115, k1_1, k2_116, ⟨by decide +kernel, by decide +kernel, by decide +kernel⟩, by decide⟩
theorem c_X9_put {res : (Int32 × Mem)} {x1 : Int32} {x2 : Int32} {M : Mem} (hf : f_X9_put x1 x2 M = some res) : Ct yX9_put cX9_put 4 (some .int) 3 (fun ad => [.ref (ad 0), .int x1, .int x2]) M (some (.int res.1)) res.2 :=
  Ct.of (by decide +kernel) (fun _ => Nat.le_of_ble_eq_true rfl) (fun X ad C Rt => w_X9_put_E C Rt x1 x2 M hf)
set_option maxRecDepth 100000 in
set_option maxHeartbeats 4000000 in
theorem w_X9_say_E {X : Gc} {ad : Nat → Nat} {res : (Int32 × Mem)} (C : Gk X ad cX9_say "NineTongues" 2 3) (Rt : Gr X ad (some .int) (some (.int res.1)) res.2) (x1 : Int32) (M : Mem) (hf : f_X9_say x1 M = some res) : G X ad 0 2 [(0, .ref (ad 0)), (1, .int x1)] [] M := by
  unfold f_X9_say at hf
  refine G.iload_n (pl := 1) C dX9_say_0 rfl rfl ?_
  refine G.iconst (v := 1) C dX9_say_1 (by decide) ?_
  refine G.sipush (v := 255) C dX9_say_2 (by decide) ?_
  obtain ⟨v1, hr1, hf⟩ := cp_some hf
  refine G.callS (st1 := [.int v1]) C [.int x1, .int (1 : Int32), .int (255 : Int32)] [] (c_X9_isIn hr1) mv_X9_isIn k2_85 rfl rfl rfl (Nat.le_of_ble_eq_true rfl) (by decide) dX9_say_5 rfl ?_
  refine G.if_ne (tgt := 18) C dX9_say_8 (by decide) (fun hc1 => ?_) (fun hc1 => ?_)
  · replace hf := gIfn hf hc1
    refine G.aload_n (pl := 0) C dX9_say_18 rfl rfl ?_
    refine gf9_0 C o_0 k2_44 dX9_say_19 ?_
    refine gf8_1 C o_5 k1_177 dX9_say_22 ?_
    refine gf7_0 C o_14 k1_91 dX9_say_25 ?_
    refine G.bipush (v := 6) C dX9_say_28 (by decide) ?_
    refine G.icmp_lt (tgt := 40) C dX9_say_30 (by decide) (fun hc2 => ?_) (fun hc2 => ?_)
    · replace hf := gIf hf hc2
      refine G.aload_n (pl := 0) C dX9_say_40 rfl rfl ?_
      refine gf9_0 C o_0 k2_44 dX9_say_41 ?_
      refine gf8_1 C o_5 k1_177 dX9_say_44 ?_
      refine G.iload_n (pl := 1) C dX9_say_47 rfl rfl ?_
      obtain ⟨v2, M1, hr2, hf⟩ := cl_some hf
      refine G.callV (st1 := [.int v2]) C [.int x1] [] (c_X7_addPlace o_14 hr2) mv_X7_addPlace k2_121 o_14.1 (fun _ => gShp_17 o_14) rfl rfl rfl rfl rfl (Nat.le_of_ble_eq_true rfl) (by decide) dX9_say_48 rfl ?_
      cases hf
      exact G.iret C Rt dX9_say_51
    · replace hf := gIfn hf hc2
      refine G.aload_n (pl := 0) C dX9_say_33 rfl rfl ?_
      refine G.bipush (v := (-4)) C dX9_say_34 (by decide) ?_
      obtain ⟨v3, M2, hr3, hf⟩ := cl_some hf
      refine G.callV (st1 := [.int v3]) C [.int (-4 : Int32)] [] (c_X9_refuse hr3) mv_X9_refuse k2_88 o_0.1 (fun _ => gShp_19 o_0) rfl rfl rfl rfl rfl (Nat.le_of_ble_eq_true rfl) (by decide) dX9_say_36 rfl ?_
      cases hf
      exact G.iret C Rt dX9_say_39
  · replace hf := gIf hf hc1
    refine G.aload_n (pl := 0) C dX9_say_11 rfl rfl ?_
    refine G.bipush (v := (-2)) C dX9_say_12 (by decide) ?_
    obtain ⟨v4, M3, hr4, hf⟩ := cl_some hf
    refine G.callV (st1 := [.int v4]) C [.int (-2 : Int32)] [] (c_X9_refuse hr4) mv_X9_refuse k2_88 o_0.1 (fun _ => gShp_19 o_0) rfl rfl rfl rfl rfl (Nat.le_of_ble_eq_true rfl) (by decide) dX9_say_14 rfl ?_
    cases hf
    exact G.iret C Rt dX9_say_17
theorem mv_X9_say : gMV yX9_say cX9_say 2 (some .int) 1 := ⟨k2_118, k2_119, k1_1, k2_120, ⟨by decide +kernel, by decide +kernel, by decide +kernel⟩, by decide⟩
theorem c_X9_say {res : (Int32 × Mem)} {x1 : Int32} {M : Mem} (hf : f_X9_say x1 M = some res) : Ct yX9_say cX9_say 2 (some .int) 3 (fun ad => [.ref (ad 0), .int x1]) M (some (.int res.1)) res.2 :=
  Ct.of (by decide +kernel) (fun _ => Nat.le_of_ble_eq_true rfl) (fun X ad C Rt => w_X9_say_E C Rt x1 M hf)
set_option maxRecDepth 100000 in
set_option maxHeartbeats 4000000 in
theorem w_X9_form_18 {X : Gc} {ad : Nat → Nat} {res : (Int32 × Mem)} (C : Gk X ad cX9_form "NineTongues" 4 2) (Rt : Gr X ad (some .int) (some (.int res.1)) res.2) (M : Mem) (hf : f_X9_form_18 M = some res) : G X ad 18 4 [(0, .ref (ad 0))] [] M := by
  unfold f_X9_form_18 at hf
  refine G.aload_n (pl := 0) C dX9_form_18 rfl rfl ?_
  refine G.bipush (v := (-2)) C dX9_form_19 (by decide) ?_
  refine G.bipush (v := (-10)) C dX9_form_21 (by decide) ?_
  obtain ⟨v1, M1, hr1, hf⟩ := cl_some hf
  refine G.callV (st1 := [.int v1]) C [.int (-2 : Int32), .int (-10 : Int32)] [] (c_X9_refuse_ hr1) mv_X9_refuse_ k2_92 o_0.1 (fun _ => gShp_19 o_0) rfl rfl rfl rfl rfl (Nat.le_of_ble_eq_true rfl) (by decide) dX9_form_23 rfl ?_
  cases hf
  exact G.iret C Rt dX9_form_26
set_option maxRecDepth 100000 in
set_option maxHeartbeats 4000000 in
theorem w_X9_form_E {X : Gc} {ad : Nat → Nat} {res : (Int32 × Mem)} (C : Gk X ad cX9_form "NineTongues" 4 2) (Rt : Gr X ad (some .int) (some (.int res.1)) res.2) (x1 : Int32) (x2 : Int32) (M : Mem) (hf : f_X9_form x1 x2 M = some res) : G X ad 0 4 [(0, .ref (ad 0)), (1, .int x1), (2, .int x2)] [] M := by
  unfold f_X9_form at hf
  refine G.iload_n (pl := 1) C dX9_form_0 rfl rfl ?_
  refine G.iconst (v := 0) C dX9_form_1 (by decide) ?_
  refine G.iconst (v := 3) C dX9_form_2 (by decide) ?_
  obtain ⟨v1, hr1, hf⟩ := cp_some hf
  refine G.callS (st1 := [.int v1]) C [.int x1, .int (0 : Int32), .int (3 : Int32)] [] (c_X9_isIn hr1) mv_X9_isIn k2_85 rfl rfl rfl (Nat.le_of_ble_eq_true rfl) (by decide) dX9_form_3 rfl ?_
  refine G.if_eq (tgt := 18) C dX9_form_6 (by decide) (fun hc1 => ?_) (fun hc1 => ?_)
  · replace hf := gIf hf hc1
    refine G.sub (lv' := [(0, .ref (ad 0))]) [0] rfl ?_
    exact w_X9_form_18 C Rt M hf
  · replace hf := gIfn hf hc1
    refine G.iload_n (pl := 2) C dX9_form_9 rfl rfl ?_
    refine G.iconst (v := (-1)) C dX9_form_10 (by decide) ?_
    refine G.iconst (v := 1) C dX9_form_11 (by decide) ?_
    obtain ⟨v2, hr2, hf⟩ := cp_some hf
    refine G.callS (st1 := [.int v2]) C [.int x2, .int (-1 : Int32), .int (1 : Int32)] [] (c_X9_isIn hr2) mv_X9_isIn k2_85 rfl rfl rfl (Nat.le_of_ble_eq_true rfl) (by decide) dX9_form_12 rfl ?_
    refine G.if_ne (tgt := 27) C dX9_form_15 (by decide) (fun hc2 => ?_) (fun hc2 => ?_)
    · replace hf := gIfn hf hc2
      refine G.aload_n (pl := 0) C dX9_form_27 rfl rfl ?_
      refine gf9_0 C o_0 k2_44 dX9_form_28 ?_
      refine gf8_1 C o_5 k1_177 dX9_form_31 ?_
      refine gf7_3 C o_14 k1_104 dX9_form_34 ?_
      refine G.iload_n (pl := 1) C dX9_form_37 rfl rfl ?_
      obtain ⟨v3, ev1, hi1, hf⟩ := rd_some hf
      refine G.iald C a_17 hi1 ev1 dX9_form_38 ?_
      refine G.istore_n (lv' := [(3, .int v3), (0, .ref (ad 0)), (1, .int x1), (2, .int x2)]) C dX9_form_39 rfl (by decide) rfl ?_
      refine G.aload_n (pl := 1) C dX9_form_40 rfl rfl ?_
      refine gf9_0 C o_0 k2_44 dX9_form_41 ?_
      refine gf8_1 C o_5 k1_177 dX9_form_44 ?_
      refine gf7_3 C o_14 k1_104 dX9_form_47 ?_
      refine G.iload_n (pl := 2) C dX9_form_50 rfl rfl ?_
      refine G.iload_n (pl := 3) C dX9_form_51 rfl rfl ?_
      obtain ⟨hi2, hf⟩ := ck_some hf
      obtain ⟨M1, eM1, hf⟩ := stm_some hf
      refine G.iast C a_17 hi2 eM1 dX9_form_52 ?_
      refine G.iload_n (pl := 0) C dX9_form_53 rfl rfl ?_
      cases hf
      exact G.iret C Rt dX9_form_54
    · replace hf := gIf hf hc2
      refine G.sub (lv' := [(0, .ref (ad 0))]) [0] rfl ?_
      exact w_X9_form_18 C Rt M hf
theorem mv_X9_form : gMV yX9_form cX9_form 4 (some .int) 2 := ⟨k2_126, k2_127, k1_1, k2_128, ⟨by decide +kernel, by decide +kernel, by decide +kernel⟩, by decide⟩
theorem c_X9_form {res : (Int32 × Mem)} {x1 : Int32} {x2 : Int32} {M : Mem} (hf : f_X9_form x1 x2 M = some res) : Ct yX9_form cX9_form 4 (some .int) 2 (fun ad => [.ref (ad 0), .int x1, .int x2]) M (some (.int res.1)) res.2 :=
  Ct.of (by decide +kernel) (fun _ => Nat.le_of_ble_eq_true rfl) (fun X ad C Rt => w_X9_form_E C Rt x1 x2 M hf)
set_option maxRecDepth 100000 in
set_option maxHeartbeats 4000000 in
theorem w_X9_hush_E {X : Gc} {ad : Nat → Nat} {res : (Int32 × Mem)} (C : Gk X ad cX9_hush "NineTongues" 2 3) (Rt : Gr X ad (some .int) (some (.int res.1)) res.2) (M : Mem) (hf : f_X9_hush M = some res) : G X ad 0 2 [(0, .ref (ad 0))] [] M := by
  unfold f_X9_hush at hf
  refine G.aload_n (pl := 0) C dX9_hush_0 rfl rfl ?_
  refine gf9_0 C o_0 k2_44 dX9_hush_1 ?_
  refine gf8_1 C o_5 k1_177 dX9_hush_4 ?_
  refine gf7_0 C o_14 k1_91 dX9_hush_7 ?_
  refine G.istore_n (lv' := [(1, .int (M.1 14 0)), (0, .ref (ad 0))]) C dX9_hush_10 rfl (by decide) rfl ?_
  refine G.aload_n (pl := 1) C dX9_hush_11 rfl rfl ?_
  refine gf9_0 C o_0 k2_44 dX9_hush_12 ?_
  refine gf8_1 C o_5 k1_177 dX9_hush_15 ?_
  obtain ⟨u, M1, hr1, hf⟩ := cl_some hf
  refine G.callV (st1 := []) C [] [] (c_X7_empty o_14 hr1) mv_X7_empty k2_133 o_14.1 (fun _ => gShp_17 o_14) rfl rfl rfl rfl rfl (Nat.le_of_ble_eq_true rfl) (by decide) dX9_hush_18 rfl ?_
  refine G.iload_n (pl := 0) C dX9_hush_21 rfl rfl ?_
  cases hf
  exact G.iret C Rt dX9_hush_22
theorem mv_X9_hush : gMV yX9_hush cX9_hush 2 (some .int) 0 := ⟨k2_130, k2_131, k1_1, k2_132, ⟨by decide +kernel, by decide +kernel, by decide +kernel⟩, by decide⟩
theorem c_X9_hush {res : (Int32 × Mem)} {M : Mem} (hf : f_X9_hush M = some res) : Ct yX9_hush cX9_hush 2 (some .int) 3 (fun ad => [.ref (ad 0)]) M (some (.int res.1)) res.2 :=
  Ct.of (by decide +kernel) (fun _ => Nat.le_of_ble_eq_true rfl) (fun X ad C Rt => w_X9_hush_E C Rt M hf)
set_option maxRecDepth 100000 in
set_option maxHeartbeats 4000000 in
theorem w_X9_isPlace_E {X : Gc} {ad : Nat → Nat} {res : Int32} {M : Mem} (C : Gk X ad cX9_isPlace "NineTongues" 2 2) (Rt : Gr X ad (some .boolean) (some (.int res)) M) (x1 : Int32) (hf : f_X9_isPlace x1 M = some res) : G X ad 0 2 [(0, .ref (ad 0)), (1, .int x1)] [] M := by
  unfold f_X9_isPlace at hf
  refine G.iload_n (pl := 1) C dX9_isPlace_0 rfl rfl ?_
  refine G.iconst (v := 0) C dX9_isPlace_1 (by decide) ?_
  refine G.aload_n (pl := 0) C dX9_isPlace_2 rfl rfl ?_
  refine gf9_0 C o_0 k2_44 dX9_isPlace_3 ?_
  refine gf8_1 C o_5 k1_177 dX9_isPlace_6 ?_
  refine gf7_0 C o_14 k1_91 dX9_isPlace_9 ?_
  refine G.iconst (v := 1) C dX9_isPlace_12 (by decide) ?_
  refine G.isub C dX9_isPlace_13 ?_
  obtain ⟨v1, hr1, hf⟩ := cp_some hf
  refine G.callS (st1 := [.int v1]) C [.int x1, .int (0 : Int32), .int ((M.1 14 0) - (1 : Int32))] [] (c_X9_isIn hr1) mv_X9_isIn k2_85 rfl rfl rfl (Nat.le_of_ble_eq_true rfl) (by decide) dX9_isPlace_14 rfl ?_
  obtain ⟨hz, hf⟩ := rz_some hf
  cases hf
  exact G.zret C hz Rt dX9_isPlace_17
theorem mv_X9_isPlace : gMV yX9_isPlace cX9_isPlace 2 (some .boolean) 1 := ⟨k2_143, kS_2, k1_1, k2_144, ⟨by decide +kernel, by decide +kernel, by decide +kernel⟩, by decide⟩
theorem c_X9_isPlace {res : Int32} {x1 : Int32} {M : Mem} (hf : f_X9_isPlace x1 M = some res) : Ct yX9_isPlace cX9_isPlace 2 (some .boolean) 2 (fun ad => [.ref (ad 0), .int x1]) M (some (.int res)) M :=
  Ct.of (by decide +kernel) (fun _ => Nat.le_of_ble_eq_true rfl) (fun X ad C Rt => w_X9_isPlace_E C Rt x1 hf)
set_option maxRecDepth 100000 in
set_option maxHeartbeats 4000000 in
theorem w_X9_cost_31 {X : Gc} {ad : Nat → Nat} {res : (Int32 × Mem)} (C : Gk X ad cX9_cost "NineTongues" 6 4) (Rt : Gr X ad (some .int) (some (.int res.1)) res.2) (M : Mem) (hf : f_X9_cost_31 M = some res) : G X ad 31 6 [(0, .ref (ad 0))] [] M := by
  unfold f_X9_cost_31 at hf
  refine G.aload_n (pl := 0) C dX9_cost_31 rfl rfl ?_
  refine G.bipush (v := (-2)) C dX9_cost_32 (by decide) ?_
  refine G.sipush (v := (-1000)) C dX9_cost_34 (by decide) ?_
  obtain ⟨v1, M1, hr1, hf⟩ := cl_some hf
  refine G.callV (st1 := [.int v1]) C [.int (-2 : Int32), .int (-1000 : Int32)] [] (c_X9_refuse_ hr1) mv_X9_refuse_ k2_92 o_0.1 (fun _ => gShp_19 o_0) rfl rfl rfl rfl rfl (Nat.le_of_ble_eq_true rfl) (by decide) dX9_cost_37 rfl ?_
  cases hf
  exact G.iret C Rt dX9_cost_40
set_option maxRecDepth 100000 in
set_option maxHeartbeats 4000000 in
theorem w_X9_cost_E {X : Gc} {ad : Nat → Nat} {res : (Int32 × Mem)} (C : Gk X ad cX9_cost "NineTongues" 6 4) (Rt : Gr X ad (some .int) (some (.int res.1)) res.2) (x1 : Int32) (x2 : Int32) (x3 : Int32) (x4 : Int32) (M : Mem) (hf : f_X9_cost x1 x2 x3 x4 M = some res) : G X ad 0 6 [(0, .ref (ad 0)), (1, .int x1), (2, .int x2), (3, .int x3), (4, .int x4)] [] M := by
  unfold f_X9_cost at hf
  refine G.iload_n (pl := 1) C dX9_cost_0 rfl rfl ?_
  obtain ⟨v1, hr1, hf⟩ := cp_some hf
  refine G.callS (st1 := [.int v1]) C [.int x1] [] (c_X9_isKind hr1) mv_X9_isKind k2_138 rfl rfl rfl (Nat.le_of_ble_eq_true rfl) (by decide) dX9_cost_1 rfl ?_
  refine G.if_eq (tgt := 31) C dX9_cost_4 (by decide) (fun hc1 => ?_) (fun hc1 => ?_)
  · replace hf := gIf hf hc1
    refine G.sub (lv' := [(0, .ref (ad 0))]) [0] rfl ?_
    exact w_X9_cost_31 C Rt M hf
  · replace hf := gIfn hf hc1
    refine G.aload_n (pl := 0) C dX9_cost_7 rfl rfl ?_
    refine G.iload_n (pl := 2) C dX9_cost_8 rfl rfl ?_
    obtain ⟨v2, hr2, hf⟩ := cp_some hf
    refine G.callV (st1 := [.int v2]) C [.int x2] [] (c_X9_isPlace hr2) mv_X9_isPlace k2_141 o_0.1 (fun _ => gShp_19 o_0) rfl rfl rfl rfl rfl (Nat.le_of_ble_eq_true rfl) (by decide) dX9_cost_9 rfl ?_
    refine G.if_eq (tgt := 31) C dX9_cost_12 (by decide) (fun hc2 => ?_) (fun hc2 => ?_)
    · replace hf := gIf hf hc2
      refine G.sub (lv' := [(0, .ref (ad 0))]) [0] rfl ?_
      exact w_X9_cost_31 C Rt M hf
    · replace hf := gIfn hf hc2
      refine G.aload_n (pl := 0) C dX9_cost_15 rfl rfl ?_
      refine gf9_0 C o_0 k2_44 dX9_cost_16 ?_
      refine gf8_0 C o_5 k1_174 dX9_cost_19 ?_
      refine G.iload_n (pl := 3) C dX9_cost_22 rfl rfl ?_
      refine G.iload (pl := 4) C dX9_cost_23 rfl ?_
      obtain ⟨v3, hr3, hf⟩ := cp_some hf
      refine G.callV (st1 := [.int v3]) C [.int x3, .int x4] [] (c_X1_hasWord hr3) mv_X1_hasWord k2_145 o_6.1 (fun _ => gShp_11 o_6) rfl rfl rfl rfl rfl (Nat.le_of_ble_eq_true rfl) (by decide) dX9_cost_25 rfl ?_
      refine G.if_ne (tgt := 41) C dX9_cost_28 (by decide) (fun hc3 => ?_) (fun hc3 => ?_)
      · replace hf := gIfn hf hc3
        refine G.aload_n (pl := 0) C dX9_cost_41 rfl rfl ?_
        refine gf9_0 C o_0 k2_44 dX9_cost_42 ?_
        refine gf8_1 C o_5 k1_177 dX9_cost_45 ?_
        refine G.astore (lv' := [(5, .ref (ad 14)), (0, .ref (ad 0)), (1, .int x1), (2, .int x2), (3, .int x3), (4, .int x4)]) C dX9_cost_48 (by decide) rfl ?_
        refine G.aload_n (pl := 1) C dX9_cost_50 rfl rfl ?_
        refine gf9_0 C o_0 k2_44 dX9_cost_51 ?_
        refine gf8_0 C o_5 k1_174 dX9_cost_54 ?_
        refine G.iload_n (pl := 2) C dX9_cost_57 rfl rfl ?_
        refine G.aload (pl := 0) C dX9_cost_58 rfl ?_
        refine gf7_1 C o_14 k1_96 dX9_cost_60 ?_
        refine G.iload_n (pl := 3) C dX9_cost_63 rfl rfl ?_
        obtain ⟨v4, ev1, hi1, hf⟩ := rd_some hf
        refine G.iald C a_15 hi1 ev1 dX9_cost_64 ?_
        refine G.aload (pl := 0) C dX9_cost_65 rfl ?_
        refine gf7_2 C o_14 k1_99 dX9_cost_67 ?_
        refine G.iload_n (pl := 3) C dX9_cost_70 rfl rfl ?_
        obtain ⟨v5, ev2, hi2, hf⟩ := rd_some hf
        refine G.iald C a_16 hi2 ev2 dX9_cost_71 ?_
        refine G.iload_n (pl := 4) C dX9_cost_72 rfl rfl ?_
        refine G.bipush (v := 8) C dX9_cost_73 (by decide) ?_
        refine G.imul C dX9_cost_75 ?_
        refine G.iload (pl := 5) C dX9_cost_76 rfl ?_
        refine G.iadd C dX9_cost_78 ?_
        obtain ⟨v6, hr4, hf⟩ := cp_some hf
        refine G.callV (st1 := [.int v6]) C [.int x1, .int v4, .int v5, .int ((x3 * (8 : Int32)) + x4)] [] (c_X1_costOf hr4) mv_X1_costOf k2_150 o_6.1 (fun _ => gShp_11 o_6) rfl rfl rfl rfl rfl (Nat.le_of_ble_eq_true rfl) (by decide) dX9_cost_79 rfl ?_
        cases hf
        exact G.iret C Rt dX9_cost_82
      · replace hf := gIf hf hc3
        refine G.sub (lv' := [(0, .ref (ad 0))]) [0] rfl ?_
        exact w_X9_cost_31 C Rt M hf
theorem mv_X9_cost : gMV yX9_cost cX9_cost 6 (some .int) 4 := ⟨k2_135, k2_136, k1_1, k2_137, ⟨by decide +kernel, by decide +kernel, by decide +kernel⟩, by decide⟩
theorem c_X9_cost {res : (Int32 × Mem)} {x1 : Int32} {x2 : Int32} {x3 : Int32} {x4 : Int32} {M : Mem} (hf : f_X9_cost x1 x2 x3 x4 M = some res) : Ct yX9_cost cX9_cost 6 (some .int) 4 (fun ad => [.ref (ad 0), .int x1, .int x2, .int x3, .int x4]) M (some (.int res.1)) res.2 :=
  Ct.of (by decide +kernel) (fun _ => Nat.le_of_ble_eq_true rfl) (fun X ad C Rt => w_X9_cost_E C Rt x1 x2 x3 x4 M hf)
set_option maxRecDepth 100000 in
set_option maxHeartbeats 4000000 in
theorem w_X9_type_E {X : Gc} {ad : Nat → Nat} {res : (Int32 × Mem)} (C : Gk X ad cX9_type "NineTongues" 4 3) (Rt : Gr X ad (some .int) (some (.int res.1)) res.2) (x1 : Int64) (x3 : Int32) (M : Mem) (hf : f_X9_type x1 x3 M = some res) : G X ad 0 4 [(0, .ref (ad 0)), (1, .long x1), (3, .int x3)] [] M := by
  unfold f_X9_type at hf
  refine G.iload_n (pl := 2) C dX9_type_0 rfl rfl ?_
  refine G.iconst (v := 1) C dX9_type_1 (by decide) ?_
  refine G.bipush (v := 8) C dX9_type_2 (by decide) ?_
  obtain ⟨v1, hr1, hf⟩ := cp_some hf
  refine G.callS (st1 := [.int v1]) C [.int x3, .int (1 : Int32), .int (8 : Int32)] [] (c_X9_isIn hr1) mv_X9_isIn k2_85 rfl rfl rfl (Nat.le_of_ble_eq_true rfl) (by decide) dX9_type_4 rfl ?_
  refine G.if_ne (tgt := 17) C dX9_type_7 (by decide) (fun hc1 => ?_) (fun hc1 => ?_)
  · replace hf := gIfn hf hc1
    refine G.aload_n (pl := 0) C dX9_type_17 rfl rfl ?_
    refine gf9_0 C o_0 k2_44 dX9_type_18 ?_
    refine gf8_2 C o_5 k1_179 dX9_type_21 ?_
    refine gf3_0 C o_18 k1_124 dX9_type_24 ?_
    refine G.iload_n (pl := 2) C dX9_type_27 rfl rfl ?_
    refine G.iadd C dX9_type_28 ?_
    refine G.bipush (v := 60) C dX9_type_29 (by decide) ?_
    refine G.icmp_le (tgt := 41) C dX9_type_31 (by decide) (fun hc2 => ?_) (fun hc2 => ?_)
    · replace hf := gIf hf hc2
      refine G.aload_n (pl := 0) C dX9_type_41 rfl rfl ?_
      refine gf9_0 C o_0 k2_44 dX9_type_42 ?_
      refine gf8_2 C o_5 k1_179 dX9_type_45 ?_
      refine G.lload_n (pl := 1) C dX9_type_48 rfl rfl ?_
      refine G.iload_n (pl := 2) C dX9_type_49 rfl rfl ?_
      obtain ⟨u, M1, hr2, hf⟩ := cl_some hf
      refine G.callV (st1 := []) C [.long x1, .int x3] [] (c_X3_add hr2) mv_X3_add k2_167 o_18.1 (fun _ => gShp_13 o_18) rfl rfl rfl rfl rfl (Nat.le_of_ble_eq_true rfl) (by decide) dX9_type_50 rfl ?_
      refine G.aload_n (pl := 0) C dX9_type_53 rfl rfl ?_
      refine gf9_0 C o_0 k2_44 dX9_type_54 ?_
      refine gf8_2 C o_5 k1_179 dX9_type_57 ?_
      refine gf3_0 C o_18 k1_124 dX9_type_60 ?_
      cases hf
      exact G.iret C Rt dX9_type_63
    · replace hf := gIfn hf hc2
      refine G.aload_n (pl := 0) C dX9_type_34 rfl rfl ?_
      refine G.bipush (v := (-4)) C dX9_type_35 (by decide) ?_
      obtain ⟨v2, M2, hr3, hf⟩ := cl_some hf
      refine G.callV (st1 := [.int v2]) C [.int (-4 : Int32)] [] (c_X9_refuse hr3) mv_X9_refuse k2_88 o_0.1 (fun _ => gShp_19 o_0) rfl rfl rfl rfl rfl (Nat.le_of_ble_eq_true rfl) (by decide) dX9_type_37 rfl ?_
      cases hf
      exact G.iret C Rt dX9_type_40
  · replace hf := gIf hf hc1
    refine G.aload_n (pl := 0) C dX9_type_10 rfl rfl ?_
    refine G.bipush (v := (-2)) C dX9_type_11 (by decide) ?_
    obtain ⟨v3, M3, hr4, hf⟩ := cl_some hf
    refine G.callV (st1 := [.int v3]) C [.int (-2 : Int32)] [] (c_X9_refuse hr4) mv_X9_refuse k2_88 o_0.1 (fun _ => gShp_19 o_0) rfl rfl rfl rfl rfl (Nat.le_of_ble_eq_true rfl) (by decide) dX9_type_13 rfl ?_
    cases hf
    exact G.iret C Rt dX9_type_16
theorem mv_X9_type : gMV yX9_type cX9_type 4 (some .int) 2 := ⟨k2_164, k2_165, k1_1, k2_166, ⟨by decide +kernel, by decide +kernel, by decide +kernel⟩, by decide⟩
theorem c_X9_type {res : (Int32 × Mem)} {x1 : Int64} {x3 : Int32} {M : Mem} (hf : f_X9_type x1 x3 M = some res) : Ct yX9_type cX9_type 4 (some .int) 3 (fun ad => [.ref (ad 0), .long x1, .int x3]) M (some (.int res.1)) res.2 :=
  Ct.of (by decide +kernel) (fun _ => Nat.le_of_ble_eq_true rfl) (fun X ad C Rt => w_X9_type_E C Rt x1 x3 M hf)
set_option maxRecDepth 100000 in
set_option maxHeartbeats 4000000 in
theorem w_X9_clear_E {X : Gc} {ad : Nat → Nat} {res : (Int32 × Mem)} (C : Gk X ad cX9_clear "NineTongues" 2 1) (Rt : Gr X ad (some .int) (some (.int res.1)) res.2) (M : Mem) (hf : f_X9_clear M = some res) : G X ad 0 2 [(0, .ref (ad 0))] [] M := by
  unfold f_X9_clear at hf
  refine G.aload_n (pl := 0) C dX9_clear_0 rfl rfl ?_
  refine gf9_0 C o_0 k2_44 dX9_clear_1 ?_
  refine gf8_2 C o_5 k1_179 dX9_clear_4 ?_
  refine gf3_0 C o_18 k1_124 dX9_clear_7 ?_
  refine G.istore_n (lv' := [(1, .int (M.1 18 0)), (0, .ref (ad 0))]) C dX9_clear_10 rfl (by decide) rfl ?_
  refine G.aload_n (pl := 1) C dX9_clear_11 rfl rfl ?_
  refine gf9_0 C o_0 k2_44 dX9_clear_12 ?_
  refine gf8_2 C o_5 k1_179 dX9_clear_15 ?_
  refine G.iconst (v := 0) C dX9_clear_18 (by decide) ?_
  obtain ⟨M1, eM1, hf⟩ := stm_some hf
  refine gp3_0 C o_18 k1_124 eM1 dX9_clear_19 ?_
  refine G.iload_n (pl := 0) C dX9_clear_22 rfl rfl ?_
  cases hf
  exact G.iret C Rt dX9_clear_23
theorem mv_X9_clear : gMV yX9_clear cX9_clear 2 (some .int) 0 := ⟨k2_173, k2_174, k1_1, k2_175, ⟨by decide +kernel, by decide +kernel, by decide +kernel⟩, by decide⟩
theorem c_X9_clear {res : (Int32 × Mem)} {M : Mem} (hf : f_X9_clear M = some res) : Ct yX9_clear cX9_clear 2 (some .int) 1 (fun ad => [.ref (ad 0)]) M (some (.int res.1)) res.2 :=
  Ct.of (by decide +kernel) (fun _ => Nat.le_of_ble_eq_true rfl) (fun X ad C Rt => w_X9_clear_E C Rt M hf)
