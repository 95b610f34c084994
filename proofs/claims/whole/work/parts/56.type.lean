/-! type -/
def bytX (x : Int64) (k : Nat) : Int32 := (((x.toUInt64 >>> (((8 : Int32) * nI k).toInt64.toUInt64 &&& Int64.toUInt64 63)).toInt64) &&& (255 : Int64)).toInt32
theorem byt_eq (x : Int64) : ∀ k, k < 8 → (((x >>> (((8 : Int32) * nI k).toInt64 &&& 63)) &&& (255 : Int64)).toInt32) = bytX x k := by
  intro k hk
  unfold bytX
  congr 1
  have e1 : ∀ k, k < 8 → (((8:Int32) * nI k).toInt64 &&& 63).toBitVec.smod 64 = BitVec.ofNat 64 (8*k) := by decide +kernel
  have e2 : ∀ k, k < 8 → ((((8:Int32) * nI k).toInt64.toUInt64 &&& Int64.toUInt64 63) % 64).toBitVec = BitVec.ofNat 64 (8*k) := by decide +kernel
  apply Int64.toBitVec_inj.mp
  rw [Int64.toBitVec_and, Int64.toBitVec_and, Int64.toBitVec_shiftRight, e1 k hk]
  show BitVec.sshiftRight' x.toBitVec _ &&& _ = (x.toBitVec >>> ((((8:Int32) * nI k).toInt64.toUInt64 &&& Int64.toUInt64 63) % 64).toBitVec) &&& _
  rw [e2 k hk]
  apply BitVec.eq_of_getLsbD_eq
  intro i hi
  rw [BitVec.getLsbD_and, BitVec.getLsbD_and]
  have h255 : ∀ i, i < 64 → (Int64.toBitVec 255).getLsbD i = decide (i < 8) := by decide +kernel
  rw [h255 i hi]
  by_cases h8 : i < 8
  · rw [decide_eq_true h8, Bool.and_true, Bool.and_true, BitVec.sshiftRight_eq', BitVec.ushiftRight_eq', BitVec.getLsbD_sshiftRight, BitVec.getLsbD_ushiftRight]
    have : (BitVec.ofNat 64 (8 * k)).toNat = 8 * k := by rw [BitVec.toNat_ofNat]; omega
    rw [this, if_pos (by omega)]
    simp; omega
  · rw [decide_eq_false h8, Bool.and_false, Bool.and_false]
theorem bytX_U (x : Int64) (k : Nat) : U 256 (bytX x k) := by
  unfold bytX
  generalize ((x.toUInt64 >>> (((8 : Int32) * nI k).toInt64.toUInt64 &&& Int64.toUInt64 63)).toInt64) = y
  have hlt : (y &&& 255).toBitVec.toNat < 256 := by
    rw [Int64.toBitVec_and, BitVec.toNat_and]
    exact Nat.lt_of_le_of_lt Nat.and_le_right (by decide)
  refine ⟨(y &&& 255).toBitVec.toNat, hlt, ?_⟩
  apply Int32.toBitVec_inj.mp
  show _ = BitVec.ofNat 32 _
  rw [Int64.toBitVec_toInt32, BitVec.signExtend_eq_setWidth_of_le _ (by decide)]
  apply BitVec.eq_of_toNat_eq
  rw [BitVec.toNat_setWidth, BitVec.toNat_ofNat]
theorem add_m1 (x : Int32) : x + (-1) = x - 1 := (Int32.sub_eq_add_neg x 1).symm
theorem add_go {x : Int64} : ∀ (d F n : Nat) (M : Mem), M.1 18 0 = nI n → n + d ≤ 60 → d ≤ 8 → d < F → ∃ M', f_X3_add_5 x F (nI d - 1) M = some ((), M') ∧ M'.1 18 0 = nI (n + d) ∧ (∀ j, M'.1 19 j = if n ≤ j ∧ j < n + d then bytX x (n + d - 1 - j) else M.1 19 j) ∧ (∀ c, c ≠ 18 → c ≠ 19 → M'.1 c = M.1 c) := by
  intro d
  induction d with
  | zero =>
    intro F n M hn hd h8 hF
    obtain ⟨F, rfl⟩ : ∃ F', F = F' + 1 := ⟨F - 1, by omega⟩
    refine ⟨M, ?_, hn, fun j => by rw [if_neg (by omega)], fun _ _ _ => rfl⟩
    show f_X3_add_5_b (f_X3_add_5 x F) x (nI 0 - 1) M = _
    unfold f_X3_add_5_b
    rw [if_pos (by decide)]
  | succ d ih =>
    intro F n M hn hd h8 hF
    obtain ⟨F, rfl⟩ : ∃ F', F = F' + 1 := ⟨F - 1, by omega⟩
    obtain ⟨M', g1, g2, g3, g4⟩ := ih F (n + 1) (mset (mset M 19 n (bytX x d)) 18 0 (nI (n + 1))) (by rw [mset_at, if_pos ⟨rfl, rfl⟩]) (by omega) (by omega) (by omega)
    refine ⟨M', ?_, by rw [g2]; congr 1; omega, fun j => ?_, fun c c1 c2 => by rw [g4 c c1 c2, mset_ne c1, mset_ne c2]⟩
    · show f_X3_add_5_b (f_X3_add_5 x F) x (nI (d + 1) - 1) M = _
      unfold f_X3_add_5_b
      rw [nI_pred, if_neg (nI_pos (by omega)), hn, if_neg (show ¬ (60 : Int32) ≤ nI n from nI_ge (b := 60) (by omega) (by omega)), ck_n (by omega), stm_s, stm_s, nI_clamp (by omega), mset_ne (by omega), hn, nI_1, add_m1]
      exact g1
    · rw [g3]
      by_cases h : n + 1 ≤ j ∧ j < n + 1 + d
      · rw [if_pos h, if_pos (by omega)]; congr 1; omega
      · rw [if_neg h, mset_ne (by omega), mset_at]
        by_cases h2 : j = n
        · rw [if_pos ⟨rfl, h2⟩, if_pos (by omega)]; congr 1; omega
        · rw [if_neg (by omega), if_neg (by omega)]
theorem type_go {x : Int64} : ∀ (d F n : Nat) (M : Mem), M.1 111 0 = nI n → n + d ≤ 60 → d ≤ 8 → d < F → ∃ M', f_X10_type_40 x F (nI d - 1) M = some (nI (n + d), M') ∧ M'.1 111 0 = nI (n + d) ∧ (∀ j, j ≠ 0 → M'.1 111 j = M.1 111 j) ∧ (∀ j, M'.1 115 j = if n ≤ j ∧ j < n + d then bytX x (n + d - 1 - j) else M.1 115 j) ∧ (∀ c, c ≠ 111 → c ≠ 115 → M'.1 c = M.1 c) := by
  intro d
  induction d with
  | zero =>
    intro F n M hn hd h8 hF
    obtain ⟨F, rfl⟩ : ∃ F', F = F' + 1 := ⟨F - 1, by omega⟩
    refine ⟨M, ?_, hn, fun _ _ => rfl, fun j => by rw [if_neg (by omega)], fun _ _ _ => rfl⟩
    show f_X10_type_40_b (f_X10_type_40 x F) x (nI 0 - 1) M = _
    unfold f_X10_type_40_b
    rw [if_pos (by decide), hn]; rfl
  | succ d ih =>
    intro F n M hn hd h8 hF
    obtain ⟨F, rfl⟩ : ∃ F', F = F' + 1 := ⟨F - 1, by omega⟩
    obtain ⟨M', g1, g2, g5, g3, g4⟩ := ih F (n + 1) (mset (mset M 115 n (bytX x d)) 111 0 (nI (n + 1))) (by rw [mset_at, if_pos ⟨rfl, rfl⟩]) (by omega) (by omega) (by omega)
    refine ⟨M', ?_, by rw [g2]; congr 1; omega, fun j hj => ?_, fun j => ?_, fun c c1 c2 => by rw [g4 c c1 c2, mset_ne c1, mset_ne c2]⟩
    · show f_X10_type_40_b (f_X10_type_40 x F) x (nI (d + 1) - 1) M = _
      unfold f_X10_type_40_b
      rw [nI_pred, if_neg (nI_pos (by omega)), hn, ck_n (by omega), stm_s, stm_s, nI_clamp (by omega), mset_ne (by omega), hn, nI_1, byt_eq x d (by omega), add_m1]
      have : n + (d + 1) = n + 1 + d := by omega
      rw [this]
      exact g1
    · rw [g5 j hj, mset_at, if_neg (by omega), mset_ne (by omega)]
    · rw [g3]
      by_cases h : n + 1 ≤ j ∧ j < n + 1 + d
      · rw [if_pos h, if_pos (by omega)]; congr 1; omega
      · rw [if_neg h, mset_ne (by omega), mset_at]
        by_cases h2 : j = n
        · rw [if_pos ⟨rfl, h2⟩, if_pos (by omega)]; congr 1; omega
        · rw [if_neg (by omega), if_neg (by omega)]
theorem op_type (a : Int64) (b : Int32) : opI gRel (f_X9_type a b) (f_X10_type a b) := by
  intro M hR
  cases h1 : inR b 1 8 with
  | false =>
    refine ⟨-2, rfX 0 M, rfM 0 (rfX 0 M), ?_, ?_, gRel_rf hR⟩
    · simp only [f_X9_type, ev_isIn, cp_s, if_bI, h1, cond]; rfl
    · simp only [f_X10_type, ev_between, cp_s, if_bI, h1, cond]; rfl
  | true =>
  obtain ⟨⟨d, hd, rfl⟩, hd0⟩ := (inR_lit1 (m := 8) (by decide)).mp h1
  have hd1 : 1 ≤ d := by
    apply Nat.one_le_iff_ne_zero.mpr
    intro h; subst h; exact hd0 rfl
  obtain ⟨⟨⟨i1, i2, i3, i4, i5⟩, m1, m2, m3, m4, m5⟩, -⟩ := id hR
  have hn6 := nB_le i3
  have e18 : M.1 18 0 = nI (nB (Sv 5 M.1)) := nB_eq i3
  have e111 : M.1 111 0 = nI (nB (Sv 5 M.1)) := by
    have : M.1 111 0 = Sv 5 M.1 13 0 := m3.1
    rw [this]; exact nB_eq i3
  generalize hn : nB (Sv 5 M.1) = n at *
  have hc : (nI n + nI d ≤ (60 : Int32)) ↔ n + d ≤ 60 := by rw [nI_add, show (60 : Int32) = nI 60 from rfl, nI_leI (by omega) (by omega)]
  by_cases hf : n + d ≤ 60
  case neg =>
    refine ⟨-4, rfX 2 M, rfM 2 (rfX 2 M), ?_, ?_, gRel_rf hR⟩
    · simp only [f_X9_type, ev_isIn, cp_s, if_bI, h1, cond]
      rw [e18, if_neg (fun z => hf (hc.mp z))]; rfl
    · simp only [f_X10_type, ev_between, cp_s, if_bI, h1, cond]
      rw [show (rfX 2 M).1 111 0 = nI n by rw [rfX, mset_ne (by omega), e111], if_neg (fun z => hf (hc.mp z))]; rfl
  case pos =>
    obtain ⟨M1, g1, g2, g3, g4⟩ := add_go (x := a) d FU n M e18 hf (by omega) (FU_of (by omega))
    obtain ⟨M2, q1, q2, q5, q3, q4⟩ := type_go (x := a) d FU n M1 (by rw [g4 111 (by omega) (by omega), e111]) hf (by omega) (FU_of (by omega))
    have a1 : ∀ c, c ≠ 18 → c ≠ 19 → c ≠ 111 → c ≠ 115 → M2.1 c = M.1 c := fun c c1 c2 c3 c4 => by rw [q4 c c3 c4, g4 c c1 c2]
    refine ⟨nI (n + d), M1, M2, ?_, ?_, ?_⟩
    · simp only [f_X9_type, ev_isIn, cp_s, if_bI, h1, cond]
      rw [e18, if_pos (hc.mpr hf)]
      unfold f_X3_add
      rw [g1, cl_s, g2]
    · simp only [f_X10_type, ev_between, cp_s, if_bI, h1, cond]
      rw [g4 111 (by omega) (by omega), e111, if_pos (hc.mpr hf), q1]
    · have y18 : M2.1 18 0 = nI (n + d) := by rw [q4 18 (by omega) (by omega), g2]
      have y19 : ∀ j, M2.1 19 j = if n ≤ j ∧ j < n + d then bytX a (n + d - 1 - j) else M.1 19 j := fun j => by rw [q4 19 (by omega) (by omega), g3]
      have y115 : ∀ j, M2.1 115 j = if n ≤ j ∧ j < n + d then bytX a (n + d - 1 - j) else M.1 115 j := fun j => by rw [q3, g4 115 (by omega) (by omega)]
      have hnB : nB (Sv 5 M2.1) = n + d := by show (M2.1 18 0).toNatClampNeg = _; rw [y18, nI_clamp (by omega)]
      refine gRel_B hR ⟨fun c c1 c2 => a1 c (by omega) (by omega) (by omega) (by omega), a1 2 (by omega) (by omega) (by omega) (by omega), a1 119 (by omega) (by omega) (by omega) (by omega), a1 3 (by omega) (by omega) (by omega) (by omega), a1 120 (by omega) (by omega) (by omega) (by omega), a1 0 (by omega) (by omega) (by omega) (by omega), by rw [a1 108 (by omega) (by omega) (by omega) (by omega)], by rw [a1 108 (by omega) (by omega) (by omega) (by omega)], fun c j c1 c2 c3 => ?_⟩ (fun c c1 c2 c3 => a1 c (by omega) (by omega) (by omega) (by omega)) (fun c c1 c2 c3 c4 => a1 c (by omega) (by omega) (by omega) (by omega)) ⟨?_, fun j hj => ?_⟩ ⟨?_, fun j hj => ?_⟩
      · by_cases h111 : c = 111
        · subst h111
          have : 1 ≤ j := c3
          rw [q5 j (by omega), g4 111 (by omega) (by omega)]
        · by_cases h115 : c = 115
          · subst h115
            have : 60 ≤ j := c3
            rw [y115, if_neg (by omega)]
          · rw [a1 c (by omega) (by omega) h111 h115]
      · show U 61 (M2.1 18 0); rw [y18]; exact ⟨n + d, by omega, rfl⟩
      · rw [hnB] at hj
        show U 256 (M2.1 19 j); rw [y19]
        by_cases h : n ≤ j ∧ j < n + d
        · rw [if_pos h]; exact bytX_U _ _
        · rw [if_neg h]; exact i3.2 j (by omega)
      · show M2.1 111 0 = M2.1 18 0; rw [q2, y18]
      · rw [hnB] at hj
        show M2.1 115 (60 * 0 + j) = M2.1 19 j
        rw [y19, show 60 * 0 + j = j by omega, y115]
        by_cases h : n ≤ j ∧ j < n + d
        · rw [if_pos h, if_pos h]
        · rw [if_neg h, if_neg h]
          have := m3.2 j (by omega)
          rw [show 60 * 0 + j = j by omega] at this
          exact this
