/-! sums over a state -/
def sI (f : Nat → Int32) : Nat → Int32
  | 0 => 0
  | n + 1 => sI f n + f n
theorem sI_s {f : Nat → Int32} {n : Nat} : sI f (n + 1) = sI f n + f n := rfl
theorem sI_cong {f g : Nat → Int32} : ∀ n, (∀ i, i < n → f i = g i) → sI f n = sI g n := by
  intro n
  induction n with
  | zero => intro _; rfl
  | succ n ih => intro h; rw [sI_s, sI_s, ih (fun i hi => h i (by omega)), h n (by omega)]
theorem sI_add {f g : Nat → Int32} : ∀ n, sI (fun i => f i + g i) n = sI f n + sI g n := by
  intro n
  induction n with
  | zero => rfl
  | succ n ih => rw [sI_s, sI_s, sI_s, ih]; ac_rfl
def pbF (Q Q' : Nat → Nat → Int32) (p : Nat) : Int32 := bcI (Q 0 p &&& (Q' 0 p ^^^ -1))
def fbF (Q Q' : Nat → Nat → Int32) (f : Nat) : Int32 := if Q 2 f = -1 then 0 else if Q' 2 f = -1 then 1 else 0
def dfF (Q Q' : Nat → Nat → Int32) (f : Nat) : Int32 := if Q 2 f = Q' 2 f then 0 else 1
def unl (n : Nat) (Q Q' : Nat → Nat → Int32) : Int32 := sI (pbF Q Q') n + sI (pbF Q' Q) n + sI (dfF Q Q') 4
theorem pb_go {n k0 k1 : Nat} {Q Q' : Nat → Nat → Int32} {M : Mem} (hn : n ≤ 6) (h0 : CQ n k0 Q M) (h1 : CQ n k1 Q' M) : ∀ (d F i : Nat), i + d = n → d < F → f_X7_partsBeyond_4 k0 k1 M F (sI (pbF Q Q') i) (nI i) = some (sI (pbF Q Q') n) := by
  intro d
  induction d with
  | zero =>
    intro F i hi hF
    obtain ⟨F, rfl⟩ : ∃ F', F = F' + 1 := ⟨F - 1, by omega⟩
    show f_X7_partsBeyond_4_b k0 k1 M (f_X7_partsBeyond_4 k0 k1 M F) _ (nI i) = _
    unfold f_X7_partsBeyond_4_b
    rw [h0.1, if_pos (nI_le (by omega) (by omega)), show i = n by omega]
  | succ d ih =>
    intro F i hi hF
    obtain ⟨F, rfl⟩ : ∃ F', F = F' + 1 := ⟨F - 1, by omega⟩
    show f_X7_partsBeyond_4_b k0 k1 M (f_X7_partsBeyond_4 k0 k1 M F) _ (nI i) = _
    unfold f_X7_partsBeyond_4_b
    rw [h0.1, if_neg (nI_ge (by omega) (by omega)), rd_n (by omega), rd_n (by omega), ev_bitCount, cp_s, nI_1, (h0.2.1 i (by omega)).1, (h1.2.1 i (by omega)).1, ← ih F (i + 1) (by omega) (by omega)]; rfl
theorem ev_pb {n k0 k1 : Nat} {Q Q' : Nat → Nat → Int32} {M : Mem} (hn : n ≤ 6) (h0 : CQ n k0 Q M) (h1 : CQ n k1 Q' M) : f_X7_partsBeyond k0 k1 M = some (sI (pbF Q Q') n) := by
  unfold f_X7_partsBeyond
  exact pb_go hn h0 h1 n FU 0 (by omega) (FU_of (by omega))
theorem fb_go {n k0 k1 : Nat} {Q Q' : Nat → Nat → Int32} {M : Mem} (h0 : CQ n k0 Q M) (h1 : CQ n k1 Q' M) : ∀ (d F i : Nat), i + d = 4 → d < F → f_X7_formsBeyond_4 k0 k1 M F (sI (fbF Q Q') i) (nI i) = some (sI (fbF Q Q') 4) := by
  intro d
  induction d with
  | zero =>
    intro F i hi hF
    obtain ⟨F, rfl⟩ : ∃ F', F = F' + 1 := ⟨F - 1, by omega⟩
    show f_X7_formsBeyond_4_b k0 k1 M (f_X7_formsBeyond_4 k0 k1 M F) _ (nI i) = _
    unfold f_X7_formsBeyond_4_b
    rw [if_pos (show (4 : Int32) ≤ nI i from nI_le (a := 4) (by omega) (by omega)), show i = 4 by omega]
  | succ d ih =>
    intro F i hi hF
    obtain ⟨F, rfl⟩ : ∃ F', F = F' + 1 := ⟨F - 1, by omega⟩
    show f_X7_formsBeyond_4_b k0 k1 M (f_X7_formsBeyond_4 k0 k1 M F) _ (nI i) = _
    unfold f_X7_formsBeyond_4_b f_X7_formsBeyond_32
    rw [if_neg (show ¬ (4 : Int32) ≤ nI i from nI_ge (b := 4) (by omega) (by omega)), rd_n (by omega), rd_n (by omega), nI_1, h0.2.2 i (by omega), h1.2.2 i (by omega), ← ih F (i + 1) (by omega) (by omega), sI_s]
    unfold fbF
    by_cases e1 : Q 2 i = -1
    · rw [if_pos e1, if_pos e1, Int32.add_zero]
    · rw [if_neg e1, if_neg e1]
      by_cases e2 : Q' 2 i = -1
      · rw [if_pos e2, if_pos e2]
      · rw [if_neg e2, if_neg e2, Int32.add_zero]
theorem ev_fb {n k0 k1 : Nat} {Q Q' : Nat → Nat → Int32} {M : Mem} (h0 : CQ n k0 Q M) (h1 : CQ n k1 Q' M) : f_X7_formsBeyond k0 k1 M = some (sI (fbF Q Q') 4) := by
  unfold f_X7_formsBeyond
  exact fb_go h0 h1 4 FU 0 (by omega) (FU_of (by omega))
theorem un_go {n k0 k1 : Nat} {Q Q' : Nat → Nat → Int32} {M : Mem} (h0 : CQ n k0 Q M) (h1 : CQ n k1 Q' M) (a : Int32) : ∀ (d F i : Nat), i + d = 4 → d < F → f_X7_unlikeness_14 k0 k1 M F (a + sI (dfF Q Q') i) (nI i) = some (a + sI (dfF Q Q') 4) := by
  intro d
  induction d with
  | zero =>
    intro F i hi hF
    obtain ⟨F, rfl⟩ : ∃ F', F = F' + 1 := ⟨F - 1, by omega⟩
    show f_X7_unlikeness_14_b k0 k1 M (f_X7_unlikeness_14 k0 k1 M F) _ (nI i) = _
    unfold f_X7_unlikeness_14_b
    rw [if_pos (show (4 : Int32) ≤ nI i from nI_le (a := 4) (by omega) (by omega)), show i = 4 by omega]
  | succ d ih =>
    intro F i hi hF
    obtain ⟨F, rfl⟩ : ∃ F', F = F' + 1 := ⟨F - 1, by omega⟩
    show f_X7_unlikeness_14_b k0 k1 M (f_X7_unlikeness_14 k0 k1 M F) _ (nI i) = _
    unfold f_X7_unlikeness_14_b f_X7_unlikeness_37
    rw [if_neg (show ¬ (4 : Int32) ≤ nI i from nI_ge (b := 4) (by omega) (by omega)), rd_n (by omega), rd_n (by omega), nI_1, h0.2.2 i (by omega), h1.2.2 i (by omega), ← ih F (i + 1) (by omega) (by omega), sI_s]
    unfold dfF
    by_cases e1 : Q 2 i = Q' 2 i
    · rw [if_pos e1, if_pos e1, Int32.add_zero]
    · rw [if_neg e1, if_neg e1, Int32.add_assoc]
theorem ev_unlikeness {n k0 k1 : Nat} {Q Q' : Nat → Nat → Int32} {M : Mem} (hn : n ≤ 6) (h0 : CQ n k0 Q M) (h1 : CQ n k1 Q' M) : f_X7_unlikeness k0 k1 M = some (unl n Q Q') := by
  unfold f_X7_unlikeness
  rw [ev_pb hn h0 h1, ev_pb hn h1 h0, cp_s, cp_s]
  have := un_go h0 h1 (sI (pbF Q Q') n + sI (pbF Q' Q) n) 4 FU 0 (by omega) (FU_of (by omega))
  rw [show sI (dfF Q Q') 0 = 0 from rfl, Int32.add_zero] at this
  exact this
/-! parts of one alone and of the other alone -/
theorem bitI (x : Int32) : ∀ i, i < 8 → (x >>> (nI i &&& 31)) &&& 1 = bI (x.toBitVec.getLsbD i) := by
  intro i hi
  apply Int32.toBitVec_inj.mp
  have e1 : ∀ i, i < 8 → (nI i &&& 31).toBitVec.smod 32 = BitVec.ofNat 32 i := by decide +kernel
  rw [Int32.toBitVec_and, Int32.toBitVec_shiftRight, e1 i hi]
  apply BitVec.eq_of_getLsbD_eq
  intro j hj
  have e2 : ∀ j, j < 32 → (Int32.toBitVec 1).getLsbD j = decide (j = 0) := by decide +kernel
  have e3 : ∀ j, j < 32 → (Int32.toBitVec 0).getLsbD j = false := by decide +kernel
  rw [BitVec.getLsbD_and, e2 j hj, BitVec.sshiftRight_eq', BitVec.getLsbD_sshiftRight]
  have : (BitVec.ofNat 32 i).toNat = i := by rw [BitVec.toNat_ofNat]; omega
  rw [this]
  by_cases h0 : j = 0
  · subst h0
    rw [decide_eq_true rfl, Bool.and_true, if_pos (by omega), Nat.add_zero]
    cases x.toBitVec.getLsbD i
    · exact (e3 0 (by omega)).symm
    · exact (e2 0 (by omega)).symm
  · rw [decide_eq_false h0, Bool.and_false]
    cases x.toBitVec.getLsbD i
    · exact (e3 j hj).symm
    · show false = (Int32.toBitVec 1).getLsbD j
      rw [e2 j hj, decide_eq_false h0]
theorem bmI_eq (x : Int32) : bmI x = 0 + bI (x.toBitVec.getLsbD 0) + bI (x.toBitVec.getLsbD 1) + bI (x.toBitVec.getLsbD 2) + bI (x.toBitVec.getLsbD 3) + bI (x.toBitVec.getLsbD 4) + bI (x.toBitVec.getLsbD 5) + bI (x.toBitVec.getLsbD 6) + bI (x.toBitVec.getLsbD 7) := by
  rw [← bitI x 0 (by omega), ← bitI x 1 (by omega), ← bitI x 2 (by omega), ← bitI x 3 (by omega), ← bitI x 4 (by omega), ← bitI x 5 (by omega), ← bitI x 6 (by omega), ← bitI x 7 (by omega)]
  rfl
theorem bI_xor (p q : Bool) : bI (p ^^ q) = bI (p && !q) + bI (q && !p) := by cases p <;> cases q <;> rfl
theorem bmI_xor (a b : Int32) : bmI (a ^^^ b) = bmI (a &&& (b ^^^ -1)) + bmI (b &&& (a ^^^ -1)) := by
  have e3 : ∀ i, i < 8 → (-1 : Int32).toBitVec.getLsbD i = true := by decide +kernel
  have h1 : ∀ i, i < 8 → bI ((a ^^^ b).toBitVec.getLsbD i) = bI ((a &&& (b ^^^ -1)).toBitVec.getLsbD i) + bI ((b &&& (a ^^^ -1)).toBitVec.getLsbD i) := by
    intro i hi
    rw [Int32.toBitVec_and, Int32.toBitVec_and, Int32.toBitVec_xor, Int32.toBitVec_xor, Int32.toBitVec_xor, BitVec.getLsbD_and, BitVec.getLsbD_and, BitVec.getLsbD_xor, BitVec.getLsbD_xor, BitVec.getLsbD_xor, e3 i hi, Bool.xor_true, Bool.xor_true, bI_xor]
  rw [bmI_eq, bmI_eq, bmI_eq, h1 0 (by omega), h1 1 (by omega), h1 2 (by omega), h1 3 (by omega), h1 4 (by omega), h1 5 (by omega), h1 6 (by omega), h1 7 (by omega)]
  simp only [Int32.zero_add]
  ac_rfl
theorem bm_xor {a b : Int32} (ha : U 256 a) (hb : U 256 b) : bmI (a ^^^ b) = bcI (a &&& (b ^^^ -1)) + bcI (b &&& (a ^^^ -1)) := by
  rw [bmI_xor, bm_bc (U_and ha), bm_bc (U_and hb)]
theorem ap_go {n q1 l1 q3 l3 a b : Nat} {Q Q' : Nat → Nat → Int32} {M : Mem} (hn : n ≤ 6) (ha : a + 16 ≤ l1) (hb : b + 16 ≤ l3) (hl1 : l1 < 4000) (hl3 : l3 < 4000) (e110 : M.1 110 0 = nI n) (hO : QOk n Q) (hO' : QOk n Q') (h0 : RQ n q1 a Q M) (h1 : RQ n q3 b Q' M) : f_X10_apart q1 l1 q3 l3 (nI a) (nI b) M = some (unl n Q Q') := by
  have fin : ∀ (x : Int32) (d F i : Nat), i + d = 4 → d < F → f_X10_apart_49 q1 l1 q3 l3 M (nI a) (nI b) F (x + sI (dfF Q Q') i) (nI (12 + i)) = some (x + sI (dfF Q Q') 4) := by
    intro x d
    induction d with
    | zero =>
      intro F i hi hF
      obtain ⟨F, rfl⟩ : ∃ F', F = F' + 1 := ⟨F - 1, by omega⟩
      show f_X10_apart_49_b q1 l1 q3 l3 M (f_X10_apart_49 q1 l1 q3 l3 M (nI a) (nI b) F) (nI a) (nI b) _ (nI (12 + i)) = _
      unfold f_X10_apart_49_b
      rw [if_pos (show (16 : Int32) ≤ nI (12 + i) from nI_le (a := 16) (by omega) (by omega)), show i = 4 by omega]
    | succ d ih =>
      intro F i hi hF
      obtain ⟨F, rfl⟩ : ∃ F', F = F' + 1 := ⟨F - 1, by omega⟩
      show f_X10_apart_49_b q1 l1 q3 l3 M (f_X10_apart_49 q1 l1 q3 l3 M (nI a) (nI b) F) (nI a) (nI b) _ (nI (12 + i)) = _
      unfold f_X10_apart_49_b f_X10_apart_79
      rw [if_neg (show ¬ (16 : Int32) ≤ nI (12 + i) from nI_ge (b := 16) (by omega) (by omega)), nI_add, nI_add, rd_n (by omega) (by omega), rd_n (by omega) (by omega), nI_1, ← Nat.add_assoc, ← Nat.add_assoc, h0.2.2 i (by omega), h1.2.2 i (by omega), ← ih F (i + 1) (by omega) (by omega), sI_s]
      unfold dfF
      by_cases e1 : Q 2 i = Q' 2 i
      · rw [if_pos e1, if_pos e1, Int32.add_zero, Int32.add_zero]; rfl
      · rw [if_neg e1, if_neg e1, Int32.add_assoc]; rfl
  have go : ∀ (d F i : Nat), i + d = n → d < F → f_X10_apart_6 q1 l1 q3 l3 M (nI a) (nI b) F (sI (fun p => pbF Q Q' p + pbF Q' Q p) i) (nI i) = some (unl n Q Q') := by
    intro d
    induction d with
    | zero =>
      intro F i hi hF
      obtain ⟨F, rfl⟩ : ∃ F', F = F' + 1 := ⟨F - 1, by omega⟩
      show f_X10_apart_6_b q1 l1 q3 l3 M (f_X10_apart_6 q1 l1 q3 l3 M (nI a) (nI b) F) (nI a) (nI b) _ (nI i) = _
      unfold f_X10_apart_6_b
      rw [e110, if_pos (nI_le (by omega) (by omega)), show i = n by omega, sI_add]
      have := fin (sI (pbF Q Q') n + sI (pbF Q' Q) n) 4 FU 0 (by omega) (FU_of (by omega))
      rw [show sI (dfF Q Q') 0 = 0 from rfl, Int32.add_zero] at this
      exact this
    | succ d ih =>
      intro F i hi hF
      obtain ⟨F, rfl⟩ : ∃ F', F = F' + 1 := ⟨F - 1, by omega⟩
      show f_X10_apart_6_b q1 l1 q3 l3 M (f_X10_apart_6 q1 l1 q3 l3 M (nI a) (nI b) F) (nI a) (nI b) _ (nI i) = _
      unfold f_X10_apart_6_b
      rw [e110, if_neg (nI_ge (by omega) (by omega)), nI_add, nI_add, rd_n (by omega) (by omega), rd_n (by omega) (by omega), ev_bits, cp_s, nI_1, (h0.1 i (by omega)).1, (h1.1 i (by omega)).1, bm_xor (hO.1 i (by omega)).1 (hO'.1 i (by omega)).1, ← ih F (i + 1) (by omega) (by omega)]; rfl
  unfold f_X10_apart
  exact go n FU 0 (by omega) (FU_of (by omega))
/-! step, unlike -/
theorem gp_false {M M1 : Mem} {i : Nat} (hR : gRel M) (sc : Sc M M1) (hg : gpB (St M) = false) : ∃ M2, f_X10_goes (rfX i M1) = some (0, M2) ∧ gRel (rfM i M2) := by
  obtain ⟨M2, q1, q2, q3⟩ := ev_goes (KK_rfX (i := i) (KK_Sc (KK_of hR) sc))
  rw [St_rfX, St_Sc sc, hg] at q1
  exact ⟨M2, q1, gRel_bad hR sc (FG_Sc q3)⟩
theorem gp_true {M M1 : Mem} (hR : gRel M) (sc : Sc M M1) (hg : gpB (St M) = true) : ∃ M2, f_X10_goes M1 = some (1, M2) ∧ gRel M2 ∧ KK M2 ∧ St M2 = St M ∧ M2.1 108 14 = nI (nS (St M)) ∧ ∀ j, j ≤ nS (St M) → RQ (nP (St M)) 123 (16 * j) (Qs (St M) (tS (St M)) (kS (St M)) j) M2 := by
  obtain ⟨M2, q1, q2, q3⟩ := ev_goes (KK_Sc (KK_of hR) sc)
  rw [St_Sc sc, hg] at q1 q2
  obtain ⟨q21, q22⟩ := q2 rfl
  exact ⟨M2, q1, gRel_sc (gRel_sc hR sc) (FG_Sc q3), KK_Sc (KK_Sc (KK_of hR) sc) (FG_Sc q3), by rw [St_Sc (FG_Sc q3), St_Sc sc], q21, q22⟩
theorem gp_bad {M M1 : Mem} {i : Nat} (hR : gRel M) (sc : Sc M M1) (hg : gpB (St M) = true) : ∃ M2, f_X10_goes (rfX i M1) = some (1, M2) ∧ gRel (rfM i M2) ∧ KK M2 ∧ St M2 = St M ∧ M2.1 108 14 = nI (nS (St M)) := by
  obtain ⟨M2, q1, q2, q3⟩ := ev_goes (KK_rfX (i := i) (KK_Sc (KK_of hR) sc))
  rw [St_rfX, St_Sc sc, hg] at q1 q2
  obtain ⟨q21, q22⟩ := q2 rfl
  exact ⟨M2, q1, gRel_bad hR sc (FG_Sc q3), KK_Sc (KK_rfX (KK_Sc (KK_of hR) sc)) (FG_Sc q3), by rw [St_Sc (FG_Sc q3), St_rfX, St_Sc sc], q21⟩
theorem op_unlike (a b : Int32) : opI gRel (f_X9_unlike a b) (f_X10_unlike a b) := by
  intro M hR
  have hK := KK_of hR
  have hT := hK.1.1
  have hP := hK.1.2.1
  have h6 := nP_le hP
  obtain ⟨M1, g1, g4, g5⟩ := ev_goesPath hK
  have hS1 : St M1 = St M := St_FX g5
  cases hg : gpB (St M) with
  | false =>
    obtain ⟨M2, q1, q2⟩ := gp_false (i := 1) hR (FX_Sc g5) hg
    refine ⟨-3, rfX 1 M1, rfM 1 M2, ?_, ?_, q2⟩
    · unfold f_X9_unlike
      rw [g1, cl_s, if_bI, hg, cond_f, ev_rno, cl_s]
    · unfold f_X10_unlike
      rw [q1, cl_s, if_pos rfl, ev_no, cl_s]
  | true =>
  obtain ⟨hgo, hXP⟩ := g4 hg
  have hPO := goB_PO hgo
  have hn := hPO.1
  have bad : (inR a 0 (nI (nS (St M))) && inR b 0 (nI (nS (St M)))) = false → ∃ r M1 M2, f_X9_unlike a b M = some (r, M1) ∧ f_X10_unlike a b M1 = some (r, M2) ∧ gRel M2 := by
    intro hb
    obtain ⟨M2, q1, q2, hK2, hS2, q21⟩ := gp_bad (i := 0) hR (FX_Sc g5) hg
    refine ⟨-2, rfX 0 M1, rfM 0 M2, ?_, ?_, q2⟩
    · unfold f_X9_unlike f_X9_isState
      rw [g1, cl_s, if_bI, hg, cond_t, hXP.1, ev_isIn, cp_s, rz_bI, cp_s, if_bI, ev_isIn, cp_s, rz_bI, cp_s, if_bI]
      unfold f_X9_unlike_30
      rw [ev_rbad, cl_s]
      cases h1 : inR a 0 (nI (nS (St M))) with
      | false => rw [cond_f]
      | true =>
        rw [cond_t]
        cases h2 : inR b 0 (nI (nS (St M))) with
        | false => rw [cond_f]
        | true => rw [h1, h2] at hb; cases hb
    · unfold f_X10_unlike
      rw [q1, cl_s, if_neg (by decide), q21, ev_between, cp_s, if_bI, ev_between, cp_s, if_bI]
      unfold f_X10_unlike_61
      rw [ev_bad, cl_s]
      cases h1 : inR a 0 (nI (nS (St M))) with
      | false => rw [cond_f]
      | true =>
        rw [cond_t]
        cases h2 : inR b 0 (nI (nS (St M))) with
        | false => rw [cond_f]
        | true => rw [h1, h2] at hb; cases hb
  cases h1 : inR a 0 (nI (nS (St M))) with
  | false => exact bad (by rw [h1]; rfl)
  | true =>
  cases h2 : inR b 0 (nI (nS (St M))) with
  | false => exact bad (by rw [h1, h2]; rfl)
  | true =>
  obtain ⟨x, hx, rfl⟩ := (inR_nn (by omega)).mp h1
  obtain ⟨y, hy, rfl⟩ := (inR_nn (by omega)).mp h2
  obtain ⟨M2, p1, p2, p3⟩ := ev_goTo (M := M1) (k0 := 100) (by omega) hx (by rw [hS1]; exact hT) (by rw [hS1]; exact hP) (by rw [hS1]; exact hPO) hXP
  rw [hS1] at p2
  have hS2 : St M2 = St M := by rw [St_sc (fun c c1 c2 => p3 c (by omega)), hS1]
  have hXP2 : XP (nS (St M)) (tS (St M)) (kS (St M)) M2 := XP_fr hXP (fun c c1 c2 => p3 c (by omega))
  obtain ⟨M3, r1, r2, r3⟩ := ev_goTo (M := M2) (k0 := 104) (by omega) hy (by rw [hS2]; exact hT) (by rw [hS2]; exact hP) (by rw [hS2]; exact hPO) hXP2
  rw [hS2] at r2
  have p2' := CQ_fr p2 (fun c c1 c2 => r3 c (by omega))
  have sc3 : Sc M M3 := ((FX_Sc g5).tr ⟨fun c h1 h2 => p3 c (by omega), fun c h1 h2 => p3 c (by omega), by rw [p3 108 (by omega)], by rw [p3 108 (by omega)]⟩).tr ⟨fun c h1 h2 => r3 c (by omega), fun c h1 h2 => r3 c (by omega), by rw [r3 108 (by omega)], by rw [r3 108 (by omega)]⟩
  obtain ⟨M4, q1, q2, hK4, hS4, q21, q22⟩ := gp_true hR sc3 hg
  have e110 : M4.1 110 0 = nI (nP (St M)) := by rw [rm110 hK4, hS4]; exact nP_eq hP
  refine ⟨unl (nP (St M)) (Qs (St M) (tS (St M)) (kS (St M)) x) (Qs (St M) (tS (St M)) (kS (St M)) y), M3, M4, ?_, ?_, q2⟩
  · unfold f_X9_unlike f_X9_isState
    rw [g1, cl_s, if_bI, hg, cond_t, hXP.1, ev_isIn, cp_s, rz_bI, cp_s, if_bI, ev_isIn, cp_s, rz_bI, cp_s, if_bI, h1, h2, cond_t, cond_t, p1, cl_s, r1, cl_s, ev_unlikeness h6 p2' r2, cp_s]
  · unfold f_X10_unlike
    rw [q1, cl_s, if_neg (by decide), q21, ev_between, cp_s, if_bI, ev_between, cp_s, if_bI, h1, h2, cond_t, cond_t, i16, i16, ap_go h6 (by omega) (by omega) (by omega) (by omega) e110 (Qs_ok hT hP hPO x hx) (Qs_ok hT hP hPO y hy) (q22 x hx) (q22 y hy), cp_s]
theorem F3_neg {v : Int32} (h : F3 v) : v < 0 ↔ v = -1 := by
  rcases h with rfl | rfl | rfl <;> decide
theorem stepM_p {n a b : Nat} {Q Q' : Nat → Nat → Int32} {M : Mem} (y : Nat) (hy : y < 2) (hn : n ≤ 6) (ha : a + 16 ≤ 3216) (hb : b + 16 ≤ 3216) (e110 : M.1 110 0 = nI n) (hO : QOk n Q) (hO' : QOk n Q') (h0 : RQ n 123 a Q M) (h1 : RQ n 123 b Q' M) : ∀ (d F i : Nat), i + d = n → d < F → f_X10_step_62 (nI y) (nI a) (nI b) F (if y = 0 then sI (pbF Q Q') i else sI (pbF Q' Q) i) (nI i) M = some ((if y = 0 then sI (pbF Q Q') n else sI (pbF Q' Q) n), M) := by
  intro d
  induction d with
  | zero =>
    intro F i hi hF
    obtain ⟨F, rfl⟩ : ∃ F', F = F' + 1 := ⟨F - 1, by omega⟩
    have e150 : ∀ v : Int32, f_X10_step_146 (nI y) (nI a) (nI b) v M = some (v, M) := by
      intro v
      unfold f_X10_step_146
      show f_X10_step_150_b (f_X10_step_150 (nI y) (nI a) (nI b) 99999) (nI y) (nI a) (nI b) v 12 M = _
      unfold f_X10_step_150_b
      rw [if_neg (by decide), if_pos (show nI y ≤ 1 from nI_le (b := 1) (by omega) (by omega))]
    show f_X10_step_62_b (f_X10_step_62 (nI y) (nI a) (nI b) F) (nI y) (nI a) (nI b) _ (nI i) M = _
    unfold f_X10_step_62_b
    rw [e110, if_pos (nI_le (by omega) (by omega)), e150, show i = n by omega]
  | succ d ih =>
    intro F i hi hF
    obtain ⟨F, rfl⟩ : ∃ F', F = F' + 1 := ⟨F - 1, by omega⟩
    rw [← ih F (i + 1) (by omega) (by omega)]
    show f_X10_step_62_b (f_X10_step_62 (nI y) (nI a) (nI b) F) (nI y) (nI a) (nI b) _ (nI i) M = _
    unfold f_X10_step_62_b f_X10_step_137
    rw [e110, if_neg (nI_ge (by omega) (by omega)), if_neg (show ¬ (2 : Int32) ≤ nI y from nI_ge (b := 2) (by omega) (by omega))]
    by_cases hy0 : y = 0
    · subst hy0
      rw [if_pos (show nI 0 = 0 from rfl), if_pos rfl, if_pos rfl, nI_add, nI_add, rd_n (by omega), rd_n (by omega), ev_bits, cp_s, nI_1, (h0.1 i (by omega)).1, (h1.1 i (by omega)).1, bm_bc (U_and (hO.1 i (by omega)).1)]; rfl
    · rw [if_neg (show ¬ nI y = 0 from nI_ne0 (by omega) (by omega)), if_neg hy0, if_neg hy0, nI_add, nI_add, rd_n (by omega), rd_n (by omega), ev_bits, cp_s, nI_1, (h0.1 i (by omega)).1, (h1.1 i (by omega)).1, bm_bc (U_and (hO'.1 i (by omega)).1)]; rfl
theorem stepM_f {n a b : Nat} {Q Q' : Nat → Nat → Int32} {M : Mem} (y : Nat) (hy : 2 ≤ y ∧ y < 4) (ha : a + 16 ≤ 3216) (hb : b + 16 ≤ 3216) (hO : QOk n Q) (hO' : QOk n Q') (h0 : RQ n 123 a Q M) (h1 : RQ n 123 b Q' M) : ∀ (d F i : Nat), i + d = 4 → d < F → f_X10_step_150 (nI y) (nI a) (nI b) F (if y = 2 then sI (fbF Q' Q) i else sI (fbF Q Q') i) (nI (12 + i)) M = some ((if y = 2 then sI (fbF Q' Q) 4 else sI (fbF Q Q') 4), M) := by
  intro d
  induction d with
  | zero =>
    intro F i hi hF
    obtain ⟨F, rfl⟩ : ∃ F', F = F' + 1 := ⟨F - 1, by omega⟩
    show f_X10_step_150_b (f_X10_step_150 (nI y) (nI a) (nI b) F) (nI y) (nI a) (nI b) _ (nI (12 + i)) M = _
    unfold f_X10_step_150_b
    rw [if_pos (show (16 : Int32) ≤ nI (12 + i) from nI_le (a := 16) (by omega) (by omega)), show i = 4 by omega]
  | succ d ih =>
    intro F i hi hF
    obtain ⟨F, rfl⟩ : ∃ F', F = F' + 1 := ⟨F - 1, by omega⟩
    rw [← ih F (i + 1) (by omega) (by omega)]
    show f_X10_step_150_b (f_X10_step_150 (nI y) (nI a) (nI b) F) (nI y) (nI a) (nI b) _ (nI (12 + i)) M = _
    unfold f_X10_step_150_b f_X10_step_179 f_X10_step_199 f_X10_step_218 f_X10_step_237 f_X10_step_233 f_X10_step_238
    rw [if_neg (show ¬ (16 : Int32) ≤ nI (12 + i) from nI_ge (b := 16) (by omega) (by omega)), if_neg (show ¬ nI y ≤ 1 from nI_ge (a := 1) (by omega) (by omega)), nI_add, nI_add, rd_n (by omega), rd_n (by omega), rd_n (by omega), nI_1, ← Nat.add_assoc, ← Nat.add_assoc, h0.2.2 i (by omega), h1.2.2 i (by omega), sI_s, sI_s, show 12 + i + 1 = 12 + (i + 1) by omega]
    have f1 := F3_neg (hO.2 i (by omega))
    have f2 := F3_neg (hO'.2 i (by omega))
    unfold fbF
    by_cases hy2 : y = 2
    · subst hy2
      rw [if_pos rfl, if_pos rfl]
      by_cases e1 : Q 2 i = -1
      · by_cases e2 : Q' 2 i = -1
        · simp only [if_pos (f1.mpr e1), if_pos (f2.mpr e2), if_pos e1, if_pos e2, if_pos (show nI 2 = (2 : Int32) from rfl), if_neg (show ¬ nI 2 = (3 : Int32) by decide), if_pos]
        · simp only [if_pos (f1.mpr e1), if_neg (fun z => e2 (f2.mp z)), if_pos e1, if_neg e2, if_pos (show nI 2 = (2 : Int32) from rfl), if_neg (show ¬ nI 2 = (3 : Int32) by decide), if_pos, if_neg (show ¬ (1 : Int32) = 0 by decide)]
      · by_cases e2 : Q' 2 i = -1
        · simp only [if_neg (fun z => e1 (f1.mp z)), if_pos (f2.mpr e2), if_neg e1, if_pos e2, if_pos (show nI 2 = (2 : Int32) from rfl), if_neg (show ¬ nI 2 = (3 : Int32) by decide), if_pos, if_neg (show ¬ (1 : Int32) = 0 by decide)]
        · simp only [if_neg (fun z => e1 (f1.mp z)), if_neg (fun z => e2 (f2.mp z)), if_neg e1, if_neg e2, if_pos (show nI 2 = (2 : Int32) from rfl), if_neg (show ¬ nI 2 = (3 : Int32) by decide), if_pos, if_neg (show ¬ (1 : Int32) = 0 by decide)]
    · obtain rfl : y = 3 := by omega
      rw [if_neg hy2, if_neg hy2]
      by_cases e1 : Q 2 i = -1
      · by_cases e2 : Q' 2 i = -1
        · simp only [if_pos (f1.mpr e1), if_pos (f2.mpr e2), if_pos e1, if_pos e2, if_pos (show nI 3 = (3 : Int32) from rfl), if_neg (show ¬ nI 3 = (2 : Int32) by decide), if_pos]
        · simp only [if_pos (f1.mpr e1), if_neg (fun z => e2 (f2.mp z)), if_pos e1, if_neg e2, if_pos (show nI 3 = (3 : Int32) from rfl), if_neg (show ¬ nI 3 = (2 : Int32) by decide), if_pos, if_neg (show ¬ (1 : Int32) = 0 by decide)]
      · by_cases e2 : Q' 2 i = -1
        · simp only [if_neg (fun z => e1 (f1.mp z)), if_pos (f2.mpr e2), if_neg e1, if_pos e2, if_pos (show nI 3 = (3 : Int32) from rfl), if_neg (show ¬ nI 3 = (2 : Int32) by decide), if_pos, if_neg (show ¬ (1 : Int32) = 0 by decide)]
        · simp only [if_neg (fun z => e1 (f1.mp z)), if_neg (fun z => e2 (f2.mp z)), if_neg e1, if_neg e2, if_pos (show nI 3 = (3 : Int32) from rfl), if_neg (show ¬ nI 3 = (2 : Int32) by decide), if_pos, if_neg (show ¬ (1 : Int32) = 0 by decide)]
def stV (n y : Nat) (Q Q' : Nat → Nat → Int32) : Int32 := if y = 0 then sI (pbF Q Q') n else if y = 1 then sI (pbF Q' Q) n else if y = 2 then sI (fbF Q' Q) 4 else sI (fbF Q Q') 4
theorem ev_stepM {n a b y : Nat} {Q Q' : Nat → Nat → Int32} {M : Mem} (hy : y < 4) (hn : n ≤ 6) (ha : a + 16 ≤ 3216) (hb : b + 16 ≤ 3216) (e110 : M.1 110 0 = nI n) (hn0 : 0 < n) (hO : QOk n Q) (hO' : QOk n Q') (h0 : RQ n 123 a Q M) (h1 : RQ n 123 b Q' M) : f_X10_step_62 (nI y) (nI a) (nI b) FU 0 0 M = some (stV n y Q Q', M) := by
  unfold stV
  by_cases h : y < 2
  · have := stepM_p y h hn ha hb e110 hO hO' h0 h1 n FU 0 (by omega) (FU_of (by omega))
    have e0 : (if y = 0 then sI (pbF Q Q') 0 else sI (pbF Q' Q) 0) = 0 := by split <;> rfl
    rw [e0] at this
    refine Eq.trans this ?_
    by_cases hy0 : y = 0
    · rw [if_pos hy0, if_pos hy0]
    · rw [if_neg hy0, if_neg hy0, if_pos (by omega)]
  · have := stepM_f y (by omega) ha hb hO hO' h0 h1 4 FU 0 (by omega) (FU_of (by omega))
    have e0 : (if y = 2 then sI (fbF Q' Q) 0 else sI (fbF Q Q') 0) = 0 := by split <;> rfl
    rw [e0] at this
    rw [if_neg (by omega), if_neg (by omega)]
    refine Eq.trans ?_ this
    show f_X10_step_62_b (f_X10_step_62 (nI y) (nI a) (nI b) 99999) (nI y) (nI a) (nI b) 0 0 M = _
    unfold f_X10_step_62_b f_X10_step_146
    rw [e110, if_neg (show ¬ nI n ≤ 0 from nI_nle hn0 (by omega)), if_pos (show (2 : Int32) ≤ nI y from nI_le (a := 2) (by omega) (by omega))]; rfl
theorem gp_pos {S : Nat → Nat → Int32} (h : gpB S = true) : 0 < nP S := by
  unfold gpB at h
  simp at h
  exact h.2
theorem op_step (a b : Int32) : opI gRel (f_X9_step a b) (f_X10_step a b) := by
  intro M hR
  have hK := KK_of hR
  have hT := hK.1.1
  have hP := hK.1.2.1
  have h6 := nP_le hP
  obtain ⟨M1, g1, g4, g5⟩ := ev_goesPath hK
  have hS1 : St M1 = St M := St_FX g5
  cases hg : gpB (St M) with
  | false =>
    obtain ⟨M2, q1, q2⟩ := gp_false (i := 1) hR (FX_Sc g5) hg
    refine ⟨-3, rfX 1 M1, rfM 1 M2, ?_, ?_, q2⟩
    · unfold f_X9_step
      rw [g1, cl_s, if_bI, hg, cond_f, ev_rno, cl_s]
    · unfold f_X10_step
      rw [q1, cl_s, if_pos rfl, ev_no, cl_s]
  | true =>
  obtain ⟨hgo, hXP⟩ := g4 hg
  have hPO := goB_PO hgo
  have hn := hPO.1
  have hn0 := gp_pos hg
  have bad : (inR a 1 (nI (nS (St M))) && inR b 0 3) = false → ∃ r M1 M2, f_X9_step a b M = some (r, M1) ∧ f_X10_step a b M1 = some (r, M2) ∧ gRel M2 := by
    intro hb
    obtain ⟨M2, q1, q2, hK2, hS2, q21⟩ := gp_bad (i := 0) hR (FX_Sc g5) hg
    refine ⟨-2, rfX 0 M1, rfM 0 M2, ?_, ?_, q2⟩
    · unfold f_X9_step
      rw [g1, cl_s, if_bI, hg, cond_t, hXP.1, ev_isIn, cp_s, if_bI, ev_isIn, cp_s, if_bI]
      unfold f_X9_step_38
      rw [ev_rbad, cl_s]
      cases h1 : inR a 1 (nI (nS (St M))) with
      | false => rw [cond_f]
      | true =>
        rw [cond_t]
        cases h2 : inR b 0 3 with
        | false => rw [cond_f]
        | true => rw [h1, h2] at hb; cases hb
    · unfold f_X10_step
      rw [q1, cl_s, if_neg (by decide), q21, ev_between, cp_s, if_bI, ev_between, cp_s, if_bI]
      unfold f_X10_step_35
      rw [ev_bad, cl_s]
      cases h1 : inR a 1 (nI (nS (St M))) with
      | false => rw [cond_f]
      | true =>
        rw [cond_t]
        cases h2 : inR b 0 3 with
        | false => rw [cond_f]
        | true => rw [h1, h2] at hb; cases hb
  cases h1 : inR a 1 (nI (nS (St M))) with
  | false => exact bad (by rw [h1]; rfl)
  | true =>
  cases h2 : inR b 0 3 with
  | false => exact bad (by rw [h1, h2]; rfl)
  | true =>
  obtain ⟨⟨x, hx, rfl⟩, hx0⟩ := (inR_lit1 (by omega)).mp h1
  obtain ⟨y, hy, rfl⟩ := (inR_lit (m := 3) (by decide)).mp h2
  have hx1 : 1 ≤ x := by
    apply Nat.one_le_iff_ne_zero.mpr
    intro h; subst h; exact hx0 rfl
  obtain ⟨x, rfl⟩ : ∃ z, x = z + 1 := ⟨x - 1, by omega⟩
  obtain ⟨M2, p1, p2, p3⟩ := ev_goTo (M := M1) (k0 := 104) (x := x) (by omega) (by omega) (by rw [hS1]; exact hT) (by rw [hS1]; exact hP) (by rw [hS1]; exact hPO) hXP
  rw [hS1] at p2
  have hS2 : St M2 = St M := by rw [St_sc (fun c c1 c2 => p3 c (by omega)), hS1]
  have hXP2 : XP (nS (St M)) (tS (St M)) (kS (St M)) M2 := XP_fr hXP (fun c c1 c2 => p3 c (by omega))
  obtain ⟨M3, r1, r2, r3⟩ := ev_copyQ (k0 := 100) (by omega) h6 p2
  have hS3 : St M3 = St M := by rw [St_sc (fun c c1 c2 => r3 c (by omega)), hS2]
  have hXP3 : XP (nS (St M)) (tS (St M)) (kS (St M)) M3 := XP_fr hXP2 (fun c c1 c2 => r3 c (by omega))
  obtain ⟨M4, s1, s2, s3⟩ := ev_goStep (M := M3) (k0 := 100) (i := x) (Q := Qs (St M) (tS (St M)) (kS (St M)) x) (by rw [hS3]; exact hT) (by rw [hS3]; exact hP) (by omega) (by rw [hS3]; exact hPO) hXP3 (by omega) (by rw [hS3]; exact r2)
  rw [hS3] at s2
  have p4 := CQ_fr (CQ_fr p2 (fun c c1 c2 => r3 c (by omega))) (fun c c1 c2 => s3 c (by omega))
  have sc4 : Sc M M4 := (((FX_Sc g5).tr ⟨fun c h1 h2 => p3 c (by omega), fun c h1 h2 => p3 c (by omega), by rw [p3 108 (by omega)], by rw [p3 108 (by omega)]⟩).tr ⟨fun c h1 h2 => r3 c (by omega), fun c h1 h2 => r3 c (by omega), by rw [r3 108 (by omega)], by rw [r3 108 (by omega)]⟩).tr ⟨fun c h1 h2 => s3 c (by omega), fun c h1 h2 => s3 c (by omega), by rw [s3 108 (by omega)], by rw [s3 108 (by omega)]⟩
  obtain ⟨M5, q1, q2, hK5, hS5, q21, q22⟩ := gp_true hR sc4 hg
  have e110 : M5.1 110 0 = nI (nP (St M)) := by rw [rm110 hK5, hS5]; exact nP_eq hP
  have s2' : CQ (nP (St M)) 100 (Qs (St M) (tS (St M)) (kS (St M)) (x + 1)) M4 := s2
  refine ⟨stV (nP (St M)) y (Qs (St M) (tS (St M)) (kS (St M)) x) (Qs (St M) (tS (St M)) (kS (St M)) (x + 1)), M4, M5, ?_, ?_, q2⟩
  · unfold f_X9_step
    rw [g1, cl_s, if_bI, hg, cond_t, hXP.1, ev_isIn, cp_s, if_bI, ev_isIn, cp_s, if_bI, h1, h2, cond_t, cond_t, nI_pred, p1, cl_s, r1, cl_s, s1, cl_s]
    unfold stV
    have : y = 0 ∨ y = 1 ∨ y = 2 ∨ y = 3 := by omega
    rcases this with rfl | rfl | rfl | rfl
    · rw [if_pos (by decide), if_pos rfl, ev_pb h6 p4 s2', cp_s]
    · rw [if_neg (by decide), if_pos (by decide), if_neg (by decide), if_pos rfl, ev_pb h6 s2' p4, cp_s]
    · rw [if_neg (by decide), if_neg (by decide), if_pos (by decide), if_neg (by decide), if_neg (by decide), if_pos rfl, ev_fb s2' p4, cp_s]
    · rw [if_neg (by decide), if_neg (by decide), if_neg (by decide), if_neg (by decide), if_neg (by decide), if_neg (by decide), ev_fb p4 s2', cp_s]
  · unfold f_X10_step
    rw [q1, cl_s, if_neg (by decide), q21, ev_between, cp_s, if_bI, ev_between, cp_s, if_bI, h1, h2, cond_t, cond_t, i16, show nI (16 * (x + 1)) - 16 = nI (16 * x) by rw [show nI (16 * (x + 1)) - 16 = nI (16 * (x + 1) - 16) from nI_sub (b := 16) (by omega)]; congr 1]
    exact ev_stepM hy h6 (by omega) (by omega) e110 hn0 (Qs_ok hT hP hPO x (by omega)) (Qs_ok hT hP hPO (x + 1) (by omega)) (q22 x (by omega)) (q22 (x + 1) (by omega))
