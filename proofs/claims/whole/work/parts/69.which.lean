/-! which -/
def rcP (S : Nat → Nat → Int32) (Q : Nat → Nat → Int32) : Nat → Nat → Bool
  | 0, _ => true
  | d + 1, i => (decide (S 16 i = 0) || decide (S 16 i = Q 0 i)) && rcP S Q d (i + 1)
theorem rcP_s {S Q : Nat → Nat → Int32} {d i : Nat} : rcP S Q (d + 1) i = ((decide (S 16 i = 0) || decide (S 16 i = Q 0 i)) && rcP S Q d (i + 1)) := rfl
def rcF (S : Nat → Nat → Int32) (Q : Nat → Nat → Int32) : Nat → Nat → Bool
  | 0, _ => true
  | d + 1, i => (decide (S 17 i = -2) || decide (S 17 i = Q 2 i)) && rcF S Q d (i + 1)
theorem rcF_s {S Q : Nat → Nat → Int32} {d i : Nat} : rcF S Q (d + 1) i = ((decide (S 17 i = -2) || decide (S 17 i = Q 2 i)) && rcF S Q d (i + 1)) := rfl
def rch (S Q : Nat → Nat → Int32) : Bool := rcP S Q (nP S) 0 && rcF S Q 4 0
theorem re_44 {k1 : Nat} {M : Mem} {Q : Nat → Nat → Int32} (hQ : CQ (nP (St M)) k1 Q M) : ∀ (d F i : Nat), i + d = 4 → d < F → f_X0_isReached_44 k1 M F (nI i) = some (bI (rcF (St M) Q d i)) := by
  intro d
  induction d with
  | zero =>
    intro F i hi hF
    obtain ⟨F, rfl⟩ : ∃ F', F = F' + 1 := ⟨F - 1, by omega⟩
    show f_X0_isReached_44_b k1 M (f_X0_isReached_44 k1 M F) (nI i) = _
    unfold f_X0_isReached_44_b
    rw [if_pos (show (4 : Int32) ≤ nI i from nI_le (a := 4) (by omega) (by omega))]; rfl
  | succ d ih =>
    intro F i hi hF
    obtain ⟨F, rfl⟩ : ∃ F', F = F' + 1 := ⟨F - 1, by omega⟩
    show f_X0_isReached_44_b k1 M (f_X0_isReached_44 k1 M F) (nI i) = _
    unfold f_X0_isReached_44_b f_X0_isReached_77
    rw [if_neg (show ¬ (4 : Int32) ≤ nI i from nI_ge (b := 4) (by omega) (by omega)), rd_n (by omega), rd_n (by omega), rd_n (by omega), nI_1, ih F (i + 1) (by omega) (by omega), hQ.2.2 i (by omega), k22, rcF_s]
    by_cases e1 : St M 17 i = -2
    · rw [if_pos e1, decide_eq_true e1]; rfl
    · rw [if_neg e1, decide_eq_false e1]
      by_cases e2 : St M 17 i = Q 2 i
      · rw [if_pos e2, decide_eq_true e2]; rfl
      · rw [if_neg e2, decide_eq_false e2]; rfl
theorem re_2 {k1 : Nat} {M : Mem} {Q : Nat → Nat → Int32} (hn : nP (St M) ≤ 6) (hQ : CQ (nP (St M)) k1 Q M) : ∀ (d F i : Nat), i + d = nP (St M) → d < F → f_X0_isReached_2 k1 M F (nI i) = some (bI (rcP (St M) Q d i && rcF (St M) Q 4 0)) := by
  intro d
  induction d with
  | zero =>
    intro F i hi hF
    obtain ⟨F, rfl⟩ : ∃ F', F = F' + 1 := ⟨F - 1, by omega⟩
    show f_X0_isReached_2_b k1 M (f_X0_isReached_2 k1 M F) (nI i) = _
    unfold f_X0_isReached_2_b
    rw [hQ.1, if_pos (nI_le (by omega) (by omega))]
    exact re_44 hQ 4 FU 0 (by omega) (FU_of (by omega))
  | succ d ih =>
    intro F i hi hF
    obtain ⟨F, rfl⟩ : ∃ F', F = F' + 1 := ⟨F - 1, by omega⟩
    show f_X0_isReached_2_b k1 M (f_X0_isReached_2 k1 M F) (nI i) = _
    unfold f_X0_isReached_2_b f_X0_isReached_36
    rw [hQ.1, if_neg (nI_ge (by omega) (by omega)), rd_n (by omega), rd_n (by omega), rd_n (by omega), nI_1, ih F (i + 1) (by omega) (by omega), (hQ.2.1 i (by omega)).1, k21, rcP_s]
    by_cases e1 : St M 16 i = 0
    · rw [if_pos e1, decide_eq_true e1, Bool.true_or, Bool.true_and]
    · rw [if_neg e1, decide_eq_false e1]
      by_cases e2 : St M 16 i = Q 0 i
      · rw [if_pos e2, decide_eq_true e2, Bool.or_true, Bool.true_and]
      · rw [if_neg e2, decide_eq_false e2]; rfl
theorem ev_reached {k1 : Nat} {M : Mem} {Q : Nat → Nat → Int32} (hn : nP (St M) ≤ 6) (hQ : CQ (nP (St M)) k1 Q M) : f_X0_isReached k1 M = some (bI (rch (St M) Q)) := by
  unfold f_X0_isReached
  exact re_2 hn hQ (nP (St M)) FU 0 (by omega) (FU_of (by omega))
theorem en_56 {M : Mem} {Q : Nat → Nat → Int32} (hK : KK M) (hQ : RQ (nP (St M)) 125 0 Q M) : ∀ (d F i : Nat) (b : Bool), i + d = 4 → d < F → f_X10_isEnd_56 M F (bI b) (nI i) = some (bI (b && rcF (St M) Q d i)) := by
  have e118 : ∀ f, f < 4 → M.1 118 (6 + f) = St M 17 f := fun f hf => by have := hK.2.2.2.2.1.2 f hf; simpa using this
  have e125 : ∀ f, f < 4 → M.1 125 (12 + f) = Q 2 f := fun f hf => by have := hQ.2.2 f hf; simpa using this
  intro d
  induction d with
  | zero =>
    intro F i b hi hF
    obtain ⟨F, rfl⟩ : ∃ F', F = F' + 1 := ⟨F - 1, by omega⟩
    show f_X10_isEnd_56_b M (f_X10_isEnd_56 M F) (bI b) (nI i) = _
    unfold f_X10_isEnd_56_b
    rw [if_pos (show (4 : Int32) ≤ nI i from nI_le (a := 4) (by omega) (by omega)), rz_bI]
    show _ = some (bI (b && true))
    rw [Bool.and_true]
  | succ d ih =>
    intro F i b hi hF
    obtain ⟨F, rfl⟩ : ∃ F', F = F' + 1 := ⟨F - 1, by omega⟩
    have s0 : f_X10_isEnd_56 M F 0 (nI (i + 1)) = some (bI (false && rcF (St M) Q d (i + 1))) := ih F (i + 1) false (by omega) (by omega)
    have s1 : f_X10_isEnd_56 M F 1 (nI (i + 1)) = some (bI (true && rcF (St M) Q d (i + 1))) := ih F (i + 1) true (by omega) (by omega)
    show f_X10_isEnd_56_b M (f_X10_isEnd_56 M F) (bI b) (nI i) = _
    unfold f_X10_isEnd_56_b f_X10_isEnd_104 f_X10_isEnd_100 f_X10_isEnd_105
    rw [if_neg (show ¬ (4 : Int32) ≤ nI i from nI_ge (b := 4) (by omega) (by omega)), nI_1, s0, s1, i6, show (12 : Int32) + nI i = nI (12 + i) from nI_add 12 i, rd_n (by omega), rd_n (by omega), rd_n (by omega), e118 i (by omega), e125 i (by omega), rcF_s]
    cases b with
    | false => rw [if_pos (show bI false = 0 from rfl), Bool.false_and, Bool.false_and]
    | true =>
      rw [if_neg (show ¬ bI true = 0 by decide)]
      by_cases e1 : St M 17 i = -2
      · rw [if_pos e1, decide_eq_true e1]; rfl
      · rw [if_neg e1, decide_eq_false e1]
        by_cases e2 : St M 17 i = Q 2 i
        · rw [if_pos e2.symm, decide_eq_true e2]; rfl
        · rw [if_neg (fun z => e2 z.symm), decide_eq_false e2]; rfl
theorem en_4 {M : Mem} {Q : Nat → Nat → Int32} (hK : KK M) (hQ : RQ (nP (St M)) 125 0 Q M) : ∀ (d F i : Nat) (b : Bool), i + d = nP (St M) → d < F → f_X10_isEnd_4 M F (bI b) (nI i) = some (bI (b && (rcP (St M) Q d i && rcF (St M) Q 4 0))) := by
  have h6 := nP_le hK.1.2.1
  have e110 : M.1 110 0 = nI (nP (St M)) := by rw [rm110 hK]; exact nP_eq hK.1.2.1
  have e118 : ∀ p, p < 6 → M.1 118 p = St M 16 p := fun p hp => by have := hK.2.2.2.2.1.1 p hp; simpa using this
  have e125 : ∀ p, p < nP (St M) → M.1 125 p = Q 0 p := fun p hp => by have := (hQ.1 p hp).1; simpa using this
  intro d
  induction d with
  | zero =>
    intro F i b hi hF
    obtain ⟨F, rfl⟩ : ∃ F', F = F' + 1 := ⟨F - 1, by omega⟩
    show f_X10_isEnd_4_b M (f_X10_isEnd_4 M F) (bI b) (nI i) = _
    unfold f_X10_isEnd_4_b
    rw [e110, if_pos (nI_le (by omega) (by omega))]
    have := en_56 hK hQ 4 FU 0 b (by omega) (FU_of (by omega))
    refine Eq.trans this ?_
    show _ = some (bI (b && (true && rcF (St M) Q 4 0)))
    rw [Bool.true_and]
  | succ d ih =>
    intro F i b hi hF
    obtain ⟨F, rfl⟩ : ∃ F', F = F' + 1 := ⟨F - 1, by omega⟩
    have s0 : f_X10_isEnd_4 M F 0 (nI (i + 1)) = some (bI (false && (rcP (St M) Q d (i + 1) && rcF (St M) Q 4 0))) := ih F (i + 1) false (by omega) (by omega)
    have s1 : f_X10_isEnd_4 M F 1 (nI (i + 1)) = some (bI (true && (rcP (St M) Q d (i + 1) && rcF (St M) Q 4 0))) := ih F (i + 1) true (by omega) (by omega)
    show f_X10_isEnd_4_b M (f_X10_isEnd_4 M F) (bI b) (nI i) = _
    unfold f_X10_isEnd_4_b f_X10_isEnd_46 f_X10_isEnd_42 f_X10_isEnd_47
    rw [e110, if_neg (nI_ge (by omega) (by omega)), nI_1, s0, s1, rd_n (by omega), rd_n (by omega), rd_n (by omega), e118 i (by omega), e125 i (by omega), rcP_s]
    cases b with
    | false => rw [if_pos (show bI false = 0 from rfl), Bool.false_and, Bool.false_and]
    | true =>
      rw [if_neg (show ¬ bI true = 0 by decide)]
      by_cases e1 : St M 16 i = 0
      · rw [if_pos e1, decide_eq_true e1, Bool.true_or, Bool.true_and, Bool.true_and, Bool.true_and]
      · rw [if_neg e1, decide_eq_false e1]
        by_cases e2 : St M 16 i = Q 0 i
        · rw [if_pos e2.symm, decide_eq_true e2, Bool.or_true, Bool.true_and, Bool.true_and, Bool.true_and]
        · rw [if_neg (fun z => e2 z.symm), decide_eq_false e2]; rfl
theorem ev_isEnd {M : Mem} {Q : Nat → Nat → Int32} (hK : KK M) (hQ : RQ (nP (St M)) 125 0 Q M) : f_X10_isEnd M = some (bI (rch (St M) Q)) := by
  have := nP_le hK.1.2.1
  unfold f_X10_isEnd
  have := en_4 hK hQ (nP (St M)) FU 0 true (by omega) (FU_of (by omega))
  rw [Bool.true_and] at this
  exact this
def nrw (S : Nat → Nat → Int32) (L : Nat) : Option Nat → List Nat
  | some c' => rowsOf S L c'
  | none => []
theorem rows_next2 {S : Nat → Nat → Int32} {L c : Nat} (hc : c < nT S ^ L) (hv : vld S L c = true) : rowsOf S L c = c :: nrw S L (nxt S L c) := by
  rw [rows_next hc hv]
  cases nxt S L c <;> rfl
/-- how many of them -/
def cntL (P : Nat → Bool) : List Nat → Nat
  | [] => 0
  | c :: l => cond (P c) (cntL P l + 1) (cntL P l)
theorem cntL_c {P : Nat → Bool} {c : Nat} {l : List Nat} : cntL P (c :: l) = cond (P c) (cntL P l + 1) (cntL P l) := rfl
def rcB (S : Nat → Nat → Int32) (k : Int32) (L c : Nat) : Bool := rch S (QR S k (dg S L c) L)
def rcX (S : Nat → Nat → Int32) (k : Int32) (L : Nat) (x : Int32) (c : Nat) : Bool := rcB S k L c && decide (nI (dg S L c 0) = x)
def FW (M M' : Mem) : Prop := ∀ c, (c < 72 ∧ c ≠ 4) ∨ 95 < c → M'.1 c = M.1 c
theorem FW_Sc {M M' : Mem} (h : FW M M') : Sc M M' := ⟨fun c h1 h2 => h c (by omega), fun c h1 h2 => h c (by omega), by rw [h 108 (by omega)], by rw [h 108 (by omega)]⟩
theorem count_go {S : Nat → Nat → Int32} {k : Int32} {L : Nat} (hT : IvT S) (hP : IvP S) (hL : L ≤ 4) (hL0 : 0 < L) : ∀ (N F c m tot : Nat) (cn : Nat → Nat) (M : Mem), nT S ^ L - c ≤ N → St M = S → vld S L c = true → c < nT S ^ L → m ≤ c → RW S k L (dg S L c) M → (∀ t, t < 6 → M.1 4 t = nI (cn t)) → N < F → ∃ M', f_X9_countRowsToEnd_28 (nI L) F (nI tot) 1 (nI m) M = some (nI (tot + cntL (rcB S k L) (rowsOf S L c)), M') ∧ (∀ t, t < 6 → M'.1 4 t = nI (cn t + cntL (rcX S k L (nI t)) (rowsOf S L c))) ∧ FW M M' := by
  have h6 := nT_le hT
  have hp6 := nP_le hP
  have hN := pow_le h6 hL
  intro N
  induction N with
  | zero => intro F c m tot cn M h0 hS hv hc; omega
  | succ N ih =>
    intro F c m tot cn M h0 hS hv hc hm hR hcn hF
    obtain ⟨F, rfl⟩ : ∃ F', F = F' + 1 := ⟨F - 1, by omega⟩
    have hn0 : 0 < nT S := by
      rcases Nat.eq_zero_or_pos (nT S) with h | h
      · obtain ⟨L, rfl⟩ : ∃ x, L = x + 1 := ⟨L - 1, by omega⟩
        rw [h, Nat.pow_succ, Nat.mul_zero] at hc; omega
      · exact h
    have hd0 : dg S L c 0 < 6 := by have := dg_lt hn0 L c 0; omega
    have eR : f_X0_isReached (76 + 4 * L) M = some (bI (rcB S k L c)) := by
      have := ev_reached (M := M) (by rw [hS]; exact hp6) (by rw [hS]; exact hR.2.2.2 L (Nat.le_refl _))
      rw [hS] at this; exact this
    have tail : ∀ (tot' : Nat) (cn' : Nat → Nat) (X : Mem), St X = S → RW S k L (dg S L c) X → (∀ t, t < 6 → X.1 4 t = nI (cn' t)) → FW M X → ∃ M', f_X9_countRowsToEnd_84 (f_X9_countRowsToEnd_28 (nI L) F) (nI L) (nI tot') (nI m) X = some (nI (tot' + cntL (rcB S k L) (nrw S L (nxt S L c))), M') ∧ (∀ t, t < 6 → M'.1 4 t = nI (cn' t + cntL (rcX S k L (nI t)) (nrw S L (nxt S L c)))) ∧ FW M M' := by
      intro tot' cn' X hX hRX hcX hFX
      obtain ⟨fl, X1, r1, r2, r3⟩ := ev_goOn (k := k) hT hP hL hv hc hX hRX
      obtain ⟨s1, s2⟩ := nxt_spec L c hc hv
      have hcX1 : ∀ t, t < 6 → X1.1 4 t = nI (cn' t) := fun t ht => by rw [r3 4 (by omega)]; exact hcX t ht
      have hFX1 : FW M X1 := fun c hc => (r3 c (by omega)).trans (hFX c hc)
      have hS1 : St X1 = S := by rw [St_sc (fun c c1 c2 => r3 c (by omega)), hX]
      unfold f_X9_countRowsToEnd_84
      rw [r1, cl_s, nI_1]
      cases hx : nxt S L c with
      | some c' =>
        rw [hx] at r2
        obtain ⟨rfl, r2⟩ := r2
        obtain ⟨a1, a2, a3, a4⟩ := s1 c' hx
        obtain ⟨M', p1, p2, p3⟩ := ih F c' (m + 1) tot' cn' X1 (by omega) hS1 a3 a2 (by omega) r2 hcX1 (by omega)
        exact ⟨M', p1, p2, fun c hc => (p3 c hc).trans (hFX1 c hc)⟩
      | none =>
        rw [hx] at r2
        obtain ⟨rfl, r2⟩ := r2
        refine ⟨X1, ?_, fun t ht => by rw [hcX1 t ht]; rfl, hFX1⟩
        obtain ⟨F, rfl⟩ : ∃ F', F = F' + 1 := ⟨F - 1, by omega⟩
        show f_X9_countRowsToEnd_28_b (f_X9_countRowsToEnd_28 (nI L) F) (nI L) (nI tot') 0 (nI (m + 1)) X1 = _
        unfold f_X9_countRowsToEnd_28_b
        rw [if_pos rfl]; rfl
    have eX : f_X9_countRowsToEnd_28 (nI L) (F + 1) (nI tot) 1 (nI m) M = cond (rcB S k L c) (f_X9_countRowsToEnd_84 (f_X9_countRowsToEnd_28 (nI L) F) (nI L) (nI (tot + 1)) (nI m) (mset M 4 (dg S L c 0) (nI (cn (dg S L c 0) + 1)))) (f_X9_countRowsToEnd_84 (f_X9_countRowsToEnd_28 (nI L) F) (nI L) (nI tot) (nI m) M) := by
      show f_X9_countRowsToEnd_28_b (f_X9_countRowsToEnd_28 (nI L) F) (nI L) (nI tot) 1 (nI m) M = _
      unfold f_X9_countRowsToEnd_28_b
      rw [if_neg (by decide), if_neg (show ¬ (10000 : Int32) ≤ nI m from nI_ge (b := 10000) (by omega) (by omega)), ck_n (by omega), nI_clamp (show L < 2 ^ 31 by omega), eR, cp_s, if_bI, hR.2.2.1 0 hL0, rd_n hd0, ck_n hd0, nI_clamp (show dg S L c 0 < 2 ^ 31 by omega), hcn _ hd0, nI_1, nI_1, stm_s]
    rw [eX, rows_next2 hc hv, cntL_c]
    cases hb : rcB S k L c with
    | false =>
      rw [cond_f, cond_f]
      obtain ⟨M', p1, p2, p3⟩ := tail tot cn M hS hR hcn (fun _ _ => rfl)
      refine ⟨M', p1, fun t ht => ?_, p3⟩
      rw [p2 t ht, cntL_c]
      have : rcX S k L (nI t) c = false := by unfold rcX; rw [hb]; rfl
      rw [this, cond_f]
    | true =>
      rw [cond_t, cond_t]
      have fr3 : ∀ a, a ≠ 4 → (mset M 4 (dg S L c 0) (nI (cn (dg S L c 0) + 1))).1 a = M.1 a := fun a ha => mset_ne ha
      obtain ⟨M', p1, p2, p3⟩ := tail (tot + 1) (fun t => if t = dg S L c 0 then cn (dg S L c 0) + 1 else cn t) (mset M 4 (dg S L c 0) (nI (cn (dg S L c 0) + 1))) (by rw [St_set (by omega), hS]) (RW_fr hR hL (fun c c1 c2 _ _ => fr3 c (by omega))) (fun t ht => by
        rw [mset_at]
        by_cases e : t = dg S L c 0
        · rw [if_pos ⟨rfl, e⟩]; exact congrArg nI (if_pos e).symm
        · rw [if_neg (fun z => e z.2), hcn t ht]; exact congrArg nI (if_neg e).symm) (fun a ha => fr3 a (by omega))
      refine ⟨M', by rw [p1]; congr 3; omega, fun t ht => ?_, p3⟩
      rw [p2 t ht, cntL_c]
      by_cases e : t = dg S L c 0
      · have : rcX S k L (nI t) c = true := by unfold rcX; rw [hb, e, decide_eq_true rfl]; rfl
        rw [this, cond_t]
        show nI ((if t = dg S L c 0 then cn (dg S L c 0) + 1 else cn t) + _) = _
        rw [if_pos e, ← e]; congr 1; omega
      · have : rcX S k L (nI t) c = false := by
          unfold rcX
          rw [decide_eq_false (fun z => e (nI_inj (by omega) (by omega) z).symm), Bool.and_false]
        rw [this, cond_f]
        show nI ((if t = dg S L c 0 then cn (dg S L c 0) + 1 else cn t) + _) = _
        rw [if_neg e]
theorem ev_count {k : Int32} {L : Nat} {M : Mem} (hT : IvT (St M)) (hP : IvP (St M)) (hL : L ≤ 4) (hL0 : 0 < L) : ∃ M', f_X9_countRowsToEnd k (nI L) M = some (nI (cntL (rcB (St M) k L) (rowsOf (St M) L 0)), M') ∧ (∀ t, t < 6 → M'.1 4 t = nI (cntL (rcX (St M) k L (nI t)) (rowsOf (St M) L 0))) ∧ FW M M' := by
  have h6 := nT_le hT
  have hN := pow_le h6 hL
  have hS0 : St (mfill M 4 6 0) = St M := St_sc (fun c c1 c2 => mfill_ne (by omega))
  obtain ⟨M1, g1, g2, g3⟩ := ev_begin (M := mfill M 4 6 0) (k := k) (L := L) (by rw [hS0]; exact hT) (by rw [hS0]; exact hP) hL
  rw [hS0] at g1 g2
  have hS1 : St M1 = St M := by rw [St_sc (fun c c1 c2 => g3 c (by omega)), hS0]
  have hF1 : FW M M1 := fun c hc => by rw [g3 c (by omega), mfill_ne (by omega)]
  have h4 : ∀ t, t < 6 → M1.1 4 t = nI 0 := fun t ht => by rw [g3 4 (by omega), mfill_at, if_pos ⟨rfl, ht⟩]; rfl
  have eX : f_X9_countRowsToEnd k (nI L) M = f_X9_countRowsToEnd_28 (nI L) FU (nI 0) (if 0 < L ∧ vb (St M) 0 = none then 0 else 1) (nI 0) M1 := by
    unfold f_X9_countRowsToEnd
    rw [ev_fill (n := 6), cl_s, g1, cl_s]; rfl
  cases hv : vb (St M) 0 with
  | none =>
    have hno := vb_none (nT (St M)) 0 (by omega) hv
    rw [rows_none (fun u hu => by unfold vc; exact decide_eq_false (hno u (by omega) hu)) hL0]
    refine ⟨M1, ?_, fun t ht => h4 t ht, hF1⟩
    rw [eX, if_pos ⟨hL0, hv⟩]
    show f_X9_countRowsToEnd_28_b (f_X9_countRowsToEnd_28 (nI L) 99999) (nI L) (nI 0) 0 (nI 0) M1 = _
    unfold f_X9_countRowsToEnd_28_b
    rw [if_pos rfl]; rfl
  | some f =>
    obtain ⟨a1, a2, a3, a4⟩ := vb_some (nT (St M)) 0 f (by omega) hv
    obtain ⟨f1, f2, f3, f4⟩ := fV_spec (S := St M) (r := f) a2 (by unfold vc; exact decide_eq_true a3)
    obtain ⟨z1, z2, z3, z4⟩ := cf_spec f1 f2 f3 L
    obtain ⟨M', p1, p2, p3⟩ := count_go (k := k) hT hP hL hL0 (nT (St M) ^ L - cf (St M) L) FU (cf (St M) L) 0 0 (fun _ => 0) M1 (Nat.le_refl _) hS1 z2 z1 (by omega) (g2 (fun _ h => by rw [hv] at h; cases h)) h4 (FU_of (by omega))
    rw [← rows_first f1 f2 f3, Nat.zero_add] at p1
    refine ⟨M', ?_, fun t ht => ?_, fun c hc => (p3 c hc).trans (hF1 c hc)⟩
    · rw [eX, if_neg (fun h => by rw [hv] at h; cases h.2)]
      exact p1
    · rw [p2 t ht, ← rows_first f1 f2 f3, Nat.zero_add]
def FT (M M' : Mem) : Prop := ∀ c, c ≠ 125 → c ≠ 126 → M'.1 c = M.1 c
theorem FT_Sc {M M' : Mem} (h : FT M M') : Sc M M' := ⟨fun c h1 h2 => h c (by omega) (by omega), fun c h1 h2 => h c (by omega) (by omega), by rw [h 108 (by omega) (by omega)], by rw [h 108 (by omega) (by omega)]⟩
/-- what the other does behind the last row -/
def whE (x3 : Int32) (tot cnt : Nat) (M : Mem) : Option (Int32 × Mem) := if x3 = -1 then some (nI tot, M) else if nI tot = 0 then some (-3, rfM 1 M) else cl (f_X10_fraction (nI cnt) (nI tot) M) fun _ M1 => some (1, M1)
theorem which_go {S : Nat → Nat → Int32} {k x3 : Int32} {L : Nat} (hk : U 6 k) (hL : L ≤ 4) (hL0 : 0 < L) : ∀ (d F c tot cnt : Nat) (M : Mem), KK M → St M = S → c + d = nT S ^ L → d < F → ∃ M', f_X10_which_74 k (nI L) x3 F (nI tot) (nI cnt) (nI c) M = whE x3 (tot + cntL (rcB S k L) (vs S L d c)) (cnt + cntL (rcX S k L x3) (vs S L d c)) M' ∧ FT M M' := by
  intro d
  induction d with
  | zero =>
    intro F c tot cnt M hK hS hc hF
    obtain ⟨F, rfl⟩ : ∃ F', F = F' + 1 := ⟨F - 1, by omega⟩
    have hT : IvT S := by rw [← hS]; exact hK.1.1
    have hN := pow_le (nT_le hT) hL
    have e109 : M.1 109 0 = nI (nT S) := by rw [show M.1 109 0 = St M 1 0 from hK.2.1.1, hS]; exact nT_eq hT
    refine ⟨M, ?_, fun _ _ _ => rfl⟩
    show f_X10_which_74_b (f_X10_which_74 k (nI L) x3 F) k (nI L) x3 (nI tot) (nI cnt) (nI c) M = whE x3 tot cnt M
    unfold f_X10_which_74_b whE
    rw [ev_codes e109 hL, cp_s, if_pos (nI_le (by omega) (by omega)), ev_no, cl_s]
  | succ d ih =>
    intro F c tot cnt M hK hS hc hF
    obtain ⟨F, rfl⟩ : ∃ F', F = F' + 1 := ⟨F - 1, by omega⟩
    have hT : IvT S := by rw [← hS]; exact hK.1.1
    have hN := pow_le (nT_le hT) hL
    have hn0 : 0 < nT S := by
      rcases Nat.eq_zero_or_pos (nT S) with h | h
      · obtain ⟨L, rfl⟩ : ∃ x, L = x + 1 := ⟨L - 1, by omega⟩
        rw [h, Nat.pow_succ, Nat.mul_zero] at hc; omega
      · exact h
    have e109 : M.1 109 0 = nI (nT S) := by rw [show M.1 109 0 = St M 1 0 from hK.2.1.1, hS]; exact nT_eq hT
    obtain ⟨M1, g1, g2, g3⟩ := ev_tries (M := M) (k := k) (L := L) (c := c) hK hk hL (fun _ => by rw [hS]; omega) (by rw [hS]; omega)
    rw [hS] at g1 g2
    have hF1 : FT M M1 := g3
    have hK1 : KK M1 := KK_Sc hK (FT_Sc hF1)
    have hS1 : St M1 = S := by rw [St_Sc (FT_Sc hF1), hS]
    have step : ∀ tot' cnt', ∃ M', f_X10_which_74 k (nI L) x3 F (nI tot') (nI cnt') (nI (c + 1)) M1 = whE x3 (tot' + cntL (rcB S k L) (vs S L d (c + 1))) (cnt' + cntL (rcX S k L x3) (vs S L d (c + 1))) M' ∧ FT M M' := by
      intro tot' cnt'
      obtain ⟨M', p1, p2⟩ := ih F (c + 1) tot' cnt' M1 hK1 hS1 (by omega) (by omega)
      exact ⟨M', p1, fun c h1 h2 => (p2 c h1 h2).trans (hF1 c h1 h2)⟩
    have eX : f_X10_which_74 k (nI L) x3 (F + 1) (nI tot) (nI cnt) (nI c) M = cond (vld S L c) (cp (f_X10_isEnd M1) fun v4 => if v4 = 0 then f_X10_which_74 k (nI L) x3 F (nI tot) (nI cnt) (nI (c + 1)) M1 else if (M1.1 126 0) = x3 then f_X10_which_74 k (nI L) x3 F (nI (tot + 1)) (nI cnt + 1) (nI (c + 1)) M1 else f_X10_which_74 k (nI L) x3 F (nI (tot + 1)) (nI cnt + 0) (nI (c + 1)) M1) (f_X10_which_74 k (nI L) x3 F (nI tot) (nI cnt) (nI (c + 1)) M1) := by
      show f_X10_which_74_b (f_X10_which_74 k (nI L) x3 F) k (nI L) x3 (nI tot) (nI cnt) (nI c) M = _
      unfold f_X10_which_74_b f_X10_which_122 f_X10_which_125
      rw [ev_codes e109 hL, cp_s, if_neg (nI_ge (by omega) (by omega)), g1, cl_s, if_bI, nI_1, nI_1]
    rw [eX, vs_s]
    cases hv : vld S L c with
    | false =>
      rw [cond_f, cond_f]
      exact step tot cnt
    | true =>
      rw [cond_t, cond_t, cntL_c, cntL_c]
      obtain ⟨a1, a2⟩ := g2 hv
      have eE : f_X10_isEnd M1 = some (bI (rcB S k L c)) := by
        have := ev_isEnd hK1 (Q := QR S k (dg S L c) L) (by rw [hS1]; exact a1)
        rw [hS1] at this; exact this
      rw [eE, cp_s, if_bI, a2 0 hL0]
      cases hb : rcB S k L c with
      | false =>
        have : rcX S k L x3 c = false := by unfold rcX; rw [hb]; rfl
        rw [this, cond_f, cond_f, cond_f]
        exact step tot cnt
      | true =>
        rw [cond_t, cond_t]
        by_cases e : nI (dg S L c 0) = x3
        · have : rcX S k L x3 c = true := by unfold rcX; rw [hb, decide_eq_true e]; rfl
          rw [this, cond_t, if_pos e, nI_1]
          obtain ⟨M', p1, p2⟩ := step (tot + 1) (cnt + 1)
          exact ⟨M', by rw [p1]; congr 1 <;> omega, p2⟩
        · have : rcX S k L x3 c = false := by unfold rcX; rw [hb, decide_eq_false e]; rfl
          rw [this, cond_f, if_neg e, Int32.add_zero]
          obtain ⟨M', p1, p2⟩ := step (tot + 1) cnt
          exact ⟨M', by rw [p1]; congr 1; omega, p2⟩
/-! fractions -/
theorem nI_div {a b : Nat} (ha : a < 2 ^ 31) (hb : b < 2 ^ 31) : nI a / nI b = nI (a / b) := by
  have hlt : a / b ≤ a := Nat.div_le_self a b
  apply Int32.toInt_inj.mp
  rw [Int32.toInt_div, nI_toInt ha, nI_toInt hb, nI_toInt (by omega), Int.tdiv_eq_ediv_of_nonneg (by omega), ← Int.natCast_ediv]
  generalize a / b = q at *
  rw [Int.bmod_eq_of_le] <;> omega
theorem nI_mod {a b : Nat} (ha : a < 2 ^ 31) (hb : b < 2 ^ 31) : nI a % nI b = nI (a % b) := by
  have hlt : a % b ≤ a := Nat.mod_le a b
  apply Int32.toInt_inj.mp
  rw [Int32.toInt_mod, nI_toInt ha, nI_toInt hb, nI_toInt (by omega), Int.tmod_eq_emod_of_nonneg (by omega), ← Int.natCast_emod]
theorem gcd_step {a b : Nat} : Nat.gcd a b = Nat.gcd b (a % b) := by rw [Nat.gcd_comm, Nat.gcd_rec, Nat.gcd_comm]
theorem gd_go {M : Mem} : ∀ (k F a b m : Nat), b < 2 ^ k → a < 100000 → b < 100000 → m + 2 * k < 100 → 2 * k < F → f_X9_greatestDivisor_7 M F (nI a) (nI b) (nI m) = some (nI (Nat.gcd a b)) := by
  have e0 : ∀ (F a m : Nat), m < 100 → f_X9_greatestDivisor_7 M (F + 1) (nI a) (nI 0) (nI m) = some (nI (Nat.gcd a 0)) := by
    intro F a m hm
    show f_X9_greatestDivisor_7_b M (f_X9_greatestDivisor_7 M F) (nI a) (nI 0) (nI m) = _
    unfold f_X9_greatestDivisor_7_b
    rw [if_neg (show ¬ (100 : Int32) ≤ nI m from nI_ge (b := 100) (by omega) (by omega)), if_pos (show nI 0 = 0 from rfl), Nat.gcd_zero_right]
  have e1 : ∀ (F a b m : Nat), m < 100 → 0 < b → a < 100000 → b < 100000 → f_X9_greatestDivisor_7 M (F + 1) (nI a) (nI b) (nI m) = f_X9_greatestDivisor_7 M F (nI b) (nI (a % b)) (nI (m + 1)) := by
    intro F a b m hm hb ha hb2
    show f_X9_greatestDivisor_7_b M (f_X9_greatestDivisor_7 M F) (nI a) (nI b) (nI m) = _
    unfold f_X9_greatestDivisor_7_b
    rw [if_neg (show ¬ (100 : Int32) ≤ nI m from nI_ge (b := 100) (by omega) (by omega)), if_neg (nI_ne0 hb (by omega)), dz_n (nI_ne0 hb (by omega)), nI_mod (by omega) (by omega), nI_1]
  intro k
  induction k with
  | zero =>
    intro F a b m hb ha hb2 hm hF
    obtain ⟨F, rfl⟩ : ∃ F', F = F' + 1 := ⟨F - 1, by omega⟩
    obtain rfl : b = 0 := by omega
    exact e0 F a m (by omega)
  | succ k ih =>
    intro F a b m hb ha hb2 hm hF
    obtain ⟨F, rfl⟩ : ∃ F', F = F' + 1 + 1 := ⟨F - 2, by omega⟩
    by_cases h0 : b = 0
    · subst h0; exact e0 (F + 1) a m (by omega)
    · have hr := Nat.mod_lt a (show 0 < b by omega)
      rw [e1 _ _ _ _ (by omega) (by omega) ha hb2, gcd_step]
      by_cases h1 : a % b = 0
      · rw [h1]; exact e0 F b (m + 1) (by omega)
      · have hr2 := Nat.mod_lt b (show 0 < a % b by omega)
        have hle : b % (a % b) + a % b ≤ b := by
          have h1 := Nat.div_add_mod b (a % b)
          have h2 : 1 ≤ b / (a % b) := (Nat.one_le_div_iff (by omega)).mpr (by omega)
          have h3 := Nat.mul_le_mul_left (a % b) h2
          omega
        rw [e1 _ _ _ _ (by omega) (by omega) hb2 (by omega), gcd_step]
        rw [Nat.pow_succ] at hb
        exact ih F (a % b) (b % (a % b)) (m + 1 + 1) (by omega) (by omega) (by omega) (by omega) (by omega)
theorem ev_keep {M : Mem} {a b : Nat} (ha : a < 50000) (hb : b < 50000) (hb0 : 0 < b) : f_X9_keepFraction (nI a) (nI b) M = some ((), mset (mset M 0 4 (nI (a / Nat.gcd a b))) 0 5 (nI (b / Nat.gcd a b))) := by
  have hg : 0 < Nat.gcd a b := Nat.gcd_pos_of_pos_right a hb0
  have hgle : Nat.gcd a b ≤ b := Nat.le_of_dvd hb0 (Nat.gcd_dvd_right a b)
  have e : f_X9_greatestDivisor (nI a) (nI b) M = some (nI (Nat.gcd a b)) := gd_go 17 FU a b 0 (by show b < 131072; omega) (by omega) (by omega) (by omega) (FU_of (by omega))
  unfold f_X9_keepFraction
  rw [e, cp_s, if_neg (nI_nle hg (by omega)), dz_n (nI_ne0 hg (by omega)), stm_s, dz_n (nI_ne0 hg (by omega)), stm_s, nI_div (by omega) (by omega), nI_div (by omega) (by omega)]
theorem fr_go {A B : Int32} {M : Mem} : ∀ (N F a b : Nat), b ≤ N → a < 100000 → b < 100000 → 0 < a + b → N < F → f_X10_fraction_5 A B F (nI a) (nI b) M = some ((), mset (mset M 108 11 (A / nI (Nat.gcd a b))) 108 12 (B / nI (Nat.gcd a b))) := by
  intro N
  induction N with
  | zero =>
    intro F a b h1 ha hb h0 hF
    obtain ⟨F, rfl⟩ : ∃ F', F = F' + 1 := ⟨F - 1, by omega⟩
    obtain rfl : b = 0 := by omega
    show f_X10_fraction_5_b (f_X10_fraction_5 A B F) A B (nI a) (nI 0) M = _
    unfold f_X10_fraction_5_b
    rw [if_pos (show nI 0 = 0 from rfl), dz_n (nI_ne0 (by omega) (by omega)), stm_s, dz_n (nI_ne0 (by omega) (by omega)), stm_s, Nat.gcd_zero_right]
  | succ N ih =>
    intro F a b h1 ha hb h0 hF
    by_cases hb0 : b = 0
    · exact ih F a b (by omega) ha hb h0 (by omega)
    obtain ⟨F, rfl⟩ : ∃ F', F = F' + 1 := ⟨F - 1, by omega⟩
    have hr := Nat.mod_lt a (show 0 < b by omega)
    show f_X10_fraction_5_b (f_X10_fraction_5 A B F) A B (nI a) (nI b) M = _
    unfold f_X10_fraction_5_b
    rw [if_neg (nI_ne0 (by omega) (by omega)), dz_n (nI_ne0 (by omega) (by omega)), nI_mod (by omega) (by omega), ih F b (a % b) (by omega) hb (by omega) (by omega) (by omega), ← gcd_step]
theorem ev_fraction {M : Mem} {a b : Nat} (ha : a < 50000) (hb : b < 50000) (hb0 : 0 < b) : f_X10_fraction (nI a) (nI b) M = some ((), mset (mset M 108 11 (nI (a / Nat.gcd a b))) 108 12 (nI (b / Nat.gcd a b))) := by
  have hg : 0 < Nat.gcd a b := Nat.gcd_pos_of_pos_right a hb0
  have hgle : Nat.gcd a b ≤ b := Nat.le_of_dvd hb0 (Nat.gcd_dvd_right a b)
  have := fr_go (A := nI a) (B := nI b) (M := M) 50000 FU a b (by omega) (by omega) (by omega) (by omega) (FU_of (by omega))
  rw [nI_div (by omega) (by omega), nI_div (by omega) (by omega)] at this
  exact this
theorem cntL_le {P : Nat → Bool} : ∀ l : List Nat, cntL P l ≤ l.length := by
  intro l
  induction l with
  | nil => exact Nat.le_refl _
  | cons c l ih =>
    rw [cntL_c, List.length_cons]
    cases P c
    · rw [cond_f]; omega
    · rw [cond_t]; omega
theorem vs_len {S : Nat → Nat → Int32} {L : Nat} : ∀ d c, (vs S L d c).length ≤ d := by
  intro d
  induction d with
  | zero => intro c; exact Nat.le_refl _
  | succ d ih =>
    intro c
    rw [vs_s]
    have := ih (c + 1)
    cases vld S L c
    · rw [cond_f]; omega
    · rw [cond_t, List.length_cons]; omega
theorem op_which (a b c : Int32) : opI gRel (f_X9_which a b c) (f_X10_which a b c) := by
  intro M hR
  have hK := KK_of hR
  have hT := hK.1.1
  have hP := hK.1.2.1
  have h6 := nT_le hT
  have bad : (∀ X : Mem, KK X → St X = St M → f_X9_which a b c X = f_X9_which_35 X) → (∀ X : Mem, KK X → St X = St M → f_X10_which a b c X = f_X10_which_29 X) → ∃ r M1 M2, f_X9_which a b c M = some (r, M1) ∧ f_X10_which a b c M1 = some (r, M2) ∧ gRel M2 := fun hx hm => ⟨-2, rfX 0 M, rfM 0 (rfX 0 M), by rw [hx M hK rfl]; rfl, by rw [hm _ (KK_rfX hK) St_rfX]; rfl, gRel_rf hR⟩
  have no : (∀ X : Mem, KK X → St X = St M → f_X9_which a b c X = f_X9_which_74 X) → (∀ X : Mem, KK X → St X = St M → f_X10_which a b c X = f_X10_which_58 X) → ∃ r M1 M2, f_X9_which a b c M = some (r, M1) ∧ f_X10_which a b c M1 = some (r, M2) ∧ gRel M2 := fun hx hm => ⟨-3, rfX 1 M, rfM 1 (rfX 1 M), by rw [hx M hK rfl]; rfl, by rw [hm _ (KK_rfX hK) St_rfX]; rfl, gRel_rf hR⟩
  have eX : ∀ X : Mem, KK X → St X = St M → f_X9_which a b c X = cond (inR a 0 5) (cond (inR b 1 4) (if c = -1 then (if St M 9 0 = 0 then f_X9_which_74 X else if c = -1 then f_X9_which_81 a b c X else cond (spB (St M) c) (f_X9_which_81 a b c X) (f_X9_which_74 X)) else cond (tB (St M) c) (if St M 9 0 = 0 then f_X9_which_74 X else if c = -1 then f_X9_which_81 a b c X else cond (spB (St M) c) (f_X9_which_81 a b c X) (f_X9_which_74 X)) (f_X9_which_35 X)) (f_X9_which_35 X)) (f_X9_which_35 X) := by
    intro X hX hs
    unfold f_X9_which f_X9_which_42
    rw [ev_isKind, cp_s, if_bI, ev_isIn, cp_s, if_bI, ev_hasTongue, hs, cp_s, if_bI, k14, hs, ev_hasWords (by rw [hs]; exact hT), hs, cp_s, if_bI]
  have eM : ∀ X : Mem, KK X → St X = St M → f_X10_which a b c X = cond (inR a 0 5) (cond (inR b 1 4) (if c = -1 then (if St M 9 0 = 0 then f_X10_which_58 X else if c = -1 then f_X10_which_65 a b c X else cond (spB (St M) c) (f_X10_which_65 a b c X) (f_X10_which_58 X)) else cond (tB (St M) c) (if St M 9 0 = 0 then f_X10_which_58 X else if c = -1 then f_X10_which_65 a b c X else cond (spB (St M) c) (f_X10_which_65 a b c X) (f_X10_which_58 X)) (f_X10_which_29 X)) (f_X10_which_29 X)) (f_X10_which_29 X) := by
    intro X hX hs
    unfold f_X10_which f_X10_which_36
    rw [ev_isKindM, cp_s, if_bI, ev_between, cp_s, if_bI, ev_isTongue hX, hs, cp_s, if_bI, rm110 hX, hs, ev_speaks hX, hs, cp_s, if_bI]
  cases h1 : inR a 0 5 with
  | false => exact bad (fun X hX hs => by rw [eX X hX hs, h1, cond_f]) (fun X hX hs => by rw [eM X hX hs, h1, cond_f])
  | true =>
  cases h2 : inR b 1 4 with
  | false => exact bad (fun X hX hs => by rw [eX X hX hs, h1, h2, cond_t, cond_f]) (fun X hX hs => by rw [eM X hX hs, h1, h2, cond_t, cond_f])
  | true =>
  obtain ⟨⟨L, hL, rfl⟩, hL0'⟩ := (inR_lit1 (m := 4) (by decide)).mp h2
  have hL0 : 0 < L := by
    apply Nat.pos_of_ne_zero
    intro h; subst h; exact hL0' rfl
  have hN := pow_le h6 (show L ≤ 4 by omega)
  have hlen : (rowsOf (St M) L 0).length ≤ 1296 := by have := vs_len (S := St M) (L := L) (nT (St M) ^ L - 0) 0; unfold rowsOf; omega
  have hc1 := cntL_le (P := rcB (St M) a L) (rowsOf (St M) L 0)
  have hc2 := cntL_le (P := rcX (St M) a L c) (rowsOf (St M) L 0)
  -- the count on both sides
  have main : (∀ X : Mem, KK X → St X = St M → f_X9_which a (nI L) c X = f_X9_which_81 a (nI L) c X) → (∀ X : Mem, KK X → St X = St M → f_X10_which a (nI L) c X = f_X10_which_65 a (nI L) c X) → (c ≠ -1 → ∃ t, t < 6 ∧ c = nI t) → ∃ r M1 M2, f_X9_which a (nI L) c M = some (r, M1) ∧ f_X10_which a (nI L) c M1 = some (r, M2) ∧ gRel M2 := by
    intro hx hm hct
    obtain ⟨M1, g1, g2, g3⟩ := ev_count (k := a) (L := L) hT hP (by omega) hL0
    have sc1 : Sc M M1 := FW_Sc g3
    have eX1 : f_X9_which a (nI L) c M = if c = -1 then some (nI (cntL (rcB (St M) a L) (rowsOf (St M) L 0)), M1) else if nI (cntL (rcB (St M) a L) (rowsOf (St M) L 0)) = 0 then some (-3, rfX 1 M1) else rd 6 (M1.1 4) c fun v2 => cl (f_X9_keepFraction v2 (nI (cntL (rcB (St M) a L) (rowsOf (St M) L 0))) M1) fun _ M2 => some (1, M2) := by
      rw [hx M hK rfl]
      unfold f_X9_which_81
      rw [g1, cl_s, ev_rno, cl_s]
    have eM1 : ∀ X : Mem, KK X → St X = St M → ∃ X', f_X10_which a (nI L) c X = whE c (cntL (rcB (St M) a L) (rowsOf (St M) L 0)) (cntL (rcX (St M) a L c) (rowsOf (St M) L 0)) X' ∧ FT X X' := by
      intro X hX hs
      obtain ⟨X', p1, p2⟩ := which_go (x3 := c) (kind_U h1) (show L ≤ 4 by omega) hL0 (nT (St M) ^ L - 0) FU 0 0 0 X hX hs (by omega) (FU_of (by omega))
      rw [Nat.zero_add, Nat.zero_add] at p1
      refine ⟨X', ?_, p2⟩
      rw [hm X hX hs]
      unfold f_X10_which_65
      exact p1
    by_cases hcm : c = -1
    · obtain ⟨M2, p1, p2⟩ := eM1 M1 (KK_Sc hK sc1) (St_Sc sc1)
      refine ⟨nI (cntL (rcB (St M) a L) (rowsOf (St M) L 0)), M1, M2, by rw [eX1, if_pos hcm], ?_, gRel_sc (gRel_sc hR sc1) (FT_Sc p2)⟩
      rw [p1]; unfold whE; rw [if_pos hcm]
    · by_cases h0 : nI (cntL (rcB (St M) a L) (rowsOf (St M) L 0)) = 0
      · obtain ⟨M2, p1, p2⟩ := eM1 (rfX 1 M1) (KK_rfX (KK_Sc hK sc1)) (by rw [St_rfX, St_Sc sc1])
        refine ⟨-3, rfX 1 M1, rfM 1 M2, by rw [eX1, if_neg hcm, if_pos h0], ?_, gRel_bad hR sc1 (FT_Sc p2)⟩
        rw [p1]; unfold whE; rw [if_neg hcm, if_pos h0]
      · obtain ⟨t, ht, rfl⟩ := hct hcm
        generalize hA : cntL (rcX (St M) a L (nI t)) (rowsOf (St M) L 0) = A at *
        generalize hB : cntL (rcB (St M) a L) (rowsOf (St M) L 0) = B at *
        have hB0 : 0 < B := by
          apply Nat.pos_of_ne_zero
          intro h; rw [h] at h0; exact h0 rfl
        have e4 : M1.1 4 t = nI A := by rw [g2 t ht, hA]
        let M1f := mset (mset M1 0 4 (nI (A / Nat.gcd A B))) 0 5 (nI (B / Nat.gcd A B))
        have fr0 : ∀ x, x ≠ 0 → M1f.1 x = M1.1 x := fun x h => by
          show (mset (mset M1 0 4 (nI (A / Nat.gcd A B))) 0 5 (nI (B / Nat.gcd A B))).1 x = _
          rw [mset_ne h, mset_ne h]
        have hS1f : St M1f = St M := by rw [St_sc (fun x c1 c2 => fr0 x (by omega)), St_Sc sc1]
        have hK1f : KK M1f := KK_sc (KK_Sc hK sc1) (fun x c1 c2 => fr0 x (by omega)) (fun x c1 c2 => fr0 x (by omega))
        obtain ⟨M2, p1, p2⟩ := eM1 M1f hK1f hS1f
        refine ⟨1, M1f, mset (mset M2 108 11 (nI (A / Nat.gcd A B))) 108 12 (nI (B / Nat.gcd A B)), ?_, ?_, ?_⟩
        · rw [eX1, if_neg hcm, if_neg h0, rd_n ht, e4, ev_keep (by omega) (by omega) hB0, cl_s]
        · rw [p1]; unfold whE
          rw [if_neg hcm, if_neg h0, ev_fraction (by omega) (by omega) hB0, cl_s]
        · generalize hM3 : mset (mset M2 108 11 (nI (A / Nat.gcd A B))) 108 12 (nI (B / Nat.gcd A B)) = M3
          have fr3 : ∀ x, x ≠ 108 → M3.1 x = M2.1 x := fun x h => by rw [← hM3, mset_ne h, mset_ne h]
          have frA : ∀ x, x ≠ 0 → x ≠ 108 → x ≠ 125 → x ≠ 126 → M3.1 x = M1.1 x := fun x z1 z2 z3 z4 => by rw [fr3 x z2, p2 x z3 z4, fr0 x z1]
          refine gRel_same hR (fun x c1 c2 => by rw [frA x (by omega) (by omega) (by omega) (by omega), g3 x (by omega)]) (by rw [frA 2 (by omega) (by omega) (by omega) (by omega), g3 2 (by omega)]) (fun x c1 c2 => by rw [frA x (by omega) (by omega) (by omega) (by omega), g3 x (by omega)]) (fun i hi => ?_) ?_ ?_
          · rw [frA 3 (by omega) (by omega) (by omega) (by omega), g3 3 (by omega), frA 120 (by omega) (by omega) (by omega) (by omega), g3 120 (by omega)]; exact hR.2.2.2.1 i hi
          · have e1 : M3.1 0 4 = nI (A / Nat.gcd A B) := by
              rw [fr3 0 (by omega), p2 0 (by omega) (by omega)]
              show (mset (mset M1 0 4 (nI (A / Nat.gcd A B))) 0 5 (nI (B / Nat.gcd A B))).1 0 4 = _
              rw [mset_at, if_neg (by omega), mset_at, if_pos ⟨rfl, rfl⟩]
            rw [e1, ← hM3, mset_at, if_neg (by omega), mset_at, if_pos ⟨rfl, rfl⟩]
          · have e1 : M3.1 0 5 = nI (B / Nat.gcd A B) := by
              rw [fr3 0 (by omega), p2 0 (by omega) (by omega)]
              show (mset (mset M1 0 4 (nI (A / Nat.gcd A B))) 0 5 (nI (B / Nat.gcd A B))).1 0 5 = _
              rw [mset_at, if_pos ⟨rfl, rfl⟩]
            rw [e1, ← hM3, mset_at, if_pos ⟨rfl, rfl⟩]
  by_cases h5 : St M 9 0 = 0
  · by_cases hcm : c = -1
    · exact no (fun X hX hs => by rw [eX X hX hs, h1, h2, cond_t, cond_t, if_pos hcm, if_pos h5]) (fun X hX hs => by rw [eM X hX hs, h1, h2, cond_t, cond_t, if_pos hcm, if_pos h5])
    · cases h3 : tB (St M) c with
      | false => exact bad (fun X hX hs => by rw [eX X hX hs, h1, h2, cond_t, cond_t, if_neg hcm, h3, cond_f]) (fun X hX hs => by rw [eM X hX hs, h1, h2, cond_t, cond_t, if_neg hcm, h3, cond_f])
      | true => exact no (fun X hX hs => by rw [eX X hX hs, h1, h2, cond_t, cond_t, if_neg hcm, h3, cond_t, if_pos h5]) (fun X hX hs => by rw [eM X hX hs, h1, h2, cond_t, cond_t, if_neg hcm, h3, cond_t, if_pos h5])
  · by_cases hcm : c = -1
    · exact main (fun X hX hs => by rw [eX X hX hs, h1, h2, cond_t, cond_t, if_pos hcm, if_neg h5, if_pos hcm]) (fun X hX hs => by rw [eM X hX hs, h1, h2, cond_t, cond_t, if_pos hcm, if_neg h5, if_pos hcm]) (fun h => absurd hcm h)
    · cases h3 : tB (St M) c with
      | false => exact bad (fun X hX hs => by rw [eX X hX hs, h1, h2, cond_t, cond_t, if_neg hcm, h3, cond_f]) (fun X hX hs => by rw [eM X hX hs, h1, h2, cond_t, cond_t, if_neg hcm, h3, cond_f])
      | true =>
        cases h7 : spB (St M) c with
        | false => exact no (fun X hX hs => by rw [eX X hX hs, h1, h2, cond_t, cond_t, if_neg hcm, h3, cond_t, if_neg h5, if_neg hcm, h7, cond_f]) (fun X hX hs => by rw [eM X hX hs, h1, h2, cond_t, cond_t, if_neg hcm, h3, cond_t, if_neg h5, if_neg hcm, h7, cond_f])
        | true =>
          obtain ⟨t, ht, hw, e⟩ := (spB_iff hT).mp h7
          exact main (fun X hX hs => by rw [eX X hX hs, h1, h2, cond_t, cond_t, if_neg hcm, h3, cond_t, if_neg h5, if_neg hcm, h7, cond_t]) (fun X hX hs => by rw [eM X hX hs, h1, h2, cond_t, cond_t, if_neg hcm, h3, cond_t, if_neg h5, if_neg hcm, h7, cond_t]) (fun _ => ⟨t, by omega, e⟩)
