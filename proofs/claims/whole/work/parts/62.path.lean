/-! paths: what is read, and where it goes -/
theorem rn_RI {S : Nat → Nat → Int32} : ∀ (d p : Nat) (r : Rs), RI S r → RI S (rn S d p r).2 := by
  intro d
  induction d with
  | zero => intro p r h; exact h
  | succ d ih =>
    intro p r h
    by_cases e : cN S p = 32
    · rw [rn_b e]; exact ih _ _ h
    · cases ht : tk S (cN S p) r with
      | none => rw [rn_n e ht]; exact h
      | some r' => rw [rn_k e ht]; exact ih _ _ (RI_tk h ht)
def nS (S : Nat → Nat → Int32) : Nat := (rdS S).2.1
def tS (S : Nat → Nat → Int32) : Nat → Int32 := (rdS S).2.2.2.2.2.1
def kS (S : Nat → Nat → Int32) : Nat → Int32 := (rdS S).2.2.2.2.2.2
def goB (S : Nat → Nat → Int32) : Bool := decide ((rdS S).1 = -1) && decide (nS S ≤ 200)
theorem goB_iff {S : Nat → Nat → Int32} : goB S = true ↔ (rdS S).1 = -1 ∧ nS S ≤ 200 := by unfold goB; simp
theorem rdS_RI {S : Nat → Nat → Int32} : RI S (rdS S).2 := rn_RI _ _ _ RI_0
def PO (S : Nat → Nat → Int32) (n : Nat) (T K : Nat → Int32) : Prop := n ≤ 200 ∧ ∀ j, j < n → spB S (T j) = true ∧ U 6 (K j)
theorem goB_PO {S : Nat → Nat → Int32} (h : goB S = true) : PO S (nS S) (tS S) (kS S) := by
  obtain ⟨h1, h2⟩ := goB_iff.mp h
  have := rdS_RI (S := S)
  refine ⟨h2, fun j hj => ?_⟩
  exact this.2.2.2.2 j hj (by omega)
def XP (n : Nat) (T K : Nat → Int32) (M : Mem) : Prop := M.1 68 1 = nI n ∧ ∀ j, j < n → M.1 70 j = T j ∧ M.1 71 j = K j
theorem X_path {M : Mem} (hT : IvT (St M)) (hB : IvB (St M)) : ∃ M', f_X5_read M = some ((), M') ∧ f_X5_canBeGone M' = some (bI (goB (St M))) ∧ M'.1 68 0 = (rdS (St M)).1 ∧ (goB (St M) = true → XP (nS (St M)) (tS (St M)) (kS (St M)) M') ∧ FX M M' := by
  obtain ⟨M', g1, g2, g3, g4⟩ := ev_read hT hB
  have hI := rdS_RI (S := St M)
  refine ⟨M', g1, ?_, g2, fun hg => ?_, g4⟩
  · unfold f_X5_canBeGone goB
    rw [g2]
    by_cases h : (rdS (St M)).1 = -1
    · rw [if_pos h, decide_eq_true h]
      have hx := g3 h
      have e1 : M'.1 68 1 = nI (nS (St M)) := hx.2.1
      have hn : nS (St M) ≤ 201 := hI.1
      rw [e1]
      by_cases h2 : nS (St M) ≤ 200
      · rw [if_neg (show ¬ (200 : Int32) < nI (nS (St M)) from nI_nlt (b := nS (St M)) (a := 200) (by omega) (by omega)), decide_eq_true h2]; rfl
      · rw [if_pos (show (200 : Int32) < nI (nS (St M)) from nI_lt (a := 200) (by omega) (by omega)), decide_eq_false h2]; rfl
    · rw [if_neg h, decide_eq_false h]; rfl
  · obtain ⟨h1, h2⟩ := goB_iff.mp hg
    have hx := g3 h1
    exact ⟨hx.2.1, fun j hj => hx.2.2.2.2.2 j hj (by omega)⟩
def RP (n : Nat) (T K : Nat → Int32) (M : Mem) : Prop := M.1 108 14 = nI n ∧ ∀ j, j < n → M.1 121 (2 * j) = T j ∧ M.1 121 (2 * j + 1) = K j
theorem R_path {M : Mem} (hK : KK M) : ∃ M', f_X10_isPath M = some (bI (goB (St M)), M') ∧ (goB (St M) = true → RP (nS (St M)) (tS (St M)) (kS (St M)) M') ∧ FR M M' := by
  obtain ⟨M', g1, g3, g4⟩ := ev_reads hK
  have hI := rdS_RI (S := St M)
  refine ⟨M', ?_, fun hg => ?_, g4⟩
  · unfold f_X10_isPath goB
    rw [g1, cl_s]
    by_cases h : (rdS (St M)).1 = -1
    · rw [if_pos h, decide_eq_true h]
      have hx := g3 h
      have e1 : M'.1 108 14 = nI (nS (St M)) := hx.1
      have hn : nS (St M) ≤ 201 := hI.1
      rw [e1]
      by_cases h2 : nS (St M) ≤ 200
      · rw [if_neg (show ¬ (200 : Int32) < nI (nS (St M)) from nI_nlt (b := nS (St M)) (a := 200) (by omega) (by omega)), decide_eq_true h2]; rfl
      · rw [if_pos (show (200 : Int32) < nI (nS (St M)) from nI_lt (a := 200) (by omega) (by omega)), decide_eq_false h2]; rfl
    · rw [if_neg h, decide_eq_false h]; rfl
  · obtain ⟨h1, h2⟩ := goB_iff.mp hg
    have hx := g3 h1
    exact ⟨hx.1, fun j hj => hx.2.2 j hj (by omega)⟩
theorem FX_Sc {M M' : Mem} (h : FX M M') : Sc M M' := ⟨fun c h1 h2 => h c (by omega), fun c h1 h2 => h c (by omega), by rw [h 108 (by omega)], by rw [h 108 (by omega)]⟩
theorem FR_Sc {M M' : Mem} (h : FR M M') : Sc M M' := ⟨fun c h1 h2 => h.1 c (by omega) (by omega) (by omega), fun c h1 h2 => h.1 c (by omega) (by omega) (by omega), h.2 11 (by omega) (by omega), h.2 12 (by omega) (by omega)⟩
theorem Sc_rfM {X Y : Mem} {i : Nat} (h : Sc X Y) : Sc (rfM i X) (rfM i Y) := by
  refine ⟨fun c h1 h2 => ?_, fun c h1 h2 => ?_, ?_, ?_⟩
  · unfold rfM; rw [mset_ne (by omega), mset_ne (by omega)]; exact h.1 c h1 h2
  · unfold rfM
    funext j
    rw [mset_at, mset_at, h.2.1 120 (by omega) (by omega), h.2.1 c h1 h2]
  · unfold rfM; rw [mset_ne (by omega), mset_ne (by omega)]; exact h.2.2.1
  · unfold rfM; rw [mset_ne (by omega), mset_ne (by omega)]; exact h.2.2.2
theorem gRel_bad {M M1 M2 : Mem} {i : Nat} (hR : gRel M) (h1 : Sc M M1) (h2 : Sc (rfX i M1) M2) : gRel (rfM i M2) := gRel_sc (gRel_rf (gRel_sc hR h1)) (Sc_rfM h2)
theorem St_rfX {M : Mem} {i : Nat} : St (rfX i M) = St M := St_sc (fun c c1 c2 => by rw [rfX, mset_ne (by omega)])
theorem KK_rfX {M : Mem} {i : Nat} (hK : KK M) : KK (rfX i M) := KK_sc hK (fun c c1 c2 => by rw [rfX, mset_ne (by omega)]) (fun c c1 c2 => by rw [rfX, mset_ne (by omega)])
theorem op_fault : opI gRel f_X9_fault f_X10_fault := by
  intro M hR
  have hK := KK_of hR
  obtain ⟨M1, g1, g2, g3, g4, g5⟩ := X_path hK.1.1 hK.1.2.2.1
  have hK1 : KK M1 := KK_Sc hK (FX_Sc g5)
  obtain ⟨M2, q1, q2, q3⟩ := ev_reads hK1
  rw [St_FX g5] at q1
  refine ⟨(rdS (St M)).1, M1, M2, ?_, ?_, gRel_sc (gRel_sc hR (FX_Sc g5)) (FR_Sc q3)⟩
  · unfold f_X9_fault
    rw [g1, cl_s, g3]
  · unfold f_X10_fault
    rw [q1, cl_s]
theorem op_length : opI gRel f_X9_length f_X10_length := by
  intro M hR
  have hK := KK_of hR
  obtain ⟨M1, g1, g2, g3, g4, g5⟩ := X_path hK.1.1 hK.1.2.2.1
  have hK1 : KK M1 := KK_Sc hK (FX_Sc g5)
  cases hg : goB (St M) with
  | false =>
    obtain ⟨M2, q1, q2, q3⟩ := R_path (KK_rfX (i := 1) hK1)
    rw [St_rfX, St_FX g5, hg] at q1
    refine ⟨-3, rfX 1 M1, rfM 1 M2, ?_, ?_, gRel_bad hR (FX_Sc g5) (FR_Sc q3)⟩
    · unfold f_X9_length
      rw [g1, cl_s, g2, cp_s, if_bI, hg, cond_f, ev_rno, cl_s]
    · unfold f_X10_length
      rw [q1, cl_s, if_bI, cond_f, ev_no, cl_s]
  | true =>
    obtain ⟨M2, q1, q2, q3⟩ := R_path hK1
    rw [St_FX g5, hg] at q1 q2
    refine ⟨nI (nS (St M)), M1, M2, ?_, ?_, gRel_sc (gRel_sc hR (FX_Sc g5)) (FR_Sc q3)⟩
    · unfold f_X9_length
      rw [g1, cl_s, g2, cp_s, if_bI, hg, cond_t, (g4 hg).1]
    · unfold f_X10_length
      rw [q1, cl_s, if_bI, cond_t, (q2 rfl).1]
/-! where a path goes -/
def tI (T : Nat → Int32) (i : Nat) : Nat := (T i).toNatClampNeg
def Q0 (S : Nat → Nat → Int32) : Nat → Nat → Int32
  | 0 => S 10
  | 1 => S 11
  | _ => S 12
def Qs (S : Nat → Nat → Int32) (T K : Nat → Int32) : Nat → Nat → Nat → Int32
  | 0 => Q0 S
  | i + 1 => stepQ S (K i) (tI T i) (Qs S T K i)
theorem Q0_ok {S : Nat → Nat → Int32} (hP : IvP S) : QOk (nP S) (Q0 S) := ⟨fun p hp => ⟨(hP.2.1 p hp).1, Or.inl (hP.2.1 p hp).2.2⟩, fun f hf => hP.2.2 f hf⟩
theorem tI_eq {S : Nat → Nat → Int32} (hT : IvT S) {T : Nat → Int32} {i : Nat} (h : spB S (T i) = true) : T i = nI (tI T i) ∧ tI T i < nT S ∧ 0 < nW S (tI T i) := by
  obtain ⟨t, h1, h2, h3⟩ := (spB_iff hT).mp h
  have h6 := nT_le hT
  have : tI T i = t := by unfold tI; rw [h3, nI_clamp (by omega)]
  rw [this]; exact ⟨h3, h1, h2⟩
theorem Qs_ok {S : Nat → Nat → Int32} (hT : IvT S) (hP : IvP S) {n : Nat} {T K : Nat → Int32} (h : PO S n T K) : ∀ i, i ≤ n → QOk (nP S) (Qs S T K i) := by
  intro i
  induction i with
  | zero => intro _; exact Q0_ok hP
  | succ i ih =>
    intro hi
    obtain ⟨e1, e2, e3⟩ := tI_eq hT (h.2 i (by omega)).1
    exact stepQ_ok hT e2 e3 (ih (by omega))
theorem CQ_fr {n k0 : Nat} {Q : Nat → Nat → Int32} {M M' : Mem} (h : CQ n k0 Q M) (e : ∀ c, k0 ≤ c → c ≤ k0 + 3 → M'.1 c = M.1 c) : CQ n k0 Q M' := by
  unfold CQ at *
  rw [e k0 (by omega) (by omega), e (k0 + 1) (by omega) (by omega), e (k0 + 2) (by omega) (by omega), e (k0 + 3) (by omega) (by omega)]
  exact h
theorem XP_fr {n : Nat} {T K : Nat → Int32} {M M' : Mem} (h : XP n T K M) (e : ∀ c, 68 ≤ c → c ≤ 71 → M'.1 c = M.1 c) : XP n T K M' := by
  unfold XP at *
  rw [e 68 (by omega) (by omega), e 70 (by omega) (by omega), e 71 (by omega) (by omega)]
  exact h
theorem ev_copyQ {n k0 k1 : Nat} {Q : Nat → Nat → Int32} {M : Mem} (hd : k0 + 4 ≤ k1 ∨ k1 + 4 ≤ k0) (hn : n ≤ 6) (h : CQ n k1 Q M) : ∃ M', f_X7_copyFrom k0 k1 M = some ((), M') ∧ CQ n k0 Q M' ∧ ∀ c, (c < k0 ∨ k0 + 3 < c) → M'.1 c = M.1 c := by
  obtain ⟨h1, h2, h3⟩ := h
  refine ⟨_, rfl, ⟨?_, fun p hp => ⟨?_, ?_⟩, fun f hf => ?_⟩, fun c hc => ?_⟩
  · rw [mcpy_ne (by omega), mcpy_ne (by omega), mcpy_ne (by omega), mset_at, if_pos ⟨rfl, rfl⟩, h1]
  · rw [mcpy_ne (by omega), mcpy_ne (by omega), mcpy_at, if_pos ⟨rfl, by omega⟩, mset_ne (by omega)]; exact (h2 p hp).1
  · rw [mcpy_ne (by omega), mcpy_at, if_pos ⟨rfl, by omega⟩, mcpy_ne (by omega), mset_ne (by omega)]; exact (h2 p hp).2
  · rw [mcpy_at, if_pos ⟨rfl, hf⟩, mcpy_ne (by omega), mcpy_ne (by omega), mset_ne (by omega)]; exact h3 f hf
  · rw [mcpy_ne (by omega), mcpy_ne (by omega), mcpy_ne (by omega), mset_ne (by omega)]
theorem CQ_main {M : Mem} (hP : IvP (St M)) : CQ (nP (St M)) 14 (Q0 (St M)) M := by
  refine ⟨?_, fun p hp => ⟨?_, ?_⟩, fun f hf => ?_⟩
  · rw [k14]; exact nP_eq hP
  · rw [k15]; rfl
  · rw [k16]; rfl
  · rw [k17]; rfl
theorem ev_goStep {n i k0 : Nat} {T K : Nat → Int32} {Q : Nat → Nat → Int32} {M : Mem} (hT : IvT (St M)) (hP : IvP (St M)) (hk0 : 72 ≤ k0) (h : PO (St M) n T K) (hX : XP n T K M) (hi : i < n) (hQ : CQ (nP (St M)) k0 Q M) : ∃ M', f_X5_goStep k0 (nI (i + 1)) M = some ((), M') ∧ CQ (nP (St M)) k0 (stepQ (St M) (K i) (tI T i) Q) M' ∧ ∀ c, (c < k0 ∨ k0 + 3 < c) → M'.1 c = M.1 c := by
  have hn := h.1
  obtain ⟨e1, e2, e3⟩ := tI_eq hT (h.2 i hi).1
  obtain ⟨M', g1, g2, g3⟩ := ev_carry (k := K i) (by omega) (nP_le hP) hT e2 e3 hQ
  refine ⟨M', ?_, g2, fun c hc => g3 c (by omega) (by omega) (by omega)⟩
  unfold f_X5_goStep
  rw [hX.1, ev_isIn, show inR (nI (i + 1)) 1 (nI n) = decide (1 ≤ i + 1 ∧ i + 1 ≤ n) from inR_dec (a := 1) (by omega) (by omega) (by omega), cp_s, if_bI, decide_eq_true (by omega), cond_t, if_neg (show ¬ (200 : Int32) < nI (i + 1) from nI_nlt (b := i + 1) (a := 200) (by omega) (by omega)), nI_pred, rd_n (by omega), rd_n (by omega), (hX.2 i hi).1, (hX.2 i hi).2, e1, g1, cl_s]
theorem goTo_go {n x k0 : Nat} {T K : Nat → Int32} (hk0 : 72 ≤ k0) (hx : x ≤ n) : ∀ (d F i : Nat) (M : Mem), IvT (St M) → IvP (St M) → PO (St M) n T K → XP n T K M → i + d = x → CQ (nP (St M)) k0 (Qs (St M) T K i) M → d < F → ∃ M', f_X9_goTo_13 k0 (nI x) F (nI (i + 1)) M = some ((), M') ∧ CQ (nP (St M)) k0 (Qs (St M) T K x) M' ∧ ∀ c, (c < k0 ∨ k0 + 3 < c) → M'.1 c = M.1 c := by
  intro d
  induction d with
  | zero =>
    intro F i M hT hP h hX hi hQ hF
    obtain ⟨F, rfl⟩ : ∃ F', F = F' + 1 := ⟨F - 1, by omega⟩
    have hn := h.1
    refine ⟨M, ?_, by rw [show x = i by omega]; exact hQ, fun _ _ => rfl⟩
    show f_X9_goTo_13_b k0 (f_X9_goTo_13 k0 (nI x) F) (nI x) (nI (i + 1)) M = _
    unfold f_X9_goTo_13_b
    rw [if_pos (nI_lt (by omega) (by omega))]
  | succ d ih =>
    intro F i M hT hP h hX hi hQ hF
    obtain ⟨F, rfl⟩ : ∃ F', F = F' + 1 := ⟨F - 1, by omega⟩
    have hn := h.1
    obtain ⟨M1, g1, g2, g3⟩ := ev_goStep (i := i) hT hP hk0 h hX (by omega) hQ
    have hS : St M1 = St M := St_sc (fun c c1 c2 => g3 c (by omega))
    obtain ⟨M', q1, q2, q3⟩ := ih F (i + 1) M1 (by rw [hS]; exact hT) (by rw [hS]; exact hP) (by rw [hS]; exact h) (XP_fr hX (fun c c1 c2 => g3 c (by omega))) (by omega) (by rw [hS]; exact g2) (by omega)
    rw [hS] at q2
    refine ⟨M', ?_, q2, fun c hc => (q3 c hc).trans (g3 c hc)⟩
    show f_X9_goTo_13_b k0 (f_X9_goTo_13 k0 (nI x) F) (nI x) (nI (i + 1)) M = _
    unfold f_X9_goTo_13_b
    rw [if_neg (nI_nlt (by omega) (by omega)), if_neg (show ¬ (200 : Int32) < nI (i + 1) from nI_nlt (b := i + 1) (a := 200) (by omega) (by omega)), g1, cl_s, nI_1, q1]
theorem ev_goTo {n x k0 : Nat} {T K : Nat → Int32} {M : Mem} (hk0 : 72 ≤ k0) (hx : x ≤ n) (hT : IvT (St M)) (hP : IvP (St M)) (h : PO (St M) n T K) (hX : XP n T K M) : ∃ M', f_X9_goTo k0 (nI x) M = some ((), M') ∧ CQ (nP (St M)) k0 (Qs (St M) T K x) M' ∧ ∀ c, (c < k0 ∨ k0 + 3 < c) → M'.1 c = M.1 c := by
  obtain ⟨M1, g1, g2, g3⟩ := ev_copyQ (k0 := k0) (by omega) (nP_le hP) (CQ_main hP)
  have hS : St M1 = St M := St_sc (fun c c1 c2 => g3 c (by omega))
  have hn := h.1
  obtain ⟨M', q1, q2, q3⟩ := goTo_go hk0 hx x FU 0 M1 (by rw [hS]; exact hT) (by rw [hS]; exact hP) (by rw [hS]; exact h) (XP_fr hX (fun c c1 c2 => g3 c (by omega))) (by omega) (by rw [hS]; exact g2) (FU_of (by omega))
  rw [hS] at q2
  refine ⟨M', ?_, q2, fun c hc => (q3 c hc).trans (g3 c hc)⟩
  unfold f_X9_goTo
  rw [g1, cl_s]
  exact q1
theorem RQ_fr {n q a b : Nat} {Q : Nat → Nat → Int32} {M M' : Mem} (h : RQ n q a Q M) (hn : n ≤ 6) (hb : a + 16 ≤ b) (e : ∀ x, x < b → M'.1 q x = M.1 q x) : RQ n q a Q M' := by
  obtain ⟨h1, h2, h3⟩ := h
  refine ⟨fun p hp => ?_, fun p hp hp2 => ?_, fun f hf => ?_⟩
  · rw [e _ (by omega), e _ (by omega)]; exact h1 p hp
  · rw [e _ (by omega), e _ (by omega)]; exact h2 p hp hp2
  · rw [e _ (by omega)]; exact h3 f hf
theorem i16 (x : Nat) : (16 : Int32) * nI x = nI (16 * x) := nI_mul 16 x
theorem goes_46 {n : Nat} {T K : Nat → Int32} : ∀ (d F i : Nat) (M : Mem), KK M → PO (St M) n T K → RP n T K M → i + d = n → (∀ j, j ≤ i → RQ (nP (St M)) 123 (16 * j) (Qs (St M) T K j) M) → d < F → ∃ M', f_X10_goes_46 F (nI i) M = some (1, M') ∧ (∀ j, j ≤ n → RQ (nP (St M)) 123 (16 * j) (Qs (St M) T K j) M') ∧ ∀ c, c ≠ 123 → M'.1 c = M.1 c := by
  intro d
  induction d with
  | zero =>
    intro F i M hK h hX hi hQ hF
    obtain ⟨F, rfl⟩ : ∃ F', F = F' + 1 := ⟨F - 1, by omega⟩
    have hn := h.1
    refine ⟨M, ?_, fun j hj => hQ j (by omega), fun _ _ => rfl⟩
    show f_X10_goes_46_b (f_X10_goes_46 F) (nI i) M = _
    unfold f_X10_goes_46_b
    rw [hX.1, if_pos (nI_le (by omega) (by omega))]
  | succ d ih =>
    intro F i M hK h hX hi hQ hF
    obtain ⟨F, rfl⟩ : ∃ F', F = F' + 1 := ⟨F - 1, by omega⟩
    have hn := h.1
    have hT := hK.1.1
    have hP := hK.1.2.1
    obtain ⟨e1, e2, e3⟩ := tI_eq hT (h.2 i (by omega)).1
    have e110 : M.1 110 0 = nI (nP (St M)) := by rw [rm110 hK]; exact nP_eq hP
    obtain ⟨M1, g1, g2, g3, g4⟩ := ev_carries (q := 123) (len := 3216) (a := 16 * i) (b := 16 * i + 16) (n := nP (St M)) (k := K i) (by omega) (by omega) (by omega) (by omega) (by omega) (nP_le hP) (h.2 i (by omega)).2 hK e2 e3 e110 (Qs_ok hT hP h i (by omega)) (hQ i (Nat.le_refl _))
    have hS : St M1 = St M := St_sc (fun c c1 c2 => g3 c (by omega))
    have hK1 : KK M1 := KK_sc hK (fun c c1 c2 => g3 c (by omega)) (fun c c1 c2 => g3 c (by omega))
    have hX1 : RP n T K M1 := by unfold RP; rw [g3 108 (by omega), g3 121 (by omega)]; exact hX
    obtain ⟨M', q1, q2, q3⟩ := ih F (i + 1) M1 hK1 (by rw [hS]; exact h) hX1 (by omega) (fun j hj => by
      rw [hS]
      by_cases hji : j = i + 1
      · subst hji; exact g2
      · exact RQ_fr (hQ j (by omega)) (nP_le hP) (show 16 * j + 16 ≤ 16 * i + 16 by omega) (fun x hx => g4 x (Or.inl hx))) (by omega)
    rw [hS] at q2
    refine ⟨M', ?_, q2, fun c hc => (q3 c hc).trans (g3 c hc)⟩
    show f_X10_goes_46_b (f_X10_goes_46 F) (nI i) M = _
    unfold f_X10_goes_46_b
    rw [hX.1, if_neg (nI_ge (by omega) (by omega)), i2, ia1, rd_n (by omega), rd_n (by omega), (hX.2 i (by omega)).1, (hX.2 i (by omega)).2, i16, show nI (16 * i) + 16 = nI (16 * i + 16) from nI_add _ 16, e1, g1, cl_s, nI_1, q1]
theorem goes_20 : ∀ (d F i : Nat) (M : Mem), i + d = 16 → d < F → ∃ M', f_X10_goes_20 F (nI i) M = f_X10_goes_46 FU 0 M' ∧ (∀ x, M'.1 123 x = if i ≤ x ∧ x < 16 then M.1 117 x else M.1 123 x) ∧ ∀ c, c ≠ 123 → M'.1 c = M.1 c := by
  intro d
  induction d with
  | zero =>
    intro F i M hi hF
    obtain ⟨F, rfl⟩ : ∃ F', F = F' + 1 := ⟨F - 1, by omega⟩
    refine ⟨M, ?_, fun x => by rw [if_neg (by omega)], fun _ _ => rfl⟩
    show f_X10_goes_20_b (f_X10_goes_20 F) (nI i) M = _
    unfold f_X10_goes_20_b
    rw [if_pos (show (16 : Int32) ≤ nI i from nI_le (a := 16) (by omega) (by omega))]
  | succ d ih =>
    intro F i M hi hF
    obtain ⟨F, rfl⟩ : ∃ F', F = F' + 1 := ⟨F - 1, by omega⟩
    obtain ⟨M', q1, q2, q3⟩ := ih F (i + 1) (mset M 123 i (M.1 117 i)) (by omega) (by omega)
    refine ⟨M', ?_, fun x => ?_, fun c hc => by rw [q3 c hc, mset_ne hc]⟩
    · show f_X10_goes_20_b (f_X10_goes_20 F) (nI i) M = _
      unfold f_X10_goes_20_b
      rw [if_neg (show ¬ (16 : Int32) ≤ nI i from nI_ge (b := 16) (by omega) (by omega)), rd_n (by omega), ck_n (by omega), stm_s, nI_clamp (by omega), nI_1, q1]
    · rw [q2, mset_ne (show 117 ≠ 123 by omega), mset_at]
      by_cases h : x = i
      · rw [if_neg (by omega), if_pos ⟨rfl, h⟩, if_pos (by omega), h]
      · by_cases h2 : i + 1 ≤ x ∧ x < 16
        · rw [if_pos h2, if_pos (by omega)]
        · rw [if_neg h2, if_neg (by omega), if_neg (by omega)]
def gpB (S : Nat → Nat → Int32) : Bool := goB S && decide (0 < nP S)
def FG (M M' : Mem) : Prop := (∀ c, c ≠ 108 → c ≠ 121 → c ≠ 122 → c ≠ 123 → M'.1 c = M.1 c) ∧ ∀ j, j ≠ 14 → j ≠ 16 → M'.1 108 j = M.1 108 j
theorem FR_FG {M M' : Mem} (h : FR M M') : FG M M' := ⟨fun c h1 h2 h3 _ => h.1 c h1 h2 h3, h.2⟩
theorem FG_Sc {M M' : Mem} (h : FG M M') : Sc M M' := ⟨fun c h1 h2 => h.1 c (by omega) (by omega) (by omega) (by omega), fun c h1 h2 => h.1 c (by omega) (by omega) (by omega) (by omega), h.2 11 (by omega) (by omega), h.2 12 (by omega) (by omega)⟩
theorem ev_goesPath {M : Mem} (hK : KK M) : ∃ M', f_X9_goesPath M = some (bI (gpB (St M)), M') ∧ (gpB (St M) = true → goB (St M) = true ∧ XP (nS (St M)) (tS (St M)) (kS (St M)) M') ∧ FX M M' := by
  have hP := hK.1.2.1
  obtain ⟨M1, g1, g2, g3, g4, g5⟩ := X_path hK.1.1 hK.1.2.2.1
  have e14 : M1.1 14 0 = nI (nP (St M)) := by rw [g5 14 (by omega), k14]; exact nP_eq hP
  have h6 := nP_le hP
  unfold gpB
  refine ⟨M1, ?_, fun h => ?_, g5⟩
  · unfold f_X9_goesPath
    rw [g1, cl_s, g2, cp_s, if_bI, e14]
    cases goB (St M) with
    | false => rfl
    | true =>
      rw [cond_t]
      by_cases h0 : 0 < nP (St M)
      · rw [if_neg (nI_nle h0 (by omega)), decide_eq_true h0]; rfl
      · rw [if_pos (show nI (nP (St M)) ≤ 0 by rw [show nP (St M) = 0 by omega]; decide), decide_eq_false h0]; rfl
  · have hg : goB (St M) = true := by
      cases hh : goB (St M) with
      | true => rfl
      | false => rw [hh] at h; exact absurd h (by simp)
    exact ⟨hg, g4 hg⟩
theorem ev_goes {M : Mem} (hK : KK M) : ∃ M', f_X10_goes M = some (bI (gpB (St M)), M') ∧ (gpB (St M) = true → M'.1 108 14 = nI (nS (St M)) ∧ ∀ j, j ≤ nS (St M) → RQ (nP (St M)) 123 (16 * j) (Qs (St M) (tS (St M)) (kS (St M)) j) M') ∧ FG M M' := by
  have hP := hK.1.2.1
  have h6 := nP_le hP
  obtain ⟨M1, g1, g2, g3⟩ := R_path hK
  have hK1 : KK M1 := KK_FR hK g3
  have hS : St M1 = St M := St_FR g3
  have e110 : M1.1 110 0 = nI (nP (St M)) := by rw [rm110 hK1, hS]; exact nP_eq hP
  have eX : f_X10_goes M = cond (goB (St M)) (if nI (nP (St M)) = (0 : Int32) then some ((0 : Int32), M1) else f_X10_goes_20 FU (nI 0) M1) (some (0, M1)) := by
    unfold f_X10_goes
    rw [g1, cl_s, if_bI, e110]; rfl
  rw [eX]
  unfold gpB
  cases hg : goB (St M) with
  | false => exact ⟨M1, by rw [cond_f]; rfl, fun h => absurd h (by simp), FR_FG g3⟩
  | true =>
  rw [cond_t]
  by_cases h0 : 0 < nP (St M)
  case neg => exact ⟨M1, by rw [if_pos (show nI (nP (St M)) = 0 by rw [show nP (St M) = 0 by omega]; rfl), decide_eq_false h0]; rfl, fun h => absurd h (by simp [h0]), FR_FG g3⟩
  case pos =>
  rw [if_neg (nI_ne0 h0 (by omega)), decide_eq_true h0]
  obtain ⟨M2, q1, q2, q3⟩ := goes_20 16 FU 0 M1 (by omega) (FU_of (by omega))
  have hS2 : St M2 = St M := by rw [St_sc (fun c c1 c2 => q3 c (by omega)), hS]
  have hK2 : KK M2 := KK_sc hK1 (fun c c1 c2 => q3 c (by omega)) (fun c c1 c2 => q3 c (by omega))
  have hPO := goB_PO hg
  have hX2 : RP (nS (St M)) (tS (St M)) (kS (St M)) M2 := by
    have := g2 hg
    unfold RP; rw [q3 108 (by omega), q3 121 (by omega)]; exact this
  obtain ⟨M3, p1, p2, p3⟩ := goes_46 (nS (St M)) FU 0 M2 hK2 (by rw [hS2]; exact hPO) hX2 (by omega) (fun j hj => by
    obtain rfl : j = 0 := by omega
    rw [hS2]
    have a1 := hK1.2.2.1
    rw [hS] at a1
    obtain ⟨b1, b2, b3, b4, b5⟩ := a1
    have c1 : ∀ x, x < 16 → M2.1 123 x = M1.1 117 x := fun x hx => by rw [q2, if_pos (by omega)]
    refine ⟨fun p hp => ⟨?_, ?_⟩, fun p hp hp2 => ⟨?_, ?_⟩, fun f hf => ?_⟩
    · rw [c1 _ (by omega)]; have := b2 p hp; rw [show Qs (St M) (tS (St M)) (kS (St M)) 0 0 p = St M 10 p from rfl]; simpa using this
    · rw [c1 _ (by omega)]; have := b4 p (by omega); rw [show Qs (St M) (tS (St M)) (kS (St M)) 0 1 p = -1 from (hP.2.1 p hp).2.2]; simpa using this
    · rw [c1 _ (by omega)]; have := b3 p hp hp2; simpa using this
    · rw [c1 _ (by omega)]; have := b4 p hp2; simpa using this
    · rw [c1 _ (by omega)]; have := b5 f hf; rw [show Qs (St M) (tS (St M)) (kS (St M)) 0 2 f = St M 12 f from rfl]; simpa using this) (FU_of (by have := hPO.1; omega))
  rw [hS2] at p2
  refine ⟨M3, by rw [q1]; exact p1, fun _ => ⟨?_, p2⟩, ⟨fun c h1 h2 h3 h4 => ?_, fun j h1 h2 => ?_⟩⟩
  · rw [p3 108 (by omega)]; exact hX2.1
  · rw [p3 c h4, q3 c h4]; exact g3.1 c h1 h2 h3
  · rw [p3 108 (by omega), q3 108 (by omega)]; exact g3.2 j h1 h2
