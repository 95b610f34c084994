/-! round, one side -/
theorem ev_goRound {S : Nat → Nat → Int32} {k : Int32} {a t k0 : Nat} {Q : Nat → Nat → Int32} {M : Mem} (hk0 : 26 ≤ k0) (hT : IvT S) (hP : IvP S) (ha : a < nT S) (wa : 0 < nW S a) (ht : t < nT S) (wt : 0 < nW S t) (hS : St M = S) (hQ : CQ (nP S) k0 Q M) : ∃ M', f_X9_goRound k0 k (nI a) (nI t) M = some ((), M') ∧ CQ (nP S) k0 (stepQ S k a (stepQ S k t Q)) M' ∧ ∀ c, (c < k0 ∨ k0 + 3 < c) → M'.1 c = M.1 c := by
  have h6 := nP_le hP
  obtain ⟨M1, g1, g2, g3⟩ := ev_carry (k := k) (t := t) hk0 h6 (by rw [hS]; exact hT) (by rw [hS]; exact ht) (by rw [hS]; exact wt) hQ
  have fr1 : ∀ c, (c < k0 ∨ k0 + 3 < c) → M1.1 c = M.1 c := fun c hc => g3 c (by omega) (by omega) (by omega)
  have hS1 : St M1 = S := by rw [St_sc (fun c c1 c2 => fr1 c (by omega)), hS]
  rw [hS] at g2
  obtain ⟨M2, q1, q2, q3⟩ := ev_carry (k := k) (t := a) hk0 h6 (by rw [hS1]; exact hT) (by rw [hS1]; exact ha) (by rw [hS1]; exact wa) g2
  rw [hS1] at q2
  refine ⟨M2, ?_, q2, fun c hc => (q3 c (by omega) (by omega) (by omega)).trans (fr1 c hc)⟩
  unfold f_X9_goRound
  rw [g1, cl_s, q1, cl_s]
theorem rl_go {S : Nat → Nat → Int32} {k : Int32} {a t J m : Nat} (hT : IvT S) (hP : IvP S) (ha : a < nT S) (wa : 0 < nW S a) (ht : t < nT S) (wt : 0 < nW S t) (hJ : J < 100) (hm : m ≤ J) (hne : ∀ i, i < m → ¬ QE (nP S) (RSt S k a t i) (RSt S k a t J)) (hme : m = J ∨ QE (nP S) (RSt S k a t m) (RSt S k a t J)) : ∀ (d F i : Nat) (M : Mem), i + d = m → St M = S → CQ (nP S) 104 (RSt S k a t i) M → CQ (nP S) 100 (RSt S k a t J) M → d < F → ∃ M', f_X9_roundLikeNow_17 k (nI a) (nI t) (nI J) F (nI i) M = some (if m = J then -1 else nI m, M') ∧ ∀ c, (c < 104 ∨ 107 < c) → M'.1 c = M.1 c := by
  have h6 := nP_le hP
  have ok := RSt_ok (k := k) hT hP ha wa ht wt
  intro d
  induction d with
  | zero =>
    intro F i M hi hS h0 h1 hF
    obtain ⟨F, rfl⟩ : ∃ F', F = F' + 1 := ⟨F - 1, by omega⟩
    obtain rfl : i = m := by omega
    refine ⟨M, ?_, fun _ _ => rfl⟩
    show f_X9_roundLikeNow_17_b (f_X9_roundLikeNow_17 k (nI a) (nI t) (nI J) F) k (nI a) (nI t) (nI J) (nI i) M = _
    unfold f_X9_roundLikeNow_17_b
    by_cases h : i = J
    · rw [if_pos h, if_pos (nI_le (by omega) (by omega))]
    · obtain ⟨b, e1, e2⟩ := ev_sameAs h6 (ok i) (ok J) h0 h1
      have hb : b = true := e2.mpr (hme.resolve_left h)
      rw [if_neg h, if_neg (nI_ge (by omega) (by omega)), e1, cp_s, if_bI, hb, cond_t]
  | succ d ih =>
    intro F i M hi hS h0 h1 hF
    obtain ⟨F, rfl⟩ : ∃ F', F = F' + 1 := ⟨F - 1, by omega⟩
    obtain ⟨b, e1, e2⟩ := ev_sameAs h6 (ok i) (ok J) h0 h1
    have hb : b = false := by
      cases b with
      | false => rfl
      | true => exact absurd (e2.mp rfl) (hne i (by omega))
    obtain ⟨M1, g1, g2, g3⟩ := ev_goRound (k := k) (k0 := 104) (by omega) hT hP ha wa ht wt hS h0
    obtain ⟨M', q1, q2⟩ := ih F (i + 1) M1 (by omega) (by rw [St_sc (fun c c1 c2 => g3 c (by omega)), hS]) g2 (CQ_fr h1 (fun c c1 c2 => g3 c (by omega))) (by omega)
    refine ⟨M', ?_, fun c hc => (q2 c hc).trans (g3 c (by omega))⟩
    show f_X9_roundLikeNow_17_b (f_X9_roundLikeNow_17 k (nI a) (nI t) (nI J) F) k (nI a) (nI t) (nI J) (nI i) M = _
    unfold f_X9_roundLikeNow_17_b
    rw [if_neg (nI_ge (by omega) (by omega)), e1, cp_s, if_bI, hb, cond_f, g1, cl_s, nI_1, q1]
theorem ev_likeNow {S : Nat → Nat → Int32} {k : Int32} {a t J m : Nat} {M : Mem} (hT : IvT S) (hP : IvP S) (ha : a < nT S) (wa : 0 < nW S a) (ht : t < nT S) (wt : 0 < nW S t) (hJ : J < 100) (hm : m ≤ J) (hne : ∀ i, i < m → ¬ QE (nP S) (RSt S k a t i) (RSt S k a t J)) (hme : m = J ∨ QE (nP S) (RSt S k a t m) (RSt S k a t J)) (hS : St M = S) (h1 : CQ (nP S) 100 (RSt S k a t J) M) : ∃ M', f_X9_roundLikeNow k (nI a) (nI t) (nI J) M = some (if m = J then -1 else nI m, M') ∧ ∀ c, (c < 104 ∨ 107 < c) → M'.1 c = M.1 c := by
  have h14 : CQ (nP S) 14 (Q0 S) M := by have := CQ_main (M := M) (by rw [hS]; exact hP); rw [hS] at this; exact this
  obtain ⟨M1, g1, g2, g3⟩ := ev_copyQ (k0 := 104) (by omega) (nP_le hP) h14
  obtain ⟨M', q1, q2⟩ := rl_go hT hP ha wa ht wt hJ hm hne hme m FU 0 M1 (by omega) (by rw [St_sc (fun c c1 c2 => g3 c (by omega)), hS]) g2 (CQ_fr h1 (fun c c1 c2 => g3 c (by omega))) (FU_of (by omega))
  refine ⟨M', ?_, fun c hc => (q2 c hc).trans (g3 c (by omega))⟩
  unfold f_X9_roundLikeNow
  rw [g1, cl_s]
  exact q1
theorem rd_go {S : Nat → Nat → Int32} {k x4 : Int32} {a t J I : Nat} (hT : IvT S) (hP : IvP S) (ha : a < nT S) (wa : 0 < nW S a) (ht : t < nT S) (wt : 0 < nW S t) (hJ : J < 64) (hI : I < J) (hIe : QE (nP S) (RSt S k a t I) (RSt S k a t J)) (hIn : ∀ i, i < I → ¬ QE (nP S) (RSt S k a t i) (RSt S k a t J)) (hno : ∀ j, j < J → ∀ i, i < j → ¬ QE (nP S) (RSt S k a t i) (RSt S k a t j)) : ∀ (d F j : Nat) (M : Mem), j + 1 + d = J → St M = S → CQ (nP S) 100 (RSt S k a t j) M → d < F → ∃ M', f_X9_round_117 k (nI a) (nI t) x4 F (nI (j + 1)) M = some (if x4 = 0 then nI I else nI J - nI I, M') ∧ ∀ c, (c < 100 ∨ 107 < c) → M'.1 c = M.1 c := by
  intro d
  induction d with
  | zero =>
    intro F j M hj hS h0 hF
    obtain ⟨F, rfl⟩ : ∃ F', F = F' + 1 := ⟨F - 1, by omega⟩
    obtain ⟨M1, g1, g2, g3⟩ := ev_goRound (k := k) (k0 := 100) (by omega) hT hP ha wa ht wt hS h0
    rw [← RSt_s, show j + 1 = J by omega] at g2
    obtain ⟨M2, q1, q2⟩ := ev_likeNow hT hP ha wa ht wt (show J < 100 by omega) (show I ≤ J by omega) hIn (Or.inr hIe) (by rw [St_sc (fun c c1 c2 => g3 c (by omega)), hS]) g2
    rw [if_neg (by omega)] at q1
    refine ⟨M2, ?_, fun c hc => (q2 c (by omega)).trans (g3 c (by omega))⟩
    show f_X9_round_117_b (f_X9_round_117 k (nI a) (nI t) x4 F) k (nI a) (nI t) x4 (nI (j + 1)) M = _
    unfold f_X9_round_117_b
    rw [if_neg (show ¬ (1000 : Int32) < nI (j + 1) from nI_nlt (b := j + 1) (a := 1000) (by omega) (by omega)), g1, cl_s, show j + 1 = J by omega, q1, cl_s, if_neg (nI_m1 (by omega))]
    by_cases h4 : x4 = 0
    · rw [if_pos h4, if_pos h4]
    · rw [if_neg h4, if_neg h4]
  | succ d ih =>
    intro F j M hj hS h0 hF
    obtain ⟨F, rfl⟩ : ∃ F', F = F' + 1 := ⟨F - 1, by omega⟩
    obtain ⟨M1, g1, g2, g3⟩ := ev_goRound (k := k) (k0 := 100) (by omega) hT hP ha wa ht wt hS h0
    rw [← RSt_s] at g2
    have hS1 : St M1 = S := by rw [St_sc (fun c c1 c2 => g3 c (by omega)), hS]
    obtain ⟨M2, q1, q2⟩ := ev_likeNow hT hP ha wa ht wt (show j + 1 < 100 by omega) (Nat.le_refl _) (hno (j + 1) (by omega)) (Or.inl rfl) hS1 g2
    rw [if_pos rfl] at q1
    obtain ⟨M', p1, p2⟩ := ih F (j + 1) M2 (by omega) (by rw [St_sc (fun c c1 c2 => q2 c (by omega)), hS1]) (CQ_fr g2 (fun c c1 c2 => q2 c (by omega))) (by omega)
    refine ⟨M', ?_, fun c hc => (p2 c hc).trans ((q2 c (by omega)).trans (g3 c (by omega)))⟩
    show f_X9_round_117_b (f_X9_round_117 k (nI a) (nI t) x4 F) k (nI a) (nI t) x4 (nI (j + 1)) M = _
    unfold f_X9_round_117_b
    rw [if_neg (show ¬ (1000 : Int32) < nI (j + 1) from nI_nlt (b := j + 1) (a := 1000) (by omega) (by omega)), g1, cl_s, q1, cl_s, if_pos rfl, nI_1, p1]
/-! round, the other -/
theorem r75_go {k x2 x3 x4 : Int32} : ∀ (d F i : Nat) (M : Mem), i + d = 16 → d < F → ∃ M', f_X10_round_75 k x2 x3 x4 F (nI i) M = f_X10_round_108 k x2 x3 x4 FU 1 (-1) M' ∧ (∀ x, M'.1 124 x = if i ≤ x ∧ x < 16 then M.1 117 x else M.1 124 x) ∧ ∀ c, c ≠ 124 → M'.1 c = M.1 c := by
  intro d
  induction d with
  | zero =>
    intro F i M hi hF
    obtain ⟨F, rfl⟩ : ∃ F', F = F' + 1 := ⟨F - 1, by omega⟩
    refine ⟨M, ?_, fun x => by rw [if_neg (by omega)], fun _ _ => rfl⟩
    show f_X10_round_75_b (f_X10_round_75 k x2 x3 x4 F) k x2 x3 x4 (nI i) M = _
    unfold f_X10_round_75_b
    rw [if_pos (show (16 : Int32) ≤ nI i from nI_le (a := 16) (by omega) (by omega))]
  | succ d ih =>
    intro F i M hi hF
    obtain ⟨F, rfl⟩ : ∃ F', F = F' + 1 := ⟨F - 1, by omega⟩
    obtain ⟨M', q1, q2, q3⟩ := ih F (i + 1) (mset M 124 i (M.1 117 i)) (by omega) (by omega)
    refine ⟨M', ?_, fun x => ?_, fun c hc => by rw [q3 c hc, mset_ne hc]⟩
    · show f_X10_round_75_b (f_X10_round_75 k x2 x3 x4 F) k x2 x3 x4 (nI i) M = _
      unfold f_X10_round_75_b
      rw [if_neg (show ¬ (16 : Int32) ≤ nI i from nI_ge (b := 16) (by omega) (by omega)), rd_n (by omega), ck_n (by omega), stm_s, nI_clamp (by omega), nI_1, q1]
    · rw [q2, mset_ne (show 117 ≠ 124 by omega), mset_at]
      by_cases h : x = i
      · rw [if_neg (by omega), if_pos ⟨rfl, h⟩, if_pos (by omega), h]
      · by_cases h2 : i + 1 ≤ x ∧ x < 16
        · rw [if_pos h2, if_pos (by omega)]
        · rw [if_neg h2, if_neg (by omega), if_neg (by omega)]
theorem r166_go {S : Nat → Nat → Int32} {k x4 : Int32} {a t j m : Nat} {r108 : Int32 → Int32 → Mem → Option (Int32 × Mem)} {M : Mem} (hP : IvP S) (hj : j < 64) (hm : m ≤ j) (hne : ∀ i, i < m → ¬ QE (nP S) (RSt S k a t i) (RSt S k a t j)) (hme : m = j ∨ QE (nP S) (RSt S k a t m) (RSt S k a t j)) (hR : ∀ i, i ≤ j → RQ (nP S) 124 (16 * i) (RSt S k a t i) M) : ∀ (d F i : Nat), i + d = j → d < F → f_X10_round_166 r108 k (nI a) (nI t) x4 (nI j) F (if i ≤ m then -1 else nI m) (nI i) M = r108 (nI (j + 1)) (if m = j then -1 else nI m) M := by
  have h6 := nP_le hP
  intro d
  induction d with
  | zero =>
    intro F i hi hF
    obtain ⟨F, rfl⟩ : ∃ F', F = F' + 1 := ⟨F - 1, by omega⟩
    obtain rfl : i = j := by omega
    show f_X10_round_166_b r108 (f_X10_round_166 r108 k (nI a) (nI t) x4 (nI i) F) k (nI a) (nI t) x4 (nI i) (if i ≤ m then -1 else nI m) (nI i) M = _
    unfold f_X10_round_166_b
    rw [if_pos (nI_le (by omega) (by omega)), nI_1]
    by_cases h : m = i
    · rw [if_pos (show i ≤ m by omega), if_pos h]
    · rw [if_neg (show ¬ i ≤ m by omega), if_neg h]
  | succ d ih =>
    intro F i hi hF
    obtain ⟨F, rfl⟩ : ∃ F', F = F' + 1 := ⟨F - 1, by omega⟩
    have step := ih F (i + 1) (by omega) (by omega)
    show f_X10_round_166_b r108 (f_X10_round_166 r108 k (nI a) (nI t) x4 (nI j) F) k (nI a) (nI t) x4 (nI j) (if i ≤ m then -1 else nI m) (nI i) M = _
    unfold f_X10_round_166_b f_X10_round_194 f_X10_round_196
    rw [if_neg (nI_ge (by omega) (by omega)), nI_1]
    by_cases h : i ≤ m
    · obtain ⟨b, e1, e2⟩ := ev_same (by omega) hj (hR i (by omega)) (hR j (Nat.le_refl _)) h6
      rw [if_pos h, if_neg (show ¬ (0 : Int32) ≤ -1 by decide), e1, cp_s, if_bI]
      by_cases hi2 : i = m
      · have hb : b = true := e2.mpr (by rw [hi2]; exact hme.resolve_left (by omega))
        rw [if_neg (show ¬ i + 1 ≤ m by omega), ← hi2] at step
        rw [hb, cond_t, ← hi2]
        exact step
      · have hb : b = false := by
          cases b with
          | false => rfl
          | true => exact absurd (e2.mp rfl) (hne i (by omega))
        rw [if_pos (show i + 1 ≤ m by omega)] at step
        rw [hb, cond_f]
        exact step
    · rw [if_neg (show ¬ i + 1 ≤ m by omega)] at step
      rw [if_neg h, if_pos (nI_pos' (by omega))]
      exact step
theorem r108_go {S : Nat → Nat → Int32} {k x4 : Int32} {a t J I : Nat} (hk : U 6 k) (ha : a < nT S) (wa : 0 < nW S a) (ht : t < nT S) (wt : 0 < nW S t) (hJ : J < 63) (hI : I < J) (hIe : QE (nP S) (RSt S k a t I) (RSt S k a t J)) (hIn : ∀ i, i < I → ¬ QE (nP S) (RSt S k a t i) (RSt S k a t J)) (hno : ∀ j, j < J → ∀ i, i < j → ¬ QE (nP S) (RSt S k a t i) (RSt S k a t j)) : ∀ (d F j : Nat) (M : Mem), j + 1 + d = J → KK M → St M = S → (∀ i, i ≤ j → RQ (nP S) 124 (16 * i) (RSt S k a t i) M) → d + 1 < F → ∃ M', f_X10_round_108 k (nI a) (nI t) x4 F (nI (j + 1)) (-1) M = some (if x4 = 0 then nI I else nI J - nI I, M') ∧ ∀ c, c ≠ 124 → M'.1 c = M.1 c := by
  intro d
  induction d with
  | zero =>
    intro F j M hj hK hS hR hF
    obtain ⟨F, rfl⟩ : ∃ F', F = F' + 1 + 1 := ⟨F - 2, by omega⟩
    have hT : IvT S := by rw [← hS]; exact hK.1.1
    have hP : IvP S := by rw [← hS]; exact hK.1.2.1
    have h6 := nP_le hP
    have ok := RSt_ok (k := k) hT hP ha wa ht wt
    have e110 : M.1 110 0 = nI (nP S) := by rw [rm110 hK, hS]; exact nP_eq hP
    obtain ⟨M1, g1, g2, g3, g4⟩ := ev_carries (q := 124) (len := 1024) (a := 16 * j) (b := 16 * (j + 1)) (n := nP S) (k := k) (t := t) (by omega) (by omega) (by omega) (by omega) (by omega) h6 hk hK (by rw [hS]; exact ht) (by rw [hS]; exact wt) e110 (ok j) (hR j (Nat.le_refl _))
    rw [hS] at g2
    have hK1 : KK M1 := KK_sc hK (fun c c1 c2 => g3 c (by omega)) (fun c c1 c2 => g3 c (by omega))
    have hS1 : St M1 = S := by rw [St_sc (fun c c1 c2 => g3 c (by omega)), hS]
    obtain ⟨M2, q1, q2, q3, q4⟩ := ev_carries (q := 124) (len := 1024) (a := 16 * (j + 1)) (b := 16 * (j + 1)) (n := nP S) (k := k) (t := a) (by omega) (by omega) (by omega) (by omega) (by omega) h6 hk hK1 (by rw [hS1]; exact ha) (by rw [hS1]; exact wa) (by rw [g3 110 (by omega)]; exact e110) (stepQ_ok hT ht wt (ok j)) g2
    rw [hS1, ← RSt_s] at q2
    have hR2 : ∀ i, i ≤ j + 1 → RQ (nP S) 124 (16 * i) (RSt S k a t i) M2 := fun i hi => by
      by_cases h : i = j + 1
      · subst h; exact q2
      · exact RQ_fr (hR i (by omega)) h6 (show 16 * i + 16 ≤ 16 * (j + 1) by omega) (fun x hx => by rw [q4 x (Or.inl hx), g4 x (Or.inl hx)])
    have r := r166_go (x4 := x4) (r108 := f_X10_round_108 k (nI a) (nI t) x4 (F + 1)) (m := I) hP (show j + 1 < 64 by omega) (by omega) (fun i hi => by rw [show j + 1 = J by omega]; exact hIn i hi) (Or.inr (by rw [show j + 1 = J by omega]; exact hIe)) hR2 (j + 1) FU 0 (by omega) (FU_of (by omega))
    rw [if_pos (Nat.zero_le _), if_neg (by omega)] at r
    refine ⟨M2, ?_, fun c hc => (q3 c hc).trans (g3 c hc)⟩
    show f_X10_round_108_b (f_X10_round_108 k (nI a) (nI t) x4 (F + 1)) k (nI a) (nI t) x4 (nI (j + 1)) (-1) M = _
    unfold f_X10_round_108_b
    rw [if_neg (show ¬ (0 : Int32) ≤ -1 by decide), nI_pred, i16, i16, g1, cl_s, q1, cl_s]
    refine Eq.trans r ?_
    show f_X10_round_108_b (f_X10_round_108 k (nI a) (nI t) x4 F) k (nI a) (nI t) x4 (nI (j + 1 + 1)) (nI I) M2 = _
    unfold f_X10_round_108_b
    rw [if_pos (nI_pos' (by omega)), nI_pred, show j + 1 = J by omega]
    by_cases h4 : x4 = 0
    · rw [if_pos h4, if_pos h4]
    · rw [if_neg h4, if_neg h4]
  | succ d ih =>
    intro F j M hj hK hS hR hF
    obtain ⟨F, rfl⟩ : ∃ F', F = F' + 1 := ⟨F - 1, by omega⟩
    have hT : IvT S := by rw [← hS]; exact hK.1.1
    have hP : IvP S := by rw [← hS]; exact hK.1.2.1
    have h6 := nP_le hP
    have ok := RSt_ok (k := k) hT hP ha wa ht wt
    have e110 : M.1 110 0 = nI (nP S) := by rw [rm110 hK, hS]; exact nP_eq hP
    obtain ⟨M1, g1, g2, g3, g4⟩ := ev_carries (q := 124) (len := 1024) (a := 16 * j) (b := 16 * (j + 1)) (n := nP S) (k := k) (t := t) (by omega) (by omega) (by omega) (by omega) (by omega) h6 hk hK (by rw [hS]; exact ht) (by rw [hS]; exact wt) e110 (ok j) (hR j (Nat.le_refl _))
    rw [hS] at g2
    have hK1 : KK M1 := KK_sc hK (fun c c1 c2 => g3 c (by omega)) (fun c c1 c2 => g3 c (by omega))
    have hS1 : St M1 = S := by rw [St_sc (fun c c1 c2 => g3 c (by omega)), hS]
    obtain ⟨M2, q1, q2, q3, q4⟩ := ev_carries (q := 124) (len := 1024) (a := 16 * (j + 1)) (b := 16 * (j + 1)) (n := nP S) (k := k) (t := a) (by omega) (by omega) (by omega) (by omega) (by omega) h6 hk hK1 (by rw [hS1]; exact ha) (by rw [hS1]; exact wa) (by rw [g3 110 (by omega)]; exact e110) (stepQ_ok hT ht wt (ok j)) g2
    rw [hS1, ← RSt_s] at q2
    have hK2 : KK M2 := KK_sc hK1 (fun c c1 c2 => q3 c (by omega)) (fun c c1 c2 => q3 c (by omega))
    have hS2 : St M2 = S := by rw [St_sc (fun c c1 c2 => q3 c (by omega)), hS1]
    have hR2 : ∀ i, i ≤ j + 1 → RQ (nP S) 124 (16 * i) (RSt S k a t i) M2 := fun i hi => by
      by_cases h : i = j + 1
      · subst h; exact q2
      · exact RQ_fr (hR i (by omega)) h6 (show 16 * i + 16 ≤ 16 * (j + 1) by omega) (fun x hx => by rw [q4 x (Or.inl hx), g4 x (Or.inl hx)])
    have r := r166_go (x4 := x4) (r108 := f_X10_round_108 k (nI a) (nI t) x4 F) (m := j + 1) hP (show j + 1 < 64 by omega) (Nat.le_refl _) (hno (j + 1) (by omega)) (Or.inl rfl) hR2 (j + 1) FU 0 (by omega) (FU_of (by omega))
    rw [if_pos (Nat.zero_le _), if_pos rfl] at r
    obtain ⟨M', p1, p2⟩ := ih F (j + 1) M2 (by omega) hK2 hS2 hR2 (by omega)
    refine ⟨M', ?_, fun c hc => (p2 c hc).trans ((q3 c hc).trans (g3 c hc))⟩
    show f_X10_round_108_b (f_X10_round_108 k (nI a) (nI t) x4 F) k (nI a) (nI t) x4 (nI (j + 1)) (-1) M = _
    unfold f_X10_round_108_b
    rw [if_neg (show ¬ (0 : Int32) ≤ -1 by decide), nI_pred, i16, i16, g1, cl_s, q1, cl_s]
    exact r.trans p1
theorem op_round (x1 x2 x3 x4 : Int32) : opI gRel (f_X9_round x1 x2 x3 x4) (f_X10_round x1 x2 x3 x4) := by
  intro M hR
  have hK := KK_of hR
  have hT := hK.1.1
  have hP := hK.1.2.1
  have bad : (∀ X : Mem, KK X → St X = St M → f_X9_round x1 x2 x3 x4 X = f_X9_round_45 X) → (∀ X : Mem, KK X → St X = St M → f_X10_round x1 x2 x3 x4 X = f_X10_round_33 X) → ∃ r M1 M2, f_X9_round x1 x2 x3 x4 M = some (r, M1) ∧ f_X10_round x1 x2 x3 x4 M1 = some (r, M2) ∧ gRel M2 := fun hx hm => ⟨-2, rfX 0 M, rfM 0 (rfX 0 M), by rw [hx M hK rfl]; rfl, by rw [hm _ (KK_rfX hK) St_rfX]; rfl, gRel_rf hR⟩
  have no : (∀ X : Mem, KK X → St X = St M → f_X9_round x1 x2 x3 x4 X = f_X9_round_93 X) → (∀ X : Mem, KK X → St X = St M → f_X10_round x1 x2 x3 x4 X = f_X10_round_65 X) → ∃ r M1 M2, f_X9_round x1 x2 x3 x4 M = some (r, M1) ∧ f_X10_round x1 x2 x3 x4 M1 = some (r, M2) ∧ gRel M2 := fun hx hm => ⟨-3, rfX 1 M, rfM 1 (rfX 1 M), by rw [hx M hK rfl]; rfl, by rw [hm _ (KK_rfX hK) St_rfX]; rfl, gRel_rf hR⟩
  have eX : ∀ X : Mem, KK X → St X = St M → f_X9_round x1 x2 x3 x4 X = cond (inR x1 0 5) (cond (tB (St M) x2) (cond (tB (St M) x3) (cond (inR x4 0 1) (if St M 9 0 = 0 then f_X9_round_93 X else cond (spB (St M) x2) (cond (spB (St M) x3) (cl (f_X7_copyFrom 100 14 X) fun _ M1 => f_X9_round_117 x1 x2 x3 x4 FU (1 : Int32) M1) (f_X9_round_93 X)) (f_X9_round_93 X)) (f_X9_round_45 X)) (f_X9_round_45 X)) (f_X9_round_45 X)) (f_X9_round_45 X) := by
    intro X hX hs
    unfold f_X9_round
    rw [ev_isKind, cp_s, if_bI, ev_hasTongue, hs, cp_s, if_bI, ev_hasTongue, hs, cp_s, if_bI, ev_isIn, cp_s, if_bI, k14, hs, ev_hasWords (by rw [hs]; exact hT), hs, cp_s, if_bI, ev_hasWords (by rw [hs]; exact hT), hs, cp_s, if_bI]
  have eM : ∀ X : Mem, KK X → St X = St M → f_X10_round x1 x2 x3 x4 X = cond (inR x1 0 5) (cond (tB (St M) x2) (cond (tB (St M) x3) (cond (inR x4 0 1) (if St M 9 0 = 0 then f_X10_round_65 X else cond (spB (St M) x2) (cond (spB (St M) x3) (f_X10_round_75 x1 x2 x3 x4 FU (0 : Int32) X) (f_X10_round_65 X)) (f_X10_round_65 X)) (f_X10_round_33 X)) (f_X10_round_33 X)) (f_X10_round_33 X)) (f_X10_round_33 X) := by
    intro X hX hs
    unfold f_X10_round
    rw [ev_isKindM, cp_s, if_bI, ev_isTongue hX, hs, cp_s, if_bI, ev_isTongue hX, hs, cp_s, if_bI, ev_between, cp_s, if_bI, rm110 hX, hs, ev_speaks hX, hs, cp_s, if_bI, ev_speaks hX, hs, cp_s, if_bI]
  cases h1 : inR x1 0 5 with
  | false => exact bad (fun X hX hs => by rw [eX X hX hs, h1, cond_f]) (fun X hX hs => by rw [eM X hX hs, h1, cond_f])
  | true =>
  cases h2 : tB (St M) x2 with
  | false => exact bad (fun X hX hs => by rw [eX X hX hs, h1, h2, cond_t, cond_f]) (fun X hX hs => by rw [eM X hX hs, h1, h2, cond_t, cond_f])
  | true =>
  cases h3 : tB (St M) x3 with
  | false => exact bad (fun X hX hs => by rw [eX X hX hs, h1, h2, h3, cond_t, cond_t, cond_f]) (fun X hX hs => by rw [eM X hX hs, h1, h2, h3, cond_t, cond_t, cond_f])
  | true =>
  cases h4 : inR x4 0 1 with
  | false => exact bad (fun X hX hs => by rw [eX X hX hs, h1, h2, h3, h4, cond_t, cond_t, cond_t, cond_f]) (fun X hX hs => by rw [eM X hX hs, h1, h2, h3, h4, cond_t, cond_t, cond_t, cond_f])
  | true =>
  by_cases h5 : St M 9 0 = 0
  · exact no (fun X hX hs => by rw [eX X hX hs, h1, h2, h3, h4, cond_t, cond_t, cond_t, cond_t, if_pos h5]) (fun X hX hs => by rw [eM X hX hs, h1, h2, h3, h4, cond_t, cond_t, cond_t, cond_t, if_pos h5])
  cases h6 : spB (St M) x2 with
  | false => exact no (fun X hX hs => by rw [eX X hX hs, h1, h2, h3, h4, cond_t, cond_t, cond_t, cond_t, if_neg h5, h6, cond_f]) (fun X hX hs => by rw [eM X hX hs, h1, h2, h3, h4, cond_t, cond_t, cond_t, cond_t, if_neg h5, h6, cond_f])
  | true =>
  cases h7 : spB (St M) x3 with
  | false => exact no (fun X hX hs => by rw [eX X hX hs, h1, h2, h3, h4, cond_t, cond_t, cond_t, cond_t, if_neg h5, h6, h7, cond_t, cond_f]) (fun X hX hs => by rw [eM X hX hs, h1, h2, h3, h4, cond_t, cond_t, cond_t, cond_t, if_neg h5, h6, h7, cond_t, cond_f])
  | true =>
  obtain ⟨a, ha, wa, rfl⟩ := (spB_iff hT).mp h6
  obtain ⟨t, ht, wt, rfl⟩ := (spB_iff hT).mp h7
  obtain ⟨J, I, b1, b2, b3, b4, b5⟩ := round_ends (k := x1) (n := nP (St M)) hT ha wa ht
  obtain ⟨M1, g1, g2, g3⟩ := ev_copyQ (k0 := 100) (by omega) (nP_le hP) (CQ_main hP)
  have hS1 : St M1 = St M := St_sc (fun c c1 c2 => g3 c (by omega))
  obtain ⟨M2, q1, q2⟩ := rd_go (x4 := x4) hT hP ha wa ht wt (show J < 64 by omega) b2 b3 b4 b5 (J - 1) FU 0 M1 (by omega) hS1 g2 (FU_of (by omega))
  have fr2 : ∀ c, (c < 100 ∨ 107 < c) → M2.1 c = M.1 c := fun c hc => (q2 c hc).trans (g3 c (by omega))
  have sc2 : Sc M M2 := ⟨fun c c1 c2 => fr2 c (by omega), fun c c1 c2 => fr2 c (by omega), by rw [fr2 108 (by omega)], by rw [fr2 108 (by omega)]⟩
  have hK2 := KK_Sc hK sc2
  have hS2 : St M2 = St M := St_Sc sc2
  obtain ⟨M3, p1, p2, p3⟩ := r75_go (k := x1) (x2 := nI a) (x3 := nI t) (x4 := x4) 16 FU 0 M2 (by omega) (FU_of (by omega))
  have hK3 : KK M3 := KK_sc hK2 (fun c c1 c2 => p3 c (by omega)) (fun c c1 c2 => p3 c (by omega))
  have hS3 : St M3 = St M := by rw [St_sc (fun c c1 c2 => p3 c (by omega)), hS2]
  have r0 : RQ (nP (St M)) 124 0 (Q0 (St M)) M3 := by
    have h117 := RQ_117 hK2
    rw [hS2] at h117
    obtain ⟨z1, z2, z3⟩ := h117
    have cp : ∀ x, x < 16 → M3.1 124 x = M2.1 117 x := fun x hx => by rw [p2, if_pos (by omega)]
    have hp6 := nP_le hP
    refine ⟨fun p hp => ?_, fun p hp hp2 => ?_, fun f hf => ?_⟩
    · rw [cp _ (by omega), cp _ (by omega)]; exact z1 p hp
    · rw [cp _ (by omega), cp _ (by omega)]; exact z2 p hp hp2
    · rw [cp _ (by omega)]; exact z3 f hf
  obtain ⟨M4, s1, s2⟩ := r108_go (x4 := x4) (kind_U h1) ha wa ht wt (show J < 63 by omega) b2 b3 b4 b5 (J - 1) FU 0 M3 (by omega) hK3 hS3 (fun i hi => by
    obtain rfl : i = 0 := by omega
    exact r0) (FU_of (by omega))
  have sc4 : Sc M2 M4 := ⟨fun c c1 c2 => (s2 c (by omega)).trans (p3 c (by omega)), fun c c1 c2 => (s2 c (by omega)).trans (p3 c (by omega)), by rw [s2 108 (by omega), p3 108 (by omega)], by rw [s2 108 (by omega), p3 108 (by omega)]⟩
  refine ⟨if x4 = 0 then nI I else nI J - nI I, M2, M4, ?_, ?_, gRel_sc (gRel_sc hR sc2) sc4⟩
  · rw [eX M hK rfl, h1, h2, h3, h4, cond_t, cond_t, cond_t, cond_t, if_neg h5, h6, h7, cond_t, cond_t, g1, cl_s]
    exact q1
  · rw [eM M2 hK2 hS2, h1, h2, h3, h4, cond_t, cond_t, cond_t, cond_t, if_neg h5, h6, h7, cond_t, cond_t]
    exact p1.trans s1
