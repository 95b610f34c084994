/-! the rows, gone through by the one -/
theorem Qs_cong {S : Nat → Nat → Int32} {T T' K : Nat → Int32} : ∀ i, (∀ j, j < i → T' j = T j) → Qs S T' K i = Qs S T K i := by
  intro i
  induction i with
  | zero => intro _; rfl
  | succ i ih =>
    intro h
    show stepQ S (K i) (tI T' i) (Qs S T' K i) = stepQ S (K i) (tI T i) (Qs S T K i)
    rw [ih (fun j hj => h j (by omega))]
    unfold tI
    rw [h i (by omega)]
/-- the states of a row -/
def QR (S : Nat → Nat → Int32) (k : Int32) (r : Nat → Nat) (i : Nat) : Nat → Nat → Int32 := Qs S (fun j => nI (r j)) (fun _ => k) i
theorem QR_cong {S : Nat → Nat → Int32} {k : Int32} {r r' : Nat → Nat} {i : Nat} (h : ∀ j, j < i → r' j = r j) : QR S k r' i = QR S k r i := Qs_cong i (fun j hj => by rw [h j hj])
theorem QR_s {S : Nat → Nat → Int32} {k : Int32} {r : Nat → Nat} {i : Nat} (h : r i < 100) : QR S k r (i + 1) = stepQ S k (r i) (QR S k r i) := by
  show stepQ S k (tI (fun j => nI (r j)) i) (QR S k r i) = _
  have : tI (fun j => nI (r j)) i = r i := by unfold tI; rw [nI_clamp (by omega)]
  rw [this]
theorem QR_ok {S : Nat → Nat → Int32} (hT : IvT S) (hP : IvP S) {k : Int32} {r : Nat → Nat} : ∀ i, (∀ j, j < i → r j < nT S ∧ 0 < nW S (r j)) → QOk (nP S) (QR S k r i) := by
  have h6 := nT_le hT
  intro i
  induction i with
  | zero => intro _; exact Q0_ok hP
  | succ i ih =>
    intro h
    obtain ⟨h1, h2⟩ := h i (by omega)
    rw [QR_s (by omega)]
    exact stepQ_ok hT h1 h2 (ih (fun j hj => h j (by omega)))
def RW (S : Nat → Nat → Int32) (k : Int32) (L : Nat) (r : Nat → Nat) (M : Mem) : Prop := M.1 72 3 = nI L ∧ M.1 72 4 = k ∧ (∀ i, i < L → M.1 73 i = nI (r i)) ∧ ∀ i, i ≤ L → CQ (nP S) (76 + 4 * i) (QR S k r i) M
theorem RW_fr {S : Nat → Nat → Int32} {k : Int32} {L : Nat} {r : Nat → Nat} {M M' : Mem} (h : RW S k L r M) (hL : L ≤ 4) (e : ∀ c, 72 ≤ c → c ≤ 95 → c ≠ 74 → c ≠ 75 → M'.1 c = M.1 c) : RW S k L r M' := by
  obtain ⟨h1, h2, h3, h4⟩ := h
  refine ⟨?_, ?_, fun i hi => ?_, fun i hi => CQ_fr (h4 i hi) (fun c c1 c2 => e c (by omega) (by omega) (by omega) (by omega))⟩
  · rw [e 72 (by omega) (by omega) (by omega) (by omega)]; exact h1
  · rw [e 72 (by omega) (by omega) (by omega) (by omega)]; exact h2
  · rw [e 73 (by omega) (by omega) (by omega) (by omega)]; exact h3 i hi
theorem goFrom_go {S : Nat → Nat → Int32} {k : Int32} {L : Nat} {r : Nat → Nat} (hT : IvT S) (hP : IvP S) (hL : L ≤ 4) (hr : ∀ i, i < L → r i < nT S ∧ 0 < nW S (r i)) : ∀ (d F x : Nat) (M : Mem), St M = S → x + d = L → M.1 72 3 = nI L → M.1 72 4 = k → (∀ i, i < L → M.1 73 i = nI (r i)) → (∀ i, i ≤ x → CQ (nP S) (76 + 4 * i) (QR S k r i) M) → d < F → ∃ M', f_X6_goFrom_2 F (nI x) M = some ((), M') ∧ RW S k L r M' ∧ ∀ c, (c < 80 ∨ 95 < c) → M'.1 c = M.1 c := by
  have h6 := nT_le hT
  have hp6 := nP_le hP
  intro d
  induction d with
  | zero =>
    intro F x M hS hx h1 h2 h3 h4 hF
    obtain ⟨F, rfl⟩ : ∃ F', F = F' + 1 := ⟨F - 1, by omega⟩
    refine ⟨M, ?_, ⟨h1, h2, h3, fun i hi => h4 i (by omega)⟩, fun _ _ => rfl⟩
    show f_X6_goFrom_2_b (f_X6_goFrom_2 F) (nI x) M = _
    unfold f_X6_goFrom_2_b
    rw [h1, if_pos (nI_le (by omega) (by omega))]
  | succ d ih =>
    intro F x M hS hx h1 h2 h3 h4 hF
    obtain ⟨F, rfl⟩ : ∃ F', F = F' + 1 := ⟨F - 1, by omega⟩
    obtain ⟨M1, g1, g2, g3⟩ := ev_copyQ (k0 := 76 + 4 * (x + 1)) (by omega) hp6 (h4 x (Nat.le_refl _))
    have hS1 : St M1 = S := by rw [St_sc (fun c c1 c2 => g3 c (by omega)), hS]
    obtain ⟨r1, r2⟩ := hr x (by omega)
    have g2' : CQ (nP (St M1)) (76 + 4 * (x + 1)) (QR S k r x) M1 := by rw [hS1]; exact g2
    obtain ⟨M2, q1, q2, q3⟩ := ev_carry (k := k) (t := r x) (by omega) (by rw [hS1]; exact hp6) (by rw [hS1]; exact hT) (by rw [hS1]; exact r1) (by rw [hS1]; exact r2) g2'
    rw [hS1] at q2
    have hS2 : St M2 = S := by rw [St_sc (fun c c1 c2 => q3 c (by omega) (by omega) (by omega)), hS1]
    have fr : ∀ c, (c < 76 + 4 * (x + 1) ∨ 76 + 4 * (x + 1) + 3 < c) → M2.1 c = M.1 c := fun c hc => (q3 c (by omega) (by omega) (by omega)).trans (g3 c hc)
    obtain ⟨M', p1, p2, p3⟩ := ih F (x + 1) M2 hS2 (by omega) (by rw [fr 72 (by omega)]; exact h1) (by rw [fr 72 (by omega)]; exact h2) (fun i hi => by rw [fr 73 (by omega)]; exact h3 i hi) (fun i hi => by
      by_cases hix : i = x + 1
      · subst hix; rw [QR_s (by omega)]; exact q2
      · exact CQ_fr (h4 i (by omega)) (fun c c1 c2 => fr c (by omega))) (by omega)
    refine ⟨M', ?_, p2, fun c hc => (p3 c hc).trans (fr c (by omega))⟩
    show f_X6_goFrom_2_b (f_X6_goFrom_2 F) (nI x) M = _
    unfold f_X6_goFrom_2_b
    rw [h1, if_neg (nI_ge (by omega) (by omega)), nI_1, ck_n (by omega), ck_n (by omega), nI_clamp (by omega), nI_clamp (by omega), g1, cl_s, ck_n (by omega), rd_n (by omega), g3 73 (by omega), h3 x (by omega), g3 72 (by omega), h2, q1, cl_s, p1]
theorem ev_goFrom {S : Nat → Nat → Int32} {k : Int32} {L x : Nat} {r : Nat → Nat} {M : Mem} (hT : IvT S) (hP : IvP S) (hL : L ≤ 4) (hr : ∀ i, i < L → r i < nT S ∧ 0 < nW S (r i)) (hS : St M = S) (hx : x ≤ L) (h1 : M.1 72 3 = nI L) (h2 : M.1 72 4 = k) (h3 : ∀ i, i < L → M.1 73 i = nI (r i)) (h4 : ∀ i, i ≤ x → CQ (nP S) (76 + 4 * i) (QR S k r i) M) : ∃ M', f_X6_goFrom (nI x) M = some ((), M') ∧ RW S k L r M' ∧ ∀ c, (c < 80 ∨ 95 < c) → M'.1 c = M.1 c := by
  unfold f_X6_goFrom
  exact goFrom_go hT hP hL hr (L - x) FU x M hS (by omega) h1 h2 h3 h4 (FU_of (by omega))
theorem ck_50 {α : Type} {K : Option α} : ck 5 0 K = K := ck_n (i := 0) (by omega)
theorem vI_some {t : Nat} : vI (some t) = nI t := rfl
theorem nI_m1 {t : Nat} (h : t < 100) : ¬ nI t = -1 := by
  have : ∀ t, t < 100 → ¬ nI t = -1 := by decide +kernel
  exact this t h
theorem fill2_go {n b : Nat} {v : Int32} (hb : b ≤ 4) : ∀ (d F i : Nat) (M : Mem), i + d = b → d < F → ∃ M', f_J7_fill_fda19_10 73 4 (nI b) v F (nI i) M = some ((), M') ∧ (∀ j, M'.1 73 j = if i ≤ j ∧ j < b then v else M.1 73 j) ∧ ∀ c, c ≠ 73 → M'.1 c = M.1 c := by
  intro d
  induction d with
  | zero =>
    intro F i M hi hF
    obtain ⟨F, rfl⟩ : ∃ F', F = F' + 1 := ⟨F - 1, by omega⟩
    refine ⟨M, ?_, fun j => by rw [if_neg (by omega)], fun _ _ => rfl⟩
    show f_J7_fill_fda19_10_b 73 4 (f_J7_fill_fda19_10 73 4 (nI b) v F) (nI b) v (nI i) M = _
    unfold f_J7_fill_fda19_10_b
    rw [if_pos (nI_le (by omega) (by omega))]
  | succ d ih =>
    intro F i M hi hF
    obtain ⟨F, rfl⟩ : ∃ F', F = F' + 1 := ⟨F - 1, by omega⟩
    obtain ⟨M', g1, g2, g3⟩ := ih F (i + 1) (mset M 73 i v) (by omega) (by omega)
    refine ⟨M', ?_, fun j => ?_, fun c hc => by rw [g3 c hc, mset_ne hc]⟩
    · show f_J7_fill_fda19_10_b 73 4 (f_J7_fill_fda19_10 73 4 (nI b) v F) (nI b) v (nI i) M = _
      unfold f_J7_fill_fda19_10_b
      rw [if_neg (nI_ge (by omega) (by omega)), ck_n (by omega), stm_s, nI_clamp (by omega), nI_1, g1]
    · rw [g2, mset_at]
      by_cases h : i + 1 ≤ j ∧ j < b
      · rw [if_pos h, if_pos (by omega)]
      · rw [if_neg h]
        by_cases h2 : j = i
        · rw [if_pos ⟨rfl, h2⟩, if_pos (by omega)]
        · rw [if_neg (by omega), if_neg (by omega)]
theorem ev_fill2 {a b : Nat} {v : Int32} {M : Mem} (ha : a ≤ b) (hb : b ≤ 4) : ∃ M', f_J7_fill_fda19 73 4 (nI a) (nI b) v M = some ((), M') ∧ (∀ j, M'.1 73 j = if a ≤ j ∧ j < b then v else M.1 73 j) ∧ ∀ c, c ≠ 73 → M'.1 c = M.1 c := by
  unfold f_J7_fill_fda19 f_J7_rangeCheck_23922
  rw [if_pos (nI_le ha (by omega)), if_pos (nI_pos' (by omega)), if_pos (show nI b ≤ Int32.ofNat 4 from nI_le (b := 4) hb (by omega)), cp_s]
  exact fill2_go (n := 0) hb (b - a) FU a M (by omega) (FU_of (by omega))
def goR (S : Nat → Nat → Int32) (k : Int32) (L : Nat) (o : Option Nat) (M : Mem) (b : Int32) (M' : Mem) : Prop := match o with
  | some c' => b = 1 ∧ RW S k L (dg S L c') M'
  | none => b = 0 ∧ M' = M
theorem goOn_go {S : Nat → Nat → Int32} {k : Int32} {L c : Nat} (hT : IvT S) (hP : IvP S) (hL : L ≤ 4) (hv : vld S L c = true) (hc : c < nT S ^ L) : ∀ (x F q : Nat) (M : Mem), St M = S → RW S k L (dg S L c) M → x ≤ L → (∀ i, i < x → dg S L c i = dg S x q i) → (nxt S L c = match nxt S x q with | some q' => some (ext S (L - x) q') | none => none) → x < F → ∃ b M', f_X6_goOn_7 F (nI x - 1) M = some (b, M') ∧ goR S k L (nxt S L c) M b M' ∧ ∀ c, (c < 73 ∨ 95 < c ∨ c = 74 ∨ c = 75) → M'.1 c = M.1 c := by
  have h6 := nT_le hT
  have hp6 := nP_le hP
  intro x
  induction x with
  | zero =>
    intro F q M hS h hx hd hn hF
    obtain ⟨F, rfl⟩ : ∃ F', F = F' + 1 := ⟨F - 1, by omega⟩
    refine ⟨0, M, ?_, ?_, fun _ _ => rfl⟩
    · show f_X6_goOn_7_b (f_X6_goOn_7 F) (nI 0 - 1) M = _
      unfold f_X6_goOn_7_b
      rw [if_pos (by decide)]
    · rw [hn]
      show (match nxt S 0 q with | some q' => some (ext S (L - 0) q') | none => none) |> fun o => goR S k L o M 0 M
      exact ⟨rfl, rfl⟩
  | succ y ih =>
    intro F q M hS h hx hd hn hF
    obtain ⟨F, rfl⟩ : ∃ F', F = F' + 1 := ⟨F - 1, by omega⟩
    have hn0 : 0 < nT S := by
      rcases Nat.eq_zero_or_pos (nT S) with h0 | h0
      · have : L = (L - 1) + 1 := by omega
        rw [h0, this, Nat.pow_succ, Nat.mul_zero] at hc; omega
      · exact h0
    obtain ⟨h1, h2, h3, h4⟩ := id h
    have hdy : dg S L c y = q % nT S := by rw [hd y (by omega), dg_s, if_pos rfl]
    have hdlt : ∀ i, dg S L c i < nT S := dg_lt hn0 L c
    have hdv : ∀ i, i < L → vc S (dg S L c i) = true := fun i hi => dg_vc L c i hv hi
    obtain ⟨f1, f2, f3, f4⟩ := fV_spec (hdlt y) (hdv y (by omega))
    have e73 : M.1 73 y = nI (q % nT S) := by rw [h3 y (by omega), hdy]
    have hvo : f_X1_voiceBehind (nI (q % nT S)) M = some (vI (vb S (q % nT S + 1))) := by
      have := ev_voice (M := M) (x := nI (q % nT S)) (j := q % nT S + 1) (by rw [hS]; exact hT) (nI_1 _) (by rw [← hdy]; have := hdlt y; omega)
      rw [hS] at this; exact this
    cases hb : vb S (q % nT S + 1) with
    | none =>
      rw [hb] at hvo
      obtain ⟨b, M', g1, g2, g3⟩ := ih F (q / nT S) M hS h (by omega) (fun i hi => by rw [hd i (by omega), dg_s, if_neg (by omega)]) (by
        rw [hn, nxt_none hb]
        cases nxt S y (q / nT S) with
        | none => rfl
        | some q' =>
          show some (ext S (L - (y + 1)) (q' * nT S + fV S)) = some (ext S (L - y) q')
          rw [show L - y = L - (y + 1) + 1 by omega, ext_s]) (by omega)
      refine ⟨b, M', ?_, g2, g3⟩
      show f_X6_goOn_7_b (f_X6_goOn_7 F) (nI (y + 1) - 1) M = _
      unfold f_X6_goOn_7_b
      rw [nI_pred, if_neg (nI_pos (by omega)), rd_n (by omega), e73, hvo, cp_s, if_pos (show vI none = -1 from rfl), add_m1, g1]
    | some v =>
      rw [hb] at hvo
      obtain ⟨g1, g2, g3, g4⟩ := vb_some (S := S) (if q % nT S + 1 ≤ nT S then nT S - (q % nT S + 1) else 0) (q % nT S + 1) v (by have := hdlt y; rw [hdy] at this; split <;> omega) hb
      have hn' : nxt S L c = some (ext S (L - (y + 1)) (q / nT S * nT S + v)) := by rw [hn, nxt_some hb]
      obtain ⟨s1, s2⟩ := nxt_spec L c hc hv
      obtain ⟨s3, s4, s5, s6⟩ := s1 _ hn'
      rw [hn']
      generalize hcc : ext S (L - (y + 1)) (q / nT S * nT S + v) = c' at *
      have hdg : ∀ i, i < L → dg S L c' i = if i < y then dg S L c i else if i = y then v else fV S := by
        intro i hi
        have := dg_ext f1 (L - (y + 1)) (y + 1) (q / nT S * nT S + v) i
        rw [show y + 1 + (L - (y + 1)) = L by omega, hcc] at this
        rw [this]
        by_cases i1 : i < y
        · rw [if_pos i1, if_pos (by omega), dg_s, if_neg (by omega), dm1 g2, hd i (by omega), dg_s, if_neg (by omega)]
        · rw [if_neg i1]
          by_cases i2 : i = y
          · rw [if_pos i2, if_pos (by omega), dg_s, if_pos i2, dm2 g2]
          · rw [if_neg i2, if_neg (by omega), if_pos hi]
      let M1 := mset M 73 y (nI v)
      have hS1 : St M1 = S := by show St (mset M 73 y (nI v)) = S; rw [St_set (by omega), hS]
      have hvo2 : f_X1_voiceBehind (-1) M1 = some (nI (fV S)) := by
        have := ev_voice (M := M1) (x := -1) (j := 0) (by rw [hS1]; exact hT) (by decide) (by omega)
        rw [hS1, f4] at this; exact this
      obtain ⟨M2, a1, a2, a3⟩ := ev_fill2 (a := y + 1) (b := L) (v := nI (fV S)) (M := M1) (by omega) hL
      have hS2 : St M2 = S := by rw [St_sc (fun c c1 c2 => a3 c (by omega)), hS1]
      have frM : ∀ c, c ≠ 73 → M2.1 c = M.1 c := fun c hc => by rw [a3 c hc]; show (mset M 73 y (nI v)).1 c = _; rw [mset_ne hc]
      have e73' : ∀ i, i < L → M2.1 73 i = nI (dg S L c' i) := fun i hi => by
        rw [a2, hdg i hi]
        show (if y + 1 ≤ i ∧ i < L then nI (fV S) else (mset M 73 y (nI v)).1 73 i) = _
        by_cases i1 : i < y
        · rw [if_neg (by omega), if_pos i1, mset_at, if_neg (by omega), h3 i hi]
        · by_cases i2 : i = y
          · rw [if_neg (by omega), if_neg i1, if_pos i2, mset_at, if_pos ⟨rfl, i2⟩]
          · rw [if_pos (by omega), if_neg i1, if_neg i2]
      obtain ⟨M3, b1, b2, b3⟩ := ev_goFrom (S := S) (k := k) (L := L) (x := y) (r := dg S L c') (M := M2) hT hP hL (fun i hi => ⟨dg_lt hn0 L c' i, by have := dg_vc L c' i s5 hi; unfold vc at this; simpa using this⟩) hS2 (by omega) (by rw [frM 72 (by omega)]; exact h1) (by rw [frM 72 (by omega)]; exact h2) e73' (fun i hi => by
        rw [QR_cong (r := dg S L c) (fun j hj => by rw [hdg j (by omega), if_pos (by omega)])]
        exact CQ_fr (h4 i (by omega)) (fun c c1 c2 => frM c (by omega)))
      refine ⟨1, M3, ?_, ⟨rfl, b2⟩, fun c hc => by rw [b3 c (by omega), frM c (by omega)]⟩
      show f_X6_goOn_7_b (f_X6_goOn_7 F) (nI (y + 1) - 1) M = _
      unfold f_X6_goOn_7_b
      have e72 : M1.1 72 3 = nI L := by show (mset M 73 y (nI v)).1 72 3 = _; rw [mset_ne (by omega)]; exact h1
      rw [nI_pred, if_neg (nI_pos (by omega)), rd_n (by omega), e73, hvo, cp_s, vI_some, if_neg (nI_m1 (by omega)), ck_n (by omega), stm_s, nI_clamp (by omega), hvo2, cp_s, e72, nI_1, a1, cl_s, b1, cl_s]
theorem ev_goOn {S : Nat → Nat → Int32} {k : Int32} {L c : Nat} {M : Mem} (hT : IvT S) (hP : IvP S) (hL : L ≤ 4) (hv : vld S L c = true) (hc : c < nT S ^ L) (hS : St M = S) (h : RW S k L (dg S L c) M) : ∃ b M', f_X6_goOn M = some (b, M') ∧ goR S k L (nxt S L c) M b M' ∧ ∀ c, (c < 73 ∨ 95 < c ∨ c = 74 ∨ c = 75) → M'.1 c = M.1 c := by
  unfold f_X6_goOn
  rw [h.1]
  exact goOn_go hT hP hL hv hc L FU c M hS h (Nat.le_refl _) (fun i _ => rfl) (by
    rw [show L - L = 0 by omega]
    cases nxt S L c <;> rfl) (FU_of (by omega))
theorem ev_begin {k : Int32} {L : Nat} {M : Mem} (hT : IvT (St M)) (hP : IvP (St M)) (hL : L ≤ 4) : ∃ M', f_X6_begin k (nI L) M = some ((if 0 < L ∧ vb (St M) 0 = none then 0 else 1), M') ∧ ((0 < L → vb (St M) 0 ≠ none) → RW (St M) k L (dg (St M) L (cf (St M) L)) M') ∧ ∀ c, (c < 72 ∨ 95 < c ∨ c = 74 ∨ c = 75) → M'.1 c = M.1 c := by
  have h6 := nT_le hT
  have hp6 := nP_le hP
  let M2 := mset (mset M 72 3 (nI L)) 72 4 k
  have hS2 : St M2 = St M := by show St (mset (mset M 72 3 (nI L)) 72 4 k) = _; rw [St_set (by omega), St_set (by omega)]
  obtain ⟨M3, g1, g2, g3⟩ := ev_copyQ (k0 := 76) (by omega) (nP_le (by rw [hS2]; exact hP)) (CQ_main (M := M2) (by rw [hS2]; exact hP))
  rw [hS2] at g2
  have hS3 : St M3 = St M := by rw [St_sc (fun c c1 c2 => g3 c (by omega)), hS2]
  have fr3 : ∀ c, (c < 72 ∨ 79 < c ∨ c = 73 ∨ c = 74 ∨ c = 75) → M3.1 c = M.1 c := fun c hc => by
    rw [g3 c (by omega)]; show (mset (mset M 72 3 (nI L)) 72 4 k).1 c = _; rw [mset_ne (by omega), mset_ne (by omega)]
  have e723 : M3.1 72 3 = nI L := by rw [g3 72 (by omega)]; show (mset (mset M 72 3 (nI L)) 72 4 k).1 72 3 = _; rw [mset_at, if_neg (by omega), mset_at, if_pos ⟨rfl, rfl⟩]
  have e724 : M3.1 72 4 = k := by rw [g3 72 (by omega)]; show (mset (mset M 72 3 (nI L)) 72 4 k).1 72 4 = _; rw [mset_at, if_pos ⟨rfl, rfl⟩]
  have hvo : f_X1_voiceBehind (-1) M3 = some (vI (vb (St M) 0)) := by
    have := ev_voice (M := M3) (x := -1) (j := 0) (by rw [hS3]; exact hT) (by decide) (by omega)
    rw [hS3] at this; exact this
  have eX : f_X6_begin k (nI L) M = if nI L ≤ 0 then f_X6_begin_59 (vI (vb (St M) 0)) M3 else if vI (vb (St M) 0) = -1 then some (0, M3) else f_X6_begin_59 (vI (vb (St M) 0)) M3 := by
    unfold f_X6_begin
    rw [ev_isIn, show inR (nI L) 0 4 = decide (0 ≤ L ∧ L ≤ 4) from inR_dec (a := 0) (b := 4) (by omega) (by omega) (by omega), decide_eq_true ⟨Nat.zero_le _, hL⟩, cp_s, if_bI, cond_t, stm_s, stm_s, ck_50]
    have : (0 : Int32).toNatClampNeg = 0 := by decide
    rw [this, g1, cl_s, hvo, cp_s, e723]
  have e59 : (0 < L → vb (St M) 0 ≠ none) → ∃ M', f_X6_begin_59 (vI (vb (St M) 0)) M3 = some (1, M') ∧ RW (St M) k L (dg (St M) L (cf (St M) L)) M' ∧ ∀ c, (c < 72 ∨ 95 < c ∨ c = 74 ∨ c = 75) → M'.1 c = M.1 c := by
    intro hne
    have hS4 : St (mfill M3 73 4 (vI (vb (St M) 0))) = St M := by rw [St_sc (fun c c1 c2 => mfill_ne (by omega)), hS3]
    have hdig : ∀ i, i < L → vI (vb (St M) 0) = nI (dg (St M) L (cf (St M) L) i) ∧ dg (St M) L (cf (St M) L) i < nT (St M) ∧ 0 < nW (St M) (dg (St M) L (cf (St M) L) i) := by
      intro i hi
      cases hv : vb (St M) 0 with
      | none => exact absurd hv (hne (by omega))
      | some f =>
        obtain ⟨a1, a2, a3, a4⟩ := vb_some (nT (St M)) 0 f (by omega) hv
        have hf : fV (St M) = f := by unfold fV; rw [hv]; rfl
        have := (cf_spec (S := St M) (by rw [hf]; exact a2) (by rw [hf]; unfold vc; exact decide_eq_true a3) (fun u hu => by unfold vc; exact decide_eq_false (a4 u (by omega) (by omega))) L).2.2.2 i hi
        rw [this, hf]
        exact ⟨rfl, a2, a3⟩
    obtain ⟨M5, b1, b2, b3⟩ := ev_goFrom (S := St M) (k := k) (L := L) (x := 0) (r := dg (St M) L (cf (St M) L)) (M := mfill M3 73 4 (vI (vb (St M) 0))) hT hP hL (fun i hi => (hdig i hi).2) hS4 (by omega) (by rw [mfill_ne (by omega)]; exact e723) (by rw [mfill_ne (by omega)]; exact e724) (fun i hi => by rw [mfill_at, if_pos ⟨rfl, by omega⟩]; exact (hdig i hi).1) (fun i hi => by
      obtain rfl : i = 0 := by omega
      exact CQ_fr g2 (fun c c1 c2 => mfill_ne (by omega)))
    refine ⟨M5, ?_, b2, fun c hc => by rw [b3 c (by omega), mfill_ne (by omega), fr3 c (by omega)]⟩
    unfold f_X6_begin_59
    rw [ev_fill (n := 4), cl_s]
    have : f_X6_goFrom 0 (mfill M3 73 4 (vI (vb (St M) 0))) = some ((), M5) := b1
    rw [this, cl_s]
  rw [eX]
  by_cases hL0 : L = 0
  · subst hL0
    obtain ⟨M', p1, p2, p3⟩ := e59 (fun h => absurd h (by omega))
    exact ⟨M', by rw [if_pos (by decide), if_neg (by omega), p1], fun _ => p2, p3⟩
  · rw [if_neg (nI_nle (by omega) (by omega))]
    cases hv : vb (St M) 0 with
    | none =>
      refine ⟨M3, by rw [if_pos (show vI none = -1 from rfl), if_pos ⟨by omega, rfl⟩], fun h => absurd rfl (h (by omega)), fun c hc => fr3 c (by omega)⟩
    | some f =>
      obtain ⟨a1, a2, a3, a4⟩ := vb_some (nT (St M)) 0 f (by omega) hv
      obtain ⟨M', p1, p2, p3⟩ := e59 (fun _ h => by rw [hv] at h; cases h)
      rw [hv] at p1
      exact ⟨M', by rw [vI_some, if_neg (nI_m1 (by omega)), if_neg (fun h => by cases h.2)]; exact p1, fun _ => p2, p3⟩
