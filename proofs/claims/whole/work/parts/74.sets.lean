/-! sets of words -/
def bdP (S : Nat → Nat → Int32) (j : Nat) : Bool := decide (tot S (2 + j) < tot S (26 + j) * 2)
def cjs (S : Nat → Nat → Int32) : Nat → Nat → (Nat → Nat) → Nat → Nat
  | 0, _, a => a
  | d + 1, j, a => cjs S d (j + 1) (cond (bdP S j) a (fun i => if a i = a (pB S j) then a (pA S j) else a i))
theorem cjs_s {S : Nat → Nat → Int32} {d j : Nat} {a : Nat → Nat} : cjs S (d + 1) j a = cjs S d (j + 1) (cond (bdP S j) a (fun i => if a i = a (pB S j) then a (pA S j) else a i)) := rfl
def rjs (S : Nat → Nat → Int32) : Nat → Nat → (Nat → Nat) → Nat → Nat
  | 0, _, b => b
  | d + 1, j, b => rjs S d (j + 1) (cond (bdP S j) b (fun i => if b i = b (pA S j) then b (pB S j) else b i))
theorem rjs_s {S : Nat → Nat → Int32} {d j : Nat} {b : Nat → Nat} : rjs S (d + 1) j b = rjs S d (j + 1) (cond (bdP S j) b (fun i => if b i = b (pA S j) then b (pB S j) else b i)) := rfl
theorem join_go {x1 x2 : Nat} {a : Nat → Nat} (h1 : x1 < 48) (h2 : x2 < 48) (ha : ∀ i, i < 48 → a i < 48) : ∀ (d F i : Nat) (M : Mem), i + d = 48 → (∀ k, k < 48 → M.1 99 k = nI (if k < i ∧ a k = x2 then x1 else a k)) → d < F → ∃ M', f_X4_join_2 (nI x1) (nI x2) F (nI i) M = some ((), M') ∧ (∀ k, k < 48 → M'.1 99 k = nI (if a k = x2 then x1 else a k)) ∧ ∀ c, c ≠ 99 → M'.1 c = M.1 c := by
  intro d
  induction d with
  | zero =>
    intro F i M hi hM hF
    obtain ⟨F, rfl⟩ : ∃ F', F = F' + 1 := ⟨F - 1, by omega⟩
    refine ⟨M, ?_, fun k hk => ?_, fun _ _ => rfl⟩
    · show f_X4_join_2_b (f_X4_join_2 (nI x1) (nI x2) F) (nI x1) (nI x2) (nI i) M = _
      unfold f_X4_join_2_b
      rw [if_pos (show (48 : Int32) ≤ nI i from nI_le (a := 48) (by omega) (by omega))]
    · rw [hM k hk]
      by_cases h : a k = x2
      · rw [if_pos ⟨by omega, h⟩, if_pos h]
      · rw [if_neg (fun z => h z.2), if_neg h]
  | succ d ih =>
    intro F i M hi hM hF
    obtain ⟨F, rfl⟩ : ∃ F', F = F' + 1 := ⟨F - 1, by omega⟩
    have e99 : M.1 99 i = nI (a i) := by rw [hM i (by omega), if_neg (by omega)]
    have hai := ha i (by omega)
    have eX : f_X4_join_2 (nI x1) (nI x2) (F + 1) (nI i) M = if nI (a i) = nI x2 then f_X4_join_2 (nI x1) (nI x2) F (nI (i + 1)) (mset M 99 i (nI x1)) else f_X4_join_2 (nI x1) (nI x2) F (nI (i + 1)) M := by
      show f_X4_join_2_b (f_X4_join_2 (nI x1) (nI x2) F) (nI x1) (nI x2) (nI i) M = _
      unfold f_X4_join_2_b f_X4_join_25
      rw [if_neg (show ¬ (48 : Int32) ≤ nI i from nI_ge (b := 48) (by omega) (by omega)), rd_n (by omega), e99, ck_n (by omega), stm_s, nI_clamp (show i < 2 ^ 31 by omega), nI_1]
    rw [eX]
    by_cases h : a i = x2
    · rw [if_pos (congrArg nI h)]
      obtain ⟨M', p1, p2, p3⟩ := ih F (i + 1) (mset M 99 i (nI x1)) (by omega) (fun k hk => by
        rw [mset_at]
        by_cases g : k = i
        · rw [if_pos ⟨rfl, g⟩, if_pos ⟨by omega, by rw [g]; exact h⟩]
        · rw [if_neg (fun z => g z.2), hM k hk]
          by_cases g2 : k < i ∧ a k = x2
          · rw [if_pos g2, if_pos ⟨by omega, g2.2⟩]
          · rw [if_neg g2, if_neg (fun z => g2 ⟨by omega, z.2⟩)]) (by omega)
      exact ⟨M', p1, p2, fun c hc => by rw [p3 c hc, mset_ne hc]⟩
    · rw [if_neg (fun z => h (nI_inj (by omega) (by omega) z))]
      exact ih F (i + 1) M (by omega) (fun k hk => by
        rw [hM k hk]
        by_cases g2 : k < i ∧ a k = x2
        · rw [if_pos g2, if_pos ⟨by omega, g2.2⟩]
        · by_cases g : k = i
          · rw [if_neg g2, if_neg (fun z => h (by rw [← g]; exact z.2))]
          · rw [if_neg g2, if_neg (fun z => g2 ⟨by omega, z.2⟩)]) (by omega)
theorem ev_join {x1 x2 : Nat} {a : Nat → Nat} {M : Mem} (h1 : x1 < 48) (h2 : x2 < 48) (ha : ∀ i, i < 48 → a i < 48) (hM : ∀ k, k < 48 → M.1 99 k = nI (a k)) : ∃ M', f_X4_join (nI x1) (nI x2) M = some ((), M') ∧ (∀ k, k < 48 → M'.1 99 k = nI (if a k = x2 then x1 else a k)) ∧ ∀ c, c ≠ 99 → M'.1 c = M.1 c := by
  unfold f_X4_join
  exact join_go h1 h2 ha 48 FU 0 M (by omega) (fun k hk => by rw [hM k hk, if_neg (by omega)]) (FU_of (by omega))
theorem js23_go {S : Nat → Nat → Int32} (hT : IvT S) (hQ : IvQ S) : ∀ (d F j : Nat) (M : Mem) (a : Nat → Nat), St M = S → CN (tot S) M → j + d = nQ S → (∀ i, i < 48 → a i < 48) → (∀ k, k < 48 → M.1 99 k = nI (a k)) → d < F → ∃ M', f_X4_joinSets_23 F (nI j) M = some ((), M') ∧ (∀ k, k < 48 → M'.1 99 k = nI (cjs S d j a k)) ∧ (∀ i, i < 48 → cjs S d j a i < 48) ∧ ∀ c, c ≠ 99 → M'.1 c = M.1 c := by
  have h24 := nQ_le hQ
  intro d
  induction d with
  | zero =>
    intro F j M a hS hC hj ha hM hF
    obtain ⟨F, rfl⟩ : ∃ F', F = F' + 1 := ⟨F - 1, by omega⟩
    have e23 : M.1 23 0 = nI (nQ S) := by rw [k23, hS]; exact nQ_eq hQ
    refine ⟨M, ?_, hM, ha, fun _ _ => rfl⟩
    show f_X4_joinSets_23_b (f_X4_joinSets_23 F) (nI j) M = _
    unfold f_X4_joinSets_23_b
    rw [e23, if_pos (nI_le (by omega) (by omega))]
  | succ d ih =>
    intro F j M a hS hC hj ha hM hF
    obtain ⟨F, rfl⟩ : ∃ F', F = F' + 1 := ⟨F - 1, by omega⟩
    have e23 : M.1 23 0 = nI (nQ S) := by rw [k23, hS]; exact nQ_eq hQ
    obtain ⟨c1, c2⟩ := hC.2.2 j (by omega)
    obtain ⟨e1, e2, e3, e4, -⟩ := pAB hT hQ (show j < nQ S by omega)
    have eX : f_X4_joinSets_23 (F + 1) (nI j) M = cond (bdP S j) (f_X4_joinSets_23 F (nI (j + 1)) M) (cl (f_X4_join (nI (a (pA S j))) (nI (a (pB S j))) M) fun _ M1 => f_X4_joinSets_23 F (nI (j + 1)) M1) := by
      show f_X4_joinSets_23_b (f_X4_joinSets_23 F) (nI j) M = _
      unfold f_X4_joinSets_23_b f_X4_joinSets_74 bdP
      rw [e23, if_neg (nI_ge (by omega) (by omega)), rd_n (by omega), rd_n (by omega), c1, c2, nI_1, rd_n (by omega), k24, hS, e1, rd_n e3, rd_n (by omega), k25, hS, e2, rd_n e4, hM _ e3, hM _ e4]
      by_cases h : tot S (2 + j) < tot S (26 + j) * 2
      · rw [if_pos h, decide_eq_true h, cond_t]
      · rw [if_neg h, decide_eq_false h, cond_f]
    rw [eX, cjs_s]
    cases hb : bdP S j with
    | true =>
      rw [cond_t, cond_t]
      exact ih F (j + 1) M a hS hC (by omega) ha hM (by omega)
    | false =>
      rw [cond_f, cond_f]
      obtain ⟨X, x1, x2, x3⟩ := ev_join (x1 := a (pA S j)) (x2 := a (pB S j)) (ha _ e3) (ha _ e4) ha hM
      obtain ⟨M', p1, p2, p3, p4⟩ := ih F (j + 1) X (fun i => if a i = a (pB S j) then a (pA S j) else a i) (by rw [St_sc (fun c c1 c2 => x3 c (by omega)), hS]) (by unfold CN; rw [x3 96 (by omega), x3 97 (by omega), x3 98 (by omega)]; exact hC) (by omega) (fun i hi => by
        show (if a i = a (pB S j) then a (pA S j) else a i) < 48
        split
        · exact ha _ e3
        · exact ha _ hi) x2 (by omega)
      exact ⟨M', by rw [x1, cl_s, p1], p2, p3, fun c hc => (p4 c hc).trans (x3 c hc)⟩
theorem js2_go {q : Nat} : ∀ (d F i : Nat) (M : Mem), i + d = 48 → d < F → ∃ M', f_X4_joinSets_2 F (nI i) M = f_X4_joinSets_23 FU (nI 0) M' ∧ (∀ k, M'.1 99 k = if i ≤ k ∧ k < 48 then nI k else M.1 99 k) ∧ ∀ c, c ≠ 99 → M'.1 c = M.1 c := by
  intro d
  induction d with
  | zero =>
    intro F i M hi hF
    obtain ⟨F, rfl⟩ : ∃ F', F = F' + 1 := ⟨F - 1, by omega⟩
    refine ⟨M, ?_, fun k => by rw [if_neg (by omega)], fun _ _ => rfl⟩
    show f_X4_joinSets_2_b (f_X4_joinSets_2 F) (nI i) M = _
    unfold f_X4_joinSets_2_b
    rw [if_pos (show (48 : Int32) ≤ nI i from nI_le (a := 48) (by omega) (by omega))]; rfl
  | succ d ih =>
    intro F i M hi hF
    obtain ⟨F, rfl⟩ : ∃ F', F = F' + 1 := ⟨F - 1, by omega⟩
    obtain ⟨M', q1, q2, q3⟩ := ih F (i + 1) (mset M 99 i (nI i)) (by omega) (by omega)
    refine ⟨M', ?_, fun k => ?_, fun c hc => by rw [q3 c hc, mset_ne hc]⟩
    · show f_X4_joinSets_2_b (f_X4_joinSets_2 F) (nI i) M = _
      unfold f_X4_joinSets_2_b
      rw [if_neg (show ¬ (48 : Int32) ≤ nI i from nI_ge (b := 48) (by omega) (by omega)), ck_n (by omega), stm_s, nI_clamp (by omega), nI_1, q1]
    · rw [q2, mset_at]
      by_cases h : i + 1 ≤ k ∧ k < 48
      · rw [if_pos h, if_pos (by omega)]
      · rw [if_neg h]
        by_cases h2 : k = i
        · rw [if_pos ⟨rfl, h2⟩, if_pos (by omega), h2]
        · rw [if_neg (by omega), if_neg (by omega)]
def lbC (S : Nat → Nat → Int32) : Nat → Nat := cjs S (nQ S) 0 (fun i => i)
def lbR (S : Nat → Nat → Int32) : Nat → Nat := rjs S (nQ S) 0 (fun i => i)
theorem ev_joinSets {S : Nat → Nat → Int32} {M : Mem} (hT : IvT S) (hQ : IvQ S) (hS : St M = S) (hC : CN (tot S) M) : ∃ M', f_X4_joinSets M = some ((), M') ∧ (∀ k, k < 48 → M'.1 99 k = nI (lbC S k)) ∧ (∀ i, i < 48 → lbC S i < 48) ∧ ∀ c, c ≠ 99 → M'.1 c = M.1 c := by
  have h24 := nQ_le hQ
  obtain ⟨X, x1, x2, x3⟩ := js2_go (q := 0) 48 FU 0 M (by omega) (FU_of (by omega))
  obtain ⟨M', p1, p2, p3, p4⟩ := js23_go hT hQ (nQ S) FU 0 X (fun i => i) (by rw [St_sc (fun c c1 c2 => x3 c (by omega)), hS]) (by unfold CN; rw [x3 96 (by omega), x3 97 (by omega), x3 98 (by omega)]; exact hC) (by omega) (fun i hi => hi) (fun k hk => by rw [x2, if_pos (by omega)]) (FU_of (by omega))
  refine ⟨M', ?_, p2, p3, fun c hc => (p4 c hc).trans (x3 c hc)⟩
  unfold f_X4_joinSets
  exact x1.trans p1
/-! the other's -/
theorem rj98_go {S : Nat → Nat → Int32} {r27 : Int32 → Mem → Option (Unit × Mem)} {x2 x3 j : Nat} {b : Nat → Nat} (hj : j < 24) (h2 : x2 < 48) (h3 : x3 < 48) (hbd : bdP S j = false) (hb : ∀ i, i < 48 → b i < 48) : ∀ (d F i : Nat) (M : Mem), RN (tot S) M → i + d = 48 → (∀ k, k < 48 → M.1 129 k = nI (if k < i ∧ b k = x2 then x3 else b k)) → d < F → ∃ M', f_X10_joins_98 r27 (nI j) (nI x2) (nI x3) F (nI i) M = r27 (nI (j + 1)) M' ∧ (∀ k, k < 48 → M'.1 129 k = nI (if b k = x2 then x3 else b k)) ∧ ∀ c, c ≠ 129 → M'.1 c = M.1 c := by
  intro d
  induction d with
  | zero =>
    intro F i M hC hi hM hF
    obtain ⟨F, rfl⟩ : ∃ F', F = F' + 1 := ⟨F - 1, by omega⟩
    refine ⟨M, ?_, fun k hk => ?_, fun _ _ => rfl⟩
    · show f_X10_joins_98_b r27 (f_X10_joins_98 r27 (nI j) (nI x2) (nI x3) F) (nI j) (nI x2) (nI x3) (nI i) M = _
      unfold f_X10_joins_98_b f_X10_joins_157
      rw [if_pos (show (48 : Int32) ≤ nI i from nI_le (a := 48) (by omega) (by omega)), nI_1]
    · rw [hM k hk]
      by_cases h : b k = x2
      · rw [if_pos ⟨by omega, h⟩, if_pos h]
      · rw [if_neg (fun z => h z.2), if_neg h]
  | succ d ih =>
    intro F i M hC hi hM hF
    obtain ⟨F, rfl⟩ : ∃ F', F = F' + 1 := ⟨F - 1, by omega⟩
    have e129 : M.1 129 i = nI (b i) := by rw [hM i (by omega), if_neg (by omega)]
    have hbi := hb i (by omega)
    obtain ⟨c1, c2⟩ := hC.2.2 j hj
    have hnb : ¬ tot S (2 + j) < 2 * tot S (26 + j) := by
      unfold bdP at hbd
      rw [Int32.mul_comm]; exact of_decide_eq_false hbd
    have eX : f_X10_joins_98 r27 (nI j) (nI x2) (nI x3) (F + 1) (nI i) M = if nI (b i) = nI x2 then f_X10_joins_98 r27 (nI j) (nI x2) (nI x3) F (nI (i + 1)) (mset M 129 i (nI x3)) else f_X10_joins_98 r27 (nI j) (nI x2) (nI x3) F (nI (i + 1)) (mset M 129 i (nI (b i))) := by
      show f_X10_joins_98_b r27 (f_X10_joins_98 r27 (nI j) (nI x2) (nI x3) F) (nI j) (nI x2) (nI x3) (nI i) M = _
      unfold f_X10_joins_98_b f_X10_joins_150
      rw [if_neg (show ¬ (48 : Int32) ≤ nI i from nI_ge (b := 48) (by omega) (by omega)), rd_n hj, rd_n hj, c1, c2, if_neg hnb, rd_n (by omega), rd_n (by omega), e129, ck_n (by omega), ck_n (by omega), stm_s, stm_s, nI_clamp (show i < 2 ^ 31 by omega), nI_1]
    have hC' : ∀ v, RN (tot S) (mset M 129 i v) := fun v => by unfold RN; rw [mset_ne (by omega), mset_ne (by omega), mset_ne (by omega)]; exact hC
    rw [eX]
    by_cases h : b i = x2
    · rw [if_pos (congrArg nI h)]
      obtain ⟨M', p1, p2, p3⟩ := ih F (i + 1) (mset M 129 i (nI x3)) (hC' _) (by omega) (fun k hk => by
        rw [mset_at]
        by_cases g : k = i
        · rw [if_pos ⟨rfl, g⟩, if_pos ⟨by omega, by rw [g]; exact h⟩]
        · rw [if_neg (fun z => g z.2), hM k hk]
          by_cases g2 : k < i ∧ b k = x2
          · rw [if_pos g2, if_pos ⟨by omega, g2.2⟩]
          · rw [if_neg g2, if_neg (fun z => g2 ⟨by omega, z.2⟩)]) (by omega)
      exact ⟨M', p1, p2, fun c hc => by rw [p3 c hc, mset_ne hc]⟩
    · rw [if_neg (fun z => h (nI_inj (by omega) (by omega) z))]
      obtain ⟨M', p1, p2, p3⟩ := ih F (i + 1) (mset M 129 i (nI (b i))) (hC' _) (by omega) (fun k hk => by
        rw [mset_at]
        by_cases g : k = i
        · rw [if_pos ⟨rfl, g⟩, if_neg (fun z => h (by rw [← g]; exact z.2)), g]
        · rw [if_neg (fun z => g z.2), hM k hk]
          by_cases g2 : k < i ∧ b k = x2
          · rw [if_pos g2, if_pos ⟨by omega, g2.2⟩]
          · rw [if_neg g2, if_neg (fun z => g2 ⟨by omega, z.2⟩)]) (by omega)
      exact ⟨M', p1, p2, fun c hc => by rw [p3 c hc, mset_ne hc]⟩
theorem i8j (t x : Nat) : (8 : Int32) * nI t + nI x = nI (8 * t + x) := by rw [show (8 : Int32) = nI 8 from rfl, nI_mul, nI_add]
theorem rj27_go {S : Nat → Nat → Int32} : ∀ (d F j : Nat) (M : Mem) (b : Nat → Nat), KK M → St M = S → RN (tot S) M → j + d = nQ S → (∀ i, i < 48 → b i < 48) → (∀ k, k < 48 → M.1 129 k = nI (b k)) → d < F → ∃ M', f_X10_joins_27 F (nI j) M = some ((), M') ∧ (∀ k, k < 48 → M'.1 129 k = nI (rjs S d j b k)) ∧ (∀ i, i < 48 → rjs S d j b i < 48) ∧ ∀ c, c ≠ 129 → M'.1 c = M.1 c := by
  intro d
  induction d with
  | zero =>
    intro F j M b hK hS hC hj hb hM hF
    obtain ⟨F, rfl⟩ : ∃ F', F = F' + 1 := ⟨F - 1, by omega⟩
    have hQ : IvQ S := by rw [← hS]; exact hK.1.2.2.2.2
    have h24 := nQ_le hQ
    have e112 : M.1 112 0 = nI (nQ S) := by rw [show M.1 112 0 = St M 18 0 from hK.2.2.2.2.2.1, hS]; exact nQ_eq hQ
    refine ⟨M, ?_, hM, hb, fun _ _ => rfl⟩
    show f_X10_joins_27_b (f_X10_joins_27 F) (nI j) M = _
    unfold f_X10_joins_27_b
    rw [e112, if_pos (nI_le (by omega) (by omega))]
  | succ d ih =>
    intro F j M b hK hS hC hj hb hM hF
    obtain ⟨F, rfl⟩ : ∃ F', F = F' + 1 := ⟨F - 1, by omega⟩
    have hT : IvT S := by rw [← hS]; exact hK.1.1
    have hQ : IvQ S := by rw [← hS]; exact hK.1.2.2.2.2
    have h24 := nQ_le hQ
    have e112 : M.1 112 0 = nI (nQ S) := by rw [show M.1 112 0 = St M 18 0 from hK.2.2.2.2.2.1, hS]; exact nQ_eq hQ
    obtain ⟨q1, q2, q3, q4⟩ := rm116 hK (j := j) (by rw [hS]; omega)
    rw [hS] at q1 q2 q3 q4
    obtain ⟨e1, e2, e3, e4, -⟩ := pAB hT hQ (show j < nQ S by omega)
    obtain ⟨c1, c2⟩ := hC.2.2 j (by omega)
    have eX : f_X10_joins_27 (F + 1) (nI j) M = f_X10_joins_98 (f_X10_joins_27 F) (nI j) (nI (b (pA S j))) (nI (b (pB S j))) FU (nI 0) M := by
      show f_X10_joins_27_b (f_X10_joins_27 F) (nI j) M = _
      unfold f_X10_joins_27_b
      rw [e112, if_neg (nI_ge (by omega) (by omega)), i4t, ia1, ia2, ia3, rd_n (by omega), rd_n (by omega), q1, q2, i8j, show 8 * (pA S j / 8) + pA S j % 8 = pA S j by omega, rd_n e3, rd_n (by omega), rd_n (by omega), q3, q4, i8j, show 8 * (pB S j / 8) + pB S j % 8 = pB S j by omega, rd_n e4, hM _ e3, hM _ e4]; rfl
    rw [eX, rjs_s]
    cases hbd : bdP S j with
    | true =>
      have hnb : tot S (2 + j) < 2 * tot S (26 + j) := by
        unfold bdP at hbd
        rw [Int32.mul_comm]; exact of_decide_eq_true hbd
      have e0 : f_X10_joins_98 (f_X10_joins_27 F) (nI j) (nI (b (pA S j))) (nI (b (pB S j))) FU (nI 0) M = f_X10_joins_27 F (nI (j + 1)) M := by
        show f_X10_joins_98_b (f_X10_joins_27 F) (f_X10_joins_98 (f_X10_joins_27 F) (nI j) (nI (b (pA S j))) (nI (b (pB S j))) 99999) (nI j) (nI (b (pA S j))) (nI (b (pB S j))) (nI 0) M = _
        unfold f_X10_joins_98_b f_X10_joins_157
        rw [if_neg (by decide), rd_n (by omega), rd_n (by omega), c1, c2, if_pos hnb, nI_1]
      rw [e0, cond_t]
      exact ih F (j + 1) M b hK hS hC (by omega) hb hM (by omega)
    | false =>
      rw [cond_f]
      obtain ⟨X, x1, x2, x3⟩ := rj98_go (r27 := f_X10_joins_27 F) (show j < 24 by omega) (hb _ e3) (hb _ e4) hbd hb 48 FU 0 M hC (by omega) (fun k hk => by rw [hM k hk, if_neg (by omega)]) (FU_of (by omega))
      have hXK : KK X := KK_sc hK (fun c c1 c2 => x3 c (by omega)) (fun c c1 c2 => x3 c (by omega))
      obtain ⟨M', p1, p2, p3, p4⟩ := ih F (j + 1) X (fun i => if b i = b (pA S j) then b (pB S j) else b i) hXK (by rw [St_sc (fun c c1 c2 => x3 c (by omega)), hS]) (by unfold RN; rw [x3 108 (by omega), x3 127 (by omega), x3 128 (by omega)]; exact hC) (by omega) (fun i hi => by
        show (if b i = b (pA S j) then b (pB S j) else b i) < 48
        split
        · exact hb _ e4
        · exact hb _ hi) x2 (by omega)
      exact ⟨M', x1.trans p1, p2, p3, fun c hc => (p4 c hc).trans (x3 c hc)⟩
theorem rj6_go : ∀ (d F i : Nat) (M : Mem), i + d = 48 → d < F → ∃ M', f_X10_joins_6 F (nI i) M = f_X10_joins_27 FU (nI 0) M' ∧ (∀ k, M'.1 129 k = if i ≤ k ∧ k < 48 then nI k else M.1 129 k) ∧ ∀ c, c ≠ 129 → M'.1 c = M.1 c := by
  intro d
  induction d with
  | zero =>
    intro F i M hi hF
    obtain ⟨F, rfl⟩ : ∃ F', F = F' + 1 := ⟨F - 1, by omega⟩
    refine ⟨M, ?_, fun k => by rw [if_neg (by omega)], fun _ _ => rfl⟩
    show f_X10_joins_6_b (f_X10_joins_6 F) (nI i) M = _
    unfold f_X10_joins_6_b
    rw [if_pos (show (48 : Int32) ≤ nI i from nI_le (a := 48) (by omega) (by omega))]; rfl
  | succ d ih =>
    intro F i M hi hF
    obtain ⟨F, rfl⟩ : ∃ F', F = F' + 1 := ⟨F - 1, by omega⟩
    obtain ⟨M', q1, q2, q3⟩ := ih F (i + 1) (mset M 129 i (nI i)) (by omega) (by omega)
    refine ⟨M', ?_, fun k => ?_, fun c hc => by rw [q3 c hc, mset_ne hc]⟩
    · show f_X10_joins_6_b (f_X10_joins_6 F) (nI i) M = _
      unfold f_X10_joins_6_b
      rw [if_neg (show ¬ (48 : Int32) ≤ nI i from nI_ge (b := 48) (by omega) (by omega)), ck_n (by omega), stm_s, nI_clamp (by omega), nI_1, q1]
    · rw [q2, mset_at]
      by_cases h : i + 1 ≤ k ∧ k < 48
      · rw [if_pos h, if_pos (by omega)]
      · rw [if_neg h]
        by_cases h2 : k = i
        · rw [if_pos ⟨rfl, h2⟩, if_pos (by omega), h2]
        · rw [if_neg (by omega), if_neg (by omega)]
theorem ev_joins {M : Mem} (hK : KK M) : ∃ M', f_X10_joins M = some ((), M') ∧ (∀ k, k < 48 → M'.1 129 k = nI (lbR (St M) k)) ∧ (∀ i, i < 48 → lbR (St M) i < 48) ∧ Sc M M' := by
  have hT := hK.1.1
  have hQ := hK.1.2.2.2.2
  have h24 := nQ_le hQ
  obtain ⟨M1, g1, g2, g3⟩ := ev_allRings hK
  have g2' : RN (tot (St M)) M1 := RN_ext g2 (fun i => A1_tot hT hQ i)
  have hK1 := KK_Sc hK (FC_Sc g3)
  obtain ⟨X, x1, x2, x3⟩ := rj6_go 48 FU 0 M1 (by omega) (FU_of (by omega))
  have hXK : KK X := KK_sc hK1 (fun c c1 c2 => x3 c (by omega)) (fun c c1 c2 => x3 c (by omega))
  obtain ⟨M', p1, p2, p3, p4⟩ := rj27_go (S := St M) (nQ (St M)) FU 0 X (fun i => i) hXK (by rw [St_sc (fun c c1 c2 => x3 c (by omega)), St_Sc (FC_Sc g3)]) (by unfold RN; rw [x3 108 (by omega), x3 127 (by omega), x3 128 (by omega)]; exact g2') (by omega) (fun i hi => hi) (fun k hk => by rw [x2, if_pos (by omega)]) (FU_of (by omega))
  refine ⟨M', ?_, p2, p3, (FC_Sc g3).tr ⟨fun c h1 h2 => by rw [p4 c (by omega), x3 c (by omega)], fun c h1 h2 => by rw [p4 c (by omega), x3 c (by omega)], by rw [p4 108 (by omega), x3 108 (by omega)], by rw [p4 108 (by omega), x3 108 (by omega)]⟩⟩
  unfold f_X10_joins
  rw [g1, cl_s]
  exact x1.trans p1
/-! both part alike -/
theorem pt_step {a b : Nat → Nat} {A B i k : Nat} (h : ∀ i k, i < 48 → k < 48 → (a i = a k ↔ b i = b k)) (hA : A < 48) (hB : B < 48) (hi : i < 48) (hk : k < 48) : ((if a i = a B then a A else a i) = (if a k = a B then a A else a k)) ↔ ((if b i = b A then b B else b i) = (if b k = b A then b B else b k)) := by
  have h1 := h i k hi hk
  have h2 := h i A hi hA
  have h3 := h i B hi hB
  have h4 := h k A hk hA
  have h5 := h k B hk hB
  have h6 := h A B hA hB
  by_cases c1 : a i = a B <;> by_cases c2 : a k = a B <;> by_cases c3 : b i = b A <;> by_cases c4 : b k = b A <;> (first | rw [if_pos c1] | rw [if_neg c1]) <;> (first | rw [if_pos c2] | rw [if_neg c2]) <;> (first | rw [if_pos c3] | rw [if_neg c3]) <;> (first | rw [if_pos c4] | rw [if_neg c4]) <;> omega
theorem pt_all {S : Nat → Nat → Int32} (hT : IvT S) (hQ : IvQ S) : ∀ (d j : Nat) (a b : Nat → Nat), j + d = nQ S → (∀ i k, i < 48 → k < 48 → (a i = a k ↔ b i = b k)) → ∀ i k, i < 48 → k < 48 → (cjs S d j a i = cjs S d j a k ↔ rjs S d j b i = rjs S d j b k) := by
  intro d
  induction d with
  | zero => intro j a b _ h; exact h
  | succ d ih =>
    intro j a b hj h
    obtain ⟨e1, e2, e3, e4, -⟩ := pAB hT hQ (show j < nQ S by omega)
    rw [cjs_s, rjs_s]
    refine ih (j + 1) _ _ (by omega) (fun i k hi hk => ?_)
    cases bdP S j with
    | true => exact h i k hi hk
    | false => exact pt_step h e3 e4 hi hk
theorem lb_pt {S : Nat → Nat → Int32} (hT : IvT S) (hQ : IvQ S) {i k : Nat} (hi : i < 48) (hk : k < 48) : lbC S i = lbC S k ↔ lbR S i = lbR S k := pt_all hT hQ (nQ S) 0 _ _ (by omega) (fun i k _ _ => Iff.rfl) i k hi hk
theorem lb_ok {S : Nat → Nat → Int32} (hT : IvT S) (hQ : IvQ S) : ∀ (d j : Nat) (a : Nat → Nat), j + d = nQ S → (∀ i, i < 48 → a i < 48) → (∀ i, i < 48 → a (a i) = a i) → (∀ i, i < 48 → wA S i = true → wA S (a i) = true) → (∀ i, i < 48 → cjs S d j a (cjs S d j a i) = cjs S d j a i) ∧ (∀ i, i < 48 → wA S i = true → wA S (cjs S d j a i) = true) := by
  intro d
  induction d with
  | zero => intro j a _ _ h1 h2; exact ⟨h1, h2⟩
  | succ d ih =>
    intro j a hj h0 h1 h2
    obtain ⟨e1, e2, e3, e4, e5, e6, e7⟩ := pAB hT hQ (show j < nQ S by omega)
    have wAA : wA S (pA S j) = true := by unfold wA; rw [decide_eq_true e6.1, decide_eq_true e6.2]; rfl
    rw [cjs_s]
    cases bdP S j with
    | true => rw [cond_t]; exact ih (j + 1) a (by omega) h0 h1 h2
    | false =>
      rw [cond_f]
      refine ih (j + 1) _ (by omega) (fun i hi => ?_) (fun i hi => ?_) (fun i hi hw => ?_)
      · show (if a i = a (pB S j) then a (pA S j) else a i) < 48
        split
        · exact h0 _ e3
        · exact h0 _ hi
      · show (if a (if a i = a (pB S j) then a (pA S j) else a i) = a (pB S j) then a (pA S j) else a (if a i = a (pB S j) then a (pA S j) else a i)) = if a i = a (pB S j) then a (pA S j) else a i
        by_cases c : a i = a (pB S j)
        · rw [if_pos c, h1 _ e3]; split <;> rfl
        · rw [if_neg c, h1 _ hi, if_neg c]
      · show wA S (if a i = a (pB S j) then a (pA S j) else a i) = true
        split
        · exact h2 _ e3 wAA
        · exact h2 _ hi hw
theorem lbC_ok {S : Nat → Nat → Int32} (hT : IvT S) (hQ : IvQ S) : (∀ i, i < 48 → lbC S (lbC S i) = lbC S i) ∧ (∀ i, i < 48 → wA S i = true → wA S (lbC S i) = true) := lb_ok hT hQ (nQ S) 0 (fun i => i) (by omega) (fun i hi => hi) (fun i _ => rfl) (fun i _ h => h)
/-! how many -/
def cI (S : Nat → Nat → Int32) (a : Nat → Nat) (i : Nat) : Int32 := if wA S i = true ∧ a i = i then 1 else 0
def frB (S : Nat → Nat → Int32) (a : Nat → Nat) (i : Nat) : Nat → Nat → Bool
  | 0, _ => true
  | d + 1, k => !(wA S k && decide (a k = a i)) && frB S a i d (k + 1)
theorem frB_s {S : Nat → Nat → Int32} {a : Nat → Nat} {i d k : Nat} : frB S a i (d + 1) k = (!(wA S k && decide (a k = a i)) && frB S a i d (k + 1)) := rfl
theorem frB_iff {S : Nat → Nat → Int32} {a : Nat → Nat} {i : Nat} : ∀ d k, frB S a i d k = true ↔ ∀ m, k ≤ m → m < k + d → wA S m = true → a m ≠ a i := by
  intro d
  induction d with
  | zero => intro k; exact ⟨fun _ m h1 h2 => by omega, fun _ => rfl⟩
  | succ d ih =>
    intro k
    rw [frB_s, Bool.and_eq_true, ih]
    constructor
    · intro ⟨h1, h2⟩ m g1 g2 g3 g4
      by_cases e : m = k
      · subst e
        rw [g3, decide_eq_true g4] at h1
        exact absurd h1 (by simp)
      · exact h2 m (by omega) (by omega) g3 g4
    · intro h
      refine ⟨?_, fun m g1 g2 => h m (by omega) (by omega)⟩
      cases hw : wA S k with
      | false => rfl
      | true => rw [decide_eq_false (h k (by omega) (by omega) hw)]; rfl
def fI (S : Nat → Nat → Int32) (a : Nat → Nat) (i : Nat) : Int32 := if wA S i = true ∧ frB S a i i 0 = true then 1 else 0
theorem first_ex {S : Nat → Nat → Int32} {a : Nat → Nat} {p : Nat} : ∀ N i, i ≤ N → wA S i = true → a i = p → ∃ m, m ≤ i ∧ wA S m = true ∧ a m = p ∧ frB S a m m 0 = true := by
  intro N
  induction N with
  | zero =>
    intro i hi hw ha
    obtain rfl : i = 0 := by omega
    exact ⟨0, by omega, hw, ha, rfl⟩
  | succ N ih =>
    intro i hi hw ha
    by_cases h : frB S a i i 0 = true
    · exact ⟨i, Nat.le_refl _, hw, ha, h⟩
    · rw [frB_iff] at h
      have : ∃ m, m < i ∧ wA S m = true ∧ a m = a i := by
        apply Classical.byContradiction
        intro hn
        exact h (fun m _ h2 h3 h4 => hn ⟨m, by omega, h3, h4⟩)
      obtain ⟨m, h1, h2, h3⟩ := this
      obtain ⟨m', g1, g2, g3, g4⟩ := ih m (by omega) h2 (h3.trans ha)
      exact ⟨m', by omega, g2, g3, g4⟩
theorem cI_fI {S : Nat → Nat → Int32} {a : Nat → Nat} (h0 : ∀ i, i < 48 → a i < 48) (h1 : ∀ i, i < 48 → a (a i) = a i) (h2 : ∀ i, i < 48 → wA S i = true → wA S (a i) = true) : sT (cI S a) 48 0 = sT (fI S a) 48 0 := by
  have hc : ∀ p, p < 48 → cI S a p = sT (fun i => if wA S i = true ∧ frB S a i i 0 = true ∧ a i = p ∧ a p = p then 1 else 0) 48 0 := by
    intro p hp
    unfold cI
    by_cases h : wA S p = true ∧ a p = p
    · rw [if_pos h]
      obtain ⟨m, g1, g2, g3, g4⟩ := first_ex p p (Nat.le_refl _) h.1 h.2
      rw [sT_1 (a := m) _ _ (by omega) (by omega) (fun k k1 k2 k3 => by
        rw [if_neg]
        rintro ⟨c1, c2, c3, -⟩
        rcases Nat.lt_or_gt_of_ne k3 with l | l
        · exact (frB_iff _ _).mp g4 k (by omega) (by omega) c1 (c3.trans g3.symm)
        · exact (frB_iff _ _).mp c2 m (by omega) (by omega) g2 (g3.trans c3.symm)), if_pos ⟨g2, g4, g3, h.2⟩]
    · rw [if_neg h]
      refine (sT_0 _ _ (fun k k1 k2 => ?_)).symm
      rw [if_neg]
      rintro ⟨c1, c2, c3, c4⟩
      exact h ⟨by rw [← c3]; exact h2 k (by omega) c1, c4⟩
  have hf : ∀ i, i < 48 → fI S a i = sT (fun p => if wA S i = true ∧ frB S a i i 0 = true ∧ a i = p ∧ a p = p then 1 else 0) 48 0 := by
    intro i hi
    unfold fI
    by_cases h : wA S i = true ∧ frB S a i i 0 = true
    · have := h0 i hi
      rw [if_pos h, sT_1 (a := a i) _ _ (by omega) (by omega) (fun k k1 k2 k3 => by
        rw [if_neg]
        rintro ⟨c1, c2, c3, -⟩
        exact k3 c3.symm), if_pos ⟨h.1, h.2, rfl, h1 i hi⟩]
    · rw [if_neg h]
      refine (sT_0 _ _ (fun k k1 k2 => ?_)).symm
      rw [if_neg]
      rintro ⟨c1, c2, -⟩
      exact h ⟨c1, c2⟩
  rw [sT_cong 48 0 (fun p _ hp => hc p (by omega)), sT_cong 48 0 (fun i _ hi => hf i (by omega)), sT_swap]
theorem sets_go {S : Nat → Nat → Int32} {a : Nat → Nat} {M : Mem} (hT : IvT S) (hS : St M = S) (ha : ∀ i, i < 48 → a i < 48) (hM : ∀ k, k < 48 → M.1 99 k = nI (a k)) : ∀ (d F i : Nat) (v : Int32), i + d = 48 → d < F → f_X9_sets_32 F v (nI i) M = some (v + sT (cI S a) d i, M) := by
  intro d
  induction d with
  | zero =>
    intro F i v hi hF
    obtain ⟨F, rfl⟩ : ∃ F', F = F' + 1 := ⟨F - 1, by omega⟩
    show f_X9_sets_32_b (f_X9_sets_32 F) v (nI i) M = _
    unfold f_X9_sets_32_b
    rw [if_pos (show (48 : Int32) ≤ nI i from nI_le (a := 48) (by omega) (by omega))]
    show _ = some (v + 0, M)
    rw [Int32.add_zero]
  | succ d ih =>
    intro F i v hi hF
    obtain ⟨F, rfl⟩ : ∃ F', F = F' + 1 := ⟨F - 1, by omega⟩
    have hai := ha i (by omega)
    have eW : f_X1_isWordAt (nI i) M = some (bI (wA S i)) := by
      have := ev_isWordAt (M := M) (x := i) (by rw [hS]; exact hT) (by omega)
      rw [hS] at this; exact this
    show f_X9_sets_32_b (f_X9_sets_32 F) v (nI i) M = _
    unfold f_X9_sets_32_b f_X9_sets_68
    rw [if_neg (show ¬ (48 : Int32) ≤ nI i from nI_ge (b := 48) (by omega) (by omega)), eW, cp_s, if_bI, rd_n (by omega), hM i (by omega), nI_1, ih F (i + 1) v (by omega) (by omega), ih F (i + 1) (v + 1) (by omega) (by omega), sT_s]
    unfold cI
    cases hw : wA S i with
    | false => rw [cond_f, if_neg (fun z => by cases z.1), Int32.zero_add]
    | true =>
      rw [cond_t]
      by_cases h : a i = i
      · rw [if_pos (congrArg nI h), if_pos ⟨rfl, h⟩, Int32.add_assoc]
      · rw [if_neg (fun z => h (nI_inj (by omega) (by omega) z)), if_neg (fun z => h z.2), Int32.zero_add]
theorem sets30_go {S : Nat → Nat → Int32} {b : Nat → Nat} {M : Mem} {r8 : Int32 → Int32 → Mem → Option (Int32 × Mem)} {v : Int32} {i : Nat} (hK : KK M) (hS : St M = S) (hi : i < 48) (hb : ∀ i, i < 48 → b i < 48) (hM : ∀ k, k < 48 → M.1 129 k = nI (b k)) : ∀ (d F k : Nat) (f : Bool), k + d = i → d < F → f_X10_sets_30 r8 v (nI i) F (bI f) (nI k) M = r8 (v + bI (f && frB S b i d k)) (nI (i + 1)) M := by
  have hT : IvT S := by rw [← hS]; exact hK.1.1
  intro d
  induction d with
  | zero =>
    intro F k f hk hF
    obtain ⟨F, rfl⟩ : ∃ F', F = F' + 1 := ⟨F - 1, by omega⟩
    show f_X10_sets_30_b r8 (f_X10_sets_30 r8 v (nI i) F) v (nI i) (bI f) (nI k) M = _
    unfold f_X10_sets_30_b f_X10_sets_95
    rw [if_pos (nI_le (by omega) (by omega)), if_bI, nI_1]
    show _ = r8 (v + bI (f && true)) _ M
    cases f
    · rw [cond_f]; rfl
    · rw [cond_t]; rfl
  | succ d ih =>
    intro F k f hk hF
    obtain ⟨F, rfl⟩ : ∃ F', F = F' + 1 := ⟨F - 1, by omega⟩
    have s0 : f_X10_sets_30 r8 v (nI i) F 0 (nI (k + 1)) M = r8 (v + bI (false && frB S b i d (k + 1))) (nI (i + 1)) M := ih F (k + 1) false (by omega) (by omega)
    have s1 : f_X10_sets_30 r8 v (nI i) F 1 (nI (k + 1)) M = r8 (v + bI (true && frB S b i d (k + 1))) (nI (i + 1)) M := ih F (k + 1) true (by omega) (by omega)
    have eW : f_X10_isWord (nI (k / 8)) (nI (k % 8)) M = some (bI (wA S k)) := by
      rw [ev_isWord hK, hS, wdB_nI hT (by omega) (by omega)]; rfl
    have h1 := hb k (by omega)
    have h2 := hb i (by omega)
    show f_X10_sets_30_b r8 (f_X10_sets_30 r8 v (nI i) F) v (nI i) (bI f) (nI k) M = _
    unfold f_X10_sets_30_b f_X10_sets_77 f_X10_sets_73 f_X10_sets_78
    rw [if_neg (nI_ge (by omega) (by omega)), (div8 k (by omega)).1, (div8 k (by omega)).2, eW, cp_s, if_bI, if_bI, rd_n (by omega), rd_n (by omega), hM k (by omega), hM i hi, nI_1, s0, s1, frB_s]
    cases f with
    | false => rw [cond_f, Bool.false_and, Bool.false_and]
    | true =>
      rw [cond_t]
      cases hw : wA S k with
      | false => rw [cond_f]; rfl
      | true =>
        rw [cond_t]
        by_cases h : b k = b i
        · rw [if_pos (congrArg nI h), decide_eq_true h]; rfl
        · rw [if_neg (fun z => h (nI_inj (by omega) (by omega) z)), decide_eq_false h]; rfl
theorem sets8_go {S : Nat → Nat → Int32} {b : Nat → Nat} {M : Mem} (hK : KK M) (hS : St M = S) (hb : ∀ i, i < 48 → b i < 48) (hM : ∀ k, k < 48 → M.1 129 k = nI (b k)) : ∀ (d F i : Nat) (v : Int32), i + d = 48 → d < F → f_X10_sets_8 F v (nI i) M = some (v + sT (fI S b) d i, M) := by
  have hT : IvT S := by rw [← hS]; exact hK.1.1
  intro d
  induction d with
  | zero =>
    intro F i v hi hF
    obtain ⟨F, rfl⟩ : ∃ F', F = F' + 1 := ⟨F - 1, by omega⟩
    show f_X10_sets_8_b (f_X10_sets_8 F) v (nI i) M = _
    unfold f_X10_sets_8_b
    rw [if_pos (show (48 : Int32) ≤ nI i from nI_le (a := 48) (by omega) (by omega))]
    show _ = some (v + 0, M)
    rw [Int32.add_zero]
  | succ d ih =>
    intro F i v hi hF
    obtain ⟨F, rfl⟩ : ∃ F', F = F' + 1 := ⟨F - 1, by omega⟩
    have eW : f_X10_isWord (nI (i / 8)) (nI (i % 8)) M = some (bI (wA S i)) := by
      rw [ev_isWord hK, hS, wdB_nI hT (by omega) (by omega)]; rfl
    show f_X10_sets_8_b (f_X10_sets_8 F) v (nI i) M = _
    unfold f_X10_sets_8_b
    rw [if_neg (show ¬ (48 : Int32) ≤ nI i from nI_ge (b := 48) (by omega) (by omega)), (div8 i (by omega)).1, (div8 i (by omega)).2, eW, cp_s]
    have := sets30_go (r8 := f_X10_sets_8 F) (v := v) hK hS (show i < 48 by omega) hb hM i FU 0 (wA S i) (by omega) (FU_of (by omega))
    refine Eq.trans this ?_
    rw [ih F (i + 1) _ (by omega) (by omega), sT_s, Int32.add_assoc]
    have e : bI (wA S i && frB S b i i 0) = fI S b i := by
      unfold fI
      cases wA S i with
      | false => rw [if_neg (fun z => by cases z.1)]; rfl
      | true =>
        cases frB S b i i 0 with
        | false => rw [if_neg (fun z => by cases z.2)]; rfl
        | true => rw [if_pos ⟨rfl, rfl⟩]; rfl
    rw [e]
theorem op_sets : opI gRel f_X9_sets f_X10_sets := by
  intro M hR
  have hK := KK_of hR
  have hT := hK.1.1
  have hQ := hK.1.2.2.2.2
  obtain ⟨M1, g1, g2, g3⟩ := ev_find hT hQ
  have hS1 : St M1 = St M := St_Sc (FN_Sc g3)
  obtain ⟨M2, h1, h2, h3, h4⟩ := ev_joinSets hT hQ hS1 g2
  have sc2 : Sc M M2 := (FN_Sc g3).tr ⟨fun c c1 c2 => h4 c (by omega), fun c c1 c2 => h4 c (by omega), by rw [h4 108 (by omega)], by rw [h4 108 (by omega)]⟩
  have hK2 := KK_Sc hK sc2
  have hS2 : St M2 = St M := St_Sc sc2
  obtain ⟨M3, q1, q2, q3, q4⟩ := ev_joins hK2
  rw [hS2] at q2 q3
  have hK3 := KK_Sc hK2 q4
  have hS3 : St M3 = St M := by rw [St_Sc q4, hS2]
  obtain ⟨l1, l2⟩ := lbC_ok hT hQ
  refine ⟨0 + sT (cI (St M) (lbC (St M))) 48 0, M2, M3, ?_, ?_, gRel_sc (gRel_sc hR sc2) q4⟩
  · unfold f_X9_sets
    rw [g1, cl_s, h1, cl_s]
    exact sets_go hT hS2 h3 h2 48 FU 0 0 (by omega) (FU_of (by omega))
  · unfold f_X10_sets
    rw [q1, cl_s]
    refine Eq.trans (sets8_go hK3 hS3 q3 q2 48 FU 0 0 (by omega) (FU_of (by omega))) ?_
    have e : sT (fI (St M) (lbR (St M))) 48 0 = sT (cI (St M) (lbC (St M))) 48 0 := by
      rw [cI_fI h3 l1 l2]
      refine sT_cong _ _ (fun i _ hi => ?_)
      unfold fI
      have : frB (St M) (lbR (St M)) i i 0 = frB (St M) (lbC (St M)) i i 0 := by
        apply Bool.eq_iff_iff.mpr
        rw [frB_iff, frB_iff]
        constructor
        · intro h m m1 m2 m3 m4; exact h m m1 m2 m3 ((lb_pt hT hQ (by omega) (by omega)).mp m4)
        · intro h m m1 m2 m3 m4; exact h m m1 m2 m3 ((lb_pt hT hQ (by omega) (by omega)).mpr m4)
      rw [this]
    rw [e]
theorem op_alike (a b c d : Int32) : opI gRel (f_X9_alike a b c d) (f_X10_alike a b c d) := by
  intro M hR
  have hK := KK_of hR
  have hT := hK.1.1
  have hQ := hK.1.2.2.2.2
  have bad : (∀ X : Mem, KK X → St X = St M → f_X9_alike a b c d X = f_X9_alike_31 X) → (∀ X : Mem, KK X → St X = St M → f_X10_alike a b c d X = f_X10_alike_19 X) → ∃ r M1 M2, f_X9_alike a b c d M = some (r, M1) ∧ f_X10_alike a b c d M1 = some (r, M2) ∧ gRel M2 := fun hx hm => ⟨-2, rfX 0 M, rfM 0 (rfX 0 M), by rw [hx M hK rfl]; rfl, by rw [hm _ (KK_rfX hK) St_rfX]; rfl, gRel_rf hR⟩
  have eX : ∀ X : Mem, KK X → St X = St M → f_X9_alike a b c d X = cond (wdB (St M) a b) (cond (wdB (St M) c d) (cl (f_X4_find X) fun _ M1 => cl (f_X4_joinSets M1) fun _ M2 => rd 48 (M2.1 99) ((a * (8 : Int32)) + b) fun v3 => rd 48 (M2.1 99) ((c * (8 : Int32)) + d) fun v4 => if v3 = v4 then some ((1 : Int32), M2) else some ((0 : Int32), M2)) (f_X9_alike_31 X)) (f_X9_alike_31 X) := by
    intro X hX hs
    unfold f_X9_alike
    rw [ev_hasWord hX.1.1, hs, cp_s, if_bI, ev_hasWord hX.1.1, hs, cp_s, if_bI]
  have eM : ∀ X : Mem, KK X → St X = St M → f_X10_alike a b c d X = cond (wdB (St M) a b) (cond (wdB (St M) c d) (cl (f_X10_joins X) fun _ M1 => rd 48 (M1.1 129) (((8 : Int32) * a) + b) fun v3 => rd 48 (M1.1 129) (((8 : Int32) * c) + d) fun v4 => if v3 = v4 then some ((1 : Int32), M1) else some ((0 : Int32), M1)) (f_X10_alike_19 X)) (f_X10_alike_19 X) := by
    intro X hX hs
    unfold f_X10_alike
    rw [ev_isWord hX, hs, cp_s, if_bI, ev_isWord hX, hs, cp_s, if_bI]
  cases h1 : wdB (St M) a b with
  | false => exact bad (fun X hX hs => by rw [eX X hX hs, h1, cond_f]) (fun X hX hs => by rw [eM X hX hs, h1, cond_f])
  | true =>
  cases h2 : wdB (St M) c d with
  | false => exact bad (fun X hX hs => by rw [eX X hX hs, h1, h2, cond_t, cond_f]) (fun X hX hs => by rw [eM X hX hs, h1, h2, cond_t, cond_f])
  | true =>
  obtain ⟨t, w, w1, rfl, rfl⟩ := (wdB_iff hT).mp h1
  obtain ⟨u, v, w2, rfl, rfl⟩ := (wdB_iff hT).mp h2
  have l1 := wlt hT w1
  have l2 := wlt hT w2
  obtain ⟨M1, g1, g2, g3⟩ := ev_find hT hQ
  have hS1 : St M1 = St M := St_Sc (FN_Sc g3)
  obtain ⟨M2, j1, j2, j3, j4⟩ := ev_joinSets hT hQ hS1 g2
  have sc2 : Sc M M2 := (FN_Sc g3).tr ⟨fun c c1 c2 => j4 c (by omega), fun c c1 c2 => j4 c (by omega), by rw [j4 108 (by omega)], by rw [j4 108 (by omega)]⟩
  have hK2 := KK_Sc hK sc2
  have hS2 : St M2 = St M := St_Sc sc2
  obtain ⟨M3, q1, q2, q3, q4⟩ := ev_joins hK2
  rw [hS2] at q2 q3
  have gR : gRel M3 := gRel_sc (gRel_sc hR sc2) q4
  have pt := lb_pt hT hQ (i := 8 * t + w) (k := 8 * u + v) (by omega) (by omega)
  have b1 := j3 (8 * t + w) (by omega)
  have b2 := j3 (8 * u + v) (by omega)
  have b3 := q3 (8 * t + w) (by omega)
  have b4 := q3 (8 * u + v) (by omega)
  have e1 : f_X9_alike (nI t) (nI w) (nI u) (nI v) M = if nI (lbC (St M) (8 * t + w)) = nI (lbC (St M) (8 * u + v)) then some ((1 : Int32), M2) else some ((0 : Int32), M2) := by
    rw [eX M hK rfl, h1, h2, cond_t, cond_t, g1, cl_s, j1, cl_s, i8, i8, rd_n (by omega), rd_n (by omega), j2 _ (by omega), j2 _ (by omega)]
  have e2 : f_X10_alike (nI t) (nI w) (nI u) (nI v) M2 = if nI (lbR (St M) (8 * t + w)) = nI (lbR (St M) (8 * u + v)) then some ((1 : Int32), M3) else some ((0 : Int32), M3) := by
    rw [eM M2 hK2 hS2, h1, h2, cond_t, cond_t, q1, cl_s, i8j, i8j, rd_n (by omega), rd_n (by omega), q2 _ (by omega), q2 _ (by omega)]
  by_cases h : lbC (St M) (8 * t + w) = lbC (St M) (8 * u + v)
  · exact ⟨1, M2, M3, by rw [e1, if_pos (congrArg nI h)], by rw [e2, if_pos (congrArg nI (pt.mp h))], gR⟩
  · exact ⟨0, M2, M3, by rw [e1, if_neg (fun z => h (nI_inj (by omega) (by omega) z))], by rw [e2, if_neg (fun z => h (pt.mpr (nI_inj (by omega) (by omega) z)))], gR⟩
