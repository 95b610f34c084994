/-! fills -/
theorem FU_of {n : Nat} (h : n < 100000) : n < FU := h
def mfill (M : Mem) (q n : Nat) (v : Int32) : Mem := (fun a => if a = q then jFill n v (M.1 q) else M.1 a, M.2)
theorem mfill_at {M : Mem} {q n a j : Nat} {v : Int32} : (mfill M q n v).1 a j = if a = q ∧ j < n then v else M.1 a j := by
  unfold mfill
  by_cases h : a = q
  · subst h
    by_cases h2 : j < n <;> simp [jFill, h2]
  · simp [h]
theorem mfill_ne {M : Mem} {q n a : Nat} {v : Int32} (h : a ≠ q) : (mfill M q n v).1 a = M.1 a := by simp [mfill, h]
theorem mfill_0 {M : Mem} {q : Nat} {v : Int32} : mfill M q 0 v = M := by
  unfold mfill
  apply Prod.ext
  · funext a j
    by_cases h : a = q
    · subst h; simp [jFill]
    · simp [h]
  · rfl
theorem mfill_s {M : Mem} {q i : Nat} {v : Int32} : mset (mfill M q i v) q i v = mfill M q (i + 1) v := by
  unfold mset mfill
  apply Prod.ext
  · funext a
    by_cases h : a = q
    · subst h; simp [upd_fill]
    · simp [h]
  · rfl
theorem ev_fill_go {M : Mem} {q n : Nat} {v : Int32} (hn : n < 2 ^ 31) : ∀ (k F i : Nat), i + k = n → k < F → f_J7_fill_53178_5 q n v (nI n) F (nI i) (mfill M q i v) = some ((), mfill M q n v) := by
  intro k
  induction k with
  | zero =>
    intro F i hi hF
    obtain ⟨F, rfl⟩ : ∃ F', F = F' + 1 := ⟨F - 1, by omega⟩
    have : i = n := by omega
    subst this
    show f_J7_fill_53178_5_b q i (f_J7_fill_53178_5 q i v (nI i) F) v (nI i) (nI i) _ = _
    unfold f_J7_fill_53178_5_b
    rw [if_pos (Int32.le_refl _)]
  | succ k ih =>
    intro F i hi hF
    obtain ⟨F, rfl⟩ : ∃ F', F = F' + 1 := ⟨F - 1, by omega⟩
    show f_J7_fill_53178_5_b q n (f_J7_fill_53178_5 q n v (nI n) F) v (nI n) (nI i) _ = _
    unfold f_J7_fill_53178_5_b
    rw [if_neg (nI_ge (by omega) hn), ck_n (by omega) hn, stm_s, nI_clamp (by omega), mfill_s, nI_1]
    exact ih F (i + 1) (by omega) (by omega)
theorem ev_fill {M : Mem} {q n : Nat} {v : Int32} (hn : n < 99999 := by decide) : f_J7_fill_53178 q n v M = some ((), mfill M q n v) := by
  have := ev_fill_go (M := M) (q := q) (n := n) (v := v) (by omega) n FU 0 (by omega) (FU_of (by omega))
  rw [mfill_0] at this
  exact this
theorem ev_empty {M : Mem} {k : Nat} : f_X7_empty k M = some ((), mfill (mset M k 0 0) (k + 3) 4 (-1)) := by
  unfold f_X7_empty
  rw [stm_s, ev_fill, cl_s]
theorem ev_hush_go {x : Int32} : ∀ (k F i : Nat) (M : Mem), i + k = 16 → k < F → ∃ M', f_X10_hush_16 x F (nI i) M = some (x, M') ∧ (∀ c, c ≠ 117 → M'.1 c = M.1 c) ∧ (∀ j, M'.1 117 j = if i ≤ j ∧ j < 16 then (if j < 6 then 0 else -1) else M.1 117 j) := by
  intro k
  induction k with
  | zero =>
    intro F i M hi hF
    obtain ⟨F, rfl⟩ : ∃ F', F = F' + 1 := ⟨F - 1, by omega⟩
    have : i = 16 := by omega
    subst this
    refine ⟨M, rfl, fun _ _ => rfl, fun j => ?_⟩
    rw [if_neg (by omega)]
  | succ k ih =>
    intro F i M hi hF
    obtain ⟨F, rfl⟩ : ∃ F', F = F' + 1 := ⟨F - 1, by omega⟩
    obtain ⟨M', h1, h2, h3⟩ := ih F (i + 1) (mset M 117 i (if i < 6 then 0 else -1)) (by omega) (by omega)
    refine ⟨M', ?_, fun c hc => by rw [h2 c hc, mset_ne hc], fun j => ?_⟩
    · show f_X10_hush_16_b (f_X10_hush_16 x F) x (nI i) M = _
      unfold f_X10_hush_16_b
      rw [if_neg (show ¬ (16 : Int32) ≤ nI i from nI_ge (b := 16) (by omega) (by decide)), ← h1]
      by_cases h6 : i < 6
      · rw [if_neg (show ¬ (6 : Int32) ≤ nI i from nI_ge (b := 6) h6 (by decide)), if_pos h6]
        unfold f_X10_hush_38
        rw [ck_n (by omega), stm_s, nI_clamp (by omega), nI_1]
      · rw [if_pos (show (6 : Int32) ≤ nI i from nI_le (a := 6) (by omega) (by omega)), if_neg h6]
        unfold f_X10_hush_38
        rw [ck_n (by omega), stm_s, nI_clamp (by omega), nI_1]
    · rw [h3]
      simp only [mset_at]
      by_cases hj : j = i
      · subst hj; rw [if_neg (by omega)]; simp; omega
      · by_cases hb : i ≤ j ∧ j < 16
        · rw [if_pos hb, if_pos (by omega)]
        · rw [if_neg hb, if_neg (by omega)]; simp [hj]
theorem op_hush : opI gRel f_X9_hush f_X10_hush := by
  intro M hR
  obtain ⟨⟨⟨i1, i2, i3, i4, i5⟩, m1, m2, m3, m4, m5⟩, -⟩ := id hR
  have e1 : M.1 110 0 = M.1 14 0 := m2.1
  obtain ⟨M', h1, h2, h3⟩ := ev_hush_go (x := M.1 14 0) 16 FU 0 (mset (mfill (mset M 14 0 0) 17 4 (-1)) 110 0 0) rfl (FU_of (by decide))
  have g1 : ∀ c, c ≠ 117 → c ≠ 110 → c ≠ 14 → c ≠ 17 → M'.1 c = M.1 c := fun c a1 a2 a3 a4 => by rw [h2 c a1, mset_ne a2, mfill_ne a4, mset_ne a3]
  have g14 : M'.1 14 0 = 0 := by rw [h2 14 (by omega), mset_ne (by omega), mfill_ne (by omega), mset_same, upd_same]
  have g17 : ∀ j, j < 4 → M'.1 17 j = -1 := fun j hj => by rw [h2 17 (by omega), mset_ne (by omega), mfill_at, if_pos ⟨rfl, hj⟩]
  have g110 : M'.1 110 0 = 0 := by rw [h2 110 (by omega), mset_same, upd_same]
  refine ⟨M.1 14 0, mfill (mset M 14 0 0) 17 4 (-1), M', ?_, ?_, gRel_P hR ⟨fun c c1 c2 => g1 c (by omega) (by omega) (by omega) (by omega), g1 2 (by omega) (by omega) (by omega) (by omega), g1 119 (by omega) (by omega) (by omega) (by omega), g1 3 (by omega) (by omega) (by omega) (by omega), g1 120 (by omega) (by omega) (by omega) (by omega), g1 0 (by omega) (by omega) (by omega) (by omega), by rw [g1 108 (by omega) (by omega) (by omega) (by omega)], by rw [g1 108 (by omega) (by omega) (by omega) (by omega)], fun c j c1 c2 hb => ?_⟩ (fun c c1 c2 c3 => g1 c (by omega) (by omega) (by omega) (by omega)) (fun c c1 c2 c3 c4 => g1 c c4 c3 (by omega) (by omega)) ⟨⟨0, by omega, ?_⟩, fun p hp => ?_, fun f hf => ?_⟩ ⟨?_, fun p hp => ?_, fun p hp hp6 => ?_, fun p hp => ?_, fun f hf => ?_⟩⟩
  · unfold f_X9_hush
    rw [ev_empty, cl_s]
  · unfold f_X10_hush
    rw [stm_s, ← h1, show (mfill (mset M 14 0 0) 17 4 (-1)).1 110 0 = M.1 14 0 by rw [mfill_ne (by omega), mset_ne (by omega), e1]]; rfl
  · by_cases h : c = 117
    · subst h
      rw [h3, if_neg (show ¬ (0 ≤ j ∧ j < 16) from fun g => by have : 16 ≤ j := hb; omega), mset_ne (by omega), mfill_ne (by omega), mset_ne (by omega)]
    · by_cases h' : c = 110
      · subst h'
        have : 1 ≤ j := hb
        rw [h2 110 h, mset_at, if_neg (by omega), mfill_ne (by omega), mset_ne (by omega)]
      · rw [g1 c h h' (by omega) (by omega)]
  · exact g14
  · exfalso
    have : nP (Sv 5 M'.1) = 0 := by show (M'.1 14 0).toNatClampNeg = 0; rw [g14]; rfl
    omega
  · exact Or.inl (g17 f hf)
  · show M'.1 110 0 = M'.1 14 0; rw [g110, g14]
  · exfalso
    have : nP (Sv 5 M'.1) = 0 := by show (M'.1 14 0).toNatClampNeg = 0; rw [g14]; rfl
    omega
  · show M'.1 117 (16 * 0 + p) = 0
    rw [h3, if_pos (by omega), if_pos (by omega)]
  · rw [h3, if_pos (by omega), if_neg (by omega)]
  · show M'.1 117 (16 * 0 + 12 + f) = M'.1 17 f
    rw [h3, if_pos (by omega), if_neg (by omega), g17 f hf]
/-! tongue -/
theorem i4t (t : Nat) : (4 : Int32) * nI t = nI (4 * t) := nI_mul 4 t
theorem ilit (a k : Nat) : nI a + nI k = nI (a + k) := nI_add a k
theorem ev_addTongue {M : Mem} {n : Nat} {a b c : Int32} (hn : n < 6) (h : M.1 6 0 = nI n) : f_X1_addTongue a b c M = some (nI n, mset (mset (mset (mset (mset M 7 n a) 8 n b) 9 n c) 10 n 0) 6 0 (nI (n + 1))) := by
  have e1 : (mset M 7 n a).1 6 0 = nI n := by rw [mset_ne (by omega), h]
  have e2 : (mset (mset M 7 n a) 8 n b).1 6 0 = nI n := by rw [mset_ne (by omega), e1]
  have e3 : (mset (mset (mset M 7 n a) 8 n b) 9 n c).1 6 0 = nI n := by rw [mset_ne (by omega), e2]
  have e4 : (mset (mset (mset (mset M 7 n a) 8 n b) 9 n c) 10 n 0).1 6 0 = nI n := by rw [mset_ne (by omega), e3]
  unfold f_X1_addTongue
  simp only [h, ck_n hn, stm_s, nI_clamp (show n < 2 ^ 31 by omega), e1, e2, e3, e4, nI_1]
  rw [show ∀ X : Mem, (mset X 6 0 (nI (n + 1))).1 6 0 = nI (n + 1) from fun X => by rw [mset_same, upd_same], nI_pred]
theorem op_tongue (a b c : Int32) : opI gRel (f_X9_tongue a b c) (f_X10_tongue a b c) := by
  intro M hR
  have bad : ∀ (hx : f_X9_tongue a b c M = f_X9_tongue_50 M) (hm : f_X10_tongue a b c (rfX 0 M) = f_X10_tongue_38 (rfX 0 M)), ∃ r M1 M2, f_X9_tongue a b c M = some (r, M1) ∧ f_X10_tongue a b c M1 = some (r, M2) ∧ gRel M2 := fun hx hm => ⟨-2, rfX 0 M, rfM 0 (rfX 0 M), by rw [hx]; rfl, by rw [hm]; rfl, gRel_rf hR⟩
  cases h1 : inR a 0 15 with
  | false => exact bad (by simp only [f_X9_tongue, ev_isIn, cp_s, if_bI, h1, cond]; rfl) (by simp only [f_X10_tongue, ev_between, cp_s, if_bI, h1, cond])
  | true =>
  cases h2 : inR b 0 15 with
  | false => exact bad (by simp only [f_X9_tongue, ev_isIn, cp_s, if_bI, h1, h2, cond]; rfl) (by simp only [f_X10_tongue, ev_between, cp_s, if_bI, h1, h2, cond])
  | true =>
  cases h3 : inR c 0 15 with
  | false => exact bad (by simp only [f_X9_tongue, ev_isIn, cp_s, if_bI, h1, h2, h3, cond]; rfl) (by simp only [f_X10_tongue, ev_between, cp_s, if_bI, h1, h2, h3, cond])
  | true =>
  by_cases h4 : (a &&& (b ^^^ (-1))) = 0
  case neg => exact bad (by simp only [f_X9_tongue, ev_isIn, cp_s, if_bI, h1, h2, h3, cond]; unfold f_X9_tongue_35; rw [if_neg (by decide), if_neg h4]) (by simp only [f_X10_tongue, ev_between, cp_s, if_bI, h1, h2, h3, cond]; rw [if_neg h4])
  case pos =>
  obtain ⟨⟨⟨i1, i2, i3, i4, i5⟩, m1, m2, m3, m4, m5⟩, -⟩ := id hR
  have hn := nT_le i1
  have e0 : M.1 6 0 = nI (nT (Sv 5 M.1)) := nT_eq i1
  have e1 : M.1 109 0 = nI (nT (Sv 5 M.1)) := by rw [← e0]; exact m1.1
  have ha : U 16 a := (inR_lit (m := 15) (by decide)).mp h1
  have hb : U 16 b := (inR_lit (m := 15) (by decide)).mp h2
  have hc : U 16 c := (inR_lit (m := 15) (by decide)).mp h3
  obtain ⟨a1, a2, a3, a4, a5, a6⟩ := id i1
  obtain ⟨b1, b2, b3, b4, b5⟩ := id m1
  generalize hnn : nT (Sv 5 M.1) = n at *
  by_cases h6 : n = 6
  · subst h6
    refine ⟨-4, rfX 2 M, rfM 2 (rfX 2 M), ?_, ?_, gRel_rf hR⟩
    · simp only [f_X9_tongue, ev_isIn, cp_s, if_bI, h1, h2, h3, cond]
      unfold f_X9_tongue_35
      rw [if_neg (by decide), if_pos h4, e0]; rfl
    · simp only [f_X10_tongue, ev_between, cp_s, if_bI, h1, h2, h3, cond]
      rw [if_pos h4, show (rfX 2 M).1 109 0 = nI 6 by rw [rfX, mset_ne (by omega), e1]]; rfl
  · have hlt : n < 6 := by omega
    have q1 : ∀ X : Mem, X.1 109 0 = nI n → f_X10_tongue a b c X = some (nI n, mset (mset (mset (mset (mset X 113 (4 * n) a) 113 (4 * n + 1) b) 113 (4 * n + 2) c) 113 (4 * n + 3) 0) 109 0 (nI (n + 1))) := by
      intro X hX
      simp only [f_X10_tongue, ev_between, cp_s, if_bI, h1, h2, h3, cond]
      rw [if_pos h4]
      have k1 : (mset X 113 (4 * n) a).1 109 0 = nI n := by rw [mset_ne (by omega), hX]
      have k2 : (mset (mset X 113 (4 * n) a) 113 (4 * n + 1) b).1 109 0 = nI n := by rw [mset_ne (by omega), k1]
      have k3 : (mset (mset (mset X 113 (4 * n) a) 113 (4 * n + 1) b) 113 (4 * n + 2) c).1 109 0 = nI n := by rw [mset_ne (by omega), k2]
      have k4 : (mset (mset (mset (mset X 113 (4 * n) a) 113 (4 * n + 1) b) 113 (4 * n + 2) c) 113 (4 * n + 3) 0).1 109 0 = nI n := by rw [mset_ne (by omega), k3]
      have l1 : nI (4 * n) + 1 = nI (4 * n + 1) := nI_1 _
      have l2 : nI (4 * n) + 2 = nI (4 * n + 2) := nI_add _ 2
      have l3 : nI (4 * n) + 3 = nI (4 * n + 3) := nI_add _ 3
      simp only [hX, if_neg (show ¬ nI n = 6 from fun h => h6 (nI_inj (by omega) (by decide) h)), i4t, l1, l2, l3, ck_n (show 4 * n < 72 by omega), ck_n (show 4 * n + 1 < 72 by omega), ck_n (show 4 * n + 2 < 72 by omega), ck_n (show 4 * n + 3 < 72 by omega), stm_s, nI_clamp (show 4 * n < 2 ^ 31 by omega), nI_clamp (show 4 * n + 1 < 2 ^ 31 by omega), nI_clamp (show 4 * n + 2 < 2 ^ 31 by omega), nI_clamp (show 4 * n + 3 < 2 ^ 31 by omega), k1, k2, k3, k4, nI_1]
    refine ⟨nI n, mset (mset (mset (mset (mset M 7 n a) 8 n b) 9 n c) 10 n 0) 6 0 (nI (n + 1)), _, ?_, q1 _ ?_, ?_⟩
    · simp only [f_X9_tongue, ev_isIn, cp_s, if_bI, h1, h2, h3, cond]
      unfold f_X9_tongue_35
      rw [if_neg (by decide), if_pos h4, if_pos (by rw [e0]; exact nI_lt (b := 6) hlt (by decide)), ev_addTongue hlt e0]; rfl
    · iterate 5 rw [mset_ne (by omega)]
      exact e1
    · have hx : ∀ c', c' ≠ 7 → c' ≠ 8 → c' ≠ 9 → c' ≠ 10 → c' ≠ 6 → c' ≠ 113 → c' ≠ 109 → (mset (mset (mset (mset (mset (mset (mset (mset (mset (mset M 7 n a) 8 n b) 9 n c) 10 n 0) 6 0 (nI (n + 1))) 113 (4 * n) a) 113 (4 * n + 1) b) 113 (4 * n + 2) c) 113 (4 * n + 3) 0) 109 0 (nI (n + 1))).1 c' = M.1 c' := fun c' z1 z2 z3 z4 z5 z6 z7 => by rw [mset_ne z7, mset_ne z6, mset_ne z6, mset_ne z6, mset_ne z6, mset_ne z5, mset_ne z4, mset_ne z3, mset_ne z2, mset_ne z1]
      have hx7 : ∀ j, (mset (mset (mset (mset (mset (mset (mset (mset (mset (mset M 7 n a) 8 n b) 9 n c) 10 n 0) 6 0 (nI (n + 1))) 113 (4 * n) a) 113 (4 * n + 1) b) 113 (4 * n + 2) c) 113 (4 * n + 3) 0) 109 0 (nI (n + 1))).1 113 j = if j = 4 * n + 3 then 0 else if j = 4 * n + 2 then c else if j = 4 * n + 1 then b else if j = 4 * n then a else M.1 113 j := fun j => by simp [mset_at]
      have hnT : nT (Sv 5 (mset (mset (mset (mset (mset (mset (mset (mset (mset (mset M 7 n a) 8 n b) 9 n c) 10 n 0) 6 0 (nI (n + 1))) 113 (4 * n) a) 113 (4 * n + 1) b) 113 (4 * n + 2) c) 113 (4 * n + 3) 0) 109 0 (nI (n + 1))).1) = n + 1 := by
        simp [nT, Sv, mset_at, nI_clamp (show n + 1 < 2 ^ 31 by omega)]
      have hnW : ∀ t, nW (Sv 5 (mset (mset (mset (mset (mset (mset (mset (mset (mset (mset M 7 n a) 8 n b) 9 n c) 10 n 0) 6 0 (nI (n + 1))) 113 (4 * n) a) 113 (4 * n + 1) b) 113 (4 * n + 2) c) 113 (4 * n + 3) 0) 109 0 (nI (n + 1))).1) t = if t = n then 0 else nW (Sv 5 M.1) t := by
        intro t
        by_cases h : t = n
        · subst h; simp [nW, Sv, mset_at]
        · simp [nW, Sv, mset_at, h]
      generalize hM2 : (mset (mset (mset (mset (mset (mset (mset (mset (mset (mset M 7 n a) 8 n b) 9 n c) 10 n 0) 6 0 (nI (n + 1))) 113 (4 * n) a) 113 (4 * n + 1) b) 113 (4 * n + 2) c) 113 (4 * n + 3) 0) 109 0 (nI (n + 1))) = M2 at hx hx7 hnT hnW ⊢
      have y7 : ∀ j, M2.1 7 j = if j = n then a else M.1 7 j := fun j => by rw [← hM2]; simp [mset_at]
      have y8 : ∀ j, M2.1 8 j = if j = n then b else M.1 8 j := fun j => by rw [← hM2]; simp [mset_at]
      have y9 : ∀ j, M2.1 9 j = if j = n then c else M.1 9 j := fun j => by rw [← hM2]; simp [mset_at]
      have y10 : ∀ j, M2.1 10 j = if j = n then 0 else M.1 10 j := fun j => by rw [← hM2]; simp [mset_at]
      have y6 : ∀ j, M2.1 6 j = if j = 0 then nI (n + 1) else M.1 6 j := fun j => by rw [← hM2]; simp [mset_at]
      have y109 : ∀ j, M2.1 109 j = if j = 0 then nI (n + 1) else M.1 109 j := fun j => by rw [← hM2]; simp [mset_at]
      have hmn : Mn M M2 := by
        rw [← hM2]
        exact (((((((((Mn.rf.set (by omega)).set (by omega)).set (by omega)).set (by omega)).set (by omega)).set (Or.inr (Or.inr (Or.inl ⟨by omega, by omega, by show 4 * n < 24; omega⟩)))).set (Or.inr (Or.inr (Or.inl ⟨by omega, by omega, by show 4 * n + 1 < 24; omega⟩)))).set (Or.inr (Or.inr (Or.inl ⟨by omega, by omega, by show 4 * n + 2 < 24; omega⟩)))).set (Or.inr (Or.inr (Or.inl ⟨by omega, by omega, by show 4 * n + 3 < 24; omega⟩)))).set (by decide)
      have z11 : M2.1 11 = M.1 11 := hx 11 (by omega) (by omega) (by omega) (by omega) (by omega) (by omega) (by omega)
      have z12 : M2.1 12 = M.1 12 := hx 12 (by omega) (by omega) (by omega) (by omega) (by omega) (by omega) (by omega)
      have z13 : M2.1 13 = M.1 13 := hx 13 (by omega) (by omega) (by omega) (by omega) (by omega) (by omega) (by omega)
      have z114 : M2.1 114 = M.1 114 := hx 114 (by omega) (by omega) (by omega) (by omega) (by omega) (by omega) (by omega)
      have z118 : M2.1 118 = M.1 118 := hx 118 (by omega) (by omega) (by omega) (by omega) (by omega) (by omega) (by omega)
      have isw : ∀ t w, isW (Sv 5 M2.1) t w ↔ isW (Sv 5 M.1) t w := by
        intro t w
        unfold isW
        rw [hnT, hnW, hnn]
        by_cases h : t = n
        · subst h; simp
        · simp [h]; omega
      refine gRel_T hR hmn (fun c' c1 c2 => hx c' (by omega) (by omega) (by omega) (by omega) (by omega) (by omega) (by omega)) (fun c' c1 c2 c3 c4 c5 => hx c' (by omega) (by omega) (by omega) (by omega) (by omega) c4 c3) (fun j _ => by rw [z118]) ⟨⟨n + 1, by omega, ?_⟩, fun t ht => ?_, fun t ht => ?_, fun t w ht hw => ?_, ?_, ?_⟩ ⟨?_, fun t ht => ?_, fun t w ht hw => ?_, ?_, ?_⟩ ⟨?_, fun j hj => ?_⟩ ⟨?_, fun j hj t w u v g1 g2 g3 g4 => ?_⟩
      · show M2.1 6 0 = _; rw [y6]; rfl
      · show U 9 (M2.1 10 t)
        rw [y10]
        by_cases h : t = n
        · rw [if_pos h]; exact ⟨0, by omega, rfl⟩
        · rw [if_neg h]; exact a2 t ht
      · rw [hnT] at ht
        show U 16 (M2.1 7 t) ∧ U 16 (M2.1 8 t) ∧ U 16 (M2.1 9 t) ∧ M2.1 7 t &&& (M2.1 8 t ^^^ -1) = 0
        rw [y7, y8, y9]
        by_cases h : t = n
        · simp only [if_pos h]; exact ⟨ha, hb, hc, h4⟩
        · simp only [if_neg h]; exact a3 t (by omega)
      · have hq := (isw t w).mp ⟨ht, hw⟩
        show U 256 (M2.1 11 _) ∧ M2.1 11 _ ≠ 0 ∧ U 10 (M2.1 12 _) ∧ U 10 (M2.1 13 _)
        rw [z11, z12, z13]; exact a4 t w (by rw [← hnn]; exact hq.1) hq.2
      · show U 10 (M2.1 6 1); rw [y6]; exact a5
      · show U 10 (M2.1 6 2); rw [y6]; exact a6
      · show M2.1 109 0 = M2.1 6 0; rw [y109, y6, if_pos rfl, if_pos rfl]
      · rw [hnT] at ht
        show M2.1 113 (24 * 0 + 4 * t) = M2.1 7 t ∧ M2.1 113 (24 * 0 + 4 * t + 1) = M2.1 8 t ∧ M2.1 113 (24 * 0 + 4 * t + 2) = M2.1 9 t ∧ M2.1 113 (24 * 0 + 4 * t + 3) = M2.1 10 t
        rw [hx7, hx7, hx7, hx7, y7, y8, y9, y10]
        by_cases h : t = n
        · subst h
          refine ⟨?_, ?_, ?_, ?_⟩
          · rw [if_neg (by omega), if_neg (by omega), if_neg (by omega), if_pos (by omega), if_pos rfl]
          · rw [if_neg (by omega), if_neg (by omega), if_pos (by omega), if_pos rfl]
          · rw [if_neg (by omega), if_pos (by omega), if_pos rfl]
          · rw [if_pos (by omega), if_pos rfl]
        · obtain ⟨w1, w2, w3, w4⟩ := b2 t (by omega)
          refine ⟨?_, ?_, ?_, ?_⟩
          all_goals rw [if_neg (by omega), if_neg (by omega), if_neg (by omega), if_neg (by omega), if_neg h]
          · exact w1
          · exact w2
          · exact w3
          · exact w4
      · have hq := (isw t w).mp ⟨ht, hw⟩
        show M2.1 114 _ = M2.1 11 _ ∧ M2.1 114 _ = M2.1 12 _ ∧ M2.1 114 _ = M2.1 13 _
        rw [z114, z11, z12, z13]; exact b3 t w (by rw [← hnn]; exact hq.1) hq.2
      · show M2.1 118 _ = M2.1 6 1; rw [z118, y6]; exact b4
      · show M2.1 118 _ = M2.1 6 2; rw [z118, y6]; exact b5
      · show U 25 (M2.1 23 0)
        rw [hx 23 (by omega) (by omega) (by omega) (by omega) (by omega) (by omega) (by omega)]; exact i5.1
      · have z23 : M2.1 23 = M.1 23 := hx 23 (by omega) (by omega) (by omega) (by omega) (by omega) (by omega) (by omega)
        have z24 : M2.1 24 = M.1 24 := hx 24 (by omega) (by omega) (by omega) (by omega) (by omega) (by omega) (by omega)
        have z25 : M2.1 25 = M.1 25 := hx 25 (by omega) (by omega) (by omega) (by omega) (by omega) (by omega) (by omega)
        have hj' : j < nQ (Sv 5 M.1) := by have : nQ (Sv 5 M2.1) = nQ (Sv 5 M.1) := by show (M2.1 23 0).toNatClampNeg = _; rw [z23]; rfl
                                           omega
        obtain ⟨t, w, u, v, g1, g2, g3, g4, g5⟩ := i5.2 j hj'
        exact ⟨t, w, u, v, (isw t w).mpr g1, (isw u v).mpr g2, g3, by show M2.1 24 j = _; rw [z24]; exact g4, by show M2.1 25 j = _; rw [z25]; exact g5⟩
      · show M2.1 112 0 = M2.1 23 0
        rw [hx 112 (by omega) (by omega) (by omega) (by omega) (by omega) (by omega) (by omega), hx 23 (by omega) (by omega) (by omega) (by omega) (by omega) (by omega) (by omega)]; exact m5.1
      · have z23 : M2.1 23 = M.1 23 := hx 23 (by omega) (by omega) (by omega) (by omega) (by omega) (by omega) (by omega)
        have z24 : M2.1 24 = M.1 24 := hx 24 (by omega) (by omega) (by omega) (by omega) (by omega) (by omega) (by omega)
        have z25 : M2.1 25 = M.1 25 := hx 25 (by omega) (by omega) (by omega) (by omega) (by omega) (by omega) (by omega)
        have hj' : j < nQ (Sv 5 M.1) := by have : nQ (Sv 5 M2.1) = nQ (Sv 5 M.1) := by show (M2.1 23 0).toNatClampNeg = _; rw [z23]; rfl
                                           omega
        rw [hx 116 (by omega) (by omega) (by omega) (by omega) (by omega) (by omega) (by omega)]
        refine m5.2 j hj' t w u v ((isw t w).mp g1) ((isw u v).mp g2) ?_ ?_
        · have : M2.1 24 j = _ := g3
          rw [z24] at this; exact this
        · have : M2.1 25 j = _ := g4
          rw [z25] at this; exact this
