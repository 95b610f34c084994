/-! the rows, gone through by the other -/
theorem codes_go {M : Mem} {n L : Nat} (e : M.1 109 0 = nI n) (hL : L ≤ 4) : ∀ (d F i : Nat), i + d = L → d < F → f_X10_codes_4 M (nI L) F (nI (n ^ i)) (nI i) = some (nI (n ^ L)) := by
  intro d
  induction d with
  | zero =>
    intro F i hi hF
    obtain ⟨F, rfl⟩ : ∃ F', F = F' + 1 := ⟨F - 1, by omega⟩
    show f_X10_codes_4_b M (f_X10_codes_4 M (nI L) F) (nI L) (nI (n ^ i)) (nI i) = _
    unfold f_X10_codes_4_b
    rw [if_pos (nI_le (by omega) (by omega)), show i = L by omega]
  | succ d ih =>
    intro F i hi hF
    obtain ⟨F, rfl⟩ : ∃ F', F = F' + 1 := ⟨F - 1, by omega⟩
    show f_X10_codes_4_b M (f_X10_codes_4 M (nI L) F) (nI L) (nI (n ^ i)) (nI i) = _
    unfold f_X10_codes_4_b
    rw [if_neg (nI_ge (by omega) (by omega)), e, nI_mul, nI_1, ← Nat.pow_succ, ih F (i + 1) (by omega) (by omega)]
theorem ev_codes {M : Mem} {n L : Nat} (e : M.1 109 0 = nI n) (hL : L ≤ 4) : f_X10_codes (nI L) M = some (nI (n ^ L)) := by
  unfold f_X10_codes
  exact codes_go e hL L FU 0 (by omega) (FU_of (by omega))
theorem divmod_tab : ∀ n, n < 7 → 0 < n → ∀ c, c < 1296 → nI c / nI n = nI (c / n) ∧ nI c % nI n = nI (c % n) := by decide +kernel
/-- the end of a try: the states of a row without a silent one -/
theorem tries_108 {k : Int32} {L n : Nat} {r : Nat → Nat} (hk : U 6 k) (hL : L ≤ 4) : ∀ (d F i : Nat) (M : Mem), KK M → n = nP (St M) → (∀ i, i < L → r i < nT (St M) ∧ 0 < nW (St M) (r i)) → i + d = L → (∀ j, j < L → M.1 126 j = nI (r j)) → RQ n 125 0 (QR (St M) k r i) M → d < F → ∃ M', f_X10_tries_108 k (nI L) 1 F (nI i) M = some (1, M') ∧ RQ n 125 0 (QR (St M) k r L) M' ∧ ∀ c, c ≠ 125 → M'.1 c = M.1 c := by
  intro d
  induction d with
  | zero =>
    intro F i M hK hn hr hi h1 hQ hF
    obtain ⟨F, rfl⟩ : ∃ F', F = F' + 1 := ⟨F - 1, by omega⟩
    refine ⟨M, ?_, by rw [show L = i by omega]; exact hQ, fun _ _ => rfl⟩
    show f_X10_tries_108_b (f_X10_tries_108 k (nI L) 1 F) k (nI L) 1 (nI i) M = _
    unfold f_X10_tries_108_b
    rw [if_pos (nI_le (by omega) (by omega)), rz_1]
  | succ d ih =>
    intro F i M hK hn hr hi h1 hQ hF
    obtain ⟨F, rfl⟩ : ∃ F', F = F' + 1 := ⟨F - 1, by omega⟩
    have hT := hK.1.1
    have hP := hK.1.2.1
    have h6 := nT_le hT
    obtain ⟨r1, r2⟩ := hr i (by omega)
    have e110 : M.1 110 0 = nI n := by rw [rm110 hK, hn]; exact nP_eq hP
    obtain ⟨M1, g1, g2, g3, g4⟩ := ev_carries (q := 125) (len := 16) (a := 0) (b := 0) (n := n) (k := k) (by omega) (by omega) (by omega) (by omega) (by omega) (by rw [hn]; exact nP_le hP) hk hK r1 r2 e110 (by rw [hn]; exact QR_ok hT hP i (fun j hj => hr j (by omega))) hQ
    have hS : St M1 = St M := St_sc (fun c c1 c2 => g3 c (by omega))
    have hK1 : KK M1 := KK_sc hK (fun c c1 c2 => g3 c (by omega)) (fun c c1 c2 => g3 c (by omega))
    obtain ⟨M', q1, q2, q3⟩ := ih F (i + 1) M1 hK1 (by rw [hS]; exact hn) (by rw [hS]; exact hr) (by omega) (fun j hj => by rw [g3 126 (by omega)]; exact h1 j hj) (by rw [hS, QR_s (by omega)]; exact g2) (by omega)
    rw [hS] at q2
    refine ⟨M', ?_, q2, fun c hc => (q3 c hc).trans (g3 c hc)⟩
    show f_X10_tries_108_b (f_X10_tries_108 k (nI L) 1 F) k (nI L) 1 (nI i) M = _
    unfold f_X10_tries_108_b
    have g1' : f_X10_carries 125 16 125 16 0 0 (nI (r i)) k M = some ((), M1) := g1
    rw [if_neg (nI_ge (by omega) (by omega)), if_neg (by decide), rd_n (by omega), h1 i (by omega), g1', cl_s, nI_1, q1]
theorem tries_78 {k x2 x5 : Int32} : ∀ (d F i : Nat) (M : Mem), i + d = 16 → d < F → ∃ M', f_X10_tries_78 k x2 x5 F (nI i) M = f_X10_tries_108 k x2 x5 FU 0 M' ∧ (∀ x, M'.1 125 x = if i ≤ x ∧ x < 16 then M.1 117 x else M.1 125 x) ∧ ∀ c, c ≠ 125 → M'.1 c = M.1 c := by
  intro d
  induction d with
  | zero =>
    intro F i M hi hF
    obtain ⟨F, rfl⟩ : ∃ F', F = F' + 1 := ⟨F - 1, by omega⟩
    refine ⟨M, ?_, fun x => by rw [if_neg (by omega)], fun _ _ => rfl⟩
    show f_X10_tries_78_b (f_X10_tries_78 k x2 x5 F) k x2 x5 (nI i) M = _
    unfold f_X10_tries_78_b
    rw [if_pos (show (16 : Int32) ≤ nI i from nI_le (a := 16) (by omega) (by omega))]
  | succ d ih =>
    intro F i M hi hF
    obtain ⟨F, rfl⟩ : ∃ F', F = F' + 1 := ⟨F - 1, by omega⟩
    obtain ⟨M', q1, q2, q3⟩ := ih F (i + 1) (mset M 125 i (M.1 117 i)) (by omega) (by omega)
    refine ⟨M', ?_, fun x => ?_, fun c hc => by rw [q3 c hc, mset_ne hc]⟩
    · show f_X10_tries_78_b (f_X10_tries_78 k x2 x5 F) k x2 x5 (nI i) M = _
      unfold f_X10_tries_78_b
      rw [if_neg (show ¬ (16 : Int32) ≤ nI i from nI_ge (b := 16) (by omega) (by omega)), rd_n (by omega), ck_n (by omega), stm_s, nI_clamp (by omega), nI_1, q1]
    · rw [q2, mset_ne (show 117 ≠ 125 by omega), mset_at]
      by_cases h : x = i
      · rw [if_neg (by omega), if_pos ⟨rfl, h⟩, if_pos (by omega), h]
      · by_cases h2 : i + 1 ≤ x ∧ x < 16
        · rw [if_pos h2, if_pos (by omega)]
        · rw [if_neg h2, if_neg (by omega), if_neg (by omega)]
theorem tries_11 {k : Int32} {L : Nat} (hL : L ≤ 4) : ∀ (x F c : Nat) (b : Bool) (M : Mem), KK M → (0 < x → 0 < nT (St M)) → c < nT (St M) ^ x → x ≤ L → x < F → ∃ M', f_X10_tries_11 k (nI L) F (nI c) (bI b) (nI x - 1) M = f_X10_tries_78 k (nI L) (bI (b && vld (St M) x c)) FU 0 M' ∧ (∀ i, M'.1 126 i = if i < x then nI (dg (St M) x c i) else M.1 126 i) ∧ ∀ c, c ≠ 126 → M'.1 c = M.1 c := by
  intro x
  induction x with
  | zero =>
    intro F c b M hK hn hc hx hF
    obtain ⟨F, rfl⟩ : ∃ F', F = F' + 1 := ⟨F - 1, by omega⟩
    refine ⟨M, ?_, fun i => by rw [if_neg (by omega)], fun _ _ => rfl⟩
    show f_X10_tries_11_b (f_X10_tries_11 k (nI L) F) k (nI L) (nI c) (bI b) (nI 0 - 1) M = _
    unfold f_X10_tries_11_b
    rw [if_pos (by decide)]
    show _ = f_X10_tries_78 k (nI L) (bI (b && true)) FU 0 M
    rw [Bool.and_true]
  | succ x ih =>
    intro F c b M hK hn hc hx hF
    obtain ⟨F, rfl⟩ : ∃ F', F = F' + 1 := ⟨F - 1, by omega⟩
    have hT := hK.1.1
    have h6 := nT_le hT
    have hn0 := hn (by omega)
    have hc13 : c < 1296 := Nat.lt_of_lt_of_le hc (pow_le h6 (by omega))
    obtain ⟨d1, d2⟩ := divmod_tab (nT (St M)) (by omega) hn0 c hc13
    have hmod := Nat.mod_lt c hn0
    rw [Nat.pow_succ] at hc
    have hq : c / nT (St M) < nT (St M) ^ x := Nat.div_lt_of_lt_mul (by rw [Nat.mul_comm]; exact hc)
    have e109 : M.1 109 0 = nI (nT (St M)) := by rw [show M.1 109 0 = St M 1 0 from hK.2.1.1]; exact nT_eq hT
    have hz : ¬ nI (nT (St M)) = 0 := nI_ne0 hn0 (by omega)
    have hM1 : ∀ c', c' ≠ 126 → (mset M 126 x (nI (c % nT (St M)))).1 c' = M.1 c' := fun c' h => mset_ne h
    have hS1 : St (mset M 126 x (nI (c % nT (St M)))) = St M := St_set (by omega)
    have hK1 : KK (mset M 126 x (nI (c % nT (St M)))) := KK_sc hK (fun c c1 c2 => hM1 c (by omega)) (fun c c1 c2 => hM1 c (by omega))
    obtain ⟨M', g1, g2, g3⟩ := ih F (c / nT (St M)) (b && vc (St M) (c % nT (St M))) (mset M 126 x (nI (c % nT (St M)))) hK1 (fun _ => by rw [hS1]; exact hn0) (by rw [hS1]; exact hq) (by omega) (by omega)
    rw [hS1] at g1 g2
    refine ⟨M', ?_, fun i => ?_, fun c' hc' => by rw [g3 c' hc', hM1 c' hc']⟩
    · rw [vld_s, ← Bool.and_assoc, ← g1]
      show f_X10_tries_11_b (f_X10_tries_11 k (nI L) F) k (nI L) (nI c) (bI b) (nI (x + 1) - 1) M = _
      unfold f_X10_tries_11_b f_X10_tries_66 f_X10_tries_67
      rw [nI_pred, if_neg (nI_pos (by omega)), e109, dz_n hz, ck_n (by omega), stm_s, nI_clamp (by omega), d2, hM1 109 (by omega), e109, dz_n hz, d1, add_m1]
      cases b with
      | false => rw [if_pos (show bI false = 0 from rfl), Bool.false_and, bI_f]
      | true =>
        rw [if_neg (show ¬ bI true = 0 by decide), Bool.true_and, rd_n (by omega), mset_at, if_pos ⟨rfl, rfl⟩, ev_speaks hK1, hS1, spB_nI hT hmod, cp_s, if_bI]
        unfold vc
        cases decide (0 < nW (St M) (c % nT (St M)))
        · rw [cond_f, bI_f]
        · rw [cond_t, bI_t]
    · rw [g2]
      by_cases h : i < x
      · rw [if_pos h, if_pos (by omega), dg_s, if_neg (by omega)]
      · rw [if_neg h, mset_at]
        by_cases h2 : i = x
        · rw [if_pos ⟨rfl, h2⟩, if_pos (by omega), dg_s, if_pos h2]
        · rw [if_neg (by omega), if_neg (by omega)]
theorem RQ_117 {M : Mem} (hK : KK M) : RQ (nP (St M)) 117 0 (Q0 (St M)) M := by
  have hP := hK.1.2.1
  obtain ⟨b1, b2, b3, b4, b5⟩ := hK.2.2.1
  refine ⟨fun p hp => ⟨?_, ?_⟩, fun p hp hp2 => ⟨?_, ?_⟩, fun f hf => ?_⟩
  · have := b2 p hp; rw [show Q0 (St M) 0 p = St M 10 p from rfl]; simpa using this
  · have := b4 p (by have := nP_le hP; omega); rw [show Q0 (St M) 1 p = -1 from (hP.2.1 p hp).2.2]; simpa using this
  · have := b3 p hp hp2; simpa using this
  · have := b4 p hp2; simpa using this
  · have := b5 f hf; rw [show Q0 (St M) 2 f = St M 12 f from rfl]; simpa using this
theorem ev_tries {k : Int32} {L c : Nat} {M : Mem} (hK : KK M) (hk : U 6 k) (hL : L ≤ 4) (hn : 0 < L → 0 < nT (St M)) (hc : c < nT (St M) ^ L) : ∃ M', f_X10_tries k (nI L) (nI c) M = some (bI (vld (St M) L c), M') ∧ (vld (St M) L c = true → RQ (nP (St M)) 125 0 (QR (St M) k (dg (St M) L c) L) M' ∧ ∀ i, i < L → M'.1 126 i = nI (dg (St M) L c i)) ∧ ∀ c, c ≠ 125 → c ≠ 126 → M'.1 c = M.1 c := by
  have hT := hK.1.1
  have hP := hK.1.2.1
  obtain ⟨M1, g1, g2, g3⟩ := tries_11 (k := k) hL L FU c true M hK hn hc (Nat.le_refl _) (FU_of (by omega))
  rw [Bool.true_and] at g1
  obtain ⟨M2, q1, q2, q3⟩ := tries_78 (k := k) (x2 := nI L) (x5 := bI (vld (St M) L c)) 16 FU 0 M1 (by omega) (FU_of (by omega))
  have hS2 : St M2 = St M := by rw [St_sc (fun c c1 c2 => q3 c (by omega)), St_sc (fun c c1 c2 => g3 c (by omega))]
  have hK2 : KK M2 := KK_sc hK (fun c c1 c2 => by rw [q3 c (by omega), g3 c (by omega)]) (fun c c1 c2 => by rw [q3 c (by omega), g3 c (by omega)])
  have eX : f_X10_tries k (nI L) (nI c) M = f_X10_tries_108 k (nI L) (bI (vld (St M) L c)) FU 0 M2 := by
    unfold f_X10_tries
    exact g1.trans q1
  cases hv : vld (St M) L c with
  | false =>
    rw [hv] at eX
    refine ⟨M2, ?_, (fun h => by cases h), fun c h1 h2 => by rw [q3 c h1, g3 c h2]⟩
    rw [eX]
    show f_X10_tries_108_b (f_X10_tries_108 k (nI L) (bI false) 99999) k (nI L) (bI false) 0 M2 = _
    unfold f_X10_tries_108_b
    rw [if_pos (show bI false = 0 from rfl), rz_bI]
    split <;> rfl
  | true =>
    rw [hv] at eX
    have hr : ∀ i, i < L → dg (St M) L c i < nT (St M) ∧ 0 < nW (St M) (dg (St M) L c i) := fun i hi => ⟨dg_lt (hn (by omega)) L c i, by have := dg_vc L c i hv hi; unfold vc at this; simpa using this⟩
    have h126 : ∀ j, j < L → M2.1 126 j = nI (dg (St M) L c j) := fun j hj => by rw [q3 126 (by omega), g2, if_pos hj]
    have hQ0 : RQ (nP (St M)) 125 0 (Q0 (St M)) M2 := by
      obtain ⟨a1, a2, a3⟩ := RQ_117 hK
      have e : ∀ x, x < 16 → M2.1 125 x = M.1 117 x := fun x hx => by rw [q2, if_pos (by omega), g3 117 (by omega)]
      have h6 := nP_le hP
      refine ⟨fun p hp => ?_, fun p hp hp2 => ?_, fun f hf => ?_⟩
      · rw [e _ (by omega), e _ (by omega)]; exact a1 p hp
      · rw [e _ (by omega), e _ (by omega)]; exact a2 p hp hp2
      · rw [e _ (by omega)]; exact a3 f hf
    obtain ⟨M3, p1, p2, p3⟩ := tries_108 (k := k) (L := L) (n := nP (St M)) (r := dg (St M) L c) hk hL L FU 0 M2 hK2 (by rw [hS2]) (by rw [hS2]; exact hr) (by omega) h126 (by rw [hS2]; exact hQ0) (FU_of (by omega))
    rw [hS2] at p2
    refine ⟨M3, eX.trans p1, fun _ => ⟨p2, fun i hi => by rw [p3 126 (by omega)]; exact h126 i hi⟩, fun c h1 h2 => by rw [p3 c h1, q3 c h1, g3 c h2]⟩
