/-! rings, atFault, worst -/
theorem op_rings (a : Int32) : opI gRel (f_X9_rings a) (f_X10_rings a) := by
  intro M hR
  have hK := KK_of hR
  have hT := hK.1.1
  have hQ := hK.1.2.2.2.2
  cases h1 : inR a 0 1 with
  | false =>
    refine ⟨-2, rfX 0 M, rfM 0 (rfX 0 M), ?_, ?_, gRel_rf hR⟩
    · unfold f_X9_rings
      rw [ev_isIn, cp_s, if_bI, h1, cond_f, ev_rbad, cl_s]
    · unfold f_X10_rings
      rw [ev_between, cp_s, if_bI, h1, cond_f, ev_bad, cl_s]
  | true =>
  obtain ⟨M1, g1, g2, g3⟩ := ev_find hT hQ
  obtain ⟨M2, q1, q2, q3⟩ := ev_allRings (KK_Sc hK (FN_Sc g3))
  rw [St_Sc (FN_Sc g3)] at q2
  have gR : gRel M2 := gRel_sc (gRel_sc hR (FN_Sc g3)) (FC_Sc q3)
  have eX : f_X9_rings a M = if a = 0 then some (tot (St M) 0, M1) else some (tot (St M) 1, M1) := by
    unfold f_X9_rings
    rw [ev_isIn, cp_s, if_bI, h1, cond_t, g1, cl_s, g2.1, g2.2.1]
  have eM : f_X10_rings a M1 = if a = 0 then some (tot (St M) 0, M2) else some (tot (St M) 1, M2) := by
    unfold f_X10_rings
    rw [ev_between, cp_s, if_bI, h1, cond_t, q1, cl_s, q2.1, q2.2.1, A1_tot hT hQ, A1_tot hT hQ]
  by_cases ha : a = 0
  · exact ⟨_, M1, M2, by rw [eX, if_pos ha], by rw [eM, if_pos ha], gR⟩
  · exact ⟨_, M1, M2, by rw [eX, if_neg ha], by rw [eM, if_neg ha], gR⟩
theorem op_atFault (a : Int32) : opI gRel (f_X9_atFault a) (f_X10_atFault a) := by
  intro M hR
  have hK := KK_of hR
  have hT := hK.1.1
  have hQ := hK.1.2.2.2.2
  have h24 := nQ_le hQ
  have e23 : M.1 23 0 = nI (nQ (St M)) := by rw [k23]; exact nQ_eq hQ
  have e112 : ∀ X, KK X → St X = St M → X.1 112 0 = nI (nQ (St M)) := fun X hX hs => by rw [show X.1 112 0 = St X 18 0 from hX.2.2.2.2.2.1, hs]; exact nQ_eq hQ
  cases h1 : inR a 0 (nI (nQ (St M)) - 1) with
  | false =>
    refine ⟨-2, rfX 0 M, rfM 0 (rfX 0 M), ?_, ?_, gRel_rf hR⟩
    · unfold f_X9_atFault
      rw [e23, ev_isIn, cp_s, if_bI, h1, cond_f, ev_rbad, cl_s]
    · unfold f_X10_atFault
      rw [e112 _ (KK_rfX hK) St_rfX, ev_between, cp_s, if_bI, h1, cond_f, ev_bad, cl_s]
  | true =>
  obtain ⟨j, hj, rfl⟩ := (inR_nI (by omega)).mp h1
  obtain ⟨M1, g1, g2, g3⟩ := ev_find hT hQ
  have sc1 := FN_Sc g3
  obtain ⟨A, hA, eA⟩ := tot_le hQ (26 + j)
  obtain ⟨B, hB, eB⟩ := tot_le hQ (2 + j)
  obtain ⟨c1, c2⟩ := g2.2.2 j (by omega)
  rw [eB] at c1
  rw [eA] at c2
  have eX : f_X9_atFault (nI j) M = if nI B = 0 then some (-3, rfX 1 M1) else cl (f_X9_keepFraction (nI A) (nI B) M1) fun _ M2 => some (1, M2) := by
    unfold f_X9_atFault
    rw [e23, ev_isIn, cp_s, if_bI, h1, cond_t, g1, cl_s, rd_n (by omega), rd_n (by omega), rd_n (by omega), c1, c2, ev_rno, cl_s]
  have eM : ∀ X, KK X → St X = St M → ∃ X', FC X X' ∧ f_X10_atFault (nI j) X = if nI B = 0 then some (-3, rfM 1 X') else cl (f_X10_fraction (nI A) (nI B) X') fun _ M2 => some (1, M2) := by
    intro X hX hs
    obtain ⟨X', q1, q2, q3⟩ := ev_allRings hX
    rw [hs] at q2
    obtain ⟨d1, d2⟩ := q2.2.2 j (by omega)
    rw [A1_tot hT hQ, eB] at d1
    rw [A1_tot hT hQ, eA] at d2
    refine ⟨X', q3, ?_⟩
    unfold f_X10_atFault
    rw [e112 X hX hs, ev_between, cp_s, if_bI, h1, cond_t, q1, cl_s, rd_n (by omega), rd_n (by omega), rd_n (by omega), d1, d2, ev_no, cl_s]
  by_cases h0 : B = 0
  · have h0' : nI B = 0 := by rw [h0]; rfl
    obtain ⟨M2, q1, q2⟩ := eM (rfX 1 M1) (KK_rfX (KK_Sc hK sc1)) (by rw [St_rfX, St_Sc sc1])
    exact ⟨-3, rfX 1 M1, rfM 1 M2, by rw [eX, if_pos h0'], by rw [q2, if_pos h0'], gRel_bad hR sc1 (FC_Sc q1)⟩
  · have h0' : ¬ nI B = 0 := nI_ne0 (by omega) (by omega)
    let M1f := mset (mset M1 0 4 (nI (A / Nat.gcd A B))) 0 5 (nI (B / Nat.gcd A B))
    have fr0 : ∀ x, x ≠ 0 → M1f.1 x = M1.1 x := fun x h => by
      show (mset (mset M1 0 4 (nI (A / Nat.gcd A B))) 0 5 (nI (B / Nat.gcd A B))).1 x = _
      rw [mset_ne h, mset_ne h]
    have hS1f : St M1f = St M := by rw [St_sc (fun x c1 c2 => fr0 x (by omega)), St_Sc sc1]
    have hK1f : KK M1f := KK_sc (KK_Sc hK sc1) (fun x c1 c2 => fr0 x (by omega)) (fun x c1 c2 => fr0 x (by omega))
    obtain ⟨M2, p2, p1⟩ := eM M1f hK1f hS1f
    refine ⟨1, M1f, mset (mset M2 108 11 (nI (A / Nat.gcd A B))) 108 12 (nI (B / Nat.gcd A B)), ?_, ?_, ?_⟩
    · rw [eX, if_neg h0', ev_keep (by omega) (by omega) (by omega), cl_s]
    · rw [p1, if_neg h0', ev_fraction (by omega) (by omega) (by omega), cl_s]
    · generalize hM3 : mset (mset M2 108 11 (nI (A / Nat.gcd A B))) 108 12 (nI (B / Nat.gcd A B)) = M3
      have fr3 : ∀ x, x ≠ 108 → M3.1 x = M2.1 x := fun x h => by rw [← hM3, mset_ne h, mset_ne h]
      have frA : ∀ x, x ≠ 0 → x ≠ 108 → x ≠ 127 → x ≠ 128 → M3.1 x = M1.1 x := fun x z1 z2 z3 z4 => by rw [fr3 x z2, p2.1 x z2 z3 z4, fr0 x z1]
      refine gRel_same hR (fun x c1 c2 => by rw [frA x (by omega) (by omega) (by omega) (by omega), g3 x (by omega) (by omega) (by omega)]) (by rw [frA 2 (by omega) (by omega) (by omega) (by omega), g3 2 (by omega) (by omega) (by omega)]) (fun x c1 c2 => by rw [frA x (by omega) (by omega) (by omega) (by omega), g3 x (by omega) (by omega) (by omega)]) (fun i hi => ?_) ?_ ?_
      · rw [frA 3 (by omega) (by omega) (by omega) (by omega), g3 3 (by omega) (by omega) (by omega), frA 120 (by omega) (by omega) (by omega) (by omega), g3 120 (by omega) (by omega) (by omega)]; exact hR.2.2.2.1 i hi
      · have e1 : M3.1 0 4 = nI (A / Nat.gcd A B) := by
          rw [fr3 0 (by omega), p2.1 0 (by omega) (by omega) (by omega)]
          show (mset (mset M1 0 4 (nI (A / Nat.gcd A B))) 0 5 (nI (B / Nat.gcd A B))).1 0 4 = _
          rw [mset_at, if_neg (by omega), mset_at, if_pos ⟨rfl, rfl⟩]
        rw [e1, ← hM3, mset_at, if_neg (by omega), mset_at, if_pos ⟨rfl, rfl⟩]
      · have e1 : M3.1 0 5 = nI (B / Nat.gcd A B) := by
          rw [fr3 0 (by omega), p2.1 0 (by omega) (by omega) (by omega)]
          show (mset (mset M1 0 4 (nI (A / Nat.gcd A B))) 0 5 (nI (B / Nat.gcd A B))).1 0 5 = _
          rw [mset_at, if_pos ⟨rfl, rfl⟩]
        rw [e1, ← hM3, mset_at, if_pos ⟨rfl, rfl⟩]
theorem cmp_le {x y : Int64} : lg_cmp x y ≤ 0 ↔ ¬ y < x := by
  unfold lg_cmp
  by_cases h : y < x
  · rw [if_pos h]
    exact ⟨fun z => absurd z (by decide), fun z => absurd h z⟩
  · rw [if_neg h]
    by_cases h2 : x = y
    · rw [if_pos h2]; exact ⟨fun _ => h, fun _ => by decide⟩
    · rw [if_neg h2]; exact ⟨fun _ => h, fun _ => by decide⟩
theorem prod64 {a b : Nat} (ha : a ≤ 41472) (hb : b ≤ 41472) : ((nI a).toInt64 * (nI b).toInt64).toInt = ((a * b : Nat) : Int) := by
  have h := Nat.mul_le_mul ha hb
  rw [Int64.toInt_mul, Int32.toInt_toInt64, Int32.toInt_toInt64, nI_toInt (by omega), nI_toInt (by omega), ← Int.natCast_mul]
  generalize a * b = p at *
  rw [Int.bmod_eq_of_le] <;> omega
theorem worse_iff {a b c d : Nat} (ha : a ≤ 41472) (hb : b ≤ 41472) (hc : c ≤ 41472) (hd : d ≤ 41472) : (nI a * nI b ≤ nI c * nI d) ↔ (lg_cmp ((nI a).toInt64 * (nI b).toInt64) ((nI c).toInt64 * (nI d).toInt64) ≤ 0) := by
  have h1 := Nat.mul_le_mul ha hb
  have h2 := Nat.mul_le_mul hc hd
  rw [cmp_le, Int64.lt_iff_toInt_lt, prod64 ha hb, prod64 hc hd, nI_mul, nI_mul]
  generalize a * b = p at *
  generalize c * d = q at *
  rw [nI_leI (by omega) (by omega)]
  omega
theorem worst_go {S : Nat → Nat → Int32} (hQ : IvQ S) {M1 M2 : Mem} (e23 : M1.1 23 0 = nI (nQ S)) (e112 : M2.1 112 0 = nI (nQ S)) (h1 : CN (tot S) M1) (h2 : RN (tot S) M2) : ∀ (d F j : Nat) (b : Int32), j + d = nQ S → (b = -1 ∨ ∃ x, x < nQ S ∧ b = nI x) → d < F → ∃ r, f_X9_worst_18 F b (nI j) M1 = some (r, M1) ∧ f_X10_worst_8 F b (nI j) M2 = some (r, M2) := by
  have h24 := nQ_le hQ
  intro d
  induction d with
  | zero =>
    intro F j b hj hb hF
    obtain ⟨F, rfl⟩ : ∃ F', F = F' + 1 := ⟨F - 1, by omega⟩
    refine ⟨b, ?_, ?_⟩
    · show f_X9_worst_18_b (f_X9_worst_18 F) b (nI j) M1 = _
      unfold f_X9_worst_18_b
      rw [e23, if_pos (nI_le (by omega) (by omega))]
    · show f_X10_worst_8_b (f_X10_worst_8 F) b (nI j) M2 = _
      unfold f_X10_worst_8_b
      rw [e112, if_pos (nI_le (by omega) (by omega))]
  | succ d ih =>
    intro F j b hj hb hF
    obtain ⟨F, rfl⟩ : ∃ F', F = F' + 1 := ⟨F - 1, by omega⟩
    obtain ⟨rA, a1, a2⟩ := ih F (j + 1) b (by omega) hb (by omega)
    obtain ⟨rB, b1, b2⟩ := ih F (j + 1) (nI j) (by omega) (Or.inr ⟨j, by omega, rfl⟩) (by omega)
    obtain ⟨p1, p2⟩ := h1.2.2 j (by omega)
    obtain ⟨q1, q2⟩ := h2.2.2 j (by omega)
    have eX : f_X9_worst_18 (F + 1) b (nI j) M1 = if tot S (2 + j) ≤ 0 then some (rA, M1) else if b = -1 then some (rB, M1) else cp (f_X4_isWorse (nI j) b M1) fun v2 => if v2 = 0 then some (rA, M1) else some (rB, M1) := by
      show f_X9_worst_18_b (f_X9_worst_18 F) b (nI j) M1 = _
      unfold f_X9_worst_18_b f_X9_worst_61 f_X9_worst_63
      rw [e23, if_neg (nI_ge (by omega) (by omega)), rd_n (by omega), p1, nI_1, a1, b1]
    have eM : f_X10_worst_8 (F + 1) b (nI j) M2 = if tot S (2 + j) ≤ 0 then some (rA, M2) else if b < 0 then some (rB, M2) else rd 24 (M2.1 128) (nI j) fun v2 => rd 24 (M2.1 127) b fun v3 => rd 24 (M2.1 128) b fun v4 => rd 24 (M2.1 127) (nI j) fun v5 => if (lg_cmp (v2.toInt64 * v3.toInt64) (v4.toInt64 * v5.toInt64)) ≤ (0 : Int32) then some (rA, M2) else some (rB, M2) := by
      show f_X10_worst_8_b (f_X10_worst_8 F) b (nI j) M2 = _
      unfold f_X10_worst_8_b f_X10_worst_69 f_X10_worst_65 f_X10_worst_70
      rw [e112, if_neg (nI_ge (by omega) (by omega)), rd_n (by omega), q1, nI_1, a2, b2]
    rw [eX, eM]
    by_cases hz : tot S (2 + j) ≤ 0
    · exact ⟨rA, by rw [if_pos hz], by rw [if_pos hz]⟩
    · rw [if_neg hz, if_neg hz]
      rcases hb with rfl | ⟨x, hx, rfl⟩
      · exact ⟨rB, by rw [if_pos rfl], by rw [if_pos (by decide)]⟩
      · obtain ⟨s1, s2⟩ := h1.2.2 x (by omega)
        obtain ⟨t1, t2⟩ := h2.2.2 x (by omega)
        obtain ⟨A, hA, eA⟩ := tot_le hQ (26 + j)
        obtain ⟨B, hB, eB⟩ := tot_le hQ (2 + x)
        obtain ⟨C, hC, eC⟩ := tot_le hQ (26 + x)
        obtain ⟨D, hD, eD⟩ := tot_le hQ (2 + j)
        have hw := worse_iff hA hB hC hD
        rw [if_neg (nI_m1 (by omega)), if_neg (nI_pos (by omega))]
        unfold f_X4_isWorse
        rw [rd_n (by omega), rd_n (by omega), rd_n (by omega), rd_n (by omega), rd_n (by omega), rd_n (by omega), rd_n (by omega), rd_n (by omega), p2, s1, s2, p1, q2, t1, t2, q1, eA, eB, eC, eD]
        by_cases hc : nI A * nI B ≤ nI C * nI D
        · exact ⟨rA, by rw [if_pos hc, cp_s, if_pos rfl], by rw [if_pos (hw.mp hc)]⟩
        · exact ⟨rB, by rw [if_neg hc, cp_s, if_neg (by decide)], by rw [if_neg (fun z => hc (hw.mpr z))]⟩
theorem op_worst : opI gRel f_X9_worst f_X10_worst := by
  intro M hR
  have hK := KK_of hR
  have hT := hK.1.1
  have hQ := hK.1.2.2.2.2
  have h24 := nQ_le hQ
  obtain ⟨M1, g1, g2, g3⟩ := ev_find hT hQ
  have sc1 := FN_Sc g3
  have hK1 : KK M1 := KK_Sc hK sc1
  obtain ⟨M2, q1, q2, q3⟩ := ev_allRings hK1
  rw [St_Sc sc1] at q2
  have q2' : RN (tot (St M)) M2 := RN_ext q2 (fun i => A1_tot hT hQ i)
  have e23 : M1.1 23 0 = nI (nQ (St M)) := by rw [g3 23 (by omega) (by omega) (by omega), k23]; exact nQ_eq hQ
  have e112 : M2.1 112 0 = nI (nQ (St M)) := by
    have hK2 := KK_Sc hK1 (FC_Sc q3)
    rw [show M2.1 112 0 = St M2 18 0 from hK2.2.2.2.2.2.1, St_Sc (FC_Sc q3), St_Sc sc1]; exact nQ_eq hQ
  obtain ⟨r, r1, r2⟩ := worst_go hQ e23 e112 g2 q2' (nQ (St M)) FU 0 (-1) (by omega) (Or.inl rfl) (FU_of (by omega))
  refine ⟨r, M1, M2, ?_, ?_, gRel_sc (gRel_sc hR sc1) (FC_Sc q3)⟩
  · unfold f_X9_worst
    rw [g1, cl_s]; exact r1
  · unfold f_X10_worst
    rw [q1, cl_s]; exact r2
