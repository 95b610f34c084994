theorem i8 (t w : Nat) : nI t * 8 + nI w = nI (8 * t + w) := by
  rw [show (8 : Int32) = nI 8 from rfl, nI_mul, nI_add, Nat.mul_comm]
theorem i24 (t w : Nat) : (24 : Int32) * nI t + 3 * nI w = nI (24 * t + 3 * w) := by
  rw [show (24 : Int32) = nI 24 from rfl, show (3 : Int32) = nI 3 from rfl, nI_mul, nI_mul, nI_add]
theorem ia1 (t : Nat) : nI t + 1 = nI (t + 1) := nI_1 t
theorem ia2 (t : Nat) : nI t + 2 = nI (t + 2) := nI_add t 2
theorem ia3 (t : Nat) : nI t + 3 = nI (t + 3) := nI_add t 3
theorem op_word (a b c d : Int32) : opI gRel (f_X9_word a b c d) (f_X10_word a b c d) := by
  intro M hR
  have hK := KK_of hR
  have bad : ∀ (hx : f_X9_word a b c d M = f_X9_word_58 M) (hm : f_X10_word a b c d (rfX 0 M) = f_X10_word_40 (rfX 0 M)), ∃ r M1 M2, f_X9_word a b c d M = some (r, M1) ∧ f_X10_word a b c d M1 = some (r, M2) ∧ gRel M2 := fun hx hm => ⟨-2, rfX 0 M, rfM 0 (rfX 0 M), by rw [hx]; rfl, by rw [hm]; rfl, gRel_rf hR⟩
  have eS : ∀ i, St (rfX i M) = St M := fun i => St_sc (fun c c1 c2 => by rw [rfX, mset_ne (by omega)])
  have hK1 : ∀ i, KK (rfX i M) := fun i => KK_sc hK (fun c c1 c2 => by rw [rfX, mset_ne (by omega)]) (fun c c1 c2 => by rw [rfX, mset_ne (by omega)])
  have hT := hK.1.1
  cases h2 : inR b 1 255 with
  | false => exact bad (by simp only [f_X9_word, ev_isIn, cp_s, if_bI, h2, cond]; rfl) (by
      simp only [f_X10_word, ev_between, ev_isTongue (hK1 0), cp_s, if_bI, h2, cond]; cases tB (St (rfX 0 M)) a <;> rfl)
  | true =>
  cases h3 : inR c 0 9 with
  | false => exact bad (by simp only [f_X9_word, ev_isIn, cp_s, if_bI, h2, h3, cond]; rfl) (by
      simp only [f_X10_word, ev_between, ev_isTongue (hK1 0), cp_s, if_bI, h2, h3, cond]; cases tB (St (rfX 0 M)) a <;> rfl)
  | true =>
  cases h4 : inR d 0 9 with
  | false => exact bad (by simp only [f_X9_word, ev_isIn, cp_s, if_bI, h2, h3, h4, cond]; rfl) (by
      simp only [f_X10_word, ev_between, ev_isTongue (hK1 0), cp_s, if_bI, h2, h3, h4, cond]; cases tB (St (rfX 0 M)) a <;> rfl)
  | true =>
  cases h1 : tB (St M) a with
  | false => exact bad (by simp only [f_X9_word, ev_isIn, cp_s, if_bI, h2, h3, h4, cond]; unfold f_X9_word_37; rw [if_neg (by decide), ev_hasTongue, cp_s, if_bI, h1]; rfl) (by
      simp only [f_X10_word, ev_isTongue (hK1 0), cp_s, if_bI, eS, h1, cond])
  | true =>
  obtain ⟨t, ht, rfl⟩ := (tB_iff hT).mp h1
  obtain ⟨⟨⟨i1, i2, i3, i4, i5⟩, m1, m2, m3, m4, m5⟩, -⟩ := id hR
  have hb := (inR_lit1 (m := 255) (by decide)).mp h2
  have hc : U 10 c := (inR_lit (m := 9) (by decide)).mp h3
  have hd : U 10 d := (inR_lit (m := 9) (by decide)).mp h4
  have h6 : t < 6 := by have := nT_le hT; omega
  have ht' : t < nT (Sv 5 M.1) := ht
  have hw8 := nW_le hT h6
  have e10 : M.1 10 t = nI (nW (St M) t) := by rw [k10]; exact nW_eq hT h6
  have e113 : M.1 113 (4 * t + 3) = nI (nW (St M) t) := by rw [(rm113 hK ht).2.2.2]; exact nW_eq hT h6
  have enw : nW (St M) t = nW (Sv 5 M.1) t := rfl
  rw [enw] at hw8 e10 e113
  generalize hw : nW (Sv 5 M.1) t = w at *
  by_cases h8 : w = 8
  · subst h8
    refine ⟨-4, rfX 2 M, rfM 2 (rfX 2 M), ?_, ?_, gRel_rf hR⟩
    · simp only [f_X9_word, ev_isIn, cp_s, if_bI, h2, h3, h4, cond]
      unfold f_X9_word_37
      rw [if_neg (by decide), ev_hasTongue, cp_s, if_bI, h1]
      simp only [cond]
      rw [rd_n h6, e10]; rfl
    · simp only [f_X10_word, ev_between, ev_isTongue (hK1 2), cp_s, if_bI, eS, h1, h2, h3, h4, cond]
      rw [i4t3, rd_n (by omega), show (rfX 2 M).1 113 (4 * t + 3) = nI 8 by rw [rfX, mset_ne (by omega), e113]]; rfl
  · have hlt : w < 8 := by omega
    have e1 : f_X9_word (nI t) b c d M = some (nI w, mset (mset (mset (mset M 11 (8 * t + w) b) 12 (8 * t + w) c) 13 (8 * t + w) d) 10 t (nI (w + 1))) := by
      simp only [f_X9_word, ev_isIn, cp_s, if_bI, h2, h3, h4, cond]
      unfold f_X9_word_37
      rw [if_neg (by decide), ev_hasTongue, cp_s, if_bI, h1]
      simp only [cond]
      rw [rd_n h6, e10, if_pos (show nI w < 8 from nI_lt (b := 8) hlt (by decide))]
      unfold f_X1_addWord
      rw [rd_n h6, e10]
      simp only [i8, ck_n (show 8 * t + w < 48 by omega), stm_s, nI_clamp (show 8 * t + w < 2 ^ 31 by omega)]
      rw [rd_n h6, ck_n h6, nI_clamp (show t < 2 ^ 31 by omega), mset_ne (by omega), mset_ne (by omega), mset_ne (by omega), e10, nI_1]; rfl
    have q1 : ∀ X : Mem, KK X → St X 1 = St M 1 → X.1 113 (4 * t + 3) = nI w → f_X10_word (nI t) b c d X = some (nI w, mset (mset (mset (mset X 114 (24 * t + 3 * w) b) 114 (24 * t + 3 * w + 1) c) 114 (24 * t + 3 * w + 2) d) 113 (4 * t + 3) (nI (w + 1))) := by
      intro X hX hs hx
      have h1' : tB (St X) (nI t) = true := by unfold tB; rw [hs]; exact h1
      simp only [f_X10_word, ev_between, ev_isTongue hX, cp_s, if_bI, h1', h2, h3, h4, cond]
      rw [i4t3, rd_n (by omega), hx, if_neg (show ¬ nI w = 8 from fun h => h8 (nI_inj (by omega) (by decide) h))]
      simp only [i24, ia1, ia2, ck_n (show 24 * t + 3 * w < 432 by omega), ck_n (show 24 * t + 3 * w + 1 < 432 by omega), ck_n (show 24 * t + 3 * w + 2 < 432 by omega), stm_s, nI_clamp (show 24 * t + 3 * w < 2 ^ 31 by omega), nI_clamp (show 24 * t + 3 * w + 1 < 2 ^ 31 by omega), nI_clamp (show 24 * t + 3 * w + 2 < 2 ^ 31 by omega)]
      rw [rd_n (by omega), ck_n (by omega), nI_clamp (by omega), mset_ne (by omega), mset_ne (by omega), mset_ne (by omega), hx, nI_1]
    generalize hM1 : mset (mset (mset (mset M 11 (8 * t + w) b) 12 (8 * t + w) c) 13 (8 * t + w) d) 10 t (nI (w + 1)) = M1 at e1
    have y1 : ∀ c' j, M1.1 c' j = if c' = 10 ∧ j = t then nI (w + 1) else if c' = 13 ∧ j = 8 * t + w then d else if c' = 12 ∧ j = 8 * t + w then c else if c' = 11 ∧ j = 8 * t + w then b else M.1 c' j := fun c' j => by rw [← hM1]; simp only [mset_at]
    have y1' : ∀ c', c' ≠ 10 → c' ≠ 11 → c' ≠ 12 → c' ≠ 13 → M1.1 c' = M.1 c' := fun c' z1 z2 z3 z4 => by
      funext j; rw [y1, if_neg (by omega), if_neg (by omega), if_neg (by omega), if_neg (by omega)]
    have hT1 : f_X10_isTongue (nI t) M1 = some (bI true) := by
      unfold f_X10_isTongue
      rw [y1' 109 (by omega) (by omega) (by omega) (by omega), ev_between, cp_s, rz_bI, show M.1 109 0 = St M 1 0 from hK.2.1.1]
      exact congrArg (fun z => some (bI z)) h1
    have q2 : f_X10_word (nI t) b c d M1 = some (nI w, mset (mset (mset (mset M1 114 (24 * t + 3 * w) b) 114 (24 * t + 3 * w + 1) c) 114 (24 * t + 3 * w + 2) d) 113 (4 * t + 3) (nI (w + 1))) := by
      have hx : M1.1 113 (4 * t + 3) = nI w := by rw [y1' 113 (by omega) (by omega) (by omega) (by omega), e113]
      simp only [f_X10_word, ev_between, hT1, cp_s, if_bI, h2, h3, h4, cond]
      rw [i4t3, rd_n (by omega), hx, if_neg (show ¬ nI w = 8 from fun h => h8 (nI_inj (by omega) (by decide) h))]
      simp only [i24, ia1, ia2, ck_n (show 24 * t + 3 * w < 432 by omega), ck_n (show 24 * t + 3 * w + 1 < 432 by omega), ck_n (show 24 * t + 3 * w + 2 < 432 by omega), stm_s, nI_clamp (show 24 * t + 3 * w < 2 ^ 31 by omega), nI_clamp (show 24 * t + 3 * w + 1 < 2 ^ 31 by omega), nI_clamp (show 24 * t + 3 * w + 2 < 2 ^ 31 by omega)]
      rw [rd_n (by omega), ck_n (by omega), nI_clamp (by omega), mset_ne (by omega), mset_ne (by omega), mset_ne (by omega), hx, nI_1]
    refine ⟨nI w, M1, _, e1, q2, ?_⟩
    generalize hM2 : mset (mset (mset (mset M1 114 (24 * t + 3 * w) b) 114 (24 * t + 3 * w + 1) c) 114 (24 * t + 3 * w + 2) d) 113 (4 * t + 3) (nI (w + 1)) = M2
    have y2 : ∀ c' j, M2.1 c' j = if c' = 113 ∧ j = 4 * t + 3 then nI (w + 1) else if c' = 114 ∧ j = 24 * t + 3 * w + 2 then d else if c' = 114 ∧ j = 24 * t + 3 * w + 1 then c else if c' = 114 ∧ j = 24 * t + 3 * w then b else M1.1 c' j := fun c' j => by rw [← hM2]; simp only [mset_at]
    have y2' : ∀ c', c' ≠ 113 → c' ≠ 114 → M2.1 c' = M1.1 c' := fun c' z1 z2 => by
      funext j; rw [y2, if_neg (by omega), if_neg (by omega), if_neg (by omega), if_neg (by omega)]
    have yo : ∀ c', c' ≠ 113 → c' ≠ 114 → c' ≠ 10 → c' ≠ 11 → c' ≠ 12 → c' ≠ 13 → M2.1 c' = M.1 c' := fun c' z1 z2 z3 z4 z5 z6 => by rw [y2' c' z1 z2, y1' c' z3 z4 z5 z6]
    have hmn : Mn M M2 := by
      rw [← hM2, ← hM1]
      exact (((((((Mn.rf.set (by omega)).set (by omega)).set (by omega)).set (by omega)).set (Or.inr (Or.inr (Or.inl ⟨by omega, by omega, by show 24 * t + 3 * w < 144; omega⟩)))).set (Or.inr (Or.inr (Or.inl ⟨by omega, by omega, by show 24 * t + 3 * w + 1 < 144; omega⟩)))).set (Or.inr (Or.inr (Or.inl ⟨by omega, by omega, by show 24 * t + 3 * w + 2 < 144; omega⟩)))).set (Or.inr (Or.inr (Or.inl ⟨by omega, by omega, by show 4 * t + 3 < 24; omega⟩)))
    have y10 : ∀ j, M2.1 10 j = if j = t then nI (w + 1) else M.1 10 j := fun j => by rw [y2' 10 (by omega) (by omega), y1]; by_cases h : j = t <;> simp [h]
    have y11 : ∀ j, M2.1 11 j = if j = 8 * t + w then b else M.1 11 j := fun j => by rw [y2' 11 (by omega) (by omega), y1]; by_cases h : j = 8 * t + w <;> simp [h]
    have y12 : ∀ j, M2.1 12 j = if j = 8 * t + w then c else M.1 12 j := fun j => by rw [y2' 12 (by omega) (by omega), y1]; by_cases h : j = 8 * t + w <;> simp [h]
    have y13 : ∀ j, M2.1 13 j = if j = 8 * t + w then d else M.1 13 j := fun j => by rw [y2' 13 (by omega) (by omega), y1]; by_cases h : j = 8 * t + w <;> simp [h]
    have y114 : ∀ j, M2.1 114 j = if j = 24 * t + 3 * w + 2 then d else if j = 24 * t + 3 * w + 1 then c else if j = 24 * t + 3 * w then b else M.1 114 j := fun j => by rw [y2, y1' 114 (by omega) (by omega) (by omega) (by omega)]; simp
    have y113 : ∀ j, M2.1 113 j = if j = 4 * t + 3 then nI (w + 1) else M.1 113 j := fun j => by rw [y2, y1' 113 (by omega) (by omega) (by omega) (by omega)]; simp
    have y6 : M2.1 6 = M.1 6 := yo 6 (by omega) (by omega) (by omega) (by omega) (by omega) (by omega)
    have y7 : M2.1 7 = M.1 7 := yo 7 (by omega) (by omega) (by omega) (by omega) (by omega) (by omega)
    have y8 : M2.1 8 = M.1 8 := yo 8 (by omega) (by omega) (by omega) (by omega) (by omega) (by omega)
    have y9 : M2.1 9 = M.1 9 := yo 9 (by omega) (by omega) (by omega) (by omega) (by omega) (by omega)
    have y23 : M2.1 23 = M.1 23 := yo 23 (by omega) (by omega) (by omega) (by omega) (by omega) (by omega)
    have y24 : M2.1 24 = M.1 24 := yo 24 (by omega) (by omega) (by omega) (by omega) (by omega) (by omega)
    have y25 : M2.1 25 = M.1 25 := yo 25 (by omega) (by omega) (by omega) (by omega) (by omega) (by omega)
    have y109 : M2.1 109 = M.1 109 := yo 109 (by omega) (by omega) (by omega) (by omega) (by omega) (by omega)
    have y112 : M2.1 112 = M.1 112 := yo 112 (by omega) (by omega) (by omega) (by omega) (by omega) (by omega)
    have y116 : M2.1 116 = M.1 116 := yo 116 (by omega) (by omega) (by omega) (by omega) (by omega) (by omega)
    have y118 : M2.1 118 = M.1 118 := yo 118 (by omega) (by omega) (by omega) (by omega) (by omega) (by omega)
    have hnT : nT (Sv 5 M2.1) = nT (Sv 5 M.1) := by show (M2.1 6 0).toNatClampNeg = _; rw [y6]; rfl
    have hnW : ∀ t', nW (Sv 5 M2.1) t' = if t' = t then w + 1 else nW (Sv 5 M.1) t' := fun t' => by
      show (M2.1 10 t').toNatClampNeg = _
      rw [y10]
      by_cases h : t' = t
      · rw [if_pos h, if_pos h, nI_clamp (by omega)]
      · rw [if_neg h, if_neg h]; rfl
    have isw : ∀ t' w', isW (Sv 5 M2.1) t' w' → isW (Sv 5 M.1) t' w' ∨ (t' = t ∧ w' = w) := fun t' w' ⟨g1, g2⟩ => by
      rw [hnT] at g1
      rw [hnW] at g2
      by_cases h : t' = t
      · subst h
        rw [if_pos rfl] at g2
        by_cases h' : w' = w
        · exact Or.inr ⟨rfl, h'⟩
        · exact Or.inl ⟨g1, by rw [hw]; omega⟩
      · rw [if_neg h] at g2; exact Or.inl ⟨g1, g2⟩
    have isw2 : ∀ t' w', isW (Sv 5 M.1) t' w' → isW (Sv 5 M2.1) t' w' := fun t' w' ⟨g1, g2⟩ => by
      refine ⟨by rw [hnT]; exact g1, ?_⟩
      rw [hnW]
      by_cases h : t' = t
      · subst h; rw [if_pos rfl]; omega
      · rw [if_neg h]; exact g2
    have lt8 : ∀ t' w', isW (Sv 5 M.1) t' w' → t' < 6 ∧ w' < 8 := fun t' w' ⟨g1, g2⟩ => by
      have := nT_le i1
      have h' : t' < 6 := by omega
      have := nW_le i1 h'
      exact ⟨h', by omega⟩
    obtain ⟨a1, a2, a3, a4, a5, a6⟩ := id i1
    obtain ⟨b1, b2, b3, b4, b5⟩ := id m1
    refine gRel_T hR hmn (fun c' c1 c2 => yo c' (by omega) (by omega) (by omega) (by omega) (by omega) (by omega)) (fun c' c1 c2 c3 c4 c5 => yo c' c4 c5 (by omega) (by omega) (by omega) (by omega)) (fun j _ => by rw [y118]) ⟨?_, fun t' ht' => ?_, fun t' ht' => ?_, fun t' w' g1 g2 => ?_, ?_, ?_⟩ ⟨?_, fun t' ht' => ?_, fun t' w' g1 g2 => ?_, ?_, ?_⟩ ⟨?_, fun j hj => ?_⟩ ⟨?_, fun j hj t' w' u v g1 g2 g3 g4 => ?_⟩
    · show U 7 (M2.1 6 0); rw [y6]; exact a1
    · show U 9 (M2.1 10 t'); rw [y10]
      by_cases h : t' = t
      · rw [if_pos h]; exact ⟨w + 1, by omega, rfl⟩
      · rw [if_neg h]; exact a2 t' ht'
    · rw [hnT] at ht'
      show U 16 (M2.1 7 t') ∧ U 16 (M2.1 8 t') ∧ U 16 (M2.1 9 t') ∧ M2.1 7 t' &&& (M2.1 8 t' ^^^ -1) = 0
      rw [y7, y8, y9]; exact a3 t' ht'
    · show U 256 (M2.1 11 _) ∧ M2.1 11 _ ≠ 0 ∧ U 10 (M2.1 12 _) ∧ U 10 (M2.1 13 _)
      rw [y11, y12, y13]
      rcases isw t' w' ⟨g1, g2⟩ with h | ⟨rfl, rfl⟩
      · by_cases he : 8 * t' + w' = 8 * t + w
        · simp only [if_pos he]; exact ⟨hb.1, hb.2, hc, hd⟩
        · simp only [if_neg he]; exact a4 t' w' h.1 h.2
      · simp only [if_pos]; exact ⟨hb.1, hb.2, hc, hd⟩
    · show U 10 (M2.1 6 1); rw [y6]; exact a5
    · show U 10 (M2.1 6 2); rw [y6]; exact a6
    · show M2.1 109 0 = M2.1 6 0; rw [y109, y6]; exact b1
    · rw [hnT] at ht'
      obtain ⟨w1, w2, w3, w4⟩ := b2 t' ht'
      have w4' : M.1 113 (4 * t' + 3) = M.1 10 t' := by simpa [Sv] using w4
      show M2.1 113 (24 * 0 + 4 * t') = M2.1 7 t' ∧ M2.1 113 (24 * 0 + 4 * t' + 1) = M2.1 8 t' ∧ M2.1 113 (24 * 0 + 4 * t' + 2) = M2.1 9 t' ∧ M2.1 113 (24 * 0 + 4 * t' + 3) = M2.1 10 t'
      rw [y113, y113, y113, y113, y7, y8, y9, y10, if_neg (by omega), if_neg (by omega), if_neg (by omega)]
      refine ⟨w1, w2, w3, ?_⟩
      by_cases h : t' = t
      · rw [if_pos h, if_pos (by omega)]
      · rw [if_neg h, if_neg (by omega)]; exact w4
    · show M2.1 114 (144 * 0 + 24 * t' + 3 * w') = M2.1 11 _ ∧ M2.1 114 (144 * 0 + 24 * t' + 3 * w' + 1) = M2.1 12 _ ∧ M2.1 114 (144 * 0 + 24 * t' + 3 * w' + 2) = M2.1 13 _
      rw [y114, y114, y114, y11, y12, y13]
      rcases isw t' w' ⟨g1, g2⟩ with h | ⟨rfl, rfl⟩
      · have hl := lt8 t' w' h
        by_cases he : t' = t ∧ w' = w
        · obtain ⟨rfl, rfl⟩ := he
          refine ⟨?_, ?_, ?_⟩
          · rw [if_neg (by omega), if_neg (by omega), if_pos (by omega), if_pos rfl]
          · rw [if_neg (by omega), if_pos (by omega), if_pos rfl]
          · rw [if_pos (by omega), if_pos rfl]
        · obtain ⟨v1, v2, v3⟩ := b3 t' w' h.1 h.2
          refine ⟨?_, ?_, ?_⟩
          · rw [if_neg (by omega), if_neg (by omega), if_neg (by omega), if_neg (by omega)]; exact v1
          · rw [if_neg (by omega), if_neg (by omega), if_neg (by omega), if_neg (by omega)]; exact v2
          · rw [if_neg (by omega), if_neg (by omega), if_neg (by omega), if_neg (by omega)]; exact v3
      · refine ⟨?_, ?_, ?_⟩
        · rw [if_neg (by omega), if_neg (by omega), if_pos (by omega), if_pos rfl]
        · rw [if_neg (by omega), if_pos (by omega), if_pos rfl]
        · rw [if_pos (by omega), if_pos rfl]
    · show M2.1 118 _ = M2.1 6 1; rw [y118, y6]; exact b4
    · show M2.1 118 _ = M2.1 6 2; rw [y118, y6]; exact b5
    · show U 25 (M2.1 23 0); rw [y23]; exact i5.1
    · have hj' : j < nQ (Sv 5 M.1) := by
        have : nQ (Sv 5 M2.1) = nQ (Sv 5 M.1) := by show (M2.1 23 0).toNatClampNeg = _; rw [y23]; rfl
        omega
      obtain ⟨t', w', u, v, g1, g2, g3, g4, g5⟩ := i5.2 j hj'
      exact ⟨t', w', u, v, isw2 _ _ g1, isw2 _ _ g2, g3, by show M2.1 24 j = _; rw [y24]; exact g4, by show M2.1 25 j = _; rw [y25]; exact g5⟩
    · show M2.1 112 0 = M2.1 23 0; rw [y112, y23]; exact m5.1
    · have hj' : j < nQ (Sv 5 M.1) := by
        have : nQ (Sv 5 M2.1) = nQ (Sv 5 M.1) := by show (M2.1 23 0).toNatClampNeg = _; rw [y23]; rfl
        omega
      have z3 : M.1 24 j = nI (8 * t' + w') := by have : M2.1 24 j = _ := g3; rw [y24] at this; exact this
      have z4 : M.1 25 j = nI (8 * u + v) := by have : M2.1 25 j = _ := g4; rw [y25] at this; exact this
      obtain ⟨p, q, r, s, o1, o2, -, o4, o5⟩ := i5.2 j hj'
      have z3' : M.1 24 j = nI (8 * p + q) := o4
      have z4' : M.1 25 j = nI (8 * r + s) := o5
      have l1 := lt8 p q o1
      have l2 := lt8 r s o2
      have l3 : t' < 6 ∧ w' < 8 := by rcases isw t' w' g1 with h | ⟨h, h'⟩
                                      · exact lt8 t' w' h
                                      · omega
      have l4 : u < 6 ∧ v < 8 := by rcases isw u v g2 with h | ⟨h, h'⟩
                                    · exact lt8 u v h
                                    · omega
      have n1 := nI_inj (by omega) (by omega) (z3.symm.trans z3')
      have n2 := nI_inj (by omega) (by omega) (z4.symm.trans z4')
      have : t' = p ∧ w' = q ∧ u = r ∧ v = s := by omega
      obtain ⟨rfl, rfl, rfl, rfl⟩ := this
      rw [y116]
      exact m5.2 j hj' t' w' u v o1 o2 o4 o5
