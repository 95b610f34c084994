/-! pair -/
theorem ev_isAt {M : Mem} {j t w u v t' w' u' v' : Nat} (hj : j < 24) (b1 : t < 100) (b2 : w < 100) (b3 : u < 100) (b4 : v < 100) (c1 : t' < 100) (c2 : w' < 100) (c3 : u' < 100) (c4 : v' < 100) (e1 : M.1 116 (4 * j) = nI t') (e2 : M.1 116 (4 * j + 1) = nI w') (e3 : M.1 116 (4 * j + 2) = nI u') (e4 : M.1 116 (4 * j + 3) = nI v') : f_X10_isAt (nI j) (nI t) (nI w) (nI u) (nI v) M = some (bI (decide (t' = t ∧ w' = w ∧ u' = u ∧ v' = v))) := by
  unfold f_X10_isAt
  rw [i4t, ia1, ia2, ia3, rd_n (by omega), rd_n (by omega), rd_n (by omega), rd_n (by omega), e1, e2, e3, e4]
  by_cases h1 : t' = t
  · by_cases h2 : w' = w
    · by_cases h3 : u' = u
      · by_cases h4 : v' = v
        · rw [if_pos (congrArg nI h1), if_pos (congrArg nI h2), if_pos (congrArg nI h3), if_pos (congrArg nI h4), decide_eq_true ⟨h1, h2, h3, h4⟩]; rfl
        · rw [if_pos (congrArg nI h1), if_pos (congrArg nI h2), if_pos (congrArg nI h3), if_neg (fun h => h4 (nI_inj (by omega) (by omega) h)), decide_eq_false (fun h => h4 h.2.2.2)]; rfl
      · rw [if_pos (congrArg nI h1), if_pos (congrArg nI h2), if_neg (fun h => h3 (nI_inj (by omega) (by omega) h)), decide_eq_false (fun h => h3 h.2.2.1)]; rfl
    · rw [if_pos (congrArg nI h1), if_neg (fun h => h2 (nI_inj (by omega) (by omega) h)), decide_eq_false (fun h => h2 h.2.1)]; rfl
  · rw [if_neg (fun h => h1 (nI_inj (by omega) (by omega) h)), decide_eq_false (fun h => h1 h.1)]; rfl
def prB (S : Nat → Nat → Int32) (A B : Int32) (j : Nat) : Bool := decide ((S 19 j = A ∧ S 20 j = B) ∨ (S 19 j = B ∧ S 20 j = A))
theorem prB_dec {S : Nat → Nat → Int32} {t w u v t' w' u' v' j : Nat} (l3 : t' < 6 ∧ w' < 8) (l4 : u' < 6 ∧ v' < 8) (l1 : t < 6 ∧ w < 8) (l2 : u < 6 ∧ v < 8) (g4 : S 19 j = nI (8 * t' + w')) (g5 : S 20 j = nI (8 * u' + v')) : prB S (nI (8 * t + w)) (nI (8 * u + v)) j = (decide (t' = t ∧ w' = w ∧ u' = u ∧ v' = v) || decide (t' = u ∧ w' = v ∧ u' = t ∧ v' = w)) := by
  unfold prB
  rw [← Bool.decide_or]
  apply decide_eq_decide.mpr
  rw [g4, g5, nI_eq (by omega) (by omega), nI_eq (by omega) (by omega), nI_eq (by omega) (by omega), nI_eq (by omega) (by omega)]
  omega
def hasF (S : Nat → Nat → Int32) (A B : Int32) : Nat → Nat → Bool
  | 0, _ => false
  | d + 1, j => prB S A B j || hasF S A B d (j + 1)
theorem hasF_s {S : Nat → Nat → Int32} {A B : Int32} {d j : Nat} : hasF S A B (d + 1) j = (prB S A B j || hasF S A B d (j + 1)) := rfl
theorem wlt {S : Nat → Nat → Int32} (hT : IvT S) {t w : Nat} (h : isW S t w) : t < 6 ∧ w < 8 := by
  have h6 := nT_le hT
  have := h.1
  have h8 := nW_le hT (show t < 6 by omega)
  have := h.2
  exact ⟨by omega, by omega⟩
theorem has_go {M : Mem} (hT : IvT (St M)) (hQ : IvQ (St M)) {A B : Nat} (hA : A < 48) (hB : B < 48) (hAB : A ≠ B) : ∀ (d F j : Nat), j + d = nQ (St M) → d < F → f_X2_has_2 M (nI A) (nI B) F (nI j) = some (bI (hasF (St M) (nI A) (nI B) d j)) := by
  have h24 := nQ_le hQ
  have e23 : M.1 23 0 = nI (nQ (St M)) := by rw [k23]; exact nQ_eq hQ
  intro d
  induction d with
  | zero =>
    intro F j hj hF
    obtain ⟨F, rfl⟩ : ∃ F', F = F' + 1 := ⟨F - 1, by omega⟩
    show f_X2_has_2_b M (f_X2_has_2 M (nI A) (nI B) F) (nI A) (nI B) (nI j) = _
    unfold f_X2_has_2_b
    rw [e23, if_pos (nI_le (by omega) (by omega))]; rfl
  | succ d ih =>
    intro F j hj hF
    obtain ⟨F, rfl⟩ : ∃ F', F = F' + 1 := ⟨F - 1, by omega⟩
    have step := ih F (j + 1) (by omega) (by omega)
    obtain ⟨t', w', u', v', g1, g2, g3, g4, g5⟩ := hQ.2 j (by omega)
    have l1 := wlt hT g1
    have l2 := wlt hT g2
    show f_X2_has_2_b M (f_X2_has_2 M (nI A) (nI B) F) (nI A) (nI B) (nI j) = _
    unfold f_X2_has_2_b f_X2_behind
    rw [e23, if_neg (nI_ge (by omega) (by omega)), rd_n (by omega), rd_n (by omega), rd_n (by omega), k24, k25, nI_1, step, hasF_s]
    unfold prB
    rw [g4, g5]
    by_cases h1 : nI (8 * t' + w') = nI A
    · rw [if_pos h1, cp_s]
      by_cases h2 : nI (8 * u' + v') = nI B
      · rw [if_pos h2, decide_eq_true (Or.inl ⟨h1, h2⟩)]; rfl
      · rw [if_neg h2, decide_eq_false]
        · rfl
        · rintro (h | ⟨h3, -⟩)
          · exact h2 h.2
          · exact hAB (nI_inj (by omega) (by omega) (h1.symm.trans h3))
    · rw [if_neg h1]
      by_cases h2 : nI (8 * u' + v') = nI A
      · rw [if_pos h2, rd_n (by omega), g4, cp_s]
        by_cases h3 : nI (8 * t' + w') = nI B
        · rw [if_pos h3, decide_eq_true (Or.inr ⟨h3, h2⟩)]; rfl
        · rw [if_neg h3, decide_eq_false]
          · rfl
          · rintro (h | ⟨h4, -⟩)
            · exact h1 h.1
            · exact h3 h4
      · rw [if_neg h2, cp_s, if_neg (show ¬ (-1 : Int32) = nI B from fun h => by
          have : ∀ B, B < 48 → ¬ (-1 : Int32) = nI B := by decide +kernel
          exact this B hB h), decide_eq_false]
        · rfl
        · rintro (h | h)
          · exact h1 h.1
          · exact h2 h.2
theorem pairM_go {M : Mem} (hK : KK M) {t w u v : Nat} (h1 : isW (St M) t w) (h2 : isW (St M) u v) : ∀ (d F j : Nat) (b : Bool), j + d = nQ (St M) → d < F → f_X10_pair_34 (nI t) (nI w) (nI u) (nI v) F (bI b) (nI j) M = f_X10_pair_91 (nI t) (nI w) (nI u) (nI v) (bI (b && !(hasF (St M) (nI (8 * t + w)) (nI (8 * u + v)) d j))) M := by
  have hT := hK.1.1
  have hQ := hK.1.2.2.2.2
  have h24 := nQ_le hQ
  have e112 : M.1 112 0 = nI (nQ (St M)) := by rw [show M.1 112 0 = St M 18 0 from hK.2.2.2.2.2.1]; exact nQ_eq hQ
  have l1 := wlt hT h1
  have l2 := wlt hT h2
  intro d
  induction d with
  | zero =>
    intro F j b hj hF
    obtain ⟨F, rfl⟩ : ∃ F', F = F' + 1 := ⟨F - 1, by omega⟩
    show f_X10_pair_34_b (f_X10_pair_34 (nI t) (nI w) (nI u) (nI v) F) (nI t) (nI w) (nI u) (nI v) (bI b) (nI j) M = _
    unfold f_X10_pair_34_b
    rw [e112, if_pos (nI_le (by omega) (by omega))]
    show _ = f_X10_pair_91 _ _ _ _ (bI (b && true)) M
    rw [Bool.and_true]
  | succ d ih =>
    intro F j b hj hF
    obtain ⟨F, rfl⟩ : ∃ F', F = F' + 1 := ⟨F - 1, by omega⟩
    have s1 := ih F (j + 1) true (by omega) (by omega)
    have s0 := ih F (j + 1) false (by omega) (by omega)
    rw [Bool.true_and] at s1
    rw [Bool.false_and] at s0
    obtain ⟨t', w', u', v', g1, g2, g3, g4, g5⟩ := hQ.2 j (by omega)
    have l3 := wlt hT g1
    have l4 := wlt hT g2
    obtain ⟨q1, q2, q3, q4⟩ := hK.2.2.2.2.2.2 j (by omega) t' w' u' v' g1 g2 g4 g5
    rw [show 96 * 0 + 4 * j = 4 * j by omega] at q1 q2 q3 q4
    show f_X10_pair_34_b (f_X10_pair_34 (nI t) (nI w) (nI u) (nI v) F) (nI t) (nI w) (nI u) (nI v) (bI b) (nI j) M = _
    unfold f_X10_pair_34_b f_X10_pair_82 f_X10_pair_83
    rw [e112, if_neg (nI_ge (by omega) (by omega))]
    cases b with
    | false => rw [Bool.false_and, if_pos (show bI false = 0 from rfl)]
    | true =>
      rw [if_neg (show ¬ bI true = 0 by decide), Bool.true_and, ev_isAt (by omega) (by omega) (by omega) (by omega) (by omega) (by omega) (by omega) (by omega) (by omega) q1 q2 q3 q4, ev_isAt (by omega) (by omega) (by omega) (by omega) (by omega) (by omega) (by omega) (by omega) (by omega) q1 q2 q3 q4, cp_s, if_bI, cp_s, if_bI, nI_1, hasF_s]
      have e1 := prB_dec (S := St M) l3 l4 l1 l2 g4 g5
      rw [e1]
      cases decide (t' = t ∧ w' = w ∧ u' = u ∧ v' = v)
      · cases decide (t' = u ∧ w' = v ∧ u' = t ∧ v' = w)
        · exact s1
        · exact s0
      · exact s0
theorem op_pair (a b c d : Int32) : opI gRel (f_X9_pair a b c d) (f_X10_pair a b c d) := by
  intro M hR
  have hK := KK_of hR
  have hT := hK.1.1
  have hQ := hK.1.2.2.2.2
  have h24 := nQ_le hQ
  have eS : ∀ i, St (rfX i M) = St M := fun i => St_sc (fun c c1 c2 => by rw [rfX, mset_ne (by omega)])
  have hK1 : ∀ i, KK (rfX i M) := fun i => KK_sc hK (fun c c1 c2 => by rw [rfX, mset_ne (by omega)]) (fun c c1 c2 => by rw [rfX, mset_ne (by omega)])
  have m28 : ∀ X, KK X → f_X10_pair_28 a b c d X = some (-2, rfM 0 X) := by
    intro X hX
    have hq24 := nQ_le hX.1.2.2.2.2
    have e112 : X.1 112 0 = nI (nQ (St X)) := by rw [show X.1 112 0 = St X 18 0 from hX.2.2.2.2.2.1]; exact nQ_eq hX.1.2.2.2.2
    unfold f_X10_pair_28 f_X10_pair_29
    show f_X10_pair_34_b (f_X10_pair_34 a b c d 99999) a b c d 0 0 X = _
    unfold f_X10_pair_34_b f_X10_pair_91
    rw [if_pos (show (0 : Int32) = 0 from rfl)]
    simp only [if_pos, ev_bad, cl_s]
    split <;> rfl
  have bad : ∀ (hx : f_X9_pair a b c d M = f_X9_pair_36 M) (hm : f_X10_pair a b c d (rfX 0 M) = f_X10_pair_28 a b c d (rfX 0 M)), ∃ r M1 M2, f_X9_pair a b c d M = some (r, M1) ∧ f_X10_pair a b c d M1 = some (r, M2) ∧ gRel M2 := fun hx hm => ⟨-2, rfX 0 M, rfM 0 (rfX 0 M), by rw [hx]; rfl, by rw [hm, m28 _ (hK1 0)], gRel_rf hR⟩
  by_cases hac : a = c
  · refine bad (by unfold f_X9_pair; rw [if_pos hac]) ?_
    simp only [f_X10_pair, ev_isWord (hK1 0), eS, cp_s, if_bI, if_pos hac]
    cases wdB (St M) a b <;> cases wdB (St M) c d <;> rfl
  cases h1 : wdB (St M) a b with
  | false => exact bad (by unfold f_X9_pair; rw [if_neg hac, ev_hasWord hT, cp_s, if_bI, h1]; rfl) (by unfold f_X10_pair; rw [ev_isWord (hK1 0), eS, cp_s, if_bI, h1]; rfl)
  | true =>
  cases h2 : wdB (St M) c d with
  | false => exact bad (by unfold f_X9_pair; rw [if_neg hac, ev_hasWord hT, cp_s, if_bI, h1, ev_hasWord hT, cp_s, if_bI, h2]; rfl) (by unfold f_X10_pair; rw [ev_isWord (hK1 0), eS, cp_s, if_bI, h1, ev_isWord (hK1 0), eS, cp_s, if_bI, h2]; rfl)
  | true =>
  obtain ⟨t, w, w1, rfl, rfl⟩ := (wdB_iff hT).mp h1
  obtain ⟨u, v, w2, rfl, rfl⟩ := (wdB_iff hT).mp h2
  have l1 := wlt hT w1
  have l2 := wlt hT w2
  have htu : t ≠ u := fun h => hac (by rw [h])
  have eX : f_X9_pair (nI t) (nI w) (nI u) (nI v) M = cond (hasF (St M) (nI (8 * t + w)) (nI (8 * u + v)) (nQ (St M)) 0) (some (-2, rfX 0 M)) (if (M.1 23 0) < (24 : Int32) then f_X2_add (nI (8 * t + w)) (nI (8 * u + v)) M else some (-4, rfX 2 M)) := by
    have hh : f_X2_has (nI (8 * t + w)) (nI (8 * u + v)) M = some (bI (hasF (St M) (nI (8 * t + w)) (nI (8 * u + v)) (nQ (St M)) 0)) := has_go hT hQ (by omega) (by omega) (by omega) (nQ (St M)) FU 0 (by omega) (FU_of (by omega))
    unfold f_X9_pair
    rw [if_neg hac, ev_hasWord hT, cp_s, if_bI, h1, ev_hasWord hT, cp_s, if_bI, h2, i8, i8]
    simp only [cond]
    rw [hh, cp_s, if_bI]
    cases hasF (St M) (nI (8 * t + w)) (nI (8 * u + v)) (nQ (St M)) 0
    · simp only [cond]
      split
      · cases f_X2_add (nI (8 * t + w)) (nI (8 * u + v)) M with
        | none => rfl
        | some x => cases x; rfl
      · rfl
    · rfl
  have eM : ∀ X, KK X → St X = St M → f_X10_pair (nI t) (nI w) (nI u) (nI v) X = f_X10_pair_91 (nI t) (nI w) (nI u) (nI v) (bI (!(hasF (St M) (nI (8 * t + w)) (nI (8 * u + v)) (nQ (St M)) 0))) X := by
    intro X hX hs
    unfold f_X10_pair
    rw [ev_isWord hX, hs, cp_s, if_bI, h1, ev_isWord hX, hs, cp_s, if_bI, h2, if_neg hac]
    have := pairM_go hX (by rw [hs]; exact w1) (by rw [hs]; exact w2) (nQ (St X)) FU 0 true (by omega) (FU_of (by rw [hs]; omega))
    rw [hs, Bool.true_and] at this
    exact this
  cases hf : hasF (St M) (nI (8 * t + w)) (nI (8 * u + v)) (nQ (St M)) 0 with
  | true => exact ⟨-2, rfX 0 M, rfM 0 (rfX 0 M), by rw [eX, hf]; rfl, by rw [eM _ (hK1 0) (eS 0), hf]; rfl, gRel_rf hR⟩
  | false =>
  rw [hf] at eX eM
  obtain ⟨⟨⟨i1, i2, i3, i4, i5⟩, m1, m2, m3, m4, m5⟩, -⟩ := id hR
  have hn : nQ (St M) = nQ (Sv 5 M.1) := rfl
  have e23 : M.1 23 0 = nI (nQ (Sv 5 M.1)) := nQ_eq i5
  have e112 : M.1 112 0 = nI (nQ (Sv 5 M.1)) := by
    have : M.1 112 0 = Sv 5 M.1 18 0 := m5.1
    rw [this]; exact nQ_eq i5
  rw [hn] at h24
  generalize hn' : nQ (Sv 5 M.1) = n at *
  by_cases h8 : n = 24
  · subst h8
    refine ⟨-4, rfX 2 M, rfM 2 (rfX 2 M), ?_, ?_, gRel_rf hR⟩
    · rw [eX, e23]; rfl
    · rw [eM _ (hK1 2) (eS 2)]
      unfold f_X10_pair_91
      rw [if_neg (by decide), show (rfX 2 M).1 112 0 = nI 24 by rw [rfX, mset_ne (by omega), e112]]; rfl
  · have hlt : n < 24 := by omega
    have e1 : f_X9_pair (nI t) (nI w) (nI u) (nI v) M = some (nI n, mset (mset (mset M 24 n (nI (8 * t + w))) 25 n (nI (8 * u + v))) 23 0 (nI (n + 1))) := by
      rw [eX, e23, if_pos (show nI n < 24 from nI_lt (b := 24) hlt (by decide))]
      show f_X2_add (nI (8 * t + w)) (nI (8 * u + v)) M = _
      unfold f_X2_add
      rw [e23, ck_n (by omega), stm_s, nI_clamp (by omega), mset_ne (by omega), e23, ck_n (by omega), stm_s, nI_clamp (by omega), mset_ne (by omega), mset_ne (by omega), e23, nI_1, stm_s]
      rw [show (mset (mset (mset M 24 n (nI (8 * t + w))) 25 n (nI (8 * u + v))) 23 0 (nI (n + 1))).1 23 0 = nI (n + 1) by rw [mset_at, if_pos ⟨rfl, rfl⟩], nI_pred]
    generalize hM1 : mset (mset (mset M 24 n (nI (8 * t + w))) 25 n (nI (8 * u + v))) 23 0 (nI (n + 1)) = M1 at e1
    have y1 : ∀ c' j, M1.1 c' j = if c' = 23 ∧ j = 0 then nI (n + 1) else if c' = 25 ∧ j = n then nI (8 * u + v) else if c' = 24 ∧ j = n then nI (8 * t + w) else M.1 c' j := fun c' j => by rw [← hM1]; simp only [mset_at]
    have y1' : ∀ c', c' ≠ 23 → c' ≠ 24 → c' ≠ 25 → M1.1 c' = M.1 c' := fun c' z1 z2 z3 => by
      funext j; rw [y1, if_neg (by omega), if_neg (by omega), if_neg (by omega)]
    have q2 : f_X10_pair (nI t) (nI w) (nI u) (nI v) M1 = some (nI n, mset (mset (mset (mset (mset M1 116 (4 * n) (nI t)) 116 (4 * n + 1) (nI w)) 116 (4 * n + 2) (nI u)) 116 (4 * n + 3) (nI v)) 112 0 (nI (n + 1))) := by
      have eqM : f_X10_pair (nI t) (nI w) (nI u) (nI v) M1 = f_X10_pair_91 (nI t) (nI w) (nI u) (nI v) 1 M1 := by
        have w9 : f_X10_isWord (nI t) (nI w) M1 = some (bI true) := by
          have : f_X10_isWord (nI t) (nI w) M1 = f_X10_isWord (nI t) (nI w) M := by
            unfold f_X10_isWord f_X10_isTongue
            simp only [y1' 109 (by omega) (by omega) (by omega), y1' 113 (by omega) (by omega) (by omega), ev_between]
          rw [this, ev_isWord hK, h1]
        have w10 : f_X10_isWord (nI u) (nI v) M1 = some (bI true) := by
          have : f_X10_isWord (nI u) (nI v) M1 = f_X10_isWord (nI u) (nI v) M := by
            unfold f_X10_isWord f_X10_isTongue
            simp only [y1' 109 (by omega) (by omega) (by omega), y1' 113 (by omega) (by omega) (by omega), ev_between]
          rw [this, ev_isWord hK, h2]
        unfold f_X10_pair
        rw [w9, w10, cp_s, if_bI, cp_s, if_bI, if_neg hac]
        show f_X10_pair_34 (nI t) (nI w) (nI u) (nI v) FU (bI true) (nI 0) M1 = _
        have go1 : ∀ (d F j : Nat), j + d = n → d < F → hasF (St M) (nI (8 * t + w)) (nI (8 * u + v)) d j = false → f_X10_pair_34 (nI t) (nI w) (nI u) (nI v) F (bI true) (nI j) M1 = f_X10_pair_91 (nI t) (nI w) (nI u) (nI v) 1 M1 := by
          have e112' : M1.1 112 0 = nI n := by rw [y1' 112 (by omega) (by omega) (by omega), e112]
          intro d
          induction d with
          | zero =>
            intro F j hj hF _
            obtain ⟨F, rfl⟩ : ∃ F', F = F' + 1 := ⟨F - 1, by omega⟩
            show f_X10_pair_34_b (f_X10_pair_34 (nI t) (nI w) (nI u) (nI v) F) (nI t) (nI w) (nI u) (nI v) (bI true) (nI j) M1 = _
            unfold f_X10_pair_34_b
            rw [e112', if_pos (nI_le (by omega) (by omega))]; rfl
          | succ d ih =>
            intro F j hj hF hh
            obtain ⟨F, rfl⟩ : ∃ F', F = F' + 1 := ⟨F - 1, by omega⟩
            rw [hasF_s, Bool.or_eq_false_iff] at hh
            have s1 := ih F (j + 1) (by omega) (by omega) hh.2
            obtain ⟨t', w', u', v', g1, g2, g3, g4, g5⟩ := hQ.2 j (by omega)
            have l3 := wlt hT g1
            have l4 := wlt hT g2
            obtain ⟨q1, q2, q3, q4⟩ := hK.2.2.2.2.2.2 j (by omega) t' w' u' v' g1 g2 g4 g5
            rw [show 96 * 0 + 4 * j = 4 * j by omega, ← y1' 116 (by omega) (by omega) (by omega)] at q1 q2 q3 q4
            have e1 := prB_dec (S := St M) l3 l4 l1 l2 g4 g5
            rw [hh.1] at e1
            have e2 := (Bool.or_eq_false_iff.mp e1.symm)
            show f_X10_pair_34_b (f_X10_pair_34 (nI t) (nI w) (nI u) (nI v) F) (nI t) (nI w) (nI u) (nI v) (bI true) (nI j) M1 = _
            unfold f_X10_pair_34_b f_X10_pair_82 f_X10_pair_83
            rw [e112', if_neg (nI_ge (by omega) (by omega)), if_neg (show ¬ bI true = 0 by decide), ev_isAt (by omega) (by omega) (by omega) (by omega) (by omega) (by omega) (by omega) (by omega) (by omega) q1 q2 q3 q4, ev_isAt (by omega) (by omega) (by omega) (by omega) (by omega) (by omega) (by omega) (by omega) (by omega) q1 q2 q3 q4, cp_s, if_bI, cp_s, if_bI, nI_1, e2.1, e2.2]
            exact s1
        exact go1 n FU 0 (by omega) (FU_of (by omega)) (by rw [← hn]; exact hf)
      rw [eqM]
      unfold f_X10_pair_91
      rw [if_neg (by decide), y1' 112 (by omega) (by omega) (by omega), e112, if_neg (show ¬ nI n = 24 from fun h => h8 (nI_inj (by omega) (by decide) h)), i4t, ia1, ia2, ia3]
      rw [ck_n (by omega), stm_s, ck_n (by omega), stm_s, ck_n (by omega), stm_s, ck_n (by omega), stm_s, stm_s, nI_clamp (by omega), nI_clamp (by omega), nI_clamp (by omega), nI_clamp (by omega), mset_ne (by omega), mset_ne (by omega), mset_ne (by omega), mset_ne (by omega), y1' 112 (by omega) (by omega) (by omega), e112, nI_1]
    refine ⟨nI n, M1, _, e1, q2, ?_⟩
    generalize hM2 : mset (mset (mset (mset (mset M1 116 (4 * n) (nI t)) 116 (4 * n + 1) (nI w)) 116 (4 * n + 2) (nI u)) 116 (4 * n + 3) (nI v)) 112 0 (nI (n + 1)) = M2
    have y2 : ∀ c' j, M2.1 c' j = if c' = 112 ∧ j = 0 then nI (n + 1) else if c' = 116 ∧ j = 4 * n + 3 then nI v else if c' = 116 ∧ j = 4 * n + 2 then nI u else if c' = 116 ∧ j = 4 * n + 1 then nI w else if c' = 116 ∧ j = 4 * n then nI t else M1.1 c' j := fun c' j => by rw [← hM2]; simp only [mset_at]
    have y2' : ∀ c', c' ≠ 112 → c' ≠ 116 → M2.1 c' = M1.1 c' := fun c' z1 z2 => by
      funext j; rw [y2, if_neg (by omega), if_neg (by omega), if_neg (by omega), if_neg (by omega), if_neg (by omega)]
    have yo : ∀ c', c' ≠ 112 → c' ≠ 116 → c' ≠ 23 → c' ≠ 24 → c' ≠ 25 → M2.1 c' = M.1 c' := fun c' z1 z2 z3 z4 z5 => by rw [y2' c' z1 z2, y1' c' z3 z4 z5]
    have hmn : Mn M M2 := by
      rw [← hM2, ← hM1]
      exact (((((((Mn.rf.set (by omega)).set (by omega)).set (by omega)).set (Or.inr (Or.inr (Or.inl ⟨by omega, by omega, by show 4 * n < 96; omega⟩)))).set (Or.inr (Or.inr (Or.inl ⟨by omega, by omega, by show 4 * n + 1 < 96; omega⟩)))).set (Or.inr (Or.inr (Or.inl ⟨by omega, by omega, by show 4 * n + 2 < 96; omega⟩)))).set (Or.inr (Or.inr (Or.inl ⟨by omega, by omega, by show 4 * n + 3 < 96; omega⟩)))).set (Or.inr (Or.inr (Or.inl ⟨by omega, by omega, by show 0 < 1; omega⟩)))
    have y23 : M2.1 23 0 = nI (n + 1) := by rw [y2' 23 (by omega) (by omega), y1, if_pos ⟨rfl, rfl⟩]
    have y24 : ∀ j, M2.1 24 j = if j = n then nI (8 * t + w) else M.1 24 j := fun j => by rw [y2' 24 (by omega) (by omega), y1]; by_cases h : j = n <;> simp [h]
    have y25 : ∀ j, M2.1 25 j = if j = n then nI (8 * u + v) else M.1 25 j := fun j => by rw [y2' 25 (by omega) (by omega), y1]; by_cases h : j = n <;> simp [h]
    have y112 : M2.1 112 0 = nI (n + 1) := by rw [y2, if_pos ⟨rfl, rfl⟩]
    have y116 : ∀ j, M2.1 116 j = if j = 4 * n + 3 then nI v else if j = 4 * n + 2 then nI u else if j = 4 * n + 1 then nI w else if j = 4 * n then nI t else M.1 116 j := fun j => by rw [y2, y1' 116 (by omega) (by omega) (by omega)]; simp
    have hnQ : nQ (Sv 5 M2.1) = n + 1 := by show (M2.1 23 0).toNatClampNeg = _; rw [y23, nI_clamp (by omega)]
    have isw : ∀ t' w', isW (Sv 5 M2.1) t' w' ↔ isW (Sv 5 M.1) t' w' := fun t' w' => by
      show (t' < (M2.1 6 0).toNatClampNeg ∧ w' < (M2.1 10 t').toNatClampNeg) ↔ _
      rw [yo 6 (by omega) (by omega) (by omega) (by omega) (by omega), yo 10 (by omega) (by omega) (by omega) (by omega) (by omega)]; exact Iff.rfl
    have w1' : isW (Sv 5 M.1) t w := w1
    have w2' : isW (Sv 5 M.1) u v := w2
    refine gRel_Q hR hmn (fun c' c1 c2 => yo c' (by omega) (by omega) (by omega) (by omega) (by omega)) (fun c' c1 c2 c3 c4 => yo c' c3 c4 (by omega) (by omega) (by omega)) ⟨?_, fun j hj => ?_⟩ ⟨?_, fun j hj t' w' u' v' g1 g2 g3 g4 => ?_⟩
    · show U 25 (M2.1 23 0); rw [y23]; exact ⟨n + 1, by omega, rfl⟩
    · rw [hnQ] at hj
      by_cases h : j = n
      · exact ⟨t, w, u, v, (isw _ _).mpr w1', (isw _ _).mpr w2', htu, by show M2.1 24 j = _; rw [y24, if_pos h], by show M2.1 25 j = _; rw [y25, if_pos h]⟩
      · obtain ⟨t', w', u', v', g1, g2, g3, g4, g5⟩ := i5.2 j (by omega)
        exact ⟨t', w', u', v', (isw _ _).mpr g1, (isw _ _).mpr g2, g3, by show M2.1 24 j = _; rw [y24, if_neg h]; exact g4, by show M2.1 25 j = _; rw [y25, if_neg h]; exact g5⟩
    · show M2.1 112 0 = M2.1 23 0; rw [y112, y23]
    · rw [hnQ] at hj
      have z3 : M2.1 24 j = nI (8 * t' + w') := g3
      have z4 : M2.1 25 j = nI (8 * u' + v') := g4
      rw [y24] at z3
      rw [y25] at z4
      rw [isw] at g1 g2
      have l3 := wlt i1 g1
      have l4 := wlt i1 g2
      rw [show 96 * 0 + 4 * j = 4 * j by omega, y116, y116, y116, y116]
      by_cases h : j = n
      · rw [if_pos h] at z3 z4
        have n1 := nI_inj (by omega) (by omega) z3
        have n2 := nI_inj (by omega) (by omega) z4
        have : t' = t ∧ w' = w ∧ u' = u ∧ v' = v := by omega
        obtain ⟨rfl, rfl, rfl, rfl⟩ := this
        subst h
        refine ⟨?_, ?_, ?_, ?_⟩
        · rw [if_neg (by omega), if_neg (by omega), if_neg (by omega), if_pos rfl]
        · rw [if_neg (by omega), if_neg (by omega), if_pos rfl]
        · rw [if_neg (by omega), if_pos rfl]
        · rw [if_pos rfl]
      · rw [if_neg h] at z3 z4
        have := m5.2 j (by omega) t' w' u' v' g1 g2 z3 z4
        rw [show 96 * 0 + 4 * j = 4 * j by omega] at this
        obtain ⟨v1, v2, v3, v4⟩ := this
        refine ⟨?_, ?_, ?_, ?_⟩
        · rw [if_neg (by omega), if_neg (by omega), if_neg (by omega), if_neg (by omega)]; exact v1
        · rw [if_neg (by omega), if_neg (by omega), if_neg (by omega), if_neg (by omega)]; exact v2
        · rw [if_neg (by omega), if_neg (by omega), if_neg (by omega), if_neg (by omega)]; exact v3
        · rw [if_neg (by omega), if_neg (by omega), if_neg (by omega), if_neg (by omega)]; exact v4
