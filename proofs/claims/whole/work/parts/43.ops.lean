theorem F3_iff {x : Int32} : inR x (-1) 1 = true ↔ F3 x := by
  rw [inR_iff, Int32.le_iff_toInt_le, Int32.le_iff_toInt_le]
  unfold F3
  rw [← Int32.toInt_inj, ← Int32.toInt_inj, ← Int32.toInt_inj]
  show (-1 : Int) ≤ _ ∧ _ ≤ (1 : Int) ↔ x.toInt = -1 ∨ x.toInt = 0 ∨ x.toInt = 1
  omega
theorem F4_iff {x : Int32} : inR x (-2) 1 = true ↔ F4 x := by
  rw [inR_iff, Int32.le_iff_toInt_le, Int32.le_iff_toInt_le]
  unfold F4 F3
  rw [← Int32.toInt_inj, ← Int32.toInt_inj, ← Int32.toInt_inj, ← Int32.toInt_inj]
  show (-2 : Int) ≤ _ ∧ _ ≤ (1 : Int) ↔ x.toInt = -2 ∨ x.toInt = -1 ∨ x.toInt = 0 ∨ x.toInt = 1
  omega
theorem op_form (a b : Int32) : opI gRel (f_X9_form a b) (f_X10_form a b) := by
  intro M hR
  cases h1 : inR a 0 3 with
  | false => exact ⟨-10, rfX 0 M, rfM 0 (rfX 0 M), by simp only [f_X9_form, ev_isIn, cp_s, if_bI, h1, cond, f_X9_form_18, ev_refuse_bad, cl_s], by simp only [f_X10_form, ev_between, cp_s, if_bI, h1, cond, f_X10_form_18, ev_bad, cl_s], gRel_rf hR⟩
  | true =>
  cases h2 : inR b (-1) 1 with
  | false => exact ⟨-10, rfX 0 M, rfM 0 (rfX 0 M), by simp only [f_X9_form, ev_isIn, cp_s, if_bI, h1, h2, cond, f_X9_form_18, ev_refuse_bad, cl_s], by simp only [f_X10_form, ev_between, cp_s, if_bI, h1, h2, cond, f_X10_form_18, ev_bad, cl_s], gRel_rf hR⟩
  | true =>
  obtain ⟨⟨⟨i1, i2, i3, i4, i5⟩, m1, m2, m3, m4, m5⟩, -⟩ := id hR
  have hb : F3 b := F3_iff.mp h2
  obtain ⟨k, hk, rfl⟩ := (inR_lit (m := 3) (by decide)).mp h1
  obtain ⟨a1, a2, a3⟩ := i2
  obtain ⟨b1, b2, b3, b4, b5⟩ := m2
  have e12 : (12 : Int32) + nI k = nI (12 + k) := nI_add 12 k
  have eR : M.1 117 (12 + k) = M.1 17 k := by have := b5 k hk; simpa [Sv] using this
  refine ⟨M.1 17 k, mset M 17 k b, mset (mset M 17 k b) 117 (12 + k) b, ?_, ?_, gRel_P hR ((Mn.rf.set (by omega)).set (Or.inr (Or.inr (Or.inl ⟨by omega, by omega, by show 12 + k < 16; omega⟩)))) (fun c _ _ _ => by rw [mset_ne (by omega), mset_ne (by omega)]) (fun c _ _ _ _ => by rw [mset_ne (by omega), mset_ne (by omega)]) ⟨?_, ?_, fun f hf => ?_⟩ ⟨?_, ?_, ?_, ?_, fun f hf => ?_⟩⟩
  · simp only [f_X9_form, ev_isIn, cp_s, if_bI, h1, h2, cond]
    rw [rd_n hk, ck_n hk, nI_clamp (by omega)]; rfl
  · simp only [f_X10_form, ev_between, cp_s, if_bI, h1, h2, cond, e12]
    rw [rd_n (by omega), ck_n (by omega), nI_clamp (by omega), mset_ne (by omega), eR]; rfl
  · simpa [Sv, mset_at] using a1
  · simpa [Sv, mset_at, nP] using a2
  · by_cases h : f = k
    · subst h; simpa [Sv, mset_at] using hb
    · simpa [Sv, mset_at, h] using a3 f hf
  · simpa [Sv, mset_at] using b1
  · intro p hp
    have := nP_le ⟨a1, a2, a3⟩
    have hp' : p < nP (Sv 5 M.1) := by simpa [Sv, mset_at, nP] using hp
    have hne : ¬ p = 12 + k := by omega
    simpa [Sv, mset_at, hne] using b2 p hp'
  · intro p hp hp6
    have hp' : nP (Sv 5 M.1) ≤ p := by simpa [Sv, mset_at, nP] using hp
    have hne : ¬ p = 12 + k := by omega
    simpa [Sv, mset_at, hne] using b3 p hp' hp6
  · intro p hp
    have hne : ¬ 6 + p = 12 + k := by omega
    simpa [Sv, mset_at, hne] using b4 p hp
  · by_cases h : f = k
    · subst h; simp [Sv, mset_at]
    · have hne : ¬ 12 + f = 12 + k := by omega
      simpa [Sv, mset_at, h, hne] using b5 f hf
theorem op_end (a b : Int32) : opI gRel (f_X9_end a b) (f_X10_end a b) := by
  intro M hR
  cases h1 : inR a 0 5 with
  | false => exact ⟨-2, rfX 0 M, rfM 0 (rfX 0 M), by simp only [f_X9_end, ev_isIn, cp_s, if_bI, h1, cond, f_X9_end_20, ev_rbad, cl_s], by simp only [f_X10_end, ev_between, cp_s, if_bI, h1, cond, f_X10_end_20, ev_bad, cl_s], gRel_rf hR⟩
  | true =>
  cases h2 : inR b 0 255 with
  | false => exact ⟨-2, rfX 0 M, rfM 0 (rfX 0 M), by simp only [f_X9_end, ev_isIn, cp_s, if_bI, h1, h2, cond, f_X9_end_20, ev_rbad, cl_s], by simp only [f_X10_end, ev_between, cp_s, if_bI, h1, h2, cond, f_X10_end_20, ev_bad, cl_s], gRel_rf hR⟩
  | true =>
  obtain ⟨⟨⟨i1, i2, i3, i4, i5⟩, m1, m2, m3, m4, m5⟩, -⟩ := id hR
  have hb : U 256 b := (inR_lit (m := 255) (by decide)).mp h2
  obtain ⟨k, hk, rfl⟩ := (inR_lit (m := 5) (by decide)).mp h1
  have eR : M.1 118 k = M.1 21 k := by have := m4.1 k hk; simpa [Sv] using this
  refine ⟨M.1 21 k, mset M 21 k b, mset (mset M 21 k b) 118 k b, ?_, ?_, gRel_E hR ((Mn.rf.set (by omega)).set (Or.inr (Or.inr (Or.inl ⟨by omega, by omega, by show k < 12; omega⟩)))) (fun c _ _ _ => by rw [mset_ne (by omega), mset_ne (by omega)]) (fun c _ _ => by rw [mset_ne (by omega), mset_ne (by omega)]) (by simp [mset_at]; omega) (by simp [mset_at]; omega) ⟨fun p hp => ?_, fun f hf => ?_⟩ ⟨fun p hp => ?_, fun f hf => ?_⟩⟩
  · simp only [f_X9_end, ev_isIn, cp_s, if_bI, h1, h2, cond]
    rw [rd_n hk, ck_n hk, nI_clamp (by omega)]; rfl
  · simp only [f_X10_end, ev_between, cp_s, if_bI, h1, h2, cond]
    rw [rd_n (by omega), ck_n (by omega), nI_clamp (by omega), mset_ne (by omega), eR]; rfl
  · by_cases h : p = k
    · subst h; simpa [Sv, mset_at] using hb
    · simpa [Sv, mset_at, h] using i4.1 p hp
  · simpa [Sv, mset_at] using i4.2 f hf
  · by_cases h : p = k
    · subst h; simp [Sv, mset_at]
    · simpa [Sv, mset_at, h] using m4.1 p hp
  · have hne : ¬ 6 + f = k := by omega
    simpa [Sv, mset_at, hne] using m4.2 f hf
theorem op_endForm (a b : Int32) : opI gRel (f_X9_endForm a b) (f_X10_endForm a b) := by
  intro M hR
  cases h1 : inR a 0 3 with
  | false => exact ⟨-10, rfX 0 M, rfM 0 (rfX 0 M), by simp only [f_X9_endForm, ev_isIn, cp_s, if_bI, h1, cond, f_X9_endForm_19, ev_refuse_bad, cl_s], by simp only [f_X10_endForm, ev_between, cp_s, if_bI, h1, cond, f_X10_endForm_19, ev_bad, cl_s], gRel_rf hR⟩
  | true =>
  cases h2 : inR b (-2) 1 with
  | false => exact ⟨-10, rfX 0 M, rfM 0 (rfX 0 M), by simp only [f_X9_endForm, ev_isIn, cp_s, if_bI, h1, h2, cond, f_X9_endForm_19, ev_refuse_bad, cl_s], by simp only [f_X10_endForm, ev_between, cp_s, if_bI, h1, h2, cond, f_X10_endForm_19, ev_bad, cl_s], gRel_rf hR⟩
  | true =>
  obtain ⟨⟨⟨i1, i2, i3, i4, i5⟩, m1, m2, m3, m4, m5⟩, -⟩ := id hR
  have hb : F4 b := F4_iff.mp h2
  obtain ⟨k, hk, rfl⟩ := (inR_lit (m := 3) (by decide)).mp h1
  have e6 : (6 : Int32) + nI k = nI (6 + k) := nI_add 6 k
  have eR : M.1 118 (6 + k) = M.1 22 k := by have := m4.2 k hk; simpa [Sv] using this
  refine ⟨M.1 22 k, mset M 22 k b, mset (mset M 22 k b) 118 (6 + k) b, ?_, ?_, gRel_E hR ((Mn.rf.set (by omega)).set (Or.inr (Or.inr (Or.inl ⟨by omega, by omega, by show 6 + k < 12; omega⟩)))) (fun c _ _ _ => by rw [mset_ne (by omega), mset_ne (by omega)]) (fun c _ _ => by rw [mset_ne (by omega), mset_ne (by omega)]) (by simp [mset_at]; omega) (by simp [mset_at]; omega) ⟨fun p hp => ?_, fun f hf => ?_⟩ ⟨fun p hp => ?_, fun f hf => ?_⟩⟩
  · simp only [f_X9_endForm, ev_isIn, cp_s, if_bI, h1, h2, cond]
    rw [rd_n hk, ck_n hk, nI_clamp (by omega)]; rfl
  · simp only [f_X10_endForm, ev_between, cp_s, if_bI, h1, h2, cond, e6]
    rw [rd_n (by omega), ck_n (by omega), nI_clamp (by omega), mset_ne (by omega), eR]; rfl
  · simpa [Sv, mset_at] using i4.1 p hp
  · by_cases h : f = k
    · subst h; simpa [Sv, mset_at] using hb
    · simpa [Sv, mset_at, h] using i4.2 f hf
  · have hne : ¬ p = 6 + k := by omega
    simpa [Sv, mset_at, hne] using m4.1 p hp
  · by_cases h : f = k
    · subst h; simp [Sv, mset_at]
    · have hne : ¬ 6 + f = 6 + k := by omega
      simpa [Sv, mset_at, h, hne] using m4.2 f hf
theorem ev_addPlace {M : Mem} {n : Nat} {a : Int32} (hn : n < 6) (h : M.1 14 0 = nI n) : f_X7_addPlace 14 a M = some (nI n, mset (mset (mset M 15 n a) 16 n (-1)) 14 0 (nI (n + 1))) := by
  have e1 : (mset M 15 n a).1 14 0 = nI n := by rw [mset_ne (by omega), h]
  have e2 : (mset (mset M 15 n a) 16 n (-1)).1 14 0 = nI n := by rw [mset_ne (by omega), e1]
  unfold f_X7_addPlace
  simp only [h, ck_n hn, stm_s, nI_clamp (show n < 2 ^ 31 by omega), show 14 + 1 = 15 from rfl, show 14 + 2 = 16 from rfl, e1, e2, nI_1]
  rw [show (mset (mset (mset M 15 n a) 16 n (-1)) 14 0 (nI (n + 1))).1 14 0 = nI (n + 1) by rw [mset_same, upd_same], nI_pred]
theorem op_say (a : Int32) : opI gRel (f_X9_say a) (f_X10_say a) := by
  intro M hR
  cases h1 : inR a 1 255 with
  | false => exact ⟨-2, rfX 0 M, rfM 0 (rfX 0 M), by simp only [f_X9_say, ev_isIn, cp_s, if_bI, h1, cond, ev_rbad, cl_s], by simp only [f_X10_say, ev_between, cp_s, if_bI, h1, cond, ev_bad, cl_s], gRel_rf hR⟩
  | true =>
  obtain ⟨⟨⟨i1, i2, i3, i4, i5⟩, m1, m2, m3, m4, m5⟩, -⟩ := id hR
  obtain ⟨ha, ha0⟩ := (inR_lit1 (m := 255) (by decide)).mp h1
  obtain ⟨a1, a2, a3⟩ := id i2
  obtain ⟨b1, b2, b3, b4, b5⟩ := m2
  have hn := nP_le i2
  have e0 : M.1 14 0 = nI (nP (Sv 5 M.1)) := nP_eq i2
  have e1 : M.1 110 0 = nI (nP (Sv 5 M.1)) := by rw [← e0]; exact b1
  generalize hnn : nP (Sv 5 M.1) = n at *
  by_cases h6 : n = 6
  · subst h6
    exact ⟨-4, rfX 2 M, rfM 2 (rfX 2 M), by simp only [f_X9_say, ev_isIn, cp_s, if_bI, h1, cond, e0]; rfl, by simp only [f_X10_say, ev_between, cp_s, if_bI, h1, cond]; rw [show (rfX 2 M).1 110 0 = nI 6 by rw [rfX, mset_ne (by omega), e1]]; rfl, gRel_rf hR⟩
  · have hlt : n < 6 := by omega
    refine ⟨nI n, mset (mset (mset M 15 n a) 16 n (-1)) 14 0 (nI (n + 1)), mset (mset (mset (mset (mset M 15 n a) 16 n (-1)) 14 0 (nI (n + 1))) 117 n a) 110 0 (nI (n + 1)), ?_, ?_, gRel_P hR (((((Mn.rf.set (by omega)).set (by omega)).set (by omega)).set (Or.inr (Or.inr (Or.inl ⟨by omega, by omega, by show n < 16; omega⟩)))).set (by decide)) (fun c _ _ _ => ?_) (fun c _ _ _ _ => ?_) ⟨?_, ?_, ?_⟩ ⟨?_, ?_, ?_, ?_, ?_⟩⟩
    · simp only [f_X9_say, ev_isIn, cp_s, if_bI, h1, cond, e0]
      rw [if_pos (show nI n < 6 from nI_lt hlt (by decide))]
      rw [ev_addPlace hlt e0]; rfl
    · simp only [f_X10_say, ev_between, cp_s, if_bI, h1, cond]
      have e2 : (mset (mset (mset M 15 n a) 16 n (-1)) 14 0 (nI (n + 1))).1 110 0 = nI n := by rw [mset_ne (by omega), mset_ne (by omega), mset_ne (by omega), e1]
      simp only [e2]
      rw [if_neg (show ¬ nI n = 6 from fun h => h6 (nI_inj (by omega) (by decide) h)), ck_n (by omega), stm_s, stm_s, nI_clamp (by omega)]
      rw [show (mset (mset (mset (mset M 15 n a) 16 n (-1)) 14 0 (nI (n + 1))) 117 n a).1 110 0 = nI n by rw [mset_ne (by omega), e2]]
      rw [nI_1, show ∀ X : Mem, (mset X 110 0 (nI (n + 1))).1 110 0 = nI (n + 1) from fun X => by rw [mset_same, upd_same], nI_pred]
    · iterate 5 rw [mset_ne (by omega)]
    · iterate 5 rw [mset_ne (by omega)]
    · exact ⟨n + 1, by omega, by simp [Sv, mset_at]⟩
    · intro p hp
      have hp' : p < n + 1 := by simpa [Sv, mset_at, nP, nI_clamp (show n + 1 < 2 ^ 31 by omega)] using hp
      by_cases h : p = n
      · subst h; simp [Sv, mset_at]; exact ⟨ha, ha0⟩
      · simpa [Sv, mset_at, h] using a2 p (by omega)
    · intro f hf; simpa [Sv, mset_at] using a3 f hf
    · simp [Sv, mset_at]
    · intro p hp
      have hp' : p < n + 1 := by simpa [Sv, mset_at, nP, nI_clamp (show n + 1 < 2 ^ 31 by omega)] using hp
      by_cases h : p = n
      · subst h; simp [Sv, mset_at]
      · simpa [Sv, mset_at, h] using b2 p (by omega)
    · intro p hp hp6
      have hp' : n + 1 ≤ p := by simpa [Sv, mset_at, nP, nI_clamp (show n + 1 < 2 ^ 31 by omega)] using hp
      have h : ¬ p = n := by omega
      simpa [Sv, mset_at, h] using b3 p (by omega) hp6
    · intro p hp
      have h : ¬ 6 + p = n := by omega
      simpa [Sv, mset_at, h] using b4 p hp
    · intro f hf
      have h : ¬ 12 + f = n := by omega
      simpa [Sv, mset_at, h] using b5 f hf
