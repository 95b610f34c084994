/-! digest -/
def mx (f : Nat → Int32) : Nat → Nat → Int64 → Int64
  | 0, _, v => v
  | d + 1, j, v => mx f d (j + 1) (31 * v + (f j).toInt64)
theorem mx_s {f : Nat → Int32} {d j : Nat} {v : Int64} : mx f (d + 1) j v = mx f d (j + 1) (31 * v + (f j).toInt64) := rfl
theorem mx_cong {f g : Nat → Int32} : ∀ (d j : Nat) (v : Int64), (∀ i, j ≤ i → i < j + d → f i = g i) → mx f d j v = mx g d j v := by
  intro d
  induction d with
  | zero => intro j v _; rfl
  | succ d ih =>
    intro j v h
    rw [mx_s, mx_s, h j (by omega) (by omega)]
    exact ih _ _ (fun i h1 h2 => h i (by omega) (by omega))
theorem mx_shift {f g : Nat → Int32} {a : Nat} : ∀ (d j : Nat) (v : Int64), (∀ i, j ≤ i → i < j + d → f (a + i) = g i) → mx f d (a + j) v = mx g d j v := by
  intro d
  induction d with
  | zero => intro j v _; rfl
  | succ d ih =>
    intro j v h
    rw [mx_s, mx_s, h j (by omega) (by omega)]
    exact ih (j + 1) _ (fun i h1 h2 => h i (by omega) (by omega))
theorem ev_mix {a b : Int64} {M : Mem} : f_X9_mix a b M = some (31 * a + b) := rfl
theorem mixRow_go {q len n : Nat} {M : Mem} (hq : n ≤ len) (hl : len < 1000) : ∀ (d F j : Nat) (v : Int64), j + d = n → d < F → f_X9_mixRow_6 q len M (nI n) F v (nI j) = some (mx (M.1 q) d j v) := by
  intro d
  induction d with
  | zero =>
    intro F j v hj hF
    obtain ⟨F, rfl⟩ : ∃ F', F = F' + 1 := ⟨F - 1, by omega⟩
    show f_X9_mixRow_6_b q len M (f_X9_mixRow_6 q len M (nI n) F) (nI n) v (nI j) = _
    unfold f_X9_mixRow_6_b
    rw [if_pos (nI_le (by omega) (by omega))]; rfl
  | succ d ih =>
    intro F j v hj hF
    obtain ⟨F, rfl⟩ : ∃ F', F = F' + 1 := ⟨F - 1, by omega⟩
    show f_X9_mixRow_6_b q len M (f_X9_mixRow_6 q len M (nI n) F) (nI n) v (nI j) = _
    unfold f_X9_mixRow_6_b
    rw [if_neg (nI_ge (by omega) (by omega)), if_neg (show ¬ Int32.ofNat len ≤ nI j from nI_ge (b := len) (by omega) (by omega)), rd_n (by omega) (by omega), ev_mix, cp_s, nI_1, ih F (j + 1) _ (by omega) (by omega)]; rfl
theorem ev_mixRow {q len n : Nat} {M : Mem} {x : Int32} {v : Int64} (hx : x = nI n) (hq : n ≤ len) (hl : len < 1000) : f_X9_mixRow q len v x M = some (mx (M.1 q) n 0 v) := by
  subst hx
  exact mixRow_go hq hl n FU 0 v (by omega) (FU_of (by omega))
def mw (S : Nat → Nat → Int32) (t : Nat) : Nat → Nat → Int64 → Int64
  | 0, _, v => v
  | d + 1, w, v => mw S t d (w + 1) (31 * (31 * (31 * v + (S 6 (8 * t + w)).toInt64) + (S 7 (8 * t + w)).toInt64) + (S 8 (8 * t + w)).toInt64)
theorem mw_s {S : Nat → Nat → Int32} {t d w : Nat} {v : Int64} : mw S t (d + 1) w v = mw S t d (w + 1) (31 * (31 * (31 * v + (S 6 (8 * t + w)).toInt64) + (S 7 (8 * t + w)).toInt64) + (S 8 (8 * t + w)).toInt64) := rfl
def mt (S : Nat → Nat → Int32) : Nat → Nat → Int64 → Int64
  | 0, _, v => v
  | d + 1, t, v => mt S d (t + 1) (mw S t (nW S t) 0 (31 * (31 * (31 * v + (S 2 t).toInt64) + (S 3 t).toInt64) + (S 4 t).toInt64))
theorem mt_s {S : Nat → Nat → Int32} {t d : Nat} {v : Int64} : mt S (d + 1) t v = mt S d (t + 1) (mw S t (nW S t) 0 (31 * (31 * (31 * v + (S 2 t).toInt64) + (S 3 t).toInt64) + (S 4 t).toInt64)) := rfl
theorem mixw_go {M : Mem} {t : Nat} {r5 : Int64 → Int32 → Option Int64} (hT : IvT (St M)) (ht : t < nT (St M)) : ∀ (d F w : Nat) (v : Int64), w + d = nW (St M) t → d < F → f_X1_mixTongues_56 M r5 (nI t) F v (nI (8 * t + w)) = r5 (mw (St M) t d w v) (nI (t + 1)) := by
  have h6 := nT_le hT
  have h8 := nW_le hT (show t < 6 by omega)
  have e10 : M.1 10 t = nI (nW (St M) t) := by rw [k10]; exact nW_eq hT (by omega)
  intro d
  induction d with
  | zero =>
    intro F w v hw hF
    obtain ⟨F, rfl⟩ : ∃ F', F = F' + 1 := ⟨F - 1, by omega⟩
    show f_X1_mixTongues_56_b M r5 (f_X1_mixTongues_56 M r5 (nI t) F) (nI t) v (nI (8 * t + w)) = _
    unfold f_X1_mixTongues_56_b
    rw [rd_n (by omega), e10, i8, if_pos (nI_le (by omega) (by omega)), nI_1]; rfl
  | succ d ih =>
    intro F w v hw hF
    obtain ⟨F, rfl⟩ : ∃ F', F = F' + 1 := ⟨F - 1, by omega⟩
    show f_X1_mixTongues_56_b M r5 (f_X1_mixTongues_56 M r5 (nI t) F) (nI t) v (nI (8 * t + w)) = _
    unfold f_X1_mixTongues_56_b
    rw [rd_n (by omega), e10, i8, if_neg (nI_ge (by omega) (by omega)), rd_n (by omega), ev_mix, cp_s, rd_n (by omega), ev_mix, cp_s, rd_n (by omega), ev_mix, cp_s, nI_1, k11, k12, k13, show 8 * t + w + 1 = 8 * t + (w + 1) by omega, ih F (w + 1) _ (by omega) (by omega)]; rfl
theorem mixt_go {M : Mem} (hT : IvT (St M)) : ∀ (d F t : Nat) (v : Int64), t + d = nT (St M) → d < F → f_X1_mixTongues_5 M F v (nI t) = some (31 * (31 * mt (St M) d t v + (St M 1 1).toInt64) + (St M 1 2).toInt64) := by
  have h6 := nT_le hT
  have e6 : M.1 6 0 = nI (nT (St M)) := by rw [k6]; exact nT_eq hT
  intro d
  induction d with
  | zero =>
    intro F t v ht hF
    obtain ⟨F, rfl⟩ : ∃ F', F = F' + 1 := ⟨F - 1, by omega⟩
    show f_X1_mixTongues_5_b M (f_X1_mixTongues_5 M F) v (nI t) = _
    unfold f_X1_mixTongues_5_b
    rw [e6, if_pos (nI_le (by omega) (by omega)), ev_mix, cp_s, ev_mix, cp_s, k6]; rfl
  | succ d ih =>
    intro F t v ht hF
    obtain ⟨F, rfl⟩ : ∃ F', F = F' + 1 := ⟨F - 1, by omega⟩
    show f_X1_mixTongues_5_b M (f_X1_mixTongues_5 M F) v (nI t) = _
    unfold f_X1_mixTongues_5_b
    have e8 : nI t * 8 = nI (8 * t + 0) := by rw [show (8 : Int32) = nI 8 from rfl, nI_mul, Nat.mul_comm]; rfl
    have h8 := nW_le hT (show t < 6 by omega)
    rw [e6, if_neg (nI_ge (by omega) (by omega)), rd_n (by omega), ev_mix, cp_s, rd_n (by omega), ev_mix, cp_s, rd_n (by omega), ev_mix, cp_s, e8, mixw_go hT (by omega) (nW (St M) t) FU 0 _ (by omega) (FU_of (by omega)), ih F (t + 1) _ (by omega) (by omega), mt_s, k7, k8, k9]
theorem ev_mixTongues {M : Mem} {v : Int64} (hT : IvT (St M)) : f_X1_mixTongues v M = some (31 * (31 * mt (St M) (nT (St M)) 0 v + (St M 1 1).toInt64) + (St M 1 2).toInt64) := by
  have := nT_le hT
  exact mixt_go hT (nT (St M)) FU 0 v (by omega) (FU_of (by omega))
def mq (S : Nat → Nat → Int32) : Nat → Nat → Int64 → Int64
  | 0, _, v => v
  | d + 1, j, v => mq S d (j + 1) (31 * (31 * (31 * (31 * v + (S 19 j / 8).toInt64) + (S 19 j % 8).toInt64) + (S 20 j / 8).toInt64) + (S 20 j % 8).toInt64)
theorem mq_s {S : Nat → Nat → Int32} {d j : Nat} {v : Int64} : mq S (d + 1) j v = mq S d (j + 1) (31 * (31 * (31 * (31 * v + (S 19 j / 8).toInt64) + (S 19 j % 8).toInt64) + (S 20 j / 8).toInt64) + (S 20 j % 8).toInt64) := rfl
theorem mixq_go {M : Mem} (hQ : IvQ (St M)) : ∀ (d F j : Nat) (v : Int64), j + d = nQ (St M) → d < F → f_X2_mixPairs_5 M F v (nI j) = some (mq (St M) d j v) := by
  have h24 := nQ_le hQ
  have e23 : M.1 23 0 = nI (nQ (St M)) := by rw [k23]; exact nQ_eq hQ
  intro d
  induction d with
  | zero =>
    intro F j v hj hF
    obtain ⟨F, rfl⟩ : ∃ F', F = F' + 1 := ⟨F - 1, by omega⟩
    show f_X2_mixPairs_5_b M (f_X2_mixPairs_5 M F) v (nI j) = _
    unfold f_X2_mixPairs_5_b
    rw [e23, if_pos (nI_le (by omega) (by omega))]; rfl
  | succ d ih =>
    intro F j v hj hF
    obtain ⟨F, rfl⟩ : ∃ F', F = F' + 1 := ⟨F - 1, by omega⟩
    show f_X2_mixPairs_5_b M (f_X2_mixPairs_5 M F) v (nI j) = _
    unfold f_X2_mixPairs_5_b
    rw [e23, if_neg (nI_ge (by omega) (by omega)), rd_n (by omega), ev_mix, cp_s, rd_n (by omega), ev_mix, cp_s, rd_n (by omega), ev_mix, cp_s, rd_n (by omega), ev_mix, cp_s, nI_1, ih F (j + 1) _ (by omega) (by omega), mq_s, k24, k25]
theorem ev_mixPairs {M : Mem} {v : Int64} (hQ : IvQ (St M)) : f_X2_mixPairs v M = some (mq (St M) (nQ (St M)) 0 v) := by
  have := nQ_le hQ
  exact mixq_go hQ (nQ (St M)) FU 0 v (by omega) (FU_of (by omega))
def dgA (S : Nat → Nat → Int32) (v : Int64) : Int64 := mq S (nQ S) 0 (mx (S 17) 4 0 (mx (S 16) 6 0 (mx (S 14) (nB S) 0 (mx (S 12) 4 0 (mx (S 10) (nP S) 0 (31 * (31 * mt S (nT S) 0 v + (S 1 1).toInt64) + (S 1 2).toInt64))))))
def cntN (S : Nat → Nat → Int32) (j : Nat) : Int32 := cntV S (nI j)
theorem mixAll_go {M : Mem} (hI : Iv (St M)) : ∀ (d F j : Nat) (v : Int64), j + d = 10 → d < F → f_X8_mixAll_5 M F v (nI j) = some (dgA (St M) (mx (cntN (St M)) d j v)) := by
  intro d
  induction d with
  | zero =>
    intro F j v hj hF
    obtain ⟨F, rfl⟩ : ∃ F', F = F' + 1 := ⟨F - 1, by omega⟩
    have hp := nP_le hI.2.1
    have hb := nB_le hI.2.2.1
    show f_X8_mixAll_5_b M (f_X8_mixAll_5 M F) v (nI j) = _
    unfold f_X8_mixAll_5_b
    rw [if_pos (show (10 : Int32) ≤ nI j from nI_le (a := 10) (by omega) (by omega)), ev_mixTongues hI.1, cp_s, ev_mixRow (n := nP (St M)) (by rw [k14]; exact nP_eq hI.2.1) hp (by omega), cp_s, ev_mixRow (x := 4) (n := 4) rfl (by omega) (by omega), cp_s, ev_mixRow (n := nB (St M)) (by rw [k18]; exact nB_eq hI.2.2.1) hb (by omega), cp_s, ev_mixRow (x := 6) (n := 6) rfl (by omega) (by omega), cp_s, ev_mixRow (x := 4) (n := 4) rfl (by omega) (by omega), cp_s, ev_mixPairs hI.2.2.2.2, cp_s, k15, k17, k19, k21, k22]; rfl
  | succ d ih =>
    intro F j v hj hF
    obtain ⟨F, rfl⟩ : ∃ F', F = F' + 1 := ⟨F - 1, by omega⟩
    show f_X8_mixAll_5_b M (f_X8_mixAll_5 M F) v (nI j) = _
    unfold f_X8_mixAll_5_b
    rw [if_neg (show ¬ (10 : Int32) ≤ nI j from nI_ge (b := 10) (by omega) (by omega)), ev_howMany hI.1, cp_s, ev_mix, cp_s, nI_1, ih F (j + 1) _ (by omega) (by omega)]; rfl
def dgV (M : Mem) : Int64 := 31 * (31 * dgA (St M) (mx (cntN (St M)) 10 0 599) + (M.1 0 4).toInt64) + (M.1 0 5).toInt64
theorem ev_digestX {M : Mem} (hI : Iv (St M)) : f_X9_digest M = some (dgV M) := by
  unfold f_X9_digest
  have : f_X8_mixAll 599 M = some (dgA (St M) (mx (cntN (St M)) 10 0 599)) := mixAll_go hI 10 FU 0 599 (by omega) (FU_of (by omega))
  rw [this, cp_s, ev_mix, cp_s, ev_mix, cp_s]; rfl
/-! the reference's -/
def wL (M : Mem) (v : Int64) : Mem := (M.1, v)
theorem ev_sums {M : Mem} {v : Int64} {x : Int64} : f_X10_sums x (wL M v) = some ((), wL M (31 * v + x)) := rfl
theorem wL_1 {M : Mem} {v : Int64} : (wL M v).1 = M.1 := rfl
theorem dg252 {M : Mem} (hK : KK M) : ∀ (d F j : Nat) (v : Int64), j + d = nQ (St M) → 4 * d < F → f_X10_digest_252 F (nI (4 * j)) (wL M v) = some (31 * (31 * mq (St M) d j v + (M.1 108 11).toInt64) + (M.1 108 12).toInt64, wL M (31 * (31 * mq (St M) d j v + (M.1 108 11).toInt64) + (M.1 108 12).toInt64)) := by
  have hT := hK.1.1
  have hQ := hK.1.2.2.2.2
  have h24 := nQ_le hQ
  have e112 : M.1 112 0 = nI (nQ (St M)) := by rw [show M.1 112 0 = St M 18 0 from hK.2.2.2.2.2.1]; exact nQ_eq hQ
  have one : ∀ (F j : Nat) (v : Int64), j < 4 * nQ (St M) → f_X10_digest_252 (F + 1) (nI j) (wL M v) = f_X10_digest_252 F (nI (j + 1)) (wL M (31 * v + (M.1 116 j).toInt64)) := by
    intro F j v hj
    show f_X10_digest_252_b (f_X10_digest_252 F) (nI j) (wL M v) = _
    unfold f_X10_digest_252_b
    rw [wL_1, e112, i4t, if_neg (nI_ge (by omega) (by omega)), rd_n (by omega), ev_sums, cl_s, nI_1]
  intro d
  induction d with
  | zero =>
    intro F j v hj hF
    obtain ⟨F, rfl⟩ : ∃ F', F = F' + 1 := ⟨F - 1, by omega⟩
    show f_X10_digest_252_b (f_X10_digest_252 F) (nI (4 * j)) (wL M v) = _
    unfold f_X10_digest_252_b
    rw [wL_1, e112, i4t, if_pos (nI_le (by omega) (by omega)), ev_sums, cl_s, wL_1, ev_sums, cl_s]; rfl
  | succ d ih =>
    intro F j v hj hF
    obtain ⟨F, rfl⟩ : ∃ F', F = F' + 1 + 1 + 1 + 1 := ⟨F - 4, by omega⟩
    obtain ⟨t', w', u', v', g1, g2, g3, g4, g5⟩ := hQ.2 j (by omega)
    have l3 := wlt hT g1
    have l4 := wlt hT g2
    obtain ⟨q1, q2, q3, q4⟩ := hK.2.2.2.2.2.2 j (by omega) t' w' u' v' g1 g2 g4 g5
    rw [show 96 * 0 + 4 * j = 4 * j by omega] at q1 q2 q3 q4
    have a1 := div8 (8 * t' + w') (by omega)
    have a2 := div8 (8 * u' + v') (by omega)
    rw [one _ _ _ (by omega), one _ _ _ (by omega), one _ _ _ (by omega), one _ _ _ (by omega), show 4 * j + 1 + 1 + 1 + 1 = 4 * (j + 1) by omega, ih F (j + 1) _ (by omega) (by omega), mq_s, q1, q2, q3, q4, g4, g5, a1.1, a1.2, a2.1, a2.2, show (8 * t' + w') / 8 = t' by omega, show (8 * t' + w') % 8 = w' by omega, show (8 * u' + v') / 8 = u' by omega, show (8 * u' + v') % 8 = v' by omega]
def dgM (M : Mem) (v : Int64) : Option (Int64 × Mem) := some (31 * (31 * v + (M.1 108 11).toInt64) + (M.1 108 12).toInt64, wL M (31 * (31 * v + (M.1 108 11).toInt64) + (M.1 108 12).toInt64))
theorem dg227 {M : Mem} (hK : KK M) : ∀ (d F j : Nat) (v : Int64), j + d = 10 → d < F → f_X10_digest_227 F (nI j) (wL M v) = dgM M (mq (St M) (nQ (St M)) 0 (mx (M.1 118) d j v)) := by
  have h24 := nQ_le hK.1.2.2.2.2
  intro d
  induction d with
  | zero =>
    intro F j v hj hF
    obtain ⟨F, rfl⟩ : ∃ F', F = F' + 1 := ⟨F - 1, by omega⟩
    show f_X10_digest_227_b (f_X10_digest_227 F) (nI j) (wL M v) = _
    unfold f_X10_digest_227_b
    rw [if_pos (show (10 : Int32) ≤ nI j from nI_le (a := 10) (by omega) (by omega)), show (0 : Int32) = nI (4 * 0) from rfl, dg252 hK (nQ (St M)) FU 0 v (by omega) (FU_of (by omega))]; rfl
  | succ d ih =>
    intro F j v hj hF
    obtain ⟨F, rfl⟩ : ∃ F', F = F' + 1 := ⟨F - 1, by omega⟩
    show f_X10_digest_227_b (f_X10_digest_227 F) (nI j) (wL M v) = _
    unfold f_X10_digest_227_b
    rw [if_neg (show ¬ (10 : Int32) ≤ nI j from nI_ge (b := 10) (by omega) (by omega)), wL_1, rd_n (by omega), ev_sums, cl_s, nI_1, ih F (j + 1) _ (by omega) (by omega)]; rfl
theorem dg198 {M : Mem} (hK : KK M) : ∀ (d F j : Nat) (v : Int64), j + d = nB (St M) → d < F → f_X10_digest_198 F (nI j) (wL M v) = dgM M (mq (St M) (nQ (St M)) 0 (mx (M.1 118) 10 0 (mx (M.1 115) d j v))) := by
  have h60 := nB_le hK.1.2.2.1
  have e111 : M.1 111 0 = nI (nB (St M)) := by rw [show M.1 111 0 = St M 13 0 from hK.2.2.2.1.1]; exact nB_eq hK.1.2.2.1
  intro d
  induction d with
  | zero =>
    intro F j v hj hF
    obtain ⟨F, rfl⟩ : ∃ F', F = F' + 1 := ⟨F - 1, by omega⟩
    show f_X10_digest_198_b (f_X10_digest_198 F) (nI j) (wL M v) = _
    unfold f_X10_digest_198_b
    rw [wL_1, e111, if_pos (nI_le (by omega) (by omega)), show (0 : Int32) = nI 0 from rfl, dg227 hK 10 FU 0 v (by omega) (FU_of (by omega))]; rfl
  | succ d ih =>
    intro F j v hj hF
    obtain ⟨F, rfl⟩ : ∃ F', F = F' + 1 := ⟨F - 1, by omega⟩
    show f_X10_digest_198_b (f_X10_digest_198 F) (nI j) (wL M v) = _
    unfold f_X10_digest_198_b
    rw [wL_1, e111, if_neg (nI_ge (by omega) (by omega)), rd_n (by omega), ev_sums, cl_s, nI_1, ih F (j + 1) _ (by omega) (by omega)]; rfl
theorem dg173 {M : Mem} (hK : KK M) : ∀ (d F j : Nat) (v : Int64), j + d = 16 → d < F → f_X10_digest_173 F (nI j) (wL M v) = dgM M (mq (St M) (nQ (St M)) 0 (mx (M.1 118) 10 0 (mx (M.1 115) (nB (St M)) 0 (mx (M.1 117) d j v)))) := by
  have h60 := nB_le hK.1.2.2.1
  intro d
  induction d with
  | zero =>
    intro F j v hj hF
    obtain ⟨F, rfl⟩ : ∃ F', F = F' + 1 := ⟨F - 1, by omega⟩
    show f_X10_digest_173_b (f_X10_digest_173 F) (nI j) (wL M v) = _
    unfold f_X10_digest_173_b
    rw [if_pos (show (16 : Int32) ≤ nI j from nI_le (a := 16) (by omega) (by omega)), show (0 : Int32) = nI 0 from rfl, dg198 hK (nB (St M)) FU 0 v (by omega) (FU_of (by omega))]; rfl
  | succ d ih =>
    intro F j v hj hF
    obtain ⟨F, rfl⟩ : ∃ F', F = F' + 1 := ⟨F - 1, by omega⟩
    show f_X10_digest_173_b (f_X10_digest_173 F) (nI j) (wL M v) = _
    unfold f_X10_digest_173_b
    rw [if_neg (show ¬ (16 : Int32) ≤ nI j from nI_ge (b := 16) (by omega) (by omega)), wL_1, rd_n (by omega), ev_sums, cl_s, nI_1, ih F (j + 1) _ (by omega) (by omega)]; rfl
def dgE (M : Mem) (v : Int64) : Int64 := mq (St M) (nQ (St M)) 0 (mx (M.1 118) 10 0 (mx (M.1 115) (nB (St M)) 0 (mx (M.1 117) 4 12 v)))
theorem dg143 {M : Mem} (hK : KK M) : ∀ (d F j : Nat) (v : Int64), j + d = nP (St M) → d < F → f_X10_digest_143 F (nI j) (wL M v) = dgM M (dgE M (mx (M.1 117) d j v)) := by
  have h6 := nP_le hK.1.2.1
  have e110 : M.1 110 0 = nI (nP (St M)) := by rw [rm110 hK]; exact nP_eq hK.1.2.1
  intro d
  induction d with
  | zero =>
    intro F j v hj hF
    obtain ⟨F, rfl⟩ : ∃ F', F = F' + 1 := ⟨F - 1, by omega⟩
    show f_X10_digest_143_b (f_X10_digest_143 F) (nI j) (wL M v) = _
    unfold f_X10_digest_143_b
    rw [wL_1, e110, if_pos (nI_le (by omega) (by omega)), show (12 : Int32) = nI 12 from rfl, dg173 hK 4 FU 12 v (by omega) (FU_of (by omega))]; rfl
  | succ d ih =>
    intro F j v hj hF
    obtain ⟨F, rfl⟩ : ∃ F', F = F' + 1 := ⟨F - 1, by omega⟩
    show f_X10_digest_143_b (f_X10_digest_143 F) (nI j) (wL M v) = _
    unfold f_X10_digest_143_b
    rw [wL_1, e110, if_neg (nI_ge (by omega) (by omega)), rd_n (by omega), ev_sums, cl_s, nI_1, ih F (j + 1) _ (by omega) (by omega)]; rfl
theorem i24j (t x : Nat) : (24 : Int32) * nI t + nI x = nI (24 * t + x) := by rw [show (24 : Int32) = nI 24 from rfl, nI_mul, nI_add]
theorem dg73 {M : Mem} (hK : KK M) {t : Nat} {r33 : Int32 → Mem → Option (Int64 × Mem)} (ht : t < nT (St M)) : ∀ (d F w : Nat) (v : Int64), w + d = nW (St M) t → 3 * d < F → f_X10_digest_73 r33 (nI t) F (nI (3 * w)) (wL M v) = r33 (nI (t + 1)) (wL M (mw (St M) t d w v)) := by
  have hT := hK.1.1
  have h6 := nT_le hT
  have h8 := nW_le hT (show t < 6 by omega)
  have e113 : M.1 113 (4 * t + 3) = nI (nW (St M) t) := by rw [(rm113 hK ht).2.2.2]; exact nW_eq hT (by omega)
  have one : ∀ (F j : Nat) (v : Int64), j < 3 * nW (St M) t → f_X10_digest_73 r33 (nI t) (F + 1) (nI j) (wL M v) = f_X10_digest_73 r33 (nI t) F (nI (j + 1)) (wL M (31 * v + (M.1 114 (24 * t + j)).toInt64)) := by
    intro F j v hj
    show f_X10_digest_73_b r33 (f_X10_digest_73 r33 (nI t) F) (nI t) (nI j) (wL M v) = _
    unfold f_X10_digest_73_b
    rw [wL_1, i4t3, rd_n (by omega), e113, i3, if_neg (nI_ge (by omega) (by omega)), i24j, rd_n (by omega), ev_sums, cl_s, nI_1]
  intro d
  induction d with
  | zero =>
    intro F w v hw hF
    obtain ⟨F, rfl⟩ : ∃ F', F = F' + 1 := ⟨F - 1, by omega⟩
    show f_X10_digest_73_b r33 (f_X10_digest_73 r33 (nI t) F) (nI t) (nI (3 * w)) (wL M v) = _
    unfold f_X10_digest_73_b
    rw [wL_1, i4t3, rd_n (by omega), e113, i3, if_pos (nI_le (by omega) (by omega)), nI_1]; rfl
  | succ d ih =>
    intro F w v hw hF
    obtain ⟨F, rfl⟩ : ∃ F', F = F' + 1 + 1 + 1 := ⟨F - 3, by omega⟩
    obtain ⟨q1, q2, q3⟩ := rm114 hK ht (show w < nW (St M) t by omega)
    rw [one _ _ _ (by omega), one _ _ _ (by omega), one _ _ _ (by omega), show 3 * w + 1 + 1 + 1 = 3 * (w + 1) by omega, ih F (w + 1) _ (by omega) (by omega), mw_s, show 24 * t + (3 * w + 1) = 24 * t + 3 * w + 1 by omega, show 24 * t + (3 * w + 1 + 1) = 24 * t + 3 * w + 2 by omega, q1, q2, q3]
theorem i4j (t x : Nat) : (4 : Int32) * nI t + nI x = nI (4 * t + x) := by rw [show (4 : Int32) = nI 4 from rfl, nI_mul, nI_add]
theorem dg33 {M : Mem} (hK : KK M) : ∀ (d F t : Nat) (v : Int64), t + d = nT (St M) → d < F → f_X10_digest_33 F (nI t) (wL M v) = dgM M (dgE M (mx (M.1 117) (nP (St M)) 0 (31 * (31 * mt (St M) d t v + (St M 1 1).toInt64) + (St M 1 2).toInt64))) := by
  have hT := hK.1.1
  have h6 := nT_le hT
  have hp6 := nP_le hK.1.2.1
  have e109 : M.1 109 0 = nI (nT (St M)) := by rw [show M.1 109 0 = St M 1 0 from hK.2.1.1]; exact nT_eq hT
  have e10 : M.1 118 10 = St M 1 1 := by have := hK.2.1.2.2.2.1; simpa using this
  have e11 : M.1 118 11 = St M 1 2 := by have := hK.2.1.2.2.2.2; simpa using this
  intro d
  induction d with
  | zero =>
    intro F t v ht hF
    obtain ⟨F, rfl⟩ : ∃ F', F = F' + 1 := ⟨F - 1, by omega⟩
    show f_X10_digest_33_b (f_X10_digest_33 F) (nI t) (wL M v) = _
    unfold f_X10_digest_33_b
    rw [wL_1, e109, if_pos (nI_le (by omega) (by omega)), ev_sums, cl_s, wL_1, ev_sums, cl_s, e10, e11, show (0 : Int32) = nI 0 from rfl, dg143 hK (nP (St M)) FU 0 _ (by omega) (FU_of (by omega))]; rfl
  | succ d ih =>
    intro F t v ht hF
    obtain ⟨F, rfl⟩ : ∃ F', F = F' + 1 := ⟨F - 1, by omega⟩
    obtain ⟨q1, q2, q3, q4⟩ := rm113 hK (show t < nT (St M) by omega)
    have h8 := nW_le hT (show t < 6 by omega)
    have one : ∀ (G j : Nat) (v : Int64), j < 3 → f_X10_digest_45 (f_X10_digest_33 F) (nI t) (G + 1) (nI j) (wL M v) = f_X10_digest_45 (f_X10_digest_33 F) (nI t) G (nI (j + 1)) (wL M (31 * v + (M.1 113 (4 * t + j)).toInt64)) := by
      intro G j v hj
      show f_X10_digest_45_b (f_X10_digest_33 F) (f_X10_digest_45 (f_X10_digest_33 F) (nI t) G) (nI t) (nI j) (wL M v) = _
      unfold f_X10_digest_45_b
      rw [wL_1, if_neg (show ¬ (3 : Int32) ≤ nI j from nI_ge (b := 3) (by omega) (by omega)), i4j, rd_n (by omega), ev_sums, cl_s, nI_1]
    have fin : ∀ (G : Nat) (v : Int64), f_X10_digest_45 (f_X10_digest_33 F) (nI t) (G + 1) (nI 3) (wL M v) = f_X10_digest_73 (f_X10_digest_33 F) (nI t) FU (nI (3 * 0)) (wL M v) := by
      intro G v
      show f_X10_digest_45_b (f_X10_digest_33 F) (f_X10_digest_45 (f_X10_digest_33 F) (nI t) G) (nI t) (nI 3) (wL M v) = _
      unfold f_X10_digest_45_b
      rw [if_pos (by decide)]; rfl
    have hFU : ∃ G, FU = G + 1 + 1 + 1 + 1 := ⟨99996, rfl⟩
    show f_X10_digest_33_b (f_X10_digest_33 F) (nI t) (wL M v) = _
    unfold f_X10_digest_33_b
    rw [wL_1, e109, if_neg (nI_ge (by omega) (by omega))]
    have key : ∀ G, f_X10_digest_45 (f_X10_digest_33 F) (nI t) (G + 1 + 1 + 1 + 1) (nI 0) (wL M v) = f_X10_digest_73 (f_X10_digest_33 F) (nI t) FU (nI (3 * 0)) (wL M (31 * (31 * (31 * v + (St M 2 t).toInt64) + (St M 3 t).toInt64) + (St M 4 t).toInt64)) := fun G => by
      rw [one _ _ _ (by omega), one _ _ _ (by omega), one _ _ _ (by omega), fin, Nat.add_zero, q1, q2, q3]
    obtain ⟨G, hG⟩ := hFU
    have k2 := key G
    rw [← hG] at k2
    refine k2.trans ?_
    rw [dg73 hK (by omega) (nW (St M) t) FU 0 _ (by omega) (FU_of (by omega)), ih F (t + 1) _ (by omega) (by omega), mt_s]
theorem dg9 {M : Mem} (hK : KK M) : ∀ (d F j : Nat) (v : Int64), j + d = 10 → d < F → f_X10_digest_9 F (nI j) (wL M v) = dgM M (dgE M (mx (M.1 117) (nP (St M)) 0 (31 * (31 * mt (St M) (nT (St M)) 0 (mx (cntN (St M)) d j v) + (St M 1 1).toInt64) + (St M 1 2).toInt64))) := by
  have h6 := nT_le hK.1.1
  intro d
  induction d with
  | zero =>
    intro F j v hj hF
    obtain ⟨F, rfl⟩ : ∃ F', F = F' + 1 := ⟨F - 1, by omega⟩
    show f_X10_digest_9_b (f_X10_digest_9 F) (nI j) (wL M v) = _
    unfold f_X10_digest_9_b
    rw [if_pos (show (10 : Int32) ≤ nI j from nI_le (a := 10) (by omega) (by omega)), show (0 : Int32) = nI 0 from rfl, dg33 hK (nT (St M)) FU 0 v (by omega) (FU_of (by omega))]; rfl
  | succ d ih =>
    intro F j v hj hF
    obtain ⟨F, rfl⟩ : ∃ F', F = F' + 1 := ⟨F - 1, by omega⟩
    show f_X10_digest_9_b (f_X10_digest_9 F) (nI j) (wL M v) = _
    unfold f_X10_digest_9_b
    have hc : f_X10_counted (nI j) (wL M v) = some (cntV (St M) (nI j)) := ev_counted (M := wL M v) hK
    rw [if_neg (show ¬ (10 : Int32) ≤ nI j from nI_ge (b := 10) (by omega) (by omega)), hc, cp_s, ev_sums, cl_s, nI_1, ih F (j + 1) _ (by omega) (by omega)]; rfl
theorem op_digest : opI gRel (pu f_X9_digest) f_X10_digest := by
  intro M hR
  have hK := KK_of hR
  have hp6 := nP_le hK.1.2.1
  have h60 := nB_le hK.1.2.2.1
  have e4 : M.1 0 4 = M.1 108 11 := hR.2.2.2.2.1
  have e5 : M.1 0 5 = M.1 108 12 := hR.2.2.2.2.2
  refine ⟨dgV M, M, wL M (dgV M), by unfold pu; rw [ev_digestX hK.1], ?_, hR⟩
  have h1 : f_X10_digest M = f_X10_digest_9 FU (nI 0) (wL M 599) := rfl
  rw [h1, dg9 hK 10 FU 0 599 (by omega) (FU_of (by omega))]
  have a1 : ∀ v, mx (M.1 117) (nP (St M)) 0 v = mx (St M 10) (nP (St M)) 0 v := fun v => mx_cong _ _ _ (fun i h1 h2 => (rm117 hK (by omega)).1)
  have a2 : ∀ v, mx (M.1 117) 4 12 v = mx (St M 12) 4 0 v := fun v => mx_shift (a := 12) 4 0 v (fun i h1 h2 => by have := hK.2.2.1.2.2.2.2 i (by omega); simpa using this)
  have a3 : ∀ v, mx (M.1 115) (nB (St M)) 0 v = mx (St M 14) (nB (St M)) 0 v := fun v => mx_cong _ _ _ (fun i h1 h2 => by have := hK.2.2.2.1.2 i (by omega); simpa using this)
  have a4 : ∀ v, mx (M.1 118) 10 0 v = mx (St M 17) 4 0 (mx (St M 16) 6 0 v) := fun v => by
    have b : ∀ i, i < 6 → M.1 118 i = St M 16 i := fun i hi => by have := hK.2.2.2.2.1.1 i hi; simpa using this
    have c : ∀ i, i < 4 → M.1 118 (6 + i) = St M 17 i := fun i hi => by have := hK.2.2.2.2.1.2 i hi; simpa using this
    rw [← mx_cong (f := M.1 118) (g := St M 16) 6 0 v (fun i h1 h2 => b i (by omega)), ← mx_shift (f := M.1 118) (g := St M 17) (a := 6) 4 0 _ (fun i h1 h2 => c i (by omega))]
    rfl
  unfold dgM dgE
  rw [a1, a2, a3, a4, ← e4, ← e5]; rfl
