/-! the main stock as a value; scratch cells don't touch it -/
def St (M : Mem) : Nat → Nat → Int32 := fun k => if k ≤ 20 then M.1 (5 + k) else fun _ => 0
theorem St_at {M : Mem} {k : Nat} (h : k ≤ 20) : St M k = M.1 (5 + k) := by unfold St; rw [if_pos h]
def KK (M : Mem) : Prop := Iv (St M) ∧ Rm 0 (St M) M.1
theorem KK_of {M : Mem} (h : gRel M) : KK M := ⟨Iv_cong (fun k _ h2 => St_at h2) h.1.1, Rm_cong (fun k _ h2 => St_at h2) (fun _ _ _ _ _ _ => rfl) h.1.1 h.1.2⟩
theorem St_sc {M M1 : Mem} (h : ∀ c, 5 ≤ c → c ≤ 25 → M1.1 c = M.1 c) : St M1 = St M := by
  funext k
  unfold St
  by_cases hk : k ≤ 20
  · rw [if_pos hk, if_pos hk, h _ (by omega) (by omega)]
  · rw [if_neg hk, if_neg hk]
theorem KK_sc {M M1 : Mem} (h : KK M) (h1 : ∀ c, 5 ≤ c → c ≤ 25 → M1.1 c = M.1 c) (h2 : ∀ c, 109 ≤ c → c ≤ 118 → M1.1 c = M.1 c) : KK M1 := by
  unfold KK
  rw [St_sc h1]
  exact ⟨h.1, Rm_cong (fun _ _ _ => rfl) (fun c j c1 c2 _ _ => by rw [h2 c c1 c2]) h.1 h.2⟩
theorem KK_Sc {M M1 : Mem} (h : KK M) (g : Sc M M1) : KK M1 := KK_sc h (fun c c1 c2 => g.1 c (by omega) (by omega)) (fun c c1 c2 => g.2.1 c c1 (by omega))
theorem St_Sc {M M1 : Mem} (g : Sc M M1) : St M1 = St M := St_sc (fun c c1 c2 => g.1 c (by omega) (by omega))
theorem k6 {M : Mem} : M.1 6 = St M 1 := (St_at (k := 1) (by omega)).symm
theorem k7 {M : Mem} : M.1 7 = St M 2 := (St_at (k := 2) (by omega)).symm
theorem k8 {M : Mem} : M.1 8 = St M 3 := (St_at (k := 3) (by omega)).symm
theorem k9 {M : Mem} : M.1 9 = St M 4 := (St_at (k := 4) (by omega)).symm
theorem k10 {M : Mem} : M.1 10 = St M 5 := (St_at (k := 5) (by omega)).symm
theorem k11 {M : Mem} : M.1 11 = St M 6 := (St_at (k := 6) (by omega)).symm
theorem k12 {M : Mem} : M.1 12 = St M 7 := (St_at (k := 7) (by omega)).symm
theorem k13 {M : Mem} : M.1 13 = St M 8 := (St_at (k := 8) (by omega)).symm
theorem k14 {M : Mem} : M.1 14 = St M 9 := (St_at (k := 9) (by omega)).symm
theorem k15 {M : Mem} : M.1 15 = St M 10 := (St_at (k := 10) (by omega)).symm
theorem k16 {M : Mem} : M.1 16 = St M 11 := (St_at (k := 11) (by omega)).symm
theorem k17 {M : Mem} : M.1 17 = St M 12 := (St_at (k := 12) (by omega)).symm
theorem k18 {M : Mem} : M.1 18 = St M 13 := (St_at (k := 13) (by omega)).symm
theorem k19 {M : Mem} : M.1 19 = St M 14 := (St_at (k := 14) (by omega)).symm
theorem k21 {M : Mem} : M.1 21 = St M 16 := (St_at (k := 16) (by omega)).symm
theorem k22 {M : Mem} : M.1 22 = St M 17 := (St_at (k := 17) (by omega)).symm
theorem k23 {M : Mem} : M.1 23 = St M 18 := (St_at (k := 18) (by omega)).symm
theorem k24 {M : Mem} : M.1 24 = St M 19 := (St_at (k := 19) (by omega)).symm
theorem k25 {M : Mem} : M.1 25 = St M 20 := (St_at (k := 20) (by omega)).symm
/-! tongues, words: asked on both sides -/
def tB (S : Nat → Nat → Int32) (x : Int32) : Bool := inR x 0 (S 1 0 - 1)
def spB (S : Nat → Nat → Int32) (x : Int32) : Bool := tB S x && decide (0 < nW S x.toNatClampNeg)
def wdB (S : Nat → Nat → Int32) (x y : Int32) : Bool := tB S x && inR y 0 (S 5 x.toNatClampNeg - 1)
theorem tB_iff {S : Nat → Nat → Int32} (h : IvT S) {x : Int32} : tB S x = true ↔ U (nT S) x := by
  unfold tB
  rw [nT_eq h]
  exact inR_nI (by have := nT_le h; omega)
theorem ev_hasTongue {M : Mem} {x : Int32} : f_X1_hasTongue x M = some (bI (tB (St M) x)) := by
  unfold f_X1_hasTongue
  rw [ev_isIn, k6, cp_s, rz_bI]; rfl
theorem ev_isTongue {M : Mem} (hK : KK M) {x : Int32} : f_X10_isTongue x M = some (bI (tB (St M) x)) := by
  unfold f_X10_isTongue
  have : M.1 109 0 = St M 1 0 := hK.2.1.1
  rw [this, ev_between, cp_s, rz_bI]; rfl
theorem nW_pos {S : Nat → Nat → Int32} (h : IvT S) {t : Nat} (ht : t < 6) : S 5 t ≤ 0 ↔ ¬ 0 < nW S t := by
  rw [nW_eq h ht, show (0 : Int32) = nI 0 from rfl, nI_leI (by have := nW_le h ht; omega) (by omega)]; omega
theorem ev_hasWords {M : Mem} (hT : IvT (St M)) {x : Int32} : f_X1_hasWords x M = some (bI (spB (St M) x)) := by
  unfold f_X1_hasWords spB
  rw [ev_hasTongue, cp_s, if_bI]
  cases h : tB (St M) x with
  | false => rfl
  | true =>
    obtain ⟨t, ht, rfl⟩ := (tB_iff hT).mp h
    have h6 : t < 6 := by have := nT_le hT; omega
    simp only [cond]
    rw [rd_n h6, k10, nI_clamp (by omega)]
    by_cases h2 : 0 < nW (St M) t
    · rw [if_neg (fun g => (nW_pos hT h6).mp g h2)]; simp [h2, bI]
    · rw [if_pos ((nW_pos hT h6).mpr h2)]; simp [h2, bI]
theorem rm113 {M : Mem} (hK : KK M) {t : Nat} (ht : t < nT (St M)) : M.1 113 (4 * t) = St M 2 t ∧ M.1 113 (4 * t + 1) = St M 3 t ∧ M.1 113 (4 * t + 2) = St M 4 t ∧ M.1 113 (4 * t + 3) = St M 5 t := by
  have := hK.2.1.2.1 t ht
  simpa using this
theorem rm114 {M : Mem} (hK : KK M) {t w : Nat} (ht : t < nT (St M)) (hw : w < nW (St M) t) : M.1 114 (24 * t + 3 * w) = St M 6 (8 * t + w) ∧ M.1 114 (24 * t + 3 * w + 1) = St M 7 (8 * t + w) ∧ M.1 114 (24 * t + 3 * w + 2) = St M 8 (8 * t + w) := by
  have := hK.2.1.2.2.1 t w ht hw
  simpa using this
theorem i4t3 (t : Nat) : (4 : Int32) * nI t + 3 = nI (4 * t + 3) := by rw [show (4 : Int32) = nI 4 from rfl, nI_mul]; exact nI_add _ 3
theorem ev_speaks {M : Mem} (hK : KK M) {x : Int32} : f_X10_speaks x M = some (bI (spB (St M) x)) := by
  unfold f_X10_speaks spB
  have hT := hK.1.1
  rw [ev_isTongue hK, cp_s, if_bI]
  cases h : tB (St M) x with
  | false => rfl
  | true =>
    obtain ⟨t, ht, rfl⟩ := (tB_iff hT).mp h
    have h6 : t < 6 := by have := nT_le hT; omega
    simp only [cond]
    rw [i4t3, rd_n (by omega), (rm113 hK ht).2.2.2, nI_clamp (by omega)]
    by_cases h2 : 0 < nW (St M) t
    · rw [if_neg (fun g => (nW_pos hT h6).mp g h2)]; simp [h2, bI]
    · rw [if_pos ((nW_pos hT h6).mpr h2)]; simp [h2, bI]
theorem if_b2 {b : Bool} : (if bI b = 0 then some (0 : Int32) else some 1) = some (bI b) := by cases b <;> rfl
theorem ev_hasWord {M : Mem} (hT : IvT (St M)) {x y : Int32} : f_X1_hasWord x y M = some (bI (wdB (St M) x y)) := by
  unfold f_X1_hasWord wdB
  rw [ev_hasTongue, cp_s, if_bI]
  cases h : tB (St M) x with
  | false => rfl
  | true =>
    obtain ⟨t, ht, rfl⟩ := (tB_iff hT).mp h
    have h6 : t < 6 := by have := nT_le hT; omega
    simp only [cond]
    rw [rd_n h6, k10, nI_clamp (by omega), ev_isIn, cp_s, if_b2]; rfl
theorem ev_isWord {M : Mem} (hK : KK M) {x y : Int32} : f_X10_isWord x y M = some (bI (wdB (St M) x y)) := by
  unfold f_X10_isWord wdB
  have hT := hK.1.1
  rw [ev_isTongue hK, cp_s, if_bI]
  cases h : tB (St M) x with
  | false => rfl
  | true =>
    obtain ⟨t, ht, rfl⟩ := (tB_iff hT).mp h
    have h6 : t < 6 := by have := nT_le hT; omega
    simp only [cond]
    rw [i4t3, rd_n (by omega), (rm113 hK ht).2.2.2, nI_clamp (by omega), ev_between, cp_s, if_b2]; rfl
theorem wdB_iff {S : Nat → Nat → Int32} (h : IvT S) {x y : Int32} : wdB S x y = true ↔ ∃ t w, isW S t w ∧ x = nI t ∧ y = nI w := by
  unfold wdB
  rw [Bool.and_eq_true, tB_iff h]
  constructor
  · rintro ⟨⟨t, ht, rfl⟩, h2⟩
    have h6 : t < 6 := by have := nT_le h; omega
    rw [nI_clamp (by omega), nW_eq h h6, inR_nI (by have := nW_le h h6; omega)] at h2
    obtain ⟨w, hw, rfl⟩ := h2
    exact ⟨t, w, ⟨ht, hw⟩, rfl, rfl⟩
  · rintro ⟨t, w, ⟨ht, hw⟩, rfl, rfl⟩
    have h6 : t < 6 := by have := nT_le h; omega
    refine ⟨⟨t, ht, rfl⟩, ?_⟩
    rw [nI_clamp (by omega), nW_eq h h6, inR_nI (by have := nW_le h h6; omega)]
    exact ⟨w, hw, rfl⟩
theorem spB_iff {S : Nat → Nat → Int32} (h : IvT S) {x : Int32} : spB S x = true ↔ ∃ t, t < nT S ∧ 0 < nW S t ∧ x = nI t := by
  unfold spB
  rw [Bool.and_eq_true, tB_iff h, decide_eq_true_iff]
  constructor
  · rintro ⟨⟨t, ht, rfl⟩, h2⟩
    have h6 : t < 6 := by have := nT_le h; omega
    rw [nI_clamp (by omega)] at h2
    exact ⟨t, ht, h2, rfl⟩
  · rintro ⟨t, ht, hw, rfl⟩
    have h6 : t < 6 := by have := nT_le h; omega
    exact ⟨⟨t, ht, rfl⟩, by rw [nI_clamp (by omega)]; exact hw⟩
/-! part, status, count -/
theorem op_part (a : Int32) : opI gRel (f_X9_part a) (f_X10_part a) := by
  intro M hR
  obtain ⟨-, -, -, -, a6, a7⟩ := id hR
  cases h1 : inR a 0 1 with
  | false =>
    have h0 : ¬ a = 0 := fun h => by subst h; revert h1; decide
    have h2 : ¬ a = 1 := fun h => by subst h; revert h1; decide
    exact ⟨-2, rfX 0 M, rfM 0 (rfX 0 M), by simp only [f_X9_part, ev_isIn, cp_s, if_bI, h1, cond, ev_rbad, cl_s], by simp only [f_X10_part, if_neg h0, if_neg h2, ev_bad, cl_s], gRel_rf hR⟩
  | true =>
    obtain ⟨k, hk, rfl⟩ := (inR_lit (m := 1) (by decide)).mp h1
    match k, hk with
    | 0, _ => exact ⟨M.1 0 4, M, M, by simp only [f_X9_part, ev_isIn, cp_s, if_bI, h1, cond]; rfl, by rw [a6]; rfl, hR⟩
    | 1, _ => exact ⟨M.1 0 5, M, M, by simp only [f_X9_part, ev_isIn, cp_s, if_bI, h1, cond]; rfl, by rw [a7]; rfl, hR⟩
    | k + 2, h => omega
theorem op_status (a : Int32) : opI gRel (f_X9_status a) (f_X10_status a) := by
  intro M hR
  obtain ⟨-, -, -, a5, -⟩ := id hR
  cases h1 : inR a 0 2 with
  | false => exact ⟨-1, rfX 0 M, rfM 0 (rfX 0 M), by simp only [f_X9_status, ev_isIn, cp_s, if_bI, show (3 : Int32) - 1 = 2 from rfl, h1, cond, ev_refuse_bad, cl_s], by simp only [f_X10_status, ev_between, cp_s, if_bI, h1, cond, ev_bad, cl_s], gRel_rf hR⟩
  | true =>
    obtain ⟨k, hk, rfl⟩ := (inR_lit (m := 2) (by decide)).mp h1
    exact ⟨M.1 3 k, M, M, by simp only [f_X9_status, ev_isIn, cp_s, if_bI, show (3 : Int32) - 1 = 2 from rfl, h1, cond]; rw [rd_n hk], by simp only [f_X10_status, ev_between, cp_s, if_bI, h1, cond]; rw [rd_n hk, a5 k hk], hR⟩
theorem ev_wordsOf {M : Mem} (hT : IvT (St M)) {x : Int32} : f_X8_wordsOf x M = some (cond (tB (St M) x) (St M 5 x.toNatClampNeg) 0) := by
  unfold f_X8_wordsOf
  rw [ev_hasTongue, cp_s, if_bI]
  cases h : tB (St M) x with
  | false => rfl
  | true =>
    obtain ⟨t, ht, rfl⟩ := (tB_iff hT).mp h
    have h6 : t < 6 := by have := nT_le hT; omega
    simp only [cond]
    rw [rd_n h6, k10, nI_clamp (by omega)]
def cntV (S : Nat → Nat → Int32) (x : Int32) : Int32 := if x = 0 then S 1 0 else if x = 1 then S 9 0 else if x = 2 then S 13 0 else if x = 3 then S 18 0 else cond (tB S (x - 4)) (S 5 (x - 4).toNatClampNeg) 0
theorem ev_howMany {M : Mem} (hT : IvT (St M)) {x : Int32} : f_X8_howMany x M = some (cntV (St M) x) := by
  unfold f_X8_howMany cntV
  rw [ev_wordsOf hT, cp_s, k6, k14, k18, k23]
  by_cases h0 : x = 0
  · simp only [if_pos h0]
  · by_cases h1 : x = 1
    · simp only [if_neg h0, if_pos h1]
    · by_cases h2 : x = 2
      · simp only [if_neg h0, if_neg h1, if_pos h2]
      · by_cases h3 : x = 3
        · simp only [if_neg h0, if_neg h1, if_neg h2, if_pos h3]
        · simp only [if_neg h0, if_neg h1, if_neg h2, if_neg h3]
theorem ev_counted {M : Mem} (hK : KK M) {x : Int32} : f_X10_counted x M = some (cntV (St M) x) := by
  unfold f_X10_counted cntV
  have hT := hK.1.1
  have e1 : M.1 109 0 = St M 1 0 := hK.2.1.1
  have e2 : M.1 110 0 = St M 9 0 := hK.2.2.1.1
  have e3 : M.1 111 0 = St M 13 0 := hK.2.2.2.1.1
  have e4 : M.1 112 0 = St M 18 0 := hK.2.2.2.2.2.1
  rw [ev_isTongue hK, cp_s, if_bI, e1, e2, e3, e4]
  have : (cond (tB (St M) (x - 4)) (rd 72 (M.1 113) (4 * (x - 4) + 3) fun v2 => some v2) (some 0)) = some (cond (tB (St M) (x - 4)) (St M 5 (x - 4).toNatClampNeg) 0) := by
    cases h : tB (St M) (x - 4) with
    | false => rfl
    | true =>
      obtain ⟨t, ht, e⟩ := (tB_iff hT).mp h
      have h6 : t < 6 := by have := nT_le hT; omega
      simp only [cond]
      rw [e, i4t3, rd_n (by omega), (rm113 hK ht).2.2.2, nI_clamp (by omega)]
  rw [this]
  by_cases h0 : x = 0
  · simp only [if_pos h0]
  · by_cases h1 : x = 1
    · simp only [if_neg h0, if_pos h1]
    · by_cases h2 : x = 2
      · simp only [if_neg h0, if_neg h1, if_pos h2]
      · by_cases h3 : x = 3
        · simp only [if_neg h0, if_neg h1, if_neg h2, if_pos h3]
        · simp only [if_neg h0, if_neg h1, if_neg h2, if_neg h3]
theorem op_count (a : Int32) : opI gRel (f_X9_count a) (f_X10_count a) := by
  intro M hR
  have hK := KK_of hR
  cases h1 : inR a 0 9 with
  | false => exact ⟨-2, rfX 0 M, rfM 0 (rfX 0 M), by simp only [f_X9_count, ev_isIn, cp_s, if_bI, h1, cond, ev_rbad, cl_s], by simp only [f_X10_count, ev_between, cp_s, if_bI, h1, cond, ev_bad, cl_s], gRel_rf hR⟩
  | true => exact ⟨cntV (St M) a, M, M, by simp only [f_X9_count, ev_isIn, cp_s, if_bI, h1, cond, ev_howMany hK.1.1], by simp only [f_X10_count, ev_between, cp_s, if_bI, h1, cond, ev_counted hK], hR⟩
