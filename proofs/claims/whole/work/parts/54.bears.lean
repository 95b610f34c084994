/-! bears -/
def brn (S : Nat → Nat → Int32) (k : Int32) (a : Nat) (x : Int32) (t : Nat) : Bool := decide (S 6 (8 * a + chw S k (S 6 (8 * t + chw S k x (-1) t)) (S 7 (8 * t + chw S k x (-1) t)) a) = x)
def bornF (S : Nat → Nat → Int32) (k : Int32) (a : Nat) (x : Int32) : Nat → Nat → Bool
  | 0, _ => true
  | d + 1, t => if 0 < nW S t then brn S k a x t && bornF S k a x d (t + 1) else bornF S k a x d (t + 1)
theorem bornF_s {S : Nat → Nat → Int32} {k : Int32} {a : Nat} {x : Int32} {d t : Nat} : bornF S k a x (d + 1) t = if 0 < nW S t then brn S k a x t && bornF S k a x d (t + 1) else bornF S k a x d (t + 1) := rfl
theorem isBorne_go {M : Mem} (hT : IvT (St M)) {k x : Int32} {a : Nat} (ha : a < nT (St M)) (hwa : 0 < nW (St M) a) : ∀ (d F t : Nat), t + d = nT (St M) → d < F → f_X1_isBorne_3 M k (nI a) x F (nI t) = some (bI (bornF (St M) k a x d t)) := by
  have h6 := nT_le hT
  have e6 : M.1 6 0 = nI (nT (St M)) := by rw [k6]; exact nT_eq hT
  intro d
  induction d with
  | zero =>
    intro F t hi hF
    obtain ⟨F, rfl⟩ : ∃ F', F = F' + 1 := ⟨F - 1, by omega⟩
    show f_X1_isBorne_3_b M (f_X1_isBorne_3 M k (nI a) x F) k (nI a) x (nI t) = _
    unfold f_X1_isBorne_3_b
    rw [e6, if_pos (nI_le (by omega) (by omega))]; rfl
  | succ d ih =>
    intro F t hi hF
    obtain ⟨F, rfl⟩ : ∃ F', F = F' + 1 := ⟨F - 1, by omega⟩
    have step := ih F (t + 1) (by omega) (by omega)
    show f_X1_isBorne_3_b M (f_X1_isBorne_3 M k (nI a) x F) k (nI a) x (nI t) = _
    unfold f_X1_isBorne_3_b f_X1_isBorne_63
    rw [e6, if_neg (nI_ge (by omega) (by omega)), ev_hasWords hT, cp_s, if_bI, spB_nI hT (by omega), nI_1, step]
    rw [bornF_s]
    by_cases h0 : 0 < nW (St M) t
    · rw [decide_eq_true h0, if_pos h0]
      have h8 := nW_le hT (show t < 6 by omega)
      have h8a := nW_le hT (show a < 6 by omega)
      have hc := chw_lt (S := St M) (k := k) (p := x) (s := -1) h0
      have hc2 := chw_lt (S := St M) (k := k) (p := St M 6 (8 * t + chw (St M) k x (-1) t)) (s := St M 7 (8 * t + chw (St M) k x (-1) t)) hwa
      simp only [cond]
      rw [ev_cheapest hT (by omega) h0, cp_s, rd_n (by omega), rd_n (by omega), k11, k12, ev_cheapest hT ha hwa, cp_s, rd_n (by omega)]
      unfold brn
      by_cases hx : St M 6 (8 * a + chw (St M) k (St M 6 (8 * t + chw (St M) k x (-1) t)) (St M 7 (8 * t + chw (St M) k x (-1) t)) a) = x
      · rw [if_pos hx, decide_eq_true hx]; rfl
      · rw [if_neg hx, decide_eq_false hx]; rfl
    · rw [decide_eq_false h0, if_neg h0]; rfl
theorem isBorneM_go {M : Mem} (hK : KK M) {k x : Int32} {a : Nat} (hk : U 6 k) (hx : U 256 x) (ha : a < nT (St M)) (hwa : 0 < nW (St M) a) : ∀ (d F t : Nat) (b : Bool), t + d = nT (St M) → d < F → f_X10_isBorne_6 M k (nI a) x F (bI b) (nI t) = some (bI (b && bornF (St M) k a x d t)) := by
  have hT := hK.1.1
  have h6 := nT_le hT
  have e109 : M.1 109 0 = nI (nT (St M)) := by rw [show M.1 109 0 = St M 1 0 from hK.2.1.1]; exact nT_eq hT
  intro d
  induction d with
  | zero =>
    intro F t b hi hF
    obtain ⟨F, rfl⟩ : ∃ F', F = F' + 1 := ⟨F - 1, by omega⟩
    show f_X10_isBorne_6_b M (f_X10_isBorne_6 M k (nI a) x F) k (nI a) x (bI b) (nI t) = _
    unfold f_X10_isBorne_6_b
    rw [e109, if_pos (nI_le (by omega) (by omega)), rz_bI]
    cases b <;> rfl
  | succ d ih =>
    intro F t b hi hF
    obtain ⟨F, rfl⟩ : ∃ F', F = F' + 1 := ⟨F - 1, by omega⟩
    have step := fun b => ih F (t + 1) b (by omega) (by omega)
    show f_X10_isBorne_6_b M (f_X10_isBorne_6 M k (nI a) x F) k (nI a) x (bI b) (nI t) = _
    unfold f_X10_isBorne_6_b f_X10_isBorne_77 f_X10_isBorne_78 f_X10_isBorne_80
    rw [e109, if_neg (nI_ge (by omega) (by omega)), ev_speaks hK, cp_s, if_bI, spB_nI hT (by omega), nI_1, step]
    rw [bornF_s]
    by_cases h0 : 0 < nW (St M) t
    · rw [decide_eq_true h0, if_pos h0]
      have h8 := nW_le hT (show t < 6 by omega)
      have h8a := nW_le hT (show a < 6 by omega)
      have hc := chw_lt (S := St M) (k := k) (p := x) (s := -1) h0
      obtain ⟨w1, w2, w3, w4⟩ := hT.2.2.2.1 t _ (by omega) hc
      have hc2 := chw_lt (S := St M) (k := k) (p := St M 6 (8 * t + chw (St M) k x (-1) t)) (s := St M 7 (8 * t + chw (St M) k x (-1) t)) hwa
      obtain ⟨r1, r2, r3⟩ := rm114 hK (show t < nT (St M) by omega) hc
      obtain ⟨r4, r5, r6⟩ := rm114 hK ha hc2
      simp only [cond]
      rw [ev_gets hK (by omega) h0 hk hx (Or.inl rfl), cp_s, if_bI]
      cases b with
      | false =>
        simp only [cond]
        exact step false
      | true =>
        simp only [cond]
        rw [rd_n (by omega), ia1, rd_n (by omega), r1, r2, ev_gets hK ha hwa hk w1 (Or.inr w3), cp_s, rd_n (by omega), r4]
        unfold brn
        by_cases hx : St M 6 (8 * a + chw (St M) k (St M 6 (8 * t + chw (St M) k x (-1) t)) (St M 7 (8 * t + chw (St M) k x (-1) t)) a) = x
        · rw [if_pos hx, decide_eq_true hx]; exact step true
        · rw [if_neg hx, decide_eq_false hx]; exact step false
    · rw [decide_eq_false h0, if_neg h0]; rfl
def bornB (S : Nat → Nat → Int32) (k : Int32) (a : Nat) (x : Int32) : Bool := bornF S k a x (nT S) 0
theorem ev_isBorne {M : Mem} (hT : IvT (St M)) {k x : Int32} {a : Nat} (ha : a < nT (St M)) (hwa : 0 < nW (St M) a) : f_X1_isBorne k (nI a) x M = some (bI (bornB (St M) k a x)) := isBorne_go hT ha hwa (nT (St M)) FU 0 (by omega) (FU_of (by have := nT_le hT; omega))
theorem ev_isBorneM {M : Mem} (hK : KK M) {k x : Int32} {a : Nat} (hk : U 6 k) (hx : U 256 x) (ha : a < nT (St M)) (hwa : 0 < nW (St M) a) : f_X10_isBorne k (nI a) x M = some (bI (bornB (St M) k a x)) := by
  have := isBorneM_go hK hk hx ha hwa (nT (St M)) FU 0 true (by omega) (FU_of (by have := nT_le hK.1.1; omega))
  exact this
/-- sets from x on: how many are borne (from n on), or the i-th -/
def brs (S : Nat → Nat → Int32) (k : Int32) (a : Nat) (i : Int32) : Nat → Nat → Nat → Int32
  | 0, _, n => if i = -1 then nI n else -5
  | d + 1, x, n => cond (bornB S k a (nI x)) (if nI n = i then nI x else brs S k a i d (x + 1) (n + 1)) (brs S k a i d (x + 1) n)
theorem brs_s {S : Nat → Nat → Int32} {k : Int32} {a : Nat} {i : Int32} {d x n : Nat} : brs S k a i (d + 1) x n = cond (bornB S k a (nI x)) (if nI n = i then nI x else brs S k a i d (x + 1) (n + 1)) (brs S k a i d (x + 1) n) := rfl
theorem brs_0 {S : Nat → Nat → Int32} {k : Int32} {a : Nat} {i : Int32} {x n : Nat} : brs S k a i 0 x n = if i = -1 then nI n else -5 := rfl
theorem bears_go {M : Mem} (hT : IvT (St M)) {k i : Int32} {a : Nat} (ha : a < nT (St M)) (hwa : 0 < nW (St M) a) : ∀ (d F x n : Nat), x + d = 256 → d < F → f_X9_bears_64 k (nI a) i F (nI n) (nI x) M = some (brs (St M) k a i d x n, M) := by
  intro d
  induction d with
  | zero =>
    intro F x n hi hF
    obtain ⟨F, rfl⟩ : ∃ F', F = F' + 1 := ⟨F - 1, by omega⟩
    show f_X9_bears_64_b (f_X9_bears_64 k (nI a) i F) k (nI a) i (nI n) (nI x) M = _
    unfold f_X9_bears_64_b
    rw [brs_0]
    rw [if_pos (show (255 : Int32) < nI x from nI_lt (a := 255) (by omega) (by omega))]
    split <;> rfl
  | succ d ih =>
    intro F x n hi hF
    obtain ⟨F, rfl⟩ : ∃ F', F = F' + 1 := ⟨F - 1, by omega⟩
    show f_X9_bears_64_b (f_X9_bears_64 k (nI a) i F) k (nI a) i (nI n) (nI x) M = _
    unfold f_X9_bears_64_b f_X9_bears_101
    rw [brs_s]
    rw [if_neg (show ¬ (255 : Int32) < nI x from nI_nlt (b := x) (a := 255) (by omega) (by decide)), ev_isBorne hT ha hwa, cp_s, if_bI, nI_1, nI_1, ih F (x + 1) n (by omega) (by omega), ih F (x + 1) (n + 1) (by omega) (by omega)]
    cases bornB (St M) k a (nI x)
    · rfl
    · show (if nI n = i then _ else _) = _
      by_cases h : nI n = i
      · rw [if_pos h]; simp only [cond]; rw [if_pos h]
      · rw [if_neg h]; simp only [cond]; rw [if_neg h]
theorem borneM_go {M : Mem} (hK : KK M) {k i : Int32} {a : Nat} (hk : U 6 k) (hi0 : -1 ≤ i) (ha : a < nT (St M)) (hwa : 0 < nW (St M) a) : ∀ (d F x n : Nat), x + d = 256 → d < F → f_X10_borne_6 M k (nI a) i F (nI n) (nI x) = some (brs (St M) k a i d x n) := by
  have hneg : 0 ≤ i ↔ ¬ i = -1 := by
    rw [Int32.le_iff_toInt_le] at hi0 ⊢
    rw [← Int32.toInt_inj]
    have h1 : (-1 : Int32).toInt = -1 := rfl
    have h2 : (0 : Int32).toInt = 0 := rfl
    rw [h1] at hi0 ⊢
    rw [h2]; omega
  intro d
  induction d with
  | zero =>
    intro F x n hi hF
    obtain ⟨F, rfl⟩ : ∃ F', F = F' + 1 := ⟨F - 1, by omega⟩
    show f_X10_borne_6_b M (f_X10_borne_6 M k (nI a) i F) k (nI a) i (nI n) (nI x) = _
    unfold f_X10_borne_6_b
    rw [brs_0]
    rw [if_pos (show (256 : Int32) ≤ nI x from nI_le (a := 256) (by omega) (by omega))]
    by_cases h : i = -1
    · rw [if_neg (fun g => hneg.mp g h), if_pos h]
    · rw [if_pos (hneg.mpr h), if_neg h]
  | succ d ih =>
    intro F x n hi hF
    obtain ⟨F, rfl⟩ : ∃ F', F = F' + 1 := ⟨F - 1, by omega⟩
    show f_X10_borne_6_b M (f_X10_borne_6 M k (nI a) i F) k (nI a) i (nI n) (nI x) = _
    unfold f_X10_borne_6_b f_X10_borne_37
    rw [brs_s]
    rw [if_neg (show ¬ (256 : Int32) ≤ nI x from nI_ge (b := 256) (by omega) (by decide)), ev_isBorneM hK hk ⟨x, by omega, rfl⟩ ha hwa, cp_s, if_bI, nI_1, nI_1, ih F (x + 1) n (by omega) (by omega), ih F (x + 1) (n + 1) (by omega) (by omega)]
    cases bornB (St M) k a (nI x)
    · rfl
    · show (if nI n = i then _ else _) = _
      by_cases h : nI n = i
      · rw [if_pos h]; simp only [cond]; rw [if_pos h]
      · rw [if_neg h]; simp only [cond]; rw [if_neg h]
theorem bears_X {M : Mem} (hT : IvT (St M)) {k i : Int32} {a : Nat} (ha : a < nT (St M)) (hwa : 0 < nW (St M) a) : f_X9_bears_64 k (nI a) i FU 0 1 M = some (brs (St M) k a i 255 1 0, M) := by
  have := bears_go hT (k := k) (i := i) ha hwa 255 FU 1 0 (by omega) (FU_of (by omega))
  exact this
theorem borne_M {M : Mem} (hK : KK M) {k i : Int32} {a : Nat} (hk : U 6 k) (hi0 : -1 ≤ i) (ha : a < nT (St M)) (hwa : 0 < nW (St M) a) : f_X10_borne k (nI a) i M = some (brs (St M) k a i 255 1 0) := by
  unfold f_X10_borne
  have := borneM_go hK hk hi0 ha hwa 255 FU 1 0 (by omega) (FU_of (by omega))
  exact this
theorem op_bears (a b c : Int32) : opI gRel (f_X9_bears a b c) (f_X10_bears a b c) := by
  intro M hR
  have hK := KK_of hR
  have hT := hK.1.1
  have eS : ∀ i, St (rfX i M) = St M := fun i => St_sc (fun c c1 c2 => by rw [rfX, mset_ne (by omega)])
  have hK1 : ∀ i, KK (rfX i M) := fun i => KK_sc hK (fun c c1 c2 => by rw [rfX, mset_ne (by omega)]) (fun c c1 c2 => by rw [rfX, mset_ne (by omega)])
  have bad : ∀ (hx : f_X9_bears a b c M = f_X9_bears_26 M) (hm : f_X10_bears a b c (rfX 0 M) = f_X10_bears_20 (rfX 0 M)), ∃ r M1 M2, f_X9_bears a b c M = some (r, M1) ∧ f_X10_bears a b c M1 = some (r, M2) ∧ gRel M2 := fun hx hm => ⟨-10, rfX 0 M, rfM 0 (rfX 0 M), by rw [hx]; rfl, by rw [hm]; rfl, gRel_rf hR⟩
  cases h1 : inR a 0 5 with
  | false => exact bad (by simp only [f_X9_bears, ev_isKind, cp_s, if_bI, h1, cond]) (by simp only [f_X10_bears, ev_isKindM, cp_s, if_bI, h1, cond])
  | true =>
  cases h2 : tB (St M) b with
  | false => exact bad (by simp only [f_X9_bears, ev_isKind, ev_hasTongue, cp_s, if_bI, h1, h2, cond]) (by simp only [f_X10_bears, ev_isKindM, ev_isTongue (hK1 0), eS, cp_s, if_bI, h1, h2, cond])
  | true =>
  by_cases h3 : -1 ≤ c
  case neg => exact bad (by simp only [f_X9_bears, ev_isKind, ev_hasTongue, cp_s, if_bI, h1, h2, cond, if_neg h3]) (by simp only [f_X10_bears, ev_isKindM, ev_isTongue (hK1 0), eS, cp_s, if_bI, h1, h2, cond, if_neg h3])
  case pos =>
  cases h4 : spB (St M) b with
  | false => exact ⟨-20, rfX 1 M, rfM 1 (rfX 1 M), by simp only [f_X9_bears, ev_isKind, ev_hasTongue, ev_hasWords hT, cp_s, if_bI, h1, h2, h4, cond, if_pos h3]; rfl, by simp only [f_X10_bears, ev_isKindM, ev_isTongue (hK1 1), ev_speaks (hK1 1), eS, cp_s, if_bI, h1, h2, h4, cond, if_pos h3]; rfl, gRel_rf hR⟩
  | true =>
    obtain ⟨t, ht, hw, rfl⟩ := (spB_iff hT).mp h4
    refine ⟨brs (St M) a t c 255 1 0, M, M, ?_, ?_, hR⟩
    · simp only [f_X9_bears, ev_isKind, ev_hasTongue, ev_hasWords hT, cp_s, if_bI, h1, h2, h4, cond, if_pos h3, bears_X hT ht hw]
    · simp only [f_X10_bears, ev_isKindM, ev_isTongue hK, ev_speaks hK, cp_s, if_bI, h1, h2, h4, cond, if_pos h3, borne_M hK (kind_U h1) h3 ht hw]
