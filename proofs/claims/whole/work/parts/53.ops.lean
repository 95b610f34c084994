theorem ev_isKind {M : Mem} {x : Int32} : f_X9_isKind x M = some (bI (inR x 0 5)) := by
  unfold f_X9_isKind; rw [ev_isIn, cp_s, rz_bI]
theorem ev_isKindM {M : Mem} {x : Int32} : f_X10_isKind x M = some (bI (inR x 0 5)) := by
  unfold f_X10_isKind; rw [ev_between, cp_s, rz_bI]
theorem kind_U {x : Int32} (h : inR x 0 5 = true) : U 6 x := (inR_lit (m := 5) (by decide)).mp h
def plB (S : Nat → Nat → Int32) (x : Int32) : Bool := inR x 0 (S 9 0 - 1)
theorem ev_isPlace {M : Mem} {x : Int32} : f_X9_isPlace x M = some (bI (plB (St M) x)) := by
  unfold f_X9_isPlace; rw [ev_isIn, k14, cp_s, rz_bI]; rfl
theorem plB_iff {S : Nat → Nat → Int32} (h : IvP S) {x : Int32} : plB S x = true ↔ U (nP S) x := by
  unfold plB
  rw [nP_eq h]
  exact inR_nI (by have := nP_le h; omega)
theorem rm110 {M : Mem} (hK : KK M) : M.1 110 0 = St M 9 0 := hK.2.2.1.1
theorem rm117 {M : Mem} (hK : KK M) {p : Nat} (hp : p < nP (St M)) : M.1 117 p = St M 10 p ∧ M.1 117 (6 + p) = -1 := by
  have h6 := nP_le hK.1.2.1
  have h1 := hK.2.2.1.2.1 p hp
  have h2 := hK.2.2.1.2.2.2.1 p (by omega)
  exact ⟨by simpa using h1, by simpa using h2⟩
theorem i6 (p : Nat) : (6 : Int32) + nI p = nI (6 + p) := nI_add 6 p
theorem op_cost (a b c d : Int32) : opI gRel (f_X9_cost a b c d) (f_X10_cost a b c d) := by
  intro M hR
  have hK := KK_of hR
  have hT := hK.1.1
  have eS : St (rfX 0 M) = St M := St_sc (fun c c1 c2 => by rw [rfX, mset_ne (by omega)])
  have hK1 : KK (rfX 0 M) := KK_sc hK (fun c c1 c2 => by rw [rfX, mset_ne (by omega)]) (fun c c1 c2 => by rw [rfX, mset_ne (by omega)])
  have bad : ∀ (hx : f_X9_cost a b c d M = f_X9_cost_31 M) (hm : f_X10_cost a b c d (rfX 0 M) = f_X10_cost_35 (rfX 0 M)), ∃ r M1 M2, f_X9_cost a b c d M = some (r, M1) ∧ f_X10_cost a b c d M1 = some (r, M2) ∧ gRel M2 := fun hx hm => ⟨-1000, rfX 0 M, rfM 0 (rfX 0 M), by rw [hx]; rfl, by rw [hm]; rfl, gRel_rf hR⟩
  have e110 : ∀ X, KK X → St X = St M → f_X10_between b 0 (X.1 110 0 - 1) X = some (bI (plB (St M) b)) := fun X hX hs => by rw [ev_between, rm110 hX, hs]; rfl
  cases h1 : inR a 0 5 with
  | false => exact bad (by simp only [f_X9_cost, ev_isKind, cp_s, if_bI, h1, cond]) (by simp only [f_X10_cost, ev_between, cp_s, if_bI, h1, cond])
  | true =>
  cases h2 : plB (St M) b with
  | false => exact bad (by simp only [f_X9_cost, ev_isKind, ev_isPlace, cp_s, if_bI, h1, h2, cond]) (by
      unfold f_X10_cost
      rw [ev_between, cp_s, if_bI, h1, e110 _ hK1 eS, cp_s, if_bI, h2]; rfl)
  | true =>
  cases h3 : wdB (St M) c d with
  | false => exact bad (by simp only [f_X9_cost, ev_isKind, ev_isPlace, ev_hasWord hT, cp_s, if_bI, h1, h2, h3, cond]) (by
      unfold f_X10_cost
      rw [ev_between, cp_s, if_bI, h1, e110 _ hK1 eS, cp_s, if_bI, h2, ev_isWord hK1, eS, cp_s, if_bI, h3]; rfl)
  | true =>
  obtain ⟨p, hp, rfl⟩ := (plB_iff hK.1.2.1).mp h2
  obtain ⟨t, w, hw, rfl, rfl⟩ := (wdB_iff hT).mp h3
  have h6 := nP_le hK.1.2.1
  have ht6 : t < 6 := by have := nT_le hT; have := hw.1; omega
  have hw8 : w < 8 := by have := nW_le hT ht6; have := hw.2; omega
  obtain ⟨u1, u2, u3⟩ := hK.1.2.1.2.1 p hp
  obtain ⟨v1, v2⟩ := rm117 hK hp
  refine ⟨cst (St M) a (St M 10 p) (-1) (8 * t + w), M, M, ?_, ?_, hR⟩
  · simp only [f_X9_cost, ev_isKind, ev_isPlace, ev_hasWord hT, cp_s, if_bI, h1, h2, h3, cond]
    rw [rd_n (by omega), rd_n (by omega), i8, k15, k16, u3, ev_costOf (by omega), cp_s]
  · unfold f_X10_cost
    rw [ev_between, cp_s, if_bI, h1, e110 _ hK rfl, cp_s, if_bI, h2, ev_isWord hK, cp_s, if_bI, h3]
    simp only [cond]
    rw [rd_n (by omega), i6, rd_n (by omega), i24, v1, v2, ev_costs hK hw.1 hw.2 (kind_U h1) u1 (Or.inl rfl), cp_s]
/-! the voices -/
def vnx (S : Nat → Nat → Int32) : Nat → Nat → Option Nat
  | 0, _ => none
  | d + 1, j => if 0 < nW S j then some j else vnx S d (j + 1)
def vI : Option Nat → Int32
  | none => -1
  | some t => nI t
def vb (S : Nat → Nat → Int32) (j : Nat) : Option Nat := vnx S (nT S - j) j
theorem vb_step {S : Nat → Nat → Int32} {j : Nat} (h : j < nT S) : vb S j = if 0 < nW S j then some j else vb S (j + 1) := by
  unfold vb
  rw [show nT S - j = (nT S - (j + 1)) + 1 by omega]
  rfl
theorem vb_end {S : Nat → Nat → Int32} {j : Nat} (h : nT S ≤ j) : vb S j = none := by
  unfold vb
  rw [show nT S - j = 0 by omega]
  rfl
theorem vb_some {S : Nat → Nat → Int32} : ∀ (d j t : Nat), j + d = nT S → vb S j = some t → j ≤ t ∧ t < nT S ∧ 0 < nW S t ∧ ∀ u, j ≤ u → u < t → ¬ 0 < nW S u := by
  intro d
  induction d with
  | zero => intro j t hj h; rw [vb_end (by omega)] at h; cases h
  | succ d ih =>
    intro j t hj h
    rw [vb_step (by omega)] at h
    by_cases h0 : 0 < nW S j
    · rw [if_pos h0] at h; cases h
      exact ⟨Nat.le_refl _, by omega, h0, fun u _ _ => by omega⟩
    · rw [if_neg h0] at h
      obtain ⟨g1, g2, g3, g4⟩ := ih (j + 1) t (by omega) h
      refine ⟨by omega, g2, g3, fun u u1 u2 => ?_⟩
      by_cases hu : u = j
      · subst hu; exact h0
      · exact g4 u (by omega) u2
theorem vb_none {S : Nat → Nat → Int32} : ∀ (d j : Nat), j + d = nT S → vb S j = none → ∀ u, j ≤ u → u < nT S → ¬ 0 < nW S u := by
  intro d
  induction d with
  | zero => intro j hj h u u1 u2; omega
  | succ d ih =>
    intro j hj h u u1 u2
    rw [vb_step (by omega)] at h
    by_cases h0 : 0 < nW S j
    · rw [if_pos h0] at h; cases h
    · rw [if_neg h0] at h
      by_cases hu : u = j
      · subst hu; exact h0
      · exact ih (j + 1) (by omega) h u (by omega) u2
theorem voice_go {M : Mem} (hT : IvT (St M)) : ∀ (d F j : Nat), nT (St M) ≤ j + d → j < 100 → d < F → f_X1_voiceBehind_4 M F (nI j) = some (vI (vb (St M) j)) := by
  have h6 := nT_le hT
  have e6 : M.1 6 0 = nI (nT (St M)) := by rw [k6]; exact nT_eq hT
  intro d
  induction d with
  | zero =>
    intro F j hj hj2 hF
    obtain ⟨F, rfl⟩ : ∃ F', F = F' + 1 := ⟨F - 1, by omega⟩
    show f_X1_voiceBehind_4_b M (f_X1_voiceBehind_4 M F) (nI j) = _
    unfold f_X1_voiceBehind_4_b
    rw [e6, if_pos (nI_le (by omega) (by omega)), vb_end (by omega)]; rfl
  | succ d ih =>
    intro F j hj hj2 hF
    obtain ⟨F, rfl⟩ : ∃ F', F = F' + 1 := ⟨F - 1, by omega⟩
    show f_X1_voiceBehind_4_b M (f_X1_voiceBehind_4 M F) (nI j) = _
    unfold f_X1_voiceBehind_4_b
    by_cases hjn : nT (St M) ≤ j
    · rw [e6, if_pos (nI_le (by omega) (by omega)), vb_end (by omega)]; rfl
    · rw [e6, if_neg (nI_ge (by omega) (by omega)), ev_hasWords hT, cp_s, if_bI, vb_step (by omega)]
      have hsp : spB (St M) (nI j) = decide (0 < nW (St M) j) := by
        unfold spB
        rw [(tB_iff hT).mpr ⟨j, by omega, rfl⟩, nI_clamp (by omega)]; rfl
      rw [hsp]
      by_cases h0 : 0 < nW (St M) j
      · rw [if_pos h0, decide_eq_true h0]; rfl
      · rw [if_neg h0, decide_eq_false h0, nI_1]
        exact ih F (j + 1) (by omega) (by omega) (by omega)
theorem ev_voice {M : Mem} (hT : IvT (St M)) {x : Int32} {j : Nat} (hx : x + 1 = nI j) (hj : j < 100) : f_X1_voiceBehind x M = some (vI (vb (St M) j)) := by
  unfold f_X1_voiceBehind
  rw [hx]
  have := nT_le hT
  exact voice_go hT (nT (St M)) FU j (by omega) hj (FU_of (by omega))
theorem spB_nI {S : Nat → Nat → Int32} (hT : IvT S) {j : Nat} (h : j < nT S) : spB S (nI j) = decide (0 < nW S j) := by
  have := nT_le hT
  unfold spB
  rw [(tB_iff hT).mpr ⟨j, h, rfl⟩, nI_clamp (by omega)]; rfl
/-! common -/
def cmn (S : Nat → Nat → Int32) (k p s : Int32) : Nat → Int32
  | 0 => 255
  | t + 1 => if 0 < nW S t then cmn S k p s t &&& S 6 (8 * t + chw S k p s t) else cmn S k p s t
theorem common_go {M : Mem} (hK : KK M) {k : Int32} {p : Nat} (hp : p < nP (St M)) : ∀ (d F i : Nat), i + d = nT (St M) → d < F → f_X9_common_55 k (nI p) F (nI i) (cmn (St M) k (St M 10 p) (-1) i) M = some (cmn (St M) k (St M 10 p) (-1) (nT (St M)), M) := by
  have hT := hK.1.1
  have h6 := nT_le hT
  have hp6 := nP_le hK.1.2.1
  have e6 : M.1 6 0 = nI (nT (St M)) := by rw [k6]; exact nT_eq hT
  obtain ⟨u1, u2, u3⟩ := hK.1.2.1.2.1 p hp
  intro d
  induction d with
  | zero =>
    intro F i hi hF
    obtain ⟨F, rfl⟩ : ∃ F', F = F' + 1 := ⟨F - 1, by omega⟩
    show f_X9_common_55_b (f_X9_common_55 k (nI p) F) k (nI p) (nI i) _ M = _
    unfold f_X9_common_55_b
    rw [e6, if_pos (nI_le (by omega) (by omega)), show i = nT (St M) by omega]
  | succ d ih =>
    intro F i hi hF
    obtain ⟨F, rfl⟩ : ∃ F', F = F' + 1 := ⟨F - 1, by omega⟩
    have step := ih F (i + 1) (by omega) (by omega)
    show f_X9_common_55_b (f_X9_common_55 k (nI p) F) k (nI p) (nI i) _ M = _
    unfold f_X9_common_55_b f_X9_common_113
    rw [e6, if_neg (nI_ge (by omega) (by omega)), ev_hasWords hT, cp_s, if_bI, spB_nI hT (by omega), nI_1, ← step]
    by_cases h0 : 0 < nW (St M) i
    · have h8 := nW_le hT (show i < 6 by omega)
      have hc := chw_lt (S := St M) (k := k) (p := St M 10 p) (s := -1) h0
      rw [decide_eq_true h0, show cmn (St M) k (St M 10 p) (-1) (i + 1) = cmn (St M) k (St M 10 p) (-1) i &&& St M 6 (8 * i + chw (St M) k (St M 10 p) (-1) i) from by show (if 0 < nW (St M) i then _ else _) = _; rw [if_pos h0]]
      simp only [cond]
      rw [rd_n (by omega), rd_n (by omega), k15, k16, u3, ev_cheapest hT (by omega) h0, cp_s, rd_n (by omega), k11]
    · rw [decide_eq_false h0, show cmn (St M) k (St M 10 p) (-1) (i + 1) = cmn (St M) k (St M 10 p) (-1) i from by show (if 0 < nW (St M) i then _ else _) = _; rw [if_neg h0]]
      rfl
theorem commonM_go {M : Mem} (hK : KK M) {k : Int32} {p : Nat} (hk : U 6 k) (hp : p < nP (St M)) : ∀ (d F i m : Nat), i + d = nT (St M) → m + d < 100 → d < F → f_X10_common_40 k (nI p) F (cmn (St M) k (St M 10 p) (-1) i) (nI m) (nI i) M = if m = 0 ∧ vb (St M) i = none then some (-3, rfM 1 M) else some (cmn (St M) k (St M 10 p) (-1) (nT (St M)), M) := by
  have hT := hK.1.1
  have h6 := nT_le hT
  have hp6 := nP_le hK.1.2.1
  have e109 : M.1 109 0 = nI (nT (St M)) := by rw [show M.1 109 0 = St M 1 0 from hK.2.1.1]; exact nT_eq hT
  obtain ⟨u1, u2, u3⟩ := hK.1.2.1.2.1 p hp
  obtain ⟨v1, v2⟩ := rm117 hK hp
  intro d
  induction d with
  | zero =>
    intro F i m hi hm hF
    obtain ⟨F, rfl⟩ : ∃ F', F = F' + 1 := ⟨F - 1, by omega⟩
    show f_X10_common_40_b (f_X10_common_40 k (nI p) F) k (nI p) _ (nI m) (nI i) M = _
    unfold f_X10_common_40_b
    rw [e109, if_pos (nI_le (by omega) (by omega)), show i = nT (St M) by omega]
    by_cases h0 : m = 0
    · subst h0
      rw [if_pos (show nI 0 = 0 from rfl), if_pos (show 0 = 0 ∧ vb (St M) (nT (St M)) = none from ⟨rfl, vb_end (Nat.le_refl _)⟩)]; rfl
    · rw [if_neg (nI_ne0 (by omega) (by omega)), if_neg (show ¬ (m = 0 ∧ vb (St M) (nT (St M)) = none) from fun h => h0 h.1)]
  | succ d ih =>
    intro F i m hi hm hF
    obtain ⟨F, rfl⟩ : ∃ F', F = F' + 1 := ⟨F - 1, by omega⟩
    show f_X10_common_40_b (f_X10_common_40 k (nI p) F) k (nI p) _ (nI m) (nI i) M = _
    unfold f_X10_common_40_b f_X10_common_93
    rw [e109, if_neg (nI_ge (by omega) (by omega)), ev_speaks hK, cp_s, if_bI, spB_nI hT (by omega), nI_1]
    by_cases h0 : 0 < nW (St M) i
    · have step := ih F (i + 1) (m + 1) (by omega) (by omega) (by omega)
      have h8 := nW_le hT (show i < 6 by omega)
      have hc := chw_lt (S := St M) (k := k) (p := St M 10 p) (s := -1) h0
      rw [show cmn (St M) k (St M 10 p) (-1) (i + 1) = cmn (St M) k (St M 10 p) (-1) i &&& St M 6 (8 * i + chw (St M) k (St M 10 p) (-1) i) from by show (if 0 < nW (St M) i then _ else _) = _; rw [if_pos h0]] at step
      rw [decide_eq_true h0, if_neg (show ¬ (m = 0 ∧ vb (St M) i = none) from fun h => by have := h.2; rw [vb_step (by omega), if_pos h0] at this; cases this)]
      rw [if_neg (show ¬ (m + 1 = 0 ∧ vb (St M) (i + 1) = none) from fun h => by omega)] at step
      simp only [cond]
      rw [rd_n (by omega), i6, rd_n (by omega), v1, v2, ev_gets hK (by omega) h0 hk u1 (Or.inl rfl), cp_s, rd_n (by omega), (rm114 hK (by omega) hc).1, nI_1]
      exact step
    · have step := ih F (i + 1) m (by omega) (by omega) (by omega)
      rw [show cmn (St M) k (St M 10 p) (-1) (i + 1) = cmn (St M) k (St M 10 p) (-1) i from by show (if 0 < nW (St M) i then _ else _) = _; rw [if_neg h0]] at step
      rw [decide_eq_false h0]
      simp only [cond]
      rw [nI_1, step, vb_step (show i < nT (St M) by omega), if_neg h0]
theorem cmn_skip {S : Nat → Nat → Int32} {k p s : Int32} : ∀ n, (∀ u, u < n → ¬ 0 < nW S u) → cmn S k p s n = 255 := by
  intro n
  induction n with
  | zero => intro _; rfl
  | succ n ih =>
    intro h
    show (if 0 < nW S n then _ else _) = _
    rw [if_neg (h n (by omega)), ih (fun u hu => h u (by omega))]
theorem op_common (a b : Int32) : opI gRel (f_X9_common a b) (f_X10_common a b) := by
  intro M hR
  have hK := KK_of hR
  have hT := hK.1.1
  have h6 := nT_le hT
  have eS : ∀ i, St (rfX i M) = St M := fun i => St_sc (fun c c1 c2 => by rw [rfX, mset_ne (by omega)])
  have hK1 : ∀ i, KK (rfX i M) := fun i => KK_sc hK (fun c c1 c2 => by rw [rfX, mset_ne (by omega)]) (fun c c1 c2 => by rw [rfX, mset_ne (by omega)])
  have bad : ∀ (hx : f_X9_common a b M = f_X9_common_15 M) (hm : f_X10_common a b (rfX 0 M) = f_X10_common_23 (rfX 0 M)), ∃ r M1 M2, f_X9_common a b M = some (r, M1) ∧ f_X10_common a b M1 = some (r, M2) ∧ gRel M2 := fun hx hm => ⟨-2, rfX 0 M, rfM 0 (rfX 0 M), by rw [hx]; rfl, by rw [hm]; rfl, gRel_rf hR⟩
  have e110 : ∀ X, KK X → St X = St M → f_X10_between b 0 (X.1 110 0 - 1) X = some (bI (plB (St M) b)) := fun X hX hs => by rw [ev_between, rm110 hX, hs]; rfl
  cases h1 : inR a 0 5 with
  | false => exact bad (by simp only [f_X9_common, ev_isKind, cp_s, if_bI, h1, cond]) (by simp only [f_X10_common, ev_isKindM, cp_s, if_bI, h1, cond])
  | true =>
  cases h2 : plB (St M) b with
  | false => exact bad (by simp only [f_X9_common, ev_isKind, ev_isPlace, cp_s, if_bI, h1, h2, cond]) (by
      unfold f_X10_common
      rw [ev_isKindM, cp_s, if_bI, h1, e110 _ (hK1 0) (eS 0), cp_s, if_bI, h2]; rfl)
  | true =>
  obtain ⟨p, hp, rfl⟩ := (plB_iff hK.1.2.1).mp h2
  have hx : f_X9_common a (nI p) M = if vI (vb (St M) 0) = -1 then some (-3, rfX 1 M) else f_X9_common_55 a (nI p) FU (vI (vb (St M) 0)) 255 M := by
    simp only [f_X9_common, ev_isKind, ev_isPlace, cp_s, if_bI, h1, h2, cond]
    rw [ev_voice hT (x := -1) (j := 0) (by decide) (by decide), cp_s]; rfl
  have hm : ∀ X, KK X → St X = St M → f_X10_common a (nI p) X = if vb (St M) 0 = none then some (-3, rfM 1 X) else some (cmn (St M) a (St M 10 p) (-1) (nT (St M)), X) := by
    intro X hX hs
    have hgo := commonM_go hX (k := a) (p := p) (kind_U h1) (by rw [hs]; exact hp) (nT (St X)) FU 0 0 (by omega) (by rw [hs]; omega) (FU_of (by rw [hs]; omega))
    rw [hs] at hgo
    unfold f_X10_common
    rw [ev_isKindM, cp_s, if_bI, h1, e110 _ hX hs, cp_s, if_bI, h2]
    refine Eq.trans hgo ?_
    by_cases h : vb (St M) 0 = none
    · rw [if_pos (show 0 = 0 ∧ vb (St M) 0 = none from ⟨rfl, h⟩), if_pos h]
    · rw [if_neg (show ¬ (0 = 0 ∧ vb (St M) 0 = none) from fun g => h g.2), if_neg h]
  cases hv : vb (St M) 0 with
  | none =>
    have hno := vb_none (nT (St M)) 0 (by omega) hv
    refine ⟨-3, rfX 1 M, rfM 1 (rfX 1 M), ?_, ?_, gRel_rf hR⟩
    · rw [hx, hv]; rfl
    · rw [hm _ (hK1 1) (eS 1), if_pos hv]
  | some t =>
    obtain ⟨g1, g2, g3, g4⟩ := vb_some (nT (St M)) 0 t (by omega) hv
    refine ⟨cmn (St M) a (St M 10 p) (-1) (nT (St M)), M, M, ?_, ?_, hR⟩
    · rw [hx, hv, if_neg (show ¬ vI (some t) = -1 from fun h => by
        have : ∀ t, t < 6 → ¬ nI t = -1 := by decide
        exact this t (by omega) h)]
      have := common_go hK (k := a) hp (nT (St M) - t) FU t (by omega) (FU_of (by omega))
      rw [cmn_skip t (fun u hu => g4 u (by omega) hu)] at this
      exact this
    · rw [hm _ hK rfl, if_neg (by rw [hv]; intro h; cases h)]
