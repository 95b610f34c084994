/-! both sums are one -/
theorem mm {S : Nat → Nat → Int32} (hT : IvT S) (hQ : IvQ S) {j : Nat} (hj : j < nQ S) : mnP S j < 48 ∧ mxP S j < 48 ∧ mnP S j / 8 < mxP S j / 8 ∧ ((mnP S j = pA S j ∧ mxP S j = pB S j) ∨ (mnP S j = pB S j ∧ mxP S j = pA S j)) ∧ isW S (mnP S j / 8) (mnP S j % 8) ∧ isW S (mxP S j / 8) (mxP S j % 8) := by
  obtain ⟨e1, e2, e3, e4, e5, e6, e7⟩ := pAB hT hQ hj
  unfold mnP mxP
  by_cases h : pA S j < pB S j
  · rw [if_neg (show ¬ pB S j < pA S j by omega), if_pos h]
    exact ⟨e3, e4, by omega, Or.inl ⟨rfl, rfl⟩, e6, e7⟩
  · rw [if_pos (show pB S j < pA S j by omega), if_neg h]
    exact ⟨e4, e3, by omega, Or.inr ⟨rfl, rfl⟩, e7, e6⟩
theorem bhN_mn {S : Nat → Nat → Int32} (hT : IvT S) (hQ : IvQ S) {j : Nat} (hj : j < nQ S) : bhN S j (mnP S j) = some (mxP S j) ∧ ∀ y, y ≠ mnP S j → y ≠ mxP S j → bhN S j y = none := by
  obtain ⟨e1, e2, e3, e4, e5, e6, e7⟩ := pAB hT hQ hj
  obtain ⟨m1, m2, m3, m4, -, -⟩ := mm hT hQ hj
  unfold bhN
  rcases m4 with ⟨h1, h2⟩ | ⟨h1, h2⟩
  · refine ⟨by rw [h1, h2, if_pos rfl], fun y g1 g2 => ?_⟩
    rw [h1] at g1
    rw [h2] at g2
    rw [if_neg (fun z => g1 z.symm), if_neg (fun z => g2 z.symm)]
  · refine ⟨?_, fun y g1 g2 => ?_⟩
    · rw [h1, h2, if_neg (fun z => e5 (by rw [z])), if_pos rfl]
    · rw [h1] at g1
      rw [h2] at g2
      rw [if_neg (fun z => g2 z.symm), if_neg (fun z => g1 z.symm)]
theorem bhN_mx {S : Nat → Nat → Int32} (hT : IvT S) (hQ : IvQ S) {j : Nat} (hj : j < nQ S) : bhN S j (mxP S j) = some (mnP S j) := by
  obtain ⟨e1, e2, e3, e4, e5, e6, e7⟩ := pAB hT hQ hj
  obtain ⟨m1, m2, m3, m4, -, -⟩ := mm hT hQ hj
  unfold bhN
  rcases m4 with ⟨h1, h2⟩ | ⟨h1, h2⟩
  · rw [h1, h2, if_neg (fun z => e5 (by rw [z])), if_pos rfl]
  · rw [h1, h2, if_pos rfl]
theorem ldN_e {S : Nat → Nat → Int32} {j t w u : Nat} : ldN S j t w u = (bhN S j (8 * t + w)).bind (fun b => if b / 8 = u then some (b % 8) else none) := by
  unfold ldN
  cases bhN S j (8 * t + w) <;> rfl
theorem R1_0 {S : Nat → Nat → Int32} {t0 t1 t2 w0 j1 i : Nat} (h : ldN S j1 t0 w0 t1 = none) : R1 S t0 t1 t2 w0 j1 i = 0 := by unfold R1; rw [h]
theorem R1_s {S : Nat → Nat → Int32} {t0 t1 t2 w0 j1 i w1 : Nat} (h : ldN S j1 t0 w0 t1 = some w1) : R1 S t0 t1 t2 w0 j1 i = sT (fun j2 => R2 S t0 t1 t2 w0 w1 j1 j2 i) (nQ S) 0 := by unfold R1; rw [h]
theorem R2_0 {S : Nat → Nat → Int32} {t0 t1 t2 w0 w1 j1 j2 i : Nat} (h : ldN S j2 t1 w1 t2 = none) : R2 S t0 t1 t2 w0 w1 j1 j2 i = 0 := by unfold R2; rw [h]
theorem R2_s {S : Nat → Nat → Int32} {t0 t1 t2 w0 w1 j1 j2 i w2 : Nat} (h : ldN S j2 t1 w1 t2 = some w2) : R2 S t0 t1 t2 w0 w1 j1 j2 i = sT (fun j3 => R3 S t0 t2 w0 w2 j1 j2 j3 i) (nQ S) 0 := by unfold R2; rw [h]
theorem E2_0 {S : Nat → Nat → Int32} {y0 y1 j1 j2 i : Nat} (h : bhN S j2 y1 = none) : E2 S y0 y1 j1 j2 i = 0 := by unfold E2; rw [h]
theorem E2_s {S : Nat → Nat → Int32} {y0 y1 j1 j2 i y2 : Nat} (h : bhN S j2 y1 = some y2) : E2 S y0 y1 j1 j2 i = if y0 / 8 < y2 / 8 then sT (fun j3 => E3 S y0 y2 j1 j2 j3 i) (nQ S) 0 else 0 := by unfold E2; rw [h]
theorem R3_E3 {S : Nat → Nat → Int32} {y0 y2 j1 j2 j3 i : Nat} : R3 S (y0 / 8) (y2 / 8) (y0 % 8) (y2 % 8) j1 j2 j3 i = E3 S y0 y2 j1 j2 j3 i := by
  unfold R3 E3
  rw [ldN_e, show 8 * (y2 / 8) + y2 % 8 = y2 by omega]
  cases bhN S j3 y2 with
  | none => rfl
  | some v =>
    show (match (if v / 8 = y0 / 8 then some (v % 8) else none) with | some v => inc j1 j2 j3 (decide (v = y0 % 8)) i | none => 0) = if v / 8 = y0 / 8 then inc j1 j2 j3 (decide (v = y0)) i else 0
    by_cases h : v / 8 = y0 / 8
    · rw [if_pos h, if_pos h]
      show inc j1 j2 j3 (decide (v % 8 = y0 % 8)) i = _
      have : decide (v % 8 = y0 % 8) = decide (v = y0) := decide_eq_decide.mpr (by omega)
      rw [this]
    · rw [if_neg h, if_neg h]
theorem in2 {S : Nat → Nat → Int32} (hT : IvT S) (hQ : IvQ S) {y0 y1 j1 j2 i : Nat} (hj2 : j2 < nQ S) : sT (fun t2 => if y1 / 8 = t2 then 0 else R2 S (y0 / 8) (y1 / 8) t2 (y0 % 8) (y1 % 8) j1 j2 i) (nT S - (y0 / 8 + 1)) (y0 / 8 + 1) = E2 S y0 y1 j1 j2 i := by
  have hld : ∀ t2, ldN S j2 (y1 / 8) (y1 % 8) t2 = (bhN S j2 y1).bind (fun b => if b / 8 = t2 then some (b % 8) else none) := fun t2 => by
    rw [ldN_e, show 8 * (y1 / 8) + y1 % 8 = y1 by omega]
  cases hb : bhN S j2 y1 with
  | none =>
    rw [E2_0 hb]
    refine sT_0 _ _ (fun t2 h1 h2 => ?_)
    rw [R2_0 (by rw [hld, hb]; rfl)]
    split <;> rfl
  | some y2 =>
    obtain ⟨b1, b2, b3, b4⟩ := bhN_lt hT hQ hj2 hb
    rw [E2_s hb]
    by_cases h : y0 / 8 < y2 / 8
    · rw [if_pos h, sT_1 (a := y2 / 8) _ _ (by omega) (by have := b3.1; omega) (fun t2 h1 h2 h3 => by
        rw [R2_0 (by rw [hld, hb]; show (if y2 / 8 = t2 then _ else _) = _; rw [if_neg (fun z => h3 z.symm)])]
        split <;> rfl), if_neg b2, R2_s (w2 := y2 % 8) (by rw [hld, hb]; show (if y2 / 8 = y2 / 8 then _ else _) = _; rw [if_pos rfl])]
      exact sT_cong _ _ (fun j3 _ _ => R3_E3)
    · rw [if_neg h]
      refine sT_0 _ _ (fun t2 h1 h2 => ?_)
      rw [R2_0 (by rw [hld, hb]; show (if y2 / 8 = t2 then _ else _) = _; rw [if_neg (by omega)])]
      split <;> rfl
def B4 (S : Nat → Nat → Int32) (t0 t1 t2 j1 : Nat) (i : Nat) : Int32 := if t1 = t2 then 0 else sT (fun w0 => R1 S t0 t1 t2 w0 j1 i) (nW S t0) 0
theorem A4_B4 {S : Nat → Nat → Int32} {t0 t1 t2 i : Nat} : A4 S t0 t1 t2 i = sT (fun j1 => B4 S t0 t1 t2 j1 i) (nQ S) 0 := by
  unfold A4 B4
  by_cases h : t1 = t2
  · rw [if_pos h]
    exact (sT_0 _ _ (fun k _ _ => if_pos h)).symm
  · rw [if_neg h, sT_swap]
    exact sT_cong _ _ (fun k _ _ => (if_neg h).symm)
theorem A1_sw {S : Nat → Nat → Int32} {i : Nat} : A1 S i = sT (fun j1 => sT (fun t0 => sT (fun t1 => sT (fun t2 => B4 S t0 t1 t2 j1 i) (nT S - (t0 + 1)) (t0 + 1)) (nT S - (t0 + 1)) (t0 + 1)) (nT S) 0) (nQ S) 0 := by
  have e3 : ∀ t0 t1, A3 S t0 t1 i = sT (fun j1 => sT (fun t2 => B4 S t0 t1 t2 j1 i) (nT S - (t0 + 1)) (t0 + 1)) (nQ S) 0 := fun t0 t1 => by
    unfold A3
    rw [← sT_swap]
    exact sT_cong _ _ (fun t2 _ _ => A4_B4)
  have e2 : ∀ t0, A2 S t0 i = sT (fun j1 => sT (fun t1 => sT (fun t2 => B4 S t0 t1 t2 j1 i) (nT S - (t0 + 1)) (t0 + 1)) (nT S - (t0 + 1)) (t0 + 1)) (nQ S) 0 := fun t0 => by
    unfold A2
    rw [← sT_swap]
    exact sT_cong _ _ (fun t1 _ _ => e3 t0 t1)
  unfold A1
  rw [← sT_swap]
  exact sT_cong _ _ (fun t0 _ _ => e2 t0)
theorem in1 {S : Nat → Nat → Int32} (hT : IvT S) (hQ : IvQ S) {j1 i : Nat} (hj1 : j1 < nQ S) : sT (fun t0 => sT (fun t1 => sT (fun t2 => B4 S t0 t1 t2 j1 i) (nT S - (t0 + 1)) (t0 + 1)) (nT S - (t0 + 1)) (t0 + 1)) (nT S) 0 = E1 S j1 i := by
  obtain ⟨m1, m2, m3, m4, m5, m6⟩ := mm hT hQ hj1
  obtain ⟨n1, n2⟩ := bhN_mn hT hQ hj1
  have n3 := bhN_mx hT hQ hj1
  have h6 := nT_le hT
  generalize hy0 : mnP S j1 = y0 at *
  generalize hy1 : mxP S j1 = y1 at *
  have ldm : ldN S j1 (y0 / 8) (y0 % 8) (y1 / 8) = some (y1 % 8) := by
    rw [ldN_e, show 8 * (y0 / 8) + y0 % 8 = y0 by omega, n1]
    show (if y1 / 8 = y1 / 8 then _ else _) = _
    rw [if_pos rfl]
  have ld0 : ∀ t0 t1 w0, t0 < t1 → w0 < 8 → ¬ (t0 = y0 / 8 ∧ w0 = y0 % 8 ∧ t1 = y1 / 8) → ldN S j1 t0 w0 t1 = none := by
    intro t0 t1 w0 h1 h2 h3
    rw [ldN_e]
    by_cases g1 : 8 * t0 + w0 = y0
    · rw [g1, n1]
      show (if y1 / 8 = t1 then _ else _) = _
      rw [if_neg (by omega)]
    · by_cases g2 : 8 * t0 + w0 = y1
      · rw [g2, n3]
        show (if y0 / 8 = t1 then _ else _) = _
        rw [if_neg (by omega)]
      · rw [n2 _ g1 g2]; rfl
  have b40 : ∀ t0 t1 t2, t0 < nT S → t0 < t1 → ¬ (t0 = y0 / 8 ∧ t1 = y1 / 8) → B4 S t0 t1 t2 j1 i = 0 := by
    intro t0 t1 t2 h1 h2 h3
    have h8 := nW_le hT (show t0 < 6 by omega)
    unfold B4
    split
    · rfl
    · exact sT_0 _ _ (fun w0 g1 g2 => R1_0 (ld0 t0 t1 w0 h2 (by omega) (by omega)))
  have h8 := nW_le hT (show y0 / 8 < 6 by omega)
  have hb0 : ∀ t2, B4 S (y0 / 8) (y1 / 8) t2 j1 i = sT (fun j2 => if y1 / 8 = t2 then 0 else R2 S (y0 / 8) (y1 / 8) t2 (y0 % 8) (y1 % 8) j1 j2 i) (nQ S) 0 := by
    intro t2
    unfold B4
    by_cases h : y1 / 8 = t2
    · rw [if_pos h]
      exact (sT_0 _ _ (fun k _ _ => if_pos h)).symm
    · rw [if_neg h, sT_1 (a := y0 % 8) _ _ (by omega) (by have := m5.2; omega) (fun w0 g1 g2 g3 => R1_0 (ld0 _ _ w0 m3 (by omega) (by omega))), R1_s ldm]
      exact sT_cong _ _ (fun k _ _ => (if_neg h).symm)
  rw [sT_1 (a := y0 / 8) _ _ (by omega) (by have := m5.1; omega) (fun t0 g1 g2 g3 => by
    refine sT_0 _ _ (fun t1 k1 k2 => ?_)
    refine sT_0 _ _ (fun t2 l1 l2 => ?_)
    exact b40 t0 t1 t2 (by omega) (by omega) (fun z => g3 z.1))]
  rw [sT_1 (a := y1 / 8) _ _ (by omega) (by have := m6.1; omega) (fun t1 k1 k2 k3 => by
    refine sT_0 _ _ (fun t2 l1 l2 => ?_)
    exact b40 _ t1 t2 m5.1 (by omega) (fun z => k3 z.2))]
  unfold E1
  rw [hy0, hy1]
  have : sT (fun t2 => B4 S (y0 / 8) (y1 / 8) t2 j1 i) (nT S - (y0 / 8 + 1)) (y0 / 8 + 1) = sT (fun t2 => sT (fun j2 => if y1 / 8 = t2 then 0 else R2 S (y0 / 8) (y1 / 8) t2 (y0 % 8) (y1 % 8) j1 j2 i) (nQ S) 0) (nT S - (y0 / 8 + 1)) (y0 / 8 + 1) := sT_cong _ _ (fun t2 _ _ => hb0 t2)
  rw [this, sT_swap]
  exact sT_cong _ _ (fun j2 _ k2 => in2 hT hQ (by omega))
theorem A1_tot {S : Nat → Nat → Int32} (hT : IvT S) (hQ : IvQ S) (i : Nat) : A1 S i = tot S i := by
  rw [A1_sw]
  unfold tot
  exact sT_cong _ _ (fun j1 _ k2 => in1 hT hQ (by omega))
theorem dl_le (a b : Nat) : ∃ m, m ≤ 1 ∧ dl a b = nI m := by
  unfold dl
  split
  · exact ⟨1, by omega, rfl⟩
  · exact ⟨0, by omega, rfl⟩
theorem inc_le (j1 j2 j3 : Nat) (h : Bool) (i : Nat) : ∃ m, m ≤ 3 ∧ inc j1 j2 j3 h i = nI m := by
  have d3 : ∀ x, ∃ m, m ≤ 3 ∧ dl x j1 + dl x j2 + dl x j3 = nI m := fun x => by
    obtain ⟨a, ha, ea⟩ := dl_le x j1
    obtain ⟨b, hb, eb⟩ := dl_le x j2
    obtain ⟨c, hc, ec⟩ := dl_le x j3
    exact ⟨a + b + c, by omega, by rw [ea, eb, ec, nI_add, nI_add]⟩
  unfold inc
  by_cases h0 : i = 0
  · rw [if_pos h0]; exact ⟨1, by omega, rfl⟩
  · rw [if_neg h0]
    by_cases h1 : i = 1
    · rw [if_pos h1]
      cases h
      · exact ⟨0, by omega, rfl⟩
      · exact ⟨1, by omega, rfl⟩
    · rw [if_neg h1]
      by_cases h2 : i < 26
      · rw [if_pos h2]; exact d3 _
      · rw [if_neg h2]
        cases h
        · exact d3 _
        · exact ⟨0, by omega, rfl⟩
theorem tot_le {S : Nat → Nat → Int32} (hQ : IvQ S) (i : Nat) : ∃ m, m ≤ 41472 ∧ tot S i = nI m := by
  have h24 := nQ_le hQ
  have e3 : ∀ y0 y2 j1 j2 j3, ∃ m, m ≤ 3 ∧ E3 S y0 y2 j1 j2 j3 i = nI m := fun y0 y2 j1 j2 j3 => by
    unfold E3
    cases bhN S j3 y2 with
    | none => exact ⟨0, by omega, rfl⟩
    | some v =>
      simp only
      split
      · exact inc_le _ _ _ _ _
      · exact ⟨0, by omega, rfl⟩
  have e2 : ∀ y0 y1 j1 j2, ∃ m, m ≤ 72 ∧ E2 S y0 y1 j1 j2 i = nI m := fun y0 y1 j1 j2 => by
    unfold E2
    cases bhN S j2 y1 with
    | none => exact ⟨0, by omega, rfl⟩
    | some y2 =>
      simp only
      split
      · obtain ⟨m, hm, e⟩ := sT_le (f := fun j3 => E3 S y0 y2 j1 j2 j3 i) (e := 3) (nQ S) 0 (fun k _ _ => e3 _ _ _ _ _)
        exact ⟨m, by omega, e⟩
      · exact ⟨0, by omega, rfl⟩
  have e1 : ∀ j1, ∃ m, m ≤ 1728 ∧ E1 S j1 i = nI m := fun j1 => by
    obtain ⟨m, hm, e⟩ := sT_le (f := fun j2 => E2 S (mnP S j1) (mxP S j1) j1 j2 i) (e := 72) (nQ S) 0 (fun k _ _ => e2 _ _ _ _)
    exact ⟨m, by omega, e⟩
  obtain ⟨m, hm, e⟩ := sT_le (f := fun j1 => E1 S j1 i) (e := 1728) (nQ S) 0 (fun k _ _ => e1 _)
  exact ⟨m, by omega, e⟩
