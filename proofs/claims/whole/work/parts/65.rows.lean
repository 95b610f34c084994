/-! rows of voices, as codes -/
def fV (S : Nat → Nat → Int32) : Nat := (vb S 0).getD 0
def vc (S : Nat → Nat → Int32) (t : Nat) : Bool := decide (0 < nW S t)
def vld (S : Nat → Nat → Int32) : Nat → Nat → Bool
  | 0, _ => true
  | L + 1, c => vc S (c % nT S) && vld S L (c / nT S)
theorem vld_s {S : Nat → Nat → Int32} {L c : Nat} : vld S (L + 1) c = (vc S (c % nT S) && vld S L (c / nT S)) := rfl
def nxt (S : Nat → Nat → Int32) : Nat → Nat → Option Nat
  | 0, _ => none
  | L + 1, c => match vb S (c % nT S + 1) with
    | some v => some (c / nT S * nT S + v)
    | none => match nxt S L (c / nT S) with
      | some q => some (q * nT S + fV S)
      | none => none
theorem nxt_some {S : Nat → Nat → Int32} {L c v : Nat} (h : vb S (c % nT S + 1) = some v) : nxt S (L + 1) c = some (c / nT S * nT S + v) := by
  show (match vb S (c % nT S + 1) with | some v => some (c / nT S * nT S + v) | none => match nxt S L (c / nT S) with | some q => some (q * nT S + fV S) | none => none) = _
  rw [h]
theorem nxt_none {S : Nat → Nat → Int32} {L c : Nat} (h : vb S (c % nT S + 1) = none) : nxt S (L + 1) c = match nxt S L (c / nT S) with | some q => some (q * nT S + fV S) | none => none := by
  show (match vb S (c % nT S + 1) with | some v => some (c / nT S * nT S + v) | none => match nxt S L (c / nT S) with | some q => some (q * nT S + fV S) | none => none) = _
  rw [h]
def dg (S : Nat → Nat → Int32) : Nat → Nat → Nat → Nat
  | 0, _, _ => 0
  | L + 1, c, i => if i = L then c % nT S else dg S L (c / nT S) i
theorem dg_s {S : Nat → Nat → Int32} {L c i : Nat} : dg S (L + 1) c i = if i = L then c % nT S else dg S L (c / nT S) i := rfl
def ext (S : Nat → Nat → Int32) : Nat → Nat → Nat
  | 0, q => q
  | e + 1, q => ext S e (q * nT S + fV S)
theorem ext_s {S : Nat → Nat → Int32} {e q : Nat} : ext S (e + 1) q = ext S e (q * nT S + fV S) := rfl
theorem dm1 {q n v : Nat} (h : v < n) : (q * n + v) / n = q := by
  rw [Nat.mul_comm, Nat.mul_add_div (by omega), Nat.div_eq_of_lt h, Nat.add_zero]
theorem dm2 {q n v : Nat} (h : v < n) : (q * n + v) % n = v := by
  rw [Nat.mul_comm, Nat.mul_add_mod, Nat.mod_eq_of_lt h]
theorem fV_spec {S : Nat → Nat → Int32} {r : Nat} (hr : r < nT S) (h : vc S r = true) : fV S < nT S ∧ vc S (fV S) = true ∧ (∀ u, u < fV S → vc S u = false) ∧ vb S 0 = some (fV S) := by
  have h' : 0 < nW S r := by unfold vc at h; simpa using h
  cases hv : vb S 0 with
  | none => exact absurd h' (vb_none (nT S) 0 (by omega) hv r (by omega) hr)
  | some f =>
    obtain ⟨g1, g2, g3, g4⟩ := vb_some (nT S) 0 f (by omega) hv
    have : fV S = f := by unfold fV; rw [hv]; rfl
    rw [this]
    refine ⟨g2, by unfold vc; simpa using g3, fun u hu => ?_, rfl⟩
    unfold vc
    exact decide_eq_false (g4 u (by omega) hu)
theorem dg_ext {S : Nat → Nat → Int32} (hf : fV S < nT S) : ∀ (e x q i : Nat), dg S (x + e) (ext S e q) i = if i < x then dg S x q i else if i < x + e then fV S else dg S (x + e) (ext S e q) i := by
  intro e
  induction e with
  | zero =>
    intro x q i
    by_cases h : i < x
    · rw [if_pos h]; rfl
    · rw [if_neg h, if_neg (by omega)]
  | succ e ih =>
    intro x q i
    rw [ext_s, show x + (e + 1) = x + 1 + e by omega]
    by_cases h : i < x
    · rw [if_pos h, ih, if_pos (by omega), dg_s, if_neg (by omega), dm1 hf]
    · rw [if_neg h]
      by_cases h2 : i < x + 1 + e
      · rw [if_pos h2, ih]
        by_cases h3 : i < x + 1
        · rw [if_pos h3, dg_s, if_pos (by omega), dm2 hf]
        · rw [if_neg h3, if_pos h2]
      · rw [if_neg h2]
theorem nxt_spec {S : Nat → Nat → Int32} : ∀ (L c : Nat), c < nT S ^ L → vld S L c = true → (∀ c', nxt S L c = some c' → c < c' ∧ c' < nT S ^ L ∧ vld S L c' = true ∧ ∀ m, c < m → m < c' → vld S L m = false) ∧ (nxt S L c = none → ∀ m, c < m → m < nT S ^ L → vld S L m = false) := by
  intro L
  induction L with
  | zero =>
    intro c hc _
    refine ⟨(fun c' h => by cases h), fun _ m h1 h2 => ?_⟩
    rw [Nat.pow_zero] at hc h2
    omega
  | succ L ih =>
    intro c hc hv
    rw [Nat.pow_succ] at hc
    have hn : 0 < nT S := by
      rcases Nat.eq_zero_or_pos (nT S) with h | h
      · rw [h, Nat.mul_zero] at hc; omega
      · exact h
    rw [vld_s, Bool.and_eq_true] at hv
    obtain ⟨hr, hq⟩ := hv
    have hrn := Nat.mod_lt c hn
    have hqL : c / nT S < nT S ^ L := Nat.div_lt_of_lt_mul (by rw [Nat.mul_comm]; exact hc)
    have hcd : c = c / nT S * nT S + c % nT S := by rw [Nat.mul_comm]; exact (Nat.div_add_mod c (nT S)).symm
    obtain ⟨f1, f2, f3, f4⟩ := fV_spec hrn hr
    obtain ⟨ih1, ih2⟩ := ih (c / nT S) hqL hq
    have vcF : ∀ u, ¬ 0 < nW S u → vc S u = false := fun u h => by unfold vc; exact decide_eq_false h
    generalize hQ : c / nT S = q at *
    generalize hRr : c % nT S = r at *
    generalize hN : nT S = n at *
    cases hb : vb S (r + 1) with
    | some v =>
      have e := nxt_some (S := S) (L := L) (c := c) (v := v) (by rw [hN, hRr]; exact hb)
      rw [hN, hQ] at e
      obtain ⟨g1, g2, g3, g4⟩ := vb_some (S := S) (if r + 1 ≤ n then n - (r + 1) else 0) (r + 1) v (by rw [hN]; split <;> omega) hb
      rw [hN] at g2
      refine ⟨fun c' h => ?_, fun h => ?_⟩
      · rw [e] at h
        cases h
        refine ⟨by omega, ?_, ?_, fun m h1 h2 => ?_⟩
        · rw [Nat.pow_succ]
          have := Nat.mul_le_mul_right n (show q + 1 ≤ n ^ L from hqL)
          rw [Nat.add_mul] at this
          omega
        · rw [vld_s, hN, dm2 g2, dm1 g2, hq, Bool.and_true]; unfold vc; exact decide_eq_true g3
        · have hm1 : m / n = q := by
            have : m = q * n + (m - q * n) := by omega
            rw [this]; exact dm1 (by omega)
          have hm2 : m % n = m - q * n := by
            have : m = q * n + (m - q * n) := by omega
            rw [this, dm2 (by omega)]; omega
          rw [vld_s, hN, hm1, hm2, vcF _ (g4 _ (by omega) (by omega))]; rfl
      · rw [e] at h; cases h
    | none =>
      have e := nxt_none (S := S) (L := L) (c := c) (by rw [hN, hRr]; exact hb)
      rw [hN, hQ] at e
      have g4 : ∀ u, r < u → u < n → vc S u = false := fun u u1 u2 => by
        rcases Nat.lt_or_ge n (r + 1) with h | h
        · omega
        · exact vcF u (vb_none (n - (r + 1)) (r + 1) (by rw [hN]; omega) hb u (by omega) (by rw [hN]; exact u2))
      have hmul : ∀ a b : Nat, a < b → a * n + n ≤ b * n := fun a b h => by
        have := Nat.mul_le_mul_right n (show a + 1 ≤ b from h)
        rw [Nat.add_mul] at this
        omega
      have hmd : ∀ m : Nat, m = m / n * n + m % n := fun m => by rw [Nat.mul_comm]; exact (Nat.div_add_mod m n).symm
      cases hx : nxt S L q with
      | some q' =>
        rw [hx] at e
        simp only at e
        obtain ⟨i1, i2, i3, i4⟩ := ih1 q' hx
        refine ⟨fun c' h => ?_, fun h => by rw [e] at h; cases h⟩
        rw [e] at h
        cases h
        have := hmul _ _ i1
        refine ⟨by omega, ?_, ?_, fun m h1 h2 => ?_⟩
        · rw [Nat.pow_succ]
          have := hmul _ _ i2
          omega
        · rw [vld_s, hN, dm2 f1, dm1 f1, i3, f2]; rfl
        · have d1 := hmd m
          have d2 := Nat.mod_lt m hn
          rw [vld_s, hN]
          rcases Nat.lt_trichotomy (m / n) q with h | h | h
          · have := hmul _ _ h; omega
          · rw [h] at d1
            rw [g4 _ (by omega) d2]; rfl
          · rcases Nat.lt_trichotomy (m / n) q' with h3 | h3 | h3
            · rw [i4 _ h h3, Bool.and_false]
            · rw [h3] at d1
              rw [f3 _ (by omega)]; rfl
            · have := hmul _ _ h3; omega
      | none =>
        rw [hx] at e
        simp only at e
        refine ⟨(fun c' h => by rw [e] at h; cases h), fun _ m h1 h2 => ?_⟩
        have d1 := hmd m
        have d2 := Nat.mod_lt m hn
        rw [vld_s, hN]
        rw [Nat.pow_succ] at h2
        have hmL : m / n < n ^ L := Nat.div_lt_of_lt_mul (by rw [Nat.mul_comm]; exact h2)
        rcases Nat.lt_trichotomy (m / n) q with h | h | h
        · have := hmul _ _ h; omega
        · rw [h] at d1
          rw [g4 _ (by omega) d2]; rfl
        · rw [ih2 hx _ h hmL, Bool.and_false]
/-- the first row: the first voice alone -/
def cf (S : Nat → Nat → Int32) : Nat → Nat
  | 0 => 0
  | L + 1 => cf S L * nT S + fV S
theorem cf_spec {S : Nat → Nat → Int32} (hf : fV S < nT S) (hv : vc S (fV S) = true) (hm : ∀ u, u < fV S → vc S u = false) : ∀ L, cf S L < nT S ^ L ∧ vld S L (cf S L) = true ∧ (∀ m, m < cf S L → vld S L m = false) ∧ ∀ i, i < L → dg S L (cf S L) i = fV S := by
  intro L
  induction L with
  | zero => exact ⟨by show 0 < 1; omega, rfl, fun m h => absurd h (by show ¬ m < 0; omega), fun i hi => absurd hi (by omega)⟩
  | succ L ih =>
    obtain ⟨i1, i2, i3, i4⟩ := ih
    have e : cf S (L + 1) = cf S L * nT S + fV S := rfl
    have hn : 0 < nT S := by omega
    refine ⟨?_, ?_, fun m h => ?_, fun i hi => ?_⟩
    · rw [e, Nat.pow_succ]
      have := Nat.mul_le_mul_right (nT S) (show cf S L + 1 ≤ nT S ^ L from i1)
      rw [Nat.add_mul] at this
      omega
    · rw [e, vld_s, dm2 hf, dm1 hf, i2, hv]; rfl
    · rw [e] at h
      have d1 : m = m / nT S * nT S + m % nT S := by rw [Nat.mul_comm]; exact (Nat.div_add_mod m _).symm
      have d2 := Nat.mod_lt m hn
      rw [vld_s]
      rcases Nat.lt_trichotomy (m / nT S) (cf S L) with h3 | h3 | h3
      · rw [i3 _ h3, Bool.and_false]
      · rw [h3] at d1
        rw [hm _ (by omega)]; rfl
      · have := Nat.mul_le_mul_right (nT S) (show cf S L + 1 ≤ m / nT S from h3)
        rw [Nat.add_mul] at this
        omega
    · rw [e, dg_s]
      by_cases h : i = L
      · rw [if_pos h, dm2 hf]
      · rw [if_neg h, dm1 hf]; exact i4 i (by omega)
/-- the rows from c on -/
def vs (S : Nat → Nat → Int32) (L : Nat) : Nat → Nat → List Nat
  | 0, _ => []
  | d + 1, c => cond (vld S L c) (c :: vs S L d (c + 1)) (vs S L d (c + 1))
theorem vs_s {S : Nat → Nat → Int32} {L d c : Nat} : vs S L (d + 1) c = cond (vld S L c) (c :: vs S L d (c + 1)) (vs S L d (c + 1)) := rfl
theorem vs_skip {S : Nat → Nat → Int32} {L : Nat} : ∀ (e d c : Nat), (∀ m, c ≤ m → m < c + e → vld S L m = false) → vs S L (e + d) c = vs S L d (c + e) := by
  intro e
  induction e with
  | zero => intro d c _; rw [Nat.zero_add]; rfl
  | succ e ih =>
    intro d c h
    rw [show e + 1 + d = e + d + 1 by omega, vs_s, h c (by omega) (by omega), cond_f, ih d (c + 1) (fun m h1 h2 => h m (by omega) (by omega)), show c + 1 + e = c + (e + 1) by omega]
theorem vs_end {S : Nat → Nat → Int32} {L : Nat} (d c : Nat) (h : ∀ m, c ≤ m → m < c + d → vld S L m = false) : vs S L d c = [] := by
  have := vs_skip d 0 c h
  exact this
def rowsOf (S : Nat → Nat → Int32) (L c : Nat) : List Nat := vs S L (nT S ^ L - c) c
theorem rows_next {S : Nat → Nat → Int32} {L c : Nat} (hc : c < nT S ^ L) (hv : vld S L c = true) : rowsOf S L c = c :: (match nxt S L c with | some c' => rowsOf S L c' | none => []) := by
  obtain ⟨h1, h2⟩ := nxt_spec L c hc hv
  unfold rowsOf
  rw [show nT S ^ L - c = nT S ^ L - (c + 1) + 1 by omega, vs_s, hv, cond_t]
  cases hx : nxt S L c with
  | some c' =>
    obtain ⟨g1, g2, g3, g4⟩ := h1 c' hx
    simp only
    rw [show nT S ^ L - (c + 1) = c' - (c + 1) + (nT S ^ L - c') by omega, vs_skip _ _ _ (fun m m1 m2 => g4 m (by omega) (by omega)), show c + 1 + (c' - (c + 1)) = c' by omega]
  | none =>
    simp only
    rw [vs_end _ _ (fun m m1 m2 => h2 hx m (by omega) (by omega))]
theorem rows_first {S : Nat → Nat → Int32} (hf : fV S < nT S) (hv : vc S (fV S) = true) (hm : ∀ u, u < fV S → vc S u = false) (L : Nat) : rowsOf S L 0 = rowsOf S L (cf S L) := by
  obtain ⟨g1, g2, g3, g4⟩ := cf_spec hf hv hm L
  unfold rowsOf
  rw [show nT S ^ L - 0 = cf S L + (nT S ^ L - cf S L) by omega, vs_skip _ _ _ (fun m m1 m2 => g3 m (by omega)), Nat.zero_add]
theorem rows_none {S : Nat → Nat → Int32} (h : ∀ u, u < nT S → vc S u = false) {L : Nat} (hL : 0 < L) : rowsOf S L 0 = [] := by
  unfold rowsOf
  refine vs_end _ _ (fun m m1 m2 => ?_)
  obtain ⟨L, rfl⟩ : ∃ x, L = x + 1 := ⟨L - 1, by omega⟩
  have hn : 0 < nT S := by
    rcases Nat.eq_zero_or_pos (nT S) with h0 | h0
    · rw [h0, Nat.pow_succ, Nat.mul_zero] at m2; omega
    · exact h0
  rw [vld_s, h _ (Nat.mod_lt _ hn)]; rfl
theorem pow_le {n L : Nat} (hn : n ≤ 6) (hL : L ≤ 4) : n ^ L ≤ 1296 := by
  have h1 : n ^ L ≤ 6 ^ L := Nat.pow_le_pow_left hn L
  have h2 : 6 ^ L ≤ 6 ^ 4 := Nat.pow_le_pow_right (by omega) hL
  omega
theorem dg_lt {S : Nat → Nat → Int32} (hn : 0 < nT S) : ∀ (L c i : Nat), dg S L c i < nT S := by
  intro L
  induction L with
  | zero => intro c i; exact hn
  | succ L ih =>
    intro c i
    rw [dg_s]
    split
    · exact Nat.mod_lt _ hn
    · exact ih _ _
theorem dg_vc {S : Nat → Nat → Int32} : ∀ (L c i : Nat), vld S L c = true → i < L → vc S (dg S L c i) = true := by
  intro L
  induction L with
  | zero => intro c i _ h; omega
  | succ L ih =>
    intro c i h hi
    rw [vld_s, Bool.and_eq_true] at h
    rw [dg_s]
    split
    · exact h.1
    · exact ih _ _ h.2 (by omega)
