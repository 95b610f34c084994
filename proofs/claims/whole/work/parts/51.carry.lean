/-! the word that a place gets -/
def pick (S : Nat → Nat → Int32) (k p s : Int32) (t : Nat) : Nat → Nat
  | 0 => 0
  | j + 1 => if cst S k p s (8 * t + (j + 1)) < cst S k p s (8 * t + pick S k p s t j) then j + 1 else if cst S k p s (8 * t + (j + 1)) = cst S k p s (8 * t + pick S k p s t j) then (if S 8 (8 * t + (j + 1)) ≤ S 8 (8 * t + pick S k p s t j) then pick S k p s t j else j + 1) else pick S k p s t j
theorem pick_le {S : Nat → Nat → Int32} {k p s : Int32} {t : Nat} : ∀ j, pick S k p s t j ≤ j := by
  intro j
  induction j with
  | zero => exact Nat.le_refl _
  | succ j ih =>
    unfold pick
    repeat' split
    all_goals omega
def chw (S : Nat → Nat → Int32) (k p s : Int32) (t : Nat) : Nat := pick S k p s t (nW S t - 1)
theorem chw_lt {S : Nat → Nat → Int32} {k p s : Int32} {t : Nat} (h : 0 < nW S t) : chw S k p s t < nW S t := by
  have := pick_le (S := S) (k := k) (p := p) (s := s) (t := t) (nW S t - 1)
  unfold chw; omega
theorem cheap_go {M : Mem} {k p s : Int32} {t : Nat} (ht : t < 6) (hT : IvT (St M)) : ∀ (j F i : Nat), i + 1 + j = nW (St M) t → j < F → f_X1_cheapest_28 M k (nI t) p s (nI (8 * t)) F (nI (8 * t + pick (St M) k p s t i)) (cst (St M) k p s (8 * t + pick (St M) k p s t i)) (nI (8 * t + (i + 1))) = some (nI (8 * t + chw (St M) k p s t)) := by
  have h8 := nW_le hT ht
  have e10 : M.1 10 t = nI (nW (St M) t) := by rw [k10]; exact nW_eq hT ht
  intro j
  induction j with
  | zero =>
    intro F i hi hF
    obtain ⟨F, rfl⟩ : ∃ F', F = F' + 1 := ⟨F - 1, by omega⟩
    show f_X1_cheapest_28_b M (f_X1_cheapest_28 M k (nI t) p s (nI (8 * t)) F) k (nI t) p s (nI (8 * t)) _ _ _ = _
    unfold f_X1_cheapest_28_b
    rw [rd_n ht, e10, nI_add, if_pos (nI_le (by omega) (by omega))]
    unfold chw
    rw [show nW (St M) t - 1 = i by omega]
  | succ j ih =>
    intro F i hi hF
    obtain ⟨F, rfl⟩ : ∃ F', F = F' + 1 := ⟨F - 1, by omega⟩
    have hpl := pick_le (S := St M) (k := k) (p := p) (s := s) (t := t) i
    have step := ih F (i + 1) (by omega) (by omega)
    show f_X1_cheapest_28_b M (f_X1_cheapest_28 M k (nI t) p s (nI (8 * t)) F) k (nI t) p s (nI (8 * t)) _ _ _ = _
    unfold f_X1_cheapest_28_b f_X1_cheapest_85 f_X1_cheapest_93
    rw [rd_n ht, e10, nI_add, if_neg (nI_ge (by omega) (by omega)), ev_costOf (by omega), cp_s, rd_n (show 8 * t + (i + 1) < 48 by omega), rd_n (show 8 * t + pick (St M) k p s t i < 48 by omega), k13, ia1, ← step]
    rw [show pick (St M) k p s t (i + 1) = (if cst (St M) k p s (8 * t + (i + 1)) < cst (St M) k p s (8 * t + pick (St M) k p s t i) then i + 1 else if cst (St M) k p s (8 * t + (i + 1)) = cst (St M) k p s (8 * t + pick (St M) k p s t i) then (if St M 8 (8 * t + (i + 1)) ≤ St M 8 (8 * t + pick (St M) k p s t i) then pick (St M) k p s t i else i + 1) else pick (St M) k p s t i) from rfl]
    by_cases c1 : cst (St M) k p s (8 * t + (i + 1)) < cst (St M) k p s (8 * t + pick (St M) k p s t i)
    · simp only [if_pos c1]; rfl
    · simp only [if_neg c1]
      by_cases c2 : cst (St M) k p s (8 * t + (i + 1)) = cst (St M) k p s (8 * t + pick (St M) k p s t i)
      · simp only [if_pos c2]
        by_cases c3 : St M 8 (8 * t + (i + 1)) ≤ St M 8 (8 * t + pick (St M) k p s t i)
        · simp only [if_pos c3]; rfl
        · simp only [if_neg c3]; rfl
      · simp only [if_neg c2]; rfl
theorem ev_cheapest {M : Mem} {k p s : Int32} {t : Nat} (hT : IvT (St M)) (ht : t < nT (St M)) (hw : 0 < nW (St M) t) : f_X1_cheapest k (nI t) p s M = some (nI (8 * t + chw (St M) k p s t)) := by
  have h6 : t < 6 := by have := nT_le hT; omega
  have h8 := nW_le hT h6
  unfold f_X1_cheapest
  have e8 : nI t * 8 = nI (8 * t) := by rw [show (8 : Int32) = nI 8 from rfl, nI_mul, Nat.mul_comm]
  rw [e8, ev_costOf (by omega), cp_s, ia1]
  exact cheap_go h6 hT (nW (St M) t - 1) FU 0 (by omega) (FU_of (by omega))
/-! costs are small -/
def Bd (x : Int32) : Prop := -10 ≤ x.toInt ∧ x.toInt ≤ 1000
theorem Bd_nI {n : Nat} (h : n ≤ 1000) : Bd (nI n) := by
  unfold Bd; rw [nI_toInt (by omega)]; omega
theorem Bd_sub {n u : Nat} (h : n ≤ 1000) (hu : u < 10) : Bd (nI n - nI u) := by
  unfold Bd
  rw [Int32.toInt_sub, nI_toInt (by omega), nI_toInt (by omega)]
  rw [Int.bmod_eq_of_le] <;> omega
theorem abs_U : ∀ a, a < 10 → ∀ b, b < 10 → ∃ c, c < 10 ∧ (if 0 ≤ nI b - nI a then nI b - nI a else 0 - (nI b - nI a)) = nI c := by decide +kernel
theorem cst_Bd {S : Nat → Nat → Int32} (hT : IvT S) {k p s : Int32} {t w : Nat} (ht : t < nT S) (hw : w < nW S t) (hp : U 256 p) (hs : sOk s) : Bd (cst S k p s (8 * t + w)) := by
  obtain ⟨w1, w2, w3, w4⟩ := hT.2.2.2.1 t w ht hw
  obtain ⟨l, hl, el⟩ := hT.2.2.2.2.1
  obtain ⟨a, ha, ea⟩ := hT.2.2.2.2.2
  obtain ⟨g, hg, eg⟩ := bc_U (U_and (z := S 6 (8 * t + w) ^^^ -1) hp)
  obtain ⟨c, hc, ec⟩ := bc_U (U_and (z := p ^^^ -1) w1)
  obtain ⟨u, hu, eu⟩ := w4
  have b1 : l * g ≤ 81 := Nat.le_trans (Nat.mul_le_mul (show l ≤ 9 by omega) (show g ≤ 9 by omega)) (by decide)
  have b2 : a * c ≤ 81 := Nat.le_trans (Nat.mul_le_mul (show a ≤ 9 by omega) (show c ≤ 9 by omega)) (by decide)
  unfold cst
  rw [el, ea, eg, ec, eu, nI_mul, nI_mul, nI_add, nI_add, nI_add]
  repeat' split
  · exact Bd_nI (by omega)
  · exact Bd_nI (by omega)
  · exact Bd_nI (by omega)
  · exact Bd_sub (by omega) hu
  · rw [Int32.add_zero]; exact Bd_nI (by omega)
  · rename_i h1 h2
    rcases hs with h | ⟨b, hb, rfl⟩
    · exact absurd h h1
    · obtain ⟨d, hd, ed⟩ := w3
      obtain ⟨z, hz, ez⟩ := abs_U b hb d hd
      rw [ed] at h2 ⊢
      rw [if_pos h2] at ez
      rw [ez, nI_add]; exact Bd_nI (by omega)
  · rename_i h1 h2
    rcases hs with h | ⟨b, hb, rfl⟩
    · exact absurd h h1
    · obtain ⟨d, hd, ed⟩ := w3
      obtain ⟨z, hz, ez⟩ := abs_U b hb d hd
      rw [ed] at h2 ⊢
      rw [if_neg h2] at ez
      rw [ez, nI_add]; exact Bd_nI (by omega)
  · exact Bd_nI (by omega)
  · rw [show (5 : Int32) = nI 5 from rfl, nI_add]; exact Bd_nI (by omega)
  · exact Bd_nI (by omega)
theorem Bd_lt {x y : Int32} (hx : Bd x) (hy : Bd y) : 0 < x - y ↔ y < x := by
  unfold Bd at *
  rw [Int32.lt_iff_toInt_lt, Int32.lt_iff_toInt_lt, Int32.toInt_sub]
  rw [Int.bmod_eq_of_le (by omega) (by omega)]
  show (0 : Int) < _ ↔ _
  omega
theorem sub_0 {x y : Int32} : x - y = 0 ↔ y = x := by
  constructor
  · intro h
    have : x - y + y = 0 + y := by rw [h]
    rw [Int32.sub_add_cancel, Int32.zero_add] at this
    exact this.symm
  · intro h; rw [h, Int32.sub_self]
theorem gets_go {M : Mem} {k p s : Int32} {t : Nat} (hK : KK M) (ht : t < nT (St M)) (hk : U 6 k) (hp : U 256 p) (hs : sOk s) : ∀ (j F i : Nat), i + 1 + j = nW (St M) t → j < F → f_X10_gets_10 M k p s (nI t) F (nI (24 * t + 3 * pick (St M) k p s t i)) (nI (i + 1)) = some (nI (24 * t + 3 * chw (St M) k p s t)) := by
  have hT := hK.1.1
  have h6 : t < 6 := by have := nT_le hT; omega
  have h8 := nW_le hT h6
  have e113 : M.1 113 (4 * t + 3) = nI (nW (St M) t) := by rw [(rm113 hK ht).2.2.2]; exact nW_eq hT h6
  intro j
  induction j with
  | zero =>
    intro F i hi hF
    obtain ⟨F, rfl⟩ : ∃ F', F = F' + 1 := ⟨F - 1, by omega⟩
    show f_X10_gets_10_b M (f_X10_gets_10 M k p s (nI t) F) k p s (nI t) _ _ = _
    unfold f_X10_gets_10_b
    rw [i4t3, rd_n (by omega), e113, if_pos (nI_le (by omega) (by omega))]
    unfold chw
    rw [show nW (St M) t - 1 = i by omega]
  | succ j ih =>
    intro F i hi hF
    obtain ⟨F, rfl⟩ : ∃ F', F = F' + 1 := ⟨F - 1, by omega⟩
    have hpl := pick_le (S := St M) (k := k) (p := p) (s := s) (t := t) i
    have step := ih F (i + 1) (by omega) (by omega)
    have hpw : pick (St M) k p s t i < nW (St M) t := by omega
    have hiw : i + 1 < nW (St M) t := by omega
    show f_X10_gets_10_b M (f_X10_gets_10 M k p s (nI t) F) k p s (nI t) _ _ = _
    unfold f_X10_gets_10_b f_X10_gets_90 f_X10_gets_95 f_X10_gets_97
    rw [i4t3, rd_n (by omega), e113, if_neg (nI_ge (by omega) (by omega)), ev_costs hK ht hpw hk hp hs, cp_s, i24, ev_costs hK ht hiw hk hp hs, cp_s, ia2, ia2, rd_n (by omega), rd_n (by omega), (rm114 hK ht hiw).2.2, (rm114 hK ht hpw).2.2, ia1, ← step]
    rw [show pick (St M) k p s t (i + 1) = (if cst (St M) k p s (8 * t + (i + 1)) < cst (St M) k p s (8 * t + pick (St M) k p s t i) then i + 1 else if cst (St M) k p s (8 * t + (i + 1)) = cst (St M) k p s (8 * t + pick (St M) k p s t i) then (if St M 8 (8 * t + (i + 1)) ≤ St M 8 (8 * t + pick (St M) k p s t i) then pick (St M) k p s t i else i + 1) else pick (St M) k p s t i) from rfl]
    have q1 := Bd_lt (cst_Bd hT (k := k) ht hpw hp hs) (cst_Bd hT (k := k) ht hiw hp hs)
    have q2 : cst (St M) k p s (8 * t + pick (St M) k p s t i) - cst (St M) k p s (8 * t + (i + 1)) = 0 ↔ cst (St M) k p s (8 * t + (i + 1)) = cst (St M) k p s (8 * t + pick (St M) k p s t i) := sub_0
    by_cases c1 : cst (St M) k p s (8 * t + (i + 1)) < cst (St M) k p s (8 * t + pick (St M) k p s t i)
    · simp only [if_pos c1, if_pos (q1.mpr c1)]
    · simp only [if_neg c1, if_neg (fun h => c1 (q1.mp h))]
      by_cases c2 : cst (St M) k p s (8 * t + (i + 1)) = cst (St M) k p s (8 * t + pick (St M) k p s t i)
      · simp only [if_pos c2, if_pos (q2.mpr c2)]
        by_cases c3 : St M 8 (8 * t + (i + 1)) ≤ St M 8 (8 * t + pick (St M) k p s t i)
        · simp only [if_pos c3]
        · simp only [if_neg c3]
      · simp only [if_neg c2, if_neg (fun h => c2 (q2.mp h))]
theorem ev_gets {M : Mem} {k p s : Int32} {t : Nat} (hK : KK M) (ht : t < nT (St M)) (hw : 0 < nW (St M) t) (hk : U 6 k) (hp : U 256 p) (hs : sOk s) : f_X10_gets k p s (nI t) M = some (nI (24 * t + 3 * chw (St M) k p s t)) := by
  unfold f_X10_gets
  rw [show (24 : Int32) * nI t = nI (24 * t) from nI_mul 24 t]
  have hT := hK.1.1
  have h8 := nW_le hT (show t < 6 by have := nT_le hT; omega)
  exact gets_go hK ht hk hp hs (nW (St M) t - 1) FU 0 (by omega) (FU_of (by omega))
/-! forms -/
def bitS (x f : Int32) : Bool := decide (((x >>> (f &&& 31)) &&& 1) = 1)
def frm (S : Nat → Nat → Int32) (t : Nat) (f : Nat) (v : Int32) : Int32 := if (S 3 t >>> (nI f &&& 31)) &&& 1 = 0 then -1 else if v = -1 then (if (S 2 t >>> (nI f &&& 31)) &&& 1 = 0 then v else (S 4 t >>> (nI f &&& 31)) &&& 1) else v
theorem ev_formIn {M : Mem} {t f : Nat} {v : Int32} (ht : t < 6) : f_X1_formIn (nI t) (nI f) v M = some (frm (St M) t f v) := by
  unfold f_X1_formIn f_X1_formIn_37 f_X1_formIn_38 frm
  simp only [rd_n ht, k7, k8, k9]
  repeat' split
  all_goals first | rfl | (rename_i h; exact absurd h (by decide)) | (simp_all; done)
theorem bit_tab : ∀ n, n < 16 → ∀ f, f < 4 → ((nI n >>> (nI f &&& 31)) &&& 1 = 0 ∨ (nI n >>> (nI f &&& 31)) &&& 1 = 1) := by decide +kernel
theorem must_can : ∀ a, a < 16 → ∀ b, b < 16 → nI a &&& (nI b ^^^ -1) = 0 → ∀ f, f < 4 → (nI b >>> (nI f &&& 31)) &&& 1 = 0 → (nI a >>> (nI f &&& 31)) &&& 1 = 0 := by decide +kernel
