/-! a step, on both sides -/
def stepQ (S : Nat → Nat → Int32) (k : Int32) (t : Nat) (Q : Nat → Nat → Int32) : Nat → Nat → Int32
  | 0 => fun p => S 6 (8 * t + chw S k (Q 0 p) (Q 1 p) t)
  | 1 => fun p => S 7 (8 * t + chw S k (Q 0 p) (Q 1 p) t)
  | _ => fun f => frm S t f (Q 2 f)
def QOk (n : Nat) (Q : Nat → Nat → Int32) : Prop := (∀ p, p < n → U 256 (Q 0 p) ∧ sOk (Q 1 p)) ∧ (∀ f, f < 4 → F3 (Q 2 f))
theorem frm_F3 {S : Nat → Nat → Int32} (hT : IvT S) {t f : Nat} {v : Int32} (ht : t < nT S) (hf : f < 4) (hv : F3 v) : F3 (frm S t f v) := by
  obtain ⟨a1, a2, a3, a4⟩ := hT.2.2.1 t ht
  unfold frm
  repeat' split
  · exact Or.inl rfl
  · exact hv
  · obtain ⟨l, hl, el⟩ := a3
    rw [el]
    rcases bit_tab l hl f hf with h | h
    · exact Or.inr (Or.inl h)
    · exact Or.inr (Or.inr h)
  · exact hv
theorem stepQ_ok {S : Nat → Nat → Int32} (hT : IvT S) {k : Int32} {t n : Nat} {Q : Nat → Nat → Int32} (ht : t < nT S) (hw : 0 < nW S t) (h : QOk n Q) : QOk n (stepQ S k t Q) := by
  refine ⟨fun p hp => ?_, fun f hf => frm_F3 hT ht hf (h.2 f hf)⟩
  obtain ⟨w1, w2, w3, w4⟩ := hT.2.2.2.1 t (chw S k (Q 0 p) (Q 1 p) t) ht (chw_lt hw)
  exact ⟨w1, Or.inr w3⟩
/-- a state of the program: at the cells k0 .. k0 + 3 -/
def CQ (n k0 : Nat) (Q : Nat → Nat → Int32) (M : Mem) : Prop := M.1 k0 0 = nI n ∧ (∀ p, p < n → M.1 (k0 + 1) p = Q 0 p ∧ M.1 (k0 + 2) p = Q 1 p) ∧ (∀ f, f < 4 → M.1 (k0 + 3) f = Q 2 f)
theorem St_set {M : Mem} {c i : Nat} {v : Int32} (h : c < 5 ∨ 25 < c) : St (mset M c i v) = St M := St_sc (fun a h1 h2 => mset_ne (by omega))
theorem carry_forms {k0 t : Nat} (hk0 : 26 ≤ k0) (ht : t < 6) : ∀ (j F i : Nat) (M : Mem), i + j = 4 → j < F → ∃ M', f_X1_carry_80 k0 (nI t) F (nI i) M = some ((), M') ∧ (∀ c, c ≠ k0 + 3 → M'.1 c = M.1 c) ∧ (∀ f, M'.1 (k0 + 3) f = if i ≤ f ∧ f < 4 then frm (St M) t f (M.1 (k0 + 3) f) else M.1 (k0 + 3) f) := by
  intro j
  induction j with
  | zero =>
    intro F i M hi hF
    obtain ⟨F, rfl⟩ : ∃ F', F = F' + 1 := ⟨F - 1, by omega⟩
    have : i = 4 := by omega
    subst this
    exact ⟨M, rfl, fun _ _ => rfl, fun f => by rw [if_neg (by omega)]⟩
  | succ j ih =>
    intro F i M hi hF
    obtain ⟨F, rfl⟩ : ∃ F', F = F' + 1 := ⟨F - 1, by omega⟩
    have hi4 : i < 4 := by omega
    obtain ⟨M', h1, h2, h3⟩ := ih F (i + 1) (mset M (k0 + 3) i (frm (St M) t i (M.1 (k0 + 3) i))) (by omega) (by omega)
    refine ⟨M', ?_, fun c hc => by rw [h2 c hc, mset_ne hc], fun f => ?_⟩
    · show f_X1_carry_80_b k0 (f_X1_carry_80 k0 (nI t) F) (nI t) (nI i) M = _
      unfold f_X1_carry_80_b
      rw [if_neg (show ¬ (4 : Int32) ≤ nI i from nI_ge (b := 4) hi4 (by decide)), rd_n hi4, ev_formIn ht, cp_s, ck_n hi4, stm_s, nI_clamp (by omega), nI_1, h1]
    · rw [h3, St_set (by omega)]
      simp only [mset_at]
      by_cases hf : f = i
      · subst hf; rw [if_neg (show ¬ (f + 1 ≤ f ∧ f < 4) by omega), if_pos (show f ≤ f ∧ f < 4 by omega)]; simp
      · by_cases hb : i ≤ f ∧ f < 4
        · rw [if_pos (show i + 1 ≤ f ∧ f < 4 by omega), if_pos hb]; simp [hf]
        · rw [if_neg (show ¬ (i + 1 ≤ f ∧ f < 4) by omega), if_neg hb]; simp [hf]
theorem carry_places {k0 t n : Nat} {k : Int32} (hk0 : 26 ≤ k0) (hn : n ≤ 6) : ∀ (j F i : Nat) (M : Mem), IvT (St M) → t < nT (St M) → 0 < nW (St M) t → M.1 k0 0 = nI n → i + j = n → j < F → ∃ M', f_X1_carry_12 k0 k (nI t) F (nI i) M = f_X1_carry_80 k0 (nI t) FU 0 M' ∧ (∀ c, c ≠ k0 + 1 → c ≠ k0 + 2 → M'.1 c = M.1 c) ∧ (∀ p, M'.1 (k0 + 1) p = if i ≤ p ∧ p < n then St M 6 (8 * t + chw (St M) k (M.1 (k0 + 1) p) (M.1 (k0 + 2) p) t) else M.1 (k0 + 1) p) ∧ (∀ p, M'.1 (k0 + 2) p = if i ≤ p ∧ p < n then St M 7 (8 * t + chw (St M) k (M.1 (k0 + 1) p) (M.1 (k0 + 2) p) t) else M.1 (k0 + 2) p) := by
  intro j
  induction j with
  | zero =>
    intro F i M hT ht hw hp hi hF
    obtain ⟨F, rfl⟩ : ∃ F', F = F' + 1 := ⟨F - 1, by omega⟩
    refine ⟨M, ?_, fun _ _ _ => rfl, fun f => by rw [if_neg (by omega)], fun f => by rw [if_neg (by omega)]⟩
    show f_X1_carry_12_b k0 (f_X1_carry_12 k0 k (nI t) F) k (nI t) (nI i) M = _
    unfold f_X1_carry_12_b
    rw [hp, if_pos (nI_le (by omega) (by omega))]
  | succ j ih =>
    intro F i M hT ht hw hp hi hF
    obtain ⟨F, rfl⟩ : ∃ F', F = F' + 1 := ⟨F - 1, by omega⟩
    have hi6 : i < 6 := by omega
    have h6 : t < 6 := by have := nT_le hT; omega
    have h8 := nW_le hT h6
    have hcw := chw_lt (S := St M) (k := k) (p := M.1 (k0 + 1) i) (s := M.1 (k0 + 2) i) hw
    have es : ∀ v v', St (mset (mset M (k0 + 1) i v) (k0 + 2) i v') = St M := fun v v' => by rw [St_set (by omega), St_set (by omega)]
    generalize hcc : chw (St M) k (M.1 (k0 + 1) i) (M.1 (k0 + 2) i) t = cc at hcw
    obtain ⟨M', h1, h2, h3, h4⟩ := ih F (i + 1) (mset (mset M (k0 + 1) i (St M 6 (8 * t + cc))) (k0 + 2) i (St M 7 (8 * t + cc))) (by rw [es]; exact hT) (by rw [es]; exact ht) (by rw [es]; exact hw) (by rw [mset_ne (by omega), mset_ne (by omega)]; exact hp) (by omega) (by omega)
    refine ⟨M', ?_, fun c hc hc2 => by rw [h2 c hc hc2, mset_ne hc2, mset_ne hc], fun p => ?_, fun p => ?_⟩
    · show f_X1_carry_12_b k0 (f_X1_carry_12 k0 k (nI t) F) k (nI t) (nI i) M = _
      unfold f_X1_carry_12_b
      rw [hp, if_neg (nI_ge (by omega) (by omega)), rd_n hi6, rd_n hi6, ev_cheapest hT ht hw, cp_s, hcc, rd_n (by omega), ck_n hi6, stm_s, nI_clamp (by omega), mset_ne (by omega), rd_n (by omega), ck_n hi6, stm_s, nI_1, k11, k12, h1]
    · rw [h3, es]
      simp only [mset_at]
      by_cases hf : p = i
      · subst hf; rw [if_neg (show ¬ (p + 1 ≤ p ∧ p < n) by omega), if_pos (show p ≤ p ∧ p < n by omega), hcc]; simp
      · by_cases hb : i ≤ p ∧ p < n
        · rw [if_pos (show i + 1 ≤ p ∧ p < n by omega), if_pos hb]; simp [hf]
        · rw [if_neg (show ¬ (i + 1 ≤ p ∧ p < n) by omega), if_neg hb]; simp [hf]
    · rw [h4, es]
      simp only [mset_at]
      by_cases hf : p = i
      · subst hf; rw [if_neg (show ¬ (p + 1 ≤ p ∧ p < n) by omega), if_pos (show p ≤ p ∧ p < n by omega), hcc]; simp
      · by_cases hb : i ≤ p ∧ p < n
        · rw [if_pos (show i + 1 ≤ p ∧ p < n by omega), if_pos hb]; simp [hf]
        · rw [if_neg (show ¬ (i + 1 ≤ p ∧ p < n) by omega), if_neg hb]; simp [hf]
theorem ev_carry {k0 t n : Nat} {k : Int32} {Q : Nat → Nat → Int32} {M : Mem} (hk0 : 26 ≤ k0) (hn : n ≤ 6) (hT : IvT (St M)) (ht : t < nT (St M)) (hw : 0 < nW (St M) t) (hQ : CQ n k0 Q M) : ∃ M', f_X1_carry k0 k (nI t) M = some ((), M') ∧ CQ n k0 (stepQ (St M) k t Q) M' ∧ (∀ c, c ≠ k0 + 1 → c ≠ k0 + 2 → c ≠ k0 + 3 → M'.1 c = M.1 c) := by
  have h6 : t < 6 := by have := nT_le hT; omega
  obtain ⟨q1, q2, q3⟩ := hQ
  obtain ⟨M1, h1, h2, h3, h4⟩ := carry_places (k := k) hk0 hn n FU 0 M hT ht hw q1 (by omega) (FU_of (by omega))
  have es : St M1 = St M := St_sc (fun c c1 c2 => h2 c (by omega) (by omega))
  obtain ⟨M2, g1, g2, g3⟩ := carry_forms hk0 h6 4 FU 0 M1 rfl (FU_of (by decide))
  refine ⟨M2, ?_, ⟨?_, fun p hp => ?_, fun f hf => ?_⟩, fun c c1 c2 c3 => by rw [g2 c c3, h2 c c1 c2]⟩
  · unfold f_X1_carry
    have : spB (St M) (nI t) = true := (spB_iff hT).mpr ⟨t, ht, hw, rfl⟩
    rw [ev_hasWords hT, cp_s, if_bI, this]
    exact h1.trans g1
  · rw [g2 _ (by omega), h2 _ (by omega) (by omega)]; exact q1
  · obtain ⟨e1, e2⟩ := q2 p hp
    rw [g2 _ (by omega), g2 _ (by omega), h3, h4, if_pos (by omega), if_pos (by omega), e1, e2]
    exact ⟨rfl, rfl⟩
  · rw [g3, if_pos (by omega), es, h2 _ (by omega) (by omega), q3 f hf]; rfl
/-- a state of the reference: sixteen numbers of a row -/
def RQ (n q a : Nat) (Q : Nat → Nat → Int32) (M : Mem) : Prop := (∀ p, p < n → M.1 q (a + p) = Q 0 p ∧ M.1 q (a + 6 + p) = Q 1 p) ∧ (∀ p, n ≤ p → p < 6 → M.1 q (a + p) = 0 ∧ M.1 q (a + 6 + p) = -1) ∧ (∀ f, f < 4 → M.1 q (a + 12 + f) = Q 2 f)
theorem F3_pos {v : Int32} (h : F3 v) : 0 ≤ v ↔ ¬ v = -1 := by
  rcases h with rfl | rfl | rfl <;> decide
theorem carries_forms {q len a b t : Nat} (hq : 121 ≤ q) (ha : a + 16 ≤ len) (hb : b + 16 ≤ len) (hl : len < 4000) (hab : a = b ∨ a + 16 ≤ b) : ∀ (j F i : Nat) (M : Mem), KK M → t < nT (St M) → (∀ f, i ≤ f → f < 4 → F3 (M.1 q (a + 12 + f))) → i + j = 4 → j < F → ∃ M', f_X10_carries_110 q len q len (nI a) (nI b) (nI t) F (nI i) M = some ((), M') ∧ (∀ c, c ≠ q → M'.1 c = M.1 c) ∧ (∀ x, M'.1 q x = if b + 12 + i ≤ x ∧ x < b + 16 then frm (St M) t (x - b - 12) (M.1 q (a + (x - b))) else M.1 q x) := by
  intro j
  induction j with
  | zero =>
    intro F i M hK ht hf hi hF
    obtain ⟨F, rfl⟩ : ∃ F', F = F' + 1 := ⟨F - 1, by omega⟩
    have : i = 4 := by omega
    subst this
    exact ⟨M, rfl, fun _ _ => rfl, fun x => by rw [if_neg (by omega)]⟩
  | succ j ih =>
    intro F i M hK ht hf hi hF
    obtain ⟨F, rfl⟩ : ∃ F', F = F' + 1 := ⟨F - 1, by omega⟩
    have hi4 : i < 4 := by omega
    have hT := hK.1.1
    have h6 : t < 6 := by have := nT_le hT; omega
    obtain ⟨r1, r2, r3, r4⟩ := rm113 hK ht
    obtain ⟨a1, a2, a3, a4⟩ := hT.2.2.1 t ht
    have hF3 := hf i (by omega) hi4
    have hK' : ∀ v, KK (mset M q (b + 12 + i) v) := fun v => KK_sc hK (fun c c1 c2 => mset_ne (by omega)) (fun c c1 c2 => mset_ne (by omega))
    have es : ∀ v, St (mset M q (b + 12 + i) v) = St M := fun v => St_set (by omega)
    obtain ⟨M', h1, h2, h3⟩ := ih F (i + 1) (mset M q (b + 12 + i) (frm (St M) t i (M.1 q (a + 12 + i)))) (hK' _) (by rw [es]; exact ht) (fun f f1 f2 => by rw [mset_at, if_neg (by omega)]; exact hf f (by omega) f2) (by omega) (by omega)
    refine ⟨M', ?_, fun c hc => by rw [h2 c hc, mset_ne hc], fun x => ?_⟩
    · show f_X10_carries_110_b q len q len (f_X10_carries_110 q len q len (nI a) (nI b) (nI t) F) (nI a) (nI b) (nI t) (nI i) M = _
      have ia : nI a + 12 + nI i = nI (a + 12 + i) := by rw [show (12 : Int32) = nI 12 from rfl, nI_add, nI_add]
      have ib : nI b + 12 + nI i = nI (b + 12 + i) := by rw [show (12 : Int32) = nI 12 from rfl, nI_add, nI_add]
      unfold f_X10_carries_110_b f_X10_carries_148 f_X10_carries_201 f_X10_carries_203
      rw [if_neg (show ¬ (4 : Int32) ≤ nI i from nI_ge (b := 4) hi4 (by decide))]
      simp only [i4t, ia1, ia2, ia, ib, rd_n (show 4 * t < 72 by omega), rd_n (show 4 * t + 1 < 72 by omega), rd_n (show 4 * t + 2 < 72 by omega), r1, r2, r3, rd_n (show a + 12 + i < len by omega) (by omega), ck_n (show b + 12 + i < len by omega) (by omega), stm_s, nI_clamp (show b + 12 + i < 2 ^ 31 by omega)]
      rw [← h1]
      obtain ⟨m, hm, em⟩ := a1
      obtain ⟨c, hc, ec⟩ := a2
      rw [em, ec] at a4
      have mc := must_can m hm c hc a4 i hi4
      have mb := bit_tab m hm i hi4
      unfold frm
      rw [em, ec]
      have n01 : ¬ (0 : Int32) = 1 := by decide
      have n10 : ¬ (1 : Int32) = 0 := by decide
      by_cases cb : nI c >>> (nI i &&& 31) &&& 1 = 0
      · simp only [if_pos cb, mc cb, if_neg n01]
      · simp only [if_neg cb]
        rcases mb with mb | mb
        · simp only [mb, if_neg n01, if_pos]
          by_cases hv : M.1 q (a + 12 + i) = -1
          · simp only [hv, if_true, ite_self]
          · simp only [if_neg hv]
        · simp only [mb, if_neg n10, if_pos]
          by_cases hv : M.1 q (a + 12 + i) = -1
          · simp only [if_pos hv, if_neg (fun h => (F3_pos hF3).mp h hv)]
          · simp only [if_neg hv, if_pos ((F3_pos hF3).mpr hv)]
    · rw [h3, es]
      simp only [mset_at]
      by_cases hx : x = b + 12 + i
      · subst hx
        rw [if_neg (show ¬ (b + 12 + (i + 1) ≤ b + 12 + i ∧ b + 12 + i < b + 16) by omega), if_pos (show b + 12 + i ≤ b + 12 + i ∧ b + 12 + i < b + 16 by omega), show b + 12 + i - b - 12 = i by omega, show a + (b + 12 + i - b) = a + 12 + i by omega]; simp
      · by_cases hbx : b + 12 + i ≤ x ∧ x < b + 16
        · rw [if_pos (show b + 12 + (i + 1) ≤ x ∧ x < b + 16 by omega), if_pos hbx, if_neg (by omega)]
        · rw [if_neg (show ¬ (b + 12 + (i + 1) ≤ x ∧ x < b + 16) by omega), if_neg hbx, if_neg (by omega)]
theorem carries_places {q len a b t n : Nat} {k : Int32} (hq : 121 ≤ q) (ha : a + 16 ≤ len) (hb : b + 16 ≤ len) (hl : len < 4000) (hab : a = b ∨ a + 16 ≤ b) (hn : n ≤ 6) (hk : U 6 k) : ∀ (j F i : Nat) (M : Mem), KK M → t < nT (St M) → 0 < nW (St M) t → M.1 110 0 = nI n → (∀ p, i ≤ p → p < n → U 256 (M.1 q (a + p)) ∧ sOk (M.1 q (a + 6 + p))) → i + j = 6 → j < F → ∃ M', f_X10_carries_3 q len q len (nI a) (nI b) (nI t) k F (nI i) M = f_X10_carries_110 q len q len (nI a) (nI b) (nI t) FU 0 M' ∧ (∀ c, c ≠ q → M'.1 c = M.1 c) ∧ (∀ p, i ≤ p → p < n → M'.1 q (b + p) = St M 6 (8 * t + chw (St M) k (M.1 q (a + p)) (M.1 q (a + 6 + p)) t) ∧ M'.1 q (b + 6 + p) = St M 7 (8 * t + chw (St M) k (M.1 q (a + p)) (M.1 q (a + 6 + p)) t)) ∧ (∀ p, i ≤ p → n ≤ p → p < 6 → M'.1 q (b + p) = 0 ∧ M'.1 q (b + 6 + p) = -1) ∧ (∀ x, ¬ (b + i ≤ x ∧ x < b + 6) → ¬ (b + 6 + i ≤ x ∧ x < b + 12) → M'.1 q x = M.1 q x) := by
  intro j
  induction j with
  | zero =>
    intro F i M hK ht hw hp hQ hi hF
    obtain ⟨F, rfl⟩ : ∃ F', F = F' + 1 := ⟨F - 1, by omega⟩
    have : i = 6 := by omega
    subst this
    refine ⟨M, ?_, fun _ _ => rfl, fun p _ _ => by omega, fun p _ _ _ => by omega, fun _ _ _ => rfl⟩
    show f_X10_carries_3_b q len q len (f_X10_carries_3 q len q len (nI a) (nI b) (nI t) k F) (nI a) (nI b) (nI t) k (nI 6) M = _
    unfold f_X10_carries_3_b
    rw [if_pos (show (6 : Int32) ≤ nI 6 by decide)]
  | succ j ih =>
    intro F i M hK ht hw hp hQ hi hF
    obtain ⟨F, rfl⟩ : ∃ F', F = F' + 1 := ⟨F - 1, by omega⟩
    have hi6 : i < 6 := by omega
    have hT := hK.1.1
    have h6 : t < 6 := by have := nT_le hT; omega
    have h8 := nW_le hT h6
    have ia : nI a + nI i = nI (a + i) := nI_add a i
    have ib : nI b + nI i = nI (b + i) := nI_add b i
    have ia6 : nI a + 6 + nI i = nI (a + 6 + i) := by rw [show (6 : Int32) = nI 6 from rfl, nI_add, nI_add]
    have ib6 : nI b + 6 + nI i = nI (b + 6 + i) := by rw [show (6 : Int32) = nI 6 from rfl, nI_add, nI_add]
    have es : ∀ v v', St (mset (mset M q (b + i) v) q (b + 6 + i) v') = St M := fun v v' => by rw [St_set (by omega), St_set (by omega)]
    have eK : ∀ v v', KK (mset (mset M q (b + i) v) q (b + 6 + i) v') := fun v v' => KK_sc hK (fun c c1 c2 => by rw [mset_ne (by omega), mset_ne (by omega)]) (fun c c1 c2 => by rw [mset_ne (by omega), mset_ne (by omega)])
    have er : ∀ v v' x, x ≠ b + i → x ≠ b + 6 + i → (mset (mset M q (b + i) v) q (b + 6 + i) v').1 q x = M.1 q x := fun v v' x x1 x2 => by rw [mset_at, if_neg (by omega), mset_at, if_neg (by omega)]
    have e1 : ∀ v v', (mset (mset M q (b + i) v) q (b + 6 + i) v').1 q (b + i) = v := fun v v' => by rw [mset_at, if_neg (by omega), mset_at, if_pos ⟨rfl, rfl⟩]
    have e2 : ∀ v v', (mset (mset M q (b + i) v) q (b + 6 + i) v').1 q (b + 6 + i) = v' := fun v v' => by rw [mset_at, if_pos ⟨rfl, rfl⟩]
    have go : ∀ v v', ∃ M', f_X10_carries_3 q len q len (nI a) (nI b) (nI t) k F (nI (i + 1)) (mset (mset M q (b + i) v) q (b + 6 + i) v') = f_X10_carries_110 q len q len (nI a) (nI b) (nI t) FU 0 M' ∧ (∀ c, c ≠ q → M'.1 c = M.1 c) ∧ (∀ p, i + 1 ≤ p → p < n → M'.1 q (b + p) = St M 6 (8 * t + chw (St M) k (M.1 q (a + p)) (M.1 q (a + 6 + p)) t) ∧ M'.1 q (b + 6 + p) = St M 7 (8 * t + chw (St M) k (M.1 q (a + p)) (M.1 q (a + 6 + p)) t)) ∧ (∀ p, i + 1 ≤ p → n ≤ p → p < 6 → M'.1 q (b + p) = 0 ∧ M'.1 q (b + 6 + p) = -1) ∧ (∀ x, ¬ (b + i ≤ x ∧ x < b + 6) → ¬ (b + 6 + i ≤ x ∧ x < b + 12) → M'.1 q x = M.1 q x) ∧ M'.1 q (b + i) = v ∧ M'.1 q (b + 6 + i) = v' := by
      intro v v'
      obtain ⟨M', g1, g2, g3, g4, g5⟩ := ih F (i + 1) (mset (mset M q (b + i) v) q (b + 6 + i) v') (eK v v') (by rw [es]; exact ht) (by rw [es]; exact hw) (by rw [mset_ne (by omega), mset_ne (by omega)]; exact hp) (fun p p1 p2 => by rw [er _ _ _ (by omega) (by omega), er _ _ _ (by omega) (by omega)]; exact hQ p (by omega) p2) (by omega) (by omega)
      refine ⟨M', g1, fun c hc => by rw [g2 c hc, mset_ne hc, mset_ne hc], fun p p1 p2 => ?_, g4, fun x x1 x2 => ?_, ?_, ?_⟩
      · have := g3 p p1 p2
        rw [es, er _ _ (a + p) (by omega) (by omega), er _ _ (a + 6 + p) (by omega) (by omega)] at this
        exact this
      · rw [g5 x (by omega) (by omega), er _ _ _ (by omega) (by omega)]
      · rw [g5 _ (by omega) (by omega), e1]
      · rw [g5 _ (by omega) (by omega), e2]
    by_cases hin : i < n
    · obtain ⟨hu, hs⟩ := hQ i (by omega) hin
      have hcw := chw_lt (S := St M) (k := k) (p := M.1 q (a + i)) (s := M.1 q (a + 6 + i)) hw
      obtain ⟨r1, r2, r3⟩ := rm114 hK ht hcw
      obtain ⟨M', g1, g2, g3, g4, g5, g6, g7⟩ := go (St M 6 (8 * t + chw (St M) k (M.1 q (a + i)) (M.1 q (a + 6 + i)) t)) (St M 7 (8 * t + chw (St M) k (M.1 q (a + i)) (M.1 q (a + 6 + i)) t))
      refine ⟨M', ?_, g2, fun p p1 p2 => ?_, fun p p1 p2 p3 => ?_, g5⟩
      · show f_X10_carries_3_b q len q len (f_X10_carries_3 q len q len (nI a) (nI b) (nI t) k F) (nI a) (nI b) (nI t) k (nI i) M = _
        unfold f_X10_carries_3_b f_X10_carries_48 f_X10_carries_72 f_X10_carries_100
        rw [if_neg (show ¬ (6 : Int32) ≤ nI i from nI_ge (b := 6) hi6 (by decide)), hp, if_neg (nI_ge hin (by omega)), ia, rd_n (by omega) (by omega), ia6, rd_n (by omega) (by omega), ev_gets hK ht hw hk hu hs, cp_s, if_pos (nI_pos' (by omega)), rd_n (by omega), r1, ib, ck_n (by omega) (by omega), stm_s, nI_clamp (by omega), ia1, rd_n (by omega), mset_ne (by omega), r2, ib6, ck_n (by omega) (by omega), stm_s, nI_clamp (by omega), nI_1, ← g1]
        rw [if_pos (nI_pos' (by omega))]
      · by_cases hpi : p = i
        · subst hpi; exact ⟨g6, g7⟩
        · exact g3 p (by omega) p2
      · by_cases hpi : p = i
        · omega
        · exact g4 p (by omega) p2 p3
    · obtain ⟨M', g1, g2, g3, g4, g5, g6, g7⟩ := go 0 (-1)
      refine ⟨M', ?_, g2, fun p p1 p2 => by omega, fun p p1 p2 p3 => ?_, g5⟩
      · show f_X10_carries_3_b q len q len (f_X10_carries_3 q len q len (nI a) (nI b) (nI t) k F) (nI a) (nI b) (nI t) k (nI i) M = _
        unfold f_X10_carries_3_b f_X10_carries_48 f_X10_carries_72 f_X10_carries_100
        rw [if_neg (show ¬ (6 : Int32) ≤ nI i from nI_ge (b := 6) hi6 (by decide)), hp, if_pos (nI_le (by omega) (by omega)), if_neg (by decide), ib, ck_n (by omega) (by omega), stm_s, nI_clamp (by omega), if_neg (by decide), ib6, ck_n (by omega) (by omega), stm_s, nI_clamp (by omega), nI_1, ← g1]
      · by_cases hpi : p = i
        · subst hpi; exact ⟨g6, g7⟩
        · exact g4 p (by omega) p2 p3
theorem ev_carries {q len a b t n : Nat} {k : Int32} {Q : Nat → Nat → Int32} {M : Mem} (hq : 121 ≤ q) (ha : a + 16 ≤ len) (hb : b + 16 ≤ len) (hl : len < 4000) (hab : a = b ∨ a + 16 ≤ b) (hn : n ≤ 6) (hk : U 6 k) (hK : KK M) (ht : t < nT (St M)) (hw : 0 < nW (St M) t) (hp : M.1 110 0 = nI n) (hO : QOk n Q) (hQ : RQ n q a Q M) : ∃ M', f_X10_carries q len q len (nI a) (nI b) (nI t) k M = some ((), M') ∧ RQ n q b (stepQ (St M) k t Q) M' ∧ (∀ c, c ≠ q → M'.1 c = M.1 c) ∧ (∀ x, x < b ∨ b + 16 ≤ x → M'.1 q x = M.1 q x) := by
  obtain ⟨q1, q2, q3⟩ := hQ
  obtain ⟨M1, g1, g2, g3, g4, g5⟩ := carries_places hq ha hb hl hab hn hk 6 FU 0 M hK ht hw hp (fun p _ p2 => by obtain ⟨z1, z2⟩ := q1 p p2; rw [z1, z2]; exact hO.1 p p2) rfl (FU_of (by decide))
  have es : St M1 = St M := St_sc (fun c c1 c2 => g2 c (by omega))
  have hK1 : KK M1 := KK_sc hK (fun c c1 c2 => g2 c (by omega)) (fun c c1 c2 => g2 c (by omega))
  obtain ⟨M2, f1, f2, f3⟩ := carries_forms hq ha hb hl hab 4 FU 0 M1 hK1 (by rw [es]; exact ht) (fun f _ hf => by rw [g5 _ (by omega) (by omega), q3 f hf]; exact hO.2 f hf) rfl (FU_of (by decide))
  refine ⟨M2, ?_, ⟨fun p hp => ?_, fun p hp hp6 => ?_, fun f hf => ?_⟩, fun c hc => by rw [f2 c hc, g2 c hc], fun x hx => ?_⟩
  · unfold f_X10_carries
    exact g1.trans f1
  · obtain ⟨z1, z2⟩ := q1 p hp
    obtain ⟨y1, y2⟩ := g3 p (by omega) hp
    rw [f3, if_neg (by omega), f3, if_neg (by omega), y1, y2, z1, z2]
    exact ⟨rfl, rfl⟩
  · rw [f3, if_neg (by omega), f3, if_neg (by omega)]
    exact g4 p (by omega) hp hp6
  · rw [f3, if_pos (by omega), es, show b + 12 + f - b - 12 = f by omega, show a + (b + 12 + f - b) = a + 12 + f by omega, g5 _ (by omega) (by omega), q3 f hf]; rfl
  · rw [f3, if_neg (by omega), g5 x (by omega) (by omega)]
