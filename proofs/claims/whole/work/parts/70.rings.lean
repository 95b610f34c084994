/-! sums -/
def sT (f : Nat → Int32) : Nat → Nat → Int32
  | 0, _ => 0
  | d + 1, i => f i + sT f d (i + 1)
theorem sT_s {f : Nat → Int32} {d i : Nat} : sT f (d + 1) i = f i + sT f d (i + 1) := rfl
theorem sT_cong {f g : Nat → Int32} : ∀ d i, (∀ k, i ≤ k → k < i + d → f k = g k) → sT f d i = sT g d i := by
  intro d
  induction d with
  | zero => intro i _; rfl
  | succ d ih => intro i h; rw [sT_s, sT_s, h i (by omega) (by omega), ih (i + 1) (fun k h1 h2 => h k (by omega) (by omega))]
theorem sT_0 {f : Nat → Int32} : ∀ d i, (∀ k, i ≤ k → k < i + d → f k = 0) → sT f d i = 0 := by
  intro d
  induction d with
  | zero => intro i _; rfl
  | succ d ih => intro i h; rw [sT_s, h i (by omega) (by omega), ih (i + 1) (fun k h1 h2 => h k (by omega) (by omega))]; rfl
theorem sT_1 {f : Nat → Int32} {a : Nat} : ∀ d i, i ≤ a → a < i + d → (∀ k, i ≤ k → k < i + d → k ≠ a → f k = 0) → sT f d i = f a := by
  intro d
  induction d with
  | zero => intro i h1 h2; omega
  | succ d ih =>
    intro i h1 h2 h
    rw [sT_s]
    by_cases e : i = a
    · subst e
      rw [sT_0 d (i + 1) (fun k g1 g2 => h k (by omega) (by omega) (by omega)), Int32.add_zero]
    · rw [h i (by omega) (by omega) e, Int32.zero_add, ih (i + 1) (by omega) (by omega) (fun k g1 g2 g3 => h k (by omega) (by omega) g3)]
theorem sT_add {f g : Nat → Int32} : ∀ d i, sT (fun k => f k + g k) d i = sT f d i + sT g d i := by
  intro d
  induction d with
  | zero => intro i; rfl
  | succ d ih => intro i; rw [sT_s, sT_s, sT_s, ih]; ac_rfl
theorem sT_swap {f : Nat → Nat → Int32} {e j : Nat} : ∀ d i, sT (fun a => sT (fun b => f a b) e j) d i = sT (fun b => sT (fun a => f a b) d i) e j := by
  intro d
  induction d with
  | zero => intro i; exact (sT_0 e j (fun _ _ _ => rfl)).symm
  | succ d ih =>
    intro i
    rw [sT_s, ih, ← sT_add]
    rfl
theorem sT_le {f : Nat → Int32} {e : Nat} : ∀ d i, (∀ k, i ≤ k → k < i + d → ∃ m, m ≤ e ∧ f k = nI m) → ∃ m, m ≤ e * d ∧ sT f d i = nI m := by
  intro d
  induction d with
  | zero => intro i _; exact ⟨0, by omega, rfl⟩
  | succ d ih =>
    intro i h
    obtain ⟨a, ha, ea⟩ := h i (by omega) (by omega)
    obtain ⟨b, hb, eb⟩ := ih (i + 1) (fun k h1 h2 => h k (by omega) (by omega))
    exact ⟨a + b, by rw [Nat.mul_succ]; omega, by rw [sT_s, ea, eb, nI_add]⟩
/-! pairs as numbers of words -/
def pA (S : Nat → Nat → Int32) (j : Nat) : Nat := (S 19 j).toNatClampNeg
def pB (S : Nat → Nat → Int32) (j : Nat) : Nat := (S 20 j).toNatClampNeg
theorem pAB {S : Nat → Nat → Int32} (hT : IvT S) (hQ : IvQ S) {j : Nat} (hj : j < nQ S) : S 19 j = nI (pA S j) ∧ S 20 j = nI (pB S j) ∧ pA S j < 48 ∧ pB S j < 48 ∧ pA S j / 8 ≠ pB S j / 8 ∧ isW S (pA S j / 8) (pA S j % 8) ∧ isW S (pB S j / 8) (pB S j % 8) := by
  obtain ⟨t, w, u, v, g1, g2, g3, g4, g5⟩ := hQ.2 j hj
  have l1 := wlt hT g1
  have l2 := wlt hT g2
  have eA : pA S j = 8 * t + w := by unfold pA; rw [g4, nI_clamp (by omega)]
  have eB : pB S j = 8 * u + v := by unfold pB; rw [g5, nI_clamp (by omega)]
  rw [eA, eB, g4, g5, show (8 * t + w) / 8 = t by omega, show (8 * t + w) % 8 = w by omega, show (8 * u + v) / 8 = u by omega, show (8 * u + v) % 8 = v by omega]
  exact ⟨rfl, rfl, by omega, by omega, g3, g1, g2⟩
def bhN (S : Nat → Nat → Int32) (j a : Nat) : Option Nat := if pA S j = a then some (pB S j) else if pB S j = a then some (pA S j) else none
def oI : Option Nat → Int32
  | some b => nI b
  | none => -1
theorem ev_behind {M : Mem} (hT : IvT (St M)) (hQ : IvQ (St M)) {j a : Nat} (hj : j < nQ (St M)) (ha : a < 48) : f_X2_behind (nI j) (nI a) M = some (oI (bhN (St M) j a)) := by
  have h24 := nQ_le hQ
  obtain ⟨e1, e2, e3, e4, -⟩ := pAB hT hQ hj
  unfold f_X2_behind bhN
  rw [rd_n (by omega), rd_n (by omega), rd_n (by omega), rd_n (by omega), k24, k25, e1, e2]
  by_cases h1 : pA (St M) j = a
  · rw [if_pos (congrArg nI h1), if_pos h1]; rfl
  · rw [if_neg (fun z => h1 (nI_inj (by omega) (by omega) z)), if_neg h1]
    by_cases h2 : pB (St M) j = a
    · rw [if_pos (congrArg nI h2), if_pos h2]; rfl
    · rw [if_neg (fun z => h2 (nI_inj (by omega) (by omega) z)), if_neg h2]; rfl
theorem bhN_lt {S : Nat → Nat → Int32} (hT : IvT S) (hQ : IvQ S) {j a b : Nat} (hj : j < nQ S) (h : bhN S j a = some b) : b < 48 ∧ a / 8 ≠ b / 8 ∧ isW S (b / 8) (b % 8) ∧ isW S (a / 8) (a % 8) := by
  obtain ⟨e1, e2, e3, e4, e5, e6, e7⟩ := pAB hT hQ hj
  unfold bhN at h
  by_cases h1 : pA S j = a
  · rw [if_pos h1] at h
    cases h; subst h1; exact ⟨e4, e5, e7, e6⟩
  · rw [if_neg h1] at h
    by_cases h2 : pB S j = a
    · rw [if_pos h2] at h
      cases h; subst h2; exact ⟨e3, e5.symm, e6, e7⟩
    · rw [if_neg h2] at h; cases h
/-! counters: 0 rings, 1 that come home, 2 + j of a pair, 26 + j of a pair at fault -/
def dl (a b : Nat) : Int32 := if a = b then 1 else 0
def inc (j1 j2 j3 : Nat) (h : Bool) (i : Nat) : Int32 := if i = 0 then 1 else if i = 1 then bI h else if i < 26 then dl (i - 2) j1 + dl (i - 2) j2 + dl (i - 2) j3 else cond h 0 (dl (i - 26) j1 + dl (i - 26) j2 + dl (i - 26) j3)
def CN (V : Nat → Int32) (M : Mem) : Prop := M.1 96 0 = V 0 ∧ M.1 96 1 = V 1 ∧ ∀ j, j < 24 → M.1 97 j = V (2 + j) ∧ M.1 98 j = V (26 + j)
def FN (M M' : Mem) : Prop := ∀ c, c ≠ 96 → c ≠ 97 → c ≠ 98 → M'.1 c = M.1 c
theorem FN.rf {M : Mem} : FN M M := fun _ _ _ _ => rfl
theorem FN.tr {M M1 M2 : Mem} (h : FN M M1) (g : FN M1 M2) : FN M M2 := fun c a b d => (g c a b d).trans (h c a b d)
theorem FN_Sc {M M' : Mem} (h : FN M M') : Sc M M' := ⟨fun c h1 h2 => h c (by omega) (by omega) (by omega), fun c h1 h2 => h c (by omega) (by omega) (by omega), by rw [h 108 (by omega) (by omega) (by omega)], by rw [h 108 (by omega) (by omega) (by omega)]⟩
theorem ev_addTo {M : Mem} {x : Nat} {h : Bool} (hx : x < 24) : ∃ M', f_X4_addTo (nI x) (bI h) M = some ((), M') ∧ (∀ j, M'.1 97 j = M.1 97 j + dl j x) ∧ (∀ j, M'.1 98 j = M.1 98 j + cond h (dl j x) 0) ∧ ∀ c, c ≠ 97 → c ≠ 98 → M'.1 c = M.1 c := by
  have e : f_X4_addTo (nI x) (bI h) M = some ((), mset (mset M 97 x (M.1 97 x + 1)) 98 x (M.1 98 x + bI h)) := by
    unfold f_X4_addTo f_X4_addTo_26
    rw [rd_n hx, ck_n hx, stm_s, nI_clamp (by omega), rd_n hx, mset_ne (show 98 ≠ 97 by omega), ck_n hx, ck_n hx, stm_s, stm_s, if_bI]
    cases h <;> rfl
  refine ⟨_, e, fun j => ?_, fun j => ?_, fun c h1 h2 => by rw [mset_ne h2, mset_ne h1]⟩
  · rw [mset_ne (by omega), mset_at]
    unfold dl
    by_cases g : j = x
    · rw [if_pos ⟨rfl, g⟩, if_pos g, g]
    · rw [if_neg (fun z => g z.2), if_neg g, Int32.add_zero]
  · rw [mset_at]
    unfold dl
    by_cases g : j = x
    · rw [if_pos ⟨rfl, g⟩, if_pos g, g]; cases h <;> rfl
    · rw [if_neg (fun z => g z.2), if_neg g, mset_ne (by omega)]
      cases h <;> exact (Int32.add_zero _).symm
def addV (V W : Nat → Int32) : Nat → Int32 := fun i => V i + W i
theorem evt {M : Mem} {V : Nat → Int32} {j1 j2 j3 : Nat} {h : Bool} (h1 : j1 < 24) (h2 : j2 < 24) (h3 : j3 < 24) (hC : CN V M) {r : Int32 → Mem → Option (Unit × Mem)} {x4 x5 v : Int32} (hv : decide (v = x5) = h) : ∃ M', (stm (mset M 96 0 ((M.1 96 0) + (1 : Int32))) fun M1 => if v = x5 then f_X4_close_68 r (nI j1) (nI j2) x4 x5 (nI j3) v (1 : Int32) (M1.1 96 1) M1 else f_X4_close_68 r (nI j1) (nI j2) x4 x5 (nI j3) v (0 : Int32) (M1.1 96 1) M1) = r (nI (j3 + 1)) M' ∧ CN (addV V (inc j1 j2 j3 h)) M' ∧ FN M M' := by
  let M2 := mset (mset M 96 0 (M.1 96 0 + 1)) 96 1 (M.1 96 1 + bI h)
  obtain ⟨A1, a1, a2, a3, a4⟩ := ev_addTo (M := M2) (x := j1) (h := !h) h1
  obtain ⟨A2, b1, b2, b3, b4⟩ := ev_addTo (M := A1) (x := j2) (h := !h) h2
  obtain ⟨A3, c1, c2, c3, c4⟩ := ev_addTo (M := A2) (x := j3) (h := !h) h3
  have e0 : (mset M 96 0 (M.1 96 0 + 1)).1 96 1 = M.1 96 1 := by rw [mset_at, if_neg (by omega)]
  refine ⟨A3, ?_, ⟨?_, ?_, fun j hj => ⟨?_, ?_⟩⟩, fun c d1 d2 d3 => ?_⟩
  · rw [stm_s, e0]
    unfold f_X4_close_68 f_X4_close_86 f_X4_close_103 f_X4_close_121 f_X4_close_124
    cases h with
    | true =>
      have hv' : v = x5 := of_decide_eq_true hv
      rw [if_pos hv', stm_s, if_pos hv']
      have a1' : f_X4_addTo (nI j1) 0 (mset (mset M 96 0 (M.1 96 0 + 1)) 96 1 (M.1 96 1 + 1)) = some ((), A1) := a1
      have b1' : f_X4_addTo (nI j2) 0 A1 = some ((), A2) := b1
      have c1' : f_X4_addTo (nI j3) 0 A2 = some ((), A3) := c1
      rw [a1', cl_s, if_pos hv', b1', cl_s, if_pos hv', c1', cl_s, nI_1]
    | false =>
      have hv' : ¬ v = x5 := of_decide_eq_false hv
      rw [if_neg hv', stm_s, if_neg hv']
      have a1' : f_X4_addTo (nI j1) 1 (mset (mset M 96 0 (M.1 96 0 + 1)) 96 1 (M.1 96 1 + 0)) = some ((), A1) := a1
      have b1' : f_X4_addTo (nI j2) 1 A1 = some ((), A2) := b1
      have c1' : f_X4_addTo (nI j3) 1 A2 = some ((), A3) := c1
      rw [a1', cl_s, if_neg hv', b1', cl_s, if_neg hv', c1', cl_s, nI_1]
  · rw [c4 96 (by omega) (by omega), b4 96 (by omega) (by omega), a4 96 (by omega) (by omega)]
    show (mset (mset M 96 0 (M.1 96 0 + 1)) 96 1 (M.1 96 1 + bI h)).1 96 0 = _
    rw [mset_at, if_neg (by omega), mset_at, if_pos ⟨rfl, rfl⟩, hC.1]; rfl
  · rw [c4 96 (by omega) (by omega), b4 96 (by omega) (by omega), a4 96 (by omega) (by omega)]
    show (mset (mset M 96 0 (M.1 96 0 + 1)) 96 1 (M.1 96 1 + bI h)).1 96 1 = _
    rw [mset_at, if_pos ⟨rfl, rfl⟩, hC.2.1]; rfl
  · rw [c2, b2, a2]
    show (mset (mset M 96 0 (M.1 96 0 + 1)) 96 1 (M.1 96 1 + bI h)).1 97 j + _ + _ + _ = _
    rw [mset_ne (by omega), mset_ne (by omega), (hC.2.2 j hj).1]
    unfold addV inc
    rw [if_neg (by omega), if_neg (by omega), if_pos (by omega), show 2 + j - 2 = j by omega]
    ac_rfl
  · rw [c3, b3, a3]
    show (mset (mset M 96 0 (M.1 96 0 + 1)) 96 1 (M.1 96 1 + bI h)).1 98 j + _ + _ + _ = _
    rw [mset_ne (by omega), mset_ne (by omega), (hC.2.2 j hj).2]
    unfold addV inc
    rw [if_neg (by omega), if_neg (by omega), if_neg (by omega), show 26 + j - 26 = j by omega]
    cases h with
    | true => simp only [Bool.not_true, cond, Int32.add_zero]
    | false => simp only [Bool.not_false, cond]; ac_rfl
  · rw [c4 c d2 d3, b4 c d2 d3, a4 c d2 d3]
    show (mset (mset M 96 0 (M.1 96 0 + 1)) 96 1 (M.1 96 1 + bI h)).1 c = _
    rw [mset_ne d1, mset_ne d1]
/-! the rings, as sums -/
def E3 (S : Nat → Nat → Int32) (y0 y2 j1 j2 j3 : Nat) (i : Nat) : Int32 := match bhN S j3 y2 with
  | some v => if v / 8 = y0 / 8 then inc j1 j2 j3 (decide (v = y0)) i else 0
  | none => 0
def E2 (S : Nat → Nat → Int32) (y0 y1 j1 j2 : Nat) (i : Nat) : Int32 := match bhN S j2 y1 with
  | some y2 => if y0 / 8 < y2 / 8 then sT (fun j3 => E3 S y0 y2 j1 j2 j3 i) (nQ S) 0 else 0
  | none => 0
def mnP (S : Nat → Nat → Int32) (j : Nat) : Nat := if pB S j < pA S j then pB S j else pA S j
def mxP (S : Nat → Nat → Int32) (j : Nat) : Nat := if pA S j < pB S j then pB S j else pA S j
def E1 (S : Nat → Nat → Int32) (j1 : Nat) (i : Nat) : Int32 := sT (fun j2 => E2 S (mnP S j1) (mxP S j1) j1 j2 i) (nQ S) 0
def tot (S : Nat → Nat → Int32) (i : Nat) : Int32 := sT (fun j1 => E1 S j1 i) (nQ S) 0
theorem CN_ext {V W : Nat → Int32} {M : Mem} (h : CN V M) (e : ∀ i, V i = W i) : CN W M := by
  have : V = W := funext e
  rw [← this]; exact h
theorem oI_none {b : Option Nat} (hb : ∀ x, b = some x → x < 48) : oI b = -1 ↔ b = none := by
  cases b with
  | none => exact ⟨fun _ => rfl, fun _ => rfl⟩
  | some x =>
    have : ∀ x, x < 48 → ¬ nI x = -1 := by decide +kernel
    exact ⟨fun h => absurd h (this x (hb x rfl)), fun h => by cases h⟩
theorem close_go {S : Nat → Nat → Int32} (hT : IvT S) (hQ : IvQ S) {y0 y2 j1 j2 : Nat} (h1 : j1 < 24) (h2 : j2 < 24) (h0 : y0 < 48) (hy2 : y2 < 48) : ∀ (d F j : Nat) (M : Mem) (V : Nat → Int32), St M = S → j + d = nQ S → CN V M → d < F → ∃ M', f_X4_close_3 (nI j1) (nI j2) (nI y2) (nI y0) F (nI j) M = some ((), M') ∧ CN (fun i => V i + sT (fun j3 => E3 S y0 y2 j1 j2 j3 i) d j) M' ∧ FN M M' := by
  have h24 := nQ_le hQ
  intro d
  induction d with
  | zero =>
    intro F j M V hS hj hC hF
    obtain ⟨F, rfl⟩ : ∃ F', F = F' + 1 := ⟨F - 1, by omega⟩
    have e23 : M.1 23 0 = nI (nQ S) := by rw [k23, hS]; exact nQ_eq hQ
    refine ⟨M, ?_, CN_ext hC (fun i => (Int32.add_zero _).symm), FN.rf⟩
    show f_X4_close_3_b (f_X4_close_3 (nI j1) (nI j2) (nI y2) (nI y0) F) (nI j1) (nI j2) (nI y2) (nI y0) (nI j) M = _
    unfold f_X4_close_3_b
    rw [e23, if_pos (nI_le (by omega) (by omega))]
  | succ d ih =>
    intro F j M V hS hj hC hF
    obtain ⟨F, rfl⟩ : ∃ F', F = F' + 1 := ⟨F - 1, by omega⟩
    have e23 : M.1 23 0 = nI (nQ S) := by rw [k23, hS]; exact nQ_eq hQ
    have eB : f_X2_behind (nI j) (nI y2) M = some (oI (bhN S j y2)) := by
      have := ev_behind (M := M) (j := j) (a := y2) (by rw [hS]; exact hT) (by rw [hS]; exact hQ) (by rw [hS]; omega) hy2
      rw [hS] at this; exact this
    have step : ∀ (X : Mem) (W : Nat → Int32), St X = S → CN W X → (∀ i, W i = V i + E3 S y0 y2 j1 j2 j i) → FN M X → ∃ M', f_X4_close_3 (nI j1) (nI j2) (nI y2) (nI y0) F (nI (j + 1)) X = some ((), M') ∧ CN (fun i => V i + sT (fun j3 => E3 S y0 y2 j1 j2 j3 i) (d + 1) j) M' ∧ FN M M' := by
      intro X W hX hW hE hF
      obtain ⟨M', p1, p2, p3⟩ := ih F (j + 1) X W hX (by omega) hW (by omega)
      exact ⟨M', p1, CN_ext p2 (fun i => by rw [hE, sT_s, Int32.add_assoc]), hF.tr p3⟩
    have eX : f_X4_close_3 (nI j1) (nI j2) (nI y2) (nI y0) (F + 1) (nI j) M = if oI (bhN S j y2) = -1 then f_X4_close_3 (nI j1) (nI j2) (nI y2) (nI y0) F (nI (j + 1)) M else if oI (bhN S j y2) / 8 = nI y0 / 8 then (stm (mset M 96 0 ((M.1 96 0) + (1 : Int32))) fun M1 => if oI (bhN S j y2) = nI y0 then f_X4_close_68 (f_X4_close_3 (nI j1) (nI j2) (nI y2) (nI y0) F) (nI j1) (nI j2) (nI y2) (nI y0) (nI j) (oI (bhN S j y2)) (1 : Int32) (M1.1 96 1) M1 else f_X4_close_68 (f_X4_close_3 (nI j1) (nI j2) (nI y2) (nI y0) F) (nI j1) (nI j2) (nI y2) (nI y0) (nI j) (oI (bhN S j y2)) (0 : Int32) (M1.1 96 1) M1) else f_X4_close_3 (nI j1) (nI j2) (nI y2) (nI y0) F (nI (j + 1)) M := by
      show f_X4_close_3_b (f_X4_close_3 (nI j1) (nI j2) (nI y2) (nI y0) F) (nI j1) (nI j2) (nI y2) (nI y0) (nI j) M = _
      unfold f_X4_close_3_b f_X4_close_124
      rw [e23, if_neg (nI_ge (by omega) (by omega)), eB, cp_s, nI_1]
    rw [eX]
    cases hb : bhN S j y2 with
    | none =>
      rw [if_pos (show oI none = -1 from rfl)]
      exact step M V hS hC (fun i => by unfold E3; rw [hb]; exact (Int32.add_zero _).symm) FN.rf
    | some v =>
      obtain ⟨hv48, -⟩ := bhN_lt hT hQ (show j < nQ S by omega) hb
      rw [if_neg (fun z => by have := (oI_none (b := some v) (fun x hx => by cases hx; exact hv48)).mp z; cases this)]
      show ∃ M', (if nI v / 8 = nI y0 / 8 then _ else _) = _ ∧ _ ∧ _
      rw [(div8 v hv48).1, (div8 y0 h0).1]
      by_cases hd : v / 8 = y0 / 8
      · rw [if_pos (congrArg nI hd)]
        have hh : decide (oI (some v) = nI y0) = decide (v = y0) := decide_eq_decide.mpr (nI_eq (by omega) (by omega))
        obtain ⟨X, x1, x2, x3⟩ := evt (r := f_X4_close_3 (nI j1) (nI j2) (nI y2) (nI y0) F) (x4 := nI y2) h1 h2 (show j < 24 by omega) hC hh
        have hXS : St X = S := by rw [St_Sc (FN_Sc x3), hS]
        obtain ⟨M', p1, p2, p3⟩ := step X _ hXS x2 (fun i => by unfold E3 addV; rw [hb]; show _ = V i + (if v / 8 = y0 / 8 then _ else _); rw [if_pos hd]) x3
        exact ⟨M', x1.trans p1, p2, p3⟩
      · rw [if_neg (fun z => hd (nI_inj (by omega) (by omega) z))]
        exact step M V hS hC (fun i => by unfold E3; rw [hb]; show _ = V i + (if v / 8 = y0 / 8 then _ else _); rw [if_neg hd, Int32.add_zero]) FN.rf
theorem find72_go {S : Nat → Nat → Int32} (hT : IvT S) (hQ : IvQ S) {y0 y1 j1 : Nat} {r28 : Int32 → Mem → Option (Unit × Mem)} (h1 : j1 < 24) (h0 : y0 < 48) (hy1 : y1 < 48) : ∀ (d F j : Nat) (M : Mem) (V : Nat → Int32), St M = S → j + d = nQ S → CN V M → d < F → ∃ M', f_X4_find_72 r28 (nI j1) (nI y0) (nI y1) F (nI j) M = r28 (nI (j1 + 1)) M' ∧ CN (fun i => V i + sT (fun j2 => E2 S y0 y1 j1 j2 i) d j) M' ∧ FN M M' := by
  have h24 := nQ_le hQ
  intro d
  induction d with
  | zero =>
    intro F j M V hS hj hC hF
    obtain ⟨F, rfl⟩ : ∃ F', F = F' + 1 := ⟨F - 1, by omega⟩
    have e23 : M.1 23 0 = nI (nQ S) := by rw [k23, hS]; exact nQ_eq hQ
    refine ⟨M, ?_, CN_ext hC (fun i => (Int32.add_zero _).symm), FN.rf⟩
    show f_X4_find_72_b r28 (f_X4_find_72 r28 (nI j1) (nI y0) (nI y1) F) (nI j1) (nI y0) (nI y1) (nI j) M = _
    unfold f_X4_find_72_b
    rw [e23, if_pos (nI_le (by omega) (by omega)), nI_1]
  | succ d ih =>
    intro F j M V hS hj hC hF
    obtain ⟨F, rfl⟩ : ∃ F', F = F' + 1 := ⟨F - 1, by omega⟩
    have e23 : M.1 23 0 = nI (nQ S) := by rw [k23, hS]; exact nQ_eq hQ
    have eB : f_X2_behind (nI j) (nI y1) M = some (oI (bhN S j y1)) := by
      have := ev_behind (M := M) (j := j) (a := y1) (by rw [hS]; exact hT) (by rw [hS]; exact hQ) (by rw [hS]; omega) hy1
      rw [hS] at this; exact this
    have step : ∀ (X : Mem) (W : Nat → Int32), St X = S → CN W X → (∀ i, W i = V i + E2 S y0 y1 j1 j i) → FN M X → ∃ M', f_X4_find_72 r28 (nI j1) (nI y0) (nI y1) F (nI (j + 1)) X = r28 (nI (j1 + 1)) M' ∧ CN (fun i => V i + sT (fun j2 => E2 S y0 y1 j1 j2 i) (d + 1) j) M' ∧ FN M M' := by
      intro X W hX hW hE hF
      obtain ⟨M', p1, p2, p3⟩ := ih F (j + 1) X W hX (by omega) hW (by omega)
      exact ⟨M', p1, CN_ext p2 (fun i => by rw [hE, sT_s, Int32.add_assoc]), hF.tr p3⟩
    have eX : f_X4_find_72 r28 (nI j1) (nI y0) (nI y1) (F + 1) (nI j) M = if oI (bhN S j y1) = -1 then f_X4_find_72 r28 (nI j1) (nI y0) (nI y1) F (nI (j + 1)) M else if oI (bhN S j y1) / 8 ≤ nI y0 / 8 then f_X4_find_72 r28 (nI j1) (nI y0) (nI y1) F (nI (j + 1)) M else cl (f_X4_close (nI j1) (nI j) (oI (bhN S j y1)) (nI y0) M) fun _ M1 => f_X4_find_72 r28 (nI j1) (nI y0) (nI y1) F (nI (j + 1)) M1 := by
      show f_X4_find_72_b r28 (f_X4_find_72 r28 (nI j1) (nI y0) (nI y1) F) (nI j1) (nI y0) (nI y1) (nI j) M = _
      unfold f_X4_find_72_b f_X4_find_120
      rw [e23, if_neg (nI_ge (by omega) (by omega)), eB, cp_s, nI_1]
    rw [eX]
    cases hb : bhN S j y1 with
    | none =>
      rw [if_pos (show oI none = -1 from rfl)]
      exact step M V hS hC (fun i => by unfold E2; rw [hb]; exact (Int32.add_zero _).symm) FN.rf
    | some v =>
      obtain ⟨hv48, -⟩ := bhN_lt hT hQ (show j < nQ S by omega) hb
      rw [if_neg (fun z => by have := (oI_none (b := some v) (fun x hx => by cases hx; exact hv48)).mp z; cases this)]
      show ∃ M', (if nI v / 8 ≤ nI y0 / 8 then _ else _) = _ ∧ _ ∧ _
      rw [(div8 v hv48).1, (div8 y0 h0).1]
      by_cases hd : y0 / 8 < v / 8
      · rw [if_neg (nI_ge hd (by omega))]
        obtain ⟨X, x1, x2, x3⟩ := close_go hT hQ (y0 := y0) (y2 := v) (j1 := j1) (j2 := j) h1 (by omega) h0 hv48 (nQ S) FU 0 M V hS (by omega) hC (FU_of (by omega))
        have x1' : f_X4_close (nI j1) (nI j) (oI (some v)) (nI y0) M = some ((), X) := x1
        have hXS : St X = S := by rw [St_Sc (FN_Sc x3), hS]
        obtain ⟨M', p1, p2, p3⟩ := step X _ hXS x2 (fun i => by unfold E2; rw [hb]; show _ = V i + (if y0 / 8 < v / 8 then _ else _); rw [if_pos hd]) x3
        exact ⟨M', by rw [x1', cl_s]; exact p1, p2, p3⟩
      · rw [if_pos (nI_le (by omega) (by omega))]
        exact step M V hS hC (fun i => by unfold E2; rw [hb]; show _ = V i + (if y0 / 8 < v / 8 then _ else _); rw [if_neg hd, Int32.add_zero]) FN.rf
theorem find_go {S : Nat → Nat → Int32} (hT : IvT S) (hQ : IvQ S) : ∀ (d F j : Nat) (M : Mem) (V : Nat → Int32), St M = S → j + d = nQ S → CN V M → d < F → ∃ M', f_X4_find_28 F (nI j) M = some ((), M') ∧ CN (fun i => V i + sT (fun j1 => E1 S j1 i) d j) M' ∧ FN M M' := by
  have h24 := nQ_le hQ
  intro d
  induction d with
  | zero =>
    intro F j M V hS hj hC hF
    obtain ⟨F, rfl⟩ : ∃ F', F = F' + 1 := ⟨F - 1, by omega⟩
    have e23 : M.1 23 0 = nI (nQ S) := by rw [k23, hS]; exact nQ_eq hQ
    refine ⟨M, ?_, CN_ext hC (fun i => (Int32.add_zero _).symm), FN.rf⟩
    show f_X4_find_28_b (f_X4_find_28 F) (nI j) M = _
    unfold f_X4_find_28_b
    rw [e23, if_pos (nI_le (by omega) (by omega))]
  | succ d ih =>
    intro F j M V hS hj hC hF
    obtain ⟨F, rfl⟩ : ∃ F', F = F' + 1 := ⟨F - 1, by omega⟩
    have e23 : M.1 23 0 = nI (nQ S) := by rw [k23, hS]; exact nQ_eq hQ
    obtain ⟨g1, g2, g3, g4, -⟩ := pAB hT hQ (show j < nQ S by omega)
    have m1 : (if nI (pB S j) < nI (pA S j) then nI (pB S j) else nI (pA S j)) = nI (mnP S j) := by
      unfold mnP
      by_cases h : pB S j < pA S j
      · rw [if_pos h, if_pos (nI_lt h (by omega))]
      · rw [if_neg h, if_neg (nI_nlt (by omega) (by omega))]
    have m2 : (if nI (pA S j) < nI (pB S j) then nI (pB S j) else nI (pA S j)) = nI (mxP S j) := by
      unfold mxP
      by_cases h : pA S j < pB S j
      · rw [if_pos h, if_pos (nI_lt h (by omega))]
      · rw [if_neg h, if_neg (nI_nlt (by omega) (by omega))]
    have l1 : mnP S j < 48 := by unfold mnP; split <;> omega
    have l2 : mxP S j < 48 := by unfold mxP; split <;> omega
    obtain ⟨X, x1, x2, x3⟩ := find72_go hT hQ (r28 := f_X4_find_28 F) (y0 := mnP S j) (y1 := mxP S j) (j1 := j) (by omega) l1 l2 (nQ S) FU 0 M V hS (by omega) hC (FU_of (by omega))
    have hXS : St X = S := by rw [St_Sc (FN_Sc x3), hS]
    obtain ⟨M', p1, p2, p3⟩ := ih F (j + 1) X _ hXS (by omega) x2 (by omega)
    refine ⟨M', ?_, CN_ext p2 (fun i => by rw [sT_s, ← Int32.add_assoc]; rfl), x3.tr p3⟩
    show f_X4_find_28_b (f_X4_find_28 F) (nI j) M = _
    unfold f_X4_find_28_b
    rw [e23, if_neg (nI_ge (by omega) (by omega)), rd_n (by omega), rd_n (by omega), rd_n (by omega), rd_n (by omega), k24, k25, hS, g1, g2, m1, m2]
    exact x1.trans p1
theorem ev_find {M : Mem} (hT : IvT (St M)) (hQ : IvQ (St M)) : ∃ M', f_X4_find M = some ((), M') ∧ CN (tot (St M)) M' ∧ FN M M' := by
  have h24 := nQ_le hQ
  let M4 := mfill (mfill (mset (mset M 96 0 0) 96 1 0) 97 24 0) 98 24 0
  have f4 : FN M M4 := fun c h1 h2 h3 => by
    show (mfill (mfill (mset (mset M 96 0 0) 96 1 0) 97 24 0) 98 24 0).1 c = _
    rw [mfill_ne h3, mfill_ne h2, mset_ne h1, mset_ne h1]
  have hS4 : St M4 = St M := St_Sc (FN_Sc f4)
  have c4 : CN (fun _ => 0) M4 := by
    refine ⟨?_, ?_, fun j hj => ⟨?_, ?_⟩⟩
    · show (mfill (mfill (mset (mset M 96 0 0) 96 1 0) 97 24 0) 98 24 0).1 96 0 = _
      rw [mfill_ne (by omega), mfill_ne (by omega), mset_at, if_neg (by omega), mset_at, if_pos ⟨rfl, rfl⟩]
    · show (mfill (mfill (mset (mset M 96 0 0) 96 1 0) 97 24 0) 98 24 0).1 96 1 = _
      rw [mfill_ne (by omega), mfill_ne (by omega), mset_at, if_pos ⟨rfl, rfl⟩]
    · show (mfill (mfill (mset (mset M 96 0 0) 96 1 0) 97 24 0) 98 24 0).1 97 j = _
      rw [mfill_ne (by omega), mfill_at, if_pos ⟨rfl, hj⟩]
    · show (mfill (mfill (mset (mset M 96 0 0) 96 1 0) 97 24 0) 98 24 0).1 98 j = _
      rw [mfill_at, if_pos ⟨rfl, hj⟩]
  obtain ⟨M', p1, p2, p3⟩ := find_go hT hQ (nQ (St M)) FU 0 M4 (fun _ => 0) hS4 (by omega) c4 (FU_of (by omega))
  refine ⟨M', ?_, CN_ext p2 (fun i => Int32.zero_add _), f4.tr p3⟩
  unfold f_X4_find
  rw [stm_s, stm_s, ev_fill (n := 24), cl_s, ev_fill (n := 24), cl_s]
  exact p1
