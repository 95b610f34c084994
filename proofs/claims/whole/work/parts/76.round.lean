/-! states alike, and going round -/
def QE (n : Nat) (Q Q' : Nat → Nat → Int32) : Prop := (∀ p, p < n → Q 0 p = Q' 0 p ∧ Q 1 p = Q' 1 p) ∧ ∀ f, f < 4 → Q 2 f = Q' 2 f
theorem sI_0 {f : Nat → Int32} {e : Nat} (he : e ≤ 10) : ∀ n, n ≤ 10 → (∀ i, i < n → ∃ m, m ≤ e ∧ f i = nI m) → sI f n = 0 → ∀ i, i < n → f i = 0 := by
  intro n
  induction n with
  | zero => intro _ _ _ i hi; omega
  | succ n ih =>
    intro hn h h0 i hi
    obtain ⟨a, ha, ea⟩ := sI_le (e := e) n (fun i hi => h i (by omega))
    obtain ⟨b, hb, eb⟩ := h n (by omega)
    have hab : e * n ≤ 100 := Nat.le_trans (Nat.mul_le_mul he (show n ≤ 10 by omega)) (by decide)
    rw [sI_s, ea, eb, nI_add] at h0
    have h00 := nI_inj (b := 0) (by omega) (by omega) h0
    by_cases hin : i = n
    · subst hin; rw [eb, show b = 0 by omega]; rfl
    · exact ih (by omega) (fun i hi => h i (by omega)) (by rw [ea, show a = 0 by omega]; rfl) i (by omega)
theorem unl_0 {n : Nat} {Q Q' : Nat → Nat → Int32} (hn : n ≤ 6) (h : QOk n Q) (h' : QOk n Q') : unl n Q Q' = 0 ↔ (∀ p, p < n → Q 0 p = Q' 0 p) ∧ ∀ f, f < 4 → Q 2 f = Q' 2 f := by
  have p1 : ∀ i, i < n → ∃ m, m ≤ 8 ∧ pbF Q Q' i = nI m := fun i hi => by
    obtain ⟨m, hm, e⟩ := bc_U (U_and (z := Q' 0 i ^^^ -1) (h.1 i hi).1)
    exact ⟨m, by omega, e⟩
  have p2 : ∀ i, i < n → ∃ m, m ≤ 8 ∧ pbF Q' Q i = nI m := fun i hi => by
    obtain ⟨m, hm, e⟩ := bc_U (U_and (z := Q 0 i ^^^ -1) (h'.1 i hi).1)
    exact ⟨m, by omega, e⟩
  have p3 : ∀ i, i < 4 → ∃ m, m ≤ 1 ∧ dfF Q Q' i = nI m := fun i hi => by
    unfold dfF
    split
    · exact ⟨0, by omega, rfl⟩
    · exact ⟨1, by omega, rfl⟩
  obtain ⟨a, ha, ea⟩ := sI_le n p1
  obtain ⟨b, hb, eb⟩ := sI_le n p2
  obtain ⟨c, hc, ec⟩ := sI_le 4 p3
  constructor
  · intro h0
    unfold unl at h0
    rw [ea, eb, ec, nI_add, nI_add] at h0
    have h00 := nI_inj (b := 0) (by omega) (by omega) h0
    have z1 := sI_0 (e := 8) (by omega) n (by omega) p1 (by rw [ea, show a = 0 by omega]; rfl)
    have z2 := sI_0 (e := 8) (by omega) n (by omega) p2 (by rw [eb, show b = 0 by omega]; rfl)
    have z3 := sI_0 (e := 1) (by omega) 4 (by omega) p3 (by rw [ec, show c = 0 by omega]; rfl)
    refine ⟨fun p hp => and_not_both (bc_0 (U_and (h.1 p hp).1) (z1 p hp)) (bc_0 (U_and (h'.1 p hp).1) (z2 p hp)), fun f hf => ?_⟩
    have := z3 f hf
    unfold dfF at this
    by_cases g : Q 2 f = Q' 2 f
    · exact g
    · rw [if_neg g] at this; exact absurd this (by decide)
  · intro ⟨h1, h2⟩
    have self : ∀ k, k < 256 → bcI (nI k &&& (nI k ^^^ -1)) = 0 := by decide +kernel
    have c1 : sI (pbF Q Q') n = sI (fun _ => 0) n := sI_cong n (fun i hi => by
      unfold pbF
      rw [← h1 i hi]
      obtain ⟨k, hk, e⟩ := (h.1 i hi).1
      rw [e]; exact self k hk)
    have c2 : sI (pbF Q' Q) n = sI (fun _ => 0) n := sI_cong n (fun i hi => by
      unfold pbF
      rw [h1 i hi]
      obtain ⟨k, hk, e⟩ := (h'.1 i hi).1
      rw [e]; exact self k hk)
    have c3 : sI (dfF Q Q') 4 = sI (fun _ => 0) 4 := sI_cong 4 (fun i hi => by
      unfold dfF
      rw [if_pos (h2 i hi)])
    have z : ∀ n, sI (fun _ => 0) n = 0 := by
      intro n
      induction n with
      | zero => rfl
      | succ n ih => rw [sI_s, ih]; rfl
    unfold unl
    rw [c1, c2, c3, z, z]; rfl
def soB (Q Q' : Nat → Nat → Int32) : Nat → Nat → Bool
  | 0, _ => true
  | d + 1, i => decide (Q 1 i = Q' 1 i) && soB Q Q' d (i + 1)
theorem soB_s {Q Q' : Nat → Nat → Int32} {d i : Nat} : soB Q Q' (d + 1) i = (decide (Q 1 i = Q' 1 i) && soB Q Q' d (i + 1)) := rfl
theorem soB_iff {Q Q' : Nat → Nat → Int32} : ∀ d i, soB Q Q' d i = true ↔ ∀ m, i ≤ m → m < i + d → Q 1 m = Q' 1 m := by
  intro d
  induction d with
  | zero => intro i; exact ⟨fun _ m h1 h2 => by omega, fun _ => rfl⟩
  | succ d ih =>
    intro i
    rw [soB_s, Bool.and_eq_true, ih]
    constructor
    · intro ⟨h1, h2⟩ m g1 g2
      by_cases e : m = i
      · subst e; exact of_decide_eq_true h1
      · exact h2 m (by omega) (by omega)
    · intro h
      exact ⟨decide_eq_true (h i (by omega) (by omega)), fun m g1 g2 => h m (by omega) (by omega)⟩
theorem sas_go {n k0 k1 : Nat} {Q Q' : Nat → Nat → Int32} {M : Mem} (hn : n ≤ 6) (h0 : CQ n k0 Q M) (h1 : CQ n k1 Q' M) : ∀ (d F i : Nat), i + d = n → d < F → f_X7_isSameAs_2 k0 k1 M F (nI i) = some (bI (soB Q Q' d i && decide (unl n Q Q' = 0))) := by
  intro d
  induction d with
  | zero =>
    intro F i hi hF
    obtain ⟨F, rfl⟩ : ∃ F', F = F' + 1 := ⟨F - 1, by omega⟩
    show f_X7_isSameAs_2_b k0 k1 M (f_X7_isSameAs_2 k0 k1 M F) (nI i) = _
    unfold f_X7_isSameAs_2_b
    rw [h0.1, h1.1, if_pos (nI_le (by omega) (by omega)), if_pos rfl, ev_unlikeness hn h0 h1, cp_s]
    by_cases h : unl n Q Q' = 0
    · rw [if_pos h, decide_eq_true h]; rfl
    · rw [if_neg h, decide_eq_false h]; rfl
  | succ d ih =>
    intro F i hi hF
    obtain ⟨F, rfl⟩ : ∃ F', F = F' + 1 := ⟨F - 1, by omega⟩
    show f_X7_isSameAs_2_b k0 k1 M (f_X7_isSameAs_2 k0 k1 M F) (nI i) = _
    unfold f_X7_isSameAs_2_b
    rw [h0.1, if_neg (nI_ge (by omega) (by omega)), rd_n (by omega), rd_n (by omega), (h0.2.1 i (by omega)).2, (h1.2.1 i (by omega)).2, nI_1, ih F (i + 1) (by omega) (by omega), soB_s]
    by_cases h : Q 1 i = Q' 1 i
    · rw [if_pos h, decide_eq_true h, Bool.true_and]
    · rw [if_neg h, decide_eq_false h, Bool.false_and, Bool.false_and]; rfl
theorem ev_sameAs {n k0 k1 : Nat} {Q Q' : Nat → Nat → Int32} {M : Mem} (hn : n ≤ 6) (hO : QOk n Q) (hO' : QOk n Q') (h0 : CQ n k0 Q M) (h1 : CQ n k1 Q' M) : ∃ b, f_X7_isSameAs k0 k1 M = some (bI b) ∧ (b = true ↔ QE n Q Q') := by
  refine ⟨_, sas_go hn h0 h1 n FU 0 (by omega) (FU_of (by omega)), ?_⟩
  rw [Bool.and_eq_true, soB_iff, decide_eq_true_iff, unl_0 hn hO hO']
  constructor
  · intro ⟨g1, g2, g3⟩
    exact ⟨fun p hp => ⟨g2 p hp, g1 p (by omega) (by omega)⟩, g3⟩
  · intro ⟨g1, g2⟩
    exact ⟨fun m _ hm => (g1 m (by omega)).2, fun p hp => (g1 p hp).1, g2⟩
def smB (A B : Nat → Int32) : Nat → Nat → Bool
  | 0, _ => true
  | d + 1, i => decide (A i = B i) && smB A B d (i + 1)
theorem smB_s {A B : Nat → Int32} {d i : Nat} : smB A B (d + 1) i = (decide (A i = B i) && smB A B d (i + 1)) := rfl
theorem smB_iff {A B : Nat → Int32} : ∀ d i, smB A B d i = true ↔ ∀ m, i ≤ m → m < i + d → A m = B m := by
  intro d
  induction d with
  | zero => intro i; exact ⟨fun _ m h1 h2 => by omega, fun _ => rfl⟩
  | succ d ih =>
    intro i
    rw [smB_s, Bool.and_eq_true, ih]
    constructor
    · intro ⟨h1, h2⟩ m g1 g2
      by_cases e : m = i
      · subst e; exact of_decide_eq_true h1
      · exact h2 m (by omega) (by omega)
    · intro h
      exact ⟨decide_eq_true (h i (by omega) (by omega)), fun m g1 g2 => h m (by omega) (by omega)⟩
theorem same_go {x y : Nat} {M : Mem} (hx : x < 64) (hy : y < 64) : ∀ (d F i : Nat) (b : Bool), i + d = 16 → d < F → f_X10_isSame_5 M (nI x) (nI y) F (bI b) (nI i) = some (bI (b && smB (fun q => M.1 124 (16 * x + q)) (fun q => M.1 124 (16 * y + q)) d i)) := by
  intro d
  induction d with
  | zero =>
    intro F i b hi hF
    obtain ⟨F, rfl⟩ : ∃ F', F = F' + 1 := ⟨F - 1, by omega⟩
    show f_X10_isSame_5_b M (f_X10_isSame_5 M (nI x) (nI y) F) (nI x) (nI y) (bI b) (nI i) = _
    unfold f_X10_isSame_5_b
    rw [if_pos (show (16 : Int32) ≤ nI i from nI_le (a := 16) (by omega) (by omega)), rz_bI]
    show some (bI b) = some (bI (b && true))
    rw [Bool.and_true]
  | succ d ih =>
    intro F i b hi hF
    obtain ⟨F, rfl⟩ : ∃ F', F = F' + 1 := ⟨F - 1, by omega⟩
    have i0 : f_X10_isSame_5 M (nI x) (nI y) F 0 (nI (i + 1)) = some (bI (false && smB (fun q => M.1 124 (16 * x + q)) (fun q => M.1 124 (16 * y + q)) d (i + 1))) := ih F (i + 1) false (by omega) (by omega)
    have i1 : f_X10_isSame_5 M (nI x) (nI y) F 1 (nI (i + 1)) = some (bI (true && smB (fun q => M.1 124 (16 * x + q)) (fun q => M.1 124 (16 * y + q)) d (i + 1))) := ih F (i + 1) true (by omega) (by omega)
    show f_X10_isSame_5_b M (f_X10_isSame_5 M (nI x) (nI y) F) (nI x) (nI y) (bI b) (nI i) = _
    unfold f_X10_isSame_5_b f_X10_isSame_47 f_X10_isSame_48
    rw [if_neg (show ¬ (16 : Int32) ≤ nI i from nI_ge (b := 16) (by omega) (by omega)), if_bI, i16, i16, nI_add, nI_add, rd_n (show 16 * x + i < 1024 by omega), rd_n (show 16 * y + i < 1024 by omega), nI_1, i0, i1, smB_s]
    cases b with
    | false => rfl
    | true =>
      rw [cond_t]
      by_cases h : M.1 124 (16 * x + i) = M.1 124 (16 * y + i)
      · rw [if_pos h, decide_eq_true h]; rfl
      · rw [if_neg h, decide_eq_false h]; rfl
theorem ev_same {n x y : Nat} {Q Q' : Nat → Nat → Int32} {M : Mem} (hx : x < 64) (hy : y < 64) (h0 : RQ n 124 (16 * x) Q M) (h1 : RQ n 124 (16 * y) Q' M) (hn : n ≤ 6) : ∃ b, f_X10_isSame (nI x) (nI y) M = some (bI b) ∧ (b = true ↔ QE n Q Q') := by
  refine ⟨_, same_go hx hy 16 FU 0 true (by omega) (FU_of (by omega)), ?_⟩
  rw [Bool.true_and, smB_iff]
  obtain ⟨a1, a2, a3⟩ := h0
  obtain ⟨b1, b2, b3⟩ := h1
  constructor
  · intro h
    refine ⟨fun p hp => ⟨?_, ?_⟩, fun f hf => ?_⟩
    · rw [← (a1 p hp).1, ← (b1 p hp).1]; exact h p (by omega) (by omega)
    · rw [← (a1 p hp).2, ← (b1 p hp).2, Nat.add_assoc, Nat.add_assoc]; exact h (6 + p) (by omega) (by omega)
    · rw [← a3 f hf, ← b3 f hf, Nat.add_assoc, Nat.add_assoc]; exact h (12 + f) (by omega) (by omega)
  · intro ⟨g1, g2⟩ m _ hm
    show M.1 124 (16 * x + m) = M.1 124 (16 * y + m)
    by_cases c1 : m < 6
    · by_cases c2 : m < n
      · rw [(a1 m c2).1, (b1 m c2).1]; exact (g1 m c2).1
      · rw [(a2 m (by omega) c1).1, (b2 m (by omega) c1).1]
    · by_cases c3 : m < 12
      · rw [show 16 * x + m = 16 * x + 6 + (m - 6) by omega, show 16 * y + m = 16 * y + 6 + (m - 6) by omega]
        by_cases c2 : m - 6 < n
        · rw [(a1 _ c2).2, (b1 _ c2).2]; exact (g1 _ c2).2
        · rw [(a2 _ (by omega) (by omega)).2, (b2 _ (by omega) (by omega)).2]
      · rw [show 16 * x + m = 16 * x + 12 + (m - 12) by omega, show 16 * y + m = 16 * y + 12 + (m - 12) by omega, a3 _ (by omega), b3 _ (by omega)]
        exact g2 _ (by omega)
/-! the states that rounds lead to -/
def RSt (S : Nat → Nat → Int32) (k : Int32) (a t : Nat) : Nat → Nat → Nat → Int32
  | 0 => Q0 S
  | j + 1 => stepQ S k a (stepQ S k t (RSt S k a t j))
theorem RSt_s {S : Nat → Nat → Int32} {k : Int32} {a t j : Nat} : RSt S k a t (j + 1) = stepQ S k a (stepQ S k t (RSt S k a t j)) := rfl
theorem RSt_ok {S : Nat → Nat → Int32} {k : Int32} {a t : Nat} (hT : IvT S) (hP : IvP S) (ha : a < nT S) (wa : 0 < nW S a) (ht : t < nT S) (wt : 0 < nW S t) : ∀ j, QOk (nP S) (RSt S k a t j) := by
  intro j
  induction j with
  | zero => exact Q0_ok hP
  | succ j ih => exact stepQ_ok hT ha wa (stepQ_ok hT ht wt ih)
def gRd (S : Nat → Nat → Int32) (k : Int32) (a t w : Nat) : Nat := chw S k (S 6 (8 * t + chw S k (S 6 (8 * a + w)) (S 7 (8 * a + w)) t)) (S 7 (8 * t + chw S k (S 6 (8 * a + w)) (S 7 (8 * a + w)) t)) a
def w0R (S : Nat → Nat → Int32) (k : Int32) (a t p : Nat) : Nat := chw S k (stepQ S k t (Q0 S) 0 p) (stepQ S k t (Q0 S) 1 p) a
theorem RSt_w {S : Nat → Nat → Int32} {k : Int32} {a t p : Nat} : ∀ j, RSt S k a t (j + 1) 0 p = S 6 (8 * a + itR (gRd S k a t) j (w0R S k a t p)) ∧ RSt S k a t (j + 1) 1 p = S 7 (8 * a + itR (gRd S k a t) j (w0R S k a t p)) := by
  intro j
  induction j with
  | zero => exact ⟨rfl, rfl⟩
  | succ j ih =>
    obtain ⟨h1, h2⟩ := ih
    have e : chw S k (stepQ S k t (RSt S k a t (j + 1)) 0 p) (stepQ S k t (RSt S k a t (j + 1)) 1 p) a = itR (gRd S k a t) (j + 1) (w0R S k a t p) := by
      show chw S k (S 6 (8 * t + chw S k (RSt S k a t (j + 1) 0 p) (RSt S k a t (j + 1) 1 p) t)) (S 7 (8 * t + chw S k (RSt S k a t (j + 1) 0 p) (RSt S k a t (j + 1) 1 p) t)) a = _
      rw [h1, h2]; rfl
    exact ⟨congrArg (fun z => S 6 (8 * a + z)) e, congrArg (fun z => S 7 (8 * a + z)) e⟩
def fr3 (c m : Bool) (l v : Int32) : Int32 := cond c (-1) (if v = -1 then cond m v l else v)
theorem frm_3 {S : Nat → Nat → Int32} {t f : Nat} {v : Int32} : frm S t f v = fr3 (decide ((S 3 t >>> (nI f &&& 31)) &&& 1 = 0)) (decide ((S 2 t >>> (nI f &&& 31)) &&& 1 = 0)) ((S 4 t >>> (nI f &&& 31)) &&& 1) v := by
  unfold frm fr3
  by_cases h1 : (S 3 t >>> (nI f &&& 31)) &&& 1 = 0
  · rw [if_pos h1, decide_eq_true h1, cond_t]
  · rw [if_neg h1, decide_eq_false h1, cond_f]
    by_cases h2 : (S 2 t >>> (nI f &&& 31)) &&& 1 = 0
    · rw [if_pos h2, decide_eq_true h2, cond_t]
    · rw [if_neg h2, decide_eq_false h2, cond_f]
theorem fr3_c {m : Bool} {l v : Int32} : fr3 true m l v = -1 := rfl
theorem fr3_i {l v : Int32} : fr3 false true l v = v := by
  show (if v = -1 then v else v) = v
  rw [ite_self]
theorem fr3_l {l v : Int32} : fr3 false false l v = if v = -1 then l else v := rfl
theorem fr3_twice {c1 m1 c2 m2 : Bool} {l1 l2 v : Int32} (h1 : l1 ≠ -1) (h2 : l2 ≠ -1) : fr3 c2 m2 l2 (fr3 c1 m1 l1 (fr3 c2 m2 l2 (fr3 c1 m1 l1 v))) = fr3 c2 m2 l2 (fr3 c1 m1 l1 v) := by
  cases c2 with
  | true => rfl
  | false =>
    cases m2 with
    | true =>
      rw [fr3_i, fr3_i]
      cases c1 with
      | true => rfl
      | false =>
        cases m1 with
        | true => rw [fr3_i, fr3_i]
        | false =>
          rw [fr3_l, fr3_l]
          by_cases hv : v = -1
          · rw [if_pos hv, if_neg h1]
          · rw [if_neg hv, if_neg hv]
    | false =>
      cases c1 with
      | true => rw [fr3_c, fr3_c]
      | false =>
        cases m1 with
        | true =>
          rw [fr3_i, fr3_i, fr3_l, fr3_l]
          by_cases hv : v = -1
          · rw [if_pos hv, if_neg h2]
          · rw [if_neg hv, if_neg hv]
        | false =>
          have n1 : fr3 false false l1 v ≠ -1 := by
            rw [fr3_l]
            by_cases hv : v = -1
            · rw [if_pos hv]; exact h1
            · rw [if_neg hv]; exact hv
          generalize fr3 false false l1 v = u at n1
          rw [fr3_l (l := l2) (v := u), if_neg n1, fr3_l (v := u), if_neg n1, fr3_l, if_neg n1]
theorem RSt_f {S : Nat → Nat → Int32} (hT : IvT S) {k : Int32} {a t f : Nat} (ha : a < nT S) (ht : t < nT S) (hf : f < 4) : ∀ j, RSt S k a t (j + 1) 2 f = RSt S k a t 1 2 f := by
  have bit : ∀ u, u < nT S → (S 4 u >>> (nI f &&& 31)) &&& 1 ≠ -1 := fun u hu => by
    obtain ⟨l, hl, el⟩ := (hT.2.2.1 u hu).2.2.1
    rw [el]
    rcases bit_tab l hl f hf with h | h <;> rw [h] <;> decide
  have e : ∀ j, RSt S k a t (j + 1) 2 f = frm S a f (frm S t f (RSt S k a t j 2 f)) := fun _ => rfl
  intro j
  induction j with
  | zero => rfl
  | succ j ih =>
    rw [e, ih, e 0, frm_3 (t := t), frm_3 (t := a), frm_3 (t := t), frm_3 (t := a)]
    exact fr3_twice (bit t ht) (bit a ha)
theorem round_ends {S : Nat → Nat → Int32} (hT : IvT S) {k : Int32} {a t n : Nat} (ha : a < nT S) (wa : 0 < nW S a) (ht : t < nT S) : ∃ J I, J ≤ 24 ∧ I < J ∧ QE n (RSt S k a t I) (RSt S k a t J) ∧ (∀ i, i < I → ¬ QE n (RSt S k a t i) (RSt S k a t J)) ∧ ∀ j, j < J → ∀ i, i < j → ¬ QE n (RSt S k a t i) (RSt S k a t j) := by
  have h6 : a < 6 := by have := nT_le hT; omega
  have h8 := nW_le hT h6
  have lt8 : ∀ p s, chw S k p s a < 8 := fun p s => by have := chw_lt (S := S) (k := k) (p := p) (s := s) wa; omega
  obtain ⟨L, l1, l2, l3⟩ := per_all (g := gRd S k a t) (fun x => lt8 _ _)
  obtain ⟨J, j1, ⟨i, i1, i2⟩, j3⟩ := nat_first (p := fun j => ∃ i, i < j ∧ QE n (RSt S k a t i) (RSt S k a t j)) (8 + L + 1) ⟨8 + 1, by omega, fun p _ => ⟨by
      rw [(RSt_w 8).1, (RSt_w (8 + L)).1, l3 (w0R S k a t p) (lt8 _ _)], by
      rw [(RSt_w 8).2, (RSt_w (8 + L)).2, l3 (w0R S k a t p) (lt8 _ _)]⟩, fun f hf => by rw [RSt_f hT ha ht hf 8, RSt_f hT ha ht hf (8 + L)]⟩
  obtain ⟨I, a1, a2, a3⟩ := nat_first (p := fun i => QE n (RSt S k a t i) (RSt S k a t J)) i i2
  exact ⟨J, I, by omega, by omega, a2, a3, fun j hj i hi h => j3 j hj ⟨i, hi, h⟩⟩
