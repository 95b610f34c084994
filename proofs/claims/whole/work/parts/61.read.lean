/-! reading, the other side -/
theorem cond_t {α : Type} {a b : α} : cond true a b = a := rfl
theorem cond_f {α : Type} {a b : α} : cond false a b = b := rfl
theorem cond_same {α : Type} {b : Bool} {a : α} : cond b a a = a := by cases b <;> rfl
def RS (M : Mem) : Rs → Prop
  | (n, d, q, s, T, K) => M.1 108 14 = nI n ∧ (∀ i, i < d → M.1 122 i = nI (s i)) ∧ (∀ j, j < n → j < 200 → M.1 121 (2 * j) = T j ∧ M.1 121 (2 * j + 1) = K j)
def FR (M M' : Mem) : Prop := (∀ c, c ≠ 108 → c ≠ 121 → c ≠ 122 → M'.1 c = M.1 c) ∧ ∀ j, j ≠ 14 → j ≠ 16 → M'.1 108 j = M.1 108 j
theorem FR.rf {M : Mem} : FR M M := ⟨fun _ _ _ _ => rfl, fun _ _ _ => rfl⟩
theorem FR.tr {M M1 M2 : Mem} (h : FR M M1) (g : FR M1 M2) : FR M M2 := ⟨fun c a b d => (g.1 c a b d).trans (h.1 c a b d), fun j a b => (g.2 j a b).trans (h.2 j a b)⟩
theorem FR.set {M M1 : Mem} {c i : Nat} {v : Int32} (h : FR M M1) (hc : c = 121 ∨ c = 122) : FR M (mset M1 c i v) := ⟨fun a h1 h2 h3 => by rw [mset_ne (by omega)]; exact h.1 a h1 h2 h3, fun j h1 h2 => by rw [mset_ne (by omega)]; exact h.2 j h1 h2⟩
theorem FR.pos {M M1 : Mem} {i : Nat} {v : Int32} (h : FR M M1) (hi : i = 14 ∨ i = 16) : FR M (mset M1 108 i v) := ⟨fun a h1 h2 h3 => by rw [mset_ne h1]; exact h.1 a h1 h2 h3, fun j h1 h2 => by rw [mset_at, if_neg (by omega)]; exact h.2 j h1 h2⟩
theorem St_FR {M M1 : Mem} (g : FR M M1) : St M1 = St M := St_sc (fun c c1 c2 => g.1 c (by omega) (by omega) (by omega))
theorem KK_FR {M M1 : Mem} (h : KK M) (g : FR M M1) : KK M1 := KK_sc h (fun c c1 c2 => g.1 c (by omega) (by omega) (by omega)) (fun c c1 c2 => g.1 c (by omega) (by omega) (by omega))
theorem RS_pos {M : Mem} {r : Rs} {v : Int32} (h : RS M r) : RS (mset M 108 16 v) r := by
  obtain ⟨n, d, q, s, T, K⟩ := r
  obtain ⟨h1, h4, h5⟩ := h
  refine ⟨?_, fun i hi => ?_, fun j hj hj2 => ?_⟩
  · rw [mset_at, if_neg (by omega), h1]
  · rw [mset_ne (by omega), h4 i hi]
  · rw [mset_ne (by omega)]; exact h5 j hj hj2
theorem i2 (x : Nat) : (2 : Int32) * nI x = nI (2 * x) := nI_mul 2 x
theorem R_puts {M : Mem} {S : Nat → Nat → Int32} {t k : Int32} {r : Rs} (h : RS M r) (hI : RI S r) : ∃ M', f_X10_puts t k M = some ((), M') ∧ RS M' (rA t k r) ∧ FR M M' ∧ M'.1 108 16 = M.1 108 16 := by
  obtain ⟨n, d, q, s, T, K⟩ := r
  obtain ⟨h1, h4, h5⟩ := h
  have hn : n ≤ 201 := hI.1
  unfold f_X10_puts
  rw [h1]
  by_cases e : n ≤ 200
  · rw [if_neg (show ¬ (200 : Int32) < nI n from nI_nlt (b := n) (a := 200) (by omega) (by omega)), i2, ck_n (by omega), stm_s, nI_clamp (by omega), mset_ne (by omega), h1, i2, ia1, ck_n (by omega), stm_s, nI_clamp (by omega), stm_s, mset_ne (by omega), mset_ne (by omega), h1, nI_1]
    refine ⟨_, rfl, ⟨?_, fun i hi => ?_, fun j hj hj2 => ?_⟩, ((FR.rf.set (by omega)).set (by omega)).pos (by omega), ?_⟩
    · rw [mset_at, if_pos ⟨rfl, rfl⟩, Nat.min_eq_right (by omega)]
    · rw [mset_ne (by omega), mset_ne (by omega), mset_ne (by omega), h4 i hi]
    · have hj' : j < min 201 (n + 1) := hj
      rw [mset_ne (by omega), mset_at, mset_at, mset_at, mset_at]
      by_cases e2 : j = n
      · subst e2
        rw [if_neg (by omega), if_pos ⟨rfl, rfl⟩, if_pos ⟨rfl, rfl⟩, upd_same, upd_same]; exact ⟨rfl, rfl⟩
      · rw [if_neg (by omega), if_neg (by omega), if_neg (by omega), if_neg (by omega), upd_ne e2, upd_ne e2]; exact h5 j (by omega) hj2
    · rw [mset_at, if_neg (by omega), mset_ne (by omega), mset_ne (by omega)]
  · rw [if_pos (show (200 : Int32) < nI n from nI_lt (a := 200) (by omega) (by omega))]
    refine ⟨M, rfl, ⟨?_, h4, fun j hj hj2 => ?_⟩, FR.rf, rfl⟩
    · rw [h1, Nat.min_eq_left (by omega)]; congr 1; omega
    · rw [upd_ne (by omega), upd_ne (by omega)]; exact h5 j (by omega) hj2
theorem R_again {S : Nat → Nat → Int32} {a e : Nat} {x2 x3 : Int32} (he : x3 * (x2 - 1) = nI e) (he2 : e < 100000) : ∀ (m F y : Nat) (M : Mem) (r : Rs), RS M r → RI S r → y + m = e → (m = 0 ∨ a + y < r.1) → m < F → ∃ M', f_X10_again_10 (nI a) x2 x3 F (nI y) M = some ((), M') ∧ RS M' (rRep m (a + y) r) ∧ FR M M' ∧ M'.1 108 16 = M.1 108 16 := by
  intro m
  induction m with
  | zero =>
    intro F y M r h hI hy _ hF
    obtain ⟨F, rfl⟩ : ∃ F', F = F' + 1 := ⟨F - 1, by omega⟩
    refine ⟨M, ?_, h, FR.rf, rfl⟩
    show f_X10_again_10_b (f_X10_again_10 (nI a) x2 x3 F) (nI a) x2 x3 (nI y) M = _
    unfold f_X10_again_10_b
    rw [he, if_pos (nI_le (by omega) (by omega))]
  | succ m ih =>
    intro F y M r h hI hy hn hF
    obtain ⟨F, rfl⟩ : ∃ F', F = F' + 1 := ⟨F - 1, by omega⟩
    have hx' : a + y < r.1 := by omega
    obtain ⟨n, d, q, s, T, K⟩ := r
    obtain ⟨h1, h4, h5⟩ := id h
    have hn201 : n ≤ 201 := hI.1
    have hxn : a + y < n := hx'
    rw [rRep_s]
    by_cases c1 : 200 < n
    · refine ⟨M, ?_, ?_, FR.rf, rfl⟩
      · show f_X10_again_10_b (f_X10_again_10 (nI a) x2 x3 F) (nI a) x2 x3 (nI y) M = _
        unfold f_X10_again_10_b
        rw [he, if_neg (nI_ge (by omega) (by omega)), h1, if_pos (show (200 : Int32) < nI n from nI_lt (a := 200) c1 (by omega))]
      · rw [if_pos (show 200 < (n, d, q, s, T, K).1 from c1)]; exact h
    · rw [if_neg (show ¬ 200 < (n, d, q, s, T, K).1 from c1)]
      obtain ⟨u1, u2⟩ := h5 (a + y) hxn (by omega)
      obtain ⟨v1, v2⟩ := hI.2.2.2.2 (a + y) hxn (by omega)
      obtain ⟨M1, g1, g2, g3, g4⟩ := R_puts (t := T (a + y)) (k := K (a + y)) h hI
      obtain ⟨M', p1, p2, p3, p4⟩ := ih F (y + 1) M1 _ g2 (RI_add hI v1 v2) (by omega) (Or.inr (by show a + (y + 1) < min 201 (n + 1); omega)) (by omega)
      refine ⟨M', ?_, p2, g3.tr p3, p4.trans g4⟩
      show f_X10_again_10_b (f_X10_again_10 (nI a) x2 x3 F) (nI a) x2 x3 (nI y) M = _
      unfold f_X10_again_10_b
      rw [he, if_neg (nI_ge (by omega) (by omega)), h1, if_neg (show ¬ (200 : Int32) < nI n from nI_nlt (b := n) (a := 200) (by omega) (by omega)), nI_add, i2, ia1, rd_n (by omega), rd_n (by omega), u1, u2, g1, cl_s, nI_1, p1]
def chr (S : Nat → Nat → Int32) (d p : Nat) : Int32 := if d = 0 then -1 else nI (cN S p)
theorem R_next_go {S : Nat → Nat → Int32} (hB : IvB S) : ∀ (d F p : Nat) (M : Mem), KK M → St M = S → p + d = nB S → M.1 108 16 = nI p → d < F → ∃ d' p' M', p' + d' = nB S ∧ f_X10_next_0 F M = some (chr S d' p', M') ∧ M'.1 108 16 = nI p' ∧ (d' = 0 ∨ cN S p' ≠ 32) ∧ (∀ r, rn S d p r = rn S d' p' r) ∧ d' ≤ d ∧ ((d = 0 ∨ cN S p ≠ 32) → d' = d ∧ p' = p) ∧ FR M M' ∧ ∀ r, RS M r → RS M' r := by
  have h60 := nB_le hB
  have e40 : ∀ (X : Mem) (d p : Nat), KK X → St X = S → p + d = nB S → X.1 108 16 = nI p → f_X10_next_40 X = some (chr S d p, X) := by
    intro X d p hX hS hp h16
    have e111 : X.1 111 0 = nI (nB S) := by rw [show X.1 111 0 = St X 13 0 from hX.2.2.2.1.1, hS]; exact nB_eq hB
    unfold f_X10_next_40 chr
    rw [e111, h16]
    by_cases hd : d = 0
    · rw [if_pos (nI_le (by omega) (by omega)), if_pos hd]
    · have e115 : X.1 115 p = nI (cN S p) := by
        have := hX.2.2.2.1.2 p (by rw [hS]; omega)
        rw [hS, (cN_eq hB (show p < nB S by omega)).1] at this
        simpa using this
      rw [if_neg (nI_ge (by omega) (by omega)), rd_n (by omega), e115, if_neg hd]
  intro d
  induction d with
  | zero =>
    intro F p M hK hS hp h16 hF
    obtain ⟨F, rfl⟩ : ∃ F', F = F' + 1 := ⟨F - 1, by omega⟩
    have e111 : M.1 111 0 = nI (nB S) := by rw [show M.1 111 0 = St M 13 0 from hK.2.2.2.1.1, hS]; exact nB_eq hB
    refine ⟨0, p, M, hp, ?_, h16, Or.inl rfl, fun r => rfl, Nat.le_refl _, fun _ => ⟨rfl, rfl⟩, FR.rf, fun r h => h⟩
    show f_X10_next_0_b (f_X10_next_0 F) M = _
    unfold f_X10_next_0_b
    rw [e111, h16, if_pos (nI_le (by omega) (by omega)), e40 M 0 p hK hS hp h16]
  | succ d ih =>
    intro F p M hK hS hp h16 hF
    obtain ⟨F, rfl⟩ : ∃ F', F = F' + 1 := ⟨F - 1, by omega⟩
    have e111 : M.1 111 0 = nI (nB S) := by rw [show M.1 111 0 = St M 13 0 from hK.2.2.2.1.1, hS]; exact nB_eq hB
    obtain ⟨c1, c2⟩ := cN_eq hB (show p < nB S by omega)
    have e115 : M.1 115 p = nI (cN S p) := by
      have := hK.2.2.2.1.2 p (by rw [hS]; omega)
      rw [hS, c1] at this
      simpa using this
    have eX : f_X10_next_0 (F + 1) M = if nI (cN S p) = (32 : Int32) then f_X10_next_0 F (mset M 108 16 (nI (p + 1))) else f_X10_next_40 M := by
      show f_X10_next_0_b (f_X10_next_0 F) M = _
      unfold f_X10_next_0_b
      rw [e111, h16, if_neg (nI_ge (by omega) (by omega)), rd_n (by omega), e115, nI_1]; rfl
    rw [eX]
    by_cases e : cN S p = 32
    · rw [if_pos (show nI (cN S p) = 32 by rw [e]; rfl)]
      have hf : FR M (mset M 108 16 (nI (p + 1))) := FR.rf.pos (by omega)
      obtain ⟨d', p', M', g1, g2, g3, g4, g5, g6, g7, g8, g9⟩ := ih F (p + 1) (mset M 108 16 (nI (p + 1))) (KK_FR hK hf) (by rw [St_FR hf, hS]) (by omega) (by rw [mset_at, if_pos ⟨rfl, rfl⟩]) (by omega)
      exact ⟨d', p', M', g1, g2, g3, g4, fun r => by rw [rn_b e, g5], by omega, fun z => absurd e (by omega), hf.tr g8, fun r h => g9 r (RS_pos h)⟩
    · rw [if_neg (show ¬ nI (cN S p) = 32 from fun z => e (nI_inj (b := 32) (by omega) (by omega) z)), e40 M (d + 1) p hK hS hp h16]
      exact ⟨d + 1, p, M, hp, rfl, h16, Or.inr e, fun r => rfl, Nat.le_refl _, fun _ => ⟨rfl, rfl⟩, FR.rf, fun r h => h⟩
theorem R_next {S : Nat → Nat → Int32} (hB : IvB S) {d p : Nat} {M : Mem} (hK : KK M) (hS : St M = S) (hp : p + d = nB S) (h16 : M.1 108 16 = nI p) : ∃ d' p' M', p' + d' = nB S ∧ f_X10_next M = some (chr S d' p', M') ∧ M'.1 108 16 = nI p' ∧ (d' = 0 ∨ cN S p' ≠ 32) ∧ (∀ r, rn S d p r = rn S d' p' r) ∧ d' ≤ d ∧ ((d = 0 ∨ cN S p ≠ 32) → d' = d ∧ p' = p) ∧ FR M M' ∧ ∀ r, RS M r → RS M' r := by
  have := nB_le hB
  exact R_next_go hB d FU p M hK hS hp h16 (FU_of (by omega))
theorem RS_ext {M : Mem} {n d q q' : Nat} {s : Nat → Nat} {T K K' : Nat → Int32} (h : RS M (n, d, q, s, T, K)) (e : ∀ j, j < n → j < 200 → K' j = K j) : RS M (n, d, q', s, T, K') := ⟨h.1, h.2.1, fun j hj hj2 => ⟨(h.2.2 j hj hj2).1, by rw [(h.2.2 j hj hj2).2, e j hj hj2]⟩⟩
theorem RS_sq {M : Mem} {q : Nat} {r : Rs} (h : RS M r) : RS M (sq q r) := by
  obtain ⟨n, d, q', s, T, K⟩ := r
  exact h
theorem rn_03 {S : Nat → Nat → Int32} {p n dp : Nat} {s : Nat → Nat} {T K : Nat → Int32} : rn S 0 p (n, dp, 3, s, T, K) = (nI (nB S), (n, dp, 3, s, T, K)) := by
  rw [rn_0, if_pos (show 0 < (n, dp, 3, s, T, K).2.1 ∨ (n, dp, 3, s, T, K).2.2.1 = 0 ∨ (n, dp, 3, s, T, K).2.2.1 = 3 from Or.inr (Or.inr rfl))]
theorem tk_e {S : Nat → Nat → Int32} {c n d q : Nat} {s : Nat → Nat} {T K : Nat → Int32} : tk S c (n, d, q, s, T, K) = (
    if q = 3 then (if 0 < d ∧ 49 ≤ c ∧ c ≤ 57 then some (sq 2 (rRep ((n - s (d - 1)) * (c - 49)) (s (d - 1)) (n, d - 1, q, s, T, K))) else none)
    else if c = 40 then (if d < 4 then some (n, d + 1, 0, (fun i => if i = d then n else s i), T, K) else none)
    else if c = 41 then (if d = 0 ∨ q = 0 then none else some (n, d, 3, s, T, K))
    else if 48 ≤ c ∧ c ≤ 57 then (if q = 1 ∧ c ≤ 53 then some (n, d, 2, s, T, upd K (n - 1) (nI (c - 48))) else none)
    else if spB S (nI c - 97) = true then some (sq 1 (rA (nI c - 97) 0 (n, d, q, s, T, K))) else none) := rfl
theorem spB_lt97 {S : Nat → Nat → Int32} (hT : IvT S) {c : Nat} (hc : c < 256) (h : ¬ (97 ≤ c ∧ c ≤ 102)) : spB S (nI c - 97) = false := by
  cases e : spB S (nI c - 97) with
  | false => rfl
  | true => exact absurd (spB_chr hT hc e) h
theorem R_go {S : Nat → Nat → Int32} (hT : IvT S) (hB : IvB S) : ∀ (N d F p : Nat) (M : Mem) (n dp q : Nat) (s : Nat → Nat) (T K : Nat → Int32), d ≤ N → KK M → St M = S → p + d = nB S → RS M (n, dp, q, s, T, K) → RI S (n, dp, q, s, T, K) → M.1 108 16 = nI p → (d = 0 ∨ cN S p ≠ 32) → q ≠ 3 → (q = 1 → d = 0 ∨ ¬ (48 ≤ cN S p ∧ cN S p ≤ 53)) → d < F → ∃ M', f_X10_reads_19 F (nI dp) (bI (decide (q ≠ 0))) (chr S d p) M = some ((rn S d p (n, dp, q, s, T, K)).1, M') ∧ ((rn S d p (n, dp, q, s, T, K)).1 = -1 → RS M' (rn S d p (n, dp, q, s, T, K)).2) ∧ FR M M' := by
  have h60 := nB_le hB
  intro N
  induction N with
  | zero =>
    intro d F p M n dp q s T K hN hK hS hp h hI h16 hb hq3 hq1 hF
    obtain rfl : d = 0 := by omega
    obtain ⟨F, rfl⟩ : ∃ F', F = F' + 1 := ⟨F - 1, by omega⟩
    have e111 : M.1 111 0 = nI (nB S) := by rw [show M.1 111 0 = St M 13 0 from hK.2.2.2.1.1, hS]; exact nB_eq hB
    have hdp : dp ≤ 4 := hI.2.1
    refine ⟨M, ?_, fun _ => h, FR.rf⟩
    show f_X10_reads_19_b (f_X10_reads_19 F) (nI dp) (bI (decide (q ≠ 0))) (chr S 0 p) M = _
    unfold f_X10_reads_19_b f_X10_reads_240 chr
    rw [if_pos rfl, if_pos (by decide), e111, rn_0, if_bI]
    simp only
    by_cases c1 : 0 < dp
    · rw [if_pos (show (0 : Int32) < nI dp from nI_lt (a := 0) c1 (by omega)), if_pos (Or.inl c1)]
    · rw [if_neg (show ¬ (0 : Int32) < nI dp from nI_nlt (b := dp) (a := 0) (by omega) (by omega))]
      by_cases c2 : q = 0
      · rw [if_pos (Or.inr (Or.inl c2)), decide_eq_false (fun z => z c2)]; rfl
      · rw [if_neg (by omega), decide_eq_true c2]; rfl
  | succ N ih =>
    intro d F p M n dp q s T K hN hK hS hp h hI h16 hb hq3 hq1 hF
    cases d with
    | zero => exact ih 0 F p M n dp q s T K (by omega) hK hS hp h hI h16 hb hq3 hq1 hF
    | succ d =>
    obtain ⟨F, rfl⟩ : ∃ F', F = F' + 1 := ⟨F - 1, by omega⟩
    have hdp : dp ≤ 4 := hI.2.1
    have hn201 : n ≤ 201 := hI.1
    obtain ⟨h1, h4, h5⟩ := id h
    obtain ⟨c1, c2⟩ := cN_eq hB (show p < nB S by omega)
    have h32 : cN S p ≠ 32 := by omega
    have hM1f : FR M (mset M 108 16 (nI (p + 1))) := FR.rf.pos (by omega)
    have hM1K : KK (mset M 108 16 (nI (p + 1))) := KK_FR hK hM1f
    have hM1S : St (mset M 108 16 (nI (p + 1))) = S := by rw [St_FR hM1f, hS]
    have hM1R : RS (mset M 108 16 (nI (p + 1))) (n, dp, q, s, T, K) := RS_pos h
    have hM1p : (mset M 108 16 (nI (p + 1))).1 108 16 = nI (p + 1) := by rw [mset_at, if_pos ⟨rfl, rfl⟩]
    -- the faults at p
    have flt : ∀ X, tk S (cN S p) (n, dp, q, s, T, K) = none → FR M X → ∃ M', some (nI p, X) = some ((rn S (d + 1) p (n, dp, q, s, T, K)).1, M') ∧ ((rn S (d + 1) p (n, dp, q, s, T, K)).1 = -1 → RS M' (rn S (d + 1) p (n, dp, q, s, T, K)).2) ∧ FR M M' := by
      intro X ht hX
      rw [rn_n h32 ht]
      refine ⟨X, rfl, fun z => absurd z ?_, hX⟩
      have : ∀ k, k ≤ 60 → ¬ nI k = -1 := by decide +kernel
      exact this p (by omega)
    have eX : f_X10_reads_19 (F + 1) (nI dp) (bI (decide (q ≠ 0))) (chr S (d + 1) p) M = cond (decide (97 ≤ cN S p ∧ cN S p ≤ 102)) (cond (spB S (nI (cN S p) - 97)) (cl (f_X10_next (mset M 108 16 (nI (p + 1)))) fun v3 M2 => cond (inR v3 48 53) (f_X10_reads_93 (f_X10_reads_19 F) (nI dp) (nI (cN S p)) v3 1 1 (M2.1 108 16) M2) (f_X10_reads_93 (f_X10_reads_19 F) (nI dp) (nI (cN S p)) v3 0 0 (M2.1 108 16) M2)) (f_X10_reads_124 (f_X10_reads_19 F) (nI dp) (bI (decide (q ≠ 0))) (nI (cN S p)) (nI p) (mset M 108 16 (nI (p + 1))))) (f_X10_reads_124 (f_X10_reads_19 F) (nI dp) (bI (decide (q ≠ 0))) (nI (cN S p)) (nI p) (mset M 108 16 (nI (p + 1)))) := by
      rw [show chr S (d + 1) p = nI (cN S p) from if_neg (by omega)]
      show f_X10_reads_19_b (f_X10_reads_19 F) (nI dp) (bI (decide (q ≠ 0))) (nI (cN S p)) M = _
      unfold f_X10_reads_19_b
      rw [if_neg (nI_pos (by omega)), h16, nI_1, stm_s, ev_between, show inR (nI (cN S p)) 97 102 = decide (97 ≤ cN S p ∧ cN S p ≤ 102) from inR_dec (a := 97) (b := 102) (by omega) (by omega) (by omega), cp_s, if_bI, ev_speaks hM1K, hM1S, cp_s, if_bI]
      have e93 : (fun (v3 : Int32) (M2 : Mem) => cp (f_X10_between v3 48 53 M2) fun v4 => if v4 = 0 then f_X10_reads_93 (f_X10_reads_19 F) (nI dp) (nI (cN S p)) v3 v4 0 (M2.1 108 16) M2 else f_X10_reads_93 (f_X10_reads_19 F) (nI dp) (nI (cN S p)) v3 v4 1 (M2.1 108 16) M2) = fun v3 M2 => cond (inR v3 48 53) (f_X10_reads_93 (f_X10_reads_19 F) (nI dp) (nI (cN S p)) v3 1 1 (M2.1 108 16) M2) (f_X10_reads_93 (f_X10_reads_19 F) (nI dp) (nI (cN S p)) v3 0 0 (M2.1 108 16) M2) := by
        funext v3 M2
        rw [ev_between, cp_s, if_bI]
        cases inR v3 48 53
        · rw [cond_f, cond_f, bI_f]
        · rw [cond_t, cond_t, bI_t]
      rw [e93]
    rw [eX]
    by_cases cl1 : spB S (nI (cN S p) - 97) = true
    · -- a letter
      have hc := spB_chr hT c2 cl1
      rw [decide_eq_true hc, cl1, cond_t, cond_t]
      have ht : tk S (cN S p) (n, dp, q, s, T, K) = some (sq 1 (rA (nI (cN S p) - 97) 0 (n, dp, q, s, T, K))) := by
        unfold tk
        simp only
        rw [if_neg hq3, if_neg (by omega), if_neg (by omega), if_neg (by omega), if_pos cl1]
      rw [rn_k h32 ht]
      obtain ⟨d2, p2, M2, a1, a2, a3, a4, a5, a6, a7, a8, a9⟩ := R_next hB hM1K hM1S (show p + 1 + d = nB S by omega) hM1p
      have hM2K : KK M2 := KK_FR hM1K a8
      have hM2S : St M2 = S := by rw [St_FR a8, hM1S]
      have hM2f : FR M M2 := hM1f.tr a8
      have hI1 : RI S (sq 1 (rA (nI (cN S p) - 97) 0 (n, dp, q, s, T, K))) := RI_tk hI ht
      rw [a5, a2, cl_s, a3]
      unfold f_X10_reads_93 f_X10_reads_116 f_X10_reads_224
      by_cases kd : d2 ≠ 0 ∧ 48 ≤ cN S p2 ∧ cN S p2 ≤ 53
      · obtain ⟨k1, k2, k3⟩ := kd
        obtain ⟨f, rfl⟩ : ∃ f, d2 = f + 1 := ⟨d2 - 1, by omega⟩
        have hchr : chr S (f + 1) p2 = nI (cN S p2) := if_neg (by omega)
        have hc2 := (cN_eq hB (show p2 < nB S by omega)).2
        rw [hchr, show inR (nI (cN S p2)) 48 53 = decide (48 ≤ cN S p2 ∧ cN S p2 ≤ 53) from inR_dec (a := 48) (b := 53) (by omega) (by omega) (by omega), decide_eq_true ⟨k2, k3⟩, cond_t, stm_s, if_neg (by decide), nI_1, show nI (cN S p2) - 48 = nI (cN S p2 - 48) from nI_sub (b := 48) k2]
        have hM3R : RS (mset M2 108 16 (nI (p2 + 1))) (n, dp, q, s, T, K) := RS_pos (a9 _ hM1R)
        obtain ⟨M4, b1, b2, b3, b4⟩ := R_puts (t := nI (cN S p) - 97) (k := nI (cN S p2 - 48)) hM3R hI
        have hM4f : FR M M4 := (hM2f.pos (by omega)).tr b3
        have hM4p : M4.1 108 16 = nI (p2 + 1) := by rw [b4, mset_at, if_pos ⟨rfl, rfl⟩]
        have ht2 : tk S (cN S p2) (sq 1 (rA (nI (cN S p) - 97) 0 (n, dp, q, s, T, K))) = some (min 201 (n + 1), dp, 2, s, upd T n (nI (cN S p) - 97), upd (upd K n 0) (min 201 (n + 1) - 1) (nI (cN S p2 - 48))) := by
          show tk S (cN S p2) (min 201 (n + 1), dp, 1, s, upd T n (nI (cN S p) - 97), upd K n 0) = _
          rw [tk_e, if_neg (by omega), if_neg (by omega), if_neg (by omega), if_pos (by omega), if_pos ⟨rfl, k3⟩]
        rw [rn_k (by omega) ht2]
        obtain ⟨d3, p3, M5, e1, e2, e3, e4, e5, e6, e7, e8, e9⟩ := R_next hB (KK_FR hK hM4f) (by rw [St_FR hM4f, hS]) (show p2 + 1 + f = nB S by omega) hM4p
        have hM5f : FR M M5 := hM4f.tr e8
        have hR5 : RS M5 (min 201 (n + 1), dp, 2, s, upd T n (nI (cN S p) - 97), upd (upd K n 0) (min 201 (n + 1) - 1) (nI (cN S p2 - 48))) := by
          refine RS_ext (e9 _ b2) (fun j hj hj2 => ?_)
          by_cases ej : j = n
          · have : min 201 (n + 1) - 1 = n := by omega
            rw [this, ej, upd_same, upd_same]
          · have : j ≠ min 201 (n + 1) - 1 := by omega
            rw [upd_ne this, upd_ne ej, upd_ne ej]
        obtain ⟨M', g1, g2, g3⟩ := ih d3 F p3 M5 _ _ _ _ _ _ (by omega) (KK_FR hK hM5f) (by rw [St_FR hM5f, hS]) e1 hR5 (RI_tk hI1 ht2) e3 e4 (by omega) (fun z => by omega) (by omega)
        rw [e5, b1, cl_s, e2, cl_s]
        exact ⟨M', g1, g2, hM5f.tr g3⟩
      · have hin : inR (chr S d2 p2) 48 53 = false := by
          unfold chr
          by_cases k1 : d2 = 0
          · rw [if_pos k1]; decide
          · have hc2 := (cN_eq hB (show p2 < nB S by omega)).2
            rw [if_neg k1, show inR (nI (cN S p2)) 48 53 = decide (48 ≤ cN S p2 ∧ cN S p2 ≤ 53) from inR_dec (a := 48) (b := 53) (by omega) (by omega) (by omega), decide_eq_false (fun z => kd ⟨k1, z⟩)]
        rw [hin, cond_f, stm_s, if_pos rfl, Int32.add_zero]
        have hM3R : RS (mset M2 108 16 (nI p2)) (n, dp, q, s, T, K) := RS_pos (a9 _ hM1R)
        obtain ⟨M4, b1, b2, b3, b4⟩ := R_puts (t := nI (cN S p) - 97) (k := 0) hM3R hI
        have hM4f : FR M M4 := (hM2f.pos (by omega)).tr b3
        have hM4p : M4.1 108 16 = nI p2 := by rw [b4, mset_at, if_pos ⟨rfl, rfl⟩]
        obtain ⟨d3, p3, M5, e1, e2, e3, e4, e5, e6, e7, e8, e9⟩ := R_next hB (KK_FR hK hM4f) (by rw [St_FR hM4f, hS]) a1 hM4p
        obtain ⟨rfl, rfl⟩ := e7 a4
        have hM5f : FR M M5 := hM4f.tr e8
        have hR5 := e9 _ (RS_sq (q := 1) b2)
        obtain ⟨M', g1, g2, g3⟩ := ih d3 F p3 M5 _ _ _ _ _ _ (by omega) (KK_FR hK hM5f) (by rw [St_FR hM5f, hS]) e1 hR5 hI1 e3 e4 (by omega) (fun _ => by
          by_cases k1 : d3 = 0
          · exact Or.inl k1
          · exact Or.inr (fun z => kd ⟨k1, z⟩)) (by omega)
        rw [b1, cl_s, e2, cl_s]
        exact ⟨M', g1, g2, hM5f.tr g3⟩
    · -- no letter
      rw [Bool.not_eq_true] at cl1
      have e124 : (cond (decide (97 ≤ cN S p ∧ cN S p ≤ 102)) (cond (spB S (nI (cN S p) - 97)) (cl (f_X10_next (mset M 108 16 (nI (p + 1)))) fun v3 M2 => cond (inR v3 48 53) (f_X10_reads_93 (f_X10_reads_19 F) (nI dp) (nI (cN S p)) v3 1 1 (M2.1 108 16) M2) (f_X10_reads_93 (f_X10_reads_19 F) (nI dp) (nI (cN S p)) v3 0 0 (M2.1 108 16) M2)) (f_X10_reads_124 (f_X10_reads_19 F) (nI dp) (bI (decide (q ≠ 0))) (nI (cN S p)) (nI p) (mset M 108 16 (nI (p + 1))))) (f_X10_reads_124 (f_X10_reads_19 F) (nI dp) (bI (decide (q ≠ 0))) (nI (cN S p)) (nI p) (mset M 108 16 (nI (p + 1))))) = f_X10_reads_124 (f_X10_reads_19 F) (nI dp) (bI (decide (q ≠ 0))) (nI (cN S p)) (nI p) (mset M 108 16 (nI (p + 1))) := by
        rw [cl1, cond_f, cond_same]
      rw [e124]
      unfold f_X10_reads_124 f_X10_reads_153 f_X10_reads_224
      by_cases o1 : cN S p = 40
      · rw [if_pos (show nI (cN S p) = 40 by rw [o1]; rfl)]
        by_cases o2 : dp < 4
        · rw [if_neg (show ¬ (4 : Int32) ≤ nI dp from nI_ge (b := 4) o2 (by omega)), ck_n (by omega), stm_s, nI_clamp (by omega), nI_1, show (mset M 108 16 (nI (p + 1))).1 108 14 = nI n from hM1R.1]
          have ht : tk S (cN S p) (n, dp, q, s, T, K) = some (n, dp + 1, 0, (fun i => if i = dp then n else s i), T, K) := by
            unfold tk
            simp only
            rw [if_neg hq3, if_pos o1, if_pos o2]
          rw [rn_k h32 ht]
          have hM2f : FR M (mset (mset M 108 16 (nI (p + 1))) 122 dp (nI n)) := hM1f.set (by omega)
          have hM2R : RS (mset (mset M 108 16 (nI (p + 1))) 122 dp (nI n)) (n, dp + 1, 0, (fun i => if i = dp then n else s i), T, K) := by
            refine ⟨by rw [mset_ne (by omega)]; exact hM1R.1, fun i hi => ?_, fun j hj hj2 => ?_⟩
            · rw [mset_at]
              by_cases e4 : i = dp
              · rw [if_pos ⟨rfl, e4⟩]; exact congrArg nI (if_pos e4).symm
              · rw [if_neg (by omega), hM1R.2.1 i (by omega)]; exact congrArg nI (if_neg e4).symm
            · rw [mset_ne (by omega)]; exact hM1R.2.2 j hj hj2
          obtain ⟨d3, p3, M5, e1, e2, e3, e4, e5, e6, e7, e8, e9⟩ := R_next hB (KK_FR hK hM2f) (by rw [St_FR hM2f, hS]) (show p + 1 + d = nB S by omega) (by rw [mset_ne (by omega)]; exact hM1p)
          have hM5f : FR M M5 := hM2f.tr e8
          obtain ⟨M', g1, g2, g3⟩ := ih d3 F p3 M5 _ _ _ _ _ _ (by omega) (KK_FR hK hM5f) (by rw [St_FR hM5f, hS]) e1 (e9 _ hM2R) (RI_tk hI ht) e3 e4 (by omega) (fun z => by omega) (by omega)
          rw [e5, e2, cl_s]
          exact ⟨M', g1, g2, hM5f.tr g3⟩
        · rw [if_pos (show (4 : Int32) ≤ nI dp from nI_le (a := 4) (by omega) (by omega)), if_neg (show ¬ nI (cN S p) = 41 by rw [o1]; decide)]
          refine flt _ ?_ hM1f
          unfold tk
          simp only
          rw [if_neg hq3, if_pos o1, if_neg o2]
      · rw [if_neg (show ¬ nI (cN S p) = 40 from fun z => o1 (nI_inj (b := 40) (by omega) (by omega) z))]
        by_cases o2 : cN S p = 41
        · rw [if_pos (show nI (cN S p) = 41 by rw [o2]; rfl)]
          by_cases o3 : dp = 0
          · rw [if_pos (show nI dp ≤ 0 by rw [o3]; decide)]
            refine flt _ ?_ hM1f
            unfold tk
            simp only
            rw [if_neg hq3, if_neg o1, if_pos o2, if_pos (Or.inl o3)]
          · rw [if_neg (show ¬ nI dp ≤ 0 from nI_nle (by omega) (by omega)), if_bI]
            by_cases o4 : q = 0
            · rw [decide_eq_false (fun z => z o4)]
              refine flt _ ?_ hM1f
              unfold tk
              simp only
              rw [if_neg hq3, if_neg o1, if_pos o2, if_pos (Or.inr o4)]
            · rw [decide_eq_true o4]
              simp only [cond]
              have ht : tk S (cN S p) (n, dp, q, s, T, K) = some (n, dp, 3, s, T, K) := by
                unfold tk
                simp only
                rw [if_neg hq3, if_neg o1, if_pos o2, if_neg (by omega)]
              rw [rn_k h32 ht]
              obtain ⟨d2, p2, M2, a1, a2, a3, a4, a5, a6, a7, a8, a9⟩ := R_next hB hM1K hM1S (show p + 1 + d = nB S by omega) hM1p
              have hM2f : FR M M2 := hM1f.tr a8
              have hI1 : RI S (n, dp, 3, s, T, K) := RI_tk hI ht
              rw [a5, a2, cl_s, ev_between, cp_s, if_bI, a3]
              cases d2 with
              | zero =>
                rw [show inR (chr S 0 p2) 49 57 = false by unfold chr; rw [if_pos rfl]; decide, cond_f, rn_03]
                refine ⟨M2, by rw [show p2 = nB S by omega], fun z => absurd z ?_, hM2f⟩
                have : ∀ k, k ≤ 60 → ¬ nI k = -1 := by decide +kernel
                exact this _ h60
              | succ f =>
                have hchr : chr S (f + 1) p2 = nI (cN S p2) := if_neg (by omega)
                have hc2 := (cN_eq hB (show p2 < nB S by omega)).2
                rw [hchr, show inR (nI (cN S p2)) 49 57 = decide (49 ≤ cN S p2 ∧ cN S p2 ≤ 57) from inR_dec (a := 49) (b := 57) (by omega) (by omega) (by omega)]
                by_cases k1 : 49 ≤ cN S p2 ∧ cN S p2 ≤ 57
                · rw [decide_eq_true k1, cond_t]
                  have hs := hI.2.2.2.1 (dp - 1) (by omega)
                  have hmul : (n - s (dp - 1)) * (cN S p2 - 49) ≤ 201 * 8 := Nat.mul_le_mul (by omega) (by omega)
                  have hRa : RS (mset M2 108 16 (nI (p2 + 1))) (n, dp - 1, 3, s, T, K) := by
                    have := RS_pos (v := nI (p2 + 1)) (a9 _ hM1R)
                    exact ⟨this.1, fun i hi => this.2.1 i (by omega), this.2.2⟩
                  have hIa : RI S (n, dp - 1, 3, s, T, K) := ⟨hI.1, by omega, by omega, fun i hi => hI.2.2.2.1 i (by omega), hI.2.2.2.2⟩
                  rw [nI_1, stm_s, add_m1, nI_sub1 (show 1 ≤ dp by omega), rd_n (by omega), show (mset M2 108 16 (nI (p2 + 1))).1 122 (dp - 1) = nI (s (dp - 1)) by
                    rw [mset_ne (by omega)]; exact (a9 _ hM1R).2.1 _ (by omega), show nI (cN S p2) - 48 = nI (cN S p2 - 48) from nI_sub (b := 48) (by omega)]
                  unfold f_X10_again
                  rw [show (mset M2 108 16 (nI (p2 + 1))).1 108 14 = nI n from hRa.1, nI_sub hs]
                  obtain ⟨M4, b1, b2, b3, b4⟩ := R_again (S := S) (a := s (dp - 1)) (x2 := nI (cN S p2 - 48)) (x3 := nI (n - s (dp - 1))) (e := (n - s (dp - 1)) * (cN S p2 - 49)) (by rw [nI_sub1 (by omega), nI_mul, show cN S p2 - 48 - 1 = cN S p2 - 49 by omega]) (by omega) ((n - s (dp - 1)) * (cN S p2 - 49)) FU 0 _ _ hRa hIa (by omega) (by
                    rcases Nat.lt_or_ge (s (dp - 1)) n with hl | hl
                    · exact Or.inr hl
                    · left; rw [show n - s (dp - 1) = 0 by omega, Nat.zero_mul]) (FU_of (by omega))
                  have hM4f : FR M M4 := (hM2f.pos (by omega)).tr b3
                  have hM4p : M4.1 108 16 = nI (p2 + 1) := by rw [b4, mset_at, if_pos ⟨rfl, rfl⟩]
                  have ht2 : tk S (cN S p2) (n, dp, 3, s, T, K) = some (sq 2 (rRep ((n - s (dp - 1)) * (cN S p2 - 49)) (s (dp - 1)) (n, dp - 1, 3, s, T, K))) := by
                    rw [tk_e]
                    rw [if_pos rfl, if_pos ⟨by omega, k1⟩]
                  rw [rn_k (by omega) ht2]
                  obtain ⟨d3, p3, M5, e1, e2, e3, e4, e5, e6, e7, e8, e9⟩ := R_next hB (KK_FR hK hM4f) (by rw [St_FR hM4f, hS]) (show p2 + 1 + f = nB S by omega) hM4p
                  have hM5f : FR M M5 := hM4f.tr e8
                  have hR5 := e9 _ (RS_sq (q := 2) b2)
                  have hI5 := RI_tk hI1 ht2
                  rw [Nat.add_zero] at hR5
                  have hdq : ∀ (m x : Nat) (r : Rs), (rRep m x r).2.1 = r.2.1 := by
                    intro m
                    induction m with
                    | zero => intro x r; rfl
                    | succ m ihm => intro x r; rw [rRep_s]; split; rfl; rw [ihm]; rfl
                  have hd2 := hdq ((n - s (dp - 1)) * (cN S p2 - 49)) (s (dp - 1)) (n, dp - 1, 3, s, T, K)
                  have e10 : f_X10_again_10 (nI (s (dp - 1))) (nI (cN S p2 - 48)) (nI (n - s (dp - 1))) FU 0 (mset M2 108 16 (nI (p2 + 1))) = some ((), M4) := b1
                  rw [e5, e10, cl_s, e2, cl_s]
                  generalize hr : rRep ((n - s (dp - 1)) * (cN S p2 - 49)) (s (dp - 1)) (n, dp - 1, 3, s, T, K) = r5 at *
                  obtain ⟨n5, d5, q5, s5, T5, K5⟩ := r5
                  have hd2' : d5 = dp - 1 := hd2
                  subst hd2'
                  obtain ⟨M', g1, g2, g3⟩ := ih d3 F p3 M5 _ _ _ _ _ _ (by omega) (KK_FR hK hM5f) (by rw [St_FR hM5f, hS]) e1 hR5 hI5 e3 e4 (by omega) (fun z => by omega) (by omega)
                  exact ⟨M', g1, g2, hM5f.tr g3⟩
                · rw [decide_eq_false k1, cond_f]
                  have ht2 : tk S (cN S p2) (n, dp, 3, s, T, K) = none := by
                    rw [tk_e]
                    rw [if_pos rfl, if_neg (fun z => k1 z.2)]
                  rw [rn_n (by omega) ht2]
                  refine ⟨M2, rfl, fun z => absurd z ?_, hM2f⟩
                  have : ∀ k, k ≤ 60 → ¬ nI k = -1 := by decide +kernel
                  exact this _ (by omega)
        · rw [if_neg (show ¬ nI (cN S p) = 41 from fun z => o2 (nI_inj (b := 41) (by omega) (by omega) z))]
          refine flt _ ?_ hM1f
          unfold tk
          simp only
          rw [if_neg hq3, if_neg o1, if_neg o2]
          by_cases o3 : 48 ≤ cN S p ∧ cN S p ≤ 57
          · rw [if_pos o3, if_neg]
            intro z
            have := hq1 z.1
            omega
          · rw [if_neg o3, cl1, if_neg (by decide)]
theorem ev_reads {M : Mem} (hK : KK M) : ∃ M', f_X10_reads M = some ((rdS (St M)).1, M') ∧ ((rdS (St M)).1 = -1 → RS M' (rdS (St M)).2) ∧ FR M M' := by
  have hT := hK.1.1
  have hB := hK.1.2.2.1
  have h60 := nB_le hB
  have hf : FR M (mset (mset M 108 16 0) 108 14 0) := (FR.rf.pos (by omega)).pos (by omega)
  have h0 : RS (mset (mset M 108 16 0) 108 14 0) rd0 := ⟨by rw [mset_at, if_pos ⟨rfl, rfl⟩]; rfl, fun i hi => absurd hi (by omega), fun j hj => absurd hj (by omega)⟩
  obtain ⟨d2, p2, M2, a1, a2, a3, a4, a5, a6, a7, a8, a9⟩ := R_next hB (KK_FR hK hf) (St_FR hf) (show 0 + nB (St M) = nB (St M) by omega) (by rw [mset_at, if_neg (by omega), mset_at, if_pos ⟨rfl, rfl⟩]; rfl)
  have hM2f : FR M M2 := hf.tr a8
  obtain ⟨M', g1, g2, g3⟩ := R_go hT hB d2 d2 FU p2 M2 _ _ _ _ _ _ (Nat.le_refl _) (KK_FR hK hM2f) (St_FR hM2f) a1 (a9 _ h0) RI_0 a3 a4 (by omega) (fun z => by omega) (FU_of (by omega))
  unfold rdS
  rw [a5]
  refine ⟨M', ?_, g2, hM2f.tr g3⟩
  unfold f_X10_reads
  rw [stm_s, stm_s, a2, cl_s]
  exact g1
