/-! reading a text: what it tells -/
abbrev Rs := Nat × Nat × Nat × (Nat → Nat) × (Nat → Int32) × (Nat → Int32)
def cN (S : Nat → Nat → Int32) (j : Nat) : Nat := (S 14 j).toNatClampNeg
theorem cN_eq {S : Nat → Nat → Int32} (hB : IvB S) {j : Nat} (h : j < nB S) : S 14 j = nI (cN S j) ∧ cN S j < 256 := by
  obtain ⟨k, hk, e⟩ := hB.2 j h
  unfold cN
  rw [e, nI_clamp (by omega)]
  exact ⟨rfl, hk⟩
def rA (t k : Int32) : Rs → Rs
  | (n, d, q, s, T, K) => (min 201 (n + 1), d, q, s, upd T n t, upd K n k)
def sq (q : Nat) : Rs → Rs
  | (n, d, _, s, T, K) => (n, d, q, s, T, K)
def rRep : Nat → Nat → Rs → Rs
  | 0, _, r => r
  | m + 1, x, r => if 200 < r.1 then r else rRep m (x + 1) (rA (r.2.2.2.2.1 x) (r.2.2.2.2.2 x) r)
theorem rRep_s {m x : Nat} {r : Rs} : rRep (m + 1) x r = if 200 < r.1 then r else rRep m (x + 1) (rA (r.2.2.2.2.1 x) (r.2.2.2.2.2 x) r) := rfl
def tk (S : Nat → Nat → Int32) (c : Nat) : Rs → Option Rs
  | (n, d, q, s, T, K) =>
    if q = 3 then (if 0 < d ∧ 49 ≤ c ∧ c ≤ 57 then some (sq 2 (rRep ((n - s (d - 1)) * (c - 49)) (s (d - 1)) (n, d - 1, q, s, T, K))) else none)
    else if c = 40 then (if d < 4 then some (n, d + 1, 0, (fun i => if i = d then n else s i), T, K) else none)
    else if c = 41 then (if d = 0 ∨ q = 0 then none else some (n, d, 3, s, T, K))
    else if 48 ≤ c ∧ c ≤ 57 then (if q = 1 ∧ c ≤ 53 then some (n, d, 2, s, T, upd K (n - 1) (nI (c - 48))) else none)
    else if spB S (nI c - 97) = true then some (sq 1 (rA (nI c - 97) 0 (n, d, q, s, T, K))) else none
def rn (S : Nat → Nat → Int32) : Nat → Nat → Rs → Int32 × Rs
  | 0, _, r => (if 0 < r.2.1 ∨ r.2.2.1 = 0 ∨ r.2.2.1 = 3 then nI (nB S) else -1, r)
  | e + 1, p, r => if cN S p = 32 then rn S e (p + 1) r else match tk S (cN S p) r with
    | none => (nI p, r)
    | some r' => rn S e (p + 1) r'
theorem rn_0 {S : Nat → Nat → Int32} {p : Nat} {r : Rs} : rn S 0 p r = (if 0 < r.2.1 ∨ r.2.2.1 = 0 ∨ r.2.2.1 = 3 then nI (nB S) else -1, r) := rfl
theorem rn_b {S : Nat → Nat → Int32} {e p : Nat} {r : Rs} (h : cN S p = 32) : rn S (e + 1) p r = rn S e (p + 1) r := by
  show (if cN S p = 32 then _ else _) = _
  rw [if_pos h]
theorem rn_n {S : Nat → Nat → Int32} {e p : Nat} {r : Rs} (h : cN S p ≠ 32) (g : tk S (cN S p) r = none) : rn S (e + 1) p r = (nI p, r) := by
  show (if cN S p = 32 then _ else _) = _
  rw [if_neg h, g]
theorem rn_k {S : Nat → Nat → Int32} {e p : Nat} {r r' : Rs} (h : cN S p ≠ 32) (g : tk S (cN S p) r = some r') : rn S (e + 1) p r = rn S e (p + 1) r' := by
  show (if cN S p = 32 then _ else _) = _
  rw [if_neg h, g]
def RI (S : Nat → Nat → Int32) : Rs → Prop
  | (n, d, q, s, T, K) => n ≤ 201 ∧ d ≤ 4 ∧ q ≤ 3 ∧ (∀ i, i < d → s i ≤ n) ∧ (∀ j, j < n → j < 200 → spB S (T j) = true ∧ U 6 (K j))
theorem RI_add {S : Nat → Nat → Int32} {t k : Int32} {r : Rs} (h : RI S r) (ht : spB S t = true) (hk : U 6 k) : RI S (rA t k r) := by
  obtain ⟨n, d, q, s, T, K⟩ := r
  obtain ⟨h1, h2, h3, h4, h5⟩ := h
  refine ⟨Nat.min_le_left _ _, h2, h3, fun i hi => ?_, fun j hj hj2 => ?_⟩
  · have := h4 i hi
    show s i ≤ min 201 (n + 1)
    omega
  · have hj' : j < min 201 (n + 1) := hj
    by_cases e : j = n
    · subst e
      rw [upd_same, upd_same]; exact ⟨ht, hk⟩
    · rw [upd_ne e, upd_ne e]; exact h5 j (by omega) hj2
theorem RI_sq {S : Nat → Nat → Int32} {q : Nat} {r : Rs} (h : RI S r) (hq : q ≤ 3) : RI S (sq q r) := by
  obtain ⟨n, d, q', s, T, K⟩ := r
  exact ⟨h.1, h.2.1, hq, h.2.2.2⟩
theorem RI_rep {S : Nat → Nat → Int32} : ∀ (m x : Nat) (r : Rs), RI S r → (m = 0 ∨ x < r.1) → RI S (rRep m x r) := by
  intro m
  induction m with
  | zero => intro x r h _; exact h
  | succ m ih =>
    intro x r h hx
    rw [rRep_s]
    by_cases hn : 200 < r.1
    · rw [if_pos hn]; exact h
    · rw [if_neg hn]
      have hx' : x < r.1 := by omega
      obtain ⟨n, d, q, s, T, K⟩ := r
      have h5 := h.2.2.2.2 x hx' (by have : x < n := hx'; have : ¬ 200 < n := hn; omega)
      refine ih (x + 1) _ (RI_add h h5.1 h5.2) (Or.inr ?_)
      show x + 1 < min 201 (n + 1)
      have : x < n := hx'
      have : ¬ 200 < n := hn
      omega
theorem spB_chr {S : Nat → Nat → Int32} (hT : IvT S) {c : Nat} (hc : c < 256) (h : spB S (nI c - 97) = true) : 97 ≤ c ∧ c ≤ 102 := by
  obtain ⟨t, ht, -, e⟩ := (spB_iff hT).mp h
  have h6 := nT_le hT
  have : nI c = nI (t + 97) := by
    have : nI c - 97 + 97 = nI t + 97 := by rw [e]
    rw [Int32.sub_add_cancel] at this
    rw [this]; exact nI_add t 97
  have := nI_inj (by omega) (by omega) this
  omega
theorem RI_tk {S : Nat → Nat → Int32} {c : Nat} {r r' : Rs} (h : RI S r) (g : tk S c r = some r') : RI S r' := by
  obtain ⟨n, d, q, s, T, K⟩ := r
  obtain ⟨h1, h2, h3, h4, h5⟩ := id h
  unfold tk at g
  simp only at g
  by_cases e1 : q = 3
  · rw [if_pos e1] at g
    by_cases e2 : 0 < d ∧ 49 ≤ c ∧ c ≤ 57
    · rw [if_pos e2] at g
      cases g
      refine RI_sq (RI_rep _ _ _ ⟨h1, by omega, h3, fun i hi => h4 i (by omega), h5⟩ ?_) (by omega)
      have := h4 (d - 1) (by omega)
      rcases Nat.lt_or_ge (s (d - 1)) n with hl | hl
      · exact Or.inr hl
      · left; rw [show n - s (d - 1) = 0 by omega, Nat.zero_mul]
    · rw [if_neg e2] at g; cases g
  · rw [if_neg e1] at g
    by_cases e2 : c = 40
    · rw [if_pos e2] at g
      by_cases e3 : d < 4
      · rw [if_pos e3] at g; cases g
        refine ⟨h1, by omega, by omega, fun i hi => ?_, h5⟩
        show (if i = d then n else s i) ≤ n
        by_cases e : i = d
        · rw [if_pos e]; exact Nat.le_refl _
        · rw [if_neg e]; exact h4 i (by omega)
      · rw [if_neg e3] at g; cases g
    · rw [if_neg e2] at g
      by_cases e3 : c = 41
      · rw [if_pos e3] at g
        by_cases e4 : d = 0 ∨ q = 0
        · rw [if_pos e4] at g; cases g
        · rw [if_neg e4] at g; cases g
          exact ⟨h1, h2, by omega, h4, h5⟩
      · rw [if_neg e3] at g
        by_cases e4 : 48 ≤ c ∧ c ≤ 57
        · rw [if_pos e4] at g
          by_cases e5 : q = 1 ∧ c ≤ 53
          · rw [if_pos e5] at g; cases g
            refine ⟨h1, h2, by omega, h4, fun j hj hj2 => ⟨(h5 j hj hj2).1, ?_⟩⟩
            by_cases e : j = n - 1
            · rw [← e, upd_same]; exact ⟨c - 48, by omega, rfl⟩
            · rw [upd_ne e]; exact (h5 j hj hj2).2
          · rw [if_neg e5] at g; cases g
        · rw [if_neg e4] at g
          by_cases e5 : spB S (nI c - 97) = true
          · rw [if_pos e5] at g; cases g
            exact RI_sq (RI_add h e5 ⟨0, by omega, rfl⟩) (by omega)
          · rw [if_neg e5] at g; cases g
/-! the reading of the one -/
def XS (M : Mem) : Rs → Prop
  | (n, d, q, s, T, K) => M.1 68 0 = -1 ∧ M.1 68 1 = nI n ∧ M.1 68 2 = nI q ∧ M.1 68 3 = nI d ∧ (∀ i, i < d → M.1 69 i = nI (s i)) ∧ (∀ j, j < n → j < 200 → M.1 70 j = T j ∧ M.1 71 j = K j)
def FX (M M' : Mem) : Prop := ∀ c, c < 68 ∨ 71 < c → M'.1 c = M.1 c
theorem FX.rf {M : Mem} : FX M M := fun _ _ => rfl
theorem FX.tr {M M1 M2 : Mem} (h : FX M M1) (g : FX M1 M2) : FX M M2 := fun c hc => (g c hc).trans (h c hc)
theorem FX.set {M M1 : Mem} {c i : Nat} {v : Int32} (h : FX M M1) (hc : 68 ≤ c ∧ c ≤ 71) : FX M (mset M1 c i v) := fun a ha => by
  rw [mset_ne (by omega)]; exact h a ha
theorem St_FX {M M1 : Mem} (g : FX M M1) : St M1 = St M := St_sc (fun c c1 c2 => g c (by omega))
theorem X_add {M : Mem} {S : Nat → Nat → Int32} {t k : Int32} {r : Rs} (h : XS M r) (hI : RI S r) : ∃ M', f_X5_addStep t k M = some ((), M') ∧ XS M' (rA t k r) ∧ FX M M' := by
  obtain ⟨n, d, q, s, T, K⟩ := r
  obtain ⟨h0, h1, h2, h3, h4, h5⟩ := h
  have hn : n ≤ 201 := hI.1
  have e30 : ∀ X : Mem, X.1 68 1 = nI n → f_X5_addStep_30 X = some ((), mset X 68 1 (nI (min 201 (n + 1)))) := by
    intro X hX
    unfold f_X5_addStep_30
    rw [hX, nI_1, stm_s]
    by_cases e : n ≤ 200
    · rw [if_neg (show ¬ (201 : Int32) < nI (n + 1) from nI_nlt (b := n + 1) (a := 201) (by omega) (by omega)), Nat.min_eq_right (by omega)]
    · rw [if_pos (show (201 : Int32) < nI (n + 1) from nI_lt (a := 201) (by omega) (by omega)), Nat.min_eq_left (by omega)]; rfl
  unfold f_X5_addStep
  by_cases e : n < 200
  · rw [h1, if_neg (show ¬ (200 : Int32) ≤ nI n from nI_ge (b := 200) e (by omega)), ck_n e, stm_s, nI_clamp (by omega), mset_ne (by omega), h1, ck_n e, stm_s, nI_clamp (by omega), e30 _ (by rw [mset_ne (by omega), mset_ne (by omega), h1])]
    refine ⟨_, rfl, ⟨?_, ?_, ?_, ?_, fun i hi => ?_, fun j hj hj2 => ?_⟩, ((FX.rf.set (by omega)).set (by omega)).set (by omega)⟩
    · rw [mset_at, if_neg (by omega), mset_ne (by omega), mset_ne (by omega), h0]
    · rw [mset_at, if_pos ⟨rfl, rfl⟩]
    · rw [mset_at, if_neg (by omega), mset_ne (by omega), mset_ne (by omega), h2]
    · rw [mset_at, if_neg (by omega), mset_ne (by omega), mset_ne (by omega), h3]
    · rw [mset_ne (by omega), mset_ne (by omega), mset_ne (by omega), h4 i hi]
    · have hj' : j < min 201 (n + 1) := hj
      rw [mset_ne (by omega), mset_ne (by omega), mset_at, mset_ne (show 71 ≠ 68 by omega), mset_at, mset_ne (by omega)]
      by_cases e2 : j = n
      · rw [if_pos ⟨rfl, e2⟩, if_pos ⟨rfl, e2⟩, e2, upd_same, upd_same]; exact ⟨rfl, rfl⟩
      · rw [if_neg (by omega), if_neg (by omega), upd_ne e2, upd_ne e2]; exact h5 j (by omega) hj2
  · rw [h1, if_pos (show (200 : Int32) ≤ nI n from nI_le (a := 200) (by omega) (by omega)), e30 _ h1]
    refine ⟨_, rfl, ⟨?_, ?_, ?_, ?_, fun i hi => ?_, fun j hj hj2 => ?_⟩, FX.rf.set (by omega)⟩
    · rw [mset_at, if_neg (by omega), h0]
    · rw [mset_at, if_pos ⟨rfl, rfl⟩]
    · rw [mset_at, if_neg (by omega), h2]
    · rw [mset_at, if_neg (by omega), h3]
    · rw [mset_ne (by omega), h4 i hi]
    · have hj' : j < min 201 (n + 1) := hj
      rw [mset_ne (by omega), mset_ne (by omega), upd_ne (by omega), upd_ne (by omega)]; exact h5 j (by omega) hj2
theorem XS_sq {M : Mem} {q : Nat} {r : Rs} (h : XS M r) : XS (mset M 68 2 (nI q)) (sq q r) := by
  obtain ⟨n, d, q', s, T, K⟩ := r
  obtain ⟨h0, h1, h2, h3, h4, h5⟩ := h
  refine ⟨?_, ?_, ?_, ?_, fun i hi => ?_, fun j hj hj2 => ?_⟩
  · rw [mset_at, if_neg (by omega), h0]
  · rw [mset_at, if_neg (by omega), h1]
  · rw [mset_at, if_pos ⟨rfl, rfl⟩]
  · rw [mset_at, if_neg (by omega), h3]
  · rw [mset_ne (by omega), h4 i hi]
  · rw [mset_ne (by omega), mset_ne (by omega)]; exact h5 j hj hj2
theorem X_rep {S : Nat → Nat → Int32} {x2 x3 : Int32} {e : Nat} (he : x2 + x3 = nI e) (he2 : e < 100000) : ∀ (m F x : Nat) (M : Mem) (r : Rs), XS M r → RI S r → x + m = e → (m = 0 ∨ x < r.1) → m < F → ∃ M', f_X5_takesRounds_55 x2 x3 F (nI x) M = some (1, M') ∧ XS M' (sq 2 (rRep m x r)) ∧ FX M M' := by
  intro m
  induction m with
  | zero =>
    intro F x M r h hI hx _ hF
    obtain ⟨F, rfl⟩ : ∃ F', F = F' + 1 := ⟨F - 1, by omega⟩
    refine ⟨mset M 68 2 (nI 2), ?_, XS_sq h, FX.rf.set (by omega)⟩
    show f_X5_takesRounds_55_b (f_X5_takesRounds_55 x2 x3 F) x2 x3 (nI x) M = _
    unfold f_X5_takesRounds_55_b
    rw [he, if_pos (nI_le (by omega) (by omega))]; rfl
  | succ m ih =>
    intro F x M r h hI hx hn hF
    obtain ⟨F, rfl⟩ : ∃ F', F = F' + 1 := ⟨F - 1, by omega⟩
    have hx' : x < r.1 := by omega
    obtain ⟨n, d, q, s, T, K⟩ := r
    obtain ⟨h0, h1, h2, h3, h4, h5⟩ := id h
    have hn201 : n ≤ 201 := hI.1
    have hxn : x < n := hx'
    rw [rRep_s]
    by_cases c1 : 200 < n
    · refine ⟨mset M 68 2 (nI 2), ?_, ?_, FX.rf.set (by omega)⟩
      · show f_X5_takesRounds_55_b (f_X5_takesRounds_55 x2 x3 F) x2 x3 (nI x) M = _
        unfold f_X5_takesRounds_55_b
        rw [he, if_neg (nI_ge (by omega) (by omega)), h1, if_pos (show (200 : Int32) < nI n from nI_lt (a := 200) c1 (by omega))]; rfl
      · rw [if_pos (show 200 < (n, d, q, s, T, K).1 from c1)]; exact XS_sq h
    · rw [if_neg (show ¬ 200 < (n, d, q, s, T, K).1 from c1)]
      obtain ⟨u1, u2⟩ := h5 x hxn (by omega)
      obtain ⟨v1, v2⟩ := hI.2.2.2.2 x hxn (by omega)
      obtain ⟨M1, g1, g2, g3⟩ := X_add (t := T x) (k := K x) h hI
      obtain ⟨M', p1, p2, p3⟩ := ih F (x + 1) M1 _ g2 (RI_add hI v1 v2) (by omega) (Or.inr (by show x + 1 < min 201 (n + 1); omega)) (by omega)
      refine ⟨M', ?_, p2, g3.tr p3⟩
      show f_X5_takesRounds_55_b (f_X5_takesRounds_55 x2 x3 F) x2 x3 (nI x) M = _
      unfold f_X5_takesRounds_55_b
      rw [he, if_neg (nI_ge (by omega) (by omega)), h1, if_neg (show ¬ (200 : Int32) < nI n from nI_nlt (b := n) (a := 200) (by omega) (by omega)), if_neg (show ¬ (200 : Int32) ≤ nI x from nI_ge (b := 200) (by omega) (by omega)), rd_n (by omega), rd_n (by omega), u1, u2, g1, cl_s, nI_1, p1]
theorem inR_dec {c a b : Nat} (hc : c < 1000) (ha : a < 1000) (hb : b < 1000) : inR (nI c) (nI a) (nI b) = decide (a ≤ c ∧ c ≤ b) := by
  unfold inR
  rw [← Bool.decide_and]
  apply decide_eq_decide.mpr
  rw [nI_leI (by omega) (by omega), nI_leI (by omega) (by omega)]
theorem nI_sub {a b : Nat} (h : b ≤ a) : nI a - nI b = nI (a - b) := by
  obtain ⟨c, rfl⟩ : ∃ c, a = b + c := ⟨a - b, by omega⟩
  rw [← nI_add, Int32.add_comm, Int32.add_sub_cancel]
  congr 1; omega
theorem X_takes {M : Mem} {c : Nat} {r : Rs} (hT : IvT (St M)) (h : XS M r) (hI : RI (St M) r) (hc : c < 256) : (tk (St M) c r = none → f_X5_takes (nI c) M = some (0, M)) ∧ ∀ r', tk (St M) c r = some r' → ∃ M', f_X5_takes (nI c) M = some (1, M') ∧ XS M' r' ∧ FX M M' := by
  obtain ⟨n, d, q, s, T, K⟩ := r
  obtain ⟨h0, h1, h2, h3, h4, h5⟩ := id h
  obtain ⟨w1, w2, w3, w4, w5⟩ := id hI
  unfold tk
  simp only
  unfold f_X5_takes
  rw [h2]
  by_cases e1 : q = 3
  · rw [if_pos e1, if_pos (show nI q = 3 by rw [e1]; rfl)]
    unfold f_X5_takesRounds
    rw [h3]
    by_cases e2 : 0 < d ∧ 49 ≤ c ∧ c ≤ 57
    · rw [if_pos e2, if_neg (nI_ne0 e2.1 (by omega)), ev_isIn, show (49 : Int32) = nI 49 from rfl, show (57 : Int32) = nI 57 from rfl, inR_dec (by omega) (by omega) (by omega), decide_eq_true ⟨e2.2.1, e2.2.2⟩, cp_s, if_bI]
      refine ⟨(fun g => by cases g), fun r' g => ?_⟩
      cases g
      simp only [cond]
      rw [nI_sub1 (by omega), stm_s]
      have hX : XS (mset M 68 3 (nI (d - 1))) (n, d - 1, q, s, T, K) := by
        refine ⟨?_, ?_, ?_, ?_, fun i hi => ?_, fun j hj hj2 => ?_⟩
        · rw [mset_at, if_neg (by omega), h0]
        · rw [mset_at, if_neg (by omega), h1]
        · rw [mset_at, if_neg (by omega), h2]
        · rw [mset_at, if_pos ⟨rfl, rfl⟩]
        · rw [mset_ne (by omega), h4 i (by omega)]
        · rw [mset_ne (by omega), mset_ne (by omega)]; exact h5 j hj hj2
      have hs := w4 (d - 1) (by omega)
      have hmul : (n - s (d - 1)) * (c - 49) ≤ 201 * 8 := Nat.mul_le_mul (by omega) (by omega)
      have hI' : RI (St M) (n, d - 1, q, s, T, K) := ⟨w1, by omega, w3, fun i hi => w4 i (by omega), w5⟩
      have a1 : (mset M 68 3 (nI (d - 1))).1 68 3 = nI (d - 1) := hX.2.2.2.1
      have a2 : (mset M 68 3 (nI (d - 1))).1 69 (d - 1) = nI (s (d - 1)) := by rw [mset_ne (by omega), h4 _ (by omega)]
      have a3 : (mset M 68 3 (nI (d - 1))).1 68 1 = nI n := hX.2.1
      rw [a1, rd_n (show d - 1 < 4 by omega), a2, a3, nI_sub hs, nI_sub e2.2.1, nI_mul]
      obtain ⟨M', g1, g2, g3⟩ := X_rep (S := St M) (x2 := nI (s (d - 1))) (x3 := nI ((n - s (d - 1)) * (c - 49))) (e := s (d - 1) + (n - s (d - 1)) * (c - 49)) (nI_add _ _) (by omega) ((n - s (d - 1)) * (c - 49)) FU (s (d - 1)) _ _ hX hI' rfl (by
        rcases Nat.lt_or_ge (s (d - 1)) n with hl | hl
        · exact Or.inr hl
        · left; rw [show n - s (d - 1) = 0 by omega, Nat.zero_mul]) (FU_of (by omega))
      rw [g1, cl_s]
      exact ⟨M', rfl, g2, (FX.rf.set (by omega)).tr g3⟩
    · rw [if_neg e2]
      refine ⟨fun _ => ?_, fun r' g => by cases g⟩
      by_cases e3 : d = 0
      · rw [if_pos (show nI d = 0 by rw [e3]; rfl)]; rfl
      · rw [if_neg (nI_ne0 (by omega) (by omega)), ev_isIn, show (49 : Int32) = nI 49 from rfl, show (57 : Int32) = nI 57 from rfl, inR_dec (by omega) (by omega) (by omega), decide_eq_false (by omega), cp_s, if_bI]; rfl
  · rw [if_neg e1, if_neg (show ¬ nI q = 3 from fun z => e1 (nI_inj (b := 3) (by omega) (by omega) z))]
    by_cases e2 : c = 40
    · rw [if_pos e2, if_pos (show nI c = 40 by rw [e2]; rfl)]
      unfold f_X5_takesOpening
      rw [h3]
      by_cases e3 : d < 4
      · rw [if_pos e3, if_pos (show nI d < 4 from nI_lt (b := 4) e3 (by omega))]
        refine ⟨(fun g => by cases g), fun r' g => ?_⟩
        cases g
        rw [ck_n e3, stm_s, nI_clamp (by omega), mset_ne (by omega), h3, h1, nI_1, stm_s, stm_s]
        refine ⟨_, rfl, ⟨?_, ?_, ?_, ?_, fun i hi => ?_, fun j hj hj2 => ?_⟩, ((FX.rf.set (by omega)).set (by omega)).set (by omega)⟩
        · rw [mset_at, if_neg (by omega), mset_at, if_neg (by omega), mset_ne (by omega), h0]
        · rw [mset_at, if_neg (by omega), mset_at, if_neg (by omega), mset_ne (by omega), h1]
        · rw [mset_at, if_pos ⟨rfl, rfl⟩]; rfl
        · rw [mset_at, if_neg (by omega), mset_at, if_pos ⟨rfl, rfl⟩]
        · rw [mset_ne (by omega), mset_ne (by omega), mset_at]
          by_cases e4 : i = d
          · rw [if_pos ⟨rfl, e4⟩]; exact congrArg nI (if_pos e4).symm
          · rw [if_neg (by omega), h4 i (by omega)]; exact congrArg nI (if_neg e4).symm
        · rw [mset_ne (by omega), mset_ne (by omega), mset_ne (by omega), mset_ne (show 71 ≠ 68 by omega), mset_ne (show 71 ≠ 68 by omega), mset_ne (by omega)]; exact h5 j hj hj2
      · rw [if_neg e3, if_neg (show ¬ nI d < 4 from nI_nlt (a := d) (b := 4) (by omega) (by omega))]
        exact ⟨fun _ => rfl, fun r' g => by cases g⟩
    · rw [if_neg e2, if_neg (show ¬ nI c = 40 from fun z => e2 (nI_inj (b := 40) (by omega) (by omega) z))]
      by_cases e3 : c = 41
      · rw [if_pos e3, if_pos (show nI c = 41 by rw [e3]; rfl)]
        unfold f_X5_takesClosing
        rw [h3, h2]
        by_cases e4 : d = 0
        · rw [if_pos (Or.inl e4), if_pos (show nI d = 0 by rw [e4]; rfl)]
          exact ⟨fun _ => rfl, fun r' g => by cases g⟩
        · rw [if_neg (show ¬ nI d = 0 from nI_ne0 (by omega) (by omega))]
          by_cases e5 : q = 0
          · rw [if_pos (Or.inr e5), if_pos (show nI q = 0 by rw [e5]; rfl)]
            exact ⟨fun _ => rfl, fun r' g => by cases g⟩
          · rw [if_neg (show ¬ (d = 0 ∨ q = 0) by omega), if_neg (show ¬ nI q = 0 from nI_ne0 (by omega) (by omega))]
            refine ⟨(fun g => by cases g), fun r' g => ?_⟩
            cases g
            exact ⟨mset M 68 2 (nI 3), rfl, XS_sq (q := 3) h, FX.rf.set (by omega)⟩
      · rw [if_neg e3, if_neg (show ¬ nI c = 41 from fun z => e3 (nI_inj (b := 41) (by omega) (by omega) z)), ev_isIn, show inR (nI c) 48 57 = decide (48 ≤ c ∧ c ≤ 57) from inR_dec (a := 48) (b := 57) (by omega) (by omega) (by omega), cp_s, if_bI]
        by_cases e4 : 48 ≤ c ∧ c ≤ 57
        · rw [if_pos e4, decide_eq_true e4]
          simp only [cond]
          unfold f_X5_takesKind
          rw [h2]
          by_cases e5 : q = 1
          · rw [if_pos (show nI q = 1 by rw [e5]; rfl), show nI c - 48 = nI (c - 48) from nI_sub (b := 48) e4.1, ev_isKind, show inR (nI (c - 48)) 0 5 = decide (0 ≤ c - 48 ∧ c - 48 ≤ 5) from inR_dec (a := 0) (b := 5) (by omega) (by omega) (by omega), cp_s, if_bI]
            by_cases e6 : c ≤ 53
            · rw [if_pos ⟨e5, e6⟩, decide_eq_true ⟨Nat.zero_le _, by omega⟩]
              refine ⟨(fun g => by cases g), fun r' g => ?_⟩
              cases g
              simp only [cond]
              rw [h1, ev_isIn, show inR (nI n) 1 200 = decide (1 ≤ n ∧ n ≤ 200) from inR_dec (a := 1) (b := 200) (by omega) (by omega) (by omega), cp_s, if_bI]
              by_cases e7 : 1 ≤ n ∧ n ≤ 200
              · rw [decide_eq_true e7]
                simp only [cond]
                rw [nI_sub1 (by omega), ck_n (by omega), stm_s, nI_clamp (by omega)]
                refine ⟨_, rfl, ?_, (FX.rf.set (c := 71) (by omega)).set (c := 68) (by omega)⟩
                have : XS (mset M 71 (n - 1) (nI (c - 48))) (n, d, q, s, T, upd K (n - 1) (nI (c - 48))) := by
                  refine ⟨?_, ?_, ?_, ?_, fun i hi => ?_, fun j hj hj2 => ?_⟩
                  · rw [mset_ne (by omega), h0]
                  · rw [mset_ne (by omega), h1]
                  · rw [mset_ne (by omega), h2]
                  · rw [mset_ne (by omega), h3]
                  · rw [mset_ne (by omega), h4 i hi]
                  · refine ⟨by rw [mset_ne (by omega)]; exact (h5 j hj hj2).1, ?_⟩
                    rw [mset_at]
                    by_cases e8 : j = n - 1
                    · rw [if_pos ⟨rfl, e8⟩, e8, upd_same]
                    · rw [if_neg (by omega), upd_ne e8]; exact (h5 j hj hj2).2
                exact XS_sq (q := 2) this
              · rw [decide_eq_false e7]
                refine ⟨_, rfl, ?_, FX.rf.set (c := 68) (by omega)⟩
                have : XS M (n, d, q, s, T, upd K (n - 1) (nI (c - 48))) := by
                  refine ⟨h0, h1, h2, h3, h4, fun j hj hj2 => ?_⟩
                  rw [upd_ne (by omega)]; exact h5 j hj hj2
                exact XS_sq (q := 2) this
            · rw [if_neg (fun z => e6 z.2), decide_eq_false (by omega)]
              exact ⟨fun _ => rfl, fun r' g => by cases g⟩
          · rw [if_neg (fun z => e5 z.1), if_neg (show ¬ nI q = 1 from fun z => e5 (nI_inj (b := 1) (by omega) (by omega) z))]
            exact ⟨fun _ => rfl, fun r' g => by cases g⟩
        · rw [if_neg e4, decide_eq_false e4]
          simp only [cond]
          unfold f_X5_takesLetter
          rw [ev_hasWords hT, cp_s, if_bI]
          cases e5 : spB (St M) (nI c - 97) with
          | true =>
            refine ⟨(fun g => by cases g), fun r' g => ?_⟩
            cases g
            obtain ⟨M', g1, g2, g3⟩ := X_add (t := nI c - 97) (k := 0) h hI
            simp only [cond]
            rw [g1, cl_s, stm_s]
            exact ⟨mset M' 68 2 (nI 1), rfl, XS_sq g2, g3.set (by omega)⟩
          | false => exact ⟨fun _ => rfl, fun r' g => by cases g⟩
theorem X_read_go {S : Nat → Nat → Int32} (hT : IvT S) (hB : IvB S) : ∀ (d F p : Nat) (M : Mem) (r : Rs), St M = S → p + d = nB S → XS M r → RI S r → d < F → ∃ M', f_X5_read_22 F (nI p) M = some ((), M') ∧ M'.1 68 0 = (rn S d p r).1 ∧ ((rn S d p r).1 = -1 → XS M' (rn S d p r).2) ∧ FX M M' := by
  have h60 := nB_le hB
  intro d
  induction d with
  | zero =>
    intro F p M r hS hp h hI hF
    obtain ⟨F, rfl⟩ : ∃ F', F = F' + 1 := ⟨F - 1, by omega⟩
    have e18 : M.1 18 0 = nI (nB S) := by rw [k18, hS]; exact nB_eq hB
    have eX : f_X5_read_22 (F + 1) (nI p) M = if (0 : Int32) < (M.1 68 3) then f_X5_read_89 M else if (M.1 68 2) = (0 : Int32) then f_X5_read_89 M else if (M.1 68 2) = (3 : Int32) then f_X5_read_89 M else some ((), M) := by
      show f_X5_read_22_b (f_X5_read_22 F) (nI p) M = _
      unfold f_X5_read_22_b
      rw [e18, if_pos (nI_le (by omega) (by omega))]
    obtain ⟨n, d, q, s, T, K⟩ := r
    obtain ⟨h0, h1, h2, h3, h4, h5⟩ := id h
    rw [eX, h2, h3, rn_0]
    have e89 : f_X5_read_89 M = some ((), mset M 68 0 (nI (nB S))) := by unfold f_X5_read_89; rw [e18, stm_s]
    have bad : ∃ M', f_X5_read_89 M = some ((), M') ∧ M'.1 68 0 = nI (nB S) ∧ (nI (nB S) = -1 → XS M' (n, d, q, s, T, K)) ∧ FX M M' := ⟨_, e89, by rw [mset_at, if_pos ⟨rfl, rfl⟩], fun z => absurd z (by
      have : ∀ k, k ≤ 60 → ¬ nI k = -1 := by decide +kernel
      exact this _ h60), FX.rf.set (by omega)⟩
    by_cases c1 : 0 < d
    · rw [if_pos (show (0 : Int32) < nI d from nI_lt (a := 0) c1 (by have := hI.2.1; omega))]
      simp only [if_pos (show 0 < d ∨ q = 0 ∨ q = 3 from Or.inl c1)]
      exact bad
    · rw [if_neg (show ¬ (0 : Int32) < nI d from nI_nlt (b := d) (a := 0) (by omega) (by have := hI.2.1; omega))]
      have hq3 : q ≤ 3 := hI.2.2.1
      by_cases c2 : q = 0
      · rw [if_pos (show nI q = 0 by rw [c2]; rfl)]
        simp only [if_pos (show 0 < d ∨ q = 0 ∨ q = 3 from Or.inr (Or.inl c2))]
        exact bad
      · rw [if_neg (show ¬ nI q = 0 from nI_ne0 (by omega) (by omega))]
        by_cases c3 : q = 3
        · rw [if_pos (show nI q = 3 by rw [c3]; rfl)]
          simp only [if_pos (show 0 < d ∨ q = 0 ∨ q = 3 from Or.inr (Or.inr c3))]
          exact bad
        · rw [if_neg (show ¬ nI q = 3 from fun z => c3 (nI_inj (b := 3) (by omega) (by omega) z))]
          simp only [if_neg (show ¬ (0 < d ∨ q = 0 ∨ q = 3) by omega)]
          exact ⟨M, rfl, h0, fun _ => h, FX.rf⟩
  | succ d ih =>
    intro F p M r hS hp h hI hF
    obtain ⟨F, rfl⟩ : ∃ F', F = F' + 1 := ⟨F - 1, by omega⟩
    have e18 : M.1 18 0 = nI (nB S) := by rw [k18, hS]; exact nB_eq hB
    obtain ⟨c1, c2⟩ := cN_eq hB (show p < nB S by omega)
    have eX : f_X5_read_22 (F + 1) (nI p) M = if nI (cN S p) = (32 : Int32) then f_X5_read_22 F (nI (p + 1)) M else cl (f_X5_takes (nI (cN S p)) M) fun v2 M1 => if v2 = (0 : Int32) then some ((), mset M1 68 0 (nI p)) else f_X5_read_22 F (nI (p + 1)) M1 := by
      show f_X5_read_22_b (f_X5_read_22 F) (nI p) M = _
      unfold f_X5_read_22_b f_X5_read_61
      rw [e18, if_neg (nI_ge (by omega) (by omega)), rd_n (by omega), k19, hS, c1, nI_1]; rfl
    rw [eX]
    by_cases e : cN S p = 32
    · rw [if_pos (show nI (cN S p) = 32 by rw [e]; rfl), rn_b e]
      exact ih F (p + 1) M r hS (by omega) h hI (by omega)
    · rw [if_neg (show ¬ nI (cN S p) = 32 from fun z => e (nI_inj (b := 32) (by omega) (by omega) z))]
      obtain ⟨g1, g2⟩ := X_takes (by rw [hS]; exact hT) h (by rw [hS]; exact hI) c2
      rw [hS] at g1 g2
      cases ht : tk S (cN S p) r with
      | none =>
        rw [g1 ht, cl_s, if_pos rfl, rn_n e ht]
        refine ⟨_, rfl, by rw [mset_at, if_pos ⟨rfl, rfl⟩], fun z => absurd z ?_, FX.rf.set (by omega)⟩
        have : ∀ k, k ≤ 60 → ¬ nI k = -1 := by decide +kernel
        exact this p (by omega)
      | some r' =>
        obtain ⟨M1, q1, q2, q3⟩ := g2 r' ht
        rw [q1, cl_s, if_neg (by decide), rn_k e ht]
        obtain ⟨M', p1, p2, p3, p4⟩ := ih F (p + 1) M1 r' (by rw [St_FX q3, hS]) (by omega) q2 (RI_tk hI ht) (by omega)
        exact ⟨M', p1, p2, p3, q3.tr p4⟩
def rd0 : Rs := (0, 0, 0, fun _ => 0, fun _ => 0, fun _ => 0)
def rdS (S : Nat → Nat → Int32) : Int32 × Rs := rn S (nB S) 0 rd0
theorem RI_0 {S : Nat → Nat → Int32} : RI S rd0 := ⟨by omega, by omega, by omega, fun i hi => by omega, fun j hj => by omega⟩
theorem ev_read {M : Mem} (hT : IvT (St M)) (hB : IvB (St M)) : ∃ M', f_X5_read M = some ((), M') ∧ M'.1 68 0 = (rdS (St M)).1 ∧ ((rdS (St M)).1 = -1 → XS M' (rdS (St M)).2) ∧ FX M M' := by
  have h60 := nB_le hB
  have h0 : XS (mset (mset (mset (mset M 68 1 0) 68 3 0) 68 2 0) 68 0 (-1)) rd0 := by
    refine ⟨?_, ?_, ?_, ?_, fun i hi => absurd hi (by omega), fun j hj => absurd hj (by omega)⟩
    · rw [mset_at, if_pos ⟨rfl, rfl⟩]
    · rw [mset_at, if_neg (by omega), mset_at, if_neg (by omega), mset_at, if_neg (by omega), mset_at, if_pos ⟨rfl, rfl⟩]; rfl
    · rw [mset_at, if_neg (by omega), mset_at, if_pos ⟨rfl, rfl⟩]; rfl
    · rw [mset_at, if_neg (by omega), mset_at, if_neg (by omega), mset_at, if_pos ⟨rfl, rfl⟩]; rfl
  have hf : FX M (mset (mset (mset (mset M 68 1 0) 68 3 0) 68 2 0) 68 0 (-1)) := (((FX.rf.set (by omega)).set (by omega)).set (by omega)).set (by omega)
  obtain ⟨M', g1, g2, g3, g4⟩ := X_read_go hT hB (nB (St M)) FU 0 _ rd0 (St_FX hf) (by omega) h0 RI_0 (FU_of (by omega))
  refine ⟨M', ?_, g2, g3, hf.tr g4⟩
  unfold f_X5_read
  rw [stm_s, stm_s, stm_s, stm_s]
  exact g1
