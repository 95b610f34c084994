/-! going round on eight points -/
def itR (g : Nat → Nat) : Nat → Nat → Nat
  | 0, x => x
  | n + 1, x => g (itR g n x)
theorem itR_s {g : Nat → Nat} {n x : Nat} : itR g (n + 1) x = g (itR g n x) := rfl
theorem itR_add {g : Nat → Nat} {x : Nat} : ∀ m n, itR g (m + n) x = itR g m (itR g n x) := by
  intro m n
  induction m with
  | zero => rw [Nat.zero_add]; rfl
  | succ m ih => rw [show m + 1 + n = (m + n) + 1 by omega, itR_s, itR_s, ih]
theorem itR_lt {g : Nat → Nat} (hg : ∀ x, g x < 8) {x : Nat} (hx : x < 8) (n : Nat) : itR g n x < 8 := by
  cases n with
  | zero => exact hx
  | succ n => exact hg _
def cntR (q : Nat → Bool) : Nat → Nat
  | 0 => 0
  | n + 1 => cntR q n + cond (q n) 1 0
theorem cntR_s {q : Nat → Bool} {n : Nat} : cntR q (n + 1) = cntR q n + cond (q n) 1 0 := rfl
theorem cntR_cong {q r : Nat → Bool} : ∀ n, (∀ i, i < n → q i = r i) → cntR q n = cntR r n := by
  intro n
  induction n with
  | zero => intro _; rfl
  | succ n ih => intro h; rw [cntR_s, cntR_s, ih (fun i hi => h i (by omega)), h n (by omega)]
theorem cntR_rm {q : Nat → Bool} {y : Nat} (hq : q y = true) : ∀ n, y < n → cntR q n = cntR (fun z => q z && !(decide (z = y))) n + 1 := by
  intro n
  induction n with
  | zero => intro h; omega
  | succ n ih =>
    intro h
    rw [cntR_s, cntR_s]
    by_cases hy : y = n
    · subst hy
      have : cntR q y = cntR (fun z => q z && !(decide (z = y))) y := cntR_cong y (fun i hi => by
        rw [decide_eq_false (by omega)]; simp)
      rw [← this, hq]
      simp
    · rw [ih (by omega), decide_eq_false (show ¬ n = y by omega)]
      simp only [Bool.not_false, Bool.and_true]
      omega
theorem cntR_inj : ∀ (c : Nat) (q : Nat → Bool) (f : Nat → Nat) (n : Nat), (∀ i, i < c → f i < n ∧ q (f i) = true) → (∀ i j, i < j → j < c → f i ≠ f j) → c ≤ cntR q n := by
  intro c
  induction c with
  | zero => intro q f n _ _; omega
  | succ c ih =>
    intro q f n h1 h2
    obtain ⟨a1, a2⟩ := h1 c (by omega)
    rw [cntR_rm a2 n a1]
    have := ih (fun z => q z && !(decide (z = f c))) f n (fun i hi => ⟨(h1 i (by omega)).1, by
      rw [(h1 i (by omega)).2, decide_eq_false (h2 i c hi (by omega))]; rfl⟩) (fun i j hi hj => h2 i j hi (by omega))
    omega
theorem cntR_le {q : Nat → Bool} : ∀ n, cntR q n ≤ n := by
  intro n
  induction n with
  | zero => exact Nat.le_refl _
  | succ n ih =>
    rw [cntR_s]
    cases q n
    · rw [cond_false]; omega
    · rw [cond_true]; omega
/-- the first round that leads back -/
def perF (g : Nat → Nat) (z : Nat) : Nat → Nat → Nat
  | 0, _ => 0
  | d + 1, c => if itR g c z = z then c else perF g z d (c + 1)
def perR (g : Nat → Nat) (z : Nat) : Nat := perF g z 8 1
theorem perF_eq {g : Nat → Nat} {z e : Nat} (he : itR g e z = z) : ∀ d c, c ≤ e → e < c + d → (∀ m, c ≤ m → m < e → itR g m z ≠ z) → perF g z d c = e := by
  intro d
  induction d with
  | zero => intro c h1 h2; omega
  | succ d ih =>
    intro c h1 h2 h3
    unfold perF
    by_cases h : itR g c z = z
    · rw [if_pos h]
      by_cases hce : c = e
      · exact hce
      · exact absurd h (h3 c (Nat.le_refl _) (by omega))
    · rw [if_neg h]
      exact ih (c + 1) (by by_cases hce : c = e; · subst hce; exact absurd he h
                           · omega) (by omega) (fun m m1 m2 => h3 m (by omega) m2)
theorem perF_spec {g : Nat → Nat} {z : Nat} : ∀ d c, perF g z d c = 0 ∧ (∀ m, c ≤ m → m < c + d → itR g m z ≠ z) ∨ (c ≤ perF g z d c ∧ perF g z d c < c + d ∧ itR g (perF g z d c) z = z ∧ ∀ m, c ≤ m → m < perF g z d c → itR g m z ≠ z) := by
  intro d
  induction d with
  | zero => intro c; exact Or.inl ⟨rfl, fun m h1 h2 => by omega⟩
  | succ d ih =>
    intro c
    unfold perF
    by_cases h : itR g c z = z
    · rw [if_pos h]; exact Or.inr ⟨Nat.le_refl _, by omega, h, fun m h1 h2 => by omega⟩
    · rw [if_neg h]
      rcases ih (c + 1) with ⟨h1, h2⟩ | ⟨h1, h2, h3, h4⟩
      · exact Or.inl ⟨h1, fun m m1 m2 => by
          by_cases hm : m = c
          · subst hm; exact h
          · exact h2 m (by omega) (by omega)⟩
      · exact Or.inr ⟨by omega, by omega, h3, fun m m1 m2 => by
          by_cases hm : m = c
          · subst hm; exact h
          · exact h4 m (by omega) m2⟩
theorem per_orbit {g : Nat → Nat} (hg : ∀ x, g x < 8) {z : Nat} (hz : z < 8) (h0 : perR g z ≠ 0) : perR g z ≤ cntR (fun y => decide (perR g y = perR g z)) 8 := by
  rcases perF_spec (g := g) (z := z) 8 1 with ⟨h1, _⟩ | ⟨h1, h2, h3, h4⟩
  · exact absurd h1 h0
  · have e : perF g z 8 1 = perR g z := rfl
    rw [e] at h1 h2 h3 h4
    have key : ∀ m, 1 ≤ m → m < perR g z → itR g m z ≠ z := h4
    have back : ∀ i m, i ≤ perR g z → itR g (perR g z - i) (itR g m (itR g i z)) = itR g m z := fun i m hi => by
      rw [← itR_add, ← itR_add, show perR g z - i + m + i = m + perR g z by omega, itR_add m, h3]
    refine cntR_inj (perR g z) _ (fun i => itR g i z) 8 (fun i hi => ⟨itR_lt hg hz i, decide_eq_true ?_⟩) (fun i j hi hj hij => ?_)
    · refine perF_eq ?_ 8 1 h1 h2 (fun m m1 m2 hm => key m m1 m2 ?_)
      · rw [← itR_add, Nat.add_comm, itR_add, h3]
      · have b1 := back i m (by omega)
        have b2 := back i 0 (by omega)
        rw [hm] at b1
        exact b1.symm.trans b2
    · have b1 := back i 0 (by omega)
      have b2 : itR g (perR g z - i) (itR g j z) = itR g (j - i) z := by
        rw [← itR_add, show perR g z - i + j = (j - i) + perR g z by omega, itR_add (j - i), h3]
      have hij' : itR g i z = itR g j z := hij
      refine key (j - i) (by omega) (by omega) ?_
      rw [← b2, ← hij']
      exact b1
theorem per_there {g : Nat → Nat} (hg : ∀ x, g x < 8) {x : Nat} (hx : x < 8) : perR g (itR g 8 x) ≠ 0 := by
  have h8 : ∃ i j, i < j ∧ j < 9 ∧ itR g i x = itR g j x := by
    apply Classical.byContradiction
    intro hn
    have := cntR_inj 9 (fun _ => true) (fun i => itR g i x) 8 (fun i _ => ⟨itR_lt hg hx i, rfl⟩) (fun i j hi hj h => hn ⟨i, j, hi, hj, h⟩)
    have l := cntR_le (q := fun _ => true) 8
    omega
  obtain ⟨i, j, hi, hj, h⟩ := h8
  have hc : itR g (j - i) (itR g 8 x) = itR g 8 x := by
    rw [← itR_add, show j - i + 8 = (8 - i) + j by omega, itR_add, ← h, ← itR_add, show 8 - i + i = 8 by omega]
  rcases perF_spec (g := g) (z := itR g 8 x) 8 1 with ⟨_, h2⟩ | ⟨h1, h2, _, _⟩
  · exact absurd hc (h2 (j - i) (by omega) (by omega))
  · intro h0
    have e : perF g (itR g 8 x) 8 1 = perR g (itR g 8 x) := rfl
    rw [e] at h1
    omega
theorem per_sum {p : Nat → Nat} : ∀ n, cntR (fun y => decide (p y = 1)) n + cntR (fun y => decide (p y = 2)) n + cntR (fun y => decide (p y = 3)) n + cntR (fun y => decide (p y = 4)) n + cntR (fun y => decide (p y = 5)) n + cntR (fun y => decide (p y = 6)) n + cntR (fun y => decide (p y = 7)) n + cntR (fun y => decide (p y = 8)) n ≤ n := by
  intro n
  induction n with
  | zero => exact Nat.le_refl _
  | succ n ih =>
    have one : ∀ v : Nat, cond (decide (v = 1)) 1 0 + cond (decide (v = 2)) 1 0 + cond (decide (v = 3)) 1 0 + cond (decide (v = 4)) 1 0 + cond (decide (v = 5)) 1 0 + cond (decide (v = 6)) 1 0 + cond (decide (v = 7)) 1 0 + cond (decide (v = 8)) 1 0 ≤ 1 := by
      intro v
      by_cases h : v < 9
      · have : ∀ v, v < 9 → cond (decide (v = 1)) 1 0 + cond (decide (v = 2)) 1 0 + cond (decide (v = 3)) 1 0 + cond (decide (v = 4)) 1 0 + cond (decide (v = 5)) 1 0 + cond (decide (v = 6)) 1 0 + cond (decide (v = 7)) 1 0 + cond (decide (v = 8)) 1 0 ≤ 1 := by decide
        exact this v h
      · rw [decide_eq_false (show ¬ v = 1 by omega), decide_eq_false (show ¬ v = 2 by omega), decide_eq_false (show ¬ v = 3 by omega), decide_eq_false (show ¬ v = 4 by omega), decide_eq_false (show ¬ v = 5 by omega), decide_eq_false (show ¬ v = 6 by omega), decide_eq_false (show ¬ v = 7 by omega), decide_eq_false (show ¬ v = 8 by omega)]
        decide
    have := one (p n)
    simp only [cntR_s]
    omega
def lcmB (b1 b2 b3 b4 b5 b6 b7 b8 : Bool) : Nat := Nat.lcm (cond b1 1 1) (Nat.lcm (cond b2 2 1) (Nat.lcm (cond b3 3 1) (Nat.lcm (cond b4 4 1) (Nat.lcm (cond b5 5 1) (Nat.lcm (cond b6 6 1) (Nat.lcm (cond b7 7 1) (cond b8 8 1)))))))
theorem lcmB_tab : ∀ b1 b2 b3 b4 b5 b6 b7 b8 : Bool, cond b1 1 0 + cond b2 2 0 + cond b3 3 0 + cond b4 4 0 + cond b5 5 0 + cond b6 6 0 + cond b7 7 0 + cond b8 8 0 ≤ 8 → 0 < lcmB b1 b2 b3 b4 b5 b6 b7 b8 ∧ lcmB b1 b2 b3 b4 b5 b6 b7 b8 ≤ 15 ∧ (b1 = true → lcmB b1 b2 b3 b4 b5 b6 b7 b8 % 1 = 0) ∧ (b2 = true → lcmB b1 b2 b3 b4 b5 b6 b7 b8 % 2 = 0) ∧ (b3 = true → lcmB b1 b2 b3 b4 b5 b6 b7 b8 % 3 = 0) ∧ (b4 = true → lcmB b1 b2 b3 b4 b5 b6 b7 b8 % 4 = 0) ∧ (b5 = true → lcmB b1 b2 b3 b4 b5 b6 b7 b8 % 5 = 0) ∧ (b6 = true → lcmB b1 b2 b3 b4 b5 b6 b7 b8 % 6 = 0) ∧ (b7 = true → lcmB b1 b2 b3 b4 b5 b6 b7 b8 % 7 = 0) ∧ (b8 = true → lcmB b1 b2 b3 b4 b5 b6 b7 b8 % 8 = 0) := by decide +kernel
theorem cond_cnt {c n : Nat} : cond (decide (c ≤ n)) c 0 ≤ n := by
  by_cases h : c ≤ n
  · rw [decide_eq_true h]; exact h
  · rw [decide_eq_false h]; exact Nat.zero_le _
theorem itR_mul {g : Nat → Nat} {c y : Nat} (h : itR g c y = y) : ∀ q, itR g (c * q) y = y := by
  intro q
  induction q with
  | zero => rfl
  | succ q ih => rw [Nat.mul_succ, itR_add, h, ih]
theorem per_all {g : Nat → Nat} (hg : ∀ x, g x < 8) : ∃ L, 0 < L ∧ L ≤ 15 ∧ ∀ x, x < 8 → itR g (8 + L) x = itR g 8 x := by
  have s := per_sum (p := perR g) 8
  have t := lcmB_tab (decide (1 ≤ cntR (fun y => decide (perR g y = 1)) 8)) (decide (2 ≤ cntR (fun y => decide (perR g y = 2)) 8)) (decide (3 ≤ cntR (fun y => decide (perR g y = 3)) 8)) (decide (4 ≤ cntR (fun y => decide (perR g y = 4)) 8)) (decide (5 ≤ cntR (fun y => decide (perR g y = 5)) 8)) (decide (6 ≤ cntR (fun y => decide (perR g y = 6)) 8)) (decide (7 ≤ cntR (fun y => decide (perR g y = 7)) 8)) (decide (8 ≤ cntR (fun y => decide (perR g y = 8)) 8)) (by
    have c1 := cond_cnt (c := 1) (n := cntR (fun y => decide (perR g y = 1)) 8)
    have c2 := cond_cnt (c := 2) (n := cntR (fun y => decide (perR g y = 2)) 8)
    have c3 := cond_cnt (c := 3) (n := cntR (fun y => decide (perR g y = 3)) 8)
    have c4 := cond_cnt (c := 4) (n := cntR (fun y => decide (perR g y = 4)) 8)
    have c5 := cond_cnt (c := 5) (n := cntR (fun y => decide (perR g y = 5)) 8)
    have c6 := cond_cnt (c := 6) (n := cntR (fun y => decide (perR g y = 6)) 8)
    have c7 := cond_cnt (c := 7) (n := cntR (fun y => decide (perR g y = 7)) 8)
    have c8 := cond_cnt (c := 8) (n := cntR (fun y => decide (perR g y = 8)) 8)
    omega)
  generalize lcmB (decide (1 ≤ cntR (fun y => decide (perR g y = 1)) 8)) (decide (2 ≤ cntR (fun y => decide (perR g y = 2)) 8)) (decide (3 ≤ cntR (fun y => decide (perR g y = 3)) 8)) (decide (4 ≤ cntR (fun y => decide (perR g y = 4)) 8)) (decide (5 ≤ cntR (fun y => decide (perR g y = 5)) 8)) (decide (6 ≤ cntR (fun y => decide (perR g y = 6)) 8)) (decide (7 ≤ cntR (fun y => decide (perR g y = 7)) 8)) (decide (8 ≤ cntR (fun y => decide (perR g y = 8)) 8)) = L at t
  obtain ⟨t0, t9, t1, t2, t3, t4, t5, t6, t7, t8⟩ := t
  refine ⟨L, t0, t9, fun x hx => ?_⟩
  have hy := itR_lt hg hx 8
  have h0 := per_there hg hx
  have ho := per_orbit hg hy h0
  have hd : L % perR g (itR g 8 x) = 0 ∧ itR g (perR g (itR g 8 x)) (itR g 8 x) = itR g 8 x := by
    rcases perF_spec (g := g) (z := itR g 8 x) 8 1 with ⟨h1, _⟩ | ⟨h1, h2, h3, _⟩
    · exact absurd h1 h0
    · have e : perF g (itR g 8 x) 8 1 = perR g (itR g 8 x) := rfl
      rw [e] at h1 h2 h3
      refine ⟨?_, h3⟩
      generalize perR g (itR g 8 x) = c at *
      have cs : c = 1 ∨ c = 2 ∨ c = 3 ∨ c = 4 ∨ c = 5 ∨ c = 6 ∨ c = 7 ∨ c = 8 := by omega
      rcases cs with rfl | rfl | rfl | rfl | rfl | rfl | rfl | rfl
      · exact t1 (decide_eq_true ho)
      · exact t2 (decide_eq_true ho)
      · exact t3 (decide_eq_true ho)
      · exact t4 (decide_eq_true ho)
      · exact t5 (decide_eq_true ho)
      · exact t6 (decide_eq_true ho)
      · exact t7 (decide_eq_true ho)
      · exact t8 (decide_eq_true ho)
  obtain ⟨hd1, hd2⟩ := hd
  rw [Nat.add_comm, itR_add]
  have := itR_mul hd2 (L / perR g (itR g 8 x))
  rw [Nat.mul_div_cancel' (Nat.dvd_of_mod_eq_zero hd1)] at this
  exact this
/-- a first number -/
theorem nat_first {p : Nat → Prop} : ∀ N, p N → ∃ n, n ≤ N ∧ p n ∧ ∀ m, m < n → ¬ p m := by
  intro N
  induction N using Nat.strongRecOn with
  | ind N ih =>
    intro h
    by_cases hx : ∃ m, m < N ∧ p m
    · obtain ⟨m, h1, h2⟩ := hx
      obtain ⟨n, g1, g2, g3⟩ := ih m h1 h2
      exact ⟨n, by omega, g2, g3⟩
    · exact ⟨N, Nat.le_refl _, h, fun m h1 h2 => hx ⟨m, h1, h2⟩⟩
