/-! the rings, gone through by the other -/
theorem rm116 {M : Mem} (hK : KK M) {j : Nat} (hj : j < nQ (St M)) : M.1 116 (4 * j) = nI (pA (St M) j / 8) ∧ M.1 116 (4 * j + 1) = nI (pA (St M) j % 8) ∧ M.1 116 (4 * j + 2) = nI (pB (St M) j / 8) ∧ M.1 116 (4 * j + 3) = nI (pB (St M) j % 8) := by
  obtain ⟨e1, e2, e3, e4, e5, e6, e7⟩ := pAB hK.1.1 hK.1.2.2.2.2 hj
  have := hK.2.2.2.2.2.2 j hj _ _ _ _ e6 e7 (by rw [e1]; congr 1; omega) (by rw [e2]; congr 1; omega)
  rw [show 96 * 0 + 4 * j = 4 * j by omega] at this
  exact this
def ldN (S : Nat → Nat → Int32) (j t w u : Nat) : Option Nat := match bhN S j (8 * t + w) with
  | some b => if b / 8 = u then some (b % 8) else none
  | none => none
theorem ev_leads {M : Mem} (hK : KK M) {j t w u : Nat} (hj : j < nQ (St M)) (ht : t < 6) (hw : w < 8) (hu : u < 6) : f_X10_leads (nI j) (nI t) (nI w) (nI u) M = some (oI (ldN (St M) j t w u)) := by
  have h24 := nQ_le hK.1.2.2.2.2
  obtain ⟨q1, q2, q3, q4⟩ := rm116 hK hj
  obtain ⟨-, -, a1, a2, a3, -, -⟩ := pAB hK.1.1 hK.1.2.2.2.2 hj
  unfold f_X10_leads f_X10_leads_54 ldN bhN
  rw [i4t, ia1, ia2, ia3]
  simp only [rd_n (show 4 * j < 288 by omega), rd_n (show 4 * j + 1 < 288 by omega), rd_n (show 4 * j + 2 < 288 by omega), rd_n (show 4 * j + 3 < 288 by omega), q1, q2, q3, q4]
  generalize pA (St M) j = A at *
  generalize pB (St M) j = B at *
  have cA1 : nI (A / 8) = nI t ↔ A / 8 = t := nI_eq (by omega) (by omega)
  have cA2 : nI (A % 8) = nI w ↔ A % 8 = w := nI_eq (by omega) (by omega)
  have cA3 : nI (A / 8) = nI u ↔ A / 8 = u := nI_eq (by omega) (by omega)
  have cB1 : nI (B / 8) = nI t ↔ B / 8 = t := nI_eq (by omega) (by omega)
  have cB2 : nI (B % 8) = nI w ↔ B % 8 = w := nI_eq (by omega) (by omega)
  have cB3 : nI (B / 8) = nI u ↔ B / 8 = u := nI_eq (by omega) (by omega)
  simp only [cA1, cA2, cA3, cB1, cB2, cB3]
  have tail : (if B / 8 = t then if B % 8 = w then if A / 8 = u then some (nI (A % 8)) else some (-1) else some (-1) else some (-1 : Int32)) = some (oI (if B = 8 * t + w then (if A / 8 = u then some (A % 8) else none) else none)) := by
    by_cases h : B = 8 * t + w
    · rw [if_pos (by omega), if_pos (by omega), if_pos h]
      split <;> rfl
    · rw [if_neg h]
      by_cases h1 : B / 8 = t
      · rw [if_pos h1, if_neg (by omega)]; rfl
      · rw [if_neg h1]; rfl
  rw [tail]
  by_cases h : A = 8 * t + w
  · rw [if_pos (by omega), if_pos (by omega), if_pos h, if_neg (show ¬ B = 8 * t + w by omega)]
    simp only
    split <;> rfl
  · rw [if_neg h]
    have e : (match (if B = 8 * t + w then some A else none) with | some b => if b / 8 = u then some (b % 8) else none | none => none) = (if B = 8 * t + w then (if A / 8 = u then some (A % 8) else none) else none) := by
      by_cases h1 : B = 8 * t + w
      · rw [if_pos h1, if_pos h1]
      · rw [if_neg h1, if_neg h1]
    by_cases h1 : A / 8 = t
    · rw [if_pos h1, if_neg (by omega), ← e]
    · rw [if_neg h1, ← e]
theorem ldN_lt {S : Nat → Nat → Int32} {j t w u v : Nat} (h : ldN S j t w u = some v) : v < 8 := by
  unfold ldN at h
  cases hb : bhN S j (8 * t + w) with
  | none => rw [hb] at h; cases h
  | some b =>
    rw [hb] at h
    simp only at h
    split at h
    · cases h; omega
    · cases h
def RN (V : Nat → Int32) (M : Mem) : Prop := M.1 108 24 = V 0 ∧ M.1 108 25 = V 1 ∧ ∀ j, j < 24 → M.1 127 j = V (2 + j) ∧ M.1 128 j = V (26 + j)
def FC (M M' : Mem) : Prop := (∀ c, c ≠ 108 → c ≠ 127 → c ≠ 128 → M'.1 c = M.1 c) ∧ ∀ j, j ≠ 24 → j ≠ 25 → M'.1 108 j = M.1 108 j
theorem FC.rf {M : Mem} : FC M M := ⟨fun _ _ _ _ => rfl, fun _ _ _ => rfl⟩
theorem FC.tr {M M1 M2 : Mem} (h : FC M M1) (g : FC M1 M2) : FC M M2 := ⟨fun c a b d => (g.1 c a b d).trans (h.1 c a b d), fun j a b => (g.2 j a b).trans (h.2 j a b)⟩
theorem FC_Sc {M M' : Mem} (h : FC M M') : Sc M M' := ⟨fun c h1 h2 => h.1 c (by omega) (by omega) (by omega), fun c h1 h2 => h.1 c (by omega) (by omega) (by omega), h.2 11 (by omega) (by omega), h.2 12 (by omega) (by omega)⟩
theorem RN_ext {V W : Nat → Int32} {M : Mem} (h : RN V M) (e : ∀ i, V i = W i) : RN W M := by
  have : V = W := funext e
  rw [← this]; exact h
theorem inc_at {M : Mem} {c x : Nat} {v : Int32} {a j : Nat} : (mset M c x (M.1 c x + v)).1 a j = M.1 a j + (if a = c ∧ j = x then v else 0) := by
  rw [mset_at]
  by_cases h : a = c ∧ j = x
  · rw [if_pos h, if_pos h, h.1, h.2]
  · rw [if_neg h, if_neg h, Int32.add_zero]
theorem ev_counts {M : Mem} {V : Nat → Int32} {j1 j2 j3 : Nat} {h : Bool} (h1 : j1 < 24) (h2 : j2 < 24) (h3 : j3 < 24) (hC : RN V M) : ∃ M', f_X10_counts (nI j1) (nI j2) (nI j3) (bI h) M = some ((), M') ∧ RN (addV V (inc j1 j2 j3 h)) M' ∧ FC M M' := by
  let iM := fun (M : Mem) (c x : Nat) (v : Int32) => mset M c x (M.1 c x + v)
  have eX : f_X10_counts (nI j1) (nI j2) (nI j3) (bI h) M = some ((), iM (iM (iM (iM (iM (iM (iM (iM M 108 24 1) 108 25 (bI h)) 127 j1 1) 127 j2 1) 127 j3 1) 128 j1 (bI (!h))) 128 j2 (bI (!h))) 128 j3 (bI (!h))) := by
    unfold f_X10_counts f_X10_counts_25 f_X10_counts_76 f_X10_counts_95 f_X10_counts_114
    simp only [stm_s, if_bI, rd_n h1, rd_n h2, rd_n h3, ck_n h1, ck_n h2, ck_n h3, nI_clamp (show j1 < 2 ^ 31 by omega), nI_clamp (show j2 < 2 ^ 31 by omega), nI_clamp (show j3 < 2 ^ 31 by omega)]
    cases h <;> rfl
  have at' : ∀ a j, (iM (iM (iM (iM (iM (iM (iM (iM M 108 24 1) 108 25 (bI h)) 127 j1 1) 127 j2 1) 127 j3 1) 128 j1 (bI (!h))) 128 j2 (bI (!h))) 128 j3 (bI (!h))).1 a j = M.1 a j + (if a = 108 ∧ j = 24 then 1 else 0) + (if a = 108 ∧ j = 25 then bI h else 0) + (if a = 127 ∧ j = j1 then 1 else 0) + (if a = 127 ∧ j = j2 then 1 else 0) + (if a = 127 ∧ j = j3 then 1 else 0) + (if a = 128 ∧ j = j1 then bI (!h) else 0) + (if a = 128 ∧ j = j2 then bI (!h) else 0) + (if a = 128 ∧ j = j3 then bI (!h) else 0) := by
    intro a j
    show (mset _ 128 j3 _).1 a j = _
    rw [inc_at, inc_at, inc_at, inc_at, inc_at, inc_at, inc_at, inc_at]
  have dl1 : ∀ j x, (if (127 : Nat) = 127 ∧ j = x then (1 : Int32) else 0) = dl j x := fun j x => by
    unfold dl
    by_cases g : j = x
    · rw [if_pos ⟨rfl, g⟩, if_pos g]
    · rw [if_neg (fun z => g z.2), if_neg g]
  have dl2 : ∀ j x, (if (128 : Nat) = 128 ∧ j = x then bI (!h) else 0) = cond h 0 (dl j x) := fun j x => by
    unfold dl
    by_cases g : j = x
    · rw [if_pos ⟨rfl, g⟩, if_pos g]; cases h <;> rfl
    · rw [if_neg (fun z => g z.2), if_neg g]; cases h <;> rfl
  refine ⟨_, eX, ⟨?_, ?_, fun j hj => ⟨?_, ?_⟩⟩, ⟨fun c d1 d2 d3 => ?_, fun j d1 d2 => ?_⟩⟩
  · rw [at', if_pos ⟨rfl, rfl⟩, if_neg (by omega), if_neg (by omega), if_neg (by omega), if_neg (by omega), if_neg (by omega), if_neg (by omega), if_neg (by omega), hC.1]
    simp only [Int32.add_zero]; rfl
  · rw [at', if_neg (by omega), if_pos ⟨rfl, rfl⟩, if_neg (by omega), if_neg (by omega), if_neg (by omega), if_neg (by omega), if_neg (by omega), if_neg (by omega), hC.2.1]
    simp only [Int32.add_zero]; rfl
  · rw [at', if_neg (by omega), if_neg (by omega), dl1, dl1, dl1, if_neg (show ¬ ((127 : Nat) = 128 ∧ j = j1) by omega), if_neg (show ¬ ((127 : Nat) = 128 ∧ j = j2) by omega), if_neg (show ¬ ((127 : Nat) = 128 ∧ j = j3) by omega), (hC.2.2 j hj).1]
    simp only [Int32.add_zero]
    unfold addV inc
    rw [if_neg (by omega), if_neg (by omega), if_pos (by omega), show 2 + j - 2 = j by omega]
    ac_rfl
  · rw [at', if_neg (by omega), if_neg (by omega), if_neg (show ¬ ((128 : Nat) = 127 ∧ j = j1) by omega), if_neg (show ¬ ((128 : Nat) = 127 ∧ j = j2) by omega), if_neg (show ¬ ((128 : Nat) = 127 ∧ j = j3) by omega), dl2, dl2, dl2, (hC.2.2 j hj).2]
    simp only [Int32.add_zero]
    unfold addV inc
    rw [if_neg (by omega), if_neg (by omega), if_neg (by omega), show 26 + j - 26 = j by omega]
    cases h with
    | true => simp only [cond, Int32.add_zero]
    | false => simp only [cond]; ac_rfl
  · funext j
    rw [at', if_neg (by omega), if_neg (by omega), if_neg (by omega), if_neg (by omega), if_neg (by omega), if_neg (by omega), if_neg (by omega), if_neg (by omega)]
    simp only [Int32.add_zero]
  · rw [at', if_neg (by omega), if_neg (by omega), if_neg (by omega), if_neg (by omega), if_neg (by omega), if_neg (by omega), if_neg (by omega), if_neg (by omega)]
    simp only [Int32.add_zero]
def R3 (S : Nat → Nat → Int32) (t0 t2 w0 w2 j1 j2 j3 : Nat) (i : Nat) : Int32 := match ldN S j3 t2 w2 t0 with
  | some v => inc j1 j2 j3 (decide (v = w0)) i
  | none => 0
def R2 (S : Nat → Nat → Int32) (t0 t1 t2 w0 w1 j1 j2 : Nat) (i : Nat) : Int32 := match ldN S j2 t1 w1 t2 with
  | some w2 => sT (fun j3 => R3 S t0 t2 w0 w2 j1 j2 j3 i) (nQ S) 0
  | none => 0
def R1 (S : Nat → Nat → Int32) (t0 t1 t2 w0 j1 : Nat) (i : Nat) : Int32 := match ldN S j1 t0 w0 t1 with
  | some w1 => sT (fun j2 => R2 S t0 t1 t2 w0 w1 j1 j2 i) (nQ S) 0
  | none => 0
theorem oI_neg {v : Nat} (h : v < 48) : ¬ nI v < 0 := nI_pos (by omega)
theorem ring60_go {S : Nat → Nat → Int32} {t0 t1 t2 w0 w2 j1 j2 : Nat} {x6 : Int32} {r29 : Int32 → Mem → Option (Unit × Mem)} (h1 : j1 < 24) (h2 : j2 < 24) (ht0 : t0 < 6) (ht2 : t2 < 6) (hw0 : w0 < 8) (hw2 : w2 < 8) : ∀ (d F j : Nat) (M : Mem) (V : Nat → Int32), KK M → St M = S → j + d = nQ S → RN V M → d < F → ∃ M', f_X10_ring_60 r29 (nI t0) (nI t1) (nI t2) (nI w0) (nI j1) x6 (nI j2) (nI w2) F (nI j) M = r29 (nI (j2 + 1)) M' ∧ RN (fun i => V i + sT (fun j3 => R3 S t0 t2 w0 w2 j1 j2 j3 i) d j) M' ∧ FC M M' := by
  intro d
  induction d with
  | zero =>
    intro F j M V hK hS hj hC hF
    obtain ⟨F, rfl⟩ : ∃ F', F = F' + 1 := ⟨F - 1, by omega⟩
    have h24 := nQ_le hK.1.2.2.2.2
    rw [hS] at h24
    have e112 : M.1 112 0 = nI (nQ S) := by rw [show M.1 112 0 = St M 18 0 from hK.2.2.2.2.2.1, hS]; exact nQ_eq (by rw [← hS]; exact hK.1.2.2.2.2)
    refine ⟨M, ?_, RN_ext hC (fun i => (Int32.add_zero _).symm), FC.rf⟩
    show f_X10_ring_60_b r29 (f_X10_ring_60 r29 (nI t0) (nI t1) (nI t2) (nI w0) (nI j1) x6 (nI j2) (nI w2) F) (nI t0) (nI t1) (nI t2) (nI w0) (nI j1) x6 (nI j2) (nI w2) (nI j) M = _
    unfold f_X10_ring_60_b f_X10_ring_121
    rw [e112, if_pos (nI_le (by omega) (by omega)), nI_1]
  | succ d ih =>
    intro F j M V hK hS hj hC hF
    obtain ⟨F, rfl⟩ : ∃ F', F = F' + 1 := ⟨F - 1, by omega⟩
    have h24 := nQ_le hK.1.2.2.2.2
    rw [hS] at h24
    have e112 : M.1 112 0 = nI (nQ S) := by rw [show M.1 112 0 = St M 18 0 from hK.2.2.2.2.2.1, hS]; exact nQ_eq (by rw [← hS]; exact hK.1.2.2.2.2)
    have eL : f_X10_leads (nI j) (nI t2) (nI w2) (nI t0) M = some (oI (ldN S j t2 w2 t0)) := by
      have := ev_leads hK (j := j) (t := t2) (w := w2) (u := t0) (by rw [hS]; omega) ht2 hw2 ht0
      rw [hS] at this; exact this
    have step : ∀ (X : Mem) (W : Nat → Int32), RN W X → (∀ i, W i = V i + R3 S t0 t2 w0 w2 j1 j2 j i) → FC M X → ∃ M', f_X10_ring_60 r29 (nI t0) (nI t1) (nI t2) (nI w0) (nI j1) x6 (nI j2) (nI w2) F (nI (j + 1)) X = r29 (nI (j2 + 1)) M' ∧ RN (fun i => V i + sT (fun j3 => R3 S t0 t2 w0 w2 j1 j2 j3 i) (d + 1) j) M' ∧ FC M M' := by
      intro X W hW hE hF
      obtain ⟨M', p1, p2, p3⟩ := ih F (j + 1) X W (KK_Sc hK (FC_Sc hF)) (by rw [St_Sc (FC_Sc hF), hS]) (by omega) hW (by omega)
      exact ⟨M', p1, RN_ext p2 (fun i => by rw [hE, sT_s, Int32.add_assoc]), hF.tr p3⟩
    have eX : f_X10_ring_60 r29 (nI t0) (nI t1) (nI t2) (nI w0) (nI j1) x6 (nI j2) (nI w2) (F + 1) (nI j) M = if oI (ldN S j t2 w2 t0) < 0 then f_X10_ring_60 r29 (nI t0) (nI t1) (nI t2) (nI w0) (nI j1) x6 (nI j2) (nI w2) F (nI (j + 1)) M else if oI (ldN S j t2 w2 t0) = nI w0 then cl (f_X10_counts (nI j1) (nI j2) (nI j) 1 M) fun _ M1 => f_X10_ring_60 r29 (nI t0) (nI t1) (nI t2) (nI w0) (nI j1) x6 (nI j2) (nI w2) F (nI (j + 1)) M1 else cl (f_X10_counts (nI j1) (nI j2) (nI j) 0 M) fun _ M1 => f_X10_ring_60 r29 (nI t0) (nI t1) (nI t2) (nI w0) (nI j1) x6 (nI j2) (nI w2) F (nI (j + 1)) M1 := by
      show f_X10_ring_60_b r29 (f_X10_ring_60 r29 (nI t0) (nI t1) (nI t2) (nI w0) (nI j1) x6 (nI j2) (nI w2) F) (nI t0) (nI t1) (nI t2) (nI w0) (nI j1) x6 (nI j2) (nI w2) (nI j) M = _
      unfold f_X10_ring_60_b f_X10_ring_112 f_X10_ring_115
      rw [e112, if_neg (nI_ge (by omega) (by omega)), if_neg (oI_neg (by omega)), eL, cp_s, nI_1]
    rw [eX]
    cases hb : ldN S j t2 w2 t0 with
    | none =>
      rw [if_pos (show oI none < 0 by decide)]
      exact step M V hC (fun i => by unfold R3; rw [hb]; exact (Int32.add_zero _).symm) FC.rf
    | some v =>
      have hv := ldN_lt hb
      rw [if_neg (show ¬ oI (some v) < 0 from oI_neg (by omega))]
      show ∃ M', (if nI v = nI w0 then _ else _) = _ ∧ _ ∧ _
      obtain ⟨X, x1, x2, x3⟩ := ev_counts (h := decide (v = w0)) h1 h2 (show j < 24 by omega) hC
      obtain ⟨M', p1, p2, p3⟩ := step X _ x2 (fun i => by unfold R3 addV; rw [hb]) x3
      refine ⟨M', ?_, p2, p3⟩
      by_cases hd : v = w0
      · rw [if_pos (congrArg nI hd)]
        rw [decide_eq_true hd] at x1
        have x1' : f_X10_counts (nI j1) (nI j2) (nI j) 1 M = some ((), X) := x1
        rw [x1', cl_s, p1]
      · rw [if_neg (fun z => hd (nI_inj (by omega) (by omega) z))]
        rw [decide_eq_false hd] at x1
        have x1' : f_X10_counts (nI j1) (nI j2) (nI j) 0 M = some ((), X) := x1
        rw [x1', cl_s, p1]
theorem ring29_go {S : Nat → Nat → Int32} {t0 t1 t2 w0 w1 j1 : Nat} {r3 : Int32 → Mem → Option (Unit × Mem)} (h1 : j1 < 24) (ht0 : t0 < 6) (ht1 : t1 < 6) (ht2 : t2 < 6) (hw0 : w0 < 8) (hw1 : w1 < 8) : ∀ (d F j : Nat) (M : Mem) (V : Nat → Int32), KK M → St M = S → j + d = nQ S → RN V M → d < F → ∃ M', f_X10_ring_29 r3 (nI t0) (nI t1) (nI t2) (nI w0) (nI j1) (nI w1) F (nI j) M = r3 (nI (j1 + 1)) M' ∧ RN (fun i => V i + sT (fun j2 => R2 S t0 t1 t2 w0 w1 j1 j2 i) d j) M' ∧ FC M M' := by
  intro d
  induction d with
  | zero =>
    intro F j M V hK hS hj hC hF
    obtain ⟨F, rfl⟩ : ∃ F', F = F' + 1 := ⟨F - 1, by omega⟩
    have h24 := nQ_le hK.1.2.2.2.2
    rw [hS] at h24
    have e112 : M.1 112 0 = nI (nQ S) := by rw [show M.1 112 0 = St M 18 0 from hK.2.2.2.2.2.1, hS]; exact nQ_eq (by rw [← hS]; exact hK.1.2.2.2.2)
    refine ⟨M, ?_, RN_ext hC (fun i => (Int32.add_zero _).symm), FC.rf⟩
    show f_X10_ring_29_b r3 (f_X10_ring_29 r3 (nI t0) (nI t1) (nI t2) (nI w0) (nI j1) (nI w1) F) (nI t0) (nI t1) (nI t2) (nI w0) (nI j1) (nI w1) (nI j) M = _
    unfold f_X10_ring_29_b f_X10_ring_127
    rw [e112, if_pos (nI_le (by omega) (by omega)), nI_1]
  | succ d ih =>
    intro F j M V hK hS hj hC hF
    obtain ⟨F, rfl⟩ : ∃ F', F = F' + 1 := ⟨F - 1, by omega⟩
    have h24 := nQ_le hK.1.2.2.2.2
    rw [hS] at h24
    have e112 : M.1 112 0 = nI (nQ S) := by rw [show M.1 112 0 = St M 18 0 from hK.2.2.2.2.2.1, hS]; exact nQ_eq (by rw [← hS]; exact hK.1.2.2.2.2)
    have eL : f_X10_leads (nI j) (nI t1) (nI w1) (nI t2) M = some (oI (ldN S j t1 w1 t2)) := by
      have := ev_leads hK (j := j) (t := t1) (w := w1) (u := t2) (by rw [hS]; omega) ht1 hw1 ht2
      rw [hS] at this; exact this
    have step : ∀ (X : Mem) (W : Nat → Int32), RN W X → (∀ i, W i = V i + R2 S t0 t1 t2 w0 w1 j1 j i) → FC M X → ∃ M', f_X10_ring_29 r3 (nI t0) (nI t1) (nI t2) (nI w0) (nI j1) (nI w1) F (nI (j + 1)) X = r3 (nI (j1 + 1)) M' ∧ RN (fun i => V i + sT (fun j2 => R2 S t0 t1 t2 w0 w1 j1 j2 i) (d + 1) j) M' ∧ FC M M' := by
      intro X W hW hE hF
      obtain ⟨M', p1, p2, p3⟩ := ih F (j + 1) X W (KK_Sc hK (FC_Sc hF)) (by rw [St_Sc (FC_Sc hF), hS]) (by omega) hW (by omega)
      exact ⟨M', p1, RN_ext p2 (fun i => by rw [hE, sT_s, Int32.add_assoc]), hF.tr p3⟩
    have eX : f_X10_ring_29 r3 (nI t0) (nI t1) (nI t2) (nI w0) (nI j1) (nI w1) (F + 1) (nI j) M = f_X10_ring_60 (f_X10_ring_29 r3 (nI t0) (nI t1) (nI t2) (nI w0) (nI j1) (nI w1) F) (nI t0) (nI t1) (nI t2) (nI w0) (nI j1) (nI w1) (nI j) (oI (ldN S j t1 w1 t2)) FU (nI 0) M := by
      show f_X10_ring_29_b r3 (f_X10_ring_29 r3 (nI t0) (nI t1) (nI t2) (nI w0) (nI j1) (nI w1) F) (nI t0) (nI t1) (nI t2) (nI w0) (nI j1) (nI w1) (nI j) M = _
      unfold f_X10_ring_29_b
      rw [e112, if_neg (nI_ge (by omega) (by omega)), if_neg (oI_neg (by omega)), eL, cp_s]; rfl
    rw [eX]
    cases hb : ldN S j t1 w1 t2 with
    | none =>
      have e0 : f_X10_ring_60 (f_X10_ring_29 r3 (nI t0) (nI t1) (nI t2) (nI w0) (nI j1) (nI w1) F) (nI t0) (nI t1) (nI t2) (nI w0) (nI j1) (nI w1) (nI j) (oI none) FU (nI 0) M = f_X10_ring_29 r3 (nI t0) (nI t1) (nI t2) (nI w0) (nI j1) (nI w1) F (nI (j + 1)) M := by
        show f_X10_ring_60_b (f_X10_ring_29 r3 (nI t0) (nI t1) (nI t2) (nI w0) (nI j1) (nI w1) F) (f_X10_ring_60 (f_X10_ring_29 r3 (nI t0) (nI t1) (nI t2) (nI w0) (nI j1) (nI w1) F) (nI t0) (nI t1) (nI t2) (nI w0) (nI j1) (nI w1) (nI j) (oI none) 99999) (nI t0) (nI t1) (nI t2) (nI w0) (nI j1) (nI w1) (nI j) (oI none) (nI 0) M = _
        unfold f_X10_ring_60_b f_X10_ring_121
        rw [if_pos (show oI none < 0 by decide), nI_1]
        split <;> rfl
      rw [e0]
      exact step M V hC (fun i => by unfold R2; rw [hb]; exact (Int32.add_zero _).symm) FC.rf
    | some w2 =>
      have hv := ldN_lt hb
      obtain ⟨X, x1, x2, x3⟩ := ring60_go (S := S) (x6 := nI w1) (t1 := t1) (r29 := f_X10_ring_29 r3 (nI t0) (nI t1) (nI t2) (nI w0) (nI j1) (nI w1) F) (j2 := j) h1 (by omega) ht0 ht2 hw0 hv (nQ S) FU 0 M V hK hS (by omega) hC (FU_of (by omega))
      obtain ⟨M', p1, p2, p3⟩ := step X _ x2 (fun i => by unfold R2; rw [hb]) x3
      exact ⟨M', x1.trans p1, p2, p3⟩
theorem ring3_go {S : Nat → Nat → Int32} {t0 t1 t2 w0 : Nat} (ht0 : t0 < 6) (ht1 : t1 < 6) (ht2 : t2 < 6) (hw0 : w0 < 8) : ∀ (d F j : Nat) (M : Mem) (V : Nat → Int32), KK M → St M = S → j + d = nQ S → RN V M → d < F → ∃ M', f_X10_ring_3 (nI t0) (nI t1) (nI t2) (nI w0) F (nI j) M = some ((), M') ∧ RN (fun i => V i + sT (fun j1 => R1 S t0 t1 t2 w0 j1 i) d j) M' ∧ FC M M' := by
  intro d
  induction d with
  | zero =>
    intro F j M V hK hS hj hC hF
    obtain ⟨F, rfl⟩ : ∃ F', F = F' + 1 := ⟨F - 1, by omega⟩
    have h24 := nQ_le hK.1.2.2.2.2
    rw [hS] at h24
    have e112 : M.1 112 0 = nI (nQ S) := by rw [show M.1 112 0 = St M 18 0 from hK.2.2.2.2.2.1, hS]; exact nQ_eq (by rw [← hS]; exact hK.1.2.2.2.2)
    refine ⟨M, ?_, RN_ext hC (fun i => (Int32.add_zero _).symm), FC.rf⟩
    show f_X10_ring_3_b (f_X10_ring_3 (nI t0) (nI t1) (nI t2) (nI w0) F) (nI t0) (nI t1) (nI t2) (nI w0) (nI j) M = _
    unfold f_X10_ring_3_b
    rw [e112, if_pos (nI_le (by omega) (by omega))]
  | succ d ih =>
    intro F j M V hK hS hj hC hF
    obtain ⟨F, rfl⟩ : ∃ F', F = F' + 1 := ⟨F - 1, by omega⟩
    have h24 := nQ_le hK.1.2.2.2.2
    rw [hS] at h24
    have e112 : M.1 112 0 = nI (nQ S) := by rw [show M.1 112 0 = St M 18 0 from hK.2.2.2.2.2.1, hS]; exact nQ_eq (by rw [← hS]; exact hK.1.2.2.2.2)
    have eL : f_X10_leads (nI j) (nI t0) (nI w0) (nI t1) M = some (oI (ldN S j t0 w0 t1)) := by
      have := ev_leads hK (j := j) (t := t0) (w := w0) (u := t1) (by rw [hS]; omega) ht0 hw0 ht1
      rw [hS] at this; exact this
    have step : ∀ (X : Mem) (W : Nat → Int32), RN W X → (∀ i, W i = V i + R1 S t0 t1 t2 w0 j i) → FC M X → ∃ M', f_X10_ring_3 (nI t0) (nI t1) (nI t2) (nI w0) F (nI (j + 1)) X = some ((), M') ∧ RN (fun i => V i + sT (fun j1 => R1 S t0 t1 t2 w0 j1 i) (d + 1) j) M' ∧ FC M M' := by
      intro X W hW hE hF
      obtain ⟨M', p1, p2, p3⟩ := ih F (j + 1) X W (KK_Sc hK (FC_Sc hF)) (by rw [St_Sc (FC_Sc hF), hS]) (by omega) hW (by omega)
      exact ⟨M', p1, RN_ext p2 (fun i => by rw [hE, sT_s, Int32.add_assoc]), hF.tr p3⟩
    have eX : f_X10_ring_3 (nI t0) (nI t1) (nI t2) (nI w0) (F + 1) (nI j) M = f_X10_ring_29 (f_X10_ring_3 (nI t0) (nI t1) (nI t2) (nI w0) F) (nI t0) (nI t1) (nI t2) (nI w0) (nI j) (oI (ldN S j t0 w0 t1)) FU (nI 0) M := by
      show f_X10_ring_3_b (f_X10_ring_3 (nI t0) (nI t1) (nI t2) (nI w0) F) (nI t0) (nI t1) (nI t2) (nI w0) (nI j) M = _
      unfold f_X10_ring_3_b
      rw [e112, if_neg (nI_ge (by omega) (by omega)), eL, cp_s]; rfl
    rw [eX]
    cases hb : ldN S j t0 w0 t1 with
    | none =>
      have e0 : f_X10_ring_29 (f_X10_ring_3 (nI t0) (nI t1) (nI t2) (nI w0) F) (nI t0) (nI t1) (nI t2) (nI w0) (nI j) (oI none) FU (nI 0) M = f_X10_ring_3 (nI t0) (nI t1) (nI t2) (nI w0) F (nI (j + 1)) M := by
        show f_X10_ring_29_b (f_X10_ring_3 (nI t0) (nI t1) (nI t2) (nI w0) F) (f_X10_ring_29 (f_X10_ring_3 (nI t0) (nI t1) (nI t2) (nI w0) F) (nI t0) (nI t1) (nI t2) (nI w0) (nI j) (oI none) 99999) (nI t0) (nI t1) (nI t2) (nI w0) (nI j) (oI none) (nI 0) M = _
        unfold f_X10_ring_29_b f_X10_ring_127
        rw [if_pos (show oI none < 0 by decide), nI_1]
        split <;> rfl
      rw [e0]
      exact step M V hC (fun i => by unfold R1; rw [hb]; exact (Int32.add_zero _).symm) FC.rf
    | some w1 =>
      have hv := ldN_lt hb
      obtain ⟨X, x1, x2, x3⟩ := ring29_go (S := S) (t0 := t0) (t1 := t1) (t2 := t2) (w0 := w0) (r3 := f_X10_ring_3 (nI t0) (nI t1) (nI t2) (nI w0) F) (j1 := j) (by omega) ht0 ht1 ht2 hw0 hv (nQ S) FU 0 M V hK hS (by omega) hC (FU_of (by omega))
      obtain ⟨M', p1, p2, p3⟩ := step X _ x2 (fun i => by unfold R1; rw [hb]) x3
      exact ⟨M', x1.trans p1, p2, p3⟩
def A4 (S : Nat → Nat → Int32) (t0 t1 t2 : Nat) (i : Nat) : Int32 := if t1 = t2 then 0 else sT (fun w0 => sT (fun j1 => R1 S t0 t1 t2 w0 j1 i) (nQ S) 0) (nW S t0) 0
def A3 (S : Nat → Nat → Int32) (t0 t1 : Nat) (i : Nat) : Int32 := sT (fun t2 => A4 S t0 t1 t2 i) (nT S - (t0 + 1)) (t0 + 1)
def A2 (S : Nat → Nat → Int32) (t0 : Nat) (i : Nat) : Int32 := sT (fun t1 => A3 S t0 t1 i) (nT S - (t0 + 1)) (t0 + 1)
def A1 (S : Nat → Nat → Int32) (i : Nat) : Int32 := sT (fun t0 => A2 S t0 i) (nT S) 0
theorem all81_go {S : Nat → Nat → Int32} {t0 t1 t2 : Nat} {r68 : Int32 → Mem → Option (Unit × Mem)} (h0 : t0 < nT S) (h1 : t1 < 6) (h2 : t2 < 6) (hne : t1 ≠ t2) : ∀ (d F w : Nat) (M : Mem) (V : Nat → Int32), KK M → St M = S → w + d = nW S t0 → RN V M → d < F → ∃ M', f_X10_allRings_81 r68 (nI t0) (nI t1) (nI t2) F (nI w) M = r68 (nI (t2 + 1)) M' ∧ RN (fun i => V i + sT (fun w0 => sT (fun j1 => R1 S t0 t1 t2 w0 j1 i) (nQ S) 0) d w) M' ∧ FC M M' := by
  intro d
  induction d with
  | zero =>
    intro F w M V hK hS hw hC hF
    obtain ⟨F, rfl⟩ : ∃ F', F = F' + 1 := ⟨F - 1, by omega⟩
    have hT : IvT S := by rw [← hS]; exact hK.1.1
    have h6 := nT_le hT
    have h8 := nW_le hT (show t0 < 6 by omega)
    have e113 : M.1 113 (4 * t0 + 3) = nI (nW S t0) := by rw [(rm113 hK (by rw [hS]; exact h0)).2.2.2, hS]; exact nW_eq hT (by omega)
    refine ⟨M, ?_, RN_ext hC (fun i => (Int32.add_zero _).symm), FC.rf⟩
    show f_X10_allRings_81_b r68 (f_X10_allRings_81 r68 (nI t0) (nI t1) (nI t2) F) (nI t0) (nI t1) (nI t2) (nI w) M = _
    unfold f_X10_allRings_81_b f_X10_allRings_116
    rw [i4t3, rd_n (by omega), e113, if_pos (nI_le (by omega) (by omega)), nI_1]
  | succ d ih =>
    intro F w M V hK hS hw hC hF
    obtain ⟨F, rfl⟩ : ∃ F', F = F' + 1 := ⟨F - 1, by omega⟩
    have hT : IvT S := by rw [← hS]; exact hK.1.1
    have h6 := nT_le hT
    have h8 := nW_le hT (show t0 < 6 by omega)
    have hq := nQ_le (show IvQ S by rw [← hS]; exact hK.1.2.2.2.2)
    have e113 : M.1 113 (4 * t0 + 3) = nI (nW S t0) := by rw [(rm113 hK (by rw [hS]; exact h0)).2.2.2, hS]; exact nW_eq hT (by omega)
    obtain ⟨X, x1, x2, x3⟩ := ring3_go (S := S) (t0 := t0) (t1 := t1) (t2 := t2) (w0 := w) (by omega) h1 h2 (by omega) (nQ S) FU 0 M V hK hS (by omega) hC (FU_of (by omega))
    obtain ⟨M', p1, p2, p3⟩ := ih F (w + 1) X _ (KK_Sc hK (FC_Sc x3)) (by rw [St_Sc (FC_Sc x3), hS]) (by omega) x2 (by omega)
    refine ⟨M', ?_, RN_ext p2 (fun i => by rw [sT_s, ← Int32.add_assoc]), x3.tr p3⟩
    show f_X10_allRings_81_b r68 (f_X10_allRings_81 r68 (nI t0) (nI t1) (nI t2) F) (nI t0) (nI t1) (nI t2) (nI w) M = _
    unfold f_X10_allRings_81_b f_X10_ring
    have x1' : f_X10_ring_3 (nI t0) (nI t1) (nI t2) (nI w) FU 0 M = some ((), X) := x1
    rw [i4t3, rd_n (by omega), e113, if_neg (nI_ge (by omega) (by omega)), if_neg (fun z => hne (nI_inj (by omega) (by omega) z)), x1', cl_s, nI_1, p1]
theorem all68_go {S : Nat → Nat → Int32} {t0 t1 : Nat} {r54 : Int32 → Mem → Option (Unit × Mem)} (h0 : t0 < nT S) (h1 : t1 < 6) : ∀ (d F t : Nat) (M : Mem) (V : Nat → Int32), KK M → St M = S → t + d = nT S → RN V M → d < F → ∃ M', f_X10_allRings_68 r54 (nI t0) (nI t1) F (nI t) M = r54 (nI (t1 + 1)) M' ∧ RN (fun i => V i + sT (fun t2 => A4 S t0 t1 t2 i) d t) M' ∧ FC M M' := by
  intro d
  induction d with
  | zero =>
    intro F t M V hK hS ht hC hF
    obtain ⟨F, rfl⟩ : ∃ F', F = F' + 1 := ⟨F - 1, by omega⟩
    have hT : IvT S := by rw [← hS]; exact hK.1.1
    have h6 := nT_le hT
    have e109 : M.1 109 0 = nI (nT S) := by rw [show M.1 109 0 = St M 1 0 from hK.2.1.1, hS]; exact nT_eq hT
    refine ⟨M, ?_, RN_ext hC (fun i => (Int32.add_zero _).symm), FC.rf⟩
    show f_X10_allRings_68_b r54 (f_X10_allRings_68 r54 (nI t0) (nI t1) F) (nI t0) (nI t1) (nI t) M = _
    unfold f_X10_allRings_68_b
    rw [e109, if_pos (nI_le (by omega) (by omega)), nI_1]
  | succ d ih =>
    intro F t M V hK hS ht hC hF
    obtain ⟨F, rfl⟩ : ∃ F', F = F' + 1 := ⟨F - 1, by omega⟩
    have hT : IvT S := by rw [← hS]; exact hK.1.1
    have h6 := nT_le hT
    have h8 := nW_le hT (show t0 < 6 by omega)
    have e109 : M.1 109 0 = nI (nT S) := by rw [show M.1 109 0 = St M 1 0 from hK.2.1.1, hS]; exact nT_eq hT
    have eX : f_X10_allRings_68 r54 (nI t0) (nI t1) (F + 1) (nI t) M = f_X10_allRings_81 (f_X10_allRings_68 r54 (nI t0) (nI t1) F) (nI t0) (nI t1) (nI t) FU (nI 0) M := by
      show f_X10_allRings_68_b r54 (f_X10_allRings_68 r54 (nI t0) (nI t1) F) (nI t0) (nI t1) (nI t) M = _
      unfold f_X10_allRings_68_b
      rw [e109, if_neg (nI_ge (by omega) (by omega))]; rfl
    have inner : ∃ X, f_X10_allRings_81 (f_X10_allRings_68 r54 (nI t0) (nI t1) F) (nI t0) (nI t1) (nI t) FU (nI 0) M = f_X10_allRings_68 r54 (nI t0) (nI t1) F (nI (t + 1)) X ∧ RN (fun i => V i + A4 S t0 t1 t i) X ∧ FC M X := by
      by_cases hne : t1 = t
      · refine ⟨M, ?_, RN_ext hC (fun i => by unfold A4; rw [if_pos hne, Int32.add_zero]), FC.rf⟩
        have e113 : M.1 113 (4 * t0 + 3) = nI (nW S t0) := by rw [(rm113 hK (by rw [hS]; exact h0)).2.2.2, hS]; exact nW_eq hT (by omega)
        show f_X10_allRings_81_b (f_X10_allRings_68 r54 (nI t0) (nI t1) F) (f_X10_allRings_81 (f_X10_allRings_68 r54 (nI t0) (nI t1) F) (nI t0) (nI t1) (nI t) 99999) (nI t0) (nI t1) (nI t) (nI 0) M = _
        unfold f_X10_allRings_81_b f_X10_allRings_116
        rw [i4t3, rd_n (by omega), if_pos (show nI t1 = nI t from congrArg nI hne), nI_1]
        split <;> rfl
      · obtain ⟨X, x1, x2, x3⟩ := all81_go (r68 := f_X10_allRings_68 r54 (nI t0) (nI t1) F) h0 h1 (show t < 6 by omega) hne (nW S t0) FU 0 M V hK hS (by omega) hC (FU_of (by omega))
        exact ⟨X, x1, RN_ext x2 (fun i => by unfold A4; rw [if_neg hne]), x3⟩
    obtain ⟨X, x1, x2, x3⟩ := inner
    obtain ⟨M', p1, p2, p3⟩ := ih F (t + 1) X _ (KK_Sc hK (FC_Sc x3)) (by rw [St_Sc (FC_Sc x3), hS]) (by omega) x2 (by omega)
    exact ⟨M', by rw [eX, x1, p1], RN_ext p2 (fun i => by rw [sT_s, ← Int32.add_assoc]), x3.tr p3⟩
theorem all54_go {S : Nat → Nat → Int32} {t0 : Nat} {r40 : Int32 → Mem → Option (Unit × Mem)} (h0 : t0 < nT S) : ∀ (d F t : Nat) (M : Mem) (V : Nat → Int32), KK M → St M = S → t + d = nT S → RN V M → d < F → ∃ M', f_X10_allRings_54 r40 (nI t0) F (nI t) M = r40 (nI (t0 + 1)) M' ∧ RN (fun i => V i + sT (fun t1 => A3 S t0 t1 i) d t) M' ∧ FC M M' := by
  intro d
  induction d with
  | zero =>
    intro F t M V hK hS ht hC hF
    obtain ⟨F, rfl⟩ : ∃ F', F = F' + 1 := ⟨F - 1, by omega⟩
    have hT : IvT S := by rw [← hS]; exact hK.1.1
    have h6 := nT_le hT
    have e109 : M.1 109 0 = nI (nT S) := by rw [show M.1 109 0 = St M 1 0 from hK.2.1.1, hS]; exact nT_eq hT
    refine ⟨M, ?_, RN_ext hC (fun i => (Int32.add_zero _).symm), FC.rf⟩
    show f_X10_allRings_54_b r40 (f_X10_allRings_54 r40 (nI t0) F) (nI t0) (nI t) M = _
    unfold f_X10_allRings_54_b
    rw [e109, if_pos (nI_le (by omega) (by omega)), nI_1]
  | succ d ih =>
    intro F t M V hK hS ht hC hF
    obtain ⟨F, rfl⟩ : ∃ F', F = F' + 1 := ⟨F - 1, by omega⟩
    have hT : IvT S := by rw [← hS]; exact hK.1.1
    have h6 := nT_le hT
    have e109 : M.1 109 0 = nI (nT S) := by rw [show M.1 109 0 = St M 1 0 from hK.2.1.1, hS]; exact nT_eq hT
    obtain ⟨X, x1, x2, x3⟩ := all68_go (r54 := f_X10_allRings_54 r40 (nI t0) F) h0 (show t < 6 by omega) (nT S - (t0 + 1)) FU (t0 + 1) M V hK hS (by omega) hC (FU_of (by omega))
    obtain ⟨M', p1, p2, p3⟩ := ih F (t + 1) X _ (KK_Sc hK (FC_Sc x3)) (by rw [St_Sc (FC_Sc x3), hS]) (by omega) x2 (by omega)
    refine ⟨M', ?_, RN_ext p2 (fun i => by rw [sT_s, ← Int32.add_assoc]; rfl), x3.tr p3⟩
    show f_X10_allRings_54_b r40 (f_X10_allRings_54 r40 (nI t0) F) (nI t0) (nI t) M = _
    unfold f_X10_allRings_54_b
    rw [e109, if_neg (nI_ge (by omega) (by omega)), nI_1, x1, p1]
theorem all40_go {S : Nat → Nat → Int32} : ∀ (d F t : Nat) (M : Mem) (V : Nat → Int32), KK M → St M = S → t + d = nT S → RN V M → d < F → ∃ M', f_X10_allRings_40 F (nI t) M = some ((), M') ∧ RN (fun i => V i + sT (fun t0 => A2 S t0 i) d t) M' ∧ FC M M' := by
  intro d
  induction d with
  | zero =>
    intro F t M V hK hS ht hC hF
    obtain ⟨F, rfl⟩ : ∃ F', F = F' + 1 := ⟨F - 1, by omega⟩
    have hT : IvT S := by rw [← hS]; exact hK.1.1
    have h6 := nT_le hT
    have e109 : M.1 109 0 = nI (nT S) := by rw [show M.1 109 0 = St M 1 0 from hK.2.1.1, hS]; exact nT_eq hT
    refine ⟨M, ?_, RN_ext hC (fun i => (Int32.add_zero _).symm), FC.rf⟩
    show f_X10_allRings_40_b (f_X10_allRings_40 F) (nI t) M = _
    unfold f_X10_allRings_40_b
    rw [e109, if_pos (nI_le (by omega) (by omega))]
  | succ d ih =>
    intro F t M V hK hS ht hC hF
    obtain ⟨F, rfl⟩ : ∃ F', F = F' + 1 := ⟨F - 1, by omega⟩
    have hT : IvT S := by rw [← hS]; exact hK.1.1
    have h6 := nT_le hT
    have e109 : M.1 109 0 = nI (nT S) := by rw [show M.1 109 0 = St M 1 0 from hK.2.1.1, hS]; exact nT_eq hT
    obtain ⟨X, x1, x2, x3⟩ := all54_go (r40 := f_X10_allRings_40 F) (show t < nT S by omega) (nT S - (t + 1)) FU (t + 1) M V hK hS (by omega) hC (FU_of (by omega))
    obtain ⟨M', p1, p2, p3⟩ := ih F (t + 1) X _ (KK_Sc hK (FC_Sc x3)) (by rw [St_Sc (FC_Sc x3), hS]) (by omega) x2 (by omega)
    refine ⟨M', ?_, RN_ext p2 (fun i => by rw [sT_s, ← Int32.add_assoc]; rfl), x3.tr p3⟩
    show f_X10_allRings_40_b (f_X10_allRings_40 F) (nI t) M = _
    unfold f_X10_allRings_40_b
    rw [e109, if_neg (nI_ge (by omega) (by omega)), nI_1, x1, p1]
theorem all12_go : ∀ (d F i : Nat) (M : Mem), i + d = 24 → d < F → ∃ M', f_X10_allRings_12 F (nI i) M = f_X10_allRings_40 FU (nI 0) M' ∧ (∀ j, M'.1 127 j = if i ≤ j ∧ j < 24 then 0 else M.1 127 j) ∧ (∀ j, M'.1 128 j = if i ≤ j ∧ j < 24 then 0 else M.1 128 j) ∧ ∀ c, c ≠ 127 → c ≠ 128 → M'.1 c = M.1 c := by
  intro d
  induction d with
  | zero =>
    intro F i M hi hF
    obtain ⟨F, rfl⟩ : ∃ F', F = F' + 1 := ⟨F - 1, by omega⟩
    refine ⟨M, ?_, fun j => by rw [if_neg (by omega)], fun j => by rw [if_neg (by omega)], fun _ _ _ => rfl⟩
    show f_X10_allRings_12_b (f_X10_allRings_12 F) (nI i) M = _
    unfold f_X10_allRings_12_b
    rw [if_pos (show (24 : Int32) ≤ nI i from nI_le (a := 24) (by omega) (by omega))]; rfl
  | succ d ih =>
    intro F i M hi hF
    obtain ⟨F, rfl⟩ : ∃ F', F = F' + 1 := ⟨F - 1, by omega⟩
    obtain ⟨M', q1, q2, q3, q4⟩ := ih F (i + 1) (mset (mset M 127 i 0) 128 i 0) (by omega) (by omega)
    refine ⟨M', ?_, fun j => ?_, fun j => ?_, fun c h1 h2 => by rw [q4 c h1 h2, mset_ne h2, mset_ne h1]⟩
    · show f_X10_allRings_12_b (f_X10_allRings_12 F) (nI i) M = _
      unfold f_X10_allRings_12_b
      rw [if_neg (show ¬ (24 : Int32) ≤ nI i from nI_ge (b := 24) (by omega) (by omega)), ck_n (by omega), stm_s, ck_n (by omega), stm_s, nI_clamp (by omega), nI_1, q1]
    · rw [q2, mset_ne (by omega), mset_at]
      by_cases h : i + 1 ≤ j ∧ j < 24
      · rw [if_pos h, if_pos (by omega)]
      · rw [if_neg h]
        by_cases h2 : j = i
        · rw [if_pos ⟨rfl, h2⟩, if_pos (by omega)]
        · rw [if_neg (by omega), if_neg (by omega)]
    · rw [q3, mset_at, mset_ne (show 128 ≠ 127 by omega)]
      by_cases h : i + 1 ≤ j ∧ j < 24
      · rw [if_pos h, if_pos (by omega)]
      · rw [if_neg h]
        by_cases h2 : j = i
        · rw [if_pos ⟨rfl, h2⟩, if_pos (by omega)]
        · rw [if_neg (by omega), if_neg (by omega)]
theorem ev_allRings {M : Mem} (hK : KK M) : ∃ M', f_X10_allRings M = some ((), M') ∧ RN (A1 (St M)) M' ∧ FC M M' := by
  have h6 := nT_le hK.1.1
  have f0 : FC M (mset (mset M 108 24 0) 108 25 0) := ⟨fun c h1 h2 h3 => by rw [mset_ne h1, mset_ne h1], fun j h1 h2 => by rw [mset_at, if_neg (by omega), mset_at, if_neg (by omega)]⟩
  obtain ⟨M1, g1, g2, g3, g4⟩ := all12_go 24 FU 0 (mset (mset M 108 24 0) 108 25 0) (by omega) (FU_of (by omega))
  have f1 : FC M M1 := f0.tr ⟨fun c h1 h2 h3 => g4 c h2 h3, fun j h1 h2 => by rw [g4 108 (by omega) (by omega)]⟩
  have c1 : RN (fun _ => 0) M1 := by
    refine ⟨?_, ?_, fun j hj => ⟨by rw [g2, if_pos (by omega)], by rw [g3, if_pos (by omega)]⟩⟩
    · rw [g4 108 (by omega) (by omega), mset_at, if_neg (by omega), mset_at, if_pos ⟨rfl, rfl⟩]
    · rw [g4 108 (by omega) (by omega), mset_at, if_pos ⟨rfl, rfl⟩]
  obtain ⟨M', p1, p2, p3⟩ := all40_go (nT (St M)) FU 0 M1 (fun _ => 0) (KK_Sc hK (FC_Sc f1)) (St_Sc (FC_Sc f1)) (by omega) c1 (FU_of (by omega))
  refine ⟨M', ?_, RN_ext p2 (fun i => Int32.zero_add _), f1.tr p3⟩
  unfold f_X10_allRings
  rw [stm_s, stm_s]
  exact g1.trans p1
