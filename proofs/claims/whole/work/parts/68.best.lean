/-! best, third -/
def bestL (U : Nat → Int32) : List Nat → Int32 → Nat → Int32 × Nat
  | [], b, x => (b, x)
  | c :: l, b, x => if b ≤ U c then bestL U l b x else bestL U l (U c) c
theorem bestL_n {U : Nat → Int32} {b : Int32} {x : Nat} : bestL U [] b x = (b, x) := rfl
theorem bestL_c {U : Nat → Int32} {c : Nat} {l : List Nat} {b : Int32} {x : Nat} : bestL U (c :: l) b x = if b ≤ U c then bestL U l b x else bestL U l (U c) c := rfl
def uR (S : Nat → Nat → Int32) (k : Int32) (t L c : Nat) : Int32 := unl (nP S) (stepQ S k t (QR S k (dg S L c) L)) (Q0 S)
theorem sI_le {f : Nat → Int32} {e : Nat} : ∀ n, (∀ i, i < n → ∃ m, m ≤ e ∧ f i = nI m) → ∃ m, m ≤ e * n ∧ sI f n = nI m := by
  intro n
  induction n with
  | zero => intro _; exact ⟨0, by omega, rfl⟩
  | succ n ih =>
    intro h
    obtain ⟨a, ha, ea⟩ := ih (fun i hi => h i (by omega))
    obtain ⟨b, hb, eb⟩ := h n (by omega)
    exact ⟨a + b, by rw [Nat.mul_succ]; omega, by rw [sI_s, ea, eb, nI_add]⟩
theorem unl_le {n : Nat} {Q Q' : Nat → Nat → Int32} (hn : n ≤ 6) (h : QOk n Q) (h' : QOk n Q') : ∃ m, m ≤ 100 ∧ unl n Q Q' = nI m := by
  obtain ⟨a, ha, ea⟩ := sI_le (f := pbF Q Q') (e := 8) n (fun i hi => by
    obtain ⟨m, hm, e⟩ := bc_U (U_and (z := Q' 0 i ^^^ -1) (h.1 i hi).1)
    exact ⟨m, by omega, e⟩)
  obtain ⟨b, hb, eb⟩ := sI_le (f := pbF Q' Q) (e := 8) n (fun i hi => by
    obtain ⟨m, hm, e⟩ := bc_U (U_and (z := Q 0 i ^^^ -1) (h'.1 i hi).1)
    exact ⟨m, by omega, e⟩)
  obtain ⟨c, hc, ec⟩ := sI_le (f := dfF Q Q') (e := 1) 4 (fun i hi => by
    unfold dfF
    split
    · exact ⟨0, by omega, rfl⟩
    · exact ⟨1, by omega, rfl⟩)
  exact ⟨a + b + c, by omega, by unfold unl; rw [ea, eb, ec, nI_add, nI_add]⟩
theorem uR_le {S : Nat → Nat → Int32} (hT : IvT S) (hP : IvP S) {k : Int32} {t L c : Nat} (ht : t < nT S) (hw : 0 < nW S t) (hv : vld S L c = true) : ∃ m, m ≤ 100 ∧ uR S k t L c = nI m := by
  refine unl_le (nP_le hP) (stepQ_ok hT ht hw (QR_ok hT hP L (fun j hj => ⟨dg_lt (by omega) L c j, ?_⟩))) (Q0_ok hP)
  have := dg_vc L c j hv hj
  unfold vc at this; simpa using this
def KB (S : Nat → Nat → Int32) (L : Nat) (b : Int32) (x : Nat) (M : Mem) : Prop := b ≠ 1000 → vld S L x = true ∧ x < nT S ^ L ∧ ∀ i, i < L → M.1 74 i = nI (dg S L x i)
def FL (M M' : Mem) : Prop := ∀ c, (c < 72 ∨ 103 < c ∨ (95 < c ∧ c < 100)) → M'.1 c = M.1 c
theorem FL_Sc {M M' : Mem} (h : FL M M') (h4 : M'.1 4 = M.1 4) : Sc M M' := ⟨fun c h1 h2 => h c (by omega), fun c h1 h2 => h c (by omega), by rw [h 108 (by omega)], by rw [h 108 (by omega)]⟩
theorem least_go {S : Nat → Nat → Int32} {k : Int32} {t L : Nat} (hT : IvT S) (hP : IvP S) (hL : L ≤ 4) (ht : t < nT S) (hw : 0 < nW S t) : ∀ (N F c m x : Nat) (b : Int32) (M : Mem), nT S ^ L - c ≤ N → St M = S → vld S L c = true → c < nT S ^ L → m ≤ c → RW S k L (dg S L c) M → KB S L b x M → N < F → ∃ M', f_X9_leastUnlike_23 k (nI t) (nI L) F b 1 (nI m) M = some ((bestL (uR S k t L) (rowsOf S L c) b x).1, M') ∧ KB S L (bestL (uR S k t L) (rowsOf S L c) b x).1 (bestL (uR S k t L) (rowsOf S L c) b x).2 M' ∧ FL M M' := by
  have h6 := nT_le hT
  have hp6 := nP_le hP
  have hN := pow_le h6 hL
  intro N
  induction N with
  | zero => intro F c m x b M h0 hS hv hc; omega
  | succ N ih =>
    intro F c m x b M h0 hS hv hc hm hR hKB hF
    obtain ⟨F, rfl⟩ : ∃ F', F = F' + 1 := ⟨F - 1, by omega⟩
    obtain ⟨M1, g1, g2, g3⟩ := ev_copyQ (k0 := 100) (by omega) hp6 (hR.2.2.2 L (Nat.le_refl _))
    have hS1 : St M1 = S := by rw [St_sc (fun c c1 c2 => g3 c (by omega)), hS]
    have g2' : CQ (nP (St M1)) 100 (QR S k (dg S L c) L) M1 := by rw [hS1]; exact g2
    obtain ⟨M2, q1, q2, q3⟩ := ev_carry (k := k) (t := t) (by omega) (by rw [hS1]; exact hp6) (by rw [hS1]; exact hT) (by rw [hS1]; exact ht) (by rw [hS1]; exact hw) g2'
    rw [hS1] at q2
    have fr2 : ∀ c, (c < 100 ∨ 103 < c) → M2.1 c = M.1 c := fun c hc => (q3 c (by omega) (by omega) (by omega)).trans (g3 c (by omega))
    have hS2 : St M2 = S := by rw [St_sc (fun c c1 c2 => fr2 c (by omega)), hS]
    have c14 : CQ (nP S) 14 (Q0 S) M2 := by have := CQ_main (M := M2) (by rw [hS2]; exact hP); rw [hS2] at this; exact this
    have eU : f_X7_unlikeness 100 14 M2 = some (uR S k t L c) := ev_unlikeness hp6 q2 c14
    have hR2 : RW S k L (dg S L c) M2 := RW_fr hR hL (fun c c1 c2 _ _ => fr2 c (by omega))
    -- what follows, from a state with this row
    have tail : ∀ (b' : Int32) (x' : Nat) (X : Mem), St X = S → RW S k L (dg S L c) X → KB S L b' x' X → FL M X → ∃ M', f_X9_leastUnlike_102 (f_X9_leastUnlike_23 k (nI t) (nI L) F) k (nI t) (nI L) b' (nI m) X = some ((bestL (uR S k t L) (match nxt S L c with | some c' => rowsOf S L c' | none => []) b' x').1, M') ∧ KB S L (bestL (uR S k t L) (match nxt S L c with | some c' => rowsOf S L c' | none => []) b' x').1 (bestL (uR S k t L) (match nxt S L c with | some c' => rowsOf S L c' | none => []) b' x').2 M' ∧ FL M M' := by
      intro b' x' X hX hRX hKX hFX
      obtain ⟨fl, X1, r1, r2, r3⟩ := ev_goOn (k := k) hT hP hL hv hc hX hRX
      obtain ⟨s1, s2⟩ := nxt_spec L c hc hv
      have hKX1 : KB S L b' x' X1 := fun h => by rw [r3 74 (by omega)]; exact hKX h
      have hFX1 : FL M X1 := fun c hc => (r3 c (by omega)).trans (hFX c hc)
      have hS1 : St X1 = S := by rw [St_sc (fun c c1 c2 => r3 c (by omega)), hX]
      unfold f_X9_leastUnlike_102
      rw [r1, cl_s, nI_1]
      cases hx : nxt S L c with
      | some c' =>
        rw [hx] at r2
        obtain ⟨rfl, r2⟩ := r2
        obtain ⟨a1, a2, a3, a4⟩ := s1 c' hx
        obtain ⟨M', p1, p2, p3⟩ := ih F c' (m + 1) x' b' X1 (by omega) hS1 a3 a2 (by omega) r2 hKX1 (by omega)
        exact ⟨M', p1, p2, fun c hc => (p3 c hc).trans (hFX1 c hc)⟩
      | none =>
        rw [hx] at r2
        obtain ⟨rfl, r2⟩ := r2
        refine ⟨X1, ?_, hKX1, hFX1⟩
        obtain ⟨F, rfl⟩ : ∃ F', F = F' + 1 := ⟨F - 1, by omega⟩
        show f_X9_leastUnlike_23_b (f_X9_leastUnlike_23 k (nI t) (nI L) F) k (nI t) (nI L) b' 0 (nI (m + 1)) X1 = _
        unfold f_X9_leastUnlike_23_b
        rw [if_pos rfl]; rfl
    have eX : f_X9_leastUnlike_23 k (nI t) (nI L) (F + 1) b 1 (nI m) M = if b ≤ uR S k t L c then f_X9_leastUnlike_102 (f_X9_leastUnlike_23 k (nI t) (nI L) F) k (nI t) (nI L) b (nI m) M2 else f_X9_leastUnlike_102 (f_X9_leastUnlike_23 k (nI t) (nI L) F) k (nI t) (nI L) (uR S k t L c) (nI m) (mcpy M2 73 74 0 0 4) := by
      show f_X9_leastUnlike_23_b (f_X9_leastUnlike_23 k (nI t) (nI L) F) k (nI t) (nI L) b 1 (nI m) M = _
      unfold f_X9_leastUnlike_23_b f_X6_keepFirst
      rw [if_neg (by decide), if_neg (show ¬ (10000 : Int32) ≤ nI m from nI_ge (b := 10000) (by omega) (by omega)), ck_n (by omega), nI_clamp (by omega), g1, cl_s, q1, cl_s, eU, cp_s, stm_s, cl_s]
    rw [eX, rows_next hc hv, bestL_c]
    by_cases hb : b ≤ uR S k t L c
    · rw [if_pos hb, if_pos hb]
      exact tail b x M2 hS2 hR2 (fun h => by rw [fr2 74 (by omega)]; exact hKB h) (fun c hc => fr2 c (by omega))
    · rw [if_neg hb, if_neg hb]
      have fr3 : ∀ c, c ≠ 74 → (mcpy M2 73 74 0 0 4).1 c = M2.1 c := fun c hc => mcpy_ne hc
      refine tail (uR S k t L c) c (mcpy M2 73 74 0 0 4) ?_ ?_ ?_ ?_
      · rw [St_sc (fun c c1 c2 => fr3 c (by omega)), hS2]
      · exact RW_fr hR2 hL (fun c c1 c2 h1 _ => fr3 c h1)
      · intro _
        refine ⟨hv, hc, fun i hi => ?_⟩
        rw [mcpy_at, if_pos ⟨rfl, by omega⟩]
        exact hR2.2.2.1 i hi
      · intro c hc
        rw [fr3 c (by omega), fr2 c (by omega)]
theorem ev_least {k : Int32} {t L : Nat} {M : Mem} (hT : IvT (St M)) (hP : IvP (St M)) (hL : L ≤ 4) (ht : t < nT (St M)) (hw : 0 < nW (St M) t) : ∃ M', f_X9_leastUnlike k (nI t) (nI L) M = some ((bestL (uR (St M) k t L) (rowsOf (St M) L 0) 1000 0).1, M') ∧ KB (St M) L (bestL (uR (St M) k t L) (rowsOf (St M) L 0) 1000 0).1 (bestL (uR (St M) k t L) (rowsOf (St M) L 0) 1000 0).2 M' ∧ FL M M' := by
  have h6 := nT_le hT
  have hN := pow_le h6 hL
  have hvt : vc (St M) t = true := by unfold vc; exact decide_eq_true hw
  obtain ⟨f1, f2, f3, f4⟩ := fV_spec ht hvt
  obtain ⟨M1, g1, g2, g3⟩ := ev_begin (k := k) hT hP hL
  have hS1 : St M1 = St M := St_sc (fun c c1 c2 => g3 c (by omega))
  obtain ⟨z1, z2, z3, z4⟩ := cf_spec f1 f2 f3 L
  obtain ⟨M', p1, p2, p3⟩ := least_go (k := k) (t := t) hT hP hL ht hw (nT (St M) ^ L - cf (St M) L) FU (cf (St M) L) 0 0 1000 M1 (Nat.le_refl _) hS1 z2 z1 (by omega) (g2 (fun _ h => by rw [f4] at h; cases h)) (fun h => absurd rfl h) (FU_of (by omega))
  rw [← rows_first f1 f2 f3] at p1 p2
  refine ⟨M', ?_, p2, fun c hc => (p3 c hc).trans (g3 c (by omega))⟩
  unfold f_X9_leastUnlike
  rw [g1, cl_s, if_neg (fun h => by rw [f4] at h; cases h.2)]
  exact p1
/-! and by the other -/
def FB (M M' : Mem) : Prop := (∀ c, c ≠ 108 → c ≠ 125 → c ≠ 126 → M'.1 c = M.1 c) ∧ ∀ j, j ≠ 27 → M'.1 108 j = M.1 108 j
theorem FB.tr {M M1 M2 : Mem} (h : FB M M1) (g : FB M1 M2) : FB M M2 := ⟨fun c a b d => (g.1 c a b d).trans (h.1 c a b d), fun j a => (g.2 j a).trans (h.2 j a)⟩
theorem FB_Sc {M M' : Mem} (h : FB M M') : Sc M M' := ⟨fun c h1 h2 => h.1 c (by omega) (by omega) (by omega), fun c h1 h2 => h.1 c (by omega) (by omega) (by omega), h.2 11 (by omega), h.2 12 (by omega)⟩
theorem over_go {S : Nat → Nat → Int32} {k : Int32} {t L : Nat} (hk : U 6 k) (hL : L ≤ 4) (ht : t < nT S) (hw : 0 < nW S t) : ∀ (d F c x : Nat) (b : Int32) (M : Mem), KK M → St M = S → c + d = nT S ^ L → M.1 108 27 = nI x → d < F → ∃ M', f_X10_bestOver_13 k (nI t) (nI L) F b (nI c) M = some ((bestL (uR S k t L) (vs S L d c) b x).1, M') ∧ M'.1 108 27 = nI (bestL (uR S k t L) (vs S L d c) b x).2 ∧ FB M M' := by
  intro d
  induction d with
  | zero =>
    intro F c x b M hK hS hc hx hF
    obtain ⟨F, rfl⟩ : ∃ F', F = F' + 1 := ⟨F - 1, by omega⟩
    have hT : IvT S := by rw [← hS]; exact hK.1.1
    have hN := pow_le (nT_le hT) hL
    have e109 : M.1 109 0 = nI (nT S) := by rw [show M.1 109 0 = St M 1 0 from hK.2.1.1, hS]; exact nT_eq hT
    refine ⟨M, ?_, hx, fun _ _ _ _ => rfl, fun _ _ => rfl⟩
    show f_X10_bestOver_13_b (f_X10_bestOver_13 k (nI t) (nI L) F) k (nI t) (nI L) b (nI c) M = _
    unfold f_X10_bestOver_13_b
    rw [ev_codes e109 hL, cp_s, if_pos (nI_le (by omega) (by omega))]; rfl
  | succ d ih =>
    intro F c x b M hK hS hc hx hF
    obtain ⟨F, rfl⟩ : ∃ F', F = F' + 1 := ⟨F - 1, by omega⟩
    have hT : IvT S := by rw [← hS]; exact hK.1.1
    have hP : IvP S := by rw [← hS]; exact hK.1.2.1
    have hN := pow_le (nT_le hT) hL
    have hp6 := nP_le hP
    have e109 : M.1 109 0 = nI (nT S) := by rw [show M.1 109 0 = St M 1 0 from hK.2.1.1, hS]; exact nT_eq hT
    obtain ⟨M1, g1, g2, g3⟩ := ev_tries (M := M) (k := k) (L := L) (c := c) hK hk hL (fun _ => by rw [hS]; omega) (by rw [hS]; omega)
    rw [hS] at g1 g2
    have hF1 : FB M M1 := ⟨fun c h1 h2 h3 => g3 c h2 h3, fun j _ => by rw [g3 108 (by omega) (by omega)]⟩
    have hK1 : KK M1 := KK_Sc hK (FB_Sc hF1)
    have hS1 : St M1 = S := by rw [St_Sc (FB_Sc hF1), hS]
    have hx1 : M1.1 108 27 = nI x := by rw [g3 108 (by omega) (by omega)]; exact hx
    rw [vs_s]
    cases hv : vld S L c with
    | false =>
      rw [cond_f]
      obtain ⟨M', p1, p2, p3⟩ := ih F (c + 1) x b M1 hK1 hS1 (by omega) hx1 (by omega)
      refine ⟨M', ?_, p2, hF1.tr p3⟩
      show f_X10_bestOver_13_b (f_X10_bestOver_13 k (nI t) (nI L) F) k (nI t) (nI L) b (nI c) M = _
      unfold f_X10_bestOver_13_b f_X10_bestOver_102
      rw [ev_codes e109 hL, cp_s, if_neg (nI_ge (by omega) (by omega)), g1, hv, cl_s, if_pos (show bI false = 0 from rfl), nI_1, p1]
    | true =>
      rw [cond_t, bestL_c]
      obtain ⟨a1, a2⟩ := g2 hv
      have hr : ∀ i, i < L → dg S L c i < nT S ∧ 0 < nW S (dg S L c i) := fun i hi => ⟨dg_lt (by omega) L c i, by have := dg_vc L c i hv hi; unfold vc at this; simpa using this⟩
      have hO := QR_ok (k := k) hT hP L hr
      have e110 : M1.1 110 0 = nI (nP S) := by rw [rm110 hK1, hS1]; exact nP_eq hP
      obtain ⟨M2, q1, q2, q3, q4⟩ := ev_carries (q := 125) (len := 16) (a := 0) (b := 0) (n := nP S) (k := k) (t := t) (Q := QR S k (dg S L c) L) (M := M1) (by omega) (by omega) (by omega) (by omega) (by omega) hp6 hk hK1 (by rw [hS1]; exact ht) (by rw [hS1]; exact hw) e110 hO a1
      rw [hS1] at q2
      have hF2 : FB M1 M2 := ⟨fun c h1 h2 h3 => q3 c h2, fun j _ => by rw [q3 108 (by omega)]⟩
      have hK2 : KK M2 := KK_Sc hK1 (FB_Sc hF2)
      have hS2 : St M2 = S := by rw [St_Sc (FB_Sc hF2), hS1]
      have h117 : RQ (nP S) 117 0 (Q0 S) M2 := by have := RQ_117 hK2; rw [hS2] at this; exact this
      have e110' : M2.1 110 0 = nI (nP S) := by rw [q3 110 (by omega)]; exact e110
      have eU : f_X10_apart 125 16 117 48 (nI 0) (nI 0) M2 = some (uR S k t L c) := ap_go hp6 (by omega) (by omega) (by omega) (by omega) e110' (stepQ_ok hT ht hw hO) (Q0_ok hP) q2 h117
      have eU' : f_X10_apart 125 16 117 48 0 0 M2 = some (uR S k t L c) := eU
      have q1' : f_X10_carries 125 16 125 16 0 0 (nI t) k M1 = some ((), M2) := q1
      have hx2 : M2.1 108 27 = nI x := by rw [q3 108 (by omega)]; exact hx1
      have fin : ∀ (b' : Int32) (x' : Nat), ∃ M', f_X10_bestOver_13 k (nI t) (nI L) F b' (nI (c + 1)) (mset M2 108 27 (nI x')) = some ((bestL (uR S k t L) (vs S L d (c + 1)) b' x').1, M') ∧ M'.1 108 27 = nI (bestL (uR S k t L) (vs S L d (c + 1)) b' x').2 ∧ FB M M' := by
        intro b' x'
        have hF3 : FB M2 (mset M2 108 27 (nI x')) := ⟨fun c h1 h2 h3 => mset_ne h1, fun j hj => by rw [mset_at, if_neg (by omega)]⟩
        obtain ⟨M', p1, p2, p3⟩ := ih F (c + 1) x' b' (mset M2 108 27 (nI x')) (KK_Sc hK2 (FB_Sc hF3)) (by rw [St_Sc (FB_Sc hF3), hS2]) (by omega) (by rw [mset_at, if_pos ⟨rfl, rfl⟩]) (by omega)
        exact ⟨M', p1, p2, ((hF1.tr hF2).tr hF3).tr p3⟩
      have eX : f_X10_bestOver_13 k (nI t) (nI L) (F + 1) b (nI c) M = if b ≤ uR S k t L c then f_X10_bestOver_13 k (nI t) (nI L) F b (nI (c + 1)) (mset M2 108 27 (nI x)) else f_X10_bestOver_13 k (nI t) (nI L) F (uR S k t L c) (nI (c + 1)) (mset M2 108 27 (nI c)) := by
        show f_X10_bestOver_13_b (f_X10_bestOver_13 k (nI t) (nI L) F) k (nI t) (nI L) b (nI c) M = _
        unfold f_X10_bestOver_13_b f_X10_bestOver_83 f_X10_bestOver_100 f_X10_bestOver_102
        rw [ev_codes e109 hL, cp_s, if_neg (nI_ge (by omega) (by omega)), g1, hv, cl_s, if_neg (show ¬ bI true = 0 by decide), q1', cl_s, eU', cp_s, hx2, nI_1]
        by_cases hb : b ≤ uR S k t L c
        · rw [if_pos hb, if_pos hb, stm_s, if_pos hb]
        · rw [if_neg hb, if_neg hb, stm_s, if_neg hb]
      rw [eX]
      by_cases hb : b ≤ uR S k t L c
      · rw [if_pos hb, if_pos hb]; exact fin b x
      · rw [if_neg hb, if_neg hb]; exact fin _ c
theorem ev_over {k : Int32} {t L : Nat} {M : Mem} (hK : KK M) (hk : U 6 k) (hL : L ≤ 4) (ht : t < nT (St M)) (hw : 0 < nW (St M) t) : ∃ M', f_X10_bestOver k (nI t) (nI L) M = some ((bestL (uR (St M) k t L) (rowsOf (St M) L 0) 1000 0).1, M') ∧ M'.1 108 27 = nI (bestL (uR (St M) k t L) (rowsOf (St M) L 0) 1000 0).2 ∧ FB M M' := by
  have hN := pow_le (nT_le hK.1.1) hL
  have hF3 : FB M (mset M 108 27 (nI 0)) := ⟨fun c h1 h2 h3 => mset_ne h1, fun j hj => by rw [mset_at, if_neg (by omega)]⟩
  obtain ⟨M', p1, p2, p3⟩ := over_go (k := k) hk hL ht hw (nT (St M) ^ L - 0) FU 0 0 1000 (mset M 108 27 (nI 0)) (KK_Sc hK (FB_Sc hF3)) (St_Sc (FB_Sc hF3)) (by omega) (by rw [mset_at, if_pos ⟨rfl, rfl⟩]) (FU_of (by omega))
  refine ⟨M', ?_, p2, hF3.tr p3⟩
  unfold f_X10_bestOver
  rw [stm_s]
  exact p1
theorem bestL_ne {U : Nat → Int32} : ∀ (l : List Nat) (b : Int32) (x : Nat), b ≠ 1000 → (∀ c, c ∈ l → U c ≠ 1000) → (bestL U l b x).1 ≠ 1000 := by
  intro l
  induction l with
  | nil => intro b x h _; exact h
  | cons c l ih =>
    intro b x h hU
    rw [bestL_c]
    split
    · exact ih b x h (fun c hc => hU c (List.mem_cons_of_mem _ hc))
    · exact ih _ c (hU c (List.mem_cons_self ..)) (fun c hc => hU c (List.mem_cons_of_mem _ hc))
theorem vs_vld {S : Nat → Nat → Int32} {L : Nat} : ∀ (d c x : Nat), x ∈ vs S L d c → vld S L x = true := by
  intro d
  induction d with
  | zero => intro c x h; cases h
  | succ d ih =>
    intro c x h
    rw [vs_s] at h
    cases hv : vld S L c with
    | false => rw [hv, cond_f] at h; exact ih _ _ h
    | true =>
      rw [hv, cond_t] at h
      rcases List.mem_cons.mp h with rfl | h
      · exact hv
      · exact ih _ _ h
theorem best_ne {S : Nat → Nat → Int32} (hT : IvT S) (hP : IvP S) {k : Int32} {t L : Nat} (ht : t < nT S) (hw : 0 < nW S t) : (bestL (uR S k t L) (rowsOf S L 0) 1000 0).1 ≠ 1000 := by
  have hvt : vc S t = true := by unfold vc; exact decide_eq_true hw
  obtain ⟨f1, f2, f3, f4⟩ := fV_spec ht hvt
  obtain ⟨z1, z2, z3, z4⟩ := cf_spec f1 f2 f3 L
  have hu : ∀ c, vld S L c = true → uR S k t L c ≠ 1000 ∧ ¬ 1000 ≤ uR S k t L c := fun c hc => by
    obtain ⟨m, hm, e⟩ := uR_le (k := k) hT hP ht hw hc
    rw [e]
    exact ⟨fun h => by have := nI_inj (b := 1000) (by omega) (by omega) h; omega, nI_ge (b := 1000) (by omega) (by omega)⟩
  rw [rows_first f1 f2 f3, rows_next z1 z2, bestL_c, if_neg (hu _ z2).2]
  refine bestL_ne _ _ _ (hu _ z2).1 (fun c hc => (hu c ?_).1)
  cases hx : nxt S L (cf S L) with
  | none => rw [hx] at hc; cases hc
  | some c' => rw [hx] at hc; exact vs_vld _ _ _ hc
theorem Bd_m1 {x y : Int32} : True := trivial
theorem inR_m1 {n : Nat} (hn : n < 100) {x : Int32} : inR x (-1) (nI n - 1) = true ↔ x = -1 ∨ ∃ i, i < n ∧ x = nI i := by
  have h0 : (-1 : Int32).toInt = -1 := rfl
  have h1 : (nI n - 1).toInt = (n : Int) - 1 := by
    rw [Int32.toInt_sub, nI_toInt (by omega)]
    show ((n : Int) - 1).bmod (2 ^ 32) = _
    rw [Int.bmod_eq_of_le] <;> omega
  rw [inR_iff, Int32.le_iff_toInt_le, Int32.le_iff_toInt_le, h0, h1]
  constructor
  · intro ⟨g1, g2⟩
    by_cases h : x.toInt = -1
    · exact Or.inl (Int32.toInt_inj.mp (h.trans h0.symm))
    · refine Or.inr ⟨x.toInt.toNat, by omega, ?_⟩
      apply Int32.toInt_inj.mp
      rw [nI_toInt (by omega)]; omega
  · rintro (rfl | ⟨i, hi, rfl⟩)
    · rw [h0]; omega
    · rw [nI_toInt (by omega)]; omega
theorem nP_0 {S : Nat → Nat → Int32} (hP : IvP S) : S 9 0 = 0 ↔ nP S = 0 := by
  rw [nP_eq hP]
  have := nP_le hP
  constructor
  · intro h; exact nI_inj (b := 0) (by omega) (by omega) h
  · intro h; rw [h]; rfl
theorem op_best (a b c d : Int32) : opI gRel (f_X9_best a b c d) (f_X10_best a b c d) := by
  intro M hR
  have hK := KK_of hR
  have hT := hK.1.1
  have hP := hK.1.2.1
  have bad : (∀ X : Mem, KK X → St X = St M → f_X9_best a b c d X = f_X9_best_42 X) → (∀ X : Mem, KK X → St X = St M → f_X10_best a b c d X = f_X10_best_36 X) → ∃ r M1 M2, f_X9_best a b c d M = some (r, M1) ∧ f_X10_best a b c d M1 = some (r, M2) ∧ gRel M2 := fun hx hm => ⟨-2, rfX 0 M, rfM 0 (rfX 0 M), by rw [hx M hK rfl]; rfl, by rw [hm _ (KK_rfX hK) St_rfX]; rfl, gRel_rf hR⟩
  have no : (∀ X : Mem, KK X → St X = St M → f_X9_best a b c d X = f_X9_best_76 X) → (∀ X : Mem, KK X → St X = St M → f_X10_best a b c d X = f_X10_best_60 X) → ∃ r M1 M2, f_X9_best a b c d M = some (r, M1) ∧ f_X10_best a b c d M1 = some (r, M2) ∧ gRel M2 := fun hx hm => ⟨-3, rfX 1 M, rfM 1 (rfX 1 M), by rw [hx M hK rfl]; rfl, by rw [hm _ (KK_rfX hK) St_rfX]; rfl, gRel_rf hR⟩
  have eX : ∀ X : Mem, KK X → St X = St M → f_X9_best a b c d X = cond (inR a 0 5) (cond (tB (St M) b) (cond (inR c 0 3) (cond (inR d (-1) (c - 1)) (if St M 9 0 = 0 then f_X9_best_76 X else cond (spB (St M) b) (cl (f_X9_leastUnlike a b c X) fun v6 M1 => if d = (-1 : Int32) then some (v6, M1) else rd 4 (M1.1 74) d fun v7 => some (v7, M1)) (f_X9_best_76 X)) (f_X9_best_42 X)) (f_X9_best_42 X)) (f_X9_best_42 X)) (f_X9_best_42 X) := by
    intro X hX hs
    unfold f_X9_best
    rw [ev_isKind, cp_s, if_bI, ev_hasTongue, hs, cp_s, if_bI, ev_isIn, cp_s, if_bI, ev_isIn, cp_s, if_bI, k14, hs, ev_hasWords (by rw [hs]; exact hT), hs, cp_s, if_bI]
  have eM : ∀ X : Mem, KK X → St X = St M → f_X10_best a b c d X = cond (inR a 0 5) (cond (tB (St M) b) (cond (inR c 0 3) (cond (inR d (-1) (c - 1)) (if St M 9 0 = 0 then f_X10_best_60 X else cond (spB (St M) b) (cl (f_X10_bestOver a b c X) fun v6 M1 => if (0 : Int32) ≤ d then cl (f_X10_tries a c (M1.1 108 27) M1) fun v7 M2 => if v7 = (0 : Int32) then some ((-2 : Int32), M2) else rd 4 (M2.1 126) d fun v8 => some (v8, M2) else some (v6, M1)) (f_X10_best_60 X)) (f_X10_best_36 X)) (f_X10_best_36 X)) (f_X10_best_36 X)) (f_X10_best_36 X) := by
    intro X hX hs
    unfold f_X10_best
    rw [ev_isKindM, cp_s, if_bI, ev_isTongue hX, hs, cp_s, if_bI, ev_between, cp_s, if_bI, ev_between, cp_s, if_bI, rm110 hX, hs, ev_speaks hX, hs, cp_s, if_bI]
  cases h1 : inR a 0 5 with
  | false => exact bad (fun X hX hs => by rw [eX X hX hs, h1, cond_f]) (fun X hX hs => by rw [eM X hX hs, h1, cond_f])
  | true =>
  cases h2 : tB (St M) b with
  | false => exact bad (fun X hX hs => by rw [eX X hX hs, h1, h2, cond_t, cond_f]) (fun X hX hs => by rw [eM X hX hs, h1, h2, cond_t, cond_f])
  | true =>
  cases h3 : inR c 0 3 with
  | false => exact bad (fun X hX hs => by rw [eX X hX hs, h1, h2, h3, cond_t, cond_t, cond_f]) (fun X hX hs => by rw [eM X hX hs, h1, h2, h3, cond_t, cond_t, cond_f])
  | true =>
  cases h4 : inR d (-1) (c - 1) with
  | false => exact bad (fun X hX hs => by rw [eX X hX hs, h1, h2, h3, h4, cond_t, cond_t, cond_t, cond_f]) (fun X hX hs => by rw [eM X hX hs, h1, h2, h3, h4, cond_t, cond_t, cond_t, cond_f])
  | true =>
  by_cases h5 : St M 9 0 = 0
  · exact no (fun X hX hs => by rw [eX X hX hs, h1, h2, h3, h4, cond_t, cond_t, cond_t, cond_t, if_pos h5]) (fun X hX hs => by rw [eM X hX hs, h1, h2, h3, h4, cond_t, cond_t, cond_t, cond_t, if_pos h5])
  cases h6 : spB (St M) b with
  | false => exact no (fun X hX hs => by rw [eX X hX hs, h1, h2, h3, h4, cond_t, cond_t, cond_t, cond_t, if_neg h5, h6, cond_f]) (fun X hX hs => by rw [eM X hX hs, h1, h2, h3, h4, cond_t, cond_t, cond_t, cond_t, if_neg h5, h6, cond_f])
  | true =>
  obtain ⟨t, ht, hw, rfl⟩ := (spB_iff hT).mp h6
  obtain ⟨L, hL, rfl⟩ := (inR_lit (m := 3) (by decide)).mp h3
  obtain ⟨M1, g1, g2, g3⟩ := ev_least (k := a) (L := L) hT hP (by omega) ht hw
  have sc1 : Sc M M1 := FL_Sc g3 (g3 4 (by omega))
  have hK1 : KK M1 := KK_Sc hK sc1
  have hS1 : St M1 = St M := St_Sc sc1
  obtain ⟨M2, q1, q2, q3⟩ := ev_over (k := a) (t := t) (L := L) hK1 (kind_U h1) (by omega) (by rw [hS1]; exact ht) (by rw [hS1]; exact hw)
  rw [hS1] at q1 q2
  have hne := best_ne (k := a) (L := L) hT hP ht hw
  obtain ⟨v1, v2, v3⟩ := g2 hne
  rcases (inR_m1 (by omega)).mp h4 with hd | ⟨i, hi, hd⟩
  · refine ⟨(bestL (uR (St M) a t L) (rowsOf (St M) L 0) 1000 0).1, M1, M2, ?_, ?_, gRel_sc (gRel_sc hR sc1) (FB_Sc q3)⟩
    · rw [eX M hK rfl, h1, h2, h3, h4, cond_t, cond_t, cond_t, cond_t, if_neg h5, h6, cond_t, g1, cl_s, if_pos hd]
    · rw [eM M1 hK1 hS1, h1, h2, h3, h4, cond_t, cond_t, cond_t, cond_t, if_neg h5, h6, cond_t, q1, cl_s, if_neg (by rw [hd]; decide)]
  · have hK2 : KK M2 := KK_Sc hK1 (FB_Sc q3)
    have hS2 : St M2 = St M := by rw [St_Sc (FB_Sc q3), hS1]
    generalize (bestL (uR (St M) a t L) (rowsOf (St M) L 0) 1000 0).2 = bc at *
    generalize (bestL (uR (St M) a t L) (rowsOf (St M) L 0) 1000 0).1 = bv at *
    obtain ⟨M3, p1, p2, p3⟩ := ev_tries (M := M2) (k := a) (L := L) (c := bc) hK2 (kind_U h1) (by omega) (fun _ => by rw [hS2]; omega) (by rw [hS2]; exact v2)
    rw [hS2, v1] at p1 p2
    have hF3 : FB M2 M3 := ⟨fun c h1 h2 h3 => p3 c h2 h3, fun j _ => by rw [p3 108 (by omega) (by omega)]⟩
    refine ⟨nI (dg (St M) L bc i), M1, M3, ?_, ?_, gRel_sc (gRel_sc (gRel_sc hR sc1) (FB_Sc q3)) (FB_Sc hF3)⟩
    · rw [eX M hK rfl, h1, h2, h3, h4, cond_t, cond_t, cond_t, cond_t, if_neg h5, h6, cond_t, g1, cl_s, if_neg (by rw [hd]; exact nI_m1 (by omega)), hd, rd_n (by omega), v3 i hi]
    · rw [eM M1 hK1 hS1, h1, h2, h3, h4, cond_t, cond_t, cond_t, cond_t, if_neg h5, h6, cond_t, q1, cl_s, if_pos (by rw [hd]; exact nI_pos' (by omega)), q2, p1, cl_s, if_neg (by decide), hd, rd_n (by omega), (p2 rfl).2 i hi]
theorem op_third (a b : Int32) : opI gRel (f_X9_third a b) (f_X10_third a b) := by
  intro M hR
  have hK := KK_of hR
  have hT := hK.1.1
  have hP := hK.1.2.1
  have bad : (∀ X : Mem, KK X → St X = St M → f_X9_third a b X = f_X9_third_21 X) → (∀ X : Mem, KK X → St X = St M → f_X10_third a b X = f_X10_third_15 X) → ∃ r M1 M2, f_X9_third a b M = some (r, M1) ∧ f_X10_third a b M1 = some (r, M2) ∧ gRel M2 := fun hx hm => ⟨-2, rfX 0 M, rfM 0 (rfX 0 M), by rw [hx M hK rfl]; rfl, by rw [hm _ (KK_rfX hK) St_rfX]; rfl, gRel_rf hR⟩
  have no : (∀ X : Mem, KK X → St X = St M → f_X9_third a b X = f_X9_third_55 X) → (∀ X : Mem, KK X → St X = St M → f_X10_third a b X = f_X10_third_39 X) → ∃ r M1 M2, f_X9_third a b M = some (r, M1) ∧ f_X10_third a b M1 = some (r, M2) ∧ gRel M2 := fun hx hm => ⟨-3, rfX 1 M, rfM 1 (rfX 1 M), by rw [hx M hK rfl]; rfl, by rw [hm _ (KK_rfX hK) St_rfX]; rfl, gRel_rf hR⟩
  have eX : ∀ X : Mem, KK X → St X = St M → f_X9_third a b X = cond (inR a 0 5) (cond (tB (St M) b) (if St M 9 0 = 0 then f_X9_third_55 X else cond (spB (St M) b) (cl (f_X9_leastUnlike a b (nI 1) X) fun v4 M1 => cl (f_X9_leastUnlike a b (nI 0) M1) fun v5 M2 => if v5 ≤ v4 then some ((0 : Int32), M2) else some ((1 : Int32), M2)) (f_X9_third_55 X)) (f_X9_third_21 X)) (f_X9_third_21 X) := by
    intro X hX hs
    unfold f_X9_third
    rw [ev_isKind, cp_s, if_bI, ev_hasTongue, hs, cp_s, if_bI, k14, hs, ev_hasWords (by rw [hs]; exact hT), hs, cp_s, if_bI]; rfl
  have eM : ∀ X : Mem, KK X → St X = St M → f_X10_third a b X = cond (inR a 0 5) (cond (tB (St M) b) (if St M 9 0 = 0 then f_X10_third_39 X else cond (spB (St M) b) (cl (f_X10_bestOver a b (nI 1) X) fun v4 M1 => cl (f_X10_bestOver a b (nI 0) M1) fun v5 M2 => if v5 ≤ v4 then some ((0 : Int32), M2) else some ((1 : Int32), M2)) (f_X10_third_39 X)) (f_X10_third_15 X)) (f_X10_third_15 X) := by
    intro X hX hs
    unfold f_X10_third
    rw [ev_isKindM, cp_s, if_bI, ev_isTongue hX, hs, cp_s, if_bI, rm110 hX, hs, ev_speaks hX, hs, cp_s, if_bI]; rfl
  cases h1 : inR a 0 5 with
  | false => exact bad (fun X hX hs => by rw [eX X hX hs, h1, cond_f]) (fun X hX hs => by rw [eM X hX hs, h1, cond_f])
  | true =>
  cases h2 : tB (St M) b with
  | false => exact bad (fun X hX hs => by rw [eX X hX hs, h1, h2, cond_t, cond_f]) (fun X hX hs => by rw [eM X hX hs, h1, h2, cond_t, cond_f])
  | true =>
  by_cases h5 : St M 9 0 = 0
  · exact no (fun X hX hs => by rw [eX X hX hs, h1, h2, cond_t, cond_t, if_pos h5]) (fun X hX hs => by rw [eM X hX hs, h1, h2, cond_t, cond_t, if_pos h5])
  cases h6 : spB (St M) b with
  | false => exact no (fun X hX hs => by rw [eX X hX hs, h1, h2, cond_t, cond_t, if_neg h5, h6, cond_f]) (fun X hX hs => by rw [eM X hX hs, h1, h2, cond_t, cond_t, if_neg h5, h6, cond_f])
  | true =>
  obtain ⟨t, ht, hw, rfl⟩ := (spB_iff hT).mp h6
  obtain ⟨M1, g1, g2, g3⟩ := ev_least (k := a) (L := 1) hT hP (by omega) ht hw
  have sc1 : Sc M M1 := FL_Sc g3 (g3 4 (by omega))
  have hK1 : KK M1 := KK_Sc hK sc1
  have hS1 : St M1 = St M := St_Sc sc1
  obtain ⟨M2, p1, p2, p3⟩ := ev_least (M := M1) (k := a) (t := t) (L := 0) hK1.1.1 hK1.1.2.1 (by omega) (by rw [hS1]; exact ht) (by rw [hS1]; exact hw)
  have sc2 : Sc M1 M2 := FL_Sc p3 (p3 4 (by omega))
  have hK2 : KK M2 := KK_Sc hK1 sc2
  have hS2 : St M2 = St M := by rw [St_Sc sc2, hS1]
  obtain ⟨M3, q1, q2, q3⟩ := ev_over (k := a) (t := t) (L := 1) hK2 (kind_U h1) (by omega) (by rw [hS2]; exact ht) (by rw [hS2]; exact hw)
  have hK3 : KK M3 := KK_Sc hK2 (FB_Sc q3)
  have hS3 : St M3 = St M := by rw [St_Sc (FB_Sc q3), hS2]
  obtain ⟨M4, r1, r2, r3⟩ := ev_over (k := a) (t := t) (L := 0) hK3 (kind_U h1) (by omega) (by rw [hS3]; exact ht) (by rw [hS3]; exact hw)
  rw [hS1] at p1
  rw [hS2] at q1
  rw [hS3] at r1
  have gR : gRel M4 := gRel_sc (gRel_sc (gRel_sc (gRel_sc hR sc1) sc2) (FB_Sc q3)) (FB_Sc r3)
  have e1 : f_X9_third a (nI t) M = if (bestL (uR (St M) a t 0) (rowsOf (St M) 0 0) 1000 0).1 ≤ (bestL (uR (St M) a t 1) (rowsOf (St M) 1 0) 1000 0).1 then some ((0 : Int32), M2) else some ((1 : Int32), M2) := by
    rw [eX M hK rfl, h1, h2, cond_t, cond_t, if_neg h5, h6, cond_t, g1, cl_s, p1, cl_s]
  have e2 : f_X10_third a (nI t) M2 = if (bestL (uR (St M) a t 0) (rowsOf (St M) 0 0) 1000 0).1 ≤ (bestL (uR (St M) a t 1) (rowsOf (St M) 1 0) 1000 0).1 then some ((0 : Int32), M4) else some ((1 : Int32), M4) := by
    rw [eM M2 hK2 hS2, h1, h2, cond_t, cond_t, if_neg h5, h6, cond_t, q1, cl_s, r1, cl_s]
  by_cases hc : (bestL (uR (St M) a t 0) (rowsOf (St M) 0 0) 1000 0).1 ≤ (bestL (uR (St M) a t 1) (rowsOf (St M) 1 0) 1000 0).1
  · exact ⟨0, M2, M4, by rw [e1, if_pos hc], by rw [e2, if_pos hc], gR⟩
  · exact ⟨1, M2, M4, by rw [e1, if_neg hc], by rw [e2, if_neg hc], gR⟩
