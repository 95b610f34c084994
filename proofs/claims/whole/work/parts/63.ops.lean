/-! parts, formOf, gone -/
theorem inR_nn {x : Int32} {n : Nat} (hn : n + 1 < 2 ^ 31) : inR x 0 (nI n) = true ↔ ∃ i, i ≤ n ∧ x = nI i := by
  rw [inR_lit hn]
  constructor
  · rintro ⟨i, h, e⟩; exact ⟨i, by omega, e⟩
  · rintro ⟨i, h, e⟩; exact ⟨i, by omega, e⟩
theorem rfX_bad {M1 : Mem} {r : Int32} : True := trivial
theorem op_parts (a b : Int32) : opI gRel (f_X9_parts a b) (f_X10_parts a b) := by
  intro M hR
  have hK := KK_of hR
  have hP := hK.1.2.1
  have h6 := nP_le hP
  obtain ⟨M1, g1, g4, g5⟩ := ev_goesPath hK
  have hK1 : KK M1 := KK_Sc hK (FX_Sc g5)
  have hS1 : St M1 = St M := St_FX g5
  cases hg : gpB (St M) with
  | false =>
    obtain ⟨M2, q1, q2, q3⟩ := ev_goes (KK_rfX (i := 1) hK1)
    rw [St_rfX, hS1, hg] at q1
    refine ⟨-3, rfX 1 M1, rfM 1 M2, ?_, ?_, gRel_bad hR (FX_Sc g5) (FG_Sc q3)⟩
    · unfold f_X9_parts
      rw [g1, cl_s, if_bI, hg, cond_f, ev_rno, cl_s]
    · unfold f_X10_parts
      rw [q1, cl_s, if_bI, cond_f, ev_no, cl_s]
  | true =>
  obtain ⟨hgo, hXP⟩ := g4 hg
  have hPO := goB_PO hgo
  have hn := hPO.1
  have bad : (inR a 0 (nI (nS (St M))) && plB (St M) b) = false → ∃ r M1 M2, f_X9_parts a b M = some (r, M1) ∧ f_X10_parts a b M1 = some (r, M2) ∧ gRel M2 := by
    intro hb
    obtain ⟨M2, q1, q2, q3⟩ := ev_goes (KK_rfX (i := 0) hK1)
    rw [St_rfX, hS1, hg] at q1 q2
    obtain ⟨q21, q22⟩ := q2 rfl
    have hK2 : KK M2 := KK_Sc (KK_rfX (i := 0) hK1) (FG_Sc q3)
    have hS2 : St M2 = St M := by rw [St_Sc (FG_Sc q3), St_rfX, hS1]
    refine ⟨-2, rfX 0 M1, rfM 0 M2, ?_, ?_, gRel_bad hR (FX_Sc g5) (FG_Sc q3)⟩
    · unfold f_X9_parts f_X9_isState
      rw [g1, cl_s, if_bI, hg, cond_t, hXP.1, ev_isIn, cp_s, rz_bI, cp_s, if_bI, ev_isPlace, cp_s, if_bI, hS1]
      unfold f_X9_parts_30
      rw [ev_rbad, cl_s]
      cases h1 : inR a 0 (nI (nS (St M))) with
      | false => rw [cond_f]
      | true =>
        rw [cond_t]
        cases h2 : plB (St M) b with
        | false => rw [cond_f]
        | true => rw [h1, h2] at hb; cases hb
    · unfold f_X10_parts
      rw [q1, cl_s, if_bI, cond_t, q21, ev_between, cp_s, if_bI, rm110 hK2, hS2, ev_between, cp_s, if_bI]
      unfold f_X10_parts_56
      rw [ev_bad, cl_s]
      cases h1 : inR a 0 (nI (nS (St M))) with
      | false => rw [cond_f]
      | true =>
        rw [cond_t]
        cases h2 : inR b 0 (St M 9 0 - 1) with
        | false => rw [cond_f]
        | true => rw [h1, show plB (St M) b = true from h2] at hb; cases hb
  cases h1 : inR a 0 (nI (nS (St M))) with
  | false => exact bad (by rw [h1]; rfl)
  | true =>
  cases h2 : plB (St M) b with
  | false => exact bad (by rw [h1, h2]; rfl)
  | true =>
  obtain ⟨x, hx, rfl⟩ := (inR_nn (by omega)).mp h1
  obtain ⟨p, hp, rfl⟩ := (plB_iff hP).mp h2
  obtain ⟨M2, p1, p2, p3⟩ := ev_goTo (M := M1) (k0 := 100) (by omega) hx (by rw [hS1]; exact hK.1.1) (by rw [hS1]; exact hP) (by rw [hS1]; exact hPO) hXP
  rw [hS1] at p2
  have sc2 : Sc M M2 := (FX_Sc g5).tr ⟨fun c h1 h2 => p3 c (by omega), fun c h1 h2 => p3 c (by omega), by rw [p3 108 (by omega)], by rw [p3 108 (by omega)]⟩
  obtain ⟨M3, q1, q2, q3⟩ := ev_goes (KK_Sc hK sc2)
  rw [St_Sc sc2, hg] at q1 q2
  obtain ⟨q21, q22⟩ := q2 rfl
  have hK3 : KK M3 := KK_Sc (KK_Sc hK sc2) (FG_Sc q3)
  have hS3 : St M3 = St M := by rw [St_Sc (FG_Sc q3), St_Sc sc2]
  refine ⟨Qs (St M) (tS (St M)) (kS (St M)) x 0 p, M2, M3, ?_, ?_, gRel_sc (gRel_sc hR sc2) (FG_Sc q3)⟩
  · unfold f_X9_parts f_X9_isState
    rw [g1, cl_s, if_bI, hg, cond_t, hXP.1, ev_isIn, cp_s, rz_bI, cp_s, if_bI, ev_isPlace, cp_s, if_bI, hS1, h1, h2, cond_t, cond_t, p1, cl_s, rd_n (by omega), (p2.2.1 p hp).1]
  · unfold f_X10_parts
    rw [q1, cl_s, if_bI, cond_t, q21, ev_between, cp_s, if_bI, rm110 hK3, hS3, ev_between, cp_s, if_bI, h1, cond_t, show inR (nI p) 0 (St M 9 0 - 1) = true from h2, cond_t, i16, nI_add, rd_n (by omega), ((q22 x hx).1 p hp).1]
theorem op_formOf (a b : Int32) : opI gRel (f_X9_formOf a b) (f_X10_formOf a b) := by
  intro M hR
  have hK := KK_of hR
  have hP := hK.1.2.1
  have h6 := nP_le hP
  obtain ⟨M1, g1, g4, g5⟩ := ev_goesPath hK
  have hK1 : KK M1 := KK_Sc hK (FX_Sc g5)
  have hS1 : St M1 = St M := St_FX g5
  cases hg : gpB (St M) with
  | false =>
    obtain ⟨M2, q1, q2, q3⟩ := ev_goes (KK_rfX (i := 1) hK1)
    rw [St_rfX, hS1, hg] at q1
    refine ⟨-3, rfX 1 M1, rfM 1 M2, ?_, ?_, gRel_bad hR (FX_Sc g5) (FG_Sc q3)⟩
    · unfold f_X9_formOf
      rw [g1, cl_s, if_bI, hg, cond_f, ev_rno, cl_s]
    · unfold f_X10_formOf
      rw [q1, cl_s, if_bI, cond_f, ev_no, cl_s]
  | true =>
  obtain ⟨hgo, hXP⟩ := g4 hg
  have hPO := goB_PO hgo
  have hn := hPO.1
  have bad : (inR a 0 (nI (nS (St M))) && inR b 0 3) = false → ∃ r M1 M2, f_X9_formOf a b M = some (r, M1) ∧ f_X10_formOf a b M1 = some (r, M2) ∧ gRel M2 := by
    intro hb
    obtain ⟨M2, q1, q2, q3⟩ := ev_goes (KK_rfX (i := 0) hK1)
    rw [St_rfX, hS1, hg] at q1 q2
    obtain ⟨q21, q22⟩ := q2 rfl
    refine ⟨-10, rfX 0 M1, rfM 0 M2, ?_, ?_, gRel_bad hR (FX_Sc g5) (FG_Sc q3)⟩
    · unfold f_X9_formOf f_X9_isState
      rw [g1, cl_s, if_bI, hg, cond_t, hXP.1, ev_isIn, cp_s, rz_bI, cp_s, if_bI, ev_isIn, cp_s, if_bI]
      unfold f_X9_formOf_31
      rw [ev_refuse_bad, cl_s]
      cases h1 : inR a 0 (nI (nS (St M))) with
      | false => rw [cond_f]
      | true =>
        rw [cond_t]
        cases h2 : inR b 0 3 with
        | false => rw [cond_f]
        | true => rw [h1, h2] at hb; cases hb
    · unfold f_X10_formOf
      rw [q1, cl_s, if_bI, cond_t, q21, ev_between, cp_s, if_bI, ev_between, cp_s, if_bI]
      unfold f_X10_formOf_52
      rw [ev_bad, cl_s]
      cases h1 : inR a 0 (nI (nS (St M))) with
      | false => rw [cond_f]
      | true =>
        rw [cond_t]
        cases h2 : inR b 0 3 with
        | false => rw [cond_f]
        | true => rw [h1, h2] at hb; cases hb
  cases h1 : inR a 0 (nI (nS (St M))) with
  | false => exact bad (by rw [h1]; rfl)
  | true =>
  cases h2 : inR b 0 3 with
  | false => exact bad (by rw [h1, h2]; rfl)
  | true =>
  obtain ⟨x, hx, rfl⟩ := (inR_nn (by omega)).mp h1
  obtain ⟨f, hf, rfl⟩ := (inR_lit (m := 3) (by decide)).mp h2
  obtain ⟨M2, p1, p2, p3⟩ := ev_goTo (M := M1) (k0 := 100) (by omega) hx (by rw [hS1]; exact hK.1.1) (by rw [hS1]; exact hP) (by rw [hS1]; exact hPO) hXP
  rw [hS1] at p2
  have sc2 : Sc M M2 := (FX_Sc g5).tr ⟨fun c h1 h2 => p3 c (by omega), fun c h1 h2 => p3 c (by omega), by rw [p3 108 (by omega)], by rw [p3 108 (by omega)]⟩
  obtain ⟨M3, q1, q2, q3⟩ := ev_goes (KK_Sc hK sc2)
  rw [St_Sc sc2, hg] at q1 q2
  obtain ⟨q21, q22⟩ := q2 rfl
  refine ⟨Qs (St M) (tS (St M)) (kS (St M)) x 2 f, M2, M3, ?_, ?_, gRel_sc (gRel_sc hR sc2) (FG_Sc q3)⟩
  · unfold f_X9_formOf f_X9_isState
    rw [g1, cl_s, if_bI, hg, cond_t, hXP.1, ev_isIn, cp_s, rz_bI, cp_s, if_bI, ev_isIn, cp_s, if_bI, h1, h2, cond_t, cond_t, p1, cl_s, rd_n (by omega), p2.2.2 f (by omega)]
  · unfold f_X10_formOf
    rw [q1, cl_s, if_bI, cond_t, q21, ev_between, cp_s, if_bI, ev_between, cp_s, if_bI, h1, cond_t, h2, cond_t, i16, show nI (16 * x) + 12 = nI (16 * x + 12) from nI_add _ 12, nI_add, rd_n (by omega), (q22 x hx).2.2 f (by omega)]
/-! gone -/
def gBt (S : Nat → Nat → Int32) (T K : Nat → Int32) (p : Nat) (y : Int32) (i : Nat) : Bool := decide (((Qs S T K i 0 p >>> (y &&& 31)) &&& 1) = 0)
/-- behind the last state from i on that has it, or what was before -/
def gLst (S : Nat → Nat → Int32) (T K : Nat → Int32) (p : Nat) (y : Int32) : Nat → Nat → Nat → Nat
  | 0, _, v => v
  | d + 1, i, v => gLst S T K p y d (i + 1) (cond (gBt S T K p y i) v (i + 1))
theorem gLst_s {S : Nat → Nat → Int32} {T K : Nat → Int32} {p : Nat} {y : Int32} {d i v : Nat} : gLst S T K p y (d + 1) i v = gLst S T K p y d (i + 1) (cond (gBt S T K p y i) v (i + 1)) := rfl
def gRes (n v : Nat) : Int32 := if v ≤ n then nI v else -1
theorem gone_go {n p : Nat} {T K : Nat → Int32} {y : Int32} : ∀ (d F i v : Nat) (M : Mem), IvT (St M) → IvP (St M) → PO (St M) n T K → p < nP (St M) → XP n T K M → i + d = n + 1 → 1 ≤ i → v ≤ i → CQ (nP (St M)) 100 (Qs (St M) T K (i - 1)) M → d < F → ∃ M', f_X9_gone_58 (nI p) y F (nI v) (nI i) M = some (gRes n (gLst (St M) T K p y d i v), M') ∧ ∀ c, (c < 100 ∨ 103 < c) → M'.1 c = M.1 c := by
  intro d
  induction d with
  | zero =>
    intro F i v M hT hP h hp hX hi hi1 hv hQ hF
    obtain ⟨F, rfl⟩ : ∃ F', F = F' + 1 := ⟨F - 1, by omega⟩
    have hn := h.1
    refine ⟨M, ?_, fun _ _ => rfl⟩
    show f_X9_gone_58_b (f_X9_gone_58 (nI p) y F) (nI p) y (nI v) (nI i) M = _
    unfold f_X9_gone_58_b
    rw [hX.1, if_pos (nI_lt (by omega) (by omega))]
    show _ = some (gRes n v, M)
    unfold gRes
    by_cases hvn : v ≤ n
    · rw [if_pos (nI_le hvn (by omega)), if_pos hvn]
    · rw [if_neg (nI_ge (by omega) (by omega)), if_neg hvn]
  | succ d ih =>
    intro F i v M hT hP h hp hX hi hi1 hv hQ hF
    obtain ⟨F, rfl⟩ : ∃ F', F = F' + 1 := ⟨F - 1, by omega⟩
    have hn := h.1
    have h6 := nP_le hP
    obtain ⟨M1, g1, g2, g3⟩ := ev_goStep (i := i - 1) hT hP (by omega) h hX (by omega) hQ
    rw [show i - 1 + 1 = i by omega] at g1
    have hS : St M1 = St M := St_sc (fun c c1 c2 => g3 c (by omega))
    have hQ1 : CQ (nP (St M)) 100 (Qs (St M) T K i) M1 := by
      have : Qs (St M) T K i = stepQ (St M) (K (i - 1)) (tI T (i - 1)) (Qs (St M) T K (i - 1)) := by
        obtain ⟨j, rfl⟩ : ∃ j, i = j + 1 := ⟨i - 1, by omega⟩
        rfl
      rw [this]; exact g2
    obtain ⟨M', q1, q2⟩ := ih F (i + 1) (cond (gBt (St M) T K p y i) v (i + 1)) M1 (by rw [hS]; exact hT) (by rw [hS]; exact hP) (by rw [hS]; exact h) (by rw [hS]; exact hp) (XP_fr hX (fun c c1 c2 => g3 c (by omega))) (by omega) (by omega) (by cases gBt (St M) T K p y i <;> simp <;> omega) (by rw [hS]; exact hQ1) (by omega)
    refine ⟨M', ?_, fun c hc => (q2 c hc).trans (g3 c hc)⟩
    rw [hS] at q1
    rw [gLst_s, ← q1]
    show f_X9_gone_58_b (f_X9_gone_58 (nI p) y F) (nI p) y (nI v) (nI i) M = _
    unfold f_X9_gone_58_b f_X9_gone_95 f_X9_gone_116
    rw [hX.1, if_neg (nI_nlt (by omega) (by omega)), if_neg (show ¬ nI i ≤ 0 from nI_nle (by omega) (by omega)), g1, cl_s, rd_n (by omega), (hQ1.2.1 p hp).1, nI_1]
    unfold gBt
    by_cases hb : ((Qs (St M) T K i 0 p >>> (y &&& 31)) &&& 1) = 0
    · rw [if_pos hb, decide_eq_true hb, cond_t]
    · rw [if_neg hb, decide_eq_false hb, cond_f]
theorem bit8_tab : ∀ n, n < 256 → ∀ f, f < 8 → ((nI n >>> (nI f &&& 31)) &&& 1 = 0 ∨ (nI n >>> (nI f &&& 31)) &&& 1 = 1) := by decide +kernel
def pv (v : Nat) : Int32 := if v = 0 then -1 else nI (v - 1)
theorem goneM_go {n p f : Nat} {S : Nat → Nat → Int32} {T K : Nat → Int32} (hT : IvT S) (hP : IvP S) (h : PO S n T K) (hp : p < nP S) (hf : f < 8) {M : Mem} (hn1 : M.1 108 14 = nI n) (hQ : ∀ j, j ≤ n → RQ (nP S) 123 (16 * j) (Qs S T K j) M) : ∀ (d F i v : Nat), i + d = n + 1 → v ≤ i → d < F → f_X10_gone_52 (nI p) (nI f) F (pv v) (nI i) M = some (gRes n (gLst S T K p (nI f) d i v), M) := by
  have hn := h.1
  have h6 := nP_le hP
  intro d
  induction d with
  | zero =>
    intro F i v hi hv hF
    obtain ⟨F, rfl⟩ : ∃ F', F = F' + 1 := ⟨F - 1, by omega⟩
    show f_X10_gone_52_b (f_X10_gone_52 (nI p) (nI f) F) (nI p) (nI f) (pv v) (nI i) M = _
    unfold f_X10_gone_52_b
    rw [hn1, if_pos (nI_lt (by omega) (by omega))]
    show _ = some (gRes n v, M)
    unfold gRes pv
    by_cases hv0 : v = 0
    · subst hv0
      rw [if_pos rfl, if_neg (by decide), if_pos (by omega)]; rfl
    · rw [if_neg hv0, if_pos (nI_pos' (by omega))]
      by_cases hvn : v ≤ n
      · rw [if_neg (show ¬ nI (v - 1) = nI n from fun z => by have := nI_inj (by omega) (by omega) z; omega), if_pos hvn, nI_1, show v - 1 + 1 = v by omega]
      · rw [if_pos (show nI (v - 1) = nI n by congr 1; omega), if_neg hvn]
  | succ d ih =>
    intro F i v hi hv hF
    obtain ⟨F, rfl⟩ : ∃ F', F = F' + 1 := ⟨F - 1, by omega⟩
    rw [gLst_s, ← ih F (i + 1) (cond (gBt S T K p (nI f) i) v (i + 1)) (by omega) (by cases gBt S T K p (nI f) i <;> simp <;> omega) (by omega)]
    show f_X10_gone_52_b (f_X10_gone_52 (nI p) (nI f) F) (nI p) (nI f) (pv v) (nI i) M = _
    unfold f_X10_gone_52_b f_X10_gone_87
    rw [hn1, if_neg (nI_nlt (by omega) (by omega)), i16, nI_add, rd_n (by omega), ((hQ i (by omega)).1 p hp).1, nI_1]
    unfold gBt
    obtain ⟨k, hk, ek⟩ := ((Qs_ok hT hP h i (by omega)).1 p hp).1
    rcases bit8_tab k hk f hf with hb | hb
    · rw [ek, hb, if_neg (by decide), decide_eq_true rfl, cond_t]
    · rw [ek, hb, if_pos rfl, decide_eq_false (by decide), cond_f]
      unfold pv
      rw [if_neg (by omega), show i + 1 - 1 = i by omega]
theorem op_gone (a b : Int32) : opI gRel (f_X9_gone a b) (f_X10_gone a b) := by
  intro M hR
  have hK := KK_of hR
  have hT := hK.1.1
  have hP := hK.1.2.1
  have h6 := nP_le hP
  obtain ⟨M1, g1, g4, g5⟩ := ev_goesPath hK
  have hK1 : KK M1 := KK_Sc hK (FX_Sc g5)
  have hS1 : St M1 = St M := St_FX g5
  cases hg : gpB (St M) with
  | false =>
    obtain ⟨M2, q1, q2, q3⟩ := ev_goes (KK_rfX (i := 1) hK1)
    rw [St_rfX, hS1, hg] at q1
    refine ⟨-3, rfX 1 M1, rfM 1 M2, ?_, ?_, gRel_bad hR (FX_Sc g5) (FG_Sc q3)⟩
    · unfold f_X9_gone
      rw [g1, cl_s, if_bI, hg, cond_f, ev_rno, cl_s]
    · unfold f_X10_gone
      rw [q1, cl_s, if_bI, cond_f, ev_no, cl_s]
  | true =>
  obtain ⟨hgo, hXP⟩ := g4 hg
  have hPO := goB_PO hgo
  have hn := hPO.1
  have bad : (plB (St M) a && inR b 0 7) = false → ∃ r M1 M2, f_X9_gone a b M = some (r, M1) ∧ f_X10_gone a b M1 = some (r, M2) ∧ gRel M2 := by
    intro hb
    obtain ⟨M2, q1, q2, q3⟩ := ev_goes (KK_rfX (i := 0) hK1)
    rw [St_rfX, hS1, hg] at q1 q2
    obtain ⟨q21, q22⟩ := q2 rfl
    have hK2 : KK M2 := KK_Sc (KK_rfX (i := 0) hK1) (FG_Sc q3)
    have hS2 : St M2 = St M := by rw [St_Sc (FG_Sc q3), St_rfX, hS1]
    refine ⟨-2, rfX 0 M1, rfM 0 M2, ?_, ?_, gRel_bad hR (FX_Sc g5) (FG_Sc q3)⟩
    · unfold f_X9_gone
      rw [g1, cl_s, if_bI, hg, cond_t, ev_isPlace, cp_s, if_bI, ev_isIn, cp_s, if_bI, hS1]
      unfold f_X9_gone_32
      rw [ev_rbad, cl_s]
      cases h1 : plB (St M) a with
      | false => rw [cond_f]
      | true =>
        rw [cond_t]
        cases h2 : inR b 0 7 with
        | false => rw [cond_f]
        | true => rw [h1, h2] at hb; cases hb
    · unfold f_X10_gone
      rw [q1, cl_s, if_bI, cond_t, rm110 hK2, hS2, ev_between, cp_s, if_bI, ev_between, cp_s, if_bI]
      unfold f_X10_gone_40
      rw [ev_bad, cl_s]
      cases h1 : inR a 0 (St M 9 0 - 1) with
      | false => rw [cond_f]
      | true =>
        rw [cond_t]
        cases h2 : inR b 0 7 with
        | false => rw [cond_f]
        | true => rw [show plB (St M) a = true from h1, h2] at hb; cases hb
  cases h1 : plB (St M) a with
  | false => exact bad (by rw [h1]; rfl)
  | true =>
  cases h2 : inR b 0 7 with
  | false => exact bad (by rw [h1, h2]; rfl)
  | true =>
  obtain ⟨p, hp, rfl⟩ := (plB_iff hP).mp h1
  obtain ⟨f, hf, rfl⟩ := (inR_lit (m := 7) (by decide)).mp h2
  obtain ⟨M2, p1, p2, p3⟩ := ev_copyQ (k0 := 100) (by omega) (nP_le (by rw [hS1]; exact hP)) (CQ_main (M := M1) (by rw [hS1]; exact hP))
  have hS2 : St M2 = St M := by rw [St_sc (fun c c1 c2 => p3 c (by omega)), hS1]
  rw [hS1] at p2
  have hXP2 : XP (nS (St M)) (tS (St M)) (kS (St M)) M2 := XP_fr hXP (fun c c1 c2 => p3 c (by omega))
  -- the first turn, at 0
  have turn : ∃ M3, f_X9_gone_58 (nI p) (nI f) FU (nI 0) (nI 0) M2 = some (gRes (nS (St M)) (gLst (St M) (tS (St M)) (kS (St M)) p (nI f) (nS (St M) + 1) 0 0), M3) ∧ ∀ c, (c < 100 ∨ 103 < c) → M3.1 c = M2.1 c := by
    obtain ⟨M3, q1, q2⟩ := gone_go (p := p) (y := nI f) (nS (St M)) 99999 1 (cond (gBt (St M) (tS (St M)) (kS (St M)) p (nI f) 0) 0 1) M2 (by rw [hS2]; exact hT) (by rw [hS2]; exact hP) (by rw [hS2]; exact hPO) (by rw [hS2]; exact hp) hXP2 (by omega) (by omega) (by cases gBt (St M) (tS (St M)) (kS (St M)) p (nI f) 0 <;> simp) (by rw [hS2]; exact p2) (by omega)
    rw [hS2] at q1
    refine ⟨M3, ?_, q2⟩
    rw [gLst_s, ← q1]
    show f_X9_gone_58_b (f_X9_gone_58 (nI p) (nI f) 99999) (nI p) (nI f) (nI 0) (nI 0) M2 = _
    unfold f_X9_gone_58_b f_X9_gone_95 f_X9_gone_116
    rw [hXP2.1, if_neg (nI_nlt (by omega) (by omega)), if_pos (by decide), rd_n (by omega), (p2.2.1 p hp).1, nI_1]
    unfold gBt
    by_cases hb : ((Qs (St M) (tS (St M)) (kS (St M)) 0 0 p >>> (nI f &&& 31)) &&& 1) = 0
    · rw [decide_eq_true hb, cond_t]
      exact if_pos hb
    · rw [decide_eq_false hb, cond_f]
      exact if_neg hb
  obtain ⟨M3, t1, t2⟩ := turn
  have sc3 : Sc M M3 := ((FX_Sc g5).tr ⟨fun c h1 h2 => p3 c (by omega), fun c h1 h2 => p3 c (by omega), by rw [p3 108 (by omega)], by rw [p3 108 (by omega)]⟩).tr ⟨fun c h1 h2 => t2 c (by omega), fun c h1 h2 => t2 c (by omega), by rw [t2 108 (by omega)], by rw [t2 108 (by omega)]⟩
  obtain ⟨M4, q1, q2, q3⟩ := ev_goes (KK_Sc hK sc3)
  rw [St_Sc sc3, hg] at q1 q2
  obtain ⟨q21, q22⟩ := q2 rfl
  have hK4 : KK M4 := KK_Sc (KK_Sc hK sc3) (FG_Sc q3)
  have hS4 : St M4 = St M := by rw [St_Sc (FG_Sc q3), St_Sc sc3]
  refine ⟨gRes (nS (St M)) (gLst (St M) (tS (St M)) (kS (St M)) p (nI f) (nS (St M) + 1) 0 0), M3, M4, ?_, ?_, gRel_sc (gRel_sc hR sc3) (FG_Sc q3)⟩
  · unfold f_X9_gone
    rw [g1, cl_s, if_bI, hg, cond_t, ev_isPlace, cp_s, if_bI, ev_isIn, cp_s, if_bI, hS1, h1, h2, cond_t, cond_t, p1, cl_s]
    exact t1
  · unfold f_X10_gone
    rw [q1, cl_s, if_bI, cond_t, rm110 hK4, hS4, ev_between, cp_s, if_bI, ev_between, cp_s, if_bI, show inR (nI p) 0 (St M 9 0 - 1) = true from h1, h2, cond_t, cond_t]
    exact goneM_go hT hP hPO hp hf q21 q22 (nS (St M) + 1) FU 0 0 (by omega) (by omega) (FU_of (by omega))
