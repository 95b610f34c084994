/-! what a word costs -/
def bcI (x : Int32) : Int32 := (f_J6_bitCount_0f7a4 x (fun _ _ => 0, 0)).getD 0
def bmI (x : Int32) : Int32 := 0 + ((x >>> ((0 : Int32) &&& 31)) &&& 1) + ((x >>> ((1 : Int32) &&& 31)) &&& 1) + ((x >>> ((2 : Int32) &&& 31)) &&& 1) + ((x >>> ((3 : Int32) &&& 31)) &&& 1) + ((x >>> ((4 : Int32) &&& 31)) &&& 1) + ((x >>> ((5 : Int32) &&& 31)) &&& 1) + ((x >>> ((6 : Int32) &&& 31)) &&& 1) + ((x >>> ((7 : Int32) &&& 31)) &&& 1)
theorem ev_bitCount {x : Int32} {M : Mem} : f_J6_bitCount_0f7a4 x M = some (bcI x) := rfl
theorem bits_step {x : Int32} {M : Mem} {F i : Nat} {a : Int32} (hi : i < 8) : f_X10_bits_4 M x (F + 1) a (nI i) = f_X10_bits_4 M x F (a + ((x >>> (nI i &&& 31)) &&& 1)) (nI (i + 1)) := by
  show f_X10_bits_4_b M (f_X10_bits_4 M x F) x a (nI i) = _
  unfold f_X10_bits_4_b
  rw [if_neg (show ¬ (8 : Int32) ≤ nI i from nI_ge (b := 8) hi (by decide)), nI_1]
theorem ev_bits {x : Int32} {M : Mem} : f_X10_bits x M = some (bmI x) := by
  show f_X10_bits_4 M x (99991 + 1 + 1 + 1 + 1 + 1 + 1 + 1 + 1 + 1) 0 (nI 0) = _
  rw [bits_step (by omega), bits_step (by omega), bits_step (by omega), bits_step (by omega), bits_step (by omega), bits_step (by omega), bits_step (by omega), bits_step (by omega)]
  rfl
theorem bits_tab : ∀ n, n < 256 → bmI (nI n) = bcI (nI n) ∧ (∃ k, k < 9 ∧ bcI (nI n) = nI k) ∧ (bcI (nI n) = 0 → n = 0) := by decide +kernel
theorem U_and {x z : Int32} (h : U 256 x) : U 256 (x &&& z) := by
  obtain ⟨k, hk, rfl⟩ := h
  refine ⟨(nI k &&& z).toBitVec.toNat, ?_, ?_⟩
  · rw [Int32.toBitVec_and, BitVec.toNat_and]
    have h1 : (nI k).toBitVec.toNat = k := by
      show (BitVec.ofNat 32 k).toNat = k
      rw [BitVec.toNat_ofNat]; omega
    rw [h1]
    exact Nat.lt_of_le_of_lt Nat.and_le_left hk
  · apply Int32.toBitVec_inj.mp
    show _ = BitVec.ofNat 32 (nI k &&& z).toBitVec.toNat
    rw [BitVec.ofNat_toNat, BitVec.setWidth_eq]
theorem bm_bc {x : Int32} (h : U 256 x) : bmI x = bcI x := by
  obtain ⟨k, hk, rfl⟩ := h
  exact (bits_tab k hk).1
theorem bc_U {x : Int32} (h : U 256 x) : U 9 (bcI x) := by
  obtain ⟨k, hk, rfl⟩ := h
  exact (bits_tab k hk).2.1
theorem bc_0 {x : Int32} (h : U 256 x) (h0 : bcI x = 0) : x = 0 := by
  obtain ⟨k, hk, rfl⟩ := h
  rw [(bits_tab k hk).2.2 h0]; rfl
theorem and_not_both {x y : Int32} (h1 : x &&& (y ^^^ -1) = 0) (h2 : y &&& (x ^^^ -1) = 0) : x = y := by
  apply Int32.toBitVec_inj.mp
  have g1 := congrArg Int32.toBitVec h1
  have g2 := congrArg Int32.toBitVec h2
  rw [Int32.toBitVec_and, Int32.toBitVec_xor] at g1 g2
  apply BitVec.eq_of_getLsbD_eq
  intro i hi
  have e1 := congrArg (fun b => BitVec.getLsbD b i) g1
  have e2 := congrArg (fun b => BitVec.getLsbD b i) g2
  have e3 : (-1 : Int32).toBitVec.getLsbD i = true := by
    have : (-1 : Int32).toBitVec = BitVec.allOnes 32 := rfl
    rw [this, BitVec.getLsbD_allOnes]; simpa using hi
  have e4 : (0 : Int32).toBitVec.getLsbD i = false := by
    have : (0 : Int32).toBitVec = 0#32 := rfl
    rw [this]; simp
  simp only [BitVec.getLsbD_and, BitVec.getLsbD_xor, e3, e4] at e1 e2
  cases hx : x.toBitVec.getLsbD i <;> cases hy : y.toBitVec.getLsbD i <;> simp_all
def cst (S : Nat → Nat → Int32) (k p s : Int32) (w : Nat) : Int32 :=
  if k = 0 then S 1 1 * bcI (p &&& (S 6 w ^^^ -1)) + S 1 2 * bcI (S 6 w &&& (p ^^^ -1)) else if k = 1 then S 1 1 * bcI (p &&& (S 6 w ^^^ -1)) + S 1 2 * bcI (S 6 w &&& (p ^^^ -1)) + S 1 2 * bcI (S 6 w &&& (p ^^^ -1)) else if k = 2 then S 1 1 * bcI (p &&& (S 6 w ^^^ -1)) + S 1 2 * bcI (S 6 w &&& (p ^^^ -1)) + S 1 1 * bcI (p &&& (S 6 w ^^^ -1)) else if k = 3 then S 1 1 * bcI (p &&& (S 6 w ^^^ -1)) + S 1 2 * bcI (S 6 w &&& (p ^^^ -1)) - S 8 w else if k = 4 then S 1 1 * bcI (p &&& (S 6 w ^^^ -1)) + S 1 2 * bcI (S 6 w &&& (p ^^^ -1)) + S 1 2 * bcI (S 6 w &&& (p ^^^ -1)) + (if s = -1 then 0 else if 0 ≤ S 7 w - s then S 7 w - s else 0 - (S 7 w - s)) else if k = 5 then (if p = S 6 w then S 1 1 * bcI (p &&& (S 6 w ^^^ -1)) + S 1 2 * bcI (S 6 w &&& (p ^^^ -1)) else S 1 1 * bcI (p &&& (S 6 w ^^^ -1)) + S 1 2 * bcI (S 6 w &&& (p ^^^ -1)) + 5) else S 1 1 * bcI (p &&& (S 6 w ^^^ -1)) + S 1 2 * bcI (S 6 w &&& (p ^^^ -1))
theorem ev_costOf {M : Mem} {k p s : Int32} {w : Nat} (hw : w < 48) : f_X1_costOf k p s (nI w) M = some (cst (St M) k p s w) := by
  unfold f_X1_costOf cst
  simp only [rd_n hw, ev_bitCount, cp_s, k6, k11, k12, k13, f_X1_costOf_137]
  repeat' split
  all_goals rfl
def sOk (s : Int32) : Prop := s = -1 ∨ U 10 s
theorem abs_tab : ∀ a, a < 10 → ∀ b, b < 10 → (if 0 ≤ nI b - nI a then nI b - nI a else 0 - (nI b - nI a)) = (if 0 ≤ nI a - nI b then nI a - nI b else -(nI a - nI b)) := by decide +kernel
theorem U_le0 {n : Nat} {x : Int32} (h : U n x) (hn : n ≤ 2 ^ 31 := by decide) : 0 ≤ x := by
  obtain ⟨k, hk, rfl⟩ := h; exact nI_pos' (by omega)
theorem add_le0 {x y : Int32} (hx : U 9 x) (hy : U 9 y) : x + y ≤ 0 ↔ x = 0 ∧ y = 0 := by
  obtain ⟨a, ha, rfl⟩ := hx
  obtain ⟨b, hb, rfl⟩ := hy
  rw [nI_add, show (0 : Int32) = nI 0 from rfl, nI_leI (by omega) (by omega), nI_eq (by omega) (by omega), nI_eq (by omega) (by omega)]; omega
theorem ev_costs {M : Mem} (hK : KK M) {k p s : Int32} {t w : Nat} (ht : t < nT (St M)) (hw : w < nW (St M) t) (hk : U 6 k) (hp : U 256 p) (hs : sOk s) : f_X10_costs k p s (nI (24 * t + 3 * w)) M = some (cst (St M) k p s (8 * t + w)) := by
  obtain ⟨e1, e2, e3⟩ := rm114 hK ht hw
  have hT := hK.1.1
  have h6 := nT_le hT
  have h8 := nW_le hT (show t < 6 by omega)
  obtain ⟨w1, w2, w3, w4⟩ := hT.2.2.2.1 t w ht hw
  have e10 : M.1 118 10 = St M 1 1 := by have := hK.2.1.2.2.2.1; simpa using this
  have e11 : M.1 118 11 = St M 1 2 := by have := hK.2.1.2.2.2.2; simpa using this
  unfold f_X10_costs
  have i1 : nI (24 * t + 3 * w) + 1 = nI (24 * t + 3 * w + 1) := ia1 _
  have i2 : nI (24 * t + 3 * w) + 2 = nI (24 * t + 3 * w + 2) := ia2 _
  simp only [i1, rd_n (show 24 * t + 3 * w < 432 by omega), rd_n (show 24 * t + 3 * w + 1 < 432 by omega), e1, e2, ev_bits, cp_s, bm_bc (U_and hp), bm_bc (U_and w1), e10, e11]
  unfold f_X10_costs_74 f_X10_costs_182 f_X10_costs_199
  simp only [i2, rd_n (show 24 * t + 3 * w + 2 < 432 by omega), e3, e10, e11]
  obtain ⟨kk, hkk, rfl⟩ := hk
  match kk, hkk with
  | 0, _ => unfold cst; split <;> rfl
  | 1, _ => unfold cst; split <;> rfl
  | 2, _ => unfold cst; split <;> rfl
  | 3, _ => unfold cst; split <;> rfl
  | 4, _ =>
    unfold cst
    simp only [if_neg (by decide : ¬ nI 4 = (0 : Int32)), if_neg (by decide : ¬ nI 4 = (1 : Int32)), if_neg (by decide : ¬ nI 4 = (2 : Int32)), if_neg (by decide : ¬ nI 4 = (3 : Int32)), if_pos (by decide : nI 4 = (4 : Int32))]
    rcases hs with rfl | hs
    · rw [if_neg (by decide), if_pos (by decide), if_pos rfl]
    · have hs0 := U_le0 hs
      have hs1 : ¬ s = -1 := fun h => by subst h; exact absurd hs0 (by decide)
      rw [if_pos hs0, if_neg hs1]
      obtain ⟨a, ha, rfl⟩ := hs
      obtain ⟨b, hb, e⟩ := w3
      rw [e, abs_tab a ha b hb]
      split <;> rfl
  | 5, _ =>
    unfold cst
    have hg := bc_U (U_and (z := St M 6 (8 * t + w) ^^^ -1) hp)
    have hc := bc_U (U_and (z := p ^^^ -1) w1)
    have key : (bcI (p &&& (St M 6 (8 * t + w) ^^^ -1)) + bcI (St M 6 (8 * t + w) &&& (p ^^^ -1)) ≤ 0) ↔ p = St M 6 (8 * t + w) := by
      rw [add_le0 hg hc]
      constructor
      · intro ⟨h1, h2⟩
        exact and_not_both (bc_0 (U_and hp) h1) (bc_0 (U_and w1) h2)
      · intro h
        rw [← h]
        obtain ⟨a, ha, rfl⟩ := hp
        have : ∀ a, a < 256 → bcI (nI a &&& (nI a ^^^ -1)) = 0 := by decide +kernel
        exact ⟨this a ha, this a ha⟩
    simp only [if_neg (by decide : ¬ nI 5 = (0 : Int32)), if_neg (by decide : ¬ nI 5 = (1 : Int32)), if_neg (by decide : ¬ nI 5 = (2 : Int32)), if_neg (by decide : ¬ nI 5 = (3 : Int32)), if_neg (by decide : ¬ nI 5 = (4 : Int32)), if_pos (by decide : nI 5 = (5 : Int32))]
    have fin : (if bcI (p &&& (St M 6 (8 * t + w) ^^^ -1)) + bcI (St M 6 (8 * t + w) &&& (p ^^^ -1)) ≤ 0 then some (St M 1 1 * bcI (p &&& (St M 6 (8 * t + w) ^^^ -1)) + St M 1 2 * bcI (St M 6 (8 * t + w) &&& (p ^^^ -1)) + 0) else some (St M 1 1 * bcI (p &&& (St M 6 (8 * t + w) ^^^ -1)) + St M 1 2 * bcI (St M 6 (8 * t + w) &&& (p ^^^ -1)) + 5)) = some (if p = St M 6 (8 * t + w) then St M 1 1 * bcI (p &&& (St M 6 (8 * t + w) ^^^ -1)) + St M 1 2 * bcI (St M 6 (8 * t + w) &&& (p ^^^ -1)) else St M 1 1 * bcI (p &&& (St M 6 (8 * t + w) ^^^ -1)) + St M 1 2 * bcI (St M 6 (8 * t + w) &&& (p ^^^ -1)) + 5) := by
      by_cases hpw : p = St M 6 (8 * t + w)
      · rw [if_pos (key.mpr hpw), if_pos hpw, Int32.add_zero]
      · rw [if_neg (fun h => hpw (key.mp h)), if_neg hpw]
    split
    · exact fin
    · exact fin
  | k + 6, h => omega
