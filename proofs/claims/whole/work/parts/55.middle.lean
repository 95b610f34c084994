/-! middle -/
def wA (S : Nat → Nat → Int32) (x : Nat) : Bool := decide (x / 8 < nT S) && decide (x % 8 < nW S (x / 8))
theorem div8 : ∀ x, x < 48 → nI x / 8 = nI (x / 8) ∧ nI x % 8 = nI (x % 8) := by decide +kernel
theorem wdB_nI {S : Nat → Nat → Int32} (hT : IvT S) {t w : Nat} (ht : t < 100) (hw : w < 100) : wdB S (nI t) (nI w) = (decide (t < nT S) && decide (w < nW S t)) := by
  have h := wdB_iff hT (x := nI t) (y := nI w)
  by_cases g : t < nT S ∧ w < nW S t
  · rw [h.mpr ⟨t, w, g, rfl, rfl⟩, decide_eq_true g.1, decide_eq_true g.2]; rfl
  · have g2 : ¬ wdB S (nI t) (nI w) = true := fun g3 => by
      obtain ⟨t', w', g4, g5, g6⟩ := h.mp g3
      have h6 := nT_le hT
      have := g4.1
      have h8 := nW_le hT (show t' < 6 by omega)
      have := g4.2
      have e1 := nI_inj (by omega) (by omega) g5
      have e2 := nI_inj (by omega) (by omega) g6
      subst e1; subst e2; exact g g4
    rw [Bool.eq_false_iff.mpr g2]
    by_cases g3 : t < nT S
    · rw [decide_eq_false (fun z => g ⟨g3, z⟩), Bool.and_false]
    · rw [decide_eq_false g3]; rfl
theorem ev_isWordAt {M : Mem} (hT : IvT (St M)) {x : Nat} (hx : x < 48) : f_X1_isWordAt (nI x) M = some (bI (wA (St M) x)) := by
  unfold f_X1_isWordAt wA
  rw [if_neg (show ¬ nI x < 0 from nI_pos (by omega)), (div8 x hx).1, (div8 x hx).2, ev_hasWord hT, cp_s, wdB_nI hT (by omega) (by omega), if_b2]
def clA (S : Nat → Nat → Int32) (m : Int32) (i j : Nat) : Bool := wA S j && (decide (S 6 i ^^^ S 6 j ≠ 0) && decide ((S 6 i ^^^ S 6 j) &&& m = 0))
def tF (S : Nat → Nat → Int32) (m : Int32) (i : Nat) : Nat → Nat → Bool
  | 0, _ => true
  | d + 1, j => !(clA S m i j) && tF S m i d (j + 1)
theorem tF_s {S : Nat → Nat → Int32} {m : Int32} {i d j : Nat} : tF S m i (d + 1) j = (!(clA S m i j) && tF S m i d (j + 1)) := rfl
def tW (S : Nat → Nat → Int32) (m : Int32) : Nat → Nat → Bool
  | 0, _ => true
  | d + 1, i => (!(wA S i) || tF S m i i 0) && tW S m d (i + 1)
theorem tW_s {S : Nat → Nat → Int32} {m : Int32} {d i : Nat} : tW S m (d + 1) i = ((!(wA S i) || tF S m i i 0) && tW S m d (i + 1)) := rfl
theorem ahead_go {M : Mem} (hT : IvT (St M)) {m : Int32} {i : Nat} (hi : i < 48) : ∀ (d F j : Nat), j + d = i → d < F → f_X1_isToldFromThoseAhead_2 M (nI i) m F (nI j) = some (bI (tF (St M) m i d j)) := by
  intro d
  induction d with
  | zero =>
    intro F j hj hF
    obtain ⟨F, rfl⟩ : ∃ F', F = F' + 1 := ⟨F - 1, by omega⟩
    show f_X1_isToldFromThoseAhead_2_b M (f_X1_isToldFromThoseAhead_2 M (nI i) m F) (nI i) m (nI j) = _
    unfold f_X1_isToldFromThoseAhead_2_b
    rw [if_pos (nI_le (by omega) (by omega))]; rfl
  | succ d ih =>
    intro F j hj hF
    obtain ⟨F, rfl⟩ : ∃ F', F = F' + 1 := ⟨F - 1, by omega⟩
    have step := ih F (j + 1) (by omega) (by omega)
    show f_X1_isToldFromThoseAhead_2_b M (f_X1_isToldFromThoseAhead_2 M (nI i) m F) (nI i) m (nI j) = _
    unfold f_X1_isToldFromThoseAhead_2_b f_X1_isToldFromThoseAhead_44
    rw [if_neg (nI_ge (by omega) (by omega)), rd_n (by omega), rd_n (by omega), ev_isWordAt hT (by omega), nI_1, step, tF_s, cp_s, if_bI, k11]
    unfold clA
    by_cases h1 : St M 6 i ^^^ St M 6 j = 0
    · rw [if_pos h1, decide_eq_false (fun z => z h1)]; simp
    · rw [if_neg h1, decide_eq_true h1]
      by_cases h2 : (St M 6 i ^^^ St M 6 j) &&& m = 0
      · rw [if_pos h2, decide_eq_true h2]
        cases wA (St M) j <;> simp [bI]
      · rw [if_neg h2, decide_eq_false h2]; simp
theorem ev_ahead {M : Mem} (hT : IvT (St M)) {m : Int32} {i : Nat} (hi : i < 48) : f_X1_isToldFromThoseAhead (nI i) m M = some (bI (tF (St M) m i i 0)) := by
  unfold f_X1_isToldFromThoseAhead
  exact ahead_go hT hi i FU 0 (by omega) (FU_of (by omega))
theorem told_go {M : Mem} (hT : IvT (St M)) {m : Int32} : ∀ (d F i : Nat), i + d = 48 → d < F → f_X1_isToldApartBy_2 M m F (nI i) = some (bI (tW (St M) m d i)) := by
  intro d
  induction d with
  | zero =>
    intro F j hj hF
    obtain ⟨F, rfl⟩ : ∃ F', F = F' + 1 := ⟨F - 1, by omega⟩
    show f_X1_isToldApartBy_2_b M (f_X1_isToldApartBy_2 M m F) m (nI j) = _
    unfold f_X1_isToldApartBy_2_b
    rw [if_pos (show (48 : Int32) ≤ nI j from nI_le (a := 48) (by omega) (by omega))]; rfl
  | succ d ih =>
    intro F j hj hF
    obtain ⟨F, rfl⟩ : ∃ F', F = F' + 1 := ⟨F - 1, by omega⟩
    have step := ih F (j + 1) (by omega) (by omega)
    show f_X1_isToldApartBy_2_b M (f_X1_isToldApartBy_2 M m F) m (nI j) = _
    unfold f_X1_isToldApartBy_2_b f_X1_isToldApartBy_27
    rw [if_neg (show ¬ (48 : Int32) ≤ nI j from nI_ge (b := 48) (by omega) (by omega)), ev_isWordAt hT (by omega), cp_s, if_bI, ev_ahead hT (by omega), cp_s, if_bI, nI_1, step, tW_s]
    cases wA (St M) j <;> cases tF (St M) m j j 0 <;> simp [bI]
theorem ev_told {M : Mem} (hT : IvT (St M)) {m : Int32} : f_X1_isToldApartBy m M = some (bI (tW (St M) m 48 0)) := by
  unfold f_X1_isToldApartBy
  exact told_go hT 48 FU 0 (by omega) (FU_of (by omega))
theorem wA_lt {S : Nat → Nat → Int32} {x : Nat} (h : wA S x = true) : x / 8 < nT S ∧ x % 8 < nW S (x / 8) := by
  unfold wA at h; simpa using h
theorem i3 (x : Nat) : (3 : Int32) * nI x = nI (3 * x) := nI_mul 3 x
theorem rm114w {M : Mem} (hK : KK M) {x : Nat} (hx : wA (St M) x = true) : M.1 114 (3 * x) = St M 6 x := by
  obtain ⟨h1, h2⟩ := wA_lt hx
  have := (rm114 hK h1 h2).1
  rw [show 24 * (x / 8) + 3 * (x % 8) = 3 * x by omega, show 8 * (x / 8) + x % 8 = x by omega] at this
  exact this
theorem tells_in {M : Mem} (hK : KK M) {m : Int32} {i : Nat} {r4 : Int32 → Int32 → Option Int32} (hi : i < 48) : ∀ (d F j : Nat) (b : Bool), j + d = i → d < F → f_X10_tells_13 M r4 m (nI i) F (bI b) (nI j) = r4 (bI (b && (!(wA (St M) i) || tF (St M) m i d j))) (nI (i + 1)) := by
  have hT := hK.1.1
  intro d
  induction d with
  | zero =>
    intro F j b hj hF
    obtain ⟨F, rfl⟩ : ∃ F', F = F' + 1 := ⟨F - 1, by omega⟩
    show f_X10_tells_13_b M r4 (f_X10_tells_13 M r4 m (nI i) F) m (nI i) (bI b) (nI j) = _
    unfold f_X10_tells_13_b
    rw [if_pos (nI_le (by omega) (by omega)), nI_1]
    show _ = r4 (bI (b && (!(wA (St M) i) || true))) _
    simp
  | succ d ih =>
    intro F j b hj hF
    obtain ⟨F, rfl⟩ : ∃ F', F = F' + 1 := ⟨F - 1, by omega⟩
    have step := fun b => ih F (j + 1) b (by omega) (by omega)
    have s0 : f_X10_tells_13 M r4 m (nI i) F 0 (nI (j + 1)) = r4 (bI false) (nI (i + 1)) := step false
    have s1 : f_X10_tells_13 M r4 m (nI i) F 1 (nI (j + 1)) = r4 (bI (!(wA (St M) i) || tF (St M) m i d (j + 1))) (nI (i + 1)) := by
      have := step true; rw [Bool.true_and] at this; exact this
    show f_X10_tells_13_b M r4 (f_X10_tells_13 M r4 m (nI i) F) m (nI i) (bI b) (nI j) = _
    unfold f_X10_tells_13_b f_X10_tells_55 f_X10_tells_56 f_X10_tells_85 f_X10_tells_107 f_X10_tells_103 f_X10_tells_108
    rw [if_neg (nI_ge (by omega) (by omega)), (div8 i hi).1, (div8 i hi).2, (div8 j (by omega)).1, (div8 j (by omega)).2, ev_isWord hK, ev_isWord hK, wdB_nI hT (by omega) (by omega), wdB_nI hT (by omega) (by omega), cp_s, if_bI, cp_s, if_bI, nI_1, s0, s1, i3, i3, rd_n (by omega), rd_n (by omega), tF_s]
    show cond (wA (St M) i) (cond (wA (St M) j) _ _) _ = _
    cases hwi : wA (St M) i with
    | false => cases b <;> simp [bI]
    | true =>
    cases hwj : wA (St M) j with
    | false => cases b <;> simp [bI, clA, hwj]
    | true =>
      simp only [cond]
      rw [if_neg (by decide), rm114w hK hwi, rm114w hK hwj]
      unfold clA
      cases b with
      | false => simp [bI]
      | true =>
        rw [if_neg (by decide), hwj]
        by_cases h1 : St M 6 i ^^^ St M 6 j = 0
        · rw [if_pos h1, decide_eq_false (fun z => z h1)]; simp
        · rw [if_neg h1, decide_eq_true h1]
          by_cases h2 : (St M 6 i ^^^ St M 6 j) &&& m = 0
          · rw [if_pos h2, decide_eq_true h2]; simp
          · rw [if_neg h2, decide_eq_false h2]; simp
theorem tells_go {M : Mem} (hK : KK M) {m : Int32} : ∀ (d F i : Nat) (b : Bool), i + d = 48 → d < F → f_X10_tells_4 M m F (bI b) (nI i) = some (bI (b && tW (St M) m d i)) := by
  intro d
  induction d with
  | zero =>
    intro F j b hj hF
    obtain ⟨F, rfl⟩ : ∃ F', F = F' + 1 := ⟨F - 1, by omega⟩
    show f_X10_tells_4_b M (f_X10_tells_4 M m F) m (bI b) (nI j) = _
    unfold f_X10_tells_4_b
    rw [if_pos (show (48 : Int32) ≤ nI j from nI_le (a := 48) (by omega) (by omega)), rz_bI]
    show _ = some (bI (b && true))
    rw [Bool.and_true]
  | succ d ih =>
    intro F j b hj hF
    obtain ⟨F, rfl⟩ : ∃ F', F = F' + 1 := ⟨F - 1, by omega⟩
    show f_X10_tells_4_b M (f_X10_tells_4 M m F) m (bI b) (nI j) = _
    unfold f_X10_tells_4_b
    have h := tells_in hK (m := m) (i := j) (r4 := f_X10_tells_4 M m F) (by omega) j FU 0 b (by omega) (FU_of (by omega))
    rw [if_neg (show ¬ (48 : Int32) ≤ nI j from nI_ge (b := 48) (by omega) (by omega)), show (0 : Int32) = nI 0 from rfl, h, ih F (j + 1) _ (by omega) (by omega), tW_s, Bool.and_assoc]
theorem ev_tells {M : Mem} (hK : KK M) {m : Int32} : f_X10_tells m M = some (bI (tW (St M) m 48 0)) := by
  unfold f_X10_tells
  have := tells_go hK (m := m) 48 FU 0 true (by omega) (FU_of (by omega))
  rw [Bool.true_and] at this
  exact this
theorem bc_tab : ∀ n, n < 256 → (∀ m, m < 256 → (bcI (nI m) ≤ bcI (nI n) ↔ ¬ bcI (nI n) < bcI (nI m))) ∧ (bcI (nI n) = bcI (nI 255) → n = 255) := by
  intro n hn
  exact ⟨fun m hm => le_not_lt, by revert n; decide +kernel⟩
theorem mid_go {M : Mem} (hK : KK M) : ∀ (d F x m : Nat), x + d = 256 → d < F → (m = 255 ∨ m < x) → m < 256 → ∃ r, f_X9_middle_6 M F (nI m) (nI x) = some r ∧ f_X10_middle_6 M F (nI m) (nI x) = some r := by
  have hT := hK.1.1
  intro d
  induction d with
  | zero =>
    intro F x m hx hF hm hm2
    obtain ⟨F, rfl⟩ : ∃ F', F = F' + 1 := ⟨F - 1, by omega⟩
    refine ⟨nI m, ?_, ?_⟩
    · show f_X9_middle_6_b M (f_X9_middle_6 M F) (nI m) (nI x) = _
      unfold f_X9_middle_6_b
      rw [if_pos (show (255 : Int32) ≤ nI x from nI_le (a := 255) (by omega) (by omega))]
    · show f_X10_middle_6_b M (f_X10_middle_6 M F) (nI m) (nI x) = _
      unfold f_X10_middle_6_b
      rw [if_pos (show (256 : Int32) ≤ nI x from nI_le (a := 256) (by omega) (by omega))]
  | succ d ih =>
    intro F x m hx hF hm hm2
    obtain ⟨F, rfl⟩ : ∃ F', F = F' + 1 := ⟨F - 1, by omega⟩
    obtain ⟨r1, g1, g2⟩ := ih F (x + 1) m (by omega) (by omega) (by omega) hm2
    obtain ⟨r2, g3, g4⟩ := ih F (x + 1) x (by omega) (by omega) (by omega) (by omega)
    have eX : f_X9_middle_6 M (F + 1) (nI m) (nI x) = if (255 : Int32) ≤ nI x then some (nI m) else if bcI (nI m) ≤ bcI (nI x) then some r1 else cond (tW (St M) (nI x) 48 0) (some r2) (some r1) := by
      show f_X9_middle_6_b M (f_X9_middle_6 M F) (nI m) (nI x) = _
      unfold f_X9_middle_6_b f_X9_middle_40
      rw [ev_bitCount, cp_s, ev_bitCount, cp_s, ev_told hT, cp_s, if_bI, nI_1, g1, g3]
    have eM : f_X10_middle_6 M (F + 1) (nI m) (nI x) = if bcI (nI x) < bcI (nI m) then cond (tW (St M) (nI x) 48 0) (some r2) (some r1) else some r1 := by
      show f_X10_middle_6_b M (f_X10_middle_6 M F) (nI m) (nI x) = _
      unfold f_X10_middle_6_b f_X10_middle_40 f_X10_middle_44 f_X10_middle_45 f_X10_middle_62 f_X10_middle_63
      rw [if_neg (show ¬ (256 : Int32) ≤ nI x from nI_ge (b := 256) (by omega) (by omega)), if_neg (show ¬ (1 : Int32) = 0 by decide), if_pos (show (0 : Int32) = 0 from rfl)]
      simp only [ev_bits, cp_s, ev_tells hK, if_bI, nI_1, g2, g4, bm_bc (x := nI x) ⟨x, by omega, rfl⟩, bm_bc (x := nI m) ⟨m, by omega, rfl⟩]
      by_cases h : bcI (nI x) = bcI (nI m)
      · rw [if_pos h]
        have : nI m ≤ nI x := by
          rcases hm with rfl | hm
          · have := (bc_tab x (by omega)).2 h
            subst this; exact nI_le (by omega) (by omega)
          · exact nI_le (by omega) (by omega)
        rw [if_pos this]
      · rw [if_neg h]
    by_cases h255 : x = 255
    · subst h255
      have hd : d = 0 := by omega
      subst hd
      refine ⟨nI m, by rw [eX, if_pos (by decide)], ?_⟩
      have e1 : f_X10_middle_6 M F (nI m) (nI 256) = some (nI m) := by
        obtain ⟨F, rfl⟩ : ∃ F', F = F' + 1 := ⟨F - 1, by omega⟩
        show f_X10_middle_6_b M (f_X10_middle_6 M F) (nI m) (nI 256) = _
        unfold f_X10_middle_6_b
        rw [if_pos (by decide)]
      have : r1 = nI m := by
        have := g2.symm.trans e1
        simpa using this
      subst this
      rw [eM, if_neg]
      intro h
      have : ∀ m, m < 256 → ¬ bcI (nI 255) < bcI (nI m) := by decide +kernel
      exact this m hm2 h
    · by_cases h : bcI (nI x) < bcI (nI m)
      · refine ⟨cond (tW (St M) (nI x) 48 0) r2 r1, ?_, ?_⟩
        · rw [eX, if_neg (show ¬ (255 : Int32) ≤ nI x from nI_ge (b := 255) (by omega) (by omega)), if_neg (lt_not_le.mp h)]
          cases tW (St M) (nI x) 48 0 <;> rfl
        · rw [eM, if_pos h]
          cases tW (St M) (nI x) 48 0 <;> rfl
      · refine ⟨r1, ?_, ?_⟩
        · rw [eX, if_neg (show ¬ (255 : Int32) ≤ nI x from nI_ge (b := 255) (by omega) (by omega)), if_pos (le_not_lt.mpr h)]
        · rw [eM, if_neg h]
theorem op_middle : opI gRel (pu f_X9_middle) (pu f_X10_middle) := by
  intro M hR
  obtain ⟨r, h1, h2⟩ := mid_go (KK_of hR) 256 FU 0 255 (by omega) (FU_of (by omega)) (Or.inl rfl) (by omega)
  have e1 : f_X9_middle M = some r := h1
  have e2 : f_X10_middle M = some r := h2
  exact ⟨r, M, M, by unfold pu; rw [e1], by unfold pu; rw [e2], hR⟩
