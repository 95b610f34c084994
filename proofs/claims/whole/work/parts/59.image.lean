/-! image, from -/
def szk (k : Nat) : Nat := ([0, 3, 6, 6, 6, 6, 48, 48, 48, 1, 6, 6, 4, 1, 60, 0, 6, 4, 1, 24, 24] : List Nat).getD k 0
/-- S' tells what S tells -/
def Ag (S S' : Nat → Nat → Int32) : Prop := ∀ k j, k ≤ 20 → j < szk k → S' k j = S k j
theorem Ag_nT {S S' : Nat → Nat → Int32} (h : Ag S S') : nT S' = nT S := by unfold nT; rw [h 1 0 (by omega) (by decide)]
theorem Ag_nW {S S' : Nat → Nat → Int32} (h : Ag S S') {t : Nat} (ht : t < 6) : nW S' t = nW S t := by unfold nW; rw [h 5 t (by omega) ht]
theorem Ag_nP {S S' : Nat → Nat → Int32} (h : Ag S S') : nP S' = nP S := by unfold nP; rw [h 9 0 (by omega) (by decide)]
theorem Ag_nB {S S' : Nat → Nat → Int32} (h : Ag S S') : nB S' = nB S := by unfold nB; rw [h 13 0 (by omega) (by decide)]
theorem Ag_nQ {S S' : Nat → Nat → Int32} (h : Ag S S') : nQ S' = nQ S := by unfold nQ; rw [h 18 0 (by omega) (by decide)]
theorem Ag_isW {S S' : Nat → Nat → Int32} (h : Ag S S') (hT : IvT S) {t w : Nat} : isW S' t w ↔ isW S t w := by
  have h6 := nT_le hT
  unfold isW
  rw [Ag_nT h]
  constructor
  · intro ⟨g1, g2⟩; rw [Ag_nW h (by omega)] at g2; exact ⟨g1, g2⟩
  · intro ⟨g1, g2⟩; rw [Ag_nW h (by omega)]; exact ⟨g1, g2⟩
theorem Ag_Iv {S S' : Nat → Nat → Int32} (h : Ag S S') (hI : Iv S) : Iv S' := by
  obtain ⟨hT, hP, hB, hE, hQ⟩ := hI
  have h6 := nT_le hT
  have hp6 := nP_le hP
  have hb6 := nB_le hB
  have hq6 := nQ_le hQ
  refine ⟨⟨?_, fun t ht => ?_, fun t ht => ?_, fun t w ht hw => ?_, ?_, ?_⟩, ⟨?_, fun p hp => ?_, fun f hf => ?_⟩, ⟨?_, fun j hj => ?_⟩, ⟨fun p hp => ?_, fun f hf => ?_⟩, ⟨?_, fun j hj => ?_⟩⟩
  · rw [h 1 0 (by omega) (by decide)]; exact hT.1
  · rw [h 5 t (by omega) ht]; exact hT.2.1 t ht
  · rw [Ag_nT h] at ht
    rw [h 2 t (by omega) (show t < 6 by omega), h 3 t (by omega) (show t < 6 by omega), h 4 t (by omega) (show t < 6 by omega)]; exact hT.2.2.1 t ht
  · rw [Ag_nT h] at ht
    rw [Ag_nW h (by omega)] at hw
    have h8 := nW_le hT (show t < 6 by omega)
    rw [h 6 _ (by omega) (show 8 * t + w < 48 by omega), h 7 _ (by omega) (show 8 * t + w < 48 by omega), h 8 _ (by omega) (show 8 * t + w < 48 by omega)]; exact hT.2.2.2.1 t w ht hw
  · rw [h 1 1 (by omega) (by decide)]; exact hT.2.2.2.2.1
  · rw [h 1 2 (by omega) (by decide)]; exact hT.2.2.2.2.2
  · rw [h 9 0 (by omega) (by decide)]; exact hP.1
  · rw [Ag_nP h] at hp
    rw [h 10 p (by omega) (show p < 6 by omega), h 11 p (by omega) (show p < 6 by omega)]; exact hP.2.1 p hp
  · rw [h 12 f (by omega) hf]; exact hP.2.2 f hf
  · rw [h 13 0 (by omega) (by decide)]; exact hB.1
  · rw [Ag_nB h] at hj
    rw [h 14 j (by omega) (show j < 60 by omega)]; exact hB.2 j hj
  · rw [h 16 p (by omega) hp]; exact hE.1 p hp
  · rw [h 17 f (by omega) hf]; exact hE.2 f hf
  · rw [h 18 0 (by omega) (by decide)]; exact hQ.1
  · rw [Ag_nQ h] at hj
    obtain ⟨t, w, u, v, g1, g2, g3, g4, g5⟩ := hQ.2 j hj
    exact ⟨t, w, u, v, (Ag_isW h hT).mpr g1, (Ag_isW h hT).mpr g2, g3, by rw [h 19 j (by omega) (show j < 24 by omega)]; exact g4, by rw [h 20 j (by omega) (show j < 24 by omega)]; exact g5⟩
/-- bank b' of R' holds what bank b of R holds -/
def Bg (b b' : Nat) (R R' : Nat → Nat → Int32) : Prop := ∀ c j, 109 ≤ c → c ≤ 118 → j < bk c → R' c (bk c * b' + j) = R c (bk c * b + j)
theorem Ag_Rm {S S' R R' : Nat → Nat → Int32} {b b' : Nat} (h : Ag S S') (g : Bg b b' R R') (hI : Iv S) (hm : Rm b S R) : Rm b' S' R' := by
  obtain ⟨hT, hP, hB, hE, hQ⟩ := hI
  have h6 := nT_le hT
  have hp6 := nP_le hP
  have hb6 := nB_le hB
  have hq6 := nQ_le hQ
  obtain ⟨mT, mP, mB, mE, mQ⟩ := hm
  have g109 := g 109 0 (by omega) (by omega) (by decide)
  have g110 := g 110 0 (by omega) (by omega) (by decide)
  have g111 := g 111 0 (by omega) (by omega) (by decide)
  have g112 := g 112 0 (by omega) (by omega) (by decide)
  have g113 : ∀ j, j < 24 → R' 113 (24 * b' + j) = R 113 (24 * b + j) := fun j hj => g 113 j (by omega) (by omega) hj
  have g114 : ∀ j, j < 144 → R' 114 (144 * b' + j) = R 114 (144 * b + j) := fun j hj => g 114 j (by omega) (by omega) hj
  have g115 : ∀ j, j < 60 → R' 115 (60 * b' + j) = R 115 (60 * b + j) := fun j hj => g 115 j (by omega) (by omega) hj
  have g116 : ∀ j, j < 96 → R' 116 (96 * b' + j) = R 116 (96 * b + j) := fun j hj => g 116 j (by omega) (by omega) hj
  have g117 : ∀ j, j < 16 → R' 117 (16 * b' + j) = R 117 (16 * b + j) := fun j hj => g 117 j (by omega) (by omega) hj
  have g118 : ∀ j, j < 12 → R' 118 (12 * b' + j) = R 118 (12 * b + j) := fun j hj => g 118 j (by omega) (by omega) hj
  have o1 : ∀ b : Nat, 1 * b + 0 = b := fun b => by omega
  have k1 : bk 109 = 1 ∧ bk 110 = 1 ∧ bk 111 = 1 ∧ bk 112 = 1 := by decide
  rw [k1.1, o1, o1] at g109
  rw [k1.2.1, o1, o1] at g110
  rw [k1.2.2.1, o1, o1] at g111
  rw [k1.2.2.2, o1, o1] at g112
  refine ⟨⟨?_, fun t ht => ?_, fun t w ht hw => ?_, ?_, ?_⟩, ⟨?_, fun p hp => ?_, fun p hp hp2 => ?_, fun p hp => ?_, fun f hf => ?_⟩, ⟨?_, fun j hj => ?_⟩, ⟨fun p hp => ?_, fun f hf => ?_⟩, ⟨?_, fun j hj t w u v w1 w2 e1 e2 => ?_⟩⟩
  · rw [g109, h 1 0 (by omega) (by decide)]; exact mT.1
  · rw [Ag_nT h] at ht
    have := mT.2.1 t ht
    rw [Nat.add_assoc, Nat.add_assoc, Nat.add_assoc] at this ⊢
    rw [g113 _ (by omega), g113 _ (by omega), g113 _ (by omega), g113 _ (by omega), h 2 t (by omega) (show t < 6 by omega), h 3 t (by omega) (show t < 6 by omega), h 4 t (by omega) (show t < 6 by omega), h 5 t (by omega) (show t < 6 by omega)]
    exact this
  · rw [Ag_nT h] at ht
    rw [Ag_nW h (by omega)] at hw
    have h8 := nW_le hT (show t < 6 by omega)
    have := mT.2.2.1 t w ht hw
    rw [show 144 * b + 24 * t + 3 * w = 144 * b + (24 * t + 3 * w) by omega, show 144 * b + (24 * t + 3 * w) + 1 = 144 * b + (24 * t + 3 * w + 1) by omega, show 144 * b + (24 * t + 3 * w) + 2 = 144 * b + (24 * t + 3 * w + 2) by omega] at this
    rw [show 144 * b' + 24 * t + 3 * w = 144 * b' + (24 * t + 3 * w) by omega, show 144 * b' + (24 * t + 3 * w) + 1 = 144 * b' + (24 * t + 3 * w + 1) by omega, show 144 * b' + (24 * t + 3 * w) + 2 = 144 * b' + (24 * t + 3 * w + 2) by omega, g114 _ (by omega), g114 _ (by omega), g114 _ (by omega), h 6 _ (by omega) (show 8 * t + w < 48 by omega), h 7 _ (by omega) (show 8 * t + w < 48 by omega), h 8 _ (by omega) (show 8 * t + w < 48 by omega)]
    exact this
  · rw [g118 _ (by omega), h 1 1 (by omega) (by decide)]; exact mT.2.2.2.1
  · rw [g118 _ (by omega), h 1 2 (by omega) (by decide)]; exact mT.2.2.2.2
  · rw [g110, h 9 0 (by omega) (by decide)]; exact mP.1
  · rw [Ag_nP h] at hp
    rw [g117 _ (by omega), h 10 p (by omega) (show p < 6 by omega)]; exact mP.2.1 p hp
  · rw [Ag_nP h] at hp
    rw [g117 _ (by omega)]; exact mP.2.2.1 p hp hp2
  · rw [Nat.add_assoc, g117 _ (by omega), ← Nat.add_assoc]; exact mP.2.2.2.1 p hp
  · rw [Nat.add_assoc, g117 _ (by omega), ← Nat.add_assoc, h 12 f (by omega) hf]; exact mP.2.2.2.2 f hf
  · rw [g111, h 13 0 (by omega) (by decide)]; exact mB.1
  · rw [Ag_nB h] at hj
    rw [g115 _ (by omega), h 14 j (by omega) (show j < 60 by omega)]; exact mB.2 j hj
  · rw [g118 _ (by omega), h 16 p (by omega) hp]; exact mE.1 p hp
  · rw [Nat.add_assoc, g118 _ (by omega), ← Nat.add_assoc, h 17 f (by omega) hf]; exact mE.2 f hf
  · rw [g112, h 18 0 (by omega) (by decide)]; exact mQ.1
  · rw [Ag_nQ h] at hj
    rw [h 19 j (by omega) (show j < 24 by omega)] at e1
    rw [h 20 j (by omega) (show j < 24 by omega)] at e2
    have := mQ.2 j hj t w u v ((Ag_isW h hT).mp w1) ((Ag_isW h hT).mp w2) e1 e2
    rw [Nat.add_assoc, Nat.add_assoc, Nat.add_assoc] at this ⊢
    rw [g116 _ (by omega), g116 _ (by omega), g116 _ (by omega), g116 _ (by omega)]
    exact this
/-! the program's copy -/
theorem ev_copy8 {M : Mem} {k0 k1 : Nat} (hd : k0 + 21 ≤ k1 ∨ k1 + 21 ≤ k0) : ∃ M', f_X8_copyFrom k0 k1 M = some ((), M') ∧ M'.2 = M.2 ∧ (∀ c, (c < k0 ∨ k0 + 20 < c) → M'.1 c = M.1 c) ∧ Ag (Sv k1 M.1) (Sv k0 M'.1) := by
  refine ⟨_, rfl, rfl, fun c hc => ?_, fun k j hk hj => ?_⟩
  · funext j
    simp only [mset_at, mcpy_at]
    rw [if_neg (by omega), if_neg (by omega), if_neg (by omega), if_neg (by omega), if_neg (by omega), if_neg (by omega), if_neg (by omega), if_neg (by omega), if_neg (by omega), if_neg (by omega), if_neg (by omega), if_neg (by omega), if_neg (by omega), if_neg (by omega), if_neg (by omega), if_neg (by omega), if_neg (by omega), if_neg (by omega), if_neg (by omega), if_neg (by omega), if_neg (by omega)]
  · show (Prod.fst (_ : Mem)) (k0 + k) j = M.1 (k1 + k) j
    have hk' : k = 0 ∨ k = 1 ∨ k = 2 ∨ k = 3 ∨ k = 4 ∨ k = 5 ∨ k = 6 ∨ k = 7 ∨ k = 8 ∨ k = 9 ∨ k = 10 ∨ k = 11 ∨ k = 12 ∨ k = 13 ∨ k = 14 ∨ k = 15 ∨ k = 16 ∨ k = 17 ∨ k = 18 ∨ k = 19 ∨ k = 20 := by omega
    rcases hk' with rfl | rfl | rfl | rfl | rfl | rfl | rfl | rfl | rfl | rfl | rfl | rfl | rfl | rfl | rfl | rfl | rfl | rfl | rfl | rfl | rfl
    · exact absurd hj (by simp [szk])
    · have hj3 : j < 3 := hj
      repeat (first | rw [mcpy_ne (by omega)] | rw [mset_ne (by omega)])
      have : j = 0 ∨ j = 1 ∨ j = 2 := by omega
      rcases this with rfl | rfl | rfl
      · rw [mset_at, if_neg (by omega), mset_at, if_neg (by omega), mset_at, if_pos ⟨by omega, rfl⟩]
      · rw [mset_at, if_neg (by omega), mset_at, if_pos ⟨by omega, rfl⟩, mset_ne (by omega)]
      · rw [mset_at, if_pos ⟨by omega, rfl⟩, mset_ne (by omega), mset_ne (by omega)]
    · have hj3 : j < 6 := hj
      repeat (first | rw [mcpy_ne (by omega)] | rw [mset_ne (by omega)])
      rw [mcpy_at, if_pos ⟨by omega, hj3⟩]
      repeat (first | rw [mcpy_ne (by omega)] | rw [mset_ne (by omega)])
    · have hj3 : j < 6 := hj
      repeat (first | rw [mcpy_ne (by omega)] | rw [mset_ne (by omega)])
      rw [mcpy_at, if_pos ⟨by omega, hj3⟩]
      repeat (first | rw [mcpy_ne (by omega)] | rw [mset_ne (by omega)])
    · have hj3 : j < 6 := hj
      repeat (first | rw [mcpy_ne (by omega)] | rw [mset_ne (by omega)])
      rw [mcpy_at, if_pos ⟨by omega, hj3⟩]
      repeat (first | rw [mcpy_ne (by omega)] | rw [mset_ne (by omega)])
    · have hj3 : j < 6 := hj
      repeat (first | rw [mcpy_ne (by omega)] | rw [mset_ne (by omega)])
      rw [mcpy_at, if_pos ⟨by omega, hj3⟩]
      repeat (first | rw [mcpy_ne (by omega)] | rw [mset_ne (by omega)])
    · have hj3 : j < 48 := hj
      repeat (first | rw [mcpy_ne (by omega)] | rw [mset_ne (by omega)])
      rw [mcpy_at, if_pos ⟨by omega, hj3⟩]
      repeat (first | rw [mcpy_ne (by omega)] | rw [mset_ne (by omega)])
    · have hj3 : j < 48 := hj
      repeat (first | rw [mcpy_ne (by omega)] | rw [mset_ne (by omega)])
      rw [mcpy_at, if_pos ⟨by omega, hj3⟩]
      repeat (first | rw [mcpy_ne (by omega)] | rw [mset_ne (by omega)])
    · have hj3 : j < 48 := hj
      repeat (first | rw [mcpy_ne (by omega)] | rw [mset_ne (by omega)])
      rw [mcpy_at, if_pos ⟨by omega, hj3⟩]
      repeat (first | rw [mcpy_ne (by omega)] | rw [mset_ne (by omega)])
    · have hj3 : j < 1 := hj
      obtain rfl : j = 0 := by omega
      repeat (first | rw [mcpy_ne (by omega)] | rw [mset_ne (by omega)])
      rw [mset_at, if_pos ⟨by omega, rfl⟩]
      repeat (first | rw [mcpy_ne (by omega)] | rw [mset_ne (by omega)])
    · have hj3 : j < 6 := hj
      repeat (first | rw [mcpy_ne (by omega)] | rw [mset_ne (by omega)])
      rw [mcpy_at, if_pos ⟨by omega, hj3⟩]
      repeat (first | rw [mcpy_ne (by omega)] | rw [mset_ne (by omega)])
    · have hj3 : j < 6 := hj
      repeat (first | rw [mcpy_ne (by omega)] | rw [mset_ne (by omega)])
      rw [mcpy_at, if_pos ⟨by omega, hj3⟩]
      repeat (first | rw [mcpy_ne (by omega)] | rw [mset_ne (by omega)])
    · have hj3 : j < 4 := hj
      repeat (first | rw [mcpy_ne (by omega)] | rw [mset_ne (by omega)])
      rw [mcpy_at, if_pos ⟨by omega, hj3⟩]
      repeat (first | rw [mcpy_ne (by omega)] | rw [mset_ne (by omega)])
    · have hj3 : j < 1 := hj
      obtain rfl : j = 0 := by omega
      repeat (first | rw [mcpy_ne (by omega)] | rw [mset_ne (by omega)])
      rw [mset_at, if_pos ⟨by omega, rfl⟩]
      repeat (first | rw [mcpy_ne (by omega)] | rw [mset_ne (by omega)])
    · have hj3 : j < 60 := hj
      repeat (first | rw [mcpy_ne (by omega)] | rw [mset_ne (by omega)])
      rw [mcpy_at, if_pos ⟨by omega, hj3⟩]
      repeat (first | rw [mcpy_ne (by omega)] | rw [mset_ne (by omega)])
    · exact absurd hj (by simp [szk])
    · have hj3 : j < 6 := hj
      repeat (first | rw [mcpy_ne (by omega)] | rw [mset_ne (by omega)])
      rw [mcpy_at, if_pos ⟨by omega, hj3⟩]
      repeat (first | rw [mcpy_ne (by omega)] | rw [mset_ne (by omega)])
    · have hj3 : j < 4 := hj
      repeat (first | rw [mcpy_ne (by omega)] | rw [mset_ne (by omega)])
      rw [mcpy_at, if_pos ⟨by omega, hj3⟩]
      repeat (first | rw [mcpy_ne (by omega)] | rw [mset_ne (by omega)])
    · have hj3 : j < 1 := hj
      obtain rfl : j = 0 := by omega
      repeat (first | rw [mcpy_ne (by omega)] | rw [mset_ne (by omega)])
      rw [mset_at, if_pos ⟨by omega, rfl⟩]
      repeat (first | rw [mcpy_ne (by omega)] | rw [mset_ne (by omega)])
    · have hj3 : j < 24 := hj
      repeat (first | rw [mcpy_ne (by omega)] | rw [mset_ne (by omega)])
      rw [mcpy_at, if_pos ⟨by omega, hj3⟩]
      repeat (first | rw [mcpy_ne (by omega)] | rw [mset_ne (by omega)])
    · have hj3 : j < 24 := hj
      repeat (first | rw [mcpy_ne (by omega)] | rw [mset_ne (by omega)])
      rw [mcpy_at, if_pos ⟨by omega, hj3⟩]
      repeat (first | rw [mcpy_ne (by omega)] | rw [mset_ne (by omega)])
/-! the reference's copy -/
theorem ixs (n x j : Nat) : (nI n) * nI x + nI j = nI (n * x + j) := by rw [nI_mul, nI_add]
def cpd (b1 b2 i : Nat) (M M' : Mem) : Prop := (∀ c, (c < 113 ∨ 118 < c) → M'.1 c = M.1 c) ∧ ∀ c j, 113 ≤ c → c ≤ 118 → M'.1 c j = if bk c * b2 + i ≤ j ∧ j < bk c * b2 + bk c then M.1 c (bk c * b1 + (j - bk c * b2)) else M.1 c j
theorem mset_id {M : Mem} {c i : Nat} {v : Int32} : (∀ a, a ≠ c → (mset M c i v).1 a = M.1 a) := fun a h => mset_ne h
theorem copies_go {b1 b2 : Nat} (h1 : b1 < 3) (h2 : b2 < 3) (hb : b1 ≠ b2) : ∀ (d F i : Nat) (M : Mem), i + d = 144 → d < F → ∃ M', f_X10_copies_50 (nI b1) (nI b2) F (nI i) M = some ((), M') ∧ cpd b1 b2 i M M' := by
  intro d
  induction d with
  | zero =>
    intro F i M hi hF
    obtain ⟨F, rfl⟩ : ∃ F', F = F' + 1 := ⟨F - 1, by omega⟩
    refine ⟨M, ?_, fun _ _ => rfl, fun c j c1 c2 => ?_⟩
    · show f_X10_copies_50_b (f_X10_copies_50 (nI b1) (nI b2) F) (nI b1) (nI b2) (nI i) M = _
      unfold f_X10_copies_50_b
      rw [if_pos (show (144 : Int32) ≤ nI i from nI_le (a := 144) (by omega) (by omega))]
    · have : bk c ≤ 144 := by
        have : c = 113 ∨ c = 114 ∨ c = 115 ∨ c = 116 ∨ c = 117 ∨ c = 118 := by omega
        rcases this with rfl | rfl | rfl | rfl | rfl | rfl <;> decide
      rw [if_neg (by omega)]
  | succ d ih =>
    intro F i M hi hF
    obtain ⟨F, rfl⟩ : ∃ F', F = F' + 1 := ⟨F - 1, by omega⟩
    -- what one turn does
    let w := fun (M : Mem) (c n : Nat) => if i < n then mset M c (n * b2 + i) (M.1 c (n * b1 + i)) else M
    have hw : ∀ M c n a, a ≠ c → (w M c n).1 a = M.1 a := fun M c n a h => by
      show (if i < n then mset M c (n * b2 + i) (M.1 c (n * b1 + i)) else M).1 a = _
      split
      · exact mset_ne h
      · rfl
    have hw2 : ∀ M c n j, (w M c n).1 c j = if i < n ∧ j = n * b2 + i then M.1 c (n * b1 + i) else M.1 c j := fun M c n j => by
      show (if i < n then mset M c (n * b2 + i) (M.1 c (n * b1 + i)) else M).1 c j = _
      by_cases h : i < n
      · rw [if_pos h, mset_at]
        by_cases h3 : j = n * b2 + i
        · rw [if_pos ⟨rfl, h3⟩, if_pos ⟨h, h3⟩]
        · rw [if_neg (fun z => h3 z.2), if_neg (fun z => h3 z.2)]
      · rw [if_neg h, if_neg (fun z => h z.1)]
    let M6 := w (w (w (w (w (w M 114 144) 113 24) 115 60) 116 96) 117 16) 118 12
    have e1 : f_X10_copies_50 (nI b1) (nI b2) (F + 1) (nI i) M = f_X10_copies_50 (nI b1) (nI b2) F (nI (i + 1)) M6 := by
      show f_X10_copies_50_b (f_X10_copies_50 (nI b1) (nI b2) F) (nI b1) (nI b2) (nI i) M = f_X10_copies_50 (nI b1) (nI b2) F (nI (i + 1)) (w (w (w (w (w (w M 114 144) 113 24) 115 60) 116 96) 117 16) 118 12)
      have s221 : ∀ X, f_X10_copies_221 (f_X10_copies_50 (nI b1) (nI b2) F) (nI b1) (nI b2) (nI i) X = f_X10_copies_50 (nI b1) (nI b2) F (nI (i + 1)) X := fun X => by unfold f_X10_copies_221; rw [nI_1]
      have s193 : ∀ X, f_X10_copies_193 (f_X10_copies_50 (nI b1) (nI b2) F) (nI b1) (nI b2) (nI i) X = f_X10_copies_50 (nI b1) (nI b2) F (nI (i + 1)) (w X 118 12) := fun X => by
        unfold f_X10_copies_193
        show _ = f_X10_copies_50 (nI b1) (nI b2) F (nI (i + 1)) (if i < 12 then mset X 118 (12 * b2 + i) (X.1 118 (12 * b1 + i)) else X)
        by_cases h : i < 12
        · rw [if_neg (show ¬ (12 : Int32) ≤ nI i from nI_ge (b := 12) h (by omega)), if_pos h, show (12 : Int32) = nI 12 from rfl, ixs, ixs, rd_n (by omega), ck_n (by omega), stm_s, nI_clamp (by omega), s221]
        · rw [if_pos (show (12 : Int32) ≤ nI i from nI_le (a := 12) (by omega) (by omega)), if_neg h, s221]
      have s165 : ∀ X, f_X10_copies_165 (f_X10_copies_50 (nI b1) (nI b2) F) (nI b1) (nI b2) (nI i) X = f_X10_copies_50 (nI b1) (nI b2) F (nI (i + 1)) (w (w X 117 16) 118 12) := fun X => by
        unfold f_X10_copies_165
        show _ = f_X10_copies_50 (nI b1) (nI b2) F (nI (i + 1)) (w (if i < 16 then mset X 117 (16 * b2 + i) (X.1 117 (16 * b1 + i)) else X) 118 12)
        by_cases h : i < 16
        · rw [if_neg (show ¬ (16 : Int32) ≤ nI i from nI_ge (b := 16) h (by omega)), if_pos h, show (16 : Int32) = nI 16 from rfl, ixs, ixs, rd_n (by omega), ck_n (by omega), stm_s, nI_clamp (by omega), s193]
        · rw [if_pos (show (16 : Int32) ≤ nI i from nI_le (a := 16) (by omega) (by omega)), if_neg h, s193]
      have s137 : ∀ X, f_X10_copies_137 (f_X10_copies_50 (nI b1) (nI b2) F) (nI b1) (nI b2) (nI i) X = f_X10_copies_50 (nI b1) (nI b2) F (nI (i + 1)) (w (w (w X 116 96) 117 16) 118 12) := fun X => by
        unfold f_X10_copies_137
        show _ = f_X10_copies_50 (nI b1) (nI b2) F (nI (i + 1)) (w (w (if i < 96 then mset X 116 (96 * b2 + i) (X.1 116 (96 * b1 + i)) else X) 117 16) 118 12)
        by_cases h : i < 96
        · rw [if_neg (show ¬ (96 : Int32) ≤ nI i from nI_ge (b := 96) h (by omega)), if_pos h, show (96 : Int32) = nI 96 from rfl, ixs, ixs, rd_n (by omega), ck_n (by omega), stm_s, nI_clamp (by omega), s165]
        · rw [if_pos (show (96 : Int32) ≤ nI i from nI_le (a := 96) (by omega) (by omega)), if_neg h, s165]
      have s109 : ∀ X, f_X10_copies_109 (f_X10_copies_50 (nI b1) (nI b2) F) (nI b1) (nI b2) (nI i) X = f_X10_copies_50 (nI b1) (nI b2) F (nI (i + 1)) (w (w (w (w X 115 60) 116 96) 117 16) 118 12) := fun X => by
        unfold f_X10_copies_109
        show _ = f_X10_copies_50 (nI b1) (nI b2) F (nI (i + 1)) (w (w (w (if i < 60 then mset X 115 (60 * b2 + i) (X.1 115 (60 * b1 + i)) else X) 116 96) 117 16) 118 12)
        by_cases h : i < 60
        · rw [if_neg (show ¬ (60 : Int32) ≤ nI i from nI_ge (b := 60) h (by omega)), if_pos h, show (60 : Int32) = nI 60 from rfl, ixs, ixs, rd_n (by omega), ck_n (by omega), stm_s, nI_clamp (by omega), s137]
        · rw [if_pos (show (60 : Int32) ≤ nI i from nI_le (a := 60) (by omega) (by omega)), if_neg h, s137]
      unfold f_X10_copies_50_b
      have e0 : w M 114 144 = mset M 114 (144 * b2 + i) (M.1 114 (144 * b1 + i)) := if_pos (by omega)
      rw [if_neg (show ¬ (144 : Int32) ≤ nI i from nI_ge (b := 144) (by omega) (by omega)), show (144 : Int32) = nI 144 from rfl, ixs, ixs, rd_n (by omega), ck_n (by omega), stm_s, nI_clamp (by omega), ← e0]
      generalize w M 114 144 = X
      show _ = f_X10_copies_50 (nI b1) (nI b2) F (nI (i + 1)) (w (w (w (w (if i < 24 then mset X 113 (24 * b2 + i) (X.1 113 (24 * b1 + i)) else X) 115 60) 116 96) 117 16) 118 12)
      by_cases h : i < 24
      · rw [if_neg (show ¬ (24 : Int32) ≤ nI i from nI_ge (b := 24) h (by omega)), if_pos h, show (24 : Int32) = nI 24 from rfl, ixs, ixs, rd_n (by omega), ck_n (by omega), stm_s, nI_clamp (by omega), s109]
      · rw [if_pos (show (24 : Int32) ≤ nI i from nI_le (a := 24) (by omega) (by omega)), if_neg h, s109]
    obtain ⟨M', g1, g2, g3⟩ := ih F (i + 1) M6 (by omega) (by omega)
    refine ⟨M', e1.trans g1, fun c hc => ?_, fun c j c1 c2 => ?_⟩
    · rw [g2 c hc]
      show (w (w (w (w (w (w M 114 144) 113 24) 115 60) 116 96) 117 16) 118 12).1 c = _
      rw [hw _ _ _ _ (by omega), hw _ _ _ _ (by omega), hw _ _ _ _ (by omega), hw _ _ _ _ (by omega), hw _ _ _ _ (by omega), hw _ _ _ _ (by omega)]
    · have hc : ∀ j, M6.1 c j = if i < bk c ∧ j = bk c * b2 + i then M.1 c (bk c * b1 + i) else M.1 c j := fun j => by
        show (w (w (w (w (w (w M 114 144) 113 24) 115 60) 116 96) 117 16) 118 12).1 c j = _
        have : c = 113 ∨ c = 114 ∨ c = 115 ∨ c = 116 ∨ c = 117 ∨ c = 118 := by omega
        rcases this with rfl | rfl | rfl | rfl | rfl | rfl
        · rw [hw _ _ _ _ (by omega), hw _ _ _ _ (by omega), hw _ _ _ _ (by omega), hw _ _ _ _ (by omega), hw2, hw _ _ _ _ (by omega)]; rfl
        · rw [hw _ _ _ _ (by omega), hw _ _ _ _ (by omega), hw _ _ _ _ (by omega), hw _ _ _ _ (by omega), hw _ _ _ _ (by omega), hw2]; rfl
        · rw [hw _ _ _ _ (by omega), hw _ _ _ _ (by omega), hw _ _ _ _ (by omega), hw2, hw _ _ _ _ (by omega), hw _ _ _ _ (by omega)]; rfl
        · rw [hw _ _ _ _ (by omega), hw _ _ _ _ (by omega), hw2, hw _ _ _ _ (by omega), hw _ _ _ _ (by omega), hw _ _ _ _ (by omega)]; rfl
        · rw [hw _ _ _ _ (by omega), hw2, hw _ _ _ _ (by omega), hw _ _ _ _ (by omega), hw _ _ _ _ (by omega), hw _ _ _ _ (by omega)]; rfl
        · rw [hw2, hw _ _ _ _ (by omega), hw _ _ _ _ (by omega), hw _ _ _ _ (by omega), hw _ _ _ _ (by omega), hw _ _ _ _ (by omega)]; rfl
      have hmul : bk c * b1 + bk c ≤ bk c * b2 ∨ bk c * b2 + bk c ≤ bk c * b1 := by
        rcases Nat.lt_or_gt_of_ne hb with h | h
        · left; have := Nat.mul_le_mul_left (bk c) (show b1 + 1 ≤ b2 by omega); rw [Nat.mul_add] at this; omega
        · right; have := Nat.mul_le_mul_left (bk c) (show b2 + 1 ≤ b1 by omega); rw [Nat.mul_add] at this; omega
      rw [g3 c j c1 c2, hc, hc]
      generalize bk c * b1 = p at *
      generalize bk c * b2 = q at *
      generalize bk c = n at *
      by_cases g4 : q + (i + 1) ≤ j ∧ j < q + n
      · rw [if_pos g4, if_neg (by omega), if_pos (by omega)]
      · rw [if_neg g4]
        by_cases g5 : i < n ∧ j = q + i
        · rw [if_pos g5, if_pos (by omega)]; exact congrArg (M.1 c) (by omega)
        · rw [if_neg g5, if_neg (by omega)]
theorem ev_copies {b1 b2 : Nat} (h1 : b1 < 3) (h2 : b2 < 3) (hb : b1 ≠ b2) {M : Mem} : ∃ M', f_X10_copies (nI b1) (nI b2) M = some ((), M') ∧ (∀ c, (c < 109 ∨ 118 < c) → M'.1 c = M.1 c) ∧ ∀ c j, 109 ≤ c → c ≤ 118 → M'.1 c j = if bk c * b2 ≤ j ∧ j < bk c * b2 + bk c then M.1 c (bk c * b1 + (j - bk c * b2)) else M.1 c j := by
  let M4 := mset (mset (mset (mset M 109 b2 (M.1 109 b1)) 110 b2 (M.1 110 b1)) 111 b2 (M.1 111 b1)) 112 b2 (M.1 112 b1)
  obtain ⟨M', g1, g2, g3⟩ := copies_go h1 h2 hb 144 FU 0 M4 (by omega) (FU_of (by omega))
  refine ⟨M', ?_, fun c hc => ?_, fun c j c1 c2 => ?_⟩
  · unfold f_X10_copies
    rw [rd_n (by omega), ck_n (by omega), stm_s, nI_clamp (by omega), rd_n (by omega), ck_n (by omega), stm_s, rd_n (by omega), ck_n (by omega), stm_s, rd_n (by omega), ck_n (by omega), stm_s]
    rw [mset_ne (show 110 ≠ 109 by omega), mset_ne (show 111 ≠ 110 by omega), mset_ne (show 111 ≠ 109 by omega), mset_ne (show 112 ≠ 111 by omega), mset_ne (show 112 ≠ 110 by omega), mset_ne (show 112 ≠ 109 by omega)]
    exact g1
  · rw [g2 c (by omega)]
    show (mset (mset (mset (mset M 109 b2 (M.1 109 b1)) 110 b2 (M.1 110 b1)) 111 b2 (M.1 111 b1)) 112 b2 (M.1 112 b1)).1 c = _
    rw [mset_ne (by omega), mset_ne (by omega), mset_ne (by omega), mset_ne (by omega)]
  · have y4 : ∀ c j, M4.1 c j = if c = 112 ∧ j = b2 then M.1 112 b1 else if c = 111 ∧ j = b2 then M.1 111 b1 else if c = 110 ∧ j = b2 then M.1 110 b1 else if c = 109 ∧ j = b2 then M.1 109 b1 else M.1 c j := fun c j => by
      show (mset (mset (mset (mset M 109 b2 (M.1 109 b1)) 110 b2 (M.1 110 b1)) 111 b2 (M.1 111 b1)) 112 b2 (M.1 112 b1)).1 c j = _
      rw [mset_at, mset_at, mset_at, mset_at]
    have z4 : ∀ c, 113 ≤ c → M4.1 c = M.1 c := fun c hc => by
      funext j; rw [y4, if_neg (by omega), if_neg (by omega), if_neg (by omega), if_neg (by omega)]
    by_cases h : c < 113
    · rw [g2 c (Or.inl h), y4]
      have : c = 109 ∨ c = 110 ∨ c = 111 ∨ c = 112 := by omega
      have k1 : bk 109 = 1 ∧ bk 110 = 1 ∧ bk 111 = 1 ∧ bk 112 = 1 := by decide
      rcases this with rfl | rfl | rfl | rfl
      · rw [k1.1]
        by_cases hj : j = b2
        · subst hj; rw [if_neg (by omega), if_neg (by omega), if_neg (by omega), if_pos ⟨rfl, rfl⟩, if_pos (by omega)]; exact congrArg (M.1 109) (by omega)
        · rw [if_neg (by omega), if_neg (by omega), if_neg (by omega), if_neg (by omega), if_neg (by omega)]
      · rw [k1.2.1]
        by_cases hj : j = b2
        · subst hj; rw [if_neg (by omega), if_neg (by omega), if_pos ⟨rfl, rfl⟩, if_pos (by omega)]; exact congrArg (M.1 110) (by omega)
        · rw [if_neg (by omega), if_neg (by omega), if_neg (by omega), if_neg (by omega), if_neg (by omega)]
      · rw [k1.2.2.1]
        by_cases hj : j = b2
        · subst hj; rw [if_neg (by omega), if_pos ⟨rfl, rfl⟩, if_pos (by omega)]; exact congrArg (M.1 111) (by omega)
        · rw [if_neg (by omega), if_neg (by omega), if_neg (by omega), if_neg (by omega), if_neg (by omega)]
      · rw [k1.2.2.2]
        by_cases hj : j = b2
        · subst hj; rw [if_pos ⟨rfl, rfl⟩, if_pos (by omega)]; exact congrArg (M.1 112) (by omega)
        · rw [if_neg (by omega), if_neg (by omega), if_neg (by omega), if_neg (by omega), if_neg (by omega)]
    · rw [g3 c j (by omega) c2, z4 c (by omega)]; rfl
theorem op_image (a : Int32) : opI gRel (f_X9_image a) (f_X10_image a) := by
  intro M hR
  cases h1 : inR a 0 1 with
  | false =>
    refine ⟨-2, rfX 0 M, rfM 0 (rfX 0 M), ?_, ?_, gRel_rf hR⟩
    · simp only [f_X9_image, ev_isIn, cp_s, if_bI, h1, cond]; rfl
    · simp only [f_X10_image, ev_between, cp_s, if_bI, h1, cond]; rfl
  | true =>
  obtain ⟨i, hi, rfl⟩ := (inR_lit (m := 1) (by decide)).mp h1
  obtain ⟨M1, g1, -, g2, g3⟩ := ev_copy8 (M := M) (k0 := 26 + 21 * i) (k1 := 5) (by omega)
  have hM2 : ∀ c, (c < 26 + 21 * i ∨ 26 + 21 * i + 20 < c) → c ≠ 2 → (mset M1 2 i 1).1 c = M.1 c := fun c h h' => by rw [mset_ne h', g2 c h]
  obtain ⟨M3, q1, q2, q3⟩ := ev_copies (b1 := 0) (b2 := i + 1) (by omega) (by omega) (by omega) (M := mset M1 2 i 1)
  refine ⟨1, mset M1 2 i 1, mset M3 119 i 1, ?_, ?_, ?_⟩
  · simp only [f_X9_image, ev_isIn, cp_s, if_bI, h1, cond]
    rw [ck_n (by omega), nI_clamp (by omega), g1, cl_s, ck_n (by omega), stm_s]
  · simp only [f_X10_image, ev_between, cp_s, if_bI, h1, cond]
    rw [nI_1, show (0 : Int32) = nI 0 from rfl, q1, cl_s, ck_n (by omega), nI_clamp (by omega), stm_s]
  · generalize hM4 : mset M3 119 i 1 = M4
    have y : ∀ c, c < 109 → (c < 26 + 21 * i ∨ 26 + 21 * i + 20 < c) → c ≠ 2 → M4.1 c = M.1 c := fun c c1 c2 c3 => by
      rw [← hM4, mset_ne (by omega), q2 c (by omega), hM2 c c2 c3]
    have y2 : ∀ j, M4.1 2 j = if j = i then 1 else M.1 2 j := fun j => by
      rw [← hM4, mset_ne (by omega), q2 2 (by omega), mset_at, g2 2 (by omega)]
      by_cases h : j = i <;> simp [h]
    have y119 : ∀ j, M4.1 119 j = if j = i then 1 else M.1 119 j := fun j => by
      rw [← hM4, mset_at, q2 119 (by omega), hM2 119 (by omega) (by omega)]
      by_cases h : j = i <;> simp [h]
    have y120 : M4.1 120 = M.1 120 := by rw [← hM4, mset_ne (by omega), q2 120 (by omega), hM2 120 (by omega) (by omega)]
    have y108 : M4.1 108 = M.1 108 := y 108 (by omega) (by omega) (by omega)
    have yi : ∀ k, k ≤ 20 → Sv (26 + 21 * i) M4.1 k = Sv (26 + 21 * i) M1.1 k := fun k hk => by
      show M4.1 (26 + 21 * i + k) = M1.1 (26 + 21 * i + k)
      rw [← hM4, mset_ne (by omega), q2 _ (by omega), mset_ne (by omega)]
    have ym : ∀ c j, 109 ≤ c → c ≤ 118 → M4.1 c j = if bk c * (i + 1) ≤ j ∧ j < bk c * (i + 1) + bk c then M.1 c (bk c * 0 + (j - bk c * (i + 1))) else M.1 c j := fun c j c1 c2 => by
      rw [← hM4, mset_ne (by omega), q3 c j c1 c2, hM2 c (by omega) (by omega)]
    obtain ⟨⟨a1, a2⟩, a3, a4, a5, a6, a7⟩ := hR
    have s5 : ∀ k, 1 ≤ k → k ≤ 20 → Sv 5 M4.1 k = Sv 5 M.1 k := fun k k1 k2 => y (5 + k) (by omega) (by omega) (by omega)
    have hle : ∀ n i' : Nat, i' ≤ i → n * i' ≤ n * i := fun n i' h => Nat.mul_le_mul_left n h
    refine ⟨⟨Iv_cong s5 a1, Rm_cong s5 (fun c j c1 c2 j1 j2 => ?_) a1 a2⟩, fun j hj => ?_, fun j hj h => ?_, fun j hj => ?_, ?_, ?_⟩
    · rw [ym c j c1 c2, if_neg]
      rw [Nat.mul_add]; omega
    · rw [y2, y119]
      by_cases h : j = i
      · rw [if_pos h, if_pos h]; exact ⟨rfl, Or.inr rfl⟩
      · rw [if_neg h, if_neg h]; exact a3 j hj
    · by_cases hji : j = i
      · subst hji
        have hA : Ag (Sv 5 M.1) (Sv (26 + 21 * j) M4.1) := fun k x hk hx => by rw [yi k hk]; exact g3 k x hk hx
        refine ⟨Ag_Iv hA a1, Ag_Rm hA (fun c x c1 c2 hx => ?_) a1 a2⟩
        rw [ym c _ c1 c2, if_pos (by omega)]; exact congrArg (M.1 c) (by omega)
      · rw [y2, if_neg hji] at h
        obtain ⟨b1, b2⟩ := a4 j hj h
        have sj : ∀ k, 1 ≤ k → k ≤ 20 → Sv (26 + 21 * j) M4.1 k = Sv (26 + 21 * j) M.1 k := fun k k1 k2 => y (26 + 21 * j + k) (by omega) (by omega) (by omega)
        refine ⟨Iv_cong sj b1, Rm_cong sj (fun c x c1 c2 j1 j2 => ?_) b1 b2⟩
        rw [ym c x c1 c2, if_neg]
        have : (j = 0 ∧ i = 1) ∨ (j = 1 ∧ i = 0) := by omega
        rcases this with ⟨rfl, rfl⟩ | ⟨rfl, rfl⟩ <;> omega
    · rw [y 3 (by omega) (by omega) (by omega), y120]; exact a5 j hj
    · rw [y 0 (by omega) (by omega) (by omega), y108]; exact a6
    · rw [y 0 (by omega) (by omega) (by omega), y108]; exact a7
theorem op_from (a : Int32) : opI gRel (f_X9_from a) (f_X10_from a) := by
  intro M hR
  cases h1 : inR a 0 1 with
  | false =>
    refine ⟨-2, rfX 0 M, rfM 0 (rfX 0 M), ?_, ?_, gRel_rf hR⟩
    · simp only [f_X9_from, ev_isIn, cp_s, if_bI, h1, cond]; rfl
    · simp only [f_X10_from, ev_between, cp_s, if_bI, h1, cond]; rfl
  | true =>
  obtain ⟨i, hi, rfl⟩ := (inR_lit (m := 1) (by decide)).mp h1
  obtain ⟨r1, r2⟩ := hR.2.1 i hi
  by_cases h0 : M.1 2 i = 0
  · refine ⟨-3, rfX 1 M, rfM 1 (rfX 1 M), ?_, ?_, gRel_rf hR⟩
    · simp only [f_X9_from, ev_isIn, cp_s, if_bI, h1, cond]
      rw [rd_n (by omega), if_pos h0]; rfl
    · simp only [f_X10_from, ev_between, cp_s, if_bI, h1, cond]
      rw [rd_n (by omega), show (rfX 1 M).1 119 i = 0 by rw [rfX, mset_ne (by omega), ← r1, h0]]; rfl
  · have h01 : M.1 2 i = 1 := r2.resolve_left h0
    obtain ⟨M1, g1, -, g2, g3⟩ := ev_copy8 (M := M) (k0 := 5) (k1 := 26 + 21 * i) (by omega)
    obtain ⟨M3, q1, q2, q3⟩ := ev_copies (b1 := i + 1) (b2 := 0) (by omega) (by omega) (by omega) (M := M1)
    refine ⟨1, M1, M3, ?_, ?_, ?_⟩
    · simp only [f_X9_from, ev_isIn, cp_s, if_bI, h1, cond]
      rw [rd_n (by omega), if_neg h0, ck_n (by omega), nI_clamp (by omega), g1, cl_s]
    · simp only [f_X10_from, ev_between, cp_s, if_bI, h1, cond]
      rw [rd_n (by omega), g2 119 (by omega), ← r1, if_neg h0, nI_1, show (0 : Int32) = nI 0 from rfl, q1, cl_s]
    · have y : ∀ c, c < 109 → (c < 5 ∨ 25 < c) → M3.1 c = M.1 c := fun c c1 c2 => by rw [q2 c (by omega), g2 c (by omega)]
      have yi : ∀ k, k ≤ 20 → Sv 5 M3.1 k = Sv 5 M1.1 k := fun k hk => q2 (5 + k) (by omega)
      have ym : ∀ c j, 109 ≤ c → c ≤ 118 → M3.1 c j = if bk c * 0 ≤ j ∧ j < bk c * 0 + bk c then M.1 c (bk c * (i + 1) + (j - bk c * 0)) else M.1 c j := fun c j c1 c2 => by rw [q3 c j c1 c2, g2 c (by omega)]
      obtain ⟨b1, b2⟩ := hR.2.2.1 i hi h01
      have hA : Ag (Sv (26 + 21 * i) M.1) (Sv 5 M3.1) := fun k x hk hx => by rw [yi k hk]; exact g3 k x hk hx
      refine gRel_main hR (Ag_Iv hA b1) (Ag_Rm hA (fun c x c1 c2 hx => ?_) b1 b2) (fun c c1 c2 => y c (by omega) (by omega)) (fun j _ => by rw [y 2 (by omega) (by omega)]) (fun j _ => by rw [q2 119 (by omega), g2 119 (by omega)]) (fun j hj => ?_) ?_ ?_ (fun c j c1 c2 hj => ?_)
      · rw [ym c _ c1 c2, if_pos (by omega)]; exact congrArg (M.1 c) (by omega)
      · rw [y 3 (by omega) (by omega), q2 120 (by omega), g2 120 (by omega)]; exact hR.2.2.2.1 j hj
      · rw [y 0 (by omega) (by omega), y 108 (by omega) (by omega)]; exact hR.2.2.2.2.1
      · rw [y 0 (by omega) (by omega), y 108 (by omega) (by omega)]; exact hR.2.2.2.2.2
      · rw [ym c j c1 c2, if_neg (by omega)]
