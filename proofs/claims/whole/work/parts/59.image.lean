/-! image, from -/
def szk (k : Nat) : Nat := ([0, 3, 6, 6, 6, 6, 48, 48, 48, 1, 6, 6, 4, 1, 60, 0, 6, 4, 1, 24, 24] : List Nat).getD k 0
/-- S' tells what S tells -/
def Ag (S S' : Nat → Nat → Int32) : Prop := ∀ k j, k ≤ 20 → j < szk k → S' k j = S k j
theorem Ag_nT {S S' : Nat → Nat → Int32} (h : Ag S S') : nT S' = nT S := by unfold nT; rw [h 1 0 (by omega) (by decide)]
theorem Ag_nW {S S' : Nat → Nat → Int32} (h : Ag S S') {t : Nat} (ht : t < 6) : nW S' t = nW S t := by unfold nW; rw [h 5 t (by omega) ht]
theorem Ag_nP {S S' : Nat → Nat → Int32} (h : Ag S S') : nP S' = nP S := by unfold nP; rw [h 9 0 (by omega) (by decide)]
theorem Ag_nB {S S' : Nat → Nat → Int32} (h : Ag S S') : nB S' = nB S := by unfold nB; rw [h 13 0 (by omega) (by decide)]
theorem Ag_nQ {S S' : Nat → Nat → Int32} (h : Ag S S') : nQ S' = nQ S := by unfold nQ; rw [h 18 0 (by omega) (by decide)]
theorem Ag_isW {S S' : Nat → Nat → Int32} (h : Ag S S') (hT : IvT S) {t w : Nat} : isW S' t w ↔ isW S t w := by
  have h6 := nT_le hT
  unfold isW
  rw [Ag_nT h]
  constructor
  · intro ⟨g1, g2⟩; rw [Ag_nW h (by omega)] at g2; exact ⟨g1, g2⟩
  · intro ⟨g1, g2⟩; rw [Ag_nW h (by omega)]; exact ⟨g1, g2⟩
theorem Ag_Iv {S S' : Nat → Nat → Int32} (h : Ag S S') (hI : Iv S) : Iv S' := by
  obtain ⟨hT, hP, hB, hE, hQ⟩ := hI
  have h6 := nT_le hT
  have hp6 := nP_le hP
  have hb6 := nB_le hB
  have hq6 := nQ_le hQ
  refine ⟨⟨?_, fun t ht => ?_, fun t ht => ?_, fun t w ht hw => ?_, ?_, ?_⟩, ⟨?_, fun p hp => ?_, fun f hf => ?_⟩, ⟨?_, fun j hj => ?_⟩, ⟨fun p hp => ?_, fun f hf => ?_⟩, ⟨?_, fun j hj => ?_⟩⟩
  · rw [h 1 0 (by omega) (by decide)]; exact hT.1
  · rw [h 5 t (by omega) ht]; exact hT.2.1 t ht
  · rw [Ag_nT h] at ht
    rw [h 2 t (by omega) (show t < 6 by omega), h 3 t (by omega) (show t < 6 by omega), h 4 t (by omega) (show t < 6 by omega)]; exact hT.2.2.1 t ht
  · rw [Ag_nT h] at ht
    rw [Ag_nW h (by omega)] at hw
    have h8 := nW_le hT (show t < 6 by omega)
    rw [h 6 _ (by omega) (show 8 * t + w < 48 by omega), h 7 _ (by omega) (show 8 * t + w < 48 by omega), h 8 _ (by omega) (show 8 * t + w < 48 by omega)]; exact hT.2.2.2.1 t w ht hw
  · rw [h 1 1 (by omega) (by decide)]; exact hT.2.2.2.2.1
  · rw [h 1 2 (by omega) (by decide)]; exact hT.2.2.2.2.2
  · rw [h 9 0 (by omega) (by decide)]; exact hP.1
  · rw [Ag_nP h] at hp
    rw [h 10 p (by omega) (show p < 6 by omega), h 11 p (by omega) (show p < 6 by omega)]; exact hP.2.1 p hp
  · rw [h 12 f (by omega) hf]; exact hP.2.2 f hf
  · rw [h 13 0 (by omega) (by decide)]; exact hB.1
  · rw [Ag_nB h] at hj
    rw [h 14 j (by omega) (show j < 60 by omega)]; exact hB.2 j hj
  · rw [h 16 p (by omega) hp]; exact hE.1 p hp
  · rw [h 17 f (by omega) hf]; exact hE.2 f hf
  · rw [h 18 0 (by omega) (by decide)]; exact hQ.1
  · rw [Ag_nQ h] at hj
    obtain ⟨t, w, u, v, g1, g2, g3, g4, g5⟩ := hQ.2 j hj
    exact ⟨t, w, u, v, (Ag_isW h hT).mpr g1, (Ag_isW h hT).mpr g2, g3, by rw [h 19 j (by omega) (show j < 24 by omega)]; exact g4, by rw [h 20 j (by omega) (show j < 24 by omega)]; exact g5⟩
/-- bank b' of R' holds what bank b of R holds -/
def Bg (b b' : Nat) (R R' : Nat → Nat → Int32) : Prop := ∀ c j, 109 ≤ c → c ≤ 118 → j < bk c → R' c (bk c * b' + j) = R c (bk c * b + j)
theorem Ag_Rm {S S' R R' : Nat → Nat → Int32} {b b' : Nat} (h : Ag S S') (g : Bg b b' R R') (hI : Iv S) (hm : Rm b S R) : Rm b' S' R' := by
  obtain ⟨hT, hP, hB, hE, hQ⟩ := hI
  have h6 := nT_le hT
  have hp6 := nP_le hP
  have hb6 := nB_le hB
  have hq6 := nQ_le hQ
  obtain ⟨mT, mP, mB, mE, mQ⟩ := hm
  have g109 := g 109 0 (by omega) (by omega) (by decide)
  have g110 := g 110 0 (by omega) (by omega) (by decide)
  have g111 := g 111 0 (by omega) (by omega) (by decide)
  have g112 := g 112 0 (by omega) (by omega) (by decide)
  have g113 : ∀ j, j < 24 → R' 113 (24 * b' + j) = R 113 (24 * b + j) := fun j hj => g 113 j (by omega) (by omega) hj
  have g114 : ∀ j, j < 144 → R' 114 (144 * b' + j) = R 114 (144 * b + j) := fun j hj => g 114 j (by omega) (by omega) hj
  have g115 : ∀ j, j < 60 → R' 115 (60 * b' + j) = R 115 (60 * b + j) := fun j hj => g 115 j (by omega) (by omega) hj
  have g116 : ∀ j, j < 96 → R' 116 (96 * b' + j) = R 116 (96 * b + j) := fun j hj => g 116 j (by omega) (by omega) hj
  have g117 : ∀ j, j < 16 → R' 117 (16 * b' + j) = R 117 (16 * b + j) := fun j hj => g 117 j (by omega) (by omega) hj
  have g118 : ∀ j, j < 12 → R' 118 (12 * b' + j) = R 118 (12 * b + j) := fun j hj => g 118 j (by omega) (by omega) hj
  have o1 : ∀ b : Nat, 1 * b + 0 = b := fun b => by omega
  have k1 : bk 109 = 1 ∧ bk 110 = 1 ∧ bk 111 = 1 ∧ bk 112 = 1 := by decide
  rw [k1.1, o1, o1] at g109
  rw [k1.2.1, o1, o1] at g110
  rw [k1.2.2.1, o1, o1] at g111
  rw [k1.2.2.2, o1, o1] at g112
  refine ⟨⟨?_, fun t ht => ?_, fun t w ht hw => ?_, ?_, ?_⟩, ⟨?_, fun p hp => ?_, fun p hp hp2 => ?_, fun p hp => ?_, fun f hf => ?_⟩, ⟨?_, fun j hj => ?_⟩, ⟨fun p hp => ?_, fun f hf => ?_⟩, ⟨?_, fun j hj t w u v w1 w2 e1 e2 => ?_⟩⟩
  · rw [g109, h 1 0 (by omega) (by decide)]; exact mT.1
  · rw [Ag_nT h] at ht
    have := mT.2.1 t ht
    rw [Nat.add_assoc, Nat.add_assoc, Nat.add_assoc] at this ⊢
    rw [g113 _ (by omega), g113 _ (by omega), g113 _ (by omega), g113 _ (by omega), h 2 t (by omega) (show t < 6 by omega), h 3 t (by omega) (show t < 6 by omega), h 4 t (by omega) (show t < 6 by omega), h 5 t (by omega) (show t < 6 by omega)]
    exact this
  · rw [Ag_nT h] at ht
    rw [Ag_nW h (by omega)] at hw
    have h8 := nW_le hT (show t < 6 by omega)
    have := mT.2.2.1 t w ht hw
    rw [show 144 * b + 24 * t + 3 * w = 144 * b + (24 * t + 3 * w) by omega, show 144 * b + (24 * t + 3 * w) + 1 = 144 * b + (24 * t + 3 * w + 1) by omega, show 144 * b + (24 * t + 3 * w) + 2 = 144 * b + (24 * t + 3 * w + 2) by omega] at this
    rw [show 144 * b' + 24 * t + 3 * w = 144 * b' + (24 * t + 3 * w) by omega, show 144 * b' + (24 * t + 3 * w) + 1 = 144 * b' + (24 * t + 3 * w + 1) by omega, show 144 * b' + (24 * t + 3 * w) + 2 = 144 * b' + (24 * t + 3 * w + 2) by omega, g114 _ (by omega), g114 _ (by omega), g114 _ (by omega), h 6 _ (by omega) (show 8 * t + w < 48 by omega), h 7 _ (by omega) (show 8 * t + w < 48 by omega), h 8 _ (by omega) (show 8 * t + w < 48 by omega)]
    exact this
  · rw [g118 _ (by omega), h 1 1 (by omega) (by decide)]; exact mT.2.2.2.1
  · rw [g118 _ (by omega), h 1 2 (by omega) (by decide)]; exact mT.2.2.2.2
  · rw [g110, h 9 0 (by omega) (by decide)]; exact mP.1
  · rw [Ag_nP h] at hp
    rw [g117 _ (by omega), h 10 p (by omega) (show p < 6 by omega)]; exact mP.2.1 p hp
  · rw [Ag_nP h] at hp
    rw [g117 _ (by omega)]; exact mP.2.2.1 p hp hp2
  · rw [Nat.add_assoc, g117 _ (by omega), ← Nat.add_assoc]; exact mP.2.2.2.1 p hp
  · rw [Nat.add_assoc, g117 _ (by omega), ← Nat.add_assoc, h 12 f (by omega) hf]; exact mP.2.2.2.2 f hf
  · rw [g111, h 13 0 (by omega) (by decide)]; exact mB.1
  · rw [Ag_nB h] at hj
    rw [g115 _ (by omega), h 14 j (by omega) (show j < 60 by omega)]; exact mB.2 j hj
  · rw [g118 _ (by omega), h 16 p (by omega) hp]; exact mE.1 p hp
  · rw [Nat.add_assoc, g118 _ (by omega), ← Nat.add_assoc, h 17 f (by omega) hf]; exact mE.2 f hf
  · rw [g112, h 18 0 (by omega) (by decide)]; exact mQ.1
  · rw [Ag_nQ h] at hj
    rw [h 19 j (by omega) (show j < 24 by omega)] at e1
    rw [h 20 j (by omega) (show j < 24 by omega)] at e2
    have := mQ.2 j hj t w u v ((Ag_isW h hT).mp w1) ((Ag_isW h hT).mp w2) e1 e2
    rw [Nat.add_assoc, Nat.add_assoc, Nat.add_assoc] at this ⊢
    rw [g116 _ (by omega), g116 _ (by omega), g116 _ (by omega), g116 _ (by omega)]
    exact this
/-! the class's copy -/
theorem ev_copy8 {M : Mem} {k0 k1 : Nat} (hd : k0 + 21 ≤ k1 ∨ k1 + 21 ≤ k0) : ∃ M', f_X8_copyFrom k0 k1 M = some ((), M') ∧ M'.2 = M.2 ∧ (∀ c, (c < k0 ∨ k0 + 20 < c) → M'.1 c = M.1 c) ∧ Ag (Sv k1 M.1) (Sv k0 M'.1) := by
  refine ⟨_, rfl, rfl, fun c hc => ?_, fun k j hk hj => ?_⟩
  · funext j
    simp only [mset_at, mcpy_at]
    rw [if_neg (by omega), if_neg (by omega), if_neg (by omega), if_neg (by omega), if_neg (by omega), if_neg (by omega), if_neg (by omega), if_neg (by omega), if_neg (by omega), if_neg (by omega), if_neg (by omega), if_neg (by omega), if_neg (by omega), if_neg (by omega), if_neg (by omega), if_neg (by omega), if_neg (by omega), if_neg (by omega), if_neg (by omega), if_neg (by omega), if_neg (by omega)]
  · sorry
