/-! what the relation speaks of, and how it is kept -/
theorem IvT_cong {S S' : Nat → Nat → Int32} (e : ∀ k, 1 ≤ k → k ≤ 8 → S' k = S k) (h : IvT S) : IvT S' := by
  unfold IvT nT nW at *
  rw [e 1 (by omega) (by omega), e 2 (by omega) (by omega), e 3 (by omega) (by omega), e 4 (by omega) (by omega), e 5 (by omega) (by omega), e 6 (by omega) (by omega), e 7 (by omega) (by omega), e 8 (by omega) (by omega)]
  exact h
theorem IvP_cong {S S' : Nat → Nat → Int32} (e : ∀ k, 9 ≤ k → k ≤ 12 → S' k = S k) (h : IvP S) : IvP S' := by
  unfold IvP nP at *
  rw [e 9 (by omega) (by omega), e 10 (by omega) (by omega), e 11 (by omega) (by omega), e 12 (by omega) (by omega)]
  exact h
theorem IvB_cong {S S' : Nat → Nat → Int32} (e : ∀ k, 13 ≤ k → k ≤ 14 → S' k = S k) (h : IvB S) : IvB S' := by
  unfold IvB nB at *
  rw [e 13 (by omega) (by omega), e 14 (by omega) (by omega)]
  exact h
theorem IvE_cong {S S' : Nat → Nat → Int32} (e : ∀ k, 16 ≤ k → k ≤ 17 → S' k = S k) (h : IvE S) : IvE S' := by
  unfold IvE at *
  rw [e 16 (by omega) (by omega), e 17 (by omega) (by omega)]
  exact h
theorem IvQ_cong {S S' : Nat → Nat → Int32} (e1 : S' 1 0 = S 1 0) (e5 : S' 5 = S 5) (e : ∀ k, 18 ≤ k → k ≤ 20 → S' k = S k) (h : IvQ S) : IvQ S' := by
  unfold IvQ nQ isW nT nW at *
  rw [e1, e5, e 18 (by omega) (by omega), e 19 (by omega) (by omega), e 20 (by omega) (by omega)]
  exact h
theorem RmT_cong {b : Nat} {S S' R R' : Nat → Nat → Int32} (e : ∀ k, 1 ≤ k → k ≤ 8 → S' k = S k) (h1 : R' 109 b = R 109 b) (h2 : ∀ j, 24 * b ≤ j → j < 24 * b + 24 → R' 113 j = R 113 j) (h3 : ∀ j, 144 * b ≤ j → j < 144 * b + 144 → R' 114 j = R 114 j) (h4 : R' 118 (12 * b + 10) = R 118 (12 * b + 10)) (h5 : R' 118 (12 * b + 11) = R 118 (12 * b + 11)) (hI : IvT S) (h : RmT b S R) : RmT b S' R' := by
  have ht : nT S ≤ 6 := by
    obtain ⟨k, hk, hk2⟩ := hI.1
    unfold nT; rw [hk2, nI_clamp (by omega)]; omega
  have hw : ∀ t, t < nT S → nW S t ≤ 8 := fun t h => by
    obtain ⟨k, hk, hk2⟩ := hI.2.1 t (by omega)
    unfold nW; rw [hk2, nI_clamp (by omega)]; omega
  obtain ⟨g1, g2, g3, g4, g5⟩ := h
  have en : nT S' = nT S := by unfold nT; rw [e 1 (by omega) (by omega)]
  have ew : ∀ t, nW S' t = nW S t := fun t => by unfold nW; rw [e 5 (by omega) (by omega)]
  unfold RmT
  rw [en, e 1 (by omega) (by omega), e 2 (by omega) (by omega), e 3 (by omega) (by omega), e 4 (by omega) (by omega), e 5 (by omega) (by omega), e 6 (by omega) (by omega), e 7 (by omega) (by omega), e 8 (by omega) (by omega)]
  refine ⟨h1.trans g1, fun t ht2 => ?_, fun t w ht2 hw2 => ?_, h4.trans g4, h5.trans g5⟩
  · obtain ⟨a1, a2, a3, a4⟩ := g2 t ht2
    exact ⟨(h2 _ (by omega) (by omega)).trans a1, (h2 _ (by omega) (by omega)).trans a2, (h2 _ (by omega) (by omega)).trans a3, (h2 _ (by omega) (by omega)).trans a4⟩
  · rw [ew] at hw2
    obtain ⟨a1, a2, a3⟩ := g3 t w ht2 hw2
    have := hw t ht2
    exact ⟨(h3 _ (by omega) (by omega)).trans a1, (h3 _ (by omega) (by omega)).trans a2, (h3 _ (by omega) (by omega)).trans a3⟩
theorem nP_le {S : Nat → Nat → Int32} (h : IvP S) : nP S ≤ 6 := by
  obtain ⟨k, hk, hk2⟩ := h.1
  unfold nP; rw [hk2, nI_clamp (by omega)]; omega
theorem nT_le {S : Nat → Nat → Int32} (h : IvT S) : nT S ≤ 6 := by
  obtain ⟨k, hk, hk2⟩ := h.1
  unfold nT; rw [hk2, nI_clamp (by omega)]; omega
theorem nW_le {S : Nat → Nat → Int32} (h : IvT S) {t : Nat} (ht : t < 6) : nW S t ≤ 8 := by
  obtain ⟨k, hk, hk2⟩ := h.2.1 t ht
  unfold nW; rw [hk2, nI_clamp (by omega)]; omega
theorem nB_le {S : Nat → Nat → Int32} (h : IvB S) : nB S ≤ 60 := by
  obtain ⟨k, hk, hk2⟩ := h.1
  unfold nB; rw [hk2, nI_clamp (by omega)]; omega
theorem nQ_le {S : Nat → Nat → Int32} (h : IvQ S) : nQ S ≤ 24 := by
  obtain ⟨k, hk, hk2⟩ := h.1
  unfold nQ; rw [hk2, nI_clamp (by omega)]; omega
theorem nT_eq {S : Nat → Nat → Int32} (h : IvT S) : S 1 0 = nI (nT S) := by
  obtain ⟨k, hk, hk2⟩ := h.1
  unfold nT; rw [hk2, nI_clamp (by omega)]
theorem nW_eq {S : Nat → Nat → Int32} (h : IvT S) {t : Nat} (ht : t < 6) : S 5 t = nI (nW S t) := by
  obtain ⟨k, hk, hk2⟩ := h.2.1 t ht
  unfold nW; rw [hk2, nI_clamp (by omega)]
theorem nP_eq {S : Nat → Nat → Int32} (h : IvP S) : S 9 0 = nI (nP S) := by
  obtain ⟨k, hk, hk2⟩ := h.1
  unfold nP; rw [hk2, nI_clamp (by omega)]
theorem nB_eq {S : Nat → Nat → Int32} (h : IvB S) : S 13 0 = nI (nB S) := by
  obtain ⟨k, hk, hk2⟩ := h.1
  unfold nB; rw [hk2, nI_clamp (by omega)]
theorem nQ_eq {S : Nat → Nat → Int32} (h : IvQ S) : S 18 0 = nI (nQ S) := by
  obtain ⟨k, hk, hk2⟩ := h.1
  unfold nQ; rw [hk2, nI_clamp (by omega)]
theorem RmP_cong {b : Nat} {S S' R R' : Nat → Nat → Int32} (e : ∀ k, 9 ≤ k → k ≤ 12 → S' k = S k) (h1 : R' 110 b = R 110 b) (h2 : ∀ j, 16 * b ≤ j → j < 16 * b + 16 → R' 117 j = R 117 j) (hI : IvP S) (h : RmP b S R) : RmP b S' R' := by
  have := nP_le hI
  have en : nP S' = nP S := by unfold nP; rw [e 9 (by omega) (by omega)]
  obtain ⟨g1, g2, g3, g4, g5⟩ := h
  unfold RmP
  rw [en, e 9 (by omega) (by omega), e 10 (by omega) (by omega), e 12 (by omega) (by omega)]
  exact ⟨h1.trans g1, fun p hp => (h2 _ (by omega) (by omega)).trans (g2 p hp), fun p hp hp2 => (h2 _ (by omega) (by omega)).trans (g3 p hp hp2), fun p hp => (h2 _ (by omega) (by omega)).trans (g4 p hp), fun p hp => (h2 _ (by omega) (by omega)).trans (g5 p hp)⟩
theorem RmB_cong {b : Nat} {S S' R R' : Nat → Nat → Int32} (e : ∀ k, 13 ≤ k → k ≤ 14 → S' k = S k) (h1 : R' 111 b = R 111 b) (h2 : ∀ j, 60 * b ≤ j → j < 60 * b + 60 → R' 115 j = R 115 j) (hI : IvB S) (h : RmB b S R) : RmB b S' R' := by
  have := nB_le hI
  have en : nB S' = nB S := by unfold nB; rw [e 13 (by omega) (by omega)]
  unfold RmB
  rw [en, e 13 (by omega) (by omega), e 14 (by omega) (by omega)]
  exact ⟨h1.trans h.1, fun j hj => (h2 _ (by omega) (by omega)).trans (h.2 j hj)⟩
theorem RmE_cong {b : Nat} {S S' R R' : Nat → Nat → Int32} (e : ∀ k, 16 ≤ k → k ≤ 17 → S' k = S k) (h2 : ∀ j, 12 * b ≤ j → j < 12 * b + 10 → R' 118 j = R 118 j) (h : RmE b S R) : RmE b S' R' := by
  unfold RmE
  rw [e 16 (by omega) (by omega), e 17 (by omega) (by omega)]
  exact ⟨fun p hp => (h2 _ (by omega) (by omega)).trans (h.1 p hp), fun p hp => (h2 _ (by omega) (by omega)).trans (h.2 p hp)⟩
theorem RmQ_cong {b : Nat} {S S' R R' : Nat → Nat → Int32} (e1 : S' 1 0 = S 1 0) (e5 : S' 5 = S 5) (e : ∀ k, 18 ≤ k → k ≤ 20 → S' k = S k) (h1 : R' 112 b = R 112 b) (h2 : ∀ j, 96 * b ≤ j → j < 96 * b + 96 → R' 116 j = R 116 j) (hI : IvQ S) (h : RmQ b S R) : RmQ b S' R' := by
  have := nQ_le hI
  have en : nQ S' = nQ S := by unfold nQ; rw [e 18 (by omega) (by omega)]
  have ei : ∀ t w, isW S' t w ↔ isW S t w := fun t w => by unfold isW nT nW; rw [e1, e5]
  unfold RmQ
  rw [en, e 18 (by omega) (by omega), e 19 (by omega) (by omega), e 20 (by omega) (by omega)]
  refine ⟨h1.trans h.1, fun j hj t w u v g1 g2 g3 g4 => ?_⟩
  obtain ⟨a1, a2, a3, a4⟩ := h.2 j hj t w u v ((ei t w).mp g1) ((ei u v).mp g2) g3 g4
  exact ⟨(h2 _ (by omega) (by omega)).trans a1, (h2 _ (by omega) (by omega)).trans a2, (h2 _ (by omega) (by omega)).trans a3, (h2 _ (by omega) (by omega)).trans a4⟩
theorem Iv_cong {S S' : Nat → Nat → Int32} (e : ∀ k, 1 ≤ k → k ≤ 20 → S' k = S k) (h : Iv S) : Iv S' :=
  ⟨IvT_cong (fun k h1 h2 => e k h1 (by omega)) h.1, IvP_cong (fun k h1 h2 => e k (by omega) (by omega)) h.2.1, IvB_cong (fun k h1 h2 => e k (by omega) (by omega)) h.2.2.1, IvE_cong (fun k h1 h2 => e k (by omega) (by omega)) h.2.2.2.1, IvQ_cong (by rw [e 1 (by omega) (by omega)]) (e 5 (by omega) (by omega)) (fun k h1 h2 => e k (by omega) (by omega)) h.2.2.2.2⟩
/-- how long a bank of a cell of the reference is -/
def bk (c : Nat) : Nat := ([1, 1, 1, 1, 24, 144, 60, 96, 16, 12] : List Nat).getD (c - 109) 0
theorem Rm_cong {b : Nat} {S S' R R' : Nat → Nat → Int32} (e : ∀ k, 1 ≤ k → k ≤ 20 → S' k = S k) (hR : ∀ c j, 109 ≤ c → c ≤ 118 → bk c * b ≤ j → j < bk c * b + bk c → R' c j = R c j) (hI : Iv S) (h : Rm b S R) : Rm b S' R' := by
  obtain ⟨h1, h2, h3, h4, h5⟩ := h
  obtain ⟨i1, i2, i3, i4, i5⟩ := hI
  have k1 : ∀ c, bk c = ([1, 1, 1, 1, 24, 144, 60, 96, 16, 12] : List Nat).getD (c - 109) 0 := fun c => rfl
  refine ⟨RmT_cong (fun k a1 a2 => e k a1 (by omega)) (hR 109 b (by omega) (by omega) ?_ ?_) (fun j a1 a2 => hR 113 j (by omega) (by omega) a1 a2) (fun j a1 a2 => hR 114 j (by omega) (by omega) a1 a2) (hR 118 _ (by omega) (by omega) ?_ ?_) (hR 118 _ (by omega) (by omega) ?_ ?_) i1 h1,
    RmP_cong (fun k a1 a2 => e k (by omega) (by omega)) (hR 110 b (by omega) (by omega) ?_ ?_) (fun j a1 a2 => hR 117 j (by omega) (by omega) a1 a2) i2 h2,
    RmB_cong (fun k a1 a2 => e k (by omega) (by omega)) (hR 111 b (by omega) (by omega) ?_ ?_) (fun j a1 a2 => hR 115 j (by omega) (by omega) a1 a2) i3 h3,
    RmE_cong (fun k a1 a2 => e k (by omega) (by omega)) (fun j a1 a2 => hR 118 j (by omega) (by omega) a1 (Nat.lt_of_lt_of_le a2 (by show 12 * b + 10 ≤ 12 * b + 12; omega))) h4,
    RmQ_cong (by rw [e 1 (by omega) (by omega)]) (e 5 (by omega) (by omega)) (fun k a1 a2 => e k (by omega) (by omega)) (hR 112 b (by omega) (by omega) ?_ ?_) (fun j a1 a2 => hR 116 j (by omega) (by omega) a1 a2) i5 h5⟩
  all_goals first | (show 1 * b ≤ _; omega) | (show _ < 1 * b + 1; omega) | (show 12 * b ≤ _; omega) | (show _ < 12 * b + 12; omega)
/-- the main stock changed, or what is told of refusals, or nothing -/
theorem gRel_main {M M2 : Mem} (hR : gRel M) (hI : Iv (Sv 5 M2.1)) (hm : Rm 0 (Sv 5 M2.1) M2.1) (hx : ∀ c, 26 ≤ c → c ≤ 67 → M2.1 c = M.1 c) (h2 : ∀ i, i < 2 → M2.1 2 i = M.1 2 i) (hk : ∀ i, i < 2 → M2.1 119 i = M.1 119 i) (hs : ∀ i, i < 3 → M2.1 3 i = M2.1 120 i) (h4 : M2.1 0 4 = M2.1 108 11) (h5 : M2.1 0 5 = M2.1 108 12) (hb : ∀ c j, 109 ≤ c → c ≤ 118 → bk c ≤ j → M2.1 c j = M.1 c j) : gRel M2 := by
  obtain ⟨⟨a1, a2⟩, a3, a4, a5, a6, a7⟩ := hR
  refine ⟨⟨hI, hm⟩, fun i hi => ?_, fun i hi h => ?_, hs, h4, h5⟩
  · rw [h2 i hi, hk i hi]; exact a3 i hi
  · rw [h2 i hi] at h
    obtain ⟨g1, g2⟩ := a4 i hi h
    have e : ∀ k, 1 ≤ k → k ≤ 20 → Sv (26 + 21 * i) M2.1 k = Sv (26 + 21 * i) M.1 k := fun k k1 k2 => hx _ (by omega) (by omega)
    refine ⟨Iv_cong e g1, Rm_cong e (fun c j c1 c2 j1 j2 => hb c j c1 c2 ?_) g1 g2⟩
    have : bk c * 1 ≤ bk c * (i + 1) := Nat.mul_le_mul_left _ (by omega)
    omega
/-- nothing of what is told changed but refusals -/
theorem gRel_same {M M2 : Mem} (hR : gRel M) (hx : ∀ c, 5 ≤ c → c ≤ 67 → M2.1 c = M.1 c) (h2 : M2.1 2 = M.1 2) (hk : ∀ c, 109 ≤ c → c ≤ 119 → M2.1 c = M.1 c) (hs : ∀ i, i < 3 → M2.1 3 i = M2.1 120 i) (h4 : M2.1 0 4 = M2.1 108 11) (h5 : M2.1 0 5 = M2.1 108 12) : gRel M2 := by
  have e : ∀ k, 1 ≤ k → k ≤ 20 → Sv 5 M2.1 k = Sv 5 M.1 k := fun k k1 k2 => hx _ (by omega) (by omega)
  refine gRel_main hR (Iv_cong e hR.1.1) (Rm_cong e (fun c j c1 c2 _ _ => by rw [hk c c1 (by omega)]) hR.1.1 hR.1.2) (fun c c1 c2 => hx c (by omega) c2) (fun i _ => by rw [h2]) (fun i _ => by rw [hk 119 (by omega) (by omega)]) hs h4 h5 (fun c j c1 c2 _ => by rw [hk c c1 (by omega)])
theorem gRel_rf {M : Mem} {i : Nat} (hR : gRel M) : gRel (rfM i (rfX i M)) := by
  obtain ⟨-, -, -, a5, a6, a7⟩ := id hR
  refine gRel_same hR (fun c h1 h2 => ?_) ?_ (fun c h1 h2 => ?_) (fun j hj => ?_) ?_ ?_
  · rw [rfM, mset_ne (by omega), rfX, mset_ne (by omega)]
  · rw [rfM, mset_ne (by omega), rfX, mset_ne (by omega)]
  · rw [rfM, mset_ne (by omega), rfX, mset_ne (by omega)]
  · simp only [rfM, rfX, mset_at]
    by_cases h : j = i
    · subst h; simp [a5 j hj]
    · simp [h, a5 j hj]
  · simp [rfM, rfX, mset_at, a6]
  · simp [rfM, rfX, mset_at, a7]
