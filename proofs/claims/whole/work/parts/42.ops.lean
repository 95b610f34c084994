/-! calls that change the main stock in one place -/
def Mn (M M2 : Mem) : Prop := (∀ c, 26 ≤ c → c ≤ 67 → M2.1 c = M.1 c) ∧ M2.1 2 = M.1 2 ∧ M2.1 119 = M.1 119 ∧ M2.1 3 = M.1 3 ∧ M2.1 120 = M.1 120 ∧ M2.1 0 = M.1 0 ∧ M2.1 108 11 = M.1 108 11 ∧ M2.1 108 12 = M.1 108 12 ∧ (∀ c j, 109 ≤ c → c ≤ 118 → bk c ≤ j → M2.1 c j = M.1 c j)
theorem Mn.rf {M : Mem} : Mn M M := ⟨fun _ _ _ => rfl, rfl, rfl, rfl, rfl, rfl, rfl, rfl, fun _ _ _ _ _ => rfl⟩
theorem Mn.set {M M2 : Mem} {c i : Nat} {v : Int32} (h : Mn M M2) (hc : (4 ≤ c ∧ c ≤ 25) ∨ (68 ≤ c ∧ c ≤ 107) ∨ (109 ≤ c ∧ c ≤ 118 ∧ i < bk c) ∨ 121 ≤ c) : Mn M (mset M2 c i v) := by
  obtain ⟨h1, h2, h3, h4, h5, h6, h7, h8, h9⟩ := h
  refine ⟨fun a a1 a2 => by rw [mset_ne (by omega)]; exact h1 a a1 a2, by rw [mset_ne (by omega)]; exact h2, by rw [mset_ne (by omega)]; exact h3, by rw [mset_ne (by omega)]; exact h4, by rw [mset_ne (by omega)]; exact h5, by rw [mset_ne (by omega)]; exact h6, by rw [mset_ne (by omega)]; exact h7, by rw [mset_ne (by omega)]; exact h8, fun a j a1 a2 a3 => ?_⟩
  rw [mset_at]
  by_cases hac : a = c ∧ j = i
  · obtain ⟨rfl, rfl⟩ := hac; omega
  · rw [if_neg hac]; exact h9 a j a1 a2 a3
theorem gRel_mn {M M2 : Mem} (hR : gRel M) (h : Mn M M2) (hI : Iv (Sv 5 M2.1)) (hm : Rm 0 (Sv 5 M2.1) M2.1) : gRel M2 := by
  obtain ⟨h1, h2, h3, h4, h5, h6, h7, h8, h9⟩ := h
  obtain ⟨-, -, -, a5, a6, a7⟩ := id hR
  exact gRel_main hR hI hm h1 (fun i _ => by rw [h2]) (fun i _ => by rw [h3]) (fun i hi => by rw [h4, h5]; exact a5 i hi) (by rw [h6, h7]; exact a6) (by rw [h6, h8]; exact a7) h9
def Sc (M M2 : Mem) : Prop := (∀ c, c ≤ 67 → c ≠ 4 → M2.1 c = M.1 c) ∧ (∀ c, 109 ≤ c → c ≤ 120 → M2.1 c = M.1 c) ∧ M2.1 108 11 = M.1 108 11 ∧ M2.1 108 12 = M.1 108 12
theorem Sc.rf {M : Mem} : Sc M M := ⟨fun _ _ _ => rfl, fun _ _ _ => rfl, rfl, rfl⟩
theorem Sc.tr {M M1 M2 : Mem} (h : Sc M M1) (g : Sc M1 M2) : Sc M M2 := ⟨fun c h1 h2 => (g.1 c h1 h2).trans (h.1 c h1 h2), fun c h1 h2 => (g.2.1 c h1 h2).trans (h.2.1 c h1 h2), g.2.2.1.trans h.2.2.1, g.2.2.2.trans h.2.2.2⟩
theorem gRel_sc {M M2 : Mem} (hR : gRel M) (h : Sc M M2) : gRel M2 := by
  obtain ⟨-, -, -, a5, a6, a7⟩ := id hR
  obtain ⟨h1, h2, h3, h4⟩ := h
  exact gRel_same hR (fun c c1 c2 => h1 c c2 (by omega)) (h1 2 (by omega) (by omega)) (fun c c1 c2 => h2 c c1 (by omega)) (fun i hi => by rw [h1 3 (by omega) (by omega), h2 120 (by omega) (by omega)]; exact a5 i hi) (by rw [h1 0 (by omega) (by omega), h3]; exact a6) (by rw [h1 0 (by omega) (by omega), h4]; exact a7)
theorem U_lt {n : Nat} {x : Int32} (h : U n x) (hn : n ≤ 2 ^ 31 := by decide) : ∃ k, k < n ∧ x = nI k ∧ x.toNatClampNeg = k := by
  obtain ⟨k, h1, rfl⟩ := h
  exact ⟨k, h1, rfl, nI_clamp (by omega)⟩
theorem gRel_P {M M2 : Mem} (hR : gRel M) (h : Mn M M2) (hc : ∀ c, 6 ≤ c → c ≤ 25 → (c < 14 ∨ 17 < c) → M2.1 c = M.1 c) (hm : ∀ c, 109 ≤ c → c ≤ 118 → c ≠ 110 → c ≠ 117 → M2.1 c = M.1 c) (hI : IvP (Sv 5 M2.1)) (hr : RmP 0 (Sv 5 M2.1) M2.1) : gRel M2 := by
  obtain ⟨⟨⟨i1, i2, i3, i4, i5⟩, m1, m2, m3, m4, m5⟩, -⟩ := id hR
  have e : ∀ k, 1 ≤ k → k ≤ 20 → (k < 9 ∨ 12 < k) → Sv 5 M2.1 k = Sv 5 M.1 k := fun k h1 h2 h3 => hc _ (by omega) (by omega) (by omega)
  exact gRel_mn hR h ⟨IvT_cong (fun k h1 h2 => e k (by omega) (by omega) (by omega)) i1, hI, IvB_cong (fun k h1 h2 => e k (by omega) (by omega) (by omega)) i3, IvE_cong (fun k h1 h2 => e k (by omega) (by omega) (by omega)) i4, IvQ_cong (by rw [e 1 (by omega) (by omega) (by omega)]) (e 5 (by omega) (by omega) (by omega)) (fun k h1 h2 => e k (by omega) (by omega) (by omega)) i5⟩
    ⟨RmT_cong (fun k h1 h2 => e k (by omega) (by omega) (by omega)) (by rw [hm 109 (by omega) (by omega) (by omega) (by omega)]) (fun j _ _ => by rw [hm 113 (by omega) (by omega) (by omega) (by omega)]) (fun j _ _ => by rw [hm 114 (by omega) (by omega) (by omega) (by omega)]) (by rw [hm 118 (by omega) (by omega) (by omega) (by omega)]) (by rw [hm 118 (by omega) (by omega) (by omega) (by omega)]) i1 m1, hr,
     RmB_cong (fun k h1 h2 => e k (by omega) (by omega) (by omega)) (by rw [hm 111 (by omega) (by omega) (by omega) (by omega)]) (fun j _ _ => by rw [hm 115 (by omega) (by omega) (by omega) (by omega)]) i3 m3,
     RmE_cong (fun k h1 h2 => e k (by omega) (by omega) (by omega)) (fun j _ _ => by rw [hm 118 (by omega) (by omega) (by omega) (by omega)]) m4,
     RmQ_cong (by rw [e 1 (by omega) (by omega) (by omega)]) (e 5 (by omega) (by omega) (by omega)) (fun k h1 h2 => e k (by omega) (by omega) (by omega)) (by rw [hm 112 (by omega) (by omega) (by omega) (by omega)]) (fun j _ _ => by rw [hm 116 (by omega) (by omega) (by omega) (by omega)]) i5 m5⟩
theorem gRel_B {M M2 : Mem} (hR : gRel M) (h : Mn M M2) (hc : ∀ c, 6 ≤ c → c ≤ 25 → (c < 18 ∨ 19 < c) → M2.1 c = M.1 c) (hm : ∀ c, 109 ≤ c → c ≤ 118 → c ≠ 111 → c ≠ 115 → M2.1 c = M.1 c) (hI : IvB (Sv 5 M2.1)) (hr : RmB 0 (Sv 5 M2.1) M2.1) : gRel M2 := by
  obtain ⟨⟨⟨i1, i2, i3, i4, i5⟩, m1, m2, m3, m4, m5⟩, -⟩ := id hR
  have e : ∀ k, 1 ≤ k → k ≤ 20 → (k < 13 ∨ 14 < k) → Sv 5 M2.1 k = Sv 5 M.1 k := fun k h1 h2 h3 => hc _ (by omega) (by omega) (by omega)
  exact gRel_mn hR h ⟨IvT_cong (fun k h1 h2 => e k (by omega) (by omega) (by omega)) i1, IvP_cong (fun k h1 h2 => e k (by omega) (by omega) (by omega)) i2, hI, IvE_cong (fun k h1 h2 => e k (by omega) (by omega) (by omega)) i4, IvQ_cong (by rw [e 1 (by omega) (by omega) (by omega)]) (e 5 (by omega) (by omega) (by omega)) (fun k h1 h2 => e k (by omega) (by omega) (by omega)) i5⟩
    ⟨RmT_cong (fun k h1 h2 => e k (by omega) (by omega) (by omega)) (by rw [hm 109 (by omega) (by omega) (by omega) (by omega)]) (fun j _ _ => by rw [hm 113 (by omega) (by omega) (by omega) (by omega)]) (fun j _ _ => by rw [hm 114 (by omega) (by omega) (by omega) (by omega)]) (by rw [hm 118 (by omega) (by omega) (by omega) (by omega)]) (by rw [hm 118 (by omega) (by omega) (by omega) (by omega)]) i1 m1,
     RmP_cong (fun k h1 h2 => e k (by omega) (by omega) (by omega)) (by rw [hm 110 (by omega) (by omega) (by omega) (by omega)]) (fun j _ _ => by rw [hm 117 (by omega) (by omega) (by omega) (by omega)]) i2 m2, hr,
     RmE_cong (fun k h1 h2 => e k (by omega) (by omega) (by omega)) (fun j _ _ => by rw [hm 118 (by omega) (by omega) (by omega) (by omega)]) m4,
     RmQ_cong (by rw [e 1 (by omega) (by omega) (by omega)]) (e 5 (by omega) (by omega) (by omega)) (fun k h1 h2 => e k (by omega) (by omega) (by omega)) (by rw [hm 112 (by omega) (by omega) (by omega) (by omega)]) (fun j _ _ => by rw [hm 116 (by omega) (by omega) (by omega) (by omega)]) i5 m5⟩
theorem gRel_E {M M2 : Mem} (hR : gRel M) (h : Mn M M2) (hc : ∀ c, 6 ≤ c → c ≤ 25 → (c < 21 ∨ 22 < c) → M2.1 c = M.1 c) (hm : ∀ c, 109 ≤ c → c ≤ 117 → M2.1 c = M.1 c) (h10 : M2.1 118 10 = M.1 118 10) (h11 : M2.1 118 11 = M.1 118 11) (hI : IvE (Sv 5 M2.1)) (hr : RmE 0 (Sv 5 M2.1) M2.1) : gRel M2 := by
  obtain ⟨⟨⟨i1, i2, i3, i4, i5⟩, m1, m2, m3, m4, m5⟩, -⟩ := id hR
  have e : ∀ k, 1 ≤ k → k ≤ 20 → (k < 16 ∨ 17 < k) → Sv 5 M2.1 k = Sv 5 M.1 k := fun k h1 h2 h3 => hc _ (by omega) (by omega) (by omega)
  exact gRel_mn hR h ⟨IvT_cong (fun k h1 h2 => e k (by omega) (by omega) (by omega)) i1, IvP_cong (fun k h1 h2 => e k (by omega) (by omega) (by omega)) i2, IvB_cong (fun k h1 h2 => e k (by omega) (by omega) (by omega)) i3, hI, IvQ_cong (by rw [e 1 (by omega) (by omega) (by omega)]) (e 5 (by omega) (by omega) (by omega)) (fun k h1 h2 => e k (by omega) (by omega) (by omega)) i5⟩
    ⟨RmT_cong (fun k h1 h2 => e k (by omega) (by omega) (by omega)) (by rw [hm 109 (by omega) (by omega)]) (fun j _ _ => by rw [hm 113 (by omega) (by omega)]) (fun j _ _ => by rw [hm 114 (by omega) (by omega)]) h10 h11 i1 m1,
     RmP_cong (fun k h1 h2 => e k (by omega) (by omega) (by omega)) (by rw [hm 110 (by omega) (by omega)]) (fun j _ _ => by rw [hm 117 (by omega) (by omega)]) i2 m2,
     RmB_cong (fun k h1 h2 => e k (by omega) (by omega) (by omega)) (by rw [hm 111 (by omega) (by omega)]) (fun j _ _ => by rw [hm 115 (by omega) (by omega)]) i3 m3, hr,
     RmQ_cong (by rw [e 1 (by omega) (by omega) (by omega)]) (e 5 (by omega) (by omega) (by omega)) (fun k h1 h2 => e k (by omega) (by omega) (by omega)) (by rw [hm 112 (by omega) (by omega)]) (fun j _ _ => by rw [hm 116 (by omega) (by omega)]) i5 m5⟩
theorem gRel_T {M M2 : Mem} (hR : gRel M) (h : Mn M M2) (hc : ∀ c, 14 ≤ c → c ≤ 25 → M2.1 c = M.1 c) (hm : ∀ c, 109 ≤ c → c ≤ 117 → c ≠ 109 → c ≠ 113 → c ≠ 114 → M2.1 c = M.1 c) (h118 : ∀ j, j < 10 → M2.1 118 j = M.1 118 j) (hI : IvT (Sv 5 M2.1)) (hr : RmT 0 (Sv 5 M2.1) M2.1) (hQ : IvQ (Sv 5 M2.1)) (hq : RmQ 0 (Sv 5 M2.1) M2.1) : gRel M2 := by
  obtain ⟨⟨⟨i1, i2, i3, i4, i5⟩, m1, m2, m3, m4, m5⟩, -⟩ := id hR
  have e : ∀ k, 9 ≤ k → k ≤ 20 → Sv 5 M2.1 k = Sv 5 M.1 k := fun k h1 h2 => hc _ (by omega) (by omega)
  exact gRel_mn hR h ⟨hI, IvP_cong (fun k h1 h2 => e k (by omega) (by omega)) i2, IvB_cong (fun k h1 h2 => e k (by omega) (by omega)) i3, IvE_cong (fun k h1 h2 => e k (by omega) (by omega)) i4, hQ⟩
    ⟨hr, RmP_cong (fun k h1 h2 => e k (by omega) (by omega)) (by rw [hm 110 (by omega) (by omega) (by omega) (by omega) (by omega)]) (fun j _ _ => by rw [hm 117 (by omega) (by omega) (by omega) (by omega) (by omega)]) i2 m2,
     RmB_cong (fun k h1 h2 => e k (by omega) (by omega)) (by rw [hm 111 (by omega) (by omega) (by omega) (by omega) (by omega)]) (fun j _ _ => by rw [hm 115 (by omega) (by omega) (by omega) (by omega) (by omega)]) i3 m3,
     RmE_cong (fun k h1 h2 => e k (by omega) (by omega)) (fun j _ hj => h118 j (by omega)) m4, hq⟩
theorem gRel_Q {M M2 : Mem} (hR : gRel M) (h : Mn M M2) (hc : ∀ c, 6 ≤ c → c ≤ 22 → M2.1 c = M.1 c) (hm : ∀ c, 109 ≤ c → c ≤ 118 → c ≠ 112 → c ≠ 116 → M2.1 c = M.1 c) (hI : IvQ (Sv 5 M2.1)) (hr : RmQ 0 (Sv 5 M2.1) M2.1) : gRel M2 := by
  obtain ⟨⟨⟨i1, i2, i3, i4, i5⟩, m1, m2, m3, m4, m5⟩, -⟩ := id hR
  have e : ∀ k, 1 ≤ k → k ≤ 17 → Sv 5 M2.1 k = Sv 5 M.1 k := fun k h1 h2 => hc _ (by omega) (by omega)
  exact gRel_mn hR h ⟨IvT_cong (fun k h1 h2 => e k (by omega) (by omega)) i1, IvP_cong (fun k h1 h2 => e k (by omega) (by omega)) i2, IvB_cong (fun k h1 h2 => e k (by omega) (by omega)) i3, IvE_cong (fun k h1 h2 => e k (by omega) (by omega)) i4, hI⟩
    ⟨RmT_cong (fun k h1 h2 => e k (by omega) (by omega)) (by rw [hm 109 (by omega) (by omega) (by omega) (by omega)]) (fun j _ _ => by rw [hm 113 (by omega) (by omega) (by omega) (by omega)]) (fun j _ _ => by rw [hm 114 (by omega) (by omega) (by omega) (by omega)]) (by rw [hm 118 (by omega) (by omega) (by omega) (by omega)]) (by rw [hm 118 (by omega) (by omega) (by omega) (by omega)]) i1 m1,
     RmP_cong (fun k h1 h2 => e k (by omega) (by omega)) (by rw [hm 110 (by omega) (by omega) (by omega) (by omega)]) (fun j _ _ => by rw [hm 117 (by omega) (by omega) (by omega) (by omega)]) i2 m2,
     RmB_cong (fun k h1 h2 => e k (by omega) (by omega)) (by rw [hm 111 (by omega) (by omega) (by omega) (by omega)]) (fun j _ _ => by rw [hm 115 (by omega) (by omega) (by omega) (by omega)]) i3 m3,
     RmE_cong (fun k h1 h2 => e k (by omega) (by omega)) (fun j _ _ => by rw [hm 118 (by omega) (by omega) (by omega) (by omega)]) m4, hr⟩
theorem op_clear : opI gRel f_X9_clear f_X10_clear := by
  intro M hR
  obtain ⟨⟨⟨i1, i2, i3, i4, i5⟩, m1, m2, m3, m4, m5⟩, -⟩ := id hR
  have e1 : M.1 111 0 = M.1 18 0 := m3.1
  refine ⟨M.1 18 0, mset M 18 0 0, mset (mset M 18 0 0) 111 0 0, rfl, by rw [← e1]; rfl, gRel_B hR ((Mn.rf.set (by omega)).set (by decide)) (fun c _ _ _ => by rw [mset_ne (by omega), mset_ne (by omega)]) (fun c _ _ _ _ => by rw [mset_ne (by omega), mset_ne (by omega)]) ⟨⟨0, by omega, ?_⟩, fun j hj => ?_⟩ ⟨?_, fun j hj => ?_⟩⟩
  · simp [Sv, mset_at, nI]
  · simp [nB, Sv, mset_at] at hj
  · simp [Sv, mset_at]
  · simp [nB, Sv, mset_at] at hj
theorem op_put (a b : Int32) : opI gRel (f_X9_put a b) (f_X10_put a b) := by
  intro M hR
  cases h1 : inR a 0 1 with
  | false => exact ⟨-2, rfX 0 M, rfM 0 (rfX 0 M), by simp only [f_X9_put, ev_isIn, cp_s, if_bI, h1, cond, f_X9_put_19, ev_rbad, cl_s], by simp only [f_X10_put, ev_between, cp_s, if_bI, h1, cond, f_X10_put_19, ev_bad, cl_s], gRel_rf hR⟩
  | true =>
  cases h2 : inR b 0 9 with
  | false => exact ⟨-2, rfX 0 M, rfM 0 (rfX 0 M), by simp only [f_X9_put, ev_isIn, cp_s, if_bI, h1, h2, cond, f_X9_put_19, ev_rbad, cl_s], by simp only [f_X10_put, ev_between, cp_s, if_bI, h1, h2, cond, f_X10_put_19, ev_bad, cl_s], gRel_rf hR⟩
  | true =>
  obtain ⟨⟨⟨i1, i2, i3, i4, i5⟩, m1, m2, m3, m4, m5⟩, -⟩ := id hR
  have hb : U 10 b := (inR_lit (m := 9) (by decide)).mp h2
  obtain ⟨k, hk, rfl⟩ := (inR_lit (m := 1) (by decide)).mp h1
  obtain ⟨a1, a2, a3, a4, a5, a6⟩ := i1
  obtain ⟨b1, b2, b3, b4, b5⟩ := m1
  match k, hk with
  | 0, _ =>
    refine ⟨M.1 6 1, mset M 6 1 b, mset (mset M 6 1 b) 118 10 b, by simp only [f_X9_put, ev_isIn, cp_s, if_bI, h1, h2, cond, f_X9_put_53]; rfl, ?_, gRel_T hR ((Mn.rf.set (by omega)).set (by decide)) (fun c _ _ => by rw [mset_ne (by omega), mset_ne (by omega)]) (fun c _ _ _ _ _ => by rw [mset_ne (by omega), mset_ne (by omega)]) (fun j hj => by simp [mset_at]; omega) ?_ ?_ ?_ ?_⟩
    · simp only [f_X10_put, ev_between, cp_s, if_bI, h1, h2, cond]
      show rd 36 _ (nI 10) _ = _
      rw [rd_n (by omega)]
      show ck 36 (nI 10) _ = _
      rw [ck_n (by omega)]
      have : M.1 118 10 = M.1 6 1 := b4
      rw [mset_ne (by omega), this]; rfl
    · exact ⟨by simpa [Sv, mset_at] using a1, by simpa [Sv, mset_at] using a2, by simpa [Sv, mset_at, nT] using a3, by simpa [Sv, mset_at, nT, nW] using a4, by simpa [Sv, mset_at] using hb, by simpa [Sv, mset_at] using a6⟩
    · exact ⟨by simpa [Sv, mset_at] using b1, by simpa [Sv, mset_at, nT] using b2, by simpa [Sv, mset_at, nT, nW] using b3, by simp [Sv, mset_at], by simpa [Sv, mset_at] using b5⟩
    · exact IvQ_cong (by simp [Sv, mset_at]) (by funext i; simp [Sv, mset_at]) (fun k h1 h2 => by show (mset _ _ _ _).1 (5 + k) = _; rw [mset_ne (by omega), mset_ne (by omega)]; rfl) i5
    · exact RmQ_cong (by simp [Sv, mset_at]) (by funext i; simp [Sv, mset_at]) (fun k h1 h2 => by show (mset _ _ _ _).1 (5 + k) = _; rw [mset_ne (by omega), mset_ne (by omega)]; rfl) (by simp [mset_at]) (fun j _ _ => by simp [mset_at]) i5 m5
  | 1, _ =>
    refine ⟨M.1 6 2, mset M 6 2 b, mset (mset M 6 2 b) 118 11 b, by simp only [f_X9_put, ev_isIn, cp_s, if_bI, h1, h2, cond, f_X9_put_53]; rfl, ?_, gRel_T hR ((Mn.rf.set (by omega)).set (by decide)) (fun c _ _ => by rw [mset_ne (by omega), mset_ne (by omega)]) (fun c _ _ _ _ _ => by rw [mset_ne (by omega), mset_ne (by omega)]) (fun j hj => by simp [mset_at]; omega) ?_ ?_ ?_ ?_⟩
    · simp only [f_X10_put, ev_between, cp_s, if_bI, h1, h2, cond]
      show rd 36 _ (nI 11) _ = _
      rw [rd_n (by omega)]
      show ck 36 (nI 11) _ = _
      rw [ck_n (by omega)]
      have : M.1 118 11 = M.1 6 2 := b5
      rw [mset_ne (by omega), this]; rfl
    · exact ⟨by simpa [Sv, mset_at] using a1, by simpa [Sv, mset_at] using a2, by simpa [Sv, mset_at, nT] using a3, by simpa [Sv, mset_at, nT, nW] using a4, by simpa [Sv, mset_at] using a5, by simpa [Sv, mset_at] using hb⟩
    · exact ⟨by simpa [Sv, mset_at] using b1, by simpa [Sv, mset_at, nT] using b2, by simpa [Sv, mset_at, nT, nW] using b3, by simpa [Sv, mset_at] using b4, by simp [Sv, mset_at]⟩
    · exact IvQ_cong (by simp [Sv, mset_at]) (by funext i; simp [Sv, mset_at]) (fun k h1 h2 => by show (mset _ _ _ _).1 (5 + k) = _; rw [mset_ne (by omega), mset_ne (by omega)]; rfl) i5
    · exact RmQ_cong (by simp [Sv, mset_at]) (by funext i; simp [Sv, mset_at]) (fun k h1 h2 => by show (mset _ _ _ _).1 (5 + k) = _; rw [mset_ne (by omega), mset_ne (by omega)]; rfl) (by simp [mset_at]) (fun j _ _ => by simp [mset_at]) i5 m5
  | k + 2, h => omega
